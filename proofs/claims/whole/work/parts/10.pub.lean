/-! ===== the loops of the public methods ===== -/
theorem bn_P2 {P i : Nat} (hP : P < 64) (hi : i < 6) : P ||| 2 ^ i < 64 := Nat.or_lt_two_pow (n := 6) hP (Nat.pow_lt_pow_right (by omega) hi)
theorem bn_o1 {P i : Nat} : (P ||| 2 ^ i).testBit i = true := by
  rw [Nat.testBit_or, Nat.testBit_two_pow_self, Bool.or_true]
theorem bn_o2 {P i j : Nat} (h : j ≠ i) : (P ||| 2 ^ i).testBit j = P.testBit j := by
  rw [Nat.testBit_or, Nat.testBit_two_pow_of_ne (Ne.symm h), Bool.or_false]
theorem bn_r1 {P i : Nat} (hi : i < 6) : (P &&& (65535 ^^^ 2 ^ i)).testBit i = false := by
  rw [Nat.testBit_and, bb_nt _ (by omega), Nat.testBit_two_pow_self]
  cases P.testBit i <;> rfl
theorem bn_r2 {P i j : Nat} (hj : j < 6) (h : j ≠ i) : (P &&& (65535 ^^^ 2 ^ i)).testBit j = P.testBit j := by
  rw [Nat.testBit_and, bb_nt _ (by omega), Nat.testBit_two_pow_of_ne (Ne.symm h)]
  cases P.testBit j <;> rfl
/-- add, X: generator i is the least free one -/
theorem xb_al {post : Int32 → SX → Prop} {P : Nat} {g : Nat → Nat} (hP : P < 64) (zs : Int32) {ag : Nat → Int32} (ar : Nat → Int32) (hg : ∀ i, i < 6 → P.testBit i = true → ag i = nI (g i)) {f : Nat} (h1 : ∀ i, i < 6 → P.testBit i = false → (∀ j, j < i → P.testBit j = true) → ∀ ar' R', bn_A ar' R' → bb_B (bb_V (bb_Z (P ||| 2 ^ i) (bb_up g i f) 6)) R' → bb_Q R' 16 → post (nI i) (nI (P ||| 2 ^ i), nI (bb_Z (P ||| 2 ^ i) (bb_up g i f) 6), upd ag i (nI f), ar')) (h0 : (∀ j, j < 6 → P.testBit j = true) → post (-2) (nI P, zs, ag, ar)) : ∀ d i, i + d = 6 → (∀ j, j < i → P.testBit j = true) → wX_add_11 post (nI f) (nI P) zs ag ar (d + 1) (nI i) := by
  intro d
  induction d with
  | zero =>
    intro i hi h
    have e : i = 6 := by omega
    subst e
    exact pk_le 6 6 (fun _ => h0 h) (fun l => absurd l (by omega))
  | succ d ih =>
    intro i hi h
    have h6 : i < 6 := by omega
    refine pk_le 6 i (fun l => absurd l (by omega)) (fun _ => ?_)
    refine xa_ig hP zs ag ar (fun c => ⟨vp_in_nI h6 (by omega), ?_⟩) (fun j hj c e => ?_)
    · have hb : P.testBit i = false := by
        cases y : P.testBit i
        · rfl
        · exact absurd ⟨i, h6, y, rfl⟩ c
      rw [nI_clamp (by omega), bn_pow (by omega), bn_or]
      refine nm_e (nm_e (xa_wo (g := bb_up g i f) (Nat.lt_trans (bn_P2 hP h6) (by decide)) ?_ (fun ar' R' hA B q => h1 i h6 hb h ar' R' hA B q)))
      intro j hj c2
      by_cases e : j = i
      · subst e
        rw [pk_us, bb_ups]
      · rw [pk_un e, bb_upn _ _ e]
        rw [bn_o2 e] at c2
        exact hg j hj c2
    · rw [nI_eq (by omega) (by omega)] at e
      subst e
      exact nm_r (nI_1 i) (ih (i + 1) (by omega) (lt_s h c))
/-- add, Y -/
theorem yb_a1 {post : Int32 → SY → Prop} {P : Nat} {th : Nat → Int32} (ge he ot : Nat → Int32) (ht : ∀ i, i < 6 → th i = nI (P.testBit i).toNat) {f i : Nat} (h6 : i < 6) (hb : P.testBit i = false) (hl : ∀ j, j < i → P.testBit j = true) (hp : post (nI i) (upd th i 1, upd ge i (nI f), he, ot)) : ∀ d j, j + d = i → wY_add_12 post (nI f) th ge he ot (d + 1) (nI j) := by
  intro d
  induction d with
  | zero =>
    intro j hj
    have e : j = i := by omega
    subst e
    refine pk_le 6 j (fun l => absurd l (by omega)) (fun _ => ⟨vp_in_nI h6 (by omega), ?_⟩)
    rw [nI_clamp (by omega), ht j h6, hb, bn_bT]
    exact br_t rfl ⟨vp_in_nI h6 (by omega), nm_e ⟨vp_in_nI h6 (by omega), nm_e hp⟩⟩
  | succ d ih =>
    intro j hj
    refine pk_le 6 j (fun l => absurd l (by omega)) (fun _ => ⟨vp_in_nI (by omega) (by omega), ?_⟩)
    rw [nI_clamp (by omega), ht j (by omega), hl j (by omega)]
    exact br_f (by decide) (nm_r (nI_1 j) (ih (j + 1) (by omega)))
theorem yb_a0 {post : Int32 → SY → Prop} {P : Nat} {th : Nat → Int32} (ge he ot : Nat → Int32) (ht : ∀ i, i < 6 → th i = nI (P.testBit i).toNat) {x : Int32} (hl : ∀ j, j < 6 → P.testBit j = true) (hp : post (-2) (th, ge, he, ot)) : ∀ d j, j + d = 6 → wY_add_12 post x th ge he ot (d + 1) (nI j) := by
  intro d
  induction d with
  | zero =>
    intro j hj
    have e : j = 6 := by omega
    subst e
    exact pk_le 6 6 (fun _ => hp) (fun l => absurd l (by omega))
  | succ d ih =>
    intro j hj
    refine pk_le 6 j (fun l => absurd l (by omega)) (fun _ => ⟨vp_in_nI (by omega) (by omega), ?_⟩)
    rw [nI_clamp (by omega), ht j (by omega), hl j (by omega)]
    exact br_f (by decide) (nm_r (nI_1 j) (ih (j + 1) (by omega)))
theorem yb_g {post : Int32 → Prop} {P : Nat} (hP : P < 64) {th : Nat → Int32} (ge he ot : Nat → Int32) (ht : ∀ i, i < 6 → th i = nI (P.testBit i).toNat) (hp : post (nI P)) : ∀ d i, i + d = 6 → wY_generators_4 post th ge he ot (d + 1) (nI (P % 2 ^ i)) (nI i) := by
  intro d
  induction d with
  | zero =>
    intro i hi
    have e : i = 6 := by omega
    subst e
    rw [show P % 2 ^ 6 = P from Nat.mod_eq_of_lt hP]
    exact pk_le 6 6 (fun _ => hp) (fun l => absurd l (by omega))
  | succ d ih =>
    intro i hi
    have z := ih (i + 1) (by omega)
    refine pk_le 6 i (fun l => absurd l (by omega)) (fun _ => ⟨vp_in_nI (by omega) (by omega), ?_⟩)
    rw [nI_clamp (by omega), ht i (by omega)]
    refine bn_fl _ (fun c => ?_) (fun c => ?_)
    · rw [← bb_mo2 c] at z
      exact nm_r (nI_1 i) z
    · refine nm_r ?_ (nm_r (nI_1 i) z)
      rw [bn_pow (by omega), bn_or, bb_mo1 c]
theorem xb_bs {post : Int32 → Prop} {R : Nat → Nat} {U : Nat → Bool} (hU : ∀ j, j < 16 → (R j = 0 ↔ U j = false)) (hR : ∀ j, j < 16 → R j < 65536) (pr zs : Int32) (ag : Nat → Int32) {ar : Nat → Int32} (hA : bn_A ar R) (hp : post (nI (bb_bs U 16))) : ∀ d m, m + d = 16 → wX_basisSize_4 post pr zs ag ar (d + 1) (nI (bb_bs U m)) (nI m) := by
  intro d
  induction d with
  | zero =>
    intro m hm
    have e : m = 16 := by omega
    subst e
    exact pk_le 16 16 (fun _ => hp) (fun l => absurd l (by omega))
  | succ d ih =>
    intro m hm
    have z := ih (m + 1) (by omega)
    refine pk_le 16 m (fun l => absurd l (by omega)) (fun _ => ?_)
    refine xa_bh hU hR pr zs ag hA (by omega) (fun c => ?_) (fun c => ?_)
    · rw [bb_bs2 c] at z
      exact nm_r (nI_1 m) z
    · rw [bb_bs1 c] at z
      exact nm_r (nI_1 _) (nm_r (nI_1 m) z)
theorem yb_bs {post : Int32 → SY → Prop} {R : Nat → Nat} {U : Nat → Bool} (hU : ∀ j, j < 16 → (R j = 0 ↔ U j = false)) (hR : ∀ j, j < 16 → R j < 65536) (th ge : Nat → Int32) {he : Nat → Int32} (ot : Nat → Int32) (hA : bn_A he R) (hp : post (nI (bb_bs U 16)) (th, ge, he, ot)) : ∀ d m, m + d = 16 → wY_basisSize_9 post th ge he ot (d + 1) (nI (bb_bs U m)) (nI m) := by
  intro d
  induction d with
  | zero =>
    intro m hm
    have e : m = 16 := by omega
    subst e
    exact pk_le 16 16 (fun _ => hp) (fun l => absurd l (by omega))
  | succ d ih =>
    intro m hm
    have z := ih (m + 1) (by omega)
    refine pk_le 16 m (fun l => absurd l (by omega)) (fun _ => ?_)
    refine ya_l hU hR th ge ot hA (by omega) (fun c => ?_) (fun c => ?_)
    · rw [bb_bs2 c] at z
      exact nm_r (nI_1 m) z
    · rw [bb_bs1 c] at z
      exact nm_r (nI_1 _) (nm_r (nI_1 m) z)
theorem xb_ba {post : Int32 → Prop} {R : Nat → Nat} {U : Nat → Bool} (hU : ∀ j, j < 16 → (R j = 0 ↔ U j = false)) (hR : ∀ j, j < 16 → R j < 65536) (pr zs : Int32) (ag : Nat → Int32) {ar : Nat → Int32} (hA : bn_A ar R) (x : Int32) : ∀ d m c, m + d = 16 → post (bb_ba U (fun j => nI (R j)) x d m c) → wX_basisAt_4 post x pr zs ag ar (d + 1) (nI c) (nI m) := by
  intro d
  induction d with
  | zero =>
    intro m c hm hp
    have e : m = 16 := by omega
    subst e
    exact pk_le 16 16 (fun _ => hp) (fun l => absurd l (by omega))
  | succ d ih =>
    intro m c hm hp
    refine pk_le 16 m (fun l => absurd l (by omega)) (fun _ => ?_)
    refine xa_bh hU hR pr zs ag hA (by omega) (fun h => ?_) (fun h => ?_)
    · rw [bb_ba3 h] at hp
      exact nm_r (nI_1 m) (ih (m + 1) c (by omega) hp)
    · refine br_c (fun e => ⟨vp_in_nI (by omega) (by omega), ?_⟩) (fun e => ?_)
      · rw [bb_ba1 h e] at hp
        rw [bn_Ag hA (by omega)]
        exact hp
      · rw [bb_ba2 h e] at hp
        exact nm_r (nI_1 c) (nm_r (nI_1 m) (ih (m + 1) (c + 1) (by omega) hp))
theorem yb_ba {post : Int32 → SY → Prop} {R : Nat → Nat} {U : Nat → Bool} {A : Nat → Int32} (hU : ∀ j, j < 16 → (R j = 0 ↔ U j = false)) (hR : ∀ j, j < 16 → R j < 65536) (hat : ∀ m, m < 16 → U m = true → nI (2 ^ m ^^^ bb_rd R 16 (2 ^ m)) = A m) (th ge : Nat → Int32) {he : Nat → Int32} (ot : Nat → Int32) (hA : bn_A he R) (x : Int32) : ∀ d m c, m + d = 16 → post (bb_ba U A x d m c) (th, ge, he, ot) → wY_basisAt_9 post x th ge he ot (d + 1) (nI c) (nI m) := by
  intro d
  induction d with
  | zero =>
    intro m c hm hp
    have e : m = 16 := by omega
    subst e
    exact pk_le 16 16 (fun _ => hp) (fun l => absurd l (by omega))
  | succ d ih =>
    intro m c hm hp
    have h16 : m < 16 := by omega
    refine pk_le 16 m (fun l => absurd l (by omega)) (fun _ => ?_)
    refine ya_l hU hR th ge ot hA h16 (fun h => ?_) (fun h => ?_)
    · rw [bb_ba3 h] at hp
      exact nm_r (nI_1 m) (ih (m + 1) c (by omega) hp)
    · refine br_c (fun e => ?_) (fun e => ?_)
      · rw [bb_ba1 h e] at hp
        rw [bn_pow (by omega)]
        refine ya_rd hA hR (bb_p16 h16) ?_
        have um : U m = true := by
          cases y : U m
          · rw [bb_Lf1 y] at h
            exact absurd h (by decide)
          · rfl
        rw [← hat m h16 um, ← nx_xor] at hp
        exact hp
      · rw [bb_ba2 h e] at hp
        exact nm_r (nI_1 c) (nm_r (nI_1 m) (ih (m + 1) (c + 1) (by omega) hp))
theorem xb_bu {post : Int32 → Prop} {R : Nat → Nat} {U : Nat → Bool} (hU : ∀ j, j < 16 → (R j = 0 ↔ U j = false)) (hR : ∀ j, j < 16 → R j < 65536) (pr zs : Int32) (ag : Nat → Int32) {ar : Nat → Int32} (hA : bn_A ar R) (hp : post (nI (bb_bu U 16))) : ∀ d m, m + d = 16 → wX_bound_4 post pr zs ag ar (d + 1) (nI (bb_bu U m)) (nI m) := by
  intro d
  induction d with
  | zero =>
    intro m hm
    have e : m = 16 := by omega
    subst e
    exact pk_le 16 16 (fun _ => hp) (fun l => absurd l (by omega))
  | succ d ih =>
    intro m hm
    have h16 : m < 16 := by omega
    have z := ih (m + 1) (by omega)
    refine pk_le 16 m (fun l => absurd l (by omega)) (fun _ => ⟨vp_in_nI (by omega) (by omega), ?_⟩)
    rw [bn_Ag hA h16]
    refine bn_z (hR m h16) (fun c => ?_) (fun c => ?_)
    · rw [bb_bu2 ((hU m h16).mp c)] at z
      exact nm_r (nI_1 m) z
    · have u : U m = true := by
        cases y : U m
        · exact absurd ((hU m h16).mpr y) c
        · rfl
      refine nm_r ?_ (nm_r (nI_1 m) z)
      rw [bn_pow (by omega), bn_or, bb_bu1 u]
theorem yb_bu {post : Int32 → SY → Prop} {R : Nat → Nat} {U : Nat → Bool} (hU : ∀ j, j < 16 → (R j = 0 ↔ U j = false)) (hR : ∀ j, j < 16 → R j < 65536) (th ge : Nat → Int32) {he : Nat → Int32} (ot : Nat → Int32) (hA : bn_A he R) (hp : post (nI (bb_bu U 16)) (th, ge, he, ot)) : ∀ d m, m + d = 16 → wY_bound_9 post th ge he ot (d + 1) (nI (bb_bu U m)) (nI m) := by
  intro d
  induction d with
  | zero =>
    intro m hm
    have e : m = 16 := by omega
    subst e
    exact pk_le 16 16 (fun _ => hp) (fun l => absurd l (by omega))
  | succ d ih =>
    intro m hm
    have h16 : m < 16 := by omega
    have z := ih (m + 1) (by omega)
    refine pk_le 16 m (fun l => absurd l (by omega)) (fun _ => ⟨vp_in_nI (by omega) (by omega), ?_⟩)
    rw [bn_Ag hA h16]
    refine bn_z (hR m h16) (fun c => ?_) (fun c => ?_)
    · rw [bb_bu2 ((hU m h16).mp c)] at z
      exact nm_r (nI_1 m) z
    · have u : U m = true := by
        cases y : U m
        · exact absurd ((hU m h16).mpr y) c
        · rfl
      refine nm_r ?_ (nm_r (nI_1 m) z)
      rw [bn_pow (by omega), bn_or, bb_bu1 u]
theorem xb_ct {post : Int32 → Prop} {Z : Nat} (hZ : Z < 65536) (hp : post (nI (bb_ct Z 16))) : ∀ d m, m + d = 16 → wX_countOf_4 post (nI Z) (d + 1) (nI (bb_ct Z m)) (nI m) := by
  intro d
  induction d with
  | zero =>
    intro m hm
    have e : m = 16 := by omega
    subst e
    exact pk_le 16 16 (fun _ => hp) (fun l => absurd l (by omega))
  | succ d ih =>
    intro m hm
    have z := ih (m + 1) (by omega)
    refine pk_le 16 m (fun l => absurd l (by omega)) (fun _ => ?_)
    refine xa_in (by omega) (by omega) (fun c => ?_) (fun c => ?_)
    · rw [bb_ct2 c] at z
      exact nm_r (nI_1 m) z
    · rw [bb_ct1 c] at z
      exact nm_r (nI_1 _) (nm_r (nI_1 m) z)
theorem yb_ct {post : Int32 → Prop} (th ge he ot : Nat → Int32) {Z : Nat} (hZ : Z < 65536) (hp : post (nI (bb_ct Z 16))) : ∀ d m, m + d = 16 → wY_zeroCount_9 post (nI Z) th ge he ot (d + 1) (nI (bb_ct Z m)) (nI m) := by
  intro d
  induction d with
  | zero =>
    intro m hm
    have e : m = 16 := by omega
    subst e
    exact pk_le 16 16 (fun _ => hp) (fun l => absurd l (by omega))
  | succ d ih =>
    intro m hm
    refine pk_le 16 m (fun l => absurd l (by omega)) (fun _ => nm_r ?_ (nm_r (nI_1 m) (ih (m + 1) (by omega))))
    rw [bn_sh (by omega) (by omega), nI_add]
    rfl
theorem bn_s1 {i p : Nat} (hi : i < 4) (hp : p < 16) : (1 : Int32) <<< (((nI p >>> (nI i &&& 31)) &&& 1) &&& 31) = nI (2 ^ (p / 2 ^ i % 2)) := by
  have l : p / 2 ^ i % 2 < 2 := Nat.mod_lt _ (by omega)
  rw [bn_sh (by omega) (by omega), bn_pow (by omega)]
theorem xb_sv {post : Int32 → Prop} {Z : Nat} (hZ : Z < 65536) (pr : Int32) (ag ar : Nat → Int32) {i : Nat} (hi : i < 4) (hp : post (nI (bb_sv Z i 16))) : ∀ d m, m + d = 16 → wX_values_15 post (nI i) pr (nI Z) ag ar (d + 1) (nI (bb_sv Z i m)) (nI m) := by
  intro d
  induction d with
  | zero =>
    intro m hm
    have e : m = 16 := by omega
    subst e
    exact pk_le 16 16 (fun _ => hp) (fun l => absurd l (by omega))
  | succ d ih =>
    intro m hm
    have z := ih (m + 1) (by omega)
    refine pk_le 16 m (fun l => absurd l (by omega)) (fun _ => ?_)
    refine xa_in (by omega) (by omega) (fun c => ?_) (fun c => ?_)
    · rw [bb_sv2 i c] at z
      exact nm_r (nI_1 m) z
    · refine nm_r ?_ (nm_r (nI_1 m) z)
      rw [bn_s1 hi (by omega), bn_or, bb_sv1 i c]
theorem yb_sv {post : Int32 → Prop} {Z : Nat} (hZ : Z < 65536) (th ge he ot : Nat → Int32) {i : Nat} (hi : i < 4) (hp : post (nI (bb_sv Z i 16))) : ∀ d m, m + d = 16 → wY_values_10 post (nI i) (nI Z) th ge he ot (d + 1) (nI (bb_sv Z i m)) (nI m) := by
  intro d
  induction d with
  | zero =>
    intro m hm
    have e : m = 16 := by omega
    subst e
    exact pk_le 16 16 (fun _ => hp) (fun l => absurd l (by omega))
  | succ d ih =>
    intro m hm
    have z := ih (m + 1) (by omega)
    refine pk_le 16 m (fun l => absurd l (by omega)) (fun _ => br_f (nI_pos (by omega)) (br_f (nI_nlt (a := 3) (b := i) (by omega) (by omega)) ?_))
    refine bn_b1 (by omega) (by omega) (fun c => ?_) (fun c => ?_)
    · refine nm_r ?_ (nm_r (nI_1 m) z)
      rw [bn_s1 hi (by omega), bn_or, bb_sv1 i c]
    · rw [bb_sv2 i c] at z
      exact nm_r (nI_1 m) z
theorem xb_re {post : Int32 → Prop} {Z : Nat} (hZ : Z < 65536) (pr : Int32) (ag ar : Nat → Int32) {v : Nat} (hv : v < 16) (h0 : bb_oc Z v 16 = bb_po v 16 → post 0) (h1 : bb_oc Z v 16 ≠ bb_po v 16 → post 1) : ∀ d m, m + d = 16 → wX_relates_19 post (nI v) pr (nI Z) ag ar (d + 1) (nI (bb_po v m)) (nI (bb_oc Z v m)) (nI m) := by
  intro d
  induction d with
  | zero =>
    intro m hm
    have e : m = 16 := by omega
    subst e
    have a := bb_ocb Z hv 16
    have b := bb_pob hv 16
    refine pk_le 16 16 (fun _ => ?_) (fun l => absurd l (by omega))
    rw [nI_eq (by omega) (by omega)]
    exact ⟨h0, h1⟩
  | succ d ih =>
    intro m hm
    have z := ih (m + 1) (by omega)
    have l : m &&& v < 16 := Nat.lt_of_le_of_lt Nat.and_le_right hv
    have e : nI (bb_po v m) ||| nI (2 ^ (m &&& v)) = nI (bb_po v (m + 1)) := bn_or _ _
    refine pk_le 16 m (fun l => absurd l (by omega)) (fun _ => ?_)
    rw [nx_and]
    refine nm_r (bn_pow (by omega)) (nm_r e ?_)
    refine xa_in (by omega) (by omega) (fun c => ?_) (fun c => ?_)
    · rw [bb_oc2 v c] at z
      exact nm_r (nI_1 m) z
    · refine nm_r ?_ (nm_r (nI_1 m) z)
      rw [bn_or, bb_oc1 v c]
