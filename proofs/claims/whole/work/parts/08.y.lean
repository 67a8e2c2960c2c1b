/-! ===== Y: one lemma a private method ===== -/
theorem ya_pp {post : Int32 → Prop} {u : SY} {f : Nat} (hf : f < 65536) (h : post 1) : wpY_polynomial post u (nI f) :=
  br_f (nI_pos (by omega)) (br_f (nI_nlt (a := 65535) (b := f) (by omega) (by omega)) h)
theorem ya_np {post : Int32 → Prop} {u : SY} {x : Int32} (c : ¬ bn_P x) (h : post 0) : wpY_polynomial post u x := by
  by_cases z : x < 0
  · exact br_t z h
  · exact br_f z (br_t (bn_np c z) h)
theorem ya_or : ∀ m, m < 16 → ∀ n, n < 16 → m ||| n < 16 := by decide +kernel
theorem ya_pdi {post : Int32 → Prop} {J : Int32 → Int32 → Prop} (th ge he ot : Nat → Int32) {f g m : Nat} (hf : f < 65536) (hg : g < 65536) (hm : m < 16) (hJ : J (nI (bb_P (f % 2 ^ (m + 1)) g)) (nI (m + 1))) : ∀ d n, n + d = 16 → wY_product_33 post J (nI f) (nI g) (nI m) th ge he ot (d + 1) (nI (bb_ps f g m n)) (nI n) := by
  intro d
  induction d with
  | zero =>
    intro n hn
    have e : n = 16 := by omega
    subst e
    refine pk_le 16 16 (fun _ => nm_r (nI_1 m) ?_) (fun l => absurd l (by omega))
    rw [bb_pse hg]
    exact hJ
  | succ d ih =>
    intro n hn
    have h16 : n < 16 := by omega
    have z := ih (n + 1) (by omega)
    refine pk_le 16 n (fun l => absurd l (by omega)) (fun _ => ?_)
    refine bn_b1 (by omega) (by omega) (fun a => bn_b1 (by omega) (by omega) (fun b => ?_) (fun b => ?_)) (fun a => ?_)
    · refine br_f (by decide) (nm_r ?_ (nm_r (nI_1 n) z))
      have l := ya_or m hm n h16
      rw [bn_or, bn_pow (by omega), nx_xor, bb_ps1 hm h16 a b]
    · rw [bb_ps3 b] at z
      exact br_t rfl (nm_r (nI_1 n) z)
    · rw [bb_ps2 a] at z
      exact br_t rfl (nm_r (nI_1 n) z)
theorem ya_pdo {post : Int32 → Prop} (th ge he ot : Nat → Int32) {f g : Nat} (hf : f < 65536) (hg : g < 65536) (hp : post (nI (bb_P f g))) : ∀ d m, m + d = 16 → wY_product_23 post (nI f) (nI g) th ge he ot (d + 1) (nI (bb_P (f % 2 ^ m) g)) (nI m) := by
  intro d
  induction d with
  | zero =>
    intro m hm
    have e : m = 16 := by omega
    subst e
    rw [bb_md16 hf]
    exact pk_le 16 16 (fun _ => hp) (fun l => absurd l (by omega))
  | succ d ih =>
    intro m hm
    refine pk_le 16 m (fun l => absurd l (by omega)) (fun _ => ⟨17, ?_⟩)
    have z := ya_pdi (post := post) (J := wY_product_23 post (nI f) (nI g) th ge he ot (d + 1)) th ge he ot hf hg (show m < 16 by omega) (ih (m + 1) (by omega)) 16 0 rfl
    rw [bb_ps0] at z
    exact z
theorem ya_pd {post : Int32 → Prop} {th ge he ot : Nat → Int32} {f g : Nat} (hf : f < 65536) (hg : g < 65536) (hp : post (nI (bb_P f g))) : wpY_product post (th, ge, he, ot) (nI f) (nI g) := by
  unfold wpY_product
  try dsimp only
  refine ya_pp hf (br_f (by decide) (ya_pp hg (br_f (by decide) ⟨17, ?_⟩)))
  have z := ya_pdo th ge he ot hf hg hp 16 0 rfl
  rw [bb_psz] at z
  exact z
theorem ya_vl {post : Int32 → Prop} (th ge he ot : Nat → Int32) {f p : Nat} (hf : f < 65536) (h16 : p < 16) (hp : post (nI (bb_T f / 2 ^ p % 2))) : ∀ d m, m + d = 16 → wY_value_25 post (nI f) (nI p) th ge he ot (d + 1) (nI (bb_vs f p m)) (nI m) := by
  intro d
  induction d with
  | zero =>
    intro m hm
    have e : m = 16 := by omega
    subst e
    rw [bb_vse hf]
    exact pk_le 16 16 (fun _ => hp) (fun l => absurd l (by omega))
  | succ d ih =>
    intro m hm
    have hm16 : m < 16 := by omega
    have z := ih (m + 1) (by omega)
    refine pk_le 16 m (fun l => absurd l (by omega)) (fun _ => ?_)
    rw [bn_sub m hm16 p h16]
    by_cases c : m &&& p = m
    · refine br_t c (nm_r ?_ (nm_r (nI_1 m) z))
      rw [bn_sh (by omega) (by omega), nx_xor, bb_vs1 hm16 h16 c]
    · rw [bb_vs2 hm16 h16 c] at z
      exact br_f c (nm_r (nI_1 m) z)
theorem ya_vb {post : Int32 → Prop} (th ge he ot : Nat → Int32) {f p : Nat} (hf : f < 65536) (h16 : p < 16) (hp : post (nI (bb_T f / 2 ^ p % 2))) : ∃ n, wY_value_25 post (nI f) (nI p) th ge he ot n 0 0 := by
  have z := ya_vl th ge he ot hf h16 hp 16 0 rfl
  rw [bb_vs0] at z
  exact ⟨17, z⟩
theorem ya_v {post : Int32 → Prop} {th ge he ot : Nat → Int32} {f p : Nat} (hf : f < 65536) (h16 : p < 16) (hp : post (nI (bb_T f / 2 ^ p % 2))) : wpY_value post (th, ge, he, ot) (nI f) (nI p) := by
  unfold wpY_value
  try dsimp only
  refine ya_pp hf (br_f (by decide) (br_f (nI_pos (by omega)) ?_))
  exact pk_le p 15 (fun _ => ya_vb th ge he ot hf h16 hp) (fun l => absurd l (by omega))
theorem ya_rdl {post : Int32 → Prop} {R : Nat → Nat} (th ge : Nat → Int32) {he : Nat → Int32} (ot : Nat → Int32) (hA : bn_A he R) (hR : ∀ j, j < 16 → R j < 65536) : ∀ d f, d ≤ 16 → f < 65536 → post (nI (bb_rd R d f)) → wY_reduce_5 post th ge he ot (d + 1) (nI f) (bn_dn d) := by
  intro d
  induction d with
  | zero =>
    intro f _ _ hp
    exact br_t bn_dn0 hp
  | succ d ih =>
    intro f hd hf hp
    show wY_reduce_5 post th ge he ot (d + 1 + 1) (nI f) (nI d)
    refine br_f (nI_pos (by omega)) (bn_b1 (by omega) (by omega) (fun c => ⟨vp_in_nI (by omega) (by omega), ?_⟩) (fun c => ?_))
    · rw [bb_rds, if_pos c] at hp
      rw [bn_Ag hA (by omega)]
      refine bn_z (hR d (by omega)) (fun z => ?_) (fun z => ⟨vp_in_nI (by omega) (by omega), ?_⟩)
      · rw [z, Nat.xor_zero] at hp
        exact nm_r (bn_dns d) (ih f (by omega) hf hp)
      · rw [nx_xor]
        exact nm_e (nm_r (bn_dns d) (ih _ (by omega) (bb_xlt hf (hR d (by omega))) hp))
    · refine nm_r (bn_dns d) (ih f (by omega) hf ?_)
      rw [bb_rds, if_neg (by rw [c]; decide)] at hp
      exact hp
theorem ya_rd {post : Int32 → Prop} {R : Nat → Nat} {th ge he ot : Nat → Int32} (hA : bn_A he R) (hR : ∀ j, j < 16 → R j < 65536) {f : Nat} (hf : f < 65536) (hp : post (nI (bb_rd R 16 f))) : wpY_reduce post (th, ge, he, ot) (nI f) :=
  ⟨17, ya_rdl th ge ot hA hR 16 f (by omega) hf hp⟩
theorem ya_kl {post : SY → Prop} (th ge he ot : Nat → Int32) {r : Nat} (hr : r < 65536) (h0 : r = 0 → post (th, ge, he, ot)) (h1 : ∀ h, h < 16 → bb_H r h → post (th, ge, upd he (nI h).toNatClampNeg (nI r), ot)) : ∀ d, d ≤ 16 → r < 2 ^ d → wY_keep_9 post (nI r) th ge he ot (d + 1) (bn_dn d) := by
  intro d
  induction d with
  | zero =>
    intro _ l
    rw [Nat.pow_zero] at l
    exact br_t bn_dn0 (h0 (by omega))
  | succ d ih =>
    intro hd l
    show wY_keep_9 post (nI r) th ge he ot (d + 1 + 1) (nI d)
    refine br_f (nI_pos (by omega)) (bn_b1 (by omega) (by omega) (fun c => ?_) (fun c => ?_))
    · exact ⟨vp_in_nI (by omega) (by omega), nm_e (h1 d (by omega) ⟨c, l⟩)⟩
    · exact nm_r (bn_dns d) (ih (by omega) (bb_cut l (by rw [c]; decide)))
theorem ya_k {post : SY → Prop} {V : Nat → Prop} {R : Nat → Nat} {th ge he ot : Nat → Int32} (hA : bn_A he R) (B : bb_B V R) {x : Nat} (hx : x < 65536) (hp : ∀ he' R', bn_A he' R' → bb_B (bb_add V x) R' → post (th, ge, he', ot)) : wpY_keep post (th, ge, he, ot) (nI x) := by
  unfold wpY_keep
  try dsimp only
  refine ya_rd hA (bb_Rb B) hx ?_
  exact ⟨17, ya_kl th ge he ot (bb_rb B hx) (fun e => hp he R hA (bb_k0 B hx e)) (fun h h16 hH => hp _ _ (bn_Au hA h16 _) (bb_k1 B hx hH)) 16 (by omega) (bb_rb B hx)⟩
/-- the inner loop of work, where generator i counts -/
theorem ya_w1 {post : SY → Prop} {J : Int32 → (Nat → Int32) → (Nat → Int32) → (Nat → Int32) → (Nat → Int32) → Prop} {nv : Int32} {th ge : Nat → Int32} (ot : Nat → Int32) {i Z g : Nat} (hi : i < 6) (ht : ¬ th i = 0) (hn : ¬ nI i = nv) (hg : ge i = nI g) (hb : g < 65536) (hJ : ∀ he' R', bn_A he' R' → bb_B (bb_V (Z &&& (65535 ^^^ bb_T g))) R' → J (nI (i + 1)) th ge he' ot) : ∀ d m (he : Nat → Int32) (R : Nat → Nat), m + d = 16 → bn_A he R → bb_B (bb_VY Z g m) R → wY_work_31 post J nv (nI i) (d + 1) (nI m) th ge he ot := by
  intro d
  induction d with
  | zero =>
    intro m he R hm hA B
    have e : m = 16 := by omega
    subst e
    exact pk_le 16 16 (fun _ => nm_r (nI_1 i) (hJ he R hA (bb_Bc B (bb_VYe Z g)))) (fun l => absurd l (by omega))
  | succ d ih =>
    intro m he R hm hA B
    have h16 : m < 16 := by omega
    refine pk_le 16 m (fun l => absurd l (by omega)) (fun _ => ⟨vp_in_nI (by omega) (by omega), ?_⟩)
    rw [nI_clamp (by omega), hg, bn_pow (by omega)]
    refine br_f ht (br_f hn ⟨vp_in_nI (by omega) (by omega), ?_⟩)
    refine ya_pd hb (bb_p16 h16) ?_
    refine ya_k hA B (bb_Pb (bb_p16 h16)) (fun he' R' hA' B' => ?_)
    exact nm_r (nI_1 m) (ih (m + 1) he' R' (by omega) hA' (bb_Bc B' (bb_VYs Z h16)))
/-- and where it doesn't -/
theorem ya_w0 {post : SY → Prop} {J : Int32 → (Nat → Int32) → (Nat → Int32) → (Nat → Int32) → (Nat → Int32) → Prop} {nv : Int32} {th ge he : Nat → Int32} (ot : Nat → Int32) {i : Nat} (hi : i < 6) (ht : th i = 0 ∨ nI i = nv) (hJ : J (nI (i + 1)) th ge he ot) : ∀ d m, m + d = 16 → wY_work_31 post J nv (nI i) (d + 1) (nI m) th ge he ot := by
  intro d
  induction d with
  | zero =>
    intro m hm
    have e : m = 16 := by omega
    subst e
    exact pk_le 16 16 (fun _ => nm_r (nI_1 i) hJ) (fun l => absurd l (by omega))
  | succ d ih =>
    intro m hm
    have z := ih (m + 1) (by omega)
    refine pk_le 16 m (fun l => absurd l (by omega)) (fun _ => ⟨vp_in_nI (by omega) (by omega), ?_⟩)
    rw [nI_clamp (by omega)]
    by_cases c : th i = 0
    · exact br_t c (nm_r (nI_1 m) z)
    · exact br_f c (br_t (ht.resolve_left c) (nm_r (nI_1 m) z))
theorem ya_wl {post : SY → Prop} {P : Nat} {g : Nat → Nat} {nv : Int32} {th ge : Nat → Int32} (ot : Nat → Int32) (h1 : ∀ i, i < 6 → P.testBit i = true → ¬ th i = 0 ∧ ¬ nI i = nv ∧ ge i = nI (g i) ∧ g i < 65536) (h0 : ∀ i, i < 6 → P.testBit i = false → th i = 0 ∨ nI i = nv) (hp : ∀ he' R', bn_A he' R' → bb_B (bb_V (bb_Z P g 6)) R' → post (th, ge, he', ot)) : ∀ d i (he : Nat → Int32) (R : Nat → Nat), i + d = 6 → bn_A he R → bb_B (bb_V (bb_Z P g i)) R → wY_work_23 post nv (d + 1) (nI i) th ge he ot := by
  intro d
  induction d with
  | zero =>
    intro i he R hi hA B
    have e : i = 6 := by omega
    subst e
    exact pk_le 6 6 (fun _ => hp he R hA B) (fun l => absurd l (by omega))
  | succ d ih =>
    intro i he R hi hA B
    refine pk_le 6 i (fun l => absurd l (by omega)) (fun _ => ⟨17, ?_⟩)
    by_cases c : P.testBit i = true
    · obtain ⟨a1, a2, a3, a4⟩ := h1 i (by omega) c
      refine ya_w1 ot (by omega) a1 a2 a3 a4 (fun he' R' hA' B' => ?_) 16 0 he R rfl hA (bb_Bc B (bb_VY0 _ _))
      rw [← bb_Z1 g c] at B'
      exact ih (i + 1) he' R' (by omega) hA' B'
    · have c' := eq_false_of_ne_true c
      refine ya_w0 ot (by omega) (h0 i (by omega) c') ?_ 16 0 rfl
      rw [← bb_Z2 g c'] at B
      exact ih (i + 1) he R (by omega) hA B
theorem ya_wc {post : SY → Prop} {P : Nat} {g : Nat → Nat} {nv : Int32} {th ge : Nat → Int32} (ot : Nat → Int32) (h1 : ∀ i, i < 6 → P.testBit i = true → ¬ th i = 0 ∧ ¬ nI i = nv ∧ ge i = nI (g i) ∧ g i < 65536) (h0 : ∀ i, i < 6 → P.testBit i = false → th i = 0 ∨ nI i = nv) (hp : ∀ he' R', bn_A he' R' → bb_B (bb_V (bb_Z P g 6)) R' → post (th, ge, he', ot)) : ∀ d i (he : Nat → Int32), i + d = 16 → (∀ j, j < i → he j = 0) → wY_work_2 post nv (d + 1) (nI i) th ge he ot := by
  intro d
  induction d with
  | zero =>
    intro i he hi h
    have e : i = 16 := by omega
    subst e
    refine pk_le 16 16 (fun _ => ⟨7, ?_⟩) (fun l => absurd l (by omega))
    exact ya_wl ot h1 h0 hp 6 0 he (fun _ => 0) rfl (fun j hj => h j hj) (bb_Bc (bb_B0 fun _ _ => rfl) bb_V0)
  | succ d ih =>
    intro i he hi h
    refine pk_le 16 i (fun l => absurd l (by omega)) (fun _ => ⟨vp_in_nI (by omega) (by omega), ?_⟩)
    rw [nI_clamp (by omega)]
    refine nm_e (nm_r (nI_1 i) (ih (i + 1) _ (by omega) ?_))
    intro j hj
    by_cases c : j = i
    · subst c
      exact pk_us
    · rw [pk_un c]
      exact h j (by omega)
theorem ya_w {post : SY → Prop} {P : Nat} {g : Nat → Nat} {nv : Int32} {th ge he ot : Nat → Int32} (h1 : ∀ i, i < 6 → P.testBit i = true → ¬ th i = 0 ∧ ¬ nI i = nv ∧ ge i = nI (g i) ∧ g i < 65536) (h0 : ∀ i, i < 6 → P.testBit i = false → th i = 0 ∨ nI i = nv) (hp : ∀ he' R', bn_A he' R' → bb_B (bb_V (bb_Z P g 6)) R' → post (th, ge, he', ot)) : wpY_work post (th, ge, he, ot) nv :=
  ⟨17, ya_wc ot h1 h0 hp 16 0 he rfl fun j hj => absurd hj (Nat.not_lt_zero j)⟩
/-! ===== least, zeros ===== -/
theorem ya_l0 {post : Int32 → Prop} (th ge he ot : Nat → Int32) (x : Int32) (hp : post 0) : ∀ d n, n + d = 16 → wY_least_17 post x th ge he ot (d + 1) 0 (nI n) := by
  intro d
  induction d with
  | zero =>
    intro n hn
    have e : n = 16 := by omega
    subst e
    exact pk_le 16 16 (fun _ => ⟨rfl, hp⟩) (fun l => absurd l (by omega))
  | succ d ih =>
    intro n hn
    exact pk_le 16 n (fun l => absurd l (by omega)) (fun _ => br_t rfl (nm_r (nI_1 n) (ih (n + 1) (by omega))))
theorem ya_l1 {post : Int32 → Prop} {R : Nat → Nat} {U : Nat → Bool} (hU : ∀ j, j < 16 → (R j = 0 ↔ U j = false)) (hR : ∀ j, j < 16 → R j < 65536) (th ge : Nat → Int32) {he : Nat → Int32} (ot : Nat → Int32) (hA : bn_A he R) {m : Nat} (hm : m < 16) (um : U m = true) (hp : post (nI (bb_L U m).toNat)) : ∀ d n, n + d = 16 → (∀ k, k < n → k < m → k &&& m = k → U k = false) → wY_least_17 post (nI m) th ge he ot (d + 1) 1 (nI n) := by
  intro d
  induction d with
  | zero =>
    intro n hn h
    have e : n = 16 := by omega
    subst e
    rw [bb_Lt um (fun k hk => h k (by omega) hk)] at hp
    exact pk_le 16 16 (fun _ => ⟨rfl, hp⟩) (fun l => absurd l (by omega))
  | succ d ih =>
    intro n hn h
    have h16 : n < 16 := by omega
    refine pk_le 16 n (fun l => absurd l (by omega)) (fun _ => br_f (by decide) ?_)
    refine pk_eq n m (fun c => ?_) (fun c => ?_)
    · exact nm_r (nI_1 n) (ih (n + 1) (by omega) (lt_s h fun l => absurd l (by omega)))
    · rw [bn_sub n h16 m hm]
      by_cases s : n &&& m = n
      · refine br_t s ⟨vp_in_nI (by omega) (by omega), ?_⟩
        rw [bn_Ag hA h16]
        refine bn_z (hR n h16) (fun z => ?_) (fun z => ?_)
        · exact nm_r (nI_1 n) (ih (n + 1) (by omega) (lt_s h fun _ _ => (hU n h16).mp z))
        · have u : U n = true := by
            cases y : U n
            · exact absurd ((hU n h16).mpr y) z
            · rfl
          have l := bn_le n h16 m hm s
          rw [bb_Lf2 (show n < m by omega) s u] at hp
          exact nm_r (nI_1 n) (ya_l0 th ge he ot (nI m) hp d (n + 1) (by omega))
      · exact br_f s (nm_r (nI_1 n) (ih (n + 1) (by omega) (lt_s h fun _ y => absurd y s)))
theorem ya_l {A B : Prop} {R : Nat → Nat} {U : Nat → Bool} (hU : ∀ j, j < 16 → (R j = 0 ↔ U j = false)) (hR : ∀ j, j < 16 → R j < 65536) (th ge : Nat → Int32) {he : Nat → Int32} (ot : Nat → Int32) (hA : bn_A he R) {m : Nat} (hm : m < 16) (f : bb_L U m = false → A) (g : bb_L U m = true → B) : wpY_least (fun r => (r = 0 → A) ∧ (¬ r = 0 → B)) (th, ge, he, ot) (nI m) := by
  have hf := bn_fl (bb_L U m) f g
  refine ⟨vp_in_nI (by omega) (by omega), ?_⟩
  rw [bn_Ag hA hm]
  refine bn_z (hR m hm) (fun z => ⟨17, ?_⟩) (fun z => ⟨17, ?_⟩)
  · exact ya_l0 th ge he ot (nI m) (br_t rfl (f (bb_Lf1 ((hU m hm).mp z)))) 16 0 rfl
  · have u : U m = true := by
      cases y : U m
      · exact absurd ((hU m hm).mpr y) z
      · rfl
    exact ya_l1 hU hR th ge ot hA hm u hf 16 0 rfl fun k hk => absurd hk (Nat.not_lt_zero k)
theorem ya_zi {post : Int32 → Prop} {J : Int32 → Int32 → Prop} {P : Nat} {g : Nat → Nat} {th ge : Nat → Int32} (he ot : Nat → Int32) (ht : ∀ i, i < 6 → th i = nI (P.testBit i).toNat) (hg : ∀ i, i < 6 → P.testBit i = true → ge i = nI (g i) ∧ g i < 65536) {p : Nat} (h16 : p < 16) (hJ : J (nI (bb_Z P g 6 % 2 ^ (p + 1))) (nI (p + 1))) : ∀ d i, i + d = 6 → wY_zeros_15 post J (nI (bb_Z P g 6 % 2 ^ p)) (nI p) th ge he ot (d + 1) (nI ((bb_Z P g i).testBit p).toNat) (nI i) := by
  intro d
  induction d with
  | zero =>
    intro i hi
    have e : i = 6 := by omega
    subst e
    refine pk_le 6 6 (fun _ => ?_) (fun l => absurd l (by omega))
    refine bn_fl _ (fun c => ?_) (fun c => ?_)
    · rw [← bb_mo2 c] at hJ
      exact nm_r (nI_1 p) hJ
    · refine nm_r ?_ (nm_r (nI_1 p) hJ)
      rw [bn_pow (by omega), bn_or, bb_mo1 c]
  | succ d ih =>
    intro i hi
    have z := ih (i + 1) (by omega)
    refine pk_le 6 i (fun l => absurd l (by omega)) (fun _ => ?_)
    refine bn_fl _ (fun c => ?_) (fun c => ⟨vp_in_nI (by omega) (by omega), ?_⟩)
    · have y : (bb_Z P g (i + 1)).testBit p = false := by
        cases hb : P.testBit i
        · rw [bb_Z2 g hb, c]
        · rw [bb_Zp1 g h16 hb, c, Bool.false_and]
      rw [y] at z
      exact nm_r (nI_1 i) z
    · rw [nI_clamp (by omega), ht i (by omega)]
      refine bn_fl _ (fun hb => ?_) (fun hb => ⟨vp_in_nI (by omega) (by omega), ?_⟩)
      · rw [bb_Z2 g hb, c] at z
        exact nm_r (nI_1 i) z
      · obtain ⟨e1, e2⟩ := hg i (by omega) hb
        rw [e1]
        refine ya_v e2 h16 ?_
        rw [bb_Zp1 g h16 hb, c, Bool.true_and] at z
        rw [bn_d]
        cases y : (bb_T (g i)).testBit p
        · rw [y] at z
          exact br_t rfl (nm_r (nI_1 i) z)
        · rw [y] at z
          exact br_f (by decide) (nm_r (nI_1 i) z)
theorem ya_zo {post : Int32 → Prop} {P : Nat} {g : Nat → Nat} {th ge : Nat → Int32} (he ot : Nat → Int32) (ht : ∀ i, i < 6 → th i = nI (P.testBit i).toNat) (hg : ∀ i, i < 6 → P.testBit i = true → ge i = nI (g i) ∧ g i < 65536) (hp : post (nI (bb_Z P g 6))) : ∀ d p, p + d = 16 → wY_zeros_4 post th ge he ot (d + 1) (nI (bb_Z P g 6 % 2 ^ p)) (nI p) := by
  intro d
  induction d with
  | zero =>
    intro p hi
    have e : p = 16 := by omega
    subst e
    rw [bb_md16 (bb_Zb P g 6)]
    exact pk_le 16 16 (fun _ => hp) (fun l => absurd l (by omega))
  | succ d ih =>
    intro p hi
    have h16 : p < 16 := by omega
    refine pk_le 16 p (fun l => absurd l (by omega)) (fun _ => ⟨7, ?_⟩)
    have z := ya_zi (post := post) (J := wY_zeros_4 post th ge he ot (d + 1)) he ot ht hg h16 (ih (p + 1) (by omega)) 6 0 rfl
    rw [show (bb_Z P g 0).testBit p = true from bb_1s h16] at z
    exact z
theorem ya_z {post : Int32 → Prop} {P : Nat} {g : Nat → Nat} {th ge he ot : Nat → Int32} (ht : ∀ i, i < 6 → th i = nI (P.testBit i).toNat) (hg : ∀ i, i < 6 → P.testBit i = true → ge i = nI (g i) ∧ g i < 65536) (hp : post (nI (bb_Z P g 6))) : wpY_zeros post (th, ge, he, ot) := by
  have z := ya_zo he ot ht hg hp 16 0 rfl
  rw [bb_mo0] at z
  exact ⟨17, z⟩
