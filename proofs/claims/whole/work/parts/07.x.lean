/-! ===== X: one lemma a private method ===== -/
theorem xa_in {A B : Prop} {j k : Nat} (hk : k < 2 ^ 31) (hj : j < 32) (f : k.testBit j = false → A) (g : k.testBit j = true → B) : wpX_isIn (fun r => (r = 0 → A) ∧ (¬ r = 0 → B)) (nI j) (nI k) :=
  bn_b0 hk hj (fun c => br_t rfl (f c)) (fun c => br_f (by decide) (g c))
theorem xa_pp {post : Int32 → Prop} {f : Nat} (hf : f < 65536) (h : post 1) : wpX_isPolynomial post (nI f) :=
  br_f (nI_pos (by omega)) (br_f (nI_nlt (a := 65535) (b := f) (by omega) (by omega)) h)
theorem xa_np {post : Int32 → Prop} {x : Int32} (c : ¬ bn_P x) (h : post 0) : wpX_isPolynomial post x := by
  by_cases z : x < 0
  · exact br_t z h
  · exact br_f z (br_t (bn_np c z) h)
theorem xa_T {post : Int32 → Prop} {f : Nat} (h : post (nI (bb_T f))) : wpX_sumOverSubsets post (nI f) :=
  nm_r (bn_t (c := 21845) (w := 1) rfl (by decide) (by decide)) (nm_r (bn_t (c := 13107) (w := 2) rfl (by decide) (by decide)) (nm_r (bn_t (c := 3855) (w := 4) rfl (by decide) (by decide)) (nm_r (bn_t (c := 255) (w := 8) rfl (by decide) (by decide)) h)))
theorem xa_van {post : Int32 → Prop} {f Z : Nat} (hf : f < 65536) (hZ : Z < 65536) (h1 : bb_V Z f → post 1) (h0 : ¬ bb_V Z f → post 0) : wpX_vanishesAt post (nI f) (nI Z) := by
  unfold wpX_vanishesAt
  refine xa_T ?_
  rw [nx_and]
  exact bn_z (bb_alt hZ) (fun c => h1 ((bb_Va hf).mp c)) (fun c => h0 fun v => c ((bb_Va hf).mpr v))
theorem xa_czl {post : Int32 → Prop} {P : Nat} {g : Nat → Nat} (pr zs : Int32) (ag ar : Nat → Int32) (hP : P < 2 ^ 31) (hg : ∀ i, i < 6 → P.testBit i = true → ag i = nI (g i)) (hp : post (nI (bb_Z P g 6))) : ∀ d i, i + d = 6 → wX_commonZeros_5 post (nI P) pr zs ag ar (d + 1) (nI (bb_Z P g i)) (nI i) := by
  intro d
  induction d with
  | zero =>
    intro i hi
    have e : i = 6 := by omega
    subst e
    exact pk_le 6 6 (fun _ => hp) (fun l => absurd l (by omega))
  | succ d ih =>
    intro i hi
    refine pk_le 6 i (fun l => absurd l (by omega)) (fun _ => ?_)
    refine xa_in hP (by omega) (fun c => ?_) (fun c => ?_)
    · refine nm_r (nI_1 i) ?_
      have z := ih (i + 1) (by omega)
      rw [bb_Z2 g c] at z
      exact z
    · refine ⟨vp_in_nI (by omega) (by omega), ?_⟩
      rw [nI_clamp (by omega), hg i (by omega) c]
      refine xa_T ?_
      refine nm_r (bn_not _ (bb_Zb P g i)) (nm_r (nI_1 i) ?_)
      have z := ih (i + 1) (by omega)
      rw [bb_Z1 g c] at z
      exact z
theorem xa_cz {post : Int32 → Prop} {P : Nat} {g : Nat → Nat} {pr zs : Int32} {ag ar : Nat → Int32} (hP : P < 2 ^ 31) (hg : ∀ i, i < 6 → P.testBit i = true → ag i = nI (g i)) (hp : post (nI (bb_Z P g 6))) : wpX_commonZeros post (pr, zs, ag, ar) (nI P) :=
  ⟨7, xa_czl pr zs ag ar hP hg hp 6 0 rfl⟩
theorem xa_cll {post : SX → Prop} (pr zs : Int32) (ag : Nat → Int32) (hp : ∀ ar, bn_A ar (fun _ => 0) → post (pr, zs, ag, ar)) : ∀ d i (ar : Nat → Int32), i + d = 16 → (∀ j, j < i → ar j = 0) → wX_clearRows_2 post pr zs (d + 1) (nI i) ag ar := by
  intro d
  induction d with
  | zero =>
    intro i ar hi h
    have e : i = 16 := by omega
    subst e
    exact pk_le 16 16 (fun _ => hp ar fun j hj => h j hj) (fun l => absurd l (by omega))
  | succ d ih =>
    intro i ar hi h
    refine pk_le 16 i (fun l => absurd l (by omega)) (fun _ => ⟨vp_in_nI (by omega) (by omega), ?_⟩)
    rw [nI_clamp (by omega)]
    refine nm_e (nm_r (nI_1 i) (ih (i + 1) _ (by omega) ?_))
    intro j hj
    by_cases c : j = i
    · subst c
      exact pk_us
    · rw [pk_un c]
      exact h j (by omega)
theorem xa_cl {post : SX → Prop} {pr zs : Int32} {ag ar : Nat → Int32} (hp : ∀ ar, bn_A ar (fun _ => 0) → post (pr, zs, ag, ar)) : wpX_clearRows post (pr, zs, ag, ar) :=
  ⟨17, xa_cll pr zs ag hp 16 0 ar rfl fun j hj => absurd hj (Nat.not_lt_zero j)⟩
theorem xa_rdl {post : Int32 → Prop} {R : Nat → Nat} (pr zs : Int32) (ag : Nat → Int32) {ar : Nat → Int32} (hA : bn_A ar R) (hR : ∀ j, j < 16 → R j < 65536) : ∀ d f, d ≤ 16 → f < 65536 → post (nI (bb_rd R d f)) → wX_reduce_5 post pr zs ag ar (d + 1) (nI f) (bn_dn d) := by
  intro d
  induction d with
  | zero =>
    intro f _ _ hp
    exact br_t bn_dn0 hp
  | succ d ih =>
    intro f hd hf hp
    show wX_reduce_5 post pr zs ag ar (d + 1 + 1) (nI f) (nI d)
    refine br_f (nI_pos (by omega)) (xa_in (by omega) (by omega) (fun c => ?_) (fun c => ?_))
    · refine nm_r (bn_dns d) (ih f (by omega) hf ?_)
      rw [bb_rds, if_neg (by rw [c]; decide)] at hp
      exact hp
    · refine ⟨vp_in_nI (by omega) (by omega), ?_⟩
      rw [bn_Ag hA (by omega), nx_xor]
      refine nm_e (nm_r (bn_dns d) (ih _ (by omega) (bb_xlt hf (hR d (by omega))) ?_))
      rw [bb_rds, if_pos c] at hp
      exact hp
theorem xa_rd {post : Int32 → Prop} {R : Nat → Nat} {pr zs : Int32} {ag ar : Nat → Int32} (hA : bn_A ar R) (hR : ∀ j, j < 16 → R j < 65536) {f : Nat} (hf : f < 65536) (hp : post (nI (bb_rd R 16 f))) : wpX_reduce post (pr, zs, ag, ar) (nI f) :=
  ⟨17, xa_rdl pr zs ag hA hR 16 f (by omega) hf hp⟩
theorem xa_irl {post : SX → Prop} (pr zs : Int32) (ag ar : Nat → Int32) {r : Nat} (hr : r < 65536) (h0 : r = 0 → post (pr, zs, ag, ar)) (h1 : ∀ h, h < 16 → bb_H r h → post (pr, zs, ag, upd ar (nI h).toNatClampNeg (nI r))) : ∀ d, d ≤ 16 → r < 2 ^ d → wX_insertRow_9 post (nI r) pr zs ag ar (d + 1) (bn_dn d) := by
  intro d
  induction d with
  | zero =>
    intro _ l
    rw [Nat.pow_zero] at l
    exact br_t bn_dn0 (h0 (by omega))
  | succ d ih =>
    intro hd l
    show wX_insertRow_9 post (nI r) pr zs ag ar (d + 1 + 1) (nI d)
    refine br_f (nI_pos (by omega)) (xa_in (by omega) (by omega) (fun c => ?_) (fun c => ?_))
    · exact nm_r (bn_dns d) (ih (by omega) (bb_cut l (by rw [c]; decide)))
    · exact ⟨vp_in_nI (by omega) (by omega), nm_e (h1 d (by omega) ⟨c, l⟩)⟩
theorem xa_ir {post : SX → Prop} {V : Nat → Prop} {R : Nat → Nat} {pr zs : Int32} {ag ar : Nat → Int32} (hA : bn_A ar R) (B : bb_B V R) {x : Nat} (hx : x < 65536) (hp : ∀ ar' R', bn_A ar' R' → bb_B (bb_add V x) R' → post (pr, zs, ag, ar')) : wpX_insertRow post (pr, zs, ag, ar) (nI x) := by
  unfold wpX_insertRow
  try dsimp only
  refine xa_rd hA (bb_Rb B) hx ?_
  refine ⟨17, xa_irl pr zs ag ar (bb_rb B hx) (fun e => hp ar R hA (bb_k0 B hx e)) (fun h h16 hH => hp _ _ (bn_Au hA h16 _) (bb_k1 B hx hH)) 16 (by omega) (bb_rb B hx)⟩
theorem xa_fl {post : SX → Prop} {V : Nat → Prop} (pr zs : Int32) (ag : Nat → Int32) (hp : ∀ ar' R', bn_A ar' R' → bb_B V R' → bb_Q R' 16 → post (pr, zs, ag, ar')) : ∀ d i (ar : Nat → Int32) (R : Nat → Nat), i + d = 16 → bn_A ar R → bb_B V R → bb_Q R i → wX_finishRows_2 post pr zs (d + 1) (nI i) ag ar := by
  intro d
  induction d with
  | zero =>
    intro i ar R hi hA B q
    have e : i = 16 := by omega
    subst e
    exact pk_le 16 16 (fun _ => hp ar R hA B q) (fun l => absurd l (by omega))
  | succ d ih =>
    intro i ar R hi hA B q
    have h16 : i < 16 := by omega
    refine pk_le 16 i (fun l => absurd l (by omega)) (fun _ => ⟨vp_in_nI (by omega) (by omega), ?_⟩)
    rw [bn_Ag hA h16]
    refine bn_z (bb_Rb B i h16) (fun c => ?_) (fun c => ?_)
    · exact nm_r (nI_1 i) (ih (i + 1) ar R (by omega) hA B (bb_fin0 c q))
    · refine nm_r (bn_pow (by omega)) ⟨vp_in_nI (by omega) (by omega), ?_⟩
      rw [nx_xor]
      refine xa_rd hA (bb_Rb B) (bb_xlt (bb_Rb B i h16) (bb_p16 h16)) ?_
      rw [nx_xor]
      have z := bb_fin B h16 c q
      exact ⟨vp_in_nI (by omega) (by omega), nm_e (nm_r (nI_1 i) (ih (i + 1) _ _ (by omega) (bn_Au hA h16 _) z.1 z.2))⟩
theorem xa_fr {post : SX → Prop} {V : Nat → Prop} {R : Nat → Nat} {pr zs : Int32} {ag ar : Nat → Int32} (hA : bn_A ar R) (B : bb_B V R) (hp : ∀ ar' R', bn_A ar' R' → bb_B V R' → bb_Q R' 16 → post (pr, zs, ag, ar')) : wpX_finishRows post (pr, zs, ag, ar) :=
  ⟨17, xa_fl pr zs ag hp 16 0 ar R rfl hA B (bb_Q0 R)⟩
theorem xa_wl {post : SX → Prop} {Z : Nat} (hZ : Z < 65536) (pr : Int32) (ag : Nat → Int32) (hp : ∀ ar' R', bn_A ar' R' → bb_B (bb_V Z) R' → bb_Q R' 16 → post (pr, nI Z, ag, ar')) : ∀ d p (ar : Nat → Int32) (R : Nat → Nat), p + d = 16 → bn_A ar R → bb_B (bb_VX Z p) R → wX_workOutIdeal_18 post (d + 1) (nI p) pr (nI Z) ag ar := by
  intro d
  induction d with
  | zero =>
    intro p ar R hi hA B
    have e : p = 16 := by omega
    subst e
    exact pk_le 16 16 (fun _ => xa_fr hA (bb_Bc B (bb_VXe Z)) hp) (fun l => absurd l (by omega))
  | succ d ih =>
    intro p ar R hi hA B
    have h16 : p < 16 := by omega
    refine pk_le 16 p (fun l => absurd l (by omega)) (fun _ => ?_)
    refine xa_in (by omega) (by omega) (fun c => ?_) (fun c => ?_)
    · rw [bn_pow (by omega)]
      refine xa_T ?_
      refine xa_ir hA B (bb_Tb (bb_p16 h16)) (fun ar' R' hA' B' => ?_)
      exact nm_r (nI_1 p) (ih (p + 1) ar' R' (by omega) hA' (bb_Bc B' (bb_VX2 h16 c)))
    · exact nm_r (nI_1 p) (ih (p + 1) ar R (by omega) hA (bb_Bc B (bb_VX1 c)))
theorem xa_wo {post : SX → Prop} {P : Nat} {g : Nat → Nat} {zs : Int32} {ag ar : Nat → Int32} (hP : P < 2 ^ 31) (hg : ∀ i, i < 6 → P.testBit i = true → ag i = nI (g i)) (hp : ∀ ar' R', bn_A ar' R' → bb_B (bb_V (bb_Z P g 6)) R' → bb_Q R' 16 → post (nI P, nI (bb_Z P g 6), ag, ar')) : wpX_workOutIdeal post (nI P, zs, ag, ar) := by
  unfold wpX_workOutIdeal
  try dsimp only
  refine xa_cz hP hg ?_
  refine xa_cl fun ar' hA => ?_
  exact ⟨17, xa_wl (bb_Zb P g 6) (nI P) ag hp 16 0 ar' _ rfl hA (bb_Bc (bb_B0 fun _ _ => rfl) (bb_VX0 _))⟩
theorem xa_ig {A B : Prop} {P : Nat} (hP : P < 64) (zs : Int32) (ag ar : Nat → Int32) {x : Int32} (f : (¬ ∃ i, i < 6 ∧ P.testBit i = true ∧ x = nI i) → A) (g : ∀ i, i < 6 → P.testBit i = true → x = nI i → B) : wpX_isGenerator (fun r => (r = 0 → A) ∧ (¬ r = 0 → B)) (nI P, zs, ag, ar) x := by
  unfold wpX_isGenerator
  try dsimp only
  rcases pk_ix x (n := 6) (by omega) with h | h | ⟨j, hj, rfl⟩
  · refine br_t h (br_t rfl (f ?_))
    intro ⟨i, hi, _, e⟩
    rw [e] at h
    exact absurd h (nI_pos (by omega))
  · have h0 : ¬ x < 0 := by
      intro z
      exact absurd (Int32.lt_of_lt_of_le z (by decide : (0 : Int32) ≤ nI 6)) (fun y => absurd (Int32.lt_of_le_of_lt h y) (Int32.lt_irrefl))
    refine br_f h0 (br_t h (br_t rfl (f ?_)))
    intro ⟨i, hi, _, e⟩
    rw [e] at h
    exact absurd h (nI_ge hi (by omega))
  · refine br_f (nI_pos (by omega)) (br_f (nI_ge (a := j) (b := 6) hj (by omega)) ?_)
    refine xa_in (by omega) (by omega) (fun c => ?_) (fun c => ?_)
    · refine br_t rfl (f ?_)
      intro ⟨i, hi, d, e⟩
      rw [nI_eq (by omega) (by omega)] at e
      rw [e, d] at c
      exact absurd c (by decide)
    · exact br_f (by decide) (g j hj c rfl)
theorem xa_bhl {post : Int32 → Prop} {R : Nat → Nat} {U : Nat → Bool} (hU : ∀ j, j < 16 → (R j = 0 ↔ U j = false)) (hR : ∀ j, j < 16 → R j < 65536) (pr zs : Int32) (ag : Nat → Int32) {ar : Nat → Int32} (hA : bn_A ar R) {m : Nat} (hm : m < 16) (um : U m = true) (hp : post (nI (bb_L U m).toNat)) : ∀ d n, n + d = m → (∀ k, k < n → k &&& m = k → U k = false) → wX_isBasisHead_13 post (nI m) pr zs ag ar (d + 1) (nI n) := by
  intro d
  induction d with
  | zero =>
    intro n hn h
    have e : n = m := by omega
    subst e
    rw [bb_Lt um h] at hp
    exact pk_le n n (fun _ => hp) (fun l => absurd l (by omega))
  | succ d ih =>
    intro n hn h
    refine pk_le m n (fun l => absurd l (by omega)) (fun _ => ?_)
    rw [nx_and]
    refine pk_eq (n &&& m) n (fun c => ⟨vp_in_nI (by omega) (by omega), ?_⟩) (fun c => ?_) rfl rfl (Nat.lt_of_le_of_lt Nat.and_le_left (by omega)) (by omega)
    · rw [bn_Ag hA (by omega)]
      refine bn_z (hR n (by omega)) (fun z => ?_) (fun z => ?_)
      · refine nm_r (nI_1 n) (ih (n + 1) (by omega) (lt_s h fun _ => (hU n (by omega)).mp z))
      · have u : U n = true := by
          cases y : U n
          · exact absurd ((hU n (by omega)).mpr y) z
          · rfl
        rw [bb_Lf2 (show n < m by omega) c u] at hp
        exact hp
    · exact nm_r (nI_1 n) (ih (n + 1) (by omega) (lt_s h fun y => absurd y c))
theorem xa_bh {A B : Prop} {R : Nat → Nat} {U : Nat → Bool} (hU : ∀ j, j < 16 → (R j = 0 ↔ U j = false)) (hR : ∀ j, j < 16 → R j < 65536) (pr zs : Int32) (ag : Nat → Int32) {ar : Nat → Int32} (hA : bn_A ar R) {m : Nat} (hm : m < 16) (f : bb_L U m = false → A) (g : bb_L U m = true → B) : wpX_isBasisHead (fun r => (r = 0 → A) ∧ (¬ r = 0 → B)) (pr, zs, ag, ar) (nI m) := by
  have hf := bn_fl (bb_L U m) f g
  refine ⟨vp_in_nI (by omega) (by omega), ?_⟩
  rw [bn_Ag hA hm]
  refine bn_z (hR m hm) (fun z => ?_) (fun z => ?_)
  · exact br_t rfl (f (bb_Lf1 ((hU m hm).mp z)))
  · have u : U m = true := by
      cases y : U m
      · exact absurd ((hU m hm).mpr y) z
      · rfl
    exact ⟨m + 1, xa_bhl hU hR pr zs ag hA hm u hf m 0 (by omega) fun k hk => absurd hk (Nat.not_lt_zero k)⟩
