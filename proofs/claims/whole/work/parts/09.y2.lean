/-! ===== Y: independent, relates ===== -/
theorem ya_il {post : Int32 → SY → Prop} {V : Nat → Prop} {O : Nat → Nat} (th ge he : Nat → Int32) {ot : Nat → Int32} (hA : bn_A ot O) (B : bb_B V O) {x : Nat} (hx : x < 65536) (h0 : V x → post 0 (th, ge, he, ot)) (h1 : ∀ ot' O', bn_A ot' O' → bb_B (bb_add V x) O' → ¬ V x → post 1 (th, ge, he, ot')) : ∀ d r, d ≤ 16 → r < 2 ^ d → V (x ^^^ r) → wY_independent_5 post th ge he ot (d + 1) (nI r) (bn_dn d) := by
  intro d
  induction d with
  | zero =>
    intro r _ l hV
    rw [Nat.pow_zero] at l
    have e : r = 0 := by omega
    rw [e, Nat.xor_zero] at hV
    exact br_t bn_dn0 (h0 hV)
  | succ d ih =>
    intro r hd l hV
    have hr : r < 65536 := Nat.lt_of_lt_of_le l (Nat.pow_le_pow_right (n := 2) (j := 16) (by omega) hd)
    show wY_independent_5 post th ge he ot (d + 1 + 1) (nI r) (nI d)
    refine br_f (nI_pos (by omega)) (bn_b1 (by omega) (by omega) (fun c => ⟨vp_in_nI (by omega) (by omega), ?_⟩) (fun c => ?_))
    · rw [bn_Ag hA (by omega)]
      refine bn_z (bb_Rb B d (by omega)) (fun z => ⟨vp_in_nI (by omega) (by omega), ?_⟩) (fun z => ⟨vp_in_nI (by omega) (by omega), ?_⟩)
      · refine nm_e (h1 _ _ (bn_Au hA (by omega) r) (bb_ins B hx (by omega) ⟨c, l⟩ z hV) ?_)
        intro y
        have w := B.1.2.1 _ _ y hV
        rw [bb_x1] at w
        exact B.2.2 r d w ⟨c, l⟩ z
      · have hH := (B.2.1 d (by omega)).1.resolve_left z
        rw [nx_xor]
        refine nm_e (nm_r (bn_dns d) (ih _ (by omega) (bb_cut (Nat.xor_lt_two_pow l hH.2) ?_) ?_))
        · rw [Nat.testBit_xor, c, hH.1]
          decide
        · rw [← Nat.xor_assoc]
          exact B.1.2.1 _ _ hV (B.2.1 d (by omega)).2
    · exact nm_r (bn_dns d) (ih r (by omega) (bb_cut l (by rw [c]; decide)) hV)
theorem ya_i {post : Int32 → SY → Prop} {V : Nat → Prop} {O : Nat → Nat} {th ge he ot : Nat → Int32} (hA : bn_A ot O) (B : bb_B V O) {x : Nat} (hx : x < 65536) (h0 : V x → post 0 (th, ge, he, ot)) (h1 : ∀ ot' O', bn_A ot' O' → bb_B (bb_add V x) O' → ¬ V x → post 1 (th, ge, he, ot')) : wpY_independent post (th, ge, he, ot) (nI x) :=
  ⟨17, ya_il th ge he hA B hx h0 h1 16 x (by omega) hx (by rw [Nat.xor_self]; exact B.1.1)⟩
theorem ya_r1 {post : Int32 → SY → Prop} (th ge he ot : Nat → Int32) (x : Int32) (hp : post 1 (th, ge, he, ot)) : ∀ d m, m + d = 16 → wY_relates_42 post x (d + 1) 1 (nI m) th ge he ot := by
  intro d
  induction d with
  | zero =>
    intro m hm
    have e : m = 16 := by omega
    subst e
    exact pk_le 16 16 (fun _ => ⟨rfl, hp⟩) (fun l => absurd l (by omega))
  | succ d ih =>
    intro m hm
    have z := ih (m + 1) (by omega)
    exact pk_le 16 m (fun l => absurd l (by omega)) (fun _ => br_c (fun _ => br_f (by decide) (nm_r (nI_1 m) z)) (fun _ => nm_r (nI_1 m) z))
theorem ya_r0 {post : Int32 → SY → Prop} {V : Nat → Prop} {R : Nat → Nat} (th ge : Nat → Int32) {he : Nat → Int32} (hA : bn_A he R) (B : bb_B V R) {v : Nat} (hv : v < 16) (h1 : bb_K R v → ∀ ot, post 1 (th, ge, he, ot)) (h0 : bb_J R v 16 → ∀ ot, post 0 (th, ge, he, ot)) : ∀ d m (ot : Nat → Int32) (O : Nat → Nat), m + d = 16 → bn_A ot O → bb_B (bb_O R v m) O → bb_J R v m → wY_relates_42 post (nI v) (d + 1) 0 (nI m) th ge he ot := by
  intro d
  induction d with
  | zero =>
    intro m ot O hm _ _ j
    have e : m = 16 := by omega
    subst e
    exact pk_le 16 16 (fun _ => ⟨rfl, h0 j ot⟩) (fun l => absurd l (by omega))
  | succ d ih =>
    intro m ot O hm hO BO j
    have h16 : m < 16 := by omega
    refine pk_le 16 m (fun l => absurd l (by omega)) (fun _ => ?_)
    rw [bn_sub m h16 v hv]
    by_cases c : m &&& v = m
    · refine br_t c (br_t rfl ?_)
      rw [bn_pow (by omega)]
      refine ya_rd hA (bb_Rb B) (bb_p16 h16) ?_
      refine ya_i hO BO (bb_rb B (bb_p16 h16)) (fun hV => ?_) (fun ot' O' hO' BO' nV => ?_)
      · exact br_t rfl (nm_r (nI_1 m) (ya_r1 th ge he ot (nI v) (h1 (bb_Kf h16 c hV) ot) d (m + 1) (by omega)))
      · exact br_f (by decide) (nm_r (nI_1 m) (ih (m + 1) ot' O' (by omega) hO' (bb_Bc BO' (bb_Oa R c)) (bb_Ja j nV)))
    · exact br_f c (nm_r (nI_1 m) (ih (m + 1) ot O (by omega) hO (bb_Bc BO (bb_Os R c)) (bb_Js c j)))
theorem ya_rc {post : Int32 → SY → Prop} {V : Nat → Prop} {R : Nat → Nat} (th ge : Nat → Int32) {he : Nat → Int32} (hA : bn_A he R) (B : bb_B V R) {v : Nat} (hv : v < 16) (h1 : bb_K R v → ∀ ot, post 1 (th, ge, he, ot)) (h0 : bb_J R v 16 → ∀ ot, post 0 (th, ge, he, ot)) : ∀ d i (ot : Nat → Int32), i + d = 16 → (∀ j, j < i → ot j = 0) → wY_relates_19 post (nI v) (d + 1) (nI i) th ge he ot := by
  intro d
  induction d with
  | zero =>
    intro i ot hi h
    have e : i = 16 := by omega
    subst e
    refine pk_le 16 16 (fun _ => ⟨17, ?_⟩) (fun l => absurd l (by omega))
    exact ya_r0 th ge hA B hv h1 h0 16 0 ot (fun _ => 0) rfl (fun j hj => h j hj) (bb_Bc (bb_B0 fun _ _ => rfl) (bb_O0 R v)) (bb_J0 R v)
  | succ d ih =>
    intro i ot hi h
    refine pk_le 16 i (fun l => absurd l (by omega)) (fun _ => ⟨vp_in_nI (by omega) (by omega), ?_⟩)
    rw [nI_clamp (by omega)]
    refine nm_e (nm_r (nI_1 i) (ih (i + 1) _ (by omega) ?_))
    intro j hj
    by_cases c : j = i
    · subst c
      exact pk_us
    · rw [pk_un c]
      exact h j (by omega)
/-! ===== numbers out of range ===== -/
theorem bn_ix (x : Int32) (n : Nat) : x < 0 ∨ (∃ j, n ≤ j ∧ j < 2 ^ 31 ∧ x = nI j) ∨ ∃ j, j < n ∧ j < 2 ^ 31 ∧ x = nI j := by
  by_cases h : x < 0
  · exact Or.inl h
  · obtain ⟨j, hj, e⟩ := nI_of h
    rcases Nat.lt_or_ge j n with l | l
    · exact Or.inr (Or.inr ⟨j, l, hj, e⟩)
    · exact Or.inr (Or.inl ⟨j, l, hj, e⟩)
/-- what remove and redundant ask first -/
theorem ya_g {A B : Prop} {P : Nat} {th : Nat → Int32} (ht : ∀ i, i < 6 → th i = nI (P.testBit i).toNat) {x : Int32} (f : (¬ ∃ i, i < 6 ∧ P.testBit i = true ∧ x = nI i) → A) (g : ∀ i, i < 6 → P.testBit i = true → x = nI i → B) : (x < 0 → A) ∧ (¬ x < 0 → (5 < x → A) ∧ (¬ 5 < x → vp_in x 6 ∧ ((th x.toNatClampNeg = 0 → A) ∧ (¬ th x.toNatClampNeg = 0 → B)))) := by
  rcases bn_ix x 6 with h | ⟨j, hj, hl, rfl⟩ | ⟨j, hj, hl, rfl⟩
  · refine br_t h (f ?_)
    intro ⟨i, hi, _, e⟩
    rw [e] at h
    exact absurd h (nI_pos (by omega))
  · refine br_f (nI_pos hl) (br_t (nI_lt (a := 5) (b := j) (by omega) hl) (f ?_))
    intro ⟨i, hi, _, e⟩
    rw [nI_eq hl (by omega)] at e
    omega
  · refine br_f (nI_pos hl) (br_f (nI_nlt (a := 5) (b := j) (by omega) (by omega)) ⟨vp_in_nI hj (by omega), ?_⟩)
    rw [nI_clamp hl, ht j hj]
    refine bn_fl _ (fun c => f ?_) (fun c => g j hj c rfl)
    intro ⟨i, hi, d, e⟩
    rw [nI_eq hl (by omega)] at e
    rw [e, d] at c
    exact absurd c (by decide)
