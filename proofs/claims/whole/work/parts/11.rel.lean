/-! ===== the relation ===== -/
def rl_X (P : Nat) (g R : Nat → Nat) (pr zs : Int32) (ag ar : Nat → Int32) : Prop := P < 64 ∧ (∀ i, i < 6 → P.testBit i = true → g i < 65536) ∧ pr = nI P ∧ zs = nI (bb_Z P g 6) ∧ (∀ i, i < 6 → P.testBit i = true → ag i = nI (g i)) ∧ bn_A ar R ∧ bb_B (bb_V (bb_Z P g 6)) R ∧ bb_Q R 16
def rl_Y (P : Nat) (g : Nat → Nat) (th ge : Nat → Int32) : Prop := (∀ i, i < 6 → th i = nI (P.testBit i).toNat) ∧ ∀ i, i < 6 → P.testBit i = true → ge i = nI (g i)
/-- one set of generators; X's zeros and finished rows are its ideal's; what Y keeps beside the generators is free -/
def i_Rel (_ : Nat) (u : SX) (v : SY) : Prop := ∃ (P : Nat) (g R : Nat → Nat), rl_X P g R u.1 u.2.1 u.2.2.1 u.2.2.2 ∧ rl_Y P g v.1 v.2.1
theorem i_up {k : Nat} {u : SX} {v : SY} (h : i_Rel k u v) : i_Rel (k + 3) u v := h
theorem rl_0 (i : Nat) : (0 : Nat).testBit i = true → False := by
  rw [Nat.zero_testBit]
  decide
theorem i_vc0 : wpX_init (fun u => wpY_init (fun v => i_Rel 0 u v)) := by
  refine ⟨0, fun _ => 0, fun _ => 0, ⟨by decide, fun i _ c => (rl_0 i c).elim, rfl, ?_, fun i _ c => (rl_0 i c).elim, fun _ _ => rfl, ?_, ?_⟩, ?_, fun i _ c => (rl_0 i c).elim⟩
  · show (65535 : Int32) = nI (bb_Z 0 (fun _ => 0) 6)
    decide +kernel
  · have e : bb_Z 0 (fun _ => 0) 6 = 65535 := by decide +kernel
    rw [e]
    exact bb_Bc (bb_B0 fun _ _ => rfl) bb_V0
  · intro j _ c
    exact absurd rfl c
  · intro i _
    rw [Nat.zero_testBit]
    rfl
/-- the rows of one relation bind the monomials U -/
def rl_U (R : Nat → Nat) (j : Nat) : Bool := !(decide (R j = 0))
theorem rl_Uh (R : Nat → Nat) : ∀ j, j < 16 → (R j = 0 ↔ rl_U R j = false) := by
  intro j _
  unfold rl_U
  by_cases c : R j = 0
  · rw [decide_eq_true c]
    exact ⟨fun _ => rfl, fun _ => c⟩
  · rw [decide_eq_false c]
    exact ⟨fun z => absurd z c, fun z => absurd z (by decide)⟩
theorem rl_Uc {V : Nat → Prop} {R Q : Nat → Nat} (B : bb_B V R) (C : bb_B V Q) : ∀ j, j < 16 → (Q j = 0 ↔ rl_U R j = false) :=
  fun j hj => (bb_bd2 C B hj).trans (rl_Uh R j hj)
theorem rl_n1 : ∀ i, i < 6 → ¬ nI i = (-1) := by decide +kernel
theorem rl_t1 {P : Nat} {th : Nat → Int32} (ht : ∀ i, i < 6 → th i = nI (P.testBit i).toNat) {i : Nat} (hi : i < 6) (c : P.testBit i = true) : ¬ th i = 0 := by
  rw [ht i hi, c]
  decide
theorem rl_t0 {P : Nat} {th : Nat → Int32} (ht : ∀ i, i < 6 → th i = nI (P.testBit i).toNat) {i : Nat} (hi : i < 6) (c : P.testBit i = false) : th i = 0 := by
  rw [ht i hi, c]
  rfl
/-- work(-1) -/
theorem rl_w {post : SY → Prop} {P : Nat} {g : Nat → Nat} {th ge he ot : Nat → Int32} (hb : ∀ i, i < 6 → P.testBit i = true → g i < 65536) (h : rl_Y P g th ge) (hp : ∀ he' R', bn_A he' R' → bb_B (bb_V (bb_Z P g 6)) R' → post (th, ge, he', ot)) : wpY_work post (th, ge, he, ot) (-1) :=
  ya_w (fun i hi c => ⟨rl_t1 h.1 hi c, rl_n1 i hi, h.2 i hi c, hb i hi c⟩) (fun i hi c => Or.inl (rl_t0 h.1 hi c)) hp
theorem rl_r {post : Int32 → SY → Prop} {P : Nat} {g : Nat → Nat} {th ge he ot : Nat → Int32} (hb : ∀ i, i < 6 → P.testBit i = true → g i < 65536) (h : rl_Y P g th ge) {f : Nat} (hf : f < 65536) (hp : ∀ he' R', bn_A he' R' → bb_B (bb_V (bb_Z P g 6)) R' → post (nI (bb_rd R' 16 f)) (th, ge, he', ot)) : wpY_rest post (th, ge, he, ot) (nI f) := by
  unfold wpY_rest
  try dsimp only
  refine ya_pp hf (br_f (by decide) ?_)
  refine rl_w hb h (fun he' R' hA B => ?_)
  exact ya_rd hA (bb_Rb B) hf (hp he' R' hA B)
theorem rl_rn {post : Int32 → SY → Prop} {th ge he ot : Nat → Int32} {x : Int32} (c : ¬ bn_P x) (hp : post (-1) (th, ge, he, ot)) : wpY_rest post (th, ge, he, ot) x := by
  unfold wpY_rest
  try dsimp only
  exact ya_np c (br_t rfl hp)
