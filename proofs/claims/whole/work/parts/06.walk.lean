/-! ===== pieces of the walks ===== -/
theorem bn_t {f c w : Nat} {C S : Int32} (hC : C = nI c) (hS : (S.toBitVec.smod 32).toNat = w) (hc : c * 2 ^ w < 65536) : nI f ^^^ ((nI f &&& C) <<< S) = nI (bb_t c w f) := by
  have l : (f &&& c) * 2 ^ w < 2 ^ 32 := Nat.lt_trans (Nat.lt_of_le_of_lt (Nat.mul_le_mul_right _ Nat.and_le_right) hc) (by decide)
  rw [hC, nx_and, pk_shlN S w hS l, nx_xor]
  rfl
/-- a counter that goes down to -1: d rounds are left -/
def bn_dn : Nat → Int32
  | 0 => -1
  | d + 1 => nI d
theorem bn_dns (d : Nat) : nI d + (-1) = bn_dn d := by
  cases d with
  | zero => decide
  | succ d => exact pk_m1 d
theorem bn_dn0 : bn_dn 0 < 0 := by decide
theorem bn_dnp {d : Nat} (h : d < 16) : ¬ bn_dn (d + 1) < 0 := nI_pos (by omega)
theorem bn_bT : vp_nar .boolean 1 = 1 := by rfl
theorem bn_bF : vp_nar .boolean 0 = 0 := by rfl
theorem bn_i1 (b : Bool) : nI b.toNat = 0 ↔ b = false := by
  cases b <;> decide
def bn_P (x : Int32) : Prop := ∃ f : Nat, f < 65536 ∧ x = nI f
theorem bn_np {x : Int32} (h : ¬ bn_P x) (c : ¬ x < 0) : 65535 < x := by
  obtain ⟨j, hj, rfl⟩ := nI_of c
  have l : 65535 < j := by
    rcases Nat.lt_or_ge j 65536 with l | l
    · exact absurd ⟨j, l, rfl⟩ h
    · omega
  exact nI_lt (a := 65535) (b := j) l hj
/-- an array's first sixteen cells -/
def bn_A (a : Nat → Int32) (R : Nat → Nat) : Prop := ∀ j, j < 16 → a j = nI (R j)
theorem bn_Ag {a : Nat → Int32} {R : Nat → Nat} (h : bn_A a R) {d : Nat} (hd : d < 16) : a (nI d).toNatClampNeg = nI (R d) := by
  rw [nI_clamp (by omega)]
  exact h d hd
theorem bn_Au {a : Nat → Int32} {R : Nat → Nat} (h : bn_A a R) {k : Nat} (hk : k < 16) (v : Nat) : bn_A (upd a (nI k).toNatClampNeg (nI v)) (bb_up R k v) := by
  rw [nI_clamp (by omega)]
  intro j hj
  by_cases c : j = k
  · subst c
    rw [pk_us, bb_ups]
  · rw [pk_un c, bb_upn _ _ c]
    exact h j hj
theorem bn_i0 {a : Nat} (h : a < 65536) : nI a = 0 ↔ a = 0 := nI_eq (a := a) (b := 0) (by omega) (by omega)
/-- a branch on a number being 0 -/
theorem bn_z {A B : Prop} {a : Nat} (h : a < 65536) (f : a = 0 → A) (g : a ≠ 0 → B) : (nI a = 0 → A) ∧ (¬ nI a = 0 → B) := by
  rw [bn_i0 h]
  exact ⟨f, g⟩
/-- a branch on a flag -/
theorem bn_fl {A B : Prop} (b : Bool) (f : b = false → A) (g : b = true → B) : (nI b.toNat = 0 → A) ∧ (¬ nI b.toNat = 0 → B) := by
  rw [bn_i1]
  exact ⟨f, fun z => g (by cases b <;> simp_all)⟩
theorem bb_Va {Z f : Nat} (hf : f < 65536) : bb_T f &&& Z = 0 ↔ bb_V Z f := by
  constructor
  · intro h
    refine ⟨hf, fun q _ c => ?_⟩
    have z : (bb_T f &&& Z).testBit q = false := by rw [h, Nat.zero_testBit]
    rw [Nat.testBit_and, c, Bool.and_true] at z
    exact z
  · intro h
    apply Nat.eq_of_testBit_eq
    intro i
    rw [Nat.testBit_and, Nat.zero_testBit]
    by_cases c : Z.testBit i = true
    · rcases Nat.lt_or_ge i 16 with l | l
      · rw [h.2 i l c, Bool.false_and]
      · rw [bb_hi (bb_Tb hf) l, Bool.false_and]
    · rw [eq_false_of_ne_true c, Bool.and_false]
theorem bb_Rb {V : Nat → Prop} {R : Nat → Nat} (B : bb_B V R) : ∀ j, j < 16 → R j < 65536 := fun j hj => B.1.2.2 _ (B.2.1 j hj).2
theorem bb_Q0 (R : Nat → Nat) : bb_Q R 0 := fun j hj => absurd hj (Nat.not_lt_zero j)
