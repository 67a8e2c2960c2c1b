/-! ===== Int32 and its bits ===== -/
theorem bn_or (a b : Nat) : nI a ||| nI b = nI (a ||| b) := by
  apply Int32.toBitVec_inj.1
  show BitVec.ofNat 32 a ||| BitVec.ofNat 32 b = BitVec.ofNat 32 (a ||| b)
  apply BitVec.eq_of_getLsbD_eq
  intro i hi
  simp [hi]
theorem bn_m1 : (-1 : Int32) = nI 4294967295 := by decide +kernel
theorem bn_1s {q : Nat} (h : q < 16) : (4294967295 : Nat).testBit q = true := (by decide +kernel : ∀ q, q < 16 → (4294967295 : Nat).testBit q = true) q h
theorem bn_not {a : Nat} (b : Nat) (ha : a < 65536) : nI a &&& (nI b ^^^ (-1)) = nI (a &&& (65535 ^^^ b)) := by
  rw [bn_m1, nx_xor, nx_and]
  refine congrArg nI ?_
  apply Nat.eq_of_testBit_eq
  intro i
  rw [Nat.testBit_and, Nat.testBit_and]
  rcases Nat.lt_or_ge i 16 with l | l
  · rw [Nat.testBit_xor, Nat.testBit_xor, bn_1s l, bb_1s l, Bool.xor_comm]
  · rw [bb_hi ha l, Bool.false_and, Bool.false_and]
theorem bn_sh {k j : Nat} (hk : k < 2 ^ 31) (hj : j < 32) : (nI k >>> (nI j &&& 31)) &&& 1 = nI (k / 2 ^ j % 2) := by
  rw [pk_shrN hk _ j (s_l j hj)]
  show nI (k / 2 ^ j) &&& nI 1 = _
  rw [nx_and, Nat.and_one_is_mod]
theorem bn_d {k j : Nat} : k / 2 ^ j % 2 = if k.testBit j = true then 1 else 0 := by
  rw [Nat.testBit_eq_decide_div_mod_eq]
  by_cases c : k / 2 ^ j % 2 = 1
  · rw [if_pos (decide_eq_true c)]
    exact c
  · rw [if_neg (by rw [decide_eq_false c]; decide)]
    generalize k / 2 ^ j = z at c ⊢
    omega
theorem bn_bt {k j : Nat} (hk : k < 2 ^ 31) (hj : j < 32) (c : k.testBit j = true) : (nI k >>> (nI j &&& 31)) &&& 1 = 1 := by
  rw [bn_sh hk hj, bn_d, if_pos c] <;> rfl
theorem bn_bf {k j : Nat} (hk : k < 2 ^ 31) (hj : j < 32) (c : k.testBit j = false) : (nI k >>> (nI j &&& 31)) &&& 1 = 0 := by
  rw [bn_sh hk hj, bn_d, if_neg (by rw [c]; decide)] <;> rfl
/-- a branch on one bit, against 0 and against 1 -/
theorem bn_b0 {k j : Nat} {A B : Prop} (hk : k < 2 ^ 31) (hj : j < 32) (f : k.testBit j = false → A) (g : k.testBit j = true → B) : ((nI k >>> (nI j &&& 31)) &&& 1 = 0 → A) ∧ (¬ (nI k >>> (nI j &&& 31)) &&& 1 = 0 → B) := by
  by_cases c : k.testBit j = true
  · rw [bn_bt hk hj c]
    exact br_f (by decide) (g c)
  · rw [bn_bf hk hj (eq_false_of_ne_true c)]
    exact br_t rfl (f (eq_false_of_ne_true c))
theorem bn_b1 {k j : Nat} {A B : Prop} (hk : k < 2 ^ 31) (hj : j < 32) (f : k.testBit j = true → A) (g : k.testBit j = false → B) : ((nI k >>> (nI j &&& 31)) &&& 1 = 1 → A) ∧ (¬ (nI k >>> (nI j &&& 31)) &&& 1 = 1 → B) := by
  by_cases c : k.testBit j = true
  · rw [bn_bt hk hj c]
    exact br_t rfl (f c)
  · rw [bn_bf hk hj (eq_false_of_ne_true c)]
    exact br_f (by decide) (g (eq_false_of_ne_true c))
theorem bn_pow {j : Nat} (hj : j < 31) : (1 : Int32) <<< (nI j &&& 31) = nI (2 ^ j) := by
  have l : 2 ^ j < 2 ^ 31 := Nat.pow_lt_pow_right (by omega) hj
  have e := pk_shlN (n := 1) (nI j &&& 31) j (s_l j (by omega)) (by rw [Nat.one_mul]; omega)
  rw [Nat.one_mul] at e
  exact e
theorem bn_sub : ∀ m, m < 16 → ∀ v, v < 16 → ((nI m &&& (nI v ^^^ (-1)) = 0) ↔ (m &&& v = m)) := by decide +kernel
theorem bn_le : ∀ m, m < 16 → ∀ v, v < 16 → m &&& v = m → m ≤ v := by decide +kernel
theorem bn_pol (x : Int32) : x < 0 ∨ (¬ x < 0 ∧ ¬ x ≤ 65535) ∨ ∃ f : Nat, f < 65536 ∧ x = nI f := by
  by_cases h : x < 0
  · exact Or.inl h
  · obtain ⟨j, hj, rfl⟩ := nI_of h
    by_cases c : j < 65536
    · exact Or.inr (Or.inr ⟨j, c, rfl⟩)
    · refine Or.inr (Or.inl ⟨h, ?_⟩)
      exact nI_ge (a := 65535) (b := j) (by omega) hj
theorem bn_up (R : Nat → Nat) (k v : Nat) : upd (fun j => nI (R j)) k (nI v) = fun j => nI (bb_up R k v j) := by
  funext j
  unfold upd bb_up
  by_cases c : j = k
  · rw [if_pos c, if_pos c]
  · rw [if_neg c, if_neg c]
