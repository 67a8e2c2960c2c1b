/-! ===== the walk downwards over the rows ===== -/
def bb_rd (R : Nat → Nat) : Nat → Nat → Nat
  | 0, f => f
  | m + 1, f => bb_rd R m (if f.testBit m = true then f ^^^ R m else f)
theorem bb_rd0 (R : Nat → Nat) (f : Nat) : bb_rd R 0 f = f := rfl
theorem bb_rds (R : Nat → Nat) (m f : Nat) : bb_rd R (m + 1) f = bb_rd R m (if f.testBit m = true then f ^^^ R m else f) := rfl
def bb_m (b : Bool) (r : Nat) : Nat := if b = true then r else 0
theorem bb_mx (a b : Bool) (r : Nat) : bb_m (a ^^ b) r = bb_m a r ^^^ bb_m b r := by
  cases a <;> cases b <;> simp [bb_m]
theorem bb_stm (f m r : Nat) : (if f.testBit m = true then f ^^^ r else f) = f ^^^ bb_m (f.testBit m) r := by
  unfold bb_m
  by_cases c : f.testBit m = true
  · rw [if_pos c, if_pos c]
  · rw [if_neg c, if_neg c, Nat.xor_zero]
theorem bb_rdl (R : Nat → Nat) : ∀ m a b, bb_rd R m (a ^^^ b) = bb_rd R m a ^^^ bb_rd R m b := by
  intro m
  induction m with
  | zero => intro a b; rfl
  | succ m ih =>
    intro a b
    rw [bb_rds, bb_rds, bb_rds, ← ih, bb_stm, bb_stm, bb_stm, Nat.testBit_xor, bb_mx]
    exact congrArg (bb_rd R m) (bb_x7 _ _ _ _)
/-- what the walk gives -/
theorem bb_rdP {V : Nat → Prop} {R : Nat → Nat} (B : bb_B V R) : ∀ m f, m ≤ 16 → f < 65536 → bb_rd R m f < 65536 ∧ V (f ^^^ bb_rd R m f) ∧ (∀ i, i < m → R i ≠ 0 → (bb_rd R m f).testBit i = false) ∧ ∀ i, m ≤ i → (bb_rd R m f).testBit i = f.testBit i := by
  obtain ⟨⟨s0, s1, s2⟩, E1, E2⟩ := B
  intro m
  induction m with
  | zero =>
    intro f _ hf
    rw [bb_rd0]
    refine ⟨hf, ?_, fun i hi => absurd hi (by omega), fun _ _ => rfl⟩
    rw [Nat.xor_self]
    exact s0
  | succ m ih =>
    intro f hm hf
    rw [bb_rds]
    obtain ⟨e1, e2⟩ := E1 m (by omega)
    have hV : V (f ^^^ (if f.testBit m = true then f ^^^ R m else f)) := by
      by_cases c : f.testBit m = true
      · rw [if_pos c, bb_x1]
        exact e2
      · rw [if_neg c, Nat.xor_self]
        exact s0
    have hb : (if f.testBit m = true then f ^^^ R m else f) < 65536 := by
      by_cases c : f.testBit m = true
      · rw [if_pos c]
        exact bb_xlt hf (s2 _ e2)
      · rw [if_neg c]
        exact hf
    have h1 : R m ≠ 0 → (if f.testBit m = true then f ^^^ R m else f).testBit m = false := by
      intro z
      by_cases c : f.testBit m = true
      · rw [if_pos c, Nat.testBit_xor, c, (e1.resolve_left z).1] <;> rfl
      · rw [if_neg c]
        exact eq_false_of_ne_true c
    have h2 : ∀ i, m + 1 ≤ i → (if f.testBit m = true then f ^^^ R m else f).testBit i = f.testBit i := by
      intro i hi
      by_cases c : f.testBit m = true
      · rw [if_pos c, Nat.testBit_xor]
        have z : (R m).testBit i = false := by
          rcases e1 with e | e
          · rw [e, Nat.zero_testBit]
          · exact bb_Hup e hi
        rw [z, Bool.xor_false]
      · rw [if_neg c]
    generalize (if f.testBit m = true then f ^^^ R m else f) = f' at hV hb h1 h2 ⊢
    obtain ⟨i1, i2, i3, i4⟩ := ih f' (by omega) hb
    refine ⟨i1, ?_, ?_, ?_⟩
    · have z := s1 _ _ hV i2
      rw [bb_x2] at z
      exact z
    · intro i hi z
      rcases Nat.lt_or_ge i m with l | l
      · exact i3 i l z
      · have e : i = m := by omega
        subst e
        rw [i4 i (Nat.le_refl i)]
        exact h1 z
    · intro i hi
      rw [i4 i (by omega), h2 i hi]
/-- a polynomial without bound bits -/
def bb_F (R : Nat → Nat) (g : Nat) : Prop := ∀ i, i < 16 → R i ≠ 0 → g.testBit i = false
theorem bb_rb {V : Nat → Prop} {R : Nat → Nat} (B : bb_B V R) {f : Nat} (hf : f < 65536) : bb_rd R 16 f < 65536 := (bb_rdP B 16 f (Nat.le_refl _) hf).1
theorem bb_rV {V : Nat → Prop} {R : Nat → Nat} (B : bb_B V R) {f : Nat} (hf : f < 65536) : V (f ^^^ bb_rd R 16 f) := (bb_rdP B 16 f (Nat.le_refl _) hf).2.1
theorem bb_rF {V : Nat → Prop} {R : Nat → Nat} (B : bb_B V R) {f : Nat} (hf : f < 65536) : bb_F R (bb_rd R 16 f) := (bb_rdP B 16 f (Nat.le_refl _) hf).2.2.1
/-- there is one such alone -/
theorem bb_uq {V : Nat → Prop} {R : Nat → Nat} (B : bb_B V R) {g k : Nat} (hg : bb_F R g) (hk : bb_F R k) (hV : V (g ^^^ k)) : g = k := by
  by_cases c : g ^^^ k = 0
  · exact bb_x0 c
  · have hb := B.1.2.2 _ hV
    obtain ⟨h, h16, hH⟩ := bb_Hex 16 (g ^^^ k) hb c
    have z := B.2.2 _ h hV hH
    have e := hH.1
    rw [Nat.testBit_xor, hg h h16 z, hk h h16 z] at e
    exact absurd e (by decide)
theorem bb_F0 (R : Nat → Nat) : bb_F R 0 := fun i _ _ => Nat.zero_testBit i
theorem bb_in {V : Nat → Prop} {R : Nat → Nat} (B : bb_B V R) {f : Nat} (hf : f < 65536) : bb_rd R 16 f = 0 ↔ V f := by
  have hV := bb_rV B hf
  constructor
  · intro h
    rw [h, Nat.xor_zero] at hV
    exact hV
  · intro h
    refine bb_uq B (bb_rF B hf) (bb_F0 R) ?_
    have z := B.1.2.1 _ _ h hV
    rw [bb_x1] at z
    rw [Nat.xor_zero]
    exact z
/-- both sides' rows bind the same monomials -/
theorem bb_bd {V : Nat → Prop} {R Q : Nat → Nat} (B : bb_B V R) (C : bb_B V Q) {m : Nat} (hm : m < 16) (h : R m ≠ 0) : Q m ≠ 0 :=
  C.2.2 _ m (B.2.1 m hm).2 ((B.2.1 m hm).1.resolve_left h)
theorem bb_bd2 {V : Nat → Prop} {R Q : Nat → Nat} (B : bb_B V R) (C : bb_B V Q) {m : Nat} (hm : m < 16) : R m = 0 ↔ Q m = 0 := by
  constructor
  · intro h
    by_cases c : Q m = 0
    · exact c
    · exact absurd h (bb_bd C B hm c)
  · intro h
    by_cases c : R m = 0
    · exact c
    · exact absurd h (bb_bd B C hm c)
theorem bb_Fc {V : Nat → Prop} {R Q : Nat → Nat} (B : bb_B V R) (C : bb_B V Q) {g : Nat} (h : bb_F R g) : bb_F Q g := fun i hi z => h i hi (bb_bd C B hi z)
theorem bb_rq {V : Nat → Prop} {R Q : Nat → Nat} (B : bb_B V R) (C : bb_B V Q) {f : Nat} (hf : f < 65536) : bb_rd R 16 f = bb_rd Q 16 f := by
  refine bb_uq B (bb_rF B hf) (bb_Fc C B (bb_rF C hf)) ?_
  have z := B.1.2.1 _ _ (bb_rV B hf) (bb_rV C hf)
  rw [bb_x3] at z
  exact z
/-- a polynomial is put in: it reduces to 0 .. -/
theorem bb_k0 {V : Nat → Prop} {R : Nat → Nat} (B : bb_B V R) {x : Nat} (hx : x < 65536) (h : bb_rd R 16 x = 0) : bb_B (bb_add V x) R := by
  have hV := (bb_in B hx).mp h
  refine bb_Bc B ?_
  intro f
  constructor
  · exact fun z => Or.inl z
  · intro z
    rcases z with z | z
    · exact z
    · have y := B.1.2.1 _ _ z hV
      rw [bb_x6] at y
      exact y
/-- .. or to a new row -/
theorem bb_k1 {V : Nat → Prop} {R : Nat → Nat} (B : bb_B V R) {x h : Nat} (hx : x < 65536) (hh : bb_H (bb_rd R 16 x) h) : bb_B (bb_add V x) (bb_up R h (bb_rd R 16 x)) := by
  have h16 := bb_H16 hh (bb_rb B hx)
  refine bb_ins B hx h16 hh ?_ (bb_rV B hx)
  by_cases c : R h = 0
  · exact c
  · have z := bb_rF B hx h h16 c
    rw [hh.1] at z
    exact absurd z (by decide)
/-! ===== the rows are finished ===== -/
def bb_Q (R : Nat → Nat) (m : Nat) : Prop := ∀ j, j < m → R j ≠ 0 → bb_F R (R j ^^^ 2 ^ j)
theorem bb_fin {V : Nat → Prop} {R : Nat → Nat} (B : bb_B V R) {m : Nat} (hm : m < 16) (hR : R m ≠ 0) (q : bb_Q R m) : bb_B V (bb_up R m (2 ^ m ^^^ bb_rd R 16 (R m ^^^ 2 ^ m))) ∧ bb_Q (bb_up R m (2 ^ m ^^^ bb_rd R 16 (R m ^^^ 2 ^ m))) (m + 1) := by
  have hH : bb_H (R m) m := (B.2.1 m hm).1.resolve_left hR
  have hV : V (R m) := (B.2.1 m hm).2
  have hx : R m ^^^ 2 ^ m < 65536 := bb_xlt (B.1.2.2 _ hV) (bb_p16 hm)
  obtain ⟨g1, g2, g3, g4⟩ := bb_rdP B 16 _ (Nat.le_refl _) hx
  have gF : bb_F R (bb_rd R 16 (R m ^^^ 2 ^ m)) := g3
  have hx2 : R m ^^^ 2 ^ m < 2 ^ m := by
    apply bb_cut
    · exact Nat.xor_lt_two_pow hH.2 (Nat.pow_lt_pow_right (by omega) (by omega))
    · rw [Nat.testBit_xor, hH.1, Nat.testBit_two_pow_self]
      decide
  -- the walk brings in nothing above m
  have hlow : bb_rd R 16 (R m ^^^ 2 ^ m) < 2 ^ m := by
    by_cases c : bb_rd R 16 (R m ^^^ 2 ^ m) = 0
    · rw [c]
      exact Nat.two_pow_pos m
    · obtain ⟨h, h16, hh⟩ := bb_Hex 16 _ g1 c
      rcases Nat.lt_or_ge h m with l | l
      · exact Nat.lt_of_lt_of_le hh.2 (Nat.pow_le_pow_right (by omega) l)
      · exfalso
        have hne : h ≠ m := by
          intro e
          have z := gF h h16 (by rw [e]; exact hR)
          rw [hh.1] at z
          exact absurd z (by decide)
        have l2 : m < h := by omega
        have hy : bb_H ((R m ^^^ 2 ^ m) ^^^ bb_rd R 16 (R m ^^^ 2 ^ m)) h := by
          refine ⟨?_, ?_⟩
          · rw [Nat.testBit_xor, hh.1, Nat.testBit_lt_two_pow (Nat.lt_of_lt_of_le hx2 (Nat.pow_le_pow_right (by omega) (by omega)))] <;> rfl
          · exact Nat.xor_lt_two_pow (Nat.lt_of_lt_of_le hx2 (Nat.pow_le_pow_right (by omega) (by omega))) hh.2
        have z := gF h h16 (B.2.2 _ h g2 hy)
        rw [hh.1] at z
        exact absurd z (by decide)
  have e2 : 2 ^ m ^^^ bb_rd R 16 (R m ^^^ 2 ^ m) = R m ^^^ ((R m ^^^ 2 ^ m) ^^^ bb_rd R 16 (R m ^^^ 2 ^ m)) := by
    rw [Nat.xor_assoc, bb_x1]
  have nV : V (2 ^ m ^^^ bb_rd R 16 (R m ^^^ 2 ^ m)) := by
    rw [e2]
    exact B.1.2.1 _ _ hV g2
  have e3 : (2 ^ m ^^^ bb_rd R 16 (R m ^^^ 2 ^ m)) ^^^ 2 ^ m = bb_rd R 16 (R m ^^^ 2 ^ m) := by
    rw [Nat.xor_comm, bb_x1]
  generalize bb_rd R 16 (R m ^^^ 2 ^ m) = g at g1 gF hlow nV e3 ⊢
  have nH : bb_H (2 ^ m ^^^ g) m := by
    refine ⟨?_, Nat.xor_lt_two_pow (Nat.pow_lt_pow_right (by omega) (by omega)) (Nat.lt_of_lt_of_le hlow (Nat.pow_le_pow_right (by omega) (by omega)))⟩
    rw [Nat.testBit_xor, Nat.testBit_two_pow_self, Nat.testBit_lt_two_pow hlow] <;> rfl
  have hz : ∀ i, bb_up R m (2 ^ m ^^^ g) i ≠ 0 → R i ≠ 0 := by
    intro i hi
    by_cases e : i = m
    · rw [e]
      exact hR
    · rw [bb_upn _ _ e] at hi
      exact hi
  refine ⟨⟨B.1, ?_, ?_⟩, ?_⟩
  · intro i hi
    by_cases e : i = m
    · subst e
      rw [bb_ups]
      exact ⟨Or.inr nH, nV⟩
    · rw [bb_upn _ _ e]
      exact B.2.1 i hi
  · intro f h hf hh
    by_cases e : h = m
    · subst e
      rw [bb_ups]
      exact bb_Hne nH
    · rw [bb_upn _ _ e]
      exact B.2.2 f h hf hh
  · intro j hj z i hi y
    by_cases e : j = m
    · subst e
      rw [bb_ups, e3]
      exact gF i hi (hz i y)
    · rw [bb_upn _ _ e]
      exact q j (by omega) (hz j z) i hi (hz i y)
theorem bb_fin0 {R : Nat → Nat} {m : Nat} (hR : R m = 0) (q : bb_Q R m) : bb_Q R (m + 1) := by
  intro j hj z
  by_cases e : j = m
  · rw [e] at z
    exact absurd hR z
  · exact q j (by omega) z
/-- a finished row is its head and its head's rest -/
theorem bb_at {V : Nat → Prop} {R Y : Nat → Nat} (B : bb_B V R) (C : bb_B V Y) (q : bb_Q R 16) {m : Nat} (hm : m < 16) (hR : R m ≠ 0) : 2 ^ m ^^^ bb_rd Y 16 (2 ^ m) = R m := by
  have hp := bb_p16 hm
  have e : R m ^^^ 2 ^ m = bb_rd Y 16 (2 ^ m) := by
    refine bb_uq C (bb_Fc B C (q m hm hR)) (bb_rF C hp) ?_
    rw [Nat.xor_assoc]
    exact C.1.2.1 _ _ (B.2.1 m hm).2 (bb_rV C hp)
  rw [← e, Nat.xor_comm, bb_x6]
