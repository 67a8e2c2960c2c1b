/-! ===== the polynomials that are 0 at the points Z, from either side ===== -/
def bb_V (Z f : Nat) : Prop := f < 65536 ∧ ∀ q, q < 16 → Z.testBit q = true → (bb_T f).testBit q = false
theorem bb_Tz {f : Nat} (hf : f < 65536) (h : ∀ q, q < 16 → (bb_T f).testBit q = false) : f = 0 := by
  have e : bb_T f = 0 := by
    apply Nat.eq_of_testBit_eq
    intro i
    rw [Nat.zero_testBit]
    rcases Nat.lt_or_ge i 16 with l | l
    · exact h i l
    · exact bb_hi (bb_Tb hf) l
  rw [← bb_TT hf, e, bb_T0]
def bb_VX (Z j f : Nat) : Prop := f < 65536 ∧ ∀ q, q < 16 → (bb_T f).testBit q = true → q < j ∧ Z.testBit q = false
theorem bb_VX0 (Z f : Nat) : f = 0 ↔ bb_VX Z 0 f := by
  constructor
  · intro e
    subst e
    refine ⟨by omega, ?_⟩
    intro q _ h
    rw [bb_T0, Nat.zero_testBit] at h
    exact absurd h (by decide)
  · intro h
    refine bb_Tz h.1 ?_
    intro q hq
    by_cases c : (bb_T f).testBit q = true
    · exact absurd (h.2 q hq c).1 (Nat.not_lt_zero _)
    · exact eq_false_of_ne_true c
theorem bb_VX1 {Z j : Nat} (hZ : Z.testBit j = true) (f : Nat) : bb_VX Z j f ↔ bb_VX Z (j + 1) f := by
  constructor
  · intro h
    exact ⟨h.1, fun q hq c => ⟨Nat.lt_succ_of_lt (h.2 q hq c).1, (h.2 q hq c).2⟩⟩
  · intro h
    refine ⟨h.1, fun q hq c => ⟨?_, (h.2 q hq c).2⟩⟩
    have a := h.2 q hq c
    rcases Nat.lt_or_ge q j with l | l
    · exact l
    · have e : q = j := by omega
      rw [e, hZ] at a
      exact absurd a.2 (by decide)
theorem bb_VX2 {Z j : Nat} (hj : j < 16) (hZ : Z.testBit j = false) (f : Nat) : bb_add (bb_VX Z j) (bb_T (2 ^ j)) f ↔ bb_VX Z (j + 1) f := by
  have hp := bb_p16 hj
  have hT : ∀ f, bb_T (f ^^^ bb_T (2 ^ j)) = bb_T f ^^^ 2 ^ j := by
    intro f
    rw [bb_Tl, bb_TT hp]
  constructor
  · intro h
    rcases h with h | h
    · exact ⟨h.1, fun q hq c => ⟨Nat.lt_succ_of_lt (h.2 q hq c).1, (h.2 q hq c).2⟩⟩
    · have hf : f < 65536 := by
        have z := bb_xlt h.1 (bb_Tb hp)
        rw [bb_x6] at z
        exact z
      refine ⟨hf, fun q hq c => ?_⟩
      by_cases e : q = j
      · rw [e]
        exact ⟨Nat.lt_succ_self j, hZ⟩
      · have z := h.2 q hq (by rw [hT, Nat.testBit_xor, c, Nat.testBit_two_pow_of_ne (Ne.symm e)] <;> rfl)
        exact ⟨Nat.lt_succ_of_lt z.1, z.2⟩
  · intro h
    by_cases c : (bb_T f).testBit j = true
    · refine Or.inr ⟨bb_xlt h.1 (bb_Tb hp), fun q hq d => ?_⟩
      rw [hT, Nat.testBit_xor] at d
      by_cases e : q = j
      · rw [e, c, Nat.testBit_two_pow_self] at d
        exact absurd d (by decide)
      · rw [Nat.testBit_two_pow_of_ne (Ne.symm e), Bool.xor_false] at d
        have z := h.2 q hq d
        exact ⟨by omega, z.2⟩
    · refine Or.inl ⟨h.1, fun q hq d => ?_⟩
      have z := h.2 q hq d
      by_cases e : q = j
      · rw [e] at d
        exact absurd d c
      · exact ⟨by omega, z.2⟩
theorem bb_VXe (Z f : Nat) : bb_VX Z 16 f ↔ bb_V Z f := by
  constructor
  · intro h
    refine ⟨h.1, fun q hq c => ?_⟩
    by_cases d : (bb_T f).testBit q = true
    · have z := (h.2 q hq d).2
      rw [c] at z
      exact absurd z (by decide)
    · exact eq_false_of_ne_true d
  · intro h
    refine ⟨h.1, fun q hq c => ⟨hq, ?_⟩⟩
    by_cases d : Z.testBit q = true
    · have z := h.2 q hq d
      rw [c] at z
      exact absurd z (by decide)
    · exact eq_false_of_ne_true d
def bb_VY (Z g j f : Nat) : Prop := f < 65536 ∧ ∃ w, w < 2 ^ j ∧ bb_V Z (f ^^^ bb_P g w)
theorem bb_VY0 (Z g f : Nat) : bb_V Z f ↔ bb_VY Z g 0 f := by
  constructor
  · intro h
    refine ⟨h.1, 0, by decide, ?_⟩
    rw [bb_P0, Nat.xor_zero]
    exact h
  · intro h
    obtain ⟨_, w, hw, h⟩ := h
    have e : w = 0 := by
      rw [Nat.pow_zero] at hw
      omega
    rw [e, bb_P0, Nat.xor_zero] at h
    exact h
theorem bb_xcut {w j : Nat} (hw : w < 2 ^ (j + 1)) (c : w.testBit j = true) : w ^^^ 2 ^ j < 2 ^ j := by
  apply bb_cut
  · exact Nat.xor_lt_two_pow hw (Nat.pow_lt_pow_right (by omega) (by omega))
  · rw [Nat.testBit_xor, c, Nat.testBit_two_pow_self]
    decide
theorem bb_VYs (Z : Nat) {g j : Nat} (hj : j < 16) (f : Nat) : bb_add (bb_VY Z g j) (bb_P g (2 ^ j)) f ↔ bb_VY Z g (j + 1) f := by
  have hp := bb_p16 hj
  have hl : 2 ^ j < 2 ^ (j + 1) := Nat.pow_lt_pow_right (by omega) (by omega)
  constructor
  · intro h
    rcases h with h | h
    · obtain ⟨hf, w, hw, h⟩ := h
      exact ⟨hf, w, Nat.lt_trans hw hl, h⟩
    · obtain ⟨hf, w, hw, h⟩ := h
      refine ⟨?_, 2 ^ j ^^^ w, Nat.xor_lt_two_pow hl (Nat.lt_trans hw hl), ?_⟩
      · have z := bb_xlt hf (bb_Pb (f := g) hp)
        rw [bb_x6] at z
        exact z
      · rw [bb_Pr, ← Nat.xor_assoc]
        exact h
  · intro h
    obtain ⟨hf, w, hw, h⟩ := h
    by_cases c : w.testBit j = true
    · refine Or.inr ⟨bb_xlt hf (bb_Pb hp), w ^^^ 2 ^ j, bb_xcut hw c, ?_⟩
      rw [bb_Pr, bb_x5]
      exact h
    · exact Or.inl ⟨hf, w, bb_cut hw c, h⟩
theorem bb_1s {q : Nat} (h : q < 16) : (65535 : Nat).testBit q = true := by
  exact (by decide +kernel : ∀ q, q < 16 → (65535 : Nat).testBit q = true) q h
theorem bb_nt (a : Nat) {q : Nat} (h : q < 16) : (65535 ^^^ a).testBit q = !(a.testBit q) := by
  rw [Nat.testBit_xor, bb_1s h]
  cases a.testBit q <;> rfl
theorem bb_VYe (Z : Nat) (g f : Nat) : bb_VY Z g 16 f ↔ bb_V (Z &&& (65535 ^^^ bb_T g)) f := by
  constructor
  · intro h
    obtain ⟨hf, w, hw, h⟩ := h
    refine ⟨hf, fun q hq c => ?_⟩
    rw [Nat.testBit_and, bb_nt _ hq] at c
    have z := h.2 q hq
    rw [bb_Tl, bb_PT (show w < 65536 from hw), Nat.testBit_xor, Nat.testBit_and] at z
    revert c z
    generalize Z.testBit q = z1
    generalize (bb_T g).testBit q = z2
    generalize (bb_T f).testBit q = z3
    generalize (bb_T w).testBit q = z4
    cases z1 <;> cases z2 <;> cases z3 <;> cases z4 <;> first | decide | simp
  · intro h
    refine ⟨h.1, f, h.1, bb_xlt h.1 (bb_Pb h.1), fun q hq c => ?_⟩
    have z := h.2 q hq
    rw [Nat.testBit_and, bb_nt _ hq] at z
    rw [bb_Tl, bb_PT h.1, Nat.testBit_xor, Nat.testBit_and]
    revert c z
    generalize Z.testBit q = z1
    generalize (bb_T g).testBit q = z2
    generalize (bb_T f).testBit q = z3
    cases z1 <;> cases z2 <;> cases z3 <;> first | decide | simp
theorem bb_V0 (f : Nat) : f = 0 ↔ bb_V 65535 f := by
  constructor
  · intro e
    subst e
    refine ⟨by omega, fun q _ _ => ?_⟩
    rw [bb_T0, Nat.zero_testBit]
  · intro h
    exact bb_Tz h.1 fun q hq => h.2 q hq (bb_1s hq)
/-- the common zeros of those generators below n whose bit is in P -/
def bb_Z (P : Nat) (g : Nat → Nat) : Nat → Nat
  | 0 => 65535
  | n + 1 => if P.testBit n = true then bb_Z P g n &&& (65535 ^^^ bb_T (g n)) else bb_Z P g n
theorem bb_Z1 {P : Nat} (g : Nat → Nat) {n : Nat} (c : P.testBit n = true) : bb_Z P g (n + 1) = bb_Z P g n &&& (65535 ^^^ bb_T (g n)) := by
  show (if P.testBit n = true then bb_Z P g n &&& (65535 ^^^ bb_T (g n)) else bb_Z P g n) = _
  rw [if_pos c]
theorem bb_Z2 {P : Nat} (g : Nat → Nat) {n : Nat} (c : P.testBit n = false) : bb_Z P g (n + 1) = bb_Z P g n := by
  show (if P.testBit n = true then bb_Z P g n &&& (65535 ^^^ bb_T (g n)) else bb_Z P g n) = _
  rw [if_neg (by rw [c]; decide)]
theorem bb_Zb (P : Nat) (g : Nat → Nat) : ∀ n, bb_Z P g n < 65536 := by
  intro n
  induction n with
  | zero => exact Nat.lt_succ_self 65535
  | succ n ih =>
    by_cases c : P.testBit n = true
    · rw [bb_Z1 g c]
      exact Nat.lt_of_le_of_lt Nat.and_le_left ih
    · rw [bb_Z2 g (eq_false_of_ne_true c)]
      exact ih
/-! ===== relates: the values of some variables alone ===== -/
def bb_W (v m w : Nat) : Prop := w < 2 ^ m ∧ ∀ i, w.testBit i = true → i &&& v = i
theorem bb_Wm {v m n w : Nat} (h : bb_W v m w) (l : m ≤ n) : bb_W v n w := ⟨Nat.lt_of_lt_of_le h.1 (Nat.pow_le_pow_right (by omega) l), h.2⟩
theorem bb_Wx {v m w : Nat} (h : bb_W v (m + 1) w) (c : w.testBit m = true) : bb_W v m (w ^^^ 2 ^ m) := by
  have l := bb_xcut h.1 c
  refine ⟨l, fun i d => ?_⟩
  by_cases e : m = i
  · rw [← e, Nat.testBit_lt_two_pow l] at d
    exact absurd d (by decide)
  · rw [Nat.testBit_xor, Nat.testBit_two_pow_of_ne e, Bool.xor_false] at d
    exact h.2 i d
theorem bb_Wy {v m w : Nat} (h : bb_W v m w) (c : m &&& v = m) : bb_W v (m + 1) (w ^^^ 2 ^ m) := by
  have hl : 2 ^ m < 2 ^ (m + 1) := Nat.pow_lt_pow_right (by omega) (by omega)
  refine ⟨Nat.xor_lt_two_pow (Nat.lt_trans h.1 hl) hl, fun i d => ?_⟩
  by_cases e : m = i
  · rw [← e]
    exact c
  · rw [Nat.testBit_xor, Nat.testBit_two_pow_of_ne e, Bool.xor_false] at d
    exact h.2 i d
theorem bb_Wn {v m w : Nat} (h : bb_W v (m + 1) w) (c : ¬ w.testBit m = true) : bb_W v m w := ⟨bb_cut h.1 c, h.2⟩
theorem bb_Ws {v m : Nat} (c : ¬ m &&& v = m) (w : Nat) : bb_W v m w ↔ bb_W v (m + 1) w :=
  ⟨fun h => bb_Wm h (by omega), fun h => bb_Wn h fun d => c (h.2 m d)⟩
/-- such a polynomial looks at the variables v alone -/
theorem bb_Wv {v : Nat} : ∀ n, n ≤ 16 → ∀ w, bb_W v n w → ∀ q, q < 16 → (bb_T w).testBit q = (bb_T w).testBit (q &&& v) := by
  intro n
  induction n with
  | zero =>
    intro _ w h q _
    have e : w = 0 := by
      have z := h.1
      rw [Nat.pow_zero] at z
      omega
    rw [e, bb_T0, Nat.zero_testBit, Nat.zero_testBit]
  | succ n ih =>
    intro hn w h q hq
    by_cases c : w.testBit n = true
    · have z := ih (by omega) _ (bb_Wx h c) q hq
      have y : (bb_T (2 ^ n)).testBit q = (bb_T (2 ^ n)).testBit (q &&& v) := by
        rw [bb_Tp n (by omega) q hq, bb_Tp n (by omega) (q &&& v) (Nat.lt_of_le_of_lt Nat.and_le_left hq), Nat.and_comm q v, ← Nat.and_assoc, h.2 n c]
      have e : bb_T w = bb_T (w ^^^ 2 ^ n) ^^^ bb_T (2 ^ n) := by rw [← bb_Tl, bb_x6]
      rw [e, Nat.testBit_xor, Nat.testBit_xor, z, y]
    · exact ih (by omega) w (bb_Wn h c) q hq
def bb_po (v : Nat) : Nat → Nat
  | 0 => 0
  | n + 1 => bb_po v n ||| 2 ^ (n &&& v)
def bb_oc (Z v : Nat) : Nat → Nat
  | 0 => 0
  | n + 1 => if Z.testBit n = true then bb_oc Z v n ||| 2 ^ (n &&& v) else bb_oc Z v n
theorem bb_oc1 {Z : Nat} (v : Nat) {n : Nat} (c : Z.testBit n = true) : bb_oc Z v (n + 1) = bb_oc Z v n ||| 2 ^ (n &&& v) := by
  show (if Z.testBit n = true then bb_oc Z v n ||| 2 ^ (n &&& v) else bb_oc Z v n) = _
  rw [if_pos c]
theorem bb_oc2 {Z : Nat} (v : Nat) {n : Nat} (c : Z.testBit n = false) : bb_oc Z v (n + 1) = bb_oc Z v n := by
  show (if Z.testBit n = true then bb_oc Z v n ||| 2 ^ (n &&& v) else bb_oc Z v n) = _
  rw [if_neg (by rw [c]; decide)]
theorem bb_pot (v : Nat) : ∀ n a, (bb_po v n).testBit a = true ↔ ∃ p, p < n ∧ p &&& v = a := by
  intro n
  induction n with
  | zero =>
    intro a
    show (0 : Nat).testBit a = true ↔ _
    rw [Nat.zero_testBit]
    exact ⟨fun h => absurd h (by decide), fun ⟨p, hp, _⟩ => absurd hp (Nat.not_lt_zero p)⟩
  | succ n ih =>
    intro a
    show (bb_po v n ||| 2 ^ (n &&& v)).testBit a = true ↔ _
    rw [Nat.testBit_or, Nat.testBit_two_pow, Bool.or_eq_true, ih a, decide_eq_true_iff]
    constructor
    · intro h
      rcases h with h | h
      · obtain ⟨p, hp, e⟩ := h
        exact ⟨p, by omega, e⟩
      · exact ⟨n, by omega, h⟩
    · intro h
      obtain ⟨p, hp, e⟩ := h
      by_cases c : p = n
      · rw [c] at e
        exact Or.inr e
      · exact Or.inl ⟨p, by omega, e⟩
theorem bb_oct (Z v : Nat) : ∀ n a, (bb_oc Z v n).testBit a = true ↔ ∃ p, p < n ∧ Z.testBit p = true ∧ p &&& v = a := by
  intro n
  induction n with
  | zero =>
    intro a
    show (0 : Nat).testBit a = true ↔ _
    rw [Nat.zero_testBit]
    exact ⟨fun h => absurd h (by decide), fun ⟨p, hp, _⟩ => absurd hp (Nat.not_lt_zero p)⟩
  | succ n ih =>
    intro a
    by_cases z : Z.testBit n = true
    · rw [bb_oc1 v z, Nat.testBit_or, Nat.testBit_two_pow, Bool.or_eq_true, ih a, decide_eq_true_iff]
      constructor
      · intro h
        rcases h with h | h
        · obtain ⟨p, hp, e⟩ := h
          exact ⟨p, by omega, e⟩
        · exact ⟨n, by omega, z, h⟩
      · intro h
        obtain ⟨p, hp, y, e⟩ := h
        by_cases c : p = n
        · rw [c] at e
          exact Or.inr e
        · exact Or.inl ⟨p, by omega, y, e⟩
    · rw [bb_oc2 v (eq_false_of_ne_true z), ih a]
      constructor
      · intro h
        obtain ⟨p, hp, e⟩ := h
        exact ⟨p, by omega, e⟩
      · intro h
        obtain ⟨p, hp, y, e⟩ := h
        by_cases c : p = n
        · rw [c] at y
          exact absurd y z
        · exact ⟨p, by omega, y, e⟩
theorem bb_pob {v : Nat} (hv : v < 16) (n : Nat) : bb_po v n < 65536 := by
  apply bb_lt
  intro i hi
  apply eq_false_of_ne_true
  intro h
  obtain ⟨p, _, e⟩ := (bb_pot v n i).mp h
  have z : p &&& v ≤ v := Nat.and_le_right
  omega
theorem bb_ocb (Z : Nat) {v : Nat} (hv : v < 16) (n : Nat) : bb_oc Z v n < 65536 := by
  apply bb_lt
  intro i hi
  apply eq_false_of_ne_true
  intro h
  obtain ⟨p, _, _, e⟩ := (bb_oct Z v n i).mp h
  have z : p &&& v ≤ v := Nat.and_le_right
  omega
def bb_id (v a : Nat) : Nat → Nat
  | 0 => 0
  | n + 1 => bb_id v a n ||| (if n &&& v = a then 2 ^ n else 0)
theorem bb_idt : ∀ v, v < 16 → ∀ a, a < 16 → ∀ q, q < 16 → (bb_id v a 16).testBit q = decide (q &&& v = a) := by decide +kernel
theorem bb_idw : ∀ v, v < 16 → ∀ a, a < 16 → ∀ i, i < 16 → (bb_T (bb_id v a 16)).testBit i = true → i &&& v = i := by decide +kernel
theorem bb_idb : ∀ v, v < 16 → ∀ a, a < 16 → bb_id v a 16 < 65536 := by decide +kernel
theorem bb_rel {Z v : Nat} (hv : v < 16) : bb_oc Z v 16 ≠ bb_po v 16 ↔ ∃ w, w ≠ 0 ∧ bb_W v 16 w ∧ bb_V Z w := by
  constructor
  · intro h
    obtain ⟨a, ha⟩ := Nat.exists_testBit_ne_of_ne h
    have hoc : ∀ x, (bb_oc Z v 16).testBit x = true → (bb_po v 16).testBit x = true := by
      intro x hx
      obtain ⟨p, hp, _, e⟩ := (bb_oct Z v 16 x).mp hx
      exact (bb_pot v 16 x).mpr ⟨p, hp, e⟩
    have hp : (bb_po v 16).testBit a = true := by
      by_cases c : (bb_oc Z v 16).testBit a = true
      · exact hoc a c
      · by_cases d : (bb_po v 16).testBit a = true
        · exact d
        · rw [eq_false_of_ne_true c, eq_false_of_ne_true d] at ha
          exact absurd rfl ha
    have ho : ¬ (bb_oc Z v 16).testBit a = true := by
      intro c
      rw [c, hp] at ha
      exact absurd rfl ha
    obtain ⟨p, hp16, e⟩ := (bb_pot v 16 a).mp hp
    have a16 : a < 16 := by
      have z : p &&& v ≤ v := Nat.and_le_right
      omega
    have hb := bb_idb v hv a a16
    have hT : bb_T (bb_T (bb_id v a 16)) = bb_id v a 16 := bb_TT hb
    refine ⟨bb_T (bb_id v a 16), ?_, ⟨bb_Tb hb, ?_⟩, bb_Tb hb, ?_⟩
    · intro z
      rw [z, bb_T0] at hT
      have y := bb_idt v hv a a16 p hp16
      rw [← hT, Nat.zero_testBit, decide_eq_true e] at y
      exact absurd y (by decide)
    · intro i hi
      exact bb_idw v hv a a16 i (bb_b16 (bb_Tb hb) hi) hi
    · intro q hq hz
      rw [hT, bb_idt v hv a a16 q hq]
      apply decide_eq_false
      intro y
      exact ho ((bb_oct Z v 16 a).mpr ⟨q, hq, hz, y⟩)
  · intro h e
    obtain ⟨w, w0, hW, hV⟩ := h
    have hT : bb_T w ≠ 0 := by
      intro z
      have y := bb_TT hV.1
      rw [z, bb_T0] at y
      exact w0 y.symm
    obtain ⟨q, hq⟩ := Nat.exists_testBit_of_ne_zero hT
    have q16 := bb_b16 (bb_Tb hV.1) hq
    have hpo := (bb_pot v 16 (q &&& v)).mpr ⟨q, q16, rfl⟩
    rw [← e] at hpo
    obtain ⟨z, z16, hz, ez⟩ := (bb_oct Z v 16 (q &&& v)).mp hpo
    have y := hV.2 z z16 hz
    rw [bb_Wv 16 (Nat.le_refl _) w hW z z16, ez, ← bb_Wv 16 (Nat.le_refl _) w hW q q16, hq] at y
    exact absurd y (by decide)
/-- the rests of such polynomials below 2^m -/
def bb_O (R : Nat → Nat) (v m g : Nat) : Prop := ∃ w, bb_W v m w ∧ g = bb_rd R 16 w
def bb_J (R : Nat → Nat) (v m : Nat) : Prop := ∀ w, bb_W v m w → bb_rd R 16 w = 0 → w = 0
def bb_K (R : Nat → Nat) (v : Nat) : Prop := ∃ w, w ≠ 0 ∧ bb_W v 16 w ∧ bb_rd R 16 w = 0
theorem bb_W0 {v w : Nat} (h : bb_W v 0 w) : w = 0 := by
  have z := h.1
  rw [Nat.pow_zero] at z
  omega
theorem bb_O0 (R : Nat → Nat) (v g : Nat) : g = 0 ↔ bb_O R v 0 g := by
  have e0 : bb_rd R 16 0 = 0 := bb_l0 (bb_rdl R 16)
  constructor
  · intro e
    refine ⟨0, ⟨by decide, fun i h => ?_⟩, by rw [e, e0]⟩
    rw [Nat.zero_testBit] at h
    exact absurd h (by decide)
  · intro h
    obtain ⟨w, hw, e⟩ := h
    rw [e, bb_W0 hw, e0]
theorem bb_J0 (R : Nat → Nat) (v : Nat) : bb_J R v 0 := fun _ h _ => bb_W0 h
theorem bb_Os (R : Nat → Nat) {v m : Nat} (c : ¬ m &&& v = m) (g : Nat) : bb_O R v m g ↔ bb_O R v (m + 1) g :=
  ⟨fun ⟨w, h, e⟩ => ⟨w, (bb_Ws c w).mp h, e⟩, fun ⟨w, h, e⟩ => ⟨w, (bb_Ws c w).mpr h, e⟩⟩
theorem bb_Js {R : Nat → Nat} {v m : Nat} (c : ¬ m &&& v = m) (j : bb_J R v m) : bb_J R v (m + 1) :=
  fun w h e => j w ((bb_Ws c w).mpr h) e
theorem bb_Oa (R : Nat → Nat) {v m : Nat} (c : m &&& v = m) (g : Nat) : bb_add (bb_O R v m) (bb_rd R 16 (2 ^ m)) g ↔ bb_O R v (m + 1) g := by
  constructor
  · intro h
    rcases h with h | h
    · obtain ⟨w, h, e⟩ := h
      exact ⟨w, bb_Wm h (by omega), e⟩
    · obtain ⟨w, h, e⟩ := h
      refine ⟨w ^^^ 2 ^ m, bb_Wy h c, ?_⟩
      rw [bb_rdl, ← e, bb_x6]
  · intro h
    obtain ⟨w, h, e⟩ := h
    by_cases d : w.testBit m = true
    · refine Or.inr ⟨w ^^^ 2 ^ m, bb_Wx h d, ?_⟩
      rw [bb_rdl, e]
    · exact Or.inl ⟨w, bb_Wn h d, e⟩
theorem bb_Ja {R : Nat → Nat} {v m : Nat} (j : bb_J R v m) (n : ¬ bb_O R v m (bb_rd R 16 (2 ^ m))) : bb_J R v (m + 1) := by
  intro w h e
  by_cases d : w.testBit m = true
  · refine absurd ⟨w ^^^ 2 ^ m, bb_Wx h d, ?_⟩ n
    rw [bb_rdl, e, Nat.zero_xor]
  · exact j w (bb_Wn h d) e
theorem bb_Kf {R : Nat → Nat} {v m : Nat} (hm : m < 16) (c : m &&& v = m) (o : bb_O R v m (bb_rd R 16 (2 ^ m))) : bb_K R v := by
  obtain ⟨w, h, e⟩ := o
  refine ⟨w ^^^ 2 ^ m, ?_, bb_Wm (bb_Wy h c) hm, ?_⟩
  · intro z
    have y := bb_x0 z
    have l := h.1
    rw [y] at l
    exact absurd l (Nat.lt_irrefl _)
  · rw [bb_rdl, ← e, Nat.xor_self]
theorem bb_Kr {Z : Nat} {R : Nat → Nat} {v : Nat} (B : bb_B (bb_V Z) R) : bb_K R v ↔ ∃ w, w ≠ 0 ∧ bb_W v 16 w ∧ bb_V Z w := by
  constructor
  · intro h
    obtain ⟨w, a, b, c⟩ := h
    exact ⟨w, a, b, (bb_in B b.1).mp c⟩
  · intro h
    obtain ⟨w, a, b, c⟩ := h
    exact ⟨w, a, b, (bb_in B b.1).mpr c⟩
