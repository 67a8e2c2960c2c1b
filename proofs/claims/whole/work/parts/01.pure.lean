/-! ===== naturals as sets of bits: exclusive or, the transform, products ===== -/
theorem bb_x1 (a b : Nat) : a ^^^ (a ^^^ b) = b := by
  apply Nat.eq_of_testBit_eq
  intro i
  rw [Nat.testBit_xor, Nat.testBit_xor]
  cases a.testBit i <;> cases b.testBit i <;> rfl
theorem bb_x2 (a b c : Nat) : (a ^^^ b) ^^^ (b ^^^ c) = a ^^^ c := by
  apply Nat.eq_of_testBit_eq
  intro i
  rw [Nat.testBit_xor, Nat.testBit_xor, Nat.testBit_xor, Nat.testBit_xor]
  cases a.testBit i <;> cases b.testBit i <;> cases c.testBit i <;> rfl
theorem bb_x3 (a b c : Nat) : (a ^^^ b) ^^^ (a ^^^ c) = b ^^^ c := by
  apply Nat.eq_of_testBit_eq
  intro i
  rw [Nat.testBit_xor, Nat.testBit_xor, Nat.testBit_xor, Nat.testBit_xor]
  cases a.testBit i <;> cases b.testBit i <;> cases c.testBit i <;> rfl
theorem bb_x4 (a b c : Nat) : (a ^^^ b) ^^^ c = (a ^^^ c) ^^^ b := by
  apply Nat.eq_of_testBit_eq
  intro i
  rw [Nat.testBit_xor, Nat.testBit_xor, Nat.testBit_xor, Nat.testBit_xor]
  cases a.testBit i <;> cases b.testBit i <;> cases c.testBit i <;> rfl
theorem bb_x5 (a b c : Nat) : (a ^^^ c) ^^^ (b ^^^ c) = a ^^^ b := by
  apply Nat.eq_of_testBit_eq
  intro i
  rw [Nat.testBit_xor, Nat.testBit_xor, Nat.testBit_xor, Nat.testBit_xor]
  cases a.testBit i <;> cases b.testBit i <;> cases c.testBit i <;> rfl
theorem bb_x6 (a b : Nat) : (a ^^^ b) ^^^ b = a := by
  apply Nat.eq_of_testBit_eq
  intro i
  rw [Nat.testBit_xor, Nat.testBit_xor]
  cases a.testBit i <;> cases b.testBit i <;> rfl
theorem bb_x7 (a b c d : Nat) : (a ^^^ b) ^^^ (c ^^^ d) = (a ^^^ c) ^^^ (b ^^^ d) := by
  apply Nat.eq_of_testBit_eq
  intro i
  simp only [Nat.testBit_xor]
  cases a.testBit i <;> cases b.testBit i <;> cases c.testBit i <;> cases d.testBit i <;> rfl
theorem bb_x0 {a b : Nat} (h : a ^^^ b = 0) : a = b := by
  have e : a ^^^ (a ^^^ b) = b := bb_x1 a b
  rw [h, Nat.xor_zero] at e
  exact e
theorem bb_xlt {a b : Nat} (ha : a < 65536) (hb : b < 65536) : a ^^^ b < 65536 := Nat.xor_lt_two_pow (n := 16) ha hb
theorem bb_hi {f i : Nat} (h : f < 65536) (hi : 16 ≤ i) : f.testBit i = false :=
  Nat.testBit_lt_two_pow (Nat.lt_of_lt_of_le (show f < 2 ^ 16 from h) (Nat.pow_le_pow_right (by omega) hi))
theorem bb_b16 {f i : Nat} (h : f < 65536) (hi : f.testBit i = true) : i < 16 := by
  rcases Nat.lt_or_ge i 16 with z | z
  · exact z
  · rw [bb_hi h z] at hi
    exact absurd hi (by decide)
theorem bb_lt {f : Nat} (h : ∀ i, 16 ≤ i → f.testBit i = false) : f < 65536 := Nat.lt_pow_two_of_testBit (n := 16) f h
theorem bb_p16 {p : Nat} (h : p < 16) : 2 ^ p < 65536 := Nat.pow_lt_pow_right (a := 2) (n := 16) (by omega) h
theorem bb_lo (f n : Nat) : f % 2 ^ (n + 1) = (f % 2 ^ n) ^^^ (if f.testBit n = true then 2 ^ n else 0) := by
  apply Nat.eq_of_testBit_eq
  intro i
  rw [Nat.testBit_xor, Nat.testBit_mod_two_pow, Nat.testBit_mod_two_pow]
  by_cases h : f.testBit n = true
  · rw [if_pos h, Nat.testBit_two_pow]
    by_cases e : n = i
    · subst e
      simp [h]
    · by_cases l : i < n
      · have l2 : i < n + 1 := by omega
        simp [l, l2, e]
      · have l2 : ¬ i < n + 1 := by omega
        simp [l, l2, e]
  · rw [if_neg h, Nat.zero_testBit, Bool.xor_false]
    by_cases e : n = i
    · subst e
      rw [eq_false_of_ne_true h, Bool.and_false, Bool.and_false]
    · by_cases l : i < n
      · have l2 : i < n + 1 := by omega
        simp [l, l2]
      · have l2 : ¬ i < n + 1 := by omega
        simp [l, l2]
theorem bb_l0 {F : Nat → Nat} (h : ∀ a b, F (a ^^^ b) = F a ^^^ F b) : F 0 = 0 := by
  have e := h 0 0
  rw [Nat.xor_self (F 0)] at e
  exact e
theorem bb_ext {F G : Nat → Nat} (hF : ∀ a b, F (a ^^^ b) = F a ^^^ F b) (hG : ∀ a b, G (a ^^^ b) = G a ^^^ G b) (n : Nat) (h : ∀ p, p < n → F (2 ^ p) = G (2 ^ p)) : ∀ f, F (f % 2 ^ n) = G (f % 2 ^ n) := by
  induction n with
  | zero =>
    intro f
    rw [Nat.pow_zero, Nat.mod_one, bb_l0 hF, bb_l0 hG]
  | succ n ih =>
    intro f
    rw [bb_lo, hF, hG, ih (fun p hp => h p (by omega)) f]
    by_cases c : f.testBit n = true
    · rw [if_pos c, h n (by omega)]
    · rw [if_neg c, bb_l0 hF, bb_l0 hG]
theorem bb_ext16 {F G : Nat → Nat} (hF : ∀ a b, F (a ^^^ b) = F a ^^^ F b) (hG : ∀ a b, G (a ^^^ b) = G a ^^^ G b) (h : ∀ p, p < 16 → F (2 ^ p) = G (2 ^ p)) {f : Nat} (hf : f < 65536) : F f = G f := by
  have e := bb_ext hF hG 16 h f
  rw [Nat.mod_eq_of_lt (show f < 2 ^ 16 from hf)] at e
  exact e
/-- one step of the transform -/
def bb_t (c w f : Nat) : Nat := f ^^^ ((f &&& c) * 2 ^ w)
/-- a polynomial turned into its values at the points -/
def bb_T (f : Nat) : Nat := bb_t 255 8 (bb_t 3855 4 (bb_t 13107 2 (bb_t 21845 1 f)))
theorem bb_tl (c w a b : Nat) : bb_t c w (a ^^^ b) = bb_t c w a ^^^ bb_t c w b := by
  apply Nat.eq_of_testBit_eq
  intro i
  unfold bb_t
  simp only [Nat.testBit_xor, Nat.testBit_mul_two_pow, Nat.testBit_and]
  generalize a.testBit (i - w) = a'
  generalize b.testBit (i - w) = b'
  generalize c.testBit (i - w) = c'
  generalize a.testBit i = a2
  generalize b.testBit i = b2
  generalize decide (w ≤ i) = d
  cases a' <;> cases b' <;> cases c' <;> cases a2 <;> cases b2 <;> cases d <;> rfl
theorem bb_Tl (a b : Nat) : bb_T (a ^^^ b) = bb_T a ^^^ bb_T b := by
  unfold bb_T
  rw [bb_tl, bb_tl, bb_tl, bb_tl]
theorem bb_tb {c w f : Nat} (hc : c * 2 ^ w < 65536) (h : f < 65536) : bb_t c w f < 65536 :=
  bb_xlt h (Nat.lt_of_le_of_lt (Nat.mul_le_mul_right _ Nat.and_le_right) hc)
theorem bb_Tb {f : Nat} (h : f < 65536) : bb_T f < 65536 :=
  bb_tb (by decide) (bb_tb (by decide) (bb_tb (by decide) (bb_tb (by decide) h)))
theorem bb_T0 : bb_T 0 = 0 := by decide +kernel
theorem bb_TT {f : Nat} (h : f < 65536) : bb_T (bb_T f) = f :=
  bb_ext16 (F := fun f => bb_T (bb_T f)) (G := fun f => f) (fun a b => by rw [bb_Tl, bb_Tl]) (fun _ _ => rfl) (by decide +kernel) h
theorem bb_Tp : ∀ m, m < 16 → ∀ q, q < 16 → (bb_T (2 ^ m)).testBit q = decide (m &&& q = m) := by decide +kernel
/-- the product of two polynomials -/
def bb_P (f g : Nat) : Nat := bb_T (bb_T f &&& bb_T g)
theorem bb_Pl (a b g : Nat) : bb_P (a ^^^ b) g = bb_P a g ^^^ bb_P b g := by
  unfold bb_P
  rw [bb_Tl, Nat.and_xor_distrib_right, bb_Tl]
theorem bb_Pr (f a b : Nat) : bb_P f (a ^^^ b) = bb_P f a ^^^ bb_P f b := by
  unfold bb_P
  rw [bb_Tl, Nat.and_xor_distrib_left, bb_Tl]
theorem bb_Pp : ∀ m, m < 16 → ∀ n, n < 16 → bb_P (2 ^ m) (2 ^ n) = 2 ^ (m ||| n) := by decide +kernel
theorem bb_alt {a b : Nat} (h : b < 65536) : a &&& b < 65536 := Nat.and_lt_two_pow (n := 16) a h
theorem bb_Pb {f g : Nat} (hg : g < 65536) : bb_P f g < 65536 := bb_Tb (bb_alt (bb_Tb hg))
theorem bb_PT {f g : Nat} (hg : g < 65536) : bb_T (bb_P f g) = bb_T f &&& bb_T g := bb_TT (bb_alt (bb_Tb hg))
theorem bb_P0 (g : Nat) : bb_P g 0 = 0 := bb_l0 (F := bb_P g) (bb_Pr g)
theorem bb_0P (g : Nat) : bb_P 0 g = 0 := bb_l0 (F := fun f => bb_P f g) (fun a b => bb_Pl a b g)
/-! ===== heads ===== -/
def bb_H (f h : Nat) : Prop := f.testBit h = true ∧ f < 2 ^ (h + 1)
theorem bb_cut {f n : Nat} (hf : f < 2 ^ (n + 1)) (c : ¬ f.testBit n = true) : f < 2 ^ n := by
  apply Nat.lt_pow_two_of_testBit
  intro i hi
  rcases Nat.eq_or_lt_of_le hi with e | e
  · subst e
    exact eq_false_of_ne_true c
  · exact Nat.testBit_lt_two_pow (Nat.lt_of_lt_of_le hf (Nat.pow_le_pow_right (by omega) e))
theorem bb_Hex : ∀ n f, f < 2 ^ n → f ≠ 0 → ∃ h, h < n ∧ bb_H f h := by
  intro n
  induction n with
  | zero =>
    intro f hf h0
    rw [Nat.pow_zero] at hf
    omega
  | succ n ih =>
    intro f hf h0
    by_cases c : f.testBit n = true
    · exact ⟨n, by omega, c, hf⟩
    · obtain ⟨h, a, b⟩ := ih f (bb_cut hf c) h0
      exact ⟨h, by omega, b⟩
theorem bb_H0 {h : Nat} (c : bb_H 0 h) : False := by
  have e := c.1
  rw [Nat.zero_testBit] at e
  exact absurd e (by decide)
theorem bb_Hne {f h : Nat} (c : bb_H f h) : f ≠ 0 := fun e => bb_H0 (e ▸ c)
theorem bb_Hup {f h i : Nat} (c : bb_H f h) (hi : h < i) : f.testBit i = false :=
  Nat.testBit_lt_two_pow (Nat.lt_of_lt_of_le c.2 (Nat.pow_le_pow_right (by omega) hi))
theorem bb_H16 {f h : Nat} (c : bb_H f h) (hf : f < 65536) : h < 16 := bb_b16 hf c.1
theorem bb_Hb {f h : Nat} (c : bb_H f h) (hh : h < 16) : f < 65536 :=
  Nat.lt_of_lt_of_le c.2 (Nat.pow_le_pow_right (n := 2) (j := 16) (by omega) hh)
/-- exclusive or of two heads -/
theorem bb_Hx {f r h k : Nat} (a : bb_H f k) (b : bb_H r h) (l : h < k) : bb_H (f ^^^ r) k := by
  refine ⟨?_, Nat.xor_lt_two_pow a.2 (Nat.lt_of_lt_of_le b.2 (Nat.pow_le_pow_right (by omega) (by omega)))⟩
  rw [Nat.testBit_xor, a.1, bb_Hup b l] <;> rfl
/-! ===== subspaces and echelon rows ===== -/
def bb_S (V : Nat → Prop) : Prop := V 0 ∧ (∀ a b, V a → V b → V (a ^^^ b)) ∧ ∀ a, V a → a < 65536
def bb_E (V : Nat → Prop) (R : Nat → Nat) : Prop := (∀ m, m < 16 → (R m = 0 ∨ bb_H (R m) m) ∧ V (R m)) ∧ ∀ f h, V f → bb_H f h → R h ≠ 0
def bb_B (V : Nat → Prop) (R : Nat → Nat) : Prop := bb_S V ∧ bb_E V R
def bb_add (V : Nat → Prop) (x : Nat) : Nat → Prop := fun f => V f ∨ V (f ^^^ x)
def bb_up (R : Nat → Nat) (k v : Nat) : Nat → Nat := fun j => if j = k then v else R j
theorem bb_ups (R : Nat → Nat) (k v : Nat) : bb_up R k v k = v := if_pos rfl
theorem bb_upn (R : Nat → Nat) {k j : Nat} (v : Nat) (h : j ≠ k) : bb_up R k v j = R j := if_neg h
theorem bb_Bc {V W : Nat → Prop} {R : Nat → Nat} (h : bb_B V R) (e : ∀ f, V f ↔ W f) : bb_B W R := by
  have z : V = W := funext fun f => propext (e f)
  rw [← z]
  exact h
theorem bb_B0 {R : Nat → Nat} (h : ∀ j, j < 16 → R j = 0) : bb_B (fun f => f = 0) R := by
  refine ⟨⟨rfl, ?_, ?_⟩, ?_, ?_⟩
  · intro a b ha hb
    have ha' : a = 0 := ha
    have hb' : b = 0 := hb
    have z : a ^^^ b = 0 ^^^ 0 := by rw [ha', hb']
    exact z.trans (Nat.xor_self 0)
  · intro a ha
    have ha' : a = 0 := ha
    omega
  · intro m hm
    exact ⟨Or.inl (h m hm), h m hm⟩
  · intro f k hf hk
    have hf' : f = 0 := hf
    rw [hf'] at hk
    exact (bb_H0 hk).elim
theorem bb_Sadd {V : Nat → Prop} (S : bb_S V) {x : Nat} (hx : x < 65536) : bb_S (bb_add V x) := by
  obtain ⟨s0, s1, s2⟩ := S
  refine ⟨Or.inl s0, ?_, ?_⟩
  · intro a b ha hb
    rcases ha with ha | ha
    · rcases hb with hb | hb
      · exact Or.inl (s1 a b ha hb)
      · refine Or.inr ?_
        rw [Nat.xor_assoc]
        exact s1 _ _ ha hb
    · rcases hb with hb | hb
      · refine Or.inr ?_
        rw [bb_x4]
        exact s1 _ _ ha hb
      · refine Or.inl ?_
        have e := s1 _ _ ha hb
        rw [bb_x5] at e
        exact e
  · intro a ha
    rcases ha with ha | ha
    · exact s2 a ha
    · have e := bb_xlt (s2 _ ha) hx
      rw [bb_x6] at e
      exact e
/-- a new row whose head was free -/
theorem bb_ins {V : Nat → Prop} {R : Nat → Nat} {x r h : Nat} (B : bb_B V R) (hx : x < 65536) (hh : h < 16) (hr : bb_H r h) (hR : R h = 0) (hV : V (x ^^^ r)) : bb_B (bb_add V x) (bb_up R h r) := by
  obtain ⟨S, E1, E2⟩ := B
  refine ⟨bb_Sadd S hx, ?_, ?_⟩
  · intro m hm
    by_cases e : m = h
    · subst e
      rw [bb_ups]
      refine ⟨Or.inr hr, Or.inr ?_⟩
      rw [Nat.xor_comm]
      exact hV
    · rw [bb_upn _ _ e]
      exact ⟨(E1 m hm).1, Or.inl (E1 m hm).2⟩
  · intro f k hf hk
    by_cases e : k = h
    · subst e
      rw [bb_ups]
      exact bb_Hne hr
    · rw [bb_upn _ _ e]
      rcases hf with hf | hf
      · exact E2 f k hf hk
      · have hf2 : V (f ^^^ r) := by
          have z := S.2.1 _ _ hf hV
          rw [bb_x2] at z
          exact z
        rcases Nat.lt_or_ge h k with l | l
        · exact E2 _ k hf2 (bb_Hx hk hr l)
        · have l2 : k < h := by omega
          have z := E2 _ h hf2 (by rw [Nat.xor_comm]; exact bb_Hx hr hk l2)
          exact absurd hR z
