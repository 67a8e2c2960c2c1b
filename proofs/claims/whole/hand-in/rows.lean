section
/-! rows pasted from the kit: PURE-ROWS and BITS -/
theorem pk_us {f : Nat → Int32} {k : Nat} {x : Int32} : upd f k x k = x := if_pos rfl
theorem pk_un {f : Nat → Int32} {k j : Nat} {x : Int32} (h : j ≠ k) : upd f k x j = f j := if_neg h
theorem pk_m1 (n : Nat) : nI (n + 1) + (-1) = nI n := by
  rw [← nI_1, Int32.add_assoc, show (1 : Int32) + (-1) = 0 from rfl, Int32.add_zero]
theorem pk_sub {a b : Nat} (h : b ≤ a) : nI a - nI b = nI (a - b) := by
  obtain ⟨c, rfl⟩ : ∃ c, a = c + b := ⟨a - b, by omega⟩
  rw [← nI_add, Int32.add_sub_cancel, Nat.add_sub_cancel]
theorem pk_ix (x : Int32) {n : Nat} (hn : n < 2 ^ 31) : x < 0 ∨ nI n ≤ x ∨ ∃ j : Nat, j < n ∧ x = nI j := by
  by_cases h : x < 0
  · exact Or.inl h
  · obtain ⟨j, hj, rfl⟩ := nI_of h
    by_cases h2 : j < n
    · exact Or.inr (Or.inr ⟨j, h2, rfl⟩)
    · exact Or.inr (Or.inl (nI_le (by omega) hj))
theorem pk_le {x y : Int32} {A B : Prop} (a b : Nat) (f : a ≤ b → A) (g : b < a → B) (hx : x = nI a := by rfl) (hy : y = nI b := by rfl) (ha : a < 2 ^ 31 := by omega) (hb : b < 2 ^ 31 := by omega) : (x ≤ y → A) ∧ (¬ x ≤ y → B) := by
  subst hx hy
  rw [nI_leI ha hb]
  exact ⟨f, fun z => g (by omega)⟩
theorem pk_lt {x y : Int32} {A B : Prop} (a b : Nat) (f : a < b → A) (g : b ≤ a → B) (hx : x = nI a := by rfl) (hy : y = nI b := by rfl) (ha : a < 2 ^ 31 := by omega) (hb : b < 2 ^ 31 := by omega) : (x < y → A) ∧ (¬ x < y → B) := by
  subst hx hy
  rw [nI_ltI ha hb]
  exact ⟨f, fun z => g (by omega)⟩
theorem pk_eq {x y : Int32} {A B : Prop} (a b : Nat) (f : a = b → A) (g : a ≠ b → B) (hx : x = nI a := by rfl) (hy : y = nI b := by rfl) (ha : a < 2 ^ 31 := by omega) (hb : b < 2 ^ 31 := by omega) : (x = y → A) ∧ (¬ x = y → B) := by
  subst hx hy
  rw [nI_eq ha hb]
  exact ⟨f, g⟩
theorem pk_in {x : Int32} (n N : Nat) (h : n < N) (hx : x = nI n := by rfl) (hN : N < 2 ^ 31 := by omega) : vp_in x N := by
  subst hx
  exact vp_in_nI h hN
theorem pk_cl {x : Int32} (n : Nat) (hx : x = nI n := by rfl) (h : n < 2 ^ 31 := by omega) : x.toNatClampNeg = n := by
  subst hx
  exact nI_clamp h
theorem pk_tn {n : Nat} (h : n < 2 ^ 32) : (nI n).toBitVec.toNat = n := Nat.mod_eq_of_lt h
theorem pk_shl (a s : Int32) (k : Nat) (hs : (s.toBitVec.smod 32).toNat = k) : (a <<< s).toBitVec.toNat = a.toBitVec.toNat * 2 ^ k % 2 ^ 32 := by
  show (a.toBitVec <<< (s.toBitVec.smod 32).toNat).toNat = _
  rw [hs, BitVec.toNat_shiftLeft, Nat.shiftLeft_eq]
theorem pk_shlN {n : Nat} (s : Int32) (k : Nat) (hs : (s.toBitVec.smod 32).toNat = k) (h : n * 2 ^ k < 2 ^ 32) : nI n <<< s = nI (n * 2 ^ k) := by
  apply Int32.toBitVec_inj.mp
  apply BitVec.eq_of_toNat_eq
  have hn : n < 2 ^ 32 := Nat.lt_of_le_of_lt (Nat.le_mul_of_pos_right n (Nat.two_pow_pos k)) h
  rw [pk_shl _ _ k hs, pk_tn hn, pk_tn h, Nat.mod_eq_of_lt h]
theorem pk_shr (a s : Int32) (k : Nat) (hs : (s.toBitVec.smod 32).toNat = k) : (a >>> s).toInt = a.toInt >>> k := by
  show (a.toBitVec.sshiftRight (s.toBitVec.smod 32).toNat).toInt = _
  rw [hs, BitVec.toInt_sshiftRight]
  rfl
theorem pk_shrN {n : Nat} (h : n < 2 ^ 31) (s : Int32) (k : Nat) (hs : (s.toBitVec.smod 32).toNat = k) : nI n >>> s = nI (n / 2 ^ k) := by
  apply Int32.toInt_inj.mp
  have h2 : n / 2 ^ k ≤ n := Nat.div_le_self _ _
  rw [pk_shr _ _ k hs, nI_toInt h, nI_toInt (by omega), Int.shiftRight_eq_div_pow]
  rfl
theorem pk_loop {σ : Type} (W : Nat → Nat → σ → Prop) (I : Nat → σ → Prop) (e i0 : Nat) (s : σ) (hi : i0 ≤ e) (h0 : I i0 s) (hx : ∀ n s, I e s → W (n + 1) e s)
    (hs : ∀ n i s, i < e → I i s → (∀ s', I (i + 1) s' → W n (i + 1) s') → W (n + 1) i s) : ∃ n, W n i0 s :=
  ⟨e + 1, loop_i W I e hx hs (e + 1) i0 s hi (by omega) h0⟩
theorem pk_loopD {σ : Type} (W : Nat → Nat → σ → Prop) (I : Nat → σ → Prop) (hx : ∀ n s, I 0 s → W (n + 1) 0 s)
    (hs : ∀ n i s, I (i + 1) s → (∀ s', I i s' → W n i s') → W (n + 1) (i + 1) s) : ∀ (e : Nat) (s : σ), I e s → W (e + 1) e s := by
  intro e
  induction e with
  | zero => exact fun s h => hx 0 s h
  | succ e ih => exact fun s h => hs (e + 1) e s h (fun s' h' => ih s' h')
theorem s_l : ∀ n, n < 32 → ((nI n &&& 31).toBitVec.smod 32).toNat = n := by decide +kernel
theorem nx_and (a b : Nat) : nI a &&& nI b = nI (a &&& b) := by
  apply Int32.toBitVec_inj.1
  show BitVec.ofNat 32 a &&& BitVec.ofNat 32 b = BitVec.ofNat 32 (a &&& b)
  apply BitVec.eq_of_getLsbD_eq
  intro i hi
  simp [hi]
theorem nx_xor (a b : Nat) : nI a ^^^ nI b = nI (a ^^^ b) := by
  apply Int32.toBitVec_inj.1
  show BitVec.ofNat 32 a ^^^ BitVec.ofNat 32 b = BitVec.ofNat 32 (a ^^^ b)
  apply BitVec.eq_of_getLsbD_eq
  intro i hi
  simp [hi]
end
section
/-! ===== naturals as sets of bits: exclusive or, the transform, products ===== -/
theorem bb_x1 (a b : Nat) : a ^^^ (a ^^^ b) = b := by
  apply Nat.eq_of_testBit_eq
  intro i
  rw [Nat.testBit_xor, Nat.testBit_xor]
  cases a.testBit i <;> cases b.testBit i <;> rfl
theorem bb_x2 (a b c : Nat) : (a ^^^ b) ^^^ (b ^^^ c) = a ^^^ c := by
  apply Nat.eq_of_testBit_eq
  intro i
  rw [Nat.testBit_xor, Nat.testBit_xor, Nat.testBit_xor, Nat.testBit_xor]
  cases a.testBit i <;> cases b.testBit i <;> cases c.testBit i <;> rfl
theorem bb_x3 (a b c : Nat) : (a ^^^ b) ^^^ (a ^^^ c) = b ^^^ c := by
  apply Nat.eq_of_testBit_eq
  intro i
  rw [Nat.testBit_xor, Nat.testBit_xor, Nat.testBit_xor, Nat.testBit_xor]
  cases a.testBit i <;> cases b.testBit i <;> cases c.testBit i <;> rfl
theorem bb_x4 (a b c : Nat) : (a ^^^ b) ^^^ c = (a ^^^ c) ^^^ b := by
  apply Nat.eq_of_testBit_eq
  intro i
  rw [Nat.testBit_xor, Nat.testBit_xor, Nat.testBit_xor, Nat.testBit_xor]
  cases a.testBit i <;> cases b.testBit i <;> cases c.testBit i <;> rfl
theorem bb_x5 (a b c : Nat) : (a ^^^ c) ^^^ (b ^^^ c) = a ^^^ b := by
  apply Nat.eq_of_testBit_eq
  intro i
  rw [Nat.testBit_xor, Nat.testBit_xor, Nat.testBit_xor, Nat.testBit_xor]
  cases a.testBit i <;> cases b.testBit i <;> cases c.testBit i <;> rfl
theorem bb_x6 (a b : Nat) : (a ^^^ b) ^^^ b = a := by
  apply Nat.eq_of_testBit_eq
  intro i
  rw [Nat.testBit_xor, Nat.testBit_xor]
  cases a.testBit i <;> cases b.testBit i <;> rfl
theorem bb_x7 (a b c d : Nat) : (a ^^^ b) ^^^ (c ^^^ d) = (a ^^^ c) ^^^ (b ^^^ d) := by
  apply Nat.eq_of_testBit_eq
  intro i
  simp only [Nat.testBit_xor]
  cases a.testBit i <;> cases b.testBit i <;> cases c.testBit i <;> cases d.testBit i <;> rfl
theorem bb_x0 {a b : Nat} (h : a ^^^ b = 0) : a = b := by
  have e : a ^^^ (a ^^^ b) = b := bb_x1 a b
  rw [h, Nat.xor_zero] at e
  exact e
theorem bb_xlt {a b : Nat} (ha : a < 65536) (hb : b < 65536) : a ^^^ b < 65536 := Nat.xor_lt_two_pow (n := 16) ha hb
theorem bb_hi {f i : Nat} (h : f < 65536) (hi : 16 ≤ i) : f.testBit i = false :=
  Nat.testBit_lt_two_pow (Nat.lt_of_lt_of_le (show f < 2 ^ 16 from h) (Nat.pow_le_pow_right (by omega) hi))
theorem bb_b16 {f i : Nat} (h : f < 65536) (hi : f.testBit i = true) : i < 16 := by
  rcases Nat.lt_or_ge i 16 with z | z
  · exact z
  · rw [bb_hi h z] at hi
    exact absurd hi (by decide)
theorem bb_lt {f : Nat} (h : ∀ i, 16 ≤ i → f.testBit i = false) : f < 65536 := Nat.lt_pow_two_of_testBit (n := 16) f h
theorem bb_p16 {p : Nat} (h : p < 16) : 2 ^ p < 65536 := Nat.pow_lt_pow_right (a := 2) (n := 16) (by omega) h
theorem bb_lo (f n : Nat) : f % 2 ^ (n + 1) = (f % 2 ^ n) ^^^ (if f.testBit n = true then 2 ^ n else 0) := by
  apply Nat.eq_of_testBit_eq
  intro i
  rw [Nat.testBit_xor, Nat.testBit_mod_two_pow, Nat.testBit_mod_two_pow]
  by_cases h : f.testBit n = true
  · rw [if_pos h, Nat.testBit_two_pow]
    by_cases e : n = i
    · subst e
      simp [h]
    · by_cases l : i < n
      · have l2 : i < n + 1 := by omega
        simp [l, l2, e]
      · have l2 : ¬ i < n + 1 := by omega
        simp [l, l2, e]
  · rw [if_neg h, Nat.zero_testBit, Bool.xor_false]
    by_cases e : n = i
    · subst e
      rw [eq_false_of_ne_true h, Bool.and_false, Bool.and_false]
    · by_cases l : i < n
      · have l2 : i < n + 1 := by omega
        simp [l, l2]
      · have l2 : ¬ i < n + 1 := by omega
        simp [l, l2]
theorem bb_l0 {F : Nat → Nat} (h : ∀ a b, F (a ^^^ b) = F a ^^^ F b) : F 0 = 0 := by
  have e := h 0 0
  rw [Nat.xor_self (F 0)] at e
  exact e
theorem bb_ext {F G : Nat → Nat} (hF : ∀ a b, F (a ^^^ b) = F a ^^^ F b) (hG : ∀ a b, G (a ^^^ b) = G a ^^^ G b) (n : Nat) (h : ∀ p, p < n → F (2 ^ p) = G (2 ^ p)) : ∀ f, F (f % 2 ^ n) = G (f % 2 ^ n) := by
  induction n with
  | zero =>
    intro f
    rw [Nat.pow_zero, Nat.mod_one, bb_l0 hF, bb_l0 hG]
  | succ n ih =>
    intro f
    rw [bb_lo, hF, hG, ih (fun p hp => h p (by omega)) f]
    by_cases c : f.testBit n = true
    · rw [if_pos c, h n (by omega)]
    · rw [if_neg c, bb_l0 hF, bb_l0 hG]
theorem bb_ext16 {F G : Nat → Nat} (hF : ∀ a b, F (a ^^^ b) = F a ^^^ F b) (hG : ∀ a b, G (a ^^^ b) = G a ^^^ G b) (h : ∀ p, p < 16 → F (2 ^ p) = G (2 ^ p)) {f : Nat} (hf : f < 65536) : F f = G f := by
  have e := bb_ext hF hG 16 h f
  rw [Nat.mod_eq_of_lt (show f < 2 ^ 16 from hf)] at e
  exact e
/-- one step of the transform -/
def bb_t (c w f : Nat) : Nat := f ^^^ ((f &&& c) * 2 ^ w)
/-- a polynomial turned into its values at the points -/
def bb_T (f : Nat) : Nat := bb_t 255 8 (bb_t 3855 4 (bb_t 13107 2 (bb_t 21845 1 f)))
theorem bb_tl (c w a b : Nat) : bb_t c w (a ^^^ b) = bb_t c w a ^^^ bb_t c w b := by
  apply Nat.eq_of_testBit_eq
  intro i
  unfold bb_t
  simp only [Nat.testBit_xor, Nat.testBit_mul_two_pow, Nat.testBit_and]
  generalize a.testBit (i - w) = a'
  generalize b.testBit (i - w) = b'
  generalize c.testBit (i - w) = c'
  generalize a.testBit i = a2
  generalize b.testBit i = b2
  generalize decide (w ≤ i) = d
  cases a' <;> cases b' <;> cases c' <;> cases a2 <;> cases b2 <;> cases d <;> rfl
theorem bb_Tl (a b : Nat) : bb_T (a ^^^ b) = bb_T a ^^^ bb_T b := by
  unfold bb_T
  rw [bb_tl, bb_tl, bb_tl, bb_tl]
theorem bb_tb {c w f : Nat} (hc : c * 2 ^ w < 65536) (h : f < 65536) : bb_t c w f < 65536 :=
  bb_xlt h (Nat.lt_of_le_of_lt (Nat.mul_le_mul_right _ Nat.and_le_right) hc)
theorem bb_Tb {f : Nat} (h : f < 65536) : bb_T f < 65536 :=
  bb_tb (by decide) (bb_tb (by decide) (bb_tb (by decide) (bb_tb (by decide) h)))
theorem bb_T0 : bb_T 0 = 0 := by decide +kernel
theorem bb_TT {f : Nat} (h : f < 65536) : bb_T (bb_T f) = f :=
  bb_ext16 (F := fun f => bb_T (bb_T f)) (G := fun f => f) (fun a b => by rw [bb_Tl, bb_Tl]) (fun _ _ => rfl) (by decide +kernel) h
theorem bb_Tp : ∀ m, m < 16 → ∀ q, q < 16 → (bb_T (2 ^ m)).testBit q = decide (m &&& q = m) := by decide +kernel
/-- the product of two polynomials -/
def bb_P (f g : Nat) : Nat := bb_T (bb_T f &&& bb_T g)
theorem bb_Pl (a b g : Nat) : bb_P (a ^^^ b) g = bb_P a g ^^^ bb_P b g := by
  unfold bb_P
  rw [bb_Tl, Nat.and_xor_distrib_right, bb_Tl]
theorem bb_Pr (f a b : Nat) : bb_P f (a ^^^ b) = bb_P f a ^^^ bb_P f b := by
  unfold bb_P
  rw [bb_Tl, Nat.and_xor_distrib_left, bb_Tl]
theorem bb_Pp : ∀ m, m < 16 → ∀ n, n < 16 → bb_P (2 ^ m) (2 ^ n) = 2 ^ (m ||| n) := by decide +kernel
theorem bb_alt {a b : Nat} (h : b < 65536) : a &&& b < 65536 := Nat.and_lt_two_pow (n := 16) a h
theorem bb_Pb {f g : Nat} (hg : g < 65536) : bb_P f g < 65536 := bb_Tb (bb_alt (bb_Tb hg))
theorem bb_PT {f g : Nat} (hg : g < 65536) : bb_T (bb_P f g) = bb_T f &&& bb_T g := bb_TT (bb_alt (bb_Tb hg))
theorem bb_P0 (g : Nat) : bb_P g 0 = 0 := bb_l0 (F := bb_P g) (bb_Pr g)
theorem bb_0P (g : Nat) : bb_P 0 g = 0 := bb_l0 (F := fun f => bb_P f g) (fun a b => bb_Pl a b g)
/-! ===== heads ===== -/
def bb_H (f h : Nat) : Prop := f.testBit h = true ∧ f < 2 ^ (h + 1)
theorem bb_cut {f n : Nat} (hf : f < 2 ^ (n + 1)) (c : ¬ f.testBit n = true) : f < 2 ^ n := by
  apply Nat.lt_pow_two_of_testBit
  intro i hi
  rcases Nat.eq_or_lt_of_le hi with e | e
  · subst e
    exact eq_false_of_ne_true c
  · exact Nat.testBit_lt_two_pow (Nat.lt_of_lt_of_le hf (Nat.pow_le_pow_right (by omega) e))
theorem bb_Hex : ∀ n f, f < 2 ^ n → f ≠ 0 → ∃ h, h < n ∧ bb_H f h := by
  intro n
  induction n with
  | zero =>
    intro f hf h0
    rw [Nat.pow_zero] at hf
    omega
  | succ n ih =>
    intro f hf h0
    by_cases c : f.testBit n = true
    · exact ⟨n, by omega, c, hf⟩
    · obtain ⟨h, a, b⟩ := ih f (bb_cut hf c) h0
      exact ⟨h, by omega, b⟩
theorem bb_H0 {h : Nat} (c : bb_H 0 h) : False := by
  have e := c.1
  rw [Nat.zero_testBit] at e
  exact absurd e (by decide)
theorem bb_Hne {f h : Nat} (c : bb_H f h) : f ≠ 0 := fun e => bb_H0 (e ▸ c)
theorem bb_Hup {f h i : Nat} (c : bb_H f h) (hi : h < i) : f.testBit i = false :=
  Nat.testBit_lt_two_pow (Nat.lt_of_lt_of_le c.2 (Nat.pow_le_pow_right (by omega) hi))
theorem bb_H16 {f h : Nat} (c : bb_H f h) (hf : f < 65536) : h < 16 := bb_b16 hf c.1
theorem bb_Hb {f h : Nat} (c : bb_H f h) (hh : h < 16) : f < 65536 :=
  Nat.lt_of_lt_of_le c.2 (Nat.pow_le_pow_right (n := 2) (j := 16) (by omega) hh)
/-- exclusive or of two heads -/
theorem bb_Hx {f r h k : Nat} (a : bb_H f k) (b : bb_H r h) (l : h < k) : bb_H (f ^^^ r) k := by
  refine ⟨?_, Nat.xor_lt_two_pow a.2 (Nat.lt_of_lt_of_le b.2 (Nat.pow_le_pow_right (by omega) (by omega)))⟩
  rw [Nat.testBit_xor, a.1, bb_Hup b l] <;> rfl
/-! ===== subspaces and echelon rows ===== -/
def bb_S (V : Nat → Prop) : Prop := V 0 ∧ (∀ a b, V a → V b → V (a ^^^ b)) ∧ ∀ a, V a → a < 65536
def bb_E (V : Nat → Prop) (R : Nat → Nat) : Prop := (∀ m, m < 16 → (R m = 0 ∨ bb_H (R m) m) ∧ V (R m)) ∧ ∀ f h, V f → bb_H f h → R h ≠ 0
def bb_B (V : Nat → Prop) (R : Nat → Nat) : Prop := bb_S V ∧ bb_E V R
def bb_add (V : Nat → Prop) (x : Nat) : Nat → Prop := fun f => V f ∨ V (f ^^^ x)
def bb_up (R : Nat → Nat) (k v : Nat) : Nat → Nat := fun j => if j = k then v else R j
theorem bb_ups (R : Nat → Nat) (k v : Nat) : bb_up R k v k = v := if_pos rfl
theorem bb_upn (R : Nat → Nat) {k j : Nat} (v : Nat) (h : j ≠ k) : bb_up R k v j = R j := if_neg h
theorem bb_Bc {V W : Nat → Prop} {R : Nat → Nat} (h : bb_B V R) (e : ∀ f, V f ↔ W f) : bb_B W R := by
  have z : V = W := funext fun f => propext (e f)
  rw [← z]
  exact h
theorem bb_B0 {R : Nat → Nat} (h : ∀ j, j < 16 → R j = 0) : bb_B (fun f => f = 0) R := by
  refine ⟨⟨rfl, ?_, ?_⟩, ?_, ?_⟩
  · intro a b ha hb
    have ha' : a = 0 := ha
    have hb' : b = 0 := hb
    have z : a ^^^ b = 0 ^^^ 0 := by rw [ha', hb']
    exact z.trans (Nat.xor_self 0)
  · intro a ha
    have ha' : a = 0 := ha
    omega
  · intro m hm
    exact ⟨Or.inl (h m hm), h m hm⟩
  · intro f k hf hk
    have hf' : f = 0 := hf
    rw [hf'] at hk
    exact (bb_H0 hk).elim
theorem bb_Sadd {V : Nat → Prop} (S : bb_S V) {x : Nat} (hx : x < 65536) : bb_S (bb_add V x) := by
  obtain ⟨s0, s1, s2⟩ := S
  refine ⟨Or.inl s0, ?_, ?_⟩
  · intro a b ha hb
    rcases ha with ha | ha
    · rcases hb with hb | hb
      · exact Or.inl (s1 a b ha hb)
      · refine Or.inr ?_
        rw [Nat.xor_assoc]
        exact s1 _ _ ha hb
    · rcases hb with hb | hb
      · refine Or.inr ?_
        rw [bb_x4]
        exact s1 _ _ ha hb
      · refine Or.inl ?_
        have e := s1 _ _ ha hb
        rw [bb_x5] at e
        exact e
  · intro a ha
    rcases ha with ha | ha
    · exact s2 a ha
    · have e := bb_xlt (s2 _ ha) hx
      rw [bb_x6] at e
      exact e
/-- a new row whose head was free -/
theorem bb_ins {V : Nat → Prop} {R : Nat → Nat} {x r h : Nat} (B : bb_B V R) (hx : x < 65536) (hh : h < 16) (hr : bb_H r h) (hR : R h = 0) (hV : V (x ^^^ r)) : bb_B (bb_add V x) (bb_up R h r) := by
  obtain ⟨S, E1, E2⟩ := B
  refine ⟨bb_Sadd S hx, ?_, ?_⟩
  · intro m hm
    by_cases e : m = h
    · subst e
      rw [bb_ups]
      refine ⟨Or.inr hr, Or.inr ?_⟩
      rw [Nat.xor_comm]
      exact hV
    · rw [bb_upn _ _ e]
      exact ⟨(E1 m hm).1, Or.inl (E1 m hm).2⟩
  · intro f k hf hk
    by_cases e : k = h
    · subst e
      rw [bb_ups]
      exact bb_Hne hr
    · rw [bb_upn _ _ e]
      rcases hf with hf | hf
      · exact E2 f k hf hk
      · have hf2 : V (f ^^^ r) := by
          have z := S.2.1 _ _ hf hV
          rw [bb_x2] at z
          exact z
        rcases Nat.lt_or_ge h k with l | l
        · exact E2 _ k hf2 (bb_Hx hk hr l)
        · have l2 : k < h := by omega
          have z := E2 _ h hf2 (by rw [Nat.xor_comm]; exact bb_Hx hr hk l2)
          exact absurd hR z
end
section
/-! ===== the walk downwards over the rows ===== -/
def bb_rd (R : Nat → Nat) : Nat → Nat → Nat
  | 0, f => f
  | m + 1, f => bb_rd R m (if f.testBit m = true then f ^^^ R m else f)
theorem bb_rd0 (R : Nat → Nat) (f : Nat) : bb_rd R 0 f = f := rfl
theorem bb_rds (R : Nat → Nat) (m f : Nat) : bb_rd R (m + 1) f = bb_rd R m (if f.testBit m = true then f ^^^ R m else f) := rfl
def bb_m (b : Bool) (r : Nat) : Nat := if b = true then r else 0
theorem bb_mx (a b : Bool) (r : Nat) : bb_m (a ^^ b) r = bb_m a r ^^^ bb_m b r := by
  cases a <;> cases b <;> simp [bb_m]
theorem bb_stm (f m r : Nat) : (if f.testBit m = true then f ^^^ r else f) = f ^^^ bb_m (f.testBit m) r := by
  unfold bb_m
  by_cases c : f.testBit m = true
  · rw [if_pos c, if_pos c]
  · rw [if_neg c, if_neg c, Nat.xor_zero]
theorem bb_rdl (R : Nat → Nat) : ∀ m a b, bb_rd R m (a ^^^ b) = bb_rd R m a ^^^ bb_rd R m b := by
  intro m
  induction m with
  | zero => intro a b; rfl
  | succ m ih =>
    intro a b
    rw [bb_rds, bb_rds, bb_rds, ← ih, bb_stm, bb_stm, bb_stm, Nat.testBit_xor, bb_mx]
    exact congrArg (bb_rd R m) (bb_x7 _ _ _ _)
/-- what the walk gives -/
theorem bb_rdP {V : Nat → Prop} {R : Nat → Nat} (B : bb_B V R) : ∀ m f, m ≤ 16 → f < 65536 → bb_rd R m f < 65536 ∧ V (f ^^^ bb_rd R m f) ∧ (∀ i, i < m → R i ≠ 0 → (bb_rd R m f).testBit i = false) ∧ ∀ i, m ≤ i → (bb_rd R m f).testBit i = f.testBit i := by
  obtain ⟨⟨s0, s1, s2⟩, E1, E2⟩ := B
  intro m
  induction m with
  | zero =>
    intro f _ hf
    rw [bb_rd0]
    refine ⟨hf, ?_, fun i hi => absurd hi (by omega), fun _ _ => rfl⟩
    rw [Nat.xor_self]
    exact s0
  | succ m ih =>
    intro f hm hf
    rw [bb_rds]
    obtain ⟨e1, e2⟩ := E1 m (by omega)
    have hV : V (f ^^^ (if f.testBit m = true then f ^^^ R m else f)) := by
      by_cases c : f.testBit m = true
      · rw [if_pos c, bb_x1]
        exact e2
      · rw [if_neg c, Nat.xor_self]
        exact s0
    have hb : (if f.testBit m = true then f ^^^ R m else f) < 65536 := by
      by_cases c : f.testBit m = true
      · rw [if_pos c]
        exact bb_xlt hf (s2 _ e2)
      · rw [if_neg c]
        exact hf
    have h1 : R m ≠ 0 → (if f.testBit m = true then f ^^^ R m else f).testBit m = false := by
      intro z
      by_cases c : f.testBit m = true
      · rw [if_pos c, Nat.testBit_xor, c, (e1.resolve_left z).1] <;> rfl
      · rw [if_neg c]
        exact eq_false_of_ne_true c
    have h2 : ∀ i, m + 1 ≤ i → (if f.testBit m = true then f ^^^ R m else f).testBit i = f.testBit i := by
      intro i hi
      by_cases c : f.testBit m = true
      · rw [if_pos c, Nat.testBit_xor]
        have z : (R m).testBit i = false := by
          rcases e1 with e | e
          · rw [e, Nat.zero_testBit]
          · exact bb_Hup e hi
        rw [z, Bool.xor_false]
      · rw [if_neg c]
    generalize (if f.testBit m = true then f ^^^ R m else f) = f' at hV hb h1 h2 ⊢
    obtain ⟨i1, i2, i3, i4⟩ := ih f' (by omega) hb
    refine ⟨i1, ?_, ?_, ?_⟩
    · have z := s1 _ _ hV i2
      rw [bb_x2] at z
      exact z
    · intro i hi z
      rcases Nat.lt_or_ge i m with l | l
      · exact i3 i l z
      · have e : i = m := by omega
        subst e
        rw [i4 i (Nat.le_refl i)]
        exact h1 z
    · intro i hi
      rw [i4 i (by omega), h2 i hi]
/-- a polynomial without bound bits -/
def bb_F (R : Nat → Nat) (g : Nat) : Prop := ∀ i, i < 16 → R i ≠ 0 → g.testBit i = false
theorem bb_rb {V : Nat → Prop} {R : Nat → Nat} (B : bb_B V R) {f : Nat} (hf : f < 65536) : bb_rd R 16 f < 65536 := (bb_rdP B 16 f (Nat.le_refl _) hf).1
theorem bb_rV {V : Nat → Prop} {R : Nat → Nat} (B : bb_B V R) {f : Nat} (hf : f < 65536) : V (f ^^^ bb_rd R 16 f) := (bb_rdP B 16 f (Nat.le_refl _) hf).2.1
theorem bb_rF {V : Nat → Prop} {R : Nat → Nat} (B : bb_B V R) {f : Nat} (hf : f < 65536) : bb_F R (bb_rd R 16 f) := (bb_rdP B 16 f (Nat.le_refl _) hf).2.2.1
/-- there is one such alone -/
theorem bb_uq {V : Nat → Prop} {R : Nat → Nat} (B : bb_B V R) {g k : Nat} (hg : bb_F R g) (hk : bb_F R k) (hV : V (g ^^^ k)) : g = k := by
  by_cases c : g ^^^ k = 0
  · exact bb_x0 c
  · have hb := B.1.2.2 _ hV
    obtain ⟨h, h16, hH⟩ := bb_Hex 16 (g ^^^ k) hb c
    have z := B.2.2 _ h hV hH
    have e := hH.1
    rw [Nat.testBit_xor, hg h h16 z, hk h h16 z] at e
    exact absurd e (by decide)
theorem bb_F0 (R : Nat → Nat) : bb_F R 0 := fun i _ _ => Nat.zero_testBit i
theorem bb_in {V : Nat → Prop} {R : Nat → Nat} (B : bb_B V R) {f : Nat} (hf : f < 65536) : bb_rd R 16 f = 0 ↔ V f := by
  have hV := bb_rV B hf
  constructor
  · intro h
    rw [h, Nat.xor_zero] at hV
    exact hV
  · intro h
    refine bb_uq B (bb_rF B hf) (bb_F0 R) ?_
    have z := B.1.2.1 _ _ h hV
    rw [bb_x1] at z
    rw [Nat.xor_zero]
    exact z
/-- both sides' rows bind the same monomials -/
theorem bb_bd {V : Nat → Prop} {R Q : Nat → Nat} (B : bb_B V R) (C : bb_B V Q) {m : Nat} (hm : m < 16) (h : R m ≠ 0) : Q m ≠ 0 :=
  C.2.2 _ m (B.2.1 m hm).2 ((B.2.1 m hm).1.resolve_left h)
theorem bb_bd2 {V : Nat → Prop} {R Q : Nat → Nat} (B : bb_B V R) (C : bb_B V Q) {m : Nat} (hm : m < 16) : R m = 0 ↔ Q m = 0 := by
  constructor
  · intro h
    by_cases c : Q m = 0
    · exact c
    · exact absurd h (bb_bd C B hm c)
  · intro h
    by_cases c : R m = 0
    · exact c
    · exact absurd h (bb_bd B C hm c)
theorem bb_Fc {V : Nat → Prop} {R Q : Nat → Nat} (B : bb_B V R) (C : bb_B V Q) {g : Nat} (h : bb_F R g) : bb_F Q g := fun i hi z => h i hi (bb_bd C B hi z)
theorem bb_rq {V : Nat → Prop} {R Q : Nat → Nat} (B : bb_B V R) (C : bb_B V Q) {f : Nat} (hf : f < 65536) : bb_rd R 16 f = bb_rd Q 16 f := by
  refine bb_uq B (bb_rF B hf) (bb_Fc C B (bb_rF C hf)) ?_
  have z := B.1.2.1 _ _ (bb_rV B hf) (bb_rV C hf)
  rw [bb_x3] at z
  exact z
/-- a polynomial is put in: it reduces to 0 .. -/
theorem bb_k0 {V : Nat → Prop} {R : Nat → Nat} (B : bb_B V R) {x : Nat} (hx : x < 65536) (h : bb_rd R 16 x = 0) : bb_B (bb_add V x) R := by
  have hV := (bb_in B hx).mp h
  refine bb_Bc B ?_
  intro f
  constructor
  · exact fun z => Or.inl z
  · intro z
    rcases z with z | z
    · exact z
    · have y := B.1.2.1 _ _ z hV
      rw [bb_x6] at y
      exact y
/-- .. or to a new row -/
theorem bb_k1 {V : Nat → Prop} {R : Nat → Nat} (B : bb_B V R) {x h : Nat} (hx : x < 65536) (hh : bb_H (bb_rd R 16 x) h) : bb_B (bb_add V x) (bb_up R h (bb_rd R 16 x)) := by
  have h16 := bb_H16 hh (bb_rb B hx)
  refine bb_ins B hx h16 hh ?_ (bb_rV B hx)
  by_cases c : R h = 0
  · exact c
  · have z := bb_rF B hx h h16 c
    rw [hh.1] at z
    exact absurd z (by decide)
/-! ===== the rows are finished ===== -/
def bb_Q (R : Nat → Nat) (m : Nat) : Prop := ∀ j, j < m → R j ≠ 0 → bb_F R (R j ^^^ 2 ^ j)
theorem bb_fin {V : Nat → Prop} {R : Nat → Nat} (B : bb_B V R) {m : Nat} (hm : m < 16) (hR : R m ≠ 0) (q : bb_Q R m) : bb_B V (bb_up R m (2 ^ m ^^^ bb_rd R 16 (R m ^^^ 2 ^ m))) ∧ bb_Q (bb_up R m (2 ^ m ^^^ bb_rd R 16 (R m ^^^ 2 ^ m))) (m + 1) := by
  have hH : bb_H (R m) m := (B.2.1 m hm).1.resolve_left hR
  have hV : V (R m) := (B.2.1 m hm).2
  have hx : R m ^^^ 2 ^ m < 65536 := bb_xlt (B.1.2.2 _ hV) (bb_p16 hm)
  obtain ⟨g1, g2, g3, g4⟩ := bb_rdP B 16 _ (Nat.le_refl _) hx
  have gF : bb_F R (bb_rd R 16 (R m ^^^ 2 ^ m)) := g3
  have hx2 : R m ^^^ 2 ^ m < 2 ^ m := by
    apply bb_cut
    · exact Nat.xor_lt_two_pow hH.2 (Nat.pow_lt_pow_right (by omega) (by omega))
    · rw [Nat.testBit_xor, hH.1, Nat.testBit_two_pow_self]
      decide
  -- the walk brings in nothing above m
  have hlow : bb_rd R 16 (R m ^^^ 2 ^ m) < 2 ^ m := by
    by_cases c : bb_rd R 16 (R m ^^^ 2 ^ m) = 0
    · rw [c]
      exact Nat.two_pow_pos m
    · obtain ⟨h, h16, hh⟩ := bb_Hex 16 _ g1 c
      rcases Nat.lt_or_ge h m with l | l
      · exact Nat.lt_of_lt_of_le hh.2 (Nat.pow_le_pow_right (by omega) l)
      · exfalso
        have hne : h ≠ m := by
          intro e
          have z := gF h h16 (by rw [e]; exact hR)
          rw [hh.1] at z
          exact absurd z (by decide)
        have l2 : m < h := by omega
        have hy : bb_H ((R m ^^^ 2 ^ m) ^^^ bb_rd R 16 (R m ^^^ 2 ^ m)) h := by
          refine ⟨?_, ?_⟩
          · rw [Nat.testBit_xor, hh.1, Nat.testBit_lt_two_pow (Nat.lt_of_lt_of_le hx2 (Nat.pow_le_pow_right (by omega) (by omega)))] <;> rfl
          · exact Nat.xor_lt_two_pow (Nat.lt_of_lt_of_le hx2 (Nat.pow_le_pow_right (by omega) (by omega))) hh.2
        have z := gF h h16 (B.2.2 _ h g2 hy)
        rw [hh.1] at z
        exact absurd z (by decide)
  have e2 : 2 ^ m ^^^ bb_rd R 16 (R m ^^^ 2 ^ m) = R m ^^^ ((R m ^^^ 2 ^ m) ^^^ bb_rd R 16 (R m ^^^ 2 ^ m)) := by
    rw [Nat.xor_assoc, bb_x1]
  have nV : V (2 ^ m ^^^ bb_rd R 16 (R m ^^^ 2 ^ m)) := by
    rw [e2]
    exact B.1.2.1 _ _ hV g2
  have e3 : (2 ^ m ^^^ bb_rd R 16 (R m ^^^ 2 ^ m)) ^^^ 2 ^ m = bb_rd R 16 (R m ^^^ 2 ^ m) := by
    rw [Nat.xor_comm, bb_x1]
  generalize bb_rd R 16 (R m ^^^ 2 ^ m) = g at g1 gF hlow nV e3 ⊢
  have nH : bb_H (2 ^ m ^^^ g) m := by
    refine ⟨?_, Nat.xor_lt_two_pow (Nat.pow_lt_pow_right (by omega) (by omega)) (Nat.lt_of_lt_of_le hlow (Nat.pow_le_pow_right (by omega) (by omega)))⟩
    rw [Nat.testBit_xor, Nat.testBit_two_pow_self, Nat.testBit_lt_two_pow hlow] <;> rfl
  have hz : ∀ i, bb_up R m (2 ^ m ^^^ g) i ≠ 0 → R i ≠ 0 := by
    intro i hi
    by_cases e : i = m
    · rw [e]
      exact hR
    · rw [bb_upn _ _ e] at hi
      exact hi
  refine ⟨⟨B.1, ?_, ?_⟩, ?_⟩
  · intro i hi
    by_cases e : i = m
    · subst e
      rw [bb_ups]
      exact ⟨Or.inr nH, nV⟩
    · rw [bb_upn _ _ e]
      exact B.2.1 i hi
  · intro f h hf hh
    by_cases e : h = m
    · subst e
      rw [bb_ups]
      exact bb_Hne nH
    · rw [bb_upn _ _ e]
      exact B.2.2 f h hf hh
  · intro j hj z i hi y
    by_cases e : j = m
    · subst e
      rw [bb_ups, e3]
      exact gF i hi (hz i y)
    · rw [bb_upn _ _ e]
      exact q j (by omega) (hz j z) i hi (hz i y)
theorem bb_fin0 {R : Nat → Nat} {m : Nat} (hR : R m = 0) (q : bb_Q R m) : bb_Q R (m + 1) := by
  intro j hj z
  by_cases e : j = m
  · rw [e] at z
    exact absurd hR z
  · exact q j (by omega) z
/-- a finished row is its head and its head's rest -/
theorem bb_at {V : Nat → Prop} {R Y : Nat → Nat} (B : bb_B V R) (C : bb_B V Y) (q : bb_Q R 16) {m : Nat} (hm : m < 16) (hR : R m ≠ 0) : 2 ^ m ^^^ bb_rd Y 16 (2 ^ m) = R m := by
  have hp := bb_p16 hm
  have e : R m ^^^ 2 ^ m = bb_rd Y 16 (2 ^ m) := by
    refine bb_uq C (bb_Fc B C (q m hm hR)) (bb_rF C hp) ?_
    rw [Nat.xor_assoc]
    exact C.1.2.1 _ _ (B.2.1 m hm).2 (bb_rV C hp)
  rw [← e, Nat.xor_comm, bb_x6]
end
section
/-! ===== the polynomials that are 0 at the points Z, from either side ===== -/
def bb_V (Z f : Nat) : Prop := f < 65536 ∧ ∀ q, q < 16 → Z.testBit q = true → (bb_T f).testBit q = false
theorem bb_Tz {f : Nat} (hf : f < 65536) (h : ∀ q, q < 16 → (bb_T f).testBit q = false) : f = 0 := by
  have e : bb_T f = 0 := by
    apply Nat.eq_of_testBit_eq
    intro i
    rw [Nat.zero_testBit]
    rcases Nat.lt_or_ge i 16 with l | l
    · exact h i l
    · exact bb_hi (bb_Tb hf) l
  rw [← bb_TT hf, e, bb_T0]
def bb_VX (Z j f : Nat) : Prop := f < 65536 ∧ ∀ q, q < 16 → (bb_T f).testBit q = true → q < j ∧ Z.testBit q = false
theorem bb_VX0 (Z f : Nat) : f = 0 ↔ bb_VX Z 0 f := by
  constructor
  · intro e
    subst e
    refine ⟨by omega, ?_⟩
    intro q _ h
    rw [bb_T0, Nat.zero_testBit] at h
    exact absurd h (by decide)
  · intro h
    refine bb_Tz h.1 ?_
    intro q hq
    by_cases c : (bb_T f).testBit q = true
    · exact absurd (h.2 q hq c).1 (Nat.not_lt_zero _)
    · exact eq_false_of_ne_true c
theorem bb_VX1 {Z j : Nat} (hZ : Z.testBit j = true) (f : Nat) : bb_VX Z j f ↔ bb_VX Z (j + 1) f := by
  constructor
  · intro h
    exact ⟨h.1, fun q hq c => ⟨Nat.lt_succ_of_lt (h.2 q hq c).1, (h.2 q hq c).2⟩⟩
  · intro h
    refine ⟨h.1, fun q hq c => ⟨?_, (h.2 q hq c).2⟩⟩
    have a := h.2 q hq c
    rcases Nat.lt_or_ge q j with l | l
    · exact l
    · have e : q = j := by omega
      rw [e, hZ] at a
      exact absurd a.2 (by decide)
theorem bb_VX2 {Z j : Nat} (hj : j < 16) (hZ : Z.testBit j = false) (f : Nat) : bb_add (bb_VX Z j) (bb_T (2 ^ j)) f ↔ bb_VX Z (j + 1) f := by
  have hp := bb_p16 hj
  have hT : ∀ f, bb_T (f ^^^ bb_T (2 ^ j)) = bb_T f ^^^ 2 ^ j := by
    intro f
    rw [bb_Tl, bb_TT hp]
  constructor
  · intro h
    rcases h with h | h
    · exact ⟨h.1, fun q hq c => ⟨Nat.lt_succ_of_lt (h.2 q hq c).1, (h.2 q hq c).2⟩⟩
    · have hf : f < 65536 := by
        have z := bb_xlt h.1 (bb_Tb hp)
        rw [bb_x6] at z
        exact z
      refine ⟨hf, fun q hq c => ?_⟩
      by_cases e : q = j
      · rw [e]
        exact ⟨Nat.lt_succ_self j, hZ⟩
      · have z := h.2 q hq (by rw [hT, Nat.testBit_xor, c, Nat.testBit_two_pow_of_ne (Ne.symm e)] <;> rfl)
        exact ⟨Nat.lt_succ_of_lt z.1, z.2⟩
  · intro h
    by_cases c : (bb_T f).testBit j = true
    · refine Or.inr ⟨bb_xlt h.1 (bb_Tb hp), fun q hq d => ?_⟩
      rw [hT, Nat.testBit_xor] at d
      by_cases e : q = j
      · rw [e, c, Nat.testBit_two_pow_self] at d
        exact absurd d (by decide)
      · rw [Nat.testBit_two_pow_of_ne (Ne.symm e), Bool.xor_false] at d
        have z := h.2 q hq d
        exact ⟨by omega, z.2⟩
    · refine Or.inl ⟨h.1, fun q hq d => ?_⟩
      have z := h.2 q hq d
      by_cases e : q = j
      · rw [e] at d
        exact absurd d c
      · exact ⟨by omega, z.2⟩
theorem bb_VXe (Z f : Nat) : bb_VX Z 16 f ↔ bb_V Z f := by
  constructor
  · intro h
    refine ⟨h.1, fun q hq c => ?_⟩
    by_cases d : (bb_T f).testBit q = true
    · have z := (h.2 q hq d).2
      rw [c] at z
      exact absurd z (by decide)
    · exact eq_false_of_ne_true d
  · intro h
    refine ⟨h.1, fun q hq c => ⟨hq, ?_⟩⟩
    by_cases d : Z.testBit q = true
    · have z := h.2 q hq d
      rw [c] at z
      exact absurd z (by decide)
    · exact eq_false_of_ne_true d
def bb_VY (Z g j f : Nat) : Prop := f < 65536 ∧ ∃ w, w < 2 ^ j ∧ bb_V Z (f ^^^ bb_P g w)
theorem bb_VY0 (Z g f : Nat) : bb_V Z f ↔ bb_VY Z g 0 f := by
  constructor
  · intro h
    refine ⟨h.1, 0, by decide, ?_⟩
    rw [bb_P0, Nat.xor_zero]
    exact h
  · intro h
    obtain ⟨_, w, hw, h⟩ := h
    have e : w = 0 := by
      rw [Nat.pow_zero] at hw
      omega
    rw [e, bb_P0, Nat.xor_zero] at h
    exact h
theorem bb_xcut {w j : Nat} (hw : w < 2 ^ (j + 1)) (c : w.testBit j = true) : w ^^^ 2 ^ j < 2 ^ j := by
  apply bb_cut
  · exact Nat.xor_lt_two_pow hw (Nat.pow_lt_pow_right (by omega) (by omega))
  · rw [Nat.testBit_xor, c, Nat.testBit_two_pow_self]
    decide
theorem bb_VYs (Z : Nat) {g j : Nat} (hj : j < 16) (f : Nat) : bb_add (bb_VY Z g j) (bb_P g (2 ^ j)) f ↔ bb_VY Z g (j + 1) f := by
  have hp := bb_p16 hj
  have hl : 2 ^ j < 2 ^ (j + 1) := Nat.pow_lt_pow_right (by omega) (by omega)
  constructor
  · intro h
    rcases h with h | h
    · obtain ⟨hf, w, hw, h⟩ := h
      exact ⟨hf, w, Nat.lt_trans hw hl, h⟩
    · obtain ⟨hf, w, hw, h⟩ := h
      refine ⟨?_, 2 ^ j ^^^ w, Nat.xor_lt_two_pow hl (Nat.lt_trans hw hl), ?_⟩
      · have z := bb_xlt hf (bb_Pb (f := g) hp)
        rw [bb_x6] at z
        exact z
      · rw [bb_Pr, ← Nat.xor_assoc]
        exact h
  · intro h
    obtain ⟨hf, w, hw, h⟩ := h
    by_cases c : w.testBit j = true
    · refine Or.inr ⟨bb_xlt hf (bb_Pb hp), w ^^^ 2 ^ j, bb_xcut hw c, ?_⟩
      rw [bb_Pr, bb_x5]
      exact h
    · exact Or.inl ⟨hf, w, bb_cut hw c, h⟩
theorem bb_1s {q : Nat} (h : q < 16) : (65535 : Nat).testBit q = true := by
  exact (by decide +kernel : ∀ q, q < 16 → (65535 : Nat).testBit q = true) q h
theorem bb_nt (a : Nat) {q : Nat} (h : q < 16) : (65535 ^^^ a).testBit q = !(a.testBit q) := by
  rw [Nat.testBit_xor, bb_1s h]
  cases a.testBit q <;> rfl
theorem bb_VYe (Z : Nat) (g f : Nat) : bb_VY Z g 16 f ↔ bb_V (Z &&& (65535 ^^^ bb_T g)) f := by
  constructor
  · intro h
    obtain ⟨hf, w, hw, h⟩ := h
    refine ⟨hf, fun q hq c => ?_⟩
    rw [Nat.testBit_and, bb_nt _ hq] at c
    have z := h.2 q hq
    rw [bb_Tl, bb_PT (show w < 65536 from hw), Nat.testBit_xor, Nat.testBit_and] at z
    revert c z
    generalize Z.testBit q = z1
    generalize (bb_T g).testBit q = z2
    generalize (bb_T f).testBit q = z3
    generalize (bb_T w).testBit q = z4
    cases z1 <;> cases z2 <;> cases z3 <;> cases z4 <;> first | decide | simp
  · intro h
    refine ⟨h.1, f, h.1, bb_xlt h.1 (bb_Pb h.1), fun q hq c => ?_⟩
    have z := h.2 q hq
    rw [Nat.testBit_and, bb_nt _ hq] at z
    rw [bb_Tl, bb_PT h.1, Nat.testBit_xor, Nat.testBit_and]
    revert c z
    generalize Z.testBit q = z1
    generalize (bb_T g).testBit q = z2
    generalize (bb_T f).testBit q = z3
    cases z1 <;> cases z2 <;> cases z3 <;> first | decide | simp
theorem bb_V0 (f : Nat) : f = 0 ↔ bb_V 65535 f := by
  constructor
  · intro e
    subst e
    refine ⟨by omega, fun q _ _ => ?_⟩
    rw [bb_T0, Nat.zero_testBit]
  · intro h
    exact bb_Tz h.1 fun q hq => h.2 q hq (bb_1s hq)
/-- the common zeros of those generators below n whose bit is in P -/
def bb_Z (P : Nat) (g : Nat → Nat) : Nat → Nat
  | 0 => 65535
  | n + 1 => if P.testBit n = true then bb_Z P g n &&& (65535 ^^^ bb_T (g n)) else bb_Z P g n
theorem bb_Z1 {P : Nat} (g : Nat → Nat) {n : Nat} (c : P.testBit n = true) : bb_Z P g (n + 1) = bb_Z P g n &&& (65535 ^^^ bb_T (g n)) := by
  show (if P.testBit n = true then bb_Z P g n &&& (65535 ^^^ bb_T (g n)) else bb_Z P g n) = _
  rw [if_pos c]
theorem bb_Z2 {P : Nat} (g : Nat → Nat) {n : Nat} (c : P.testBit n = false) : bb_Z P g (n + 1) = bb_Z P g n := by
  show (if P.testBit n = true then bb_Z P g n &&& (65535 ^^^ bb_T (g n)) else bb_Z P g n) = _
  rw [if_neg (by rw [c]; decide)]
theorem bb_Zb (P : Nat) (g : Nat → Nat) : ∀ n, bb_Z P g n < 65536 := by
  intro n
  induction n with
  | zero => exact Nat.lt_succ_self 65535
  | succ n ih =>
    by_cases c : P.testBit n = true
    · rw [bb_Z1 g c]
      exact Nat.lt_of_le_of_lt Nat.and_le_left ih
    · rw [bb_Z2 g (eq_false_of_ne_true c)]
      exact ih
/-! ===== relates: the values of some variables alone ===== -/
def bb_W (v m w : Nat) : Prop := w < 2 ^ m ∧ ∀ i, w.testBit i = true → i &&& v = i
theorem bb_Wm {v m n w : Nat} (h : bb_W v m w) (l : m ≤ n) : bb_W v n w := ⟨Nat.lt_of_lt_of_le h.1 (Nat.pow_le_pow_right (by omega) l), h.2⟩
theorem bb_Wx {v m w : Nat} (h : bb_W v (m + 1) w) (c : w.testBit m = true) : bb_W v m (w ^^^ 2 ^ m) := by
  have l := bb_xcut h.1 c
  refine ⟨l, fun i d => ?_⟩
  by_cases e : m = i
  · rw [← e, Nat.testBit_lt_two_pow l] at d
    exact absurd d (by decide)
  · rw [Nat.testBit_xor, Nat.testBit_two_pow_of_ne e, Bool.xor_false] at d
    exact h.2 i d
theorem bb_Wy {v m w : Nat} (h : bb_W v m w) (c : m &&& v = m) : bb_W v (m + 1) (w ^^^ 2 ^ m) := by
  have hl : 2 ^ m < 2 ^ (m + 1) := Nat.pow_lt_pow_right (by omega) (by omega)
  refine ⟨Nat.xor_lt_two_pow (Nat.lt_trans h.1 hl) hl, fun i d => ?_⟩
  by_cases e : m = i
  · rw [← e]
    exact c
  · rw [Nat.testBit_xor, Nat.testBit_two_pow_of_ne e, Bool.xor_false] at d
    exact h.2 i d
theorem bb_Wn {v m w : Nat} (h : bb_W v (m + 1) w) (c : ¬ w.testBit m = true) : bb_W v m w := ⟨bb_cut h.1 c, h.2⟩
theorem bb_Ws {v m : Nat} (c : ¬ m &&& v = m) (w : Nat) : bb_W v m w ↔ bb_W v (m + 1) w :=
  ⟨fun h => bb_Wm h (by omega), fun h => bb_Wn h fun d => c (h.2 m d)⟩
/-- such a polynomial looks at the variables v alone -/
theorem bb_Wv {v : Nat} : ∀ n, n ≤ 16 → ∀ w, bb_W v n w → ∀ q, q < 16 → (bb_T w).testBit q = (bb_T w).testBit (q &&& v) := by
  intro n
  induction n with
  | zero =>
    intro _ w h q _
    have e : w = 0 := by
      have z := h.1
      rw [Nat.pow_zero] at z
      omega
    rw [e, bb_T0, Nat.zero_testBit, Nat.zero_testBit]
  | succ n ih =>
    intro hn w h q hq
    by_cases c : w.testBit n = true
    · have z := ih (by omega) _ (bb_Wx h c) q hq
      have y : (bb_T (2 ^ n)).testBit q = (bb_T (2 ^ n)).testBit (q &&& v) := by
        rw [bb_Tp n (by omega) q hq, bb_Tp n (by omega) (q &&& v) (Nat.lt_of_le_of_lt Nat.and_le_left hq), Nat.and_comm q v, ← Nat.and_assoc, h.2 n c]
      have e : bb_T w = bb_T (w ^^^ 2 ^ n) ^^^ bb_T (2 ^ n) := by rw [← bb_Tl, bb_x6]
      rw [e, Nat.testBit_xor, Nat.testBit_xor, z, y]
    · exact ih (by omega) w (bb_Wn h c) q hq
def bb_po (v : Nat) : Nat → Nat
  | 0 => 0
  | n + 1 => bb_po v n ||| 2 ^ (n &&& v)
def bb_oc (Z v : Nat) : Nat → Nat
  | 0 => 0
  | n + 1 => if Z.testBit n = true then bb_oc Z v n ||| 2 ^ (n &&& v) else bb_oc Z v n
theorem bb_oc1 {Z : Nat} (v : Nat) {n : Nat} (c : Z.testBit n = true) : bb_oc Z v (n + 1) = bb_oc Z v n ||| 2 ^ (n &&& v) := by
  show (if Z.testBit n = true then bb_oc Z v n ||| 2 ^ (n &&& v) else bb_oc Z v n) = _
  rw [if_pos c]
theorem bb_oc2 {Z : Nat} (v : Nat) {n : Nat} (c : Z.testBit n = false) : bb_oc Z v (n + 1) = bb_oc Z v n := by
  show (if Z.testBit n = true then bb_oc Z v n ||| 2 ^ (n &&& v) else bb_oc Z v n) = _
  rw [if_neg (by rw [c]; decide)]
theorem bb_pot (v : Nat) : ∀ n a, (bb_po v n).testBit a = true ↔ ∃ p, p < n ∧ p &&& v = a := by
  intro n
  induction n with
  | zero =>
    intro a
    show (0 : Nat).testBit a = true ↔ _
    rw [Nat.zero_testBit]
    exact ⟨fun h => absurd h (by decide), fun ⟨p, hp, _⟩ => absurd hp (Nat.not_lt_zero p)⟩
  | succ n ih =>
    intro a
    show (bb_po v n ||| 2 ^ (n &&& v)).testBit a = true ↔ _
    rw [Nat.testBit_or, Nat.testBit_two_pow, Bool.or_eq_true, ih a, decide_eq_true_iff]
    constructor
    · intro h
      rcases h with h | h
      · obtain ⟨p, hp, e⟩ := h
        exact ⟨p, by omega, e⟩
      · exact ⟨n, by omega, h⟩
    · intro h
      obtain ⟨p, hp, e⟩ := h
      by_cases c : p = n
      · rw [c] at e
        exact Or.inr e
      · exact Or.inl ⟨p, by omega, e⟩
theorem bb_oct (Z v : Nat) : ∀ n a, (bb_oc Z v n).testBit a = true ↔ ∃ p, p < n ∧ Z.testBit p = true ∧ p &&& v = a := by
  intro n
  induction n with
  | zero =>
    intro a
    show (0 : Nat).testBit a = true ↔ _
    rw [Nat.zero_testBit]
    exact ⟨fun h => absurd h (by decide), fun ⟨p, hp, _⟩ => absurd hp (Nat.not_lt_zero p)⟩
  | succ n ih =>
    intro a
    by_cases z : Z.testBit n = true
    · rw [bb_oc1 v z, Nat.testBit_or, Nat.testBit_two_pow, Bool.or_eq_true, ih a, decide_eq_true_iff]
      constructor
      · intro h
        rcases h with h | h
        · obtain ⟨p, hp, e⟩ := h
          exact ⟨p, by omega, e⟩
        · exact ⟨n, by omega, z, h⟩
      · intro h
        obtain ⟨p, hp, y, e⟩ := h
        by_cases c : p = n
        · rw [c] at e
          exact Or.inr e
        · exact Or.inl ⟨p, by omega, y, e⟩
    · rw [bb_oc2 v (eq_false_of_ne_true z), ih a]
      constructor
      · intro h
        obtain ⟨p, hp, e⟩ := h
        exact ⟨p, by omega, e⟩
      · intro h
        obtain ⟨p, hp, y, e⟩ := h
        by_cases c : p = n
        · rw [c] at y
          exact absurd y z
        · exact ⟨p, by omega, y, e⟩
theorem bb_pob {v : Nat} (hv : v < 16) (n : Nat) : bb_po v n < 65536 := by
  apply bb_lt
  intro i hi
  apply eq_false_of_ne_true
  intro h
  obtain ⟨p, _, e⟩ := (bb_pot v n i).mp h
  have z : p &&& v ≤ v := Nat.and_le_right
  omega
theorem bb_ocb (Z : Nat) {v : Nat} (hv : v < 16) (n : Nat) : bb_oc Z v n < 65536 := by
  apply bb_lt
  intro i hi
  apply eq_false_of_ne_true
  intro h
  obtain ⟨p, _, _, e⟩ := (bb_oct Z v n i).mp h
  have z : p &&& v ≤ v := Nat.and_le_right
  omega
def bb_id (v a : Nat) : Nat → Nat
  | 0 => 0
  | n + 1 => bb_id v a n ||| (if n &&& v = a then 2 ^ n else 0)
theorem bb_idt : ∀ v, v < 16 → ∀ a, a < 16 → ∀ q, q < 16 → (bb_id v a 16).testBit q = decide (q &&& v = a) := by decide +kernel
theorem bb_idw : ∀ v, v < 16 → ∀ a, a < 16 → ∀ i, i < 16 → (bb_T (bb_id v a 16)).testBit i = true → i &&& v = i := by decide +kernel
theorem bb_idb : ∀ v, v < 16 → ∀ a, a < 16 → bb_id v a 16 < 65536 := by decide +kernel
theorem bb_rel {Z v : Nat} (hv : v < 16) : bb_oc Z v 16 ≠ bb_po v 16 ↔ ∃ w, w ≠ 0 ∧ bb_W v 16 w ∧ bb_V Z w := by
  constructor
  · intro h
    obtain ⟨a, ha⟩ := Nat.exists_testBit_ne_of_ne h
    have hoc : ∀ x, (bb_oc Z v 16).testBit x = true → (bb_po v 16).testBit x = true := by
      intro x hx
      obtain ⟨p, hp, _, e⟩ := (bb_oct Z v 16 x).mp hx
      exact (bb_pot v 16 x).mpr ⟨p, hp, e⟩
    have hp : (bb_po v 16).testBit a = true := by
      by_cases c : (bb_oc Z v 16).testBit a = true
      · exact hoc a c
      · by_cases d : (bb_po v 16).testBit a = true
        · exact d
        · rw [eq_false_of_ne_true c, eq_false_of_ne_true d] at ha
          exact absurd rfl ha
    have ho : ¬ (bb_oc Z v 16).testBit a = true := by
      intro c
      rw [c, hp] at ha
      exact absurd rfl ha
    obtain ⟨p, hp16, e⟩ := (bb_pot v 16 a).mp hp
    have a16 : a < 16 := by
      have z : p &&& v ≤ v := Nat.and_le_right
      omega
    have hb := bb_idb v hv a a16
    have hT : bb_T (bb_T (bb_id v a 16)) = bb_id v a 16 := bb_TT hb
    refine ⟨bb_T (bb_id v a 16), ?_, ⟨bb_Tb hb, ?_⟩, bb_Tb hb, ?_⟩
    · intro z
      rw [z, bb_T0] at hT
      have y := bb_idt v hv a a16 p hp16
      rw [← hT, Nat.zero_testBit, decide_eq_true e] at y
      exact absurd y (by decide)
    · intro i hi
      exact bb_idw v hv a a16 i (bb_b16 (bb_Tb hb) hi) hi
    · intro q hq hz
      rw [hT, bb_idt v hv a a16 q hq]
      apply decide_eq_false
      intro y
      exact ho ((bb_oct Z v 16 a).mpr ⟨q, hq, hz, y⟩)
  · intro h e
    obtain ⟨w, w0, hW, hV⟩ := h
    have hT : bb_T w ≠ 0 := by
      intro z
      have y := bb_TT hV.1
      rw [z, bb_T0] at y
      exact w0 y.symm
    obtain ⟨q, hq⟩ := Nat.exists_testBit_of_ne_zero hT
    have q16 := bb_b16 (bb_Tb hV.1) hq
    have hpo := (bb_pot v 16 (q &&& v)).mpr ⟨q, q16, rfl⟩
    rw [← e] at hpo
    obtain ⟨z, z16, hz, ez⟩ := (bb_oct Z v 16 (q &&& v)).mp hpo
    have y := hV.2 z z16 hz
    rw [bb_Wv 16 (Nat.le_refl _) w hW z z16, ez, ← bb_Wv 16 (Nat.le_refl _) w hW q q16, hq] at y
    exact absurd y (by decide)
/-- the rests of such polynomials below 2^m -/
def bb_O (R : Nat → Nat) (v m g : Nat) : Prop := ∃ w, bb_W v m w ∧ g = bb_rd R 16 w
def bb_J (R : Nat → Nat) (v m : Nat) : Prop := ∀ w, bb_W v m w → bb_rd R 16 w = 0 → w = 0
def bb_K (R : Nat → Nat) (v : Nat) : Prop := ∃ w, w ≠ 0 ∧ bb_W v 16 w ∧ bb_rd R 16 w = 0
theorem bb_W0 {v w : Nat} (h : bb_W v 0 w) : w = 0 := by
  have z := h.1
  rw [Nat.pow_zero] at z
  omega
theorem bb_O0 (R : Nat → Nat) (v g : Nat) : g = 0 ↔ bb_O R v 0 g := by
  have e0 : bb_rd R 16 0 = 0 := bb_l0 (bb_rdl R 16)
  constructor
  · intro e
    refine ⟨0, ⟨by decide, fun i h => ?_⟩, by rw [e, e0]⟩
    rw [Nat.zero_testBit] at h
    exact absurd h (by decide)
  · intro h
    obtain ⟨w, hw, e⟩ := h
    rw [e, bb_W0 hw, e0]
theorem bb_J0 (R : Nat → Nat) (v : Nat) : bb_J R v 0 := fun _ h _ => bb_W0 h
theorem bb_Os (R : Nat → Nat) {v m : Nat} (c : ¬ m &&& v = m) (g : Nat) : bb_O R v m g ↔ bb_O R v (m + 1) g :=
  ⟨fun ⟨w, h, e⟩ => ⟨w, (bb_Ws c w).mp h, e⟩, fun ⟨w, h, e⟩ => ⟨w, (bb_Ws c w).mpr h, e⟩⟩
theorem bb_Js {R : Nat → Nat} {v m : Nat} (c : ¬ m &&& v = m) (j : bb_J R v m) : bb_J R v (m + 1) :=
  fun w h e => j w ((bb_Ws c w).mpr h) e
theorem bb_Oa (R : Nat → Nat) {v m : Nat} (c : m &&& v = m) (g : Nat) : bb_add (bb_O R v m) (bb_rd R 16 (2 ^ m)) g ↔ bb_O R v (m + 1) g := by
  constructor
  · intro h
    rcases h with h | h
    · obtain ⟨w, h, e⟩ := h
      exact ⟨w, bb_Wm h (by omega), e⟩
    · obtain ⟨w, h, e⟩ := h
      refine ⟨w ^^^ 2 ^ m, bb_Wy h c, ?_⟩
      rw [bb_rdl, ← e, bb_x6]
  · intro h
    obtain ⟨w, h, e⟩ := h
    by_cases d : w.testBit m = true
    · refine Or.inr ⟨w ^^^ 2 ^ m, bb_Wx h d, ?_⟩
      rw [bb_rdl, e]
    · exact Or.inl ⟨w, bb_Wn h d, e⟩
theorem bb_Ja {R : Nat → Nat} {v m : Nat} (j : bb_J R v m) (n : ¬ bb_O R v m (bb_rd R 16 (2 ^ m))) : bb_J R v (m + 1) := by
  intro w h e
  by_cases d : w.testBit m = true
  · refine absurd ⟨w ^^^ 2 ^ m, bb_Wx h d, ?_⟩ n
    rw [bb_rdl, e, Nat.zero_xor]
  · exact j w (bb_Wn h d) e
theorem bb_Kf {R : Nat → Nat} {v m : Nat} (hm : m < 16) (c : m &&& v = m) (o : bb_O R v m (bb_rd R 16 (2 ^ m))) : bb_K R v := by
  obtain ⟨w, h, e⟩ := o
  refine ⟨w ^^^ 2 ^ m, ?_, bb_Wm (bb_Wy h c) hm, ?_⟩
  · intro z
    have y := bb_x0 z
    have l := h.1
    rw [y] at l
    exact absurd l (Nat.lt_irrefl _)
  · rw [bb_rdl, ← e, Nat.xor_self]
theorem bb_Kr {Z : Nat} {R : Nat → Nat} {v : Nat} (B : bb_B (bb_V Z) R) : bb_K R v ↔ ∃ w, w ≠ 0 ∧ bb_W v 16 w ∧ bb_V Z w := by
  constructor
  · intro h
    obtain ⟨w, a, b, c⟩ := h
    exact ⟨w, a, b, (bb_in B b.1).mp c⟩
  · intro h
    obtain ⟨w, a, b, c⟩ := h
    exact ⟨w, a, b, (bb_in B b.1).mpr c⟩
end
section
/-! ===== Int32 and its bits ===== -/
theorem bn_or (a b : Nat) : nI a ||| nI b = nI (a ||| b) := by
  apply Int32.toBitVec_inj.1
  show BitVec.ofNat 32 a ||| BitVec.ofNat 32 b = BitVec.ofNat 32 (a ||| b)
  apply BitVec.eq_of_getLsbD_eq
  intro i hi
  simp [hi]
theorem bn_m1 : (-1 : Int32) = nI 4294967295 := by decide +kernel
theorem bn_1s {q : Nat} (h : q < 16) : (4294967295 : Nat).testBit q = true := (by decide +kernel : ∀ q, q < 16 → (4294967295 : Nat).testBit q = true) q h
theorem bn_not {a : Nat} (b : Nat) (ha : a < 65536) : nI a &&& (nI b ^^^ (-1)) = nI (a &&& (65535 ^^^ b)) := by
  rw [bn_m1, nx_xor, nx_and]
  refine congrArg nI ?_
  apply Nat.eq_of_testBit_eq
  intro i
  rw [Nat.testBit_and, Nat.testBit_and]
  rcases Nat.lt_or_ge i 16 with l | l
  · rw [Nat.testBit_xor, Nat.testBit_xor, bn_1s l, bb_1s l, Bool.xor_comm]
  · rw [bb_hi ha l, Bool.false_and, Bool.false_and]
theorem bn_sh {k j : Nat} (hk : k < 2 ^ 31) (hj : j < 32) : (nI k >>> (nI j &&& 31)) &&& 1 = nI (k / 2 ^ j % 2) := by
  rw [pk_shrN hk _ j (s_l j hj)]
  show nI (k / 2 ^ j) &&& nI 1 = _
  rw [nx_and, Nat.and_one_is_mod]
theorem bn_d {k j : Nat} : k / 2 ^ j % 2 = if k.testBit j = true then 1 else 0 := by
  rw [Nat.testBit_eq_decide_div_mod_eq]
  by_cases c : k / 2 ^ j % 2 = 1
  · rw [if_pos (decide_eq_true c)]
    exact c
  · rw [if_neg (by rw [decide_eq_false c]; decide)]
    generalize k / 2 ^ j = z at c ⊢
    omega
theorem bn_bt {k j : Nat} (hk : k < 2 ^ 31) (hj : j < 32) (c : k.testBit j = true) : (nI k >>> (nI j &&& 31)) &&& 1 = 1 := by
  rw [bn_sh hk hj, bn_d, if_pos c] <;> rfl
theorem bn_bf {k j : Nat} (hk : k < 2 ^ 31) (hj : j < 32) (c : k.testBit j = false) : (nI k >>> (nI j &&& 31)) &&& 1 = 0 := by
  rw [bn_sh hk hj, bn_d, if_neg (by rw [c]; decide)] <;> rfl
/-- a branch on one bit, against 0 and against 1 -/
theorem bn_b0 {k j : Nat} {A B : Prop} (hk : k < 2 ^ 31) (hj : j < 32) (f : k.testBit j = false → A) (g : k.testBit j = true → B) : ((nI k >>> (nI j &&& 31)) &&& 1 = 0 → A) ∧ (¬ (nI k >>> (nI j &&& 31)) &&& 1 = 0 → B) := by
  by_cases c : k.testBit j = true
  · rw [bn_bt hk hj c]
    exact br_f (by decide) (g c)
  · rw [bn_bf hk hj (eq_false_of_ne_true c)]
    exact br_t rfl (f (eq_false_of_ne_true c))
theorem bn_b1 {k j : Nat} {A B : Prop} (hk : k < 2 ^ 31) (hj : j < 32) (f : k.testBit j = true → A) (g : k.testBit j = false → B) : ((nI k >>> (nI j &&& 31)) &&& 1 = 1 → A) ∧ (¬ (nI k >>> (nI j &&& 31)) &&& 1 = 1 → B) := by
  by_cases c : k.testBit j = true
  · rw [bn_bt hk hj c]
    exact br_t rfl (f c)
  · rw [bn_bf hk hj (eq_false_of_ne_true c)]
    exact br_f (by decide) (g (eq_false_of_ne_true c))
theorem bn_pow {j : Nat} (hj : j < 31) : (1 : Int32) <<< (nI j &&& 31) = nI (2 ^ j) := by
  have l : 2 ^ j < 2 ^ 31 := Nat.pow_lt_pow_right (by omega) hj
  have e := pk_shlN (n := 1) (nI j &&& 31) j (s_l j (by omega)) (by rw [Nat.one_mul]; omega)
  rw [Nat.one_mul] at e
  exact e
theorem bn_sub : ∀ m, m < 16 → ∀ v, v < 16 → ((nI m &&& (nI v ^^^ (-1)) = 0) ↔ (m &&& v = m)) := by decide +kernel
theorem bn_le : ∀ m, m < 16 → ∀ v, v < 16 → m &&& v = m → m ≤ v := by decide +kernel
theorem bn_pol (x : Int32) : x < 0 ∨ (¬ x < 0 ∧ ¬ x ≤ 65535) ∨ ∃ f : Nat, f < 65536 ∧ x = nI f := by
  by_cases h : x < 0
  · exact Or.inl h
  · obtain ⟨j, hj, rfl⟩ := nI_of h
    by_cases c : j < 65536
    · exact Or.inr (Or.inr ⟨j, c, rfl⟩)
    · refine Or.inr (Or.inl ⟨h, ?_⟩)
      exact nI_ge (a := 65535) (b := j) (by omega) hj
theorem bn_up (R : Nat → Nat) (k v : Nat) : upd (fun j => nI (R j)) k (nI v) = fun j => nI (bb_up R k v j) := by
  funext j
  unfold upd bb_up
  by_cases c : j = k
  · rw [if_pos c, if_pos c]
  · rw [if_neg c, if_neg c]
end
section
/-! ===== what the loops add up ===== -/
theorem bb_m0 (b : Bool) : bb_m b 0 = 0 := by cases b <;> rfl
theorem bb_mt (r : Nat) : bb_m true r = r := rfl
theorem bb_mf (r : Nat) : bb_m false r = 0 := rfl
theorem bb_lo2 (f n : Nat) : f % 2 ^ (n + 1) = (f % 2 ^ n) ^^^ bb_m (f.testBit n) (2 ^ n) := bb_lo f n
theorem bb_md16 {f : Nat} (h : f < 65536) : f % 2 ^ 16 = f := Nat.mod_eq_of_lt h
def bb_ps (f g m n : Nat) : Nat := bb_P (f % 2 ^ m) g ^^^ bb_m (f.testBit m) (bb_P (2 ^ m) (g % 2 ^ n))
theorem bb_ps0 (f g m : Nat) : bb_ps f g m 0 = bb_P (f % 2 ^ m) g := by
  unfold bb_ps
  rw [Nat.pow_zero, Nat.mod_one, bb_P0, bb_m0, Nat.xor_zero]
theorem bb_ps1 {f g m n : Nat} (hm : m < 16) (hn : n < 16) (a : f.testBit m = true) (b : g.testBit n = true) : bb_ps f g m (n + 1) = bb_ps f g m n ^^^ 2 ^ (m ||| n) := by
  unfold bb_ps
  rw [a, bb_mt, bb_mt, bb_lo2 g n, b, bb_mt, bb_Pr, bb_Pp m hm n hn, Nat.xor_assoc]
theorem bb_ps2 {f g m n : Nat} (a : f.testBit m = false) : bb_ps f g m (n + 1) = bb_ps f g m n := by
  unfold bb_ps
  rw [a, bb_mf, bb_mf]
theorem bb_ps3 {f g m n : Nat} (b : g.testBit n = false) : bb_ps f g m (n + 1) = bb_ps f g m n := by
  unfold bb_ps
  rw [bb_lo2 g n, b, bb_mf, Nat.xor_zero]
theorem bb_pse {f g m : Nat} (hg : g < 65536) : bb_ps f g m 16 = bb_P (f % 2 ^ (m + 1)) g := by
  unfold bb_ps
  rw [bb_md16 hg, bb_lo2 f m, bb_Pl]
  cases f.testBit m
  · rw [bb_mf, bb_mf, bb_0P]
  · rw [bb_mt, bb_mt]
theorem bb_psz (g : Nat) (f : Nat) : bb_P (f % 2 ^ 0) g = 0 := by
  rw [Nat.pow_zero, Nat.mod_one, bb_0P]
/-- the value at a point, monomial by monomial -/
def bb_vs (f p m : Nat) : Nat := ((bb_T (f % 2 ^ m)).testBit p).toNat
theorem bb_vs0 (f p : Nat) : bb_vs f p 0 = 0 := by
  unfold bb_vs
  rw [Nat.pow_zero, Nat.mod_one, bb_T0, Nat.zero_testBit] <;> rfl
theorem bb_vs1 {f p m : Nat} (hm : m < 16) (hp : p < 16) (c : m &&& p = m) : bb_vs f p (m + 1) = bb_vs f p m ^^^ (f / 2 ^ m % 2) := by
  unfold bb_vs
  rw [bb_lo2 f m, bb_Tl, Nat.testBit_xor, bn_d]
  cases f.testBit m
  · rw [bb_mf, bb_T0, Nat.zero_testBit, Bool.xor_false, if_neg (by decide), Nat.xor_zero]
  · rw [bb_mt, bb_Tp m hm p hp, decide_eq_true c, if_pos rfl]
    cases (bb_T (f % 2 ^ m)).testBit p <;> rfl
theorem bb_vs2 {f p m : Nat} (hm : m < 16) (hp : p < 16) (c : ¬ m &&& p = m) : bb_vs f p (m + 1) = bb_vs f p m := by
  unfold bb_vs
  rw [bb_lo2 f m, bb_Tl, Nat.testBit_xor]
  cases f.testBit m
  · rw [bb_mf, bb_T0, Nat.zero_testBit, Bool.xor_false]
  · rw [bb_mt, bb_Tp m hm p hp, decide_eq_false c, Bool.xor_false]
theorem bb_vse {f p : Nat} (hf : f < 65536) : bb_vs f p 16 = bb_T f / 2 ^ p % 2 := by
  unfold bb_vs
  rw [bb_md16 hf, bn_d]
  cases (bb_T f).testBit p <;> rfl
/-- a set bit by bit -/
theorem bb_mo1 {Z p : Nat} (c : Z.testBit p = true) : (Z % 2 ^ p) ||| 2 ^ p = Z % 2 ^ (p + 1) := by
  rw [bb_lo2, c, bb_mt]
  apply Nat.eq_of_testBit_eq
  intro i
  rw [Nat.testBit_or, Nat.testBit_xor, Nat.testBit_two_pow, Nat.testBit_mod_two_pow]
  by_cases e : p = i
  · subst e
    simp
  · simp [e]
theorem bb_mo2 {Z p : Nat} (c : Z.testBit p = false) : Z % 2 ^ p = Z % 2 ^ (p + 1) := by
  rw [bb_lo2, c, bb_mf, Nat.xor_zero]
theorem bb_mo0 (Z : Nat) : Z % 2 ^ 0 = 0 := by rw [Nat.pow_zero, Nat.mod_one]
/-- one point in the zeros of the first generators -/
theorem bb_Zp1 {P : Nat} (g : Nat → Nat) {n p : Nat} (hp : p < 16) (c : P.testBit n = true) : (bb_Z P g (n + 1)).testBit p = ((bb_Z P g n).testBit p && !((bb_T (g n)).testBit p)) := by
  rw [bb_Z1 g c, Nat.testBit_and, bb_nt _ hp]
/-- the values of variable i at zeros -/
def bb_sv (Z i : Nat) : Nat → Nat
  | 0 => 0
  | n + 1 => if Z.testBit n = true then bb_sv Z i n ||| 2 ^ (n / 2 ^ i % 2) else bb_sv Z i n
theorem bb_sv1 {Z : Nat} (i : Nat) {n : Nat} (c : Z.testBit n = true) : bb_sv Z i (n + 1) = bb_sv Z i n ||| 2 ^ (n / 2 ^ i % 2) := by
  show (if Z.testBit n = true then bb_sv Z i n ||| 2 ^ (n / 2 ^ i % 2) else bb_sv Z i n) = _
  rw [if_pos c]
theorem bb_sv2 {Z : Nat} (i : Nat) {n : Nat} (c : Z.testBit n = false) : bb_sv Z i (n + 1) = bb_sv Z i n := by
  show (if Z.testBit n = true then bb_sv Z i n ||| 2 ^ (n / 2 ^ i % 2) else bb_sv Z i n) = _
  rw [if_neg (by rw [c]; decide)]
/-- the number of bits -/
def bb_ct (Z : Nat) : Nat → Nat
  | 0 => 0
  | n + 1 => bb_ct Z n + Z / 2 ^ n % 2
theorem bb_ct1 {Z n : Nat} (c : Z.testBit n = true) : bb_ct Z (n + 1) = bb_ct Z n + 1 := by
  show bb_ct Z n + Z / 2 ^ n % 2 = _
  rw [bn_d, if_pos c]
theorem bb_ct2 {Z n : Nat} (c : Z.testBit n = false) : bb_ct Z (n + 1) = bb_ct Z n := by
  show bb_ct Z n + Z / 2 ^ n % 2 = _
  rw [bn_d, if_neg (by rw [c]; decide), Nat.add_zero]
/-- the bound monomials U, least ones, their number, the basis -/
def bb_L (U : Nat → Bool) (m : Nat) : Bool := U m && decide (∀ n, n < m → n &&& m = n → U n = false)
theorem bb_Lt {U : Nat → Bool} {m : Nat} (a : U m = true) (b : ∀ n, n < m → n &&& m = n → U n = false) : bb_L U m = true := by
  unfold bb_L
  rw [a, decide_eq_true b] <;> rfl
theorem bb_Lf1 {U : Nat → Bool} {m : Nat} (a : U m = false) : bb_L U m = false := by
  unfold bb_L
  rw [a] <;> rfl
theorem bb_Lf2 {U : Nat → Bool} {m n : Nat} (a : n < m) (b : n &&& m = n) (c : U n = true) : bb_L U m = false := by
  unfold bb_L
  rw [decide_eq_false (fun h => by have z := h n a b; rw [c] at z; exact absurd z (by decide)), Bool.and_false]
def bb_bs (U : Nat → Bool) : Nat → Nat
  | 0 => 0
  | n + 1 => if bb_L U n = true then bb_bs U n + 1 else bb_bs U n
theorem bb_bs1 {U : Nat → Bool} {n : Nat} (c : bb_L U n = true) : bb_bs U (n + 1) = bb_bs U n + 1 := by
  show (if bb_L U n = true then bb_bs U n + 1 else bb_bs U n) = _
  rw [if_pos c]
theorem bb_bs2 {U : Nat → Bool} {n : Nat} (c : bb_L U n = false) : bb_bs U (n + 1) = bb_bs U n := by
  show (if bb_L U n = true then bb_bs U n + 1 else bb_bs U n) = _
  rw [if_neg (by rw [c]; decide)]
def bb_bu (U : Nat → Bool) : Nat → Nat
  | 0 => 0
  | n + 1 => if U n = true then bb_bu U n ||| 2 ^ n else bb_bu U n
theorem bb_bu1 {U : Nat → Bool} {n : Nat} (c : U n = true) : bb_bu U (n + 1) = bb_bu U n ||| 2 ^ n := by
  show (if U n = true then bb_bu U n ||| 2 ^ n else bb_bu U n) = _
  rw [if_pos c]
theorem bb_bu2 {U : Nat → Bool} {n : Nat} (c : U n = false) : bb_bu U (n + 1) = bb_bu U n := by
  show (if U n = true then bb_bu U n ||| 2 ^ n else bb_bu U n) = _
  rw [if_neg (by rw [c]; decide)]
/-- d monomials are left from m on, c basis polynomials were passed -/
def bb_ba (U : Nat → Bool) (A : Nat → Int32) (i : Int32) : Nat → Nat → Nat → Int32
  | 0, _, _ => -1
  | d + 1, m, c => if bb_L U m = true then (if nI c = i then A m else bb_ba U A i d (m + 1) (c + 1)) else bb_ba U A i d (m + 1) c
theorem bb_ba1 {U : Nat → Bool} {A : Nat → Int32} {i : Int32} {d m c : Nat} (h : bb_L U m = true) (e : nI c = i) : bb_ba U A i (d + 1) m c = A m := by
  show (if bb_L U m = true then (if nI c = i then A m else bb_ba U A i d (m + 1) (c + 1)) else bb_ba U A i d (m + 1) c) = _
  rw [if_pos h, if_pos e]
theorem bb_ba2 {U : Nat → Bool} {A : Nat → Int32} {i : Int32} {d m c : Nat} (h : bb_L U m = true) (e : ¬ nI c = i) : bb_ba U A i (d + 1) m c = bb_ba U A i d (m + 1) (c + 1) := by
  show (if bb_L U m = true then (if nI c = i then A m else bb_ba U A i d (m + 1) (c + 1)) else bb_ba U A i d (m + 1) c) = _
  rw [if_pos h, if_neg e]
theorem bb_ba3 {U : Nat → Bool} {A : Nat → Int32} {i : Int32} {d m c : Nat} (h : bb_L U m = false) : bb_ba U A i (d + 1) m c = bb_ba U A i d (m + 1) c := by
  show (if bb_L U m = true then (if nI c = i then A m else bb_ba U A i d (m + 1) (c + 1)) else bb_ba U A i d (m + 1) c) = _
  rw [if_neg (by rw [h]; decide)]
end
section
/-! ===== pieces of the walks ===== -/
theorem bn_t {f c w : Nat} {C S : Int32} (hC : C = nI c) (hS : (S.toBitVec.smod 32).toNat = w) (hc : c * 2 ^ w < 65536) : nI f ^^^ ((nI f &&& C) <<< S) = nI (bb_t c w f) := by
  have l : (f &&& c) * 2 ^ w < 2 ^ 32 := Nat.lt_trans (Nat.lt_of_le_of_lt (Nat.mul_le_mul_right _ Nat.and_le_right) hc) (by decide)
  rw [hC, nx_and, pk_shlN S w hS l, nx_xor]
  rfl
/-- a counter that goes down to -1: d rounds are left -/
def bn_dn : Nat → Int32
  | 0 => -1
  | d + 1 => nI d
theorem bn_dns (d : Nat) : nI d + (-1) = bn_dn d := by
  cases d with
  | zero => decide
  | succ d => exact pk_m1 d
theorem bn_dn0 : bn_dn 0 < 0 := by decide
theorem bn_dnp {d : Nat} (h : d < 16) : ¬ bn_dn (d + 1) < 0 := nI_pos (by omega)
theorem bn_bT : vp_nar .boolean 1 = 1 := by rfl
theorem bn_bF : vp_nar .boolean 0 = 0 := by rfl
theorem bn_i1 (b : Bool) : nI b.toNat = 0 ↔ b = false := by
  cases b <;> decide
def bn_P (x : Int32) : Prop := ∃ f : Nat, f < 65536 ∧ x = nI f
theorem bn_np {x : Int32} (h : ¬ bn_P x) (c : ¬ x < 0) : 65535 < x := by
  obtain ⟨j, hj, rfl⟩ := nI_of c
  have l : 65535 < j := by
    rcases Nat.lt_or_ge j 65536 with l | l
    · exact absurd ⟨j, l, rfl⟩ h
    · omega
  exact nI_lt (a := 65535) (b := j) l hj
/-- an array's first sixteen cells -/
def bn_A (a : Nat → Int32) (R : Nat → Nat) : Prop := ∀ j, j < 16 → a j = nI (R j)
theorem bn_Ag {a : Nat → Int32} {R : Nat → Nat} (h : bn_A a R) {d : Nat} (hd : d < 16) : a (nI d).toNatClampNeg = nI (R d) := by
  rw [nI_clamp (by omega)]
  exact h d hd
theorem bn_Au {a : Nat → Int32} {R : Nat → Nat} (h : bn_A a R) {k : Nat} (hk : k < 16) (v : Nat) : bn_A (upd a (nI k).toNatClampNeg (nI v)) (bb_up R k v) := by
  rw [nI_clamp (by omega)]
  intro j hj
  by_cases c : j = k
  · subst c
    rw [pk_us, bb_ups]
  · rw [pk_un c, bb_upn _ _ c]
    exact h j hj
theorem bn_i0 {a : Nat} (h : a < 65536) : nI a = 0 ↔ a = 0 := nI_eq (a := a) (b := 0) (by omega) (by omega)
/-- a branch on a number being 0 -/
theorem bn_z {A B : Prop} {a : Nat} (h : a < 65536) (f : a = 0 → A) (g : a ≠ 0 → B) : (nI a = 0 → A) ∧ (¬ nI a = 0 → B) := by
  rw [bn_i0 h]
  exact ⟨f, g⟩
/-- a branch on a flag -/
theorem bn_fl {A B : Prop} (b : Bool) (f : b = false → A) (g : b = true → B) : (nI b.toNat = 0 → A) ∧ (¬ nI b.toNat = 0 → B) := by
  rw [bn_i1]
  exact ⟨f, fun z => g (by cases b <;> simp_all)⟩
theorem bb_Va {Z f : Nat} (hf : f < 65536) : bb_T f &&& Z = 0 ↔ bb_V Z f := by
  constructor
  · intro h
    refine ⟨hf, fun q _ c => ?_⟩
    have z : (bb_T f &&& Z).testBit q = false := by rw [h, Nat.zero_testBit]
    rw [Nat.testBit_and, c, Bool.and_true] at z
    exact z
  · intro h
    apply Nat.eq_of_testBit_eq
    intro i
    rw [Nat.testBit_and, Nat.zero_testBit]
    by_cases c : Z.testBit i = true
    · rcases Nat.lt_or_ge i 16 with l | l
      · rw [h.2 i l c, Bool.false_and]
      · rw [bb_hi (bb_Tb hf) l, Bool.false_and]
    · rw [eq_false_of_ne_true c, Bool.and_false]
theorem bb_Rb {V : Nat → Prop} {R : Nat → Nat} (B : bb_B V R) : ∀ j, j < 16 → R j < 65536 := fun j hj => B.1.2.2 _ (B.2.1 j hj).2
theorem bb_Q0 (R : Nat → Nat) : bb_Q R 0 := fun j hj => absurd hj (Nat.not_lt_zero j)
end
section
/-! ===== X: one lemma a private method ===== -/
theorem xa_in {A B : Prop} {j k : Nat} (hk : k < 2 ^ 31) (hj : j < 32) (f : k.testBit j = false → A) (g : k.testBit j = true → B) : wpX_isIn (fun r => (r = 0 → A) ∧ (¬ r = 0 → B)) (nI j) (nI k) :=
  bn_b0 hk hj (fun c => br_t rfl (f c)) (fun c => br_f (by decide) (g c))
theorem xa_pp {post : Int32 → Prop} {f : Nat} (hf : f < 65536) (h : post 1) : wpX_isPolynomial post (nI f) :=
  br_f (nI_pos (by omega)) (br_f (nI_nlt (a := 65535) (b := f) (by omega) (by omega)) h)
theorem xa_np {post : Int32 → Prop} {x : Int32} (c : ¬ bn_P x) (h : post 0) : wpX_isPolynomial post x := by
  by_cases z : x < 0
  · exact br_t z h
  · exact br_f z (br_t (bn_np c z) h)
theorem xa_T {post : Int32 → Prop} {f : Nat} (h : post (nI (bb_T f))) : wpX_sumOverSubsets post (nI f) :=
  nm_r (bn_t (c := 21845) (w := 1) rfl (by decide) (by decide)) (nm_r (bn_t (c := 13107) (w := 2) rfl (by decide) (by decide)) (nm_r (bn_t (c := 3855) (w := 4) rfl (by decide) (by decide)) (nm_r (bn_t (c := 255) (w := 8) rfl (by decide) (by decide)) h)))
theorem xa_van {post : Int32 → Prop} {f Z : Nat} (hf : f < 65536) (hZ : Z < 65536) (h1 : bb_V Z f → post 1) (h0 : ¬ bb_V Z f → post 0) : wpX_vanishesAt post (nI f) (nI Z) := by
  unfold wpX_vanishesAt
  refine xa_T ?_
  rw [nx_and]
  exact bn_z (bb_alt hZ) (fun c => h1 ((bb_Va hf).mp c)) (fun c => h0 fun v => c ((bb_Va hf).mpr v))
theorem xa_czl {post : Int32 → Prop} {P : Nat} {g : Nat → Nat} (pr zs : Int32) (ag ar : Nat → Int32) (hP : P < 2 ^ 31) (hg : ∀ i, i < 6 → P.testBit i = true → ag i = nI (g i)) (hp : post (nI (bb_Z P g 6))) : ∀ d i, i + d = 6 → wX_commonZeros_5 post (nI P) pr zs ag ar (d + 1) (nI (bb_Z P g i)) (nI i) := by
  intro d
  induction d with
  | zero =>
    intro i hi
    have e : i = 6 := by omega
    subst e
    exact pk_le 6 6 (fun _ => hp) (fun l => absurd l (by omega))
  | succ d ih =>
    intro i hi
    refine pk_le 6 i (fun l => absurd l (by omega)) (fun _ => ?_)
    refine xa_in hP (by omega) (fun c => ?_) (fun c => ?_)
    · refine nm_r (nI_1 i) ?_
      have z := ih (i + 1) (by omega)
      rw [bb_Z2 g c] at z
      exact z
    · refine ⟨vp_in_nI (by omega) (by omega), ?_⟩
      rw [nI_clamp (by omega), hg i (by omega) c]
      refine xa_T ?_
      refine nm_r (bn_not _ (bb_Zb P g i)) (nm_r (nI_1 i) ?_)
      have z := ih (i + 1) (by omega)
      rw [bb_Z1 g c] at z
      exact z
theorem xa_cz {post : Int32 → Prop} {P : Nat} {g : Nat → Nat} {pr zs : Int32} {ag ar : Nat → Int32} (hP : P < 2 ^ 31) (hg : ∀ i, i < 6 → P.testBit i = true → ag i = nI (g i)) (hp : post (nI (bb_Z P g 6))) : wpX_commonZeros post (pr, zs, ag, ar) (nI P) :=
  ⟨7, xa_czl pr zs ag ar hP hg hp 6 0 rfl⟩
theorem xa_cll {post : SX → Prop} (pr zs : Int32) (ag : Nat → Int32) (hp : ∀ ar, bn_A ar (fun _ => 0) → post (pr, zs, ag, ar)) : ∀ d i (ar : Nat → Int32), i + d = 16 → (∀ j, j < i → ar j = 0) → wX_clearRows_2 post pr zs (d + 1) (nI i) ag ar := by
  intro d
  induction d with
  | zero =>
    intro i ar hi h
    have e : i = 16 := by omega
    subst e
    exact pk_le 16 16 (fun _ => hp ar fun j hj => h j hj) (fun l => absurd l (by omega))
  | succ d ih =>
    intro i ar hi h
    refine pk_le 16 i (fun l => absurd l (by omega)) (fun _ => ⟨vp_in_nI (by omega) (by omega), ?_⟩)
    rw [nI_clamp (by omega)]
    refine nm_e (nm_r (nI_1 i) (ih (i + 1) _ (by omega) ?_))
    intro j hj
    by_cases c : j = i
    · subst c
      exact pk_us
    · rw [pk_un c]
      exact h j (by omega)
theorem xa_cl {post : SX → Prop} {pr zs : Int32} {ag ar : Nat → Int32} (hp : ∀ ar, bn_A ar (fun _ => 0) → post (pr, zs, ag, ar)) : wpX_clearRows post (pr, zs, ag, ar) :=
  ⟨17, xa_cll pr zs ag hp 16 0 ar rfl fun j hj => absurd hj (Nat.not_lt_zero j)⟩
theorem xa_rdl {post : Int32 → Prop} {R : Nat → Nat} (pr zs : Int32) (ag : Nat → Int32) {ar : Nat → Int32} (hA : bn_A ar R) (hR : ∀ j, j < 16 → R j < 65536) : ∀ d f, d ≤ 16 → f < 65536 → post (nI (bb_rd R d f)) → wX_reduce_5 post pr zs ag ar (d + 1) (nI f) (bn_dn d) := by
  intro d
  induction d with
  | zero =>
    intro f _ _ hp
    exact br_t bn_dn0 hp
  | succ d ih =>
    intro f hd hf hp
    show wX_reduce_5 post pr zs ag ar (d + 1 + 1) (nI f) (nI d)
    refine br_f (nI_pos (by omega)) (xa_in (by omega) (by omega) (fun c => ?_) (fun c => ?_))
    · refine nm_r (bn_dns d) (ih f (by omega) hf ?_)
      rw [bb_rds, if_neg (by rw [c]; decide)] at hp
      exact hp
    · refine ⟨vp_in_nI (by omega) (by omega), ?_⟩
      rw [bn_Ag hA (by omega), nx_xor]
      refine nm_e (nm_r (bn_dns d) (ih _ (by omega) (bb_xlt hf (hR d (by omega))) ?_))
      rw [bb_rds, if_pos c] at hp
      exact hp
theorem xa_rd {post : Int32 → Prop} {R : Nat → Nat} {pr zs : Int32} {ag ar : Nat → Int32} (hA : bn_A ar R) (hR : ∀ j, j < 16 → R j < 65536) {f : Nat} (hf : f < 65536) (hp : post (nI (bb_rd R 16 f))) : wpX_reduce post (pr, zs, ag, ar) (nI f) :=
  ⟨17, xa_rdl pr zs ag hA hR 16 f (by omega) hf hp⟩
theorem xa_irl {post : SX → Prop} (pr zs : Int32) (ag ar : Nat → Int32) {r : Nat} (hr : r < 65536) (h0 : r = 0 → post (pr, zs, ag, ar)) (h1 : ∀ h, h < 16 → bb_H r h → post (pr, zs, ag, upd ar (nI h).toNatClampNeg (nI r))) : ∀ d, d ≤ 16 → r < 2 ^ d → wX_insertRow_9 post (nI r) pr zs ag ar (d + 1) (bn_dn d) := by
  intro d
  induction d with
  | zero =>
    intro _ l
    rw [Nat.pow_zero] at l
    exact br_t bn_dn0 (h0 (by omega))
  | succ d ih =>
    intro hd l
    show wX_insertRow_9 post (nI r) pr zs ag ar (d + 1 + 1) (nI d)
    refine br_f (nI_pos (by omega)) (xa_in (by omega) (by omega) (fun c => ?_) (fun c => ?_))
    · exact nm_r (bn_dns d) (ih (by omega) (bb_cut l (by rw [c]; decide)))
    · exact ⟨vp_in_nI (by omega) (by omega), nm_e (h1 d (by omega) ⟨c, l⟩)⟩
theorem xa_ir {post : SX → Prop} {V : Nat → Prop} {R : Nat → Nat} {pr zs : Int32} {ag ar : Nat → Int32} (hA : bn_A ar R) (B : bb_B V R) {x : Nat} (hx : x < 65536) (hp : ∀ ar' R', bn_A ar' R' → bb_B (bb_add V x) R' → post (pr, zs, ag, ar')) : wpX_insertRow post (pr, zs, ag, ar) (nI x) := by
  unfold wpX_insertRow
  try dsimp only
  refine xa_rd hA (bb_Rb B) hx ?_
  refine ⟨17, xa_irl pr zs ag ar (bb_rb B hx) (fun e => hp ar R hA (bb_k0 B hx e)) (fun h h16 hH => hp _ _ (bn_Au hA h16 _) (bb_k1 B hx hH)) 16 (by omega) (bb_rb B hx)⟩
theorem xa_fl {post : SX → Prop} {V : Nat → Prop} (pr zs : Int32) (ag : Nat → Int32) (hp : ∀ ar' R', bn_A ar' R' → bb_B V R' → bb_Q R' 16 → post (pr, zs, ag, ar')) : ∀ d i (ar : Nat → Int32) (R : Nat → Nat), i + d = 16 → bn_A ar R → bb_B V R → bb_Q R i → wX_finishRows_2 post pr zs (d + 1) (nI i) ag ar := by
  intro d
  induction d with
  | zero =>
    intro i ar R hi hA B q
    have e : i = 16 := by omega
    subst e
    exact pk_le 16 16 (fun _ => hp ar R hA B q) (fun l => absurd l (by omega))
  | succ d ih =>
    intro i ar R hi hA B q
    have h16 : i < 16 := by omega
    refine pk_le 16 i (fun l => absurd l (by omega)) (fun _ => ⟨vp_in_nI (by omega) (by omega), ?_⟩)
    rw [bn_Ag hA h16]
    refine bn_z (bb_Rb B i h16) (fun c => ?_) (fun c => ?_)
    · exact nm_r (nI_1 i) (ih (i + 1) ar R (by omega) hA B (bb_fin0 c q))
    · refine nm_r (bn_pow (by omega)) ⟨vp_in_nI (by omega) (by omega), ?_⟩
      rw [nx_xor]
      refine xa_rd hA (bb_Rb B) (bb_xlt (bb_Rb B i h16) (bb_p16 h16)) ?_
      rw [nx_xor]
      have z := bb_fin B h16 c q
      exact ⟨vp_in_nI (by omega) (by omega), nm_e (nm_r (nI_1 i) (ih (i + 1) _ _ (by omega) (bn_Au hA h16 _) z.1 z.2))⟩
theorem xa_fr {post : SX → Prop} {V : Nat → Prop} {R : Nat → Nat} {pr zs : Int32} {ag ar : Nat → Int32} (hA : bn_A ar R) (B : bb_B V R) (hp : ∀ ar' R', bn_A ar' R' → bb_B V R' → bb_Q R' 16 → post (pr, zs, ag, ar')) : wpX_finishRows post (pr, zs, ag, ar) :=
  ⟨17, xa_fl pr zs ag hp 16 0 ar R rfl hA B (bb_Q0 R)⟩
theorem xa_wl {post : SX → Prop} {Z : Nat} (hZ : Z < 65536) (pr : Int32) (ag : Nat → Int32) (hp : ∀ ar' R', bn_A ar' R' → bb_B (bb_V Z) R' → bb_Q R' 16 → post (pr, nI Z, ag, ar')) : ∀ d p (ar : Nat → Int32) (R : Nat → Nat), p + d = 16 → bn_A ar R → bb_B (bb_VX Z p) R → wX_workOutIdeal_18 post (d + 1) (nI p) pr (nI Z) ag ar := by
  intro d
  induction d with
  | zero =>
    intro p ar R hi hA B
    have e : p = 16 := by omega
    subst e
    exact pk_le 16 16 (fun _ => xa_fr hA (bb_Bc B (bb_VXe Z)) hp) (fun l => absurd l (by omega))
  | succ d ih =>
    intro p ar R hi hA B
    have h16 : p < 16 := by omega
    refine pk_le 16 p (fun l => absurd l (by omega)) (fun _ => ?_)
    refine xa_in (by omega) (by omega) (fun c => ?_) (fun c => ?_)
    · rw [bn_pow (by omega)]
      refine xa_T ?_
      refine xa_ir hA B (bb_Tb (bb_p16 h16)) (fun ar' R' hA' B' => ?_)
      exact nm_r (nI_1 p) (ih (p + 1) ar' R' (by omega) hA' (bb_Bc B' (bb_VX2 h16 c)))
    · exact nm_r (nI_1 p) (ih (p + 1) ar R (by omega) hA (bb_Bc B (bb_VX1 c)))
theorem xa_wo {post : SX → Prop} {P : Nat} {g : Nat → Nat} {zs : Int32} {ag ar : Nat → Int32} (hP : P < 2 ^ 31) (hg : ∀ i, i < 6 → P.testBit i = true → ag i = nI (g i)) (hp : ∀ ar' R', bn_A ar' R' → bb_B (bb_V (bb_Z P g 6)) R' → bb_Q R' 16 → post (nI P, nI (bb_Z P g 6), ag, ar')) : wpX_workOutIdeal post (nI P, zs, ag, ar) := by
  unfold wpX_workOutIdeal
  try dsimp only
  refine xa_cz hP hg ?_
  refine xa_cl fun ar' hA => ?_
  exact ⟨17, xa_wl (bb_Zb P g 6) (nI P) ag hp 16 0 ar' _ rfl hA (bb_Bc (bb_B0 fun _ _ => rfl) (bb_VX0 _))⟩
theorem xa_ig {A B : Prop} {P : Nat} (hP : P < 64) (zs : Int32) (ag ar : Nat → Int32) {x : Int32} (f : (¬ ∃ i, i < 6 ∧ P.testBit i = true ∧ x = nI i) → A) (g : ∀ i, i < 6 → P.testBit i = true → x = nI i → B) : wpX_isGenerator (fun r => (r = 0 → A) ∧ (¬ r = 0 → B)) (nI P, zs, ag, ar) x := by
  unfold wpX_isGenerator
  try dsimp only
  rcases pk_ix x (n := 6) (by omega) with h | h | ⟨j, hj, rfl⟩
  · refine br_t h (br_t rfl (f ?_))
    intro ⟨i, hi, _, e⟩
    rw [e] at h
    exact absurd h (nI_pos (by omega))
  · have h0 : ¬ x < 0 := by
      intro z
      exact absurd (Int32.lt_of_lt_of_le z (by decide : (0 : Int32) ≤ nI 6)) (fun y => absurd (Int32.lt_of_le_of_lt h y) (Int32.lt_irrefl))
    refine br_f h0 (br_t h (br_t rfl (f ?_)))
    intro ⟨i, hi, _, e⟩
    rw [e] at h
    exact absurd h (nI_ge hi (by omega))
  · refine br_f (nI_pos (by omega)) (br_f (nI_ge (a := j) (b := 6) hj (by omega)) ?_)
    refine xa_in (by omega) (by omega) (fun c => ?_) (fun c => ?_)
    · refine br_t rfl (f ?_)
      intro ⟨i, hi, d, e⟩
      rw [nI_eq (by omega) (by omega)] at e
      rw [e, d] at c
      exact absurd c (by decide)
    · exact br_f (by decide) (g j hj c rfl)
theorem xa_bhl {post : Int32 → Prop} {R : Nat → Nat} {U : Nat → Bool} (hU : ∀ j, j < 16 → (R j = 0 ↔ U j = false)) (hR : ∀ j, j < 16 → R j < 65536) (pr zs : Int32) (ag : Nat → Int32) {ar : Nat → Int32} (hA : bn_A ar R) {m : Nat} (hm : m < 16) (um : U m = true) (hp : post (nI (bb_L U m).toNat)) : ∀ d n, n + d = m → (∀ k, k < n → k &&& m = k → U k = false) → wX_isBasisHead_13 post (nI m) pr zs ag ar (d + 1) (nI n) := by
  intro d
  induction d with
  | zero =>
    intro n hn h
    have e : n = m := by omega
    subst e
    rw [bb_Lt um h] at hp
    exact pk_le n n (fun _ => hp) (fun l => absurd l (by omega))
  | succ d ih =>
    intro n hn h
    refine pk_le m n (fun l => absurd l (by omega)) (fun _ => ?_)
    rw [nx_and]
    refine pk_eq (n &&& m) n (fun c => ⟨vp_in_nI (by omega) (by omega), ?_⟩) (fun c => ?_) rfl rfl (Nat.lt_of_le_of_lt Nat.and_le_left (by omega)) (by omega)
    · rw [bn_Ag hA (by omega)]
      refine bn_z (hR n (by omega)) (fun z => ?_) (fun z => ?_)
      · refine nm_r (nI_1 n) (ih (n + 1) (by omega) (lt_s h fun _ => (hU n (by omega)).mp z))
      · have u : U n = true := by
          cases y : U n
          · exact absurd ((hU n (by omega)).mpr y) z
          · rfl
        rw [bb_Lf2 (show n < m by omega) c u] at hp
        exact hp
    · exact nm_r (nI_1 n) (ih (n + 1) (by omega) (lt_s h fun y => absurd y c))
theorem xa_bh {A B : Prop} {R : Nat → Nat} {U : Nat → Bool} (hU : ∀ j, j < 16 → (R j = 0 ↔ U j = false)) (hR : ∀ j, j < 16 → R j < 65536) (pr zs : Int32) (ag : Nat → Int32) {ar : Nat → Int32} (hA : bn_A ar R) {m : Nat} (hm : m < 16) (f : bb_L U m = false → A) (g : bb_L U m = true → B) : wpX_isBasisHead (fun r => (r = 0 → A) ∧ (¬ r = 0 → B)) (pr, zs, ag, ar) (nI m) := by
  have hf := bn_fl (bb_L U m) f g
  refine ⟨vp_in_nI (by omega) (by omega), ?_⟩
  rw [bn_Ag hA hm]
  refine bn_z (hR m hm) (fun z => ?_) (fun z => ?_)
  · exact br_t rfl (f (bb_Lf1 ((hU m hm).mp z)))
  · have u : U m = true := by
      cases y : U m
      · exact absurd ((hU m hm).mpr y) z
      · rfl
    exact ⟨m + 1, xa_bhl hU hR pr zs ag hA hm u hf m 0 (by omega) fun k hk => absurd hk (Nat.not_lt_zero k)⟩
end
section
/-! ===== Y: one lemma a private method ===== -/
theorem ya_pp {post : Int32 → Prop} {u : SY} {f : Nat} (hf : f < 65536) (h : post 1) : wpY_polynomial post u (nI f) :=
  br_f (nI_pos (by omega)) (br_f (nI_nlt (a := 65535) (b := f) (by omega) (by omega)) h)
theorem ya_np {post : Int32 → Prop} {u : SY} {x : Int32} (c : ¬ bn_P x) (h : post 0) : wpY_polynomial post u x := by
  by_cases z : x < 0
  · exact br_t z h
  · exact br_f z (br_t (bn_np c z) h)
theorem ya_or : ∀ m, m < 16 → ∀ n, n < 16 → m ||| n < 16 := by decide +kernel
theorem ya_pdi {post : Int32 → Prop} {J : Int32 → Int32 → Prop} (th ge he ot : Nat → Int32) {f g m : Nat} (hf : f < 65536) (hg : g < 65536) (hm : m < 16) (hJ : J (nI (bb_P (f % 2 ^ (m + 1)) g)) (nI (m + 1))) : ∀ d n, n + d = 16 → wY_product_33 post J (nI f) (nI g) (nI m) th ge he ot (d + 1) (nI (bb_ps f g m n)) (nI n) := by
  intro d
  induction d with
  | zero =>
    intro n hn
    have e : n = 16 := by omega
    subst e
    refine pk_le 16 16 (fun _ => nm_r (nI_1 m) ?_) (fun l => absurd l (by omega))
    rw [bb_pse hg]
    exact hJ
  | succ d ih =>
    intro n hn
    have h16 : n < 16 := by omega
    have z := ih (n + 1) (by omega)
    refine pk_le 16 n (fun l => absurd l (by omega)) (fun _ => ?_)
    refine bn_b1 (by omega) (by omega) (fun a => bn_b1 (by omega) (by omega) (fun b => ?_) (fun b => ?_)) (fun a => ?_)
    · refine br_f (by decide) (nm_r ?_ (nm_r (nI_1 n) z))
      have l := ya_or m hm n h16
      rw [bn_or, bn_pow (by omega), nx_xor, bb_ps1 hm h16 a b]
    · rw [bb_ps3 b] at z
      exact br_t rfl (nm_r (nI_1 n) z)
    · rw [bb_ps2 a] at z
      exact br_t rfl (nm_r (nI_1 n) z)
theorem ya_pdo {post : Int32 → Prop} (th ge he ot : Nat → Int32) {f g : Nat} (hf : f < 65536) (hg : g < 65536) (hp : post (nI (bb_P f g))) : ∀ d m, m + d = 16 → wY_product_23 post (nI f) (nI g) th ge he ot (d + 1) (nI (bb_P (f % 2 ^ m) g)) (nI m) := by
  intro d
  induction d with
  | zero =>
    intro m hm
    have e : m = 16 := by omega
    subst e
    rw [bb_md16 hf]
    exact pk_le 16 16 (fun _ => hp) (fun l => absurd l (by omega))
  | succ d ih =>
    intro m hm
    refine pk_le 16 m (fun l => absurd l (by omega)) (fun _ => ⟨17, ?_⟩)
    have z := ya_pdi (post := post) (J := wY_product_23 post (nI f) (nI g) th ge he ot (d + 1)) th ge he ot hf hg (show m < 16 by omega) (ih (m + 1) (by omega)) 16 0 rfl
    rw [bb_ps0] at z
    exact z
theorem ya_pd {post : Int32 → Prop} {th ge he ot : Nat → Int32} {f g : Nat} (hf : f < 65536) (hg : g < 65536) (hp : post (nI (bb_P f g))) : wpY_product post (th, ge, he, ot) (nI f) (nI g) := by
  unfold wpY_product
  try dsimp only
  refine ya_pp hf (br_f (by decide) (ya_pp hg (br_f (by decide) ⟨17, ?_⟩)))
  have z := ya_pdo th ge he ot hf hg hp 16 0 rfl
  rw [bb_psz] at z
  exact z
theorem ya_vl {post : Int32 → Prop} (th ge he ot : Nat → Int32) {f p : Nat} (hf : f < 65536) (h16 : p < 16) (hp : post (nI (bb_T f / 2 ^ p % 2))) : ∀ d m, m + d = 16 → wY_value_25 post (nI f) (nI p) th ge he ot (d + 1) (nI (bb_vs f p m)) (nI m) := by
  intro d
  induction d with
  | zero =>
    intro m hm
    have e : m = 16 := by omega
    subst e
    rw [bb_vse hf]
    exact pk_le 16 16 (fun _ => hp) (fun l => absurd l (by omega))
  | succ d ih =>
    intro m hm
    have hm16 : m < 16 := by omega
    have z := ih (m + 1) (by omega)
    refine pk_le 16 m (fun l => absurd l (by omega)) (fun _ => ?_)
    rw [bn_sub m hm16 p h16]
    by_cases c : m &&& p = m
    · refine br_t c (nm_r ?_ (nm_r (nI_1 m) z))
      rw [bn_sh (by omega) (by omega), nx_xor, bb_vs1 hm16 h16 c]
    · rw [bb_vs2 hm16 h16 c] at z
      exact br_f c (nm_r (nI_1 m) z)
theorem ya_vb {post : Int32 → Prop} (th ge he ot : Nat → Int32) {f p : Nat} (hf : f < 65536) (h16 : p < 16) (hp : post (nI (bb_T f / 2 ^ p % 2))) : ∃ n, wY_value_25 post (nI f) (nI p) th ge he ot n 0 0 := by
  have z := ya_vl th ge he ot hf h16 hp 16 0 rfl
  rw [bb_vs0] at z
  exact ⟨17, z⟩
theorem ya_v {post : Int32 → Prop} {th ge he ot : Nat → Int32} {f p : Nat} (hf : f < 65536) (h16 : p < 16) (hp : post (nI (bb_T f / 2 ^ p % 2))) : wpY_value post (th, ge, he, ot) (nI f) (nI p) := by
  unfold wpY_value
  try dsimp only
  refine ya_pp hf (br_f (by decide) (br_f (nI_pos (by omega)) ?_))
  exact pk_le p 15 (fun _ => ya_vb th ge he ot hf h16 hp) (fun l => absurd l (by omega))
theorem ya_rdl {post : Int32 → Prop} {R : Nat → Nat} (th ge : Nat → Int32) {he : Nat → Int32} (ot : Nat → Int32) (hA : bn_A he R) (hR : ∀ j, j < 16 → R j < 65536) : ∀ d f, d ≤ 16 → f < 65536 → post (nI (bb_rd R d f)) → wY_reduce_5 post th ge he ot (d + 1) (nI f) (bn_dn d) := by
  intro d
  induction d with
  | zero =>
    intro f _ _ hp
    exact br_t bn_dn0 hp
  | succ d ih =>
    intro f hd hf hp
    show wY_reduce_5 post th ge he ot (d + 1 + 1) (nI f) (nI d)
    refine br_f (nI_pos (by omega)) (bn_b1 (by omega) (by omega) (fun c => ⟨vp_in_nI (by omega) (by omega), ?_⟩) (fun c => ?_))
    · rw [bb_rds, if_pos c] at hp
      rw [bn_Ag hA (by omega)]
      refine bn_z (hR d (by omega)) (fun z => ?_) (fun z => ⟨vp_in_nI (by omega) (by omega), ?_⟩)
      · rw [z, Nat.xor_zero] at hp
        exact nm_r (bn_dns d) (ih f (by omega) hf hp)
      · rw [nx_xor]
        exact nm_e (nm_r (bn_dns d) (ih _ (by omega) (bb_xlt hf (hR d (by omega))) hp))
    · refine nm_r (bn_dns d) (ih f (by omega) hf ?_)
      rw [bb_rds, if_neg (by rw [c]; decide)] at hp
      exact hp
theorem ya_rd {post : Int32 → Prop} {R : Nat → Nat} {th ge he ot : Nat → Int32} (hA : bn_A he R) (hR : ∀ j, j < 16 → R j < 65536) {f : Nat} (hf : f < 65536) (hp : post (nI (bb_rd R 16 f))) : wpY_reduce post (th, ge, he, ot) (nI f) :=
  ⟨17, ya_rdl th ge ot hA hR 16 f (by omega) hf hp⟩
theorem ya_kl {post : SY → Prop} (th ge he ot : Nat → Int32) {r : Nat} (hr : r < 65536) (h0 : r = 0 → post (th, ge, he, ot)) (h1 : ∀ h, h < 16 → bb_H r h → post (th, ge, upd he (nI h).toNatClampNeg (nI r), ot)) : ∀ d, d ≤ 16 → r < 2 ^ d → wY_keep_9 post (nI r) th ge he ot (d + 1) (bn_dn d) := by
  intro d
  induction d with
  | zero =>
    intro _ l
    rw [Nat.pow_zero] at l
    exact br_t bn_dn0 (h0 (by omega))
  | succ d ih =>
    intro hd l
    show wY_keep_9 post (nI r) th ge he ot (d + 1 + 1) (nI d)
    refine br_f (nI_pos (by omega)) (bn_b1 (by omega) (by omega) (fun c => ?_) (fun c => ?_))
    · exact ⟨vp_in_nI (by omega) (by omega), nm_e (h1 d (by omega) ⟨c, l⟩)⟩
    · exact nm_r (bn_dns d) (ih (by omega) (bb_cut l (by rw [c]; decide)))
theorem ya_k {post : SY → Prop} {V : Nat → Prop} {R : Nat → Nat} {th ge he ot : Nat → Int32} (hA : bn_A he R) (B : bb_B V R) {x : Nat} (hx : x < 65536) (hp : ∀ he' R', bn_A he' R' → bb_B (bb_add V x) R' → post (th, ge, he', ot)) : wpY_keep post (th, ge, he, ot) (nI x) := by
  unfold wpY_keep
  try dsimp only
  refine ya_rd hA (bb_Rb B) hx ?_
  exact ⟨17, ya_kl th ge he ot (bb_rb B hx) (fun e => hp he R hA (bb_k0 B hx e)) (fun h h16 hH => hp _ _ (bn_Au hA h16 _) (bb_k1 B hx hH)) 16 (by omega) (bb_rb B hx)⟩
/-- the inner loop of work, where generator i counts -/
theorem ya_w1 {post : SY → Prop} {J : Int32 → (Nat → Int32) → (Nat → Int32) → (Nat → Int32) → (Nat → Int32) → Prop} {nv : Int32} {th ge : Nat → Int32} (ot : Nat → Int32) {i Z g : Nat} (hi : i < 6) (ht : ¬ th i = 0) (hn : ¬ nI i = nv) (hg : ge i = nI g) (hb : g < 65536) (hJ : ∀ he' R', bn_A he' R' → bb_B (bb_V (Z &&& (65535 ^^^ bb_T g))) R' → J (nI (i + 1)) th ge he' ot) : ∀ d m (he : Nat → Int32) (R : Nat → Nat), m + d = 16 → bn_A he R → bb_B (bb_VY Z g m) R → wY_work_31 post J nv (nI i) (d + 1) (nI m) th ge he ot := by
  intro d
  induction d with
  | zero =>
    intro m he R hm hA B
    have e : m = 16 := by omega
    subst e
    exact pk_le 16 16 (fun _ => nm_r (nI_1 i) (hJ he R hA (bb_Bc B (bb_VYe Z g)))) (fun l => absurd l (by omega))
  | succ d ih =>
    intro m he R hm hA B
    have h16 : m < 16 := by omega
    refine pk_le 16 m (fun l => absurd l (by omega)) (fun _ => ⟨vp_in_nI (by omega) (by omega), ?_⟩)
    rw [nI_clamp (by omega), hg, bn_pow (by omega)]
    refine br_f ht (br_f hn ⟨vp_in_nI (by omega) (by omega), ?_⟩)
    refine ya_pd hb (bb_p16 h16) ?_
    refine ya_k hA B (bb_Pb (bb_p16 h16)) (fun he' R' hA' B' => ?_)
    exact nm_r (nI_1 m) (ih (m + 1) he' R' (by omega) hA' (bb_Bc B' (bb_VYs Z h16)))
/-- and where it doesn't -/
theorem ya_w0 {post : SY → Prop} {J : Int32 → (Nat → Int32) → (Nat → Int32) → (Nat → Int32) → (Nat → Int32) → Prop} {nv : Int32} {th ge he : Nat → Int32} (ot : Nat → Int32) {i : Nat} (hi : i < 6) (ht : th i = 0 ∨ nI i = nv) (hJ : J (nI (i + 1)) th ge he ot) : ∀ d m, m + d = 16 → wY_work_31 post J nv (nI i) (d + 1) (nI m) th ge he ot := by
  intro d
  induction d with
  | zero =>
    intro m hm
    have e : m = 16 := by omega
    subst e
    exact pk_le 16 16 (fun _ => nm_r (nI_1 i) hJ) (fun l => absurd l (by omega))
  | succ d ih =>
    intro m hm
    have z := ih (m + 1) (by omega)
    refine pk_le 16 m (fun l => absurd l (by omega)) (fun _ => ⟨vp_in_nI (by omega) (by omega), ?_⟩)
    rw [nI_clamp (by omega)]
    by_cases c : th i = 0
    · exact br_t c (nm_r (nI_1 m) z)
    · exact br_f c (br_t (ht.resolve_left c) (nm_r (nI_1 m) z))
theorem ya_wl {post : SY → Prop} {P : Nat} {g : Nat → Nat} {nv : Int32} {th ge : Nat → Int32} (ot : Nat → Int32) (h1 : ∀ i, i < 6 → P.testBit i = true → ¬ th i = 0 ∧ ¬ nI i = nv ∧ ge i = nI (g i) ∧ g i < 65536) (h0 : ∀ i, i < 6 → P.testBit i = false → th i = 0 ∨ nI i = nv) (hp : ∀ he' R', bn_A he' R' → bb_B (bb_V (bb_Z P g 6)) R' → post (th, ge, he', ot)) : ∀ d i (he : Nat → Int32) (R : Nat → Nat), i + d = 6 → bn_A he R → bb_B (bb_V (bb_Z P g i)) R → wY_work_23 post nv (d + 1) (nI i) th ge he ot := by
  intro d
  induction d with
  | zero =>
    intro i he R hi hA B
    have e : i = 6 := by omega
    subst e
    exact pk_le 6 6 (fun _ => hp he R hA B) (fun l => absurd l (by omega))
  | succ d ih =>
    intro i he R hi hA B
    refine pk_le 6 i (fun l => absurd l (by omega)) (fun _ => ⟨17, ?_⟩)
    by_cases c : P.testBit i = true
    · obtain ⟨a1, a2, a3, a4⟩ := h1 i (by omega) c
      refine ya_w1 ot (by omega) a1 a2 a3 a4 (fun he' R' hA' B' => ?_) 16 0 he R rfl hA (bb_Bc B (bb_VY0 _ _))
      rw [← bb_Z1 g c] at B'
      exact ih (i + 1) he' R' (by omega) hA' B'
    · have c' := eq_false_of_ne_true c
      refine ya_w0 ot (by omega) (h0 i (by omega) c') ?_ 16 0 rfl
      rw [← bb_Z2 g c'] at B
      exact ih (i + 1) he R (by omega) hA B
theorem ya_wc {post : SY → Prop} {P : Nat} {g : Nat → Nat} {nv : Int32} {th ge : Nat → Int32} (ot : Nat → Int32) (h1 : ∀ i, i < 6 → P.testBit i = true → ¬ th i = 0 ∧ ¬ nI i = nv ∧ ge i = nI (g i) ∧ g i < 65536) (h0 : ∀ i, i < 6 → P.testBit i = false → th i = 0 ∨ nI i = nv) (hp : ∀ he' R', bn_A he' R' → bb_B (bb_V (bb_Z P g 6)) R' → post (th, ge, he', ot)) : ∀ d i (he : Nat → Int32), i + d = 16 → (∀ j, j < i → he j = 0) → wY_work_2 post nv (d + 1) (nI i) th ge he ot := by
  intro d
  induction d with
  | zero =>
    intro i he hi h
    have e : i = 16 := by omega
    subst e
    refine pk_le 16 16 (fun _ => ⟨7, ?_⟩) (fun l => absurd l (by omega))
    exact ya_wl ot h1 h0 hp 6 0 he (fun _ => 0) rfl (fun j hj => h j hj) (bb_Bc (bb_B0 fun _ _ => rfl) bb_V0)
  | succ d ih =>
    intro i he hi h
    refine pk_le 16 i (fun l => absurd l (by omega)) (fun _ => ⟨vp_in_nI (by omega) (by omega), ?_⟩)
    rw [nI_clamp (by omega)]
    refine nm_e (nm_r (nI_1 i) (ih (i + 1) _ (by omega) ?_))
    intro j hj
    by_cases c : j = i
    · subst c
      exact pk_us
    · rw [pk_un c]
      exact h j (by omega)
theorem ya_w {post : SY → Prop} {P : Nat} {g : Nat → Nat} {nv : Int32} {th ge he ot : Nat → Int32} (h1 : ∀ i, i < 6 → P.testBit i = true → ¬ th i = 0 ∧ ¬ nI i = nv ∧ ge i = nI (g i) ∧ g i < 65536) (h0 : ∀ i, i < 6 → P.testBit i = false → th i = 0 ∨ nI i = nv) (hp : ∀ he' R', bn_A he' R' → bb_B (bb_V (bb_Z P g 6)) R' → post (th, ge, he', ot)) : wpY_work post (th, ge, he, ot) nv :=
  ⟨17, ya_wc ot h1 h0 hp 16 0 he rfl fun j hj => absurd hj (Nat.not_lt_zero j)⟩
/-! ===== least, zeros ===== -/
theorem ya_l0 {post : Int32 → Prop} (th ge he ot : Nat → Int32) (x : Int32) (hp : post 0) : ∀ d n, n + d = 16 → wY_least_17 post x th ge he ot (d + 1) 0 (nI n) := by
  intro d
  induction d with
  | zero =>
    intro n hn
    have e : n = 16 := by omega
    subst e
    exact pk_le 16 16 (fun _ => ⟨rfl, hp⟩) (fun l => absurd l (by omega))
  | succ d ih =>
    intro n hn
    exact pk_le 16 n (fun l => absurd l (by omega)) (fun _ => br_t rfl (nm_r (nI_1 n) (ih (n + 1) (by omega))))
theorem ya_l1 {post : Int32 → Prop} {R : Nat → Nat} {U : Nat → Bool} (hU : ∀ j, j < 16 → (R j = 0 ↔ U j = false)) (hR : ∀ j, j < 16 → R j < 65536) (th ge : Nat → Int32) {he : Nat → Int32} (ot : Nat → Int32) (hA : bn_A he R) {m : Nat} (hm : m < 16) (um : U m = true) (hp : post (nI (bb_L U m).toNat)) : ∀ d n, n + d = 16 → (∀ k, k < n → k < m → k &&& m = k → U k = false) → wY_least_17 post (nI m) th ge he ot (d + 1) 1 (nI n) := by
  intro d
  induction d with
  | zero =>
    intro n hn h
    have e : n = 16 := by omega
    subst e
    rw [bb_Lt um (fun k hk => h k (by omega) hk)] at hp
    exact pk_le 16 16 (fun _ => ⟨rfl, hp⟩) (fun l => absurd l (by omega))
  | succ d ih =>
    intro n hn h
    have h16 : n < 16 := by omega
    refine pk_le 16 n (fun l => absurd l (by omega)) (fun _ => br_f (by decide) ?_)
    refine pk_eq n m (fun c => ?_) (fun c => ?_)
    · exact nm_r (nI_1 n) (ih (n + 1) (by omega) (lt_s h fun l => absurd l (by omega)))
    · rw [bn_sub n h16 m hm]
      by_cases s : n &&& m = n
      · refine br_t s ⟨vp_in_nI (by omega) (by omega), ?_⟩
        rw [bn_Ag hA h16]
        refine bn_z (hR n h16) (fun z => ?_) (fun z => ?_)
        · exact nm_r (nI_1 n) (ih (n + 1) (by omega) (lt_s h fun _ _ => (hU n h16).mp z))
        · have u : U n = true := by
            cases y : U n
            · exact absurd ((hU n h16).mpr y) z
            · rfl
          have l := bn_le n h16 m hm s
          rw [bb_Lf2 (show n < m by omega) s u] at hp
          exact nm_r (nI_1 n) (ya_l0 th ge he ot (nI m) hp d (n + 1) (by omega))
      · exact br_f s (nm_r (nI_1 n) (ih (n + 1) (by omega) (lt_s h fun _ y => absurd y s)))
theorem ya_l {A B : Prop} {R : Nat → Nat} {U : Nat → Bool} (hU : ∀ j, j < 16 → (R j = 0 ↔ U j = false)) (hR : ∀ j, j < 16 → R j < 65536) (th ge : Nat → Int32) {he : Nat → Int32} (ot : Nat → Int32) (hA : bn_A he R) {m : Nat} (hm : m < 16) (f : bb_L U m = false → A) (g : bb_L U m = true → B) : wpY_least (fun r => (r = 0 → A) ∧ (¬ r = 0 → B)) (th, ge, he, ot) (nI m) := by
  have hf := bn_fl (bb_L U m) f g
  refine ⟨vp_in_nI (by omega) (by omega), ?_⟩
  rw [bn_Ag hA hm]
  refine bn_z (hR m hm) (fun z => ⟨17, ?_⟩) (fun z => ⟨17, ?_⟩)
  · exact ya_l0 th ge he ot (nI m) (br_t rfl (f (bb_Lf1 ((hU m hm).mp z)))) 16 0 rfl
  · have u : U m = true := by
      cases y : U m
      · exact absurd ((hU m hm).mpr y) z
      · rfl
    exact ya_l1 hU hR th ge ot hA hm u hf 16 0 rfl fun k hk => absurd hk (Nat.not_lt_zero k)
theorem ya_zi {post : Int32 → Prop} {J : Int32 → Int32 → Prop} {P : Nat} {g : Nat → Nat} {th ge : Nat → Int32} (he ot : Nat → Int32) (ht : ∀ i, i < 6 → th i = nI (P.testBit i).toNat) (hg : ∀ i, i < 6 → P.testBit i = true → ge i = nI (g i) ∧ g i < 65536) {p : Nat} (h16 : p < 16) (hJ : J (nI (bb_Z P g 6 % 2 ^ (p + 1))) (nI (p + 1))) : ∀ d i, i + d = 6 → wY_zeros_15 post J (nI (bb_Z P g 6 % 2 ^ p)) (nI p) th ge he ot (d + 1) (nI ((bb_Z P g i).testBit p).toNat) (nI i) := by
  intro d
  induction d with
  | zero =>
    intro i hi
    have e : i = 6 := by omega
    subst e
    refine pk_le 6 6 (fun _ => ?_) (fun l => absurd l (by omega))
    refine bn_fl _ (fun c => ?_) (fun c => ?_)
    · rw [← bb_mo2 c] at hJ
      exact nm_r (nI_1 p) hJ
    · refine nm_r ?_ (nm_r (nI_1 p) hJ)
      rw [bn_pow (by omega), bn_or, bb_mo1 c]
  | succ d ih =>
    intro i hi
    have z := ih (i + 1) (by omega)
    refine pk_le 6 i (fun l => absurd l (by omega)) (fun _ => ?_)
    refine bn_fl _ (fun c => ?_) (fun c => ⟨vp_in_nI (by omega) (by omega), ?_⟩)
    · have y : (bb_Z P g (i + 1)).testBit p = false := by
        cases hb : P.testBit i
        · rw [bb_Z2 g hb, c]
        · rw [bb_Zp1 g h16 hb, c, Bool.false_and]
      rw [y] at z
      exact nm_r (nI_1 i) z
    · rw [nI_clamp (by omega), ht i (by omega)]
      refine bn_fl _ (fun hb => ?_) (fun hb => ⟨vp_in_nI (by omega) (by omega), ?_⟩)
      · rw [bb_Z2 g hb, c] at z
        exact nm_r (nI_1 i) z
      · obtain ⟨e1, e2⟩ := hg i (by omega) hb
        rw [e1]
        refine ya_v e2 h16 ?_
        rw [bb_Zp1 g h16 hb, c, Bool.true_and] at z
        rw [bn_d]
        cases y : (bb_T (g i)).testBit p
        · rw [y] at z
          exact br_t rfl (nm_r (nI_1 i) z)
        · rw [y] at z
          exact br_f (by decide) (nm_r (nI_1 i) z)
theorem ya_zo {post : Int32 → Prop} {P : Nat} {g : Nat → Nat} {th ge : Nat → Int32} (he ot : Nat → Int32) (ht : ∀ i, i < 6 → th i = nI (P.testBit i).toNat) (hg : ∀ i, i < 6 → P.testBit i = true → ge i = nI (g i) ∧ g i < 65536) (hp : post (nI (bb_Z P g 6))) : ∀ d p, p + d = 16 → wY_zeros_4 post th ge he ot (d + 1) (nI (bb_Z P g 6 % 2 ^ p)) (nI p) := by
  intro d
  induction d with
  | zero =>
    intro p hi
    have e : p = 16 := by omega
    subst e
    rw [bb_md16 (bb_Zb P g 6)]
    exact pk_le 16 16 (fun _ => hp) (fun l => absurd l (by omega))
  | succ d ih =>
    intro p hi
    have h16 : p < 16 := by omega
    refine pk_le 16 p (fun l => absurd l (by omega)) (fun _ => ⟨7, ?_⟩)
    have z := ya_zi (post := post) (J := wY_zeros_4 post th ge he ot (d + 1)) he ot ht hg h16 (ih (p + 1) (by omega)) 6 0 rfl
    rw [show (bb_Z P g 0).testBit p = true from bb_1s h16] at z
    exact z
theorem ya_z {post : Int32 → Prop} {P : Nat} {g : Nat → Nat} {th ge he ot : Nat → Int32} (ht : ∀ i, i < 6 → th i = nI (P.testBit i).toNat) (hg : ∀ i, i < 6 → P.testBit i = true → ge i = nI (g i) ∧ g i < 65536) (hp : post (nI (bb_Z P g 6))) : wpY_zeros post (th, ge, he, ot) := by
  have z := ya_zo he ot ht hg hp 16 0 rfl
  rw [bb_mo0] at z
  exact ⟨17, z⟩
end
section
/-! ===== Y: independent, relates ===== -/
theorem ya_il {post : Int32 → SY → Prop} {V : Nat → Prop} {O : Nat → Nat} (th ge he : Nat → Int32) {ot : Nat → Int32} (hA : bn_A ot O) (B : bb_B V O) {x : Nat} (hx : x < 65536) (h0 : V x → post 0 (th, ge, he, ot)) (h1 : ∀ ot' O', bn_A ot' O' → bb_B (bb_add V x) O' → ¬ V x → post 1 (th, ge, he, ot')) : ∀ d r, d ≤ 16 → r < 2 ^ d → V (x ^^^ r) → wY_independent_5 post th ge he ot (d + 1) (nI r) (bn_dn d) := by
  intro d
  induction d with
  | zero =>
    intro r _ l hV
    rw [Nat.pow_zero] at l
    have e : r = 0 := by omega
    rw [e, Nat.xor_zero] at hV
    exact br_t bn_dn0 (h0 hV)
  | succ d ih =>
    intro r hd l hV
    have hr : r < 65536 := Nat.lt_of_lt_of_le l (Nat.pow_le_pow_right (n := 2) (j := 16) (by omega) hd)
    show wY_independent_5 post th ge he ot (d + 1 + 1) (nI r) (nI d)
    refine br_f (nI_pos (by omega)) (bn_b1 (by omega) (by omega) (fun c => ⟨vp_in_nI (by omega) (by omega), ?_⟩) (fun c => ?_))
    · rw [bn_Ag hA (by omega)]
      refine bn_z (bb_Rb B d (by omega)) (fun z => ⟨vp_in_nI (by omega) (by omega), ?_⟩) (fun z => ⟨vp_in_nI (by omega) (by omega), ?_⟩)
      · refine nm_e (h1 _ _ (bn_Au hA (by omega) r) (bb_ins B hx (by omega) ⟨c, l⟩ z hV) ?_)
        intro y
        have w := B.1.2.1 _ _ y hV
        rw [bb_x1] at w
        exact B.2.2 r d w ⟨c, l⟩ z
      · have hH := (B.2.1 d (by omega)).1.resolve_left z
        rw [nx_xor]
        refine nm_e (nm_r (bn_dns d) (ih _ (by omega) (bb_cut (Nat.xor_lt_two_pow l hH.2) ?_) ?_))
        · rw [Nat.testBit_xor, c, hH.1]
          decide
        · rw [← Nat.xor_assoc]
          exact B.1.2.1 _ _ hV (B.2.1 d (by omega)).2
    · exact nm_r (bn_dns d) (ih r (by omega) (bb_cut l (by rw [c]; decide)) hV)
theorem ya_i {post : Int32 → SY → Prop} {V : Nat → Prop} {O : Nat → Nat} {th ge he ot : Nat → Int32} (hA : bn_A ot O) (B : bb_B V O) {x : Nat} (hx : x < 65536) (h0 : V x → post 0 (th, ge, he, ot)) (h1 : ∀ ot' O', bn_A ot' O' → bb_B (bb_add V x) O' → ¬ V x → post 1 (th, ge, he, ot')) : wpY_independent post (th, ge, he, ot) (nI x) :=
  ⟨17, ya_il th ge he hA B hx h0 h1 16 x (by omega) hx (by rw [Nat.xor_self]; exact B.1.1)⟩
theorem ya_r1 {post : Int32 → SY → Prop} (th ge he ot : Nat → Int32) (x : Int32) (hp : post 1 (th, ge, he, ot)) : ∀ d m, m + d = 16 → wY_relates_42 post x (d + 1) 1 (nI m) th ge he ot := by
  intro d
  induction d with
  | zero =>
    intro m hm
    have e : m = 16 := by omega
    subst e
    exact pk_le 16 16 (fun _ => ⟨rfl, hp⟩) (fun l => absurd l (by omega))
  | succ d ih =>
    intro m hm
    have z := ih (m + 1) (by omega)
    exact pk_le 16 m (fun l => absurd l (by omega)) (fun _ => br_c (fun _ => br_f (by decide) (nm_r (nI_1 m) z)) (fun _ => nm_r (nI_1 m) z))
theorem ya_r0 {post : Int32 → SY → Prop} {V : Nat → Prop} {R : Nat → Nat} (th ge : Nat → Int32) {he : Nat → Int32} (hA : bn_A he R) (B : bb_B V R) {v : Nat} (hv : v < 16) (h1 : bb_K R v → ∀ ot, post 1 (th, ge, he, ot)) (h0 : bb_J R v 16 → ∀ ot, post 0 (th, ge, he, ot)) : ∀ d m (ot : Nat → Int32) (O : Nat → Nat), m + d = 16 → bn_A ot O → bb_B (bb_O R v m) O → bb_J R v m → wY_relates_42 post (nI v) (d + 1) 0 (nI m) th ge he ot := by
  intro d
  induction d with
  | zero =>
    intro m ot O hm _ _ j
    have e : m = 16 := by omega
    subst e
    exact pk_le 16 16 (fun _ => ⟨rfl, h0 j ot⟩) (fun l => absurd l (by omega))
  | succ d ih =>
    intro m ot O hm hO BO j
    have h16 : m < 16 := by omega
    refine pk_le 16 m (fun l => absurd l (by omega)) (fun _ => ?_)
    rw [bn_sub m h16 v hv]
    by_cases c : m &&& v = m
    · refine br_t c (br_t rfl ?_)
      rw [bn_pow (by omega)]
      refine ya_rd hA (bb_Rb B) (bb_p16 h16) ?_
      refine ya_i hO BO (bb_rb B (bb_p16 h16)) (fun hV => ?_) (fun ot' O' hO' BO' nV => ?_)
      · exact br_t rfl (nm_r (nI_1 m) (ya_r1 th ge he ot (nI v) (h1 (bb_Kf h16 c hV) ot) d (m + 1) (by omega)))
      · exact br_f (by decide) (nm_r (nI_1 m) (ih (m + 1) ot' O' (by omega) hO' (bb_Bc BO' (bb_Oa R c)) (bb_Ja j nV)))
    · exact br_f c (nm_r (nI_1 m) (ih (m + 1) ot O (by omega) hO (bb_Bc BO (bb_Os R c)) (bb_Js c j)))
theorem ya_rc {post : Int32 → SY → Prop} {V : Nat → Prop} {R : Nat → Nat} (th ge : Nat → Int32) {he : Nat → Int32} (hA : bn_A he R) (B : bb_B V R) {v : Nat} (hv : v < 16) (h1 : bb_K R v → ∀ ot, post 1 (th, ge, he, ot)) (h0 : bb_J R v 16 → ∀ ot, post 0 (th, ge, he, ot)) : ∀ d i (ot : Nat → Int32), i + d = 16 → (∀ j, j < i → ot j = 0) → wY_relates_19 post (nI v) (d + 1) (nI i) th ge he ot := by
  intro d
  induction d with
  | zero =>
    intro i ot hi h
    have e : i = 16 := by omega
    subst e
    refine pk_le 16 16 (fun _ => ⟨17, ?_⟩) (fun l => absurd l (by omega))
    exact ya_r0 th ge hA B hv h1 h0 16 0 ot (fun _ => 0) rfl (fun j hj => h j hj) (bb_Bc (bb_B0 fun _ _ => rfl) (bb_O0 R v)) (bb_J0 R v)
  | succ d ih =>
    intro i ot hi h
    refine pk_le 16 i (fun l => absurd l (by omega)) (fun _ => ⟨vp_in_nI (by omega) (by omega), ?_⟩)
    rw [nI_clamp (by omega)]
    refine nm_e (nm_r (nI_1 i) (ih (i + 1) _ (by omega) ?_))
    intro j hj
    by_cases c : j = i
    · subst c
      exact pk_us
    · rw [pk_un c]
      exact h j (by omega)
/-! ===== numbers out of range ===== -/
theorem bn_ix (x : Int32) (n : Nat) : x < 0 ∨ (∃ j, n ≤ j ∧ j < 2 ^ 31 ∧ x = nI j) ∨ ∃ j, j < n ∧ j < 2 ^ 31 ∧ x = nI j := by
  by_cases h : x < 0
  · exact Or.inl h
  · obtain ⟨j, hj, e⟩ := nI_of h
    rcases Nat.lt_or_ge j n with l | l
    · exact Or.inr (Or.inr ⟨j, l, hj, e⟩)
    · exact Or.inr (Or.inl ⟨j, l, hj, e⟩)
/-- what remove and redundant ask first -/
theorem ya_g {A B : Prop} {P : Nat} {th : Nat → Int32} (ht : ∀ i, i < 6 → th i = nI (P.testBit i).toNat) {x : Int32} (f : (¬ ∃ i, i < 6 ∧ P.testBit i = true ∧ x = nI i) → A) (g : ∀ i, i < 6 → P.testBit i = true → x = nI i → B) : (x < 0 → A) ∧ (¬ x < 0 → (5 < x → A) ∧ (¬ 5 < x → vp_in x 6 ∧ ((th x.toNatClampNeg = 0 → A) ∧ (¬ th x.toNatClampNeg = 0 → B)))) := by
  rcases bn_ix x 6 with h | ⟨j, hj, hl, rfl⟩ | ⟨j, hj, hl, rfl⟩
  · refine br_t h (f ?_)
    intro ⟨i, hi, _, e⟩
    rw [e] at h
    exact absurd h (nI_pos (by omega))
  · refine br_f (nI_pos hl) (br_t (nI_lt (a := 5) (b := j) (by omega) hl) (f ?_))
    intro ⟨i, hi, _, e⟩
    rw [nI_eq hl (by omega)] at e
    omega
  · refine br_f (nI_pos hl) (br_f (nI_nlt (a := 5) (b := j) (by omega) (by omega)) ⟨vp_in_nI hj (by omega), ?_⟩)
    rw [nI_clamp hl, ht j hj]
    refine bn_fl _ (fun c => f ?_) (fun c => g j hj c rfl)
    intro ⟨i, hi, d, e⟩
    rw [nI_eq hl (by omega)] at e
    rw [e, d] at c
    exact absurd c (by decide)
end
section
/-! ===== the loops of the public methods ===== -/
theorem bn_P2 {P i : Nat} (hP : P < 64) (hi : i < 6) : P ||| 2 ^ i < 64 := Nat.or_lt_two_pow (n := 6) hP (Nat.pow_lt_pow_right (by omega) hi)
theorem bn_o1 {P i : Nat} : (P ||| 2 ^ i).testBit i = true := by
  rw [Nat.testBit_or, Nat.testBit_two_pow_self, Bool.or_true]
theorem bn_o2 {P i j : Nat} (h : j ≠ i) : (P ||| 2 ^ i).testBit j = P.testBit j := by
  rw [Nat.testBit_or, Nat.testBit_two_pow_of_ne (Ne.symm h), Bool.or_false]
theorem bn_r1 {P i : Nat} (hi : i < 6) : (P &&& (65535 ^^^ 2 ^ i)).testBit i = false := by
  rw [Nat.testBit_and, bb_nt _ (by omega), Nat.testBit_two_pow_self]
  cases P.testBit i <;> rfl
theorem bn_r2 {P i j : Nat} (hj : j < 6) (h : j ≠ i) : (P &&& (65535 ^^^ 2 ^ i)).testBit j = P.testBit j := by
  rw [Nat.testBit_and, bb_nt _ (by omega), Nat.testBit_two_pow_of_ne (Ne.symm h)]
  cases P.testBit j <;> rfl
/-- add, X: generator i is the least free one -/
theorem xb_al {post : Int32 → SX → Prop} {P : Nat} {g : Nat → Nat} (hP : P < 64) (zs : Int32) {ag : Nat → Int32} (ar : Nat → Int32) (hg : ∀ i, i < 6 → P.testBit i = true → ag i = nI (g i)) {f : Nat} (h1 : ∀ i, i < 6 → P.testBit i = false → (∀ j, j < i → P.testBit j = true) → ∀ ar' R', bn_A ar' R' → bb_B (bb_V (bb_Z (P ||| 2 ^ i) (bb_up g i f) 6)) R' → bb_Q R' 16 → post (nI i) (nI (P ||| 2 ^ i), nI (bb_Z (P ||| 2 ^ i) (bb_up g i f) 6), upd ag i (nI f), ar')) (h0 : (∀ j, j < 6 → P.testBit j = true) → post (-2) (nI P, zs, ag, ar)) : ∀ d i, i + d = 6 → (∀ j, j < i → P.testBit j = true) → wX_add_11 post (nI f) (nI P) zs ag ar (d + 1) (nI i) := by
  intro d
  induction d with
  | zero =>
    intro i hi h
    have e : i = 6 := by omega
    subst e
    exact pk_le 6 6 (fun _ => h0 h) (fun l => absurd l (by omega))
  | succ d ih =>
    intro i hi h
    have h6 : i < 6 := by omega
    refine pk_le 6 i (fun l => absurd l (by omega)) (fun _ => ?_)
    refine xa_ig hP zs ag ar (fun c => ⟨vp_in_nI h6 (by omega), ?_⟩) (fun j hj c e => ?_)
    · have hb : P.testBit i = false := by
        cases y : P.testBit i
        · rfl
        · exact absurd ⟨i, h6, y, rfl⟩ c
      rw [nI_clamp (by omega), bn_pow (by omega), bn_or]
      refine nm_e (nm_e (xa_wo (g := bb_up g i f) (Nat.lt_trans (bn_P2 hP h6) (by decide)) ?_ (fun ar' R' hA B q => h1 i h6 hb h ar' R' hA B q)))
      intro j hj c2
      by_cases e : j = i
      · subst e
        rw [pk_us, bb_ups]
      · rw [pk_un e, bb_upn _ _ e]
        rw [bn_o2 e] at c2
        exact hg j hj c2
    · rw [nI_eq (by omega) (by omega)] at e
      subst e
      exact nm_r (nI_1 i) (ih (i + 1) (by omega) (lt_s h c))
/-- add, Y -/
theorem yb_a1 {post : Int32 → SY → Prop} {P : Nat} {th : Nat → Int32} (ge he ot : Nat → Int32) (ht : ∀ i, i < 6 → th i = nI (P.testBit i).toNat) {f i : Nat} (h6 : i < 6) (hb : P.testBit i = false) (hl : ∀ j, j < i → P.testBit j = true) (hp : post (nI i) (upd th i 1, upd ge i (nI f), he, ot)) : ∀ d j, j + d = i → wY_add_12 post (nI f) th ge he ot (d + 1) (nI j) := by
  intro d
  induction d with
  | zero =>
    intro j hj
    have e : j = i := by omega
    subst e
    refine pk_le 6 j (fun l => absurd l (by omega)) (fun _ => ⟨vp_in_nI h6 (by omega), ?_⟩)
    rw [nI_clamp (by omega), ht j h6, hb, bn_bT]
    exact br_t rfl ⟨vp_in_nI h6 (by omega), nm_e ⟨vp_in_nI h6 (by omega), nm_e hp⟩⟩
  | succ d ih =>
    intro j hj
    refine pk_le 6 j (fun l => absurd l (by omega)) (fun _ => ⟨vp_in_nI (by omega) (by omega), ?_⟩)
    rw [nI_clamp (by omega), ht j (by omega), hl j (by omega)]
    exact br_f (by decide) (nm_r (nI_1 j) (ih (j + 1) (by omega)))
theorem yb_a0 {post : Int32 → SY → Prop} {P : Nat} {th : Nat → Int32} (ge he ot : Nat → Int32) (ht : ∀ i, i < 6 → th i = nI (P.testBit i).toNat) {x : Int32} (hl : ∀ j, j < 6 → P.testBit j = true) (hp : post (-2) (th, ge, he, ot)) : ∀ d j, j + d = 6 → wY_add_12 post x th ge he ot (d + 1) (nI j) := by
  intro d
  induction d with
  | zero =>
    intro j hj
    have e : j = 6 := by omega
    subst e
    exact pk_le 6 6 (fun _ => hp) (fun l => absurd l (by omega))
  | succ d ih =>
    intro j hj
    refine pk_le 6 j (fun l => absurd l (by omega)) (fun _ => ⟨vp_in_nI (by omega) (by omega), ?_⟩)
    rw [nI_clamp (by omega), ht j (by omega), hl j (by omega)]
    exact br_f (by decide) (nm_r (nI_1 j) (ih (j + 1) (by omega)))
theorem yb_g {post : Int32 → Prop} {P : Nat} (hP : P < 64) {th : Nat → Int32} (ge he ot : Nat → Int32) (ht : ∀ i, i < 6 → th i = nI (P.testBit i).toNat) (hp : post (nI P)) : ∀ d i, i + d = 6 → wY_generators_4 post th ge he ot (d + 1) (nI (P % 2 ^ i)) (nI i) := by
  intro d
  induction d with
  | zero =>
    intro i hi
    have e : i = 6 := by omega
    subst e
    rw [show P % 2 ^ 6 = P from Nat.mod_eq_of_lt hP]
    exact pk_le 6 6 (fun _ => hp) (fun l => absurd l (by omega))
  | succ d ih =>
    intro i hi
    have z := ih (i + 1) (by omega)
    refine pk_le 6 i (fun l => absurd l (by omega)) (fun _ => ⟨vp_in_nI (by omega) (by omega), ?_⟩)
    rw [nI_clamp (by omega), ht i (by omega)]
    refine bn_fl _ (fun c => ?_) (fun c => ?_)
    · rw [← bb_mo2 c] at z
      exact nm_r (nI_1 i) z
    · refine nm_r ?_ (nm_r (nI_1 i) z)
      rw [bn_pow (by omega), bn_or, bb_mo1 c]
theorem xb_bs {post : Int32 → Prop} {R : Nat → Nat} {U : Nat → Bool} (hU : ∀ j, j < 16 → (R j = 0 ↔ U j = false)) (hR : ∀ j, j < 16 → R j < 65536) (pr zs : Int32) (ag : Nat → Int32) {ar : Nat → Int32} (hA : bn_A ar R) (hp : post (nI (bb_bs U 16))) : ∀ d m, m + d = 16 → wX_basisSize_4 post pr zs ag ar (d + 1) (nI (bb_bs U m)) (nI m) := by
  intro d
  induction d with
  | zero =>
    intro m hm
    have e : m = 16 := by omega
    subst e
    exact pk_le 16 16 (fun _ => hp) (fun l => absurd l (by omega))
  | succ d ih =>
    intro m hm
    have z := ih (m + 1) (by omega)
    refine pk_le 16 m (fun l => absurd l (by omega)) (fun _ => ?_)
    refine xa_bh hU hR pr zs ag hA (by omega) (fun c => ?_) (fun c => ?_)
    · rw [bb_bs2 c] at z
      exact nm_r (nI_1 m) z
    · rw [bb_bs1 c] at z
      exact nm_r (nI_1 _) (nm_r (nI_1 m) z)
theorem yb_bs {post : Int32 → SY → Prop} {R : Nat → Nat} {U : Nat → Bool} (hU : ∀ j, j < 16 → (R j = 0 ↔ U j = false)) (hR : ∀ j, j < 16 → R j < 65536) (th ge : Nat → Int32) {he : Nat → Int32} (ot : Nat → Int32) (hA : bn_A he R) (hp : post (nI (bb_bs U 16)) (th, ge, he, ot)) : ∀ d m, m + d = 16 → wY_basisSize_9 post th ge he ot (d + 1) (nI (bb_bs U m)) (nI m) := by
  intro d
  induction d with
  | zero =>
    intro m hm
    have e : m = 16 := by omega
    subst e
    exact pk_le 16 16 (fun _ => hp) (fun l => absurd l (by omega))
  | succ d ih =>
    intro m hm
    have z := ih (m + 1) (by omega)
    refine pk_le 16 m (fun l => absurd l (by omega)) (fun _ => ?_)
    refine ya_l hU hR th ge ot hA (by omega) (fun c => ?_) (fun c => ?_)
    · rw [bb_bs2 c] at z
      exact nm_r (nI_1 m) z
    · rw [bb_bs1 c] at z
      exact nm_r (nI_1 _) (nm_r (nI_1 m) z)
theorem xb_ba {post : Int32 → Prop} {R : Nat → Nat} {U : Nat → Bool} (hU : ∀ j, j < 16 → (R j = 0 ↔ U j = false)) (hR : ∀ j, j < 16 → R j < 65536) (pr zs : Int32) (ag : Nat → Int32) {ar : Nat → Int32} (hA : bn_A ar R) (x : Int32) : ∀ d m c, m + d = 16 → post (bb_ba U (fun j => nI (R j)) x d m c) → wX_basisAt_4 post x pr zs ag ar (d + 1) (nI c) (nI m) := by
  intro d
  induction d with
  | zero =>
    intro m c hm hp
    have e : m = 16 := by omega
    subst e
    exact pk_le 16 16 (fun _ => hp) (fun l => absurd l (by omega))
  | succ d ih =>
    intro m c hm hp
    refine pk_le 16 m (fun l => absurd l (by omega)) (fun _ => ?_)
    refine xa_bh hU hR pr zs ag hA (by omega) (fun h => ?_) (fun h => ?_)
    · rw [bb_ba3 h] at hp
      exact nm_r (nI_1 m) (ih (m + 1) c (by omega) hp)
    · refine br_c (fun e => ⟨vp_in_nI (by omega) (by omega), ?_⟩) (fun e => ?_)
      · rw [bb_ba1 h e] at hp
        rw [bn_Ag hA (by omega)]
        exact hp
      · rw [bb_ba2 h e] at hp
        exact nm_r (nI_1 c) (nm_r (nI_1 m) (ih (m + 1) (c + 1) (by omega) hp))
theorem yb_ba {post : Int32 → SY → Prop} {R : Nat → Nat} {U : Nat → Bool} {A : Nat → Int32} (hU : ∀ j, j < 16 → (R j = 0 ↔ U j = false)) (hR : ∀ j, j < 16 → R j < 65536) (hat : ∀ m, m < 16 → U m = true → nI (2 ^ m ^^^ bb_rd R 16 (2 ^ m)) = A m) (th ge : Nat → Int32) {he : Nat → Int32} (ot : Nat → Int32) (hA : bn_A he R) (x : Int32) : ∀ d m c, m + d = 16 → post (bb_ba U A x d m c) (th, ge, he, ot) → wY_basisAt_9 post x th ge he ot (d + 1) (nI c) (nI m) := by
  intro d
  induction d with
  | zero =>
    intro m c hm hp
    have e : m = 16 := by omega
    subst e
    exact pk_le 16 16 (fun _ => hp) (fun l => absurd l (by omega))
  | succ d ih =>
    intro m c hm hp
    have h16 : m < 16 := by omega
    refine pk_le 16 m (fun l => absurd l (by omega)) (fun _ => ?_)
    refine ya_l hU hR th ge ot hA h16 (fun h => ?_) (fun h => ?_)
    · rw [bb_ba3 h] at hp
      exact nm_r (nI_1 m) (ih (m + 1) c (by omega) hp)
    · refine br_c (fun e => ?_) (fun e => ?_)
      · rw [bb_ba1 h e] at hp
        rw [bn_pow (by omega)]
        refine ya_rd hA hR (bb_p16 h16) ?_
        have um : U m = true := by
          cases y : U m
          · rw [bb_Lf1 y] at h
            exact absurd h (by decide)
          · rfl
        rw [← hat m h16 um, ← nx_xor] at hp
        exact hp
      · rw [bb_ba2 h e] at hp
        exact nm_r (nI_1 c) (nm_r (nI_1 m) (ih (m + 1) (c + 1) (by omega) hp))
theorem xb_bu {post : Int32 → Prop} {R : Nat → Nat} {U : Nat → Bool} (hU : ∀ j, j < 16 → (R j = 0 ↔ U j = false)) (hR : ∀ j, j < 16 → R j < 65536) (pr zs : Int32) (ag : Nat → Int32) {ar : Nat → Int32} (hA : bn_A ar R) (hp : post (nI (bb_bu U 16))) : ∀ d m, m + d = 16 → wX_bound_4 post pr zs ag ar (d + 1) (nI (bb_bu U m)) (nI m) := by
  intro d
  induction d with
  | zero =>
    intro m hm
    have e : m = 16 := by omega
    subst e
    exact pk_le 16 16 (fun _ => hp) (fun l => absurd l (by omega))
  | succ d ih =>
    intro m hm
    have h16 : m < 16 := by omega
    have z := ih (m + 1) (by omega)
    refine pk_le 16 m (fun l => absurd l (by omega)) (fun _ => ⟨vp_in_nI (by omega) (by omega), ?_⟩)
    rw [bn_Ag hA h16]
    refine bn_z (hR m h16) (fun c => ?_) (fun c => ?_)
    · rw [bb_bu2 ((hU m h16).mp c)] at z
      exact nm_r (nI_1 m) z
    · have u : U m = true := by
        cases y : U m
        · exact absurd ((hU m h16).mpr y) c
        · rfl
      refine nm_r ?_ (nm_r (nI_1 m) z)
      rw [bn_pow (by omega), bn_or, bb_bu1 u]
theorem yb_bu {post : Int32 → SY → Prop} {R : Nat → Nat} {U : Nat → Bool} (hU : ∀ j, j < 16 → (R j = 0 ↔ U j = false)) (hR : ∀ j, j < 16 → R j < 65536) (th ge : Nat → Int32) {he : Nat → Int32} (ot : Nat → Int32) (hA : bn_A he R) (hp : post (nI (bb_bu U 16)) (th, ge, he, ot)) : ∀ d m, m + d = 16 → wY_bound_9 post th ge he ot (d + 1) (nI (bb_bu U m)) (nI m) := by
  intro d
  induction d with
  | zero =>
    intro m hm
    have e : m = 16 := by omega
    subst e
    exact pk_le 16 16 (fun _ => hp) (fun l => absurd l (by omega))
  | succ d ih =>
    intro m hm
    have h16 : m < 16 := by omega
    have z := ih (m + 1) (by omega)
    refine pk_le 16 m (fun l => absurd l (by omega)) (fun _ => ⟨vp_in_nI (by omega) (by omega), ?_⟩)
    rw [bn_Ag hA h16]
    refine bn_z (hR m h16) (fun c => ?_) (fun c => ?_)
    · rw [bb_bu2 ((hU m h16).mp c)] at z
      exact nm_r (nI_1 m) z
    · have u : U m = true := by
        cases y : U m
        · exact absurd ((hU m h16).mpr y) c
        · rfl
      refine nm_r ?_ (nm_r (nI_1 m) z)
      rw [bn_pow (by omega), bn_or, bb_bu1 u]
theorem xb_ct {post : Int32 → Prop} {Z : Nat} (hZ : Z < 65536) (hp : post (nI (bb_ct Z 16))) : ∀ d m, m + d = 16 → wX_countOf_4 post (nI Z) (d + 1) (nI (bb_ct Z m)) (nI m) := by
  intro d
  induction d with
  | zero =>
    intro m hm
    have e : m = 16 := by omega
    subst e
    exact pk_le 16 16 (fun _ => hp) (fun l => absurd l (by omega))
  | succ d ih =>
    intro m hm
    have z := ih (m + 1) (by omega)
    refine pk_le 16 m (fun l => absurd l (by omega)) (fun _ => ?_)
    refine xa_in (by omega) (by omega) (fun c => ?_) (fun c => ?_)
    · rw [bb_ct2 c] at z
      exact nm_r (nI_1 m) z
    · rw [bb_ct1 c] at z
      exact nm_r (nI_1 _) (nm_r (nI_1 m) z)
theorem yb_ct {post : Int32 → Prop} (th ge he ot : Nat → Int32) {Z : Nat} (hZ : Z < 65536) (hp : post (nI (bb_ct Z 16))) : ∀ d m, m + d = 16 → wY_zeroCount_9 post (nI Z) th ge he ot (d + 1) (nI (bb_ct Z m)) (nI m) := by
  intro d
  induction d with
  | zero =>
    intro m hm
    have e : m = 16 := by omega
    subst e
    exact pk_le 16 16 (fun _ => hp) (fun l => absurd l (by omega))
  | succ d ih =>
    intro m hm
    refine pk_le 16 m (fun l => absurd l (by omega)) (fun _ => nm_r ?_ (nm_r (nI_1 m) (ih (m + 1) (by omega))))
    rw [bn_sh (by omega) (by omega), nI_add]
    rfl
theorem bn_s1 {i p : Nat} (hi : i < 4) (hp : p < 16) : (1 : Int32) <<< (((nI p >>> (nI i &&& 31)) &&& 1) &&& 31) = nI (2 ^ (p / 2 ^ i % 2)) := by
  have l : p / 2 ^ i % 2 < 2 := Nat.mod_lt _ (by omega)
  rw [bn_sh (by omega) (by omega), bn_pow (by omega)]
theorem xb_sv {post : Int32 → Prop} {Z : Nat} (hZ : Z < 65536) (pr : Int32) (ag ar : Nat → Int32) {i : Nat} (hi : i < 4) (hp : post (nI (bb_sv Z i 16))) : ∀ d m, m + d = 16 → wX_values_15 post (nI i) pr (nI Z) ag ar (d + 1) (nI (bb_sv Z i m)) (nI m) := by
  intro d
  induction d with
  | zero =>
    intro m hm
    have e : m = 16 := by omega
    subst e
    exact pk_le 16 16 (fun _ => hp) (fun l => absurd l (by omega))
  | succ d ih =>
    intro m hm
    have z := ih (m + 1) (by omega)
    refine pk_le 16 m (fun l => absurd l (by omega)) (fun _ => ?_)
    refine xa_in (by omega) (by omega) (fun c => ?_) (fun c => ?_)
    · rw [bb_sv2 i c] at z
      exact nm_r (nI_1 m) z
    · refine nm_r ?_ (nm_r (nI_1 m) z)
      rw [bn_s1 hi (by omega), bn_or, bb_sv1 i c]
theorem yb_sv {post : Int32 → Prop} {Z : Nat} (hZ : Z < 65536) (th ge he ot : Nat → Int32) {i : Nat} (hi : i < 4) (hp : post (nI (bb_sv Z i 16))) : ∀ d m, m + d = 16 → wY_values_10 post (nI i) (nI Z) th ge he ot (d + 1) (nI (bb_sv Z i m)) (nI m) := by
  intro d
  induction d with
  | zero =>
    intro m hm
    have e : m = 16 := by omega
    subst e
    exact pk_le 16 16 (fun _ => hp) (fun l => absurd l (by omega))
  | succ d ih =>
    intro m hm
    have z := ih (m + 1) (by omega)
    refine pk_le 16 m (fun l => absurd l (by omega)) (fun _ => br_f (nI_pos (by omega)) (br_f (nI_nlt (a := 3) (b := i) (by omega) (by omega)) ?_))
    refine bn_b1 (by omega) (by omega) (fun c => ?_) (fun c => ?_)
    · refine nm_r ?_ (nm_r (nI_1 m) z)
      rw [bn_s1 hi (by omega), bn_or, bb_sv1 i c]
    · rw [bb_sv2 i c] at z
      exact nm_r (nI_1 m) z
theorem xb_re {post : Int32 → Prop} {Z : Nat} (hZ : Z < 65536) (pr : Int32) (ag ar : Nat → Int32) {v : Nat} (hv : v < 16) (h0 : bb_oc Z v 16 = bb_po v 16 → post 0) (h1 : bb_oc Z v 16 ≠ bb_po v 16 → post 1) : ∀ d m, m + d = 16 → wX_relates_19 post (nI v) pr (nI Z) ag ar (d + 1) (nI (bb_po v m)) (nI (bb_oc Z v m)) (nI m) := by
  intro d
  induction d with
  | zero =>
    intro m hm
    have e : m = 16 := by omega
    subst e
    have a := bb_ocb Z hv 16
    have b := bb_pob hv 16
    refine pk_le 16 16 (fun _ => ?_) (fun l => absurd l (by omega))
    rw [nI_eq (by omega) (by omega)]
    exact ⟨h0, h1⟩
  | succ d ih =>
    intro m hm
    have z := ih (m + 1) (by omega)
    have l : m &&& v < 16 := Nat.lt_of_le_of_lt Nat.and_le_right hv
    have e : nI (bb_po v m) ||| nI (2 ^ (m &&& v)) = nI (bb_po v (m + 1)) := bn_or _ _
    refine pk_le 16 m (fun l => absurd l (by omega)) (fun _ => ?_)
    rw [nx_and]
    refine nm_r (bn_pow (by omega)) (nm_r e ?_)
    refine xa_in (by omega) (by omega) (fun c => ?_) (fun c => ?_)
    · rw [bb_oc2 v c] at z
      exact nm_r (nI_1 m) z
    · refine nm_r ?_ (nm_r (nI_1 m) z)
      rw [bn_or, bb_oc1 v c]
end
section
/-! ===== the relation ===== -/
def rl_X (P : Nat) (g R : Nat → Nat) (pr zs : Int32) (ag ar : Nat → Int32) : Prop := P < 64 ∧ (∀ i, i < 6 → P.testBit i = true → g i < 65536) ∧ pr = nI P ∧ zs = nI (bb_Z P g 6) ∧ (∀ i, i < 6 → P.testBit i = true → ag i = nI (g i)) ∧ bn_A ar R ∧ bb_B (bb_V (bb_Z P g 6)) R ∧ bb_Q R 16
def rl_Y (P : Nat) (g : Nat → Nat) (th ge : Nat → Int32) : Prop := (∀ i, i < 6 → th i = nI (P.testBit i).toNat) ∧ ∀ i, i < 6 → P.testBit i = true → ge i = nI (g i)
/-- one set of generators; X's zeros and finished rows are its ideal's; what Y keeps beside the generators is free -/
def i_Rel (_ : Nat) (u : SX) (v : SY) : Prop := ∃ (P : Nat) (g R : Nat → Nat), rl_X P g R u.1 u.2.1 u.2.2.1 u.2.2.2 ∧ rl_Y P g v.1 v.2.1
theorem i_up {k : Nat} {u : SX} {v : SY} (h : i_Rel k u v) : i_Rel (k + 3) u v := h
theorem rl_0 (i : Nat) : (0 : Nat).testBit i = true → False := by
  rw [Nat.zero_testBit]
  decide
theorem i_vc0 : wpX_init (fun u => wpY_init (fun v => i_Rel 0 u v)) := by
  refine ⟨0, fun _ => 0, fun _ => 0, ⟨by decide, fun i _ c => (rl_0 i c).elim, rfl, ?_, fun i _ c => (rl_0 i c).elim, fun _ _ => rfl, ?_, ?_⟩, ?_, fun i _ c => (rl_0 i c).elim⟩
  · show (65535 : Int32) = nI (bb_Z 0 (fun _ => 0) 6)
    decide +kernel
  · have e : bb_Z 0 (fun _ => 0) 6 = 65535 := by decide +kernel
    rw [e]
    exact bb_Bc (bb_B0 fun _ _ => rfl) bb_V0
  · intro j _ c
    exact absurd rfl c
  · intro i _
    rw [Nat.zero_testBit]
    rfl
/-- the rows of one relation bind the monomials U -/
def rl_U (R : Nat → Nat) (j : Nat) : Bool := !(decide (R j = 0))
theorem rl_Uh (R : Nat → Nat) : ∀ j, j < 16 → (R j = 0 ↔ rl_U R j = false) := by
  intro j _
  unfold rl_U
  by_cases c : R j = 0
  · rw [decide_eq_true c]
    exact ⟨fun _ => rfl, fun _ => c⟩
  · rw [decide_eq_false c]
    exact ⟨fun z => absurd z c, fun z => absurd z (by decide)⟩
theorem rl_Uc {V : Nat → Prop} {R Q : Nat → Nat} (B : bb_B V R) (C : bb_B V Q) : ∀ j, j < 16 → (Q j = 0 ↔ rl_U R j = false) :=
  fun j hj => (bb_bd2 C B hj).trans (rl_Uh R j hj)
theorem rl_n1 : ∀ i, i < 6 → ¬ nI i = (-1) := by decide +kernel
theorem rl_t1 {P : Nat} {th : Nat → Int32} (ht : ∀ i, i < 6 → th i = nI (P.testBit i).toNat) {i : Nat} (hi : i < 6) (c : P.testBit i = true) : ¬ th i = 0 := by
  rw [ht i hi, c]
  decide
theorem rl_t0 {P : Nat} {th : Nat → Int32} (ht : ∀ i, i < 6 → th i = nI (P.testBit i).toNat) {i : Nat} (hi : i < 6) (c : P.testBit i = false) : th i = 0 := by
  rw [ht i hi, c]
  rfl
/-- work(-1) -/
theorem rl_w {post : SY → Prop} {P : Nat} {g : Nat → Nat} {th ge he ot : Nat → Int32} (hb : ∀ i, i < 6 → P.testBit i = true → g i < 65536) (h : rl_Y P g th ge) (hp : ∀ he' R', bn_A he' R' → bb_B (bb_V (bb_Z P g 6)) R' → post (th, ge, he', ot)) : wpY_work post (th, ge, he, ot) (-1) :=
  ya_w (fun i hi c => ⟨rl_t1 h.1 hi c, rl_n1 i hi, h.2 i hi c, hb i hi c⟩) (fun i hi c => Or.inl (rl_t0 h.1 hi c)) hp
theorem rl_r {post : Int32 → SY → Prop} {P : Nat} {g : Nat → Nat} {th ge he ot : Nat → Int32} (hb : ∀ i, i < 6 → P.testBit i = true → g i < 65536) (h : rl_Y P g th ge) {f : Nat} (hf : f < 65536) (hp : ∀ he' R', bn_A he' R' → bb_B (bb_V (bb_Z P g 6)) R' → post (nI (bb_rd R' 16 f)) (th, ge, he', ot)) : wpY_rest post (th, ge, he, ot) (nI f) := by
  unfold wpY_rest
  try dsimp only
  refine ya_pp hf (br_f (by decide) ?_)
  refine rl_w hb h (fun he' R' hA B => ?_)
  exact ya_rd hA (bb_Rb B) hf (hp he' R' hA B)
theorem rl_rn {post : Int32 → SY → Prop} {th ge he ot : Nat → Int32} {x : Int32} (c : ¬ bn_P x) (hp : post (-1) (th, ge, he, ot)) : wpY_rest post (th, ge, he, ot) x := by
  unfold wpY_rest
  try dsimp only
  exact ya_np c (br_t rfl hp)
end
section
/-! ===== what is owed, a method each ===== -/
theorem i_vc_add {k : Nat} {u : SX} {v : SY} (I : i_Rel k u v) (hk : k + 3 ≤ 1536) (v1 : Int32) : wpX_add (fun r u' => wpY_add (fun r' v' => r' = r ∧ i_Rel (k + 3) u' v') v v1) u v1 := by
  have J := I
  obtain ⟨pr, zs, ag, ar⟩ := u
  obtain ⟨th, ge, he, ot⟩ := v
  obtain ⟨P, g, R, ⟨hP, hb, e1, e2, hg, hA, B, q⟩, ht, hy⟩ := I
  obtain rfl : pr = nI P := e1
  obtain rfl : zs = nI (bb_Z P g 6) := e2
  unfold wpX_add
  try dsimp only
  by_cases c : bn_P v1
  · obtain ⟨f, hf, rfl⟩ := c
    refine xa_pp hf (br_f (by decide) ⟨7, ?_⟩)
    refine xb_al hP _ ar hg (fun i hi hbi hl ar' R' hA' B' q' => ?_) (fun hl => ?_) 6 0 rfl (fun j hj => absurd hj (Nat.not_lt_zero j))
    · unfold wpY_add
      try dsimp only
      refine ya_pp hf (br_f (by decide) ⟨i + 1, ?_⟩)
      refine yb_a1 ge he ot ht hi hbi hl ⟨rfl, ?_⟩ i 0 (by omega)
      refine ⟨P ||| 2 ^ i, bb_up g i f, R', ⟨bn_P2 hP hi, ?_, rfl, rfl, ?_, hA', B', q'⟩, ?_, ?_⟩
      · intro j hj c
        by_cases e : j = i
        · subst e
          rw [bb_ups]
          exact hf
        · rw [bb_upn _ _ e]
          rw [bn_o2 e] at c
          exact hb j hj c
      · intro j hj c
        show upd ag i (nI f) j = _
        by_cases e : j = i
        · subst e
          rw [pk_us, bb_ups]
        · rw [pk_un e, bb_upn _ _ e]
          rw [bn_o2 e] at c
          exact hg j hj c
      · intro j hj
        show upd th i 1 j = _
        by_cases e : j = i
        · subst e
          rw [pk_us, bn_o1]
          rfl
        · rw [pk_un e, bn_o2 e]
          exact ht j hj
      · intro j hj c
        show upd ge i (nI f) j = _
        by_cases e : j = i
        · subst e
          rw [pk_us, bb_ups]
        · rw [pk_un e, bb_upn _ _ e]
          rw [bn_o2 e] at c
          exact hy j hj c
    · unfold wpY_add
      try dsimp only
      refine ya_pp hf (br_f (by decide) ⟨7, ?_⟩)
      exact yb_a0 ge he ot ht hl ⟨rfl, J⟩ 6 0 rfl
  · refine xa_np c (br_t rfl ?_)
    unfold wpY_add
    try dsimp only
    exact ya_np c (br_t rfl ⟨rfl, J⟩)
theorem i_vc_remove {k : Nat} {u : SX} {v : SY} (I : i_Rel k u v) (hk : k + 3 ≤ 1536) (v1 : Int32) : wpX_remove (fun r u' => wpY_remove (fun r' v' => r' = r ∧ i_Rel (k + 3) u' v') v v1) u v1 := by
  have J := I
  obtain ⟨pr, zs, ag, ar⟩ := u
  obtain ⟨th, ge, he, ot⟩ := v
  obtain ⟨P, g, R, ⟨hP, hb, e1, e2, hg, hA, B, q⟩, ht, hy⟩ := I
  obtain rfl : pr = nI P := e1
  obtain rfl : zs = nI (bb_Z P g 6) := e2
  unfold wpX_remove
  try dsimp only
  refine xa_ig hP _ ag ar (fun c => ?_) (fun i hi c e => ?_)
  · exact ya_g ht (fun _ => ⟨rfl, J⟩) (fun i hi d e => absurd ⟨i, hi, d, e⟩ c)
  · subst e
    rw [bn_pow (by omega), bn_not _ (by omega)]
    have hP2 : P &&& (65535 ^^^ 2 ^ i) < 64 := Nat.lt_of_le_of_lt Nat.and_le_left hP
    have hbit : ∀ j, j < 6 → (P &&& (65535 ^^^ 2 ^ i)).testBit j = true → j ≠ i ∧ P.testBit j = true := by
      intro j hj d
      by_cases e : j = i
      · subst e
        rw [bn_r1 hj] at d
        exact absurd d (by decide)
      · rw [bn_r2 hj e] at d
        exact ⟨e, d⟩
    refine nm_e (xa_wo (g := g) (by omega) (fun j hj d => hg j hj (hbit j hj d).2) (fun ar' R' hA' B' q' => ?_))
    refine ya_g ht (fun n => absurd ⟨i, hi, c, rfl⟩ n) (fun j hj d e => ⟨vp_in_nI hi (by omega), ?_⟩)
    rw [nI_clamp (by omega), bn_bF]
    refine nm_e ⟨rfl, P &&& (65535 ^^^ 2 ^ i), g, R', ⟨hP2, fun j hj d => hb j hj (hbit j hj d).2, rfl, rfl, fun j hj d => hg j hj (hbit j hj d).2, hA', B', q'⟩, ?_, fun j hj d => hy j hj (hbit j hj d).2⟩
    intro j hj
    show upd th i 0 j = _
    by_cases e : j = i
    · subst e
      rw [pk_us, bn_r1 hj]
      rfl
    · rw [pk_un e, bn_r2 hj e]
      exact ht j hj
theorem i_vc_generators {k : Nat} {u : SX} {v : SY} (I : i_Rel k u v) (hk : k + 3 ≤ 1536) : wpX_generators (fun r => wpY_generators (fun r' => r' = r ∧ i_Rel (k + 3) u v) v) u := by
  have J := I
  obtain ⟨pr, zs, ag, ar⟩ := u
  obtain ⟨th, ge, he, ot⟩ := v
  obtain ⟨P, g, R, ⟨hP, hb, e1, e2, hg, hA, B, q⟩, ht, hy⟩ := I
  obtain rfl : pr = nI P := e1
  unfold wpX_generators
  try dsimp only
  have z := yb_g (post := fun r' => r' = nI P ∧ i_Rel (k + 3) (nI P, zs, ag, ar) (th, ge, he, ot)) hP ge he ot ht ⟨rfl, J⟩ 6 0 rfl
  rw [bb_mo0] at z
  exact ⟨7, z⟩
theorem i_vc_product {k : Nat} {u : SX} {v : SY} (I : i_Rel k u v) (hk : k + 3 ≤ 1536) (v1 : Int32) (v2 : Int32) : wpX_product (fun r => wpY_product (fun r' => r' = r ∧ i_Rel (k + 3) u v) v v1 v2) u v1 v2 := by
  have J := I
  obtain ⟨pr, zs, ag, ar⟩ := u
  obtain ⟨th, ge, he, ot⟩ := v
  unfold wpX_product
  try dsimp only
  by_cases c1 : bn_P v1
  · obtain ⟨f, hf, rfl⟩ := c1
    refine xa_pp hf (br_f (by decide) ?_)
    by_cases c2 : bn_P v2
    · obtain ⟨g, hg, rfl⟩ := c2
      refine xa_pp hg (br_f (by decide) ?_)
      refine xa_T (xa_T (nm_r (nx_and _ _) (xa_T ?_)))
      exact ya_pd hf hg ⟨rfl, J⟩
    · refine xa_np c2 (br_t rfl ?_)
      unfold wpY_product
      try dsimp only
      exact ya_pp hf (br_f (by decide) (ya_np c2 (br_t rfl ⟨rfl, J⟩)))
  · refine xa_np c1 (br_t rfl ?_)
    unfold wpY_product
    try dsimp only
    exact ya_np c1 (br_t rfl ⟨rfl, J⟩)
theorem i_vc_value {k : Nat} {u : SX} {v : SY} (I : i_Rel k u v) (hk : k + 3 ≤ 1536) (v1 : Int32) (v2 : Int32) : wpX_value (fun r => wpY_value (fun r' => r' = r ∧ i_Rel (k + 3) u v) v v1 v2) u v1 v2 := by
  have J := I
  obtain ⟨pr, zs, ag, ar⟩ := u
  obtain ⟨th, ge, he, ot⟩ := v
  unfold wpX_value
  try dsimp only
  by_cases c1 : bn_P v1
  · obtain ⟨f, hf, rfl⟩ := c1
    refine xa_pp hf (br_f (by decide) ?_)
    rcases bn_ix v2 16 with h | ⟨j, hj, hl, rfl⟩ | ⟨j, hj, hl, rfl⟩
    · refine br_t h ?_
      unfold wpY_value
      try dsimp only
      exact ya_pp hf (br_f (by decide) (br_t h ⟨rfl, J⟩))
    · refine br_f (nI_pos hl) (br_f (nI_nlt (a := j) (b := 16) hj hl) ?_)
      unfold wpY_value
      try dsimp only
      exact ya_pp hf (br_f (by decide) (br_f (nI_pos hl) (br_f (nI_ge (a := 15) (b := j) (by omega) hl) ⟨rfl, J⟩)))
    · refine br_f (nI_pos hl) (br_t (nI_lt (a := j) (b := 16) hj (by omega)) ?_)
      refine xa_T ?_
      have l := bb_Tb hf
      rw [bn_sh (by omega) (by omega)]
      exact ya_v hf hj ⟨rfl, J⟩
  · refine xa_np c1 (br_t rfl ?_)
    unfold wpY_value
    try dsimp only
    exact ya_np c1 (br_t rfl ⟨rfl, J⟩)
theorem i_vc_contains {k : Nat} {u : SX} {v : SY} (I : i_Rel k u v) (hk : k + 3 ≤ 1536) (v1 : Int32) : wpX_contains (fun r => wpY_contains (fun r' v' => r' = r ∧ i_Rel (k + 3) u v') v v1) u v1 := by
  have J := I
  obtain ⟨pr, zs, ag, ar⟩ := u
  obtain ⟨th, ge, he, ot⟩ := v
  obtain ⟨P, g, R, ⟨hP, hb, e1, e2, hg, hA, B, q⟩, ht, hy⟩ := I
  obtain rfl : pr = nI P := e1
  obtain rfl : zs = nI (bb_Z P g 6) := e2
  unfold wpX_contains
  try dsimp only
  by_cases c : bn_P v1
  · obtain ⟨f, hf, rfl⟩ := c
    refine xa_pp hf (br_f (by decide) ?_)
    refine xa_van hf (bb_Zb P g 6) (fun hV => br_f (by decide) ?_) (fun hV => br_t rfl ?_)
    · unfold wpY_contains
      try dsimp only
      refine rl_r hb ⟨ht, hy⟩ hf (fun he' R' hA' B' => ?_)
      exact bn_z (bb_rb B' hf) (fun _ => ⟨rfl, J⟩) (fun z => absurd ((bb_in B' hf).mpr hV) z)
    · unfold wpY_contains
      try dsimp only
      refine rl_r hb ⟨ht, hy⟩ hf (fun he' R' hA' B' => ?_)
      exact bn_z (bb_rb B' hf) (fun z => absurd ((bb_in B' hf).mp z) hV) (fun _ => ⟨rfl, J⟩)
  · refine xa_np c (br_t rfl ?_)
    unfold wpY_contains
    try dsimp only
    exact rl_rn c (br_f (by decide) ⟨rfl, J⟩)
theorem i_vc_rest {k : Nat} {u : SX} {v : SY} (I : i_Rel k u v) (hk : k + 3 ≤ 1536) (v1 : Int32) : wpX_rest (fun r => wpY_rest (fun r' v' => r' = r ∧ i_Rel (k + 3) u v') v v1) u v1 := by
  have J := I
  obtain ⟨pr, zs, ag, ar⟩ := u
  obtain ⟨th, ge, he, ot⟩ := v
  obtain ⟨P, g, R, ⟨hP, hb, e1, e2, hg, hA, B, q⟩, ht, hy⟩ := I
  unfold wpX_rest
  try dsimp only
  by_cases c : bn_P v1
  · obtain ⟨f, hf, rfl⟩ := c
    refine xa_pp hf (br_f (by decide) ?_)
    refine xa_rd hA (bb_Rb B) hf ?_
    refine rl_r hb ⟨ht, hy⟩ hf (fun he' R' hA' B' => ?_)
    exact ⟨congrArg nI (bb_rq B' B hf), J⟩
  · exact xa_np c (br_t rfl (rl_rn c ⟨rfl, J⟩))
theorem i_vc_basisSize {k : Nat} {u : SX} {v : SY} (I : i_Rel k u v) (hk : k + 3 ≤ 1536) : wpX_basisSize (fun r => wpY_basisSize (fun r' v' => r' = r ∧ i_Rel (k + 3) u v') v) u := by
  have J := I
  obtain ⟨pr, zs, ag, ar⟩ := u
  obtain ⟨th, ge, he, ot⟩ := v
  obtain ⟨P, g, R, ⟨hP, hb, e1, e2, hg, hA, B, q⟩, ht, hy⟩ := I
  refine ⟨17, xb_bs (U := rl_U R) (rl_Uh R) (bb_Rb B) pr zs ag hA ?_ 16 0 rfl⟩
  unfold wpY_basisSize
  try dsimp only
  refine rl_w hb ⟨ht, hy⟩ (fun he' R' hA' B' => ?_)
  exact ⟨17, yb_bs (U := rl_U R) (rl_Uc B B') (bb_Rb B') th ge ot hA' ⟨rfl, J⟩ 16 0 rfl⟩
theorem i_vc_basisAt {k : Nat} {u : SX} {v : SY} (I : i_Rel k u v) (hk : k + 3 ≤ 1536) (v1 : Int32) : wpX_basisAt (fun r => wpY_basisAt (fun r' v' => r' = r ∧ i_Rel (k + 3) u v') v v1) u v1 := by
  have J := I
  obtain ⟨pr, zs, ag, ar⟩ := u
  obtain ⟨th, ge, he, ot⟩ := v
  obtain ⟨P, g, R, ⟨hP, hb, e1, e2, hg, hA, B, q⟩, ht, hy⟩ := I
  refine ⟨17, xb_ba (U := rl_U R) (rl_Uh R) (bb_Rb B) pr zs ag hA v1 16 0 0 rfl ?_⟩
  unfold wpY_basisAt
  try dsimp only
  refine rl_w hb ⟨ht, hy⟩ (fun he' R' hA' B' => ?_)
  refine ⟨17, yb_ba (U := rl_U R) (A := fun j => nI (R j)) (rl_Uc B B') (bb_Rb B') ?_ th ge ot hA' v1 16 0 0 rfl ⟨rfl, J⟩⟩
  intro m hm um
  refine congrArg nI (bb_at B B' q hm ?_)
  intro z
  rw [(rl_Uh R m hm).mp z] at um
  exact absurd um (by decide)
theorem i_vc_bound {k : Nat} {u : SX} {v : SY} (I : i_Rel k u v) (hk : k + 3 ≤ 1536) : wpX_bound (fun r => wpY_bound (fun r' v' => r' = r ∧ i_Rel (k + 3) u v') v) u := by
  have J := I
  obtain ⟨pr, zs, ag, ar⟩ := u
  obtain ⟨th, ge, he, ot⟩ := v
  obtain ⟨P, g, R, ⟨hP, hb, e1, e2, hg, hA, B, q⟩, ht, hy⟩ := I
  refine ⟨17, xb_bu (U := rl_U R) (rl_Uh R) (bb_Rb B) pr zs ag hA ?_ 16 0 rfl⟩
  unfold wpY_bound
  try dsimp only
  refine rl_w hb ⟨ht, hy⟩ (fun he' R' hA' B' => ?_)
  exact ⟨17, yb_bu (U := rl_U R) (rl_Uc B B') (bb_Rb B') th ge ot hA' ⟨rfl, J⟩ 16 0 rfl⟩
theorem i_vc_zeros {k : Nat} {u : SX} {v : SY} (I : i_Rel k u v) (hk : k + 3 ≤ 1536) : wpX_zeros (fun r => wpY_zeros (fun r' => r' = r ∧ i_Rel (k + 3) u v) v) u := by
  have J := I
  obtain ⟨pr, zs, ag, ar⟩ := u
  obtain ⟨th, ge, he, ot⟩ := v
  obtain ⟨P, g, R, ⟨hP, hb, e1, e2, hg, hA, B, q⟩, ht, hy⟩ := I
  obtain rfl : zs = nI (bb_Z P g 6) := e2
  unfold wpX_zeros
  try dsimp only
  exact ya_z ht (fun i hi c => ⟨hy i hi c, hb i hi c⟩) ⟨rfl, J⟩
theorem i_vc_zeroCount {k : Nat} {u : SX} {v : SY} (I : i_Rel k u v) (hk : k + 3 ≤ 1536) : wpX_zeroCount (fun r => wpY_zeroCount (fun r' => r' = r ∧ i_Rel (k + 3) u v) v) u := by
  have J := I
  obtain ⟨pr, zs, ag, ar⟩ := u
  obtain ⟨th, ge, he, ot⟩ := v
  obtain ⟨P, g, R, ⟨hP, hb, e1, e2, hg, hA, B, q⟩, ht, hy⟩ := I
  obtain rfl : zs = nI (bb_Z P g 6) := e2
  unfold wpX_zeroCount
  try dsimp only
  refine ⟨17, xb_ct (bb_Zb P g 6) ?_ 16 0 rfl⟩
  unfold wpY_zeroCount
  try dsimp only
  refine ya_z ht (fun i hi c => ⟨hy i hi c, hb i hi c⟩) ?_
  exact ⟨17, yb_ct th ge he ot (bb_Zb P g 6) ⟨rfl, J⟩ 16 0 rfl⟩
theorem i_vc_values {k : Nat} {u : SX} {v : SY} (I : i_Rel k u v) (hk : k + 3 ≤ 1536) (v1 : Int32) : wpX_values (fun r => wpY_values (fun r' => r' = r ∧ i_Rel (k + 3) u v) v v1) u v1 := by
  have J := I
  obtain ⟨pr, zs, ag, ar⟩ := u
  obtain ⟨th, ge, he, ot⟩ := v
  obtain ⟨P, g, R, ⟨hP, hb, e1, e2, hg, hA, B, q⟩, ht, hy⟩ := I
  obtain rfl : zs = nI (bb_Z P g 6) := e2
  unfold wpX_values
  try dsimp only
  rcases bn_ix v1 4 with h | ⟨j, hj, hl, rfl⟩ | ⟨j, hj, hl, rfl⟩
  · refine br_t h ?_
    unfold wpY_values
    try dsimp only
    refine ya_z ht (fun i hi c => ⟨hy i hi c, hb i hi c⟩) ⟨1, ?_⟩
    exact pk_le 16 0 (fun l => absurd l (by omega)) (fun _ => br_t h ⟨rfl, J⟩)
  · refine br_f (nI_pos hl) (br_f (nI_nlt (a := j) (b := 4) hj hl) ?_)
    unfold wpY_values
    try dsimp only
    refine ya_z ht (fun i hi c => ⟨hy i hi c, hb i hi c⟩) ⟨1, ?_⟩
    exact pk_le 16 0 (fun l => absurd l (by omega)) (fun _ => br_f (nI_pos hl) (br_t (nI_lt (a := 3) (b := j) (by omega) hl) ⟨rfl, J⟩))
  · refine br_f (nI_pos hl) (br_t (nI_lt (a := j) (b := 4) hj (by omega)) ?_)
    refine ⟨17, xb_sv (bb_Zb P g 6) pr ag ar hj ?_ 16 0 rfl⟩
    unfold wpY_values
    try dsimp only
    refine ya_z ht (fun i hi c => ⟨hy i hi c, hb i hi c⟩) ?_
    exact ⟨17, yb_sv (bb_Zb P g 6) th ge he ot hj ⟨rfl, J⟩ 16 0 rfl⟩
theorem i_vc_redundant {k : Nat} {u : SX} {v : SY} (I : i_Rel k u v) (hk : k + 3 ≤ 1536) (v1 : Int32) : wpX_redundant (fun r => wpY_redundant (fun r' v' => r' = r ∧ i_Rel (k + 3) u v') v v1) u v1 := by
  have J := I
  obtain ⟨pr, zs, ag, ar⟩ := u
  obtain ⟨th, ge, he, ot⟩ := v
  obtain ⟨P, g, R, ⟨hP, hb, e1, e2, hg, hA, B, q⟩, ht, hy⟩ := I
  obtain rfl : pr = nI P := e1
  obtain rfl : zs = nI (bb_Z P g 6) := e2
  unfold wpX_redundant
  try dsimp only
  refine xa_ig hP _ ag ar (fun c => ?_) (fun i hi c e => ?_)
  · exact ya_g ht (fun _ => ⟨rfl, J⟩) (fun i hi d e => absurd ⟨i, hi, d, e⟩ c)
  · subst e
    rw [bn_pow (by omega), bn_not _ (by omega)]
    have hP2 : P &&& (65535 ^^^ 2 ^ i) < 64 := Nat.lt_of_le_of_lt Nat.and_le_left hP
    have hbit : ∀ j, j < 6 → (P &&& (65535 ^^^ 2 ^ i)).testBit j = true → j ≠ i ∧ P.testBit j = true := by
      intro j hj d
      by_cases e : j = i
      · subst e
        rw [bn_r1 hj] at d
        exact absurd d (by decide)
      · rw [bn_r2 hj e] at d
        exact ⟨e, d⟩
    have hnb : ∀ j, j < 6 → (P &&& (65535 ^^^ 2 ^ i)).testBit j = false → th j = 0 ∨ nI j = nI i := by
      intro j hj d
      by_cases e : j = i
      · exact Or.inr (congrArg nI e)
      · rw [bn_r2 hj e] at d
        exact Or.inl (rl_t0 ht hj d)
    refine xa_cz (g := g) (by omega) (fun j hj d => hg j hj (hbit j hj d).2) ⟨vp_in_nI hi (by omega), ?_⟩
    have gx : ag i = nI (g i) := hg i hi c
    have gy : ge i = nI (g i) := hy i hi c
    rw [nI_clamp (by omega), gx]
    have hw : ∀ (post : SY → Prop), (∀ he' R', bn_A he' R' → bb_B (bb_V (bb_Z (P &&& (65535 ^^^ 2 ^ i)) g 6)) R' → post (th, ge, he', ot)) → wpY_work post (th, ge, he, ot) (nI i) := by
      intro post hp
      refine ya_w (fun j hj d => ⟨rl_t1 ht hj (hbit j hj d).2, ?_, hy j hj (hbit j hj d).2, hb j hj (hbit j hj d).2⟩) hnb hp
      rw [nI_eq (by omega) (by omega)]
      exact (hbit j hj d).1
    have gi := hb i hi c
    refine xa_van gi (bb_Zb _ g 6) (fun hV => ⟨rfl, ?_⟩) (fun hV => ⟨rfl, ?_⟩)
    · refine ya_g ht (fun n => absurd ⟨i, hi, c, rfl⟩ n) (fun j hj d e => ?_)
      refine hw _ (fun he' R' hA' B' => ⟨vp_in_nI hi (by omega), ?_⟩)
      rw [nI_clamp (by omega), gy]
      refine ya_rd hA' (bb_Rb B') gi ?_
      exact bn_z (bb_rb B' gi) (fun _ => ⟨rfl, J⟩) (fun z => absurd ((bb_in B' gi).mpr hV) z)
    · refine ya_g ht (fun n => absurd ⟨i, hi, c, rfl⟩ n) (fun j hj d e => ?_)
      refine hw _ (fun he' R' hA' B' => ⟨vp_in_nI hi (by omega), ?_⟩)
      rw [nI_clamp (by omega), gy]
      refine ya_rd hA' (bb_Rb B') gi ?_
      exact bn_z (bb_rb B' gi) (fun z => absurd ((bb_in B' gi).mp z) hV) (fun _ => ⟨rfl, J⟩)
theorem i_vc_relates {k : Nat} {u : SX} {v : SY} (I : i_Rel k u v) (hk : k + 3 ≤ 1536) (v1 : Int32) : wpX_relates (fun r => wpY_relates (fun r' v' => r' = r ∧ i_Rel (k + 3) u v') v v1) u v1 := by
  have J := I
  obtain ⟨pr, zs, ag, ar⟩ := u
  obtain ⟨th, ge, he, ot⟩ := v
  obtain ⟨P, g, R, ⟨hP, hb, e1, e2, hg, hA, B, q⟩, ht, hy⟩ := I
  obtain rfl : zs = nI (bb_Z P g 6) := e2
  unfold wpX_relates
  try dsimp only
  rcases bn_ix v1 16 with h | ⟨j, hj, hl, rfl⟩ | ⟨j, hj, hl, rfl⟩
  · refine br_t h ?_
    unfold wpY_relates
    try dsimp only
    exact br_t h ⟨rfl, J⟩
  · refine br_f (nI_pos hl) (br_f (nI_nlt (a := j) (b := 16) hj hl) ?_)
    unfold wpY_relates
    try dsimp only
    exact br_f (nI_pos hl) (br_f (nI_ge (a := 15) (b := j) (by omega) hl) ⟨rfl, J⟩)
  · refine br_f (nI_pos hl) (br_t (nI_lt (a := j) (b := 16) hj (by omega)) ?_)
    refine ⟨17, xb_re (bb_Zb P g 6) pr ag ar hj (fun c => ?_) (fun c => ?_) 16 0 rfl⟩
    · unfold wpY_relates
      try dsimp only
      refine br_f (nI_pos hl) (br_t (nI_le (a := j) (b := 15) (by omega) (by omega)) ?_)
      refine rl_w hb ⟨ht, hy⟩ (fun he' R' hA' B' => ?_)
      refine ⟨17, ya_rc th ge hA' B' hj (fun K ot' => ?_) (fun _ ot' => ⟨rfl, J⟩) 16 0 ot rfl fun i hi => absurd hi (Nat.not_lt_zero i)⟩
      exact absurd c ((bb_rel hj).mpr ((bb_Kr B').mp K))
    · unfold wpY_relates
      try dsimp only
      refine br_f (nI_pos hl) (br_t (nI_le (a := j) (b := 15) (by omega) (by omega)) ?_)
      refine rl_w hb ⟨ht, hy⟩ (fun he' R' hA' B' => ?_)
      refine ⟨17, ya_rc th ge hA' B' hj (fun _ ot' => ⟨rfl, J⟩) (fun j16 ot' => ?_) 16 0 ot rfl fun i hi => absurd hi (Nat.not_lt_zero i)⟩
      obtain ⟨w, w0, hW, hr⟩ := (bb_Kr B').mpr ((bb_rel hj).mp c)
      exact absurd (j16 w hW hr) w0
end
