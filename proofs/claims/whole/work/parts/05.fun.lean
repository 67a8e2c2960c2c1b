/-! ===== what the loops add up ===== -/
theorem bb_m0 (b : Bool) : bb_m b 0 = 0 := by cases b <;> rfl
theorem bb_mt (r : Nat) : bb_m true r = r := rfl
theorem bb_mf (r : Nat) : bb_m false r = 0 := rfl
theorem bb_lo2 (f n : Nat) : f % 2 ^ (n + 1) = (f % 2 ^ n) ^^^ bb_m (f.testBit n) (2 ^ n) := bb_lo f n
theorem bb_md16 {f : Nat} (h : f < 65536) : f % 2 ^ 16 = f := Nat.mod_eq_of_lt h
def bb_ps (f g m n : Nat) : Nat := bb_P (f % 2 ^ m) g ^^^ bb_m (f.testBit m) (bb_P (2 ^ m) (g % 2 ^ n))
theorem bb_ps0 (f g m : Nat) : bb_ps f g m 0 = bb_P (f % 2 ^ m) g := by
  unfold bb_ps
  rw [Nat.pow_zero, Nat.mod_one, bb_P0, bb_m0, Nat.xor_zero]
theorem bb_ps1 {f g m n : Nat} (hm : m < 16) (hn : n < 16) (a : f.testBit m = true) (b : g.testBit n = true) : bb_ps f g m (n + 1) = bb_ps f g m n ^^^ 2 ^ (m ||| n) := by
  unfold bb_ps
  rw [a, bb_mt, bb_mt, bb_lo2 g n, b, bb_mt, bb_Pr, bb_Pp m hm n hn, Nat.xor_assoc]
theorem bb_ps2 {f g m n : Nat} (a : f.testBit m = false) : bb_ps f g m (n + 1) = bb_ps f g m n := by
  unfold bb_ps
  rw [a, bb_mf, bb_mf]
theorem bb_ps3 {f g m n : Nat} (b : g.testBit n = false) : bb_ps f g m (n + 1) = bb_ps f g m n := by
  unfold bb_ps
  rw [bb_lo2 g n, b, bb_mf, Nat.xor_zero]
theorem bb_pse {f g m : Nat} (hg : g < 65536) : bb_ps f g m 16 = bb_P (f % 2 ^ (m + 1)) g := by
  unfold bb_ps
  rw [bb_md16 hg, bb_lo2 f m, bb_Pl]
  cases f.testBit m
  · rw [bb_mf, bb_mf, bb_0P]
  · rw [bb_mt, bb_mt]
theorem bb_psz (g : Nat) (f : Nat) : bb_P (f % 2 ^ 0) g = 0 := by
  rw [Nat.pow_zero, Nat.mod_one, bb_0P]
/-- the value at a point, monomial by monomial -/
def bb_vs (f p m : Nat) : Nat := ((bb_T (f % 2 ^ m)).testBit p).toNat
theorem bb_vs0 (f p : Nat) : bb_vs f p 0 = 0 := by
  unfold bb_vs
  rw [Nat.pow_zero, Nat.mod_one, bb_T0, Nat.zero_testBit] <;> rfl
theorem bb_vs1 {f p m : Nat} (hm : m < 16) (hp : p < 16) (c : m &&& p = m) : bb_vs f p (m + 1) = bb_vs f p m ^^^ (f / 2 ^ m % 2) := by
  unfold bb_vs
  rw [bb_lo2 f m, bb_Tl, Nat.testBit_xor, bn_d]
  cases f.testBit m
  · rw [bb_mf, bb_T0, Nat.zero_testBit, Bool.xor_false, if_neg (by decide), Nat.xor_zero]
  · rw [bb_mt, bb_Tp m hm p hp, decide_eq_true c, if_pos rfl]
    cases (bb_T (f % 2 ^ m)).testBit p <;> rfl
theorem bb_vs2 {f p m : Nat} (hm : m < 16) (hp : p < 16) (c : ¬ m &&& p = m) : bb_vs f p (m + 1) = bb_vs f p m := by
  unfold bb_vs
  rw [bb_lo2 f m, bb_Tl, Nat.testBit_xor]
  cases f.testBit m
  · rw [bb_mf, bb_T0, Nat.zero_testBit, Bool.xor_false]
  · rw [bb_mt, bb_Tp m hm p hp, decide_eq_false c, Bool.xor_false]
theorem bb_vse {f p : Nat} (hf : f < 65536) : bb_vs f p 16 = bb_T f / 2 ^ p % 2 := by
  unfold bb_vs
  rw [bb_md16 hf, bn_d]
  cases (bb_T f).testBit p <;> rfl
/-- a set bit by bit -/
theorem bb_mo1 {Z p : Nat} (c : Z.testBit p = true) : (Z % 2 ^ p) ||| 2 ^ p = Z % 2 ^ (p + 1) := by
  rw [bb_lo2, c, bb_mt]
  apply Nat.eq_of_testBit_eq
  intro i
  rw [Nat.testBit_or, Nat.testBit_xor, Nat.testBit_two_pow, Nat.testBit_mod_two_pow]
  by_cases e : p = i
  · subst e
    simp
  · simp [e]
theorem bb_mo2 {Z p : Nat} (c : Z.testBit p = false) : Z % 2 ^ p = Z % 2 ^ (p + 1) := by
  rw [bb_lo2, c, bb_mf, Nat.xor_zero]
theorem bb_mo0 (Z : Nat) : Z % 2 ^ 0 = 0 := by rw [Nat.pow_zero, Nat.mod_one]
/-- one point in the zeros of the first generators -/
theorem bb_Zp1 {P : Nat} (g : Nat → Nat) {n p : Nat} (hp : p < 16) (c : P.testBit n = true) : (bb_Z P g (n + 1)).testBit p = ((bb_Z P g n).testBit p && !((bb_T (g n)).testBit p)) := by
  rw [bb_Z1 g c, Nat.testBit_and, bb_nt _ hp]
/-- the values of variable i at zeros -/
def bb_sv (Z i : Nat) : Nat → Nat
  | 0 => 0
  | n + 1 => if Z.testBit n = true then bb_sv Z i n ||| 2 ^ (n / 2 ^ i % 2) else bb_sv Z i n
theorem bb_sv1 {Z : Nat} (i : Nat) {n : Nat} (c : Z.testBit n = true) : bb_sv Z i (n + 1) = bb_sv Z i n ||| 2 ^ (n / 2 ^ i % 2) := by
  show (if Z.testBit n = true then bb_sv Z i n ||| 2 ^ (n / 2 ^ i % 2) else bb_sv Z i n) = _
  rw [if_pos c]
theorem bb_sv2 {Z : Nat} (i : Nat) {n : Nat} (c : Z.testBit n = false) : bb_sv Z i (n + 1) = bb_sv Z i n := by
  show (if Z.testBit n = true then bb_sv Z i n ||| 2 ^ (n / 2 ^ i % 2) else bb_sv Z i n) = _
  rw [if_neg (by rw [c]; decide)]
/-- the number of bits -/
def bb_ct (Z : Nat) : Nat → Nat
  | 0 => 0
  | n + 1 => bb_ct Z n + Z / 2 ^ n % 2
theorem bb_ct1 {Z n : Nat} (c : Z.testBit n = true) : bb_ct Z (n + 1) = bb_ct Z n + 1 := by
  show bb_ct Z n + Z / 2 ^ n % 2 = _
  rw [bn_d, if_pos c]
theorem bb_ct2 {Z n : Nat} (c : Z.testBit n = false) : bb_ct Z (n + 1) = bb_ct Z n := by
  show bb_ct Z n + Z / 2 ^ n % 2 = _
  rw [bn_d, if_neg (by rw [c]; decide), Nat.add_zero]
/-- the bound monomials U, least ones, their number, the basis -/
def bb_L (U : Nat → Bool) (m : Nat) : Bool := U m && decide (∀ n, n < m → n &&& m = n → U n = false)
theorem bb_Lt {U : Nat → Bool} {m : Nat} (a : U m = true) (b : ∀ n, n < m → n &&& m = n → U n = false) : bb_L U m = true := by
  unfold bb_L
  rw [a, decide_eq_true b] <;> rfl
theorem bb_Lf1 {U : Nat → Bool} {m : Nat} (a : U m = false) : bb_L U m = false := by
  unfold bb_L
  rw [a] <;> rfl
theorem bb_Lf2 {U : Nat → Bool} {m n : Nat} (a : n < m) (b : n &&& m = n) (c : U n = true) : bb_L U m = false := by
  unfold bb_L
  rw [decide_eq_false (fun h => by have z := h n a b; rw [c] at z; exact absurd z (by decide)), Bool.and_false]
def bb_bs (U : Nat → Bool) : Nat → Nat
  | 0 => 0
  | n + 1 => if bb_L U n = true then bb_bs U n + 1 else bb_bs U n
theorem bb_bs1 {U : Nat → Bool} {n : Nat} (c : bb_L U n = true) : bb_bs U (n + 1) = bb_bs U n + 1 := by
  show (if bb_L U n = true then bb_bs U n + 1 else bb_bs U n) = _
  rw [if_pos c]
theorem bb_bs2 {U : Nat → Bool} {n : Nat} (c : bb_L U n = false) : bb_bs U (n + 1) = bb_bs U n := by
  show (if bb_L U n = true then bb_bs U n + 1 else bb_bs U n) = _
  rw [if_neg (by rw [c]; decide)]
def bb_bu (U : Nat → Bool) : Nat → Nat
  | 0 => 0
  | n + 1 => if U n = true then bb_bu U n ||| 2 ^ n else bb_bu U n
theorem bb_bu1 {U : Nat → Bool} {n : Nat} (c : U n = true) : bb_bu U (n + 1) = bb_bu U n ||| 2 ^ n := by
  show (if U n = true then bb_bu U n ||| 2 ^ n else bb_bu U n) = _
  rw [if_pos c]
theorem bb_bu2 {U : Nat → Bool} {n : Nat} (c : U n = false) : bb_bu U (n + 1) = bb_bu U n := by
  show (if U n = true then bb_bu U n ||| 2 ^ n else bb_bu U n) = _
  rw [if_neg (by rw [c]; decide)]
/-- d monomials are left from m on, c basis polynomials were passed -/
def bb_ba (U : Nat → Bool) (A : Nat → Int32) (i : Int32) : Nat → Nat → Nat → Int32
  | 0, _, _ => -1
  | d + 1, m, c => if bb_L U m = true then (if nI c = i then A m else bb_ba U A i d (m + 1) (c + 1)) else bb_ba U A i d (m + 1) c
theorem bb_ba1 {U : Nat → Bool} {A : Nat → Int32} {i : Int32} {d m c : Nat} (h : bb_L U m = true) (e : nI c = i) : bb_ba U A i (d + 1) m c = A m := by
  show (if bb_L U m = true then (if nI c = i then A m else bb_ba U A i d (m + 1) (c + 1)) else bb_ba U A i d (m + 1) c) = _
  rw [if_pos h, if_pos e]
theorem bb_ba2 {U : Nat → Bool} {A : Nat → Int32} {i : Int32} {d m c : Nat} (h : bb_L U m = true) (e : ¬ nI c = i) : bb_ba U A i (d + 1) m c = bb_ba U A i d (m + 1) (c + 1) := by
  show (if bb_L U m = true then (if nI c = i then A m else bb_ba U A i d (m + 1) (c + 1)) else bb_ba U A i d (m + 1) c) = _
  rw [if_pos h, if_neg e]
theorem bb_ba3 {U : Nat → Bool} {A : Nat → Int32} {i : Int32} {d m c : Nat} (h : bb_L U m = false) : bb_ba U A i (d + 1) m c = bb_ba U A i d (m + 1) c := by
  show (if bb_L U m = true then (if nI c = i then A m else bb_ba U A i d (m + 1) (c + 1)) else bb_ba U A i d (m + 1) c) = _
  rw [if_neg (by rw [h]; decide)]
