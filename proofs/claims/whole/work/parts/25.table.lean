/-! PURE: what functions are at powers of one number, by M -/
/-- -1, 0 or 1: of p to the k by 3 or by 4 -/
def sgn (by3 : Bool) (p k : Nat) : Int :=
  if p % (if by3 then 3 else 4) = 1 then 1 else if p % (if by3 then 3 else 4) = (if by3 then 2 else 3) then (if k % 2 = 0 then 1 else -1) else 0
/-- one cell, told by those ahead of it -/
def cellV (K A B C N : Nat → Int32) (p : Nat) (T : Nat → Nat → Nat) (f k : Nat) : Int :=
  if K f = 1 then (if k ≤ 6 then (N (12 * f + 2 * (k - 1))).toInt + (N (12 * f + 2 * (k - 1) + 1)).toInt * (p : Int) else 0)
  else if K f = 2 then fb_si (fun j => (T (A f).toNatClampNeg j : Int) * (T (B f).toNatClampNeg (k - j) : Int)) (k + 1)
  else if K f = 3 then - fb_si (fun j => (T (A f).toNatClampNeg (j + 1) : Int) * (T f (k - (j + 1)) : Int)) k
  else if K f = 4 then (T (A f).toNatClampNeg k : Int) * (T (B f).toNatClampNeg k : Int)
  else if K f = 5 then (T (A f).toNatClampNeg k : Int) * sgn (C f == 1) p k
  else if f = 1 then ((p ^ k : Nat) : Int)
  else if f = 2 then (if k = 1 then -1 else 0)
  else if f = 3 then ((p ^ k : Nat) : Int) - ((p ^ (k - 1) : Nat) : Int)
  else if f = 4 then (k : Int) + 1
  else if f = 5 then (T f (k - 1) : Int) + ((p ^ k : Nat) : Int)
  else 1
/-- a plan's functions are made of earlier ones alone -/
def wfp (F : Nat) (K A B : Nat → Int32) : Prop :=
  ∀ f, f < F → ((K f = 2 ∨ K f = 3 ∨ K f = 4 ∨ K f = 5) → (A f).toNatClampNeg < f ∧ A f = nI (A f).toNatClampNeg) ∧ ((K f = 2 ∨ K f = 4) → (B f).toNatClampNeg < f ∧ B f = nI (B f).toNatClampNeg)
theorem cellV_cong {K A B C N : Nat → Int32} {p f k : Nat} {T T2 : Nat → Nat → Nat} (hk : 1 ≤ k) (ha : (K f = 2 ∨ K f = 3 ∨ K f = 4 ∨ K f = 5) → ∀ j, j ≤ k → T (A f).toNatClampNeg j = T2 (A f).toNatClampNeg j) (hb : (K f = 2 ∨ K f = 4) → ∀ j, j ≤ k → T (B f).toNatClampNeg j = T2 (B f).toNatClampNeg j) (hs : ∀ j, j < k → T f j = T2 f j) : cellV K A B C N p T f k = cellV K A B C N p T2 f k := by
  unfold cellV
  by_cases h1 : K f = 1
  · rw [if_pos h1, if_pos h1]
  rw [if_neg h1, if_neg h1]
  by_cases h2 : K f = 2
  · rw [if_pos h2, if_pos h2]
    refine fb_si_cong (fun j hj => ?_)
    rw [ha (Or.inl h2) j (by omega), hb (Or.inl h2) (k - j) (by omega)]
  rw [if_neg h2, if_neg h2]
  by_cases h3 : K f = 3
  · rw [if_pos h3, if_pos h3]
    refine congrArg (fun z : Int => -z) (fb_si_cong (fun j hj => ?_))
    rw [ha (Or.inr (Or.inl h3)) (j + 1) (by omega), hs (k - (j + 1)) (by omega)]
  rw [if_neg h3, if_neg h3]
  by_cases h4 : K f = 4
  · rw [if_pos h4, if_pos h4, ha (Or.inr (Or.inr (Or.inl h4))) k (by omega), hb (Or.inr h4) k (by omega)]
  rw [if_neg h4, if_neg h4]
  by_cases h5 : K f = 5
  · rw [if_pos h5, if_pos h5, ha (Or.inr (Or.inr (Or.inr h5))) k (by omega)]
  rw [if_neg h5, if_neg h5]
  by_cases h6 : f = 5
  · rw [hs (k - 1) (by omega)]
  · rw [if_neg h6, if_neg h6]
/-- the row of one function up to power k, when the rows ahead are there -/
def rw1 (K A B C N : Nat → Int32) (M p : Nat) (T : Nat → Nat → Nat) (f : Nat) : Nat → Nat → Nat
  | 0 => fun _ => 1
  | k + 1 => fun j => if j = k + 1 then (cellV K A B C N p (fun g i => if g = f then rw1 K A B C N M p T f k i else T g i) f (k + 1) % (M : Int)).toNat else rw1 K A B C N M p T f k j
def tb (K A B C N : Nat → Int32) (M p : Nat) : Nat → Nat → Nat → Nat
  | 0 => fun _ _ => 0
  | f + 1 => fun g k => if g = f then rw1 K A B C N M p (tb K A B C N M p f) f k k else tb K A B C N M p f g k
/-- what function f is at p to the k -/
def tv (K A B C N : Nat → Int32) (M f p k : Nat) : Nat := tb K A B C N M p (f + 1) f k
theorem rw1_stay {K A B C N : Nat → Int32} {M p f k : Nat} {T : Nat → Nat → Nat} : ∀ d, rw1 K A B C N M p T f (k + d) k = rw1 K A B C N M p T f k k
  | 0 => rfl
  | d + 1 => by
    show (if k = k + d + 1 then _ else rw1 K A B C N M p T f (k + d) k) = _
    rw [if_neg (by omega)]; exact rw1_stay d
theorem tb_stay {K A B C N : Nat → Int32} {M p f k : Nat} : ∀ d, tb K A B C N M p (f + 1 + d) f k = tv K A B C N M f p k
  | 0 => rfl
  | d + 1 => by
    show (if f = f + 1 + d then _ else tb K A B C N M p (f + 1 + d) f k) = _
    rw [if_neg (by omega)]; exact tb_stay d
theorem tv_rw {K A B C N : Nat → Int32} {M f p k : Nat} : tv K A B C N M f p k = rw1 K A B C N M p (tb K A B C N M p f) f k k := by
  show (if f = f then _ else _) = _
  rw [if_pos rfl]
theorem tv_0 {K A B C N : Nat → Int32} {M f p : Nat} : tv K A B C N M f p 0 = 1 := by rw [tv_rw]; rfl
theorem tv_eq {K A B C N : Nat → Int32} {M F f p k : Nat} (hw : wfp F K A B) (hf : f < F) (hk : 1 ≤ k) : tv K A B C N M f p k = (cellV K A B C N p (fun g i => tv K A B C N M g p i) f k % (M : Int)).toNat := by
  obtain ⟨j, rfl⟩ : ∃ j, k = j + 1 := ⟨k - 1, by omega⟩
  rw [tv_rw]
  show (if j + 1 = j + 1 then _ else _) = _
  rw [if_pos rfl]
  have hst : ∀ g i, g < f → tb K A B C N M p f g i = tv K A B C N M g p i := by
    intro g i hg
    obtain ⟨d, rfl⟩ := Nat.exists_eq_add_of_le (show g + 1 ≤ f by omega)
    exact tb_stay d
  refine congrArg (fun z : Int => (z % (M : Int)).toNat) (cellV_cong hk (fun h i _ => ?_) (fun h i _ => ?_) (fun i hi => ?_))
  · have := ((hw f hf).1 h).1
    show (if _ = f then _ else _) = _
    rw [if_neg (by omega)]; exact hst _ _ this
  · have := ((hw f hf).2 h).1
    show (if _ = f then _ else _) = _
    rw [if_neg (by omega)]; exact hst _ _ this
  · show (if f = f then _ else _) = _
    rw [if_pos rfl]
    show _ = tv K A B C N M f p i
    rw [tv_rw]
    obtain ⟨d, rfl⟩ := Nat.exists_eq_add_of_le (show i ≤ j by omega)
    exact rw1_stay d
theorem tv_lt {K A B C N : Nat → Int32} {M f p k : Nat} (hM : 2 ≤ M) : tv K A B C N M f p k < M := by
  rw [tv_rw]
  cases k with
  | zero => show 1 < M; omega
  | succ j =>
    show (if j + 1 = j + 1 then _ else _) < M
    rw [if_pos rfl]
    have := Int.emod_lt_of_pos (cellV K A B C N p (fun g i => if g = f then rw1 K A B C N M p (tb K A B C N M p f) f j i else tb K A B C N M p f g i) f (j + 1)) (show (0 : Int) < (M : Int) by omega)
    omega
/-! longs as ints -/
def lI (z : Int) : Int64 := Int64.ofInt z
theorem lI_N (n : Nat) : lN n = lI (n : Int) := (Int64.ofInt_eq_ofNat).symm
theorem lI_add (a b : Int) : lI a + lI b = lI (a + b) := (Int64.ofInt_add a b).symm
theorem lI_sub (a b : Int) : lI a - lI b = lI (a - b) := (Int64.ofInt_sub a b).symm
theorem lI_mul (a b : Int) : lI a * lI b = lI (a * b) := (Int64.ofInt_mul a b).symm
theorem lI_neg (a : Int) : - lI a = lI (-a) := (Int64.ofInt_neg a).symm
theorem lI_toInt {z : Int} (h1 : -9223372036854775808 ≤ z) (h2 : z < 9223372036854775808) : (lI z).toInt = z := Int64.toInt_ofInt_of_le h1 h2
theorem lI_32 (x : Int32) : x.toInt64 = lI x.toInt := (Int64.ofInt_int32ToInt x).symm
theorem lI_nI {n : Nat} (h : n < 2 ^ 31) : (nI n).toInt64 = lI (n : Int) := by rw [nI_l h, lI_N]
theorem lI_64 (x : Int64) : x = lI x.toInt := (Int64.ofInt_toInt x).symm
/-- ints as ints -/
def iI (z : Int) : Int32 := Int32.ofInt z
theorem iI_N (n : Nat) : nI n = iI (n : Int) := (Int32.ofInt_eq_ofNat).symm
theorem iI_add (a b : Int) : iI a + iI b = iI (a + b) := (Int32.ofInt_add a b).symm
theorem iI_sub (a b : Int) : iI a - iI b = iI (a - b) := (Int32.ofInt_sub a b).symm
theorem iI_mul (a b : Int) : iI a * iI b = iI (a * b) := (Int32.ofInt_mul a b).symm
theorem iI_neg (a : Int) : - iI a = iI (-a) := (Int32.ofInt_neg a).symm
theorem iI_toInt {z : Int} (h1 : -2147483648 ≤ z) (h2 : z < 2147483648) : (iI z).toInt = z := Int32.toInt_ofInt_of_le h1 h2
theorem iI_32 (x : Int32) : x = iI x.toInt := (Int32.ofInt_toInt x).symm
theorem iI_l {z : Int} (h1 : -2147483648 ≤ z) (h2 : z < 2147483648) : (iI z).toInt64 = lI z := by rw [lI_32, iI_toInt h1 h2]
theorem lI_i (z : Int) : (lI z).toInt32 = iI z := Int64.toInt32_ofInt
