/-! PURE: quotients and blocks -/
theorem dd_ge {x d : Nat} (hd : 1 ≤ d) (h : d ≤ x) : d ≤ x / (x / d) := by
  have h1 : 0 < x / d := Nat.div_pos h hd
  exact (Nat.le_div_iff_mul_le h1).mpr (Nat.mul_div_le x d)
theorem dd_q {x d : Nat} (hd : 1 ≤ d) (h : d ≤ x) : 1 ≤ x / d ∧ x / d ≤ x := ⟨Nat.div_pos h hd, Nat.div_le_self x d⟩
theorem dd_le {x d : Nat} (hd : 1 ≤ d) (h : d ≤ x) : x / (x / d) ≤ x := Nat.div_le_self _ _
theorem dd_eq {x d : Nat} (hd : 1 ≤ d) (h : d ≤ x) : x / (x / (x / d)) = x / d := by
  have hq := dd_q hd h
  refine Nat.le_antisymm ?_ (dd_ge hq.1 hq.2)
  exact Nat.div_le_div_left (dd_ge hd h) hd
theorem dd_same {x d k : Nat} (hd : 1 ≤ d) (h : d ≤ x) (h1 : d ≤ k) (h2 : k ≤ x / (x / d)) : x / k = x / d := by
  refine Nat.le_antisymm (Nat.div_le_div_left h1 hd) ?_
  have := Nat.div_le_div_left (a := x) h2 (by omega)
  rw [dd_eq hd h] at this
  exact this
/-- where block i - 1 ends -/
def bL (x : Nat) : Nat → Nat
  | 0 => 0
  | i + 1 => x / (x / (bL x i + 1))
theorem bL_up {x i : Nat} (h : bL x i < x) : bL x i < bL x (i + 1) ∧ bL x (i + 1) ≤ x :=
  ⟨dd_ge (d := bL x i + 1) (by omega) h, Nat.div_le_self _ _⟩
def qT (x r : Nat) : Nat := if x / r = r then 2 * r - 1 else 2 * r
def qA (x r i : Nat) : Nat := if i < r then x / (i + 1) else qT x r - i
theorem rt_le {x r d : Nat} (h1 : r * r ≤ x) (hd : d ≤ r) (h0 : 1 ≤ d) : d ≤ x / d :=
  (Nat.le_div_iff_mul_le h0).mpr (Nat.le_trans (Nat.mul_le_mul hd hd) h1)
theorem sm_eq {x r d : Nat} (h1 : r * r ≤ x) (hd : d ≤ r) (h0 : 1 ≤ d) : x / (x / d) = d := by
  have hq := rt_le h1 hd h0
  have hdx : d ≤ x := Nat.le_trans hq (Nat.div_le_self x d)
  have h2 : x < d * (x / d + 1) := Nat.lt_mul_div_succ x h0
  have h3 : x / (x / d) < d + 1 := (Nat.div_lt_iff_lt_mul (by omega)).mpr (by rw [Nat.mul_add] at h2; rw [Nat.add_mul]; omega)
  have := dd_ge h0 hdx
  omega
theorem hi_eq {x r q : Nat} (h1 : r * r ≤ x) (hq : q ≤ r) (h2 : 2 ≤ q) : x / (x / q + 1) = q - 1 := by
  have ha := rt_le h1 hq (by omega)
  have h3 : x < q * (x / q + 1) := Nat.lt_mul_div_succ x (by omega)
  have h4 := Nat.mul_div_le x q
  obtain ⟨t, rfl⟩ : ∃ t, q = t + 1 := ⟨q - 1, by omega⟩
  refine Nat.div_eq_of_lt_le ?_ (by rw [Nat.add_sub_cancel]; exact h3)
  rw [Nat.add_sub_cancel, Nat.mul_add]
  rw [Nat.add_mul] at h4
  omega
theorem rt_next {x r : Nat} (h0 : 1 ≤ r) (h1 : r * r ≤ x) (h2 : x < (r + 1) * (r + 1)) : x / (r + 1) = qT x r - r ∧ r ≤ qT x r ∧ qT x r ≤ 2 * r ∧ (r = qT x r → x = 1) := by
  have h3 : x < r * (x / r + 1) := Nat.lt_mul_div_succ x h0
  have h4 := Nat.mul_div_le x r
  have h5 := rt_le h1 (Nat.le_refl r) h0
  rw [qT]
  by_cases e : x / r = r
  · rw [if_pos e]
    rw [e] at h3
    refine ⟨?_, by omega, by omega, fun z => ?_⟩
    · obtain ⟨t, rfl⟩ : ∃ t, r = t + 1 := ⟨r - 1, by omega⟩
      refine Nat.div_eq_of_lt_le ?_ ?_
      · rw [show 2 * (t + 1) - 1 - (t + 1) = t by omega]
        have : t * (t + 1 + 1) = t * t + 2 * t := by rw [Nat.mul_add, Nat.mul_add]; omega
        have : (t + 1) * (t + 1) = t * t + 2 * t + 1 := by rw [Nat.mul_add, Nat.add_mul]; omega
        omega
      · rw [show 2 * (t + 1) - 1 - (t + 1) + 1 = t + 1 by omega]; exact h3
    · have : r = 1 := by omega
      subst this
      omega
  · rw [if_neg e]
    have h6 : r * (r + 1) ≤ r * (x / r) := Nat.mul_le_mul_left r (by omega)
    refine ⟨?_, by omega, by omega, fun z => by omega⟩
    refine Nat.div_eq_of_lt_le ?_ ?_
    · rw [show 2 * r - r = r by omega]; omega
    · rw [show 2 * r - r + 1 = r + 1 by omega]; exact h2
theorem bL_low {x r : Nat} (h1 : r * r ≤ x) : ∀ i, i ≤ r → bL x i = i
  | 0, _ => rfl
  | i + 1, h => by rw [bL, bL_low h1 i (by omega)]; exact sm_eq h1 h (by omega)
theorem bL_high {x r : Nat} (h0 : 1 ≤ r) (h1 : r * r ≤ x) (h2 : x < (r + 1) * (r + 1)) : ∀ j, r + j < qT x r → x / (bL x (r + j) + 1) = qT x r - (r + j)
  | 0, _ => by
    show x / (bL x r + 1) = qT x r - r
    rw [bL_low h1 r (Nat.le_refl r)]; exact (rt_next h0 h1 h2).1
  | j + 1, h => by
    have ih := bL_high h0 h1 h2 j (by omega)
    have h3 := rt_next h0 h1 h2
    rw [← Nat.add_assoc, bL, ih, hi_eq h1 (by omega) (by omega)]
    omega
theorem bL_q {x r i : Nat} (h0 : 1 ≤ r) (h1 : r * r ≤ x) (h2 : x < (r + 1) * (r + 1)) (hi : i < qT x r) : x / (bL x i + 1) = qA x r i ∧ 1 ≤ qA x r i ∧ bL x i < x := by
  have hx : r ≤ x := Nat.le_trans (Nat.le_mul_of_pos_left r h0) h1
  have key : x / (bL x i + 1) = qA x r i ∧ 1 ≤ qA x r i := by
    rw [qA]
    by_cases h : i < r
    · rw [if_pos h, bL_low h1 i (by omega)]
      exact ⟨rfl, Nat.div_pos (by omega) (by omega)⟩
    · rw [if_neg h]
      have := bL_high h0 h1 h2 (i - r) (by omega)
      rw [show r + (i - r) = i by omega] at this
      exact ⟨this, by omega⟩
  refine ⟨key.1, key.2, ?_⟩
  rcases Nat.lt_or_ge (bL x i) x with z | z
  · exact z
  · have := Nat.div_eq_of_lt (show x < bL x i + 1 by omega)
    omega
theorem bL_T {x r : Nat} (h0 : 1 ≤ r) (h1 : r * r ≤ x) (h2 : x < (r + 1) * (r + 1)) : bL x (qT x r) = x := by
  have h3 := rt_next h0 h1 h2
  obtain ⟨t, ht⟩ : ∃ t, qT x r = t + 1 := ⟨qT x r - 1, by omega⟩
  have h4 := bL_q h0 h1 h2 (show t < qT x r by omega)
  rw [ht, bL, h4.1]
  rw [qA] at h4 ⊢
  by_cases h : t < r
  · have : x = 1 := h3.2.2.2 (by omega)
    subst this
    rw [if_pos h]
    have : r = 1 := by
      have := Nat.mul_le_mul h0 (Nat.le_refl r)
      rcases Nat.lt_or_ge 1 r with z | z
      · have := Nat.mul_le_mul z z; omega
      · omega
    subst this
    obtain rfl : t = 0 := by omega
    rfl
  · rw [if_neg h, ht, show t + 1 - t = 1 by omega, Nat.div_one]
theorem bL_first {x r i : Nat} (h0 : 1 ≤ r) (h1 : r * r ≤ x) (h2 : x < (r + 1) * (r + 1)) (hi : i < qT x r) : x / (qA x r i + 1) = bL x i := by
  have h3 := bL_q h0 h1 h2 hi
  cases i with
  | zero =>
    rw [← h3.1]
    show x / (x / 1 + 1) = 0
    rw [Nat.div_one]; exact Nat.div_eq_of_lt (by omega)
  | succ j =>
    have h4 := bL_q h0 h1 h2 (show j < qT x r by omega)
    have e : bL x (j + 1) = x / qA x r j := by rw [bL, h4.1]
    have hlt : x < qA x r j * (x / qA x r j + 1) := Nat.lt_mul_div_succ x h4.2.1
    have hq : qA x r (j + 1) < qA x r j := by
      rw [← h3.1, e]
      exact (Nat.div_lt_iff_lt_mul (by omega)).mpr hlt
    rw [e]
    refine Nat.div_eq_of_lt_le ?_ ?_
    · exact Nat.le_trans (Nat.mul_le_mul_left _ hq) (Nat.div_mul_le_self x _)
    · have := Nat.lt_mul_div_succ x (show 0 < bL x (j + 1) + 1 by omega)
      rw [h3.1, e] at this
      exact this
theorem bL_quo {x r i : Nat} (h0 : 1 ≤ r) (h1 : r * r ≤ x) (h2 : x < (r + 1) * (r + 1)) (hi : i < qT x r) : x / bL x (i + 1) = qA x r i := by
  have h3 := bL_q h0 h1 h2 hi
  rw [bL, dd_eq (by omega) h3.2.2]
  exact h3.1
