/-! PURE: primes, exponents, products over primes -/
abbrev isP (p : Nat) : Prop := 2 ≤ p ∧ ∀ d, d < p → 2 ≤ d → ¬ p % d = 0
theorem isP_dvd {p d : Nat} (h : isP p) (hd : d ∣ p) : d = 1 ∨ d = p := by
  have hp : 0 < p := by have := h.1; omega
  have hle : d ≤ p := Nat.le_of_dvd hp hd
  rcases Nat.eq_or_lt_of_le hle with h1 | h1
  · exact Or.inr h1
  · by_cases h2 : 2 ≤ d
    · exact absurd (Nat.mod_eq_zero_of_dvd hd) (h.2 d h1 h2)
    · have h0 : d ≠ 0 := fun z => by subst z; rw [Nat.zero_dvd] at hd; omega
      exact Or.inl (by omega)
theorem isP_coprime {p a : Nat} (h : isP p) (hn : ¬ p ∣ a) : Nat.gcd p a = 1 := by
  rcases isP_dvd h (Nat.gcd_dvd_left p a) with h1 | h1
  · exact h1
  · exact absurd (h1 ▸ Nat.gcd_dvd_right p a) hn
theorem isP_mul {p a b : Nat} (h : isP p) (hd : p ∣ a * b) : p ∣ a ∨ p ∣ b := by
  by_cases h1 : p ∣ a
  · exact Or.inl h1
  · exact Or.inr (Nat.Coprime.dvd_of_dvd_mul_left (isP_coprime h h1) hd)
theorem isP_pow {p a k : Nat} (h : isP p) (hd : p ∣ a ^ k) : p ∣ a := by
  induction k with
  | zero => rw [Nat.pow_zero, Nat.dvd_one] at hd; have := h.1; omega
  | succ k ih =>
    rw [Nat.pow_succ] at hd
    rcases isP_mul h hd with h1 | h1
    · exact ih h1
    · exact h1
/-- the least divisor from 2 on -/
theorem least_div {n : Nat} (hn : 2 ≤ n) : ∃ p, isP p ∧ p ∣ n ∧ ∀ d, 2 ≤ d → d < p → ¬ d ∣ n := by
  obtain ⟨p, ⟨h1, h2⟩, h3⟩ := pk_least (fun d => 2 ≤ d ∧ d ∣ n) ⟨n, hn, Nat.dvd_refl n⟩
  refine ⟨p, ⟨h1, fun d hd h2d hm => h3 d hd ⟨h2d, Nat.dvd_trans (Nat.dvd_of_mod_eq_zero hm) h2⟩⟩, h2, fun d hd hl hdd => h3 d hl ⟨hd, hdd⟩⟩
theorem isP_of_sqrt {n : Nat} (hn : 2 ≤ n) (h : ∀ d, 2 ≤ d → d * d ≤ n → ¬ d ∣ n) : isP n := by
  obtain ⟨p, hp, hpn, hl⟩ := least_div hn
  obtain ⟨q, hq⟩ := hpn
  by_cases h1 : q < p
  · by_cases h2 : 2 ≤ q
    · exact absurd ⟨p, by rw [hq, Nat.mul_comm]⟩ (hl q h2 h1)
    · have hq0 : q ≠ 0 := fun z => by subst z; omega
      have : q = 1 := by omega
      subst this
      rw [Nat.mul_one] at hq
      rw [hq]; exact hp
  · exact absurd ⟨q, hq⟩ (h p hp.1 (by rw [hq]; exact Nat.mul_le_mul_left p (by omega)))
/-- the exponent of p in n -/
def vp (p n : Nat) : Nat := if h : 2 ≤ p ∧ 0 < n ∧ n % p = 0 then vp p (n / p) + 1 else 0
termination_by n
decreasing_by exact Nat.div_lt_self h.2.1 h.1
theorem vp_no {p n : Nat} (h : ¬ p ∣ n) : vp p n = 0 := by
  rw [vp, dif_neg (fun z => h (Nat.dvd_of_mod_eq_zero z.2.2))]
theorem vp_mul_self {p n : Nat} (hp : 2 ≤ p) (hn : 0 < n) : vp p (p * n) = vp p n + 1 := by
  have h0 : 0 < p := by omega
  rw [vp, dif_pos ⟨hp, Nat.mul_pos h0 hn, Nat.mul_mod_right p n⟩, Nat.mul_div_cancel_left n h0]
theorem vp_pow_mul {p m : Nat} (k : Nat) (hp : 2 ≤ p) (hm : 0 < m) (hn : ¬ p ∣ m) : vp p (p ^ k * m) = k := by
  induction k with
  | zero => rw [Nat.pow_zero, Nat.one_mul]; exact vp_no hn
  | succ k ih =>
    have h0 : 0 < p := by omega
    rw [Nat.pow_succ, Nat.mul_comm (p ^ k) p, Nat.mul_assoc, vp_mul_self hp (Nat.mul_pos (Nat.pow_pos h0) hm), ih]
theorem vp_split {p : Nat} (hp : 2 ≤ p) : ∀ n : Nat, 0 < n → ∃ m, n = p ^ vp p n * m ∧ ¬ p ∣ m ∧ 0 < m := by
  intro n
  induction n using Nat.strongRecOn with
  | ind n ih =>
    intro hn
    by_cases h : p ∣ n
    · obtain ⟨q, rfl⟩ := h
      have h0 : 0 < p := by omega
      have hq : 0 < q := Nat.pos_of_ne_zero (fun z => by subst z; omega)
      obtain ⟨m, h1, h2, h3⟩ := ih q (by have := Nat.mul_lt_mul_of_lt_of_le (show 1 < p by omega) (Nat.le_refl q) hq; omega) hq
      refine ⟨m, ?_, h2, h3⟩
      rw [vp_mul_self hp hq, Nat.pow_succ, Nat.mul_comm (p ^ vp p q) p, Nat.mul_assoc, ← h1]
    · exact ⟨n, by rw [vp_no h, Nat.pow_zero, Nat.one_mul], h, hn⟩
theorem vp_pos_iff {p n : Nat} (hp : 2 ≤ p) (hn : 0 < n) : 0 < vp p n ↔ p ∣ n := by
  constructor
  · intro h
    by_cases h1 : p ∣ n
    · exact h1
    · rw [vp_no h1] at h; omega
  · rintro ⟨q, rfl⟩
    have hq : 0 < q := Nat.pos_of_ne_zero (fun z => by subst z; omega)
    rw [vp_mul_self hp hq]; omega
/-- another prime's exponent isn't touched by p -/
theorem vp_other {p q m : Nat} (k : Nat) (hp : isP p) (hq : isP q) (hne : p ≠ q) (hm : 0 < m) : vp q (p ^ k * m) = vp q m := by
  obtain ⟨r, h1, h2, h3⟩ := vp_split hq.1 m hm
  have hnp : ¬ q ∣ p := fun h => by
    rcases isP_dvd hp h with z | z
    · have := hq.1; omega
    · exact hne z.symm
  have hnr : ¬ q ∣ p ^ k * r := fun h => by
    rcases isP_mul hq h with z | z
    · exact hnp (isP_pow hq z)
    · exact h2 z
  have h0 : 0 < p := by have := hp.1; omega
  have e1 : p ^ k * m = q ^ vp q m * (p ^ k * r) := by rw [Nat.mul_left_comm, ← h1]
  rw [e1]
  exact vp_pow_mul _ hq.1 (Nat.mul_pos (Nat.pow_pos h0) h3) hnr
theorem vp_mul {q a b : Nat} (hq : isP q) (ha : 0 < a) (hb : 0 < b) : vp q (a * b) = vp q a + vp q b := by
  obtain ⟨m, h1, h2, h3⟩ := vp_split hq.1 a ha
  obtain ⟨r, h4, h5, h6⟩ := vp_split hq.1 b hb
  have hn : ¬ q ∣ m * r := fun h => (isP_mul hq h).elim h2 h5
  have e : a * b = q ^ (vp q a + vp q b) * (m * r) := by
    rw [Nat.pow_add, Nat.mul_mul_mul_comm, ← h1, ← h4]
  have := vp_pow_mul (vp q a + vp q b) hq.1 (Nat.mul_pos h3 h6) hn
  rw [← e] at this
  exact this
theorem vp_not {q a b : Nat} (hq : isP q) (ha : 0 < a) (hb : 0 < b) (h : ¬ q ∣ a) : vp q (a * b) = vp q b := by
  rw [vp_mul hq ha hb, vp_no h, Nat.zero_add]
theorem vp_one {p : Nat} (hp : 2 ≤ p) : vp p p = 1 := by
  have := vp_pow_mul (p := p) (m := 1) 1 hp (by omega) (fun h => by have := Nat.le_of_dvd (by omega) h; omega)
  rw [Nat.pow_one, Nat.mul_one] at this
  exact this
theorem isP_ne_dvd {p q : Nat} (hp : isP p) (hq : isP q) (h : p ∣ q) : p = q := by
  rcases isP_dvd hq h with z | z
  · have := hp.1; omega
  · exact z
theorem mm_l (a b M : Nat) : a % M * b % M = a * b % M := by rw [Nat.mul_mod, Nat.mod_mod, ← Nat.mul_mod]
theorem mm_r (a b M : Nat) : a * (b % M) % M = a * b % M := by rw [Nat.mul_comm, mm_l, Nat.mul_comm]
theorem am_l (a b M : Nat) : (a % M + b) % M = (a + b) % M := by rw [Nat.add_mod, Nat.mod_mod, ← Nat.add_mod]
theorem am_r (a b M : Nat) : (a + b % M) % M = (a + b) % M := by rw [Nat.add_comm, am_l, Nat.add_comm]
/-- the product over the primes of n up to N of what g is at them, by M -/
def prP (g : Nat → Nat → Nat) (M n : Nat) : Nat → Nat
  | 0 => 1
  | N + 1 => if isP (N + 1) ∧ n % (N + 1) = 0 then prP g M n N * g (N + 1) (vp (N + 1) n) % M else prP g M n N
theorem prP_yes {g : Nat → Nat → Nat} {M n p : Nat} (hp : isP p) (h : p ∣ n) : prP g M n p = prP g M n (p - 1) * g p (vp p n) % M := by
  obtain ⟨q, rfl⟩ : ∃ q, p = q + 1 := ⟨p - 1, by have := hp.1; omega⟩
  rw [prP, if_pos ⟨hp, Nat.mod_eq_zero_of_dvd h⟩, Nat.add_sub_cancel]
theorem prP_no {g : Nat → Nat → Nat} {M n p : Nat} (h : ¬ (isP (p + 1) ∧ (p + 1) ∣ n)) : prP g M n (p + 1) = prP g M n p := by
  rw [prP, if_neg (fun z => h ⟨z.1, Nat.dvd_of_mod_eq_zero z.2⟩)]
theorem prP_gap {g : Nat → Nat → Nat} {M n a : Nat} : ∀ d : Nat, (∀ q, isP q → a < q → q ≤ a + d → ¬ q ∣ n) → prP g M n (a + d) = prP g M n a
  | 0, _ => rfl
  | d + 1, h => by
    rw [← Nat.add_assoc, prP_no (fun z => h (a + d + 1) z.1 (by omega) (by omega) z.2)]
    exact prP_gap d (fun q hq h1 h2 => h q hq h1 (by omega))
theorem prP_to {g : Nat → Nat → Nat} {M n a b : Nat} (hab : a ≤ b) (h : ∀ q, isP q → a < q → q ≤ b → ¬ q ∣ n) : prP g M n b = prP g M n a := by
  obtain ⟨d, rfl⟩ := Nat.exists_eq_add_of_le hab
  exact prP_gap d h
theorem prP_top {g : Nat → Nat → Nat} {M n a : Nat} (hn : 0 < n) (h : ∀ q, isP q → a < q → ¬ q ∣ n) : prP g M n n = prP g M n a := by
  rcases Nat.le_total a n with z | z
  · exact prP_to z (fun q hq h1 _ => h q hq h1)
  · exact (prP_to z (fun q hq h1 _ h3 => by have := Nat.le_of_dvd hn h3; omega)).symm
theorem prP_lt {g : Nat → Nat → Nat} {M n : Nat} (hM : 2 ≤ M) : ∀ N, prP g M n N < M
  | 0 => by show 1 < M; omega
  | N + 1 => by
    rw [prP]
    split
    · exact Nat.mod_lt _ (by omega)
    · exact prP_lt hM N
theorem prP_one {g : Nat → Nat → Nat} {M : Nat} (N : Nat) : prP g M 1 N = 1 := by
  have := prP_gap (g := g) (M := M) (n := 1) (a := 0) N (fun q hq _ _ h => by have := Nat.le_of_dvd (by omega) h; have := hq.1; omega)
  rw [Nat.zero_add] at this
  exact this
/-- what a function is at n, by M -/
def vV (g : Nat → Nat → Nat) (M n : Nat) : Nat := prP g M n n
theorem vV_lt {g : Nat → Nat → Nat} {M n : Nat} (hM : 2 ≤ M) : vV g M n < M := prP_lt hM n
theorem vV_1 {g : Nat → Nat → Nat} {M : Nat} : vV g M 1 = 1 := prP_one 1
/-- a power of a prime splits off -/
theorem prP_split {g : Nat → Nat → Nat} {M p k m : Nat} (hM : 2 ≤ M) (hp : isP p) (hk : 0 < k) (hm : 0 < m) (hn : ¬ p ∣ m) : ∀ N, prP g M (p ^ k * m) N = (if p ≤ N then prP g M m N * g p k % M else prP g M m N)
  | 0 => by rw [if_neg (by have := hp.1; omega)]; rfl
  | N + 1 => by
    have ih := prP_split (g := g) hM hp hk hm hn N
    have h0 : 0 < p := by have := hp.1; omega
    by_cases e : N + 1 = p
    · have hd : p ∣ p ^ k * m := Nat.dvd_mul_right_of_dvd (by obtain ⟨j, rfl⟩ : ∃ j, k = j + 1 := ⟨k - 1, by omega⟩; rw [Nat.pow_succ]; exact Nat.dvd_mul_left _ _) m
      have h1 := prP_yes (g := g) (M := M) hp hd
      have h2 : prP g M m (N + 1) = prP g M m N := prP_no (fun z => hn (e ▸ z.2))
      subst e
      rw [vp_pow_mul k hp.1 hm hn, Nat.add_sub_cancel, ih, if_neg (by omega)] at h1
      rw [h1, if_pos (by omega), h2]
    · by_cases hq : isP (N + 1) ∧ (N + 1) ∣ m
      · have hd : (N + 1) ∣ p ^ k * m := Nat.dvd_mul_left_of_dvd hq.2 _
        have h1 := prP_yes (g := g) (M := M) hq.1 hd
        have h2 := prP_yes (g := g) (M := M) hq.1 hq.2
        rw [vp_other k hp hq.1 (fun z => e z.symm) hm, Nat.add_sub_cancel, ih] at h1
        rw [Nat.add_sub_cancel] at h2
        rw [h1, h2]
        by_cases hl : p ≤ N
        · rw [if_pos hl, if_pos (by omega), mm_l, mm_l, Nat.mul_right_comm]
        · rw [if_neg hl, if_neg (by omega)]
      · have h1 : prP g M (p ^ k * m) (N + 1) = prP g M (p ^ k * m) N := prP_no (fun z => by
          rcases isP_mul z.1 z.2 with y | y
          · exact e (isP_ne_dvd z.1 hp (isP_pow z.1 y))
          · exact hq ⟨z.1, y⟩)
        have h2 : prP g M m (N + 1) = prP g M m N := prP_no hq
        rw [h1, h2, ih]
        by_cases hl : p ≤ N
        · rw [if_pos hl, if_pos (by omega)]
        · rw [if_neg hl, if_neg (by omega)]
theorem vV_split {g : Nat → Nat → Nat} {M p k m : Nat} (hM : 2 ≤ M) (hp : isP p) (hk : 0 < k) (hm : 0 < m) (hn : ¬ p ∣ m) : vV g M (p ^ k * m) = vV g M m * g p k % M := by
  have h0 : 0 < p := by have := hp.1; omega
  have hpk : p ≤ p ^ k := by
    obtain ⟨j, rfl⟩ : ∃ j, k = j + 1 := ⟨k - 1, by omega⟩
    rw [Nat.pow_succ]; exact Nat.le_mul_of_pos_left p (Nat.pow_pos h0)
  have hle : p ≤ p ^ k * m := Nat.le_trans hpk (Nat.le_mul_of_pos_right _ hm)
  have h1 := prP_split (g := g) hM hp hk hm hn (p ^ k * m)
  rw [if_pos hle] at h1
  have h2 : prP g M m (p ^ k * m) = prP g M m m := (prP_top hm (fun q _ h1 h3 => by have := Nat.le_of_dvd hm h3; have := Nat.le_mul_of_pos_left m (Nat.pow_pos (n := k) h0); omega)).symm
  rw [h2] at h1
  exact h1
theorem vV_pow {g : Nat → Nat → Nat} {M p k : Nat} (hM : 2 ≤ M) (hp : isP p) (hk : 0 < k) (hg : g p k < M) : vV g M (p ^ k) = g p k := by
  have := vV_split (g := g) (m := 1) hM hp hk (by omega) (fun h => by have := Nat.le_of_dvd (by omega) h; have := hp.1; omega)
  rw [Nat.mul_one, vV_1, Nat.one_mul, Nat.mod_eq_of_lt hg] at this
  exact this
theorem vV_prime {g : Nat → Nat → Nat} {M p : Nat} (hM : 2 ≤ M) (hp : isP p) (hg : g p 1 < M) : vV g M p = g p 1 := by
  have := vV_pow (k := 1) hM hp (by omega) hg
  rw [Nat.pow_one] at this; exact this
/-- all primes below p are divided out of n, r is left -/
def td (n p r : Nat) : Prop := 0 < r ∧ (∃ c, 0 < c ∧ n = c * r ∧ ∀ q, isP q → q ∣ c → q < p) ∧ ∀ d, 2 ≤ d → d < p → ¬ d ∣ r
theorem td_0 {n : Nat} (hn : 0 < n) : td n 2 n :=
  ⟨hn, ⟨1, by omega, by rw [Nat.one_mul], fun q hq h => by have := Nat.le_of_dvd (by omega) h; have := hq.1; omega⟩, fun d h1 h2 => by omega⟩
theorem td_pos {n p r : Nat} (h : td n p r) : 0 < n := by
  obtain ⟨h1, ⟨c, h2, rfl, -⟩, -⟩ := h
  exact Nat.mul_pos h2 h1
theorem td_le {n p r : Nat} (h : td n p r) : r ≤ n := by
  obtain ⟨h1, ⟨c, h2, rfl, -⟩, -⟩ := h
  exact Nat.le_mul_of_pos_left r h2
theorem td_vp {n p r q : Nat} (h : td n p r) (hq : isP q) (hpq : p ≤ q) : vp q n = vp q r := by
  obtain ⟨h1, ⟨c, h2, rfl, h3⟩, -⟩ := h
  exact vp_not hq h2 h1 (fun z => by have := h3 q hq z; omega)
theorem td_dvd {n p r q : Nat} (h : td n p r) (hq : isP q) (hpq : p ≤ q) : q ∣ n ↔ q ∣ r := by
  obtain ⟨h1, ⟨c, h2, rfl, h3⟩, -⟩ := h
  refine ⟨fun z => (isP_mul hq z).elim (fun y => by have := h3 q hq y; omega) id, fun z => Nat.dvd_mul_left_of_dvd z c⟩
theorem td_isP {n p r : Nat} (h : td n p r) (hp : 2 ≤ p) (hd : p ∣ r) : isP p :=
  ⟨hp, fun d h1 h2 h3 => h.2.2 d h2 h1 (Nat.dvd_trans (Nat.dvd_of_mod_eq_zero h3) hd)⟩
theorem td_next {n p r : Nat} (h : td n p r) (hd : ¬ p ∣ r) : td n (p + 1) r := by
  obtain ⟨h1, ⟨c, h2, h4, h3⟩, h5⟩ := h
  refine ⟨h1, ⟨c, h2, h4, fun q hq hqc => by have := h3 q hq hqc; omega⟩, fun d hd2 hdl hdd => ?_⟩
  by_cases e : d = p
  · exact hd (e ▸ hdd)
  · exact h5 d hd2 (by omega) hdd
theorem td_div {n p r m k : Nat} (h : td n p r) (hp : isP p) (hr : r = p ^ k * m) (hm : ¬ p ∣ m) : td n (p + 1) m := by
  obtain ⟨h1, ⟨c, h2, rfl, h3⟩, h5⟩ := h
  subst hr
  have h0 : 0 < p := by have := hp.1; omega
  refine ⟨Nat.pos_of_ne_zero (fun z => by subst z; rw [Nat.mul_zero] at h1; omega), ⟨c * p ^ k, Nat.mul_pos h2 (Nat.pow_pos h0), by rw [Nat.mul_assoc], fun q hq hqc => ?_⟩, fun d hd2 hdl hdd => ?_⟩
  · rcases isP_mul hq hqc with z | z
    · have := h3 q hq z; omega
    · have := isP_ne_dvd hq hp (isP_pow hq z); omega
  · by_cases e : d = p
    · exact hm (e ▸ hdd)
    · exact h5 d hd2 (by omega) (Nat.dvd_mul_left_of_dvd hdd _)
theorem td_end {n p r : Nat} (h : td n p r) (hl : r < p * p) : r = 1 ∨ isP r := by
  by_cases h1 : r = 1
  · exact Or.inl h1
  · refine Or.inr (isP_of_sqrt (by have := h.1; omega) (fun d hd hdd => h.2.2 d hd ?_))
    rcases Nat.lt_or_ge d p with z | z
    · exact z
    · have := Nat.mul_le_mul z z; omega
theorem td_v_no {g : Nat → Nat → Nat} {M n p r : Nat} (h : td n p r) (hp : 2 ≤ p) (hd : ¬ p ∣ r) : prP g M n p = prP g M n (p - 1) := by
  obtain ⟨q, rfl⟩ : ∃ q, p = q + 1 := ⟨p - 1, by omega⟩
  exact prP_no (fun z => hd ((td_dvd h z.1 (Nat.le_refl _)).mp z.2))
theorem td_v_yes {g : Nat → Nat → Nat} {M n p r : Nat} (h : td n p r) (hp : 2 ≤ p) (hd : p ∣ r) : prP g M n p = prP g M n (p - 1) * g p (vp p r) % M := by
  have hP := td_isP h hp hd
  rw [prP_yes hP ((td_dvd h hP (Nat.le_refl _)).mpr hd), td_vp h hP (Nat.le_refl _)]
theorem td_v_one {g : Nat → Nat → Nat} {M n p : Nat} (h : td n p 1) (hp : 2 ≤ p) : vV g M n = prP g M n (p - 1) :=
  prP_top (td_pos h) (fun q hq h1 h2 => by have := Nat.le_of_dvd (by omega) ((td_dvd h hq (by omega)).mp h2); have := hq.1; omega)
theorem td_v_prime {g : Nat → Nat → Nat} {M n p r : Nat} (h : td n p r) (hp : 2 ≤ p) (hr : isP r) : vV g M n = prP g M n (p - 1) * g r 1 % M := by
  have hpr : p ≤ r := by
    rcases Nat.lt_or_ge r p with z | z
    · exact absurd (Nat.dvd_refl r) (h.2.2 r hr.1 z)
    · exact z
  have h1 : vV g M n = prP g M n r := prP_top (td_pos h) (fun q hq h1 h2 => by
    have := Nat.le_of_dvd h.1 ((td_dvd h hq (by omega)).mp h2); omega)
  have h2 : prP g M n (r - 1) = prP g M n (p - 1) := prP_to (by omega) (fun q hq h3 h4 h5 => by
    have := isP_ne_dvd hq hr ((td_dvd h hq (by omega)).mp h5); have := hr.1; omega)
  rw [h1, prP_yes hr ((td_dvd h hr hpr).mpr (Nat.dvd_refl r)), h2, td_vp h hr hpr, vp_one hr.1]
/-- sums of what a function is up to x, by M -/
def sV (g : Nat → Nat → Nat) (M : Nat) : Nat → Nat
  | 0 => 0
  | x + 1 => (sV g M x + vV g M (x + 1)) % M
theorem sV_lt {g : Nat → Nat → Nat} {M : Nat} (hM : 2 ≤ M) : ∀ x, sV g M x < M
  | 0 => by show 0 < M; omega
  | _ + 1 => Nat.mod_lt _ (by omega)
theorem sV_1 {g : Nat → Nat → Nat} {M : Nat} (hM : 2 ≤ M) : sV g M 1 = 1 := by
  show (0 + vV g M 1) % M = 1
  rw [vV_1]; exact Nat.mod_eq_of_lt (by omega)
/-- a value out of two sums next to each other -/
theorem sV_diff {g : Nat → Nat → Nat} {M n : Nat} (hM : 2 ≤ M) : (sV g M n ≤ sV g M (n + 1) → sV g M (n + 1) - sV g M n = vV g M (n + 1)) ∧ (sV g M (n + 1) < sV g M n → sV g M (n + 1) + M - sV g M n = vV g M (n + 1)) := by
  have h1 : sV g M (n + 1) = (sV g M n + vV g M (n + 1)) % M := rfl
  have h2 := sV_lt (g := g) hM n
  have h3 := vV_lt (g := g) (n := n + 1) hM
  rcases Nat.lt_or_ge (sV g M n + vV g M (n + 1)) M with z | z
  · rw [Nat.mod_eq_of_lt z] at h1; omega
  · rw [Nat.mod_eq_sub_mod z, Nat.mod_eq_of_lt (by omega)] at h1; omega
