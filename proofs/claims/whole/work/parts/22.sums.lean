/-! PURE: sums of ints over 1 .. n; Gauss's sum; mu; numbers without squares; full numbers -/
/-- f 1 + .. + f n -/
def sg (f : Nat → Int) : Nat → Int
  | 0 => 0
  | n + 1 => sg f n + f (n + 1)
theorem sg_cong {f g : Nat → Int} : ∀ {n : Nat}, (∀ k, 1 ≤ k → k ≤ n → f k = g k) → sg f n = sg g n
  | 0, _ => rfl
  | n + 1, h => by rw [sg, sg, sg_cong (fun k h1 h2 => h k h1 (by omega)), h (n + 1) (by omega) (by omega)]
theorem sg_add (f g : Nat → Int) : ∀ n, sg (fun k => f k + g k) n = sg f n + sg g n
  | 0 => rfl
  | n + 1 => by rw [sg, sg, sg, sg_add f g n]; omega
theorem sg_neg (f : Nat → Int) : ∀ n, sg (fun k => - f k) n = - sg f n
  | 0 => rfl
  | n + 1 => by rw [sg, sg, sg_neg f n]; omega
theorem sg_mul (c : Int) (f : Nat → Int) : ∀ n, sg (fun k => c * f k) n = c * sg f n
  | 0 => (Int.mul_zero c).symm
  | n + 1 => by rw [sg, sg, sg_mul c f n, Int.mul_add]
theorem sg_mulr (c : Int) (f : Nat → Int) (n : Nat) : sg (fun k => f k * c) n = sg f n * c := by
  rw [Int.mul_comm, ← sg_mul]
  exact sg_cong (fun k _ _ => Int.mul_comm _ _)
theorem sg_zero {f : Nat → Int} {n : Nat} (h : ∀ k, 1 ≤ k → k ≤ n → f k = 0) : sg f n = 0 := by
  induction n with
  | zero => rfl
  | succ n ih => rw [sg, ih (fun k h1 h2 => h k h1 (by omega)), h (n + 1) (by omega) (by omega)]; rfl
theorem sg_more {f : Nat → Int} {n N : Nat} (h : n ≤ N) (hz : ∀ k, n < k → k ≤ N → f k = 0) : sg f N = sg f n := by
  obtain ⟨d, rfl⟩ := Nat.exists_eq_add_of_le h
  clear h
  induction d with
  | zero => rfl
  | succ d ih =>
    rw [← Nat.add_assoc, sg, ih (fun k h1 h2 => hz k h1 (by omega)), hz (n + d + 1) (by omega) (by omega), Int.add_zero]
theorem sg_block {f : Nat → Int} {v : Int} {a b : Nat} (h : a ≤ b) (hv : ∀ k, a < k → k ≤ b → f k = v) : sg f b = sg f a + ((b - a : Nat) : Int) * v := by
  obtain ⟨d, rfl⟩ := Nat.exists_eq_add_of_le h
  clear h
  rw [Nat.add_sub_cancel_left]
  induction d with
  | zero => rw [Nat.add_zero]; simp
  | succ d ih =>
    rw [← Nat.add_assoc, sg, ih (fun k h1 h2 => hv k h1 (by omega)), hv (a + d + 1) (by omega) (by omega), Int.natCast_add, Int.add_mul]
    simp; omega
theorem sg_swap (f : Nat → Nat → Int) (n : Nat) : ∀ m, sg (fun i => sg (fun j => f i j) n) m = sg (fun j => sg (fun i => f i j) m) n
  | 0 => (sg_zero (fun _ _ _ => rfl)).symm
  | m + 1 => by
    rw [sg, sg_swap f n m, ← sg_add]
    rfl
theorem sg_single {f : Nat → Int} {n a : Nat} (ha : 1 ≤ a) (h : a ≤ n) (hz : ∀ k, 1 ≤ k → k ≤ n → k ≠ a → f k = 0) : sg f n = f a := by
  rw [sg_more h (fun k h1 h2 => hz k (by omega) h2 (by omega))]
  obtain ⟨b, rfl⟩ : ∃ b, a = b + 1 := ⟨a - 1, by omega⟩
  rw [sg, sg_zero (fun k h1 h2 => hz k h1 (by omega) (by omega)), Int.zero_add]
theorem sg_const (c : Int) : ∀ n, sg (fun _ => c) n = (n : Int) * c
  | 0 => by simp [sg]
  | n + 1 => by rw [sg, sg_const c n, Int.natCast_add, Int.add_mul]; simp
theorem sg_mult (c : Int) (m : Nat) : ∀ q, sg (fun n => if m ∣ n then c else 0) q = ((q / m : Nat) : Int) * c
  | 0 => by simp [sg]
  | q + 1 => by
    rw [sg, sg_mult c m q, Nat.succ_div]
    by_cases h : m ∣ q + 1
    · rw [if_pos h, if_pos h, Int.natCast_add, Int.add_mul]; simp
    · rw [if_neg h, if_neg h]; simp
theorem sg_sub {c : Nat} (hc : 0 < c) (h : Nat → Int) (X : Nat) : sg (fun d => if c ∣ d then h d else 0) X = sg (fun e => h (c * e)) (X / c) := by
  have key : ∀ N, sg (fun d => if c ∣ d then h d else 0) (c * N) = sg (fun e => h (c * e)) N := by
    intro N
    induction N with
    | zero => rfl
    | succ N ih =>
      have e : c * (N + 1) = c * N + (c - 1) + 1 := by rw [Nat.mul_add]; omega
      rw [e, sg, sg_more (n := c * N) (by omega) (fun k h1 h2 => if_neg (fun ⟨t, ht⟩ => by
        subst ht
        have a1 := Nat.lt_of_mul_lt_mul_left h1
        have a2 : c * t < c * (N + 1) := by omega
        have := Nat.lt_of_mul_lt_mul_left a2
        omega)), ih, ← e, if_pos (Nat.dvd_mul_right c (N + 1))]
      rfl
  rw [← key, sg_more (Nat.mul_div_le X c) (fun k h1 h2 => if_neg (fun ⟨t, ht⟩ => by
    subst ht
    have a1 := Nat.lt_of_mul_lt_mul_left h1
    have a2 := (Nat.le_div_iff_mul_le hc).mpr (by rw [Nat.mul_comm]; exact h2)
    omega))]
/-- n less its part at each of its primes up to N -/
def phP (n : Nat) : Nat → Nat
  | 0 => n
  | N + 1 => if isP (N + 1) ∧ n % (N + 1) = 0 then phP n N - phP n N / (N + 1) else phP n N
theorem phP_no {n p : Nat} (h : ¬ (isP (p + 1) ∧ (p + 1) ∣ n)) : phP n (p + 1) = phP n p := by
  rw [phP, if_neg (fun z => h ⟨z.1, Nat.dvd_of_mod_eq_zero z.2⟩)]
theorem phP_yes {n p : Nat} (h1 : isP (p + 1)) (h2 : (p + 1) ∣ n) : phP n (p + 1) = phP n p - phP n p / (p + 1) := by
  rw [phP, if_pos ⟨h1, Nat.mod_eq_zero_of_dvd h2⟩]
theorem phP_gap {n a : Nat} : ∀ d : Nat, (∀ q, isP q → a < q → q ≤ a + d → ¬ q ∣ n) → phP n (a + d) = phP n a
  | 0, _ => rfl
  | d + 1, h => by
    rw [← Nat.add_assoc, phP_no (fun z => h (a + d + 1) z.1 (by omega) (by omega) z.2)]
    exact phP_gap d (fun q hq h1 h2 => h q hq h1 (by omega))
theorem phP_top {n a : Nat} (hn : 0 < n) (h : n ≤ a) : phP n a = phP n n := by
  obtain ⟨d, rfl⟩ := Nat.exists_eq_add_of_le h
  exact phP_gap d (fun q _ h1 _ h3 => by have := Nat.le_of_dvd hn h3; omega)
theorem isP_copow {p q : Nat} (hp : isP p) (hq : ¬ p ∣ q) (j : Nat) : Nat.Coprime (p ^ j) q := Nat.Coprime.pow_left j (isP_coprime hp hq)
theorem phP_dvd {m : Nat} : ∀ (N q j : Nat), isP q → N < q → q ^ j ∣ m → q ^ j ∣ phP m N
  | 0, _, _, _, _, h => h
  | N + 1, q, j, hq, hl, h => by
    by_cases hr : isP (N + 1) ∧ (N + 1) ∣ m
    · rw [phP_yes hr.1 hr.2]
      obtain ⟨Z, hZ⟩ : (N + 1) ^ 1 ∣ phP m N := phP_dvd N (N + 1) 1 hr.1 (by omega) (by rw [Nat.pow_one]; exact hr.2)
      rw [Nat.pow_one] at hZ
      have h1 := phP_dvd N q j hq (by omega) h
      have h2 : q ^ j ∣ Z := by
        rw [hZ] at h1
        exact (isP_copow hq (fun z => by have := isP_ne_dvd hq hr.1 z; omega) j).dvd_of_dvd_mul_left h1
      rw [hZ, Nat.mul_div_cancel_left Z (by omega)]
      exact Nat.dvd_sub (Nat.dvd_mul_left_of_dvd h2 _) h2
    · rw [phP_no hr]
      exact phP_dvd N q j hq (by omega) h
theorem phP_split {p k m : Nat} (hp : isP p) (hm : 0 < m) (hn : ¬ p ∣ m) : ∀ N, phP (p ^ (k + 1) * m) N = (if p ≤ N then (p ^ (k + 1) - p ^ k) * phP m N else p ^ (k + 1) * phP m N)
  | 0 => by rw [if_neg (by have := hp.1; omega)]; rfl
  | N + 1 => by
    have ih := phP_split (k := k) hp hm hn N
    have h0 : 0 < p := by have := hp.1; omega
    by_cases e : N + 1 = p
    · have hd : (N + 1) ∣ p ^ (k + 1) * m := by rw [e]; exact Nat.dvd_mul_right_of_dvd (by rw [Nat.pow_succ]; exact Nat.dvd_mul_left _ _) m
      have h1 := phP_yes (e ▸ hp) hd
      have h2 : phP m (N + 1) = phP m N := phP_no (fun z => hn (e ▸ z.2))
      rw [h1, if_pos (by omega), h2, ih, if_neg (by omega), e, Nat.sub_mul]
      congr 1
      rw [Nat.pow_succ, Nat.mul_comm (p ^ k) p, Nat.mul_assoc, Nat.mul_div_cancel_left _ h0]
    · by_cases hq : isP (N + 1) ∧ (N + 1) ∣ m
      · have hd : (N + 1) ∣ p ^ (k + 1) * m := Nat.dvd_mul_left_of_dvd hq.2 _
        obtain ⟨Z, hZ⟩ : (N + 1) ^ 1 ∣ phP m N := phP_dvd N (N + 1) 1 hq.1 (by omega) (by rw [Nat.pow_one]; exact hq.2)
        rw [Nat.pow_one] at hZ
        have key : ∀ c : Nat, c * phP m N - c * phP m N / (N + 1) = c * (phP m N - phP m N / (N + 1)) := by
          intro c
          rw [hZ, Nat.mul_left_comm, Nat.mul_div_cancel_left _ (by omega), Nat.mul_div_cancel_left _ (by omega), Nat.mul_sub, Nat.mul_left_comm]
        rw [phP_yes hq.1 hd, phP_yes hq.1 hq.2, ih]
        by_cases hl : p ≤ N
        · rw [if_pos hl, if_pos (by omega), key]
        · rw [if_neg hl, if_neg (by omega), key]
      · have h1 : phP (p ^ (k + 1) * m) (N + 1) = phP (p ^ (k + 1) * m) N := phP_no (fun z => by
          rcases isP_mul z.1 z.2 with y | y
          · exact e (isP_ne_dvd z.1 hp (isP_pow z.1 y))
          · exact hq ⟨z.1, y⟩)
        rw [h1, phP_no hq, ih]
        by_cases hl : p ≤ N
        · rw [if_pos hl, if_pos (by omega)]
        · rw [if_neg hl, if_neg (by omega)]
def ph (n : Nat) : Nat := phP n n
theorem ph_1 : ph 1 = 1 := by
  show phP 1 1 = 1
  rw [phP_no (fun z => by have := z.1.1; omega)]; rfl
theorem ph_split {p k m : Nat} (hp : isP p) (hm : 0 < m) (hn : ¬ p ∣ m) : (ph (p ^ (k + 1) * m) : Int) = ((p ^ (k + 1) : Nat) : Int) * (ph m : Int) - ((p ^ k : Nat) : Int) * (ph m : Int) := by
  have h0 : 0 < p := by have := hp.1; omega
  have hpk : p ≤ p ^ (k + 1) := by rw [Nat.pow_succ]; exact Nat.le_mul_of_pos_left p (Nat.pow_pos h0)
  have hle : p ≤ p ^ (k + 1) * m := Nat.le_trans hpk (Nat.le_mul_of_pos_right _ hm)
  have h1 := phP_split (k := k) hp hm hn (p ^ (k + 1) * m)
  rw [if_pos hle, phP_top hm (Nat.le_mul_of_pos_left m (Nat.pow_pos h0))] at h1
  have h2 : p ^ k ≤ p ^ (k + 1) := Nat.pow_le_pow_right h0 (by omega)
  show ((phP (p ^ (k + 1) * m) (p ^ (k + 1) * m) : Nat) : Int) = _
  rw [h1, Int.natCast_mul, Int.natCast_sub h2, Int.sub_mul]
  rfl
/-- the sum over the divisors of n -/
def dS (g : Nat → Int) (n : Nat) : Int := sg (fun d => if d ∣ n then g d else 0) n
theorem dS_step {p k m : Nat} (g : Nat → Int) (hp : isP p) (hm : 0 < m) (hn : ¬ p ∣ m) : dS g (p ^ (k + 1) * m) = dS g (p ^ k * m) + dS (fun e => g (p ^ (k + 1) * e)) m := by
  have h0 : 0 < p := by have := hp.1; omega
  have hc : 0 < p ^ (k + 1) := Nat.pow_pos h0
  have hk : 0 < p ^ k := Nat.pow_pos h0
  have hle : p ^ k * m ≤ p ^ (k + 1) * m := Nat.mul_le_mul_right m (Nat.pow_le_pow_right h0 (by omega))
  have hdv : p ^ k * m ∣ p ^ (k + 1) * m := Nat.mul_dvd_mul (Nat.pow_dvd_pow p (by omega)) (Nat.dvd_refl m)
  have key : ∀ d, 1 ≤ d → d ∣ p ^ (k + 1) * m → ¬ p ^ (k + 1) ∣ d → d ∣ p ^ k * m := by
    intro d hd h1 h2
    obtain ⟨e, h3, h4, h5⟩ := vp_split hp.1 d hd
    have h6 : e ∣ m := (isP_copow hp h4 (k + 1)).symm.dvd_of_dvd_mul_left (Nat.dvd_trans ⟨p ^ vp p d, by rw [Nat.mul_comm]; exact h3⟩ h1)
    have h7 : vp p d ≤ k := by
      rcases Nat.lt_or_ge k (vp p d) with z | z
      · exact absurd (Nat.dvd_trans (Nat.pow_dvd_pow p z) ⟨e, h3⟩) h2
      · exact z
    rw [h3]
    exact Nat.mul_dvd_mul (Nat.pow_dvd_pow p h7) h6
  have split : dS g (p ^ (k + 1) * m) = sg (fun d => (if d ∣ p ^ k * m then g d else 0) + (if p ^ (k + 1) ∣ d then (if d ∣ p ^ (k + 1) * m then g d else 0) else 0)) (p ^ (k + 1) * m) := by
    refine sg_cong (fun d h1 h2 => ?_)
    by_cases a : d ∣ p ^ (k + 1) * m
    · by_cases b : p ^ (k + 1) ∣ d
      · have hnd : ¬ d ∣ p ^ k * m := fun z => by
          have z2 := Nat.dvd_trans b z
          rw [Nat.pow_succ] at z2
          exact hn (Nat.dvd_of_mul_dvd_mul_left hk z2)
        simp [a, b, hnd]
      · simp [a, b, key d h1 a b]
    · have hnd : ¬ d ∣ p ^ k * m := fun z => a (Nat.dvd_trans z hdv)
      simp [a, hnd]
  rw [split, sg_add, sg_more hle (fun d h1 _ => if_neg (fun z => by have := Nat.le_of_dvd (Nat.mul_pos hk hm) z; omega)), sg_sub hc, Nat.mul_div_cancel_left m hc]
  refine congrArg (dS g (p ^ k * m) + ·) (sg_cong (fun e h1 h2 => ?_))
  by_cases a : e ∣ m
  · rw [if_pos a, if_pos (Nat.mul_dvd_mul_left _ a)]
  · rw [if_neg a, if_neg (fun z => a (Nat.dvd_of_mul_dvd_mul_left hc z))]
theorem gauss : ∀ n : Nat, 0 < n → dS (fun d => (ph d : Int)) n = (n : Int) := by
  intro n
  induction n using Nat.strongRecOn with
  | ind n ih =>
    intro hn
    by_cases h1 : n = 1
    · subst h1
      show (0 : Int) + (if 1 ∣ 0 + 1 then ((ph 1 : Nat) : Int) else 0) = 1
      rw [ph_1]; simp
    · obtain ⟨p, hp, hpn, -⟩ := least_div (n := n) (by omega)
      obtain ⟨m, h2, h3, h4⟩ := vp_split hp.1 n hn
      have hv : 0 < vp p n := (vp_pos_iff hp.1 hn).mpr hpn
      have hmn : m < n := by
        have hle : p ≤ p ^ vp p n := by
          obtain ⟨j, hj⟩ : ∃ j, vp p n = j + 1 := ⟨vp p n - 1, by omega⟩
          rw [hj, Nat.pow_succ]; exact Nat.le_mul_of_pos_left p (Nat.pow_pos (by have := hp.1; omega))
        have := Nat.mul_le_mul_right m (Nat.le_trans hp.1 hle)
        omega
      have hm := ih m hmn h4
      have key : ∀ k, dS (fun d => (ph d : Int)) (p ^ k * m) = ((p ^ k * m : Nat) : Int) := by
        intro k
        induction k with
        | zero => rw [Nat.pow_zero, Nat.one_mul]; exact hm
        | succ k ihk =>
          have e : dS (fun e => (ph (p ^ (k + 1) * e) : Int)) m = (((p ^ (k + 1) : Nat) : Int) - ((p ^ k : Nat) : Int)) * dS (fun d => (ph d : Int)) m := by
            rw [dS, dS, ← sg_mul]
            refine sg_cong (fun e h5 h6 => ?_)
            by_cases a : e ∣ m
            · rw [if_pos a, if_pos a, ph_split hp h5 (fun z => h3 (Nat.dvd_trans z a)), Int.sub_mul]
            · rw [if_neg a, if_neg a, Int.mul_zero]
          rw [dS_step _ hp h4 h3, ihk, e, hm, Int.sub_mul, ← Int.natCast_mul, ← Int.natCast_mul]
          omega
      rw [h2]
      exact key _
theorem sg_id : ∀ q : Nat, 2 * sg (fun n => (n : Int)) q = (q : Int) * (q : Int) + q
  | 0 => rfl
  | q + 1 => by
    have := sg_id q
    have e : ((q + 1 : Nat) : Int) = (q : Int) + 1 := by omega
    rw [sg, Int.mul_add, this, e, Int.add_mul, Int.mul_add (q : Int)]
    omega
theorem sg_ph (q : Nat) : sg (fun d => sg (fun m => (ph m : Int)) (q / d)) q = sg (fun n => (n : Int)) q := by
  have h1 : sg (fun d => sg (fun m => (ph m : Int)) (q / d)) q = sg (fun d => sg (fun m => if m * d ≤ q then (ph m : Int) else 0) q) q := by
    refine sg_cong (fun d hd _ => ?_)
    rw [sg_more (n := q / d) (N := q) (Nat.div_le_self q d) (fun k h1 _ => if_neg (fun z => by have := (Nat.le_div_iff_mul_le hd).mpr z; omega))]
    refine sg_cong (fun m _ h2 => ?_)
    rw [if_pos ((Nat.le_div_iff_mul_le hd).mp h2)]
  rw [h1, sg_swap]
  have h2 : sg (fun m => sg (fun d => if m * d ≤ q then (ph m : Int) else 0) q) q = sg (fun m => sg (fun n => if m ∣ n then (ph m : Int) else 0) q) q := by
    refine sg_cong (fun m hm _ => ?_)
    rw [sg_mult, sg_more (n := q / m) (N := q) (Nat.div_le_self q m) (fun k h1 _ => if_neg (fun z => by have := (Nat.le_div_iff_mul_le hm).mpr (by rw [Nat.mul_comm]; exact z); omega)), ← sg_const]
    refine sg_cong (fun d _ h2 => ?_)
    rw [if_pos (by rw [Nat.mul_comm]; exact (Nat.le_div_iff_mul_le hm).mp h2)]
  rw [h2, sg_swap]
  refine sg_cong (fun n hn h3 => ?_)
  rw [sg_more h3 (fun k h4 _ => if_neg (fun z => by have := Nat.le_of_dvd hn z; omega))]
  exact gauss n hn
/-- couples up to q without a common divisor but 1 -/
def cop (q : Nat) : Int := if q = 0 then 0 else 2 * sg (fun m => (ph m : Int)) q - 1
theorem cop_sum (q : Nat) : sg (fun d => cop (q / d)) q = (q : Int) * (q : Int) := by
  have h1 : sg (fun d => cop (q / d)) q = sg (fun d => 2 * sg (fun m => (ph m : Int)) (q / d) + (-1)) q := by
    refine sg_cong (fun d hd h2 => ?_)
    have : 1 ≤ q / d := (Nat.le_div_iff_mul_le hd).mpr (by omega)
    rw [cop, if_neg (by omega)]; omega
  have h2 := sg_id q
  rw [h1, sg_add, sg_mul, sg_ph, sg_const, h2]
  omega
