/-! PURE: numbers without squares, full numbers, primes -/
theorem iI_0 : iI 0 = 0 := by decide
theorem iI_m (z : Int) (h1 : -2147483648 ≤ z) (h2 : z < 2147483648) : iI z = 0 ↔ z = 0 := by
  constructor
  · intro e
    have := congrArg Int32.toInt e
    rw [iI_toInt h1 h2] at this
    exact this
  · rintro rfl; decide
theorem s_signOf {n : Nat} {Q : Int32 → Prop} (hn : 1 ≤ n) (hn2 : n ≤ 200000) (h : Q (iI (mu n))) : wX10_signOf (nI n) Q := by
  unfold wX10_signOf
  refine ⟨fun x1 x2 x3 => ∃ p r : Nat, 2 ≤ p ∧ p ≤ 448 ∧ x3 = nI p ∧ x2 = nI r ∧ td n p r ∧ x1 = iI (d3 (prP gmu 3 n (p - 1))), fun _ _ x3 => 449 - x3.toNatClampNeg, ⟨2, n, by omega, by omega, rfl, rfl, td_0 hn, ?_⟩, ?_⟩
  · have : prP gmu 3 n 1 = 1 := prP_to (a := 0) (by omega) (fun q hq _ h2 _ => by have := hq.1; omega)
    rw [this]; decide
  rintro x1 x2 x3 ⟨p, r, hp1, hp2, rfl, rfl, htd, rfl⟩
  have hr := td_le htd
  have hr1 := htd.1
  have hpp : p * p ≤ 448 * 448 := Nat.mul_le_mul hp2 hp2
  have hlt := prP_lt (g := gmu) (M := 3) (n := n) (by omega) (p - 1)
  rw [pk_mul]
  refine pk_lt r (p * p) (fun z => pk_le r 1 (fun z2 => ?_) (fun z2 => ?_)) (fun z => ⟨nI_ne0 (by omega) (by omega), ?_⟩)
  · obtain rfl : r = 1 := by omega
    rw [mu, td_v_one htd hp1] at h; exact h
  · have hrP : isP r := (td_end htd z).resolve_left (by omega)
    rw [mu, td_v_prime htd hp1 hrP, show gmu r 1 = 2 from rfl, d3_neg hlt] at h
    rw [iI_neg]; exact h
  · have hp447 := sq_lt (p := p) (by omega)
    rw [pk_rem (by omega) (by omega) (by omega), nI_1]
    have hmp := Nat.mod_lt r (show 0 < p by omega)
    refine pn_eq (r % p) 0 (fun e => ?_) (fun e => ?_)
    · have hd : ¬ p ∣ r := fun w => e (Nat.mod_eq_zero_of_dvd w)
      exact ⟨⟨p + 1, r, by omega, by omega, rfl, rfl, td_next htd hd, by rw [Nat.add_sub_cancel, td_v_no htd hp1 hd]⟩, ms_up (by omega) (by omega)⟩
    · have hd := Nat.dvd_of_mod_eq_zero e
      have hP := td_isP htd hp1 hd
      obtain ⟨t, ht⟩ := hd
      have ht0 : 0 < t := Nat.pos_of_ne_zero (fun w => by subst w; omega)
      have htr : t ≤ r := by rw [ht]; exact Nat.le_mul_of_pos_left t (by omega)
      rw [pk_div (by omega) (by omega) (by omega), show r / p = t by rw [ht, Nat.mul_div_cancel_left t (by omega)]]
      rintro y rfl s rfl
      rw [pk_rem (by omega) (by omega) (by omega), iI_neg]
      have htp := Nat.mod_lt t (show 0 < p by omega)
      refine pn_eq (t % p) 0 (fun e2 => ?_) (fun e2 => ?_)
      · have hd2 : ¬ p ∣ t := fun w => e2 (Nat.mod_eq_zero_of_dvd w)
        have hv : vp p r = 1 := by
          have := vp_pow_mul (p := p) (m := t) 1 hp1 ht0 hd2
          rw [Nat.pow_one, ← ht] at this; exact this
        refine ⟨⟨p + 1, t, by omega, by omega, rfl, rfl, td_div (k := 1) htd hP (by rw [Nat.pow_one]; exact ht) hd2, ?_⟩, ms_up (by omega) (by omega)⟩
        rw [Nat.add_sub_cancel, td_v_yes htd hp1 ⟨t, ht⟩, hv, show gmu p 1 = 2 from rfl, d3_neg hlt]
      · have hd2 := Nat.dvd_of_mod_eq_zero e2
        have hpn : p ∣ n := (td_dvd htd hP (Nat.le_refl p)).mpr ⟨t, ht⟩
        have hv2 : 2 ≤ vp p n := by
          rw [td_vp htd hP (Nat.le_refl p), ht, vp_mul hP (by omega) ht0, vp_one hp1]
          have := (vp_pos_iff hp1 ht0).mpr hd2
          omega
        obtain ⟨m, e3, e4, e5⟩ := vp_split hp1 n hn
        have : mu n = 0 := by rw [e3]; exact mu_sq hP hv2 e5 e4
        rw [this] at h; exact h
noncomputable def rt (x : Nat) : Nat := Classical.choose (rt_ex x)
theorem rt_s (x : Nat) : rt x * rt x ≤ x ∧ x < (rt x + 1) * (rt x + 1) := Classical.choose_spec (rt_ex x)
theorem s_rt {x : Nat} {Q : Int32 → Prop} (hx : x ≤ 200000) (h : rt x ≤ 447 → Q (nI (rt x))) : wX10_rootOf (nI x) Q :=
  s_rootOf hx (fun r h1 h2 h3 => by
    have := rt_one h1 h2 (rt_s x).1 (rt_s x).2
    subst this; exact h h3)
theorem s_freeUpTo {x : Nat} {Q : Int32 → Prop} (hx : x ≤ 200000) (h : Q (iI (sg (fun d => mu d * ((x / (d * d) : Nat) : Int)) (rt x)))) : wX10_freeUpTo (nI x) Q := by
  have hr := rt_s x
  have hr2 := sq_lt (p := rt x) (by omega)
  unfold wX10_freeUpTo
  refine ⟨fun s y => ∃ d : Nat, d ≤ rt x ∧ y = nI (d + 1) ∧ s = iI (sg (fun d => mu d * ((x / (d * d) : Nat) : Int)) d), fun _ y => 450 - y.toNatClampNeg, ⟨0, by omega, rfl, iI_0.symm⟩, ?_⟩
  rintro s y ⟨d, hd, rfl, rfl⟩
  have hdd : (d + 1) * (d + 1) ≤ 448 * 448 := Nat.mul_le_mul (by omega) (by omega)
  rw [pk_mul]
  refine pk_lt x ((d + 1) * (d + 1)) (fun z => ?_) (fun z => ?_)
  · have : d = rt x := by
      rcases Nat.lt_or_ge d (rt x) with w | w
      · have := Nat.mul_le_mul (show d + 1 ≤ rt x from w) (show d + 1 ≤ rt x from w); omega
      · omega
    subst this; exact h
  · have hlt : d < rt x := by
      rcases Nat.lt_or_ge d (rt x) with w | w
      · exact w
      · have := Nat.mul_le_mul (show rt x + 1 ≤ d + 1 by omega) (show rt x + 1 ≤ d + 1 by omega); omega
    have h0 : 0 < (d + 1) * (d + 1) := Nat.mul_pos (by omega) (by omega)
    refine ⟨_, s_signOf (by omega) (by omega) ?_, fun _ h => h⟩
    refine ⟨_, s_divided (by omega) h0 (by omega) ?_, fun _ h => h⟩
    rw [iI_N (x / _), iI_mul, nI_1]
    rintro s2 rfl
    rw [iI_add]
    exact ⟨⟨d + 1, hlt, rfl, rfl⟩, ms_up (by omega) (by omega)⟩
theorem cb_b {b : Nat} (h : b * b * b ≤ 200000) : b ≤ 58 := by
  rcases Nat.lt_or_ge 58 b with z | z
  · have := Nat.mul_le_mul (Nat.mul_le_mul z z) z; omega
  · exact z
theorem cb_ex (x : Nat) (hx : x ≤ 200000) : ∃ B, B ≤ 58 ∧ B ≤ x ∧ (∀ b, b ≤ B → b * b * b ≤ x) ∧ ∀ b, B < b → x < b * b * b := by
  obtain ⟨B, h1, h2⟩ := pk_least (fun k => x < (k + 1) * (k + 1) * (k + 1)) ⟨x, by
    have : 1 * 1 * (x + 1) ≤ (x + 1) * (x + 1) * (x + 1) := Nat.mul_le_mul_right _ (Nat.mul_le_mul (by omega) (by omega))
    omega⟩
  have h3 : ∀ b, b ≤ B → b * b * b ≤ x := by
    intro b hb
    cases b with
    | zero => omega
    | succ k => exact Nat.le_of_not_lt (h2 k (by omega))
  refine ⟨B, cb_b (Nat.le_trans (h3 B (Nat.le_refl B)) hx), ?_, h3, fun b hb => ?_⟩
  · have := h3 B (Nat.le_refl B)
    rcases Nat.eq_zero_or_pos B with z | z
    · omega
    · exact Nat.le_trans (Nat.le_mul_of_pos_left B (Nat.mul_pos z z)) this
  · have := Nat.mul_le_mul (Nat.mul_le_mul (show B + 1 ≤ b from hb) (show B + 1 ≤ b from hb)) (show B + 1 ≤ b from hb)
    omega
/-- how many full numbers there are up to x, as the class counts them -/
noncomputable def fuC (x B : Nat) : Int := sg (fun b => if mu b ≠ 0 then ((rt (x / (b * b * b)) : Nat) : Int) else 0) B
theorem s_fullUpTo {x B : Nat} {Q : Int32 → Prop} (hx : x ≤ 200000) (hB : B ≤ 58) (h1 : ∀ b, b ≤ B → b * b * b ≤ x) (h2 : ∀ b, B < b → x < b * b * b) (h : Q (iI (fuC x B))) : wX10_fullUpTo (nI x) Q := by
  unfold wX10_fullUpTo
  refine ⟨fun s y => ∃ b : Nat, b ≤ B ∧ y = nI (b + 1) ∧ s = iI (fuC x b), fun _ y => 450 - y.toNatClampNeg, ⟨0, by omega, rfl, iI_0.symm⟩, ?_⟩
  rintro s y ⟨b, hb, rfl, rfl⟩
  have hbb : (b + 1) * (b + 1) * (b + 1) ≤ 59 * 59 * 59 := Nat.mul_le_mul (Nat.mul_le_mul (by omega) (by omega)) (by omega)
  have hstep : fuC x (b + 1) = fuC x b + (if mu (b + 1) ≠ 0 then ((rt (x / ((b + 1) * (b + 1) * (b + 1))) : Nat) : Int) else 0) := rfl
  rw [pk_mul, pk_mul, nI_1]
  refine pk_lt x ((b + 1) * (b + 1) * (b + 1)) (fun z => ?_) (fun z => ?_)
  · have : b = B := by
      rcases Nat.lt_or_ge b B with w | w
      · have := h1 (b + 1) w; omega
      · omega
    subst this; exact h
  · have hlt : b < B := by
      rcases Nat.lt_or_ge b B with w | w
      · exact w
      · have := h2 (b + 1) (by omega); omega
    have h0 : 0 < (b + 1) * (b + 1) * (b + 1) := Nat.mul_pos (Nat.mul_pos (by omega) (by omega)) (by omega)
    have hmu := mu_cases (b + 1)
    refine ⟨_, s_signOf (by omega) (by omega) ?_, fun _ h => h⟩
    rw [iI_m _ (by omega) (by omega)]
    refine ⟨fun e => ⟨⟨b + 1, hlt, rfl, ?_⟩, ms_up (by omega) (by omega)⟩, fun e => ?_⟩
    · rw [hstep, if_neg (fun w => w e), Int.add_zero]
    · have hd : x / ((b + 1) * (b + 1) * (b + 1)) ≤ x := Nat.div_le_self _ _
      refine ⟨_, s_divided (by omega) h0 (by omega) ?_, fun _ h => h⟩
      refine ⟨_, s_rt (by omega) (fun hr => ?_), fun _ h => h⟩
      rw [iI_N (rt _)]
      rintro s2 rfl
      rw [iI_add]
      exact ⟨⟨b + 1, hlt, rfl, by rw [hstep, if_pos e]⟩, ms_up (by omega) (by omega)⟩
theorem s_isPrime {n : Nat} {Q : Int32 → Prop} (hn2 : n ≤ 200000) (h1 : isP n → Q 1) (h0 : ¬ isP n → Q 0) : wX10_isPrime (nI n) Q := by
  unfold wX10_isPrime
  refine ⟨fun x => ∃ p : Nat, 2 ≤ p ∧ p ≤ 448 ∧ x = nI p ∧ ∀ d, 2 ≤ d → d < p → ¬ d ∣ n ∨ n < d * d, fun x => 449 - x.toNatClampNeg, ⟨2, by omega, by omega, rfl, fun d a b => by omega⟩, ?_⟩
  rintro x ⟨p, hp1, hp2, rfl, hp⟩
  have hpp : p * p ≤ 448 * 448 := Nat.mul_le_mul hp2 hp2
  rw [pk_mul]
  refine pk_lt n (p * p) (fun z => pk_lt n 2 (fun z2 => h0 (fun w => by have := w.1; omega)) (fun z2 => h1 (isP_of_sqrt z2 (fun d hd hdd => ?_)))) (fun z => ⟨nI_ne0 (by omega) (by omega), ?_⟩)
  · have hdp : d < p := by
      rcases Nat.lt_or_ge d p with w | w
      · exact w
      · have := Nat.mul_le_mul w w; omega
    exact (hp d hd hdp).resolve_right (by omega)
  · have hp447 := sq_lt (p := p) (by omega)
    rw [pk_rem (by omega) (by omega) (by omega), nI_1]
    have hmp := Nat.mod_lt n (show 0 < p by omega)
    refine pn_eq (n % p) 0 (fun e => ⟨⟨p + 1, by omega, by omega, rfl, fun d a b => ?_⟩, ms_up (by omega) (by omega)⟩) (fun e => h0 (fun w => ?_))
    · by_cases e2 : d = p
      · subst e2; exact Or.inl (fun w => e (Nat.mod_eq_zero_of_dvd w))
      · exact hp d a (by omega)
    · have : p * 2 ≤ p * p := Nat.mul_le_mul_left p hp1
      exact w.2 p (by omega) hp1 e
/-- the greatest prime up to x -/
theorem s_lastPrime {x : Nat} {Q : Int32 → Prop} (hx : x ≤ 200000) (h1 : ∀ p, isP p → p ≤ x → (∀ q, p < q → q ≤ x → ¬ isP q) → Q (nI p)) (h0 : (∀ q, q ≤ x → ¬ isP q) → Q (-2)) : wX10_lastPrime (nI x) Q := by
  unfold wX10_lastPrime
  refine ⟨fun y => ∃ n : Nat, n ≤ x ∧ y = nI n ∧ ∀ q, n < q → q ≤ x → ¬ isP q, fun y => y.toNatClampNeg, ⟨x, Nat.le_refl x, rfl, fun q a b => by omega⟩, ?_⟩
  rintro y ⟨n, hn, rfl, hq⟩
  refine pk_lt n 2 (fun z => h0 (fun q hqx w => ?_)) (fun z => ⟨_, s_isPrime (by omega) (fun w => ?_) (fun w => ?_), fun _ h => h⟩)
  · have := w.1
    exact hq q (by omega) hqx w
  · exact c1 (h1 n w hn hq)
  · obtain ⟨t, rfl⟩ : ∃ t, n = t + 1 := ⟨n - 1, by omega⟩
    rw [pk_m1]
    refine c0 ⟨⟨t, by omega, rfl, fun q a b => ?_⟩, ms_dn (by omega) (by omega)⟩
    by_cases e : q = t + 1
    · subst e; exact w
    · exact hq q (by omega) b
