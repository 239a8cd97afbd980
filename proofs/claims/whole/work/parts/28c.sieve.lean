/-! PURE: the class's sieve -/
theorem isP_no {n : Nat} (hn : 2 ≤ n) (h : ∀ q, isP q → q * q ≤ n → ¬ q ∣ n) : isP n :=
  isP_of_sqrt hn (fun d hd hdd hdn => by
    obtain ⟨q, hq, hqd, -⟩ := least_div hd
    have hle := Nat.le_of_dvd (by omega) hqd
    exact h q hq (Nat.le_trans (Nat.mul_le_mul hle hle) hdd) (Nat.dvd_trans hqd hdn))
/-- p is the least prime of n -/
def isLp (n p : Nat) : Prop := isP p ∧ p ∣ n ∧ ∀ d, 2 ≤ d → d < p → ¬ d ∣ n
theorem isLp_sq {n p : Nat} (h : isLp n p) (hn : ¬ isP n) (h0 : 0 < n) : p * p ≤ n ∧ p < n := by
  obtain ⟨h1, ⟨t, rfl⟩, h3⟩ := h
  have ht : t ≠ 1 := fun z => by subst z; rw [Nat.mul_one] at hn; exact hn h1
  have ht0 : t ≠ 0 := fun z => by subst z; omega
  have hpt : p ≤ t := by
    rcases Nat.lt_or_ge t p with z | z
    · exact absurd (Nat.dvd_mul_left t p) (h3 t (by omega) z)
    · exact z
  have h2 := h1.1
  have h4 : p * 2 ≤ p * t := Nat.mul_le_mul_left p (by omega)
  exact ⟨Nat.mul_le_mul_left p hpt, by omega⟩
theorem isLp_one {n p q : Nat} (h : isLp n p) (h2 : isLp n q) : p = q := by
  rcases Nat.lt_or_ge p q with z | z
  · exact absurd h.2.1 (h2.2.2 p h.1.1 z)
  · rcases Nat.lt_or_ge q p with y | y
    · exact absurd h2.2.1 (h.2.2 q h2.1.1 y)
    · omega
/-- the sieve is right below L -/
def svOK (L : Nat) (least : Nat → Int32) : Prop := ∀ n, n < L → (least n = 0 ∧ (n < 2 ∨ isP n)) ∨ (∃ p, 2 ≤ p ∧ p < n ∧ least n = nI p ∧ isLp n p)
def nl (L x : Nat) : Nat := if x + 1 < (if 200001 < 2 * L then 200001 else 2 * L) then (if 200001 < 2 * L then 200001 else 2 * L) else x + 1
theorem nl_b {L x : Nat} (hL : L ≤ 200001) (hx : x ≤ 200000) (h : L ≤ x) : x < nl L x ∧ nl L x ≤ 200001 ∧ L < nl L x := by
  rw [nl]; split <;> split <;> omega
theorem s_grown {L x : Nat} {Q : Int32 → Prop} (hL : L ≤ 200001) (hx : x ≤ 200000) (h : Q (nI (nl L x))) : wX10_grown (nI L) (nI x) Q := by
  unfold wX10_grown
  rintro m1 rfl m2 rfl
  have e1 : (if (200001 : Int32) < 2 * nI L then (200001 : Int32) else 2 * nI L) = nI (if 200001 < 2 * L then 200001 else 2 * L) := by
    rw [show (2 : Int32) * nI L = nI (2 * L) from pk_mul 2 L, show (200001 : Int32) = nI 200001 from rfl]
    by_cases c : 200001 < 2 * L
    · rw [if_pos c, if_pos (nI_lt c (by omega))]
    · rw [if_neg c, if_neg (nI_nlt (by omega) (by omega))]
  rw [e1, nI_1]
  have e2 : (if nI (x + 1) < nI (if 200001 < 2 * L then 200001 else 2 * L) then nI (if 200001 < 2 * L then 200001 else 2 * L) else nI (x + 1)) = nI (nl L x) := by
    rw [nl]
    have hb : (if 200001 < 2 * L then 200001 else 2 * L) ≤ 400002 := by split <;> omega
    by_cases c : x + 1 < (if 200001 < 2 * L then 200001 else 2 * L)
    · rw [if_pos c, if_pos (nI_lt c (by omega))]
    · rw [if_neg c, if_neg (nI_nlt (by omega) (by omega))]
  rw [e2]; exact h
theorem s_copyOf {mc ms L n : Nat} {a : Nat → Int32} {Q : Nat → (Nat → Int32) → Prop} (hL : L < n) (hn : n ≤ 200001) (h1 : 1 ≤ mc) (h2 : n ≤ ms) (h : Q n (va_cpy a (fun _ => 0) 0 0 L)) : wJ7_copyOf_59c91 mc ms L a (nI n) Q := by
  unfold wJ7_copyOf_59c91
  refine pn_eq n L (fun _ => ⟨nI_pos (by omega), ?_⟩) (fun e => by omega)
  rw [nI_clamp (by omega)]
  refine ⟨by omega, by omega, ?_⟩
  rintro z rfl m rfl
  rw [if_neg (nI_nlt (by omega) (by omega)), nI_clamp (by omega), sb_cl0]
  refine ⟨nI_pos (by omega), by omega, by omega, ?_⟩
  rintro z2 rfl
  exact h
theorem mult_gap {p n j : Nat} (hn : p ∣ n) (hj : p ∣ j) (h1 : j ≤ n) (h2 : n < j + p) : n = j := by
  obtain ⟨a, rfl⟩ := hn
  obtain ⟨b, rfl⟩ := hj
  have h3 : p * a < p * (b + 1) := by rw [Nat.mul_add]; omega
  have h4 := Nat.lt_of_mul_lt_mul_left h3
  rcases Nat.lt_or_ge a b with z | z
  · have := Nat.mul_le_mul_left p z
    rw [Nat.mul_succ] at this
    omega
  · rw [show a = b by omega]
def mk (p fr L j : Nat) (base : Nat → Int32) : Nat → Int32 := fun n => if p ∣ n ∧ fr ≤ n ∧ n < j ∧ n < L ∧ base n = 0 then nI p else base n
theorem s_mark {L p fr : Nat} {base : Nat → Int32} {Q : (Nat → Int32) → Prop} (hp : 2 ≤ p) (hp2 : p ≤ 447) (hd : p ∣ fr) (hfr : fr < 2 ^ 29) (hL : L ≤ 200001) (h : Q (mk p fr L L base)) : wX8_markFrom L base (nI fr) (nI p) Q := by
  unfold wX8_markFrom
  refine ⟨fun c x => ∃ j : Nat, fr ≤ j ∧ p ∣ j ∧ j < 2 ^ 30 ∧ x = nI j ∧ c = mk p fr L j base, fun _ x => L + 500 - x.toNatClampNeg, ⟨fr, Nat.le_refl _, hd, by omega, rfl, ?_⟩, ?_⟩
  · funext n
    rw [mk, if_neg (by omega)]
  rintro c x ⟨j, h1, h2, h3, rfl, rfl⟩
  refine pk_le L j (fun z => ?_) (fun z => ⟨pk_in j L z, ?_⟩)
  · have : mk p fr L j base = mk p fr L L base := by
      funext n
      rw [mk, mk]
      by_cases c : p ∣ n ∧ fr ≤ n ∧ n < L ∧ n < L ∧ base n = 0
      · rw [if_pos c, if_pos ⟨c.1, c.2.1, by omega, c.2.2.1, c.2.2.2.2⟩]
      · rw [if_neg c, if_neg (fun y => c ⟨y.1, y.2.1, y.2.2.2.1, y.2.2.2⟩)]
    rw [this]; exact h
  · rw [nI_clamp (show j < 2 ^ 31 by omega), nI_add]
    have hcj : mk p fr L j base j = base j := by rw [mk, if_neg (by omega)]
    have hmea : L + 500 - (nI (j + p)).toNatClampNeg < L + 500 - (nI j).toNatClampNeg := by
      rw [nI_clamp (by omega), nI_clamp (by omega)]; omega
    have hdj : p ∣ j + p := Nat.dvd_add h2 (Nat.dvd_refl p)
    rw [hcj]
    refine ⟨fun hb => ?_, fun hb => ?_⟩
    · rintro x rfl
      refine ⟨⟨j + p, by omega, hdj, by omega, rfl, ?_⟩, hmea⟩
      funext n
      rw [mk, mk]
      by_cases c : p ∣ n ∧ fr ≤ n ∧ n < j ∧ n < L ∧ base n = 0
      · rw [if_pos c, if_pos ⟨c.1, c.2.1, by omega, c.2.2.2⟩]
      · rw [if_neg c, if_neg (fun y => ?_)]
        rcases Nat.lt_or_ge n j with q | q
        · exact c ⟨y.1, y.2.1, q, y.2.2.2⟩
        · have := mult_gap y.1 h2 q y.2.2.1
          subst this
          exact hb y.2.2.2.2
    · rintro c2 rfl x rfl
      refine ⟨⟨j + p, by omega, hdj, by omega, rfl, ?_⟩, hmea⟩
      funext n
      by_cases e : n = j
      · subst e
        rw [pk_us, mk, if_pos ⟨h2, h1, by omega, z, hb⟩]
      · rw [pk_un e, mk, mk]
        by_cases c : p ∣ n ∧ fr ≤ n ∧ n < j ∧ n < L ∧ base n = 0
        · rw [if_pos c, if_pos ⟨c.1, c.2.1, by omega, c.2.2.2⟩]
        · rw [if_neg c, if_neg (fun y => ?_)]
          rcases Nat.lt_or_ge n j with q | q
          · exact c ⟨y.1, y.2.1, q, y.2.2.2⟩
          · exact e (mult_gap y.1 h2 q y.2.2.1)
def sL (L x : Nat) : Nat := if x < L then L else nl L x
theorem s_reach {mc ms L x : Nat} {least : Nat → Int32} {Q : Nat → (Nat → Int32) → Prop} (hL : 2 ≤ L) (hL2 : L ≤ 200001) (hx : x ≤ 200000) (hsv : svOK L least) (hroom : x < L ∨ (1 ≤ mc ∧ nl L x ≤ ms)) (h : ∀ least', svOK (sL L x) least' → Q (sL L x) least') : wX8_reach mc ms L least (nI x) Q := by
  unfold wX8_reach
  refine pk_lt x L (fun z => ?_) (fun z => pk_le x 200000 (fun _ => ?_) (fun y => by omega))
  · rw [sL, if_pos z] at h
    exact h least hsv
  rw [sL, if_neg (by omega)] at h
  have hr := hroom.resolve_left (by omega)
  have hnl := nl_b hL2 hx z
  rw [show nI L - 1 = nI (L - 1) from pk_sub (b := 1) (by omega)]
  rintro old rfl
  refine ⟨_, s_grown hL2 hx ?_, fun _ h => h⟩
  refine ⟨mc, ms, _, ⟨by omega, by omega⟩, s_copyOf hnl.2.2 hnl.2.1 hr.1 hr.2 ?_, fun _ _ h => h⟩
  generalize hN : nl L x = N at *
  rw [show nI N - 1 = nI (N - 1) from pk_sub (b := 1) (by omega)]
  rintro last rfl
  refine ⟨fun c y => ∃ P : Nat, 2 ≤ P ∧ P ≤ 448 ∧ y = nI P ∧ ∀ n, n < N → (n < L → c n = least n) ∧ (L ≤ n → (c n = 0 ∧ ∀ q, isP q → q < P → q * q ≤ n → ¬ q ∣ n) ∨ (∃ q, c n = nI q ∧ isLp n q ∧ q * q ≤ n ∧ q < P)), fun _ y => 449 - y.toNatClampNeg, ⟨2, by omega, by omega, rfl, fun n hn => ⟨fun hl => sb_cpy0 hl, fun hl => Or.inl ⟨pk_cpy_out (Or.inr (by omega)), fun q hq hq2 => by have := hq.1; omega⟩⟩⟩, ?_⟩
  rintro c y ⟨P, hP1, hP2, rfl, hc⟩
  have hPP : P * P ≤ 448 * 448 := Nat.mul_le_mul hP2 hP2
  rw [pk_mul]
  refine pk_lt (N - 1) (P * P) (fun z2 => h c (fun n hn => ?_)) (fun z2 => ?_)
  · by_cases hnL : n < L
    · rw [(hc n hn).1 hnL]; exact hsv n hnL
    · rcases (hc n hn).2 (by omega) with ⟨a1, a2⟩ | ⟨q, a1, a2, a3, a4⟩
      · refine Or.inl ⟨a1, Or.inr (isP_no (by omega) (fun q hq hqq => a2 q hq ?_ hqq))⟩
        rcases Nat.lt_or_ge q P with w | w
        · exact w
        · have := Nat.mul_le_mul w w; omega
      · have hq2 := a2.1.1
        have : q * 2 ≤ q * q := Nat.mul_le_mul_left q hq2
        exact Or.inr ⟨q, hq2, by omega, a1, a2⟩
  · have hP447 := sq_lt (p := P) (by omega)
    have hPN : P < N := by
      have : P * 1 ≤ P * P := Nat.mul_le_mul_left P (by omega)
      omega
    refine ⟨pk_in P N hPN, ?_⟩
    rw [nI_clamp (show P < 2 ^ 31 by omega), nI_1]
    have hpr : (c P = 0 → isP P) ∧ (¬ c P = 0 → ¬ isP P) := by
      by_cases hPL : P < L
      · rw [(hc P hPN).1 hPL]
        rcases hsv P hPL with ⟨a1, a2⟩ | ⟨q, a0, a1, a2, a3⟩
        · exact ⟨fun _ => a2.resolve_left (by omega), fun w => absurd a1 w⟩
        · refine ⟨fun w => ?_, fun _ w => ?_⟩
          · rw [a2] at w; exact absurd w (nI_ne0 (by omega) (by omega))
          · have := isP_ne_dvd a3.1 w a3.2.1; omega
      · rcases (hc P hPN).2 (by omega) with ⟨a1, a2⟩ | ⟨q, a1, a2, a3, a4⟩
        · refine ⟨fun _ => isP_no hP1 (fun q hq hqq => a2 q hq ?_ hqq), fun w => absurd a1 w⟩
          rcases Nat.lt_or_ge q P with w | w
          · exact w
          · have := Nat.mul_le_mul w w
            have : P * 2 ≤ P * P := Nat.mul_le_mul_left P hP1
            omega
        · refine ⟨fun w => ?_, fun _ w => ?_⟩
          · rw [a1] at w; exact absurd w (nI_ne0 (by have := a2.1.1; omega) (by omega))
          · have := isP_ne_dvd a2.1 w a2.2.1; omega
    have step : ¬ isP P → ∀ n, n < N → (n < L → c n = least n) ∧ (L ≤ n → (c n = 0 ∧ ∀ q, isP q → q < P + 1 → q * q ≤ n → ¬ q ∣ n) ∨ (∃ q, c n = nI q ∧ isLp n q ∧ q * q ≤ n ∧ q < P + 1)) := by
      intro hnp n hn
      refine ⟨(hc n hn).1, fun hl => ?_⟩
      rcases (hc n hn).2 hl with ⟨a1, a2⟩ | ⟨q, a1, a2, a3, a4⟩
      · refine Or.inl ⟨a1, fun q hq hql => a2 q hq ?_⟩
        have : q ≠ P := fun e => hnp (e ▸ hq)
        omega
      · exact Or.inr ⟨q, a1, a2, a3, by omega⟩
    refine ⟨fun w => ⟨⟨P + 1, by omega, by omega, rfl, step (hpr.2 w)⟩, ms_up (by omega) (by omega)⟩, fun w => ⟨nI_ne0 (by omega) (by omega), ?_⟩⟩
    have hiP := hpr.1 w
    rw [pk_div (by omega) (by omega) (by omega), nI_1, pk_mul]
    have hdm : (L - 1) / P * P ≤ L - 1 := Nat.div_mul_le_self _ _
    have hfe : (if nI (P * P) < nI (((L - 1) / P + 1) * P) then nI (((L - 1) / P + 1) * P) else nI (P * P)) = nI (if P * P < ((L - 1) / P + 1) * P then ((L - 1) / P + 1) * P else P * P) := by
      have : ((L - 1) / P + 1) * P < 2 ^ 29 := by rw [Nat.add_mul]; omega
      by_cases cc : P * P < ((L - 1) / P + 1) * P
      · rw [if_pos cc, if_pos (nI_lt cc (by omega))]
      · rw [if_neg cc, if_neg (nI_nlt (by omega) (by omega))]
    rw [hfe]
    have hf1 : P ∣ (if P * P < ((L - 1) / P + 1) * P then ((L - 1) / P + 1) * P else P * P) := by
      split
      · exact Nat.dvd_mul_left _ _
      · exact Nat.dvd_mul_left _ _
    have hf2 : (if P * P < ((L - 1) / P + 1) * P then ((L - 1) / P + 1) * P else P * P) < 2 ^ 29 := by
      have : ((L - 1) / P + 1) * P < 2 ^ 29 := by rw [Nat.add_mul]; omega
      split <;> omega
    have hf3 : ∀ n, P ∣ n → ((if P * P < ((L - 1) / P + 1) * P then ((L - 1) / P + 1) * P else P * P) ≤ n ↔ P * P ≤ n ∧ L ≤ n) := by
      rintro n ⟨t, rfl⟩
      have e1 : ((L - 1) / P + 1) * P ≤ P * t ↔ L ≤ P * t := by
        rw [Nat.mul_comm P t]
        constructor
        · intro w
          have w2 := Nat.le_of_mul_le_mul_right w (show 0 < P by omega)
          have := (Nat.div_lt_iff_lt_mul (show 0 < P by omega)).mp (show (L - 1) / P < t by omega)
          omega
        · intro w
          have := (Nat.div_lt_iff_lt_mul (show 0 < P by omega)).mpr (show L - 1 < t * P by omega)
          exact Nat.mul_le_mul_right P this
      split <;> omega
    generalize (if P * P < ((L - 1) / P + 1) * P then ((L - 1) / P + 1) * P else P * P) = fr at *
    rintro m rfl
    refine ⟨_, s_mark hP1 hP447 hf1 hf2 hnl.2.1 ?_, fun _ h => h⟩
    refine ⟨⟨P + 1, by omega, by omega, rfl, fun n hn => ⟨fun hl => ?_, fun hl => ?_⟩⟩, ms_up (by omega) (by omega)⟩
    · rw [mk, if_neg (fun y => by have := (hf3 n y.1).mp y.2.1; omega)]; exact (hc n hn).1 hl
    · rcases (hc n hn).2 hl with ⟨a1, a2⟩ | ⟨q, a1, a2, a3, a4⟩
      · by_cases cc : P ∣ n ∧ P * P ≤ n
        · refine Or.inr ⟨P, ?_, ⟨hiP, cc.1, fun d hd hdl hdn => ?_⟩, cc.2, by omega⟩
          · rw [mk, if_pos ⟨cc.1, (hf3 n cc.1).mpr ⟨cc.2, hl⟩, hn, hn, a1⟩]
          · obtain ⟨q, hq, hqd, -⟩ := least_div hd
            have hle := Nat.le_of_dvd (by omega) hqd
            exact a2 q hq (by omega) (Nat.le_trans (Nat.mul_le_mul (by omega : q ≤ P) (by omega : q ≤ P)) cc.2) (Nat.dvd_trans hqd hdn)
        · refine Or.inl ⟨?_, fun q hq hql hqq hqn => ?_⟩
          · rw [mk, if_neg (fun y => cc ⟨y.1, ((hf3 n y.1).mp y.2.1).1⟩)]; exact a1
          · by_cases e : q = P
            · subst e; exact cc ⟨hqn, hqq⟩
            · exact a2 q hq (by omega) hqq hqn
      · refine Or.inr ⟨q, ?_, a2, a3, by omega⟩
        rw [mk, if_neg (fun y => ?_)]
        · exact a1
        · rw [a1] at y; exact nI_ne0 (by have := a2.1.1; omega) (by omega) y.2.2.2.2
