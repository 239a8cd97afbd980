/-! PURE: couples without a common divisor -/
theorem phP_le {n : Nat} : ∀ N, phP n N ≤ n
  | 0 => Nat.le_refl n
  | N + 1 => by
    have := phP_le (n := n) N
    rw [phP]; split
    · exact Nat.le_trans (Nat.sub_le _ _) this
    · exact this
theorem sg_ph_b : ∀ q : Nat, q ≤ 200000 → 0 ≤ sg (fun m => (ph m : Int)) q ∧ sg (fun m => (ph m : Int)) q ≤ (q : Int) * 200000
  | 0, _ => by simp [sg]
  | q + 1, h => by
    have h1 := sg_ph_b q (by omega)
    have h2 : ph (q + 1) ≤ q + 1 := phP_le _
    rw [sg]; omega
theorem cop_b {q : Nat} (h : q ≤ 200000) : -1 ≤ cop q ∧ cop q ≤ 80000000000 := by
  have := sg_ph_b q h
  rw [cop]; split <;> omega
theorem s_forgets {qth qta qli qsi qat qpl qso qva qfa qfp qlf qlp qun qhi qro qar qiS qbl qdr : Int32} {Q : Int32 → Prop} (h : Q (-1)) : wX11_forgets qth qta qli qsi qat qpl qso qva qfa qfp qlf qlp qun qhi qro qar qiS qbl qdr Q := by
  unfold wX11_forgets
  exact h
theorem s_laysPhi {qth qta qli qsi qat qpl qso qva qfa qfp qlf qlp qun qhi qro qar qiS qbl qdr : Int32} {marks row : Nat → Int32} {x : Nat} {Q : Int32 → (Nat → Int32) → Prop} (hmk : mkOK marks) (hx : x ≤ 200000) (h : ∀ row', (∀ n, 1 ≤ n → n ≤ x → row' n = nI (ph n)) → Q (-1) row') : wX11_laysPhi qth qta qli qsi qat qpl qso qva qfa qfp qlf qlp qun qhi qro qar qiS qbl qdr marks row (nI x) Q := by
  unfold wX11_laysPhi
  refine ⟨_, s_forgets ?_, fun _ h => h⟩
  refine ⟨fun r y => ∃ j : Nat, j ≤ x + 1 ∧ y = nI j ∧ ∀ n, n < j → r n = nI n, fun _ y => 200002 - y.toNatClampNeg, ⟨0, by omega, rfl, fun n hn => by omega⟩, ?_⟩
  rintro r y ⟨j, hj, rfl, hr⟩
  refine pk_lt x j (fun z => ?_) (fun z => ⟨pk_in j 200001 (by omega), ?_⟩)
  · refine ⟨fun r y => ∃ p : Nat, 2 ≤ p ∧ p ≤ x + 2 ∧ y = nI p ∧ ∀ n, 1 ≤ n → n ≤ x → r n = nI (phP n (p - 1)), fun _ y => 200003 - y.toNatClampNeg, ⟨2, by omega, by omega, rfl, fun n h1 h2 => ?_⟩, ?_⟩
    · rw [hr n (by omega)]
      exact congrArg nI (phP_no (p := 0) (fun w => by have := w.1.1; omega)).symm
    rintro r y ⟨p, hp1, hp2, rfl, hr⟩
    refine pk_lt x p (fun z2 => h r (fun n h1 h2 => ?_)) (fun z2 => ?_)
    · rw [hr n h1 h2]; exact congrArg nI (phP_top h1 (by omega))
    · rw [nI_1]
      obtain ⟨q, rfl⟩ : ∃ q, p = q + 1 := ⟨p - 1, by omega⟩
      rw [Nat.add_sub_cancel] at hr
      refine ⟨_, s_isPrimeM hmk (by omega) (fun hnp => ?_) (fun hP => ?_), fun _ h => h⟩
      · refine b0 ⟨⟨q + 1 + 1, by omega, by omega, rfl, fun n h1 h2 => ?_⟩, ms_up (by omega) (by omega)⟩
        rw [Nat.add_sub_cancel, phP_no (fun w => hnp w.1)]; exact hr n h1 h2
      · refine b1 ⟨fun r3 y => ∃ j : Nat, (q + 1) ∣ j ∧ 1 ≤ j ∧ j ≤ x + (q + 1) ∧ y = nI j ∧ ∀ n, 1 ≤ n → n ≤ x → r3 n = nI (if (q + 1) ∣ n ∧ n < j then phP n (q + 1) else phP n q), fun _ y => 400010 - y.toNatClampNeg, ⟨q + 1, Nat.dvd_refl _, by omega, by omega, rfl, fun n h1 h2 => ?_⟩, ?_⟩
        · rw [if_neg (fun w => by have := Nat.le_of_dvd h1 w.1; omega)]; exact hr n h1 h2
        rintro r3 y ⟨j, hj1, hj2, hj3, rfl, hr3⟩
        refine pk_lt x j (fun z3 => ?_) (fun z3 => ⟨pk_in j 200001 (by omega), nI_ne0 (by omega) (by omega), ?_⟩)
        · refine ⟨⟨q + 1 + 1, by omega, by omega, rfl, fun n h1 h2 => ?_⟩, ms_up (by omega) (by omega)⟩
          rw [hr3 n h1 h2, Nat.add_sub_cancel]
          by_cases e : (q + 1) ∣ n
          · rw [if_pos ⟨e, by omega⟩]
          · rw [if_neg (fun w => e w.1), phP_no (fun w => e w.2)]
        · have hb := phP_le (n := j) q
          have hd : phP j q / (q + 1) ≤ phP j q := Nat.div_le_self _ _
          rw [nI_clamp (by omega), hr3 j hj2 z3, if_neg (by omega), pk_div (by omega) (by omega) (by omega), pk_sub hd, nI_add]
          rintro e rfl r4 rfl x3 rfl
          refine ⟨⟨j + (q + 1), Nat.dvd_add hj1 (Nat.dvd_refl _), by omega, by omega, rfl, fun n h1 h2 => ?_⟩, ?_⟩
          · by_cases e : n = j
            · subst e
              rw [pk_us, if_pos ⟨hj1, by omega⟩, phP_yes hP hj1]
            · rw [pk_un e, hr3 n h1 h2]
              by_cases e2 : (q + 1) ∣ n ∧ n < j
              · rw [if_pos e2, if_pos ⟨e2.1, by omega⟩]
              · rw [if_neg e2, if_neg (fun w => ?_)]
                rcases Nat.lt_or_ge n j with y | y
                · exact e2 ⟨w.1, y⟩
                · exact e (mult_gap w.1 hj1 y w.2)
          · show 400010 - (nI (j + (q + 1))).toNatClampNeg < 400010 - (nI j).toNatClampNeg
            rw [nI_clamp (by omega), nI_clamp (by omega)]; omega
  · rw [nI_clamp (by omega), nI_1]
    rintro r2 rfl
    refine ⟨⟨j + 1, by omega, rfl, fun n hn => ?_⟩, ms_up (by omega) (by omega)⟩
    by_cases e : n = j
    · subst e; exact pk_us
    · rw [pk_un e]; exact hr n (by omega)
theorem s_laysCoprime {qth qta qli qsi qat qpl qso qva qfa qfp qlf qlp qun qhi qro qar qiS qbl qdr : Int32} {aq : Nat → Int64} {marks row lo sF : Nat → Int32} {M x T : Nat} {Q : Int32 → (Nat → Int32) → (Nat → Int64) → Prop} (hmk : mkOK marks) (hx : x ≤ 200000) (hs : sF 1 = nI M) (hM : 2 ≤ M) (hM2 : M ≤ 1000003) (hbl : qbl = nI T) (hT : T ≤ 894) (hlt : ∀ i, i < T → bL x i < x) (hlo : ∀ i, i < T → lo i = nI (bL x (i + 1))) (h : ∀ row' aq', (∀ i, i < T → aq' i = lN (cop (x / bL x (i + 1)) % (M : Int)).toNat) → Q (-1) row' aq') : wX11_laysCoprime qth qta qli qsi qat qpl qso qva qfa qfp qlf qlp qun qhi qro qar qiS qbl qdr marks row lo sF aq (nI x) Q := by
  unfold wX11_laysCoprime
  refine ⟨_, s_laysPhi hmk hx (fun row1 hr => ?_), fun _ _ h => h⟩
  rw [hbl]
  rintro x5 rfl
  refine ⟨fun a s n y => ∃ i k : Nat, i ≤ T ∧ ((i = 0 ∧ y = -1) ∨ (∃ j, i = j + 1 ∧ y = nI j)) ∧ n = nI k ∧ k ≤ x ∧ s = lI (sg (fun m => (ph m : Int)) k) ∧ (∀ j, j < i → k ≤ x / bL x (j + 1)) ∧ ∀ j, i ≤ j → j < T → a j = lN (cop (x / bL x (j + 1)) % (M : Int)).toNat, fun _ _ _ y => (y + 1).toNatClampNeg, ⟨T, 0, Nat.le_refl T, ?_, rfl, by omega, lI_0.symm, fun j _ => Nat.zero_le _, fun j h1 h2 => by omega⟩, ?_⟩
  · rcases Nat.eq_zero_or_pos T with z | z
    · subst z; exact Or.inl ⟨rfl, rfl⟩
    · exact Or.inr ⟨T - 1, by omega, pk_sub (b := 1) z⟩
  rintro a s n y ⟨i, k, hi, hy, rfl, hk, rfl, hkq, ha⟩
  rcases hy with ⟨rfl, rfl⟩ | ⟨j, rfl, rfl⟩
  · exact ⟨fun _ => h row1 a (fun j hj => ha j (by omega) hj), fun z => absurd (by decide) z⟩
  refine ⟨fun z => absurd z (nI_pos (by omega)), fun _ => ?_⟩
  refine ⟨fun s n => ∃ k2 : Nat, n = nI k2 ∧ k2 ≤ x / bL x (j + 1) ∧ s = lI (sg (fun m => (ph m : Int)) k2), fun _ n => 200002 - n.toNatClampNeg, ⟨k, rfl, hkq j (by omega), rfl⟩, ?_⟩
  rintro s n ⟨k2, rfl, hk2, rfl⟩
  have hbj := bL_le hlt (show j < T by omega)
  have hd : x / bL x (j + 1) ≤ x := Nat.div_le_self _ _
  have hd1 : 1 ≤ x / bL x (j + 1) := Nat.div_pos hbj.2 (by omega)
  have hsb := sg_ph_b k2 (by omega)
  refine ⟨pk_in j 900 (by omega), ?_⟩
  rw [nI_clamp (show j < 2 ^ 31 by omega), hlo j (by omega)]
  refine ⟨nI_ne0 (by omega) (by omega), ?_⟩
  rw [pk_div (by omega) (by omega) (by omega), nI_1]
  refine pk_le (x / bL x (j + 1)) k2 (fun z => ?_) (fun z => ?_)
  · have e1 : k2 = x / bL x (j + 1) := by omega
    rw [show (2 : Int64) = lI 2 from by decide +kernel, show (1 : Int64) = lI 1 from by decide +kernel, lI_mul, lI_sub]
    refine ⟨_, s_restM hs hM hM2 ?_, fun _ h => h⟩
    rw [lI_toInt (by omega) (by omega)]
    have e2 : 2 * sg (fun m => (ph m : Int)) k2 - 1 = cop (x / bL x (j + 1)) := by rw [cop, if_neg (by omega), e1]
    rw [e2]
    refine ⟨pk_in j 900 (by omega), ?_⟩
    rintro a2 rfl
    refine ⟨⟨j, k2, by omega, ?_, rfl, by omega, rfl, fun i hi => ?_, fun i h1 h2 => ?_⟩, ?_⟩
    · rcases Nat.eq_zero_or_pos j with w | w
      · subst w; exact Or.inl ⟨rfl, by decide⟩
      · obtain ⟨t, rfl⟩ : ∃ t, j = t + 1 := ⟨j - 1, by omega⟩
        exact Or.inr ⟨t, rfl, pk_m1 t⟩
    · rw [e1]
      refine Nat.div_le_div_left ?_ (by have := (bL_le hlt (show i < T by omega)).1; omega)
      have mono : ∀ d, i + 1 + d ≤ j + 1 → bL x (i + 1) ≤ bL x (i + 1 + d) := by
        intro d
        induction d with
        | zero => intro _; exact Nat.le_refl _
        | succ d ih =>
          intro hd2
          have h1 := ih (by omega)
          have h2 := (bL_le hlt (show i + 1 + d < T by omega)).1
          rw [← Nat.add_assoc]; omega
      have := mono (j - i) (by omega)
      rw [show i + 1 + (j - i) = j + 1 by omega] at this
      exact this
    · by_cases e : i = j
      · subst e; exact pk_uLs
      · rw [pk_uLn e]; exact ha i (by omega) h2
    · show (nI j + (-1) + 1).toNatClampNeg < (nI j + 1).toNatClampNeg
      rw [nI_1, nI_clamp (by omega)]
      rcases Nat.eq_zero_or_pos j with w | w
      · subst w; decide
      · obtain ⟨t, rfl⟩ : ∃ t, j = t + 1 := ⟨j - 1, by omega⟩
        rw [pk_m1, nI_1, nI_clamp (by omega)]; omega
  · have hp : ph (k2 + 1) ≤ k2 + 1 := phP_le _
    refine ⟨vp_in_nI (by omega) (by omega), ?_⟩
    rw [nI_clamp (by omega), hr (k2 + 1) (by omega) (by omega), lI_nI (by omega), lI_add]
    rintro s2 rfl
    exact ⟨⟨k2 + 1, rfl, by omega, rfl⟩, ms_up (by omega) (by omega)⟩
/-- the class's rows of couples -/
def cpOK (x r : Nat) (great small : Nat → Int64) : Prop := x ≤ 200000 ∧ r * r ≤ x ∧ x < (r + 1) * (r + 1) ∧ (∀ q, 1 ≤ q → q ≤ r → small q = lI (cop q)) ∧ ∀ i, 1 ≤ i → i ≤ r → great i = lI (cop (x / i))
theorem s_without {great small : Nat → Int64} {x r q lo : Nat} {Q : Int64 → Prop} (hx : x ≤ 200000) (h2 : x < (r + 1) * (r + 1)) (hr : r ≤ 447) (hq : q = 0 ∨ (q ≤ r ∧ small q = lI (cop q)) ∨ (r < q ∧ q ≤ x ∧ lo < x / q ∧ x / (x / q) = q)) (hg : ∀ j, lo < j → j ≤ r → great j = lI (cop (x / j))) (h : Q (lI (cop q))) : wX1_without (nI x) (nI r) great small (nI q) Q := by
  unfold wX1_without
  rcases hq with rfl | ⟨a, b⟩ | ⟨a, b, c, d⟩
  · refine pk_lt r 0 (fun z => by omega) (fun _ => pk_le 1 0 (fun z => by omega) (fun _ => ?_))
    have : cop 0 = 0 := rfl
    rw [this, lI_0] at h; exact h
  · refine pk_lt r q (fun z => by omega) (fun _ => pk_le 1 q (fun z => ⟨pk_in q 448 (by omega), ?_⟩) (fun z => ?_))
    · rw [nI_clamp (by omega), b]; exact h
    · obtain rfl : q = 0 := by omega
      have : cop 0 = 0 := rfl
      rw [this, lI_0] at h; exact h
  · refine pk_lt r q (fun z => ⟨nI_ne0 (by omega) (by omega), ?_⟩) (fun z => by omega)
    have hd : x / q ≤ x := Nat.div_le_self _ _
    have hd2 : x / q ≤ r := by
      have h3 : x / q ≤ x / (r + 1) := Nat.div_le_div_left (by omega) (by omega)
      have h4 : x / (r + 1) < r + 1 := (Nat.div_lt_iff_lt_mul (by omega)).mpr h2
      omega
    rw [pk_div (by omega) (by omega) (by omega)]
    rintro y rfl
    refine pk_lt (x / q) 1 (fun w => by omega) (fun _ => pk_le (x / q) r (fun _ => ⟨vp_in_nI (by omega) (by omega), ?_⟩) (fun w => by omega))
    rw [nI_clamp (by omega), hg _ c hd2, d]; exact h
theorem s_counted {xF root : Int32} {great small : Nat → Int64} {q : Nat} {Q : Int64 → Prop} (hq1 : 1 ≤ q) (hq : q ≤ 200000) (hwo : ∀ d, 2 ≤ d → d ≤ q → ∀ Q : Int64 → Prop, Q (lI (cop (q / d))) → wX1_without xF root great small (nI (q / d)) Q) (h : Q (lI (cop q))) : wX1_counted xF root great small (nI q) Q := by
  unfold wX1_counted
  rw [lI_nI (by omega), lI_mul]
  rintro x2 rfl
  have hf1 : sg (fun d => cop (q / d)) 1 = cop q := by
    show (0 : Int) + cop (q / 1) = cop q
    rw [Nat.div_one, Int.zero_add]
  refine ⟨fun s y => ∃ D : Nat, 1 ≤ D ∧ D ≤ q ∧ y = nI (D + 1) ∧ s = lI ((q : Int) * (q : Int) - (sg (fun d => cop (q / d)) D - cop q)), fun _ y => 200002 - y.toNatClampNeg, ⟨1, by omega, hq1, rfl, by rw [hf1, Int.sub_self, Int.sub_zero]⟩, ?_⟩
  rintro s y ⟨D, hD1, hD2, rfl, rfl⟩
  refine pk_lt q (D + 1) (fun z => ?_) (fun z => ⟨nI_ne0 (by omega) (by omega), ?_⟩)
  · obtain rfl : D = q := by omega
    rw [cop_sum, show (D : Int) * (D : Int) - ((D : Int) * (D : Int) - cop D) = cop D by omega]
    exact h
  · have hp := dd_q (x := q) (d := D + 1) (by omega) z
    have he := dd_ge (x := q) (d := D + 1) (by omega) z
    have he2 : q / (q / (D + 1)) ≤ q := Nat.div_le_self _ _
    rw [pk_div (by omega) (by omega) (by omega)]
    rintro x6 rfl
    refine ⟨_, s_divided (by omega) (by omega) (by omega) ?_, fun _ h => h⟩
    have hmx : (if nI (D + 1) < nI (q / (q / (D + 1))) then nI (q / (q / (D + 1))) else nI (D + 1)) = nI (q / (q / (D + 1))) := by
      by_cases c : D + 1 < q / (q / (D + 1))
      · rw [if_pos (nI_lt c (by omega))]
      · rw [if_neg (nI_nlt (by omega) (by omega))]; congr 1; omega
    rw [hmx]
    have hsame := fun k => dd_same (x := q) (d := D + 1) (k := k) (by omega) z
    generalize q / (q / (D + 1)) = e at *
    rintro m rfl
    refine ⟨_, hwo (D + 1) (by omega) z _ ?_, fun _ h => h⟩
    rw [pk_sub he, nI_1, nI_1, lI_nI (by omega), lI_mul, lI_sub]
    rintro s2 rfl y2 rfl
    refine ⟨⟨e, by omega, he2, rfl, ?_⟩, ?_⟩
    · have hblk := sg_block (f := fun d => cop (q / d)) (v := cop (q / (D + 1))) (a := D) (b := e) (by omega) (fun k h1 h2 => by
        show cop (q / k) = _
        rw [hsame k (by omega) h2])
      rw [hblk, show e - (D + 1) + 1 = e - D by omega]
      congr 1; omega
    · show 200002 - (nI (e + 1)).toNatClampNeg < 200002 - (nI (D + 1)).toNatClampNeg
      rw [nI_clamp (by omega), nI_clamp (by omega)]; omega
theorem s_reachC {great small : Nat → Int64} {x r y : Nat} {Q : Int32 → Int32 → (Nat → Int64) → (Nat → Int64) → Prop} (hc : cpOK x r great small) (hy : y ≤ 200000) (h : ∀ r' great' small', cpOK y r' great' small' → Q (nI y) (nI r') great' small') : wX1_reach (nI x) (nI r) great small (nI y) Q := by
  have hx := hc.1
  unfold wX1_reach
  refine pk_eq x y (fun e => ?_) (fun e => ⟨fun z => absurd z (nI_pos (by omega)), fun _ => pk_le y 200000 (fun _ => ?_) (fun z => by omega)⟩)
  · subst e; exact h r great small hc
  refine ⟨_, s_rootOf hy (fun s h1 h2 h3 => ?_), fun _ h => h⟩
  refine ⟨fun sm z => ∃ q : Nat, 1 ≤ q ∧ q ≤ s + 1 ∧ z = nI q ∧ ∀ j, 1 ≤ j → j < q → sm j = lI (cop j), fun _ z => 450 - z.toNatClampNeg, ⟨1, by omega, by omega, rfl, fun j a b => by omega⟩, ?_⟩
  rintro sm z ⟨q, hq1, hq2, rfl, hsm⟩
  refine pk_lt s q (fun w => ?_) (fun w => ?_)
  · refine ⟨fun gr z => ∃ i : Nat, i ≤ s ∧ z = nI i ∧ ∀ j, i < j → j ≤ s → gr j = lI (cop (y / j)), fun _ z => z.toNatClampNeg, ⟨s, Nat.le_refl s, rfl, fun j a b => by omega⟩, ?_⟩
    rintro gr z ⟨i, hi, rfl, hgr⟩
    refine pk_lt i 1 (fun w2 => h s gr sm ⟨hy, h1, h2, fun j a b => hsm j a (by omega), fun j a b => hgr j (by omega) b⟩) (fun w2 => ⟨nI_ne0 (by omega) (by omega), ?_⟩)
    have hsy : s ≤ y := Nat.le_trans (Nat.le_mul_of_pos_left s (by omega)) h1
    have hq := dd_q (x := y) (d := i) (by omega) (by omega)
    rw [pk_div (by omega) (by omega) (by omega)]
    refine ⟨_, s_counted (by omega) (by omega) (fun d hd hdq Q' hQ' => ?_) ?_, fun _ h => h⟩
    · rw [Nat.div_div_eq_div_mul] at hQ' ⊢
      refine s_without (lo := i) hy h2 h3 ?_ (fun j a b => hgr j a b) hQ'
      have hid : i * d ≤ y := by
        have := (Nat.le_div_iff_mul_le (show 0 < i by omega)).mp hdq
        rw [Nat.mul_comm]; exact this
      have hid0 : 1 ≤ i * d := Nat.mul_pos (by omega) (by omega)
      have hqq := dd_q hid0 hid
      rcases Nat.lt_or_ge s (y / (i * d)) with v | v
      · refine Or.inr (Or.inr ⟨v, hqq.2, ?_, dd_eq hid0 hid⟩)
        have h4 := dd_ge hid0 hid
        have h5 : i * 2 ≤ i * d := Nat.mul_le_mul_left i hd
        omega
      · exact Or.inr (Or.inl ⟨v, hsm _ hqq.1 (by omega)⟩)
    · refine ⟨pk_in i 448 (by omega), ?_⟩
      rintro g2 rfl
      rw [nI_clamp (by omega)]
      obtain ⟨t, rfl⟩ : ∃ t, i = t + 1 := ⟨i - 1, by omega⟩
      rw [pk_m1]
      refine ⟨⟨t, by omega, rfl, fun j a b => ?_⟩, ms_dn (by omega) (by omega)⟩
      by_cases e2 : j = t + 1
      · subst e2; exact pk_uLs
      · rw [pk_uLn e2]; exact hgr j (by omega) b
  · refine ⟨_, s_counted hq1 (by omega) (fun d hd hdq Q' hQ' => ?_) ?_, fun _ h => h⟩
    · have hqq := dd_q (x := q) (d := d) (by omega) hdq
      have hlt : q / d < q := Nat.div_lt_self (by omega) (by omega)
      exact s_without (lo := s) hy h2 h3 (Or.inr (Or.inl ⟨by omega, hsm _ hqq.1 hlt⟩)) (fun j a b => by omega) hQ'
    · refine ⟨pk_in q 448 (by omega), ?_⟩
      rintro s2 rfl
      rw [nI_clamp (by omega), nI_1]
      refine ⟨⟨q + 1, by omega, by omega, rfl, fun j a b => ?_⟩, ms_up (by omega) (by omega)⟩
      by_cases e2 : j = q
      · subst e2; exact pk_uLs
      · rw [pk_uLn e2]; exact hsm j a (by omega)
