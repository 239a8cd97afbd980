/-! PURE: the reference's row of values and sums -/
theorem s_powerIn {n p : Nat} {Q : Int32 → Prop} (hp : 2 ≤ p) (hp2 : p ≤ 200000) (hn : 1 ≤ n) (hn2 : n ≤ 200000) (h : vp p n ≤ 17 → Q (nI (vp p n))) : wX11_powerIn (nI n) (nI p) Q := by
  unfold wX11_powerIn
  refine ⟨fun x2 x3 => ∃ k m : Nat, x2 = nI k ∧ x3 = nI m ∧ n = p ^ k * m ∧ 0 < m, fun _ x3 => x3.toNatClampNeg, ⟨0, n, rfl, rfl, by rw [Nat.pow_zero, Nat.one_mul], hn⟩, ?_⟩
  rintro x2 x3 ⟨k, m, rfl, rfl, hnm, hm⟩
  have hk := pow_gt hp (show p ^ k * m ≤ 200000 by omega) hm
  have hmn : m ≤ n := by rw [hnm]; exact Nat.le_mul_of_pos_left m (Nat.pow_pos (by omega))
  refine ⟨nI_ne0 (by omega) (by omega), ?_⟩
  rw [pk_rem (by omega) (by omega) (by omega)]
  have hmp := Nat.mod_lt m (show 0 < p by omega)
  refine pn_eq (m % p) 0 (fun e => ?_) (fun e => ?_)
  · have hv : vp p n = k := by rw [hnm]; exact vp_pow_mul k hp hm (fun hd => e (Nat.mod_eq_zero_of_dvd hd))
    rw [hv] at h
    exact h hk.1
  · rintro x rfl
    obtain ⟨t, rfl⟩ := Nat.dvd_of_mod_eq_zero e
    rw [pk_div (by omega) (by omega) (by omega), Nat.mul_div_cancel_left t (by omega), nI_1]
    have ht : 0 < t := Nat.pos_of_ne_zero (fun z => by subst z; omega)
    have htp : 2 * t ≤ p * t := Nat.mul_le_mul_right t hp
    exact ⟨⟨k + 1, t, rfl, rfl, by rw [hnm, Nat.pow_succ, Nat.mul_assoc], ht⟩, ms_dn (by omega) (by omega)⟩
theorem s_mostPower {n p : Nat} {Q : Int32 → Prop} (hp : 2 ≤ p) (hp2 : p ≤ 200000) (hn : 1 ≤ n) (hn2 : n ≤ 200000) (h : ∀ k, k ≤ 17 → (∀ i, p ^ i ≤ n → i ≤ k) → Q (nI k)) : wX11_mostPower (nI p) (nI n) Q := by
  unfold wX11_mostPower
  refine ⟨fun x2 x3 => ∃ k r : Nat, x2 = nI k ∧ x3 = nI r ∧ r = n / p ^ k ∧ p ^ k ≤ n, fun _ x3 => x3.toNatClampNeg, ⟨0, n, rfl, rfl, by rw [Nat.pow_zero, Nat.div_one], by rw [Nat.pow_zero]; exact hn⟩, ?_⟩
  rintro x2 x3 ⟨k, r, rfl, rfl, rfl, hb⟩
  have hpk : 0 < p ^ k := Nat.pow_pos (by omega)
  have hk := pow_gt (m := 1) hp (show p ^ k * 1 ≤ 200000 by omega) (by omega)
  have hr : n / p ^ k ≤ n := Nat.div_le_self _ _
  refine pk_lt (n / p ^ k) p (fun z => h k hk.1 (fun i hi => ?_)) (fun z => ⟨nI_ne0 (by omega) (by omega), ?_⟩)
  · rcases Nat.lt_or_ge k i with w | w
    · have h1 : p ^ (k + 1) ≤ p ^ i := Nat.pow_le_pow_right (by omega) w
      rw [Nat.pow_succ] at h1
      have := (Nat.le_div_iff_mul_le hpk).mpr (show p * p ^ k ≤ n by rw [Nat.mul_comm]; omega)
      omega
    · exact w
  · rw [pk_div (by omega) (by omega) (by omega), nI_1]
    rintro x rfl
    refine ⟨⟨k + 1, n / p ^ k / p, rfl, rfl, by rw [Nat.div_div_eq_div_mul, Nat.pow_succ], ?_⟩, ms_dn (Nat.div_lt_self (by omega) (by omega)) (by omega)⟩
    have := (Nat.le_div_iff_mul_le hpk).mp z
    rw [Nat.pow_succ, Nat.mul_comm]; exact this
/-- the reference's row, where it is of use -/
def rcOK (F : Nat) (K A B C N : Nat → Int32) (M Bd : Nat) (ro ar : Int32) (row : Nat → Int32) : Prop := ∀ f, f < F → ro = nI f → (ar = 0 ∧ row 0 = 0 ∧ ∀ n, 1 ≤ n → n ≤ Bd → row n = nI (vV (tv K A B C N M f) M n)) ∨ (ar = 1 ∧ ∀ n, n ≤ Bd → row n = nI (sV (tv K A B C N M f) M n))
theorem s_laysValues {qth qta qli qsi qat qpl qso qva qfa qfp qlf qlp qun qhi qro qar qiS qbl qdr : Int32} {P table : Nat → Int64} {row marks so fi se sb sF K A B C N : Nat → Int32} {M Bd f F : Nat} {Q : Int32 → Int32 → (Nat → Int32) → (Nat → Int64) → (Nat → Int64) → Prop} (hw : wfp F K A B) (hR : pmR F K A B C N so fi se sb sF) (hs0 : sF 0 = nI Bd) (hs : sF 1 = nI M) (hB : 1 ≤ Bd) (hB2 : Bd ≤ 200000) (hF : F ≤ 12) (hM : 2 ≤ M) (hM2 : M ≤ 1000003) (hf : f < F) (hmk : mkOK marks) (hrc : rcOK F K A B C N M Bd qro qar row) (h : ∀ row' P' table', row' 0 = 0 → (∀ n, 1 ≤ n → n ≤ Bd → row' n = nI (vV (tv K A B C N M f) M n)) → Q (nI f) 0 row' P' table') : wX11_laysValues qth qta qli qsi qat qpl qso qva qfa qfp qlf qlp qun qhi qro qar qiS qbl qdr sF row marks P table so fi se sb (nI f) Q := by
  have hT : ∀ p j, tv K A B C N M f p j < M := fun p j => tv_lt hM
  have hMl : (sF 1).toInt64 = lN M := by rw [hs]; exact nI_l (by omega)
  have hM0 : ¬ lN M = 0 := fun e => by have := (lN_eq (a := M) (b := 0) (by omega) (by omega)).mp e; omega
  unfold wX11_laysValues
  rw [hMl, hs0]
  refine ⟨True, ⟨fun _ => trivial, fun e => ⟨fun _ => trivial, fun e2 => ?_⟩⟩, fun _ => ?_⟩
  · rcases hrc f hf e with ⟨a1, a0, a2⟩ | ⟨a1, a2⟩
    · rw [e, e2]; exact h row P table a0 a2
    · rw [e2] at a1; exact absurd a1 (by decide)
  rintro x2 rfl
  refine ⟨fun r x => ∃ j : Nat, j ≤ Bd + 1 ∧ x = nI j ∧ ∀ n, n < j → r n = 1, fun _ x => 200002 - x.toNatClampNeg, ⟨0, by omega, rfl, fun n hn => by omega⟩, ?_⟩
  rintro r x ⟨j, hj, rfl, hr⟩
  refine pk_lt Bd j (fun z => ?_) (fun z => ⟨pk_in j 200001 (by omega), ?_⟩)
  · refine ⟨fun ps r tb x => ∃ p : Nat, 2 ≤ p ∧ p ≤ Bd + 2 ∧ x = nI p ∧ ∀ n, 1 ≤ n → n ≤ Bd → r n = nI (prP (tv K A B C N M f) M n (p - 1)), fun _ _ _ x => 200003 - x.toNatClampNeg, ⟨2, by omega, by omega, rfl, fun n h1 h2 => ?_⟩, ?_⟩
    · have : prP (tv K A B C N M f) M n 1 = 1 := prP_to (a := 0) (by omega) (fun q hq _ h2 _ => by have := hq.1; omega)
      rw [hr n (by omega), this]; rfl
    rintro ps r tb x ⟨p, hp1, hp2, rfl, hr⟩
    refine pk_lt Bd p (fun z2 => ?_) (fun z2 => ?_)
    · rintro r2 rfl
      refine h _ _ _ pk_us (fun n h1 h2 => ?_)
      rw [pk_un (by omega), hr n h1 h2]
      exact congrArg nI (prP_top h1 (fun q hq h3 h4 => by have := Nat.le_of_dvd h1 h4; omega)).symm
    · rw [nI_1]
      refine ⟨_, s_isPrimeM hmk (by omega) (fun hnp => ?_) (fun hP => ?_), fun _ h => h⟩
      · refine b0 ⟨⟨p + 1, by omega, by omega, rfl, fun n h1 h2 => ?_⟩, ms_up (by omega) (by omega)⟩
        obtain ⟨q, rfl⟩ : ∃ q, p = q + 1 := ⟨p - 1, by omega⟩
        rw [Nat.add_sub_cancel, prP_no (fun w => hnp w.1)]
        have := hr n h1 h2
        rw [Nat.add_sub_cancel] at this; exact this
      · refine b1 ⟨_, s_mostPower hp1 (by omega) hB hB2 (fun k hk hki => ?_), fun _ h => h⟩
        refine ⟨_, s_laysPowers hw hR hs hF hM hM2 hf hk (by omega) (fun ps2 tb2 htb => ?_), fun _ _ h => h⟩
        refine ⟨fun r3 x => ∃ j : Nat, p ∣ j ∧ 1 ≤ j ∧ j ≤ Bd + p ∧ x = nI j ∧ ∀ n, 1 ≤ n → n ≤ Bd → r3 n = nI (if p ∣ n ∧ n < j then prP (tv K A B C N M f) M n p else prP (tv K A B C N M f) M n (p - 1)), fun _ x => 400010 - x.toNatClampNeg, ⟨p, Nat.dvd_refl p, by omega, by omega, rfl, fun n h1 h2 => ?_⟩, ?_⟩
        · rw [if_neg (fun w => by have := Nat.le_of_dvd h1 w.1; omega)]; exact hr n h1 h2
        rintro r3 x ⟨j, hj1, hj2, hj3, rfl, hr3⟩
        refine pk_lt Bd j (fun z3 => ?_) (fun z3 => ⟨pk_in j 200001 (by omega), ?_⟩)
        · refine ⟨⟨p + 1, by omega, by omega, rfl, fun n h1 h2 => ?_⟩, ms_up (by omega) (by omega)⟩
          rw [hr3 n h1 h2, Nat.add_sub_cancel]
          by_cases e : p ∣ n
          · rw [if_pos ⟨e, by omega⟩]
          · rw [if_neg (fun w => e w.1)]
            obtain ⟨q, rfl⟩ : ∃ q, p = q + 1 := ⟨p - 1, by omega⟩
            rw [Nat.add_sub_cancel, prP_no (fun w => e w.2)]
        · refine ⟨_, s_powerIn hp1 (by omega) hj2 (by omega) (fun hv17 => ?_), fun _ h => h⟩
          have hvk : vp p j ≤ k := hki _ (by
            obtain ⟨m, e1, -, e2⟩ := vp_split hp1 j hj2
            have := Nat.le_mul_of_pos_right (p ^ vp p j) e2
            omega)
          rw [show (18 : Int32) = nI 18 from rfl, pk_mul, nI_add]
          refine ⟨vp_in_nI (by omega) (by omega), ?_⟩
          have h1 := prP_lt (g := tv K A B C N M f) (n := j) hM (p - 1)
          have h2 := hT p (vp p j)
          have h3 : prP (tv K A B C N M f) M j (p - 1) * tv K A B C N M f p (vp p j) ≤ 1000003 * 1000003 := Nat.mul_le_mul (by omega) (by omega)
          rw [nI_clamp (by omega), nI_clamp (by omega), hr3 j hj2 z3, if_neg (by omega), htb f (Nat.le_refl f) _ hvk, nI_l (by omega), lN_mul]
          rintro t rfl
          refine ⟨hM0, ?_⟩
          rw [pk_lRem (by omega) (by omega) (by omega), lN_i, nI_add]
          rintro e rfl
          refine ⟨vp_in_nI (by omega) (by omega), ?_⟩
          rintro r5 rfl x5 rfl
          refine ⟨⟨j + p, Nat.dvd_add hj1 (Nat.dvd_refl p), by omega, by omega, rfl, fun n h1 h2 => ?_⟩, ?_⟩
          · by_cases e : n = j
            · subst e
              rw [pk_us, if_pos ⟨hj1, by omega⟩, prP_yes hP hj1]
            · rw [pk_un e, hr3 n h1 h2]
              by_cases e2 : p ∣ n ∧ n < j
              · rw [if_pos e2, if_pos ⟨e2.1, by omega⟩]
              · rw [if_neg e2, if_neg (fun w => ?_)]
                rcases Nat.lt_or_ge n j with y | y
                · exact e2 ⟨w.1, y⟩
                · exact e (mult_gap w.1 hj1 y w.2)
          · show 400010 - (nI (j + p)).toNatClampNeg < 400010 - (nI j).toNatClampNeg
            rw [nI_clamp (by omega), nI_clamp (by omega)]; omega
  · rw [nI_clamp (by omega), nI_1]
    rintro r2 rfl
    refine ⟨⟨j + 1, by omega, rfl, fun n hn => ?_⟩, ms_up (by omega) (by omega)⟩
    by_cases e : n = j
    · subst e; exact pk_us
    · rw [pk_un e]; exact hr n (by omega)
theorem s_laysSums {qth qta qli qsi qat qpl qso qva qfa qfp qlf qlp qun qhi qro qar qiS qbl qdr : Int32} {P table : Nat → Int64} {row marks so fi se sb sF K A B C N : Nat → Int32} {M Bd f F : Nat} {Q : Int32 → Int32 → (Nat → Int32) → (Nat → Int64) → (Nat → Int64) → Prop} (hw : wfp F K A B) (hR : pmR F K A B C N so fi se sb sF) (hs0 : sF 0 = nI Bd) (hs : sF 1 = nI M) (hB : 1 ≤ Bd) (hB2 : Bd ≤ 200000) (hF : F ≤ 12) (hM : 2 ≤ M) (hM2 : M ≤ 1000003) (hf : f < F) (hmk : mkOK marks) (hrc : rcOK F K A B C N M Bd qro qar row) (h : ∀ row' P' table', (∀ n, n ≤ Bd → row' n = nI (sV (tv K A B C N M f) M n)) → Q (nI f) 1 row' P' table') : wX11_laysSums qth qta qli qsi qat qpl qso qva qfa qfp qlf qlp qun qhi qro qar qiS qbl qdr sF row marks P table so fi se sb (nI f) Q := by
  unfold wX11_laysSums
  refine ⟨True, ⟨fun _ => trivial, fun e => ⟨fun _ => trivial, fun e2 => ?_⟩⟩, fun _ => ?_⟩
  · rcases hrc f hf e with ⟨a1, a0, a2⟩ | ⟨a1, a2⟩
    · exact absurd a1 e2
    · rw [e, a1]; exact h row P table a2
  refine ⟨_, s_laysValues hw hR hs0 hs hB hB2 hF hM hM2 hf hmk hrc (fun row1 P1 t1 h0 hv => ?_), fun _ _ _ _ _ h => h⟩
  rw [hs0, hs]
  refine ⟨fun r x => ∃ j : Nat, 1 ≤ j ∧ j ≤ Bd + 1 ∧ x = nI j ∧ (∀ n, n < j → r n = nI (sV (tv K A B C N M f) M n)) ∧ ∀ n, j ≤ n → n ≤ Bd → r n = nI (vV (tv K A B C N M f) M n), fun _ x => 200002 - x.toNatClampNeg, ⟨1, by omega, by omega, rfl, fun n hn => ?_, fun n h1 h2 => hv n h1 h2⟩, ?_⟩
  · obtain rfl : n = 0 := by omega
    rw [h0]; rfl
  rintro r x ⟨j, hj1, hj2, rfl, hr1, hr2⟩
  refine pk_lt Bd j (fun z => h r P1 t1 (fun n hn => hr1 n (by omega))) (fun z => ⟨pk_in j 200001 (by omega), ?_⟩)
  rw [show nI j - 1 = nI (j - 1) from pk_sub (b := 1) hj1]
  refine ⟨vp_in_nI (by omega) (by omega), nI_ne0 (by omega) (by omega), ?_⟩
  have h1 := vV_lt (g := tv K A B C N M f) (n := j) hM
  have h2 := sV_lt (g := tv K A B C N M f) hM (j - 1)
  rw [nI_clamp (by omega), nI_clamp (by omega), hr2 j (Nat.le_refl j) z, hr1 (j - 1) (by omega), nI_add, pk_rem (by omega) (by omega) (by omega), nI_1]
  rintro t rfl r3 rfl
  refine ⟨⟨j + 1, by omega, by omega, rfl, fun n hn => ?_, fun n h3 h4 => by rw [pk_un (by omega)]; exact hr2 n (by omega) h4⟩, ms_up (by omega) (by omega)⟩
  by_cases e : n = j
  · subst e
    obtain ⟨q, rfl⟩ : ∃ q, n = q + 1 := ⟨n - 1, by omega⟩
    rw [pk_us, Nat.add_sub_cancel, Nat.add_comm]; rfl
  · rw [pk_un e]; exact hr1 n (by omega)
