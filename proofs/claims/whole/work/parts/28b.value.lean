/-! PURE: values by dividing -/
theorem pow_gt {p k m : Nat} (hp : 2 ≤ p) (h : p ^ k * m ≤ 200000) (hm : 0 < m) : k ≤ 17 ∧ (k = 17 → ¬ p ∣ m) := by
  have h1 : 2 ^ k ≤ p ^ k := Nat.pow_le_pow_left hp k
  have h2 : p ^ k ≤ p ^ k * m := Nat.le_mul_of_pos_right _ hm
  constructor
  · rcases Nat.lt_or_ge 17 k with z | z
    · have : 2 ^ 18 ≤ 2 ^ k := Nat.pow_le_pow_right (by omega) z
      omega
    · exact z
  · rintro rfl ⟨t, rfl⟩
    have ht : 0 < t := Nat.pos_of_ne_zero (fun z => by subst z; omega)
    have h3 : 2 ^ 17 * 2 ≤ p ^ 17 * (p * t) := Nat.mul_le_mul h1 (Nat.le_trans hp (Nat.le_mul_of_pos_right p ht))
    omega
theorem s_valueAt {bo se : Int32} {P cells : Nat → Int32} {needs K A B C N : Nat → Int32} {M n f F : Nat} {Q : Int32 → (Nat → Int32) → (Nat → Int32) → Prop} (hw : wfp F K A B) (hn : ndp F K A B needs) (hF : F ≤ 12) (hM : 2 ≤ M) (hM2 : M ≤ 1000003) (hf : f < F) (hn1 : 1 ≤ n) (hn2 : n ≤ 200000) (hpw : pw cells P) (h : ∀ cells' P', pw cells' P' → Q (nI (vV (tv K A B C N M f) M n)) cells' P') : wX4_valueAt bo (nI M) se (nI F) needs cells P A B K N C (nI f) (nI n) Q := by
  have hT : ∀ p j, tv K A B C N M f p j < M := fun p j => tv_lt hM
  have hV : ∀ q, prP (tv K A B C N M f) M n q < M := fun q => prP_lt hM q
  unfold wX4_valueAt
  refine ⟨fun cs ps x4 x6 x7 => ∃ p r : Nat, 2 ≤ p ∧ p ≤ 448 ∧ x7 = nI p ∧ x6 = nI r ∧ td n p r ∧ pw cs ps ∧ x4 = lN (prP (tv K A B C N M f) M n (p - 1)), fun _ _ _ _ x7 => 449 - x7.toNatClampNeg, ⟨2, n, by omega, by omega, rfl, rfl, td_0 hn1, hpw, ?_⟩, ?_⟩
  · have : prP (tv K A B C N M f) M n 1 = 1 := prP_to (a := 0) (by omega) (fun q hq _ h2 _ => by have := hq.1; omega)
    rw [this]; rfl
  rintro cs ps x4 x6 x7 ⟨p, r, hp1, hp2, rfl, rfl, htd, hpw1, rfl⟩
  have hr := td_le htd
  have hr1 := htd.1
  have hpp : p * p ≤ 448 * 448 := Nat.mul_le_mul hp2 hp2
  rw [pk_mul]
  refine pk_lt r (p * p) (fun z => pk_le r 1 (fun z2 => ?_) (fun z2 => ?_)) (fun z => ?_)
  · obtain rfl : r = 1 := by omega
    rw [lN_i]
    have := h cs ps hpw1
    rw [td_v_one htd hp1] at this
    exact this
  · have hrP : isP r := (td_end htd z).resolve_left (by omega)
    refine ⟨_, s_vap (k := 1) hw hn hF hM hM2 hf (by omega) (by omega) hpw1 (fun cs2 ps2 hpw2 => ?_), fun _ _ _ h => h⟩
    have h1 := hV (p - 1)
    have h2 := hT r 1
    have h3 : prP (tv K A B C N M f) M n (p - 1) * tv K A B C N M f r 1 ≤ 1000003 * 1000003 := Nat.mul_le_mul (by omega) (by omega)
    rw [nI_l (by omega), lN_mul]
    refine ⟨_, s_rest hM hM2 ?_, fun _ h => h⟩
    rw [lN_pos (by omega), ← Int.natCast_emod, Int.toNat_natCast, ← td_v_prime htd hp1 hrP]
    exact h cs2 ps2 hpw2
  · have hp447 := sq_lt (p := p) (by omega)
    refine ⟨fun x6 x8 => ∃ m k : Nat, x6 = nI m ∧ x8 = nI k ∧ r = p ^ k * m ∧ 0 < m, fun x6 _ => x6.toNatClampNeg, ⟨r, 0, rfl, rfl, by rw [Nat.pow_zero, Nat.one_mul], hr1⟩, ?_⟩
    rintro x6 x8 ⟨m, k, rfl, rfl, hrm, hm⟩
    have hk := pow_gt hp1 (show p ^ k * m ≤ 200000 by omega) hm
    have hmr : m ≤ r := by rw [hrm]; exact Nat.le_mul_of_pos_left m (Nat.pow_pos (by omega))
    refine ⟨¬ p ∣ m, pk_le 17 k (fun z2 => hk.2 (by omega)) (fun z2 => ⟨nI_ne0 (by omega) (by omega), ?_⟩), fun hJ => ?_⟩
    · rw [pk_rem (by omega) (by omega) (by omega)]
      have hmp := Nat.mod_lt m (show 0 < p by omega)
      refine pn_eq (m % p) 0 (fun e hd => e (Nat.mod_eq_zero_of_dvd hd)) (fun e => ?_)
      rintro x6 rfl
      obtain ⟨t, rfl⟩ := Nat.dvd_of_mod_eq_zero e
      rw [pk_div (by omega) (by omega) (by omega), Nat.mul_div_cancel_left t (by omega), nI_1]
      have ht : 0 < t := Nat.pos_of_ne_zero (fun z => by subst z; omega)
      have htp : 2 * t ≤ p * t := Nat.mul_le_mul_right t hp1
      refine ⟨⟨t, k + 1, rfl, rfl, by rw [hrm, Nat.pow_succ, Nat.mul_assoc], ht⟩, ms_dn (by omega) (by omega)⟩
    · rw [nI_1]
      refine pk_le k 0 (fun z2 => ?_) (fun z2 => ?_)
      · obtain rfl : k = 0 := by omega
        rw [Nat.pow_zero, Nat.one_mul] at hrm
        subst hrm
        refine ⟨⟨p + 1, r, by omega, by omega, rfl, rfl, td_next htd hJ, hpw1, ?_⟩, ms_up (by omega) (by omega)⟩
        rw [Nat.add_sub_cancel, td_v_no htd hp1 hJ]
      · have hd : p ∣ r := by
          rw [hrm]
          exact Nat.dvd_mul_right_of_dvd (by obtain ⟨j, rfl⟩ : ∃ j, k = j + 1 := ⟨k - 1, by omega⟩; rw [Nat.pow_succ]; exact Nat.dvd_mul_left _ _) m
        have hP := td_isP htd hp1 hd
        refine ⟨_, s_vap hw hn hF hM hM2 hf hk.1 (by omega) hpw1 (fun cs2 ps2 hpw2 => ?_), fun _ _ _ h => h⟩
        have h1 := hV (p - 1)
        have h2 := hT p k
        have h3 : prP (tv K A B C N M f) M n (p - 1) * tv K A B C N M f p k ≤ 1000003 * 1000003 := Nat.mul_le_mul (by omega) (by omega)
        rw [nI_l (by omega), lN_mul]
        refine ⟨_, s_rest hM hM2 ?_, fun _ h => h⟩
        have h4 : prP (tv K A B C N M f) M n (p - 1) * tv K A B C N M f p k % M < M := Nat.mod_lt _ (by omega)
        rw [lN_pos (by omega), ← Int.natCast_emod, Int.toNat_natCast, nI_l (by omega)]
        rintro x4 rfl
        refine ⟨⟨p + 1, m, by omega, by omega, rfl, rfl, td_div htd hP hrm hJ, hpw2, ?_⟩, ms_up (by omega) (by omega)⟩
        have hvp : vp p r = k := by rw [hrm]; exact vp_pow_mul k hp1 hm hJ
        rw [Nat.add_sub_cancel, td_v_yes htd hp1 hd, hvp]
theorem s_valueAtM {qth qta qli qsi qat qpl qso qva qfa qfp qlf qlp qun qhi qro qar qiS qbl qdr : Int32} {P table : Nat → Int64} {so fi se sb sF K A B C N : Nat → Int32} {M n f F : Nat} {Q : Int64 → (Nat → Int64) → (Nat → Int64) → Prop} (hw : wfp F K A B) (hR : pmR F K A B C N so fi se sb sF) (hs : sF 1 = nI M) (hF : F ≤ 12) (hM : 2 ≤ M) (hM2 : M ≤ 1000003) (hf : f < F) (hn1 : 1 ≤ n) (hn2 : n ≤ 200000) (h : ∀ P' table', Q (lN (vV (tv K A B C N M f) M n)) P' table') : wX11_valueAt qth qta qli qsi qat qpl qso qva qfa qfp qlf qlp qun qhi qro qar qiS qbl qdr P table so sF fi se sb (nI f) (nI n) Q := by
  have hT : ∀ p j, tv K A B C N M f p j < M := fun p j => tv_lt hM
  have hV : ∀ q, prP (tv K A B C N M f) M n q < M := fun q => prP_lt hM q
  have hMl : (sF 1).toInt64 = lN M := by rw [hs]; exact nI_l (by omega)
  have hM0 : ¬ lN M = 0 := fun e => by have := (lN_eq (a := M) (b := 0) (by omega) (by omega)).mp e; omega
  unfold wX11_valueAt
  rw [hMl]
  refine ⟨fun ps tb x3 x5 x6 => ∃ p r : Nat, 2 ≤ p ∧ p ≤ 448 ∧ x6 = nI p ∧ x5 = nI r ∧ td n p r ∧ x3 = lN (prP (tv K A B C N M f) M n (p - 1)), fun _ _ _ _ x6 => 449 - x6.toNatClampNeg, ⟨2, n, by omega, by omega, rfl, rfl, td_0 hn1, ?_⟩, ?_⟩
  · have : prP (tv K A B C N M f) M n 1 = 1 := prP_to (a := 0) (by omega) (fun q hq _ h2 _ => by have := hq.1; omega)
    rw [this]; rfl
  rintro ps tb x3 x5 x6 ⟨p, r, hp1, hp2, rfl, rfl, htd, rfl⟩
  have hr := td_le htd
  have hr1 := htd.1
  have hpp : p * p ≤ 448 * 448 := Nat.mul_le_mul hp2 hp2
  rw [pk_mul, show (18 : Int32) = nI 18 from rfl, pk_mul]
  refine pk_lt r (p * p) (fun z => pk_le r 1 (fun z2 => ?_) (fun z2 => ?_)) (fun z => ?_)
  · obtain rfl : r = 1 := by omega
    have := h ps tb
    rw [td_v_one htd hp1] at this
    exact this
  · have hrP : isP r := (td_end htd z).resolve_left (by omega)
    refine ⟨_, s_laysPowers (k := 1) hw hR hs hF hM hM2 hf (by omega) (by omega) (fun ps2 tb2 htb => ?_), fun _ _ h => h⟩
    have h1 := hV (p - 1)
    have h2 := hT r 1
    have h3 : prP (tv K A B C N M f) M n (p - 1) * tv K A B C N M f r 1 ≤ 1000003 * 1000003 := Nat.mul_le_mul (by omega) (by omega)
    rw [nI_1, nI_clamp (by omega), htb f (by omega) 1 (by omega), lN_mul]
    refine ⟨vp_in_nI (by omega) (by omega), hM0, ?_⟩
    rintro t rfl
    rw [pk_lRem (by omega) (by omega) (by omega), ← td_v_prime htd hp1 hrP]
    exact h ps2 tb2
  · have hp447 := sq_lt (p := p) (by omega)
    refine ⟨fun x5 x7 => ∃ m k : Nat, x5 = nI m ∧ x7 = nI k ∧ r = p ^ k * m ∧ 0 < m, fun x5 _ => x5.toNatClampNeg, ⟨r, 0, rfl, rfl, by rw [Nat.pow_zero, Nat.one_mul], hr1⟩, ?_⟩
    rintro x5 x7 ⟨m, k, rfl, rfl, hrm, hm⟩
    have hk := pow_gt hp1 (show p ^ k * m ≤ 200000 by omega) hm
    have hmr : m ≤ r := by rw [hrm]; exact Nat.le_mul_of_pos_left m (Nat.pow_pos (by omega))
    refine ⟨nI_ne0 (by omega) (by omega), ?_⟩
    rw [pk_rem (by omega) (by omega) (by omega)]
    have hmp := Nat.mod_lt m (show 0 < p by omega)
    refine pn_eq (m % p) 0 (fun e => ?_) (fun e => ?_)
    · have hJ : ¬ p ∣ m := fun hd => e (Nat.mod_eq_zero_of_dvd hd)
      rw [nI_1]
      refine pn_eq k 0 (fun z2 => ?_) (fun z2 => ?_)
      · have hd : p ∣ r := by
          rw [hrm]
          exact Nat.dvd_mul_right_of_dvd (by obtain ⟨j, rfl⟩ : ∃ j, k = j + 1 := ⟨k - 1, by omega⟩; rw [Nat.pow_succ]; exact Nat.dvd_mul_left _ _) m
        have hP := td_isP htd hp1 hd
        refine ⟨_, s_laysPowers hw hR hs hF hM hM2 hf hk.1 (by omega) (fun ps2 tb2 htb => ?_), fun _ _ h => h⟩
        have h1 := hV (p - 1)
        have h2 := hT p k
        have h3 : prP (tv K A B C N M f) M n (p - 1) * tv K A B C N M f p k ≤ 1000003 * 1000003 := Nat.mul_le_mul (by omega) (by omega)
        have hk17 := hk.1
        rw [nI_add, nI_clamp (by omega), htb f (by omega) k (by omega), lN_mul]
        refine ⟨vp_in_nI (by omega) (by omega), hM0, ?_⟩
        rintro t rfl
        rw [pk_lRem (by omega) (by omega) (by omega)]
        refine ⟨⟨p + 1, m, by omega, by omega, rfl, rfl, td_div htd hP hrm hJ, ?_⟩, ms_up (by omega) (by omega)⟩
        have hvp : vp p r = k := by rw [hrm]; exact vp_pow_mul k hp1 hm hJ
        rw [Nat.add_sub_cancel, td_v_yes htd hp1 hd, hvp]
      · obtain rfl : k = 0 := z2
        rw [Nat.pow_zero, Nat.one_mul] at hrm
        subst hrm
        refine ⟨⟨p + 1, r, by omega, by omega, rfl, rfl, td_next htd hJ, ?_⟩, ms_up (by omega) (by omega)⟩
        rw [Nat.add_sub_cancel, td_v_no htd hp1 hJ]
    · rintro x5 rfl
      obtain ⟨t, rfl⟩ := Nat.dvd_of_mod_eq_zero e
      rw [pk_div (by omega) (by omega) (by omega), Nat.mul_div_cancel_left t (by omega), nI_1]
      have ht : 0 < t := Nat.pos_of_ne_zero (fun z => by subst z; omega)
      have htp : 2 * t ≤ p * t := Nat.mul_le_mul_right t hp1
      refine ⟨⟨t, k + 1, rfl, rfl, by rw [hrm, Nat.pow_succ, Nat.mul_assoc], ht⟩, ms_dn (by omega) (by omega)⟩
