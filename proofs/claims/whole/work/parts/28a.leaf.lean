/-! PURE: what the small methods answer -/
theorem sq_lt {p : Nat} (h : p * p ≤ 200000) : p ≤ 447 := by
  rcases Nat.lt_or_ge 447 p with z | z
  · have := Nat.mul_le_mul z z; omega
  · exact z
theorem ms_dn {a b : Nat} (h : a < b) (hb : b < 2 ^ 31) : (nI a).toNatClampNeg < (nI b).toNatClampNeg := by rw [nI_clamp (by omega), nI_clamp (by omega)]; exact h
theorem s_divided {a d : Nat} {Q : Int32 → Prop} (ha : a < 2 ^ 31) (h0 : 1 ≤ d) (hd : d < 2 ^ 31) (h : Q (nI (a / d))) : wX10_divided (nI a) (nI d) Q := by
  unfold wX10_divided
  exact pk_le 1 d (fun _ => ⟨nI_ne0 h0 hd, by rw [pk_div ha h0 hd]; exact h⟩) (fun z => by omega)
theorem s_rootOf {x : Nat} {Q : Int32 → Prop} (hx : x ≤ 200000) (h : ∀ r : Nat, r * r ≤ x → x < (r + 1) * (r + 1) → r ≤ 447 → Q (nI r)) : wX10_rootOf (nI x) Q := by
  unfold wX10_rootOf
  refine ⟨fun r c => ∃ (a e : Nat), r = nI a ∧ c = nI (2 ^ e / 2) ∧ a * a ≤ x ∧ x < (a + 2 ^ e) * (a + 2 ^ e) ∧ a + 2 ^ e ≤ 512, fun _ c => c.toNatClampNeg, ⟨0, 9, rfl, rfl, by omega, by omega, by omega⟩, ?_⟩
  rintro r c ⟨a, e, rfl, rfl, h1, h2, h3⟩
  cases e with
  | zero =>
    refine pk_le 0 0 (fun _ => h a h1 h2 (sq_lt (by omega))) (fun z => by omega)
  | succ t =>
    have e1 : 2 ^ (t + 1) = 2 * 2 ^ t := by rw [Nat.pow_succ, Nat.mul_comm]
    rw [e1] at h2 h3
    have e2 : 2 ^ (t + 1) / 2 = 2 ^ t := by rw [e1, Nat.mul_div_cancel_left _ (by omega)]
    rw [e2]
    have ht : 0 < 2 ^ t := Nat.pow_pos (by omega)
    refine pk_le (2 ^ t) 0 (fun z => by omega) (fun z => ?_)
    rintro y rfl
    rw [nI_add, pk_mul, show (2 : Int32) = nI 2 from rfl, pk_div (by omega) (by omega) (by omega)]
    have hsz : (a + 2 ^ t) * (a + 2 ^ t) ≤ 512 * 512 := Nat.mul_le_mul (by omega) (by omega)
    have hm : (nI (2 ^ t / 2)).toNatClampNeg < (nI (2 ^ t)).toNatClampNeg := by rw [nI_clamp (by omega), nI_clamp (by omega)]; omega
    refine pk_lt x ((a + 2 ^ t) * (a + 2 ^ t)) (fun q => ?_) (fun q => ?_)
    · rintro c2 rfl
      exact ⟨⟨a, t, rfl, rfl, h1, q, by omega⟩, hm⟩
    · rintro c2 rfl
      refine ⟨⟨a + 2 ^ t, t, rfl, rfl, q, ?_, by omega⟩, hm⟩
      rw [show a + 2 ^ t + 2 ^ t = a + 2 * 2 ^ t by omega]; exact h2
theorem s_find {bo mo se a : Int32} {F : Nat} {names : Nat → Int32} {Q : Int32 → Prop} (hF : F ≤ 12) (h0 : (∀ j, j < F → names j ≠ a) → Q (-1)) (h1 : ∀ j, j < F → names j = a → (∀ i, i < j → names i ≠ a) → Q (nI j)) : wX3_find bo mo se (nI F) names a Q := by
  unfold wX3_find
  refine ⟨fun x => ∃ j : Nat, j ≤ F ∧ x = nI j ∧ ∀ i, i < j → names i ≠ a, fun x => F - x.toNatClampNeg, ⟨0, by omega, rfl, fun i hi => by omega⟩, ?_⟩
  rintro x ⟨j, hj, rfl, hn⟩
  refine pk_le F j (fun z => h0 (fun i hi => hn i (by omega))) (fun z => ⟨pk_in j 12 (by omega), ?_⟩)
  rw [nI_clamp (show j < 2 ^ 31 by omega), nI_1]
  refine ⟨fun hne => ⟨⟨j + 1, by omega, rfl, fun i hi => ?_⟩, ms_up z (by omega)⟩, fun he => h1 j z he hn⟩
  rcases Nat.lt_or_ge i j with q | q
  · exact hn i q
  · have : i = j := by omega
    subst this; exact hne
theorem s_namedAt {qth qta qli qsi qat qpl qso qva qfa qfp qlf qlp qun qhi qro qar qiS qbl qdr : Int32} {a fr : Int32} {F p : Nat} {name : Nat → Int32} {Q : Int32 → Prop} (hfr : fr = nI p) (hp : p + F ≤ 24) (h0 : (∀ j, j < F → name (p + j) ≠ a) → Q (-1)) (h1 : ∀ j, j < F → name (p + j) = a → (∀ i, i < j → name (p + i) ≠ a) → Q (nI j)) : wX11_namedAt qth qta qli qsi qat qpl qso qva qfa qfp qlf qlp qun qhi qro qar qiS qbl qdr name fr (nI F) a Q := by
  unfold wX11_namedAt
  subst hfr
  refine ⟨fun x => ∃ j : Nat, j ≤ F ∧ x = nI j ∧ ∀ i, i < j → name (p + i) ≠ a, fun x => F - x.toNatClampNeg, ⟨0, by omega, rfl, fun i hi => by omega⟩, ?_⟩
  rintro x ⟨j, hj, rfl, hn⟩
  refine pk_le F j (fun z => h0 (fun i hi => hn i (by omega))) (fun z => ?_)
  rw [nI_add]
  refine ⟨pk_in (p + j) 24 (by omega), ?_⟩
  rw [nI_clamp (show p + j < 2 ^ 31 by omega), nI_1]
  refine ⟨fun hne => ⟨⟨j + 1, by omega, rfl, fun i hi => ?_⟩, ms_up z (by omega)⟩, fun he => h1 j z he hn⟩
  rcases Nat.lt_or_ge i j with q | q
  · exact hn i q
  · have : i = j := by omega
    subst this; exact hne
