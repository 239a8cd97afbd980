/-! PURE: quotients and blocks in the class and in the reference -/
theorem rt_ex (x : Nat) : ∃ r, r * r ≤ x ∧ x < (r + 1) * (r + 1) := by
  obtain ⟨r, h1, h2⟩ := pk_least (fun k => x < (k + 1) * (k + 1)) ⟨x, by
    have : 1 * (x + 1) ≤ (x + 1) * (x + 1) := Nat.mul_le_mul_right _ (by omega)
    omega⟩
  refine ⟨r, ?_, h1⟩
  cases r with
  | zero => omega
  | succ k => exact Nat.le_of_not_lt (h2 k (by omega))
theorem rt_one {x r s : Nat} (h1 : r * r ≤ x) (h2 : x < (r + 1) * (r + 1)) (h3 : s * s ≤ x) (h4 : x < (s + 1) * (s + 1)) : r = s := by
  rcases Nat.lt_or_ge r s with z | z
  · have := Nat.mul_le_mul (show r + 1 ≤ s from z) (show r + 1 ≤ s from z); omega
  · rcases Nat.lt_or_ge s r with y | y
    · have := Nat.mul_le_mul (show s + 1 ≤ r from y) (show s + 1 ≤ r from y); omega
    · omega
theorem rt_0 {x r : Nat} (h2 : x < (r + 1) * (r + 1)) (hx : 1 ≤ x) : 1 ≤ r := by
  rcases Nat.eq_zero_or_pos r with z | z
  · subst z; omega
  · exact z
theorem qT_b {x r : Nat} (hx : x ≤ 200000) (h1 : r * r ≤ x) (h2 : x < (r + 1) * (r + 1)) : qT x r ≤ 894 ∧ r ≤ 447 ∧ (x = 0 → qT x r = 0) := by
  have hr := sq_lt (p := r) (by omega)
  refine ⟨?_, hr, ?_⟩
  · rw [qT]; split <;> omega
  · rintro rfl
    have : r = 0 := by
      rcases Nat.eq_zero_or_pos r with z | z
      · exact z
      · have := Nat.mul_le_mul z z; omega
    subst this; rfl
theorem s_quotientTotal {x r : Nat} {Q : Int32 → Prop} (hx : 1 ≤ x) (hx2 : x ≤ 200000) (h1 : r * r ≤ x) (h2 : x < (r + 1) * (r + 1)) (h : Q (nI (qT x r))) : wX10_quotientTotal (nI x) Q := by
  unfold wX10_quotientTotal
  refine ⟨_, s_rootOf hx2 (fun s h3 h4 h5 => ?_), fun _ h => h⟩
  obtain rfl := rt_one h1 h2 h3 h4
  have h0 := rt_0 h2 hx
  have hd : x / r ≤ x := Nat.div_le_self _ _
  refine ⟨_, s_divided (by omega) h0 (by omega) ?_, fun _ h => h⟩
  rw [qT] at h
  rw [show (2 : Int32) * nI r = nI (2 * r) from pk_mul 2 r, show nI (2 * r) - 1 = nI (2 * r - 1) from pk_sub (b := 1) (by omega)]
  refine pn_eq (x / r) r (fun e => ?_) (fun e => ?_)
  · rw [if_neg e] at h; exact h
  · rw [if_pos e] at h; exact h
theorem s_quotientAt {x r i : Nat} {Q : Int32 → Prop} (hx : 1 ≤ x) (hx2 : x ≤ 200000) (h1 : r * r ≤ x) (h2 : x < (r + 1) * (r + 1)) (hi : i < qT x r) (h : Q (nI (qA x r i))) : wX10_quotientAt (nI x) (nI i) Q := by
  have hb := qT_b hx2 h1 h2
  unfold wX10_quotientAt
  refine ⟨_, s_rootOf hx2 (fun s h3 h4 h5 => ?_), fun _ h => h⟩
  obtain rfl := rt_one h1 h2 h3 h4
  rw [qA] at h
  refine pk_le r i (fun z => ?_) (fun z => ?_)
  · rw [if_neg (by omega)] at h
    refine ⟨_, s_quotientTotal hx hx2 h1 h2 ?_, fun _ h => h⟩
    rw [pk_sub (by omega)]; exact h
  · rw [if_pos z] at h
    rw [nI_1]
    exact ⟨_, s_divided (by omega) (by omega) (by omega) h, fun _ h => h⟩
theorem s_laysBlocks {qth qta qli qsi qat qpl qso qva qfa qfp qlf qlp qun qhi qro qar qiS qbl qdr : Int32} {lo : Nat → Int32} {x r : Nat} {Q : Int32 → (Nat → Int32) → Prop} (hx : x ≤ 200000) (h1 : r * r ≤ x) (h2 : x < (r + 1) * (r + 1)) (h : ∀ lo', (∀ i, i < qT x r → lo' i = nI (bL x (i + 1))) → Q (nI (qT x r)) lo') : wX11_laysBlocks qth qta qli qsi qat qpl qso qva qfa qfp qlf qlp qun qhi qro qar qiS qbl qdr lo (nI x) Q := by
  have hb := qT_b hx h1 h2
  have hlt : ∀ i, i < qT x r → bL x i < x := fun i hi => (bL_q (rt_0 h2 (by
    rcases Nat.eq_zero_or_pos x with z | z
    · have := hb.2.2 z; omega
    · exact z)) h1 h2 hi).2.2
  have hend : bL x (qT x r) = x := by
    rcases Nat.eq_zero_or_pos x with z | z
    · rw [hb.2.2 z, z]; rfl
    · exact bL_T (rt_0 h2 z) h1 h2
  unfold wX11_laysBlocks
  refine ⟨fun lo b x2 => ∃ i : Nat, i ≤ qT x r ∧ b = nI i ∧ x2 = nI (bL x i + 1) ∧ ∀ j, j < i → lo j = nI (bL x (j + 1)), fun _ b _ => 900 - b.toNatClampNeg, ⟨0, by omega, rfl, rfl, fun j hj => by omega⟩, ?_⟩
  rintro lo b x2 ⟨i, hi, rfl, rfl, hlo⟩
  have hbl : bL x i ≤ x := by
    rcases Nat.lt_or_ge i (qT x r) with z | z
    · have := hlt i z; omega
    · obtain rfl : i = qT x r := by omega
      omega
  refine pk_lt x (bL x i + 1) (fun z => ?_) (fun z => ?_)
  · have : i = qT x r := by
      rcases Nat.lt_or_ge i (qT x r) with w | w
      · have := hlt i w; omega
      · omega
    subst this
    exact h lo hlo
  · have hiT : i < qT x r := by
      rcases Nat.lt_or_ge i (qT x r) with w | w
      · exact w
      · obtain rfl : i = qT x r := by omega
        omega
    have hq := dd_q (x := x) (d := bL x i + 1) (by omega) z
    refine ⟨nI_ne0 (by omega) (by omega), ?_⟩
    rw [pk_div (by omega) (by omega) (by omega)]
    refine ⟨nI_ne0 (by omega) (by omega), ?_⟩
    have hle : x / (x / (bL x i + 1)) ≤ x := Nat.div_le_self _ _
    rw [pk_div (by omega) (by omega) (by omega)]
    rintro e rfl
    refine ⟨pk_in i 900 (by omega), ?_⟩
    rw [nI_clamp (by omega)]
    rintro lo2 rfl
    rw [pk_us, nI_1, nI_1]
    rintro x2 rfl b2 rfl
    refine ⟨⟨i + 1, by omega, rfl, rfl, fun j hj => ?_⟩, ms_up (by omega) (by omega)⟩
    by_cases e : j = i
    · subst e; exact pk_us
    · rw [pk_un e]; exact hlo j (by omega)
theorem s_firstOf {qth qta qli qsi qat qpl qso qva qfa qfp qlf qlp qun qhi qro qar qiS qbl qdr : Int32} {lo : Nat → Int32} {x T i : Nat} {Q : Int32 → Prop} (hlo : ∀ i, i < T → lo i = nI (bL x (i + 1))) (hi : i < T) (hT : T ≤ 894) (h : Q (nI (bL x i + 1))) : wX11_firstOf qth qta qli qsi qat qpl qso qva qfa qfp qlf qlp qun qhi qro qar qiS qbl qdr lo (nI i) Q := by
  unfold wX11_firstOf
  refine pn_eq i 0 (fun e => ?_) (fun e => ?_)
  · rw [show nI i - 1 = nI (i - 1) from pk_sub (b := 1) (by omega)]
    refine ⟨vp_in_nI (by omega) (by omega), ?_⟩
    obtain ⟨j, rfl⟩ : ∃ j, i = j + 1 := ⟨i - 1, by omega⟩
    rw [Nat.add_sub_cancel, nI_clamp (by omega), hlo j (by omega), nI_1]; exact h
  · subst e; exact h
theorem bL_le {x T i : Nat} (hlt : ∀ i, i < T → bL x i < x) (hi : i < T) : bL x i < bL x (i + 1) ∧ bL x (i + 1) ≤ x := bL_up (hlt i hi)
theorem toNat_dif {a b M : Nat} (ha : a < M) (hb : b < M) : (((b : Int) - (a : Int)) % (M : Int)).toNat = (b + M - a) % M := by
  have e : ((b : Int) - (a : Int)) % (M : Int) = (((b + M - a) % M : Nat) : Int) := by
    rw [natmod_cast, show ((b + M - a : Nat) : Int) = ((b : Int) - (a : Int)) + (M : Int) by omega, Int.add_emod_right]
  rw [e, Int.toNat_natCast]
theorem d64 {a b : Nat} (ha : a < 2 ^ 30) (hb : b < 2 ^ 30) : (nI a - nI b).toInt64 = lI ((a : Int) - (b : Int)) := by
  rw [iI_N, iI_N, iI_sub, iI_l (by omega) (by omega)]
theorem s_laysInBlocks {qth qta qli qsi qat qpl qso qva qfa qfp qlf qlp qun qhi qro qar qiS qbl qdr : Int32} {P table inB : Nat → Int64} {row marks so fi se sb sF lo K A B C N : Nat → Int32} {M Bd f F x T : Nat} {Q : Int32 → Int32 → (Nat → Int32) → (Nat → Int64) → (Nat → Int64) → (Nat → Int64) → Prop} (hw : wfp F K A B) (hR : pmR F K A B C N so fi se sb sF) (hs0 : sF 0 = nI Bd) (hs : sF 1 = nI M) (hB : 1 ≤ Bd) (hB2 : Bd ≤ 200000) (hF : F ≤ 12) (hM : 2 ≤ M) (hM2 : M ≤ 1000003) (hf : f < F) (hmk : mkOK marks) (hrc : rcOK F K A B C N M Bd qro qar row) (hbl : qbl = nI T) (hT : T ≤ 894) (hx : x ≤ Bd) (hlt : ∀ i, i < T → bL x i < x) (hlo : ∀ i, i < T → lo i = nI (bL x (i + 1))) (h : ∀ row' P' table' inB', (∀ n, n ≤ Bd → row' n = nI (sV (tv K A B C N M f) M n)) → (∀ i, i < T → inB' i = lN (str (tv K A B C N M f) M (bL x i + 1) (bL x (i + 1)))) → Q (nI f) 1 row' P' table' inB') : wX11_laysInBlocks qth qta qli qsi qat qpl qso qva qfa qfp qlf qlp qun qhi qro qar qiS qbl qdr sF row marks P table so fi se sb lo inB (nI f) Q := by
  unfold wX11_laysInBlocks
  refine ⟨_, s_laysSums hw hR hs0 hs hB hB2 hF hM hM2 hf hmk hrc (fun row1 P1 t1 hr => ?_), fun _ _ _ _ _ h => h⟩
  rw [hbl]
  refine ⟨fun ib y => ∃ i : Nat, i ≤ T ∧ y = nI i ∧ ∀ j, j < i → ib j = lN (str (tv K A B C N M f) M (bL x j + 1) (bL x (j + 1))), fun _ y => 900 - y.toNatClampNeg, ⟨0, by omega, rfl, fun j hj => by omega⟩, ?_⟩
  rintro ib y ⟨i, hi, rfl, hib⟩
  refine pk_le T i (fun z => h _ _ _ _ hr (fun j hj => hib j (by omega))) (fun z => ⟨pk_in i 900 (by omega), ?_⟩)
  have hbi := bL_le hlt z
  rw [nI_clamp (show i < 2 ^ 31 by omega), hlo i z]
  refine ⟨vp_in_nI (by omega) (by omega), ?_⟩
  refine ⟨_, s_firstOf hlo z hT ?_, fun _ h => h⟩
  rw [show nI (bL x i + 1) - 1 = nI (bL x i) from pk_sub (b := 1) (by omega)]
  refine ⟨vp_in_nI (by omega) (by omega), ?_⟩
  have s1 := sV_lt (g := tv K A B C N M f) hM (bL x (i + 1))
  have s2 := sV_lt (g := tv K A B C N M f) hM (bL x i)
  rw [nI_clamp (by omega), nI_clamp (by omega), hr _ (by omega), hr _ (by omega), nI_1]
  rintro t rfl
  rw [d64 (by omega) (by omega)]
  refine ⟨_, s_restM hs hM hM2 ?_, fun _ h => h⟩
  rw [lI_toInt (by omega) (by omega), toNat_dif s2 s1]
  refine ⟨pk_in i 900 (by omega), ?_⟩
  rintro ib2 rfl
  refine ⟨⟨i + 1, by omega, rfl, fun j hj => ?_⟩, ms_up (by omega) (by omega)⟩
  by_cases e : j = i
  · subst e; rw [pk_uLs, str, Nat.add_sub_cancel]
  · rw [pk_uLn e]; exact hib j (by omega)
theorem s_laysAtQuotients {qth qta qli qsi qat qpl qso qva qfa qfp qlf qlp qun qhi qro qar qiS qbl qdr : Int32} {P table aq : Nat → Int64} {row marks so fi se sb sF lo K A B C N : Nat → Int32} {M Bd f F x T : Nat} {Q : Int32 → Int32 → (Nat → Int32) → (Nat → Int64) → (Nat → Int64) → (Nat → Int64) → Prop} (hw : wfp F K A B) (hR : pmR F K A B C N so fi se sb sF) (hs0 : sF 0 = nI Bd) (hs : sF 1 = nI M) (hB : 1 ≤ Bd) (hB2 : Bd ≤ 200000) (hF : F ≤ 12) (hM : 2 ≤ M) (hM2 : M ≤ 1000003) (hf : f < F) (hmk : mkOK marks) (hrc : rcOK F K A B C N M Bd qro qar row) (hbl : qbl = nI T) (hT : T ≤ 894) (hx : x ≤ Bd) (hlt : ∀ i, i < T → bL x i < x) (hlo : ∀ i, i < T → lo i = nI (bL x (i + 1))) (h : ∀ row' P' table' aq', (∀ n, n ≤ Bd → row' n = nI (sV (tv K A B C N M f) M n)) → (∀ i, i < T → aq' i = lN (sV (tv K A B C N M f) M (x / bL x (i + 1)))) → Q (nI f) 1 row' P' table' aq') : wX11_laysAtQuotients qth qta qli qsi qat qpl qso qva qfa qfp qlf qlp qun qhi qro qar qiS qbl qdr sF row marks P table so fi se sb lo aq (nI f) (nI x) Q := by
  unfold wX11_laysAtQuotients
  refine ⟨_, s_laysSums hw hR hs0 hs hB hB2 hF hM hM2 hf hmk hrc (fun row1 P1 t1 hr => ?_), fun _ _ _ _ _ h => h⟩
  rw [hbl]
  refine ⟨fun ib y => ∃ i : Nat, i ≤ T ∧ y = nI i ∧ ∀ j, j < i → ib j = lN (sV (tv K A B C N M f) M (x / bL x (j + 1))), fun _ y => 900 - y.toNatClampNeg, ⟨0, by omega, rfl, fun j hj => by omega⟩, ?_⟩
  rintro ib y ⟨i, hi, rfl, hib⟩
  refine pk_le T i (fun z => h _ _ _ _ hr (fun j hj => hib j (by omega))) (fun z => ⟨pk_in i 900 (by omega), ?_⟩)
  have hbi := bL_le hlt z
  have hd : x / bL x (i + 1) ≤ x := Nat.div_le_self _ _
  have s1 := sV_lt (g := tv K A B C N M f) hM (x / bL x (i + 1))
  rw [nI_clamp (show i < 2 ^ 31 by omega), hlo i z, pk_div (by omega) (by omega) (by omega)]
  refine ⟨nI_ne0 (by omega) (by omega), vp_in_nI (by omega) (by omega), ?_⟩
  rw [nI_clamp (by omega), hr _ (by omega), nI_l (by omega), nI_1]
  rintro e rfl ib2 rfl
  refine ⟨⟨i + 1, by omega, rfl, fun j hj => ?_⟩, ms_up (by omega) (by omega)⟩
  by_cases e : j = i
  · subst e; exact pk_uLs
  · rw [pk_uLn e]; exact hib j (by omega)
/-- the sum over the first i blocks -/
def acr (M : Nat) (X Y : Nat → Nat) : Nat → Nat
  | 0 => 0
  | i + 1 => (acr M X Y i + X i * Y i) % M
theorem acr_lt {M : Nat} {X Y : Nat → Nat} (hM : 2 ≤ M) : ∀ i, acr M X Y i < M
  | 0 => by show 0 < M; omega
  | _ + 1 => Nat.mod_lt _ (by omega)
theorem s_across {qth qta qli qsi qat qpl qso qva qfa qfp qlf qlp qun qhi qro qar qiS qbl qdr : Int32} {inB aq : Nat → Int64} {sF : Nat → Int32} {M T : Nat} {X Y : Nat → Nat} {Q : Int32 → Prop} (hs : sF 1 = nI M) (hM : 2 ≤ M) (hM2 : M ≤ 1000003) (hbl : qbl = nI T) (hT : T ≤ 894) (hX : ∀ i, i < T → inB i = lN (X i)) (hY : ∀ i, i < T → aq i = lN (Y i)) (bX : ∀ i, i < T → X i < M) (bY : ∀ i, i < T → Y i < M) (h : Q (nI (acr M X Y T))) : wX11_acrossBlocks qth qta qli qsi qat qpl qso qva qfa qfp qlf qlp qun qhi qro qar qiS qbl qdr inB aq sF Q := by
  unfold wX11_acrossBlocks
  rw [hbl, hs, nI_l (show M < 2 ^ 31 by omega)]
  refine ⟨fun s y => ∃ i : Nat, i ≤ T ∧ y = nI i ∧ s = lN (acr M X Y i), fun _ y => 900 - y.toNatClampNeg, ⟨0, by omega, rfl, rfl⟩, ?_⟩
  rintro s y ⟨i, hi, rfl, rfl⟩
  refine pk_le T i (fun z => ?_) (fun z => ⟨pk_in i 900 (by omega), ?_⟩)
  · obtain rfl : i = T := by omega
    rw [lN_i]; exact h
  · have h1 := bX i z
    have h2 := bY i z
    have h3 : X i * Y i ≤ 1000003 * 1000003 := Nat.mul_le_mul (by omega) (by omega)
    have h4 := acr_lt (X := X) (Y := Y) hM i
    rw [nI_clamp (by omega), hX i z, hY i z, lN_mul, lN_add, nI_1]
    rintro t rfl
    refine ⟨fun e => by have := (lN_eq (a := M) (b := 0) (by omega) (by omega)).mp e; omega, ?_⟩
    rw [pk_lRem (by omega) (by omega) (by omega)]
    rintro t rfl
    exact ⟨⟨i + 1, by omega, rfl, rfl⟩, ms_up (by omega) (by omega)⟩
