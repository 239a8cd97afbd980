/-! PURE: tables of powers in the reference -/
theorem si_rev (f : Nat → Int) : ∀ n, fb_si (fun j => f (n - 1 - j)) n = fb_si f n
  | 0 => rfl
  | n + 1 => by
    have h := fb_si_split (fun j => f (n + 1 - 1 - j)) 1 n
    rw [Nat.add_comm 1 n] at h
    rw [h]
    have e1 : fb_si (fun j => f (n + 1 - 1 - j)) 1 = f n := by
      show (0 : Int) + f (n + 1 - 1 - 0) = f n
      rw [Int.zero_add]; rfl
    have e2 : fb_si (fun k => f (n + 1 - 1 - (1 + k))) n = fb_si (fun j => f (n - 1 - j)) n := fb_si_cong (fun k _ => by
      congr 1; omega)
    rw [e1, e2, si_rev f n, fb_si_succ, Int.add_comm]
theorem si_mod (f : Nat → Int) (M : Int) : ∀ n, fb_si (fun j => f j % M) n % M = fb_si f n % M
  | 0 => rfl
  | n + 1 => by
    rw [fb_si_succ, fb_si_succ, emod_add_r, ← emod_add_l, si_mod f M n, emod_add_l]
theorem neg_mod {a b M : Int} (h : a % M = b % M) : -a % M = -b % M := by
  rw [← Int.zero_sub, ← Int.zero_sub, Int.sub_emod, h, ← Int.sub_emod]
/-- the plan of the class and the reference's rows -/
def pmR (F : Nat) (K A B C N so fi se sb s : Nat → Int32) : Prop :=
  (∀ f, f < F → so f = K f ∧ fi f = A f ∧ se f = B f ∧ (K f = 5 → sb f = nI (if C f == 1 then 3 else 4))) ∧ (∀ i, i < 12 * (F - 6) → s (2 + i) = N (72 + i)) ∧ (∀ f, f < F → (f < 6 → K f = 0) ∧ (6 ≤ f → K f = 1 ∨ K f = 2 ∨ K f = 3 ∨ K f = 4 ∨ K f = 5))
theorem lN_pos {n : Nat} (h : n < 2 ^ 63) : (lN n).toInt = (n : Int) := pk_lT h
theorem s_together {qth qta qli qsi qat qpl qso qva qfa qfp qlf qlp qun qhi qro qar qiS qbl qdr : Int32} {table : Nat → Int64} {sF : Nat → Int32} {a b k M : Nat} {X Y : Nat → Nat} {Q : Int64 → Prop} (hs : sF 1 = nI M) (hM : 2 ≤ M) (hM2 : M ≤ 1000003) (hX : ∀ j, j ≤ k → table (18 * a + j) = lN (X j)) (hY : ∀ j, j ≤ k → table (18 * b + j) = lN (Y j)) (bX : ∀ j, X j < M) (bY : ∀ j, Y j < M) (hk : k ≤ 17) (ha : a < 12) (hb : b < 12) (h : Q (lI (fb_si (fun j => ((X j : Int) * (Y (k - j) : Int)) % (M : Int)) (k + 1)))) : wX11_together qth qta qli qsi qat qpl qso qva qfa qfp qlf qlp qun qhi qro qar qiS qbl qdr table sF (nI a) (nI b) (nI k) Q := by
  unfold wX11_together
  refine ⟨fun x4 x6 => ∃ j : Nat, j ≤ k + 1 ∧ x6 = nI j ∧ x4 = lI (fb_si (fun j => ((X j : Int) * (Y (k - j) : Int)) % (M : Int)) j), fun _ x6 => 19 - x6.toNatClampNeg, ⟨0, by omega, rfl, lI_0.symm⟩, ?_⟩
  rintro x4 x6 ⟨j, hj, rfl, rfl⟩
  refine pk_lt k j (fun z => ?_) (fun z => ?_)
  · obtain rfl : j = k + 1 := by omega
    exact h
  · rw [show (18 : Int32) = nI 18 from rfl, pk_mul, pk_mul, nI_add, nI_add, pk_sub (by omega)]
    refine ⟨vp_in_nI (by omega) (by omega), vp_in_nI (by omega) (by omega), ?_⟩
    have h1 := bX j
    have h2 := bY (k - j)
    have h3 : X j * Y (k - j) ≤ 1000003 * 1000003 := Nat.mul_le_mul (by omega) (by omega)
    rw [nI_clamp (by omega), nI_clamp (by omega), hX j (by omega), show 18 * b + k - j = 18 * b + (k - j) by omega, hY (k - j) (by omega), lN_mul]
    rintro t rfl
    rw [hs, nI_l (by omega)]
    refine ⟨fun e => by have := (lN_eq (a := M) (b := 0) (by omega) (by omega)).mp e; omega, ?_⟩
    rintro x rfl
    rw [pk_lRem (by omega) (by omega) (by omega), lI_N, lI_add, nI_1]
    refine ⟨⟨j + 1, by omega, rfl, ?_⟩, ms_up (by omega) (by omega)⟩
    rw [fb_si_succ, natmod_cast, Int.natCast_mul]
theorem s_over {qth qta qli qsi qat qpl qso qva qfa qfp qlf qlp qun qhi qro qar qiS qbl qdr : Int32} {table : Nat → Int64} {sF : Nat → Int32} {a b k M : Nat} {X Y : Nat → Nat} {Q : Int64 → Prop} (hs : sF 1 = nI M) (hM : 2 ≤ M) (hM2 : M ≤ 1000003) (hX : ∀ j, j < k → table (18 * a + j) = lN (X j)) (hY : ∀ j, j ≤ k → table (18 * b + j) = lN (Y j)) (bX : ∀ j, X j < M) (bY : ∀ j, Y j < M) (hk : k ≤ 17) (ha : a < 12) (hb : b < 12) (h : Q (lI (- fb_si (fun j => ((X j : Int) * (Y (k - j) : Int)) % (M : Int)) k))) : wX11_over qth qta qli qsi qat qpl qso qva qfa qfp qlf qlp qun qhi qro qar qiS qbl qdr table sF (nI a) (nI b) (nI k) Q := by
  unfold wX11_over
  refine ⟨fun x4 x6 => ∃ j : Nat, j ≤ k ∧ x6 = nI j ∧ x4 = lI (fb_si (fun j => ((X j : Int) * (Y (k - j) : Int)) % (M : Int)) j), fun _ x6 => 19 - x6.toNatClampNeg, ⟨0, by omega, rfl, lI_0.symm⟩, ?_⟩
  rintro x4 x6 ⟨j, hj, rfl, rfl⟩
  refine pk_le k j (fun z => ?_) (fun z => ?_)
  · obtain rfl : j = k := by omega
    rw [lI_neg]
    exact h
  · rw [show (18 : Int32) = nI 18 from rfl, pk_mul, pk_mul, nI_add, nI_add, pk_sub (by omega)]
    refine ⟨vp_in_nI (by omega) (by omega), vp_in_nI (by omega) (by omega), ?_⟩
    have h1 := bX j
    have h2 := bY (k - j)
    have h3 : X j * Y (k - j) ≤ 1000003 * 1000003 := Nat.mul_le_mul (by omega) (by omega)
    rw [nI_clamp (by omega), nI_clamp (by omega), hX j (by omega), show 18 * b + k - j = 18 * b + (k - j) by omega, hY (k - j) (by omega), lN_mul]
    rintro t rfl
    rw [hs, nI_l (by omega)]
    refine ⟨fun e => by have := (lN_eq (a := M) (b := 0) (by omega) (by omega)).mp e; omega, ?_⟩
    rintro x rfl
    rw [pk_lRem (by omega) (by omega) (by omega), lI_N, lI_add, nI_1]
    refine ⟨⟨j + 1, by omega, rfl, ?_⟩, ms_up (by omega) (by omega)⟩
    rw [fb_si_succ, natmod_cast, Int.natCast_mul]
theorem si_mod_bound (f : Nat → Int) {M : Nat} (hM : 2 ≤ M) (hM2 : M ≤ 1000003) : ∀ n, 0 ≤ fb_si (fun j => f j % (M : Int)) n ∧ fb_si (fun j => f j % (M : Int)) n ≤ (n : Int) * 1000003
  | 0 => by simp [fb_si]
  | n + 1 => by
    have h := si_mod_bound f hM hM2 n
    have h1 := Int.emod_nonneg (f n) (show (M : Int) ≠ 0 by omega)
    have h2 := Int.emod_lt_of_pos (f n) (show (0 : Int) < (M : Int) by omega)
    rw [fb_si_succ]; omega
theorem s_known {qth qta qli qsi qat qpl qso qva qfa qfp qlf qlp qun qhi qro qar qiS qbl qdr : Int32} {P : Nat → Int64} {table : Nat → Int64} {T : Nat → Nat → Nat} {K A B C N : Nat → Int32} {M p g i : Nat} {Q : Int64 → Prop} (hM : 2 ≤ M) (hM2 : M ≤ 1000003) (hg : g < 6) (hi : 1 ≤ i) (hi2 : i ≤ 17) (hP : ∀ j, j ≤ i → P j = lN (p ^ j % M)) (hs : ∀ j, j < i → table (18 * g + j) = lN (T g j)) (hT : ∀ g j, T g j < M) (hk : K g = 0) (h : ∀ z : Int, z % (M : Int) = cellV K A B C N p T g i % (M : Int) → -4611686018427387904 < z → z < 4611686018427387904 → Q (lI z)) : wX11_known qth qta qli qsi qat qpl qso qva qfa qfp qlf qlp qun qhi qro qar qiS qbl qdr P table (nI g) (nI i) Q := by
  have hb : ∀ j, p ^ j % M < M := fun j => Nat.mod_lt _ (by omega)
  have hk1 : ¬ K g = 1 := by rw [hk]; decide
  have hk2 : ¬ K g = 2 := by rw [hk]; decide
  have hk3 : ¬ K g = 3 := by rw [hk]; decide
  have hk4 : ¬ K g = 4 := by rw [hk]; decide
  have hk5 : ¬ K g = 5 := by rw [hk]; decide
  unfold cellV at h
  rw [if_neg hk1, if_neg hk2, if_neg hk3, if_neg hk4, if_neg hk5] at h
  unfold wX11_known
  refine pk_eq g 0 (fun a0 => ?_) (fun a0 => pk_eq g 1 (fun a => ⟨pk_in i 18 (by omega), ?_⟩) (fun a => pk_eq g 2 (fun b => ?_) (fun b => pk_eq g 3 (fun c => ⟨pk_in i 18 (by omega), ?_⟩) (fun c => pk_eq g 4 (fun d => ?_) (fun d => ?_)))))
  · subst a0
    exact h 1 rfl (by omega) (by omega)
  · rw [if_pos a] at h
    have := hb i
    rw [nI_clamp (by omega), hP i (by omega), lI_N]
    exact h _ (by rw [natmod_cast, Int.emod_emod]) (by omega) (by omega)
  · rw [if_neg a, if_pos b] at h
    refine pn_eq i 1 (fun e => ?_) (fun e => ?_)
    · have := h 0 (by rw [if_neg e]) (by omega) (by omega)
      exact this
    · have := h (-1) (by rw [if_pos e]) (by omega) (by omega)
      exact this
  · rw [if_neg a, if_neg b, if_pos c] at h
    have := hb i
    have := hb (i - 1)
    rw [show (1 : Int32) = nI 1 from rfl, pk_sub hi]
    refine ⟨vp_in_nI (by omega) (by omega), ?_⟩
    rw [nI_clamp (by omega), nI_clamp (by omega), hP i (by omega), hP (i - 1) (by omega), lI_N, lI_N, lI_sub]
    exact h _ (by rw [natmod_cast, natmod_cast, emod_sub_e]) (by omega) (by omega)
  · rw [if_neg a, if_neg b, if_neg c, if_pos d] at h
    rw [nI_l (by omega), lN_1, lI_N]
    exact h _ (by rw [Int.natCast_add]; rfl) (by omega) (by omega)
  · rw [if_neg a, if_neg b, if_neg c, if_neg d, if_pos (by omega)] at h
    have h1 := hb i
    have h2 := hT g (i - 1)
    rw [show (18 : Int32) * nI g + nI i - 1 = nI (18 * g + (i - 1)) from by rw [show (18 : Int32) = nI 18 from rfl, show (1 : Int32) = nI 1 from rfl, pk_mul, nI_add, pk_sub (by omega)]; congr 1; omega]
    refine ⟨vp_in_nI (by omega) (by omega), pk_in i 18 (by omega), ?_⟩
    rintro t rfl
    rw [nI_clamp (by omega), nI_clamp (by omega), hs (i - 1) (by omega), hP i (by omega), lN_add, lI_N]
    exact h _ (by rw [Int.natCast_add, natmod_cast, emod_add_r]) (by omega) (by omega)
theorem s_ownAt {qth qta qli qsi qat qpl qso qva qfa qfp qlf qlp qun qhi qro qar qiS qbl qdr : Int32} {sF : Nat → Int32} {N : Nat → Int32} {P : Nat → Int64} {g p i M F : Nat} {Q : Int64 → Prop} (hM : 2 ≤ M) (hM2 : M ≤ 1000003) (hg : 6 ≤ g) (hg2 : g < F) (hF : F ≤ 12) (hi : 1 ≤ i) (hi2 : i ≤ 17) (hP : P 1 = lN (p % M)) (hN : ∀ i, i < 12 * (F - 6) → sF (2 + i) = N (72 + i)) (h : ∀ z : Int, z % (M : Int) = (if i ≤ 6 then (N (12 * g + 2 * (i - 1))).toInt + (N (12 * g + 2 * (i - 1) + 1)).toInt * (p : Int) else 0) % (M : Int) → -4611686018427387904 < z → z < 4611686018427387904 → Q (lI z)) : wX11_ownAt qth qta qli qsi qat qpl qso qva qfa qfp qlf qlp qun qhi qro qar qiS qbl qdr sF P (nI g) (nI i) Q := by
  unfold wX11_ownAt
  have e : ((2 + (12 * (nI g - 6))) + (2 * nI i)) - 2 = nI (2 + (12 * (g - 6) + 2 * (i - 1))) := by
    rw [show (6 : Int32) = nI 6 from rfl, show (12 : Int32) = nI 12 from rfl, show (2 : Int32) = nI 2 from rfl, pk_sub hg, pk_mul, pk_mul, nI_add, nI_add, pk_sub (by omega)]
    congr 1; omega
  rw [e]
  rintro x rfl
  refine pk_le i 6 (fun z => ?_) (fun z => ?_)
  · rw [if_pos z] at h
    rw [nI_1]
    refine ⟨vp_in_nI (by omega) (by omega), vp_in_nI (by omega) (by omega), ?_⟩
    rintro t rfl
    have hb : p % M < M := Nat.mod_lt _ (by omega)
    rw [nI_clamp (by omega), nI_clamp (by omega), hN _ (by omega), Nat.add_assoc 2, hN _ (by omega), hP, lI_32, lI_32, lI_N, lI_mul, lI_add, show 72 + (12 * (g - 6) + 2 * (i - 1)) = 12 * g + 2 * (i - 1) by omega, show 72 + (12 * (g - 6) + 2 * (i - 1) + 1) = 12 * g + 2 * (i - 1) + 1 by omega]
    have h6 := fb_rng (N (12 * g + 2 * (i - 1)))
    have h7 := fb_rng (N (12 * g + 2 * (i - 1) + 1))
    refine h _ ?_ ?_ ?_
    · rw [natmod_cast, ← emod_add_r, Int.mul_emod, Int.emod_emod, ← Int.mul_emod, emod_add_r]
    · have h8 : (-2147483648 : Int) * ((p % M : Nat) : Int) ≤ (N (12 * g + 2 * (i - 1) + 1)).toInt * ((p % M : Nat) : Int) := Int.mul_le_mul_of_nonneg_right h7.1 (by omega)
      omega
    · have h8 : (N (12 * g + 2 * (i - 1) + 1)).toInt * ((p % M : Nat) : Int) ≤ 2147483648 * ((p % M : Nat) : Int) := Int.mul_le_mul_of_nonneg_right (by omega) (by omega)
      omega
  · rw [if_neg (by omega)] at h
    exact h 0 rfl (by omega) (by omega)
theorem s_tail {qth qta qli qsi qat qpl qso qva qfa qfp qlf qlp qun qhi qro qar qiS qbl qdr : Int32} {sF : Nat → Int32} {M : Nat} {z : Int} {tab : Nat → Int64} {o : Int32} {R : (Nat → Int64) → Prop} (hs : sF 1 = nI M) (hM : 2 ≤ M) (hM2 : M ≤ 1000003) (hz1 : -4611686018427387904 < z) (hz2 : z < 4611686018427387904) (hin : vp_in o 216) (h : R (vp_updL tab o.toNatClampNeg (lN (z % (M : Int)).toNat))) : ∃ P : Int64 → Prop, wX11_rest qth qta qli qsi qat qpl qso qva qfa qfp qlf qlp qun qhi qro qar qiS qbl qdr sF (lI z) P ∧ ∀ r, P r → vp_in o 216 ∧ ∀ t' : Nat → Int64, t' = vp_updL tab o.toNatClampNeg r → R t' := by
  refine ⟨_, s_restM hs hM hM2 ?_, fun _ h => h⟩
  rw [lI_toInt (by omega) (by omega)]
  exact ⟨hin, fun t' ht => by rw [ht]; exact h⟩
theorem s_laysPowers {qth qta qli qsi qat qpl qso qva qfa qfp qlf qlp qun qhi qro qar qiS qbl qdr : Int32} {P table : Nat → Int64} {so fi se sb sF K A B C N : Nat → Int32} {M p f k F : Nat} {Q : (Nat → Int64) → (Nat → Int64) → Prop} (hw : wfp F K A B) (hR : pmR F K A B C N so fi se sb sF) (hs : sF 1 = nI M) (hF : F ≤ 12) (hM : 2 ≤ M) (hM2 : M ≤ 1000003) (hf : f < F) (hk : k ≤ 17) (hp : p ≤ 200003) (h : ∀ P' table', (∀ g, g ≤ f → ∀ j, j ≤ k → table' (18 * g + j) = lN (tv K A B C N M g p j)) → Q P' table') : wX11_laysPowers qth qta qli qsi qat qpl qso qva qfa qfp qlf qlp qun qhi qro qar qiS qbl qdr P table so sF fi se sb (nI p) (nI k) (nI f) Q := by
  have hT : ∀ g j, tv K A B C N M g p j < M := fun g j => tv_lt hM
  unfold wX11_laysPowers
  rintro P1 rfl
  refine ⟨fun ps x => ∃ i : Nat, 1 ≤ i ∧ i ≤ k + 1 ∧ x = nI i ∧ ∀ j, j < i → ps j = lN (p ^ j % M), fun _ x => 18 - x.toNatClampNeg, ⟨1, by omega, by omega, rfl, fun j hj => ?_⟩, ?_⟩
  · obtain rfl : j = 0 := by omega
    rw [Nat.pow_zero, Nat.mod_eq_of_lt (by omega)]; exact pk_uLs
  rintro ps x ⟨i, hi1, hi2, rfl, hps⟩
  refine pk_lt k i (fun z => ?_) (fun z => ?_)
  · refine ⟨fun tb x => ∃ g : Nat, g ≤ f + 1 ∧ x = nI g ∧ ∀ g2, g2 < g → ∀ j, j ≤ k → tb (18 * g2 + j) = lN (tv K A B C N M g2 p j), fun _ x => 13 - x.toNatClampNeg, ⟨0, by omega, rfl, fun g2 hg2 => by omega⟩, ?_⟩
    rintro tb x ⟨g, hg, rfl, htb⟩
    refine pk_lt f g (fun z2 => h _ _ (fun g2 hg2 => htb g2 (by omega))) (fun z2 => ?_)
    rw [show (18 : Int32) = nI 18 from rfl, pk_mul]
    refine ⟨vp_in_nI (by omega) (by omega), ?_⟩
    rintro tb2 rfl
    rw [nI_clamp (by omega)]
    refine ⟨fun t3 x5 => ∃ i : Nat, 1 ≤ i ∧ i ≤ k + 1 ∧ x5 = nI i ∧ (∀ g2, g2 < g → ∀ j, j ≤ k → t3 (18 * g2 + j) = lN (tv K A B C N M g2 p j)) ∧ ∀ j, j < i → t3 (18 * g + j) = lN (tv K A B C N M g p j), fun _ x => 19 - x.toNatClampNeg, ⟨1, by omega, by omega, rfl, fun g2 hg2 j hj => ?_, fun j hj => ?_⟩, ?_⟩
    · rw [pk_uLn (by omega)]; exact htb g2 hg2 j hj
    · obtain rfl : j = 0 := by omega
      rw [tv_0]; exact pk_uLs
    rintro t3 x5 ⟨i, hi1, hi2, rfl, ht1, ht2⟩
    refine pk_lt k i (fun z3 => ?_) (fun z3 => ?_)
    · rw [nI_1]
      refine ⟨⟨g + 1, by omega, rfl, fun g2 hg2 j hj => ?_⟩, ms_up (by omega) (by omega)⟩
      rcases Nat.lt_or_ge g2 g with q | q
      · exact ht1 g2 q j hj
      · obtain rfl : g2 = g := by omega
        exact ht2 j (by omega)
    · refine ⟨pk_in g 24 (by omega), ?_⟩
      have hgF : g < F := by omega
      obtain ⟨r1, r2, r3, r4⟩ := hR.1 g hgF
      rw [nI_clamp (show g < 2 ^ 31 by omega), r1, r2, r3, nI_add]
      have hin : vp_in (nI (18 * g + i)) 216 := vp_in_nI (by omega) (by omega)
      have key : ∀ zz : Int, zz % (M : Int) = cellV K A B C N p (fun g i => tv K A B C N M g p i) g i % (M : Int) → (∃ i' : Nat, 1 ≤ i' ∧ i' ≤ k + 1 ∧ nI i + 1 = nI i' ∧ (∀ g2, g2 < g → ∀ j, j ≤ k → vp_updL t3 (nI (18 * g + i)).toNatClampNeg (lN (zz % (M : Int)).toNat) (18 * g2 + j) = lN (tv K A B C N M g2 p j)) ∧ ∀ j, j < i' → vp_updL t3 (nI (18 * g + i)).toNatClampNeg (lN (zz % (M : Int)).toNat) (18 * g + j) = lN (tv K A B C N M g p j)) ∧ 19 - (nI i + 1).toNatClampNeg < 19 - (nI i).toNatClampNeg := by
        intro zz hz
        rw [nI_clamp (show 18 * g + i < 2 ^ 31 by omega), hz, ← tv_eq hw hgF hi1, nI_1]
        refine ⟨⟨i + 1, by omega, by omega, rfl, fun g2 hg2 j hj => ?_, fun j hj => ?_⟩, ms_up (by omega) (by omega)⟩
        · rw [pk_uLn (by omega)]; exact ht1 g2 hg2 j hj
        · by_cases e : j = i
          · subst e; exact pk_uLs
          · rw [pk_uLn (by omega)]; exact ht2 j (by omega)
      have hk6 := hR.2.2 g hgF
      have hps2 : ∀ j, j ≤ i → ps j = lN (p ^ j % M) := fun j hj => hps j (by omega)
      refine br_c (fun h0 => ?_) (fun h0 => br_c (fun h1 => ?_) (fun h1 => br_c (fun h2 => ?_) (fun h2 => br_c (fun h3 => ?_) (fun h3 => br_c (fun h4 => ?_) (fun h4 => ?_)))))
      · have hg6 : g < 6 := by
          rcases Nat.lt_or_ge g 6 with q | q
          · exact q
          · rcases hk6.2 q with e | e | e | e | e <;> rw [h0] at e <;> exact absurd e (by decide)
        exact ⟨_, s_known (A := A) (B := B) (C := C) (N := N) (T := fun g i => tv K A B C N M g p i) hM hM2 hg6 hi1 (by omega) hps2 ht2 hT h0 (fun zz hz z1 z2 => s_tail hs hM hM2 z1 z2 hin (key zz hz)), fun _ h => h⟩
      · have hg6 : 6 ≤ g := by
          rcases Nat.lt_or_ge g 6 with q | q
          · exact absurd (hk6.1 q) h0
          · exact q
        refine ⟨_, s_ownAt (p := p) hM hM2 hg6 hgF hF hi1 (by omega) (by rw [hps2 1 hi1, Nat.pow_one]) hR.2.1 (fun zz hz z1 z2 => s_tail hs hM hM2 z1 z2 hin (key zz (hz.trans ?_))), fun _ h => h⟩
        unfold cellV; rw [if_pos h1]
      · obtain ⟨hA1, hA2⟩ := (hw g hgF).1 (Or.inl h2)
        obtain ⟨hB1, hB2⟩ := (hw g hgF).2 (Or.inl h2)
        rw [hA2, hB2]
        have hbd := si_mod_bound (fun j => (tv K A B C N M (A g).toNatClampNeg p j : Int) * (tv K A B C N M (B g).toNatClampNeg p (i - j) : Int)) hM hM2 (i + 1)
        refine ⟨_, s_together hs hM hM2 (fun j hj => ht1 _ hA1 j (by omega)) (fun j hj => ht1 _ hB1 j (by omega)) (hT _) (hT _) (by omega) (by omega) (by omega) (s_tail hs hM hM2 (by omega) (by omega) hin (key _ ?_)), fun _ h => h⟩
        rw [si_mod]
        unfold cellV; rw [if_neg h1, if_pos h2]
      · obtain ⟨hA1, hA2⟩ := (hw g hgF).1 (Or.inr (Or.inl h3))
        rw [hA2]
        have hbd := si_mod_bound (fun j => (tv K A B C N M g p j : Int) * (tv K A B C N M (A g).toNatClampNeg p (i - j) : Int)) hM hM2 i
        refine ⟨_, s_over hs hM hM2 (fun j hj => ht2 j (by omega)) (fun j hj => ht1 _ hA1 j (by omega)) (hT _) (hT _) (by omega) (by omega) (by omega) (s_tail hs hM hM2 (by omega) (by omega) hin (key _ ?_)), fun _ h => h⟩
        have e1 : cellV K A B C N p (fun g i => tv K A B C N M g p i) g i = - fb_si (fun j => (tv K A B C N M g p j : Int) * (tv K A B C N M (A g).toNatClampNeg p (i - j) : Int)) i := by
          unfold cellV; rw [if_neg h1, if_neg h2, if_pos h3, ← si_rev]
          refine congrArg (fun z : Int => -z) (fb_si_cong (fun j hj => ?_))
          rw [Int.mul_comm]
          congr 2
          · congr 1; omega
          · congr 1; omega
        rw [e1]
        exact neg_mod (si_mod _ _ _)
      · obtain ⟨hA1, hA2⟩ := (hw g hgF).1 (Or.inr (Or.inr (Or.inl h4)))
        obtain ⟨hB1, hB2⟩ := (hw g hgF).2 (Or.inr h4)
        rw [hA2, hB2, pk_mul, pk_mul, nI_add, nI_add]
        refine ⟨vp_in_nI (by omega) (by omega), vp_in_nI (by omega) (by omega), ?_⟩
        rintro t rfl
        have h5 := hT (A g).toNatClampNeg i
        have h6 := hT (B g).toNatClampNeg i
        have h7 : tv K A B C N M (A g).toNatClampNeg p i * tv K A B C N M (B g).toNatClampNeg p i ≤ 1000003 * 1000003 := Nat.mul_le_mul (by omega) (by omega)
        have h8 := Int.natCast_mul (tv K A B C N M (A g).toNatClampNeg p i) (tv K A B C N M (B g).toNatClampNeg p i)
        rw [nI_clamp (by omega), nI_clamp (by omega), ht1 _ hA1 i (by omega), ht1 _ hB1 i (by omega), lI_N, lI_N, lI_mul]
        refine s_tail hs hM hM2 (by omega) (by omega) hin (key _ ?_)
        unfold cellV; rw [if_neg h1, if_neg h2, if_neg h3, if_pos h4]
      · have h5 : K g = 5 := by
          rcases Nat.lt_or_ge g 6 with q | q
          · exact absurd (hk6.1 q) h0
          · rcases hk6.2 q with e | e | e | e | e
            · exact absurd e h1
            · exact absurd e h2
            · exact absurd e h3
            · exact absurd e h4
            · exact e
        obtain ⟨hA1, hA2⟩ := (hw g hgF).1 (Or.inr (Or.inr (Or.inr h5)))
        rw [hA2, pk_mul, nI_add, r4 h5]
        refine ⟨vp_in_nI (by omega) (by omega), _, s_signM (by omega) (by omega) rfl ?_, fun _ h => h⟩
        rintro t rfl
        have h5b := hT (A g).toNatClampNeg i
        have hsg := sgn_c (C g == 1) p i
        rw [nI_clamp (by omega), ht1 _ hA1 i (by omega), lI_N, iI_l (by omega) (by omega), lI_mul]
        have hcell : cellV K A B C N p (fun g i => tv K A B C N M g p i) g i = (tv K A B C N M (A g).toNatClampNeg p i : Int) * sgn (C g == 1) p i := by
          unfold cellV
          rw [if_neg h1, if_neg h2, if_neg h3, if_neg h4, if_pos h5]
        refine s_tail hs hM hM2 ?_ ?_ hin (key _ (by rw [hcell]))
        · rcases hsg with e | e | e <;> rw [e] <;> omega
        · rcases hsg with e | e | e <;> rw [e] <;> omega
  · rw [show (1 : Int32) = nI 1 from rfl, pk_sub hi1]
    refine ⟨vp_in_nI (by omega) (by omega), ?_⟩
    have hpb : p ^ (i - 1) % M < M := Nat.mod_lt _ (by omega)
    have hmul : p ^ (i - 1) % M * p ≤ 1000003 * 200003 := Nat.mul_le_mul (by omega) hp
    rw [nI_clamp (by omega), hps (i - 1) (by omega), nI_l (by omega), lN_mul]
    refine ⟨_, s_restM hs hM hM2 ?_, fun _ h => h⟩
    rw [lN_pos (by omega), ← Int.natCast_emod, Int.toNat_natCast, em_pow hi1]
    refine ⟨pk_in i 18 (by omega), ?_⟩
    rintro ps2 rfl
    rw [nI_clamp (by omega), nI_add]
    refine ⟨⟨i + 1, by omega, by omega, rfl, fun j hj => ?_⟩, ms_up (by omega) (by omega)⟩
    by_cases e : j = i
    · subst e; exact pk_uLs
    · rw [pk_uLn e]; exact hps j (by omega)
