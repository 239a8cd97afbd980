/-! PURE: parts -/
def lSq (L : Nat) : Nat → Nat
  | 0 => L
  | j + 1 => sL (lSq L j) (2 + j)
def kSq (L : Nat) : Nat → Nat
  | 0 => 0
  | j + 1 => kSq L j + sK (lSq L j) (2 + j)
def cSq (L : Nat) : Nat → Nat
  | 0 => 0
  | j + 1 => cSq L j + (if 2 + j < lSq L j then 0 else 1)
theorem lSq_b {L : Nat} (h1 : 2 ≤ L) (h2 : L ≤ 200001) : ∀ j, j ≤ 199999 → 2 ≤ lSq L j ∧ lSq L j ≤ 200001
  | 0, _ => ⟨h1, h2⟩
  | j + 1, hj => by
    obtain ⟨a, b⟩ := lSq_b h1 h2 j (by omega)
    have := sL_b (x := 2 + j) b (by omega)
    rw [lSq]; omega
theorem kSq_b {L : Nat} (h1 : 2 ≤ L) (h2 : L ≤ 200001) : ∀ j, j ≤ 199999 → kSq L j + sS L ≤ sS (lSq L j)
  | 0, _ => by show 0 + _ ≤ _; rw [Nat.zero_add]; exact Nat.le_refl _
  | j + 1, hj => by
    have h3 := kSq_b h1 h2 j (by omega)
    have h4 := sK_b (x := 2 + j) (lSq_b h1 h2 j (by omega)).2 (by omega)
    rw [kSq, lSq]; omega
theorem cSq_b {L : Nat} (h1 : 2 ≤ L) (h2 : L ≤ 200001) : ∀ j, j ≤ 199999 → cSq L j ≤ 17 ∧ (lSq L j < 200001 → 2 ^ (cSq L j + 1) ≤ lSq L j)
  | 0, _ => ⟨Nat.zero_le _, fun _ => h1⟩
  | j + 1, hj => by
    obtain ⟨c1, c2⟩ := cSq_b h1 h2 j (by omega)
    obtain ⟨a, b⟩ := lSq_b h1 h2 j (by omega)
    rw [cSq, lSq]
    by_cases z : 2 + j < lSq L j
    · rw [if_pos z, sL, if_pos z]
      exact ⟨c1, c2⟩
    · rw [if_neg z, sL, if_neg z]
      have hp := c2 (by omega)
      have h17 : cSq L j + 1 ≤ 17 := by
        rcases Nat.lt_or_ge 17 (cSq L j + 1) with w | w
        · have := Nat.pow_le_pow_right (show 0 < 2 by omega) (show 18 ≤ cSq L j + 1 by omega)
          rw [show (2 : Nat) ^ 18 = 262144 by decide] at this
          omega
        · exact w
      refine ⟨h17, fun hl => ?_⟩
      have h2l : 2 * lSq L j ≤ nl (lSq L j) (2 + j) := by
        rw [nl] at hl ⊢
        by_cases c : 200001 < 2 * lSq L j
        · rw [if_pos c] at hl ⊢
          split at hl <;> omega
        · rw [if_neg c]; split <;> omega
      rw [Nat.pow_succ]; omega
theorem kSq_m {L : Nat} (j : Nat) : ∀ d, kSq L j ≤ kSq L (j + d)
  | 0 => Nat.le_refl _
  | d + 1 => by
    have := kSq_m (L := L) j d
    rw [show j + (d + 1) = j + d + 1 by omega, kSq]; omega
theorem cSq_m {L : Nat} (j : Nat) : ∀ d, cSq L j ≤ cSq L (j + d)
  | 0 => Nat.le_refl _
  | d + 1 => by
    have := cSq_m (L := L) j d
    rw [show j + (d + 1) = j + d + 1 by omega, cSq]; omega
def ptP (u v : Nat → Nat → Nat) (n : Nat) : Prop := ∃ p k, isP p ∧ 1 ≤ k ∧ n = p ^ k ∧ u p k ≠ v p k
def ptOK (u v : Nat → Nat → Nat) (Bd : Nat) (ans : Int32) : Prop := (ans = -2 ∧ ∀ n, 2 ≤ n → n ≤ Bd → ¬ ptP u v n) ∨ ∃ n, 2 ≤ n ∧ n ≤ Bd ∧ ptP u v n ∧ (∀ m, 2 ≤ m → m < n → ¬ ptP u v m) ∧ ans = nI n
theorem pt_one {u v : Nat → Nat → Nat} {Bd : Nat} {a b : Int32} (h1 : ptOK u v Bd a) (h2 : ptOK u v Bd b) : a = b := by
  rcases h1 with ⟨rfl, h1⟩ | ⟨n, a1, a2, a3, a4, rfl⟩
  · rcases h2 with ⟨rfl, _⟩ | ⟨m, b1, b2, b3, -, -⟩
    · rfl
    · exact absurd b3 (h1 m b1 b2)
  · rcases h2 with ⟨rfl, h2⟩ | ⟨m, b1, b2, b3, b4, rfl⟩
    · exact absurd a3 (h2 n a1 a2)
    · have : n = m := by
        rcases Nat.lt_or_ge n m with q | q
        · exact absurd a3 (b4 n a1 q)
        · rcases Nat.lt_or_ge m n with q2 | q2
          · exact absurd b3 (a4 m b1 q2)
          · omega
      rw [this]
theorem pw_one {p q k j : Nat} (hp : isP p) (hq : isP q) (hk : 1 ≤ k) (h : q ^ j = p ^ k) : q = p ∧ j = k := by
  obtain ⟨a, b, -⟩ := pp_one (m := 1) hp hq hk (fun w => by have := Nat.le_of_dvd (by omega) w; have := hp.1; omega) (by omega) (by rw [h, Nat.mul_one])
  exact ⟨a.symm, b⟩
theorem pt_no {u v : Nat → Nat → Nat} {p k n : Nat} (hp : isP p) (hk : 1 ≤ k) (hn : n = p ^ k) (e : u p k = v p k) : ¬ ptP u v n := by
  rintro ⟨q, j, a, b, c, d⟩
  obtain ⟨rfl, rfl⟩ := pw_one hp a hk (c.symm.trans hn)
  exact d e
theorem s_doPart {se turn : Int32} {needs K A B C N cells P : Nat → Int32} {Bd M f g F p k : Nat} {Q : Int32 → (Nat → Int32) → (Nat → Int32) → Prop} (hw : wfp F K A B) (hn : ndp F K A B needs) (hF : F ≤ 12) (hM : 2 ≤ M) (hM2 : M ≤ 1000003) (hf : f < F) (hg : g < F) (hk : k ≤ 17) (hp : p ≤ 200003) (hpw : pw cells P) (h0 : tv K A B C N M f p k = tv K A B C N M g p k → ∀ cells' P', pw cells' P' → Q 0 cells' P') (h1 : tv K A B C N M f p k ≠ tv K A B C N M g p k → ∀ cells' P', pw cells' P' → Q 1 cells' P') : wX10_doPart turn (nI Bd) (nI M) se (nI F) needs cells P A B K N C (nI f) (nI g) (nI p) (nI k) Q := by
  unfold wX10_doPart
  refine ⟨_, s_vap hw hn hF hM hM2 hf hk hp hpw (fun ce p1 q1 => ?_), fun _ _ _ h => h⟩
  refine ⟨_, s_vap hw hn hF hM hM2 hg hk hp q1 (fun ce2 p2 q2 => ?_), fun _ _ _ h => h⟩
  have t1 := tv_lt (K := K) (A := A) (B := B) (C := C) (N := N) (f := f) (p := p) (k := k) hM
  have t2 := tv_lt (K := K) (A := A) (B := B) (C := C) (N := N) (f := g) (p := p) (k := k) hM
  exact pk_eq (tv K A B C N M f p k) (tv K A B C N M g p k) (fun e => h0 e ce2 p2 q2) (fun e => h1 e ce2 p2 q2)
set_option maxHeartbeats 1000000 in
theorem s_parts {se turn : Int32} {needs K A B C N least cells P : Nat → Int32} {Bd M f g F L : Nat} (hw : wfp F K A B) (hn : ndp F K A B needs) (hF1 : 6 ≤ F) (hF : F ≤ 12) (hB1 : 1 ≤ Bd) (hB2 : Bd ≤ 200000) (hM : 2 ≤ M) (hM2 : M ≤ 1000003) (hf : f < F) (hg : g < F) (hfg : f ≠ g) (hL : 2 ≤ L) (hL2 : L ≤ 200001) (hsv : svOK L least) (hpw : pw cells P) : ∃ J : Nat, J ≤ 199999 ∧ ∀ Q, (∀ (ans : Int32) (least' cells' P' : Nat → Int32), svOK (lSq L J) least' → pw cells' P' → ptOK (tv K A B C N M f) (tv K A B C N M g) Bd ans → Q ans (lSq L J) least' cells' P') → wX10_parts (cSq L J) (kSq L J) (nI Bd) (nI M) se (nI F) turn L least needs cells P A B K N C (nI f) (nI g) Q := by
  obtain ⟨J, hJ, hJ1, hJ2⟩ : ∃ J : Nat, J ≤ 199999 ∧ (∀ j, (∀ n, 2 ≤ n → n < 2 + j → ¬ ptP (tv K A B C N M f) (tv K A B C N M g) n) → 2 + j ≤ Bd → j < J) ∧ ((J = Bd - 1 ∧ ∀ n, 2 ≤ n → n ≤ Bd → ¬ ptP (tv K A B C N M f) (tv K A B C N M g) n) ∨ (J + 1 ≤ Bd ∧ ptP (tv K A B C N M f) (tv K A B C N M g) (J + 1) ∧ 1 ≤ J ∧ ∀ n, 2 ≤ n → n < J + 1 → ¬ ptP (tv K A B C N M f) (tv K A B C N M g) n)) := by
    by_cases hex : ∃ n, 2 ≤ n ∧ n ≤ Bd ∧ ptP (tv K A B C N M f) (tv K A B C N M g) n
    · obtain ⟨n, ⟨n1, n2, n3⟩, n4⟩ := pk_least _ hex
      refine ⟨n - 1, by omega, fun j hj hjB => ?_, Or.inr ⟨by omega, by rw [show n - 1 + 1 = n by omega]; exact n3, by omega, fun m a b c => n4 m (by omega) ⟨a, by omega, c⟩⟩⟩
      rcases Nat.lt_or_ge n (2 + j) with w | w
      · exact absurd n3 (hj n n1 w)
      · omega
    · exact ⟨Bd - 1, by omega, fun j hj hjB => by omega, Or.inl ⟨rfl, fun n a b c => hex ⟨n, a, b, c⟩⟩⟩
  refine ⟨J, hJ, fun Q hQ => ?_⟩
  refine y_X10_parts hB2 hM2 hF1 hF hf hg (pn_eq f g (fun _ => ?_) (fun e => absurd e hfg))
  refine ⟨fun ce p le kc x3 nF ks => ∃ j : Nat, j ≤ J ∧ pw ce p ∧ svOK nF le ∧ (kc = cSq L j ∧ x3 = nI (2 + j) ∧ nF = lSq L j ∧ ks = kSq L j) ∧ ∀ n, 2 ≤ n → n < 2 + j → ¬ ptP (tv K A B C N M f) (tv K A B C N M g) n, fun _ _ _ _ x3 _ _ => 200003 - x3.toNatClampNeg, ⟨0, by omega, hpw, hsv, ⟨rfl, rfl, rfl, rfl⟩, fun n a b => by omega⟩, ?_⟩
  rintro ce p le kc x3 nF ks ⟨j, hj, p1, p2, ⟨rfl, rfl, rfl, rfl⟩, hno⟩
  refine pk_lt Bd (2 + j) (fun z => ?_) (fun z => ?_)
  · have ej : j = J := by
      rcases hJ2 with ⟨e, -⟩ | ⟨e1, e2, e3, -⟩
      · omega
      · omega
    subst ej
    exact hQ (-2) le ce p p2 p1 (Or.inl ⟨rfl, fun n a b => hno n a (by omega)⟩)
  · have hjJ := hJ1 j hno z
    obtain ⟨l1, l2⟩ := lSq_b hL hL2 j (by omega)
    have hk := kSq_m (L := L) (j + 1) (J - (j + 1))
    have hc := cSq_m (L := L) (j + 1) (J - (j + 1))
    rw [show j + 1 + (J - (j + 1)) = J by omega, kSq] at hk
    rw [show j + 1 + (J - (j + 1)) = J by omega, cSq] at hc
    have hsb := sL_b (x := 2 + j) l2 (by omega)
    refine ⟨if 2 + j < lSq L j then 0 else 1, sK (lSq L j) (2 + j), _, ⟨hc, hk⟩, s_reach l1 l2 (by omega) p2 ?_ (fun le' q1 => ?_), fun _ _ h => h⟩
    · rw [sK]
      by_cases w : 2 + j < lSq L j
      · exact Or.inl w
      · rw [if_neg w, if_neg w]; exact Or.inr ⟨Nat.le_refl _, Nat.le_refl _⟩
    have next : (∀ n, 2 ≤ n → n < 2 + j → ¬ ptP (tv K A B C N M f) (tv K A B C N M g) n) → ¬ ptP (tv K A B C N M f) (tv K A B C N M g) (2 + j) → ∀ n, 2 ≤ n → n < 2 + (j + 1) → ¬ ptP (tv K A B C N M f) (tv K A B C N M g) n := by
      intro w1 w2 n a b
      by_cases e : n = 2 + j
      · rw [e]; exact w2
      · exact w1 n a (by omega)
    refine ⟨_, s_exponent q1 hsb.2.2 (by omega) hsb.1 (fun pp k a1 a2 a3 a4 a5 => ?_) (fun w => ?_), fun _ h => h⟩
    · refine pk_le k 0 (fun w => by omega) (fun _ => ?_)
      refine ⟨_, s_leastPrime q1 hsb.2.2 (by omega) hsb.1 (fun p' b1 b2 b3 => ?_), fun _ h => h⟩
      obtain rfl := isLp_one a5 b1
      refine ⟨_, s_doPart hw hn hF hM hM2 hf hg a3 (by omega) p1 (fun e ce2 p2 y => c0 ?_) (fun e ce2 p2 y => c1 ?_), fun _ _ _ h => h⟩
      · rw [nI_1]
        exact ⟨⟨j + 1, by omega, y, q1, ⟨rfl, rfl, rfl, rfl⟩, next hno (pt_no a1 a2 a4 e)⟩, ms_up (by omega) (by omega)⟩
      · have hpt : ptP (tv K A B C N M f) (tv K A B C N M g) (2 + j) := ⟨pp, k, a1, a2, a4, e⟩
        have ej : J = j + 1 := by
          rcases hJ2 with ⟨e1, e2⟩ | ⟨e1, e2, e3, e4⟩
          · exact absurd hpt (e2 (2 + j) (by omega) z)
          · rcases Nat.lt_or_ge (j + 1) J with w | w
            · exact absurd hpt (e4 (2 + j) (by omega) (by omega))
            · omega
        subst ej
        exact hQ (nI (2 + j)) le' ce2 p2 q1 y (Or.inr ⟨2 + j, by omega, z, hpt, hno, rfl⟩)
    · refine pk_le 0 0 (fun _ => ?_) (fun w => by omega)
      rw [nI_1]
      exact ⟨⟨j + 1, by omega, p1, q1, ⟨rfl, rfl, rfl, rfl⟩, next hno (fun ⟨p, k, a, b, c, _⟩ => w ⟨p, k, a, b, c⟩)⟩, ms_up (by omega) (by omega)⟩
theorem s_isPP {qth qta qli qsi qat qpl qso qva qfa qfp qlf qlp qun qhi qro qar qiS qbl qdr : Int32} {marks : Nat → Int32} {n : Nat} {Q : Int32 → Prop} (hmk : mkOK marks) (hn1 : 1 ≤ n) (hn : n ≤ 200000) (h1 : ∀ p k, isP p → 1 ≤ k → n = p ^ k → Q 1) (h0 : (¬ ∃ p k, isP p ∧ 1 ≤ k ∧ n = p ^ k) → Q 0) : wX11_isPowerOfPrime qth qta qli qsi qat qpl qso qva qfa qfp qlf qlp qun qhi qro qar qiS qbl qdr marks (nI n) Q := by
  unfold wX11_isPowerOfPrime
  refine pn_eq n 1 (fun z => ⟨_, s_isPrimeM hmk hn (fun w => c0 ?_) (fun w => c1 (h1 n 1 w (by omega) (Nat.pow_one n).symm)), fun _ h => h⟩) (fun z => h0 (fun ⟨p, k, a, b, c⟩ => ?_))
  · refine ⟨fun y => ∃ p : Nat, y = nI p ∧ 2 ≤ p ∧ p ≤ n ∧ ∀ d, 2 ≤ d → d < p → ¬ d ∣ n, fun y => 200001 - y.toNatClampNeg, ⟨2, rfl, by omega, by omega, fun d a b => by omega⟩, ?_⟩
    rintro y ⟨p, rfl, hp, hpn, hd⟩
    have hmn := Nat.mod_lt n (show 0 < p by omega)
    refine ⟨nI_ne0 (by omega) (by omega), ?_⟩
    rw [pk_rem (show n < 2 ^ 31 by omega) (show 0 < p by omega) (show p < 2 ^ 31 by omega), nI_1]
    refine pk_eq (n % p) 0 (fun z2 => ?_) (fun z2 => ?_)
    · have hdv : p ∣ n := Nat.dvd_of_mod_eq_zero z2
      have hP : isP p := ⟨hp, fun d a b c => hd d b a (Nat.dvd_trans (Nat.dvd_of_mod_eq_zero c) hdv)⟩
      refine ⟨fun y => ∃ k r : Nat, y = nI r ∧ 0 < r ∧ n = p ^ k * r, fun y => y.toNatClampNeg, ⟨0, n, rfl, by omega, by rw [Nat.pow_zero, Nat.one_mul]⟩, ?_⟩
      rintro y ⟨k, r, rfl, hr, hnr⟩
      have hrn : r ≤ n := by rw [hnr]; exact Nat.le_mul_of_pos_left r (Nat.pow_pos (show 0 < p by omega))
      have hmr := Nat.mod_lt r (show 0 < p by omega)
      refine ⟨nI_ne0 (by omega) (by omega), ?_⟩
      rw [pk_rem (show r < 2 ^ 31 by omega) (show 0 < p by omega) (show p < 2 ^ 31 by omega)]
      refine pn_eq (r % p) 0 (fun z3 => ?_) (fun z3 => ?_)
      · have hpr : ¬ p ∣ r := fun c => z3 (Nat.mod_eq_zero_of_dvd c)
        have hk : 1 ≤ k := by
          rcases Nat.eq_zero_or_pos k with e | e
          · rw [e, Nat.pow_zero, Nat.one_mul] at hnr
            rw [hnr] at hdv
            exact absurd hdv hpr
          · exact e
        refine pn_eq r 1 (fun z4 => h0 (fun ⟨q, j, a, b, c⟩ => z4 (pp_one hP a hk hpr hr (c.symm.trans hnr)).2.2)) (fun z4 => h1 p k hP hk (by rw [z4, Nat.mul_one] at hnr; exact hnr))
      · obtain ⟨m, rfl⟩ := Nat.dvd_of_mod_eq_zero z3
        have hm : 0 < m := Nat.pos_of_ne_zero (fun e => by rw [e, Nat.mul_zero] at hr; omega)
        have h2m : 2 * m ≤ p * m := Nat.mul_le_mul_right m hp
        rw [pk_div (show p * m < 2 ^ 31 by omega) (show 0 < p by omega) (show p < 2 ^ 31 by omega), Nat.mul_div_cancel_left m (by omega)]
        rintro r2 rfl
        exact ⟨⟨k + 1, m, rfl, hm, by rw [hnr, Nat.pow_succ, Nat.mul_assoc]⟩, ms_dn (by omega) (by omega)⟩
    · have hne : p ≠ n := fun e => z2 (by rw [e]; exact Nat.mod_self n)
      refine ⟨⟨p + 1, rfl, by omega, by omega, fun d a b c => ?_⟩, ms_up (by omega) (by omega)⟩
      by_cases e : d = p
      · subst e; exact z2 (Nat.mod_eq_zero_of_dvd c)
      · exact hd d a (by omega) c
  · have := Nat.one_lt_pow (show k ≠ 0 by omega) (show 1 < p from a.1)
    omega
theorem m_parts {qth qta qli qsi qat qpl qso qva qfa qfp qlf qlp qun qhi qro qar qiS qbl qdr : Int32} {number row marks so fi se sb sF K A B C N : Nat → Int32} {P table : Nat → Int64} {Bd M F f g : Nat} {Q : Int32 → Int32 → Int32 → Int32 → (Nat → Int32) → (Nat → Int64) → (Nat → Int64) → Prop} (hw : wfp F K A B) (hR : pmR F K A B C N so fi se sb sF) (hs0 : sF 0 = nI Bd) (hs1 : sF 1 = nI M) (hnu3 : number 3 = nI (F - 6)) (hF1 : 6 ≤ F) (hF : F ≤ 12) (hB1 : 1 ≤ Bd) (hB2 : Bd ≤ 200000) (hM : 2 ≤ M) (hM2 : M ≤ 1000003) (hf : f < F) (hg : g < F) (hfg : f ≠ g) (hmk : mkOK marks) (hrc : rcOK F K A B C N M Bd qro qar row) (h : ∀ ans row' P' t', ptOK (tv K A B C N M f) (tv K A B C N M g) Bd ans → row' 0 = 0 → (∀ n, 1 ≤ n → n ≤ Bd → row' n = nI (vV (tv K A B C N M f) M n)) → Q ans 0 (nI f) 0 row' P' t') : wX11_parts qth qta qli qsi qat qpl qso qva qfa qfp qlf qlp qun qhi qro qar qiS qbl qdr number sF row marks P table so fi se sb (nI f) (nI g) Q := by
  refine y_X11_parts hB2 hM2 hF1 hF hs0 hs1 hnu3 hf hg (pn_eq f g (fun _ => ⟨_, s_laysValues hw hR hs0 hs1 hB1 hB2 hF hM hM2 hf hmk hrc (fun row' P2 t2 hr0 hr => ?_), fun _ _ _ _ _ h => h⟩) (fun e => absurd e hfg))
  rw [hs0]
  refine ⟨fun _ _ y => ∃ n : Nat, y = nI n ∧ 1 ≤ n ∧ n ≤ Bd + 1 ∧ ∀ m, 2 ≤ m → m < n → ¬ ptP (tv K A B C N M f) (tv K A B C N M g) m, fun _ _ y => 200003 - y.toNatClampNeg, ⟨1, rfl, by omega, by omega, fun m a b => by omega⟩, ?_⟩
  rintro P3 t3 y ⟨n, rfl, hn1, hn2, hno⟩
  have next : ¬ ptP (tv K A B C N M f) (tv K A B C N M g) n → ∀ m, 2 ≤ m → m < n + 1 → ¬ ptP (tv K A B C N M f) (tv K A B C N M g) m := by
    intro w m a b
    by_cases e : m = n
    · rw [e]; exact w
    · exact hno m a (by omega)
  rw [nI_1]
  refine pk_lt Bd n (fun z => h (-2) row' P3 t3 (Or.inl ⟨rfl, fun m a b => hno m a (by omega)⟩) hr0 hr) (fun z => ⟨_, s_isPP hmk hn1 (by omega) (fun p k a b c => c1 ?_) (fun w => c0 ?_), fun _ h => h⟩)
  · refine ⟨pk_in n 200001 (by omega), _, s_valueAtM hw hR hs1 hF hM hM2 hg hn1 (by omega) (fun P4 t4 => ?_), fun _ _ _ h => h⟩
    have t1 := tv_lt (K := K) (A := A) (B := B) (C := C) (N := N) (f := f) (p := p) (k := k) hM
    have t2 := tv_lt (K := K) (A := A) (B := B) (C := C) (N := N) (f := g) (p := p) (k := k) hM
    have e1 : vV (tv K A B C N M f) M n = tv K A B C N M f p k := by rw [c]; exact vV_pow hM a b t1
    have e2 : vV (tv K A B C N M g) M n = tv K A B C N M g p k := by rw [c]; exact vV_pow hM a b t2
    have h2n : 2 ≤ n := by rw [c]; exact Nat.one_lt_pow (show k ≠ 0 by omega) (show 1 < p from a.1)
    rw [nI_clamp (by omega), hr n hn1 z, e1, e2, nI_l (by omega), lg_cmp_eq, lN_eq (by omega) (by omega)]
    exact br_c (fun e => ⟨⟨n + 1, rfl, by omega, by omega, next (pt_no a b c e)⟩, ms_up (by omega) (by omega)⟩) (fun e => h (nI n) row' P4 t4 (Or.inr ⟨n, h2n, z, ⟨p, k, a, b, c, e⟩, hno, rfl⟩) hr0 hr)
  · exact ⟨⟨n + 1, rfl, by omega, by omega, next (fun ⟨p, k, a, b, c, _⟩ => w ⟨p, k, a, b, c⟩)⟩, ms_up (by omega) (by omega)⟩
set_option maxHeartbeats 2000000 in
theorem cs_1274 {L : Nat} {xs : Nat → Int32} {rf : Nat → Int32} {rm : Nat → Int32} {rl : Nat → Int32} {ru : Nat → Int32} {rn : Nat → Nat} {rv : Nat → Nat → Int32} {now_bound : Int32} {now_modulus : Int32} {now_seed : Int32} {now_functions : Int32} {now_names : Nat → Int32} {now_kinds : Nat → Int32} {now_firsts : Nat → Int32} {now_seconds : Nat → Int32} {now_degrees : Nat → Int32} {now_colours : Nat → Int32} {now_needs : Nat → Int32} {now_numbers : Nat → Int32} {reader_lines : Int32} {reader_faulty : Int32} {reader_place : Int32} {reader_token : Int32} {reader_toldOnce : Int32} {reader_tape_fed : Int32} {reader_tape_length : Int32} {reader_tape_tokens : Int32} {reader_tape_at : Int32} {reader_tape_bytes : Nat → Int32} {reader_tape_sorts : Nat → Int32} {reader_tape_starts : Nat → Int32} {reader_tape_contents : Nat → Int32} {reader_plan_bound : Int32} {reader_plan_modulus : Int32} {reader_plan_seed : Int32} {reader_plan_functions : Int32} {reader_plan_names : Nat → Int32} {reader_plan_kinds : Nat → Int32} {reader_plan_firsts : Nat → Int32} {reader_plan_seconds : Nat → Int32} {reader_plan_degrees : Nat → Int32} {reader_plan_colours : Nat → Int32} {reader_plan_needs : Nat → Int32} {reader_plan_numbers : Nat → Int32} {changes_size : Int32} {changes_top : Int32} {changes_kinds : Nat → Int32} {changes_cells : Nat → Int32} {changes_ones : Nat → Int32} {changes_others : Nat → Int32} {image_kept : Int32} {image_bound : Int32} {image_modulus : Int32} {image_numbers : Nat → Int32} {rows_turn : Int32} {rows_sieve_least : Nat → Int32} {rows_powers_ofPrime : Nat → Int32} {rows_powers_cells : Nat → Int32} {couples_x : Int32} {couples_root : Int32} {couples_small : Nat → Int64} {couples_great : Nat → Int64} {n_rows_sieve_least : Nat} {M_thrown : Int32} {M_taped : Int32} {M_lines : Int32} {M_size : Int32} {M_atF : Int32} {M_place : Int32} {M_sort : Int32} {M_value : Int32} {M_fault : Int32} {M_faultPlace : Int32} {M_lastFault : Int32} {M_lastPlace : Int32} {M_undoable : Int32} {M_hasImage : Int32} {M_rowOf : Int32} {M_areSums : Int32} {M_isSieved : Int32} {M_blocks : Int32} {M_drawn : Int32} {M_tape : Nat → Int32} {M_number : Nat → Int32} {M_isTold : Nat → Int32} {M_name : Nat → Int32} {M_sortOf : Nat → Int32} {M_first : Nat → Int32} {M_second : Nat → Int32} {M_degree : Nat → Int32} {M_colours : Nat → Int32} {M_signBy : Nat → Int32} {M_own : Nat → Int32} {M_sF : Nat → Int32} {M_kept : Nat → Int32} {M_power : Nat → Int64} {M_table : Nat → Int64} {M_marks : Nat → Int32} {M_row : Nat → Int32} {M_lastOf : Nat → Int32} {M_inBlock : Nat → Int64} {M_atQuotient : Nat → Int64} {M_small : Nat → Int64} {out : Nat → Int64} {x4 : Int32} {kc : Nat} {ks : Nat} {Nx : (Nat → Int32) → (Nat → Int32) → (Nat → Int32) → (Nat → Int32) → (Nat → Nat) → (Nat → Nat → Int32) → (Int32) → (Int32) → (Int32) → (Int32) → (Nat → Int32) → (Nat → Int32) → (Nat → Int32) → (Nat → Int32) → (Nat → Int32) → (Nat → Int32) → (Nat → Int32) → (Nat → Int32) → (Int32) → (Int32) → (Int32) → (Int32) → (Int32) → (Int32) → (Int32) → (Int32) → (Int32) → (Nat → Int32) → (Nat → Int32) → (Nat → Int32) → (Nat → Int32) → (Int32) → (Int32) → (Int32) → (Int32) → (Nat → Int32) → (Nat → Int32) → (Nat → Int32) → (Nat → Int32) → (Nat → Int32) → (Nat → Int32) → (Nat → Int32) → (Nat → Int32) → (Int32) → (Int32) → (Nat → Int32) → (Nat → Int32) → (Nat → Int32) → (Nat → Int32) → (Int32) → (Int32) → (Int32) → (Nat → Int32) → (Int32) → (Nat → Int32) → (Nat → Int32) → (Nat → Int32) → (Int32) → (Int32) → (Nat → Int64) → (Nat → Int64) → (Nat) → (Int32) → (Int32) → (Int32) → (Int32) → (Int32) → (Int32) → (Int32) → (Int32) → (Int32) → (Int32) → (Int32) → (Int32) → (Int32) → (Int32) → (Int32) → (Int32) → (Int32) → (Int32) → (Int32) → (Nat → Int32) → (Nat → Int32) → (Nat → Int32) → (Nat → Int32) → (Nat → Int32) → (Nat → Int32) → (Nat → Int32) → (Nat → Int32) → (Nat → Int32) → (Nat → Int32) → (Nat → Int32) → (Nat → Int32) → (Nat → Int32) → (Nat → Int64) → (Nat → Int64) → (Nat → Int32) → (Nat → Int32) → (Nat → Int32) → (Nat → Int64) → (Nat → Int64) → (Nat → Int64) → (Nat → Int64) → (Int32) → (Nat) → (Nat) → Prop} {i Bd M Sd F fd T cx cr sz tp : Nat} (hpos : posR L i T x4 kc ks n_rows_sieve_least rn) (h6 : 6 * i + 6 ≤ L) (hpl : plR Bd M Sd F now_bound now_modulus now_seed now_functions now_names now_kinds now_firsts now_seconds now_degrees now_colours now_needs now_numbers M_number M_name M_sortOf M_first M_second M_degree M_colours M_signBy M_sF) (htp : tpR fd reader_tape_fed reader_tape_bytes M_taped M_tape) (hfl : (reader_faulty = M_lastFault ∧ reader_place = M_lastPlace)) (hch : chR sz tp changes_size changes_top changes_kinds changes_cells changes_ones changes_others M_undoable M_kept M_sF) (him : imR F image_kept image_bound image_modulus image_numbers M_hasImage M_kept) (hro : roR T F n_rows_sieve_least now_kinds now_firsts now_seconds now_colours now_numbers rows_turn rf rm rl ru rn rv rows_sieve_least rows_powers_cells rows_powers_ofPrime) (hcp : (couples_x = nI cx ∧ couples_root = nI cr ∧ cpOK cx cr couples_great couples_small)) (hmo : moR F now_kinds now_firsts now_seconds now_colours now_numbers M Bd M_isSieved M_rowOf M_areSums M_marks M_row) (hN : ∀ (rf2 : Nat → Int32) (rm2 : Nat → Int32) (rl2 : Nat → Int32) (ru2 : Nat → Int32) (rn2 : Nat → Nat) (rv2 : Nat → Nat → Int32) (now_bound2 : Int32) (now_modulus2 : Int32) (now_seed2 : Int32) (now_functions2 : Int32) (now_names2 : Nat → Int32) (now_kinds2 : Nat → Int32) (now_firsts2 : Nat → Int32) (now_seconds2 : Nat → Int32) (now_degrees2 : Nat → Int32) (now_colours2 : Nat → Int32) (now_needs2 : Nat → Int32) (now_numbers2 : Nat → Int32) (reader_lines2 : Int32) (reader_faulty2 : Int32) (reader_place2 : Int32) (reader_token2 : Int32) (reader_toldOnce2 : Int32) (reader_tape_fed2 : Int32) (reader_tape_length2 : Int32) (reader_tape_tokens2 : Int32) (reader_tape_at2 : Int32) (reader_tape_bytes2 : Nat → Int32) (reader_tape_sorts2 : Nat → Int32) (reader_tape_starts2 : Nat → Int32) (reader_tape_contents2 : Nat → Int32) (reader_plan_bound2 : Int32) (reader_plan_modulus2 : Int32) (reader_plan_seed2 : Int32) (reader_plan_functions2 : Int32) (reader_plan_names2 : Nat → Int32) (reader_plan_kinds2 : Nat → Int32) (reader_plan_firsts2 : Nat → Int32) (reader_plan_seconds2 : Nat → Int32) (reader_plan_degrees2 : Nat → Int32) (reader_plan_colours2 : Nat → Int32) (reader_plan_needs2 : Nat → Int32) (reader_plan_numbers2 : Nat → Int32) (changes_size2 : Int32) (changes_top2 : Int32) (changes_kinds2 : Nat → Int32) (changes_cells2 : Nat → Int32) (changes_ones2 : Nat → Int32) (changes_others2 : Nat → Int32) (image_kept2 : Int32) (image_bound2 : Int32) (image_modulus2 : Int32) (image_numbers2 : Nat → Int32) (rows_turn2 : Int32) (rows_sieve_least2 : Nat → Int32) (rows_powers_ofPrime2 : Nat → Int32) (rows_powers_cells2 : Nat → Int32) (couples_x2 : Int32) (couples_root2 : Int32) (couples_small2 : Nat → Int64) (couples_great2 : Nat → Int64) (n_rows_sieve_least2 : Nat) (M_thrown2 : Int32) (M_taped2 : Int32) (M_lines2 : Int32) (M_size2 : Int32) (M_atF2 : Int32) (M_place2 : Int32) (M_sort2 : Int32) (M_value2 : Int32) (M_fault2 : Int32) (M_faultPlace2 : Int32) (M_lastFault2 : Int32) (M_lastPlace2 : Int32) (M_undoable2 : Int32) (M_hasImage2 : Int32) (M_rowOf2 : Int32) (M_areSums2 : Int32) (M_isSieved2 : Int32) (M_blocks2 : Int32) (M_drawn2 : Int32) (M_tape2 : Nat → Int32) (M_number2 : Nat → Int32) (M_isTold2 : Nat → Int32) (M_name2 : Nat → Int32) (M_sortOf2 : Nat → Int32) (M_first2 : Nat → Int32) (M_second2 : Nat → Int32) (M_degree2 : Nat → Int32) (M_colours2 : Nat → Int32) (M_signBy2 : Nat → Int32) (M_own2 : Nat → Int32) (M_sF2 : Nat → Int32) (M_kept2 : Nat → Int32) (M_power2 : Nat → Int64) (M_table2 : Nat → Int64) (M_marks2 : Nat → Int32) (M_row2 : Nat → Int32) (M_lastOf2 : Nat → Int32) (M_inBlock2 : Nat → Int64) (M_atQuotient2 : Nat → Int64) (M_small2 : Nat → Int64) (out2 : Nat → Int64) (x42 : Int32) (kc2 : Nat) (ks2 : Nat), invL L rf2 rm2 rl2 ru2 rn2 rv2 now_bound2 now_modulus2 now_seed2 now_functions2 now_names2 now_kinds2 now_firsts2 now_seconds2 now_degrees2 now_colours2 now_needs2 now_numbers2 reader_lines2 reader_faulty2 reader_place2 reader_token2 reader_toldOnce2 reader_tape_fed2 reader_tape_length2 reader_tape_tokens2 reader_tape_at2 reader_tape_bytes2 reader_tape_sorts2 reader_tape_starts2 reader_tape_contents2 reader_plan_bound2 reader_plan_modulus2 reader_plan_seed2 reader_plan_functions2 reader_plan_names2 reader_plan_kinds2 reader_plan_firsts2 reader_plan_seconds2 reader_plan_degrees2 reader_plan_colours2 reader_plan_needs2 reader_plan_numbers2 changes_size2 changes_top2 changes_kinds2 changes_cells2 changes_ones2 changes_others2 image_kept2 image_bound2 image_modulus2 image_numbers2 rows_turn2 rows_sieve_least2 rows_powers_ofPrime2 rows_powers_cells2 couples_x2 couples_root2 couples_small2 couples_great2 n_rows_sieve_least2 M_thrown2 M_taped2 M_lines2 M_size2 M_atF2 M_place2 M_sort2 M_value2 M_fault2 M_faultPlace2 M_lastFault2 M_lastPlace2 M_undoable2 M_hasImage2 M_rowOf2 M_areSums2 M_isSieved2 M_blocks2 M_drawn2 M_tape2 M_number2 M_isTold2 M_name2 M_sortOf2 M_first2 M_second2 M_degree2 M_colours2 M_signBy2 M_own2 M_sF2 M_kept2 M_power2 M_table2 M_marks2 M_row2 M_lastOf2 M_inBlock2 M_atQuotient2 M_small2 out2 x42 kc2 ks2 → meaL L rf2 rm2 rl2 ru2 rn2 rv2 now_bound2 now_modulus2 now_seed2 now_functions2 now_names2 now_kinds2 now_firsts2 now_seconds2 now_degrees2 now_colours2 now_needs2 now_numbers2 reader_lines2 reader_faulty2 reader_place2 reader_token2 reader_toldOnce2 reader_tape_fed2 reader_tape_length2 reader_tape_tokens2 reader_tape_at2 reader_tape_bytes2 reader_tape_sorts2 reader_tape_starts2 reader_tape_contents2 reader_plan_bound2 reader_plan_modulus2 reader_plan_seed2 reader_plan_functions2 reader_plan_names2 reader_plan_kinds2 reader_plan_firsts2 reader_plan_seconds2 reader_plan_degrees2 reader_plan_colours2 reader_plan_needs2 reader_plan_numbers2 changes_size2 changes_top2 changes_kinds2 changes_cells2 changes_ones2 changes_others2 image_kept2 image_bound2 image_modulus2 image_numbers2 rows_turn2 rows_sieve_least2 rows_powers_ofPrime2 rows_powers_cells2 couples_x2 couples_root2 couples_small2 couples_great2 n_rows_sieve_least2 M_thrown2 M_taped2 M_lines2 M_size2 M_atF2 M_place2 M_sort2 M_value2 M_fault2 M_faultPlace2 M_lastFault2 M_lastPlace2 M_undoable2 M_hasImage2 M_rowOf2 M_areSums2 M_isSieved2 M_blocks2 M_drawn2 M_tape2 M_number2 M_isTold2 M_name2 M_sortOf2 M_first2 M_second2 M_degree2 M_colours2 M_signBy2 M_own2 M_sF2 M_kept2 M_power2 M_table2 M_marks2 M_row2 M_lastOf2 M_inBlock2 M_atQuotient2 M_small2 out2 x42 kc2 ks2 < meaL L rf rm rl ru rn rv now_bound now_modulus now_seed now_functions now_names now_kinds now_firsts now_seconds now_degrees now_colours now_needs now_numbers reader_lines reader_faulty reader_place reader_token reader_toldOnce reader_tape_fed reader_tape_length reader_tape_tokens reader_tape_at reader_tape_bytes reader_tape_sorts reader_tape_starts reader_tape_contents reader_plan_bound reader_plan_modulus reader_plan_seed reader_plan_functions reader_plan_names reader_plan_kinds reader_plan_firsts reader_plan_seconds reader_plan_degrees reader_plan_colours reader_plan_needs reader_plan_numbers changes_size changes_top changes_kinds changes_cells changes_ones changes_others image_kept image_bound image_modulus image_numbers rows_turn rows_sieve_least rows_powers_ofPrime rows_powers_cells couples_x couples_root couples_small couples_great n_rows_sieve_least M_thrown M_taped M_lines M_size M_atF M_place M_sort M_value M_fault M_faultPlace M_lastFault M_lastPlace M_undoable M_hasImage M_rowOf M_areSums M_isSieved M_blocks M_drawn M_tape M_number M_isTold M_name M_sortOf M_first M_second M_degree M_colours M_signBy M_own M_sF M_kept M_power M_table M_marks M_row M_lastOf M_inBlock M_atQuotient M_small out x4 kc ks → Nx rf2 rm2 rl2 ru2 rn2 rv2 now_bound2 now_modulus2 now_seed2 now_functions2 now_names2 now_kinds2 now_firsts2 now_seconds2 now_degrees2 now_colours2 now_needs2 now_numbers2 reader_lines2 reader_faulty2 reader_place2 reader_token2 reader_toldOnce2 reader_tape_fed2 reader_tape_length2 reader_tape_tokens2 reader_tape_at2 reader_tape_bytes2 reader_tape_sorts2 reader_tape_starts2 reader_tape_contents2 reader_plan_bound2 reader_plan_modulus2 reader_plan_seed2 reader_plan_functions2 reader_plan_names2 reader_plan_kinds2 reader_plan_firsts2 reader_plan_seconds2 reader_plan_degrees2 reader_plan_colours2 reader_plan_needs2 reader_plan_numbers2 changes_size2 changes_top2 changes_kinds2 changes_cells2 changes_ones2 changes_others2 image_kept2 image_bound2 image_modulus2 image_numbers2 rows_turn2 rows_sieve_least2 rows_powers_ofPrime2 rows_powers_cells2 couples_x2 couples_root2 couples_small2 couples_great2 n_rows_sieve_least2 M_thrown2 M_taped2 M_lines2 M_size2 M_atF2 M_place2 M_sort2 M_value2 M_fault2 M_faultPlace2 M_lastFault2 M_lastPlace2 M_undoable2 M_hasImage2 M_rowOf2 M_areSums2 M_isSieved2 M_blocks2 M_drawn2 M_tape2 M_number2 M_isTold2 M_name2 M_sortOf2 M_first2 M_second2 M_degree2 M_colours2 M_signBy2 M_own2 M_sF2 M_kept2 M_power2 M_table2 M_marks2 M_row2 M_lastOf2 M_inBlock2 M_atQuotient2 M_small2 out2 x42 kc2 ks2) : wB_1274 L xs rf rm rl ru rn rv now_bound now_modulus now_seed now_functions now_names now_kinds now_firsts now_seconds now_degrees now_colours now_needs now_numbers reader_lines reader_faulty reader_place reader_token reader_toldOnce reader_tape_fed reader_tape_length reader_tape_tokens reader_tape_at reader_tape_bytes reader_tape_sorts reader_tape_starts reader_tape_contents reader_plan_bound reader_plan_modulus reader_plan_seed reader_plan_functions reader_plan_names reader_plan_kinds reader_plan_firsts reader_plan_seconds reader_plan_degrees reader_plan_colours reader_plan_needs reader_plan_numbers changes_size changes_top changes_kinds changes_cells changes_ones changes_others image_kept image_bound image_modulus image_numbers rows_turn rows_sieve_least rows_powers_ofPrime rows_powers_cells couples_x couples_root couples_small couples_great n_rows_sieve_least M_thrown M_taped M_lines M_size M_atF M_place M_sort M_value M_fault M_faultPlace M_lastFault M_lastPlace M_undoable M_hasImage M_rowOf M_areSums M_isSieved M_blocks M_drawn M_tape M_number M_isTold M_name M_sortOf M_first M_second M_degree M_colours M_signBy M_own M_sF M_kept M_power M_table M_marks M_row M_lastOf M_inBlock M_atQuotient M_small out x4 kc ks Nx := by
  unfold wB_1274
  have hpl2 := hpl
  obtain ⟨⟨hB1, hB2, hM1, hM2, hSd, hF1, hF2⟩, ⟨rfl, rfl, rfl, rfl⟩, hw, hn, hR, ⟨hs0, hs1, hnu2, hnu3⟩, hnam⟩ := hpl2
  have hro2 := hro
  obtain ⟨rfl, hpE, hpV, ⟨hL1, hL2, hsv⟩, hpw⟩ := hro2
  have hmo2 := hmo
  obtain ⟨hiS, hmk, hrc⟩ := hmo2
  have i1 := pos_in 1 hpos.1 h6 hpos.2.2.1 (by omega)
  have i2 := pos_in 2 hpos.1 h6 hpos.2.2.1 (by omega)
  generalize xs (x4 + 1).toNatClampNeg = a1
  generalize xs (x4 + 2).toNatClampNeg = a2
  refine ⟨i1, i2, ?_⟩
  by_cases hv : ∃ n1 n2 : Nat, (n1 < F) ∧ (n2 < F) ∧ a1 = nI n1 ∧ a2 = nI n2
  case neg => exact ⟨0, 0, _, roomN hpos hL2 hpE, n_X10_parts hB2 hM2 hF1 hF2 hv ⟨i1, i2, _, n_X11_parts hB2 hM2 hF1 hF2 hs0 hs1 hnu3 hv (eqans rfl (hN _ _ _ _ _ _ _ _ _ _ _ _ _ _ _ _ _ _ _ _ _ _ _ _ _ _ _ _ _ _ _ _ _ _ _ _ _ _ _ _ _ _ _ _ _ _ _ _ _ _ _ _ _ _ _ _ _ _ _ _ _ _ _ _ _ _ _ _ _ _ _ _ _ _ _ _ _ _ _ _ _ _ _ _ _ _ _ _ _ _ _ _ _ _ _ _ _ _ _ _ _ _ _ _ _ _ ⟨i + 1, Bd, M, Sd, F, fd, T, cx, cr, sz, tp, pos_0 hpos h6, hpl, htp, hfl, hch, him, hro, hcp, hmo⟩ (pos_mea hpos h6))), fun _ _ _ _ _ _ _ h => h⟩, fun _ _ _ _ _ h => h⟩
  obtain ⟨n1, n2, h1, h2, rfl, rfl⟩ := hv
  by_cases hfg : n1 = n2
  · exact ⟨0, 0, _, roomN hpos hL2 hpE, y_X10_parts hB2 hM2 hF1 hF2 h1 h2 ⟨fun e => absurd (by rw [hfg]) e, fun _ => ⟨i1, i2, _, y_X11_parts hB2 hM2 hF1 hF2 hs0 hs1 hnu3 h1 h2 ⟨fun e => absurd (by rw [hfg]) e, fun _ => eqans rfl (hN _ _ _ _ _ _ _ _ _ _ _ _ _ _ _ _ _ _ _ _ _ _ _ _ _ _ _ _ _ _ _ _ _ _ _ _ _ _ _ _ _ _ _ _ _ _ _ _ _ _ _ _ _ _ _ _ _ _ _ _ _ _ _ _ _ _ _ _ _ _ _ _ _ _ _ _ _ _ _ _ _ _ _ _ _ _ _ _ _ _ _ _ _ _ _ _ _ _ _ _ _ _ _ _ _ _ ⟨i + 1, Bd, M, Sd, F, fd, T, cx, cr, sz, tp, pos_0 hpos h6, hpl, htp, hfl, hch, him, hro, hcp, hmo⟩ (pos_mea hpos h6))⟩, fun _ _ _ _ _ _ _ h => h⟩⟩, fun _ _ _ _ _ h => h⟩
  obtain ⟨J, hJ, hup⟩ := s_parts (se := nI Sd) (turn := nI T) (C := now_colours) (N := now_numbers) hw hn hF1 hF2 hB1 hB2 hM1 hM2 h1 h2 hfg hL1 hL2 hsv hpw
  have g1 := lSq_b hL1 hL2 J hJ
  have g2 := kSq_b hL1 hL2 J hJ
  have g3 := (cSq_b hL1 hL2 J hJ).1
  refine ⟨cSq n_rows_sieve_least J, kSq n_rows_sieve_least J, _, room_ok (T2 := T) (ru2 := ru) (rn2 := rn) hpos (by omega) (by omega) g1.2 hpE, hup _ (fun ans le' ce' p' q2 q3 q4 => ?_), fun _ _ _ _ _ h => h⟩
  refine ⟨i1, i2, _, m_parts hw hR hs0 hs1 hnu3 hF1 hF2 hB1 hB2 hM1 hM2 h1 h2 hfg hmk hrc (fun ans2 row' P2 t2 w1 w0 w2 => ?_), fun _ _ _ _ _ _ _ h => h⟩
  exact eqans (pt_one q4 w1) (hN _ _ _ _ _ _ _ _ _ _ _ _ _ _ _ _ _ _ _ _ _ _ _ _ _ _ _ _ _ _ _ _ _ _ _ _ _ _ _ _ _ _ _ _ _ _ _ _ _ _ _ _ _ _ _ _ _ _ _ _ _ _ _ _ _ _ _ _ _ _ _ _ _ _ _ _ _ _ _ _ _ _ _ _ _ _ _ _ _ _ _ _ _ _ _ _ _ _ _ _ _ _ _ _ _ _ ⟨i + 1, Bd, M, Sd, F, fd, T, cx, cr, sz, tp, pos_up (mc := cSq n_rows_sieve_least J) hpos h6 (by omega) (by omega) (by omega), hpl, htp, hfl, hch, him, ⟨rfl, hpE, hpV, ⟨g1.1, g1.2, q2⟩, q3⟩, hcp, ⟨hiS, hmk, rc_val hF2 h1 w0 w2⟩⟩ (pos_mea hpos h6))
