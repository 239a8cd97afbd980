/-! PURE: the reference's tokens -/
def hM (b : Nat → Int32) (n a : Nat) : Int32 := if a < n then b a else -1
theorem hM_lt {b : Nat → Int32} {n a : Nat} (h : a < n) : hM b n a = b a := if_pos h
theorem hM_ge {b : Nat → Int32} {n a : Nat} (h : ¬ a < n) : hM b n a = -1 := if_neg h
theorem ltr_m1 : ¬ ltr (-1) := fun h => h.1 (by decide)
theorem dgt_m1 : ¬ dgt (-1) := fun h => h.1 (by decide)
theorem s_hereM {qth qta qli qsi qat qpl qso qva qfa qfp qlf qlp qun qhi qro qar qiS qbl qdr : Int32} {tape b : Nat → Int32} {n a : Nat} {Q : Int32 → Prop} (hs : qsi = nI n) (hq : qat = nI a) (hn : n ≤ 700) (ha : a < 2 ^ 31) (hb : ∀ i, i < n → tape i = b i) (h : Q (hM b n a)) : wX11_here qth qta qli qsi qat qpl qso qva qfa qfp qlf qlp qun qhi qro qar qiS qbl qdr tape Q := by
  unfold wX11_here
  rw [hs, hq]
  refine pk_le n a (fun z => ?_) (fun z => ⟨vp_in_nI (by omega) (by omega), ?_⟩)
  · rw [hM_ge (by omega)] at h; exact h
  · rw [nI_clamp (by omega), hb a z]; rw [hM_lt z] at h; exact h
theorem s_isSmallM {x : Int32} {Q : Int32 → Prop} (h1 : ltr x → Q 1) (h0 : ¬ ltr x → Q 0) : wX11_isSmall x Q := by
  unfold wX11_isSmall
  exact br_c (fun e => h0 (fun w => w.1 e)) (fun e => br_c (fun e2 => h0 (fun w => w.2 e2)) (fun e2 => h1 ⟨e, e2⟩))
theorem s_isDigitM {x : Int32} {Q : Int32 → Prop} (h1 : dgt x → Q 1) (h0 : ¬ dgt x → Q 0) : wX11_isDigit x Q := by
  unfold wX11_isDigit
  exact br_c (fun e => h0 (fun w => w.1 e)) (fun e => br_c (fun e2 => h0 (fun w => w.2 e2)) (fun e2 => h1 ⟨e, e2⟩))
def dM (b : Nat → Int32) (s : Nat) : Nat → Nat
  | 0 => 0
  | k + 1 => if dM b s k ≤ 9999999 then 10 * dM b s k + ((b (s + k)).toNatClampNeg - 48) else dM b s k
def nrel (c m : Nat) : Prop := (c = m ∨ (10000000 ≤ c ∧ 10000000 ≤ m)) ∧ c ≤ 100000000 ∧ m ≤ 100000000
theorem dM_r {b : Nat → Int32} {s : Nat} : ∀ {k : Nat}, (∀ i, i < k → dgt (b (s + i))) → nrel (dC b s k) (dM b s k)
  | 0, _ => ⟨Or.inl rfl, Nat.zero_le _, Nat.zero_le _⟩
  | k + 1, h => by
    obtain ⟨h1, h2, h3⟩ := dM_r (b := b) (s := s) (k := k) (fun i hi => h i (by omega))
    obtain ⟨d, hd, e⟩ := dgt_n (h k (by omega))
    unfold nrel
    rw [dC, dM, e, nI_clamp (by omega), show 48 + d - 48 = d by omega]
    by_cases c1 : dC b s k * 10 + d < 100000000
    · rw [if_pos c1]
      by_cases c2 : dM b s k ≤ 9999999
      · rw [if_pos c2]; omega
      · rw [if_neg c2]; omega
    · rw [if_neg c1]
      by_cases c2 : dM b s k ≤ 9999999
      · rw [if_pos c2]; omega
      · rw [if_neg c2]; omega
theorem s_digitsM {qth qta qli qsi qat qpl qso qva qfa qfp qlf qlp qun qhi qro qar qiS qbl qdr : Int32} {tape b : Nat → Int32} {n a e : Nat} {Q : Int32 → Int32 → Prop} (hs : qsi = nI n) (hq : qat = nI a) (hn : n ≤ 700) (hae : a ≤ e) (hen : e ≤ n) (hb : ∀ i, i < n → tape i = b i) (hd : ∀ i, a ≤ i → i < e → dgt (b i)) (hx : e < n → ¬ dgt (b e)) (h : Q (nI e) (nI (dM b a (e - a)))) : wX11_digits qth qta qli qsi qat qpl qso qva qfa qfp qlf qlp qun qhi qro qar qiS qbl qdr tape Q := by
  unfold wX11_digits
  refine ⟨fun y v => ∃ j : Nat, y = nI j ∧ a ≤ j ∧ j ≤ e ∧ v = nI (dM b a (j - a)), fun y _ => 701 - y.toNatClampNeg, ⟨a, hq, Nat.le_refl _, hae, by rw [Nat.sub_self]; rfl⟩, ?_⟩
  rintro y v ⟨j, rfl, h1, h2, rfl⟩
  refine ⟨_, s_hereM hs rfl hn (by omega) hb ?_, fun _ h => h⟩
  by_cases c : j < e
  · rw [hM_lt (by omega)]
    refine ⟨_, s_isDigitM (fun w => c1 ?_) (fun w => absurd (hd j h1 c) w), fun _ h => h⟩
    obtain ⟨d, hd2, hbe⟩ := dgt_n w
    have hr := dM_r (b := b) (s := a) (k := j - a) (fun i hi => hd _ (by omega) (by omega))
    have hm := hr.2.2
    rw [nI_1]
    have ed : dM b a (j + 1 - a) = if dM b a (j - a) ≤ 9999999 then 10 * dM b a (j - a) + d else dM b a (j - a) := by
      rw [show j + 1 - a = j - a + 1 by omega, dM, show a + (j - a) = j by omega, hbe, nI_clamp (by omega), show 48 + d - 48 = d by omega]
    refine pk_le (dM b a (j - a)) 9999999 (fun q => ?_) (fun q => ?_)
    · refine ⟨_, s_hereM hs rfl hn (by omega) hb ?_, fun _ h => h⟩
      rw [hM_lt (by omega), hbe, show (10 : Int32) = nI 10 from rfl, pk_mul, nI_add, show (48 : Int32) = nI 48 from rfl, pk_sub (by omega)]
      rintro v2 rfl y2 rfl
      refine ⟨⟨j + 1, rfl, by omega, by omega, ?_⟩, ms_up (by omega) (by omega)⟩
      rw [ed, if_pos q]; congr 1; omega
    · rintro y2 rfl
      refine ⟨⟨j + 1, rfl, by omega, by omega, ?_⟩, ms_up (by omega) (by omega)⟩
      rw [ed, if_neg (by omega)]
  · obtain rfl : j = e := by omega
    refine ⟨_, s_isDigitM (fun w => ?_) (fun w => c0 h), fun _ h => h⟩
    by_cases c2 : j < n
    · rw [hM_lt c2] at w; exact absurd w (hx c2)
    · rw [hM_ge c2] at w; exact absurd w dgt_m1
theorem wo_9 : ∀ w, w ≤ 9 → (49 ≤ wo w → w = 9) ∧ wo w ≤ 49 := by decide +kernel
theorem skip_w {w : Nat} (hw : w < 9) {R : Int32 → Prop} (h : R (nI (wo w + wl w))) : ∃ (Inv_3 : (Int32) → Prop) (Mea_3 : (Int32) → Nat), Inv_3 (nI (wo w)) ∧ ∀ (x2_2 : Int32), Inv_3 x2_2 → (vp_in x2_2 49 ∧ (((gCh 5 x2_2.toNatClampNeg) = 32 → R x2_2) ∧ (¬ (gCh 5 x2_2.toNatClampNeg) = 32 → (Inv_3 (x2_2 + 1) ∧ Mea_3 (x2_2 + 1) < Mea_3 x2_2)))) := by
  obtain ⟨o1, o2, o3, o4, o5⟩ := wl_o w hw
  refine ⟨fun y => ∃ j : Nat, y = nI (wo w + j) ∧ j ≤ wl w, fun y => 60 - y.toNatClampNeg, ⟨0, rfl, by omega⟩, ?_⟩
  rintro y ⟨j, rfl, hj⟩
  refine ⟨vp_in_nI (by omega) (by omega), ?_⟩
  rw [nI_clamp (by omega), nI_1]
  by_cases c : j < wl w
  · obtain ⟨q1, q2⟩ := (wl_c w hw j (by omega)).1 c
    exact br_f (by rw [q2]; exact q1) ⟨⟨j + 1, rfl, c⟩, ms_up (by omega) (by omega)⟩
  · obtain rfl : j = wl w := by omega
    exact br_t o1 h
theorem s_wordM {qth qta qli qsi qat qpl qso qva qfa qfp qlf qlp qun qhi qro qar qiS qbl qdr : Int32} {tape b : Nat → Int32} {n s e : Nat} {Q : Int32 → Prop} (hq : qat = nI e) (hp : qpl = nI s) (hn : n ≤ 700) (hse : s ≤ e) (hen : e ≤ n) (hb : ∀ i, i < n → tape i = b i) (h1 : ∀ w, w < 9 → sp b s e w → (∀ v, v < w → ¬ sp b s e v) → Q (nI w)) (h0 : (∀ v, v < 9 → ¬ sp b s e v) → Q (-1)) : wX11_wordHere qth qta qli qsi qat qpl qso qva qfa qfp qlf qlp qun qhi qro qar qiS qbl qdr tape Q := by
  unfold wX11_wordHere
  rw [hq, hp]
  refine ⟨fun x y => ∃ w : Nat, w ≤ 9 ∧ x = nI w ∧ y = nI (wo w) ∧ ∀ v, v < w → ¬ sp b s e v, fun x _ => 10 - x.toNatClampNeg, ⟨0, by omega, rfl, rfl, fun v hv => by omega⟩, ?_⟩
  rintro x y ⟨w, hw, rfl, rfl, hno⟩
  obtain ⟨w91, w92⟩ := wo_9 w hw
  refine pk_le 49 (wo w) (fun z => h0 (fun v hv => hno v (by have := w91 z; omega))) (fun z => ?_)
  have hw9 : w < 9 := by
    rcases Nat.lt_or_ge w 9 with c | c
    · exact c
    · have e9 : w = 9 := by omega
      subst e9
      exact absurd z (by decide)
  obtain ⟨o1, o2, o3, o4, o5⟩ := wl_o w hw9
  have next : ¬ sp b s e w → ((∃ w' : Nat, w' ≤ 9 ∧ nI w + 1 = nI w' ∧ nI (wo w + wl w) + 1 = nI (wo w') ∧ ∀ v, v < w' → ¬ sp b s e v) ∧ 10 - (nI w + 1).toNatClampNeg < 10 - (nI w).toNatClampNeg) := by
    intro hs
    rw [nI_1, nI_1]
    refine ⟨⟨w + 1, by omega, rfl, by rw [o2], fun v hv => ?_⟩, ms_up (by omega) (by omega)⟩
    by_cases c : v = w
    · rw [c]; exact hs
    · exact hno v (by omega)
  refine ⟨fun y => ∃ k : Nat, y = nI k ∧ k ≤ wl w ∧ s + k ≤ e ∧ ∀ i, i < k → b (s + i) = gCh 1 (7 * w + i), fun y => 8 - y.toNatClampNeg, ⟨0, rfl, by omega, by omega, fun i hi => by omega⟩, ?_⟩
  rintro y ⟨k, rfl, hk, hke, hi⟩
  rw [nI_add, nI_add, nI_1]
  refine ⟨vp_in_nI (by omega) (by omega), ?_⟩
  rw [nI_clamp (show wo w + k < 2 ^ 31 by omega), nI_clamp (show s + k < 2 ^ 31 by omega)]
  refine ⟨k = wl w ∨ (k < wl w ∧ (e ≤ s + k ∨ ¬ b (s + k) = gCh 1 (7 * w + k))), ?_, fun hJ => ⟨vp_in_nI (by omega) (by omega), ?_⟩⟩
  · by_cases c : k < wl w
    · obtain ⟨q1, q2⟩ := (wl_c w hw9 k (by omega)).1 c
      rw [q2]
      refine br_f q1 (pk_le e (s + k) (fun r => Or.inr ⟨c, Or.inl r⟩) (fun r => ⟨vp_in_nI (by omega) (by omega), ?_⟩))
      rw [hb (s + k) (by omega)]
      refine ⟨fun q => Or.inr ⟨c, Or.inr q⟩, fun q => ⟨⟨k + 1, rfl, by omega, by omega, fun i a => ?_⟩, ms_up (by omega) (by omega)⟩⟩
      by_cases c2 : i = k
      · rw [c2]; exact q
      · exact hi i (by omega)
    · obtain rfl : k = wl w := by omega
      exact br_t o1 (Or.inl rfl)
  · rcases hJ with rfl | ⟨c, hJ⟩
    · refine ⟨fun q => absurd o1 q, fun _ => pn_eq (s + wl w) e (fun q => skip_w hw9 (R := fun x2 => _) (next (fun y => q y.1.symm))) (fun q => h1 w hw9 ⟨q.symm, hi⟩ hno)⟩
    · obtain ⟨q1, q2⟩ := (wl_c w hw9 k (by omega)).1 c
      rw [q2]
      refine ⟨fun _ => skip_w hw9 (R := fun x2 => _) (next (fun y => ?_)), fun q => absurd q q1⟩
      rcases hJ with r | r
      · have := y.1; omega
      · exact r (y.2 k c)
theorem s_nameM {qth qta qli qsi qat qpl qso qva qfa qfp qlf qlp qun qhi qro qar qiS qbl qdr : Int32} {tape b : Nat → Int32} {n s e : Nat} {Q : Int32 → Prop} (hq : qat = nI e) (hp : qpl = nI s) (hn : n ≤ 700) (hse : s ≤ e) (hen : e ≤ n) (he6 : e - s ≤ 6) (hb : ∀ i, i < n → tape i = b i) (hl : ∀ i, s ≤ i → i < e → ltr (b i)) (h : Q (nI (nmC b s e))) : wX11_nameHere qth qta qli qsi qat qpl qso qva qfa qfp qlf qlp qun qhi qro qar qiS qbl qdr tape Q := by
  unfold wX11_nameHere
  rw [hq, hp]
  have sh : ∀ u : Nat, u < 32 ^ 5 → nI u <<< ((5 : Int32) &&& 31) = nI (2 ^ 5 * u) := by
    intro u hu
    rw [show (32 : Nat) ^ 5 = 33554432 by decide] at hu
    rw [pk_shlN _ 5 (by decide) (by omega)]; congr 1; omega
  refine ⟨fun v y => ∃ k : Nat, k ≤ 6 ∧ y = nI k ∧ ((k ≤ e - s ∧ v = nI (uW b s k)) ∨ (e - s ≤ k ∧ v = nI (uW b s (e - s) * 32 ^ (k - (e - s))))), fun _ y => 7 - y.toNatClampNeg, ⟨0, by omega, rfl, Or.inl ⟨by omega, rfl⟩⟩, ?_⟩
  rintro v y ⟨k, hk, rfl, hv⟩
  refine pk_le 6 k (fun z => ?_) (fun z => ?_)
  · obtain rfl : k = 6 := by omega
    rcases hv with ⟨w1, rfl⟩ | ⟨w1, rfl⟩
    · have e6 : e - s = 6 := by omega
      have : nmC b s e = uW b s 6 := by rw [nmC, e6]; exact Nat.mul_one _
      rw [this] at h; exact h
    · exact h
  · rw [nI_add, nI_1]
    have hub : ∀ j, j ≤ e - s → uW b s j < 32 ^ j := fun j hj => uW_b (fun i a => hl _ (by omega) (by omega))
    refine pk_le e (s + k) (fun c => ?_) (fun c => ⟨vp_in_nI (by omega) (by omega), ?_⟩)
    · have hv2 : v = nI (uW b s (e - s) * 32 ^ (k - (e - s))) := by
        rcases hv with ⟨w1, rfl⟩ | ⟨w1, rfl⟩
        · have : k = e - s := by omega
          rw [this, Nat.sub_self, Nat.pow_zero, Nat.mul_one]
        · rfl
      have hlt : uW b s (e - s) * 32 ^ (k - (e - s)) < 32 ^ 5 := by
        have q1 := hub (e - s) (Nat.le_refl _)
        have q2 : uW b s (e - s) * 32 ^ (k - (e - s)) < 32 ^ (e - s) * 32 ^ (k - (e - s)) := Nat.mul_lt_mul_of_pos_right q1 (Nat.pow_pos (by omega))
        rw [← Nat.pow_add, show e - s + (k - (e - s)) = k by omega] at q2
        exact Nat.lt_of_lt_of_le q2 (Nat.pow_le_pow_right (by omega) (by omega))
      rw [hv2, sh _ hlt, show (0 : Int32) = nI 0 from rfl, fa_or_sum (k := 5) _ (by decide)]
      rintro v2 rfl
      refine ⟨⟨k + 1, by omega, rfl, Or.inr ⟨by omega, ?_⟩⟩, ms_up (by omega) (by omega)⟩
      rw [show k + 1 - (e - s) = k - (e - s) + 1 by omega, show (32 : Nat) ^ (k - (e - s) + 1) = 32 ^ (k - (e - s)) * 32 from rfl, Nat.add_zero, ← Nat.mul_assoc (uW b s (e - s)), show (2 : Nat) ^ 5 = 32 from rfl, Nat.mul_comm 32]
    · have hv2 : v = nI (uW b s k) := by
        rcases hv with ⟨w1, rfl⟩ | ⟨w1, rfl⟩
        · rfl
        · omega
      have hlt : uW b s k < 32 ^ 5 := Nat.lt_of_lt_of_le (hub k (by omega)) (Nat.pow_le_pow_right (by omega) (by omega))
      obtain ⟨d, hd, hbe⟩ := ltr_n (hl (s + k) (by omega) c)
      rw [nI_clamp (by omega), hb (s + k) (by omega), hbe, hv2, sh _ hlt, show (nI (97 + d) - 97) + 1 = nI (d + 1) from by rw [show (97 : Int32) = nI 97 from rfl, pk_sub (by omega), nI_1]; congr 1; omega, fa_or_sum (k := 5) _ (show d + 1 < 2 ^ 5 by omega)]
      rintro v2 rfl
      refine ⟨⟨k + 1, by omega, rfl, Or.inl ⟨by omega, ?_⟩⟩, ms_up (by omega) (by omega)⟩
      rw [uW, hbe, nI_clamp (by omega)]; congr 1; omega
/-- the class's token and the reference's -/
def mtR (so co ms mv : Int32) : Prop := (∃ w, w < 9 ∧ so = nI (10 + w) ∧ ms = 0 ∧ mv = nI w) ∨ (so = 4 ∧ ms = 1 ∧ mv = co) ∨ (so = 2 ∧ ms = 2 ∧ ∃ c m, co = nI c ∧ mv = nI m ∧ nrel c m) ∨ (so = 3 ∧ ms = 3 ∧ ∃ c m, co = - nI c ∧ mv = - nI m ∧ nrel c m) ∨ (so = 1 ∧ ms = 4) ∨ (so = 5 ∧ ms = 6) ∨ (so = 0 ∧ ms = 5)
theorem m_token {qth qta qli qsi qat qpl qso qva qfa qfp qlf qlp qun qhi qro qar qiS qbl qdr : Int32} {tape b : Nat → Int32} {n a s e : Nat} {so co : Int32} {Q : Int32 → Int32 → Int32 → Int32 → Prop} (hs : qsi = nI n) (hq : qat = nI a) (hn : n ≤ 700) (han : a ≤ n) (hb : ∀ i, i < n → tape i = b i) (hby : ∀ i, i < n → ∃ c, c < 256 ∧ b i = nI c) (ht : tkR b n a s e so co) (h : ∀ ms mv, mtR so co ms mv → Q (nI e) (nI s) ms mv) : wX11_token qth qta qli qsi qat qpl qso qva qfa qfp qlf qlp qun qhi qro qar qiS qbl qdr tape Q := by
  obtain ⟨t1, t2, t3⟩ := ht
  have hsn : s ≤ n := by
    rcases t3 with ⟨r, -⟩ | ⟨r, -⟩ <;> omega
  unfold wX11_token
  refine ⟨fun y => ∃ j : Nat, y = nI j ∧ a ≤ j ∧ j ≤ s, fun y => 701 - y.toNatClampNeg, ⟨a, hq, Nat.le_refl _, t1⟩, ?_⟩
  rintro y ⟨j, rfl, h1, h2⟩
  refine ⟨_, s_hereM hs rfl hn (by omega) hb ?_, fun _ h => h⟩
  by_cases c : j < s
  · have hj := t2 j h1 c
    rw [hM_lt (by omega), nI_1]
    have nx : ∀ y2 : Int32, y2 = nI (j + 1) → ((∃ j' : Nat, y2 = nI j' ∧ a ≤ j' ∧ j' ≤ s) ∧ 701 - y2.toNatClampNeg < 701 - (nI j).toNatClampNeg) := by
      rintro y2 rfl
      exact ⟨⟨j + 1, rfl, by omega, by omega⟩, ms_up (by omega) (by omega)⟩
    rcases hj with q | q
    · exact br_t q nx
    · refine br_f (by rw [q]; decide) ⟨_, s_hereM hs rfl hn (by omega) hb ?_, fun _ h => h⟩
      rw [hM_lt (by omega)]
      exact ⟨fun w => absurd q w, fun _ => nx⟩
  · obtain rfl : j = s := by omega
    rcases t3 with ⟨rfl, rfl, rfl⟩ | ⟨hjn, hnb, hen, hk⟩
    · rw [hM_ge (by omega)]
      refine br_f (by decide) ⟨_, s_hereM hs rfl hn (by omega) hb ?_, fun _ h => h⟩
      rw [hM_ge (by omega)]
      refine ⟨fun _ => ⟨_, s_hereM hs rfl hn (by omega) hb ?_, fun _ h => h⟩, fun w => absurd w (by decide)⟩
      rw [hM_ge (by omega)]
      exact ⟨fun w => absurd rfl w, fun _ => h 5 _ (Or.inr (Or.inr (Or.inr (Or.inr (Or.inr (Or.inr ⟨rfl, rfl⟩))))))⟩
    · rw [hM_lt hjn]
      refine br_f (fun q => hnb (Or.inl q)) ⟨_, s_hereM hs rfl hn (by omega) hb ?_, fun _ h => h⟩
      rw [hM_lt hjn]
      refine ⟨fun _ => ⟨_, s_hereM hs rfl hn (by omega) hb ?_, fun _ h => h⟩, fun w => absurd (Or.inr w) hnb⟩
      rw [hM_lt hjn]
      refine ⟨fun _ => ?_, fun w => ?_⟩
      · rcases hk with ⟨l1, l2, l3, l4, l5⟩ | ⟨d1, d2, d3, d4, rfl, rfl⟩ | ⟨g1, rfl, rfl⟩ | ⟨m1, m2, m3, m4, m5, m6, rfl, rfl⟩ | ⟨n1, n2, n3, n4, rfl, rfl⟩
        · refine ⟨_, s_isSmallM (fun _ => c1 ?_) (fun w => absurd l1 w), fun _ h => h⟩
          refine ⟨fun y => ∃ i : Nat, y = nI i ∧ j ≤ i ∧ i ≤ e, fun y => 701 - y.toNatClampNeg, ⟨j, rfl, by omega, by omega⟩, ?_⟩
          rintro y ⟨i, rfl, i1, i2⟩
          refine ⟨_, s_hereM hs rfl hn (by omega) hb ?_, fun _ h => h⟩
          by_cases ci : i < e
          · rw [hM_lt (by omega)]
            refine ⟨_, s_isSmallM (fun _ => c1 ?_) (fun w => absurd (l3 i i1 ci) w), fun _ h => h⟩
            rw [nI_1]
            rintro y2 rfl
            exact ⟨⟨i + 1, rfl, by omega, by omega⟩, ms_up (by omega) (by omega)⟩
          · obtain rfl : i = e := by omega
            refine ⟨_, s_isSmallM (fun w => ?_) (fun _ => c0 ?_), fun _ h => h⟩
            · by_cases c2 : i < n
              · rw [hM_lt c2] at w; exact absurd w (l4 c2)
              · rw [hM_ge c2] at w; exact absurd w ltr_m1
            · rw [pk_sub i1]
              rcases l5 with ⟨w, hw, w1, w2, rfl⟩ | ⟨w1, w2⟩
              · refine ⟨_, s_wordM rfl rfl hn i1 hen hb (fun w' hw' y1 y2 => br_f (nI_m1 (by omega)) (h 0 _ (Or.inl ⟨w, hw, rfl, rfl, ?_⟩))) (fun y => absurd w1 (y w hw)), fun _ h => h⟩
                have : w' = w := by
                  rcases Nat.lt_or_ge w w' with q | q
                  · exact absurd w1 (y2 w q)
                  · rcases Nat.lt_or_ge w' w with q2 | q2
                    · exact absurd y1 (w2 w' q2)
                    · omega
                rw [this]
              · refine ⟨_, s_wordM rfl rfl hn i1 hen hb (fun w' hw' y1 y2 => absurd y1 (w1 w' hw')) (fun _ => br_t rfl (pk_le (i - j) 6 (fun q => ?_) (fun q => ?_))), fun _ h => h⟩
                · rcases w2 with ⟨-, rfl, rfl⟩ | ⟨w2, -⟩
                  · exact ⟨_, s_nameM rfl rfl hn i1 hen q hb l3 (h 1 _ (Or.inr (Or.inl ⟨rfl, rfl, rfl⟩))), fun _ h => h⟩
                  · omega
                · rcases w2 with ⟨w2, -, -⟩ | ⟨-, rfl⟩
                  · omega
                  · exact h 6 _ (Or.inr (Or.inr (Or.inr (Or.inr (Or.inr (Or.inl ⟨rfl, rfl⟩))))))
        · refine ⟨_, s_isSmallM (fun w => absurd d1 (ltr_dgt w)) (fun _ => c0 ⟨_, s_isDigitM (fun _ => c1 ⟨_, s_digitsM hs rfl hn (by omega) hen hb d3 d4 ?_, fun _ _ h => h⟩) (fun w => absurd d1 w), fun _ h => h⟩), fun _ h => h⟩
          exact h 2 _ (Or.inr (Or.inr (Or.inl ⟨rfl, rfl, _, _, rfl, rfl, dM_r (fun i hi => d3 _ (by omega) (by omega))⟩)))
        · rw [g1, nI_1]
          refine ⟨_, s_isSmallM (fun w => absurd (by decide) w.1) (fun _ => c0 ⟨_, s_isDigitM (fun w => absurd (by decide) w.2) (fun _ => c0 ?_), fun _ h => h⟩), fun _ h => h⟩
          rintro y2 rfl
          exact ⟨fun w => absurd rfl w, fun _ => h 4 _ (Or.inr (Or.inr (Or.inr (Or.inr (Or.inl ⟨rfl, rfl⟩)))))⟩
        · rw [m1, nI_1]
          refine ⟨_, s_isSmallM (fun w => absurd (by decide) w.1) (fun _ => c0 ⟨_, s_isDigitM (fun w => absurd (by decide) w.1) (fun _ => c0 ?_), fun _ h => h⟩), fun _ h => h⟩
          rintro y2 rfl
          refine ⟨fun _ => ⟨fun w => absurd rfl w, fun _ => ⟨_, s_hereM hs rfl hn (by omega) hb ?_, fun _ h => h⟩⟩, fun w => absurd w (by decide)⟩
          rw [hM_lt m2]
          refine ⟨_, s_isDigitM (fun _ => c1 ⟨_, s_digitsM hs rfl hn (by omega) hen hb m5 m6 ?_, fun _ _ h => h⟩) (fun w => absurd m3 w), fun _ h => h⟩
          rintro v2 rfl
          exact h 3 _ (Or.inr (Or.inr (Or.inr (Or.inl ⟨rfl, rfl, _, _, rfl, rfl, dM_r (fun i hi => m5 _ (by omega) (by omega))⟩))))
        · refine ⟨_, s_isSmallM (fun w => absurd w n1) (fun _ => c0 ⟨_, s_isDigitM (fun w => absurd w n2) (fun _ => c0 ?_), fun _ h => h⟩), fun _ h => h⟩
          rw [nI_1]
          rintro y2 rfl
          have fin : Q (nI (j + 1)) (nI j) 6 qva := h 6 _ (Or.inr (Or.inr (Or.inr (Or.inr (Or.inr (Or.inl ⟨rfl, rfl⟩))))))
          refine ⟨fun _ => ⟨fun _ => fin, fun w => ⟨_, s_hereM hs rfl hn (by omega) hb ?_, fun _ h => h⟩⟩, fun w => absurd w n3⟩
          refine ⟨_, s_isDigitM (fun q => ?_) (fun _ => c0 fin), fun _ h => h⟩
          by_cases c2 : j + 1 < n
          · rw [hM_lt c2] at q; exact absurd q (n4 w c2)
          · rw [hM_ge c2] at q; exact absurd q dgt_m1
      · obtain ⟨d, hd, e1⟩ := hby j hjn
        exact absurd (e1.symm.trans w) (nI_m1 (by omega))
