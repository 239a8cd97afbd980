/-! PURE: the reference's reader, lines -/
def ux (x : Nat) (v : Int32) (r' r : Nat → Int32) : Prop := r' x = v ∧ ∀ i, i ≠ x → r' i = r i
def fx (x : Nat) (r' r : Nat → Int32) : Prop := ∀ i, i ≠ x → r' i = r i
theorem ux_u {x : Nat} {v : Int32} {r : Nat → Int32} : ux x v (upd r x v) r := ⟨pk_us, fun i hi => pk_un hi⟩
theorem ux_t {x : Nat} {v w : Int32} {r2 r1 r : Nat → Int32} (h2 : ux x v r2 r1) (h1 : ux x w r1 r) : ux x v r2 r := ⟨h2.1, fun i hi => by rw [h2.2 i hi, h1.2 i hi]⟩
theorem fx_u {x : Nat} {v : Int32} {r : Nat → Int32} : fx x (upd r x v) r := fun i hi => pk_un hi
theorem fx_r {x : Nat} {r : Nat → Int32} : fx x r r := fun _ _ => rfl
theorem fx_t {x : Nat} {r2 r1 r : Nat → Int32} (h2 : fx x r2 r1) (h1 : fx x r1 r) : fx x r2 r := fun i hi => by rw [h2 i hi, h1 i hi]
theorem m_reads {qth qta qli qsi qat qpl qso qva qfa qfp qlf qlp qun qhi qro qar qiS qbl qdr : Int32} {number : Nat → Int32} {j : Nat} {v : Int32} {Q : (Nat → Int32) → Prop} (hj : j < 4) (h : Q (upd number (4 + j) v)) : wX11_reads qth qta qli qsi qat qpl qso qva qfa qfp qlf qlp qun qhi qro qar qiS qbl qdr number (nI j) v Q := by
  unfold wX11_reads
  rw [show (4 : Int32) + nI j = nI (4 + j) from nI_add 4 j, nI_clamp (by omega)]
  refine ⟨vp_in_nI (by omega) (by omega), ?_⟩
  rintro nu rfl
  exact h
theorem m_onceG {qth qta qli qsi qat qpl qso qva qfa qfp qlf qlp qun qhi qro qar qiS qbl qdr : Int32} {tape b so st co : Nat → Int32} {n T t : Nat} {pos s : Nat → Nat} {isTold number : Nat → Int32} {j lo hi : Nat} {Q : Int32 → Int32 → Int32 → Int32 → Int32 → Int32 → (Nat → Int32) → (Nat → Int32) → Prop} (hx : cx tape b n T so st co pos s) (hs : qsi = nI n) (hf : qfa = 0) (hc : cur n T so st co pos t qat qpl qso qva) (hj : j < 3) (hlh : lo < 10000000 ∧ hi < 10000000) (hit : isTold j = 0) (hg : nuG (tkS T so) (tkS T co) (nI lo) (nI hi) (t + 1)) (h : ∀ a p sr va, cur n T so st co pos (t + 2) a p sr va → Q a p sr va qfa qfp (upd isTold j (vp_nar .boolean 1)) (upd number (4 + j) (tkS T co (t + 1)))) : wX11_readOnce qth qta qli qsi qat qpl qso qva qfa qfp qlf qlp qun qhi qro qar qiS qbl qdr isTold tape number (nI j) (nI j) (nI lo) (nI hi) Q := by
  unfold wX11_readOnce
  refine ⟨vp_in_nI (by omega) (by omega), ?_⟩
  rw [nI_clamp (show j < 2 ^ 31 by omega)]
  refine ⟨fun fa fp => fa = qfa ∧ fp = qfp, br_t hit ⟨rfl, rfl⟩, ?_⟩
  rintro fa fp ⟨rfl, rfl⟩
  refine ⟨vp_in_nI (by omega) (by omega), ?_⟩
  rintro it rfl
  refine ⟨_, m_go hx hs hf hc (fun a p sr va q => ?_), fun _ _ _ _ h => h⟩
  refine ⟨_, m_numG hx hs hf q hlh hg (fun a p sr va q2 => ?_), fun _ _ _ _ _ _ _ h => h⟩
  exact ⟨_, m_reads (by omega) (h a p sr va q2), fun _ h => h⟩
theorem m_onceB {qth qta qli qsi qat qpl qso qva qfa qfp qlf qlp qun qhi qro qar qiS qbl qdr : Int32} {tape b so st co : Nat → Int32} {n T t : Nat} {pos s : Nat → Nat} {isTold number : Nat → Int32} {j lo hi f t' : Nat} {Q : Int32 → Int32 → Int32 → Int32 → Int32 → Int32 → (Nat → Int32) → (Nat → Int32) → Prop} (hx : cx tape b n T so st co pos s) (hs : qsi = nI n) (hf : qfa = 0) (hc : cur n T so st co pos t qat qpl qso qva) (hj : j < 3) (hlh : lo < 10000000 ∧ hi < 10000000) (hk : (¬ isTold j = 0 ∧ f = 3 ∧ t' = t) ∨ (isTold j = 0 ∧ nuB (tkS T so) (tkS T co) (nI lo) (nI hi) (t + 1) f ∧ t' = t + 1)) (h : ∀ a p sr va it' nu', (∀ i, i < 4 → nu' i = number i) → Q a p sr va (nI f) (tkP T n st t') it' nu') : wX11_readOnce qth qta qli qsi qat qpl qso qva qfa qfp qlf qlp qun qhi qro qar qiS qbl qdr isTold tape number (nI j) (nI j) (nI lo) (nI hi) Q := by
  unfold wX11_readOnce
  refine ⟨vp_in_nI (by omega) (by omega), ?_⟩
  rw [nI_clamp (show j < 2 ^ 31 by omega)]
  have hfr : ∀ (v : Int32) i, i < 4 → upd number (4 + j) v i = number i := fun v i hi => pk_un (by omega)
  rcases hk with ⟨k1, rfl, rfl⟩ | ⟨k1, k2, rfl⟩
  · refine ⟨fun fa fp => fa = 3 ∧ fp = qpl, br_f k1 ⟨_, m_wrong hf ⟨rfl, rfl⟩, fun _ _ h => h⟩, ?_⟩
    rintro fa fp ⟨rfl, rfl⟩
    refine ⟨vp_in_nI (by omega) (by omega), ?_⟩
    rintro it rfl
    refine ⟨_, m_goX (by decide) ⟨_, m_numX (by decide) ⟨_, m_reads (by omega) ?_, fun _ h => h⟩, fun _ _ _ _ _ _ _ h => h⟩, fun _ _ _ _ h => h⟩
    have := h qat fp qso qva (upd isTold j (vp_nar .boolean 1)) _ (hfr (nI lo))
    rw [← hc.2.1] at this
    exact this
  · refine ⟨fun fa fp => fa = qfa ∧ fp = qfp, br_t k1 ⟨rfl, rfl⟩, ?_⟩
    rintro fa fp ⟨rfl, rfl⟩
    refine ⟨vp_in_nI (by omega) (by omega), ?_⟩
    rintro it rfl
    refine ⟨_, m_go hx hs hf hc (fun a p sr va q => ?_), fun _ _ _ _ h => h⟩
    exact ⟨_, m_numB (s := s) (b := b) hf q hlh k2 (fun a p sr va => ⟨_, m_reads (by omega) (h a p sr va _ _ (hfr (nI lo))), fun _ h => h⟩) rfl rfl, fun _ _ _ _ _ _ _ h => h⟩
theorem e12 (g : Nat) : (12 : Int32) + nI g = nI (12 + g) := nI_add 12 g
theorem m_atG {qth qta qli qsi qat qpl qso qva qfa qfp qlf qlp qun qhi qro qar qiS qbl qdr : Int32} {tape b so st co : Nat → Int32} {n T t : Nat} {pos s : Nat → Nat} {number name sortOf own : Nat → Int32} {F g : Nat} {S : Nat → Nat → Int32} {Q : Int32 → Int32 → Int32 → Int32 → Int32 → Int32 → (Nat → Int32) → Prop} (hx : cx tape b n T so st co pos s) (hs : qsi = nI n) (hf : qfa = 0) (hc : cur n T so st co pos t qat qpl qso qva) (hnu : number 7 = nI (F - 6)) (hF : 6 ≤ F) (hF2 : F ≤ 12) (hna : ∀ f, f < F → name (12 + f) = S 0 f) (hso : ∀ f, f < F → sortOf (12 + f) = S 1 f) (hg : fnG (tkS T so) (tkS T co) F S (t + 1) g) (hk : S 1 g = 1) (h1 : nuG (tkS T so) (tkS T co) 1 6 (t + 2)) (h2 : sgG (tkS T so) (tkS T co) (t + 3)) (h3 : sgG (tkS T so) (tkS T co) (t + 4)) (h : ∀ a p sr va, cur n T so st co pos (t + 5) a p sr va → Q a p sr va qfa qfp (upd (upd own (144 + (12 * g + 2 * ((tkS T co (t + 2)).toNatClampNeg - 1))) (tkS T co (t + 3))) (144 + (12 * g + 2 * ((tkS T co (t + 2)).toNatClampNeg - 1)) + 1) (tkS T co (t + 4)))) : wX11_readAt qth qta qli qsi qat qpl qso qva qfa qfp qlf qlp qun qhi qro qar qiS qbl qdr tape number name sortOf own Q := by
  have hgF := hg.2.1
  unfold wX11_readAt
  refine ⟨_, m_go hx hs hf hc (fun a p sr va q => ?_), fun _ _ _ _ h => h⟩
  refine ⟨_, m_fnG (tape := tape) (s := s) (b := b) hf q hnu hF hF2 hna hg ?_ rfl rfl rfl, fun _ _ _ h => h⟩
  refine ⟨fun fa fp => fa = qfa ∧ fp = qfp, ⟨fun w => absurd hf w, fun _ => ⟨by rw [e12]; exact vp_in_nI (by omega) (by omega), br_t (by rw [e12, nI_clamp (by omega), hso g hgF]; exact hk) ⟨rfl, rfl⟩⟩⟩, ?_⟩
  rintro fa fp ⟨rfl, rfl⟩
  refine ⟨_, m_go hx hs hf q (fun a p sr va q => ?_), fun _ _ _ _ h => h⟩
  refine ⟨_, m_numG (lo := 1) (hi := 6) hx hs hf q (by omega) h1 (fun a p sr va q => ?_), fun _ _ _ _ _ _ _ h => h⟩
  refine ⟨_, m_sgnG hx hs hf q h2 (fun a p sr va q => ?_), fun _ _ _ _ _ _ _ h => h⟩
  refine ⟨_, m_sgnG hx hs hf q h3 (fun a p sr va q => ?_), fun _ _ _ _ _ _ _ h => h⟩
  obtain ⟨k, k1, k2, ek⟩ := nu_nat (a := 1) (b := 6) (by omega) (by omega) h1
  have fin := h a p sr va q
  have ek2 : tkS T co (t + 1 + 1) = nI k := ek
  rw [ek, nI_clamp (by omega)] at fin
  have ea : ((12 * (12 + nI g)) + (2 * nI k)) - 2 = nI (144 + (12 * g + 2 * (k - 1))) := by
    rw [e12, show (12 : Int32) = nI 12 from rfl, show (2 : Int32) = nI 2 from rfl, pk_mul, pk_mul, nI_add, pk_sub (by omega)]; congr 1; omega
  have eb : ((12 * (12 + nI g)) + (2 * nI k)) - 1 = nI (144 + (12 * g + 2 * (k - 1)) + 1) := by
    rw [e12, show (12 : Int32) = nI 12 from rfl, show (2 : Int32) = nI 2 from rfl, show (1 : Int32) = nI 1 from rfl, pk_mul, pk_mul, nI_add, pk_sub (by omega)]; congr 1; omega
  rw [ek2, ea, eb, nI_clamp (by omega), nI_clamp (by omega)]
  refine ⟨fun _ => ⟨vp_in_nI (by omega) (by omega), ?_⟩, fun w => absurd hf w⟩
  rintro o1 rfl
  refine ⟨vp_in_nI (by omega) (by omega), ?_⟩
  rintro o2 rfl
  exact fin
theorem m_atB {qth qta qli qsi qat qpl qso qva qfa qfp qlf qlp qun qhi qro qar qiS qbl qdr : Int32} {tape b so st co : Nat → Int32} {n T t : Nat} {pos s : Nat → Nat} {number name sortOf own : Nat → Int32} {F f t' : Nat} {S : Nat → Nat → Int32} {Q : Int32 → Int32 → Int32 → Int32 → Int32 → Int32 → (Nat → Int32) → Prop} (hx : cx tape b n T so st co pos s) (hs : qsi = nI n) (hf : qfa = 0) (hc : cur n T so st co pos t qat qpl qso qva) (hnu : number 7 = nI (F - 6)) (hF : 6 ≤ F) (hF2 : F ≤ 12) (hna : ∀ f, f < F → name (12 + f) = S 0 f) (hso : ∀ f, f < F → sortOf (12 + f) = S 1 f) (hb : (fnB (tkS T so) (tkS T co) F S (t + 1) f ∧ t' = t + 1) ∨ ∃ g, fnG (tkS T so) (tkS T co) F S (t + 1) g ∧ ((¬ S 1 g = 1 ∧ f = 4 ∧ t' = t + 1) ∨ (S 1 g = 1 ∧ ((nuB (tkS T so) (tkS T co) 1 6 (t + 2) f ∧ t' = t + 2) ∨ (nuG (tkS T so) (tkS T co) 1 6 (t + 2) ∧ ((sgB (tkS T so) (tkS T co) (t + 3) f ∧ t' = t + 3) ∨ (sgG (tkS T so) (tkS T co) (t + 3) ∧ sgB (tkS T so) (tkS T co) (t + 4) f ∧ t' = t + 4))))))) (h : ∀ a p sr va, Q a p sr va (nI f) (tkP T n st t') own) : wX11_readAt qth qta qli qsi qat qpl qso qva qfa qfp qlf qlp qun qhi qro qar qiS qbl qdr tape number name sortOf own Q := by
  unfold wX11_readAt
  refine ⟨_, m_go hx hs hf hc (fun a p sr va q => ?_), fun _ _ _ _ h => h⟩
  rcases hb with ⟨b1, rfl⟩ | ⟨g, hg, hb⟩
  · have hne : ¬ nI f = 0 := nI_ne0 (by have := fn_f b1; omega) (by have := fn_f b1; omega)
    refine ⟨_, m_fnB (tape := tape) (s := s) (b := b) hf q hnu hF hF2 hna b1 ?_ rfl rfl rfl, fun _ _ _ h => h⟩
    refine ⟨fun fa fp => fa = nI f ∧ fp = tkP T n st (t + 1), ⟨fun _ => ⟨rfl, rfl⟩, fun w => absurd w hne⟩, ?_⟩
    rintro fa fp ⟨rfl, rfl⟩
    exact ⟨_, m_goX hne ⟨_, m_numX hne ⟨_, m_numX hne ⟨_, m_numX hne (br_f hne (h _ _ _ _)), fun _ _ _ _ _ _ _ h => h⟩, fun _ _ _ _ _ _ _ h => h⟩, fun _ _ _ _ _ _ _ h => h⟩, fun _ _ _ _ h => h⟩
  · have hgF := hg.2.1
    refine ⟨_, m_fnG (tape := tape) (s := s) (b := b) hf q hnu hF hF2 hna hg ?_ rfl rfl rfl, fun _ _ _ h => h⟩
    rcases hb with ⟨b1, rfl, rfl⟩ | ⟨hk, hb⟩
    · have hne : ¬ (4 : Int32) = 0 := by decide
      refine ⟨fun fa fp => fa = 4 ∧ fp = tkP T n st (t + 1), ⟨fun w => absurd hf w, fun _ => ⟨by rw [e12]; exact vp_in_nI (by omega) (by omega), br_f (by rw [e12, nI_clamp (by omega), hso g hgF]; exact b1) ⟨_, m_wrong hf ⟨rfl, q.2.1⟩, fun _ _ h => h⟩⟩⟩, ?_⟩
      rintro fa fp ⟨rfl, rfl⟩
      exact ⟨_, m_goX hne ⟨_, m_numX hne ⟨_, m_numX hne ⟨_, m_numX hne (br_f hne (h _ _ _ _)), fun _ _ _ _ _ _ _ h => h⟩, fun _ _ _ _ _ _ _ h => h⟩, fun _ _ _ _ _ _ _ h => h⟩, fun _ _ _ _ h => h⟩
    · refine ⟨fun fa fp => fa = qfa ∧ fp = qfp, ⟨fun w => absurd hf w, fun _ => ⟨by rw [e12]; exact vp_in_nI (by omega) (by omega), br_t (by rw [e12, nI_clamp (by omega), hso g hgF]; exact hk) ⟨rfl, rfl⟩⟩⟩, ?_⟩
      rintro fa fp ⟨rfl, rfl⟩
      refine ⟨_, m_go hx hs hf q (fun a p sr va q => ?_), fun _ _ _ _ h => h⟩
      rcases hb with ⟨b1, rfl⟩ | ⟨g1, hb⟩
      · have hne : ¬ nI f = 0 := nI_ne0 (by have := nu_f b1; omega) (by have := nu_f b1; omega)
        exact ⟨_, m_numB (lo := 1) (hi := 6) (s := s) (b := b) hf q (by omega) b1 (fun a p sr va => ⟨_, m_numX hne ⟨_, m_numX hne (br_f hne (h _ _ _ _)), fun _ _ _ _ _ _ _ h => h⟩, fun _ _ _ _ _ _ _ h => h⟩) rfl rfl, fun _ _ _ _ _ _ _ h => h⟩
      · refine ⟨_, m_numG (lo := 1) (hi := 6) hx hs hf q (by omega) g1 (fun a p sr va q => ?_), fun _ _ _ _ _ _ _ h => h⟩
        rcases hb with ⟨b1, rfl⟩ | ⟨g2, b1, rfl⟩
        · have hne : ¬ nI f = 0 := nI_ne0 (by have := sg_f b1; omega) (by have := sg_f b1; omega)
          exact ⟨_, m_sgnB (s := s) (b := b) hf q b1 (fun a p sr va => ⟨_, m_numX hne (br_f hne (h _ _ _ _)), fun _ _ _ _ _ _ _ h => h⟩) rfl rfl, fun _ _ _ _ _ _ _ h => h⟩
        · have hne : ¬ nI f = 0 := nI_ne0 (by have := sg_f b1; omega) (by have := sg_f b1; omega)
          refine ⟨_, m_sgnG hx hs hf q g2 (fun a p sr va q => ?_), fun _ _ _ _ _ _ _ h => h⟩
          exact ⟨_, m_sgnB (s := s) (b := b) hf q b1 (fun a p sr va => br_f hne (h _ _ _ _)) rfl rfl, fun _ _ _ _ _ _ _ h => h⟩
theorem m_firstG {qth qta qli qsi qat qpl qso qva qfa qfp qlf qlp qun qhi qro qar qiS qbl qdr : Int32} {tape b so st co : Nat → Int32} {n T t : Nat} {pos s : Nat → Nat} {number name first degree colours : Nat → Int32} {F g : Nat} {S : Nat → Nat → Int32} {a2 : Int32} {Q : Int32 → Int32 → Int32 → Int32 → Int32 → Int32 → (Nat → Int32) → (Nat → Int32) → (Nat → Int32) → Prop} (hx : cx tape b n T so st co pos s) (hs : qsi = nI n) (hf : qfa = 0) (hc : cur n T so st co pos t qat qpl qso qva) (hnu : number 7 = nI (F - 6)) (hF : 6 ≤ F) (hF2 : F < 12) (hna : ∀ f, f < F → name (12 + f) = S 0 f) (hde : ∀ f, f < F → degree (12 + f) = S 4 f) (hco : ∀ f, f < F → colours (12 + f) = S 5 f) (hg : fnG (tkS T so) (tkS T co) F S t g) (h5 : a2 = 5 → S 5 g = 0) (h : ∀ a p sr va, cur n T so st co pos (t + 1) a p sr va → Q a p sr va qfa qfp (upd first (12 + F) (nI g)) (upd degree (12 + F) (S 4 g)) (upd colours (12 + F) (S 5 g))) : wX11_readFirst qth qta qli qsi qat qpl qso qva qfa qfp qlf qlp qun qhi qro qar qiS qbl qdr number name first degree colours tape (nI (12 + F)) a2 Q := by
  have hgF := hg.2.1
  unfold wX11_readFirst
  refine ⟨_, m_fnG (tape := tape) (s := s) (b := b) hf hc hnu hF (by omega) hna hg ⟨vp_in_nI (by omega) (by omega), ?_⟩ rfl rfl rfl, fun _ _ _ h => h⟩
  rw [nI_clamp (show 12 + F < 2 ^ 31 by omega)]
  rintro fi rfl
  rw [pk_us, e12, nI_clamp (show 12 + g < 2 ^ 31 by omega), hde g hgF, hco g hgF]
  refine ⟨vp_in_nI (by omega) (by omega), ?_⟩
  rintro e1 rfl d1 rfl e2 rfl c1 rfl
  rw [pk_us]
  exact ⟨fun w => absurd hf w, fun _ => ⟨fun _ => ⟨_, m_go hx hs hf hc h, fun _ _ _ _ h => h⟩, fun e => ⟨fun _ => ⟨_, m_go hx hs hf hc h, fun _ _ _ _ h => h⟩, fun w => absurd (h5 e) w⟩⟩⟩
theorem m_firstF {qth qta qli qsi qat qpl qso qva qfa qfp qlf qlp qun qhi qro qar qiS qbl qdr : Int32} {number name first degree colours tape : Nat → Int32} {F : Nat} {a2 fa fp : Int32} {Q : Int32 → Int32 → Int32 → Int32 → Int32 → Int32 → (Nat → Int32) → (Nat → Int32) → (Nat → Int32) → Prop} (hF2 : F < 12) (hfun : ∀ R : Int32 → Int32 → Int32 → Prop, R 0 fa fp → wX11_functionHere qth qta qli qsi qat qpl qso qva qfa qfp qlf qlp qun qhi qro qar qiS qbl qdr number name R) (hne : ¬ fa = 0) (h : ∀ fi' de' co', fx (12 + F) fi' first → fx (12 + F) de' degree → fx (12 + F) co' colours → Q qat qpl qso qva fa fp fi' de' co') : wX11_readFirst qth qta qli qsi qat qpl qso qva qfa qfp qlf qlp qun qhi qro qar qiS qbl qdr number name first degree colours tape (nI (12 + F)) a2 Q := by
  unfold wX11_readFirst
  refine ⟨_, hfun _ ⟨vp_in_nI (by omega) (by omega), ?_⟩, fun _ _ _ h => h⟩
  rw [nI_clamp (show 12 + F < 2 ^ 31 by omega)]
  rintro fi rfl
  rw [pk_us, show (12 : Int32) + 0 = nI 12 from rfl]
  refine ⟨vp_in_nI (by omega) (by omega), ?_⟩
  rintro e1 rfl d1 rfl e2 rfl c1 rfl
  exact ⟨fun _ => ⟨_, m_goX hne (h _ _ _ fx_u fx_u fx_u), fun _ _ _ _ h => h⟩, fun w => absurd w hne⟩
theorem m_firstC {qth qta qli qsi qat qpl qso qva qfa qfp qlf qlp qun qhi qro qar qiS qbl qdr : Int32} {tape b so st co : Nat → Int32} {n T t : Nat} {pos s : Nat → Nat} {number name first degree colours : Nat → Int32} {F g : Nat} {S : Nat → Nat → Int32} {Q : Int32 → Int32 → Int32 → Int32 → Int32 → Int32 → (Nat → Int32) → (Nat → Int32) → (Nat → Int32) → Prop} (hf : qfa = 0) (hc : cur n T so st co pos t qat qpl qso qva) (hnu : number 7 = nI (F - 6)) (hF : 6 ≤ F) (hF2 : F < 12) (hna : ∀ f, f < F → name (12 + f) = S 0 f) (hco : ∀ f, f < F → colours (12 + f) = S 5 f) (hg : fnG (tkS T so) (tkS T co) F S t g) (h5 : ¬ S 5 g = 0) (h : ∀ fi' de' co', fx (12 + F) fi' first → fx (12 + F) de' degree → fx (12 + F) co' colours → Q qat qpl qso qva 2 (tkP T n st t) fi' de' co') (_ : s = s) (_ : b = b) : wX11_readFirst qth qta qli qsi qat qpl qso qva qfa qfp qlf qlp qun qhi qro qar qiS qbl qdr number name first degree colours tape (nI (12 + F)) 5 Q := by
  have hgF := hg.2.1
  unfold wX11_readFirst
  refine ⟨_, m_fnG (tape := tape) (s := s) (b := b) hf hc hnu hF (by omega) hna hg ⟨vp_in_nI (by omega) (by omega), ?_⟩ rfl rfl rfl, fun _ _ _ h => h⟩
  rw [nI_clamp (show 12 + F < 2 ^ 31 by omega)]
  rintro fi rfl
  rw [pk_us, e12, nI_clamp (show 12 + g < 2 ^ 31 by omega), hco g hgF]
  refine ⟨vp_in_nI (by omega) (by omega), ?_⟩
  rintro e1 rfl d1 rfl e2 rfl c1 rfl
  rw [pk_us]
  rw [← hc.2.1] at h
  exact ⟨fun w => absurd hf w, fun _ => ⟨fun w => absurd rfl w, fun _ => br_f h5 ⟨_, m_wrong hf ⟨_, m_goX (by decide) (h _ _ _ fx_u fx_u fx_u), fun _ _ _ _ h => h⟩, fun _ _ h => h⟩⟩⟩
theorem m_secondG {qth qta qli qsi qat qpl qso qva qfa qfp qlf qlp qun qhi qro qar qiS qbl qdr : Int32} {tape b so st co : Nat → Int32} {n T t : Nat} {pos s : Nat → Nat} {number name second degree colours : Nat → Int32} {F k : Nat} {S : Nat → Nat → Int32} {a2 dg cg dd : Int32} {Q : Int32 → Int32 → Int32 → Int32 → Int32 → Int32 → (Nat → Int32) → (Nat → Int32) → (Nat → Int32) → Prop} (hx : cx tape b n T so st co pos s) (hs : qsi = nI n) (hf : qfa = 0) (hc : cur n T so st co pos t qat qpl qso qva) (hnu : number 7 = nI (F - 6)) (hF : 6 ≤ F) (hF2 : F < 12) (hna : ∀ f, f < F → name (12 + f) = S 0 f) (hde : ∀ f, f < F → degree (12 + f) = S 4 f) (hco : ∀ f, f < F → colours (12 + f) = S 5 f) (hdg : degree (12 + F) = dg) (hcg : colours (12 + F) = cg) (hg : fnG (tkS T so) (tkS T co) F S t k) (ha : (a2 = 4 → dd = dg + S 4 k) ∧ (¬ a2 = 4 → dd = if dg < S 4 k then S 4 k else dg)) (h3 : ¬ 3 < dd) (h4 : a2 = 4 → cg = 0 ∨ S 5 k = 0) (h : ∀ a p sr va se' de' co', cur n T so st co pos (t + 1) a p sr va → ux (12 + F) (nI k) se' second → ux (12 + F) dd de' degree → ux (12 + F) (cg ||| S 5 k) co' colours → Q a p sr va qfa qfp se' de' co') : wX11_readSecond qth qta qli qsi qat qpl qso qva qfa qfp qlf qlp qun qhi qro qar qiS qbl qdr number name second degree colours tape (nI (12 + F)) a2 Q := by
  have hgF := hg.2.1
  unfold wX11_readSecond
  refine ⟨_, m_fnG (tape := tape) (s := s) (b := b) hf hc hnu hF (by omega) hna hg ⟨vp_in_nI (by omega) (by omega), ?_⟩ rfl rfl rfl, fun _ _ _ h => h⟩
  rw [nI_clamp (show 12 + F < 2 ^ 31 by omega)]
  rintro se rfl
  rw [pk_us, e12, nI_clamp (show 12 + k < 2 ^ 31 by omega), hde k hgF, hco k hgF, hdg, hcg]
  refine ⟨vp_in_nI (by omega) (by omega), ?_⟩
  rintro x3 rfl
  refine ⟨fun de' => ux (12 + F) dd de' degree, ⟨fun e => ⟨vp_in_nI (by omega) (by omega), br_c (fun w => ⟨?_, fun _ _ => rfl⟩) (fun w => ?_)⟩, fun e => ⟨vp_in_nI (by omega) (by omega), ?_⟩⟩, ?_⟩
  · rw [hdg, ha.2 e, if_neg (fun q => by rw [fa_lt] at q; rw [fa_le] at w; omega)]
  · rintro d2 rfl
    rw [ha.2 e, if_pos (by rw [fa_le] at w; rw [fa_lt]; omega)]
    exact ux_u
  · rintro e6 rfl d3 rfl
    rw [ha.1 e]
    exact ux_u
  · rintro de' hde'
    refine ⟨vp_in_nI (by omega) (by omega), vp_in_nI (by omega) (by omega), ?_⟩
    rintro x4 rfl
    have fin : ∀ e : Int32, e = cg ||| S 5 k → ∀ co' : Nat → Int32, co' = upd colours (12 + F) e → ∃ (P_5 : (Int32) → (Int32) → (Int32) → (Int32) → Prop), wX11_goOn qth qta qli qsi qat qpl qso qva qfa qfp qlf qlp qun qhi qro qar qiS qbl qdr tape P_5 ∧ ∀ (atF_3 : Int32) (place_3 : Int32) (sort_3 : Int32) (value_3 : Int32), P_5 atF_3 place_3 sort_3 value_3 → (Q atF_3 place_3 sort_3 value_3 qfa qfp (upd second (12 + F) (nI k)) de' co') := by
      rintro e rfl co' rfl
      exact ⟨_, m_go hx hs hf hc (fun a p sr va q => h a p sr va _ _ _ q ux_u hde' ux_u), fun _ _ _ _ h => h⟩
    rw [hde'.1]
    refine ⟨fun w => absurd hf w, fun _ => ⟨False, br_f h3 ⟨fun _ => fin, fun e => br_c (fun _ => fin) (fun w => br_c (fun _ => fin) (fun w2 => (h4 e).elim (fun y => w y) (fun y => w2 y)))⟩, fun w => w.elim⟩⟩
theorem m_secondF {qth qta qli qsi qat qpl qso qva qfa qfp qlf qlp qun qhi qro qar qiS qbl qdr : Int32} {number name second degree colours tape : Nat → Int32} {F : Nat} {a2 fa fp : Int32} {Q : Int32 → Int32 → Int32 → Int32 → Int32 → Int32 → (Nat → Int32) → (Nat → Int32) → (Nat → Int32) → Prop} (hF2 : F < 12) (hfun : ∀ R : Int32 → Int32 → Int32 → Prop, R 0 fa fp → wX11_functionHere qth qta qli qsi qat qpl qso qva qfa qfp qlf qlp qun qhi qro qar qiS qbl qdr number name R) (hne : ¬ fa = 0) (h : ∀ se' de' co', fx (12 + F) se' second → fx (12 + F) de' degree → fx (12 + F) co' colours → Q qat qpl qso qva fa fp se' de' co') : wX11_readSecond qth qta qli qsi qat qpl qso qva qfa qfp qlf qlp qun qhi qro qar qiS qbl qdr number name second degree colours tape (nI (12 + F)) a2 Q := by
  unfold wX11_readSecond
  refine ⟨_, hfun _ ⟨vp_in_nI (by omega) (by omega), ?_⟩, fun _ _ _ h => h⟩
  rw [nI_clamp (show 12 + F < 2 ^ 31 by omega)]
  rintro se rfl
  rw [pk_us, show (12 : Int32) + 0 = nI 12 from rfl]
  refine ⟨vp_in_nI (by omega) (by omega), ?_⟩
  rintro x3 rfl
  refine ⟨fun de' => fx (12 + F) de' degree, ⟨fun e => ⟨vp_in_nI (by omega) (by omega), br_c (fun w => fx_r) (fun w => ?_)⟩, fun e => ⟨vp_in_nI (by omega) (by omega), ?_⟩⟩, ?_⟩
  · rintro d2 rfl; exact fx_u
  · rintro e6 rfl d3 rfl; exact fx_u
  · rintro de' hde'
    refine ⟨vp_in_nI (by omega) (by omega), vp_in_nI (by omega) (by omega), ?_⟩
    rintro x4 rfl
    refine ⟨fun _ => ?_, fun w => absurd w hne⟩
    rintro e rfl co' rfl
    exact ⟨_, m_goX hne (h _ _ _ fx_u hde' fx_u), fun _ _ _ _ h => h⟩
theorem m_secondC {qth qta qli qsi qat qpl qso qva qfa qfp qlf qlp qun qhi qro qar qiS qbl qdr : Int32} {tape b so st co : Nat → Int32} {n T t : Nat} {pos s : Nat → Nat} {number name second degree colours : Nat → Int32} {F k : Nat} {S : Nat → Nat → Int32} {dg cg : Int32} {Q : Int32 → Int32 → Int32 → Int32 → Int32 → Int32 → (Nat → Int32) → (Nat → Int32) → (Nat → Int32) → Prop} (hf : qfa = 0) (hc : cur n T so st co pos t qat qpl qso qva) (hnu : number 7 = nI (F - 6)) (hF : 6 ≤ F) (hF2 : F < 12) (hna : ∀ f, f < F → name (12 + f) = S 0 f) (hde : ∀ f, f < F → degree (12 + f) = S 4 f) (hco : ∀ f, f < F → colours (12 + f) = S 5 f) (hdg : degree (12 + F) = dg) (hcg : colours (12 + F) = cg) (hg : fnG (tkS T so) (tkS T co) F S t k) (h3 : 3 < dg + S 4 k ∨ (¬ cg = 0 ∧ ¬ S 5 k = 0)) (h : ∀ se' de' co', fx (12 + F) se' second → fx (12 + F) de' degree → fx (12 + F) co' colours → Q qat qpl qso qva 2 (tkP T n st t) se' de' co') (_ : s = s) (_ : b = b) : wX11_readSecond qth qta qli qsi qat qpl qso qva qfa qfp qlf qlp qun qhi qro qar qiS qbl qdr number name second degree colours tape (nI (12 + F)) 4 Q := by
  have hgF := hg.2.1
  rw [← hc.2.1] at h
  unfold wX11_readSecond
  refine ⟨_, m_fnG (tape := tape) (s := s) (b := b) hf hc hnu hF (by omega) hna hg ⟨vp_in_nI (by omega) (by omega), ?_⟩ rfl rfl rfl, fun _ _ _ h => h⟩
  rw [nI_clamp (show 12 + F < 2 ^ 31 by omega)]
  rintro se rfl
  rw [pk_us, e12, nI_clamp (show 12 + k < 2 ^ 31 by omega), hde k hgF, hco k hgF, hdg, hcg]
  refine ⟨vp_in_nI (by omega) (by omega), ?_⟩
  rintro x3 rfl
  refine ⟨fun de' => ux (12 + F) (dg + S 4 k) de' degree, ⟨fun e => absurd rfl e, fun e => ⟨vp_in_nI (by omega) (by omega), ?_⟩⟩, ?_⟩
  · rintro e6 rfl d3 rfl; exact ux_u
  · rintro de' hde'
    refine ⟨vp_in_nI (by omega) (by omega), vp_in_nI (by omega) (by omega), ?_⟩
    rintro x4 rfl
    rw [hde'.1]
    refine ⟨fun w => absurd hf w, fun _ => ⟨True, br_c (fun _ => trivial) (fun w => ⟨fun e => absurd rfl e, fun _ => ?_⟩), fun _ => ⟨_, m_wrong hf ⟨vp_in_nI (by omega) (by omega), ?_⟩, fun _ _ h => h⟩⟩⟩
    · obtain ⟨y1, y2⟩ := h3.resolve_left w
      exact br_f y1 (br_f y2 trivial)
    · rintro e rfl co' rfl
      exact ⟨_, m_goX (by decide) (h _ _ _ fx_u hde'.2 fx_u), fun _ _ _ _ h => h⟩
theorem m_signG {qth qta qli qsi qat qpl qso qva qfa qfp qlf qlp qun qhi qro qar qiS qbl qdr : Int32} {tape b so st co : Nat → Int32} {n T t : Nat} {pos s : Nat → Nat} {signBy colours : Nat → Int32} {F : Nat} {Q : Int32 → Int32 → Int32 → Int32 → Int32 → Int32 → (Nat → Int32) → (Nat → Int32) → Prop} (hx : cx tape b n T so st co pos s) (hs : qsi = nI n) (hf : qfa = 0) (hc : cur n T so st co pos t qat qpl qso qva) (hF2 : F < 12) (hg : nuG (tkS T so) (tkS T co) 3 4 t) (h : ∀ a p sr va, cur n T so st co pos (t + 1) a p sr va → Q a p sr va qfa qfp (upd signBy (12 + F) (tkS T co t)) (upd colours (12 + F) (if tkS T co t = 3 then 1 else 2))) : wX11_readSign qth qta qli qsi qat qpl qso qva qfa qfp qlf qlp qun qhi qro qar qiS qbl qdr tape signBy colours (nI (12 + F)) Q := by
  unfold wX11_readSign
  refine ⟨_, m_numG (lo := 3) (hi := 4) hx hs hf hc (by omega) hg (fun a p sr va q => ⟨vp_in_nI (by omega) (by omega), ?_⟩), fun _ _ _ _ _ _ _ h => h⟩
  rw [nI_clamp (show 12 + F < 2 ^ 31 by omega)]
  rintro sb rfl
  rw [pk_us]
  have fin := h a p sr va q
  refine ⟨fun e => ?_, fun e => ?_⟩
  · rintro c1 rfl
    rw [if_neg e] at fin; exact fin
  · rintro c1 rfl
    rw [if_pos e] at fin; exact fin
theorem m_signF {qth qta qli qsi qat qpl qso qva qfa qfp qlf qlp qun qhi qro qar qiS qbl qdr : Int32} {signBy colours tape : Nat → Int32} {F : Nat} {fa fp : Int32} {Q : Int32 → Int32 → Int32 → Int32 → Int32 → Int32 → (Nat → Int32) → (Nat → Int32) → Prop} (hF2 : F < 12) (hnum : ∀ R : Int32 → Int32 → Int32 → Int32 → Int32 → Int32 → Int32 → Prop, (∀ a p sr va, R 3 a p sr va fa fp) → wX11_numeralOf qth qta qli qsi qat qpl qso qva qfa qfp qlf qlp qun qhi qro qar qiS qbl qdr tape 0 3 4 R) (h : ∀ a p sr va sb' co', fx (12 + F) sb' signBy → fx (12 + F) co' colours → Q a p sr va fa fp sb' co') : wX11_readSign qth qta qli qsi qat qpl qso qva qfa qfp qlf qlp qun qhi qro qar qiS qbl qdr tape signBy colours (nI (12 + F)) Q := by
  unfold wX11_readSign
  refine ⟨_, hnum _ (fun a p sr va => ⟨vp_in_nI (by omega) (by omega), ?_⟩), fun _ _ _ _ _ _ _ h => h⟩
  rw [nI_clamp (show 12 + F < 2 ^ 31 by omega)]
  rintro sb rfl
  refine ⟨fun e => ?_, fun e => ?_⟩
  · rintro c1 rfl; exact h _ _ _ _ _ _ fx_u fx_u
  · rintro c1 rfl; exact h _ _ _ _ _ _ fx_u fx_u
theorem m_head {qth qta qli qsi qat qpl qso qva qfa qfp qlf qlp qun qhi qro qar qiS qbl qdr : Int32} {tape b so st co : Nat → Int32} {n T t : Nat} {pos s : Nat → Nat} {number name sortOf first second degree colours signBy own : Nat → Int32} {F : Nat} {S : Nat → Nat → Int32} {its : Int32} {Q : Int32 → Int32 → Int32 → Int32 → Int32 → Int32 → (Nat → Int32) → (Nat → Int32) → (Nat → Int32) → (Nat → Int32) → (Nat → Int32) → (Nat → Int32) → (Nat → Int32) → (Nat → Int32) → (Nat → Int32) → Prop} (hx : cx tape b n T so st co pos s) (hs : qsi = nI n) (hf : qfa = 0) (hc : cur n T so st co pos t qat qpl qso qva) (hnu : number 7 = nI (F - 6)) (hF : 6 ≤ F) (hna : ∀ f, f < F → name (12 + f) = S 0 f) (hg : nmG (tkS T so) (tkS T co) F S t) (h : ∀ a p sr va, cur n T so st co pos (t + 2) a p sr va → wF3 qth qta qli qsi qlf qlp qun qhi qro qar qiS qbl qdr a p sr va qfa qfp (nI (12 + F)) its number tape (upd name (12 + F) (tkS T co (t + 1))) (upd sortOf (12 + F) its) (upd first (12 + F) (-2)) (upd second (12 + F) (-2)) (upd degree (12 + F) 1) (upd colours (12 + F) 0) (upd signBy (12 + F) 0) own Q) : wX11_readFunction qth qta qli qsi qat qpl qso qva qfa qfp qlf qlp qun qhi qro qar qiS qbl qdr number tape name sortOf first second degree colours signBy own its Q := by
  obtain ⟨g1, g2, g3⟩ := hg
  unfold wX11_readFunction
  refine ⟨_, m_fread hnu hF ?_, fun _ h => h⟩
  rw [e12]
  rintro x2 rfl
  refine ⟨fun fa fp => fa = qfa ∧ fp = qfp, pn_eq (12 + F) 24 (fun _ => ⟨rfl, rfl⟩) (fun e => by omega), ?_⟩
  rintro fa fp ⟨rfl, rfl⟩
  refine ⟨_, m_go hx hs hf hc (fun a p sr va q => ?_), fun _ _ _ _ h => h⟩
  rcases mt4 q.2.2 with ⟨-, e2, e3⟩ | ⟨e1, -⟩
  case inr => exact absurd g2 e1
  refine ⟨fun _ => ⟨fun fa' fp' => fa' = fa ∧ fp' = fp, br_t e2 ⟨_, m_fread hnu hF ⟨_, s_namedAt (p := 12) rfl (by omega) (fun _ => br_t rfl ⟨rfl, rfl⟩) (fun j hj q1 q2 => absurd (by rw [← hna j hj, q1, e3]) (g3 j hj)), fun _ h => h⟩, fun _ h => h⟩, ?_⟩, fun w => absurd hf w⟩
  rintro fa' fp' ⟨rfl, rfl⟩
  refine ⟨fun _ => ⟨vp_in_nI (by omega) (by omega), ?_⟩, fun w => absurd hf w⟩
  rw [nI_clamp (show 12 + F < 2 ^ 31 by omega), e3]
  rintro r1 rfl r2 rfl r3 rfl r4 rfl r5 rfl
  refine ⟨_, m_tok hx hs q.1 (fun a p sr va q2 => ⟨vp_in_nI (by omega) (by omega), ?_⟩), fun _ _ _ _ h => h⟩
  rintro r6 rfl r7 rfl
  exact h a p sr va q2
theorem m_headB {qth qta qli qsi qat qpl qso qva qfa qfp qlf qlp qun qhi qro qar qiS qbl qdr : Int32} {tape b so st co : Nat → Int32} {n T t : Nat} {pos s : Nat → Nat} {number name sortOf first second degree colours signBy own : Nat → Int32} {F f t' : Nat} {S : Nat → Nat → Int32} {its : Int32} {Q : Int32 → Int32 → Int32 → Int32 → Int32 → Int32 → (Nat → Int32) → (Nat → Int32) → (Nat → Int32) → (Nat → Int32) → (Nat → Int32) → (Nat → Int32) → (Nat → Int32) → (Nat → Int32) → (Nat → Int32) → Prop} (hx : cx tape b n T so st co pos s) (hs : qsi = nI n) (hf : qfa = 0) (hc : cur n T so st co pos t qat qpl qso qva) (hnu : number 7 = nI (F - 6)) (hF : 6 ≤ F) (hF2 : F ≤ 12) (hna : ∀ f, f < F → name (12 + f) = S 0 f) (hb : nmB (tkS T so) (tkS T co) F S t f t') (h : ∀ a p sr va, Q a p sr va (nI f) (tkP T n st t') number name sortOf first second degree colours signBy own) : wX11_readFunction qth qta qli qsi qat qpl qso qva qfa qfp qlf qlp qun qhi qro qar qiS qbl qdr number tape name sortOf first second degree colours signBy own its Q := by
  unfold wX11_readFunction
  refine ⟨_, m_fread hnu hF ?_, fun _ h => h⟩
  rw [e12]
  rintro x2 rfl
  rcases hb with ⟨b1, rfl, rfl⟩ | ⟨b1, b2, rfl, rfl⟩ | ⟨b1, b2, ⟨j0, hj0, ej0⟩, rfl, rfl⟩
  · refine ⟨fun fa fp => fa = 2 ∧ fp = tkP T n st t', pn_eq (12 + F) 24 (fun e => by omega) (fun _ => ⟨_, m_wrong hf ⟨rfl, hc.2.1⟩, fun _ _ h => h⟩), ?_⟩
    rintro fa fp ⟨rfl, rfl⟩
    exact ⟨_, m_goX (by decide) ⟨fun w => absurd w (by decide), fun _ => h _ _ _ _⟩, fun _ _ _ _ h => h⟩
  · refine ⟨fun fa fp => fa = qfa ∧ fp = qfp, pn_eq (12 + F) 24 (fun _ => ⟨rfl, rfl⟩) (fun e => by omega), ?_⟩
    rintro fa fp ⟨rfl, rfl⟩
    refine ⟨_, m_go hx hs hf hc (fun a p sr va q => ?_), fun _ _ _ _ h => h⟩
    rcases mt4 q.2.2 with ⟨e1, -⟩ | ⟨-, e2⟩
    · exact absurd e1 b2
    · refine ⟨fun _ => ⟨fun fa' fp' => fa' = 1 ∧ fp' = tkP T n st (t + 1), br_f e2 ⟨_, m_wrong hf ⟨rfl, q.2.1⟩, fun _ _ h => h⟩, ?_⟩, fun w => absurd hf w⟩
      rintro fa' fp' ⟨rfl, rfl⟩
      exact ⟨fun w => absurd w (by decide), fun _ => h _ _ _ _⟩
  · refine ⟨fun fa fp => fa = qfa ∧ fp = qfp, pn_eq (12 + F) 24 (fun _ => ⟨rfl, rfl⟩) (fun e => by omega), ?_⟩
    rintro fa fp ⟨rfl, rfl⟩
    refine ⟨_, m_go hx hs hf hc (fun a p sr va q => ?_), fun _ _ _ _ h => h⟩
    rcases mt4 q.2.2 with ⟨-, e2, e3⟩ | ⟨e1, -⟩
    case inr => exact absurd b2 e1
    refine ⟨fun _ => ⟨fun fa' fp' => fa' = 3 ∧ fp' = tkP T n st (t + 1), br_t e2 ⟨_, m_fread hnu hF ⟨_, s_namedAt (p := 12) rfl (by omega) (fun q1 => absurd (by rw [hna j0 hj0, ej0, e3]) (q1 j0 hj0)) (fun j hj q1 q2 => br_f (nI_m1 (by omega)) ⟨_, m_wrong hf ⟨rfl, q.2.1⟩, fun _ _ h => h⟩), fun _ h => h⟩, fun _ h => h⟩, ?_⟩, fun w => absurd hf w⟩
    rintro fa' fp' ⟨rfl, rfl⟩
    exact ⟨fun w => absurd w (by decide), fun _ => h _ _ _ _⟩
theorem m_tail {qth qta qli qsi qlf qlp qun qhi qro qar qiS qbl qdr a p sr va fa fp : Int32} {number na so fi se de co sb own : Nat → Int32} {F : Nat} {Q : Int32 → Int32 → Int32 → Int32 → Int32 → Int32 → (Nat → Int32) → (Nat → Int32) → (Nat → Int32) → (Nat → Int32) → (Nat → Int32) → (Nat → Int32) → (Nat → Int32) → (Nat → Int32) → (Nat → Int32) → Prop} (hnu : number 7 = nI (F - 6)) (hF2 : F < 12) (h : ∀ own', (∀ j, j < 12 → own' (12 * (12 + F) + j) = 0) → (∀ i, (i < 12 * (12 + F) ∨ 12 * (12 + F) + 12 ≤ i) → own' i = own i) → Q a p sr va fa fp (upd number 7 (nI (F - 6 + 1))) na so fi se de co sb own') : wF6 qth qta qli qsi qlf qlp qun qhi qro qar qiS qbl qdr a p sr va fa fp (nI (12 + F)) number na so fi se de co sb own Q := by
  unfold wF6
  refine ⟨fun o y => ∃ k : Nat, k ≤ 12 ∧ y = nI k ∧ (∀ j, j < k → o (12 * (12 + F) + j) = 0) ∧ ∀ i, (i < 12 * (12 + F) ∨ 12 * (12 + F) + 12 ≤ i) → o i = own i, fun _ y => 13 - y.toNatClampNeg, ⟨0, by omega, rfl, fun j hj => by omega, fun i _ => rfl⟩, ?_⟩
  rintro o y ⟨k, hk, rfl, h1, h2⟩
  refine pk_le 12 k (fun z => ?_) (fun z => ?_)
  · unfold wX11_reading
    refine ⟨_, ⟨(show vp_in (nI 7) 8 from vp_in_nI (by omega) (by omega)), ?_⟩, fun _ h => h⟩
    rw [show ((4 : Int32) + 3).toNatClampNeg = 7 from by decide, hnu, nI_1]
    exact ⟨_, m_reads (j := 3) (by omega) (h o (fun j hj => h1 j (by omega)) h2), fun _ h => h⟩
  · rw [show (12 : Int32) * nI (12 + F) + nI k = nI (12 * (12 + F) + k) from by rw [show (12 : Int32) = nI 12 from rfl, pk_mul, nI_add], nI_clamp (by omega), nI_1]
    refine ⟨vp_in_nI (by omega) (by omega), ?_⟩
    rintro o2 rfl
    refine ⟨⟨k + 1, by omega, rfl, fun j hj => ?_, fun i hi => by rw [pk_un (by omega)]; exact h2 i hi⟩, ms_up (by omega) (by omega)⟩
    by_cases c : j = k
    · rw [c, pk_us]
    · rw [pk_un (by omega)]; exact h1 j (by omega)
