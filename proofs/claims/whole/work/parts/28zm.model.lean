/-! PURE: the reference's reader, its small methods -/
def cx (tape b : Nat → Int32) (n T : Nat) (so st co : Nat → Int32) (pos s : Nat → Nat) : Prop := n ≤ 700 ∧ T ≤ n ∧ (∀ i, i < n → tape i = b i) ∧ (∀ i, i < n → ∃ c, c < 256 ∧ b i = nI c) ∧ tsR b n T so st co pos s ∧ pos T ≤ n ∧ ∀ i, pos T ≤ i → i < n → bl (b i)
def pP (pos : Nat → Nat) (T n t : Nat) : Nat := if t ≤ T then pos t else n
theorem cx_tk {tape b so st co : Nat → Int32} {n T : Nat} {pos s : Nat → Nat} (h : cx tape b n T so st co pos s) (t : Nat) : ∃ s', tkR b n (pP pos T n t) s' (pP pos T n (t + 1)) (tkS T so t) (tkS T co t) ∧ tkP T n st t = nI s' ∧ pP pos T n t ≤ n := by
  obtain ⟨h1, h2, h3, h4, h5, h6, h7⟩ := h
  rcases Nat.lt_or_ge t T with c | c
  · obtain ⟨e1, e2, e3, e4⟩ := h5.2 t c
    refine ⟨s t, ?_, ?_, ?_⟩
    · rw [pP, if_pos (by omega), pP, if_pos (by omega), tkS, if_pos c, tkS, if_pos c]; exact e4
    · rw [tkP, if_pos c]; exact e1
    · rw [pP, if_pos (by omega)]; exact e3
  · refine ⟨n, ?_, by rw [tkP, if_neg (by omega)], ?_⟩
    · rw [show pP pos T n (t + 1) = n from by rw [pP, if_neg (by omega)], tkS, if_neg (by omega), tkS, if_neg (by omega)]
      by_cases c2 : t = T
      · rw [pP, if_pos (by omega), c2]
        exact ⟨h6, h7, Or.inl ⟨rfl, rfl, rfl⟩⟩
      · rw [pP, if_neg (by omega)]
        exact ⟨Nat.le_refl _, fun i p q => by omega, Or.inl ⟨rfl, rfl, rfl⟩⟩
    · by_cases c2 : t = T
      · rw [pP, if_pos (by omega), c2]; exact h6
      · rw [pP, if_neg (by omega)]; exact Nat.le_refl _
def cur (n T : Nat) (so st co : Nat → Int32) (pos : Nat → Nat) (t : Nat) (a p sr va : Int32) : Prop := a = nI (pP pos T n (t + 1)) ∧ p = tkP T n st t ∧ mtR (tkS T so t) (tkS T co t) sr va
theorem m_tok {qth qta qli qsi qat qpl qso qva qfa qfp qlf qlp qun qhi qro qar qiS qbl qdr : Int32} {tape b so st co : Nat → Int32} {n T t : Nat} {pos s : Nat → Nat} {Q : Int32 → Int32 → Int32 → Int32 → Prop} (hx : cx tape b n T so st co pos s) (hs : qsi = nI n) (hq : qat = nI (pP pos T n t)) (h : ∀ a p sr va, cur n T so st co pos t a p sr va → Q a p sr va) : wX11_token qth qta qli qsi qat qpl qso qva qfa qfp qlf qlp qun qhi qro qar qiS qbl qdr tape Q := by
  obtain ⟨s', e1, e2, e3⟩ := cx_tk hx t
  exact m_token hs hq hx.1 e3 hx.2.2.1 hx.2.2.2.1 e1 (fun ms mv q => h _ _ ms mv ⟨rfl, e2.symm, q⟩)
theorem m_go {qth qta qli qsi qat qpl qso qva qfa qfp qlf qlp qun qhi qro qar qiS qbl qdr : Int32} {tape b so st co : Nat → Int32} {n T t : Nat} {pos s : Nat → Nat} {Q : Int32 → Int32 → Int32 → Int32 → Prop} (hx : cx tape b n T so st co pos s) (hs : qsi = nI n) (hf : qfa = 0) (hc : cur n T so st co pos t qat qpl qso qva) (h : ∀ a p sr va, cur n T so st co pos (t + 1) a p sr va → Q a p sr va) : wX11_goOn qth qta qli qsi qat qpl qso qva qfa qfp qlf qlp qun qhi qro qar qiS qbl qdr tape Q := by
  unfold wX11_goOn
  exact ⟨fun w => absurd hf w, fun _ => ⟨_, m_tok hx hs hc.1 h, fun _ _ _ _ h => h⟩⟩
theorem m_goX {qth qta qli qsi qat qpl qso qva qfa qfp qlf qlp qun qhi qro qar qiS qbl qdr : Int32} {tape : Nat → Int32} {Q : Int32 → Int32 → Int32 → Int32 → Prop} (hf : ¬ qfa = 0) (h : Q qat qpl qso qva) : wX11_goOn qth qta qli qsi qat qpl qso qva qfa qfp qlf qlp qun qhi qro qar qiS qbl qdr tape Q := by
  unfold wX11_goOn
  exact ⟨fun _ => h, fun w => absurd w hf⟩
theorem m_wrong {qth qta qli qsi qat qpl qso qva qfa qfp qlf qlp qun qhi qro qar qiS qbl qdr : Int32} {a : Int32} {Q : Int32 → Int32 → Prop} (hf : qfa = 0) (h : Q a qpl) : wX11_wrong qth qta qli qsi qat qpl qso qva qfa qfp qlf qlp qun qhi qro qar qiS qbl qdr a Q := by
  unfold wX11_wrong
  exact ⟨fun _ => h, fun w => absurd hf w⟩
theorem ne10 {w k : Nat} (hk : k < 10) (hw : w < 9) : ¬ nI (10 + w) = nI k := fun e => by
  have := (nI_eq (by omega) (by omega)).mp e
  omega
theorem mt2 {so co ms mv : Int32} (h : mtR so co ms mv) : (so = 2 ∧ ms = 2 ∧ ∃ c m, co = nI c ∧ mv = nI m ∧ nrel c m) ∨ (¬ so = 2 ∧ ¬ ms = 2) := by
  rcases h with ⟨w, hw, rfl, rfl, -⟩ | ⟨rfl, rfl, -⟩ | ⟨h1, h2, h3⟩ | ⟨rfl, rfl, -⟩ | ⟨rfl, rfl⟩ | ⟨rfl, rfl⟩ | ⟨rfl, rfl⟩
  · exact Or.inr ⟨ne10 (k := 2) (by omega) hw, by decide⟩
  · exact Or.inr (by decide)
  · exact Or.inl ⟨h1, h2, h3⟩
  · exact Or.inr (by decide)
  · exact Or.inr (by decide)
  · exact Or.inr (by decide)
  · exact Or.inr (by decide)
theorem mt3 {so co ms mv : Int32} (h : mtR so co ms mv) : (so = 3 ∧ ms = 3 ∧ ∃ c m, co = - nI c ∧ mv = - nI m ∧ nrel c m) ∨ (¬ so = 3 ∧ ¬ ms = 3) := by
  rcases h with ⟨w, hw, rfl, rfl, -⟩ | ⟨rfl, rfl, -⟩ | ⟨rfl, rfl, -⟩ | ⟨h1, h2, h3⟩ | ⟨rfl, rfl⟩ | ⟨rfl, rfl⟩ | ⟨rfl, rfl⟩
  · exact Or.inr ⟨ne10 (k := 3) (by omega) hw, by decide⟩
  · exact Or.inr (by decide)
  · exact Or.inr (by decide)
  · exact Or.inl ⟨h1, h2, h3⟩
  · exact Or.inr (by decide)
  · exact Or.inr (by decide)
  · exact Or.inr (by decide)
theorem mt4 {so co ms mv : Int32} (h : mtR so co ms mv) : (so = 4 ∧ ms = 1 ∧ mv = co) ∨ (¬ so = 4 ∧ ¬ ms = 1) := by
  rcases h with ⟨w, hw, rfl, rfl, -⟩ | ⟨h1, h2, h3⟩ | ⟨rfl, rfl, -⟩ | ⟨rfl, rfl, -⟩ | ⟨rfl, rfl⟩ | ⟨rfl, rfl⟩ | ⟨rfl, rfl⟩
  · exact Or.inr ⟨ne10 (k := 4) (by omega) hw, by decide⟩
  · exact Or.inl ⟨h1, h2, h3⟩
  · exact Or.inr (by decide)
  · exact Or.inr (by decide)
  · exact Or.inr (by decide)
  · exact Or.inr (by decide)
  · exact Or.inr (by decide)
theorem mt1 {so co ms mv : Int32} (h : mtR so co ms mv) : (so = 1 ∧ ms = 4) ∨ (¬ so = 1 ∧ ¬ ms = 4) := by
  rcases h with ⟨w, hw, rfl, rfl, -⟩ | ⟨rfl, rfl, -⟩ | ⟨rfl, rfl, -⟩ | ⟨rfl, rfl, -⟩ | ⟨h1, h2⟩ | ⟨rfl, rfl⟩ | ⟨rfl, rfl⟩
  · exact Or.inr ⟨ne10 (k := 1) (by omega) hw, by decide⟩
  · exact Or.inr (by decide)
  · exact Or.inr (by decide)
  · exact Or.inr (by decide)
  · exact Or.inl ⟨h1, h2⟩
  · exact Or.inr (by decide)
  · exact Or.inr (by decide)
theorem mt0 {so co ms mv : Int32} (h : mtR so co ms mv) : (so = 0 ∧ ms = 5) ∨ (¬ so = 0 ∧ ¬ ms = 5) := by
  rcases h with ⟨w, hw, rfl, rfl, -⟩ | ⟨rfl, rfl, -⟩ | ⟨rfl, rfl, -⟩ | ⟨rfl, rfl, -⟩ | ⟨rfl, rfl⟩ | ⟨rfl, rfl⟩ | ⟨h1, h2⟩
  · exact Or.inr ⟨ne10 (k := 0) (by omega) hw, by decide⟩
  · exact Or.inr (by decide)
  · exact Or.inr (by decide)
  · exact Or.inr (by decide)
  · exact Or.inr (by decide)
  · exact Or.inr (by decide)
  · exact Or.inl ⟨h1, h2⟩
theorem mtw {so co ms mv : Int32} {w : Nat} (h : mtR so co ms mv) (hw : w < 9) (e : so = nI (10 + w)) : ms = 0 ∧ mv = nI w := by
  rcases h with ⟨w', hw', h1, h2, h3⟩ | ⟨h1, -⟩ | ⟨h1, -⟩ | ⟨h1, -⟩ | ⟨h1, -⟩ | ⟨h1, -⟩ | ⟨h1, -⟩
  · have := (nI_eq (by omega) (by omega)).mp (e.symm.trans h1)
    have : w = w' := by omega
    subst this
    exact ⟨h2, h3⟩
  · exact absurd (e.symm.trans h1) (ne10 (k := 4) (by omega) hw)
  · exact absurd (e.symm.trans h1) (ne10 (k := 2) (by omega) hw)
  · exact absurd (e.symm.trans h1) (ne10 (k := 3) (by omega) hw)
  · exact absurd (e.symm.trans h1) (ne10 (k := 1) (by omega) hw)
  · exact absurd (e.symm.trans h1) (ne10 (k := 5) (by omega) hw)
  · exact absurd (e.symm.trans h1) (ne10 (k := 0) (by omega) hw)
theorem mtx {so co ms mv : Int32} (h : mtR so co ms mv) (e : ∀ w, w < 9 → ¬ so = nI (10 + w)) : ¬ ms = 0 := by
  rcases h with ⟨w, hw, h1, -, -⟩ | ⟨-, rfl, -⟩ | ⟨-, rfl, -⟩ | ⟨-, rfl, -⟩ | ⟨-, rfl⟩ | ⟨-, rfl⟩ | ⟨-, rfl⟩
  · exact absurd h1 (e w hw)
  · decide
  · decide
  · decide
  · decide
  · decide
  · decide
theorem m_numG {qth qta qli qsi qat qpl qso qva qfa qfp qlf qlp qun qhi qro qar qiS qbl qdr : Int32} {tape b so st co : Nat → Int32} {n T t : Nat} {pos s : Nat → Nat} {lo hi : Nat} {Q : Int32 → Int32 → Int32 → Int32 → Int32 → Int32 → Int32 → Prop} (hx : cx tape b n T so st co pos s) (hs : qsi = nI n) (hf : qfa = 0) (hc : cur n T so st co pos t qat qpl qso qva) (hlh : lo < 10000000 ∧ hi < 10000000) (hg : nuG (tkS T so) (tkS T co) (nI lo) (nI hi) t) (h : ∀ a p sr va, cur n T so st co pos (t + 1) a p sr va → Q (tkS T co t) a p sr va qfa qfp) : wX11_numeralOf qth qta qli qsi qat qpl qso qva qfa qfp qlf qlp qun qhi qro qar qiS qbl qdr tape 0 (nI lo) (nI hi) Q := by
  obtain ⟨k, k1, k2, ek⟩ := nu_nat (by omega) (by omega) hg
  rcases mt2 hc.2.2 with ⟨-, e2, c, m, e3, e4, e5⟩ | ⟨e1, -⟩
  case inr => exact absurd hg.1 e1
  have e5' := e5
  obtain ⟨r1, r2, r3⟩ := e5'
  have hck : c = k := (nI_eq (by omega) (by omega)).mp (e3.symm.trans ek)
  have hcm : m = k := by omega
  have hva : qva = tkS T co t := by rw [e4, ek, hcm]
  unfold wX11_numeralOf
  refine ⟨fun _ => ⟨True, br_t e2 trivial, fun _ => ⟨False, br_f (by rw [hva]; exact hg.2.1) (br_t (by rw [hva]; exact hg.2.2) ⟨fun w => absurd hf w, fun _ => ⟨_, m_go hx hs hf hc (fun a p sr va q => ?_), fun _ _ _ _ h => h⟩⟩), fun w => w.elim⟩⟩, fun w => absurd hf w⟩
  have := h a p sr va q
  rw [← hva] at this; exact this
theorem m_numB {qth qta qli qsi qat qpl qso qva qfa qfp qlf qlp qun qhi qro qar qiS qbl qdr : Int32} {tape b so st co : Nat → Int32} {n T t : Nat} {pos s : Nat → Nat} {lo hi f : Nat} {Q : Int32 → Int32 → Int32 → Int32 → Int32 → Int32 → Int32 → Prop} (hf : qfa = 0) (hc : cur n T so st co pos t qat qpl qso qva) (hlh : lo < 10000000 ∧ hi < 10000000) (hb : nuB (tkS T so) (tkS T co) (nI lo) (nI hi) t f) (h : ∀ a p sr va, Q (nI lo) a p sr va (nI f) (tkP T n st t)) (_ : s = s) (_ : b = b) : wX11_numeralOf qth qta qli qsi qat qpl qso qva qfa qfp qlf qlp qun qhi qro qar qiS qbl qdr tape 0 (nI lo) (nI hi) Q := by
  unfold wX11_numeralOf
  refine ⟨fun _ => ?_, fun w => absurd hf w⟩
  have hpl := hc.2.1
  rcases hb with ⟨b1, rfl⟩ | ⟨b1, b2, rfl⟩
  · rcases mt2 hc.2.2 with ⟨e1, -⟩ | ⟨-, e2⟩
    · exact absurd e1 b1
    · refine ⟨False, br_f e2 ⟨True, br_t rfl trivial, fun _ => ⟨_, m_wrong hf ⟨fun _ => ⟨_, m_goX (by decide) ?_, fun _ _ _ _ h => h⟩, fun w => absurd w (by decide)⟩, fun _ _ h => h⟩⟩, fun w => w.elim⟩
      rw [hpl]; exact h _ _ _ _
  · rcases mt2 hc.2.2 with ⟨-, e2, c, m, e3, e4, r1, r2, r3⟩ | ⟨e1, -⟩
    case inr => exact absurd b1 e1
    rw [e3, nI_ltI (by omega) (by omega), nI_leI (by omega) (by omega)] at b2
    refine ⟨True, br_t e2 trivial, fun _ => ⟨True, ?_, fun _ => ⟨_, m_wrong hf ⟨fun _ => ⟨_, m_goX (by decide) ?_, fun _ _ _ _ h => h⟩, fun w => absurd w (by decide)⟩, fun _ _ h => h⟩⟩⟩
    · rw [e4]
      exact pk_lt m lo (fun _ => trivial) (fun q => pk_le m hi (fun q2 => by omega) (fun _ => trivial))
    · rw [hpl]; exact h _ _ _ _
theorem tl_neg {c : Nat} (hc : c ≤ 100000000) : tl (- nI c) ↔ c ≤ 999 := by
  have e : (- nI c).toInt = - (c : Int) := by rw [fb_negI (by rw [nI_toInt (by omega)]; omega), nI_toInt (by omega)]
  unfold tl
  rw [fa_lt, fa_lt, e, show (-999 : Int32).toInt = -999 from by decide, show (999 : Int32).toInt = 999 from by decide]
  omega
theorem tl_pos {c : Nat} (hc : c ≤ 100000000) : tl (nI c) ↔ c ≤ 999 := by
  unfold tl
  rw [fa_lt, fa_lt, nI_toInt (by omega), show (-999 : Int32).toInt = -999 from by decide, show (999 : Int32).toInt = 999 from by decide]
  omega
theorem tl_le {x : Int32} : tl x ↔ ¬ x < (-999) ∧ x ≤ 999 := by
  unfold tl
  rw [fa_lt 999 x, fa_le x 999]
  constructor
  · rintro ⟨a, b⟩; exact ⟨a, by omega⟩
  · rintro ⟨a, b⟩; exact ⟨a, by omega⟩
/-- a signed number: what both make of it -/
theorem sg_v {so co ms mv : Int32} (h : mtR so co ms mv) (hs : so = 2 ∨ so = 3) : (ms = 2 ∨ (¬ ms = 2 ∧ ms = 3)) ∧ (tl co ↔ tl mv) ∧ (tl co → mv = co) := by
  rcases mt2 h with ⟨-, e2, c, m, e3, e4, r1, r2, r3⟩ | ⟨e1, e2⟩
  · refine ⟨Or.inl e2, ?_, ?_⟩
    · rw [e3, e4, tl_pos r2, tl_pos r3]; omega
    · rw [e3, e4, tl_pos r2]; intro q; congr 1; omega
  · rcases mt3 h with ⟨-, e2', c, m, e3, e4, r1, r2, r3⟩ | ⟨e1', -⟩
    · refine ⟨Or.inr ⟨e2, e2'⟩, ?_, ?_⟩
      · rw [e3, e4, tl_neg r2, tl_neg r3]; omega
      · rw [e3, e4, tl_neg r2]; intro q; congr 2; omega
    · exact hs.elim (fun q => absurd q e1) (fun q => absurd q e1')
theorem m_sgnG {qth qta qli qsi qat qpl qso qva qfa qfp qlf qlp qun qhi qro qar qiS qbl qdr : Int32} {tape b so st co : Nat → Int32} {n T t : Nat} {pos s : Nat → Nat} {Q : Int32 → Int32 → Int32 → Int32 → Int32 → Int32 → Int32 → Prop} (hx : cx tape b n T so st co pos s) (hs : qsi = nI n) (hf : qfa = 0) (hc : cur n T so st co pos t qat qpl qso qva) (hg : sgG (tkS T so) (tkS T co) t) (h : ∀ a p sr va, cur n T so st co pos (t + 1) a p sr va → Q (tkS T co t) a p sr va qfa qfp) : wX11_numeralOf qth qta qli qsi qat qpl qso qva qfa qfp qlf qlp qun qhi qro qar qiS qbl qdr tape 1 (-999) 999 Q := by
  obtain ⟨g1, g2, g3⟩ := sg_v hc.2.2 hg.1
  have hva := g3 hg.2
  have ht := tl_le.mp (g2.mp hg.2)
  unfold wX11_numeralOf
  have fin : (∃ (J_2 : Prop), ((qva < (-999) → (J_2)) ∧ (¬ qva < (-999) → ((qva ≤ 999 → ((¬ qfa = 0 → (∃ (P_4 : (Int32) → (Int32) → (Int32) → (Int32) → Prop), wX11_goOn qth qta qli qsi qat qpl qso qva qfa qfp qlf qlp qun qhi qro qar qiS qbl qdr tape P_4 ∧ ∀ (atF_3 : Int32) (place_3 : Int32) (sort_3 : Int32) (value_3 : Int32), P_4 atF_3 place_3 sort_3 value_3 → (Q (-999) atF_3 place_3 sort_3 value_3 qfa qfp))) ∧ (qfa = 0 → (∃ (P_5 : (Int32) → (Int32) → (Int32) → (Int32) → Prop), wX11_goOn qth qta qli qsi qat qpl qso qva qfa qfp qlf qlp qun qhi qro qar qiS qbl qdr tape P_5 ∧ ∀ (atF_4 : Int32) (place_4 : Int32) (sort_4 : Int32) (value_4 : Int32), P_5 atF_4 place_4 sort_4 value_4 → (Q qva atF_4 place_4 sort_4 value_4 qfa qfp))))) ∧ (¬ qva ≤ 999 → (J_2))))) ∧ (J_2 → False)) := by
    refine ⟨False, br_f ht.1 (br_t ht.2 ⟨fun w => absurd hf w, fun _ => ⟨_, m_go hx hs hf hc (fun a p sr va q => ?_), fun _ _ _ _ h => h⟩⟩), fun w => w⟩
    have := h a p sr va q
    rw [← hva] at this; exact this
  obtain ⟨J, j1, j2⟩ := fin
  refine ⟨fun _ => ⟨True, ?_, fun _ => ⟨J, j1, fun w => (j2 w).elim⟩⟩, fun w => absurd hf w⟩
  rcases g1 with e | ⟨e, e'⟩
  · exact br_t e trivial
  · exact br_f e ⟨False, br_f (by decide) (br_t e' trivial), fun w => w.elim⟩
theorem m_sgnB {qth qta qli qsi qat qpl qso qva qfa qfp qlf qlp qun qhi qro qar qiS qbl qdr : Int32} {tape b so st co : Nat → Int32} {n T t : Nat} {pos s : Nat → Nat} {f : Nat} {Q : Int32 → Int32 → Int32 → Int32 → Int32 → Int32 → Int32 → Prop} (hf : qfa = 0) (hc : cur n T so st co pos t qat qpl qso qva) (hb : sgB (tkS T so) (tkS T co) t f) (h : ∀ a p sr va, Q (-999) a p sr va (nI f) (tkP T n st t)) (_ : s = s) (_ : b = b) : wX11_numeralOf qth qta qli qsi qat qpl qso qva qfa qfp qlf qlp qun qhi qro qar qiS qbl qdr tape 1 (-999) 999 Q := by
  unfold wX11_numeralOf
  refine ⟨fun _ => ?_, fun w => absurd hf w⟩
  have hpl := hc.2.1
  rcases hb with ⟨b1, b2, rfl⟩ | ⟨b1, b2, rfl⟩
  · rcases mt2 hc.2.2 with ⟨e1, -⟩ | ⟨-, e2⟩
    · exact absurd e1 b1
    · rcases mt3 hc.2.2 with ⟨e1, -⟩ | ⟨-, e3⟩
      · exact absurd e1 b2
      · refine ⟨False, br_f e2 ⟨True, br_f (by decide) (br_f e3 trivial), fun _ => ⟨_, m_wrong hf ⟨fun _ => ⟨_, m_goX (by decide) ?_, fun _ _ _ _ h => h⟩, fun w => absurd w (by decide)⟩, fun _ _ h => h⟩⟩, fun w => w.elim⟩
        rw [hpl]; exact h _ _ _ _
  · obtain ⟨g1, g2, g3⟩ := sg_v hc.2.2 b1
    have ht : ¬ (¬ qva < (-999) ∧ qva ≤ 999) := fun w => b2 (g2.mpr (tl_le.mpr w))
    refine ⟨True, ?_, fun _ => ⟨True, br_c (fun _ => trivial) (fun q => br_c (fun q2 => absurd ⟨q, q2⟩ ht) (fun _ => trivial)), fun _ => ⟨_, m_wrong hf ⟨fun _ => ⟨_, m_goX (by decide) ?_, fun _ _ _ _ h => h⟩, fun w => absurd w (by decide)⟩, fun _ _ h => h⟩⟩⟩
    · rcases g1 with e | ⟨e, e'⟩
      · exact br_t e trivial
      · exact br_f e ⟨False, br_f (by decide) (br_t e' trivial), fun w => w.elim⟩
    · rw [hpl]; exact h _ _ _ _
theorem m_numX {qth qta qli qsi qat qpl qso qva qfa qfp qlf qlp qun qhi qro qar qiS qbl qdr : Int32} {tape : Nat → Int32} {a1 a2 a3 : Int32} {Q : Int32 → Int32 → Int32 → Int32 → Int32 → Int32 → Int32 → Prop} (hf : ¬ qfa = 0) (h : Q a2 qat qpl qso qva qfa qfp) : wX11_numeralOf qth qta qli qsi qat qpl qso qva qfa qfp qlf qlp qun qhi qro qar qiS qbl qdr tape a1 a2 a3 Q := by
  unfold wX11_numeralOf
  exact ⟨fun w => absurd w hf, fun _ => h⟩
theorem m_fread {qth qta qli qsi qat qpl qso qva qfa qfp qlf qlp qun qhi qro qar qiS qbl qdr : Int32} {number : Nat → Int32} {F : Nat} {Q : Int32 → Prop} (hnu : number 7 = nI (F - 6)) (hF : 6 ≤ F) (h : Q (nI F)) : wX11_functionsRead qth qta qli qsi qat qpl qso qva qfa qfp qlf qlp qun qhi qro qar qiS qbl qdr number Q := by
  unfold wX11_functionsRead wX11_reading
  refine ⟨_, ⟨(show vp_in (nI 7) 8 from vp_in_nI (by omega) (by omega)), ?_⟩, fun _ h => h⟩
  rw [show ((4 : Int32) + 3).toNatClampNeg = 7 from by decide, hnu, show (6 : Int32) + nI (F - 6) = nI F from by rw [show (6 : Int32) = nI 6 from rfl, nI_add]; congr 1; omega]
  exact h
theorem m_fnG {qth qta qli qsi qat qpl qso qva qfa qfp qlf qlp qun qhi qro qar qiS qbl qdr : Int32} {tape b so st co : Nat → Int32} {n T t : Nat} {pos s : Nat → Nat} {number name : Nat → Int32} {F g : Nat} {S : Nat → Nat → Int32} {Q : Int32 → Int32 → Int32 → Prop} (hf : qfa = 0) (hc : cur n T so st co pos t qat qpl qso qva) (hnu : number 7 = nI (F - 6)) (hF : 6 ≤ F) (hF2 : F ≤ 12) (hna : ∀ f, f < F → name (12 + f) = S 0 f) (hg : fnG (tkS T so) (tkS T co) F S t g) (h : Q (nI g) qfa qfp) (_ : s = s) (_ : b = b) (_ : tape = tape) : wX11_functionHere qth qta qli qsi qat qpl qso qva qfa qfp qlf qlp qun qhi qro qar qiS qbl qdr number name Q := by
  obtain ⟨g1, g2, g3, g4⟩ := hg
  rcases mt4 hc.2.2 with ⟨-, e2, e3⟩ | ⟨e1, -⟩
  case inr => exact absurd g1 e1
  unfold wX11_functionHere
  refine ⟨fun _ => ⟨fun fa fp => fa = qfa ∧ fp = qfp, br_t e2 ⟨rfl, rfl⟩, ?_⟩, fun w => absurd hf w⟩
  rintro fa fp ⟨rfl, rfl⟩
  refine ⟨fun w => absurd hf w, fun _ => ⟨_, m_fread hnu hF ⟨_, s_namedAt (p := 12) rfl (by omega) (fun q => ?_) (fun j hj q1 q2 => ?_), fun _ h => h⟩, fun _ h => h⟩⟩
  · exact absurd (by rw [hna g g2, g3, e3]) (q g g2)
  · have ej : j = g := by
      rcases Nat.lt_or_ge j g with w | w
      · exact absurd (by rw [← hna j hj, q1, e3]) (g4 j w)
      · rcases Nat.lt_or_ge g j with w2 | w2
        · exact absurd (by rw [hna g g2, g3, e3]) (q2 g w2)
        · omega
    subst ej
    exact ⟨fun _ => ⟨fun w => absurd hf w, fun _ => h⟩, fun w => absurd w (nI_m1 (by omega))⟩
theorem m_fnB {qth qta qli qsi qat qpl qso qva qfa qfp qlf qlp qun qhi qro qar qiS qbl qdr : Int32} {tape b so st co : Nat → Int32} {n T t : Nat} {pos s : Nat → Nat} {number name : Nat → Int32} {F f : Nat} {S : Nat → Nat → Int32} {Q : Int32 → Int32 → Int32 → Prop} (hf : qfa = 0) (hc : cur n T so st co pos t qat qpl qso qva) (hnu : number 7 = nI (F - 6)) (hF : 6 ≤ F) (hF2 : F ≤ 12) (hna : ∀ f, f < F → name (12 + f) = S 0 f) (hb : fnB (tkS T so) (tkS T co) F S t f) (h : Q 0 (nI f) (tkP T n st t)) (_ : s = s) (_ : b = b) (_ : tape = tape) : wX11_functionHere qth qta qli qsi qat qpl qso qva qfa qfp qlf qlp qun qhi qro qar qiS qbl qdr number name Q := by
  have hpl := hc.2.1
  rw [← hpl] at h
  unfold wX11_functionHere
  refine ⟨fun _ => ?_, fun w => absurd hf w⟩
  rcases hb with ⟨b1, rfl⟩ | ⟨b1, b2, rfl⟩
  · rcases mt4 hc.2.2 with ⟨e1, -⟩ | ⟨-, e2⟩
    · exact absurd e1 b1
    · refine ⟨fun fa fp => fa = 1 ∧ fp = qpl, br_f e2 ⟨_, m_wrong hf ⟨rfl, rfl⟩, fun _ _ h => h⟩, ?_⟩
      rintro fa fp ⟨rfl, rfl⟩
      exact ⟨fun _ => ⟨fun _ => h, fun w => absurd w (by decide)⟩, fun w => absurd w (by decide)⟩
  · rcases mt4 hc.2.2 with ⟨-, e2, e3⟩ | ⟨e1, -⟩
    case inr => exact absurd b1 e1
    refine ⟨fun fa fp => fa = qfa ∧ fp = qfp, br_t e2 ⟨rfl, rfl⟩, ?_⟩
    rintro fa fp ⟨rfl, rfl⟩
    refine ⟨fun w => absurd hf w, fun _ => ⟨_, m_fread hnu hF ⟨_, s_namedAt (p := 12) rfl (by omega) (fun q => ?_) (fun j hj q1 q2 => ?_), fun _ h => h⟩, fun _ h => h⟩⟩
    · exact ⟨fun w => absurd rfl w, fun _ => ⟨_, m_wrong hf ⟨fun _ => h, fun w => absurd w (by decide)⟩, fun _ _ h => h⟩⟩
    · exact absurd (by rw [← hna j hj, q1, e3]) (b2 j hj)
theorem m_fnX {qth qta qli qsi qat qpl qso qva qfa qfp qlf qlp qun qhi qro qar qiS qbl qdr : Int32} {number name : Nat → Int32} {Q : Int32 → Int32 → Int32 → Prop} (hf : ¬ qfa = 0) (h : Q 0 qfa qfp) : wX11_functionHere qth qta qli qsi qat qpl qso qva qfa qfp qlf qlp qun qhi qro qar qiS qbl qdr number name Q := by
  unfold wX11_functionHere
  exact ⟨fun w => absurd w hf, fun _ => h⟩
