/-! PURE: the reference reads a text -/
theorem m_lineG {qth qta qli qsi qat qpl qso qva qfa qfp qlf qlp qun qhi qro qar qiS qbl qdr : Int32} {tape b so st co : Nat → Int32} {n T t : Nat} {pos s : Nat → Nat} {isTold number name sortOf first second degree colours signBy own : Nat → Int32} {F F' t' : Nat} {S S' : Nat → Nat → Int32} {o o' : Int32} {Q : Int32 → Int32 → Int32 → Int32 → Int32 → Int32 → Int32 → (Nat → Int32) → (Nat → Int32) → (Nat → Int32) → (Nat → Int32) → (Nat → Int32) → (Nat → Int32) → (Nat → Int32) → (Nat → Int32) → (Nat → Int32) → (Nat → Int32) → Prop} (hx : cx tape b n T so st co pos s) (hs : qsi = nI n) (hf : qfa = 0) (hc : cur n T so st co pos t qat qpl qso qva) (hmd : mdR F S o number isTold name sortOf first second degree colours signBy own) (hw : stW F S) (hl : lnG (tkS T so) (tkS T co) F S o t F' S' o' t') (h : ∀ a p sr va it nu na sO fi se de cO sb ow, cur n T so st co pos t' a p sr va → mdR F' S' o' nu it na sO fi se de cO sb ow → frM nu na sO fi se de cO sb ow number name sortOf first second degree colours signBy own → Q (qli + 1) a p sr va qfa qfp nu na sO fi se de cO sb ow it) : wX11_readLine qth qta qli qsi qat qpl qso qva qfa qfp qlf qlp qun qhi qro qar qiS qbl qdr number tape name sortOf first second degree colours signBy own isTold Q := by
  obtain ⟨u, hb, e1, rfl⟩ := hl
  refine rl (fun cO de fi it na nu ow se sb sO a p sr va fa fp => cur n T so st co pos (u + 1) a p sr va ∧ mdR F' S' o' nu it na sO fi se de cO sb ow ∧ frM nu na sO fi se de cO sb ow number name sortOf first second degree colours signBy own ∧ fa = qfa ∧ fp = qfp) (m_bodyG hx hs hf hc hmd hw hb (fun a p sr va it nu na sO fi se de cO sb ow y1 y2 y3 => ⟨y1, y2, y3, rfl, rfl⟩)) ?_
  unfold wL2
  rintro cO de fi it na nu ow se sb sO a p sr va fa fp ⟨y1, y2, y3, rfl, rfl⟩
  rcases mt1 y1.2.2 with ⟨-, e2⟩ | ⟨e2, -⟩
  case inr => exact absurd e1 e2
  refine ⟨fun w => absurd hf w, fun _ => br_t e2 ⟨_, m_go hx hs hf y1 (fun a p sr va y4 => ?_), fun _ _ _ _ h => h⟩⟩
  rintro l rfl
  exact h a p sr va it nu na sO fi se de cO sb ow y4 y2 y3
theorem m_lineB {qth qta qli qsi qat qpl qso qva qfa qfp qlf qlp qun qhi qro qar qiS qbl qdr : Int32} {tape b so st co : Nat → Int32} {n T t : Nat} {pos s : Nat → Nat} {isTold number name sortOf first second degree colours signBy own : Nat → Int32} {F f t' : Nat} {S : Nat → Nat → Int32} {o : Int32} {Q : Int32 → Int32 → Int32 → Int32 → Int32 → Int32 → Int32 → (Nat → Int32) → (Nat → Int32) → (Nat → Int32) → (Nat → Int32) → (Nat → Int32) → (Nat → Int32) → (Nat → Int32) → (Nat → Int32) → (Nat → Int32) → (Nat → Int32) → Prop} (hx : cx tape b n T so st co pos s) (hs : qsi = nI n) (hf : qfa = 0) (hc : cur n T so st co pos t qat qpl qso qva) (hmd : mdR F S o number isTold name sortOf first second degree colours signBy own) (hw : stW F S) (hl : lnB (tkS T so) (tkS T co) F S o t f t') (h : ∀ a p sr va it nu na sO fi se de cO sb ow, frM nu na sO fi se de cO sb ow number name sortOf first second degree colours signBy own → Q (qli + 1) a p sr va (nI f) (tkP T n st t') nu na sO fi se de cO sb ow it) : wX11_readLine qth qta qli qsi qat qpl qso qva qfa qfp qlf qlp qun qhi qro qar qiS qbl qdr number tape name sortOf first second degree colours signBy own isTold Q := by
  have hff := lnB_f hl
  have hne : ¬ nI f = 0 := nI_ne0 (by omega) (by omega)
  rcases hl with hb | ⟨F', S', o', u, hb, e1, rfl, rfl⟩
  · refine rl (fun cO de fi it na nu ow se sb sO a p sr va fa fp => frM nu na sO fi se de cO sb ow number name sortOf first second degree colours signBy own ∧ fa = nI f ∧ fp = tkP T n st t') (m_bodyB hx hs hf hc hmd hw hb (fun a p sr va it nu na sO fi se de cO sb ow y => ⟨y, rfl, rfl⟩)) ?_
    unfold wL2
    rintro cO de fi it na nu ow se sb sO a p sr va fa fp ⟨y, rfl, rfl⟩
    refine ⟨fun _ => ⟨_, m_goX hne ?_, fun _ _ _ _ h => h⟩, fun w => absurd w hne⟩
    rintro l rfl
    exact h a p sr va it nu na sO fi se de cO sb ow y
  · refine rl (fun cO de fi it na nu ow se sb sO a p sr va fa fp => cur n T so st co pos (u + 1) a p sr va ∧ frM nu na sO fi se de cO sb ow number name sortOf first second degree colours signBy own ∧ fa = qfa ∧ fp = qfp) (m_bodyG hx hs hf hc hmd hw hb (fun a p sr va it nu na sO fi se de cO sb ow y1 y2 y3 => ⟨y1, y3, rfl, rfl⟩)) ?_
    unfold wL2
    rintro cO de fi it na nu ow se sb sO a p sr va fa fp ⟨y1, y3, rfl, rfl⟩
    rcases mt1 y1.2.2 with ⟨e2, -⟩ | ⟨-, e2⟩
    · exact absurd e2 e1
    refine ⟨fun w => absurd hf w, fun _ => br_f e2 ⟨_, m_wrong hf ⟨_, m_goX (by decide) ?_, fun _ _ _ _ h => h⟩, fun _ _ h => h⟩⟩
    rintro l rfl
    have := h a p sr va it nu na sO fi se de cO sb ow y3
    rw [← y1.2.1] at this
    exact this
def nO (f : Nat) : Nat := [0, 4, 7, 10, 14, 18, 24].getD f 0
def nL (f : Nat) : Nat := [3, 2, 2, 3, 3, 5].getD f 0
theorem nO_c : ∀ f, f < 6 → (∀ i, i < 6 → i < nL f → ¬ gCh 4 (nO f + i) = 32) ∧ gCh 4 (nO f + nL f) = 32 ∧ nO f + nL f + 1 = nO (f + 1) ∧ nL f ≤ 5 ∧ nO f + nL f < 24 := by decide +kernel
def knV (f : Nat) : Nat → Int32
  | 0 => 0
  | i + 1 => (knV f i <<< ((5 : Int32) &&& 31)) ||| ((gCh 4 (nO f + i) - 97) + 1)
theorem knV_C : ∀ f, f < 6 → knV f (nL f) <<< ((5 * (6 - nI (nL f))) &&& 31) = knC f 6 := by decide +kernel
theorem m_known {f : Nat} {Q : Int32 → Prop} (hf : f < 6) (h : Q (knC f 6)) : wX11_knownName (nI f) Q := by
  unfold wX11_knownName
  refine ⟨fun x y => ∃ m : Nat, m ≤ f ∧ x = nI (nO m) ∧ y = nI m, fun _ y => 7 - y.toNatClampNeg, ⟨0, by omega, rfl, rfl⟩, ?_⟩
  rintro x y ⟨m, hm, rfl, rfl⟩
  obtain ⟨o1, o2, o3, o4, o5⟩ := nO_c m (by omega)
  refine pk_le f m (fun z => ?_) (fun z => ?_)
  · obtain rfl : m = f := by omega
    refine ⟨fun v y => ∃ i : Nat, i ≤ nL m ∧ y = nI i ∧ v = knV m i, fun _ y => 7 - y.toNatClampNeg, ⟨0, by omega, rfl, rfl⟩, ?_⟩
    rintro v y ⟨i, hi, rfl, rfl⟩
    rw [nI_add, nI_clamp (show nO m + i < 2 ^ 31 by omega), nI_1]
    refine ⟨vp_in_nI (by omega) (by omega), ?_⟩
    by_cases c : i < nL m
    · refine br_f (o1 i (by omega) c) ?_
      rintro t rfl
      exact ⟨⟨i + 1, by omega, rfl, rfl⟩, ms_up (by omega) (by omega)⟩
    · obtain rfl : i = nL m := by omega
      refine br_t o2 ?_
      rw [knV_C m hf]
      exact h
  · refine ⟨fun y => ∃ j : Nat, y = nI (nO m + j) ∧ j ≤ nL m, fun y => 60 - y.toNatClampNeg, ⟨0, rfl, by omega⟩, ?_⟩
    rintro y ⟨j, rfl, hj⟩
    refine ⟨vp_in_nI (by omega) (by omega), ?_⟩
    rw [nI_clamp (show nO m + j < 2 ^ 31 by omega), nI_1, nI_1]
    by_cases c : j < nL m
    · exact br_f (o1 j (by omega) c) ⟨⟨j + 1, rfl, c⟩, ms_up (by omega) (by omega)⟩
    · obtain rfl : j = nL m := by omega
      exact br_t o2 ⟨⟨m + 1, by omega, by rw [o3], rfl⟩, ms_up (by omega) (by omega)⟩
theorem nar0 : vp_nar .boolean 0 = 0 := by decide
theorem m_fresh {qth qta qli qsi qat qpl qso qva qfa qfp qlf qlp qun qhi qro qar qiS qbl qdr : Int32} {isTold number name sortOf first second degree colours signBy own nm K A B D C N : Nat → Int32} {Q : (Nat → Int32) → (Nat → Int32) → (Nat → Int32) → (Nat → Int32) → (Nat → Int32) → (Nat → Int32) → (Nat → Int32) → (Nat → Int32) → (Nat → Int32) → Prop} (hfr : frR nm K A B D C N) (h : ∀ it nu na sO fi se de cO sb, mdR 6 (mkS nm K A B D C N s70) 0 nu it na sO fi se de cO sb own → frM nu na sO fi se de cO sb own number name sortOf first second degree colours signBy own → Q nu it na sO fi se de cO sb) : wX11_freshText qth qta qli qsi qat qpl qso qva qfa qfp qlf qlp qun qhi qro qar qiS qbl qdr number isTold name sortOf first second degree colours signBy Q := by
  unfold wX11_freshText
  refine ⟨fun nu y => ∃ k : Nat, k ≤ 4 ∧ y = nI k ∧ (∀ j, j < k → nu (4 + j) = 0) ∧ ∀ i, i < 4 → nu i = number i, fun _ y => 5 - y.toNatClampNeg, ⟨0, by omega, rfl, fun j hj => by omega, fun i _ => rfl⟩, ?_⟩
  rintro nu y ⟨k, hk, rfl, h1, h2⟩
  refine pk_le 4 k (fun z => ?_) (fun z => ⟨_, m_reads z ?_, fun _ h => h⟩)
  rotate_left
  · rw [nI_1]
    refine ⟨⟨k + 1, by omega, rfl, fun j hj => ?_, fun i hi => by rw [pk_un (by omega)]; exact h2 i hi⟩, ms_up (by omega) (by omega)⟩
    by_cases c : j = k
    · rw [c, pk_us]
    · rw [pk_un (by omega)]; exact h1 j (by omega)
  obtain rfl : k = 4 := by omega
  refine ⟨_, m_reads (j := 0) (by omega) ⟨_, m_reads (j := 1) (by omega) ?_, fun _ h => h⟩, fun _ h => h⟩
  refine ⟨fun it y => ∃ k : Nat, k ≤ 9 ∧ y = nI k ∧ ∀ j, j < k → it j = 0, fun _ y => 10 - y.toNatClampNeg, ⟨0, by omega, rfl, fun j hj => by omega⟩, ?_⟩
  rintro it y ⟨k, hk, rfl, h3⟩
  refine pk_le 9 k (fun z => ?_) (fun z => ⟨vp_in_nI (by omega) (by omega), ?_⟩)
  rotate_left
  · rw [nI_clamp (by omega), nI_1]
    rintro it2 rfl
    refine ⟨⟨k + 1, by omega, rfl, fun j hj => ?_⟩, ms_up (by omega) (by omega)⟩
    by_cases c : j = k
    · rw [c, pk_us]; exact nar0
    · rw [pk_un (by omega)]; exact h3 j (by omega)
  obtain rfl : k = 9 := by omega
  refine ⟨fun cO de fi na se sb sO y => ∃ k : Nat, k ≤ 6 ∧ y = nI k ∧ (∀ f, f < k → na (12 + f) = knC f 6 ∧ sO (12 + f) = 0 ∧ fi (12 + f) = -2 ∧ se (12 + f) = -2 ∧ de (12 + f) = gDeg f ∧ cO (12 + f) = 0) ∧ ∀ i, i < 12 → na i = name i ∧ sO i = sortOf i ∧ fi i = first i ∧ se i = second i ∧ de i = degree i ∧ cO i = colours i ∧ sb i = signBy i, fun _ _ _ _ _ _ _ y => 7 - y.toNatClampNeg, ⟨0, by omega, rfl, fun f hf => by omega, fun i _ => ⟨rfl, rfl, rfl, rfl, rfl, rfl, rfl⟩⟩, ?_⟩
  rintro cO de fi na se sb sO y ⟨k, hk, rfl, h4, h5⟩
  refine pk_le 6 k (fun z => ?_) (fun z => ⟨_, m_known z ⟨by rw [e12]; exact vp_in_nI (by omega) (by omega), ?_⟩, fun _ h => h⟩)
  · obtain rfl : k = 6 := by omega
    refine h it _ na sO fi se de cO sb ⟨fun f hf => ?_, fun i a b => by omega, fun i a b => hfr.2 i b, ⟨?_, ?_, ?_, ?_⟩, fun j hj => ⟨fun _ => ?_, fun _ => h3 j (by omega)⟩⟩ ⟨h5, fun _ _ => rfl, fun i hi => ?_⟩
    · obtain ⟨r0, r1, r2, r3, r4, r5⟩ := hfr.1 f hf
      obtain ⟨q0, q1, q2, q3, q4, q5⟩ := h4 f hf
      show na (12 + f) = nm f ∧ sO (12 + f) = K f ∧ fi (12 + f) = A f ∧ se (12 + f) = B f ∧ de (12 + f) = D f ∧ cO (12 + f) = C f ∧ (K f = 5 → sb (12 + f) = nI (if C f == 1 then 3 else 4))
      rw [r0, r1, r2, r3, r4, r5]
      exact ⟨q0, q1, q2, q3, q4, q5, fun w => absurd w (by decide)⟩
    · rw [pk_un (by omega), pk_us]; rfl
    · rw [pk_us]; rfl
    · rw [pk_un (by omega), pk_un (by omega)]; exact h1 2 (by omega)
    · rw [pk_un (by omega), pk_un (by omega)]; exact h1 3 (by omega)
    · exact b_ext (fun i hi => by rw [b_and, b_0, Bool.false_and])
    · rw [pk_un (by omega), pk_un (by omega)]; exact h2 i hi
  · rw [e12, nI_clamp (show 12 + k < 2 ^ 31 by omega), nI_1]
    rintro na2 rfl so2 rfl fi2 rfl se2 rfl
    have fin : ∀ d : Int32, d = gDeg k → ∀ de2 : Nat → Int32, de2 = upd de (12 + k) d → ∀ cO2 : Nat → Int32, cO2 = upd cO (12 + k) 0 → ∀ sb2 : Nat → Int32, sb2 = upd sb (12 + k) 0 → ((∃ k' : Nat, k' ≤ 6 ∧ nI (k + 1) = nI k' ∧ (∀ f, f < k' → upd na (12 + k) (knC k 6) (12 + f) = knC f 6 ∧ upd sO (12 + k) 0 (12 + f) = 0 ∧ upd fi (12 + k) (-2) (12 + f) = -2 ∧ upd se (12 + k) (-2) (12 + f) = -2 ∧ de2 (12 + f) = gDeg f ∧ cO2 (12 + f) = 0) ∧ ∀ i, i < 12 → upd na (12 + k) (knC k 6) i = name i ∧ upd sO (12 + k) 0 i = sortOf i ∧ upd fi (12 + k) (-2) i = first i ∧ upd se (12 + k) (-2) i = second i ∧ de2 i = degree i ∧ cO2 i = colours i ∧ sb2 i = signBy i) ∧ 7 - (nI (k + 1)).toNatClampNeg < 7 - (nI k).toNatClampNeg) := by
      rintro d hd de2 rfl cO2 rfl sb2 rfl
      refine ⟨⟨k + 1, by omega, rfl, fun f hf => ?_, fun i hi => ?_⟩, ms_up (by omega) (by omega)⟩
      · by_cases c : f = k
        · subst c
          rw [pk_us, pk_us, pk_us, pk_us, pk_us, pk_us]
          exact ⟨rfl, rfl, rfl, rfl, hd, rfl⟩
        · have hx : 12 + f ≠ 12 + k := by omega
          rw [pk_un hx, pk_un hx, pk_un hx, pk_un hx, pk_un hx, pk_un hx]
          exact h4 f (by omega)
      · have hx : i ≠ 12 + k := by omega
        rw [pk_un hx, pk_un hx, pk_un hx, pk_un hx, pk_un hx, pk_un hx, pk_un hx]
        exact h5 i hi
    refine br_c (fun e => fin 1 ?_) (fun e1 => br_c (fun e => fin 1 ?_) (fun e2 => ⟨fun e3 => fin 0 ?_, fun e => fin 1 ?_⟩))
    · have : k = 1 := (nI_eq (b := 1) (by omega) (by omega)).mp e
      subst this; rfl
    · have : k = 3 := (nI_eq (b := 3) (by omega) (by omega)).mp e
      subst this; rfl
    · have k1 : k ≠ 1 := fun w => e1 (by rw [w]; rfl)
      have k3 : k ≠ 3 := fun w => e2 (by rw [w]; rfl)
      have k5 : k ≠ 5 := fun w => e3 (by rw [w]; rfl)
      have : k = 0 ∨ k = 2 ∨ k = 4 := by omega
      rcases this with rfl | rfl | rfl <;> rfl
    · have : k = 5 := (nI_eq (b := 5) (by omega) (by omega)).mp e
      subst this; rfl
theorem m_text {qth qta qli qsi qat qpl qso qva qfa qfp qlf qlp qun qhi qro qar qiS qbl qdr : Int32} {tape b so st co : Nat → Int32} {n T : Nat} {pos s : Nat → Nat} {isTold number name sortOf first second degree colours signBy own nm K A B D C N : Nat → Int32} {k F t f t' : Nat} {S : Nat → Nat → Int32} {o : Int32} {Q : Int32 → Int32 → Int32 → Int32 → Int32 → Int32 → Int32 → Int32 → (Nat → Int32) → (Nat → Int32) → (Nat → Int32) → (Nat → Int32) → (Nat → Int32) → (Nat → Int32) → (Nat → Int32) → (Nat → Int32) → (Nat → Int32) → (Nat → Int32) → Prop} (hx : cx tape b n T so st co pos s) (hfr : frR nm K A B D C N) (hk : k ≤ 701) (htr : trR (tkS T so) (tkS T co) k 6 (mkS nm K A B D C N s70) 0 0 F S o t) (hend : (tkS T so t = 0 ∧ ∀ a p sr va fp it nu na sO fi se de cO sb ow, mdR F S o nu it na sO fi se de cO sb ow → frM nu na sO fi se de cO sb ow number name sortOf first second degree colours signBy own → Q (nI k) (nI n) a p sr va 0 fp nu it na sO fi se de cO sb ow) ∨ (¬ tkS T so t = 0 ∧ lnB (tkS T so) (tkS T co) F S o t f t' ∧ ∀ l a p sr va it nu na sO fi se de cO sb ow, frM nu na sO fi se de cO sb ow number name sortOf first second degree colours signBy own → Q l (nI n) a p sr va (nI f) (tkP T n st t') nu it na sO fi se de cO sb ow)) : wX11_readText qth qta qli qsi qat qpl qso qva qfa qfp qlf qlp qun qhi qro qar qiS qbl qdr number isTold name sortOf first second degree colours signBy tape own (nI n) Q := by
  unfold wX11_readText
  refine ⟨_, m_fresh (own := own) hfr (fun it nu na sO fi se de cO sb hmd hfm => ?_), fun _ _ _ _ _ _ _ _ _ h => h⟩
  have hw0 : stW 6 (mkS nm K A B D C N s70) := by
    refine ⟨by omega, fun f hf _ => (hfr.1 f hf).2.1, fun f hf => ?_⟩
    show ∃ d, d ≤ 3 ∧ D f = nI d
    rw [(hfr.1 f hf).2.2.2.2.1]
    have hd : ∀ f, f < 6 → gDeg f = nI (f % 2) := by decide +kernel
    exact ⟨f % 2, by omega, hd f hf⟩
  have hp0 : pP pos T n 0 = 0 := by rw [pP, if_pos (by omega)]; exact hx.2.2.2.2.1.1
  refine ⟨_, m_tok (t := 0) hx rfl (by rw [hp0]; rfl) (fun a p sr va q => ?_), fun _ _ _ _ h => h⟩
  refine ⟨fun cO de fi it na nu ow se sb sO l a p sr va fa fp => (∃ j Fj Sj oj tj, j ≤ k ∧ trR (tkS T so) (tkS T co) (k - j) Fj Sj oj tj F S o t ∧ stW Fj Sj ∧ mdR Fj Sj oj nu it na sO fi se de cO sb ow ∧ frM nu na sO fi se de cO sb ow number name sortOf first second degree colours signBy own ∧ cur n T so st co pos tj a p sr va ∧ fa = 0 ∧ l = nI j) ∨ (¬ tkS T so t = 0 ∧ lnB (tkS T so) (tkS T co) F S o t f t' ∧ frM nu na sO fi se de cO sb ow number name sortOf first second degree colours signBy own ∧ fa = nI f ∧ fp = tkP T n st t' ∧ l = nI (k + 1)), fun _ _ _ _ _ _ _ _ _ _ l _ _ _ _ _ _ => 800 - l.toNatClampNeg, Or.inl ⟨0, 6, _, 0, 0, by omega, htr, hw0, hmd, hfm, q, rfl, rfl⟩, ?_⟩
  rintro cO de fi it na nu ow se sb sO l a p sr va fa fp hI
  rcases hI with ⟨j, Fj, Sj, oj, tj, hj, htrj, hwj, hmdj, hfmj, hcj, rfl, rfl⟩ | ⟨hne, hln, hfmj, rfl, rfl, rfl⟩
  · refine ⟨fun w => absurd rfl w, fun _ => ?_⟩
    obtain ⟨m, hm⟩ : ∃ m, k - j = m := ⟨_, rfl⟩
    rw [hm] at htrj
    cases m with
    | zero =>
      obtain ⟨rfl, rfl, rfl, rfl⟩ := htrj
      have ejk : j = k := by omega
      subst ejk
      rcases hend with ⟨e0, hQ⟩ | ⟨e0, hln, hQ⟩
      · rcases mt0 hcj.2.2 with ⟨-, e5⟩ | ⟨e5, -⟩
        · exact br_t e5 (hQ _ _ _ _ _ _ _ _ _ _ _ _ _ _ _ hmdj hfmj)
        · exact absurd e0 e5
      · rcases mt0 hcj.2.2 with ⟨e5, -⟩ | ⟨-, e5⟩
        · exact absurd e5 e0
        · refine br_f e5 ⟨_, m_lineB hx rfl rfl hcj hmdj hwj hln (fun a p sr va it nu na sO fi se de cO sb ow y => ?_), fun _ _ _ _ _ _ _ _ _ _ _ _ _ _ _ _ _ h => h⟩
          rw [nI_1]
          exact ⟨Or.inr ⟨e0, hln, fr_t y hfmj, rfl, rfl, rfl⟩, ms_up (by omega) (by omega)⟩
    | succ m =>
      obtain ⟨e0, F1, S1, o1, t1, q1, q2⟩ := htrj
      rcases mt0 hcj.2.2 with ⟨e5, -⟩ | ⟨-, e5⟩
      · exact absurd e5 e0
      · refine br_f e5 ⟨_, m_lineG hx rfl rfl hcj hmdj hwj q1 (fun a p sr va it nu na sO fi se de cO sb ow y1 y2 y3 => ?_), fun _ _ _ _ _ _ _ _ _ _ _ _ _ _ _ _ _ h => h⟩
        rw [nI_1]
        obtain ⟨u, hb, -, -⟩ := q1
        exact ⟨Or.inl ⟨j + 1, F1, S1, o1, t1, by omega, by rw [show k - (j + 1) = m by omega]; exact q2, bd_st hb hwj, y2, fr_t y3 hfmj, y1, rfl, rfl⟩, ms_up (by omega) (by omega)⟩
  · have hff := lnB_f hln
    have hne0 : ¬ nI f = 0 := nI_ne0 (by omega) (by omega)
    rcases hend with ⟨e0, -⟩ | ⟨-, -, hQ⟩
    · exact absurd e0 hne
    · exact ⟨fun _ => hQ _ _ _ _ _ _ _ _ _ _ _ _ _ _ _ hfmj, fun w => absurd w hne0⟩
theorem m_take {qth qta qli qsi qat qpl qso qva qfa qfp qlf qlp qun qhi qro qar qiS qbl qdr : Int32} {number name sortOf first second degree colours signBy own : Nat → Int32} {Q : (Nat → Int32) → (Nat → Int32) → (Nat → Int32) → (Nat → Int32) → (Nat → Int32) → (Nat → Int32) → (Nat → Int32) → (Nat → Int32) → (Nat → Int32) → Prop} (h : ∀ nu na sO fi se de cO sb ow, (∀ j, j < 4 → nu j = number (4 + j)) → (∀ j, j < 12 → na j = name (12 + j) ∧ sO j = sortOf (12 + j) ∧ fi j = first (12 + j) ∧ se j = second (12 + j) ∧ de j = degree (12 + j) ∧ cO j = colours (12 + j) ∧ sb j = signBy (12 + j)) → (∀ j, j < 144 → ow j = own (144 + j)) → Q nu na sO fi se de cO sb ow) : wX11_takeText qth qta qli qsi qat qpl qso qva qfa qfp qlf qlp qun qhi qro qar qiS qbl qdr number name sortOf first second degree colours signBy own Q := by
  unfold wX11_takeText
  refine ⟨fun nu y => ∃ i : Nat, i ≤ 4 ∧ y = nI i ∧ (∀ j, j < i → nu j = number (4 + j)) ∧ ∀ j, 4 ≤ j → nu j = number j, fun _ y => 5 - y.toNatClampNeg, ⟨0, by omega, rfl, fun j hj => by omega, fun j _ => rfl⟩, ?_⟩
  rintro nu y ⟨i, hi, rfl, h1, h2⟩
  refine pk_le 4 i (fun z => ?_) (fun z => ?_)
  rotate_left
  · unfold wX11_reading
    rw [show (4 : Int32) + nI i = nI (4 + i) from nI_add 4 i, nI_1, nI_clamp (show 4 + i < 2 ^ 31 by omega), nI_clamp (show i < 2 ^ 31 by omega)]
    refine ⟨_, ⟨vp_in_nI (by omega) (by omega), ?_⟩, fun _ h => h⟩
    refine ⟨vp_in_nI (by omega) (by omega), ?_⟩
    rintro nu2 rfl
    refine ⟨⟨i + 1, by omega, rfl, fun j hj => ?_, fun j hj => by rw [pk_un (by omega)]; exact h2 j hj⟩, ms_up (by omega) (by omega)⟩
    by_cases c : j = i
    · subst c; rw [pk_us]; exact h2 _ (by omega)
    · rw [pk_un c]; exact h1 j (by omega)
  obtain rfl : i = 4 := by omega
  refine ⟨fun cO de fi na se sb sO y => ∃ i : Nat, i ≤ 12 ∧ y = nI i ∧ (∀ j, j < i → na j = name (12 + j) ∧ sO j = sortOf (12 + j) ∧ fi j = first (12 + j) ∧ se j = second (12 + j) ∧ de j = degree (12 + j) ∧ cO j = colours (12 + j) ∧ sb j = signBy (12 + j)) ∧ ∀ j, 12 ≤ j → na j = name j ∧ sO j = sortOf j ∧ fi j = first j ∧ se j = second j ∧ de j = degree j ∧ cO j = colours j ∧ sb j = signBy j, fun _ _ _ _ _ _ _ y => 13 - y.toNatClampNeg, ⟨0, by omega, rfl, fun j hj => by omega, fun j _ => ⟨rfl, rfl, rfl, rfl, rfl, rfl, rfl⟩⟩, ?_⟩
  rintro cO de fi na se sb sO y ⟨i, hi, rfl, h3, h4⟩
  refine pk_le 12 i (fun z => ?_) (fun z => ⟨by rw [e12]; exact vp_in_nI (by omega) (by omega), ?_⟩)
  rotate_left
  · rw [e12, nI_clamp (show 12 + i < 2 ^ 31 by omega), nI_clamp (show i < 2 ^ 31 by omega), nI_1]
    obtain ⟨r0, r1, r2, r3, r4, r5, r6⟩ := h4 (12 + i) (by omega)
    rw [r0, r1, r2, r3, r4, r5, r6]
    rintro e0 rfl
    refine ⟨vp_in_nI (by omega) (by omega), ?_⟩
    rintro na2 rfl e1 rfl so2 rfl e2 rfl fi2 rfl e3 rfl se2 rfl e4 rfl de2 rfl e5 rfl co2 rfl e6 rfl sb2 rfl
    refine ⟨⟨i + 1, by omega, rfl, fun j hj => ?_, fun j hj => ?_⟩, ms_up (by omega) (by omega)⟩
    · by_cases c : j = i
      · subst c
        rw [pk_us, pk_us, pk_us, pk_us, pk_us, pk_us, pk_us]
        exact ⟨rfl, rfl, rfl, rfl, rfl, rfl, rfl⟩
      · rw [pk_un c, pk_un c, pk_un c, pk_un c, pk_un c, pk_un c, pk_un c]
        exact h3 j (by omega)
    · have c : j ≠ i := by omega
      rw [pk_un c, pk_un c, pk_un c, pk_un c, pk_un c, pk_un c, pk_un c]
      exact h4 j hj
  obtain rfl : i = 12 := by omega
  refine ⟨fun ow y => ∃ i : Nat, i ≤ 144 ∧ y = nI i ∧ (∀ j, j < i → ow j = own (144 + j)) ∧ ∀ j, 144 ≤ j → ow j = own j, fun _ y => 145 - y.toNatClampNeg, ⟨0, by omega, rfl, fun j hj => by omega, fun j _ => rfl⟩, ?_⟩
  rintro ow y ⟨i, hi, rfl, h5, h6⟩
  rw [show (144 : Int32) + nI i = nI (144 + i) from nI_add 144 i, nI_1]
  refine pk_le 144 i (fun z => h nu na sO fi se de cO sb ow (fun j hj => h1 j hj) (fun j hj => h3 j hj) (fun j hj => h5 j (by omega))) (fun z => ⟨vp_in_nI (by omega) (by omega), ?_⟩)
  rw [nI_clamp (show 144 + i < 2 ^ 31 by omega), nI_clamp (show i < 2 ^ 31 by omega), h6 (144 + i) (by omega)]
  rintro e rfl
  refine ⟨vp_in_nI (by omega) (by omega), ?_⟩
  rintro ow2 rfl
  refine ⟨⟨i + 1, by omega, rfl, fun j hj => ?_, fun j hj => by rw [pk_un (by omega)]; exact h6 j hj⟩, ms_up (by omega) (by omega)⟩
  by_cases c : j = i
  · subst c; rw [pk_us]
  · rw [pk_un c]; exact h5 j (by omega)
theorem m_begins {qth qta qli qsi qat qpl qso qva qfa qfp qlf qlp qun qhi qro qar qiS qbl qdr : Int32} {number sF own marks mk' : Nat → Int32} {is' : Int32} {Q : Int32 → Int32 → (Nat → Int32) → (Nat → Int32) → Prop} (hsi : ∀ R : Int32 → (Nat → Int32) → Prop, R is' mk' → wX11_sieves qth qta qli qsi qat qpl qso qva qfa qfp qlf qlp qun qhi qro qar qiS qbl qdr marks R) (h : ∀ s', s' 0 = number 0 → s' 1 = number 1 → (∀ k, k < 72 → s' (2 + k) = own (72 + k)) → Q (-1) is' s' mk') : wX11_begins qth qta qli qsi qat qpl qso qva qfa qfp qlf qlp qun qhi qro qar qiS qbl qdr number sF own marks Q := by
  unfold wX11_begins
  rintro e1 rfl s1 rfl e2 rfl s2 rfl
  refine ⟨fun sp y => ∃ i : Nat, i ≤ 72 ∧ y = nI i ∧ sp 0 = number 0 ∧ sp 1 = number 1 ∧ ∀ k, k < i → sp (2 + k) = own (72 + k), fun _ y => 73 - y.toNatClampNeg, ⟨0, by omega, rfl, by rw [pk_un (by omega), pk_us], pk_us, fun k hk => by omega⟩, ?_⟩
  rintro sp y ⟨i, hi, rfl, h0, h1, h2⟩
  rw [show (72 : Int32) + nI i = nI (72 + i) from nI_add 72 i, show (2 : Int32) + nI i = nI (2 + i) from nI_add 2 i, nI_1]
  refine pk_le 72 i (fun z => ?_) (fun z => ⟨vp_in_nI (by omega) (by omega), ?_⟩)
  · exact ⟨_, hsi _ ⟨_, s_forgets (h sp h0 h1 (fun k hk => h2 k (by omega))), fun _ h => h⟩, fun _ _ h => h⟩
  · rw [nI_clamp (show 72 + i < 2 ^ 31 by omega), nI_clamp (show 2 + i < 2 ^ 31 by omega)]
    rintro e rfl
    refine ⟨vp_in_nI (by omega) (by omega), ?_⟩
    rintro s4 rfl
    refine ⟨⟨i + 1, by omega, rfl, by rw [pk_un (by omega)]; exact h0, by rw [pk_un (by omega)]; exact h1, fun k hk => ?_⟩, ms_up (by omega) (by omega)⟩
    by_cases c : k = i
    · subst c; rw [pk_us]
    · rw [pk_un (by omega)]; exact h2 k (by omega)
