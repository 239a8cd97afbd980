/-! PURE: the reference's reader, whole lines -/
theorem f_bad {qth qta qli qsi qat qpl qso qva qfa qfp qlf qlp qun qhi qro qar qiS qbl qdr : Int32} {tape b so st co : Nat → Int32} {n T t : Nat} {pos s : Nat → Nat} {isTold number name sortOf first second degree colours signBy own : Nat → Int32} {F f t' : Nat} {S : Nat → Nat → Int32} {o its : Int32} {Q : Int32 → Int32 → Int32 → Int32 → Int32 → Int32 → (Nat → Int32) → (Nat → Int32) → (Nat → Int32) → (Nat → Int32) → (Nat → Int32) → (Nat → Int32) → (Nat → Int32) → (Nat → Int32) → (Nat → Int32) → Prop} (hx : cx tape b n T so st co pos s) (hs : qsi = nI n) (hf : qfa = 0) (hc : cur n T so st co pos t qat qpl qso qva) (hmd : mdR F S o number isTold name sortOf first second degree colours signBy own) (hF : 6 ≤ F) (hg : nmG (tkS T so) (tkS T co) F S t) (kb : ((its = 2 ∨ its = 3 ∨ its = 4 ∨ its = 5) ∧ fnB (tkS T so) (tkS T co) F S (t + 2) f ∧ t' = t + 2) ∨ ∃ g, fnG (tkS T so) (tkS T co) F S (t + 2) g ∧ (((its = 2 ∨ its = 4) ∧ fnB (tkS T so) (tkS T co) F S (t + 3) f ∧ t' = t + 3) ∨ (its = 4 ∧ (∃ k, fnG (tkS T so) (tkS T co) F S (t + 3) k ∧ (3 < S 4 g + S 4 k ∨ (¬ S 5 g = 0 ∧ ¬ S 5 k = 0))) ∧ f = 2 ∧ t' = t + 3) ∨ (its = 5 ∧ ¬ S 5 g = 0 ∧ f = 2 ∧ t' = t + 2) ∨ (its = 5 ∧ S 5 g = 0 ∧ nuB (tkS T so) (tkS T co) 3 4 (t + 3) f ∧ t' = t + 3))) (hB : ∀ a p sr va nu na sO fi se de cO sb ow, frM nu na sO fi se de cO sb ow number name sortOf first second degree colours signBy own → Q a p sr va (nI f) (tkP T n st t') nu na sO fi se de cO sb ow) : wX11_readFunction qth qta qli qsi qat qpl qso qva qfa qfp qlf qlp qun qhi qro qar qiS qbl qdr number tape name sortOf first second degree colours signBy own its Q := by
  have hnu := hmd.2.2.2.1.2.2.2
  have hF2 := hg.1
  have hna : ∀ f, f < F → upd name (12 + F) (tkS T co (t + 1)) (12 + f) = S 0 f := fun f hf => by rw [pk_un (by omega)]; exact (hmd.1 f hf).1
  have hde : ∀ f, f < F → upd degree (12 + F) 1 (12 + f) = S 4 f := fun f hf => by rw [pk_un (by omega)]; exact (hmd.1 f hf).2.2.2.2.1
  have hco : ∀ f, f < F → upd colours (12 + F) 0 (12 + f) = S 5 f := fun f hf => by rw [pk_un (by omega)]; exact (hmd.1 f hf).2.2.2.2.2.1
  have hX : 12 ≤ 12 + F := by omega
  refine m_head hx hs hf hc hnu hF (fun f hf => (hmd.1 f hf).1) hg (fun a p sr va q => ?_)
  rcases kb with ⟨hi, b1, rfl⟩ | ⟨g, hg1, ⟨hi, b1, rfl⟩ | ⟨rfl, ⟨k, hk, b1⟩, rfl, rfl⟩ | ⟨rfl, b1, rfl, rfl⟩ | ⟨rfl, b0, b1, rfl⟩⟩
  · have hne : ¬ nI f = 0 := nI_ne0 (by have := fn_f b1; omega) (by have := fn_f b1; omega)
    have i1 : ¬ its = 1 := fun e => by rcases hi with r | r | r | r <;> rw [e] at r <;> exact absurd r (by decide)
    exact p3_yes i1 (m_firstF hF2 (fun R hR => m_fnB (tape := tape) (s := s) (b := b) hf q hnu hF (by omega) hna b1 hR rfl rfl rfl) hne (fun fi' de' cO' y1 y2 y3 => f_rest4 hnu hF2 hne (fun a p sr va se' d2 c2 sb' ow nu x1 x2 x3 x4 x5 x6 => hB a p sr va _ _ _ _ _ _ _ _ _ (fr_x hX fx_u fx_u (fx_t y1 fx_u) (fx_t x1 fx_u) (fx_t x2 (fx_t y2 fx_u)) (fx_t x3 (fx_t y3 fx_u)) (fx_t x4 fx_u) x5 x6))))
  · have hne : ¬ nI f = 0 := nI_ne0 (by have := fn_f b1; omega) (by have := fn_f b1; omega)
    have i1 : ¬ its = 1 := fun e => by rcases hi with r | r <;> rw [e] at r <;> exact absurd r (by decide)
    have i5 : ¬ its = 5 := fun e => by rcases hi with r | r <;> rw [e] at r <;> exact absurd r (by decide)
    exact p3_yes i1 (m_firstG (S := S) hx hs hf q hnu hF hF2 hna hde hco hg1 (fun w => absurd w i5) (fun a p sr va q => p4_yes hi (m_secondF hF2 (fun R hR => m_fnB (tape := tape) (s := s) (b := b) hf q hnu hF (by omega) hna b1 hR rfl rfl rfl) hne (fun se' d2 c2 y1 y2 y3 => p5_no i5 (m_tail hnu hF2 (fun ow z1 z2 => hB _ _ _ _ _ _ _ _ _ _ _ _ _ (fr_x hX fx_u fx_u (fx_t fx_u fx_u) (fx_t y1 fx_u) (fx_t y2 (fx_t fx_u fx_u)) (fx_t y3 (fx_t fx_u fx_u)) fx_u (ow_z z2) nu_7)))))))
  · exact p3_yes (by decide) (m_firstG (S := S) hx hs hf q hnu hF hF2 hna hde hco hg1 (fun w => absurd w (by decide)) (fun a p sr va q => p4_yes (Or.inr rfl) (m_secondC (S := S) (s := s) (b := b) (dg := S 4 g) (cg := S 5 g) hf q hnu hF hF2 hna (fun f hf => by rw [pk_un (by omega)]; exact hde f hf) (fun f hf => by rw [pk_un (by omega)]; exact hco f hf) pk_us pk_us hk b1 (fun se' d2 c2 y1 y2 y3 => p5_no (by decide) (m_tail hnu hF2 (fun ow z1 z2 => hB _ _ _ _ _ _ _ _ _ _ _ _ _ (fr_x hX fx_u fx_u (fx_t fx_u fx_u) (fx_t y1 fx_u) (fx_t y2 (fx_t fx_u fx_u)) (fx_t y3 (fx_t fx_u fx_u)) fx_u (ow_z z2) nu_7)))) rfl rfl)))
  · exact p3_yes (by decide) (m_firstC (S := S) (s := s) (b := b) hf q hnu hF hF2 hna hco hg1 b1 (fun fi' de' cO' y1 y2 y3 => f_rest4 hnu hF2 (by decide) (fun a p sr va se' d2 c2 sb' ow nu x1 x2 x3 x4 x5 x6 => hB a p sr va _ _ _ _ _ _ _ _ _ (fr_x hX fx_u fx_u (fx_t y1 fx_u) (fx_t x1 fx_u) (fx_t x2 (fx_t y2 fx_u)) (fx_t x3 (fx_t y3 fx_u)) (fx_t x4 fx_u) x5 x6))) rfl rfl)
  · exact p3_yes (by decide) (m_firstG (S := S) hx hs hf q hnu hF hF2 hna hde hco hg1 (fun _ => b0) (fun a p sr va q => p4_no (by decide) (by decide) (p5_sg (m_signF hF2 (fun R hR => m_numB (lo := 3) (hi := 4) (s := s) (b := b) hf q (by omega) b1 (fun a p sr va => hR a p sr va) rfl rfl) (fun a p sr va sb' c2 y1 y2 => m_tail hnu hF2 (fun ow z1 z2 => hB _ _ _ _ _ _ _ _ _ _ _ _ _ (fr_x hX fx_u fx_u (fx_t fx_u fx_u) fx_u (fx_t fx_u fx_u) (fx_t y2 (fx_t fx_u fx_u)) (fx_t y1 fx_u) (ow_z z2) nu_7)))))))
/-- what is known of a plan while it is read -/
def stW (F : Nat) (S : Nat → Nat → Int32) : Prop := (6 ≤ F ∧ F ≤ 12) ∧ (∀ f, f < F → f < 6 → S 1 f = 0) ∧ ∀ f, f < F → ∃ d, d ≤ 3 ∧ S 4 f = nI d
theorem sw_add {F : Nat} {S : Nat → Nat → Int32} {nm kd a b d c : Int32} (h : stW F S) (hF : F < 12) (hd : ∃ k, k ≤ 3 ∧ d = nI k) : stW (F + 1) (addS S F nm kd a b d c) := by
  obtain ⟨h1, h2, h3⟩ := h
  refine ⟨by omega, fun f hf h6 => ?_, fun f hf => ?_⟩
  · show upd (S 1) F kd f = 0
    rw [pk_un (by omega)]; exact h2 f (by omega) h6
  · show ∃ k, k ≤ 3 ∧ upd (S 4) F d f = nI k
    by_cases e : f = F
    · subst e; rw [pk_us]; exact hd
    · rw [pk_un e]; exact h3 f (by omega)
theorem bd_st {SO CO : Nat → Int32} {F F' t u : Nat} {S S' : Nat → Nat → Int32} {o o' : Int32} (h : bdG SO CO F S o t F' S' o' u) (hw : stW F S) : stW F' S' := by
  rcases h with ⟨j, -, -, -, -, rfl, rfl, -, -⟩ | ⟨-, q, rfl, rfl, -, -⟩ | ⟨g, -, -, -, -, -, -, rfl, rfl, -, -⟩ | ⟨g, k, -, q, qg, qk, rfl, rfl, -, -⟩ | ⟨g, -, q, qg, rfl, rfl, -, -⟩ | ⟨g, k, -, q, qg, qk, q3, -, rfl, rfl, -, -⟩ | ⟨g, -, q, qg, -, -, rfl, rfl, -, -⟩
  · exact hw
  · exact sw_add hw q.1 ⟨1, by omega, rfl⟩
  · exact hw
  · exact sw_add hw q.1 (dg_mx (hw.2.2 g qg.2.1) (hw.2.2 k qk.2.1))
  · exact sw_add hw q.1 (hw.2.2 g qg.2.1)
  · exact sw_add hw q.1 (dg_sum (hw.2.2 g qg.2.1) (hw.2.2 k qk.2.1) q3)
  · exact sw_add hw q.1 (hw.2.2 g qg.2.1)
theorem or_and {o c d : Int32} (h : c &&& d = 0) : (o ||| c) &&& d = o &&& d := b_ext (fun i hi => by
  have := congrArg (fun x => bt x i) h
  rw [b_and, b_0] at this
  rw [b_and, b_or, b_and]
  revert this
  cases bt o i <;> cases bt c i <;> cases bt d i <;> decide)
theorem or_self {o d : Int32} : (o ||| d) &&& d = d := b_ext (fun i hi => by
  rw [b_and, b_or]
  cases bt o i <;> cases bt d i <;> decide)
theorem bit_d : ∀ i, i < 3 → ∀ j, j < 3 → (i ≠ j → bit3 j &&& bit3 i = 0) ∧ ¬ bit3 i = 0 := by decide +kernel
theorem nar1 : ¬ vp_nar .boolean 1 = 0 := by decide
theorem md_set {F j : Nat} {S : Nat → Nat → Int32} {o v : Int32} {it nu na sO fi se de cO sb ow : Nat → Int32} (h : mdR F S o nu it na sO fi se de cO sb ow) (hj : j < 3) : mdR F (setS S j v) (o ||| bit3 j) (upd nu (4 + j) v) (upd it j (vp_nar .boolean 1)) na sO fi se de cO sb ow := by
  obtain ⟨g1, g2, g3, ⟨g4, g5, g6, g7⟩, g8⟩ := h
  refine ⟨g1, g2, g3, ?_, fun i hi => ?_⟩
  · show upd nu (4 + j) v 4 = upd (S 7) j v 0 ∧ upd nu (4 + j) v 5 = upd (S 7) j v 1 ∧ upd nu (4 + j) v 6 = upd (S 7) j v 2 ∧ upd nu (4 + j) v 7 = nI (F - 6)
    have hj3 : j = 0 ∨ j = 1 ∨ j = 2 := by omega
    rcases hj3 with rfl | rfl | rfl
    · exact ⟨by rw [pk_us, pk_us], by rw [pk_un (by omega), pk_un (by omega)]; exact g5, by rw [pk_un (by omega), pk_un (by omega)]; exact g6, by rw [pk_un (by omega)]; exact g7⟩
    · exact ⟨by rw [pk_un (by omega), pk_un (by omega)]; exact g4, by rw [pk_us, pk_us], by rw [pk_un (by omega), pk_un (by omega)]; exact g6, by rw [pk_un (by omega)]; exact g7⟩
    · exact ⟨by rw [pk_un (by omega), pk_un (by omega)]; exact g4, by rw [pk_un (by omega), pk_un (by omega)]; exact g5, by rw [pk_us, pk_us], by rw [pk_un (by omega)]; exact g7⟩
  · by_cases e : i = j
    · subst e
      rw [pk_us, or_self]
      exact ⟨fun w => absurd w nar1, fun w => absurd w (bit_d i hi i hi).2⟩
    · rw [pk_un e, or_and ((bit_d i hi j hj).1 e)]
      exact g8 i hi
theorem md_num {F d : Nat} {S : Nat → Nat → Int32} {o x y : Int32} {it nu na sO fi se de cO sb ow : Nat → Int32} (h : mdR F S o nu it na sO fi se de cO sb ow) (hF : F ≤ 12) (h1 : 72 ≤ d) (h2 : d + 1 < 12 * F) : mdR F (numS S d x y) o nu it na sO fi se de cO sb (upd (upd ow (144 + d) x) (144 + d + 1) y) := by
  obtain ⟨g1, g2, g3, g4, g8⟩ := h
  refine ⟨g1, fun i i1 i2 => ?_, fun i i1 i2 => ?_, g4, g8⟩
  · show upd (upd ow (144 + d) x) (144 + d + 1) y (144 + i) = upd (upd (S 6) d x) (d + 1) y i
    by_cases e1 : i = d + 1
    · subst e1; rw [show 144 + (d + 1) = 144 + d + 1 by omega, pk_us, pk_us]
    · rw [pk_un (by omega), pk_un e1]
      by_cases e2 : i = d
      · subst e2; rw [pk_us, pk_us]
      · rw [pk_un (by omega), pk_un e2]; exact g2 i i1 i2
  · show upd (upd (S 6) d x) (d + 1) y i = 0
    rw [pk_un (by omega), pk_un (by omega)]; exact g3 i i1 i2
theorem fr_nu {nu na sO fi se de cO sb ow nu1 : Nat → Int32} (h : ∀ i, i < 4 → nu1 i = nu i) : frM nu1 na sO fi se de cO sb ow nu na sO fi se de cO sb ow := ⟨fun _ _ => ⟨rfl, rfl, rfl, rfl, rfl, rfl, rfl⟩, fun _ _ => rfl, h⟩
theorem fr_ow {nu na sO fi se de cO sb ow ow1 : Nat → Int32} (h : ∀ i, i < 144 → ow1 i = ow i) : frM nu na sO fi se de cO sb ow1 nu na sO fi se de cO sb ow := ⟨fun _ _ => ⟨rfl, rfl, rfl, rfl, rfl, rfl, rfl⟩, h, fun _ _ => rfl⟩
theorem m_bodyG {qth qta qli qsi qat qpl qso qva qfa qfp qlf qlp qun qhi qro qar qiS qbl qdr : Int32} {tape b so st co : Nat → Int32} {n T t : Nat} {pos s : Nat → Nat} {isTold number name sortOf first second degree colours signBy own : Nat → Int32} {F F' u : Nat} {S S' : Nat → Nat → Int32} {o o' : Int32} {J : (Nat → Int32) → (Nat → Int32) → (Nat → Int32) → (Nat → Int32) → (Nat → Int32) → (Nat → Int32) → (Nat → Int32) → (Nat → Int32) → (Nat → Int32) → (Nat → Int32) → Int32 → Int32 → Int32 → Int32 → Int32 → Int32 → Prop} (hx : cx tape b n T so st co pos s) (hs : qsi = nI n) (hf : qfa = 0) (hc : cur n T so st co pos t qat qpl qso qva) (hmd : mdR F S o number isTold name sortOf first second degree colours signBy own) (hw : stW F S) (hb : bdG (tkS T so) (tkS T co) F S o t F' S' o' u) (hJ : ∀ a p sr va it nu na sO fi se de cO sb ow, cur n T so st co pos (u + 1) a p sr va → mdR F' S' o' nu it na sO fi se de cO sb ow → frM nu na sO fi se de cO sb ow number name sortOf first second degree colours signBy own → J cO de fi it na nu ow se sb sO a p sr va qfa qfp) : wL1 qth qta qli qsi qat qpl qso qva qfa qfp qlf qlp qun qhi qro qar qiS qbl qdr number tape name sortOf first second degree colours signBy own isTold J := by
  have hmt := hc.2.2
  have hnu := hmd.2.2.2.1.2.2.2
  have hna : ∀ f, f < F → name (12 + f) = S 0 f := fun f hf => (hmd.1 f hf).1
  have hso : ∀ f, f < F → sortOf (12 + f) = S 1 f := fun f hf => (hmd.1 f hf).2.1
  obtain ⟨⟨hF, hF2⟩, hk0, hdg⟩ := hw
  unfold wL1
  rcases hb with ⟨j, hj, e, q1, q2, rfl, rfl, rfl, rfl⟩ | ⟨e, q, rfl, rfl, rfl, rfl⟩ | ⟨g, e, q, hk, q1, q2, q3, rfl, rfl, rfl, rfl⟩ | ⟨g, k, e, q, qg, qk, rfl, rfl, rfl, rfl⟩ | ⟨g, e, q, qg, rfl, rfl, rfl, rfl⟩ | ⟨g, k, e, q, qg, qk, q3, q4, rfl, rfl, rfl, rfl⟩ | ⟨g, e, q, qg, q5, q6, rfl, rfl, rfl, rfl⟩
  · have hit := (hmd.2.2.2.2 j hj).mpr q1
    have hj3 : j = 0 ∨ j = 1 ∨ j = 2 := by omega
    have fin : ∀ a p sr va, cur n T so st co pos (t + 2) a p sr va → J colours degree first (upd isTold j (vp_nar .boolean 1)) name (upd number (4 + j) (tkS T co (t + 1))) own second signBy sortOf a p sr va qfa qfp := fun a p sr va q => hJ a p sr va _ _ _ _ _ _ _ _ _ _ q (md_set hmd hj) (fr_nu (fun i hi => pk_un (by omega)))
    rcases hj3 with rfl | rfl | rfl
    · obtain ⟨m1, m2⟩ := mtw (w := 0) hmt (by omega) e
      rw [m2] at hc ⊢
      exact br_t m1 ⟨fun w => absurd rfl w, fun _ => ⟨_, m_onceG (j := 0) (lo := 1) (hi := 200000) hx hs hf hc (by omega) (by omega) hit q2 fin, fun _ _ _ _ _ _ _ _ h => h⟩⟩
    · obtain ⟨m1, m2⟩ := mtw (w := 1) hmt (by omega) e
      rw [m2] at hc ⊢
      exact br_t m1 ⟨fun _ => ⟨fun w => absurd rfl w, fun _ => ⟨_, m_onceG (j := 1) (lo := 2) (hi := 1000003) hx hs hf hc (by omega) (by omega) hit q2 fin, fun _ _ _ _ _ _ _ _ h => h⟩⟩, fun w => absurd w (by decide)⟩
    · obtain ⟨m1, m2⟩ := mtw (w := 2) hmt (by omega) e
      rw [m2] at hc ⊢
      exact br_t m1 ⟨fun _ => ⟨fun _ => ⟨fun w => absurd rfl w, fun _ => ⟨_, m_onceG (j := 2) (lo := 0) (hi := 99999) hx hs hf hc (by omega) (by omega) hit q2 fin, fun _ _ _ _ _ _ _ _ h => h⟩⟩, fun w => absurd w (by decide)⟩, fun w => absurd w (by decide)⟩
  · obtain ⟨m1, m2⟩ := mtw (w := 3) hmt (by omega) e
    rw [m2] at hc ⊢
    exact br_t m1 ⟨fun _ => ⟨fun _ => ⟨fun _ => ⟨fun w => absurd rfl w, fun _ => ⟨_, f_own hx hs hf hc hmd hF q (fun a p sr va nu na sO fi se de cO sb ow y1 y2 y3 => hJ a p sr va isTold nu na sO fi se de cO sb ow y1 y2 y3), fun _ _ _ _ _ _ _ _ _ _ _ _ _ _ _ h => h⟩⟩, fun w => absurd w (by decide)⟩, fun w => absurd w (by decide)⟩, fun w => absurd w (by decide)⟩
  · obtain ⟨m1, m2⟩ := mtw (w := 4) hmt (by omega) e
    rw [m2] at hc ⊢
    have hgF := q.2.1
    have hg6 : 6 ≤ g := by
      rcases Nat.lt_or_ge g 6 with w | w
      · have := hk0 g hgF w; rw [hk] at this; exact absurd this (by decide)
      · exact w
    obtain ⟨k, k1, k2, ek⟩ := nu_nat (a := 1) (b := 6) (by omega) (by omega) q1
    have ek' : (tkS T co (t + 2)).toNatClampNeg = k := by rw [ek]; exact nI_clamp (by omega)
    refine br_t m1 ⟨fun _ => ⟨fun _ => ⟨fun _ => ⟨fun _ => ⟨fun w => absurd rfl w, fun _ => ⟨_, m_atG (S := S) hx hs hf hc hnu hF hF2 hna hso q hk q1 q2 q3 (fun a p sr va y1 => ?_), fun _ _ _ _ _ _ _ h => h⟩⟩, fun w => absurd w (by decide)⟩, fun w => absurd w (by decide)⟩, fun w => absurd w (by decide)⟩, fun w => absurd w (by decide)⟩
    exact hJ a p sr va _ _ _ _ _ _ _ _ _ _ y1 (md_num hmd hF2 (by rw [ek']; omega) (by rw [ek']; omega)) (fr_ow (fun i hi => by rw [pk_un (by omega), pk_un (by omega)]))
  · obtain ⟨m1, m2⟩ := mtw (w := 5) hmt (by omega) e
    rw [m2] at hc ⊢
    have h3 : ¬ 3 < (if S 4 g < S 4 k then S 4 k else S 4 g) := by
      obtain ⟨d, hd, ed⟩ := dg_mx (hdg g qg.2.1) (hdg k qk.2.1)
      rw [ed]; exact nI_nlt (a := 3) (by omega) (by omega)
    exact br_t m1 ⟨fun _ => ⟨fun _ => ⟨fun _ => ⟨fun _ => ⟨fun _ => ⟨fun w => absurd rfl w, fun _ => ⟨_, f_pair hx hs hf hc hmd hF (Or.inl rfl) q qg qk ⟨fun w => absurd w (by decide), fun _ => rfl⟩ h3 (fun w => absurd w (by decide)) (fun a p sr va nu na sO fi se de cO sb ow y1 y2 y3 => hJ a p sr va isTold nu na sO fi se de cO sb ow y1 y2 y3), fun _ _ _ _ _ _ _ _ _ _ _ _ _ _ _ h => h⟩⟩, fun w => absurd w (by decide)⟩, fun w => absurd w (by decide)⟩, fun w => absurd w (by decide)⟩, fun w => absurd w (by decide)⟩, fun w => absurd w (by decide)⟩
  · obtain ⟨m1, m2⟩ := mtw (w := 6) hmt (by omega) e
    rw [m2] at hc ⊢
    exact br_t m1 ⟨fun _ => ⟨fun _ => ⟨fun _ => ⟨fun _ => ⟨fun _ => ⟨fun _ => ⟨fun w => absurd rfl w, fun _ => ⟨_, f_over hx hs hf hc hmd hF q qg (fun a p sr va nu na sO fi se de cO sb ow y1 y2 y3 => hJ a p sr va isTold nu na sO fi se de cO sb ow y1 y2 y3), fun _ _ _ _ _ _ _ _ _ _ _ _ _ _ _ h => h⟩⟩, fun w => absurd w (by decide)⟩, fun w => absurd w (by decide)⟩, fun w => absurd w (by decide)⟩, fun w => absurd w (by decide)⟩, fun w => absurd w (by decide)⟩, fun w => absurd w (by decide)⟩
  · obtain ⟨m1, m2⟩ := mtw (w := 7) hmt (by omega) e
    rw [m2] at hc ⊢
    exact br_t m1 ⟨fun _ => ⟨fun _ => ⟨fun _ => ⟨fun _ => ⟨fun _ => ⟨fun _ => ⟨fun _ => ⟨fun w => absurd rfl w, fun _ => ⟨_, f_pair hx hs hf hc hmd hF (Or.inr rfl) q qg qk ⟨fun _ => rfl, fun w => absurd rfl w⟩ q3 (fun _ => q4) (fun a p sr va nu na sO fi se de cO sb ow y1 y2 y3 => hJ a p sr va isTold nu na sO fi se de cO sb ow y1 y2 y3), fun _ _ _ _ _ _ _ _ _ _ _ _ _ _ _ h => h⟩⟩, fun w => absurd w (by decide)⟩, fun w => absurd w (by decide)⟩, fun w => absurd w (by decide)⟩, fun w => absurd w (by decide)⟩, fun w => absurd w (by decide)⟩, fun w => absurd w (by decide)⟩, fun w => absurd w (by decide)⟩
  · obtain ⟨m1, m2⟩ := mtw (w := 8) hmt (by omega) e
    rw [m2] at hc ⊢
    exact br_t m1 ⟨fun _ => ⟨fun _ => ⟨fun _ => ⟨fun _ => ⟨fun _ => ⟨fun _ => ⟨fun _ => ⟨fun _ => ⟨_, f_twist hx hs hf hc hmd hF q qg q5 q6 (fun a p sr va nu na sO fi se de cO sb ow y1 y2 y3 => hJ a p sr va isTold nu na sO fi se de cO sb ow y1 y2 y3), fun _ _ _ _ _ _ _ _ _ _ _ _ _ _ _ h => h⟩, fun w => absurd w (by decide)⟩, fun w => absurd w (by decide)⟩, fun w => absurd w (by decide)⟩, fun w => absurd w (by decide)⟩, fun w => absurd w (by decide)⟩, fun w => absurd w (by decide)⟩, fun w => absurd w (by decide)⟩, fun w => absurd w (by decide)⟩
/-- where a function's line goes -/
theorem l_fun {qth qta qli qsi qat qpl qso qva qfa qfp qlf qlp qun qhi qro qar qiS qbl qdr : Int32} {tape isTold number name sortOf first second degree colours signBy own : Nat → Int32} {w : Nat} {J : (Nat → Int32) → (Nat → Int32) → (Nat → Int32) → (Nat → Int32) → (Nat → Int32) → (Nat → Int32) → (Nat → Int32) → (Nat → Int32) → (Nat → Int32) → (Nat → Int32) → Int32 → Int32 → Int32 → Int32 → Int32 → Int32 → Prop} (h1 : qso = 0) (h2 : qva = nI w) (hw : w = 3 ∨ w = 5 ∨ w = 6 ∨ w = 7 ∨ w = 8) (h : ∀ its : Int32, (w = 3 ∧ its = 1) ∨ (w = 5 ∧ its = 2) ∨ (w = 6 ∧ its = 3) ∨ (w = 7 ∧ its = 4) ∨ (w = 8 ∧ its = 5) → wX11_readFunction qth qta qli qsi qat qpl qso qva qfa qfp qlf qlp qun qhi qro qar qiS qbl qdr number tape name sortOf first second degree colours signBy own its (fun a p sr va fa fp nu na sO fi se de cO sb ow => J cO de fi isTold na nu ow se sb sO a p sr va fa fp)) : wL1 qth qta qli qsi qat qpl qso qva qfa qfp qlf qlp qun qhi qro qar qiS qbl qdr number tape name sortOf first second degree colours signBy own isTold J := by
  unfold wL1
  rw [h2] at h ⊢
  rcases hw with rfl | rfl | rfl | rfl | rfl
  · exact br_t h1 ⟨fun _ => ⟨fun _ => ⟨fun _ => ⟨fun w => absurd rfl w, fun _ => ⟨_, h 1 (Or.inl ⟨rfl, rfl⟩), fun _ _ _ _ _ _ _ _ _ _ _ _ _ _ _ h => h⟩⟩, fun w => absurd w (by decide)⟩, fun w => absurd w (by decide)⟩, fun w => absurd w (by decide)⟩
  · exact br_t h1 ⟨fun _ => ⟨fun _ => ⟨fun _ => ⟨fun _ => ⟨fun _ => ⟨fun w => absurd rfl w, fun _ => ⟨_, h 2 (Or.inr (Or.inl ⟨rfl, rfl⟩)), fun _ _ _ _ _ _ _ _ _ _ _ _ _ _ _ h => h⟩⟩, fun w => absurd w (by decide)⟩, fun w => absurd w (by decide)⟩, fun w => absurd w (by decide)⟩, fun w => absurd w (by decide)⟩, fun w => absurd w (by decide)⟩
  · exact br_t h1 ⟨fun _ => ⟨fun _ => ⟨fun _ => ⟨fun _ => ⟨fun _ => ⟨fun _ => ⟨fun w => absurd rfl w, fun _ => ⟨_, h 3 (Or.inr (Or.inr (Or.inl ⟨rfl, rfl⟩))), fun _ _ _ _ _ _ _ _ _ _ _ _ _ _ _ h => h⟩⟩, fun w => absurd w (by decide)⟩, fun w => absurd w (by decide)⟩, fun w => absurd w (by decide)⟩, fun w => absurd w (by decide)⟩, fun w => absurd w (by decide)⟩, fun w => absurd w (by decide)⟩
  · exact br_t h1 ⟨fun _ => ⟨fun _ => ⟨fun _ => ⟨fun _ => ⟨fun _ => ⟨fun _ => ⟨fun _ => ⟨fun w => absurd rfl w, fun _ => ⟨_, h 4 (Or.inr (Or.inr (Or.inr (Or.inl ⟨rfl, rfl⟩)))), fun _ _ _ _ _ _ _ _ _ _ _ _ _ _ _ h => h⟩⟩, fun w => absurd w (by decide)⟩, fun w => absurd w (by decide)⟩, fun w => absurd w (by decide)⟩, fun w => absurd w (by decide)⟩, fun w => absurd w (by decide)⟩, fun w => absurd w (by decide)⟩, fun w => absurd w (by decide)⟩
  · exact br_t h1 ⟨fun _ => ⟨fun _ => ⟨fun _ => ⟨fun _ => ⟨fun _ => ⟨fun _ => ⟨fun _ => ⟨fun _ => ⟨_, h 5 (Or.inr (Or.inr (Or.inr (Or.inr ⟨rfl, rfl⟩)))), fun _ _ _ _ _ _ _ _ _ _ _ _ _ _ _ h => h⟩, fun w => absurd w (by decide)⟩, fun w => absurd w (by decide)⟩, fun w => absurd w (by decide)⟩, fun w => absurd w (by decide)⟩, fun w => absurd w (by decide)⟩, fun w => absurd w (by decide)⟩, fun w => absurd w (by decide)⟩, fun w => absurd w (by decide)⟩
theorem m_bodyB {qth qta qli qsi qat qpl qso qva qfa qfp qlf qlp qun qhi qro qar qiS qbl qdr : Int32} {tape b so st co : Nat → Int32} {n T t : Nat} {pos s : Nat → Nat} {isTold number name sortOf first second degree colours signBy own : Nat → Int32} {F f t' : Nat} {S : Nat → Nat → Int32} {o : Int32} {J : (Nat → Int32) → (Nat → Int32) → (Nat → Int32) → (Nat → Int32) → (Nat → Int32) → (Nat → Int32) → (Nat → Int32) → (Nat → Int32) → (Nat → Int32) → (Nat → Int32) → Int32 → Int32 → Int32 → Int32 → Int32 → Int32 → Prop} (hx : cx tape b n T so st co pos s) (hs : qsi = nI n) (hf : qfa = 0) (hc : cur n T so st co pos t qat qpl qso qva) (hmd : mdR F S o number isTold name sortOf first second degree colours signBy own) (hw : stW F S) (hb : bdB (tkS T so) (tkS T co) F S o t f t') (hJ : ∀ a p sr va it nu na sO fi se de cO sb ow, frM nu na sO fi se de cO sb ow number name sortOf first second degree colours signBy own → J cO de fi it na nu ow se sb sO a p sr va (nI f) (tkP T n st t')) : wL1 qth qta qli qsi qat qpl qso qva qfa qfp qlf qlp qun qhi qro qar qiS qbl qdr number tape name sortOf first second degree colours signBy own isTold J := by
  have hmt := hc.2.2
  have hnu := hmd.2.2.2.1.2.2.2
  have hna : ∀ f, f < F → name (12 + f) = S 0 f := fun f hf => (hmd.1 f hf).1
  have hso : ∀ f, f < F → sortOf (12 + f) = S 1 f := fun f hf => (hmd.1 f hf).2.1
  obtain ⟨⟨hF, hF2⟩, hk0, hdg⟩ := hw
  rcases hb with ⟨b1, rfl, rfl⟩ | ⟨j, hj, e, hb⟩ | ⟨e, hb⟩ | ⟨e, hb⟩ | ⟨hg, hb⟩
  · unfold wL1
    refine br_f (mtx hmt b1) ⟨_, m_wrong hf ?_, fun _ _ h => h⟩
    have := hJ qat qpl qso qva isTold _ _ _ _ _ _ _ _ _ (fr_r (nu := number) (na := name) (sO := sortOf) (fi := first) (se := second) (de := degree) (cO := colours) (sb := signBy) (ow := own))
    rw [← hc.2.1] at this
    exact this
  · have hk : (¬ isTold j = 0 ∧ f = 3 ∧ t' = t) ∨ (isTold j = 0 ∧ nuB (tkS T so) (tkS T co) (lo3 j) (hi3 j) (t + 1) f ∧ t' = t + 1) := by
      rcases hb with ⟨y1, y2, y3⟩ | ⟨y1, y2, y3⟩
      · exact Or.inl ⟨fun w => y1 ((hmd.2.2.2.2 j hj).mp w), y2, y3⟩
      · exact Or.inr ⟨(hmd.2.2.2.2 j hj).mpr y1, y2, y3⟩
    have fin : ∀ a p sr va it' nu', (∀ i, i < 4 → nu' i = number i) → J colours degree first it' name nu' own second signBy sortOf a p sr va (nI f) (tkP T n st t') := fun a p sr va it' nu' q => hJ a p sr va _ _ _ _ _ _ _ _ _ _ (fr_nu q)
    have hj3 : j = 0 ∨ j = 1 ∨ j = 2 := by omega
    unfold wL1
    rcases hj3 with rfl | rfl | rfl
    · obtain ⟨m1, m2⟩ := mtw (w := 0) hmt (by omega) e
      rw [m2] at hc ⊢
      exact br_t m1 ⟨fun w => absurd rfl w, fun _ => ⟨_, m_onceB (j := 0) (lo := 1) (hi := 200000) hx hs hf hc (by omega) (by omega) hk fin, fun _ _ _ _ _ _ _ _ h => h⟩⟩
    · obtain ⟨m1, m2⟩ := mtw (w := 1) hmt (by omega) e
      rw [m2] at hc ⊢
      exact br_t m1 ⟨fun _ => ⟨fun w => absurd rfl w, fun _ => ⟨_, m_onceB (j := 1) (lo := 2) (hi := 1000003) hx hs hf hc (by omega) (by omega) hk fin, fun _ _ _ _ _ _ _ _ h => h⟩⟩, fun w => absurd w (by decide)⟩
    · obtain ⟨m1, m2⟩ := mtw (w := 2) hmt (by omega) e
      rw [m2] at hc ⊢
      exact br_t m1 ⟨fun _ => ⟨fun _ => ⟨fun w => absurd rfl w, fun _ => ⟨_, m_onceB (j := 2) (lo := 0) (hi := 99999) hx hs hf hc (by omega) (by omega) hk fin, fun _ _ _ _ _ _ _ _ h => h⟩⟩, fun w => absurd w (by decide)⟩, fun w => absurd w (by decide)⟩
  · obtain ⟨m1, m2⟩ := mtw (w := 4) hmt (by omega) e
    unfold wL1
    rw [m2] at hc ⊢
    exact br_t m1 ⟨fun _ => ⟨fun _ => ⟨fun _ => ⟨fun _ => ⟨fun w => absurd rfl w, fun _ => ⟨_, m_atB (S := S) hx hs hf hc hnu hF hF2 hna hso hb (fun a p sr va => hJ a p sr va _ _ _ _ _ _ _ _ _ _ fr_r), fun _ _ _ _ _ _ _ h => h⟩⟩, fun w => absurd w (by decide)⟩, fun w => absurd w (by decide)⟩, fun w => absurd w (by decide)⟩, fun w => absurd w (by decide)⟩
  · obtain ⟨w, hw9, hww, e'⟩ : ∃ w, w < 9 ∧ (w = 3 ∨ w = 5 ∨ w = 6 ∨ w = 7 ∨ w = 8) ∧ tkS T so t = nI (10 + w) := by
      rcases e with e | e | e | e | e
      · exact ⟨3, by omega, by omega, e⟩
      · exact ⟨5, by omega, by omega, e⟩
      · exact ⟨6, by omega, by omega, e⟩
      · exact ⟨7, by omega, by omega, e⟩
      · exact ⟨8, by omega, by omega, e⟩
    obtain ⟨m1, m2⟩ := mtw hmt hw9 e'
    exact l_fun m1 m2 hww (fun its _ => m_headB hx hs hf hc hnu hF hF2 hna hb (fun a p sr va => hJ a p sr va _ _ _ _ _ _ _ _ _ _ fr_r))
  · have ext : ∀ w, w < 9 → tkS T so t = nI (10 + w) → ∀ v, v < 9 → tkS T so t = nI (10 + v) → w = v := fun w hw e1 v hv e2 => by
      have := (nI_eq (by omega) (by omega)).mp (e1.symm.trans e2)
      omega
    obtain ⟨w, hw9, hww, e'⟩ : ∃ w, w < 9 ∧ (w = 5 ∨ w = 6 ∨ w = 7 ∨ w = 8) ∧ tkS T so t = nI (10 + w) := by
      rcases hb with ⟨e, -, -⟩ | ⟨g, -, ⟨e, -, -⟩ | ⟨e, -⟩ | ⟨e, -⟩ | ⟨e, -⟩⟩
      · rcases e with e | e | e | e
        · exact ⟨5, by omega, by omega, e⟩
        · exact ⟨6, by omega, by omega, e⟩
        · exact ⟨7, by omega, by omega, e⟩
        · exact ⟨8, by omega, by omega, e⟩
      · rcases e with e | e
        · exact ⟨5, by omega, by omega, e⟩
        · exact ⟨7, by omega, by omega, e⟩
      · exact ⟨7, by omega, by omega, e⟩
      · exact ⟨8, by omega, by omega, e⟩
      · exact ⟨8, by omega, by omega, e⟩
    obtain ⟨m1, m2⟩ := mtw hmt hw9 e'
    refine l_fun m1 m2 (by omega) (fun its hits => f_bad hx hs hf hc hmd hF hg ?_ (fun a p sr va nu na sO fi se de cO sb ow y => hJ a p sr va isTold nu na sO fi se de cO sb ow y))
    have w5 : tkS T so t = 15 → w = 5 := fun y => ext w hw9 e' 5 (by omega) y
    have w7 : tkS T so t = 17 → w = 7 := fun y => ext w hw9 e' 7 (by omega) y
    have w8 : tkS T so t = 18 → w = 8 := fun y => ext w hw9 e' 8 (by omega) y
    have iw : (w = 5 → its = 2) ∧ (w = 6 → its = 3) ∧ (w = 7 → its = 4) ∧ (w = 8 → its = 5) := by
      rcases hits with ⟨y, z⟩ | ⟨y, z⟩ | ⟨y, z⟩ | ⟨y, z⟩ | ⟨y, z⟩
      · omega
      · exact ⟨fun _ => z, fun _ => by omega, fun _ => by omega, fun _ => by omega⟩
      · exact ⟨fun _ => by omega, fun _ => z, fun _ => by omega, fun _ => by omega⟩
      · exact ⟨fun _ => by omega, fun _ => by omega, fun _ => z, fun _ => by omega⟩
      · exact ⟨fun _ => by omega, fun _ => by omega, fun _ => by omega, fun _ => z⟩
    rcases hb with ⟨-, y1, y2⟩ | ⟨g, hg1, ⟨e, y1, y2⟩ | ⟨e, y1, y2, y3⟩ | ⟨e, y1, y2, y3⟩ | ⟨e, y1, y2, y3⟩⟩
    · refine Or.inl ⟨?_, y1, y2⟩
      rcases hww with z | z | z | z
      · exact Or.inl (iw.1 z)
      · exact Or.inr (Or.inl (iw.2.1 z))
      · exact Or.inr (Or.inr (Or.inl (iw.2.2.1 z)))
      · exact Or.inr (Or.inr (Or.inr (iw.2.2.2 z)))
    · exact Or.inr ⟨g, hg1, Or.inl ⟨e.imp (fun z => iw.1 (w5 z)) (fun z => iw.2.2.1 (w7 z)), y1, y2⟩⟩
    · exact Or.inr ⟨g, hg1, Or.inr (Or.inl ⟨iw.2.2.1 (w7 e), y1, y2, y3⟩)⟩
    · exact Or.inr ⟨g, hg1, Or.inr (Or.inr (Or.inl ⟨iw.2.2.2 (w8 e), y1, y2, y3⟩))⟩
    · exact Or.inr ⟨g, hg1, Or.inr (Or.inr (Or.inr ⟨iw.2.2.2 (w8 e), y1, y2, y3⟩))⟩
