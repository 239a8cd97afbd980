/-! PURE: first -/
theorem dep {σ : Type} (P : Nat → σ → Prop) (R : Nat → σ → σ → Prop) (h : ∀ j s, P j s → ∃ s', P (j + 1) s' ∧ R j s s') (s0 : σ) (h0 : P 0 s0) : ∃ st : Nat → σ, st 0 = s0 ∧ (∀ j, P j (st j)) ∧ ∀ j, R j (st j) (st (j + 1)) := by
  have : ∃ G : (j : Nat) → {s : σ // P j s} → {s : σ // P (j + 1) s}, ∀ j s, R j s.1 (G j s).1 :=
    ⟨fun j s => ⟨Classical.choose (h j s.1 s.2), (Classical.choose_spec (h j s.1 s.2)).1⟩, fun j s => (Classical.choose_spec (h j s.1 s.2)).2⟩
  obtain ⟨G, hG⟩ := this
  let st : (j : Nat) → {s : σ // P j s} := fun j => Nat.rec (motive := fun j => {s : σ // P j s}) ⟨s0, h0⟩ (fun j s => G j s) j
  exact ⟨fun j => (st j).1, rfl, fun j => (st j).2, fun j => hG j (st j)⟩
/-- the end of the piece j of first -/
def toF (Bd j : Nat) : Nat := if j = 0 then 0 else if 512 * 2 ^ j < Bd then 512 * 2 ^ j else Bd
theorem toF_b (Bd j : Nat) : toF Bd j ≤ Bd := by
  unfold toF
  split
  · omega
  · split <;> omega
theorem toF_s (Bd j : Nat) : toF Bd j ≤ toF Bd (j + 1) := by
  unfold toF
  rw [if_neg (show ¬ j + 1 = 0 by omega), Nat.pow_succ]
  split
  · omega
  · split <;> split <;> omega
theorem toF_9 {Bd : Nat} (h : Bd ≤ 200000) : toF Bd 9 = Bd := by
  unfold toF
  rw [if_neg (by omega), if_neg (by omega)]
def ansOK (v : Nat → Nat) (Bd r : Nat) (ans : Int32) : Prop := (ans = -2 ∧ ∀ n, 1 ≤ n → n ≤ Bd → v n ≠ r) ∨ ∃ n, 1 ≤ n ∧ n ≤ Bd ∧ v n = r ∧ (∀ m, 1 ≤ m → m < n → v m ≠ r) ∧ ans = nI n
theorem ans_one {v : Nat → Nat} {Bd r : Nat} {a b : Int32} (h1 : ansOK v Bd r a) (h2 : ansOK v Bd r b) : a = b := by
  rcases h1 with ⟨rfl, h1⟩ | ⟨n, a1, a2, a3, a4, rfl⟩
  · rcases h2 with ⟨rfl, _⟩ | ⟨m, b1, b2, b3, -, -⟩
    · rfl
    · exact absurd b3 (h1 m b1 b2)
  · rcases h2 with ⟨rfl, h2⟩ | ⟨m, b1, b2, b3, b4, rfl⟩
    · exact absurd a3 (h2 n a1 a2)
    · have : n = m := by
        rcases Nat.lt_or_ge n m with q | q
        · exact absurd a3 (b4 n a1 q)
        · rcases Nat.lt_or_ge m n with q2 | q2
          · exact absurd b3 (a4 m b1 q2)
          · omega
      rw [this]
set_option maxHeartbeats 1000000 in
theorem s_first {se : Int32} {needs K A B C N rf rm rl ru least cells P : Nat → Int32} {rn : Nat → Nat} {rv : Nat → Nat → Int32} {Bd M f F r T L : Nat} (hw : wfp F K A B) (hn : ndp F K A B needs) (hF1 : 6 ≤ F) (hF : F ≤ 12) (hB2 : Bd ≤ 200000) (hM : 2 ≤ M) (hM2 : M ≤ 1000003) (hf : f < F) (hr : r < M) (hT : T + 10 < 2 ^ 30) (hp : poolE T ru rn) (hL : 2 ≤ L) (hL2 : L ≤ 200001) (hpV : poolV F K A B C N rf rm rl rn rv) (hsv : svOK L least) (hpw : pw cells P) : ∃ (J : Nat) (rf' rm' rl' ru' : Nat → Int32) (rn' : Nat → Nat) (L' ms : Nat), J ≤ 9 ∧ poolE (T + J) ru' rn' ∧ 2 ≤ L' ∧ L' ≤ 200001 ∧ ms + (sS L + s4 rn) ≤ sS L' + s4 rn' ∧ ∀ Q, (∀ (ans : Int32) (rv' : Nat → Nat → Int32) (least' cells' P' : Nat → Int32), poolV F K A B C N rf' rm' rl' rn' rv' → svOK L' least' → pw cells' P' → ansOK (sV (tv K A B C N M f) M) Bd r ans → Q ans rf' rm' rl' ru' rn' rv' (nI (T + J)) L' least' cells' P') → wX10_first (2 * J) ms (nI Bd) (nI M) se (nI F) rf rm rl ru rn rv (nI T) L least needs cells P A B K N C (nI f) (nI r) Q := by
  obtain ⟨J, hJ, hJ2⟩ := pk_least (fun j => Bd ≤ toF Bd j ∨ ∃ n, 1 ≤ n ∧ n ≤ toF Bd j ∧ sV (tv K A B C N M f) M n = r) ⟨9, Or.inl (by rw [toF_9 hB2]; exact Nat.le_refl _)⟩
  have hJ9 : J ≤ 9 := by
    rcases Nat.lt_or_ge 9 J with w | w
    · exact absurd (Or.inl (by rw [toF_9 hB2]; exact Nat.le_refl _)) (hJ2 9 w)
    · exact w
  obtain ⟨st, e0, hP, hRs⟩ := dep (σ := (Nat → Int32) × (Nat → Int32) × (Nat → Int32) × (Nat → Int32) × (Nat → Nat) × Nat × Nat)
    (fun j s => j ≤ 10 → poolE (T + j) s.2.2.2.1 s.2.2.2.2.1 ∧ 2 ≤ s.2.2.2.2.2.1 ∧ s.2.2.2.2.2.1 ≤ 200001 ∧ (∀ k, k < 4 → s.1 k = -1 ∨ ∃ l, s.2.2.1 k = nI l ∧ l < 2 ^ 31) ∧ s.2.2.2.2.2.2 + (sS L + s4 rn) ≤ sS s.2.2.2.2.2.1 + s4 s.2.2.2.2.1)
    (fun j s s' => j < 10 → ∃ k ms : Nat, s'.2.2.2.2.2.2 = s.2.2.2.2.2.2 + ms ∧ ∀ (rv : Nat → Nat → Int32) (least cells P : Nat → Int32), poolV F K A B C N s.1 s.2.1 s.2.2.1 s.2.2.2.2.1 rv → svOK s.2.2.2.2.2.1 least → pw cells P → ∀ Q, (∀ (rv' : Nat → Nat → Int32) (least' cells' P' : Nat → Int32), poolV F K A B C N s'.1 s'.2.1 s'.2.2.1 s'.2.2.2.2.1 rv' → svOK s'.2.2.2.2.2.1 least' → pw cells' P' → rowAt K A B C N M f (toF Bd (j + 1)) s'.1 s'.2.1 s'.2.2.1 s'.2.2.2.2.1 rv' k → Q k s'.1 s'.2.1 s'.2.2.1 s'.2.2.2.1 s'.2.2.2.2.1 rv' (nI (T + (j + 1))) s'.2.2.2.2.2.1 least' cells' P') → wX7_upTo 2 ms (nI Bd) (nI M) se (nI F) s.1 s.2.1 s.2.2.1 s.2.2.2.1 s.2.2.2.2.1 rv (nI (T + j)) s.2.2.2.2.2.1 least needs cells P A B K N C (nI f) (nI (toF Bd (j + 1))) Q)
    (fun j s hs => by
      by_cases hj : j < 10
      case neg => exact ⟨s, fun w => by omega, fun w => by omega⟩
      obtain ⟨q1, q2, q3, q4, q5⟩ := hs (by omega)
      have hto := toF_b Bd (j + 1)
      obtain ⟨k, rf', rm', rl', ru', rn', L', ms, hk, hpE', hL1', hL2', hLL, hms, hrl', hrfk, hrmk, hruk, hoth, hpick, hup⟩ := s_upTo (bo := nI Bd) (se := se) (f := f) (x := toF Bd (j + 1)) (C := C) (N := N) (rm := s.2.1) (L := s.2.2.2.2.2.1) hw hn hF hM hM2 hf (by omega) (show T + j < 2 ^ 30 by omega) q1 q2 q3 q4
      refine ⟨(rf', rm', rl', ru', rn', L', s.2.2.2.2.2.2 + ms), fun _ => ⟨hpE', hL1', hL2', hrl', ?_⟩, fun _ => ⟨k, ms, rfl, fun rv least cells P w1 w2 w3 Q hQ => hup rv least cells P w1 w2 w3 Q (fun rv' least' cells' P' y1 y2 y3 y4 _ => hQ rv' least' cells' P' y1 y2 y3 y4)⟩⟩
      show s.2.2.2.2.2.2 + ms + (sS L + s4 rn) ≤ sS L' + s4 rn'
      omega)
    (rf, rm, rl, ru, rn, L, 0) (fun _ => ⟨hp, hL, hL2, pool_l hpV, by show 0 + (sS L + s4 rn) ≤ sS L + s4 rn; omega⟩)
  have mono : ∀ d j, j + d ≤ 10 → (st j).2.2.2.2.2.2 ≤ (st (j + d)).2.2.2.2.2.2 := by
    intro d
    induction d with
    | zero => intro j _; exact Nat.le_refl _
    | succ d ih =>
      intro j hj
      obtain ⟨k, ms, e, -⟩ := hRs (j + d) (by omega)
      have := ih j (by omega)
      rw [show j + (d + 1) = j + d + 1 by omega, e]; omega
  obtain ⟨g1, g2, g3, -, g5⟩ := hP J (by omega)
  refine ⟨J, (st J).1, (st J).2.1, (st J).2.2.1, (st J).2.2.2.1, (st J).2.2.2.2.1, (st J).2.2.2.2.2.1, (st J).2.2.2.2.2.2, hJ9, g1, g2, g3, g5, fun Q hQ => ?_⟩
  refine y_X10_first hB2 hM2 hF1 hF hf hr ?_
  refine ⟨fun ce p le kc tu x3 x4 nF rf1 rl1 rm1 rn1 ru1 rv1 ks => ∃ j : Nat, j ≤ J ∧ (pw ce p ∧ svOK nF le ∧ poolV F K A B C N rf1 rm1 rl1 rn1 rv1) ∧ (kc = 2 * j ∧ tu = nI (T + j) ∧ x3 = nI (toF Bd j) ∧ x4 = nI (1024 * 2 ^ j) ∧ ks = (st j).2.2.2.2.2.2) ∧ (nF = (st j).2.2.2.2.2.1 ∧ rf1 = (st j).1 ∧ rl1 = (st j).2.2.1 ∧ rm1 = (st j).2.1 ∧ rn1 = (st j).2.2.2.2.1 ∧ ru1 = (st j).2.2.2.1) ∧ ∀ n, 1 ≤ n → n ≤ toF Bd j → sV (tv K A B C N M f) M n ≠ r, fun _ _ _ kc _ _ _ _ _ _ _ _ _ _ _ => 20 - kc, ⟨0, by omega, ⟨hpw, hsv, hpV⟩, ⟨rfl, rfl, rfl, rfl, by rw [e0]⟩, ⟨by rw [e0], by rw [e0], by rw [e0], by rw [e0], by rw [e0], by rw [e0]⟩, fun n a b => by rw [show toF Bd 0 = 0 from rfl] at b; omega⟩, ?_⟩
  rintro ce p le kc tu x3 x4 nF rf1 rl1 rm1 rn1 ru1 rv1 ks ⟨j, hj, ⟨p1, p2, p3⟩, ⟨rfl, rfl, rfl, rfl, rfl⟩, ⟨rfl, rfl, rfl, rfl, rfl, rfl⟩, hno⟩
  have htb := toF_b Bd j
  refine pk_le Bd (toF Bd j) (fun z => ?_) (fun z => ?_)
  · have ej : j = J := by
      rcases Nat.lt_or_ge j J with w | w
      · exact absurd (Or.inl z) (hJ2 j w)
      · omega
    subst ej
    exact hQ (-2) rv1 le ce p p3 p2 p1 (Or.inl ⟨rfl, fun n a b => hno n a (by omega)⟩)
  · have hjJ : j < J := by
      rcases Nat.lt_or_ge j J with w | w
      · exact w
      · have ej : j = J := by omega
        subst ej
        rcases hJ with q | ⟨n, q1, q2, q3⟩
        · omega
        · exact absurd q3 (hno n q1 q2)
    have h2j : 2 ^ j ≤ 2 ^ 8 := Nat.pow_le_pow_right (by omega) (by omega)
    have h28 : (2 : Nat) ^ 8 = 256 := by decide
    refine pk_lt 400000 (1024 * 2 ^ j) (fun w => by omega) (fun _ => ?_)
    have hts := toF_s Bd j
    have htb2 := toF_b Bd (j + 1)
    have em : (if nI (1024 * 2 ^ j) < nI Bd then nI (1024 * 2 ^ j) else nI Bd) = nI (toF Bd (j + 1)) := by
      unfold toF
      rw [if_neg (show ¬ j + 1 = 0 by omega), show 512 * 2 ^ (j + 1) = 1024 * 2 ^ j by rw [Nat.pow_succ]; omega]
      by_cases c : 1024 * 2 ^ j < Bd
      · rw [if_pos c, if_pos (nI_lt c (by omega))]
      · rw [if_neg c, if_neg (nI_nlt (by omega) (by omega))]
    rw [em, nI_1]
    rintro x5 rfl m rfl
    obtain ⟨k, ms1, hmm, hst⟩ := hRs j (by omega)
    have hmo := mono (J - (j + 1)) (j + 1) (by omega)
    rw [show j + 1 + (J - (j + 1)) = J by omega] at hmo
    refine ⟨2, ms1, _, ⟨by omega, by omega⟩, hst _ _ _ _ p3 p2 p1 _ (fun rv' le' ce' p' q1 q2 q3 q4 => ?_), fun _ _ _ _ _ _ _ _ _ _ _ _ h => h⟩
    obtain ⟨hk, hrf, hrm, l, hxl, hrl, hrow⟩ := q4
    rw [hrl]
    refine ⟨_, s_placeOf hM hM2 hrow hxl hr (fun i a1 a2 a3 a4 => ?_) (fun hn0 => ?_) (by omega), fun _ h => h⟩
    · refine br_f (nI_m1 (by omega)) ?_
      have ej : J = j + 1 := by
        rcases Nat.lt_or_ge (j + 1) J with w | w
        · exact absurd (Or.inr ⟨i, by omega, a2, a3⟩) (hJ2 (j + 1) w)
        · omega
      subst ej
      refine hQ (nI i) rv' le' ce' p' q1 q2 q3 (Or.inr ⟨i, by omega, by omega, a3, fun m b1 b2 => ?_, rfl⟩)
      rcases Nat.lt_or_ge (toF Bd j) m with w | w
      · exact a4 m w b2
      · exact hno m b1 w
    · refine br_t rfl ?_
      rw [show nI (1024 * 2 ^ j) * 2 = nI (1024 * 2 ^ (j + 1)) from by rw [show (2 : Int32) = nI 2 from rfl, pk_mul, Nat.pow_succ]; congr 1; omega]
      rintro x42 rfl
      refine ⟨⟨j + 1, by omega, ⟨q3, q2, q1⟩, ⟨by omega, rfl, rfl, rfl, hmm.symm⟩, ⟨rfl, rfl, rfl, rfl, rfl, rfl⟩, fun n a b => ?_⟩, show 20 - (2 * j + 2) < 20 - 2 * j by omega⟩
      rcases Nat.lt_or_ge (toF Bd j) n with w | w
      · exact hn0 n w b
      · exact hno n a w
theorem m_first {qth qta qli qsi qat qpl qso qva qfa qfp qlf qlp qun qhi qro qar qiS qbl qdr : Int32} {number row marks so fi se sb sF K A B C N : Nat → Int32} {P table : Nat → Int64} {Bd M F f r : Nat} {Q : Int32 → Int32 → Int32 → Int32 → (Nat → Int32) → (Nat → Int64) → (Nat → Int64) → Prop} (hw : wfp F K A B) (hR : pmR F K A B C N so fi se sb sF) (hs0 : sF 0 = nI Bd) (hs1 : sF 1 = nI M) (hnu3 : number 3 = nI (F - 6)) (hF1 : 6 ≤ F) (hF : F ≤ 12) (hB1 : 1 ≤ Bd) (hB2 : Bd ≤ 200000) (hM : 2 ≤ M) (hM2 : M ≤ 1000003) (hf : f < F) (hr : r < M) (hmk : mkOK marks) (hrc : rcOK F K A B C N M Bd qro qar row) (h : ∀ ans row' P' t', ansOK (sV (tv K A B C N M f) M) Bd r ans → (∀ n, n ≤ Bd → row' n = nI (sV (tv K A B C N M f) M n)) → Q ans 0 (nI f) 1 row' P' t') : wX11_first qth qta qli qsi qat qpl qso qva qfa qfp qlf qlp qun qhi qro qar qiS qbl qdr number sF row marks P table so fi se sb (nI f) (nI r) Q := by
  refine y_X11_first hB2 hM2 hF1 hF hs0 hs1 hnu3 hf hr ⟨_, s_laysSums hw hR hs0 hs1 hB1 hB2 hF hM hM2 hf hmk hrc (fun row' P2 t2 hrow => ?_), fun _ _ _ _ _ h => h⟩
  rw [hs0]
  refine ⟨fun y => ∃ n : Nat, y = nI n ∧ 1 ≤ n ∧ n ≤ Bd + 1 ∧ ∀ m, 1 ≤ m → m < n → sV (tv K A B C N M f) M m ≠ r, fun y => 200003 - y.toNatClampNeg, ⟨1, rfl, by omega, by omega, fun m a b => by omega⟩, ?_⟩
  rintro y ⟨n, rfl, hn1, hn2, hno⟩
  refine pk_lt Bd n (fun z => h (-2) row' P2 t2 (Or.inl ⟨rfl, fun m a b => hno m a (by omega)⟩) hrow) (fun z => ⟨pk_in n 200001 (by omega), ?_⟩)
  have hv := sV_lt (g := tv K A B C N M f) hM n
  rw [nI_clamp (by omega), hrow n z, nI_1]
  refine pn_eq (sV (tv K A B C N M f) M n) r (fun e => ⟨⟨n + 1, rfl, by omega, by omega, fun m a b => ?_⟩, ms_up (by omega) (by omega)⟩) (fun e => h (nI n) row' P2 t2 (Or.inr ⟨n, hn1, z, e, hno, rfl⟩) hrow)
  by_cases q : m = n
  · rw [q]; exact e
  · exact hno m a (by omega)
set_option maxHeartbeats 2000000 in
theorem cs_1237 {L : Nat} {xs : Nat → Int32} {rf : Nat → Int32} {rm : Nat → Int32} {rl : Nat → Int32} {ru : Nat → Int32} {rn : Nat → Nat} {rv : Nat → Nat → Int32} {now_bound : Int32} {now_modulus : Int32} {now_seed : Int32} {now_functions : Int32} {now_names : Nat → Int32} {now_kinds : Nat → Int32} {now_firsts : Nat → Int32} {now_seconds : Nat → Int32} {now_degrees : Nat → Int32} {now_colours : Nat → Int32} {now_needs : Nat → Int32} {now_numbers : Nat → Int32} {reader_lines : Int32} {reader_faulty : Int32} {reader_place : Int32} {reader_token : Int32} {reader_toldOnce : Int32} {reader_tape_fed : Int32} {reader_tape_length : Int32} {reader_tape_tokens : Int32} {reader_tape_at : Int32} {reader_tape_bytes : Nat → Int32} {reader_tape_sorts : Nat → Int32} {reader_tape_starts : Nat → Int32} {reader_tape_contents : Nat → Int32} {reader_plan_bound : Int32} {reader_plan_modulus : Int32} {reader_plan_seed : Int32} {reader_plan_functions : Int32} {reader_plan_names : Nat → Int32} {reader_plan_kinds : Nat → Int32} {reader_plan_firsts : Nat → Int32} {reader_plan_seconds : Nat → Int32} {reader_plan_degrees : Nat → Int32} {reader_plan_colours : Nat → Int32} {reader_plan_needs : Nat → Int32} {reader_plan_numbers : Nat → Int32} {changes_size : Int32} {changes_top : Int32} {changes_kinds : Nat → Int32} {changes_cells : Nat → Int32} {changes_ones : Nat → Int32} {changes_others : Nat → Int32} {image_kept : Int32} {image_bound : Int32} {image_modulus : Int32} {image_numbers : Nat → Int32} {rows_turn : Int32} {rows_sieve_least : Nat → Int32} {rows_powers_ofPrime : Nat → Int32} {rows_powers_cells : Nat → Int32} {couples_x : Int32} {couples_root : Int32} {couples_small : Nat → Int64} {couples_great : Nat → Int64} {n_rows_sieve_least : Nat} {M_thrown : Int32} {M_taped : Int32} {M_lines : Int32} {M_size : Int32} {M_atF : Int32} {M_place : Int32} {M_sort : Int32} {M_value : Int32} {M_fault : Int32} {M_faultPlace : Int32} {M_lastFault : Int32} {M_lastPlace : Int32} {M_undoable : Int32} {M_hasImage : Int32} {M_rowOf : Int32} {M_areSums : Int32} {M_isSieved : Int32} {M_blocks : Int32} {M_drawn : Int32} {M_tape : Nat → Int32} {M_number : Nat → Int32} {M_isTold : Nat → Int32} {M_name : Nat → Int32} {M_sortOf : Nat → Int32} {M_first : Nat → Int32} {M_second : Nat → Int32} {M_degree : Nat → Int32} {M_colours : Nat → Int32} {M_signBy : Nat → Int32} {M_own : Nat → Int32} {M_sF : Nat → Int32} {M_kept : Nat → Int32} {M_power : Nat → Int64} {M_table : Nat → Int64} {M_marks : Nat → Int32} {M_row : Nat → Int32} {M_lastOf : Nat → Int32} {M_inBlock : Nat → Int64} {M_atQuotient : Nat → Int64} {M_small : Nat → Int64} {out : Nat → Int64} {x4 : Int32} {kc : Nat} {ks : Nat} {Nx : (Nat → Int32) → (Nat → Int32) → (Nat → Int32) → (Nat → Int32) → (Nat → Nat) → (Nat → Nat → Int32) → (Int32) → (Int32) → (Int32) → (Int32) → (Nat → Int32) → (Nat → Int32) → (Nat → Int32) → (Nat → Int32) → (Nat → Int32) → (Nat → Int32) → (Nat → Int32) → (Nat → Int32) → (Int32) → (Int32) → (Int32) → (Int32) → (Int32) → (Int32) → (Int32) → (Int32) → (Int32) → (Nat → Int32) → (Nat → Int32) → (Nat → Int32) → (Nat → Int32) → (Int32) → (Int32) → (Int32) → (Int32) → (Nat → Int32) → (Nat → Int32) → (Nat → Int32) → (Nat → Int32) → (Nat → Int32) → (Nat → Int32) → (Nat → Int32) → (Nat → Int32) → (Int32) → (Int32) → (Nat → Int32) → (Nat → Int32) → (Nat → Int32) → (Nat → Int32) → (Int32) → (Int32) → (Int32) → (Nat → Int32) → (Int32) → (Nat → Int32) → (Nat → Int32) → (Nat → Int32) → (Int32) → (Int32) → (Nat → Int64) → (Nat → Int64) → (Nat) → (Int32) → (Int32) → (Int32) → (Int32) → (Int32) → (Int32) → (Int32) → (Int32) → (Int32) → (Int32) → (Int32) → (Int32) → (Int32) → (Int32) → (Int32) → (Int32) → (Int32) → (Int32) → (Int32) → (Nat → Int32) → (Nat → Int32) → (Nat → Int32) → (Nat → Int32) → (Nat → Int32) → (Nat → Int32) → (Nat → Int32) → (Nat → Int32) → (Nat → Int32) → (Nat → Int32) → (Nat → Int32) → (Nat → Int32) → (Nat → Int32) → (Nat → Int64) → (Nat → Int64) → (Nat → Int32) → (Nat → Int32) → (Nat → Int32) → (Nat → Int64) → (Nat → Int64) → (Nat → Int64) → (Nat → Int64) → (Int32) → (Nat) → (Nat) → Prop} {i Bd M Sd F fd T cx cr sz tp : Nat} (hpos : posR L i T x4 kc ks n_rows_sieve_least rn) (h6 : 6 * i + 6 ≤ L) (hpl : plR Bd M Sd F now_bound now_modulus now_seed now_functions now_names now_kinds now_firsts now_seconds now_degrees now_colours now_needs now_numbers M_number M_name M_sortOf M_first M_second M_degree M_colours M_signBy M_sF) (htp : tpR fd reader_tape_fed reader_tape_bytes M_taped M_tape) (hfl : (reader_faulty = M_lastFault ∧ reader_place = M_lastPlace)) (hch : chR sz tp changes_size changes_top changes_kinds changes_cells changes_ones changes_others M_undoable M_kept M_sF) (him : imR F image_kept image_bound image_modulus image_numbers M_hasImage M_kept) (hro : roR T F n_rows_sieve_least now_kinds now_firsts now_seconds now_colours now_numbers rows_turn rf rm rl ru rn rv rows_sieve_least rows_powers_cells rows_powers_ofPrime) (hcp : (couples_x = nI cx ∧ couples_root = nI cr ∧ cpOK cx cr couples_great couples_small)) (hmo : moR F now_kinds now_firsts now_seconds now_colours now_numbers M Bd M_isSieved M_rowOf M_areSums M_marks M_row) (hN : ∀ (rf2 : Nat → Int32) (rm2 : Nat → Int32) (rl2 : Nat → Int32) (ru2 : Nat → Int32) (rn2 : Nat → Nat) (rv2 : Nat → Nat → Int32) (now_bound2 : Int32) (now_modulus2 : Int32) (now_seed2 : Int32) (now_functions2 : Int32) (now_names2 : Nat → Int32) (now_kinds2 : Nat → Int32) (now_firsts2 : Nat → Int32) (now_seconds2 : Nat → Int32) (now_degrees2 : Nat → Int32) (now_colours2 : Nat → Int32) (now_needs2 : Nat → Int32) (now_numbers2 : Nat → Int32) (reader_lines2 : Int32) (reader_faulty2 : Int32) (reader_place2 : Int32) (reader_token2 : Int32) (reader_toldOnce2 : Int32) (reader_tape_fed2 : Int32) (reader_tape_length2 : Int32) (reader_tape_tokens2 : Int32) (reader_tape_at2 : Int32) (reader_tape_bytes2 : Nat → Int32) (reader_tape_sorts2 : Nat → Int32) (reader_tape_starts2 : Nat → Int32) (reader_tape_contents2 : Nat → Int32) (reader_plan_bound2 : Int32) (reader_plan_modulus2 : Int32) (reader_plan_seed2 : Int32) (reader_plan_functions2 : Int32) (reader_plan_names2 : Nat → Int32) (reader_plan_kinds2 : Nat → Int32) (reader_plan_firsts2 : Nat → Int32) (reader_plan_seconds2 : Nat → Int32) (reader_plan_degrees2 : Nat → Int32) (reader_plan_colours2 : Nat → Int32) (reader_plan_needs2 : Nat → Int32) (reader_plan_numbers2 : Nat → Int32) (changes_size2 : Int32) (changes_top2 : Int32) (changes_kinds2 : Nat → Int32) (changes_cells2 : Nat → Int32) (changes_ones2 : Nat → Int32) (changes_others2 : Nat → Int32) (image_kept2 : Int32) (image_bound2 : Int32) (image_modulus2 : Int32) (image_numbers2 : Nat → Int32) (rows_turn2 : Int32) (rows_sieve_least2 : Nat → Int32) (rows_powers_ofPrime2 : Nat → Int32) (rows_powers_cells2 : Nat → Int32) (couples_x2 : Int32) (couples_root2 : Int32) (couples_small2 : Nat → Int64) (couples_great2 : Nat → Int64) (n_rows_sieve_least2 : Nat) (M_thrown2 : Int32) (M_taped2 : Int32) (M_lines2 : Int32) (M_size2 : Int32) (M_atF2 : Int32) (M_place2 : Int32) (M_sort2 : Int32) (M_value2 : Int32) (M_fault2 : Int32) (M_faultPlace2 : Int32) (M_lastFault2 : Int32) (M_lastPlace2 : Int32) (M_undoable2 : Int32) (M_hasImage2 : Int32) (M_rowOf2 : Int32) (M_areSums2 : Int32) (M_isSieved2 : Int32) (M_blocks2 : Int32) (M_drawn2 : Int32) (M_tape2 : Nat → Int32) (M_number2 : Nat → Int32) (M_isTold2 : Nat → Int32) (M_name2 : Nat → Int32) (M_sortOf2 : Nat → Int32) (M_first2 : Nat → Int32) (M_second2 : Nat → Int32) (M_degree2 : Nat → Int32) (M_colours2 : Nat → Int32) (M_signBy2 : Nat → Int32) (M_own2 : Nat → Int32) (M_sF2 : Nat → Int32) (M_kept2 : Nat → Int32) (M_power2 : Nat → Int64) (M_table2 : Nat → Int64) (M_marks2 : Nat → Int32) (M_row2 : Nat → Int32) (M_lastOf2 : Nat → Int32) (M_inBlock2 : Nat → Int64) (M_atQuotient2 : Nat → Int64) (M_small2 : Nat → Int64) (out2 : Nat → Int64) (x42 : Int32) (kc2 : Nat) (ks2 : Nat), invL L rf2 rm2 rl2 ru2 rn2 rv2 now_bound2 now_modulus2 now_seed2 now_functions2 now_names2 now_kinds2 now_firsts2 now_seconds2 now_degrees2 now_colours2 now_needs2 now_numbers2 reader_lines2 reader_faulty2 reader_place2 reader_token2 reader_toldOnce2 reader_tape_fed2 reader_tape_length2 reader_tape_tokens2 reader_tape_at2 reader_tape_bytes2 reader_tape_sorts2 reader_tape_starts2 reader_tape_contents2 reader_plan_bound2 reader_plan_modulus2 reader_plan_seed2 reader_plan_functions2 reader_plan_names2 reader_plan_kinds2 reader_plan_firsts2 reader_plan_seconds2 reader_plan_degrees2 reader_plan_colours2 reader_plan_needs2 reader_plan_numbers2 changes_size2 changes_top2 changes_kinds2 changes_cells2 changes_ones2 changes_others2 image_kept2 image_bound2 image_modulus2 image_numbers2 rows_turn2 rows_sieve_least2 rows_powers_ofPrime2 rows_powers_cells2 couples_x2 couples_root2 couples_small2 couples_great2 n_rows_sieve_least2 M_thrown2 M_taped2 M_lines2 M_size2 M_atF2 M_place2 M_sort2 M_value2 M_fault2 M_faultPlace2 M_lastFault2 M_lastPlace2 M_undoable2 M_hasImage2 M_rowOf2 M_areSums2 M_isSieved2 M_blocks2 M_drawn2 M_tape2 M_number2 M_isTold2 M_name2 M_sortOf2 M_first2 M_second2 M_degree2 M_colours2 M_signBy2 M_own2 M_sF2 M_kept2 M_power2 M_table2 M_marks2 M_row2 M_lastOf2 M_inBlock2 M_atQuotient2 M_small2 out2 x42 kc2 ks2 → meaL L rf2 rm2 rl2 ru2 rn2 rv2 now_bound2 now_modulus2 now_seed2 now_functions2 now_names2 now_kinds2 now_firsts2 now_seconds2 now_degrees2 now_colours2 now_needs2 now_numbers2 reader_lines2 reader_faulty2 reader_place2 reader_token2 reader_toldOnce2 reader_tape_fed2 reader_tape_length2 reader_tape_tokens2 reader_tape_at2 reader_tape_bytes2 reader_tape_sorts2 reader_tape_starts2 reader_tape_contents2 reader_plan_bound2 reader_plan_modulus2 reader_plan_seed2 reader_plan_functions2 reader_plan_names2 reader_plan_kinds2 reader_plan_firsts2 reader_plan_seconds2 reader_plan_degrees2 reader_plan_colours2 reader_plan_needs2 reader_plan_numbers2 changes_size2 changes_top2 changes_kinds2 changes_cells2 changes_ones2 changes_others2 image_kept2 image_bound2 image_modulus2 image_numbers2 rows_turn2 rows_sieve_least2 rows_powers_ofPrime2 rows_powers_cells2 couples_x2 couples_root2 couples_small2 couples_great2 n_rows_sieve_least2 M_thrown2 M_taped2 M_lines2 M_size2 M_atF2 M_place2 M_sort2 M_value2 M_fault2 M_faultPlace2 M_lastFault2 M_lastPlace2 M_undoable2 M_hasImage2 M_rowOf2 M_areSums2 M_isSieved2 M_blocks2 M_drawn2 M_tape2 M_number2 M_isTold2 M_name2 M_sortOf2 M_first2 M_second2 M_degree2 M_colours2 M_signBy2 M_own2 M_sF2 M_kept2 M_power2 M_table2 M_marks2 M_row2 M_lastOf2 M_inBlock2 M_atQuotient2 M_small2 out2 x42 kc2 ks2 < meaL L rf rm rl ru rn rv now_bound now_modulus now_seed now_functions now_names now_kinds now_firsts now_seconds now_degrees now_colours now_needs now_numbers reader_lines reader_faulty reader_place reader_token reader_toldOnce reader_tape_fed reader_tape_length reader_tape_tokens reader_tape_at reader_tape_bytes reader_tape_sorts reader_tape_starts reader_tape_contents reader_plan_bound reader_plan_modulus reader_plan_seed reader_plan_functions reader_plan_names reader_plan_kinds reader_plan_firsts reader_plan_seconds reader_plan_degrees reader_plan_colours reader_plan_needs reader_plan_numbers changes_size changes_top changes_kinds changes_cells changes_ones changes_others image_kept image_bound image_modulus image_numbers rows_turn rows_sieve_least rows_powers_ofPrime rows_powers_cells couples_x couples_root couples_small couples_great n_rows_sieve_least M_thrown M_taped M_lines M_size M_atF M_place M_sort M_value M_fault M_faultPlace M_lastFault M_lastPlace M_undoable M_hasImage M_rowOf M_areSums M_isSieved M_blocks M_drawn M_tape M_number M_isTold M_name M_sortOf M_first M_second M_degree M_colours M_signBy M_own M_sF M_kept M_power M_table M_marks M_row M_lastOf M_inBlock M_atQuotient M_small out x4 kc ks → Nx rf2 rm2 rl2 ru2 rn2 rv2 now_bound2 now_modulus2 now_seed2 now_functions2 now_names2 now_kinds2 now_firsts2 now_seconds2 now_degrees2 now_colours2 now_needs2 now_numbers2 reader_lines2 reader_faulty2 reader_place2 reader_token2 reader_toldOnce2 reader_tape_fed2 reader_tape_length2 reader_tape_tokens2 reader_tape_at2 reader_tape_bytes2 reader_tape_sorts2 reader_tape_starts2 reader_tape_contents2 reader_plan_bound2 reader_plan_modulus2 reader_plan_seed2 reader_plan_functions2 reader_plan_names2 reader_plan_kinds2 reader_plan_firsts2 reader_plan_seconds2 reader_plan_degrees2 reader_plan_colours2 reader_plan_needs2 reader_plan_numbers2 changes_size2 changes_top2 changes_kinds2 changes_cells2 changes_ones2 changes_others2 image_kept2 image_bound2 image_modulus2 image_numbers2 rows_turn2 rows_sieve_least2 rows_powers_ofPrime2 rows_powers_cells2 couples_x2 couples_root2 couples_small2 couples_great2 n_rows_sieve_least2 M_thrown2 M_taped2 M_lines2 M_size2 M_atF2 M_place2 M_sort2 M_value2 M_fault2 M_faultPlace2 M_lastFault2 M_lastPlace2 M_undoable2 M_hasImage2 M_rowOf2 M_areSums2 M_isSieved2 M_blocks2 M_drawn2 M_tape2 M_number2 M_isTold2 M_name2 M_sortOf2 M_first2 M_second2 M_degree2 M_colours2 M_signBy2 M_own2 M_sF2 M_kept2 M_power2 M_table2 M_marks2 M_row2 M_lastOf2 M_inBlock2 M_atQuotient2 M_small2 out2 x42 kc2 ks2) : wB_1237 L xs rf rm rl ru rn rv now_bound now_modulus now_seed now_functions now_names now_kinds now_firsts now_seconds now_degrees now_colours now_needs now_numbers reader_lines reader_faulty reader_place reader_token reader_toldOnce reader_tape_fed reader_tape_length reader_tape_tokens reader_tape_at reader_tape_bytes reader_tape_sorts reader_tape_starts reader_tape_contents reader_plan_bound reader_plan_modulus reader_plan_seed reader_plan_functions reader_plan_names reader_plan_kinds reader_plan_firsts reader_plan_seconds reader_plan_degrees reader_plan_colours reader_plan_needs reader_plan_numbers changes_size changes_top changes_kinds changes_cells changes_ones changes_others image_kept image_bound image_modulus image_numbers rows_turn rows_sieve_least rows_powers_ofPrime rows_powers_cells couples_x couples_root couples_small couples_great n_rows_sieve_least M_thrown M_taped M_lines M_size M_atF M_place M_sort M_value M_fault M_faultPlace M_lastFault M_lastPlace M_undoable M_hasImage M_rowOf M_areSums M_isSieved M_blocks M_drawn M_tape M_number M_isTold M_name M_sortOf M_first M_second M_degree M_colours M_signBy M_own M_sF M_kept M_power M_table M_marks M_row M_lastOf M_inBlock M_atQuotient M_small out x4 kc ks Nx := by
  unfold wB_1237
  have hpl2 := hpl
  obtain ⟨⟨hB1, hB2, hM1, hM2, hSd, hF1, hF2⟩, ⟨rfl, rfl, rfl, rfl⟩, hw, hn, hR, ⟨hs0, hs1, hnu2, hnu3⟩, hnam⟩ := hpl2
  have hro2 := hro
  obtain ⟨rfl, hpE, hpV, ⟨hL1, hL2, hsv⟩, hpw⟩ := hro2
  have hmo2 := hmo
  obtain ⟨hiS, hmk, hrc⟩ := hmo2
  have i1 := pos_in 1 hpos.1 h6 hpos.2.2.1 (by omega)
  have i2 := pos_in 2 hpos.1 h6 hpos.2.2.1 (by omega)
  generalize xs (x4 + 1).toNatClampNeg = a1
  generalize xs (x4 + 2).toNatClampNeg = a2
  refine ⟨i1, i2, ?_⟩
  by_cases hv : ∃ n1 n2 : Nat, (n1 < F) ∧ (n2 < M) ∧ a1 = nI n1 ∧ a2 = nI n2
  case neg => exact ⟨0, 0, _, roomN hpos hL2 hpE, n_X10_first hB2 hM2 hF1 hF2 hv ⟨i1, i2, _, n_X11_first hB2 hM2 hF1 hF2 hs0 hs1 hnu3 hv (eqans rfl (hN _ _ _ _ _ _ _ _ _ _ _ _ _ _ _ _ _ _ _ _ _ _ _ _ _ _ _ _ _ _ _ _ _ _ _ _ _ _ _ _ _ _ _ _ _ _ _ _ _ _ _ _ _ _ _ _ _ _ _ _ _ _ _ _ _ _ _ _ _ _ _ _ _ _ _ _ _ _ _ _ _ _ _ _ _ _ _ _ _ _ _ _ _ _ _ _ _ _ _ _ _ _ _ _ _ _ ⟨i + 1, Bd, M, Sd, F, fd, T, cx, cr, sz, tp, pos_0 hpos h6, hpl, htp, hfl, hch, him, hro, hcp, hmo⟩ (pos_mea hpos h6))), fun _ _ _ _ _ _ _ h => h⟩, fun _ _ _ _ _ _ _ _ _ _ _ _ h => h⟩
  obtain ⟨n1, n2, h1, h2, rfl, rfl⟩ := hv
  obtain ⟨J, rf', rm', rl', ru', rn', L', ms, hJ, hpE', hL1', hL2', hms, hup⟩ := s_first (se := nI Sd) (r := n2) (T := T) hw hn hF1 hF2 hB2 hM1 hM2 h1 h2 (by have hp := hpos; obtain ⟨p1, p2, p3, p4, p5, p6⟩ := hp; omega) hpE hL1 hL2 hpV hsv hpw
  refine ⟨2 * J, ms, _, room_ok hpos (by omega) hms hL2' hpE', hup _ (fun ans rv' le' ce' p' q1 q2 q3 q4 => ?_), fun _ _ _ _ _ _ _ _ _ _ _ _ h => h⟩
  refine ⟨i1, i2, _, m_first hw hR hs0 hs1 hnu3 hF1 hF2 hB1 hB2 hM1 hM2 h1 h2 hmk hrc (fun ans2 row' P2 t2 w1 w2 => ?_), fun _ _ _ _ _ _ _ h => h⟩
  exact eqans (ans_one q4 w1) (hN _ _ _ _ _ _ _ _ _ _ _ _ _ _ _ _ _ _ _ _ _ _ _ _ _ _ _ _ _ _ _ _ _ _ _ _ _ _ _ _ _ _ _ _ _ _ _ _ _ _ _ _ _ _ _ _ _ _ _ _ _ _ _ _ _ _ _ _ _ _ _ _ _ _ _ _ _ _ _ _ _ _ _ _ _ _ _ _ _ _ _ _ _ _ _ _ _ _ _ _ _ _ _ _ _ _ ⟨i + 1, Bd, M, Sd, F, fd, T + J, cx, cr, sz, tp, pos_up (mc := 2 * J) hpos h6 (by omega) (by omega) (by omega), hpl, htp, hfl, hch, him, ⟨rfl, hpE', q1, ⟨hL1', hL2', q2⟩, q3⟩, hcp, ⟨hiS, hmk, rc_sum hF2 h1 w2⟩⟩ (pos_mea hpos h6))
