/-! PURE: what calls change, undone, images -/
theorem undoE_cong {kd c a b : Int32} {S S2 : Nat → Int32} {j : Nat} (h : S j = S2 j) : undoE kd c a b S j = undoE kd c a b S2 j := by
  unfold undoE
  by_cases h1 : kd = 0
  · rw [if_pos h1, if_pos h1, h]
  · rw [if_neg h1, if_neg h1]
    by_cases h2 : kd = 1
    · rw [if_pos h2, if_pos h2, h]
    · rw [if_neg h2, if_neg h2, h]
theorem snap_lo {sz i : Nat} {kept s : Nat → Int32} (h : i < sz) (j : Nat) : snap sz kept s i j = kept (74 * i + j) := by unfold snap; rw [if_pos h]
theorem snap_hi {sz i : Nat} {kept s : Nat → Int32} (h : ¬ i < sz) (j : Nat) : snap sz kept s i j = s j := by unfold snap; rw [if_neg h]
theorem ch_push {sz tp : Nat} {size top und kd c a b : Int32} {kinds cells ones others kept s kept' s' : Nat → Int32} (h : chR sz tp size top kinds cells ones others und kept s) (hok : entOK kd c a) (hk1 : sz < 20 → (∀ j, j < 74 → kept' (74 * sz + j) = s j) ∧ ∀ m, m < 74 * sz → kept' m = kept m) (hk2 : sz = 20 → (∀ j, j < 74 → kept' (1406 + j) = s j) ∧ ∀ m, m < 1406 → kept' m = kept (74 + m)) (hs : ∀ j, j < 74 → s j = undoE kd c a b s' j) : chR (if sz < 20 then sz + 1 else 20) ((tp + 1) % 20) (nI (if sz < 20 then sz + 1 else 20)) (nI ((tp + 1) % 20)) (upd kinds tp kd) (upd cells tp c) (upd ones tp a) (upd others tp b) (nI (if sz < 20 then sz + 1 else 20)) kept' s' := by
  obtain ⟨h1, h2, -, -, -, h6⟩ := h
  refine ⟨by split <;> omega, Nat.mod_lt _ (by omega), rfl, rfl, rfl, fun i hi => ?_⟩
  by_cases c20 : sz < 20
  · rw [if_pos c20] at hi ⊢
    obtain ⟨k1, k2⟩ := hk1 c20
    by_cases e : i = sz
    · have ei : entIdx (sz + 1) ((tp + 1) % 20) i = tp := by rw [entIdx]; omega
      rw [ei, pk_us, pk_us, pk_us, pk_us]
      refine ⟨hok, fun j hj => ?_⟩
      rw [e, k1 j hj, hs j hj]
      exact undoE_cong (snap_hi (by omega) j).symm
    · have ei : entIdx (sz + 1) ((tp + 1) % 20) i = entIdx sz tp i := by rw [entIdx, entIdx]; omega
      have en : entIdx sz tp i ≠ tp := by rw [entIdx]; omega
      obtain ⟨o1, o2⟩ := h6 i (by omega)
      rw [ei, pk_un en, pk_un en, pk_un en, pk_un en]
      refine ⟨o1, fun j hj => ?_⟩
      rw [k2 _ (by omega), o2 j hj]
      refine undoE_cong ?_
      rw [snap_lo (show i + 1 < sz + 1 by omega)]
      by_cases e2 : i + 1 = sz
      · rw [snap_hi (by omega), e2, k1 j hj]
      · rw [snap_lo (by omega), k2 _ (by omega)]
  · have e20 : sz = 20 := by omega
    subst e20
    rw [if_neg c20] at hi ⊢
    obtain ⟨k1, k2⟩ := hk2 rfl
    by_cases e : i = 19
    · subst e
      have ei : entIdx 20 ((tp + 1) % 20) 19 = tp := by rw [entIdx]; omega
      rw [ei, pk_us, pk_us, pk_us, pk_us]
      refine ⟨hok, fun j hj => ?_⟩
      rw [show 74 * 19 + j = 1406 + j by omega, k1 j hj, hs j hj]
      exact undoE_cong (snap_hi (by omega) j).symm
    · have ei : entIdx 20 ((tp + 1) % 20) i = entIdx 20 tp (i + 1) := by rw [entIdx, entIdx]; omega
      have en : entIdx 20 tp (i + 1) ≠ tp := by rw [entIdx]; omega
      obtain ⟨o1, o2⟩ := h6 (i + 1) (by omega)
      rw [ei, pk_un en, pk_un en, pk_un en, pk_un en]
      refine ⟨o1, fun j hj => ?_⟩
      rw [k2 _ (by omega), show 74 + (74 * i + j) = 74 * (i + 1) + j by omega, o2 j hj]
      refine undoE_cong ?_
      rw [snap_lo (show i + 1 < 20 by omega)]
      by_cases e2 : i + 1 = 19
      · rw [snap_hi (by omega), show 74 * (i + 1) + j = 1406 + j by omega, k1 j hj]
      · rw [snap_lo (by omega), k2 _ (by omega)]; congr 1; omega
theorem ch_pop {sz tp : Nat} {size top und : Int32} {kinds cells ones others kept s s' : Nat → Int32} (h : chR (sz + 1) tp size top kinds cells ones others und kept s) (hs : ∀ j, j < 74 → s' j = kept (74 * sz + j)) : chR sz ((tp + 19) % 20) (nI sz) (nI ((tp + 19) % 20)) kinds cells ones others (nI sz) kept s' ∧ entOK (kinds ((tp + 19) % 20)) (cells ((tp + 19) % 20)) (ones ((tp + 19) % 20)) ∧ ∀ j, j < 74 → s' j = undoE (kinds ((tp + 19) % 20)) (cells ((tp + 19) % 20)) (ones ((tp + 19) % 20)) (others ((tp + 19) % 20)) s j := by
  obtain ⟨h1, h2, -, -, -, h6⟩ := h
  have e0 : entIdx (sz + 1) tp sz = (tp + 19) % 20 := by rw [entIdx]; omega
  obtain ⟨o1, o2⟩ := h6 sz (by omega)
  rw [e0] at o1 o2
  refine ⟨⟨by omega, Nat.mod_lt _ (by omega), rfl, rfl, rfl, fun i hi => ?_⟩, o1, fun j hj => ?_⟩
  · have ei : entIdx sz ((tp + 19) % 20) i = entIdx (sz + 1) tp i := by rw [entIdx, entIdx]; omega
    obtain ⟨p1, p2⟩ := h6 i (by omega)
    rw [ei]
    refine ⟨p1, fun j hj => ?_⟩
    rw [p2 j hj]
    refine undoE_cong ?_
    rw [snap_lo (show i + 1 < sz + 1 by omega)]
    by_cases e2 : i + 1 = sz
    · rw [snap_hi (by omega), hs j hj, e2]
    · rw [snap_lo (by omega)]
  · rw [hs j hj, o2 j hj]
    exact undoE_cong (snap_hi (by omega) j)
theorem s_push {sz tp : Nat} {kinds cells ones others : Nat → Int32} {kd c a b : Int32} {Q : Int32 → Int32 → (Nat → Int32) → (Nat → Int32) → (Nat → Int32) → (Nat → Int32) → Prop} (hsz : sz ≤ 20) (htp : tp < 20) (h : Q (nI (if sz < 20 then sz + 1 else 20)) (nI ((tp + 1) % 20)) (upd kinds tp kd) (upd cells tp c) (upd ones tp a) (upd others tp b)) : wX0_push (nI sz) (nI tp) kinds cells ones others kd c a b Q := by
  unfold wX0_push
  refine ⟨pk_in tp 20 htp, ?_⟩
  rw [nI_clamp (by omega), nI_1, nI_1]
  rintro k1 rfl k2 rfl k3 rfl k4 rfl
  rw [show nI (tp + 1) - nI (tp + 1) / 20 * 20 = nI ((tp + 1) % 20) from pk_rem (d := 20) (by omega) (by omega) (by omega)]
  rintro t rfl m rfl
  have e : (if (20 : Int32) < nI (sz + 1) then (20 : Int32) else nI (sz + 1)) = nI (if sz < 20 then sz + 1 else 20) := by
    rw [show (20 : Int32) = nI 20 from rfl]
    by_cases c20 : sz < 20
    · rw [if_pos c20, if_neg (nI_nlt (a := 20) (b := sz + 1) (by omega) (by omega))]
    · rw [if_neg c20, if_pos (nI_lt (a := 20) (b := sz + 1) (by omega) (by omega))]
  rw [e]; exact h
theorem s_lays {qth qta qli qsi qat qpl qso qva qfa qfp qlf qlp qun qhi qro qar qiS qbl qdr : Int32} {s kept : Nat → Int32} {k : Nat} {Q : (Nat → Int32) → Prop} (hk : k ≤ 20) (h : ∀ kept', (∀ j, j < 74 → kept' (74 * k + j) = s j) → (∀ m, (m < 74 * k ∨ 74 * k + 74 ≤ m) → kept' m = kept m) → Q kept') : wX11_lays qth qta qli qsi qat qpl qso qva qfa qfp qlf qlp qun qhi qro qar qiS qbl qdr s kept (nI k) Q := by
  unfold wX11_lays
  refine ⟨fun kp y => ∃ i : Nat, i ≤ 74 ∧ y = nI i ∧ (∀ j, j < i → kp (74 * k + j) = s j) ∧ ∀ m, (m < 74 * k ∨ 74 * k + 74 ≤ m) → kp m = kept m, fun _ y => 75 - y.toNatClampNeg, ⟨0, by omega, rfl, fun j hj => by omega, fun m _ => rfl⟩, ?_⟩
  rintro kp y ⟨i, hi, rfl, h1, h2⟩
  refine pk_le 74 i (fun z => h kp (fun j hj => h1 j (by omega)) h2) (fun z => ⟨pk_in i 74 z, ?_⟩)
  rw [nI_clamp (by omega), show (74 : Int32) * nI k + nI i = nI (74 * k + i) from by rw [show (74 : Int32) = nI 74 from rfl, pk_mul, nI_add], nI_1]
  rintro e rfl
  refine ⟨vp_in_nI (by omega) (by omega), ?_⟩
  rw [nI_clamp (by omega)]
  rintro k2 rfl
  refine ⟨⟨i + 1, by omega, rfl, fun j hj => ?_, fun m hm => by rw [pk_un (by omega)]; exact h2 m hm⟩, ms_up (by omega) (by omega)⟩
  by_cases ej : j = i
  · subst ej; exact pk_us
  · rw [pk_un (by omega)]; exact h1 j (by omega)
theorem s_laysBack {qth qta qli qsi qat qpl qso qva qfa qfp qlf qlp qun qhi qro qar qiS qbl qdr : Int32} {s kept : Nat → Int32} {k : Nat} {Q : Int32 → (Nat → Int32) → Prop} (hk : k ≤ 20) (h : ∀ s', (∀ j, j < 74 → s' j = kept (74 * k + j)) → Q (-1) s') : wX11_laysBack qth qta qli qsi qat qpl qso qva qfa qfp qlf qlp qun qhi qro qar qiS qbl qdr kept s (nI k) Q := by
  unfold wX11_laysBack
  refine ⟨fun sp y => ∃ i : Nat, i ≤ 74 ∧ y = nI i ∧ ∀ j, j < i → sp j = kept (74 * k + j), fun _ y => 75 - y.toNatClampNeg, ⟨0, by omega, rfl, fun j hj => by omega⟩, ?_⟩
  rintro sp y ⟨i, hi, rfl, h1⟩
  refine pk_le 74 i (fun z => ⟨_, s_forgets (h sp (fun j hj => h1 j (by omega))), fun _ h => h⟩) (fun z => ?_)
  rw [show (74 : Int32) * nI k + nI i = nI (74 * k + i) from by rw [show (74 : Int32) = nI 74 from rfl, pk_mul, nI_add], nI_clamp (show 74 * k + i < 2 ^ 31 by omega), nI_clamp (show i < 2 ^ 31 by omega), nI_1]
  refine ⟨vp_in_nI (by omega) (by omega), ?_⟩
  rintro e rfl
  refine ⟨pk_in i 74 z, ?_⟩
  rintro s2 rfl
  refine ⟨⟨i + 1, by omega, rfl, fun j hj => ?_⟩, ms_up (by omega) (by omega)⟩
  by_cases ej : j = i
  · subst ej; exact pk_us
  · rw [pk_un ej]; exact h1 j (by omega)
theorem s_remembers {qth qta qli qsi qat qpl qso qva qfa qfp qlf qlp qun qhi qro qar qiS qbl qdr : Int32} {s kept : Nat → Int32} {sz : Nat} {Q : Int32 → Int32 → (Nat → Int32) → Prop} (hu : qun = nI sz) (hsz : sz ≤ 20) (h : ∀ kept', (sz < 20 → (∀ j, j < 74 → kept' (74 * sz + j) = s j) ∧ ∀ m, m < 74 * sz → kept' m = kept m) → (sz = 20 → (∀ j, j < 74 → kept' (1406 + j) = s j) ∧ ∀ m, m < 1406 → kept' m = kept (74 + m)) → (∀ m, 1480 ≤ m → kept' m = kept m) → Q (nI (if sz < 20 then sz + 1 else 20)) (-1) kept') : wX11_remembers qth qta qli qsi qat qpl qso qva qfa qfp qlf qlp qun qhi qro qar qiS qbl qdr kept s Q := by
  unfold wX11_remembers
  rw [hu]
  refine ⟨fun kp y => ∃ t : Nat, y = nI t ∧ t < 20 ∧ t + 1 = (if sz < 20 then sz + 1 else 20) ∧ (sz < 20 → kp = kept ∧ t = sz) ∧ (sz = 20 → t = 19 ∧ (∀ m, m < 1406 → kp m = kept (74 + m)) ∧ ∀ m, 1406 ≤ m → kp m = kept m), ⟨fun e => ⟨sz, rfl, ?_, ?_, fun _ => ⟨rfl, rfl⟩, fun e2 => absurd (by rw [e2]; rfl) e⟩, fun e => ?_⟩, ?_⟩
  · rcases Nat.lt_or_ge sz 20 with w | w
    · exact w
    · exact absurd (by rw [show sz = 20 by omega]; rfl) e
  · rcases Nat.lt_or_ge sz 20 with w | w
    · rw [if_pos w]
    · exact absurd (by rw [show sz = 20 by omega]; rfl) e
  · have e20 : sz = 20 := (nI_eq (b := 20) (by omega) (by omega)).mp e
    refine ⟨fun kp y => ∃ i : Nat, i ≤ 1406 ∧ y = nI i ∧ (∀ m, m < i → kp m = kept (74 + m)) ∧ ∀ m, i ≤ m → kp m = kept m, fun _ y => 1407 - y.toNatClampNeg, ⟨0, by omega, rfl, fun m hm => by omega, fun m _ => rfl⟩, ?_⟩
    rintro kp y ⟨i, hi, rfl, h1, h2⟩
    refine pk_le 1406 i (fun z => ?_) (fun z => ?_)
    · obtain rfl : i = 1406 := by omega
      rintro u rfl
      refine ⟨19, by rw [e20]; rfl, by omega, by rw [e20]; rfl, fun w => by omega, fun _ => ⟨rfl, h1, h2⟩⟩
    · rw [show (74 : Int32) + nI i = nI (74 + i) from nI_add 74 i, nI_clamp (show 74 + i < 2 ^ 31 by omega), nI_clamp (show i < 2 ^ 31 by omega), nI_1]
      refine ⟨vp_in_nI (by omega) (by omega), ?_⟩
      rintro v rfl
      refine ⟨vp_in_nI (by omega) (by omega), ?_⟩
      rintro k2 rfl
      refine ⟨⟨i + 1, by omega, rfl, fun m hm => ?_, fun m hm => by rw [pk_un (by omega)]; exact h2 m (by omega)⟩, ms_up (by omega) (by omega)⟩
      by_cases em : m = i
      · subst em; rw [pk_us]; exact h2 _ (by omega)
      · rw [pk_un em]; exact h1 m (by omega)
  · rintro kp y ⟨t, rfl, ht, ht1, ht2, ht3⟩
    refine ⟨_, s_lays (by omega) (fun kept' k1 k2 => ?_), fun _ h => h⟩
    rw [nI_1, ht1]
    rintro u rfl
    refine ⟨_, s_forgets (h kept' (fun w => ?_) (fun w => ?_) (fun m hm => ?_)), fun _ h => h⟩
    · obtain ⟨rfl, rfl⟩ := ht2 w
      exact ⟨k1, fun m hm => k2 m (Or.inl hm)⟩
    · obtain ⟨rfl, a1, a2⟩ := ht3 w
      exact ⟨k1, fun m hm => by rw [k2 m (Or.inl hm)]; exact a1 m hm⟩
    · rw [k2 m (Or.inr (by omega))]
      rcases Nat.lt_or_ge sz 20 with w | w
      · rw [(ht2 w).1]
      · exact (ht3 (by omega)).2.2 m (by omega)
theorem im_keep {F : Nat} {ik ib im hi : Int32} {inum kept kept' : Nat → Int32} (h : imR F ik ib im inum hi kept) (hk : ∀ m, 1480 ≤ m → kept' m = kept m) : imR F ik ib im inum hi kept' := by
  refine ⟨h.1, h.2.imp id (fun ⟨a, b, m, h1, h2, h3, h4, h5, h6, h7, h8, h9⟩ => ⟨a, b, m, h1, h2, h3, h4, h5, by rw [hk _ (by omega)]; exact h6, h7, by rw [hk _ (by omega)]; exact h8, fun j hj => by rw [hk _ (by omega)]; exact h9 j hj⟩)⟩
theorem pm_s {F : Nat} {K A B C N so fi se sb s s' : Nat → Int32} (h : pmR F K A B C N so fi se sb s) (hF : F ≤ 12) (hs : ∀ j, 2 ≤ j → j < 74 → s' j = s j) : pmR F K A B C N so fi se sb s' := ⟨h.1, fun i hi => by rw [hs _ (by omega) (by omega)]; exact h.2.1 i hi, h.2.2⟩
theorem s_forgetR {turn : Int32} {rf rm rl ru : Nat → Int32} {rn : Nat → Nat} {rv : Nat → Nat → Int32} {Q : (Nat → Int32) → Prop} (h : ∀ rf', (∀ k, k < 4 → rf' k = -1) → Q rf') : wX7_forget turn rf rm rl ru rn rv Q := by
  unfold wX7_forget
  rintro r1 rfl r2 rfl r3 rfl r4 rfl
  refine h _ (fun k hk => ?_)
  have : k = 0 ∨ k = 1 ∨ k = 2 ∨ k = 3 := by omega
  rcases this with rfl | rfl | rfl | rfl
  · rw [pk_un (by omega), pk_un (by omega), pk_un (by omega), pk_us]
  · rw [pk_un (by omega), pk_un (by omega), pk_us]
  · rw [pk_un (by omega), pk_us]
  · exact pk_us
set_option maxHeartbeats 2000000 in
theorem cs_481 {L : Nat} {xs : Nat → Int32} {rf : Nat → Int32} {rm : Nat → Int32} {rl : Nat → Int32} {ru : Nat → Int32} {rn : Nat → Nat} {rv : Nat → Nat → Int32} {now_bound : Int32} {now_modulus : Int32} {now_seed : Int32} {now_functions : Int32} {now_names : Nat → Int32} {now_kinds : Nat → Int32} {now_firsts : Nat → Int32} {now_seconds : Nat → Int32} {now_degrees : Nat → Int32} {now_colours : Nat → Int32} {now_needs : Nat → Int32} {now_numbers : Nat → Int32} {reader_lines : Int32} {reader_faulty : Int32} {reader_place : Int32} {reader_token : Int32} {reader_toldOnce : Int32} {reader_tape_fed : Int32} {reader_tape_length : Int32} {reader_tape_tokens : Int32} {reader_tape_at : Int32} {reader_tape_bytes : Nat → Int32} {reader_tape_sorts : Nat → Int32} {reader_tape_starts : Nat → Int32} {reader_tape_contents : Nat → Int32} {reader_plan_bound : Int32} {reader_plan_modulus : Int32} {reader_plan_seed : Int32} {reader_plan_functions : Int32} {reader_plan_names : Nat → Int32} {reader_plan_kinds : Nat → Int32} {reader_plan_firsts : Nat → Int32} {reader_plan_seconds : Nat → Int32} {reader_plan_degrees : Nat → Int32} {reader_plan_colours : Nat → Int32} {reader_plan_needs : Nat → Int32} {reader_plan_numbers : Nat → Int32} {changes_size : Int32} {changes_top : Int32} {changes_kinds : Nat → Int32} {changes_cells : Nat → Int32} {changes_ones : Nat → Int32} {changes_others : Nat → Int32} {image_kept : Int32} {image_bound : Int32} {image_modulus : Int32} {image_numbers : Nat → Int32} {rows_turn : Int32} {rows_sieve_least : Nat → Int32} {rows_powers_ofPrime : Nat → Int32} {rows_powers_cells : Nat → Int32} {couples_x : Int32} {couples_root : Int32} {couples_small : Nat → Int64} {couples_great : Nat → Int64} {n_rows_sieve_least : Nat} {M_thrown : Int32} {M_taped : Int32} {M_lines : Int32} {M_size : Int32} {M_atF : Int32} {M_place : Int32} {M_sort : Int32} {M_value : Int32} {M_fault : Int32} {M_faultPlace : Int32} {M_lastFault : Int32} {M_lastPlace : Int32} {M_undoable : Int32} {M_hasImage : Int32} {M_rowOf : Int32} {M_areSums : Int32} {M_isSieved : Int32} {M_blocks : Int32} {M_drawn : Int32} {M_tape : Nat → Int32} {M_number : Nat → Int32} {M_isTold : Nat → Int32} {M_name : Nat → Int32} {M_sortOf : Nat → Int32} {M_first : Nat → Int32} {M_second : Nat → Int32} {M_degree : Nat → Int32} {M_colours : Nat → Int32} {M_signBy : Nat → Int32} {M_own : Nat → Int32} {M_sF : Nat → Int32} {M_kept : Nat → Int32} {M_power : Nat → Int64} {M_table : Nat → Int64} {M_marks : Nat → Int32} {M_row : Nat → Int32} {M_lastOf : Nat → Int32} {M_inBlock : Nat → Int64} {M_atQuotient : Nat → Int64} {M_small : Nat → Int64} {out : Nat → Int64} {x4 : Int32} {kc : Nat} {ks : Nat} {Nx : (Nat → Int32) → (Nat → Int32) → (Nat → Int32) → (Nat → Int32) → (Nat → Nat) → (Nat → Nat → Int32) → (Int32) → (Int32) → (Int32) → (Int32) → (Nat → Int32) → (Nat → Int32) → (Nat → Int32) → (Nat → Int32) → (Nat → Int32) → (Nat → Int32) → (Nat → Int32) → (Nat → Int32) → (Int32) → (Int32) → (Int32) → (Int32) → (Int32) → (Int32) → (Int32) → (Int32) → (Int32) → (Nat → Int32) → (Nat → Int32) → (Nat → Int32) → (Nat → Int32) → (Int32) → (Int32) → (Int32) → (Int32) → (Nat → Int32) → (Nat → Int32) → (Nat → Int32) → (Nat → Int32) → (Nat → Int32) → (Nat → Int32) → (Nat → Int32) → (Nat → Int32) → (Int32) → (Int32) → (Nat → Int32) → (Nat → Int32) → (Nat → Int32) → (Nat → Int32) → (Int32) → (Int32) → (Int32) → (Nat → Int32) → (Int32) → (Nat → Int32) → (Nat → Int32) → (Nat → Int32) → (Int32) → (Int32) → (Nat → Int64) → (Nat → Int64) → (Nat) → (Int32) → (Int32) → (Int32) → (Int32) → (Int32) → (Int32) → (Int32) → (Int32) → (Int32) → (Int32) → (Int32) → (Int32) → (Int32) → (Int32) → (Int32) → (Int32) → (Int32) → (Int32) → (Int32) → (Nat → Int32) → (Nat → Int32) → (Nat → Int32) → (Nat → Int32) → (Nat → Int32) → (Nat → Int32) → (Nat → Int32) → (Nat → Int32) → (Nat → Int32) → (Nat → Int32) → (Nat → Int32) → (Nat → Int32) → (Nat → Int32) → (Nat → Int64) → (Nat → Int64) → (Nat → Int32) → (Nat → Int32) → (Nat → Int32) → (Nat → Int64) → (Nat → Int64) → (Nat → Int64) → (Nat → Int64) → (Int32) → (Nat) → (Nat) → Prop} {i Bd M Sd F fd T cx cr sz tp : Nat} (hpos : posR L i T x4 kc ks n_rows_sieve_least rn) (h6 : 6 * i + 6 ≤ L) (hpl : plR Bd M Sd F now_bound now_modulus now_seed now_functions now_names now_kinds now_firsts now_seconds now_degrees now_colours now_needs now_numbers M_number M_name M_sortOf M_first M_second M_degree M_colours M_signBy M_sF) (htp : tpR fd reader_tape_fed reader_tape_bytes M_taped M_tape) (hfl : (reader_faulty = M_lastFault ∧ reader_place = M_lastPlace)) (hch : chR sz tp changes_size changes_top changes_kinds changes_cells changes_ones changes_others M_undoable M_kept M_sF) (him : imR F image_kept image_bound image_modulus image_numbers M_hasImage M_kept) (hro : roR T F n_rows_sieve_least now_kinds now_firsts now_seconds now_colours now_numbers rows_turn rf rm rl ru rn rv rows_sieve_least rows_powers_cells rows_powers_ofPrime) (hcp : (couples_x = nI cx ∧ couples_root = nI cr ∧ cpOK cx cr couples_great couples_small)) (hmo : moR F now_kinds now_firsts now_seconds now_colours now_numbers M Bd M_isSieved M_rowOf M_areSums M_marks M_row) (hN : ∀ (rf2 : Nat → Int32) (rm2 : Nat → Int32) (rl2 : Nat → Int32) (ru2 : Nat → Int32) (rn2 : Nat → Nat) (rv2 : Nat → Nat → Int32) (now_bound2 : Int32) (now_modulus2 : Int32) (now_seed2 : Int32) (now_functions2 : Int32) (now_names2 : Nat → Int32) (now_kinds2 : Nat → Int32) (now_firsts2 : Nat → Int32) (now_seconds2 : Nat → Int32) (now_degrees2 : Nat → Int32) (now_colours2 : Nat → Int32) (now_needs2 : Nat → Int32) (now_numbers2 : Nat → Int32) (reader_lines2 : Int32) (reader_faulty2 : Int32) (reader_place2 : Int32) (reader_token2 : Int32) (reader_toldOnce2 : Int32) (reader_tape_fed2 : Int32) (reader_tape_length2 : Int32) (reader_tape_tokens2 : Int32) (reader_tape_at2 : Int32) (reader_tape_bytes2 : Nat → Int32) (reader_tape_sorts2 : Nat → Int32) (reader_tape_starts2 : Nat → Int32) (reader_tape_contents2 : Nat → Int32) (reader_plan_bound2 : Int32) (reader_plan_modulus2 : Int32) (reader_plan_seed2 : Int32) (reader_plan_functions2 : Int32) (reader_plan_names2 : Nat → Int32) (reader_plan_kinds2 : Nat → Int32) (reader_plan_firsts2 : Nat → Int32) (reader_plan_seconds2 : Nat → Int32) (reader_plan_degrees2 : Nat → Int32) (reader_plan_colours2 : Nat → Int32) (reader_plan_needs2 : Nat → Int32) (reader_plan_numbers2 : Nat → Int32) (changes_size2 : Int32) (changes_top2 : Int32) (changes_kinds2 : Nat → Int32) (changes_cells2 : Nat → Int32) (changes_ones2 : Nat → Int32) (changes_others2 : Nat → Int32) (image_kept2 : Int32) (image_bound2 : Int32) (image_modulus2 : Int32) (image_numbers2 : Nat → Int32) (rows_turn2 : Int32) (rows_sieve_least2 : Nat → Int32) (rows_powers_ofPrime2 : Nat → Int32) (rows_powers_cells2 : Nat → Int32) (couples_x2 : Int32) (couples_root2 : Int32) (couples_small2 : Nat → Int64) (couples_great2 : Nat → Int64) (n_rows_sieve_least2 : Nat) (M_thrown2 : Int32) (M_taped2 : Int32) (M_lines2 : Int32) (M_size2 : Int32) (M_atF2 : Int32) (M_place2 : Int32) (M_sort2 : Int32) (M_value2 : Int32) (M_fault2 : Int32) (M_faultPlace2 : Int32) (M_lastFault2 : Int32) (M_lastPlace2 : Int32) (M_undoable2 : Int32) (M_hasImage2 : Int32) (M_rowOf2 : Int32) (M_areSums2 : Int32) (M_isSieved2 : Int32) (M_blocks2 : Int32) (M_drawn2 : Int32) (M_tape2 : Nat → Int32) (M_number2 : Nat → Int32) (M_isTold2 : Nat → Int32) (M_name2 : Nat → Int32) (M_sortOf2 : Nat → Int32) (M_first2 : Nat → Int32) (M_second2 : Nat → Int32) (M_degree2 : Nat → Int32) (M_colours2 : Nat → Int32) (M_signBy2 : Nat → Int32) (M_own2 : Nat → Int32) (M_sF2 : Nat → Int32) (M_kept2 : Nat → Int32) (M_power2 : Nat → Int64) (M_table2 : Nat → Int64) (M_marks2 : Nat → Int32) (M_row2 : Nat → Int32) (M_lastOf2 : Nat → Int32) (M_inBlock2 : Nat → Int64) (M_atQuotient2 : Nat → Int64) (M_small2 : Nat → Int64) (out2 : Nat → Int64) (x42 : Int32) (kc2 : Nat) (ks2 : Nat), invL L rf2 rm2 rl2 ru2 rn2 rv2 now_bound2 now_modulus2 now_seed2 now_functions2 now_names2 now_kinds2 now_firsts2 now_seconds2 now_degrees2 now_colours2 now_needs2 now_numbers2 reader_lines2 reader_faulty2 reader_place2 reader_token2 reader_toldOnce2 reader_tape_fed2 reader_tape_length2 reader_tape_tokens2 reader_tape_at2 reader_tape_bytes2 reader_tape_sorts2 reader_tape_starts2 reader_tape_contents2 reader_plan_bound2 reader_plan_modulus2 reader_plan_seed2 reader_plan_functions2 reader_plan_names2 reader_plan_kinds2 reader_plan_firsts2 reader_plan_seconds2 reader_plan_degrees2 reader_plan_colours2 reader_plan_needs2 reader_plan_numbers2 changes_size2 changes_top2 changes_kinds2 changes_cells2 changes_ones2 changes_others2 image_kept2 image_bound2 image_modulus2 image_numbers2 rows_turn2 rows_sieve_least2 rows_powers_ofPrime2 rows_powers_cells2 couples_x2 couples_root2 couples_small2 couples_great2 n_rows_sieve_least2 M_thrown2 M_taped2 M_lines2 M_size2 M_atF2 M_place2 M_sort2 M_value2 M_fault2 M_faultPlace2 M_lastFault2 M_lastPlace2 M_undoable2 M_hasImage2 M_rowOf2 M_areSums2 M_isSieved2 M_blocks2 M_drawn2 M_tape2 M_number2 M_isTold2 M_name2 M_sortOf2 M_first2 M_second2 M_degree2 M_colours2 M_signBy2 M_own2 M_sF2 M_kept2 M_power2 M_table2 M_marks2 M_row2 M_lastOf2 M_inBlock2 M_atQuotient2 M_small2 out2 x42 kc2 ks2 → meaL L rf2 rm2 rl2 ru2 rn2 rv2 now_bound2 now_modulus2 now_seed2 now_functions2 now_names2 now_kinds2 now_firsts2 now_seconds2 now_degrees2 now_colours2 now_needs2 now_numbers2 reader_lines2 reader_faulty2 reader_place2 reader_token2 reader_toldOnce2 reader_tape_fed2 reader_tape_length2 reader_tape_tokens2 reader_tape_at2 reader_tape_bytes2 reader_tape_sorts2 reader_tape_starts2 reader_tape_contents2 reader_plan_bound2 reader_plan_modulus2 reader_plan_seed2 reader_plan_functions2 reader_plan_names2 reader_plan_kinds2 reader_plan_firsts2 reader_plan_seconds2 reader_plan_degrees2 reader_plan_colours2 reader_plan_needs2 reader_plan_numbers2 changes_size2 changes_top2 changes_kinds2 changes_cells2 changes_ones2 changes_others2 image_kept2 image_bound2 image_modulus2 image_numbers2 rows_turn2 rows_sieve_least2 rows_powers_ofPrime2 rows_powers_cells2 couples_x2 couples_root2 couples_small2 couples_great2 n_rows_sieve_least2 M_thrown2 M_taped2 M_lines2 M_size2 M_atF2 M_place2 M_sort2 M_value2 M_fault2 M_faultPlace2 M_lastFault2 M_lastPlace2 M_undoable2 M_hasImage2 M_rowOf2 M_areSums2 M_isSieved2 M_blocks2 M_drawn2 M_tape2 M_number2 M_isTold2 M_name2 M_sortOf2 M_first2 M_second2 M_degree2 M_colours2 M_signBy2 M_own2 M_sF2 M_kept2 M_power2 M_table2 M_marks2 M_row2 M_lastOf2 M_inBlock2 M_atQuotient2 M_small2 out2 x42 kc2 ks2 < meaL L rf rm rl ru rn rv now_bound now_modulus now_seed now_functions now_names now_kinds now_firsts now_seconds now_degrees now_colours now_needs now_numbers reader_lines reader_faulty reader_place reader_token reader_toldOnce reader_tape_fed reader_tape_length reader_tape_tokens reader_tape_at reader_tape_bytes reader_tape_sorts reader_tape_starts reader_tape_contents reader_plan_bound reader_plan_modulus reader_plan_seed reader_plan_functions reader_plan_names reader_plan_kinds reader_plan_firsts reader_plan_seconds reader_plan_degrees reader_plan_colours reader_plan_needs reader_plan_numbers changes_size changes_top changes_kinds changes_cells changes_ones changes_others image_kept image_bound image_modulus image_numbers rows_turn rows_sieve_least rows_powers_ofPrime rows_powers_cells couples_x couples_root couples_small couples_great n_rows_sieve_least M_thrown M_taped M_lines M_size M_atF M_place M_sort M_value M_fault M_faultPlace M_lastFault M_lastPlace M_undoable M_hasImage M_rowOf M_areSums M_isSieved M_blocks M_drawn M_tape M_number M_isTold M_name M_sortOf M_first M_second M_degree M_colours M_signBy M_own M_sF M_kept M_power M_table M_marks M_row M_lastOf M_inBlock M_atQuotient M_small out x4 kc ks → Nx rf2 rm2 rl2 ru2 rn2 rv2 now_bound2 now_modulus2 now_seed2 now_functions2 now_names2 now_kinds2 now_firsts2 now_seconds2 now_degrees2 now_colours2 now_needs2 now_numbers2 reader_lines2 reader_faulty2 reader_place2 reader_token2 reader_toldOnce2 reader_tape_fed2 reader_tape_length2 reader_tape_tokens2 reader_tape_at2 reader_tape_bytes2 reader_tape_sorts2 reader_tape_starts2 reader_tape_contents2 reader_plan_bound2 reader_plan_modulus2 reader_plan_seed2 reader_plan_functions2 reader_plan_names2 reader_plan_kinds2 reader_plan_firsts2 reader_plan_seconds2 reader_plan_degrees2 reader_plan_colours2 reader_plan_needs2 reader_plan_numbers2 changes_size2 changes_top2 changes_kinds2 changes_cells2 changes_ones2 changes_others2 image_kept2 image_bound2 image_modulus2 image_numbers2 rows_turn2 rows_sieve_least2 rows_powers_ofPrime2 rows_powers_cells2 couples_x2 couples_root2 couples_small2 couples_great2 n_rows_sieve_least2 M_thrown2 M_taped2 M_lines2 M_size2 M_atF2 M_place2 M_sort2 M_value2 M_fault2 M_faultPlace2 M_lastFault2 M_lastPlace2 M_undoable2 M_hasImage2 M_rowOf2 M_areSums2 M_isSieved2 M_blocks2 M_drawn2 M_tape2 M_number2 M_isTold2 M_name2 M_sortOf2 M_first2 M_second2 M_degree2 M_colours2 M_signBy2 M_own2 M_sF2 M_kept2 M_power2 M_table2 M_marks2 M_row2 M_lastOf2 M_inBlock2 M_atQuotient2 M_small2 out2 x42 kc2 ks2) : wB_481 L xs rf rm rl ru rn rv now_bound now_modulus now_seed now_functions now_names now_kinds now_firsts now_seconds now_degrees now_colours now_needs now_numbers reader_lines reader_faulty reader_place reader_token reader_toldOnce reader_tape_fed reader_tape_length reader_tape_tokens reader_tape_at reader_tape_bytes reader_tape_sorts reader_tape_starts reader_tape_contents reader_plan_bound reader_plan_modulus reader_plan_seed reader_plan_functions reader_plan_names reader_plan_kinds reader_plan_firsts reader_plan_seconds reader_plan_degrees reader_plan_colours reader_plan_needs reader_plan_numbers changes_size changes_top changes_kinds changes_cells changes_ones changes_others image_kept image_bound image_modulus image_numbers rows_turn rows_sieve_least rows_powers_ofPrime rows_powers_cells couples_x couples_root couples_small couples_great n_rows_sieve_least M_thrown M_taped M_lines M_size M_atF M_place M_sort M_value M_fault M_faultPlace M_lastFault M_lastPlace M_undoable M_hasImage M_rowOf M_areSums M_isSieved M_blocks M_drawn M_tape M_number M_isTold M_name M_sortOf M_first M_second M_degree M_colours M_signBy M_own M_sF M_kept M_power M_table M_marks M_row M_lastOf M_inBlock M_atQuotient M_small out x4 kc ks Nx := by
  unfold wB_481
  have hpl2 := hpl
  obtain ⟨⟨hB1, hB2, hM1, hM2, hSd, hF1, hF2⟩, ⟨rfl, rfl, rfl, rfl⟩, hw, hn, hR, ⟨hs0, hs1, hnu2, hnu3⟩, hnam⟩ := hpl2
  have hro2 := hro
  obtain ⟨rfl, hpE, hpV, ⟨hL1, hL2, hsv⟩, hpw⟩ := hro2
  have hmo2 := hmo
  obtain ⟨hiS, hmk, hrc⟩ := hmo2
  have i1 := pos_in 1 hpos.1 h6 hpos.2.2.1 (by omega)
  generalize xs (x4 + 1).toNatClampNeg = a1
  refine ⟨i1, _, ?_, fun _ _ _ _ _ _ _ _ h => h⟩
  by_cases hv : ∃ n1 : Nat, (1 ≤ n1 ∧ n1 ≤ 200000) ∧ a1 = nI n1
  case neg => exact n_X10_bound hB2 hM2 hF1 hF2 hv ⟨i1, _, n_X11_bound hB2 hM2 hF1 hF2 hs0 hs1 hv (eqans rfl (hN _ _ _ _ _ _ _ _ _ _ _ _ _ _ _ _ _ _ _ _ _ _ _ _ _ _ _ _ _ _ _ _ _ _ _ _ _ _ _ _ _ _ _ _ _ _ _ _ _ _ _ _ _ _ _ _ _ _ _ _ _ _ _ _ _ _ _ _ _ _ _ _ _ _ _ _ _ _ _ _ _ _ _ _ _ _ _ _ _ _ _ _ _ _ _ _ _ _ _ _ _ _ _ _ _ _ ⟨i + 1, Bd, M, Sd, F, fd, T, cx, cr, sz, tp, pos_0 hpos h6, hpl, htp, hfl, hch, him, hro, hcp, hmo⟩ (pos_mea hpos h6))), fun _ _ _ _ _ _ h => h⟩
  obtain ⟨n1, h1, rfl⟩ := hv
  have hch2 := hch
  obtain ⟨hz1, hz2, rfl, rfl, hz5, -⟩ := hch2
  refine y_X10_bound hB2 hM2 hF1 hF2 h1 ⟨_, s_push hz1 hz2 ?_, fun _ _ _ _ _ _ h => h⟩
  refine ⟨i1, _, y_X11_bound hB2 hM2 hF1 hF2 hs0 hs1 h1 ?_, fun _ _ _ _ _ _ h => h⟩
  rw [hs0]
  rintro w rfl
  refine ⟨_, s_remembers hz5 hz1 (fun kept' k1 k2 k3 => ?_), fun _ _ _ h => h⟩
  rintro s' rfl
  have hs' : ∀ j, 2 ≤ j → j < 74 → upd M_sF 0 (nI n1) j = M_sF j := fun j a b => pk_un (by omega)
  have hund : ∀ j, j < 74 → M_sF j = undoE 0 0 (nI Bd) 0 (upd M_sF 0 (nI n1)) j := by
    intro j hj
    unfold undoE
    rw [if_pos rfl]
    by_cases e : j = 0
    · rw [if_pos e, e, hs0]
    · rw [if_neg e, pk_un e]
  exact eqans rfl (hN _ _ _ _ _ _ _ _ _ _ _ _ _ _ _ _ _ _ _ _ _ _ _ _ _ _ _ _ _ _ _ _ _ _ _ _ _ _ _ _ _ _ _ _ _ _ _ _ _ _ _ _ _ _ _ _ _ _ _ _ _ _ _ _ _ _ _ _ _ _ _ _ _ _ _ _ _ _ _ _ _ _ _ _ _ _ _ _ _ _ _ _ _ _ _ _ _ _ _ _ _ _ _ _ _ _ ⟨i + 1, n1, M, Sd, F, fd, T, cx, cr, (if sz < 20 then sz + 1 else 20), ((tp + 1) % 20), pos_0 hpos h6, ⟨⟨h1.1, h1.2, hM1, hM2, hSd, hF1, hF2⟩, ⟨rfl, rfl, rfl, rfl⟩, hw, hn, pm_s hR hF2 hs', ⟨pk_us, by rw [pk_un (by omega)]; exact hs1, hnu2, hnu3⟩, hnam⟩, htp, hfl, ch_push hch (Or.inl ⟨rfl, Bd, hB1, hB2, rfl⟩) k1 k2 hund, im_keep him k3, hro, hcp, ⟨hiS, hmk, rc_none hF2⟩⟩ (pos_mea hpos h6))
set_option maxHeartbeats 2000000 in
theorem cs_506 {L : Nat} {xs : Nat → Int32} {rf : Nat → Int32} {rm : Nat → Int32} {rl : Nat → Int32} {ru : Nat → Int32} {rn : Nat → Nat} {rv : Nat → Nat → Int32} {now_bound : Int32} {now_modulus : Int32} {now_seed : Int32} {now_functions : Int32} {now_names : Nat → Int32} {now_kinds : Nat → Int32} {now_firsts : Nat → Int32} {now_seconds : Nat → Int32} {now_degrees : Nat → Int32} {now_colours : Nat → Int32} {now_needs : Nat → Int32} {now_numbers : Nat → Int32} {reader_lines : Int32} {reader_faulty : Int32} {reader_place : Int32} {reader_token : Int32} {reader_toldOnce : Int32} {reader_tape_fed : Int32} {reader_tape_length : Int32} {reader_tape_tokens : Int32} {reader_tape_at : Int32} {reader_tape_bytes : Nat → Int32} {reader_tape_sorts : Nat → Int32} {reader_tape_starts : Nat → Int32} {reader_tape_contents : Nat → Int32} {reader_plan_bound : Int32} {reader_plan_modulus : Int32} {reader_plan_seed : Int32} {reader_plan_functions : Int32} {reader_plan_names : Nat → Int32} {reader_plan_kinds : Nat → Int32} {reader_plan_firsts : Nat → Int32} {reader_plan_seconds : Nat → Int32} {reader_plan_degrees : Nat → Int32} {reader_plan_colours : Nat → Int32} {reader_plan_needs : Nat → Int32} {reader_plan_numbers : Nat → Int32} {changes_size : Int32} {changes_top : Int32} {changes_kinds : Nat → Int32} {changes_cells : Nat → Int32} {changes_ones : Nat → Int32} {changes_others : Nat → Int32} {image_kept : Int32} {image_bound : Int32} {image_modulus : Int32} {image_numbers : Nat → Int32} {rows_turn : Int32} {rows_sieve_least : Nat → Int32} {rows_powers_ofPrime : Nat → Int32} {rows_powers_cells : Nat → Int32} {couples_x : Int32} {couples_root : Int32} {couples_small : Nat → Int64} {couples_great : Nat → Int64} {n_rows_sieve_least : Nat} {M_thrown : Int32} {M_taped : Int32} {M_lines : Int32} {M_size : Int32} {M_atF : Int32} {M_place : Int32} {M_sort : Int32} {M_value : Int32} {M_fault : Int32} {M_faultPlace : Int32} {M_lastFault : Int32} {M_lastPlace : Int32} {M_undoable : Int32} {M_hasImage : Int32} {M_rowOf : Int32} {M_areSums : Int32} {M_isSieved : Int32} {M_blocks : Int32} {M_drawn : Int32} {M_tape : Nat → Int32} {M_number : Nat → Int32} {M_isTold : Nat → Int32} {M_name : Nat → Int32} {M_sortOf : Nat → Int32} {M_first : Nat → Int32} {M_second : Nat → Int32} {M_degree : Nat → Int32} {M_colours : Nat → Int32} {M_signBy : Nat → Int32} {M_own : Nat → Int32} {M_sF : Nat → Int32} {M_kept : Nat → Int32} {M_power : Nat → Int64} {M_table : Nat → Int64} {M_marks : Nat → Int32} {M_row : Nat → Int32} {M_lastOf : Nat → Int32} {M_inBlock : Nat → Int64} {M_atQuotient : Nat → Int64} {M_small : Nat → Int64} {out : Nat → Int64} {x4 : Int32} {kc : Nat} {ks : Nat} {Nx : (Nat → Int32) → (Nat → Int32) → (Nat → Int32) → (Nat → Int32) → (Nat → Nat) → (Nat → Nat → Int32) → (Int32) → (Int32) → (Int32) → (Int32) → (Nat → Int32) → (Nat → Int32) → (Nat → Int32) → (Nat → Int32) → (Nat → Int32) → (Nat → Int32) → (Nat → Int32) → (Nat → Int32) → (Int32) → (Int32) → (Int32) → (Int32) → (Int32) → (Int32) → (Int32) → (Int32) → (Int32) → (Nat → Int32) → (Nat → Int32) → (Nat → Int32) → (Nat → Int32) → (Int32) → (Int32) → (Int32) → (Int32) → (Nat → Int32) → (Nat → Int32) → (Nat → Int32) → (Nat → Int32) → (Nat → Int32) → (Nat → Int32) → (Nat → Int32) → (Nat → Int32) → (Int32) → (Int32) → (Nat → Int32) → (Nat → Int32) → (Nat → Int32) → (Nat → Int32) → (Int32) → (Int32) → (Int32) → (Nat → Int32) → (Int32) → (Nat → Int32) → (Nat → Int32) → (Nat → Int32) → (Int32) → (Int32) → (Nat → Int64) → (Nat → Int64) → (Nat) → (Int32) → (Int32) → (Int32) → (Int32) → (Int32) → (Int32) → (Int32) → (Int32) → (Int32) → (Int32) → (Int32) → (Int32) → (Int32) → (Int32) → (Int32) → (Int32) → (Int32) → (Int32) → (Int32) → (Nat → Int32) → (Nat → Int32) → (Nat → Int32) → (Nat → Int32) → (Nat → Int32) → (Nat → Int32) → (Nat → Int32) → (Nat → Int32) → (Nat → Int32) → (Nat → Int32) → (Nat → Int32) → (Nat → Int32) → (Nat → Int32) → (Nat → Int64) → (Nat → Int64) → (Nat → Int32) → (Nat → Int32) → (Nat → Int32) → (Nat → Int64) → (Nat → Int64) → (Nat → Int64) → (Nat → Int64) → (Int32) → (Nat) → (Nat) → Prop} {i Bd M Sd F fd T cx cr sz tp : Nat} (hpos : posR L i T x4 kc ks n_rows_sieve_least rn) (h6 : 6 * i + 6 ≤ L) (hpl : plR Bd M Sd F now_bound now_modulus now_seed now_functions now_names now_kinds now_firsts now_seconds now_degrees now_colours now_needs now_numbers M_number M_name M_sortOf M_first M_second M_degree M_colours M_signBy M_sF) (htp : tpR fd reader_tape_fed reader_tape_bytes M_taped M_tape) (hfl : (reader_faulty = M_lastFault ∧ reader_place = M_lastPlace)) (hch : chR sz tp changes_size changes_top changes_kinds changes_cells changes_ones changes_others M_undoable M_kept M_sF) (him : imR F image_kept image_bound image_modulus image_numbers M_hasImage M_kept) (hro : roR T F n_rows_sieve_least now_kinds now_firsts now_seconds now_colours now_numbers rows_turn rf rm rl ru rn rv rows_sieve_least rows_powers_cells rows_powers_ofPrime) (hcp : (couples_x = nI cx ∧ couples_root = nI cr ∧ cpOK cx cr couples_great couples_small)) (hmo : moR F now_kinds now_firsts now_seconds now_colours now_numbers M Bd M_isSieved M_rowOf M_areSums M_marks M_row) (hN : ∀ (rf2 : Nat → Int32) (rm2 : Nat → Int32) (rl2 : Nat → Int32) (ru2 : Nat → Int32) (rn2 : Nat → Nat) (rv2 : Nat → Nat → Int32) (now_bound2 : Int32) (now_modulus2 : Int32) (now_seed2 : Int32) (now_functions2 : Int32) (now_names2 : Nat → Int32) (now_kinds2 : Nat → Int32) (now_firsts2 : Nat → Int32) (now_seconds2 : Nat → Int32) (now_degrees2 : Nat → Int32) (now_colours2 : Nat → Int32) (now_needs2 : Nat → Int32) (now_numbers2 : Nat → Int32) (reader_lines2 : Int32) (reader_faulty2 : Int32) (reader_place2 : Int32) (reader_token2 : Int32) (reader_toldOnce2 : Int32) (reader_tape_fed2 : Int32) (reader_tape_length2 : Int32) (reader_tape_tokens2 : Int32) (reader_tape_at2 : Int32) (reader_tape_bytes2 : Nat → Int32) (reader_tape_sorts2 : Nat → Int32) (reader_tape_starts2 : Nat → Int32) (reader_tape_contents2 : Nat → Int32) (reader_plan_bound2 : Int32) (reader_plan_modulus2 : Int32) (reader_plan_seed2 : Int32) (reader_plan_functions2 : Int32) (reader_plan_names2 : Nat → Int32) (reader_plan_kinds2 : Nat → Int32) (reader_plan_firsts2 : Nat → Int32) (reader_plan_seconds2 : Nat → Int32) (reader_plan_degrees2 : Nat → Int32) (reader_plan_colours2 : Nat → Int32) (reader_plan_needs2 : Nat → Int32) (reader_plan_numbers2 : Nat → Int32) (changes_size2 : Int32) (changes_top2 : Int32) (changes_kinds2 : Nat → Int32) (changes_cells2 : Nat → Int32) (changes_ones2 : Nat → Int32) (changes_others2 : Nat → Int32) (image_kept2 : Int32) (image_bound2 : Int32) (image_modulus2 : Int32) (image_numbers2 : Nat → Int32) (rows_turn2 : Int32) (rows_sieve_least2 : Nat → Int32) (rows_powers_ofPrime2 : Nat → Int32) (rows_powers_cells2 : Nat → Int32) (couples_x2 : Int32) (couples_root2 : Int32) (couples_small2 : Nat → Int64) (couples_great2 : Nat → Int64) (n_rows_sieve_least2 : Nat) (M_thrown2 : Int32) (M_taped2 : Int32) (M_lines2 : Int32) (M_size2 : Int32) (M_atF2 : Int32) (M_place2 : Int32) (M_sort2 : Int32) (M_value2 : Int32) (M_fault2 : Int32) (M_faultPlace2 : Int32) (M_lastFault2 : Int32) (M_lastPlace2 : Int32) (M_undoable2 : Int32) (M_hasImage2 : Int32) (M_rowOf2 : Int32) (M_areSums2 : Int32) (M_isSieved2 : Int32) (M_blocks2 : Int32) (M_drawn2 : Int32) (M_tape2 : Nat → Int32) (M_number2 : Nat → Int32) (M_isTold2 : Nat → Int32) (M_name2 : Nat → Int32) (M_sortOf2 : Nat → Int32) (M_first2 : Nat → Int32) (M_second2 : Nat → Int32) (M_degree2 : Nat → Int32) (M_colours2 : Nat → Int32) (M_signBy2 : Nat → Int32) (M_own2 : Nat → Int32) (M_sF2 : Nat → Int32) (M_kept2 : Nat → Int32) (M_power2 : Nat → Int64) (M_table2 : Nat → Int64) (M_marks2 : Nat → Int32) (M_row2 : Nat → Int32) (M_lastOf2 : Nat → Int32) (M_inBlock2 : Nat → Int64) (M_atQuotient2 : Nat → Int64) (M_small2 : Nat → Int64) (out2 : Nat → Int64) (x42 : Int32) (kc2 : Nat) (ks2 : Nat), invL L rf2 rm2 rl2 ru2 rn2 rv2 now_bound2 now_modulus2 now_seed2 now_functions2 now_names2 now_kinds2 now_firsts2 now_seconds2 now_degrees2 now_colours2 now_needs2 now_numbers2 reader_lines2 reader_faulty2 reader_place2 reader_token2 reader_toldOnce2 reader_tape_fed2 reader_tape_length2 reader_tape_tokens2 reader_tape_at2 reader_tape_bytes2 reader_tape_sorts2 reader_tape_starts2 reader_tape_contents2 reader_plan_bound2 reader_plan_modulus2 reader_plan_seed2 reader_plan_functions2 reader_plan_names2 reader_plan_kinds2 reader_plan_firsts2 reader_plan_seconds2 reader_plan_degrees2 reader_plan_colours2 reader_plan_needs2 reader_plan_numbers2 changes_size2 changes_top2 changes_kinds2 changes_cells2 changes_ones2 changes_others2 image_kept2 image_bound2 image_modulus2 image_numbers2 rows_turn2 rows_sieve_least2 rows_powers_ofPrime2 rows_powers_cells2 couples_x2 couples_root2 couples_small2 couples_great2 n_rows_sieve_least2 M_thrown2 M_taped2 M_lines2 M_size2 M_atF2 M_place2 M_sort2 M_value2 M_fault2 M_faultPlace2 M_lastFault2 M_lastPlace2 M_undoable2 M_hasImage2 M_rowOf2 M_areSums2 M_isSieved2 M_blocks2 M_drawn2 M_tape2 M_number2 M_isTold2 M_name2 M_sortOf2 M_first2 M_second2 M_degree2 M_colours2 M_signBy2 M_own2 M_sF2 M_kept2 M_power2 M_table2 M_marks2 M_row2 M_lastOf2 M_inBlock2 M_atQuotient2 M_small2 out2 x42 kc2 ks2 → meaL L rf2 rm2 rl2 ru2 rn2 rv2 now_bound2 now_modulus2 now_seed2 now_functions2 now_names2 now_kinds2 now_firsts2 now_seconds2 now_degrees2 now_colours2 now_needs2 now_numbers2 reader_lines2 reader_faulty2 reader_place2 reader_token2 reader_toldOnce2 reader_tape_fed2 reader_tape_length2 reader_tape_tokens2 reader_tape_at2 reader_tape_bytes2 reader_tape_sorts2 reader_tape_starts2 reader_tape_contents2 reader_plan_bound2 reader_plan_modulus2 reader_plan_seed2 reader_plan_functions2 reader_plan_names2 reader_plan_kinds2 reader_plan_firsts2 reader_plan_seconds2 reader_plan_degrees2 reader_plan_colours2 reader_plan_needs2 reader_plan_numbers2 changes_size2 changes_top2 changes_kinds2 changes_cells2 changes_ones2 changes_others2 image_kept2 image_bound2 image_modulus2 image_numbers2 rows_turn2 rows_sieve_least2 rows_powers_ofPrime2 rows_powers_cells2 couples_x2 couples_root2 couples_small2 couples_great2 n_rows_sieve_least2 M_thrown2 M_taped2 M_lines2 M_size2 M_atF2 M_place2 M_sort2 M_value2 M_fault2 M_faultPlace2 M_lastFault2 M_lastPlace2 M_undoable2 M_hasImage2 M_rowOf2 M_areSums2 M_isSieved2 M_blocks2 M_drawn2 M_tape2 M_number2 M_isTold2 M_name2 M_sortOf2 M_first2 M_second2 M_degree2 M_colours2 M_signBy2 M_own2 M_sF2 M_kept2 M_power2 M_table2 M_marks2 M_row2 M_lastOf2 M_inBlock2 M_atQuotient2 M_small2 out2 x42 kc2 ks2 < meaL L rf rm rl ru rn rv now_bound now_modulus now_seed now_functions now_names now_kinds now_firsts now_seconds now_degrees now_colours now_needs now_numbers reader_lines reader_faulty reader_place reader_token reader_toldOnce reader_tape_fed reader_tape_length reader_tape_tokens reader_tape_at reader_tape_bytes reader_tape_sorts reader_tape_starts reader_tape_contents reader_plan_bound reader_plan_modulus reader_plan_seed reader_plan_functions reader_plan_names reader_plan_kinds reader_plan_firsts reader_plan_seconds reader_plan_degrees reader_plan_colours reader_plan_needs reader_plan_numbers changes_size changes_top changes_kinds changes_cells changes_ones changes_others image_kept image_bound image_modulus image_numbers rows_turn rows_sieve_least rows_powers_ofPrime rows_powers_cells couples_x couples_root couples_small couples_great n_rows_sieve_least M_thrown M_taped M_lines M_size M_atF M_place M_sort M_value M_fault M_faultPlace M_lastFault M_lastPlace M_undoable M_hasImage M_rowOf M_areSums M_isSieved M_blocks M_drawn M_tape M_number M_isTold M_name M_sortOf M_first M_second M_degree M_colours M_signBy M_own M_sF M_kept M_power M_table M_marks M_row M_lastOf M_inBlock M_atQuotient M_small out x4 kc ks → Nx rf2 rm2 rl2 ru2 rn2 rv2 now_bound2 now_modulus2 now_seed2 now_functions2 now_names2 now_kinds2 now_firsts2 now_seconds2 now_degrees2 now_colours2 now_needs2 now_numbers2 reader_lines2 reader_faulty2 reader_place2 reader_token2 reader_toldOnce2 reader_tape_fed2 reader_tape_length2 reader_tape_tokens2 reader_tape_at2 reader_tape_bytes2 reader_tape_sorts2 reader_tape_starts2 reader_tape_contents2 reader_plan_bound2 reader_plan_modulus2 reader_plan_seed2 reader_plan_functions2 reader_plan_names2 reader_plan_kinds2 reader_plan_firsts2 reader_plan_seconds2 reader_plan_degrees2 reader_plan_colours2 reader_plan_needs2 reader_plan_numbers2 changes_size2 changes_top2 changes_kinds2 changes_cells2 changes_ones2 changes_others2 image_kept2 image_bound2 image_modulus2 image_numbers2 rows_turn2 rows_sieve_least2 rows_powers_ofPrime2 rows_powers_cells2 couples_x2 couples_root2 couples_small2 couples_great2 n_rows_sieve_least2 M_thrown2 M_taped2 M_lines2 M_size2 M_atF2 M_place2 M_sort2 M_value2 M_fault2 M_faultPlace2 M_lastFault2 M_lastPlace2 M_undoable2 M_hasImage2 M_rowOf2 M_areSums2 M_isSieved2 M_blocks2 M_drawn2 M_tape2 M_number2 M_isTold2 M_name2 M_sortOf2 M_first2 M_second2 M_degree2 M_colours2 M_signBy2 M_own2 M_sF2 M_kept2 M_power2 M_table2 M_marks2 M_row2 M_lastOf2 M_inBlock2 M_atQuotient2 M_small2 out2 x42 kc2 ks2) : wB_506 L xs rf rm rl ru rn rv now_bound now_modulus now_seed now_functions now_names now_kinds now_firsts now_seconds now_degrees now_colours now_needs now_numbers reader_lines reader_faulty reader_place reader_token reader_toldOnce reader_tape_fed reader_tape_length reader_tape_tokens reader_tape_at reader_tape_bytes reader_tape_sorts reader_tape_starts reader_tape_contents reader_plan_bound reader_plan_modulus reader_plan_seed reader_plan_functions reader_plan_names reader_plan_kinds reader_plan_firsts reader_plan_seconds reader_plan_degrees reader_plan_colours reader_plan_needs reader_plan_numbers changes_size changes_top changes_kinds changes_cells changes_ones changes_others image_kept image_bound image_modulus image_numbers rows_turn rows_sieve_least rows_powers_ofPrime rows_powers_cells couples_x couples_root couples_small couples_great n_rows_sieve_least M_thrown M_taped M_lines M_size M_atF M_place M_sort M_value M_fault M_faultPlace M_lastFault M_lastPlace M_undoable M_hasImage M_rowOf M_areSums M_isSieved M_blocks M_drawn M_tape M_number M_isTold M_name M_sortOf M_first M_second M_degree M_colours M_signBy M_own M_sF M_kept M_power M_table M_marks M_row M_lastOf M_inBlock M_atQuotient M_small out x4 kc ks Nx := by
  unfold wB_506
  have hpl2 := hpl
  obtain ⟨⟨hB1, hB2, hM1, hM2, hSd, hF1, hF2⟩, ⟨rfl, rfl, rfl, rfl⟩, hw, hn, hR, ⟨hs0, hs1, hnu2, hnu3⟩, hnam⟩ := hpl2
  have hro2 := hro
  obtain ⟨rfl, hpE, hpV, ⟨hL1, hL2, hsv⟩, hpw⟩ := hro2
  have hmo2 := hmo
  obtain ⟨hiS, hmk, hrc⟩ := hmo2
  have i1 := pos_in 1 hpos.1 h6 hpos.2.2.1 (by omega)
  generalize xs (x4 + 1).toNatClampNeg = a1
  refine ⟨i1, _, ?_, fun _ _ _ _ _ _ _ _ h => h⟩
  by_cases hv : ∃ n1 : Nat, (2 ≤ n1 ∧ n1 ≤ 1000003) ∧ a1 = nI n1
  case neg => exact n_X10_modulus hB2 hM2 hF1 hF2 hv ⟨i1, _, n_X11_modulus hB2 hM2 hF1 hF2 hs0 hs1 hv (eqans rfl (hN _ _ _ _ _ _ _ _ _ _ _ _ _ _ _ _ _ _ _ _ _ _ _ _ _ _ _ _ _ _ _ _ _ _ _ _ _ _ _ _ _ _ _ _ _ _ _ _ _ _ _ _ _ _ _ _ _ _ _ _ _ _ _ _ _ _ _ _ _ _ _ _ _ _ _ _ _ _ _ _ _ _ _ _ _ _ _ _ _ _ _ _ _ _ _ _ _ _ _ _ _ _ _ _ _ _ ⟨i + 1, Bd, M, Sd, F, fd, T, cx, cr, sz, tp, pos_0 hpos h6, hpl, htp, hfl, hch, him, hro, hcp, hmo⟩ (pos_mea hpos h6))), fun _ _ _ _ _ _ h => h⟩
  obtain ⟨n1, h1, rfl⟩ := hv
  have hch2 := hch
  obtain ⟨hz1, hz2, rfl, rfl, hz5, -⟩ := hch2
  refine y_X10_modulus hB2 hM2 hF1 hF2 h1 ⟨_, s_push hz1 hz2 ?_, fun _ _ _ _ _ _ h => h⟩
  refine ⟨i1, _, y_X11_modulus hB2 hM2 hF1 hF2 hs0 hs1 h1 ?_, fun _ _ _ _ _ _ h => h⟩
  rw [hs1]
  rintro w rfl
  refine ⟨_, s_remembers hz5 hz1 (fun kept' k1 k2 k3 => ?_), fun _ _ _ h => h⟩
  rintro s' rfl
  have hs' : ∀ j, 2 ≤ j → j < 74 → upd M_sF 1 (nI n1) j = M_sF j := fun j a b => pk_un (by omega)
  have hund : ∀ j, j < 74 → M_sF j = undoE 1 0 (nI M) 0 (upd M_sF 1 (nI n1)) j := by
    intro j hj
    unfold undoE
    rw [if_neg (by decide), if_pos rfl]
    by_cases e : j = 1
    · rw [if_pos e, e, hs1]
    · rw [if_neg e, pk_un e]
  exact eqans rfl (hN _ _ _ _ _ _ _ _ _ _ _ _ _ _ _ _ _ _ _ _ _ _ _ _ _ _ _ _ _ _ _ _ _ _ _ _ _ _ _ _ _ _ _ _ _ _ _ _ _ _ _ _ _ _ _ _ _ _ _ _ _ _ _ _ _ _ _ _ _ _ _ _ _ _ _ _ _ _ _ _ _ _ _ _ _ _ _ _ _ _ _ _ _ _ _ _ _ _ _ _ _ _ _ _ _ _ ⟨i + 1, Bd, n1, Sd, F, fd, T, cx, cr, (if sz < 20 then sz + 1 else 20), ((tp + 1) % 20), pos_0 hpos h6, ⟨⟨hB1, hB2, h1.1, h1.2, hSd, hF1, hF2⟩, ⟨rfl, rfl, rfl, rfl⟩, hw, hn, pm_s hR hF2 hs', ⟨by rw [pk_un (by omega)]; exact hs0, pk_us, hnu2, hnu3⟩, hnam⟩, htp, hfl, ch_push hch (Or.inr (Or.inl ⟨rfl, M, hM1, hM2, rfl⟩)) k1 k2 hund, im_keep him k3, hro, hcp, ⟨hiS, hmk, rc_none hF2⟩⟩ (pos_mea hpos h6))
