/-! PURE: feed, chance -/
def byt (x : Int32) (j : Nat) : Int32 := (x >>> (nI (24 - 8 * j) &&& 31)) &&& 255
theorem by_eq (n : Nat) (hn : n ≤ 24) (x : Int32) : ((x.toUInt32 >>> ((nI n).toUInt32 &&& Int32.toUInt32 31)).toInt32) &&& 255 = (x >>> (nI n &&& 31)) &&& 255 := b_ext (fun i hi => by
  rw [b_and, b_and, b_255, b_ushr n (by omega), b_sshr n (by omega) _ hi]
  by_cases h : i < 8
  · rw [if_pos (by omega)]
  · rw [decide_eq_false h, Bool.and_false, Bool.and_false])
theorem byt_c (x : Int32) (j : Nat) : ∃ c, c < 256 ∧ byt x j = nI c := pk_andE _ 8 (by decide)
theorem s_append4 {le to at_ x : Int32} {bytes : Nat → Int32} {fd : Nat} {Q : Int32 → (Nat → Int32) → Prop} (hfd : fd + 4 ≤ 700) (h : ∀ b', (∀ j, j < 4 → b' (fd + j) = byt x j) → (∀ i, i < fd → b' i = bytes i) → Q (nI (fd + 4)) b') : wX9_append (nI fd) le to at_ bytes x Q := by
  unfold wX9_append
  refine ⟨fun b f y => ∃ j : Nat, j ≤ 4 ∧ f = nI (fd + j) ∧ ((j < 4 ∧ y = nI (24 - 8 * j)) ∨ (j = 4 ∧ y = -8)) ∧ (∀ i, i < j → b (fd + i) = byt x i) ∧ ∀ i, i < fd → b i = bytes i, fun _ f _ => 705 - f.toNatClampNeg, ⟨0, by omega, rfl, Or.inl ⟨by omega, rfl⟩, fun i hi => by omega, fun i _ => rfl⟩, ?_⟩
  rintro b f y ⟨j, hj, rfl, hy, h1, h2⟩
  rcases hy with ⟨hj4, rfl⟩ | ⟨rfl, rfl⟩
  · refine ⟨fun z => absurd z (nI_pos (by omega)), fun _ => pk_le 700 (fd + j) (fun z => by omega) (fun _ => ?_)⟩
    rw [by_eq (24 - 8 * j) (by omega) x]
    rintro t rfl
    refine ⟨vp_in_nI (by omega) (by omega), ?_⟩
    rw [nI_clamp (by omega), nI_1]
    rintro b2 rfl f2 rfl
    refine ⟨⟨j + 1, by omega, rfl, ?_, fun i hi => ?_, fun i hi => by rw [pk_un (by omega)]; exact h2 i hi⟩, ms_up (N := 705) (j := fd + j) (by omega) (by omega)⟩
    · have : j = 0 ∨ j = 1 ∨ j = 2 ∨ j = 3 := by omega
      rcases this with rfl | rfl | rfl | rfl
      · exact Or.inl ⟨by omega, by decide⟩
      · exact Or.inl ⟨by omega, by decide⟩
      · exact Or.inl ⟨by omega, by decide⟩
      · exact Or.inr ⟨rfl, by decide⟩
    · by_cases e : i = j
      · subst e; rw [pk_us]; rfl
      · rw [pk_un (by omega)]; exact h1 i (by omega)
  · exact ⟨fun _ => h b h1 h2, fun z => absurd (by decide) z⟩
def pck (a1 a2 a3 a4 a5 : Int32) (i : Nat) : Int32 := if i < 4 then a1 else if i < 8 then a2 else if i < 12 then a3 else if i < 16 then a4 else a5
theorem eS (k : Nat) (hk : k < 20) : (24 : Int32) - (8 * (nI k - nI k / 4 * 4)) = nI (24 - 8 * (k % 4)) := by
  rw [show nI k - nI k / 4 * 4 = nI (k % 4) from pk_rem (d := 4) (by omega) (by omega) (by omega), show (8 : Int32) * nI (k % 4) = nI (8 * (k % 4)) from pk_mul 8 (k % 4)]
  exact pk_sub (a := 24) (by omega)
theorem s_feedM {qth qta qli qsi qat qpl qso qva qfa qfp qlf qlp qun qhi qro qar qiS qbl qdr : Int32} {tape : Nat → Int32} {a1 a2 a3 a4 a5 : Int32} {fd : Nat} {Q : Int32 → Int32 → Int32 → (Nat → Int32) → Prop} (ht : qta = nI fd) (hfd : fd ≤ 680) (h : ∀ t', (∀ i, i < 20 → t' (fd + i) = byt (pck a1 a2 a3 a4 a5 i) (i % 4)) → (∀ i, i < fd → t' i = tape i) → Q (nI (fd + 20)) 0 (nI (fd + 20)) t') : wX11_feed qth qta qli qsi qat qpl qso qva qfa qfp qlf qlp qun qhi qro qar qiS qbl qdr tape a1 a2 a3 a4 a5 Q := by
  unfold wX11_feed
  rw [ht]
  refine pk_le fd 680 (fun _ => ?_) (fun z => by omega)
  refine ⟨fun t y => ∃ k : Nat, k ≤ 20 ∧ y = nI k ∧ (∀ i, i < k → t (fd + i) = byt (pck a1 a2 a3 a4 a5 i) (i % 4)) ∧ ∀ i, i < fd → t i = tape i, fun _ y => 21 - y.toNatClampNeg, ⟨0, by omega, rfl, fun i hi => by omega, fun i _ => rfl⟩, ?_⟩
  rintro t y ⟨k, hk, rfl, h1, h2⟩
  have step : ∀ a : Int32, k < 20 → pck a1 a2 a3 a4 a5 k = a → ∀ (e : Int32), e = (a >>> ((24 - (8 * (nI k - nI k / 4 * 4))) &&& 31)) &&& 255 → vp_in (nI fd + nI k) 700 ∧ ∀ t2 : Nat → Int32, t2 = upd t (nI fd + nI k).toNatClampNeg e → ((∃ k2 : Nat, k2 ≤ 20 ∧ nI k + 1 = nI k2 ∧ (∀ i, i < k2 → t2 (fd + i) = byt (pck a1 a2 a3 a4 a5 i) (i % 4)) ∧ ∀ i, i < fd → t2 i = tape i) ∧ 21 - (nI k + 1).toNatClampNeg < 21 - (nI k).toNatClampNeg) := by
    intro a hk2 ha e he
    rw [eS k hk2] at he
    subst he
    rw [nI_add, nI_1, nI_clamp (show fd + k < 2 ^ 31 by omega)]
    refine ⟨vp_in_nI (by omega) (by omega), ?_⟩
    rintro t2 rfl
    refine ⟨⟨k + 1, by omega, rfl, fun i hi => ?_, fun i hi => by rw [pk_un (by omega)]; exact h2 i hi⟩, ms_up (by omega) (by omega)⟩
    by_cases ei : i = k
    · subst ei; rw [pk_us, ha]; rfl
    · rw [pk_un (by omega)]; exact h1 i (by omega)
  refine pk_le 20 k (fun z => ?_) (fun z => ?_)
  · obtain rfl : k = 20 := by omega
    rw [show nI fd + 20 = nI (fd + 20) from nI_add fd 20]
    rintro u rfl
    exact h t h1 h2
  · refine pk_le 4 k (fun z1 => pk_le 8 k (fun z2 => pk_le 12 k (fun z3 => pk_le 16 k (fun z4 => ?_) (fun z4 => ?_)) (fun z3 => ?_)) (fun z2 => ?_)) (fun z1 => ?_)
    · exact step a5 z (by unfold pck; rw [if_neg (by omega), if_neg (by omega), if_neg (by omega), if_neg (by omega)])
    · exact step a4 z (by unfold pck; rw [if_neg (by omega), if_neg (by omega), if_neg (by omega), if_pos z4])
    · exact step a3 z (by unfold pck; rw [if_neg (by omega), if_neg (by omega), if_pos z3])
    · exact step a2 z (by unfold pck; rw [if_neg (by omega), if_pos z2])
    · exact step a1 z (by unfold pck; rw [if_pos z1])
set_option maxHeartbeats 2000000 in
theorem cs_200 {L : Nat} {xs : Nat → Int32} {rf : Nat → Int32} {rm : Nat → Int32} {rl : Nat → Int32} {ru : Nat → Int32} {rn : Nat → Nat} {rv : Nat → Nat → Int32} {now_bound : Int32} {now_modulus : Int32} {now_seed : Int32} {now_functions : Int32} {now_names : Nat → Int32} {now_kinds : Nat → Int32} {now_firsts : Nat → Int32} {now_seconds : Nat → Int32} {now_degrees : Nat → Int32} {now_colours : Nat → Int32} {now_needs : Nat → Int32} {now_numbers : Nat → Int32} {reader_lines : Int32} {reader_faulty : Int32} {reader_place : Int32} {reader_token : Int32} {reader_toldOnce : Int32} {reader_tape_fed : Int32} {reader_tape_length : Int32} {reader_tape_tokens : Int32} {reader_tape_at : Int32} {reader_tape_bytes : Nat → Int32} {reader_tape_sorts : Nat → Int32} {reader_tape_starts : Nat → Int32} {reader_tape_contents : Nat → Int32} {reader_plan_bound : Int32} {reader_plan_modulus : Int32} {reader_plan_seed : Int32} {reader_plan_functions : Int32} {reader_plan_names : Nat → Int32} {reader_plan_kinds : Nat → Int32} {reader_plan_firsts : Nat → Int32} {reader_plan_seconds : Nat → Int32} {reader_plan_degrees : Nat → Int32} {reader_plan_colours : Nat → Int32} {reader_plan_needs : Nat → Int32} {reader_plan_numbers : Nat → Int32} {changes_size : Int32} {changes_top : Int32} {changes_kinds : Nat → Int32} {changes_cells : Nat → Int32} {changes_ones : Nat → Int32} {changes_others : Nat → Int32} {image_kept : Int32} {image_bound : Int32} {image_modulus : Int32} {image_numbers : Nat → Int32} {rows_turn : Int32} {rows_sieve_least : Nat → Int32} {rows_powers_ofPrime : Nat → Int32} {rows_powers_cells : Nat → Int32} {couples_x : Int32} {couples_root : Int32} {couples_small : Nat → Int64} {couples_great : Nat → Int64} {n_rows_sieve_least : Nat} {M_thrown : Int32} {M_taped : Int32} {M_lines : Int32} {M_size : Int32} {M_atF : Int32} {M_place : Int32} {M_sort : Int32} {M_value : Int32} {M_fault : Int32} {M_faultPlace : Int32} {M_lastFault : Int32} {M_lastPlace : Int32} {M_undoable : Int32} {M_hasImage : Int32} {M_rowOf : Int32} {M_areSums : Int32} {M_isSieved : Int32} {M_blocks : Int32} {M_drawn : Int32} {M_tape : Nat → Int32} {M_number : Nat → Int32} {M_isTold : Nat → Int32} {M_name : Nat → Int32} {M_sortOf : Nat → Int32} {M_first : Nat → Int32} {M_second : Nat → Int32} {M_degree : Nat → Int32} {M_colours : Nat → Int32} {M_signBy : Nat → Int32} {M_own : Nat → Int32} {M_sF : Nat → Int32} {M_kept : Nat → Int32} {M_power : Nat → Int64} {M_table : Nat → Int64} {M_marks : Nat → Int32} {M_row : Nat → Int32} {M_lastOf : Nat → Int32} {M_inBlock : Nat → Int64} {M_atQuotient : Nat → Int64} {M_small : Nat → Int64} {out : Nat → Int64} {x4 : Int32} {kc : Nat} {ks : Nat} {Nx : (Nat → Int32) → (Nat → Int32) → (Nat → Int32) → (Nat → Int32) → (Nat → Nat) → (Nat → Nat → Int32) → (Int32) → (Int32) → (Int32) → (Int32) → (Nat → Int32) → (Nat → Int32) → (Nat → Int32) → (Nat → Int32) → (Nat → Int32) → (Nat → Int32) → (Nat → Int32) → (Nat → Int32) → (Int32) → (Int32) → (Int32) → (Int32) → (Int32) → (Int32) → (Int32) → (Int32) → (Int32) → (Nat → Int32) → (Nat → Int32) → (Nat → Int32) → (Nat → Int32) → (Int32) → (Int32) → (Int32) → (Int32) → (Nat → Int32) → (Nat → Int32) → (Nat → Int32) → (Nat → Int32) → (Nat → Int32) → (Nat → Int32) → (Nat → Int32) → (Nat → Int32) → (Int32) → (Int32) → (Nat → Int32) → (Nat → Int32) → (Nat → Int32) → (Nat → Int32) → (Int32) → (Int32) → (Int32) → (Nat → Int32) → (Int32) → (Nat → Int32) → (Nat → Int32) → (Nat → Int32) → (Int32) → (Int32) → (Nat → Int64) → (Nat → Int64) → (Nat) → (Int32) → (Int32) → (Int32) → (Int32) → (Int32) → (Int32) → (Int32) → (Int32) → (Int32) → (Int32) → (Int32) → (Int32) → (Int32) → (Int32) → (Int32) → (Int32) → (Int32) → (Int32) → (Int32) → (Nat → Int32) → (Nat → Int32) → (Nat → Int32) → (Nat → Int32) → (Nat → Int32) → (Nat → Int32) → (Nat → Int32) → (Nat → Int32) → (Nat → Int32) → (Nat → Int32) → (Nat → Int32) → (Nat → Int32) → (Nat → Int32) → (Nat → Int64) → (Nat → Int64) → (Nat → Int32) → (Nat → Int32) → (Nat → Int32) → (Nat → Int64) → (Nat → Int64) → (Nat → Int64) → (Nat → Int64) → (Int32) → (Nat) → (Nat) → Prop} {i Bd M Sd F fd T cx cr sz tp : Nat} (hpos : posR L i T x4 kc ks n_rows_sieve_least rn) (h6 : 6 * i + 6 ≤ L) (hpl : plR Bd M Sd F now_bound now_modulus now_seed now_functions now_names now_kinds now_firsts now_seconds now_degrees now_colours now_needs now_numbers M_number M_name M_sortOf M_first M_second M_degree M_colours M_signBy M_sF) (htp : tpR fd reader_tape_fed reader_tape_bytes M_taped M_tape) (hfl : (reader_faulty = M_lastFault ∧ reader_place = M_lastPlace)) (hch : chR sz tp changes_size changes_top changes_kinds changes_cells changes_ones changes_others M_undoable M_kept M_sF) (him : imR F image_kept image_bound image_modulus image_numbers M_hasImage M_kept) (hro : roR T F n_rows_sieve_least now_kinds now_firsts now_seconds now_colours now_numbers rows_turn rf rm rl ru rn rv rows_sieve_least rows_powers_cells rows_powers_ofPrime) (hcp : (couples_x = nI cx ∧ couples_root = nI cr ∧ cpOK cx cr couples_great couples_small)) (hmo : moR F now_kinds now_firsts now_seconds now_colours now_numbers M Bd M_isSieved M_rowOf M_areSums M_marks M_row) (hN : ∀ (rf2 : Nat → Int32) (rm2 : Nat → Int32) (rl2 : Nat → Int32) (ru2 : Nat → Int32) (rn2 : Nat → Nat) (rv2 : Nat → Nat → Int32) (now_bound2 : Int32) (now_modulus2 : Int32) (now_seed2 : Int32) (now_functions2 : Int32) (now_names2 : Nat → Int32) (now_kinds2 : Nat → Int32) (now_firsts2 : Nat → Int32) (now_seconds2 : Nat → Int32) (now_degrees2 : Nat → Int32) (now_colours2 : Nat → Int32) (now_needs2 : Nat → Int32) (now_numbers2 : Nat → Int32) (reader_lines2 : Int32) (reader_faulty2 : Int32) (reader_place2 : Int32) (reader_token2 : Int32) (reader_toldOnce2 : Int32) (reader_tape_fed2 : Int32) (reader_tape_length2 : Int32) (reader_tape_tokens2 : Int32) (reader_tape_at2 : Int32) (reader_tape_bytes2 : Nat → Int32) (reader_tape_sorts2 : Nat → Int32) (reader_tape_starts2 : Nat → Int32) (reader_tape_contents2 : Nat → Int32) (reader_plan_bound2 : Int32) (reader_plan_modulus2 : Int32) (reader_plan_seed2 : Int32) (reader_plan_functions2 : Int32) (reader_plan_names2 : Nat → Int32) (reader_plan_kinds2 : Nat → Int32) (reader_plan_firsts2 : Nat → Int32) (reader_plan_seconds2 : Nat → Int32) (reader_plan_degrees2 : Nat → Int32) (reader_plan_colours2 : Nat → Int32) (reader_plan_needs2 : Nat → Int32) (reader_plan_numbers2 : Nat → Int32) (changes_size2 : Int32) (changes_top2 : Int32) (changes_kinds2 : Nat → Int32) (changes_cells2 : Nat → Int32) (changes_ones2 : Nat → Int32) (changes_others2 : Nat → Int32) (image_kept2 : Int32) (image_bound2 : Int32) (image_modulus2 : Int32) (image_numbers2 : Nat → Int32) (rows_turn2 : Int32) (rows_sieve_least2 : Nat → Int32) (rows_powers_ofPrime2 : Nat → Int32) (rows_powers_cells2 : Nat → Int32) (couples_x2 : Int32) (couples_root2 : Int32) (couples_small2 : Nat → Int64) (couples_great2 : Nat → Int64) (n_rows_sieve_least2 : Nat) (M_thrown2 : Int32) (M_taped2 : Int32) (M_lines2 : Int32) (M_size2 : Int32) (M_atF2 : Int32) (M_place2 : Int32) (M_sort2 : Int32) (M_value2 : Int32) (M_fault2 : Int32) (M_faultPlace2 : Int32) (M_lastFault2 : Int32) (M_lastPlace2 : Int32) (M_undoable2 : Int32) (M_hasImage2 : Int32) (M_rowOf2 : Int32) (M_areSums2 : Int32) (M_isSieved2 : Int32) (M_blocks2 : Int32) (M_drawn2 : Int32) (M_tape2 : Nat → Int32) (M_number2 : Nat → Int32) (M_isTold2 : Nat → Int32) (M_name2 : Nat → Int32) (M_sortOf2 : Nat → Int32) (M_first2 : Nat → Int32) (M_second2 : Nat → Int32) (M_degree2 : Nat → Int32) (M_colours2 : Nat → Int32) (M_signBy2 : Nat → Int32) (M_own2 : Nat → Int32) (M_sF2 : Nat → Int32) (M_kept2 : Nat → Int32) (M_power2 : Nat → Int64) (M_table2 : Nat → Int64) (M_marks2 : Nat → Int32) (M_row2 : Nat → Int32) (M_lastOf2 : Nat → Int32) (M_inBlock2 : Nat → Int64) (M_atQuotient2 : Nat → Int64) (M_small2 : Nat → Int64) (out2 : Nat → Int64) (x42 : Int32) (kc2 : Nat) (ks2 : Nat), invL L rf2 rm2 rl2 ru2 rn2 rv2 now_bound2 now_modulus2 now_seed2 now_functions2 now_names2 now_kinds2 now_firsts2 now_seconds2 now_degrees2 now_colours2 now_needs2 now_numbers2 reader_lines2 reader_faulty2 reader_place2 reader_token2 reader_toldOnce2 reader_tape_fed2 reader_tape_length2 reader_tape_tokens2 reader_tape_at2 reader_tape_bytes2 reader_tape_sorts2 reader_tape_starts2 reader_tape_contents2 reader_plan_bound2 reader_plan_modulus2 reader_plan_seed2 reader_plan_functions2 reader_plan_names2 reader_plan_kinds2 reader_plan_firsts2 reader_plan_seconds2 reader_plan_degrees2 reader_plan_colours2 reader_plan_needs2 reader_plan_numbers2 changes_size2 changes_top2 changes_kinds2 changes_cells2 changes_ones2 changes_others2 image_kept2 image_bound2 image_modulus2 image_numbers2 rows_turn2 rows_sieve_least2 rows_powers_ofPrime2 rows_powers_cells2 couples_x2 couples_root2 couples_small2 couples_great2 n_rows_sieve_least2 M_thrown2 M_taped2 M_lines2 M_size2 M_atF2 M_place2 M_sort2 M_value2 M_fault2 M_faultPlace2 M_lastFault2 M_lastPlace2 M_undoable2 M_hasImage2 M_rowOf2 M_areSums2 M_isSieved2 M_blocks2 M_drawn2 M_tape2 M_number2 M_isTold2 M_name2 M_sortOf2 M_first2 M_second2 M_degree2 M_colours2 M_signBy2 M_own2 M_sF2 M_kept2 M_power2 M_table2 M_marks2 M_row2 M_lastOf2 M_inBlock2 M_atQuotient2 M_small2 out2 x42 kc2 ks2 → meaL L rf2 rm2 rl2 ru2 rn2 rv2 now_bound2 now_modulus2 now_seed2 now_functions2 now_names2 now_kinds2 now_firsts2 now_seconds2 now_degrees2 now_colours2 now_needs2 now_numbers2 reader_lines2 reader_faulty2 reader_place2 reader_token2 reader_toldOnce2 reader_tape_fed2 reader_tape_length2 reader_tape_tokens2 reader_tape_at2 reader_tape_bytes2 reader_tape_sorts2 reader_tape_starts2 reader_tape_contents2 reader_plan_bound2 reader_plan_modulus2 reader_plan_seed2 reader_plan_functions2 reader_plan_names2 reader_plan_kinds2 reader_plan_firsts2 reader_plan_seconds2 reader_plan_degrees2 reader_plan_colours2 reader_plan_needs2 reader_plan_numbers2 changes_size2 changes_top2 changes_kinds2 changes_cells2 changes_ones2 changes_others2 image_kept2 image_bound2 image_modulus2 image_numbers2 rows_turn2 rows_sieve_least2 rows_powers_ofPrime2 rows_powers_cells2 couples_x2 couples_root2 couples_small2 couples_great2 n_rows_sieve_least2 M_thrown2 M_taped2 M_lines2 M_size2 M_atF2 M_place2 M_sort2 M_value2 M_fault2 M_faultPlace2 M_lastFault2 M_lastPlace2 M_undoable2 M_hasImage2 M_rowOf2 M_areSums2 M_isSieved2 M_blocks2 M_drawn2 M_tape2 M_number2 M_isTold2 M_name2 M_sortOf2 M_first2 M_second2 M_degree2 M_colours2 M_signBy2 M_own2 M_sF2 M_kept2 M_power2 M_table2 M_marks2 M_row2 M_lastOf2 M_inBlock2 M_atQuotient2 M_small2 out2 x42 kc2 ks2 < meaL L rf rm rl ru rn rv now_bound now_modulus now_seed now_functions now_names now_kinds now_firsts now_seconds now_degrees now_colours now_needs now_numbers reader_lines reader_faulty reader_place reader_token reader_toldOnce reader_tape_fed reader_tape_length reader_tape_tokens reader_tape_at reader_tape_bytes reader_tape_sorts reader_tape_starts reader_tape_contents reader_plan_bound reader_plan_modulus reader_plan_seed reader_plan_functions reader_plan_names reader_plan_kinds reader_plan_firsts reader_plan_seconds reader_plan_degrees reader_plan_colours reader_plan_needs reader_plan_numbers changes_size changes_top changes_kinds changes_cells changes_ones changes_others image_kept image_bound image_modulus image_numbers rows_turn rows_sieve_least rows_powers_ofPrime rows_powers_cells couples_x couples_root couples_small couples_great n_rows_sieve_least M_thrown M_taped M_lines M_size M_atF M_place M_sort M_value M_fault M_faultPlace M_lastFault M_lastPlace M_undoable M_hasImage M_rowOf M_areSums M_isSieved M_blocks M_drawn M_tape M_number M_isTold M_name M_sortOf M_first M_second M_degree M_colours M_signBy M_own M_sF M_kept M_power M_table M_marks M_row M_lastOf M_inBlock M_atQuotient M_small out x4 kc ks → Nx rf2 rm2 rl2 ru2 rn2 rv2 now_bound2 now_modulus2 now_seed2 now_functions2 now_names2 now_kinds2 now_firsts2 now_seconds2 now_degrees2 now_colours2 now_needs2 now_numbers2 reader_lines2 reader_faulty2 reader_place2 reader_token2 reader_toldOnce2 reader_tape_fed2 reader_tape_length2 reader_tape_tokens2 reader_tape_at2 reader_tape_bytes2 reader_tape_sorts2 reader_tape_starts2 reader_tape_contents2 reader_plan_bound2 reader_plan_modulus2 reader_plan_seed2 reader_plan_functions2 reader_plan_names2 reader_plan_kinds2 reader_plan_firsts2 reader_plan_seconds2 reader_plan_degrees2 reader_plan_colours2 reader_plan_needs2 reader_plan_numbers2 changes_size2 changes_top2 changes_kinds2 changes_cells2 changes_ones2 changes_others2 image_kept2 image_bound2 image_modulus2 image_numbers2 rows_turn2 rows_sieve_least2 rows_powers_ofPrime2 rows_powers_cells2 couples_x2 couples_root2 couples_small2 couples_great2 n_rows_sieve_least2 M_thrown2 M_taped2 M_lines2 M_size2 M_atF2 M_place2 M_sort2 M_value2 M_fault2 M_faultPlace2 M_lastFault2 M_lastPlace2 M_undoable2 M_hasImage2 M_rowOf2 M_areSums2 M_isSieved2 M_blocks2 M_drawn2 M_tape2 M_number2 M_isTold2 M_name2 M_sortOf2 M_first2 M_second2 M_degree2 M_colours2 M_signBy2 M_own2 M_sF2 M_kept2 M_power2 M_table2 M_marks2 M_row2 M_lastOf2 M_inBlock2 M_atQuotient2 M_small2 out2 x42 kc2 ks2) : wB_200 L xs rf rm rl ru rn rv now_bound now_modulus now_seed now_functions now_names now_kinds now_firsts now_seconds now_degrees now_colours now_needs now_numbers reader_lines reader_faulty reader_place reader_token reader_toldOnce reader_tape_fed reader_tape_length reader_tape_tokens reader_tape_at reader_tape_bytes reader_tape_sorts reader_tape_starts reader_tape_contents reader_plan_bound reader_plan_modulus reader_plan_seed reader_plan_functions reader_plan_names reader_plan_kinds reader_plan_firsts reader_plan_seconds reader_plan_degrees reader_plan_colours reader_plan_needs reader_plan_numbers changes_size changes_top changes_kinds changes_cells changes_ones changes_others image_kept image_bound image_modulus image_numbers rows_turn rows_sieve_least rows_powers_ofPrime rows_powers_cells couples_x couples_root couples_small couples_great n_rows_sieve_least M_thrown M_taped M_lines M_size M_atF M_place M_sort M_value M_fault M_faultPlace M_lastFault M_lastPlace M_undoable M_hasImage M_rowOf M_areSums M_isSieved M_blocks M_drawn M_tape M_number M_isTold M_name M_sortOf M_first M_second M_degree M_colours M_signBy M_own M_sF M_kept M_power M_table M_marks M_row M_lastOf M_inBlock M_atQuotient M_small out x4 kc ks Nx := by
  unfold wB_200
  have hpl2 := hpl
  obtain ⟨⟨hB1, hB2, hM1, hM2, hSd, hF1, hF2⟩, ⟨rfl, rfl, rfl, rfl⟩, hw, hn, hR, ⟨hs0, hs1, hnu2, hnu3⟩, hnam⟩ := hpl2
  have hro2 := hro
  obtain ⟨rfl, hpE, hpV, ⟨hL1, hL2, hsv⟩, hpw⟩ := hro2
  have hmo2 := hmo
  obtain ⟨hiS, hmk, hrc⟩ := hmo2
  have i1 := pos_in 1 hpos.1 h6 hpos.2.2.1 (by omega)
  have i2 := pos_in 2 hpos.1 h6 hpos.2.2.1 (by omega)
  have i3 := pos_in 3 hpos.1 h6 hpos.2.2.1 (by omega)
  have i4 := pos_in 4 hpos.1 h6 hpos.2.2.1 (by omega)
  have i5 := pos_in 5 hpos.1 h6 hpos.2.2.1 (by omega)
  generalize xs (x4 + 1).toNatClampNeg = a1
  generalize xs (x4 + 2).toNatClampNeg = a2
  generalize xs (x4 + 3).toNatClampNeg = a3
  generalize xs (x4 + 4).toNatClampNeg = a4
  generalize xs (x4 + 5).toNatClampNeg = a5
  refine ⟨i1, i2, i3, i4, i5, _, ?_, fun _ _ _ h => h⟩
  have htp2 := htp
  obtain ⟨ht1, rfl, ht3, ht4⟩ := htp2
  unfold wX10_feed
  refine ⟨_, ?_, fun _ h => h⟩
  unfold wX9_hasRoom
  rw [show nI fd + 20 = nI (fd + 20) from nI_add fd 20]
  refine pk_lt 700 (fd + 20) (fun z => b0 ?_) (fun z => b1 ?_)
  · refine ⟨i1, i2, i3, i4, i5, _, ?_, fun _ _ _ _ h => h⟩
    unfold wX11_feed
    rw [ht3]
    exact pk_le fd 680 (fun w => by omega) (fun _ => eqans rfl (hN _ _ _ _ _ _ _ _ _ _ _ _ _ _ _ _ _ _ _ _ _ _ _ _ _ _ _ _ _ _ _ _ _ _ _ _ _ _ _ _ _ _ _ _ _ _ _ _ _ _ _ _ _ _ _ _ _ _ _ _ _ _ _ _ _ _ _ _ _ _ _ _ _ _ _ _ _ _ _ _ _ _ _ _ _ _ _ _ _ _ _ _ _ _ _ _ _ _ _ _ _ _ _ _ _ _ ⟨i + 1, Bd, M, Sd, F, fd, T, cx, cr, sz, tp, pos_0 hpos h6, hpl, ⟨ht1, rfl, rfl, ht4⟩, hfl, hch, him, hro, hcp, hmo⟩ (pos_mea hpos h6)))
  · refine ⟨_, s_append4 (by omega) (fun b1 p1 q1 => ?_), fun _ _ h => h⟩
    refine ⟨_, s_append4 (by omega) (fun b2 p2 q2 => ?_), fun _ _ h => h⟩
    refine ⟨_, s_append4 (by omega) (fun b3 p3 q3 => ?_), fun _ _ h => h⟩
    refine ⟨_, s_append4 (by omega) (fun b4 p4 q4 => ?_), fun _ _ h => h⟩
    refine ⟨_, s_append4 (by omega) (fun b5 p5 q5 => ?_), fun _ _ h => h⟩
    refine ⟨i1, i2, i3, i4, i5, _, s_feedM ht3 (by omega) (fun t' r1 r2 => ?_), fun _ _ _ _ h => h⟩
    have efd : fd + 4 + 4 + 4 + 4 + 4 = fd + 20 := by omega
    rw [efd]
    have hb : ∀ i, i < 20 → b5 (fd + i) = byt (pck a1 a2 a3 a4 a5 i) (i % 4) := by
      intro i hi
      unfold pck
      by_cases e1 : i < 4
      · rw [if_pos e1, q5 _ (by omega), q4 _ (by omega), q3 _ (by omega), q2 _ (by omega), p1 i e1, Nat.mod_eq_of_lt e1]
      · rw [if_neg e1]
        by_cases e2 : i < 8
        · rw [if_pos e2, q5 _ (by omega), q4 _ (by omega), q3 _ (by omega), show fd + i = fd + 4 + (i - 4) by omega, p2 (i - 4) (by omega), show i % 4 = i - 4 by omega]
        · rw [if_neg e2]
          by_cases e3 : i < 12
          · rw [if_pos e3, q5 _ (by omega), q4 _ (by omega), show fd + i = fd + 4 + 4 + (i - 8) by omega, p3 (i - 8) (by omega), show i % 4 = i - 8 by omega]
          · rw [if_neg e3]
            by_cases e4 : i < 16
            · rw [if_pos e4, q5 _ (by omega), show fd + i = fd + 4 + 4 + 4 + (i - 12) by omega, p4 (i - 12) (by omega), show i % 4 = i - 12 by omega]
            · rw [if_neg e4, show fd + i = fd + 4 + 4 + 4 + 4 + (i - 16) by omega, p5 (i - 16) (by omega), show i % 4 = i - 16 by omega]
    refine eqans rfl (hN _ _ _ _ _ _ _ _ _ _ _ _ _ _ _ _ _ _ _ _ _ _ _ _ _ _ _ _ _ _ _ _ _ _ _ _ _ _ _ _ _ _ _ _ _ _ _ _ _ _ _ _ _ _ _ _ _ _ _ _ _ _ _ _ _ _ _ _ _ _ _ _ _ _ _ _ _ _ _ _ _ _ _ _ _ _ _ _ _ _ _ _ _ _ _ _ _ _ _ _ _ _ _ _ _ _ ⟨i + 1, Bd, M, Sd, F, fd + 20, T, cx, cr, sz, tp, pos_0 hpos h6, hpl, ⟨by omega, rfl, rfl, fun i hi => ?_⟩, hfl, hch, him, hro, hcp, hmo⟩ (pos_mea hpos h6))
    by_cases e : i < fd
    · rw [q5 i (by omega), q4 i (by omega), q3 i (by omega), q2 i (by omega), q1 i e, r2 i e]
      exact ht4 i e
    · rw [show i = fd + (i - fd) by omega, hb (i - fd) (by omega), r1 (i - fd) (by omega)]
      exact ⟨rfl, byt_c _ _⟩
def dr (d : Nat) : Nat := (d * 1103515245 + 12345) % 2 ^ 31
theorem dr_b (d : Nat) : dr d < 2 ^ 31 := Nat.mod_lt _ (by decide)
def chD (d : Nat) : Nat → Nat
  | 0 => d
  | k + 1 => dr (dr (chD d k))
def plc (B d : Nat) : Nat := ((dr d / 65536 % 32768) * 32768 + dr (dr d) / 65536 % 32768) % B + 1
def chS (v : Nat → Nat) (B d : Nat) : Nat → Nat
  | 0 => 0
  | k + 1 => chS v B d k + v (plc B (chD d k))
theorem chD_b {d : Nat} (h : d < 2 ^ 31) : ∀ k, chD d k < 2 ^ 31
  | 0 => h
  | _ + 1 => dr_b _
theorem chS_b {v : Nat → Nat} {B d M : Nat} (h : ∀ n, v n < M) : ∀ k, chS v B d k ≤ k * M
  | 0 => Nat.zero_le _
  | k + 1 => by
    have h1 := chS_b (B := B) (d := d) h k
    have h2 := h (plc B (chD d k))
    rw [chS, Nat.add_mul, Nat.one_mul]; omega
theorem s_drawAfter {d : Nat} {Q : Int64 → Prop} (hd : d < 2 ^ 31) (h : Q (lN (dr d))) : wX10_drawAfter (lN d) Q := by
  unfold wX10_drawAfter
  rw [show (1103515245 : Int64) = lN 1103515245 from rfl, show (12345 : Int64) = lN 12345 from rfl, lN_mul, lN_add, show (2147483647 : Int64) = lN (2 ^ 31 - 1) from rfl, fb_maskL]
  exact h
theorem s_draw {qth qta qli qsi qat qpl qso qva qfa qfp qlf qlp qun qhi qro qar qiS qbl qdr : Int32} {d : Nat} {Q : Int32 → Int32 → Prop} (hq : qdr = nI d) (h : Q (nI (dr d / 65536 % 32768)) (nI (dr d))) : wX11_draw qth qta qli qsi qat qpl qso qva qfa qfp qlf qlp qun qhi qro qar qiS qbl qdr 32768 Q := by
  unfold wX11_draw
  rw [hq, show (1103515245 : Int32) = nI 1103515245 from rfl, show (12345 : Int32) = nI 12345 from rfl, pk_mul, nI_add, show (2147483647 : Int32) = nI (2 ^ 31 - 1) from rfl, fa_mask]
  rintro x rfl
  refine ⟨by decide, ?_⟩
  have hb := dr_b d
  rw [show (d * 1103515245 + 12345) % 2 ^ 31 = dr d from rfl, show nI (dr d) >>> ((16 : Int32) &&& 31) = nI (dr d / 65536) from pk_shrN hb _ 16 (by decide), show nI (dr d / 65536) - nI (dr d / 65536) / 32768 * 32768 = nI (dr d / 65536 % 32768) from pk_rem (d := 32768) (by omega) (by omega) (by omega)]
  exact h
theorem hi_lo {a b : Nat} : (a / 65536 % 32768) * 32768 + b / 65536 % 32768 < 2 ^ 30 := by
  have h1 : a / 65536 % 32768 < 32768 := Nat.mod_lt _ (by decide)
  have h2 : b / 65536 % 32768 < 32768 := Nat.mod_lt _ (by decide)
  omega
theorem s_hi {d : Nat} (hd : d < 2 ^ 31) : (lN d / 65536) - (lN d / 65536) / 32768 * 32768 = lN (d / 65536 % 32768) := by
  rw [show lN d / 65536 = lN (d / 65536) from pk_lDiv (b := 65536) (by omega) (by omega) (by omega)]
  exact pk_lRem (b := 32768) (by omega) (by omega) (by omega)
theorem c_chance {needs K A B C N cells P : Nat → Int32} {turn : Int32} {Bd M Sd F n2 f d : Nat} {a1 : Int32} {Q : Int32 → (Nat → Int32) → (Nat → Int32) → Prop} (hw : wfp F K A B) (hn : ndp F K A B needs) (hF : F ≤ 12) (hB1 : 1 ≤ Bd) (hB2 : Bd ≤ 200000) (hM : 2 ≤ M) (hM2 : M ≤ 1000003) (hf : f < F) (hpw : pw cells P) (ha : ¬ a1 < (-1)) (hd : d < 2 ^ 31) (hd1 : ¬ a1 = (-1) → a1 = nI d) (hd2 : a1 = (-1) → d = Sd) (hn2 : 1 ≤ n2 ∧ n2 ≤ 100) (h : ∀ cells' P', pw cells' P' → Q (nI (((chS (vV (tv K A B C N M f) M) Bd d n2 : Nat) : Int) % (M : Int)).toNat) cells' P') : wX10_chance (nI Bd) (nI M) (nI Sd) (nI F) turn needs cells P A B K N C a1 (nI n2) (nI f) Q := by
  unfold wX10_chance
  refine br_f ha (pk_lt n2 1 (fun z => by omega) (fun _ => pk_lt 100 n2 (fun z => by omega) (fun _ => ⟨_, has_y (by omega) hf (b1 ?_), fun _ h => h⟩)))
  refine ⟨fun t => t = lN d, ⟨fun e => ?_, fun e => ?_⟩, ?_⟩
  · rw [hd1 e, nI_l hd]
  · rw [← hd2 e, nI_l hd]
  rintro t rfl
  have hv : ∀ n, vV (tv K A B C N M f) M n < M := fun n => vV_lt hM
  refine ⟨fun ce p x y z => ∃ k : Nat, k ≤ n2 ∧ pw ce p ∧ x = lN (chD d k) ∧ y = lN (chS (vV (tv K A B C N M f) M) Bd d k) ∧ z = nI k, fun _ _ _ _ z => 101 - z.toNatClampNeg, ⟨0, by omega, hpw, rfl, rfl, rfl⟩, ?_⟩
  rintro ce p x y z ⟨k, hk, hpw', rfl, rfl, rfl⟩
  have hb := chS_b (B := Bd) (d := d) hv k
  have hkM : k * M ≤ 100 * 1000003 := Nat.mul_le_mul (by omega) hM2
  refine pk_le n2 k (fun z => ?_) (fun z => ?_)
  · obtain rfl : k = n2 := by omega
    refine ⟨_, s_rest hM hM2 ?_, fun _ h => h⟩
    rw [lN_pos (by omega)]
    exact h ce p hpw'
  · have hc := chD_b hd k
    have hc2 := dr_b (chD d k)
    have hc3 := dr_b (dr (chD d k))
    refine ⟨_, s_drawAfter hc ?_, fun _ h => h⟩
    rw [s_hi hc2]
    rintro hi rfl
    refine ⟨_, s_drawAfter hc2 ?_, fun _ h => h⟩
    rw [s_hi hc3, show (32768 : Int64) = lN 32768 from rfl, lN_mul, lN_add]
    rintro dw rfl
    have hl := hi_lo (a := dr (chD d k)) (b := dr (dr (chD d k)))
    refine ⟨_, ?_, fun _ h => h⟩
    unfold wX10_placeIn
    refine pk_le 1 Bd (fun _ => ?_) (fun z => by omega)
    rw [nI_l (by omega), pk_lRem (by omega) (by omega) (by omega), lN_i, nI_1 ((dr (chD d k) / 65536 % 32768 * 32768 + dr (dr (chD d k)) / 65536 % 32768) % Bd)]
    have hpl := Nat.mod_lt (dr (chD d k) / 65536 % 32768 * 32768 + dr (dr (chD d k)) / 65536 % 32768) (show 0 < Bd by omega)
    refine ⟨fun e => by have := (lN_eq (a := Bd) (b := 0) (by omega) (by omega)).mp e; omega, ?_⟩
    refine ⟨_, s_valueAt hw hn hF hM hM2 hf (by omega) (by omega) hpw' (fun cells' P' hpw2 => ?_), fun _ _ _ h => h⟩
    have hv1 := hv (plc Bd (chD d k))
    rw [nI_l (by have := hv ((dr (chD d k) / 65536 % 32768 * 32768 + dr (dr (chD d k)) / 65536 % 32768) % Bd + 1); omega), lN_add, nI_1]
    rintro y2 rfl
    exact ⟨⟨k + 1, by omega, hpw2, rfl, rfl, rfl⟩, ms_up (by omega) (by omega)⟩
theorem m_chance {qth qta qli qsi qat qpl qso qva qfa qfp qlf qlp qun qhi qro qar qiS qbl qdr : Int32} {number so fi se sb sF K A B C N : Nat → Int32} {P table : Nat → Int64} {Bd M Sd F n2 f d : Nat} {a1 : Int32} {Q : Int32 → Int32 → Int32 → (Nat → Int64) → (Nat → Int64) → Prop} (hw : wfp F K A B) (hR : pmR F K A B C N so fi se sb sF) (hs0 : sF 0 = nI Bd) (hs1 : sF 1 = nI M) (hnu2 : number 2 = nI Sd) (hnu3 : number 3 = nI (F - 6)) (hF1 : 6 ≤ F) (hF : F ≤ 12) (hB1 : 1 ≤ Bd) (hB2 : Bd ≤ 200000) (hM : 2 ≤ M) (hM2 : M ≤ 1000003) (hf : f < F) (ha : ¬ a1 < (-1)) (hd : d < 2 ^ 31) (hd1 : ¬ a1 = (-1) → a1 = nI d) (hd2 : a1 = (-1) → d = Sd) (hn2 : 1 ≤ n2 ∧ n2 ≤ 100) (h : ∀ dw P' t', Q (nI (((chS (vV (tv K A B C N M f) M) Bd d n2 : Nat) : Int) % (M : Int)).toNat) 0 dw P' t') : wX11_chance qth qta qli qsi qat qpl qso qva qfa qfp qlf qlp qun qhi qro qar qiS qbl qdr number sF P table so fi se sb a1 (nI n2) (nI f) Q := by
  unfold wX11_chance
  refine br_f ha ⟨_, within_y (a := 1) (b := 100) (by omega) hn2.1 hn2.2 (c1 ⟨_, isF_y hnu3 hF1 hF hf (b1 ?_), fun _ h => h⟩), fun _ h => h⟩
  refine ⟨fun t => t = nI d, ⟨fun e => hd1 e, fun e => ?_⟩, ?_⟩
  · rw [hnu2, hd2 e]
  rintro t rfl
  have hv : ∀ n, vV (tv K A B C N M f) M n < M := fun n => vV_lt hM
  refine ⟨fun ce p x y z => ∃ k : Nat, k ≤ n2 ∧ x = nI (chD d k) ∧ y = lN (chS (vV (tv K A B C N M f) M) Bd d k) ∧ z = nI k, fun _ _ _ _ z => 101 - z.toNatClampNeg, ⟨0, by omega, rfl, rfl, rfl⟩, ?_⟩
  rintro ce p x y z ⟨k, hk, rfl, rfl, rfl⟩
  have hb := chS_b (B := Bd) (d := d) hv k
  have hkM : k * M ≤ 100 * 1000003 := Nat.mul_le_mul (by omega) hM2
  refine pk_le n2 k (fun z => ?_) (fun z => ?_)
  · obtain rfl : k = n2 := by omega
    refine ⟨_, s_restM hs1 hM hM2 ?_, fun _ h => h⟩
    rw [lN_pos (by omega), lN_i]
    exact h _ ce p
  · refine ⟨_, s_draw rfl ?_, fun _ _ h => h⟩
    refine ⟨_, s_draw rfl ?_, fun _ _ h => h⟩
    have hl := hi_lo (a := dr (chD d k)) (b := dr (dr (chD d k)))
    rw [hs0]
    refine ⟨nI_ne0 (by omega) (by omega), ?_⟩
    rw [show (32768 : Int32) = nI 32768 from rfl, pk_mul, nI_add, pk_rem (by omega) (by omega) (by omega), nI_1]
    rintro t2 rfl
    have hpl := Nat.mod_lt (dr (chD d k) / 65536 % 32768 * 32768 + dr (dr (chD d k)) / 65536 % 32768) (show 0 < Bd by omega)
    refine ⟨_, s_valueAtM hw hR hs1 hF hM hM2 hf (by omega) (by omega) (fun P' t' => ?_), fun _ _ _ h => h⟩
    rw [lN_add, nI_1]
    rintro y2 rfl
    exact ⟨⟨k + 1, by omega, rfl, rfl, rfl⟩, ms_up (by omega) (by omega)⟩
set_option maxHeartbeats 2000000 in
theorem cs_1487 {L : Nat} {xs : Nat → Int32} {rf : Nat → Int32} {rm : Nat → Int32} {rl : Nat → Int32} {ru : Nat → Int32} {rn : Nat → Nat} {rv : Nat → Nat → Int32} {now_bound : Int32} {now_modulus : Int32} {now_seed : Int32} {now_functions : Int32} {now_names : Nat → Int32} {now_kinds : Nat → Int32} {now_firsts : Nat → Int32} {now_seconds : Nat → Int32} {now_degrees : Nat → Int32} {now_colours : Nat → Int32} {now_needs : Nat → Int32} {now_numbers : Nat → Int32} {reader_lines : Int32} {reader_faulty : Int32} {reader_place : Int32} {reader_token : Int32} {reader_toldOnce : Int32} {reader_tape_fed : Int32} {reader_tape_length : Int32} {reader_tape_tokens : Int32} {reader_tape_at : Int32} {reader_tape_bytes : Nat → Int32} {reader_tape_sorts : Nat → Int32} {reader_tape_starts : Nat → Int32} {reader_tape_contents : Nat → Int32} {reader_plan_bound : Int32} {reader_plan_modulus : Int32} {reader_plan_seed : Int32} {reader_plan_functions : Int32} {reader_plan_names : Nat → Int32} {reader_plan_kinds : Nat → Int32} {reader_plan_firsts : Nat → Int32} {reader_plan_seconds : Nat → Int32} {reader_plan_degrees : Nat → Int32} {reader_plan_colours : Nat → Int32} {reader_plan_needs : Nat → Int32} {reader_plan_numbers : Nat → Int32} {changes_size : Int32} {changes_top : Int32} {changes_kinds : Nat → Int32} {changes_cells : Nat → Int32} {changes_ones : Nat → Int32} {changes_others : Nat → Int32} {image_kept : Int32} {image_bound : Int32} {image_modulus : Int32} {image_numbers : Nat → Int32} {rows_turn : Int32} {rows_sieve_least : Nat → Int32} {rows_powers_ofPrime : Nat → Int32} {rows_powers_cells : Nat → Int32} {couples_x : Int32} {couples_root : Int32} {couples_small : Nat → Int64} {couples_great : Nat → Int64} {n_rows_sieve_least : Nat} {M_thrown : Int32} {M_taped : Int32} {M_lines : Int32} {M_size : Int32} {M_atF : Int32} {M_place : Int32} {M_sort : Int32} {M_value : Int32} {M_fault : Int32} {M_faultPlace : Int32} {M_lastFault : Int32} {M_lastPlace : Int32} {M_undoable : Int32} {M_hasImage : Int32} {M_rowOf : Int32} {M_areSums : Int32} {M_isSieved : Int32} {M_blocks : Int32} {M_drawn : Int32} {M_tape : Nat → Int32} {M_number : Nat → Int32} {M_isTold : Nat → Int32} {M_name : Nat → Int32} {M_sortOf : Nat → Int32} {M_first : Nat → Int32} {M_second : Nat → Int32} {M_degree : Nat → Int32} {M_colours : Nat → Int32} {M_signBy : Nat → Int32} {M_own : Nat → Int32} {M_sF : Nat → Int32} {M_kept : Nat → Int32} {M_power : Nat → Int64} {M_table : Nat → Int64} {M_marks : Nat → Int32} {M_row : Nat → Int32} {M_lastOf : Nat → Int32} {M_inBlock : Nat → Int64} {M_atQuotient : Nat → Int64} {M_small : Nat → Int64} {out : Nat → Int64} {x4 : Int32} {kc : Nat} {ks : Nat} {Nx : (Nat → Int32) → (Nat → Int32) → (Nat → Int32) → (Nat → Int32) → (Nat → Nat) → (Nat → Nat → Int32) → (Int32) → (Int32) → (Int32) → (Int32) → (Nat → Int32) → (Nat → Int32) → (Nat → Int32) → (Nat → Int32) → (Nat → Int32) → (Nat → Int32) → (Nat → Int32) → (Nat → Int32) → (Int32) → (Int32) → (Int32) → (Int32) → (Int32) → (Int32) → (Int32) → (Int32) → (Int32) → (Nat → Int32) → (Nat → Int32) → (Nat → Int32) → (Nat → Int32) → (Int32) → (Int32) → (Int32) → (Int32) → (Nat → Int32) → (Nat → Int32) → (Nat → Int32) → (Nat → Int32) → (Nat → Int32) → (Nat → Int32) → (Nat → Int32) → (Nat → Int32) → (Int32) → (Int32) → (Nat → Int32) → (Nat → Int32) → (Nat → Int32) → (Nat → Int32) → (Int32) → (Int32) → (Int32) → (Nat → Int32) → (Int32) → (Nat → Int32) → (Nat → Int32) → (Nat → Int32) → (Int32) → (Int32) → (Nat → Int64) → (Nat → Int64) → (Nat) → (Int32) → (Int32) → (Int32) → (Int32) → (Int32) → (Int32) → (Int32) → (Int32) → (Int32) → (Int32) → (Int32) → (Int32) → (Int32) → (Int32) → (Int32) → (Int32) → (Int32) → (Int32) → (Int32) → (Nat → Int32) → (Nat → Int32) → (Nat → Int32) → (Nat → Int32) → (Nat → Int32) → (Nat → Int32) → (Nat → Int32) → (Nat → Int32) → (Nat → Int32) → (Nat → Int32) → (Nat → Int32) → (Nat → Int32) → (Nat → Int32) → (Nat → Int64) → (Nat → Int64) → (Nat → Int32) → (Nat → Int32) → (Nat → Int32) → (Nat → Int64) → (Nat → Int64) → (Nat → Int64) → (Nat → Int64) → (Int32) → (Nat) → (Nat) → Prop} {i Bd M Sd F fd T cx cr sz tp : Nat} (hpos : posR L i T x4 kc ks n_rows_sieve_least rn) (h6 : 6 * i + 6 ≤ L) (hpl : plR Bd M Sd F now_bound now_modulus now_seed now_functions now_names now_kinds now_firsts now_seconds now_degrees now_colours now_needs now_numbers M_number M_name M_sortOf M_first M_second M_degree M_colours M_signBy M_sF) (htp : tpR fd reader_tape_fed reader_tape_bytes M_taped M_tape) (hfl : (reader_faulty = M_lastFault ∧ reader_place = M_lastPlace)) (hch : chR sz tp changes_size changes_top changes_kinds changes_cells changes_ones changes_others M_undoable M_kept M_sF) (him : imR F image_kept image_bound image_modulus image_numbers M_hasImage M_kept) (hro : roR T F n_rows_sieve_least now_kinds now_firsts now_seconds now_colours now_numbers rows_turn rf rm rl ru rn rv rows_sieve_least rows_powers_cells rows_powers_ofPrime) (hcp : (couples_x = nI cx ∧ couples_root = nI cr ∧ cpOK cx cr couples_great couples_small)) (hmo : moR F now_kinds now_firsts now_seconds now_colours now_numbers M Bd M_isSieved M_rowOf M_areSums M_marks M_row) (hN : ∀ (rf2 : Nat → Int32) (rm2 : Nat → Int32) (rl2 : Nat → Int32) (ru2 : Nat → Int32) (rn2 : Nat → Nat) (rv2 : Nat → Nat → Int32) (now_bound2 : Int32) (now_modulus2 : Int32) (now_seed2 : Int32) (now_functions2 : Int32) (now_names2 : Nat → Int32) (now_kinds2 : Nat → Int32) (now_firsts2 : Nat → Int32) (now_seconds2 : Nat → Int32) (now_degrees2 : Nat → Int32) (now_colours2 : Nat → Int32) (now_needs2 : Nat → Int32) (now_numbers2 : Nat → Int32) (reader_lines2 : Int32) (reader_faulty2 : Int32) (reader_place2 : Int32) (reader_token2 : Int32) (reader_toldOnce2 : Int32) (reader_tape_fed2 : Int32) (reader_tape_length2 : Int32) (reader_tape_tokens2 : Int32) (reader_tape_at2 : Int32) (reader_tape_bytes2 : Nat → Int32) (reader_tape_sorts2 : Nat → Int32) (reader_tape_starts2 : Nat → Int32) (reader_tape_contents2 : Nat → Int32) (reader_plan_bound2 : Int32) (reader_plan_modulus2 : Int32) (reader_plan_seed2 : Int32) (reader_plan_functions2 : Int32) (reader_plan_names2 : Nat → Int32) (reader_plan_kinds2 : Nat → Int32) (reader_plan_firsts2 : Nat → Int32) (reader_plan_seconds2 : Nat → Int32) (reader_plan_degrees2 : Nat → Int32) (reader_plan_colours2 : Nat → Int32) (reader_plan_needs2 : Nat → Int32) (reader_plan_numbers2 : Nat → Int32) (changes_size2 : Int32) (changes_top2 : Int32) (changes_kinds2 : Nat → Int32) (changes_cells2 : Nat → Int32) (changes_ones2 : Nat → Int32) (changes_others2 : Nat → Int32) (image_kept2 : Int32) (image_bound2 : Int32) (image_modulus2 : Int32) (image_numbers2 : Nat → Int32) (rows_turn2 : Int32) (rows_sieve_least2 : Nat → Int32) (rows_powers_ofPrime2 : Nat → Int32) (rows_powers_cells2 : Nat → Int32) (couples_x2 : Int32) (couples_root2 : Int32) (couples_small2 : Nat → Int64) (couples_great2 : Nat → Int64) (n_rows_sieve_least2 : Nat) (M_thrown2 : Int32) (M_taped2 : Int32) (M_lines2 : Int32) (M_size2 : Int32) (M_atF2 : Int32) (M_place2 : Int32) (M_sort2 : Int32) (M_value2 : Int32) (M_fault2 : Int32) (M_faultPlace2 : Int32) (M_lastFault2 : Int32) (M_lastPlace2 : Int32) (M_undoable2 : Int32) (M_hasImage2 : Int32) (M_rowOf2 : Int32) (M_areSums2 : Int32) (M_isSieved2 : Int32) (M_blocks2 : Int32) (M_drawn2 : Int32) (M_tape2 : Nat → Int32) (M_number2 : Nat → Int32) (M_isTold2 : Nat → Int32) (M_name2 : Nat → Int32) (M_sortOf2 : Nat → Int32) (M_first2 : Nat → Int32) (M_second2 : Nat → Int32) (M_degree2 : Nat → Int32) (M_colours2 : Nat → Int32) (M_signBy2 : Nat → Int32) (M_own2 : Nat → Int32) (M_sF2 : Nat → Int32) (M_kept2 : Nat → Int32) (M_power2 : Nat → Int64) (M_table2 : Nat → Int64) (M_marks2 : Nat → Int32) (M_row2 : Nat → Int32) (M_lastOf2 : Nat → Int32) (M_inBlock2 : Nat → Int64) (M_atQuotient2 : Nat → Int64) (M_small2 : Nat → Int64) (out2 : Nat → Int64) (x42 : Int32) (kc2 : Nat) (ks2 : Nat), invL L rf2 rm2 rl2 ru2 rn2 rv2 now_bound2 now_modulus2 now_seed2 now_functions2 now_names2 now_kinds2 now_firsts2 now_seconds2 now_degrees2 now_colours2 now_needs2 now_numbers2 reader_lines2 reader_faulty2 reader_place2 reader_token2 reader_toldOnce2 reader_tape_fed2 reader_tape_length2 reader_tape_tokens2 reader_tape_at2 reader_tape_bytes2 reader_tape_sorts2 reader_tape_starts2 reader_tape_contents2 reader_plan_bound2 reader_plan_modulus2 reader_plan_seed2 reader_plan_functions2 reader_plan_names2 reader_plan_kinds2 reader_plan_firsts2 reader_plan_seconds2 reader_plan_degrees2 reader_plan_colours2 reader_plan_needs2 reader_plan_numbers2 changes_size2 changes_top2 changes_kinds2 changes_cells2 changes_ones2 changes_others2 image_kept2 image_bound2 image_modulus2 image_numbers2 rows_turn2 rows_sieve_least2 rows_powers_ofPrime2 rows_powers_cells2 couples_x2 couples_root2 couples_small2 couples_great2 n_rows_sieve_least2 M_thrown2 M_taped2 M_lines2 M_size2 M_atF2 M_place2 M_sort2 M_value2 M_fault2 M_faultPlace2 M_lastFault2 M_lastPlace2 M_undoable2 M_hasImage2 M_rowOf2 M_areSums2 M_isSieved2 M_blocks2 M_drawn2 M_tape2 M_number2 M_isTold2 M_name2 M_sortOf2 M_first2 M_second2 M_degree2 M_colours2 M_signBy2 M_own2 M_sF2 M_kept2 M_power2 M_table2 M_marks2 M_row2 M_lastOf2 M_inBlock2 M_atQuotient2 M_small2 out2 x42 kc2 ks2 → meaL L rf2 rm2 rl2 ru2 rn2 rv2 now_bound2 now_modulus2 now_seed2 now_functions2 now_names2 now_kinds2 now_firsts2 now_seconds2 now_degrees2 now_colours2 now_needs2 now_numbers2 reader_lines2 reader_faulty2 reader_place2 reader_token2 reader_toldOnce2 reader_tape_fed2 reader_tape_length2 reader_tape_tokens2 reader_tape_at2 reader_tape_bytes2 reader_tape_sorts2 reader_tape_starts2 reader_tape_contents2 reader_plan_bound2 reader_plan_modulus2 reader_plan_seed2 reader_plan_functions2 reader_plan_names2 reader_plan_kinds2 reader_plan_firsts2 reader_plan_seconds2 reader_plan_degrees2 reader_plan_colours2 reader_plan_needs2 reader_plan_numbers2 changes_size2 changes_top2 changes_kinds2 changes_cells2 changes_ones2 changes_others2 image_kept2 image_bound2 image_modulus2 image_numbers2 rows_turn2 rows_sieve_least2 rows_powers_ofPrime2 rows_powers_cells2 couples_x2 couples_root2 couples_small2 couples_great2 n_rows_sieve_least2 M_thrown2 M_taped2 M_lines2 M_size2 M_atF2 M_place2 M_sort2 M_value2 M_fault2 M_faultPlace2 M_lastFault2 M_lastPlace2 M_undoable2 M_hasImage2 M_rowOf2 M_areSums2 M_isSieved2 M_blocks2 M_drawn2 M_tape2 M_number2 M_isTold2 M_name2 M_sortOf2 M_first2 M_second2 M_degree2 M_colours2 M_signBy2 M_own2 M_sF2 M_kept2 M_power2 M_table2 M_marks2 M_row2 M_lastOf2 M_inBlock2 M_atQuotient2 M_small2 out2 x42 kc2 ks2 < meaL L rf rm rl ru rn rv now_bound now_modulus now_seed now_functions now_names now_kinds now_firsts now_seconds now_degrees now_colours now_needs now_numbers reader_lines reader_faulty reader_place reader_token reader_toldOnce reader_tape_fed reader_tape_length reader_tape_tokens reader_tape_at reader_tape_bytes reader_tape_sorts reader_tape_starts reader_tape_contents reader_plan_bound reader_plan_modulus reader_plan_seed reader_plan_functions reader_plan_names reader_plan_kinds reader_plan_firsts reader_plan_seconds reader_plan_degrees reader_plan_colours reader_plan_needs reader_plan_numbers changes_size changes_top changes_kinds changes_cells changes_ones changes_others image_kept image_bound image_modulus image_numbers rows_turn rows_sieve_least rows_powers_ofPrime rows_powers_cells couples_x couples_root couples_small couples_great n_rows_sieve_least M_thrown M_taped M_lines M_size M_atF M_place M_sort M_value M_fault M_faultPlace M_lastFault M_lastPlace M_undoable M_hasImage M_rowOf M_areSums M_isSieved M_blocks M_drawn M_tape M_number M_isTold M_name M_sortOf M_first M_second M_degree M_colours M_signBy M_own M_sF M_kept M_power M_table M_marks M_row M_lastOf M_inBlock M_atQuotient M_small out x4 kc ks → Nx rf2 rm2 rl2 ru2 rn2 rv2 now_bound2 now_modulus2 now_seed2 now_functions2 now_names2 now_kinds2 now_firsts2 now_seconds2 now_degrees2 now_colours2 now_needs2 now_numbers2 reader_lines2 reader_faulty2 reader_place2 reader_token2 reader_toldOnce2 reader_tape_fed2 reader_tape_length2 reader_tape_tokens2 reader_tape_at2 reader_tape_bytes2 reader_tape_sorts2 reader_tape_starts2 reader_tape_contents2 reader_plan_bound2 reader_plan_modulus2 reader_plan_seed2 reader_plan_functions2 reader_plan_names2 reader_plan_kinds2 reader_plan_firsts2 reader_plan_seconds2 reader_plan_degrees2 reader_plan_colours2 reader_plan_needs2 reader_plan_numbers2 changes_size2 changes_top2 changes_kinds2 changes_cells2 changes_ones2 changes_others2 image_kept2 image_bound2 image_modulus2 image_numbers2 rows_turn2 rows_sieve_least2 rows_powers_ofPrime2 rows_powers_cells2 couples_x2 couples_root2 couples_small2 couples_great2 n_rows_sieve_least2 M_thrown2 M_taped2 M_lines2 M_size2 M_atF2 M_place2 M_sort2 M_value2 M_fault2 M_faultPlace2 M_lastFault2 M_lastPlace2 M_undoable2 M_hasImage2 M_rowOf2 M_areSums2 M_isSieved2 M_blocks2 M_drawn2 M_tape2 M_number2 M_isTold2 M_name2 M_sortOf2 M_first2 M_second2 M_degree2 M_colours2 M_signBy2 M_own2 M_sF2 M_kept2 M_power2 M_table2 M_marks2 M_row2 M_lastOf2 M_inBlock2 M_atQuotient2 M_small2 out2 x42 kc2 ks2) : wB_1487 L xs rf rm rl ru rn rv now_bound now_modulus now_seed now_functions now_names now_kinds now_firsts now_seconds now_degrees now_colours now_needs now_numbers reader_lines reader_faulty reader_place reader_token reader_toldOnce reader_tape_fed reader_tape_length reader_tape_tokens reader_tape_at reader_tape_bytes reader_tape_sorts reader_tape_starts reader_tape_contents reader_plan_bound reader_plan_modulus reader_plan_seed reader_plan_functions reader_plan_names reader_plan_kinds reader_plan_firsts reader_plan_seconds reader_plan_degrees reader_plan_colours reader_plan_needs reader_plan_numbers changes_size changes_top changes_kinds changes_cells changes_ones changes_others image_kept image_bound image_modulus image_numbers rows_turn rows_sieve_least rows_powers_ofPrime rows_powers_cells couples_x couples_root couples_small couples_great n_rows_sieve_least M_thrown M_taped M_lines M_size M_atF M_place M_sort M_value M_fault M_faultPlace M_lastFault M_lastPlace M_undoable M_hasImage M_rowOf M_areSums M_isSieved M_blocks M_drawn M_tape M_number M_isTold M_name M_sortOf M_first M_second M_degree M_colours M_signBy M_own M_sF M_kept M_power M_table M_marks M_row M_lastOf M_inBlock M_atQuotient M_small out x4 kc ks Nx := by
  unfold wB_1487
  have hpl2 := hpl
  obtain ⟨⟨hB1, hB2, hM1, hM2, hSd, hF1, hF2⟩, ⟨rfl, rfl, rfl, rfl⟩, hw, hn, hR, ⟨hs0, hs1, hnu2, hnu3⟩, hnam⟩ := hpl2
  have hro2 := hro
  obtain ⟨rfl, hpE, hpV, ⟨hL1, hL2, hsv⟩, hpw⟩ := hro2
  have hmo2 := hmo
  obtain ⟨hiS, hmk, hrc⟩ := hmo2
  have i1 := pos_in 1 hpos.1 h6 hpos.2.2.1 (by omega)
  have i2 := pos_in 2 hpos.1 h6 hpos.2.2.1 (by omega)
  have i3 := pos_in 3 hpos.1 h6 hpos.2.2.1 (by omega)
  generalize xs (x4 + 1).toNatClampNeg = a1
  generalize xs (x4 + 2).toNatClampNeg = a2
  generalize xs (x4 + 3).toNatClampNeg = a3
  refine ⟨i1, i2, i3, _, ?_, fun _ _ _ h => h⟩
  by_cases ha : a1 < (-1)
  · unfold wX10_chance
    refine br_t ha ⟨i1, i2, i3, _, ?_, fun _ _ _ _ _ h => h⟩
    unfold wX11_chance
    exact br_t ha (eqans rfl (hN _ _ _ _ _ _ _ _ _ _ _ _ _ _ _ _ _ _ _ _ _ _ _ _ _ _ _ _ _ _ _ _ _ _ _ _ _ _ _ _ _ _ _ _ _ _ _ _ _ _ _ _ _ _ _ _ _ _ _ _ _ _ _ _ _ _ _ _ _ _ _ _ _ _ _ _ _ _ _ _ _ _ _ _ _ _ _ _ _ _ _ _ _ _ _ _ _ _ _ _ _ _ _ _ _ _ ⟨i + 1, Bd, M, Sd, F, fd, T, cx, cr, sz, tp, pos_0 hpos h6, hpl, htp, hfl, hch, him, hro, hcp, hmo⟩ (pos_mea hpos h6)))
  by_cases h2 : ∃ n2 : Nat, (1 ≤ n2 ∧ n2 ≤ 100) ∧ a2 = nI n2
  case neg =>
    have key : ∀ {A B : Prop}, A → (a2 < 1 → A) ∧ (¬ a2 < 1 → ((100 < a2 → A) ∧ (¬ 100 < a2 → B))) := by
      intro A B hA
      refine ⟨fun _ => hA, fun z => ⟨fun _ => hA, fun z2 => ?_⟩⟩
      obtain ⟨n, q1, q2, rfl⟩ := ge_of (k := 1) (by omega) z
      refine absurd ⟨n, ⟨q1, ?_⟩, rfl⟩ h2
      rcases Nat.lt_or_ge 100 n with w | w
      · exact absurd (nI_lt (a := 100) w q2) z2
      · exact w
    unfold wX10_chance
    refine br_f ha (key ⟨i1, i2, i3, _, ?_, fun _ _ _ _ _ h => h⟩)
    unfold wX11_chance
    exact br_f ha ⟨_, within_n (a := 1) (b := 100) (by omega) (by omega) (fun n p q => ne_of h2 n ⟨p, q⟩) (c0 (eqans rfl (hN _ _ _ _ _ _ _ _ _ _ _ _ _ _ _ _ _ _ _ _ _ _ _ _ _ _ _ _ _ _ _ _ _ _ _ _ _ _ _ _ _ _ _ _ _ _ _ _ _ _ _ _ _ _ _ _ _ _ _ _ _ _ _ _ _ _ _ _ _ _ _ _ _ _ _ _ _ _ _ _ _ _ _ _ _ _ _ _ _ _ _ _ _ _ _ _ _ _ _ _ _ _ _ _ _ _ ⟨i + 1, Bd, M, Sd, F, fd, T, cx, cr, sz, tp, pos_0 hpos h6, hpl, htp, hfl, hch, him, hro, hcp, hmo⟩ (pos_mea hpos h6)))), fun _ h => h⟩
  obtain ⟨n2, h2, rfl⟩ := h2
  by_cases h3 : ∃ n3 : Nat, n3 < F ∧ a3 = nI n3
  case neg =>
    unfold wX10_chance
    refine br_f ha (pk_lt n2 1 (fun z => by omega) (fun _ => pk_lt 100 n2 (fun z => by omega) (fun _ => ⟨_, has_n (ne_of h3) (b0 ⟨i1, i2, i3, _, ?_, fun _ _ _ _ _ h => h⟩), fun _ h => h⟩)))
    unfold wX11_chance
    exact br_f ha ⟨_, within_y (a := 1) (b := 100) (by omega) h2.1 h2.2 (c1 ⟨_, isF_n hnu3 hF1 hF2 (ne_of h3) (b0 (eqans rfl (hN _ _ _ _ _ _ _ _ _ _ _ _ _ _ _ _ _ _ _ _ _ _ _ _ _ _ _ _ _ _ _ _ _ _ _ _ _ _ _ _ _ _ _ _ _ _ _ _ _ _ _ _ _ _ _ _ _ _ _ _ _ _ _ _ _ _ _ _ _ _ _ _ _ _ _ _ _ _ _ _ _ _ _ _ _ _ _ _ _ _ _ _ _ _ _ _ _ _ _ _ _ _ _ _ _ _ ⟨i + 1, Bd, M, Sd, F, fd, T, cx, cr, sz, tp, pos_0 hpos h6, hpl, htp, hfl, hch, him, hro, hcp, hmo⟩ (pos_mea hpos h6)))), fun _ h => h⟩), fun _ h => h⟩
  obtain ⟨n3, h3, rfl⟩ := h3
  obtain ⟨d, hd, hd1, hd2⟩ : ∃ d : Nat, d < 2 ^ 31 ∧ (¬ a1 = (-1) → a1 = nI d) ∧ (a1 = (-1) → d = Sd) := by
    by_cases e : a1 = -1
    · exact ⟨Sd, by omega, fun w => absurd e w, fun _ => rfl⟩
    · have : ¬ a1 < 0 := fun w => by
        rw [fa_lt] at w ha
        rw [fa_eq] at e
        rw [show (0 : Int32).toInt = 0 from by decide] at w
        rw [show (-1 : Int32).toInt = -1 from by decide] at ha e
        omega
      obtain ⟨n, q1, q2⟩ := nI_of this
      exact ⟨n, q1, fun _ => q2, fun w => absurd w e⟩
  refine c_chance hw hn hF2 hB1 hB2 hM1 hM2 h3 hpw ha hd hd1 hd2 h2 (fun cells' P' hpw' => ?_)
  refine ⟨i1, i2, i3, _, m_chance hw hR hs0 hs1 hnu2 hnu3 hF1 hF2 hB1 hB2 hM1 hM2 h3 ha hd hd1 hd2 h2 (fun dw P2 t2 => ?_), fun _ _ _ _ _ h => h⟩
  exact eqans rfl (hN _ _ _ _ _ _ _ _ _ _ _ _ _ _ _ _ _ _ _ _ _ _ _ _ _ _ _ _ _ _ _ _ _ _ _ _ _ _ _ _ _ _ _ _ _ _ _ _ _ _ _ _ _ _ _ _ _ _ _ _ _ _ _ _ _ _ _ _ _ _ _ _ _ _ _ _ _ _ _ _ _ _ _ _ _ _ _ _ _ _ _ _ _ _ _ _ _ _ _ _ _ _ _ _ _ _ ⟨i + 1, Bd, M, Sd, F, fd, T, cx, cr, sz, tp, pos_0 hpos h6, hpl, htp, hfl, hch, him, ⟨rfl, hpE, hpV, ⟨hL1, hL2, hsv⟩, hpw'⟩, hcp, hmo⟩ (pos_mea hpos h6))
