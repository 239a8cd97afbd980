/-! PURE: sums over blocks -/
theorem bk_all {x : Nat} (hx : x ≤ 200000) : (∀ i, i < qT x (rt x) → bL x i < x) ∧ bL x (qT x (rt x)) = x ∧ qT x (rt x) ≤ 894 := by
  have hr := rt_s x
  have hb := qT_b hx hr.1 hr.2
  refine ⟨fun i hi => (bL_q (rt_0 hr.2 (by
    rcases Nat.eq_zero_or_pos x with z | z
    · have := hb.2.2 z; omega
    · exact z)) hr.1 hr.2 hi).2.2, ?_, hb.1⟩
  rcases Nat.eq_zero_or_pos x with z | z
  · rw [hb.2.2 z, z]; rfl
  · exact bL_T (rt_0 hr.2 z) hr.1 hr.2
theorem bk_mx {x i : Nat} (hx : x ≤ 200000) (h : bL x i < x) : (if nI (bL x i + 1) < nI (x / (x / (bL x i + 1))) then nI (x / (x / (bL x i + 1))) else nI (bL x i + 1)) = nI (bL x (i + 1)) := by
  have hu := bL_up h
  have e : x / (x / (bL x i + 1)) = bL x (i + 1) := rfl
  rw [e]
  by_cases c : bL x i + 1 < bL x (i + 1)
  · rw [if_pos (nI_lt c (by omega))]
  · rw [if_neg (nI_nlt (by omega) (by omega))]; congr 1; omega
theorem bk_q {x i : Nat} (h : bL x i < x) : x / bL x (i + 1) = x / (bL x i + 1) := dd_eq (by omega) h
theorem ru_no {T k k1 : Nat} {ru : Nat → Int32} {rn : Nat → Nat} (hT : T < 2 ^ 30) (hk : k < 4) (h1 : ru k1 = nI (T + 1)) (ho : ∀ j, j ≠ k1 → j < 4 → ∃ u, u ≤ T ∧ ru j = nI u) (hm : ∀ j, j < 4 → ru k ≤ ru j) : k ≠ k1 := by
  rintro rfl
  have : ∃ j, j < 4 ∧ j ≠ k := by
    rcases Nat.eq_zero_or_pos k with z | z
    · exact ⟨1, by omega, by omega⟩
    · exact ⟨0, by omega, by omega⟩
  obtain ⟨j, hj, hne⟩ := this
  obtain ⟨u, hu, e⟩ := ho j hne hj
  have := hm j hj
  rw [h1, e] at this
  exact nI_ge (a := u) (b := T + 1) (by omega) (by omega) this
set_option maxHeartbeats 2000000 in
theorem cs_928 {L : Nat} {xs : Nat → Int32} {rf : Nat → Int32} {rm : Nat → Int32} {rl : Nat → Int32} {ru : Nat → Int32} {rn : Nat → Nat} {rv : Nat → Nat → Int32} {now_bound : Int32} {now_modulus : Int32} {now_seed : Int32} {now_functions : Int32} {now_names : Nat → Int32} {now_kinds : Nat → Int32} {now_firsts : Nat → Int32} {now_seconds : Nat → Int32} {now_degrees : Nat → Int32} {now_colours : Nat → Int32} {now_needs : Nat → Int32} {now_numbers : Nat → Int32} {reader_lines : Int32} {reader_faulty : Int32} {reader_place : Int32} {reader_token : Int32} {reader_toldOnce : Int32} {reader_tape_fed : Int32} {reader_tape_length : Int32} {reader_tape_tokens : Int32} {reader_tape_at : Int32} {reader_tape_bytes : Nat → Int32} {reader_tape_sorts : Nat → Int32} {reader_tape_starts : Nat → Int32} {reader_tape_contents : Nat → Int32} {reader_plan_bound : Int32} {reader_plan_modulus : Int32} {reader_plan_seed : Int32} {reader_plan_functions : Int32} {reader_plan_names : Nat → Int32} {reader_plan_kinds : Nat → Int32} {reader_plan_firsts : Nat → Int32} {reader_plan_seconds : Nat → Int32} {reader_plan_degrees : Nat → Int32} {reader_plan_colours : Nat → Int32} {reader_plan_needs : Nat → Int32} {reader_plan_numbers : Nat → Int32} {changes_size : Int32} {changes_top : Int32} {changes_kinds : Nat → Int32} {changes_cells : Nat → Int32} {changes_ones : Nat → Int32} {changes_others : Nat → Int32} {image_kept : Int32} {image_bound : Int32} {image_modulus : Int32} {image_numbers : Nat → Int32} {rows_turn : Int32} {rows_sieve_least : Nat → Int32} {rows_powers_ofPrime : Nat → Int32} {rows_powers_cells : Nat → Int32} {couples_x : Int32} {couples_root : Int32} {couples_small : Nat → Int64} {couples_great : Nat → Int64} {n_rows_sieve_least : Nat} {M_thrown : Int32} {M_taped : Int32} {M_lines : Int32} {M_size : Int32} {M_atF : Int32} {M_place : Int32} {M_sort : Int32} {M_value : Int32} {M_fault : Int32} {M_faultPlace : Int32} {M_lastFault : Int32} {M_lastPlace : Int32} {M_undoable : Int32} {M_hasImage : Int32} {M_rowOf : Int32} {M_areSums : Int32} {M_isSieved : Int32} {M_blocks : Int32} {M_drawn : Int32} {M_tape : Nat → Int32} {M_number : Nat → Int32} {M_isTold : Nat → Int32} {M_name : Nat → Int32} {M_sortOf : Nat → Int32} {M_first : Nat → Int32} {M_second : Nat → Int32} {M_degree : Nat → Int32} {M_colours : Nat → Int32} {M_signBy : Nat → Int32} {M_own : Nat → Int32} {M_sF : Nat → Int32} {M_kept : Nat → Int32} {M_power : Nat → Int64} {M_table : Nat → Int64} {M_marks : Nat → Int32} {M_row : Nat → Int32} {M_lastOf : Nat → Int32} {M_inBlock : Nat → Int64} {M_atQuotient : Nat → Int64} {M_small : Nat → Int64} {out : Nat → Int64} {x4 : Int32} {kc : Nat} {ks : Nat} {Nx : (Nat → Int32) → (Nat → Int32) → (Nat → Int32) → (Nat → Int32) → (Nat → Nat) → (Nat → Nat → Int32) → (Int32) → (Int32) → (Int32) → (Int32) → (Nat → Int32) → (Nat → Int32) → (Nat → Int32) → (Nat → Int32) → (Nat → Int32) → (Nat → Int32) → (Nat → Int32) → (Nat → Int32) → (Int32) → (Int32) → (Int32) → (Int32) → (Int32) → (Int32) → (Int32) → (Int32) → (Int32) → (Nat → Int32) → (Nat → Int32) → (Nat → Int32) → (Nat → Int32) → (Int32) → (Int32) → (Int32) → (Int32) → (Nat → Int32) → (Nat → Int32) → (Nat → Int32) → (Nat → Int32) → (Nat → Int32) → (Nat → Int32) → (Nat → Int32) → (Nat → Int32) → (Int32) → (Int32) → (Nat → Int32) → (Nat → Int32) → (Nat → Int32) → (Nat → Int32) → (Int32) → (Int32) → (Int32) → (Nat → Int32) → (Int32) → (Nat → Int32) → (Nat → Int32) → (Nat → Int32) → (Int32) → (Int32) → (Nat → Int64) → (Nat → Int64) → (Nat) → (Int32) → (Int32) → (Int32) → (Int32) → (Int32) → (Int32) → (Int32) → (Int32) → (Int32) → (Int32) → (Int32) → (Int32) → (Int32) → (Int32) → (Int32) → (Int32) → (Int32) → (Int32) → (Int32) → (Nat → Int32) → (Nat → Int32) → (Nat → Int32) → (Nat → Int32) → (Nat → Int32) → (Nat → Int32) → (Nat → Int32) → (Nat → Int32) → (Nat → Int32) → (Nat → Int32) → (Nat → Int32) → (Nat → Int32) → (Nat → Int32) → (Nat → Int64) → (Nat → Int64) → (Nat → Int32) → (Nat → Int32) → (Nat → Int32) → (Nat → Int64) → (Nat → Int64) → (Nat → Int64) → (Nat → Int64) → (Int32) → (Nat) → (Nat) → Prop} {i Bd M Sd F fd T cx cr sz tp : Nat} (hpos : posR L i T x4 kc ks n_rows_sieve_least rn) (h6 : 6 * i + 6 ≤ L) (hpl : plR Bd M Sd F now_bound now_modulus now_seed now_functions now_names now_kinds now_firsts now_seconds now_degrees now_colours now_needs now_numbers M_number M_name M_sortOf M_first M_second M_degree M_colours M_signBy M_sF) (htp : tpR fd reader_tape_fed reader_tape_bytes M_taped M_tape) (hfl : (reader_faulty = M_lastFault ∧ reader_place = M_lastPlace)) (hch : chR sz tp changes_size changes_top changes_kinds changes_cells changes_ones changes_others M_undoable M_kept M_sF) (him : imR F image_kept image_bound image_modulus image_numbers M_hasImage M_kept) (hro : roR T F n_rows_sieve_least now_kinds now_firsts now_seconds now_colours now_numbers rows_turn rf rm rl ru rn rv rows_sieve_least rows_powers_cells rows_powers_ofPrime) (hcp : (couples_x = nI cx ∧ couples_root = nI cr ∧ cpOK cx cr couples_great couples_small)) (hmo : moR F now_kinds now_firsts now_seconds now_colours now_numbers M Bd M_isSieved M_rowOf M_areSums M_marks M_row) (hN : ∀ (rf2 : Nat → Int32) (rm2 : Nat → Int32) (rl2 : Nat → Int32) (ru2 : Nat → Int32) (rn2 : Nat → Nat) (rv2 : Nat → Nat → Int32) (now_bound2 : Int32) (now_modulus2 : Int32) (now_seed2 : Int32) (now_functions2 : Int32) (now_names2 : Nat → Int32) (now_kinds2 : Nat → Int32) (now_firsts2 : Nat → Int32) (now_seconds2 : Nat → Int32) (now_degrees2 : Nat → Int32) (now_colours2 : Nat → Int32) (now_needs2 : Nat → Int32) (now_numbers2 : Nat → Int32) (reader_lines2 : Int32) (reader_faulty2 : Int32) (reader_place2 : Int32) (reader_token2 : Int32) (reader_toldOnce2 : Int32) (reader_tape_fed2 : Int32) (reader_tape_length2 : Int32) (reader_tape_tokens2 : Int32) (reader_tape_at2 : Int32) (reader_tape_bytes2 : Nat → Int32) (reader_tape_sorts2 : Nat → Int32) (reader_tape_starts2 : Nat → Int32) (reader_tape_contents2 : Nat → Int32) (reader_plan_bound2 : Int32) (reader_plan_modulus2 : Int32) (reader_plan_seed2 : Int32) (reader_plan_functions2 : Int32) (reader_plan_names2 : Nat → Int32) (reader_plan_kinds2 : Nat → Int32) (reader_plan_firsts2 : Nat → Int32) (reader_plan_seconds2 : Nat → Int32) (reader_plan_degrees2 : Nat → Int32) (reader_plan_colours2 : Nat → Int32) (reader_plan_needs2 : Nat → Int32) (reader_plan_numbers2 : Nat → Int32) (changes_size2 : Int32) (changes_top2 : Int32) (changes_kinds2 : Nat → Int32) (changes_cells2 : Nat → Int32) (changes_ones2 : Nat → Int32) (changes_others2 : Nat → Int32) (image_kept2 : Int32) (image_bound2 : Int32) (image_modulus2 : Int32) (image_numbers2 : Nat → Int32) (rows_turn2 : Int32) (rows_sieve_least2 : Nat → Int32) (rows_powers_ofPrime2 : Nat → Int32) (rows_powers_cells2 : Nat → Int32) (couples_x2 : Int32) (couples_root2 : Int32) (couples_small2 : Nat → Int64) (couples_great2 : Nat → Int64) (n_rows_sieve_least2 : Nat) (M_thrown2 : Int32) (M_taped2 : Int32) (M_lines2 : Int32) (M_size2 : Int32) (M_atF2 : Int32) (M_place2 : Int32) (M_sort2 : Int32) (M_value2 : Int32) (M_fault2 : Int32) (M_faultPlace2 : Int32) (M_lastFault2 : Int32) (M_lastPlace2 : Int32) (M_undoable2 : Int32) (M_hasImage2 : Int32) (M_rowOf2 : Int32) (M_areSums2 : Int32) (M_isSieved2 : Int32) (M_blocks2 : Int32) (M_drawn2 : Int32) (M_tape2 : Nat → Int32) (M_number2 : Nat → Int32) (M_isTold2 : Nat → Int32) (M_name2 : Nat → Int32) (M_sortOf2 : Nat → Int32) (M_first2 : Nat → Int32) (M_second2 : Nat → Int32) (M_degree2 : Nat → Int32) (M_colours2 : Nat → Int32) (M_signBy2 : Nat → Int32) (M_own2 : Nat → Int32) (M_sF2 : Nat → Int32) (M_kept2 : Nat → Int32) (M_power2 : Nat → Int64) (M_table2 : Nat → Int64) (M_marks2 : Nat → Int32) (M_row2 : Nat → Int32) (M_lastOf2 : Nat → Int32) (M_inBlock2 : Nat → Int64) (M_atQuotient2 : Nat → Int64) (M_small2 : Nat → Int64) (out2 : Nat → Int64) (x42 : Int32) (kc2 : Nat) (ks2 : Nat), invL L rf2 rm2 rl2 ru2 rn2 rv2 now_bound2 now_modulus2 now_seed2 now_functions2 now_names2 now_kinds2 now_firsts2 now_seconds2 now_degrees2 now_colours2 now_needs2 now_numbers2 reader_lines2 reader_faulty2 reader_place2 reader_token2 reader_toldOnce2 reader_tape_fed2 reader_tape_length2 reader_tape_tokens2 reader_tape_at2 reader_tape_bytes2 reader_tape_sorts2 reader_tape_starts2 reader_tape_contents2 reader_plan_bound2 reader_plan_modulus2 reader_plan_seed2 reader_plan_functions2 reader_plan_names2 reader_plan_kinds2 reader_plan_firsts2 reader_plan_seconds2 reader_plan_degrees2 reader_plan_colours2 reader_plan_needs2 reader_plan_numbers2 changes_size2 changes_top2 changes_kinds2 changes_cells2 changes_ones2 changes_others2 image_kept2 image_bound2 image_modulus2 image_numbers2 rows_turn2 rows_sieve_least2 rows_powers_ofPrime2 rows_powers_cells2 couples_x2 couples_root2 couples_small2 couples_great2 n_rows_sieve_least2 M_thrown2 M_taped2 M_lines2 M_size2 M_atF2 M_place2 M_sort2 M_value2 M_fault2 M_faultPlace2 M_lastFault2 M_lastPlace2 M_undoable2 M_hasImage2 M_rowOf2 M_areSums2 M_isSieved2 M_blocks2 M_drawn2 M_tape2 M_number2 M_isTold2 M_name2 M_sortOf2 M_first2 M_second2 M_degree2 M_colours2 M_signBy2 M_own2 M_sF2 M_kept2 M_power2 M_table2 M_marks2 M_row2 M_lastOf2 M_inBlock2 M_atQuotient2 M_small2 out2 x42 kc2 ks2 → meaL L rf2 rm2 rl2 ru2 rn2 rv2 now_bound2 now_modulus2 now_seed2 now_functions2 now_names2 now_kinds2 now_firsts2 now_seconds2 now_degrees2 now_colours2 now_needs2 now_numbers2 reader_lines2 reader_faulty2 reader_place2 reader_token2 reader_toldOnce2 reader_tape_fed2 reader_tape_length2 reader_tape_tokens2 reader_tape_at2 reader_tape_bytes2 reader_tape_sorts2 reader_tape_starts2 reader_tape_contents2 reader_plan_bound2 reader_plan_modulus2 reader_plan_seed2 reader_plan_functions2 reader_plan_names2 reader_plan_kinds2 reader_plan_firsts2 reader_plan_seconds2 reader_plan_degrees2 reader_plan_colours2 reader_plan_needs2 reader_plan_numbers2 changes_size2 changes_top2 changes_kinds2 changes_cells2 changes_ones2 changes_others2 image_kept2 image_bound2 image_modulus2 image_numbers2 rows_turn2 rows_sieve_least2 rows_powers_ofPrime2 rows_powers_cells2 couples_x2 couples_root2 couples_small2 couples_great2 n_rows_sieve_least2 M_thrown2 M_taped2 M_lines2 M_size2 M_atF2 M_place2 M_sort2 M_value2 M_fault2 M_faultPlace2 M_lastFault2 M_lastPlace2 M_undoable2 M_hasImage2 M_rowOf2 M_areSums2 M_isSieved2 M_blocks2 M_drawn2 M_tape2 M_number2 M_isTold2 M_name2 M_sortOf2 M_first2 M_second2 M_degree2 M_colours2 M_signBy2 M_own2 M_sF2 M_kept2 M_power2 M_table2 M_marks2 M_row2 M_lastOf2 M_inBlock2 M_atQuotient2 M_small2 out2 x42 kc2 ks2 < meaL L rf rm rl ru rn rv now_bound now_modulus now_seed now_functions now_names now_kinds now_firsts now_seconds now_degrees now_colours now_needs now_numbers reader_lines reader_faulty reader_place reader_token reader_toldOnce reader_tape_fed reader_tape_length reader_tape_tokens reader_tape_at reader_tape_bytes reader_tape_sorts reader_tape_starts reader_tape_contents reader_plan_bound reader_plan_modulus reader_plan_seed reader_plan_functions reader_plan_names reader_plan_kinds reader_plan_firsts reader_plan_seconds reader_plan_degrees reader_plan_colours reader_plan_needs reader_plan_numbers changes_size changes_top changes_kinds changes_cells changes_ones changes_others image_kept image_bound image_modulus image_numbers rows_turn rows_sieve_least rows_powers_ofPrime rows_powers_cells couples_x couples_root couples_small couples_great n_rows_sieve_least M_thrown M_taped M_lines M_size M_atF M_place M_sort M_value M_fault M_faultPlace M_lastFault M_lastPlace M_undoable M_hasImage M_rowOf M_areSums M_isSieved M_blocks M_drawn M_tape M_number M_isTold M_name M_sortOf M_first M_second M_degree M_colours M_signBy M_own M_sF M_kept M_power M_table M_marks M_row M_lastOf M_inBlock M_atQuotient M_small out x4 kc ks → Nx rf2 rm2 rl2 ru2 rn2 rv2 now_bound2 now_modulus2 now_seed2 now_functions2 now_names2 now_kinds2 now_firsts2 now_seconds2 now_degrees2 now_colours2 now_needs2 now_numbers2 reader_lines2 reader_faulty2 reader_place2 reader_token2 reader_toldOnce2 reader_tape_fed2 reader_tape_length2 reader_tape_tokens2 reader_tape_at2 reader_tape_bytes2 reader_tape_sorts2 reader_tape_starts2 reader_tape_contents2 reader_plan_bound2 reader_plan_modulus2 reader_plan_seed2 reader_plan_functions2 reader_plan_names2 reader_plan_kinds2 reader_plan_firsts2 reader_plan_seconds2 reader_plan_degrees2 reader_plan_colours2 reader_plan_needs2 reader_plan_numbers2 changes_size2 changes_top2 changes_kinds2 changes_cells2 changes_ones2 changes_others2 image_kept2 image_bound2 image_modulus2 image_numbers2 rows_turn2 rows_sieve_least2 rows_powers_ofPrime2 rows_powers_cells2 couples_x2 couples_root2 couples_small2 couples_great2 n_rows_sieve_least2 M_thrown2 M_taped2 M_lines2 M_size2 M_atF2 M_place2 M_sort2 M_value2 M_fault2 M_faultPlace2 M_lastFault2 M_lastPlace2 M_undoable2 M_hasImage2 M_rowOf2 M_areSums2 M_isSieved2 M_blocks2 M_drawn2 M_tape2 M_number2 M_isTold2 M_name2 M_sortOf2 M_first2 M_second2 M_degree2 M_colours2 M_signBy2 M_own2 M_sF2 M_kept2 M_power2 M_table2 M_marks2 M_row2 M_lastOf2 M_inBlock2 M_atQuotient2 M_small2 out2 x42 kc2 ks2) : wB_928 L xs rf rm rl ru rn rv now_bound now_modulus now_seed now_functions now_names now_kinds now_firsts now_seconds now_degrees now_colours now_needs now_numbers reader_lines reader_faulty reader_place reader_token reader_toldOnce reader_tape_fed reader_tape_length reader_tape_tokens reader_tape_at reader_tape_bytes reader_tape_sorts reader_tape_starts reader_tape_contents reader_plan_bound reader_plan_modulus reader_plan_seed reader_plan_functions reader_plan_names reader_plan_kinds reader_plan_firsts reader_plan_seconds reader_plan_degrees reader_plan_colours reader_plan_needs reader_plan_numbers changes_size changes_top changes_kinds changes_cells changes_ones changes_others image_kept image_bound image_modulus image_numbers rows_turn rows_sieve_least rows_powers_ofPrime rows_powers_cells couples_x couples_root couples_small couples_great n_rows_sieve_least M_thrown M_taped M_lines M_size M_atF M_place M_sort M_value M_fault M_faultPlace M_lastFault M_lastPlace M_undoable M_hasImage M_rowOf M_areSums M_isSieved M_blocks M_drawn M_tape M_number M_isTold M_name M_sortOf M_first M_second M_degree M_colours M_signBy M_own M_sF M_kept M_power M_table M_marks M_row M_lastOf M_inBlock M_atQuotient M_small out x4 kc ks Nx := by
  unfold wB_928
  have hpl2 := hpl
  obtain ⟨⟨hB1, hB2, hM1, hM2, hSd, hF1, hF2⟩, ⟨rfl, rfl, rfl, rfl⟩, hw, hn, hR, ⟨hs0, hs1, hnu2, hnu3⟩, hnam⟩ := hpl2
  have hro2 := hro
  obtain ⟨rfl, hpE, hpV, ⟨hL1, hL2, hsv⟩, hpw⟩ := hro2
  have hmo2 := hmo
  obtain ⟨hiS, hmk, hrc⟩ := hmo2
  have i1 := pos_in 1 hpos.1 h6 hpos.2.2.1 (by omega)
  have i2 := pos_in 2 hpos.1 h6 hpos.2.2.1 (by omega)
  have i3 := pos_in 3 hpos.1 h6 hpos.2.2.1 (by omega)
  generalize xs (x4 + 1).toNatClampNeg = a1
  generalize xs (x4 + 2).toNatClampNeg = a2
  generalize xs (x4 + 3).toNatClampNeg = a3
  refine ⟨i1, i2, i3, ?_⟩
  by_cases hv : ∃ n1 n2 n3 : Nat, (n1 < F) ∧ (n2 < F) ∧ (n3 ≤ Bd) ∧ a1 = nI n1 ∧ a2 = nI n2 ∧ a3 = nI n3
  case neg => exact ⟨0, 0, _, roomN hpos hL2 hpE, n_X10_hyper hB2 hM2 hF1 hF2 hv ⟨i1, i2, i3, _, n_X11_hyper hB2 hM2 hF1 hF2 hs0 hs1 hnu3 hv (eqans rfl (hN _ _ _ _ _ _ _ _ _ _ _ _ _ _ _ _ _ _ _ _ _ _ _ _ _ _ _ _ _ _ _ _ _ _ _ _ _ _ _ _ _ _ _ _ _ _ _ _ _ _ _ _ _ _ _ _ _ _ _ _ _ _ _ _ _ _ _ _ _ _ _ _ _ _ _ _ _ _ _ _ _ _ _ _ _ _ _ _ _ _ _ _ _ _ _ _ _ _ _ _ _ _ _ _ _ _ ⟨i + 1, Bd, M, Sd, F, fd, T, cx, cr, sz, tp, pos_0 hpos h6, hpl, htp, hfl, hch, him, hro, hcp, hmo⟩ (pos_mea hpos h6))), fun _ _ _ _ _ _ _ _ _ _ _ h => h⟩, fun _ _ _ _ _ _ _ _ _ _ _ _ h => h⟩
  obtain ⟨n1, n2, n3, h1, h2, h3, rfl, rfl, rfl⟩ := hv
  have hx : n3 ≤ 200000 := by omega
  obtain ⟨k, rf', rm', rl', ru', rn', L', ms, hk, hpE', hL1', hL2', hLL, hms, hrl', hrfk, hrmk, hruk, hoth, hpick, hup⟩ := s_upTo (bo := nI Bd) (se := nI Sd) (f := n1) (x := n3) (C := now_colours) (N := now_numbers) (rm := rm) (L := n_rows_sieve_least) hw hn hF2 hM1 hM2 h1 (by omega) (pos_T hpos) hpE hL1 hL2 (pool_l hpV)
  have hT := pos_T hpos
  have hTi := hpos.2.2.2.2.2
  obtain ⟨k2, rf2, rm2, rl2, ru2, rn2, L2, ms2, hk2, hpE2, hL12, hL22, hLL2, hms2, hrl2, hrfk2, hrmk2, hruk2, hoth2, hpick2, hup2⟩ := s_upTo (bo := nI Bd) (se := nI Sd) (f := n2) (x := n3) (C := now_colours) (N := now_numbers) (rm := rm') (L := L') hw hn hF2 hM1 hM2 h2 hx (show T + 1 < 2 ^ 30 by have := hpos.2.1; have := hpos.2.2.1; omega) hpE' hL1' hL2' hrl'
  obtain ⟨hlt, hend, hT9⟩ := bk_all hx
  refine ⟨4, ms + ms2, _, room_ok hpos (by omega) (show ms + ms2 + (sS n_rows_sieve_least + s4 rn) ≤ sS L2 + s4 rn2 by omega) hL22 hpE2, y_X10_hyper hB2 hM2 hF1 hF2 h1 h2 h3 ⟨2, ms, _, ⟨by omega, by omega⟩, hup _ _ _ _ hpV hsv hpw _ (fun rv' least' cells' P' hpV' hsv' hpw' hrow hrvo => ?_), fun _ _ _ _ _ _ _ _ _ _ _ _ h => h⟩, fun _ _ _ _ _ _ _ _ _ _ _ _ h => h⟩
  refine ⟨2, ms2, _, ⟨by omega, by omega⟩, hup2 _ _ _ _ hpV' hsv' hpw' _ (fun rv2 least2 cells2 P2 hpV2 hsv2 hpw2 hrow2 hrvo2 => ?_), fun _ _ _ _ _ _ _ _ _ _ _ _ h => h⟩
  obtain ⟨l, hxl, hrlk, hrmk1, hrk⟩ : ∃ l, n3 ≤ l ∧ rl2 k = nI l ∧ rm2 k = nI M ∧ rowOK (tv now_kinds now_firsts now_seconds now_colours now_numbers M n1) M l (rn2 k) (rv2 k) := by
    obtain ⟨-, -, -, l, a1, a2, a3⟩ := hrow
    obtain ⟨-, -, -, l2, c1, c2, c3⟩ := hrow2
    by_cases e : k = k2
    · subst e
      have en : n1 = n2 := by
        rcases hpick2 with ⟨p1, -⟩ | p
        · exact (nI_eq (by omega) (by omega)).mp (hrfk.symm.trans p1)
        · exact absurd rfl (ru_no (rn := rn) hT hk hruk (fun j hj hj4 => by
            obtain ⟨-, -, u, hu, eu⟩ := hpE j hj4
            exact ⟨u, hu, by rw [(hoth j hj).2.2.2.1]; exact eu⟩) p)
      subst en
      exact ⟨l2, c1, c2, hrmk2, c3⟩
    · have ho := hoth2 k e
      refine ⟨l, a1, by rw [ho.2.2.1]; exact a2, by rw [ho.2.1]; exact hrmk, ?_⟩
      rw [ho.2.2.2.2, hrvo2 k e]; exact a3
  obtain ⟨-, -, -, l2, hxl2, hrlk2, hrk2⟩ := hrow2
  refine ⟨fun s y => ∃ j : Nat, j ≤ qT n3 (rt n3) ∧ y = nI (bL n3 j + 1) ∧ s = lN (acr M (fun j => str (tv now_kinds now_firsts now_seconds now_colours now_numbers M n1) M (bL n3 j + 1) (bL n3 (j + 1))) (fun j => sV (tv now_kinds now_firsts now_seconds now_colours now_numbers M n2) M (n3 / bL n3 (j + 1))) j), fun _ y => 200003 - y.toNatClampNeg, ⟨0, by omega, rfl, rfl⟩, ?_⟩
  rintro s y ⟨j, hj, rfl, rfl⟩
  have hbj : bL n3 j ≤ n3 := by
    rcases Nat.lt_or_ge j (qT n3 (rt n3)) with w | w
    · have := hlt j w; omega
    · obtain rfl : j = qT n3 (rt n3) := by omega
      omega
  refine pk_lt n3 (bL n3 j + 1) (fun z => ?_) (fun z => ?_)
  · have ej : j = qT n3 (rt n3) := by
      rcases Nat.lt_or_ge j (qT n3 (rt n3)) with w | w
      · have := hlt j w; omega
      · omega
    subst ej
    rw [lN_i]
    have hr := rt_s n3
    refine ⟨i1, i2, i3, _, y_X11_hyper hB2 hM2 hF1 hF2 hs0 hs1 hnu3 h1 h2 h3 ⟨_, s_laysBlocks hx hr.1 hr.2 (fun lo' hlo => ?_), fun _ _ h => h⟩, fun _ _ _ _ _ _ _ _ _ _ _ h => h⟩
    refine ⟨_, s_laysInBlocks hw hR hs0 hs1 hB1 hB2 hF2 hM1 hM2 h1 hmk hrc rfl hT9 h3 hlt hlo (fun row1 Q1 t1 ib1 hr1 hib => ?_), fun _ _ _ _ _ _ h => h⟩
    refine ⟨_, s_laysAtQuotients hw hR hs0 hs1 hB1 hB2 hF2 hM1 hM2 h2 hmk (rc_sum hF2 h1 hr1) rfl hT9 h3 hlt hlo (fun row2 Q2 t2 aq2 hr2 haq => ?_), fun _ _ _ _ _ _ h => h⟩
    refine ⟨_, s_across hs1 hM1 hM2 rfl hT9 hib haq (fun i _ => Nat.mod_lt _ (by omega)) (fun i _ => sV_lt hM1 _) ?_, fun _ h => h⟩
    exact eqans rfl (hN _ _ _ _ _ _ _ _ _ _ _ _ _ _ _ _ _ _ _ _ _ _ _ _ _ _ _ _ _ _ _ _ _ _ _ _ _ _ _ _ _ _ _ _ _ _ _ _ _ _ _ _ _ _ _ _ _ _ _ _ _ _ _ _ _ _ _ _ _ _ _ _ _ _ _ _ _ _ _ _ _ _ _ _ _ _ _ _ _ _ _ _ _ _ _ _ _ _ _ _ _ _ _ _ _ _ ⟨i + 1, Bd, M, Sd, F, fd, T + 1 + 1, cx, cr, sz, tp, pos_up (mc := 4) hpos h6 (by omega) (by omega) (by omega), hpl, htp, hfl, hch, him, ⟨rfl, hpE2, hpV2, ⟨hL12, hL22, hsv2⟩, hpw2⟩, hcp, ⟨hiS, hmk, rc_sum hF2 h2 hr2⟩⟩ (pos_mea hpos h6))
  · have hjl : bL n3 j < n3 := by omega
    have hjT : j < qT n3 (rt n3) := by
      rcases Nat.lt_or_ge j (qT n3 (rt n3)) with w | w
      · exact w
      · obtain rfl : j = qT n3 (rt n3) := by omega
        omega
    have hu := bL_up hjl
    have hq := dd_q (x := n3) (d := bL n3 j + 1) (by omega) z
    refine ⟨_, s_divided (by omega) (by omega) (by omega) ?_, fun _ h => h⟩
    refine ⟨_, s_divided (by omega) (by omega) (by omega) ?_, fun _ h => h⟩
    rw [bk_mx hx hjl]
    rintro m rfl
    rw [hrlk, hrmk1, hrlk2]
    refine ⟨_, s_stretch hM1 hM2 hrk (by omega) (by omega) (by omega) ?_, fun _ h => h⟩
    refine ⟨_, s_sumTo hrk2 (by omega) ?_, fun _ h => h⟩
    rw [← bk_q hjl]
    have e1 : str (tv now_kinds now_firsts now_seconds now_colours now_numbers M n1) M (bL n3 j + 1) (bL n3 (j + 1)) < M := Nat.mod_lt _ (by omega)
    have e2 := sV_lt (g := tv now_kinds now_firsts now_seconds now_colours now_numbers M n2) hM1 (n3 / bL n3 (j + 1))
    have e3 := mul_b (show str (tv now_kinds now_firsts now_seconds now_colours now_numbers M n1) M (bL n3 j + 1) (bL n3 (j + 1)) ≤ 1000003 by omega) (show sV (tv now_kinds now_firsts now_seconds now_colours now_numbers M n2) M (n3 / bL n3 (j + 1)) ≤ 1000003 by omega)
    have e4 := acr_lt (X := fun j => str (tv now_kinds now_firsts now_seconds now_colours now_numbers M n1) M (bL n3 j + 1) (bL n3 (j + 1))) (Y := fun j => sV (tv now_kinds now_firsts now_seconds now_colours now_numbers M n2) M (n3 / bL n3 (j + 1))) hM1 j
    have e5 := acr_lt (X := fun j => str (tv now_kinds now_firsts now_seconds now_colours now_numbers M n1) M (bL n3 j + 1) (bL n3 (j + 1))) (Y := fun j => sV (tv now_kinds now_firsts now_seconds now_colours now_numbers M n2) M (n3 / bL n3 (j + 1))) hM1 (j + 1)
    rw [nI_l (by omega), nI_l (by omega), lN_mul, lN_add]
    refine ⟨_, s_rest hM1 hM2 ?_, fun _ h => h⟩
    rw [lN_pos (by omega), ← Int.natCast_emod, Int.toNat_natCast]
    rintro s2 rfl y2 rfl
    rw [nI_1]
    refine ⟨⟨j + 1, hjT, rfl, nI_l (by have := e5; exact Nat.lt_of_lt_of_le this (by omega))⟩, ?_⟩
    show 200003 - (nI (bL n3 (j + 1) + 1)).toNatClampNeg < 200003 - (nI (bL n3 j + 1)).toNatClampNeg
    rw [nI_clamp (by omega), nI_clamp (by omega)]; omega
