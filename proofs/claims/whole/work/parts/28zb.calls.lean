/-! PURE: set, count -/
def tl (a : Int32) : Prop := ¬ a < (-999) ∧ ¬ 999 < a
theorem tl_y {a : Int32} {Q : Int32 → Prop} (ht : tl a) (h : Q 1) : wX10_isTellable a Q := by
  unfold wX10_isTellable
  exact br_f ht.1 (br_f ht.2 h)
theorem tl_n {a : Int32} {Q : Int32 → Prop} (ht : ¬ tl a) (h : Q 0) : wX10_isTellable a Q := by
  unfold wX10_isTellable
  exact br_c (fun _ => h) (fun h1 => br_c (fun _ => h) (fun h2 => absurd ⟨h1, h2⟩ ht))
theorem tlM_y {a : Int32} {Q : Int32 → Prop} (ht : tl a) (h : Q 1) : wX11_within a (-999) 999 Q := by
  unfold wX11_within
  exact br_f ht.1 (br_f ht.2 h)
theorem tlM_n {a : Int32} {Q : Int32 → Prop} (ht : ¬ tl a) (h : Q 0) : wX11_within a (-999) 999 Q := by
  unfold wX11_within
  exact br_c (fun _ => h) (fun h1 => br_c (fun _ => h) (fun h2 => absurd ⟨h1, h2⟩ ht))
theorem n_X11_set {qth qta qli qsi qat qpl qso qva qfa qfp qlf qlp qun qhi qro qar qiS qbl qdr : Int32} {number so kept sF : Nat → Int32} {a1 a2 a3 a4 : Int32} {F : Nat} {Q : Int32 → Int32 → Int32 → Int32 → (Nat → Int32) → (Nat → Int32) → Prop} (hnu : number 3 = nI (F - 6)) (hF1 : 6 ≤ F) (hF2 : F ≤ 12) (hno : ¬ ((∃ n1 : Nat, (n1 < F ∧ so n1 = 1) ∧ a1 = nI n1) ∧ (∃ n2 : Nat, (1 ≤ n2 ∧ n2 ≤ 6) ∧ a2 = nI n2) ∧ tl a3 ∧ tl a4)) (h : Q 0 0 qun qro kept sF) : wX11_set qth qta qli qsi qat qpl qso qva qfa qfp qlf qlp qun qhi qro qar qiS qbl qdr number so kept sF a1 a2 a3 a4 Q := by
  unfold wX11_set
  by_cases h1 : ∃ n1 : Nat, (n1 < F ∧ so n1 = 1) ∧ a1 = nI n1
  case neg => exact ⟨_, ownM_n hnu hF1 hF2 (fun n p q => ne_of h1 n ⟨p, q⟩) (c0 h), fun _ h => h⟩
  obtain ⟨n1, h1, rfl⟩ := h1
  refine ⟨_, ownM_y hnu hF1 hF2 h1.1 h1.2 (c1 ?_), fun _ h => h⟩
  by_cases h2 : ∃ n2 : Nat, (1 ≤ n2 ∧ n2 ≤ 6) ∧ a2 = nI n2
  case neg => exact ⟨_, within_n (a := 1) (b := 6) (by omega) (by omega) (fun n p q => ne_of h2 n ⟨p, q⟩) (c0 h), fun _ h => h⟩
  obtain ⟨n2, h2, rfl⟩ := h2
  refine ⟨_, within_y (a := 1) (b := 6) (by omega) h2.1 h2.2 (c1 ?_), fun _ h => h⟩
  by_cases h3 : tl a3
  case neg => exact ⟨_, tlM_n h3 (c0 h), fun _ h => h⟩
  refine ⟨_, tlM_y h3 (c1 ?_), fun _ h => h⟩
  by_cases h4 : tl a4
  case neg => exact ⟨_, tlM_n h4 (b0 h), fun _ h => h⟩
  exact absurd ⟨⟨n1, h1, rfl⟩, ⟨n2, h2, rfl⟩, h3, h4⟩ hno
theorem n_X10_set {bo mo se turn si tp : Int32} {K N k1 k2 k3 k4 rf rm rl ru : Nat → Int32} {rn : Nat → Nat} {rv : Nat → Nat → Int32} {a1 a2 a3 a4 : Int32} {F : Nat} {Q : Int32 → (Nat → Int32) → Int32 → Int32 → (Nat → Int32) → (Nat → Int32) → (Nat → Int32) → (Nat → Int32) → (Nat → Int32) → Prop} (hF2 : F ≤ 12) (hno : ¬ ((∃ n1 : Nat, (n1 < F ∧ K n1 = 1) ∧ a1 = nI n1) ∧ (∃ n2 : Nat, (1 ≤ n2 ∧ n2 ≤ 6) ∧ a2 = nI n2) ∧ tl a3 ∧ tl a4)) (h : Q 0 N si tp k1 k2 k3 k4 rf) : wX10_set bo mo se (nI F) K N si tp k1 k2 k3 k4 rf rm rl ru rn rv turn a1 a2 a3 a4 Q := by
  unfold wX10_set
  by_cases h1 : ∃ n1 : Nat, (n1 < F ∧ K n1 = 1) ∧ a1 = nI n1
  case neg => exact ⟨_, own_n hF2 (fun n p q => ne_of h1 n ⟨p, q⟩) (c0 h), fun _ h => h⟩
  obtain ⟨n1, h1, rfl⟩ := h1
  refine ⟨_, own_y hF2 h1.1 h1.2 (c1 ?_), fun _ h => h⟩
  by_cases h2 : ∃ n2 : Nat, (1 ≤ n2 ∧ n2 ≤ 6) ∧ a2 = nI n2
  case neg => exact ⟨_, ownP_n (fun n p q => ne_of h2 n ⟨p, q⟩) (c0 h), fun _ h => h⟩
  obtain ⟨n2, h2, rfl⟩ := h2
  refine ⟨_, ownP_y h2.1 h2.2 (c1 ?_), fun _ h => h⟩
  by_cases h3 : tl a3
  case neg => exact ⟨_, tl_n h3 (c0 h), fun _ h => h⟩
  refine ⟨_, tl_y h3 (c1 ?_), fun _ h => h⟩
  by_cases h4 : tl a4
  case neg => exact ⟨_, tl_n h4 (b0 h), fun _ h => h⟩
  exact absurd ⟨⟨n1, h1, rfl⟩, ⟨n2, h2, rfl⟩, h3, h4⟩ hno
set_option maxHeartbeats 2000000 in
theorem cs_531 {L : Nat} {xs : Nat → Int32} {rf : Nat → Int32} {rm : Nat → Int32} {rl : Nat → Int32} {ru : Nat → Int32} {rn : Nat → Nat} {rv : Nat → Nat → Int32} {now_bound : Int32} {now_modulus : Int32} {now_seed : Int32} {now_functions : Int32} {now_names : Nat → Int32} {now_kinds : Nat → Int32} {now_firsts : Nat → Int32} {now_seconds : Nat → Int32} {now_degrees : Nat → Int32} {now_colours : Nat → Int32} {now_needs : Nat → Int32} {now_numbers : Nat → Int32} {reader_lines : Int32} {reader_faulty : Int32} {reader_place : Int32} {reader_token : Int32} {reader_toldOnce : Int32} {reader_tape_fed : Int32} {reader_tape_length : Int32} {reader_tape_tokens : Int32} {reader_tape_at : Int32} {reader_tape_bytes : Nat → Int32} {reader_tape_sorts : Nat → Int32} {reader_tape_starts : Nat → Int32} {reader_tape_contents : Nat → Int32} {reader_plan_bound : Int32} {reader_plan_modulus : Int32} {reader_plan_seed : Int32} {reader_plan_functions : Int32} {reader_plan_names : Nat → Int32} {reader_plan_kinds : Nat → Int32} {reader_plan_firsts : Nat → Int32} {reader_plan_seconds : Nat → Int32} {reader_plan_degrees : Nat → Int32} {reader_plan_colours : Nat → Int32} {reader_plan_needs : Nat → Int32} {reader_plan_numbers : Nat → Int32} {changes_size : Int32} {changes_top : Int32} {changes_kinds : Nat → Int32} {changes_cells : Nat → Int32} {changes_ones : Nat → Int32} {changes_others : Nat → Int32} {image_kept : Int32} {image_bound : Int32} {image_modulus : Int32} {image_numbers : Nat → Int32} {rows_turn : Int32} {rows_sieve_least : Nat → Int32} {rows_powers_ofPrime : Nat → Int32} {rows_powers_cells : Nat → Int32} {couples_x : Int32} {couples_root : Int32} {couples_small : Nat → Int64} {couples_great : Nat → Int64} {n_rows_sieve_least : Nat} {M_thrown : Int32} {M_taped : Int32} {M_lines : Int32} {M_size : Int32} {M_atF : Int32} {M_place : Int32} {M_sort : Int32} {M_value : Int32} {M_fault : Int32} {M_faultPlace : Int32} {M_lastFault : Int32} {M_lastPlace : Int32} {M_undoable : Int32} {M_hasImage : Int32} {M_rowOf : Int32} {M_areSums : Int32} {M_isSieved : Int32} {M_blocks : Int32} {M_drawn : Int32} {M_tape : Nat → Int32} {M_number : Nat → Int32} {M_isTold : Nat → Int32} {M_name : Nat → Int32} {M_sortOf : Nat → Int32} {M_first : Nat → Int32} {M_second : Nat → Int32} {M_degree : Nat → Int32} {M_colours : Nat → Int32} {M_signBy : Nat → Int32} {M_own : Nat → Int32} {M_sF : Nat → Int32} {M_kept : Nat → Int32} {M_power : Nat → Int64} {M_table : Nat → Int64} {M_marks : Nat → Int32} {M_row : Nat → Int32} {M_lastOf : Nat → Int32} {M_inBlock : Nat → Int64} {M_atQuotient : Nat → Int64} {M_small : Nat → Int64} {out : Nat → Int64} {x4 : Int32} {kc : Nat} {ks : Nat} {Nx : (Nat → Int32) → (Nat → Int32) → (Nat → Int32) → (Nat → Int32) → (Nat → Nat) → (Nat → Nat → Int32) → (Int32) → (Int32) → (Int32) → (Int32) → (Nat → Int32) → (Nat → Int32) → (Nat → Int32) → (Nat → Int32) → (Nat → Int32) → (Nat → Int32) → (Nat → Int32) → (Nat → Int32) → (Int32) → (Int32) → (Int32) → (Int32) → (Int32) → (Int32) → (Int32) → (Int32) → (Int32) → (Nat → Int32) → (Nat → Int32) → (Nat → Int32) → (Nat → Int32) → (Int32) → (Int32) → (Int32) → (Int32) → (Nat → Int32) → (Nat → Int32) → (Nat → Int32) → (Nat → Int32) → (Nat → Int32) → (Nat → Int32) → (Nat → Int32) → (Nat → Int32) → (Int32) → (Int32) → (Nat → Int32) → (Nat → Int32) → (Nat → Int32) → (Nat → Int32) → (Int32) → (Int32) → (Int32) → (Nat → Int32) → (Int32) → (Nat → Int32) → (Nat → Int32) → (Nat → Int32) → (Int32) → (Int32) → (Nat → Int64) → (Nat → Int64) → (Nat) → (Int32) → (Int32) → (Int32) → (Int32) → (Int32) → (Int32) → (Int32) → (Int32) → (Int32) → (Int32) → (Int32) → (Int32) → (Int32) → (Int32) → (Int32) → (Int32) → (Int32) → (Int32) → (Int32) → (Nat → Int32) → (Nat → Int32) → (Nat → Int32) → (Nat → Int32) → (Nat → Int32) → (Nat → Int32) → (Nat → Int32) → (Nat → Int32) → (Nat → Int32) → (Nat → Int32) → (Nat → Int32) → (Nat → Int32) → (Nat → Int32) → (Nat → Int64) → (Nat → Int64) → (Nat → Int32) → (Nat → Int32) → (Nat → Int32) → (Nat → Int64) → (Nat → Int64) → (Nat → Int64) → (Nat → Int64) → (Int32) → (Nat) → (Nat) → Prop} {i Bd M Sd F fd T cx cr sz tp : Nat} (hpos : posR L i T x4 kc ks n_rows_sieve_least rn) (h6 : 6 * i + 6 ≤ L) (hpl : plR Bd M Sd F now_bound now_modulus now_seed now_functions now_names now_kinds now_firsts now_seconds now_degrees now_colours now_needs now_numbers M_number M_name M_sortOf M_first M_second M_degree M_colours M_signBy M_sF) (htp : tpR fd reader_tape_fed reader_tape_bytes M_taped M_tape) (hfl : (reader_faulty = M_lastFault ∧ reader_place = M_lastPlace)) (hch : chR sz tp changes_size changes_top changes_kinds changes_cells changes_ones changes_others M_undoable M_kept M_sF) (him : imR F image_kept image_bound image_modulus image_numbers M_hasImage M_kept) (hro : roR T F n_rows_sieve_least now_kinds now_firsts now_seconds now_colours now_numbers rows_turn rf rm rl ru rn rv rows_sieve_least rows_powers_cells rows_powers_ofPrime) (hcp : (couples_x = nI cx ∧ couples_root = nI cr ∧ cpOK cx cr couples_great couples_small)) (hmo : moR F now_kinds now_firsts now_seconds now_colours now_numbers M Bd M_isSieved M_rowOf M_areSums M_marks M_row) (hN : ∀ (rf2 : Nat → Int32) (rm2 : Nat → Int32) (rl2 : Nat → Int32) (ru2 : Nat → Int32) (rn2 : Nat → Nat) (rv2 : Nat → Nat → Int32) (now_bound2 : Int32) (now_modulus2 : Int32) (now_seed2 : Int32) (now_functions2 : Int32) (now_names2 : Nat → Int32) (now_kinds2 : Nat → Int32) (now_firsts2 : Nat → Int32) (now_seconds2 : Nat → Int32) (now_degrees2 : Nat → Int32) (now_colours2 : Nat → Int32) (now_needs2 : Nat → Int32) (now_numbers2 : Nat → Int32) (reader_lines2 : Int32) (reader_faulty2 : Int32) (reader_place2 : Int32) (reader_token2 : Int32) (reader_toldOnce2 : Int32) (reader_tape_fed2 : Int32) (reader_tape_length2 : Int32) (reader_tape_tokens2 : Int32) (reader_tape_at2 : Int32) (reader_tape_bytes2 : Nat → Int32) (reader_tape_sorts2 : Nat → Int32) (reader_tape_starts2 : Nat → Int32) (reader_tape_contents2 : Nat → Int32) (reader_plan_bound2 : Int32) (reader_plan_modulus2 : Int32) (reader_plan_seed2 : Int32) (reader_plan_functions2 : Int32) (reader_plan_names2 : Nat → Int32) (reader_plan_kinds2 : Nat → Int32) (reader_plan_firsts2 : Nat → Int32) (reader_plan_seconds2 : Nat → Int32) (reader_plan_degrees2 : Nat → Int32) (reader_plan_colours2 : Nat → Int32) (reader_plan_needs2 : Nat → Int32) (reader_plan_numbers2 : Nat → Int32) (changes_size2 : Int32) (changes_top2 : Int32) (changes_kinds2 : Nat → Int32) (changes_cells2 : Nat → Int32) (changes_ones2 : Nat → Int32) (changes_others2 : Nat → Int32) (image_kept2 : Int32) (image_bound2 : Int32) (image_modulus2 : Int32) (image_numbers2 : Nat → Int32) (rows_turn2 : Int32) (rows_sieve_least2 : Nat → Int32) (rows_powers_ofPrime2 : Nat → Int32) (rows_powers_cells2 : Nat → Int32) (couples_x2 : Int32) (couples_root2 : Int32) (couples_small2 : Nat → Int64) (couples_great2 : Nat → Int64) (n_rows_sieve_least2 : Nat) (M_thrown2 : Int32) (M_taped2 : Int32) (M_lines2 : Int32) (M_size2 : Int32) (M_atF2 : Int32) (M_place2 : Int32) (M_sort2 : Int32) (M_value2 : Int32) (M_fault2 : Int32) (M_faultPlace2 : Int32) (M_lastFault2 : Int32) (M_lastPlace2 : Int32) (M_undoable2 : Int32) (M_hasImage2 : Int32) (M_rowOf2 : Int32) (M_areSums2 : Int32) (M_isSieved2 : Int32) (M_blocks2 : Int32) (M_drawn2 : Int32) (M_tape2 : Nat → Int32) (M_number2 : Nat → Int32) (M_isTold2 : Nat → Int32) (M_name2 : Nat → Int32) (M_sortOf2 : Nat → Int32) (M_first2 : Nat → Int32) (M_second2 : Nat → Int32) (M_degree2 : Nat → Int32) (M_colours2 : Nat → Int32) (M_signBy2 : Nat → Int32) (M_own2 : Nat → Int32) (M_sF2 : Nat → Int32) (M_kept2 : Nat → Int32) (M_power2 : Nat → Int64) (M_table2 : Nat → Int64) (M_marks2 : Nat → Int32) (M_row2 : Nat → Int32) (M_lastOf2 : Nat → Int32) (M_inBlock2 : Nat → Int64) (M_atQuotient2 : Nat → Int64) (M_small2 : Nat → Int64) (out2 : Nat → Int64) (x42 : Int32) (kc2 : Nat) (ks2 : Nat), invL L rf2 rm2 rl2 ru2 rn2 rv2 now_bound2 now_modulus2 now_seed2 now_functions2 now_names2 now_kinds2 now_firsts2 now_seconds2 now_degrees2 now_colours2 now_needs2 now_numbers2 reader_lines2 reader_faulty2 reader_place2 reader_token2 reader_toldOnce2 reader_tape_fed2 reader_tape_length2 reader_tape_tokens2 reader_tape_at2 reader_tape_bytes2 reader_tape_sorts2 reader_tape_starts2 reader_tape_contents2 reader_plan_bound2 reader_plan_modulus2 reader_plan_seed2 reader_plan_functions2 reader_plan_names2 reader_plan_kinds2 reader_plan_firsts2 reader_plan_seconds2 reader_plan_degrees2 reader_plan_colours2 reader_plan_needs2 reader_plan_numbers2 changes_size2 changes_top2 changes_kinds2 changes_cells2 changes_ones2 changes_others2 image_kept2 image_bound2 image_modulus2 image_numbers2 rows_turn2 rows_sieve_least2 rows_powers_ofPrime2 rows_powers_cells2 couples_x2 couples_root2 couples_small2 couples_great2 n_rows_sieve_least2 M_thrown2 M_taped2 M_lines2 M_size2 M_atF2 M_place2 M_sort2 M_value2 M_fault2 M_faultPlace2 M_lastFault2 M_lastPlace2 M_undoable2 M_hasImage2 M_rowOf2 M_areSums2 M_isSieved2 M_blocks2 M_drawn2 M_tape2 M_number2 M_isTold2 M_name2 M_sortOf2 M_first2 M_second2 M_degree2 M_colours2 M_signBy2 M_own2 M_sF2 M_kept2 M_power2 M_table2 M_marks2 M_row2 M_lastOf2 M_inBlock2 M_atQuotient2 M_small2 out2 x42 kc2 ks2 → meaL L rf2 rm2 rl2 ru2 rn2 rv2 now_bound2 now_modulus2 now_seed2 now_functions2 now_names2 now_kinds2 now_firsts2 now_seconds2 now_degrees2 now_colours2 now_needs2 now_numbers2 reader_lines2 reader_faulty2 reader_place2 reader_token2 reader_toldOnce2 reader_tape_fed2 reader_tape_length2 reader_tape_tokens2 reader_tape_at2 reader_tape_bytes2 reader_tape_sorts2 reader_tape_starts2 reader_tape_contents2 reader_plan_bound2 reader_plan_modulus2 reader_plan_seed2 reader_plan_functions2 reader_plan_names2 reader_plan_kinds2 reader_plan_firsts2 reader_plan_seconds2 reader_plan_degrees2 reader_plan_colours2 reader_plan_needs2 reader_plan_numbers2 changes_size2 changes_top2 changes_kinds2 changes_cells2 changes_ones2 changes_others2 image_kept2 image_bound2 image_modulus2 image_numbers2 rows_turn2 rows_sieve_least2 rows_powers_ofPrime2 rows_powers_cells2 couples_x2 couples_root2 couples_small2 couples_great2 n_rows_sieve_least2 M_thrown2 M_taped2 M_lines2 M_size2 M_atF2 M_place2 M_sort2 M_value2 M_fault2 M_faultPlace2 M_lastFault2 M_lastPlace2 M_undoable2 M_hasImage2 M_rowOf2 M_areSums2 M_isSieved2 M_blocks2 M_drawn2 M_tape2 M_number2 M_isTold2 M_name2 M_sortOf2 M_first2 M_second2 M_degree2 M_colours2 M_signBy2 M_own2 M_sF2 M_kept2 M_power2 M_table2 M_marks2 M_row2 M_lastOf2 M_inBlock2 M_atQuotient2 M_small2 out2 x42 kc2 ks2 < meaL L rf rm rl ru rn rv now_bound now_modulus now_seed now_functions now_names now_kinds now_firsts now_seconds now_degrees now_colours now_needs now_numbers reader_lines reader_faulty reader_place reader_token reader_toldOnce reader_tape_fed reader_tape_length reader_tape_tokens reader_tape_at reader_tape_bytes reader_tape_sorts reader_tape_starts reader_tape_contents reader_plan_bound reader_plan_modulus reader_plan_seed reader_plan_functions reader_plan_names reader_plan_kinds reader_plan_firsts reader_plan_seconds reader_plan_degrees reader_plan_colours reader_plan_needs reader_plan_numbers changes_size changes_top changes_kinds changes_cells changes_ones changes_others image_kept image_bound image_modulus image_numbers rows_turn rows_sieve_least rows_powers_ofPrime rows_powers_cells couples_x couples_root couples_small couples_great n_rows_sieve_least M_thrown M_taped M_lines M_size M_atF M_place M_sort M_value M_fault M_faultPlace M_lastFault M_lastPlace M_undoable M_hasImage M_rowOf M_areSums M_isSieved M_blocks M_drawn M_tape M_number M_isTold M_name M_sortOf M_first M_second M_degree M_colours M_signBy M_own M_sF M_kept M_power M_table M_marks M_row M_lastOf M_inBlock M_atQuotient M_small out x4 kc ks → Nx rf2 rm2 rl2 ru2 rn2 rv2 now_bound2 now_modulus2 now_seed2 now_functions2 now_names2 now_kinds2 now_firsts2 now_seconds2 now_degrees2 now_colours2 now_needs2 now_numbers2 reader_lines2 reader_faulty2 reader_place2 reader_token2 reader_toldOnce2 reader_tape_fed2 reader_tape_length2 reader_tape_tokens2 reader_tape_at2 reader_tape_bytes2 reader_tape_sorts2 reader_tape_starts2 reader_tape_contents2 reader_plan_bound2 reader_plan_modulus2 reader_plan_seed2 reader_plan_functions2 reader_plan_names2 reader_plan_kinds2 reader_plan_firsts2 reader_plan_seconds2 reader_plan_degrees2 reader_plan_colours2 reader_plan_needs2 reader_plan_numbers2 changes_size2 changes_top2 changes_kinds2 changes_cells2 changes_ones2 changes_others2 image_kept2 image_bound2 image_modulus2 image_numbers2 rows_turn2 rows_sieve_least2 rows_powers_ofPrime2 rows_powers_cells2 couples_x2 couples_root2 couples_small2 couples_great2 n_rows_sieve_least2 M_thrown2 M_taped2 M_lines2 M_size2 M_atF2 M_place2 M_sort2 M_value2 M_fault2 M_faultPlace2 M_lastFault2 M_lastPlace2 M_undoable2 M_hasImage2 M_rowOf2 M_areSums2 M_isSieved2 M_blocks2 M_drawn2 M_tape2 M_number2 M_isTold2 M_name2 M_sortOf2 M_first2 M_second2 M_degree2 M_colours2 M_signBy2 M_own2 M_sF2 M_kept2 M_power2 M_table2 M_marks2 M_row2 M_lastOf2 M_inBlock2 M_atQuotient2 M_small2 out2 x42 kc2 ks2) : wB_531 L xs rf rm rl ru rn rv now_bound now_modulus now_seed now_functions now_names now_kinds now_firsts now_seconds now_degrees now_colours now_needs now_numbers reader_lines reader_faulty reader_place reader_token reader_toldOnce reader_tape_fed reader_tape_length reader_tape_tokens reader_tape_at reader_tape_bytes reader_tape_sorts reader_tape_starts reader_tape_contents reader_plan_bound reader_plan_modulus reader_plan_seed reader_plan_functions reader_plan_names reader_plan_kinds reader_plan_firsts reader_plan_seconds reader_plan_degrees reader_plan_colours reader_plan_needs reader_plan_numbers changes_size changes_top changes_kinds changes_cells changes_ones changes_others image_kept image_bound image_modulus image_numbers rows_turn rows_sieve_least rows_powers_ofPrime rows_powers_cells couples_x couples_root couples_small couples_great n_rows_sieve_least M_thrown M_taped M_lines M_size M_atF M_place M_sort M_value M_fault M_faultPlace M_lastFault M_lastPlace M_undoable M_hasImage M_rowOf M_areSums M_isSieved M_blocks M_drawn M_tape M_number M_isTold M_name M_sortOf M_first M_second M_degree M_colours M_signBy M_own M_sF M_kept M_power M_table M_marks M_row M_lastOf M_inBlock M_atQuotient M_small out x4 kc ks Nx := by
  unfold wB_531
  have hpl2 := hpl
  obtain ⟨⟨hB1, hB2, hM1, hM2, hSd, hF1, hF2⟩, ⟨rfl, rfl, rfl, rfl⟩, hw, hn, hR, ⟨hs0, hs1, hnu2, hnu3⟩, hnam⟩ := hpl2
  have hro2 := hro
  obtain ⟨rfl, hpE, hpV, ⟨hL1, hL2, hsv⟩, hpw⟩ := hro2
  have hmo2 := hmo
  obtain ⟨hiS, hmk, hrc⟩ := hmo2
  have i1 := pos_in 1 hpos.1 h6 hpos.2.2.1 (by omega)
  have i2 := pos_in 2 hpos.1 h6 hpos.2.2.1 (by omega)
  have i3 := pos_in 3 hpos.1 h6 hpos.2.2.1 (by omega)
  have i4 := pos_in 4 hpos.1 h6 hpos.2.2.1 (by omega)
  generalize xs (x4 + 1).toNatClampNeg = a1
  generalize xs (x4 + 2).toNatClampNeg = a2
  generalize xs (x4 + 3).toNatClampNeg = a3
  generalize xs (x4 + 4).toNatClampNeg = a4
  refine ⟨i1, i2, i3, i4, _, ?_, fun _ _ _ _ _ _ _ _ _ h => h⟩
  by_cases hv : (∃ n1 : Nat, (n1 < F ∧ now_kinds n1 = 1) ∧ a1 = nI n1) ∧ (∃ n2 : Nat, (1 ≤ n2 ∧ n2 ≤ 6) ∧ a2 = nI n2) ∧ tl a3 ∧ tl a4
  case neg =>
    have hv2 : ¬ ((∃ n1 : Nat, (n1 < F ∧ M_sortOf n1 = 1) ∧ a1 = nI n1) ∧ (∃ n2 : Nat, (1 ≤ n2 ∧ n2 ≤ 6) ∧ a2 = nI n2) ∧ tl a3 ∧ tl a4) := fun ⟨⟨n1, ⟨e1, e2⟩, e3⟩, e4⟩ => hv ⟨⟨n1, ⟨e1, by rw [← (hR.1 n1 e1).1]; exact e2⟩, e3⟩, e4⟩
    exact n_X10_set hF2 hv ⟨i1, i2, i3, i4, _, n_X11_set hnu3 hF1 hF2 hv2 (eqans rfl (hN _ _ _ _ _ _ _ _ _ _ _ _ _ _ _ _ _ _ _ _ _ _ _ _ _ _ _ _ _ _ _ _ _ _ _ _ _ _ _ _ _ _ _ _ _ _ _ _ _ _ _ _ _ _ _ _ _ _ _ _ _ _ _ _ _ _ _ _ _ _ _ _ _ _ _ _ _ _ _ _ _ _ _ _ _ _ _ _ _ _ _ _ _ _ _ _ _ _ _ _ _ _ _ _ _ _ ⟨i + 1, Bd, M, Sd, F, fd, T, cx, cr, sz, tp, pos_0 hpos h6, hpl, htp, hfl, hch, him, hro, hcp, hmo⟩ (pos_mea hpos h6))), fun _ _ _ _ _ _ h => h⟩
  obtain ⟨⟨n1, h1, rfl⟩, ⟨n2, h2, rfl⟩, h3, h4⟩ := hv
  have h1M : M_sortOf n1 = 1 := by rw [(hR.1 n1 h1.1).1]; exact h1.2
  have hg6 : 6 ≤ n1 := by
    rcases Nat.lt_or_ge n1 6 with q | q
    · have := (hR.2.2 n1 h1.1).1 q; rw [h1.2] at this; exact absurd this (by decide)
    · exact q
  have hn12 : n1 < F := h1.1
  obtain ⟨d, hd⟩ : ∃ d, d = 12 * n1 + 2 * (n2 - 1) := ⟨_, rfl⟩
  have d1 : 72 ≤ d := by omega
  have d2 : d + 1 < 144 := by omega
  have ec : ((nI n1 * 6 + nI n2) - 1) * 2 = nI d := by
    rw [show (6 : Int32) = nI 6 from rfl, show (1 : Int32) = nI 1 from rfl, show (2 : Int32) = nI 2 from rfl, pk_mul, nI_add, pk_sub (by omega), pk_mul]
    congr 1; omega
  have em : ((2 + (12 * (nI n1 - 6))) + (2 * nI n2)) - 2 = nI (2 + (d - 72)) := by
    rw [show (6 : Int32) = nI 6 from rfl, show (12 : Int32) = nI 12 from rfl, show (2 : Int32) = nI 2 from rfl, pk_sub hg6, pk_mul, pk_mul, nI_add, nI_add, pk_sub (by omega)]
    congr 1; omega
  have em1 : ((2 + (12 * (nI n1 - 6))) + (2 * nI n2)) - 1 = nI (2 + (d - 72) + 1) := by
    rw [show (6 : Int32) = nI 6 from rfl, show (12 : Int32) = nI 12 from rfl, show (2 : Int32) = nI 2 from rfl, show (1 : Int32) = nI 1 from rfl, pk_sub hg6, pk_mul, pk_mul, nI_add, nI_add, pk_sub (by omega)]
    congr 1; omega
  have hm0 := hR.2.1 (d - 72) (by omega)
  have hm1 := hR.2.1 (d - 72 + 1) (by omega)
  rw [show 72 + (d - 72) = d by omega] at hm0
  rw [show 72 + (d - 72 + 1) = d + 1 by omega, ← Nat.add_assoc] at hm1
  have hch2 := hch
  obtain ⟨hz1, hz2, rfl, rfl, hz5, -⟩ := hch2
  unfold wX10_set
  refine ⟨_, own_y hF2 h1.1 h1.2 (c1 ⟨_, ownP_y h2.1 h2.2 (c1 ⟨_, tl_y h3 (c1 ⟨_, tl_y h4 (b1 ⟨_, ?_, fun _ h => h⟩), fun _ h => h⟩), fun _ h => h⟩), fun _ h => h⟩), fun _ h => h⟩
  unfold wX3_cell
  rw [ec]
  refine ⟨vp_in_nI (by omega) (by omega), ?_⟩
  rw [nI_1, nI_clamp (show d < 2 ^ 31 by omega), nI_clamp (show d + 1 < 2 ^ 31 by omega)]
  refine ⟨vp_in_nI (by omega) (by omega), _, s_push hz1 hz2 ?_, fun _ _ _ _ _ _ h => h⟩
  refine ⟨_, s_put d2 (fun rf' hrf => ?_), fun _ _ h => h⟩
  refine ⟨i1, i2, i3, i4, _, ?_, fun _ _ _ _ _ _ h => h⟩
  unfold wX11_set
  refine ⟨_, ownM_y hnu3 hF1 hF2 h1.1 h1M (c1 ⟨_, within_y (a := 1) (b := 6) (by omega) h2.1 h2.2 (c1 ⟨_, tlM_y h3 (c1 ⟨_, tlM_y h4 (b1 ⟨_, s_remembers hz5 hz1 (fun kept' k1 k2 k3 => ?_), fun _ _ _ h => h⟩), fun _ h => h⟩), fun _ h => h⟩), fun _ h => h⟩), fun _ h => h⟩
  rw [em, em1, nI_clamp (show 2 + (d - 72) < 2 ^ 31 by omega), nI_clamp (show 2 + (d - 72) + 1 < 2 ^ 31 by omega)]
  refine ⟨vp_in_nI (by omega) (by omega), ?_⟩
  rintro s1 rfl
  refine ⟨vp_in_nI (by omega) (by omega), ?_⟩
  rintro s2 rfl
  have hsn : ∀ i, i < 72 → upd (upd M_sF (2 + (d - 72)) a3) (2 + (d - 72) + 1) a4 (2 + i) = if 2 + i = 2 + (d - 72) then a3 else if 2 + i = 2 + (d - 72) + 1 then a4 else M_sF (2 + i) := by
    intro i hi
    by_cases e : 2 + i = 2 + (d - 72)
    · rw [if_pos e, pk_un (by omega), e, pk_us]
    · by_cases e2 : 2 + i = 2 + (d - 72) + 1
      · rw [if_neg e, if_pos e2, e2, pk_us]
      · rw [if_neg e, if_neg e2, pk_un e2, pk_un e]
  have hund : ∀ j, j < 74 → M_sF j = undoE 2 (nI d) (now_numbers d) (now_numbers (d + 1)) (upd (upd M_sF (2 + (d - 72)) a3) (2 + (d - 72) + 1) a4) j := by
    intro j hj
    unfold undoE
    rw [if_neg (by decide), if_neg (by decide), nI_clamp (show d < 2 ^ 31 by omega)]
    by_cases e : j = 2 + (d - 72)
    · rw [if_pos e, e, hm0]
    · by_cases e2 : j = 2 + (d - 72) + 1
      · rw [if_neg e, if_pos e2, e2, hm1]
      · rw [if_neg e, if_neg e2, pk_un e2, pk_un e]
  exact eqans rfl (hN _ _ _ _ _ _ _ _ _ _ _ _ _ _ _ _ _ _ _ _ _ _ _ _ _ _ _ _ _ _ _ _ _ _ _ _ _ _ _ _ _ _ _ _ _ _ _ _ _ _ _ _ _ _ _ _ _ _ _ _ _ _ _ _ _ _ _ _ _ _ _ _ _ _ _ _ _ _ _ _ _ _ _ _ _ _ _ _ _ _ _ _ _ _ _ _ _ _ _ _ _ _ _ _ _ _ ⟨i + 1, Bd, M, Sd, F, fd, T, cx, cr, (if sz < 20 then sz + 1 else 20), ((tp + 1) % 20), pos_0 hpos h6, ⟨⟨hB1, hB2, hM1, hM2, hSd, hF1, hF2⟩, ⟨rfl, rfl, rfl, rfl⟩, hw, hn, pm_n hR hF2 d1 d2 hsn, ⟨by rw [pk_un (by omega), pk_un (by omega)]; exact hs0, by rw [pk_un (by omega), pk_un (by omega)]; exact hs1, hnu2, hnu3⟩, hnam⟩, htp, hfl, ch_push hch (Or.inr (Or.inr ⟨rfl, d, d1, d2, rfl⟩)) k1 k2 hund, im_keep him k3, ⟨rfl, hpE, pool_no hrf, ⟨hL1, hL2, hsv⟩, hpw⟩, hcp, ⟨hiS, hmk, rc_none hF2⟩⟩ (pos_mea hpos h6))
theorem s_isPrimeC {n : Nat} {Q : Int32 → Prop} (hn : n ≤ 200000) (h1 : isP n → Q 1) (h0 : ¬ isP n → Q 0) : wX10_isPrime (nI n) Q := by
  unfold wX10_isPrime
  refine ⟨fun y => ∃ p : Nat, y = nI p ∧ 2 ≤ p ∧ p ≤ 448 ∧ ∀ d, 2 ≤ d → d < p → ¬ d ∣ n, fun y => 449 - y.toNatClampNeg, ⟨2, rfl, by omega, by omega, fun d a b => by omega⟩, ?_⟩
  rintro y ⟨p, rfl, hp, hp2, hd⟩
  have hpp : p * p ≤ 448 * 448 := Nat.mul_le_mul hp2 hp2
  rw [pk_mul]
  refine pk_lt n (p * p) (fun z => ?_) (fun z => ⟨nI_ne0 (by omega) (by omega), ?_⟩)
  · refine pk_lt n 2 (fun w => h0 (fun q => by have := q.1; omega)) (fun w => h1 (isP_of_sqrt w (fun d a b c => ?_)))
    rcases Nat.lt_or_ge d p with e | e
    · exact hd d a e c
    · have : p * p ≤ d * d := Nat.mul_le_mul e e
      omega
  · have hp3 := sq_lt (p := p) (by omega)
    have hp4 : 2 * p ≤ p * p := Nat.mul_le_mul_right p hp
    rw [pk_rem (by omega) (by omega) (by omega), nI_1]
    refine pn_eq (n % p) 0 (fun z2 => ⟨⟨p + 1, rfl, by omega, by omega, fun d a b c => ?_⟩, ms_up (by omega) (by omega)⟩) (fun z2 => h0 (fun q => q.2 p (by omega) hp z2)) rfl rfl (by have := Nat.mod_lt n (show 0 < p by omega); omega) (by omega)
    by_cases e : d = p
    · subst e; exact z2 (Nat.mod_eq_zero_of_dvd c)
    · exact hd d a (by omega) c
theorem s_lastPC {B : Nat} {Q : Int32 → Prop} (hB : B ≤ 200000) (h0 : (∀ q, q ≤ B → ¬ isP q) → Q (-2)) (h1 : ∀ n, n ≤ B → isP n → (∀ q, n < q → q ≤ B → ¬ isP q) → Q (nI n)) : wX10_lastPrime (nI B) Q := by
  unfold wX10_lastPrime
  refine ⟨fun y => ∃ n : Nat, y = nI n ∧ n ≤ B ∧ ∀ q, n < q → q ≤ B → ¬ isP q, fun y => y.toNatClampNeg, ⟨B, rfl, Nat.le_refl _, fun q a b => by omega⟩, ?_⟩
  rintro y ⟨n, rfl, hn, hq⟩
  refine pk_lt n 2 (fun z => h0 (fun q a c => ?_)) (fun z => ⟨_, s_isPrimeC (by omega) (fun w => c1 (h1 n hn w hq)) (fun w => c0 ?_), fun _ h => h⟩)
  · rcases Nat.lt_or_ge n q with e | e
    · exact hq q e a c
    · have := c.1; omega
  · obtain ⟨m, rfl⟩ : ∃ m, n = m + 1 := ⟨n - 1, by omega⟩
    rw [pk_m1]
    refine ⟨⟨m, rfl, by omega, fun q a b => ?_⟩, ms_dn (by omega) (by omega)⟩
    by_cases e : q = m + 1
    · rw [e]; exact w
    · exact hq q (by omega) b
theorem s_greatest {qth qta qli qsi qat qpl qso qva qfa qfp qlf qlp qun qhi qro qar qiS qbl qdr : Int32} {sF marks : Nat → Int32} {B : Nat} {Q : Int32 → Prop} (hs : sF 0 = nI B) (hmk : mkOK marks) (hB : B ≤ 200000) (h0 : (∀ q, q ≤ B → ¬ isP q) → Q (-2)) (h1 : ∀ n, n ≤ B → isP n → (∀ q, n < q → q ≤ B → ¬ isP q) → Q (nI n)) : wX11_greatestPrime qth qta qli qsi qat qpl qso qva qfa qfp qlf qlp qun qhi qro qar qiS qbl qdr sF marks Q := by
  unfold wX11_greatestPrime
  rw [hs]
  rintro x rfl
  refine ⟨fun y => ∃ n : Nat, y = nI n ∧ n ≤ B ∧ ∀ q, n < q → q ≤ B → ¬ isP q, fun y => y.toNatClampNeg, ⟨B, rfl, Nat.le_refl _, fun q a b => by omega⟩, ?_⟩
  rintro y ⟨n, rfl, hn, hq⟩
  refine pk_le n 1 (fun z => h0 (fun q a c => ?_)) (fun z => ⟨_, s_isPrimeM hmk (by omega) (fun w => c0 ?_) (fun w => c1 (h1 n hn w hq)), fun _ h => h⟩)
  · rcases Nat.lt_or_ge n q with e | e
    · exact hq q e a c
    · have := c.1; omega
  · obtain ⟨m, rfl⟩ : ∃ m, n = m + 1 := ⟨n - 1, by omega⟩
    rw [pk_m1]
    refine ⟨⟨m, rfl, by omega, fun q a b => ?_⟩, ms_dn (by omega) (by omega)⟩
    by_cases e : q = m + 1
    · rw [e]; exact w
    · exact hq q (by omega) b
def oc (K : Nat → Int32) : Nat → Nat
  | 0 => 0
  | n + 1 => oc K n + (if K n = 1 then 1 else 0)
theorem oc_b (K : Nat → Int32) : ∀ n, oc K n ≤ n
  | 0 => Nat.le_refl 0
  | n + 1 => by
    have := oc_b K n
    rw [oc]; split <;> omega
theorem oc_0 {K : Nat → Int32} : ∀ {n : Nat}, (∀ f, f < n → K f = 0) → oc K n = 0
  | 0, _ => rfl
  | n + 1, h => by
    rw [oc, oc_0 (fun f hf => h f (by omega)), h n (by omega), if_neg (by decide)]
theorem s_ownFunctions {bo mo se : Int32} {K : Nat → Int32} {F : Nat} {Q : Int32 → Prop} (hF : F ≤ 12) (h : Q (nI (oc K F))) : wX3_ownFunctions bo mo se (nI F) K Q := by
  unfold wX3_ownFunctions
  refine ⟨fun x y => ∃ n : Nat, n ≤ F ∧ y = nI n ∧ x = nI (oc K n), fun _ y => 13 - y.toNatClampNeg, ⟨0, by omega, rfl, rfl⟩, ?_⟩
  rintro x y ⟨n, hn, rfl, rfl⟩
  refine pk_le F n (fun z => ?_) (fun z => ⟨pk_in n 12 (by omega), ?_⟩)
  · obtain rfl : n = F := by omega
    exact h
  · rw [nI_clamp (by omega), nI_1, nI_1]
    refine ⟨fun e => ⟨⟨n + 1, by omega, rfl, ?_⟩, ms_up (by omega) (by omega)⟩, fun e => ⟨⟨n + 1, by omega, rfl, ?_⟩, ms_up (by omega) (by omega)⟩⟩
    · rw [oc, if_neg e, Nat.add_zero]
    · rw [oc, if_pos e]
theorem s_ownMany {qth qta qli qsi qat qpl qso qva qfa qfp qlf qlp qun qhi qro qar qiS qbl qdr : Int32} {number so K : Nat → Int32} {F : Nat} {Q : Int32 → Prop} (hnu : number 3 = nI (F - 6)) (hF1 : 6 ≤ F) (hF2 : F ≤ 12) (hso : ∀ f, f < F → so f = K f) (hk0 : ∀ f, f < 6 → K f = 0) (h : Q (nI (oc K F))) : wX11_ownMany qth qta qli qsi qat qpl qso qva qfa qfp qlf qlp qun qhi qro qar qiS qbl qdr number so Q := by
  unfold wX11_ownMany
  refine ⟨fun x y => ∃ n : Nat, 6 ≤ n ∧ n ≤ F ∧ y = nI n ∧ x = nI (oc K n), fun _ y => 13 - y.toNatClampNeg, ⟨6, by omega, hF1, rfl, by rw [oc_0 hk0]; rfl⟩, ?_⟩
  rintro x y ⟨n, hn6, hn, rfl, rfl⟩
  refine ⟨_, ?_, fun _ h => h⟩
  unfold wX11_functions
  rw [hnu, show (6 : Int32) + nI (F - 6) = nI F from by rw [show (6 : Int32) = nI 6 from rfl, nI_add]; congr 1; omega]
  refine pk_le F n (fun z => ?_) (fun z => ⟨pk_in n 24 (by omega), ?_⟩)
  · obtain rfl : n = F := by omega
    exact h
  · rw [nI_clamp (by omega), nI_1, hso n z]
    refine ⟨fun e => ?_, fun e => ?_⟩
    · rintro x2 rfl
      refine ⟨⟨n + 1, by omega, by omega, rfl, ?_⟩, ms_up (by omega) (by omega)⟩
      rw [oc, if_neg e, show (0 : Int32) = nI 0 from rfl, nI_add]
    · rintro x2 rfl
      refine ⟨⟨n + 1, by omega, by omega, rfl, ?_⟩, ms_up (by omega) (by omega)⟩
      rw [oc, if_pos e, nI_1]
set_option maxHeartbeats 2000000 in
theorem cs_1575 {L : Nat} {xs : Nat → Int32} {rf : Nat → Int32} {rm : Nat → Int32} {rl : Nat → Int32} {ru : Nat → Int32} {rn : Nat → Nat} {rv : Nat → Nat → Int32} {now_bound : Int32} {now_modulus : Int32} {now_seed : Int32} {now_functions : Int32} {now_names : Nat → Int32} {now_kinds : Nat → Int32} {now_firsts : Nat → Int32} {now_seconds : Nat → Int32} {now_degrees : Nat → Int32} {now_colours : Nat → Int32} {now_needs : Nat → Int32} {now_numbers : Nat → Int32} {reader_lines : Int32} {reader_faulty : Int32} {reader_place : Int32} {reader_token : Int32} {reader_toldOnce : Int32} {reader_tape_fed : Int32} {reader_tape_length : Int32} {reader_tape_tokens : Int32} {reader_tape_at : Int32} {reader_tape_bytes : Nat → Int32} {reader_tape_sorts : Nat → Int32} {reader_tape_starts : Nat → Int32} {reader_tape_contents : Nat → Int32} {reader_plan_bound : Int32} {reader_plan_modulus : Int32} {reader_plan_seed : Int32} {reader_plan_functions : Int32} {reader_plan_names : Nat → Int32} {reader_plan_kinds : Nat → Int32} {reader_plan_firsts : Nat → Int32} {reader_plan_seconds : Nat → Int32} {reader_plan_degrees : Nat → Int32} {reader_plan_colours : Nat → Int32} {reader_plan_needs : Nat → Int32} {reader_plan_numbers : Nat → Int32} {changes_size : Int32} {changes_top : Int32} {changes_kinds : Nat → Int32} {changes_cells : Nat → Int32} {changes_ones : Nat → Int32} {changes_others : Nat → Int32} {image_kept : Int32} {image_bound : Int32} {image_modulus : Int32} {image_numbers : Nat → Int32} {rows_turn : Int32} {rows_sieve_least : Nat → Int32} {rows_powers_ofPrime : Nat → Int32} {rows_powers_cells : Nat → Int32} {couples_x : Int32} {couples_root : Int32} {couples_small : Nat → Int64} {couples_great : Nat → Int64} {n_rows_sieve_least : Nat} {M_thrown : Int32} {M_taped : Int32} {M_lines : Int32} {M_size : Int32} {M_atF : Int32} {M_place : Int32} {M_sort : Int32} {M_value : Int32} {M_fault : Int32} {M_faultPlace : Int32} {M_lastFault : Int32} {M_lastPlace : Int32} {M_undoable : Int32} {M_hasImage : Int32} {M_rowOf : Int32} {M_areSums : Int32} {M_isSieved : Int32} {M_blocks : Int32} {M_drawn : Int32} {M_tape : Nat → Int32} {M_number : Nat → Int32} {M_isTold : Nat → Int32} {M_name : Nat → Int32} {M_sortOf : Nat → Int32} {M_first : Nat → Int32} {M_second : Nat → Int32} {M_degree : Nat → Int32} {M_colours : Nat → Int32} {M_signBy : Nat → Int32} {M_own : Nat → Int32} {M_sF : Nat → Int32} {M_kept : Nat → Int32} {M_power : Nat → Int64} {M_table : Nat → Int64} {M_marks : Nat → Int32} {M_row : Nat → Int32} {M_lastOf : Nat → Int32} {M_inBlock : Nat → Int64} {M_atQuotient : Nat → Int64} {M_small : Nat → Int64} {out : Nat → Int64} {x4 : Int32} {kc : Nat} {ks : Nat} {Nx : (Nat → Int32) → (Nat → Int32) → (Nat → Int32) → (Nat → Int32) → (Nat → Nat) → (Nat → Nat → Int32) → (Int32) → (Int32) → (Int32) → (Int32) → (Nat → Int32) → (Nat → Int32) → (Nat → Int32) → (Nat → Int32) → (Nat → Int32) → (Nat → Int32) → (Nat → Int32) → (Nat → Int32) → (Int32) → (Int32) → (Int32) → (Int32) → (Int32) → (Int32) → (Int32) → (Int32) → (Int32) → (Nat → Int32) → (Nat → Int32) → (Nat → Int32) → (Nat → Int32) → (Int32) → (Int32) → (Int32) → (Int32) → (Nat → Int32) → (Nat → Int32) → (Nat → Int32) → (Nat → Int32) → (Nat → Int32) → (Nat → Int32) → (Nat → Int32) → (Nat → Int32) → (Int32) → (Int32) → (Nat → Int32) → (Nat → Int32) → (Nat → Int32) → (Nat → Int32) → (Int32) → (Int32) → (Int32) → (Nat → Int32) → (Int32) → (Nat → Int32) → (Nat → Int32) → (Nat → Int32) → (Int32) → (Int32) → (Nat → Int64) → (Nat → Int64) → (Nat) → (Int32) → (Int32) → (Int32) → (Int32) → (Int32) → (Int32) → (Int32) → (Int32) → (Int32) → (Int32) → (Int32) → (Int32) → (Int32) → (Int32) → (Int32) → (Int32) → (Int32) → (Int32) → (Int32) → (Nat → Int32) → (Nat → Int32) → (Nat → Int32) → (Nat → Int32) → (Nat → Int32) → (Nat → Int32) → (Nat → Int32) → (Nat → Int32) → (Nat → Int32) → (Nat → Int32) → (Nat → Int32) → (Nat → Int32) → (Nat → Int32) → (Nat → Int64) → (Nat → Int64) → (Nat → Int32) → (Nat → Int32) → (Nat → Int32) → (Nat → Int64) → (Nat → Int64) → (Nat → Int64) → (Nat → Int64) → (Int32) → (Nat) → (Nat) → Prop} {i Bd M Sd F fd T cx cr sz tp : Nat} (hpos : posR L i T x4 kc ks n_rows_sieve_least rn) (h6 : 6 * i + 6 ≤ L) (hpl : plR Bd M Sd F now_bound now_modulus now_seed now_functions now_names now_kinds now_firsts now_seconds now_degrees now_colours now_needs now_numbers M_number M_name M_sortOf M_first M_second M_degree M_colours M_signBy M_sF) (htp : tpR fd reader_tape_fed reader_tape_bytes M_taped M_tape) (hfl : (reader_faulty = M_lastFault ∧ reader_place = M_lastPlace)) (hch : chR sz tp changes_size changes_top changes_kinds changes_cells changes_ones changes_others M_undoable M_kept M_sF) (him : imR F image_kept image_bound image_modulus image_numbers M_hasImage M_kept) (hro : roR T F n_rows_sieve_least now_kinds now_firsts now_seconds now_colours now_numbers rows_turn rf rm rl ru rn rv rows_sieve_least rows_powers_cells rows_powers_ofPrime) (hcp : (couples_x = nI cx ∧ couples_root = nI cr ∧ cpOK cx cr couples_great couples_small)) (hmo : moR F now_kinds now_firsts now_seconds now_colours now_numbers M Bd M_isSieved M_rowOf M_areSums M_marks M_row) (hN : ∀ (rf2 : Nat → Int32) (rm2 : Nat → Int32) (rl2 : Nat → Int32) (ru2 : Nat → Int32) (rn2 : Nat → Nat) (rv2 : Nat → Nat → Int32) (now_bound2 : Int32) (now_modulus2 : Int32) (now_seed2 : Int32) (now_functions2 : Int32) (now_names2 : Nat → Int32) (now_kinds2 : Nat → Int32) (now_firsts2 : Nat → Int32) (now_seconds2 : Nat → Int32) (now_degrees2 : Nat → Int32) (now_colours2 : Nat → Int32) (now_needs2 : Nat → Int32) (now_numbers2 : Nat → Int32) (reader_lines2 : Int32) (reader_faulty2 : Int32) (reader_place2 : Int32) (reader_token2 : Int32) (reader_toldOnce2 : Int32) (reader_tape_fed2 : Int32) (reader_tape_length2 : Int32) (reader_tape_tokens2 : Int32) (reader_tape_at2 : Int32) (reader_tape_bytes2 : Nat → Int32) (reader_tape_sorts2 : Nat → Int32) (reader_tape_starts2 : Nat → Int32) (reader_tape_contents2 : Nat → Int32) (reader_plan_bound2 : Int32) (reader_plan_modulus2 : Int32) (reader_plan_seed2 : Int32) (reader_plan_functions2 : Int32) (reader_plan_names2 : Nat → Int32) (reader_plan_kinds2 : Nat → Int32) (reader_plan_firsts2 : Nat → Int32) (reader_plan_seconds2 : Nat → Int32) (reader_plan_degrees2 : Nat → Int32) (reader_plan_colours2 : Nat → Int32) (reader_plan_needs2 : Nat → Int32) (reader_plan_numbers2 : Nat → Int32) (changes_size2 : Int32) (changes_top2 : Int32) (changes_kinds2 : Nat → Int32) (changes_cells2 : Nat → Int32) (changes_ones2 : Nat → Int32) (changes_others2 : Nat → Int32) (image_kept2 : Int32) (image_bound2 : Int32) (image_modulus2 : Int32) (image_numbers2 : Nat → Int32) (rows_turn2 : Int32) (rows_sieve_least2 : Nat → Int32) (rows_powers_ofPrime2 : Nat → Int32) (rows_powers_cells2 : Nat → Int32) (couples_x2 : Int32) (couples_root2 : Int32) (couples_small2 : Nat → Int64) (couples_great2 : Nat → Int64) (n_rows_sieve_least2 : Nat) (M_thrown2 : Int32) (M_taped2 : Int32) (M_lines2 : Int32) (M_size2 : Int32) (M_atF2 : Int32) (M_place2 : Int32) (M_sort2 : Int32) (M_value2 : Int32) (M_fault2 : Int32) (M_faultPlace2 : Int32) (M_lastFault2 : Int32) (M_lastPlace2 : Int32) (M_undoable2 : Int32) (M_hasImage2 : Int32) (M_rowOf2 : Int32) (M_areSums2 : Int32) (M_isSieved2 : Int32) (M_blocks2 : Int32) (M_drawn2 : Int32) (M_tape2 : Nat → Int32) (M_number2 : Nat → Int32) (M_isTold2 : Nat → Int32) (M_name2 : Nat → Int32) (M_sortOf2 : Nat → Int32) (M_first2 : Nat → Int32) (M_second2 : Nat → Int32) (M_degree2 : Nat → Int32) (M_colours2 : Nat → Int32) (M_signBy2 : Nat → Int32) (M_own2 : Nat → Int32) (M_sF2 : Nat → Int32) (M_kept2 : Nat → Int32) (M_power2 : Nat → Int64) (M_table2 : Nat → Int64) (M_marks2 : Nat → Int32) (M_row2 : Nat → Int32) (M_lastOf2 : Nat → Int32) (M_inBlock2 : Nat → Int64) (M_atQuotient2 : Nat → Int64) (M_small2 : Nat → Int64) (out2 : Nat → Int64) (x42 : Int32) (kc2 : Nat) (ks2 : Nat), invL L rf2 rm2 rl2 ru2 rn2 rv2 now_bound2 now_modulus2 now_seed2 now_functions2 now_names2 now_kinds2 now_firsts2 now_seconds2 now_degrees2 now_colours2 now_needs2 now_numbers2 reader_lines2 reader_faulty2 reader_place2 reader_token2 reader_toldOnce2 reader_tape_fed2 reader_tape_length2 reader_tape_tokens2 reader_tape_at2 reader_tape_bytes2 reader_tape_sorts2 reader_tape_starts2 reader_tape_contents2 reader_plan_bound2 reader_plan_modulus2 reader_plan_seed2 reader_plan_functions2 reader_plan_names2 reader_plan_kinds2 reader_plan_firsts2 reader_plan_seconds2 reader_plan_degrees2 reader_plan_colours2 reader_plan_needs2 reader_plan_numbers2 changes_size2 changes_top2 changes_kinds2 changes_cells2 changes_ones2 changes_others2 image_kept2 image_bound2 image_modulus2 image_numbers2 rows_turn2 rows_sieve_least2 rows_powers_ofPrime2 rows_powers_cells2 couples_x2 couples_root2 couples_small2 couples_great2 n_rows_sieve_least2 M_thrown2 M_taped2 M_lines2 M_size2 M_atF2 M_place2 M_sort2 M_value2 M_fault2 M_faultPlace2 M_lastFault2 M_lastPlace2 M_undoable2 M_hasImage2 M_rowOf2 M_areSums2 M_isSieved2 M_blocks2 M_drawn2 M_tape2 M_number2 M_isTold2 M_name2 M_sortOf2 M_first2 M_second2 M_degree2 M_colours2 M_signBy2 M_own2 M_sF2 M_kept2 M_power2 M_table2 M_marks2 M_row2 M_lastOf2 M_inBlock2 M_atQuotient2 M_small2 out2 x42 kc2 ks2 → meaL L rf2 rm2 rl2 ru2 rn2 rv2 now_bound2 now_modulus2 now_seed2 now_functions2 now_names2 now_kinds2 now_firsts2 now_seconds2 now_degrees2 now_colours2 now_needs2 now_numbers2 reader_lines2 reader_faulty2 reader_place2 reader_token2 reader_toldOnce2 reader_tape_fed2 reader_tape_length2 reader_tape_tokens2 reader_tape_at2 reader_tape_bytes2 reader_tape_sorts2 reader_tape_starts2 reader_tape_contents2 reader_plan_bound2 reader_plan_modulus2 reader_plan_seed2 reader_plan_functions2 reader_plan_names2 reader_plan_kinds2 reader_plan_firsts2 reader_plan_seconds2 reader_plan_degrees2 reader_plan_colours2 reader_plan_needs2 reader_plan_numbers2 changes_size2 changes_top2 changes_kinds2 changes_cells2 changes_ones2 changes_others2 image_kept2 image_bound2 image_modulus2 image_numbers2 rows_turn2 rows_sieve_least2 rows_powers_ofPrime2 rows_powers_cells2 couples_x2 couples_root2 couples_small2 couples_great2 n_rows_sieve_least2 M_thrown2 M_taped2 M_lines2 M_size2 M_atF2 M_place2 M_sort2 M_value2 M_fault2 M_faultPlace2 M_lastFault2 M_lastPlace2 M_undoable2 M_hasImage2 M_rowOf2 M_areSums2 M_isSieved2 M_blocks2 M_drawn2 M_tape2 M_number2 M_isTold2 M_name2 M_sortOf2 M_first2 M_second2 M_degree2 M_colours2 M_signBy2 M_own2 M_sF2 M_kept2 M_power2 M_table2 M_marks2 M_row2 M_lastOf2 M_inBlock2 M_atQuotient2 M_small2 out2 x42 kc2 ks2 < meaL L rf rm rl ru rn rv now_bound now_modulus now_seed now_functions now_names now_kinds now_firsts now_seconds now_degrees now_colours now_needs now_numbers reader_lines reader_faulty reader_place reader_token reader_toldOnce reader_tape_fed reader_tape_length reader_tape_tokens reader_tape_at reader_tape_bytes reader_tape_sorts reader_tape_starts reader_tape_contents reader_plan_bound reader_plan_modulus reader_plan_seed reader_plan_functions reader_plan_names reader_plan_kinds reader_plan_firsts reader_plan_seconds reader_plan_degrees reader_plan_colours reader_plan_needs reader_plan_numbers changes_size changes_top changes_kinds changes_cells changes_ones changes_others image_kept image_bound image_modulus image_numbers rows_turn rows_sieve_least rows_powers_ofPrime rows_powers_cells couples_x couples_root couples_small couples_great n_rows_sieve_least M_thrown M_taped M_lines M_size M_atF M_place M_sort M_value M_fault M_faultPlace M_lastFault M_lastPlace M_undoable M_hasImage M_rowOf M_areSums M_isSieved M_blocks M_drawn M_tape M_number M_isTold M_name M_sortOf M_first M_second M_degree M_colours M_signBy M_own M_sF M_kept M_power M_table M_marks M_row M_lastOf M_inBlock M_atQuotient M_small out x4 kc ks → Nx rf2 rm2 rl2 ru2 rn2 rv2 now_bound2 now_modulus2 now_seed2 now_functions2 now_names2 now_kinds2 now_firsts2 now_seconds2 now_degrees2 now_colours2 now_needs2 now_numbers2 reader_lines2 reader_faulty2 reader_place2 reader_token2 reader_toldOnce2 reader_tape_fed2 reader_tape_length2 reader_tape_tokens2 reader_tape_at2 reader_tape_bytes2 reader_tape_sorts2 reader_tape_starts2 reader_tape_contents2 reader_plan_bound2 reader_plan_modulus2 reader_plan_seed2 reader_plan_functions2 reader_plan_names2 reader_plan_kinds2 reader_plan_firsts2 reader_plan_seconds2 reader_plan_degrees2 reader_plan_colours2 reader_plan_needs2 reader_plan_numbers2 changes_size2 changes_top2 changes_kinds2 changes_cells2 changes_ones2 changes_others2 image_kept2 image_bound2 image_modulus2 image_numbers2 rows_turn2 rows_sieve_least2 rows_powers_ofPrime2 rows_powers_cells2 couples_x2 couples_root2 couples_small2 couples_great2 n_rows_sieve_least2 M_thrown2 M_taped2 M_lines2 M_size2 M_atF2 M_place2 M_sort2 M_value2 M_fault2 M_faultPlace2 M_lastFault2 M_lastPlace2 M_undoable2 M_hasImage2 M_rowOf2 M_areSums2 M_isSieved2 M_blocks2 M_drawn2 M_tape2 M_number2 M_isTold2 M_name2 M_sortOf2 M_first2 M_second2 M_degree2 M_colours2 M_signBy2 M_own2 M_sF2 M_kept2 M_power2 M_table2 M_marks2 M_row2 M_lastOf2 M_inBlock2 M_atQuotient2 M_small2 out2 x42 kc2 ks2) : wB_1575 L xs rf rm rl ru rn rv now_bound now_modulus now_seed now_functions now_names now_kinds now_firsts now_seconds now_degrees now_colours now_needs now_numbers reader_lines reader_faulty reader_place reader_token reader_toldOnce reader_tape_fed reader_tape_length reader_tape_tokens reader_tape_at reader_tape_bytes reader_tape_sorts reader_tape_starts reader_tape_contents reader_plan_bound reader_plan_modulus reader_plan_seed reader_plan_functions reader_plan_names reader_plan_kinds reader_plan_firsts reader_plan_seconds reader_plan_degrees reader_plan_colours reader_plan_needs reader_plan_numbers changes_size changes_top changes_kinds changes_cells changes_ones changes_others image_kept image_bound image_modulus image_numbers rows_turn rows_sieve_least rows_powers_ofPrime rows_powers_cells couples_x couples_root couples_small couples_great n_rows_sieve_least M_thrown M_taped M_lines M_size M_atF M_place M_sort M_value M_fault M_faultPlace M_lastFault M_lastPlace M_undoable M_hasImage M_rowOf M_areSums M_isSieved M_blocks M_drawn M_tape M_number M_isTold M_name M_sortOf M_first M_second M_degree M_colours M_signBy M_own M_sF M_kept M_power M_table M_marks M_row M_lastOf M_inBlock M_atQuotient M_small out x4 kc ks Nx := by
  unfold wB_1575
  have hpl2 := hpl
  obtain ⟨⟨hB1, hB2, hM1, hM2, hSd, hF1, hF2⟩, ⟨rfl, rfl, rfl, rfl⟩, hw, hn, hR, ⟨hs0, hs1, hnu2, hnu3⟩, hnam⟩ := hpl2
  have hro2 := hro
  obtain ⟨rfl, hpE, hpV, ⟨hL1, hL2, hsv⟩, hpw⟩ := hro2
  have hmo2 := hmo
  obtain ⟨hiS, hmk, hrc⟩ := hmo2
  have i1 := pos_in 1 hpos.1 h6 hpos.2.2.1 (by omega)
  generalize xs (x4 + 1).toNatClampNeg = a1
  refine ⟨i1, _, ?_, fun _ h => h⟩
  unfold wX10_count
  have hch2 := hch
  obtain ⟨hz1, hz2, rfl, rfl, hz5, -⟩ := hch2
  have htp2 := htp
  obtain ⟨ht1, rfl, ht3, -⟩ := htp2
  refine br_c (fun e => ?_) (fun e0 => br_c (fun e => ?_) (fun e1 => br_c (fun e => ?_) (fun e2 => br_c (fun e => ?_) (fun e3 => br_c (fun e => ?_) (fun e4 => br_c (fun e => ?_) (fun e5 => br_c (fun e => ?_) (fun e6 => ?_)))))))
  · refine ⟨i1, _, ?_, fun _ _ h => h⟩
    unfold wX11_count
    refine br_t e ⟨_, ?_, fun _ h => h⟩
    unfold wX11_functions
    rw [hnu3, show (6 : Int32) + nI (F - 6) = nI F from by rw [show (6 : Int32) = nI 6 from rfl, nI_add]; congr 1; omega]
    exact eqans rfl (hN _ _ _ _ _ _ _ _ _ _ _ _ _ _ _ _ _ _ _ _ _ _ _ _ _ _ _ _ _ _ _ _ _ _ _ _ _ _ _ _ _ _ _ _ _ _ _ _ _ _ _ _ _ _ _ _ _ _ _ _ _ _ _ _ _ _ _ _ _ _ _ _ _ _ _ _ _ _ _ _ _ _ _ _ _ _ _ _ _ _ _ _ _ _ _ _ _ _ _ _ _ _ _ _ _ _ ⟨i + 1, Bd, M, Sd, F, fd, T, cx, cr, sz, tp, pos_0 hpos h6, hpl, htp, hfl, hch, him, hro, hcp, hmo⟩ (pos_mea hpos h6))
  · refine ⟨_, s_ownFunctions hF2 ?_, fun _ h => h⟩
    refine ⟨i1, _, ?_, fun _ _ h => h⟩
    unfold wX11_count
    refine br_f e0 (br_t e ⟨_, s_ownMany (K := now_kinds) hnu3 hF1 hF2 (fun f hf => (hR.1 f hf).1) (fun f hf => (hR.2.2 f (by omega)).1 hf) ?_, fun _ h => h⟩)
    exact eqans rfl (hN _ _ _ _ _ _ _ _ _ _ _ _ _ _ _ _ _ _ _ _ _ _ _ _ _ _ _ _ _ _ _ _ _ _ _ _ _ _ _ _ _ _ _ _ _ _ _ _ _ _ _ _ _ _ _ _ _ _ _ _ _ _ _ _ _ _ _ _ _ _ _ _ _ _ _ _ _ _ _ _ _ _ _ _ _ _ _ _ _ _ _ _ _ _ _ _ _ _ _ _ _ _ _ _ _ _ ⟨i + 1, Bd, M, Sd, F, fd, T, cx, cr, sz, tp, pos_0 hpos h6, hpl, htp, hfl, hch, him, hro, hcp, hmo⟩ (pos_mea hpos h6))
  · refine ⟨i1, _, ?_, fun _ _ h => h⟩
    unfold wX11_count
    refine br_f e0 (br_f e1 (br_t e ?_))
    rw [hs0]
    exact eqans rfl (hN _ _ _ _ _ _ _ _ _ _ _ _ _ _ _ _ _ _ _ _ _ _ _ _ _ _ _ _ _ _ _ _ _ _ _ _ _ _ _ _ _ _ _ _ _ _ _ _ _ _ _ _ _ _ _ _ _ _ _ _ _ _ _ _ _ _ _ _ _ _ _ _ _ _ _ _ _ _ _ _ _ _ _ _ _ _ _ _ _ _ _ _ _ _ _ _ _ _ _ _ _ _ _ _ _ _ ⟨i + 1, Bd, M, Sd, F, fd, T, cx, cr, sz, tp, pos_0 hpos h6, hpl, htp, hfl, hch, him, hro, hcp, hmo⟩ (pos_mea hpos h6))
  · refine ⟨i1, _, ?_, fun _ _ h => h⟩
    unfold wX11_count
    refine br_f e0 (br_f e1 (br_f e2 (br_t e ?_)))
    rw [hs1]
    exact eqans rfl (hN _ _ _ _ _ _ _ _ _ _ _ _ _ _ _ _ _ _ _ _ _ _ _ _ _ _ _ _ _ _ _ _ _ _ _ _ _ _ _ _ _ _ _ _ _ _ _ _ _ _ _ _ _ _ _ _ _ _ _ _ _ _ _ _ _ _ _ _ _ _ _ _ _ _ _ _ _ _ _ _ _ _ _ _ _ _ _ _ _ _ _ _ _ _ _ _ _ _ _ _ _ _ _ _ _ _ ⟨i + 1, Bd, M, Sd, F, fd, T, cx, cr, sz, tp, pos_0 hpos h6, hpl, htp, hfl, hch, him, hro, hcp, hmo⟩ (pos_mea hpos h6))
  · refine ⟨i1, _, ?_, fun _ _ h => h⟩
    unfold wX11_count
    refine br_f e0 (br_f e1 (br_f e2 (br_f e3 (br_t e ?_))))
    exact eqans hz5.symm (hN _ _ _ _ _ _ _ _ _ _ _ _ _ _ _ _ _ _ _ _ _ _ _ _ _ _ _ _ _ _ _ _ _ _ _ _ _ _ _ _ _ _ _ _ _ _ _ _ _ _ _ _ _ _ _ _ _ _ _ _ _ _ _ _ _ _ _ _ _ _ _ _ _ _ _ _ _ _ _ _ _ _ _ _ _ _ _ _ _ _ _ _ _ _ _ _ _ _ _ _ _ _ _ _ _ _ ⟨i + 1, Bd, M, Sd, F, fd, T, cx, cr, sz, tp, pos_0 hpos h6, hpl, htp, hfl, hch, him, hro, hcp, hmo⟩ (pos_mea hpos h6))
  · refine ⟨i1, _, ?_, fun _ _ h => h⟩
    unfold wX11_count
    refine br_f e0 (br_f e1 (br_f e2 (br_f e3 (br_f e4 (br_t e ?_)))))
    exact eqans ht3.symm (hN _ _ _ _ _ _ _ _ _ _ _ _ _ _ _ _ _ _ _ _ _ _ _ _ _ _ _ _ _ _ _ _ _ _ _ _ _ _ _ _ _ _ _ _ _ _ _ _ _ _ _ _ _ _ _ _ _ _ _ _ _ _ _ _ _ _ _ _ _ _ _ _ _ _ _ _ _ _ _ _ _ _ _ _ _ _ _ _ _ _ _ _ _ _ _ _ _ _ _ _ _ _ _ _ _ _ ⟨i + 1, Bd, M, Sd, F, fd, T, cx, cr, sz, tp, pos_0 hpos h6, hpl, htp, hfl, hch, him, hro, hcp, hmo⟩ (pos_mea hpos h6))
  · refine ⟨_, s_lastPC hB2 (fun w => ?_) (fun n w1 w2 w3 => ?_), fun _ h => h⟩
    · refine ⟨i1, _, ?_, fun _ _ h => h⟩
      unfold wX11_count
      refine br_f e0 (br_f e1 (br_f e2 (br_f e3 (br_f e4 (br_f e5 (br_t e ⟨_, s_greatest hs0 hmk hB2 (fun _ => eqans rfl (hN _ _ _ _ _ _ _ _ _ _ _ _ _ _ _ _ _ _ _ _ _ _ _ _ _ _ _ _ _ _ _ _ _ _ _ _ _ _ _ _ _ _ _ _ _ _ _ _ _ _ _ _ _ _ _ _ _ _ _ _ _ _ _ _ _ _ _ _ _ _ _ _ _ _ _ _ _ _ _ _ _ _ _ _ _ _ _ _ _ _ _ _ _ _ _ _ _ _ _ _ _ _ _ _ _ _ ⟨i + 1, Bd, M, Sd, F, fd, T, cx, cr, sz, tp, pos_0 hpos h6, hpl, htp, hfl, hch, him, hro, hcp, hmo⟩ (pos_mea hpos h6))) (fun n y1 y2 _ => absurd y2 (w n y1)), fun _ h => h⟩))))))
    · refine ⟨i1, _, ?_, fun _ _ h => h⟩
      unfold wX11_count
      refine br_f e0 (br_f e1 (br_f e2 (br_f e3 (br_f e4 (br_f e5 (br_t e ⟨_, s_greatest hs0 hmk hB2 (fun y => absurd w2 (y n w1)) (fun m y1 y2 y3 => ?_), fun _ h => h⟩))))))
      have : n = m := by
        rcases Nat.lt_or_ge n m with q | q
        · exact absurd y2 (w3 m q y1)
        · rcases Nat.lt_or_ge m n with q2 | q2
          · exact absurd w2 (y3 n q2 w1)
          · omega
      exact eqans (by rw [this]) (hN _ _ _ _ _ _ _ _ _ _ _ _ _ _ _ _ _ _ _ _ _ _ _ _ _ _ _ _ _ _ _ _ _ _ _ _ _ _ _ _ _ _ _ _ _ _ _ _ _ _ _ _ _ _ _ _ _ _ _ _ _ _ _ _ _ _ _ _ _ _ _ _ _ _ _ _ _ _ _ _ _ _ _ _ _ _ _ _ _ _ _ _ _ _ _ _ _ _ _ _ _ _ _ _ _ _ ⟨i + 1, Bd, M, Sd, F, fd, T, cx, cr, sz, tp, pos_0 hpos h6, hpl, htp, hfl, hch, him, hro, hcp, hmo⟩ (pos_mea hpos h6))
  · refine ⟨i1, _, ?_, fun _ _ h => h⟩
    unfold wX11_count
    refine br_f e0 (br_f e1 (br_f e2 (br_f e3 (br_f e4 (br_f e5 (br_f e6 ?_))))))
    exact eqans rfl (hN _ _ _ _ _ _ _ _ _ _ _ _ _ _ _ _ _ _ _ _ _ _ _ _ _ _ _ _ _ _ _ _ _ _ _ _ _ _ _ _ _ _ _ _ _ _ _ _ _ _ _ _ _ _ _ _ _ _ _ _ _ _ _ _ _ _ _ _ _ _ _ _ _ _ _ _ _ _ _ _ _ _ _ _ _ _ _ _ _ _ _ _ _ _ _ _ _ _ _ _ _ _ _ _ _ _ ⟨i + 1, Bd, M, Sd, F, fd, T, cx, cr, sz, tp, pos_0 hpos h6, hpl, htp, hfl, hch, him, hro, hcp, hmo⟩ (pos_mea hpos h6))
