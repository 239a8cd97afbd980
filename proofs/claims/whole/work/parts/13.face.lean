theorem dX10_init_0 : decode cX10_init 0 = .ok (.aload_n 0, 1) := by decide +kernel
theorem dX10_init_1 : decode cX10_init 1 = .ok (.invokespecial 1, 3) := by decide +kernel
theorem dX10_init_4 : decode cX10_init 4 = .ok (.aload_n 0, 1) := by decide +kernel
theorem dX10_init_5 : decode cX10_init 5 = .ok (.new 7, 3) := by decide +kernel
theorem dX10_init_8 : decode cX10_init 8 = .ok (.dup, 1) := by decide +kernel
theorem dX10_init_9 : decode cX10_init 9 = .ok (.invokespecial 9, 3) := by decide +kernel
theorem dX10_init_12 : decode cX10_init 12 = .ok (.putfield 10, 3) := by decide +kernel
theorem dX10_init_15 : decode cX10_init 15 = .ok (.aload_n 0, 1) := by decide +kernel
theorem dX10_init_16 : decode cX10_init 16 = .ok (.new 16, 3) := by decide +kernel
theorem dX10_init_19 : decode cX10_init 19 = .ok (.dup, 1) := by decide +kernel
theorem dX10_init_20 : decode cX10_init 20 = .ok (.invokespecial 18, 3) := by decide +kernel
theorem dX10_init_23 : decode cX10_init 23 = .ok (.putfield 19, 3) := by decide +kernel
theorem dX10_init_26 : decode cX10_init 26 = .ok (.aload_n 0, 1) := by decide +kernel
theorem dX10_init_27 : decode cX10_init 27 = .ok (.new 23, 3) := by decide +kernel
theorem dX10_init_30 : decode cX10_init 30 = .ok (.dup, 1) := by decide +kernel
theorem dX10_init_31 : decode cX10_init 31 = .ok (.invokespecial 25, 3) := by decide +kernel
theorem dX10_init_34 : decode cX10_init 34 = .ok (.putfield 26, 3) := by decide +kernel
theorem dX10_init_37 : decode cX10_init 37 = .ok (.aload_n 0, 1) := by decide +kernel
theorem dX10_init_38 : decode cX10_init 38 = .ok (.new 30, 3) := by decide +kernel
theorem dX10_init_41 : decode cX10_init 41 = .ok (.dup, 1) := by decide +kernel
theorem dX10_init_42 : decode cX10_init 42 = .ok (.invokespecial 32, 3) := by decide +kernel
theorem dX10_init_45 : decode cX10_init 45 = .ok (.putfield 33, 3) := by decide +kernel
theorem dX10_init_48 : decode cX10_init 48 = .ok (.aload_n 0, 1) := by decide +kernel
theorem dX10_init_49 : decode cX10_init 49 = .ok (.new 37, 3) := by decide +kernel
theorem dX10_init_52 : decode cX10_init 52 = .ok (.dup, 1) := by decide +kernel
theorem dX10_init_53 : decode cX10_init 53 = .ok (.invokespecial 39, 3) := by decide +kernel
theorem dX10_init_56 : decode cX10_init 56 = .ok (.putfield 40, 3) := by decide +kernel
theorem dX10_init_59 : decode cX10_init 59 = .ok (.aload_n 0, 1) := by decide +kernel
theorem dX10_init_60 : decode cX10_init 60 = .ok (.new 44, 3) := by decide +kernel
theorem dX10_init_63 : decode cX10_init 63 = .ok (.dup, 1) := by decide +kernel
theorem dX10_init_64 : decode cX10_init 64 = .ok (.invokespecial 46, 3) := by decide +kernel
theorem dX10_init_67 : decode cX10_init 67 = .ok (.putfield 47, 3) := by decide +kernel
theorem dX10_init_70 : decode cX10_init 70 = .ok (.return_, 1) := by decide +kernel
/-- QuotientSums.<init>()V -/
def wX10_init   (Q : (Nat → Int32) → (Nat → Int32) → (Nat → Int32) → (Nat → Int32) → (Nat → Nat) → (Nat → Nat → Int32) → (Int32) → (Int32) → (Int32) → (Int32) → (Nat → Int32) → (Nat → Int32) → (Nat → Int32) → (Nat → Int32) → (Nat → Int32) → (Nat → Int32) → (Nat → Int32) → (Nat → Int32) → (Int32) → (Int32) → (Int32) → (Int32) → (Int32) → (Int32) → (Int32) → (Int32) → (Int32) → (Nat → Int32) → (Nat → Int32) → (Nat → Int32) → (Nat → Int32) → (Int32) → (Int32) → (Int32) → (Int32) → (Nat → Int32) → (Nat → Int32) → (Nat → Int32) → (Nat → Int32) → (Nat → Int32) → (Nat → Int32) → (Nat → Int32) → (Nat → Int32) → (Int32) → (Int32) → (Nat → Int32) → (Nat → Int32) → (Nat → Int32) → (Nat → Int32) → (Int32) → (Int32) → (Int32) → (Nat → Int32) → (Int32) → (Nat → Int32) → (Nat → Int32) → (Nat → Int32) → (Int32) → (Int32) → (Nat → Int64) → (Nat → Int64) → Prop) : Prop :=
  (∃ (P_1 : (Int32) → (Int32) → (Int32) → (Int32) → (Nat → Int32) → (Nat → Int32) → (Nat → Int32) → (Nat → Int32) → (Nat → Int32) → (Nat → Int32) → (Nat → Int32) → (Nat → Int32) → Prop), wX3_init  P_1 ∧ ∀ (bound_1 : Int32) (modulus_1 : Int32) (seed_1 : Int32) (functions_1 : Int32) (names_1 : Nat → Int32) (kinds_1 : Nat → Int32) (firsts_1 : Nat → Int32) (seconds_1 : Nat → Int32) (degrees_1 : Nat → Int32) (colours_1 : Nat → Int32) (needs_1 : Nat → Int32) (numbers_1 : Nat → Int32), P_1 bound_1 modulus_1 seed_1 functions_1 names_1 kinds_1 firsts_1 seconds_1 degrees_1 colours_1 needs_1 numbers_1 → ∃ (P_2 : (Int32) → (Int32) → (Int32) → (Int32) → (Int32) → (Int32) → (Int32) → (Int32) → (Int32) → (Nat → Int32) → (Nat → Int32) → (Nat → Int32) → (Nat → Int32) → (Int32) → (Int32) → (Int32) → (Int32) → (Nat → Int32) → (Nat → Int32) → (Nat → Int32) → (Nat → Int32) → (Nat → Int32) → (Nat → Int32) → (Nat → Int32) → (Nat → Int32) → Prop), wX5_init  P_2 ∧ ∀ (lines_1 : Int32) (faulty_1 : Int32) (place_1 : Int32) (token_1 : Int32) (toldOnce_1 : Int32) (tape_fed_1 : Int32) (tape_length_1 : Int32) (tape_tokens_1 : Int32) (tape_at_1 : Int32) (tape_bytes_1 : Nat → Int32) (tape_sorts_1 : Nat → Int32) (tape_starts_1 : Nat → Int32) (tape_contents_1 : Nat → Int32) (plan_bound_1 : Int32) (plan_modulus_1 : Int32) (plan_seed_1 : Int32) (plan_functions_1 : Int32) (plan_names_1 : Nat → Int32) (plan_kinds_1 : Nat → Int32) (plan_firsts_1 : Nat → Int32) (plan_seconds_1 : Nat → Int32) (plan_degrees_1 : Nat → Int32) (plan_colours_1 : Nat → Int32) (plan_needs_1 : Nat → Int32) (plan_numbers_1 : Nat → Int32), P_2 lines_1 faulty_1 place_1 token_1 toldOnce_1 tape_fed_1 tape_length_1 tape_tokens_1 tape_at_1 tape_bytes_1 tape_sorts_1 tape_starts_1 tape_contents_1 plan_bound_1 plan_modulus_1 plan_seed_1 plan_functions_1 plan_names_1 plan_kinds_1 plan_firsts_1 plan_seconds_1 plan_degrees_1 plan_colours_1 plan_needs_1 plan_numbers_1 → ∃ (P_3 : (Int32) → (Int32) → (Nat → Int32) → (Nat → Int32) → (Nat → Int32) → (Nat → Int32) → Prop), wX0_init  P_3 ∧ ∀ (size_1 : Int32) (top_1 : Int32) (kinds_2 : Nat → Int32) (cells_1 : Nat → Int32) (ones_1 : Nat → Int32) (others_1 : Nat → Int32), P_3 size_1 top_1 kinds_2 cells_1 ones_1 others_1 → ∃ (P_4 : (Int32) → (Int32) → (Int32) → (Nat → Int32) → Prop), wX2_init  P_4 ∧ ∀ (kept_1 : Int32) (bound_2 : Int32) (modulus_2 : Int32) (numbers_2 : Nat → Int32), P_4 kept_1 bound_2 modulus_2 numbers_2 → ∃ (P_5 : (Nat → Int32) → (Nat → Int32) → (Nat → Int32) → (Nat → Int32) → (Nat → Nat) → (Nat → Nat → Int32) → (Int32) → (Nat → Int32) → (Nat → Int32) → (Nat → Int32) → Prop), wX7_init  P_5 ∧ ∀ (rf_1 : Nat → Int32) (rm_1 : Nat → Int32) (rl_1 : Nat → Int32) (ru_1 : Nat → Int32) (rn_1 : Nat → Nat) (rv_1 : Nat → Nat → Int32) (turn_1 : Int32) (sieve_least_1 : Nat → Int32) (powers_ofPrime_1 : Nat → Int32) (powers_cells_1 : Nat → Int32), P_5 rf_1 rm_1 rl_1 ru_1 rn_1 rv_1 turn_1 sieve_least_1 powers_ofPrime_1 powers_cells_1 → ∃ (P_6 : (Int32) → (Int32) → (Nat → Int64) → (Nat → Int64) → Prop), wX1_init  P_6 ∧ ∀ (xF_1 : Int32) (root_1 : Int32) (small_1 : Nat → Int64) (great_1 : Nat → Int64), P_6 xF_1 root_1 small_1 great_1 → (Q rf_1 rm_1 rl_1 ru_1 rn_1 rv_1 bound_1 modulus_1 seed_1 functions_1 names_1 kinds_1 firsts_1 seconds_1 degrees_1 colours_1 needs_1 numbers_1 lines_1 faulty_1 place_1 token_1 toldOnce_1 tape_fed_1 tape_length_1 tape_tokens_1 tape_at_1 tape_bytes_1 tape_sorts_1 tape_starts_1 tape_contents_1 plan_bound_1 plan_modulus_1 plan_seed_1 plan_functions_1 plan_names_1 plan_kinds_1 plan_firsts_1 plan_seconds_1 plan_degrees_1 plan_colours_1 plan_needs_1 plan_numbers_1 size_1 top_1 kinds_2 cells_1 ones_1 others_1 kept_1 bound_2 modulus_2 numbers_2 turn_1 sieve_least_1 powers_ofPrime_1 powers_cells_1 xF_1 root_1 small_1 great_1))
set_option maxHeartbeats 4000000 in
set_option maxRecDepth 100000 in
theorem mX10_init (l : Launch) (D : va_G) (Y : Nat → ClassId) (h0 : Nat)   (Q : (Nat → Int32) → (Nat → Int32) → (Nat → Int32) → (Nat → Int32) → (Nat → Nat) → (Nat → Nat → Int32) → (Int32) → (Int32) → (Int32) → (Int32) → (Nat → Int32) → (Nat → Int32) → (Nat → Int32) → (Nat → Int32) → (Nat → Int32) → (Nat → Int32) → (Nat → Int32) → (Nat → Int32) → (Int32) → (Int32) → (Int32) → (Int32) → (Int32) → (Int32) → (Int32) → (Int32) → (Int32) → (Nat → Int32) → (Nat → Int32) → (Nat → Int32) → (Nat → Int32) → (Int32) → (Int32) → (Int32) → (Int32) → (Nat → Int32) → (Nat → Int32) → (Nat → Int32) → (Nat → Int32) → (Nat → Int32) → (Nat → Int32) → (Nat → Int32) → (Nat → Int32) → (Int32) → (Int32) → (Nat → Int32) → (Nat → Int32) → (Nat → Int32) → (Nat → Int32) → (Int32) → (Int32) → (Int32) → (Nat → Int32) → (Int32) → (Nat → Int32) → (Nat → Int32) → (Nat → Int32) → (Int32) → (Int32) → (Nat → Int64) → (Nat → Int64) → Prop) (h : wX10_init  Q) : gM l D Y yX10_init cX10_init 1 none 8 169 49 4707 [.ref h0] [oX10 h0 (.null) (.null) (.null) (.null) (.null) (.null)] (fun v w => ∃ ra : Nat → Nat, ∃ rs' : Nat → Nat, ∃ rf' : Nat → Int32, ∃ rm' : Nat → Int32, ∃ rl' : Nat → Int32, ∃ ru' : Nat → Int32, ∃ rn' : Nat → Nat, ∃ rv' : Nat → Nat → Int32, ∃ q_now : Nat, ∃ q_reader : Nat, ∃ q_changes : Nat, ∃ q_image : Nat, ∃ q_rows : Nat, ∃ q_couples : Nat, ∃ now_bound' : Int32, ∃ now_modulus' : Int32, ∃ now_seed' : Int32, ∃ now_functions' : Int32, ∃ q_now_names : Nat, ∃ q_now_kinds : Nat, ∃ q_now_firsts : Nat, ∃ q_now_seconds : Nat, ∃ q_now_degrees : Nat, ∃ q_now_colours : Nat, ∃ q_now_needs : Nat, ∃ q_now_numbers : Nat, ∃ now_names' : Nat → Int32, ∃ now_kinds' : Nat → Int32, ∃ now_firsts' : Nat → Int32, ∃ now_seconds' : Nat → Int32, ∃ now_degrees' : Nat → Int32, ∃ now_colours' : Nat → Int32, ∃ now_needs' : Nat → Int32, ∃ now_numbers' : Nat → Int32, ∃ q_reader_tape : Nat, ∃ reader_lines' : Int32, ∃ reader_faulty' : Int32, ∃ reader_place' : Int32, ∃ q_reader_plan : Nat, ∃ reader_token' : Int32, ∃ reader_toldOnce' : Int32, ∃ reader_tape_fed' : Int32, ∃ q_reader_tape_bytes : Nat, ∃ q_reader_tape_sorts : Nat, ∃ q_reader_tape_starts : Nat, ∃ q_reader_tape_contents : Nat, ∃ reader_tape_length' : Int32, ∃ reader_tape_tokens' : Int32, ∃ reader_tape_at' : Int32, ∃ reader_tape_bytes' : Nat → Int32, ∃ reader_tape_sorts' : Nat → Int32, ∃ reader_tape_starts' : Nat → Int32, ∃ reader_tape_contents' : Nat → Int32, ∃ reader_plan_bound' : Int32, ∃ reader_plan_modulus' : Int32, ∃ reader_plan_seed' : Int32, ∃ reader_plan_functions' : Int32, ∃ q_reader_plan_names : Nat, ∃ q_reader_plan_kinds : Nat, ∃ q_reader_plan_firsts : Nat, ∃ q_reader_plan_seconds : Nat, ∃ q_reader_plan_degrees : Nat, ∃ q_reader_plan_colours : Nat, ∃ q_reader_plan_needs : Nat, ∃ q_reader_plan_numbers : Nat, ∃ reader_plan_names' : Nat → Int32, ∃ reader_plan_kinds' : Nat → Int32, ∃ reader_plan_firsts' : Nat → Int32, ∃ reader_plan_seconds' : Nat → Int32, ∃ reader_plan_degrees' : Nat → Int32, ∃ reader_plan_colours' : Nat → Int32, ∃ reader_plan_needs' : Nat → Int32, ∃ reader_plan_numbers' : Nat → Int32, ∃ changes_size' : Int32, ∃ changes_top' : Int32, ∃ q_changes_kinds : Nat, ∃ q_changes_cells : Nat, ∃ q_changes_ones : Nat, ∃ q_changes_others : Nat, ∃ changes_kinds' : Nat → Int32, ∃ changes_cells' : Nat → Int32, ∃ changes_ones' : Nat → Int32, ∃ changes_others' : Nat → Int32, ∃ image_kept' : Int32, ∃ image_bound' : Int32, ∃ image_modulus' : Int32, ∃ q_image_numbers : Nat, ∃ image_numbers' : Nat → Int32, ∃ q_rows_sieve : Nat, ∃ q_rows_powers : Nat, ∃ q_rows_rows : Nat, ∃ rows_turn' : Int32, ∃ q_rows_sieve_least : Nat, ∃ rows_sieve_least' : Nat → Int32, ∃ q_rows_powers_ofPrime : Nat, ∃ q_rows_powers_cells : Nat, ∃ rows_powers_ofPrime' : Nat → Int32, ∃ rows_powers_cells' : Nat → Int32, ∃ q_couples_small : Nat, ∃ q_couples_great : Nat, ∃ couples_x' : Int32, ∃ couples_root' : Int32, ∃ couples_small' : Nat → Int64, ∃ couples_great' : Nat → Int64, v = none ∧ w = (rowsW Y ra rs' rf' rm' rl' ru' rn' rv' ++ [oX10 h0 (.ref q_now) (.ref q_reader) (.ref q_changes) (.ref q_image) (.ref q_rows) (.ref q_couples), oX3 q_now now_bound' now_modulus' now_seed' now_functions' (.ref q_now_names) (.ref q_now_kinds) (.ref q_now_firsts) (.ref q_now_seconds) (.ref q_now_degrees) (.ref q_now_colours) (.ref q_now_needs) (.ref q_now_numbers), aI Y q_now_names 12 now_names', aI Y q_now_kinds 12 now_kinds', aI Y q_now_firsts 12 now_firsts', aI Y q_now_seconds 12 now_seconds', aI Y q_now_degrees 12 now_degrees', aI Y q_now_colours 12 now_colours', aI Y q_now_needs 12 now_needs', aI Y q_now_numbers 144 now_numbers', oX5 q_reader (.ref q_reader_tape) reader_lines' reader_faulty' reader_place' (.ref q_reader_plan) reader_token' reader_toldOnce', oX9 q_reader_tape reader_tape_fed' (.ref q_reader_tape_bytes) (.ref q_reader_tape_sorts) (.ref q_reader_tape_starts) (.ref q_reader_tape_contents) reader_tape_length' reader_tape_tokens' reader_tape_at', aI Y q_reader_tape_bytes 700 reader_tape_bytes', aI Y q_reader_tape_sorts 701 reader_tape_sorts', aI Y q_reader_tape_starts 701 reader_tape_starts', aI Y q_reader_tape_contents 701 reader_tape_contents', oX3 q_reader_plan reader_plan_bound' reader_plan_modulus' reader_plan_seed' reader_plan_functions' (.ref q_reader_plan_names) (.ref q_reader_plan_kinds) (.ref q_reader_plan_firsts) (.ref q_reader_plan_seconds) (.ref q_reader_plan_degrees) (.ref q_reader_plan_colours) (.ref q_reader_plan_needs) (.ref q_reader_plan_numbers), aI Y q_reader_plan_names 12 reader_plan_names', aI Y q_reader_plan_kinds 12 reader_plan_kinds', aI Y q_reader_plan_firsts 12 reader_plan_firsts', aI Y q_reader_plan_seconds 12 reader_plan_seconds', aI Y q_reader_plan_degrees 12 reader_plan_degrees', aI Y q_reader_plan_colours 12 reader_plan_colours', aI Y q_reader_plan_needs 12 reader_plan_needs', aI Y q_reader_plan_numbers 144 reader_plan_numbers', oX0 q_changes changes_size' changes_top' (.ref q_changes_kinds) (.ref q_changes_cells) (.ref q_changes_ones) (.ref q_changes_others), aI Y q_changes_kinds 20 changes_kinds', aI Y q_changes_cells 20 changes_cells', aI Y q_changes_ones 20 changes_ones', aI Y q_changes_others 20 changes_others', oX2 q_image image_kept' image_bound' image_modulus' (.ref q_image_numbers), aI Y q_image_numbers 144 image_numbers', oX7 q_rows (.ref q_rows_sieve) (.ref q_rows_powers) (.ref q_rows_rows) rows_turn', oX8 q_rows_sieve (.ref q_rows_sieve_least), aI Y q_rows_sieve_least 2 rows_sieve_least', oX4 q_rows_powers (.ref q_rows_powers_ofPrime) (.ref q_rows_powers_cells), aI Y q_rows_powers_ofPrime 18 rows_powers_ofPrime', aI Y q_rows_powers_cells 216 rows_powers_cells', aR Y q_rows_rows 4 (fun j => some (ra j)), oX1 q_couples (.ref q_couples_small) (.ref q_couples_great) couples_x' couples_root', aJ Y q_couples_small 448 couples_small', aJ Y q_couples_great 448 couples_great']) ∧ Q rf' rm' rl' ru' rn' rv' now_bound' now_modulus' now_seed' now_functions' now_names' now_kinds' now_firsts' now_seconds' now_degrees' now_colours' now_needs' now_numbers' reader_lines' reader_faulty' reader_place' reader_token' reader_toldOnce' reader_tape_fed' reader_tape_length' reader_tape_tokens' reader_tape_at' reader_tape_bytes' reader_tape_sorts' reader_tape_starts' reader_tape_contents' reader_plan_bound' reader_plan_modulus' reader_plan_seed' reader_plan_functions' reader_plan_names' reader_plan_kinds' reader_plan_firsts' reader_plan_seconds' reader_plan_degrees' reader_plan_colours' reader_plan_needs' reader_plan_numbers' changes_size' changes_top' changes_kinds' changes_cells' changes_ones' changes_others' image_kept' image_bound' image_modulus' image_numbers' rows_turn' rows_sieve_least' rows_powers_ofPrime' rows_powers_cells' couples_x' couples_root' couples_small' couples_great') := by
  refine gM_ofI (own := RX10) (by decide +kernel) rfl rfl (Nat.le_of_ble_eq_true rfl) rfl (fun E C hR hin => ?_)
  unfold wX10_init at h
  refine g_aload_n C dX10_init_0 0 rfl ?_
  refine g_objInit C wM_X10_1 dX10_init_1 (Nat.le_of_ble_eq_true rfl) (Nat.le_of_ble_eq_true rfl) ?_
  refine g_aload_n C dX10_init_4 0 rfl ?_
  refine g_new (fs := [.int 0, .int 0, .int 0, .int 0, .null, .null, .null, .null, .null, .null, .null, .null]) C inX3 tyX3 tyX3_ok wL_X10_7 wT_X3 wN_X3 rfl rfl ⟨Nat.le_of_ble_eq_true rfl, Nat.le_of_ble_eq_true rfl⟩ dX10_init_5 (fun q_1 => gG.eqw (ws' := [oX10 h0 (.null) (.null) (.null) (.null) (.null) (.null), oX3 q_1 0 0 0 0 (.null) (.null) (.null) (.null) (.null) (.null) (.null) (.null)]) rfl ?_)
  refine g_dup C dX10_init_8 rfl ?_
  obtain ⟨P_1, hP, h⟩ := h
  refine g_callI (As := []) (rest := [.ref q_1, .ref h0]) C (mX3_init l D Y q_1 P_1 hP) dX10_init_9 rfl wM_X10_9 wI_X3_init wN_X3 wC_X3_init (n := 0) (by decide +kernel) rfl rfl ⟨Nat.le_of_ble_eq_true rfl, Nat.le_of_ble_eq_true rfl⟩ ⟨Nat.le_of_ble_eq_true rfl, Nat.le_of_ble_eq_true rfl⟩ (Nat.le_of_ble_eq_true rfl) [1] [0] rfl rfl rfl (fun v wc hv => ?_)
  obtain ⟨bound_1, modulus_1, seed_1, functions_1, q_names_1, q_kinds_1, q_firsts_1, q_seconds_1, q_degrees_1, q_colours_1, q_needs_1, q_numbers_1, names_1, kinds_1, firsts_1, seconds_1, degrees_1, colours_1, needs_1, numbers_1, rfl, rfl, hq⟩ := hv
  replace h := h bound_1 modulus_1 seed_1 functions_1 names_1 kinds_1 firsts_1 seconds_1 degrees_1 colours_1 needs_1 numbers_1 hq
  refine gG.eqw (ws' := [oX10 h0 (.null) (.null) (.null) (.null) (.null) (.null), oX3 q_1 bound_1 modulus_1 seed_1 functions_1 (.ref q_names_1) (.ref q_kinds_1) (.ref q_firsts_1) (.ref q_seconds_1) (.ref q_degrees_1) (.ref q_colours_1) (.ref q_needs_1) (.ref q_numbers_1), aI Y q_names_1 12 names_1, aI Y q_kinds_1 12 kinds_1, aI Y q_firsts_1 12 firsts_1, aI Y q_seconds_1 12 seconds_1, aI Y q_degrees_1 12 degrees_1, aI Y q_colours_1 12 colours_1, aI Y q_needs_1 12 needs_1, aI Y q_numbers_1 144 numbers_1]) rfl ?_
  refine g_put C inX10 tyX10 tyX10_ok nmX10 0 rfl rfl 0 (by decide) wF_X10_10 rfl rfl rfl (Nat.le_of_ble_eq_true rfl) (ws' := [oX10 h0 (.ref q_1) (.null) (.null) (.null) (.null) (.null), oX3 q_1 bound_1 modulus_1 seed_1 functions_1 (.ref q_names_1) (.ref q_kinds_1) (.ref q_firsts_1) (.ref q_seconds_1) (.ref q_degrees_1) (.ref q_colours_1) (.ref q_needs_1) (.ref q_numbers_1), aI Y q_names_1 12 names_1, aI Y q_kinds_1 12 kinds_1, aI Y q_firsts_1 12 firsts_1, aI Y q_seconds_1 12 seconds_1, aI Y q_degrees_1 12 degrees_1, aI Y q_colours_1 12 colours_1, aI Y q_needs_1 12 needs_1, aI Y q_numbers_1 144 numbers_1]) rfl dX10_init_12 ?_
  refine g_aload_n C dX10_init_15 0 rfl ?_
  refine g_new (fs := [.null, .int 0, .int 0, .int 0, .null, .int 0, .int 0]) C inX5 tyX5 tyX5_ok wL_X10_16 wT_X5 wN_X5 rfl rfl ⟨Nat.le_of_ble_eq_true rfl, Nat.le_of_ble_eq_true rfl⟩ dX10_init_16 (fun q_2 => gG.eqw (ws' := [oX10 h0 (.ref q_1) (.null) (.null) (.null) (.null) (.null), oX3 q_1 bound_1 modulus_1 seed_1 functions_1 (.ref q_names_1) (.ref q_kinds_1) (.ref q_firsts_1) (.ref q_seconds_1) (.ref q_degrees_1) (.ref q_colours_1) (.ref q_needs_1) (.ref q_numbers_1), aI Y q_names_1 12 names_1, aI Y q_kinds_1 12 kinds_1, aI Y q_firsts_1 12 firsts_1, aI Y q_seconds_1 12 seconds_1, aI Y q_degrees_1 12 degrees_1, aI Y q_colours_1 12 colours_1, aI Y q_needs_1 12 needs_1, aI Y q_numbers_1 144 numbers_1, oX5 q_2 (.null) 0 0 0 (.null) 0 0]) rfl ?_)
  refine g_dup C dX10_init_19 rfl ?_
  obtain ⟨P_2, hP, h⟩ := h
  refine g_callIN (As := []) (rest := [.ref q_2, .ref h0]) C (mX5_init l D Y q_2 P_2 hP) dX10_init_20 rfl wNM_X10_18 wI_X5_init wN_X5 wC_X5_init (n := 0) (by decide +kernel) rfl rfl ⟨Nat.le_of_ble_eq_true rfl, Nat.le_of_ble_eq_true rfl⟩ ⟨Nat.le_of_ble_eq_true rfl, Nat.le_of_ble_eq_true rfl⟩ (Nat.le_of_ble_eq_true rfl) [10] [0, 1, 2, 3, 4, 5, 6, 7, 8, 9] rfl rfl rfl (fun v wc hv => ?_)
  obtain ⟨q_tape_1, lines_1, faulty_1, place_1, q_plan_1, token_1, toldOnce_1, tape_fed_1, q_tape_bytes_1, q_tape_sorts_1, q_tape_starts_1, q_tape_contents_1, tape_length_1, tape_tokens_1, tape_at_1, tape_bytes_1, tape_sorts_1, tape_starts_1, tape_contents_1, plan_bound_1, plan_modulus_1, plan_seed_1, plan_functions_1, q_plan_names_1, q_plan_kinds_1, q_plan_firsts_1, q_plan_seconds_1, q_plan_degrees_1, q_plan_colours_1, q_plan_needs_1, q_plan_numbers_1, plan_names_1, plan_kinds_1, plan_firsts_1, plan_seconds_1, plan_degrees_1, plan_colours_1, plan_needs_1, plan_numbers_1, rfl, rfl, hq⟩ := hv
  replace h := h lines_1 faulty_1 place_1 token_1 toldOnce_1 tape_fed_1 tape_length_1 tape_tokens_1 tape_at_1 tape_bytes_1 tape_sorts_1 tape_starts_1 tape_contents_1 plan_bound_1 plan_modulus_1 plan_seed_1 plan_functions_1 plan_names_1 plan_kinds_1 plan_firsts_1 plan_seconds_1 plan_degrees_1 plan_colours_1 plan_needs_1 plan_numbers_1 hq
  refine gG.eqw (ws' := [oX10 h0 (.ref q_1) (.null) (.null) (.null) (.null) (.null), oX3 q_1 bound_1 modulus_1 seed_1 functions_1 (.ref q_names_1) (.ref q_kinds_1) (.ref q_firsts_1) (.ref q_seconds_1) (.ref q_degrees_1) (.ref q_colours_1) (.ref q_needs_1) (.ref q_numbers_1), aI Y q_names_1 12 names_1, aI Y q_kinds_1 12 kinds_1, aI Y q_firsts_1 12 firsts_1, aI Y q_seconds_1 12 seconds_1, aI Y q_degrees_1 12 degrees_1, aI Y q_colours_1 12 colours_1, aI Y q_needs_1 12 needs_1, aI Y q_numbers_1 144 numbers_1, oX5 q_2 (.ref q_tape_1) lines_1 faulty_1 place_1 (.ref q_plan_1) token_1 toldOnce_1, oX9 q_tape_1 tape_fed_1 (.ref q_tape_bytes_1) (.ref q_tape_sorts_1) (.ref q_tape_starts_1) (.ref q_tape_contents_1) tape_length_1 tape_tokens_1 tape_at_1, aI Y q_tape_bytes_1 700 tape_bytes_1, aI Y q_tape_sorts_1 701 tape_sorts_1, aI Y q_tape_starts_1 701 tape_starts_1, aI Y q_tape_contents_1 701 tape_contents_1, oX3 q_plan_1 plan_bound_1 plan_modulus_1 plan_seed_1 plan_functions_1 (.ref q_plan_names_1) (.ref q_plan_kinds_1) (.ref q_plan_firsts_1) (.ref q_plan_seconds_1) (.ref q_plan_degrees_1) (.ref q_plan_colours_1) (.ref q_plan_needs_1) (.ref q_plan_numbers_1), aI Y q_plan_names_1 12 plan_names_1, aI Y q_plan_kinds_1 12 plan_kinds_1, aI Y q_plan_firsts_1 12 plan_firsts_1, aI Y q_plan_seconds_1 12 plan_seconds_1, aI Y q_plan_degrees_1 12 plan_degrees_1, aI Y q_plan_colours_1 12 plan_colours_1, aI Y q_plan_needs_1 12 plan_needs_1, aI Y q_plan_numbers_1 144 plan_numbers_1]) rfl ?_
  refine g_putF C inX10 tyX10 tyX10_ok nmX10 0 rfl rfl 1 (by decide) wF_X10_19 rfl hin rfl rfl rfl (Nat.le_of_ble_eq_true rfl) (ws' := [oX10 h0 (.ref q_1) (.ref q_2) (.null) (.null) (.null) (.null), oX3 q_1 bound_1 modulus_1 seed_1 functions_1 (.ref q_names_1) (.ref q_kinds_1) (.ref q_firsts_1) (.ref q_seconds_1) (.ref q_degrees_1) (.ref q_colours_1) (.ref q_needs_1) (.ref q_numbers_1), aI Y q_names_1 12 names_1, aI Y q_kinds_1 12 kinds_1, aI Y q_firsts_1 12 firsts_1, aI Y q_seconds_1 12 seconds_1, aI Y q_degrees_1 12 degrees_1, aI Y q_colours_1 12 colours_1, aI Y q_needs_1 12 needs_1, aI Y q_numbers_1 144 numbers_1, oX5 q_2 (.ref q_tape_1) lines_1 faulty_1 place_1 (.ref q_plan_1) token_1 toldOnce_1, oX9 q_tape_1 tape_fed_1 (.ref q_tape_bytes_1) (.ref q_tape_sorts_1) (.ref q_tape_starts_1) (.ref q_tape_contents_1) tape_length_1 tape_tokens_1 tape_at_1, aI Y q_tape_bytes_1 700 tape_bytes_1, aI Y q_tape_sorts_1 701 tape_sorts_1, aI Y q_tape_starts_1 701 tape_starts_1, aI Y q_tape_contents_1 701 tape_contents_1, oX3 q_plan_1 plan_bound_1 plan_modulus_1 plan_seed_1 plan_functions_1 (.ref q_plan_names_1) (.ref q_plan_kinds_1) (.ref q_plan_firsts_1) (.ref q_plan_seconds_1) (.ref q_plan_degrees_1) (.ref q_plan_colours_1) (.ref q_plan_needs_1) (.ref q_plan_numbers_1), aI Y q_plan_names_1 12 plan_names_1, aI Y q_plan_kinds_1 12 plan_kinds_1, aI Y q_plan_firsts_1 12 plan_firsts_1, aI Y q_plan_seconds_1 12 plan_seconds_1, aI Y q_plan_degrees_1 12 plan_degrees_1, aI Y q_plan_colours_1 12 plan_colours_1, aI Y q_plan_needs_1 12 plan_needs_1, aI Y q_plan_numbers_1 144 plan_numbers_1]) rfl dX10_init_23 ?_
  refine g_aload_n C dX10_init_26 0 rfl ?_
  refine g_new (fs := [.int 0, .int 0, .null, .null, .null, .null]) C inX0 tyX0 tyX0_ok wL_X10_23 wT_X0 wN_X0 rfl rfl ⟨Nat.le_of_ble_eq_true rfl, Nat.le_of_ble_eq_true rfl⟩ dX10_init_27 (fun q_3 => gG.eqw (ws' := [oX10 h0 (.ref q_1) (.ref q_2) (.null) (.null) (.null) (.null), oX3 q_1 bound_1 modulus_1 seed_1 functions_1 (.ref q_names_1) (.ref q_kinds_1) (.ref q_firsts_1) (.ref q_seconds_1) (.ref q_degrees_1) (.ref q_colours_1) (.ref q_needs_1) (.ref q_numbers_1), aI Y q_names_1 12 names_1, aI Y q_kinds_1 12 kinds_1, aI Y q_firsts_1 12 firsts_1, aI Y q_seconds_1 12 seconds_1, aI Y q_degrees_1 12 degrees_1, aI Y q_colours_1 12 colours_1, aI Y q_needs_1 12 needs_1, aI Y q_numbers_1 144 numbers_1, oX5 q_2 (.ref q_tape_1) lines_1 faulty_1 place_1 (.ref q_plan_1) token_1 toldOnce_1, oX9 q_tape_1 tape_fed_1 (.ref q_tape_bytes_1) (.ref q_tape_sorts_1) (.ref q_tape_starts_1) (.ref q_tape_contents_1) tape_length_1 tape_tokens_1 tape_at_1, aI Y q_tape_bytes_1 700 tape_bytes_1, aI Y q_tape_sorts_1 701 tape_sorts_1, aI Y q_tape_starts_1 701 tape_starts_1, aI Y q_tape_contents_1 701 tape_contents_1, oX3 q_plan_1 plan_bound_1 plan_modulus_1 plan_seed_1 plan_functions_1 (.ref q_plan_names_1) (.ref q_plan_kinds_1) (.ref q_plan_firsts_1) (.ref q_plan_seconds_1) (.ref q_plan_degrees_1) (.ref q_plan_colours_1) (.ref q_plan_needs_1) (.ref q_plan_numbers_1), aI Y q_plan_names_1 12 plan_names_1, aI Y q_plan_kinds_1 12 plan_kinds_1, aI Y q_plan_firsts_1 12 plan_firsts_1, aI Y q_plan_seconds_1 12 plan_seconds_1, aI Y q_plan_degrees_1 12 plan_degrees_1, aI Y q_plan_colours_1 12 plan_colours_1, aI Y q_plan_needs_1 12 plan_needs_1, aI Y q_plan_numbers_1 144 plan_numbers_1, oX0 q_3 0 0 (.null) (.null) (.null) (.null)]) rfl ?_)
  refine g_dup C dX10_init_30 rfl ?_
  obtain ⟨P_3, hP, h⟩ := h
  refine g_callIN (As := []) (rest := [.ref q_3, .ref h0]) C (mX0_init l D Y q_3 P_3 hP) dX10_init_31 rfl wNM_X10_25 wI_X0_init wN_X0 wC_X0_init (n := 0) (by decide +kernel) rfl rfl ⟨Nat.le_of_ble_eq_true rfl, Nat.le_of_ble_eq_true rfl⟩ ⟨Nat.le_of_ble_eq_true rfl, Nat.le_of_ble_eq_true rfl⟩ (Nat.le_of_ble_eq_true rfl) [25] [0, 1, 2, 3, 4, 5, 6, 7, 8, 9, 10, 11, 12, 13, 14, 15, 16, 17, 18, 19, 20, 21, 22, 23, 24] rfl rfl rfl (fun v wc hv => ?_)
  obtain ⟨size_1, top_1, q_kinds_2, q_cells_1, q_ones_1, q_others_1, kinds_2, cells_1, ones_1, others_1, rfl, rfl, hq⟩ := hv
  replace h := h size_1 top_1 kinds_2 cells_1 ones_1 others_1 hq
  refine gG.eqw (ws' := [oX10 h0 (.ref q_1) (.ref q_2) (.null) (.null) (.null) (.null), oX3 q_1 bound_1 modulus_1 seed_1 functions_1 (.ref q_names_1) (.ref q_kinds_1) (.ref q_firsts_1) (.ref q_seconds_1) (.ref q_degrees_1) (.ref q_colours_1) (.ref q_needs_1) (.ref q_numbers_1), aI Y q_names_1 12 names_1, aI Y q_kinds_1 12 kinds_1, aI Y q_firsts_1 12 firsts_1, aI Y q_seconds_1 12 seconds_1, aI Y q_degrees_1 12 degrees_1, aI Y q_colours_1 12 colours_1, aI Y q_needs_1 12 needs_1, aI Y q_numbers_1 144 numbers_1, oX5 q_2 (.ref q_tape_1) lines_1 faulty_1 place_1 (.ref q_plan_1) token_1 toldOnce_1, oX9 q_tape_1 tape_fed_1 (.ref q_tape_bytes_1) (.ref q_tape_sorts_1) (.ref q_tape_starts_1) (.ref q_tape_contents_1) tape_length_1 tape_tokens_1 tape_at_1, aI Y q_tape_bytes_1 700 tape_bytes_1, aI Y q_tape_sorts_1 701 tape_sorts_1, aI Y q_tape_starts_1 701 tape_starts_1, aI Y q_tape_contents_1 701 tape_contents_1, oX3 q_plan_1 plan_bound_1 plan_modulus_1 plan_seed_1 plan_functions_1 (.ref q_plan_names_1) (.ref q_plan_kinds_1) (.ref q_plan_firsts_1) (.ref q_plan_seconds_1) (.ref q_plan_degrees_1) (.ref q_plan_colours_1) (.ref q_plan_needs_1) (.ref q_plan_numbers_1), aI Y q_plan_names_1 12 plan_names_1, aI Y q_plan_kinds_1 12 plan_kinds_1, aI Y q_plan_firsts_1 12 plan_firsts_1, aI Y q_plan_seconds_1 12 plan_seconds_1, aI Y q_plan_degrees_1 12 plan_degrees_1, aI Y q_plan_colours_1 12 plan_colours_1, aI Y q_plan_needs_1 12 plan_needs_1, aI Y q_plan_numbers_1 144 plan_numbers_1, oX0 q_3 size_1 top_1 (.ref q_kinds_2) (.ref q_cells_1) (.ref q_ones_1) (.ref q_others_1), aI Y q_kinds_2 20 kinds_2, aI Y q_cells_1 20 cells_1, aI Y q_ones_1 20 ones_1, aI Y q_others_1 20 others_1]) rfl ?_
  refine g_putF C inX10 tyX10 tyX10_ok nmX10 0 rfl rfl 2 (by decide) wF_X10_26 rfl hin rfl rfl rfl (Nat.le_of_ble_eq_true rfl) (ws' := [oX10 h0 (.ref q_1) (.ref q_2) (.ref q_3) (.null) (.null) (.null), oX3 q_1 bound_1 modulus_1 seed_1 functions_1 (.ref q_names_1) (.ref q_kinds_1) (.ref q_firsts_1) (.ref q_seconds_1) (.ref q_degrees_1) (.ref q_colours_1) (.ref q_needs_1) (.ref q_numbers_1), aI Y q_names_1 12 names_1, aI Y q_kinds_1 12 kinds_1, aI Y q_firsts_1 12 firsts_1, aI Y q_seconds_1 12 seconds_1, aI Y q_degrees_1 12 degrees_1, aI Y q_colours_1 12 colours_1, aI Y q_needs_1 12 needs_1, aI Y q_numbers_1 144 numbers_1, oX5 q_2 (.ref q_tape_1) lines_1 faulty_1 place_1 (.ref q_plan_1) token_1 toldOnce_1, oX9 q_tape_1 tape_fed_1 (.ref q_tape_bytes_1) (.ref q_tape_sorts_1) (.ref q_tape_starts_1) (.ref q_tape_contents_1) tape_length_1 tape_tokens_1 tape_at_1, aI Y q_tape_bytes_1 700 tape_bytes_1, aI Y q_tape_sorts_1 701 tape_sorts_1, aI Y q_tape_starts_1 701 tape_starts_1, aI Y q_tape_contents_1 701 tape_contents_1, oX3 q_plan_1 plan_bound_1 plan_modulus_1 plan_seed_1 plan_functions_1 (.ref q_plan_names_1) (.ref q_plan_kinds_1) (.ref q_plan_firsts_1) (.ref q_plan_seconds_1) (.ref q_plan_degrees_1) (.ref q_plan_colours_1) (.ref q_plan_needs_1) (.ref q_plan_numbers_1), aI Y q_plan_names_1 12 plan_names_1, aI Y q_plan_kinds_1 12 plan_kinds_1, aI Y q_plan_firsts_1 12 plan_firsts_1, aI Y q_plan_seconds_1 12 plan_seconds_1, aI Y q_plan_degrees_1 12 plan_degrees_1, aI Y q_plan_colours_1 12 plan_colours_1, aI Y q_plan_needs_1 12 plan_needs_1, aI Y q_plan_numbers_1 144 plan_numbers_1, oX0 q_3 size_1 top_1 (.ref q_kinds_2) (.ref q_cells_1) (.ref q_ones_1) (.ref q_others_1), aI Y q_kinds_2 20 kinds_2, aI Y q_cells_1 20 cells_1, aI Y q_ones_1 20 ones_1, aI Y q_others_1 20 others_1]) rfl dX10_init_34 ?_
  refine g_aload_n C dX10_init_37 0 rfl ?_
  refine g_new (fs := [.int 0, .int 0, .int 0, .null]) C inX2 tyX2 tyX2_ok wL_X10_30 wT_X2 wN_X2 rfl rfl ⟨Nat.le_of_ble_eq_true rfl, Nat.le_of_ble_eq_true rfl⟩ dX10_init_38 (fun q_4 => gG.eqw (ws' := [oX10 h0 (.ref q_1) (.ref q_2) (.ref q_3) (.null) (.null) (.null), oX3 q_1 bound_1 modulus_1 seed_1 functions_1 (.ref q_names_1) (.ref q_kinds_1) (.ref q_firsts_1) (.ref q_seconds_1) (.ref q_degrees_1) (.ref q_colours_1) (.ref q_needs_1) (.ref q_numbers_1), aI Y q_names_1 12 names_1, aI Y q_kinds_1 12 kinds_1, aI Y q_firsts_1 12 firsts_1, aI Y q_seconds_1 12 seconds_1, aI Y q_degrees_1 12 degrees_1, aI Y q_colours_1 12 colours_1, aI Y q_needs_1 12 needs_1, aI Y q_numbers_1 144 numbers_1, oX5 q_2 (.ref q_tape_1) lines_1 faulty_1 place_1 (.ref q_plan_1) token_1 toldOnce_1, oX9 q_tape_1 tape_fed_1 (.ref q_tape_bytes_1) (.ref q_tape_sorts_1) (.ref q_tape_starts_1) (.ref q_tape_contents_1) tape_length_1 tape_tokens_1 tape_at_1, aI Y q_tape_bytes_1 700 tape_bytes_1, aI Y q_tape_sorts_1 701 tape_sorts_1, aI Y q_tape_starts_1 701 tape_starts_1, aI Y q_tape_contents_1 701 tape_contents_1, oX3 q_plan_1 plan_bound_1 plan_modulus_1 plan_seed_1 plan_functions_1 (.ref q_plan_names_1) (.ref q_plan_kinds_1) (.ref q_plan_firsts_1) (.ref q_plan_seconds_1) (.ref q_plan_degrees_1) (.ref q_plan_colours_1) (.ref q_plan_needs_1) (.ref q_plan_numbers_1), aI Y q_plan_names_1 12 plan_names_1, aI Y q_plan_kinds_1 12 plan_kinds_1, aI Y q_plan_firsts_1 12 plan_firsts_1, aI Y q_plan_seconds_1 12 plan_seconds_1, aI Y q_plan_degrees_1 12 plan_degrees_1, aI Y q_plan_colours_1 12 plan_colours_1, aI Y q_plan_needs_1 12 plan_needs_1, aI Y q_plan_numbers_1 144 plan_numbers_1, oX0 q_3 size_1 top_1 (.ref q_kinds_2) (.ref q_cells_1) (.ref q_ones_1) (.ref q_others_1), aI Y q_kinds_2 20 kinds_2, aI Y q_cells_1 20 cells_1, aI Y q_ones_1 20 ones_1, aI Y q_others_1 20 others_1, oX2 q_4 0 0 0 (.null)]) rfl ?_)
  refine g_dup C dX10_init_41 rfl ?_
  obtain ⟨P_4, hP, h⟩ := h
  refine g_callIN (As := []) (rest := [.ref q_4, .ref h0]) C (mX2_init l D Y q_4 P_4 hP) dX10_init_42 rfl wNM_X10_32 wI_X2_init wN_X2 wC_X2_init (n := 0) (by decide +kernel) rfl rfl ⟨Nat.le_of_ble_eq_true rfl, Nat.le_of_ble_eq_true rfl⟩ ⟨Nat.le_of_ble_eq_true rfl, Nat.le_of_ble_eq_true rfl⟩ (Nat.le_of_ble_eq_true rfl) [30] [0, 1, 2, 3, 4, 5, 6, 7, 8, 9, 10, 11, 12, 13, 14, 15, 16, 17, 18, 19, 20, 21, 22, 23, 24, 25, 26, 27, 28, 29] rfl rfl rfl (fun v wc hv => ?_)
  obtain ⟨kept_1, bound_2, modulus_2, q_numbers_2, numbers_2, rfl, rfl, hq⟩ := hv
  replace h := h kept_1 bound_2 modulus_2 numbers_2 hq
  refine gG.eqw (ws' := [oX10 h0 (.ref q_1) (.ref q_2) (.ref q_3) (.null) (.null) (.null), oX3 q_1 bound_1 modulus_1 seed_1 functions_1 (.ref q_names_1) (.ref q_kinds_1) (.ref q_firsts_1) (.ref q_seconds_1) (.ref q_degrees_1) (.ref q_colours_1) (.ref q_needs_1) (.ref q_numbers_1), aI Y q_names_1 12 names_1, aI Y q_kinds_1 12 kinds_1, aI Y q_firsts_1 12 firsts_1, aI Y q_seconds_1 12 seconds_1, aI Y q_degrees_1 12 degrees_1, aI Y q_colours_1 12 colours_1, aI Y q_needs_1 12 needs_1, aI Y q_numbers_1 144 numbers_1, oX5 q_2 (.ref q_tape_1) lines_1 faulty_1 place_1 (.ref q_plan_1) token_1 toldOnce_1, oX9 q_tape_1 tape_fed_1 (.ref q_tape_bytes_1) (.ref q_tape_sorts_1) (.ref q_tape_starts_1) (.ref q_tape_contents_1) tape_length_1 tape_tokens_1 tape_at_1, aI Y q_tape_bytes_1 700 tape_bytes_1, aI Y q_tape_sorts_1 701 tape_sorts_1, aI Y q_tape_starts_1 701 tape_starts_1, aI Y q_tape_contents_1 701 tape_contents_1, oX3 q_plan_1 plan_bound_1 plan_modulus_1 plan_seed_1 plan_functions_1 (.ref q_plan_names_1) (.ref q_plan_kinds_1) (.ref q_plan_firsts_1) (.ref q_plan_seconds_1) (.ref q_plan_degrees_1) (.ref q_plan_colours_1) (.ref q_plan_needs_1) (.ref q_plan_numbers_1), aI Y q_plan_names_1 12 plan_names_1, aI Y q_plan_kinds_1 12 plan_kinds_1, aI Y q_plan_firsts_1 12 plan_firsts_1, aI Y q_plan_seconds_1 12 plan_seconds_1, aI Y q_plan_degrees_1 12 plan_degrees_1, aI Y q_plan_colours_1 12 plan_colours_1, aI Y q_plan_needs_1 12 plan_needs_1, aI Y q_plan_numbers_1 144 plan_numbers_1, oX0 q_3 size_1 top_1 (.ref q_kinds_2) (.ref q_cells_1) (.ref q_ones_1) (.ref q_others_1), aI Y q_kinds_2 20 kinds_2, aI Y q_cells_1 20 cells_1, aI Y q_ones_1 20 ones_1, aI Y q_others_1 20 others_1, oX2 q_4 kept_1 bound_2 modulus_2 (.ref q_numbers_2), aI Y q_numbers_2 144 numbers_2]) rfl ?_
  refine g_putF C inX10 tyX10 tyX10_ok nmX10 0 rfl rfl 3 (by decide) wF_X10_33 rfl hin rfl rfl rfl (Nat.le_of_ble_eq_true rfl) (ws' := [oX10 h0 (.ref q_1) (.ref q_2) (.ref q_3) (.ref q_4) (.null) (.null), oX3 q_1 bound_1 modulus_1 seed_1 functions_1 (.ref q_names_1) (.ref q_kinds_1) (.ref q_firsts_1) (.ref q_seconds_1) (.ref q_degrees_1) (.ref q_colours_1) (.ref q_needs_1) (.ref q_numbers_1), aI Y q_names_1 12 names_1, aI Y q_kinds_1 12 kinds_1, aI Y q_firsts_1 12 firsts_1, aI Y q_seconds_1 12 seconds_1, aI Y q_degrees_1 12 degrees_1, aI Y q_colours_1 12 colours_1, aI Y q_needs_1 12 needs_1, aI Y q_numbers_1 144 numbers_1, oX5 q_2 (.ref q_tape_1) lines_1 faulty_1 place_1 (.ref q_plan_1) token_1 toldOnce_1, oX9 q_tape_1 tape_fed_1 (.ref q_tape_bytes_1) (.ref q_tape_sorts_1) (.ref q_tape_starts_1) (.ref q_tape_contents_1) tape_length_1 tape_tokens_1 tape_at_1, aI Y q_tape_bytes_1 700 tape_bytes_1, aI Y q_tape_sorts_1 701 tape_sorts_1, aI Y q_tape_starts_1 701 tape_starts_1, aI Y q_tape_contents_1 701 tape_contents_1, oX3 q_plan_1 plan_bound_1 plan_modulus_1 plan_seed_1 plan_functions_1 (.ref q_plan_names_1) (.ref q_plan_kinds_1) (.ref q_plan_firsts_1) (.ref q_plan_seconds_1) (.ref q_plan_degrees_1) (.ref q_plan_colours_1) (.ref q_plan_needs_1) (.ref q_plan_numbers_1), aI Y q_plan_names_1 12 plan_names_1, aI Y q_plan_kinds_1 12 plan_kinds_1, aI Y q_plan_firsts_1 12 plan_firsts_1, aI Y q_plan_seconds_1 12 plan_seconds_1, aI Y q_plan_degrees_1 12 plan_degrees_1, aI Y q_plan_colours_1 12 plan_colours_1, aI Y q_plan_needs_1 12 plan_needs_1, aI Y q_plan_numbers_1 144 plan_numbers_1, oX0 q_3 size_1 top_1 (.ref q_kinds_2) (.ref q_cells_1) (.ref q_ones_1) (.ref q_others_1), aI Y q_kinds_2 20 kinds_2, aI Y q_cells_1 20 cells_1, aI Y q_ones_1 20 ones_1, aI Y q_others_1 20 others_1, oX2 q_4 kept_1 bound_2 modulus_2 (.ref q_numbers_2), aI Y q_numbers_2 144 numbers_2]) rfl dX10_init_45 ?_
  refine g_aload_n C dX10_init_48 0 rfl ?_
  refine g_new (fs := [.null, .null, .null, .int 0]) C inX7 tyX7 tyX7_ok wL_X10_37 wT_X7 wN_X7 rfl rfl ⟨Nat.le_of_ble_eq_true rfl, Nat.le_of_ble_eq_true rfl⟩ dX10_init_49 (fun q_5 => gG.eqw (ws' := [oX10 h0 (.ref q_1) (.ref q_2) (.ref q_3) (.ref q_4) (.null) (.null), oX3 q_1 bound_1 modulus_1 seed_1 functions_1 (.ref q_names_1) (.ref q_kinds_1) (.ref q_firsts_1) (.ref q_seconds_1) (.ref q_degrees_1) (.ref q_colours_1) (.ref q_needs_1) (.ref q_numbers_1), aI Y q_names_1 12 names_1, aI Y q_kinds_1 12 kinds_1, aI Y q_firsts_1 12 firsts_1, aI Y q_seconds_1 12 seconds_1, aI Y q_degrees_1 12 degrees_1, aI Y q_colours_1 12 colours_1, aI Y q_needs_1 12 needs_1, aI Y q_numbers_1 144 numbers_1, oX5 q_2 (.ref q_tape_1) lines_1 faulty_1 place_1 (.ref q_plan_1) token_1 toldOnce_1, oX9 q_tape_1 tape_fed_1 (.ref q_tape_bytes_1) (.ref q_tape_sorts_1) (.ref q_tape_starts_1) (.ref q_tape_contents_1) tape_length_1 tape_tokens_1 tape_at_1, aI Y q_tape_bytes_1 700 tape_bytes_1, aI Y q_tape_sorts_1 701 tape_sorts_1, aI Y q_tape_starts_1 701 tape_starts_1, aI Y q_tape_contents_1 701 tape_contents_1, oX3 q_plan_1 plan_bound_1 plan_modulus_1 plan_seed_1 plan_functions_1 (.ref q_plan_names_1) (.ref q_plan_kinds_1) (.ref q_plan_firsts_1) (.ref q_plan_seconds_1) (.ref q_plan_degrees_1) (.ref q_plan_colours_1) (.ref q_plan_needs_1) (.ref q_plan_numbers_1), aI Y q_plan_names_1 12 plan_names_1, aI Y q_plan_kinds_1 12 plan_kinds_1, aI Y q_plan_firsts_1 12 plan_firsts_1, aI Y q_plan_seconds_1 12 plan_seconds_1, aI Y q_plan_degrees_1 12 plan_degrees_1, aI Y q_plan_colours_1 12 plan_colours_1, aI Y q_plan_needs_1 12 plan_needs_1, aI Y q_plan_numbers_1 144 plan_numbers_1, oX0 q_3 size_1 top_1 (.ref q_kinds_2) (.ref q_cells_1) (.ref q_ones_1) (.ref q_others_1), aI Y q_kinds_2 20 kinds_2, aI Y q_cells_1 20 cells_1, aI Y q_ones_1 20 ones_1, aI Y q_others_1 20 others_1, oX2 q_4 kept_1 bound_2 modulus_2 (.ref q_numbers_2), aI Y q_numbers_2 144 numbers_2, oX7 q_5 (.null) (.null) (.null) 0]) rfl ?_)
  refine g_dup C dX10_init_52 rfl ?_
  obtain ⟨P_5, hP, h⟩ := h
  refine g_callI (As := []) (rest := [.ref q_5, .ref h0]) C (mX7_init l D Y q_5 P_5 hP) dX10_init_53 rfl wM_X10_39 wI_X7_init wN_X7 wC_X7_init (n := 0) (by decide +kernel) rfl rfl ⟨Nat.le_of_ble_eq_true rfl, Nat.le_of_ble_eq_true rfl⟩ ⟨Nat.le_of_ble_eq_true rfl, Nat.le_of_ble_eq_true rfl⟩ (Nat.le_of_ble_eq_true rfl) [32] [0, 1, 2, 3, 4, 5, 6, 7, 8, 9, 10, 11, 12, 13, 14, 15, 16, 17, 18, 19, 20, 21, 22, 23, 24, 25, 26, 27, 28, 29, 30, 31] rfl rfl rfl (fun v wc hv => ?_)
  obtain ⟨ra, rs_1, rf_1, rm_1, rl_1, ru_1, rn_1, rv_1, q_sieve_1, q_powers_1, q_rows_1, turn_1, q_sieve_least_1, sieve_least_1, q_powers_ofPrime_1, q_powers_cells_1, powers_ofPrime_1, powers_cells_1, rfl, rfl, hq⟩ := hv
  replace h := h rf_1 rm_1 rl_1 ru_1 rn_1 rv_1 turn_1 sieve_least_1 powers_ofPrime_1 powers_cells_1 hq
  refine gG.perm (ws' := (rowsW Y ra rs_1 rf_1 rm_1 rl_1 ru_1 rn_1 rv_1 ++ [oX10 h0 (.ref q_1) (.ref q_2) (.ref q_3) (.ref q_4) (.null) (.null), oX3 q_1 bound_1 modulus_1 seed_1 functions_1 (.ref q_names_1) (.ref q_kinds_1) (.ref q_firsts_1) (.ref q_seconds_1) (.ref q_degrees_1) (.ref q_colours_1) (.ref q_needs_1) (.ref q_numbers_1), aI Y q_names_1 12 names_1, aI Y q_kinds_1 12 kinds_1, aI Y q_firsts_1 12 firsts_1, aI Y q_seconds_1 12 seconds_1, aI Y q_degrees_1 12 degrees_1, aI Y q_colours_1 12 colours_1, aI Y q_needs_1 12 needs_1, aI Y q_numbers_1 144 numbers_1, oX5 q_2 (.ref q_tape_1) lines_1 faulty_1 place_1 (.ref q_plan_1) token_1 toldOnce_1, oX9 q_tape_1 tape_fed_1 (.ref q_tape_bytes_1) (.ref q_tape_sorts_1) (.ref q_tape_starts_1) (.ref q_tape_contents_1) tape_length_1 tape_tokens_1 tape_at_1, aI Y q_tape_bytes_1 700 tape_bytes_1, aI Y q_tape_sorts_1 701 tape_sorts_1, aI Y q_tape_starts_1 701 tape_starts_1, aI Y q_tape_contents_1 701 tape_contents_1, oX3 q_plan_1 plan_bound_1 plan_modulus_1 plan_seed_1 plan_functions_1 (.ref q_plan_names_1) (.ref q_plan_kinds_1) (.ref q_plan_firsts_1) (.ref q_plan_seconds_1) (.ref q_plan_degrees_1) (.ref q_plan_colours_1) (.ref q_plan_needs_1) (.ref q_plan_numbers_1), aI Y q_plan_names_1 12 plan_names_1, aI Y q_plan_kinds_1 12 plan_kinds_1, aI Y q_plan_firsts_1 12 plan_firsts_1, aI Y q_plan_seconds_1 12 plan_seconds_1, aI Y q_plan_degrees_1 12 plan_degrees_1, aI Y q_plan_colours_1 12 plan_colours_1, aI Y q_plan_needs_1 12 plan_needs_1, aI Y q_plan_numbers_1 144 plan_numbers_1, oX0 q_3 size_1 top_1 (.ref q_kinds_2) (.ref q_cells_1) (.ref q_ones_1) (.ref q_others_1), aI Y q_kinds_2 20 kinds_2, aI Y q_cells_1 20 cells_1, aI Y q_ones_1 20 ones_1, aI Y q_others_1 20 others_1, oX2 q_4 kept_1 bound_2 modulus_2 (.ref q_numbers_2), aI Y q_numbers_2 144 numbers_2, oX7 q_5 (.ref q_sieve_1) (.ref q_powers_1) (.ref q_rows_1) turn_1, oX8 q_sieve_1 (.ref q_sieve_least_1), aI Y q_sieve_least_1 2 sieve_least_1, oX4 q_powers_1 (.ref q_powers_ofPrime_1) (.ref q_powers_cells_1), aI Y q_powers_ofPrime_1 18 powers_ofPrime_1, aI Y q_powers_cells_1 216 powers_cells_1, aR Y q_rows_1 4 (fun j => some (ra j))])) [32, 33, 34, 35, 36, 37, 38, 39, 0, 1, 2, 3, 4, 5, 6, 7, 8, 9, 10, 11, 12, 13, 14, 15, 16, 17, 18, 19, 20, 21, 22, 23, 24, 25, 26, 27, 28, 29, 30, 31, 40, 41, 42, 43, 44, 45, 46] rfl rfl ?_
  refine g_putF C inX10 tyX10 tyX10_ok nmX10 8 rfl rfl 4 (by decide) wF_X10_40 rfl hin rfl rfl rfl (Nat.le_of_ble_eq_true rfl) (ws' := (rowsW Y ra rs_1 rf_1 rm_1 rl_1 ru_1 rn_1 rv_1 ++ [oX10 h0 (.ref q_1) (.ref q_2) (.ref q_3) (.ref q_4) (.ref q_5) (.null), oX3 q_1 bound_1 modulus_1 seed_1 functions_1 (.ref q_names_1) (.ref q_kinds_1) (.ref q_firsts_1) (.ref q_seconds_1) (.ref q_degrees_1) (.ref q_colours_1) (.ref q_needs_1) (.ref q_numbers_1), aI Y q_names_1 12 names_1, aI Y q_kinds_1 12 kinds_1, aI Y q_firsts_1 12 firsts_1, aI Y q_seconds_1 12 seconds_1, aI Y q_degrees_1 12 degrees_1, aI Y q_colours_1 12 colours_1, aI Y q_needs_1 12 needs_1, aI Y q_numbers_1 144 numbers_1, oX5 q_2 (.ref q_tape_1) lines_1 faulty_1 place_1 (.ref q_plan_1) token_1 toldOnce_1, oX9 q_tape_1 tape_fed_1 (.ref q_tape_bytes_1) (.ref q_tape_sorts_1) (.ref q_tape_starts_1) (.ref q_tape_contents_1) tape_length_1 tape_tokens_1 tape_at_1, aI Y q_tape_bytes_1 700 tape_bytes_1, aI Y q_tape_sorts_1 701 tape_sorts_1, aI Y q_tape_starts_1 701 tape_starts_1, aI Y q_tape_contents_1 701 tape_contents_1, oX3 q_plan_1 plan_bound_1 plan_modulus_1 plan_seed_1 plan_functions_1 (.ref q_plan_names_1) (.ref q_plan_kinds_1) (.ref q_plan_firsts_1) (.ref q_plan_seconds_1) (.ref q_plan_degrees_1) (.ref q_plan_colours_1) (.ref q_plan_needs_1) (.ref q_plan_numbers_1), aI Y q_plan_names_1 12 plan_names_1, aI Y q_plan_kinds_1 12 plan_kinds_1, aI Y q_plan_firsts_1 12 plan_firsts_1, aI Y q_plan_seconds_1 12 plan_seconds_1, aI Y q_plan_degrees_1 12 plan_degrees_1, aI Y q_plan_colours_1 12 plan_colours_1, aI Y q_plan_needs_1 12 plan_needs_1, aI Y q_plan_numbers_1 144 plan_numbers_1, oX0 q_3 size_1 top_1 (.ref q_kinds_2) (.ref q_cells_1) (.ref q_ones_1) (.ref q_others_1), aI Y q_kinds_2 20 kinds_2, aI Y q_cells_1 20 cells_1, aI Y q_ones_1 20 ones_1, aI Y q_others_1 20 others_1, oX2 q_4 kept_1 bound_2 modulus_2 (.ref q_numbers_2), aI Y q_numbers_2 144 numbers_2, oX7 q_5 (.ref q_sieve_1) (.ref q_powers_1) (.ref q_rows_1) turn_1, oX8 q_sieve_1 (.ref q_sieve_least_1), aI Y q_sieve_least_1 2 sieve_least_1, oX4 q_powers_1 (.ref q_powers_ofPrime_1) (.ref q_powers_cells_1), aI Y q_powers_ofPrime_1 18 powers_ofPrime_1, aI Y q_powers_cells_1 216 powers_cells_1, aR Y q_rows_1 4 (fun j => some (ra j))])) rfl dX10_init_56 ?_
  refine g_aload_n C dX10_init_59 0 rfl ?_
  refine g_new (fs := [.null, .null, .int 0, .int 0]) C inX1 tyX1 tyX1_ok wL_X10_44 wT_X1 wN_X1 rfl rfl ⟨Nat.le_of_ble_eq_true rfl, Nat.le_of_ble_eq_true rfl⟩ dX10_init_60 (fun q_6 => gG.eqw (ws' := (rowsW Y ra rs_1 rf_1 rm_1 rl_1 ru_1 rn_1 rv_1 ++ [oX10 h0 (.ref q_1) (.ref q_2) (.ref q_3) (.ref q_4) (.ref q_5) (.null), oX3 q_1 bound_1 modulus_1 seed_1 functions_1 (.ref q_names_1) (.ref q_kinds_1) (.ref q_firsts_1) (.ref q_seconds_1) (.ref q_degrees_1) (.ref q_colours_1) (.ref q_needs_1) (.ref q_numbers_1), aI Y q_names_1 12 names_1, aI Y q_kinds_1 12 kinds_1, aI Y q_firsts_1 12 firsts_1, aI Y q_seconds_1 12 seconds_1, aI Y q_degrees_1 12 degrees_1, aI Y q_colours_1 12 colours_1, aI Y q_needs_1 12 needs_1, aI Y q_numbers_1 144 numbers_1, oX5 q_2 (.ref q_tape_1) lines_1 faulty_1 place_1 (.ref q_plan_1) token_1 toldOnce_1, oX9 q_tape_1 tape_fed_1 (.ref q_tape_bytes_1) (.ref q_tape_sorts_1) (.ref q_tape_starts_1) (.ref q_tape_contents_1) tape_length_1 tape_tokens_1 tape_at_1, aI Y q_tape_bytes_1 700 tape_bytes_1, aI Y q_tape_sorts_1 701 tape_sorts_1, aI Y q_tape_starts_1 701 tape_starts_1, aI Y q_tape_contents_1 701 tape_contents_1, oX3 q_plan_1 plan_bound_1 plan_modulus_1 plan_seed_1 plan_functions_1 (.ref q_plan_names_1) (.ref q_plan_kinds_1) (.ref q_plan_firsts_1) (.ref q_plan_seconds_1) (.ref q_plan_degrees_1) (.ref q_plan_colours_1) (.ref q_plan_needs_1) (.ref q_plan_numbers_1), aI Y q_plan_names_1 12 plan_names_1, aI Y q_plan_kinds_1 12 plan_kinds_1, aI Y q_plan_firsts_1 12 plan_firsts_1, aI Y q_plan_seconds_1 12 plan_seconds_1, aI Y q_plan_degrees_1 12 plan_degrees_1, aI Y q_plan_colours_1 12 plan_colours_1, aI Y q_plan_needs_1 12 plan_needs_1, aI Y q_plan_numbers_1 144 plan_numbers_1, oX0 q_3 size_1 top_1 (.ref q_kinds_2) (.ref q_cells_1) (.ref q_ones_1) (.ref q_others_1), aI Y q_kinds_2 20 kinds_2, aI Y q_cells_1 20 cells_1, aI Y q_ones_1 20 ones_1, aI Y q_others_1 20 others_1, oX2 q_4 kept_1 bound_2 modulus_2 (.ref q_numbers_2), aI Y q_numbers_2 144 numbers_2, oX7 q_5 (.ref q_sieve_1) (.ref q_powers_1) (.ref q_rows_1) turn_1, oX8 q_sieve_1 (.ref q_sieve_least_1), aI Y q_sieve_least_1 2 sieve_least_1, oX4 q_powers_1 (.ref q_powers_ofPrime_1) (.ref q_powers_cells_1), aI Y q_powers_ofPrime_1 18 powers_ofPrime_1, aI Y q_powers_cells_1 216 powers_cells_1, aR Y q_rows_1 4 (fun j => some (ra j)), oX1 q_6 (.null) (.null) 0 0])) rfl ?_)
  refine g_dup C dX10_init_63 rfl ?_
  obtain ⟨P_6, hP, h⟩ := h
  refine g_callIN (As := []) (rest := [.ref q_6, .ref h0]) C (mX1_init l D Y q_6 P_6 hP) dX10_init_64 rfl wNM_X10_46 wI_X1_init wN_X1 wC_X1_init (n := 0) (by decide +kernel) rfl rfl ⟨Nat.le_of_ble_eq_true rfl, Nat.le_of_ble_eq_true rfl⟩ ⟨Nat.le_of_ble_eq_true rfl, Nat.le_of_ble_eq_true rfl⟩ (Nat.le_of_ble_eq_true rfl) [47] [0, 1, 2, 3, 4, 5, 6, 7, 8, 9, 10, 11, 12, 13, 14, 15, 16, 17, 18, 19, 20, 21, 22, 23, 24, 25, 26, 27, 28, 29, 30, 31, 32, 33, 34, 35, 36, 37, 38, 39, 40, 41, 42, 43, 44, 45, 46] rfl rfl rfl (fun v wc hv => ?_)
  obtain ⟨q_small_1, q_great_1, xF_1, root_1, small_1, great_1, rfl, rfl, hq⟩ := hv
  replace h := h xF_1 root_1 small_1 great_1 hq
  refine gG.eqw (ws' := (rowsW Y ra rs_1 rf_1 rm_1 rl_1 ru_1 rn_1 rv_1 ++ [oX10 h0 (.ref q_1) (.ref q_2) (.ref q_3) (.ref q_4) (.ref q_5) (.null), oX3 q_1 bound_1 modulus_1 seed_1 functions_1 (.ref q_names_1) (.ref q_kinds_1) (.ref q_firsts_1) (.ref q_seconds_1) (.ref q_degrees_1) (.ref q_colours_1) (.ref q_needs_1) (.ref q_numbers_1), aI Y q_names_1 12 names_1, aI Y q_kinds_1 12 kinds_1, aI Y q_firsts_1 12 firsts_1, aI Y q_seconds_1 12 seconds_1, aI Y q_degrees_1 12 degrees_1, aI Y q_colours_1 12 colours_1, aI Y q_needs_1 12 needs_1, aI Y q_numbers_1 144 numbers_1, oX5 q_2 (.ref q_tape_1) lines_1 faulty_1 place_1 (.ref q_plan_1) token_1 toldOnce_1, oX9 q_tape_1 tape_fed_1 (.ref q_tape_bytes_1) (.ref q_tape_sorts_1) (.ref q_tape_starts_1) (.ref q_tape_contents_1) tape_length_1 tape_tokens_1 tape_at_1, aI Y q_tape_bytes_1 700 tape_bytes_1, aI Y q_tape_sorts_1 701 tape_sorts_1, aI Y q_tape_starts_1 701 tape_starts_1, aI Y q_tape_contents_1 701 tape_contents_1, oX3 q_plan_1 plan_bound_1 plan_modulus_1 plan_seed_1 plan_functions_1 (.ref q_plan_names_1) (.ref q_plan_kinds_1) (.ref q_plan_firsts_1) (.ref q_plan_seconds_1) (.ref q_plan_degrees_1) (.ref q_plan_colours_1) (.ref q_plan_needs_1) (.ref q_plan_numbers_1), aI Y q_plan_names_1 12 plan_names_1, aI Y q_plan_kinds_1 12 plan_kinds_1, aI Y q_plan_firsts_1 12 plan_firsts_1, aI Y q_plan_seconds_1 12 plan_seconds_1, aI Y q_plan_degrees_1 12 plan_degrees_1, aI Y q_plan_colours_1 12 plan_colours_1, aI Y q_plan_needs_1 12 plan_needs_1, aI Y q_plan_numbers_1 144 plan_numbers_1, oX0 q_3 size_1 top_1 (.ref q_kinds_2) (.ref q_cells_1) (.ref q_ones_1) (.ref q_others_1), aI Y q_kinds_2 20 kinds_2, aI Y q_cells_1 20 cells_1, aI Y q_ones_1 20 ones_1, aI Y q_others_1 20 others_1, oX2 q_4 kept_1 bound_2 modulus_2 (.ref q_numbers_2), aI Y q_numbers_2 144 numbers_2, oX7 q_5 (.ref q_sieve_1) (.ref q_powers_1) (.ref q_rows_1) turn_1, oX8 q_sieve_1 (.ref q_sieve_least_1), aI Y q_sieve_least_1 2 sieve_least_1, oX4 q_powers_1 (.ref q_powers_ofPrime_1) (.ref q_powers_cells_1), aI Y q_powers_ofPrime_1 18 powers_ofPrime_1, aI Y q_powers_cells_1 216 powers_cells_1, aR Y q_rows_1 4 (fun j => some (ra j)), oX1 q_6 (.ref q_small_1) (.ref q_great_1) xF_1 root_1, aJ Y q_small_1 448 small_1, aJ Y q_great_1 448 great_1])) rfl ?_
  refine g_putF C inX10 tyX10 tyX10_ok nmX10 8 rfl rfl 5 (by decide) wF_X10_47 rfl hin rfl rfl rfl (Nat.le_of_ble_eq_true rfl) (ws' := (rowsW Y ra rs_1 rf_1 rm_1 rl_1 ru_1 rn_1 rv_1 ++ [oX10 h0 (.ref q_1) (.ref q_2) (.ref q_3) (.ref q_4) (.ref q_5) (.ref q_6), oX3 q_1 bound_1 modulus_1 seed_1 functions_1 (.ref q_names_1) (.ref q_kinds_1) (.ref q_firsts_1) (.ref q_seconds_1) (.ref q_degrees_1) (.ref q_colours_1) (.ref q_needs_1) (.ref q_numbers_1), aI Y q_names_1 12 names_1, aI Y q_kinds_1 12 kinds_1, aI Y q_firsts_1 12 firsts_1, aI Y q_seconds_1 12 seconds_1, aI Y q_degrees_1 12 degrees_1, aI Y q_colours_1 12 colours_1, aI Y q_needs_1 12 needs_1, aI Y q_numbers_1 144 numbers_1, oX5 q_2 (.ref q_tape_1) lines_1 faulty_1 place_1 (.ref q_plan_1) token_1 toldOnce_1, oX9 q_tape_1 tape_fed_1 (.ref q_tape_bytes_1) (.ref q_tape_sorts_1) (.ref q_tape_starts_1) (.ref q_tape_contents_1) tape_length_1 tape_tokens_1 tape_at_1, aI Y q_tape_bytes_1 700 tape_bytes_1, aI Y q_tape_sorts_1 701 tape_sorts_1, aI Y q_tape_starts_1 701 tape_starts_1, aI Y q_tape_contents_1 701 tape_contents_1, oX3 q_plan_1 plan_bound_1 plan_modulus_1 plan_seed_1 plan_functions_1 (.ref q_plan_names_1) (.ref q_plan_kinds_1) (.ref q_plan_firsts_1) (.ref q_plan_seconds_1) (.ref q_plan_degrees_1) (.ref q_plan_colours_1) (.ref q_plan_needs_1) (.ref q_plan_numbers_1), aI Y q_plan_names_1 12 plan_names_1, aI Y q_plan_kinds_1 12 plan_kinds_1, aI Y q_plan_firsts_1 12 plan_firsts_1, aI Y q_plan_seconds_1 12 plan_seconds_1, aI Y q_plan_degrees_1 12 plan_degrees_1, aI Y q_plan_colours_1 12 plan_colours_1, aI Y q_plan_needs_1 12 plan_needs_1, aI Y q_plan_numbers_1 144 plan_numbers_1, oX0 q_3 size_1 top_1 (.ref q_kinds_2) (.ref q_cells_1) (.ref q_ones_1) (.ref q_others_1), aI Y q_kinds_2 20 kinds_2, aI Y q_cells_1 20 cells_1, aI Y q_ones_1 20 ones_1, aI Y q_others_1 20 others_1, oX2 q_4 kept_1 bound_2 modulus_2 (.ref q_numbers_2), aI Y q_numbers_2 144 numbers_2, oX7 q_5 (.ref q_sieve_1) (.ref q_powers_1) (.ref q_rows_1) turn_1, oX8 q_sieve_1 (.ref q_sieve_least_1), aI Y q_sieve_least_1 2 sieve_least_1, oX4 q_powers_1 (.ref q_powers_ofPrime_1) (.ref q_powers_cells_1), aI Y q_powers_ofPrime_1 18 powers_ofPrime_1, aI Y q_powers_cells_1 216 powers_cells_1, aR Y q_rows_1 4 (fun j => some (ra j)), oX1 q_6 (.ref q_small_1) (.ref q_great_1) xF_1 root_1, aJ Y q_small_1 448 small_1, aJ Y q_great_1 448 great_1])) rfl dX10_init_67 ?_
  exact g_vret C hR (Nat.le_of_ble_eq_true rfl) (Nat.le_of_ble_eq_true rfl) dX10_init_70 ⟨ra, rs_1, rf_1, rm_1, rl_1, ru_1, rn_1, rv_1, q_1, q_2, q_3, q_4, q_5, q_6, bound_1, modulus_1, seed_1, functions_1, q_names_1, q_kinds_1, q_firsts_1, q_seconds_1, q_degrees_1, q_colours_1, q_needs_1, q_numbers_1, names_1, kinds_1, firsts_1, seconds_1, degrees_1, colours_1, needs_1, numbers_1, q_tape_1, lines_1, faulty_1, place_1, q_plan_1, token_1, toldOnce_1, tape_fed_1, q_tape_bytes_1, q_tape_sorts_1, q_tape_starts_1, q_tape_contents_1, tape_length_1, tape_tokens_1, tape_at_1, tape_bytes_1, tape_sorts_1, tape_starts_1, tape_contents_1, plan_bound_1, plan_modulus_1, plan_seed_1, plan_functions_1, q_plan_names_1, q_plan_kinds_1, q_plan_firsts_1, q_plan_seconds_1, q_plan_degrees_1, q_plan_colours_1, q_plan_needs_1, q_plan_numbers_1, plan_names_1, plan_kinds_1, plan_firsts_1, plan_seconds_1, plan_degrees_1, plan_colours_1, plan_needs_1, plan_numbers_1, size_1, top_1, q_kinds_2, q_cells_1, q_ones_1, q_others_1, kinds_2, cells_1, ones_1, others_1, kept_1, bound_2, modulus_2, q_numbers_2, numbers_2, q_sieve_1, q_powers_1, q_rows_1, turn_1, q_sieve_least_1, sieve_least_1, q_powers_ofPrime_1, q_powers_cells_1, powers_ofPrime_1, powers_cells_1, q_small_1, q_great_1, xF_1, root_1, small_1, great_1, rfl, rfl, h⟩
theorem dX10_feed_0 : decode cX10_feed 0 = .ok (.aload_n 0, 1) := by decide +kernel
theorem dX10_feed_1 : decode cX10_feed 1 = .ok (.getfield 19, 3) := by decide +kernel
theorem dX10_feed_4 : decode cX10_feed 4 = .ok (.getfield 51, 3) := by decide +kernel
theorem dX10_feed_7 : decode cX10_feed 7 = .ok (.invokevirtual 55, 3) := by decide +kernel
theorem dX10_feed_10 : decode cX10_feed 10 = .ok (.ifCond .ne 5, 3) := by decide +kernel
theorem dX10_feed_13 : decode cX10_feed 13 = .ok (.iconst (-1), 1) := by decide +kernel
theorem dX10_feed_14 : decode cX10_feed 14 = .ok (.ireturn, 1) := by decide +kernel
theorem dX10_feed_15 : decode cX10_feed 15 = .ok (.aload_n 0, 1) := by decide +kernel
theorem dX10_feed_16 : decode cX10_feed 16 = .ok (.getfield 19, 3) := by decide +kernel
theorem dX10_feed_19 : decode cX10_feed 19 = .ok (.getfield 51, 3) := by decide +kernel
theorem dX10_feed_22 : decode cX10_feed 22 = .ok (.iload_n 1, 1) := by decide +kernel
theorem dX10_feed_23 : decode cX10_feed 23 = .ok (.invokevirtual 61, 3) := by decide +kernel
theorem dX10_feed_26 : decode cX10_feed 26 = .ok (.aload_n 0, 1) := by decide +kernel
theorem dX10_feed_27 : decode cX10_feed 27 = .ok (.getfield 19, 3) := by decide +kernel
theorem dX10_feed_30 : decode cX10_feed 30 = .ok (.getfield 51, 3) := by decide +kernel
theorem dX10_feed_33 : decode cX10_feed 33 = .ok (.iload_n 2, 1) := by decide +kernel
theorem dX10_feed_34 : decode cX10_feed 34 = .ok (.invokevirtual 61, 3) := by decide +kernel
theorem dX10_feed_37 : decode cX10_feed 37 = .ok (.aload_n 0, 1) := by decide +kernel
theorem dX10_feed_38 : decode cX10_feed 38 = .ok (.getfield 19, 3) := by decide +kernel
theorem dX10_feed_41 : decode cX10_feed 41 = .ok (.getfield 51, 3) := by decide +kernel
theorem dX10_feed_44 : decode cX10_feed 44 = .ok (.iload_n 3, 1) := by decide +kernel
theorem dX10_feed_45 : decode cX10_feed 45 = .ok (.invokevirtual 61, 3) := by decide +kernel
theorem dX10_feed_48 : decode cX10_feed 48 = .ok (.aload_n 0, 1) := by decide +kernel
theorem dX10_feed_49 : decode cX10_feed 49 = .ok (.getfield 19, 3) := by decide +kernel
theorem dX10_feed_52 : decode cX10_feed 52 = .ok (.getfield 51, 3) := by decide +kernel
theorem dX10_feed_55 : decode cX10_feed 55 = .ok (.iload 4, 2) := by decide +kernel
theorem dX10_feed_57 : decode cX10_feed 57 = .ok (.invokevirtual 61, 3) := by decide +kernel
theorem dX10_feed_60 : decode cX10_feed 60 = .ok (.aload_n 0, 1) := by decide +kernel
theorem dX10_feed_61 : decode cX10_feed 61 = .ok (.getfield 19, 3) := by decide +kernel
theorem dX10_feed_64 : decode cX10_feed 64 = .ok (.getfield 51, 3) := by decide +kernel
theorem dX10_feed_67 : decode cX10_feed 67 = .ok (.iload 5, 2) := by decide +kernel
theorem dX10_feed_69 : decode cX10_feed 69 = .ok (.invokevirtual 61, 3) := by decide +kernel
theorem dX10_feed_72 : decode cX10_feed 72 = .ok (.aload_n 0, 1) := by decide +kernel
theorem dX10_feed_73 : decode cX10_feed 73 = .ok (.getfield 19, 3) := by decide +kernel
theorem dX10_feed_76 : decode cX10_feed 76 = .ok (.getfield 51, 3) := by decide +kernel
theorem dX10_feed_79 : decode cX10_feed 79 = .ok (.getfield 65, 3) := by decide +kernel
theorem dX10_feed_82 : decode cX10_feed 82 = .ok (.ireturn, 1) := by decide +kernel
/-- QuotientSums.feed(IIIII)I -/
def wX10_feed (reader_lines : Int32) (reader_faulty : Int32) (reader_place : Int32) (reader_token : Int32) (reader_toldOnce : Int32) (reader_tape_fed : Int32) (reader_tape_length : Int32) (reader_tape_tokens : Int32) (reader_tape_at : Int32) (reader_tape_bytes : Nat → Int32) (a1 : Int32) (a2 : Int32) (a3 : Int32) (a4 : Int32) (a5 : Int32) (Q : (Int32) → (Int32) → (Nat → Int32) → Prop) : Prop :=
  (∃ (P_1 : (Int32) → Prop), wX9_hasRoom reader_tape_fed reader_tape_length reader_tape_tokens reader_tape_at P_1 ∧ ∀ (rF_1 : Int32), P_1 rF_1 → ((¬ rF_1 = 0 → (∃ (P_2 : (Int32) → (Nat → Int32) → Prop), wX9_append reader_tape_fed reader_tape_length reader_tape_tokens reader_tape_at reader_tape_bytes a1 P_2 ∧ ∀ (fed_1 : Int32) (bytes_1 : Nat → Int32), P_2 fed_1 bytes_1 → ∃ (P_3 : (Int32) → (Nat → Int32) → Prop), wX9_append fed_1 reader_tape_length reader_tape_tokens reader_tape_at bytes_1 a2 P_3 ∧ ∀ (fed_2 : Int32) (bytes_2 : Nat → Int32), P_3 fed_2 bytes_2 → ∃ (P_4 : (Int32) → (Nat → Int32) → Prop), wX9_append fed_2 reader_tape_length reader_tape_tokens reader_tape_at bytes_2 a3 P_4 ∧ ∀ (fed_3 : Int32) (bytes_3 : Nat → Int32), P_4 fed_3 bytes_3 → ∃ (P_5 : (Int32) → (Nat → Int32) → Prop), wX9_append fed_3 reader_tape_length reader_tape_tokens reader_tape_at bytes_3 a4 P_5 ∧ ∀ (fed_4 : Int32) (bytes_4 : Nat → Int32), P_5 fed_4 bytes_4 → ∃ (P_6 : (Int32) → (Nat → Int32) → Prop), wX9_append fed_4 reader_tape_length reader_tape_tokens reader_tape_at bytes_4 a5 P_6 ∧ ∀ (fed_5 : Int32) (bytes_5 : Nat → Int32), P_6 fed_5 bytes_5 → (Q fed_5 fed_5 bytes_5))) ∧ (rF_1 = 0 → (Q (-1) reader_tape_fed reader_tape_bytes))))
set_option maxHeartbeats 4000000 in
set_option maxRecDepth 100000 in
theorem mX10_feed (l : Launch) (D : va_G) (Y : Nat → ClassId) (h0 : Nat) (v_now : Value) (q_reader : Nat) (v_changes : Value) (v_image : Value) (v_rows : Value) (v_couples : Value) (q_reader_tape : Nat) (reader_lines : Int32) (reader_faulty : Int32) (reader_place : Int32) (v_reader_plan : Value) (reader_token : Int32) (reader_toldOnce : Int32) (reader_tape_fed : Int32) (q_reader_tape_bytes : Nat) (v_reader_tape_sorts : Value) (v_reader_tape_starts : Value) (v_reader_tape_contents : Value) (reader_tape_length : Int32) (reader_tape_tokens : Int32) (reader_tape_at : Int32) (reader_tape_bytes : Nat → Int32) (a1 : Int32) (a2 : Int32) (a3 : Int32) (a4 : Int32) (a5 : Int32) (Q : (Int32) → (Int32) → (Nat → Int32) → Prop) (h : wX10_feed reader_lines reader_faulty reader_place reader_token reader_toldOnce reader_tape_fed reader_tape_length reader_tape_tokens reader_tape_at reader_tape_bytes a1 a2 a3 a4 a5 Q) : gM l D Y yX10_feed cX10_feed 6 (some .int) 1 22 0 0 [.ref h0, .int a1, .int a2, .int a3, .int a4, .int a5] [oX10 h0 (v_now) (.ref q_reader) (v_changes) (v_image) (v_rows) (v_couples), oX5 q_reader (.ref q_reader_tape) reader_lines reader_faulty reader_place (v_reader_plan) reader_token reader_toldOnce, oX9 q_reader_tape reader_tape_fed (.ref q_reader_tape_bytes) (v_reader_tape_sorts) (v_reader_tape_starts) (v_reader_tape_contents) reader_tape_length reader_tape_tokens reader_tape_at, aI Y q_reader_tape_bytes 700 reader_tape_bytes] (fun v w => ∃ r : Int32, ∃ reader_tape_fed' : Int32, ∃ reader_tape_bytes' : Nat → Int32, v = some (.int r) ∧ w = [oX10 h0 (v_now) (.ref q_reader) (v_changes) (v_image) (v_rows) (v_couples), oX5 q_reader (.ref q_reader_tape) reader_lines reader_faulty reader_place (v_reader_plan) reader_token reader_toldOnce, oX9 q_reader_tape reader_tape_fed' (.ref q_reader_tape_bytes) (v_reader_tape_sorts) (v_reader_tape_starts) (v_reader_tape_contents) reader_tape_length reader_tape_tokens reader_tape_at, aI Y q_reader_tape_bytes 700 reader_tape_bytes'] ∧ Q r reader_tape_fed' reader_tape_bytes') := by
  refine gM_of (own := RX10) (by decide +kernel) rfl (Nat.le_of_ble_eq_true rfl) rfl (fun E C hR => ?_)
  unfold wX10_feed at h
  refine g_aload_n C dX10_feed_0 0 rfl ?_
  refine g_get C inX10 0 rfl rfl 1 (by decide) wF_X10_19 rfl dX10_feed_1 ?_
  refine g_get C inX5 1 rfl rfl 0 (by decide) wF_X10_51 rfl dX10_feed_4 ?_
  obtain ⟨P_1, hP, h⟩ := h
  refine g_callV (As := []) (rest := []) C (mX9_hasRoom l D Y q_reader_tape reader_tape_fed (.ref q_reader_tape_bytes) v_reader_tape_sorts v_reader_tape_starts v_reader_tape_contents reader_tape_length reader_tape_tokens reader_tape_at P_1 hP) dX10_feed_7 rfl wM_X10_55 wI_X9_hasRoom wV_X9_hasRoom wN_X9 wC_X9_hasRoom (n := 0) (by decide +kernel) rfl (q0 := 0) rfl rfl ⟨Nat.le_of_ble_eq_true rfl, Nat.le_of_ble_eq_true rfl⟩ ⟨Nat.le_of_ble_eq_true rfl, Nat.le_of_ble_eq_true rfl⟩ (Nat.le_of_ble_eq_true rfl) [2] [0, 1, 3] rfl rfl rfl (fun v wc hv => ?_)
  obtain ⟨rF_1, rfl, rfl, hq⟩ := hv
  replace h := h rF_1 hq
  refine gG.perm (ws' := [oX10 h0 (v_now) (.ref q_reader) (v_changes) (v_image) (v_rows) (v_couples), oX5 q_reader (.ref q_reader_tape) reader_lines reader_faulty reader_place (v_reader_plan) reader_token reader_toldOnce, oX9 q_reader_tape reader_tape_fed (.ref q_reader_tape_bytes) (v_reader_tape_sorts) (v_reader_tape_starts) (v_reader_tape_contents) reader_tape_length reader_tape_tokens reader_tape_at, aI Y q_reader_tape_bytes 700 reader_tape_bytes]) [0, 1, 3, 2] rfl rfl ?_
  refine g_if_ne (tgt := 15) C dX10_feed_10 (by decide) (fun c_1 => ?_) (fun c_1 => ?_)
  · replace h := h.1 c_1
    refine g_aload_n C dX10_feed_15 0 rfl ?_
    refine g_get C inX10 0 rfl rfl 1 (by decide) wF_X10_19 rfl dX10_feed_16 ?_
    refine g_get C inX5 1 rfl rfl 0 (by decide) wF_X10_51 rfl dX10_feed_19 ?_
    refine g_iload_n C dX10_feed_22 1 rfl ?_
    obtain ⟨P_2, hP, h⟩ := h
    refine g_callV (As := [.int a1]) (rest := []) C (mX9_append l D Y q_reader_tape reader_tape_fed q_reader_tape_bytes v_reader_tape_sorts v_reader_tape_starts v_reader_tape_contents reader_tape_length reader_tape_tokens reader_tape_at reader_tape_bytes a1 P_2 hP) dX10_feed_23 rfl wM_X10_61 wI_X9_append wV_X9_append wN_X9 wC_X9_append (n := 1) (by decide +kernel) rfl (q0 := 0) rfl rfl ⟨Nat.le_of_ble_eq_true rfl, Nat.le_of_ble_eq_true rfl⟩ ⟨Nat.le_of_ble_eq_true rfl, Nat.le_of_ble_eq_true rfl⟩ (Nat.le_of_ble_eq_true rfl) [2, 3] [0, 1] rfl rfl rfl (fun v wc hv => ?_)
    obtain ⟨fed_1, bytes_1, rfl, rfl, hq⟩ := hv
    replace h := h fed_1 bytes_1 hq
    refine gG.eqw (ws' := [oX10 h0 (v_now) (.ref q_reader) (v_changes) (v_image) (v_rows) (v_couples), oX5 q_reader (.ref q_reader_tape) reader_lines reader_faulty reader_place (v_reader_plan) reader_token reader_toldOnce, oX9 q_reader_tape fed_1 (.ref q_reader_tape_bytes) (v_reader_tape_sorts) (v_reader_tape_starts) (v_reader_tape_contents) reader_tape_length reader_tape_tokens reader_tape_at, aI Y q_reader_tape_bytes 700 bytes_1]) rfl ?_
    refine g_aload_n C dX10_feed_26 0 rfl ?_
    refine g_get C inX10 0 rfl rfl 1 (by decide) wF_X10_19 rfl dX10_feed_27 ?_
    refine g_get C inX5 1 rfl rfl 0 (by decide) wF_X10_51 rfl dX10_feed_30 ?_
    refine g_iload_n C dX10_feed_33 2 rfl ?_
    obtain ⟨P_3, hP, h⟩ := h
    refine g_callV (As := [.int a2]) (rest := []) C (mX9_append l D Y q_reader_tape fed_1 q_reader_tape_bytes v_reader_tape_sorts v_reader_tape_starts v_reader_tape_contents reader_tape_length reader_tape_tokens reader_tape_at bytes_1 a2 P_3 hP) dX10_feed_34 rfl wM_X10_61 wI_X9_append wV_X9_append wN_X9 wC_X9_append (n := 1) (by decide +kernel) rfl (q0 := 0) rfl rfl ⟨Nat.le_of_ble_eq_true rfl, Nat.le_of_ble_eq_true rfl⟩ ⟨Nat.le_of_ble_eq_true rfl, Nat.le_of_ble_eq_true rfl⟩ (Nat.le_of_ble_eq_true rfl) [2, 3] [0, 1] rfl rfl rfl (fun v wc hv => ?_)
    obtain ⟨fed_2, bytes_2, rfl, rfl, hq⟩ := hv
    replace h := h fed_2 bytes_2 hq
    refine gG.eqw (ws' := [oX10 h0 (v_now) (.ref q_reader) (v_changes) (v_image) (v_rows) (v_couples), oX5 q_reader (.ref q_reader_tape) reader_lines reader_faulty reader_place (v_reader_plan) reader_token reader_toldOnce, oX9 q_reader_tape fed_2 (.ref q_reader_tape_bytes) (v_reader_tape_sorts) (v_reader_tape_starts) (v_reader_tape_contents) reader_tape_length reader_tape_tokens reader_tape_at, aI Y q_reader_tape_bytes 700 bytes_2]) rfl ?_
    refine g_aload_n C dX10_feed_37 0 rfl ?_
    refine g_get C inX10 0 rfl rfl 1 (by decide) wF_X10_19 rfl dX10_feed_38 ?_
    refine g_get C inX5 1 rfl rfl 0 (by decide) wF_X10_51 rfl dX10_feed_41 ?_
    refine g_iload_n C dX10_feed_44 3 rfl ?_
    obtain ⟨P_4, hP, h⟩ := h
    refine g_callV (As := [.int a3]) (rest := []) C (mX9_append l D Y q_reader_tape fed_2 q_reader_tape_bytes v_reader_tape_sorts v_reader_tape_starts v_reader_tape_contents reader_tape_length reader_tape_tokens reader_tape_at bytes_2 a3 P_4 hP) dX10_feed_45 rfl wM_X10_61 wI_X9_append wV_X9_append wN_X9 wC_X9_append (n := 1) (by decide +kernel) rfl (q0 := 0) rfl rfl ⟨Nat.le_of_ble_eq_true rfl, Nat.le_of_ble_eq_true rfl⟩ ⟨Nat.le_of_ble_eq_true rfl, Nat.le_of_ble_eq_true rfl⟩ (Nat.le_of_ble_eq_true rfl) [2, 3] [0, 1] rfl rfl rfl (fun v wc hv => ?_)
    obtain ⟨fed_3, bytes_3, rfl, rfl, hq⟩ := hv
    replace h := h fed_3 bytes_3 hq
    refine gG.eqw (ws' := [oX10 h0 (v_now) (.ref q_reader) (v_changes) (v_image) (v_rows) (v_couples), oX5 q_reader (.ref q_reader_tape) reader_lines reader_faulty reader_place (v_reader_plan) reader_token reader_toldOnce, oX9 q_reader_tape fed_3 (.ref q_reader_tape_bytes) (v_reader_tape_sorts) (v_reader_tape_starts) (v_reader_tape_contents) reader_tape_length reader_tape_tokens reader_tape_at, aI Y q_reader_tape_bytes 700 bytes_3]) rfl ?_
    refine g_aload_n C dX10_feed_48 0 rfl ?_
    refine g_get C inX10 0 rfl rfl 1 (by decide) wF_X10_19 rfl dX10_feed_49 ?_
    refine g_get C inX5 1 rfl rfl 0 (by decide) wF_X10_51 rfl dX10_feed_52 ?_
    refine g_iload C dX10_feed_55 4 rfl ?_
    obtain ⟨P_5, hP, h⟩ := h
    refine g_callV (As := [.int a4]) (rest := []) C (mX9_append l D Y q_reader_tape fed_3 q_reader_tape_bytes v_reader_tape_sorts v_reader_tape_starts v_reader_tape_contents reader_tape_length reader_tape_tokens reader_tape_at bytes_3 a4 P_5 hP) dX10_feed_57 rfl wM_X10_61 wI_X9_append wV_X9_append wN_X9 wC_X9_append (n := 1) (by decide +kernel) rfl (q0 := 0) rfl rfl ⟨Nat.le_of_ble_eq_true rfl, Nat.le_of_ble_eq_true rfl⟩ ⟨Nat.le_of_ble_eq_true rfl, Nat.le_of_ble_eq_true rfl⟩ (Nat.le_of_ble_eq_true rfl) [2, 3] [0, 1] rfl rfl rfl (fun v wc hv => ?_)
    obtain ⟨fed_4, bytes_4, rfl, rfl, hq⟩ := hv
    replace h := h fed_4 bytes_4 hq
    refine gG.eqw (ws' := [oX10 h0 (v_now) (.ref q_reader) (v_changes) (v_image) (v_rows) (v_couples), oX5 q_reader (.ref q_reader_tape) reader_lines reader_faulty reader_place (v_reader_plan) reader_token reader_toldOnce, oX9 q_reader_tape fed_4 (.ref q_reader_tape_bytes) (v_reader_tape_sorts) (v_reader_tape_starts) (v_reader_tape_contents) reader_tape_length reader_tape_tokens reader_tape_at, aI Y q_reader_tape_bytes 700 bytes_4]) rfl ?_
    refine g_aload_n C dX10_feed_60 0 rfl ?_
    refine g_get C inX10 0 rfl rfl 1 (by decide) wF_X10_19 rfl dX10_feed_61 ?_
    refine g_get C inX5 1 rfl rfl 0 (by decide) wF_X10_51 rfl dX10_feed_64 ?_
    refine g_iload C dX10_feed_67 5 rfl ?_
    obtain ⟨P_6, hP, h⟩ := h
    refine g_callV (As := [.int a5]) (rest := []) C (mX9_append l D Y q_reader_tape fed_4 q_reader_tape_bytes v_reader_tape_sorts v_reader_tape_starts v_reader_tape_contents reader_tape_length reader_tape_tokens reader_tape_at bytes_4 a5 P_6 hP) dX10_feed_69 rfl wM_X10_61 wI_X9_append wV_X9_append wN_X9 wC_X9_append (n := 1) (by decide +kernel) rfl (q0 := 0) rfl rfl ⟨Nat.le_of_ble_eq_true rfl, Nat.le_of_ble_eq_true rfl⟩ ⟨Nat.le_of_ble_eq_true rfl, Nat.le_of_ble_eq_true rfl⟩ (Nat.le_of_ble_eq_true rfl) [2, 3] [0, 1] rfl rfl rfl (fun v wc hv => ?_)
    obtain ⟨fed_5, bytes_5, rfl, rfl, hq⟩ := hv
    replace h := h fed_5 bytes_5 hq
    refine gG.eqw (ws' := [oX10 h0 (v_now) (.ref q_reader) (v_changes) (v_image) (v_rows) (v_couples), oX5 q_reader (.ref q_reader_tape) reader_lines reader_faulty reader_place (v_reader_plan) reader_token reader_toldOnce, oX9 q_reader_tape fed_5 (.ref q_reader_tape_bytes) (v_reader_tape_sorts) (v_reader_tape_starts) (v_reader_tape_contents) reader_tape_length reader_tape_tokens reader_tape_at, aI Y q_reader_tape_bytes 700 bytes_5]) rfl ?_
    refine g_aload_n C dX10_feed_72 0 rfl ?_
    refine g_get C inX10 0 rfl rfl 1 (by decide) wF_X10_19 rfl dX10_feed_73 ?_
    refine g_get C inX5 1 rfl rfl 0 (by decide) wF_X10_51 rfl dX10_feed_76 ?_
    refine g_get C inX9 2 rfl rfl 0 (by decide) wF_X10_65 rfl dX10_feed_79 ?_
    exact g_iret C hR (Nat.le_of_ble_eq_true rfl) (Nat.le_of_ble_eq_true rfl) dX10_feed_82 ⟨fed_5, fed_5, bytes_5, rfl, rfl, h⟩
  · replace h := h.2 c_1
    refine g_iconst (v := (-1)) C dX10_feed_13 rfl ?_
    exact g_iret C hR (Nat.le_of_ble_eq_true rfl) (Nat.le_of_ble_eq_true rfl) dX10_feed_14 ⟨(-1), reader_tape_fed, reader_tape_bytes, rfl, rfl, h⟩
theorem dX10_text_0 : decode cX10_text 0 = .ok (.iload_n 1, 1) := by decide +kernel
theorem dX10_text_1 : decode cX10_text 1 = .ok (.ifCond .lt 17, 3) := by decide +kernel
theorem dX10_text_4 : decode cX10_text 4 = .ok (.iload_n 1, 1) := by decide +kernel
theorem dX10_text_5 : decode cX10_text 5 = .ok (.aload_n 0, 1) := by decide +kernel
theorem dX10_text_6 : decode cX10_text 6 = .ok (.getfield 19, 3) := by decide +kernel
theorem dX10_text_9 : decode cX10_text 9 = .ok (.getfield 51, 3) := by decide +kernel
theorem dX10_text_12 : decode cX10_text 12 = .ok (.getfield 65, 3) := by decide +kernel
theorem dX10_text_15 : decode cX10_text 15 = .ok (.if_icmp .le 6, 3) := by decide +kernel
theorem dX10_text_18 : decode cX10_text 18 = .ok (.bipush (-2), 2) := by decide +kernel
theorem dX10_text_20 : decode cX10_text 20 = .ok (.ireturn, 1) := by decide +kernel
theorem dX10_text_21 : decode cX10_text 21 = .ok (.aload_n 0, 1) := by decide +kernel
theorem dX10_text_22 : decode cX10_text 22 = .ok (.getfield 19, 3) := by decide +kernel
theorem dX10_text_25 : decode cX10_text 25 = .ok (.iload_n 1, 1) := by decide +kernel
theorem dX10_text_26 : decode cX10_text 26 = .ok (.invokevirtual 69, 3) := by decide +kernel
theorem dX10_text_29 : decode cX10_text 29 = .ok (.ifCond .ne 5, 3) := by decide +kernel
theorem dX10_text_32 : decode cX10_text 32 = .ok (.iconst (-1), 1) := by decide +kernel
theorem dX10_text_33 : decode cX10_text 33 = .ok (.ireturn, 1) := by decide +kernel
theorem dX10_text_34 : decode cX10_text 34 = .ok (.aload_n 0, 1) := by decide +kernel
theorem dX10_text_35 : decode cX10_text 35 = .ok (.aload_n 0, 1) := by decide +kernel
theorem dX10_text_36 : decode cX10_text 36 = .ok (.getfield 19, 3) := by decide +kernel
theorem dX10_text_39 : decode cX10_text 39 = .ok (.aload_n 0, 1) := by decide +kernel
theorem dX10_text_40 : decode cX10_text 40 = .ok (.getfield 10, 3) := by decide +kernel
theorem dX10_text_43 : decode cX10_text 43 = .ok (.invokevirtual 73, 3) := by decide +kernel
theorem dX10_text_46 : decode cX10_text 46 = .ok (.putfield 10, 3) := by decide +kernel
theorem dX10_text_49 : decode cX10_text 49 = .ok (.aload_n 0, 1) := by decide +kernel
theorem dX10_text_50 : decode cX10_text 50 = .ok (.getfield 33, 3) := by decide +kernel
theorem dX10_text_53 : decode cX10_text 53 = .ok (.iconst 0, 1) := by decide +kernel
theorem dX10_text_54 : decode cX10_text 54 = .ok (.putfield 77, 3) := by decide +kernel
theorem dX10_text_57 : decode cX10_text 57 = .ok (.aload_n 0, 1) := by decide +kernel
theorem dX10_text_58 : decode cX10_text 58 = .ok (.getfield 26, 3) := by decide +kernel
theorem dX10_text_61 : decode cX10_text 61 = .ok (.invokevirtual 81, 3) := by decide +kernel
theorem dX10_text_64 : decode cX10_text 64 = .ok (.aload_n 0, 1) := by decide +kernel
theorem dX10_text_65 : decode cX10_text 65 = .ok (.getfield 40, 3) := by decide +kernel
theorem dX10_text_68 : decode cX10_text 68 = .ok (.invokevirtual 84, 3) := by decide +kernel
theorem dX10_text_71 : decode cX10_text 71 = .ok (.aload_n 0, 1) := by decide +kernel
theorem dX10_text_72 : decode cX10_text 72 = .ok (.getfield 19, 3) := by decide +kernel
theorem dX10_text_75 : decode cX10_text 75 = .ok (.getfield 85, 3) := by decide +kernel
theorem dX10_text_78 : decode cX10_text 78 = .ok (.ireturn, 1) := by decide +kernel
/-- QuotientSums.text(I)I -/
def wX10_text (reader_lines : Int32) (reader_faulty : Int32) (reader_place : Int32) (reader_token : Int32) (reader_toldOnce : Int32) (reader_tape_fed : Int32) (reader_tape_length : Int32) (reader_tape_tokens : Int32) (reader_tape_at : Int32) (reader_tape_bytes : Nat → Int32) (reader_tape_sorts : Nat → Int32) (reader_tape_starts : Nat → Int32) (reader_tape_contents : Nat → Int32) (reader_plan_bound : Int32) (reader_plan_modulus : Int32) (reader_plan_seed : Int32) (reader_plan_functions : Int32) (reader_plan_numbers : Nat → Int32) (reader_plan_names : Nat → Int32) (reader_plan_kinds : Nat → Int32) (reader_plan_firsts : Nat → Int32) (reader_plan_seconds : Nat → Int32) (reader_plan_degrees : Nat → Int32) (reader_plan_colours : Nat → Int32) (reader_plan_needs : Nat → Int32) (image_kept : Int32) (image_bound : Int32) (image_modulus : Int32) (changes_size : Int32) (changes_top : Int32) (rf : Nat → Int32) (rm : Nat → Int32) (rl : Nat → Int32) (ru : Nat → Int32) (rn : Nat → Nat) (rv : Nat → Nat → Int32) (rows_turn : Int32) (a1 : Int32) (Q : (Int32) → (Bool) → (Int32) → (Int32) → (Int32) → (Int32) → (Int32) → (Int32) → (Int32) → (Int32) → (Int32) → (Nat → Int32) → (Nat → Int32) → (Nat → Int32) → (Int32) → (Int32) → (Int32) → (Int32) → (Nat → Int32) → (Nat → Int32) → (Nat → Int32) → (Nat → Int32) → (Nat → Int32) → (Nat → Int32) → (Nat → Int32) → (Nat → Int32) → (Int32) → (Int32) → (Nat → Int32) → Prop) : Prop :=
  ((a1 < 0 → (Q (-2) false reader_lines reader_faulty reader_place reader_token reader_toldOnce reader_tape_fed reader_tape_length reader_tape_tokens reader_tape_at reader_tape_sorts reader_tape_starts reader_tape_contents reader_plan_bound reader_plan_modulus reader_plan_seed reader_plan_functions reader_plan_numbers reader_plan_names reader_plan_kinds reader_plan_firsts reader_plan_seconds reader_plan_degrees reader_plan_colours reader_plan_needs image_kept changes_size rf)) ∧ (¬ a1 < 0 → ((a1 ≤ reader_tape_fed → (∃ (P_1 : (Int32) → (Int32) → (Int32) → (Int32) → (Int32) → (Int32) → (Int32) → (Int32) → (Int32) → (Int32) → (Nat → Int32) → (Nat → Int32) → (Nat → Int32) → (Int32) → (Int32) → (Int32) → (Int32) → (Nat → Int32) → (Nat → Int32) → (Nat → Int32) → (Nat → Int32) → (Nat → Int32) → (Nat → Int32) → (Nat → Int32) → (Nat → Int32) → Prop), wX5_read reader_lines reader_faulty reader_place reader_token reader_toldOnce reader_tape_fed reader_tape_length reader_tape_tokens reader_tape_at reader_tape_bytes reader_tape_sorts reader_tape_starts reader_tape_contents reader_plan_bound reader_plan_modulus reader_plan_seed reader_plan_functions reader_plan_numbers reader_plan_names reader_plan_kinds reader_plan_firsts reader_plan_seconds reader_plan_degrees reader_plan_colours reader_plan_needs a1 P_1 ∧ ∀ (rF_1 : Int32) (lines_1 : Int32) (faulty_1 : Int32) (place_1 : Int32) (token_1 : Int32) (toldOnce_1 : Int32) (tape_fed_1 : Int32) (tape_length_1 : Int32) (tape_tokens_1 : Int32) (tape_at_1 : Int32) (tape_sorts_1 : Nat → Int32) (tape_starts_1 : Nat → Int32) (tape_contents_1 : Nat → Int32) (plan_bound_1 : Int32) (plan_modulus_1 : Int32) (plan_seed_1 : Int32) (plan_functions_1 : Int32) (plan_numbers_1 : Nat → Int32) (plan_names_1 : Nat → Int32) (plan_kinds_1 : Nat → Int32) (plan_firsts_1 : Nat → Int32) (plan_seconds_1 : Nat → Int32) (plan_degrees_1 : Nat → Int32) (plan_colours_1 : Nat → Int32) (plan_needs_1 : Nat → Int32), P_1 rF_1 lines_1 faulty_1 place_1 token_1 toldOnce_1 tape_fed_1 tape_length_1 tape_tokens_1 tape_at_1 tape_sorts_1 tape_starts_1 tape_contents_1 plan_bound_1 plan_modulus_1 plan_seed_1 plan_functions_1 plan_numbers_1 plan_names_1 plan_kinds_1 plan_firsts_1 plan_seconds_1 plan_degrees_1 plan_colours_1 plan_needs_1 → ((¬ rF_1 = 0 → (∃ (P_2 : Prop), wX5_swap lines_1 faulty_1 place_1 token_1 toldOnce_1 P_2 ∧ ∀ _ : P_2, ∃ (P_3 : (Int32) → Prop), wX0_forget changes_size changes_top P_3 ∧ ∀ (size_1 : Int32), P_3 size_1 → ∃ (P_4 : (Nat → Int32) → Prop), wX7_forget rows_turn rf rm rl ru rn rv P_4 ∧ ∀ (rf_1 : Nat → Int32), P_4 rf_1 → (Q lines_1 true lines_1 faulty_1 place_1 token_1 toldOnce_1 tape_fed_1 tape_length_1 tape_tokens_1 tape_at_1 tape_sorts_1 tape_starts_1 tape_contents_1 plan_bound_1 plan_modulus_1 plan_seed_1 plan_functions_1 plan_numbers_1 plan_names_1 plan_kinds_1 plan_firsts_1 plan_seconds_1 plan_degrees_1 plan_colours_1 plan_needs_1 0 size_1 rf_1))) ∧ (rF_1 = 0 → (Q (-1) false lines_1 faulty_1 place_1 token_1 toldOnce_1 tape_fed_1 tape_length_1 tape_tokens_1 tape_at_1 tape_sorts_1 tape_starts_1 tape_contents_1 plan_bound_1 plan_modulus_1 plan_seed_1 plan_functions_1 plan_numbers_1 plan_names_1 plan_kinds_1 plan_firsts_1 plan_seconds_1 plan_degrees_1 plan_colours_1 plan_needs_1 image_kept changes_size rf))))) ∧ (¬ a1 ≤ reader_tape_fed → (Q (-2) false reader_lines reader_faulty reader_place reader_token reader_toldOnce reader_tape_fed reader_tape_length reader_tape_tokens reader_tape_at reader_tape_sorts reader_tape_starts reader_tape_contents reader_plan_bound reader_plan_modulus reader_plan_seed reader_plan_functions reader_plan_numbers reader_plan_names reader_plan_kinds reader_plan_firsts reader_plan_seconds reader_plan_degrees reader_plan_colours reader_plan_needs image_kept changes_size rf)))))
set_option maxHeartbeats 4000000 in
set_option maxRecDepth 100000 in
theorem mX10_text (l : Launch) (D : va_G) (Y : Nat → ClassId) (h0 : Nat) (ra : Nat → Nat) (q_now : Nat) (q_reader : Nat) (q_changes : Nat) (q_image : Nat) (q_rows : Nat) (v_couples : Value) (q_reader_tape : Nat) (reader_lines : Int32) (reader_faulty : Int32) (reader_place : Int32) (q_reader_plan : Nat) (reader_token : Int32) (reader_toldOnce : Int32) (reader_tape_fed : Int32) (q_reader_tape_bytes : Nat) (q_reader_tape_sorts : Nat) (q_reader_tape_starts : Nat) (q_reader_tape_contents : Nat) (reader_tape_length : Int32) (reader_tape_tokens : Int32) (reader_tape_at : Int32) (reader_tape_bytes : Nat → Int32) (reader_tape_sorts : Nat → Int32) (reader_tape_starts : Nat → Int32) (reader_tape_contents : Nat → Int32) (reader_plan_bound : Int32) (reader_plan_modulus : Int32) (reader_plan_seed : Int32) (reader_plan_functions : Int32) (q_reader_plan_names : Nat) (q_reader_plan_kinds : Nat) (q_reader_plan_firsts : Nat) (q_reader_plan_seconds : Nat) (q_reader_plan_degrees : Nat) (q_reader_plan_colours : Nat) (q_reader_plan_needs : Nat) (q_reader_plan_numbers : Nat) (reader_plan_numbers : Nat → Int32) (reader_plan_names : Nat → Int32) (reader_plan_kinds : Nat → Int32) (reader_plan_firsts : Nat → Int32) (reader_plan_seconds : Nat → Int32) (reader_plan_degrees : Nat → Int32) (reader_plan_colours : Nat → Int32) (reader_plan_needs : Nat → Int32) (image_kept : Int32) (image_bound : Int32) (image_modulus : Int32) (v_image_numbers : Value) (changes_size : Int32) (changes_top : Int32) (v_changes_kinds : Value) (v_changes_cells : Value) (v_changes_ones : Value) (v_changes_others : Value) (rs : Nat → Nat) (rf : Nat → Int32) (rm : Nat → Int32) (rl : Nat → Int32) (ru : Nat → Int32) (rn : Nat → Nat) (rv : Nat → Nat → Int32) (v_rows_sieve : Value) (v_rows_powers : Value) (q_rows_rows : Nat) (rows_turn : Int32) (a1 : Int32) (Q : (Int32) → (Bool) → (Int32) → (Int32) → (Int32) → (Int32) → (Int32) → (Int32) → (Int32) → (Int32) → (Int32) → (Nat → Int32) → (Nat → Int32) → (Nat → Int32) → (Int32) → (Int32) → (Int32) → (Int32) → (Nat → Int32) → (Nat → Int32) → (Nat → Int32) → (Nat → Int32) → (Nat → Int32) → (Nat → Int32) → (Nat → Int32) → (Nat → Int32) → (Int32) → (Int32) → (Nat → Int32) → Prop) (h : wX10_text reader_lines reader_faulty reader_place reader_token reader_toldOnce reader_tape_fed reader_tape_length reader_tape_tokens reader_tape_at reader_tape_bytes reader_tape_sorts reader_tape_starts reader_tape_contents reader_plan_bound reader_plan_modulus reader_plan_seed reader_plan_functions reader_plan_numbers reader_plan_names reader_plan_kinds reader_plan_firsts reader_plan_seconds reader_plan_degrees reader_plan_colours reader_plan_needs image_kept image_bound image_modulus changes_size changes_top rf rm rl ru rn rv rows_turn a1 Q) : gM l D Y yX10_text cX10_text 2 (some .int) 9 199 0 0 [.ref h0, .int a1] (rowsW Y ra rs rf rm rl ru rn rv ++ [oX10 h0 (.ref q_now) (.ref q_reader) (.ref q_changes) (.ref q_image) (.ref q_rows) (v_couples), oX5 q_reader (.ref q_reader_tape) reader_lines reader_faulty reader_place (.ref q_reader_plan) reader_token reader_toldOnce, oX9 q_reader_tape reader_tape_fed (.ref q_reader_tape_bytes) (.ref q_reader_tape_sorts) (.ref q_reader_tape_starts) (.ref q_reader_tape_contents) reader_tape_length reader_tape_tokens reader_tape_at, aI Y q_reader_tape_bytes 700 reader_tape_bytes, aI Y q_reader_tape_sorts 701 reader_tape_sorts, aI Y q_reader_tape_starts 701 reader_tape_starts, aI Y q_reader_tape_contents 701 reader_tape_contents, oX3 q_reader_plan reader_plan_bound reader_plan_modulus reader_plan_seed reader_plan_functions (.ref q_reader_plan_names) (.ref q_reader_plan_kinds) (.ref q_reader_plan_firsts) (.ref q_reader_plan_seconds) (.ref q_reader_plan_degrees) (.ref q_reader_plan_colours) (.ref q_reader_plan_needs) (.ref q_reader_plan_numbers), aI Y q_reader_plan_numbers 144 reader_plan_numbers, aI Y q_reader_plan_names 12 reader_plan_names, aI Y q_reader_plan_kinds 12 reader_plan_kinds, aI Y q_reader_plan_firsts 12 reader_plan_firsts, aI Y q_reader_plan_seconds 12 reader_plan_seconds, aI Y q_reader_plan_degrees 12 reader_plan_degrees, aI Y q_reader_plan_colours 12 reader_plan_colours, aI Y q_reader_plan_needs 12 reader_plan_needs, oX2 q_image image_kept image_bound image_modulus (v_image_numbers), oX0 q_changes changes_size changes_top (v_changes_kinds) (v_changes_cells) (v_changes_ones) (v_changes_others), oX7 q_rows (v_rows_sieve) (v_rows_powers) (.ref q_rows_rows) rows_turn, aR Y q_rows_rows 4 (fun j => some (ra j))]) (fun v w => ∃ r : Int32, ∃ sw : Bool, ∃ reader_lines' : Int32, ∃ reader_faulty' : Int32, ∃ reader_place' : Int32, ∃ reader_token' : Int32, ∃ reader_toldOnce' : Int32, ∃ reader_tape_fed' : Int32, ∃ reader_tape_length' : Int32, ∃ reader_tape_tokens' : Int32, ∃ reader_tape_at' : Int32, ∃ reader_tape_sorts' : Nat → Int32, ∃ reader_tape_starts' : Nat → Int32, ∃ reader_tape_contents' : Nat → Int32, ∃ reader_plan_bound' : Int32, ∃ reader_plan_modulus' : Int32, ∃ reader_plan_seed' : Int32, ∃ reader_plan_functions' : Int32, ∃ reader_plan_numbers' : Nat → Int32, ∃ reader_plan_names' : Nat → Int32, ∃ reader_plan_kinds' : Nat → Int32, ∃ reader_plan_firsts' : Nat → Int32, ∃ reader_plan_seconds' : Nat → Int32, ∃ reader_plan_degrees' : Nat → Int32, ∃ reader_plan_colours' : Nat → Int32, ∃ reader_plan_needs' : Nat → Int32, ∃ image_kept' : Int32, ∃ changes_size' : Int32, ∃ rf' : Nat → Int32, v = some (.int r) ∧ w = (rowsW Y ra rs rf' rm rl ru rn rv ++ [oX10 h0 ((cond sw (.ref q_reader_plan) (.ref q_now))) (.ref q_reader) (.ref q_changes) (.ref q_image) (.ref q_rows) (v_couples), oX5 q_reader (.ref q_reader_tape) reader_lines' reader_faulty' reader_place' ((cond sw (.ref q_now) (.ref q_reader_plan))) reader_token' reader_toldOnce', oX9 q_reader_tape reader_tape_fed' (.ref q_reader_tape_bytes) (.ref q_reader_tape_sorts) (.ref q_reader_tape_starts) (.ref q_reader_tape_contents) reader_tape_length' reader_tape_tokens' reader_tape_at', aI Y q_reader_tape_bytes 700 reader_tape_bytes, aI Y q_reader_tape_sorts 701 reader_tape_sorts', aI Y q_reader_tape_starts 701 reader_tape_starts', aI Y q_reader_tape_contents 701 reader_tape_contents', oX3 q_reader_plan reader_plan_bound' reader_plan_modulus' reader_plan_seed' reader_plan_functions' (.ref q_reader_plan_names) (.ref q_reader_plan_kinds) (.ref q_reader_plan_firsts) (.ref q_reader_plan_seconds) (.ref q_reader_plan_degrees) (.ref q_reader_plan_colours) (.ref q_reader_plan_needs) (.ref q_reader_plan_numbers), aI Y q_reader_plan_numbers 144 reader_plan_numbers', aI Y q_reader_plan_names 12 reader_plan_names', aI Y q_reader_plan_kinds 12 reader_plan_kinds', aI Y q_reader_plan_firsts 12 reader_plan_firsts', aI Y q_reader_plan_seconds 12 reader_plan_seconds', aI Y q_reader_plan_degrees 12 reader_plan_degrees', aI Y q_reader_plan_colours 12 reader_plan_colours', aI Y q_reader_plan_needs 12 reader_plan_needs', oX2 q_image image_kept' image_bound image_modulus (v_image_numbers), oX0 q_changes changes_size' changes_top (v_changes_kinds) (v_changes_cells) (v_changes_ones) (v_changes_others), oX7 q_rows (v_rows_sieve) (v_rows_powers) (.ref q_rows_rows) rows_turn, aR Y q_rows_rows 4 (fun j => some (ra j))]) ∧ Q r sw reader_lines' reader_faulty' reader_place' reader_token' reader_toldOnce' reader_tape_fed' reader_tape_length' reader_tape_tokens' reader_tape_at' reader_tape_sorts' reader_tape_starts' reader_tape_contents' reader_plan_bound' reader_plan_modulus' reader_plan_seed' reader_plan_functions' reader_plan_numbers' reader_plan_names' reader_plan_kinds' reader_plan_firsts' reader_plan_seconds' reader_plan_degrees' reader_plan_colours' reader_plan_needs' image_kept' changes_size' rf') := by
  refine gM_of (own := RX10) (by decide +kernel) rfl (Nat.le_of_ble_eq_true rfl) rfl (fun E C hR => ?_)
  unfold wX10_text at h
  refine g_iload_n C dX10_text_0 1 rfl ?_
  refine g_if_lt (tgt := 18) C dX10_text_1 (by decide) (fun c_1 => ?_) (fun c_1 => ?_)
  · replace h := h.1 c_1
    refine g_bipush (v := (-2)) C dX10_text_18 rfl ?_
    exact g_iret C hR (Nat.le_of_ble_eq_true rfl) (Nat.le_of_ble_eq_true rfl) dX10_text_20 ⟨(-2), false, reader_lines, reader_faulty, reader_place, reader_token, reader_toldOnce, reader_tape_fed, reader_tape_length, reader_tape_tokens, reader_tape_at, reader_tape_sorts, reader_tape_starts, reader_tape_contents, reader_plan_bound, reader_plan_modulus, reader_plan_seed, reader_plan_functions, reader_plan_numbers, reader_plan_names, reader_plan_kinds, reader_plan_firsts, reader_plan_seconds, reader_plan_degrees, reader_plan_colours, reader_plan_needs, image_kept, changes_size, rf, rfl, rfl, h⟩
  · replace h := h.2 c_1
    refine g_iload_n C dX10_text_4 1 rfl ?_
    refine g_aload_n C dX10_text_5 0 rfl ?_
    refine g_get C inX10 8 rfl rfl 1 (by decide) wF_X10_19 rfl dX10_text_6 ?_
    refine g_get C inX5 9 rfl rfl 0 (by decide) wF_X10_51 rfl dX10_text_9 ?_
    refine g_get C inX9 10 rfl rfl 0 (by decide) wF_X10_65 rfl dX10_text_12 ?_
    refine g_icmp_le (tgt := 21) C dX10_text_15 (by decide) (fun c_2 => ?_) (fun c_2 => ?_)
    · replace h := h.1 c_2
      refine g_aload_n C dX10_text_21 0 rfl ?_
      refine g_get C inX10 8 rfl rfl 1 (by decide) wF_X10_19 rfl dX10_text_22 ?_
      refine g_iload_n C dX10_text_25 1 rfl ?_
      obtain ⟨P_1, hP, h⟩ := h
      refine g_callV (As := [.int a1]) (rest := []) C (mX5_read l D Y q_reader q_reader_tape reader_lines reader_faulty reader_place q_reader_plan reader_token reader_toldOnce reader_tape_fed q_reader_tape_bytes q_reader_tape_sorts q_reader_tape_starts q_reader_tape_contents reader_tape_length reader_tape_tokens reader_tape_at reader_tape_bytes reader_tape_sorts reader_tape_starts reader_tape_contents reader_plan_bound reader_plan_modulus reader_plan_seed reader_plan_functions q_reader_plan_names q_reader_plan_kinds q_reader_plan_firsts q_reader_plan_seconds q_reader_plan_degrees q_reader_plan_colours q_reader_plan_needs q_reader_plan_numbers reader_plan_numbers reader_plan_names reader_plan_kinds reader_plan_firsts reader_plan_seconds reader_plan_degrees reader_plan_colours reader_plan_needs a1 P_1 hP) dX10_text_26 rfl wM_X10_69 wI_X5_read wV_X5_read wN_X5 wC_X5_read (n := 1) (by decide +kernel) rfl (q0 := 0) rfl rfl ⟨Nat.le_of_ble_eq_true rfl, Nat.le_of_ble_eq_true rfl⟩ ⟨Nat.le_of_ble_eq_true rfl, Nat.le_of_ble_eq_true rfl⟩ (Nat.le_of_ble_eq_true rfl) [9, 10, 11, 12, 13, 14, 15, 16, 17, 18, 19, 20, 21, 22, 23] [0, 1, 2, 3, 4, 5, 6, 7, 8, 24, 25, 26, 27] rfl rfl rfl (fun v wc hv => ?_)
      obtain ⟨rF_1, lines_1, faulty_1, place_1, token_1, toldOnce_1, tape_fed_1, tape_length_1, tape_tokens_1, tape_at_1, tape_sorts_1, tape_starts_1, tape_contents_1, plan_bound_1, plan_modulus_1, plan_seed_1, plan_functions_1, plan_numbers_1, plan_names_1, plan_kinds_1, plan_firsts_1, plan_seconds_1, plan_degrees_1, plan_colours_1, plan_needs_1, rfl, rfl, hq⟩ := hv
      replace h := h rF_1 lines_1 faulty_1 place_1 token_1 toldOnce_1 tape_fed_1 tape_length_1 tape_tokens_1 tape_at_1 tape_sorts_1 tape_starts_1 tape_contents_1 plan_bound_1 plan_modulus_1 plan_seed_1 plan_functions_1 plan_numbers_1 plan_names_1 plan_kinds_1 plan_firsts_1 plan_seconds_1 plan_degrees_1 plan_colours_1 plan_needs_1 hq
      refine gG.perm (ws' := (rowsW Y ra rs rf rm rl ru rn rv ++ [oX10 h0 (.ref q_now) (.ref q_reader) (.ref q_changes) (.ref q_image) (.ref q_rows) (v_couples), oX5 q_reader (.ref q_reader_tape) lines_1 faulty_1 place_1 (.ref q_reader_plan) token_1 toldOnce_1, oX9 q_reader_tape tape_fed_1 (.ref q_reader_tape_bytes) (.ref q_reader_tape_sorts) (.ref q_reader_tape_starts) (.ref q_reader_tape_contents) tape_length_1 tape_tokens_1 tape_at_1, aI Y q_reader_tape_bytes 700 reader_tape_bytes, aI Y q_reader_tape_sorts 701 tape_sorts_1, aI Y q_reader_tape_starts 701 tape_starts_1, aI Y q_reader_tape_contents 701 tape_contents_1, oX3 q_reader_plan plan_bound_1 plan_modulus_1 plan_seed_1 plan_functions_1 (.ref q_reader_plan_names) (.ref q_reader_plan_kinds) (.ref q_reader_plan_firsts) (.ref q_reader_plan_seconds) (.ref q_reader_plan_degrees) (.ref q_reader_plan_colours) (.ref q_reader_plan_needs) (.ref q_reader_plan_numbers), aI Y q_reader_plan_numbers 144 plan_numbers_1, aI Y q_reader_plan_names 12 plan_names_1, aI Y q_reader_plan_kinds 12 plan_kinds_1, aI Y q_reader_plan_firsts 12 plan_firsts_1, aI Y q_reader_plan_seconds 12 plan_seconds_1, aI Y q_reader_plan_degrees 12 plan_degrees_1, aI Y q_reader_plan_colours 12 plan_colours_1, aI Y q_reader_plan_needs 12 plan_needs_1, oX2 q_image image_kept image_bound image_modulus (v_image_numbers), oX0 q_changes changes_size changes_top (v_changes_kinds) (v_changes_cells) (v_changes_ones) (v_changes_others), oX7 q_rows (v_rows_sieve) (v_rows_powers) (.ref q_rows_rows) rows_turn, aR Y q_rows_rows 4 (fun j => some (ra j))])) [0, 1, 2, 3, 4, 5, 6, 7, 8, 13, 14, 15, 16, 17, 18, 19, 20, 21, 22, 23, 24, 25, 26, 27, 9, 10, 11, 12] rfl rfl ?_
      refine g_if_ne (tgt := 34) C dX10_text_29 (by decide) (fun c_3 => ?_) (fun c_3 => ?_)
      · replace h := h.1 c_3
        refine g_aload_n C dX10_text_34 0 rfl ?_
        refine g_aload_n C dX10_text_35 0 rfl ?_
        refine g_get C inX10 8 rfl rfl 1 (by decide) wF_X10_19 rfl dX10_text_36 ?_
        refine g_aload_n C dX10_text_39 0 rfl ?_
        refine g_get C inX10 8 rfl rfl 0 (by decide) wF_X10_10 rfl dX10_text_40 ?_
        obtain ⟨P_2, hP, h⟩ := h
        refine g_callV (As := [.ref q_now]) (rest := [.ref h0]) C (mX5_swap l D Y q_reader q_now (.ref q_reader_tape) lines_1 faulty_1 place_1 q_reader_plan token_1 toldOnce_1 P_2 hP) dX10_text_43 rfl wM_X10_73 wI_X5_swap wV_X5_swap wN_X5 wC_X5_swap (n := 1) (by decide +kernel) rfl (q0 := 0) rfl rfl ⟨Nat.le_of_ble_eq_true rfl, Nat.le_of_ble_eq_true rfl⟩ ⟨Nat.le_of_ble_eq_true rfl, Nat.le_of_ble_eq_true rfl⟩ (Nat.le_of_ble_eq_true rfl) [9] [0, 1, 2, 3, 4, 5, 6, 7, 8, 10, 11, 12, 13, 14, 15, 16, 17, 18, 19, 20, 21, 22, 23, 24, 25, 26, 27] rfl rfl rfl (fun v wc hv => ?_)
        obtain ⟨rfl, rfl, hq⟩ := hv
        replace h := h  hq
        refine gG.perm (ws' := (rowsW Y ra rs rf rm rl ru rn rv ++ [oX10 h0 (.ref q_now) (.ref q_reader) (.ref q_changes) (.ref q_image) (.ref q_rows) (v_couples), oX5 q_reader (.ref q_reader_tape) lines_1 faulty_1 place_1 (.ref q_now) token_1 toldOnce_1, oX9 q_reader_tape tape_fed_1 (.ref q_reader_tape_bytes) (.ref q_reader_tape_sorts) (.ref q_reader_tape_starts) (.ref q_reader_tape_contents) tape_length_1 tape_tokens_1 tape_at_1, aI Y q_reader_tape_bytes 700 reader_tape_bytes, aI Y q_reader_tape_sorts 701 tape_sorts_1, aI Y q_reader_tape_starts 701 tape_starts_1, aI Y q_reader_tape_contents 701 tape_contents_1, oX3 q_reader_plan plan_bound_1 plan_modulus_1 plan_seed_1 plan_functions_1 (.ref q_reader_plan_names) (.ref q_reader_plan_kinds) (.ref q_reader_plan_firsts) (.ref q_reader_plan_seconds) (.ref q_reader_plan_degrees) (.ref q_reader_plan_colours) (.ref q_reader_plan_needs) (.ref q_reader_plan_numbers), aI Y q_reader_plan_numbers 144 plan_numbers_1, aI Y q_reader_plan_names 12 plan_names_1, aI Y q_reader_plan_kinds 12 plan_kinds_1, aI Y q_reader_plan_firsts 12 plan_firsts_1, aI Y q_reader_plan_seconds 12 plan_seconds_1, aI Y q_reader_plan_degrees 12 plan_degrees_1, aI Y q_reader_plan_colours 12 plan_colours_1, aI Y q_reader_plan_needs 12 plan_needs_1, oX2 q_image image_kept image_bound image_modulus (v_image_numbers), oX0 q_changes changes_size changes_top (v_changes_kinds) (v_changes_cells) (v_changes_ones) (v_changes_others), oX7 q_rows (v_rows_sieve) (v_rows_powers) (.ref q_rows_rows) rows_turn, aR Y q_rows_rows 4 (fun j => some (ra j))])) [0, 1, 2, 3, 4, 5, 6, 7, 8, 27, 9, 10, 11, 12, 13, 14, 15, 16, 17, 18, 19, 20, 21, 22, 23, 24, 25, 26] rfl rfl ?_
        refine g_put C inX10 tyX10 tyX10_ok nmX10 8 rfl rfl 0 (by decide) wF_X10_10 rfl rfl rfl (Nat.le_of_ble_eq_true rfl) (ws' := (rowsW Y ra rs rf rm rl ru rn rv ++ [oX10 h0 (.ref q_reader_plan) (.ref q_reader) (.ref q_changes) (.ref q_image) (.ref q_rows) (v_couples), oX5 q_reader (.ref q_reader_tape) lines_1 faulty_1 place_1 (.ref q_now) token_1 toldOnce_1, oX9 q_reader_tape tape_fed_1 (.ref q_reader_tape_bytes) (.ref q_reader_tape_sorts) (.ref q_reader_tape_starts) (.ref q_reader_tape_contents) tape_length_1 tape_tokens_1 tape_at_1, aI Y q_reader_tape_bytes 700 reader_tape_bytes, aI Y q_reader_tape_sorts 701 tape_sorts_1, aI Y q_reader_tape_starts 701 tape_starts_1, aI Y q_reader_tape_contents 701 tape_contents_1, oX3 q_reader_plan plan_bound_1 plan_modulus_1 plan_seed_1 plan_functions_1 (.ref q_reader_plan_names) (.ref q_reader_plan_kinds) (.ref q_reader_plan_firsts) (.ref q_reader_plan_seconds) (.ref q_reader_plan_degrees) (.ref q_reader_plan_colours) (.ref q_reader_plan_needs) (.ref q_reader_plan_numbers), aI Y q_reader_plan_numbers 144 plan_numbers_1, aI Y q_reader_plan_names 12 plan_names_1, aI Y q_reader_plan_kinds 12 plan_kinds_1, aI Y q_reader_plan_firsts 12 plan_firsts_1, aI Y q_reader_plan_seconds 12 plan_seconds_1, aI Y q_reader_plan_degrees 12 plan_degrees_1, aI Y q_reader_plan_colours 12 plan_colours_1, aI Y q_reader_plan_needs 12 plan_needs_1, oX2 q_image image_kept image_bound image_modulus (v_image_numbers), oX0 q_changes changes_size changes_top (v_changes_kinds) (v_changes_cells) (v_changes_ones) (v_changes_others), oX7 q_rows (v_rows_sieve) (v_rows_powers) (.ref q_rows_rows) rows_turn, aR Y q_rows_rows 4 (fun j => some (ra j))])) rfl dX10_text_46 ?_
        refine g_aload_n C dX10_text_49 0 rfl ?_
        refine g_get C inX10 8 rfl rfl 3 (by decide) wF_X10_33 rfl dX10_text_50 ?_
        refine g_iconst (v := 0) C dX10_text_53 rfl ?_
        refine g_put C inX2 tyX2 tyX2_ok nmX2 24 rfl rfl 0 (by decide) wF_X10_77 rfl rfl rfl (Nat.le_of_ble_eq_true rfl) (ws' := (rowsW Y ra rs rf rm rl ru rn rv ++ [oX10 h0 (.ref q_reader_plan) (.ref q_reader) (.ref q_changes) (.ref q_image) (.ref q_rows) (v_couples), oX5 q_reader (.ref q_reader_tape) lines_1 faulty_1 place_1 (.ref q_now) token_1 toldOnce_1, oX9 q_reader_tape tape_fed_1 (.ref q_reader_tape_bytes) (.ref q_reader_tape_sorts) (.ref q_reader_tape_starts) (.ref q_reader_tape_contents) tape_length_1 tape_tokens_1 tape_at_1, aI Y q_reader_tape_bytes 700 reader_tape_bytes, aI Y q_reader_tape_sorts 701 tape_sorts_1, aI Y q_reader_tape_starts 701 tape_starts_1, aI Y q_reader_tape_contents 701 tape_contents_1, oX3 q_reader_plan plan_bound_1 plan_modulus_1 plan_seed_1 plan_functions_1 (.ref q_reader_plan_names) (.ref q_reader_plan_kinds) (.ref q_reader_plan_firsts) (.ref q_reader_plan_seconds) (.ref q_reader_plan_degrees) (.ref q_reader_plan_colours) (.ref q_reader_plan_needs) (.ref q_reader_plan_numbers), aI Y q_reader_plan_numbers 144 plan_numbers_1, aI Y q_reader_plan_names 12 plan_names_1, aI Y q_reader_plan_kinds 12 plan_kinds_1, aI Y q_reader_plan_firsts 12 plan_firsts_1, aI Y q_reader_plan_seconds 12 plan_seconds_1, aI Y q_reader_plan_degrees 12 plan_degrees_1, aI Y q_reader_plan_colours 12 plan_colours_1, aI Y q_reader_plan_needs 12 plan_needs_1, oX2 q_image 0 image_bound image_modulus (v_image_numbers), oX0 q_changes changes_size changes_top (v_changes_kinds) (v_changes_cells) (v_changes_ones) (v_changes_others), oX7 q_rows (v_rows_sieve) (v_rows_powers) (.ref q_rows_rows) rows_turn, aR Y q_rows_rows 4 (fun j => some (ra j))])) rfl dX10_text_54 ?_
        refine g_aload_n C dX10_text_57 0 rfl ?_
        refine g_get C inX10 8 rfl rfl 2 (by decide) wF_X10_26 rfl dX10_text_58 ?_
        obtain ⟨P_3, hP, h⟩ := h
        refine g_callV (As := []) (rest := []) C (mX0_forget l D Y q_changes changes_size changes_top v_changes_kinds v_changes_cells v_changes_ones v_changes_others P_3 hP) dX10_text_61 rfl wM_X10_81 wI_X0_forget wV_X0_forget wN_X0 wC_X0_forget (n := 0) (by decide +kernel) rfl (q0 := 0) rfl rfl ⟨Nat.le_of_ble_eq_true rfl, Nat.le_of_ble_eq_true rfl⟩ ⟨Nat.le_of_ble_eq_true rfl, Nat.le_of_ble_eq_true rfl⟩ (Nat.le_of_ble_eq_true rfl) [25] [0, 1, 2, 3, 4, 5, 6, 7, 8, 9, 10, 11, 12, 13, 14, 15, 16, 17, 18, 19, 20, 21, 22, 23, 24, 26, 27] rfl rfl rfl (fun v wc hv => ?_)
        obtain ⟨size_1, rfl, rfl, hq⟩ := hv
        replace h := h size_1 hq
        refine gG.perm (ws' := (rowsW Y ra rs rf rm rl ru rn rv ++ [oX10 h0 (.ref q_reader_plan) (.ref q_reader) (.ref q_changes) (.ref q_image) (.ref q_rows) (v_couples), oX5 q_reader (.ref q_reader_tape) lines_1 faulty_1 place_1 (.ref q_now) token_1 toldOnce_1, oX9 q_reader_tape tape_fed_1 (.ref q_reader_tape_bytes) (.ref q_reader_tape_sorts) (.ref q_reader_tape_starts) (.ref q_reader_tape_contents) tape_length_1 tape_tokens_1 tape_at_1, aI Y q_reader_tape_bytes 700 reader_tape_bytes, aI Y q_reader_tape_sorts 701 tape_sorts_1, aI Y q_reader_tape_starts 701 tape_starts_1, aI Y q_reader_tape_contents 701 tape_contents_1, oX3 q_reader_plan plan_bound_1 plan_modulus_1 plan_seed_1 plan_functions_1 (.ref q_reader_plan_names) (.ref q_reader_plan_kinds) (.ref q_reader_plan_firsts) (.ref q_reader_plan_seconds) (.ref q_reader_plan_degrees) (.ref q_reader_plan_colours) (.ref q_reader_plan_needs) (.ref q_reader_plan_numbers), aI Y q_reader_plan_numbers 144 plan_numbers_1, aI Y q_reader_plan_names 12 plan_names_1, aI Y q_reader_plan_kinds 12 plan_kinds_1, aI Y q_reader_plan_firsts 12 plan_firsts_1, aI Y q_reader_plan_seconds 12 plan_seconds_1, aI Y q_reader_plan_degrees 12 plan_degrees_1, aI Y q_reader_plan_colours 12 plan_colours_1, aI Y q_reader_plan_needs 12 plan_needs_1, oX2 q_image 0 image_bound image_modulus (v_image_numbers), oX0 q_changes size_1 changes_top (v_changes_kinds) (v_changes_cells) (v_changes_ones) (v_changes_others), oX7 q_rows (v_rows_sieve) (v_rows_powers) (.ref q_rows_rows) rows_turn, aR Y q_rows_rows 4 (fun j => some (ra j))])) [0, 1, 2, 3, 4, 5, 6, 7, 8, 9, 10, 11, 12, 13, 14, 15, 16, 17, 18, 19, 20, 21, 22, 23, 24, 27, 25, 26] rfl rfl ?_
        refine g_aload_n C dX10_text_64 0 rfl ?_
        refine g_get C inX10 8 rfl rfl 4 (by decide) wF_X10_40 rfl dX10_text_65 ?_
        obtain ⟨P_4, hP, h⟩ := h
        refine g_callV (As := []) (rest := []) C (mX7_forget l D Y q_rows ra v_rows_sieve v_rows_powers q_rows_rows rows_turn rs rf rm rl ru rn rv P_4 hP) dX10_text_68 rfl wM_X10_84 wI_X7_forget wV_X7_forget wN_X7 wC_X7_forget (n := 0) (by decide +kernel) rfl (q0 := 8) rfl rfl ⟨Nat.le_of_ble_eq_true rfl, Nat.le_of_ble_eq_true rfl⟩ ⟨Nat.le_of_ble_eq_true rfl, Nat.le_of_ble_eq_true rfl⟩ (Nat.le_of_ble_eq_true rfl) [0, 1, 2, 3, 4, 5, 6, 7, 26, 27] [8, 9, 10, 11, 12, 13, 14, 15, 16, 17, 18, 19, 20, 21, 22, 23, 24, 25] rfl rfl rfl (fun v wc hv => ?_)
        obtain ⟨rf_1, rfl, rfl, hq⟩ := hv
        replace h := h rf_1 hq
        refine gG.perm (ws' := (rowsW Y ra rs rf_1 rm rl ru rn rv ++ [oX10 h0 (.ref q_reader_plan) (.ref q_reader) (.ref q_changes) (.ref q_image) (.ref q_rows) (v_couples), oX5 q_reader (.ref q_reader_tape) lines_1 faulty_1 place_1 (.ref q_now) token_1 toldOnce_1, oX9 q_reader_tape tape_fed_1 (.ref q_reader_tape_bytes) (.ref q_reader_tape_sorts) (.ref q_reader_tape_starts) (.ref q_reader_tape_contents) tape_length_1 tape_tokens_1 tape_at_1, aI Y q_reader_tape_bytes 700 reader_tape_bytes, aI Y q_reader_tape_sorts 701 tape_sorts_1, aI Y q_reader_tape_starts 701 tape_starts_1, aI Y q_reader_tape_contents 701 tape_contents_1, oX3 q_reader_plan plan_bound_1 plan_modulus_1 plan_seed_1 plan_functions_1 (.ref q_reader_plan_names) (.ref q_reader_plan_kinds) (.ref q_reader_plan_firsts) (.ref q_reader_plan_seconds) (.ref q_reader_plan_degrees) (.ref q_reader_plan_colours) (.ref q_reader_plan_needs) (.ref q_reader_plan_numbers), aI Y q_reader_plan_numbers 144 plan_numbers_1, aI Y q_reader_plan_names 12 plan_names_1, aI Y q_reader_plan_kinds 12 plan_kinds_1, aI Y q_reader_plan_firsts 12 plan_firsts_1, aI Y q_reader_plan_seconds 12 plan_seconds_1, aI Y q_reader_plan_degrees 12 plan_degrees_1, aI Y q_reader_plan_colours 12 plan_colours_1, aI Y q_reader_plan_needs 12 plan_needs_1, oX2 q_image 0 image_bound image_modulus (v_image_numbers), oX0 q_changes size_1 changes_top (v_changes_kinds) (v_changes_cells) (v_changes_ones) (v_changes_others), oX7 q_rows (v_rows_sieve) (v_rows_powers) (.ref q_rows_rows) rows_turn, aR Y q_rows_rows 4 (fun j => some (ra j))])) [18, 19, 20, 21, 22, 23, 24, 25, 0, 1, 2, 3, 4, 5, 6, 7, 8, 9, 10, 11, 12, 13, 14, 15, 16, 17, 26, 27] rfl rfl ?_
        refine g_aload_n C dX10_text_71 0 rfl ?_
        refine g_get C inX10 8 rfl rfl 1 (by decide) wF_X10_19 rfl dX10_text_72 ?_
        refine g_get C inX5 9 rfl rfl 1 (by decide) wF_X10_85 rfl dX10_text_75 ?_
        exact g_iret C hR (Nat.le_of_ble_eq_true rfl) (Nat.le_of_ble_eq_true rfl) dX10_text_78 ⟨lines_1, true, lines_1, faulty_1, place_1, token_1, toldOnce_1, tape_fed_1, tape_length_1, tape_tokens_1, tape_at_1, tape_sorts_1, tape_starts_1, tape_contents_1, plan_bound_1, plan_modulus_1, plan_seed_1, plan_functions_1, plan_numbers_1, plan_names_1, plan_kinds_1, plan_firsts_1, plan_seconds_1, plan_degrees_1, plan_colours_1, plan_needs_1, 0, size_1, rf_1, rfl, rfl, h⟩
      · replace h := h.2 c_3
        refine g_iconst (v := (-1)) C dX10_text_32 rfl ?_
        exact g_iret C hR (Nat.le_of_ble_eq_true rfl) (Nat.le_of_ble_eq_true rfl) dX10_text_33 ⟨(-1), false, lines_1, faulty_1, place_1, token_1, toldOnce_1, tape_fed_1, tape_length_1, tape_tokens_1, tape_at_1, tape_sorts_1, tape_starts_1, tape_contents_1, plan_bound_1, plan_modulus_1, plan_seed_1, plan_functions_1, plan_numbers_1, plan_names_1, plan_kinds_1, plan_firsts_1, plan_seconds_1, plan_degrees_1, plan_colours_1, plan_needs_1, image_kept, changes_size, rf, rfl, rfl, h⟩
    · replace h := h.2 c_2
      refine g_bipush (v := (-2)) C dX10_text_18 rfl ?_
      exact g_iret C hR (Nat.le_of_ble_eq_true rfl) (Nat.le_of_ble_eq_true rfl) dX10_text_20 ⟨(-2), false, reader_lines, reader_faulty, reader_place, reader_token, reader_toldOnce, reader_tape_fed, reader_tape_length, reader_tape_tokens, reader_tape_at, reader_tape_sorts, reader_tape_starts, reader_tape_contents, reader_plan_bound, reader_plan_modulus, reader_plan_seed, reader_plan_functions, reader_plan_numbers, reader_plan_names, reader_plan_kinds, reader_plan_firsts, reader_plan_seconds, reader_plan_degrees, reader_plan_colours, reader_plan_needs, image_kept, changes_size, rf, rfl, rfl, h⟩
theorem dX10_fault_0 : decode cX10_fault 0 = .ok (.iload_n 1, 1) := by decide +kernel
theorem dX10_fault_1 : decode cX10_fault 1 = .ok (.ifCond .ne 11, 3) := by decide +kernel
theorem dX10_fault_4 : decode cX10_fault 4 = .ok (.aload_n 0, 1) := by decide +kernel
theorem dX10_fault_5 : decode cX10_fault 5 = .ok (.getfield 19, 3) := by decide +kernel
theorem dX10_fault_8 : decode cX10_fault 8 = .ok (.getfield 88, 3) := by decide +kernel
theorem dX10_fault_11 : decode cX10_fault 11 = .ok (.ireturn, 1) := by decide +kernel
theorem dX10_fault_12 : decode cX10_fault 12 = .ok (.iload_n 1, 1) := by decide +kernel
theorem dX10_fault_13 : decode cX10_fault 13 = .ok (.iconst 1, 1) := by decide +kernel
theorem dX10_fault_14 : decode cX10_fault 14 = .ok (.if_icmp .ne 13, 3) := by decide +kernel
theorem dX10_fault_17 : decode cX10_fault 17 = .ok (.aload_n 0, 1) := by decide +kernel
theorem dX10_fault_18 : decode cX10_fault 18 = .ok (.getfield 19, 3) := by decide +kernel
theorem dX10_fault_21 : decode cX10_fault 21 = .ok (.getfield 91, 3) := by decide +kernel
theorem dX10_fault_24 : decode cX10_fault 24 = .ok (.goto 4, 3) := by decide +kernel
theorem dX10_fault_27 : decode cX10_fault 27 = .ok (.iconst (-1), 1) := by decide +kernel
theorem dX10_fault_28 : decode cX10_fault 28 = .ok (.ireturn, 1) := by decide +kernel
/-- QuotientSums.fault(I)I -/
def wX10_fault (reader_lines : Int32) (reader_faulty : Int32) (reader_place : Int32) (reader_token : Int32) (reader_toldOnce : Int32) (a1 : Int32) (Q : (Int32) → Prop) : Prop :=
  ((¬ a1 = 0 → ((¬ a1 = 1 → (Q (-1))) ∧ (a1 = 1 → (Q reader_place)))) ∧ (a1 = 0 → (Q reader_faulty)))
set_option maxHeartbeats 4000000 in
set_option maxRecDepth 100000 in
theorem mX10_fault (l : Launch) (D : va_G) (Y : Nat → ClassId) (h0 : Nat) (v_now : Value) (q_reader : Nat) (v_changes : Value) (v_image : Value) (v_rows : Value) (v_couples : Value) (v_reader_tape : Value) (reader_lines : Int32) (reader_faulty : Int32) (reader_place : Int32) (v_reader_plan : Value) (reader_token : Int32) (reader_toldOnce : Int32) (a1 : Int32) (Q : (Int32) → Prop) (h : wX10_fault reader_lines reader_faulty reader_place reader_token reader_toldOnce a1 Q) : gM l D Y yX10_fault cX10_fault 2 (some .int) 0 0 0 0 [.ref h0, .int a1] [oX10 h0 (v_now) (.ref q_reader) (v_changes) (v_image) (v_rows) (v_couples), oX5 q_reader (v_reader_tape) reader_lines reader_faulty reader_place (v_reader_plan) reader_token reader_toldOnce] (fun v w => ∃ r : Int32, v = some (.int r) ∧ w = [oX10 h0 (v_now) (.ref q_reader) (v_changes) (v_image) (v_rows) (v_couples), oX5 q_reader (v_reader_tape) reader_lines reader_faulty reader_place (v_reader_plan) reader_token reader_toldOnce] ∧ Q r) := by
  refine gM_of (own := RX10) (by decide +kernel) rfl (Nat.le_of_ble_eq_true rfl) rfl (fun E C hR => ?_)
  unfold wX10_fault at h
  refine g_iload_n C dX10_fault_0 1 rfl ?_
  refine g_if_ne (tgt := 12) C dX10_fault_1 (by decide) (fun c_1 => ?_) (fun c_1 => ?_)
  · replace h := h.1 c_1
    refine g_iload_n C dX10_fault_12 1 rfl ?_
    refine g_iconst (v := 1) C dX10_fault_13 rfl ?_
    refine g_icmp_ne (tgt := 27) C dX10_fault_14 (by decide) (fun c_2 => ?_) (fun c_2 => ?_)
    · replace h := h.1 c_2
      refine g_iconst (v := (-1)) C dX10_fault_27 rfl ?_
      exact g_iret C hR (Nat.le_of_ble_eq_true rfl) (Nat.le_of_ble_eq_true rfl) dX10_fault_28 ⟨(-1), rfl, rfl, h⟩
    · replace h := h.2 c_2
      refine g_aload_n C dX10_fault_17 0 rfl ?_
      refine g_get C inX10 0 rfl rfl 1 (by decide) wF_X10_19 rfl dX10_fault_18 ?_
      refine g_get C inX5 1 rfl rfl 3 (by decide) wF_X10_91 rfl dX10_fault_21 ?_
      refine g_goto (tgt := 28) C dX10_fault_24 (by decide) ?_
      exact g_iret C hR (Nat.le_of_ble_eq_true rfl) (Nat.le_of_ble_eq_true rfl) dX10_fault_28 ⟨reader_place, rfl, rfl, h⟩
  · replace h := h.2 c_1
    refine g_aload_n C dX10_fault_4 0 rfl ?_
    refine g_get C inX10 0 rfl rfl 1 (by decide) wF_X10_19 rfl dX10_fault_5 ?_
    refine g_get C inX5 1 rfl rfl 2 (by decide) wF_X10_88 rfl dX10_fault_8 ?_
    exact g_iret C hR (Nat.le_of_ble_eq_true rfl) (Nat.le_of_ble_eq_true rfl) dX10_fault_11 ⟨reader_faulty, rfl, rfl, h⟩
theorem dX10_named_0 : decode cX10_named 0 = .ok (.aload_n 0, 1) := by decide +kernel
theorem dX10_named_1 : decode cX10_named 1 = .ok (.getfield 10, 3) := by decide +kernel
theorem dX10_named_4 : decode cX10_named 4 = .ok (.iload_n 1, 1) := by decide +kernel
theorem dX10_named_5 : decode cX10_named 5 = .ok (.invokevirtual 94, 3) := by decide +kernel
theorem dX10_named_8 : decode cX10_named 8 = .ok (.ireturn, 1) := by decide +kernel
/-- QuotientSums.named(I)I -/
def wX10_named (now_bound : Int32) (now_modulus : Int32) (now_seed : Int32) (now_functions : Int32) (now_names : Nat → Int32) (a1 : Int32) (Q : (Int32) → Prop) : Prop :=
  (∃ (P_1 : (Int32) → Prop), wX3_find now_bound now_modulus now_seed now_functions now_names a1 P_1 ∧ ∀ (rF_1 : Int32), P_1 rF_1 → (Q rF_1))
set_option maxHeartbeats 4000000 in
set_option maxRecDepth 100000 in
theorem mX10_named (l : Launch) (D : va_G) (Y : Nat → ClassId) (h0 : Nat) (q_now : Nat) (v_reader : Value) (v_changes : Value) (v_image : Value) (v_rows : Value) (v_couples : Value) (now_bound : Int32) (now_modulus : Int32) (now_seed : Int32) (now_functions : Int32) (q_now_names : Nat) (v_now_kinds : Value) (v_now_firsts : Value) (v_now_seconds : Value) (v_now_degrees : Value) (v_now_colours : Value) (v_now_needs : Value) (v_now_numbers : Value) (now_names : Nat → Int32) (a1 : Int32) (Q : (Int32) → Prop) (h : wX10_named now_bound now_modulus now_seed now_functions now_names a1 Q) : gM l D Y yX10_named cX10_named 2 (some .int) 1 22 0 0 [.ref h0, .int a1] [oX10 h0 (.ref q_now) (v_reader) (v_changes) (v_image) (v_rows) (v_couples), oX3 q_now now_bound now_modulus now_seed now_functions (.ref q_now_names) (v_now_kinds) (v_now_firsts) (v_now_seconds) (v_now_degrees) (v_now_colours) (v_now_needs) (v_now_numbers), aI Y q_now_names 12 now_names] (fun v w => ∃ r : Int32, v = some (.int r) ∧ w = [oX10 h0 (.ref q_now) (v_reader) (v_changes) (v_image) (v_rows) (v_couples), oX3 q_now now_bound now_modulus now_seed now_functions (.ref q_now_names) (v_now_kinds) (v_now_firsts) (v_now_seconds) (v_now_degrees) (v_now_colours) (v_now_needs) (v_now_numbers), aI Y q_now_names 12 now_names] ∧ Q r) := by
  refine gM_of (own := RX10) (by decide +kernel) rfl (Nat.le_of_ble_eq_true rfl) rfl (fun E C hR => ?_)
  unfold wX10_named at h
  refine g_aload_n C dX10_named_0 0 rfl ?_
  refine g_get C inX10 0 rfl rfl 0 (by decide) wF_X10_10 rfl dX10_named_1 ?_
  refine g_iload_n C dX10_named_4 1 rfl ?_
  obtain ⟨P_1, hP, h⟩ := h
  refine g_callV (As := [.int a1]) (rest := []) C (mX3_find l D Y q_now now_bound now_modulus now_seed now_functions q_now_names v_now_kinds v_now_firsts v_now_seconds v_now_degrees v_now_colours v_now_needs v_now_numbers now_names a1 P_1 hP) dX10_named_5 rfl wM_X10_94 wI_X3_find wV_X3_find wN_X3 wC_X3_find (n := 1) (by decide +kernel) rfl (q0 := 0) rfl rfl ⟨Nat.le_of_ble_eq_true rfl, Nat.le_of_ble_eq_true rfl⟩ ⟨Nat.le_of_ble_eq_true rfl, Nat.le_of_ble_eq_true rfl⟩ (Nat.le_of_ble_eq_true rfl) [1, 2] [0] rfl rfl rfl (fun v wc hv => ?_)
  obtain ⟨rF_1, rfl, rfl, hq⟩ := hv
  replace h := h rF_1 hq
  refine gG.eqw (ws' := [oX10 h0 (.ref q_now) (v_reader) (v_changes) (v_image) (v_rows) (v_couples), oX3 q_now now_bound now_modulus now_seed now_functions (.ref q_now_names) (v_now_kinds) (v_now_firsts) (v_now_seconds) (v_now_degrees) (v_now_colours) (v_now_needs) (v_now_numbers), aI Y q_now_names 12 now_names]) rfl ?_
  exact g_iret C hR (Nat.le_of_ble_eq_true rfl) (Nat.le_of_ble_eq_true rfl) dX10_named_8 ⟨rF_1, rfl, rfl, h⟩
theorem dX10_told_0 : decode cX10_told 0 = .ok (.aload_n 0, 1) := by decide +kernel
theorem dX10_told_1 : decode cX10_told 1 = .ok (.getfield 10, 3) := by decide +kernel
theorem dX10_told_4 : decode cX10_told 4 = .ok (.iload_n 1, 1) := by decide +kernel
theorem dX10_told_5 : decode cX10_told 5 = .ok (.invokevirtual 129, 3) := by decide +kernel
theorem dX10_told_8 : decode cX10_told 8 = .ok (.ifCond .eq 10, 3) := by decide +kernel
theorem dX10_told_11 : decode cX10_told 11 = .ok (.iload_n 2, 1) := by decide +kernel
theorem dX10_told_12 : decode cX10_told 12 = .ok (.invokestatic 132, 3) := by decide +kernel
theorem dX10_told_15 : decode cX10_told 15 = .ok (.ifCond .ne 7, 3) := by decide +kernel
theorem dX10_told_18 : decode cX10_told 18 = .ok (.sipush (-1000), 3) := by decide +kernel
theorem dX10_told_21 : decode cX10_told 21 = .ok (.ireturn, 1) := by decide +kernel
theorem dX10_told_22 : decode cX10_told 22 = .ok (.aload_n 0, 1) := by decide +kernel
theorem dX10_told_23 : decode cX10_told 23 = .ok (.getfield 10, 3) := by decide +kernel
theorem dX10_told_26 : decode cX10_told 26 = .ok (.getfield 135, 3) := by decide +kernel
theorem dX10_told_29 : decode cX10_told 29 = .ok (.iload_n 1, 1) := by decide +kernel
theorem dX10_told_30 : decode cX10_told 30 = .ok (.iload_n 2, 1) := by decide +kernel
theorem dX10_told_31 : decode cX10_told 31 = .ok (.invokestatic 138, 3) := by decide +kernel
theorem dX10_told_34 : decode cX10_told 34 = .ok (.iload_n 3, 1) := by decide +kernel
theorem dX10_told_35 : decode cX10_told 35 = .ok (.ifCond .eq 7, 3) := by decide +kernel
theorem dX10_told_38 : decode cX10_told 38 = .ok (.iconst 1, 1) := by decide +kernel
theorem dX10_told_39 : decode cX10_told 39 = .ok (.goto 4, 3) := by decide +kernel
theorem dX10_told_42 : decode cX10_told 42 = .ok (.iconst 0, 1) := by decide +kernel
theorem dX10_told_43 : decode cX10_told 43 = .ok (.iadd, 1) := by decide +kernel
theorem dX10_told_44 : decode cX10_told 44 = .ok (.iaload, 1) := by decide +kernel
theorem dX10_told_45 : decode cX10_told 45 = .ok (.ireturn, 1) := by decide +kernel
/-- QuotientSums.told(IIZ)I -/
def wX10_told (now_bound : Int32) (now_modulus : Int32) (now_seed : Int32) (now_functions : Int32) (now_kinds : Nat → Int32) (now_numbers : Nat → Int32) (a1 : Int32) (a2 : Int32) (a3 : Int32) (Q : (Int32) → Prop) : Prop :=
  (∃ (P_1 : (Int32) → Prop), wX3_isOwn now_bound now_modulus now_seed now_functions now_kinds a1 P_1 ∧ ∀ (rF_1 : Int32), P_1 rF_1 → ((rF_1 = 0 → (Q (-1000))) ∧ (¬ rF_1 = 0 → (∃ (P_2 : (Int32) → Prop), wX10_isOwnPower a2 P_2 ∧ ∀ (rF_2 : Int32), P_2 rF_2 → ((¬ rF_2 = 0 → (∃ (P_3 : (Int32) → Prop), wX3_cell a1 a2 P_3 ∧ ∀ (rF_3 : Int32), P_3 rF_3 → ((a3 = 0 → (vp_in (rF_3 + 0) 144 ∧ (Q (now_numbers (rF_3 + 0).toNatClampNeg)))) ∧ (¬ a3 = 0 → (vp_in (rF_3 + 1) 144 ∧ (Q (now_numbers (rF_3 + 1).toNatClampNeg))))))) ∧ (rF_2 = 0 → (Q (-1000))))))))
set_option maxHeartbeats 4000000 in
set_option maxRecDepth 100000 in
theorem mX10_told (l : Launch) (D : va_G) (Y : Nat → ClassId) (h0 : Nat) (q_now : Nat) (v_reader : Value) (v_changes : Value) (v_image : Value) (v_rows : Value) (v_couples : Value) (now_bound : Int32) (now_modulus : Int32) (now_seed : Int32) (now_functions : Int32) (v_now_names : Value) (q_now_kinds : Nat) (v_now_firsts : Value) (v_now_seconds : Value) (v_now_degrees : Value) (v_now_colours : Value) (v_now_needs : Value) (q_now_numbers : Nat) (now_kinds : Nat → Int32) (now_numbers : Nat → Int32) (a1 : Int32) (a2 : Int32) (a3 : Int32) (Q : (Int32) → Prop) (h : wX10_told now_bound now_modulus now_seed now_functions now_kinds now_numbers a1 a2 a3 Q) : gM l D Y yX10_told cX10_told 4 (some .int) 2 42 0 0 [.ref h0, .int a1, .int a2, .int a3] [oX10 h0 (.ref q_now) (v_reader) (v_changes) (v_image) (v_rows) (v_couples), oX3 q_now now_bound now_modulus now_seed now_functions (v_now_names) (.ref q_now_kinds) (v_now_firsts) (v_now_seconds) (v_now_degrees) (v_now_colours) (v_now_needs) (.ref q_now_numbers), aI Y q_now_kinds 12 now_kinds, aI Y q_now_numbers 144 now_numbers] (fun v w => ∃ r : Int32, v = some (.int r) ∧ w = [oX10 h0 (.ref q_now) (v_reader) (v_changes) (v_image) (v_rows) (v_couples), oX3 q_now now_bound now_modulus now_seed now_functions (v_now_names) (.ref q_now_kinds) (v_now_firsts) (v_now_seconds) (v_now_degrees) (v_now_colours) (v_now_needs) (.ref q_now_numbers), aI Y q_now_kinds 12 now_kinds, aI Y q_now_numbers 144 now_numbers] ∧ Q r) := by
  refine gM_of (own := RX10) (by decide +kernel) rfl (Nat.le_of_ble_eq_true rfl) rfl (fun E C hR => ?_)
  unfold wX10_told at h
  refine g_aload_n C dX10_told_0 0 rfl ?_
  refine g_get C inX10 0 rfl rfl 0 (by decide) wF_X10_10 rfl dX10_told_1 ?_
  refine g_iload_n C dX10_told_4 1 rfl ?_
  obtain ⟨P_1, hP, h⟩ := h
  refine g_callV (As := [.int a1]) (rest := []) C (mX3_isOwn l D Y q_now now_bound now_modulus now_seed now_functions v_now_names q_now_kinds v_now_firsts v_now_seconds v_now_degrees v_now_colours v_now_needs (.ref q_now_numbers) now_kinds a1 P_1 hP) dX10_told_5 rfl wM_X10_129 wI_X3_isOwn wV_X3_isOwn wN_X3 wC_X3_isOwn (n := 1) (by decide +kernel) rfl (q0 := 0) rfl rfl ⟨Nat.le_of_ble_eq_true rfl, Nat.le_of_ble_eq_true rfl⟩ ⟨Nat.le_of_ble_eq_true rfl, Nat.le_of_ble_eq_true rfl⟩ (Nat.le_of_ble_eq_true rfl) [1, 2] [0, 3] rfl rfl rfl (fun v wc hv => ?_)
  obtain ⟨rF_1, rfl, rfl, hq⟩ := hv
  replace h := h rF_1 hq
  refine gG.perm (ws' := [oX10 h0 (.ref q_now) (v_reader) (v_changes) (v_image) (v_rows) (v_couples), oX3 q_now now_bound now_modulus now_seed now_functions (v_now_names) (.ref q_now_kinds) (v_now_firsts) (v_now_seconds) (v_now_degrees) (v_now_colours) (v_now_needs) (.ref q_now_numbers), aI Y q_now_kinds 12 now_kinds, aI Y q_now_numbers 144 now_numbers]) [0, 2, 3, 1] rfl rfl ?_
  refine g_if_eq (tgt := 18) C dX10_told_8 (by decide) (fun c_1 => ?_) (fun c_1 => ?_)
  · replace h := h.1 c_1
    refine g_sipush (v := (-1000)) C dX10_told_18 rfl ?_
    exact g_iret C hR (Nat.le_of_ble_eq_true rfl) (Nat.le_of_ble_eq_true rfl) dX10_told_21 ⟨(-1000), rfl, rfl, h⟩
  · replace h := h.2 c_1
    refine g_iload_n C dX10_told_11 2 rfl ?_
    obtain ⟨P_2, hP, h⟩ := h
    refine g_callS (As := [.int a2]) (rest := []) C (mX10_isOwnPower l D Y a2 P_2 hP) dX10_told_12 rfl wM_X10_132 wS_X10_isOwnPower wN_X10 wC_X10_isOwnPower (n := 1) (by decide +kernel) rfl ⟨Nat.le_of_ble_eq_true rfl, Nat.le_of_ble_eq_true rfl⟩ ⟨Nat.le_of_ble_eq_true rfl, Nat.le_of_ble_eq_true rfl⟩ (Nat.le_of_ble_eq_true rfl) [] [0, 1, 2, 3] rfl rfl rfl (fun v wc hv => ?_)
    obtain ⟨rF_2, rfl, rfl, hq⟩ := hv
    replace h := h rF_2 hq
    refine gG.eqw (ws' := [oX10 h0 (.ref q_now) (v_reader) (v_changes) (v_image) (v_rows) (v_couples), oX3 q_now now_bound now_modulus now_seed now_functions (v_now_names) (.ref q_now_kinds) (v_now_firsts) (v_now_seconds) (v_now_degrees) (v_now_colours) (v_now_needs) (.ref q_now_numbers), aI Y q_now_kinds 12 now_kinds, aI Y q_now_numbers 144 now_numbers]) rfl ?_
    refine g_if_ne (tgt := 22) C dX10_told_15 (by decide) (fun c_2 => ?_) (fun c_2 => ?_)
    · replace h := h.1 c_2
      refine g_aload_n C dX10_told_22 0 rfl ?_
      refine g_get C inX10 0 rfl rfl 0 (by decide) wF_X10_10 rfl dX10_told_23 ?_
      refine g_get C inX3 1 rfl rfl 11 (by decide) wF_X10_135 rfl dX10_told_26 ?_
      refine g_iload_n C dX10_told_29 1 rfl ?_
      refine g_iload_n C dX10_told_30 2 rfl ?_
      obtain ⟨P_3, hP, h⟩ := h
      refine g_callS (As := [.int a1, .int a2]) (rest := [.ref q_now_numbers]) C (mX3_cell l D Y a1 a2 P_3 hP) dX10_told_31 rfl wM_X10_138 wS_X3_cell wN_X3 wC_X3_cell (n := 2) (by decide +kernel) rfl ⟨Nat.le_of_ble_eq_true rfl, Nat.le_of_ble_eq_true rfl⟩ ⟨Nat.le_of_ble_eq_true rfl, Nat.le_of_ble_eq_true rfl⟩ (Nat.le_of_ble_eq_true rfl) [] [0, 1, 2, 3] rfl rfl rfl (fun v wc hv => ?_)
      obtain ⟨rF_3, rfl, rfl, hq⟩ := hv
      replace h := h rF_3 hq
      refine gG.eqw (ws' := [oX10 h0 (.ref q_now) (v_reader) (v_changes) (v_image) (v_rows) (v_couples), oX3 q_now now_bound now_modulus now_seed now_functions (v_now_names) (.ref q_now_kinds) (v_now_firsts) (v_now_seconds) (v_now_degrees) (v_now_colours) (v_now_needs) (.ref q_now_numbers), aI Y q_now_kinds 12 now_kinds, aI Y q_now_numbers 144 now_numbers]) rfl ?_
      refine g_iload_n C dX10_told_34 3 rfl ?_
      refine g_if_eq (tgt := 42) C dX10_told_35 (by decide) (fun c_3 => ?_) (fun c_3 => ?_)
      · replace h := h.1 c_3
        refine g_iconst (v := 0) C dX10_told_42 rfl ?_
        refine g_iadd C dX10_told_43 ?_
        obtain ⟨hc_1, h⟩ := h
        refine g_iald C 3 rfl hc_1 dX10_told_44 ?_
        exact g_iret C hR (Nat.le_of_ble_eq_true rfl) (Nat.le_of_ble_eq_true rfl) dX10_told_45 ⟨now_numbers (rF_3 + 0).toNatClampNeg, rfl, rfl, h⟩
      · replace h := h.2 c_3
        refine g_iconst (v := 1) C dX10_told_38 rfl ?_
        refine g_goto (tgt := 43) C dX10_told_39 (by decide) ?_
        refine g_iadd C dX10_told_43 ?_
        obtain ⟨hc_2, h⟩ := h
        refine g_iald C 3 rfl hc_2 dX10_told_44 ?_
        exact g_iret C hR (Nat.le_of_ble_eq_true rfl) (Nat.le_of_ble_eq_true rfl) dX10_told_45 ⟨now_numbers (rF_3 + 1).toNatClampNeg, rfl, rfl, h⟩
    · replace h := h.2 c_2
      refine g_sipush (v := (-1000)) C dX10_told_18 rfl ?_
      exact g_iret C hR (Nat.le_of_ble_eq_true rfl) (Nat.le_of_ble_eq_true rfl) dX10_told_21 ⟨(-1000), rfl, rfl, h⟩
theorem dX10_bound_0 : decode cX10_bound 0 = .ok (.iload_n 1, 1) := by decide +kernel
theorem dX10_bound_1 : decode cX10_bound 1 = .ok (.iconst 1, 1) := by decide +kernel
theorem dX10_bound_2 : decode cX10_bound 2 = .ok (.if_icmp .lt 9, 3) := by decide +kernel
theorem dX10_bound_5 : decode cX10_bound 5 = .ok (.iload_n 1, 1) := by decide +kernel
theorem dX10_bound_6 : decode cX10_bound 6 = .ok (.ldc 142, 2) := by decide +kernel
theorem dX10_bound_8 : decode cX10_bound 8 = .ok (.if_icmp .le 5, 3) := by decide +kernel
theorem dX10_bound_11 : decode cX10_bound 11 = .ok (.iconst (-1), 1) := by decide +kernel
theorem dX10_bound_12 : decode cX10_bound 12 = .ok (.ireturn, 1) := by decide +kernel
theorem dX10_bound_13 : decode cX10_bound 13 = .ok (.aload_n 0, 1) := by decide +kernel
theorem dX10_bound_14 : decode cX10_bound 14 = .ok (.getfield 10, 3) := by decide +kernel
theorem dX10_bound_17 : decode cX10_bound 17 = .ok (.getfield 143, 3) := by decide +kernel
theorem dX10_bound_20 : decode cX10_bound 20 = .ok (.istore_n 2, 1) := by decide +kernel
theorem dX10_bound_21 : decode cX10_bound 21 = .ok (.aload_n 0, 1) := by decide +kernel
theorem dX10_bound_22 : decode cX10_bound 22 = .ok (.getfield 26, 3) := by decide +kernel
theorem dX10_bound_25 : decode cX10_bound 25 = .ok (.iconst 0, 1) := by decide +kernel
theorem dX10_bound_26 : decode cX10_bound 26 = .ok (.iconst 0, 1) := by decide +kernel
theorem dX10_bound_27 : decode cX10_bound 27 = .ok (.iload_n 2, 1) := by decide +kernel
theorem dX10_bound_28 : decode cX10_bound 28 = .ok (.iconst 0, 1) := by decide +kernel
theorem dX10_bound_29 : decode cX10_bound 29 = .ok (.invokevirtual 146, 3) := by decide +kernel
theorem dX10_bound_32 : decode cX10_bound 32 = .ok (.aload_n 0, 1) := by decide +kernel
theorem dX10_bound_33 : decode cX10_bound 33 = .ok (.getfield 10, 3) := by decide +kernel
theorem dX10_bound_36 : decode cX10_bound 36 = .ok (.iload_n 1, 1) := by decide +kernel
theorem dX10_bound_37 : decode cX10_bound 37 = .ok (.putfield 143, 3) := by decide +kernel
theorem dX10_bound_40 : decode cX10_bound 40 = .ok (.iload_n 2, 1) := by decide +kernel
theorem dX10_bound_41 : decode cX10_bound 41 = .ok (.ireturn, 1) := by decide +kernel
/-- QuotientSums.bound(I)I -/
def wX10_bound (now_bound : Int32) (now_modulus : Int32) (now_seed : Int32) (now_functions : Int32) (changes_size : Int32) (changes_top : Int32) (changes_kinds : Nat → Int32) (changes_cells : Nat → Int32) (changes_ones : Nat → Int32) (changes_others : Nat → Int32) (a1 : Int32) (Q : (Int32) → (Int32) → (Int32) → (Int32) → (Nat → Int32) → (Nat → Int32) → (Nat → Int32) → (Nat → Int32) → Prop) : Prop :=
  ((a1 < 1 → (Q (-1) now_bound changes_size changes_top changes_kinds changes_cells changes_ones changes_others)) ∧ (¬ a1 < 1 → ((a1 ≤ 200000 → (∃ (P_1 : (Int32) → (Int32) → (Nat → Int32) → (Nat → Int32) → (Nat → Int32) → (Nat → Int32) → Prop), wX0_push changes_size changes_top changes_kinds changes_cells changes_ones changes_others 0 0 now_bound 0 P_1 ∧ ∀ (size_1 : Int32) (top_1 : Int32) (kinds_1 : Nat → Int32) (cells_1 : Nat → Int32) (ones_1 : Nat → Int32) (others_1 : Nat → Int32), P_1 size_1 top_1 kinds_1 cells_1 ones_1 others_1 → (Q now_bound a1 size_1 top_1 kinds_1 cells_1 ones_1 others_1))) ∧ (¬ a1 ≤ 200000 → (Q (-1) now_bound changes_size changes_top changes_kinds changes_cells changes_ones changes_others)))))
set_option maxHeartbeats 4000000 in
set_option maxRecDepth 100000 in
theorem mX10_bound (l : Launch) (D : va_G) (Y : Nat → ClassId) (h0 : Nat) (q_now : Nat) (v_reader : Value) (q_changes : Nat) (v_image : Value) (v_rows : Value) (v_couples : Value) (now_bound : Int32) (now_modulus : Int32) (now_seed : Int32) (now_functions : Int32) (v_now_names : Value) (v_now_kinds : Value) (v_now_firsts : Value) (v_now_seconds : Value) (v_now_degrees : Value) (v_now_colours : Value) (v_now_needs : Value) (v_now_numbers : Value) (changes_size : Int32) (changes_top : Int32) (q_changes_kinds : Nat) (q_changes_cells : Nat) (q_changes_ones : Nat) (q_changes_others : Nat) (changes_kinds : Nat → Int32) (changes_cells : Nat → Int32) (changes_ones : Nat → Int32) (changes_others : Nat → Int32) (a1 : Int32) (Q : (Int32) → (Int32) → (Int32) → (Int32) → (Nat → Int32) → (Nat → Int32) → (Nat → Int32) → (Nat → Int32) → Prop) (h : wX10_bound now_bound now_modulus now_seed now_functions changes_size changes_top changes_kinds changes_cells changes_ones changes_others a1 Q) : gM l D Y yX10_bound cX10_bound 3 (some .int) 2 45 0 0 [.ref h0, .int a1] [oX10 h0 (.ref q_now) (v_reader) (.ref q_changes) (v_image) (v_rows) (v_couples), oX3 q_now now_bound now_modulus now_seed now_functions (v_now_names) (v_now_kinds) (v_now_firsts) (v_now_seconds) (v_now_degrees) (v_now_colours) (v_now_needs) (v_now_numbers), oX0 q_changes changes_size changes_top (.ref q_changes_kinds) (.ref q_changes_cells) (.ref q_changes_ones) (.ref q_changes_others), aI Y q_changes_kinds 20 changes_kinds, aI Y q_changes_cells 20 changes_cells, aI Y q_changes_ones 20 changes_ones, aI Y q_changes_others 20 changes_others] (fun v w => ∃ r : Int32, ∃ now_bound' : Int32, ∃ changes_size' : Int32, ∃ changes_top' : Int32, ∃ changes_kinds' : Nat → Int32, ∃ changes_cells' : Nat → Int32, ∃ changes_ones' : Nat → Int32, ∃ changes_others' : Nat → Int32, v = some (.int r) ∧ w = [oX10 h0 (.ref q_now) (v_reader) (.ref q_changes) (v_image) (v_rows) (v_couples), oX3 q_now now_bound' now_modulus now_seed now_functions (v_now_names) (v_now_kinds) (v_now_firsts) (v_now_seconds) (v_now_degrees) (v_now_colours) (v_now_needs) (v_now_numbers), oX0 q_changes changes_size' changes_top' (.ref q_changes_kinds) (.ref q_changes_cells) (.ref q_changes_ones) (.ref q_changes_others), aI Y q_changes_kinds 20 changes_kinds', aI Y q_changes_cells 20 changes_cells', aI Y q_changes_ones 20 changes_ones', aI Y q_changes_others 20 changes_others'] ∧ Q r now_bound' changes_size' changes_top' changes_kinds' changes_cells' changes_ones' changes_others') := by
  refine gM_of (own := RX10) (by decide +kernel) rfl (Nat.le_of_ble_eq_true rfl) rfl (fun E C hR => ?_)
  unfold wX10_bound at h
  refine g_iload_n C dX10_bound_0 1 rfl ?_
  refine g_iconst (v := 1) C dX10_bound_1 rfl ?_
  refine g_icmp_lt (tgt := 11) C dX10_bound_2 (by decide) (fun c_1 => ?_) (fun c_1 => ?_)
  · replace h := h.1 c_1
    refine g_iconst (v := (-1)) C dX10_bound_11 rfl ?_
    exact g_iret C hR (Nat.le_of_ble_eq_true rfl) (Nat.le_of_ble_eq_true rfl) dX10_bound_12 ⟨(-1), now_bound, changes_size, changes_top, changes_kinds, changes_cells, changes_ones, changes_others, rfl, rfl, h⟩
  · replace h := h.2 c_1
    refine g_iload_n C dX10_bound_5 1 rfl ?_
    refine g_ldc C dX10_bound_6 wK_X10_142 ?_
    refine g_icmp_le (tgt := 13) C dX10_bound_8 (by decide) (fun c_2 => ?_) (fun c_2 => ?_)
    · replace h := h.1 c_2
      refine g_aload_n C dX10_bound_13 0 rfl ?_
      refine g_get C inX10 0 rfl rfl 0 (by decide) wF_X10_10 rfl dX10_bound_14 ?_
      refine g_get C inX3 1 rfl rfl 0 (by decide) wF_X10_143 rfl dX10_bound_17 ?_
      refine g_istore_n (lv' := [(2, .int now_bound), (0, .ref h0), (1, .int a1)]) C dX10_bound_20 (by decide) rfl ?_
      refine g_aload_n C dX10_bound_21 1 rfl ?_
      refine g_get C inX10 0 rfl rfl 2 (by decide) wF_X10_26 rfl dX10_bound_22 ?_
      refine g_iconst (v := 0) C dX10_bound_25 rfl ?_
      refine g_iconst (v := 0) C dX10_bound_26 rfl ?_
      refine g_iload_n C dX10_bound_27 0 rfl ?_
      refine g_iconst (v := 0) C dX10_bound_28 rfl ?_
      obtain ⟨P_1, hP, h⟩ := h
      refine g_callV (As := [.int 0, .int 0, .int now_bound, .int 0]) (rest := []) C (mX0_push l D Y q_changes changes_size changes_top q_changes_kinds q_changes_cells q_changes_ones q_changes_others changes_kinds changes_cells changes_ones changes_others 0 0 now_bound 0 P_1 hP) dX10_bound_29 rfl wM_X10_146 wI_X0_push wV_X0_push wN_X0 wC_X0_push (n := 4) (by decide +kernel) rfl (q0 := 0) rfl rfl ⟨Nat.le_of_ble_eq_true rfl, Nat.le_of_ble_eq_true rfl⟩ ⟨Nat.le_of_ble_eq_true rfl, Nat.le_of_ble_eq_true rfl⟩ (Nat.le_of_ble_eq_true rfl) [2, 3, 4, 5, 6] [0, 1] rfl rfl rfl (fun v wc hv => ?_)
      obtain ⟨size_1, top_1, kinds_1, cells_1, ones_1, others_1, rfl, rfl, hq⟩ := hv
      replace h := h size_1 top_1 kinds_1 cells_1 ones_1 others_1 hq
      refine gG.eqw (ws' := [oX10 h0 (.ref q_now) (v_reader) (.ref q_changes) (v_image) (v_rows) (v_couples), oX3 q_now now_bound now_modulus now_seed now_functions (v_now_names) (v_now_kinds) (v_now_firsts) (v_now_seconds) (v_now_degrees) (v_now_colours) (v_now_needs) (v_now_numbers), oX0 q_changes size_1 top_1 (.ref q_changes_kinds) (.ref q_changes_cells) (.ref q_changes_ones) (.ref q_changes_others), aI Y q_changes_kinds 20 kinds_1, aI Y q_changes_cells 20 cells_1, aI Y q_changes_ones 20 ones_1, aI Y q_changes_others 20 others_1]) rfl ?_
      refine g_aload_n C dX10_bound_32 1 rfl ?_
      refine g_get C inX10 0 rfl rfl 0 (by decide) wF_X10_10 rfl dX10_bound_33 ?_
      refine g_iload_n C dX10_bound_36 2 rfl ?_
      refine g_put C inX3 tyX3 tyX3_ok nmX3 1 rfl rfl 0 (by decide) wF_X10_143 rfl rfl rfl (Nat.le_of_ble_eq_true rfl) (ws' := [oX10 h0 (.ref q_now) (v_reader) (.ref q_changes) (v_image) (v_rows) (v_couples), oX3 q_now a1 now_modulus now_seed now_functions (v_now_names) (v_now_kinds) (v_now_firsts) (v_now_seconds) (v_now_degrees) (v_now_colours) (v_now_needs) (v_now_numbers), oX0 q_changes size_1 top_1 (.ref q_changes_kinds) (.ref q_changes_cells) (.ref q_changes_ones) (.ref q_changes_others), aI Y q_changes_kinds 20 kinds_1, aI Y q_changes_cells 20 cells_1, aI Y q_changes_ones 20 ones_1, aI Y q_changes_others 20 others_1]) rfl dX10_bound_37 ?_
      refine g_iload_n C dX10_bound_40 0 rfl ?_
      exact g_iret C hR (Nat.le_of_ble_eq_true rfl) (Nat.le_of_ble_eq_true rfl) dX10_bound_41 ⟨now_bound, a1, size_1, top_1, kinds_1, cells_1, ones_1, others_1, rfl, rfl, h⟩
    · replace h := h.2 c_2
      refine g_iconst (v := (-1)) C dX10_bound_11 rfl ?_
      exact g_iret C hR (Nat.le_of_ble_eq_true rfl) (Nat.le_of_ble_eq_true rfl) dX10_bound_12 ⟨(-1), now_bound, changes_size, changes_top, changes_kinds, changes_cells, changes_ones, changes_others, rfl, rfl, h⟩
theorem dX10_modulus_0 : decode cX10_modulus 0 = .ok (.iload_n 1, 1) := by decide +kernel
theorem dX10_modulus_1 : decode cX10_modulus 1 = .ok (.iconst 2, 1) := by decide +kernel
theorem dX10_modulus_2 : decode cX10_modulus 2 = .ok (.if_icmp .lt 9, 3) := by decide +kernel
theorem dX10_modulus_5 : decode cX10_modulus 5 = .ok (.iload_n 1, 1) := by decide +kernel
theorem dX10_modulus_6 : decode cX10_modulus 6 = .ok (.ldc 150, 2) := by decide +kernel
theorem dX10_modulus_8 : decode cX10_modulus 8 = .ok (.if_icmp .le 5, 3) := by decide +kernel
theorem dX10_modulus_11 : decode cX10_modulus 11 = .ok (.iconst (-1), 1) := by decide +kernel
theorem dX10_modulus_12 : decode cX10_modulus 12 = .ok (.ireturn, 1) := by decide +kernel
theorem dX10_modulus_13 : decode cX10_modulus 13 = .ok (.aload_n 0, 1) := by decide +kernel
theorem dX10_modulus_14 : decode cX10_modulus 14 = .ok (.getfield 10, 3) := by decide +kernel
theorem dX10_modulus_17 : decode cX10_modulus 17 = .ok (.getfield 151, 3) := by decide +kernel
theorem dX10_modulus_20 : decode cX10_modulus 20 = .ok (.istore_n 2, 1) := by decide +kernel
theorem dX10_modulus_21 : decode cX10_modulus 21 = .ok (.aload_n 0, 1) := by decide +kernel
theorem dX10_modulus_22 : decode cX10_modulus 22 = .ok (.getfield 26, 3) := by decide +kernel
theorem dX10_modulus_25 : decode cX10_modulus 25 = .ok (.iconst 1, 1) := by decide +kernel
theorem dX10_modulus_26 : decode cX10_modulus 26 = .ok (.iconst 0, 1) := by decide +kernel
theorem dX10_modulus_27 : decode cX10_modulus 27 = .ok (.iload_n 2, 1) := by decide +kernel
theorem dX10_modulus_28 : decode cX10_modulus 28 = .ok (.iconst 0, 1) := by decide +kernel
theorem dX10_modulus_29 : decode cX10_modulus 29 = .ok (.invokevirtual 146, 3) := by decide +kernel
theorem dX10_modulus_32 : decode cX10_modulus 32 = .ok (.aload_n 0, 1) := by decide +kernel
theorem dX10_modulus_33 : decode cX10_modulus 33 = .ok (.getfield 10, 3) := by decide +kernel
theorem dX10_modulus_36 : decode cX10_modulus 36 = .ok (.iload_n 1, 1) := by decide +kernel
theorem dX10_modulus_37 : decode cX10_modulus 37 = .ok (.putfield 151, 3) := by decide +kernel
theorem dX10_modulus_40 : decode cX10_modulus 40 = .ok (.iload_n 2, 1) := by decide +kernel
theorem dX10_modulus_41 : decode cX10_modulus 41 = .ok (.ireturn, 1) := by decide +kernel
/-- QuotientSums.modulus(I)I -/
def wX10_modulus (now_bound : Int32) (now_modulus : Int32) (now_seed : Int32) (now_functions : Int32) (changes_size : Int32) (changes_top : Int32) (changes_kinds : Nat → Int32) (changes_cells : Nat → Int32) (changes_ones : Nat → Int32) (changes_others : Nat → Int32) (a1 : Int32) (Q : (Int32) → (Int32) → (Int32) → (Int32) → (Nat → Int32) → (Nat → Int32) → (Nat → Int32) → (Nat → Int32) → Prop) : Prop :=
  ((a1 < 2 → (Q (-1) now_modulus changes_size changes_top changes_kinds changes_cells changes_ones changes_others)) ∧ (¬ a1 < 2 → ((a1 ≤ 1000003 → (∃ (P_1 : (Int32) → (Int32) → (Nat → Int32) → (Nat → Int32) → (Nat → Int32) → (Nat → Int32) → Prop), wX0_push changes_size changes_top changes_kinds changes_cells changes_ones changes_others 1 0 now_modulus 0 P_1 ∧ ∀ (size_1 : Int32) (top_1 : Int32) (kinds_1 : Nat → Int32) (cells_1 : Nat → Int32) (ones_1 : Nat → Int32) (others_1 : Nat → Int32), P_1 size_1 top_1 kinds_1 cells_1 ones_1 others_1 → (Q now_modulus a1 size_1 top_1 kinds_1 cells_1 ones_1 others_1))) ∧ (¬ a1 ≤ 1000003 → (Q (-1) now_modulus changes_size changes_top changes_kinds changes_cells changes_ones changes_others)))))
set_option maxHeartbeats 4000000 in
set_option maxRecDepth 100000 in
theorem mX10_modulus (l : Launch) (D : va_G) (Y : Nat → ClassId) (h0 : Nat) (q_now : Nat) (v_reader : Value) (q_changes : Nat) (v_image : Value) (v_rows : Value) (v_couples : Value) (now_bound : Int32) (now_modulus : Int32) (now_seed : Int32) (now_functions : Int32) (v_now_names : Value) (v_now_kinds : Value) (v_now_firsts : Value) (v_now_seconds : Value) (v_now_degrees : Value) (v_now_colours : Value) (v_now_needs : Value) (v_now_numbers : Value) (changes_size : Int32) (changes_top : Int32) (q_changes_kinds : Nat) (q_changes_cells : Nat) (q_changes_ones : Nat) (q_changes_others : Nat) (changes_kinds : Nat → Int32) (changes_cells : Nat → Int32) (changes_ones : Nat → Int32) (changes_others : Nat → Int32) (a1 : Int32) (Q : (Int32) → (Int32) → (Int32) → (Int32) → (Nat → Int32) → (Nat → Int32) → (Nat → Int32) → (Nat → Int32) → Prop) (h : wX10_modulus now_bound now_modulus now_seed now_functions changes_size changes_top changes_kinds changes_cells changes_ones changes_others a1 Q) : gM l D Y yX10_modulus cX10_modulus 3 (some .int) 2 45 0 0 [.ref h0, .int a1] [oX10 h0 (.ref q_now) (v_reader) (.ref q_changes) (v_image) (v_rows) (v_couples), oX3 q_now now_bound now_modulus now_seed now_functions (v_now_names) (v_now_kinds) (v_now_firsts) (v_now_seconds) (v_now_degrees) (v_now_colours) (v_now_needs) (v_now_numbers), oX0 q_changes changes_size changes_top (.ref q_changes_kinds) (.ref q_changes_cells) (.ref q_changes_ones) (.ref q_changes_others), aI Y q_changes_kinds 20 changes_kinds, aI Y q_changes_cells 20 changes_cells, aI Y q_changes_ones 20 changes_ones, aI Y q_changes_others 20 changes_others] (fun v w => ∃ r : Int32, ∃ now_modulus' : Int32, ∃ changes_size' : Int32, ∃ changes_top' : Int32, ∃ changes_kinds' : Nat → Int32, ∃ changes_cells' : Nat → Int32, ∃ changes_ones' : Nat → Int32, ∃ changes_others' : Nat → Int32, v = some (.int r) ∧ w = [oX10 h0 (.ref q_now) (v_reader) (.ref q_changes) (v_image) (v_rows) (v_couples), oX3 q_now now_bound now_modulus' now_seed now_functions (v_now_names) (v_now_kinds) (v_now_firsts) (v_now_seconds) (v_now_degrees) (v_now_colours) (v_now_needs) (v_now_numbers), oX0 q_changes changes_size' changes_top' (.ref q_changes_kinds) (.ref q_changes_cells) (.ref q_changes_ones) (.ref q_changes_others), aI Y q_changes_kinds 20 changes_kinds', aI Y q_changes_cells 20 changes_cells', aI Y q_changes_ones 20 changes_ones', aI Y q_changes_others 20 changes_others'] ∧ Q r now_modulus' changes_size' changes_top' changes_kinds' changes_cells' changes_ones' changes_others') := by
  refine gM_of (own := RX10) (by decide +kernel) rfl (Nat.le_of_ble_eq_true rfl) rfl (fun E C hR => ?_)
  unfold wX10_modulus at h
  refine g_iload_n C dX10_modulus_0 1 rfl ?_
  refine g_iconst (v := 2) C dX10_modulus_1 rfl ?_
  refine g_icmp_lt (tgt := 11) C dX10_modulus_2 (by decide) (fun c_1 => ?_) (fun c_1 => ?_)
  · replace h := h.1 c_1
    refine g_iconst (v := (-1)) C dX10_modulus_11 rfl ?_
    exact g_iret C hR (Nat.le_of_ble_eq_true rfl) (Nat.le_of_ble_eq_true rfl) dX10_modulus_12 ⟨(-1), now_modulus, changes_size, changes_top, changes_kinds, changes_cells, changes_ones, changes_others, rfl, rfl, h⟩
  · replace h := h.2 c_1
    refine g_iload_n C dX10_modulus_5 1 rfl ?_
    refine g_ldc C dX10_modulus_6 wK_X10_150 ?_
    refine g_icmp_le (tgt := 13) C dX10_modulus_8 (by decide) (fun c_2 => ?_) (fun c_2 => ?_)
    · replace h := h.1 c_2
      refine g_aload_n C dX10_modulus_13 0 rfl ?_
      refine g_get C inX10 0 rfl rfl 0 (by decide) wF_X10_10 rfl dX10_modulus_14 ?_
      refine g_get C inX3 1 rfl rfl 1 (by decide) wF_X10_151 rfl dX10_modulus_17 ?_
      refine g_istore_n (lv' := [(2, .int now_modulus), (0, .ref h0), (1, .int a1)]) C dX10_modulus_20 (by decide) rfl ?_
      refine g_aload_n C dX10_modulus_21 1 rfl ?_
      refine g_get C inX10 0 rfl rfl 2 (by decide) wF_X10_26 rfl dX10_modulus_22 ?_
      refine g_iconst (v := 1) C dX10_modulus_25 rfl ?_
      refine g_iconst (v := 0) C dX10_modulus_26 rfl ?_
      refine g_iload_n C dX10_modulus_27 0 rfl ?_
      refine g_iconst (v := 0) C dX10_modulus_28 rfl ?_
      obtain ⟨P_1, hP, h⟩ := h
      refine g_callV (As := [.int 1, .int 0, .int now_modulus, .int 0]) (rest := []) C (mX0_push l D Y q_changes changes_size changes_top q_changes_kinds q_changes_cells q_changes_ones q_changes_others changes_kinds changes_cells changes_ones changes_others 1 0 now_modulus 0 P_1 hP) dX10_modulus_29 rfl wM_X10_146 wI_X0_push wV_X0_push wN_X0 wC_X0_push (n := 4) (by decide +kernel) rfl (q0 := 0) rfl rfl ⟨Nat.le_of_ble_eq_true rfl, Nat.le_of_ble_eq_true rfl⟩ ⟨Nat.le_of_ble_eq_true rfl, Nat.le_of_ble_eq_true rfl⟩ (Nat.le_of_ble_eq_true rfl) [2, 3, 4, 5, 6] [0, 1] rfl rfl rfl (fun v wc hv => ?_)
      obtain ⟨size_1, top_1, kinds_1, cells_1, ones_1, others_1, rfl, rfl, hq⟩ := hv
      replace h := h size_1 top_1 kinds_1 cells_1 ones_1 others_1 hq
      refine gG.eqw (ws' := [oX10 h0 (.ref q_now) (v_reader) (.ref q_changes) (v_image) (v_rows) (v_couples), oX3 q_now now_bound now_modulus now_seed now_functions (v_now_names) (v_now_kinds) (v_now_firsts) (v_now_seconds) (v_now_degrees) (v_now_colours) (v_now_needs) (v_now_numbers), oX0 q_changes size_1 top_1 (.ref q_changes_kinds) (.ref q_changes_cells) (.ref q_changes_ones) (.ref q_changes_others), aI Y q_changes_kinds 20 kinds_1, aI Y q_changes_cells 20 cells_1, aI Y q_changes_ones 20 ones_1, aI Y q_changes_others 20 others_1]) rfl ?_
      refine g_aload_n C dX10_modulus_32 1 rfl ?_
      refine g_get C inX10 0 rfl rfl 0 (by decide) wF_X10_10 rfl dX10_modulus_33 ?_
      refine g_iload_n C dX10_modulus_36 2 rfl ?_
      refine g_put C inX3 tyX3 tyX3_ok nmX3 1 rfl rfl 1 (by decide) wF_X10_151 rfl rfl rfl (Nat.le_of_ble_eq_true rfl) (ws' := [oX10 h0 (.ref q_now) (v_reader) (.ref q_changes) (v_image) (v_rows) (v_couples), oX3 q_now now_bound a1 now_seed now_functions (v_now_names) (v_now_kinds) (v_now_firsts) (v_now_seconds) (v_now_degrees) (v_now_colours) (v_now_needs) (v_now_numbers), oX0 q_changes size_1 top_1 (.ref q_changes_kinds) (.ref q_changes_cells) (.ref q_changes_ones) (.ref q_changes_others), aI Y q_changes_kinds 20 kinds_1, aI Y q_changes_cells 20 cells_1, aI Y q_changes_ones 20 ones_1, aI Y q_changes_others 20 others_1]) rfl dX10_modulus_37 ?_
      refine g_iload_n C dX10_modulus_40 0 rfl ?_
      exact g_iret C hR (Nat.le_of_ble_eq_true rfl) (Nat.le_of_ble_eq_true rfl) dX10_modulus_41 ⟨now_modulus, a1, size_1, top_1, kinds_1, cells_1, ones_1, others_1, rfl, rfl, h⟩
    · replace h := h.2 c_2
      refine g_iconst (v := (-1)) C dX10_modulus_11 rfl ?_
      exact g_iret C hR (Nat.le_of_ble_eq_true rfl) (Nat.le_of_ble_eq_true rfl) dX10_modulus_12 ⟨(-1), now_modulus, changes_size, changes_top, changes_kinds, changes_cells, changes_ones, changes_others, rfl, rfl, h⟩
theorem dX10_putNumbers_0 : decode cX10_putNumbers 0 = .ok (.aload_n 0, 1) := by decide +kernel
theorem dX10_putNumbers_1 : decode cX10_putNumbers 1 = .ok (.getfield 10, 3) := by decide +kernel
theorem dX10_putNumbers_4 : decode cX10_putNumbers 4 = .ok (.getfield 135, 3) := by decide +kernel
theorem dX10_putNumbers_7 : decode cX10_putNumbers 7 = .ok (.iload_n 1, 1) := by decide +kernel
theorem dX10_putNumbers_8 : decode cX10_putNumbers 8 = .ok (.iload_n 2, 1) := by decide +kernel
theorem dX10_putNumbers_9 : decode cX10_putNumbers 9 = .ok (.iastore, 1) := by decide +kernel
theorem dX10_putNumbers_10 : decode cX10_putNumbers 10 = .ok (.aload_n 0, 1) := by decide +kernel
theorem dX10_putNumbers_11 : decode cX10_putNumbers 11 = .ok (.getfield 10, 3) := by decide +kernel
theorem dX10_putNumbers_14 : decode cX10_putNumbers 14 = .ok (.getfield 135, 3) := by decide +kernel
theorem dX10_putNumbers_17 : decode cX10_putNumbers 17 = .ok (.iload_n 1, 1) := by decide +kernel
theorem dX10_putNumbers_18 : decode cX10_putNumbers 18 = .ok (.iconst 1, 1) := by decide +kernel
theorem dX10_putNumbers_19 : decode cX10_putNumbers 19 = .ok (.iadd, 1) := by decide +kernel
theorem dX10_putNumbers_20 : decode cX10_putNumbers 20 = .ok (.iload_n 3, 1) := by decide +kernel
theorem dX10_putNumbers_21 : decode cX10_putNumbers 21 = .ok (.iastore, 1) := by decide +kernel
theorem dX10_putNumbers_22 : decode cX10_putNumbers 22 = .ok (.aload_n 0, 1) := by decide +kernel
theorem dX10_putNumbers_23 : decode cX10_putNumbers 23 = .ok (.getfield 40, 3) := by decide +kernel
theorem dX10_putNumbers_26 : decode cX10_putNumbers 26 = .ok (.invokevirtual 84, 3) := by decide +kernel
theorem dX10_putNumbers_29 : decode cX10_putNumbers 29 = .ok (.return_, 1) := by decide +kernel
/-- QuotientSums.putNumbers(III)V -/
def wX10_putNumbers (now_bound : Int32) (now_modulus : Int32) (now_seed : Int32) (now_functions : Int32) (now_numbers : Nat → Int32) (rf : Nat → Int32) (rm : Nat → Int32) (rl : Nat → Int32) (ru : Nat → Int32) (rn : Nat → Nat) (rv : Nat → Nat → Int32) (rows_turn : Int32) (a1 : Int32) (a2 : Int32) (a3 : Int32) (Q : (Nat → Int32) → (Nat → Int32) → Prop) : Prop :=
  (vp_in a1 144 ∧ ∀ now_numbers_1 : Nat → Int32, now_numbers_1 = upd now_numbers a1.toNatClampNeg a2 → vp_in (a1 + 1) 144 ∧ ∀ now_numbers_2 : Nat → Int32, now_numbers_2 = upd now_numbers_1 (a1 + 1).toNatClampNeg a3 → ∃ (P_1 : (Nat → Int32) → Prop), wX7_forget rows_turn rf rm rl ru rn rv P_1 ∧ ∀ (rf_1 : Nat → Int32), P_1 rf_1 → (Q now_numbers_2 rf_1))
set_option maxHeartbeats 4000000 in
set_option maxRecDepth 100000 in
theorem mX10_putNumbers (l : Launch) (D : va_G) (Y : Nat → ClassId) (h0 : Nat) (ra : Nat → Nat) (q_now : Nat) (v_reader : Value) (v_changes : Value) (v_image : Value) (q_rows : Nat) (v_couples : Value) (now_bound : Int32) (now_modulus : Int32) (now_seed : Int32) (now_functions : Int32) (v_now_names : Value) (v_now_kinds : Value) (v_now_firsts : Value) (v_now_seconds : Value) (v_now_degrees : Value) (v_now_colours : Value) (v_now_needs : Value) (q_now_numbers : Nat) (now_numbers : Nat → Int32) (rs : Nat → Nat) (rf : Nat → Int32) (rm : Nat → Int32) (rl : Nat → Int32) (ru : Nat → Int32) (rn : Nat → Nat) (rv : Nat → Nat → Int32) (v_rows_sieve : Value) (v_rows_powers : Value) (q_rows_rows : Nat) (rows_turn : Int32) (a1 : Int32) (a2 : Int32) (a3 : Int32) (Q : (Nat → Int32) → (Nat → Int32) → Prop) (h : wX10_putNumbers now_bound now_modulus now_seed now_functions now_numbers rf rm rl ru rn rv rows_turn a1 a2 a3 Q) : gM l D Y yX10_putNumbers cX10_putNumbers 4 none 1 21 0 0 [.ref h0, .int a1, .int a2, .int a3] (rowsW Y ra rs rf rm rl ru rn rv ++ [oX10 h0 (.ref q_now) (v_reader) (v_changes) (v_image) (.ref q_rows) (v_couples), oX3 q_now now_bound now_modulus now_seed now_functions (v_now_names) (v_now_kinds) (v_now_firsts) (v_now_seconds) (v_now_degrees) (v_now_colours) (v_now_needs) (.ref q_now_numbers), aI Y q_now_numbers 144 now_numbers, oX7 q_rows (v_rows_sieve) (v_rows_powers) (.ref q_rows_rows) rows_turn, aR Y q_rows_rows 4 (fun j => some (ra j))]) (fun v w => ∃ now_numbers' : Nat → Int32, ∃ rf' : Nat → Int32, v = none ∧ w = (rowsW Y ra rs rf' rm rl ru rn rv ++ [oX10 h0 (.ref q_now) (v_reader) (v_changes) (v_image) (.ref q_rows) (v_couples), oX3 q_now now_bound now_modulus now_seed now_functions (v_now_names) (v_now_kinds) (v_now_firsts) (v_now_seconds) (v_now_degrees) (v_now_colours) (v_now_needs) (.ref q_now_numbers), aI Y q_now_numbers 144 now_numbers', oX7 q_rows (v_rows_sieve) (v_rows_powers) (.ref q_rows_rows) rows_turn, aR Y q_rows_rows 4 (fun j => some (ra j))]) ∧ Q now_numbers' rf') := by
  refine gM_of (own := RX10) (by decide +kernel) rfl (Nat.le_of_ble_eq_true rfl) rfl (fun E C hR => ?_)
  unfold wX10_putNumbers at h
  refine g_aload_n C dX10_putNumbers_0 0 rfl ?_
  refine g_get C inX10 8 rfl rfl 0 (by decide) wF_X10_10 rfl dX10_putNumbers_1 ?_
  refine g_get C inX3 9 rfl rfl 11 (by decide) wF_X10_135 rfl dX10_putNumbers_4 ?_
  refine g_iload_n C dX10_putNumbers_7 1 rfl ?_
  refine g_iload_n C dX10_putNumbers_8 2 rfl ?_
  obtain ⟨hc_1, h⟩ := h
  refine g_iast C 10 rfl hc_1 dX10_putNumbers_9 (fun now_numbers_1 enow_numbers_1 => gG.eqw (ws' := (rowsW Y ra rs rf rm rl ru rn rv ++ [oX10 h0 (.ref q_now) (v_reader) (v_changes) (v_image) (.ref q_rows) (v_couples), oX3 q_now now_bound now_modulus now_seed now_functions (v_now_names) (v_now_kinds) (v_now_firsts) (v_now_seconds) (v_now_degrees) (v_now_colours) (v_now_needs) (.ref q_now_numbers), aI Y q_now_numbers 144 now_numbers_1, oX7 q_rows (v_rows_sieve) (v_rows_powers) (.ref q_rows_rows) rows_turn, aR Y q_rows_rows 4 (fun j => some (ra j))])) rfl ?_)
  replace h := h now_numbers_1 enow_numbers_1
  refine g_aload_n C dX10_putNumbers_10 0 rfl ?_
  refine g_get C inX10 8 rfl rfl 0 (by decide) wF_X10_10 rfl dX10_putNumbers_11 ?_
  refine g_get C inX3 9 rfl rfl 11 (by decide) wF_X10_135 rfl dX10_putNumbers_14 ?_
  refine g_iload_n C dX10_putNumbers_17 1 rfl ?_
  refine g_iconst (v := 1) C dX10_putNumbers_18 rfl ?_
  refine g_iadd C dX10_putNumbers_19 ?_
  refine g_iload_n C dX10_putNumbers_20 3 rfl ?_
  obtain ⟨hc_2, h⟩ := h
  refine g_iast C 10 rfl hc_2 dX10_putNumbers_21 (fun now_numbers_2 enow_numbers_2 => gG.eqw (ws' := (rowsW Y ra rs rf rm rl ru rn rv ++ [oX10 h0 (.ref q_now) (v_reader) (v_changes) (v_image) (.ref q_rows) (v_couples), oX3 q_now now_bound now_modulus now_seed now_functions (v_now_names) (v_now_kinds) (v_now_firsts) (v_now_seconds) (v_now_degrees) (v_now_colours) (v_now_needs) (.ref q_now_numbers), aI Y q_now_numbers 144 now_numbers_2, oX7 q_rows (v_rows_sieve) (v_rows_powers) (.ref q_rows_rows) rows_turn, aR Y q_rows_rows 4 (fun j => some (ra j))])) rfl ?_)
  replace h := h now_numbers_2 enow_numbers_2
  refine g_aload_n C dX10_putNumbers_22 0 rfl ?_
  refine g_get C inX10 8 rfl rfl 4 (by decide) wF_X10_40 rfl dX10_putNumbers_23 ?_
  obtain ⟨P_1, hP, h⟩ := h
  refine g_callV (As := []) (rest := []) C (mX7_forget l D Y q_rows ra v_rows_sieve v_rows_powers q_rows_rows rows_turn rs rf rm rl ru rn rv P_1 hP) dX10_putNumbers_26 rfl wM_X10_84 wI_X7_forget wV_X7_forget wN_X7 wC_X7_forget (n := 0) (by decide +kernel) rfl (q0 := 8) rfl rfl ⟨Nat.le_of_ble_eq_true rfl, Nat.le_of_ble_eq_true rfl⟩ ⟨Nat.le_of_ble_eq_true rfl, Nat.le_of_ble_eq_true rfl⟩ (Nat.le_of_ble_eq_true rfl) [0, 1, 2, 3, 4, 5, 6, 7, 11, 12] [8, 9, 10] rfl rfl rfl (fun v wc hv => ?_)
  obtain ⟨rf_1, rfl, rfl, hq⟩ := hv
  replace h := h rf_1 hq
  refine gG.perm (ws' := (rowsW Y ra rs rf_1 rm rl ru rn rv ++ [oX10 h0 (.ref q_now) (v_reader) (v_changes) (v_image) (.ref q_rows) (v_couples), oX3 q_now now_bound now_modulus now_seed now_functions (v_now_names) (v_now_kinds) (v_now_firsts) (v_now_seconds) (v_now_degrees) (v_now_colours) (v_now_needs) (.ref q_now_numbers), aI Y q_now_numbers 144 now_numbers_2, oX7 q_rows (v_rows_sieve) (v_rows_powers) (.ref q_rows_rows) rows_turn, aR Y q_rows_rows 4 (fun j => some (ra j))])) [3, 4, 5, 6, 7, 8, 9, 10, 0, 1, 2, 11, 12] rfl rfl ?_
  exact g_vret C hR (Nat.le_of_ble_eq_true rfl) (Nat.le_of_ble_eq_true rfl) dX10_putNumbers_29 ⟨now_numbers_2, rf_1, rfl, rfl, h⟩
theorem dX10_set_0 : decode cX10_set 0 = .ok (.aload_n 0, 1) := by decide +kernel
theorem dX10_set_1 : decode cX10_set 1 = .ok (.getfield 10, 3) := by decide +kernel
theorem dX10_set_4 : decode cX10_set 4 = .ok (.iload_n 1, 1) := by decide +kernel
theorem dX10_set_5 : decode cX10_set 5 = .ok (.invokevirtual 129, 3) := by decide +kernel
theorem dX10_set_8 : decode cX10_set 8 = .ok (.ifCond .eq 25, 3) := by decide +kernel
theorem dX10_set_11 : decode cX10_set 11 = .ok (.iload_n 2, 1) := by decide +kernel
theorem dX10_set_12 : decode cX10_set 12 = .ok (.invokestatic 132, 3) := by decide +kernel
theorem dX10_set_15 : decode cX10_set 15 = .ok (.ifCond .eq 18, 3) := by decide +kernel
theorem dX10_set_18 : decode cX10_set 18 = .ok (.iload_n 3, 1) := by decide +kernel
theorem dX10_set_19 : decode cX10_set 19 = .ok (.invokestatic 154, 3) := by decide +kernel
theorem dX10_set_22 : decode cX10_set 22 = .ok (.ifCond .eq 11, 3) := by decide +kernel
theorem dX10_set_25 : decode cX10_set 25 = .ok (.iload 4, 2) := by decide +kernel
theorem dX10_set_27 : decode cX10_set 27 = .ok (.invokestatic 154, 3) := by decide +kernel
theorem dX10_set_30 : decode cX10_set 30 = .ok (.ifCond .ne 5, 3) := by decide +kernel
theorem dX10_set_33 : decode cX10_set 33 = .ok (.iconst 0, 1) := by decide +kernel
theorem dX10_set_34 : decode cX10_set 34 = .ok (.ireturn, 1) := by decide +kernel
theorem dX10_set_35 : decode cX10_set 35 = .ok (.iload_n 1, 1) := by decide +kernel
theorem dX10_set_36 : decode cX10_set 36 = .ok (.iload_n 2, 1) := by decide +kernel
theorem dX10_set_37 : decode cX10_set 37 = .ok (.invokestatic 138, 3) := by decide +kernel
theorem dX10_set_40 : decode cX10_set 40 = .ok (.istore 5, 2) := by decide +kernel
theorem dX10_set_42 : decode cX10_set 42 = .ok (.aload_n 0, 1) := by decide +kernel
theorem dX10_set_43 : decode cX10_set 43 = .ok (.getfield 26, 3) := by decide +kernel
theorem dX10_set_46 : decode cX10_set 46 = .ok (.iconst 2, 1) := by decide +kernel
theorem dX10_set_47 : decode cX10_set 47 = .ok (.iload 5, 2) := by decide +kernel
theorem dX10_set_49 : decode cX10_set 49 = .ok (.aload_n 0, 1) := by decide +kernel
theorem dX10_set_50 : decode cX10_set 50 = .ok (.getfield 10, 3) := by decide +kernel
theorem dX10_set_53 : decode cX10_set 53 = .ok (.getfield 135, 3) := by decide +kernel
theorem dX10_set_56 : decode cX10_set 56 = .ok (.iload 5, 2) := by decide +kernel
theorem dX10_set_58 : decode cX10_set 58 = .ok (.iaload, 1) := by decide +kernel
theorem dX10_set_59 : decode cX10_set 59 = .ok (.aload_n 0, 1) := by decide +kernel
theorem dX10_set_60 : decode cX10_set 60 = .ok (.getfield 10, 3) := by decide +kernel
theorem dX10_set_63 : decode cX10_set 63 = .ok (.getfield 135, 3) := by decide +kernel
theorem dX10_set_66 : decode cX10_set 66 = .ok (.iload 5, 2) := by decide +kernel
theorem dX10_set_68 : decode cX10_set 68 = .ok (.iconst 1, 1) := by decide +kernel
theorem dX10_set_69 : decode cX10_set 69 = .ok (.iadd, 1) := by decide +kernel
theorem dX10_set_70 : decode cX10_set 70 = .ok (.iaload, 1) := by decide +kernel
theorem dX10_set_71 : decode cX10_set 71 = .ok (.invokevirtual 146, 3) := by decide +kernel
theorem dX10_set_74 : decode cX10_set 74 = .ok (.aload_n 0, 1) := by decide +kernel
theorem dX10_set_75 : decode cX10_set 75 = .ok (.iload 5, 2) := by decide +kernel
theorem dX10_set_77 : decode cX10_set 77 = .ok (.iload_n 3, 1) := by decide +kernel
theorem dX10_set_78 : decode cX10_set 78 = .ok (.iload 4, 2) := by decide +kernel
theorem dX10_set_80 : decode cX10_set 80 = .ok (.invokevirtual 157, 3) := by decide +kernel
theorem dX10_set_83 : decode cX10_set 83 = .ok (.iconst 1, 1) := by decide +kernel
theorem dX10_set_84 : decode cX10_set 84 = .ok (.ireturn, 1) := by decide +kernel
/-- QuotientSums.set(IIII)Z -/
def wX10_set (now_bound : Int32) (now_modulus : Int32) (now_seed : Int32) (now_functions : Int32) (now_kinds : Nat → Int32) (now_numbers : Nat → Int32) (changes_size : Int32) (changes_top : Int32) (changes_kinds : Nat → Int32) (changes_cells : Nat → Int32) (changes_ones : Nat → Int32) (changes_others : Nat → Int32) (rf : Nat → Int32) (rm : Nat → Int32) (rl : Nat → Int32) (ru : Nat → Int32) (rn : Nat → Nat) (rv : Nat → Nat → Int32) (rows_turn : Int32) (a1 : Int32) (a2 : Int32) (a3 : Int32) (a4 : Int32) (Q : (Int32) → (Nat → Int32) → (Int32) → (Int32) → (Nat → Int32) → (Nat → Int32) → (Nat → Int32) → (Nat → Int32) → (Nat → Int32) → Prop) : Prop :=
  (∃ (P_1 : (Int32) → Prop), wX3_isOwn now_bound now_modulus now_seed now_functions now_kinds a1 P_1 ∧ ∀ (rF_1 : Int32), P_1 rF_1 → ((rF_1 = 0 → (Q 0 now_numbers changes_size changes_top changes_kinds changes_cells changes_ones changes_others rf)) ∧ (¬ rF_1 = 0 → (∃ (P_2 : (Int32) → Prop), wX10_isOwnPower a2 P_2 ∧ ∀ (rF_2 : Int32), P_2 rF_2 → ((rF_2 = 0 → (Q 0 now_numbers changes_size changes_top changes_kinds changes_cells changes_ones changes_others rf)) ∧ (¬ rF_2 = 0 → (∃ (P_3 : (Int32) → Prop), wX10_isTellable a3 P_3 ∧ ∀ (rF_3 : Int32), P_3 rF_3 → ((rF_3 = 0 → (Q 0 now_numbers changes_size changes_top changes_kinds changes_cells changes_ones changes_others rf)) ∧ (¬ rF_3 = 0 → (∃ (P_4 : (Int32) → Prop), wX10_isTellable a4 P_4 ∧ ∀ (rF_4 : Int32), P_4 rF_4 → ((¬ rF_4 = 0 → (∃ (P_5 : (Int32) → Prop), wX3_cell a1 a2 P_5 ∧ ∀ (rF_5 : Int32), P_5 rF_5 → vp_in rF_5 144 ∧ vp_in (rF_5 + 1) 144 ∧ ∃ (P_6 : (Int32) → (Int32) → (Nat → Int32) → (Nat → Int32) → (Nat → Int32) → (Nat → Int32) → Prop), wX0_push changes_size changes_top changes_kinds changes_cells changes_ones changes_others 2 rF_5 (now_numbers rF_5.toNatClampNeg) (now_numbers (rF_5 + 1).toNatClampNeg) P_6 ∧ ∀ (size_1 : Int32) (top_1 : Int32) (kinds_1 : Nat → Int32) (cells_1 : Nat → Int32) (ones_1 : Nat → Int32) (others_1 : Nat → Int32), P_6 size_1 top_1 kinds_1 cells_1 ones_1 others_1 → ∃ (P_7 : (Nat → Int32) → (Nat → Int32) → Prop), wX10_putNumbers now_bound now_modulus now_seed now_functions now_numbers rf rm rl ru rn rv rows_turn rF_5 a3 a4 P_7 ∧ ∀ (now_numbers_1 : Nat → Int32) (rf_1 : Nat → Int32), P_7 now_numbers_1 rf_1 → (Q 1 now_numbers_1 size_1 top_1 kinds_1 cells_1 ones_1 others_1 rf_1))) ∧ (rF_4 = 0 → (Q 0 now_numbers changes_size changes_top changes_kinds changes_cells changes_ones changes_others rf)))))))))))))
set_option maxHeartbeats 4000000 in
set_option maxRecDepth 100000 in
theorem mX10_set (l : Launch) (D : va_G) (Y : Nat → ClassId) (h0 : Nat) (ra : Nat → Nat) (q_now : Nat) (v_reader : Value) (q_changes : Nat) (v_image : Value) (q_rows : Nat) (v_couples : Value) (now_bound : Int32) (now_modulus : Int32) (now_seed : Int32) (now_functions : Int32) (v_now_names : Value) (q_now_kinds : Nat) (v_now_firsts : Value) (v_now_seconds : Value) (v_now_degrees : Value) (v_now_colours : Value) (v_now_needs : Value) (q_now_numbers : Nat) (now_kinds : Nat → Int32) (now_numbers : Nat → Int32) (changes_size : Int32) (changes_top : Int32) (q_changes_kinds : Nat) (q_changes_cells : Nat) (q_changes_ones : Nat) (q_changes_others : Nat) (changes_kinds : Nat → Int32) (changes_cells : Nat → Int32) (changes_ones : Nat → Int32) (changes_others : Nat → Int32) (rs : Nat → Nat) (rf : Nat → Int32) (rm : Nat → Int32) (rl : Nat → Int32) (ru : Nat → Int32) (rn : Nat → Nat) (rv : Nat → Nat → Int32) (v_rows_sieve : Value) (v_rows_powers : Value) (q_rows_rows : Nat) (rows_turn : Int32) (a1 : Int32) (a2 : Int32) (a3 : Int32) (a4 : Int32) (Q : (Int32) → (Nat → Int32) → (Int32) → (Int32) → (Nat → Int32) → (Nat → Int32) → (Nat → Int32) → (Nat → Int32) → (Nat → Int32) → Prop) (h : wX10_set now_bound now_modulus now_seed now_functions now_kinds now_numbers changes_size changes_top changes_kinds changes_cells changes_ones changes_others rf rm rl ru rn rv rows_turn a1 a2 a3 a4 Q) : gM l D Y yX10_set cX10_set 6 (some .boolean) 2 45 0 0 [.ref h0, .int a1, .int a2, .int a3, .int a4] (rowsW Y ra rs rf rm rl ru rn rv ++ [oX10 h0 (.ref q_now) (v_reader) (.ref q_changes) (v_image) (.ref q_rows) (v_couples), oX3 q_now now_bound now_modulus now_seed now_functions (v_now_names) (.ref q_now_kinds) (v_now_firsts) (v_now_seconds) (v_now_degrees) (v_now_colours) (v_now_needs) (.ref q_now_numbers), aI Y q_now_kinds 12 now_kinds, aI Y q_now_numbers 144 now_numbers, oX0 q_changes changes_size changes_top (.ref q_changes_kinds) (.ref q_changes_cells) (.ref q_changes_ones) (.ref q_changes_others), aI Y q_changes_kinds 20 changes_kinds, aI Y q_changes_cells 20 changes_cells, aI Y q_changes_ones 20 changes_ones, aI Y q_changes_others 20 changes_others, oX7 q_rows (v_rows_sieve) (v_rows_powers) (.ref q_rows_rows) rows_turn, aR Y q_rows_rows 4 (fun j => some (ra j))]) (fun v w => ∃ r : Int32, ∃ now_numbers' : Nat → Int32, ∃ changes_size' : Int32, ∃ changes_top' : Int32, ∃ changes_kinds' : Nat → Int32, ∃ changes_cells' : Nat → Int32, ∃ changes_ones' : Nat → Int32, ∃ changes_others' : Nat → Int32, ∃ rf' : Nat → Int32, v = some (.int r) ∧ w = (rowsW Y ra rs rf' rm rl ru rn rv ++ [oX10 h0 (.ref q_now) (v_reader) (.ref q_changes) (v_image) (.ref q_rows) (v_couples), oX3 q_now now_bound now_modulus now_seed now_functions (v_now_names) (.ref q_now_kinds) (v_now_firsts) (v_now_seconds) (v_now_degrees) (v_now_colours) (v_now_needs) (.ref q_now_numbers), aI Y q_now_kinds 12 now_kinds, aI Y q_now_numbers 144 now_numbers', oX0 q_changes changes_size' changes_top' (.ref q_changes_kinds) (.ref q_changes_cells) (.ref q_changes_ones) (.ref q_changes_others), aI Y q_changes_kinds 20 changes_kinds', aI Y q_changes_cells 20 changes_cells', aI Y q_changes_ones 20 changes_ones', aI Y q_changes_others 20 changes_others', oX7 q_rows (v_rows_sieve) (v_rows_powers) (.ref q_rows_rows) rows_turn, aR Y q_rows_rows 4 (fun j => some (ra j))]) ∧ Q r now_numbers' changes_size' changes_top' changes_kinds' changes_cells' changes_ones' changes_others' rf') := by
  refine gM_of (own := RX10) (by decide +kernel) rfl (Nat.le_of_ble_eq_true rfl) rfl (fun E C hR => ?_)
  unfold wX10_set at h
  refine g_aload_n C dX10_set_0 0 rfl ?_
  refine g_get C inX10 8 rfl rfl 0 (by decide) wF_X10_10 rfl dX10_set_1 ?_
  refine g_iload_n C dX10_set_4 1 rfl ?_
  obtain ⟨P_1, hP, h⟩ := h
  refine g_callV (As := [.int a1]) (rest := []) C (mX3_isOwn l D Y q_now now_bound now_modulus now_seed now_functions v_now_names q_now_kinds v_now_firsts v_now_seconds v_now_degrees v_now_colours v_now_needs (.ref q_now_numbers) now_kinds a1 P_1 hP) dX10_set_5 rfl wM_X10_129 wI_X3_isOwn wV_X3_isOwn wN_X3 wC_X3_isOwn (n := 1) (by decide +kernel) rfl (q0 := 0) rfl rfl ⟨Nat.le_of_ble_eq_true rfl, Nat.le_of_ble_eq_true rfl⟩ ⟨Nat.le_of_ble_eq_true rfl, Nat.le_of_ble_eq_true rfl⟩ (Nat.le_of_ble_eq_true rfl) [9, 10] [0, 1, 2, 3, 4, 5, 6, 7, 8, 11, 12, 13, 14, 15, 16, 17, 18] rfl rfl rfl (fun v wc hv => ?_)
  obtain ⟨rF_1, rfl, rfl, hq⟩ := hv
  replace h := h rF_1 hq
  refine gG.perm (ws' := (rowsW Y ra rs rf rm rl ru rn rv ++ [oX10 h0 (.ref q_now) (v_reader) (.ref q_changes) (v_image) (.ref q_rows) (v_couples), oX3 q_now now_bound now_modulus now_seed now_functions (v_now_names) (.ref q_now_kinds) (v_now_firsts) (v_now_seconds) (v_now_degrees) (v_now_colours) (v_now_needs) (.ref q_now_numbers), aI Y q_now_kinds 12 now_kinds, aI Y q_now_numbers 144 now_numbers, oX0 q_changes changes_size changes_top (.ref q_changes_kinds) (.ref q_changes_cells) (.ref q_changes_ones) (.ref q_changes_others), aI Y q_changes_kinds 20 changes_kinds, aI Y q_changes_cells 20 changes_cells, aI Y q_changes_ones 20 changes_ones, aI Y q_changes_others 20 changes_others, oX7 q_rows (v_rows_sieve) (v_rows_powers) (.ref q_rows_rows) rows_turn, aR Y q_rows_rows 4 (fun j => some (ra j))])) [0, 1, 2, 3, 4, 5, 6, 7, 8, 17, 18, 9, 10, 11, 12, 13, 14, 15, 16] rfl rfl ?_
  refine g_if_eq (tgt := 33) C dX10_set_8 (by decide) (fun c_1 => ?_) (fun c_1 => ?_)
  · replace h := h.1 c_1
    refine g_iconst (v := 0) C dX10_set_33 rfl ?_
    exact g_zret C hR (by decide) (Nat.le_of_ble_eq_true rfl) (Nat.le_of_ble_eq_true rfl) dX10_set_34 ⟨0, now_numbers, changes_size, changes_top, changes_kinds, changes_cells, changes_ones, changes_others, rf, rfl, rfl, h⟩
  · replace h := h.2 c_1
    refine g_iload_n C dX10_set_11 2 rfl ?_
    obtain ⟨P_2, hP, h⟩ := h
    refine g_callS (As := [.int a2]) (rest := []) C (mX10_isOwnPower l D Y a2 P_2 hP) dX10_set_12 rfl wM_X10_132 wS_X10_isOwnPower wN_X10 wC_X10_isOwnPower (n := 1) (by decide +kernel) rfl ⟨Nat.le_of_ble_eq_true rfl, Nat.le_of_ble_eq_true rfl⟩ ⟨Nat.le_of_ble_eq_true rfl, Nat.le_of_ble_eq_true rfl⟩ (Nat.le_of_ble_eq_true rfl) [] [0, 1, 2, 3, 4, 5, 6, 7, 8, 9, 10, 11, 12, 13, 14, 15, 16, 17, 18] rfl rfl rfl (fun v wc hv => ?_)
    obtain ⟨rF_2, rfl, rfl, hq⟩ := hv
    replace h := h rF_2 hq
    refine gG.eqw (ws' := (rowsW Y ra rs rf rm rl ru rn rv ++ [oX10 h0 (.ref q_now) (v_reader) (.ref q_changes) (v_image) (.ref q_rows) (v_couples), oX3 q_now now_bound now_modulus now_seed now_functions (v_now_names) (.ref q_now_kinds) (v_now_firsts) (v_now_seconds) (v_now_degrees) (v_now_colours) (v_now_needs) (.ref q_now_numbers), aI Y q_now_kinds 12 now_kinds, aI Y q_now_numbers 144 now_numbers, oX0 q_changes changes_size changes_top (.ref q_changes_kinds) (.ref q_changes_cells) (.ref q_changes_ones) (.ref q_changes_others), aI Y q_changes_kinds 20 changes_kinds, aI Y q_changes_cells 20 changes_cells, aI Y q_changes_ones 20 changes_ones, aI Y q_changes_others 20 changes_others, oX7 q_rows (v_rows_sieve) (v_rows_powers) (.ref q_rows_rows) rows_turn, aR Y q_rows_rows 4 (fun j => some (ra j))])) rfl ?_
    refine g_if_eq (tgt := 33) C dX10_set_15 (by decide) (fun c_2 => ?_) (fun c_2 => ?_)
    · replace h := h.1 c_2
      refine g_iconst (v := 0) C dX10_set_33 rfl ?_
      exact g_zret C hR (by decide) (Nat.le_of_ble_eq_true rfl) (Nat.le_of_ble_eq_true rfl) dX10_set_34 ⟨0, now_numbers, changes_size, changes_top, changes_kinds, changes_cells, changes_ones, changes_others, rf, rfl, rfl, h⟩
    · replace h := h.2 c_2
      refine g_iload_n C dX10_set_18 3 rfl ?_
      obtain ⟨P_3, hP, h⟩ := h
      refine g_callS (As := [.int a3]) (rest := []) C (mX10_isTellable l D Y a3 P_3 hP) dX10_set_19 rfl wM_X10_154 wS_X10_isTellable wN_X10 wC_X10_isTellable (n := 1) (by decide +kernel) rfl ⟨Nat.le_of_ble_eq_true rfl, Nat.le_of_ble_eq_true rfl⟩ ⟨Nat.le_of_ble_eq_true rfl, Nat.le_of_ble_eq_true rfl⟩ (Nat.le_of_ble_eq_true rfl) [] [0, 1, 2, 3, 4, 5, 6, 7, 8, 9, 10, 11, 12, 13, 14, 15, 16, 17, 18] rfl rfl rfl (fun v wc hv => ?_)
      obtain ⟨rF_3, rfl, rfl, hq⟩ := hv
      replace h := h rF_3 hq
      refine gG.eqw (ws' := (rowsW Y ra rs rf rm rl ru rn rv ++ [oX10 h0 (.ref q_now) (v_reader) (.ref q_changes) (v_image) (.ref q_rows) (v_couples), oX3 q_now now_bound now_modulus now_seed now_functions (v_now_names) (.ref q_now_kinds) (v_now_firsts) (v_now_seconds) (v_now_degrees) (v_now_colours) (v_now_needs) (.ref q_now_numbers), aI Y q_now_kinds 12 now_kinds, aI Y q_now_numbers 144 now_numbers, oX0 q_changes changes_size changes_top (.ref q_changes_kinds) (.ref q_changes_cells) (.ref q_changes_ones) (.ref q_changes_others), aI Y q_changes_kinds 20 changes_kinds, aI Y q_changes_cells 20 changes_cells, aI Y q_changes_ones 20 changes_ones, aI Y q_changes_others 20 changes_others, oX7 q_rows (v_rows_sieve) (v_rows_powers) (.ref q_rows_rows) rows_turn, aR Y q_rows_rows 4 (fun j => some (ra j))])) rfl ?_
      refine g_if_eq (tgt := 33) C dX10_set_22 (by decide) (fun c_3 => ?_) (fun c_3 => ?_)
      · replace h := h.1 c_3
        refine g_iconst (v := 0) C dX10_set_33 rfl ?_
        exact g_zret C hR (by decide) (Nat.le_of_ble_eq_true rfl) (Nat.le_of_ble_eq_true rfl) dX10_set_34 ⟨0, now_numbers, changes_size, changes_top, changes_kinds, changes_cells, changes_ones, changes_others, rf, rfl, rfl, h⟩
      · replace h := h.2 c_3
        refine g_iload C dX10_set_25 4 rfl ?_
        obtain ⟨P_4, hP, h⟩ := h
        refine g_callS (As := [.int a4]) (rest := []) C (mX10_isTellable l D Y a4 P_4 hP) dX10_set_27 rfl wM_X10_154 wS_X10_isTellable wN_X10 wC_X10_isTellable (n := 1) (by decide +kernel) rfl ⟨Nat.le_of_ble_eq_true rfl, Nat.le_of_ble_eq_true rfl⟩ ⟨Nat.le_of_ble_eq_true rfl, Nat.le_of_ble_eq_true rfl⟩ (Nat.le_of_ble_eq_true rfl) [] [0, 1, 2, 3, 4, 5, 6, 7, 8, 9, 10, 11, 12, 13, 14, 15, 16, 17, 18] rfl rfl rfl (fun v wc hv => ?_)
        obtain ⟨rF_4, rfl, rfl, hq⟩ := hv
        replace h := h rF_4 hq
        refine gG.eqw (ws' := (rowsW Y ra rs rf rm rl ru rn rv ++ [oX10 h0 (.ref q_now) (v_reader) (.ref q_changes) (v_image) (.ref q_rows) (v_couples), oX3 q_now now_bound now_modulus now_seed now_functions (v_now_names) (.ref q_now_kinds) (v_now_firsts) (v_now_seconds) (v_now_degrees) (v_now_colours) (v_now_needs) (.ref q_now_numbers), aI Y q_now_kinds 12 now_kinds, aI Y q_now_numbers 144 now_numbers, oX0 q_changes changes_size changes_top (.ref q_changes_kinds) (.ref q_changes_cells) (.ref q_changes_ones) (.ref q_changes_others), aI Y q_changes_kinds 20 changes_kinds, aI Y q_changes_cells 20 changes_cells, aI Y q_changes_ones 20 changes_ones, aI Y q_changes_others 20 changes_others, oX7 q_rows (v_rows_sieve) (v_rows_powers) (.ref q_rows_rows) rows_turn, aR Y q_rows_rows 4 (fun j => some (ra j))])) rfl ?_
        refine g_if_ne (tgt := 35) C dX10_set_30 (by decide) (fun c_4 => ?_) (fun c_4 => ?_)
        · replace h := h.1 c_4
          refine g_iload_n C dX10_set_35 1 rfl ?_
          refine g_iload_n C dX10_set_36 2 rfl ?_
          obtain ⟨P_5, hP, h⟩ := h
          refine g_callS (As := [.int a1, .int a2]) (rest := []) C (mX3_cell l D Y a1 a2 P_5 hP) dX10_set_37 rfl wM_X10_138 wS_X3_cell wN_X3 wC_X3_cell (n := 2) (by decide +kernel) rfl ⟨Nat.le_of_ble_eq_true rfl, Nat.le_of_ble_eq_true rfl⟩ ⟨Nat.le_of_ble_eq_true rfl, Nat.le_of_ble_eq_true rfl⟩ (Nat.le_of_ble_eq_true rfl) [] [0, 1, 2, 3, 4, 5, 6, 7, 8, 9, 10, 11, 12, 13, 14, 15, 16, 17, 18] rfl rfl rfl (fun v wc hv => ?_)
          obtain ⟨rF_5, rfl, rfl, hq⟩ := hv
          replace h := h rF_5 hq
          refine gG.eqw (ws' := (rowsW Y ra rs rf rm rl ru rn rv ++ [oX10 h0 (.ref q_now) (v_reader) (.ref q_changes) (v_image) (.ref q_rows) (v_couples), oX3 q_now now_bound now_modulus now_seed now_functions (v_now_names) (.ref q_now_kinds) (v_now_firsts) (v_now_seconds) (v_now_degrees) (v_now_colours) (v_now_needs) (.ref q_now_numbers), aI Y q_now_kinds 12 now_kinds, aI Y q_now_numbers 144 now_numbers, oX0 q_changes changes_size changes_top (.ref q_changes_kinds) (.ref q_changes_cells) (.ref q_changes_ones) (.ref q_changes_others), aI Y q_changes_kinds 20 changes_kinds, aI Y q_changes_cells 20 changes_cells, aI Y q_changes_ones 20 changes_ones, aI Y q_changes_others 20 changes_others, oX7 q_rows (v_rows_sieve) (v_rows_powers) (.ref q_rows_rows) rows_turn, aR Y q_rows_rows 4 (fun j => some (ra j))])) rfl ?_
          refine g_istore (lv' := [(5, .int rF_5), (0, .ref h0), (1, .int a1), (2, .int a2), (3, .int a3), (4, .int a4)]) C dX10_set_40 (by decide) rfl ?_
          refine g_aload_n C dX10_set_42 1 rfl ?_
          refine g_get C inX10 8 rfl rfl 2 (by decide) wF_X10_26 rfl dX10_set_43 ?_
          refine g_iconst (v := 2) C dX10_set_46 rfl ?_
          refine g_iload C dX10_set_47 0 rfl ?_
          refine g_aload_n C dX10_set_49 1 rfl ?_
          refine g_get C inX10 8 rfl rfl 0 (by decide) wF_X10_10 rfl dX10_set_50 ?_
          refine g_get C inX3 9 rfl rfl 11 (by decide) wF_X10_135 rfl dX10_set_53 ?_
          refine g_iload C dX10_set_56 0 rfl ?_
          obtain ⟨hc_1, h⟩ := h
          refine g_iald C 11 rfl hc_1 dX10_set_58 ?_
          refine g_aload_n C dX10_set_59 1 rfl ?_
          refine g_get C inX10 8 rfl rfl 0 (by decide) wF_X10_10 rfl dX10_set_60 ?_
          refine g_get C inX3 9 rfl rfl 11 (by decide) wF_X10_135 rfl dX10_set_63 ?_
          refine g_iload C dX10_set_66 0 rfl ?_
          refine g_iconst (v := 1) C dX10_set_68 rfl ?_
          refine g_iadd C dX10_set_69 ?_
          obtain ⟨hc_2, h⟩ := h
          refine g_iald C 11 rfl hc_2 dX10_set_70 ?_
          obtain ⟨P_6, hP, h⟩ := h
          refine g_callV (As := [.int 2, .int rF_5, .int (now_numbers rF_5.toNatClampNeg), .int (now_numbers (rF_5 + 1).toNatClampNeg)]) (rest := []) C (mX0_push l D Y q_changes changes_size changes_top q_changes_kinds q_changes_cells q_changes_ones q_changes_others changes_kinds changes_cells changes_ones changes_others 2 rF_5 (now_numbers rF_5.toNatClampNeg) (now_numbers (rF_5 + 1).toNatClampNeg) P_6 hP) dX10_set_71 rfl wM_X10_146 wI_X0_push wV_X0_push wN_X0 wC_X0_push (n := 4) (by decide +kernel) rfl (q0 := 0) rfl rfl ⟨Nat.le_of_ble_eq_true rfl, Nat.le_of_ble_eq_true rfl⟩ ⟨Nat.le_of_ble_eq_true rfl, Nat.le_of_ble_eq_true rfl⟩ (Nat.le_of_ble_eq_true rfl) [12, 13, 14, 15, 16] [0, 1, 2, 3, 4, 5, 6, 7, 8, 9, 10, 11, 17, 18] rfl rfl rfl (fun v wc hv => ?_)
          obtain ⟨size_1, top_1, kinds_1, cells_1, ones_1, others_1, rfl, rfl, hq⟩ := hv
          replace h := h size_1 top_1 kinds_1 cells_1 ones_1 others_1 hq
          refine gG.perm (ws' := (rowsW Y ra rs rf rm rl ru rn rv ++ [oX10 h0 (.ref q_now) (v_reader) (.ref q_changes) (v_image) (.ref q_rows) (v_couples), oX3 q_now now_bound now_modulus now_seed now_functions (v_now_names) (.ref q_now_kinds) (v_now_firsts) (v_now_seconds) (v_now_degrees) (v_now_colours) (v_now_needs) (.ref q_now_numbers), aI Y q_now_kinds 12 now_kinds, aI Y q_now_numbers 144 now_numbers, oX0 q_changes size_1 top_1 (.ref q_changes_kinds) (.ref q_changes_cells) (.ref q_changes_ones) (.ref q_changes_others), aI Y q_changes_kinds 20 kinds_1, aI Y q_changes_cells 20 cells_1, aI Y q_changes_ones 20 ones_1, aI Y q_changes_others 20 others_1, oX7 q_rows (v_rows_sieve) (v_rows_powers) (.ref q_rows_rows) rows_turn, aR Y q_rows_rows 4 (fun j => some (ra j))])) [0, 1, 2, 3, 4, 5, 6, 7, 8, 9, 10, 11, 14, 15, 16, 17, 18, 12, 13] rfl rfl ?_
          refine g_aload_n C dX10_set_74 1 rfl ?_
          refine g_iload C dX10_set_75 0 rfl ?_
          refine g_iload_n C dX10_set_77 4 rfl ?_
          refine g_iload C dX10_set_78 5 rfl ?_
          obtain ⟨P_7, hP, h⟩ := h
          refine g_callV (As := [.int rF_5, .int a3, .int a4]) (rest := []) C (mX10_putNumbers l D Y h0 ra q_now v_reader (.ref q_changes) v_image q_rows v_couples now_bound now_modulus now_seed now_functions v_now_names (.ref q_now_kinds) v_now_firsts v_now_seconds v_now_degrees v_now_colours v_now_needs q_now_numbers now_numbers rs rf rm rl ru rn rv v_rows_sieve v_rows_powers q_rows_rows rows_turn rF_5 a3 a4 P_7 hP) dX10_set_80 rfl wM_X10_157 wI_X10_putNumbers wV_X10_putNumbers wN_X10 wC_X10_putNumbers (n := 3) (by decide +kernel) rfl (q0 := 8) rfl rfl ⟨Nat.le_of_ble_eq_true rfl, Nat.le_of_ble_eq_true rfl⟩ ⟨Nat.le_of_ble_eq_true rfl, Nat.le_of_ble_eq_true rfl⟩ (Nat.le_of_ble_eq_true rfl) [0, 1, 2, 3, 4, 5, 6, 7, 8, 9, 11, 17, 18] [10, 12, 13, 14, 15, 16] rfl rfl rfl (fun v wc hv => ?_)
          obtain ⟨now_numbers_1, rf_1, rfl, rfl, hq⟩ := hv
          replace h := h now_numbers_1 rf_1 hq
          refine gG.perm (ws' := (rowsW Y ra rs rf_1 rm rl ru rn rv ++ [oX10 h0 (.ref q_now) (v_reader) (.ref q_changes) (v_image) (.ref q_rows) (v_couples), oX3 q_now now_bound now_modulus now_seed now_functions (v_now_names) (.ref q_now_kinds) (v_now_firsts) (v_now_seconds) (v_now_degrees) (v_now_colours) (v_now_needs) (.ref q_now_numbers), aI Y q_now_kinds 12 now_kinds, aI Y q_now_numbers 144 now_numbers_1, oX0 q_changes size_1 top_1 (.ref q_changes_kinds) (.ref q_changes_cells) (.ref q_changes_ones) (.ref q_changes_others), aI Y q_changes_kinds 20 kinds_1, aI Y q_changes_cells 20 cells_1, aI Y q_changes_ones 20 ones_1, aI Y q_changes_others 20 others_1, oX7 q_rows (v_rows_sieve) (v_rows_powers) (.ref q_rows_rows) rows_turn, aR Y q_rows_rows 4 (fun j => some (ra j))])) [6, 7, 8, 9, 10, 11, 12, 13, 14, 15, 0, 16, 1, 2, 3, 4, 5, 17, 18] rfl rfl ?_
          refine g_iconst (v := 1) C dX10_set_83 rfl ?_
          exact g_zret C hR (by decide) (Nat.le_of_ble_eq_true rfl) (Nat.le_of_ble_eq_true rfl) dX10_set_84 ⟨1, now_numbers_1, size_1, top_1, kinds_1, cells_1, ones_1, others_1, rf_1, rfl, rfl, h⟩
        · replace h := h.2 c_4
          refine g_iconst (v := 0) C dX10_set_33 rfl ?_
          exact g_zret C hR (by decide) (Nat.le_of_ble_eq_true rfl) (Nat.le_of_ble_eq_true rfl) dX10_set_34 ⟨0, now_numbers, changes_size, changes_top, changes_kinds, changes_cells, changes_ones, changes_others, rf, rfl, rfl, h⟩
theorem dX10_isPlace_0 : decode cX10_isPlace 0 = .ok (.iload_n 1, 1) := by decide +kernel
theorem dX10_isPlace_1 : decode cX10_isPlace 1 = .ok (.iconst 1, 1) := by decide +kernel
theorem dX10_isPlace_2 : decode cX10_isPlace 2 = .ok (.if_icmp .lt 18, 3) := by decide +kernel
theorem dX10_isPlace_5 : decode cX10_isPlace 5 = .ok (.iload_n 1, 1) := by decide +kernel
theorem dX10_isPlace_6 : decode cX10_isPlace 6 = .ok (.aload_n 0, 1) := by decide +kernel
theorem dX10_isPlace_7 : decode cX10_isPlace 7 = .ok (.getfield 10, 3) := by decide +kernel
theorem dX10_isPlace_10 : decode cX10_isPlace 10 = .ok (.getfield 143, 3) := by decide +kernel
theorem dX10_isPlace_13 : decode cX10_isPlace 13 = .ok (.if_icmp .gt 7, 3) := by decide +kernel
theorem dX10_isPlace_16 : decode cX10_isPlace 16 = .ok (.iconst 1, 1) := by decide +kernel
theorem dX10_isPlace_17 : decode cX10_isPlace 17 = .ok (.goto 4, 3) := by decide +kernel
theorem dX10_isPlace_20 : decode cX10_isPlace 20 = .ok (.iconst 0, 1) := by decide +kernel
theorem dX10_isPlace_21 : decode cX10_isPlace 21 = .ok (.ireturn, 1) := by decide +kernel
/-- QuotientSums.isPlace(I)Z -/
def wX10_isPlace (now_bound : Int32) (now_modulus : Int32) (now_seed : Int32) (now_functions : Int32) (a1 : Int32) (Q : (Int32) → Prop) : Prop :=
  ((a1 < 1 → (Q 0)) ∧ (¬ a1 < 1 → ((now_bound < a1 → (Q 0)) ∧ (¬ now_bound < a1 → (Q 1)))))
set_option maxHeartbeats 4000000 in
set_option maxRecDepth 100000 in
theorem mX10_isPlace (l : Launch) (D : va_G) (Y : Nat → ClassId) (h0 : Nat) (q_now : Nat) (v_reader : Value) (v_changes : Value) (v_image : Value) (v_rows : Value) (v_couples : Value) (now_bound : Int32) (now_modulus : Int32) (now_seed : Int32) (now_functions : Int32) (v_now_names : Value) (v_now_kinds : Value) (v_now_firsts : Value) (v_now_seconds : Value) (v_now_degrees : Value) (v_now_colours : Value) (v_now_needs : Value) (v_now_numbers : Value) (a1 : Int32) (Q : (Int32) → Prop) (h : wX10_isPlace now_bound now_modulus now_seed now_functions a1 Q) : gM l D Y yX10_isPlace cX10_isPlace 2 (some .boolean) 0 0 0 0 [.ref h0, .int a1] [oX10 h0 (.ref q_now) (v_reader) (v_changes) (v_image) (v_rows) (v_couples), oX3 q_now now_bound now_modulus now_seed now_functions (v_now_names) (v_now_kinds) (v_now_firsts) (v_now_seconds) (v_now_degrees) (v_now_colours) (v_now_needs) (v_now_numbers)] (fun v w => ∃ r : Int32, v = some (.int r) ∧ w = [oX10 h0 (.ref q_now) (v_reader) (v_changes) (v_image) (v_rows) (v_couples), oX3 q_now now_bound now_modulus now_seed now_functions (v_now_names) (v_now_kinds) (v_now_firsts) (v_now_seconds) (v_now_degrees) (v_now_colours) (v_now_needs) (v_now_numbers)] ∧ Q r) := by
  refine gM_of (own := RX10) (by decide +kernel) rfl (Nat.le_of_ble_eq_true rfl) rfl (fun E C hR => ?_)
  unfold wX10_isPlace at h
  refine g_iload_n C dX10_isPlace_0 1 rfl ?_
  refine g_iconst (v := 1) C dX10_isPlace_1 rfl ?_
  refine g_icmp_lt (tgt := 20) C dX10_isPlace_2 (by decide) (fun c_1 => ?_) (fun c_1 => ?_)
  · replace h := h.1 c_1
    refine g_iconst (v := 0) C dX10_isPlace_20 rfl ?_
    exact g_zret C hR (by decide) (Nat.le_of_ble_eq_true rfl) (Nat.le_of_ble_eq_true rfl) dX10_isPlace_21 ⟨0, rfl, rfl, h⟩
  · replace h := h.2 c_1
    refine g_iload_n C dX10_isPlace_5 1 rfl ?_
    refine g_aload_n C dX10_isPlace_6 0 rfl ?_
    refine g_get C inX10 0 rfl rfl 0 (by decide) wF_X10_10 rfl dX10_isPlace_7 ?_
    refine g_get C inX3 1 rfl rfl 0 (by decide) wF_X10_143 rfl dX10_isPlace_10 ?_
    refine g_icmp_gt (tgt := 20) C dX10_isPlace_13 (by decide) (fun c_2 => ?_) (fun c_2 => ?_)
    · replace h := h.1 c_2
      refine g_iconst (v := 0) C dX10_isPlace_20 rfl ?_
      exact g_zret C hR (by decide) (Nat.le_of_ble_eq_true rfl) (Nat.le_of_ble_eq_true rfl) dX10_isPlace_21 ⟨0, rfl, rfl, h⟩
    · replace h := h.2 c_2
      refine g_iconst (v := 1) C dX10_isPlace_16 rfl ?_
      refine g_goto (tgt := 21) C dX10_isPlace_17 (by decide) ?_
      exact g_zret C hR (by decide) (Nat.le_of_ble_eq_true rfl) (Nat.le_of_ble_eq_true rfl) dX10_isPlace_21 ⟨1, rfl, rfl, h⟩
theorem dX10_value_0 : decode cX10_value 0 = .ok (.aload_n 0, 1) := by decide +kernel
theorem dX10_value_1 : decode cX10_value 1 = .ok (.getfield 10, 3) := by decide +kernel
theorem dX10_value_4 : decode cX10_value 4 = .ok (.iload_n 1, 1) := by decide +kernel
theorem dX10_value_5 : decode cX10_value 5 = .ok (.invokevirtual 98, 3) := by decide +kernel
theorem dX10_value_8 : decode cX10_value 8 = .ok (.ifCond .eq 11, 3) := by decide +kernel
theorem dX10_value_11 : decode cX10_value 11 = .ok (.aload_n 0, 1) := by decide +kernel
theorem dX10_value_12 : decode cX10_value 12 = .ok (.iload_n 2, 1) := by decide +kernel
theorem dX10_value_13 : decode cX10_value 13 = .ok (.invokevirtual 161, 3) := by decide +kernel
theorem dX10_value_16 : decode cX10_value 16 = .ok (.ifCond .ne 5, 3) := by decide +kernel
theorem dX10_value_19 : decode cX10_value 19 = .ok (.iconst (-1), 1) := by decide +kernel
theorem dX10_value_20 : decode cX10_value 20 = .ok (.ireturn, 1) := by decide +kernel
theorem dX10_value_21 : decode cX10_value 21 = .ok (.aload_n 0, 1) := by decide +kernel
theorem dX10_value_22 : decode cX10_value 22 = .ok (.getfield 40, 3) := by decide +kernel
theorem dX10_value_25 : decode cX10_value 25 = .ok (.getfield 164, 3) := by decide +kernel
theorem dX10_value_28 : decode cX10_value 28 = .ok (.aload_n 0, 1) := by decide +kernel
theorem dX10_value_29 : decode cX10_value 29 = .ok (.getfield 10, 3) := by decide +kernel
theorem dX10_value_32 : decode cX10_value 32 = .ok (.iload_n 1, 1) := by decide +kernel
theorem dX10_value_33 : decode cX10_value 33 = .ok (.iload_n 2, 1) := by decide +kernel
theorem dX10_value_34 : decode cX10_value 34 = .ok (.invokevirtual 168, 3) := by decide +kernel
theorem dX10_value_37 : decode cX10_value 37 = .ok (.ireturn, 1) := by decide +kernel
/-- QuotientSums.value(II)I -/
def wX10_value (now_bound : Int32) (now_modulus : Int32) (now_seed : Int32) (now_functions : Int32) (rows_turn : Int32) (now_needs : Nat → Int32) (rows_powers_cells : Nat → Int32) (rows_powers_ofPrime : Nat → Int32) (now_firsts : Nat → Int32) (now_seconds : Nat → Int32) (now_kinds : Nat → Int32) (now_numbers : Nat → Int32) (now_colours : Nat → Int32) (a1 : Int32) (a2 : Int32) (Q : (Int32) → (Nat → Int32) → (Nat → Int32) → Prop) : Prop :=
  (∃ (P_1 : (Int32) → Prop), wX3_has now_bound now_modulus now_seed now_functions a1 P_1 ∧ ∀ (rF_1 : Int32), P_1 rF_1 → ((rF_1 = 0 → (Q (-1) rows_powers_cells rows_powers_ofPrime)) ∧ (¬ rF_1 = 0 → (∃ (P_2 : (Int32) → Prop), wX10_isPlace now_bound now_modulus now_seed now_functions a2 P_2 ∧ ∀ (rF_2 : Int32), P_2 rF_2 → ((¬ rF_2 = 0 → (∃ (P_3 : (Int32) → (Nat → Int32) → (Nat → Int32) → Prop), wX4_valueAt now_bound now_modulus now_seed now_functions now_needs rows_powers_cells rows_powers_ofPrime now_firsts now_seconds now_kinds now_numbers now_colours a1 a2 P_3 ∧ ∀ (rF_3 : Int32) (cells_1 : Nat → Int32) (ofPrime_1 : Nat → Int32), P_3 rF_3 cells_1 ofPrime_1 → (Q rF_3 cells_1 ofPrime_1))) ∧ (rF_2 = 0 → (Q (-1) rows_powers_cells rows_powers_ofPrime)))))))
set_option maxHeartbeats 4000000 in
set_option maxRecDepth 100000 in
theorem mX10_value (l : Launch) (D : va_G) (Y : Nat → ClassId) (h0 : Nat) (q_now : Nat) (v_reader : Value) (v_changes : Value) (v_image : Value) (q_rows : Nat) (v_couples : Value) (now_bound : Int32) (now_modulus : Int32) (now_seed : Int32) (now_functions : Int32) (v_now_names : Value) (q_now_kinds : Nat) (q_now_firsts : Nat) (q_now_seconds : Nat) (v_now_degrees : Value) (q_now_colours : Nat) (q_now_needs : Nat) (q_now_numbers : Nat) (v_rows_sieve : Value) (q_rows_powers : Nat) (v_rows_rows : Value) (rows_turn : Int32) (now_needs : Nat → Int32) (q_rows_powers_ofPrime : Nat) (q_rows_powers_cells : Nat) (rows_powers_cells : Nat → Int32) (rows_powers_ofPrime : Nat → Int32) (now_firsts : Nat → Int32) (now_seconds : Nat → Int32) (now_kinds : Nat → Int32) (now_numbers : Nat → Int32) (now_colours : Nat → Int32) (a1 : Int32) (a2 : Int32) (Q : (Int32) → (Nat → Int32) → (Nat → Int32) → Prop) (h : wX10_value now_bound now_modulus now_seed now_functions rows_turn now_needs rows_powers_cells rows_powers_ofPrime now_firsts now_seconds now_kinds now_numbers now_colours a1 a2 Q) : gM l D Y yX10_value cX10_value 3 (some .int) 5 126 0 0 [.ref h0, .int a1, .int a2] [oX10 h0 (.ref q_now) (v_reader) (v_changes) (v_image) (.ref q_rows) (v_couples), oX3 q_now now_bound now_modulus now_seed now_functions (v_now_names) (.ref q_now_kinds) (.ref q_now_firsts) (.ref q_now_seconds) (v_now_degrees) (.ref q_now_colours) (.ref q_now_needs) (.ref q_now_numbers), oX7 q_rows (v_rows_sieve) (.ref q_rows_powers) (v_rows_rows) rows_turn, aI Y q_now_needs 12 now_needs, oX4 q_rows_powers (.ref q_rows_powers_ofPrime) (.ref q_rows_powers_cells), aI Y q_rows_powers_cells 216 rows_powers_cells, aI Y q_rows_powers_ofPrime 18 rows_powers_ofPrime, aI Y q_now_firsts 12 now_firsts, aI Y q_now_seconds 12 now_seconds, aI Y q_now_kinds 12 now_kinds, aI Y q_now_numbers 144 now_numbers, aI Y q_now_colours 12 now_colours] (fun v w => ∃ r : Int32, ∃ rows_powers_cells' : Nat → Int32, ∃ rows_powers_ofPrime' : Nat → Int32, v = some (.int r) ∧ w = [oX10 h0 (.ref q_now) (v_reader) (v_changes) (v_image) (.ref q_rows) (v_couples), oX3 q_now now_bound now_modulus now_seed now_functions (v_now_names) (.ref q_now_kinds) (.ref q_now_firsts) (.ref q_now_seconds) (v_now_degrees) (.ref q_now_colours) (.ref q_now_needs) (.ref q_now_numbers), oX7 q_rows (v_rows_sieve) (.ref q_rows_powers) (v_rows_rows) rows_turn, aI Y q_now_needs 12 now_needs, oX4 q_rows_powers (.ref q_rows_powers_ofPrime) (.ref q_rows_powers_cells), aI Y q_rows_powers_cells 216 rows_powers_cells', aI Y q_rows_powers_ofPrime 18 rows_powers_ofPrime', aI Y q_now_firsts 12 now_firsts, aI Y q_now_seconds 12 now_seconds, aI Y q_now_kinds 12 now_kinds, aI Y q_now_numbers 144 now_numbers, aI Y q_now_colours 12 now_colours] ∧ Q r rows_powers_cells' rows_powers_ofPrime') := by
  refine gM_of (own := RX10) (by decide +kernel) rfl (Nat.le_of_ble_eq_true rfl) rfl (fun E C hR => ?_)
  unfold wX10_value at h
  refine g_aload_n C dX10_value_0 0 rfl ?_
  refine g_get C inX10 0 rfl rfl 0 (by decide) wF_X10_10 rfl dX10_value_1 ?_
  refine g_iload_n C dX10_value_4 1 rfl ?_
  obtain ⟨P_1, hP, h⟩ := h
  refine g_callV (As := [.int a1]) (rest := []) C (mX3_has l D Y q_now now_bound now_modulus now_seed now_functions v_now_names (.ref q_now_kinds) (.ref q_now_firsts) (.ref q_now_seconds) v_now_degrees (.ref q_now_colours) (.ref q_now_needs) (.ref q_now_numbers) a1 P_1 hP) dX10_value_5 rfl wM_X10_98 wI_X3_has wV_X3_has wN_X3 wC_X3_has (n := 1) (by decide +kernel) rfl (q0 := 0) rfl rfl ⟨Nat.le_of_ble_eq_true rfl, Nat.le_of_ble_eq_true rfl⟩ ⟨Nat.le_of_ble_eq_true rfl, Nat.le_of_ble_eq_true rfl⟩ (Nat.le_of_ble_eq_true rfl) [1] [0, 2, 3, 4, 5, 6, 7, 8, 9, 10, 11] rfl rfl rfl (fun v wc hv => ?_)
  obtain ⟨rF_1, rfl, rfl, hq⟩ := hv
  replace h := h rF_1 hq
  refine gG.perm (ws' := [oX10 h0 (.ref q_now) (v_reader) (v_changes) (v_image) (.ref q_rows) (v_couples), oX3 q_now now_bound now_modulus now_seed now_functions (v_now_names) (.ref q_now_kinds) (.ref q_now_firsts) (.ref q_now_seconds) (v_now_degrees) (.ref q_now_colours) (.ref q_now_needs) (.ref q_now_numbers), oX7 q_rows (v_rows_sieve) (.ref q_rows_powers) (v_rows_rows) rows_turn, aI Y q_now_needs 12 now_needs, oX4 q_rows_powers (.ref q_rows_powers_ofPrime) (.ref q_rows_powers_cells), aI Y q_rows_powers_cells 216 rows_powers_cells, aI Y q_rows_powers_ofPrime 18 rows_powers_ofPrime, aI Y q_now_firsts 12 now_firsts, aI Y q_now_seconds 12 now_seconds, aI Y q_now_kinds 12 now_kinds, aI Y q_now_numbers 144 now_numbers, aI Y q_now_colours 12 now_colours]) [0, 11, 1, 2, 3, 4, 5, 6, 7, 8, 9, 10] rfl rfl ?_
  refine g_if_eq (tgt := 19) C dX10_value_8 (by decide) (fun c_1 => ?_) (fun c_1 => ?_)
  · replace h := h.1 c_1
    refine g_iconst (v := (-1)) C dX10_value_19 rfl ?_
    exact g_iret C hR (Nat.le_of_ble_eq_true rfl) (Nat.le_of_ble_eq_true rfl) dX10_value_20 ⟨(-1), rows_powers_cells, rows_powers_ofPrime, rfl, rfl, h⟩
  · replace h := h.2 c_1
    refine g_aload_n C dX10_value_11 0 rfl ?_
    refine g_iload_n C dX10_value_12 2 rfl ?_
    obtain ⟨P_2, hP, h⟩ := h
    refine g_callV (As := [.int a2]) (rest := []) C (mX10_isPlace l D Y h0 q_now v_reader v_changes v_image (.ref q_rows) v_couples now_bound now_modulus now_seed now_functions v_now_names (.ref q_now_kinds) (.ref q_now_firsts) (.ref q_now_seconds) v_now_degrees (.ref q_now_colours) (.ref q_now_needs) (.ref q_now_numbers) a2 P_2 hP) dX10_value_13 rfl wM_X10_161 wI_X10_isPlace wV_X10_isPlace wN_X10 wC_X10_isPlace (n := 1) (by decide +kernel) rfl (q0 := 0) rfl rfl ⟨Nat.le_of_ble_eq_true rfl, Nat.le_of_ble_eq_true rfl⟩ ⟨Nat.le_of_ble_eq_true rfl, Nat.le_of_ble_eq_true rfl⟩ (Nat.le_of_ble_eq_true rfl) [0, 1] [2, 3, 4, 5, 6, 7, 8, 9, 10, 11] rfl rfl rfl (fun v wc hv => ?_)
    obtain ⟨rF_2, rfl, rfl, hq⟩ := hv
    replace h := h rF_2 hq
    refine gG.perm (ws' := [oX10 h0 (.ref q_now) (v_reader) (v_changes) (v_image) (.ref q_rows) (v_couples), oX3 q_now now_bound now_modulus now_seed now_functions (v_now_names) (.ref q_now_kinds) (.ref q_now_firsts) (.ref q_now_seconds) (v_now_degrees) (.ref q_now_colours) (.ref q_now_needs) (.ref q_now_numbers), oX7 q_rows (v_rows_sieve) (.ref q_rows_powers) (v_rows_rows) rows_turn, aI Y q_now_needs 12 now_needs, oX4 q_rows_powers (.ref q_rows_powers_ofPrime) (.ref q_rows_powers_cells), aI Y q_rows_powers_cells 216 rows_powers_cells, aI Y q_rows_powers_ofPrime 18 rows_powers_ofPrime, aI Y q_now_firsts 12 now_firsts, aI Y q_now_seconds 12 now_seconds, aI Y q_now_kinds 12 now_kinds, aI Y q_now_numbers 144 now_numbers, aI Y q_now_colours 12 now_colours]) [10, 11, 0, 1, 2, 3, 4, 5, 6, 7, 8, 9] rfl rfl ?_
    refine g_if_ne (tgt := 21) C dX10_value_16 (by decide) (fun c_2 => ?_) (fun c_2 => ?_)
    · replace h := h.1 c_2
      refine g_aload_n C dX10_value_21 0 rfl ?_
      refine g_get C inX10 0 rfl rfl 4 (by decide) wF_X10_40 rfl dX10_value_22 ?_
      refine g_get C inX7 2 rfl rfl 1 (by decide) wF_X10_164 rfl dX10_value_25 ?_
      refine g_aload_n C dX10_value_28 0 rfl ?_
      refine g_get C inX10 0 rfl rfl 0 (by decide) wF_X10_10 rfl dX10_value_29 ?_
      refine g_iload_n C dX10_value_32 1 rfl ?_
      refine g_iload_n C dX10_value_33 2 rfl ?_
      obtain ⟨P_3, hP, h⟩ := h
      refine g_callV (As := [.ref q_now, .int a1, .int a2]) (rest := []) C (mX4_valueAt l D Y q_rows_powers q_now now_bound now_modulus now_seed now_functions v_now_names q_now_kinds q_now_firsts q_now_seconds v_now_degrees q_now_colours q_now_needs q_now_numbers now_needs q_rows_powers_ofPrime q_rows_powers_cells rows_powers_cells rows_powers_ofPrime now_firsts now_seconds now_kinds now_numbers now_colours a1 a2 P_3 hP) dX10_value_34 rfl wM_X10_168 wI_X4_valueAt wV_X4_valueAt wN_X4 wC_X4_valueAt (n := 3) (by decide +kernel) rfl (q0 := 2) rfl rfl ⟨Nat.le_of_ble_eq_true rfl, Nat.le_of_ble_eq_true rfl⟩ ⟨Nat.le_of_ble_eq_true rfl, Nat.le_of_ble_eq_true rfl⟩ (Nat.le_of_ble_eq_true rfl) [1, 3, 4, 5, 6, 7, 8, 9, 10, 11] [0, 2] rfl rfl rfl (fun v wc hv => ?_)
      obtain ⟨rF_3, cells_1, ofPrime_1, rfl, rfl, hq⟩ := hv
      replace h := h rF_3 cells_1 ofPrime_1 hq
      refine gG.perm (ws' := [oX10 h0 (.ref q_now) (v_reader) (v_changes) (v_image) (.ref q_rows) (v_couples), oX3 q_now now_bound now_modulus now_seed now_functions (v_now_names) (.ref q_now_kinds) (.ref q_now_firsts) (.ref q_now_seconds) (v_now_degrees) (.ref q_now_colours) (.ref q_now_needs) (.ref q_now_numbers), oX7 q_rows (v_rows_sieve) (.ref q_rows_powers) (v_rows_rows) rows_turn, aI Y q_now_needs 12 now_needs, oX4 q_rows_powers (.ref q_rows_powers_ofPrime) (.ref q_rows_powers_cells), aI Y q_rows_powers_cells 216 cells_1, aI Y q_rows_powers_ofPrime 18 ofPrime_1, aI Y q_now_firsts 12 now_firsts, aI Y q_now_seconds 12 now_seconds, aI Y q_now_kinds 12 now_kinds, aI Y q_now_numbers 144 now_numbers, aI Y q_now_colours 12 now_colours]) [0, 2, 1, 3, 4, 5, 6, 7, 8, 9, 10, 11] rfl rfl ?_
      exact g_iret C hR (Nat.le_of_ble_eq_true rfl) (Nat.le_of_ble_eq_true rfl) dX10_value_37 ⟨rF_3, cells_1, ofPrime_1, rfl, rfl, h⟩
    · replace h := h.2 c_2
      refine g_iconst (v := (-1)) C dX10_value_19 rfl ?_
      exact g_iret C hR (Nat.le_of_ble_eq_true rfl) (Nat.le_of_ble_eq_true rfl) dX10_value_20 ⟨(-1), rows_powers_cells, rows_powers_ofPrime, rfl, rfl, h⟩
theorem dX10_atPower_0 : decode cX10_atPower 0 = .ok (.aload_n 0, 1) := by decide +kernel
theorem dX10_atPower_1 : decode cX10_atPower 1 = .ok (.getfield 10, 3) := by decide +kernel
theorem dX10_atPower_4 : decode cX10_atPower 4 = .ok (.iload_n 1, 1) := by decide +kernel
theorem dX10_atPower_5 : decode cX10_atPower 5 = .ok (.invokevirtual 98, 3) := by decide +kernel
theorem dX10_atPower_8 : decode cX10_atPower 8 = .ok (.ifCond .eq 24, 3) := by decide +kernel
theorem dX10_atPower_11 : decode cX10_atPower 11 = .ok (.iload_n 2, 1) := by decide +kernel
theorem dX10_atPower_12 : decode cX10_atPower 12 = .ok (.iconst 2, 1) := by decide +kernel
theorem dX10_atPower_13 : decode cX10_atPower 13 = .ok (.if_icmp .lt 19, 3) := by decide +kernel
theorem dX10_atPower_16 : decode cX10_atPower 16 = .ok (.iload_n 2, 1) := by decide +kernel
theorem dX10_atPower_17 : decode cX10_atPower 17 = .ok (.ldc 174, 2) := by decide +kernel
theorem dX10_atPower_19 : decode cX10_atPower 19 = .ok (.if_icmp .gt 13, 3) := by decide +kernel
theorem dX10_atPower_22 : decode cX10_atPower 22 = .ok (.iload_n 3, 1) := by decide +kernel
theorem dX10_atPower_23 : decode cX10_atPower 23 = .ok (.ifCond .lt 9, 3) := by decide +kernel
theorem dX10_atPower_26 : decode cX10_atPower 26 = .ok (.iload_n 3, 1) := by decide +kernel
theorem dX10_atPower_27 : decode cX10_atPower 27 = .ok (.bipush 17, 2) := by decide +kernel
theorem dX10_atPower_29 : decode cX10_atPower 29 = .ok (.if_icmp .le 5, 3) := by decide +kernel
theorem dX10_atPower_32 : decode cX10_atPower 32 = .ok (.iconst (-1), 1) := by decide +kernel
theorem dX10_atPower_33 : decode cX10_atPower 33 = .ok (.ireturn, 1) := by decide +kernel
theorem dX10_atPower_34 : decode cX10_atPower 34 = .ok (.aload_n 0, 1) := by decide +kernel
theorem dX10_atPower_35 : decode cX10_atPower 35 = .ok (.getfield 40, 3) := by decide +kernel
theorem dX10_atPower_38 : decode cX10_atPower 38 = .ok (.getfield 164, 3) := by decide +kernel
theorem dX10_atPower_41 : decode cX10_atPower 41 = .ok (.aload_n 0, 1) := by decide +kernel
theorem dX10_atPower_42 : decode cX10_atPower 42 = .ok (.getfield 10, 3) := by decide +kernel
theorem dX10_atPower_45 : decode cX10_atPower 45 = .ok (.iload_n 1, 1) := by decide +kernel
theorem dX10_atPower_46 : decode cX10_atPower 46 = .ok (.iload_n 2, 1) := by decide +kernel
theorem dX10_atPower_47 : decode cX10_atPower 47 = .ok (.iload_n 3, 1) := by decide +kernel
theorem dX10_atPower_48 : decode cX10_atPower 48 = .ok (.invokevirtual 175, 3) := by decide +kernel
theorem dX10_atPower_51 : decode cX10_atPower 51 = .ok (.ireturn, 1) := by decide +kernel
/-- QuotientSums.atPower(III)I -/
def wX10_atPower (now_bound : Int32) (now_modulus : Int32) (now_seed : Int32) (now_functions : Int32) (rows_turn : Int32) (now_needs : Nat → Int32) (rows_powers_cells : Nat → Int32) (rows_powers_ofPrime : Nat → Int32) (now_firsts : Nat → Int32) (now_seconds : Nat → Int32) (now_kinds : Nat → Int32) (now_numbers : Nat → Int32) (now_colours : Nat → Int32) (a1 : Int32) (a2 : Int32) (a3 : Int32) (Q : (Int32) → (Nat → Int32) → (Nat → Int32) → Prop) : Prop :=
  (∃ (P_1 : (Int32) → Prop), wX3_has now_bound now_modulus now_seed now_functions a1 P_1 ∧ ∀ (rF_1 : Int32), P_1 rF_1 → ((rF_1 = 0 → (Q (-1) rows_powers_cells rows_powers_ofPrime)) ∧ (¬ rF_1 = 0 → ((a2 < 2 → (Q (-1) rows_powers_cells rows_powers_ofPrime)) ∧ (¬ a2 < 2 → ((200003 < a2 → (Q (-1) rows_powers_cells rows_powers_ofPrime)) ∧ (¬ 200003 < a2 → ((a3 < 0 → (Q (-1) rows_powers_cells rows_powers_ofPrime)) ∧ (¬ a3 < 0 → ((a3 ≤ 17 → (∃ (P_2 : (Int32) → (Nat → Int32) → (Nat → Int32) → Prop), wX4_valueAtPower now_bound now_modulus now_seed now_functions now_needs rows_powers_cells rows_powers_ofPrime now_firsts now_seconds now_kinds now_numbers now_colours a1 a2 a3 P_2 ∧ ∀ (rF_2 : Int32) (cells_1 : Nat → Int32) (ofPrime_1 : Nat → Int32), P_2 rF_2 cells_1 ofPrime_1 → (Q rF_2 cells_1 ofPrime_1))) ∧ (¬ a3 ≤ 17 → (Q (-1) rows_powers_cells rows_powers_ofPrime))))))))))))
set_option maxHeartbeats 4000000 in
set_option maxRecDepth 100000 in
theorem mX10_atPower (l : Launch) (D : va_G) (Y : Nat → ClassId) (h0 : Nat) (q_now : Nat) (v_reader : Value) (v_changes : Value) (v_image : Value) (q_rows : Nat) (v_couples : Value) (now_bound : Int32) (now_modulus : Int32) (now_seed : Int32) (now_functions : Int32) (v_now_names : Value) (q_now_kinds : Nat) (q_now_firsts : Nat) (q_now_seconds : Nat) (v_now_degrees : Value) (q_now_colours : Nat) (q_now_needs : Nat) (q_now_numbers : Nat) (v_rows_sieve : Value) (q_rows_powers : Nat) (v_rows_rows : Value) (rows_turn : Int32) (now_needs : Nat → Int32) (q_rows_powers_ofPrime : Nat) (q_rows_powers_cells : Nat) (rows_powers_cells : Nat → Int32) (rows_powers_ofPrime : Nat → Int32) (now_firsts : Nat → Int32) (now_seconds : Nat → Int32) (now_kinds : Nat → Int32) (now_numbers : Nat → Int32) (now_colours : Nat → Int32) (a1 : Int32) (a2 : Int32) (a3 : Int32) (Q : (Int32) → (Nat → Int32) → (Nat → Int32) → Prop) (h : wX10_atPower now_bound now_modulus now_seed now_functions rows_turn now_needs rows_powers_cells rows_powers_ofPrime now_firsts now_seconds now_kinds now_numbers now_colours a1 a2 a3 Q) : gM l D Y yX10_atPower cX10_atPower 4 (some .int) 4 98 0 0 [.ref h0, .int a1, .int a2, .int a3] [oX10 h0 (.ref q_now) (v_reader) (v_changes) (v_image) (.ref q_rows) (v_couples), oX3 q_now now_bound now_modulus now_seed now_functions (v_now_names) (.ref q_now_kinds) (.ref q_now_firsts) (.ref q_now_seconds) (v_now_degrees) (.ref q_now_colours) (.ref q_now_needs) (.ref q_now_numbers), oX7 q_rows (v_rows_sieve) (.ref q_rows_powers) (v_rows_rows) rows_turn, aI Y q_now_needs 12 now_needs, oX4 q_rows_powers (.ref q_rows_powers_ofPrime) (.ref q_rows_powers_cells), aI Y q_rows_powers_cells 216 rows_powers_cells, aI Y q_rows_powers_ofPrime 18 rows_powers_ofPrime, aI Y q_now_firsts 12 now_firsts, aI Y q_now_seconds 12 now_seconds, aI Y q_now_kinds 12 now_kinds, aI Y q_now_numbers 144 now_numbers, aI Y q_now_colours 12 now_colours] (fun v w => ∃ r : Int32, ∃ rows_powers_cells' : Nat → Int32, ∃ rows_powers_ofPrime' : Nat → Int32, v = some (.int r) ∧ w = [oX10 h0 (.ref q_now) (v_reader) (v_changes) (v_image) (.ref q_rows) (v_couples), oX3 q_now now_bound now_modulus now_seed now_functions (v_now_names) (.ref q_now_kinds) (.ref q_now_firsts) (.ref q_now_seconds) (v_now_degrees) (.ref q_now_colours) (.ref q_now_needs) (.ref q_now_numbers), oX7 q_rows (v_rows_sieve) (.ref q_rows_powers) (v_rows_rows) rows_turn, aI Y q_now_needs 12 now_needs, oX4 q_rows_powers (.ref q_rows_powers_ofPrime) (.ref q_rows_powers_cells), aI Y q_rows_powers_cells 216 rows_powers_cells', aI Y q_rows_powers_ofPrime 18 rows_powers_ofPrime', aI Y q_now_firsts 12 now_firsts, aI Y q_now_seconds 12 now_seconds, aI Y q_now_kinds 12 now_kinds, aI Y q_now_numbers 144 now_numbers, aI Y q_now_colours 12 now_colours] ∧ Q r rows_powers_cells' rows_powers_ofPrime') := by
  refine gM_of (own := RX10) (by decide +kernel) rfl (Nat.le_of_ble_eq_true rfl) rfl (fun E C hR => ?_)
  unfold wX10_atPower at h
  refine g_aload_n C dX10_atPower_0 0 rfl ?_
  refine g_get C inX10 0 rfl rfl 0 (by decide) wF_X10_10 rfl dX10_atPower_1 ?_
  refine g_iload_n C dX10_atPower_4 1 rfl ?_
  obtain ⟨P_1, hP, h⟩ := h
  refine g_callV (As := [.int a1]) (rest := []) C (mX3_has l D Y q_now now_bound now_modulus now_seed now_functions v_now_names (.ref q_now_kinds) (.ref q_now_firsts) (.ref q_now_seconds) v_now_degrees (.ref q_now_colours) (.ref q_now_needs) (.ref q_now_numbers) a1 P_1 hP) dX10_atPower_5 rfl wM_X10_98 wI_X3_has wV_X3_has wN_X3 wC_X3_has (n := 1) (by decide +kernel) rfl (q0 := 0) rfl rfl ⟨Nat.le_of_ble_eq_true rfl, Nat.le_of_ble_eq_true rfl⟩ ⟨Nat.le_of_ble_eq_true rfl, Nat.le_of_ble_eq_true rfl⟩ (Nat.le_of_ble_eq_true rfl) [1] [0, 2, 3, 4, 5, 6, 7, 8, 9, 10, 11] rfl rfl rfl (fun v wc hv => ?_)
  obtain ⟨rF_1, rfl, rfl, hq⟩ := hv
  replace h := h rF_1 hq
  refine gG.perm (ws' := [oX10 h0 (.ref q_now) (v_reader) (v_changes) (v_image) (.ref q_rows) (v_couples), oX3 q_now now_bound now_modulus now_seed now_functions (v_now_names) (.ref q_now_kinds) (.ref q_now_firsts) (.ref q_now_seconds) (v_now_degrees) (.ref q_now_colours) (.ref q_now_needs) (.ref q_now_numbers), oX7 q_rows (v_rows_sieve) (.ref q_rows_powers) (v_rows_rows) rows_turn, aI Y q_now_needs 12 now_needs, oX4 q_rows_powers (.ref q_rows_powers_ofPrime) (.ref q_rows_powers_cells), aI Y q_rows_powers_cells 216 rows_powers_cells, aI Y q_rows_powers_ofPrime 18 rows_powers_ofPrime, aI Y q_now_firsts 12 now_firsts, aI Y q_now_seconds 12 now_seconds, aI Y q_now_kinds 12 now_kinds, aI Y q_now_numbers 144 now_numbers, aI Y q_now_colours 12 now_colours]) [0, 11, 1, 2, 3, 4, 5, 6, 7, 8, 9, 10] rfl rfl ?_
  refine g_if_eq (tgt := 32) C dX10_atPower_8 (by decide) (fun c_1 => ?_) (fun c_1 => ?_)
  · replace h := h.1 c_1
    refine g_iconst (v := (-1)) C dX10_atPower_32 rfl ?_
    exact g_iret C hR (Nat.le_of_ble_eq_true rfl) (Nat.le_of_ble_eq_true rfl) dX10_atPower_33 ⟨(-1), rows_powers_cells, rows_powers_ofPrime, rfl, rfl, h⟩
  · replace h := h.2 c_1
    refine g_iload_n C dX10_atPower_11 2 rfl ?_
    refine g_iconst (v := 2) C dX10_atPower_12 rfl ?_
    refine g_icmp_lt (tgt := 32) C dX10_atPower_13 (by decide) (fun c_2 => ?_) (fun c_2 => ?_)
    · replace h := h.1 c_2
      refine g_iconst (v := (-1)) C dX10_atPower_32 rfl ?_
      exact g_iret C hR (Nat.le_of_ble_eq_true rfl) (Nat.le_of_ble_eq_true rfl) dX10_atPower_33 ⟨(-1), rows_powers_cells, rows_powers_ofPrime, rfl, rfl, h⟩
    · replace h := h.2 c_2
      refine g_iload_n C dX10_atPower_16 2 rfl ?_
      refine g_ldc C dX10_atPower_17 wK_X10_174 ?_
      refine g_icmp_gt (tgt := 32) C dX10_atPower_19 (by decide) (fun c_3 => ?_) (fun c_3 => ?_)
      · replace h := h.1 c_3
        refine g_iconst (v := (-1)) C dX10_atPower_32 rfl ?_
        exact g_iret C hR (Nat.le_of_ble_eq_true rfl) (Nat.le_of_ble_eq_true rfl) dX10_atPower_33 ⟨(-1), rows_powers_cells, rows_powers_ofPrime, rfl, rfl, h⟩
      · replace h := h.2 c_3
        refine g_iload_n C dX10_atPower_22 3 rfl ?_
        refine g_if_lt (tgt := 32) C dX10_atPower_23 (by decide) (fun c_4 => ?_) (fun c_4 => ?_)
        · replace h := h.1 c_4
          refine g_iconst (v := (-1)) C dX10_atPower_32 rfl ?_
          exact g_iret C hR (Nat.le_of_ble_eq_true rfl) (Nat.le_of_ble_eq_true rfl) dX10_atPower_33 ⟨(-1), rows_powers_cells, rows_powers_ofPrime, rfl, rfl, h⟩
        · replace h := h.2 c_4
          refine g_iload_n C dX10_atPower_26 3 rfl ?_
          refine g_bipush (v := 17) C dX10_atPower_27 rfl ?_
          refine g_icmp_le (tgt := 34) C dX10_atPower_29 (by decide) (fun c_5 => ?_) (fun c_5 => ?_)
          · replace h := h.1 c_5
            refine g_aload_n C dX10_atPower_34 0 rfl ?_
            refine g_get C inX10 0 rfl rfl 4 (by decide) wF_X10_40 rfl dX10_atPower_35 ?_
            refine g_get C inX7 2 rfl rfl 1 (by decide) wF_X10_164 rfl dX10_atPower_38 ?_
            refine g_aload_n C dX10_atPower_41 0 rfl ?_
            refine g_get C inX10 0 rfl rfl 0 (by decide) wF_X10_10 rfl dX10_atPower_42 ?_
            refine g_iload_n C dX10_atPower_45 1 rfl ?_
            refine g_iload_n C dX10_atPower_46 2 rfl ?_
            refine g_iload_n C dX10_atPower_47 3 rfl ?_
            obtain ⟨P_2, hP, h⟩ := h
            refine g_callV (As := [.ref q_now, .int a1, .int a2, .int a3]) (rest := []) C (mX4_valueAtPower l D Y q_rows_powers q_now now_bound now_modulus now_seed now_functions v_now_names q_now_kinds q_now_firsts q_now_seconds v_now_degrees q_now_colours q_now_needs q_now_numbers now_needs q_rows_powers_ofPrime q_rows_powers_cells rows_powers_cells rows_powers_ofPrime now_firsts now_seconds now_kinds now_numbers now_colours a1 a2 a3 P_2 hP) dX10_atPower_48 rfl wM_X10_175 wI_X4_valueAtPower wV_X4_valueAtPower wN_X4 wC_X4_valueAtPower (n := 4) (by decide +kernel) rfl (q0 := 2) rfl rfl ⟨Nat.le_of_ble_eq_true rfl, Nat.le_of_ble_eq_true rfl⟩ ⟨Nat.le_of_ble_eq_true rfl, Nat.le_of_ble_eq_true rfl⟩ (Nat.le_of_ble_eq_true rfl) [1, 3, 4, 5, 6, 7, 8, 9, 10, 11] [0, 2] rfl rfl rfl (fun v wc hv => ?_)
            obtain ⟨rF_2, cells_1, ofPrime_1, rfl, rfl, hq⟩ := hv
            replace h := h rF_2 cells_1 ofPrime_1 hq
            refine gG.perm (ws' := [oX10 h0 (.ref q_now) (v_reader) (v_changes) (v_image) (.ref q_rows) (v_couples), oX3 q_now now_bound now_modulus now_seed now_functions (v_now_names) (.ref q_now_kinds) (.ref q_now_firsts) (.ref q_now_seconds) (v_now_degrees) (.ref q_now_colours) (.ref q_now_needs) (.ref q_now_numbers), oX7 q_rows (v_rows_sieve) (.ref q_rows_powers) (v_rows_rows) rows_turn, aI Y q_now_needs 12 now_needs, oX4 q_rows_powers (.ref q_rows_powers_ofPrime) (.ref q_rows_powers_cells), aI Y q_rows_powers_cells 216 cells_1, aI Y q_rows_powers_ofPrime 18 ofPrime_1, aI Y q_now_firsts 12 now_firsts, aI Y q_now_seconds 12 now_seconds, aI Y q_now_kinds 12 now_kinds, aI Y q_now_numbers 144 now_numbers, aI Y q_now_colours 12 now_colours]) [0, 2, 1, 3, 4, 5, 6, 7, 8, 9, 10, 11] rfl rfl ?_
            exact g_iret C hR (Nat.le_of_ble_eq_true rfl) (Nat.le_of_ble_eq_true rfl) dX10_atPower_51 ⟨rF_2, cells_1, ofPrime_1, rfl, rfl, h⟩
          · replace h := h.2 c_5
            refine g_iconst (v := (-1)) C dX10_atPower_32 rfl ?_
            exact g_iret C hR (Nat.le_of_ble_eq_true rfl) (Nat.le_of_ble_eq_true rfl) dX10_atPower_33 ⟨(-1), rows_powers_cells, rows_powers_ofPrime, rfl, rfl, h⟩
theorem dX10_isReach_0 : decode cX10_isReach 0 = .ok (.iload_n 1, 1) := by decide +kernel
theorem dX10_isReach_1 : decode cX10_isReach 1 = .ok (.ifCond .lt 18, 3) := by decide +kernel
theorem dX10_isReach_4 : decode cX10_isReach 4 = .ok (.iload_n 1, 1) := by decide +kernel
theorem dX10_isReach_5 : decode cX10_isReach 5 = .ok (.aload_n 0, 1) := by decide +kernel
theorem dX10_isReach_6 : decode cX10_isReach 6 = .ok (.getfield 10, 3) := by decide +kernel
theorem dX10_isReach_9 : decode cX10_isReach 9 = .ok (.getfield 143, 3) := by decide +kernel
theorem dX10_isReach_12 : decode cX10_isReach 12 = .ok (.if_icmp .gt 7, 3) := by decide +kernel
theorem dX10_isReach_15 : decode cX10_isReach 15 = .ok (.iconst 1, 1) := by decide +kernel
theorem dX10_isReach_16 : decode cX10_isReach 16 = .ok (.goto 4, 3) := by decide +kernel
theorem dX10_isReach_19 : decode cX10_isReach 19 = .ok (.iconst 0, 1) := by decide +kernel
theorem dX10_isReach_20 : decode cX10_isReach 20 = .ok (.ireturn, 1) := by decide +kernel
/-- QuotientSums.isReach(I)Z -/
def wX10_isReach (now_bound : Int32) (now_modulus : Int32) (now_seed : Int32) (now_functions : Int32) (a1 : Int32) (Q : (Int32) → Prop) : Prop :=
  ((a1 < 0 → (Q 0)) ∧ (¬ a1 < 0 → ((now_bound < a1 → (Q 0)) ∧ (¬ now_bound < a1 → (Q 1)))))
set_option maxHeartbeats 4000000 in
set_option maxRecDepth 100000 in
theorem mX10_isReach (l : Launch) (D : va_G) (Y : Nat → ClassId) (h0 : Nat) (q_now : Nat) (v_reader : Value) (v_changes : Value) (v_image : Value) (v_rows : Value) (v_couples : Value) (now_bound : Int32) (now_modulus : Int32) (now_seed : Int32) (now_functions : Int32) (v_now_names : Value) (v_now_kinds : Value) (v_now_firsts : Value) (v_now_seconds : Value) (v_now_degrees : Value) (v_now_colours : Value) (v_now_needs : Value) (v_now_numbers : Value) (a1 : Int32) (Q : (Int32) → Prop) (h : wX10_isReach now_bound now_modulus now_seed now_functions a1 Q) : gM l D Y yX10_isReach cX10_isReach 2 (some .boolean) 0 0 0 0 [.ref h0, .int a1] [oX10 h0 (.ref q_now) (v_reader) (v_changes) (v_image) (v_rows) (v_couples), oX3 q_now now_bound now_modulus now_seed now_functions (v_now_names) (v_now_kinds) (v_now_firsts) (v_now_seconds) (v_now_degrees) (v_now_colours) (v_now_needs) (v_now_numbers)] (fun v w => ∃ r : Int32, v = some (.int r) ∧ w = [oX10 h0 (.ref q_now) (v_reader) (v_changes) (v_image) (v_rows) (v_couples), oX3 q_now now_bound now_modulus now_seed now_functions (v_now_names) (v_now_kinds) (v_now_firsts) (v_now_seconds) (v_now_degrees) (v_now_colours) (v_now_needs) (v_now_numbers)] ∧ Q r) := by
  refine gM_of (own := RX10) (by decide +kernel) rfl (Nat.le_of_ble_eq_true rfl) rfl (fun E C hR => ?_)
  unfold wX10_isReach at h
  refine g_iload_n C dX10_isReach_0 1 rfl ?_
  refine g_if_lt (tgt := 19) C dX10_isReach_1 (by decide) (fun c_1 => ?_) (fun c_1 => ?_)
  · replace h := h.1 c_1
    refine g_iconst (v := 0) C dX10_isReach_19 rfl ?_
    exact g_zret C hR (by decide) (Nat.le_of_ble_eq_true rfl) (Nat.le_of_ble_eq_true rfl) dX10_isReach_20 ⟨0, rfl, rfl, h⟩
  · replace h := h.2 c_1
    refine g_iload_n C dX10_isReach_4 1 rfl ?_
    refine g_aload_n C dX10_isReach_5 0 rfl ?_
    refine g_get C inX10 0 rfl rfl 0 (by decide) wF_X10_10 rfl dX10_isReach_6 ?_
    refine g_get C inX3 1 rfl rfl 0 (by decide) wF_X10_143 rfl dX10_isReach_9 ?_
    refine g_icmp_gt (tgt := 19) C dX10_isReach_12 (by decide) (fun c_2 => ?_) (fun c_2 => ?_)
    · replace h := h.1 c_2
      refine g_iconst (v := 0) C dX10_isReach_19 rfl ?_
      exact g_zret C hR (by decide) (Nat.le_of_ble_eq_true rfl) (Nat.le_of_ble_eq_true rfl) dX10_isReach_20 ⟨0, rfl, rfl, h⟩
    · replace h := h.2 c_2
      refine g_iconst (v := 1) C dX10_isReach_15 rfl ?_
      refine g_goto (tgt := 20) C dX10_isReach_16 (by decide) ?_
      exact g_zret C hR (by decide) (Nat.le_of_ble_eq_true rfl) (Nat.le_of_ble_eq_true rfl) dX10_isReach_20 ⟨1, rfl, rfl, h⟩
theorem dX10_sum_0 : decode cX10_sum 0 = .ok (.aload_n 0, 1) := by decide +kernel
theorem dX10_sum_1 : decode cX10_sum 1 = .ok (.getfield 10, 3) := by decide +kernel
theorem dX10_sum_4 : decode cX10_sum 4 = .ok (.iload_n 1, 1) := by decide +kernel
theorem dX10_sum_5 : decode cX10_sum 5 = .ok (.invokevirtual 98, 3) := by decide +kernel
theorem dX10_sum_8 : decode cX10_sum 8 = .ok (.ifCond .eq 11, 3) := by decide +kernel
theorem dX10_sum_11 : decode cX10_sum 11 = .ok (.aload_n 0, 1) := by decide +kernel
theorem dX10_sum_12 : decode cX10_sum 12 = .ok (.iload_n 2, 1) := by decide +kernel
theorem dX10_sum_13 : decode cX10_sum 13 = .ok (.invokevirtual 179, 3) := by decide +kernel
theorem dX10_sum_16 : decode cX10_sum 16 = .ok (.ifCond .ne 5, 3) := by decide +kernel
theorem dX10_sum_19 : decode cX10_sum 19 = .ok (.iconst (-1), 1) := by decide +kernel
theorem dX10_sum_20 : decode cX10_sum 20 = .ok (.ireturn, 1) := by decide +kernel
theorem dX10_sum_21 : decode cX10_sum 21 = .ok (.aload_n 0, 1) := by decide +kernel
theorem dX10_sum_22 : decode cX10_sum 22 = .ok (.getfield 40, 3) := by decide +kernel
theorem dX10_sum_25 : decode cX10_sum 25 = .ok (.aload_n 0, 1) := by decide +kernel
theorem dX10_sum_26 : decode cX10_sum 26 = .ok (.getfield 10, 3) := by decide +kernel
theorem dX10_sum_29 : decode cX10_sum 29 = .ok (.iload_n 1, 1) := by decide +kernel
theorem dX10_sum_30 : decode cX10_sum 30 = .ok (.iload_n 2, 1) := by decide +kernel
theorem dX10_sum_31 : decode cX10_sum 31 = .ok (.invokevirtual 182, 3) := by decide +kernel
theorem dX10_sum_34 : decode cX10_sum 34 = .ok (.iload_n 2, 1) := by decide +kernel
theorem dX10_sum_35 : decode cX10_sum 35 = .ok (.invokevirtual 186, 3) := by decide +kernel
theorem dX10_sum_38 : decode cX10_sum 38 = .ok (.ireturn, 1) := by decide +kernel
/-- QuotientSums.sum(II)I -/
def wX10_sum (mc ms : Nat) (now_bound : Int32) (now_modulus : Int32) (now_seed : Int32) (now_functions : Int32) (rf : Nat → Int32) (rm : Nat → Int32) (rl : Nat → Int32) (ru : Nat → Int32) (rn : Nat → Nat) (rv : Nat → Nat → Int32) (rows_turn : Int32) (n_rows_sieve_least : Nat) (rows_sieve_least : Nat → Int32) (now_needs : Nat → Int32) (rows_powers_cells : Nat → Int32) (rows_powers_ofPrime : Nat → Int32) (now_firsts : Nat → Int32) (now_seconds : Nat → Int32) (now_kinds : Nat → Int32) (now_numbers : Nat → Int32) (now_colours : Nat → Int32) (a1 : Int32) (a2 : Int32) (Q : (Int32) → (Nat → Int32) → (Nat → Int32) → (Nat → Int32) → (Nat → Int32) → (Nat → Nat) → (Nat → Nat → Int32) → (Int32) → (Nat) → (Nat → Int32) → (Nat → Int32) → (Nat → Int32) → Prop) : Prop :=
  (∃ (P_1 : (Int32) → Prop), wX3_has now_bound now_modulus now_seed now_functions a1 P_1 ∧ ∀ (rF_1 : Int32), P_1 rF_1 → ((rF_1 = 0 → (Q (-1) rf rm rl ru rn rv rows_turn n_rows_sieve_least rows_sieve_least rows_powers_cells rows_powers_ofPrime)) ∧ (¬ rF_1 = 0 → (∃ (P_2 : (Int32) → Prop), wX10_isReach now_bound now_modulus now_seed now_functions a2 P_2 ∧ ∀ (rF_2 : Int32), P_2 rF_2 → ((¬ rF_2 = 0 → (∃ (mcF_1 msF_1 : Nat) (P_3 : (Nat) → (Nat → Int32) → (Nat → Int32) → (Nat → Int32) → (Nat → Int32) → (Nat → Nat) → (Nat → Nat → Int32) → (Int32) → (Nat) → (Nat → Int32) → (Nat → Int32) → (Nat → Int32) → Prop), (0 + mcF_1 ≤ mc ∧ 0 + msF_1 ≤ ms) ∧ wX7_upTo mcF_1 msF_1 now_bound now_modulus now_seed now_functions rf rm rl ru rn rv rows_turn n_rows_sieve_least rows_sieve_least now_needs rows_powers_cells rows_powers_ofPrime now_firsts now_seconds now_kinds now_numbers now_colours a1 a2 P_3 ∧ ∀ (k_1 : Nat) (rf_1 : Nat → Int32) (rm_1 : Nat → Int32) (rl_1 : Nat → Int32) (ru_1 : Nat → Int32) (rn_1 : Nat → Nat) (rv_1 : Nat → Nat → Int32) (turn_1 : Int32) (n_sieve_least_1 : Nat) (sieve_least_1 : Nat → Int32) (powers_cells_1 : Nat → Int32) (powers_ofPrime_1 : Nat → Int32), P_3 k_1 rf_1 rm_1 rl_1 ru_1 rn_1 rv_1 turn_1 n_sieve_least_1 sieve_least_1 powers_cells_1 powers_ofPrime_1 → ∃ (P_4 : (Int32) → Prop), wX6_sumTo (rf_1 k_1) (rm_1 k_1) (rl_1 k_1) (ru_1 k_1) (rn_1 k_1) (rv_1 k_1) a2 P_4 ∧ ∀ (rF_3 : Int32), P_4 rF_3 → (Q rF_3 rf_1 rm_1 rl_1 ru_1 rn_1 rv_1 turn_1 n_sieve_least_1 sieve_least_1 powers_cells_1 powers_ofPrime_1))) ∧ (rF_2 = 0 → (Q (-1) rf rm rl ru rn rv rows_turn n_rows_sieve_least rows_sieve_least rows_powers_cells rows_powers_ofPrime)))))))
set_option maxHeartbeats 4000000 in
set_option maxRecDepth 100000 in
theorem mX10_sum (l : Launch) (D : va_G) (Y : Nat → ClassId) (mc ms : Nat) (h0 : Nat) (ra : Nat → Nat) (q_now : Nat) (v_reader : Value) (v_changes : Value) (v_image : Value) (q_rows : Nat) (v_couples : Value) (now_bound : Int32) (now_modulus : Int32) (now_seed : Int32) (now_functions : Int32) (v_now_names : Value) (q_now_kinds : Nat) (q_now_firsts : Nat) (q_now_seconds : Nat) (v_now_degrees : Value) (q_now_colours : Nat) (q_now_needs : Nat) (q_now_numbers : Nat) (rs : Nat → Nat) (rf : Nat → Int32) (rm : Nat → Int32) (rl : Nat → Int32) (ru : Nat → Int32) (rn : Nat → Nat) (rv : Nat → Nat → Int32) (q_rows_sieve : Nat) (q_rows_powers : Nat) (q_rows_rows : Nat) (rows_turn : Int32) (q_rows_sieve_least : Nat) (n_rows_sieve_least : Nat) (rows_sieve_least : Nat → Int32) (now_needs : Nat → Int32) (q_rows_powers_ofPrime : Nat) (q_rows_powers_cells : Nat) (rows_powers_cells : Nat → Int32) (rows_powers_ofPrime : Nat → Int32) (now_firsts : Nat → Int32) (now_seconds : Nat → Int32) (now_kinds : Nat → Int32) (now_numbers : Nat → Int32) (now_colours : Nat → Int32) (a1 : Int32) (a2 : Int32) (Q : (Int32) → (Nat → Int32) → (Nat → Int32) → (Nat → Int32) → (Nat → Int32) → (Nat → Nat) → (Nat → Nat → Int32) → (Int32) → (Nat) → (Nat → Int32) → (Nat → Int32) → (Nat → Int32) → Prop) (h : wX10_sum mc ms now_bound now_modulus now_seed now_functions rf rm rl ru rn rv rows_turn n_rows_sieve_least rows_sieve_least now_needs rows_powers_cells rows_powers_ofPrime now_firsts now_seconds now_kinds now_numbers now_colours a1 a2 Q) : gM l D Y yX10_sum cX10_sum 3 (some .int) 6 151 mc ms [.ref h0, .int a1, .int a2] (rowsW Y ra rs rf rm rl ru rn rv ++ [oX10 h0 (.ref q_now) (v_reader) (v_changes) (v_image) (.ref q_rows) (v_couples), oX3 q_now now_bound now_modulus now_seed now_functions (v_now_names) (.ref q_now_kinds) (.ref q_now_firsts) (.ref q_now_seconds) (v_now_degrees) (.ref q_now_colours) (.ref q_now_needs) (.ref q_now_numbers), oX7 q_rows (.ref q_rows_sieve) (.ref q_rows_powers) (.ref q_rows_rows) rows_turn, aR Y q_rows_rows 4 (fun j => some (ra j)), oX8 q_rows_sieve (.ref q_rows_sieve_least), aI Y q_rows_sieve_least n_rows_sieve_least rows_sieve_least, aI Y q_now_needs 12 now_needs, oX4 q_rows_powers (.ref q_rows_powers_ofPrime) (.ref q_rows_powers_cells), aI Y q_rows_powers_cells 216 rows_powers_cells, aI Y q_rows_powers_ofPrime 18 rows_powers_ofPrime, aI Y q_now_firsts 12 now_firsts, aI Y q_now_seconds 12 now_seconds, aI Y q_now_kinds 12 now_kinds, aI Y q_now_numbers 144 now_numbers, aI Y q_now_colours 12 now_colours]) (fun v w => ∃ r : Int32, ∃ rs' : Nat → Nat, ∃ rf' : Nat → Int32, ∃ rm' : Nat → Int32, ∃ rl' : Nat → Int32, ∃ ru' : Nat → Int32, ∃ rn' : Nat → Nat, ∃ rv' : Nat → Nat → Int32, ∃ rows_turn' : Int32, ∃ q_rows_sieve_least' : Nat, ∃ n_rows_sieve_least' : Nat, ∃ rows_sieve_least' : Nat → Int32, ∃ rows_powers_cells' : Nat → Int32, ∃ rows_powers_ofPrime' : Nat → Int32, v = some (.int r) ∧ w = (rowsW Y ra rs' rf' rm' rl' ru' rn' rv' ++ [oX10 h0 (.ref q_now) (v_reader) (v_changes) (v_image) (.ref q_rows) (v_couples), oX3 q_now now_bound now_modulus now_seed now_functions (v_now_names) (.ref q_now_kinds) (.ref q_now_firsts) (.ref q_now_seconds) (v_now_degrees) (.ref q_now_colours) (.ref q_now_needs) (.ref q_now_numbers), oX7 q_rows (.ref q_rows_sieve) (.ref q_rows_powers) (.ref q_rows_rows) rows_turn', aR Y q_rows_rows 4 (fun j => some (ra j)), oX8 q_rows_sieve (.ref q_rows_sieve_least'), aI Y q_rows_sieve_least' n_rows_sieve_least' rows_sieve_least', aI Y q_now_needs 12 now_needs, oX4 q_rows_powers (.ref q_rows_powers_ofPrime) (.ref q_rows_powers_cells), aI Y q_rows_powers_cells 216 rows_powers_cells', aI Y q_rows_powers_ofPrime 18 rows_powers_ofPrime', aI Y q_now_firsts 12 now_firsts, aI Y q_now_seconds 12 now_seconds, aI Y q_now_kinds 12 now_kinds, aI Y q_now_numbers 144 now_numbers, aI Y q_now_colours 12 now_colours]) ∧ Q r rf' rm' rl' ru' rn' rv' rows_turn' n_rows_sieve_least' rows_sieve_least' rows_powers_cells' rows_powers_ofPrime') := by
  refine gM_of (own := RX10) (by decide +kernel) rfl (Nat.le_of_ble_eq_true rfl) rfl (fun E C hR => ?_)
  unfold wX10_sum at h
  refine g_aload_n C dX10_sum_0 0 rfl ?_
  refine g_get C inX10 8 rfl rfl 0 (by decide) wF_X10_10 rfl dX10_sum_1 ?_
  refine g_iload_n C dX10_sum_4 1 rfl ?_
  obtain ⟨P_1, hP, h⟩ := h
  refine g_callV (As := [.int a1]) (rest := []) C (mX3_has l D Y q_now now_bound now_modulus now_seed now_functions v_now_names (.ref q_now_kinds) (.ref q_now_firsts) (.ref q_now_seconds) v_now_degrees (.ref q_now_colours) (.ref q_now_needs) (.ref q_now_numbers) a1 P_1 hP) dX10_sum_5 rfl wM_X10_98 wI_X3_has wV_X3_has wN_X3 wC_X3_has (n := 1) (by decide +kernel) rfl (q0 := 0) rfl rfl ⟨Nat.le_of_ble_eq_true rfl, Nat.le_of_ble_eq_true rfl⟩ ⟨Nat.zero_le _, Nat.zero_le _⟩ (Nat.le_of_ble_eq_true rfl) [9] [0, 1, 2, 3, 4, 5, 6, 7, 8, 10, 11, 12, 13, 14, 15, 16, 17, 18, 19, 20, 21, 22] rfl rfl rfl (fun v wc hv => ?_)
  obtain ⟨rF_1, rfl, rfl, hq⟩ := hv
  replace h := h rF_1 hq
  refine gG.perm (ws' := (rowsW Y ra rs rf rm rl ru rn rv ++ [oX10 h0 (.ref q_now) (v_reader) (v_changes) (v_image) (.ref q_rows) (v_couples), oX3 q_now now_bound now_modulus now_seed now_functions (v_now_names) (.ref q_now_kinds) (.ref q_now_firsts) (.ref q_now_seconds) (v_now_degrees) (.ref q_now_colours) (.ref q_now_needs) (.ref q_now_numbers), oX7 q_rows (.ref q_rows_sieve) (.ref q_rows_powers) (.ref q_rows_rows) rows_turn, aR Y q_rows_rows 4 (fun j => some (ra j)), oX8 q_rows_sieve (.ref q_rows_sieve_least), aI Y q_rows_sieve_least n_rows_sieve_least rows_sieve_least, aI Y q_now_needs 12 now_needs, oX4 q_rows_powers (.ref q_rows_powers_ofPrime) (.ref q_rows_powers_cells), aI Y q_rows_powers_cells 216 rows_powers_cells, aI Y q_rows_powers_ofPrime 18 rows_powers_ofPrime, aI Y q_now_firsts 12 now_firsts, aI Y q_now_seconds 12 now_seconds, aI Y q_now_kinds 12 now_kinds, aI Y q_now_numbers 144 now_numbers, aI Y q_now_colours 12 now_colours])) [0, 1, 2, 3, 4, 5, 6, 7, 8, 22, 9, 10, 11, 12, 13, 14, 15, 16, 17, 18, 19, 20, 21] rfl rfl ?_
  refine g_if_eq (tgt := 19) C dX10_sum_8 (by decide) (fun c_1 => ?_) (fun c_1 => ?_)
  · replace h := h.1 c_1
    refine g_iconst (v := (-1)) C dX10_sum_19 rfl ?_
    exact g_iret C hR (show 0 ≤ mc ∧ 0 ≤ ms from ⟨Nat.zero_le _, Nat.zero_le _⟩).1 (show 0 ≤ mc ∧ 0 ≤ ms from ⟨Nat.zero_le _, Nat.zero_le _⟩).2 dX10_sum_20 ⟨(-1), rs, rf, rm, rl, ru, rn, rv, rows_turn, q_rows_sieve_least, n_rows_sieve_least, rows_sieve_least, rows_powers_cells, rows_powers_ofPrime, rfl, rfl, h⟩
  · replace h := h.2 c_1
    refine g_aload_n C dX10_sum_11 0 rfl ?_
    refine g_iload_n C dX10_sum_12 2 rfl ?_
    obtain ⟨P_2, hP, h⟩ := h
    refine g_callV (As := [.int a2]) (rest := []) C (mX10_isReach l D Y h0 q_now v_reader v_changes v_image (.ref q_rows) v_couples now_bound now_modulus now_seed now_functions v_now_names (.ref q_now_kinds) (.ref q_now_firsts) (.ref q_now_seconds) v_now_degrees (.ref q_now_colours) (.ref q_now_needs) (.ref q_now_numbers) a2 P_2 hP) dX10_sum_13 rfl wM_X10_179 wI_X10_isReach wV_X10_isReach wN_X10 wC_X10_isReach (n := 1) (by decide +kernel) rfl (q0 := 0) rfl rfl ⟨Nat.le_of_ble_eq_true rfl, Nat.le_of_ble_eq_true rfl⟩ ⟨Nat.zero_le _, Nat.zero_le _⟩ (Nat.le_of_ble_eq_true rfl) [8, 9] [0, 1, 2, 3, 4, 5, 6, 7, 10, 11, 12, 13, 14, 15, 16, 17, 18, 19, 20, 21, 22] rfl rfl rfl (fun v wc hv => ?_)
    obtain ⟨rF_2, rfl, rfl, hq⟩ := hv
    replace h := h rF_2 hq
    refine gG.perm (ws' := (rowsW Y ra rs rf rm rl ru rn rv ++ [oX10 h0 (.ref q_now) (v_reader) (v_changes) (v_image) (.ref q_rows) (v_couples), oX3 q_now now_bound now_modulus now_seed now_functions (v_now_names) (.ref q_now_kinds) (.ref q_now_firsts) (.ref q_now_seconds) (v_now_degrees) (.ref q_now_colours) (.ref q_now_needs) (.ref q_now_numbers), oX7 q_rows (.ref q_rows_sieve) (.ref q_rows_powers) (.ref q_rows_rows) rows_turn, aR Y q_rows_rows 4 (fun j => some (ra j)), oX8 q_rows_sieve (.ref q_rows_sieve_least), aI Y q_rows_sieve_least n_rows_sieve_least rows_sieve_least, aI Y q_now_needs 12 now_needs, oX4 q_rows_powers (.ref q_rows_powers_ofPrime) (.ref q_rows_powers_cells), aI Y q_rows_powers_cells 216 rows_powers_cells, aI Y q_rows_powers_ofPrime 18 rows_powers_ofPrime, aI Y q_now_firsts 12 now_firsts, aI Y q_now_seconds 12 now_seconds, aI Y q_now_kinds 12 now_kinds, aI Y q_now_numbers 144 now_numbers, aI Y q_now_colours 12 now_colours])) [0, 1, 2, 3, 4, 5, 6, 7, 21, 22, 8, 9, 10, 11, 12, 13, 14, 15, 16, 17, 18, 19, 20] rfl rfl ?_
    refine g_if_ne (tgt := 21) C dX10_sum_16 (by decide) (fun c_2 => ?_) (fun c_2 => ?_)
    · replace h := h.1 c_2
      refine g_aload_n C dX10_sum_21 0 rfl ?_
      refine g_get C inX10 8 rfl rfl 4 (by decide) wF_X10_40 rfl dX10_sum_22 ?_
      refine g_aload_n C dX10_sum_25 0 rfl ?_
      refine g_get C inX10 8 rfl rfl 0 (by decide) wF_X10_10 rfl dX10_sum_26 ?_
      refine g_iload_n C dX10_sum_29 1 rfl ?_
      refine g_iload_n C dX10_sum_30 2 rfl ?_
      obtain ⟨mcF_1, msF_1, P_3, hk_1, hP, h⟩ := h
      refine g_callV (As := [.ref q_now, .int a1, .int a2]) (rest := []) C (mX7_upTo l D Y mcF_1 msF_1 q_rows ra q_now now_bound now_modulus now_seed now_functions v_now_names q_now_kinds q_now_firsts q_now_seconds v_now_degrees q_now_colours q_now_needs q_now_numbers rs rf rm rl ru rn rv q_rows_sieve q_rows_powers q_rows_rows rows_turn q_rows_sieve_least n_rows_sieve_least rows_sieve_least now_needs q_rows_powers_ofPrime q_rows_powers_cells rows_powers_cells rows_powers_ofPrime now_firsts now_seconds now_kinds now_numbers now_colours a1 a2 P_3 hP) dX10_sum_31 rfl wM_X10_182 wI_X7_upTo wV_X7_upTo wN_X7 wC_X7_upTo (n := 3) (by decide +kernel) rfl (q0 := 9) rfl rfl ⟨Nat.le_of_ble_eq_true rfl, Nat.le_of_ble_eq_true rfl⟩ hk_1 (Nat.le_of_ble_eq_true rfl) [0, 1, 2, 3, 4, 5, 6, 7, 9, 10, 11, 12, 13, 14, 15, 16, 17, 18, 19, 20, 21, 22] [8] rfl rfl rfl (fun v wc hv => ?_)
      obtain ⟨k_1, rs_1, rf_1, rm_1, rl_1, ru_1, rn_1, rv_1, turn_1, q_sieve_least_1, n_sieve_least_1, sieve_least_1, powers_cells_1, powers_ofPrime_1, rfl, rfl, hkk_1, hq⟩ := hv
      replace h := h k_1 rf_1 rm_1 rl_1 ru_1 rn_1 rv_1 turn_1 n_sieve_least_1 sieve_least_1 powers_cells_1 powers_ofPrime_1 hq
      refine gG.perm (ws' := (rowsW Y ra rs_1 rf_1 rm_1 rl_1 ru_1 rn_1 rv_1 ++ [oX10 h0 (.ref q_now) (v_reader) (v_changes) (v_image) (.ref q_rows) (v_couples), oX3 q_now now_bound now_modulus now_seed now_functions (v_now_names) (.ref q_now_kinds) (.ref q_now_firsts) (.ref q_now_seconds) (v_now_degrees) (.ref q_now_colours) (.ref q_now_needs) (.ref q_now_numbers), oX7 q_rows (.ref q_rows_sieve) (.ref q_rows_powers) (.ref q_rows_rows) turn_1, aR Y q_rows_rows 4 (fun j => some (ra j)), oX8 q_rows_sieve (.ref q_sieve_least_1), aI Y q_sieve_least_1 n_sieve_least_1 sieve_least_1, aI Y q_now_needs 12 now_needs, oX4 q_rows_powers (.ref q_rows_powers_ofPrime) (.ref q_rows_powers_cells), aI Y q_rows_powers_cells 216 powers_cells_1, aI Y q_rows_powers_ofPrime 18 powers_ofPrime_1, aI Y q_now_firsts 12 now_firsts, aI Y q_now_seconds 12 now_seconds, aI Y q_now_kinds 12 now_kinds, aI Y q_now_numbers 144 now_numbers, aI Y q_now_colours 12 now_colours])) [1, 2, 3, 4, 5, 6, 7, 8, 0, 9, 10, 11, 12, 13, 14, 15, 16, 17, 18, 19, 20, 21, 22] rfl rfl ?_
      refine g_iload_n C dX10_sum_34 2 rfl ?_
      obtain ⟨P_4, hP, h⟩ := h
      refine g_callV (As := [.int a2]) (rest := []) C (mX6_sumTo_at l D Y ra k_1 (hkk_1) rs_1 rf_1 rm_1 rl_1 ru_1 rn_1 rv_1 a2 P_4 hP) dX10_sum_35 rfl wM_X10_186 wI_X6_sumTo wV_X6_sumTo wN_X6 wC_X6_sumTo (n := 1) (by decide +kernel) rfl (q0 := (2 * k_1)) (rowsW_obj0 _ _ _ _ _ _ _ _ _ (hkk_1)) rfl ⟨Nat.le_of_ble_eq_true rfl, Nat.le_of_ble_eq_true rfl⟩ hk_1 (Nat.le_of_ble_eq_true rfl) [0, 1, 2, 3, 4, 5, 6, 7] [8, 9, 10, 11, 12, 13, 14, 15, 16, 17, 18, 19, 20, 21, 22] rfl rfl rfl (fun v wc hv => ?_)
      obtain ⟨rF_3, rfl, rfl, hq⟩ := hv
      replace h := h rF_3 hq
      refine gG.perm (ws' := (rowsW Y ra rs_1 rf_1 rm_1 rl_1 ru_1 rn_1 rv_1 ++ [oX10 h0 (.ref q_now) (v_reader) (v_changes) (v_image) (.ref q_rows) (v_couples), oX3 q_now now_bound now_modulus now_seed now_functions (v_now_names) (.ref q_now_kinds) (.ref q_now_firsts) (.ref q_now_seconds) (v_now_degrees) (.ref q_now_colours) (.ref q_now_needs) (.ref q_now_numbers), oX7 q_rows (.ref q_rows_sieve) (.ref q_rows_powers) (.ref q_rows_rows) turn_1, aR Y q_rows_rows 4 (fun j => some (ra j)), oX8 q_rows_sieve (.ref q_sieve_least_1), aI Y q_sieve_least_1 n_sieve_least_1 sieve_least_1, aI Y q_now_needs 12 now_needs, oX4 q_rows_powers (.ref q_rows_powers_ofPrime) (.ref q_rows_powers_cells), aI Y q_rows_powers_cells 216 powers_cells_1, aI Y q_rows_powers_ofPrime 18 powers_ofPrime_1, aI Y q_now_firsts 12 now_firsts, aI Y q_now_seconds 12 now_seconds, aI Y q_now_kinds 12 now_kinds, aI Y q_now_numbers 144 now_numbers, aI Y q_now_colours 12 now_colours])) [15, 16, 17, 18, 19, 20, 21, 22, 0, 1, 2, 3, 4, 5, 6, 7, 8, 9, 10, 11, 12, 13, 14] rfl rfl ?_
      exact g_iret C hR (show 0 + mcF_1 ≤ mc ∧ 0 + msF_1 ≤ ms from hk_1).1 (show 0 + mcF_1 ≤ mc ∧ 0 + msF_1 ≤ ms from hk_1).2 dX10_sum_38 ⟨rF_3, rs_1, rf_1, rm_1, rl_1, ru_1, rn_1, rv_1, turn_1, q_sieve_least_1, n_sieve_least_1, sieve_least_1, powers_cells_1, powers_ofPrime_1, rfl, rfl, h⟩
    · replace h := h.2 c_2
      refine g_iconst (v := (-1)) C dX10_sum_19 rfl ?_
      exact g_iret C hR (show 0 ≤ mc ∧ 0 ≤ ms from ⟨Nat.zero_le _, Nat.zero_le _⟩).1 (show 0 ≤ mc ∧ 0 ≤ ms from ⟨Nat.zero_le _, Nat.zero_le _⟩).2 dX10_sum_20 ⟨(-1), rs, rf, rm, rl, ru, rn, rv, rows_turn, q_rows_sieve_least, n_rows_sieve_least, rows_sieve_least, rows_powers_cells, rows_powers_ofPrime, rfl, rfl, h⟩
theorem dX10_range_0 : decode cX10_range 0 = .ok (.aload_n 0, 1) := by decide +kernel
theorem dX10_range_1 : decode cX10_range 1 = .ok (.getfield 10, 3) := by decide +kernel
theorem dX10_range_4 : decode cX10_range 4 = .ok (.iload_n 1, 1) := by decide +kernel
theorem dX10_range_5 : decode cX10_range 5 = .ok (.invokevirtual 98, 3) := by decide +kernel
theorem dX10_range_8 : decode cX10_range 8 = .ok (.ifCond .eq 24, 3) := by decide +kernel
theorem dX10_range_11 : decode cX10_range 11 = .ok (.aload_n 0, 1) := by decide +kernel
theorem dX10_range_12 : decode cX10_range 12 = .ok (.iload_n 2, 1) := by decide +kernel
theorem dX10_range_13 : decode cX10_range 13 = .ok (.invokevirtual 161, 3) := by decide +kernel
theorem dX10_range_16 : decode cX10_range 16 = .ok (.ifCond .eq 16, 3) := by decide +kernel
theorem dX10_range_19 : decode cX10_range 19 = .ok (.aload_n 0, 1) := by decide +kernel
theorem dX10_range_20 : decode cX10_range 20 = .ok (.iload_n 3, 1) := by decide +kernel
theorem dX10_range_21 : decode cX10_range 21 = .ok (.invokevirtual 161, 3) := by decide +kernel
theorem dX10_range_24 : decode cX10_range 24 = .ok (.ifCond .eq 8, 3) := by decide +kernel
theorem dX10_range_27 : decode cX10_range 27 = .ok (.iload_n 2, 1) := by decide +kernel
theorem dX10_range_28 : decode cX10_range 28 = .ok (.iload_n 3, 1) := by decide +kernel
theorem dX10_range_29 : decode cX10_range 29 = .ok (.if_icmp .le 5, 3) := by decide +kernel
theorem dX10_range_32 : decode cX10_range 32 = .ok (.iconst (-1), 1) := by decide +kernel
theorem dX10_range_33 : decode cX10_range 33 = .ok (.ireturn, 1) := by decide +kernel
theorem dX10_range_34 : decode cX10_range 34 = .ok (.aload_n 0, 1) := by decide +kernel
theorem dX10_range_35 : decode cX10_range 35 = .ok (.getfield 40, 3) := by decide +kernel
theorem dX10_range_38 : decode cX10_range 38 = .ok (.aload_n 0, 1) := by decide +kernel
theorem dX10_range_39 : decode cX10_range 39 = .ok (.getfield 10, 3) := by decide +kernel
theorem dX10_range_42 : decode cX10_range 42 = .ok (.iload_n 1, 1) := by decide +kernel
theorem dX10_range_43 : decode cX10_range 43 = .ok (.iload_n 3, 1) := by decide +kernel
theorem dX10_range_44 : decode cX10_range 44 = .ok (.invokevirtual 182, 3) := by decide +kernel
theorem dX10_range_47 : decode cX10_range 47 = .ok (.iload_n 2, 1) := by decide +kernel
theorem dX10_range_48 : decode cX10_range 48 = .ok (.iload_n 3, 1) := by decide +kernel
theorem dX10_range_49 : decode cX10_range 49 = .ok (.invokevirtual 191, 3) := by decide +kernel
theorem dX10_range_52 : decode cX10_range 52 = .ok (.ireturn, 1) := by decide +kernel
/-- QuotientSums.range(III)I -/
def wX10_range (mc ms : Nat) (now_bound : Int32) (now_modulus : Int32) (now_seed : Int32) (now_functions : Int32) (rf : Nat → Int32) (rm : Nat → Int32) (rl : Nat → Int32) (ru : Nat → Int32) (rn : Nat → Nat) (rv : Nat → Nat → Int32) (rows_turn : Int32) (n_rows_sieve_least : Nat) (rows_sieve_least : Nat → Int32) (now_needs : Nat → Int32) (rows_powers_cells : Nat → Int32) (rows_powers_ofPrime : Nat → Int32) (now_firsts : Nat → Int32) (now_seconds : Nat → Int32) (now_kinds : Nat → Int32) (now_numbers : Nat → Int32) (now_colours : Nat → Int32) (a1 : Int32) (a2 : Int32) (a3 : Int32) (Q : (Int32) → (Nat → Int32) → (Nat → Int32) → (Nat → Int32) → (Nat → Int32) → (Nat → Nat) → (Nat → Nat → Int32) → (Int32) → (Nat) → (Nat → Int32) → (Nat → Int32) → (Nat → Int32) → Prop) : Prop :=
  (∃ (P_1 : (Int32) → Prop), wX3_has now_bound now_modulus now_seed now_functions a1 P_1 ∧ ∀ (rF_1 : Int32), P_1 rF_1 → ((rF_1 = 0 → (Q (-1) rf rm rl ru rn rv rows_turn n_rows_sieve_least rows_sieve_least rows_powers_cells rows_powers_ofPrime)) ∧ (¬ rF_1 = 0 → (∃ (P_2 : (Int32) → Prop), wX10_isPlace now_bound now_modulus now_seed now_functions a2 P_2 ∧ ∀ (rF_2 : Int32), P_2 rF_2 → ((rF_2 = 0 → (Q (-1) rf rm rl ru rn rv rows_turn n_rows_sieve_least rows_sieve_least rows_powers_cells rows_powers_ofPrime)) ∧ (¬ rF_2 = 0 → (∃ (P_3 : (Int32) → Prop), wX10_isPlace now_bound now_modulus now_seed now_functions a3 P_3 ∧ ∀ (rF_3 : Int32), P_3 rF_3 → ((rF_3 = 0 → (Q (-1) rf rm rl ru rn rv rows_turn n_rows_sieve_least rows_sieve_least rows_powers_cells rows_powers_ofPrime)) ∧ (¬ rF_3 = 0 → ((a2 ≤ a3 → (∃ (mcF_1 msF_1 : Nat) (P_4 : (Nat) → (Nat → Int32) → (Nat → Int32) → (Nat → Int32) → (Nat → Int32) → (Nat → Nat) → (Nat → Nat → Int32) → (Int32) → (Nat) → (Nat → Int32) → (Nat → Int32) → (Nat → Int32) → Prop), (0 + mcF_1 ≤ mc ∧ 0 + msF_1 ≤ ms) ∧ wX7_upTo mcF_1 msF_1 now_bound now_modulus now_seed now_functions rf rm rl ru rn rv rows_turn n_rows_sieve_least rows_sieve_least now_needs rows_powers_cells rows_powers_ofPrime now_firsts now_seconds now_kinds now_numbers now_colours a1 a3 P_4 ∧ ∀ (k_1 : Nat) (rf_1 : Nat → Int32) (rm_1 : Nat → Int32) (rl_1 : Nat → Int32) (ru_1 : Nat → Int32) (rn_1 : Nat → Nat) (rv_1 : Nat → Nat → Int32) (turn_1 : Int32) (n_sieve_least_1 : Nat) (sieve_least_1 : Nat → Int32) (powers_cells_1 : Nat → Int32) (powers_ofPrime_1 : Nat → Int32), P_4 k_1 rf_1 rm_1 rl_1 ru_1 rn_1 rv_1 turn_1 n_sieve_least_1 sieve_least_1 powers_cells_1 powers_ofPrime_1 → ∃ (P_5 : (Int32) → Prop), wX6_stretch (rf_1 k_1) (rm_1 k_1) (rl_1 k_1) (ru_1 k_1) (rn_1 k_1) (rv_1 k_1) a2 a3 P_5 ∧ ∀ (rF_4 : Int32), P_5 rF_4 → (Q rF_4 rf_1 rm_1 rl_1 ru_1 rn_1 rv_1 turn_1 n_sieve_least_1 sieve_least_1 powers_cells_1 powers_ofPrime_1))) ∧ (¬ a2 ≤ a3 → (Q (-1) rf rm rl ru rn rv rows_turn n_rows_sieve_least rows_sieve_least rows_powers_cells rows_powers_ofPrime))))))))))))
set_option maxHeartbeats 4000000 in
set_option maxRecDepth 100000 in
theorem mX10_range (l : Launch) (D : va_G) (Y : Nat → ClassId) (mc ms : Nat) (h0 : Nat) (ra : Nat → Nat) (q_now : Nat) (v_reader : Value) (v_changes : Value) (v_image : Value) (q_rows : Nat) (v_couples : Value) (now_bound : Int32) (now_modulus : Int32) (now_seed : Int32) (now_functions : Int32) (v_now_names : Value) (q_now_kinds : Nat) (q_now_firsts : Nat) (q_now_seconds : Nat) (v_now_degrees : Value) (q_now_colours : Nat) (q_now_needs : Nat) (q_now_numbers : Nat) (rs : Nat → Nat) (rf : Nat → Int32) (rm : Nat → Int32) (rl : Nat → Int32) (ru : Nat → Int32) (rn : Nat → Nat) (rv : Nat → Nat → Int32) (q_rows_sieve : Nat) (q_rows_powers : Nat) (q_rows_rows : Nat) (rows_turn : Int32) (q_rows_sieve_least : Nat) (n_rows_sieve_least : Nat) (rows_sieve_least : Nat → Int32) (now_needs : Nat → Int32) (q_rows_powers_ofPrime : Nat) (q_rows_powers_cells : Nat) (rows_powers_cells : Nat → Int32) (rows_powers_ofPrime : Nat → Int32) (now_firsts : Nat → Int32) (now_seconds : Nat → Int32) (now_kinds : Nat → Int32) (now_numbers : Nat → Int32) (now_colours : Nat → Int32) (a1 : Int32) (a2 : Int32) (a3 : Int32) (Q : (Int32) → (Nat → Int32) → (Nat → Int32) → (Nat → Int32) → (Nat → Int32) → (Nat → Nat) → (Nat → Nat → Int32) → (Int32) → (Nat) → (Nat → Int32) → (Nat → Int32) → (Nat → Int32) → Prop) (h : wX10_range mc ms now_bound now_modulus now_seed now_functions rf rm rl ru rn rv rows_turn n_rows_sieve_least rows_sieve_least now_needs rows_powers_cells rows_powers_ofPrime now_firsts now_seconds now_kinds now_numbers now_colours a1 a2 a3 Q) : gM l D Y yX10_range cX10_range 4 (some .int) 6 151 mc ms [.ref h0, .int a1, .int a2, .int a3] (rowsW Y ra rs rf rm rl ru rn rv ++ [oX10 h0 (.ref q_now) (v_reader) (v_changes) (v_image) (.ref q_rows) (v_couples), oX3 q_now now_bound now_modulus now_seed now_functions (v_now_names) (.ref q_now_kinds) (.ref q_now_firsts) (.ref q_now_seconds) (v_now_degrees) (.ref q_now_colours) (.ref q_now_needs) (.ref q_now_numbers), oX7 q_rows (.ref q_rows_sieve) (.ref q_rows_powers) (.ref q_rows_rows) rows_turn, aR Y q_rows_rows 4 (fun j => some (ra j)), oX8 q_rows_sieve (.ref q_rows_sieve_least), aI Y q_rows_sieve_least n_rows_sieve_least rows_sieve_least, aI Y q_now_needs 12 now_needs, oX4 q_rows_powers (.ref q_rows_powers_ofPrime) (.ref q_rows_powers_cells), aI Y q_rows_powers_cells 216 rows_powers_cells, aI Y q_rows_powers_ofPrime 18 rows_powers_ofPrime, aI Y q_now_firsts 12 now_firsts, aI Y q_now_seconds 12 now_seconds, aI Y q_now_kinds 12 now_kinds, aI Y q_now_numbers 144 now_numbers, aI Y q_now_colours 12 now_colours]) (fun v w => ∃ r : Int32, ∃ rs' : Nat → Nat, ∃ rf' : Nat → Int32, ∃ rm' : Nat → Int32, ∃ rl' : Nat → Int32, ∃ ru' : Nat → Int32, ∃ rn' : Nat → Nat, ∃ rv' : Nat → Nat → Int32, ∃ rows_turn' : Int32, ∃ q_rows_sieve_least' : Nat, ∃ n_rows_sieve_least' : Nat, ∃ rows_sieve_least' : Nat → Int32, ∃ rows_powers_cells' : Nat → Int32, ∃ rows_powers_ofPrime' : Nat → Int32, v = some (.int r) ∧ w = (rowsW Y ra rs' rf' rm' rl' ru' rn' rv' ++ [oX10 h0 (.ref q_now) (v_reader) (v_changes) (v_image) (.ref q_rows) (v_couples), oX3 q_now now_bound now_modulus now_seed now_functions (v_now_names) (.ref q_now_kinds) (.ref q_now_firsts) (.ref q_now_seconds) (v_now_degrees) (.ref q_now_colours) (.ref q_now_needs) (.ref q_now_numbers), oX7 q_rows (.ref q_rows_sieve) (.ref q_rows_powers) (.ref q_rows_rows) rows_turn', aR Y q_rows_rows 4 (fun j => some (ra j)), oX8 q_rows_sieve (.ref q_rows_sieve_least'), aI Y q_rows_sieve_least' n_rows_sieve_least' rows_sieve_least', aI Y q_now_needs 12 now_needs, oX4 q_rows_powers (.ref q_rows_powers_ofPrime) (.ref q_rows_powers_cells), aI Y q_rows_powers_cells 216 rows_powers_cells', aI Y q_rows_powers_ofPrime 18 rows_powers_ofPrime', aI Y q_now_firsts 12 now_firsts, aI Y q_now_seconds 12 now_seconds, aI Y q_now_kinds 12 now_kinds, aI Y q_now_numbers 144 now_numbers, aI Y q_now_colours 12 now_colours]) ∧ Q r rf' rm' rl' ru' rn' rv' rows_turn' n_rows_sieve_least' rows_sieve_least' rows_powers_cells' rows_powers_ofPrime') := by
  refine gM_of (own := RX10) (by decide +kernel) rfl (Nat.le_of_ble_eq_true rfl) rfl (fun E C hR => ?_)
  unfold wX10_range at h
  refine g_aload_n C dX10_range_0 0 rfl ?_
  refine g_get C inX10 8 rfl rfl 0 (by decide) wF_X10_10 rfl dX10_range_1 ?_
  refine g_iload_n C dX10_range_4 1 rfl ?_
  obtain ⟨P_1, hP, h⟩ := h
  refine g_callV (As := [.int a1]) (rest := []) C (mX3_has l D Y q_now now_bound now_modulus now_seed now_functions v_now_names (.ref q_now_kinds) (.ref q_now_firsts) (.ref q_now_seconds) v_now_degrees (.ref q_now_colours) (.ref q_now_needs) (.ref q_now_numbers) a1 P_1 hP) dX10_range_5 rfl wM_X10_98 wI_X3_has wV_X3_has wN_X3 wC_X3_has (n := 1) (by decide +kernel) rfl (q0 := 0) rfl rfl ⟨Nat.le_of_ble_eq_true rfl, Nat.le_of_ble_eq_true rfl⟩ ⟨Nat.zero_le _, Nat.zero_le _⟩ (Nat.le_of_ble_eq_true rfl) [9] [0, 1, 2, 3, 4, 5, 6, 7, 8, 10, 11, 12, 13, 14, 15, 16, 17, 18, 19, 20, 21, 22] rfl rfl rfl (fun v wc hv => ?_)
  obtain ⟨rF_1, rfl, rfl, hq⟩ := hv
  replace h := h rF_1 hq
  refine gG.perm (ws' := (rowsW Y ra rs rf rm rl ru rn rv ++ [oX10 h0 (.ref q_now) (v_reader) (v_changes) (v_image) (.ref q_rows) (v_couples), oX3 q_now now_bound now_modulus now_seed now_functions (v_now_names) (.ref q_now_kinds) (.ref q_now_firsts) (.ref q_now_seconds) (v_now_degrees) (.ref q_now_colours) (.ref q_now_needs) (.ref q_now_numbers), oX7 q_rows (.ref q_rows_sieve) (.ref q_rows_powers) (.ref q_rows_rows) rows_turn, aR Y q_rows_rows 4 (fun j => some (ra j)), oX8 q_rows_sieve (.ref q_rows_sieve_least), aI Y q_rows_sieve_least n_rows_sieve_least rows_sieve_least, aI Y q_now_needs 12 now_needs, oX4 q_rows_powers (.ref q_rows_powers_ofPrime) (.ref q_rows_powers_cells), aI Y q_rows_powers_cells 216 rows_powers_cells, aI Y q_rows_powers_ofPrime 18 rows_powers_ofPrime, aI Y q_now_firsts 12 now_firsts, aI Y q_now_seconds 12 now_seconds, aI Y q_now_kinds 12 now_kinds, aI Y q_now_numbers 144 now_numbers, aI Y q_now_colours 12 now_colours])) [0, 1, 2, 3, 4, 5, 6, 7, 8, 22, 9, 10, 11, 12, 13, 14, 15, 16, 17, 18, 19, 20, 21] rfl rfl ?_
  refine g_if_eq (tgt := 32) C dX10_range_8 (by decide) (fun c_1 => ?_) (fun c_1 => ?_)
  · replace h := h.1 c_1
    refine g_iconst (v := (-1)) C dX10_range_32 rfl ?_
    exact g_iret C hR (show 0 ≤ mc ∧ 0 ≤ ms from ⟨Nat.zero_le _, Nat.zero_le _⟩).1 (show 0 ≤ mc ∧ 0 ≤ ms from ⟨Nat.zero_le _, Nat.zero_le _⟩).2 dX10_range_33 ⟨(-1), rs, rf, rm, rl, ru, rn, rv, rows_turn, q_rows_sieve_least, n_rows_sieve_least, rows_sieve_least, rows_powers_cells, rows_powers_ofPrime, rfl, rfl, h⟩
  · replace h := h.2 c_1
    refine g_aload_n C dX10_range_11 0 rfl ?_
    refine g_iload_n C dX10_range_12 2 rfl ?_
    obtain ⟨P_2, hP, h⟩ := h
    refine g_callV (As := [.int a2]) (rest := []) C (mX10_isPlace l D Y h0 q_now v_reader v_changes v_image (.ref q_rows) v_couples now_bound now_modulus now_seed now_functions v_now_names (.ref q_now_kinds) (.ref q_now_firsts) (.ref q_now_seconds) v_now_degrees (.ref q_now_colours) (.ref q_now_needs) (.ref q_now_numbers) a2 P_2 hP) dX10_range_13 rfl wM_X10_161 wI_X10_isPlace wV_X10_isPlace wN_X10 wC_X10_isPlace (n := 1) (by decide +kernel) rfl (q0 := 0) rfl rfl ⟨Nat.le_of_ble_eq_true rfl, Nat.le_of_ble_eq_true rfl⟩ ⟨Nat.zero_le _, Nat.zero_le _⟩ (Nat.le_of_ble_eq_true rfl) [8, 9] [0, 1, 2, 3, 4, 5, 6, 7, 10, 11, 12, 13, 14, 15, 16, 17, 18, 19, 20, 21, 22] rfl rfl rfl (fun v wc hv => ?_)
    obtain ⟨rF_2, rfl, rfl, hq⟩ := hv
    replace h := h rF_2 hq
    refine gG.perm (ws' := (rowsW Y ra rs rf rm rl ru rn rv ++ [oX10 h0 (.ref q_now) (v_reader) (v_changes) (v_image) (.ref q_rows) (v_couples), oX3 q_now now_bound now_modulus now_seed now_functions (v_now_names) (.ref q_now_kinds) (.ref q_now_firsts) (.ref q_now_seconds) (v_now_degrees) (.ref q_now_colours) (.ref q_now_needs) (.ref q_now_numbers), oX7 q_rows (.ref q_rows_sieve) (.ref q_rows_powers) (.ref q_rows_rows) rows_turn, aR Y q_rows_rows 4 (fun j => some (ra j)), oX8 q_rows_sieve (.ref q_rows_sieve_least), aI Y q_rows_sieve_least n_rows_sieve_least rows_sieve_least, aI Y q_now_needs 12 now_needs, oX4 q_rows_powers (.ref q_rows_powers_ofPrime) (.ref q_rows_powers_cells), aI Y q_rows_powers_cells 216 rows_powers_cells, aI Y q_rows_powers_ofPrime 18 rows_powers_ofPrime, aI Y q_now_firsts 12 now_firsts, aI Y q_now_seconds 12 now_seconds, aI Y q_now_kinds 12 now_kinds, aI Y q_now_numbers 144 now_numbers, aI Y q_now_colours 12 now_colours])) [0, 1, 2, 3, 4, 5, 6, 7, 21, 22, 8, 9, 10, 11, 12, 13, 14, 15, 16, 17, 18, 19, 20] rfl rfl ?_
    refine g_if_eq (tgt := 32) C dX10_range_16 (by decide) (fun c_2 => ?_) (fun c_2 => ?_)
    · replace h := h.1 c_2
      refine g_iconst (v := (-1)) C dX10_range_32 rfl ?_
      exact g_iret C hR (show 0 ≤ mc ∧ 0 ≤ ms from ⟨Nat.zero_le _, Nat.zero_le _⟩).1 (show 0 ≤ mc ∧ 0 ≤ ms from ⟨Nat.zero_le _, Nat.zero_le _⟩).2 dX10_range_33 ⟨(-1), rs, rf, rm, rl, ru, rn, rv, rows_turn, q_rows_sieve_least, n_rows_sieve_least, rows_sieve_least, rows_powers_cells, rows_powers_ofPrime, rfl, rfl, h⟩
    · replace h := h.2 c_2
      refine g_aload_n C dX10_range_19 0 rfl ?_
      refine g_iload_n C dX10_range_20 3 rfl ?_
      obtain ⟨P_3, hP, h⟩ := h
      refine g_callV (As := [.int a3]) (rest := []) C (mX10_isPlace l D Y h0 q_now v_reader v_changes v_image (.ref q_rows) v_couples now_bound now_modulus now_seed now_functions v_now_names (.ref q_now_kinds) (.ref q_now_firsts) (.ref q_now_seconds) v_now_degrees (.ref q_now_colours) (.ref q_now_needs) (.ref q_now_numbers) a3 P_3 hP) dX10_range_21 rfl wM_X10_161 wI_X10_isPlace wV_X10_isPlace wN_X10 wC_X10_isPlace (n := 1) (by decide +kernel) rfl (q0 := 0) rfl rfl ⟨Nat.le_of_ble_eq_true rfl, Nat.le_of_ble_eq_true rfl⟩ ⟨Nat.zero_le _, Nat.zero_le _⟩ (Nat.le_of_ble_eq_true rfl) [8, 9] [0, 1, 2, 3, 4, 5, 6, 7, 10, 11, 12, 13, 14, 15, 16, 17, 18, 19, 20, 21, 22] rfl rfl rfl (fun v wc hv => ?_)
      obtain ⟨rF_3, rfl, rfl, hq⟩ := hv
      replace h := h rF_3 hq
      refine gG.perm (ws' := (rowsW Y ra rs rf rm rl ru rn rv ++ [oX10 h0 (.ref q_now) (v_reader) (v_changes) (v_image) (.ref q_rows) (v_couples), oX3 q_now now_bound now_modulus now_seed now_functions (v_now_names) (.ref q_now_kinds) (.ref q_now_firsts) (.ref q_now_seconds) (v_now_degrees) (.ref q_now_colours) (.ref q_now_needs) (.ref q_now_numbers), oX7 q_rows (.ref q_rows_sieve) (.ref q_rows_powers) (.ref q_rows_rows) rows_turn, aR Y q_rows_rows 4 (fun j => some (ra j)), oX8 q_rows_sieve (.ref q_rows_sieve_least), aI Y q_rows_sieve_least n_rows_sieve_least rows_sieve_least, aI Y q_now_needs 12 now_needs, oX4 q_rows_powers (.ref q_rows_powers_ofPrime) (.ref q_rows_powers_cells), aI Y q_rows_powers_cells 216 rows_powers_cells, aI Y q_rows_powers_ofPrime 18 rows_powers_ofPrime, aI Y q_now_firsts 12 now_firsts, aI Y q_now_seconds 12 now_seconds, aI Y q_now_kinds 12 now_kinds, aI Y q_now_numbers 144 now_numbers, aI Y q_now_colours 12 now_colours])) [0, 1, 2, 3, 4, 5, 6, 7, 21, 22, 8, 9, 10, 11, 12, 13, 14, 15, 16, 17, 18, 19, 20] rfl rfl ?_
      refine g_if_eq (tgt := 32) C dX10_range_24 (by decide) (fun c_3 => ?_) (fun c_3 => ?_)
      · replace h := h.1 c_3
        refine g_iconst (v := (-1)) C dX10_range_32 rfl ?_
        exact g_iret C hR (show 0 ≤ mc ∧ 0 ≤ ms from ⟨Nat.zero_le _, Nat.zero_le _⟩).1 (show 0 ≤ mc ∧ 0 ≤ ms from ⟨Nat.zero_le _, Nat.zero_le _⟩).2 dX10_range_33 ⟨(-1), rs, rf, rm, rl, ru, rn, rv, rows_turn, q_rows_sieve_least, n_rows_sieve_least, rows_sieve_least, rows_powers_cells, rows_powers_ofPrime, rfl, rfl, h⟩
      · replace h := h.2 c_3
        refine g_iload_n C dX10_range_27 2 rfl ?_
        refine g_iload_n C dX10_range_28 3 rfl ?_
        refine g_icmp_le (tgt := 34) C dX10_range_29 (by decide) (fun c_4 => ?_) (fun c_4 => ?_)
        · replace h := h.1 c_4
          refine g_aload_n C dX10_range_34 0 rfl ?_
          refine g_get C inX10 8 rfl rfl 4 (by decide) wF_X10_40 rfl dX10_range_35 ?_
          refine g_aload_n C dX10_range_38 0 rfl ?_
          refine g_get C inX10 8 rfl rfl 0 (by decide) wF_X10_10 rfl dX10_range_39 ?_
          refine g_iload_n C dX10_range_42 1 rfl ?_
          refine g_iload_n C dX10_range_43 3 rfl ?_
          obtain ⟨mcF_1, msF_1, P_4, hk_1, hP, h⟩ := h
          refine g_callV (As := [.ref q_now, .int a1, .int a3]) (rest := []) C (mX7_upTo l D Y mcF_1 msF_1 q_rows ra q_now now_bound now_modulus now_seed now_functions v_now_names q_now_kinds q_now_firsts q_now_seconds v_now_degrees q_now_colours q_now_needs q_now_numbers rs rf rm rl ru rn rv q_rows_sieve q_rows_powers q_rows_rows rows_turn q_rows_sieve_least n_rows_sieve_least rows_sieve_least now_needs q_rows_powers_ofPrime q_rows_powers_cells rows_powers_cells rows_powers_ofPrime now_firsts now_seconds now_kinds now_numbers now_colours a1 a3 P_4 hP) dX10_range_44 rfl wM_X10_182 wI_X7_upTo wV_X7_upTo wN_X7 wC_X7_upTo (n := 3) (by decide +kernel) rfl (q0 := 9) rfl rfl ⟨Nat.le_of_ble_eq_true rfl, Nat.le_of_ble_eq_true rfl⟩ hk_1 (Nat.le_of_ble_eq_true rfl) [0, 1, 2, 3, 4, 5, 6, 7, 9, 10, 11, 12, 13, 14, 15, 16, 17, 18, 19, 20, 21, 22] [8] rfl rfl rfl (fun v wc hv => ?_)
          obtain ⟨k_1, rs_1, rf_1, rm_1, rl_1, ru_1, rn_1, rv_1, turn_1, q_sieve_least_1, n_sieve_least_1, sieve_least_1, powers_cells_1, powers_ofPrime_1, rfl, rfl, hkk_1, hq⟩ := hv
          replace h := h k_1 rf_1 rm_1 rl_1 ru_1 rn_1 rv_1 turn_1 n_sieve_least_1 sieve_least_1 powers_cells_1 powers_ofPrime_1 hq
          refine gG.perm (ws' := (rowsW Y ra rs_1 rf_1 rm_1 rl_1 ru_1 rn_1 rv_1 ++ [oX10 h0 (.ref q_now) (v_reader) (v_changes) (v_image) (.ref q_rows) (v_couples), oX3 q_now now_bound now_modulus now_seed now_functions (v_now_names) (.ref q_now_kinds) (.ref q_now_firsts) (.ref q_now_seconds) (v_now_degrees) (.ref q_now_colours) (.ref q_now_needs) (.ref q_now_numbers), oX7 q_rows (.ref q_rows_sieve) (.ref q_rows_powers) (.ref q_rows_rows) turn_1, aR Y q_rows_rows 4 (fun j => some (ra j)), oX8 q_rows_sieve (.ref q_sieve_least_1), aI Y q_sieve_least_1 n_sieve_least_1 sieve_least_1, aI Y q_now_needs 12 now_needs, oX4 q_rows_powers (.ref q_rows_powers_ofPrime) (.ref q_rows_powers_cells), aI Y q_rows_powers_cells 216 powers_cells_1, aI Y q_rows_powers_ofPrime 18 powers_ofPrime_1, aI Y q_now_firsts 12 now_firsts, aI Y q_now_seconds 12 now_seconds, aI Y q_now_kinds 12 now_kinds, aI Y q_now_numbers 144 now_numbers, aI Y q_now_colours 12 now_colours])) [1, 2, 3, 4, 5, 6, 7, 8, 0, 9, 10, 11, 12, 13, 14, 15, 16, 17, 18, 19, 20, 21, 22] rfl rfl ?_
          refine g_iload_n C dX10_range_47 2 rfl ?_
          refine g_iload_n C dX10_range_48 3 rfl ?_
          obtain ⟨P_5, hP, h⟩ := h
          refine g_callV (As := [.int a2, .int a3]) (rest := []) C (mX6_stretch_at l D Y ra k_1 (hkk_1) rs_1 rf_1 rm_1 rl_1 ru_1 rn_1 rv_1 a2 a3 P_5 hP) dX10_range_49 rfl wM_X10_191 wI_X6_stretch wV_X6_stretch wN_X6 wC_X6_stretch (n := 2) (by decide +kernel) rfl (q0 := (2 * k_1)) (rowsW_obj0 _ _ _ _ _ _ _ _ _ (hkk_1)) rfl ⟨Nat.le_of_ble_eq_true rfl, Nat.le_of_ble_eq_true rfl⟩ hk_1 (Nat.le_of_ble_eq_true rfl) [0, 1, 2, 3, 4, 5, 6, 7] [8, 9, 10, 11, 12, 13, 14, 15, 16, 17, 18, 19, 20, 21, 22] rfl rfl rfl (fun v wc hv => ?_)
          obtain ⟨rF_4, rfl, rfl, hq⟩ := hv
          replace h := h rF_4 hq
          refine gG.perm (ws' := (rowsW Y ra rs_1 rf_1 rm_1 rl_1 ru_1 rn_1 rv_1 ++ [oX10 h0 (.ref q_now) (v_reader) (v_changes) (v_image) (.ref q_rows) (v_couples), oX3 q_now now_bound now_modulus now_seed now_functions (v_now_names) (.ref q_now_kinds) (.ref q_now_firsts) (.ref q_now_seconds) (v_now_degrees) (.ref q_now_colours) (.ref q_now_needs) (.ref q_now_numbers), oX7 q_rows (.ref q_rows_sieve) (.ref q_rows_powers) (.ref q_rows_rows) turn_1, aR Y q_rows_rows 4 (fun j => some (ra j)), oX8 q_rows_sieve (.ref q_sieve_least_1), aI Y q_sieve_least_1 n_sieve_least_1 sieve_least_1, aI Y q_now_needs 12 now_needs, oX4 q_rows_powers (.ref q_rows_powers_ofPrime) (.ref q_rows_powers_cells), aI Y q_rows_powers_cells 216 powers_cells_1, aI Y q_rows_powers_ofPrime 18 powers_ofPrime_1, aI Y q_now_firsts 12 now_firsts, aI Y q_now_seconds 12 now_seconds, aI Y q_now_kinds 12 now_kinds, aI Y q_now_numbers 144 now_numbers, aI Y q_now_colours 12 now_colours])) [15, 16, 17, 18, 19, 20, 21, 22, 0, 1, 2, 3, 4, 5, 6, 7, 8, 9, 10, 11, 12, 13, 14] rfl rfl ?_
          exact g_iret C hR (show 0 + mcF_1 ≤ mc ∧ 0 + msF_1 ≤ ms from hk_1).1 (show 0 + mcF_1 ≤ mc ∧ 0 + msF_1 ≤ ms from hk_1).2 dX10_range_52 ⟨rF_4, rs_1, rf_1, rm_1, rl_1, ru_1, rn_1, rv_1, turn_1, q_sieve_least_1, n_sieve_least_1, sieve_least_1, powers_cells_1, powers_ofPrime_1, rfl, rfl, h⟩
        · replace h := h.2 c_4
          refine g_iconst (v := (-1)) C dX10_range_32 rfl ?_
          exact g_iret C hR (show 0 ≤ mc ∧ 0 ≤ ms from ⟨Nat.zero_le _, Nat.zero_le _⟩).1 (show 0 ≤ mc ∧ 0 ≤ ms from ⟨Nat.zero_le _, Nat.zero_le _⟩).2 dX10_range_33 ⟨(-1), rs, rf, rm, rl, ru, rn, rv, rows_turn, q_rows_sieve_least, n_rows_sieve_least, rows_sieve_least, rows_powers_cells, rows_powers_ofPrime, rfl, rfl, h⟩
theorem dX10_powerOf_0 : decode cX10_powerOf 0 = .ok (.lconst 1, 1) := by decide +kernel
theorem dX10_powerOf_1 : decode cX10_powerOf 1 = .ok (.lstore_n 3, 1) := by decide +kernel
theorem dX10_powerOf_2 : decode cX10_powerOf 2 = .ok (.iconst 0, 1) := by decide +kernel
theorem dX10_powerOf_3 : decode cX10_powerOf 3 = .ok (.istore 5, 2) := by decide +kernel
theorem dX10_powerOf_5 : decode cX10_powerOf 5 = .ok (.iload 5, 2) := by decide +kernel
theorem dX10_powerOf_7 : decode cX10_powerOf 7 = .ok (.iload_n 2, 1) := by decide +kernel
theorem dX10_powerOf_8 : decode cX10_powerOf 8 = .ok (.if_icmp .ge 22, 3) := by decide +kernel
theorem dX10_powerOf_11 : decode cX10_powerOf 11 = .ok (.aload_n 0, 1) := by decide +kernel
theorem dX10_powerOf_12 : decode cX10_powerOf 12 = .ok (.getfield 10, 3) := by decide +kernel
theorem dX10_powerOf_15 : decode cX10_powerOf 15 = .ok (.lload_n 3, 1) := by decide +kernel
theorem dX10_powerOf_16 : decode cX10_powerOf 16 = .ok (.iload_n 1, 1) := by decide +kernel
theorem dX10_powerOf_17 : decode cX10_powerOf 17 = .ok (.i2l, 1) := by decide +kernel
theorem dX10_powerOf_18 : decode cX10_powerOf 18 = .ok (.lmul, 1) := by decide +kernel
theorem dX10_powerOf_19 : decode cX10_powerOf 19 = .ok (.invokevirtual 209, 3) := by decide +kernel
theorem dX10_powerOf_22 : decode cX10_powerOf 22 = .ok (.i2l, 1) := by decide +kernel
theorem dX10_powerOf_23 : decode cX10_powerOf 23 = .ok (.lstore_n 3, 1) := by decide +kernel
theorem dX10_powerOf_24 : decode cX10_powerOf 24 = .ok (.iinc 5 1, 3) := by decide +kernel
theorem dX10_powerOf_27 : decode cX10_powerOf 27 = .ok (.goto (-22), 3) := by decide +kernel
theorem dX10_powerOf_30 : decode cX10_powerOf 30 = .ok (.aload_n 0, 1) := by decide +kernel
theorem dX10_powerOf_31 : decode cX10_powerOf 31 = .ok (.getfield 10, 3) := by decide +kernel
theorem dX10_powerOf_34 : decode cX10_powerOf 34 = .ok (.lload_n 3, 1) := by decide +kernel
theorem dX10_powerOf_35 : decode cX10_powerOf 35 = .ok (.invokevirtual 209, 3) := by decide +kernel
theorem dX10_powerOf_38 : decode cX10_powerOf 38 = .ok (.ireturn, 1) := by decide +kernel
/-- QuotientSums.powerOf(II)I -/
def wX10_powerOf (now_bound : Int32) (now_modulus : Int32) (now_seed : Int32) (now_functions : Int32) (a1 : Int32) (a2 : Int32) (Q : (Int32) → Prop) : Prop :=
  (∃ (Inv_1 : (Int64) → (Int32) → Prop) (Mea_1 : (Int64) → (Int32) → Nat), Inv_1 1 0 ∧ ∀ (x3_1 : Int64) (x5_1 : Int32), Inv_1 x3_1 x5_1 → ((a2 ≤ x5_1 → (∃ (P_1 : (Int32) → Prop), wX3_rest now_bound now_modulus now_seed now_functions x3_1 P_1 ∧ ∀ (rF_1 : Int32), P_1 rF_1 → (Q rF_1))) ∧ (¬ a2 ≤ x5_1 → (∃ (P_2 : (Int32) → Prop), wX3_rest now_bound now_modulus now_seed now_functions (x3_1 * (a1.toInt64)) P_2 ∧ ∀ (rF_2 : Int32), P_2 rF_2 → ∀ x3_2 : Int64, x3_2 = rF_2.toInt64 → (Inv_1 x3_2 (x5_1 + 1) ∧ Mea_1 x3_2 (x5_1 + 1) < Mea_1 x3_1 x5_1)))))
set_option maxHeartbeats 4000000 in
set_option maxRecDepth 100000 in
theorem mX10_powerOf (l : Launch) (D : va_G) (Y : Nat → ClassId) (h0 : Nat) (q_now : Nat) (v_reader : Value) (v_changes : Value) (v_image : Value) (v_rows : Value) (v_couples : Value) (now_bound : Int32) (now_modulus : Int32) (now_seed : Int32) (now_functions : Int32) (v_now_names : Value) (v_now_kinds : Value) (v_now_firsts : Value) (v_now_seconds : Value) (v_now_degrees : Value) (v_now_colours : Value) (v_now_needs : Value) (v_now_numbers : Value) (a1 : Int32) (a2 : Int32) (Q : (Int32) → Prop) (h : wX10_powerOf now_bound now_modulus now_seed now_functions a1 a2 Q) : gM l D Y yX10_powerOf cX10_powerOf 6 (some .int) 1 23 0 0 [.ref h0, .int a1, .int a2] [oX10 h0 (.ref q_now) (v_reader) (v_changes) (v_image) (v_rows) (v_couples), oX3 q_now now_bound now_modulus now_seed now_functions (v_now_names) (v_now_kinds) (v_now_firsts) (v_now_seconds) (v_now_degrees) (v_now_colours) (v_now_needs) (v_now_numbers)] (fun v w => ∃ r : Int32, v = some (.int r) ∧ w = [oX10 h0 (.ref q_now) (v_reader) (v_changes) (v_image) (v_rows) (v_couples), oX3 q_now now_bound now_modulus now_seed now_functions (v_now_names) (v_now_kinds) (v_now_firsts) (v_now_seconds) (v_now_degrees) (v_now_colours) (v_now_needs) (v_now_numbers)] ∧ Q r) := by
  refine gM_of (own := RX10) (by decide +kernel) rfl (Nat.le_of_ble_eq_true rfl) rfl (fun E C hR => ?_)
  unfold wX10_powerOf at h
  refine g_lconst (v := 1) C dX10_powerOf_0 rfl ?_
  refine g_lstore_n (lv' := [(3, .long 1), (0, .ref h0), (1, .int a1), (2, .int a2)]) C dX10_powerOf_1 (by decide) rfl ?_
  refine g_iconst (v := 0) C dX10_powerOf_2 rfl ?_
  refine g_istore (lv' := [(5, .int 0), (3, .long 1), (0, .ref h0), (1, .int a1), (2, .int a2)]) C dX10_powerOf_3 (by decide) rfl ?_
  obtain ⟨Inv_1, Mea_1, hI1, hB1⟩ := h
  have key_1 : ∀ (n : Nat) (x3_1 : Int64) (x5_1 : Int32) , Mea_1 x3_1 x5_1 < n → Inv_1 x3_1 x5_1 → gG E 0 0 [oX10 h0 (.ref q_now) (v_reader) (v_changes) (v_image) (v_rows) (v_couples), oX3 q_now now_bound now_modulus now_seed now_functions (v_now_names) (v_now_kinds) (v_now_firsts) (v_now_seconds) (v_now_degrees) (v_now_colours) (v_now_needs) (v_now_numbers)] [(0, .ref h0), (1, .int a1), (2, .int a2), (3, .long x3_1), (5, .int x5_1)] [] 5 := by
    intro n
    induction n with
    | zero => exact fun _ _ hm => absurd hm (Nat.not_lt_zero _)
    | succ n ih1 =>
      intro x3_1 x5_1  hm1 hI
      have h := hB1 x3_1 x5_1 hI
      refine g_iload C dX10_powerOf_5 4 rfl ?_
      refine g_iload_n C dX10_powerOf_7 2 rfl ?_
      refine g_icmp_ge (tgt := 30) C dX10_powerOf_8 (by decide) (fun c_1 => ?_) (fun c_1 => ?_)
      · replace h := h.1 c_1
        refine g_aload_n C dX10_powerOf_30 0 rfl ?_
        refine g_get C inX10 0 rfl rfl 0 (by decide) wF_X10_10 rfl dX10_powerOf_31 ?_
        refine g_lload_n C dX10_powerOf_34 3 rfl ?_
        obtain ⟨P_1, hP, h⟩ := h
        refine g_callV (As := [.long x3_1]) (rest := []) C (mX3_rest l D Y q_now now_bound now_modulus now_seed now_functions v_now_names v_now_kinds v_now_firsts v_now_seconds v_now_degrees v_now_colours v_now_needs v_now_numbers x3_1 P_1 hP) dX10_powerOf_35 rfl wM_X10_209 wI_X3_rest wV_X3_rest wN_X3 wC_X3_rest (n := 1) (by decide +kernel) rfl (q0 := 0) rfl rfl ⟨Nat.le_of_ble_eq_true rfl, Nat.le_of_ble_eq_true rfl⟩ ⟨Nat.le_of_ble_eq_true rfl, Nat.le_of_ble_eq_true rfl⟩ (Nat.le_of_ble_eq_true rfl) [1] [0] rfl rfl rfl (fun v wc hv => ?_)
        obtain ⟨rF_1, rfl, rfl, hq⟩ := hv
        replace h := h rF_1 hq
        refine gG.eqw (ws' := [oX10 h0 (.ref q_now) (v_reader) (v_changes) (v_image) (v_rows) (v_couples), oX3 q_now now_bound now_modulus now_seed now_functions (v_now_names) (v_now_kinds) (v_now_firsts) (v_now_seconds) (v_now_degrees) (v_now_colours) (v_now_needs) (v_now_numbers)]) rfl ?_
        exact g_iret C hR (Nat.le_of_ble_eq_true rfl) (Nat.le_of_ble_eq_true rfl) dX10_powerOf_38 ⟨rF_1, rfl, rfl, h⟩
      · replace h := h.2 c_1
        refine g_aload_n C dX10_powerOf_11 0 rfl ?_
        refine g_get C inX10 0 rfl rfl 0 (by decide) wF_X10_10 rfl dX10_powerOf_12 ?_
        refine g_lload_n C dX10_powerOf_15 3 rfl ?_
        refine g_iload_n C dX10_powerOf_16 1 rfl ?_
        refine g_i2l C dX10_powerOf_17 ?_
        refine g_lmul C dX10_powerOf_18 ?_
        obtain ⟨P_2, hP, h⟩ := h
        refine g_callV (As := [.long (x3_1 * (a1.toInt64))]) (rest := []) C (mX3_rest l D Y q_now now_bound now_modulus now_seed now_functions v_now_names v_now_kinds v_now_firsts v_now_seconds v_now_degrees v_now_colours v_now_needs v_now_numbers (x3_1 * (a1.toInt64)) P_2 hP) dX10_powerOf_19 rfl wM_X10_209 wI_X3_rest wV_X3_rest wN_X3 wC_X3_rest (n := 1) (by decide +kernel) rfl (q0 := 0) rfl rfl ⟨Nat.le_of_ble_eq_true rfl, Nat.le_of_ble_eq_true rfl⟩ ⟨Nat.le_of_ble_eq_true rfl, Nat.le_of_ble_eq_true rfl⟩ (Nat.le_of_ble_eq_true rfl) [1] [0] rfl rfl rfl (fun v wc hv => ?_)
        obtain ⟨rF_2, rfl, rfl, hq⟩ := hv
        replace h := h rF_2 hq
        refine gG.eqw (ws' := [oX10 h0 (.ref q_now) (v_reader) (v_changes) (v_image) (v_rows) (v_couples), oX3 q_now now_bound now_modulus now_seed now_functions (v_now_names) (v_now_kinds) (v_now_firsts) (v_now_seconds) (v_now_degrees) (v_now_colours) (v_now_needs) (v_now_numbers)]) rfl ?_
        refine g_i2l C dX10_powerOf_22 ?_
        refine g_topl (fun x3_2 ex3_2 => ?_)
        replace h := h x3_2 ex3_2
        refine g_lstore_n (lv' := [(3, .long x3_2), (0, .ref h0), (1, .int a1), (2, .int a2), (5, .int x5_1)]) C dX10_powerOf_23 (by decide) rfl ?_
        refine g_iinc (v := x5_1 + 1) (lv' := [(5, .int (x5_1 + 1)), (3, .long x3_2), (0, .ref h0), (1, .int a1), (2, .int a2)]) C dX10_powerOf_24 4 rfl rfl (by decide) rfl ?_
        refine g_goto (tgt := 5) C dX10_powerOf_27 (by decide) ?_
        refine gG.locals (lv' := [(0, .ref h0), (1, .int a1), (2, .int a2), (3, .long x3_2), (5, .int (x5_1 + 1))]) [2, 3, 4, 1, 0] rfl ?_
        exact ih1 x3_2 (x5_1 + 1) (Nat.lt_of_lt_of_le h.2 (Nat.le_of_lt_succ hm1)) h.1
  refine gG.locals (lv' := [(0, .ref h0), (1, .int a1), (2, .int a2), (3, .long 1), (5, .int 0)]) [2, 3, 4, 1, 0] rfl ?_
  exact key_1 (Mea_1 1 0 + 1) 1 0 (Nat.lt_succ_self _) hI1
theorem dX10_primes_0 : decode cX10_primes 0 = .ok (.iload_n 1, 1) := by decide +kernel
theorem dX10_primes_1 : decode cX10_primes 1 = .ok (.ifCond .lt 16, 3) := by decide +kernel
theorem dX10_primes_4 : decode cX10_primes 4 = .ok (.iload_n 1, 1) := by decide +kernel
theorem dX10_primes_5 : decode cX10_primes 5 = .ok (.iconst 3, 1) := by decide +kernel
theorem dX10_primes_6 : decode cX10_primes 6 = .ok (.if_icmp .gt 11, 3) := by decide +kernel
theorem dX10_primes_9 : decode cX10_primes 9 = .ok (.aload_n 0, 1) := by decide +kernel
theorem dX10_primes_10 : decode cX10_primes 10 = .ok (.iload_n 2, 1) := by decide +kernel
theorem dX10_primes_11 : decode cX10_primes 11 = .ok (.invokevirtual 179, 3) := by decide +kernel
theorem dX10_primes_14 : decode cX10_primes 14 = .ok (.ifCond .ne 5, 3) := by decide +kernel
theorem dX10_primes_17 : decode cX10_primes 17 = .ok (.iconst (-1), 1) := by decide +kernel
theorem dX10_primes_18 : decode cX10_primes 18 = .ok (.ireturn, 1) := by decide +kernel
theorem dX10_primes_19 : decode cX10_primes 19 = .ok (.aload_n 0, 1) := by decide +kernel
theorem dX10_primes_20 : decode cX10_primes 20 = .ok (.getfield 40, 3) := by decide +kernel
theorem dX10_primes_23 : decode cX10_primes 23 = .ok (.getfield 194, 3) := by decide +kernel
theorem dX10_primes_26 : decode cX10_primes 26 = .ok (.iload_n 2, 1) := by decide +kernel
theorem dX10_primes_27 : decode cX10_primes 27 = .ok (.invokevirtual 198, 3) := by decide +kernel
theorem dX10_primes_30 : decode cX10_primes 30 = .ok (.lconst 0, 1) := by decide +kernel
theorem dX10_primes_31 : decode cX10_primes 31 = .ok (.lstore_n 3, 1) := by decide +kernel
theorem dX10_primes_32 : decode cX10_primes 32 = .ok (.iconst 2, 1) := by decide +kernel
theorem dX10_primes_33 : decode cX10_primes 33 = .ok (.istore 5, 2) := by decide +kernel
theorem dX10_primes_35 : decode cX10_primes 35 = .ok (.iload 5, 2) := by decide +kernel
theorem dX10_primes_37 : decode cX10_primes 37 = .ok (.iload_n 2, 1) := by decide +kernel
theorem dX10_primes_38 : decode cX10_primes 38 = .ok (.if_icmp .gt 37, 3) := by decide +kernel
theorem dX10_primes_41 : decode cX10_primes 41 = .ok (.aload_n 0, 1) := by decide +kernel
theorem dX10_primes_42 : decode cX10_primes 42 = .ok (.getfield 40, 3) := by decide +kernel
theorem dX10_primes_45 : decode cX10_primes 45 = .ok (.getfield 194, 3) := by decide +kernel
theorem dX10_primes_48 : decode cX10_primes 48 = .ok (.iload 5, 2) := by decide +kernel
theorem dX10_primes_50 : decode cX10_primes 50 = .ok (.invokevirtual 203, 3) := by decide +kernel
theorem dX10_primes_53 : decode cX10_primes 53 = .ok (.iload 5, 2) := by decide +kernel
theorem dX10_primes_55 : decode cX10_primes 55 = .ok (.if_icmp .ne 14, 3) := by decide +kernel
theorem dX10_primes_58 : decode cX10_primes 58 = .ok (.lload_n 3, 1) := by decide +kernel
theorem dX10_primes_59 : decode cX10_primes 59 = .ok (.aload_n 0, 1) := by decide +kernel
theorem dX10_primes_60 : decode cX10_primes 60 = .ok (.iload 5, 2) := by decide +kernel
theorem dX10_primes_62 : decode cX10_primes 62 = .ok (.iload_n 1, 1) := by decide +kernel
theorem dX10_primes_63 : decode cX10_primes 63 = .ok (.invokevirtual 206, 3) := by decide +kernel
theorem dX10_primes_66 : decode cX10_primes 66 = .ok (.i2l, 1) := by decide +kernel
theorem dX10_primes_67 : decode cX10_primes 67 = .ok (.ladd, 1) := by decide +kernel
theorem dX10_primes_68 : decode cX10_primes 68 = .ok (.lstore_n 3, 1) := by decide +kernel
theorem dX10_primes_69 : decode cX10_primes 69 = .ok (.iinc 5 1, 3) := by decide +kernel
theorem dX10_primes_72 : decode cX10_primes 72 = .ok (.goto (-37), 3) := by decide +kernel
theorem dX10_primes_75 : decode cX10_primes 75 = .ok (.aload_n 0, 1) := by decide +kernel
theorem dX10_primes_76 : decode cX10_primes 76 = .ok (.getfield 10, 3) := by decide +kernel
theorem dX10_primes_79 : decode cX10_primes 79 = .ok (.lload_n 3, 1) := by decide +kernel
theorem dX10_primes_80 : decode cX10_primes 80 = .ok (.invokevirtual 209, 3) := by decide +kernel
theorem dX10_primes_83 : decode cX10_primes 83 = .ok (.ireturn, 1) := by decide +kernel
/-- QuotientSums.primes(II)I -/
def wX10_primes (mc ms : Nat) (now_bound : Int32) (now_modulus : Int32) (now_seed : Int32) (now_functions : Int32) (rows_turn : Int32) (n_rows_sieve_least : Nat) (rows_sieve_least : Nat → Int32) (a1 : Int32) (a2 : Int32) (Q : (Int32) → (Nat) → (Nat → Int32) → Prop) : Prop :=
  ((a1 < 0 → (Q (-1) n_rows_sieve_least rows_sieve_least)) ∧ (¬ a1 < 0 → ((3 < a1 → (Q (-1) n_rows_sieve_least rows_sieve_least)) ∧ (¬ 3 < a1 → (∃ (P_1 : (Int32) → Prop), wX10_isReach now_bound now_modulus now_seed now_functions a2 P_1 ∧ ∀ (rF_1 : Int32), P_1 rF_1 → ((¬ rF_1 = 0 → (∃ (mcF_1 msF_1 : Nat) (P_2 : (Nat) → (Nat → Int32) → Prop), (0 + mcF_1 ≤ mc ∧ 0 + msF_1 ≤ ms) ∧ wX8_reach mcF_1 msF_1 n_rows_sieve_least rows_sieve_least a2 P_2 ∧ ∀ (n_least_1 : Nat) (least_1 : Nat → Int32), P_2 n_least_1 least_1 → (∃ (Inv_1 : (Int64) → (Int32) → Prop) (Mea_1 : (Int64) → (Int32) → Nat), Inv_1 0 2 ∧ ∀ (x3_1 : Int64) (x5_1 : Int32), Inv_1 x3_1 x5_1 → ((a2 < x5_1 → (∃ (P_3 : (Int32) → Prop), wX3_rest now_bound now_modulus now_seed now_functions x3_1 P_3 ∧ ∀ (rF_2 : Int32), P_3 rF_2 → (Q rF_2 n_least_1 least_1))) ∧ (¬ a2 < x5_1 → (∃ (P_4 : (Int32) → Prop), wX8_leastPrime n_least_1 least_1 x5_1 P_4 ∧ ∀ (rF_3 : Int32), P_4 rF_3 → ((¬ rF_3 = x5_1 → (Inv_1 x3_1 (x5_1 + 1) ∧ Mea_1 x3_1 (x5_1 + 1) < Mea_1 x3_1 x5_1)) ∧ (rF_3 = x5_1 → (∃ (P_5 : (Int32) → Prop), wX10_powerOf now_bound now_modulus now_seed now_functions x5_1 a1 P_5 ∧ ∀ (rF_4 : Int32), P_5 rF_4 → ∀ x3_2 : Int64, x3_2 = x3_1 + (rF_4.toInt64) → (Inv_1 x3_2 (x5_1 + 1) ∧ Mea_1 x3_2 (x5_1 + 1) < Mea_1 x3_1 x5_1)))))))))) ∧ (rF_1 = 0 → (Q (-1) n_rows_sieve_least rows_sieve_least))))))))
set_option maxHeartbeats 4000000 in
set_option maxRecDepth 100000 in
theorem mX10_primes (l : Launch) (D : va_G) (Y : Nat → ClassId) (mc ms : Nat) (h0 : Nat) (q_now : Nat) (v_reader : Value) (v_changes : Value) (v_image : Value) (q_rows : Nat) (v_couples : Value) (now_bound : Int32) (now_modulus : Int32) (now_seed : Int32) (now_functions : Int32) (v_now_names : Value) (v_now_kinds : Value) (v_now_firsts : Value) (v_now_seconds : Value) (v_now_degrees : Value) (v_now_colours : Value) (v_now_needs : Value) (v_now_numbers : Value) (q_rows_sieve : Nat) (v_rows_powers : Value) (v_rows_rows : Value) (rows_turn : Int32) (q_rows_sieve_least : Nat) (n_rows_sieve_least : Nat) (rows_sieve_least : Nat → Int32) (a1 : Int32) (a2 : Int32) (Q : (Int32) → (Nat) → (Nat → Int32) → Prop) (h : wX10_primes mc ms now_bound now_modulus now_seed now_functions rows_turn n_rows_sieve_least rows_sieve_least a1 a2 Q) : gM l D Y yX10_primes cX10_primes 6 (some .int) 3 106 mc ms [.ref h0, .int a1, .int a2] [oX10 h0 (.ref q_now) (v_reader) (v_changes) (v_image) (.ref q_rows) (v_couples), oX3 q_now now_bound now_modulus now_seed now_functions (v_now_names) (v_now_kinds) (v_now_firsts) (v_now_seconds) (v_now_degrees) (v_now_colours) (v_now_needs) (v_now_numbers), oX7 q_rows (.ref q_rows_sieve) (v_rows_powers) (v_rows_rows) rows_turn, oX8 q_rows_sieve (.ref q_rows_sieve_least), aI Y q_rows_sieve_least n_rows_sieve_least rows_sieve_least] (fun v w => ∃ r : Int32, ∃ q_rows_sieve_least' : Nat, ∃ n_rows_sieve_least' : Nat, ∃ rows_sieve_least' : Nat → Int32, v = some (.int r) ∧ w = [oX10 h0 (.ref q_now) (v_reader) (v_changes) (v_image) (.ref q_rows) (v_couples), oX3 q_now now_bound now_modulus now_seed now_functions (v_now_names) (v_now_kinds) (v_now_firsts) (v_now_seconds) (v_now_degrees) (v_now_colours) (v_now_needs) (v_now_numbers), oX7 q_rows (.ref q_rows_sieve) (v_rows_powers) (v_rows_rows) rows_turn, oX8 q_rows_sieve (.ref q_rows_sieve_least'), aI Y q_rows_sieve_least' n_rows_sieve_least' rows_sieve_least'] ∧ Q r n_rows_sieve_least' rows_sieve_least') := by
  refine gM_of (own := RX10) (by decide +kernel) rfl (Nat.le_of_ble_eq_true rfl) rfl (fun E C hR => ?_)
  unfold wX10_primes at h
  refine g_iload_n C dX10_primes_0 1 rfl ?_
  refine g_if_lt (tgt := 17) C dX10_primes_1 (by decide) (fun c_1 => ?_) (fun c_1 => ?_)
  · replace h := h.1 c_1
    refine g_iconst (v := (-1)) C dX10_primes_17 rfl ?_
    exact g_iret C hR (show 0 ≤ mc ∧ 0 ≤ ms from ⟨Nat.zero_le _, Nat.zero_le _⟩).1 (show 0 ≤ mc ∧ 0 ≤ ms from ⟨Nat.zero_le _, Nat.zero_le _⟩).2 dX10_primes_18 ⟨(-1), q_rows_sieve_least, n_rows_sieve_least, rows_sieve_least, rfl, rfl, h⟩
  · replace h := h.2 c_1
    refine g_iload_n C dX10_primes_4 1 rfl ?_
    refine g_iconst (v := 3) C dX10_primes_5 rfl ?_
    refine g_icmp_gt (tgt := 17) C dX10_primes_6 (by decide) (fun c_2 => ?_) (fun c_2 => ?_)
    · replace h := h.1 c_2
      refine g_iconst (v := (-1)) C dX10_primes_17 rfl ?_
      exact g_iret C hR (show 0 ≤ mc ∧ 0 ≤ ms from ⟨Nat.zero_le _, Nat.zero_le _⟩).1 (show 0 ≤ mc ∧ 0 ≤ ms from ⟨Nat.zero_le _, Nat.zero_le _⟩).2 dX10_primes_18 ⟨(-1), q_rows_sieve_least, n_rows_sieve_least, rows_sieve_least, rfl, rfl, h⟩
    · replace h := h.2 c_2
      refine g_aload_n C dX10_primes_9 0 rfl ?_
      refine g_iload_n C dX10_primes_10 2 rfl ?_
      obtain ⟨P_1, hP, h⟩ := h
      refine g_callV (As := [.int a2]) (rest := []) C (mX10_isReach l D Y h0 q_now v_reader v_changes v_image (.ref q_rows) v_couples now_bound now_modulus now_seed now_functions v_now_names v_now_kinds v_now_firsts v_now_seconds v_now_degrees v_now_colours v_now_needs v_now_numbers a2 P_1 hP) dX10_primes_11 rfl wM_X10_179 wI_X10_isReach wV_X10_isReach wN_X10 wC_X10_isReach (n := 1) (by decide +kernel) rfl (q0 := 0) rfl rfl ⟨Nat.le_of_ble_eq_true rfl, Nat.le_of_ble_eq_true rfl⟩ ⟨Nat.zero_le _, Nat.zero_le _⟩ (Nat.le_of_ble_eq_true rfl) [0, 1] [2, 3, 4] rfl rfl rfl (fun v wc hv => ?_)
      obtain ⟨rF_1, rfl, rfl, hq⟩ := hv
      replace h := h rF_1 hq
      refine gG.perm (ws' := [oX10 h0 (.ref q_now) (v_reader) (v_changes) (v_image) (.ref q_rows) (v_couples), oX3 q_now now_bound now_modulus now_seed now_functions (v_now_names) (v_now_kinds) (v_now_firsts) (v_now_seconds) (v_now_degrees) (v_now_colours) (v_now_needs) (v_now_numbers), oX7 q_rows (.ref q_rows_sieve) (v_rows_powers) (v_rows_rows) rows_turn, oX8 q_rows_sieve (.ref q_rows_sieve_least), aI Y q_rows_sieve_least n_rows_sieve_least rows_sieve_least]) [3, 4, 0, 1, 2] rfl rfl ?_
      refine g_if_ne (tgt := 19) C dX10_primes_14 (by decide) (fun c_3 => ?_) (fun c_3 => ?_)
      · replace h := h.1 c_3
        refine g_aload_n C dX10_primes_19 0 rfl ?_
        refine g_get C inX10 0 rfl rfl 4 (by decide) wF_X10_40 rfl dX10_primes_20 ?_
        refine g_get C inX7 2 rfl rfl 0 (by decide) wF_X10_194 rfl dX10_primes_23 ?_
        refine g_iload_n C dX10_primes_26 2 rfl ?_
        obtain ⟨mcF_1, msF_1, P_2, hk_1, hP, h⟩ := h
        refine g_callV (As := [.int a2]) (rest := []) C (mX8_reach l D Y mcF_1 msF_1 q_rows_sieve q_rows_sieve_least n_rows_sieve_least rows_sieve_least a2 P_2 hP) dX10_primes_27 rfl wM_X10_198 wI_X8_reach wV_X8_reach wN_X8 wC_X8_reach (n := 1) (by decide +kernel) rfl (q0 := 0) rfl rfl ⟨Nat.le_of_ble_eq_true rfl, Nat.le_of_ble_eq_true rfl⟩ hk_1 (Nat.le_of_ble_eq_true rfl) [3, 4] [0, 1, 2] rfl rfl rfl (fun v wc hv => ?_)
        obtain ⟨q_least_1, n_least_1, least_1, rfl, rfl, hq⟩ := hv
        replace h := h n_least_1 least_1 hq
        refine gG.eqw (ws' := [oX10 h0 (.ref q_now) (v_reader) (v_changes) (v_image) (.ref q_rows) (v_couples), oX3 q_now now_bound now_modulus now_seed now_functions (v_now_names) (v_now_kinds) (v_now_firsts) (v_now_seconds) (v_now_degrees) (v_now_colours) (v_now_needs) (v_now_numbers), oX7 q_rows (.ref q_rows_sieve) (v_rows_powers) (v_rows_rows) rows_turn, oX8 q_rows_sieve (.ref q_least_1), aI Y q_least_1 n_least_1 least_1]) rfl ?_
        refine g_lconst (v := 0) C dX10_primes_30 rfl ?_
        refine g_lstore_n (lv' := [(3, .long 0), (0, .ref h0), (1, .int a1), (2, .int a2)]) C dX10_primes_31 (by decide) rfl ?_
        refine g_iconst (v := 2) C dX10_primes_32 rfl ?_
        refine g_istore (lv' := [(5, .int 2), (3, .long 0), (0, .ref h0), (1, .int a1), (2, .int a2)]) C dX10_primes_33 (by decide) rfl ?_
        obtain ⟨Inv_1, Mea_1, hI1, hB1⟩ := h
        have key_1 : ∀ (n : Nat) (x3_1 : Int64) (x5_1 : Int32) , Mea_1 x3_1 x5_1 < n → Inv_1 x3_1 x5_1 → gG E (0 + mcF_1) (0 + msF_1) [oX10 h0 (.ref q_now) (v_reader) (v_changes) (v_image) (.ref q_rows) (v_couples), oX3 q_now now_bound now_modulus now_seed now_functions (v_now_names) (v_now_kinds) (v_now_firsts) (v_now_seconds) (v_now_degrees) (v_now_colours) (v_now_needs) (v_now_numbers), oX7 q_rows (.ref q_rows_sieve) (v_rows_powers) (v_rows_rows) rows_turn, oX8 q_rows_sieve (.ref q_least_1), aI Y q_least_1 n_least_1 least_1] [(0, .ref h0), (1, .int a1), (2, .int a2), (3, .long x3_1), (5, .int x5_1)] [] 35 := by
          intro n
          induction n with
          | zero => exact fun _ _ hm => absurd hm (Nat.not_lt_zero _)
          | succ n ih1 =>
            intro x3_1 x5_1  hm1 hI
            have h := hB1 x3_1 x5_1 hI
            refine g_iload C dX10_primes_35 4 rfl ?_
            refine g_iload_n C dX10_primes_37 2 rfl ?_
            refine g_icmp_gt (tgt := 75) C dX10_primes_38 (by decide) (fun c_4 => ?_) (fun c_4 => ?_)
            · replace h := h.1 c_4
              refine g_aload_n C dX10_primes_75 0 rfl ?_
              refine g_get C inX10 0 rfl rfl 0 (by decide) wF_X10_10 rfl dX10_primes_76 ?_
              refine g_lload_n C dX10_primes_79 3 rfl ?_
              obtain ⟨P_3, hP, h⟩ := h
              refine g_callV (As := [.long x3_1]) (rest := []) C (mX3_rest l D Y q_now now_bound now_modulus now_seed now_functions v_now_names v_now_kinds v_now_firsts v_now_seconds v_now_degrees v_now_colours v_now_needs v_now_numbers x3_1 P_3 hP) dX10_primes_80 rfl wM_X10_209 wI_X3_rest wV_X3_rest wN_X3 wC_X3_rest (n := 1) (by decide +kernel) rfl (q0 := 0) rfl rfl ⟨Nat.le_of_ble_eq_true rfl, Nat.le_of_ble_eq_true rfl⟩ hk_1 (Nat.le_of_ble_eq_true rfl) [1] [0, 2, 3, 4] rfl rfl rfl (fun v wc hv => ?_)
              obtain ⟨rF_2, rfl, rfl, hq⟩ := hv
              replace h := h rF_2 hq
              refine gG.perm (ws' := [oX10 h0 (.ref q_now) (v_reader) (v_changes) (v_image) (.ref q_rows) (v_couples), oX3 q_now now_bound now_modulus now_seed now_functions (v_now_names) (v_now_kinds) (v_now_firsts) (v_now_seconds) (v_now_degrees) (v_now_colours) (v_now_needs) (v_now_numbers), oX7 q_rows (.ref q_rows_sieve) (v_rows_powers) (v_rows_rows) rows_turn, oX8 q_rows_sieve (.ref q_least_1), aI Y q_least_1 n_least_1 least_1]) [0, 4, 1, 2, 3] rfl rfl ?_
              exact g_iret C hR (show 0 + mcF_1 ≤ mc ∧ 0 + msF_1 ≤ ms from hk_1).1 (show 0 + mcF_1 ≤ mc ∧ 0 + msF_1 ≤ ms from hk_1).2 dX10_primes_83 ⟨rF_2, q_least_1, n_least_1, least_1, rfl, rfl, h⟩
            · replace h := h.2 c_4
              refine g_aload_n C dX10_primes_41 0 rfl ?_
              refine g_get C inX10 0 rfl rfl 4 (by decide) wF_X10_40 rfl dX10_primes_42 ?_
              refine g_get C inX7 2 rfl rfl 0 (by decide) wF_X10_194 rfl dX10_primes_45 ?_
              refine g_iload C dX10_primes_48 4 rfl ?_
              obtain ⟨P_4, hP, h⟩ := h
              refine g_callV (As := [.int x5_1]) (rest := []) C (mX8_leastPrime l D Y q_rows_sieve q_least_1 n_least_1 least_1 x5_1 P_4 hP) dX10_primes_50 rfl wM_X10_203 wI_X8_leastPrime wV_X8_leastPrime wN_X8 wC_X8_leastPrime (n := 1) (by decide +kernel) rfl (q0 := 0) rfl rfl ⟨Nat.le_of_ble_eq_true rfl, Nat.le_of_ble_eq_true rfl⟩ hk_1 (Nat.le_of_ble_eq_true rfl) [3, 4] [0, 1, 2] rfl rfl rfl (fun v wc hv => ?_)
              obtain ⟨rF_3, rfl, rfl, hq⟩ := hv
              replace h := h rF_3 hq
              refine gG.eqw (ws' := [oX10 h0 (.ref q_now) (v_reader) (v_changes) (v_image) (.ref q_rows) (v_couples), oX3 q_now now_bound now_modulus now_seed now_functions (v_now_names) (v_now_kinds) (v_now_firsts) (v_now_seconds) (v_now_degrees) (v_now_colours) (v_now_needs) (v_now_numbers), oX7 q_rows (.ref q_rows_sieve) (v_rows_powers) (v_rows_rows) rows_turn, oX8 q_rows_sieve (.ref q_least_1), aI Y q_least_1 n_least_1 least_1]) rfl ?_
              refine g_iload C dX10_primes_53 4 rfl ?_
              refine g_icmp_ne (tgt := 69) C dX10_primes_55 (by decide) (fun c_5 => ?_) (fun c_5 => ?_)
              · replace h := h.1 c_5
                refine g_iinc (v := x5_1 + 1) (lv' := [(5, .int (x5_1 + 1)), (0, .ref h0), (1, .int a1), (2, .int a2), (3, .long x3_1)]) C dX10_primes_69 4 rfl rfl (by decide) rfl ?_
                refine g_goto (tgt := 35) C dX10_primes_72 (by decide) ?_
                refine gG.locals (lv' := [(0, .ref h0), (1, .int a1), (2, .int a2), (3, .long x3_1), (5, .int (x5_1 + 1))]) [1, 2, 3, 4, 0] rfl ?_
                exact ih1 x3_1 (x5_1 + 1) (Nat.lt_of_lt_of_le h.2 (Nat.le_of_lt_succ hm1)) h.1
              · replace h := h.2 c_5
                refine g_lload_n C dX10_primes_58 3 rfl ?_
                refine g_aload_n C dX10_primes_59 0 rfl ?_
                refine g_iload C dX10_primes_60 4 rfl ?_
                refine g_iload_n C dX10_primes_62 1 rfl ?_
                obtain ⟨P_5, hP, h⟩ := h
                refine g_callV (As := [.int x5_1, .int a1]) (rest := [.long x3_1]) C (mX10_powerOf l D Y h0 q_now v_reader v_changes v_image (.ref q_rows) v_couples now_bound now_modulus now_seed now_functions v_now_names v_now_kinds v_now_firsts v_now_seconds v_now_degrees v_now_colours v_now_needs v_now_numbers x5_1 a1 P_5 hP) dX10_primes_63 rfl wM_X10_206 wI_X10_powerOf wV_X10_powerOf wN_X10 wC_X10_powerOf (n := 2) (by decide +kernel) rfl (q0 := 0) rfl rfl ⟨Nat.le_of_ble_eq_true rfl, Nat.le_of_ble_eq_true rfl⟩ hk_1 (Nat.le_of_ble_eq_true rfl) [0, 1] [2, 3, 4] rfl rfl rfl (fun v wc hv => ?_)
                obtain ⟨rF_4, rfl, rfl, hq⟩ := hv
                replace h := h rF_4 hq
                refine gG.perm (ws' := [oX10 h0 (.ref q_now) (v_reader) (v_changes) (v_image) (.ref q_rows) (v_couples), oX3 q_now now_bound now_modulus now_seed now_functions (v_now_names) (v_now_kinds) (v_now_firsts) (v_now_seconds) (v_now_degrees) (v_now_colours) (v_now_needs) (v_now_numbers), oX7 q_rows (.ref q_rows_sieve) (v_rows_powers) (v_rows_rows) rows_turn, oX8 q_rows_sieve (.ref q_least_1), aI Y q_least_1 n_least_1 least_1]) [3, 4, 0, 1, 2] rfl rfl ?_
                refine g_i2l C dX10_primes_66 ?_
                refine g_ladd C dX10_primes_67 ?_
                refine g_topl (fun x3_2 ex3_2 => ?_)
                replace h := h x3_2 ex3_2
                refine g_lstore_n (lv' := [(3, .long x3_2), (0, .ref h0), (1, .int a1), (2, .int a2), (5, .int x5_1)]) C dX10_primes_68 (by decide) rfl ?_
                refine g_iinc (v := x5_1 + 1) (lv' := [(5, .int (x5_1 + 1)), (3, .long x3_2), (0, .ref h0), (1, .int a1), (2, .int a2)]) C dX10_primes_69 4 rfl rfl (by decide) rfl ?_
                refine g_goto (tgt := 35) C dX10_primes_72 (by decide) ?_
                refine gG.locals (lv' := [(0, .ref h0), (1, .int a1), (2, .int a2), (3, .long x3_2), (5, .int (x5_1 + 1))]) [2, 3, 4, 1, 0] rfl ?_
                exact ih1 x3_2 (x5_1 + 1) (Nat.lt_of_lt_of_le h.2 (Nat.le_of_lt_succ hm1)) h.1
        refine gG.locals (lv' := [(0, .ref h0), (1, .int a1), (2, .int a2), (3, .long 0), (5, .int 2)]) [2, 3, 4, 1, 0] rfl ?_
        exact key_1 (Mea_1 0 2 + 1) 0 2 (Nat.lt_succ_self _) hI1
      · replace h := h.2 c_3
        refine g_iconst (v := (-1)) C dX10_primes_17 rfl ?_
        exact g_iret C hR (show 0 ≤ mc ∧ 0 ≤ ms from ⟨Nat.zero_le _, Nat.zero_le _⟩).1 (show 0 ≤ mc ∧ 0 ≤ ms from ⟨Nat.zero_le _, Nat.zero_le _⟩).2 dX10_primes_18 ⟨(-1), q_rows_sieve_least, n_rows_sieve_least, rows_sieve_least, rfl, rfl, h⟩
theorem dX10_quotientTotal_0 : decode cX10_quotientTotal 0 = .ok (.iload_n 0, 1) := by decide +kernel
theorem dX10_quotientTotal_1 : decode cX10_quotientTotal 1 = .ok (.invokestatic 222, 3) := by decide +kernel
theorem dX10_quotientTotal_4 : decode cX10_quotientTotal 4 = .ok (.istore_n 1, 1) := by decide +kernel
theorem dX10_quotientTotal_5 : decode cX10_quotientTotal 5 = .ok (.iload_n 0, 1) := by decide +kernel
theorem dX10_quotientTotal_6 : decode cX10_quotientTotal 6 = .ok (.iload_n 1, 1) := by decide +kernel
theorem dX10_quotientTotal_7 : decode cX10_quotientTotal 7 = .ok (.invokestatic 219, 3) := by decide +kernel
theorem dX10_quotientTotal_10 : decode cX10_quotientTotal 10 = .ok (.iload_n 1, 1) := by decide +kernel
theorem dX10_quotientTotal_11 : decode cX10_quotientTotal 11 = .ok (.if_icmp .ne 11, 3) := by decide +kernel
theorem dX10_quotientTotal_14 : decode cX10_quotientTotal 14 = .ok (.iconst 2, 1) := by decide +kernel
theorem dX10_quotientTotal_15 : decode cX10_quotientTotal 15 = .ok (.iload_n 1, 1) := by decide +kernel
theorem dX10_quotientTotal_16 : decode cX10_quotientTotal 16 = .ok (.imul, 1) := by decide +kernel
theorem dX10_quotientTotal_17 : decode cX10_quotientTotal 17 = .ok (.iconst 1, 1) := by decide +kernel
theorem dX10_quotientTotal_18 : decode cX10_quotientTotal 18 = .ok (.isub, 1) := by decide +kernel
theorem dX10_quotientTotal_19 : decode cX10_quotientTotal 19 = .ok (.goto 6, 3) := by decide +kernel
theorem dX10_quotientTotal_22 : decode cX10_quotientTotal 22 = .ok (.iconst 2, 1) := by decide +kernel
theorem dX10_quotientTotal_23 : decode cX10_quotientTotal 23 = .ok (.iload_n 1, 1) := by decide +kernel
theorem dX10_quotientTotal_24 : decode cX10_quotientTotal 24 = .ok (.imul, 1) := by decide +kernel
theorem dX10_quotientTotal_25 : decode cX10_quotientTotal 25 = .ok (.ireturn, 1) := by decide +kernel
/-- QuotientSums.quotientTotal(I)I -/
def wX10_quotientTotal  (a1 : Int32) (Q : (Int32) → Prop) : Prop :=
  (∃ (P_1 : (Int32) → Prop), wX10_rootOf a1 P_1 ∧ ∀ (rF_1 : Int32), P_1 rF_1 → ∃ (P_2 : (Int32) → Prop), wX10_divided a1 rF_1 P_2 ∧ ∀ (rF_2 : Int32), P_2 rF_2 → ((¬ rF_2 = rF_1 → (Q (2 * rF_1))) ∧ (rF_2 = rF_1 → (Q ((2 * rF_1) - 1)))))
set_option maxHeartbeats 4000000 in
set_option maxRecDepth 100000 in
theorem mX10_quotientTotal (l : Launch) (D : va_G) (Y : Nat → ClassId)   (a1 : Int32) (Q : (Int32) → Prop) (h : wX10_quotientTotal a1 Q) : gM l D Y yX10_quotientTotal cX10_quotientTotal 2 (some .int) 1 23 0 0 [.int a1] [] (fun v w => ∃ r : Int32, v = some (.int r) ∧ w = [] ∧ Q r) := by
  refine gM_of (own := RX10) (by decide +kernel) rfl (Nat.le_of_ble_eq_true rfl) rfl (fun E C hR => ?_)
  unfold wX10_quotientTotal at h
  refine g_iload_n C dX10_quotientTotal_0 0 rfl ?_
  obtain ⟨P_1, hP, h⟩ := h
  refine g_callS (As := [.int a1]) (rest := []) C (mX10_rootOf l D Y a1 P_1 hP) dX10_quotientTotal_1 rfl wM_X10_222 wS_X10_rootOf wN_X10 wC_X10_rootOf (n := 1) (by decide +kernel) rfl ⟨Nat.le_of_ble_eq_true rfl, Nat.le_of_ble_eq_true rfl⟩ ⟨Nat.le_of_ble_eq_true rfl, Nat.le_of_ble_eq_true rfl⟩ (Nat.le_of_ble_eq_true rfl) [] [] rfl rfl rfl (fun v wc hv => ?_)
  obtain ⟨rF_1, rfl, rfl, hq⟩ := hv
  replace h := h rF_1 hq
  refine gG.eqw (ws' := []) rfl ?_
  refine g_istore_n (lv' := [(1, .int rF_1), (0, .int a1)]) C dX10_quotientTotal_4 (by decide) rfl ?_
  refine g_iload_n C dX10_quotientTotal_5 1 rfl ?_
  refine g_iload_n C dX10_quotientTotal_6 0 rfl ?_
  obtain ⟨P_2, hP, h⟩ := h
  refine g_callS (As := [.int a1, .int rF_1]) (rest := []) C (mX10_divided l D Y a1 rF_1 P_2 hP) dX10_quotientTotal_7 rfl wM_X10_219 wS_X10_divided wN_X10 wC_X10_divided (n := 2) (by decide +kernel) rfl ⟨Nat.le_of_ble_eq_true rfl, Nat.le_of_ble_eq_true rfl⟩ ⟨Nat.le_of_ble_eq_true rfl, Nat.le_of_ble_eq_true rfl⟩ (Nat.le_of_ble_eq_true rfl) [] [] rfl rfl rfl (fun v wc hv => ?_)
  obtain ⟨rF_2, rfl, rfl, hq⟩ := hv
  replace h := h rF_2 hq
  refine gG.eqw (ws' := []) rfl ?_
  refine g_iload_n C dX10_quotientTotal_10 0 rfl ?_
  refine g_icmp_ne (tgt := 22) C dX10_quotientTotal_11 (by decide) (fun c_1 => ?_) (fun c_1 => ?_)
  · replace h := h.1 c_1
    refine g_iconst (v := 2) C dX10_quotientTotal_22 rfl ?_
    refine g_iload_n C dX10_quotientTotal_23 0 rfl ?_
    refine g_imul C dX10_quotientTotal_24 ?_
    exact g_iret C hR (Nat.le_of_ble_eq_true rfl) (Nat.le_of_ble_eq_true rfl) dX10_quotientTotal_25 ⟨2 * rF_1, rfl, rfl, h⟩
  · replace h := h.2 c_1
    refine g_iconst (v := 2) C dX10_quotientTotal_14 rfl ?_
    refine g_iload_n C dX10_quotientTotal_15 0 rfl ?_
    refine g_imul C dX10_quotientTotal_16 ?_
    refine g_iconst (v := 1) C dX10_quotientTotal_17 rfl ?_
    refine g_isub C dX10_quotientTotal_18 ?_
    refine g_goto (tgt := 25) C dX10_quotientTotal_19 (by decide) ?_
    exact g_iret C hR (Nat.le_of_ble_eq_true rfl) (Nat.le_of_ble_eq_true rfl) dX10_quotientTotal_25 ⟨(2 * rF_1) - 1, rfl, rfl, h⟩
theorem dX10_quotients_0 : decode cX10_quotients 0 = .ok (.aload_n 0, 1) := by decide +kernel
theorem dX10_quotients_1 : decode cX10_quotients 1 = .ok (.iload_n 1, 1) := by decide +kernel
theorem dX10_quotients_2 : decode cX10_quotients 2 = .ok (.invokevirtual 161, 3) := by decide +kernel
theorem dX10_quotients_5 : decode cX10_quotients 5 = .ok (.ifCond .eq 10, 3) := by decide +kernel
theorem dX10_quotients_8 : decode cX10_quotients 8 = .ok (.iload_n 1, 1) := by decide +kernel
theorem dX10_quotients_9 : decode cX10_quotients 9 = .ok (.invokestatic 213, 3) := by decide +kernel
theorem dX10_quotients_12 : decode cX10_quotients 12 = .ok (.goto 4, 3) := by decide +kernel
theorem dX10_quotients_15 : decode cX10_quotients 15 = .ok (.iconst (-1), 1) := by decide +kernel
theorem dX10_quotients_16 : decode cX10_quotients 16 = .ok (.ireturn, 1) := by decide +kernel
/-- QuotientSums.quotients(I)I -/
def wX10_quotients (now_bound : Int32) (now_modulus : Int32) (now_seed : Int32) (now_functions : Int32) (a1 : Int32) (Q : (Int32) → Prop) : Prop :=
  (∃ (P_1 : (Int32) → Prop), wX10_isPlace now_bound now_modulus now_seed now_functions a1 P_1 ∧ ∀ (rF_1 : Int32), P_1 rF_1 → ((rF_1 = 0 → (Q (-1))) ∧ (¬ rF_1 = 0 → (∃ (P_2 : (Int32) → Prop), wX10_quotientTotal a1 P_2 ∧ ∀ (rF_2 : Int32), P_2 rF_2 → (Q rF_2)))))
set_option maxHeartbeats 4000000 in
set_option maxRecDepth 100000 in
theorem mX10_quotients (l : Launch) (D : va_G) (Y : Nat → ClassId) (h0 : Nat) (q_now : Nat) (v_reader : Value) (v_changes : Value) (v_image : Value) (v_rows : Value) (v_couples : Value) (now_bound : Int32) (now_modulus : Int32) (now_seed : Int32) (now_functions : Int32) (v_now_names : Value) (v_now_kinds : Value) (v_now_firsts : Value) (v_now_seconds : Value) (v_now_degrees : Value) (v_now_colours : Value) (v_now_needs : Value) (v_now_numbers : Value) (a1 : Int32) (Q : (Int32) → Prop) (h : wX10_quotients now_bound now_modulus now_seed now_functions a1 Q) : gM l D Y yX10_quotients cX10_quotients 2 (some .int) 2 44 0 0 [.ref h0, .int a1] [oX10 h0 (.ref q_now) (v_reader) (v_changes) (v_image) (v_rows) (v_couples), oX3 q_now now_bound now_modulus now_seed now_functions (v_now_names) (v_now_kinds) (v_now_firsts) (v_now_seconds) (v_now_degrees) (v_now_colours) (v_now_needs) (v_now_numbers)] (fun v w => ∃ r : Int32, v = some (.int r) ∧ w = [oX10 h0 (.ref q_now) (v_reader) (v_changes) (v_image) (v_rows) (v_couples), oX3 q_now now_bound now_modulus now_seed now_functions (v_now_names) (v_now_kinds) (v_now_firsts) (v_now_seconds) (v_now_degrees) (v_now_colours) (v_now_needs) (v_now_numbers)] ∧ Q r) := by
  refine gM_of (own := RX10) (by decide +kernel) rfl (Nat.le_of_ble_eq_true rfl) rfl (fun E C hR => ?_)
  unfold wX10_quotients at h
  refine g_aload_n C dX10_quotients_0 0 rfl ?_
  refine g_iload_n C dX10_quotients_1 1 rfl ?_
  obtain ⟨P_1, hP, h⟩ := h
  refine g_callV (As := [.int a1]) (rest := []) C (mX10_isPlace l D Y h0 q_now v_reader v_changes v_image v_rows v_couples now_bound now_modulus now_seed now_functions v_now_names v_now_kinds v_now_firsts v_now_seconds v_now_degrees v_now_colours v_now_needs v_now_numbers a1 P_1 hP) dX10_quotients_2 rfl wM_X10_161 wI_X10_isPlace wV_X10_isPlace wN_X10 wC_X10_isPlace (n := 1) (by decide +kernel) rfl (q0 := 0) rfl rfl ⟨Nat.le_of_ble_eq_true rfl, Nat.le_of_ble_eq_true rfl⟩ ⟨Nat.le_of_ble_eq_true rfl, Nat.le_of_ble_eq_true rfl⟩ (Nat.le_of_ble_eq_true rfl) [0, 1] [] rfl rfl rfl (fun v wc hv => ?_)
  obtain ⟨rF_1, rfl, rfl, hq⟩ := hv
  replace h := h rF_1 hq
  refine gG.eqw (ws' := [oX10 h0 (.ref q_now) (v_reader) (v_changes) (v_image) (v_rows) (v_couples), oX3 q_now now_bound now_modulus now_seed now_functions (v_now_names) (v_now_kinds) (v_now_firsts) (v_now_seconds) (v_now_degrees) (v_now_colours) (v_now_needs) (v_now_numbers)]) rfl ?_
  refine g_if_eq (tgt := 15) C dX10_quotients_5 (by decide) (fun c_1 => ?_) (fun c_1 => ?_)
  · replace h := h.1 c_1
    refine g_iconst (v := (-1)) C dX10_quotients_15 rfl ?_
    exact g_iret C hR (Nat.le_of_ble_eq_true rfl) (Nat.le_of_ble_eq_true rfl) dX10_quotients_16 ⟨(-1), rfl, rfl, h⟩
  · replace h := h.2 c_1
    refine g_iload_n C dX10_quotients_8 1 rfl ?_
    obtain ⟨P_2, hP, h⟩ := h
    refine g_callS (As := [.int a1]) (rest := []) C (mX10_quotientTotal l D Y a1 P_2 hP) dX10_quotients_9 rfl wM_X10_213 wS_X10_quotientTotal wN_X10 wC_X10_quotientTotal (n := 1) (by decide +kernel) rfl ⟨Nat.le_of_ble_eq_true rfl, Nat.le_of_ble_eq_true rfl⟩ ⟨Nat.le_of_ble_eq_true rfl, Nat.le_of_ble_eq_true rfl⟩ (Nat.le_of_ble_eq_true rfl) [] [0, 1] rfl rfl rfl (fun v wc hv => ?_)
    obtain ⟨rF_2, rfl, rfl, hq⟩ := hv
    replace h := h rF_2 hq
    refine gG.eqw (ws' := [oX10 h0 (.ref q_now) (v_reader) (v_changes) (v_image) (v_rows) (v_couples), oX3 q_now now_bound now_modulus now_seed now_functions (v_now_names) (v_now_kinds) (v_now_firsts) (v_now_seconds) (v_now_degrees) (v_now_colours) (v_now_needs) (v_now_numbers)]) rfl ?_
    refine g_goto (tgt := 16) C dX10_quotients_12 (by decide) ?_
    exact g_iret C hR (Nat.le_of_ble_eq_true rfl) (Nat.le_of_ble_eq_true rfl) dX10_quotients_16 ⟨rF_2, rfl, rfl, h⟩
theorem dX10_quotientAt_0 : decode cX10_quotientAt 0 = .ok (.iload_n 1, 1) := by decide +kernel
theorem dX10_quotientAt_1 : decode cX10_quotientAt 1 = .ok (.iload_n 0, 1) := by decide +kernel
theorem dX10_quotientAt_2 : decode cX10_quotientAt 2 = .ok (.invokestatic 222, 3) := by decide +kernel
theorem dX10_quotientAt_5 : decode cX10_quotientAt 5 = .ok (.if_icmp .ge 13, 3) := by decide +kernel
theorem dX10_quotientAt_8 : decode cX10_quotientAt 8 = .ok (.iload_n 0, 1) := by decide +kernel
theorem dX10_quotientAt_9 : decode cX10_quotientAt 9 = .ok (.iload_n 1, 1) := by decide +kernel
theorem dX10_quotientAt_10 : decode cX10_quotientAt 10 = .ok (.iconst 1, 1) := by decide +kernel
theorem dX10_quotientAt_11 : decode cX10_quotientAt 11 = .ok (.iadd, 1) := by decide +kernel
theorem dX10_quotientAt_12 : decode cX10_quotientAt 12 = .ok (.invokestatic 219, 3) := by decide +kernel
theorem dX10_quotientAt_15 : decode cX10_quotientAt 15 = .ok (.goto 9, 3) := by decide +kernel
theorem dX10_quotientAt_18 : decode cX10_quotientAt 18 = .ok (.iload_n 0, 1) := by decide +kernel
theorem dX10_quotientAt_19 : decode cX10_quotientAt 19 = .ok (.invokestatic 213, 3) := by decide +kernel
theorem dX10_quotientAt_22 : decode cX10_quotientAt 22 = .ok (.iload_n 1, 1) := by decide +kernel
theorem dX10_quotientAt_23 : decode cX10_quotientAt 23 = .ok (.isub, 1) := by decide +kernel
theorem dX10_quotientAt_24 : decode cX10_quotientAt 24 = .ok (.ireturn, 1) := by decide +kernel
/-- QuotientSums.quotientAt(II)I -/
def wX10_quotientAt  (a1 : Int32) (a2 : Int32) (Q : (Int32) → Prop) : Prop :=
  (∃ (P_1 : (Int32) → Prop), wX10_rootOf a1 P_1 ∧ ∀ (rF_1 : Int32), P_1 rF_1 → ((rF_1 ≤ a2 → (∃ (P_2 : (Int32) → Prop), wX10_quotientTotal a1 P_2 ∧ ∀ (rF_2 : Int32), P_2 rF_2 → (Q (rF_2 - a2)))) ∧ (¬ rF_1 ≤ a2 → (∃ (P_3 : (Int32) → Prop), wX10_divided a1 (a2 + 1) P_3 ∧ ∀ (rF_3 : Int32), P_3 rF_3 → (Q rF_3)))))
set_option maxHeartbeats 4000000 in
set_option maxRecDepth 100000 in
theorem mX10_quotientAt (l : Launch) (D : va_G) (Y : Nat → ClassId)   (a1 : Int32) (a2 : Int32) (Q : (Int32) → Prop) (h : wX10_quotientAt a1 a2 Q) : gM l D Y yX10_quotientAt cX10_quotientAt 2 (some .int) 2 44 0 0 [.int a1, .int a2] [] (fun v w => ∃ r : Int32, v = some (.int r) ∧ w = [] ∧ Q r) := by
  refine gM_of (own := RX10) (by decide +kernel) rfl (Nat.le_of_ble_eq_true rfl) rfl (fun E C hR => ?_)
  unfold wX10_quotientAt at h
  refine g_iload_n C dX10_quotientAt_0 1 rfl ?_
  refine g_iload_n C dX10_quotientAt_1 0 rfl ?_
  obtain ⟨P_1, hP, h⟩ := h
  refine g_callS (As := [.int a1]) (rest := [.int a2]) C (mX10_rootOf l D Y a1 P_1 hP) dX10_quotientAt_2 rfl wM_X10_222 wS_X10_rootOf wN_X10 wC_X10_rootOf (n := 1) (by decide +kernel) rfl ⟨Nat.le_of_ble_eq_true rfl, Nat.le_of_ble_eq_true rfl⟩ ⟨Nat.le_of_ble_eq_true rfl, Nat.le_of_ble_eq_true rfl⟩ (Nat.le_of_ble_eq_true rfl) [] [] rfl rfl rfl (fun v wc hv => ?_)
  obtain ⟨rF_1, rfl, rfl, hq⟩ := hv
  replace h := h rF_1 hq
  refine gG.eqw (ws' := []) rfl ?_
  refine g_icmp_ge (tgt := 18) C dX10_quotientAt_5 (by decide) (fun c_1 => ?_) (fun c_1 => ?_)
  · replace h := h.1 c_1
    refine g_iload_n C dX10_quotientAt_18 0 rfl ?_
    obtain ⟨P_2, hP, h⟩ := h
    refine g_callS (As := [.int a1]) (rest := []) C (mX10_quotientTotal l D Y a1 P_2 hP) dX10_quotientAt_19 rfl wM_X10_213 wS_X10_quotientTotal wN_X10 wC_X10_quotientTotal (n := 1) (by decide +kernel) rfl ⟨Nat.le_of_ble_eq_true rfl, Nat.le_of_ble_eq_true rfl⟩ ⟨Nat.le_of_ble_eq_true rfl, Nat.le_of_ble_eq_true rfl⟩ (Nat.le_of_ble_eq_true rfl) [] [] rfl rfl rfl (fun v wc hv => ?_)
    obtain ⟨rF_2, rfl, rfl, hq⟩ := hv
    replace h := h rF_2 hq
    refine gG.eqw (ws' := []) rfl ?_
    refine g_iload_n C dX10_quotientAt_22 1 rfl ?_
    refine g_isub C dX10_quotientAt_23 ?_
    exact g_iret C hR (Nat.le_of_ble_eq_true rfl) (Nat.le_of_ble_eq_true rfl) dX10_quotientAt_24 ⟨rF_2 - a2, rfl, rfl, h⟩
  · replace h := h.2 c_1
    refine g_iload_n C dX10_quotientAt_8 0 rfl ?_
    refine g_iload_n C dX10_quotientAt_9 1 rfl ?_
    refine g_iconst (v := 1) C dX10_quotientAt_10 rfl ?_
    refine g_iadd C dX10_quotientAt_11 ?_
    obtain ⟨P_3, hP, h⟩ := h
    refine g_callS (As := [.int a1, .int (a2 + 1)]) (rest := []) C (mX10_divided l D Y a1 (a2 + 1) P_3 hP) dX10_quotientAt_12 rfl wM_X10_219 wS_X10_divided wN_X10 wC_X10_divided (n := 2) (by decide +kernel) rfl ⟨Nat.le_of_ble_eq_true rfl, Nat.le_of_ble_eq_true rfl⟩ ⟨Nat.le_of_ble_eq_true rfl, Nat.le_of_ble_eq_true rfl⟩ (Nat.le_of_ble_eq_true rfl) [] [] rfl rfl rfl (fun v wc hv => ?_)
    obtain ⟨rF_3, rfl, rfl, hq⟩ := hv
    replace h := h rF_3 hq
    refine gG.eqw (ws' := []) rfl ?_
    refine g_goto (tgt := 24) C dX10_quotientAt_15 (by decide) ?_
    exact g_iret C hR (Nat.le_of_ble_eq_true rfl) (Nat.le_of_ble_eq_true rfl) dX10_quotientAt_24 ⟨rF_3, rfl, rfl, h⟩
theorem dX10_quotient_0 : decode cX10_quotient 0 = .ok (.aload_n 0, 1) := by decide +kernel
theorem dX10_quotient_1 : decode cX10_quotient 1 = .ok (.iload_n 1, 1) := by decide +kernel
theorem dX10_quotient_2 : decode cX10_quotient 2 = .ok (.invokevirtual 161, 3) := by decide +kernel
theorem dX10_quotient_5 : decode cX10_quotient 5 = .ok (.ifCond .eq 7, 3) := by decide +kernel
theorem dX10_quotient_8 : decode cX10_quotient 8 = .ok (.iload_n 2, 1) := by decide +kernel
theorem dX10_quotient_9 : decode cX10_quotient 9 = .ok (.ifCond .ge 5, 3) := by decide +kernel
theorem dX10_quotient_12 : decode cX10_quotient 12 = .ok (.iconst (-1), 1) := by decide +kernel
theorem dX10_quotient_13 : decode cX10_quotient 13 = .ok (.ireturn, 1) := by decide +kernel
theorem dX10_quotient_14 : decode cX10_quotient 14 = .ok (.iload_n 2, 1) := by decide +kernel
theorem dX10_quotient_15 : decode cX10_quotient 15 = .ok (.iload_n 1, 1) := by decide +kernel
theorem dX10_quotient_16 : decode cX10_quotient 16 = .ok (.invokestatic 213, 3) := by decide +kernel
theorem dX10_quotient_19 : decode cX10_quotient 19 = .ok (.if_icmp .ge 11, 3) := by decide +kernel
theorem dX10_quotient_22 : decode cX10_quotient 22 = .ok (.iload_n 1, 1) := by decide +kernel
theorem dX10_quotient_23 : decode cX10_quotient 23 = .ok (.iload_n 2, 1) := by decide +kernel
theorem dX10_quotient_24 : decode cX10_quotient 24 = .ok (.invokestatic 216, 3) := by decide +kernel
theorem dX10_quotient_27 : decode cX10_quotient 27 = .ok (.goto 5, 3) := by decide +kernel
theorem dX10_quotient_30 : decode cX10_quotient 30 = .ok (.bipush (-2), 2) := by decide +kernel
theorem dX10_quotient_32 : decode cX10_quotient 32 = .ok (.ireturn, 1) := by decide +kernel
/-- QuotientSums.quotient(II)I -/
def wX10_quotient (now_bound : Int32) (now_modulus : Int32) (now_seed : Int32) (now_functions : Int32) (a1 : Int32) (a2 : Int32) (Q : (Int32) → Prop) : Prop :=
  (∃ (P_1 : (Int32) → Prop), wX10_isPlace now_bound now_modulus now_seed now_functions a1 P_1 ∧ ∀ (rF_1 : Int32), P_1 rF_1 → ((rF_1 = 0 → (Q (-1))) ∧ (¬ rF_1 = 0 → ((0 ≤ a2 → (∃ (P_2 : (Int32) → Prop), wX10_quotientTotal a1 P_2 ∧ ∀ (rF_2 : Int32), P_2 rF_2 → ((rF_2 ≤ a2 → (Q (-2))) ∧ (¬ rF_2 ≤ a2 → (∃ (P_3 : (Int32) → Prop), wX10_quotientAt a1 a2 P_3 ∧ ∀ (rF_3 : Int32), P_3 rF_3 → (Q rF_3)))))) ∧ (¬ 0 ≤ a2 → (Q (-1)))))))
set_option maxHeartbeats 4000000 in
set_option maxRecDepth 100000 in
theorem mX10_quotient (l : Launch) (D : va_G) (Y : Nat → ClassId) (h0 : Nat) (q_now : Nat) (v_reader : Value) (v_changes : Value) (v_image : Value) (v_rows : Value) (v_couples : Value) (now_bound : Int32) (now_modulus : Int32) (now_seed : Int32) (now_functions : Int32) (v_now_names : Value) (v_now_kinds : Value) (v_now_firsts : Value) (v_now_seconds : Value) (v_now_degrees : Value) (v_now_colours : Value) (v_now_needs : Value) (v_now_numbers : Value) (a1 : Int32) (a2 : Int32) (Q : (Int32) → Prop) (h : wX10_quotient now_bound now_modulus now_seed now_functions a1 a2 Q) : gM l D Y yX10_quotient cX10_quotient 3 (some .int) 3 65 0 0 [.ref h0, .int a1, .int a2] [oX10 h0 (.ref q_now) (v_reader) (v_changes) (v_image) (v_rows) (v_couples), oX3 q_now now_bound now_modulus now_seed now_functions (v_now_names) (v_now_kinds) (v_now_firsts) (v_now_seconds) (v_now_degrees) (v_now_colours) (v_now_needs) (v_now_numbers)] (fun v w => ∃ r : Int32, v = some (.int r) ∧ w = [oX10 h0 (.ref q_now) (v_reader) (v_changes) (v_image) (v_rows) (v_couples), oX3 q_now now_bound now_modulus now_seed now_functions (v_now_names) (v_now_kinds) (v_now_firsts) (v_now_seconds) (v_now_degrees) (v_now_colours) (v_now_needs) (v_now_numbers)] ∧ Q r) := by
  refine gM_of (own := RX10) (by decide +kernel) rfl (Nat.le_of_ble_eq_true rfl) rfl (fun E C hR => ?_)
  unfold wX10_quotient at h
  refine g_aload_n C dX10_quotient_0 0 rfl ?_
  refine g_iload_n C dX10_quotient_1 1 rfl ?_
  obtain ⟨P_1, hP, h⟩ := h
  refine g_callV (As := [.int a1]) (rest := []) C (mX10_isPlace l D Y h0 q_now v_reader v_changes v_image v_rows v_couples now_bound now_modulus now_seed now_functions v_now_names v_now_kinds v_now_firsts v_now_seconds v_now_degrees v_now_colours v_now_needs v_now_numbers a1 P_1 hP) dX10_quotient_2 rfl wM_X10_161 wI_X10_isPlace wV_X10_isPlace wN_X10 wC_X10_isPlace (n := 1) (by decide +kernel) rfl (q0 := 0) rfl rfl ⟨Nat.le_of_ble_eq_true rfl, Nat.le_of_ble_eq_true rfl⟩ ⟨Nat.le_of_ble_eq_true rfl, Nat.le_of_ble_eq_true rfl⟩ (Nat.le_of_ble_eq_true rfl) [0, 1] [] rfl rfl rfl (fun v wc hv => ?_)
  obtain ⟨rF_1, rfl, rfl, hq⟩ := hv
  replace h := h rF_1 hq
  refine gG.eqw (ws' := [oX10 h0 (.ref q_now) (v_reader) (v_changes) (v_image) (v_rows) (v_couples), oX3 q_now now_bound now_modulus now_seed now_functions (v_now_names) (v_now_kinds) (v_now_firsts) (v_now_seconds) (v_now_degrees) (v_now_colours) (v_now_needs) (v_now_numbers)]) rfl ?_
  refine g_if_eq (tgt := 12) C dX10_quotient_5 (by decide) (fun c_1 => ?_) (fun c_1 => ?_)
  · replace h := h.1 c_1
    refine g_iconst (v := (-1)) C dX10_quotient_12 rfl ?_
    exact g_iret C hR (Nat.le_of_ble_eq_true rfl) (Nat.le_of_ble_eq_true rfl) dX10_quotient_13 ⟨(-1), rfl, rfl, h⟩
  · replace h := h.2 c_1
    refine g_iload_n C dX10_quotient_8 2 rfl ?_
    refine g_if_ge (tgt := 14) C dX10_quotient_9 (by decide) (fun c_2 => ?_) (fun c_2 => ?_)
    · replace h := h.1 c_2
      refine g_iload_n C dX10_quotient_14 2 rfl ?_
      refine g_iload_n C dX10_quotient_15 1 rfl ?_
      obtain ⟨P_2, hP, h⟩ := h
      refine g_callS (As := [.int a1]) (rest := [.int a2]) C (mX10_quotientTotal l D Y a1 P_2 hP) dX10_quotient_16 rfl wM_X10_213 wS_X10_quotientTotal wN_X10 wC_X10_quotientTotal (n := 1) (by decide +kernel) rfl ⟨Nat.le_of_ble_eq_true rfl, Nat.le_of_ble_eq_true rfl⟩ ⟨Nat.le_of_ble_eq_true rfl, Nat.le_of_ble_eq_true rfl⟩ (Nat.le_of_ble_eq_true rfl) [] [0, 1] rfl rfl rfl (fun v wc hv => ?_)
      obtain ⟨rF_2, rfl, rfl, hq⟩ := hv
      replace h := h rF_2 hq
      refine gG.eqw (ws' := [oX10 h0 (.ref q_now) (v_reader) (v_changes) (v_image) (v_rows) (v_couples), oX3 q_now now_bound now_modulus now_seed now_functions (v_now_names) (v_now_kinds) (v_now_firsts) (v_now_seconds) (v_now_degrees) (v_now_colours) (v_now_needs) (v_now_numbers)]) rfl ?_
      refine g_icmp_ge (tgt := 30) C dX10_quotient_19 (by decide) (fun c_3 => ?_) (fun c_3 => ?_)
      · replace h := h.1 c_3
        refine g_bipush (v := (-2)) C dX10_quotient_30 rfl ?_
        exact g_iret C hR (Nat.le_of_ble_eq_true rfl) (Nat.le_of_ble_eq_true rfl) dX10_quotient_32 ⟨(-2), rfl, rfl, h⟩
      · replace h := h.2 c_3
        refine g_iload_n C dX10_quotient_22 1 rfl ?_
        refine g_iload_n C dX10_quotient_23 2 rfl ?_
        obtain ⟨P_3, hP, h⟩ := h
        refine g_callS (As := [.int a1, .int a2]) (rest := []) C (mX10_quotientAt l D Y a1 a2 P_3 hP) dX10_quotient_24 rfl wM_X10_216 wS_X10_quotientAt wN_X10 wC_X10_quotientAt (n := 2) (by decide +kernel) rfl ⟨Nat.le_of_ble_eq_true rfl, Nat.le_of_ble_eq_true rfl⟩ ⟨Nat.le_of_ble_eq_true rfl, Nat.le_of_ble_eq_true rfl⟩ (Nat.le_of_ble_eq_true rfl) [] [0, 1] rfl rfl rfl (fun v wc hv => ?_)
        obtain ⟨rF_3, rfl, rfl, hq⟩ := hv
        replace h := h rF_3 hq
        refine gG.eqw (ws' := [oX10 h0 (.ref q_now) (v_reader) (v_changes) (v_image) (v_rows) (v_couples), oX3 q_now now_bound now_modulus now_seed now_functions (v_now_names) (v_now_kinds) (v_now_firsts) (v_now_seconds) (v_now_degrees) (v_now_colours) (v_now_needs) (v_now_numbers)]) rfl ?_
        refine g_goto (tgt := 32) C dX10_quotient_27 (by decide) ?_
        exact g_iret C hR (Nat.le_of_ble_eq_true rfl) (Nat.le_of_ble_eq_true rfl) dX10_quotient_32 ⟨rF_3, rfl, rfl, h⟩
    · replace h := h.2 c_2
      refine g_iconst (v := (-1)) C dX10_quotient_12 rfl ?_
      exact g_iret C hR (Nat.le_of_ble_eq_true rfl) (Nat.le_of_ble_eq_true rfl) dX10_quotient_13 ⟨(-1), rfl, rfl, h⟩
theorem dX10_block_0 : decode cX10_block 0 = .ok (.aload_n 0, 1) := by decide +kernel
theorem dX10_block_1 : decode cX10_block 1 = .ok (.iload_n 1, 1) := by decide +kernel
theorem dX10_block_2 : decode cX10_block 2 = .ok (.invokevirtual 161, 3) := by decide +kernel
theorem dX10_block_5 : decode cX10_block 5 = .ok (.ifCond .eq 7, 3) := by decide +kernel
theorem dX10_block_8 : decode cX10_block 8 = .ok (.iload_n 2, 1) := by decide +kernel
theorem dX10_block_9 : decode cX10_block 9 = .ok (.ifCond .ge 5, 3) := by decide +kernel
theorem dX10_block_12 : decode cX10_block 12 = .ok (.iconst (-1), 1) := by decide +kernel
theorem dX10_block_13 : decode cX10_block 13 = .ok (.ireturn, 1) := by decide +kernel
theorem dX10_block_14 : decode cX10_block 14 = .ok (.iload_n 2, 1) := by decide +kernel
theorem dX10_block_15 : decode cX10_block 15 = .ok (.iload_n 1, 1) := by decide +kernel
theorem dX10_block_16 : decode cX10_block 16 = .ok (.invokestatic 213, 3) := by decide +kernel
theorem dX10_block_19 : decode cX10_block 19 = .ok (.if_icmp .lt 6, 3) := by decide +kernel
theorem dX10_block_22 : decode cX10_block 22 = .ok (.bipush (-2), 2) := by decide +kernel
theorem dX10_block_24 : decode cX10_block 24 = .ok (.ireturn, 1) := by decide +kernel
theorem dX10_block_25 : decode cX10_block 25 = .ok (.iload_n 1, 1) := by decide +kernel
theorem dX10_block_26 : decode cX10_block 26 = .ok (.iload_n 2, 1) := by decide +kernel
theorem dX10_block_27 : decode cX10_block 27 = .ok (.invokestatic 216, 3) := by decide +kernel
theorem dX10_block_30 : decode cX10_block 30 = .ok (.istore 4, 2) := by decide +kernel
theorem dX10_block_32 : decode cX10_block 32 = .ok (.iload_n 3, 1) := by decide +kernel
theorem dX10_block_33 : decode cX10_block 33 = .ok (.ifCond .eq 12, 3) := by decide +kernel
theorem dX10_block_36 : decode cX10_block 36 = .ok (.iload_n 1, 1) := by decide +kernel
theorem dX10_block_37 : decode cX10_block 37 = .ok (.iload 4, 2) := by decide +kernel
theorem dX10_block_39 : decode cX10_block 39 = .ok (.invokestatic 219, 3) := by decide +kernel
theorem dX10_block_42 : decode cX10_block 42 = .ok (.goto 13, 3) := by decide +kernel
theorem dX10_block_45 : decode cX10_block 45 = .ok (.iload_n 1, 1) := by decide +kernel
theorem dX10_block_46 : decode cX10_block 46 = .ok (.iload 4, 2) := by decide +kernel
theorem dX10_block_48 : decode cX10_block 48 = .ok (.iconst 1, 1) := by decide +kernel
theorem dX10_block_49 : decode cX10_block 49 = .ok (.iadd, 1) := by decide +kernel
theorem dX10_block_50 : decode cX10_block 50 = .ok (.invokestatic 219, 3) := by decide +kernel
theorem dX10_block_53 : decode cX10_block 53 = .ok (.iconst 1, 1) := by decide +kernel
theorem dX10_block_54 : decode cX10_block 54 = .ok (.iadd, 1) := by decide +kernel
theorem dX10_block_55 : decode cX10_block 55 = .ok (.ireturn, 1) := by decide +kernel
/-- QuotientSums.block(IIZ)I -/
def wX10_block (now_bound : Int32) (now_modulus : Int32) (now_seed : Int32) (now_functions : Int32) (a1 : Int32) (a2 : Int32) (a3 : Int32) (Q : (Int32) → Prop) : Prop :=
  (∃ (P_1 : (Int32) → Prop), wX10_isPlace now_bound now_modulus now_seed now_functions a1 P_1 ∧ ∀ (rF_1 : Int32), P_1 rF_1 → ((rF_1 = 0 → (Q (-1))) ∧ (¬ rF_1 = 0 → ((0 ≤ a2 → (∃ (P_2 : (Int32) → Prop), wX10_quotientTotal a1 P_2 ∧ ∀ (rF_2 : Int32), P_2 rF_2 → ((a2 < rF_2 → (∃ (P_3 : (Int32) → Prop), wX10_quotientAt a1 a2 P_3 ∧ ∀ (rF_3 : Int32), P_3 rF_3 → ((a3 = 0 → (∃ (P_4 : (Int32) → Prop), wX10_divided a1 (rF_3 + 1) P_4 ∧ ∀ (rF_4 : Int32), P_4 rF_4 → (Q (rF_4 + 1)))) ∧ (¬ a3 = 0 → (∃ (P_5 : (Int32) → Prop), wX10_divided a1 rF_3 P_5 ∧ ∀ (rF_5 : Int32), P_5 rF_5 → (Q rF_5)))))) ∧ (¬ a2 < rF_2 → (Q (-2)))))) ∧ (¬ 0 ≤ a2 → (Q (-1)))))))
set_option maxHeartbeats 4000000 in
set_option maxRecDepth 100000 in
theorem mX10_block (l : Launch) (D : va_G) (Y : Nat → ClassId) (h0 : Nat) (q_now : Nat) (v_reader : Value) (v_changes : Value) (v_image : Value) (v_rows : Value) (v_couples : Value) (now_bound : Int32) (now_modulus : Int32) (now_seed : Int32) (now_functions : Int32) (v_now_names : Value) (v_now_kinds : Value) (v_now_firsts : Value) (v_now_seconds : Value) (v_now_degrees : Value) (v_now_colours : Value) (v_now_needs : Value) (v_now_numbers : Value) (a1 : Int32) (a2 : Int32) (a3 : Int32) (Q : (Int32) → Prop) (h : wX10_block now_bound now_modulus now_seed now_functions a1 a2 a3 Q) : gM l D Y yX10_block cX10_block 5 (some .int) 3 65 0 0 [.ref h0, .int a1, .int a2, .int a3] [oX10 h0 (.ref q_now) (v_reader) (v_changes) (v_image) (v_rows) (v_couples), oX3 q_now now_bound now_modulus now_seed now_functions (v_now_names) (v_now_kinds) (v_now_firsts) (v_now_seconds) (v_now_degrees) (v_now_colours) (v_now_needs) (v_now_numbers)] (fun v w => ∃ r : Int32, v = some (.int r) ∧ w = [oX10 h0 (.ref q_now) (v_reader) (v_changes) (v_image) (v_rows) (v_couples), oX3 q_now now_bound now_modulus now_seed now_functions (v_now_names) (v_now_kinds) (v_now_firsts) (v_now_seconds) (v_now_degrees) (v_now_colours) (v_now_needs) (v_now_numbers)] ∧ Q r) := by
  refine gM_of (own := RX10) (by decide +kernel) rfl (Nat.le_of_ble_eq_true rfl) rfl (fun E C hR => ?_)
  unfold wX10_block at h
  refine g_aload_n C dX10_block_0 0 rfl ?_
  refine g_iload_n C dX10_block_1 1 rfl ?_
  obtain ⟨P_1, hP, h⟩ := h
  refine g_callV (As := [.int a1]) (rest := []) C (mX10_isPlace l D Y h0 q_now v_reader v_changes v_image v_rows v_couples now_bound now_modulus now_seed now_functions v_now_names v_now_kinds v_now_firsts v_now_seconds v_now_degrees v_now_colours v_now_needs v_now_numbers a1 P_1 hP) dX10_block_2 rfl wM_X10_161 wI_X10_isPlace wV_X10_isPlace wN_X10 wC_X10_isPlace (n := 1) (by decide +kernel) rfl (q0 := 0) rfl rfl ⟨Nat.le_of_ble_eq_true rfl, Nat.le_of_ble_eq_true rfl⟩ ⟨Nat.le_of_ble_eq_true rfl, Nat.le_of_ble_eq_true rfl⟩ (Nat.le_of_ble_eq_true rfl) [0, 1] [] rfl rfl rfl (fun v wc hv => ?_)
  obtain ⟨rF_1, rfl, rfl, hq⟩ := hv
  replace h := h rF_1 hq
  refine gG.eqw (ws' := [oX10 h0 (.ref q_now) (v_reader) (v_changes) (v_image) (v_rows) (v_couples), oX3 q_now now_bound now_modulus now_seed now_functions (v_now_names) (v_now_kinds) (v_now_firsts) (v_now_seconds) (v_now_degrees) (v_now_colours) (v_now_needs) (v_now_numbers)]) rfl ?_
  refine g_if_eq (tgt := 12) C dX10_block_5 (by decide) (fun c_1 => ?_) (fun c_1 => ?_)
  · replace h := h.1 c_1
    refine g_iconst (v := (-1)) C dX10_block_12 rfl ?_
    exact g_iret C hR (Nat.le_of_ble_eq_true rfl) (Nat.le_of_ble_eq_true rfl) dX10_block_13 ⟨(-1), rfl, rfl, h⟩
  · replace h := h.2 c_1
    refine g_iload_n C dX10_block_8 2 rfl ?_
    refine g_if_ge (tgt := 14) C dX10_block_9 (by decide) (fun c_2 => ?_) (fun c_2 => ?_)
    · replace h := h.1 c_2
      refine g_iload_n C dX10_block_14 2 rfl ?_
      refine g_iload_n C dX10_block_15 1 rfl ?_
      obtain ⟨P_2, hP, h⟩ := h
      refine g_callS (As := [.int a1]) (rest := [.int a2]) C (mX10_quotientTotal l D Y a1 P_2 hP) dX10_block_16 rfl wM_X10_213 wS_X10_quotientTotal wN_X10 wC_X10_quotientTotal (n := 1) (by decide +kernel) rfl ⟨Nat.le_of_ble_eq_true rfl, Nat.le_of_ble_eq_true rfl⟩ ⟨Nat.le_of_ble_eq_true rfl, Nat.le_of_ble_eq_true rfl⟩ (Nat.le_of_ble_eq_true rfl) [] [0, 1] rfl rfl rfl (fun v wc hv => ?_)
      obtain ⟨rF_2, rfl, rfl, hq⟩ := hv
      replace h := h rF_2 hq
      refine gG.eqw (ws' := [oX10 h0 (.ref q_now) (v_reader) (v_changes) (v_image) (v_rows) (v_couples), oX3 q_now now_bound now_modulus now_seed now_functions (v_now_names) (v_now_kinds) (v_now_firsts) (v_now_seconds) (v_now_degrees) (v_now_colours) (v_now_needs) (v_now_numbers)]) rfl ?_
      refine g_icmp_lt (tgt := 25) C dX10_block_19 (by decide) (fun c_3 => ?_) (fun c_3 => ?_)
      · replace h := h.1 c_3
        refine g_iload_n C dX10_block_25 1 rfl ?_
        refine g_iload_n C dX10_block_26 2 rfl ?_
        obtain ⟨P_3, hP, h⟩ := h
        refine g_callS (As := [.int a1, .int a2]) (rest := []) C (mX10_quotientAt l D Y a1 a2 P_3 hP) dX10_block_27 rfl wM_X10_216 wS_X10_quotientAt wN_X10 wC_X10_quotientAt (n := 2) (by decide +kernel) rfl ⟨Nat.le_of_ble_eq_true rfl, Nat.le_of_ble_eq_true rfl⟩ ⟨Nat.le_of_ble_eq_true rfl, Nat.le_of_ble_eq_true rfl⟩ (Nat.le_of_ble_eq_true rfl) [] [0, 1] rfl rfl rfl (fun v wc hv => ?_)
        obtain ⟨rF_3, rfl, rfl, hq⟩ := hv
        replace h := h rF_3 hq
        refine gG.eqw (ws' := [oX10 h0 (.ref q_now) (v_reader) (v_changes) (v_image) (v_rows) (v_couples), oX3 q_now now_bound now_modulus now_seed now_functions (v_now_names) (v_now_kinds) (v_now_firsts) (v_now_seconds) (v_now_degrees) (v_now_colours) (v_now_needs) (v_now_numbers)]) rfl ?_
        refine g_istore (lv' := [(4, .int rF_3), (0, .ref h0), (1, .int a1), (2, .int a2), (3, .int a3)]) C dX10_block_30 (by decide) rfl ?_
        refine g_iload_n C dX10_block_32 4 rfl ?_
        refine g_if_eq (tgt := 45) C dX10_block_33 (by decide) (fun c_4 => ?_) (fun c_4 => ?_)
        · replace h := h.1 c_4
          refine g_iload_n C dX10_block_45 2 rfl ?_
          refine g_iload C dX10_block_46 0 rfl ?_
          refine g_iconst (v := 1) C dX10_block_48 rfl ?_
          refine g_iadd C dX10_block_49 ?_
          obtain ⟨P_4, hP, h⟩ := h
          refine g_callS (As := [.int a1, .int (rF_3 + 1)]) (rest := []) C (mX10_divided l D Y a1 (rF_3 + 1) P_4 hP) dX10_block_50 rfl wM_X10_219 wS_X10_divided wN_X10 wC_X10_divided (n := 2) (by decide +kernel) rfl ⟨Nat.le_of_ble_eq_true rfl, Nat.le_of_ble_eq_true rfl⟩ ⟨Nat.le_of_ble_eq_true rfl, Nat.le_of_ble_eq_true rfl⟩ (Nat.le_of_ble_eq_true rfl) [] [0, 1] rfl rfl rfl (fun v wc hv => ?_)
          obtain ⟨rF_4, rfl, rfl, hq⟩ := hv
          replace h := h rF_4 hq
          refine gG.eqw (ws' := [oX10 h0 (.ref q_now) (v_reader) (v_changes) (v_image) (v_rows) (v_couples), oX3 q_now now_bound now_modulus now_seed now_functions (v_now_names) (v_now_kinds) (v_now_firsts) (v_now_seconds) (v_now_degrees) (v_now_colours) (v_now_needs) (v_now_numbers)]) rfl ?_
          refine g_iconst (v := 1) C dX10_block_53 rfl ?_
          refine g_iadd C dX10_block_54 ?_
          exact g_iret C hR (Nat.le_of_ble_eq_true rfl) (Nat.le_of_ble_eq_true rfl) dX10_block_55 ⟨rF_4 + 1, rfl, rfl, h⟩
        · replace h := h.2 c_4
          refine g_iload_n C dX10_block_36 2 rfl ?_
          refine g_iload C dX10_block_37 0 rfl ?_
          obtain ⟨P_5, hP, h⟩ := h
          refine g_callS (As := [.int a1, .int rF_3]) (rest := []) C (mX10_divided l D Y a1 rF_3 P_5 hP) dX10_block_39 rfl wM_X10_219 wS_X10_divided wN_X10 wC_X10_divided (n := 2) (by decide +kernel) rfl ⟨Nat.le_of_ble_eq_true rfl, Nat.le_of_ble_eq_true rfl⟩ ⟨Nat.le_of_ble_eq_true rfl, Nat.le_of_ble_eq_true rfl⟩ (Nat.le_of_ble_eq_true rfl) [] [0, 1] rfl rfl rfl (fun v wc hv => ?_)
          obtain ⟨rF_5, rfl, rfl, hq⟩ := hv
          replace h := h rF_5 hq
          refine gG.eqw (ws' := [oX10 h0 (.ref q_now) (v_reader) (v_changes) (v_image) (v_rows) (v_couples), oX3 q_now now_bound now_modulus now_seed now_functions (v_now_names) (v_now_kinds) (v_now_firsts) (v_now_seconds) (v_now_degrees) (v_now_colours) (v_now_needs) (v_now_numbers)]) rfl ?_
          refine g_goto (tgt := 55) C dX10_block_42 (by decide) ?_
          exact g_iret C hR (Nat.le_of_ble_eq_true rfl) (Nat.le_of_ble_eq_true rfl) dX10_block_55 ⟨rF_5, rfl, rfl, h⟩
      · replace h := h.2 c_3
        refine g_bipush (v := (-2)) C dX10_block_22 rfl ?_
        exact g_iret C hR (Nat.le_of_ble_eq_true rfl) (Nat.le_of_ble_eq_true rfl) dX10_block_24 ⟨(-2), rfl, rfl, h⟩
    · replace h := h.2 c_2
      refine g_iconst (v := (-1)) C dX10_block_12 rfl ?_
      exact g_iret C hR (Nat.le_of_ble_eq_true rfl) (Nat.le_of_ble_eq_true rfl) dX10_block_13 ⟨(-1), rfl, rfl, h⟩
theorem dX10_hyper_0 : decode cX10_hyper 0 = .ok (.aload_n 0, 1) := by decide +kernel
theorem dX10_hyper_1 : decode cX10_hyper 1 = .ok (.getfield 10, 3) := by decide +kernel
theorem dX10_hyper_4 : decode cX10_hyper 4 = .ok (.iload_n 1, 1) := by decide +kernel
theorem dX10_hyper_5 : decode cX10_hyper 5 = .ok (.invokevirtual 98, 3) := by decide +kernel
theorem dX10_hyper_8 : decode cX10_hyper 8 = .ok (.ifCond .eq 22, 3) := by decide +kernel
theorem dX10_hyper_11 : decode cX10_hyper 11 = .ok (.aload_n 0, 1) := by decide +kernel
theorem dX10_hyper_12 : decode cX10_hyper 12 = .ok (.getfield 10, 3) := by decide +kernel
theorem dX10_hyper_15 : decode cX10_hyper 15 = .ok (.iload_n 2, 1) := by decide +kernel
theorem dX10_hyper_16 : decode cX10_hyper 16 = .ok (.invokevirtual 98, 3) := by decide +kernel
theorem dX10_hyper_19 : decode cX10_hyper 19 = .ok (.ifCond .eq 11, 3) := by decide +kernel
theorem dX10_hyper_22 : decode cX10_hyper 22 = .ok (.aload_n 0, 1) := by decide +kernel
theorem dX10_hyper_23 : decode cX10_hyper 23 = .ok (.iload_n 3, 1) := by decide +kernel
theorem dX10_hyper_24 : decode cX10_hyper 24 = .ok (.invokevirtual 179, 3) := by decide +kernel
theorem dX10_hyper_27 : decode cX10_hyper 27 = .ok (.ifCond .ne 5, 3) := by decide +kernel
theorem dX10_hyper_30 : decode cX10_hyper 30 = .ok (.iconst (-1), 1) := by decide +kernel
theorem dX10_hyper_31 : decode cX10_hyper 31 = .ok (.ireturn, 1) := by decide +kernel
theorem dX10_hyper_32 : decode cX10_hyper 32 = .ok (.aload_n 0, 1) := by decide +kernel
theorem dX10_hyper_33 : decode cX10_hyper 33 = .ok (.getfield 40, 3) := by decide +kernel
theorem dX10_hyper_36 : decode cX10_hyper 36 = .ok (.aload_n 0, 1) := by decide +kernel
theorem dX10_hyper_37 : decode cX10_hyper 37 = .ok (.getfield 10, 3) := by decide +kernel
theorem dX10_hyper_40 : decode cX10_hyper 40 = .ok (.iload_n 1, 1) := by decide +kernel
theorem dX10_hyper_41 : decode cX10_hyper 41 = .ok (.iload_n 3, 1) := by decide +kernel
theorem dX10_hyper_42 : decode cX10_hyper 42 = .ok (.invokevirtual 182, 3) := by decide +kernel
theorem dX10_hyper_45 : decode cX10_hyper 45 = .ok (.astore 4, 2) := by decide +kernel
theorem dX10_hyper_47 : decode cX10_hyper 47 = .ok (.aload_n 0, 1) := by decide +kernel
theorem dX10_hyper_48 : decode cX10_hyper 48 = .ok (.getfield 40, 3) := by decide +kernel
theorem dX10_hyper_51 : decode cX10_hyper 51 = .ok (.aload_n 0, 1) := by decide +kernel
theorem dX10_hyper_52 : decode cX10_hyper 52 = .ok (.getfield 10, 3) := by decide +kernel
theorem dX10_hyper_55 : decode cX10_hyper 55 = .ok (.iload_n 2, 1) := by decide +kernel
theorem dX10_hyper_56 : decode cX10_hyper 56 = .ok (.iload_n 3, 1) := by decide +kernel
theorem dX10_hyper_57 : decode cX10_hyper 57 = .ok (.invokevirtual 182, 3) := by decide +kernel
theorem dX10_hyper_60 : decode cX10_hyper 60 = .ok (.astore 5, 2) := by decide +kernel
theorem dX10_hyper_62 : decode cX10_hyper 62 = .ok (.lconst 0, 1) := by decide +kernel
theorem dX10_hyper_63 : decode cX10_hyper 63 = .ok (.lstore 6, 2) := by decide +kernel
theorem dX10_hyper_65 : decode cX10_hyper 65 = .ok (.iconst 1, 1) := by decide +kernel
theorem dX10_hyper_66 : decode cX10_hyper 66 = .ok (.istore 8, 2) := by decide +kernel
theorem dX10_hyper_68 : decode cX10_hyper 68 = .ok (.iconst 0, 1) := by decide +kernel
theorem dX10_hyper_69 : decode cX10_hyper 69 = .ok (.istore 9, 2) := by decide +kernel
theorem dX10_hyper_71 : decode cX10_hyper 71 = .ok (.iload 8, 2) := by decide +kernel
theorem dX10_hyper_73 : decode cX10_hyper 73 = .ok (.iload_n 3, 1) := by decide +kernel
theorem dX10_hyper_74 : decode cX10_hyper 74 = .ok (.if_icmp .gt 65, 3) := by decide +kernel
theorem dX10_hyper_77 : decode cX10_hyper 77 = .ok (.iload_n 3, 1) := by decide +kernel
theorem dX10_hyper_78 : decode cX10_hyper 78 = .ok (.iload 8, 2) := by decide +kernel
theorem dX10_hyper_80 : decode cX10_hyper 80 = .ok (.invokestatic 219, 3) := by decide +kernel
theorem dX10_hyper_83 : decode cX10_hyper 83 = .ok (.istore 10, 2) := by decide +kernel
theorem dX10_hyper_85 : decode cX10_hyper 85 = .ok (.iload 8, 2) := by decide +kernel
theorem dX10_hyper_87 : decode cX10_hyper 87 = .ok (.iload_n 3, 1) := by decide +kernel
theorem dX10_hyper_88 : decode cX10_hyper 88 = .ok (.iload 10, 2) := by decide +kernel
theorem dX10_hyper_90 : decode cX10_hyper 90 = .ok (.invokestatic 219, 3) := by decide +kernel
theorem dX10_hyper_93 : decode cX10_hyper 93 = .ok (.invokestatic 225, 3) := by decide +kernel
theorem dX10_hyper_96 : decode cX10_hyper 96 = .ok (.istore 9, 2) := by decide +kernel
theorem dX10_hyper_98 : decode cX10_hyper 98 = .ok (.aload_n 0, 1) := by decide +kernel
theorem dX10_hyper_99 : decode cX10_hyper 99 = .ok (.getfield 10, 3) := by decide +kernel
theorem dX10_hyper_102 : decode cX10_hyper 102 = .ok (.lload 6, 2) := by decide +kernel
theorem dX10_hyper_104 : decode cX10_hyper 104 = .ok (.aload 4, 2) := by decide +kernel
theorem dX10_hyper_106 : decode cX10_hyper 106 = .ok (.iload 8, 2) := by decide +kernel
theorem dX10_hyper_108 : decode cX10_hyper 108 = .ok (.iload 9, 2) := by decide +kernel
theorem dX10_hyper_110 : decode cX10_hyper 110 = .ok (.invokevirtual 191, 3) := by decide +kernel
theorem dX10_hyper_113 : decode cX10_hyper 113 = .ok (.i2l, 1) := by decide +kernel
theorem dX10_hyper_114 : decode cX10_hyper 114 = .ok (.aload 5, 2) := by decide +kernel
theorem dX10_hyper_116 : decode cX10_hyper 116 = .ok (.iload 10, 2) := by decide +kernel
theorem dX10_hyper_118 : decode cX10_hyper 118 = .ok (.invokevirtual 186, 3) := by decide +kernel
theorem dX10_hyper_121 : decode cX10_hyper 121 = .ok (.i2l, 1) := by decide +kernel
theorem dX10_hyper_122 : decode cX10_hyper 122 = .ok (.lmul, 1) := by decide +kernel
theorem dX10_hyper_123 : decode cX10_hyper 123 = .ok (.ladd, 1) := by decide +kernel
theorem dX10_hyper_124 : decode cX10_hyper 124 = .ok (.invokevirtual 209, 3) := by decide +kernel
theorem dX10_hyper_127 : decode cX10_hyper 127 = .ok (.i2l, 1) := by decide +kernel
theorem dX10_hyper_128 : decode cX10_hyper 128 = .ok (.lstore 6, 2) := by decide +kernel
theorem dX10_hyper_130 : decode cX10_hyper 130 = .ok (.iload 9, 2) := by decide +kernel
theorem dX10_hyper_132 : decode cX10_hyper 132 = .ok (.iconst 1, 1) := by decide +kernel
theorem dX10_hyper_133 : decode cX10_hyper 133 = .ok (.iadd, 1) := by decide +kernel
theorem dX10_hyper_134 : decode cX10_hyper 134 = .ok (.istore 8, 2) := by decide +kernel
theorem dX10_hyper_136 : decode cX10_hyper 136 = .ok (.goto (-65), 3) := by decide +kernel
theorem dX10_hyper_139 : decode cX10_hyper 139 = .ok (.lload 6, 2) := by decide +kernel
theorem dX10_hyper_141 : decode cX10_hyper 141 = .ok (.l2i, 1) := by decide +kernel
theorem dX10_hyper_142 : decode cX10_hyper 142 = .ok (.ireturn, 1) := by decide +kernel
/-- QuotientSums.hyper(III)I -/
def wX10_hyper (mc ms : Nat) (now_bound : Int32) (now_modulus : Int32) (now_seed : Int32) (now_functions : Int32) (rf : Nat → Int32) (rm : Nat → Int32) (rl : Nat → Int32) (ru : Nat → Int32) (rn : Nat → Nat) (rv : Nat → Nat → Int32) (rows_turn : Int32) (n_rows_sieve_least : Nat) (rows_sieve_least : Nat → Int32) (now_needs : Nat → Int32) (rows_powers_cells : Nat → Int32) (rows_powers_ofPrime : Nat → Int32) (now_firsts : Nat → Int32) (now_seconds : Nat → Int32) (now_kinds : Nat → Int32) (now_numbers : Nat → Int32) (now_colours : Nat → Int32) (a1 : Int32) (a2 : Int32) (a3 : Int32) (Q : (Int32) → (Nat → Int32) → (Nat → Int32) → (Nat → Int32) → (Nat → Int32) → (Nat → Nat) → (Nat → Nat → Int32) → (Int32) → (Nat) → (Nat → Int32) → (Nat → Int32) → (Nat → Int32) → Prop) : Prop :=
  (∃ (P_1 : (Int32) → Prop), wX3_has now_bound now_modulus now_seed now_functions a1 P_1 ∧ ∀ (rF_1 : Int32), P_1 rF_1 → ((rF_1 = 0 → (Q (-1) rf rm rl ru rn rv rows_turn n_rows_sieve_least rows_sieve_least rows_powers_cells rows_powers_ofPrime)) ∧ (¬ rF_1 = 0 → (∃ (P_2 : (Int32) → Prop), wX3_has now_bound now_modulus now_seed now_functions a2 P_2 ∧ ∀ (rF_2 : Int32), P_2 rF_2 → ((rF_2 = 0 → (Q (-1) rf rm rl ru rn rv rows_turn n_rows_sieve_least rows_sieve_least rows_powers_cells rows_powers_ofPrime)) ∧ (¬ rF_2 = 0 → (∃ (P_3 : (Int32) → Prop), wX10_isReach now_bound now_modulus now_seed now_functions a3 P_3 ∧ ∀ (rF_3 : Int32), P_3 rF_3 → ((¬ rF_3 = 0 → (∃ (mcF_1 msF_1 : Nat) (P_4 : (Nat) → (Nat → Int32) → (Nat → Int32) → (Nat → Int32) → (Nat → Int32) → (Nat → Nat) → (Nat → Nat → Int32) → (Int32) → (Nat) → (Nat → Int32) → (Nat → Int32) → (Nat → Int32) → Prop), (0 + mcF_1 ≤ mc ∧ 0 + msF_1 ≤ ms) ∧ wX7_upTo mcF_1 msF_1 now_bound now_modulus now_seed now_functions rf rm rl ru rn rv rows_turn n_rows_sieve_least rows_sieve_least now_needs rows_powers_cells rows_powers_ofPrime now_firsts now_seconds now_kinds now_numbers now_colours a1 a3 P_4 ∧ ∀ (k_1 : Nat) (rf_1 : Nat → Int32) (rm_1 : Nat → Int32) (rl_1 : Nat → Int32) (ru_1 : Nat → Int32) (rn_1 : Nat → Nat) (rv_1 : Nat → Nat → Int32) (turn_1 : Int32) (n_sieve_least_1 : Nat) (sieve_least_1 : Nat → Int32) (powers_cells_1 : Nat → Int32) (powers_ofPrime_1 : Nat → Int32), P_4 k_1 rf_1 rm_1 rl_1 ru_1 rn_1 rv_1 turn_1 n_sieve_least_1 sieve_least_1 powers_cells_1 powers_ofPrime_1 → ∃ (mcF_2 msF_2 : Nat) (P_5 : (Nat) → (Nat → Int32) → (Nat → Int32) → (Nat → Int32) → (Nat → Int32) → (Nat → Nat) → (Nat → Nat → Int32) → (Int32) → (Nat) → (Nat → Int32) → (Nat → Int32) → (Nat → Int32) → Prop), (0 + mcF_1 + mcF_2 ≤ mc ∧ 0 + msF_1 + msF_2 ≤ ms) ∧ wX7_upTo mcF_2 msF_2 now_bound now_modulus now_seed now_functions rf_1 rm_1 rl_1 ru_1 rn_1 rv_1 turn_1 n_sieve_least_1 sieve_least_1 now_needs powers_cells_1 powers_ofPrime_1 now_firsts now_seconds now_kinds now_numbers now_colours a2 a3 P_5 ∧ ∀ (k_2 : Nat) (rf_2 : Nat → Int32) (rm_2 : Nat → Int32) (rl_2 : Nat → Int32) (ru_2 : Nat → Int32) (rn_2 : Nat → Nat) (rv_2 : Nat → Nat → Int32) (turn_2 : Int32) (n_sieve_least_2 : Nat) (sieve_least_2 : Nat → Int32) (powers_cells_2 : Nat → Int32) (powers_ofPrime_2 : Nat → Int32), P_5 k_2 rf_2 rm_2 rl_2 ru_2 rn_2 rv_2 turn_2 n_sieve_least_2 sieve_least_2 powers_cells_2 powers_ofPrime_2 → (∃ (Inv_1 : (Int64) → (Int32) → Prop) (Mea_1 : (Int64) → (Int32) → Nat), Inv_1 0 1 ∧ ∀ (x6_1 : Int64) (x8_1 : Int32), Inv_1 x6_1 x8_1 → ((a3 < x8_1 → (Q (x6_1.toInt32) rf_2 rm_2 rl_2 ru_2 rn_2 rv_2 turn_2 n_sieve_least_2 sieve_least_2 powers_cells_2 powers_ofPrime_2)) ∧ (¬ a3 < x8_1 → (∃ (P_6 : (Int32) → Prop), wX10_divided a3 x8_1 P_6 ∧ ∀ (rF_4 : Int32), P_6 rF_4 → ∃ (P_7 : (Int32) → Prop), wX10_divided a3 rF_4 P_7 ∧ ∀ (rF_5 : Int32), P_7 rF_5 → ∀ m_1 : Int32, m_1 = (if x8_1 < rF_5 then rF_5 else x8_1) → ∃ (P_8 : (Int32) → Prop), wX6_stretch (rf_2 k_1) (rm_2 k_1) (rl_2 k_1) (ru_2 k_1) (rn_2 k_1) (rv_2 k_1) x8_1 m_1 P_8 ∧ ∀ (rF_6 : Int32), P_8 rF_6 → ∃ (P_9 : (Int32) → Prop), wX6_sumTo (rf_2 k_2) (rm_2 k_2) (rl_2 k_2) (ru_2 k_2) (rn_2 k_2) (rv_2 k_2) rF_4 P_9 ∧ ∀ (rF_7 : Int32), P_9 rF_7 → ∃ (P_10 : (Int32) → Prop), wX3_rest now_bound now_modulus now_seed now_functions (x6_1 + ((rF_6.toInt64) * (rF_7.toInt64))) P_10 ∧ ∀ (rF_8 : Int32), P_10 rF_8 → ∀ x6_2 : Int64, x6_2 = rF_8.toInt64 → ∀ x8_2 : Int32, x8_2 = m_1 + 1 → (Inv_1 x6_2 x8_2 ∧ Mea_1 x6_2 x8_2 < Mea_1 x6_1 x8_1))))))) ∧ (rF_3 = 0 → (Q (-1) rf rm rl ru rn rv rows_turn n_rows_sieve_least rows_sieve_least rows_powers_cells rows_powers_ofPrime))))))))))
set_option maxHeartbeats 4000000 in
set_option maxRecDepth 100000 in
theorem mX10_hyper (l : Launch) (D : va_G) (Y : Nat → ClassId) (mc ms : Nat) (h0 : Nat) (ra : Nat → Nat) (q_now : Nat) (v_reader : Value) (v_changes : Value) (v_image : Value) (q_rows : Nat) (v_couples : Value) (now_bound : Int32) (now_modulus : Int32) (now_seed : Int32) (now_functions : Int32) (v_now_names : Value) (q_now_kinds : Nat) (q_now_firsts : Nat) (q_now_seconds : Nat) (v_now_degrees : Value) (q_now_colours : Nat) (q_now_needs : Nat) (q_now_numbers : Nat) (rs : Nat → Nat) (rf : Nat → Int32) (rm : Nat → Int32) (rl : Nat → Int32) (ru : Nat → Int32) (rn : Nat → Nat) (rv : Nat → Nat → Int32) (q_rows_sieve : Nat) (q_rows_powers : Nat) (q_rows_rows : Nat) (rows_turn : Int32) (q_rows_sieve_least : Nat) (n_rows_sieve_least : Nat) (rows_sieve_least : Nat → Int32) (now_needs : Nat → Int32) (q_rows_powers_ofPrime : Nat) (q_rows_powers_cells : Nat) (rows_powers_cells : Nat → Int32) (rows_powers_ofPrime : Nat → Int32) (now_firsts : Nat → Int32) (now_seconds : Nat → Int32) (now_kinds : Nat → Int32) (now_numbers : Nat → Int32) (now_colours : Nat → Int32) (a1 : Int32) (a2 : Int32) (a3 : Int32) (Q : (Int32) → (Nat → Int32) → (Nat → Int32) → (Nat → Int32) → (Nat → Int32) → (Nat → Nat) → (Nat → Nat → Int32) → (Int32) → (Nat) → (Nat → Int32) → (Nat → Int32) → (Nat → Int32) → Prop) (h : wX10_hyper mc ms now_bound now_modulus now_seed now_functions rf rm rl ru rn rv rows_turn n_rows_sieve_least rows_sieve_least now_needs rows_powers_cells rows_powers_ofPrime now_firsts now_seconds now_kinds now_numbers now_colours a1 a2 a3 Q) : gM l D Y yX10_hyper cX10_hyper 11 (some .int) 6 151 mc ms [.ref h0, .int a1, .int a2, .int a3] (rowsW Y ra rs rf rm rl ru rn rv ++ [oX10 h0 (.ref q_now) (v_reader) (v_changes) (v_image) (.ref q_rows) (v_couples), oX3 q_now now_bound now_modulus now_seed now_functions (v_now_names) (.ref q_now_kinds) (.ref q_now_firsts) (.ref q_now_seconds) (v_now_degrees) (.ref q_now_colours) (.ref q_now_needs) (.ref q_now_numbers), oX7 q_rows (.ref q_rows_sieve) (.ref q_rows_powers) (.ref q_rows_rows) rows_turn, aR Y q_rows_rows 4 (fun j => some (ra j)), oX8 q_rows_sieve (.ref q_rows_sieve_least), aI Y q_rows_sieve_least n_rows_sieve_least rows_sieve_least, aI Y q_now_needs 12 now_needs, oX4 q_rows_powers (.ref q_rows_powers_ofPrime) (.ref q_rows_powers_cells), aI Y q_rows_powers_cells 216 rows_powers_cells, aI Y q_rows_powers_ofPrime 18 rows_powers_ofPrime, aI Y q_now_firsts 12 now_firsts, aI Y q_now_seconds 12 now_seconds, aI Y q_now_kinds 12 now_kinds, aI Y q_now_numbers 144 now_numbers, aI Y q_now_colours 12 now_colours]) (fun v w => ∃ r : Int32, ∃ rs' : Nat → Nat, ∃ rf' : Nat → Int32, ∃ rm' : Nat → Int32, ∃ rl' : Nat → Int32, ∃ ru' : Nat → Int32, ∃ rn' : Nat → Nat, ∃ rv' : Nat → Nat → Int32, ∃ rows_turn' : Int32, ∃ q_rows_sieve_least' : Nat, ∃ n_rows_sieve_least' : Nat, ∃ rows_sieve_least' : Nat → Int32, ∃ rows_powers_cells' : Nat → Int32, ∃ rows_powers_ofPrime' : Nat → Int32, v = some (.int r) ∧ w = (rowsW Y ra rs' rf' rm' rl' ru' rn' rv' ++ [oX10 h0 (.ref q_now) (v_reader) (v_changes) (v_image) (.ref q_rows) (v_couples), oX3 q_now now_bound now_modulus now_seed now_functions (v_now_names) (.ref q_now_kinds) (.ref q_now_firsts) (.ref q_now_seconds) (v_now_degrees) (.ref q_now_colours) (.ref q_now_needs) (.ref q_now_numbers), oX7 q_rows (.ref q_rows_sieve) (.ref q_rows_powers) (.ref q_rows_rows) rows_turn', aR Y q_rows_rows 4 (fun j => some (ra j)), oX8 q_rows_sieve (.ref q_rows_sieve_least'), aI Y q_rows_sieve_least' n_rows_sieve_least' rows_sieve_least', aI Y q_now_needs 12 now_needs, oX4 q_rows_powers (.ref q_rows_powers_ofPrime) (.ref q_rows_powers_cells), aI Y q_rows_powers_cells 216 rows_powers_cells', aI Y q_rows_powers_ofPrime 18 rows_powers_ofPrime', aI Y q_now_firsts 12 now_firsts, aI Y q_now_seconds 12 now_seconds, aI Y q_now_kinds 12 now_kinds, aI Y q_now_numbers 144 now_numbers, aI Y q_now_colours 12 now_colours]) ∧ Q r rf' rm' rl' ru' rn' rv' rows_turn' n_rows_sieve_least' rows_sieve_least' rows_powers_cells' rows_powers_ofPrime') := by
  refine gM_of (own := RX10) (by decide +kernel) rfl (Nat.le_of_ble_eq_true rfl) rfl (fun E C hR => ?_)
  unfold wX10_hyper at h
  refine g_aload_n C dX10_hyper_0 0 rfl ?_
  refine g_get C inX10 8 rfl rfl 0 (by decide) wF_X10_10 rfl dX10_hyper_1 ?_
  refine g_iload_n C dX10_hyper_4 1 rfl ?_
  obtain ⟨P_1, hP, h⟩ := h
  refine g_callV (As := [.int a1]) (rest := []) C (mX3_has l D Y q_now now_bound now_modulus now_seed now_functions v_now_names (.ref q_now_kinds) (.ref q_now_firsts) (.ref q_now_seconds) v_now_degrees (.ref q_now_colours) (.ref q_now_needs) (.ref q_now_numbers) a1 P_1 hP) dX10_hyper_5 rfl wM_X10_98 wI_X3_has wV_X3_has wN_X3 wC_X3_has (n := 1) (by decide +kernel) rfl (q0 := 0) rfl rfl ⟨Nat.le_of_ble_eq_true rfl, Nat.le_of_ble_eq_true rfl⟩ ⟨Nat.zero_le _, Nat.zero_le _⟩ (Nat.le_of_ble_eq_true rfl) [9] [0, 1, 2, 3, 4, 5, 6, 7, 8, 10, 11, 12, 13, 14, 15, 16, 17, 18, 19, 20, 21, 22] rfl rfl rfl (fun v wc hv => ?_)
  obtain ⟨rF_1, rfl, rfl, hq⟩ := hv
  replace h := h rF_1 hq
  refine gG.perm (ws' := (rowsW Y ra rs rf rm rl ru rn rv ++ [oX10 h0 (.ref q_now) (v_reader) (v_changes) (v_image) (.ref q_rows) (v_couples), oX3 q_now now_bound now_modulus now_seed now_functions (v_now_names) (.ref q_now_kinds) (.ref q_now_firsts) (.ref q_now_seconds) (v_now_degrees) (.ref q_now_colours) (.ref q_now_needs) (.ref q_now_numbers), oX7 q_rows (.ref q_rows_sieve) (.ref q_rows_powers) (.ref q_rows_rows) rows_turn, aR Y q_rows_rows 4 (fun j => some (ra j)), oX8 q_rows_sieve (.ref q_rows_sieve_least), aI Y q_rows_sieve_least n_rows_sieve_least rows_sieve_least, aI Y q_now_needs 12 now_needs, oX4 q_rows_powers (.ref q_rows_powers_ofPrime) (.ref q_rows_powers_cells), aI Y q_rows_powers_cells 216 rows_powers_cells, aI Y q_rows_powers_ofPrime 18 rows_powers_ofPrime, aI Y q_now_firsts 12 now_firsts, aI Y q_now_seconds 12 now_seconds, aI Y q_now_kinds 12 now_kinds, aI Y q_now_numbers 144 now_numbers, aI Y q_now_colours 12 now_colours])) [0, 1, 2, 3, 4, 5, 6, 7, 8, 22, 9, 10, 11, 12, 13, 14, 15, 16, 17, 18, 19, 20, 21] rfl rfl ?_
  refine g_if_eq (tgt := 30) C dX10_hyper_8 (by decide) (fun c_1 => ?_) (fun c_1 => ?_)
  · replace h := h.1 c_1
    refine g_iconst (v := (-1)) C dX10_hyper_30 rfl ?_
    exact g_iret C hR (show 0 ≤ mc ∧ 0 ≤ ms from ⟨Nat.zero_le _, Nat.zero_le _⟩).1 (show 0 ≤ mc ∧ 0 ≤ ms from ⟨Nat.zero_le _, Nat.zero_le _⟩).2 dX10_hyper_31 ⟨(-1), rs, rf, rm, rl, ru, rn, rv, rows_turn, q_rows_sieve_least, n_rows_sieve_least, rows_sieve_least, rows_powers_cells, rows_powers_ofPrime, rfl, rfl, h⟩
  · replace h := h.2 c_1
    refine g_aload_n C dX10_hyper_11 0 rfl ?_
    refine g_get C inX10 8 rfl rfl 0 (by decide) wF_X10_10 rfl dX10_hyper_12 ?_
    refine g_iload_n C dX10_hyper_15 2 rfl ?_
    obtain ⟨P_2, hP, h⟩ := h
    refine g_callV (As := [.int a2]) (rest := []) C (mX3_has l D Y q_now now_bound now_modulus now_seed now_functions v_now_names (.ref q_now_kinds) (.ref q_now_firsts) (.ref q_now_seconds) v_now_degrees (.ref q_now_colours) (.ref q_now_needs) (.ref q_now_numbers) a2 P_2 hP) dX10_hyper_16 rfl wM_X10_98 wI_X3_has wV_X3_has wN_X3 wC_X3_has (n := 1) (by decide +kernel) rfl (q0 := 0) rfl rfl ⟨Nat.le_of_ble_eq_true rfl, Nat.le_of_ble_eq_true rfl⟩ ⟨Nat.zero_le _, Nat.zero_le _⟩ (Nat.le_of_ble_eq_true rfl) [9] [0, 1, 2, 3, 4, 5, 6, 7, 8, 10, 11, 12, 13, 14, 15, 16, 17, 18, 19, 20, 21, 22] rfl rfl rfl (fun v wc hv => ?_)
    obtain ⟨rF_2, rfl, rfl, hq⟩ := hv
    replace h := h rF_2 hq
    refine gG.perm (ws' := (rowsW Y ra rs rf rm rl ru rn rv ++ [oX10 h0 (.ref q_now) (v_reader) (v_changes) (v_image) (.ref q_rows) (v_couples), oX3 q_now now_bound now_modulus now_seed now_functions (v_now_names) (.ref q_now_kinds) (.ref q_now_firsts) (.ref q_now_seconds) (v_now_degrees) (.ref q_now_colours) (.ref q_now_needs) (.ref q_now_numbers), oX7 q_rows (.ref q_rows_sieve) (.ref q_rows_powers) (.ref q_rows_rows) rows_turn, aR Y q_rows_rows 4 (fun j => some (ra j)), oX8 q_rows_sieve (.ref q_rows_sieve_least), aI Y q_rows_sieve_least n_rows_sieve_least rows_sieve_least, aI Y q_now_needs 12 now_needs, oX4 q_rows_powers (.ref q_rows_powers_ofPrime) (.ref q_rows_powers_cells), aI Y q_rows_powers_cells 216 rows_powers_cells, aI Y q_rows_powers_ofPrime 18 rows_powers_ofPrime, aI Y q_now_firsts 12 now_firsts, aI Y q_now_seconds 12 now_seconds, aI Y q_now_kinds 12 now_kinds, aI Y q_now_numbers 144 now_numbers, aI Y q_now_colours 12 now_colours])) [0, 1, 2, 3, 4, 5, 6, 7, 8, 22, 9, 10, 11, 12, 13, 14, 15, 16, 17, 18, 19, 20, 21] rfl rfl ?_
    refine g_if_eq (tgt := 30) C dX10_hyper_19 (by decide) (fun c_2 => ?_) (fun c_2 => ?_)
    · replace h := h.1 c_2
      refine g_iconst (v := (-1)) C dX10_hyper_30 rfl ?_
      exact g_iret C hR (show 0 ≤ mc ∧ 0 ≤ ms from ⟨Nat.zero_le _, Nat.zero_le _⟩).1 (show 0 ≤ mc ∧ 0 ≤ ms from ⟨Nat.zero_le _, Nat.zero_le _⟩).2 dX10_hyper_31 ⟨(-1), rs, rf, rm, rl, ru, rn, rv, rows_turn, q_rows_sieve_least, n_rows_sieve_least, rows_sieve_least, rows_powers_cells, rows_powers_ofPrime, rfl, rfl, h⟩
    · replace h := h.2 c_2
      refine g_aload_n C dX10_hyper_22 0 rfl ?_
      refine g_iload_n C dX10_hyper_23 3 rfl ?_
      obtain ⟨P_3, hP, h⟩ := h
      refine g_callV (As := [.int a3]) (rest := []) C (mX10_isReach l D Y h0 q_now v_reader v_changes v_image (.ref q_rows) v_couples now_bound now_modulus now_seed now_functions v_now_names (.ref q_now_kinds) (.ref q_now_firsts) (.ref q_now_seconds) v_now_degrees (.ref q_now_colours) (.ref q_now_needs) (.ref q_now_numbers) a3 P_3 hP) dX10_hyper_24 rfl wM_X10_179 wI_X10_isReach wV_X10_isReach wN_X10 wC_X10_isReach (n := 1) (by decide +kernel) rfl (q0 := 0) rfl rfl ⟨Nat.le_of_ble_eq_true rfl, Nat.le_of_ble_eq_true rfl⟩ ⟨Nat.zero_le _, Nat.zero_le _⟩ (Nat.le_of_ble_eq_true rfl) [8, 9] [0, 1, 2, 3, 4, 5, 6, 7, 10, 11, 12, 13, 14, 15, 16, 17, 18, 19, 20, 21, 22] rfl rfl rfl (fun v wc hv => ?_)
      obtain ⟨rF_3, rfl, rfl, hq⟩ := hv
      replace h := h rF_3 hq
      refine gG.perm (ws' := (rowsW Y ra rs rf rm rl ru rn rv ++ [oX10 h0 (.ref q_now) (v_reader) (v_changes) (v_image) (.ref q_rows) (v_couples), oX3 q_now now_bound now_modulus now_seed now_functions (v_now_names) (.ref q_now_kinds) (.ref q_now_firsts) (.ref q_now_seconds) (v_now_degrees) (.ref q_now_colours) (.ref q_now_needs) (.ref q_now_numbers), oX7 q_rows (.ref q_rows_sieve) (.ref q_rows_powers) (.ref q_rows_rows) rows_turn, aR Y q_rows_rows 4 (fun j => some (ra j)), oX8 q_rows_sieve (.ref q_rows_sieve_least), aI Y q_rows_sieve_least n_rows_sieve_least rows_sieve_least, aI Y q_now_needs 12 now_needs, oX4 q_rows_powers (.ref q_rows_powers_ofPrime) (.ref q_rows_powers_cells), aI Y q_rows_powers_cells 216 rows_powers_cells, aI Y q_rows_powers_ofPrime 18 rows_powers_ofPrime, aI Y q_now_firsts 12 now_firsts, aI Y q_now_seconds 12 now_seconds, aI Y q_now_kinds 12 now_kinds, aI Y q_now_numbers 144 now_numbers, aI Y q_now_colours 12 now_colours])) [0, 1, 2, 3, 4, 5, 6, 7, 21, 22, 8, 9, 10, 11, 12, 13, 14, 15, 16, 17, 18, 19, 20] rfl rfl ?_
      refine g_if_ne (tgt := 32) C dX10_hyper_27 (by decide) (fun c_3 => ?_) (fun c_3 => ?_)
      · replace h := h.1 c_3
        refine g_aload_n C dX10_hyper_32 0 rfl ?_
        refine g_get C inX10 8 rfl rfl 4 (by decide) wF_X10_40 rfl dX10_hyper_33 ?_
        refine g_aload_n C dX10_hyper_36 0 rfl ?_
        refine g_get C inX10 8 rfl rfl 0 (by decide) wF_X10_10 rfl dX10_hyper_37 ?_
        refine g_iload_n C dX10_hyper_40 1 rfl ?_
        refine g_iload_n C dX10_hyper_41 3 rfl ?_
        obtain ⟨mcF_1, msF_1, P_4, hk_1, hP, h⟩ := h
        refine g_callV (As := [.ref q_now, .int a1, .int a3]) (rest := []) C (mX7_upTo l D Y mcF_1 msF_1 q_rows ra q_now now_bound now_modulus now_seed now_functions v_now_names q_now_kinds q_now_firsts q_now_seconds v_now_degrees q_now_colours q_now_needs q_now_numbers rs rf rm rl ru rn rv q_rows_sieve q_rows_powers q_rows_rows rows_turn q_rows_sieve_least n_rows_sieve_least rows_sieve_least now_needs q_rows_powers_ofPrime q_rows_powers_cells rows_powers_cells rows_powers_ofPrime now_firsts now_seconds now_kinds now_numbers now_colours a1 a3 P_4 hP) dX10_hyper_42 rfl wM_X10_182 wI_X7_upTo wV_X7_upTo wN_X7 wC_X7_upTo (n := 3) (by decide +kernel) rfl (q0 := 9) rfl rfl ⟨Nat.le_of_ble_eq_true rfl, Nat.le_of_ble_eq_true rfl⟩ hk_1 (Nat.le_of_ble_eq_true rfl) [0, 1, 2, 3, 4, 5, 6, 7, 9, 10, 11, 12, 13, 14, 15, 16, 17, 18, 19, 20, 21, 22] [8] rfl rfl rfl (fun v wc hv => ?_)
        obtain ⟨k_1, rs_1, rf_1, rm_1, rl_1, ru_1, rn_1, rv_1, turn_1, q_sieve_least_1, n_sieve_least_1, sieve_least_1, powers_cells_1, powers_ofPrime_1, rfl, rfl, hkk_1, hq⟩ := hv
        replace h := h k_1 rf_1 rm_1 rl_1 ru_1 rn_1 rv_1 turn_1 n_sieve_least_1 sieve_least_1 powers_cells_1 powers_ofPrime_1 hq
        refine gG.perm (ws' := (rowsW Y ra rs_1 rf_1 rm_1 rl_1 ru_1 rn_1 rv_1 ++ [oX10 h0 (.ref q_now) (v_reader) (v_changes) (v_image) (.ref q_rows) (v_couples), oX3 q_now now_bound now_modulus now_seed now_functions (v_now_names) (.ref q_now_kinds) (.ref q_now_firsts) (.ref q_now_seconds) (v_now_degrees) (.ref q_now_colours) (.ref q_now_needs) (.ref q_now_numbers), oX7 q_rows (.ref q_rows_sieve) (.ref q_rows_powers) (.ref q_rows_rows) turn_1, aR Y q_rows_rows 4 (fun j => some (ra j)), oX8 q_rows_sieve (.ref q_sieve_least_1), aI Y q_sieve_least_1 n_sieve_least_1 sieve_least_1, aI Y q_now_needs 12 now_needs, oX4 q_rows_powers (.ref q_rows_powers_ofPrime) (.ref q_rows_powers_cells), aI Y q_rows_powers_cells 216 powers_cells_1, aI Y q_rows_powers_ofPrime 18 powers_ofPrime_1, aI Y q_now_firsts 12 now_firsts, aI Y q_now_seconds 12 now_seconds, aI Y q_now_kinds 12 now_kinds, aI Y q_now_numbers 144 now_numbers, aI Y q_now_colours 12 now_colours])) [1, 2, 3, 4, 5, 6, 7, 8, 0, 9, 10, 11, 12, 13, 14, 15, 16, 17, 18, 19, 20, 21, 22] rfl rfl ?_
        refine g_astore (lv' := [(4, .ref (ra k_1)), (0, .ref h0), (1, .int a1), (2, .int a2), (3, .int a3)]) C dX10_hyper_45 (by decide) rfl ?_
        refine g_aload_n C dX10_hyper_47 1 rfl ?_
        refine g_get C inX10 8 rfl rfl 4 (by decide) wF_X10_40 rfl dX10_hyper_48 ?_
        refine g_aload_n C dX10_hyper_51 1 rfl ?_
        refine g_get C inX10 8 rfl rfl 0 (by decide) wF_X10_10 rfl dX10_hyper_52 ?_
        refine g_iload_n C dX10_hyper_55 3 rfl ?_
        refine g_iload_n C dX10_hyper_56 4 rfl ?_
        obtain ⟨mcF_2, msF_2, P_5, hk_2, hP, h⟩ := h
        refine g_callV (As := [.ref q_now, .int a2, .int a3]) (rest := []) C (mX7_upTo l D Y mcF_2 msF_2 q_rows ra q_now now_bound now_modulus now_seed now_functions v_now_names q_now_kinds q_now_firsts q_now_seconds v_now_degrees q_now_colours q_now_needs q_now_numbers rs_1 rf_1 rm_1 rl_1 ru_1 rn_1 rv_1 q_rows_sieve q_rows_powers q_rows_rows turn_1 q_sieve_least_1 n_sieve_least_1 sieve_least_1 now_needs q_rows_powers_ofPrime q_rows_powers_cells powers_cells_1 powers_ofPrime_1 now_firsts now_seconds now_kinds now_numbers now_colours a2 a3 P_5 hP) dX10_hyper_57 rfl wM_X10_182 wI_X7_upTo wV_X7_upTo wN_X7 wC_X7_upTo (n := 3) (by decide +kernel) rfl (q0 := 9) rfl rfl ⟨Nat.le_of_ble_eq_true rfl, Nat.le_of_ble_eq_true rfl⟩ hk_2 (Nat.le_of_ble_eq_true rfl) [0, 1, 2, 3, 4, 5, 6, 7, 9, 10, 11, 12, 13, 14, 15, 16, 17, 18, 19, 20, 21, 22] [8] rfl rfl rfl (fun v wc hv => ?_)
        obtain ⟨k_2, rs_2, rf_2, rm_2, rl_2, ru_2, rn_2, rv_2, turn_2, q_sieve_least_2, n_sieve_least_2, sieve_least_2, powers_cells_2, powers_ofPrime_2, rfl, rfl, hkk_2, hq⟩ := hv
        replace h := h k_2 rf_2 rm_2 rl_2 ru_2 rn_2 rv_2 turn_2 n_sieve_least_2 sieve_least_2 powers_cells_2 powers_ofPrime_2 hq
        refine gG.perm (ws' := (rowsW Y ra rs_2 rf_2 rm_2 rl_2 ru_2 rn_2 rv_2 ++ [oX10 h0 (.ref q_now) (v_reader) (v_changes) (v_image) (.ref q_rows) (v_couples), oX3 q_now now_bound now_modulus now_seed now_functions (v_now_names) (.ref q_now_kinds) (.ref q_now_firsts) (.ref q_now_seconds) (v_now_degrees) (.ref q_now_colours) (.ref q_now_needs) (.ref q_now_numbers), oX7 q_rows (.ref q_rows_sieve) (.ref q_rows_powers) (.ref q_rows_rows) turn_2, aR Y q_rows_rows 4 (fun j => some (ra j)), oX8 q_rows_sieve (.ref q_sieve_least_2), aI Y q_sieve_least_2 n_sieve_least_2 sieve_least_2, aI Y q_now_needs 12 now_needs, oX4 q_rows_powers (.ref q_rows_powers_ofPrime) (.ref q_rows_powers_cells), aI Y q_rows_powers_cells 216 powers_cells_2, aI Y q_rows_powers_ofPrime 18 powers_ofPrime_2, aI Y q_now_firsts 12 now_firsts, aI Y q_now_seconds 12 now_seconds, aI Y q_now_kinds 12 now_kinds, aI Y q_now_numbers 144 now_numbers, aI Y q_now_colours 12 now_colours])) [1, 2, 3, 4, 5, 6, 7, 8, 0, 9, 10, 11, 12, 13, 14, 15, 16, 17, 18, 19, 20, 21, 22] rfl rfl ?_
        refine g_astore (lv' := [(5, .ref (ra k_2)), (4, .ref (ra k_1)), (0, .ref h0), (1, .int a1), (2, .int a2), (3, .int a3)]) C dX10_hyper_60 (by decide) rfl ?_
        refine g_lconst (v := 0) C dX10_hyper_62 rfl ?_
        refine g_lstore (lv' := [(6, .long 0), (5, .ref (ra k_2)), (4, .ref (ra k_1)), (0, .ref h0), (1, .int a1), (2, .int a2), (3, .int a3)]) C dX10_hyper_63 (by decide) rfl ?_
        refine g_iconst (v := 1) C dX10_hyper_65 rfl ?_
        refine g_istore (lv' := [(8, .int 1), (6, .long 0), (5, .ref (ra k_2)), (4, .ref (ra k_1)), (0, .ref h0), (1, .int a1), (2, .int a2), (3, .int a3)]) C dX10_hyper_66 (by decide) rfl ?_
        refine g_iconst (v := 0) C dX10_hyper_68 rfl ?_
        refine g_istore (lv' := [(9, .int 0), (8, .int 1), (6, .long 0), (5, .ref (ra k_2)), (4, .ref (ra k_1)), (0, .ref h0), (1, .int a1), (2, .int a2), (3, .int a3)]) C dX10_hyper_69 (by decide) rfl ?_
        obtain ⟨Inv_1, Mea_1, hI1, hB1⟩ := h
        have key_1 : ∀ (n : Nat) (x6_1 : Int64) (x8_1 : Int32) , Mea_1 x6_1 x8_1 < n → Inv_1 x6_1 x8_1 → gG E (0 + mcF_1 + mcF_2) (0 + msF_1 + msF_2) (rowsW Y ra rs_2 rf_2 rm_2 rl_2 ru_2 rn_2 rv_2 ++ [oX10 h0 (.ref q_now) (v_reader) (v_changes) (v_image) (.ref q_rows) (v_couples), oX3 q_now now_bound now_modulus now_seed now_functions (v_now_names) (.ref q_now_kinds) (.ref q_now_firsts) (.ref q_now_seconds) (v_now_degrees) (.ref q_now_colours) (.ref q_now_needs) (.ref q_now_numbers), oX7 q_rows (.ref q_rows_sieve) (.ref q_rows_powers) (.ref q_rows_rows) turn_2, aR Y q_rows_rows 4 (fun j => some (ra j)), oX8 q_rows_sieve (.ref q_sieve_least_2), aI Y q_sieve_least_2 n_sieve_least_2 sieve_least_2, aI Y q_now_needs 12 now_needs, oX4 q_rows_powers (.ref q_rows_powers_ofPrime) (.ref q_rows_powers_cells), aI Y q_rows_powers_cells 216 powers_cells_2, aI Y q_rows_powers_ofPrime 18 powers_ofPrime_2, aI Y q_now_firsts 12 now_firsts, aI Y q_now_seconds 12 now_seconds, aI Y q_now_kinds 12 now_kinds, aI Y q_now_numbers 144 now_numbers, aI Y q_now_colours 12 now_colours]) [(0, .ref h0), (3, .int a3), (4, .ref (ra k_1)), (5, .ref (ra k_2)), (6, .long x6_1), (8, .int x8_1)] [] 71 := by
          intro n
          induction n with
          | zero => exact fun _ _ hm => absurd hm (Nat.not_lt_zero _)
          | succ n ih1 =>
            intro x6_1 x8_1  hm1 hI
            have h := hB1 x6_1 x8_1 hI
            refine g_iload C dX10_hyper_71 5 rfl ?_
            refine g_iload_n C dX10_hyper_73 1 rfl ?_
            refine g_icmp_gt (tgt := 139) C dX10_hyper_74 (by decide) (fun c_4 => ?_) (fun c_4 => ?_)
            · replace h := h.1 c_4
              refine g_lload C dX10_hyper_139 4 rfl ?_
              refine g_l2i C dX10_hyper_141 ?_
              exact g_iret C hR (show 0 + mcF_1 + mcF_2 ≤ mc ∧ 0 + msF_1 + msF_2 ≤ ms from hk_2).1 (show 0 + mcF_1 + mcF_2 ≤ mc ∧ 0 + msF_1 + msF_2 ≤ ms from hk_2).2 dX10_hyper_142 ⟨x6_1.toInt32, rs_2, rf_2, rm_2, rl_2, ru_2, rn_2, rv_2, turn_2, q_sieve_least_2, n_sieve_least_2, sieve_least_2, powers_cells_2, powers_ofPrime_2, rfl, rfl, h⟩
            · replace h := h.2 c_4
              refine g_iload_n C dX10_hyper_77 1 rfl ?_
              refine g_iload C dX10_hyper_78 5 rfl ?_
              obtain ⟨P_6, hP, h⟩ := h
              refine g_callS (As := [.int a3, .int x8_1]) (rest := []) C (mX10_divided l D Y a3 x8_1 P_6 hP) dX10_hyper_80 rfl wM_X10_219 wS_X10_divided wN_X10 wC_X10_divided (n := 2) (by decide +kernel) rfl ⟨Nat.le_of_ble_eq_true rfl, Nat.le_of_ble_eq_true rfl⟩ hk_2 (Nat.le_of_ble_eq_true rfl) [] [0, 1, 2, 3, 4, 5, 6, 7, 8, 9, 10, 11, 12, 13, 14, 15, 16, 17, 18, 19, 20, 21, 22] rfl rfl rfl (fun v wc hv => ?_)
              obtain ⟨rF_4, rfl, rfl, hq⟩ := hv
              replace h := h rF_4 hq
              refine gG.eqw (ws' := (rowsW Y ra rs_2 rf_2 rm_2 rl_2 ru_2 rn_2 rv_2 ++ [oX10 h0 (.ref q_now) (v_reader) (v_changes) (v_image) (.ref q_rows) (v_couples), oX3 q_now now_bound now_modulus now_seed now_functions (v_now_names) (.ref q_now_kinds) (.ref q_now_firsts) (.ref q_now_seconds) (v_now_degrees) (.ref q_now_colours) (.ref q_now_needs) (.ref q_now_numbers), oX7 q_rows (.ref q_rows_sieve) (.ref q_rows_powers) (.ref q_rows_rows) turn_2, aR Y q_rows_rows 4 (fun j => some (ra j)), oX8 q_rows_sieve (.ref q_sieve_least_2), aI Y q_sieve_least_2 n_sieve_least_2 sieve_least_2, aI Y q_now_needs 12 now_needs, oX4 q_rows_powers (.ref q_rows_powers_ofPrime) (.ref q_rows_powers_cells), aI Y q_rows_powers_cells 216 powers_cells_2, aI Y q_rows_powers_ofPrime 18 powers_ofPrime_2, aI Y q_now_firsts 12 now_firsts, aI Y q_now_seconds 12 now_seconds, aI Y q_now_kinds 12 now_kinds, aI Y q_now_numbers 144 now_numbers, aI Y q_now_colours 12 now_colours])) rfl ?_
              refine g_istore (lv' := [(10, .int rF_4), (0, .ref h0), (3, .int a3), (4, .ref (ra k_1)), (5, .ref (ra k_2)), (6, .long x6_1), (8, .int x8_1)]) C dX10_hyper_83 (by decide) rfl ?_
              refine g_iload C dX10_hyper_85 6 rfl ?_
              refine g_iload_n C dX10_hyper_87 2 rfl ?_
              refine g_iload C dX10_hyper_88 0 rfl ?_
              obtain ⟨P_7, hP, h⟩ := h
              refine g_callS (As := [.int a3, .int rF_4]) (rest := [.int x8_1]) C (mX10_divided l D Y a3 rF_4 P_7 hP) dX10_hyper_90 rfl wM_X10_219 wS_X10_divided wN_X10 wC_X10_divided (n := 2) (by decide +kernel) rfl ⟨Nat.le_of_ble_eq_true rfl, Nat.le_of_ble_eq_true rfl⟩ hk_2 (Nat.le_of_ble_eq_true rfl) [] [0, 1, 2, 3, 4, 5, 6, 7, 8, 9, 10, 11, 12, 13, 14, 15, 16, 17, 18, 19, 20, 21, 22] rfl rfl rfl (fun v wc hv => ?_)
              obtain ⟨rF_5, rfl, rfl, hq⟩ := hv
              replace h := h rF_5 hq
              refine gG.eqw (ws' := (rowsW Y ra rs_2 rf_2 rm_2 rl_2 ru_2 rn_2 rv_2 ++ [oX10 h0 (.ref q_now) (v_reader) (v_changes) (v_image) (.ref q_rows) (v_couples), oX3 q_now now_bound now_modulus now_seed now_functions (v_now_names) (.ref q_now_kinds) (.ref q_now_firsts) (.ref q_now_seconds) (v_now_degrees) (.ref q_now_colours) (.ref q_now_needs) (.ref q_now_numbers), oX7 q_rows (.ref q_rows_sieve) (.ref q_rows_powers) (.ref q_rows_rows) turn_2, aR Y q_rows_rows 4 (fun j => some (ra j)), oX8 q_rows_sieve (.ref q_sieve_least_2), aI Y q_sieve_least_2 n_sieve_least_2 sieve_least_2, aI Y q_now_needs 12 now_needs, oX4 q_rows_powers (.ref q_rows_powers_ofPrime) (.ref q_rows_powers_cells), aI Y q_rows_powers_cells 216 powers_cells_2, aI Y q_rows_powers_ofPrime 18 powers_ofPrime_2, aI Y q_now_firsts 12 now_firsts, aI Y q_now_seconds 12 now_seconds, aI Y q_now_kinds 12 now_kinds, aI Y q_now_numbers 144 now_numbers, aI Y q_now_colours 12 now_colours])) rfl ?_
              refine g_mmax C wM_X10_225 dX10_hyper_93 ⟨Nat.le_of_ble_eq_true rfl, Nat.le_of_ble_eq_true rfl⟩ hk_2 ?_
              refine g_topi (fun m_1 em_1 => ?_)
              replace h := h m_1 em_1
              refine g_istore (lv' := [(9, .int m_1), (10, .int rF_4), (0, .ref h0), (3, .int a3), (4, .ref (ra k_1)), (5, .ref (ra k_2)), (6, .long x6_1), (8, .int x8_1)]) C dX10_hyper_96 (by decide) rfl ?_
              refine g_aload_n C dX10_hyper_98 2 rfl ?_
              refine g_get C inX10 8 rfl rfl 0 (by decide) wF_X10_10 rfl dX10_hyper_99 ?_
              refine g_lload C dX10_hyper_102 6 rfl ?_
              refine g_aload C dX10_hyper_104 4 rfl ?_
              refine g_iload C dX10_hyper_106 7 rfl ?_
              refine g_iload C dX10_hyper_108 0 rfl ?_
              obtain ⟨P_8, hP, h⟩ := h
              refine g_callV (As := [.int x8_1, .int m_1]) (rest := [.long x6_1, .ref q_now]) C (mX6_stretch_at l D Y ra k_1 (hkk_1) rs_2 rf_2 rm_2 rl_2 ru_2 rn_2 rv_2 x8_1 m_1 P_8 hP) dX10_hyper_110 rfl wM_X10_191 wI_X6_stretch wV_X6_stretch wN_X6 wC_X6_stretch (n := 2) (by decide +kernel) rfl (q0 := (2 * k_1)) (rowsW_obj0 _ _ _ _ _ _ _ _ _ (hkk_1)) rfl ⟨Nat.le_of_ble_eq_true rfl, Nat.le_of_ble_eq_true rfl⟩ hk_2 (Nat.le_of_ble_eq_true rfl) [0, 1, 2, 3, 4, 5, 6, 7] [8, 9, 10, 11, 12, 13, 14, 15, 16, 17, 18, 19, 20, 21, 22] rfl rfl rfl (fun v wc hv => ?_)
              obtain ⟨rF_6, rfl, rfl, hq⟩ := hv
              replace h := h rF_6 hq
              refine gG.perm (ws' := (rowsW Y ra rs_2 rf_2 rm_2 rl_2 ru_2 rn_2 rv_2 ++ [oX10 h0 (.ref q_now) (v_reader) (v_changes) (v_image) (.ref q_rows) (v_couples), oX3 q_now now_bound now_modulus now_seed now_functions (v_now_names) (.ref q_now_kinds) (.ref q_now_firsts) (.ref q_now_seconds) (v_now_degrees) (.ref q_now_colours) (.ref q_now_needs) (.ref q_now_numbers), oX7 q_rows (.ref q_rows_sieve) (.ref q_rows_powers) (.ref q_rows_rows) turn_2, aR Y q_rows_rows 4 (fun j => some (ra j)), oX8 q_rows_sieve (.ref q_sieve_least_2), aI Y q_sieve_least_2 n_sieve_least_2 sieve_least_2, aI Y q_now_needs 12 now_needs, oX4 q_rows_powers (.ref q_rows_powers_ofPrime) (.ref q_rows_powers_cells), aI Y q_rows_powers_cells 216 powers_cells_2, aI Y q_rows_powers_ofPrime 18 powers_ofPrime_2, aI Y q_now_firsts 12 now_firsts, aI Y q_now_seconds 12 now_seconds, aI Y q_now_kinds 12 now_kinds, aI Y q_now_numbers 144 now_numbers, aI Y q_now_colours 12 now_colours])) [15, 16, 17, 18, 19, 20, 21, 22, 0, 1, 2, 3, 4, 5, 6, 7, 8, 9, 10, 11, 12, 13, 14] rfl rfl ?_
              refine g_i2l C dX10_hyper_113 ?_
              refine g_aload C dX10_hyper_114 5 rfl ?_
              refine g_iload C dX10_hyper_116 1 rfl ?_
              obtain ⟨P_9, hP, h⟩ := h
              refine g_callV (As := [.int rF_4]) (rest := [.long (rF_6.toInt64), .long x6_1, .ref q_now]) C (mX6_sumTo_at l D Y ra k_2 (hkk_2) rs_2 rf_2 rm_2 rl_2 ru_2 rn_2 rv_2 rF_4 P_9 hP) dX10_hyper_118 rfl wM_X10_186 wI_X6_sumTo wV_X6_sumTo wN_X6 wC_X6_sumTo (n := 1) (by decide +kernel) rfl (q0 := (2 * k_2)) (rowsW_obj0 _ _ _ _ _ _ _ _ _ (hkk_2)) rfl ⟨Nat.le_of_ble_eq_true rfl, Nat.le_of_ble_eq_true rfl⟩ hk_2 (Nat.le_of_ble_eq_true rfl) [0, 1, 2, 3, 4, 5, 6, 7] [8, 9, 10, 11, 12, 13, 14, 15, 16, 17, 18, 19, 20, 21, 22] rfl rfl rfl (fun v wc hv => ?_)
              obtain ⟨rF_7, rfl, rfl, hq⟩ := hv
              replace h := h rF_7 hq
              refine gG.perm (ws' := (rowsW Y ra rs_2 rf_2 rm_2 rl_2 ru_2 rn_2 rv_2 ++ [oX10 h0 (.ref q_now) (v_reader) (v_changes) (v_image) (.ref q_rows) (v_couples), oX3 q_now now_bound now_modulus now_seed now_functions (v_now_names) (.ref q_now_kinds) (.ref q_now_firsts) (.ref q_now_seconds) (v_now_degrees) (.ref q_now_colours) (.ref q_now_needs) (.ref q_now_numbers), oX7 q_rows (.ref q_rows_sieve) (.ref q_rows_powers) (.ref q_rows_rows) turn_2, aR Y q_rows_rows 4 (fun j => some (ra j)), oX8 q_rows_sieve (.ref q_sieve_least_2), aI Y q_sieve_least_2 n_sieve_least_2 sieve_least_2, aI Y q_now_needs 12 now_needs, oX4 q_rows_powers (.ref q_rows_powers_ofPrime) (.ref q_rows_powers_cells), aI Y q_rows_powers_cells 216 powers_cells_2, aI Y q_rows_powers_ofPrime 18 powers_ofPrime_2, aI Y q_now_firsts 12 now_firsts, aI Y q_now_seconds 12 now_seconds, aI Y q_now_kinds 12 now_kinds, aI Y q_now_numbers 144 now_numbers, aI Y q_now_colours 12 now_colours])) [15, 16, 17, 18, 19, 20, 21, 22, 0, 1, 2, 3, 4, 5, 6, 7, 8, 9, 10, 11, 12, 13, 14] rfl rfl ?_
              refine g_i2l C dX10_hyper_121 ?_
              refine g_lmul C dX10_hyper_122 ?_
              refine g_ladd C dX10_hyper_123 ?_
              obtain ⟨P_10, hP, h⟩ := h
              refine g_callV (As := [.long (x6_1 + ((rF_6.toInt64) * (rF_7.toInt64)))]) (rest := []) C (mX3_rest l D Y q_now now_bound now_modulus now_seed now_functions v_now_names (.ref q_now_kinds) (.ref q_now_firsts) (.ref q_now_seconds) v_now_degrees (.ref q_now_colours) (.ref q_now_needs) (.ref q_now_numbers) (x6_1 + ((rF_6.toInt64) * (rF_7.toInt64))) P_10 hP) dX10_hyper_124 rfl wM_X10_209 wI_X3_rest wV_X3_rest wN_X3 wC_X3_rest (n := 1) (by decide +kernel) rfl (q0 := 0) rfl rfl ⟨Nat.le_of_ble_eq_true rfl, Nat.le_of_ble_eq_true rfl⟩ hk_2 (Nat.le_of_ble_eq_true rfl) [9] [0, 1, 2, 3, 4, 5, 6, 7, 8, 10, 11, 12, 13, 14, 15, 16, 17, 18, 19, 20, 21, 22] rfl rfl rfl (fun v wc hv => ?_)
              obtain ⟨rF_8, rfl, rfl, hq⟩ := hv
              replace h := h rF_8 hq
              refine gG.perm (ws' := (rowsW Y ra rs_2 rf_2 rm_2 rl_2 ru_2 rn_2 rv_2 ++ [oX10 h0 (.ref q_now) (v_reader) (v_changes) (v_image) (.ref q_rows) (v_couples), oX3 q_now now_bound now_modulus now_seed now_functions (v_now_names) (.ref q_now_kinds) (.ref q_now_firsts) (.ref q_now_seconds) (v_now_degrees) (.ref q_now_colours) (.ref q_now_needs) (.ref q_now_numbers), oX7 q_rows (.ref q_rows_sieve) (.ref q_rows_powers) (.ref q_rows_rows) turn_2, aR Y q_rows_rows 4 (fun j => some (ra j)), oX8 q_rows_sieve (.ref q_sieve_least_2), aI Y q_sieve_least_2 n_sieve_least_2 sieve_least_2, aI Y q_now_needs 12 now_needs, oX4 q_rows_powers (.ref q_rows_powers_ofPrime) (.ref q_rows_powers_cells), aI Y q_rows_powers_cells 216 powers_cells_2, aI Y q_rows_powers_ofPrime 18 powers_ofPrime_2, aI Y q_now_firsts 12 now_firsts, aI Y q_now_seconds 12 now_seconds, aI Y q_now_kinds 12 now_kinds, aI Y q_now_numbers 144 now_numbers, aI Y q_now_colours 12 now_colours])) [0, 1, 2, 3, 4, 5, 6, 7, 8, 22, 9, 10, 11, 12, 13, 14, 15, 16, 17, 18, 19, 20, 21] rfl rfl ?_
              refine g_i2l C dX10_hyper_127 ?_
              refine g_topl (fun x6_2 ex6_2 => ?_)
              replace h := h x6_2 ex6_2
              refine g_lstore (lv' := [(6, .long x6_2), (9, .int m_1), (10, .int rF_4), (0, .ref h0), (3, .int a3), (4, .ref (ra k_1)), (5, .ref (ra k_2)), (8, .int x8_1)]) C dX10_hyper_128 (by decide) rfl ?_
              refine g_iload C dX10_hyper_130 1 rfl ?_
              refine g_iconst (v := 1) C dX10_hyper_132 rfl ?_
              refine g_iadd C dX10_hyper_133 ?_
              refine g_topi (fun x8_2 ex8_2 => ?_)
              replace h := h x8_2 ex8_2
              refine g_istore (lv' := [(8, .int x8_2), (6, .long x6_2), (9, .int m_1), (10, .int rF_4), (0, .ref h0), (3, .int a3), (4, .ref (ra k_1)), (5, .ref (ra k_2))]) C dX10_hyper_134 (by decide) rfl ?_
              refine g_goto (tgt := 71) C dX10_hyper_136 (by decide) ?_
              refine gG.locals (lv' := [(0, .ref h0), (3, .int a3), (4, .ref (ra k_1)), (5, .ref (ra k_2)), (6, .long x6_2), (8, .int x8_2)]) [4, 5, 6, 7, 1, 0] rfl ?_
              exact ih1 x6_2 x8_2 (Nat.lt_of_lt_of_le h.2 (Nat.le_of_lt_succ hm1)) h.1
        refine gG.locals (lv' := [(0, .ref h0), (3, .int a3), (4, .ref (ra k_1)), (5, .ref (ra k_2)), (6, .long 0), (8, .int 1)]) [5, 8, 4, 3, 2, 1] rfl ?_
        exact key_1 (Mea_1 0 1 + 1) 0 1 (Nat.lt_succ_self _) hI1
      · replace h := h.2 c_3
        refine g_iconst (v := (-1)) C dX10_hyper_30 rfl ?_
        exact g_iret C hR (show 0 ≤ mc ∧ 0 ≤ ms from ⟨Nat.zero_le _, Nat.zero_le _⟩).1 (show 0 ≤ mc ∧ 0 ≤ ms from ⟨Nat.zero_le _, Nat.zero_le _⟩).2 dX10_hyper_31 ⟨(-1), rs, rf, rm, rl, ru, rn, rv, rows_turn, q_rows_sieve_least, n_rows_sieve_least, rows_sieve_least, rows_powers_cells, rows_powers_ofPrime, rfl, rfl, h⟩
theorem dX10_blocks_0 : decode cX10_blocks 0 = .ok (.aload_n 0, 1) := by decide +kernel
theorem dX10_blocks_1 : decode cX10_blocks 1 = .ok (.getfield 10, 3) := by decide +kernel
theorem dX10_blocks_4 : decode cX10_blocks 4 = .ok (.iload_n 1, 1) := by decide +kernel
theorem dX10_blocks_5 : decode cX10_blocks 5 = .ok (.invokevirtual 98, 3) := by decide +kernel
theorem dX10_blocks_8 : decode cX10_blocks 8 = .ok (.ifCond .eq 11, 3) := by decide +kernel
theorem dX10_blocks_11 : decode cX10_blocks 11 = .ok (.aload_n 0, 1) := by decide +kernel
theorem dX10_blocks_12 : decode cX10_blocks 12 = .ok (.iload_n 2, 1) := by decide +kernel
theorem dX10_blocks_13 : decode cX10_blocks 13 = .ok (.invokevirtual 161, 3) := by decide +kernel
theorem dX10_blocks_16 : decode cX10_blocks 16 = .ok (.ifCond .ne 5, 3) := by decide +kernel
theorem dX10_blocks_19 : decode cX10_blocks 19 = .ok (.iconst (-1), 1) := by decide +kernel
theorem dX10_blocks_20 : decode cX10_blocks 20 = .ok (.ireturn, 1) := by decide +kernel
theorem dX10_blocks_21 : decode cX10_blocks 21 = .ok (.aload_n 0, 1) := by decide +kernel
theorem dX10_blocks_22 : decode cX10_blocks 22 = .ok (.getfield 40, 3) := by decide +kernel
theorem dX10_blocks_25 : decode cX10_blocks 25 = .ok (.aload_n 0, 1) := by decide +kernel
theorem dX10_blocks_26 : decode cX10_blocks 26 = .ok (.getfield 10, 3) := by decide +kernel
theorem dX10_blocks_29 : decode cX10_blocks 29 = .ok (.iload_n 1, 1) := by decide +kernel
theorem dX10_blocks_30 : decode cX10_blocks 30 = .ok (.iload_n 2, 1) := by decide +kernel
theorem dX10_blocks_31 : decode cX10_blocks 31 = .ok (.invokevirtual 182, 3) := by decide +kernel
theorem dX10_blocks_34 : decode cX10_blocks 34 = .ok (.astore_n 3, 1) := by decide +kernel
theorem dX10_blocks_35 : decode cX10_blocks 35 = .ok (.lconst 0, 1) := by decide +kernel
theorem dX10_blocks_36 : decode cX10_blocks 36 = .ok (.lstore 4, 2) := by decide +kernel
theorem dX10_blocks_38 : decode cX10_blocks 38 = .ok (.iconst 1, 1) := by decide +kernel
theorem dX10_blocks_39 : decode cX10_blocks 39 = .ok (.istore 6, 2) := by decide +kernel
theorem dX10_blocks_41 : decode cX10_blocks 41 = .ok (.iconst 0, 1) := by decide +kernel
theorem dX10_blocks_42 : decode cX10_blocks 42 = .ok (.istore 7, 2) := by decide +kernel
theorem dX10_blocks_44 : decode cX10_blocks 44 = .ok (.iload 6, 2) := by decide +kernel
theorem dX10_blocks_46 : decode cX10_blocks 46 = .ok (.iload_n 2, 1) := by decide +kernel
theorem dX10_blocks_47 : decode cX10_blocks 47 = .ok (.if_icmp .gt 62, 3) := by decide +kernel
theorem dX10_blocks_50 : decode cX10_blocks 50 = .ok (.iload_n 2, 1) := by decide +kernel
theorem dX10_blocks_51 : decode cX10_blocks 51 = .ok (.iload 6, 2) := by decide +kernel
theorem dX10_blocks_53 : decode cX10_blocks 53 = .ok (.invokestatic 219, 3) := by decide +kernel
theorem dX10_blocks_56 : decode cX10_blocks 56 = .ok (.istore 8, 2) := by decide +kernel
theorem dX10_blocks_58 : decode cX10_blocks 58 = .ok (.iload 6, 2) := by decide +kernel
theorem dX10_blocks_60 : decode cX10_blocks 60 = .ok (.iload_n 2, 1) := by decide +kernel
theorem dX10_blocks_61 : decode cX10_blocks 61 = .ok (.iload 8, 2) := by decide +kernel
theorem dX10_blocks_63 : decode cX10_blocks 63 = .ok (.invokestatic 219, 3) := by decide +kernel
theorem dX10_blocks_66 : decode cX10_blocks 66 = .ok (.invokestatic 225, 3) := by decide +kernel
theorem dX10_blocks_69 : decode cX10_blocks 69 = .ok (.istore 7, 2) := by decide +kernel
theorem dX10_blocks_71 : decode cX10_blocks 71 = .ok (.aload_n 0, 1) := by decide +kernel
theorem dX10_blocks_72 : decode cX10_blocks 72 = .ok (.getfield 10, 3) := by decide +kernel
theorem dX10_blocks_75 : decode cX10_blocks 75 = .ok (.lload 4, 2) := by decide +kernel
theorem dX10_blocks_77 : decode cX10_blocks 77 = .ok (.iload 7, 2) := by decide +kernel
theorem dX10_blocks_79 : decode cX10_blocks 79 = .ok (.iload 6, 2) := by decide +kernel
theorem dX10_blocks_81 : decode cX10_blocks 81 = .ok (.isub, 1) := by decide +kernel
theorem dX10_blocks_82 : decode cX10_blocks 82 = .ok (.iconst 1, 1) := by decide +kernel
theorem dX10_blocks_83 : decode cX10_blocks 83 = .ok (.iadd, 1) := by decide +kernel
theorem dX10_blocks_84 : decode cX10_blocks 84 = .ok (.i2l, 1) := by decide +kernel
theorem dX10_blocks_85 : decode cX10_blocks 85 = .ok (.aload_n 3, 1) := by decide +kernel
theorem dX10_blocks_86 : decode cX10_blocks 86 = .ok (.iload 8, 2) := by decide +kernel
theorem dX10_blocks_88 : decode cX10_blocks 88 = .ok (.invokevirtual 186, 3) := by decide +kernel
theorem dX10_blocks_91 : decode cX10_blocks 91 = .ok (.i2l, 1) := by decide +kernel
theorem dX10_blocks_92 : decode cX10_blocks 92 = .ok (.lmul, 1) := by decide +kernel
theorem dX10_blocks_93 : decode cX10_blocks 93 = .ok (.ladd, 1) := by decide +kernel
theorem dX10_blocks_94 : decode cX10_blocks 94 = .ok (.invokevirtual 209, 3) := by decide +kernel
theorem dX10_blocks_97 : decode cX10_blocks 97 = .ok (.i2l, 1) := by decide +kernel
theorem dX10_blocks_98 : decode cX10_blocks 98 = .ok (.lstore 4, 2) := by decide +kernel
theorem dX10_blocks_100 : decode cX10_blocks 100 = .ok (.iload 7, 2) := by decide +kernel
theorem dX10_blocks_102 : decode cX10_blocks 102 = .ok (.iconst 1, 1) := by decide +kernel
theorem dX10_blocks_103 : decode cX10_blocks 103 = .ok (.iadd, 1) := by decide +kernel
theorem dX10_blocks_104 : decode cX10_blocks 104 = .ok (.istore 6, 2) := by decide +kernel
theorem dX10_blocks_106 : decode cX10_blocks 106 = .ok (.goto (-62), 3) := by decide +kernel
theorem dX10_blocks_109 : decode cX10_blocks 109 = .ok (.lload 4, 2) := by decide +kernel
theorem dX10_blocks_111 : decode cX10_blocks 111 = .ok (.l2i, 1) := by decide +kernel
theorem dX10_blocks_112 : decode cX10_blocks 112 = .ok (.ireturn, 1) := by decide +kernel
/-- QuotientSums.blocks(II)I -/
def wX10_blocks (mc ms : Nat) (now_bound : Int32) (now_modulus : Int32) (now_seed : Int32) (now_functions : Int32) (rf : Nat → Int32) (rm : Nat → Int32) (rl : Nat → Int32) (ru : Nat → Int32) (rn : Nat → Nat) (rv : Nat → Nat → Int32) (rows_turn : Int32) (n_rows_sieve_least : Nat) (rows_sieve_least : Nat → Int32) (now_needs : Nat → Int32) (rows_powers_cells : Nat → Int32) (rows_powers_ofPrime : Nat → Int32) (now_firsts : Nat → Int32) (now_seconds : Nat → Int32) (now_kinds : Nat → Int32) (now_numbers : Nat → Int32) (now_colours : Nat → Int32) (a1 : Int32) (a2 : Int32) (Q : (Int32) → (Nat → Int32) → (Nat → Int32) → (Nat → Int32) → (Nat → Int32) → (Nat → Nat) → (Nat → Nat → Int32) → (Int32) → (Nat) → (Nat → Int32) → (Nat → Int32) → (Nat → Int32) → Prop) : Prop :=
  (∃ (P_1 : (Int32) → Prop), wX3_has now_bound now_modulus now_seed now_functions a1 P_1 ∧ ∀ (rF_1 : Int32), P_1 rF_1 → ((rF_1 = 0 → (Q (-1) rf rm rl ru rn rv rows_turn n_rows_sieve_least rows_sieve_least rows_powers_cells rows_powers_ofPrime)) ∧ (¬ rF_1 = 0 → (∃ (P_2 : (Int32) → Prop), wX10_isPlace now_bound now_modulus now_seed now_functions a2 P_2 ∧ ∀ (rF_2 : Int32), P_2 rF_2 → ((¬ rF_2 = 0 → (∃ (mcF_1 msF_1 : Nat) (P_3 : (Nat) → (Nat → Int32) → (Nat → Int32) → (Nat → Int32) → (Nat → Int32) → (Nat → Nat) → (Nat → Nat → Int32) → (Int32) → (Nat) → (Nat → Int32) → (Nat → Int32) → (Nat → Int32) → Prop), (0 + mcF_1 ≤ mc ∧ 0 + msF_1 ≤ ms) ∧ wX7_upTo mcF_1 msF_1 now_bound now_modulus now_seed now_functions rf rm rl ru rn rv rows_turn n_rows_sieve_least rows_sieve_least now_needs rows_powers_cells rows_powers_ofPrime now_firsts now_seconds now_kinds now_numbers now_colours a1 a2 P_3 ∧ ∀ (k_1 : Nat) (rf_1 : Nat → Int32) (rm_1 : Nat → Int32) (rl_1 : Nat → Int32) (ru_1 : Nat → Int32) (rn_1 : Nat → Nat) (rv_1 : Nat → Nat → Int32) (turn_1 : Int32) (n_sieve_least_1 : Nat) (sieve_least_1 : Nat → Int32) (powers_cells_1 : Nat → Int32) (powers_ofPrime_1 : Nat → Int32), P_3 k_1 rf_1 rm_1 rl_1 ru_1 rn_1 rv_1 turn_1 n_sieve_least_1 sieve_least_1 powers_cells_1 powers_ofPrime_1 → (∃ (Inv_1 : (Int64) → (Int32) → Prop) (Mea_1 : (Int64) → (Int32) → Nat), Inv_1 0 1 ∧ ∀ (x4_1 : Int64) (x6_1 : Int32), Inv_1 x4_1 x6_1 → ((a2 < x6_1 → (Q (x4_1.toInt32) rf_1 rm_1 rl_1 ru_1 rn_1 rv_1 turn_1 n_sieve_least_1 sieve_least_1 powers_cells_1 powers_ofPrime_1)) ∧ (¬ a2 < x6_1 → (∃ (P_4 : (Int32) → Prop), wX10_divided a2 x6_1 P_4 ∧ ∀ (rF_3 : Int32), P_4 rF_3 → ∃ (P_5 : (Int32) → Prop), wX10_divided a2 rF_3 P_5 ∧ ∀ (rF_4 : Int32), P_5 rF_4 → ∀ m_1 : Int32, m_1 = (if x6_1 < rF_4 then rF_4 else x6_1) → ∃ (P_6 : (Int32) → Prop), wX6_sumTo (rf_1 k_1) (rm_1 k_1) (rl_1 k_1) (ru_1 k_1) (rn_1 k_1) (rv_1 k_1) rF_3 P_6 ∧ ∀ (rF_5 : Int32), P_6 rF_5 → ∃ (P_7 : (Int32) → Prop), wX3_rest now_bound now_modulus now_seed now_functions (x4_1 + ((((m_1 - x6_1) + 1).toInt64) * (rF_5.toInt64))) P_7 ∧ ∀ (rF_6 : Int32), P_7 rF_6 → ∀ x4_2 : Int64, x4_2 = rF_6.toInt64 → ∀ x6_2 : Int32, x6_2 = m_1 + 1 → (Inv_1 x4_2 x6_2 ∧ Mea_1 x4_2 x6_2 < Mea_1 x4_1 x6_1))))))) ∧ (rF_2 = 0 → (Q (-1) rf rm rl ru rn rv rows_turn n_rows_sieve_least rows_sieve_least rows_powers_cells rows_powers_ofPrime)))))))
set_option maxHeartbeats 4000000 in
set_option maxRecDepth 100000 in
theorem mX10_blocks (l : Launch) (D : va_G) (Y : Nat → ClassId) (mc ms : Nat) (h0 : Nat) (ra : Nat → Nat) (q_now : Nat) (v_reader : Value) (v_changes : Value) (v_image : Value) (q_rows : Nat) (v_couples : Value) (now_bound : Int32) (now_modulus : Int32) (now_seed : Int32) (now_functions : Int32) (v_now_names : Value) (q_now_kinds : Nat) (q_now_firsts : Nat) (q_now_seconds : Nat) (v_now_degrees : Value) (q_now_colours : Nat) (q_now_needs : Nat) (q_now_numbers : Nat) (rs : Nat → Nat) (rf : Nat → Int32) (rm : Nat → Int32) (rl : Nat → Int32) (ru : Nat → Int32) (rn : Nat → Nat) (rv : Nat → Nat → Int32) (q_rows_sieve : Nat) (q_rows_powers : Nat) (q_rows_rows : Nat) (rows_turn : Int32) (q_rows_sieve_least : Nat) (n_rows_sieve_least : Nat) (rows_sieve_least : Nat → Int32) (now_needs : Nat → Int32) (q_rows_powers_ofPrime : Nat) (q_rows_powers_cells : Nat) (rows_powers_cells : Nat → Int32) (rows_powers_ofPrime : Nat → Int32) (now_firsts : Nat → Int32) (now_seconds : Nat → Int32) (now_kinds : Nat → Int32) (now_numbers : Nat → Int32) (now_colours : Nat → Int32) (a1 : Int32) (a2 : Int32) (Q : (Int32) → (Nat → Int32) → (Nat → Int32) → (Nat → Int32) → (Nat → Int32) → (Nat → Nat) → (Nat → Nat → Int32) → (Int32) → (Nat) → (Nat → Int32) → (Nat → Int32) → (Nat → Int32) → Prop) (h : wX10_blocks mc ms now_bound now_modulus now_seed now_functions rf rm rl ru rn rv rows_turn n_rows_sieve_least rows_sieve_least now_needs rows_powers_cells rows_powers_ofPrime now_firsts now_seconds now_kinds now_numbers now_colours a1 a2 Q) : gM l D Y yX10_blocks cX10_blocks 9 (some .int) 6 151 mc ms [.ref h0, .int a1, .int a2] (rowsW Y ra rs rf rm rl ru rn rv ++ [oX10 h0 (.ref q_now) (v_reader) (v_changes) (v_image) (.ref q_rows) (v_couples), oX3 q_now now_bound now_modulus now_seed now_functions (v_now_names) (.ref q_now_kinds) (.ref q_now_firsts) (.ref q_now_seconds) (v_now_degrees) (.ref q_now_colours) (.ref q_now_needs) (.ref q_now_numbers), oX7 q_rows (.ref q_rows_sieve) (.ref q_rows_powers) (.ref q_rows_rows) rows_turn, aR Y q_rows_rows 4 (fun j => some (ra j)), oX8 q_rows_sieve (.ref q_rows_sieve_least), aI Y q_rows_sieve_least n_rows_sieve_least rows_sieve_least, aI Y q_now_needs 12 now_needs, oX4 q_rows_powers (.ref q_rows_powers_ofPrime) (.ref q_rows_powers_cells), aI Y q_rows_powers_cells 216 rows_powers_cells, aI Y q_rows_powers_ofPrime 18 rows_powers_ofPrime, aI Y q_now_firsts 12 now_firsts, aI Y q_now_seconds 12 now_seconds, aI Y q_now_kinds 12 now_kinds, aI Y q_now_numbers 144 now_numbers, aI Y q_now_colours 12 now_colours]) (fun v w => ∃ r : Int32, ∃ rs' : Nat → Nat, ∃ rf' : Nat → Int32, ∃ rm' : Nat → Int32, ∃ rl' : Nat → Int32, ∃ ru' : Nat → Int32, ∃ rn' : Nat → Nat, ∃ rv' : Nat → Nat → Int32, ∃ rows_turn' : Int32, ∃ q_rows_sieve_least' : Nat, ∃ n_rows_sieve_least' : Nat, ∃ rows_sieve_least' : Nat → Int32, ∃ rows_powers_cells' : Nat → Int32, ∃ rows_powers_ofPrime' : Nat → Int32, v = some (.int r) ∧ w = (rowsW Y ra rs' rf' rm' rl' ru' rn' rv' ++ [oX10 h0 (.ref q_now) (v_reader) (v_changes) (v_image) (.ref q_rows) (v_couples), oX3 q_now now_bound now_modulus now_seed now_functions (v_now_names) (.ref q_now_kinds) (.ref q_now_firsts) (.ref q_now_seconds) (v_now_degrees) (.ref q_now_colours) (.ref q_now_needs) (.ref q_now_numbers), oX7 q_rows (.ref q_rows_sieve) (.ref q_rows_powers) (.ref q_rows_rows) rows_turn', aR Y q_rows_rows 4 (fun j => some (ra j)), oX8 q_rows_sieve (.ref q_rows_sieve_least'), aI Y q_rows_sieve_least' n_rows_sieve_least' rows_sieve_least', aI Y q_now_needs 12 now_needs, oX4 q_rows_powers (.ref q_rows_powers_ofPrime) (.ref q_rows_powers_cells), aI Y q_rows_powers_cells 216 rows_powers_cells', aI Y q_rows_powers_ofPrime 18 rows_powers_ofPrime', aI Y q_now_firsts 12 now_firsts, aI Y q_now_seconds 12 now_seconds, aI Y q_now_kinds 12 now_kinds, aI Y q_now_numbers 144 now_numbers, aI Y q_now_colours 12 now_colours]) ∧ Q r rf' rm' rl' ru' rn' rv' rows_turn' n_rows_sieve_least' rows_sieve_least' rows_powers_cells' rows_powers_ofPrime') := by
  refine gM_of (own := RX10) (by decide +kernel) rfl (Nat.le_of_ble_eq_true rfl) rfl (fun E C hR => ?_)
  unfold wX10_blocks at h
  refine g_aload_n C dX10_blocks_0 0 rfl ?_
  refine g_get C inX10 8 rfl rfl 0 (by decide) wF_X10_10 rfl dX10_blocks_1 ?_
  refine g_iload_n C dX10_blocks_4 1 rfl ?_
  obtain ⟨P_1, hP, h⟩ := h
  refine g_callV (As := [.int a1]) (rest := []) C (mX3_has l D Y q_now now_bound now_modulus now_seed now_functions v_now_names (.ref q_now_kinds) (.ref q_now_firsts) (.ref q_now_seconds) v_now_degrees (.ref q_now_colours) (.ref q_now_needs) (.ref q_now_numbers) a1 P_1 hP) dX10_blocks_5 rfl wM_X10_98 wI_X3_has wV_X3_has wN_X3 wC_X3_has (n := 1) (by decide +kernel) rfl (q0 := 0) rfl rfl ⟨Nat.le_of_ble_eq_true rfl, Nat.le_of_ble_eq_true rfl⟩ ⟨Nat.zero_le _, Nat.zero_le _⟩ (Nat.le_of_ble_eq_true rfl) [9] [0, 1, 2, 3, 4, 5, 6, 7, 8, 10, 11, 12, 13, 14, 15, 16, 17, 18, 19, 20, 21, 22] rfl rfl rfl (fun v wc hv => ?_)
  obtain ⟨rF_1, rfl, rfl, hq⟩ := hv
  replace h := h rF_1 hq
  refine gG.perm (ws' := (rowsW Y ra rs rf rm rl ru rn rv ++ [oX10 h0 (.ref q_now) (v_reader) (v_changes) (v_image) (.ref q_rows) (v_couples), oX3 q_now now_bound now_modulus now_seed now_functions (v_now_names) (.ref q_now_kinds) (.ref q_now_firsts) (.ref q_now_seconds) (v_now_degrees) (.ref q_now_colours) (.ref q_now_needs) (.ref q_now_numbers), oX7 q_rows (.ref q_rows_sieve) (.ref q_rows_powers) (.ref q_rows_rows) rows_turn, aR Y q_rows_rows 4 (fun j => some (ra j)), oX8 q_rows_sieve (.ref q_rows_sieve_least), aI Y q_rows_sieve_least n_rows_sieve_least rows_sieve_least, aI Y q_now_needs 12 now_needs, oX4 q_rows_powers (.ref q_rows_powers_ofPrime) (.ref q_rows_powers_cells), aI Y q_rows_powers_cells 216 rows_powers_cells, aI Y q_rows_powers_ofPrime 18 rows_powers_ofPrime, aI Y q_now_firsts 12 now_firsts, aI Y q_now_seconds 12 now_seconds, aI Y q_now_kinds 12 now_kinds, aI Y q_now_numbers 144 now_numbers, aI Y q_now_colours 12 now_colours])) [0, 1, 2, 3, 4, 5, 6, 7, 8, 22, 9, 10, 11, 12, 13, 14, 15, 16, 17, 18, 19, 20, 21] rfl rfl ?_
  refine g_if_eq (tgt := 19) C dX10_blocks_8 (by decide) (fun c_1 => ?_) (fun c_1 => ?_)
  · replace h := h.1 c_1
    refine g_iconst (v := (-1)) C dX10_blocks_19 rfl ?_
    exact g_iret C hR (show 0 ≤ mc ∧ 0 ≤ ms from ⟨Nat.zero_le _, Nat.zero_le _⟩).1 (show 0 ≤ mc ∧ 0 ≤ ms from ⟨Nat.zero_le _, Nat.zero_le _⟩).2 dX10_blocks_20 ⟨(-1), rs, rf, rm, rl, ru, rn, rv, rows_turn, q_rows_sieve_least, n_rows_sieve_least, rows_sieve_least, rows_powers_cells, rows_powers_ofPrime, rfl, rfl, h⟩
  · replace h := h.2 c_1
    refine g_aload_n C dX10_blocks_11 0 rfl ?_
    refine g_iload_n C dX10_blocks_12 2 rfl ?_
    obtain ⟨P_2, hP, h⟩ := h
    refine g_callV (As := [.int a2]) (rest := []) C (mX10_isPlace l D Y h0 q_now v_reader v_changes v_image (.ref q_rows) v_couples now_bound now_modulus now_seed now_functions v_now_names (.ref q_now_kinds) (.ref q_now_firsts) (.ref q_now_seconds) v_now_degrees (.ref q_now_colours) (.ref q_now_needs) (.ref q_now_numbers) a2 P_2 hP) dX10_blocks_13 rfl wM_X10_161 wI_X10_isPlace wV_X10_isPlace wN_X10 wC_X10_isPlace (n := 1) (by decide +kernel) rfl (q0 := 0) rfl rfl ⟨Nat.le_of_ble_eq_true rfl, Nat.le_of_ble_eq_true rfl⟩ ⟨Nat.zero_le _, Nat.zero_le _⟩ (Nat.le_of_ble_eq_true rfl) [8, 9] [0, 1, 2, 3, 4, 5, 6, 7, 10, 11, 12, 13, 14, 15, 16, 17, 18, 19, 20, 21, 22] rfl rfl rfl (fun v wc hv => ?_)
    obtain ⟨rF_2, rfl, rfl, hq⟩ := hv
    replace h := h rF_2 hq
    refine gG.perm (ws' := (rowsW Y ra rs rf rm rl ru rn rv ++ [oX10 h0 (.ref q_now) (v_reader) (v_changes) (v_image) (.ref q_rows) (v_couples), oX3 q_now now_bound now_modulus now_seed now_functions (v_now_names) (.ref q_now_kinds) (.ref q_now_firsts) (.ref q_now_seconds) (v_now_degrees) (.ref q_now_colours) (.ref q_now_needs) (.ref q_now_numbers), oX7 q_rows (.ref q_rows_sieve) (.ref q_rows_powers) (.ref q_rows_rows) rows_turn, aR Y q_rows_rows 4 (fun j => some (ra j)), oX8 q_rows_sieve (.ref q_rows_sieve_least), aI Y q_rows_sieve_least n_rows_sieve_least rows_sieve_least, aI Y q_now_needs 12 now_needs, oX4 q_rows_powers (.ref q_rows_powers_ofPrime) (.ref q_rows_powers_cells), aI Y q_rows_powers_cells 216 rows_powers_cells, aI Y q_rows_powers_ofPrime 18 rows_powers_ofPrime, aI Y q_now_firsts 12 now_firsts, aI Y q_now_seconds 12 now_seconds, aI Y q_now_kinds 12 now_kinds, aI Y q_now_numbers 144 now_numbers, aI Y q_now_colours 12 now_colours])) [0, 1, 2, 3, 4, 5, 6, 7, 21, 22, 8, 9, 10, 11, 12, 13, 14, 15, 16, 17, 18, 19, 20] rfl rfl ?_
    refine g_if_ne (tgt := 21) C dX10_blocks_16 (by decide) (fun c_2 => ?_) (fun c_2 => ?_)
    · replace h := h.1 c_2
      refine g_aload_n C dX10_blocks_21 0 rfl ?_
      refine g_get C inX10 8 rfl rfl 4 (by decide) wF_X10_40 rfl dX10_blocks_22 ?_
      refine g_aload_n C dX10_blocks_25 0 rfl ?_
      refine g_get C inX10 8 rfl rfl 0 (by decide) wF_X10_10 rfl dX10_blocks_26 ?_
      refine g_iload_n C dX10_blocks_29 1 rfl ?_
      refine g_iload_n C dX10_blocks_30 2 rfl ?_
      obtain ⟨mcF_1, msF_1, P_3, hk_1, hP, h⟩ := h
      refine g_callV (As := [.ref q_now, .int a1, .int a2]) (rest := []) C (mX7_upTo l D Y mcF_1 msF_1 q_rows ra q_now now_bound now_modulus now_seed now_functions v_now_names q_now_kinds q_now_firsts q_now_seconds v_now_degrees q_now_colours q_now_needs q_now_numbers rs rf rm rl ru rn rv q_rows_sieve q_rows_powers q_rows_rows rows_turn q_rows_sieve_least n_rows_sieve_least rows_sieve_least now_needs q_rows_powers_ofPrime q_rows_powers_cells rows_powers_cells rows_powers_ofPrime now_firsts now_seconds now_kinds now_numbers now_colours a1 a2 P_3 hP) dX10_blocks_31 rfl wM_X10_182 wI_X7_upTo wV_X7_upTo wN_X7 wC_X7_upTo (n := 3) (by decide +kernel) rfl (q0 := 9) rfl rfl ⟨Nat.le_of_ble_eq_true rfl, Nat.le_of_ble_eq_true rfl⟩ hk_1 (Nat.le_of_ble_eq_true rfl) [0, 1, 2, 3, 4, 5, 6, 7, 9, 10, 11, 12, 13, 14, 15, 16, 17, 18, 19, 20, 21, 22] [8] rfl rfl rfl (fun v wc hv => ?_)
      obtain ⟨k_1, rs_1, rf_1, rm_1, rl_1, ru_1, rn_1, rv_1, turn_1, q_sieve_least_1, n_sieve_least_1, sieve_least_1, powers_cells_1, powers_ofPrime_1, rfl, rfl, hkk_1, hq⟩ := hv
      replace h := h k_1 rf_1 rm_1 rl_1 ru_1 rn_1 rv_1 turn_1 n_sieve_least_1 sieve_least_1 powers_cells_1 powers_ofPrime_1 hq
      refine gG.perm (ws' := (rowsW Y ra rs_1 rf_1 rm_1 rl_1 ru_1 rn_1 rv_1 ++ [oX10 h0 (.ref q_now) (v_reader) (v_changes) (v_image) (.ref q_rows) (v_couples), oX3 q_now now_bound now_modulus now_seed now_functions (v_now_names) (.ref q_now_kinds) (.ref q_now_firsts) (.ref q_now_seconds) (v_now_degrees) (.ref q_now_colours) (.ref q_now_needs) (.ref q_now_numbers), oX7 q_rows (.ref q_rows_sieve) (.ref q_rows_powers) (.ref q_rows_rows) turn_1, aR Y q_rows_rows 4 (fun j => some (ra j)), oX8 q_rows_sieve (.ref q_sieve_least_1), aI Y q_sieve_least_1 n_sieve_least_1 sieve_least_1, aI Y q_now_needs 12 now_needs, oX4 q_rows_powers (.ref q_rows_powers_ofPrime) (.ref q_rows_powers_cells), aI Y q_rows_powers_cells 216 powers_cells_1, aI Y q_rows_powers_ofPrime 18 powers_ofPrime_1, aI Y q_now_firsts 12 now_firsts, aI Y q_now_seconds 12 now_seconds, aI Y q_now_kinds 12 now_kinds, aI Y q_now_numbers 144 now_numbers, aI Y q_now_colours 12 now_colours])) [1, 2, 3, 4, 5, 6, 7, 8, 0, 9, 10, 11, 12, 13, 14, 15, 16, 17, 18, 19, 20, 21, 22] rfl rfl ?_
      refine g_astore_n (lv' := [(3, .ref (ra k_1)), (0, .ref h0), (1, .int a1), (2, .int a2)]) C dX10_blocks_34 (by decide) rfl ?_
      refine g_lconst (v := 0) C dX10_blocks_35 rfl ?_
      refine g_lstore (lv' := [(4, .long 0), (3, .ref (ra k_1)), (0, .ref h0), (1, .int a1), (2, .int a2)]) C dX10_blocks_36 (by decide) rfl ?_
      refine g_iconst (v := 1) C dX10_blocks_38 rfl ?_
      refine g_istore (lv' := [(6, .int 1), (4, .long 0), (3, .ref (ra k_1)), (0, .ref h0), (1, .int a1), (2, .int a2)]) C dX10_blocks_39 (by decide) rfl ?_
      refine g_iconst (v := 0) C dX10_blocks_41 rfl ?_
      refine g_istore (lv' := [(7, .int 0), (6, .int 1), (4, .long 0), (3, .ref (ra k_1)), (0, .ref h0), (1, .int a1), (2, .int a2)]) C dX10_blocks_42 (by decide) rfl ?_
      obtain ⟨Inv_1, Mea_1, hI1, hB1⟩ := h
      have key_1 : ∀ (n : Nat) (x4_1 : Int64) (x6_1 : Int32) , Mea_1 x4_1 x6_1 < n → Inv_1 x4_1 x6_1 → gG E (0 + mcF_1) (0 + msF_1) (rowsW Y ra rs_1 rf_1 rm_1 rl_1 ru_1 rn_1 rv_1 ++ [oX10 h0 (.ref q_now) (v_reader) (v_changes) (v_image) (.ref q_rows) (v_couples), oX3 q_now now_bound now_modulus now_seed now_functions (v_now_names) (.ref q_now_kinds) (.ref q_now_firsts) (.ref q_now_seconds) (v_now_degrees) (.ref q_now_colours) (.ref q_now_needs) (.ref q_now_numbers), oX7 q_rows (.ref q_rows_sieve) (.ref q_rows_powers) (.ref q_rows_rows) turn_1, aR Y q_rows_rows 4 (fun j => some (ra j)), oX8 q_rows_sieve (.ref q_sieve_least_1), aI Y q_sieve_least_1 n_sieve_least_1 sieve_least_1, aI Y q_now_needs 12 now_needs, oX4 q_rows_powers (.ref q_rows_powers_ofPrime) (.ref q_rows_powers_cells), aI Y q_rows_powers_cells 216 powers_cells_1, aI Y q_rows_powers_ofPrime 18 powers_ofPrime_1, aI Y q_now_firsts 12 now_firsts, aI Y q_now_seconds 12 now_seconds, aI Y q_now_kinds 12 now_kinds, aI Y q_now_numbers 144 now_numbers, aI Y q_now_colours 12 now_colours]) [(0, .ref h0), (2, .int a2), (3, .ref (ra k_1)), (4, .long x4_1), (6, .int x6_1)] [] 44 := by
        intro n
        induction n with
        | zero => exact fun _ _ hm => absurd hm (Nat.not_lt_zero _)
        | succ n ih1 =>
          intro x4_1 x6_1  hm1 hI
          have h := hB1 x4_1 x6_1 hI
          refine g_iload C dX10_blocks_44 4 rfl ?_
          refine g_iload_n C dX10_blocks_46 1 rfl ?_
          refine g_icmp_gt (tgt := 109) C dX10_blocks_47 (by decide) (fun c_3 => ?_) (fun c_3 => ?_)
          · replace h := h.1 c_3
            refine g_lload C dX10_blocks_109 3 rfl ?_
            refine g_l2i C dX10_blocks_111 ?_
            exact g_iret C hR (show 0 + mcF_1 ≤ mc ∧ 0 + msF_1 ≤ ms from hk_1).1 (show 0 + mcF_1 ≤ mc ∧ 0 + msF_1 ≤ ms from hk_1).2 dX10_blocks_112 ⟨x4_1.toInt32, rs_1, rf_1, rm_1, rl_1, ru_1, rn_1, rv_1, turn_1, q_sieve_least_1, n_sieve_least_1, sieve_least_1, powers_cells_1, powers_ofPrime_1, rfl, rfl, h⟩
          · replace h := h.2 c_3
            refine g_iload_n C dX10_blocks_50 1 rfl ?_
            refine g_iload C dX10_blocks_51 4 rfl ?_
            obtain ⟨P_4, hP, h⟩ := h
            refine g_callS (As := [.int a2, .int x6_1]) (rest := []) C (mX10_divided l D Y a2 x6_1 P_4 hP) dX10_blocks_53 rfl wM_X10_219 wS_X10_divided wN_X10 wC_X10_divided (n := 2) (by decide +kernel) rfl ⟨Nat.le_of_ble_eq_true rfl, Nat.le_of_ble_eq_true rfl⟩ hk_1 (Nat.le_of_ble_eq_true rfl) [] [0, 1, 2, 3, 4, 5, 6, 7, 8, 9, 10, 11, 12, 13, 14, 15, 16, 17, 18, 19, 20, 21, 22] rfl rfl rfl (fun v wc hv => ?_)
            obtain ⟨rF_3, rfl, rfl, hq⟩ := hv
            replace h := h rF_3 hq
            refine gG.eqw (ws' := (rowsW Y ra rs_1 rf_1 rm_1 rl_1 ru_1 rn_1 rv_1 ++ [oX10 h0 (.ref q_now) (v_reader) (v_changes) (v_image) (.ref q_rows) (v_couples), oX3 q_now now_bound now_modulus now_seed now_functions (v_now_names) (.ref q_now_kinds) (.ref q_now_firsts) (.ref q_now_seconds) (v_now_degrees) (.ref q_now_colours) (.ref q_now_needs) (.ref q_now_numbers), oX7 q_rows (.ref q_rows_sieve) (.ref q_rows_powers) (.ref q_rows_rows) turn_1, aR Y q_rows_rows 4 (fun j => some (ra j)), oX8 q_rows_sieve (.ref q_sieve_least_1), aI Y q_sieve_least_1 n_sieve_least_1 sieve_least_1, aI Y q_now_needs 12 now_needs, oX4 q_rows_powers (.ref q_rows_powers_ofPrime) (.ref q_rows_powers_cells), aI Y q_rows_powers_cells 216 powers_cells_1, aI Y q_rows_powers_ofPrime 18 powers_ofPrime_1, aI Y q_now_firsts 12 now_firsts, aI Y q_now_seconds 12 now_seconds, aI Y q_now_kinds 12 now_kinds, aI Y q_now_numbers 144 now_numbers, aI Y q_now_colours 12 now_colours])) rfl ?_
            refine g_istore (lv' := [(8, .int rF_3), (0, .ref h0), (2, .int a2), (3, .ref (ra k_1)), (4, .long x4_1), (6, .int x6_1)]) C dX10_blocks_56 (by decide) rfl ?_
            refine g_iload C dX10_blocks_58 5 rfl ?_
            refine g_iload_n C dX10_blocks_60 2 rfl ?_
            refine g_iload C dX10_blocks_61 0 rfl ?_
            obtain ⟨P_5, hP, h⟩ := h
            refine g_callS (As := [.int a2, .int rF_3]) (rest := [.int x6_1]) C (mX10_divided l D Y a2 rF_3 P_5 hP) dX10_blocks_63 rfl wM_X10_219 wS_X10_divided wN_X10 wC_X10_divided (n := 2) (by decide +kernel) rfl ⟨Nat.le_of_ble_eq_true rfl, Nat.le_of_ble_eq_true rfl⟩ hk_1 (Nat.le_of_ble_eq_true rfl) [] [0, 1, 2, 3, 4, 5, 6, 7, 8, 9, 10, 11, 12, 13, 14, 15, 16, 17, 18, 19, 20, 21, 22] rfl rfl rfl (fun v wc hv => ?_)
            obtain ⟨rF_4, rfl, rfl, hq⟩ := hv
            replace h := h rF_4 hq
            refine gG.eqw (ws' := (rowsW Y ra rs_1 rf_1 rm_1 rl_1 ru_1 rn_1 rv_1 ++ [oX10 h0 (.ref q_now) (v_reader) (v_changes) (v_image) (.ref q_rows) (v_couples), oX3 q_now now_bound now_modulus now_seed now_functions (v_now_names) (.ref q_now_kinds) (.ref q_now_firsts) (.ref q_now_seconds) (v_now_degrees) (.ref q_now_colours) (.ref q_now_needs) (.ref q_now_numbers), oX7 q_rows (.ref q_rows_sieve) (.ref q_rows_powers) (.ref q_rows_rows) turn_1, aR Y q_rows_rows 4 (fun j => some (ra j)), oX8 q_rows_sieve (.ref q_sieve_least_1), aI Y q_sieve_least_1 n_sieve_least_1 sieve_least_1, aI Y q_now_needs 12 now_needs, oX4 q_rows_powers (.ref q_rows_powers_ofPrime) (.ref q_rows_powers_cells), aI Y q_rows_powers_cells 216 powers_cells_1, aI Y q_rows_powers_ofPrime 18 powers_ofPrime_1, aI Y q_now_firsts 12 now_firsts, aI Y q_now_seconds 12 now_seconds, aI Y q_now_kinds 12 now_kinds, aI Y q_now_numbers 144 now_numbers, aI Y q_now_colours 12 now_colours])) rfl ?_
            refine g_mmax C wM_X10_225 dX10_blocks_66 ⟨Nat.le_of_ble_eq_true rfl, Nat.le_of_ble_eq_true rfl⟩ hk_1 ?_
            refine g_topi (fun m_1 em_1 => ?_)
            replace h := h m_1 em_1
            refine g_istore (lv' := [(7, .int m_1), (8, .int rF_3), (0, .ref h0), (2, .int a2), (3, .ref (ra k_1)), (4, .long x4_1), (6, .int x6_1)]) C dX10_blocks_69 (by decide) rfl ?_
            refine g_aload_n C dX10_blocks_71 2 rfl ?_
            refine g_get C inX10 8 rfl rfl 0 (by decide) wF_X10_10 rfl dX10_blocks_72 ?_
            refine g_lload C dX10_blocks_75 5 rfl ?_
            refine g_iload C dX10_blocks_77 0 rfl ?_
            refine g_iload C dX10_blocks_79 6 rfl ?_
            refine g_isub C dX10_blocks_81 ?_
            refine g_iconst (v := 1) C dX10_blocks_82 rfl ?_
            refine g_iadd C dX10_blocks_83 ?_
            refine g_i2l C dX10_blocks_84 ?_
            refine g_aload_n C dX10_blocks_85 4 rfl ?_
            refine g_iload C dX10_blocks_86 1 rfl ?_
            obtain ⟨P_6, hP, h⟩ := h
            refine g_callV (As := [.int rF_3]) (rest := [.long (((m_1 - x6_1) + 1).toInt64), .long x4_1, .ref q_now]) C (mX6_sumTo_at l D Y ra k_1 (hkk_1) rs_1 rf_1 rm_1 rl_1 ru_1 rn_1 rv_1 rF_3 P_6 hP) dX10_blocks_88 rfl wM_X10_186 wI_X6_sumTo wV_X6_sumTo wN_X6 wC_X6_sumTo (n := 1) (by decide +kernel) rfl (q0 := (2 * k_1)) (rowsW_obj0 _ _ _ _ _ _ _ _ _ (hkk_1)) rfl ⟨Nat.le_of_ble_eq_true rfl, Nat.le_of_ble_eq_true rfl⟩ hk_1 (Nat.le_of_ble_eq_true rfl) [0, 1, 2, 3, 4, 5, 6, 7] [8, 9, 10, 11, 12, 13, 14, 15, 16, 17, 18, 19, 20, 21, 22] rfl rfl rfl (fun v wc hv => ?_)
            obtain ⟨rF_5, rfl, rfl, hq⟩ := hv
            replace h := h rF_5 hq
            refine gG.perm (ws' := (rowsW Y ra rs_1 rf_1 rm_1 rl_1 ru_1 rn_1 rv_1 ++ [oX10 h0 (.ref q_now) (v_reader) (v_changes) (v_image) (.ref q_rows) (v_couples), oX3 q_now now_bound now_modulus now_seed now_functions (v_now_names) (.ref q_now_kinds) (.ref q_now_firsts) (.ref q_now_seconds) (v_now_degrees) (.ref q_now_colours) (.ref q_now_needs) (.ref q_now_numbers), oX7 q_rows (.ref q_rows_sieve) (.ref q_rows_powers) (.ref q_rows_rows) turn_1, aR Y q_rows_rows 4 (fun j => some (ra j)), oX8 q_rows_sieve (.ref q_sieve_least_1), aI Y q_sieve_least_1 n_sieve_least_1 sieve_least_1, aI Y q_now_needs 12 now_needs, oX4 q_rows_powers (.ref q_rows_powers_ofPrime) (.ref q_rows_powers_cells), aI Y q_rows_powers_cells 216 powers_cells_1, aI Y q_rows_powers_ofPrime 18 powers_ofPrime_1, aI Y q_now_firsts 12 now_firsts, aI Y q_now_seconds 12 now_seconds, aI Y q_now_kinds 12 now_kinds, aI Y q_now_numbers 144 now_numbers, aI Y q_now_colours 12 now_colours])) [15, 16, 17, 18, 19, 20, 21, 22, 0, 1, 2, 3, 4, 5, 6, 7, 8, 9, 10, 11, 12, 13, 14] rfl rfl ?_
            refine g_i2l C dX10_blocks_91 ?_
            refine g_lmul C dX10_blocks_92 ?_
            refine g_ladd C dX10_blocks_93 ?_
            obtain ⟨P_7, hP, h⟩ := h
            refine g_callV (As := [.long (x4_1 + ((((m_1 - x6_1) + 1).toInt64) * (rF_5.toInt64)))]) (rest := []) C (mX3_rest l D Y q_now now_bound now_modulus now_seed now_functions v_now_names (.ref q_now_kinds) (.ref q_now_firsts) (.ref q_now_seconds) v_now_degrees (.ref q_now_colours) (.ref q_now_needs) (.ref q_now_numbers) (x4_1 + ((((m_1 - x6_1) + 1).toInt64) * (rF_5.toInt64))) P_7 hP) dX10_blocks_94 rfl wM_X10_209 wI_X3_rest wV_X3_rest wN_X3 wC_X3_rest (n := 1) (by decide +kernel) rfl (q0 := 0) rfl rfl ⟨Nat.le_of_ble_eq_true rfl, Nat.le_of_ble_eq_true rfl⟩ hk_1 (Nat.le_of_ble_eq_true rfl) [9] [0, 1, 2, 3, 4, 5, 6, 7, 8, 10, 11, 12, 13, 14, 15, 16, 17, 18, 19, 20, 21, 22] rfl rfl rfl (fun v wc hv => ?_)
            obtain ⟨rF_6, rfl, rfl, hq⟩ := hv
            replace h := h rF_6 hq
            refine gG.perm (ws' := (rowsW Y ra rs_1 rf_1 rm_1 rl_1 ru_1 rn_1 rv_1 ++ [oX10 h0 (.ref q_now) (v_reader) (v_changes) (v_image) (.ref q_rows) (v_couples), oX3 q_now now_bound now_modulus now_seed now_functions (v_now_names) (.ref q_now_kinds) (.ref q_now_firsts) (.ref q_now_seconds) (v_now_degrees) (.ref q_now_colours) (.ref q_now_needs) (.ref q_now_numbers), oX7 q_rows (.ref q_rows_sieve) (.ref q_rows_powers) (.ref q_rows_rows) turn_1, aR Y q_rows_rows 4 (fun j => some (ra j)), oX8 q_rows_sieve (.ref q_sieve_least_1), aI Y q_sieve_least_1 n_sieve_least_1 sieve_least_1, aI Y q_now_needs 12 now_needs, oX4 q_rows_powers (.ref q_rows_powers_ofPrime) (.ref q_rows_powers_cells), aI Y q_rows_powers_cells 216 powers_cells_1, aI Y q_rows_powers_ofPrime 18 powers_ofPrime_1, aI Y q_now_firsts 12 now_firsts, aI Y q_now_seconds 12 now_seconds, aI Y q_now_kinds 12 now_kinds, aI Y q_now_numbers 144 now_numbers, aI Y q_now_colours 12 now_colours])) [0, 1, 2, 3, 4, 5, 6, 7, 8, 22, 9, 10, 11, 12, 13, 14, 15, 16, 17, 18, 19, 20, 21] rfl rfl ?_
            refine g_i2l C dX10_blocks_97 ?_
            refine g_topl (fun x4_2 ex4_2 => ?_)
            replace h := h x4_2 ex4_2
            refine g_lstore (lv' := [(4, .long x4_2), (7, .int m_1), (8, .int rF_3), (0, .ref h0), (2, .int a2), (3, .ref (ra k_1)), (6, .int x6_1)]) C dX10_blocks_98 (by decide) rfl ?_
            refine g_iload C dX10_blocks_100 1 rfl ?_
            refine g_iconst (v := 1) C dX10_blocks_102 rfl ?_
            refine g_iadd C dX10_blocks_103 ?_
            refine g_topi (fun x6_2 ex6_2 => ?_)
            replace h := h x6_2 ex6_2
            refine g_istore (lv' := [(6, .int x6_2), (4, .long x4_2), (7, .int m_1), (8, .int rF_3), (0, .ref h0), (2, .int a2), (3, .ref (ra k_1))]) C dX10_blocks_104 (by decide) rfl ?_
            refine g_goto (tgt := 44) C dX10_blocks_106 (by decide) ?_
            refine gG.locals (lv' := [(0, .ref h0), (2, .int a2), (3, .ref (ra k_1)), (4, .long x4_2), (6, .int x6_2)]) [4, 5, 6, 1, 0] rfl ?_
            exact ih1 x4_2 x6_2 (Nat.lt_of_lt_of_le h.2 (Nat.le_of_lt_succ hm1)) h.1
      refine gG.locals (lv' := [(0, .ref h0), (2, .int a2), (3, .ref (ra k_1)), (4, .long 0), (6, .int 1)]) [4, 6, 3, 2, 1] rfl ?_
      exact key_1 (Mea_1 0 1 + 1) 0 1 (Nat.lt_succ_self _) hI1
    · replace h := h.2 c_2
      refine g_iconst (v := (-1)) C dX10_blocks_19 rfl ?_
      exact g_iret C hR (show 0 ≤ mc ∧ 0 ≤ ms from ⟨Nat.zero_le _, Nat.zero_le _⟩).1 (show 0 ≤ mc ∧ 0 ≤ ms from ⟨Nat.zero_le _, Nat.zero_le _⟩).2 dX10_blocks_20 ⟨(-1), rs, rf, rm, rl, ru, rn, rv, rows_turn, q_rows_sieve_least, n_rows_sieve_least, rows_sieve_least, rows_powers_cells, rows_powers_ofPrime, rfl, rfl, h⟩
theorem dX10_common_0 : decode cX10_common 0 = .ok (.aload_n 0, 1) := by decide +kernel
theorem dX10_common_1 : decode cX10_common 1 = .ok (.getfield 10, 3) := by decide +kernel
theorem dX10_common_4 : decode cX10_common 4 = .ok (.iload_n 1, 1) := by decide +kernel
theorem dX10_common_5 : decode cX10_common 5 = .ok (.invokevirtual 98, 3) := by decide +kernel
theorem dX10_common_8 : decode cX10_common 8 = .ok (.ifCond .eq 11, 3) := by decide +kernel
theorem dX10_common_11 : decode cX10_common 11 = .ok (.aload_n 0, 1) := by decide +kernel
theorem dX10_common_12 : decode cX10_common 12 = .ok (.iload_n 2, 1) := by decide +kernel
theorem dX10_common_13 : decode cX10_common 13 = .ok (.invokevirtual 179, 3) := by decide +kernel
theorem dX10_common_16 : decode cX10_common 16 = .ok (.ifCond .ne 5, 3) := by decide +kernel
theorem dX10_common_19 : decode cX10_common 19 = .ok (.iconst (-1), 1) := by decide +kernel
theorem dX10_common_20 : decode cX10_common 20 = .ok (.ireturn, 1) := by decide +kernel
theorem dX10_common_21 : decode cX10_common 21 = .ok (.aload_n 0, 1) := by decide +kernel
theorem dX10_common_22 : decode cX10_common 22 = .ok (.getfield 40, 3) := by decide +kernel
theorem dX10_common_25 : decode cX10_common 25 = .ok (.aload_n 0, 1) := by decide +kernel
theorem dX10_common_26 : decode cX10_common 26 = .ok (.getfield 10, 3) := by decide +kernel
theorem dX10_common_29 : decode cX10_common 29 = .ok (.iload_n 1, 1) := by decide +kernel
theorem dX10_common_30 : decode cX10_common 30 = .ok (.iload_n 2, 1) := by decide +kernel
theorem dX10_common_31 : decode cX10_common 31 = .ok (.invokevirtual 182, 3) := by decide +kernel
theorem dX10_common_34 : decode cX10_common 34 = .ok (.astore_n 3, 1) := by decide +kernel
theorem dX10_common_35 : decode cX10_common 35 = .ok (.aload_n 0, 1) := by decide +kernel
theorem dX10_common_36 : decode cX10_common 36 = .ok (.getfield 47, 3) := by decide +kernel
theorem dX10_common_39 : decode cX10_common 39 = .ok (.iload_n 2, 1) := by decide +kernel
theorem dX10_common_40 : decode cX10_common 40 = .ok (.invokevirtual 230, 3) := by decide +kernel
theorem dX10_common_43 : decode cX10_common 43 = .ok (.lconst 0, 1) := by decide +kernel
theorem dX10_common_44 : decode cX10_common 44 = .ok (.lstore 4, 2) := by decide +kernel
theorem dX10_common_46 : decode cX10_common 46 = .ok (.iconst 1, 1) := by decide +kernel
theorem dX10_common_47 : decode cX10_common 47 = .ok (.istore 6, 2) := by decide +kernel
theorem dX10_common_49 : decode cX10_common 49 = .ok (.iconst 0, 1) := by decide +kernel
theorem dX10_common_50 : decode cX10_common 50 = .ok (.istore 7, 2) := by decide +kernel
theorem dX10_common_52 : decode cX10_common 52 = .ok (.iload 6, 2) := by decide +kernel
theorem dX10_common_54 : decode cX10_common 54 = .ok (.iload_n 2, 1) := by decide +kernel
theorem dX10_common_55 : decode cX10_common 55 = .ok (.if_icmp .gt 73, 3) := by decide +kernel
theorem dX10_common_58 : decode cX10_common 58 = .ok (.iload_n 2, 1) := by decide +kernel
theorem dX10_common_59 : decode cX10_common 59 = .ok (.iload 6, 2) := by decide +kernel
theorem dX10_common_61 : decode cX10_common 61 = .ok (.invokestatic 219, 3) := by decide +kernel
theorem dX10_common_64 : decode cX10_common 64 = .ok (.istore 8, 2) := by decide +kernel
theorem dX10_common_66 : decode cX10_common 66 = .ok (.iload 6, 2) := by decide +kernel
theorem dX10_common_68 : decode cX10_common 68 = .ok (.iload_n 2, 1) := by decide +kernel
theorem dX10_common_69 : decode cX10_common 69 = .ok (.iload 8, 2) := by decide +kernel
theorem dX10_common_71 : decode cX10_common 71 = .ok (.invokestatic 219, 3) := by decide +kernel
theorem dX10_common_74 : decode cX10_common 74 = .ok (.invokestatic 225, 3) := by decide +kernel
theorem dX10_common_77 : decode cX10_common 77 = .ok (.istore 7, 2) := by decide +kernel
theorem dX10_common_79 : decode cX10_common 79 = .ok (.aload_n 0, 1) := by decide +kernel
theorem dX10_common_80 : decode cX10_common 80 = .ok (.getfield 10, 3) := by decide +kernel
theorem dX10_common_83 : decode cX10_common 83 = .ok (.lload 4, 2) := by decide +kernel
theorem dX10_common_85 : decode cX10_common 85 = .ok (.aload_n 3, 1) := by decide +kernel
theorem dX10_common_86 : decode cX10_common 86 = .ok (.iload 6, 2) := by decide +kernel
theorem dX10_common_88 : decode cX10_common 88 = .ok (.iload 7, 2) := by decide +kernel
theorem dX10_common_90 : decode cX10_common 90 = .ok (.invokevirtual 191, 3) := by decide +kernel
theorem dX10_common_93 : decode cX10_common 93 = .ok (.i2l, 1) := by decide +kernel
theorem dX10_common_94 : decode cX10_common 94 = .ok (.aload_n 0, 1) := by decide +kernel
theorem dX10_common_95 : decode cX10_common 95 = .ok (.getfield 10, 3) := by decide +kernel
theorem dX10_common_98 : decode cX10_common 98 = .ok (.aload_n 0, 1) := by decide +kernel
theorem dX10_common_99 : decode cX10_common 99 = .ok (.getfield 47, 3) := by decide +kernel
theorem dX10_common_102 : decode cX10_common 102 = .ok (.iload 8, 2) := by decide +kernel
theorem dX10_common_104 : decode cX10_common 104 = .ok (.invokevirtual 231, 3) := by decide +kernel
theorem dX10_common_107 : decode cX10_common 107 = .ok (.invokevirtual 209, 3) := by decide +kernel
theorem dX10_common_110 : decode cX10_common 110 = .ok (.i2l, 1) := by decide +kernel
theorem dX10_common_111 : decode cX10_common 111 = .ok (.lmul, 1) := by decide +kernel
theorem dX10_common_112 : decode cX10_common 112 = .ok (.ladd, 1) := by decide +kernel
theorem dX10_common_113 : decode cX10_common 113 = .ok (.invokevirtual 209, 3) := by decide +kernel
theorem dX10_common_116 : decode cX10_common 116 = .ok (.i2l, 1) := by decide +kernel
theorem dX10_common_117 : decode cX10_common 117 = .ok (.lstore 4, 2) := by decide +kernel
theorem dX10_common_119 : decode cX10_common 119 = .ok (.iload 7, 2) := by decide +kernel
theorem dX10_common_121 : decode cX10_common 121 = .ok (.iconst 1, 1) := by decide +kernel
theorem dX10_common_122 : decode cX10_common 122 = .ok (.iadd, 1) := by decide +kernel
theorem dX10_common_123 : decode cX10_common 123 = .ok (.istore 6, 2) := by decide +kernel
theorem dX10_common_125 : decode cX10_common 125 = .ok (.goto (-73), 3) := by decide +kernel
theorem dX10_common_128 : decode cX10_common 128 = .ok (.lload 4, 2) := by decide +kernel
theorem dX10_common_130 : decode cX10_common 130 = .ok (.l2i, 1) := by decide +kernel
theorem dX10_common_131 : decode cX10_common 131 = .ok (.ireturn, 1) := by decide +kernel
/-- QuotientSums.common(II)I -/
def wX10_common (mc ms : Nat) (now_bound : Int32) (now_modulus : Int32) (now_seed : Int32) (now_functions : Int32) (rf : Nat → Int32) (rm : Nat → Int32) (rl : Nat → Int32) (ru : Nat → Int32) (rn : Nat → Nat) (rv : Nat → Nat → Int32) (rows_turn : Int32) (n_rows_sieve_least : Nat) (rows_sieve_least : Nat → Int32) (now_needs : Nat → Int32) (rows_powers_cells : Nat → Int32) (rows_powers_ofPrime : Nat → Int32) (now_firsts : Nat → Int32) (now_seconds : Nat → Int32) (now_kinds : Nat → Int32) (now_numbers : Nat → Int32) (now_colours : Nat → Int32) (couples_x : Int32) (couples_root : Int32) (couples_great : Nat → Int64) (couples_small : Nat → Int64) (a1 : Int32) (a2 : Int32) (Q : (Int32) → (Nat → Int32) → (Nat → Int32) → (Nat → Int32) → (Nat → Int32) → (Nat → Nat) → (Nat → Nat → Int32) → (Int32) → (Nat) → (Nat → Int32) → (Nat → Int32) → (Nat → Int32) → (Int32) → (Int32) → (Nat → Int64) → (Nat → Int64) → Prop) : Prop :=
  (∃ (P_1 : (Int32) → Prop), wX3_has now_bound now_modulus now_seed now_functions a1 P_1 ∧ ∀ (rF_1 : Int32), P_1 rF_1 → ((rF_1 = 0 → (Q (-1) rf rm rl ru rn rv rows_turn n_rows_sieve_least rows_sieve_least rows_powers_cells rows_powers_ofPrime couples_x couples_root couples_great couples_small)) ∧ (¬ rF_1 = 0 → (∃ (P_2 : (Int32) → Prop), wX10_isReach now_bound now_modulus now_seed now_functions a2 P_2 ∧ ∀ (rF_2 : Int32), P_2 rF_2 → ((¬ rF_2 = 0 → (∃ (mcF_1 msF_1 : Nat) (P_3 : (Nat) → (Nat → Int32) → (Nat → Int32) → (Nat → Int32) → (Nat → Int32) → (Nat → Nat) → (Nat → Nat → Int32) → (Int32) → (Nat) → (Nat → Int32) → (Nat → Int32) → (Nat → Int32) → Prop), (0 + mcF_1 ≤ mc ∧ 0 + msF_1 ≤ ms) ∧ wX7_upTo mcF_1 msF_1 now_bound now_modulus now_seed now_functions rf rm rl ru rn rv rows_turn n_rows_sieve_least rows_sieve_least now_needs rows_powers_cells rows_powers_ofPrime now_firsts now_seconds now_kinds now_numbers now_colours a1 a2 P_3 ∧ ∀ (k_1 : Nat) (rf_1 : Nat → Int32) (rm_1 : Nat → Int32) (rl_1 : Nat → Int32) (ru_1 : Nat → Int32) (rn_1 : Nat → Nat) (rv_1 : Nat → Nat → Int32) (turn_1 : Int32) (n_sieve_least_1 : Nat) (sieve_least_1 : Nat → Int32) (powers_cells_1 : Nat → Int32) (powers_ofPrime_1 : Nat → Int32), P_3 k_1 rf_1 rm_1 rl_1 ru_1 rn_1 rv_1 turn_1 n_sieve_least_1 sieve_least_1 powers_cells_1 powers_ofPrime_1 → ∃ (P_4 : (Int32) → (Int32) → (Nat → Int64) → (Nat → Int64) → Prop), wX1_reach couples_x couples_root couples_great couples_small a2 P_4 ∧ ∀ (xF_1 : Int32) (root_1 : Int32) (great_1 : Nat → Int64) (small_1 : Nat → Int64), P_4 xF_1 root_1 great_1 small_1 → (∃ (Inv_1 : (Int64) → (Int32) → Prop) (Mea_1 : (Int64) → (Int32) → Nat), Inv_1 0 1 ∧ ∀ (x4_1 : Int64) (x6_1 : Int32), Inv_1 x4_1 x6_1 → ((a2 < x6_1 → (Q (x4_1.toInt32) rf_1 rm_1 rl_1 ru_1 rn_1 rv_1 turn_1 n_sieve_least_1 sieve_least_1 powers_cells_1 powers_ofPrime_1 xF_1 root_1 great_1 small_1)) ∧ (¬ a2 < x6_1 → (∃ (P_5 : (Int32) → Prop), wX10_divided a2 x6_1 P_5 ∧ ∀ (rF_3 : Int32), P_5 rF_3 → ∃ (P_6 : (Int32) → Prop), wX10_divided a2 rF_3 P_6 ∧ ∀ (rF_4 : Int32), P_6 rF_4 → ∀ m_1 : Int32, m_1 = (if x6_1 < rF_4 then rF_4 else x6_1) → ∃ (P_7 : (Int32) → Prop), wX6_stretch (rf_1 k_1) (rm_1 k_1) (rl_1 k_1) (ru_1 k_1) (rn_1 k_1) (rv_1 k_1) x6_1 m_1 P_7 ∧ ∀ (rF_5 : Int32), P_7 rF_5 → ∃ (P_8 : (Int64) → Prop), wX1_without xF_1 root_1 great_1 small_1 rF_3 P_8 ∧ ∀ (rF_6 : Int64), P_8 rF_6 → ∃ (P_9 : (Int32) → Prop), wX3_rest now_bound now_modulus now_seed now_functions rF_6 P_9 ∧ ∀ (rF_7 : Int32), P_9 rF_7 → ∃ (P_10 : (Int32) → Prop), wX3_rest now_bound now_modulus now_seed now_functions (x4_1 + ((rF_5.toInt64) * (rF_7.toInt64))) P_10 ∧ ∀ (rF_8 : Int32), P_10 rF_8 → ∀ x4_2 : Int64, x4_2 = rF_8.toInt64 → ∀ x6_2 : Int32, x6_2 = m_1 + 1 → (Inv_1 x4_2 x6_2 ∧ Mea_1 x4_2 x6_2 < Mea_1 x4_1 x6_1))))))) ∧ (rF_2 = 0 → (Q (-1) rf rm rl ru rn rv rows_turn n_rows_sieve_least rows_sieve_least rows_powers_cells rows_powers_ofPrime couples_x couples_root couples_great couples_small)))))))
set_option maxHeartbeats 4000000 in
set_option maxRecDepth 100000 in
theorem mX10_common (l : Launch) (D : va_G) (Y : Nat → ClassId) (mc ms : Nat) (h0 : Nat) (ra : Nat → Nat) (q_now : Nat) (v_reader : Value) (v_changes : Value) (v_image : Value) (q_rows : Nat) (q_couples : Nat) (now_bound : Int32) (now_modulus : Int32) (now_seed : Int32) (now_functions : Int32) (v_now_names : Value) (q_now_kinds : Nat) (q_now_firsts : Nat) (q_now_seconds : Nat) (v_now_degrees : Value) (q_now_colours : Nat) (q_now_needs : Nat) (q_now_numbers : Nat) (rs : Nat → Nat) (rf : Nat → Int32) (rm : Nat → Int32) (rl : Nat → Int32) (ru : Nat → Int32) (rn : Nat → Nat) (rv : Nat → Nat → Int32) (q_rows_sieve : Nat) (q_rows_powers : Nat) (q_rows_rows : Nat) (rows_turn : Int32) (q_rows_sieve_least : Nat) (n_rows_sieve_least : Nat) (rows_sieve_least : Nat → Int32) (now_needs : Nat → Int32) (q_rows_powers_ofPrime : Nat) (q_rows_powers_cells : Nat) (rows_powers_cells : Nat → Int32) (rows_powers_ofPrime : Nat → Int32) (now_firsts : Nat → Int32) (now_seconds : Nat → Int32) (now_kinds : Nat → Int32) (now_numbers : Nat → Int32) (now_colours : Nat → Int32) (q_couples_small : Nat) (q_couples_great : Nat) (couples_x : Int32) (couples_root : Int32) (couples_great : Nat → Int64) (couples_small : Nat → Int64) (a1 : Int32) (a2 : Int32) (Q : (Int32) → (Nat → Int32) → (Nat → Int32) → (Nat → Int32) → (Nat → Int32) → (Nat → Nat) → (Nat → Nat → Int32) → (Int32) → (Nat) → (Nat → Int32) → (Nat → Int32) → (Nat → Int32) → (Int32) → (Int32) → (Nat → Int64) → (Nat → Int64) → Prop) (h : wX10_common mc ms now_bound now_modulus now_seed now_functions rf rm rl ru rn rv rows_turn n_rows_sieve_least rows_sieve_least now_needs rows_powers_cells rows_powers_ofPrime now_firsts now_seconds now_kinds now_numbers now_colours couples_x couples_root couples_great couples_small a1 a2 Q) : gM l D Y yX10_common cX10_common 9 (some .int) 6 151 mc ms [.ref h0, .int a1, .int a2] (rowsW Y ra rs rf rm rl ru rn rv ++ [oX10 h0 (.ref q_now) (v_reader) (v_changes) (v_image) (.ref q_rows) (.ref q_couples), oX3 q_now now_bound now_modulus now_seed now_functions (v_now_names) (.ref q_now_kinds) (.ref q_now_firsts) (.ref q_now_seconds) (v_now_degrees) (.ref q_now_colours) (.ref q_now_needs) (.ref q_now_numbers), oX7 q_rows (.ref q_rows_sieve) (.ref q_rows_powers) (.ref q_rows_rows) rows_turn, aR Y q_rows_rows 4 (fun j => some (ra j)), oX8 q_rows_sieve (.ref q_rows_sieve_least), aI Y q_rows_sieve_least n_rows_sieve_least rows_sieve_least, aI Y q_now_needs 12 now_needs, oX4 q_rows_powers (.ref q_rows_powers_ofPrime) (.ref q_rows_powers_cells), aI Y q_rows_powers_cells 216 rows_powers_cells, aI Y q_rows_powers_ofPrime 18 rows_powers_ofPrime, aI Y q_now_firsts 12 now_firsts, aI Y q_now_seconds 12 now_seconds, aI Y q_now_kinds 12 now_kinds, aI Y q_now_numbers 144 now_numbers, aI Y q_now_colours 12 now_colours, oX1 q_couples (.ref q_couples_small) (.ref q_couples_great) couples_x couples_root, aJ Y q_couples_great 448 couples_great, aJ Y q_couples_small 448 couples_small]) (fun v w => ∃ r : Int32, ∃ rs' : Nat → Nat, ∃ rf' : Nat → Int32, ∃ rm' : Nat → Int32, ∃ rl' : Nat → Int32, ∃ ru' : Nat → Int32, ∃ rn' : Nat → Nat, ∃ rv' : Nat → Nat → Int32, ∃ rows_turn' : Int32, ∃ q_rows_sieve_least' : Nat, ∃ n_rows_sieve_least' : Nat, ∃ rows_sieve_least' : Nat → Int32, ∃ rows_powers_cells' : Nat → Int32, ∃ rows_powers_ofPrime' : Nat → Int32, ∃ couples_x' : Int32, ∃ couples_root' : Int32, ∃ couples_great' : Nat → Int64, ∃ couples_small' : Nat → Int64, v = some (.int r) ∧ w = (rowsW Y ra rs' rf' rm' rl' ru' rn' rv' ++ [oX10 h0 (.ref q_now) (v_reader) (v_changes) (v_image) (.ref q_rows) (.ref q_couples), oX3 q_now now_bound now_modulus now_seed now_functions (v_now_names) (.ref q_now_kinds) (.ref q_now_firsts) (.ref q_now_seconds) (v_now_degrees) (.ref q_now_colours) (.ref q_now_needs) (.ref q_now_numbers), oX7 q_rows (.ref q_rows_sieve) (.ref q_rows_powers) (.ref q_rows_rows) rows_turn', aR Y q_rows_rows 4 (fun j => some (ra j)), oX8 q_rows_sieve (.ref q_rows_sieve_least'), aI Y q_rows_sieve_least' n_rows_sieve_least' rows_sieve_least', aI Y q_now_needs 12 now_needs, oX4 q_rows_powers (.ref q_rows_powers_ofPrime) (.ref q_rows_powers_cells), aI Y q_rows_powers_cells 216 rows_powers_cells', aI Y q_rows_powers_ofPrime 18 rows_powers_ofPrime', aI Y q_now_firsts 12 now_firsts, aI Y q_now_seconds 12 now_seconds, aI Y q_now_kinds 12 now_kinds, aI Y q_now_numbers 144 now_numbers, aI Y q_now_colours 12 now_colours, oX1 q_couples (.ref q_couples_small) (.ref q_couples_great) couples_x' couples_root', aJ Y q_couples_great 448 couples_great', aJ Y q_couples_small 448 couples_small']) ∧ Q r rf' rm' rl' ru' rn' rv' rows_turn' n_rows_sieve_least' rows_sieve_least' rows_powers_cells' rows_powers_ofPrime' couples_x' couples_root' couples_great' couples_small') := by
  refine gM_of (own := RX10) (by decide +kernel) rfl (Nat.le_of_ble_eq_true rfl) rfl (fun E C hR => ?_)
  unfold wX10_common at h
  refine g_aload_n C dX10_common_0 0 rfl ?_
  refine g_get C inX10 8 rfl rfl 0 (by decide) wF_X10_10 rfl dX10_common_1 ?_
  refine g_iload_n C dX10_common_4 1 rfl ?_
  obtain ⟨P_1, hP, h⟩ := h
  refine g_callV (As := [.int a1]) (rest := []) C (mX3_has l D Y q_now now_bound now_modulus now_seed now_functions v_now_names (.ref q_now_kinds) (.ref q_now_firsts) (.ref q_now_seconds) v_now_degrees (.ref q_now_colours) (.ref q_now_needs) (.ref q_now_numbers) a1 P_1 hP) dX10_common_5 rfl wM_X10_98 wI_X3_has wV_X3_has wN_X3 wC_X3_has (n := 1) (by decide +kernel) rfl (q0 := 0) rfl rfl ⟨Nat.le_of_ble_eq_true rfl, Nat.le_of_ble_eq_true rfl⟩ ⟨Nat.zero_le _, Nat.zero_le _⟩ (Nat.le_of_ble_eq_true rfl) [9] [0, 1, 2, 3, 4, 5, 6, 7, 8, 10, 11, 12, 13, 14, 15, 16, 17, 18, 19, 20, 21, 22, 23, 24, 25] rfl rfl rfl (fun v wc hv => ?_)
  obtain ⟨rF_1, rfl, rfl, hq⟩ := hv
  replace h := h rF_1 hq
  refine gG.perm (ws' := (rowsW Y ra rs rf rm rl ru rn rv ++ [oX10 h0 (.ref q_now) (v_reader) (v_changes) (v_image) (.ref q_rows) (.ref q_couples), oX3 q_now now_bound now_modulus now_seed now_functions (v_now_names) (.ref q_now_kinds) (.ref q_now_firsts) (.ref q_now_seconds) (v_now_degrees) (.ref q_now_colours) (.ref q_now_needs) (.ref q_now_numbers), oX7 q_rows (.ref q_rows_sieve) (.ref q_rows_powers) (.ref q_rows_rows) rows_turn, aR Y q_rows_rows 4 (fun j => some (ra j)), oX8 q_rows_sieve (.ref q_rows_sieve_least), aI Y q_rows_sieve_least n_rows_sieve_least rows_sieve_least, aI Y q_now_needs 12 now_needs, oX4 q_rows_powers (.ref q_rows_powers_ofPrime) (.ref q_rows_powers_cells), aI Y q_rows_powers_cells 216 rows_powers_cells, aI Y q_rows_powers_ofPrime 18 rows_powers_ofPrime, aI Y q_now_firsts 12 now_firsts, aI Y q_now_seconds 12 now_seconds, aI Y q_now_kinds 12 now_kinds, aI Y q_now_numbers 144 now_numbers, aI Y q_now_colours 12 now_colours, oX1 q_couples (.ref q_couples_small) (.ref q_couples_great) couples_x couples_root, aJ Y q_couples_great 448 couples_great, aJ Y q_couples_small 448 couples_small])) [0, 1, 2, 3, 4, 5, 6, 7, 8, 25, 9, 10, 11, 12, 13, 14, 15, 16, 17, 18, 19, 20, 21, 22, 23, 24] rfl rfl ?_
  refine g_if_eq (tgt := 19) C dX10_common_8 (by decide) (fun c_1 => ?_) (fun c_1 => ?_)
  · replace h := h.1 c_1
    refine g_iconst (v := (-1)) C dX10_common_19 rfl ?_
    exact g_iret C hR (show 0 ≤ mc ∧ 0 ≤ ms from ⟨Nat.zero_le _, Nat.zero_le _⟩).1 (show 0 ≤ mc ∧ 0 ≤ ms from ⟨Nat.zero_le _, Nat.zero_le _⟩).2 dX10_common_20 ⟨(-1), rs, rf, rm, rl, ru, rn, rv, rows_turn, q_rows_sieve_least, n_rows_sieve_least, rows_sieve_least, rows_powers_cells, rows_powers_ofPrime, couples_x, couples_root, couples_great, couples_small, rfl, rfl, h⟩
  · replace h := h.2 c_1
    refine g_aload_n C dX10_common_11 0 rfl ?_
    refine g_iload_n C dX10_common_12 2 rfl ?_
    obtain ⟨P_2, hP, h⟩ := h
    refine g_callV (As := [.int a2]) (rest := []) C (mX10_isReach l D Y h0 q_now v_reader v_changes v_image (.ref q_rows) (.ref q_couples) now_bound now_modulus now_seed now_functions v_now_names (.ref q_now_kinds) (.ref q_now_firsts) (.ref q_now_seconds) v_now_degrees (.ref q_now_colours) (.ref q_now_needs) (.ref q_now_numbers) a2 P_2 hP) dX10_common_13 rfl wM_X10_179 wI_X10_isReach wV_X10_isReach wN_X10 wC_X10_isReach (n := 1) (by decide +kernel) rfl (q0 := 0) rfl rfl ⟨Nat.le_of_ble_eq_true rfl, Nat.le_of_ble_eq_true rfl⟩ ⟨Nat.zero_le _, Nat.zero_le _⟩ (Nat.le_of_ble_eq_true rfl) [8, 9] [0, 1, 2, 3, 4, 5, 6, 7, 10, 11, 12, 13, 14, 15, 16, 17, 18, 19, 20, 21, 22, 23, 24, 25] rfl rfl rfl (fun v wc hv => ?_)
    obtain ⟨rF_2, rfl, rfl, hq⟩ := hv
    replace h := h rF_2 hq
    refine gG.perm (ws' := (rowsW Y ra rs rf rm rl ru rn rv ++ [oX10 h0 (.ref q_now) (v_reader) (v_changes) (v_image) (.ref q_rows) (.ref q_couples), oX3 q_now now_bound now_modulus now_seed now_functions (v_now_names) (.ref q_now_kinds) (.ref q_now_firsts) (.ref q_now_seconds) (v_now_degrees) (.ref q_now_colours) (.ref q_now_needs) (.ref q_now_numbers), oX7 q_rows (.ref q_rows_sieve) (.ref q_rows_powers) (.ref q_rows_rows) rows_turn, aR Y q_rows_rows 4 (fun j => some (ra j)), oX8 q_rows_sieve (.ref q_rows_sieve_least), aI Y q_rows_sieve_least n_rows_sieve_least rows_sieve_least, aI Y q_now_needs 12 now_needs, oX4 q_rows_powers (.ref q_rows_powers_ofPrime) (.ref q_rows_powers_cells), aI Y q_rows_powers_cells 216 rows_powers_cells, aI Y q_rows_powers_ofPrime 18 rows_powers_ofPrime, aI Y q_now_firsts 12 now_firsts, aI Y q_now_seconds 12 now_seconds, aI Y q_now_kinds 12 now_kinds, aI Y q_now_numbers 144 now_numbers, aI Y q_now_colours 12 now_colours, oX1 q_couples (.ref q_couples_small) (.ref q_couples_great) couples_x couples_root, aJ Y q_couples_great 448 couples_great, aJ Y q_couples_small 448 couples_small])) [0, 1, 2, 3, 4, 5, 6, 7, 24, 25, 8, 9, 10, 11, 12, 13, 14, 15, 16, 17, 18, 19, 20, 21, 22, 23] rfl rfl ?_
    refine g_if_ne (tgt := 21) C dX10_common_16 (by decide) (fun c_2 => ?_) (fun c_2 => ?_)
    · replace h := h.1 c_2
      refine g_aload_n C dX10_common_21 0 rfl ?_
      refine g_get C inX10 8 rfl rfl 4 (by decide) wF_X10_40 rfl dX10_common_22 ?_
      refine g_aload_n C dX10_common_25 0 rfl ?_
      refine g_get C inX10 8 rfl rfl 0 (by decide) wF_X10_10 rfl dX10_common_26 ?_
      refine g_iload_n C dX10_common_29 1 rfl ?_
      refine g_iload_n C dX10_common_30 2 rfl ?_
      obtain ⟨mcF_1, msF_1, P_3, hk_1, hP, h⟩ := h
      refine g_callV (As := [.ref q_now, .int a1, .int a2]) (rest := []) C (mX7_upTo l D Y mcF_1 msF_1 q_rows ra q_now now_bound now_modulus now_seed now_functions v_now_names q_now_kinds q_now_firsts q_now_seconds v_now_degrees q_now_colours q_now_needs q_now_numbers rs rf rm rl ru rn rv q_rows_sieve q_rows_powers q_rows_rows rows_turn q_rows_sieve_least n_rows_sieve_least rows_sieve_least now_needs q_rows_powers_ofPrime q_rows_powers_cells rows_powers_cells rows_powers_ofPrime now_firsts now_seconds now_kinds now_numbers now_colours a1 a2 P_3 hP) dX10_common_31 rfl wM_X10_182 wI_X7_upTo wV_X7_upTo wN_X7 wC_X7_upTo (n := 3) (by decide +kernel) rfl (q0 := 9) rfl rfl ⟨Nat.le_of_ble_eq_true rfl, Nat.le_of_ble_eq_true rfl⟩ hk_1 (Nat.le_of_ble_eq_true rfl) [0, 1, 2, 3, 4, 5, 6, 7, 9, 10, 11, 12, 13, 14, 15, 16, 17, 18, 19, 20, 21, 22] [8, 23, 24, 25] rfl rfl rfl (fun v wc hv => ?_)
      obtain ⟨k_1, rs_1, rf_1, rm_1, rl_1, ru_1, rn_1, rv_1, turn_1, q_sieve_least_1, n_sieve_least_1, sieve_least_1, powers_cells_1, powers_ofPrime_1, rfl, rfl, hkk_1, hq⟩ := hv
      replace h := h k_1 rf_1 rm_1 rl_1 ru_1 rn_1 rv_1 turn_1 n_sieve_least_1 sieve_least_1 powers_cells_1 powers_ofPrime_1 hq
      refine gG.perm (ws' := (rowsW Y ra rs_1 rf_1 rm_1 rl_1 ru_1 rn_1 rv_1 ++ [oX10 h0 (.ref q_now) (v_reader) (v_changes) (v_image) (.ref q_rows) (.ref q_couples), oX3 q_now now_bound now_modulus now_seed now_functions (v_now_names) (.ref q_now_kinds) (.ref q_now_firsts) (.ref q_now_seconds) (v_now_degrees) (.ref q_now_colours) (.ref q_now_needs) (.ref q_now_numbers), oX7 q_rows (.ref q_rows_sieve) (.ref q_rows_powers) (.ref q_rows_rows) turn_1, aR Y q_rows_rows 4 (fun j => some (ra j)), oX8 q_rows_sieve (.ref q_sieve_least_1), aI Y q_sieve_least_1 n_sieve_least_1 sieve_least_1, aI Y q_now_needs 12 now_needs, oX4 q_rows_powers (.ref q_rows_powers_ofPrime) (.ref q_rows_powers_cells), aI Y q_rows_powers_cells 216 powers_cells_1, aI Y q_rows_powers_ofPrime 18 powers_ofPrime_1, aI Y q_now_firsts 12 now_firsts, aI Y q_now_seconds 12 now_seconds, aI Y q_now_kinds 12 now_kinds, aI Y q_now_numbers 144 now_numbers, aI Y q_now_colours 12 now_colours, oX1 q_couples (.ref q_couples_small) (.ref q_couples_great) couples_x couples_root, aJ Y q_couples_great 448 couples_great, aJ Y q_couples_small 448 couples_small])) [4, 5, 6, 7, 8, 9, 10, 11, 0, 12, 13, 14, 15, 16, 17, 18, 19, 20, 21, 22, 23, 24, 25, 1, 2, 3] rfl rfl ?_
      refine g_astore_n (lv' := [(3, .ref (ra k_1)), (0, .ref h0), (1, .int a1), (2, .int a2)]) C dX10_common_34 (by decide) rfl ?_
      refine g_aload_n C dX10_common_35 1 rfl ?_
      refine g_get C inX10 8 rfl rfl 5 (by decide) wF_X10_47 rfl dX10_common_36 ?_
      refine g_iload_n C dX10_common_39 3 rfl ?_
      obtain ⟨P_4, hP, h⟩ := h
      refine g_callV (As := [.int a2]) (rest := []) C (mX1_reach l D Y q_couples q_couples_small q_couples_great couples_x couples_root couples_great couples_small a2 P_4 hP) dX10_common_40 rfl wM_X10_230 wI_X1_reach wV_X1_reach wN_X1 wC_X1_reach (n := 1) (by decide +kernel) rfl (q0 := 0) rfl rfl ⟨Nat.le_of_ble_eq_true rfl, Nat.le_of_ble_eq_true rfl⟩ hk_1 (Nat.le_of_ble_eq_true rfl) [23, 24, 25] [0, 1, 2, 3, 4, 5, 6, 7, 8, 9, 10, 11, 12, 13, 14, 15, 16, 17, 18, 19, 20, 21, 22] rfl rfl rfl (fun v wc hv => ?_)
      obtain ⟨xF_1, root_1, great_1, small_1, rfl, rfl, hq⟩ := hv
      replace h := h xF_1 root_1 great_1 small_1 hq
      refine gG.eqw (ws' := (rowsW Y ra rs_1 rf_1 rm_1 rl_1 ru_1 rn_1 rv_1 ++ [oX10 h0 (.ref q_now) (v_reader) (v_changes) (v_image) (.ref q_rows) (.ref q_couples), oX3 q_now now_bound now_modulus now_seed now_functions (v_now_names) (.ref q_now_kinds) (.ref q_now_firsts) (.ref q_now_seconds) (v_now_degrees) (.ref q_now_colours) (.ref q_now_needs) (.ref q_now_numbers), oX7 q_rows (.ref q_rows_sieve) (.ref q_rows_powers) (.ref q_rows_rows) turn_1, aR Y q_rows_rows 4 (fun j => some (ra j)), oX8 q_rows_sieve (.ref q_sieve_least_1), aI Y q_sieve_least_1 n_sieve_least_1 sieve_least_1, aI Y q_now_needs 12 now_needs, oX4 q_rows_powers (.ref q_rows_powers_ofPrime) (.ref q_rows_powers_cells), aI Y q_rows_powers_cells 216 powers_cells_1, aI Y q_rows_powers_ofPrime 18 powers_ofPrime_1, aI Y q_now_firsts 12 now_firsts, aI Y q_now_seconds 12 now_seconds, aI Y q_now_kinds 12 now_kinds, aI Y q_now_numbers 144 now_numbers, aI Y q_now_colours 12 now_colours, oX1 q_couples (.ref q_couples_small) (.ref q_couples_great) xF_1 root_1, aJ Y q_couples_great 448 great_1, aJ Y q_couples_small 448 small_1])) rfl ?_
      refine g_lconst (v := 0) C dX10_common_43 rfl ?_
      refine g_lstore (lv' := [(4, .long 0), (3, .ref (ra k_1)), (0, .ref h0), (1, .int a1), (2, .int a2)]) C dX10_common_44 (by decide) rfl ?_
      refine g_iconst (v := 1) C dX10_common_46 rfl ?_
      refine g_istore (lv' := [(6, .int 1), (4, .long 0), (3, .ref (ra k_1)), (0, .ref h0), (1, .int a1), (2, .int a2)]) C dX10_common_47 (by decide) rfl ?_
      refine g_iconst (v := 0) C dX10_common_49 rfl ?_
      refine g_istore (lv' := [(7, .int 0), (6, .int 1), (4, .long 0), (3, .ref (ra k_1)), (0, .ref h0), (1, .int a1), (2, .int a2)]) C dX10_common_50 (by decide) rfl ?_
      obtain ⟨Inv_1, Mea_1, hI1, hB1⟩ := h
      have key_1 : ∀ (n : Nat) (x4_1 : Int64) (x6_1 : Int32) , Mea_1 x4_1 x6_1 < n → Inv_1 x4_1 x6_1 → gG E (0 + mcF_1) (0 + msF_1) (rowsW Y ra rs_1 rf_1 rm_1 rl_1 ru_1 rn_1 rv_1 ++ [oX10 h0 (.ref q_now) (v_reader) (v_changes) (v_image) (.ref q_rows) (.ref q_couples), oX3 q_now now_bound now_modulus now_seed now_functions (v_now_names) (.ref q_now_kinds) (.ref q_now_firsts) (.ref q_now_seconds) (v_now_degrees) (.ref q_now_colours) (.ref q_now_needs) (.ref q_now_numbers), oX7 q_rows (.ref q_rows_sieve) (.ref q_rows_powers) (.ref q_rows_rows) turn_1, aR Y q_rows_rows 4 (fun j => some (ra j)), oX8 q_rows_sieve (.ref q_sieve_least_1), aI Y q_sieve_least_1 n_sieve_least_1 sieve_least_1, aI Y q_now_needs 12 now_needs, oX4 q_rows_powers (.ref q_rows_powers_ofPrime) (.ref q_rows_powers_cells), aI Y q_rows_powers_cells 216 powers_cells_1, aI Y q_rows_powers_ofPrime 18 powers_ofPrime_1, aI Y q_now_firsts 12 now_firsts, aI Y q_now_seconds 12 now_seconds, aI Y q_now_kinds 12 now_kinds, aI Y q_now_numbers 144 now_numbers, aI Y q_now_colours 12 now_colours, oX1 q_couples (.ref q_couples_small) (.ref q_couples_great) xF_1 root_1, aJ Y q_couples_great 448 great_1, aJ Y q_couples_small 448 small_1]) [(0, .ref h0), (2, .int a2), (3, .ref (ra k_1)), (4, .long x4_1), (6, .int x6_1)] [] 52 := by
        intro n
        induction n with
        | zero => exact fun _ _ hm => absurd hm (Nat.not_lt_zero _)
        | succ n ih1 =>
          intro x4_1 x6_1  hm1 hI
          have h := hB1 x4_1 x6_1 hI
          refine g_iload C dX10_common_52 4 rfl ?_
          refine g_iload_n C dX10_common_54 1 rfl ?_
          refine g_icmp_gt (tgt := 128) C dX10_common_55 (by decide) (fun c_3 => ?_) (fun c_3 => ?_)
          · replace h := h.1 c_3
            refine g_lload C dX10_common_128 3 rfl ?_
            refine g_l2i C dX10_common_130 ?_
            exact g_iret C hR (show 0 + mcF_1 ≤ mc ∧ 0 + msF_1 ≤ ms from hk_1).1 (show 0 + mcF_1 ≤ mc ∧ 0 + msF_1 ≤ ms from hk_1).2 dX10_common_131 ⟨x4_1.toInt32, rs_1, rf_1, rm_1, rl_1, ru_1, rn_1, rv_1, turn_1, q_sieve_least_1, n_sieve_least_1, sieve_least_1, powers_cells_1, powers_ofPrime_1, xF_1, root_1, great_1, small_1, rfl, rfl, h⟩
          · replace h := h.2 c_3
            refine g_iload_n C dX10_common_58 1 rfl ?_
            refine g_iload C dX10_common_59 4 rfl ?_
            obtain ⟨P_5, hP, h⟩ := h
            refine g_callS (As := [.int a2, .int x6_1]) (rest := []) C (mX10_divided l D Y a2 x6_1 P_5 hP) dX10_common_61 rfl wM_X10_219 wS_X10_divided wN_X10 wC_X10_divided (n := 2) (by decide +kernel) rfl ⟨Nat.le_of_ble_eq_true rfl, Nat.le_of_ble_eq_true rfl⟩ hk_1 (Nat.le_of_ble_eq_true rfl) [] [0, 1, 2, 3, 4, 5, 6, 7, 8, 9, 10, 11, 12, 13, 14, 15, 16, 17, 18, 19, 20, 21, 22, 23, 24, 25] rfl rfl rfl (fun v wc hv => ?_)
            obtain ⟨rF_3, rfl, rfl, hq⟩ := hv
            replace h := h rF_3 hq
            refine gG.eqw (ws' := (rowsW Y ra rs_1 rf_1 rm_1 rl_1 ru_1 rn_1 rv_1 ++ [oX10 h0 (.ref q_now) (v_reader) (v_changes) (v_image) (.ref q_rows) (.ref q_couples), oX3 q_now now_bound now_modulus now_seed now_functions (v_now_names) (.ref q_now_kinds) (.ref q_now_firsts) (.ref q_now_seconds) (v_now_degrees) (.ref q_now_colours) (.ref q_now_needs) (.ref q_now_numbers), oX7 q_rows (.ref q_rows_sieve) (.ref q_rows_powers) (.ref q_rows_rows) turn_1, aR Y q_rows_rows 4 (fun j => some (ra j)), oX8 q_rows_sieve (.ref q_sieve_least_1), aI Y q_sieve_least_1 n_sieve_least_1 sieve_least_1, aI Y q_now_needs 12 now_needs, oX4 q_rows_powers (.ref q_rows_powers_ofPrime) (.ref q_rows_powers_cells), aI Y q_rows_powers_cells 216 powers_cells_1, aI Y q_rows_powers_ofPrime 18 powers_ofPrime_1, aI Y q_now_firsts 12 now_firsts, aI Y q_now_seconds 12 now_seconds, aI Y q_now_kinds 12 now_kinds, aI Y q_now_numbers 144 now_numbers, aI Y q_now_colours 12 now_colours, oX1 q_couples (.ref q_couples_small) (.ref q_couples_great) xF_1 root_1, aJ Y q_couples_great 448 great_1, aJ Y q_couples_small 448 small_1])) rfl ?_
            refine g_istore (lv' := [(8, .int rF_3), (0, .ref h0), (2, .int a2), (3, .ref (ra k_1)), (4, .long x4_1), (6, .int x6_1)]) C dX10_common_64 (by decide) rfl ?_
            refine g_iload C dX10_common_66 5 rfl ?_
            refine g_iload_n C dX10_common_68 2 rfl ?_
            refine g_iload C dX10_common_69 0 rfl ?_
            obtain ⟨P_6, hP, h⟩ := h
            refine g_callS (As := [.int a2, .int rF_3]) (rest := [.int x6_1]) C (mX10_divided l D Y a2 rF_3 P_6 hP) dX10_common_71 rfl wM_X10_219 wS_X10_divided wN_X10 wC_X10_divided (n := 2) (by decide +kernel) rfl ⟨Nat.le_of_ble_eq_true rfl, Nat.le_of_ble_eq_true rfl⟩ hk_1 (Nat.le_of_ble_eq_true rfl) [] [0, 1, 2, 3, 4, 5, 6, 7, 8, 9, 10, 11, 12, 13, 14, 15, 16, 17, 18, 19, 20, 21, 22, 23, 24, 25] rfl rfl rfl (fun v wc hv => ?_)
            obtain ⟨rF_4, rfl, rfl, hq⟩ := hv
            replace h := h rF_4 hq
            refine gG.eqw (ws' := (rowsW Y ra rs_1 rf_1 rm_1 rl_1 ru_1 rn_1 rv_1 ++ [oX10 h0 (.ref q_now) (v_reader) (v_changes) (v_image) (.ref q_rows) (.ref q_couples), oX3 q_now now_bound now_modulus now_seed now_functions (v_now_names) (.ref q_now_kinds) (.ref q_now_firsts) (.ref q_now_seconds) (v_now_degrees) (.ref q_now_colours) (.ref q_now_needs) (.ref q_now_numbers), oX7 q_rows (.ref q_rows_sieve) (.ref q_rows_powers) (.ref q_rows_rows) turn_1, aR Y q_rows_rows 4 (fun j => some (ra j)), oX8 q_rows_sieve (.ref q_sieve_least_1), aI Y q_sieve_least_1 n_sieve_least_1 sieve_least_1, aI Y q_now_needs 12 now_needs, oX4 q_rows_powers (.ref q_rows_powers_ofPrime) (.ref q_rows_powers_cells), aI Y q_rows_powers_cells 216 powers_cells_1, aI Y q_rows_powers_ofPrime 18 powers_ofPrime_1, aI Y q_now_firsts 12 now_firsts, aI Y q_now_seconds 12 now_seconds, aI Y q_now_kinds 12 now_kinds, aI Y q_now_numbers 144 now_numbers, aI Y q_now_colours 12 now_colours, oX1 q_couples (.ref q_couples_small) (.ref q_couples_great) xF_1 root_1, aJ Y q_couples_great 448 great_1, aJ Y q_couples_small 448 small_1])) rfl ?_
            refine g_mmax C wM_X10_225 dX10_common_74 ⟨Nat.le_of_ble_eq_true rfl, Nat.le_of_ble_eq_true rfl⟩ hk_1 ?_
            refine g_topi (fun m_1 em_1 => ?_)
            replace h := h m_1 em_1
            refine g_istore (lv' := [(7, .int m_1), (8, .int rF_3), (0, .ref h0), (2, .int a2), (3, .ref (ra k_1)), (4, .long x4_1), (6, .int x6_1)]) C dX10_common_77 (by decide) rfl ?_
            refine g_aload_n C dX10_common_79 2 rfl ?_
            refine g_get C inX10 8 rfl rfl 0 (by decide) wF_X10_10 rfl dX10_common_80 ?_
            refine g_lload C dX10_common_83 5 rfl ?_
            refine g_aload_n C dX10_common_85 4 rfl ?_
            refine g_iload C dX10_common_86 6 rfl ?_
            refine g_iload C dX10_common_88 0 rfl ?_
            obtain ⟨P_7, hP, h⟩ := h
            refine g_callV (As := [.int x6_1, .int m_1]) (rest := [.long x4_1, .ref q_now]) C (mX6_stretch_at l D Y ra k_1 (hkk_1) rs_1 rf_1 rm_1 rl_1 ru_1 rn_1 rv_1 x6_1 m_1 P_7 hP) dX10_common_90 rfl wM_X10_191 wI_X6_stretch wV_X6_stretch wN_X6 wC_X6_stretch (n := 2) (by decide +kernel) rfl (q0 := (2 * k_1)) (rowsW_obj0 _ _ _ _ _ _ _ _ _ (hkk_1)) rfl ⟨Nat.le_of_ble_eq_true rfl, Nat.le_of_ble_eq_true rfl⟩ hk_1 (Nat.le_of_ble_eq_true rfl) [0, 1, 2, 3, 4, 5, 6, 7] [8, 9, 10, 11, 12, 13, 14, 15, 16, 17, 18, 19, 20, 21, 22, 23, 24, 25] rfl rfl rfl (fun v wc hv => ?_)
            obtain ⟨rF_5, rfl, rfl, hq⟩ := hv
            replace h := h rF_5 hq
            refine gG.perm (ws' := (rowsW Y ra rs_1 rf_1 rm_1 rl_1 ru_1 rn_1 rv_1 ++ [oX10 h0 (.ref q_now) (v_reader) (v_changes) (v_image) (.ref q_rows) (.ref q_couples), oX3 q_now now_bound now_modulus now_seed now_functions (v_now_names) (.ref q_now_kinds) (.ref q_now_firsts) (.ref q_now_seconds) (v_now_degrees) (.ref q_now_colours) (.ref q_now_needs) (.ref q_now_numbers), oX7 q_rows (.ref q_rows_sieve) (.ref q_rows_powers) (.ref q_rows_rows) turn_1, aR Y q_rows_rows 4 (fun j => some (ra j)), oX8 q_rows_sieve (.ref q_sieve_least_1), aI Y q_sieve_least_1 n_sieve_least_1 sieve_least_1, aI Y q_now_needs 12 now_needs, oX4 q_rows_powers (.ref q_rows_powers_ofPrime) (.ref q_rows_powers_cells), aI Y q_rows_powers_cells 216 powers_cells_1, aI Y q_rows_powers_ofPrime 18 powers_ofPrime_1, aI Y q_now_firsts 12 now_firsts, aI Y q_now_seconds 12 now_seconds, aI Y q_now_kinds 12 now_kinds, aI Y q_now_numbers 144 now_numbers, aI Y q_now_colours 12 now_colours, oX1 q_couples (.ref q_couples_small) (.ref q_couples_great) xF_1 root_1, aJ Y q_couples_great 448 great_1, aJ Y q_couples_small 448 small_1])) [18, 19, 20, 21, 22, 23, 24, 25, 0, 1, 2, 3, 4, 5, 6, 7, 8, 9, 10, 11, 12, 13, 14, 15, 16, 17] rfl rfl ?_
            refine g_i2l C dX10_common_93 ?_
            refine g_aload_n C dX10_common_94 2 rfl ?_
            refine g_get C inX10 8 rfl rfl 0 (by decide) wF_X10_10 rfl dX10_common_95 ?_
            refine g_aload_n C dX10_common_98 2 rfl ?_
            refine g_get C inX10 8 rfl rfl 5 (by decide) wF_X10_47 rfl dX10_common_99 ?_
            refine g_iload C dX10_common_102 1 rfl ?_
            obtain ⟨P_8, hP, h⟩ := h
            refine g_callV (As := [.int rF_3]) (rest := [.ref q_now, .long (rF_5.toInt64), .long x4_1, .ref q_now]) C (mX1_without l D Y q_couples q_couples_small q_couples_great xF_1 root_1 great_1 small_1 rF_3 P_8 hP) dX10_common_104 rfl wM_X10_231 wI_X1_without wV_X1_without wN_X1 wC_X1_without (n := 1) (by decide +kernel) rfl (q0 := 0) rfl rfl ⟨Nat.le_of_ble_eq_true rfl, Nat.le_of_ble_eq_true rfl⟩ hk_1 (Nat.le_of_ble_eq_true rfl) [23, 24, 25] [0, 1, 2, 3, 4, 5, 6, 7, 8, 9, 10, 11, 12, 13, 14, 15, 16, 17, 18, 19, 20, 21, 22] rfl rfl rfl (fun v wc hv => ?_)
            obtain ⟨rF_6, rfl, rfl, hq⟩ := hv
            replace h := h rF_6 hq
            refine gG.eqw (ws' := (rowsW Y ra rs_1 rf_1 rm_1 rl_1 ru_1 rn_1 rv_1 ++ [oX10 h0 (.ref q_now) (v_reader) (v_changes) (v_image) (.ref q_rows) (.ref q_couples), oX3 q_now now_bound now_modulus now_seed now_functions (v_now_names) (.ref q_now_kinds) (.ref q_now_firsts) (.ref q_now_seconds) (v_now_degrees) (.ref q_now_colours) (.ref q_now_needs) (.ref q_now_numbers), oX7 q_rows (.ref q_rows_sieve) (.ref q_rows_powers) (.ref q_rows_rows) turn_1, aR Y q_rows_rows 4 (fun j => some (ra j)), oX8 q_rows_sieve (.ref q_sieve_least_1), aI Y q_sieve_least_1 n_sieve_least_1 sieve_least_1, aI Y q_now_needs 12 now_needs, oX4 q_rows_powers (.ref q_rows_powers_ofPrime) (.ref q_rows_powers_cells), aI Y q_rows_powers_cells 216 powers_cells_1, aI Y q_rows_powers_ofPrime 18 powers_ofPrime_1, aI Y q_now_firsts 12 now_firsts, aI Y q_now_seconds 12 now_seconds, aI Y q_now_kinds 12 now_kinds, aI Y q_now_numbers 144 now_numbers, aI Y q_now_colours 12 now_colours, oX1 q_couples (.ref q_couples_small) (.ref q_couples_great) xF_1 root_1, aJ Y q_couples_great 448 great_1, aJ Y q_couples_small 448 small_1])) rfl ?_
            obtain ⟨P_9, hP, h⟩ := h
            refine g_callV (As := [.long rF_6]) (rest := [.long (rF_5.toInt64), .long x4_1, .ref q_now]) C (mX3_rest l D Y q_now now_bound now_modulus now_seed now_functions v_now_names (.ref q_now_kinds) (.ref q_now_firsts) (.ref q_now_seconds) v_now_degrees (.ref q_now_colours) (.ref q_now_needs) (.ref q_now_numbers) rF_6 P_9 hP) dX10_common_107 rfl wM_X10_209 wI_X3_rest wV_X3_rest wN_X3 wC_X3_rest (n := 1) (by decide +kernel) rfl (q0 := 0) rfl rfl ⟨Nat.le_of_ble_eq_true rfl, Nat.le_of_ble_eq_true rfl⟩ hk_1 (Nat.le_of_ble_eq_true rfl) [9] [0, 1, 2, 3, 4, 5, 6, 7, 8, 10, 11, 12, 13, 14, 15, 16, 17, 18, 19, 20, 21, 22, 23, 24, 25] rfl rfl rfl (fun v wc hv => ?_)
            obtain ⟨rF_7, rfl, rfl, hq⟩ := hv
            replace h := h rF_7 hq
            refine gG.perm (ws' := (rowsW Y ra rs_1 rf_1 rm_1 rl_1 ru_1 rn_1 rv_1 ++ [oX10 h0 (.ref q_now) (v_reader) (v_changes) (v_image) (.ref q_rows) (.ref q_couples), oX3 q_now now_bound now_modulus now_seed now_functions (v_now_names) (.ref q_now_kinds) (.ref q_now_firsts) (.ref q_now_seconds) (v_now_degrees) (.ref q_now_colours) (.ref q_now_needs) (.ref q_now_numbers), oX7 q_rows (.ref q_rows_sieve) (.ref q_rows_powers) (.ref q_rows_rows) turn_1, aR Y q_rows_rows 4 (fun j => some (ra j)), oX8 q_rows_sieve (.ref q_sieve_least_1), aI Y q_sieve_least_1 n_sieve_least_1 sieve_least_1, aI Y q_now_needs 12 now_needs, oX4 q_rows_powers (.ref q_rows_powers_ofPrime) (.ref q_rows_powers_cells), aI Y q_rows_powers_cells 216 powers_cells_1, aI Y q_rows_powers_ofPrime 18 powers_ofPrime_1, aI Y q_now_firsts 12 now_firsts, aI Y q_now_seconds 12 now_seconds, aI Y q_now_kinds 12 now_kinds, aI Y q_now_numbers 144 now_numbers, aI Y q_now_colours 12 now_colours, oX1 q_couples (.ref q_couples_small) (.ref q_couples_great) xF_1 root_1, aJ Y q_couples_great 448 great_1, aJ Y q_couples_small 448 small_1])) [0, 1, 2, 3, 4, 5, 6, 7, 8, 25, 9, 10, 11, 12, 13, 14, 15, 16, 17, 18, 19, 20, 21, 22, 23, 24] rfl rfl ?_
            refine g_i2l C dX10_common_110 ?_
            refine g_lmul C dX10_common_111 ?_
            refine g_ladd C dX10_common_112 ?_
            obtain ⟨P_10, hP, h⟩ := h
            refine g_callV (As := [.long (x4_1 + ((rF_5.toInt64) * (rF_7.toInt64)))]) (rest := []) C (mX3_rest l D Y q_now now_bound now_modulus now_seed now_functions v_now_names (.ref q_now_kinds) (.ref q_now_firsts) (.ref q_now_seconds) v_now_degrees (.ref q_now_colours) (.ref q_now_needs) (.ref q_now_numbers) (x4_1 + ((rF_5.toInt64) * (rF_7.toInt64))) P_10 hP) dX10_common_113 rfl wM_X10_209 wI_X3_rest wV_X3_rest wN_X3 wC_X3_rest (n := 1) (by decide +kernel) rfl (q0 := 0) rfl rfl ⟨Nat.le_of_ble_eq_true rfl, Nat.le_of_ble_eq_true rfl⟩ hk_1 (Nat.le_of_ble_eq_true rfl) [9] [0, 1, 2, 3, 4, 5, 6, 7, 8, 10, 11, 12, 13, 14, 15, 16, 17, 18, 19, 20, 21, 22, 23, 24, 25] rfl rfl rfl (fun v wc hv => ?_)
            obtain ⟨rF_8, rfl, rfl, hq⟩ := hv
            replace h := h rF_8 hq
            refine gG.perm (ws' := (rowsW Y ra rs_1 rf_1 rm_1 rl_1 ru_1 rn_1 rv_1 ++ [oX10 h0 (.ref q_now) (v_reader) (v_changes) (v_image) (.ref q_rows) (.ref q_couples), oX3 q_now now_bound now_modulus now_seed now_functions (v_now_names) (.ref q_now_kinds) (.ref q_now_firsts) (.ref q_now_seconds) (v_now_degrees) (.ref q_now_colours) (.ref q_now_needs) (.ref q_now_numbers), oX7 q_rows (.ref q_rows_sieve) (.ref q_rows_powers) (.ref q_rows_rows) turn_1, aR Y q_rows_rows 4 (fun j => some (ra j)), oX8 q_rows_sieve (.ref q_sieve_least_1), aI Y q_sieve_least_1 n_sieve_least_1 sieve_least_1, aI Y q_now_needs 12 now_needs, oX4 q_rows_powers (.ref q_rows_powers_ofPrime) (.ref q_rows_powers_cells), aI Y q_rows_powers_cells 216 powers_cells_1, aI Y q_rows_powers_ofPrime 18 powers_ofPrime_1, aI Y q_now_firsts 12 now_firsts, aI Y q_now_seconds 12 now_seconds, aI Y q_now_kinds 12 now_kinds, aI Y q_now_numbers 144 now_numbers, aI Y q_now_colours 12 now_colours, oX1 q_couples (.ref q_couples_small) (.ref q_couples_great) xF_1 root_1, aJ Y q_couples_great 448 great_1, aJ Y q_couples_small 448 small_1])) [0, 1, 2, 3, 4, 5, 6, 7, 8, 25, 9, 10, 11, 12, 13, 14, 15, 16, 17, 18, 19, 20, 21, 22, 23, 24] rfl rfl ?_
            refine g_i2l C dX10_common_116 ?_
            refine g_topl (fun x4_2 ex4_2 => ?_)
            replace h := h x4_2 ex4_2
            refine g_lstore (lv' := [(4, .long x4_2), (7, .int m_1), (8, .int rF_3), (0, .ref h0), (2, .int a2), (3, .ref (ra k_1)), (6, .int x6_1)]) C dX10_common_117 (by decide) rfl ?_
            refine g_iload C dX10_common_119 1 rfl ?_
            refine g_iconst (v := 1) C dX10_common_121 rfl ?_
            refine g_iadd C dX10_common_122 ?_
            refine g_topi (fun x6_2 ex6_2 => ?_)
            replace h := h x6_2 ex6_2
            refine g_istore (lv' := [(6, .int x6_2), (4, .long x4_2), (7, .int m_1), (8, .int rF_3), (0, .ref h0), (2, .int a2), (3, .ref (ra k_1))]) C dX10_common_123 (by decide) rfl ?_
            refine g_goto (tgt := 52) C dX10_common_125 (by decide) ?_
            refine gG.locals (lv' := [(0, .ref h0), (2, .int a2), (3, .ref (ra k_1)), (4, .long x4_2), (6, .int x6_2)]) [4, 5, 6, 1, 0] rfl ?_
            exact ih1 x4_2 x6_2 (Nat.lt_of_lt_of_le h.2 (Nat.le_of_lt_succ hm1)) h.1
      refine gG.locals (lv' := [(0, .ref h0), (2, .int a2), (3, .ref (ra k_1)), (4, .long 0), (6, .int 1)]) [4, 6, 3, 2, 1] rfl ?_
      exact key_1 (Mea_1 0 1 + 1) 0 1 (Nat.lt_succ_self _) hI1
    · replace h := h.2 c_2
      refine g_iconst (v := (-1)) C dX10_common_19 rfl ?_
      exact g_iret C hR (show 0 ≤ mc ∧ 0 ≤ ms from ⟨Nat.zero_le _, Nat.zero_le _⟩).1 (show 0 ≤ mc ∧ 0 ≤ ms from ⟨Nat.zero_le _, Nat.zero_le _⟩).2 dX10_common_20 ⟨(-1), rs, rf, rm, rl, ru, rn, rv, rows_turn, q_rows_sieve_least, n_rows_sieve_least, rows_sieve_least, rows_powers_cells, rows_powers_ofPrime, couples_x, couples_root, couples_great, couples_small, rfl, rfl, h⟩
theorem dX10_coprime_0 : decode cX10_coprime 0 = .ok (.aload_n 0, 1) := by decide +kernel
theorem dX10_coprime_1 : decode cX10_coprime 1 = .ok (.iload_n 1, 1) := by decide +kernel
theorem dX10_coprime_2 : decode cX10_coprime 2 = .ok (.invokevirtual 179, 3) := by decide +kernel
theorem dX10_coprime_5 : decode cX10_coprime 5 = .ok (.ifCond .ne 7, 3) := by decide +kernel
theorem dX10_coprime_8 : decode cX10_coprime 8 = .ok (.ldc2_w 235, 3) := by decide +kernel
theorem dX10_coprime_11 : decode cX10_coprime 11 = .ok (.lreturn, 1) := by decide +kernel
theorem dX10_coprime_12 : decode cX10_coprime 12 = .ok (.aload_n 0, 1) := by decide +kernel
theorem dX10_coprime_13 : decode cX10_coprime 13 = .ok (.getfield 47, 3) := by decide +kernel
theorem dX10_coprime_16 : decode cX10_coprime 16 = .ok (.iload_n 1, 1) := by decide +kernel
theorem dX10_coprime_17 : decode cX10_coprime 17 = .ok (.invokevirtual 230, 3) := by decide +kernel
theorem dX10_coprime_20 : decode cX10_coprime 20 = .ok (.aload_n 0, 1) := by decide +kernel
theorem dX10_coprime_21 : decode cX10_coprime 21 = .ok (.getfield 47, 3) := by decide +kernel
theorem dX10_coprime_24 : decode cX10_coprime 24 = .ok (.iload_n 1, 1) := by decide +kernel
theorem dX10_coprime_25 : decode cX10_coprime 25 = .ok (.invokevirtual 231, 3) := by decide +kernel
theorem dX10_coprime_28 : decode cX10_coprime 28 = .ok (.lreturn, 1) := by decide +kernel
/-- QuotientSums.coprime(I)J -/
def wX10_coprime (now_bound : Int32) (now_modulus : Int32) (now_seed : Int32) (now_functions : Int32) (couples_x : Int32) (couples_root : Int32) (couples_great : Nat → Int64) (couples_small : Nat → Int64) (a1 : Int32) (Q : (Int64) → (Int32) → (Int32) → (Nat → Int64) → (Nat → Int64) → Prop) : Prop :=
  (∃ (P_1 : (Int32) → Prop), wX10_isReach now_bound now_modulus now_seed now_functions a1 P_1 ∧ ∀ (rF_1 : Int32), P_1 rF_1 → ((¬ rF_1 = 0 → (∃ (P_2 : (Int32) → (Int32) → (Nat → Int64) → (Nat → Int64) → Prop), wX1_reach couples_x couples_root couples_great couples_small a1 P_2 ∧ ∀ (xF_1 : Int32) (root_1 : Int32) (great_1 : Nat → Int64) (small_1 : Nat → Int64), P_2 xF_1 root_1 great_1 small_1 → ∃ (P_3 : (Int64) → Prop), wX1_without xF_1 root_1 great_1 small_1 a1 P_3 ∧ ∀ (rF_2 : Int64), P_3 rF_2 → (Q rF_2 xF_1 root_1 great_1 small_1))) ∧ (rF_1 = 0 → (Q (-1) couples_x couples_root couples_great couples_small))))
set_option maxHeartbeats 4000000 in
set_option maxRecDepth 100000 in
theorem mX10_coprime (l : Launch) (D : va_G) (Y : Nat → ClassId) (h0 : Nat) (q_now : Nat) (v_reader : Value) (v_changes : Value) (v_image : Value) (v_rows : Value) (q_couples : Nat) (now_bound : Int32) (now_modulus : Int32) (now_seed : Int32) (now_functions : Int32) (v_now_names : Value) (v_now_kinds : Value) (v_now_firsts : Value) (v_now_seconds : Value) (v_now_degrees : Value) (v_now_colours : Value) (v_now_needs : Value) (v_now_numbers : Value) (q_couples_small : Nat) (q_couples_great : Nat) (couples_x : Int32) (couples_root : Int32) (couples_great : Nat → Int64) (couples_small : Nat → Int64) (a1 : Int32) (Q : (Int64) → (Int32) → (Int32) → (Nat → Int64) → (Nat → Int64) → Prop) (h : wX10_coprime now_bound now_modulus now_seed now_functions couples_x couples_root couples_great couples_small a1 Q) : gM l D Y yX10_coprime cX10_coprime 2 (some .long) 3 70 0 0 [.ref h0, .int a1] [oX10 h0 (.ref q_now) (v_reader) (v_changes) (v_image) (v_rows) (.ref q_couples), oX3 q_now now_bound now_modulus now_seed now_functions (v_now_names) (v_now_kinds) (v_now_firsts) (v_now_seconds) (v_now_degrees) (v_now_colours) (v_now_needs) (v_now_numbers), oX1 q_couples (.ref q_couples_small) (.ref q_couples_great) couples_x couples_root, aJ Y q_couples_great 448 couples_great, aJ Y q_couples_small 448 couples_small] (fun v w => ∃ r : Int64, ∃ couples_x' : Int32, ∃ couples_root' : Int32, ∃ couples_great' : Nat → Int64, ∃ couples_small' : Nat → Int64, v = some (.long r) ∧ w = [oX10 h0 (.ref q_now) (v_reader) (v_changes) (v_image) (v_rows) (.ref q_couples), oX3 q_now now_bound now_modulus now_seed now_functions (v_now_names) (v_now_kinds) (v_now_firsts) (v_now_seconds) (v_now_degrees) (v_now_colours) (v_now_needs) (v_now_numbers), oX1 q_couples (.ref q_couples_small) (.ref q_couples_great) couples_x' couples_root', aJ Y q_couples_great 448 couples_great', aJ Y q_couples_small 448 couples_small'] ∧ Q r couples_x' couples_root' couples_great' couples_small') := by
  refine gM_of (own := RX10) (by decide +kernel) rfl (Nat.le_of_ble_eq_true rfl) rfl (fun E C hR => ?_)
  unfold wX10_coprime at h
  refine g_aload_n C dX10_coprime_0 0 rfl ?_
  refine g_iload_n C dX10_coprime_1 1 rfl ?_
  obtain ⟨P_1, hP, h⟩ := h
  refine g_callV (As := [.int a1]) (rest := []) C (mX10_isReach l D Y h0 q_now v_reader v_changes v_image v_rows (.ref q_couples) now_bound now_modulus now_seed now_functions v_now_names v_now_kinds v_now_firsts v_now_seconds v_now_degrees v_now_colours v_now_needs v_now_numbers a1 P_1 hP) dX10_coprime_2 rfl wM_X10_179 wI_X10_isReach wV_X10_isReach wN_X10 wC_X10_isReach (n := 1) (by decide +kernel) rfl (q0 := 0) rfl rfl ⟨Nat.le_of_ble_eq_true rfl, Nat.le_of_ble_eq_true rfl⟩ ⟨Nat.le_of_ble_eq_true rfl, Nat.le_of_ble_eq_true rfl⟩ (Nat.le_of_ble_eq_true rfl) [0, 1] [2, 3, 4] rfl rfl rfl (fun v wc hv => ?_)
  obtain ⟨rF_1, rfl, rfl, hq⟩ := hv
  replace h := h rF_1 hq
  refine gG.perm (ws' := [oX10 h0 (.ref q_now) (v_reader) (v_changes) (v_image) (v_rows) (.ref q_couples), oX3 q_now now_bound now_modulus now_seed now_functions (v_now_names) (v_now_kinds) (v_now_firsts) (v_now_seconds) (v_now_degrees) (v_now_colours) (v_now_needs) (v_now_numbers), oX1 q_couples (.ref q_couples_small) (.ref q_couples_great) couples_x couples_root, aJ Y q_couples_great 448 couples_great, aJ Y q_couples_small 448 couples_small]) [3, 4, 0, 1, 2] rfl rfl ?_
  refine g_if_ne (tgt := 12) C dX10_coprime_5 (by decide) (fun c_1 => ?_) (fun c_1 => ?_)
  · replace h := h.1 c_1
    refine g_aload_n C dX10_coprime_12 0 rfl ?_
    refine g_get C inX10 0 rfl rfl 5 (by decide) wF_X10_47 rfl dX10_coprime_13 ?_
    refine g_iload_n C dX10_coprime_16 1 rfl ?_
    obtain ⟨P_2, hP, h⟩ := h
    refine g_callV (As := [.int a1]) (rest := []) C (mX1_reach l D Y q_couples q_couples_small q_couples_great couples_x couples_root couples_great couples_small a1 P_2 hP) dX10_coprime_17 rfl wM_X10_230 wI_X1_reach wV_X1_reach wN_X1 wC_X1_reach (n := 1) (by decide +kernel) rfl (q0 := 0) rfl rfl ⟨Nat.le_of_ble_eq_true rfl, Nat.le_of_ble_eq_true rfl⟩ ⟨Nat.le_of_ble_eq_true rfl, Nat.le_of_ble_eq_true rfl⟩ (Nat.le_of_ble_eq_true rfl) [2, 3, 4] [0, 1] rfl rfl rfl (fun v wc hv => ?_)
    obtain ⟨xF_1, root_1, great_1, small_1, rfl, rfl, hq⟩ := hv
    replace h := h xF_1 root_1 great_1 small_1 hq
    refine gG.eqw (ws' := [oX10 h0 (.ref q_now) (v_reader) (v_changes) (v_image) (v_rows) (.ref q_couples), oX3 q_now now_bound now_modulus now_seed now_functions (v_now_names) (v_now_kinds) (v_now_firsts) (v_now_seconds) (v_now_degrees) (v_now_colours) (v_now_needs) (v_now_numbers), oX1 q_couples (.ref q_couples_small) (.ref q_couples_great) xF_1 root_1, aJ Y q_couples_great 448 great_1, aJ Y q_couples_small 448 small_1]) rfl ?_
    refine g_aload_n C dX10_coprime_20 0 rfl ?_
    refine g_get C inX10 0 rfl rfl 5 (by decide) wF_X10_47 rfl dX10_coprime_21 ?_
    refine g_iload_n C dX10_coprime_24 1 rfl ?_
    obtain ⟨P_3, hP, h⟩ := h
    refine g_callV (As := [.int a1]) (rest := []) C (mX1_without l D Y q_couples q_couples_small q_couples_great xF_1 root_1 great_1 small_1 a1 P_3 hP) dX10_coprime_25 rfl wM_X10_231 wI_X1_without wV_X1_without wN_X1 wC_X1_without (n := 1) (by decide +kernel) rfl (q0 := 0) rfl rfl ⟨Nat.le_of_ble_eq_true rfl, Nat.le_of_ble_eq_true rfl⟩ ⟨Nat.le_of_ble_eq_true rfl, Nat.le_of_ble_eq_true rfl⟩ (Nat.le_of_ble_eq_true rfl) [2, 3, 4] [0, 1] rfl rfl rfl (fun v wc hv => ?_)
    obtain ⟨rF_2, rfl, rfl, hq⟩ := hv
    replace h := h rF_2 hq
    refine gG.eqw (ws' := [oX10 h0 (.ref q_now) (v_reader) (v_changes) (v_image) (v_rows) (.ref q_couples), oX3 q_now now_bound now_modulus now_seed now_functions (v_now_names) (v_now_kinds) (v_now_firsts) (v_now_seconds) (v_now_degrees) (v_now_colours) (v_now_needs) (v_now_numbers), oX1 q_couples (.ref q_couples_small) (.ref q_couples_great) xF_1 root_1, aJ Y q_couples_great 448 great_1, aJ Y q_couples_small 448 small_1]) rfl ?_
    exact g_lret C hR (Nat.le_of_ble_eq_true rfl) (Nat.le_of_ble_eq_true rfl) dX10_coprime_28 ⟨rF_2, xF_1, root_1, great_1, small_1, rfl, rfl, h⟩
  · replace h := h.2 c_1
    refine g_ldc2 C dX10_coprime_8 wQ_X10_235 ?_
    exact g_lret C hR (Nat.le_of_ble_eq_true rfl) (Nat.le_of_ble_eq_true rfl) dX10_coprime_11 ⟨(-1), couples_x, couples_root, couples_great, couples_small, rfl, rfl, h⟩
theorem dX10_freeUpTo_0 : decode cX10_freeUpTo 0 = .ok (.iconst 0, 1) := by decide +kernel
theorem dX10_freeUpTo_1 : decode cX10_freeUpTo 1 = .ok (.istore_n 1, 1) := by decide +kernel
theorem dX10_freeUpTo_2 : decode cX10_freeUpTo 2 = .ok (.iconst 1, 1) := by decide +kernel
theorem dX10_freeUpTo_3 : decode cX10_freeUpTo 3 = .ok (.istore_n 2, 1) := by decide +kernel
theorem dX10_freeUpTo_4 : decode cX10_freeUpTo 4 = .ok (.iload_n 2, 1) := by decide +kernel
theorem dX10_freeUpTo_5 : decode cX10_freeUpTo 5 = .ok (.iload_n 2, 1) := by decide +kernel
theorem dX10_freeUpTo_6 : decode cX10_freeUpTo 6 = .ok (.imul, 1) := by decide +kernel
theorem dX10_freeUpTo_7 : decode cX10_freeUpTo 7 = .ok (.iload_n 0, 1) := by decide +kernel
theorem dX10_freeUpTo_8 : decode cX10_freeUpTo 8 = .ok (.if_icmp .gt 24, 3) := by decide +kernel
theorem dX10_freeUpTo_11 : decode cX10_freeUpTo 11 = .ok (.iload_n 1, 1) := by decide +kernel
theorem dX10_freeUpTo_12 : decode cX10_freeUpTo 12 = .ok (.iload_n 2, 1) := by decide +kernel
theorem dX10_freeUpTo_13 : decode cX10_freeUpTo 13 = .ok (.invokestatic 243, 3) := by decide +kernel
theorem dX10_freeUpTo_16 : decode cX10_freeUpTo 16 = .ok (.iload_n 0, 1) := by decide +kernel
theorem dX10_freeUpTo_17 : decode cX10_freeUpTo 17 = .ok (.iload_n 2, 1) := by decide +kernel
theorem dX10_freeUpTo_18 : decode cX10_freeUpTo 18 = .ok (.iload_n 2, 1) := by decide +kernel
theorem dX10_freeUpTo_19 : decode cX10_freeUpTo 19 = .ok (.imul, 1) := by decide +kernel
theorem dX10_freeUpTo_20 : decode cX10_freeUpTo 20 = .ok (.invokestatic 219, 3) := by decide +kernel
theorem dX10_freeUpTo_23 : decode cX10_freeUpTo 23 = .ok (.imul, 1) := by decide +kernel
theorem dX10_freeUpTo_24 : decode cX10_freeUpTo 24 = .ok (.iadd, 1) := by decide +kernel
theorem dX10_freeUpTo_25 : decode cX10_freeUpTo 25 = .ok (.istore_n 1, 1) := by decide +kernel
theorem dX10_freeUpTo_26 : decode cX10_freeUpTo 26 = .ok (.iinc 2 1, 3) := by decide +kernel
theorem dX10_freeUpTo_29 : decode cX10_freeUpTo 29 = .ok (.goto (-25), 3) := by decide +kernel
theorem dX10_freeUpTo_32 : decode cX10_freeUpTo 32 = .ok (.iload_n 1, 1) := by decide +kernel
theorem dX10_freeUpTo_33 : decode cX10_freeUpTo 33 = .ok (.ireturn, 1) := by decide +kernel
/-- QuotientSums.freeUpTo(I)I -/
def wX10_freeUpTo  (a1 : Int32) (Q : (Int32) → Prop) : Prop :=
  (∃ (Inv_1 : (Int32) → (Int32) → Prop) (Mea_1 : (Int32) → (Int32) → Nat), Inv_1 0 1 ∧ ∀ (x1_1 : Int32) (x2_1 : Int32), Inv_1 x1_1 x2_1 → ((a1 < (x2_1 * x2_1) → (Q x1_1)) ∧ (¬ a1 < (x2_1 * x2_1) → (∃ (P_1 : (Int32) → Prop), wX10_signOf x2_1 P_1 ∧ ∀ (rF_1 : Int32), P_1 rF_1 → ∃ (P_2 : (Int32) → Prop), wX10_divided a1 (x2_1 * x2_1) P_2 ∧ ∀ (rF_2 : Int32), P_2 rF_2 → ∀ x1_2 : Int32, x1_2 = x1_1 + (rF_1 * rF_2) → (Inv_1 x1_2 (x2_1 + 1) ∧ Mea_1 x1_2 (x2_1 + 1) < Mea_1 x1_1 x2_1)))))
set_option maxHeartbeats 4000000 in
set_option maxRecDepth 100000 in
theorem mX10_freeUpTo (l : Launch) (D : va_G) (Y : Nat → ClassId)   (a1 : Int32) (Q : (Int32) → Prop) (h : wX10_freeUpTo a1 Q) : gM l D Y yX10_freeUpTo cX10_freeUpTo 3 (some .int) 1 23 0 0 [.int a1] [] (fun v w => ∃ r : Int32, v = some (.int r) ∧ w = [] ∧ Q r) := by
  refine gM_of (own := RX10) (by decide +kernel) rfl (Nat.le_of_ble_eq_true rfl) rfl (fun E C hR => ?_)
  unfold wX10_freeUpTo at h
  refine g_iconst (v := 0) C dX10_freeUpTo_0 rfl ?_
  refine g_istore_n (lv' := [(1, .int 0), (0, .int a1)]) C dX10_freeUpTo_1 (by decide) rfl ?_
  refine g_iconst (v := 1) C dX10_freeUpTo_2 rfl ?_
  refine g_istore_n (lv' := [(2, .int 1), (1, .int 0), (0, .int a1)]) C dX10_freeUpTo_3 (by decide) rfl ?_
  obtain ⟨Inv_1, Mea_1, hI1, hB1⟩ := h
  have key_1 : ∀ (n : Nat) (x1_1 : Int32) (x2_1 : Int32) , Mea_1 x1_1 x2_1 < n → Inv_1 x1_1 x2_1 → gG E 0 0 [] [(0, .int a1), (1, .int x1_1), (2, .int x2_1)] [] 4 := by
    intro n
    induction n with
    | zero => exact fun _ _ hm => absurd hm (Nat.not_lt_zero _)
    | succ n ih1 =>
      intro x1_1 x2_1  hm1 hI
      have h := hB1 x1_1 x2_1 hI
      refine g_iload_n C dX10_freeUpTo_4 2 rfl ?_
      refine g_iload_n C dX10_freeUpTo_5 2 rfl ?_
      refine g_imul C dX10_freeUpTo_6 ?_
      refine g_iload_n C dX10_freeUpTo_7 0 rfl ?_
      refine g_icmp_gt (tgt := 32) C dX10_freeUpTo_8 (by decide) (fun c_1 => ?_) (fun c_1 => ?_)
      · replace h := h.1 c_1
        refine g_iload_n C dX10_freeUpTo_32 1 rfl ?_
        exact g_iret C hR (Nat.le_of_ble_eq_true rfl) (Nat.le_of_ble_eq_true rfl) dX10_freeUpTo_33 ⟨x1_1, rfl, rfl, h⟩
      · replace h := h.2 c_1
        refine g_iload_n C dX10_freeUpTo_11 1 rfl ?_
        refine g_iload_n C dX10_freeUpTo_12 2 rfl ?_
        obtain ⟨P_1, hP, h⟩ := h
        refine g_callS (As := [.int x2_1]) (rest := [.int x1_1]) C (mX10_signOf l D Y x2_1 P_1 hP) dX10_freeUpTo_13 rfl wM_X10_243 wS_X10_signOf wN_X10 wC_X10_signOf (n := 1) (by decide +kernel) rfl ⟨Nat.le_of_ble_eq_true rfl, Nat.le_of_ble_eq_true rfl⟩ ⟨Nat.le_of_ble_eq_true rfl, Nat.le_of_ble_eq_true rfl⟩ (Nat.le_of_ble_eq_true rfl) [] [] rfl rfl rfl (fun v wc hv => ?_)
        obtain ⟨rF_1, rfl, rfl, hq⟩ := hv
        replace h := h rF_1 hq
        refine gG.eqw (ws' := []) rfl ?_
        refine g_iload_n C dX10_freeUpTo_16 0 rfl ?_
        refine g_iload_n C dX10_freeUpTo_17 2 rfl ?_
        refine g_iload_n C dX10_freeUpTo_18 2 rfl ?_
        refine g_imul C dX10_freeUpTo_19 ?_
        obtain ⟨P_2, hP, h⟩ := h
        refine g_callS (As := [.int a1, .int (x2_1 * x2_1)]) (rest := [.int rF_1, .int x1_1]) C (mX10_divided l D Y a1 (x2_1 * x2_1) P_2 hP) dX10_freeUpTo_20 rfl wM_X10_219 wS_X10_divided wN_X10 wC_X10_divided (n := 2) (by decide +kernel) rfl ⟨Nat.le_of_ble_eq_true rfl, Nat.le_of_ble_eq_true rfl⟩ ⟨Nat.le_of_ble_eq_true rfl, Nat.le_of_ble_eq_true rfl⟩ (Nat.le_of_ble_eq_true rfl) [] [] rfl rfl rfl (fun v wc hv => ?_)
        obtain ⟨rF_2, rfl, rfl, hq⟩ := hv
        replace h := h rF_2 hq
        refine gG.eqw (ws' := []) rfl ?_
        refine g_imul C dX10_freeUpTo_23 ?_
        refine g_iadd C dX10_freeUpTo_24 ?_
        refine g_topi (fun x1_2 ex1_2 => ?_)
        replace h := h x1_2 ex1_2
        refine g_istore_n (lv' := [(1, .int x1_2), (0, .int a1), (2, .int x2_1)]) C dX10_freeUpTo_25 (by decide) rfl ?_
        refine g_iinc (v := x2_1 + 1) (lv' := [(2, .int (x2_1 + 1)), (1, .int x1_2), (0, .int a1)]) C dX10_freeUpTo_26 2 rfl rfl (by decide) rfl ?_
        refine g_goto (tgt := 4) C dX10_freeUpTo_29 (by decide) ?_
        refine gG.locals (lv' := [(0, .int a1), (1, .int x1_2), (2, .int (x2_1 + 1))]) [2, 1, 0] rfl ?_
        exact ih1 x1_2 (x2_1 + 1) (Nat.lt_of_lt_of_le h.2 (Nat.le_of_lt_succ hm1)) h.1
  refine gG.locals (lv' := [(0, .int a1), (1, .int 0), (2, .int 1)]) [2, 1, 0] rfl ?_
  exact key_1 (Mea_1 0 1 + 1) 0 1 (Nat.lt_succ_self _) hI1
theorem dX10_fullUpTo_0 : decode cX10_fullUpTo 0 = .ok (.iconst 0, 1) := by decide +kernel
theorem dX10_fullUpTo_1 : decode cX10_fullUpTo 1 = .ok (.istore_n 1, 1) := by decide +kernel
theorem dX10_fullUpTo_2 : decode cX10_fullUpTo 2 = .ok (.iconst 1, 1) := by decide +kernel
theorem dX10_fullUpTo_3 : decode cX10_fullUpTo 3 = .ok (.istore_n 2, 1) := by decide +kernel
theorem dX10_fullUpTo_4 : decode cX10_fullUpTo 4 = .ok (.iload_n 2, 1) := by decide +kernel
theorem dX10_fullUpTo_5 : decode cX10_fullUpTo 5 = .ok (.iload_n 2, 1) := by decide +kernel
theorem dX10_fullUpTo_6 : decode cX10_fullUpTo 6 = .ok (.imul, 1) := by decide +kernel
theorem dX10_fullUpTo_7 : decode cX10_fullUpTo 7 = .ok (.iload_n 2, 1) := by decide +kernel
theorem dX10_fullUpTo_8 : decode cX10_fullUpTo 8 = .ok (.imul, 1) := by decide +kernel
theorem dX10_fullUpTo_9 : decode cX10_fullUpTo 9 = .ok (.iload_n 0, 1) := by decide +kernel
theorem dX10_fullUpTo_10 : decode cX10_fullUpTo 10 = .ok (.if_icmp .gt 31, 3) := by decide +kernel
theorem dX10_fullUpTo_13 : decode cX10_fullUpTo 13 = .ok (.iload_n 2, 1) := by decide +kernel
theorem dX10_fullUpTo_14 : decode cX10_fullUpTo 14 = .ok (.invokestatic 243, 3) := by decide +kernel
theorem dX10_fullUpTo_17 : decode cX10_fullUpTo 17 = .ok (.ifCond .eq 18, 3) := by decide +kernel
theorem dX10_fullUpTo_20 : decode cX10_fullUpTo 20 = .ok (.iload_n 1, 1) := by decide +kernel
theorem dX10_fullUpTo_21 : decode cX10_fullUpTo 21 = .ok (.iload_n 0, 1) := by decide +kernel
theorem dX10_fullUpTo_22 : decode cX10_fullUpTo 22 = .ok (.iload_n 2, 1) := by decide +kernel
theorem dX10_fullUpTo_23 : decode cX10_fullUpTo 23 = .ok (.iload_n 2, 1) := by decide +kernel
theorem dX10_fullUpTo_24 : decode cX10_fullUpTo 24 = .ok (.imul, 1) := by decide +kernel
theorem dX10_fullUpTo_25 : decode cX10_fullUpTo 25 = .ok (.iload_n 2, 1) := by decide +kernel
theorem dX10_fullUpTo_26 : decode cX10_fullUpTo 26 = .ok (.imul, 1) := by decide +kernel
theorem dX10_fullUpTo_27 : decode cX10_fullUpTo 27 = .ok (.invokestatic 219, 3) := by decide +kernel
theorem dX10_fullUpTo_30 : decode cX10_fullUpTo 30 = .ok (.invokestatic 222, 3) := by decide +kernel
theorem dX10_fullUpTo_33 : decode cX10_fullUpTo 33 = .ok (.iadd, 1) := by decide +kernel
theorem dX10_fullUpTo_34 : decode cX10_fullUpTo 34 = .ok (.istore_n 1, 1) := by decide +kernel
theorem dX10_fullUpTo_35 : decode cX10_fullUpTo 35 = .ok (.iinc 2 1, 3) := by decide +kernel
theorem dX10_fullUpTo_38 : decode cX10_fullUpTo 38 = .ok (.goto (-34), 3) := by decide +kernel
theorem dX10_fullUpTo_41 : decode cX10_fullUpTo 41 = .ok (.iload_n 1, 1) := by decide +kernel
theorem dX10_fullUpTo_42 : decode cX10_fullUpTo 42 = .ok (.ireturn, 1) := by decide +kernel
/-- QuotientSums.fullUpTo(I)I -/
def wX10_fullUpTo  (a1 : Int32) (Q : (Int32) → Prop) : Prop :=
  (∃ (Inv_1 : (Int32) → (Int32) → Prop) (Mea_1 : (Int32) → (Int32) → Nat), Inv_1 0 1 ∧ ∀ (x1_1 : Int32) (x2_1 : Int32), Inv_1 x1_1 x2_1 → ((a1 < ((x2_1 * x2_1) * x2_1) → (Q x1_1)) ∧ (¬ a1 < ((x2_1 * x2_1) * x2_1) → (∃ (P_1 : (Int32) → Prop), wX10_signOf x2_1 P_1 ∧ ∀ (rF_1 : Int32), P_1 rF_1 → ((rF_1 = 0 → (Inv_1 x1_1 (x2_1 + 1) ∧ Mea_1 x1_1 (x2_1 + 1) < Mea_1 x1_1 x2_1)) ∧ (¬ rF_1 = 0 → (∃ (P_2 : (Int32) → Prop), wX10_divided a1 ((x2_1 * x2_1) * x2_1) P_2 ∧ ∀ (rF_2 : Int32), P_2 rF_2 → ∃ (P_3 : (Int32) → Prop), wX10_rootOf rF_2 P_3 ∧ ∀ (rF_3 : Int32), P_3 rF_3 → ∀ x1_2 : Int32, x1_2 = x1_1 + rF_3 → (Inv_1 x1_2 (x2_1 + 1) ∧ Mea_1 x1_2 (x2_1 + 1) < Mea_1 x1_1 x2_1))))))))
set_option maxHeartbeats 4000000 in
set_option maxRecDepth 100000 in
theorem mX10_fullUpTo (l : Launch) (D : va_G) (Y : Nat → ClassId)   (a1 : Int32) (Q : (Int32) → Prop) (h : wX10_fullUpTo a1 Q) : gM l D Y yX10_fullUpTo cX10_fullUpTo 3 (some .int) 1 23 0 0 [.int a1] [] (fun v w => ∃ r : Int32, v = some (.int r) ∧ w = [] ∧ Q r) := by
  refine gM_of (own := RX10) (by decide +kernel) rfl (Nat.le_of_ble_eq_true rfl) rfl (fun E C hR => ?_)
  unfold wX10_fullUpTo at h
  refine g_iconst (v := 0) C dX10_fullUpTo_0 rfl ?_
  refine g_istore_n (lv' := [(1, .int 0), (0, .int a1)]) C dX10_fullUpTo_1 (by decide) rfl ?_
  refine g_iconst (v := 1) C dX10_fullUpTo_2 rfl ?_
  refine g_istore_n (lv' := [(2, .int 1), (1, .int 0), (0, .int a1)]) C dX10_fullUpTo_3 (by decide) rfl ?_
  obtain ⟨Inv_1, Mea_1, hI1, hB1⟩ := h
  have key_1 : ∀ (n : Nat) (x1_1 : Int32) (x2_1 : Int32) , Mea_1 x1_1 x2_1 < n → Inv_1 x1_1 x2_1 → gG E 0 0 [] [(0, .int a1), (1, .int x1_1), (2, .int x2_1)] [] 4 := by
    intro n
    induction n with
    | zero => exact fun _ _ hm => absurd hm (Nat.not_lt_zero _)
    | succ n ih1 =>
      intro x1_1 x2_1  hm1 hI
      have h := hB1 x1_1 x2_1 hI
      refine g_iload_n C dX10_fullUpTo_4 2 rfl ?_
      refine g_iload_n C dX10_fullUpTo_5 2 rfl ?_
      refine g_imul C dX10_fullUpTo_6 ?_
      refine g_iload_n C dX10_fullUpTo_7 2 rfl ?_
      refine g_imul C dX10_fullUpTo_8 ?_
      refine g_iload_n C dX10_fullUpTo_9 0 rfl ?_
      refine g_icmp_gt (tgt := 41) C dX10_fullUpTo_10 (by decide) (fun c_1 => ?_) (fun c_1 => ?_)
      · replace h := h.1 c_1
        refine g_iload_n C dX10_fullUpTo_41 1 rfl ?_
        exact g_iret C hR (Nat.le_of_ble_eq_true rfl) (Nat.le_of_ble_eq_true rfl) dX10_fullUpTo_42 ⟨x1_1, rfl, rfl, h⟩
      · replace h := h.2 c_1
        refine g_iload_n C dX10_fullUpTo_13 2 rfl ?_
        obtain ⟨P_1, hP, h⟩ := h
        refine g_callS (As := [.int x2_1]) (rest := []) C (mX10_signOf l D Y x2_1 P_1 hP) dX10_fullUpTo_14 rfl wM_X10_243 wS_X10_signOf wN_X10 wC_X10_signOf (n := 1) (by decide +kernel) rfl ⟨Nat.le_of_ble_eq_true rfl, Nat.le_of_ble_eq_true rfl⟩ ⟨Nat.le_of_ble_eq_true rfl, Nat.le_of_ble_eq_true rfl⟩ (Nat.le_of_ble_eq_true rfl) [] [] rfl rfl rfl (fun v wc hv => ?_)
        obtain ⟨rF_1, rfl, rfl, hq⟩ := hv
        replace h := h rF_1 hq
        refine gG.eqw (ws' := []) rfl ?_
        refine g_if_eq (tgt := 35) C dX10_fullUpTo_17 (by decide) (fun c_2 => ?_) (fun c_2 => ?_)
        · replace h := h.1 c_2
          refine g_iinc (v := x2_1 + 1) (lv' := [(2, .int (x2_1 + 1)), (0, .int a1), (1, .int x1_1)]) C dX10_fullUpTo_35 2 rfl rfl (by decide) rfl ?_
          refine g_goto (tgt := 4) C dX10_fullUpTo_38 (by decide) ?_
          refine gG.locals (lv' := [(0, .int a1), (1, .int x1_1), (2, .int (x2_1 + 1))]) [1, 2, 0] rfl ?_
          exact ih1 x1_1 (x2_1 + 1) (Nat.lt_of_lt_of_le h.2 (Nat.le_of_lt_succ hm1)) h.1
        · replace h := h.2 c_2
          refine g_iload_n C dX10_fullUpTo_20 1 rfl ?_
          refine g_iload_n C dX10_fullUpTo_21 0 rfl ?_
          refine g_iload_n C dX10_fullUpTo_22 2 rfl ?_
          refine g_iload_n C dX10_fullUpTo_23 2 rfl ?_
          refine g_imul C dX10_fullUpTo_24 ?_
          refine g_iload_n C dX10_fullUpTo_25 2 rfl ?_
          refine g_imul C dX10_fullUpTo_26 ?_
          obtain ⟨P_2, hP, h⟩ := h
          refine g_callS (As := [.int a1, .int ((x2_1 * x2_1) * x2_1)]) (rest := [.int x1_1]) C (mX10_divided l D Y a1 ((x2_1 * x2_1) * x2_1) P_2 hP) dX10_fullUpTo_27 rfl wM_X10_219 wS_X10_divided wN_X10 wC_X10_divided (n := 2) (by decide +kernel) rfl ⟨Nat.le_of_ble_eq_true rfl, Nat.le_of_ble_eq_true rfl⟩ ⟨Nat.le_of_ble_eq_true rfl, Nat.le_of_ble_eq_true rfl⟩ (Nat.le_of_ble_eq_true rfl) [] [] rfl rfl rfl (fun v wc hv => ?_)
          obtain ⟨rF_2, rfl, rfl, hq⟩ := hv
          replace h := h rF_2 hq
          refine gG.eqw (ws' := []) rfl ?_
          obtain ⟨P_3, hP, h⟩ := h
          refine g_callS (As := [.int rF_2]) (rest := [.int x1_1]) C (mX10_rootOf l D Y rF_2 P_3 hP) dX10_fullUpTo_30 rfl wM_X10_222 wS_X10_rootOf wN_X10 wC_X10_rootOf (n := 1) (by decide +kernel) rfl ⟨Nat.le_of_ble_eq_true rfl, Nat.le_of_ble_eq_true rfl⟩ ⟨Nat.le_of_ble_eq_true rfl, Nat.le_of_ble_eq_true rfl⟩ (Nat.le_of_ble_eq_true rfl) [] [] rfl rfl rfl (fun v wc hv => ?_)
          obtain ⟨rF_3, rfl, rfl, hq⟩ := hv
          replace h := h rF_3 hq
          refine gG.eqw (ws' := []) rfl ?_
          refine g_iadd C dX10_fullUpTo_33 ?_
          refine g_topi (fun x1_2 ex1_2 => ?_)
          replace h := h x1_2 ex1_2
          refine g_istore_n (lv' := [(1, .int x1_2), (0, .int a1), (2, .int x2_1)]) C dX10_fullUpTo_34 (by decide) rfl ?_
          refine g_iinc (v := x2_1 + 1) (lv' := [(2, .int (x2_1 + 1)), (1, .int x1_2), (0, .int a1)]) C dX10_fullUpTo_35 2 rfl rfl (by decide) rfl ?_
          refine g_goto (tgt := 4) C dX10_fullUpTo_38 (by decide) ?_
          refine gG.locals (lv' := [(0, .int a1), (1, .int x1_2), (2, .int (x2_1 + 1))]) [2, 1, 0] rfl ?_
          exact ih1 x1_2 (x2_1 + 1) (Nat.lt_of_lt_of_le h.2 (Nat.le_of_lt_succ hm1)) h.1
  refine gG.locals (lv' := [(0, .int a1), (1, .int 0), (2, .int 1)]) [2, 1, 0] rfl ?_
  exact key_1 (Mea_1 0 1 + 1) 0 1 (Nat.lt_succ_self _) hI1
theorem dX10_many_0 : decode cX10_many 0 = .ok (.iload_n 1, 1) := by decide +kernel
theorem dX10_many_1 : decode cX10_many 1 = .ok (.ifCond .lt 16, 3) := by decide +kernel
theorem dX10_many_4 : decode cX10_many 4 = .ok (.iload_n 1, 1) := by decide +kernel
theorem dX10_many_5 : decode cX10_many 5 = .ok (.iconst 1, 1) := by decide +kernel
theorem dX10_many_6 : decode cX10_many 6 = .ok (.if_icmp .gt 11, 3) := by decide +kernel
theorem dX10_many_9 : decode cX10_many 9 = .ok (.aload_n 0, 1) := by decide +kernel
theorem dX10_many_10 : decode cX10_many 10 = .ok (.iload_n 2, 1) := by decide +kernel
theorem dX10_many_11 : decode cX10_many 11 = .ok (.invokevirtual 179, 3) := by decide +kernel
theorem dX10_many_14 : decode cX10_many 14 = .ok (.ifCond .ne 5, 3) := by decide +kernel
theorem dX10_many_17 : decode cX10_many 17 = .ok (.iconst (-1), 1) := by decide +kernel
theorem dX10_many_18 : decode cX10_many 18 = .ok (.ireturn, 1) := by decide +kernel
theorem dX10_many_19 : decode cX10_many 19 = .ok (.iload_n 1, 1) := by decide +kernel
theorem dX10_many_20 : decode cX10_many 20 = .ok (.ifCond .ne 10, 3) := by decide +kernel
theorem dX10_many_23 : decode cX10_many 23 = .ok (.iload_n 2, 1) := by decide +kernel
theorem dX10_many_24 : decode cX10_many 24 = .ok (.invokestatic 237, 3) := by decide +kernel
theorem dX10_many_27 : decode cX10_many 27 = .ok (.goto 7, 3) := by decide +kernel
theorem dX10_many_30 : decode cX10_many 30 = .ok (.iload_n 2, 1) := by decide +kernel
theorem dX10_many_31 : decode cX10_many 31 = .ok (.invokestatic 240, 3) := by decide +kernel
theorem dX10_many_34 : decode cX10_many 34 = .ok (.ireturn, 1) := by decide +kernel
/-- QuotientSums.many(II)I -/
def wX10_many (now_bound : Int32) (now_modulus : Int32) (now_seed : Int32) (now_functions : Int32) (a1 : Int32) (a2 : Int32) (Q : (Int32) → Prop) : Prop :=
  ((a1 < 0 → (Q (-1))) ∧ (¬ a1 < 0 → ((1 < a1 → (Q (-1))) ∧ (¬ 1 < a1 → (∃ (P_1 : (Int32) → Prop), wX10_isReach now_bound now_modulus now_seed now_functions a2 P_1 ∧ ∀ (rF_1 : Int32), P_1 rF_1 → ((¬ rF_1 = 0 → ((¬ a1 = 0 → (∃ (P_2 : (Int32) → Prop), wX10_fullUpTo a2 P_2 ∧ ∀ (rF_2 : Int32), P_2 rF_2 → (Q rF_2))) ∧ (a1 = 0 → (∃ (P_3 : (Int32) → Prop), wX10_freeUpTo a2 P_3 ∧ ∀ (rF_3 : Int32), P_3 rF_3 → (Q rF_3))))) ∧ (rF_1 = 0 → (Q (-1)))))))))
set_option maxHeartbeats 4000000 in
set_option maxRecDepth 100000 in
theorem mX10_many (l : Launch) (D : va_G) (Y : Nat → ClassId) (h0 : Nat) (q_now : Nat) (v_reader : Value) (v_changes : Value) (v_image : Value) (v_rows : Value) (v_couples : Value) (now_bound : Int32) (now_modulus : Int32) (now_seed : Int32) (now_functions : Int32) (v_now_names : Value) (v_now_kinds : Value) (v_now_firsts : Value) (v_now_seconds : Value) (v_now_degrees : Value) (v_now_colours : Value) (v_now_needs : Value) (v_now_numbers : Value) (a1 : Int32) (a2 : Int32) (Q : (Int32) → Prop) (h : wX10_many now_bound now_modulus now_seed now_functions a1 a2 Q) : gM l D Y yX10_many cX10_many 3 (some .int) 2 45 0 0 [.ref h0, .int a1, .int a2] [oX10 h0 (.ref q_now) (v_reader) (v_changes) (v_image) (v_rows) (v_couples), oX3 q_now now_bound now_modulus now_seed now_functions (v_now_names) (v_now_kinds) (v_now_firsts) (v_now_seconds) (v_now_degrees) (v_now_colours) (v_now_needs) (v_now_numbers)] (fun v w => ∃ r : Int32, v = some (.int r) ∧ w = [oX10 h0 (.ref q_now) (v_reader) (v_changes) (v_image) (v_rows) (v_couples), oX3 q_now now_bound now_modulus now_seed now_functions (v_now_names) (v_now_kinds) (v_now_firsts) (v_now_seconds) (v_now_degrees) (v_now_colours) (v_now_needs) (v_now_numbers)] ∧ Q r) := by
  refine gM_of (own := RX10) (by decide +kernel) rfl (Nat.le_of_ble_eq_true rfl) rfl (fun E C hR => ?_)
  unfold wX10_many at h
  refine g_iload_n C dX10_many_0 1 rfl ?_
  refine g_if_lt (tgt := 17) C dX10_many_1 (by decide) (fun c_1 => ?_) (fun c_1 => ?_)
  · replace h := h.1 c_1
    refine g_iconst (v := (-1)) C dX10_many_17 rfl ?_
    exact g_iret C hR (Nat.le_of_ble_eq_true rfl) (Nat.le_of_ble_eq_true rfl) dX10_many_18 ⟨(-1), rfl, rfl, h⟩
  · replace h := h.2 c_1
    refine g_iload_n C dX10_many_4 1 rfl ?_
    refine g_iconst (v := 1) C dX10_many_5 rfl ?_
    refine g_icmp_gt (tgt := 17) C dX10_many_6 (by decide) (fun c_2 => ?_) (fun c_2 => ?_)
    · replace h := h.1 c_2
      refine g_iconst (v := (-1)) C dX10_many_17 rfl ?_
      exact g_iret C hR (Nat.le_of_ble_eq_true rfl) (Nat.le_of_ble_eq_true rfl) dX10_many_18 ⟨(-1), rfl, rfl, h⟩
    · replace h := h.2 c_2
      refine g_aload_n C dX10_many_9 0 rfl ?_
      refine g_iload_n C dX10_many_10 2 rfl ?_
      obtain ⟨P_1, hP, h⟩ := h
      refine g_callV (As := [.int a2]) (rest := []) C (mX10_isReach l D Y h0 q_now v_reader v_changes v_image v_rows v_couples now_bound now_modulus now_seed now_functions v_now_names v_now_kinds v_now_firsts v_now_seconds v_now_degrees v_now_colours v_now_needs v_now_numbers a2 P_1 hP) dX10_many_11 rfl wM_X10_179 wI_X10_isReach wV_X10_isReach wN_X10 wC_X10_isReach (n := 1) (by decide +kernel) rfl (q0 := 0) rfl rfl ⟨Nat.le_of_ble_eq_true rfl, Nat.le_of_ble_eq_true rfl⟩ ⟨Nat.le_of_ble_eq_true rfl, Nat.le_of_ble_eq_true rfl⟩ (Nat.le_of_ble_eq_true rfl) [0, 1] [] rfl rfl rfl (fun v wc hv => ?_)
      obtain ⟨rF_1, rfl, rfl, hq⟩ := hv
      replace h := h rF_1 hq
      refine gG.eqw (ws' := [oX10 h0 (.ref q_now) (v_reader) (v_changes) (v_image) (v_rows) (v_couples), oX3 q_now now_bound now_modulus now_seed now_functions (v_now_names) (v_now_kinds) (v_now_firsts) (v_now_seconds) (v_now_degrees) (v_now_colours) (v_now_needs) (v_now_numbers)]) rfl ?_
      refine g_if_ne (tgt := 19) C dX10_many_14 (by decide) (fun c_3 => ?_) (fun c_3 => ?_)
      · replace h := h.1 c_3
        refine g_iload_n C dX10_many_19 1 rfl ?_
        refine g_if_ne (tgt := 30) C dX10_many_20 (by decide) (fun c_4 => ?_) (fun c_4 => ?_)
        · replace h := h.1 c_4
          refine g_iload_n C dX10_many_30 2 rfl ?_
          obtain ⟨P_2, hP, h⟩ := h
          refine g_callS (As := [.int a2]) (rest := []) C (mX10_fullUpTo l D Y a2 P_2 hP) dX10_many_31 rfl wM_X10_240 wS_X10_fullUpTo wN_X10 wC_X10_fullUpTo (n := 1) (by decide +kernel) rfl ⟨Nat.le_of_ble_eq_true rfl, Nat.le_of_ble_eq_true rfl⟩ ⟨Nat.le_of_ble_eq_true rfl, Nat.le_of_ble_eq_true rfl⟩ (Nat.le_of_ble_eq_true rfl) [] [0, 1] rfl rfl rfl (fun v wc hv => ?_)
          obtain ⟨rF_2, rfl, rfl, hq⟩ := hv
          replace h := h rF_2 hq
          refine gG.eqw (ws' := [oX10 h0 (.ref q_now) (v_reader) (v_changes) (v_image) (v_rows) (v_couples), oX3 q_now now_bound now_modulus now_seed now_functions (v_now_names) (v_now_kinds) (v_now_firsts) (v_now_seconds) (v_now_degrees) (v_now_colours) (v_now_needs) (v_now_numbers)]) rfl ?_
          exact g_iret C hR (Nat.le_of_ble_eq_true rfl) (Nat.le_of_ble_eq_true rfl) dX10_many_34 ⟨rF_2, rfl, rfl, h⟩
        · replace h := h.2 c_4
          refine g_iload_n C dX10_many_23 2 rfl ?_
          obtain ⟨P_3, hP, h⟩ := h
          refine g_callS (As := [.int a2]) (rest := []) C (mX10_freeUpTo l D Y a2 P_3 hP) dX10_many_24 rfl wM_X10_237 wS_X10_freeUpTo wN_X10 wC_X10_freeUpTo (n := 1) (by decide +kernel) rfl ⟨Nat.le_of_ble_eq_true rfl, Nat.le_of_ble_eq_true rfl⟩ ⟨Nat.le_of_ble_eq_true rfl, Nat.le_of_ble_eq_true rfl⟩ (Nat.le_of_ble_eq_true rfl) [] [0, 1] rfl rfl rfl (fun v wc hv => ?_)
          obtain ⟨rF_3, rfl, rfl, hq⟩ := hv
          replace h := h rF_3 hq
          refine gG.eqw (ws' := [oX10 h0 (.ref q_now) (v_reader) (v_changes) (v_image) (v_rows) (v_couples), oX3 q_now now_bound now_modulus now_seed now_functions (v_now_names) (v_now_kinds) (v_now_firsts) (v_now_seconds) (v_now_degrees) (v_now_colours) (v_now_needs) (v_now_numbers)]) rfl ?_
          refine g_goto (tgt := 34) C dX10_many_27 (by decide) ?_
          exact g_iret C hR (Nat.le_of_ble_eq_true rfl) (Nat.le_of_ble_eq_true rfl) dX10_many_34 ⟨rF_3, rfl, rfl, h⟩
      · replace h := h.2 c_3
        refine g_iconst (v := (-1)) C dX10_many_17 rfl ?_
        exact g_iret C hR (Nat.le_of_ble_eq_true rfl) (Nat.le_of_ble_eq_true rfl) dX10_many_18 ⟨(-1), rfl, rfl, h⟩
theorem dX10_full_0 : decode cX10_full 0 = .ok (.iload_n 1, 1) := by decide +kernel
theorem dX10_full_1 : decode cX10_full 1 = .ok (.ifCond .ge 5, 3) := by decide +kernel
theorem dX10_full_4 : decode cX10_full 4 = .ok (.iconst (-1), 1) := by decide +kernel
theorem dX10_full_5 : decode cX10_full 5 = .ok (.ireturn, 1) := by decide +kernel
theorem dX10_full_6 : decode cX10_full 6 = .ok (.iload_n 1, 1) := by decide +kernel
theorem dX10_full_7 : decode cX10_full 7 = .ok (.aload_n 0, 1) := by decide +kernel
theorem dX10_full_8 : decode cX10_full 8 = .ok (.getfield 10, 3) := by decide +kernel
theorem dX10_full_11 : decode cX10_full 11 = .ok (.getfield 143, 3) := by decide +kernel
theorem dX10_full_14 : decode cX10_full 14 = .ok (.invokestatic 240, 3) := by decide +kernel
theorem dX10_full_17 : decode cX10_full 17 = .ok (.if_icmp .lt 6, 3) := by decide +kernel
theorem dX10_full_20 : decode cX10_full 20 = .ok (.bipush (-2), 2) := by decide +kernel
theorem dX10_full_22 : decode cX10_full 22 = .ok (.ireturn, 1) := by decide +kernel
theorem dX10_full_23 : decode cX10_full 23 = .ok (.iconst 1, 1) := by decide +kernel
theorem dX10_full_24 : decode cX10_full 24 = .ok (.istore_n 2, 1) := by decide +kernel
theorem dX10_full_25 : decode cX10_full 25 = .ok (.aload_n 0, 1) := by decide +kernel
theorem dX10_full_26 : decode cX10_full 26 = .ok (.getfield 10, 3) := by decide +kernel
theorem dX10_full_29 : decode cX10_full 29 = .ok (.getfield 143, 3) := by decide +kernel
theorem dX10_full_32 : decode cX10_full 32 = .ok (.istore_n 3, 1) := by decide +kernel
theorem dX10_full_33 : decode cX10_full 33 = .ok (.iconst 0, 1) := by decide +kernel
theorem dX10_full_34 : decode cX10_full 34 = .ok (.istore 4, 2) := by decide +kernel
theorem dX10_full_36 : decode cX10_full 36 = .ok (.iload 4, 2) := by decide +kernel
theorem dX10_full_38 : decode cX10_full 38 = .ok (.bipush 32, 2) := by decide +kernel
theorem dX10_full_40 : decode cX10_full 40 = .ok (.if_icmp .ge 43, 3) := by decide +kernel
theorem dX10_full_43 : decode cX10_full 43 = .ok (.iload_n 2, 1) := by decide +kernel
theorem dX10_full_44 : decode cX10_full 44 = .ok (.iload_n 3, 1) := by decide +kernel
theorem dX10_full_45 : decode cX10_full 45 = .ok (.if_icmp .ge 38, 3) := by decide +kernel
theorem dX10_full_48 : decode cX10_full 48 = .ok (.iload_n 2, 1) := by decide +kernel
theorem dX10_full_49 : decode cX10_full 49 = .ok (.iload_n 3, 1) := by decide +kernel
theorem dX10_full_50 : decode cX10_full 50 = .ok (.iload_n 2, 1) := by decide +kernel
theorem dX10_full_51 : decode cX10_full 51 = .ok (.isub, 1) := by decide +kernel
theorem dX10_full_52 : decode cX10_full 52 = .ok (.iconst 2, 1) := by decide +kernel
theorem dX10_full_53 : decode cX10_full 53 = .ok (.idiv, 1) := by decide +kernel
theorem dX10_full_54 : decode cX10_full 54 = .ok (.iadd, 1) := by decide +kernel
theorem dX10_full_55 : decode cX10_full 55 = .ok (.istore 5, 2) := by decide +kernel
theorem dX10_full_57 : decode cX10_full 57 = .ok (.iload 5, 2) := by decide +kernel
theorem dX10_full_59 : decode cX10_full 59 = .ok (.invokestatic 240, 3) := by decide +kernel
theorem dX10_full_62 : decode cX10_full 62 = .ok (.iload_n 1, 1) := by decide +kernel
theorem dX10_full_63 : decode cX10_full 63 = .ok (.if_icmp .le 9, 3) := by decide +kernel
theorem dX10_full_66 : decode cX10_full 66 = .ok (.iload 5, 2) := by decide +kernel
theorem dX10_full_68 : decode cX10_full 68 = .ok (.istore_n 3, 1) := by decide +kernel
theorem dX10_full_69 : decode cX10_full 69 = .ok (.goto 8, 3) := by decide +kernel
theorem dX10_full_72 : decode cX10_full 72 = .ok (.iload 5, 2) := by decide +kernel
theorem dX10_full_74 : decode cX10_full 74 = .ok (.iconst 1, 1) := by decide +kernel
theorem dX10_full_75 : decode cX10_full 75 = .ok (.iadd, 1) := by decide +kernel
theorem dX10_full_76 : decode cX10_full 76 = .ok (.istore_n 2, 1) := by decide +kernel
theorem dX10_full_77 : decode cX10_full 77 = .ok (.iinc 4 1, 3) := by decide +kernel
theorem dX10_full_80 : decode cX10_full 80 = .ok (.goto (-44), 3) := by decide +kernel
theorem dX10_full_83 : decode cX10_full 83 = .ok (.iload_n 2, 1) := by decide +kernel
theorem dX10_full_84 : decode cX10_full 84 = .ok (.ireturn, 1) := by decide +kernel
/-- QuotientSums.full(I)I -/
def wX10_full (now_bound : Int32) (now_modulus : Int32) (now_seed : Int32) (now_functions : Int32) (a1 : Int32) (Q : (Int32) → Prop) : Prop :=
  ((0 ≤ a1 → (∃ (P_1 : (Int32) → Prop), wX10_fullUpTo now_bound P_1 ∧ ∀ (rF_1 : Int32), P_1 rF_1 → ((a1 < rF_1 → (∃ (Inv_1 : (Int32) → (Int32) → (Int32) → Prop) (Mea_1 : (Int32) → (Int32) → (Int32) → Nat), Inv_1 1 now_bound 0 ∧ ∀ (x2_1 : Int32) (x3_1 : Int32) (x4_1 : Int32), Inv_1 x2_1 x3_1 x4_1 → ((32 ≤ x4_1 → (Q x2_1)) ∧ (¬ 32 ≤ x4_1 → ((x3_1 ≤ x2_1 → (Q x2_1)) ∧ (¬ x3_1 ≤ x2_1 → (∀ x5_1 : Int32, x5_1 = x2_1 + ((x3_1 - x2_1) / 2) → ∃ (P_2 : (Int32) → Prop), wX10_fullUpTo x5_1 P_2 ∧ ∀ (rF_2 : Int32), P_2 rF_2 → ((rF_2 ≤ a1 → (∀ x2_2 : Int32, x2_2 = x5_1 + 1 → (Inv_1 x2_2 x3_1 (x4_1 + 1) ∧ Mea_1 x2_2 x3_1 (x4_1 + 1) < Mea_1 x2_1 x3_1 x4_1))) ∧ (¬ rF_2 ≤ a1 → (Inv_1 x2_1 x5_1 (x4_1 + 1) ∧ Mea_1 x2_1 x5_1 (x4_1 + 1) < Mea_1 x2_1 x3_1 x4_1)))))))))) ∧ (¬ a1 < rF_1 → (Q (-2)))))) ∧ (¬ 0 ≤ a1 → (Q (-1))))
set_option maxHeartbeats 4000000 in
set_option maxRecDepth 100000 in
theorem mX10_full (l : Launch) (D : va_G) (Y : Nat → ClassId) (h0 : Nat) (q_now : Nat) (v_reader : Value) (v_changes : Value) (v_image : Value) (v_rows : Value) (v_couples : Value) (now_bound : Int32) (now_modulus : Int32) (now_seed : Int32) (now_functions : Int32) (v_now_names : Value) (v_now_kinds : Value) (v_now_firsts : Value) (v_now_seconds : Value) (v_now_degrees : Value) (v_now_colours : Value) (v_now_needs : Value) (v_now_numbers : Value) (a1 : Int32) (Q : (Int32) → Prop) (h : wX10_full now_bound now_modulus now_seed now_functions a1 Q) : gM l D Y yX10_full cX10_full 6 (some .int) 2 45 0 0 [.ref h0, .int a1] [oX10 h0 (.ref q_now) (v_reader) (v_changes) (v_image) (v_rows) (v_couples), oX3 q_now now_bound now_modulus now_seed now_functions (v_now_names) (v_now_kinds) (v_now_firsts) (v_now_seconds) (v_now_degrees) (v_now_colours) (v_now_needs) (v_now_numbers)] (fun v w => ∃ r : Int32, v = some (.int r) ∧ w = [oX10 h0 (.ref q_now) (v_reader) (v_changes) (v_image) (v_rows) (v_couples), oX3 q_now now_bound now_modulus now_seed now_functions (v_now_names) (v_now_kinds) (v_now_firsts) (v_now_seconds) (v_now_degrees) (v_now_colours) (v_now_needs) (v_now_numbers)] ∧ Q r) := by
  refine gM_of (own := RX10) (by decide +kernel) rfl (Nat.le_of_ble_eq_true rfl) rfl (fun E C hR => ?_)
  unfold wX10_full at h
  refine g_iload_n C dX10_full_0 1 rfl ?_
  refine g_if_ge (tgt := 6) C dX10_full_1 (by decide) (fun c_1 => ?_) (fun c_1 => ?_)
  · replace h := h.1 c_1
    refine g_iload_n C dX10_full_6 1 rfl ?_
    refine g_aload_n C dX10_full_7 0 rfl ?_
    refine g_get C inX10 0 rfl rfl 0 (by decide) wF_X10_10 rfl dX10_full_8 ?_
    refine g_get C inX3 1 rfl rfl 0 (by decide) wF_X10_143 rfl dX10_full_11 ?_
    obtain ⟨P_1, hP, h⟩ := h
    refine g_callS (As := [.int now_bound]) (rest := [.int a1]) C (mX10_fullUpTo l D Y now_bound P_1 hP) dX10_full_14 rfl wM_X10_240 wS_X10_fullUpTo wN_X10 wC_X10_fullUpTo (n := 1) (by decide +kernel) rfl ⟨Nat.le_of_ble_eq_true rfl, Nat.le_of_ble_eq_true rfl⟩ ⟨Nat.le_of_ble_eq_true rfl, Nat.le_of_ble_eq_true rfl⟩ (Nat.le_of_ble_eq_true rfl) [] [0, 1] rfl rfl rfl (fun v wc hv => ?_)
    obtain ⟨rF_1, rfl, rfl, hq⟩ := hv
    replace h := h rF_1 hq
    refine gG.eqw (ws' := [oX10 h0 (.ref q_now) (v_reader) (v_changes) (v_image) (v_rows) (v_couples), oX3 q_now now_bound now_modulus now_seed now_functions (v_now_names) (v_now_kinds) (v_now_firsts) (v_now_seconds) (v_now_degrees) (v_now_colours) (v_now_needs) (v_now_numbers)]) rfl ?_
    refine g_icmp_lt (tgt := 23) C dX10_full_17 (by decide) (fun c_2 => ?_) (fun c_2 => ?_)
    · replace h := h.1 c_2
      refine g_iconst (v := 1) C dX10_full_23 rfl ?_
      refine g_istore_n (lv' := [(2, .int 1), (0, .ref h0), (1, .int a1)]) C dX10_full_24 (by decide) rfl ?_
      refine g_aload_n C dX10_full_25 1 rfl ?_
      refine g_get C inX10 0 rfl rfl 0 (by decide) wF_X10_10 rfl dX10_full_26 ?_
      refine g_get C inX3 1 rfl rfl 0 (by decide) wF_X10_143 rfl dX10_full_29 ?_
      refine g_istore_n (lv' := [(3, .int now_bound), (2, .int 1), (0, .ref h0), (1, .int a1)]) C dX10_full_32 (by decide) rfl ?_
      refine g_iconst (v := 0) C dX10_full_33 rfl ?_
      refine g_istore (lv' := [(4, .int 0), (3, .int now_bound), (2, .int 1), (0, .ref h0), (1, .int a1)]) C dX10_full_34 (by decide) rfl ?_
      obtain ⟨Inv_1, Mea_1, hI1, hB1⟩ := h
      have key_1 : ∀ (n : Nat) (x2_1 : Int32) (x3_1 : Int32) (x4_1 : Int32) , Mea_1 x2_1 x3_1 x4_1 < n → Inv_1 x2_1 x3_1 x4_1 → gG E 0 0 [oX10 h0 (.ref q_now) (v_reader) (v_changes) (v_image) (v_rows) (v_couples), oX3 q_now now_bound now_modulus now_seed now_functions (v_now_names) (v_now_kinds) (v_now_firsts) (v_now_seconds) (v_now_degrees) (v_now_colours) (v_now_needs) (v_now_numbers)] [(1, .int a1), (2, .int x2_1), (3, .int x3_1), (4, .int x4_1)] [] 36 := by
        intro n
        induction n with
        | zero => exact fun _ _ _ hm => absurd hm (Nat.not_lt_zero _)
        | succ n ih1 =>
          intro x2_1 x3_1 x4_1  hm1 hI
          have h := hB1 x2_1 x3_1 x4_1 hI
          refine g_iload C dX10_full_36 3 rfl ?_
          refine g_bipush (v := 32) C dX10_full_38 rfl ?_
          refine g_icmp_ge (tgt := 83) C dX10_full_40 (by decide) (fun c_3 => ?_) (fun c_3 => ?_)
          · replace h := h.1 c_3
            refine g_iload_n C dX10_full_83 1 rfl ?_
            exact g_iret C hR (Nat.le_of_ble_eq_true rfl) (Nat.le_of_ble_eq_true rfl) dX10_full_84 ⟨x2_1, rfl, rfl, h⟩
          · replace h := h.2 c_3
            refine g_iload_n C dX10_full_43 1 rfl ?_
            refine g_iload_n C dX10_full_44 2 rfl ?_
            refine g_icmp_ge (tgt := 83) C dX10_full_45 (by decide) (fun c_4 => ?_) (fun c_4 => ?_)
            · replace h := h.1 c_4
              refine g_iload_n C dX10_full_83 1 rfl ?_
              exact g_iret C hR (Nat.le_of_ble_eq_true rfl) (Nat.le_of_ble_eq_true rfl) dX10_full_84 ⟨x2_1, rfl, rfl, h⟩
            · replace h := h.2 c_4
              refine g_iload_n C dX10_full_48 1 rfl ?_
              refine g_iload_n C dX10_full_49 2 rfl ?_
              refine g_iload_n C dX10_full_50 1 rfl ?_
              refine g_isub C dX10_full_51 ?_
              refine g_iconst (v := 2) C dX10_full_52 rfl ?_
              refine g_idiv C dX10_full_53 (by decide) ?_
              refine g_iadd C dX10_full_54 ?_
              refine g_topi (fun x5_1 ex5_1 => ?_)
              replace h := h x5_1 ex5_1
              refine g_istore (lv' := [(5, .int x5_1), (1, .int a1), (2, .int x2_1), (3, .int x3_1), (4, .int x4_1)]) C dX10_full_55 (by decide) rfl ?_
              refine g_iload C dX10_full_57 0 rfl ?_
              obtain ⟨P_2, hP, h⟩ := h
              refine g_callS (As := [.int x5_1]) (rest := []) C (mX10_fullUpTo l D Y x5_1 P_2 hP) dX10_full_59 rfl wM_X10_240 wS_X10_fullUpTo wN_X10 wC_X10_fullUpTo (n := 1) (by decide +kernel) rfl ⟨Nat.le_of_ble_eq_true rfl, Nat.le_of_ble_eq_true rfl⟩ ⟨Nat.le_of_ble_eq_true rfl, Nat.le_of_ble_eq_true rfl⟩ (Nat.le_of_ble_eq_true rfl) [] [0, 1] rfl rfl rfl (fun v wc hv => ?_)
              obtain ⟨rF_2, rfl, rfl, hq⟩ := hv
              replace h := h rF_2 hq
              refine gG.eqw (ws' := [oX10 h0 (.ref q_now) (v_reader) (v_changes) (v_image) (v_rows) (v_couples), oX3 q_now now_bound now_modulus now_seed now_functions (v_now_names) (v_now_kinds) (v_now_firsts) (v_now_seconds) (v_now_degrees) (v_now_colours) (v_now_needs) (v_now_numbers)]) rfl ?_
              refine g_iload_n C dX10_full_62 1 rfl ?_
              refine g_icmp_le (tgt := 72) C dX10_full_63 (by decide) (fun c_5 => ?_) (fun c_5 => ?_)
              · replace h := h.1 c_5
                refine g_iload C dX10_full_72 0 rfl ?_
                refine g_iconst (v := 1) C dX10_full_74 rfl ?_
                refine g_iadd C dX10_full_75 ?_
                refine g_topi (fun x2_2 ex2_2 => ?_)
                replace h := h x2_2 ex2_2
                refine g_istore_n (lv' := [(2, .int x2_2), (5, .int x5_1), (1, .int a1), (3, .int x3_1), (4, .int x4_1)]) C dX10_full_76 (by decide) rfl ?_
                refine g_iinc (v := x4_1 + 1) (lv' := [(4, .int (x4_1 + 1)), (2, .int x2_2), (5, .int x5_1), (1, .int a1), (3, .int x3_1)]) C dX10_full_77 4 rfl rfl (by decide) rfl ?_
                refine g_goto (tgt := 36) C dX10_full_80 (by decide) ?_
                refine gG.locals (lv' := [(1, .int a1), (2, .int x2_2), (3, .int x3_1), (4, .int (x4_1 + 1))]) [3, 1, 4, 0] rfl ?_
                exact ih1 x2_2 x3_1 (x4_1 + 1) (Nat.lt_of_lt_of_le h.2 (Nat.le_of_lt_succ hm1)) h.1
              · replace h := h.2 c_5
                refine g_iload C dX10_full_66 0 rfl ?_
                refine g_istore_n (lv' := [(3, .int x5_1), (5, .int x5_1), (1, .int a1), (2, .int x2_1), (4, .int x4_1)]) C dX10_full_68 (by decide) rfl ?_
                refine g_goto (tgt := 77) C dX10_full_69 (by decide) ?_
                refine g_iinc (v := x4_1 + 1) (lv' := [(4, .int (x4_1 + 1)), (3, .int x5_1), (5, .int x5_1), (1, .int a1), (2, .int x2_1)]) C dX10_full_77 4 rfl rfl (by decide) rfl ?_
                refine g_goto (tgt := 36) C dX10_full_80 (by decide) ?_
                refine gG.locals (lv' := [(1, .int a1), (2, .int x2_1), (3, .int x5_1), (4, .int (x4_1 + 1))]) [3, 4, 1, 0] rfl ?_
                exact ih1 x2_1 x5_1 (x4_1 + 1) (Nat.lt_of_lt_of_le h.2 (Nat.le_of_lt_succ hm1)) h.1
      refine gG.locals (lv' := [(1, .int a1), (2, .int 1), (3, .int now_bound), (4, .int 0)]) [4, 2, 1, 0] rfl ?_
      exact key_1 (Mea_1 1 now_bound 0 + 1) 1 now_bound 0 (Nat.lt_succ_self _) hI1
    · replace h := h.2 c_2
      refine g_bipush (v := (-2)) C dX10_full_20 rfl ?_
      exact g_iret C hR (Nat.le_of_ble_eq_true rfl) (Nat.le_of_ble_eq_true rfl) dX10_full_22 ⟨(-2), rfl, rfl, h⟩
  · replace h := h.2 c_1
    refine g_iconst (v := (-1)) C dX10_full_4 rfl ?_
    exact g_iret C hR (Nat.le_of_ble_eq_true rfl) (Nat.le_of_ble_eq_true rfl) dX10_full_5 ⟨(-1), rfl, rfl, h⟩
theorem dX10_fullSum_0 : decode cX10_fullSum 0 = .ok (.aload_n 0, 1) := by decide +kernel
theorem dX10_fullSum_1 : decode cX10_fullSum 1 = .ok (.getfield 10, 3) := by decide +kernel
theorem dX10_fullSum_4 : decode cX10_fullSum 4 = .ok (.iload_n 1, 1) := by decide +kernel
theorem dX10_fullSum_5 : decode cX10_fullSum 5 = .ok (.invokevirtual 98, 3) := by decide +kernel
theorem dX10_fullSum_8 : decode cX10_fullSum 8 = .ok (.ifCond .eq 11, 3) := by decide +kernel
theorem dX10_fullSum_11 : decode cX10_fullSum 11 = .ok (.aload_n 0, 1) := by decide +kernel
theorem dX10_fullSum_12 : decode cX10_fullSum 12 = .ok (.iload_n 2, 1) := by decide +kernel
theorem dX10_fullSum_13 : decode cX10_fullSum 13 = .ok (.invokevirtual 179, 3) := by decide +kernel
theorem dX10_fullSum_16 : decode cX10_fullSum 16 = .ok (.ifCond .ne 5, 3) := by decide +kernel
theorem dX10_fullSum_19 : decode cX10_fullSum 19 = .ok (.iconst (-1), 1) := by decide +kernel
theorem dX10_fullSum_20 : decode cX10_fullSum 20 = .ok (.ireturn, 1) := by decide +kernel
theorem dX10_fullSum_21 : decode cX10_fullSum 21 = .ok (.lconst 0, 1) := by decide +kernel
theorem dX10_fullSum_22 : decode cX10_fullSum 22 = .ok (.lstore_n 3, 1) := by decide +kernel
theorem dX10_fullSum_23 : decode cX10_fullSum 23 = .ok (.iconst 1, 1) := by decide +kernel
theorem dX10_fullSum_24 : decode cX10_fullSum 24 = .ok (.istore 5, 2) := by decide +kernel
theorem dX10_fullSum_26 : decode cX10_fullSum 26 = .ok (.iload 5, 2) := by decide +kernel
theorem dX10_fullSum_28 : decode cX10_fullSum 28 = .ok (.iload 5, 2) := by decide +kernel
theorem dX10_fullSum_30 : decode cX10_fullSum 30 = .ok (.imul, 1) := by decide +kernel
theorem dX10_fullSum_31 : decode cX10_fullSum 31 = .ok (.iload 5, 2) := by decide +kernel
theorem dX10_fullSum_33 : decode cX10_fullSum 33 = .ok (.imul, 1) := by decide +kernel
theorem dX10_fullSum_34 : decode cX10_fullSum 34 = .ok (.iload_n 2, 1) := by decide +kernel
theorem dX10_fullSum_35 : decode cX10_fullSum 35 = .ok (.if_icmp .gt 83, 3) := by decide +kernel
theorem dX10_fullSum_38 : decode cX10_fullSum 38 = .ok (.iload 5, 2) := by decide +kernel
theorem dX10_fullSum_40 : decode cX10_fullSum 40 = .ok (.invokestatic 243, 3) := by decide +kernel
theorem dX10_fullSum_43 : decode cX10_fullSum 43 = .ok (.ifCond .eq 69, 3) := by decide +kernel
theorem dX10_fullSum_46 : decode cX10_fullSum 46 = .ok (.iload_n 2, 1) := by decide +kernel
theorem dX10_fullSum_47 : decode cX10_fullSum 47 = .ok (.iload 5, 2) := by decide +kernel
theorem dX10_fullSum_49 : decode cX10_fullSum 49 = .ok (.iload 5, 2) := by decide +kernel
theorem dX10_fullSum_51 : decode cX10_fullSum 51 = .ok (.imul, 1) := by decide +kernel
theorem dX10_fullSum_52 : decode cX10_fullSum 52 = .ok (.iload 5, 2) := by decide +kernel
theorem dX10_fullSum_54 : decode cX10_fullSum 54 = .ok (.imul, 1) := by decide +kernel
theorem dX10_fullSum_55 : decode cX10_fullSum 55 = .ok (.invokestatic 219, 3) := by decide +kernel
theorem dX10_fullSum_58 : decode cX10_fullSum 58 = .ok (.invokestatic 222, 3) := by decide +kernel
theorem dX10_fullSum_61 : decode cX10_fullSum 61 = .ok (.istore 6, 2) := by decide +kernel
theorem dX10_fullSum_63 : decode cX10_fullSum 63 = .ok (.iconst 1, 1) := by decide +kernel
theorem dX10_fullSum_64 : decode cX10_fullSum 64 = .ok (.istore 7, 2) := by decide +kernel
theorem dX10_fullSum_66 : decode cX10_fullSum 66 = .ok (.iload 7, 2) := by decide +kernel
theorem dX10_fullSum_68 : decode cX10_fullSum 68 = .ok (.iload 6, 2) := by decide +kernel
theorem dX10_fullSum_70 : decode cX10_fullSum 70 = .ok (.if_icmp .gt 42, 3) := by decide +kernel
theorem dX10_fullSum_73 : decode cX10_fullSum 73 = .ok (.lload_n 3, 1) := by decide +kernel
theorem dX10_fullSum_74 : decode cX10_fullSum 74 = .ok (.aload_n 0, 1) := by decide +kernel
theorem dX10_fullSum_75 : decode cX10_fullSum 75 = .ok (.getfield 40, 3) := by decide +kernel
theorem dX10_fullSum_78 : decode cX10_fullSum 78 = .ok (.getfield 164, 3) := by decide +kernel
theorem dX10_fullSum_81 : decode cX10_fullSum 81 = .ok (.aload_n 0, 1) := by decide +kernel
theorem dX10_fullSum_82 : decode cX10_fullSum 82 = .ok (.getfield 10, 3) := by decide +kernel
theorem dX10_fullSum_85 : decode cX10_fullSum 85 = .ok (.iload_n 1, 1) := by decide +kernel
theorem dX10_fullSum_86 : decode cX10_fullSum 86 = .ok (.iload 7, 2) := by decide +kernel
theorem dX10_fullSum_88 : decode cX10_fullSum 88 = .ok (.iload 7, 2) := by decide +kernel
theorem dX10_fullSum_90 : decode cX10_fullSum 90 = .ok (.imul, 1) := by decide +kernel
theorem dX10_fullSum_91 : decode cX10_fullSum 91 = .ok (.iload 5, 2) := by decide +kernel
theorem dX10_fullSum_93 : decode cX10_fullSum 93 = .ok (.imul, 1) := by decide +kernel
theorem dX10_fullSum_94 : decode cX10_fullSum 94 = .ok (.iload 5, 2) := by decide +kernel
theorem dX10_fullSum_96 : decode cX10_fullSum 96 = .ok (.imul, 1) := by decide +kernel
theorem dX10_fullSum_97 : decode cX10_fullSum 97 = .ok (.iload 5, 2) := by decide +kernel
theorem dX10_fullSum_99 : decode cX10_fullSum 99 = .ok (.imul, 1) := by decide +kernel
theorem dX10_fullSum_100 : decode cX10_fullSum 100 = .ok (.invokevirtual 168, 3) := by decide +kernel
theorem dX10_fullSum_103 : decode cX10_fullSum 103 = .ok (.i2l, 1) := by decide +kernel
theorem dX10_fullSum_104 : decode cX10_fullSum 104 = .ok (.ladd, 1) := by decide +kernel
theorem dX10_fullSum_105 : decode cX10_fullSum 105 = .ok (.lstore_n 3, 1) := by decide +kernel
theorem dX10_fullSum_106 : decode cX10_fullSum 106 = .ok (.iinc 7 1, 3) := by decide +kernel
theorem dX10_fullSum_109 : decode cX10_fullSum 109 = .ok (.goto (-43), 3) := by decide +kernel
theorem dX10_fullSum_112 : decode cX10_fullSum 112 = .ok (.iinc 5 1, 3) := by decide +kernel
theorem dX10_fullSum_115 : decode cX10_fullSum 115 = .ok (.goto (-89), 3) := by decide +kernel
theorem dX10_fullSum_118 : decode cX10_fullSum 118 = .ok (.aload_n 0, 1) := by decide +kernel
theorem dX10_fullSum_119 : decode cX10_fullSum 119 = .ok (.getfield 10, 3) := by decide +kernel
theorem dX10_fullSum_122 : decode cX10_fullSum 122 = .ok (.lload_n 3, 1) := by decide +kernel
theorem dX10_fullSum_123 : decode cX10_fullSum 123 = .ok (.invokevirtual 209, 3) := by decide +kernel
theorem dX10_fullSum_126 : decode cX10_fullSum 126 = .ok (.ireturn, 1) := by decide +kernel
/-- QuotientSums.fullSum(II)I -/
def wX10_fullSum (now_bound : Int32) (now_modulus : Int32) (now_seed : Int32) (now_functions : Int32) (rows_turn : Int32) (now_needs : Nat → Int32) (rows_powers_cells : Nat → Int32) (rows_powers_ofPrime : Nat → Int32) (now_firsts : Nat → Int32) (now_seconds : Nat → Int32) (now_kinds : Nat → Int32) (now_numbers : Nat → Int32) (now_colours : Nat → Int32) (a1 : Int32) (a2 : Int32) (Q : (Int32) → (Nat → Int32) → (Nat → Int32) → Prop) : Prop :=
  (∃ (P_1 : (Int32) → Prop), wX3_has now_bound now_modulus now_seed now_functions a1 P_1 ∧ ∀ (rF_1 : Int32), P_1 rF_1 → ((rF_1 = 0 → (Q (-1) rows_powers_cells rows_powers_ofPrime)) ∧ (¬ rF_1 = 0 → (∃ (P_2 : (Int32) → Prop), wX10_isReach now_bound now_modulus now_seed now_functions a2 P_2 ∧ ∀ (rF_2 : Int32), P_2 rF_2 → ((¬ rF_2 = 0 → (∃ (Inv_1 : (Nat → Int32) → (Nat → Int32) → (Int64) → (Int32) → Prop) (Mea_1 : (Nat → Int32) → (Nat → Int32) → (Int64) → (Int32) → Nat), Inv_1 rows_powers_cells rows_powers_ofPrime 0 1 ∧ ∀ (rows_powers_cells_1 : Nat → Int32) (rows_powers_ofPrime_1 : Nat → Int32) (x3_1 : Int64) (x5_1 : Int32), Inv_1 rows_powers_cells_1 rows_powers_ofPrime_1 x3_1 x5_1 → ((a2 < ((x5_1 * x5_1) * x5_1) → (∃ (P_3 : (Int32) → Prop), wX3_rest now_bound now_modulus now_seed now_functions x3_1 P_3 ∧ ∀ (rF_3 : Int32), P_3 rF_3 → (Q rF_3 rows_powers_cells_1 rows_powers_ofPrime_1))) ∧ (¬ a2 < ((x5_1 * x5_1) * x5_1) → (∃ (P_4 : (Int32) → Prop), wX10_signOf x5_1 P_4 ∧ ∀ (rF_4 : Int32), P_4 rF_4 → ((rF_4 = 0 → (Inv_1 rows_powers_cells_1 rows_powers_ofPrime_1 x3_1 (x5_1 + 1) ∧ Mea_1 rows_powers_cells_1 rows_powers_ofPrime_1 x3_1 (x5_1 + 1) < Mea_1 rows_powers_cells_1 rows_powers_ofPrime_1 x3_1 x5_1)) ∧ (¬ rF_4 = 0 → (∃ (P_5 : (Int32) → Prop), wX10_divided a2 ((x5_1 * x5_1) * x5_1) P_5 ∧ ∀ (rF_5 : Int32), P_5 rF_5 → ∃ (P_6 : (Int32) → Prop), wX10_rootOf rF_5 P_6 ∧ ∀ (rF_6 : Int32), P_6 rF_6 → (∃ (Inv_2 : (Nat → Int32) → (Nat → Int32) → (Int64) → (Int32) → Prop) (Mea_2 : (Nat → Int32) → (Nat → Int32) → (Int64) → (Int32) → Nat), Inv_2 rows_powers_cells_1 rows_powers_ofPrime_1 x3_1 1 ∧ ∀ (rows_powers_cells_2 : Nat → Int32) (rows_powers_ofPrime_2 : Nat → Int32) (x3_2 : Int64) (x7_1 : Int32), Inv_2 rows_powers_cells_2 rows_powers_ofPrime_2 x3_2 x7_1 → ((rF_6 < x7_1 → (Inv_1 rows_powers_cells_2 rows_powers_ofPrime_2 x3_2 (x5_1 + 1) ∧ Mea_1 rows_powers_cells_2 rows_powers_ofPrime_2 x3_2 (x5_1 + 1) < Mea_1 rows_powers_cells_1 rows_powers_ofPrime_1 x3_1 x5_1)) ∧ (¬ rF_6 < x7_1 → (∃ (P_7 : (Int32) → (Nat → Int32) → (Nat → Int32) → Prop), wX4_valueAt now_bound now_modulus now_seed now_functions now_needs rows_powers_cells_2 rows_powers_ofPrime_2 now_firsts now_seconds now_kinds now_numbers now_colours a1 ((((x7_1 * x7_1) * x5_1) * x5_1) * x5_1) P_7 ∧ ∀ (rF_7 : Int32) (cells_1 : Nat → Int32) (ofPrime_1 : Nat → Int32), P_7 rF_7 cells_1 ofPrime_1 → ∀ x3_3 : Int64, x3_3 = x3_2 + (rF_7.toInt64) → (Inv_2 cells_1 ofPrime_1 x3_3 (x7_1 + 1) ∧ Mea_2 cells_1 ofPrime_1 x3_3 (x7_1 + 1) < Mea_2 rows_powers_cells_2 rows_powers_ofPrime_2 x3_2 x7_1))))))))))))) ∧ (rF_2 = 0 → (Q (-1) rows_powers_cells rows_powers_ofPrime)))))))
set_option maxHeartbeats 4000000 in
set_option maxRecDepth 100000 in
theorem mX10_fullSum (l : Launch) (D : va_G) (Y : Nat → ClassId) (h0 : Nat) (q_now : Nat) (v_reader : Value) (v_changes : Value) (v_image : Value) (q_rows : Nat) (v_couples : Value) (now_bound : Int32) (now_modulus : Int32) (now_seed : Int32) (now_functions : Int32) (v_now_names : Value) (q_now_kinds : Nat) (q_now_firsts : Nat) (q_now_seconds : Nat) (v_now_degrees : Value) (q_now_colours : Nat) (q_now_needs : Nat) (q_now_numbers : Nat) (v_rows_sieve : Value) (q_rows_powers : Nat) (v_rows_rows : Value) (rows_turn : Int32) (now_needs : Nat → Int32) (q_rows_powers_ofPrime : Nat) (q_rows_powers_cells : Nat) (rows_powers_cells : Nat → Int32) (rows_powers_ofPrime : Nat → Int32) (now_firsts : Nat → Int32) (now_seconds : Nat → Int32) (now_kinds : Nat → Int32) (now_numbers : Nat → Int32) (now_colours : Nat → Int32) (a1 : Int32) (a2 : Int32) (Q : (Int32) → (Nat → Int32) → (Nat → Int32) → Prop) (h : wX10_fullSum now_bound now_modulus now_seed now_functions rows_turn now_needs rows_powers_cells rows_powers_ofPrime now_firsts now_seconds now_kinds now_numbers now_colours a1 a2 Q) : gM l D Y yX10_fullSum cX10_fullSum 8 (some .int) 5 126 0 0 [.ref h0, .int a1, .int a2] [oX10 h0 (.ref q_now) (v_reader) (v_changes) (v_image) (.ref q_rows) (v_couples), oX3 q_now now_bound now_modulus now_seed now_functions (v_now_names) (.ref q_now_kinds) (.ref q_now_firsts) (.ref q_now_seconds) (v_now_degrees) (.ref q_now_colours) (.ref q_now_needs) (.ref q_now_numbers), oX7 q_rows (v_rows_sieve) (.ref q_rows_powers) (v_rows_rows) rows_turn, aI Y q_now_needs 12 now_needs, oX4 q_rows_powers (.ref q_rows_powers_ofPrime) (.ref q_rows_powers_cells), aI Y q_rows_powers_cells 216 rows_powers_cells, aI Y q_rows_powers_ofPrime 18 rows_powers_ofPrime, aI Y q_now_firsts 12 now_firsts, aI Y q_now_seconds 12 now_seconds, aI Y q_now_kinds 12 now_kinds, aI Y q_now_numbers 144 now_numbers, aI Y q_now_colours 12 now_colours] (fun v w => ∃ r : Int32, ∃ rows_powers_cells' : Nat → Int32, ∃ rows_powers_ofPrime' : Nat → Int32, v = some (.int r) ∧ w = [oX10 h0 (.ref q_now) (v_reader) (v_changes) (v_image) (.ref q_rows) (v_couples), oX3 q_now now_bound now_modulus now_seed now_functions (v_now_names) (.ref q_now_kinds) (.ref q_now_firsts) (.ref q_now_seconds) (v_now_degrees) (.ref q_now_colours) (.ref q_now_needs) (.ref q_now_numbers), oX7 q_rows (v_rows_sieve) (.ref q_rows_powers) (v_rows_rows) rows_turn, aI Y q_now_needs 12 now_needs, oX4 q_rows_powers (.ref q_rows_powers_ofPrime) (.ref q_rows_powers_cells), aI Y q_rows_powers_cells 216 rows_powers_cells', aI Y q_rows_powers_ofPrime 18 rows_powers_ofPrime', aI Y q_now_firsts 12 now_firsts, aI Y q_now_seconds 12 now_seconds, aI Y q_now_kinds 12 now_kinds, aI Y q_now_numbers 144 now_numbers, aI Y q_now_colours 12 now_colours] ∧ Q r rows_powers_cells' rows_powers_ofPrime') := by
  refine gM_of (own := RX10) (by decide +kernel) rfl (Nat.le_of_ble_eq_true rfl) rfl (fun E C hR => ?_)
  unfold wX10_fullSum at h
  refine g_aload_n C dX10_fullSum_0 0 rfl ?_
  refine g_get C inX10 0 rfl rfl 0 (by decide) wF_X10_10 rfl dX10_fullSum_1 ?_
  refine g_iload_n C dX10_fullSum_4 1 rfl ?_
  obtain ⟨P_1, hP, h⟩ := h
  refine g_callV (As := [.int a1]) (rest := []) C (mX3_has l D Y q_now now_bound now_modulus now_seed now_functions v_now_names (.ref q_now_kinds) (.ref q_now_firsts) (.ref q_now_seconds) v_now_degrees (.ref q_now_colours) (.ref q_now_needs) (.ref q_now_numbers) a1 P_1 hP) dX10_fullSum_5 rfl wM_X10_98 wI_X3_has wV_X3_has wN_X3 wC_X3_has (n := 1) (by decide +kernel) rfl (q0 := 0) rfl rfl ⟨Nat.le_of_ble_eq_true rfl, Nat.le_of_ble_eq_true rfl⟩ ⟨Nat.le_of_ble_eq_true rfl, Nat.le_of_ble_eq_true rfl⟩ (Nat.le_of_ble_eq_true rfl) [1] [0, 2, 3, 4, 5, 6, 7, 8, 9, 10, 11] rfl rfl rfl (fun v wc hv => ?_)
  obtain ⟨rF_1, rfl, rfl, hq⟩ := hv
  replace h := h rF_1 hq
  refine gG.perm (ws' := [oX10 h0 (.ref q_now) (v_reader) (v_changes) (v_image) (.ref q_rows) (v_couples), oX3 q_now now_bound now_modulus now_seed now_functions (v_now_names) (.ref q_now_kinds) (.ref q_now_firsts) (.ref q_now_seconds) (v_now_degrees) (.ref q_now_colours) (.ref q_now_needs) (.ref q_now_numbers), oX7 q_rows (v_rows_sieve) (.ref q_rows_powers) (v_rows_rows) rows_turn, aI Y q_now_needs 12 now_needs, oX4 q_rows_powers (.ref q_rows_powers_ofPrime) (.ref q_rows_powers_cells), aI Y q_rows_powers_cells 216 rows_powers_cells, aI Y q_rows_powers_ofPrime 18 rows_powers_ofPrime, aI Y q_now_firsts 12 now_firsts, aI Y q_now_seconds 12 now_seconds, aI Y q_now_kinds 12 now_kinds, aI Y q_now_numbers 144 now_numbers, aI Y q_now_colours 12 now_colours]) [0, 11, 1, 2, 3, 4, 5, 6, 7, 8, 9, 10] rfl rfl ?_
  refine g_if_eq (tgt := 19) C dX10_fullSum_8 (by decide) (fun c_1 => ?_) (fun c_1 => ?_)
  · replace h := h.1 c_1
    refine g_iconst (v := (-1)) C dX10_fullSum_19 rfl ?_
    exact g_iret C hR (Nat.le_of_ble_eq_true rfl) (Nat.le_of_ble_eq_true rfl) dX10_fullSum_20 ⟨(-1), rows_powers_cells, rows_powers_ofPrime, rfl, rfl, h⟩
  · replace h := h.2 c_1
    refine g_aload_n C dX10_fullSum_11 0 rfl ?_
    refine g_iload_n C dX10_fullSum_12 2 rfl ?_
    obtain ⟨P_2, hP, h⟩ := h
    refine g_callV (As := [.int a2]) (rest := []) C (mX10_isReach l D Y h0 q_now v_reader v_changes v_image (.ref q_rows) v_couples now_bound now_modulus now_seed now_functions v_now_names (.ref q_now_kinds) (.ref q_now_firsts) (.ref q_now_seconds) v_now_degrees (.ref q_now_colours) (.ref q_now_needs) (.ref q_now_numbers) a2 P_2 hP) dX10_fullSum_13 rfl wM_X10_179 wI_X10_isReach wV_X10_isReach wN_X10 wC_X10_isReach (n := 1) (by decide +kernel) rfl (q0 := 0) rfl rfl ⟨Nat.le_of_ble_eq_true rfl, Nat.le_of_ble_eq_true rfl⟩ ⟨Nat.le_of_ble_eq_true rfl, Nat.le_of_ble_eq_true rfl⟩ (Nat.le_of_ble_eq_true rfl) [0, 1] [2, 3, 4, 5, 6, 7, 8, 9, 10, 11] rfl rfl rfl (fun v wc hv => ?_)
    obtain ⟨rF_2, rfl, rfl, hq⟩ := hv
    replace h := h rF_2 hq
    refine gG.perm (ws' := [oX10 h0 (.ref q_now) (v_reader) (v_changes) (v_image) (.ref q_rows) (v_couples), oX3 q_now now_bound now_modulus now_seed now_functions (v_now_names) (.ref q_now_kinds) (.ref q_now_firsts) (.ref q_now_seconds) (v_now_degrees) (.ref q_now_colours) (.ref q_now_needs) (.ref q_now_numbers), oX7 q_rows (v_rows_sieve) (.ref q_rows_powers) (v_rows_rows) rows_turn, aI Y q_now_needs 12 now_needs, oX4 q_rows_powers (.ref q_rows_powers_ofPrime) (.ref q_rows_powers_cells), aI Y q_rows_powers_cells 216 rows_powers_cells, aI Y q_rows_powers_ofPrime 18 rows_powers_ofPrime, aI Y q_now_firsts 12 now_firsts, aI Y q_now_seconds 12 now_seconds, aI Y q_now_kinds 12 now_kinds, aI Y q_now_numbers 144 now_numbers, aI Y q_now_colours 12 now_colours]) [10, 11, 0, 1, 2, 3, 4, 5, 6, 7, 8, 9] rfl rfl ?_
    refine g_if_ne (tgt := 21) C dX10_fullSum_16 (by decide) (fun c_2 => ?_) (fun c_2 => ?_)
    · replace h := h.1 c_2
      refine g_lconst (v := 0) C dX10_fullSum_21 rfl ?_
      refine g_lstore_n (lv' := [(3, .long 0), (0, .ref h0), (1, .int a1), (2, .int a2)]) C dX10_fullSum_22 (by decide) rfl ?_
      refine g_iconst (v := 1) C dX10_fullSum_23 rfl ?_
      refine g_istore (lv' := [(5, .int 1), (3, .long 0), (0, .ref h0), (1, .int a1), (2, .int a2)]) C dX10_fullSum_24 (by decide) rfl ?_
      obtain ⟨Inv_1, Mea_1, hI1, hB1⟩ := h
      have key_1 : ∀ (n : Nat) (rows_powers_cells_1 : Nat → Int32) (rows_powers_ofPrime_1 : Nat → Int32) (x3_1 : Int64) (x5_1 : Int32) , Mea_1 rows_powers_cells_1 rows_powers_ofPrime_1 x3_1 x5_1 < n → Inv_1 rows_powers_cells_1 rows_powers_ofPrime_1 x3_1 x5_1 → gG E 0 0 [oX10 h0 (.ref q_now) (v_reader) (v_changes) (v_image) (.ref q_rows) (v_couples), oX3 q_now now_bound now_modulus now_seed now_functions (v_now_names) (.ref q_now_kinds) (.ref q_now_firsts) (.ref q_now_seconds) (v_now_degrees) (.ref q_now_colours) (.ref q_now_needs) (.ref q_now_numbers), oX7 q_rows (v_rows_sieve) (.ref q_rows_powers) (v_rows_rows) rows_turn, aI Y q_now_needs 12 now_needs, oX4 q_rows_powers (.ref q_rows_powers_ofPrime) (.ref q_rows_powers_cells), aI Y q_rows_powers_cells 216 rows_powers_cells_1, aI Y q_rows_powers_ofPrime 18 rows_powers_ofPrime_1, aI Y q_now_firsts 12 now_firsts, aI Y q_now_seconds 12 now_seconds, aI Y q_now_kinds 12 now_kinds, aI Y q_now_numbers 144 now_numbers, aI Y q_now_colours 12 now_colours] [(0, .ref h0), (1, .int a1), (2, .int a2), (3, .long x3_1), (5, .int x5_1)] [] 26 := by
        intro n
        induction n with
        | zero => exact fun _ _ _ _ hm => absurd hm (Nat.not_lt_zero _)
        | succ n ih1 =>
          intro rows_powers_cells_1 rows_powers_ofPrime_1 x3_1 x5_1  hm1 hI
          have h := hB1 rows_powers_cells_1 rows_powers_ofPrime_1 x3_1 x5_1 hI
          refine g_iload C dX10_fullSum_26 4 rfl ?_
          refine g_iload C dX10_fullSum_28 4 rfl ?_
          refine g_imul C dX10_fullSum_30 ?_
          refine g_iload C dX10_fullSum_31 4 rfl ?_
          refine g_imul C dX10_fullSum_33 ?_
          refine g_iload_n C dX10_fullSum_34 2 rfl ?_
          refine g_icmp_gt (tgt := 118) C dX10_fullSum_35 (by decide) (fun c_3 => ?_) (fun c_3 => ?_)
          · replace h := h.1 c_3
            refine g_aload_n C dX10_fullSum_118 0 rfl ?_
            refine g_get C inX10 0 rfl rfl 0 (by decide) wF_X10_10 rfl dX10_fullSum_119 ?_
            refine g_lload_n C dX10_fullSum_122 3 rfl ?_
            obtain ⟨P_3, hP, h⟩ := h
            refine g_callV (As := [.long x3_1]) (rest := []) C (mX3_rest l D Y q_now now_bound now_modulus now_seed now_functions v_now_names (.ref q_now_kinds) (.ref q_now_firsts) (.ref q_now_seconds) v_now_degrees (.ref q_now_colours) (.ref q_now_needs) (.ref q_now_numbers) x3_1 P_3 hP) dX10_fullSum_123 rfl wM_X10_209 wI_X3_rest wV_X3_rest wN_X3 wC_X3_rest (n := 1) (by decide +kernel) rfl (q0 := 0) rfl rfl ⟨Nat.le_of_ble_eq_true rfl, Nat.le_of_ble_eq_true rfl⟩ ⟨Nat.le_of_ble_eq_true rfl, Nat.le_of_ble_eq_true rfl⟩ (Nat.le_of_ble_eq_true rfl) [1] [0, 2, 3, 4, 5, 6, 7, 8, 9, 10, 11] rfl rfl rfl (fun v wc hv => ?_)
            obtain ⟨rF_3, rfl, rfl, hq⟩ := hv
            replace h := h rF_3 hq
            refine gG.perm (ws' := [oX10 h0 (.ref q_now) (v_reader) (v_changes) (v_image) (.ref q_rows) (v_couples), oX3 q_now now_bound now_modulus now_seed now_functions (v_now_names) (.ref q_now_kinds) (.ref q_now_firsts) (.ref q_now_seconds) (v_now_degrees) (.ref q_now_colours) (.ref q_now_needs) (.ref q_now_numbers), oX7 q_rows (v_rows_sieve) (.ref q_rows_powers) (v_rows_rows) rows_turn, aI Y q_now_needs 12 now_needs, oX4 q_rows_powers (.ref q_rows_powers_ofPrime) (.ref q_rows_powers_cells), aI Y q_rows_powers_cells 216 rows_powers_cells_1, aI Y q_rows_powers_ofPrime 18 rows_powers_ofPrime_1, aI Y q_now_firsts 12 now_firsts, aI Y q_now_seconds 12 now_seconds, aI Y q_now_kinds 12 now_kinds, aI Y q_now_numbers 144 now_numbers, aI Y q_now_colours 12 now_colours]) [0, 11, 1, 2, 3, 4, 5, 6, 7, 8, 9, 10] rfl rfl ?_
            exact g_iret C hR (Nat.le_of_ble_eq_true rfl) (Nat.le_of_ble_eq_true rfl) dX10_fullSum_126 ⟨rF_3, rows_powers_cells_1, rows_powers_ofPrime_1, rfl, rfl, h⟩
          · replace h := h.2 c_3
            refine g_iload C dX10_fullSum_38 4 rfl ?_
            obtain ⟨P_4, hP, h⟩ := h
            refine g_callS (As := [.int x5_1]) (rest := []) C (mX10_signOf l D Y x5_1 P_4 hP) dX10_fullSum_40 rfl wM_X10_243 wS_X10_signOf wN_X10 wC_X10_signOf (n := 1) (by decide +kernel) rfl ⟨Nat.le_of_ble_eq_true rfl, Nat.le_of_ble_eq_true rfl⟩ ⟨Nat.le_of_ble_eq_true rfl, Nat.le_of_ble_eq_true rfl⟩ (Nat.le_of_ble_eq_true rfl) [] [0, 1, 2, 3, 4, 5, 6, 7, 8, 9, 10, 11] rfl rfl rfl (fun v wc hv => ?_)
            obtain ⟨rF_4, rfl, rfl, hq⟩ := hv
            replace h := h rF_4 hq
            refine gG.eqw (ws' := [oX10 h0 (.ref q_now) (v_reader) (v_changes) (v_image) (.ref q_rows) (v_couples), oX3 q_now now_bound now_modulus now_seed now_functions (v_now_names) (.ref q_now_kinds) (.ref q_now_firsts) (.ref q_now_seconds) (v_now_degrees) (.ref q_now_colours) (.ref q_now_needs) (.ref q_now_numbers), oX7 q_rows (v_rows_sieve) (.ref q_rows_powers) (v_rows_rows) rows_turn, aI Y q_now_needs 12 now_needs, oX4 q_rows_powers (.ref q_rows_powers_ofPrime) (.ref q_rows_powers_cells), aI Y q_rows_powers_cells 216 rows_powers_cells_1, aI Y q_rows_powers_ofPrime 18 rows_powers_ofPrime_1, aI Y q_now_firsts 12 now_firsts, aI Y q_now_seconds 12 now_seconds, aI Y q_now_kinds 12 now_kinds, aI Y q_now_numbers 144 now_numbers, aI Y q_now_colours 12 now_colours]) rfl ?_
            refine g_if_eq (tgt := 112) C dX10_fullSum_43 (by decide) (fun c_4 => ?_) (fun c_4 => ?_)
            · replace h := h.1 c_4
              refine g_iinc (v := x5_1 + 1) (lv' := [(5, .int (x5_1 + 1)), (0, .ref h0), (1, .int a1), (2, .int a2), (3, .long x3_1)]) C dX10_fullSum_112 4 rfl rfl (by decide) rfl ?_
              refine g_goto (tgt := 26) C dX10_fullSum_115 (by decide) ?_
              refine gG.locals (lv' := [(0, .ref h0), (1, .int a1), (2, .int a2), (3, .long x3_1), (5, .int (x5_1 + 1))]) [1, 2, 3, 4, 0] rfl ?_
              exact ih1 rows_powers_cells_1 rows_powers_ofPrime_1 x3_1 (x5_1 + 1) (Nat.lt_of_lt_of_le h.2 (Nat.le_of_lt_succ hm1)) h.1
            · replace h := h.2 c_4
              refine g_iload_n C dX10_fullSum_46 2 rfl ?_
              refine g_iload C dX10_fullSum_47 4 rfl ?_
              refine g_iload C dX10_fullSum_49 4 rfl ?_
              refine g_imul C dX10_fullSum_51 ?_
              refine g_iload C dX10_fullSum_52 4 rfl ?_
              refine g_imul C dX10_fullSum_54 ?_
              obtain ⟨P_5, hP, h⟩ := h
              refine g_callS (As := [.int a2, .int ((x5_1 * x5_1) * x5_1)]) (rest := []) C (mX10_divided l D Y a2 ((x5_1 * x5_1) * x5_1) P_5 hP) dX10_fullSum_55 rfl wM_X10_219 wS_X10_divided wN_X10 wC_X10_divided (n := 2) (by decide +kernel) rfl ⟨Nat.le_of_ble_eq_true rfl, Nat.le_of_ble_eq_true rfl⟩ ⟨Nat.le_of_ble_eq_true rfl, Nat.le_of_ble_eq_true rfl⟩ (Nat.le_of_ble_eq_true rfl) [] [0, 1, 2, 3, 4, 5, 6, 7, 8, 9, 10, 11] rfl rfl rfl (fun v wc hv => ?_)
              obtain ⟨rF_5, rfl, rfl, hq⟩ := hv
              replace h := h rF_5 hq
              refine gG.eqw (ws' := [oX10 h0 (.ref q_now) (v_reader) (v_changes) (v_image) (.ref q_rows) (v_couples), oX3 q_now now_bound now_modulus now_seed now_functions (v_now_names) (.ref q_now_kinds) (.ref q_now_firsts) (.ref q_now_seconds) (v_now_degrees) (.ref q_now_colours) (.ref q_now_needs) (.ref q_now_numbers), oX7 q_rows (v_rows_sieve) (.ref q_rows_powers) (v_rows_rows) rows_turn, aI Y q_now_needs 12 now_needs, oX4 q_rows_powers (.ref q_rows_powers_ofPrime) (.ref q_rows_powers_cells), aI Y q_rows_powers_cells 216 rows_powers_cells_1, aI Y q_rows_powers_ofPrime 18 rows_powers_ofPrime_1, aI Y q_now_firsts 12 now_firsts, aI Y q_now_seconds 12 now_seconds, aI Y q_now_kinds 12 now_kinds, aI Y q_now_numbers 144 now_numbers, aI Y q_now_colours 12 now_colours]) rfl ?_
              obtain ⟨P_6, hP, h⟩ := h
              refine g_callS (As := [.int rF_5]) (rest := []) C (mX10_rootOf l D Y rF_5 P_6 hP) dX10_fullSum_58 rfl wM_X10_222 wS_X10_rootOf wN_X10 wC_X10_rootOf (n := 1) (by decide +kernel) rfl ⟨Nat.le_of_ble_eq_true rfl, Nat.le_of_ble_eq_true rfl⟩ ⟨Nat.le_of_ble_eq_true rfl, Nat.le_of_ble_eq_true rfl⟩ (Nat.le_of_ble_eq_true rfl) [] [0, 1, 2, 3, 4, 5, 6, 7, 8, 9, 10, 11] rfl rfl rfl (fun v wc hv => ?_)
              obtain ⟨rF_6, rfl, rfl, hq⟩ := hv
              replace h := h rF_6 hq
              refine gG.eqw (ws' := [oX10 h0 (.ref q_now) (v_reader) (v_changes) (v_image) (.ref q_rows) (v_couples), oX3 q_now now_bound now_modulus now_seed now_functions (v_now_names) (.ref q_now_kinds) (.ref q_now_firsts) (.ref q_now_seconds) (v_now_degrees) (.ref q_now_colours) (.ref q_now_needs) (.ref q_now_numbers), oX7 q_rows (v_rows_sieve) (.ref q_rows_powers) (v_rows_rows) rows_turn, aI Y q_now_needs 12 now_needs, oX4 q_rows_powers (.ref q_rows_powers_ofPrime) (.ref q_rows_powers_cells), aI Y q_rows_powers_cells 216 rows_powers_cells_1, aI Y q_rows_powers_ofPrime 18 rows_powers_ofPrime_1, aI Y q_now_firsts 12 now_firsts, aI Y q_now_seconds 12 now_seconds, aI Y q_now_kinds 12 now_kinds, aI Y q_now_numbers 144 now_numbers, aI Y q_now_colours 12 now_colours]) rfl ?_
              refine g_istore (lv' := [(6, .int rF_6), (0, .ref h0), (1, .int a1), (2, .int a2), (3, .long x3_1), (5, .int x5_1)]) C dX10_fullSum_61 (by decide) rfl ?_
              refine g_iconst (v := 1) C dX10_fullSum_63 rfl ?_
              refine g_istore (lv' := [(7, .int 1), (6, .int rF_6), (0, .ref h0), (1, .int a1), (2, .int a2), (3, .long x3_1), (5, .int x5_1)]) C dX10_fullSum_64 (by decide) rfl ?_
              obtain ⟨Inv_2, Mea_2, hI2, hB2⟩ := h
              have key_2 : ∀ (n : Nat) (rows_powers_cells_2 : Nat → Int32) (rows_powers_ofPrime_2 : Nat → Int32) (x3_2 : Int64) (x7_1 : Int32) , Mea_2 rows_powers_cells_2 rows_powers_ofPrime_2 x3_2 x7_1 < n → Inv_2 rows_powers_cells_2 rows_powers_ofPrime_2 x3_2 x7_1 → gG E 0 0 [oX10 h0 (.ref q_now) (v_reader) (v_changes) (v_image) (.ref q_rows) (v_couples), oX3 q_now now_bound now_modulus now_seed now_functions (v_now_names) (.ref q_now_kinds) (.ref q_now_firsts) (.ref q_now_seconds) (v_now_degrees) (.ref q_now_colours) (.ref q_now_needs) (.ref q_now_numbers), oX7 q_rows (v_rows_sieve) (.ref q_rows_powers) (v_rows_rows) rows_turn, aI Y q_now_needs 12 now_needs, oX4 q_rows_powers (.ref q_rows_powers_ofPrime) (.ref q_rows_powers_cells), aI Y q_rows_powers_cells 216 rows_powers_cells_2, aI Y q_rows_powers_ofPrime 18 rows_powers_ofPrime_2, aI Y q_now_firsts 12 now_firsts, aI Y q_now_seconds 12 now_seconds, aI Y q_now_kinds 12 now_kinds, aI Y q_now_numbers 144 now_numbers, aI Y q_now_colours 12 now_colours] [(0, .ref h0), (1, .int a1), (2, .int a2), (3, .long x3_2), (5, .int x5_1), (6, .int rF_6), (7, .int x7_1)] [] 66 := by
                intro n
                induction n with
                | zero => exact fun _ _ _ _ hm => absurd hm (Nat.not_lt_zero _)
                | succ n ih2 =>
                  intro rows_powers_cells_2 rows_powers_ofPrime_2 x3_2 x7_1  hm2 hI
                  have h := hB2 rows_powers_cells_2 rows_powers_ofPrime_2 x3_2 x7_1 hI
                  refine g_iload C dX10_fullSum_66 6 rfl ?_
                  refine g_iload C dX10_fullSum_68 5 rfl ?_
                  refine g_icmp_gt (tgt := 112) C dX10_fullSum_70 (by decide) (fun c_5 => ?_) (fun c_5 => ?_)
                  · replace h := h.1 c_5
                    refine g_iinc (v := x5_1 + 1) (lv' := [(5, .int (x5_1 + 1)), (0, .ref h0), (1, .int a1), (2, .int a2), (3, .long x3_2), (6, .int rF_6), (7, .int x7_1)]) C dX10_fullSum_112 4 rfl rfl (by decide) rfl ?_
                    refine g_goto (tgt := 26) C dX10_fullSum_115 (by decide) ?_
                    refine gG.locals (lv' := [(0, .ref h0), (1, .int a1), (2, .int a2), (3, .long x3_2), (5, .int (x5_1 + 1))]) [1, 2, 3, 4, 0] rfl ?_
                    exact ih1 rows_powers_cells_2 rows_powers_ofPrime_2 x3_2 (x5_1 + 1) (Nat.lt_of_lt_of_le h.2 (Nat.le_of_lt_succ hm1)) h.1
                  · replace h := h.2 c_5
                    refine g_lload_n C dX10_fullSum_73 3 rfl ?_
                    refine g_aload_n C dX10_fullSum_74 0 rfl ?_
                    refine g_get C inX10 0 rfl rfl 4 (by decide) wF_X10_40 rfl dX10_fullSum_75 ?_
                    refine g_get C inX7 2 rfl rfl 1 (by decide) wF_X10_164 rfl dX10_fullSum_78 ?_
                    refine g_aload_n C dX10_fullSum_81 0 rfl ?_
                    refine g_get C inX10 0 rfl rfl 0 (by decide) wF_X10_10 rfl dX10_fullSum_82 ?_
                    refine g_iload_n C dX10_fullSum_85 1 rfl ?_
                    refine g_iload C dX10_fullSum_86 6 rfl ?_
                    refine g_iload C dX10_fullSum_88 6 rfl ?_
                    refine g_imul C dX10_fullSum_90 ?_
                    refine g_iload C dX10_fullSum_91 4 rfl ?_
                    refine g_imul C dX10_fullSum_93 ?_
                    refine g_iload C dX10_fullSum_94 4 rfl ?_
                    refine g_imul C dX10_fullSum_96 ?_
                    refine g_iload C dX10_fullSum_97 4 rfl ?_
                    refine g_imul C dX10_fullSum_99 ?_
                    obtain ⟨P_7, hP, h⟩ := h
                    refine g_callV (As := [.ref q_now, .int a1, .int ((((x7_1 * x7_1) * x5_1) * x5_1) * x5_1)]) (rest := [.long x3_2]) C (mX4_valueAt l D Y q_rows_powers q_now now_bound now_modulus now_seed now_functions v_now_names q_now_kinds q_now_firsts q_now_seconds v_now_degrees q_now_colours q_now_needs q_now_numbers now_needs q_rows_powers_ofPrime q_rows_powers_cells rows_powers_cells_2 rows_powers_ofPrime_2 now_firsts now_seconds now_kinds now_numbers now_colours a1 ((((x7_1 * x7_1) * x5_1) * x5_1) * x5_1) P_7 hP) dX10_fullSum_100 rfl wM_X10_168 wI_X4_valueAt wV_X4_valueAt wN_X4 wC_X4_valueAt (n := 3) (by decide +kernel) rfl (q0 := 2) rfl rfl ⟨Nat.le_of_ble_eq_true rfl, Nat.le_of_ble_eq_true rfl⟩ ⟨Nat.le_of_ble_eq_true rfl, Nat.le_of_ble_eq_true rfl⟩ (Nat.le_of_ble_eq_true rfl) [1, 3, 4, 5, 6, 7, 8, 9, 10, 11] [0, 2] rfl rfl rfl (fun v wc hv => ?_)
                    obtain ⟨rF_7, cells_1, ofPrime_1, rfl, rfl, hq⟩ := hv
                    replace h := h rF_7 cells_1 ofPrime_1 hq
                    refine gG.perm (ws' := [oX10 h0 (.ref q_now) (v_reader) (v_changes) (v_image) (.ref q_rows) (v_couples), oX3 q_now now_bound now_modulus now_seed now_functions (v_now_names) (.ref q_now_kinds) (.ref q_now_firsts) (.ref q_now_seconds) (v_now_degrees) (.ref q_now_colours) (.ref q_now_needs) (.ref q_now_numbers), oX7 q_rows (v_rows_sieve) (.ref q_rows_powers) (v_rows_rows) rows_turn, aI Y q_now_needs 12 now_needs, oX4 q_rows_powers (.ref q_rows_powers_ofPrime) (.ref q_rows_powers_cells), aI Y q_rows_powers_cells 216 cells_1, aI Y q_rows_powers_ofPrime 18 ofPrime_1, aI Y q_now_firsts 12 now_firsts, aI Y q_now_seconds 12 now_seconds, aI Y q_now_kinds 12 now_kinds, aI Y q_now_numbers 144 now_numbers, aI Y q_now_colours 12 now_colours]) [0, 2, 1, 3, 4, 5, 6, 7, 8, 9, 10, 11] rfl rfl ?_
                    refine g_i2l C dX10_fullSum_103 ?_
                    refine g_ladd C dX10_fullSum_104 ?_
                    refine g_topl (fun x3_3 ex3_3 => ?_)
                    replace h := h x3_3 ex3_3
                    refine g_lstore_n (lv' := [(3, .long x3_3), (0, .ref h0), (1, .int a1), (2, .int a2), (5, .int x5_1), (6, .int rF_6), (7, .int x7_1)]) C dX10_fullSum_105 (by decide) rfl ?_
                    refine g_iinc (v := x7_1 + 1) (lv' := [(7, .int (x7_1 + 1)), (3, .long x3_3), (0, .ref h0), (1, .int a1), (2, .int a2), (5, .int x5_1), (6, .int rF_6)]) C dX10_fullSum_106 6 rfl rfl (by decide) rfl ?_
                    refine g_goto (tgt := 66) C dX10_fullSum_109 (by decide) ?_
                    refine gG.locals (lv' := [(0, .ref h0), (1, .int a1), (2, .int a2), (3, .long x3_3), (5, .int x5_1), (6, .int rF_6), (7, .int (x7_1 + 1))]) [2, 3, 4, 1, 5, 6, 0] rfl ?_
                    exact ih2 cells_1 ofPrime_1 x3_3 (x7_1 + 1) (Nat.lt_of_lt_of_le h.2 (Nat.le_of_lt_succ hm2)) h.1
              refine gG.locals (lv' := [(0, .ref h0), (1, .int a1), (2, .int a2), (3, .long x3_1), (5, .int x5_1), (6, .int rF_6), (7, .int 1)]) [2, 3, 4, 5, 6, 1, 0] rfl ?_
              exact key_2 (Mea_2 rows_powers_cells_1 rows_powers_ofPrime_1 x3_1 1 + 1) rows_powers_cells_1 rows_powers_ofPrime_1 x3_1 1 (Nat.lt_succ_self _) hI2
      refine gG.locals (lv' := [(0, .ref h0), (1, .int a1), (2, .int a2), (3, .long 0), (5, .int 1)]) [2, 3, 4, 1, 0] rfl ?_
      exact key_1 (Mea_1 rows_powers_cells rows_powers_ofPrime 0 1 + 1) rows_powers_cells rows_powers_ofPrime 0 1 (Nat.lt_succ_self _) hI1
    · replace h := h.2 c_2
      refine g_iconst (v := (-1)) C dX10_fullSum_19 rfl ?_
      exact g_iret C hR (Nat.le_of_ble_eq_true rfl) (Nat.le_of_ble_eq_true rfl) dX10_fullSum_20 ⟨(-1), rows_powers_cells, rows_powers_ofPrime, rfl, rfl, h⟩
theorem dX10_smooth_0 : decode cX10_smooth 0 = .ok (.aload_n 0, 1) := by decide +kernel
theorem dX10_smooth_1 : decode cX10_smooth 1 = .ok (.getfield 10, 3) := by decide +kernel
theorem dX10_smooth_4 : decode cX10_smooth 4 = .ok (.iload_n 1, 1) := by decide +kernel
theorem dX10_smooth_5 : decode cX10_smooth 5 = .ok (.invokevirtual 98, 3) := by decide +kernel
theorem dX10_smooth_8 : decode cX10_smooth 8 = .ok (.ifCond .eq 19, 3) := by decide +kernel
theorem dX10_smooth_11 : decode cX10_smooth 11 = .ok (.aload_n 0, 1) := by decide +kernel
theorem dX10_smooth_12 : decode cX10_smooth 12 = .ok (.iload_n 2, 1) := by decide +kernel
theorem dX10_smooth_13 : decode cX10_smooth 13 = .ok (.invokevirtual 179, 3) := by decide +kernel
theorem dX10_smooth_16 : decode cX10_smooth 16 = .ok (.ifCond .eq 11, 3) := by decide +kernel
theorem dX10_smooth_19 : decode cX10_smooth 19 = .ok (.aload_n 0, 1) := by decide +kernel
theorem dX10_smooth_20 : decode cX10_smooth 20 = .ok (.iload_n 3, 1) := by decide +kernel
theorem dX10_smooth_21 : decode cX10_smooth 21 = .ok (.invokevirtual 179, 3) := by decide +kernel
theorem dX10_smooth_24 : decode cX10_smooth 24 = .ok (.ifCond .ne 5, 3) := by decide +kernel
theorem dX10_smooth_27 : decode cX10_smooth 27 = .ok (.iconst (-1), 1) := by decide +kernel
theorem dX10_smooth_28 : decode cX10_smooth 28 = .ok (.ireturn, 1) := by decide +kernel
theorem dX10_smooth_29 : decode cX10_smooth 29 = .ok (.aload_n 0, 1) := by decide +kernel
theorem dX10_smooth_30 : decode cX10_smooth 30 = .ok (.getfield 40, 3) := by decide +kernel
theorem dX10_smooth_33 : decode cX10_smooth 33 = .ok (.aload_n 0, 1) := by decide +kernel
theorem dX10_smooth_34 : decode cX10_smooth 34 = .ok (.getfield 10, 3) := by decide +kernel
theorem dX10_smooth_37 : decode cX10_smooth 37 = .ok (.iload_n 1, 1) := by decide +kernel
theorem dX10_smooth_38 : decode cX10_smooth 38 = .ok (.iload_n 2, 1) := by decide +kernel
theorem dX10_smooth_39 : decode cX10_smooth 39 = .ok (.invokevirtual 182, 3) := by decide +kernel
theorem dX10_smooth_42 : decode cX10_smooth 42 = .ok (.astore 4, 2) := by decide +kernel
theorem dX10_smooth_44 : decode cX10_smooth 44 = .ok (.aload_n 0, 1) := by decide +kernel
theorem dX10_smooth_45 : decode cX10_smooth 45 = .ok (.getfield 40, 3) := by decide +kernel
theorem dX10_smooth_48 : decode cX10_smooth 48 = .ok (.getfield 194, 3) := by decide +kernel
theorem dX10_smooth_51 : decode cX10_smooth 51 = .ok (.iload_n 2, 1) := by decide +kernel
theorem dX10_smooth_52 : decode cX10_smooth 52 = .ok (.invokevirtual 198, 3) := by decide +kernel
theorem dX10_smooth_55 : decode cX10_smooth 55 = .ok (.lconst 0, 1) := by decide +kernel
theorem dX10_smooth_56 : decode cX10_smooth 56 = .ok (.lstore 5, 2) := by decide +kernel
theorem dX10_smooth_58 : decode cX10_smooth 58 = .ok (.iconst 1, 1) := by decide +kernel
theorem dX10_smooth_59 : decode cX10_smooth 59 = .ok (.istore 7, 2) := by decide +kernel
theorem dX10_smooth_61 : decode cX10_smooth 61 = .ok (.iload 7, 2) := by decide +kernel
theorem dX10_smooth_63 : decode cX10_smooth 63 = .ok (.iload_n 2, 1) := by decide +kernel
theorem dX10_smooth_64 : decode cX10_smooth 64 = .ok (.if_icmp .gt 38, 3) := by decide +kernel
theorem dX10_smooth_67 : decode cX10_smooth 67 = .ok (.aload_n 0, 1) := by decide +kernel
theorem dX10_smooth_68 : decode cX10_smooth 68 = .ok (.getfield 40, 3) := by decide +kernel
theorem dX10_smooth_71 : decode cX10_smooth 71 = .ok (.getfield 194, 3) := by decide +kernel
theorem dX10_smooth_74 : decode cX10_smooth 74 = .ok (.iload 7, 2) := by decide +kernel
theorem dX10_smooth_76 : decode cX10_smooth 76 = .ok (.iload_n 3, 1) := by decide +kernel
theorem dX10_smooth_77 : decode cX10_smooth 77 = .ok (.invokevirtual 246, 3) := by decide +kernel
theorem dX10_smooth_80 : decode cX10_smooth 80 = .ok (.ifCond .eq 16, 3) := by decide +kernel
theorem dX10_smooth_83 : decode cX10_smooth 83 = .ok (.lload 5, 2) := by decide +kernel
theorem dX10_smooth_85 : decode cX10_smooth 85 = .ok (.aload 4, 2) := by decide +kernel
theorem dX10_smooth_87 : decode cX10_smooth 87 = .ok (.iload 7, 2) := by decide +kernel
theorem dX10_smooth_89 : decode cX10_smooth 89 = .ok (.invokevirtual 250, 3) := by decide +kernel
theorem dX10_smooth_92 : decode cX10_smooth 92 = .ok (.i2l, 1) := by decide +kernel
theorem dX10_smooth_93 : decode cX10_smooth 93 = .ok (.ladd, 1) := by decide +kernel
theorem dX10_smooth_94 : decode cX10_smooth 94 = .ok (.lstore 5, 2) := by decide +kernel
theorem dX10_smooth_96 : decode cX10_smooth 96 = .ok (.iinc 7 1, 3) := by decide +kernel
theorem dX10_smooth_99 : decode cX10_smooth 99 = .ok (.goto (-38), 3) := by decide +kernel
theorem dX10_smooth_102 : decode cX10_smooth 102 = .ok (.aload_n 0, 1) := by decide +kernel
theorem dX10_smooth_103 : decode cX10_smooth 103 = .ok (.getfield 10, 3) := by decide +kernel
theorem dX10_smooth_106 : decode cX10_smooth 106 = .ok (.lload 5, 2) := by decide +kernel
theorem dX10_smooth_108 : decode cX10_smooth 108 = .ok (.invokevirtual 209, 3) := by decide +kernel
theorem dX10_smooth_111 : decode cX10_smooth 111 = .ok (.ireturn, 1) := by decide +kernel
/-- QuotientSums.smooth(III)I -/
def wX10_smooth (mc ms : Nat) (now_bound : Int32) (now_modulus : Int32) (now_seed : Int32) (now_functions : Int32) (rf : Nat → Int32) (rm : Nat → Int32) (rl : Nat → Int32) (ru : Nat → Int32) (rn : Nat → Nat) (rv : Nat → Nat → Int32) (rows_turn : Int32) (n_rows_sieve_least : Nat) (rows_sieve_least : Nat → Int32) (now_needs : Nat → Int32) (rows_powers_cells : Nat → Int32) (rows_powers_ofPrime : Nat → Int32) (now_firsts : Nat → Int32) (now_seconds : Nat → Int32) (now_kinds : Nat → Int32) (now_numbers : Nat → Int32) (now_colours : Nat → Int32) (a1 : Int32) (a2 : Int32) (a3 : Int32) (Q : (Int32) → (Nat → Int32) → (Nat → Int32) → (Nat → Int32) → (Nat → Int32) → (Nat → Nat) → (Nat → Nat → Int32) → (Int32) → (Nat) → (Nat → Int32) → (Nat → Int32) → (Nat → Int32) → Prop) : Prop :=
  (∃ (P_1 : (Int32) → Prop), wX3_has now_bound now_modulus now_seed now_functions a1 P_1 ∧ ∀ (rF_1 : Int32), P_1 rF_1 → ((rF_1 = 0 → (Q (-1) rf rm rl ru rn rv rows_turn n_rows_sieve_least rows_sieve_least rows_powers_cells rows_powers_ofPrime)) ∧ (¬ rF_1 = 0 → (∃ (P_2 : (Int32) → Prop), wX10_isReach now_bound now_modulus now_seed now_functions a2 P_2 ∧ ∀ (rF_2 : Int32), P_2 rF_2 → ((rF_2 = 0 → (Q (-1) rf rm rl ru rn rv rows_turn n_rows_sieve_least rows_sieve_least rows_powers_cells rows_powers_ofPrime)) ∧ (¬ rF_2 = 0 → (∃ (P_3 : (Int32) → Prop), wX10_isReach now_bound now_modulus now_seed now_functions a3 P_3 ∧ ∀ (rF_3 : Int32), P_3 rF_3 → ((¬ rF_3 = 0 → (∃ (mcF_1 msF_1 : Nat) (P_4 : (Nat) → (Nat → Int32) → (Nat → Int32) → (Nat → Int32) → (Nat → Int32) → (Nat → Nat) → (Nat → Nat → Int32) → (Int32) → (Nat) → (Nat → Int32) → (Nat → Int32) → (Nat → Int32) → Prop), (0 + mcF_1 ≤ mc ∧ 0 + msF_1 ≤ ms) ∧ wX7_upTo mcF_1 msF_1 now_bound now_modulus now_seed now_functions rf rm rl ru rn rv rows_turn n_rows_sieve_least rows_sieve_least now_needs rows_powers_cells rows_powers_ofPrime now_firsts now_seconds now_kinds now_numbers now_colours a1 a2 P_4 ∧ ∀ (k_1 : Nat) (rf_1 : Nat → Int32) (rm_1 : Nat → Int32) (rl_1 : Nat → Int32) (ru_1 : Nat → Int32) (rn_1 : Nat → Nat) (rv_1 : Nat → Nat → Int32) (turn_1 : Int32) (n_sieve_least_1 : Nat) (sieve_least_1 : Nat → Int32) (powers_cells_1 : Nat → Int32) (powers_ofPrime_1 : Nat → Int32), P_4 k_1 rf_1 rm_1 rl_1 ru_1 rn_1 rv_1 turn_1 n_sieve_least_1 sieve_least_1 powers_cells_1 powers_ofPrime_1 → ∃ (mcF_2 msF_2 : Nat) (P_5 : (Nat) → (Nat → Int32) → Prop), (0 + mcF_1 + mcF_2 ≤ mc ∧ 0 + msF_1 + msF_2 ≤ ms) ∧ wX8_reach mcF_2 msF_2 n_sieve_least_1 sieve_least_1 a2 P_5 ∧ ∀ (n_least_1 : Nat) (least_1 : Nat → Int32), P_5 n_least_1 least_1 → (∃ (Inv_1 : (Int64) → (Int32) → Prop) (Mea_1 : (Int64) → (Int32) → Nat), Inv_1 0 1 ∧ ∀ (x5_1 : Int64) (x7_1 : Int32), Inv_1 x5_1 x7_1 → ((a2 < x7_1 → (∃ (P_6 : (Int32) → Prop), wX3_rest now_bound now_modulus now_seed now_functions x5_1 P_6 ∧ ∀ (rF_4 : Int32), P_6 rF_4 → (Q rF_4 rf_1 rm_1 rl_1 ru_1 rn_1 rv_1 turn_1 n_least_1 least_1 powers_cells_1 powers_ofPrime_1))) ∧ (¬ a2 < x7_1 → (∃ (P_7 : (Int32) → Prop), wX8_isSmooth n_least_1 least_1 x7_1 a3 P_7 ∧ ∀ (rF_5 : Int32), P_7 rF_5 → ((rF_5 = 0 → (Inv_1 x5_1 (x7_1 + 1) ∧ Mea_1 x5_1 (x7_1 + 1) < Mea_1 x5_1 x7_1)) ∧ (¬ rF_5 = 0 → (∃ (P_8 : (Int32) → Prop), wX6_valueAt (rf_1 k_1) (rm_1 k_1) (rl_1 k_1) (ru_1 k_1) (rn_1 k_1) (rv_1 k_1) x7_1 P_8 ∧ ∀ (rF_6 : Int32), P_8 rF_6 → ∀ x5_2 : Int64, x5_2 = x5_1 + (rF_6.toInt64) → (Inv_1 x5_2 (x7_1 + 1) ∧ Mea_1 x5_2 (x7_1 + 1) < Mea_1 x5_1 x7_1)))))))))) ∧ (rF_3 = 0 → (Q (-1) rf rm rl ru rn rv rows_turn n_rows_sieve_least rows_sieve_least rows_powers_cells rows_powers_ofPrime))))))))))
set_option maxHeartbeats 4000000 in
set_option maxRecDepth 100000 in
theorem mX10_smooth (l : Launch) (D : va_G) (Y : Nat → ClassId) (mc ms : Nat) (h0 : Nat) (ra : Nat → Nat) (q_now : Nat) (v_reader : Value) (v_changes : Value) (v_image : Value) (q_rows : Nat) (v_couples : Value) (now_bound : Int32) (now_modulus : Int32) (now_seed : Int32) (now_functions : Int32) (v_now_names : Value) (q_now_kinds : Nat) (q_now_firsts : Nat) (q_now_seconds : Nat) (v_now_degrees : Value) (q_now_colours : Nat) (q_now_needs : Nat) (q_now_numbers : Nat) (rs : Nat → Nat) (rf : Nat → Int32) (rm : Nat → Int32) (rl : Nat → Int32) (ru : Nat → Int32) (rn : Nat → Nat) (rv : Nat → Nat → Int32) (q_rows_sieve : Nat) (q_rows_powers : Nat) (q_rows_rows : Nat) (rows_turn : Int32) (q_rows_sieve_least : Nat) (n_rows_sieve_least : Nat) (rows_sieve_least : Nat → Int32) (now_needs : Nat → Int32) (q_rows_powers_ofPrime : Nat) (q_rows_powers_cells : Nat) (rows_powers_cells : Nat → Int32) (rows_powers_ofPrime : Nat → Int32) (now_firsts : Nat → Int32) (now_seconds : Nat → Int32) (now_kinds : Nat → Int32) (now_numbers : Nat → Int32) (now_colours : Nat → Int32) (a1 : Int32) (a2 : Int32) (a3 : Int32) (Q : (Int32) → (Nat → Int32) → (Nat → Int32) → (Nat → Int32) → (Nat → Int32) → (Nat → Nat) → (Nat → Nat → Int32) → (Int32) → (Nat) → (Nat → Int32) → (Nat → Int32) → (Nat → Int32) → Prop) (h : wX10_smooth mc ms now_bound now_modulus now_seed now_functions rf rm rl ru rn rv rows_turn n_rows_sieve_least rows_sieve_least now_needs rows_powers_cells rows_powers_ofPrime now_firsts now_seconds now_kinds now_numbers now_colours a1 a2 a3 Q) : gM l D Y yX10_smooth cX10_smooth 8 (some .int) 6 151 mc ms [.ref h0, .int a1, .int a2, .int a3] (rowsW Y ra rs rf rm rl ru rn rv ++ [oX10 h0 (.ref q_now) (v_reader) (v_changes) (v_image) (.ref q_rows) (v_couples), oX3 q_now now_bound now_modulus now_seed now_functions (v_now_names) (.ref q_now_kinds) (.ref q_now_firsts) (.ref q_now_seconds) (v_now_degrees) (.ref q_now_colours) (.ref q_now_needs) (.ref q_now_numbers), oX7 q_rows (.ref q_rows_sieve) (.ref q_rows_powers) (.ref q_rows_rows) rows_turn, aR Y q_rows_rows 4 (fun j => some (ra j)), oX8 q_rows_sieve (.ref q_rows_sieve_least), aI Y q_rows_sieve_least n_rows_sieve_least rows_sieve_least, aI Y q_now_needs 12 now_needs, oX4 q_rows_powers (.ref q_rows_powers_ofPrime) (.ref q_rows_powers_cells), aI Y q_rows_powers_cells 216 rows_powers_cells, aI Y q_rows_powers_ofPrime 18 rows_powers_ofPrime, aI Y q_now_firsts 12 now_firsts, aI Y q_now_seconds 12 now_seconds, aI Y q_now_kinds 12 now_kinds, aI Y q_now_numbers 144 now_numbers, aI Y q_now_colours 12 now_colours]) (fun v w => ∃ r : Int32, ∃ rs' : Nat → Nat, ∃ rf' : Nat → Int32, ∃ rm' : Nat → Int32, ∃ rl' : Nat → Int32, ∃ ru' : Nat → Int32, ∃ rn' : Nat → Nat, ∃ rv' : Nat → Nat → Int32, ∃ rows_turn' : Int32, ∃ q_rows_sieve_least' : Nat, ∃ n_rows_sieve_least' : Nat, ∃ rows_sieve_least' : Nat → Int32, ∃ rows_powers_cells' : Nat → Int32, ∃ rows_powers_ofPrime' : Nat → Int32, v = some (.int r) ∧ w = (rowsW Y ra rs' rf' rm' rl' ru' rn' rv' ++ [oX10 h0 (.ref q_now) (v_reader) (v_changes) (v_image) (.ref q_rows) (v_couples), oX3 q_now now_bound now_modulus now_seed now_functions (v_now_names) (.ref q_now_kinds) (.ref q_now_firsts) (.ref q_now_seconds) (v_now_degrees) (.ref q_now_colours) (.ref q_now_needs) (.ref q_now_numbers), oX7 q_rows (.ref q_rows_sieve) (.ref q_rows_powers) (.ref q_rows_rows) rows_turn', aR Y q_rows_rows 4 (fun j => some (ra j)), oX8 q_rows_sieve (.ref q_rows_sieve_least'), aI Y q_rows_sieve_least' n_rows_sieve_least' rows_sieve_least', aI Y q_now_needs 12 now_needs, oX4 q_rows_powers (.ref q_rows_powers_ofPrime) (.ref q_rows_powers_cells), aI Y q_rows_powers_cells 216 rows_powers_cells', aI Y q_rows_powers_ofPrime 18 rows_powers_ofPrime', aI Y q_now_firsts 12 now_firsts, aI Y q_now_seconds 12 now_seconds, aI Y q_now_kinds 12 now_kinds, aI Y q_now_numbers 144 now_numbers, aI Y q_now_colours 12 now_colours]) ∧ Q r rf' rm' rl' ru' rn' rv' rows_turn' n_rows_sieve_least' rows_sieve_least' rows_powers_cells' rows_powers_ofPrime') := by
  refine gM_of (own := RX10) (by decide +kernel) rfl (Nat.le_of_ble_eq_true rfl) rfl (fun E C hR => ?_)
  unfold wX10_smooth at h
  refine g_aload_n C dX10_smooth_0 0 rfl ?_
  refine g_get C inX10 8 rfl rfl 0 (by decide) wF_X10_10 rfl dX10_smooth_1 ?_
  refine g_iload_n C dX10_smooth_4 1 rfl ?_
  obtain ⟨P_1, hP, h⟩ := h
  refine g_callV (As := [.int a1]) (rest := []) C (mX3_has l D Y q_now now_bound now_modulus now_seed now_functions v_now_names (.ref q_now_kinds) (.ref q_now_firsts) (.ref q_now_seconds) v_now_degrees (.ref q_now_colours) (.ref q_now_needs) (.ref q_now_numbers) a1 P_1 hP) dX10_smooth_5 rfl wM_X10_98 wI_X3_has wV_X3_has wN_X3 wC_X3_has (n := 1) (by decide +kernel) rfl (q0 := 0) rfl rfl ⟨Nat.le_of_ble_eq_true rfl, Nat.le_of_ble_eq_true rfl⟩ ⟨Nat.zero_le _, Nat.zero_le _⟩ (Nat.le_of_ble_eq_true rfl) [9] [0, 1, 2, 3, 4, 5, 6, 7, 8, 10, 11, 12, 13, 14, 15, 16, 17, 18, 19, 20, 21, 22] rfl rfl rfl (fun v wc hv => ?_)
  obtain ⟨rF_1, rfl, rfl, hq⟩ := hv
  replace h := h rF_1 hq
  refine gG.perm (ws' := (rowsW Y ra rs rf rm rl ru rn rv ++ [oX10 h0 (.ref q_now) (v_reader) (v_changes) (v_image) (.ref q_rows) (v_couples), oX3 q_now now_bound now_modulus now_seed now_functions (v_now_names) (.ref q_now_kinds) (.ref q_now_firsts) (.ref q_now_seconds) (v_now_degrees) (.ref q_now_colours) (.ref q_now_needs) (.ref q_now_numbers), oX7 q_rows (.ref q_rows_sieve) (.ref q_rows_powers) (.ref q_rows_rows) rows_turn, aR Y q_rows_rows 4 (fun j => some (ra j)), oX8 q_rows_sieve (.ref q_rows_sieve_least), aI Y q_rows_sieve_least n_rows_sieve_least rows_sieve_least, aI Y q_now_needs 12 now_needs, oX4 q_rows_powers (.ref q_rows_powers_ofPrime) (.ref q_rows_powers_cells), aI Y q_rows_powers_cells 216 rows_powers_cells, aI Y q_rows_powers_ofPrime 18 rows_powers_ofPrime, aI Y q_now_firsts 12 now_firsts, aI Y q_now_seconds 12 now_seconds, aI Y q_now_kinds 12 now_kinds, aI Y q_now_numbers 144 now_numbers, aI Y q_now_colours 12 now_colours])) [0, 1, 2, 3, 4, 5, 6, 7, 8, 22, 9, 10, 11, 12, 13, 14, 15, 16, 17, 18, 19, 20, 21] rfl rfl ?_
  refine g_if_eq (tgt := 27) C dX10_smooth_8 (by decide) (fun c_1 => ?_) (fun c_1 => ?_)
  · replace h := h.1 c_1
    refine g_iconst (v := (-1)) C dX10_smooth_27 rfl ?_
    exact g_iret C hR (show 0 ≤ mc ∧ 0 ≤ ms from ⟨Nat.zero_le _, Nat.zero_le _⟩).1 (show 0 ≤ mc ∧ 0 ≤ ms from ⟨Nat.zero_le _, Nat.zero_le _⟩).2 dX10_smooth_28 ⟨(-1), rs, rf, rm, rl, ru, rn, rv, rows_turn, q_rows_sieve_least, n_rows_sieve_least, rows_sieve_least, rows_powers_cells, rows_powers_ofPrime, rfl, rfl, h⟩
  · replace h := h.2 c_1
    refine g_aload_n C dX10_smooth_11 0 rfl ?_
    refine g_iload_n C dX10_smooth_12 2 rfl ?_
    obtain ⟨P_2, hP, h⟩ := h
    refine g_callV (As := [.int a2]) (rest := []) C (mX10_isReach l D Y h0 q_now v_reader v_changes v_image (.ref q_rows) v_couples now_bound now_modulus now_seed now_functions v_now_names (.ref q_now_kinds) (.ref q_now_firsts) (.ref q_now_seconds) v_now_degrees (.ref q_now_colours) (.ref q_now_needs) (.ref q_now_numbers) a2 P_2 hP) dX10_smooth_13 rfl wM_X10_179 wI_X10_isReach wV_X10_isReach wN_X10 wC_X10_isReach (n := 1) (by decide +kernel) rfl (q0 := 0) rfl rfl ⟨Nat.le_of_ble_eq_true rfl, Nat.le_of_ble_eq_true rfl⟩ ⟨Nat.zero_le _, Nat.zero_le _⟩ (Nat.le_of_ble_eq_true rfl) [8, 9] [0, 1, 2, 3, 4, 5, 6, 7, 10, 11, 12, 13, 14, 15, 16, 17, 18, 19, 20, 21, 22] rfl rfl rfl (fun v wc hv => ?_)
    obtain ⟨rF_2, rfl, rfl, hq⟩ := hv
    replace h := h rF_2 hq
    refine gG.perm (ws' := (rowsW Y ra rs rf rm rl ru rn rv ++ [oX10 h0 (.ref q_now) (v_reader) (v_changes) (v_image) (.ref q_rows) (v_couples), oX3 q_now now_bound now_modulus now_seed now_functions (v_now_names) (.ref q_now_kinds) (.ref q_now_firsts) (.ref q_now_seconds) (v_now_degrees) (.ref q_now_colours) (.ref q_now_needs) (.ref q_now_numbers), oX7 q_rows (.ref q_rows_sieve) (.ref q_rows_powers) (.ref q_rows_rows) rows_turn, aR Y q_rows_rows 4 (fun j => some (ra j)), oX8 q_rows_sieve (.ref q_rows_sieve_least), aI Y q_rows_sieve_least n_rows_sieve_least rows_sieve_least, aI Y q_now_needs 12 now_needs, oX4 q_rows_powers (.ref q_rows_powers_ofPrime) (.ref q_rows_powers_cells), aI Y q_rows_powers_cells 216 rows_powers_cells, aI Y q_rows_powers_ofPrime 18 rows_powers_ofPrime, aI Y q_now_firsts 12 now_firsts, aI Y q_now_seconds 12 now_seconds, aI Y q_now_kinds 12 now_kinds, aI Y q_now_numbers 144 now_numbers, aI Y q_now_colours 12 now_colours])) [0, 1, 2, 3, 4, 5, 6, 7, 21, 22, 8, 9, 10, 11, 12, 13, 14, 15, 16, 17, 18, 19, 20] rfl rfl ?_
    refine g_if_eq (tgt := 27) C dX10_smooth_16 (by decide) (fun c_2 => ?_) (fun c_2 => ?_)
    · replace h := h.1 c_2
      refine g_iconst (v := (-1)) C dX10_smooth_27 rfl ?_
      exact g_iret C hR (show 0 ≤ mc ∧ 0 ≤ ms from ⟨Nat.zero_le _, Nat.zero_le _⟩).1 (show 0 ≤ mc ∧ 0 ≤ ms from ⟨Nat.zero_le _, Nat.zero_le _⟩).2 dX10_smooth_28 ⟨(-1), rs, rf, rm, rl, ru, rn, rv, rows_turn, q_rows_sieve_least, n_rows_sieve_least, rows_sieve_least, rows_powers_cells, rows_powers_ofPrime, rfl, rfl, h⟩
    · replace h := h.2 c_2
      refine g_aload_n C dX10_smooth_19 0 rfl ?_
      refine g_iload_n C dX10_smooth_20 3 rfl ?_
      obtain ⟨P_3, hP, h⟩ := h
      refine g_callV (As := [.int a3]) (rest := []) C (mX10_isReach l D Y h0 q_now v_reader v_changes v_image (.ref q_rows) v_couples now_bound now_modulus now_seed now_functions v_now_names (.ref q_now_kinds) (.ref q_now_firsts) (.ref q_now_seconds) v_now_degrees (.ref q_now_colours) (.ref q_now_needs) (.ref q_now_numbers) a3 P_3 hP) dX10_smooth_21 rfl wM_X10_179 wI_X10_isReach wV_X10_isReach wN_X10 wC_X10_isReach (n := 1) (by decide +kernel) rfl (q0 := 0) rfl rfl ⟨Nat.le_of_ble_eq_true rfl, Nat.le_of_ble_eq_true rfl⟩ ⟨Nat.zero_le _, Nat.zero_le _⟩ (Nat.le_of_ble_eq_true rfl) [8, 9] [0, 1, 2, 3, 4, 5, 6, 7, 10, 11, 12, 13, 14, 15, 16, 17, 18, 19, 20, 21, 22] rfl rfl rfl (fun v wc hv => ?_)
      obtain ⟨rF_3, rfl, rfl, hq⟩ := hv
      replace h := h rF_3 hq
      refine gG.perm (ws' := (rowsW Y ra rs rf rm rl ru rn rv ++ [oX10 h0 (.ref q_now) (v_reader) (v_changes) (v_image) (.ref q_rows) (v_couples), oX3 q_now now_bound now_modulus now_seed now_functions (v_now_names) (.ref q_now_kinds) (.ref q_now_firsts) (.ref q_now_seconds) (v_now_degrees) (.ref q_now_colours) (.ref q_now_needs) (.ref q_now_numbers), oX7 q_rows (.ref q_rows_sieve) (.ref q_rows_powers) (.ref q_rows_rows) rows_turn, aR Y q_rows_rows 4 (fun j => some (ra j)), oX8 q_rows_sieve (.ref q_rows_sieve_least), aI Y q_rows_sieve_least n_rows_sieve_least rows_sieve_least, aI Y q_now_needs 12 now_needs, oX4 q_rows_powers (.ref q_rows_powers_ofPrime) (.ref q_rows_powers_cells), aI Y q_rows_powers_cells 216 rows_powers_cells, aI Y q_rows_powers_ofPrime 18 rows_powers_ofPrime, aI Y q_now_firsts 12 now_firsts, aI Y q_now_seconds 12 now_seconds, aI Y q_now_kinds 12 now_kinds, aI Y q_now_numbers 144 now_numbers, aI Y q_now_colours 12 now_colours])) [0, 1, 2, 3, 4, 5, 6, 7, 21, 22, 8, 9, 10, 11, 12, 13, 14, 15, 16, 17, 18, 19, 20] rfl rfl ?_
      refine g_if_ne (tgt := 29) C dX10_smooth_24 (by decide) (fun c_3 => ?_) (fun c_3 => ?_)
      · replace h := h.1 c_3
        refine g_aload_n C dX10_smooth_29 0 rfl ?_
        refine g_get C inX10 8 rfl rfl 4 (by decide) wF_X10_40 rfl dX10_smooth_30 ?_
        refine g_aload_n C dX10_smooth_33 0 rfl ?_
        refine g_get C inX10 8 rfl rfl 0 (by decide) wF_X10_10 rfl dX10_smooth_34 ?_
        refine g_iload_n C dX10_smooth_37 1 rfl ?_
        refine g_iload_n C dX10_smooth_38 2 rfl ?_
        obtain ⟨mcF_1, msF_1, P_4, hk_1, hP, h⟩ := h
        refine g_callV (As := [.ref q_now, .int a1, .int a2]) (rest := []) C (mX7_upTo l D Y mcF_1 msF_1 q_rows ra q_now now_bound now_modulus now_seed now_functions v_now_names q_now_kinds q_now_firsts q_now_seconds v_now_degrees q_now_colours q_now_needs q_now_numbers rs rf rm rl ru rn rv q_rows_sieve q_rows_powers q_rows_rows rows_turn q_rows_sieve_least n_rows_sieve_least rows_sieve_least now_needs q_rows_powers_ofPrime q_rows_powers_cells rows_powers_cells rows_powers_ofPrime now_firsts now_seconds now_kinds now_numbers now_colours a1 a2 P_4 hP) dX10_smooth_39 rfl wM_X10_182 wI_X7_upTo wV_X7_upTo wN_X7 wC_X7_upTo (n := 3) (by decide +kernel) rfl (q0 := 9) rfl rfl ⟨Nat.le_of_ble_eq_true rfl, Nat.le_of_ble_eq_true rfl⟩ hk_1 (Nat.le_of_ble_eq_true rfl) [0, 1, 2, 3, 4, 5, 6, 7, 9, 10, 11, 12, 13, 14, 15, 16, 17, 18, 19, 20, 21, 22] [8] rfl rfl rfl (fun v wc hv => ?_)
        obtain ⟨k_1, rs_1, rf_1, rm_1, rl_1, ru_1, rn_1, rv_1, turn_1, q_sieve_least_1, n_sieve_least_1, sieve_least_1, powers_cells_1, powers_ofPrime_1, rfl, rfl, hkk_1, hq⟩ := hv
        replace h := h k_1 rf_1 rm_1 rl_1 ru_1 rn_1 rv_1 turn_1 n_sieve_least_1 sieve_least_1 powers_cells_1 powers_ofPrime_1 hq
        refine gG.perm (ws' := (rowsW Y ra rs_1 rf_1 rm_1 rl_1 ru_1 rn_1 rv_1 ++ [oX10 h0 (.ref q_now) (v_reader) (v_changes) (v_image) (.ref q_rows) (v_couples), oX3 q_now now_bound now_modulus now_seed now_functions (v_now_names) (.ref q_now_kinds) (.ref q_now_firsts) (.ref q_now_seconds) (v_now_degrees) (.ref q_now_colours) (.ref q_now_needs) (.ref q_now_numbers), oX7 q_rows (.ref q_rows_sieve) (.ref q_rows_powers) (.ref q_rows_rows) turn_1, aR Y q_rows_rows 4 (fun j => some (ra j)), oX8 q_rows_sieve (.ref q_sieve_least_1), aI Y q_sieve_least_1 n_sieve_least_1 sieve_least_1, aI Y q_now_needs 12 now_needs, oX4 q_rows_powers (.ref q_rows_powers_ofPrime) (.ref q_rows_powers_cells), aI Y q_rows_powers_cells 216 powers_cells_1, aI Y q_rows_powers_ofPrime 18 powers_ofPrime_1, aI Y q_now_firsts 12 now_firsts, aI Y q_now_seconds 12 now_seconds, aI Y q_now_kinds 12 now_kinds, aI Y q_now_numbers 144 now_numbers, aI Y q_now_colours 12 now_colours])) [1, 2, 3, 4, 5, 6, 7, 8, 0, 9, 10, 11, 12, 13, 14, 15, 16, 17, 18, 19, 20, 21, 22] rfl rfl ?_
        refine g_astore (lv' := [(4, .ref (ra k_1)), (0, .ref h0), (1, .int a1), (2, .int a2), (3, .int a3)]) C dX10_smooth_42 (by decide) rfl ?_
        refine g_aload_n C dX10_smooth_44 1 rfl ?_
        refine g_get C inX10 8 rfl rfl 4 (by decide) wF_X10_40 rfl dX10_smooth_45 ?_
        refine g_get C inX7 10 rfl rfl 0 (by decide) wF_X10_194 rfl dX10_smooth_48 ?_
        refine g_iload_n C dX10_smooth_51 3 rfl ?_
        obtain ⟨mcF_2, msF_2, P_5, hk_2, hP, h⟩ := h
        refine g_callV (As := [.int a2]) (rest := []) C (mX8_reach l D Y mcF_2 msF_2 q_rows_sieve q_sieve_least_1 n_sieve_least_1 sieve_least_1 a2 P_5 hP) dX10_smooth_52 rfl wM_X10_198 wI_X8_reach wV_X8_reach wN_X8 wC_X8_reach (n := 1) (by decide +kernel) rfl (q0 := 0) rfl rfl ⟨Nat.le_of_ble_eq_true rfl, Nat.le_of_ble_eq_true rfl⟩ hk_2 (Nat.le_of_ble_eq_true rfl) [12, 13] [0, 1, 2, 3, 4, 5, 6, 7, 8, 9, 10, 11, 14, 15, 16, 17, 18, 19, 20, 21, 22] rfl rfl rfl (fun v wc hv => ?_)
        obtain ⟨q_least_1, n_least_1, least_1, rfl, rfl, hq⟩ := hv
        replace h := h n_least_1 least_1 hq
        refine gG.perm (ws' := (rowsW Y ra rs_1 rf_1 rm_1 rl_1 ru_1 rn_1 rv_1 ++ [oX10 h0 (.ref q_now) (v_reader) (v_changes) (v_image) (.ref q_rows) (v_couples), oX3 q_now now_bound now_modulus now_seed now_functions (v_now_names) (.ref q_now_kinds) (.ref q_now_firsts) (.ref q_now_seconds) (v_now_degrees) (.ref q_now_colours) (.ref q_now_needs) (.ref q_now_numbers), oX7 q_rows (.ref q_rows_sieve) (.ref q_rows_powers) (.ref q_rows_rows) turn_1, aR Y q_rows_rows 4 (fun j => some (ra j)), oX8 q_rows_sieve (.ref q_least_1), aI Y q_least_1 n_least_1 least_1, aI Y q_now_needs 12 now_needs, oX4 q_rows_powers (.ref q_rows_powers_ofPrime) (.ref q_rows_powers_cells), aI Y q_rows_powers_cells 216 powers_cells_1, aI Y q_rows_powers_ofPrime 18 powers_ofPrime_1, aI Y q_now_firsts 12 now_firsts, aI Y q_now_seconds 12 now_seconds, aI Y q_now_kinds 12 now_kinds, aI Y q_now_numbers 144 now_numbers, aI Y q_now_colours 12 now_colours])) [0, 1, 2, 3, 4, 5, 6, 7, 8, 9, 10, 11, 21, 22, 12, 13, 14, 15, 16, 17, 18, 19, 20] rfl rfl ?_
        refine g_lconst (v := 0) C dX10_smooth_55 rfl ?_
        refine g_lstore (lv' := [(5, .long 0), (4, .ref (ra k_1)), (0, .ref h0), (1, .int a1), (2, .int a2), (3, .int a3)]) C dX10_smooth_56 (by decide) rfl ?_
        refine g_iconst (v := 1) C dX10_smooth_58 rfl ?_
        refine g_istore (lv' := [(7, .int 1), (5, .long 0), (4, .ref (ra k_1)), (0, .ref h0), (1, .int a1), (2, .int a2), (3, .int a3)]) C dX10_smooth_59 (by decide) rfl ?_
        obtain ⟨Inv_1, Mea_1, hI1, hB1⟩ := h
        have key_1 : ∀ (n : Nat) (x5_1 : Int64) (x7_1 : Int32) , Mea_1 x5_1 x7_1 < n → Inv_1 x5_1 x7_1 → gG E (0 + mcF_1 + mcF_2) (0 + msF_1 + msF_2) (rowsW Y ra rs_1 rf_1 rm_1 rl_1 ru_1 rn_1 rv_1 ++ [oX10 h0 (.ref q_now) (v_reader) (v_changes) (v_image) (.ref q_rows) (v_couples), oX3 q_now now_bound now_modulus now_seed now_functions (v_now_names) (.ref q_now_kinds) (.ref q_now_firsts) (.ref q_now_seconds) (v_now_degrees) (.ref q_now_colours) (.ref q_now_needs) (.ref q_now_numbers), oX7 q_rows (.ref q_rows_sieve) (.ref q_rows_powers) (.ref q_rows_rows) turn_1, aR Y q_rows_rows 4 (fun j => some (ra j)), oX8 q_rows_sieve (.ref q_least_1), aI Y q_least_1 n_least_1 least_1, aI Y q_now_needs 12 now_needs, oX4 q_rows_powers (.ref q_rows_powers_ofPrime) (.ref q_rows_powers_cells), aI Y q_rows_powers_cells 216 powers_cells_1, aI Y q_rows_powers_ofPrime 18 powers_ofPrime_1, aI Y q_now_firsts 12 now_firsts, aI Y q_now_seconds 12 now_seconds, aI Y q_now_kinds 12 now_kinds, aI Y q_now_numbers 144 now_numbers, aI Y q_now_colours 12 now_colours]) [(0, .ref h0), (2, .int a2), (3, .int a3), (4, .ref (ra k_1)), (5, .long x5_1), (7, .int x7_1)] [] 61 := by
          intro n
          induction n with
          | zero => exact fun _ _ hm => absurd hm (Nat.not_lt_zero _)
          | succ n ih1 =>
            intro x5_1 x7_1  hm1 hI
            have h := hB1 x5_1 x7_1 hI
            refine g_iload C dX10_smooth_61 5 rfl ?_
            refine g_iload_n C dX10_smooth_63 1 rfl ?_
            refine g_icmp_gt (tgt := 102) C dX10_smooth_64 (by decide) (fun c_4 => ?_) (fun c_4 => ?_)
            · replace h := h.1 c_4
              refine g_aload_n C dX10_smooth_102 0 rfl ?_
              refine g_get C inX10 8 rfl rfl 0 (by decide) wF_X10_10 rfl dX10_smooth_103 ?_
              refine g_lload C dX10_smooth_106 4 rfl ?_
              obtain ⟨P_6, hP, h⟩ := h
              refine g_callV (As := [.long x5_1]) (rest := []) C (mX3_rest l D Y q_now now_bound now_modulus now_seed now_functions v_now_names (.ref q_now_kinds) (.ref q_now_firsts) (.ref q_now_seconds) v_now_degrees (.ref q_now_colours) (.ref q_now_needs) (.ref q_now_numbers) x5_1 P_6 hP) dX10_smooth_108 rfl wM_X10_209 wI_X3_rest wV_X3_rest wN_X3 wC_X3_rest (n := 1) (by decide +kernel) rfl (q0 := 0) rfl rfl ⟨Nat.le_of_ble_eq_true rfl, Nat.le_of_ble_eq_true rfl⟩ hk_2 (Nat.le_of_ble_eq_true rfl) [9] [0, 1, 2, 3, 4, 5, 6, 7, 8, 10, 11, 12, 13, 14, 15, 16, 17, 18, 19, 20, 21, 22] rfl rfl rfl (fun v wc hv => ?_)
              obtain ⟨rF_4, rfl, rfl, hq⟩ := hv
              replace h := h rF_4 hq
              refine gG.perm (ws' := (rowsW Y ra rs_1 rf_1 rm_1 rl_1 ru_1 rn_1 rv_1 ++ [oX10 h0 (.ref q_now) (v_reader) (v_changes) (v_image) (.ref q_rows) (v_couples), oX3 q_now now_bound now_modulus now_seed now_functions (v_now_names) (.ref q_now_kinds) (.ref q_now_firsts) (.ref q_now_seconds) (v_now_degrees) (.ref q_now_colours) (.ref q_now_needs) (.ref q_now_numbers), oX7 q_rows (.ref q_rows_sieve) (.ref q_rows_powers) (.ref q_rows_rows) turn_1, aR Y q_rows_rows 4 (fun j => some (ra j)), oX8 q_rows_sieve (.ref q_least_1), aI Y q_least_1 n_least_1 least_1, aI Y q_now_needs 12 now_needs, oX4 q_rows_powers (.ref q_rows_powers_ofPrime) (.ref q_rows_powers_cells), aI Y q_rows_powers_cells 216 powers_cells_1, aI Y q_rows_powers_ofPrime 18 powers_ofPrime_1, aI Y q_now_firsts 12 now_firsts, aI Y q_now_seconds 12 now_seconds, aI Y q_now_kinds 12 now_kinds, aI Y q_now_numbers 144 now_numbers, aI Y q_now_colours 12 now_colours])) [0, 1, 2, 3, 4, 5, 6, 7, 8, 22, 9, 10, 11, 12, 13, 14, 15, 16, 17, 18, 19, 20, 21] rfl rfl ?_
              exact g_iret C hR (show 0 + mcF_1 + mcF_2 ≤ mc ∧ 0 + msF_1 + msF_2 ≤ ms from hk_2).1 (show 0 + mcF_1 + mcF_2 ≤ mc ∧ 0 + msF_1 + msF_2 ≤ ms from hk_2).2 dX10_smooth_111 ⟨rF_4, rs_1, rf_1, rm_1, rl_1, ru_1, rn_1, rv_1, turn_1, q_least_1, n_least_1, least_1, powers_cells_1, powers_ofPrime_1, rfl, rfl, h⟩
            · replace h := h.2 c_4
              refine g_aload_n C dX10_smooth_67 0 rfl ?_
              refine g_get C inX10 8 rfl rfl 4 (by decide) wF_X10_40 rfl dX10_smooth_68 ?_
              refine g_get C inX7 10 rfl rfl 0 (by decide) wF_X10_194 rfl dX10_smooth_71 ?_
              refine g_iload C dX10_smooth_74 5 rfl ?_
              refine g_iload_n C dX10_smooth_76 2 rfl ?_
              obtain ⟨P_7, hP, h⟩ := h
              refine g_callV (As := [.int x7_1, .int a3]) (rest := []) C (mX8_isSmooth l D Y q_rows_sieve q_least_1 n_least_1 least_1 x7_1 a3 P_7 hP) dX10_smooth_77 rfl wM_X10_246 wI_X8_isSmooth wV_X8_isSmooth wN_X8 wC_X8_isSmooth (n := 2) (by decide +kernel) rfl (q0 := 0) rfl rfl ⟨Nat.le_of_ble_eq_true rfl, Nat.le_of_ble_eq_true rfl⟩ hk_2 (Nat.le_of_ble_eq_true rfl) [12, 13] [0, 1, 2, 3, 4, 5, 6, 7, 8, 9, 10, 11, 14, 15, 16, 17, 18, 19, 20, 21, 22] rfl rfl rfl (fun v wc hv => ?_)
              obtain ⟨rF_5, rfl, rfl, hq⟩ := hv
              replace h := h rF_5 hq
              refine gG.perm (ws' := (rowsW Y ra rs_1 rf_1 rm_1 rl_1 ru_1 rn_1 rv_1 ++ [oX10 h0 (.ref q_now) (v_reader) (v_changes) (v_image) (.ref q_rows) (v_couples), oX3 q_now now_bound now_modulus now_seed now_functions (v_now_names) (.ref q_now_kinds) (.ref q_now_firsts) (.ref q_now_seconds) (v_now_degrees) (.ref q_now_colours) (.ref q_now_needs) (.ref q_now_numbers), oX7 q_rows (.ref q_rows_sieve) (.ref q_rows_powers) (.ref q_rows_rows) turn_1, aR Y q_rows_rows 4 (fun j => some (ra j)), oX8 q_rows_sieve (.ref q_least_1), aI Y q_least_1 n_least_1 least_1, aI Y q_now_needs 12 now_needs, oX4 q_rows_powers (.ref q_rows_powers_ofPrime) (.ref q_rows_powers_cells), aI Y q_rows_powers_cells 216 powers_cells_1, aI Y q_rows_powers_ofPrime 18 powers_ofPrime_1, aI Y q_now_firsts 12 now_firsts, aI Y q_now_seconds 12 now_seconds, aI Y q_now_kinds 12 now_kinds, aI Y q_now_numbers 144 now_numbers, aI Y q_now_colours 12 now_colours])) [0, 1, 2, 3, 4, 5, 6, 7, 8, 9, 10, 11, 21, 22, 12, 13, 14, 15, 16, 17, 18, 19, 20] rfl rfl ?_
              refine g_if_eq (tgt := 96) C dX10_smooth_80 (by decide) (fun c_5 => ?_) (fun c_5 => ?_)
              · replace h := h.1 c_5
                refine g_iinc (v := x7_1 + 1) (lv' := [(7, .int (x7_1 + 1)), (0, .ref h0), (2, .int a2), (3, .int a3), (4, .ref (ra k_1)), (5, .long x5_1)]) C dX10_smooth_96 5 rfl rfl (by decide) rfl ?_
                refine g_goto (tgt := 61) C dX10_smooth_99 (by decide) ?_
                refine gG.locals (lv' := [(0, .ref h0), (2, .int a2), (3, .int a3), (4, .ref (ra k_1)), (5, .long x5_1), (7, .int (x7_1 + 1))]) [1, 2, 3, 4, 5, 0] rfl ?_
                exact ih1 x5_1 (x7_1 + 1) (Nat.lt_of_lt_of_le h.2 (Nat.le_of_lt_succ hm1)) h.1
              · replace h := h.2 c_5
                refine g_lload C dX10_smooth_83 4 rfl ?_
                refine g_aload C dX10_smooth_85 3 rfl ?_
                refine g_iload C dX10_smooth_87 5 rfl ?_
                obtain ⟨P_8, hP, h⟩ := h
                refine g_callV (As := [.int x7_1]) (rest := [.long x5_1]) C (mX6_valueAt_at l D Y ra k_1 (hkk_1) rs_1 rf_1 rm_1 rl_1 ru_1 rn_1 rv_1 x7_1 P_8 hP) dX10_smooth_89 rfl wM_X10_250 wI_X6_valueAt wV_X6_valueAt wN_X6 wC_X6_valueAt (n := 1) (by decide +kernel) rfl (q0 := (2 * k_1)) (rowsW_obj0 _ _ _ _ _ _ _ _ _ (hkk_1)) rfl ⟨Nat.le_of_ble_eq_true rfl, Nat.le_of_ble_eq_true rfl⟩ hk_2 (Nat.le_of_ble_eq_true rfl) [0, 1, 2, 3, 4, 5, 6, 7] [8, 9, 10, 11, 12, 13, 14, 15, 16, 17, 18, 19, 20, 21, 22] rfl rfl rfl (fun v wc hv => ?_)
                obtain ⟨rF_6, rfl, rfl, hq⟩ := hv
                replace h := h rF_6 hq
                refine gG.perm (ws' := (rowsW Y ra rs_1 rf_1 rm_1 rl_1 ru_1 rn_1 rv_1 ++ [oX10 h0 (.ref q_now) (v_reader) (v_changes) (v_image) (.ref q_rows) (v_couples), oX3 q_now now_bound now_modulus now_seed now_functions (v_now_names) (.ref q_now_kinds) (.ref q_now_firsts) (.ref q_now_seconds) (v_now_degrees) (.ref q_now_colours) (.ref q_now_needs) (.ref q_now_numbers), oX7 q_rows (.ref q_rows_sieve) (.ref q_rows_powers) (.ref q_rows_rows) turn_1, aR Y q_rows_rows 4 (fun j => some (ra j)), oX8 q_rows_sieve (.ref q_least_1), aI Y q_least_1 n_least_1 least_1, aI Y q_now_needs 12 now_needs, oX4 q_rows_powers (.ref q_rows_powers_ofPrime) (.ref q_rows_powers_cells), aI Y q_rows_powers_cells 216 powers_cells_1, aI Y q_rows_powers_ofPrime 18 powers_ofPrime_1, aI Y q_now_firsts 12 now_firsts, aI Y q_now_seconds 12 now_seconds, aI Y q_now_kinds 12 now_kinds, aI Y q_now_numbers 144 now_numbers, aI Y q_now_colours 12 now_colours])) [15, 16, 17, 18, 19, 20, 21, 22, 0, 1, 2, 3, 4, 5, 6, 7, 8, 9, 10, 11, 12, 13, 14] rfl rfl ?_
                refine g_i2l C dX10_smooth_92 ?_
                refine g_ladd C dX10_smooth_93 ?_
                refine g_topl (fun x5_2 ex5_2 => ?_)
                replace h := h x5_2 ex5_2
                refine g_lstore (lv' := [(5, .long x5_2), (0, .ref h0), (2, .int a2), (3, .int a3), (4, .ref (ra k_1)), (7, .int x7_1)]) C dX10_smooth_94 (by decide) rfl ?_
                refine g_iinc (v := x7_1 + 1) (lv' := [(7, .int (x7_1 + 1)), (5, .long x5_2), (0, .ref h0), (2, .int a2), (3, .int a3), (4, .ref (ra k_1))]) C dX10_smooth_96 5 rfl rfl (by decide) rfl ?_
                refine g_goto (tgt := 61) C dX10_smooth_99 (by decide) ?_
                refine gG.locals (lv' := [(0, .ref h0), (2, .int a2), (3, .int a3), (4, .ref (ra k_1)), (5, .long x5_2), (7, .int (x7_1 + 1))]) [2, 3, 4, 5, 1, 0] rfl ?_
                exact ih1 x5_2 (x7_1 + 1) (Nat.lt_of_lt_of_le h.2 (Nat.le_of_lt_succ hm1)) h.1
        refine gG.locals (lv' := [(0, .ref h0), (2, .int a2), (3, .int a3), (4, .ref (ra k_1)), (5, .long 0), (7, .int 1)]) [3, 5, 6, 2, 1, 0] rfl ?_
        exact key_1 (Mea_1 0 1 + 1) 0 1 (Nat.lt_succ_self _) hI1
      · replace h := h.2 c_3
        refine g_iconst (v := (-1)) C dX10_smooth_27 rfl ?_
        exact g_iret C hR (show 0 ≤ mc ∧ 0 ≤ ms from ⟨Nat.zero_le _, Nat.zero_le _⟩).1 (show 0 ≤ mc ∧ 0 ≤ ms from ⟨Nat.zero_le _, Nat.zero_le _⟩).2 dX10_smooth_28 ⟨(-1), rs, rf, rm, rl, ru, rn, rv, rows_turn, q_rows_sieve_least, n_rows_sieve_least, rows_sieve_least, rows_powers_cells, rows_powers_ofPrime, rfl, rfl, h⟩
theorem dX10_rough_0 : decode cX10_rough 0 = .ok (.aload_n 0, 1) := by decide +kernel
theorem dX10_rough_1 : decode cX10_rough 1 = .ok (.getfield 10, 3) := by decide +kernel
theorem dX10_rough_4 : decode cX10_rough 4 = .ok (.iload_n 1, 1) := by decide +kernel
theorem dX10_rough_5 : decode cX10_rough 5 = .ok (.invokevirtual 98, 3) := by decide +kernel
theorem dX10_rough_8 : decode cX10_rough 8 = .ok (.ifCond .eq 19, 3) := by decide +kernel
theorem dX10_rough_11 : decode cX10_rough 11 = .ok (.aload_n 0, 1) := by decide +kernel
theorem dX10_rough_12 : decode cX10_rough 12 = .ok (.iload_n 2, 1) := by decide +kernel
theorem dX10_rough_13 : decode cX10_rough 13 = .ok (.invokevirtual 179, 3) := by decide +kernel
theorem dX10_rough_16 : decode cX10_rough 16 = .ok (.ifCond .eq 11, 3) := by decide +kernel
theorem dX10_rough_19 : decode cX10_rough 19 = .ok (.aload_n 0, 1) := by decide +kernel
theorem dX10_rough_20 : decode cX10_rough 20 = .ok (.iload_n 3, 1) := by decide +kernel
theorem dX10_rough_21 : decode cX10_rough 21 = .ok (.invokevirtual 179, 3) := by decide +kernel
theorem dX10_rough_24 : decode cX10_rough 24 = .ok (.ifCond .ne 5, 3) := by decide +kernel
theorem dX10_rough_27 : decode cX10_rough 27 = .ok (.iconst (-1), 1) := by decide +kernel
theorem dX10_rough_28 : decode cX10_rough 28 = .ok (.ireturn, 1) := by decide +kernel
theorem dX10_rough_29 : decode cX10_rough 29 = .ok (.aload_n 0, 1) := by decide +kernel
theorem dX10_rough_30 : decode cX10_rough 30 = .ok (.getfield 40, 3) := by decide +kernel
theorem dX10_rough_33 : decode cX10_rough 33 = .ok (.aload_n 0, 1) := by decide +kernel
theorem dX10_rough_34 : decode cX10_rough 34 = .ok (.getfield 10, 3) := by decide +kernel
theorem dX10_rough_37 : decode cX10_rough 37 = .ok (.iload_n 1, 1) := by decide +kernel
theorem dX10_rough_38 : decode cX10_rough 38 = .ok (.iload_n 2, 1) := by decide +kernel
theorem dX10_rough_39 : decode cX10_rough 39 = .ok (.invokevirtual 182, 3) := by decide +kernel
theorem dX10_rough_42 : decode cX10_rough 42 = .ok (.astore 4, 2) := by decide +kernel
theorem dX10_rough_44 : decode cX10_rough 44 = .ok (.aload_n 0, 1) := by decide +kernel
theorem dX10_rough_45 : decode cX10_rough 45 = .ok (.getfield 40, 3) := by decide +kernel
theorem dX10_rough_48 : decode cX10_rough 48 = .ok (.getfield 194, 3) := by decide +kernel
theorem dX10_rough_51 : decode cX10_rough 51 = .ok (.iload_n 2, 1) := by decide +kernel
theorem dX10_rough_52 : decode cX10_rough 52 = .ok (.invokevirtual 198, 3) := by decide +kernel
theorem dX10_rough_55 : decode cX10_rough 55 = .ok (.iload_n 2, 1) := by decide +kernel
theorem dX10_rough_56 : decode cX10_rough 56 = .ok (.iconst 1, 1) := by decide +kernel
theorem dX10_rough_57 : decode cX10_rough 57 = .ok (.invokestatic 252, 3) := by decide +kernel
theorem dX10_rough_60 : decode cX10_rough 60 = .ok (.i2l, 1) := by decide +kernel
theorem dX10_rough_61 : decode cX10_rough 61 = .ok (.lstore 5, 2) := by decide +kernel
theorem dX10_rough_63 : decode cX10_rough 63 = .ok (.iconst 2, 1) := by decide +kernel
theorem dX10_rough_64 : decode cX10_rough 64 = .ok (.istore 7, 2) := by decide +kernel
theorem dX10_rough_66 : decode cX10_rough 66 = .ok (.iload 7, 2) := by decide +kernel
theorem dX10_rough_68 : decode cX10_rough 68 = .ok (.iload_n 2, 1) := by decide +kernel
theorem dX10_rough_69 : decode cX10_rough 69 = .ok (.if_icmp .gt 38, 3) := by decide +kernel
theorem dX10_rough_72 : decode cX10_rough 72 = .ok (.aload_n 0, 1) := by decide +kernel
theorem dX10_rough_73 : decode cX10_rough 73 = .ok (.getfield 40, 3) := by decide +kernel
theorem dX10_rough_76 : decode cX10_rough 76 = .ok (.getfield 194, 3) := by decide +kernel
theorem dX10_rough_79 : decode cX10_rough 79 = .ok (.iload 7, 2) := by decide +kernel
theorem dX10_rough_81 : decode cX10_rough 81 = .ok (.invokevirtual 203, 3) := by decide +kernel
theorem dX10_rough_84 : decode cX10_rough 84 = .ok (.iload_n 3, 1) := by decide +kernel
theorem dX10_rough_85 : decode cX10_rough 85 = .ok (.if_icmp .le 16, 3) := by decide +kernel
theorem dX10_rough_88 : decode cX10_rough 88 = .ok (.lload 5, 2) := by decide +kernel
theorem dX10_rough_90 : decode cX10_rough 90 = .ok (.aload 4, 2) := by decide +kernel
theorem dX10_rough_92 : decode cX10_rough 92 = .ok (.iload 7, 2) := by decide +kernel
theorem dX10_rough_94 : decode cX10_rough 94 = .ok (.invokevirtual 250, 3) := by decide +kernel
theorem dX10_rough_97 : decode cX10_rough 97 = .ok (.i2l, 1) := by decide +kernel
theorem dX10_rough_98 : decode cX10_rough 98 = .ok (.ladd, 1) := by decide +kernel
theorem dX10_rough_99 : decode cX10_rough 99 = .ok (.lstore 5, 2) := by decide +kernel
theorem dX10_rough_101 : decode cX10_rough 101 = .ok (.iinc 7 1, 3) := by decide +kernel
theorem dX10_rough_104 : decode cX10_rough 104 = .ok (.goto (-38), 3) := by decide +kernel
theorem dX10_rough_107 : decode cX10_rough 107 = .ok (.aload_n 0, 1) := by decide +kernel
theorem dX10_rough_108 : decode cX10_rough 108 = .ok (.getfield 10, 3) := by decide +kernel
theorem dX10_rough_111 : decode cX10_rough 111 = .ok (.lload 5, 2) := by decide +kernel
theorem dX10_rough_113 : decode cX10_rough 113 = .ok (.invokevirtual 209, 3) := by decide +kernel
theorem dX10_rough_116 : decode cX10_rough 116 = .ok (.ireturn, 1) := by decide +kernel
/-- QuotientSums.rough(III)I -/
def wX10_rough (mc ms : Nat) (now_bound : Int32) (now_modulus : Int32) (now_seed : Int32) (now_functions : Int32) (rf : Nat → Int32) (rm : Nat → Int32) (rl : Nat → Int32) (ru : Nat → Int32) (rn : Nat → Nat) (rv : Nat → Nat → Int32) (rows_turn : Int32) (n_rows_sieve_least : Nat) (rows_sieve_least : Nat → Int32) (now_needs : Nat → Int32) (rows_powers_cells : Nat → Int32) (rows_powers_ofPrime : Nat → Int32) (now_firsts : Nat → Int32) (now_seconds : Nat → Int32) (now_kinds : Nat → Int32) (now_numbers : Nat → Int32) (now_colours : Nat → Int32) (a1 : Int32) (a2 : Int32) (a3 : Int32) (Q : (Int32) → (Nat → Int32) → (Nat → Int32) → (Nat → Int32) → (Nat → Int32) → (Nat → Nat) → (Nat → Nat → Int32) → (Int32) → (Nat) → (Nat → Int32) → (Nat → Int32) → (Nat → Int32) → Prop) : Prop :=
  (∃ (P_1 : (Int32) → Prop), wX3_has now_bound now_modulus now_seed now_functions a1 P_1 ∧ ∀ (rF_1 : Int32), P_1 rF_1 → ((rF_1 = 0 → (Q (-1) rf rm rl ru rn rv rows_turn n_rows_sieve_least rows_sieve_least rows_powers_cells rows_powers_ofPrime)) ∧ (¬ rF_1 = 0 → (∃ (P_2 : (Int32) → Prop), wX10_isReach now_bound now_modulus now_seed now_functions a2 P_2 ∧ ∀ (rF_2 : Int32), P_2 rF_2 → ((rF_2 = 0 → (Q (-1) rf rm rl ru rn rv rows_turn n_rows_sieve_least rows_sieve_least rows_powers_cells rows_powers_ofPrime)) ∧ (¬ rF_2 = 0 → (∃ (P_3 : (Int32) → Prop), wX10_isReach now_bound now_modulus now_seed now_functions a3 P_3 ∧ ∀ (rF_3 : Int32), P_3 rF_3 → ((¬ rF_3 = 0 → (∃ (mcF_1 msF_1 : Nat) (P_4 : (Nat) → (Nat → Int32) → (Nat → Int32) → (Nat → Int32) → (Nat → Int32) → (Nat → Nat) → (Nat → Nat → Int32) → (Int32) → (Nat) → (Nat → Int32) → (Nat → Int32) → (Nat → Int32) → Prop), (0 + mcF_1 ≤ mc ∧ 0 + msF_1 ≤ ms) ∧ wX7_upTo mcF_1 msF_1 now_bound now_modulus now_seed now_functions rf rm rl ru rn rv rows_turn n_rows_sieve_least rows_sieve_least now_needs rows_powers_cells rows_powers_ofPrime now_firsts now_seconds now_kinds now_numbers now_colours a1 a2 P_4 ∧ ∀ (k_1 : Nat) (rf_1 : Nat → Int32) (rm_1 : Nat → Int32) (rl_1 : Nat → Int32) (ru_1 : Nat → Int32) (rn_1 : Nat → Nat) (rv_1 : Nat → Nat → Int32) (turn_1 : Int32) (n_sieve_least_1 : Nat) (sieve_least_1 : Nat → Int32) (powers_cells_1 : Nat → Int32) (powers_ofPrime_1 : Nat → Int32), P_4 k_1 rf_1 rm_1 rl_1 ru_1 rn_1 rv_1 turn_1 n_sieve_least_1 sieve_least_1 powers_cells_1 powers_ofPrime_1 → ∃ (mcF_2 msF_2 : Nat) (P_5 : (Nat) → (Nat → Int32) → Prop), (0 + mcF_1 + mcF_2 ≤ mc ∧ 0 + msF_1 + msF_2 ≤ ms) ∧ wX8_reach mcF_2 msF_2 n_sieve_least_1 sieve_least_1 a2 P_5 ∧ ∀ (n_least_1 : Nat) (least_1 : Nat → Int32), P_5 n_least_1 least_1 → ∀ m_1 : Int32, m_1 = (if (1 : Int32) < a2 then 1 else a2) → ∀ x5_1 : Int64, x5_1 = m_1.toInt64 → (∃ (Inv_1 : (Int64) → (Int32) → Prop) (Mea_1 : (Int64) → (Int32) → Nat), Inv_1 x5_1 2 ∧ ∀ (x5_2 : Int64) (x7_1 : Int32), Inv_1 x5_2 x7_1 → ((a2 < x7_1 → (∃ (P_6 : (Int32) → Prop), wX3_rest now_bound now_modulus now_seed now_functions x5_2 P_6 ∧ ∀ (rF_4 : Int32), P_6 rF_4 → (Q rF_4 rf_1 rm_1 rl_1 ru_1 rn_1 rv_1 turn_1 n_least_1 least_1 powers_cells_1 powers_ofPrime_1))) ∧ (¬ a2 < x7_1 → (∃ (P_7 : (Int32) → Prop), wX8_leastPrime n_least_1 least_1 x7_1 P_7 ∧ ∀ (rF_5 : Int32), P_7 rF_5 → ((rF_5 ≤ a3 → (Inv_1 x5_2 (x7_1 + 1) ∧ Mea_1 x5_2 (x7_1 + 1) < Mea_1 x5_2 x7_1)) ∧ (¬ rF_5 ≤ a3 → (∃ (P_8 : (Int32) → Prop), wX6_valueAt (rf_1 k_1) (rm_1 k_1) (rl_1 k_1) (ru_1 k_1) (rn_1 k_1) (rv_1 k_1) x7_1 P_8 ∧ ∀ (rF_6 : Int32), P_8 rF_6 → ∀ x5_3 : Int64, x5_3 = x5_2 + (rF_6.toInt64) → (Inv_1 x5_3 (x7_1 + 1) ∧ Mea_1 x5_3 (x7_1 + 1) < Mea_1 x5_2 x7_1)))))))))) ∧ (rF_3 = 0 → (Q (-1) rf rm rl ru rn rv rows_turn n_rows_sieve_least rows_sieve_least rows_powers_cells rows_powers_ofPrime))))))))))
set_option maxHeartbeats 4000000 in
set_option maxRecDepth 100000 in
theorem mX10_rough (l : Launch) (D : va_G) (Y : Nat → ClassId) (mc ms : Nat) (h0 : Nat) (ra : Nat → Nat) (q_now : Nat) (v_reader : Value) (v_changes : Value) (v_image : Value) (q_rows : Nat) (v_couples : Value) (now_bound : Int32) (now_modulus : Int32) (now_seed : Int32) (now_functions : Int32) (v_now_names : Value) (q_now_kinds : Nat) (q_now_firsts : Nat) (q_now_seconds : Nat) (v_now_degrees : Value) (q_now_colours : Nat) (q_now_needs : Nat) (q_now_numbers : Nat) (rs : Nat → Nat) (rf : Nat → Int32) (rm : Nat → Int32) (rl : Nat → Int32) (ru : Nat → Int32) (rn : Nat → Nat) (rv : Nat → Nat → Int32) (q_rows_sieve : Nat) (q_rows_powers : Nat) (q_rows_rows : Nat) (rows_turn : Int32) (q_rows_sieve_least : Nat) (n_rows_sieve_least : Nat) (rows_sieve_least : Nat → Int32) (now_needs : Nat → Int32) (q_rows_powers_ofPrime : Nat) (q_rows_powers_cells : Nat) (rows_powers_cells : Nat → Int32) (rows_powers_ofPrime : Nat → Int32) (now_firsts : Nat → Int32) (now_seconds : Nat → Int32) (now_kinds : Nat → Int32) (now_numbers : Nat → Int32) (now_colours : Nat → Int32) (a1 : Int32) (a2 : Int32) (a3 : Int32) (Q : (Int32) → (Nat → Int32) → (Nat → Int32) → (Nat → Int32) → (Nat → Int32) → (Nat → Nat) → (Nat → Nat → Int32) → (Int32) → (Nat) → (Nat → Int32) → (Nat → Int32) → (Nat → Int32) → Prop) (h : wX10_rough mc ms now_bound now_modulus now_seed now_functions rf rm rl ru rn rv rows_turn n_rows_sieve_least rows_sieve_least now_needs rows_powers_cells rows_powers_ofPrime now_firsts now_seconds now_kinds now_numbers now_colours a1 a2 a3 Q) : gM l D Y yX10_rough cX10_rough 8 (some .int) 6 151 mc ms [.ref h0, .int a1, .int a2, .int a3] (rowsW Y ra rs rf rm rl ru rn rv ++ [oX10 h0 (.ref q_now) (v_reader) (v_changes) (v_image) (.ref q_rows) (v_couples), oX3 q_now now_bound now_modulus now_seed now_functions (v_now_names) (.ref q_now_kinds) (.ref q_now_firsts) (.ref q_now_seconds) (v_now_degrees) (.ref q_now_colours) (.ref q_now_needs) (.ref q_now_numbers), oX7 q_rows (.ref q_rows_sieve) (.ref q_rows_powers) (.ref q_rows_rows) rows_turn, aR Y q_rows_rows 4 (fun j => some (ra j)), oX8 q_rows_sieve (.ref q_rows_sieve_least), aI Y q_rows_sieve_least n_rows_sieve_least rows_sieve_least, aI Y q_now_needs 12 now_needs, oX4 q_rows_powers (.ref q_rows_powers_ofPrime) (.ref q_rows_powers_cells), aI Y q_rows_powers_cells 216 rows_powers_cells, aI Y q_rows_powers_ofPrime 18 rows_powers_ofPrime, aI Y q_now_firsts 12 now_firsts, aI Y q_now_seconds 12 now_seconds, aI Y q_now_kinds 12 now_kinds, aI Y q_now_numbers 144 now_numbers, aI Y q_now_colours 12 now_colours]) (fun v w => ∃ r : Int32, ∃ rs' : Nat → Nat, ∃ rf' : Nat → Int32, ∃ rm' : Nat → Int32, ∃ rl' : Nat → Int32, ∃ ru' : Nat → Int32, ∃ rn' : Nat → Nat, ∃ rv' : Nat → Nat → Int32, ∃ rows_turn' : Int32, ∃ q_rows_sieve_least' : Nat, ∃ n_rows_sieve_least' : Nat, ∃ rows_sieve_least' : Nat → Int32, ∃ rows_powers_cells' : Nat → Int32, ∃ rows_powers_ofPrime' : Nat → Int32, v = some (.int r) ∧ w = (rowsW Y ra rs' rf' rm' rl' ru' rn' rv' ++ [oX10 h0 (.ref q_now) (v_reader) (v_changes) (v_image) (.ref q_rows) (v_couples), oX3 q_now now_bound now_modulus now_seed now_functions (v_now_names) (.ref q_now_kinds) (.ref q_now_firsts) (.ref q_now_seconds) (v_now_degrees) (.ref q_now_colours) (.ref q_now_needs) (.ref q_now_numbers), oX7 q_rows (.ref q_rows_sieve) (.ref q_rows_powers) (.ref q_rows_rows) rows_turn', aR Y q_rows_rows 4 (fun j => some (ra j)), oX8 q_rows_sieve (.ref q_rows_sieve_least'), aI Y q_rows_sieve_least' n_rows_sieve_least' rows_sieve_least', aI Y q_now_needs 12 now_needs, oX4 q_rows_powers (.ref q_rows_powers_ofPrime) (.ref q_rows_powers_cells), aI Y q_rows_powers_cells 216 rows_powers_cells', aI Y q_rows_powers_ofPrime 18 rows_powers_ofPrime', aI Y q_now_firsts 12 now_firsts, aI Y q_now_seconds 12 now_seconds, aI Y q_now_kinds 12 now_kinds, aI Y q_now_numbers 144 now_numbers, aI Y q_now_colours 12 now_colours]) ∧ Q r rf' rm' rl' ru' rn' rv' rows_turn' n_rows_sieve_least' rows_sieve_least' rows_powers_cells' rows_powers_ofPrime') := by
  refine gM_of (own := RX10) (by decide +kernel) rfl (Nat.le_of_ble_eq_true rfl) rfl (fun E C hR => ?_)
  unfold wX10_rough at h
  refine g_aload_n C dX10_rough_0 0 rfl ?_
  refine g_get C inX10 8 rfl rfl 0 (by decide) wF_X10_10 rfl dX10_rough_1 ?_
  refine g_iload_n C dX10_rough_4 1 rfl ?_
  obtain ⟨P_1, hP, h⟩ := h
  refine g_callV (As := [.int a1]) (rest := []) C (mX3_has l D Y q_now now_bound now_modulus now_seed now_functions v_now_names (.ref q_now_kinds) (.ref q_now_firsts) (.ref q_now_seconds) v_now_degrees (.ref q_now_colours) (.ref q_now_needs) (.ref q_now_numbers) a1 P_1 hP) dX10_rough_5 rfl wM_X10_98 wI_X3_has wV_X3_has wN_X3 wC_X3_has (n := 1) (by decide +kernel) rfl (q0 := 0) rfl rfl ⟨Nat.le_of_ble_eq_true rfl, Nat.le_of_ble_eq_true rfl⟩ ⟨Nat.zero_le _, Nat.zero_le _⟩ (Nat.le_of_ble_eq_true rfl) [9] [0, 1, 2, 3, 4, 5, 6, 7, 8, 10, 11, 12, 13, 14, 15, 16, 17, 18, 19, 20, 21, 22] rfl rfl rfl (fun v wc hv => ?_)
  obtain ⟨rF_1, rfl, rfl, hq⟩ := hv
  replace h := h rF_1 hq
  refine gG.perm (ws' := (rowsW Y ra rs rf rm rl ru rn rv ++ [oX10 h0 (.ref q_now) (v_reader) (v_changes) (v_image) (.ref q_rows) (v_couples), oX3 q_now now_bound now_modulus now_seed now_functions (v_now_names) (.ref q_now_kinds) (.ref q_now_firsts) (.ref q_now_seconds) (v_now_degrees) (.ref q_now_colours) (.ref q_now_needs) (.ref q_now_numbers), oX7 q_rows (.ref q_rows_sieve) (.ref q_rows_powers) (.ref q_rows_rows) rows_turn, aR Y q_rows_rows 4 (fun j => some (ra j)), oX8 q_rows_sieve (.ref q_rows_sieve_least), aI Y q_rows_sieve_least n_rows_sieve_least rows_sieve_least, aI Y q_now_needs 12 now_needs, oX4 q_rows_powers (.ref q_rows_powers_ofPrime) (.ref q_rows_powers_cells), aI Y q_rows_powers_cells 216 rows_powers_cells, aI Y q_rows_powers_ofPrime 18 rows_powers_ofPrime, aI Y q_now_firsts 12 now_firsts, aI Y q_now_seconds 12 now_seconds, aI Y q_now_kinds 12 now_kinds, aI Y q_now_numbers 144 now_numbers, aI Y q_now_colours 12 now_colours])) [0, 1, 2, 3, 4, 5, 6, 7, 8, 22, 9, 10, 11, 12, 13, 14, 15, 16, 17, 18, 19, 20, 21] rfl rfl ?_
  refine g_if_eq (tgt := 27) C dX10_rough_8 (by decide) (fun c_1 => ?_) (fun c_1 => ?_)
  · replace h := h.1 c_1
    refine g_iconst (v := (-1)) C dX10_rough_27 rfl ?_
    exact g_iret C hR (show 0 ≤ mc ∧ 0 ≤ ms from ⟨Nat.zero_le _, Nat.zero_le _⟩).1 (show 0 ≤ mc ∧ 0 ≤ ms from ⟨Nat.zero_le _, Nat.zero_le _⟩).2 dX10_rough_28 ⟨(-1), rs, rf, rm, rl, ru, rn, rv, rows_turn, q_rows_sieve_least, n_rows_sieve_least, rows_sieve_least, rows_powers_cells, rows_powers_ofPrime, rfl, rfl, h⟩
  · replace h := h.2 c_1
    refine g_aload_n C dX10_rough_11 0 rfl ?_
    refine g_iload_n C dX10_rough_12 2 rfl ?_
    obtain ⟨P_2, hP, h⟩ := h
    refine g_callV (As := [.int a2]) (rest := []) C (mX10_isReach l D Y h0 q_now v_reader v_changes v_image (.ref q_rows) v_couples now_bound now_modulus now_seed now_functions v_now_names (.ref q_now_kinds) (.ref q_now_firsts) (.ref q_now_seconds) v_now_degrees (.ref q_now_colours) (.ref q_now_needs) (.ref q_now_numbers) a2 P_2 hP) dX10_rough_13 rfl wM_X10_179 wI_X10_isReach wV_X10_isReach wN_X10 wC_X10_isReach (n := 1) (by decide +kernel) rfl (q0 := 0) rfl rfl ⟨Nat.le_of_ble_eq_true rfl, Nat.le_of_ble_eq_true rfl⟩ ⟨Nat.zero_le _, Nat.zero_le _⟩ (Nat.le_of_ble_eq_true rfl) [8, 9] [0, 1, 2, 3, 4, 5, 6, 7, 10, 11, 12, 13, 14, 15, 16, 17, 18, 19, 20, 21, 22] rfl rfl rfl (fun v wc hv => ?_)
    obtain ⟨rF_2, rfl, rfl, hq⟩ := hv
    replace h := h rF_2 hq
    refine gG.perm (ws' := (rowsW Y ra rs rf rm rl ru rn rv ++ [oX10 h0 (.ref q_now) (v_reader) (v_changes) (v_image) (.ref q_rows) (v_couples), oX3 q_now now_bound now_modulus now_seed now_functions (v_now_names) (.ref q_now_kinds) (.ref q_now_firsts) (.ref q_now_seconds) (v_now_degrees) (.ref q_now_colours) (.ref q_now_needs) (.ref q_now_numbers), oX7 q_rows (.ref q_rows_sieve) (.ref q_rows_powers) (.ref q_rows_rows) rows_turn, aR Y q_rows_rows 4 (fun j => some (ra j)), oX8 q_rows_sieve (.ref q_rows_sieve_least), aI Y q_rows_sieve_least n_rows_sieve_least rows_sieve_least, aI Y q_now_needs 12 now_needs, oX4 q_rows_powers (.ref q_rows_powers_ofPrime) (.ref q_rows_powers_cells), aI Y q_rows_powers_cells 216 rows_powers_cells, aI Y q_rows_powers_ofPrime 18 rows_powers_ofPrime, aI Y q_now_firsts 12 now_firsts, aI Y q_now_seconds 12 now_seconds, aI Y q_now_kinds 12 now_kinds, aI Y q_now_numbers 144 now_numbers, aI Y q_now_colours 12 now_colours])) [0, 1, 2, 3, 4, 5, 6, 7, 21, 22, 8, 9, 10, 11, 12, 13, 14, 15, 16, 17, 18, 19, 20] rfl rfl ?_
    refine g_if_eq (tgt := 27) C dX10_rough_16 (by decide) (fun c_2 => ?_) (fun c_2 => ?_)
    · replace h := h.1 c_2
      refine g_iconst (v := (-1)) C dX10_rough_27 rfl ?_
      exact g_iret C hR (show 0 ≤ mc ∧ 0 ≤ ms from ⟨Nat.zero_le _, Nat.zero_le _⟩).1 (show 0 ≤ mc ∧ 0 ≤ ms from ⟨Nat.zero_le _, Nat.zero_le _⟩).2 dX10_rough_28 ⟨(-1), rs, rf, rm, rl, ru, rn, rv, rows_turn, q_rows_sieve_least, n_rows_sieve_least, rows_sieve_least, rows_powers_cells, rows_powers_ofPrime, rfl, rfl, h⟩
    · replace h := h.2 c_2
      refine g_aload_n C dX10_rough_19 0 rfl ?_
      refine g_iload_n C dX10_rough_20 3 rfl ?_
      obtain ⟨P_3, hP, h⟩ := h
      refine g_callV (As := [.int a3]) (rest := []) C (mX10_isReach l D Y h0 q_now v_reader v_changes v_image (.ref q_rows) v_couples now_bound now_modulus now_seed now_functions v_now_names (.ref q_now_kinds) (.ref q_now_firsts) (.ref q_now_seconds) v_now_degrees (.ref q_now_colours) (.ref q_now_needs) (.ref q_now_numbers) a3 P_3 hP) dX10_rough_21 rfl wM_X10_179 wI_X10_isReach wV_X10_isReach wN_X10 wC_X10_isReach (n := 1) (by decide +kernel) rfl (q0 := 0) rfl rfl ⟨Nat.le_of_ble_eq_true rfl, Nat.le_of_ble_eq_true rfl⟩ ⟨Nat.zero_le _, Nat.zero_le _⟩ (Nat.le_of_ble_eq_true rfl) [8, 9] [0, 1, 2, 3, 4, 5, 6, 7, 10, 11, 12, 13, 14, 15, 16, 17, 18, 19, 20, 21, 22] rfl rfl rfl (fun v wc hv => ?_)
      obtain ⟨rF_3, rfl, rfl, hq⟩ := hv
      replace h := h rF_3 hq
      refine gG.perm (ws' := (rowsW Y ra rs rf rm rl ru rn rv ++ [oX10 h0 (.ref q_now) (v_reader) (v_changes) (v_image) (.ref q_rows) (v_couples), oX3 q_now now_bound now_modulus now_seed now_functions (v_now_names) (.ref q_now_kinds) (.ref q_now_firsts) (.ref q_now_seconds) (v_now_degrees) (.ref q_now_colours) (.ref q_now_needs) (.ref q_now_numbers), oX7 q_rows (.ref q_rows_sieve) (.ref q_rows_powers) (.ref q_rows_rows) rows_turn, aR Y q_rows_rows 4 (fun j => some (ra j)), oX8 q_rows_sieve (.ref q_rows_sieve_least), aI Y q_rows_sieve_least n_rows_sieve_least rows_sieve_least, aI Y q_now_needs 12 now_needs, oX4 q_rows_powers (.ref q_rows_powers_ofPrime) (.ref q_rows_powers_cells), aI Y q_rows_powers_cells 216 rows_powers_cells, aI Y q_rows_powers_ofPrime 18 rows_powers_ofPrime, aI Y q_now_firsts 12 now_firsts, aI Y q_now_seconds 12 now_seconds, aI Y q_now_kinds 12 now_kinds, aI Y q_now_numbers 144 now_numbers, aI Y q_now_colours 12 now_colours])) [0, 1, 2, 3, 4, 5, 6, 7, 21, 22, 8, 9, 10, 11, 12, 13, 14, 15, 16, 17, 18, 19, 20] rfl rfl ?_
      refine g_if_ne (tgt := 29) C dX10_rough_24 (by decide) (fun c_3 => ?_) (fun c_3 => ?_)
      · replace h := h.1 c_3
        refine g_aload_n C dX10_rough_29 0 rfl ?_
        refine g_get C inX10 8 rfl rfl 4 (by decide) wF_X10_40 rfl dX10_rough_30 ?_
        refine g_aload_n C dX10_rough_33 0 rfl ?_
        refine g_get C inX10 8 rfl rfl 0 (by decide) wF_X10_10 rfl dX10_rough_34 ?_
        refine g_iload_n C dX10_rough_37 1 rfl ?_
        refine g_iload_n C dX10_rough_38 2 rfl ?_
        obtain ⟨mcF_1, msF_1, P_4, hk_1, hP, h⟩ := h
        refine g_callV (As := [.ref q_now, .int a1, .int a2]) (rest := []) C (mX7_upTo l D Y mcF_1 msF_1 q_rows ra q_now now_bound now_modulus now_seed now_functions v_now_names q_now_kinds q_now_firsts q_now_seconds v_now_degrees q_now_colours q_now_needs q_now_numbers rs rf rm rl ru rn rv q_rows_sieve q_rows_powers q_rows_rows rows_turn q_rows_sieve_least n_rows_sieve_least rows_sieve_least now_needs q_rows_powers_ofPrime q_rows_powers_cells rows_powers_cells rows_powers_ofPrime now_firsts now_seconds now_kinds now_numbers now_colours a1 a2 P_4 hP) dX10_rough_39 rfl wM_X10_182 wI_X7_upTo wV_X7_upTo wN_X7 wC_X7_upTo (n := 3) (by decide +kernel) rfl (q0 := 9) rfl rfl ⟨Nat.le_of_ble_eq_true rfl, Nat.le_of_ble_eq_true rfl⟩ hk_1 (Nat.le_of_ble_eq_true rfl) [0, 1, 2, 3, 4, 5, 6, 7, 9, 10, 11, 12, 13, 14, 15, 16, 17, 18, 19, 20, 21, 22] [8] rfl rfl rfl (fun v wc hv => ?_)
        obtain ⟨k_1, rs_1, rf_1, rm_1, rl_1, ru_1, rn_1, rv_1, turn_1, q_sieve_least_1, n_sieve_least_1, sieve_least_1, powers_cells_1, powers_ofPrime_1, rfl, rfl, hkk_1, hq⟩ := hv
        replace h := h k_1 rf_1 rm_1 rl_1 ru_1 rn_1 rv_1 turn_1 n_sieve_least_1 sieve_least_1 powers_cells_1 powers_ofPrime_1 hq
        refine gG.perm (ws' := (rowsW Y ra rs_1 rf_1 rm_1 rl_1 ru_1 rn_1 rv_1 ++ [oX10 h0 (.ref q_now) (v_reader) (v_changes) (v_image) (.ref q_rows) (v_couples), oX3 q_now now_bound now_modulus now_seed now_functions (v_now_names) (.ref q_now_kinds) (.ref q_now_firsts) (.ref q_now_seconds) (v_now_degrees) (.ref q_now_colours) (.ref q_now_needs) (.ref q_now_numbers), oX7 q_rows (.ref q_rows_sieve) (.ref q_rows_powers) (.ref q_rows_rows) turn_1, aR Y q_rows_rows 4 (fun j => some (ra j)), oX8 q_rows_sieve (.ref q_sieve_least_1), aI Y q_sieve_least_1 n_sieve_least_1 sieve_least_1, aI Y q_now_needs 12 now_needs, oX4 q_rows_powers (.ref q_rows_powers_ofPrime) (.ref q_rows_powers_cells), aI Y q_rows_powers_cells 216 powers_cells_1, aI Y q_rows_powers_ofPrime 18 powers_ofPrime_1, aI Y q_now_firsts 12 now_firsts, aI Y q_now_seconds 12 now_seconds, aI Y q_now_kinds 12 now_kinds, aI Y q_now_numbers 144 now_numbers, aI Y q_now_colours 12 now_colours])) [1, 2, 3, 4, 5, 6, 7, 8, 0, 9, 10, 11, 12, 13, 14, 15, 16, 17, 18, 19, 20, 21, 22] rfl rfl ?_
        refine g_astore (lv' := [(4, .ref (ra k_1)), (0, .ref h0), (1, .int a1), (2, .int a2), (3, .int a3)]) C dX10_rough_42 (by decide) rfl ?_
        refine g_aload_n C dX10_rough_44 1 rfl ?_
        refine g_get C inX10 8 rfl rfl 4 (by decide) wF_X10_40 rfl dX10_rough_45 ?_
        refine g_get C inX7 10 rfl rfl 0 (by decide) wF_X10_194 rfl dX10_rough_48 ?_
        refine g_iload_n C dX10_rough_51 3 rfl ?_
        obtain ⟨mcF_2, msF_2, P_5, hk_2, hP, h⟩ := h
        refine g_callV (As := [.int a2]) (rest := []) C (mX8_reach l D Y mcF_2 msF_2 q_rows_sieve q_sieve_least_1 n_sieve_least_1 sieve_least_1 a2 P_5 hP) dX10_rough_52 rfl wM_X10_198 wI_X8_reach wV_X8_reach wN_X8 wC_X8_reach (n := 1) (by decide +kernel) rfl (q0 := 0) rfl rfl ⟨Nat.le_of_ble_eq_true rfl, Nat.le_of_ble_eq_true rfl⟩ hk_2 (Nat.le_of_ble_eq_true rfl) [12, 13] [0, 1, 2, 3, 4, 5, 6, 7, 8, 9, 10, 11, 14, 15, 16, 17, 18, 19, 20, 21, 22] rfl rfl rfl (fun v wc hv => ?_)
        obtain ⟨q_least_1, n_least_1, least_1, rfl, rfl, hq⟩ := hv
        replace h := h n_least_1 least_1 hq
        refine gG.perm (ws' := (rowsW Y ra rs_1 rf_1 rm_1 rl_1 ru_1 rn_1 rv_1 ++ [oX10 h0 (.ref q_now) (v_reader) (v_changes) (v_image) (.ref q_rows) (v_couples), oX3 q_now now_bound now_modulus now_seed now_functions (v_now_names) (.ref q_now_kinds) (.ref q_now_firsts) (.ref q_now_seconds) (v_now_degrees) (.ref q_now_colours) (.ref q_now_needs) (.ref q_now_numbers), oX7 q_rows (.ref q_rows_sieve) (.ref q_rows_powers) (.ref q_rows_rows) turn_1, aR Y q_rows_rows 4 (fun j => some (ra j)), oX8 q_rows_sieve (.ref q_least_1), aI Y q_least_1 n_least_1 least_1, aI Y q_now_needs 12 now_needs, oX4 q_rows_powers (.ref q_rows_powers_ofPrime) (.ref q_rows_powers_cells), aI Y q_rows_powers_cells 216 powers_cells_1, aI Y q_rows_powers_ofPrime 18 powers_ofPrime_1, aI Y q_now_firsts 12 now_firsts, aI Y q_now_seconds 12 now_seconds, aI Y q_now_kinds 12 now_kinds, aI Y q_now_numbers 144 now_numbers, aI Y q_now_colours 12 now_colours])) [0, 1, 2, 3, 4, 5, 6, 7, 8, 9, 10, 11, 21, 22, 12, 13, 14, 15, 16, 17, 18, 19, 20] rfl rfl ?_
        refine g_iload_n C dX10_rough_55 3 rfl ?_
        refine g_iconst (v := 1) C dX10_rough_56 rfl ?_
        refine g_mmin C wM_X10_252 dX10_rough_57 ⟨Nat.le_of_ble_eq_true rfl, Nat.le_of_ble_eq_true rfl⟩ hk_2 ?_
        refine g_topi (fun m_1 em_1 => ?_)
        replace h := h m_1 em_1
        refine g_i2l C dX10_rough_60 ?_
        refine g_topl (fun x5_1 ex5_1 => ?_)
        replace h := h x5_1 ex5_1
        refine g_lstore (lv' := [(5, .long x5_1), (4, .ref (ra k_1)), (0, .ref h0), (1, .int a1), (2, .int a2), (3, .int a3)]) C dX10_rough_61 (by decide) rfl ?_
        refine g_iconst (v := 2) C dX10_rough_63 rfl ?_
        refine g_istore (lv' := [(7, .int 2), (5, .long x5_1), (4, .ref (ra k_1)), (0, .ref h0), (1, .int a1), (2, .int a2), (3, .int a3)]) C dX10_rough_64 (by decide) rfl ?_
        obtain ⟨Inv_1, Mea_1, hI1, hB1⟩ := h
        have key_1 : ∀ (n : Nat) (x5_2 : Int64) (x7_1 : Int32) , Mea_1 x5_2 x7_1 < n → Inv_1 x5_2 x7_1 → gG E (0 + mcF_1 + mcF_2) (0 + msF_1 + msF_2) (rowsW Y ra rs_1 rf_1 rm_1 rl_1 ru_1 rn_1 rv_1 ++ [oX10 h0 (.ref q_now) (v_reader) (v_changes) (v_image) (.ref q_rows) (v_couples), oX3 q_now now_bound now_modulus now_seed now_functions (v_now_names) (.ref q_now_kinds) (.ref q_now_firsts) (.ref q_now_seconds) (v_now_degrees) (.ref q_now_colours) (.ref q_now_needs) (.ref q_now_numbers), oX7 q_rows (.ref q_rows_sieve) (.ref q_rows_powers) (.ref q_rows_rows) turn_1, aR Y q_rows_rows 4 (fun j => some (ra j)), oX8 q_rows_sieve (.ref q_least_1), aI Y q_least_1 n_least_1 least_1, aI Y q_now_needs 12 now_needs, oX4 q_rows_powers (.ref q_rows_powers_ofPrime) (.ref q_rows_powers_cells), aI Y q_rows_powers_cells 216 powers_cells_1, aI Y q_rows_powers_ofPrime 18 powers_ofPrime_1, aI Y q_now_firsts 12 now_firsts, aI Y q_now_seconds 12 now_seconds, aI Y q_now_kinds 12 now_kinds, aI Y q_now_numbers 144 now_numbers, aI Y q_now_colours 12 now_colours]) [(0, .ref h0), (2, .int a2), (3, .int a3), (4, .ref (ra k_1)), (5, .long x5_2), (7, .int x7_1)] [] 66 := by
          intro n
          induction n with
          | zero => exact fun _ _ hm => absurd hm (Nat.not_lt_zero _)
          | succ n ih1 =>
            intro x5_2 x7_1  hm1 hI
            have h := hB1 x5_2 x7_1 hI
            refine g_iload C dX10_rough_66 5 rfl ?_
            refine g_iload_n C dX10_rough_68 1 rfl ?_
            refine g_icmp_gt (tgt := 107) C dX10_rough_69 (by decide) (fun c_4 => ?_) (fun c_4 => ?_)
            · replace h := h.1 c_4
              refine g_aload_n C dX10_rough_107 0 rfl ?_
              refine g_get C inX10 8 rfl rfl 0 (by decide) wF_X10_10 rfl dX10_rough_108 ?_
              refine g_lload C dX10_rough_111 4 rfl ?_
              obtain ⟨P_6, hP, h⟩ := h
              refine g_callV (As := [.long x5_2]) (rest := []) C (mX3_rest l D Y q_now now_bound now_modulus now_seed now_functions v_now_names (.ref q_now_kinds) (.ref q_now_firsts) (.ref q_now_seconds) v_now_degrees (.ref q_now_colours) (.ref q_now_needs) (.ref q_now_numbers) x5_2 P_6 hP) dX10_rough_113 rfl wM_X10_209 wI_X3_rest wV_X3_rest wN_X3 wC_X3_rest (n := 1) (by decide +kernel) rfl (q0 := 0) rfl rfl ⟨Nat.le_of_ble_eq_true rfl, Nat.le_of_ble_eq_true rfl⟩ hk_2 (Nat.le_of_ble_eq_true rfl) [9] [0, 1, 2, 3, 4, 5, 6, 7, 8, 10, 11, 12, 13, 14, 15, 16, 17, 18, 19, 20, 21, 22] rfl rfl rfl (fun v wc hv => ?_)
              obtain ⟨rF_4, rfl, rfl, hq⟩ := hv
              replace h := h rF_4 hq
              refine gG.perm (ws' := (rowsW Y ra rs_1 rf_1 rm_1 rl_1 ru_1 rn_1 rv_1 ++ [oX10 h0 (.ref q_now) (v_reader) (v_changes) (v_image) (.ref q_rows) (v_couples), oX3 q_now now_bound now_modulus now_seed now_functions (v_now_names) (.ref q_now_kinds) (.ref q_now_firsts) (.ref q_now_seconds) (v_now_degrees) (.ref q_now_colours) (.ref q_now_needs) (.ref q_now_numbers), oX7 q_rows (.ref q_rows_sieve) (.ref q_rows_powers) (.ref q_rows_rows) turn_1, aR Y q_rows_rows 4 (fun j => some (ra j)), oX8 q_rows_sieve (.ref q_least_1), aI Y q_least_1 n_least_1 least_1, aI Y q_now_needs 12 now_needs, oX4 q_rows_powers (.ref q_rows_powers_ofPrime) (.ref q_rows_powers_cells), aI Y q_rows_powers_cells 216 powers_cells_1, aI Y q_rows_powers_ofPrime 18 powers_ofPrime_1, aI Y q_now_firsts 12 now_firsts, aI Y q_now_seconds 12 now_seconds, aI Y q_now_kinds 12 now_kinds, aI Y q_now_numbers 144 now_numbers, aI Y q_now_colours 12 now_colours])) [0, 1, 2, 3, 4, 5, 6, 7, 8, 22, 9, 10, 11, 12, 13, 14, 15, 16, 17, 18, 19, 20, 21] rfl rfl ?_
              exact g_iret C hR (show 0 + mcF_1 + mcF_2 ≤ mc ∧ 0 + msF_1 + msF_2 ≤ ms from hk_2).1 (show 0 + mcF_1 + mcF_2 ≤ mc ∧ 0 + msF_1 + msF_2 ≤ ms from hk_2).2 dX10_rough_116 ⟨rF_4, rs_1, rf_1, rm_1, rl_1, ru_1, rn_1, rv_1, turn_1, q_least_1, n_least_1, least_1, powers_cells_1, powers_ofPrime_1, rfl, rfl, h⟩
            · replace h := h.2 c_4
              refine g_aload_n C dX10_rough_72 0 rfl ?_
              refine g_get C inX10 8 rfl rfl 4 (by decide) wF_X10_40 rfl dX10_rough_73 ?_
              refine g_get C inX7 10 rfl rfl 0 (by decide) wF_X10_194 rfl dX10_rough_76 ?_
              refine g_iload C dX10_rough_79 5 rfl ?_
              obtain ⟨P_7, hP, h⟩ := h
              refine g_callV (As := [.int x7_1]) (rest := []) C (mX8_leastPrime l D Y q_rows_sieve q_least_1 n_least_1 least_1 x7_1 P_7 hP) dX10_rough_81 rfl wM_X10_203 wI_X8_leastPrime wV_X8_leastPrime wN_X8 wC_X8_leastPrime (n := 1) (by decide +kernel) rfl (q0 := 0) rfl rfl ⟨Nat.le_of_ble_eq_true rfl, Nat.le_of_ble_eq_true rfl⟩ hk_2 (Nat.le_of_ble_eq_true rfl) [12, 13] [0, 1, 2, 3, 4, 5, 6, 7, 8, 9, 10, 11, 14, 15, 16, 17, 18, 19, 20, 21, 22] rfl rfl rfl (fun v wc hv => ?_)
              obtain ⟨rF_5, rfl, rfl, hq⟩ := hv
              replace h := h rF_5 hq
              refine gG.perm (ws' := (rowsW Y ra rs_1 rf_1 rm_1 rl_1 ru_1 rn_1 rv_1 ++ [oX10 h0 (.ref q_now) (v_reader) (v_changes) (v_image) (.ref q_rows) (v_couples), oX3 q_now now_bound now_modulus now_seed now_functions (v_now_names) (.ref q_now_kinds) (.ref q_now_firsts) (.ref q_now_seconds) (v_now_degrees) (.ref q_now_colours) (.ref q_now_needs) (.ref q_now_numbers), oX7 q_rows (.ref q_rows_sieve) (.ref q_rows_powers) (.ref q_rows_rows) turn_1, aR Y q_rows_rows 4 (fun j => some (ra j)), oX8 q_rows_sieve (.ref q_least_1), aI Y q_least_1 n_least_1 least_1, aI Y q_now_needs 12 now_needs, oX4 q_rows_powers (.ref q_rows_powers_ofPrime) (.ref q_rows_powers_cells), aI Y q_rows_powers_cells 216 powers_cells_1, aI Y q_rows_powers_ofPrime 18 powers_ofPrime_1, aI Y q_now_firsts 12 now_firsts, aI Y q_now_seconds 12 now_seconds, aI Y q_now_kinds 12 now_kinds, aI Y q_now_numbers 144 now_numbers, aI Y q_now_colours 12 now_colours])) [0, 1, 2, 3, 4, 5, 6, 7, 8, 9, 10, 11, 21, 22, 12, 13, 14, 15, 16, 17, 18, 19, 20] rfl rfl ?_
              refine g_iload_n C dX10_rough_84 2 rfl ?_
              refine g_icmp_le (tgt := 101) C dX10_rough_85 (by decide) (fun c_5 => ?_) (fun c_5 => ?_)
              · replace h := h.1 c_5
                refine g_iinc (v := x7_1 + 1) (lv' := [(7, .int (x7_1 + 1)), (0, .ref h0), (2, .int a2), (3, .int a3), (4, .ref (ra k_1)), (5, .long x5_2)]) C dX10_rough_101 5 rfl rfl (by decide) rfl ?_
                refine g_goto (tgt := 66) C dX10_rough_104 (by decide) ?_
                refine gG.locals (lv' := [(0, .ref h0), (2, .int a2), (3, .int a3), (4, .ref (ra k_1)), (5, .long x5_2), (7, .int (x7_1 + 1))]) [1, 2, 3, 4, 5, 0] rfl ?_
                exact ih1 x5_2 (x7_1 + 1) (Nat.lt_of_lt_of_le h.2 (Nat.le_of_lt_succ hm1)) h.1
              · replace h := h.2 c_5
                refine g_lload C dX10_rough_88 4 rfl ?_
                refine g_aload C dX10_rough_90 3 rfl ?_
                refine g_iload C dX10_rough_92 5 rfl ?_
                obtain ⟨P_8, hP, h⟩ := h
                refine g_callV (As := [.int x7_1]) (rest := [.long x5_2]) C (mX6_valueAt_at l D Y ra k_1 (hkk_1) rs_1 rf_1 rm_1 rl_1 ru_1 rn_1 rv_1 x7_1 P_8 hP) dX10_rough_94 rfl wM_X10_250 wI_X6_valueAt wV_X6_valueAt wN_X6 wC_X6_valueAt (n := 1) (by decide +kernel) rfl (q0 := (2 * k_1)) (rowsW_obj0 _ _ _ _ _ _ _ _ _ (hkk_1)) rfl ⟨Nat.le_of_ble_eq_true rfl, Nat.le_of_ble_eq_true rfl⟩ hk_2 (Nat.le_of_ble_eq_true rfl) [0, 1, 2, 3, 4, 5, 6, 7] [8, 9, 10, 11, 12, 13, 14, 15, 16, 17, 18, 19, 20, 21, 22] rfl rfl rfl (fun v wc hv => ?_)
                obtain ⟨rF_6, rfl, rfl, hq⟩ := hv
                replace h := h rF_6 hq
                refine gG.perm (ws' := (rowsW Y ra rs_1 rf_1 rm_1 rl_1 ru_1 rn_1 rv_1 ++ [oX10 h0 (.ref q_now) (v_reader) (v_changes) (v_image) (.ref q_rows) (v_couples), oX3 q_now now_bound now_modulus now_seed now_functions (v_now_names) (.ref q_now_kinds) (.ref q_now_firsts) (.ref q_now_seconds) (v_now_degrees) (.ref q_now_colours) (.ref q_now_needs) (.ref q_now_numbers), oX7 q_rows (.ref q_rows_sieve) (.ref q_rows_powers) (.ref q_rows_rows) turn_1, aR Y q_rows_rows 4 (fun j => some (ra j)), oX8 q_rows_sieve (.ref q_least_1), aI Y q_least_1 n_least_1 least_1, aI Y q_now_needs 12 now_needs, oX4 q_rows_powers (.ref q_rows_powers_ofPrime) (.ref q_rows_powers_cells), aI Y q_rows_powers_cells 216 powers_cells_1, aI Y q_rows_powers_ofPrime 18 powers_ofPrime_1, aI Y q_now_firsts 12 now_firsts, aI Y q_now_seconds 12 now_seconds, aI Y q_now_kinds 12 now_kinds, aI Y q_now_numbers 144 now_numbers, aI Y q_now_colours 12 now_colours])) [15, 16, 17, 18, 19, 20, 21, 22, 0, 1, 2, 3, 4, 5, 6, 7, 8, 9, 10, 11, 12, 13, 14] rfl rfl ?_
                refine g_i2l C dX10_rough_97 ?_
                refine g_ladd C dX10_rough_98 ?_
                refine g_topl (fun x5_3 ex5_3 => ?_)
                replace h := h x5_3 ex5_3
                refine g_lstore (lv' := [(5, .long x5_3), (0, .ref h0), (2, .int a2), (3, .int a3), (4, .ref (ra k_1)), (7, .int x7_1)]) C dX10_rough_99 (by decide) rfl ?_
                refine g_iinc (v := x7_1 + 1) (lv' := [(7, .int (x7_1 + 1)), (5, .long x5_3), (0, .ref h0), (2, .int a2), (3, .int a3), (4, .ref (ra k_1))]) C dX10_rough_101 5 rfl rfl (by decide) rfl ?_
                refine g_goto (tgt := 66) C dX10_rough_104 (by decide) ?_
                refine gG.locals (lv' := [(0, .ref h0), (2, .int a2), (3, .int a3), (4, .ref (ra k_1)), (5, .long x5_3), (7, .int (x7_1 + 1))]) [2, 3, 4, 5, 1, 0] rfl ?_
                exact ih1 x5_3 (x7_1 + 1) (Nat.lt_of_lt_of_le h.2 (Nat.le_of_lt_succ hm1)) h.1
        refine gG.locals (lv' := [(0, .ref h0), (2, .int a2), (3, .int a3), (4, .ref (ra k_1)), (5, .long x5_1), (7, .int 2)]) [3, 5, 6, 2, 1, 0] rfl ?_
        exact key_1 (Mea_1 x5_1 2 + 1) x5_1 2 (Nat.lt_succ_self _) hI1
      · replace h := h.2 c_3
        refine g_iconst (v := (-1)) C dX10_rough_27 rfl ?_
        exact g_iret C hR (show 0 ≤ mc ∧ 0 ≤ ms from ⟨Nat.zero_le _, Nat.zero_le _⟩).1 (show 0 ≤ mc ∧ 0 ≤ ms from ⟨Nat.zero_le _, Nat.zero_le _⟩).2 dX10_rough_28 ⟨(-1), rs, rf, rm, rl, ru, rn, rv, rows_turn, q_rows_sieve_least, n_rows_sieve_least, rows_sieve_least, rows_powers_cells, rows_powers_ofPrime, rfl, rfl, h⟩
theorem dX10_isRest_0 : decode cX10_isRest 0 = .ok (.iload_n 1, 1) := by decide +kernel
theorem dX10_isRest_1 : decode cX10_isRest 1 = .ok (.ifCond .lt 18, 3) := by decide +kernel
theorem dX10_isRest_4 : decode cX10_isRest 4 = .ok (.iload_n 1, 1) := by decide +kernel
theorem dX10_isRest_5 : decode cX10_isRest 5 = .ok (.aload_n 0, 1) := by decide +kernel
theorem dX10_isRest_6 : decode cX10_isRest 6 = .ok (.getfield 10, 3) := by decide +kernel
theorem dX10_isRest_9 : decode cX10_isRest 9 = .ok (.getfield 151, 3) := by decide +kernel
theorem dX10_isRest_12 : decode cX10_isRest 12 = .ok (.if_icmp .ge 7, 3) := by decide +kernel
theorem dX10_isRest_15 : decode cX10_isRest 15 = .ok (.iconst 1, 1) := by decide +kernel
theorem dX10_isRest_16 : decode cX10_isRest 16 = .ok (.goto 4, 3) := by decide +kernel
theorem dX10_isRest_19 : decode cX10_isRest 19 = .ok (.iconst 0, 1) := by decide +kernel
theorem dX10_isRest_20 : decode cX10_isRest 20 = .ok (.ireturn, 1) := by decide +kernel
/-- QuotientSums.isRest(I)Z -/
def wX10_isRest (now_bound : Int32) (now_modulus : Int32) (now_seed : Int32) (now_functions : Int32) (a1 : Int32) (Q : (Int32) → Prop) : Prop :=
  ((a1 < 0 → (Q 0)) ∧ (¬ a1 < 0 → ((now_modulus ≤ a1 → (Q 0)) ∧ (¬ now_modulus ≤ a1 → (Q 1)))))
set_option maxHeartbeats 4000000 in
set_option maxRecDepth 100000 in
theorem mX10_isRest (l : Launch) (D : va_G) (Y : Nat → ClassId) (h0 : Nat) (q_now : Nat) (v_reader : Value) (v_changes : Value) (v_image : Value) (v_rows : Value) (v_couples : Value) (now_bound : Int32) (now_modulus : Int32) (now_seed : Int32) (now_functions : Int32) (v_now_names : Value) (v_now_kinds : Value) (v_now_firsts : Value) (v_now_seconds : Value) (v_now_degrees : Value) (v_now_colours : Value) (v_now_needs : Value) (v_now_numbers : Value) (a1 : Int32) (Q : (Int32) → Prop) (h : wX10_isRest now_bound now_modulus now_seed now_functions a1 Q) : gM l D Y yX10_isRest cX10_isRest 2 (some .boolean) 0 0 0 0 [.ref h0, .int a1] [oX10 h0 (.ref q_now) (v_reader) (v_changes) (v_image) (v_rows) (v_couples), oX3 q_now now_bound now_modulus now_seed now_functions (v_now_names) (v_now_kinds) (v_now_firsts) (v_now_seconds) (v_now_degrees) (v_now_colours) (v_now_needs) (v_now_numbers)] (fun v w => ∃ r : Int32, v = some (.int r) ∧ w = [oX10 h0 (.ref q_now) (v_reader) (v_changes) (v_image) (v_rows) (v_couples), oX3 q_now now_bound now_modulus now_seed now_functions (v_now_names) (v_now_kinds) (v_now_firsts) (v_now_seconds) (v_now_degrees) (v_now_colours) (v_now_needs) (v_now_numbers)] ∧ Q r) := by
  refine gM_of (own := RX10) (by decide +kernel) rfl (Nat.le_of_ble_eq_true rfl) rfl (fun E C hR => ?_)
  unfold wX10_isRest at h
  refine g_iload_n C dX10_isRest_0 1 rfl ?_
  refine g_if_lt (tgt := 19) C dX10_isRest_1 (by decide) (fun c_1 => ?_) (fun c_1 => ?_)
  · replace h := h.1 c_1
    refine g_iconst (v := 0) C dX10_isRest_19 rfl ?_
    exact g_zret C hR (by decide) (Nat.le_of_ble_eq_true rfl) (Nat.le_of_ble_eq_true rfl) dX10_isRest_20 ⟨0, rfl, rfl, h⟩
  · replace h := h.2 c_1
    refine g_iload_n C dX10_isRest_4 1 rfl ?_
    refine g_aload_n C dX10_isRest_5 0 rfl ?_
    refine g_get C inX10 0 rfl rfl 0 (by decide) wF_X10_10 rfl dX10_isRest_6 ?_
    refine g_get C inX3 1 rfl rfl 1 (by decide) wF_X10_151 rfl dX10_isRest_9 ?_
    refine g_icmp_ge (tgt := 19) C dX10_isRest_12 (by decide) (fun c_2 => ?_) (fun c_2 => ?_)
    · replace h := h.1 c_2
      refine g_iconst (v := 0) C dX10_isRest_19 rfl ?_
      exact g_zret C hR (by decide) (Nat.le_of_ble_eq_true rfl) (Nat.le_of_ble_eq_true rfl) dX10_isRest_20 ⟨0, rfl, rfl, h⟩
    · replace h := h.2 c_2
      refine g_iconst (v := 1) C dX10_isRest_15 rfl ?_
      refine g_goto (tgt := 20) C dX10_isRest_16 (by decide) ?_
      exact g_zret C hR (by decide) (Nat.le_of_ble_eq_true rfl) (Nat.le_of_ble_eq_true rfl) dX10_isRest_20 ⟨1, rfl, rfl, h⟩
theorem dX10_first_0 : decode cX10_first 0 = .ok (.aload_n 0, 1) := by decide +kernel
theorem dX10_first_1 : decode cX10_first 1 = .ok (.getfield 10, 3) := by decide +kernel
theorem dX10_first_4 : decode cX10_first 4 = .ok (.iload_n 1, 1) := by decide +kernel
theorem dX10_first_5 : decode cX10_first 5 = .ok (.invokevirtual 98, 3) := by decide +kernel
theorem dX10_first_8 : decode cX10_first 8 = .ok (.ifCond .eq 11, 3) := by decide +kernel
theorem dX10_first_11 : decode cX10_first 11 = .ok (.aload_n 0, 1) := by decide +kernel
theorem dX10_first_12 : decode cX10_first 12 = .ok (.iload_n 2, 1) := by decide +kernel
theorem dX10_first_13 : decode cX10_first 13 = .ok (.invokevirtual 255, 3) := by decide +kernel
theorem dX10_first_16 : decode cX10_first 16 = .ok (.ifCond .ne 5, 3) := by decide +kernel
theorem dX10_first_19 : decode cX10_first 19 = .ok (.iconst (-1), 1) := by decide +kernel
theorem dX10_first_20 : decode cX10_first 20 = .ok (.ireturn, 1) := by decide +kernel
theorem dX10_first_21 : decode cX10_first 21 = .ok (.iconst 0, 1) := by decide +kernel
theorem dX10_first_22 : decode cX10_first 22 = .ok (.istore_n 3, 1) := by decide +kernel
theorem dX10_first_23 : decode cX10_first 23 = .ok (.sipush 1024, 3) := by decide +kernel
theorem dX10_first_26 : decode cX10_first 26 = .ok (.istore 4, 2) := by decide +kernel
theorem dX10_first_28 : decode cX10_first 28 = .ok (.iload_n 3, 1) := by decide +kernel
theorem dX10_first_29 : decode cX10_first 29 = .ok (.aload_n 0, 1) := by decide +kernel
theorem dX10_first_30 : decode cX10_first 30 = .ok (.getfield 10, 3) := by decide +kernel
theorem dX10_first_33 : decode cX10_first 33 = .ok (.getfield 143, 3) := by decide +kernel
theorem dX10_first_36 : decode cX10_first 36 = .ok (.if_icmp .ge 69, 3) := by decide +kernel
theorem dX10_first_39 : decode cX10_first 39 = .ok (.iload 4, 2) := by decide +kernel
theorem dX10_first_41 : decode cX10_first 41 = .ok (.ldc_w 258, 3) := by decide +kernel
theorem dX10_first_44 : decode cX10_first 44 = .ok (.if_icmp .gt 61, 3) := by decide +kernel
theorem dX10_first_47 : decode cX10_first 47 = .ok (.iload_n 3, 1) := by decide +kernel
theorem dX10_first_48 : decode cX10_first 48 = .ok (.iconst 1, 1) := by decide +kernel
theorem dX10_first_49 : decode cX10_first 49 = .ok (.iadd, 1) := by decide +kernel
theorem dX10_first_50 : decode cX10_first 50 = .ok (.istore 5, 2) := by decide +kernel
theorem dX10_first_52 : decode cX10_first 52 = .ok (.aload_n 0, 1) := by decide +kernel
theorem dX10_first_53 : decode cX10_first 53 = .ok (.getfield 10, 3) := by decide +kernel
theorem dX10_first_56 : decode cX10_first 56 = .ok (.getfield 143, 3) := by decide +kernel
theorem dX10_first_59 : decode cX10_first 59 = .ok (.iload 4, 2) := by decide +kernel
theorem dX10_first_61 : decode cX10_first 61 = .ok (.invokestatic 252, 3) := by decide +kernel
theorem dX10_first_64 : decode cX10_first 64 = .ok (.istore_n 3, 1) := by decide +kernel
theorem dX10_first_65 : decode cX10_first 65 = .ok (.aload_n 0, 1) := by decide +kernel
theorem dX10_first_66 : decode cX10_first 66 = .ok (.getfield 40, 3) := by decide +kernel
theorem dX10_first_69 : decode cX10_first 69 = .ok (.aload_n 0, 1) := by decide +kernel
theorem dX10_first_70 : decode cX10_first 70 = .ok (.getfield 10, 3) := by decide +kernel
theorem dX10_first_73 : decode cX10_first 73 = .ok (.iload_n 1, 1) := by decide +kernel
theorem dX10_first_74 : decode cX10_first 74 = .ok (.iload_n 3, 1) := by decide +kernel
theorem dX10_first_75 : decode cX10_first 75 = .ok (.invokevirtual 182, 3) := by decide +kernel
theorem dX10_first_78 : decode cX10_first 78 = .ok (.iload_n 2, 1) := by decide +kernel
theorem dX10_first_79 : decode cX10_first 79 = .ok (.iload 5, 2) := by decide +kernel
theorem dX10_first_81 : decode cX10_first 81 = .ok (.iload_n 3, 1) := by decide +kernel
theorem dX10_first_82 : decode cX10_first 82 = .ok (.invokevirtual 259, 3) := by decide +kernel
theorem dX10_first_85 : decode cX10_first 85 = .ok (.istore 6, 2) := by decide +kernel
theorem dX10_first_87 : decode cX10_first 87 = .ok (.iload 6, 2) := by decide +kernel
theorem dX10_first_89 : decode cX10_first 89 = .ok (.iconst (-1), 1) := by decide +kernel
theorem dX10_first_90 : decode cX10_first 90 = .ok (.if_icmp .eq 6, 3) := by decide +kernel
theorem dX10_first_93 : decode cX10_first 93 = .ok (.iload 6, 2) := by decide +kernel
theorem dX10_first_95 : decode cX10_first 95 = .ok (.ireturn, 1) := by decide +kernel
theorem dX10_first_96 : decode cX10_first 96 = .ok (.iload 4, 2) := by decide +kernel
theorem dX10_first_98 : decode cX10_first 98 = .ok (.iconst 2, 1) := by decide +kernel
theorem dX10_first_99 : decode cX10_first 99 = .ok (.imul, 1) := by decide +kernel
theorem dX10_first_100 : decode cX10_first 100 = .ok (.istore 4, 2) := by decide +kernel
theorem dX10_first_102 : decode cX10_first 102 = .ok (.goto (-74), 3) := by decide +kernel
theorem dX10_first_105 : decode cX10_first 105 = .ok (.bipush (-2), 2) := by decide +kernel
theorem dX10_first_107 : decode cX10_first 107 = .ok (.ireturn, 1) := by decide +kernel
/-- QuotientSums.first(II)I -/
def wX10_first (mc ms : Nat) (now_bound : Int32) (now_modulus : Int32) (now_seed : Int32) (now_functions : Int32) (rf : Nat → Int32) (rm : Nat → Int32) (rl : Nat → Int32) (ru : Nat → Int32) (rn : Nat → Nat) (rv : Nat → Nat → Int32) (rows_turn : Int32) (n_rows_sieve_least : Nat) (rows_sieve_least : Nat → Int32) (now_needs : Nat → Int32) (rows_powers_cells : Nat → Int32) (rows_powers_ofPrime : Nat → Int32) (now_firsts : Nat → Int32) (now_seconds : Nat → Int32) (now_kinds : Nat → Int32) (now_numbers : Nat → Int32) (now_colours : Nat → Int32) (a1 : Int32) (a2 : Int32) (Q : (Int32) → (Nat → Int32) → (Nat → Int32) → (Nat → Int32) → (Nat → Int32) → (Nat → Nat) → (Nat → Nat → Int32) → (Int32) → (Nat) → (Nat → Int32) → (Nat → Int32) → (Nat → Int32) → Prop) : Prop :=
  (∃ (P_1 : (Int32) → Prop), wX3_has now_bound now_modulus now_seed now_functions a1 P_1 ∧ ∀ (rF_1 : Int32), P_1 rF_1 → ((rF_1 = 0 → (Q (-1) rf rm rl ru rn rv rows_turn n_rows_sieve_least rows_sieve_least rows_powers_cells rows_powers_ofPrime)) ∧ (¬ rF_1 = 0 → (∃ (P_2 : (Int32) → Prop), wX10_isRest now_bound now_modulus now_seed now_functions a2 P_2 ∧ ∀ (rF_2 : Int32), P_2 rF_2 → ((¬ rF_2 = 0 → (∃ (Inv_1 : (Nat → Int32) → (Nat → Int32) → (Nat → Int32) → (Nat) → (Int32) → (Int32) → (Int32) → (Nat) → (Nat → Int32) → (Nat → Int32) → (Nat → Int32) → (Nat → Nat) → (Nat → Int32) → (Nat → Nat → Int32) → (Nat) → Prop) (Mea_1 : (Nat → Int32) → (Nat → Int32) → (Nat → Int32) → (Nat) → (Int32) → (Int32) → (Int32) → (Nat) → (Nat → Int32) → (Nat → Int32) → (Nat → Int32) → (Nat → Nat) → (Nat → Int32) → (Nat → Nat → Int32) → (Nat) → Nat), Inv_1 rows_powers_cells rows_powers_ofPrime rows_sieve_least 0 rows_turn 0 1024 n_rows_sieve_least rf rl rm rn ru rv 0 ∧ ∀ (rows_powers_cells_1 : Nat → Int32) (rows_powers_ofPrime_1 : Nat → Int32) (rows_sieve_least_1 : Nat → Int32) (kc_1 : Nat) (turn_1 : Int32) (x3_1 : Int32) (x4_1 : Int32) (nF_1 : Nat) (rf_1 : Nat → Int32) (rl_1 : Nat → Int32) (rm_1 : Nat → Int32) (rn_1 : Nat → Nat) (ru_1 : Nat → Int32) (rv_1 : Nat → Nat → Int32) (ks_1 : Nat), Inv_1 rows_powers_cells_1 rows_powers_ofPrime_1 rows_sieve_least_1 kc_1 turn_1 x3_1 x4_1 nF_1 rf_1 rl_1 rm_1 rn_1 ru_1 rv_1 ks_1 → ((now_bound ≤ x3_1 → (Q (-2) rf_1 rm_1 rl_1 ru_1 rn_1 rv_1 turn_1 nF_1 rows_sieve_least_1 rows_powers_cells_1 rows_powers_ofPrime_1)) ∧ (¬ now_bound ≤ x3_1 → ((400000 < x4_1 → (Q (-2) rf_1 rm_1 rl_1 ru_1 rn_1 rv_1 turn_1 nF_1 rows_sieve_least_1 rows_powers_cells_1 rows_powers_ofPrime_1)) ∧ (¬ 400000 < x4_1 → (∀ x5_1 : Int32, x5_1 = x3_1 + 1 → ∀ m_1 : Int32, m_1 = (if x4_1 < now_bound then x4_1 else now_bound) → ∃ (mcF_1 msF_1 : Nat) (P_3 : (Nat) → (Nat → Int32) → (Nat → Int32) → (Nat → Int32) → (Nat → Int32) → (Nat → Nat) → (Nat → Nat → Int32) → (Int32) → (Nat) → (Nat → Int32) → (Nat → Int32) → (Nat → Int32) → Prop), (kc_1 + mcF_1 ≤ mc ∧ ks_1 + msF_1 ≤ ms) ∧ wX7_upTo mcF_1 msF_1 now_bound now_modulus now_seed now_functions rf_1 rm_1 rl_1 ru_1 rn_1 rv_1 turn_1 nF_1 rows_sieve_least_1 now_needs rows_powers_cells_1 rows_powers_ofPrime_1 now_firsts now_seconds now_kinds now_numbers now_colours a1 m_1 P_3 ∧ ∀ (k_1 : Nat) (rf_2 : Nat → Int32) (rm_2 : Nat → Int32) (rl_2 : Nat → Int32) (ru_2 : Nat → Int32) (rn_2 : Nat → Nat) (rv_2 : Nat → Nat → Int32) (turn_2 : Int32) (n_sieve_least_1 : Nat) (sieve_least_1 : Nat → Int32) (powers_cells_1 : Nat → Int32) (powers_ofPrime_1 : Nat → Int32), P_3 k_1 rf_2 rm_2 rl_2 ru_2 rn_2 rv_2 turn_2 n_sieve_least_1 sieve_least_1 powers_cells_1 powers_ofPrime_1 → ∃ (P_4 : (Int32) → Prop), wX6_placeOf (rf_2 k_1) (rm_2 k_1) (rl_2 k_1) (ru_2 k_1) (rn_2 k_1) (rv_2 k_1) a2 x5_1 m_1 P_4 ∧ ∀ (rF_3 : Int32), P_4 rF_3 → ((rF_3 = (-1) → (∀ x4_2 : Int32, x4_2 = x4_1 * 2 → (Inv_1 powers_cells_1 powers_ofPrime_1 sieve_least_1 (kc_1 + mcF_1) turn_2 m_1 x4_2 n_sieve_least_1 rf_2 rl_2 rm_2 rn_2 ru_2 rv_2 (ks_1 + msF_1) ∧ Mea_1 powers_cells_1 powers_ofPrime_1 sieve_least_1 (kc_1 + mcF_1) turn_2 m_1 x4_2 n_sieve_least_1 rf_2 rl_2 rm_2 rn_2 ru_2 rv_2 (ks_1 + msF_1) < Mea_1 rows_powers_cells_1 rows_powers_ofPrime_1 rows_sieve_least_1 kc_1 turn_1 x3_1 x4_1 nF_1 rf_1 rl_1 rm_1 rn_1 ru_1 rv_1 ks_1))) ∧ (¬ rF_3 = (-1) → (Q rF_3 rf_2 rm_2 rl_2 ru_2 rn_2 rv_2 turn_2 n_sieve_least_1 sieve_least_1 powers_cells_1 powers_ofPrime_1)))))))))) ∧ (rF_2 = 0 → (Q (-1) rf rm rl ru rn rv rows_turn n_rows_sieve_least rows_sieve_least rows_powers_cells rows_powers_ofPrime)))))))
set_option maxHeartbeats 4000000 in
set_option maxRecDepth 100000 in
theorem mX10_first (l : Launch) (D : va_G) (Y : Nat → ClassId) (mc ms : Nat) (h0 : Nat) (ra : Nat → Nat) (q_now : Nat) (v_reader : Value) (v_changes : Value) (v_image : Value) (q_rows : Nat) (v_couples : Value) (now_bound : Int32) (now_modulus : Int32) (now_seed : Int32) (now_functions : Int32) (v_now_names : Value) (q_now_kinds : Nat) (q_now_firsts : Nat) (q_now_seconds : Nat) (v_now_degrees : Value) (q_now_colours : Nat) (q_now_needs : Nat) (q_now_numbers : Nat) (rs : Nat → Nat) (rf : Nat → Int32) (rm : Nat → Int32) (rl : Nat → Int32) (ru : Nat → Int32) (rn : Nat → Nat) (rv : Nat → Nat → Int32) (q_rows_sieve : Nat) (q_rows_powers : Nat) (q_rows_rows : Nat) (rows_turn : Int32) (q_rows_sieve_least : Nat) (n_rows_sieve_least : Nat) (rows_sieve_least : Nat → Int32) (now_needs : Nat → Int32) (q_rows_powers_ofPrime : Nat) (q_rows_powers_cells : Nat) (rows_powers_cells : Nat → Int32) (rows_powers_ofPrime : Nat → Int32) (now_firsts : Nat → Int32) (now_seconds : Nat → Int32) (now_kinds : Nat → Int32) (now_numbers : Nat → Int32) (now_colours : Nat → Int32) (a1 : Int32) (a2 : Int32) (Q : (Int32) → (Nat → Int32) → (Nat → Int32) → (Nat → Int32) → (Nat → Int32) → (Nat → Nat) → (Nat → Nat → Int32) → (Int32) → (Nat) → (Nat → Int32) → (Nat → Int32) → (Nat → Int32) → Prop) (h : wX10_first mc ms now_bound now_modulus now_seed now_functions rf rm rl ru rn rv rows_turn n_rows_sieve_least rows_sieve_least now_needs rows_powers_cells rows_powers_ofPrime now_firsts now_seconds now_kinds now_numbers now_colours a1 a2 Q) : gM l D Y yX10_first cX10_first 7 (some .int) 6 151 mc ms [.ref h0, .int a1, .int a2] (rowsW Y ra rs rf rm rl ru rn rv ++ [oX10 h0 (.ref q_now) (v_reader) (v_changes) (v_image) (.ref q_rows) (v_couples), oX3 q_now now_bound now_modulus now_seed now_functions (v_now_names) (.ref q_now_kinds) (.ref q_now_firsts) (.ref q_now_seconds) (v_now_degrees) (.ref q_now_colours) (.ref q_now_needs) (.ref q_now_numbers), oX7 q_rows (.ref q_rows_sieve) (.ref q_rows_powers) (.ref q_rows_rows) rows_turn, aR Y q_rows_rows 4 (fun j => some (ra j)), oX8 q_rows_sieve (.ref q_rows_sieve_least), aI Y q_rows_sieve_least n_rows_sieve_least rows_sieve_least, aI Y q_now_needs 12 now_needs, oX4 q_rows_powers (.ref q_rows_powers_ofPrime) (.ref q_rows_powers_cells), aI Y q_rows_powers_cells 216 rows_powers_cells, aI Y q_rows_powers_ofPrime 18 rows_powers_ofPrime, aI Y q_now_firsts 12 now_firsts, aI Y q_now_seconds 12 now_seconds, aI Y q_now_kinds 12 now_kinds, aI Y q_now_numbers 144 now_numbers, aI Y q_now_colours 12 now_colours]) (fun v w => ∃ r : Int32, ∃ rs' : Nat → Nat, ∃ rf' : Nat → Int32, ∃ rm' : Nat → Int32, ∃ rl' : Nat → Int32, ∃ ru' : Nat → Int32, ∃ rn' : Nat → Nat, ∃ rv' : Nat → Nat → Int32, ∃ rows_turn' : Int32, ∃ q_rows_sieve_least' : Nat, ∃ n_rows_sieve_least' : Nat, ∃ rows_sieve_least' : Nat → Int32, ∃ rows_powers_cells' : Nat → Int32, ∃ rows_powers_ofPrime' : Nat → Int32, v = some (.int r) ∧ w = (rowsW Y ra rs' rf' rm' rl' ru' rn' rv' ++ [oX10 h0 (.ref q_now) (v_reader) (v_changes) (v_image) (.ref q_rows) (v_couples), oX3 q_now now_bound now_modulus now_seed now_functions (v_now_names) (.ref q_now_kinds) (.ref q_now_firsts) (.ref q_now_seconds) (v_now_degrees) (.ref q_now_colours) (.ref q_now_needs) (.ref q_now_numbers), oX7 q_rows (.ref q_rows_sieve) (.ref q_rows_powers) (.ref q_rows_rows) rows_turn', aR Y q_rows_rows 4 (fun j => some (ra j)), oX8 q_rows_sieve (.ref q_rows_sieve_least'), aI Y q_rows_sieve_least' n_rows_sieve_least' rows_sieve_least', aI Y q_now_needs 12 now_needs, oX4 q_rows_powers (.ref q_rows_powers_ofPrime) (.ref q_rows_powers_cells), aI Y q_rows_powers_cells 216 rows_powers_cells', aI Y q_rows_powers_ofPrime 18 rows_powers_ofPrime', aI Y q_now_firsts 12 now_firsts, aI Y q_now_seconds 12 now_seconds, aI Y q_now_kinds 12 now_kinds, aI Y q_now_numbers 144 now_numbers, aI Y q_now_colours 12 now_colours]) ∧ Q r rf' rm' rl' ru' rn' rv' rows_turn' n_rows_sieve_least' rows_sieve_least' rows_powers_cells' rows_powers_ofPrime') := by
  refine gM_of (own := RX10) (by decide +kernel) rfl (Nat.le_of_ble_eq_true rfl) rfl (fun E C hR => ?_)
  unfold wX10_first at h
  refine g_aload_n C dX10_first_0 0 rfl ?_
  refine g_get C inX10 8 rfl rfl 0 (by decide) wF_X10_10 rfl dX10_first_1 ?_
  refine g_iload_n C dX10_first_4 1 rfl ?_
  obtain ⟨P_1, hP, h⟩ := h
  refine g_callV (As := [.int a1]) (rest := []) C (mX3_has l D Y q_now now_bound now_modulus now_seed now_functions v_now_names (.ref q_now_kinds) (.ref q_now_firsts) (.ref q_now_seconds) v_now_degrees (.ref q_now_colours) (.ref q_now_needs) (.ref q_now_numbers) a1 P_1 hP) dX10_first_5 rfl wM_X10_98 wI_X3_has wV_X3_has wN_X3 wC_X3_has (n := 1) (by decide +kernel) rfl (q0 := 0) rfl rfl ⟨Nat.le_of_ble_eq_true rfl, Nat.le_of_ble_eq_true rfl⟩ ⟨Nat.zero_le _, Nat.zero_le _⟩ (Nat.le_of_ble_eq_true rfl) [9] [0, 1, 2, 3, 4, 5, 6, 7, 8, 10, 11, 12, 13, 14, 15, 16, 17, 18, 19, 20, 21, 22] rfl rfl rfl (fun v wc hv => ?_)
  obtain ⟨rF_1, rfl, rfl, hq⟩ := hv
  replace h := h rF_1 hq
  refine gG.perm (ws' := (rowsW Y ra rs rf rm rl ru rn rv ++ [oX10 h0 (.ref q_now) (v_reader) (v_changes) (v_image) (.ref q_rows) (v_couples), oX3 q_now now_bound now_modulus now_seed now_functions (v_now_names) (.ref q_now_kinds) (.ref q_now_firsts) (.ref q_now_seconds) (v_now_degrees) (.ref q_now_colours) (.ref q_now_needs) (.ref q_now_numbers), oX7 q_rows (.ref q_rows_sieve) (.ref q_rows_powers) (.ref q_rows_rows) rows_turn, aR Y q_rows_rows 4 (fun j => some (ra j)), oX8 q_rows_sieve (.ref q_rows_sieve_least), aI Y q_rows_sieve_least n_rows_sieve_least rows_sieve_least, aI Y q_now_needs 12 now_needs, oX4 q_rows_powers (.ref q_rows_powers_ofPrime) (.ref q_rows_powers_cells), aI Y q_rows_powers_cells 216 rows_powers_cells, aI Y q_rows_powers_ofPrime 18 rows_powers_ofPrime, aI Y q_now_firsts 12 now_firsts, aI Y q_now_seconds 12 now_seconds, aI Y q_now_kinds 12 now_kinds, aI Y q_now_numbers 144 now_numbers, aI Y q_now_colours 12 now_colours])) [0, 1, 2, 3, 4, 5, 6, 7, 8, 22, 9, 10, 11, 12, 13, 14, 15, 16, 17, 18, 19, 20, 21] rfl rfl ?_
  refine g_if_eq (tgt := 19) C dX10_first_8 (by decide) (fun c_1 => ?_) (fun c_1 => ?_)
  · replace h := h.1 c_1
    refine g_iconst (v := (-1)) C dX10_first_19 rfl ?_
    exact g_iret C hR (show 0 ≤ mc ∧ 0 ≤ ms from ⟨Nat.zero_le _, Nat.zero_le _⟩).1 (show 0 ≤ mc ∧ 0 ≤ ms from ⟨Nat.zero_le _, Nat.zero_le _⟩).2 dX10_first_20 ⟨(-1), rs, rf, rm, rl, ru, rn, rv, rows_turn, q_rows_sieve_least, n_rows_sieve_least, rows_sieve_least, rows_powers_cells, rows_powers_ofPrime, rfl, rfl, h⟩
  · replace h := h.2 c_1
    refine g_aload_n C dX10_first_11 0 rfl ?_
    refine g_iload_n C dX10_first_12 2 rfl ?_
    obtain ⟨P_2, hP, h⟩ := h
    refine g_callV (As := [.int a2]) (rest := []) C (mX10_isRest l D Y h0 q_now v_reader v_changes v_image (.ref q_rows) v_couples now_bound now_modulus now_seed now_functions v_now_names (.ref q_now_kinds) (.ref q_now_firsts) (.ref q_now_seconds) v_now_degrees (.ref q_now_colours) (.ref q_now_needs) (.ref q_now_numbers) a2 P_2 hP) dX10_first_13 rfl wM_X10_255 wI_X10_isRest wV_X10_isRest wN_X10 wC_X10_isRest (n := 1) (by decide +kernel) rfl (q0 := 0) rfl rfl ⟨Nat.le_of_ble_eq_true rfl, Nat.le_of_ble_eq_true rfl⟩ ⟨Nat.zero_le _, Nat.zero_le _⟩ (Nat.le_of_ble_eq_true rfl) [8, 9] [0, 1, 2, 3, 4, 5, 6, 7, 10, 11, 12, 13, 14, 15, 16, 17, 18, 19, 20, 21, 22] rfl rfl rfl (fun v wc hv => ?_)
    obtain ⟨rF_2, rfl, rfl, hq⟩ := hv
    replace h := h rF_2 hq
    refine gG.perm (ws' := (rowsW Y ra rs rf rm rl ru rn rv ++ [oX10 h0 (.ref q_now) (v_reader) (v_changes) (v_image) (.ref q_rows) (v_couples), oX3 q_now now_bound now_modulus now_seed now_functions (v_now_names) (.ref q_now_kinds) (.ref q_now_firsts) (.ref q_now_seconds) (v_now_degrees) (.ref q_now_colours) (.ref q_now_needs) (.ref q_now_numbers), oX7 q_rows (.ref q_rows_sieve) (.ref q_rows_powers) (.ref q_rows_rows) rows_turn, aR Y q_rows_rows 4 (fun j => some (ra j)), oX8 q_rows_sieve (.ref q_rows_sieve_least), aI Y q_rows_sieve_least n_rows_sieve_least rows_sieve_least, aI Y q_now_needs 12 now_needs, oX4 q_rows_powers (.ref q_rows_powers_ofPrime) (.ref q_rows_powers_cells), aI Y q_rows_powers_cells 216 rows_powers_cells, aI Y q_rows_powers_ofPrime 18 rows_powers_ofPrime, aI Y q_now_firsts 12 now_firsts, aI Y q_now_seconds 12 now_seconds, aI Y q_now_kinds 12 now_kinds, aI Y q_now_numbers 144 now_numbers, aI Y q_now_colours 12 now_colours])) [0, 1, 2, 3, 4, 5, 6, 7, 21, 22, 8, 9, 10, 11, 12, 13, 14, 15, 16, 17, 18, 19, 20] rfl rfl ?_
    refine g_if_ne (tgt := 21) C dX10_first_16 (by decide) (fun c_2 => ?_) (fun c_2 => ?_)
    · replace h := h.1 c_2
      refine g_iconst (v := 0) C dX10_first_21 rfl ?_
      refine g_istore_n (lv' := [(3, .int 0), (0, .ref h0), (1, .int a1), (2, .int a2)]) C dX10_first_22 (by decide) rfl ?_
      refine g_sipush (v := 1024) C dX10_first_23 rfl ?_
      refine g_istore (lv' := [(4, .int 1024), (3, .int 0), (0, .ref h0), (1, .int a1), (2, .int a2)]) C dX10_first_26 (by decide) rfl ?_
      obtain ⟨Inv_1, Mea_1, hI1, hB1⟩ := h
      have key_1 : ∀ (n : Nat) (rows_powers_cells_1 : Nat → Int32) (rows_powers_ofPrime_1 : Nat → Int32) (rows_sieve_least_1 : Nat → Int32) (kc_1 : Nat) (turn_1 : Int32) (x3_1 : Int32) (x4_1 : Int32) (nF_1 : Nat) (rf_1 : Nat → Int32) (rl_1 : Nat → Int32) (rm_1 : Nat → Int32) (rn_1 : Nat → Nat) (ru_1 : Nat → Int32) (rv_1 : Nat → Nat → Int32) (ks_1 : Nat) (q_1 : Nat) (rs_1 : Nat → Nat), Mea_1 rows_powers_cells_1 rows_powers_ofPrime_1 rows_sieve_least_1 kc_1 turn_1 x3_1 x4_1 nF_1 rf_1 rl_1 rm_1 rn_1 ru_1 rv_1 ks_1 < n → Inv_1 rows_powers_cells_1 rows_powers_ofPrime_1 rows_sieve_least_1 kc_1 turn_1 x3_1 x4_1 nF_1 rf_1 rl_1 rm_1 rn_1 ru_1 rv_1 ks_1 → kc_1 ≤ mc ∧ ks_1 ≤ ms → gG E kc_1 ks_1 (rowsW Y ra rs_1 rf_1 rm_1 rl_1 ru_1 rn_1 rv_1 ++ [oX10 h0 (.ref q_now) (v_reader) (v_changes) (v_image) (.ref q_rows) (v_couples), oX3 q_now now_bound now_modulus now_seed now_functions (v_now_names) (.ref q_now_kinds) (.ref q_now_firsts) (.ref q_now_seconds) (v_now_degrees) (.ref q_now_colours) (.ref q_now_needs) (.ref q_now_numbers), oX7 q_rows (.ref q_rows_sieve) (.ref q_rows_powers) (.ref q_rows_rows) turn_1, aR Y q_rows_rows 4 (fun j => some (ra j)), oX8 q_rows_sieve (.ref q_1), aI Y q_1 nF_1 rows_sieve_least_1, aI Y q_now_needs 12 now_needs, oX4 q_rows_powers (.ref q_rows_powers_ofPrime) (.ref q_rows_powers_cells), aI Y q_rows_powers_cells 216 rows_powers_cells_1, aI Y q_rows_powers_ofPrime 18 rows_powers_ofPrime_1, aI Y q_now_firsts 12 now_firsts, aI Y q_now_seconds 12 now_seconds, aI Y q_now_kinds 12 now_kinds, aI Y q_now_numbers 144 now_numbers, aI Y q_now_colours 12 now_colours]) [(0, .ref h0), (1, .int a1), (2, .int a2), (3, .int x3_1), (4, .int x4_1)] [] 28 := by
        intro n
        induction n with
        | zero => exact fun _ _ _ _ _ _ _ _ _ _ _ _ _ _ _ _ _ hm => absurd hm (Nat.not_lt_zero _)
        | succ n ih1 =>
          intro rows_powers_cells_1 rows_powers_ofPrime_1 rows_sieve_least_1 kc_1 turn_1 x3_1 x4_1 nF_1 rf_1 rl_1 rm_1 rn_1 ru_1 rv_1 ks_1 q_1 rs_1 hm1 hI hr_1
          have h := hB1 rows_powers_cells_1 rows_powers_ofPrime_1 rows_sieve_least_1 kc_1 turn_1 x3_1 x4_1 nF_1 rf_1 rl_1 rm_1 rn_1 ru_1 rv_1 ks_1 hI
          refine g_iload_n C dX10_first_28 3 rfl ?_
          refine g_aload_n C dX10_first_29 0 rfl ?_
          refine g_get C inX10 8 rfl rfl 0 (by decide) wF_X10_10 rfl dX10_first_30 ?_
          refine g_get C inX3 9 rfl rfl 0 (by decide) wF_X10_143 rfl dX10_first_33 ?_
          refine g_icmp_ge (tgt := 105) C dX10_first_36 (by decide) (fun c_3 => ?_) (fun c_3 => ?_)
          · replace h := h.1 c_3
            refine g_bipush (v := (-2)) C dX10_first_105 rfl ?_
            exact g_iret C hR (show kc_1 ≤ mc ∧ ks_1 ≤ ms from hr_1).1 (show kc_1 ≤ mc ∧ ks_1 ≤ ms from hr_1).2 dX10_first_107 ⟨(-2), rs_1, rf_1, rm_1, rl_1, ru_1, rn_1, rv_1, turn_1, q_1, nF_1, rows_sieve_least_1, rows_powers_cells_1, rows_powers_ofPrime_1, rfl, rfl, h⟩
          · replace h := h.2 c_3
            refine g_iload C dX10_first_39 4 rfl ?_
            refine g_ldcw C dX10_first_41 wK_X10_258 ?_
            refine g_icmp_gt (tgt := 105) C dX10_first_44 (by decide) (fun c_4 => ?_) (fun c_4 => ?_)
            · replace h := h.1 c_4
              refine g_bipush (v := (-2)) C dX10_first_105 rfl ?_
              exact g_iret C hR (show kc_1 ≤ mc ∧ ks_1 ≤ ms from hr_1).1 (show kc_1 ≤ mc ∧ ks_1 ≤ ms from hr_1).2 dX10_first_107 ⟨(-2), rs_1, rf_1, rm_1, rl_1, ru_1, rn_1, rv_1, turn_1, q_1, nF_1, rows_sieve_least_1, rows_powers_cells_1, rows_powers_ofPrime_1, rfl, rfl, h⟩
            · replace h := h.2 c_4
              refine g_iload_n C dX10_first_47 3 rfl ?_
              refine g_iconst (v := 1) C dX10_first_48 rfl ?_
              refine g_iadd C dX10_first_49 ?_
              refine g_topi (fun x5_1 ex5_1 => ?_)
              replace h := h x5_1 ex5_1
              refine g_istore (lv' := [(5, .int x5_1), (0, .ref h0), (1, .int a1), (2, .int a2), (3, .int x3_1), (4, .int x4_1)]) C dX10_first_50 (by decide) rfl ?_
              refine g_aload_n C dX10_first_52 1 rfl ?_
              refine g_get C inX10 8 rfl rfl 0 (by decide) wF_X10_10 rfl dX10_first_53 ?_
              refine g_get C inX3 9 rfl rfl 0 (by decide) wF_X10_143 rfl dX10_first_56 ?_
              refine g_iload C dX10_first_59 5 rfl ?_
              refine g_mmin C wM_X10_252 dX10_first_61 ⟨Nat.le_of_ble_eq_true rfl, Nat.le_of_ble_eq_true rfl⟩ hr_1 ?_
              refine g_topi (fun m_1 em_1 => ?_)
              replace h := h m_1 em_1
              refine g_istore_n (lv' := [(3, .int m_1), (5, .int x5_1), (0, .ref h0), (1, .int a1), (2, .int a2), (4, .int x4_1)]) C dX10_first_64 (by decide) rfl ?_
              refine g_aload_n C dX10_first_65 2 rfl ?_
              refine g_get C inX10 8 rfl rfl 4 (by decide) wF_X10_40 rfl dX10_first_66 ?_
              refine g_aload_n C dX10_first_69 2 rfl ?_
              refine g_get C inX10 8 rfl rfl 0 (by decide) wF_X10_10 rfl dX10_first_70 ?_
              refine g_iload_n C dX10_first_73 3 rfl ?_
              refine g_iload_n C dX10_first_74 0 rfl ?_
              obtain ⟨mcF_1, msF_1, P_3, hk_1, hP, h⟩ := h
              refine g_callV (As := [.ref q_now, .int a1, .int m_1]) (rest := []) C (mX7_upTo l D Y mcF_1 msF_1 q_rows ra q_now now_bound now_modulus now_seed now_functions v_now_names q_now_kinds q_now_firsts q_now_seconds v_now_degrees q_now_colours q_now_needs q_now_numbers rs_1 rf_1 rm_1 rl_1 ru_1 rn_1 rv_1 q_rows_sieve q_rows_powers q_rows_rows turn_1 q_1 nF_1 rows_sieve_least_1 now_needs q_rows_powers_ofPrime q_rows_powers_cells rows_powers_cells_1 rows_powers_ofPrime_1 now_firsts now_seconds now_kinds now_numbers now_colours a1 m_1 P_3 hP) dX10_first_75 rfl wM_X10_182 wI_X7_upTo wV_X7_upTo wN_X7 wC_X7_upTo (n := 3) (by decide +kernel) rfl (q0 := 9) rfl rfl ⟨Nat.le_of_ble_eq_true rfl, Nat.le_of_ble_eq_true rfl⟩ hk_1 (Nat.le_of_ble_eq_true rfl) [0, 1, 2, 3, 4, 5, 6, 7, 9, 10, 11, 12, 13, 14, 15, 16, 17, 18, 19, 20, 21, 22] [8] rfl rfl rfl (fun v wc hv => ?_)
              obtain ⟨k_1, rs_2, rf_2, rm_2, rl_2, ru_2, rn_2, rv_2, turn_2, q_sieve_least_1, n_sieve_least_1, sieve_least_1, powers_cells_1, powers_ofPrime_1, rfl, rfl, hkk_1, hq⟩ := hv
              replace h := h k_1 rf_2 rm_2 rl_2 ru_2 rn_2 rv_2 turn_2 n_sieve_least_1 sieve_least_1 powers_cells_1 powers_ofPrime_1 hq
              refine gG.perm (ws' := (rowsW Y ra rs_2 rf_2 rm_2 rl_2 ru_2 rn_2 rv_2 ++ [oX10 h0 (.ref q_now) (v_reader) (v_changes) (v_image) (.ref q_rows) (v_couples), oX3 q_now now_bound now_modulus now_seed now_functions (v_now_names) (.ref q_now_kinds) (.ref q_now_firsts) (.ref q_now_seconds) (v_now_degrees) (.ref q_now_colours) (.ref q_now_needs) (.ref q_now_numbers), oX7 q_rows (.ref q_rows_sieve) (.ref q_rows_powers) (.ref q_rows_rows) turn_2, aR Y q_rows_rows 4 (fun j => some (ra j)), oX8 q_rows_sieve (.ref q_sieve_least_1), aI Y q_sieve_least_1 n_sieve_least_1 sieve_least_1, aI Y q_now_needs 12 now_needs, oX4 q_rows_powers (.ref q_rows_powers_ofPrime) (.ref q_rows_powers_cells), aI Y q_rows_powers_cells 216 powers_cells_1, aI Y q_rows_powers_ofPrime 18 powers_ofPrime_1, aI Y q_now_firsts 12 now_firsts, aI Y q_now_seconds 12 now_seconds, aI Y q_now_kinds 12 now_kinds, aI Y q_now_numbers 144 now_numbers, aI Y q_now_colours 12 now_colours])) [1, 2, 3, 4, 5, 6, 7, 8, 0, 9, 10, 11, 12, 13, 14, 15, 16, 17, 18, 19, 20, 21, 22] rfl rfl ?_
              refine g_iload_n C dX10_first_78 4 rfl ?_
              refine g_iload C dX10_first_79 1 rfl ?_
              refine g_iload_n C dX10_first_81 0 rfl ?_
              obtain ⟨P_4, hP, h⟩ := h
              refine g_callV (As := [.int a2, .int x5_1, .int m_1]) (rest := []) C (mX6_placeOf_at l D Y ra k_1 (hkk_1) rs_2 rf_2 rm_2 rl_2 ru_2 rn_2 rv_2 a2 x5_1 m_1 P_4 hP) dX10_first_82 rfl wM_X10_259 wI_X6_placeOf wV_X6_placeOf wN_X6 wC_X6_placeOf (n := 3) (by decide +kernel) rfl (q0 := (2 * k_1)) (rowsW_obj0 _ _ _ _ _ _ _ _ _ (hkk_1)) rfl ⟨Nat.le_of_ble_eq_true rfl, Nat.le_of_ble_eq_true rfl⟩ hk_1 (Nat.le_of_ble_eq_true rfl) [0, 1, 2, 3, 4, 5, 6, 7] [8, 9, 10, 11, 12, 13, 14, 15, 16, 17, 18, 19, 20, 21, 22] rfl rfl rfl (fun v wc hv => ?_)
              obtain ⟨rF_3, rfl, rfl, hq⟩ := hv
              replace h := h rF_3 hq
              refine gG.perm (ws' := (rowsW Y ra rs_2 rf_2 rm_2 rl_2 ru_2 rn_2 rv_2 ++ [oX10 h0 (.ref q_now) (v_reader) (v_changes) (v_image) (.ref q_rows) (v_couples), oX3 q_now now_bound now_modulus now_seed now_functions (v_now_names) (.ref q_now_kinds) (.ref q_now_firsts) (.ref q_now_seconds) (v_now_degrees) (.ref q_now_colours) (.ref q_now_needs) (.ref q_now_numbers), oX7 q_rows (.ref q_rows_sieve) (.ref q_rows_powers) (.ref q_rows_rows) turn_2, aR Y q_rows_rows 4 (fun j => some (ra j)), oX8 q_rows_sieve (.ref q_sieve_least_1), aI Y q_sieve_least_1 n_sieve_least_1 sieve_least_1, aI Y q_now_needs 12 now_needs, oX4 q_rows_powers (.ref q_rows_powers_ofPrime) (.ref q_rows_powers_cells), aI Y q_rows_powers_cells 216 powers_cells_1, aI Y q_rows_powers_ofPrime 18 powers_ofPrime_1, aI Y q_now_firsts 12 now_firsts, aI Y q_now_seconds 12 now_seconds, aI Y q_now_kinds 12 now_kinds, aI Y q_now_numbers 144 now_numbers, aI Y q_now_colours 12 now_colours])) [15, 16, 17, 18, 19, 20, 21, 22, 0, 1, 2, 3, 4, 5, 6, 7, 8, 9, 10, 11, 12, 13, 14] rfl rfl ?_
              refine g_istore (lv' := [(6, .int rF_3), (3, .int m_1), (5, .int x5_1), (0, .ref h0), (1, .int a1), (2, .int a2), (4, .int x4_1)]) C dX10_first_85 (by decide) rfl ?_
              refine g_iload C dX10_first_87 0 rfl ?_
              refine g_iconst (v := (-1)) C dX10_first_89 rfl ?_
              refine g_icmp_eq (tgt := 96) C dX10_first_90 (by decide) (fun c_5 => ?_) (fun c_5 => ?_)
              · replace h := h.1 c_5
                refine g_iload C dX10_first_96 6 rfl ?_
                refine g_iconst (v := 2) C dX10_first_98 rfl ?_
                refine g_imul C dX10_first_99 ?_
                refine g_topi (fun x4_2 ex4_2 => ?_)
                replace h := h x4_2 ex4_2
                refine g_istore (lv' := [(4, .int x4_2), (6, .int rF_3), (3, .int m_1), (5, .int x5_1), (0, .ref h0), (1, .int a1), (2, .int a2)]) C dX10_first_100 (by decide) rfl ?_
                refine g_goto (tgt := 28) C dX10_first_102 (by decide) ?_
                refine gG.locals (lv' := [(0, .ref h0), (1, .int a1), (2, .int a2), (3, .int m_1), (4, .int x4_2)]) [4, 5, 6, 2, 0] rfl ?_
                exact ih1 powers_cells_1 powers_ofPrime_1 sieve_least_1 (kc_1 + mcF_1) turn_2 m_1 x4_2 n_sieve_least_1 rf_2 rl_2 rm_2 rn_2 ru_2 rv_2 (ks_1 + msF_1) q_sieve_least_1 rs_2 (Nat.lt_of_lt_of_le h.2 (Nat.le_of_lt_succ hm1)) h.1 (show kc_1 + mcF_1 ≤ mc ∧ ks_1 + msF_1 ≤ ms from hk_1)
              · replace h := h.2 c_5
                refine g_iload C dX10_first_93 0 rfl ?_
                exact g_iret C hR (show kc_1 + mcF_1 ≤ mc ∧ ks_1 + msF_1 ≤ ms from hk_1).1 (show kc_1 + mcF_1 ≤ mc ∧ ks_1 + msF_1 ≤ ms from hk_1).2 dX10_first_95 ⟨rF_3, rs_2, rf_2, rm_2, rl_2, ru_2, rn_2, rv_2, turn_2, q_sieve_least_1, n_sieve_least_1, sieve_least_1, powers_cells_1, powers_ofPrime_1, rfl, rfl, h⟩
      refine gG.locals (lv' := [(0, .ref h0), (1, .int a1), (2, .int a2), (3, .int 0), (4, .int 1024)]) [2, 3, 4, 1, 0] rfl ?_
      exact key_1 (Mea_1 rows_powers_cells rows_powers_ofPrime rows_sieve_least 0 rows_turn 0 1024 n_rows_sieve_least rf rl rm rn ru rv 0 + 1) rows_powers_cells rows_powers_ofPrime rows_sieve_least 0 rows_turn 0 1024 n_rows_sieve_least rf rl rm rn ru rv 0 q_rows_sieve_least rs (Nat.lt_succ_self _) hI1 (show 0 ≤ mc ∧ 0 ≤ ms from ⟨Nat.zero_le _, Nat.zero_le _⟩)
    · replace h := h.2 c_2
      refine g_iconst (v := (-1)) C dX10_first_19 rfl ?_
      exact g_iret C hR (show 0 ≤ mc ∧ 0 ≤ ms from ⟨Nat.zero_le _, Nat.zero_le _⟩).1 (show 0 ≤ mc ∧ 0 ≤ ms from ⟨Nat.zero_le _, Nat.zero_le _⟩).2 dX10_first_20 ⟨(-1), rs, rf, rm, rl, ru, rn, rv, rows_turn, q_rows_sieve_least, n_rows_sieve_least, rows_sieve_least, rows_powers_cells, rows_powers_ofPrime, rfl, rfl, h⟩
theorem dX10_doPart_0 : decode cX10_doPart 0 = .ok (.aload_n 0, 1) := by decide +kernel
theorem dX10_doPart_1 : decode cX10_doPart 1 = .ok (.getfield 40, 3) := by decide +kernel
theorem dX10_doPart_4 : decode cX10_doPart 4 = .ok (.getfield 164, 3) := by decide +kernel
theorem dX10_doPart_7 : decode cX10_doPart 7 = .ok (.aload_n 0, 1) := by decide +kernel
theorem dX10_doPart_8 : decode cX10_doPart 8 = .ok (.getfield 10, 3) := by decide +kernel
theorem dX10_doPart_11 : decode cX10_doPart 11 = .ok (.iload_n 1, 1) := by decide +kernel
theorem dX10_doPart_12 : decode cX10_doPart 12 = .ok (.iload_n 3, 1) := by decide +kernel
theorem dX10_doPart_13 : decode cX10_doPart 13 = .ok (.iload 4, 2) := by decide +kernel
theorem dX10_doPart_15 : decode cX10_doPart 15 = .ok (.invokevirtual 175, 3) := by decide +kernel
theorem dX10_doPart_18 : decode cX10_doPart 18 = .ok (.aload_n 0, 1) := by decide +kernel
theorem dX10_doPart_19 : decode cX10_doPart 19 = .ok (.getfield 40, 3) := by decide +kernel
theorem dX10_doPart_22 : decode cX10_doPart 22 = .ok (.getfield 164, 3) := by decide +kernel
theorem dX10_doPart_25 : decode cX10_doPart 25 = .ok (.aload_n 0, 1) := by decide +kernel
theorem dX10_doPart_26 : decode cX10_doPart 26 = .ok (.getfield 10, 3) := by decide +kernel
theorem dX10_doPart_29 : decode cX10_doPart 29 = .ok (.iload_n 2, 1) := by decide +kernel
theorem dX10_doPart_30 : decode cX10_doPart 30 = .ok (.iload_n 3, 1) := by decide +kernel
theorem dX10_doPart_31 : decode cX10_doPart 31 = .ok (.iload 4, 2) := by decide +kernel
theorem dX10_doPart_33 : decode cX10_doPart 33 = .ok (.invokevirtual 175, 3) := by decide +kernel
theorem dX10_doPart_36 : decode cX10_doPart 36 = .ok (.if_icmp .eq 7, 3) := by decide +kernel
theorem dX10_doPart_39 : decode cX10_doPart 39 = .ok (.iconst 1, 1) := by decide +kernel
theorem dX10_doPart_40 : decode cX10_doPart 40 = .ok (.goto 4, 3) := by decide +kernel
theorem dX10_doPart_43 : decode cX10_doPart 43 = .ok (.iconst 0, 1) := by decide +kernel
theorem dX10_doPart_44 : decode cX10_doPart 44 = .ok (.ireturn, 1) := by decide +kernel
/-- QuotientSums.doPart(IIII)Z -/
def wX10_doPart (rows_turn : Int32) (now_bound : Int32) (now_modulus : Int32) (now_seed : Int32) (now_functions : Int32) (now_needs : Nat → Int32) (rows_powers_cells : Nat → Int32) (rows_powers_ofPrime : Nat → Int32) (now_firsts : Nat → Int32) (now_seconds : Nat → Int32) (now_kinds : Nat → Int32) (now_numbers : Nat → Int32) (now_colours : Nat → Int32) (a1 : Int32) (a2 : Int32) (a3 : Int32) (a4 : Int32) (Q : (Int32) → (Nat → Int32) → (Nat → Int32) → Prop) : Prop :=
  (∃ (P_1 : (Int32) → (Nat → Int32) → (Nat → Int32) → Prop), wX4_valueAtPower now_bound now_modulus now_seed now_functions now_needs rows_powers_cells rows_powers_ofPrime now_firsts now_seconds now_kinds now_numbers now_colours a1 a3 a4 P_1 ∧ ∀ (rF_1 : Int32) (cells_1 : Nat → Int32) (ofPrime_1 : Nat → Int32), P_1 rF_1 cells_1 ofPrime_1 → ∃ (P_2 : (Int32) → (Nat → Int32) → (Nat → Int32) → Prop), wX4_valueAtPower now_bound now_modulus now_seed now_functions now_needs cells_1 ofPrime_1 now_firsts now_seconds now_kinds now_numbers now_colours a2 a3 a4 P_2 ∧ ∀ (rF_2 : Int32) (cells_2 : Nat → Int32) (ofPrime_2 : Nat → Int32), P_2 rF_2 cells_2 ofPrime_2 → ((rF_1 = rF_2 → (Q 0 cells_2 ofPrime_2)) ∧ (¬ rF_1 = rF_2 → (Q 1 cells_2 ofPrime_2))))
set_option maxHeartbeats 4000000 in
set_option maxRecDepth 100000 in
theorem mX10_doPart (l : Launch) (D : va_G) (Y : Nat → ClassId) (h0 : Nat) (q_now : Nat) (v_reader : Value) (v_changes : Value) (v_image : Value) (q_rows : Nat) (v_couples : Value) (v_rows_sieve : Value) (q_rows_powers : Nat) (v_rows_rows : Value) (rows_turn : Int32) (now_bound : Int32) (now_modulus : Int32) (now_seed : Int32) (now_functions : Int32) (v_now_names : Value) (q_now_kinds : Nat) (q_now_firsts : Nat) (q_now_seconds : Nat) (v_now_degrees : Value) (q_now_colours : Nat) (q_now_needs : Nat) (q_now_numbers : Nat) (now_needs : Nat → Int32) (q_rows_powers_ofPrime : Nat) (q_rows_powers_cells : Nat) (rows_powers_cells : Nat → Int32) (rows_powers_ofPrime : Nat → Int32) (now_firsts : Nat → Int32) (now_seconds : Nat → Int32) (now_kinds : Nat → Int32) (now_numbers : Nat → Int32) (now_colours : Nat → Int32) (a1 : Int32) (a2 : Int32) (a3 : Int32) (a4 : Int32) (Q : (Int32) → (Nat → Int32) → (Nat → Int32) → Prop) (h : wX10_doPart rows_turn now_bound now_modulus now_seed now_functions now_needs rows_powers_cells rows_powers_ofPrime now_firsts now_seconds now_kinds now_numbers now_colours a1 a2 a3 a4 Q) : gM l D Y yX10_doPart cX10_doPart 5 (some .boolean) 4 98 0 0 [.ref h0, .int a1, .int a2, .int a3, .int a4] [oX10 h0 (.ref q_now) (v_reader) (v_changes) (v_image) (.ref q_rows) (v_couples), oX7 q_rows (v_rows_sieve) (.ref q_rows_powers) (v_rows_rows) rows_turn, oX3 q_now now_bound now_modulus now_seed now_functions (v_now_names) (.ref q_now_kinds) (.ref q_now_firsts) (.ref q_now_seconds) (v_now_degrees) (.ref q_now_colours) (.ref q_now_needs) (.ref q_now_numbers), aI Y q_now_needs 12 now_needs, oX4 q_rows_powers (.ref q_rows_powers_ofPrime) (.ref q_rows_powers_cells), aI Y q_rows_powers_cells 216 rows_powers_cells, aI Y q_rows_powers_ofPrime 18 rows_powers_ofPrime, aI Y q_now_firsts 12 now_firsts, aI Y q_now_seconds 12 now_seconds, aI Y q_now_kinds 12 now_kinds, aI Y q_now_numbers 144 now_numbers, aI Y q_now_colours 12 now_colours] (fun v w => ∃ r : Int32, ∃ rows_powers_cells' : Nat → Int32, ∃ rows_powers_ofPrime' : Nat → Int32, v = some (.int r) ∧ w = [oX10 h0 (.ref q_now) (v_reader) (v_changes) (v_image) (.ref q_rows) (v_couples), oX7 q_rows (v_rows_sieve) (.ref q_rows_powers) (v_rows_rows) rows_turn, oX3 q_now now_bound now_modulus now_seed now_functions (v_now_names) (.ref q_now_kinds) (.ref q_now_firsts) (.ref q_now_seconds) (v_now_degrees) (.ref q_now_colours) (.ref q_now_needs) (.ref q_now_numbers), aI Y q_now_needs 12 now_needs, oX4 q_rows_powers (.ref q_rows_powers_ofPrime) (.ref q_rows_powers_cells), aI Y q_rows_powers_cells 216 rows_powers_cells', aI Y q_rows_powers_ofPrime 18 rows_powers_ofPrime', aI Y q_now_firsts 12 now_firsts, aI Y q_now_seconds 12 now_seconds, aI Y q_now_kinds 12 now_kinds, aI Y q_now_numbers 144 now_numbers, aI Y q_now_colours 12 now_colours] ∧ Q r rows_powers_cells' rows_powers_ofPrime') := by
  refine gM_of (own := RX10) (by decide +kernel) rfl (Nat.le_of_ble_eq_true rfl) rfl (fun E C hR => ?_)
  unfold wX10_doPart at h
  refine g_aload_n C dX10_doPart_0 0 rfl ?_
  refine g_get C inX10 0 rfl rfl 4 (by decide) wF_X10_40 rfl dX10_doPart_1 ?_
  refine g_get C inX7 1 rfl rfl 1 (by decide) wF_X10_164 rfl dX10_doPart_4 ?_
  refine g_aload_n C dX10_doPart_7 0 rfl ?_
  refine g_get C inX10 0 rfl rfl 0 (by decide) wF_X10_10 rfl dX10_doPart_8 ?_
  refine g_iload_n C dX10_doPart_11 1 rfl ?_
  refine g_iload_n C dX10_doPart_12 3 rfl ?_
  refine g_iload C dX10_doPart_13 4 rfl ?_
  obtain ⟨P_1, hP, h⟩ := h
  refine g_callV (As := [.ref q_now, .int a1, .int a3, .int a4]) (rest := []) C (mX4_valueAtPower l D Y q_rows_powers q_now now_bound now_modulus now_seed now_functions v_now_names q_now_kinds q_now_firsts q_now_seconds v_now_degrees q_now_colours q_now_needs q_now_numbers now_needs q_rows_powers_ofPrime q_rows_powers_cells rows_powers_cells rows_powers_ofPrime now_firsts now_seconds now_kinds now_numbers now_colours a1 a3 a4 P_1 hP) dX10_doPart_15 rfl wM_X10_175 wI_X4_valueAtPower wV_X4_valueAtPower wN_X4 wC_X4_valueAtPower (n := 4) (by decide +kernel) rfl (q0 := 2) rfl rfl ⟨Nat.le_of_ble_eq_true rfl, Nat.le_of_ble_eq_true rfl⟩ ⟨Nat.le_of_ble_eq_true rfl, Nat.le_of_ble_eq_true rfl⟩ (Nat.le_of_ble_eq_true rfl) [2, 3, 4, 5, 6, 7, 8, 9, 10, 11] [0, 1] rfl rfl rfl (fun v wc hv => ?_)
  obtain ⟨rF_1, cells_1, ofPrime_1, rfl, rfl, hq⟩ := hv
  replace h := h rF_1 cells_1 ofPrime_1 hq
  refine gG.eqw (ws' := [oX10 h0 (.ref q_now) (v_reader) (v_changes) (v_image) (.ref q_rows) (v_couples), oX7 q_rows (v_rows_sieve) (.ref q_rows_powers) (v_rows_rows) rows_turn, oX3 q_now now_bound now_modulus now_seed now_functions (v_now_names) (.ref q_now_kinds) (.ref q_now_firsts) (.ref q_now_seconds) (v_now_degrees) (.ref q_now_colours) (.ref q_now_needs) (.ref q_now_numbers), aI Y q_now_needs 12 now_needs, oX4 q_rows_powers (.ref q_rows_powers_ofPrime) (.ref q_rows_powers_cells), aI Y q_rows_powers_cells 216 cells_1, aI Y q_rows_powers_ofPrime 18 ofPrime_1, aI Y q_now_firsts 12 now_firsts, aI Y q_now_seconds 12 now_seconds, aI Y q_now_kinds 12 now_kinds, aI Y q_now_numbers 144 now_numbers, aI Y q_now_colours 12 now_colours]) rfl ?_
  refine g_aload_n C dX10_doPart_18 0 rfl ?_
  refine g_get C inX10 0 rfl rfl 4 (by decide) wF_X10_40 rfl dX10_doPart_19 ?_
  refine g_get C inX7 1 rfl rfl 1 (by decide) wF_X10_164 rfl dX10_doPart_22 ?_
  refine g_aload_n C dX10_doPart_25 0 rfl ?_
  refine g_get C inX10 0 rfl rfl 0 (by decide) wF_X10_10 rfl dX10_doPart_26 ?_
  refine g_iload_n C dX10_doPart_29 2 rfl ?_
  refine g_iload_n C dX10_doPart_30 3 rfl ?_
  refine g_iload C dX10_doPart_31 4 rfl ?_
  obtain ⟨P_2, hP, h⟩ := h
  refine g_callV (As := [.ref q_now, .int a2, .int a3, .int a4]) (rest := [.int rF_1]) C (mX4_valueAtPower l D Y q_rows_powers q_now now_bound now_modulus now_seed now_functions v_now_names q_now_kinds q_now_firsts q_now_seconds v_now_degrees q_now_colours q_now_needs q_now_numbers now_needs q_rows_powers_ofPrime q_rows_powers_cells cells_1 ofPrime_1 now_firsts now_seconds now_kinds now_numbers now_colours a2 a3 a4 P_2 hP) dX10_doPart_33 rfl wM_X10_175 wI_X4_valueAtPower wV_X4_valueAtPower wN_X4 wC_X4_valueAtPower (n := 4) (by decide +kernel) rfl (q0 := 2) rfl rfl ⟨Nat.le_of_ble_eq_true rfl, Nat.le_of_ble_eq_true rfl⟩ ⟨Nat.le_of_ble_eq_true rfl, Nat.le_of_ble_eq_true rfl⟩ (Nat.le_of_ble_eq_true rfl) [2, 3, 4, 5, 6, 7, 8, 9, 10, 11] [0, 1] rfl rfl rfl (fun v wc hv => ?_)
  obtain ⟨rF_2, cells_2, ofPrime_2, rfl, rfl, hq⟩ := hv
  replace h := h rF_2 cells_2 ofPrime_2 hq
  refine gG.eqw (ws' := [oX10 h0 (.ref q_now) (v_reader) (v_changes) (v_image) (.ref q_rows) (v_couples), oX7 q_rows (v_rows_sieve) (.ref q_rows_powers) (v_rows_rows) rows_turn, oX3 q_now now_bound now_modulus now_seed now_functions (v_now_names) (.ref q_now_kinds) (.ref q_now_firsts) (.ref q_now_seconds) (v_now_degrees) (.ref q_now_colours) (.ref q_now_needs) (.ref q_now_numbers), aI Y q_now_needs 12 now_needs, oX4 q_rows_powers (.ref q_rows_powers_ofPrime) (.ref q_rows_powers_cells), aI Y q_rows_powers_cells 216 cells_2, aI Y q_rows_powers_ofPrime 18 ofPrime_2, aI Y q_now_firsts 12 now_firsts, aI Y q_now_seconds 12 now_seconds, aI Y q_now_kinds 12 now_kinds, aI Y q_now_numbers 144 now_numbers, aI Y q_now_colours 12 now_colours]) rfl ?_
  refine g_icmp_eq (tgt := 43) C dX10_doPart_36 (by decide) (fun c_1 => ?_) (fun c_1 => ?_)
  · replace h := h.1 c_1
    refine g_iconst (v := 0) C dX10_doPart_43 rfl ?_
    exact g_zret C hR (by decide) (Nat.le_of_ble_eq_true rfl) (Nat.le_of_ble_eq_true rfl) dX10_doPart_44 ⟨0, cells_2, ofPrime_2, rfl, rfl, h⟩
  · replace h := h.2 c_1
    refine g_iconst (v := 1) C dX10_doPart_39 rfl ?_
    refine g_goto (tgt := 44) C dX10_doPart_40 (by decide) ?_
    exact g_zret C hR (by decide) (Nat.le_of_ble_eq_true rfl) (Nat.le_of_ble_eq_true rfl) dX10_doPart_44 ⟨1, cells_2, ofPrime_2, rfl, rfl, h⟩
theorem dX10_parts_0 : decode cX10_parts 0 = .ok (.aload_n 0, 1) := by decide +kernel
theorem dX10_parts_1 : decode cX10_parts 1 = .ok (.getfield 10, 3) := by decide +kernel
theorem dX10_parts_4 : decode cX10_parts 4 = .ok (.iload_n 1, 1) := by decide +kernel
theorem dX10_parts_5 : decode cX10_parts 5 = .ok (.invokevirtual 98, 3) := by decide +kernel
theorem dX10_parts_8 : decode cX10_parts 8 = .ok (.ifCond .eq 14, 3) := by decide +kernel
theorem dX10_parts_11 : decode cX10_parts 11 = .ok (.aload_n 0, 1) := by decide +kernel
theorem dX10_parts_12 : decode cX10_parts 12 = .ok (.getfield 10, 3) := by decide +kernel
theorem dX10_parts_15 : decode cX10_parts 15 = .ok (.iload_n 2, 1) := by decide +kernel
theorem dX10_parts_16 : decode cX10_parts 16 = .ok (.invokevirtual 98, 3) := by decide +kernel
theorem dX10_parts_19 : decode cX10_parts 19 = .ok (.ifCond .ne 5, 3) := by decide +kernel
theorem dX10_parts_22 : decode cX10_parts 22 = .ok (.iconst (-1), 1) := by decide +kernel
theorem dX10_parts_23 : decode cX10_parts 23 = .ok (.ireturn, 1) := by decide +kernel
theorem dX10_parts_24 : decode cX10_parts 24 = .ok (.iload_n 1, 1) := by decide +kernel
theorem dX10_parts_25 : decode cX10_parts 25 = .ok (.iload_n 2, 1) := by decide +kernel
theorem dX10_parts_26 : decode cX10_parts 26 = .ok (.if_icmp .ne 6, 3) := by decide +kernel
theorem dX10_parts_29 : decode cX10_parts 29 = .ok (.bipush (-2), 2) := by decide +kernel
theorem dX10_parts_31 : decode cX10_parts 31 = .ok (.ireturn, 1) := by decide +kernel
theorem dX10_parts_32 : decode cX10_parts 32 = .ok (.iconst 2, 1) := by decide +kernel
theorem dX10_parts_33 : decode cX10_parts 33 = .ok (.istore_n 3, 1) := by decide +kernel
theorem dX10_parts_34 : decode cX10_parts 34 = .ok (.iload_n 3, 1) := by decide +kernel
theorem dX10_parts_35 : decode cX10_parts 35 = .ok (.aload_n 0, 1) := by decide +kernel
theorem dX10_parts_36 : decode cX10_parts 36 = .ok (.getfield 10, 3) := by decide +kernel
theorem dX10_parts_39 : decode cX10_parts 39 = .ok (.getfield 143, 3) := by decide +kernel
theorem dX10_parts_42 : decode cX10_parts 42 = .ok (.if_icmp .gt 62, 3) := by decide +kernel
theorem dX10_parts_45 : decode cX10_parts 45 = .ok (.aload_n 0, 1) := by decide +kernel
theorem dX10_parts_46 : decode cX10_parts 46 = .ok (.getfield 40, 3) := by decide +kernel
theorem dX10_parts_49 : decode cX10_parts 49 = .ok (.getfield 194, 3) := by decide +kernel
theorem dX10_parts_52 : decode cX10_parts 52 = .ok (.iload_n 3, 1) := by decide +kernel
theorem dX10_parts_53 : decode cX10_parts 53 = .ok (.invokevirtual 198, 3) := by decide +kernel
theorem dX10_parts_56 : decode cX10_parts 56 = .ok (.aload_n 0, 1) := by decide +kernel
theorem dX10_parts_57 : decode cX10_parts 57 = .ok (.getfield 40, 3) := by decide +kernel
theorem dX10_parts_60 : decode cX10_parts 60 = .ok (.getfield 194, 3) := by decide +kernel
theorem dX10_parts_63 : decode cX10_parts 63 = .ok (.iload_n 3, 1) := by decide +kernel
theorem dX10_parts_64 : decode cX10_parts 64 = .ok (.invokevirtual 263, 3) := by decide +kernel
theorem dX10_parts_67 : decode cX10_parts 67 = .ok (.istore 4, 2) := by decide +kernel
theorem dX10_parts_69 : decode cX10_parts 69 = .ok (.iload 4, 2) := by decide +kernel
theorem dX10_parts_71 : decode cX10_parts 71 = .ok (.ifCond .le 27, 3) := by decide +kernel
theorem dX10_parts_74 : decode cX10_parts 74 = .ok (.aload_n 0, 1) := by decide +kernel
theorem dX10_parts_75 : decode cX10_parts 75 = .ok (.iload_n 1, 1) := by decide +kernel
theorem dX10_parts_76 : decode cX10_parts 76 = .ok (.iload_n 2, 1) := by decide +kernel
theorem dX10_parts_77 : decode cX10_parts 77 = .ok (.aload_n 0, 1) := by decide +kernel
theorem dX10_parts_78 : decode cX10_parts 78 = .ok (.getfield 40, 3) := by decide +kernel
theorem dX10_parts_81 : decode cX10_parts 81 = .ok (.getfield 194, 3) := by decide +kernel
theorem dX10_parts_84 : decode cX10_parts 84 = .ok (.iload_n 3, 1) := by decide +kernel
theorem dX10_parts_85 : decode cX10_parts 85 = .ok (.invokevirtual 203, 3) := by decide +kernel
theorem dX10_parts_88 : decode cX10_parts 88 = .ok (.iload 4, 2) := by decide +kernel
theorem dX10_parts_90 : decode cX10_parts 90 = .ok (.invokevirtual 266, 3) := by decide +kernel
theorem dX10_parts_93 : decode cX10_parts 93 = .ok (.ifCond .eq 5, 3) := by decide +kernel
theorem dX10_parts_96 : decode cX10_parts 96 = .ok (.iload_n 3, 1) := by decide +kernel
theorem dX10_parts_97 : decode cX10_parts 97 = .ok (.ireturn, 1) := by decide +kernel
theorem dX10_parts_98 : decode cX10_parts 98 = .ok (.iinc 3 1, 3) := by decide +kernel
theorem dX10_parts_101 : decode cX10_parts 101 = .ok (.goto (-67), 3) := by decide +kernel
theorem dX10_parts_104 : decode cX10_parts 104 = .ok (.bipush (-2), 2) := by decide +kernel
theorem dX10_parts_106 : decode cX10_parts 106 = .ok (.ireturn, 1) := by decide +kernel
/-- QuotientSums.parts(II)I -/
def wX10_parts (mc ms : Nat) (now_bound : Int32) (now_modulus : Int32) (now_seed : Int32) (now_functions : Int32) (rows_turn : Int32) (n_rows_sieve_least : Nat) (rows_sieve_least : Nat → Int32) (now_needs : Nat → Int32) (rows_powers_cells : Nat → Int32) (rows_powers_ofPrime : Nat → Int32) (now_firsts : Nat → Int32) (now_seconds : Nat → Int32) (now_kinds : Nat → Int32) (now_numbers : Nat → Int32) (now_colours : Nat → Int32) (a1 : Int32) (a2 : Int32) (Q : (Int32) → (Nat) → (Nat → Int32) → (Nat → Int32) → (Nat → Int32) → Prop) : Prop :=
  (∃ (P_1 : (Int32) → Prop), wX3_has now_bound now_modulus now_seed now_functions a1 P_1 ∧ ∀ (rF_1 : Int32), P_1 rF_1 → ((rF_1 = 0 → (Q (-1) n_rows_sieve_least rows_sieve_least rows_powers_cells rows_powers_ofPrime)) ∧ (¬ rF_1 = 0 → (∃ (P_2 : (Int32) → Prop), wX3_has now_bound now_modulus now_seed now_functions a2 P_2 ∧ ∀ (rF_2 : Int32), P_2 rF_2 → ((¬ rF_2 = 0 → ((¬ a1 = a2 → (∃ (Inv_1 : (Nat → Int32) → (Nat → Int32) → (Nat → Int32) → (Nat) → (Int32) → (Nat) → (Nat) → Prop) (Mea_1 : (Nat → Int32) → (Nat → Int32) → (Nat → Int32) → (Nat) → (Int32) → (Nat) → (Nat) → Nat), Inv_1 rows_powers_cells rows_powers_ofPrime rows_sieve_least 0 2 n_rows_sieve_least 0 ∧ ∀ (rows_powers_cells_1 : Nat → Int32) (rows_powers_ofPrime_1 : Nat → Int32) (rows_sieve_least_1 : Nat → Int32) (kc_1 : Nat) (x3_1 : Int32) (nF_1 : Nat) (ks_1 : Nat), Inv_1 rows_powers_cells_1 rows_powers_ofPrime_1 rows_sieve_least_1 kc_1 x3_1 nF_1 ks_1 → ((now_bound < x3_1 → (Q (-2) nF_1 rows_sieve_least_1 rows_powers_cells_1 rows_powers_ofPrime_1)) ∧ (¬ now_bound < x3_1 → (∃ (mcF_1 msF_1 : Nat) (P_3 : (Nat) → (Nat → Int32) → Prop), (kc_1 + mcF_1 ≤ mc ∧ ks_1 + msF_1 ≤ ms) ∧ wX8_reach mcF_1 msF_1 nF_1 rows_sieve_least_1 x3_1 P_3 ∧ ∀ (n_least_1 : Nat) (least_1 : Nat → Int32), P_3 n_least_1 least_1 → ∃ (P_4 : (Int32) → Prop), wX8_exponent n_least_1 least_1 x3_1 P_4 ∧ ∀ (rF_3 : Int32), P_4 rF_3 → ((rF_3 ≤ 0 → (Inv_1 rows_powers_cells_1 rows_powers_ofPrime_1 least_1 (kc_1 + mcF_1) (x3_1 + 1) n_least_1 (ks_1 + msF_1) ∧ Mea_1 rows_powers_cells_1 rows_powers_ofPrime_1 least_1 (kc_1 + mcF_1) (x3_1 + 1) n_least_1 (ks_1 + msF_1) < Mea_1 rows_powers_cells_1 rows_powers_ofPrime_1 rows_sieve_least_1 kc_1 x3_1 nF_1 ks_1)) ∧ (¬ rF_3 ≤ 0 → (∃ (P_5 : (Int32) → Prop), wX8_leastPrime n_least_1 least_1 x3_1 P_5 ∧ ∀ (rF_4 : Int32), P_5 rF_4 → ∃ (P_6 : (Int32) → (Nat → Int32) → (Nat → Int32) → Prop), wX10_doPart rows_turn now_bound now_modulus now_seed now_functions now_needs rows_powers_cells_1 rows_powers_ofPrime_1 now_firsts now_seconds now_kinds now_numbers now_colours a1 a2 rF_4 rF_3 P_6 ∧ ∀ (rF_5 : Int32) (rows_powers_cells_2 : Nat → Int32) (rows_powers_ofPrime_2 : Nat → Int32), P_6 rF_5 rows_powers_cells_2 rows_powers_ofPrime_2 → ((rF_5 = 0 → (Inv_1 rows_powers_cells_2 rows_powers_ofPrime_2 least_1 (kc_1 + mcF_1) (x3_1 + 1) n_least_1 (ks_1 + msF_1) ∧ Mea_1 rows_powers_cells_2 rows_powers_ofPrime_2 least_1 (kc_1 + mcF_1) (x3_1 + 1) n_least_1 (ks_1 + msF_1) < Mea_1 rows_powers_cells_1 rows_powers_ofPrime_1 rows_sieve_least_1 kc_1 x3_1 nF_1 ks_1)) ∧ (¬ rF_5 = 0 → (Q x3_1 n_least_1 least_1 rows_powers_cells_2 rows_powers_ofPrime_2))))))))))) ∧ (a1 = a2 → (Q (-2) n_rows_sieve_least rows_sieve_least rows_powers_cells rows_powers_ofPrime)))) ∧ (rF_2 = 0 → (Q (-1) n_rows_sieve_least rows_sieve_least rows_powers_cells rows_powers_ofPrime)))))))
set_option maxHeartbeats 4000000 in
set_option maxRecDepth 100000 in
theorem mX10_parts (l : Launch) (D : va_G) (Y : Nat → ClassId) (mc ms : Nat) (h0 : Nat) (q_now : Nat) (v_reader : Value) (v_changes : Value) (v_image : Value) (q_rows : Nat) (v_couples : Value) (now_bound : Int32) (now_modulus : Int32) (now_seed : Int32) (now_functions : Int32) (v_now_names : Value) (q_now_kinds : Nat) (q_now_firsts : Nat) (q_now_seconds : Nat) (v_now_degrees : Value) (q_now_colours : Nat) (q_now_needs : Nat) (q_now_numbers : Nat) (q_rows_sieve : Nat) (q_rows_powers : Nat) (v_rows_rows : Value) (rows_turn : Int32) (q_rows_sieve_least : Nat) (n_rows_sieve_least : Nat) (rows_sieve_least : Nat → Int32) (now_needs : Nat → Int32) (q_rows_powers_ofPrime : Nat) (q_rows_powers_cells : Nat) (rows_powers_cells : Nat → Int32) (rows_powers_ofPrime : Nat → Int32) (now_firsts : Nat → Int32) (now_seconds : Nat → Int32) (now_kinds : Nat → Int32) (now_numbers : Nat → Int32) (now_colours : Nat → Int32) (a1 : Int32) (a2 : Int32) (Q : (Int32) → (Nat) → (Nat → Int32) → (Nat → Int32) → (Nat → Int32) → Prop) (h : wX10_parts mc ms now_bound now_modulus now_seed now_functions rows_turn n_rows_sieve_least rows_sieve_least now_needs rows_powers_cells rows_powers_ofPrime now_firsts now_seconds now_kinds now_numbers now_colours a1 a2 Q) : gM l D Y yX10_parts cX10_parts 5 (some .int) 5 122 mc ms [.ref h0, .int a1, .int a2] [oX10 h0 (.ref q_now) (v_reader) (v_changes) (v_image) (.ref q_rows) (v_couples), oX3 q_now now_bound now_modulus now_seed now_functions (v_now_names) (.ref q_now_kinds) (.ref q_now_firsts) (.ref q_now_seconds) (v_now_degrees) (.ref q_now_colours) (.ref q_now_needs) (.ref q_now_numbers), oX7 q_rows (.ref q_rows_sieve) (.ref q_rows_powers) (v_rows_rows) rows_turn, oX8 q_rows_sieve (.ref q_rows_sieve_least), aI Y q_rows_sieve_least n_rows_sieve_least rows_sieve_least, aI Y q_now_needs 12 now_needs, oX4 q_rows_powers (.ref q_rows_powers_ofPrime) (.ref q_rows_powers_cells), aI Y q_rows_powers_cells 216 rows_powers_cells, aI Y q_rows_powers_ofPrime 18 rows_powers_ofPrime, aI Y q_now_firsts 12 now_firsts, aI Y q_now_seconds 12 now_seconds, aI Y q_now_kinds 12 now_kinds, aI Y q_now_numbers 144 now_numbers, aI Y q_now_colours 12 now_colours] (fun v w => ∃ r : Int32, ∃ q_rows_sieve_least' : Nat, ∃ n_rows_sieve_least' : Nat, ∃ rows_sieve_least' : Nat → Int32, ∃ rows_powers_cells' : Nat → Int32, ∃ rows_powers_ofPrime' : Nat → Int32, v = some (.int r) ∧ w = [oX10 h0 (.ref q_now) (v_reader) (v_changes) (v_image) (.ref q_rows) (v_couples), oX3 q_now now_bound now_modulus now_seed now_functions (v_now_names) (.ref q_now_kinds) (.ref q_now_firsts) (.ref q_now_seconds) (v_now_degrees) (.ref q_now_colours) (.ref q_now_needs) (.ref q_now_numbers), oX7 q_rows (.ref q_rows_sieve) (.ref q_rows_powers) (v_rows_rows) rows_turn, oX8 q_rows_sieve (.ref q_rows_sieve_least'), aI Y q_rows_sieve_least' n_rows_sieve_least' rows_sieve_least', aI Y q_now_needs 12 now_needs, oX4 q_rows_powers (.ref q_rows_powers_ofPrime) (.ref q_rows_powers_cells), aI Y q_rows_powers_cells 216 rows_powers_cells', aI Y q_rows_powers_ofPrime 18 rows_powers_ofPrime', aI Y q_now_firsts 12 now_firsts, aI Y q_now_seconds 12 now_seconds, aI Y q_now_kinds 12 now_kinds, aI Y q_now_numbers 144 now_numbers, aI Y q_now_colours 12 now_colours] ∧ Q r n_rows_sieve_least' rows_sieve_least' rows_powers_cells' rows_powers_ofPrime') := by
  refine gM_of (own := RX10) (by decide +kernel) rfl (Nat.le_of_ble_eq_true rfl) rfl (fun E C hR => ?_)
  unfold wX10_parts at h
  refine g_aload_n C dX10_parts_0 0 rfl ?_
  refine g_get C inX10 0 rfl rfl 0 (by decide) wF_X10_10 rfl dX10_parts_1 ?_
  refine g_iload_n C dX10_parts_4 1 rfl ?_
  obtain ⟨P_1, hP, h⟩ := h
  refine g_callV (As := [.int a1]) (rest := []) C (mX3_has l D Y q_now now_bound now_modulus now_seed now_functions v_now_names (.ref q_now_kinds) (.ref q_now_firsts) (.ref q_now_seconds) v_now_degrees (.ref q_now_colours) (.ref q_now_needs) (.ref q_now_numbers) a1 P_1 hP) dX10_parts_5 rfl wM_X10_98 wI_X3_has wV_X3_has wN_X3 wC_X3_has (n := 1) (by decide +kernel) rfl (q0 := 0) rfl rfl ⟨Nat.le_of_ble_eq_true rfl, Nat.le_of_ble_eq_true rfl⟩ ⟨Nat.zero_le _, Nat.zero_le _⟩ (Nat.le_of_ble_eq_true rfl) [1] [0, 2, 3, 4, 5, 6, 7, 8, 9, 10, 11, 12, 13] rfl rfl rfl (fun v wc hv => ?_)
  obtain ⟨rF_1, rfl, rfl, hq⟩ := hv
  replace h := h rF_1 hq
  refine gG.perm (ws' := [oX10 h0 (.ref q_now) (v_reader) (v_changes) (v_image) (.ref q_rows) (v_couples), oX3 q_now now_bound now_modulus now_seed now_functions (v_now_names) (.ref q_now_kinds) (.ref q_now_firsts) (.ref q_now_seconds) (v_now_degrees) (.ref q_now_colours) (.ref q_now_needs) (.ref q_now_numbers), oX7 q_rows (.ref q_rows_sieve) (.ref q_rows_powers) (v_rows_rows) rows_turn, oX8 q_rows_sieve (.ref q_rows_sieve_least), aI Y q_rows_sieve_least n_rows_sieve_least rows_sieve_least, aI Y q_now_needs 12 now_needs, oX4 q_rows_powers (.ref q_rows_powers_ofPrime) (.ref q_rows_powers_cells), aI Y q_rows_powers_cells 216 rows_powers_cells, aI Y q_rows_powers_ofPrime 18 rows_powers_ofPrime, aI Y q_now_firsts 12 now_firsts, aI Y q_now_seconds 12 now_seconds, aI Y q_now_kinds 12 now_kinds, aI Y q_now_numbers 144 now_numbers, aI Y q_now_colours 12 now_colours]) [0, 13, 1, 2, 3, 4, 5, 6, 7, 8, 9, 10, 11, 12] rfl rfl ?_
  refine g_if_eq (tgt := 22) C dX10_parts_8 (by decide) (fun c_1 => ?_) (fun c_1 => ?_)
  · replace h := h.1 c_1
    refine g_iconst (v := (-1)) C dX10_parts_22 rfl ?_
    exact g_iret C hR (show 0 ≤ mc ∧ 0 ≤ ms from ⟨Nat.zero_le _, Nat.zero_le _⟩).1 (show 0 ≤ mc ∧ 0 ≤ ms from ⟨Nat.zero_le _, Nat.zero_le _⟩).2 dX10_parts_23 ⟨(-1), q_rows_sieve_least, n_rows_sieve_least, rows_sieve_least, rows_powers_cells, rows_powers_ofPrime, rfl, rfl, h⟩
  · replace h := h.2 c_1
    refine g_aload_n C dX10_parts_11 0 rfl ?_
    refine g_get C inX10 0 rfl rfl 0 (by decide) wF_X10_10 rfl dX10_parts_12 ?_
    refine g_iload_n C dX10_parts_15 2 rfl ?_
    obtain ⟨P_2, hP, h⟩ := h
    refine g_callV (As := [.int a2]) (rest := []) C (mX3_has l D Y q_now now_bound now_modulus now_seed now_functions v_now_names (.ref q_now_kinds) (.ref q_now_firsts) (.ref q_now_seconds) v_now_degrees (.ref q_now_colours) (.ref q_now_needs) (.ref q_now_numbers) a2 P_2 hP) dX10_parts_16 rfl wM_X10_98 wI_X3_has wV_X3_has wN_X3 wC_X3_has (n := 1) (by decide +kernel) rfl (q0 := 0) rfl rfl ⟨Nat.le_of_ble_eq_true rfl, Nat.le_of_ble_eq_true rfl⟩ ⟨Nat.zero_le _, Nat.zero_le _⟩ (Nat.le_of_ble_eq_true rfl) [1] [0, 2, 3, 4, 5, 6, 7, 8, 9, 10, 11, 12, 13] rfl rfl rfl (fun v wc hv => ?_)
    obtain ⟨rF_2, rfl, rfl, hq⟩ := hv
    replace h := h rF_2 hq
    refine gG.perm (ws' := [oX10 h0 (.ref q_now) (v_reader) (v_changes) (v_image) (.ref q_rows) (v_couples), oX3 q_now now_bound now_modulus now_seed now_functions (v_now_names) (.ref q_now_kinds) (.ref q_now_firsts) (.ref q_now_seconds) (v_now_degrees) (.ref q_now_colours) (.ref q_now_needs) (.ref q_now_numbers), oX7 q_rows (.ref q_rows_sieve) (.ref q_rows_powers) (v_rows_rows) rows_turn, oX8 q_rows_sieve (.ref q_rows_sieve_least), aI Y q_rows_sieve_least n_rows_sieve_least rows_sieve_least, aI Y q_now_needs 12 now_needs, oX4 q_rows_powers (.ref q_rows_powers_ofPrime) (.ref q_rows_powers_cells), aI Y q_rows_powers_cells 216 rows_powers_cells, aI Y q_rows_powers_ofPrime 18 rows_powers_ofPrime, aI Y q_now_firsts 12 now_firsts, aI Y q_now_seconds 12 now_seconds, aI Y q_now_kinds 12 now_kinds, aI Y q_now_numbers 144 now_numbers, aI Y q_now_colours 12 now_colours]) [0, 13, 1, 2, 3, 4, 5, 6, 7, 8, 9, 10, 11, 12] rfl rfl ?_
    refine g_if_ne (tgt := 24) C dX10_parts_19 (by decide) (fun c_2 => ?_) (fun c_2 => ?_)
    · replace h := h.1 c_2
      refine g_iload_n C dX10_parts_24 1 rfl ?_
      refine g_iload_n C dX10_parts_25 2 rfl ?_
      refine g_icmp_ne (tgt := 32) C dX10_parts_26 (by decide) (fun c_3 => ?_) (fun c_3 => ?_)
      · replace h := h.1 c_3
        refine g_iconst (v := 2) C dX10_parts_32 rfl ?_
        refine g_istore_n (lv' := [(3, .int 2), (0, .ref h0), (1, .int a1), (2, .int a2)]) C dX10_parts_33 (by decide) rfl ?_
        obtain ⟨Inv_1, Mea_1, hI1, hB1⟩ := h
        have key_1 : ∀ (n : Nat) (rows_powers_cells_1 : Nat → Int32) (rows_powers_ofPrime_1 : Nat → Int32) (rows_sieve_least_1 : Nat → Int32) (kc_1 : Nat) (x3_1 : Int32) (nF_1 : Nat) (ks_1 : Nat) (q_1 : Nat), Mea_1 rows_powers_cells_1 rows_powers_ofPrime_1 rows_sieve_least_1 kc_1 x3_1 nF_1 ks_1 < n → Inv_1 rows_powers_cells_1 rows_powers_ofPrime_1 rows_sieve_least_1 kc_1 x3_1 nF_1 ks_1 → kc_1 ≤ mc ∧ ks_1 ≤ ms → gG E kc_1 ks_1 [oX10 h0 (.ref q_now) (v_reader) (v_changes) (v_image) (.ref q_rows) (v_couples), oX3 q_now now_bound now_modulus now_seed now_functions (v_now_names) (.ref q_now_kinds) (.ref q_now_firsts) (.ref q_now_seconds) (v_now_degrees) (.ref q_now_colours) (.ref q_now_needs) (.ref q_now_numbers), oX7 q_rows (.ref q_rows_sieve) (.ref q_rows_powers) (v_rows_rows) rows_turn, oX8 q_rows_sieve (.ref q_1), aI Y q_1 nF_1 rows_sieve_least_1, aI Y q_now_needs 12 now_needs, oX4 q_rows_powers (.ref q_rows_powers_ofPrime) (.ref q_rows_powers_cells), aI Y q_rows_powers_cells 216 rows_powers_cells_1, aI Y q_rows_powers_ofPrime 18 rows_powers_ofPrime_1, aI Y q_now_firsts 12 now_firsts, aI Y q_now_seconds 12 now_seconds, aI Y q_now_kinds 12 now_kinds, aI Y q_now_numbers 144 now_numbers, aI Y q_now_colours 12 now_colours] [(0, .ref h0), (1, .int a1), (2, .int a2), (3, .int x3_1)] [] 34 := by
          intro n
          induction n with
          | zero => exact fun _ _ _ _ _ _ _ _ hm => absurd hm (Nat.not_lt_zero _)
          | succ n ih1 =>
            intro rows_powers_cells_1 rows_powers_ofPrime_1 rows_sieve_least_1 kc_1 x3_1 nF_1 ks_1 q_1 hm1 hI hr_1
            have h := hB1 rows_powers_cells_1 rows_powers_ofPrime_1 rows_sieve_least_1 kc_1 x3_1 nF_1 ks_1 hI
            refine g_iload_n C dX10_parts_34 3 rfl ?_
            refine g_aload_n C dX10_parts_35 0 rfl ?_
            refine g_get C inX10 0 rfl rfl 0 (by decide) wF_X10_10 rfl dX10_parts_36 ?_
            refine g_get C inX3 1 rfl rfl 0 (by decide) wF_X10_143 rfl dX10_parts_39 ?_
            refine g_icmp_gt (tgt := 104) C dX10_parts_42 (by decide) (fun c_4 => ?_) (fun c_4 => ?_)
            · replace h := h.1 c_4
              refine g_bipush (v := (-2)) C dX10_parts_104 rfl ?_
              exact g_iret C hR (show kc_1 ≤ mc ∧ ks_1 ≤ ms from hr_1).1 (show kc_1 ≤ mc ∧ ks_1 ≤ ms from hr_1).2 dX10_parts_106 ⟨(-2), q_1, nF_1, rows_sieve_least_1, rows_powers_cells_1, rows_powers_ofPrime_1, rfl, rfl, h⟩
            · replace h := h.2 c_4
              refine g_aload_n C dX10_parts_45 0 rfl ?_
              refine g_get C inX10 0 rfl rfl 4 (by decide) wF_X10_40 rfl dX10_parts_46 ?_
              refine g_get C inX7 2 rfl rfl 0 (by decide) wF_X10_194 rfl dX10_parts_49 ?_
              refine g_iload_n C dX10_parts_52 3 rfl ?_
              obtain ⟨mcF_1, msF_1, P_3, hk_1, hP, h⟩ := h
              refine g_callV (As := [.int x3_1]) (rest := []) C (mX8_reach l D Y mcF_1 msF_1 q_rows_sieve q_1 nF_1 rows_sieve_least_1 x3_1 P_3 hP) dX10_parts_53 rfl wM_X10_198 wI_X8_reach wV_X8_reach wN_X8 wC_X8_reach (n := 1) (by decide +kernel) rfl (q0 := 0) rfl rfl ⟨Nat.le_of_ble_eq_true rfl, Nat.le_of_ble_eq_true rfl⟩ hk_1 (Nat.le_of_ble_eq_true rfl) [3, 4] [0, 1, 2, 5, 6, 7, 8, 9, 10, 11, 12, 13] rfl rfl rfl (fun v wc hv => ?_)
              obtain ⟨q_least_1, n_least_1, least_1, rfl, rfl, hq⟩ := hv
              replace h := h n_least_1 least_1 hq
              refine gG.perm (ws' := [oX10 h0 (.ref q_now) (v_reader) (v_changes) (v_image) (.ref q_rows) (v_couples), oX3 q_now now_bound now_modulus now_seed now_functions (v_now_names) (.ref q_now_kinds) (.ref q_now_firsts) (.ref q_now_seconds) (v_now_degrees) (.ref q_now_colours) (.ref q_now_needs) (.ref q_now_numbers), oX7 q_rows (.ref q_rows_sieve) (.ref q_rows_powers) (v_rows_rows) rows_turn, oX8 q_rows_sieve (.ref q_least_1), aI Y q_least_1 n_least_1 least_1, aI Y q_now_needs 12 now_needs, oX4 q_rows_powers (.ref q_rows_powers_ofPrime) (.ref q_rows_powers_cells), aI Y q_rows_powers_cells 216 rows_powers_cells_1, aI Y q_rows_powers_ofPrime 18 rows_powers_ofPrime_1, aI Y q_now_firsts 12 now_firsts, aI Y q_now_seconds 12 now_seconds, aI Y q_now_kinds 12 now_kinds, aI Y q_now_numbers 144 now_numbers, aI Y q_now_colours 12 now_colours]) [0, 1, 2, 12, 13, 3, 4, 5, 6, 7, 8, 9, 10, 11] rfl rfl ?_
              refine g_aload_n C dX10_parts_56 0 rfl ?_
              refine g_get C inX10 0 rfl rfl 4 (by decide) wF_X10_40 rfl dX10_parts_57 ?_
              refine g_get C inX7 2 rfl rfl 0 (by decide) wF_X10_194 rfl dX10_parts_60 ?_
              refine g_iload_n C dX10_parts_63 3 rfl ?_
              obtain ⟨P_4, hP, h⟩ := h
              refine g_callV (As := [.int x3_1]) (rest := []) C (mX8_exponent l D Y q_rows_sieve q_least_1 n_least_1 least_1 x3_1 P_4 hP) dX10_parts_64 rfl wM_X10_263 wI_X8_exponent wV_X8_exponent wN_X8 wC_X8_exponent (n := 1) (by decide +kernel) rfl (q0 := 0) rfl rfl ⟨Nat.le_of_ble_eq_true rfl, Nat.le_of_ble_eq_true rfl⟩ hk_1 (Nat.le_of_ble_eq_true rfl) [3, 4] [0, 1, 2, 5, 6, 7, 8, 9, 10, 11, 12, 13] rfl rfl rfl (fun v wc hv => ?_)
              obtain ⟨rF_3, rfl, rfl, hq⟩ := hv
              replace h := h rF_3 hq
              refine gG.perm (ws' := [oX10 h0 (.ref q_now) (v_reader) (v_changes) (v_image) (.ref q_rows) (v_couples), oX3 q_now now_bound now_modulus now_seed now_functions (v_now_names) (.ref q_now_kinds) (.ref q_now_firsts) (.ref q_now_seconds) (v_now_degrees) (.ref q_now_colours) (.ref q_now_needs) (.ref q_now_numbers), oX7 q_rows (.ref q_rows_sieve) (.ref q_rows_powers) (v_rows_rows) rows_turn, oX8 q_rows_sieve (.ref q_least_1), aI Y q_least_1 n_least_1 least_1, aI Y q_now_needs 12 now_needs, oX4 q_rows_powers (.ref q_rows_powers_ofPrime) (.ref q_rows_powers_cells), aI Y q_rows_powers_cells 216 rows_powers_cells_1, aI Y q_rows_powers_ofPrime 18 rows_powers_ofPrime_1, aI Y q_now_firsts 12 now_firsts, aI Y q_now_seconds 12 now_seconds, aI Y q_now_kinds 12 now_kinds, aI Y q_now_numbers 144 now_numbers, aI Y q_now_colours 12 now_colours]) [0, 1, 2, 12, 13, 3, 4, 5, 6, 7, 8, 9, 10, 11] rfl rfl ?_
              refine g_istore (lv' := [(4, .int rF_3), (0, .ref h0), (1, .int a1), (2, .int a2), (3, .int x3_1)]) C dX10_parts_67 (by decide) rfl ?_
              refine g_iload C dX10_parts_69 0 rfl ?_
              refine g_if_le (tgt := 98) C dX10_parts_71 (by decide) (fun c_5 => ?_) (fun c_5 => ?_)
              · replace h := h.1 c_5
                refine g_iinc (v := x3_1 + 1) (lv' := [(3, .int (x3_1 + 1)), (4, .int rF_3), (0, .ref h0), (1, .int a1), (2, .int a2)]) C dX10_parts_98 4 rfl rfl (by decide) rfl ?_
                refine g_goto (tgt := 34) C dX10_parts_101 (by decide) ?_
                refine gG.locals (lv' := [(0, .ref h0), (1, .int a1), (2, .int a2), (3, .int (x3_1 + 1))]) [2, 3, 4, 0] rfl ?_
                exact ih1 rows_powers_cells_1 rows_powers_ofPrime_1 least_1 (kc_1 + mcF_1) (x3_1 + 1) n_least_1 (ks_1 + msF_1) q_least_1 (Nat.lt_of_lt_of_le h.2 (Nat.le_of_lt_succ hm1)) h.1 (show kc_1 + mcF_1 ≤ mc ∧ ks_1 + msF_1 ≤ ms from hk_1)
              · replace h := h.2 c_5
                refine g_aload_n C dX10_parts_74 1 rfl ?_
                refine g_iload_n C dX10_parts_75 2 rfl ?_
                refine g_iload_n C dX10_parts_76 3 rfl ?_
                refine g_aload_n C dX10_parts_77 1 rfl ?_
                refine g_get C inX10 0 rfl rfl 4 (by decide) wF_X10_40 rfl dX10_parts_78 ?_
                refine g_get C inX7 2 rfl rfl 0 (by decide) wF_X10_194 rfl dX10_parts_81 ?_
                refine g_iload_n C dX10_parts_84 4 rfl ?_
                obtain ⟨P_5, hP, h⟩ := h
                refine g_callV (As := [.int x3_1]) (rest := [.int a2, .int a1, .ref h0]) C (mX8_leastPrime l D Y q_rows_sieve q_least_1 n_least_1 least_1 x3_1 P_5 hP) dX10_parts_85 rfl wM_X10_203 wI_X8_leastPrime wV_X8_leastPrime wN_X8 wC_X8_leastPrime (n := 1) (by decide +kernel) rfl (q0 := 0) rfl rfl ⟨Nat.le_of_ble_eq_true rfl, Nat.le_of_ble_eq_true rfl⟩ hk_1 (Nat.le_of_ble_eq_true rfl) [3, 4] [0, 1, 2, 5, 6, 7, 8, 9, 10, 11, 12, 13] rfl rfl rfl (fun v wc hv => ?_)
                obtain ⟨rF_4, rfl, rfl, hq⟩ := hv
                replace h := h rF_4 hq
                refine gG.perm (ws' := [oX10 h0 (.ref q_now) (v_reader) (v_changes) (v_image) (.ref q_rows) (v_couples), oX3 q_now now_bound now_modulus now_seed now_functions (v_now_names) (.ref q_now_kinds) (.ref q_now_firsts) (.ref q_now_seconds) (v_now_degrees) (.ref q_now_colours) (.ref q_now_needs) (.ref q_now_numbers), oX7 q_rows (.ref q_rows_sieve) (.ref q_rows_powers) (v_rows_rows) rows_turn, oX8 q_rows_sieve (.ref q_least_1), aI Y q_least_1 n_least_1 least_1, aI Y q_now_needs 12 now_needs, oX4 q_rows_powers (.ref q_rows_powers_ofPrime) (.ref q_rows_powers_cells), aI Y q_rows_powers_cells 216 rows_powers_cells_1, aI Y q_rows_powers_ofPrime 18 rows_powers_ofPrime_1, aI Y q_now_firsts 12 now_firsts, aI Y q_now_seconds 12 now_seconds, aI Y q_now_kinds 12 now_kinds, aI Y q_now_numbers 144 now_numbers, aI Y q_now_colours 12 now_colours]) [0, 1, 2, 12, 13, 3, 4, 5, 6, 7, 8, 9, 10, 11] rfl rfl ?_
                refine g_iload C dX10_parts_88 0 rfl ?_
                obtain ⟨P_6, hP, h⟩ := h
                refine g_callV (As := [.int a1, .int a2, .int rF_4, .int rF_3]) (rest := []) C (mX10_doPart l D Y h0 q_now v_reader v_changes v_image q_rows v_couples (.ref q_rows_sieve) q_rows_powers v_rows_rows rows_turn now_bound now_modulus now_seed now_functions v_now_names q_now_kinds q_now_firsts q_now_seconds v_now_degrees q_now_colours q_now_needs q_now_numbers now_needs q_rows_powers_ofPrime q_rows_powers_cells rows_powers_cells_1 rows_powers_ofPrime_1 now_firsts now_seconds now_kinds now_numbers now_colours a1 a2 rF_4 rF_3 P_6 hP) dX10_parts_90 rfl wM_X10_266 wI_X10_doPart wV_X10_doPart wN_X10 wC_X10_doPart (n := 4) (by decide +kernel) rfl (q0 := 0) rfl rfl ⟨Nat.le_of_ble_eq_true rfl, Nat.le_of_ble_eq_true rfl⟩ hk_1 (Nat.le_of_ble_eq_true rfl) [0, 2, 1, 5, 6, 7, 8, 9, 10, 11, 12, 13] [3, 4] rfl rfl rfl (fun v wc hv => ?_)
                obtain ⟨rF_5, rows_powers_cells_2, rows_powers_ofPrime_2, rfl, rfl, hq⟩ := hv
                replace h := h rF_5 rows_powers_cells_2 rows_powers_ofPrime_2 hq
                refine gG.perm (ws' := [oX10 h0 (.ref q_now) (v_reader) (v_changes) (v_image) (.ref q_rows) (v_couples), oX3 q_now now_bound now_modulus now_seed now_functions (v_now_names) (.ref q_now_kinds) (.ref q_now_firsts) (.ref q_now_seconds) (v_now_degrees) (.ref q_now_colours) (.ref q_now_needs) (.ref q_now_numbers), oX7 q_rows (.ref q_rows_sieve) (.ref q_rows_powers) (v_rows_rows) rows_turn, oX8 q_rows_sieve (.ref q_least_1), aI Y q_least_1 n_least_1 least_1, aI Y q_now_needs 12 now_needs, oX4 q_rows_powers (.ref q_rows_powers_ofPrime) (.ref q_rows_powers_cells), aI Y q_rows_powers_cells 216 rows_powers_cells_2, aI Y q_rows_powers_ofPrime 18 rows_powers_ofPrime_2, aI Y q_now_firsts 12 now_firsts, aI Y q_now_seconds 12 now_seconds, aI Y q_now_kinds 12 now_kinds, aI Y q_now_numbers 144 now_numbers, aI Y q_now_colours 12 now_colours]) [2, 4, 3, 0, 1, 5, 6, 7, 8, 9, 10, 11, 12, 13] rfl rfl ?_
                refine g_if_eq (tgt := 98) C dX10_parts_93 (by decide) (fun c_6 => ?_) (fun c_6 => ?_)
                · replace h := h.1 c_6
                  refine g_iinc (v := x3_1 + 1) (lv' := [(3, .int (x3_1 + 1)), (4, .int rF_3), (0, .ref h0), (1, .int a1), (2, .int a2)]) C dX10_parts_98 4 rfl rfl (by decide) rfl ?_
                  refine g_goto (tgt := 34) C dX10_parts_101 (by decide) ?_
                  refine gG.locals (lv' := [(0, .ref h0), (1, .int a1), (2, .int a2), (3, .int (x3_1 + 1))]) [2, 3, 4, 0] rfl ?_
                  exact ih1 rows_powers_cells_2 rows_powers_ofPrime_2 least_1 (kc_1 + mcF_1) (x3_1 + 1) n_least_1 (ks_1 + msF_1) q_least_1 (Nat.lt_of_lt_of_le h.2 (Nat.le_of_lt_succ hm1)) h.1 (show kc_1 + mcF_1 ≤ mc ∧ ks_1 + msF_1 ≤ ms from hk_1)
                · replace h := h.2 c_6
                  refine g_iload_n C dX10_parts_96 4 rfl ?_
                  exact g_iret C hR (show kc_1 + mcF_1 ≤ mc ∧ ks_1 + msF_1 ≤ ms from hk_1).1 (show kc_1 + mcF_1 ≤ mc ∧ ks_1 + msF_1 ≤ ms from hk_1).2 dX10_parts_97 ⟨x3_1, q_least_1, n_least_1, least_1, rows_powers_cells_2, rows_powers_ofPrime_2, rfl, rfl, h⟩
        refine gG.locals (lv' := [(0, .ref h0), (1, .int a1), (2, .int a2), (3, .int 2)]) [1, 2, 3, 0] rfl ?_
        exact key_1 (Mea_1 rows_powers_cells rows_powers_ofPrime rows_sieve_least 0 2 n_rows_sieve_least 0 + 1) rows_powers_cells rows_powers_ofPrime rows_sieve_least 0 2 n_rows_sieve_least 0 q_rows_sieve_least (Nat.lt_succ_self _) hI1 (show 0 ≤ mc ∧ 0 ≤ ms from ⟨Nat.zero_le _, Nat.zero_le _⟩)
      · replace h := h.2 c_3
        refine g_bipush (v := (-2)) C dX10_parts_29 rfl ?_
        exact g_iret C hR (show 0 ≤ mc ∧ 0 ≤ ms from ⟨Nat.zero_le _, Nat.zero_le _⟩).1 (show 0 ≤ mc ∧ 0 ≤ ms from ⟨Nat.zero_le _, Nat.zero_le _⟩).2 dX10_parts_31 ⟨(-2), q_rows_sieve_least, n_rows_sieve_least, rows_sieve_least, rows_powers_cells, rows_powers_ofPrime, rfl, rfl, h⟩
    · replace h := h.2 c_2
      refine g_iconst (v := (-1)) C dX10_parts_22 rfl ?_
      exact g_iret C hR (show 0 ≤ mc ∧ 0 ≤ ms from ⟨Nat.zero_le _, Nat.zero_le _⟩).1 (show 0 ≤ mc ∧ 0 ≤ ms from ⟨Nat.zero_le _, Nat.zero_le _⟩).2 dX10_parts_23 ⟨(-1), q_rows_sieve_least, n_rows_sieve_least, rows_sieve_least, rows_powers_cells, rows_powers_ofPrime, rfl, rfl, h⟩
theorem dX10_best_0 : decode cX10_best 0 = .ok (.aload_n 0, 1) := by decide +kernel
theorem dX10_best_1 : decode cX10_best 1 = .ok (.getfield 10, 3) := by decide +kernel
theorem dX10_best_4 : decode cX10_best 4 = .ok (.iload_n 1, 1) := by decide +kernel
theorem dX10_best_5 : decode cX10_best 5 = .ok (.invokevirtual 98, 3) := by decide +kernel
theorem dX10_best_8 : decode cX10_best 8 = .ok (.ifCond .eq 11, 3) := by decide +kernel
theorem dX10_best_11 : decode cX10_best 11 = .ok (.aload_n 0, 1) := by decide +kernel
theorem dX10_best_12 : decode cX10_best 12 = .ok (.iload_n 2, 1) := by decide +kernel
theorem dX10_best_13 : decode cX10_best 13 = .ok (.invokevirtual 161, 3) := by decide +kernel
theorem dX10_best_16 : decode cX10_best 16 = .ok (.ifCond .ne 5, 3) := by decide +kernel
theorem dX10_best_19 : decode cX10_best 19 = .ok (.iconst (-1), 1) := by decide +kernel
theorem dX10_best_20 : decode cX10_best 20 = .ok (.ireturn, 1) := by decide +kernel
theorem dX10_best_21 : decode cX10_best 21 = .ok (.aload_n 0, 1) := by decide +kernel
theorem dX10_best_22 : decode cX10_best 22 = .ok (.getfield 40, 3) := by decide +kernel
theorem dX10_best_25 : decode cX10_best 25 = .ok (.aload_n 0, 1) := by decide +kernel
theorem dX10_best_26 : decode cX10_best 26 = .ok (.getfield 10, 3) := by decide +kernel
theorem dX10_best_29 : decode cX10_best 29 = .ok (.iload_n 1, 1) := by decide +kernel
theorem dX10_best_30 : decode cX10_best 30 = .ok (.iload_n 2, 1) := by decide +kernel
theorem dX10_best_31 : decode cX10_best 31 = .ok (.invokevirtual 182, 3) := by decide +kernel
theorem dX10_best_34 : decode cX10_best 34 = .ok (.astore 4, 2) := by decide +kernel
theorem dX10_best_36 : decode cX10_best 36 = .ok (.iconst 1, 1) := by decide +kernel
theorem dX10_best_37 : decode cX10_best 37 = .ok (.istore 5, 2) := by decide +kernel
theorem dX10_best_39 : decode cX10_best 39 = .ok (.iconst 1, 1) := by decide +kernel
theorem dX10_best_40 : decode cX10_best 40 = .ok (.istore 6, 2) := by decide +kernel
theorem dX10_best_42 : decode cX10_best 42 = .ok (.iconst 2, 1) := by decide +kernel
theorem dX10_best_43 : decode cX10_best 43 = .ok (.istore 7, 2) := by decide +kernel
theorem dX10_best_45 : decode cX10_best 45 = .ok (.iload 7, 2) := by decide +kernel
theorem dX10_best_47 : decode cX10_best 47 = .ok (.iload_n 2, 1) := by decide +kernel
theorem dX10_best_48 : decode cX10_best 48 = .ok (.if_icmp .gt 47, 3) := by decide +kernel
theorem dX10_best_51 : decode cX10_best 51 = .ok (.iload_n 3, 1) := by decide +kernel
theorem dX10_best_52 : decode cX10_best 52 = .ok (.ifCond .eq 13, 3) := by decide +kernel
theorem dX10_best_55 : decode cX10_best 55 = .ok (.aload 4, 2) := by decide +kernel
theorem dX10_best_57 : decode cX10_best 57 = .ok (.iload 7, 2) := by decide +kernel
theorem dX10_best_59 : decode cX10_best 59 = .ok (.invokevirtual 186, 3) := by decide +kernel
theorem dX10_best_62 : decode cX10_best 62 = .ok (.goto 10, 3) := by decide +kernel
theorem dX10_best_65 : decode cX10_best 65 = .ok (.aload 4, 2) := by decide +kernel
theorem dX10_best_67 : decode cX10_best 67 = .ok (.iload 7, 2) := by decide +kernel
theorem dX10_best_69 : decode cX10_best 69 = .ok (.invokevirtual 250, 3) := by decide +kernel
theorem dX10_best_72 : decode cX10_best 72 = .ok (.istore 8, 2) := by decide +kernel
theorem dX10_best_74 : decode cX10_best 74 = .ok (.iload 8, 2) := by decide +kernel
theorem dX10_best_76 : decode cX10_best 76 = .ok (.iload 6, 2) := by decide +kernel
theorem dX10_best_78 : decode cX10_best 78 = .ok (.if_icmp .le 11, 3) := by decide +kernel
theorem dX10_best_81 : decode cX10_best 81 = .ok (.iload 8, 2) := by decide +kernel
theorem dX10_best_83 : decode cX10_best 83 = .ok (.istore 6, 2) := by decide +kernel
theorem dX10_best_85 : decode cX10_best 85 = .ok (.iload 7, 2) := by decide +kernel
theorem dX10_best_87 : decode cX10_best 87 = .ok (.istore 5, 2) := by decide +kernel
theorem dX10_best_89 : decode cX10_best 89 = .ok (.iinc 7 1, 3) := by decide +kernel
theorem dX10_best_92 : decode cX10_best 92 = .ok (.goto (-47), 3) := by decide +kernel
theorem dX10_best_95 : decode cX10_best 95 = .ok (.iload 5, 2) := by decide +kernel
theorem dX10_best_97 : decode cX10_best 97 = .ok (.ireturn, 1) := by decide +kernel
/-- QuotientSums.best(IIZ)I -/
def wX10_best (mc ms : Nat) (now_bound : Int32) (now_modulus : Int32) (now_seed : Int32) (now_functions : Int32) (rf : Nat → Int32) (rm : Nat → Int32) (rl : Nat → Int32) (ru : Nat → Int32) (rn : Nat → Nat) (rv : Nat → Nat → Int32) (rows_turn : Int32) (n_rows_sieve_least : Nat) (rows_sieve_least : Nat → Int32) (now_needs : Nat → Int32) (rows_powers_cells : Nat → Int32) (rows_powers_ofPrime : Nat → Int32) (now_firsts : Nat → Int32) (now_seconds : Nat → Int32) (now_kinds : Nat → Int32) (now_numbers : Nat → Int32) (now_colours : Nat → Int32) (a1 : Int32) (a2 : Int32) (a3 : Int32) (Q : (Int32) → (Nat → Int32) → (Nat → Int32) → (Nat → Int32) → (Nat → Int32) → (Nat → Nat) → (Nat → Nat → Int32) → (Int32) → (Nat) → (Nat → Int32) → (Nat → Int32) → (Nat → Int32) → Prop) : Prop :=
  (∃ (P_1 : (Int32) → Prop), wX3_has now_bound now_modulus now_seed now_functions a1 P_1 ∧ ∀ (rF_1 : Int32), P_1 rF_1 → ((rF_1 = 0 → (Q (-1) rf rm rl ru rn rv rows_turn n_rows_sieve_least rows_sieve_least rows_powers_cells rows_powers_ofPrime)) ∧ (¬ rF_1 = 0 → (∃ (P_2 : (Int32) → Prop), wX10_isPlace now_bound now_modulus now_seed now_functions a2 P_2 ∧ ∀ (rF_2 : Int32), P_2 rF_2 → ((¬ rF_2 = 0 → (∃ (mcF_1 msF_1 : Nat) (P_3 : (Nat) → (Nat → Int32) → (Nat → Int32) → (Nat → Int32) → (Nat → Int32) → (Nat → Nat) → (Nat → Nat → Int32) → (Int32) → (Nat) → (Nat → Int32) → (Nat → Int32) → (Nat → Int32) → Prop), (0 + mcF_1 ≤ mc ∧ 0 + msF_1 ≤ ms) ∧ wX7_upTo mcF_1 msF_1 now_bound now_modulus now_seed now_functions rf rm rl ru rn rv rows_turn n_rows_sieve_least rows_sieve_least now_needs rows_powers_cells rows_powers_ofPrime now_firsts now_seconds now_kinds now_numbers now_colours a1 a2 P_3 ∧ ∀ (k_1 : Nat) (rf_1 : Nat → Int32) (rm_1 : Nat → Int32) (rl_1 : Nat → Int32) (ru_1 : Nat → Int32) (rn_1 : Nat → Nat) (rv_1 : Nat → Nat → Int32) (turn_1 : Int32) (n_sieve_least_1 : Nat) (sieve_least_1 : Nat → Int32) (powers_cells_1 : Nat → Int32) (powers_ofPrime_1 : Nat → Int32), P_3 k_1 rf_1 rm_1 rl_1 ru_1 rn_1 rv_1 turn_1 n_sieve_least_1 sieve_least_1 powers_cells_1 powers_ofPrime_1 → (∃ (Inv_1 : (Int32) → (Int32) → (Int32) → Prop) (Mea_1 : (Int32) → (Int32) → (Int32) → Nat), Inv_1 1 1 2 ∧ ∀ (x5_1 : Int32) (x6_1 : Int32) (x7_1 : Int32), Inv_1 x5_1 x6_1 x7_1 → ((a2 < x7_1 → (Q x5_1 rf_1 rm_1 rl_1 ru_1 rn_1 rv_1 turn_1 n_sieve_least_1 sieve_least_1 powers_cells_1 powers_ofPrime_1)) ∧ (¬ a2 < x7_1 → ((a3 = 0 → (∃ (P_4 : (Int32) → Prop), wX6_valueAt (rf_1 k_1) (rm_1 k_1) (rl_1 k_1) (ru_1 k_1) (rn_1 k_1) (rv_1 k_1) x7_1 P_4 ∧ ∀ (rF_3 : Int32), P_4 rF_3 → ((rF_3 ≤ x6_1 → (Inv_1 x5_1 x6_1 (x7_1 + 1) ∧ Mea_1 x5_1 x6_1 (x7_1 + 1) < Mea_1 x5_1 x6_1 x7_1)) ∧ (¬ rF_3 ≤ x6_1 → (Inv_1 x7_1 rF_3 (x7_1 + 1) ∧ Mea_1 x7_1 rF_3 (x7_1 + 1) < Mea_1 x5_1 x6_1 x7_1))))) ∧ (¬ a3 = 0 → (∃ (P_5 : (Int32) → Prop), wX6_sumTo (rf_1 k_1) (rm_1 k_1) (rl_1 k_1) (ru_1 k_1) (rn_1 k_1) (rv_1 k_1) x7_1 P_5 ∧ ∀ (rF_4 : Int32), P_5 rF_4 → ((rF_4 ≤ x6_1 → (Inv_1 x5_1 x6_1 (x7_1 + 1) ∧ Mea_1 x5_1 x6_1 (x7_1 + 1) < Mea_1 x5_1 x6_1 x7_1)) ∧ (¬ rF_4 ≤ x6_1 → (Inv_1 x7_1 rF_4 (x7_1 + 1) ∧ Mea_1 x7_1 rF_4 (x7_1 + 1) < Mea_1 x5_1 x6_1 x7_1))))))))))) ∧ (rF_2 = 0 → (Q (-1) rf rm rl ru rn rv rows_turn n_rows_sieve_least rows_sieve_least rows_powers_cells rows_powers_ofPrime)))))))
set_option maxHeartbeats 4000000 in
set_option maxRecDepth 100000 in
theorem mX10_best (l : Launch) (D : va_G) (Y : Nat → ClassId) (mc ms : Nat) (h0 : Nat) (ra : Nat → Nat) (q_now : Nat) (v_reader : Value) (v_changes : Value) (v_image : Value) (q_rows : Nat) (v_couples : Value) (now_bound : Int32) (now_modulus : Int32) (now_seed : Int32) (now_functions : Int32) (v_now_names : Value) (q_now_kinds : Nat) (q_now_firsts : Nat) (q_now_seconds : Nat) (v_now_degrees : Value) (q_now_colours : Nat) (q_now_needs : Nat) (q_now_numbers : Nat) (rs : Nat → Nat) (rf : Nat → Int32) (rm : Nat → Int32) (rl : Nat → Int32) (ru : Nat → Int32) (rn : Nat → Nat) (rv : Nat → Nat → Int32) (q_rows_sieve : Nat) (q_rows_powers : Nat) (q_rows_rows : Nat) (rows_turn : Int32) (q_rows_sieve_least : Nat) (n_rows_sieve_least : Nat) (rows_sieve_least : Nat → Int32) (now_needs : Nat → Int32) (q_rows_powers_ofPrime : Nat) (q_rows_powers_cells : Nat) (rows_powers_cells : Nat → Int32) (rows_powers_ofPrime : Nat → Int32) (now_firsts : Nat → Int32) (now_seconds : Nat → Int32) (now_kinds : Nat → Int32) (now_numbers : Nat → Int32) (now_colours : Nat → Int32) (a1 : Int32) (a2 : Int32) (a3 : Int32) (Q : (Int32) → (Nat → Int32) → (Nat → Int32) → (Nat → Int32) → (Nat → Int32) → (Nat → Nat) → (Nat → Nat → Int32) → (Int32) → (Nat) → (Nat → Int32) → (Nat → Int32) → (Nat → Int32) → Prop) (h : wX10_best mc ms now_bound now_modulus now_seed now_functions rf rm rl ru rn rv rows_turn n_rows_sieve_least rows_sieve_least now_needs rows_powers_cells rows_powers_ofPrime now_firsts now_seconds now_kinds now_numbers now_colours a1 a2 a3 Q) : gM l D Y yX10_best cX10_best 9 (some .int) 6 151 mc ms [.ref h0, .int a1, .int a2, .int a3] (rowsW Y ra rs rf rm rl ru rn rv ++ [oX10 h0 (.ref q_now) (v_reader) (v_changes) (v_image) (.ref q_rows) (v_couples), oX3 q_now now_bound now_modulus now_seed now_functions (v_now_names) (.ref q_now_kinds) (.ref q_now_firsts) (.ref q_now_seconds) (v_now_degrees) (.ref q_now_colours) (.ref q_now_needs) (.ref q_now_numbers), oX7 q_rows (.ref q_rows_sieve) (.ref q_rows_powers) (.ref q_rows_rows) rows_turn, aR Y q_rows_rows 4 (fun j => some (ra j)), oX8 q_rows_sieve (.ref q_rows_sieve_least), aI Y q_rows_sieve_least n_rows_sieve_least rows_sieve_least, aI Y q_now_needs 12 now_needs, oX4 q_rows_powers (.ref q_rows_powers_ofPrime) (.ref q_rows_powers_cells), aI Y q_rows_powers_cells 216 rows_powers_cells, aI Y q_rows_powers_ofPrime 18 rows_powers_ofPrime, aI Y q_now_firsts 12 now_firsts, aI Y q_now_seconds 12 now_seconds, aI Y q_now_kinds 12 now_kinds, aI Y q_now_numbers 144 now_numbers, aI Y q_now_colours 12 now_colours]) (fun v w => ∃ r : Int32, ∃ rs' : Nat → Nat, ∃ rf' : Nat → Int32, ∃ rm' : Nat → Int32, ∃ rl' : Nat → Int32, ∃ ru' : Nat → Int32, ∃ rn' : Nat → Nat, ∃ rv' : Nat → Nat → Int32, ∃ rows_turn' : Int32, ∃ q_rows_sieve_least' : Nat, ∃ n_rows_sieve_least' : Nat, ∃ rows_sieve_least' : Nat → Int32, ∃ rows_powers_cells' : Nat → Int32, ∃ rows_powers_ofPrime' : Nat → Int32, v = some (.int r) ∧ w = (rowsW Y ra rs' rf' rm' rl' ru' rn' rv' ++ [oX10 h0 (.ref q_now) (v_reader) (v_changes) (v_image) (.ref q_rows) (v_couples), oX3 q_now now_bound now_modulus now_seed now_functions (v_now_names) (.ref q_now_kinds) (.ref q_now_firsts) (.ref q_now_seconds) (v_now_degrees) (.ref q_now_colours) (.ref q_now_needs) (.ref q_now_numbers), oX7 q_rows (.ref q_rows_sieve) (.ref q_rows_powers) (.ref q_rows_rows) rows_turn', aR Y q_rows_rows 4 (fun j => some (ra j)), oX8 q_rows_sieve (.ref q_rows_sieve_least'), aI Y q_rows_sieve_least' n_rows_sieve_least' rows_sieve_least', aI Y q_now_needs 12 now_needs, oX4 q_rows_powers (.ref q_rows_powers_ofPrime) (.ref q_rows_powers_cells), aI Y q_rows_powers_cells 216 rows_powers_cells', aI Y q_rows_powers_ofPrime 18 rows_powers_ofPrime', aI Y q_now_firsts 12 now_firsts, aI Y q_now_seconds 12 now_seconds, aI Y q_now_kinds 12 now_kinds, aI Y q_now_numbers 144 now_numbers, aI Y q_now_colours 12 now_colours]) ∧ Q r rf' rm' rl' ru' rn' rv' rows_turn' n_rows_sieve_least' rows_sieve_least' rows_powers_cells' rows_powers_ofPrime') := by
  refine gM_of (own := RX10) (by decide +kernel) rfl (Nat.le_of_ble_eq_true rfl) rfl (fun E C hR => ?_)
  unfold wX10_best at h
  refine g_aload_n C dX10_best_0 0 rfl ?_
  refine g_get C inX10 8 rfl rfl 0 (by decide) wF_X10_10 rfl dX10_best_1 ?_
  refine g_iload_n C dX10_best_4 1 rfl ?_
  obtain ⟨P_1, hP, h⟩ := h
  refine g_callV (As := [.int a1]) (rest := []) C (mX3_has l D Y q_now now_bound now_modulus now_seed now_functions v_now_names (.ref q_now_kinds) (.ref q_now_firsts) (.ref q_now_seconds) v_now_degrees (.ref q_now_colours) (.ref q_now_needs) (.ref q_now_numbers) a1 P_1 hP) dX10_best_5 rfl wM_X10_98 wI_X3_has wV_X3_has wN_X3 wC_X3_has (n := 1) (by decide +kernel) rfl (q0 := 0) rfl rfl ⟨Nat.le_of_ble_eq_true rfl, Nat.le_of_ble_eq_true rfl⟩ ⟨Nat.zero_le _, Nat.zero_le _⟩ (Nat.le_of_ble_eq_true rfl) [9] [0, 1, 2, 3, 4, 5, 6, 7, 8, 10, 11, 12, 13, 14, 15, 16, 17, 18, 19, 20, 21, 22] rfl rfl rfl (fun v wc hv => ?_)
  obtain ⟨rF_1, rfl, rfl, hq⟩ := hv
  replace h := h rF_1 hq
  refine gG.perm (ws' := (rowsW Y ra rs rf rm rl ru rn rv ++ [oX10 h0 (.ref q_now) (v_reader) (v_changes) (v_image) (.ref q_rows) (v_couples), oX3 q_now now_bound now_modulus now_seed now_functions (v_now_names) (.ref q_now_kinds) (.ref q_now_firsts) (.ref q_now_seconds) (v_now_degrees) (.ref q_now_colours) (.ref q_now_needs) (.ref q_now_numbers), oX7 q_rows (.ref q_rows_sieve) (.ref q_rows_powers) (.ref q_rows_rows) rows_turn, aR Y q_rows_rows 4 (fun j => some (ra j)), oX8 q_rows_sieve (.ref q_rows_sieve_least), aI Y q_rows_sieve_least n_rows_sieve_least rows_sieve_least, aI Y q_now_needs 12 now_needs, oX4 q_rows_powers (.ref q_rows_powers_ofPrime) (.ref q_rows_powers_cells), aI Y q_rows_powers_cells 216 rows_powers_cells, aI Y q_rows_powers_ofPrime 18 rows_powers_ofPrime, aI Y q_now_firsts 12 now_firsts, aI Y q_now_seconds 12 now_seconds, aI Y q_now_kinds 12 now_kinds, aI Y q_now_numbers 144 now_numbers, aI Y q_now_colours 12 now_colours])) [0, 1, 2, 3, 4, 5, 6, 7, 8, 22, 9, 10, 11, 12, 13, 14, 15, 16, 17, 18, 19, 20, 21] rfl rfl ?_
  refine g_if_eq (tgt := 19) C dX10_best_8 (by decide) (fun c_1 => ?_) (fun c_1 => ?_)
  · replace h := h.1 c_1
    refine g_iconst (v := (-1)) C dX10_best_19 rfl ?_
    exact g_iret C hR (show 0 ≤ mc ∧ 0 ≤ ms from ⟨Nat.zero_le _, Nat.zero_le _⟩).1 (show 0 ≤ mc ∧ 0 ≤ ms from ⟨Nat.zero_le _, Nat.zero_le _⟩).2 dX10_best_20 ⟨(-1), rs, rf, rm, rl, ru, rn, rv, rows_turn, q_rows_sieve_least, n_rows_sieve_least, rows_sieve_least, rows_powers_cells, rows_powers_ofPrime, rfl, rfl, h⟩
  · replace h := h.2 c_1
    refine g_aload_n C dX10_best_11 0 rfl ?_
    refine g_iload_n C dX10_best_12 2 rfl ?_
    obtain ⟨P_2, hP, h⟩ := h
    refine g_callV (As := [.int a2]) (rest := []) C (mX10_isPlace l D Y h0 q_now v_reader v_changes v_image (.ref q_rows) v_couples now_bound now_modulus now_seed now_functions v_now_names (.ref q_now_kinds) (.ref q_now_firsts) (.ref q_now_seconds) v_now_degrees (.ref q_now_colours) (.ref q_now_needs) (.ref q_now_numbers) a2 P_2 hP) dX10_best_13 rfl wM_X10_161 wI_X10_isPlace wV_X10_isPlace wN_X10 wC_X10_isPlace (n := 1) (by decide +kernel) rfl (q0 := 0) rfl rfl ⟨Nat.le_of_ble_eq_true rfl, Nat.le_of_ble_eq_true rfl⟩ ⟨Nat.zero_le _, Nat.zero_le _⟩ (Nat.le_of_ble_eq_true rfl) [8, 9] [0, 1, 2, 3, 4, 5, 6, 7, 10, 11, 12, 13, 14, 15, 16, 17, 18, 19, 20, 21, 22] rfl rfl rfl (fun v wc hv => ?_)
    obtain ⟨rF_2, rfl, rfl, hq⟩ := hv
    replace h := h rF_2 hq
    refine gG.perm (ws' := (rowsW Y ra rs rf rm rl ru rn rv ++ [oX10 h0 (.ref q_now) (v_reader) (v_changes) (v_image) (.ref q_rows) (v_couples), oX3 q_now now_bound now_modulus now_seed now_functions (v_now_names) (.ref q_now_kinds) (.ref q_now_firsts) (.ref q_now_seconds) (v_now_degrees) (.ref q_now_colours) (.ref q_now_needs) (.ref q_now_numbers), oX7 q_rows (.ref q_rows_sieve) (.ref q_rows_powers) (.ref q_rows_rows) rows_turn, aR Y q_rows_rows 4 (fun j => some (ra j)), oX8 q_rows_sieve (.ref q_rows_sieve_least), aI Y q_rows_sieve_least n_rows_sieve_least rows_sieve_least, aI Y q_now_needs 12 now_needs, oX4 q_rows_powers (.ref q_rows_powers_ofPrime) (.ref q_rows_powers_cells), aI Y q_rows_powers_cells 216 rows_powers_cells, aI Y q_rows_powers_ofPrime 18 rows_powers_ofPrime, aI Y q_now_firsts 12 now_firsts, aI Y q_now_seconds 12 now_seconds, aI Y q_now_kinds 12 now_kinds, aI Y q_now_numbers 144 now_numbers, aI Y q_now_colours 12 now_colours])) [0, 1, 2, 3, 4, 5, 6, 7, 21, 22, 8, 9, 10, 11, 12, 13, 14, 15, 16, 17, 18, 19, 20] rfl rfl ?_
    refine g_if_ne (tgt := 21) C dX10_best_16 (by decide) (fun c_2 => ?_) (fun c_2 => ?_)
    · replace h := h.1 c_2
      refine g_aload_n C dX10_best_21 0 rfl ?_
      refine g_get C inX10 8 rfl rfl 4 (by decide) wF_X10_40 rfl dX10_best_22 ?_
      refine g_aload_n C dX10_best_25 0 rfl ?_
      refine g_get C inX10 8 rfl rfl 0 (by decide) wF_X10_10 rfl dX10_best_26 ?_
      refine g_iload_n C dX10_best_29 1 rfl ?_
      refine g_iload_n C dX10_best_30 2 rfl ?_
      obtain ⟨mcF_1, msF_1, P_3, hk_1, hP, h⟩ := h
      refine g_callV (As := [.ref q_now, .int a1, .int a2]) (rest := []) C (mX7_upTo l D Y mcF_1 msF_1 q_rows ra q_now now_bound now_modulus now_seed now_functions v_now_names q_now_kinds q_now_firsts q_now_seconds v_now_degrees q_now_colours q_now_needs q_now_numbers rs rf rm rl ru rn rv q_rows_sieve q_rows_powers q_rows_rows rows_turn q_rows_sieve_least n_rows_sieve_least rows_sieve_least now_needs q_rows_powers_ofPrime q_rows_powers_cells rows_powers_cells rows_powers_ofPrime now_firsts now_seconds now_kinds now_numbers now_colours a1 a2 P_3 hP) dX10_best_31 rfl wM_X10_182 wI_X7_upTo wV_X7_upTo wN_X7 wC_X7_upTo (n := 3) (by decide +kernel) rfl (q0 := 9) rfl rfl ⟨Nat.le_of_ble_eq_true rfl, Nat.le_of_ble_eq_true rfl⟩ hk_1 (Nat.le_of_ble_eq_true rfl) [0, 1, 2, 3, 4, 5, 6, 7, 9, 10, 11, 12, 13, 14, 15, 16, 17, 18, 19, 20, 21, 22] [8] rfl rfl rfl (fun v wc hv => ?_)
      obtain ⟨k_1, rs_1, rf_1, rm_1, rl_1, ru_1, rn_1, rv_1, turn_1, q_sieve_least_1, n_sieve_least_1, sieve_least_1, powers_cells_1, powers_ofPrime_1, rfl, rfl, hkk_1, hq⟩ := hv
      replace h := h k_1 rf_1 rm_1 rl_1 ru_1 rn_1 rv_1 turn_1 n_sieve_least_1 sieve_least_1 powers_cells_1 powers_ofPrime_1 hq
      refine gG.perm (ws' := (rowsW Y ra rs_1 rf_1 rm_1 rl_1 ru_1 rn_1 rv_1 ++ [oX10 h0 (.ref q_now) (v_reader) (v_changes) (v_image) (.ref q_rows) (v_couples), oX3 q_now now_bound now_modulus now_seed now_functions (v_now_names) (.ref q_now_kinds) (.ref q_now_firsts) (.ref q_now_seconds) (v_now_degrees) (.ref q_now_colours) (.ref q_now_needs) (.ref q_now_numbers), oX7 q_rows (.ref q_rows_sieve) (.ref q_rows_powers) (.ref q_rows_rows) turn_1, aR Y q_rows_rows 4 (fun j => some (ra j)), oX8 q_rows_sieve (.ref q_sieve_least_1), aI Y q_sieve_least_1 n_sieve_least_1 sieve_least_1, aI Y q_now_needs 12 now_needs, oX4 q_rows_powers (.ref q_rows_powers_ofPrime) (.ref q_rows_powers_cells), aI Y q_rows_powers_cells 216 powers_cells_1, aI Y q_rows_powers_ofPrime 18 powers_ofPrime_1, aI Y q_now_firsts 12 now_firsts, aI Y q_now_seconds 12 now_seconds, aI Y q_now_kinds 12 now_kinds, aI Y q_now_numbers 144 now_numbers, aI Y q_now_colours 12 now_colours])) [1, 2, 3, 4, 5, 6, 7, 8, 0, 9, 10, 11, 12, 13, 14, 15, 16, 17, 18, 19, 20, 21, 22] rfl rfl ?_
      refine g_astore (lv' := [(4, .ref (ra k_1)), (0, .ref h0), (1, .int a1), (2, .int a2), (3, .int a3)]) C dX10_best_34 (by decide) rfl ?_
      refine g_iconst (v := 1) C dX10_best_36 rfl ?_
      refine g_istore (lv' := [(5, .int 1), (4, .ref (ra k_1)), (0, .ref h0), (1, .int a1), (2, .int a2), (3, .int a3)]) C dX10_best_37 (by decide) rfl ?_
      refine g_iconst (v := 1) C dX10_best_39 rfl ?_
      refine g_istore (lv' := [(6, .int 1), (5, .int 1), (4, .ref (ra k_1)), (0, .ref h0), (1, .int a1), (2, .int a2), (3, .int a3)]) C dX10_best_40 (by decide) rfl ?_
      refine g_iconst (v := 2) C dX10_best_42 rfl ?_
      refine g_istore (lv' := [(7, .int 2), (6, .int 1), (5, .int 1), (4, .ref (ra k_1)), (0, .ref h0), (1, .int a1), (2, .int a2), (3, .int a3)]) C dX10_best_43 (by decide) rfl ?_
      obtain ⟨Inv_1, Mea_1, hI1, hB1⟩ := h
      have key_1 : ∀ (n : Nat) (x5_1 : Int32) (x6_1 : Int32) (x7_1 : Int32) , Mea_1 x5_1 x6_1 x7_1 < n → Inv_1 x5_1 x6_1 x7_1 → gG E (0 + mcF_1) (0 + msF_1) (rowsW Y ra rs_1 rf_1 rm_1 rl_1 ru_1 rn_1 rv_1 ++ [oX10 h0 (.ref q_now) (v_reader) (v_changes) (v_image) (.ref q_rows) (v_couples), oX3 q_now now_bound now_modulus now_seed now_functions (v_now_names) (.ref q_now_kinds) (.ref q_now_firsts) (.ref q_now_seconds) (v_now_degrees) (.ref q_now_colours) (.ref q_now_needs) (.ref q_now_numbers), oX7 q_rows (.ref q_rows_sieve) (.ref q_rows_powers) (.ref q_rows_rows) turn_1, aR Y q_rows_rows 4 (fun j => some (ra j)), oX8 q_rows_sieve (.ref q_sieve_least_1), aI Y q_sieve_least_1 n_sieve_least_1 sieve_least_1, aI Y q_now_needs 12 now_needs, oX4 q_rows_powers (.ref q_rows_powers_ofPrime) (.ref q_rows_powers_cells), aI Y q_rows_powers_cells 216 powers_cells_1, aI Y q_rows_powers_ofPrime 18 powers_ofPrime_1, aI Y q_now_firsts 12 now_firsts, aI Y q_now_seconds 12 now_seconds, aI Y q_now_kinds 12 now_kinds, aI Y q_now_numbers 144 now_numbers, aI Y q_now_colours 12 now_colours]) [(2, .int a2), (3, .int a3), (4, .ref (ra k_1)), (5, .int x5_1), (6, .int x6_1), (7, .int x7_1)] [] 45 := by
        intro n
        induction n with
        | zero => exact fun _ _ _ hm => absurd hm (Nat.not_lt_zero _)
        | succ n ih1 =>
          intro x5_1 x6_1 x7_1  hm1 hI
          have h := hB1 x5_1 x6_1 x7_1 hI
          refine g_iload C dX10_best_45 5 rfl ?_
          refine g_iload_n C dX10_best_47 0 rfl ?_
          refine g_icmp_gt (tgt := 95) C dX10_best_48 (by decide) (fun c_3 => ?_) (fun c_3 => ?_)
          · replace h := h.1 c_3
            refine g_iload C dX10_best_95 3 rfl ?_
            exact g_iret C hR (show 0 + mcF_1 ≤ mc ∧ 0 + msF_1 ≤ ms from hk_1).1 (show 0 + mcF_1 ≤ mc ∧ 0 + msF_1 ≤ ms from hk_1).2 dX10_best_97 ⟨x5_1, rs_1, rf_1, rm_1, rl_1, ru_1, rn_1, rv_1, turn_1, q_sieve_least_1, n_sieve_least_1, sieve_least_1, powers_cells_1, powers_ofPrime_1, rfl, rfl, h⟩
          · replace h := h.2 c_3
            refine g_iload_n C dX10_best_51 1 rfl ?_
            refine g_if_eq (tgt := 65) C dX10_best_52 (by decide) (fun c_4 => ?_) (fun c_4 => ?_)
            · replace h := h.1 c_4
              refine g_aload C dX10_best_65 2 rfl ?_
              refine g_iload C dX10_best_67 5 rfl ?_
              obtain ⟨P_4, hP, h⟩ := h
              refine g_callV (As := [.int x7_1]) (rest := []) C (mX6_valueAt_at l D Y ra k_1 (hkk_1) rs_1 rf_1 rm_1 rl_1 ru_1 rn_1 rv_1 x7_1 P_4 hP) dX10_best_69 rfl wM_X10_250 wI_X6_valueAt wV_X6_valueAt wN_X6 wC_X6_valueAt (n := 1) (by decide +kernel) rfl (q0 := (2 * k_1)) (rowsW_obj0 _ _ _ _ _ _ _ _ _ (hkk_1)) rfl ⟨Nat.le_of_ble_eq_true rfl, Nat.le_of_ble_eq_true rfl⟩ hk_1 (Nat.le_of_ble_eq_true rfl) [0, 1, 2, 3, 4, 5, 6, 7] [8, 9, 10, 11, 12, 13, 14, 15, 16, 17, 18, 19, 20, 21, 22] rfl rfl rfl (fun v wc hv => ?_)
              obtain ⟨rF_3, rfl, rfl, hq⟩ := hv
              replace h := h rF_3 hq
              refine gG.perm (ws' := (rowsW Y ra rs_1 rf_1 rm_1 rl_1 ru_1 rn_1 rv_1 ++ [oX10 h0 (.ref q_now) (v_reader) (v_changes) (v_image) (.ref q_rows) (v_couples), oX3 q_now now_bound now_modulus now_seed now_functions (v_now_names) (.ref q_now_kinds) (.ref q_now_firsts) (.ref q_now_seconds) (v_now_degrees) (.ref q_now_colours) (.ref q_now_needs) (.ref q_now_numbers), oX7 q_rows (.ref q_rows_sieve) (.ref q_rows_powers) (.ref q_rows_rows) turn_1, aR Y q_rows_rows 4 (fun j => some (ra j)), oX8 q_rows_sieve (.ref q_sieve_least_1), aI Y q_sieve_least_1 n_sieve_least_1 sieve_least_1, aI Y q_now_needs 12 now_needs, oX4 q_rows_powers (.ref q_rows_powers_ofPrime) (.ref q_rows_powers_cells), aI Y q_rows_powers_cells 216 powers_cells_1, aI Y q_rows_powers_ofPrime 18 powers_ofPrime_1, aI Y q_now_firsts 12 now_firsts, aI Y q_now_seconds 12 now_seconds, aI Y q_now_kinds 12 now_kinds, aI Y q_now_numbers 144 now_numbers, aI Y q_now_colours 12 now_colours])) [15, 16, 17, 18, 19, 20, 21, 22, 0, 1, 2, 3, 4, 5, 6, 7, 8, 9, 10, 11, 12, 13, 14] rfl rfl ?_
              refine g_istore (lv' := [(8, .int rF_3), (2, .int a2), (3, .int a3), (4, .ref (ra k_1)), (5, .int x5_1), (6, .int x6_1), (7, .int x7_1)]) C dX10_best_72 (by decide) rfl ?_
              refine g_iload C dX10_best_74 0 rfl ?_
              refine g_iload C dX10_best_76 5 rfl ?_
              refine g_icmp_le (tgt := 89) C dX10_best_78 (by decide) (fun c_5 => ?_) (fun c_5 => ?_)
              · replace h := h.1 c_5
                refine g_iinc (v := x7_1 + 1) (lv' := [(7, .int (x7_1 + 1)), (8, .int rF_3), (2, .int a2), (3, .int a3), (4, .ref (ra k_1)), (5, .int x5_1), (6, .int x6_1)]) C dX10_best_89 6 rfl rfl (by decide) rfl ?_
                refine g_goto (tgt := 45) C dX10_best_92 (by decide) ?_
                refine gG.locals (lv' := [(2, .int a2), (3, .int a3), (4, .ref (ra k_1)), (5, .int x5_1), (6, .int x6_1), (7, .int (x7_1 + 1))]) [2, 3, 4, 5, 6, 0] rfl ?_
                exact ih1 x5_1 x6_1 (x7_1 + 1) (Nat.lt_of_lt_of_le h.2 (Nat.le_of_lt_succ hm1)) h.1
              · replace h := h.2 c_5
                refine g_iload C dX10_best_81 0 rfl ?_
                refine g_istore (lv' := [(6, .int rF_3), (8, .int rF_3), (2, .int a2), (3, .int a3), (4, .ref (ra k_1)), (5, .int x5_1), (7, .int x7_1)]) C dX10_best_83 (by decide) rfl ?_
                refine g_iload C dX10_best_85 6 rfl ?_
                refine g_istore (lv' := [(5, .int x7_1), (6, .int rF_3), (8, .int rF_3), (2, .int a2), (3, .int a3), (4, .ref (ra k_1)), (7, .int x7_1)]) C dX10_best_87 (by decide) rfl ?_
                refine g_iinc (v := x7_1 + 1) (lv' := [(7, .int (x7_1 + 1)), (5, .int x7_1), (6, .int rF_3), (8, .int rF_3), (2, .int a2), (3, .int a3), (4, .ref (ra k_1))]) C dX10_best_89 6 rfl rfl (by decide) rfl ?_
                refine g_goto (tgt := 45) C dX10_best_92 (by decide) ?_
                refine gG.locals (lv' := [(2, .int a2), (3, .int a3), (4, .ref (ra k_1)), (5, .int x7_1), (6, .int rF_3), (7, .int (x7_1 + 1))]) [4, 5, 6, 1, 2, 0] rfl ?_
                exact ih1 x7_1 rF_3 (x7_1 + 1) (Nat.lt_of_lt_of_le h.2 (Nat.le_of_lt_succ hm1)) h.1
            · replace h := h.2 c_4
              refine g_aload C dX10_best_55 2 rfl ?_
              refine g_iload C dX10_best_57 5 rfl ?_
              obtain ⟨P_5, hP, h⟩ := h
              refine g_callV (As := [.int x7_1]) (rest := []) C (mX6_sumTo_at l D Y ra k_1 (hkk_1) rs_1 rf_1 rm_1 rl_1 ru_1 rn_1 rv_1 x7_1 P_5 hP) dX10_best_59 rfl wM_X10_186 wI_X6_sumTo wV_X6_sumTo wN_X6 wC_X6_sumTo (n := 1) (by decide +kernel) rfl (q0 := (2 * k_1)) (rowsW_obj0 _ _ _ _ _ _ _ _ _ (hkk_1)) rfl ⟨Nat.le_of_ble_eq_true rfl, Nat.le_of_ble_eq_true rfl⟩ hk_1 (Nat.le_of_ble_eq_true rfl) [0, 1, 2, 3, 4, 5, 6, 7] [8, 9, 10, 11, 12, 13, 14, 15, 16, 17, 18, 19, 20, 21, 22] rfl rfl rfl (fun v wc hv => ?_)
              obtain ⟨rF_4, rfl, rfl, hq⟩ := hv
              replace h := h rF_4 hq
              refine gG.perm (ws' := (rowsW Y ra rs_1 rf_1 rm_1 rl_1 ru_1 rn_1 rv_1 ++ [oX10 h0 (.ref q_now) (v_reader) (v_changes) (v_image) (.ref q_rows) (v_couples), oX3 q_now now_bound now_modulus now_seed now_functions (v_now_names) (.ref q_now_kinds) (.ref q_now_firsts) (.ref q_now_seconds) (v_now_degrees) (.ref q_now_colours) (.ref q_now_needs) (.ref q_now_numbers), oX7 q_rows (.ref q_rows_sieve) (.ref q_rows_powers) (.ref q_rows_rows) turn_1, aR Y q_rows_rows 4 (fun j => some (ra j)), oX8 q_rows_sieve (.ref q_sieve_least_1), aI Y q_sieve_least_1 n_sieve_least_1 sieve_least_1, aI Y q_now_needs 12 now_needs, oX4 q_rows_powers (.ref q_rows_powers_ofPrime) (.ref q_rows_powers_cells), aI Y q_rows_powers_cells 216 powers_cells_1, aI Y q_rows_powers_ofPrime 18 powers_ofPrime_1, aI Y q_now_firsts 12 now_firsts, aI Y q_now_seconds 12 now_seconds, aI Y q_now_kinds 12 now_kinds, aI Y q_now_numbers 144 now_numbers, aI Y q_now_colours 12 now_colours])) [15, 16, 17, 18, 19, 20, 21, 22, 0, 1, 2, 3, 4, 5, 6, 7, 8, 9, 10, 11, 12, 13, 14] rfl rfl ?_
              refine g_goto (tgt := 72) C dX10_best_62 (by decide) ?_
              refine g_istore (lv' := [(8, .int rF_4), (2, .int a2), (3, .int a3), (4, .ref (ra k_1)), (5, .int x5_1), (6, .int x6_1), (7, .int x7_1)]) C dX10_best_72 (by decide) rfl ?_
              refine g_iload C dX10_best_74 0 rfl ?_
              refine g_iload C dX10_best_76 5 rfl ?_
              refine g_icmp_le (tgt := 89) C dX10_best_78 (by decide) (fun c_6 => ?_) (fun c_6 => ?_)
              · replace h := h.1 c_6
                refine g_iinc (v := x7_1 + 1) (lv' := [(7, .int (x7_1 + 1)), (8, .int rF_4), (2, .int a2), (3, .int a3), (4, .ref (ra k_1)), (5, .int x5_1), (6, .int x6_1)]) C dX10_best_89 6 rfl rfl (by decide) rfl ?_
                refine g_goto (tgt := 45) C dX10_best_92 (by decide) ?_
                refine gG.locals (lv' := [(2, .int a2), (3, .int a3), (4, .ref (ra k_1)), (5, .int x5_1), (6, .int x6_1), (7, .int (x7_1 + 1))]) [2, 3, 4, 5, 6, 0] rfl ?_
                exact ih1 x5_1 x6_1 (x7_1 + 1) (Nat.lt_of_lt_of_le h.2 (Nat.le_of_lt_succ hm1)) h.1
              · replace h := h.2 c_6
                refine g_iload C dX10_best_81 0 rfl ?_
                refine g_istore (lv' := [(6, .int rF_4), (8, .int rF_4), (2, .int a2), (3, .int a3), (4, .ref (ra k_1)), (5, .int x5_1), (7, .int x7_1)]) C dX10_best_83 (by decide) rfl ?_
                refine g_iload C dX10_best_85 6 rfl ?_
                refine g_istore (lv' := [(5, .int x7_1), (6, .int rF_4), (8, .int rF_4), (2, .int a2), (3, .int a3), (4, .ref (ra k_1)), (7, .int x7_1)]) C dX10_best_87 (by decide) rfl ?_
                refine g_iinc (v := x7_1 + 1) (lv' := [(7, .int (x7_1 + 1)), (5, .int x7_1), (6, .int rF_4), (8, .int rF_4), (2, .int a2), (3, .int a3), (4, .ref (ra k_1))]) C dX10_best_89 6 rfl rfl (by decide) rfl ?_
                refine g_goto (tgt := 45) C dX10_best_92 (by decide) ?_
                refine gG.locals (lv' := [(2, .int a2), (3, .int a3), (4, .ref (ra k_1)), (5, .int x7_1), (6, .int rF_4), (7, .int (x7_1 + 1))]) [4, 5, 6, 1, 2, 0] rfl ?_
                exact ih1 x7_1 rF_4 (x7_1 + 1) (Nat.lt_of_lt_of_le h.2 (Nat.le_of_lt_succ hm1)) h.1
      refine gG.locals (lv' := [(2, .int a2), (3, .int a3), (4, .ref (ra k_1)), (5, .int 1), (6, .int 1), (7, .int 2)]) [6, 7, 3, 2, 1, 0] rfl ?_
      exact key_1 (Mea_1 1 1 2 + 1) 1 1 2 (Nat.lt_succ_self _) hI1
    · replace h := h.2 c_2
      refine g_iconst (v := (-1)) C dX10_best_19 rfl ?_
      exact g_iret C hR (show 0 ≤ mc ∧ 0 ≤ ms from ⟨Nat.zero_le _, Nat.zero_le _⟩).1 (show 0 ≤ mc ∧ 0 ≤ ms from ⟨Nat.zero_le _, Nat.zero_le _⟩).2 dX10_best_20 ⟨(-1), rs, rf, rm, rl, ru, rn, rv, rows_turn, q_rows_sieve_least, n_rows_sieve_least, rows_sieve_least, rows_powers_cells, rows_powers_ofPrime, rfl, rfl, h⟩
theorem dX10_howMany_0 : decode cX10_howMany 0 = .ok (.aload_n 0, 1) := by decide +kernel
theorem dX10_howMany_1 : decode cX10_howMany 1 = .ok (.getfield 10, 3) := by decide +kernel
theorem dX10_howMany_4 : decode cX10_howMany 4 = .ok (.iload_n 1, 1) := by decide +kernel
theorem dX10_howMany_5 : decode cX10_howMany 5 = .ok (.invokevirtual 98, 3) := by decide +kernel
theorem dX10_howMany_8 : decode cX10_howMany 8 = .ok (.ifCond .eq 19, 3) := by decide +kernel
theorem dX10_howMany_11 : decode cX10_howMany 11 = .ok (.aload_n 0, 1) := by decide +kernel
theorem dX10_howMany_12 : decode cX10_howMany 12 = .ok (.iload_n 2, 1) := by decide +kernel
theorem dX10_howMany_13 : decode cX10_howMany 13 = .ok (.invokevirtual 179, 3) := by decide +kernel
theorem dX10_howMany_16 : decode cX10_howMany 16 = .ok (.ifCond .eq 11, 3) := by decide +kernel
theorem dX10_howMany_19 : decode cX10_howMany 19 = .ok (.aload_n 0, 1) := by decide +kernel
theorem dX10_howMany_20 : decode cX10_howMany 20 = .ok (.iload_n 3, 1) := by decide +kernel
theorem dX10_howMany_21 : decode cX10_howMany 21 = .ok (.invokevirtual 255, 3) := by decide +kernel
theorem dX10_howMany_24 : decode cX10_howMany 24 = .ok (.ifCond .ne 5, 3) := by decide +kernel
theorem dX10_howMany_27 : decode cX10_howMany 27 = .ok (.iconst (-1), 1) := by decide +kernel
theorem dX10_howMany_28 : decode cX10_howMany 28 = .ok (.ireturn, 1) := by decide +kernel
theorem dX10_howMany_29 : decode cX10_howMany 29 = .ok (.aload_n 0, 1) := by decide +kernel
theorem dX10_howMany_30 : decode cX10_howMany 30 = .ok (.getfield 40, 3) := by decide +kernel
theorem dX10_howMany_33 : decode cX10_howMany 33 = .ok (.aload_n 0, 1) := by decide +kernel
theorem dX10_howMany_34 : decode cX10_howMany 34 = .ok (.getfield 10, 3) := by decide +kernel
theorem dX10_howMany_37 : decode cX10_howMany 37 = .ok (.iload_n 1, 1) := by decide +kernel
theorem dX10_howMany_38 : decode cX10_howMany 38 = .ok (.iload_n 2, 1) := by decide +kernel
theorem dX10_howMany_39 : decode cX10_howMany 39 = .ok (.invokevirtual 182, 3) := by decide +kernel
theorem dX10_howMany_42 : decode cX10_howMany 42 = .ok (.astore 4, 2) := by decide +kernel
theorem dX10_howMany_44 : decode cX10_howMany 44 = .ok (.iconst 0, 1) := by decide +kernel
theorem dX10_howMany_45 : decode cX10_howMany 45 = .ok (.istore 5, 2) := by decide +kernel
theorem dX10_howMany_47 : decode cX10_howMany 47 = .ok (.iconst 1, 1) := by decide +kernel
theorem dX10_howMany_48 : decode cX10_howMany 48 = .ok (.istore 6, 2) := by decide +kernel
theorem dX10_howMany_50 : decode cX10_howMany 50 = .ok (.iload 6, 2) := by decide +kernel
theorem dX10_howMany_52 : decode cX10_howMany 52 = .ok (.iload_n 2, 1) := by decide +kernel
theorem dX10_howMany_53 : decode cX10_howMany 53 = .ok (.if_icmp .gt 23, 3) := by decide +kernel
theorem dX10_howMany_56 : decode cX10_howMany 56 = .ok (.aload 4, 2) := by decide +kernel
theorem dX10_howMany_58 : decode cX10_howMany 58 = .ok (.iload 6, 2) := by decide +kernel
theorem dX10_howMany_60 : decode cX10_howMany 60 = .ok (.invokevirtual 250, 3) := by decide +kernel
theorem dX10_howMany_63 : decode cX10_howMany 63 = .ok (.iload_n 3, 1) := by decide +kernel
theorem dX10_howMany_64 : decode cX10_howMany 64 = .ok (.if_icmp .ne 6, 3) := by decide +kernel
theorem dX10_howMany_67 : decode cX10_howMany 67 = .ok (.iinc 5 1, 3) := by decide +kernel
theorem dX10_howMany_70 : decode cX10_howMany 70 = .ok (.iinc 6 1, 3) := by decide +kernel
theorem dX10_howMany_73 : decode cX10_howMany 73 = .ok (.goto (-23), 3) := by decide +kernel
theorem dX10_howMany_76 : decode cX10_howMany 76 = .ok (.iload 5, 2) := by decide +kernel
theorem dX10_howMany_78 : decode cX10_howMany 78 = .ok (.ireturn, 1) := by decide +kernel
/-- QuotientSums.howMany(III)I -/
def wX10_howMany (mc ms : Nat) (now_bound : Int32) (now_modulus : Int32) (now_seed : Int32) (now_functions : Int32) (rf : Nat → Int32) (rm : Nat → Int32) (rl : Nat → Int32) (ru : Nat → Int32) (rn : Nat → Nat) (rv : Nat → Nat → Int32) (rows_turn : Int32) (n_rows_sieve_least : Nat) (rows_sieve_least : Nat → Int32) (now_needs : Nat → Int32) (rows_powers_cells : Nat → Int32) (rows_powers_ofPrime : Nat → Int32) (now_firsts : Nat → Int32) (now_seconds : Nat → Int32) (now_kinds : Nat → Int32) (now_numbers : Nat → Int32) (now_colours : Nat → Int32) (a1 : Int32) (a2 : Int32) (a3 : Int32) (Q : (Int32) → (Nat → Int32) → (Nat → Int32) → (Nat → Int32) → (Nat → Int32) → (Nat → Nat) → (Nat → Nat → Int32) → (Int32) → (Nat) → (Nat → Int32) → (Nat → Int32) → (Nat → Int32) → Prop) : Prop :=
  (∃ (P_1 : (Int32) → Prop), wX3_has now_bound now_modulus now_seed now_functions a1 P_1 ∧ ∀ (rF_1 : Int32), P_1 rF_1 → ((rF_1 = 0 → (Q (-1) rf rm rl ru rn rv rows_turn n_rows_sieve_least rows_sieve_least rows_powers_cells rows_powers_ofPrime)) ∧ (¬ rF_1 = 0 → (∃ (P_2 : (Int32) → Prop), wX10_isReach now_bound now_modulus now_seed now_functions a2 P_2 ∧ ∀ (rF_2 : Int32), P_2 rF_2 → ((rF_2 = 0 → (Q (-1) rf rm rl ru rn rv rows_turn n_rows_sieve_least rows_sieve_least rows_powers_cells rows_powers_ofPrime)) ∧ (¬ rF_2 = 0 → (∃ (P_3 : (Int32) → Prop), wX10_isRest now_bound now_modulus now_seed now_functions a3 P_3 ∧ ∀ (rF_3 : Int32), P_3 rF_3 → ((¬ rF_3 = 0 → (∃ (mcF_1 msF_1 : Nat) (P_4 : (Nat) → (Nat → Int32) → (Nat → Int32) → (Nat → Int32) → (Nat → Int32) → (Nat → Nat) → (Nat → Nat → Int32) → (Int32) → (Nat) → (Nat → Int32) → (Nat → Int32) → (Nat → Int32) → Prop), (0 + mcF_1 ≤ mc ∧ 0 + msF_1 ≤ ms) ∧ wX7_upTo mcF_1 msF_1 now_bound now_modulus now_seed now_functions rf rm rl ru rn rv rows_turn n_rows_sieve_least rows_sieve_least now_needs rows_powers_cells rows_powers_ofPrime now_firsts now_seconds now_kinds now_numbers now_colours a1 a2 P_4 ∧ ∀ (k_1 : Nat) (rf_1 : Nat → Int32) (rm_1 : Nat → Int32) (rl_1 : Nat → Int32) (ru_1 : Nat → Int32) (rn_1 : Nat → Nat) (rv_1 : Nat → Nat → Int32) (turn_1 : Int32) (n_sieve_least_1 : Nat) (sieve_least_1 : Nat → Int32) (powers_cells_1 : Nat → Int32) (powers_ofPrime_1 : Nat → Int32), P_4 k_1 rf_1 rm_1 rl_1 ru_1 rn_1 rv_1 turn_1 n_sieve_least_1 sieve_least_1 powers_cells_1 powers_ofPrime_1 → (∃ (Inv_1 : (Int32) → (Int32) → Prop) (Mea_1 : (Int32) → (Int32) → Nat), Inv_1 0 1 ∧ ∀ (x5_1 : Int32) (x6_1 : Int32), Inv_1 x5_1 x6_1 → ((a2 < x6_1 → (Q x5_1 rf_1 rm_1 rl_1 ru_1 rn_1 rv_1 turn_1 n_sieve_least_1 sieve_least_1 powers_cells_1 powers_ofPrime_1)) ∧ (¬ a2 < x6_1 → (∃ (P_5 : (Int32) → Prop), wX6_valueAt (rf_1 k_1) (rm_1 k_1) (rl_1 k_1) (ru_1 k_1) (rn_1 k_1) (rv_1 k_1) x6_1 P_5 ∧ ∀ (rF_4 : Int32), P_5 rF_4 → ((¬ rF_4 = a3 → (Inv_1 x5_1 (x6_1 + 1) ∧ Mea_1 x5_1 (x6_1 + 1) < Mea_1 x5_1 x6_1)) ∧ (rF_4 = a3 → (Inv_1 (x5_1 + 1) (x6_1 + 1) ∧ Mea_1 (x5_1 + 1) (x6_1 + 1) < Mea_1 x5_1 x6_1))))))))) ∧ (rF_3 = 0 → (Q (-1) rf rm rl ru rn rv rows_turn n_rows_sieve_least rows_sieve_least rows_powers_cells rows_powers_ofPrime))))))))))
set_option maxHeartbeats 4000000 in
set_option maxRecDepth 100000 in
theorem mX10_howMany (l : Launch) (D : va_G) (Y : Nat → ClassId) (mc ms : Nat) (h0 : Nat) (ra : Nat → Nat) (q_now : Nat) (v_reader : Value) (v_changes : Value) (v_image : Value) (q_rows : Nat) (v_couples : Value) (now_bound : Int32) (now_modulus : Int32) (now_seed : Int32) (now_functions : Int32) (v_now_names : Value) (q_now_kinds : Nat) (q_now_firsts : Nat) (q_now_seconds : Nat) (v_now_degrees : Value) (q_now_colours : Nat) (q_now_needs : Nat) (q_now_numbers : Nat) (rs : Nat → Nat) (rf : Nat → Int32) (rm : Nat → Int32) (rl : Nat → Int32) (ru : Nat → Int32) (rn : Nat → Nat) (rv : Nat → Nat → Int32) (q_rows_sieve : Nat) (q_rows_powers : Nat) (q_rows_rows : Nat) (rows_turn : Int32) (q_rows_sieve_least : Nat) (n_rows_sieve_least : Nat) (rows_sieve_least : Nat → Int32) (now_needs : Nat → Int32) (q_rows_powers_ofPrime : Nat) (q_rows_powers_cells : Nat) (rows_powers_cells : Nat → Int32) (rows_powers_ofPrime : Nat → Int32) (now_firsts : Nat → Int32) (now_seconds : Nat → Int32) (now_kinds : Nat → Int32) (now_numbers : Nat → Int32) (now_colours : Nat → Int32) (a1 : Int32) (a2 : Int32) (a3 : Int32) (Q : (Int32) → (Nat → Int32) → (Nat → Int32) → (Nat → Int32) → (Nat → Int32) → (Nat → Nat) → (Nat → Nat → Int32) → (Int32) → (Nat) → (Nat → Int32) → (Nat → Int32) → (Nat → Int32) → Prop) (h : wX10_howMany mc ms now_bound now_modulus now_seed now_functions rf rm rl ru rn rv rows_turn n_rows_sieve_least rows_sieve_least now_needs rows_powers_cells rows_powers_ofPrime now_firsts now_seconds now_kinds now_numbers now_colours a1 a2 a3 Q) : gM l D Y yX10_howMany cX10_howMany 7 (some .int) 6 151 mc ms [.ref h0, .int a1, .int a2, .int a3] (rowsW Y ra rs rf rm rl ru rn rv ++ [oX10 h0 (.ref q_now) (v_reader) (v_changes) (v_image) (.ref q_rows) (v_couples), oX3 q_now now_bound now_modulus now_seed now_functions (v_now_names) (.ref q_now_kinds) (.ref q_now_firsts) (.ref q_now_seconds) (v_now_degrees) (.ref q_now_colours) (.ref q_now_needs) (.ref q_now_numbers), oX7 q_rows (.ref q_rows_sieve) (.ref q_rows_powers) (.ref q_rows_rows) rows_turn, aR Y q_rows_rows 4 (fun j => some (ra j)), oX8 q_rows_sieve (.ref q_rows_sieve_least), aI Y q_rows_sieve_least n_rows_sieve_least rows_sieve_least, aI Y q_now_needs 12 now_needs, oX4 q_rows_powers (.ref q_rows_powers_ofPrime) (.ref q_rows_powers_cells), aI Y q_rows_powers_cells 216 rows_powers_cells, aI Y q_rows_powers_ofPrime 18 rows_powers_ofPrime, aI Y q_now_firsts 12 now_firsts, aI Y q_now_seconds 12 now_seconds, aI Y q_now_kinds 12 now_kinds, aI Y q_now_numbers 144 now_numbers, aI Y q_now_colours 12 now_colours]) (fun v w => ∃ r : Int32, ∃ rs' : Nat → Nat, ∃ rf' : Nat → Int32, ∃ rm' : Nat → Int32, ∃ rl' : Nat → Int32, ∃ ru' : Nat → Int32, ∃ rn' : Nat → Nat, ∃ rv' : Nat → Nat → Int32, ∃ rows_turn' : Int32, ∃ q_rows_sieve_least' : Nat, ∃ n_rows_sieve_least' : Nat, ∃ rows_sieve_least' : Nat → Int32, ∃ rows_powers_cells' : Nat → Int32, ∃ rows_powers_ofPrime' : Nat → Int32, v = some (.int r) ∧ w = (rowsW Y ra rs' rf' rm' rl' ru' rn' rv' ++ [oX10 h0 (.ref q_now) (v_reader) (v_changes) (v_image) (.ref q_rows) (v_couples), oX3 q_now now_bound now_modulus now_seed now_functions (v_now_names) (.ref q_now_kinds) (.ref q_now_firsts) (.ref q_now_seconds) (v_now_degrees) (.ref q_now_colours) (.ref q_now_needs) (.ref q_now_numbers), oX7 q_rows (.ref q_rows_sieve) (.ref q_rows_powers) (.ref q_rows_rows) rows_turn', aR Y q_rows_rows 4 (fun j => some (ra j)), oX8 q_rows_sieve (.ref q_rows_sieve_least'), aI Y q_rows_sieve_least' n_rows_sieve_least' rows_sieve_least', aI Y q_now_needs 12 now_needs, oX4 q_rows_powers (.ref q_rows_powers_ofPrime) (.ref q_rows_powers_cells), aI Y q_rows_powers_cells 216 rows_powers_cells', aI Y q_rows_powers_ofPrime 18 rows_powers_ofPrime', aI Y q_now_firsts 12 now_firsts, aI Y q_now_seconds 12 now_seconds, aI Y q_now_kinds 12 now_kinds, aI Y q_now_numbers 144 now_numbers, aI Y q_now_colours 12 now_colours]) ∧ Q r rf' rm' rl' ru' rn' rv' rows_turn' n_rows_sieve_least' rows_sieve_least' rows_powers_cells' rows_powers_ofPrime') := by
  refine gM_of (own := RX10) (by decide +kernel) rfl (Nat.le_of_ble_eq_true rfl) rfl (fun E C hR => ?_)
  unfold wX10_howMany at h
  refine g_aload_n C dX10_howMany_0 0 rfl ?_
  refine g_get C inX10 8 rfl rfl 0 (by decide) wF_X10_10 rfl dX10_howMany_1 ?_
  refine g_iload_n C dX10_howMany_4 1 rfl ?_
  obtain ⟨P_1, hP, h⟩ := h
  refine g_callV (As := [.int a1]) (rest := []) C (mX3_has l D Y q_now now_bound now_modulus now_seed now_functions v_now_names (.ref q_now_kinds) (.ref q_now_firsts) (.ref q_now_seconds) v_now_degrees (.ref q_now_colours) (.ref q_now_needs) (.ref q_now_numbers) a1 P_1 hP) dX10_howMany_5 rfl wM_X10_98 wI_X3_has wV_X3_has wN_X3 wC_X3_has (n := 1) (by decide +kernel) rfl (q0 := 0) rfl rfl ⟨Nat.le_of_ble_eq_true rfl, Nat.le_of_ble_eq_true rfl⟩ ⟨Nat.zero_le _, Nat.zero_le _⟩ (Nat.le_of_ble_eq_true rfl) [9] [0, 1, 2, 3, 4, 5, 6, 7, 8, 10, 11, 12, 13, 14, 15, 16, 17, 18, 19, 20, 21, 22] rfl rfl rfl (fun v wc hv => ?_)
  obtain ⟨rF_1, rfl, rfl, hq⟩ := hv
  replace h := h rF_1 hq
  refine gG.perm (ws' := (rowsW Y ra rs rf rm rl ru rn rv ++ [oX10 h0 (.ref q_now) (v_reader) (v_changes) (v_image) (.ref q_rows) (v_couples), oX3 q_now now_bound now_modulus now_seed now_functions (v_now_names) (.ref q_now_kinds) (.ref q_now_firsts) (.ref q_now_seconds) (v_now_degrees) (.ref q_now_colours) (.ref q_now_needs) (.ref q_now_numbers), oX7 q_rows (.ref q_rows_sieve) (.ref q_rows_powers) (.ref q_rows_rows) rows_turn, aR Y q_rows_rows 4 (fun j => some (ra j)), oX8 q_rows_sieve (.ref q_rows_sieve_least), aI Y q_rows_sieve_least n_rows_sieve_least rows_sieve_least, aI Y q_now_needs 12 now_needs, oX4 q_rows_powers (.ref q_rows_powers_ofPrime) (.ref q_rows_powers_cells), aI Y q_rows_powers_cells 216 rows_powers_cells, aI Y q_rows_powers_ofPrime 18 rows_powers_ofPrime, aI Y q_now_firsts 12 now_firsts, aI Y q_now_seconds 12 now_seconds, aI Y q_now_kinds 12 now_kinds, aI Y q_now_numbers 144 now_numbers, aI Y q_now_colours 12 now_colours])) [0, 1, 2, 3, 4, 5, 6, 7, 8, 22, 9, 10, 11, 12, 13, 14, 15, 16, 17, 18, 19, 20, 21] rfl rfl ?_
  refine g_if_eq (tgt := 27) C dX10_howMany_8 (by decide) (fun c_1 => ?_) (fun c_1 => ?_)
  · replace h := h.1 c_1
    refine g_iconst (v := (-1)) C dX10_howMany_27 rfl ?_
    exact g_iret C hR (show 0 ≤ mc ∧ 0 ≤ ms from ⟨Nat.zero_le _, Nat.zero_le _⟩).1 (show 0 ≤ mc ∧ 0 ≤ ms from ⟨Nat.zero_le _, Nat.zero_le _⟩).2 dX10_howMany_28 ⟨(-1), rs, rf, rm, rl, ru, rn, rv, rows_turn, q_rows_sieve_least, n_rows_sieve_least, rows_sieve_least, rows_powers_cells, rows_powers_ofPrime, rfl, rfl, h⟩
  · replace h := h.2 c_1
    refine g_aload_n C dX10_howMany_11 0 rfl ?_
    refine g_iload_n C dX10_howMany_12 2 rfl ?_
    obtain ⟨P_2, hP, h⟩ := h
    refine g_callV (As := [.int a2]) (rest := []) C (mX10_isReach l D Y h0 q_now v_reader v_changes v_image (.ref q_rows) v_couples now_bound now_modulus now_seed now_functions v_now_names (.ref q_now_kinds) (.ref q_now_firsts) (.ref q_now_seconds) v_now_degrees (.ref q_now_colours) (.ref q_now_needs) (.ref q_now_numbers) a2 P_2 hP) dX10_howMany_13 rfl wM_X10_179 wI_X10_isReach wV_X10_isReach wN_X10 wC_X10_isReach (n := 1) (by decide +kernel) rfl (q0 := 0) rfl rfl ⟨Nat.le_of_ble_eq_true rfl, Nat.le_of_ble_eq_true rfl⟩ ⟨Nat.zero_le _, Nat.zero_le _⟩ (Nat.le_of_ble_eq_true rfl) [8, 9] [0, 1, 2, 3, 4, 5, 6, 7, 10, 11, 12, 13, 14, 15, 16, 17, 18, 19, 20, 21, 22] rfl rfl rfl (fun v wc hv => ?_)
    obtain ⟨rF_2, rfl, rfl, hq⟩ := hv
    replace h := h rF_2 hq
    refine gG.perm (ws' := (rowsW Y ra rs rf rm rl ru rn rv ++ [oX10 h0 (.ref q_now) (v_reader) (v_changes) (v_image) (.ref q_rows) (v_couples), oX3 q_now now_bound now_modulus now_seed now_functions (v_now_names) (.ref q_now_kinds) (.ref q_now_firsts) (.ref q_now_seconds) (v_now_degrees) (.ref q_now_colours) (.ref q_now_needs) (.ref q_now_numbers), oX7 q_rows (.ref q_rows_sieve) (.ref q_rows_powers) (.ref q_rows_rows) rows_turn, aR Y q_rows_rows 4 (fun j => some (ra j)), oX8 q_rows_sieve (.ref q_rows_sieve_least), aI Y q_rows_sieve_least n_rows_sieve_least rows_sieve_least, aI Y q_now_needs 12 now_needs, oX4 q_rows_powers (.ref q_rows_powers_ofPrime) (.ref q_rows_powers_cells), aI Y q_rows_powers_cells 216 rows_powers_cells, aI Y q_rows_powers_ofPrime 18 rows_powers_ofPrime, aI Y q_now_firsts 12 now_firsts, aI Y q_now_seconds 12 now_seconds, aI Y q_now_kinds 12 now_kinds, aI Y q_now_numbers 144 now_numbers, aI Y q_now_colours 12 now_colours])) [0, 1, 2, 3, 4, 5, 6, 7, 21, 22, 8, 9, 10, 11, 12, 13, 14, 15, 16, 17, 18, 19, 20] rfl rfl ?_
    refine g_if_eq (tgt := 27) C dX10_howMany_16 (by decide) (fun c_2 => ?_) (fun c_2 => ?_)
    · replace h := h.1 c_2
      refine g_iconst (v := (-1)) C dX10_howMany_27 rfl ?_
      exact g_iret C hR (show 0 ≤ mc ∧ 0 ≤ ms from ⟨Nat.zero_le _, Nat.zero_le _⟩).1 (show 0 ≤ mc ∧ 0 ≤ ms from ⟨Nat.zero_le _, Nat.zero_le _⟩).2 dX10_howMany_28 ⟨(-1), rs, rf, rm, rl, ru, rn, rv, rows_turn, q_rows_sieve_least, n_rows_sieve_least, rows_sieve_least, rows_powers_cells, rows_powers_ofPrime, rfl, rfl, h⟩
    · replace h := h.2 c_2
      refine g_aload_n C dX10_howMany_19 0 rfl ?_
      refine g_iload_n C dX10_howMany_20 3 rfl ?_
      obtain ⟨P_3, hP, h⟩ := h
      refine g_callV (As := [.int a3]) (rest := []) C (mX10_isRest l D Y h0 q_now v_reader v_changes v_image (.ref q_rows) v_couples now_bound now_modulus now_seed now_functions v_now_names (.ref q_now_kinds) (.ref q_now_firsts) (.ref q_now_seconds) v_now_degrees (.ref q_now_colours) (.ref q_now_needs) (.ref q_now_numbers) a3 P_3 hP) dX10_howMany_21 rfl wM_X10_255 wI_X10_isRest wV_X10_isRest wN_X10 wC_X10_isRest (n := 1) (by decide +kernel) rfl (q0 := 0) rfl rfl ⟨Nat.le_of_ble_eq_true rfl, Nat.le_of_ble_eq_true rfl⟩ ⟨Nat.zero_le _, Nat.zero_le _⟩ (Nat.le_of_ble_eq_true rfl) [8, 9] [0, 1, 2, 3, 4, 5, 6, 7, 10, 11, 12, 13, 14, 15, 16, 17, 18, 19, 20, 21, 22] rfl rfl rfl (fun v wc hv => ?_)
      obtain ⟨rF_3, rfl, rfl, hq⟩ := hv
      replace h := h rF_3 hq
      refine gG.perm (ws' := (rowsW Y ra rs rf rm rl ru rn rv ++ [oX10 h0 (.ref q_now) (v_reader) (v_changes) (v_image) (.ref q_rows) (v_couples), oX3 q_now now_bound now_modulus now_seed now_functions (v_now_names) (.ref q_now_kinds) (.ref q_now_firsts) (.ref q_now_seconds) (v_now_degrees) (.ref q_now_colours) (.ref q_now_needs) (.ref q_now_numbers), oX7 q_rows (.ref q_rows_sieve) (.ref q_rows_powers) (.ref q_rows_rows) rows_turn, aR Y q_rows_rows 4 (fun j => some (ra j)), oX8 q_rows_sieve (.ref q_rows_sieve_least), aI Y q_rows_sieve_least n_rows_sieve_least rows_sieve_least, aI Y q_now_needs 12 now_needs, oX4 q_rows_powers (.ref q_rows_powers_ofPrime) (.ref q_rows_powers_cells), aI Y q_rows_powers_cells 216 rows_powers_cells, aI Y q_rows_powers_ofPrime 18 rows_powers_ofPrime, aI Y q_now_firsts 12 now_firsts, aI Y q_now_seconds 12 now_seconds, aI Y q_now_kinds 12 now_kinds, aI Y q_now_numbers 144 now_numbers, aI Y q_now_colours 12 now_colours])) [0, 1, 2, 3, 4, 5, 6, 7, 21, 22, 8, 9, 10, 11, 12, 13, 14, 15, 16, 17, 18, 19, 20] rfl rfl ?_
      refine g_if_ne (tgt := 29) C dX10_howMany_24 (by decide) (fun c_3 => ?_) (fun c_3 => ?_)
      · replace h := h.1 c_3
        refine g_aload_n C dX10_howMany_29 0 rfl ?_
        refine g_get C inX10 8 rfl rfl 4 (by decide) wF_X10_40 rfl dX10_howMany_30 ?_
        refine g_aload_n C dX10_howMany_33 0 rfl ?_
        refine g_get C inX10 8 rfl rfl 0 (by decide) wF_X10_10 rfl dX10_howMany_34 ?_
        refine g_iload_n C dX10_howMany_37 1 rfl ?_
        refine g_iload_n C dX10_howMany_38 2 rfl ?_
        obtain ⟨mcF_1, msF_1, P_4, hk_1, hP, h⟩ := h
        refine g_callV (As := [.ref q_now, .int a1, .int a2]) (rest := []) C (mX7_upTo l D Y mcF_1 msF_1 q_rows ra q_now now_bound now_modulus now_seed now_functions v_now_names q_now_kinds q_now_firsts q_now_seconds v_now_degrees q_now_colours q_now_needs q_now_numbers rs rf rm rl ru rn rv q_rows_sieve q_rows_powers q_rows_rows rows_turn q_rows_sieve_least n_rows_sieve_least rows_sieve_least now_needs q_rows_powers_ofPrime q_rows_powers_cells rows_powers_cells rows_powers_ofPrime now_firsts now_seconds now_kinds now_numbers now_colours a1 a2 P_4 hP) dX10_howMany_39 rfl wM_X10_182 wI_X7_upTo wV_X7_upTo wN_X7 wC_X7_upTo (n := 3) (by decide +kernel) rfl (q0 := 9) rfl rfl ⟨Nat.le_of_ble_eq_true rfl, Nat.le_of_ble_eq_true rfl⟩ hk_1 (Nat.le_of_ble_eq_true rfl) [0, 1, 2, 3, 4, 5, 6, 7, 9, 10, 11, 12, 13, 14, 15, 16, 17, 18, 19, 20, 21, 22] [8] rfl rfl rfl (fun v wc hv => ?_)
        obtain ⟨k_1, rs_1, rf_1, rm_1, rl_1, ru_1, rn_1, rv_1, turn_1, q_sieve_least_1, n_sieve_least_1, sieve_least_1, powers_cells_1, powers_ofPrime_1, rfl, rfl, hkk_1, hq⟩ := hv
        replace h := h k_1 rf_1 rm_1 rl_1 ru_1 rn_1 rv_1 turn_1 n_sieve_least_1 sieve_least_1 powers_cells_1 powers_ofPrime_1 hq
        refine gG.perm (ws' := (rowsW Y ra rs_1 rf_1 rm_1 rl_1 ru_1 rn_1 rv_1 ++ [oX10 h0 (.ref q_now) (v_reader) (v_changes) (v_image) (.ref q_rows) (v_couples), oX3 q_now now_bound now_modulus now_seed now_functions (v_now_names) (.ref q_now_kinds) (.ref q_now_firsts) (.ref q_now_seconds) (v_now_degrees) (.ref q_now_colours) (.ref q_now_needs) (.ref q_now_numbers), oX7 q_rows (.ref q_rows_sieve) (.ref q_rows_powers) (.ref q_rows_rows) turn_1, aR Y q_rows_rows 4 (fun j => some (ra j)), oX8 q_rows_sieve (.ref q_sieve_least_1), aI Y q_sieve_least_1 n_sieve_least_1 sieve_least_1, aI Y q_now_needs 12 now_needs, oX4 q_rows_powers (.ref q_rows_powers_ofPrime) (.ref q_rows_powers_cells), aI Y q_rows_powers_cells 216 powers_cells_1, aI Y q_rows_powers_ofPrime 18 powers_ofPrime_1, aI Y q_now_firsts 12 now_firsts, aI Y q_now_seconds 12 now_seconds, aI Y q_now_kinds 12 now_kinds, aI Y q_now_numbers 144 now_numbers, aI Y q_now_colours 12 now_colours])) [1, 2, 3, 4, 5, 6, 7, 8, 0, 9, 10, 11, 12, 13, 14, 15, 16, 17, 18, 19, 20, 21, 22] rfl rfl ?_
        refine g_astore (lv' := [(4, .ref (ra k_1)), (0, .ref h0), (1, .int a1), (2, .int a2), (3, .int a3)]) C dX10_howMany_42 (by decide) rfl ?_
        refine g_iconst (v := 0) C dX10_howMany_44 rfl ?_
        refine g_istore (lv' := [(5, .int 0), (4, .ref (ra k_1)), (0, .ref h0), (1, .int a1), (2, .int a2), (3, .int a3)]) C dX10_howMany_45 (by decide) rfl ?_
        refine g_iconst (v := 1) C dX10_howMany_47 rfl ?_
        refine g_istore (lv' := [(6, .int 1), (5, .int 0), (4, .ref (ra k_1)), (0, .ref h0), (1, .int a1), (2, .int a2), (3, .int a3)]) C dX10_howMany_48 (by decide) rfl ?_
        obtain ⟨Inv_1, Mea_1, hI1, hB1⟩ := h
        have key_1 : ∀ (n : Nat) (x5_1 : Int32) (x6_1 : Int32) , Mea_1 x5_1 x6_1 < n → Inv_1 x5_1 x6_1 → gG E (0 + mcF_1) (0 + msF_1) (rowsW Y ra rs_1 rf_1 rm_1 rl_1 ru_1 rn_1 rv_1 ++ [oX10 h0 (.ref q_now) (v_reader) (v_changes) (v_image) (.ref q_rows) (v_couples), oX3 q_now now_bound now_modulus now_seed now_functions (v_now_names) (.ref q_now_kinds) (.ref q_now_firsts) (.ref q_now_seconds) (v_now_degrees) (.ref q_now_colours) (.ref q_now_needs) (.ref q_now_numbers), oX7 q_rows (.ref q_rows_sieve) (.ref q_rows_powers) (.ref q_rows_rows) turn_1, aR Y q_rows_rows 4 (fun j => some (ra j)), oX8 q_rows_sieve (.ref q_sieve_least_1), aI Y q_sieve_least_1 n_sieve_least_1 sieve_least_1, aI Y q_now_needs 12 now_needs, oX4 q_rows_powers (.ref q_rows_powers_ofPrime) (.ref q_rows_powers_cells), aI Y q_rows_powers_cells 216 powers_cells_1, aI Y q_rows_powers_ofPrime 18 powers_ofPrime_1, aI Y q_now_firsts 12 now_firsts, aI Y q_now_seconds 12 now_seconds, aI Y q_now_kinds 12 now_kinds, aI Y q_now_numbers 144 now_numbers, aI Y q_now_colours 12 now_colours]) [(2, .int a2), (3, .int a3), (4, .ref (ra k_1)), (5, .int x5_1), (6, .int x6_1)] [] 50 := by
          intro n
          induction n with
          | zero => exact fun _ _ hm => absurd hm (Nat.not_lt_zero _)
          | succ n ih1 =>
            intro x5_1 x6_1  hm1 hI
            have h := hB1 x5_1 x6_1 hI
            refine g_iload C dX10_howMany_50 4 rfl ?_
            refine g_iload_n C dX10_howMany_52 0 rfl ?_
            refine g_icmp_gt (tgt := 76) C dX10_howMany_53 (by decide) (fun c_4 => ?_) (fun c_4 => ?_)
            · replace h := h.1 c_4
              refine g_iload C dX10_howMany_76 3 rfl ?_
              exact g_iret C hR (show 0 + mcF_1 ≤ mc ∧ 0 + msF_1 ≤ ms from hk_1).1 (show 0 + mcF_1 ≤ mc ∧ 0 + msF_1 ≤ ms from hk_1).2 dX10_howMany_78 ⟨x5_1, rs_1, rf_1, rm_1, rl_1, ru_1, rn_1, rv_1, turn_1, q_sieve_least_1, n_sieve_least_1, sieve_least_1, powers_cells_1, powers_ofPrime_1, rfl, rfl, h⟩
            · replace h := h.2 c_4
              refine g_aload C dX10_howMany_56 2 rfl ?_
              refine g_iload C dX10_howMany_58 4 rfl ?_
              obtain ⟨P_5, hP, h⟩ := h
              refine g_callV (As := [.int x6_1]) (rest := []) C (mX6_valueAt_at l D Y ra k_1 (hkk_1) rs_1 rf_1 rm_1 rl_1 ru_1 rn_1 rv_1 x6_1 P_5 hP) dX10_howMany_60 rfl wM_X10_250 wI_X6_valueAt wV_X6_valueAt wN_X6 wC_X6_valueAt (n := 1) (by decide +kernel) rfl (q0 := (2 * k_1)) (rowsW_obj0 _ _ _ _ _ _ _ _ _ (hkk_1)) rfl ⟨Nat.le_of_ble_eq_true rfl, Nat.le_of_ble_eq_true rfl⟩ hk_1 (Nat.le_of_ble_eq_true rfl) [0, 1, 2, 3, 4, 5, 6, 7] [8, 9, 10, 11, 12, 13, 14, 15, 16, 17, 18, 19, 20, 21, 22] rfl rfl rfl (fun v wc hv => ?_)
              obtain ⟨rF_4, rfl, rfl, hq⟩ := hv
              replace h := h rF_4 hq
              refine gG.perm (ws' := (rowsW Y ra rs_1 rf_1 rm_1 rl_1 ru_1 rn_1 rv_1 ++ [oX10 h0 (.ref q_now) (v_reader) (v_changes) (v_image) (.ref q_rows) (v_couples), oX3 q_now now_bound now_modulus now_seed now_functions (v_now_names) (.ref q_now_kinds) (.ref q_now_firsts) (.ref q_now_seconds) (v_now_degrees) (.ref q_now_colours) (.ref q_now_needs) (.ref q_now_numbers), oX7 q_rows (.ref q_rows_sieve) (.ref q_rows_powers) (.ref q_rows_rows) turn_1, aR Y q_rows_rows 4 (fun j => some (ra j)), oX8 q_rows_sieve (.ref q_sieve_least_1), aI Y q_sieve_least_1 n_sieve_least_1 sieve_least_1, aI Y q_now_needs 12 now_needs, oX4 q_rows_powers (.ref q_rows_powers_ofPrime) (.ref q_rows_powers_cells), aI Y q_rows_powers_cells 216 powers_cells_1, aI Y q_rows_powers_ofPrime 18 powers_ofPrime_1, aI Y q_now_firsts 12 now_firsts, aI Y q_now_seconds 12 now_seconds, aI Y q_now_kinds 12 now_kinds, aI Y q_now_numbers 144 now_numbers, aI Y q_now_colours 12 now_colours])) [15, 16, 17, 18, 19, 20, 21, 22, 0, 1, 2, 3, 4, 5, 6, 7, 8, 9, 10, 11, 12, 13, 14] rfl rfl ?_
              refine g_iload_n C dX10_howMany_63 1 rfl ?_
              refine g_icmp_ne (tgt := 70) C dX10_howMany_64 (by decide) (fun c_5 => ?_) (fun c_5 => ?_)
              · replace h := h.1 c_5
                refine g_iinc (v := x6_1 + 1) (lv' := [(6, .int (x6_1 + 1)), (2, .int a2), (3, .int a3), (4, .ref (ra k_1)), (5, .int x5_1)]) C dX10_howMany_70 4 rfl rfl (by decide) rfl ?_
                refine g_goto (tgt := 50) C dX10_howMany_73 (by decide) ?_
                refine gG.locals (lv' := [(2, .int a2), (3, .int a3), (4, .ref (ra k_1)), (5, .int x5_1), (6, .int (x6_1 + 1))]) [1, 2, 3, 4, 0] rfl ?_
                exact ih1 x5_1 (x6_1 + 1) (Nat.lt_of_lt_of_le h.2 (Nat.le_of_lt_succ hm1)) h.1
              · replace h := h.2 c_5
                refine g_iinc (v := x5_1 + 1) (lv' := [(5, .int (x5_1 + 1)), (2, .int a2), (3, .int a3), (4, .ref (ra k_1)), (6, .int x6_1)]) C dX10_howMany_67 3 rfl rfl (by decide) rfl ?_
                refine g_iinc (v := x6_1 + 1) (lv' := [(6, .int (x6_1 + 1)), (5, .int (x5_1 + 1)), (2, .int a2), (3, .int a3), (4, .ref (ra k_1))]) C dX10_howMany_70 4 rfl rfl (by decide) rfl ?_
                refine g_goto (tgt := 50) C dX10_howMany_73 (by decide) ?_
                refine gG.locals (lv' := [(2, .int a2), (3, .int a3), (4, .ref (ra k_1)), (5, .int (x5_1 + 1)), (6, .int (x6_1 + 1))]) [2, 3, 4, 1, 0] rfl ?_
                exact ih1 (x5_1 + 1) (x6_1 + 1) (Nat.lt_of_lt_of_le h.2 (Nat.le_of_lt_succ hm1)) h.1
        refine gG.locals (lv' := [(2, .int a2), (3, .int a3), (4, .ref (ra k_1)), (5, .int 0), (6, .int 1)]) [5, 6, 2, 1, 0] rfl ?_
        exact key_1 (Mea_1 0 1 + 1) 0 1 (Nat.lt_succ_self _) hI1
      · replace h := h.2 c_3
        refine g_iconst (v := (-1)) C dX10_howMany_27 rfl ?_
        exact g_iret C hR (show 0 ≤ mc ∧ 0 ≤ ms from ⟨Nat.zero_le _, Nat.zero_le _⟩).1 (show 0 ≤ mc ∧ 0 ≤ ms from ⟨Nat.zero_le _, Nat.zero_le _⟩).2 dX10_howMany_28 ⟨(-1), rs, rf, rm, rl, ru, rn, rv, rows_turn, q_rows_sieve_least, n_rows_sieve_least, rows_sieve_least, rows_powers_cells, rows_powers_ofPrime, rfl, rfl, h⟩
theorem dX10_isWhole_0 : decode cX10_isWhole 0 = .ok (.aload_n 0, 1) := by decide +kernel
theorem dX10_isWhole_1 : decode cX10_isWhole 1 = .ok (.getfield 10, 3) := by decide +kernel
theorem dX10_isWhole_4 : decode cX10_isWhole 4 = .ok (.iload_n 1, 1) := by decide +kernel
theorem dX10_isWhole_5 : decode cX10_isWhole 5 = .ok (.invokevirtual 98, 3) := by decide +kernel
theorem dX10_isWhole_8 : decode cX10_isWhole 8 = .ok (.ifCond .ne 5, 3) := by decide +kernel
theorem dX10_isWhole_11 : decode cX10_isWhole 11 = .ok (.iconst (-1), 1) := by decide +kernel
theorem dX10_isWhole_12 : decode cX10_isWhole 12 = .ok (.ireturn, 1) := by decide +kernel
theorem dX10_isWhole_13 : decode cX10_isWhole 13 = .ok (.aload_n 0, 1) := by decide +kernel
theorem dX10_isWhole_14 : decode cX10_isWhole 14 = .ok (.getfield 40, 3) := by decide +kernel
theorem dX10_isWhole_17 : decode cX10_isWhole 17 = .ok (.aload_n 0, 1) := by decide +kernel
theorem dX10_isWhole_18 : decode cX10_isWhole 18 = .ok (.getfield 10, 3) := by decide +kernel
theorem dX10_isWhole_21 : decode cX10_isWhole 21 = .ok (.iload_n 1, 1) := by decide +kernel
theorem dX10_isWhole_22 : decode cX10_isWhole 22 = .ok (.sipush 1600, 3) := by decide +kernel
theorem dX10_isWhole_25 : decode cX10_isWhole 25 = .ok (.invokevirtual 182, 3) := by decide +kernel
theorem dX10_isWhole_28 : decode cX10_isWhole 28 = .ok (.astore_n 2, 1) := by decide +kernel
theorem dX10_isWhole_29 : decode cX10_isWhole 29 = .ok (.iconst 1, 1) := by decide +kernel
theorem dX10_isWhole_30 : decode cX10_isWhole 30 = .ok (.istore_n 3, 1) := by decide +kernel
theorem dX10_isWhole_31 : decode cX10_isWhole 31 = .ok (.iload_n 3, 1) := by decide +kernel
theorem dX10_isWhole_32 : decode cX10_isWhole 32 = .ok (.bipush 40, 2) := by decide +kernel
theorem dX10_isWhole_34 : decode cX10_isWhole 34 = .ok (.if_icmp .gt 63, 3) := by decide +kernel
theorem dX10_isWhole_37 : decode cX10_isWhole 37 = .ok (.iload_n 3, 1) := by decide +kernel
theorem dX10_isWhole_38 : decode cX10_isWhole 38 = .ok (.istore 4, 2) := by decide +kernel
theorem dX10_isWhole_40 : decode cX10_isWhole 40 = .ok (.iload 4, 2) := by decide +kernel
theorem dX10_isWhole_42 : decode cX10_isWhole 42 = .ok (.bipush 40, 2) := by decide +kernel
theorem dX10_isWhole_44 : decode cX10_isWhole 44 = .ok (.if_icmp .gt 47, 3) := by decide +kernel
theorem dX10_isWhole_47 : decode cX10_isWhole 47 = .ok (.aload_n 2, 1) := by decide +kernel
theorem dX10_isWhole_48 : decode cX10_isWhole 48 = .ok (.iload_n 3, 1) := by decide +kernel
theorem dX10_isWhole_49 : decode cX10_isWhole 49 = .ok (.invokevirtual 250, 3) := by decide +kernel
theorem dX10_isWhole_52 : decode cX10_isWhole 52 = .ok (.i2l, 1) := by decide +kernel
theorem dX10_isWhole_53 : decode cX10_isWhole 53 = .ok (.aload_n 2, 1) := by decide +kernel
theorem dX10_isWhole_54 : decode cX10_isWhole 54 = .ok (.iload 4, 2) := by decide +kernel
theorem dX10_isWhole_56 : decode cX10_isWhole 56 = .ok (.invokevirtual 250, 3) := by decide +kernel
theorem dX10_isWhole_59 : decode cX10_isWhole 59 = .ok (.i2l, 1) := by decide +kernel
theorem dX10_isWhole_60 : decode cX10_isWhole 60 = .ok (.lmul, 1) := by decide +kernel
theorem dX10_isWhole_61 : decode cX10_isWhole 61 = .ok (.lstore 5, 2) := by decide +kernel
theorem dX10_isWhole_63 : decode cX10_isWhole 63 = .ok (.aload_n 2, 1) := by decide +kernel
theorem dX10_isWhole_64 : decode cX10_isWhole 64 = .ok (.iload_n 3, 1) := by decide +kernel
theorem dX10_isWhole_65 : decode cX10_isWhole 65 = .ok (.iload 4, 2) := by decide +kernel
theorem dX10_isWhole_67 : decode cX10_isWhole 67 = .ok (.imul, 1) := by decide +kernel
theorem dX10_isWhole_68 : decode cX10_isWhole 68 = .ok (.invokevirtual 250, 3) := by decide +kernel
theorem dX10_isWhole_71 : decode cX10_isWhole 71 = .ok (.aload_n 0, 1) := by decide +kernel
theorem dX10_isWhole_72 : decode cX10_isWhole 72 = .ok (.getfield 10, 3) := by decide +kernel
theorem dX10_isWhole_75 : decode cX10_isWhole 75 = .ok (.lload 5, 2) := by decide +kernel
theorem dX10_isWhole_77 : decode cX10_isWhole 77 = .ok (.invokevirtual 209, 3) := by decide +kernel
theorem dX10_isWhole_80 : decode cX10_isWhole 80 = .ok (.if_icmp .eq 5, 3) := by decide +kernel
theorem dX10_isWhole_83 : decode cX10_isWhole 83 = .ok (.iconst 0, 1) := by decide +kernel
theorem dX10_isWhole_84 : decode cX10_isWhole 84 = .ok (.ireturn, 1) := by decide +kernel
theorem dX10_isWhole_85 : decode cX10_isWhole 85 = .ok (.iinc 4 1, 3) := by decide +kernel
theorem dX10_isWhole_88 : decode cX10_isWhole 88 = .ok (.goto (-48), 3) := by decide +kernel
theorem dX10_isWhole_91 : decode cX10_isWhole 91 = .ok (.iinc 3 1, 3) := by decide +kernel
theorem dX10_isWhole_94 : decode cX10_isWhole 94 = .ok (.goto (-63), 3) := by decide +kernel
theorem dX10_isWhole_97 : decode cX10_isWhole 97 = .ok (.iconst 1, 1) := by decide +kernel
theorem dX10_isWhole_98 : decode cX10_isWhole 98 = .ok (.ireturn, 1) := by decide +kernel
/-- QuotientSums.isWhole(I)I -/
def wX10_isWhole (mc ms : Nat) (now_bound : Int32) (now_modulus : Int32) (now_seed : Int32) (now_functions : Int32) (rf : Nat → Int32) (rm : Nat → Int32) (rl : Nat → Int32) (ru : Nat → Int32) (rn : Nat → Nat) (rv : Nat → Nat → Int32) (rows_turn : Int32) (n_rows_sieve_least : Nat) (rows_sieve_least : Nat → Int32) (now_needs : Nat → Int32) (rows_powers_cells : Nat → Int32) (rows_powers_ofPrime : Nat → Int32) (now_firsts : Nat → Int32) (now_seconds : Nat → Int32) (now_kinds : Nat → Int32) (now_numbers : Nat → Int32) (now_colours : Nat → Int32) (a1 : Int32) (Q : (Int32) → (Nat → Int32) → (Nat → Int32) → (Nat → Int32) → (Nat → Int32) → (Nat → Nat) → (Nat → Nat → Int32) → (Int32) → (Nat) → (Nat → Int32) → (Nat → Int32) → (Nat → Int32) → Prop) : Prop :=
  (∃ (P_1 : (Int32) → Prop), wX3_has now_bound now_modulus now_seed now_functions a1 P_1 ∧ ∀ (rF_1 : Int32), P_1 rF_1 → ((¬ rF_1 = 0 → (∃ (mcF_1 msF_1 : Nat) (P_2 : (Nat) → (Nat → Int32) → (Nat → Int32) → (Nat → Int32) → (Nat → Int32) → (Nat → Nat) → (Nat → Nat → Int32) → (Int32) → (Nat) → (Nat → Int32) → (Nat → Int32) → (Nat → Int32) → Prop), (0 + mcF_1 ≤ mc ∧ 0 + msF_1 ≤ ms) ∧ wX7_upTo mcF_1 msF_1 now_bound now_modulus now_seed now_functions rf rm rl ru rn rv rows_turn n_rows_sieve_least rows_sieve_least now_needs rows_powers_cells rows_powers_ofPrime now_firsts now_seconds now_kinds now_numbers now_colours a1 1600 P_2 ∧ ∀ (k_1 : Nat) (rf_1 : Nat → Int32) (rm_1 : Nat → Int32) (rl_1 : Nat → Int32) (ru_1 : Nat → Int32) (rn_1 : Nat → Nat) (rv_1 : Nat → Nat → Int32) (turn_1 : Int32) (n_sieve_least_1 : Nat) (sieve_least_1 : Nat → Int32) (powers_cells_1 : Nat → Int32) (powers_ofPrime_1 : Nat → Int32), P_2 k_1 rf_1 rm_1 rl_1 ru_1 rn_1 rv_1 turn_1 n_sieve_least_1 sieve_least_1 powers_cells_1 powers_ofPrime_1 → (∃ (Inv_1 : (Int32) → Prop) (Mea_1 : (Int32) → Nat), Inv_1 1 ∧ ∀ (x3_1 : Int32), Inv_1 x3_1 → ((40 < x3_1 → (Q 1 rf_1 rm_1 rl_1 ru_1 rn_1 rv_1 turn_1 n_sieve_least_1 sieve_least_1 powers_cells_1 powers_ofPrime_1)) ∧ (¬ 40 < x3_1 → (∃ (Inv_2 : (Int32) → Prop) (Mea_2 : (Int32) → Nat), Inv_2 x3_1 ∧ ∀ (x4_1 : Int32), Inv_2 x4_1 → ((40 < x4_1 → (Inv_1 (x3_1 + 1) ∧ Mea_1 (x3_1 + 1) < Mea_1 x3_1)) ∧ (¬ 40 < x4_1 → (∃ (P_3 : (Int32) → Prop), wX6_valueAt (rf_1 k_1) (rm_1 k_1) (rl_1 k_1) (ru_1 k_1) (rn_1 k_1) (rv_1 k_1) x3_1 P_3 ∧ ∀ (rF_2 : Int32), P_3 rF_2 → ∃ (P_4 : (Int32) → Prop), wX6_valueAt (rf_1 k_1) (rm_1 k_1) (rl_1 k_1) (ru_1 k_1) (rn_1 k_1) (rv_1 k_1) x4_1 P_4 ∧ ∀ (rF_3 : Int32), P_4 rF_3 → ∀ x5_1 : Int64, x5_1 = (rF_2.toInt64) * (rF_3.toInt64) → ∃ (P_5 : (Int32) → Prop), wX6_valueAt (rf_1 k_1) (rm_1 k_1) (rl_1 k_1) (ru_1 k_1) (rn_1 k_1) (rv_1 k_1) (x3_1 * x4_1) P_5 ∧ ∀ (rF_4 : Int32), P_5 rF_4 → ∃ (P_6 : (Int32) → Prop), wX3_rest now_bound now_modulus now_seed now_functions x5_1 P_6 ∧ ∀ (rF_5 : Int32), P_6 rF_5 → ((rF_4 = rF_5 → (Inv_2 (x4_1 + 1) ∧ Mea_2 (x4_1 + 1) < Mea_2 x4_1)) ∧ (¬ rF_4 = rF_5 → (Q 0 rf_1 rm_1 rl_1 ru_1 rn_1 rv_1 turn_1 n_sieve_least_1 sieve_least_1 powers_cells_1 powers_ofPrime_1)))))))))))) ∧ (rF_1 = 0 → (Q (-1) rf rm rl ru rn rv rows_turn n_rows_sieve_least rows_sieve_least rows_powers_cells rows_powers_ofPrime))))
set_option maxHeartbeats 4000000 in
set_option maxRecDepth 100000 in
theorem mX10_isWhole (l : Launch) (D : va_G) (Y : Nat → ClassId) (mc ms : Nat) (h0 : Nat) (ra : Nat → Nat) (q_now : Nat) (v_reader : Value) (v_changes : Value) (v_image : Value) (q_rows : Nat) (v_couples : Value) (now_bound : Int32) (now_modulus : Int32) (now_seed : Int32) (now_functions : Int32) (v_now_names : Value) (q_now_kinds : Nat) (q_now_firsts : Nat) (q_now_seconds : Nat) (v_now_degrees : Value) (q_now_colours : Nat) (q_now_needs : Nat) (q_now_numbers : Nat) (rs : Nat → Nat) (rf : Nat → Int32) (rm : Nat → Int32) (rl : Nat → Int32) (ru : Nat → Int32) (rn : Nat → Nat) (rv : Nat → Nat → Int32) (q_rows_sieve : Nat) (q_rows_powers : Nat) (q_rows_rows : Nat) (rows_turn : Int32) (q_rows_sieve_least : Nat) (n_rows_sieve_least : Nat) (rows_sieve_least : Nat → Int32) (now_needs : Nat → Int32) (q_rows_powers_ofPrime : Nat) (q_rows_powers_cells : Nat) (rows_powers_cells : Nat → Int32) (rows_powers_ofPrime : Nat → Int32) (now_firsts : Nat → Int32) (now_seconds : Nat → Int32) (now_kinds : Nat → Int32) (now_numbers : Nat → Int32) (now_colours : Nat → Int32) (a1 : Int32) (Q : (Int32) → (Nat → Int32) → (Nat → Int32) → (Nat → Int32) → (Nat → Int32) → (Nat → Nat) → (Nat → Nat → Int32) → (Int32) → (Nat) → (Nat → Int32) → (Nat → Int32) → (Nat → Int32) → Prop) (h : wX10_isWhole mc ms now_bound now_modulus now_seed now_functions rf rm rl ru rn rv rows_turn n_rows_sieve_least rows_sieve_least now_needs rows_powers_cells rows_powers_ofPrime now_firsts now_seconds now_kinds now_numbers now_colours a1 Q) : gM l D Y yX10_isWhole cX10_isWhole 7 (some .int) 6 151 mc ms [.ref h0, .int a1] (rowsW Y ra rs rf rm rl ru rn rv ++ [oX10 h0 (.ref q_now) (v_reader) (v_changes) (v_image) (.ref q_rows) (v_couples), oX3 q_now now_bound now_modulus now_seed now_functions (v_now_names) (.ref q_now_kinds) (.ref q_now_firsts) (.ref q_now_seconds) (v_now_degrees) (.ref q_now_colours) (.ref q_now_needs) (.ref q_now_numbers), oX7 q_rows (.ref q_rows_sieve) (.ref q_rows_powers) (.ref q_rows_rows) rows_turn, aR Y q_rows_rows 4 (fun j => some (ra j)), oX8 q_rows_sieve (.ref q_rows_sieve_least), aI Y q_rows_sieve_least n_rows_sieve_least rows_sieve_least, aI Y q_now_needs 12 now_needs, oX4 q_rows_powers (.ref q_rows_powers_ofPrime) (.ref q_rows_powers_cells), aI Y q_rows_powers_cells 216 rows_powers_cells, aI Y q_rows_powers_ofPrime 18 rows_powers_ofPrime, aI Y q_now_firsts 12 now_firsts, aI Y q_now_seconds 12 now_seconds, aI Y q_now_kinds 12 now_kinds, aI Y q_now_numbers 144 now_numbers, aI Y q_now_colours 12 now_colours]) (fun v w => ∃ r : Int32, ∃ rs' : Nat → Nat, ∃ rf' : Nat → Int32, ∃ rm' : Nat → Int32, ∃ rl' : Nat → Int32, ∃ ru' : Nat → Int32, ∃ rn' : Nat → Nat, ∃ rv' : Nat → Nat → Int32, ∃ rows_turn' : Int32, ∃ q_rows_sieve_least' : Nat, ∃ n_rows_sieve_least' : Nat, ∃ rows_sieve_least' : Nat → Int32, ∃ rows_powers_cells' : Nat → Int32, ∃ rows_powers_ofPrime' : Nat → Int32, v = some (.int r) ∧ w = (rowsW Y ra rs' rf' rm' rl' ru' rn' rv' ++ [oX10 h0 (.ref q_now) (v_reader) (v_changes) (v_image) (.ref q_rows) (v_couples), oX3 q_now now_bound now_modulus now_seed now_functions (v_now_names) (.ref q_now_kinds) (.ref q_now_firsts) (.ref q_now_seconds) (v_now_degrees) (.ref q_now_colours) (.ref q_now_needs) (.ref q_now_numbers), oX7 q_rows (.ref q_rows_sieve) (.ref q_rows_powers) (.ref q_rows_rows) rows_turn', aR Y q_rows_rows 4 (fun j => some (ra j)), oX8 q_rows_sieve (.ref q_rows_sieve_least'), aI Y q_rows_sieve_least' n_rows_sieve_least' rows_sieve_least', aI Y q_now_needs 12 now_needs, oX4 q_rows_powers (.ref q_rows_powers_ofPrime) (.ref q_rows_powers_cells), aI Y q_rows_powers_cells 216 rows_powers_cells', aI Y q_rows_powers_ofPrime 18 rows_powers_ofPrime', aI Y q_now_firsts 12 now_firsts, aI Y q_now_seconds 12 now_seconds, aI Y q_now_kinds 12 now_kinds, aI Y q_now_numbers 144 now_numbers, aI Y q_now_colours 12 now_colours]) ∧ Q r rf' rm' rl' ru' rn' rv' rows_turn' n_rows_sieve_least' rows_sieve_least' rows_powers_cells' rows_powers_ofPrime') := by
  refine gM_of (own := RX10) (by decide +kernel) rfl (Nat.le_of_ble_eq_true rfl) rfl (fun E C hR => ?_)
  unfold wX10_isWhole at h
  refine g_aload_n C dX10_isWhole_0 0 rfl ?_
  refine g_get C inX10 8 rfl rfl 0 (by decide) wF_X10_10 rfl dX10_isWhole_1 ?_
  refine g_iload_n C dX10_isWhole_4 1 rfl ?_
  obtain ⟨P_1, hP, h⟩ := h
  refine g_callV (As := [.int a1]) (rest := []) C (mX3_has l D Y q_now now_bound now_modulus now_seed now_functions v_now_names (.ref q_now_kinds) (.ref q_now_firsts) (.ref q_now_seconds) v_now_degrees (.ref q_now_colours) (.ref q_now_needs) (.ref q_now_numbers) a1 P_1 hP) dX10_isWhole_5 rfl wM_X10_98 wI_X3_has wV_X3_has wN_X3 wC_X3_has (n := 1) (by decide +kernel) rfl (q0 := 0) rfl rfl ⟨Nat.le_of_ble_eq_true rfl, Nat.le_of_ble_eq_true rfl⟩ ⟨Nat.zero_le _, Nat.zero_le _⟩ (Nat.le_of_ble_eq_true rfl) [9] [0, 1, 2, 3, 4, 5, 6, 7, 8, 10, 11, 12, 13, 14, 15, 16, 17, 18, 19, 20, 21, 22] rfl rfl rfl (fun v wc hv => ?_)
  obtain ⟨rF_1, rfl, rfl, hq⟩ := hv
  replace h := h rF_1 hq
  refine gG.perm (ws' := (rowsW Y ra rs rf rm rl ru rn rv ++ [oX10 h0 (.ref q_now) (v_reader) (v_changes) (v_image) (.ref q_rows) (v_couples), oX3 q_now now_bound now_modulus now_seed now_functions (v_now_names) (.ref q_now_kinds) (.ref q_now_firsts) (.ref q_now_seconds) (v_now_degrees) (.ref q_now_colours) (.ref q_now_needs) (.ref q_now_numbers), oX7 q_rows (.ref q_rows_sieve) (.ref q_rows_powers) (.ref q_rows_rows) rows_turn, aR Y q_rows_rows 4 (fun j => some (ra j)), oX8 q_rows_sieve (.ref q_rows_sieve_least), aI Y q_rows_sieve_least n_rows_sieve_least rows_sieve_least, aI Y q_now_needs 12 now_needs, oX4 q_rows_powers (.ref q_rows_powers_ofPrime) (.ref q_rows_powers_cells), aI Y q_rows_powers_cells 216 rows_powers_cells, aI Y q_rows_powers_ofPrime 18 rows_powers_ofPrime, aI Y q_now_firsts 12 now_firsts, aI Y q_now_seconds 12 now_seconds, aI Y q_now_kinds 12 now_kinds, aI Y q_now_numbers 144 now_numbers, aI Y q_now_colours 12 now_colours])) [0, 1, 2, 3, 4, 5, 6, 7, 8, 22, 9, 10, 11, 12, 13, 14, 15, 16, 17, 18, 19, 20, 21] rfl rfl ?_
  refine g_if_ne (tgt := 13) C dX10_isWhole_8 (by decide) (fun c_1 => ?_) (fun c_1 => ?_)
  · replace h := h.1 c_1
    refine g_aload_n C dX10_isWhole_13 0 rfl ?_
    refine g_get C inX10 8 rfl rfl 4 (by decide) wF_X10_40 rfl dX10_isWhole_14 ?_
    refine g_aload_n C dX10_isWhole_17 0 rfl ?_
    refine g_get C inX10 8 rfl rfl 0 (by decide) wF_X10_10 rfl dX10_isWhole_18 ?_
    refine g_iload_n C dX10_isWhole_21 1 rfl ?_
    refine g_sipush (v := 1600) C dX10_isWhole_22 rfl ?_
    obtain ⟨mcF_1, msF_1, P_2, hk_1, hP, h⟩ := h
    refine g_callV (As := [.ref q_now, .int a1, .int 1600]) (rest := []) C (mX7_upTo l D Y mcF_1 msF_1 q_rows ra q_now now_bound now_modulus now_seed now_functions v_now_names q_now_kinds q_now_firsts q_now_seconds v_now_degrees q_now_colours q_now_needs q_now_numbers rs rf rm rl ru rn rv q_rows_sieve q_rows_powers q_rows_rows rows_turn q_rows_sieve_least n_rows_sieve_least rows_sieve_least now_needs q_rows_powers_ofPrime q_rows_powers_cells rows_powers_cells rows_powers_ofPrime now_firsts now_seconds now_kinds now_numbers now_colours a1 1600 P_2 hP) dX10_isWhole_25 rfl wM_X10_182 wI_X7_upTo wV_X7_upTo wN_X7 wC_X7_upTo (n := 3) (by decide +kernel) rfl (q0 := 9) rfl rfl ⟨Nat.le_of_ble_eq_true rfl, Nat.le_of_ble_eq_true rfl⟩ hk_1 (Nat.le_of_ble_eq_true rfl) [0, 1, 2, 3, 4, 5, 6, 7, 9, 10, 11, 12, 13, 14, 15, 16, 17, 18, 19, 20, 21, 22] [8] rfl rfl rfl (fun v wc hv => ?_)
    obtain ⟨k_1, rs_1, rf_1, rm_1, rl_1, ru_1, rn_1, rv_1, turn_1, q_sieve_least_1, n_sieve_least_1, sieve_least_1, powers_cells_1, powers_ofPrime_1, rfl, rfl, hkk_1, hq⟩ := hv
    replace h := h k_1 rf_1 rm_1 rl_1 ru_1 rn_1 rv_1 turn_1 n_sieve_least_1 sieve_least_1 powers_cells_1 powers_ofPrime_1 hq
    refine gG.perm (ws' := (rowsW Y ra rs_1 rf_1 rm_1 rl_1 ru_1 rn_1 rv_1 ++ [oX10 h0 (.ref q_now) (v_reader) (v_changes) (v_image) (.ref q_rows) (v_couples), oX3 q_now now_bound now_modulus now_seed now_functions (v_now_names) (.ref q_now_kinds) (.ref q_now_firsts) (.ref q_now_seconds) (v_now_degrees) (.ref q_now_colours) (.ref q_now_needs) (.ref q_now_numbers), oX7 q_rows (.ref q_rows_sieve) (.ref q_rows_powers) (.ref q_rows_rows) turn_1, aR Y q_rows_rows 4 (fun j => some (ra j)), oX8 q_rows_sieve (.ref q_sieve_least_1), aI Y q_sieve_least_1 n_sieve_least_1 sieve_least_1, aI Y q_now_needs 12 now_needs, oX4 q_rows_powers (.ref q_rows_powers_ofPrime) (.ref q_rows_powers_cells), aI Y q_rows_powers_cells 216 powers_cells_1, aI Y q_rows_powers_ofPrime 18 powers_ofPrime_1, aI Y q_now_firsts 12 now_firsts, aI Y q_now_seconds 12 now_seconds, aI Y q_now_kinds 12 now_kinds, aI Y q_now_numbers 144 now_numbers, aI Y q_now_colours 12 now_colours])) [1, 2, 3, 4, 5, 6, 7, 8, 0, 9, 10, 11, 12, 13, 14, 15, 16, 17, 18, 19, 20, 21, 22] rfl rfl ?_
    refine g_astore_n (lv' := [(2, .ref (ra k_1)), (0, .ref h0), (1, .int a1)]) C dX10_isWhole_28 (by decide) rfl ?_
    refine g_iconst (v := 1) C dX10_isWhole_29 rfl ?_
    refine g_istore_n (lv' := [(3, .int 1), (2, .ref (ra k_1)), (0, .ref h0), (1, .int a1)]) C dX10_isWhole_30 (by decide) rfl ?_
    obtain ⟨Inv_1, Mea_1, hI1, hB1⟩ := h
    have key_1 : ∀ (n : Nat) (x3_1 : Int32) , Mea_1 x3_1 < n → Inv_1 x3_1 → gG E (0 + mcF_1) (0 + msF_1) (rowsW Y ra rs_1 rf_1 rm_1 rl_1 ru_1 rn_1 rv_1 ++ [oX10 h0 (.ref q_now) (v_reader) (v_changes) (v_image) (.ref q_rows) (v_couples), oX3 q_now now_bound now_modulus now_seed now_functions (v_now_names) (.ref q_now_kinds) (.ref q_now_firsts) (.ref q_now_seconds) (v_now_degrees) (.ref q_now_colours) (.ref q_now_needs) (.ref q_now_numbers), oX7 q_rows (.ref q_rows_sieve) (.ref q_rows_powers) (.ref q_rows_rows) turn_1, aR Y q_rows_rows 4 (fun j => some (ra j)), oX8 q_rows_sieve (.ref q_sieve_least_1), aI Y q_sieve_least_1 n_sieve_least_1 sieve_least_1, aI Y q_now_needs 12 now_needs, oX4 q_rows_powers (.ref q_rows_powers_ofPrime) (.ref q_rows_powers_cells), aI Y q_rows_powers_cells 216 powers_cells_1, aI Y q_rows_powers_ofPrime 18 powers_ofPrime_1, aI Y q_now_firsts 12 now_firsts, aI Y q_now_seconds 12 now_seconds, aI Y q_now_kinds 12 now_kinds, aI Y q_now_numbers 144 now_numbers, aI Y q_now_colours 12 now_colours]) [(0, .ref h0), (2, .ref (ra k_1)), (3, .int x3_1)] [] 31 := by
      intro n
      induction n with
      | zero => exact fun _ hm => absurd hm (Nat.not_lt_zero _)
      | succ n ih1 =>
        intro x3_1  hm1 hI
        have h := hB1 x3_1 hI
        refine g_iload_n C dX10_isWhole_31 2 rfl ?_
        refine g_bipush (v := 40) C dX10_isWhole_32 rfl ?_
        refine g_icmp_gt (tgt := 97) C dX10_isWhole_34 (by decide) (fun c_2 => ?_) (fun c_2 => ?_)
        · replace h := h.1 c_2
          refine g_iconst (v := 1) C dX10_isWhole_97 rfl ?_
          exact g_iret C hR (show 0 + mcF_1 ≤ mc ∧ 0 + msF_1 ≤ ms from hk_1).1 (show 0 + mcF_1 ≤ mc ∧ 0 + msF_1 ≤ ms from hk_1).2 dX10_isWhole_98 ⟨1, rs_1, rf_1, rm_1, rl_1, ru_1, rn_1, rv_1, turn_1, q_sieve_least_1, n_sieve_least_1, sieve_least_1, powers_cells_1, powers_ofPrime_1, rfl, rfl, h⟩
        · replace h := h.2 c_2
          refine g_iload_n C dX10_isWhole_37 2 rfl ?_
          refine g_istore (lv' := [(4, .int x3_1), (0, .ref h0), (2, .ref (ra k_1)), (3, .int x3_1)]) C dX10_isWhole_38 (by decide) rfl ?_
          obtain ⟨Inv_2, Mea_2, hI2, hB2⟩ := h
          have key_2 : ∀ (n : Nat) (x4_1 : Int32) , Mea_2 x4_1 < n → Inv_2 x4_1 → gG E (0 + mcF_1) (0 + msF_1) (rowsW Y ra rs_1 rf_1 rm_1 rl_1 ru_1 rn_1 rv_1 ++ [oX10 h0 (.ref q_now) (v_reader) (v_changes) (v_image) (.ref q_rows) (v_couples), oX3 q_now now_bound now_modulus now_seed now_functions (v_now_names) (.ref q_now_kinds) (.ref q_now_firsts) (.ref q_now_seconds) (v_now_degrees) (.ref q_now_colours) (.ref q_now_needs) (.ref q_now_numbers), oX7 q_rows (.ref q_rows_sieve) (.ref q_rows_powers) (.ref q_rows_rows) turn_1, aR Y q_rows_rows 4 (fun j => some (ra j)), oX8 q_rows_sieve (.ref q_sieve_least_1), aI Y q_sieve_least_1 n_sieve_least_1 sieve_least_1, aI Y q_now_needs 12 now_needs, oX4 q_rows_powers (.ref q_rows_powers_ofPrime) (.ref q_rows_powers_cells), aI Y q_rows_powers_cells 216 powers_cells_1, aI Y q_rows_powers_ofPrime 18 powers_ofPrime_1, aI Y q_now_firsts 12 now_firsts, aI Y q_now_seconds 12 now_seconds, aI Y q_now_kinds 12 now_kinds, aI Y q_now_numbers 144 now_numbers, aI Y q_now_colours 12 now_colours]) [(0, .ref h0), (2, .ref (ra k_1)), (3, .int x3_1), (4, .int x4_1)] [] 40 := by
            intro n
            induction n with
            | zero => exact fun _ hm => absurd hm (Nat.not_lt_zero _)
            | succ n ih2 =>
              intro x4_1  hm2 hI
              have h := hB2 x4_1 hI
              refine g_iload C dX10_isWhole_40 3 rfl ?_
              refine g_bipush (v := 40) C dX10_isWhole_42 rfl ?_
              refine g_icmp_gt (tgt := 91) C dX10_isWhole_44 (by decide) (fun c_3 => ?_) (fun c_3 => ?_)
              · replace h := h.1 c_3
                refine g_iinc (v := x3_1 + 1) (lv' := [(3, .int (x3_1 + 1)), (0, .ref h0), (2, .ref (ra k_1)), (4, .int x4_1)]) C dX10_isWhole_91 2 rfl rfl (by decide) rfl ?_
                refine g_goto (tgt := 31) C dX10_isWhole_94 (by decide) ?_
                refine gG.locals (lv' := [(0, .ref h0), (2, .ref (ra k_1)), (3, .int (x3_1 + 1))]) [1, 2, 0] rfl ?_
                exact ih1 (x3_1 + 1) (Nat.lt_of_lt_of_le h.2 (Nat.le_of_lt_succ hm1)) h.1
              · replace h := h.2 c_3
                refine g_aload_n C dX10_isWhole_47 1 rfl ?_
                refine g_iload_n C dX10_isWhole_48 2 rfl ?_
                obtain ⟨P_3, hP, h⟩ := h
                refine g_callV (As := [.int x3_1]) (rest := []) C (mX6_valueAt_at l D Y ra k_1 (hkk_1) rs_1 rf_1 rm_1 rl_1 ru_1 rn_1 rv_1 x3_1 P_3 hP) dX10_isWhole_49 rfl wM_X10_250 wI_X6_valueAt wV_X6_valueAt wN_X6 wC_X6_valueAt (n := 1) (by decide +kernel) rfl (q0 := (2 * k_1)) (rowsW_obj0 _ _ _ _ _ _ _ _ _ (hkk_1)) rfl ⟨Nat.le_of_ble_eq_true rfl, Nat.le_of_ble_eq_true rfl⟩ hk_1 (Nat.le_of_ble_eq_true rfl) [0, 1, 2, 3, 4, 5, 6, 7] [8, 9, 10, 11, 12, 13, 14, 15, 16, 17, 18, 19, 20, 21, 22] rfl rfl rfl (fun v wc hv => ?_)
                obtain ⟨rF_2, rfl, rfl, hq⟩ := hv
                replace h := h rF_2 hq
                refine gG.perm (ws' := (rowsW Y ra rs_1 rf_1 rm_1 rl_1 ru_1 rn_1 rv_1 ++ [oX10 h0 (.ref q_now) (v_reader) (v_changes) (v_image) (.ref q_rows) (v_couples), oX3 q_now now_bound now_modulus now_seed now_functions (v_now_names) (.ref q_now_kinds) (.ref q_now_firsts) (.ref q_now_seconds) (v_now_degrees) (.ref q_now_colours) (.ref q_now_needs) (.ref q_now_numbers), oX7 q_rows (.ref q_rows_sieve) (.ref q_rows_powers) (.ref q_rows_rows) turn_1, aR Y q_rows_rows 4 (fun j => some (ra j)), oX8 q_rows_sieve (.ref q_sieve_least_1), aI Y q_sieve_least_1 n_sieve_least_1 sieve_least_1, aI Y q_now_needs 12 now_needs, oX4 q_rows_powers (.ref q_rows_powers_ofPrime) (.ref q_rows_powers_cells), aI Y q_rows_powers_cells 216 powers_cells_1, aI Y q_rows_powers_ofPrime 18 powers_ofPrime_1, aI Y q_now_firsts 12 now_firsts, aI Y q_now_seconds 12 now_seconds, aI Y q_now_kinds 12 now_kinds, aI Y q_now_numbers 144 now_numbers, aI Y q_now_colours 12 now_colours])) [15, 16, 17, 18, 19, 20, 21, 22, 0, 1, 2, 3, 4, 5, 6, 7, 8, 9, 10, 11, 12, 13, 14] rfl rfl ?_
                refine g_i2l C dX10_isWhole_52 ?_
                refine g_aload_n C dX10_isWhole_53 1 rfl ?_
                refine g_iload C dX10_isWhole_54 3 rfl ?_
                obtain ⟨P_4, hP, h⟩ := h
                refine g_callV (As := [.int x4_1]) (rest := [.long (rF_2.toInt64)]) C (mX6_valueAt_at l D Y ra k_1 (hkk_1) rs_1 rf_1 rm_1 rl_1 ru_1 rn_1 rv_1 x4_1 P_4 hP) dX10_isWhole_56 rfl wM_X10_250 wI_X6_valueAt wV_X6_valueAt wN_X6 wC_X6_valueAt (n := 1) (by decide +kernel) rfl (q0 := (2 * k_1)) (rowsW_obj0 _ _ _ _ _ _ _ _ _ (hkk_1)) rfl ⟨Nat.le_of_ble_eq_true rfl, Nat.le_of_ble_eq_true rfl⟩ hk_1 (Nat.le_of_ble_eq_true rfl) [0, 1, 2, 3, 4, 5, 6, 7] [8, 9, 10, 11, 12, 13, 14, 15, 16, 17, 18, 19, 20, 21, 22] rfl rfl rfl (fun v wc hv => ?_)
                obtain ⟨rF_3, rfl, rfl, hq⟩ := hv
                replace h := h rF_3 hq
                refine gG.perm (ws' := (rowsW Y ra rs_1 rf_1 rm_1 rl_1 ru_1 rn_1 rv_1 ++ [oX10 h0 (.ref q_now) (v_reader) (v_changes) (v_image) (.ref q_rows) (v_couples), oX3 q_now now_bound now_modulus now_seed now_functions (v_now_names) (.ref q_now_kinds) (.ref q_now_firsts) (.ref q_now_seconds) (v_now_degrees) (.ref q_now_colours) (.ref q_now_needs) (.ref q_now_numbers), oX7 q_rows (.ref q_rows_sieve) (.ref q_rows_powers) (.ref q_rows_rows) turn_1, aR Y q_rows_rows 4 (fun j => some (ra j)), oX8 q_rows_sieve (.ref q_sieve_least_1), aI Y q_sieve_least_1 n_sieve_least_1 sieve_least_1, aI Y q_now_needs 12 now_needs, oX4 q_rows_powers (.ref q_rows_powers_ofPrime) (.ref q_rows_powers_cells), aI Y q_rows_powers_cells 216 powers_cells_1, aI Y q_rows_powers_ofPrime 18 powers_ofPrime_1, aI Y q_now_firsts 12 now_firsts, aI Y q_now_seconds 12 now_seconds, aI Y q_now_kinds 12 now_kinds, aI Y q_now_numbers 144 now_numbers, aI Y q_now_colours 12 now_colours])) [15, 16, 17, 18, 19, 20, 21, 22, 0, 1, 2, 3, 4, 5, 6, 7, 8, 9, 10, 11, 12, 13, 14] rfl rfl ?_
                refine g_i2l C dX10_isWhole_59 ?_
                refine g_lmul C dX10_isWhole_60 ?_
                refine g_topl (fun x5_1 ex5_1 => ?_)
                replace h := h x5_1 ex5_1
                refine g_lstore (lv' := [(5, .long x5_1), (0, .ref h0), (2, .ref (ra k_1)), (3, .int x3_1), (4, .int x4_1)]) C dX10_isWhole_61 (by decide) rfl ?_
                refine g_aload_n C dX10_isWhole_63 2 rfl ?_
                refine g_iload_n C dX10_isWhole_64 3 rfl ?_
                refine g_iload C dX10_isWhole_65 4 rfl ?_
                refine g_imul C dX10_isWhole_67 ?_
                obtain ⟨P_5, hP, h⟩ := h
                refine g_callV (As := [.int (x3_1 * x4_1)]) (rest := []) C (mX6_valueAt_at l D Y ra k_1 (hkk_1) rs_1 rf_1 rm_1 rl_1 ru_1 rn_1 rv_1 (x3_1 * x4_1) P_5 hP) dX10_isWhole_68 rfl wM_X10_250 wI_X6_valueAt wV_X6_valueAt wN_X6 wC_X6_valueAt (n := 1) (by decide +kernel) rfl (q0 := (2 * k_1)) (rowsW_obj0 _ _ _ _ _ _ _ _ _ (hkk_1)) rfl ⟨Nat.le_of_ble_eq_true rfl, Nat.le_of_ble_eq_true rfl⟩ hk_1 (Nat.le_of_ble_eq_true rfl) [0, 1, 2, 3, 4, 5, 6, 7] [8, 9, 10, 11, 12, 13, 14, 15, 16, 17, 18, 19, 20, 21, 22] rfl rfl rfl (fun v wc hv => ?_)
                obtain ⟨rF_4, rfl, rfl, hq⟩ := hv
                replace h := h rF_4 hq
                refine gG.perm (ws' := (rowsW Y ra rs_1 rf_1 rm_1 rl_1 ru_1 rn_1 rv_1 ++ [oX10 h0 (.ref q_now) (v_reader) (v_changes) (v_image) (.ref q_rows) (v_couples), oX3 q_now now_bound now_modulus now_seed now_functions (v_now_names) (.ref q_now_kinds) (.ref q_now_firsts) (.ref q_now_seconds) (v_now_degrees) (.ref q_now_colours) (.ref q_now_needs) (.ref q_now_numbers), oX7 q_rows (.ref q_rows_sieve) (.ref q_rows_powers) (.ref q_rows_rows) turn_1, aR Y q_rows_rows 4 (fun j => some (ra j)), oX8 q_rows_sieve (.ref q_sieve_least_1), aI Y q_sieve_least_1 n_sieve_least_1 sieve_least_1, aI Y q_now_needs 12 now_needs, oX4 q_rows_powers (.ref q_rows_powers_ofPrime) (.ref q_rows_powers_cells), aI Y q_rows_powers_cells 216 powers_cells_1, aI Y q_rows_powers_ofPrime 18 powers_ofPrime_1, aI Y q_now_firsts 12 now_firsts, aI Y q_now_seconds 12 now_seconds, aI Y q_now_kinds 12 now_kinds, aI Y q_now_numbers 144 now_numbers, aI Y q_now_colours 12 now_colours])) [15, 16, 17, 18, 19, 20, 21, 22, 0, 1, 2, 3, 4, 5, 6, 7, 8, 9, 10, 11, 12, 13, 14] rfl rfl ?_
                refine g_aload_n C dX10_isWhole_71 1 rfl ?_
                refine g_get C inX10 8 rfl rfl 0 (by decide) wF_X10_10 rfl dX10_isWhole_72 ?_
                refine g_lload C dX10_isWhole_75 0 rfl ?_
                obtain ⟨P_6, hP, h⟩ := h
                refine g_callV (As := [.long x5_1]) (rest := [.int rF_4]) C (mX3_rest l D Y q_now now_bound now_modulus now_seed now_functions v_now_names (.ref q_now_kinds) (.ref q_now_firsts) (.ref q_now_seconds) v_now_degrees (.ref q_now_colours) (.ref q_now_needs) (.ref q_now_numbers) x5_1 P_6 hP) dX10_isWhole_77 rfl wM_X10_209 wI_X3_rest wV_X3_rest wN_X3 wC_X3_rest (n := 1) (by decide +kernel) rfl (q0 := 0) rfl rfl ⟨Nat.le_of_ble_eq_true rfl, Nat.le_of_ble_eq_true rfl⟩ hk_1 (Nat.le_of_ble_eq_true rfl) [9] [0, 1, 2, 3, 4, 5, 6, 7, 8, 10, 11, 12, 13, 14, 15, 16, 17, 18, 19, 20, 21, 22] rfl rfl rfl (fun v wc hv => ?_)
                obtain ⟨rF_5, rfl, rfl, hq⟩ := hv
                replace h := h rF_5 hq
                refine gG.perm (ws' := (rowsW Y ra rs_1 rf_1 rm_1 rl_1 ru_1 rn_1 rv_1 ++ [oX10 h0 (.ref q_now) (v_reader) (v_changes) (v_image) (.ref q_rows) (v_couples), oX3 q_now now_bound now_modulus now_seed now_functions (v_now_names) (.ref q_now_kinds) (.ref q_now_firsts) (.ref q_now_seconds) (v_now_degrees) (.ref q_now_colours) (.ref q_now_needs) (.ref q_now_numbers), oX7 q_rows (.ref q_rows_sieve) (.ref q_rows_powers) (.ref q_rows_rows) turn_1, aR Y q_rows_rows 4 (fun j => some (ra j)), oX8 q_rows_sieve (.ref q_sieve_least_1), aI Y q_sieve_least_1 n_sieve_least_1 sieve_least_1, aI Y q_now_needs 12 now_needs, oX4 q_rows_powers (.ref q_rows_powers_ofPrime) (.ref q_rows_powers_cells), aI Y q_rows_powers_cells 216 powers_cells_1, aI Y q_rows_powers_ofPrime 18 powers_ofPrime_1, aI Y q_now_firsts 12 now_firsts, aI Y q_now_seconds 12 now_seconds, aI Y q_now_kinds 12 now_kinds, aI Y q_now_numbers 144 now_numbers, aI Y q_now_colours 12 now_colours])) [0, 1, 2, 3, 4, 5, 6, 7, 8, 22, 9, 10, 11, 12, 13, 14, 15, 16, 17, 18, 19, 20, 21] rfl rfl ?_
                refine g_icmp_eq (tgt := 85) C dX10_isWhole_80 (by decide) (fun c_4 => ?_) (fun c_4 => ?_)
                · replace h := h.1 c_4
                  refine g_iinc (v := x4_1 + 1) (lv' := [(4, .int (x4_1 + 1)), (5, .long x5_1), (0, .ref h0), (2, .ref (ra k_1)), (3, .int x3_1)]) C dX10_isWhole_85 4 rfl rfl (by decide) rfl ?_
                  refine g_goto (tgt := 40) C dX10_isWhole_88 (by decide) ?_
                  refine gG.locals (lv' := [(0, .ref h0), (2, .ref (ra k_1)), (3, .int x3_1), (4, .int (x4_1 + 1))]) [2, 3, 4, 0] rfl ?_
                  exact ih2 (x4_1 + 1) (Nat.lt_of_lt_of_le h.2 (Nat.le_of_lt_succ hm2)) h.1
                · replace h := h.2 c_4
                  refine g_iconst (v := 0) C dX10_isWhole_83 rfl ?_
                  exact g_iret C hR (show 0 + mcF_1 ≤ mc ∧ 0 + msF_1 ≤ ms from hk_1).1 (show 0 + mcF_1 ≤ mc ∧ 0 + msF_1 ≤ ms from hk_1).2 dX10_isWhole_84 ⟨0, rs_1, rf_1, rm_1, rl_1, ru_1, rn_1, rv_1, turn_1, q_sieve_least_1, n_sieve_least_1, sieve_least_1, powers_cells_1, powers_ofPrime_1, rfl, rfl, h⟩
          refine gG.locals (lv' := [(0, .ref h0), (2, .ref (ra k_1)), (3, .int x3_1), (4, .int x3_1)]) [1, 2, 3, 0] rfl ?_
          exact key_2 (Mea_2 x3_1 + 1) x3_1 (Nat.lt_succ_self _) hI2
    refine gG.locals (lv' := [(0, .ref h0), (2, .ref (ra k_1)), (3, .int 1)]) [2, 1, 0] rfl ?_
    exact key_1 (Mea_1 1 + 1) 1 (Nat.lt_succ_self _) hI1
  · replace h := h.2 c_1
    refine g_iconst (v := (-1)) C dX10_isWhole_11 rfl ?_
    exact g_iret C hR (show 0 ≤ mc ∧ 0 ≤ ms from ⟨Nat.zero_le _, Nat.zero_le _⟩).1 (show 0 ≤ mc ∧ 0 ≤ ms from ⟨Nat.zero_le _, Nat.zero_le _⟩).2 dX10_isWhole_12 ⟨(-1), rs, rf, rm, rl, ru, rn, rv, rows_turn, q_rows_sieve_least, n_rows_sieve_least, rows_sieve_least, rows_powers_cells, rows_powers_ofPrime, rfl, rfl, h⟩
theorem dX10_placeIn_0 : decode cX10_placeIn 0 = .ok (.aload_n 0, 1) := by decide +kernel
theorem dX10_placeIn_1 : decode cX10_placeIn 1 = .ok (.getfield 10, 3) := by decide +kernel
theorem dX10_placeIn_4 : decode cX10_placeIn 4 = .ok (.getfield 143, 3) := by decide +kernel
theorem dX10_placeIn_7 : decode cX10_placeIn 7 = .ok (.iconst 1, 1) := by decide +kernel
theorem dX10_placeIn_8 : decode cX10_placeIn 8 = .ok (.if_icmp .ge 7, 3) := by decide +kernel
theorem dX10_placeIn_11 : decode cX10_placeIn 11 = .ok (.iconst 1, 1) := by decide +kernel
theorem dX10_placeIn_12 : decode cX10_placeIn 12 = .ok (.goto 16, 3) := by decide +kernel
theorem dX10_placeIn_15 : decode cX10_placeIn 15 = .ok (.lload_n 1, 1) := by decide +kernel
theorem dX10_placeIn_16 : decode cX10_placeIn 16 = .ok (.aload_n 0, 1) := by decide +kernel
theorem dX10_placeIn_17 : decode cX10_placeIn 17 = .ok (.getfield 10, 3) := by decide +kernel
theorem dX10_placeIn_20 : decode cX10_placeIn 20 = .ok (.getfield 143, 3) := by decide +kernel
theorem dX10_placeIn_23 : decode cX10_placeIn 23 = .ok (.i2l, 1) := by decide +kernel
theorem dX10_placeIn_24 : decode cX10_placeIn 24 = .ok (.lrem, 1) := by decide +kernel
theorem dX10_placeIn_25 : decode cX10_placeIn 25 = .ok (.l2i, 1) := by decide +kernel
theorem dX10_placeIn_26 : decode cX10_placeIn 26 = .ok (.iconst 1, 1) := by decide +kernel
theorem dX10_placeIn_27 : decode cX10_placeIn 27 = .ok (.iadd, 1) := by decide +kernel
theorem dX10_placeIn_28 : decode cX10_placeIn 28 = .ok (.ireturn, 1) := by decide +kernel
/-- QuotientSums.placeIn(J)I -/
def wX10_placeIn (now_bound : Int32) (now_modulus : Int32) (now_seed : Int32) (now_functions : Int32) (a1 : Int64) (Q : (Int32) → Prop) : Prop :=
  ((1 ≤ now_bound → (¬ (now_bound.toInt64) = 0 ∧ (Q (((a1 - a1 / (now_bound.toInt64) * (now_bound.toInt64)).toInt32) + 1)))) ∧ (¬ 1 ≤ now_bound → (Q 1)))
set_option maxHeartbeats 4000000 in
set_option maxRecDepth 100000 in
theorem mX10_placeIn (l : Launch) (D : va_G) (Y : Nat → ClassId) (h0 : Nat) (q_now : Nat) (v_reader : Value) (v_changes : Value) (v_image : Value) (v_rows : Value) (v_couples : Value) (now_bound : Int32) (now_modulus : Int32) (now_seed : Int32) (now_functions : Int32) (v_now_names : Value) (v_now_kinds : Value) (v_now_firsts : Value) (v_now_seconds : Value) (v_now_degrees : Value) (v_now_colours : Value) (v_now_needs : Value) (v_now_numbers : Value) (a1 : Int64) (Q : (Int32) → Prop) (h : wX10_placeIn now_bound now_modulus now_seed now_functions a1 Q) : gM l D Y yX10_placeIn cX10_placeIn 3 (some .int) 0 0 0 0 [.ref h0, .long a1] [oX10 h0 (.ref q_now) (v_reader) (v_changes) (v_image) (v_rows) (v_couples), oX3 q_now now_bound now_modulus now_seed now_functions (v_now_names) (v_now_kinds) (v_now_firsts) (v_now_seconds) (v_now_degrees) (v_now_colours) (v_now_needs) (v_now_numbers)] (fun v w => ∃ r : Int32, v = some (.int r) ∧ w = [oX10 h0 (.ref q_now) (v_reader) (v_changes) (v_image) (v_rows) (v_couples), oX3 q_now now_bound now_modulus now_seed now_functions (v_now_names) (v_now_kinds) (v_now_firsts) (v_now_seconds) (v_now_degrees) (v_now_colours) (v_now_needs) (v_now_numbers)] ∧ Q r) := by
  refine gM_of (own := RX10) (by decide +kernel) rfl (Nat.le_of_ble_eq_true rfl) rfl (fun E C hR => ?_)
  unfold wX10_placeIn at h
  refine g_aload_n C dX10_placeIn_0 0 rfl ?_
  refine g_get C inX10 0 rfl rfl 0 (by decide) wF_X10_10 rfl dX10_placeIn_1 ?_
  refine g_get C inX3 1 rfl rfl 0 (by decide) wF_X10_143 rfl dX10_placeIn_4 ?_
  refine g_iconst (v := 1) C dX10_placeIn_7 rfl ?_
  refine g_icmp_ge (tgt := 15) C dX10_placeIn_8 (by decide) (fun c_1 => ?_) (fun c_1 => ?_)
  · replace h := h.1 c_1
    refine g_lload_n C dX10_placeIn_15 1 rfl ?_
    refine g_aload_n C dX10_placeIn_16 0 rfl ?_
    refine g_get C inX10 0 rfl rfl 0 (by decide) wF_X10_10 rfl dX10_placeIn_17 ?_
    refine g_get C inX3 1 rfl rfl 0 (by decide) wF_X10_143 rfl dX10_placeIn_20 ?_
    refine g_i2l C dX10_placeIn_23 ?_
    obtain ⟨hc_1, h⟩ := h
    refine g_lrem C dX10_placeIn_24 hc_1 ?_
    refine g_l2i C dX10_placeIn_25 ?_
    refine g_iconst (v := 1) C dX10_placeIn_26 rfl ?_
    refine g_iadd C dX10_placeIn_27 ?_
    exact g_iret C hR (Nat.le_of_ble_eq_true rfl) (Nat.le_of_ble_eq_true rfl) dX10_placeIn_28 ⟨((a1 - a1 / (now_bound.toInt64) * (now_bound.toInt64)).toInt32) + 1, rfl, rfl, h⟩
  · replace h := h.2 c_1
    refine g_iconst (v := 1) C dX10_placeIn_11 rfl ?_
    refine g_goto (tgt := 28) C dX10_placeIn_12 (by decide) ?_
    exact g_iret C hR (Nat.le_of_ble_eq_true rfl) (Nat.le_of_ble_eq_true rfl) dX10_placeIn_28 ⟨1, rfl, rfl, h⟩
theorem dX10_chance_0 : decode cX10_chance 0 = .ok (.iload_n 1, 1) := by decide +kernel
theorem dX10_chance_1 : decode cX10_chance 1 = .ok (.iconst (-1), 1) := by decide +kernel
theorem dX10_chance_2 : decode cX10_chance 2 = .ok (.if_icmp .lt 25, 3) := by decide +kernel
theorem dX10_chance_5 : decode cX10_chance 5 = .ok (.iload_n 2, 1) := by decide +kernel
theorem dX10_chance_6 : decode cX10_chance 6 = .ok (.iconst 1, 1) := by decide +kernel
theorem dX10_chance_7 : decode cX10_chance 7 = .ok (.if_icmp .lt 20, 3) := by decide +kernel
theorem dX10_chance_10 : decode cX10_chance 10 = .ok (.iload_n 2, 1) := by decide +kernel
theorem dX10_chance_11 : decode cX10_chance 11 = .ok (.bipush 100, 2) := by decide +kernel
theorem dX10_chance_13 : decode cX10_chance 13 = .ok (.if_icmp .gt 14, 3) := by decide +kernel
theorem dX10_chance_16 : decode cX10_chance 16 = .ok (.aload_n 0, 1) := by decide +kernel
theorem dX10_chance_17 : decode cX10_chance 17 = .ok (.getfield 10, 3) := by decide +kernel
theorem dX10_chance_20 : decode cX10_chance 20 = .ok (.iload_n 3, 1) := by decide +kernel
theorem dX10_chance_21 : decode cX10_chance 21 = .ok (.invokevirtual 98, 3) := by decide +kernel
theorem dX10_chance_24 : decode cX10_chance 24 = .ok (.ifCond .ne 5, 3) := by decide +kernel
theorem dX10_chance_27 : decode cX10_chance 27 = .ok (.iconst (-1), 1) := by decide +kernel
theorem dX10_chance_28 : decode cX10_chance 28 = .ok (.ireturn, 1) := by decide +kernel
theorem dX10_chance_29 : decode cX10_chance 29 = .ok (.iload_n 1, 1) := by decide +kernel
theorem dX10_chance_30 : decode cX10_chance 30 = .ok (.iconst (-1), 1) := by decide +kernel
theorem dX10_chance_31 : decode cX10_chance 31 = .ok (.if_icmp .ne 14, 3) := by decide +kernel
theorem dX10_chance_34 : decode cX10_chance 34 = .ok (.aload_n 0, 1) := by decide +kernel
theorem dX10_chance_35 : decode cX10_chance 35 = .ok (.getfield 10, 3) := by decide +kernel
theorem dX10_chance_38 : decode cX10_chance 38 = .ok (.getfield 270, 3) := by decide +kernel
theorem dX10_chance_41 : decode cX10_chance 41 = .ok (.i2l, 1) := by decide +kernel
theorem dX10_chance_42 : decode cX10_chance 42 = .ok (.goto 5, 3) := by decide +kernel
theorem dX10_chance_45 : decode cX10_chance 45 = .ok (.iload_n 1, 1) := by decide +kernel
theorem dX10_chance_46 : decode cX10_chance 46 = .ok (.i2l, 1) := by decide +kernel
theorem dX10_chance_47 : decode cX10_chance 47 = .ok (.lstore 4, 2) := by decide +kernel
theorem dX10_chance_49 : decode cX10_chance 49 = .ok (.lconst 0, 1) := by decide +kernel
theorem dX10_chance_50 : decode cX10_chance 50 = .ok (.lstore 6, 2) := by decide +kernel
theorem dX10_chance_52 : decode cX10_chance 52 = .ok (.iconst 0, 1) := by decide +kernel
theorem dX10_chance_53 : decode cX10_chance 53 = .ok (.istore 8, 2) := by decide +kernel
theorem dX10_chance_55 : decode cX10_chance 55 = .ok (.iload 8, 2) := by decide +kernel
theorem dX10_chance_57 : decode cX10_chance 57 = .ok (.iload_n 2, 1) := by decide +kernel
theorem dX10_chance_58 : decode cX10_chance 58 = .ok (.if_icmp .ge 81, 3) := by decide +kernel
theorem dX10_chance_61 : decode cX10_chance 61 = .ok (.lload 4, 2) := by decide +kernel
theorem dX10_chance_63 : decode cX10_chance 63 = .ok (.invokestatic 273, 3) := by decide +kernel
theorem dX10_chance_66 : decode cX10_chance 66 = .ok (.lstore 4, 2) := by decide +kernel
theorem dX10_chance_68 : decode cX10_chance 68 = .ok (.lload 4, 2) := by decide +kernel
theorem dX10_chance_70 : decode cX10_chance 70 = .ok (.ldc2_w 277, 3) := by decide +kernel
theorem dX10_chance_73 : decode cX10_chance 73 = .ok (.ldiv, 1) := by decide +kernel
theorem dX10_chance_74 : decode cX10_chance 74 = .ok (.ldc2_w 279, 3) := by decide +kernel
theorem dX10_chance_77 : decode cX10_chance 77 = .ok (.lrem, 1) := by decide +kernel
theorem dX10_chance_78 : decode cX10_chance 78 = .ok (.lstore 9, 2) := by decide +kernel
theorem dX10_chance_80 : decode cX10_chance 80 = .ok (.lload 4, 2) := by decide +kernel
theorem dX10_chance_82 : decode cX10_chance 82 = .ok (.invokestatic 273, 3) := by decide +kernel
theorem dX10_chance_85 : decode cX10_chance 85 = .ok (.lstore 4, 2) := by decide +kernel
theorem dX10_chance_87 : decode cX10_chance 87 = .ok (.lload 9, 2) := by decide +kernel
theorem dX10_chance_89 : decode cX10_chance 89 = .ok (.ldc2_w 279, 3) := by decide +kernel
theorem dX10_chance_92 : decode cX10_chance 92 = .ok (.lmul, 1) := by decide +kernel
theorem dX10_chance_93 : decode cX10_chance 93 = .ok (.lload 4, 2) := by decide +kernel
theorem dX10_chance_95 : decode cX10_chance 95 = .ok (.ldc2_w 277, 3) := by decide +kernel
theorem dX10_chance_98 : decode cX10_chance 98 = .ok (.ldiv, 1) := by decide +kernel
theorem dX10_chance_99 : decode cX10_chance 99 = .ok (.ldc2_w 279, 3) := by decide +kernel
theorem dX10_chance_102 : decode cX10_chance 102 = .ok (.lrem, 1) := by decide +kernel
theorem dX10_chance_103 : decode cX10_chance 103 = .ok (.ladd, 1) := by decide +kernel
theorem dX10_chance_104 : decode cX10_chance 104 = .ok (.lstore 11, 2) := by decide +kernel
theorem dX10_chance_106 : decode cX10_chance 106 = .ok (.lload 6, 2) := by decide +kernel
theorem dX10_chance_108 : decode cX10_chance 108 = .ok (.aload_n 0, 1) := by decide +kernel
theorem dX10_chance_109 : decode cX10_chance 109 = .ok (.getfield 40, 3) := by decide +kernel
theorem dX10_chance_112 : decode cX10_chance 112 = .ok (.getfield 164, 3) := by decide +kernel
theorem dX10_chance_115 : decode cX10_chance 115 = .ok (.aload_n 0, 1) := by decide +kernel
theorem dX10_chance_116 : decode cX10_chance 116 = .ok (.getfield 10, 3) := by decide +kernel
theorem dX10_chance_119 : decode cX10_chance 119 = .ok (.iload_n 3, 1) := by decide +kernel
theorem dX10_chance_120 : decode cX10_chance 120 = .ok (.aload_n 0, 1) := by decide +kernel
theorem dX10_chance_121 : decode cX10_chance 121 = .ok (.lload 11, 2) := by decide +kernel
theorem dX10_chance_123 : decode cX10_chance 123 = .ok (.invokevirtual 281, 3) := by decide +kernel
theorem dX10_chance_126 : decode cX10_chance 126 = .ok (.invokevirtual 168, 3) := by decide +kernel
theorem dX10_chance_129 : decode cX10_chance 129 = .ok (.i2l, 1) := by decide +kernel
theorem dX10_chance_130 : decode cX10_chance 130 = .ok (.ladd, 1) := by decide +kernel
theorem dX10_chance_131 : decode cX10_chance 131 = .ok (.lstore 6, 2) := by decide +kernel
theorem dX10_chance_133 : decode cX10_chance 133 = .ok (.iinc 8 1, 3) := by decide +kernel
theorem dX10_chance_136 : decode cX10_chance 136 = .ok (.goto (-81), 3) := by decide +kernel
theorem dX10_chance_139 : decode cX10_chance 139 = .ok (.aload_n 0, 1) := by decide +kernel
theorem dX10_chance_140 : decode cX10_chance 140 = .ok (.getfield 10, 3) := by decide +kernel
theorem dX10_chance_143 : decode cX10_chance 143 = .ok (.lload 6, 2) := by decide +kernel
theorem dX10_chance_145 : decode cX10_chance 145 = .ok (.invokevirtual 209, 3) := by decide +kernel
theorem dX10_chance_148 : decode cX10_chance 148 = .ok (.ireturn, 1) := by decide +kernel
/-- QuotientSums.chance(III)I -/
def wX10_chance (now_bound : Int32) (now_modulus : Int32) (now_seed : Int32) (now_functions : Int32) (rows_turn : Int32) (now_needs : Nat → Int32) (rows_powers_cells : Nat → Int32) (rows_powers_ofPrime : Nat → Int32) (now_firsts : Nat → Int32) (now_seconds : Nat → Int32) (now_kinds : Nat → Int32) (now_numbers : Nat → Int32) (now_colours : Nat → Int32) (a1 : Int32) (a2 : Int32) (a3 : Int32) (Q : (Int32) → (Nat → Int32) → (Nat → Int32) → Prop) : Prop :=
  ((a1 < (-1) → (Q (-1) rows_powers_cells rows_powers_ofPrime)) ∧ (¬ a1 < (-1) → ((a2 < 1 → (Q (-1) rows_powers_cells rows_powers_ofPrime)) ∧ (¬ a2 < 1 → ((100 < a2 → (Q (-1) rows_powers_cells rows_powers_ofPrime)) ∧ (¬ 100 < a2 → (∃ (P_1 : (Int32) → Prop), wX3_has now_bound now_modulus now_seed now_functions a3 P_1 ∧ ∀ (rF_1 : Int32), P_1 rF_1 → ((¬ rF_1 = 0 → (∃ (J_1 : (Int64) → Prop), ((¬ a1 = (-1) → (J_1 (a1.toInt64))) ∧ (a1 = (-1) → (J_1 (now_seed.toInt64)))) ∧ (∀ (t_1 : Int64), J_1 t_1 → (∃ (Inv_1 : (Nat → Int32) → (Nat → Int32) → (Int64) → (Int64) → (Int32) → Prop) (Mea_1 : (Nat → Int32) → (Nat → Int32) → (Int64) → (Int64) → (Int32) → Nat), Inv_1 rows_powers_cells rows_powers_ofPrime t_1 0 0 ∧ ∀ (rows_powers_cells_1 : Nat → Int32) (rows_powers_ofPrime_1 : Nat → Int32) (x4_1 : Int64) (x6_1 : Int64) (x8_1 : Int32), Inv_1 rows_powers_cells_1 rows_powers_ofPrime_1 x4_1 x6_1 x8_1 → ((a2 ≤ x8_1 → (∃ (P_2 : (Int32) → Prop), wX3_rest now_bound now_modulus now_seed now_functions x6_1 P_2 ∧ ∀ (rF_2 : Int32), P_2 rF_2 → (Q rF_2 rows_powers_cells_1 rows_powers_ofPrime_1))) ∧ (¬ a2 ≤ x8_1 → (∃ (P_3 : (Int64) → Prop), wX10_drawAfter x4_1 P_3 ∧ ∀ (rF_3 : Int64), P_3 rF_3 → ∀ x9_1 : Int64, x9_1 = (rF_3 / 65536) - (rF_3 / 65536) / 32768 * 32768 → ∃ (P_4 : (Int64) → Prop), wX10_drawAfter rF_3 P_4 ∧ ∀ (rF_4 : Int64), P_4 rF_4 → ∀ x11_1 : Int64, x11_1 = (x9_1 * 32768) + ((rF_4 / 65536) - (rF_4 / 65536) / 32768 * 32768) → ∃ (P_5 : (Int32) → Prop), wX10_placeIn now_bound now_modulus now_seed now_functions x11_1 P_5 ∧ ∀ (rF_5 : Int32), P_5 rF_5 → ∃ (P_6 : (Int32) → (Nat → Int32) → (Nat → Int32) → Prop), wX4_valueAt now_bound now_modulus now_seed now_functions now_needs rows_powers_cells_1 rows_powers_ofPrime_1 now_firsts now_seconds now_kinds now_numbers now_colours a3 rF_5 P_6 ∧ ∀ (rF_6 : Int32) (cells_1 : Nat → Int32) (ofPrime_1 : Nat → Int32), P_6 rF_6 cells_1 ofPrime_1 → ∀ x6_2 : Int64, x6_2 = x6_1 + (rF_6.toInt64) → (Inv_1 cells_1 ofPrime_1 rF_4 x6_2 (x8_1 + 1) ∧ Mea_1 cells_1 ofPrime_1 rF_4 x6_2 (x8_1 + 1) < Mea_1 rows_powers_cells_1 rows_powers_ofPrime_1 x4_1 x6_1 x8_1)))))))) ∧ (rF_1 = 0 → (Q (-1) rows_powers_cells rows_powers_ofPrime))))))))))
set_option maxHeartbeats 4000000 in
set_option maxRecDepth 100000 in
theorem mX10_chance (l : Launch) (D : va_G) (Y : Nat → ClassId) (h0 : Nat) (q_now : Nat) (v_reader : Value) (v_changes : Value) (v_image : Value) (q_rows : Nat) (v_couples : Value) (now_bound : Int32) (now_modulus : Int32) (now_seed : Int32) (now_functions : Int32) (v_now_names : Value) (q_now_kinds : Nat) (q_now_firsts : Nat) (q_now_seconds : Nat) (v_now_degrees : Value) (q_now_colours : Nat) (q_now_needs : Nat) (q_now_numbers : Nat) (v_rows_sieve : Value) (q_rows_powers : Nat) (v_rows_rows : Value) (rows_turn : Int32) (now_needs : Nat → Int32) (q_rows_powers_ofPrime : Nat) (q_rows_powers_cells : Nat) (rows_powers_cells : Nat → Int32) (rows_powers_ofPrime : Nat → Int32) (now_firsts : Nat → Int32) (now_seconds : Nat → Int32) (now_kinds : Nat → Int32) (now_numbers : Nat → Int32) (now_colours : Nat → Int32) (a1 : Int32) (a2 : Int32) (a3 : Int32) (Q : (Int32) → (Nat → Int32) → (Nat → Int32) → Prop) (h : wX10_chance now_bound now_modulus now_seed now_functions rows_turn now_needs rows_powers_cells rows_powers_ofPrime now_firsts now_seconds now_kinds now_numbers now_colours a1 a2 a3 Q) : gM l D Y yX10_chance cX10_chance 13 (some .int) 5 126 0 0 [.ref h0, .int a1, .int a2, .int a3] [oX10 h0 (.ref q_now) (v_reader) (v_changes) (v_image) (.ref q_rows) (v_couples), oX3 q_now now_bound now_modulus now_seed now_functions (v_now_names) (.ref q_now_kinds) (.ref q_now_firsts) (.ref q_now_seconds) (v_now_degrees) (.ref q_now_colours) (.ref q_now_needs) (.ref q_now_numbers), oX7 q_rows (v_rows_sieve) (.ref q_rows_powers) (v_rows_rows) rows_turn, aI Y q_now_needs 12 now_needs, oX4 q_rows_powers (.ref q_rows_powers_ofPrime) (.ref q_rows_powers_cells), aI Y q_rows_powers_cells 216 rows_powers_cells, aI Y q_rows_powers_ofPrime 18 rows_powers_ofPrime, aI Y q_now_firsts 12 now_firsts, aI Y q_now_seconds 12 now_seconds, aI Y q_now_kinds 12 now_kinds, aI Y q_now_numbers 144 now_numbers, aI Y q_now_colours 12 now_colours] (fun v w => ∃ r : Int32, ∃ rows_powers_cells' : Nat → Int32, ∃ rows_powers_ofPrime' : Nat → Int32, v = some (.int r) ∧ w = [oX10 h0 (.ref q_now) (v_reader) (v_changes) (v_image) (.ref q_rows) (v_couples), oX3 q_now now_bound now_modulus now_seed now_functions (v_now_names) (.ref q_now_kinds) (.ref q_now_firsts) (.ref q_now_seconds) (v_now_degrees) (.ref q_now_colours) (.ref q_now_needs) (.ref q_now_numbers), oX7 q_rows (v_rows_sieve) (.ref q_rows_powers) (v_rows_rows) rows_turn, aI Y q_now_needs 12 now_needs, oX4 q_rows_powers (.ref q_rows_powers_ofPrime) (.ref q_rows_powers_cells), aI Y q_rows_powers_cells 216 rows_powers_cells', aI Y q_rows_powers_ofPrime 18 rows_powers_ofPrime', aI Y q_now_firsts 12 now_firsts, aI Y q_now_seconds 12 now_seconds, aI Y q_now_kinds 12 now_kinds, aI Y q_now_numbers 144 now_numbers, aI Y q_now_colours 12 now_colours] ∧ Q r rows_powers_cells' rows_powers_ofPrime') := by
  refine gM_of (own := RX10) (by decide +kernel) rfl (Nat.le_of_ble_eq_true rfl) rfl (fun E C hR => ?_)
  unfold wX10_chance at h
  refine g_iload_n C dX10_chance_0 1 rfl ?_
  refine g_iconst (v := (-1)) C dX10_chance_1 rfl ?_
  refine g_icmp_lt (tgt := 27) C dX10_chance_2 (by decide) (fun c_1 => ?_) (fun c_1 => ?_)
  · replace h := h.1 c_1
    refine g_iconst (v := (-1)) C dX10_chance_27 rfl ?_
    exact g_iret C hR (Nat.le_of_ble_eq_true rfl) (Nat.le_of_ble_eq_true rfl) dX10_chance_28 ⟨(-1), rows_powers_cells, rows_powers_ofPrime, rfl, rfl, h⟩
  · replace h := h.2 c_1
    refine g_iload_n C dX10_chance_5 2 rfl ?_
    refine g_iconst (v := 1) C dX10_chance_6 rfl ?_
    refine g_icmp_lt (tgt := 27) C dX10_chance_7 (by decide) (fun c_2 => ?_) (fun c_2 => ?_)
    · replace h := h.1 c_2
      refine g_iconst (v := (-1)) C dX10_chance_27 rfl ?_
      exact g_iret C hR (Nat.le_of_ble_eq_true rfl) (Nat.le_of_ble_eq_true rfl) dX10_chance_28 ⟨(-1), rows_powers_cells, rows_powers_ofPrime, rfl, rfl, h⟩
    · replace h := h.2 c_2
      refine g_iload_n C dX10_chance_10 2 rfl ?_
      refine g_bipush (v := 100) C dX10_chance_11 rfl ?_
      refine g_icmp_gt (tgt := 27) C dX10_chance_13 (by decide) (fun c_3 => ?_) (fun c_3 => ?_)
      · replace h := h.1 c_3
        refine g_iconst (v := (-1)) C dX10_chance_27 rfl ?_
        exact g_iret C hR (Nat.le_of_ble_eq_true rfl) (Nat.le_of_ble_eq_true rfl) dX10_chance_28 ⟨(-1), rows_powers_cells, rows_powers_ofPrime, rfl, rfl, h⟩
      · replace h := h.2 c_3
        refine g_aload_n C dX10_chance_16 0 rfl ?_
        refine g_get C inX10 0 rfl rfl 0 (by decide) wF_X10_10 rfl dX10_chance_17 ?_
        refine g_iload_n C dX10_chance_20 3 rfl ?_
        obtain ⟨P_1, hP, h⟩ := h
        refine g_callV (As := [.int a3]) (rest := []) C (mX3_has l D Y q_now now_bound now_modulus now_seed now_functions v_now_names (.ref q_now_kinds) (.ref q_now_firsts) (.ref q_now_seconds) v_now_degrees (.ref q_now_colours) (.ref q_now_needs) (.ref q_now_numbers) a3 P_1 hP) dX10_chance_21 rfl wM_X10_98 wI_X3_has wV_X3_has wN_X3 wC_X3_has (n := 1) (by decide +kernel) rfl (q0 := 0) rfl rfl ⟨Nat.le_of_ble_eq_true rfl, Nat.le_of_ble_eq_true rfl⟩ ⟨Nat.le_of_ble_eq_true rfl, Nat.le_of_ble_eq_true rfl⟩ (Nat.le_of_ble_eq_true rfl) [1] [0, 2, 3, 4, 5, 6, 7, 8, 9, 10, 11] rfl rfl rfl (fun v wc hv => ?_)
        obtain ⟨rF_1, rfl, rfl, hq⟩ := hv
        replace h := h rF_1 hq
        refine gG.perm (ws' := [oX10 h0 (.ref q_now) (v_reader) (v_changes) (v_image) (.ref q_rows) (v_couples), oX3 q_now now_bound now_modulus now_seed now_functions (v_now_names) (.ref q_now_kinds) (.ref q_now_firsts) (.ref q_now_seconds) (v_now_degrees) (.ref q_now_colours) (.ref q_now_needs) (.ref q_now_numbers), oX7 q_rows (v_rows_sieve) (.ref q_rows_powers) (v_rows_rows) rows_turn, aI Y q_now_needs 12 now_needs, oX4 q_rows_powers (.ref q_rows_powers_ofPrime) (.ref q_rows_powers_cells), aI Y q_rows_powers_cells 216 rows_powers_cells, aI Y q_rows_powers_ofPrime 18 rows_powers_ofPrime, aI Y q_now_firsts 12 now_firsts, aI Y q_now_seconds 12 now_seconds, aI Y q_now_kinds 12 now_kinds, aI Y q_now_numbers 144 now_numbers, aI Y q_now_colours 12 now_colours]) [0, 11, 1, 2, 3, 4, 5, 6, 7, 8, 9, 10] rfl rfl ?_
        refine g_if_ne (tgt := 29) C dX10_chance_24 (by decide) (fun c_4 => ?_) (fun c_4 => ?_)
        · replace h := h.1 c_4
          refine g_iload_n C dX10_chance_29 1 rfl ?_
          refine g_iconst (v := (-1)) C dX10_chance_30 rfl ?_
          obtain ⟨J_1, hA, hB_J_1⟩ := h
          have key_1 : ∀ (t_1 : Int64), J_1 t_1 → gG E 0 0 [oX10 h0 (.ref q_now) (v_reader) (v_changes) (v_image) (.ref q_rows) (v_couples), oX3 q_now now_bound now_modulus now_seed now_functions (v_now_names) (.ref q_now_kinds) (.ref q_now_firsts) (.ref q_now_seconds) (v_now_degrees) (.ref q_now_colours) (.ref q_now_needs) (.ref q_now_numbers), oX7 q_rows (v_rows_sieve) (.ref q_rows_powers) (v_rows_rows) rows_turn, aI Y q_now_needs 12 now_needs, oX4 q_rows_powers (.ref q_rows_powers_ofPrime) (.ref q_rows_powers_cells), aI Y q_rows_powers_cells 216 rows_powers_cells, aI Y q_rows_powers_ofPrime 18 rows_powers_ofPrime, aI Y q_now_firsts 12 now_firsts, aI Y q_now_seconds 12 now_seconds, aI Y q_now_kinds 12 now_kinds, aI Y q_now_numbers 144 now_numbers, aI Y q_now_colours 12 now_colours] [(0, .ref h0), (2, .int a2), (3, .int a3)] [.long t_1] 47 := by
            intro t_1 hJ
            have h := hB_J_1 t_1 hJ
            refine g_lstore (lv' := [(4, .long t_1), (0, .ref h0), (2, .int a2), (3, .int a3)]) C dX10_chance_47 (by decide) rfl ?_
            refine g_lconst (v := 0) C dX10_chance_49 rfl ?_
            refine g_lstore (lv' := [(6, .long 0), (4, .long t_1), (0, .ref h0), (2, .int a2), (3, .int a3)]) C dX10_chance_50 (by decide) rfl ?_
            refine g_iconst (v := 0) C dX10_chance_52 rfl ?_
            refine g_istore (lv' := [(8, .int 0), (6, .long 0), (4, .long t_1), (0, .ref h0), (2, .int a2), (3, .int a3)]) C dX10_chance_53 (by decide) rfl ?_
            obtain ⟨Inv_1, Mea_1, hI2, hB2⟩ := h
            have key_2 : ∀ (n : Nat) (rows_powers_cells_1 : Nat → Int32) (rows_powers_ofPrime_1 : Nat → Int32) (x4_1 : Int64) (x6_1 : Int64) (x8_1 : Int32) , Mea_1 rows_powers_cells_1 rows_powers_ofPrime_1 x4_1 x6_1 x8_1 < n → Inv_1 rows_powers_cells_1 rows_powers_ofPrime_1 x4_1 x6_1 x8_1 → gG E 0 0 [oX10 h0 (.ref q_now) (v_reader) (v_changes) (v_image) (.ref q_rows) (v_couples), oX3 q_now now_bound now_modulus now_seed now_functions (v_now_names) (.ref q_now_kinds) (.ref q_now_firsts) (.ref q_now_seconds) (v_now_degrees) (.ref q_now_colours) (.ref q_now_needs) (.ref q_now_numbers), oX7 q_rows (v_rows_sieve) (.ref q_rows_powers) (v_rows_rows) rows_turn, aI Y q_now_needs 12 now_needs, oX4 q_rows_powers (.ref q_rows_powers_ofPrime) (.ref q_rows_powers_cells), aI Y q_rows_powers_cells 216 rows_powers_cells_1, aI Y q_rows_powers_ofPrime 18 rows_powers_ofPrime_1, aI Y q_now_firsts 12 now_firsts, aI Y q_now_seconds 12 now_seconds, aI Y q_now_kinds 12 now_kinds, aI Y q_now_numbers 144 now_numbers, aI Y q_now_colours 12 now_colours] [(0, .ref h0), (2, .int a2), (3, .int a3), (4, .long x4_1), (6, .long x6_1), (8, .int x8_1)] [] 55 := by
              intro n
              induction n with
              | zero => exact fun _ _ _ _ _ hm => absurd hm (Nat.not_lt_zero _)
              | succ n ih2 =>
                intro rows_powers_cells_1 rows_powers_ofPrime_1 x4_1 x6_1 x8_1  hm2 hI
                have h := hB2 rows_powers_cells_1 rows_powers_ofPrime_1 x4_1 x6_1 x8_1 hI
                refine g_iload C dX10_chance_55 5 rfl ?_
                refine g_iload_n C dX10_chance_57 1 rfl ?_
                refine g_icmp_ge (tgt := 139) C dX10_chance_58 (by decide) (fun c_5 => ?_) (fun c_5 => ?_)
                · replace h := h.1 c_5
                  refine g_aload_n C dX10_chance_139 0 rfl ?_
                  refine g_get C inX10 0 rfl rfl 0 (by decide) wF_X10_10 rfl dX10_chance_140 ?_
                  refine g_lload C dX10_chance_143 4 rfl ?_
                  obtain ⟨P_2, hP, h⟩ := h
                  refine g_callV (As := [.long x6_1]) (rest := []) C (mX3_rest l D Y q_now now_bound now_modulus now_seed now_functions v_now_names (.ref q_now_kinds) (.ref q_now_firsts) (.ref q_now_seconds) v_now_degrees (.ref q_now_colours) (.ref q_now_needs) (.ref q_now_numbers) x6_1 P_2 hP) dX10_chance_145 rfl wM_X10_209 wI_X3_rest wV_X3_rest wN_X3 wC_X3_rest (n := 1) (by decide +kernel) rfl (q0 := 0) rfl rfl ⟨Nat.le_of_ble_eq_true rfl, Nat.le_of_ble_eq_true rfl⟩ ⟨Nat.le_of_ble_eq_true rfl, Nat.le_of_ble_eq_true rfl⟩ (Nat.le_of_ble_eq_true rfl) [1] [0, 2, 3, 4, 5, 6, 7, 8, 9, 10, 11] rfl rfl rfl (fun v wc hv => ?_)
                  obtain ⟨rF_2, rfl, rfl, hq⟩ := hv
                  replace h := h rF_2 hq
                  refine gG.perm (ws' := [oX10 h0 (.ref q_now) (v_reader) (v_changes) (v_image) (.ref q_rows) (v_couples), oX3 q_now now_bound now_modulus now_seed now_functions (v_now_names) (.ref q_now_kinds) (.ref q_now_firsts) (.ref q_now_seconds) (v_now_degrees) (.ref q_now_colours) (.ref q_now_needs) (.ref q_now_numbers), oX7 q_rows (v_rows_sieve) (.ref q_rows_powers) (v_rows_rows) rows_turn, aI Y q_now_needs 12 now_needs, oX4 q_rows_powers (.ref q_rows_powers_ofPrime) (.ref q_rows_powers_cells), aI Y q_rows_powers_cells 216 rows_powers_cells_1, aI Y q_rows_powers_ofPrime 18 rows_powers_ofPrime_1, aI Y q_now_firsts 12 now_firsts, aI Y q_now_seconds 12 now_seconds, aI Y q_now_kinds 12 now_kinds, aI Y q_now_numbers 144 now_numbers, aI Y q_now_colours 12 now_colours]) [0, 11, 1, 2, 3, 4, 5, 6, 7, 8, 9, 10] rfl rfl ?_
                  exact g_iret C hR (Nat.le_of_ble_eq_true rfl) (Nat.le_of_ble_eq_true rfl) dX10_chance_148 ⟨rF_2, rows_powers_cells_1, rows_powers_ofPrime_1, rfl, rfl, h⟩
                · replace h := h.2 c_5
                  refine g_lload C dX10_chance_61 3 rfl ?_
                  obtain ⟨P_3, hP, h⟩ := h
                  refine g_callS (As := [.long x4_1]) (rest := []) C (mX10_drawAfter l D Y x4_1 P_3 hP) dX10_chance_63 rfl wM_X10_273 wS_X10_drawAfter wN_X10 wC_X10_drawAfter (n := 1) (by decide +kernel) rfl ⟨Nat.le_of_ble_eq_true rfl, Nat.le_of_ble_eq_true rfl⟩ ⟨Nat.le_of_ble_eq_true rfl, Nat.le_of_ble_eq_true rfl⟩ (Nat.le_of_ble_eq_true rfl) [] [0, 1, 2, 3, 4, 5, 6, 7, 8, 9, 10, 11] rfl rfl rfl (fun v wc hv => ?_)
                  obtain ⟨rF_3, rfl, rfl, hq⟩ := hv
                  replace h := h rF_3 hq
                  refine gG.eqw (ws' := [oX10 h0 (.ref q_now) (v_reader) (v_changes) (v_image) (.ref q_rows) (v_couples), oX3 q_now now_bound now_modulus now_seed now_functions (v_now_names) (.ref q_now_kinds) (.ref q_now_firsts) (.ref q_now_seconds) (v_now_degrees) (.ref q_now_colours) (.ref q_now_needs) (.ref q_now_numbers), oX7 q_rows (v_rows_sieve) (.ref q_rows_powers) (v_rows_rows) rows_turn, aI Y q_now_needs 12 now_needs, oX4 q_rows_powers (.ref q_rows_powers_ofPrime) (.ref q_rows_powers_cells), aI Y q_rows_powers_cells 216 rows_powers_cells_1, aI Y q_rows_powers_ofPrime 18 rows_powers_ofPrime_1, aI Y q_now_firsts 12 now_firsts, aI Y q_now_seconds 12 now_seconds, aI Y q_now_kinds 12 now_kinds, aI Y q_now_numbers 144 now_numbers, aI Y q_now_colours 12 now_colours]) rfl ?_
                  refine g_lstore (lv' := [(4, .long rF_3), (0, .ref h0), (2, .int a2), (3, .int a3), (6, .long x6_1), (8, .int x8_1)]) C dX10_chance_66 (by decide) rfl ?_
                  refine g_lload C dX10_chance_68 0 rfl ?_
                  refine g_ldc2 C dX10_chance_70 wQ_X10_277 ?_
                  refine g_ldiv C dX10_chance_73 (by decide) ?_
                  refine g_ldc2 C dX10_chance_74 wQ_X10_279 ?_
                  refine g_lrem C dX10_chance_77 (by decide) ?_
                  refine g_topl (fun x9_1 ex9_1 => ?_)
                  replace h := h x9_1 ex9_1
                  refine g_lstore (lv' := [(9, .long x9_1), (4, .long rF_3), (0, .ref h0), (2, .int a2), (3, .int a3), (6, .long x6_1), (8, .int x8_1)]) C dX10_chance_78 (by decide) rfl ?_
                  refine g_lload C dX10_chance_80 1 rfl ?_
                  obtain ⟨P_4, hP, h⟩ := h
                  refine g_callS (As := [.long rF_3]) (rest := []) C (mX10_drawAfter l D Y rF_3 P_4 hP) dX10_chance_82 rfl wM_X10_273 wS_X10_drawAfter wN_X10 wC_X10_drawAfter (n := 1) (by decide +kernel) rfl ⟨Nat.le_of_ble_eq_true rfl, Nat.le_of_ble_eq_true rfl⟩ ⟨Nat.le_of_ble_eq_true rfl, Nat.le_of_ble_eq_true rfl⟩ (Nat.le_of_ble_eq_true rfl) [] [0, 1, 2, 3, 4, 5, 6, 7, 8, 9, 10, 11] rfl rfl rfl (fun v wc hv => ?_)
                  obtain ⟨rF_4, rfl, rfl, hq⟩ := hv
                  replace h := h rF_4 hq
                  refine gG.eqw (ws' := [oX10 h0 (.ref q_now) (v_reader) (v_changes) (v_image) (.ref q_rows) (v_couples), oX3 q_now now_bound now_modulus now_seed now_functions (v_now_names) (.ref q_now_kinds) (.ref q_now_firsts) (.ref q_now_seconds) (v_now_degrees) (.ref q_now_colours) (.ref q_now_needs) (.ref q_now_numbers), oX7 q_rows (v_rows_sieve) (.ref q_rows_powers) (v_rows_rows) rows_turn, aI Y q_now_needs 12 now_needs, oX4 q_rows_powers (.ref q_rows_powers_ofPrime) (.ref q_rows_powers_cells), aI Y q_rows_powers_cells 216 rows_powers_cells_1, aI Y q_rows_powers_ofPrime 18 rows_powers_ofPrime_1, aI Y q_now_firsts 12 now_firsts, aI Y q_now_seconds 12 now_seconds, aI Y q_now_kinds 12 now_kinds, aI Y q_now_numbers 144 now_numbers, aI Y q_now_colours 12 now_colours]) rfl ?_
                  refine g_lstore (lv' := [(4, .long rF_4), (9, .long x9_1), (0, .ref h0), (2, .int a2), (3, .int a3), (6, .long x6_1), (8, .int x8_1)]) C dX10_chance_85 (by decide) rfl ?_
                  refine g_lload C dX10_chance_87 1 rfl ?_
                  refine g_ldc2 C dX10_chance_89 wQ_X10_279 ?_
                  refine g_lmul C dX10_chance_92 ?_
                  refine g_lload C dX10_chance_93 0 rfl ?_
                  refine g_ldc2 C dX10_chance_95 wQ_X10_277 ?_
                  refine g_ldiv C dX10_chance_98 (by decide) ?_
                  refine g_ldc2 C dX10_chance_99 wQ_X10_279 ?_
                  refine g_lrem C dX10_chance_102 (by decide) ?_
                  refine g_ladd C dX10_chance_103 ?_
                  refine g_topl (fun x11_1 ex11_1 => ?_)
                  replace h := h x11_1 ex11_1
                  refine g_lstore (lv' := [(11, .long x11_1), (4, .long rF_4), (9, .long x9_1), (0, .ref h0), (2, .int a2), (3, .int a3), (6, .long x6_1), (8, .int x8_1)]) C dX10_chance_104 (by decide) rfl ?_
                  refine g_lload C dX10_chance_106 6 rfl ?_
                  refine g_aload_n C dX10_chance_108 3 rfl ?_
                  refine g_get C inX10 0 rfl rfl 4 (by decide) wF_X10_40 rfl dX10_chance_109 ?_
                  refine g_get C inX7 2 rfl rfl 1 (by decide) wF_X10_164 rfl dX10_chance_112 ?_
                  refine g_aload_n C dX10_chance_115 3 rfl ?_
                  refine g_get C inX10 0 rfl rfl 0 (by decide) wF_X10_10 rfl dX10_chance_116 ?_
                  refine g_iload_n C dX10_chance_119 5 rfl ?_
                  refine g_aload_n C dX10_chance_120 3 rfl ?_
                  refine g_lload C dX10_chance_121 0 rfl ?_
                  obtain ⟨P_5, hP, h⟩ := h
                  refine g_callV (As := [.long x11_1]) (rest := [.int a3, .ref q_now, .ref q_rows_powers, .long x6_1]) C (mX10_placeIn l D Y h0 q_now v_reader v_changes v_image (.ref q_rows) v_couples now_bound now_modulus now_seed now_functions v_now_names (.ref q_now_kinds) (.ref q_now_firsts) (.ref q_now_seconds) v_now_degrees (.ref q_now_colours) (.ref q_now_needs) (.ref q_now_numbers) x11_1 P_5 hP) dX10_chance_123 rfl wM_X10_281 wI_X10_placeIn wV_X10_placeIn wN_X10 wC_X10_placeIn (n := 1) (by decide +kernel) rfl (q0 := 0) rfl rfl ⟨Nat.le_of_ble_eq_true rfl, Nat.le_of_ble_eq_true rfl⟩ ⟨Nat.le_of_ble_eq_true rfl, Nat.le_of_ble_eq_true rfl⟩ (Nat.le_of_ble_eq_true rfl) [0, 1] [2, 3, 4, 5, 6, 7, 8, 9, 10, 11] rfl rfl rfl (fun v wc hv => ?_)
                  obtain ⟨rF_5, rfl, rfl, hq⟩ := hv
                  replace h := h rF_5 hq
                  refine gG.perm (ws' := [oX10 h0 (.ref q_now) (v_reader) (v_changes) (v_image) (.ref q_rows) (v_couples), oX3 q_now now_bound now_modulus now_seed now_functions (v_now_names) (.ref q_now_kinds) (.ref q_now_firsts) (.ref q_now_seconds) (v_now_degrees) (.ref q_now_colours) (.ref q_now_needs) (.ref q_now_numbers), oX7 q_rows (v_rows_sieve) (.ref q_rows_powers) (v_rows_rows) rows_turn, aI Y q_now_needs 12 now_needs, oX4 q_rows_powers (.ref q_rows_powers_ofPrime) (.ref q_rows_powers_cells), aI Y q_rows_powers_cells 216 rows_powers_cells_1, aI Y q_rows_powers_ofPrime 18 rows_powers_ofPrime_1, aI Y q_now_firsts 12 now_firsts, aI Y q_now_seconds 12 now_seconds, aI Y q_now_kinds 12 now_kinds, aI Y q_now_numbers 144 now_numbers, aI Y q_now_colours 12 now_colours]) [10, 11, 0, 1, 2, 3, 4, 5, 6, 7, 8, 9] rfl rfl ?_
                  obtain ⟨P_6, hP, h⟩ := h
                  refine g_callV (As := [.ref q_now, .int a3, .int rF_5]) (rest := [.long x6_1]) C (mX4_valueAt l D Y q_rows_powers q_now now_bound now_modulus now_seed now_functions v_now_names q_now_kinds q_now_firsts q_now_seconds v_now_degrees q_now_colours q_now_needs q_now_numbers now_needs q_rows_powers_ofPrime q_rows_powers_cells rows_powers_cells_1 rows_powers_ofPrime_1 now_firsts now_seconds now_kinds now_numbers now_colours a3 rF_5 P_6 hP) dX10_chance_126 rfl wM_X10_168 wI_X4_valueAt wV_X4_valueAt wN_X4 wC_X4_valueAt (n := 3) (by decide +kernel) rfl (q0 := 2) rfl rfl ⟨Nat.le_of_ble_eq_true rfl, Nat.le_of_ble_eq_true rfl⟩ ⟨Nat.le_of_ble_eq_true rfl, Nat.le_of_ble_eq_true rfl⟩ (Nat.le_of_ble_eq_true rfl) [1, 3, 4, 5, 6, 7, 8, 9, 10, 11] [0, 2] rfl rfl rfl (fun v wc hv => ?_)
                  obtain ⟨rF_6, cells_1, ofPrime_1, rfl, rfl, hq⟩ := hv
                  replace h := h rF_6 cells_1 ofPrime_1 hq
                  refine gG.perm (ws' := [oX10 h0 (.ref q_now) (v_reader) (v_changes) (v_image) (.ref q_rows) (v_couples), oX3 q_now now_bound now_modulus now_seed now_functions (v_now_names) (.ref q_now_kinds) (.ref q_now_firsts) (.ref q_now_seconds) (v_now_degrees) (.ref q_now_colours) (.ref q_now_needs) (.ref q_now_numbers), oX7 q_rows (v_rows_sieve) (.ref q_rows_powers) (v_rows_rows) rows_turn, aI Y q_now_needs 12 now_needs, oX4 q_rows_powers (.ref q_rows_powers_ofPrime) (.ref q_rows_powers_cells), aI Y q_rows_powers_cells 216 cells_1, aI Y q_rows_powers_ofPrime 18 ofPrime_1, aI Y q_now_firsts 12 now_firsts, aI Y q_now_seconds 12 now_seconds, aI Y q_now_kinds 12 now_kinds, aI Y q_now_numbers 144 now_numbers, aI Y q_now_colours 12 now_colours]) [0, 2, 1, 3, 4, 5, 6, 7, 8, 9, 10, 11] rfl rfl ?_
                  refine g_i2l C dX10_chance_129 ?_
                  refine g_ladd C dX10_chance_130 ?_
                  refine g_topl (fun x6_2 ex6_2 => ?_)
                  replace h := h x6_2 ex6_2
                  refine g_lstore (lv' := [(6, .long x6_2), (11, .long x11_1), (4, .long rF_4), (9, .long x9_1), (0, .ref h0), (2, .int a2), (3, .int a3), (8, .int x8_1)]) C dX10_chance_131 (by decide) rfl ?_
                  refine g_iinc (v := x8_1 + 1) (lv' := [(8, .int (x8_1 + 1)), (6, .long x6_2), (11, .long x11_1), (4, .long rF_4), (9, .long x9_1), (0, .ref h0), (2, .int a2), (3, .int a3)]) C dX10_chance_133 7 rfl rfl (by decide) rfl ?_
                  refine g_goto (tgt := 55) C dX10_chance_136 (by decide) ?_
                  refine gG.locals (lv' := [(0, .ref h0), (2, .int a2), (3, .int a3), (4, .long rF_4), (6, .long x6_2), (8, .int (x8_1 + 1))]) [5, 6, 7, 3, 1, 0] rfl ?_
                  exact ih2 cells_1 ofPrime_1 rF_4 x6_2 (x8_1 + 1) (Nat.lt_of_lt_of_le h.2 (Nat.le_of_lt_succ hm2)) h.1
            refine gG.locals (lv' := [(0, .ref h0), (2, .int a2), (3, .int a3), (4, .long t_1), (6, .long 0), (8, .int 0)]) [3, 4, 5, 2, 1, 0] rfl ?_
            exact key_2 (Mea_1 rows_powers_cells rows_powers_ofPrime t_1 0 0 + 1) rows_powers_cells rows_powers_ofPrime t_1 0 0 (Nat.lt_succ_self _) hI2
          replace h := hA
          refine g_icmp_ne (tgt := 45) C dX10_chance_31 (by decide) (fun c_6 => ?_) (fun c_6 => ?_)
          · replace h := h.1 c_6
            refine g_iload_n C dX10_chance_45 1 rfl ?_
            refine g_i2l C dX10_chance_46 ?_
            refine gG.locals (lv' := [(0, .ref h0), (2, .int a2), (3, .int a3)]) [0, 2, 3] rfl ?_
            exact key_1 (a1.toInt64) h
          · replace h := h.2 c_6
            refine g_aload_n C dX10_chance_34 0 rfl ?_
            refine g_get C inX10 0 rfl rfl 0 (by decide) wF_X10_10 rfl dX10_chance_35 ?_
            refine g_get C inX3 1 rfl rfl 2 (by decide) wF_X10_270 rfl dX10_chance_38 ?_
            refine g_i2l C dX10_chance_41 ?_
            refine g_goto (tgt := 47) C dX10_chance_42 (by decide) ?_
            refine gG.locals (lv' := [(0, .ref h0), (2, .int a2), (3, .int a3)]) [0, 2, 3] rfl ?_
            exact key_1 (now_seed.toInt64) h
        · replace h := h.2 c_4
          refine g_iconst (v := (-1)) C dX10_chance_27 rfl ?_
          exact g_iret C hR (Nat.le_of_ble_eq_true rfl) (Nat.le_of_ble_eq_true rfl) dX10_chance_28 ⟨(-1), rows_powers_cells, rows_powers_ofPrime, rfl, rfl, h⟩
theorem dX10_undo_0 : decode cX10_undo 0 = .ok (.aload_n 0, 1) := by decide +kernel
theorem dX10_undo_1 : decode cX10_undo 1 = .ok (.getfield 26, 3) := by decide +kernel
theorem dX10_undo_4 : decode cX10_undo 4 = .ok (.invokevirtual 290, 3) := by decide +kernel
theorem dX10_undo_7 : decode cX10_undo 7 = .ok (.ifCond .ne 5, 3) := by decide +kernel
theorem dX10_undo_10 : decode cX10_undo 10 = .ok (.iconst (-1), 1) := by decide +kernel
theorem dX10_undo_11 : decode cX10_undo 11 = .ok (.ireturn, 1) := by decide +kernel
theorem dX10_undo_12 : decode cX10_undo 12 = .ok (.aload_n 0, 1) := by decide +kernel
theorem dX10_undo_13 : decode cX10_undo 13 = .ok (.getfield 26, 3) := by decide +kernel
theorem dX10_undo_16 : decode cX10_undo 16 = .ok (.invokevirtual 293, 3) := by decide +kernel
theorem dX10_undo_19 : decode cX10_undo 19 = .ok (.istore_n 1, 1) := by decide +kernel
theorem dX10_undo_20 : decode cX10_undo 20 = .ok (.aload_n 0, 1) := by decide +kernel
theorem dX10_undo_21 : decode cX10_undo 21 = .ok (.getfield 26, 3) := by decide +kernel
theorem dX10_undo_24 : decode cX10_undo 24 = .ok (.invokevirtual 297, 3) := by decide +kernel
theorem dX10_undo_27 : decode cX10_undo 27 = .ok (.lookupswitch 47 #[(0, 25), (1, 36)], 25) := by decide +kernel
theorem dX10_undo_52 : decode cX10_undo 52 = .ok (.aload_n 0, 1) := by decide +kernel
theorem dX10_undo_53 : decode cX10_undo 53 = .ok (.getfield 10, 3) := by decide +kernel
theorem dX10_undo_56 : decode cX10_undo 56 = .ok (.iload_n 1, 1) := by decide +kernel
theorem dX10_undo_57 : decode cX10_undo 57 = .ok (.putfield 143, 3) := by decide +kernel
theorem dX10_undo_60 : decode cX10_undo 60 = .ok (.goto 33, 3) := by decide +kernel
theorem dX10_undo_63 : decode cX10_undo 63 = .ok (.aload_n 0, 1) := by decide +kernel
theorem dX10_undo_64 : decode cX10_undo 64 = .ok (.getfield 10, 3) := by decide +kernel
theorem dX10_undo_67 : decode cX10_undo 67 = .ok (.iload_n 1, 1) := by decide +kernel
theorem dX10_undo_68 : decode cX10_undo 68 = .ok (.putfield 151, 3) := by decide +kernel
theorem dX10_undo_71 : decode cX10_undo 71 = .ok (.goto 22, 3) := by decide +kernel
theorem dX10_undo_74 : decode cX10_undo 74 = .ok (.aload_n 0, 1) := by decide +kernel
theorem dX10_undo_75 : decode cX10_undo 75 = .ok (.aload_n 0, 1) := by decide +kernel
theorem dX10_undo_76 : decode cX10_undo 76 = .ok (.getfield 26, 3) := by decide +kernel
theorem dX10_undo_79 : decode cX10_undo 79 = .ok (.invokevirtual 300, 3) := by decide +kernel
theorem dX10_undo_82 : decode cX10_undo 82 = .ok (.iload_n 1, 1) := by decide +kernel
theorem dX10_undo_83 : decode cX10_undo 83 = .ok (.aload_n 0, 1) := by decide +kernel
theorem dX10_undo_84 : decode cX10_undo 84 = .ok (.getfield 26, 3) := by decide +kernel
theorem dX10_undo_87 : decode cX10_undo 87 = .ok (.invokevirtual 303, 3) := by decide +kernel
theorem dX10_undo_90 : decode cX10_undo 90 = .ok (.invokevirtual 157, 3) := by decide +kernel
theorem dX10_undo_93 : decode cX10_undo 93 = .ok (.aload_n 0, 1) := by decide +kernel
theorem dX10_undo_94 : decode cX10_undo 94 = .ok (.getfield 26, 3) := by decide +kernel
theorem dX10_undo_97 : decode cX10_undo 97 = .ok (.getfield 306, 3) := by decide +kernel
theorem dX10_undo_100 : decode cX10_undo 100 = .ok (.ireturn, 1) := by decide +kernel
/-- QuotientSums.undo()I -/
def wX10_undo (changes_size : Int32) (changes_top : Int32) (changes_ones : Nat → Int32) (changes_kinds : Nat → Int32) (now_bound : Int32) (now_modulus : Int32) (now_seed : Int32) (now_functions : Int32) (changes_cells : Nat → Int32) (changes_others : Nat → Int32) (rf : Nat → Int32) (rm : Nat → Int32) (rl : Nat → Int32) (ru : Nat → Int32) (rn : Nat → Nat) (rv : Nat → Nat → Int32) (now_numbers : Nat → Int32) (rows_turn : Int32)  (Q : (Int32) → (Int32) → (Int32) → (Int32) → (Int32) → (Nat → Int32) → (Nat → Int32) → Prop) : Prop :=
  (∃ (P_1 : (Int32) → (Int32) → (Int32) → Prop), wX0_drop changes_size changes_top P_1 ∧ ∀ (rF_1 : Int32) (size_1 : Int32) (top_1 : Int32), P_1 rF_1 size_1 top_1 → ((¬ rF_1 = 0 → (∃ (P_2 : (Int32) → Prop), wX0_firstDropped size_1 top_1 changes_ones P_2 ∧ ∀ (rF_2 : Int32), P_2 rF_2 → ∃ (P_3 : (Int32) → Prop), wX0_kindDropped size_1 top_1 changes_kinds P_3 ∧ ∀ (rF_3 : Int32), P_3 rF_3 → ((rF_3 = 0 → (Q size_1 size_1 top_1 rF_2 now_modulus rf now_numbers)) ∧ (¬ rF_3 = 0 → ((rF_3 = 1 → (Q size_1 size_1 top_1 now_bound rF_2 rf now_numbers)) ∧ (¬ rF_3 = 1 → (∃ (P_4 : (Int32) → Prop), wX0_cellDropped size_1 top_1 changes_cells P_4 ∧ ∀ (rF_4 : Int32), P_4 rF_4 → ∃ (P_5 : (Int32) → Prop), wX0_secondDropped size_1 top_1 changes_others P_5 ∧ ∀ (rF_5 : Int32), P_5 rF_5 → ∃ (P_6 : (Nat → Int32) → (Nat → Int32) → Prop), wX10_putNumbers now_bound now_modulus now_seed now_functions now_numbers rf rm rl ru rn rv rows_turn rF_4 rF_2 rF_5 P_6 ∧ ∀ (now_numbers_1 : Nat → Int32) (rf_1 : Nat → Int32), P_6 now_numbers_1 rf_1 → (Q size_1 size_1 top_1 now_bound now_modulus rf_1 now_numbers_1)))))))) ∧ (rF_1 = 0 → (Q (-1) size_1 top_1 now_bound now_modulus rf now_numbers))))
set_option maxHeartbeats 4000000 in
set_option maxRecDepth 100000 in
theorem mX10_undo (l : Launch) (D : va_G) (Y : Nat → ClassId) (h0 : Nat) (ra : Nat → Nat) (q_now : Nat) (v_reader : Value) (q_changes : Nat) (v_image : Value) (q_rows : Nat) (v_couples : Value) (changes_size : Int32) (changes_top : Int32) (q_changes_kinds : Nat) (q_changes_cells : Nat) (q_changes_ones : Nat) (q_changes_others : Nat) (changes_ones : Nat → Int32) (changes_kinds : Nat → Int32) (now_bound : Int32) (now_modulus : Int32) (now_seed : Int32) (now_functions : Int32) (v_now_names : Value) (v_now_kinds : Value) (v_now_firsts : Value) (v_now_seconds : Value) (v_now_degrees : Value) (v_now_colours : Value) (v_now_needs : Value) (q_now_numbers : Nat) (changes_cells : Nat → Int32) (changes_others : Nat → Int32) (rs : Nat → Nat) (rf : Nat → Int32) (rm : Nat → Int32) (rl : Nat → Int32) (ru : Nat → Int32) (rn : Nat → Nat) (rv : Nat → Nat → Int32) (now_numbers : Nat → Int32) (v_rows_sieve : Value) (v_rows_powers : Value) (q_rows_rows : Nat) (rows_turn : Int32)  (Q : (Int32) → (Int32) → (Int32) → (Int32) → (Int32) → (Nat → Int32) → (Nat → Int32) → Prop) (h : wX10_undo changes_size changes_top changes_ones changes_kinds now_bound now_modulus now_seed now_functions changes_cells changes_others rf rm rl ru rn rv now_numbers rows_turn Q) : gM l D Y yX10_undo cX10_undo 2 (some .int) 2 44 0 0 [.ref h0] (rowsW Y ra rs rf rm rl ru rn rv ++ [oX10 h0 (.ref q_now) (v_reader) (.ref q_changes) (v_image) (.ref q_rows) (v_couples), oX0 q_changes changes_size changes_top (.ref q_changes_kinds) (.ref q_changes_cells) (.ref q_changes_ones) (.ref q_changes_others), aI Y q_changes_ones 20 changes_ones, aI Y q_changes_kinds 20 changes_kinds, oX3 q_now now_bound now_modulus now_seed now_functions (v_now_names) (v_now_kinds) (v_now_firsts) (v_now_seconds) (v_now_degrees) (v_now_colours) (v_now_needs) (.ref q_now_numbers), aI Y q_changes_cells 20 changes_cells, aI Y q_changes_others 20 changes_others, aI Y q_now_numbers 144 now_numbers, oX7 q_rows (v_rows_sieve) (v_rows_powers) (.ref q_rows_rows) rows_turn, aR Y q_rows_rows 4 (fun j => some (ra j))]) (fun v w => ∃ r : Int32, ∃ changes_size' : Int32, ∃ changes_top' : Int32, ∃ now_bound' : Int32, ∃ now_modulus' : Int32, ∃ rf' : Nat → Int32, ∃ now_numbers' : Nat → Int32, v = some (.int r) ∧ w = (rowsW Y ra rs rf' rm rl ru rn rv ++ [oX10 h0 (.ref q_now) (v_reader) (.ref q_changes) (v_image) (.ref q_rows) (v_couples), oX0 q_changes changes_size' changes_top' (.ref q_changes_kinds) (.ref q_changes_cells) (.ref q_changes_ones) (.ref q_changes_others), aI Y q_changes_ones 20 changes_ones, aI Y q_changes_kinds 20 changes_kinds, oX3 q_now now_bound' now_modulus' now_seed now_functions (v_now_names) (v_now_kinds) (v_now_firsts) (v_now_seconds) (v_now_degrees) (v_now_colours) (v_now_needs) (.ref q_now_numbers), aI Y q_changes_cells 20 changes_cells, aI Y q_changes_others 20 changes_others, aI Y q_now_numbers 144 now_numbers', oX7 q_rows (v_rows_sieve) (v_rows_powers) (.ref q_rows_rows) rows_turn, aR Y q_rows_rows 4 (fun j => some (ra j))]) ∧ Q r changes_size' changes_top' now_bound' now_modulus' rf' now_numbers') := by
  refine gM_of (own := RX10) (by decide +kernel) rfl (Nat.le_of_ble_eq_true rfl) rfl (fun E C hR => ?_)
  unfold wX10_undo at h
  refine g_aload_n C dX10_undo_0 0 rfl ?_
  refine g_get C inX10 8 rfl rfl 2 (by decide) wF_X10_26 rfl dX10_undo_1 ?_
  obtain ⟨P_1, hP, h⟩ := h
  refine g_callV (As := []) (rest := []) C (mX0_drop l D Y q_changes changes_size changes_top (.ref q_changes_kinds) (.ref q_changes_cells) (.ref q_changes_ones) (.ref q_changes_others) P_1 hP) dX10_undo_4 rfl wM_X10_290 wI_X0_drop wV_X0_drop wN_X0 wC_X0_drop (n := 0) (by decide +kernel) rfl (q0 := 0) rfl rfl ⟨Nat.le_of_ble_eq_true rfl, Nat.le_of_ble_eq_true rfl⟩ ⟨Nat.le_of_ble_eq_true rfl, Nat.le_of_ble_eq_true rfl⟩ (Nat.le_of_ble_eq_true rfl) [9] [0, 1, 2, 3, 4, 5, 6, 7, 8, 10, 11, 12, 13, 14, 15, 16, 17] rfl rfl rfl (fun v wc hv => ?_)
  obtain ⟨rF_1, size_1, top_1, rfl, rfl, hq⟩ := hv
  replace h := h rF_1 size_1 top_1 hq
  refine gG.perm (ws' := (rowsW Y ra rs rf rm rl ru rn rv ++ [oX10 h0 (.ref q_now) (v_reader) (.ref q_changes) (v_image) (.ref q_rows) (v_couples), oX0 q_changes size_1 top_1 (.ref q_changes_kinds) (.ref q_changes_cells) (.ref q_changes_ones) (.ref q_changes_others), aI Y q_changes_ones 20 changes_ones, aI Y q_changes_kinds 20 changes_kinds, oX3 q_now now_bound now_modulus now_seed now_functions (v_now_names) (v_now_kinds) (v_now_firsts) (v_now_seconds) (v_now_degrees) (v_now_colours) (v_now_needs) (.ref q_now_numbers), aI Y q_changes_cells 20 changes_cells, aI Y q_changes_others 20 changes_others, aI Y q_now_numbers 144 now_numbers, oX7 q_rows (v_rows_sieve) (v_rows_powers) (.ref q_rows_rows) rows_turn, aR Y q_rows_rows 4 (fun j => some (ra j))])) [0, 1, 2, 3, 4, 5, 6, 7, 8, 17, 9, 10, 11, 12, 13, 14, 15, 16] rfl rfl ?_
  refine g_if_ne (tgt := 12) C dX10_undo_7 (by decide) (fun c_1 => ?_) (fun c_1 => ?_)
  · replace h := h.1 c_1
    refine g_aload_n C dX10_undo_12 0 rfl ?_
    refine g_get C inX10 8 rfl rfl 2 (by decide) wF_X10_26 rfl dX10_undo_13 ?_
    obtain ⟨P_2, hP, h⟩ := h
    refine g_callV (As := []) (rest := []) C (mX0_firstDropped l D Y q_changes size_1 top_1 (.ref q_changes_kinds) (.ref q_changes_cells) q_changes_ones (.ref q_changes_others) changes_ones P_2 hP) dX10_undo_16 rfl wM_X10_293 wI_X0_firstDropped wV_X0_firstDropped wN_X0 wC_X0_firstDropped (n := 0) (by decide +kernel) rfl (q0 := 0) rfl rfl ⟨Nat.le_of_ble_eq_true rfl, Nat.le_of_ble_eq_true rfl⟩ ⟨Nat.le_of_ble_eq_true rfl, Nat.le_of_ble_eq_true rfl⟩ (Nat.le_of_ble_eq_true rfl) [9, 10] [0, 1, 2, 3, 4, 5, 6, 7, 8, 11, 12, 13, 14, 15, 16, 17] rfl rfl rfl (fun v wc hv => ?_)
    obtain ⟨rF_2, rfl, rfl, hq⟩ := hv
    replace h := h rF_2 hq
    refine gG.perm (ws' := (rowsW Y ra rs rf rm rl ru rn rv ++ [oX10 h0 (.ref q_now) (v_reader) (.ref q_changes) (v_image) (.ref q_rows) (v_couples), oX0 q_changes size_1 top_1 (.ref q_changes_kinds) (.ref q_changes_cells) (.ref q_changes_ones) (.ref q_changes_others), aI Y q_changes_ones 20 changes_ones, aI Y q_changes_kinds 20 changes_kinds, oX3 q_now now_bound now_modulus now_seed now_functions (v_now_names) (v_now_kinds) (v_now_firsts) (v_now_seconds) (v_now_degrees) (v_now_colours) (v_now_needs) (.ref q_now_numbers), aI Y q_changes_cells 20 changes_cells, aI Y q_changes_others 20 changes_others, aI Y q_now_numbers 144 now_numbers, oX7 q_rows (v_rows_sieve) (v_rows_powers) (.ref q_rows_rows) rows_turn, aR Y q_rows_rows 4 (fun j => some (ra j))])) [0, 1, 2, 3, 4, 5, 6, 7, 8, 16, 17, 9, 10, 11, 12, 13, 14, 15] rfl rfl ?_
    refine g_istore_n (lv' := [(1, .int rF_2), (0, .ref h0)]) C dX10_undo_19 (by decide) rfl ?_
    refine g_aload_n C dX10_undo_20 1 rfl ?_
    refine g_get C inX10 8 rfl rfl 2 (by decide) wF_X10_26 rfl dX10_undo_21 ?_
    obtain ⟨P_3, hP, h⟩ := h
    refine g_callV (As := []) (rest := []) C (mX0_kindDropped l D Y q_changes size_1 top_1 q_changes_kinds (.ref q_changes_cells) (.ref q_changes_ones) (.ref q_changes_others) changes_kinds P_3 hP) dX10_undo_24 rfl wM_X10_297 wI_X0_kindDropped wV_X0_kindDropped wN_X0 wC_X0_kindDropped (n := 0) (by decide +kernel) rfl (q0 := 0) rfl rfl ⟨Nat.le_of_ble_eq_true rfl, Nat.le_of_ble_eq_true rfl⟩ ⟨Nat.le_of_ble_eq_true rfl, Nat.le_of_ble_eq_true rfl⟩ (Nat.le_of_ble_eq_true rfl) [9, 11] [0, 1, 2, 3, 4, 5, 6, 7, 8, 10, 12, 13, 14, 15, 16, 17] rfl rfl rfl (fun v wc hv => ?_)
    obtain ⟨rF_3, rfl, rfl, hq⟩ := hv
    replace h := h rF_3 hq
    refine gG.perm (ws' := (rowsW Y ra rs rf rm rl ru rn rv ++ [oX10 h0 (.ref q_now) (v_reader) (.ref q_changes) (v_image) (.ref q_rows) (v_couples), oX0 q_changes size_1 top_1 (.ref q_changes_kinds) (.ref q_changes_cells) (.ref q_changes_ones) (.ref q_changes_others), aI Y q_changes_ones 20 changes_ones, aI Y q_changes_kinds 20 changes_kinds, oX3 q_now now_bound now_modulus now_seed now_functions (v_now_names) (v_now_kinds) (v_now_firsts) (v_now_seconds) (v_now_degrees) (v_now_colours) (v_now_needs) (.ref q_now_numbers), aI Y q_changes_cells 20 changes_cells, aI Y q_changes_others 20 changes_others, aI Y q_now_numbers 144 now_numbers, oX7 q_rows (v_rows_sieve) (v_rows_powers) (.ref q_rows_rows) rows_turn, aR Y q_rows_rows 4 (fun j => some (ra j))])) [0, 1, 2, 3, 4, 5, 6, 7, 8, 16, 9, 17, 10, 11, 12, 13, 14, 15] rfl rfl ?_
    by_cases c_2 : rF_3 = 0
    · replace h := h.1 c_2
      refine g_lookI (v := 0) (tgt := 52) C dX10_undo_27 c_2 (by decide) rfl (by decide) ?_
      refine g_aload_n C dX10_undo_52 1 rfl ?_
      refine g_get C inX10 8 rfl rfl 0 (by decide) wF_X10_10 rfl dX10_undo_53 ?_
      refine g_iload_n C dX10_undo_56 0 rfl ?_
      refine g_put C inX3 tyX3 tyX3_ok nmX3 12 rfl rfl 0 (by decide) wF_X10_143 rfl rfl rfl (Nat.le_of_ble_eq_true rfl) (ws' := (rowsW Y ra rs rf rm rl ru rn rv ++ [oX10 h0 (.ref q_now) (v_reader) (.ref q_changes) (v_image) (.ref q_rows) (v_couples), oX0 q_changes size_1 top_1 (.ref q_changes_kinds) (.ref q_changes_cells) (.ref q_changes_ones) (.ref q_changes_others), aI Y q_changes_ones 20 changes_ones, aI Y q_changes_kinds 20 changes_kinds, oX3 q_now rF_2 now_modulus now_seed now_functions (v_now_names) (v_now_kinds) (v_now_firsts) (v_now_seconds) (v_now_degrees) (v_now_colours) (v_now_needs) (.ref q_now_numbers), aI Y q_changes_cells 20 changes_cells, aI Y q_changes_others 20 changes_others, aI Y q_now_numbers 144 now_numbers, oX7 q_rows (v_rows_sieve) (v_rows_powers) (.ref q_rows_rows) rows_turn, aR Y q_rows_rows 4 (fun j => some (ra j))])) rfl dX10_undo_57 ?_
      refine g_goto (tgt := 93) C dX10_undo_60 (by decide) ?_
      refine g_aload_n C dX10_undo_93 1 rfl ?_
      refine g_get C inX10 8 rfl rfl 2 (by decide) wF_X10_26 rfl dX10_undo_94 ?_
      refine g_get C inX0 9 rfl rfl 0 (by decide) wF_X10_306 rfl dX10_undo_97 ?_
      exact g_iret C hR (Nat.le_of_ble_eq_true rfl) (Nat.le_of_ble_eq_true rfl) dX10_undo_100 ⟨size_1, size_1, top_1, rF_2, now_modulus, rf, now_numbers, rfl, rfl, h⟩
    · replace h := h.2 c_2
      by_cases c_3 : rF_3 = 1
      · replace h := h.1 c_3
        refine g_lookI (v := 1) (tgt := 63) C dX10_undo_27 c_3 (by decide) rfl (by decide) ?_
        refine g_aload_n C dX10_undo_63 1 rfl ?_
        refine g_get C inX10 8 rfl rfl 0 (by decide) wF_X10_10 rfl dX10_undo_64 ?_
        refine g_iload_n C dX10_undo_67 0 rfl ?_
        refine g_put C inX3 tyX3 tyX3_ok nmX3 12 rfl rfl 1 (by decide) wF_X10_151 rfl rfl rfl (Nat.le_of_ble_eq_true rfl) (ws' := (rowsW Y ra rs rf rm rl ru rn rv ++ [oX10 h0 (.ref q_now) (v_reader) (.ref q_changes) (v_image) (.ref q_rows) (v_couples), oX0 q_changes size_1 top_1 (.ref q_changes_kinds) (.ref q_changes_cells) (.ref q_changes_ones) (.ref q_changes_others), aI Y q_changes_ones 20 changes_ones, aI Y q_changes_kinds 20 changes_kinds, oX3 q_now now_bound rF_2 now_seed now_functions (v_now_names) (v_now_kinds) (v_now_firsts) (v_now_seconds) (v_now_degrees) (v_now_colours) (v_now_needs) (.ref q_now_numbers), aI Y q_changes_cells 20 changes_cells, aI Y q_changes_others 20 changes_others, aI Y q_now_numbers 144 now_numbers, oX7 q_rows (v_rows_sieve) (v_rows_powers) (.ref q_rows_rows) rows_turn, aR Y q_rows_rows 4 (fun j => some (ra j))])) rfl dX10_undo_68 ?_
        refine g_goto (tgt := 93) C dX10_undo_71 (by decide) ?_
        refine g_aload_n C dX10_undo_93 1 rfl ?_
        refine g_get C inX10 8 rfl rfl 2 (by decide) wF_X10_26 rfl dX10_undo_94 ?_
        refine g_get C inX0 9 rfl rfl 0 (by decide) wF_X10_306 rfl dX10_undo_97 ?_
        exact g_iret C hR (Nat.le_of_ble_eq_true rfl) (Nat.le_of_ble_eq_true rfl) dX10_undo_100 ⟨size_1, size_1, top_1, now_bound, rF_2, rf, now_numbers, rfl, rfl, h⟩
      · replace h := h.2 c_3
        refine g_lookO (tgt := 74) C dX10_undo_27 [0, 1] (by decide) (by decide) (by exact ⟨c_2, c_3, trivial⟩) (by decide) ?_
        refine g_aload_n C dX10_undo_74 1 rfl ?_
        refine g_aload_n C dX10_undo_75 1 rfl ?_
        refine g_get C inX10 8 rfl rfl 2 (by decide) wF_X10_26 rfl dX10_undo_76 ?_
        obtain ⟨P_4, hP, h⟩ := h
        refine g_callV (As := []) (rest := [.ref h0]) C (mX0_cellDropped l D Y q_changes size_1 top_1 (.ref q_changes_kinds) q_changes_cells (.ref q_changes_ones) (.ref q_changes_others) changes_cells P_4 hP) dX10_undo_79 rfl wM_X10_300 wI_X0_cellDropped wV_X0_cellDropped wN_X0 wC_X0_cellDropped (n := 0) (by decide +kernel) rfl (q0 := 0) rfl rfl ⟨Nat.le_of_ble_eq_true rfl, Nat.le_of_ble_eq_true rfl⟩ ⟨Nat.le_of_ble_eq_true rfl, Nat.le_of_ble_eq_true rfl⟩ (Nat.le_of_ble_eq_true rfl) [9, 13] [0, 1, 2, 3, 4, 5, 6, 7, 8, 10, 11, 12, 14, 15, 16, 17] rfl rfl rfl (fun v wc hv => ?_)
        obtain ⟨rF_4, rfl, rfl, hq⟩ := hv
        replace h := h rF_4 hq
        refine gG.perm (ws' := (rowsW Y ra rs rf rm rl ru rn rv ++ [oX10 h0 (.ref q_now) (v_reader) (.ref q_changes) (v_image) (.ref q_rows) (v_couples), oX0 q_changes size_1 top_1 (.ref q_changes_kinds) (.ref q_changes_cells) (.ref q_changes_ones) (.ref q_changes_others), aI Y q_changes_ones 20 changes_ones, aI Y q_changes_kinds 20 changes_kinds, oX3 q_now now_bound now_modulus now_seed now_functions (v_now_names) (v_now_kinds) (v_now_firsts) (v_now_seconds) (v_now_degrees) (v_now_colours) (v_now_needs) (.ref q_now_numbers), aI Y q_changes_cells 20 changes_cells, aI Y q_changes_others 20 changes_others, aI Y q_now_numbers 144 now_numbers, oX7 q_rows (v_rows_sieve) (v_rows_powers) (.ref q_rows_rows) rows_turn, aR Y q_rows_rows 4 (fun j => some (ra j))])) [0, 1, 2, 3, 4, 5, 6, 7, 8, 16, 9, 10, 11, 17, 12, 13, 14, 15] rfl rfl ?_
        refine g_iload_n C dX10_undo_82 0 rfl ?_
        refine g_aload_n C dX10_undo_83 1 rfl ?_
        refine g_get C inX10 8 rfl rfl 2 (by decide) wF_X10_26 rfl dX10_undo_84 ?_
        obtain ⟨P_5, hP, h⟩ := h
        refine g_callV (As := []) (rest := [.int rF_2, .int rF_4, .ref h0]) C (mX0_secondDropped l D Y q_changes size_1 top_1 (.ref q_changes_kinds) (.ref q_changes_cells) (.ref q_changes_ones) q_changes_others changes_others P_5 hP) dX10_undo_87 rfl wM_X10_303 wI_X0_secondDropped wV_X0_secondDropped wN_X0 wC_X0_secondDropped (n := 0) (by decide +kernel) rfl (q0 := 0) rfl rfl ⟨Nat.le_of_ble_eq_true rfl, Nat.le_of_ble_eq_true rfl⟩ ⟨Nat.le_of_ble_eq_true rfl, Nat.le_of_ble_eq_true rfl⟩ (Nat.le_of_ble_eq_true rfl) [9, 14] [0, 1, 2, 3, 4, 5, 6, 7, 8, 10, 11, 12, 13, 15, 16, 17] rfl rfl rfl (fun v wc hv => ?_)
        obtain ⟨rF_5, rfl, rfl, hq⟩ := hv
        replace h := h rF_5 hq
        refine gG.perm (ws' := (rowsW Y ra rs rf rm rl ru rn rv ++ [oX10 h0 (.ref q_now) (v_reader) (.ref q_changes) (v_image) (.ref q_rows) (v_couples), oX0 q_changes size_1 top_1 (.ref q_changes_kinds) (.ref q_changes_cells) (.ref q_changes_ones) (.ref q_changes_others), aI Y q_changes_ones 20 changes_ones, aI Y q_changes_kinds 20 changes_kinds, oX3 q_now now_bound now_modulus now_seed now_functions (v_now_names) (v_now_kinds) (v_now_firsts) (v_now_seconds) (v_now_degrees) (v_now_colours) (v_now_needs) (.ref q_now_numbers), aI Y q_changes_cells 20 changes_cells, aI Y q_changes_others 20 changes_others, aI Y q_now_numbers 144 now_numbers, oX7 q_rows (v_rows_sieve) (v_rows_powers) (.ref q_rows_rows) rows_turn, aR Y q_rows_rows 4 (fun j => some (ra j))])) [0, 1, 2, 3, 4, 5, 6, 7, 8, 16, 9, 10, 11, 12, 17, 13, 14, 15] rfl rfl ?_
        obtain ⟨P_6, hP, h⟩ := h
        refine g_callV (As := [.int rF_4, .int rF_2, .int rF_5]) (rest := []) C (mX10_putNumbers l D Y h0 ra q_now v_reader (.ref q_changes) v_image q_rows v_couples now_bound now_modulus now_seed now_functions v_now_names v_now_kinds v_now_firsts v_now_seconds v_now_degrees v_now_colours v_now_needs q_now_numbers now_numbers rs rf rm rl ru rn rv v_rows_sieve v_rows_powers q_rows_rows rows_turn rF_4 rF_2 rF_5 P_6 hP) dX10_undo_90 rfl wM_X10_157 wI_X10_putNumbers wV_X10_putNumbers wN_X10 wC_X10_putNumbers (n := 3) (by decide +kernel) rfl (q0 := 8) rfl rfl ⟨Nat.le_of_ble_eq_true rfl, Nat.le_of_ble_eq_true rfl⟩ ⟨Nat.le_of_ble_eq_true rfl, Nat.le_of_ble_eq_true rfl⟩ (Nat.le_of_ble_eq_true rfl) [0, 1, 2, 3, 4, 5, 6, 7, 8, 12, 15, 16, 17] [9, 10, 11, 13, 14] rfl rfl rfl (fun v wc hv => ?_)
        obtain ⟨now_numbers_1, rf_1, rfl, rfl, hq⟩ := hv
        replace h := h now_numbers_1 rf_1 hq
        refine gG.perm (ws' := (rowsW Y ra rs rf_1 rm rl ru rn rv ++ [oX10 h0 (.ref q_now) (v_reader) (.ref q_changes) (v_image) (.ref q_rows) (v_couples), oX0 q_changes size_1 top_1 (.ref q_changes_kinds) (.ref q_changes_cells) (.ref q_changes_ones) (.ref q_changes_others), aI Y q_changes_ones 20 changes_ones, aI Y q_changes_kinds 20 changes_kinds, oX3 q_now now_bound now_modulus now_seed now_functions (v_now_names) (v_now_kinds) (v_now_firsts) (v_now_seconds) (v_now_degrees) (v_now_colours) (v_now_needs) (.ref q_now_numbers), aI Y q_changes_cells 20 changes_cells, aI Y q_changes_others 20 changes_others, aI Y q_now_numbers 144 now_numbers_1, oX7 q_rows (v_rows_sieve) (v_rows_powers) (.ref q_rows_rows) rows_turn, aR Y q_rows_rows 4 (fun j => some (ra j))])) [5, 6, 7, 8, 9, 10, 11, 12, 13, 0, 1, 2, 14, 3, 4, 15, 16, 17] rfl rfl ?_
        refine g_aload_n C dX10_undo_93 1 rfl ?_
        refine g_get C inX10 8 rfl rfl 2 (by decide) wF_X10_26 rfl dX10_undo_94 ?_
        refine g_get C inX0 9 rfl rfl 0 (by decide) wF_X10_306 rfl dX10_undo_97 ?_
        exact g_iret C hR (Nat.le_of_ble_eq_true rfl) (Nat.le_of_ble_eq_true rfl) dX10_undo_100 ⟨size_1, size_1, top_1, now_bound, now_modulus, rf_1, now_numbers_1, rfl, rfl, h⟩
  · replace h := h.2 c_1
    refine g_iconst (v := (-1)) C dX10_undo_10 rfl ?_
    exact g_iret C hR (Nat.le_of_ble_eq_true rfl) (Nat.le_of_ble_eq_true rfl) dX10_undo_11 ⟨(-1), size_1, top_1, now_bound, now_modulus, rf, now_numbers, rfl, rfl, h⟩
theorem dX10_keep_0 : decode cX10_keep 0 = .ok (.aload_n 0, 1) := by decide +kernel
theorem dX10_keep_1 : decode cX10_keep 1 = .ok (.getfield 33, 3) := by decide +kernel
theorem dX10_keep_4 : decode cX10_keep 4 = .ok (.aload_n 0, 1) := by decide +kernel
theorem dX10_keep_5 : decode cX10_keep 5 = .ok (.getfield 10, 3) := by decide +kernel
theorem dX10_keep_8 : decode cX10_keep 8 = .ok (.invokevirtual 309, 3) := by decide +kernel
theorem dX10_keep_11 : decode cX10_keep 11 = .ok (.aload_n 0, 1) := by decide +kernel
theorem dX10_keep_12 : decode cX10_keep 12 = .ok (.getfield 10, 3) := by decide +kernel
theorem dX10_keep_15 : decode cX10_keep 15 = .ok (.getfield 143, 3) := by decide +kernel
theorem dX10_keep_18 : decode cX10_keep 18 = .ok (.ireturn, 1) := by decide +kernel
/-- QuotientSums.keep()I -/
def wX10_keep (image_kept : Int32) (image_bound : Int32) (image_modulus : Int32) (now_bound : Int32) (now_modulus : Int32) (now_seed : Int32) (now_functions : Int32) (image_numbers : Nat → Int32) (now_numbers : Nat → Int32)  (Q : (Int32) → (Int32) → (Int32) → (Int32) → (Nat → Int32) → Prop) : Prop :=
  (∃ (P_1 : (Int32) → (Int32) → (Int32) → (Nat → Int32) → Prop), wX2_take image_kept image_bound image_modulus now_bound now_modulus now_seed now_functions image_numbers now_numbers P_1 ∧ ∀ (kept_1 : Int32) (bound_1 : Int32) (modulus_1 : Int32) (numbers_1 : Nat → Int32), P_1 kept_1 bound_1 modulus_1 numbers_1 → (Q now_bound kept_1 bound_1 modulus_1 numbers_1))
set_option maxHeartbeats 4000000 in
set_option maxRecDepth 100000 in
theorem mX10_keep (l : Launch) (D : va_G) (Y : Nat → ClassId) (h0 : Nat) (q_now : Nat) (v_reader : Value) (v_changes : Value) (q_image : Nat) (v_rows : Value) (v_couples : Value) (image_kept : Int32) (image_bound : Int32) (image_modulus : Int32) (q_image_numbers : Nat) (now_bound : Int32) (now_modulus : Int32) (now_seed : Int32) (now_functions : Int32) (v_now_names : Value) (v_now_kinds : Value) (v_now_firsts : Value) (v_now_seconds : Value) (v_now_degrees : Value) (v_now_colours : Value) (v_now_needs : Value) (q_now_numbers : Nat) (image_numbers : Nat → Int32) (now_numbers : Nat → Int32)  (Q : (Int32) → (Int32) → (Int32) → (Int32) → (Nat → Int32) → Prop) (h : wX10_keep image_kept image_bound image_modulus now_bound now_modulus now_seed now_functions image_numbers now_numbers Q) : gM l D Y yX10_keep cX10_keep 1 (some .int) 2 81 0 0 [.ref h0] [oX10 h0 (.ref q_now) (v_reader) (v_changes) (.ref q_image) (v_rows) (v_couples), oX2 q_image image_kept image_bound image_modulus (.ref q_image_numbers), oX3 q_now now_bound now_modulus now_seed now_functions (v_now_names) (v_now_kinds) (v_now_firsts) (v_now_seconds) (v_now_degrees) (v_now_colours) (v_now_needs) (.ref q_now_numbers), aI Y q_image_numbers 144 image_numbers, aI Y q_now_numbers 144 now_numbers] (fun v w => ∃ r : Int32, ∃ image_kept' : Int32, ∃ image_bound' : Int32, ∃ image_modulus' : Int32, ∃ image_numbers' : Nat → Int32, v = some (.int r) ∧ w = [oX10 h0 (.ref q_now) (v_reader) (v_changes) (.ref q_image) (v_rows) (v_couples), oX2 q_image image_kept' image_bound' image_modulus' (.ref q_image_numbers), oX3 q_now now_bound now_modulus now_seed now_functions (v_now_names) (v_now_kinds) (v_now_firsts) (v_now_seconds) (v_now_degrees) (v_now_colours) (v_now_needs) (.ref q_now_numbers), aI Y q_image_numbers 144 image_numbers', aI Y q_now_numbers 144 now_numbers] ∧ Q r image_kept' image_bound' image_modulus' image_numbers') := by
  refine gM_of (own := RX10) (by decide +kernel) rfl (Nat.le_of_ble_eq_true rfl) rfl (fun E C hR => ?_)
  unfold wX10_keep at h
  refine g_aload_n C dX10_keep_0 0 rfl ?_
  refine g_get C inX10 0 rfl rfl 3 (by decide) wF_X10_33 rfl dX10_keep_1 ?_
  refine g_aload_n C dX10_keep_4 0 rfl ?_
  refine g_get C inX10 0 rfl rfl 0 (by decide) wF_X10_10 rfl dX10_keep_5 ?_
  obtain ⟨P_1, hP, h⟩ := h
  refine g_callV (As := [.ref q_now]) (rest := []) C (mX2_take l D Y q_image q_now image_kept image_bound image_modulus q_image_numbers now_bound now_modulus now_seed now_functions v_now_names v_now_kinds v_now_firsts v_now_seconds v_now_degrees v_now_colours v_now_needs q_now_numbers image_numbers now_numbers P_1 hP) dX10_keep_8 rfl wM_X10_309 wI_X2_take wV_X2_take wN_X2 wC_X2_take (n := 1) (by decide +kernel) rfl (q0 := 0) rfl rfl ⟨Nat.le_of_ble_eq_true rfl, Nat.le_of_ble_eq_true rfl⟩ ⟨Nat.le_of_ble_eq_true rfl, Nat.le_of_ble_eq_true rfl⟩ (Nat.le_of_ble_eq_true rfl) [1, 2, 3, 4] [0] rfl rfl rfl (fun v wc hv => ?_)
  obtain ⟨kept_1, bound_1, modulus_1, numbers_1, rfl, rfl, hq⟩ := hv
  replace h := h kept_1 bound_1 modulus_1 numbers_1 hq
  refine gG.eqw (ws' := [oX10 h0 (.ref q_now) (v_reader) (v_changes) (.ref q_image) (v_rows) (v_couples), oX2 q_image kept_1 bound_1 modulus_1 (.ref q_image_numbers), oX3 q_now now_bound now_modulus now_seed now_functions (v_now_names) (v_now_kinds) (v_now_firsts) (v_now_seconds) (v_now_degrees) (v_now_colours) (v_now_needs) (.ref q_now_numbers), aI Y q_image_numbers 144 numbers_1, aI Y q_now_numbers 144 now_numbers]) rfl ?_
  refine g_aload_n C dX10_keep_11 0 rfl ?_
  refine g_get C inX10 0 rfl rfl 0 (by decide) wF_X10_10 rfl dX10_keep_12 ?_
  refine g_get C inX3 2 rfl rfl 0 (by decide) wF_X10_143 rfl dX10_keep_15 ?_
  exact g_iret C hR (Nat.le_of_ble_eq_true rfl) (Nat.le_of_ble_eq_true rfl) dX10_keep_18 ⟨now_bound, kept_1, bound_1, modulus_1, numbers_1, rfl, rfl, h⟩
theorem dX10_back_0 : decode cX10_back 0 = .ok (.aload_n 0, 1) := by decide +kernel
theorem dX10_back_1 : decode cX10_back 1 = .ok (.getfield 33, 3) := by decide +kernel
theorem dX10_back_4 : decode cX10_back 4 = .ok (.getfield 77, 3) := by decide +kernel
theorem dX10_back_7 : decode cX10_back 7 = .ok (.ifCond .ne 5, 3) := by decide +kernel
theorem dX10_back_10 : decode cX10_back 10 = .ok (.iconst (-1), 1) := by decide +kernel
theorem dX10_back_11 : decode cX10_back 11 = .ok (.ireturn, 1) := by decide +kernel
theorem dX10_back_12 : decode cX10_back 12 = .ok (.aload_n 0, 1) := by decide +kernel
theorem dX10_back_13 : decode cX10_back 13 = .ok (.getfield 33, 3) := by decide +kernel
theorem dX10_back_16 : decode cX10_back 16 = .ok (.aload_n 0, 1) := by decide +kernel
theorem dX10_back_17 : decode cX10_back 17 = .ok (.getfield 10, 3) := by decide +kernel
theorem dX10_back_20 : decode cX10_back 20 = .ok (.invokevirtual 313, 3) := by decide +kernel
theorem dX10_back_23 : decode cX10_back 23 = .ok (.aload_n 0, 1) := by decide +kernel
theorem dX10_back_24 : decode cX10_back 24 = .ok (.getfield 26, 3) := by decide +kernel
theorem dX10_back_27 : decode cX10_back 27 = .ok (.invokevirtual 81, 3) := by decide +kernel
theorem dX10_back_30 : decode cX10_back 30 = .ok (.aload_n 0, 1) := by decide +kernel
theorem dX10_back_31 : decode cX10_back 31 = .ok (.getfield 40, 3) := by decide +kernel
theorem dX10_back_34 : decode cX10_back 34 = .ok (.invokevirtual 84, 3) := by decide +kernel
theorem dX10_back_37 : decode cX10_back 37 = .ok (.aload_n 0, 1) := by decide +kernel
theorem dX10_back_38 : decode cX10_back 38 = .ok (.getfield 10, 3) := by decide +kernel
theorem dX10_back_41 : decode cX10_back 41 = .ok (.getfield 143, 3) := by decide +kernel
theorem dX10_back_44 : decode cX10_back 44 = .ok (.ireturn, 1) := by decide +kernel
/-- QuotientSums.back()I -/
def wX10_back (image_kept : Int32) (image_bound : Int32) (image_modulus : Int32) (now_bound : Int32) (now_modulus : Int32) (now_seed : Int32) (now_functions : Int32) (image_numbers : Nat → Int32) (now_numbers : Nat → Int32) (changes_size : Int32) (changes_top : Int32) (rf : Nat → Int32) (rm : Nat → Int32) (rl : Nat → Int32) (ru : Nat → Int32) (rn : Nat → Nat) (rv : Nat → Nat → Int32) (rows_turn : Int32)  (Q : (Int32) → (Int32) → (Int32) → (Nat → Int32) → (Int32) → (Nat → Int32) → Prop) : Prop :=
  ((¬ image_kept = 0 → (∃ (P_1 : (Int32) → (Int32) → (Nat → Int32) → Prop), wX2_give image_kept image_bound image_modulus now_bound now_modulus now_seed now_functions image_numbers now_numbers P_1 ∧ ∀ (a1_bound_1 : Int32) (a1_modulus_1 : Int32) (a1_numbers_1 : Nat → Int32), P_1 a1_bound_1 a1_modulus_1 a1_numbers_1 → ∃ (P_2 : (Int32) → Prop), wX0_forget changes_size changes_top P_2 ∧ ∀ (size_1 : Int32), P_2 size_1 → ∃ (P_3 : (Nat → Int32) → Prop), wX7_forget rows_turn rf rm rl ru rn rv P_3 ∧ ∀ (rf_1 : Nat → Int32), P_3 rf_1 → (Q a1_bound_1 a1_bound_1 a1_modulus_1 a1_numbers_1 size_1 rf_1))) ∧ (image_kept = 0 → (Q (-1) now_bound now_modulus now_numbers changes_size rf)))
set_option maxHeartbeats 4000000 in
set_option maxRecDepth 100000 in
theorem mX10_back (l : Launch) (D : va_G) (Y : Nat → ClassId) (h0 : Nat) (ra : Nat → Nat) (q_now : Nat) (v_reader : Value) (q_changes : Nat) (q_image : Nat) (q_rows : Nat) (v_couples : Value) (image_kept : Int32) (image_bound : Int32) (image_modulus : Int32) (q_image_numbers : Nat) (now_bound : Int32) (now_modulus : Int32) (now_seed : Int32) (now_functions : Int32) (v_now_names : Value) (v_now_kinds : Value) (v_now_firsts : Value) (v_now_seconds : Value) (v_now_degrees : Value) (v_now_colours : Value) (v_now_needs : Value) (q_now_numbers : Nat) (image_numbers : Nat → Int32) (now_numbers : Nat → Int32) (changes_size : Int32) (changes_top : Int32) (v_changes_kinds : Value) (v_changes_cells : Value) (v_changes_ones : Value) (v_changes_others : Value) (rs : Nat → Nat) (rf : Nat → Int32) (rm : Nat → Int32) (rl : Nat → Int32) (ru : Nat → Int32) (rn : Nat → Nat) (rv : Nat → Nat → Int32) (v_rows_sieve : Value) (v_rows_powers : Value) (q_rows_rows : Nat) (rows_turn : Int32)  (Q : (Int32) → (Int32) → (Int32) → (Nat → Int32) → (Int32) → (Nat → Int32) → Prop) (h : wX10_back image_kept image_bound image_modulus now_bound now_modulus now_seed now_functions image_numbers now_numbers changes_size changes_top rf rm rl ru rn rv rows_turn Q) : gM l D Y yX10_back cX10_back 1 (some .int) 2 81 0 0 [.ref h0] (rowsW Y ra rs rf rm rl ru rn rv ++ [oX10 h0 (.ref q_now) (v_reader) (.ref q_changes) (.ref q_image) (.ref q_rows) (v_couples), oX2 q_image image_kept image_bound image_modulus (.ref q_image_numbers), oX3 q_now now_bound now_modulus now_seed now_functions (v_now_names) (v_now_kinds) (v_now_firsts) (v_now_seconds) (v_now_degrees) (v_now_colours) (v_now_needs) (.ref q_now_numbers), aI Y q_image_numbers 144 image_numbers, aI Y q_now_numbers 144 now_numbers, oX0 q_changes changes_size changes_top (v_changes_kinds) (v_changes_cells) (v_changes_ones) (v_changes_others), oX7 q_rows (v_rows_sieve) (v_rows_powers) (.ref q_rows_rows) rows_turn, aR Y q_rows_rows 4 (fun j => some (ra j))]) (fun v w => ∃ r : Int32, ∃ now_bound' : Int32, ∃ now_modulus' : Int32, ∃ now_numbers' : Nat → Int32, ∃ changes_size' : Int32, ∃ rf' : Nat → Int32, v = some (.int r) ∧ w = (rowsW Y ra rs rf' rm rl ru rn rv ++ [oX10 h0 (.ref q_now) (v_reader) (.ref q_changes) (.ref q_image) (.ref q_rows) (v_couples), oX2 q_image image_kept image_bound image_modulus (.ref q_image_numbers), oX3 q_now now_bound' now_modulus' now_seed now_functions (v_now_names) (v_now_kinds) (v_now_firsts) (v_now_seconds) (v_now_degrees) (v_now_colours) (v_now_needs) (.ref q_now_numbers), aI Y q_image_numbers 144 image_numbers, aI Y q_now_numbers 144 now_numbers', oX0 q_changes changes_size' changes_top (v_changes_kinds) (v_changes_cells) (v_changes_ones) (v_changes_others), oX7 q_rows (v_rows_sieve) (v_rows_powers) (.ref q_rows_rows) rows_turn, aR Y q_rows_rows 4 (fun j => some (ra j))]) ∧ Q r now_bound' now_modulus' now_numbers' changes_size' rf') := by
  refine gM_of (own := RX10) (by decide +kernel) rfl (Nat.le_of_ble_eq_true rfl) rfl (fun E C hR => ?_)
  unfold wX10_back at h
  refine g_aload_n C dX10_back_0 0 rfl ?_
  refine g_get C inX10 8 rfl rfl 3 (by decide) wF_X10_33 rfl dX10_back_1 ?_
  refine g_get C inX2 9 rfl rfl 0 (by decide) wF_X10_77 rfl dX10_back_4 ?_
  refine g_if_ne (tgt := 12) C dX10_back_7 (by decide) (fun c_1 => ?_) (fun c_1 => ?_)
  · replace h := h.1 c_1
    refine g_aload_n C dX10_back_12 0 rfl ?_
    refine g_get C inX10 8 rfl rfl 3 (by decide) wF_X10_33 rfl dX10_back_13 ?_
    refine g_aload_n C dX10_back_16 0 rfl ?_
    refine g_get C inX10 8 rfl rfl 0 (by decide) wF_X10_10 rfl dX10_back_17 ?_
    obtain ⟨P_1, hP, h⟩ := h
    refine g_callV (As := [.ref q_now]) (rest := []) C (mX2_give l D Y q_image q_now image_kept image_bound image_modulus q_image_numbers now_bound now_modulus now_seed now_functions v_now_names v_now_kinds v_now_firsts v_now_seconds v_now_degrees v_now_colours v_now_needs q_now_numbers image_numbers now_numbers P_1 hP) dX10_back_20 rfl wM_X10_313 wI_X2_give wV_X2_give wN_X2 wC_X2_give (n := 1) (by decide +kernel) rfl (q0 := 0) rfl rfl ⟨Nat.le_of_ble_eq_true rfl, Nat.le_of_ble_eq_true rfl⟩ ⟨Nat.le_of_ble_eq_true rfl, Nat.le_of_ble_eq_true rfl⟩ (Nat.le_of_ble_eq_true rfl) [9, 10, 11, 12] [0, 1, 2, 3, 4, 5, 6, 7, 8, 13, 14, 15] rfl rfl rfl (fun v wc hv => ?_)
    obtain ⟨a1_bound_1, a1_modulus_1, a1_numbers_1, rfl, rfl, hq⟩ := hv
    replace h := h a1_bound_1 a1_modulus_1 a1_numbers_1 hq
    refine gG.perm (ws' := (rowsW Y ra rs rf rm rl ru rn rv ++ [oX10 h0 (.ref q_now) (v_reader) (.ref q_changes) (.ref q_image) (.ref q_rows) (v_couples), oX2 q_image image_kept image_bound image_modulus (.ref q_image_numbers), oX3 q_now a1_bound_1 a1_modulus_1 now_seed now_functions (v_now_names) (v_now_kinds) (v_now_firsts) (v_now_seconds) (v_now_degrees) (v_now_colours) (v_now_needs) (.ref q_now_numbers), aI Y q_image_numbers 144 image_numbers, aI Y q_now_numbers 144 a1_numbers_1, oX0 q_changes changes_size changes_top (v_changes_kinds) (v_changes_cells) (v_changes_ones) (v_changes_others), oX7 q_rows (v_rows_sieve) (v_rows_powers) (.ref q_rows_rows) rows_turn, aR Y q_rows_rows 4 (fun j => some (ra j))])) [0, 1, 2, 3, 4, 5, 6, 7, 8, 12, 13, 14, 15, 9, 10, 11] rfl rfl ?_
    refine g_aload_n C dX10_back_23 0 rfl ?_
    refine g_get C inX10 8 rfl rfl 2 (by decide) wF_X10_26 rfl dX10_back_24 ?_
    obtain ⟨P_2, hP, h⟩ := h
    refine g_callV (As := []) (rest := []) C (mX0_forget l D Y q_changes changes_size changes_top v_changes_kinds v_changes_cells v_changes_ones v_changes_others P_2 hP) dX10_back_27 rfl wM_X10_81 wI_X0_forget wV_X0_forget wN_X0 wC_X0_forget (n := 0) (by decide +kernel) rfl (q0 := 0) rfl rfl ⟨Nat.le_of_ble_eq_true rfl, Nat.le_of_ble_eq_true rfl⟩ ⟨Nat.le_of_ble_eq_true rfl, Nat.le_of_ble_eq_true rfl⟩ (Nat.le_of_ble_eq_true rfl) [13] [0, 1, 2, 3, 4, 5, 6, 7, 8, 9, 10, 11, 12, 14, 15] rfl rfl rfl (fun v wc hv => ?_)
    obtain ⟨size_1, rfl, rfl, hq⟩ := hv
    replace h := h size_1 hq
    refine gG.perm (ws' := (rowsW Y ra rs rf rm rl ru rn rv ++ [oX10 h0 (.ref q_now) (v_reader) (.ref q_changes) (.ref q_image) (.ref q_rows) (v_couples), oX2 q_image image_kept image_bound image_modulus (.ref q_image_numbers), oX3 q_now a1_bound_1 a1_modulus_1 now_seed now_functions (v_now_names) (v_now_kinds) (v_now_firsts) (v_now_seconds) (v_now_degrees) (v_now_colours) (v_now_needs) (.ref q_now_numbers), aI Y q_image_numbers 144 image_numbers, aI Y q_now_numbers 144 a1_numbers_1, oX0 q_changes size_1 changes_top (v_changes_kinds) (v_changes_cells) (v_changes_ones) (v_changes_others), oX7 q_rows (v_rows_sieve) (v_rows_powers) (.ref q_rows_rows) rows_turn, aR Y q_rows_rows 4 (fun j => some (ra j))])) [0, 1, 2, 3, 4, 5, 6, 7, 8, 9, 10, 11, 12, 15, 13, 14] rfl rfl ?_
    refine g_aload_n C dX10_back_30 0 rfl ?_
    refine g_get C inX10 8 rfl rfl 4 (by decide) wF_X10_40 rfl dX10_back_31 ?_
    obtain ⟨P_3, hP, h⟩ := h
    refine g_callV (As := []) (rest := []) C (mX7_forget l D Y q_rows ra v_rows_sieve v_rows_powers q_rows_rows rows_turn rs rf rm rl ru rn rv P_3 hP) dX10_back_34 rfl wM_X10_84 wI_X7_forget wV_X7_forget wN_X7 wC_X7_forget (n := 0) (by decide +kernel) rfl (q0 := 8) rfl rfl ⟨Nat.le_of_ble_eq_true rfl, Nat.le_of_ble_eq_true rfl⟩ ⟨Nat.le_of_ble_eq_true rfl, Nat.le_of_ble_eq_true rfl⟩ (Nat.le_of_ble_eq_true rfl) [0, 1, 2, 3, 4, 5, 6, 7, 14, 15] [8, 9, 10, 11, 12, 13] rfl rfl rfl (fun v wc hv => ?_)
    obtain ⟨rf_1, rfl, rfl, hq⟩ := hv
    replace h := h rf_1 hq
    refine gG.perm (ws' := (rowsW Y ra rs rf_1 rm rl ru rn rv ++ [oX10 h0 (.ref q_now) (v_reader) (.ref q_changes) (.ref q_image) (.ref q_rows) (v_couples), oX2 q_image image_kept image_bound image_modulus (.ref q_image_numbers), oX3 q_now a1_bound_1 a1_modulus_1 now_seed now_functions (v_now_names) (v_now_kinds) (v_now_firsts) (v_now_seconds) (v_now_degrees) (v_now_colours) (v_now_needs) (.ref q_now_numbers), aI Y q_image_numbers 144 image_numbers, aI Y q_now_numbers 144 a1_numbers_1, oX0 q_changes size_1 changes_top (v_changes_kinds) (v_changes_cells) (v_changes_ones) (v_changes_others), oX7 q_rows (v_rows_sieve) (v_rows_powers) (.ref q_rows_rows) rows_turn, aR Y q_rows_rows 4 (fun j => some (ra j))])) [6, 7, 8, 9, 10, 11, 12, 13, 0, 1, 2, 3, 4, 5, 14, 15] rfl rfl ?_
    refine g_aload_n C dX10_back_37 0 rfl ?_
    refine g_get C inX10 8 rfl rfl 0 (by decide) wF_X10_10 rfl dX10_back_38 ?_
    refine g_get C inX3 10 rfl rfl 0 (by decide) wF_X10_143 rfl dX10_back_41 ?_
    exact g_iret C hR (Nat.le_of_ble_eq_true rfl) (Nat.le_of_ble_eq_true rfl) dX10_back_44 ⟨a1_bound_1, a1_bound_1, a1_modulus_1, a1_numbers_1, size_1, rf_1, rfl, rfl, h⟩
  · replace h := h.2 c_1
    refine g_iconst (v := (-1)) C dX10_back_10 rfl ?_
    exact g_iret C hR (Nat.le_of_ble_eq_true rfl) (Nat.le_of_ble_eq_true rfl) dX10_back_11 ⟨(-1), now_bound, now_modulus, now_numbers, changes_size, rf, rfl, rfl, h⟩
theorem dX10_lastPrime_0 : decode cX10_lastPrime 0 = .ok (.iload_n 0, 1) := by decide +kernel
theorem dX10_lastPrime_1 : decode cX10_lastPrime 1 = .ok (.istore_n 1, 1) := by decide +kernel
theorem dX10_lastPrime_2 : decode cX10_lastPrime 2 = .ok (.iload_n 1, 1) := by decide +kernel
theorem dX10_lastPrime_3 : decode cX10_lastPrime 3 = .ok (.iconst 2, 1) := by decide +kernel
theorem dX10_lastPrime_4 : decode cX10_lastPrime 4 = .ok (.if_icmp .lt 18, 3) := by decide +kernel
theorem dX10_lastPrime_7 : decode cX10_lastPrime 7 = .ok (.iload_n 1, 1) := by decide +kernel
theorem dX10_lastPrime_8 : decode cX10_lastPrime 8 = .ok (.invokestatic 325, 3) := by decide +kernel
theorem dX10_lastPrime_11 : decode cX10_lastPrime 11 = .ok (.ifCond .eq 5, 3) := by decide +kernel
theorem dX10_lastPrime_14 : decode cX10_lastPrime 14 = .ok (.iload_n 1, 1) := by decide +kernel
theorem dX10_lastPrime_15 : decode cX10_lastPrime 15 = .ok (.ireturn, 1) := by decide +kernel
theorem dX10_lastPrime_16 : decode cX10_lastPrime 16 = .ok (.iinc 1 (-1), 3) := by decide +kernel
theorem dX10_lastPrime_19 : decode cX10_lastPrime 19 = .ok (.goto (-17), 3) := by decide +kernel
theorem dX10_lastPrime_22 : decode cX10_lastPrime 22 = .ok (.bipush (-2), 2) := by decide +kernel
theorem dX10_lastPrime_24 : decode cX10_lastPrime 24 = .ok (.ireturn, 1) := by decide +kernel
/-- QuotientSums.lastPrime(I)I -/
def wX10_lastPrime  (a1 : Int32) (Q : (Int32) → Prop) : Prop :=
  (∃ (Inv_1 : (Int32) → Prop) (Mea_1 : (Int32) → Nat), Inv_1 a1 ∧ ∀ (x1_1 : Int32), Inv_1 x1_1 → ((x1_1 < 2 → (Q (-2))) ∧ (¬ x1_1 < 2 → (∃ (P_1 : (Int32) → Prop), wX10_isPrime x1_1 P_1 ∧ ∀ (rF_1 : Int32), P_1 rF_1 → ((rF_1 = 0 → (Inv_1 (x1_1 + (-1)) ∧ Mea_1 (x1_1 + (-1)) < Mea_1 x1_1)) ∧ (¬ rF_1 = 0 → (Q x1_1)))))))
set_option maxHeartbeats 4000000 in
set_option maxRecDepth 100000 in
theorem mX10_lastPrime (l : Launch) (D : va_G) (Y : Nat → ClassId)   (a1 : Int32) (Q : (Int32) → Prop) (h : wX10_lastPrime a1 Q) : gM l D Y yX10_lastPrime cX10_lastPrime 2 (some .int) 1 21 0 0 [.int a1] [] (fun v w => ∃ r : Int32, v = some (.int r) ∧ w = [] ∧ Q r) := by
  refine gM_of (own := RX10) (by decide +kernel) rfl (Nat.le_of_ble_eq_true rfl) rfl (fun E C hR => ?_)
  unfold wX10_lastPrime at h
  refine g_iload_n C dX10_lastPrime_0 0 rfl ?_
  refine g_istore_n (lv' := [(1, .int a1), (0, .int a1)]) C dX10_lastPrime_1 (by decide) rfl ?_
  obtain ⟨Inv_1, Mea_1, hI1, hB1⟩ := h
  have key_1 : ∀ (n : Nat) (x1_1 : Int32) , Mea_1 x1_1 < n → Inv_1 x1_1 → gG E 0 0 [] [(1, .int x1_1)] [] 2 := by
    intro n
    induction n with
    | zero => exact fun _ hm => absurd hm (Nat.not_lt_zero _)
    | succ n ih1 =>
      intro x1_1  hm1 hI
      have h := hB1 x1_1 hI
      refine g_iload_n C dX10_lastPrime_2 0 rfl ?_
      refine g_iconst (v := 2) C dX10_lastPrime_3 rfl ?_
      refine g_icmp_lt (tgt := 22) C dX10_lastPrime_4 (by decide) (fun c_1 => ?_) (fun c_1 => ?_)
      · replace h := h.1 c_1
        refine g_bipush (v := (-2)) C dX10_lastPrime_22 rfl ?_
        exact g_iret C hR (Nat.le_of_ble_eq_true rfl) (Nat.le_of_ble_eq_true rfl) dX10_lastPrime_24 ⟨(-2), rfl, rfl, h⟩
      · replace h := h.2 c_1
        refine g_iload_n C dX10_lastPrime_7 0 rfl ?_
        obtain ⟨P_1, hP, h⟩ := h
        refine g_callS (As := [.int x1_1]) (rest := []) C (mX10_isPrime l D Y x1_1 P_1 hP) dX10_lastPrime_8 rfl wM_X10_325 wS_X10_isPrime wN_X10 wC_X10_isPrime (n := 1) (by decide +kernel) rfl ⟨Nat.le_of_ble_eq_true rfl, Nat.le_of_ble_eq_true rfl⟩ ⟨Nat.le_of_ble_eq_true rfl, Nat.le_of_ble_eq_true rfl⟩ (Nat.le_of_ble_eq_true rfl) [] [] rfl rfl rfl (fun v wc hv => ?_)
        obtain ⟨rF_1, rfl, rfl, hq⟩ := hv
        replace h := h rF_1 hq
        refine gG.eqw (ws' := []) rfl ?_
        refine g_if_eq (tgt := 16) C dX10_lastPrime_11 (by decide) (fun c_2 => ?_) (fun c_2 => ?_)
        · replace h := h.1 c_2
          refine g_iinc (v := x1_1 + (-1)) (lv' := [(1, .int (x1_1 + (-1)))]) C dX10_lastPrime_16 0 rfl rfl (by decide) rfl ?_
          refine g_goto (tgt := 2) C dX10_lastPrime_19 (by decide) ?_
          exact ih1 (x1_1 + (-1)) (Nat.lt_of_lt_of_le h.2 (Nat.le_of_lt_succ hm1)) h.1
        · replace h := h.2 c_2
          refine g_iload_n C dX10_lastPrime_14 0 rfl ?_
          exact g_iret C hR (Nat.le_of_ble_eq_true rfl) (Nat.le_of_ble_eq_true rfl) dX10_lastPrime_15 ⟨x1_1, rfl, rfl, h⟩
  refine gG.locals (lv' := [(1, .int a1)]) [0] rfl ?_
  exact key_1 (Mea_1 a1 + 1) a1 (Nat.lt_succ_self _) hI1
theorem dX10_count_0 : decode cX10_count 0 = .ok (.iload_n 1, 1) := by decide +kernel
theorem dX10_count_1 : decode cX10_count 1 = .ok (.tableswitch 105 0 6 #[43, 51, 59, 67, 75, 83, 94], 43) := by decide +kernel
theorem dX10_count_44 : decode cX10_count 44 = .ok (.aload_n 0, 1) := by decide +kernel
theorem dX10_count_45 : decode cX10_count 45 = .ok (.getfield 10, 3) := by decide +kernel
theorem dX10_count_48 : decode cX10_count 48 = .ok (.getfield 316, 3) := by decide +kernel
theorem dX10_count_51 : decode cX10_count 51 = .ok (.ireturn, 1) := by decide +kernel
theorem dX10_count_52 : decode cX10_count 52 = .ok (.aload_n 0, 1) := by decide +kernel
theorem dX10_count_53 : decode cX10_count 53 = .ok (.getfield 10, 3) := by decide +kernel
theorem dX10_count_56 : decode cX10_count 56 = .ok (.invokevirtual 319, 3) := by decide +kernel
theorem dX10_count_59 : decode cX10_count 59 = .ok (.ireturn, 1) := by decide +kernel
theorem dX10_count_60 : decode cX10_count 60 = .ok (.aload_n 0, 1) := by decide +kernel
theorem dX10_count_61 : decode cX10_count 61 = .ok (.getfield 10, 3) := by decide +kernel
theorem dX10_count_64 : decode cX10_count 64 = .ok (.getfield 143, 3) := by decide +kernel
theorem dX10_count_67 : decode cX10_count 67 = .ok (.ireturn, 1) := by decide +kernel
theorem dX10_count_68 : decode cX10_count 68 = .ok (.aload_n 0, 1) := by decide +kernel
theorem dX10_count_69 : decode cX10_count 69 = .ok (.getfield 10, 3) := by decide +kernel
theorem dX10_count_72 : decode cX10_count 72 = .ok (.getfield 151, 3) := by decide +kernel
theorem dX10_count_75 : decode cX10_count 75 = .ok (.ireturn, 1) := by decide +kernel
theorem dX10_count_76 : decode cX10_count 76 = .ok (.aload_n 0, 1) := by decide +kernel
theorem dX10_count_77 : decode cX10_count 77 = .ok (.getfield 26, 3) := by decide +kernel
theorem dX10_count_80 : decode cX10_count 80 = .ok (.getfield 306, 3) := by decide +kernel
theorem dX10_count_83 : decode cX10_count 83 = .ok (.ireturn, 1) := by decide +kernel
theorem dX10_count_84 : decode cX10_count 84 = .ok (.aload_n 0, 1) := by decide +kernel
theorem dX10_count_85 : decode cX10_count 85 = .ok (.getfield 19, 3) := by decide +kernel
theorem dX10_count_88 : decode cX10_count 88 = .ok (.getfield 51, 3) := by decide +kernel
theorem dX10_count_91 : decode cX10_count 91 = .ok (.getfield 65, 3) := by decide +kernel
theorem dX10_count_94 : decode cX10_count 94 = .ok (.ireturn, 1) := by decide +kernel
theorem dX10_count_95 : decode cX10_count 95 = .ok (.aload_n 0, 1) := by decide +kernel
theorem dX10_count_96 : decode cX10_count 96 = .ok (.getfield 10, 3) := by decide +kernel
theorem dX10_count_99 : decode cX10_count 99 = .ok (.getfield 143, 3) := by decide +kernel
theorem dX10_count_102 : decode cX10_count 102 = .ok (.invokestatic 322, 3) := by decide +kernel
theorem dX10_count_105 : decode cX10_count 105 = .ok (.ireturn, 1) := by decide +kernel
theorem dX10_count_106 : decode cX10_count 106 = .ok (.iconst (-1), 1) := by decide +kernel
theorem dX10_count_107 : decode cX10_count 107 = .ok (.ireturn, 1) := by decide +kernel
/-- QuotientSums.count(I)I -/
def wX10_count (now_bound : Int32) (now_modulus : Int32) (now_seed : Int32) (now_functions : Int32) (now_kinds : Nat → Int32) (changes_size : Int32) (changes_top : Int32) (reader_lines : Int32) (reader_faulty : Int32) (reader_place : Int32) (reader_token : Int32) (reader_toldOnce : Int32) (reader_tape_fed : Int32) (reader_tape_length : Int32) (reader_tape_tokens : Int32) (reader_tape_at : Int32) (a1 : Int32) (Q : (Int32) → Prop) : Prop :=
  ((a1 = 0 → (Q now_functions)) ∧ (¬ a1 = 0 → ((a1 = 1 → (∃ (P_1 : (Int32) → Prop), wX3_ownFunctions now_bound now_modulus now_seed now_functions now_kinds P_1 ∧ ∀ (rF_1 : Int32), P_1 rF_1 → (Q rF_1))) ∧ (¬ a1 = 1 → ((a1 = 2 → (Q now_bound)) ∧ (¬ a1 = 2 → ((a1 = 3 → (Q now_modulus)) ∧ (¬ a1 = 3 → ((a1 = 4 → (Q changes_size)) ∧ (¬ a1 = 4 → ((a1 = 5 → (Q reader_tape_fed)) ∧ (¬ a1 = 5 → ((a1 = 6 → (∃ (P_2 : (Int32) → Prop), wX10_lastPrime now_bound P_2 ∧ ∀ (rF_2 : Int32), P_2 rF_2 → (Q rF_2))) ∧ (¬ a1 = 6 → (Q (-1))))))))))))))))
set_option maxHeartbeats 4000000 in
set_option maxRecDepth 100000 in
theorem mX10_count (l : Launch) (D : va_G) (Y : Nat → ClassId) (h0 : Nat) (q_now : Nat) (q_reader : Nat) (q_changes : Nat) (v_image : Value) (v_rows : Value) (v_couples : Value) (now_bound : Int32) (now_modulus : Int32) (now_seed : Int32) (now_functions : Int32) (v_now_names : Value) (q_now_kinds : Nat) (v_now_firsts : Value) (v_now_seconds : Value) (v_now_degrees : Value) (v_now_colours : Value) (v_now_needs : Value) (v_now_numbers : Value) (now_kinds : Nat → Int32) (changes_size : Int32) (changes_top : Int32) (v_changes_kinds : Value) (v_changes_cells : Value) (v_changes_ones : Value) (v_changes_others : Value) (q_reader_tape : Nat) (reader_lines : Int32) (reader_faulty : Int32) (reader_place : Int32) (v_reader_plan : Value) (reader_token : Int32) (reader_toldOnce : Int32) (reader_tape_fed : Int32) (v_reader_tape_bytes : Value) (v_reader_tape_sorts : Value) (v_reader_tape_starts : Value) (v_reader_tape_contents : Value) (reader_tape_length : Int32) (reader_tape_tokens : Int32) (reader_tape_at : Int32) (a1 : Int32) (Q : (Int32) → Prop) (h : wX10_count now_bound now_modulus now_seed now_functions now_kinds changes_size changes_top reader_lines reader_faulty reader_place reader_token reader_toldOnce reader_tape_fed reader_tape_length reader_tape_tokens reader_tape_at a1 Q) : gM l D Y yX10_count cX10_count 2 (some .int) 2 42 0 0 [.ref h0, .int a1] [oX10 h0 (.ref q_now) (.ref q_reader) (.ref q_changes) (v_image) (v_rows) (v_couples), oX3 q_now now_bound now_modulus now_seed now_functions (v_now_names) (.ref q_now_kinds) (v_now_firsts) (v_now_seconds) (v_now_degrees) (v_now_colours) (v_now_needs) (v_now_numbers), aI Y q_now_kinds 12 now_kinds, oX0 q_changes changes_size changes_top (v_changes_kinds) (v_changes_cells) (v_changes_ones) (v_changes_others), oX5 q_reader (.ref q_reader_tape) reader_lines reader_faulty reader_place (v_reader_plan) reader_token reader_toldOnce, oX9 q_reader_tape reader_tape_fed (v_reader_tape_bytes) (v_reader_tape_sorts) (v_reader_tape_starts) (v_reader_tape_contents) reader_tape_length reader_tape_tokens reader_tape_at] (fun v w => ∃ r : Int32, v = some (.int r) ∧ w = [oX10 h0 (.ref q_now) (.ref q_reader) (.ref q_changes) (v_image) (v_rows) (v_couples), oX3 q_now now_bound now_modulus now_seed now_functions (v_now_names) (.ref q_now_kinds) (v_now_firsts) (v_now_seconds) (v_now_degrees) (v_now_colours) (v_now_needs) (v_now_numbers), aI Y q_now_kinds 12 now_kinds, oX0 q_changes changes_size changes_top (v_changes_kinds) (v_changes_cells) (v_changes_ones) (v_changes_others), oX5 q_reader (.ref q_reader_tape) reader_lines reader_faulty reader_place (v_reader_plan) reader_token reader_toldOnce, oX9 q_reader_tape reader_tape_fed (v_reader_tape_bytes) (v_reader_tape_sorts) (v_reader_tape_starts) (v_reader_tape_contents) reader_tape_length reader_tape_tokens reader_tape_at] ∧ Q r) := by
  refine gM_of (own := RX10) (by decide +kernel) rfl (Nat.le_of_ble_eq_true rfl) rfl (fun E C hR => ?_)
  unfold wX10_count at h
  refine g_iload_n C dX10_count_0 1 rfl ?_
  by_cases c_1 : a1 = 0
  · replace h := h.1 c_1
    refine g_tabI (v := 0) (tgt := 44) C dX10_count_1 c_1 (by decide) (by decide) rfl (by decide) ?_
    refine g_aload_n C dX10_count_44 0 rfl ?_
    refine g_get C inX10 0 rfl rfl 0 (by decide) wF_X10_10 rfl dX10_count_45 ?_
    refine g_get C inX3 1 rfl rfl 3 (by decide) wF_X10_316 rfl dX10_count_48 ?_
    exact g_iret C hR (Nat.le_of_ble_eq_true rfl) (Nat.le_of_ble_eq_true rfl) dX10_count_51 ⟨now_functions, rfl, rfl, h⟩
  · replace h := h.2 c_1
    by_cases c_2 : a1 = 1
    · replace h := h.1 c_2
      refine g_tabI (v := 1) (tgt := 52) C dX10_count_1 c_2 (by decide) (by decide) rfl (by decide) ?_
      refine g_aload_n C dX10_count_52 0 rfl ?_
      refine g_get C inX10 0 rfl rfl 0 (by decide) wF_X10_10 rfl dX10_count_53 ?_
      obtain ⟨P_1, hP, h⟩ := h
      refine g_callV (As := []) (rest := []) C (mX3_ownFunctions l D Y q_now now_bound now_modulus now_seed now_functions v_now_names q_now_kinds v_now_firsts v_now_seconds v_now_degrees v_now_colours v_now_needs v_now_numbers now_kinds P_1 hP) dX10_count_56 rfl wM_X10_319 wI_X3_ownFunctions wV_X3_ownFunctions wN_X3 wC_X3_ownFunctions (n := 0) (by decide +kernel) rfl (q0 := 0) rfl rfl ⟨Nat.le_of_ble_eq_true rfl, Nat.le_of_ble_eq_true rfl⟩ ⟨Nat.le_of_ble_eq_true rfl, Nat.le_of_ble_eq_true rfl⟩ (Nat.le_of_ble_eq_true rfl) [1, 2] [0, 3, 4, 5] rfl rfl rfl (fun v wc hv => ?_)
      obtain ⟨rF_1, rfl, rfl, hq⟩ := hv
      replace h := h rF_1 hq
      refine gG.perm (ws' := [oX10 h0 (.ref q_now) (.ref q_reader) (.ref q_changes) (v_image) (v_rows) (v_couples), oX3 q_now now_bound now_modulus now_seed now_functions (v_now_names) (.ref q_now_kinds) (v_now_firsts) (v_now_seconds) (v_now_degrees) (v_now_colours) (v_now_needs) (v_now_numbers), aI Y q_now_kinds 12 now_kinds, oX0 q_changes changes_size changes_top (v_changes_kinds) (v_changes_cells) (v_changes_ones) (v_changes_others), oX5 q_reader (.ref q_reader_tape) reader_lines reader_faulty reader_place (v_reader_plan) reader_token reader_toldOnce, oX9 q_reader_tape reader_tape_fed (v_reader_tape_bytes) (v_reader_tape_sorts) (v_reader_tape_starts) (v_reader_tape_contents) reader_tape_length reader_tape_tokens reader_tape_at]) [0, 4, 5, 1, 2, 3] rfl rfl ?_
      exact g_iret C hR (Nat.le_of_ble_eq_true rfl) (Nat.le_of_ble_eq_true rfl) dX10_count_59 ⟨rF_1, rfl, rfl, h⟩
    · replace h := h.2 c_2
      by_cases c_3 : a1 = 2
      · replace h := h.1 c_3
        refine g_tabI (v := 2) (tgt := 60) C dX10_count_1 c_3 (by decide) (by decide) rfl (by decide) ?_
        refine g_aload_n C dX10_count_60 0 rfl ?_
        refine g_get C inX10 0 rfl rfl 0 (by decide) wF_X10_10 rfl dX10_count_61 ?_
        refine g_get C inX3 1 rfl rfl 0 (by decide) wF_X10_143 rfl dX10_count_64 ?_
        exact g_iret C hR (Nat.le_of_ble_eq_true rfl) (Nat.le_of_ble_eq_true rfl) dX10_count_67 ⟨now_bound, rfl, rfl, h⟩
      · replace h := h.2 c_3
        by_cases c_4 : a1 = 3
        · replace h := h.1 c_4
          refine g_tabI (v := 3) (tgt := 68) C dX10_count_1 c_4 (by decide) (by decide) rfl (by decide) ?_
          refine g_aload_n C dX10_count_68 0 rfl ?_
          refine g_get C inX10 0 rfl rfl 0 (by decide) wF_X10_10 rfl dX10_count_69 ?_
          refine g_get C inX3 1 rfl rfl 1 (by decide) wF_X10_151 rfl dX10_count_72 ?_
          exact g_iret C hR (Nat.le_of_ble_eq_true rfl) (Nat.le_of_ble_eq_true rfl) dX10_count_75 ⟨now_modulus, rfl, rfl, h⟩
        · replace h := h.2 c_4
          by_cases c_5 : a1 = 4
          · replace h := h.1 c_5
            refine g_tabI (v := 4) (tgt := 76) C dX10_count_1 c_5 (by decide) (by decide) rfl (by decide) ?_
            refine g_aload_n C dX10_count_76 0 rfl ?_
            refine g_get C inX10 0 rfl rfl 2 (by decide) wF_X10_26 rfl dX10_count_77 ?_
            refine g_get C inX0 3 rfl rfl 0 (by decide) wF_X10_306 rfl dX10_count_80 ?_
            exact g_iret C hR (Nat.le_of_ble_eq_true rfl) (Nat.le_of_ble_eq_true rfl) dX10_count_83 ⟨changes_size, rfl, rfl, h⟩
          · replace h := h.2 c_5
            by_cases c_6 : a1 = 5
            · replace h := h.1 c_6
              refine g_tabI (v := 5) (tgt := 84) C dX10_count_1 c_6 (by decide) (by decide) rfl (by decide) ?_
              refine g_aload_n C dX10_count_84 0 rfl ?_
              refine g_get C inX10 0 rfl rfl 1 (by decide) wF_X10_19 rfl dX10_count_85 ?_
              refine g_get C inX5 4 rfl rfl 0 (by decide) wF_X10_51 rfl dX10_count_88 ?_
              refine g_get C inX9 5 rfl rfl 0 (by decide) wF_X10_65 rfl dX10_count_91 ?_
              exact g_iret C hR (Nat.le_of_ble_eq_true rfl) (Nat.le_of_ble_eq_true rfl) dX10_count_94 ⟨reader_tape_fed, rfl, rfl, h⟩
            · replace h := h.2 c_6
              by_cases c_7 : a1 = 6
              · replace h := h.1 c_7
                refine g_tabI (v := 6) (tgt := 95) C dX10_count_1 c_7 (by decide) (by decide) rfl (by decide) ?_
                refine g_aload_n C dX10_count_95 0 rfl ?_
                refine g_get C inX10 0 rfl rfl 0 (by decide) wF_X10_10 rfl dX10_count_96 ?_
                refine g_get C inX3 1 rfl rfl 0 (by decide) wF_X10_143 rfl dX10_count_99 ?_
                obtain ⟨P_2, hP, h⟩ := h
                refine g_callS (As := [.int now_bound]) (rest := []) C (mX10_lastPrime l D Y now_bound P_2 hP) dX10_count_102 rfl wM_X10_322 wS_X10_lastPrime wN_X10 wC_X10_lastPrime (n := 1) (by decide +kernel) rfl ⟨Nat.le_of_ble_eq_true rfl, Nat.le_of_ble_eq_true rfl⟩ ⟨Nat.le_of_ble_eq_true rfl, Nat.le_of_ble_eq_true rfl⟩ (Nat.le_of_ble_eq_true rfl) [] [0, 1, 2, 3, 4, 5] rfl rfl rfl (fun v wc hv => ?_)
                obtain ⟨rF_2, rfl, rfl, hq⟩ := hv
                replace h := h rF_2 hq
                refine gG.eqw (ws' := [oX10 h0 (.ref q_now) (.ref q_reader) (.ref q_changes) (v_image) (v_rows) (v_couples), oX3 q_now now_bound now_modulus now_seed now_functions (v_now_names) (.ref q_now_kinds) (v_now_firsts) (v_now_seconds) (v_now_degrees) (v_now_colours) (v_now_needs) (v_now_numbers), aI Y q_now_kinds 12 now_kinds, oX0 q_changes changes_size changes_top (v_changes_kinds) (v_changes_cells) (v_changes_ones) (v_changes_others), oX5 q_reader (.ref q_reader_tape) reader_lines reader_faulty reader_place (v_reader_plan) reader_token reader_toldOnce, oX9 q_reader_tape reader_tape_fed (v_reader_tape_bytes) (v_reader_tape_sorts) (v_reader_tape_starts) (v_reader_tape_contents) reader_tape_length reader_tape_tokens reader_tape_at]) rfl ?_
                exact g_iret C hR (Nat.le_of_ble_eq_true rfl) (Nat.le_of_ble_eq_true rfl) dX10_count_105 ⟨rF_2, rfl, rfl, h⟩
              · replace h := h.2 c_7
                refine g_tabO (tgt := 106) C dX10_count_1 [0, 1, 2, 3, 4, 5, 6] (by decide) (by exact ⟨c_1, c_2, c_3, c_4, c_5, c_6, c_7, trivial⟩) (by decide) ?_
                refine g_iconst (v := (-1)) C dX10_count_106 rfl ?_
                exact g_iret C hR (Nat.le_of_ble_eq_true rfl) (Nat.le_of_ble_eq_true rfl) dX10_count_107 ⟨(-1), rfl, rfl, h⟩
