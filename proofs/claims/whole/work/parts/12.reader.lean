theorem dX5_init_0 : decode cX5_init 0 = .ok (.aload_n 0, 1) := by decide +kernel
theorem dX5_init_1 : decode cX5_init 1 = .ok (.invokespecial 3, 3) := by decide +kernel
theorem dX5_init_4 : decode cX5_init 4 = .ok (.aload_n 0, 1) := by decide +kernel
theorem dX5_init_5 : decode cX5_init 5 = .ok (.new 9, 3) := by decide +kernel
theorem dX5_init_8 : decode cX5_init 8 = .ok (.dup, 1) := by decide +kernel
theorem dX5_init_9 : decode cX5_init 9 = .ok (.invokespecial 11, 3) := by decide +kernel
theorem dX5_init_12 : decode cX5_init 12 = .ok (.putfield 12, 3) := by decide +kernel
theorem dX5_init_15 : decode cX5_init 15 = .ok (.aload_n 0, 1) := by decide +kernel
theorem dX5_init_16 : decode cX5_init 16 = .ok (.iconst (-1), 1) := by decide +kernel
theorem dX5_init_17 : decode cX5_init 17 = .ok (.putfield 18, 3) := by decide +kernel
theorem dX5_init_20 : decode cX5_init 20 = .ok (.aload_n 0, 1) := by decide +kernel
theorem dX5_init_21 : decode cX5_init 21 = .ok (.new 22, 3) := by decide +kernel
theorem dX5_init_24 : decode cX5_init 24 = .ok (.dup, 1) := by decide +kernel
theorem dX5_init_25 : decode cX5_init 25 = .ok (.invokespecial 24, 3) := by decide +kernel
theorem dX5_init_28 : decode cX5_init 28 = .ok (.putfield 25, 3) := by decide +kernel
theorem dX5_init_31 : decode cX5_init 31 = .ok (.return_, 1) := by decide +kernel
/-- QuotientSums$Reader.<init>()V -/
def wX5_init   (Q : (Int32) → (Int32) → (Int32) → (Int32) → (Int32) → (Int32) → (Int32) → (Int32) → (Int32) → (Nat → Int32) → (Nat → Int32) → (Nat → Int32) → (Nat → Int32) → (Int32) → (Int32) → (Int32) → (Int32) → (Nat → Int32) → (Nat → Int32) → (Nat → Int32) → (Nat → Int32) → (Nat → Int32) → (Nat → Int32) → (Nat → Int32) → (Nat → Int32) → Prop) : Prop :=
  (∃ (P_1 : (Int32) → (Int32) → (Int32) → (Int32) → (Nat → Int32) → (Nat → Int32) → (Nat → Int32) → (Nat → Int32) → Prop), wX9_init  P_1 ∧ ∀ (fed_1 : Int32) (length_1 : Int32) (tokens_1 : Int32) (atF_1 : Int32) (bytes_1 : Nat → Int32) (sorts_1 : Nat → Int32) (starts_1 : Nat → Int32) (contents_1 : Nat → Int32), P_1 fed_1 length_1 tokens_1 atF_1 bytes_1 sorts_1 starts_1 contents_1 → ∃ (P_2 : (Int32) → (Int32) → (Int32) → (Int32) → (Nat → Int32) → (Nat → Int32) → (Nat → Int32) → (Nat → Int32) → (Nat → Int32) → (Nat → Int32) → (Nat → Int32) → (Nat → Int32) → Prop), wX3_init  P_2 ∧ ∀ (bound_1 : Int32) (modulus_1 : Int32) (seed_1 : Int32) (functions_1 : Int32) (names_1 : Nat → Int32) (kinds_1 : Nat → Int32) (firsts_1 : Nat → Int32) (seconds_1 : Nat → Int32) (degrees_1 : Nat → Int32) (colours_1 : Nat → Int32) (needs_1 : Nat → Int32) (numbers_1 : Nat → Int32), P_2 bound_1 modulus_1 seed_1 functions_1 names_1 kinds_1 firsts_1 seconds_1 degrees_1 colours_1 needs_1 numbers_1 → (Q 0 0 (-1) 0 0 fed_1 length_1 tokens_1 atF_1 bytes_1 sorts_1 starts_1 contents_1 bound_1 modulus_1 seed_1 functions_1 names_1 kinds_1 firsts_1 seconds_1 degrees_1 colours_1 needs_1 numbers_1))
set_option maxHeartbeats 4000000 in
set_option maxRecDepth 100000 in
theorem mX5_init (l : Launch) (D : va_G) (Y : Nat → ClassId) (h0 : Nat)   (Q : (Int32) → (Int32) → (Int32) → (Int32) → (Int32) → (Int32) → (Int32) → (Int32) → (Int32) → (Nat → Int32) → (Nat → Int32) → (Nat → Int32) → (Nat → Int32) → (Int32) → (Int32) → (Int32) → (Int32) → (Nat → Int32) → (Nat → Int32) → (Nat → Int32) → (Nat → Int32) → (Nat → Int32) → (Nat → Int32) → (Nat → Int32) → (Nat → Int32) → Prop) (h : wX5_init  Q) : gM l D Y yX5_init cX5_init 1 none 7 149 14 3051 [.ref h0] [oX5 h0 (.null) 0 0 0 (.null) 0 0] (fun v w => ∃ q_tape : Nat, ∃ lines' : Int32, ∃ faulty' : Int32, ∃ place' : Int32, ∃ q_plan : Nat, ∃ token' : Int32, ∃ toldOnce' : Int32, ∃ tape_fed' : Int32, ∃ q_tape_bytes : Nat, ∃ q_tape_sorts : Nat, ∃ q_tape_starts : Nat, ∃ q_tape_contents : Nat, ∃ tape_length' : Int32, ∃ tape_tokens' : Int32, ∃ tape_at' : Int32, ∃ tape_bytes' : Nat → Int32, ∃ tape_sorts' : Nat → Int32, ∃ tape_starts' : Nat → Int32, ∃ tape_contents' : Nat → Int32, ∃ plan_bound' : Int32, ∃ plan_modulus' : Int32, ∃ plan_seed' : Int32, ∃ plan_functions' : Int32, ∃ q_plan_names : Nat, ∃ q_plan_kinds : Nat, ∃ q_plan_firsts : Nat, ∃ q_plan_seconds : Nat, ∃ q_plan_degrees : Nat, ∃ q_plan_colours : Nat, ∃ q_plan_needs : Nat, ∃ q_plan_numbers : Nat, ∃ plan_names' : Nat → Int32, ∃ plan_kinds' : Nat → Int32, ∃ plan_firsts' : Nat → Int32, ∃ plan_seconds' : Nat → Int32, ∃ plan_degrees' : Nat → Int32, ∃ plan_colours' : Nat → Int32, ∃ plan_needs' : Nat → Int32, ∃ plan_numbers' : Nat → Int32, v = none ∧ w = [oX5 h0 (.ref q_tape) lines' faulty' place' (.ref q_plan) token' toldOnce', oX9 q_tape tape_fed' (.ref q_tape_bytes) (.ref q_tape_sorts) (.ref q_tape_starts) (.ref q_tape_contents) tape_length' tape_tokens' tape_at', aI Y q_tape_bytes 700 tape_bytes', aI Y q_tape_sorts 701 tape_sorts', aI Y q_tape_starts 701 tape_starts', aI Y q_tape_contents 701 tape_contents', oX3 q_plan plan_bound' plan_modulus' plan_seed' plan_functions' (.ref q_plan_names) (.ref q_plan_kinds) (.ref q_plan_firsts) (.ref q_plan_seconds) (.ref q_plan_degrees) (.ref q_plan_colours) (.ref q_plan_needs) (.ref q_plan_numbers), aI Y q_plan_names 12 plan_names', aI Y q_plan_kinds 12 plan_kinds', aI Y q_plan_firsts 12 plan_firsts', aI Y q_plan_seconds 12 plan_seconds', aI Y q_plan_degrees 12 plan_degrees', aI Y q_plan_colours 12 plan_colours', aI Y q_plan_needs 12 plan_needs', aI Y q_plan_numbers 144 plan_numbers'] ∧ Q lines' faulty' place' token' toldOnce' tape_fed' tape_length' tape_tokens' tape_at' tape_bytes' tape_sorts' tape_starts' tape_contents' plan_bound' plan_modulus' plan_seed' plan_functions' plan_names' plan_kinds' plan_firsts' plan_seconds' plan_degrees' plan_colours' plan_needs' plan_numbers') := by
  refine gM_ofI (own := RX5) (by decide +kernel) rfl rfl (Nat.le_of_ble_eq_true rfl) rfl (fun E C hR hin => ?_)
  unfold wX5_init at h
  refine g_aload_n C dX5_init_0 0 rfl ?_
  refine g_objInit C wM_X5_3 dX5_init_1 (Nat.le_of_ble_eq_true rfl) (Nat.le_of_ble_eq_true rfl) ?_
  refine g_aload_n C dX5_init_4 0 rfl ?_
  refine g_new (fs := [.int 0, .null, .null, .null, .null, .int 0, .int 0, .int 0]) C inX9 tyX9 tyX9_ok wL_X5_9 wT_X9 wN_X9 rfl rfl ⟨Nat.le_of_ble_eq_true rfl, Nat.le_of_ble_eq_true rfl⟩ dX5_init_5 (fun q_1 => gG.eqw (ws' := [oX5 h0 (.null) 0 0 0 (.null) 0 0, oX9 q_1 0 (.null) (.null) (.null) (.null) 0 0 0]) rfl ?_)
  refine g_dup C dX5_init_8 rfl ?_
  obtain ⟨P_1, hP, h⟩ := h
  refine g_callIN (As := []) (rest := [.ref q_1, .ref h0]) C (mX9_init l D Y q_1 P_1 hP) dX5_init_9 rfl wNM_X5_11 wI_X9_init wN_X9 wC_X9_init (n := 0) (by decide +kernel) rfl rfl ⟨Nat.le_of_ble_eq_true rfl, Nat.le_of_ble_eq_true rfl⟩ ⟨Nat.le_of_ble_eq_true rfl, Nat.le_of_ble_eq_true rfl⟩ (Nat.le_of_ble_eq_true rfl) [1] [0] rfl rfl rfl (fun v wc hv => ?_)
  obtain ⟨fed_1, q_bytes_1, q_sorts_1, q_starts_1, q_contents_1, length_1, tokens_1, atF_1, bytes_1, sorts_1, starts_1, contents_1, rfl, rfl, hq⟩ := hv
  replace h := h fed_1 length_1 tokens_1 atF_1 bytes_1 sorts_1 starts_1 contents_1 hq
  refine gG.eqw (ws' := [oX5 h0 (.null) 0 0 0 (.null) 0 0, oX9 q_1 fed_1 (.ref q_bytes_1) (.ref q_sorts_1) (.ref q_starts_1) (.ref q_contents_1) length_1 tokens_1 atF_1, aI Y q_bytes_1 700 bytes_1, aI Y q_sorts_1 701 sorts_1, aI Y q_starts_1 701 starts_1, aI Y q_contents_1 701 contents_1]) rfl ?_
  refine g_putF C inX5 tyX5 tyX5_ok nmX5 0 rfl rfl 0 (by decide) wF_X5_12 rfl hin rfl rfl rfl (Nat.le_of_ble_eq_true rfl) (ws' := [oX5 h0 (.ref q_1) 0 0 0 (.null) 0 0, oX9 q_1 fed_1 (.ref q_bytes_1) (.ref q_sorts_1) (.ref q_starts_1) (.ref q_contents_1) length_1 tokens_1 atF_1, aI Y q_bytes_1 700 bytes_1, aI Y q_sorts_1 701 sorts_1, aI Y q_starts_1 701 starts_1, aI Y q_contents_1 701 contents_1]) rfl dX5_init_12 ?_
  refine g_aload_n C dX5_init_15 0 rfl ?_
  refine g_iconst (v := (-1)) C dX5_init_16 rfl ?_
  refine g_put C inX5 tyX5 tyX5_ok nmX5 0 rfl rfl 3 (by decide) wF_X5_18 rfl rfl rfl (Nat.le_of_ble_eq_true rfl) (ws' := [oX5 h0 (.ref q_1) 0 0 (-1) (.null) 0 0, oX9 q_1 fed_1 (.ref q_bytes_1) (.ref q_sorts_1) (.ref q_starts_1) (.ref q_contents_1) length_1 tokens_1 atF_1, aI Y q_bytes_1 700 bytes_1, aI Y q_sorts_1 701 sorts_1, aI Y q_starts_1 701 starts_1, aI Y q_contents_1 701 contents_1]) rfl dX5_init_17 ?_
  refine g_aload_n C dX5_init_20 0 rfl ?_
  refine g_new (fs := [.int 0, .int 0, .int 0, .int 0, .null, .null, .null, .null, .null, .null, .null, .null]) C inX3 tyX3 tyX3_ok wL_X5_22 wT_X3 wN_X3 rfl rfl ⟨Nat.le_of_ble_eq_true rfl, Nat.le_of_ble_eq_true rfl⟩ dX5_init_21 (fun q_2 => gG.eqw (ws' := [oX5 h0 (.ref q_1) 0 0 (-1) (.null) 0 0, oX9 q_1 fed_1 (.ref q_bytes_1) (.ref q_sorts_1) (.ref q_starts_1) (.ref q_contents_1) length_1 tokens_1 atF_1, aI Y q_bytes_1 700 bytes_1, aI Y q_sorts_1 701 sorts_1, aI Y q_starts_1 701 starts_1, aI Y q_contents_1 701 contents_1, oX3 q_2 0 0 0 0 (.null) (.null) (.null) (.null) (.null) (.null) (.null) (.null)]) rfl ?_)
  refine g_dup C dX5_init_24 rfl ?_
  obtain ⟨P_2, hP, h⟩ := h
  refine g_callI (As := []) (rest := [.ref q_2, .ref h0]) C (mX3_init l D Y q_2 P_2 hP) dX5_init_25 rfl wM_X5_24 wI_X3_init wN_X3 wC_X3_init (n := 0) (by decide +kernel) rfl rfl ⟨Nat.le_of_ble_eq_true rfl, Nat.le_of_ble_eq_true rfl⟩ ⟨Nat.le_of_ble_eq_true rfl, Nat.le_of_ble_eq_true rfl⟩ (Nat.le_of_ble_eq_true rfl) [6] [0, 1, 2, 3, 4, 5] rfl rfl rfl (fun v wc hv => ?_)
  obtain ⟨bound_1, modulus_1, seed_1, functions_1, q_names_1, q_kinds_1, q_firsts_1, q_seconds_1, q_degrees_1, q_colours_1, q_needs_1, q_numbers_1, names_1, kinds_1, firsts_1, seconds_1, degrees_1, colours_1, needs_1, numbers_1, rfl, rfl, hq⟩ := hv
  replace h := h bound_1 modulus_1 seed_1 functions_1 names_1 kinds_1 firsts_1 seconds_1 degrees_1 colours_1 needs_1 numbers_1 hq
  refine gG.eqw (ws' := [oX5 h0 (.ref q_1) 0 0 (-1) (.null) 0 0, oX9 q_1 fed_1 (.ref q_bytes_1) (.ref q_sorts_1) (.ref q_starts_1) (.ref q_contents_1) length_1 tokens_1 atF_1, aI Y q_bytes_1 700 bytes_1, aI Y q_sorts_1 701 sorts_1, aI Y q_starts_1 701 starts_1, aI Y q_contents_1 701 contents_1, oX3 q_2 bound_1 modulus_1 seed_1 functions_1 (.ref q_names_1) (.ref q_kinds_1) (.ref q_firsts_1) (.ref q_seconds_1) (.ref q_degrees_1) (.ref q_colours_1) (.ref q_needs_1) (.ref q_numbers_1), aI Y q_names_1 12 names_1, aI Y q_kinds_1 12 kinds_1, aI Y q_firsts_1 12 firsts_1, aI Y q_seconds_1 12 seconds_1, aI Y q_degrees_1 12 degrees_1, aI Y q_colours_1 12 colours_1, aI Y q_needs_1 12 needs_1, aI Y q_numbers_1 144 numbers_1]) rfl ?_
  refine g_put C inX5 tyX5 tyX5_ok nmX5 0 rfl rfl 4 (by decide) wF_X5_25 rfl rfl rfl (Nat.le_of_ble_eq_true rfl) (ws' := [oX5 h0 (.ref q_1) 0 0 (-1) (.ref q_2) 0 0, oX9 q_1 fed_1 (.ref q_bytes_1) (.ref q_sorts_1) (.ref q_starts_1) (.ref q_contents_1) length_1 tokens_1 atF_1, aI Y q_bytes_1 700 bytes_1, aI Y q_sorts_1 701 sorts_1, aI Y q_starts_1 701 starts_1, aI Y q_contents_1 701 contents_1, oX3 q_2 bound_1 modulus_1 seed_1 functions_1 (.ref q_names_1) (.ref q_kinds_1) (.ref q_firsts_1) (.ref q_seconds_1) (.ref q_degrees_1) (.ref q_colours_1) (.ref q_needs_1) (.ref q_numbers_1), aI Y q_names_1 12 names_1, aI Y q_kinds_1 12 kinds_1, aI Y q_firsts_1 12 firsts_1, aI Y q_seconds_1 12 seconds_1, aI Y q_degrees_1 12 degrees_1, aI Y q_colours_1 12 colours_1, aI Y q_needs_1 12 needs_1, aI Y q_numbers_1 144 numbers_1]) rfl dX5_init_28 ?_
  exact g_vret C hR (Nat.le_of_ble_eq_true rfl) (Nat.le_of_ble_eq_true rfl) dX5_init_31 ⟨q_1, 0, 0, (-1), q_2, 0, 0, fed_1, q_bytes_1, q_sorts_1, q_starts_1, q_contents_1, length_1, tokens_1, atF_1, bytes_1, sorts_1, starts_1, contents_1, bound_1, modulus_1, seed_1, functions_1, q_names_1, q_kinds_1, q_firsts_1, q_seconds_1, q_degrees_1, q_colours_1, q_needs_1, q_numbers_1, names_1, kinds_1, firsts_1, seconds_1, degrees_1, colours_1, needs_1, numbers_1, rfl, rfl, h⟩
theorem dX5_refuse_0 : decode cX5_refuse 0 = .ok (.aload_n 0, 1) := by decide +kernel
theorem dX5_refuse_1 : decode cX5_refuse 1 = .ok (.iload_n 1, 1) := by decide +kernel
theorem dX5_refuse_2 : decode cX5_refuse 2 = .ok (.putfield 45, 3) := by decide +kernel
theorem dX5_refuse_5 : decode cX5_refuse 5 = .ok (.aload_n 0, 1) := by decide +kernel
theorem dX5_refuse_6 : decode cX5_refuse 6 = .ok (.aload_n 0, 1) := by decide +kernel
theorem dX5_refuse_7 : decode cX5_refuse 7 = .ok (.getfield 12, 3) := by decide +kernel
theorem dX5_refuse_10 : decode cX5_refuse 10 = .ok (.aload_n 0, 1) := by decide +kernel
theorem dX5_refuse_11 : decode cX5_refuse 11 = .ok (.getfield 36, 3) := by decide +kernel
theorem dX5_refuse_14 : decode cX5_refuse 14 = .ok (.invokevirtual 59, 3) := by decide +kernel
theorem dX5_refuse_17 : decode cX5_refuse 17 = .ok (.putfield 18, 3) := by decide +kernel
theorem dX5_refuse_20 : decode cX5_refuse 20 = .ok (.iconst 0, 1) := by decide +kernel
theorem dX5_refuse_21 : decode cX5_refuse 21 = .ok (.ireturn, 1) := by decide +kernel
/-- QuotientSums$Reader.refuse(I)Z -/
def wX5_refuse (lines : Int32) (faulty : Int32) (place : Int32) (token : Int32) (toldOnce : Int32) (tape_fed : Int32) (tape_length : Int32) (tape_tokens : Int32) (tape_at : Int32) (tape_starts : Nat → Int32) (a1 : Int32) (Q : (Int32) → (Int32) → (Int32) → Prop) : Prop :=
  (∃ (P_1 : (Int32) → Prop), wX9_startOf tape_fed tape_length tape_tokens tape_at tape_starts token P_1 ∧ ∀ (rF_1 : Int32), P_1 rF_1 → (Q 0 a1 rF_1))
set_option maxHeartbeats 4000000 in
set_option maxRecDepth 100000 in
theorem mX5_refuse (l : Launch) (D : va_G) (Y : Nat → ClassId) (h0 : Nat) (q_tape : Nat) (lines : Int32) (faulty : Int32) (place : Int32) (v_plan : Value) (token : Int32) (toldOnce : Int32) (tape_fed : Int32) (v_tape_bytes : Value) (v_tape_sorts : Value) (q_tape_starts : Nat) (v_tape_contents : Value) (tape_length : Int32) (tape_tokens : Int32) (tape_at : Int32) (tape_starts : Nat → Int32) (a1 : Int32) (Q : (Int32) → (Int32) → (Int32) → Prop) (h : wX5_refuse lines faulty place token toldOnce tape_fed tape_length tape_tokens tape_at tape_starts a1 Q) : gM l D Y yX5_refuse cX5_refuse 2 (some .boolean) 1 21 0 0 [.ref h0, .int a1] [oX5 h0 (.ref q_tape) lines faulty place (v_plan) token toldOnce, oX9 q_tape tape_fed (v_tape_bytes) (v_tape_sorts) (.ref q_tape_starts) (v_tape_contents) tape_length tape_tokens tape_at, aI Y q_tape_starts 701 tape_starts] (fun v w => ∃ r : Int32, ∃ faulty' : Int32, ∃ place' : Int32, v = some (.int r) ∧ w = [oX5 h0 (.ref q_tape) lines faulty' place' (v_plan) token toldOnce, oX9 q_tape tape_fed (v_tape_bytes) (v_tape_sorts) (.ref q_tape_starts) (v_tape_contents) tape_length tape_tokens tape_at, aI Y q_tape_starts 701 tape_starts] ∧ Q r faulty' place') := by
  refine gM_of (own := RX5) (by decide +kernel) rfl (Nat.le_of_ble_eq_true rfl) rfl (fun E C hR => ?_)
  unfold wX5_refuse at h
  refine g_aload_n C dX5_refuse_0 0 rfl ?_
  refine g_iload_n C dX5_refuse_1 1 rfl ?_
  refine g_put C inX5 tyX5 tyX5_ok nmX5 0 rfl rfl 2 (by decide) wF_X5_45 rfl rfl rfl (Nat.le_of_ble_eq_true rfl) (ws' := [oX5 h0 (.ref q_tape) lines a1 place (v_plan) token toldOnce, oX9 q_tape tape_fed (v_tape_bytes) (v_tape_sorts) (.ref q_tape_starts) (v_tape_contents) tape_length tape_tokens tape_at, aI Y q_tape_starts 701 tape_starts]) rfl dX5_refuse_2 ?_
  refine g_aload_n C dX5_refuse_5 0 rfl ?_
  refine g_aload_n C dX5_refuse_6 0 rfl ?_
  refine g_get C inX5 0 rfl rfl 0 (by decide) wF_X5_12 rfl dX5_refuse_7 ?_
  refine g_aload_n C dX5_refuse_10 0 rfl ?_
  refine g_get C inX5 0 rfl rfl 5 (by decide) wF_X5_36 rfl dX5_refuse_11 ?_
  obtain ⟨P_1, hP, h⟩ := h
  refine g_callV (As := [.int token]) (rest := [.ref h0]) C (mX9_startOf l D Y q_tape tape_fed v_tape_bytes v_tape_sorts q_tape_starts v_tape_contents tape_length tape_tokens tape_at tape_starts token P_1 hP) dX5_refuse_14 rfl wM_X5_59 wI_X9_startOf wV_X9_startOf wN_X9 wC_X9_startOf (n := 1) (by decide +kernel) rfl (q0 := 0) rfl rfl ⟨Nat.le_of_ble_eq_true rfl, Nat.le_of_ble_eq_true rfl⟩ ⟨Nat.le_of_ble_eq_true rfl, Nat.le_of_ble_eq_true rfl⟩ (Nat.le_of_ble_eq_true rfl) [1, 2] [0] rfl rfl rfl (fun v wc hv => ?_)
  obtain ⟨rF_1, rfl, rfl, hq⟩ := hv
  replace h := h rF_1 hq
  refine gG.eqw (ws' := [oX5 h0 (.ref q_tape) lines a1 place (v_plan) token toldOnce, oX9 q_tape tape_fed (v_tape_bytes) (v_tape_sorts) (.ref q_tape_starts) (v_tape_contents) tape_length tape_tokens tape_at, aI Y q_tape_starts 701 tape_starts]) rfl ?_
  refine g_put C inX5 tyX5 tyX5_ok nmX5 0 rfl rfl 3 (by decide) wF_X5_18 rfl rfl rfl (Nat.le_of_ble_eq_true rfl) (ws' := [oX5 h0 (.ref q_tape) lines a1 rF_1 (v_plan) token toldOnce, oX9 q_tape tape_fed (v_tape_bytes) (v_tape_sorts) (.ref q_tape_starts) (v_tape_contents) tape_length tape_tokens tape_at, aI Y q_tape_starts 701 tape_starts]) rfl dX5_refuse_17 ?_
  refine g_iconst (v := 0) C dX5_refuse_20 rfl ?_
  exact g_zret C hR (by decide) (Nat.le_of_ble_eq_true rfl) (Nat.le_of_ble_eq_true rfl) dX5_refuse_21 ⟨0, a1, rF_1, rfl, rfl, h⟩
theorem dX5_takeNumber_0 : decode cX5_takeNumber 0 = .ok (.aload_n 0, 1) := by decide +kernel
theorem dX5_takeNumber_1 : decode cX5_takeNumber 1 = .ok (.dup, 1) := by decide +kernel
theorem dX5_takeNumber_2 : decode cX5_takeNumber 2 = .ok (.getfield 36, 3) := by decide +kernel
theorem dX5_takeNumber_5 : decode cX5_takeNumber 5 = .ok (.iconst 1, 1) := by decide +kernel
theorem dX5_takeNumber_6 : decode cX5_takeNumber 6 = .ok (.iadd, 1) := by decide +kernel
theorem dX5_takeNumber_7 : decode cX5_takeNumber 7 = .ok (.putfield 36, 3) := by decide +kernel
theorem dX5_takeNumber_10 : decode cX5_takeNumber 10 = .ok (.aload_n 0, 1) := by decide +kernel
theorem dX5_takeNumber_11 : decode cX5_takeNumber 11 = .ok (.getfield 12, 3) := by decide +kernel
theorem dX5_takeNumber_14 : decode cX5_takeNumber 14 = .ok (.aload_n 0, 1) := by decide +kernel
theorem dX5_takeNumber_15 : decode cX5_takeNumber 15 = .ok (.getfield 36, 3) := by decide +kernel
theorem dX5_takeNumber_18 : decode cX5_takeNumber 18 = .ok (.invokevirtual 48, 3) := by decide +kernel
theorem dX5_takeNumber_21 : decode cX5_takeNumber 21 = .ok (.iconst 2, 1) := by decide +kernel
theorem dX5_takeNumber_22 : decode cX5_takeNumber 22 = .ok (.if_icmp .eq 9, 3) := by decide +kernel
theorem dX5_takeNumber_25 : decode cX5_takeNumber 25 = .ok (.aload_n 0, 1) := by decide +kernel
theorem dX5_takeNumber_26 : decode cX5_takeNumber 26 = .ok (.iconst 1, 1) := by decide +kernel
theorem dX5_takeNumber_27 : decode cX5_takeNumber 27 = .ok (.invokevirtual 62, 3) := by decide +kernel
theorem dX5_takeNumber_30 : decode cX5_takeNumber 30 = .ok (.ireturn, 1) := by decide +kernel
theorem dX5_takeNumber_31 : decode cX5_takeNumber 31 = .ok (.aload_n 0, 1) := by decide +kernel
theorem dX5_takeNumber_32 : decode cX5_takeNumber 32 = .ok (.getfield 12, 3) := by decide +kernel
theorem dX5_takeNumber_35 : decode cX5_takeNumber 35 = .ok (.aload_n 0, 1) := by decide +kernel
theorem dX5_takeNumber_36 : decode cX5_takeNumber 36 = .ok (.getfield 36, 3) := by decide +kernel
theorem dX5_takeNumber_39 : decode cX5_takeNumber 39 = .ok (.invokevirtual 66, 3) := by decide +kernel
theorem dX5_takeNumber_42 : decode cX5_takeNumber 42 = .ok (.istore_n 3, 1) := by decide +kernel
theorem dX5_takeNumber_43 : decode cX5_takeNumber 43 = .ok (.iload_n 3, 1) := by decide +kernel
theorem dX5_takeNumber_44 : decode cX5_takeNumber 44 = .ok (.iload_n 1, 1) := by decide +kernel
theorem dX5_takeNumber_45 : decode cX5_takeNumber 45 = .ok (.if_icmp .lt 8, 3) := by decide +kernel
theorem dX5_takeNumber_48 : decode cX5_takeNumber 48 = .ok (.iload_n 3, 1) := by decide +kernel
theorem dX5_takeNumber_49 : decode cX5_takeNumber 49 = .ok (.iload_n 2, 1) := by decide +kernel
theorem dX5_takeNumber_50 : decode cX5_takeNumber 50 = .ok (.if_icmp .le 11, 3) := by decide +kernel
theorem dX5_takeNumber_53 : decode cX5_takeNumber 53 = .ok (.aload_n 0, 1) := by decide +kernel
theorem dX5_takeNumber_54 : decode cX5_takeNumber 54 = .ok (.iconst 2, 1) := by decide +kernel
theorem dX5_takeNumber_55 : decode cX5_takeNumber 55 = .ok (.invokevirtual 62, 3) := by decide +kernel
theorem dX5_takeNumber_58 : decode cX5_takeNumber 58 = .ok (.ifCond .eq 7, 3) := by decide +kernel
theorem dX5_takeNumber_61 : decode cX5_takeNumber 61 = .ok (.iconst 1, 1) := by decide +kernel
theorem dX5_takeNumber_62 : decode cX5_takeNumber 62 = .ok (.goto 4, 3) := by decide +kernel
theorem dX5_takeNumber_65 : decode cX5_takeNumber 65 = .ok (.iconst 0, 1) := by decide +kernel
theorem dX5_takeNumber_66 : decode cX5_takeNumber 66 = .ok (.ireturn, 1) := by decide +kernel
/-- QuotientSums$Reader.takeNumber(II)Z -/
def wX5_takeNumber (lines : Int32) (faulty : Int32) (place : Int32) (token : Int32) (toldOnce : Int32) (tape_fed : Int32) (tape_length : Int32) (tape_tokens : Int32) (tape_at : Int32) (tape_sorts : Nat → Int32) (tape_contents : Nat → Int32) (tape_starts : Nat → Int32) (a1 : Int32) (a2 : Int32) (Q : (Int32) → (Int32) → (Int32) → (Int32) → Prop) : Prop :=
  (∀ token_1 : Int32, token_1 = token + 1 → ∃ (P_1 : (Int32) → Prop), wX9_sortOf tape_fed tape_length tape_tokens tape_at tape_sorts token_1 P_1 ∧ ∀ (rF_1 : Int32), P_1 rF_1 → ((rF_1 = 2 → (∃ (P_2 : (Int32) → Prop), wX9_contentOf tape_fed tape_length tape_tokens tape_at tape_contents token_1 P_2 ∧ ∀ (rF_2 : Int32), P_2 rF_2 → ((rF_2 < a1 → (∃ (P_3 : (Int32) → (Int32) → (Int32) → Prop), wX5_refuse lines faulty place token_1 toldOnce tape_fed tape_length tape_tokens tape_at tape_starts 2 P_3 ∧ ∀ (rF_3 : Int32) (faulty_1 : Int32) (place_1 : Int32), P_3 rF_3 faulty_1 place_1 → ((rF_3 = 0 → (Q 0 faulty_1 place_1 token_1)) ∧ (¬ rF_3 = 0 → (Q 1 faulty_1 place_1 token_1))))) ∧ (¬ rF_2 < a1 → ((rF_2 ≤ a2 → (Q 1 faulty place token_1)) ∧ (¬ rF_2 ≤ a2 → (∃ (P_4 : (Int32) → (Int32) → (Int32) → Prop), wX5_refuse lines faulty place token_1 toldOnce tape_fed tape_length tape_tokens tape_at tape_starts 2 P_4 ∧ ∀ (rF_4 : Int32) (faulty_2 : Int32) (place_2 : Int32), P_4 rF_4 faulty_2 place_2 → ((rF_4 = 0 → (Q 0 faulty_2 place_2 token_1)) ∧ (¬ rF_4 = 0 → (Q 1 faulty_2 place_2 token_1)))))))))) ∧ (¬ rF_1 = 2 → (∃ (P_5 : (Int32) → (Int32) → (Int32) → Prop), wX5_refuse lines faulty place token_1 toldOnce tape_fed tape_length tape_tokens tape_at tape_starts 1 P_5 ∧ ∀ (rF_5 : Int32) (faulty_3 : Int32) (place_3 : Int32), P_5 rF_5 faulty_3 place_3 → ((rF_5 = 0 ∨ rF_5 = 1) ∧ Q rF_5 faulty_3 place_3 token_1)))))
set_option maxHeartbeats 4000000 in
set_option maxRecDepth 100000 in
theorem mX5_takeNumber (l : Launch) (D : va_G) (Y : Nat → ClassId) (h0 : Nat) (q_tape : Nat) (lines : Int32) (faulty : Int32) (place : Int32) (v_plan : Value) (token : Int32) (toldOnce : Int32) (tape_fed : Int32) (v_tape_bytes : Value) (q_tape_sorts : Nat) (q_tape_starts : Nat) (q_tape_contents : Nat) (tape_length : Int32) (tape_tokens : Int32) (tape_at : Int32) (tape_sorts : Nat → Int32) (tape_contents : Nat → Int32) (tape_starts : Nat → Int32) (a1 : Int32) (a2 : Int32) (Q : (Int32) → (Int32) → (Int32) → (Int32) → Prop) (h : wX5_takeNumber lines faulty place token toldOnce tape_fed tape_length tape_tokens tape_at tape_sorts tape_contents tape_starts a1 a2 Q) : gM l D Y yX5_takeNumber cX5_takeNumber 4 (some .boolean) 2 42 0 0 [.ref h0, .int a1, .int a2] [oX5 h0 (.ref q_tape) lines faulty place (v_plan) token toldOnce, oX9 q_tape tape_fed (v_tape_bytes) (.ref q_tape_sorts) (.ref q_tape_starts) (.ref q_tape_contents) tape_length tape_tokens tape_at, aI Y q_tape_sorts 701 tape_sorts, aI Y q_tape_contents 701 tape_contents, aI Y q_tape_starts 701 tape_starts] (fun v w => ∃ r : Int32, ∃ faulty' : Int32, ∃ place' : Int32, ∃ token' : Int32, v = some (.int r) ∧ w = [oX5 h0 (.ref q_tape) lines faulty' place' (v_plan) token' toldOnce, oX9 q_tape tape_fed (v_tape_bytes) (.ref q_tape_sorts) (.ref q_tape_starts) (.ref q_tape_contents) tape_length tape_tokens tape_at, aI Y q_tape_sorts 701 tape_sorts, aI Y q_tape_contents 701 tape_contents, aI Y q_tape_starts 701 tape_starts] ∧ Q r faulty' place' token') := by
  refine gM_of (own := RX5) (by decide +kernel) rfl (Nat.le_of_ble_eq_true rfl) rfl (fun E C hR => ?_)
  unfold wX5_takeNumber at h
  refine g_aload_n C dX5_takeNumber_0 0 rfl ?_
  refine g_dup C dX5_takeNumber_1 rfl ?_
  refine g_get C inX5 0 rfl rfl 5 (by decide) wF_X5_36 rfl dX5_takeNumber_2 ?_
  refine g_iconst (v := 1) C dX5_takeNumber_5 rfl ?_
  refine g_iadd C dX5_takeNumber_6 ?_
  refine g_topi (fun token_1 etoken_1 => ?_)
  replace h := h token_1 etoken_1
  refine g_put C inX5 tyX5 tyX5_ok nmX5 0 rfl rfl 5 (by decide) wF_X5_36 rfl rfl rfl (Nat.le_of_ble_eq_true rfl) (ws' := [oX5 h0 (.ref q_tape) lines faulty place (v_plan) token_1 toldOnce, oX9 q_tape tape_fed (v_tape_bytes) (.ref q_tape_sorts) (.ref q_tape_starts) (.ref q_tape_contents) tape_length tape_tokens tape_at, aI Y q_tape_sorts 701 tape_sorts, aI Y q_tape_contents 701 tape_contents, aI Y q_tape_starts 701 tape_starts]) rfl dX5_takeNumber_7 ?_
  refine g_aload_n C dX5_takeNumber_10 0 rfl ?_
  refine g_get C inX5 0 rfl rfl 0 (by decide) wF_X5_12 rfl dX5_takeNumber_11 ?_
  refine g_aload_n C dX5_takeNumber_14 0 rfl ?_
  refine g_get C inX5 0 rfl rfl 5 (by decide) wF_X5_36 rfl dX5_takeNumber_15 ?_
  obtain ⟨P_1, hP, h⟩ := h
  refine g_callV (As := [.int token_1]) (rest := []) C (mX9_sortOf l D Y q_tape tape_fed v_tape_bytes q_tape_sorts (.ref q_tape_starts) (.ref q_tape_contents) tape_length tape_tokens tape_at tape_sorts token_1 P_1 hP) dX5_takeNumber_18 rfl wM_X5_48 wI_X9_sortOf wV_X9_sortOf wN_X9 wC_X9_sortOf (n := 1) (by decide +kernel) rfl (q0 := 0) rfl rfl ⟨Nat.le_of_ble_eq_true rfl, Nat.le_of_ble_eq_true rfl⟩ ⟨Nat.le_of_ble_eq_true rfl, Nat.le_of_ble_eq_true rfl⟩ (Nat.le_of_ble_eq_true rfl) [1, 2] [0, 3, 4] rfl rfl rfl (fun v wc hv => ?_)
  obtain ⟨rF_1, rfl, rfl, hq⟩ := hv
  replace h := h rF_1 hq
  refine gG.perm (ws' := [oX5 h0 (.ref q_tape) lines faulty place (v_plan) token_1 toldOnce, oX9 q_tape tape_fed (v_tape_bytes) (.ref q_tape_sorts) (.ref q_tape_starts) (.ref q_tape_contents) tape_length tape_tokens tape_at, aI Y q_tape_sorts 701 tape_sorts, aI Y q_tape_contents 701 tape_contents, aI Y q_tape_starts 701 tape_starts]) [0, 3, 4, 1, 2] rfl rfl ?_
  refine g_iconst (v := 2) C dX5_takeNumber_21 rfl ?_
  refine g_icmp_eq (tgt := 31) C dX5_takeNumber_22 (by decide) (fun c_1 => ?_) (fun c_1 => ?_)
  · replace h := h.1 c_1
    refine g_aload_n C dX5_takeNumber_31 0 rfl ?_
    refine g_get C inX5 0 rfl rfl 0 (by decide) wF_X5_12 rfl dX5_takeNumber_32 ?_
    refine g_aload_n C dX5_takeNumber_35 0 rfl ?_
    refine g_get C inX5 0 rfl rfl 5 (by decide) wF_X5_36 rfl dX5_takeNumber_36 ?_
    obtain ⟨P_2, hP, h⟩ := h
    refine g_callV (As := [.int token_1]) (rest := []) C (mX9_contentOf l D Y q_tape tape_fed v_tape_bytes (.ref q_tape_sorts) (.ref q_tape_starts) q_tape_contents tape_length tape_tokens tape_at tape_contents token_1 P_2 hP) dX5_takeNumber_39 rfl wM_X5_66 wI_X9_contentOf wV_X9_contentOf wN_X9 wC_X9_contentOf (n := 1) (by decide +kernel) rfl (q0 := 0) rfl rfl ⟨Nat.le_of_ble_eq_true rfl, Nat.le_of_ble_eq_true rfl⟩ ⟨Nat.le_of_ble_eq_true rfl, Nat.le_of_ble_eq_true rfl⟩ (Nat.le_of_ble_eq_true rfl) [1, 3] [0, 2, 4] rfl rfl rfl (fun v wc hv => ?_)
    obtain ⟨rF_2, rfl, rfl, hq⟩ := hv
    replace h := h rF_2 hq
    refine gG.perm (ws' := [oX5 h0 (.ref q_tape) lines faulty place (v_plan) token_1 toldOnce, oX9 q_tape tape_fed (v_tape_bytes) (.ref q_tape_sorts) (.ref q_tape_starts) (.ref q_tape_contents) tape_length tape_tokens tape_at, aI Y q_tape_sorts 701 tape_sorts, aI Y q_tape_contents 701 tape_contents, aI Y q_tape_starts 701 tape_starts]) [0, 3, 1, 4, 2] rfl rfl ?_
    refine g_istore_n (lv' := [(3, .int rF_2), (0, .ref h0), (1, .int a1), (2, .int a2)]) C dX5_takeNumber_42 (by decide) rfl ?_
    refine g_iload_n C dX5_takeNumber_43 0 rfl ?_
    refine g_iload_n C dX5_takeNumber_44 2 rfl ?_
    refine g_icmp_lt (tgt := 53) C dX5_takeNumber_45 (by decide) (fun c_2 => ?_) (fun c_2 => ?_)
    · replace h := h.1 c_2
      refine g_aload_n C dX5_takeNumber_53 1 rfl ?_
      refine g_iconst (v := 2) C dX5_takeNumber_54 rfl ?_
      obtain ⟨P_3, hP, h⟩ := h
      refine g_callV (As := [.int 2]) (rest := []) C (mX5_refuse l D Y h0 q_tape lines faulty place v_plan token_1 toldOnce tape_fed v_tape_bytes (.ref q_tape_sorts) q_tape_starts (.ref q_tape_contents) tape_length tape_tokens tape_at tape_starts 2 P_3 hP) dX5_takeNumber_55 rfl wM_X5_62 wI_X5_refuse wV_X5_refuse wN_X5 wC_X5_refuse (n := 1) (by decide +kernel) rfl (q0 := 0) rfl rfl ⟨Nat.le_of_ble_eq_true rfl, Nat.le_of_ble_eq_true rfl⟩ ⟨Nat.le_of_ble_eq_true rfl, Nat.le_of_ble_eq_true rfl⟩ (Nat.le_of_ble_eq_true rfl) [0, 1, 4] [2, 3] rfl rfl rfl (fun v wc hv => ?_)
      obtain ⟨rF_3, faulty_1, place_1, rfl, rfl, hq⟩ := hv
      replace h := h rF_3 faulty_1 place_1 hq
      refine gG.perm (ws' := [oX5 h0 (.ref q_tape) lines faulty_1 place_1 (v_plan) token_1 toldOnce, oX9 q_tape tape_fed (v_tape_bytes) (.ref q_tape_sorts) (.ref q_tape_starts) (.ref q_tape_contents) tape_length tape_tokens tape_at, aI Y q_tape_sorts 701 tape_sorts, aI Y q_tape_contents 701 tape_contents, aI Y q_tape_starts 701 tape_starts]) [2, 3, 0, 1, 4] rfl rfl ?_
      refine g_if_eq (tgt := 65) C dX5_takeNumber_58 (by decide) (fun c_3 => ?_) (fun c_3 => ?_)
      · replace h := h.1 c_3
        refine g_iconst (v := 0) C dX5_takeNumber_65 rfl ?_
        exact g_zret C hR (by decide) (Nat.le_of_ble_eq_true rfl) (Nat.le_of_ble_eq_true rfl) dX5_takeNumber_66 ⟨0, faulty_1, place_1, token_1, rfl, rfl, h⟩
      · replace h := h.2 c_3
        refine g_iconst (v := 1) C dX5_takeNumber_61 rfl ?_
        refine g_goto (tgt := 66) C dX5_takeNumber_62 (by decide) ?_
        exact g_zret C hR (by decide) (Nat.le_of_ble_eq_true rfl) (Nat.le_of_ble_eq_true rfl) dX5_takeNumber_66 ⟨1, faulty_1, place_1, token_1, rfl, rfl, h⟩
    · replace h := h.2 c_2
      refine g_iload_n C dX5_takeNumber_48 0 rfl ?_
      refine g_iload_n C dX5_takeNumber_49 3 rfl ?_
      refine g_icmp_le (tgt := 61) C dX5_takeNumber_50 (by decide) (fun c_4 => ?_) (fun c_4 => ?_)
      · replace h := h.1 c_4
        refine g_iconst (v := 1) C dX5_takeNumber_61 rfl ?_
        refine g_goto (tgt := 66) C dX5_takeNumber_62 (by decide) ?_
        exact g_zret C hR (by decide) (Nat.le_of_ble_eq_true rfl) (Nat.le_of_ble_eq_true rfl) dX5_takeNumber_66 ⟨1, faulty, place, token_1, rfl, rfl, h⟩
      · replace h := h.2 c_4
        refine g_aload_n C dX5_takeNumber_53 1 rfl ?_
        refine g_iconst (v := 2) C dX5_takeNumber_54 rfl ?_
        obtain ⟨P_4, hP, h⟩ := h
        refine g_callV (As := [.int 2]) (rest := []) C (mX5_refuse l D Y h0 q_tape lines faulty place v_plan token_1 toldOnce tape_fed v_tape_bytes (.ref q_tape_sorts) q_tape_starts (.ref q_tape_contents) tape_length tape_tokens tape_at tape_starts 2 P_4 hP) dX5_takeNumber_55 rfl wM_X5_62 wI_X5_refuse wV_X5_refuse wN_X5 wC_X5_refuse (n := 1) (by decide +kernel) rfl (q0 := 0) rfl rfl ⟨Nat.le_of_ble_eq_true rfl, Nat.le_of_ble_eq_true rfl⟩ ⟨Nat.le_of_ble_eq_true rfl, Nat.le_of_ble_eq_true rfl⟩ (Nat.le_of_ble_eq_true rfl) [0, 1, 4] [2, 3] rfl rfl rfl (fun v wc hv => ?_)
        obtain ⟨rF_4, faulty_2, place_2, rfl, rfl, hq⟩ := hv
        replace h := h rF_4 faulty_2 place_2 hq
        refine gG.perm (ws' := [oX5 h0 (.ref q_tape) lines faulty_2 place_2 (v_plan) token_1 toldOnce, oX9 q_tape tape_fed (v_tape_bytes) (.ref q_tape_sorts) (.ref q_tape_starts) (.ref q_tape_contents) tape_length tape_tokens tape_at, aI Y q_tape_sorts 701 tape_sorts, aI Y q_tape_contents 701 tape_contents, aI Y q_tape_starts 701 tape_starts]) [2, 3, 0, 1, 4] rfl rfl ?_
        refine g_if_eq (tgt := 65) C dX5_takeNumber_58 (by decide) (fun c_5 => ?_) (fun c_5 => ?_)
        · replace h := h.1 c_5
          refine g_iconst (v := 0) C dX5_takeNumber_65 rfl ?_
          exact g_zret C hR (by decide) (Nat.le_of_ble_eq_true rfl) (Nat.le_of_ble_eq_true rfl) dX5_takeNumber_66 ⟨0, faulty_2, place_2, token_1, rfl, rfl, h⟩
        · replace h := h.2 c_5
          refine g_iconst (v := 1) C dX5_takeNumber_61 rfl ?_
          refine g_goto (tgt := 66) C dX5_takeNumber_62 (by decide) ?_
          exact g_zret C hR (by decide) (Nat.le_of_ble_eq_true rfl) (Nat.le_of_ble_eq_true rfl) dX5_takeNumber_66 ⟨1, faulty_2, place_2, token_1, rfl, rfl, h⟩
  · replace h := h.2 c_1
    refine g_aload_n C dX5_takeNumber_25 0 rfl ?_
    refine g_iconst (v := 1) C dX5_takeNumber_26 rfl ?_
    obtain ⟨P_5, hP, h⟩ := h
    refine g_callV (As := [.int 1]) (rest := []) C (mX5_refuse l D Y h0 q_tape lines faulty place v_plan token_1 toldOnce tape_fed v_tape_bytes (.ref q_tape_sorts) q_tape_starts (.ref q_tape_contents) tape_length tape_tokens tape_at tape_starts 1 P_5 hP) dX5_takeNumber_27 rfl wM_X5_62 wI_X5_refuse wV_X5_refuse wN_X5 wC_X5_refuse (n := 1) (by decide +kernel) rfl (q0 := 0) rfl rfl ⟨Nat.le_of_ble_eq_true rfl, Nat.le_of_ble_eq_true rfl⟩ ⟨Nat.le_of_ble_eq_true rfl, Nat.le_of_ble_eq_true rfl⟩ (Nat.le_of_ble_eq_true rfl) [0, 1, 4] [2, 3] rfl rfl rfl (fun v wc hv => ?_)
    obtain ⟨rF_5, faulty_3, place_3, rfl, rfl, hq⟩ := hv
    replace h := h rF_5 faulty_3 place_3 hq
    refine gG.perm (ws' := [oX5 h0 (.ref q_tape) lines faulty_3 place_3 (v_plan) token_1 toldOnce, oX9 q_tape tape_fed (v_tape_bytes) (.ref q_tape_sorts) (.ref q_tape_starts) (.ref q_tape_contents) tape_length tape_tokens tape_at, aI Y q_tape_sorts 701 tape_sorts, aI Y q_tape_contents 701 tape_contents, aI Y q_tape_starts 701 tape_starts]) [2, 3, 0, 1, 4] rfl rfl ?_
    obtain ⟨hz, h⟩ := h
    exact g_zret C hR hz (Nat.le_of_ble_eq_true rfl) (Nat.le_of_ble_eq_true rfl) dX5_takeNumber_30 ⟨rF_5, faulty_3, place_3, token_1, rfl, rfl, h⟩
theorem dX5_readSetting_0 : decode cX5_readSetting 0 = .ok (.iconst 1, 1) := by decide +kernel
theorem dX5_readSetting_1 : decode cX5_readSetting 1 = .ok (.iload_n 1, 1) := by decide +kernel
theorem dX5_readSetting_2 : decode cX5_readSetting 2 = .ok (.bipush 10, 2) := by decide +kernel
theorem dX5_readSetting_4 : decode cX5_readSetting 4 = .ok (.isub, 1) := by decide +kernel
theorem dX5_readSetting_5 : decode cX5_readSetting 5 = .ok (.ishl, 1) := by decide +kernel
theorem dX5_readSetting_6 : decode cX5_readSetting 6 = .ok (.istore_n 2, 1) := by decide +kernel
theorem dX5_readSetting_7 : decode cX5_readSetting 7 = .ok (.aload_n 0, 1) := by decide +kernel
theorem dX5_readSetting_8 : decode cX5_readSetting 8 = .ok (.getfield 39, 3) := by decide +kernel
theorem dX5_readSetting_11 : decode cX5_readSetting 11 = .ok (.iload_n 2, 1) := by decide +kernel
theorem dX5_readSetting_12 : decode cX5_readSetting 12 = .ok (.iand, 1) := by decide +kernel
theorem dX5_readSetting_13 : decode cX5_readSetting 13 = .ok (.ifCond .eq 9, 3) := by decide +kernel
theorem dX5_readSetting_16 : decode cX5_readSetting 16 = .ok (.aload_n 0, 1) := by decide +kernel
theorem dX5_readSetting_17 : decode cX5_readSetting 17 = .ok (.iconst 3, 1) := by decide +kernel
theorem dX5_readSetting_18 : decode cX5_readSetting 18 = .ok (.invokevirtual 62, 3) := by decide +kernel
theorem dX5_readSetting_21 : decode cX5_readSetting 21 = .ok (.ireturn, 1) := by decide +kernel
theorem dX5_readSetting_22 : decode cX5_readSetting 22 = .ok (.aload_n 0, 1) := by decide +kernel
theorem dX5_readSetting_23 : decode cX5_readSetting 23 = .ok (.dup, 1) := by decide +kernel
theorem dX5_readSetting_24 : decode cX5_readSetting 24 = .ok (.getfield 39, 3) := by decide +kernel
theorem dX5_readSetting_27 : decode cX5_readSetting 27 = .ok (.iload_n 2, 1) := by decide +kernel
theorem dX5_readSetting_28 : decode cX5_readSetting 28 = .ok (.ior, 1) := by decide +kernel
theorem dX5_readSetting_29 : decode cX5_readSetting 29 = .ok (.putfield 39, 3) := by decide +kernel
theorem dX5_readSetting_32 : decode cX5_readSetting 32 = .ok (.iload_n 1, 1) := by decide +kernel
theorem dX5_readSetting_33 : decode cX5_readSetting 33 = .ok (.lookupswitch 91 #[(10, 27), (11, 59)], 27) := by decide +kernel
theorem dX5_readSetting_60 : decode cX5_readSetting 60 = .ok (.aload_n 0, 1) := by decide +kernel
theorem dX5_readSetting_61 : decode cX5_readSetting 61 = .ok (.iconst 1, 1) := by decide +kernel
theorem dX5_readSetting_62 : decode cX5_readSetting 62 = .ok (.ldc 96, 2) := by decide +kernel
theorem dX5_readSetting_64 : decode cX5_readSetting 64 = .ok (.invokevirtual 97, 3) := by decide +kernel
theorem dX5_readSetting_67 : decode cX5_readSetting 67 = .ok (.ifCond .ne 5, 3) := by decide +kernel
theorem dX5_readSetting_70 : decode cX5_readSetting 70 = .ok (.iconst 0, 1) := by decide +kernel
theorem dX5_readSetting_71 : decode cX5_readSetting 71 = .ok (.ireturn, 1) := by decide +kernel
theorem dX5_readSetting_72 : decode cX5_readSetting 72 = .ok (.aload_n 0, 1) := by decide +kernel
theorem dX5_readSetting_73 : decode cX5_readSetting 73 = .ok (.getfield 25, 3) := by decide +kernel
theorem dX5_readSetting_76 : decode cX5_readSetting 76 = .ok (.aload_n 0, 1) := by decide +kernel
theorem dX5_readSetting_77 : decode cX5_readSetting 77 = .ok (.getfield 12, 3) := by decide +kernel
theorem dX5_readSetting_80 : decode cX5_readSetting 80 = .ok (.aload_n 0, 1) := by decide +kernel
theorem dX5_readSetting_81 : decode cX5_readSetting 81 = .ok (.getfield 36, 3) := by decide +kernel
theorem dX5_readSetting_84 : decode cX5_readSetting 84 = .ok (.invokevirtual 66, 3) := by decide +kernel
theorem dX5_readSetting_87 : decode cX5_readSetting 87 = .ok (.putfield 101, 3) := by decide +kernel
theorem dX5_readSetting_90 : decode cX5_readSetting 90 = .ok (.iconst 1, 1) := by decide +kernel
theorem dX5_readSetting_91 : decode cX5_readSetting 91 = .ok (.ireturn, 1) := by decide +kernel
theorem dX5_readSetting_92 : decode cX5_readSetting 92 = .ok (.aload_n 0, 1) := by decide +kernel
theorem dX5_readSetting_93 : decode cX5_readSetting 93 = .ok (.iconst 2, 1) := by decide +kernel
theorem dX5_readSetting_94 : decode cX5_readSetting 94 = .ok (.ldc 104, 2) := by decide +kernel
theorem dX5_readSetting_96 : decode cX5_readSetting 96 = .ok (.invokevirtual 97, 3) := by decide +kernel
theorem dX5_readSetting_99 : decode cX5_readSetting 99 = .ok (.ifCond .ne 5, 3) := by decide +kernel
theorem dX5_readSetting_102 : decode cX5_readSetting 102 = .ok (.iconst 0, 1) := by decide +kernel
theorem dX5_readSetting_103 : decode cX5_readSetting 103 = .ok (.ireturn, 1) := by decide +kernel
theorem dX5_readSetting_104 : decode cX5_readSetting 104 = .ok (.aload_n 0, 1) := by decide +kernel
theorem dX5_readSetting_105 : decode cX5_readSetting 105 = .ok (.getfield 25, 3) := by decide +kernel
theorem dX5_readSetting_108 : decode cX5_readSetting 108 = .ok (.aload_n 0, 1) := by decide +kernel
theorem dX5_readSetting_109 : decode cX5_readSetting 109 = .ok (.getfield 12, 3) := by decide +kernel
theorem dX5_readSetting_112 : decode cX5_readSetting 112 = .ok (.aload_n 0, 1) := by decide +kernel
theorem dX5_readSetting_113 : decode cX5_readSetting 113 = .ok (.getfield 36, 3) := by decide +kernel
theorem dX5_readSetting_116 : decode cX5_readSetting 116 = .ok (.invokevirtual 66, 3) := by decide +kernel
theorem dX5_readSetting_119 : decode cX5_readSetting 119 = .ok (.putfield 105, 3) := by decide +kernel
theorem dX5_readSetting_122 : decode cX5_readSetting 122 = .ok (.iconst 1, 1) := by decide +kernel
theorem dX5_readSetting_123 : decode cX5_readSetting 123 = .ok (.ireturn, 1) := by decide +kernel
theorem dX5_readSetting_124 : decode cX5_readSetting 124 = .ok (.aload_n 0, 1) := by decide +kernel
theorem dX5_readSetting_125 : decode cX5_readSetting 125 = .ok (.iconst 0, 1) := by decide +kernel
theorem dX5_readSetting_126 : decode cX5_readSetting 126 = .ok (.ldc 108, 2) := by decide +kernel
theorem dX5_readSetting_128 : decode cX5_readSetting 128 = .ok (.invokevirtual 97, 3) := by decide +kernel
theorem dX5_readSetting_131 : decode cX5_readSetting 131 = .ok (.ifCond .ne 5, 3) := by decide +kernel
theorem dX5_readSetting_134 : decode cX5_readSetting 134 = .ok (.iconst 0, 1) := by decide +kernel
theorem dX5_readSetting_135 : decode cX5_readSetting 135 = .ok (.ireturn, 1) := by decide +kernel
theorem dX5_readSetting_136 : decode cX5_readSetting 136 = .ok (.aload_n 0, 1) := by decide +kernel
theorem dX5_readSetting_137 : decode cX5_readSetting 137 = .ok (.getfield 25, 3) := by decide +kernel
theorem dX5_readSetting_140 : decode cX5_readSetting 140 = .ok (.aload_n 0, 1) := by decide +kernel
theorem dX5_readSetting_141 : decode cX5_readSetting 141 = .ok (.getfield 12, 3) := by decide +kernel
theorem dX5_readSetting_144 : decode cX5_readSetting 144 = .ok (.aload_n 0, 1) := by decide +kernel
theorem dX5_readSetting_145 : decode cX5_readSetting 145 = .ok (.getfield 36, 3) := by decide +kernel
theorem dX5_readSetting_148 : decode cX5_readSetting 148 = .ok (.invokevirtual 66, 3) := by decide +kernel
theorem dX5_readSetting_151 : decode cX5_readSetting 151 = .ok (.putfield 109, 3) := by decide +kernel
theorem dX5_readSetting_154 : decode cX5_readSetting 154 = .ok (.iconst 1, 1) := by decide +kernel
theorem dX5_readSetting_155 : decode cX5_readSetting 155 = .ok (.ireturn, 1) := by decide +kernel
/-- QuotientSums$Reader.readSetting(I)Z -/
def wX5_readSetting (lines : Int32) (faulty : Int32) (place : Int32) (token : Int32) (toldOnce : Int32) (tape_fed : Int32) (tape_length : Int32) (tape_tokens : Int32) (tape_at : Int32) (tape_sorts : Nat → Int32) (tape_contents : Nat → Int32) (tape_starts : Nat → Int32) (plan_bound : Int32) (plan_modulus : Int32) (plan_seed : Int32) (plan_functions : Int32) (a1 : Int32) (Q : (Int32) → (Int32) → (Int32) → (Int32) → (Int32) → (Int32) → (Int32) → (Int32) → Prop) : Prop :=
  (∀ x2_1 : Int32, x2_1 = 1 <<< ((a1 - 10) &&& 31) → (((toldOnce &&& x2_1) = 0 → (∀ toldOnce_1 : Int32, toldOnce_1 = toldOnce ||| x2_1 → ((a1 = 10 → (∃ (P_1 : (Int32) → (Int32) → (Int32) → (Int32) → Prop), wX5_takeNumber lines faulty place token toldOnce_1 tape_fed tape_length tape_tokens tape_at tape_sorts tape_contents tape_starts 1 200000 P_1 ∧ ∀ (rF_1 : Int32) (faulty_1 : Int32) (place_1 : Int32) (token_1 : Int32), P_1 rF_1 faulty_1 place_1 token_1 → ((¬ rF_1 = 0 → (∃ (P_2 : (Int32) → Prop), wX9_contentOf tape_fed tape_length tape_tokens tape_at tape_contents token_1 P_2 ∧ ∀ (rF_2 : Int32), P_2 rF_2 → (Q 1 faulty_1 place_1 token_1 toldOnce_1 rF_2 plan_modulus plan_seed))) ∧ (rF_1 = 0 → (Q 0 faulty_1 place_1 token_1 toldOnce_1 plan_bound plan_modulus plan_seed))))) ∧ (¬ a1 = 10 → ((a1 = 11 → (∃ (P_3 : (Int32) → (Int32) → (Int32) → (Int32) → Prop), wX5_takeNumber lines faulty place token toldOnce_1 tape_fed tape_length tape_tokens tape_at tape_sorts tape_contents tape_starts 2 1000003 P_3 ∧ ∀ (rF_3 : Int32) (faulty_2 : Int32) (place_2 : Int32) (token_2 : Int32), P_3 rF_3 faulty_2 place_2 token_2 → ((¬ rF_3 = 0 → (∃ (P_4 : (Int32) → Prop), wX9_contentOf tape_fed tape_length tape_tokens tape_at tape_contents token_2 P_4 ∧ ∀ (rF_4 : Int32), P_4 rF_4 → (Q 1 faulty_2 place_2 token_2 toldOnce_1 plan_bound rF_4 plan_seed))) ∧ (rF_3 = 0 → (Q 0 faulty_2 place_2 token_2 toldOnce_1 plan_bound plan_modulus plan_seed))))) ∧ (¬ a1 = 11 → (∃ (P_5 : (Int32) → (Int32) → (Int32) → (Int32) → Prop), wX5_takeNumber lines faulty place token toldOnce_1 tape_fed tape_length tape_tokens tape_at tape_sorts tape_contents tape_starts 0 99999 P_5 ∧ ∀ (rF_5 : Int32) (faulty_3 : Int32) (place_3 : Int32) (token_3 : Int32), P_5 rF_5 faulty_3 place_3 token_3 → ((¬ rF_5 = 0 → (∃ (P_6 : (Int32) → Prop), wX9_contentOf tape_fed tape_length tape_tokens tape_at tape_contents token_3 P_6 ∧ ∀ (rF_6 : Int32), P_6 rF_6 → (Q 1 faulty_3 place_3 token_3 toldOnce_1 plan_bound plan_modulus rF_6))) ∧ (rF_5 = 0 → (Q 0 faulty_3 place_3 token_3 toldOnce_1 plan_bound plan_modulus plan_seed)))))))))) ∧ (¬ (toldOnce &&& x2_1) = 0 → (∃ (P_7 : (Int32) → (Int32) → (Int32) → Prop), wX5_refuse lines faulty place token toldOnce tape_fed tape_length tape_tokens tape_at tape_starts 3 P_7 ∧ ∀ (rF_7 : Int32) (faulty_4 : Int32) (place_4 : Int32), P_7 rF_7 faulty_4 place_4 → ((rF_7 = 0 ∨ rF_7 = 1) ∧ Q rF_7 faulty_4 place_4 token toldOnce plan_bound plan_modulus plan_seed)))))
set_option maxHeartbeats 4000000 in
set_option maxRecDepth 100000 in
theorem mX5_readSetting (l : Launch) (D : va_G) (Y : Nat → ClassId) (h0 : Nat) (q_tape : Nat) (lines : Int32) (faulty : Int32) (place : Int32) (q_plan : Nat) (token : Int32) (toldOnce : Int32) (tape_fed : Int32) (v_tape_bytes : Value) (q_tape_sorts : Nat) (q_tape_starts : Nat) (q_tape_contents : Nat) (tape_length : Int32) (tape_tokens : Int32) (tape_at : Int32) (tape_sorts : Nat → Int32) (tape_contents : Nat → Int32) (tape_starts : Nat → Int32) (plan_bound : Int32) (plan_modulus : Int32) (plan_seed : Int32) (plan_functions : Int32) (v_plan_names : Value) (v_plan_kinds : Value) (v_plan_firsts : Value) (v_plan_seconds : Value) (v_plan_degrees : Value) (v_plan_colours : Value) (v_plan_needs : Value) (v_plan_numbers : Value) (a1 : Int32) (Q : (Int32) → (Int32) → (Int32) → (Int32) → (Int32) → (Int32) → (Int32) → (Int32) → Prop) (h : wX5_readSetting lines faulty place token toldOnce tape_fed tape_length tape_tokens tape_at tape_sorts tape_contents tape_starts plan_bound plan_modulus plan_seed plan_functions a1 Q) : gM l D Y yX5_readSetting cX5_readSetting 3 (some .boolean) 3 65 0 0 [.ref h0, .int a1] [oX5 h0 (.ref q_tape) lines faulty place (.ref q_plan) token toldOnce, oX9 q_tape tape_fed (v_tape_bytes) (.ref q_tape_sorts) (.ref q_tape_starts) (.ref q_tape_contents) tape_length tape_tokens tape_at, aI Y q_tape_sorts 701 tape_sorts, aI Y q_tape_contents 701 tape_contents, aI Y q_tape_starts 701 tape_starts, oX3 q_plan plan_bound plan_modulus plan_seed plan_functions (v_plan_names) (v_plan_kinds) (v_plan_firsts) (v_plan_seconds) (v_plan_degrees) (v_plan_colours) (v_plan_needs) (v_plan_numbers)] (fun v w => ∃ r : Int32, ∃ faulty' : Int32, ∃ place' : Int32, ∃ token' : Int32, ∃ toldOnce' : Int32, ∃ plan_bound' : Int32, ∃ plan_modulus' : Int32, ∃ plan_seed' : Int32, v = some (.int r) ∧ w = [oX5 h0 (.ref q_tape) lines faulty' place' (.ref q_plan) token' toldOnce', oX9 q_tape tape_fed (v_tape_bytes) (.ref q_tape_sorts) (.ref q_tape_starts) (.ref q_tape_contents) tape_length tape_tokens tape_at, aI Y q_tape_sorts 701 tape_sorts, aI Y q_tape_contents 701 tape_contents, aI Y q_tape_starts 701 tape_starts, oX3 q_plan plan_bound' plan_modulus' plan_seed' plan_functions (v_plan_names) (v_plan_kinds) (v_plan_firsts) (v_plan_seconds) (v_plan_degrees) (v_plan_colours) (v_plan_needs) (v_plan_numbers)] ∧ Q r faulty' place' token' toldOnce' plan_bound' plan_modulus' plan_seed') := by
  refine gM_of (own := RX5) (by decide +kernel) rfl (Nat.le_of_ble_eq_true rfl) rfl (fun E C hR => ?_)
  unfold wX5_readSetting at h
  refine g_iconst (v := 1) C dX5_readSetting_0 rfl ?_
  refine g_iload_n C dX5_readSetting_1 1 rfl ?_
  refine g_bipush (v := 10) C dX5_readSetting_2 rfl ?_
  refine g_isub C dX5_readSetting_4 ?_
  refine g_ishl C dX5_readSetting_5 ?_
  refine g_topi (fun x2_1 ex2_1 => ?_)
  replace h := h x2_1 ex2_1
  refine g_istore_n (lv' := [(2, .int x2_1), (0, .ref h0), (1, .int a1)]) C dX5_readSetting_6 (by decide) rfl ?_
  refine g_aload_n C dX5_readSetting_7 1 rfl ?_
  refine g_get C inX5 0 rfl rfl 6 (by decide) wF_X5_39 rfl dX5_readSetting_8 ?_
  refine g_iload_n C dX5_readSetting_11 0 rfl ?_
  refine g_iand C dX5_readSetting_12 ?_
  refine g_if_eq (tgt := 22) C dX5_readSetting_13 (by decide) (fun c_1 => ?_) (fun c_1 => ?_)
  · replace h := h.1 c_1
    refine g_aload_n C dX5_readSetting_22 1 rfl ?_
    refine g_dup C dX5_readSetting_23 rfl ?_
    refine g_get C inX5 0 rfl rfl 6 (by decide) wF_X5_39 rfl dX5_readSetting_24 ?_
    refine g_iload_n C dX5_readSetting_27 0 rfl ?_
    refine g_ior C dX5_readSetting_28 ?_
    refine g_topi (fun toldOnce_1 etoldOnce_1 => ?_)
    replace h := h toldOnce_1 etoldOnce_1
    refine g_put C inX5 tyX5 tyX5_ok nmX5 0 rfl rfl 6 (by decide) wF_X5_39 rfl rfl rfl (Nat.le_of_ble_eq_true rfl) (ws' := [oX5 h0 (.ref q_tape) lines faulty place (.ref q_plan) token toldOnce_1, oX9 q_tape tape_fed (v_tape_bytes) (.ref q_tape_sorts) (.ref q_tape_starts) (.ref q_tape_contents) tape_length tape_tokens tape_at, aI Y q_tape_sorts 701 tape_sorts, aI Y q_tape_contents 701 tape_contents, aI Y q_tape_starts 701 tape_starts, oX3 q_plan plan_bound plan_modulus plan_seed plan_functions (v_plan_names) (v_plan_kinds) (v_plan_firsts) (v_plan_seconds) (v_plan_degrees) (v_plan_colours) (v_plan_needs) (v_plan_numbers)]) rfl dX5_readSetting_29 ?_
    refine g_iload_n C dX5_readSetting_32 2 rfl ?_
    by_cases c_2 : a1 = 10
    · replace h := h.1 c_2
      refine g_lookI (v := 10) (tgt := 60) C dX5_readSetting_33 c_2 (by decide) rfl (by decide) ?_
      refine g_aload_n C dX5_readSetting_60 1 rfl ?_
      refine g_iconst (v := 1) C dX5_readSetting_61 rfl ?_
      refine g_ldc C dX5_readSetting_62 wK_X5_96 ?_
      obtain ⟨P_1, hP, h⟩ := h
      refine g_callV (As := [.int 1, .int 200000]) (rest := []) C (mX5_takeNumber l D Y h0 q_tape lines faulty place (.ref q_plan) token toldOnce_1 tape_fed v_tape_bytes q_tape_sorts q_tape_starts q_tape_contents tape_length tape_tokens tape_at tape_sorts tape_contents tape_starts 1 200000 P_1 hP) dX5_readSetting_64 rfl wM_X5_97 wI_X5_takeNumber wV_X5_takeNumber wN_X5 wC_X5_takeNumber (n := 2) (by decide +kernel) rfl (q0 := 0) rfl rfl ⟨Nat.le_of_ble_eq_true rfl, Nat.le_of_ble_eq_true rfl⟩ ⟨Nat.le_of_ble_eq_true rfl, Nat.le_of_ble_eq_true rfl⟩ (Nat.le_of_ble_eq_true rfl) [0, 1, 2, 3, 4] [5] rfl rfl rfl (fun v wc hv => ?_)
      obtain ⟨rF_1, faulty_1, place_1, token_1, rfl, rfl, hq⟩ := hv
      replace h := h rF_1 faulty_1 place_1 token_1 hq
      refine gG.perm (ws' := [oX5 h0 (.ref q_tape) lines faulty_1 place_1 (.ref q_plan) token_1 toldOnce_1, oX9 q_tape tape_fed (v_tape_bytes) (.ref q_tape_sorts) (.ref q_tape_starts) (.ref q_tape_contents) tape_length tape_tokens tape_at, aI Y q_tape_sorts 701 tape_sorts, aI Y q_tape_contents 701 tape_contents, aI Y q_tape_starts 701 tape_starts, oX3 q_plan plan_bound plan_modulus plan_seed plan_functions (v_plan_names) (v_plan_kinds) (v_plan_firsts) (v_plan_seconds) (v_plan_degrees) (v_plan_colours) (v_plan_needs) (v_plan_numbers)]) [1, 2, 3, 4, 5, 0] rfl rfl ?_
      refine g_if_ne (tgt := 72) C dX5_readSetting_67 (by decide) (fun c_3 => ?_) (fun c_3 => ?_)
      · replace h := h.1 c_3
        refine g_aload_n C dX5_readSetting_72 1 rfl ?_
        refine g_get C inX5 0 rfl rfl 4 (by decide) wF_X5_25 rfl dX5_readSetting_73 ?_
        refine g_aload_n C dX5_readSetting_76 1 rfl ?_
        refine g_get C inX5 0 rfl rfl 0 (by decide) wF_X5_12 rfl dX5_readSetting_77 ?_
        refine g_aload_n C dX5_readSetting_80 1 rfl ?_
        refine g_get C inX5 0 rfl rfl 5 (by decide) wF_X5_36 rfl dX5_readSetting_81 ?_
        obtain ⟨P_2, hP, h⟩ := h
        refine g_callV (As := [.int token_1]) (rest := [.ref q_plan]) C (mX9_contentOf l D Y q_tape tape_fed v_tape_bytes (.ref q_tape_sorts) (.ref q_tape_starts) q_tape_contents tape_length tape_tokens tape_at tape_contents token_1 P_2 hP) dX5_readSetting_84 rfl wM_X5_66 wI_X9_contentOf wV_X9_contentOf wN_X9 wC_X9_contentOf (n := 1) (by decide +kernel) rfl (q0 := 0) rfl rfl ⟨Nat.le_of_ble_eq_true rfl, Nat.le_of_ble_eq_true rfl⟩ ⟨Nat.le_of_ble_eq_true rfl, Nat.le_of_ble_eq_true rfl⟩ (Nat.le_of_ble_eq_true rfl) [1, 3] [0, 2, 4, 5] rfl rfl rfl (fun v wc hv => ?_)
        obtain ⟨rF_2, rfl, rfl, hq⟩ := hv
        replace h := h rF_2 hq
        refine gG.perm (ws' := [oX5 h0 (.ref q_tape) lines faulty_1 place_1 (.ref q_plan) token_1 toldOnce_1, oX9 q_tape tape_fed (v_tape_bytes) (.ref q_tape_sorts) (.ref q_tape_starts) (.ref q_tape_contents) tape_length tape_tokens tape_at, aI Y q_tape_sorts 701 tape_sorts, aI Y q_tape_contents 701 tape_contents, aI Y q_tape_starts 701 tape_starts, oX3 q_plan plan_bound plan_modulus plan_seed plan_functions (v_plan_names) (v_plan_kinds) (v_plan_firsts) (v_plan_seconds) (v_plan_degrees) (v_plan_colours) (v_plan_needs) (v_plan_numbers)]) [0, 4, 1, 5, 2, 3] rfl rfl ?_
        refine g_put C inX3 tyX3 tyX3_ok nmX3 5 rfl rfl 0 (by decide) wF_X5_101 rfl rfl rfl (Nat.le_of_ble_eq_true rfl) (ws' := [oX5 h0 (.ref q_tape) lines faulty_1 place_1 (.ref q_plan) token_1 toldOnce_1, oX9 q_tape tape_fed (v_tape_bytes) (.ref q_tape_sorts) (.ref q_tape_starts) (.ref q_tape_contents) tape_length tape_tokens tape_at, aI Y q_tape_sorts 701 tape_sorts, aI Y q_tape_contents 701 tape_contents, aI Y q_tape_starts 701 tape_starts, oX3 q_plan rF_2 plan_modulus plan_seed plan_functions (v_plan_names) (v_plan_kinds) (v_plan_firsts) (v_plan_seconds) (v_plan_degrees) (v_plan_colours) (v_plan_needs) (v_plan_numbers)]) rfl dX5_readSetting_87 ?_
        refine g_iconst (v := 1) C dX5_readSetting_90 rfl ?_
        exact g_zret C hR (by decide) (Nat.le_of_ble_eq_true rfl) (Nat.le_of_ble_eq_true rfl) dX5_readSetting_91 ⟨1, faulty_1, place_1, token_1, toldOnce_1, rF_2, plan_modulus, plan_seed, rfl, rfl, h⟩
      · replace h := h.2 c_3
        refine g_iconst (v := 0) C dX5_readSetting_70 rfl ?_
        exact g_zret C hR (by decide) (Nat.le_of_ble_eq_true rfl) (Nat.le_of_ble_eq_true rfl) dX5_readSetting_71 ⟨0, faulty_1, place_1, token_1, toldOnce_1, plan_bound, plan_modulus, plan_seed, rfl, rfl, h⟩
    · replace h := h.2 c_2
      by_cases c_4 : a1 = 11
      · replace h := h.1 c_4
        refine g_lookI (v := 11) (tgt := 92) C dX5_readSetting_33 c_4 (by decide) rfl (by decide) ?_
        refine g_aload_n C dX5_readSetting_92 1 rfl ?_
        refine g_iconst (v := 2) C dX5_readSetting_93 rfl ?_
        refine g_ldc C dX5_readSetting_94 wK_X5_104 ?_
        obtain ⟨P_3, hP, h⟩ := h
        refine g_callV (As := [.int 2, .int 1000003]) (rest := []) C (mX5_takeNumber l D Y h0 q_tape lines faulty place (.ref q_plan) token toldOnce_1 tape_fed v_tape_bytes q_tape_sorts q_tape_starts q_tape_contents tape_length tape_tokens tape_at tape_sorts tape_contents tape_starts 2 1000003 P_3 hP) dX5_readSetting_96 rfl wM_X5_97 wI_X5_takeNumber wV_X5_takeNumber wN_X5 wC_X5_takeNumber (n := 2) (by decide +kernel) rfl (q0 := 0) rfl rfl ⟨Nat.le_of_ble_eq_true rfl, Nat.le_of_ble_eq_true rfl⟩ ⟨Nat.le_of_ble_eq_true rfl, Nat.le_of_ble_eq_true rfl⟩ (Nat.le_of_ble_eq_true rfl) [0, 1, 2, 3, 4] [5] rfl rfl rfl (fun v wc hv => ?_)
        obtain ⟨rF_3, faulty_2, place_2, token_2, rfl, rfl, hq⟩ := hv
        replace h := h rF_3 faulty_2 place_2 token_2 hq
        refine gG.perm (ws' := [oX5 h0 (.ref q_tape) lines faulty_2 place_2 (.ref q_plan) token_2 toldOnce_1, oX9 q_tape tape_fed (v_tape_bytes) (.ref q_tape_sorts) (.ref q_tape_starts) (.ref q_tape_contents) tape_length tape_tokens tape_at, aI Y q_tape_sorts 701 tape_sorts, aI Y q_tape_contents 701 tape_contents, aI Y q_tape_starts 701 tape_starts, oX3 q_plan plan_bound plan_modulus plan_seed plan_functions (v_plan_names) (v_plan_kinds) (v_plan_firsts) (v_plan_seconds) (v_plan_degrees) (v_plan_colours) (v_plan_needs) (v_plan_numbers)]) [1, 2, 3, 4, 5, 0] rfl rfl ?_
        refine g_if_ne (tgt := 104) C dX5_readSetting_99 (by decide) (fun c_5 => ?_) (fun c_5 => ?_)
        · replace h := h.1 c_5
          refine g_aload_n C dX5_readSetting_104 1 rfl ?_
          refine g_get C inX5 0 rfl rfl 4 (by decide) wF_X5_25 rfl dX5_readSetting_105 ?_
          refine g_aload_n C dX5_readSetting_108 1 rfl ?_
          refine g_get C inX5 0 rfl rfl 0 (by decide) wF_X5_12 rfl dX5_readSetting_109 ?_
          refine g_aload_n C dX5_readSetting_112 1 rfl ?_
          refine g_get C inX5 0 rfl rfl 5 (by decide) wF_X5_36 rfl dX5_readSetting_113 ?_
          obtain ⟨P_4, hP, h⟩ := h
          refine g_callV (As := [.int token_2]) (rest := [.ref q_plan]) C (mX9_contentOf l D Y q_tape tape_fed v_tape_bytes (.ref q_tape_sorts) (.ref q_tape_starts) q_tape_contents tape_length tape_tokens tape_at tape_contents token_2 P_4 hP) dX5_readSetting_116 rfl wM_X5_66 wI_X9_contentOf wV_X9_contentOf wN_X9 wC_X9_contentOf (n := 1) (by decide +kernel) rfl (q0 := 0) rfl rfl ⟨Nat.le_of_ble_eq_true rfl, Nat.le_of_ble_eq_true rfl⟩ ⟨Nat.le_of_ble_eq_true rfl, Nat.le_of_ble_eq_true rfl⟩ (Nat.le_of_ble_eq_true rfl) [1, 3] [0, 2, 4, 5] rfl rfl rfl (fun v wc hv => ?_)
          obtain ⟨rF_4, rfl, rfl, hq⟩ := hv
          replace h := h rF_4 hq
          refine gG.perm (ws' := [oX5 h0 (.ref q_tape) lines faulty_2 place_2 (.ref q_plan) token_2 toldOnce_1, oX9 q_tape tape_fed (v_tape_bytes) (.ref q_tape_sorts) (.ref q_tape_starts) (.ref q_tape_contents) tape_length tape_tokens tape_at, aI Y q_tape_sorts 701 tape_sorts, aI Y q_tape_contents 701 tape_contents, aI Y q_tape_starts 701 tape_starts, oX3 q_plan plan_bound plan_modulus plan_seed plan_functions (v_plan_names) (v_plan_kinds) (v_plan_firsts) (v_plan_seconds) (v_plan_degrees) (v_plan_colours) (v_plan_needs) (v_plan_numbers)]) [0, 4, 1, 5, 2, 3] rfl rfl ?_
          refine g_put C inX3 tyX3 tyX3_ok nmX3 5 rfl rfl 1 (by decide) wF_X5_105 rfl rfl rfl (Nat.le_of_ble_eq_true rfl) (ws' := [oX5 h0 (.ref q_tape) lines faulty_2 place_2 (.ref q_plan) token_2 toldOnce_1, oX9 q_tape tape_fed (v_tape_bytes) (.ref q_tape_sorts) (.ref q_tape_starts) (.ref q_tape_contents) tape_length tape_tokens tape_at, aI Y q_tape_sorts 701 tape_sorts, aI Y q_tape_contents 701 tape_contents, aI Y q_tape_starts 701 tape_starts, oX3 q_plan plan_bound rF_4 plan_seed plan_functions (v_plan_names) (v_plan_kinds) (v_plan_firsts) (v_plan_seconds) (v_plan_degrees) (v_plan_colours) (v_plan_needs) (v_plan_numbers)]) rfl dX5_readSetting_119 ?_
          refine g_iconst (v := 1) C dX5_readSetting_122 rfl ?_
          exact g_zret C hR (by decide) (Nat.le_of_ble_eq_true rfl) (Nat.le_of_ble_eq_true rfl) dX5_readSetting_123 ⟨1, faulty_2, place_2, token_2, toldOnce_1, plan_bound, rF_4, plan_seed, rfl, rfl, h⟩
        · replace h := h.2 c_5
          refine g_iconst (v := 0) C dX5_readSetting_102 rfl ?_
          exact g_zret C hR (by decide) (Nat.le_of_ble_eq_true rfl) (Nat.le_of_ble_eq_true rfl) dX5_readSetting_103 ⟨0, faulty_2, place_2, token_2, toldOnce_1, plan_bound, plan_modulus, plan_seed, rfl, rfl, h⟩
      · replace h := h.2 c_4
        refine g_lookO (tgt := 124) C dX5_readSetting_33 [10, 11] (by decide) (by decide) (by exact ⟨c_2, c_4, trivial⟩) (by decide) ?_
        refine g_aload_n C dX5_readSetting_124 1 rfl ?_
        refine g_iconst (v := 0) C dX5_readSetting_125 rfl ?_
        refine g_ldc C dX5_readSetting_126 wK_X5_108 ?_
        obtain ⟨P_5, hP, h⟩ := h
        refine g_callV (As := [.int 0, .int 99999]) (rest := []) C (mX5_takeNumber l D Y h0 q_tape lines faulty place (.ref q_plan) token toldOnce_1 tape_fed v_tape_bytes q_tape_sorts q_tape_starts q_tape_contents tape_length tape_tokens tape_at tape_sorts tape_contents tape_starts 0 99999 P_5 hP) dX5_readSetting_128 rfl wM_X5_97 wI_X5_takeNumber wV_X5_takeNumber wN_X5 wC_X5_takeNumber (n := 2) (by decide +kernel) rfl (q0 := 0) rfl rfl ⟨Nat.le_of_ble_eq_true rfl, Nat.le_of_ble_eq_true rfl⟩ ⟨Nat.le_of_ble_eq_true rfl, Nat.le_of_ble_eq_true rfl⟩ (Nat.le_of_ble_eq_true rfl) [0, 1, 2, 3, 4] [5] rfl rfl rfl (fun v wc hv => ?_)
        obtain ⟨rF_5, faulty_3, place_3, token_3, rfl, rfl, hq⟩ := hv
        replace h := h rF_5 faulty_3 place_3 token_3 hq
        refine gG.perm (ws' := [oX5 h0 (.ref q_tape) lines faulty_3 place_3 (.ref q_plan) token_3 toldOnce_1, oX9 q_tape tape_fed (v_tape_bytes) (.ref q_tape_sorts) (.ref q_tape_starts) (.ref q_tape_contents) tape_length tape_tokens tape_at, aI Y q_tape_sorts 701 tape_sorts, aI Y q_tape_contents 701 tape_contents, aI Y q_tape_starts 701 tape_starts, oX3 q_plan plan_bound plan_modulus plan_seed plan_functions (v_plan_names) (v_plan_kinds) (v_plan_firsts) (v_plan_seconds) (v_plan_degrees) (v_plan_colours) (v_plan_needs) (v_plan_numbers)]) [1, 2, 3, 4, 5, 0] rfl rfl ?_
        refine g_if_ne (tgt := 136) C dX5_readSetting_131 (by decide) (fun c_6 => ?_) (fun c_6 => ?_)
        · replace h := h.1 c_6
          refine g_aload_n C dX5_readSetting_136 1 rfl ?_
          refine g_get C inX5 0 rfl rfl 4 (by decide) wF_X5_25 rfl dX5_readSetting_137 ?_
          refine g_aload_n C dX5_readSetting_140 1 rfl ?_
          refine g_get C inX5 0 rfl rfl 0 (by decide) wF_X5_12 rfl dX5_readSetting_141 ?_
          refine g_aload_n C dX5_readSetting_144 1 rfl ?_
          refine g_get C inX5 0 rfl rfl 5 (by decide) wF_X5_36 rfl dX5_readSetting_145 ?_
          obtain ⟨P_6, hP, h⟩ := h
          refine g_callV (As := [.int token_3]) (rest := [.ref q_plan]) C (mX9_contentOf l D Y q_tape tape_fed v_tape_bytes (.ref q_tape_sorts) (.ref q_tape_starts) q_tape_contents tape_length tape_tokens tape_at tape_contents token_3 P_6 hP) dX5_readSetting_148 rfl wM_X5_66 wI_X9_contentOf wV_X9_contentOf wN_X9 wC_X9_contentOf (n := 1) (by decide +kernel) rfl (q0 := 0) rfl rfl ⟨Nat.le_of_ble_eq_true rfl, Nat.le_of_ble_eq_true rfl⟩ ⟨Nat.le_of_ble_eq_true rfl, Nat.le_of_ble_eq_true rfl⟩ (Nat.le_of_ble_eq_true rfl) [1, 3] [0, 2, 4, 5] rfl rfl rfl (fun v wc hv => ?_)
          obtain ⟨rF_6, rfl, rfl, hq⟩ := hv
          replace h := h rF_6 hq
          refine gG.perm (ws' := [oX5 h0 (.ref q_tape) lines faulty_3 place_3 (.ref q_plan) token_3 toldOnce_1, oX9 q_tape tape_fed (v_tape_bytes) (.ref q_tape_sorts) (.ref q_tape_starts) (.ref q_tape_contents) tape_length tape_tokens tape_at, aI Y q_tape_sorts 701 tape_sorts, aI Y q_tape_contents 701 tape_contents, aI Y q_tape_starts 701 tape_starts, oX3 q_plan plan_bound plan_modulus plan_seed plan_functions (v_plan_names) (v_plan_kinds) (v_plan_firsts) (v_plan_seconds) (v_plan_degrees) (v_plan_colours) (v_plan_needs) (v_plan_numbers)]) [0, 4, 1, 5, 2, 3] rfl rfl ?_
          refine g_put C inX3 tyX3 tyX3_ok nmX3 5 rfl rfl 2 (by decide) wF_X5_109 rfl rfl rfl (Nat.le_of_ble_eq_true rfl) (ws' := [oX5 h0 (.ref q_tape) lines faulty_3 place_3 (.ref q_plan) token_3 toldOnce_1, oX9 q_tape tape_fed (v_tape_bytes) (.ref q_tape_sorts) (.ref q_tape_starts) (.ref q_tape_contents) tape_length tape_tokens tape_at, aI Y q_tape_sorts 701 tape_sorts, aI Y q_tape_contents 701 tape_contents, aI Y q_tape_starts 701 tape_starts, oX3 q_plan plan_bound plan_modulus rF_6 plan_functions (v_plan_names) (v_plan_kinds) (v_plan_firsts) (v_plan_seconds) (v_plan_degrees) (v_plan_colours) (v_plan_needs) (v_plan_numbers)]) rfl dX5_readSetting_151 ?_
          refine g_iconst (v := 1) C dX5_readSetting_154 rfl ?_
          exact g_zret C hR (by decide) (Nat.le_of_ble_eq_true rfl) (Nat.le_of_ble_eq_true rfl) dX5_readSetting_155 ⟨1, faulty_3, place_3, token_3, toldOnce_1, plan_bound, plan_modulus, rF_6, rfl, rfl, h⟩
        · replace h := h.2 c_6
          refine g_iconst (v := 0) C dX5_readSetting_134 rfl ?_
          exact g_zret C hR (by decide) (Nat.le_of_ble_eq_true rfl) (Nat.le_of_ble_eq_true rfl) dX5_readSetting_135 ⟨0, faulty_3, place_3, token_3, toldOnce_1, plan_bound, plan_modulus, plan_seed, rfl, rfl, h⟩
  · replace h := h.2 c_1
    refine g_aload_n C dX5_readSetting_16 1 rfl ?_
    refine g_iconst (v := 3) C dX5_readSetting_17 rfl ?_
    obtain ⟨P_7, hP, h⟩ := h
    refine g_callV (As := [.int 3]) (rest := []) C (mX5_refuse l D Y h0 q_tape lines faulty place (.ref q_plan) token toldOnce tape_fed v_tape_bytes (.ref q_tape_sorts) q_tape_starts (.ref q_tape_contents) tape_length tape_tokens tape_at tape_starts 3 P_7 hP) dX5_readSetting_18 rfl wM_X5_62 wI_X5_refuse wV_X5_refuse wN_X5 wC_X5_refuse (n := 1) (by decide +kernel) rfl (q0 := 0) rfl rfl ⟨Nat.le_of_ble_eq_true rfl, Nat.le_of_ble_eq_true rfl⟩ ⟨Nat.le_of_ble_eq_true rfl, Nat.le_of_ble_eq_true rfl⟩ (Nat.le_of_ble_eq_true rfl) [0, 1, 4] [2, 3, 5] rfl rfl rfl (fun v wc hv => ?_)
    obtain ⟨rF_7, faulty_4, place_4, rfl, rfl, hq⟩ := hv
    replace h := h rF_7 faulty_4 place_4 hq
    refine gG.perm (ws' := [oX5 h0 (.ref q_tape) lines faulty_4 place_4 (.ref q_plan) token toldOnce, oX9 q_tape tape_fed (v_tape_bytes) (.ref q_tape_sorts) (.ref q_tape_starts) (.ref q_tape_contents) tape_length tape_tokens tape_at, aI Y q_tape_sorts 701 tape_sorts, aI Y q_tape_contents 701 tape_contents, aI Y q_tape_starts 701 tape_starts, oX3 q_plan plan_bound plan_modulus plan_seed plan_functions (v_plan_names) (v_plan_kinds) (v_plan_firsts) (v_plan_seconds) (v_plan_degrees) (v_plan_colours) (v_plan_needs) (v_plan_numbers)]) [3, 4, 0, 1, 5, 2] rfl rfl ?_
    obtain ⟨hz, h⟩ := h
    exact g_zret C hR hz (Nat.le_of_ble_eq_true rfl) (Nat.le_of_ble_eq_true rfl) dX5_readSetting_21 ⟨rF_7, faulty_4, place_4, token, toldOnce, plan_bound, plan_modulus, plan_seed, rfl, rfl, h⟩
theorem dX5_takeNewName_0 : decode cX5_takeNewName 0 = .ok (.aload_n 0, 1) := by decide +kernel
theorem dX5_takeNewName_1 : decode cX5_takeNewName 1 = .ok (.getfield 25, 3) := by decide +kernel
theorem dX5_takeNewName_4 : decode cX5_takeNewName 4 = .ok (.invokevirtual 72, 3) := by decide +kernel
theorem dX5_takeNewName_7 : decode cX5_takeNewName 7 = .ok (.ifCond .eq 11, 3) := by decide +kernel
theorem dX5_takeNewName_10 : decode cX5_takeNewName 10 = .ok (.aload_n 0, 1) := by decide +kernel
theorem dX5_takeNewName_11 : decode cX5_takeNewName 11 = .ok (.iconst 2, 1) := by decide +kernel
theorem dX5_takeNewName_12 : decode cX5_takeNewName 12 = .ok (.invokevirtual 62, 3) := by decide +kernel
theorem dX5_takeNewName_15 : decode cX5_takeNewName 15 = .ok (.pop, 1) := by decide +kernel
theorem dX5_takeNewName_16 : decode cX5_takeNewName 16 = .ok (.iconst (-1), 1) := by decide +kernel
theorem dX5_takeNewName_17 : decode cX5_takeNewName 17 = .ok (.ireturn, 1) := by decide +kernel
theorem dX5_takeNewName_18 : decode cX5_takeNewName 18 = .ok (.aload_n 0, 1) := by decide +kernel
theorem dX5_takeNewName_19 : decode cX5_takeNewName 19 = .ok (.dup, 1) := by decide +kernel
theorem dX5_takeNewName_20 : decode cX5_takeNewName 20 = .ok (.getfield 36, 3) := by decide +kernel
theorem dX5_takeNewName_23 : decode cX5_takeNewName 23 = .ok (.iconst 1, 1) := by decide +kernel
theorem dX5_takeNewName_24 : decode cX5_takeNewName 24 = .ok (.iadd, 1) := by decide +kernel
theorem dX5_takeNewName_25 : decode cX5_takeNewName 25 = .ok (.putfield 36, 3) := by decide +kernel
theorem dX5_takeNewName_28 : decode cX5_takeNewName 28 = .ok (.aload_n 0, 1) := by decide +kernel
theorem dX5_takeNewName_29 : decode cX5_takeNewName 29 = .ok (.getfield 12, 3) := by decide +kernel
theorem dX5_takeNewName_32 : decode cX5_takeNewName 32 = .ok (.aload_n 0, 1) := by decide +kernel
theorem dX5_takeNewName_33 : decode cX5_takeNewName 33 = .ok (.getfield 36, 3) := by decide +kernel
theorem dX5_takeNewName_36 : decode cX5_takeNewName 36 = .ok (.invokevirtual 48, 3) := by decide +kernel
theorem dX5_takeNewName_39 : decode cX5_takeNewName 39 = .ok (.iconst 4, 1) := by decide +kernel
theorem dX5_takeNewName_40 : decode cX5_takeNewName 40 = .ok (.if_icmp .eq 11, 3) := by decide +kernel
theorem dX5_takeNewName_43 : decode cX5_takeNewName 43 = .ok (.aload_n 0, 1) := by decide +kernel
theorem dX5_takeNewName_44 : decode cX5_takeNewName 44 = .ok (.iconst 1, 1) := by decide +kernel
theorem dX5_takeNewName_45 : decode cX5_takeNewName 45 = .ok (.invokevirtual 62, 3) := by decide +kernel
theorem dX5_takeNewName_48 : decode cX5_takeNewName 48 = .ok (.pop, 1) := by decide +kernel
theorem dX5_takeNewName_49 : decode cX5_takeNewName 49 = .ok (.iconst (-1), 1) := by decide +kernel
theorem dX5_takeNewName_50 : decode cX5_takeNewName 50 = .ok (.ireturn, 1) := by decide +kernel
theorem dX5_takeNewName_51 : decode cX5_takeNewName 51 = .ok (.aload_n 0, 1) := by decide +kernel
theorem dX5_takeNewName_52 : decode cX5_takeNewName 52 = .ok (.getfield 12, 3) := by decide +kernel
theorem dX5_takeNewName_55 : decode cX5_takeNewName 55 = .ok (.aload_n 0, 1) := by decide +kernel
theorem dX5_takeNewName_56 : decode cX5_takeNewName 56 = .ok (.getfield 36, 3) := by decide +kernel
theorem dX5_takeNewName_59 : decode cX5_takeNewName 59 = .ok (.invokevirtual 66, 3) := by decide +kernel
theorem dX5_takeNewName_62 : decode cX5_takeNewName 62 = .ok (.istore_n 1, 1) := by decide +kernel
theorem dX5_takeNewName_63 : decode cX5_takeNewName 63 = .ok (.aload_n 0, 1) := by decide +kernel
theorem dX5_takeNewName_64 : decode cX5_takeNewName 64 = .ok (.getfield 25, 3) := by decide +kernel
theorem dX5_takeNewName_67 : decode cX5_takeNewName 67 = .ok (.iload_n 1, 1) := by decide +kernel
theorem dX5_takeNewName_68 : decode cX5_takeNewName 68 = .ok (.invokevirtual 75, 3) := by decide +kernel
theorem dX5_takeNewName_71 : decode cX5_takeNewName 71 = .ok (.iconst (-1), 1) := by decide +kernel
theorem dX5_takeNewName_72 : decode cX5_takeNewName 72 = .ok (.if_icmp .eq 11, 3) := by decide +kernel
theorem dX5_takeNewName_75 : decode cX5_takeNewName 75 = .ok (.aload_n 0, 1) := by decide +kernel
theorem dX5_takeNewName_76 : decode cX5_takeNewName 76 = .ok (.iconst 3, 1) := by decide +kernel
theorem dX5_takeNewName_77 : decode cX5_takeNewName 77 = .ok (.invokevirtual 62, 3) := by decide +kernel
theorem dX5_takeNewName_80 : decode cX5_takeNewName 80 = .ok (.pop, 1) := by decide +kernel
theorem dX5_takeNewName_81 : decode cX5_takeNewName 81 = .ok (.iconst (-1), 1) := by decide +kernel
theorem dX5_takeNewName_82 : decode cX5_takeNewName 82 = .ok (.ireturn, 1) := by decide +kernel
theorem dX5_takeNewName_83 : decode cX5_takeNewName 83 = .ok (.iload_n 1, 1) := by decide +kernel
theorem dX5_takeNewName_84 : decode cX5_takeNewName 84 = .ok (.ireturn, 1) := by decide +kernel
/-- QuotientSums$Reader.takeNewName()I -/
def wX5_takeNewName (lines : Int32) (faulty : Int32) (place : Int32) (token : Int32) (toldOnce : Int32) (plan_bound : Int32) (plan_modulus : Int32) (plan_seed : Int32) (plan_functions : Int32) (tape_fed : Int32) (tape_length : Int32) (tape_tokens : Int32) (tape_at : Int32) (tape_sorts : Nat → Int32) (tape_contents : Nat → Int32) (plan_names : Nat → Int32) (tape_starts : Nat → Int32)  (Q : (Int32) → (Int32) → (Int32) → (Int32) → Prop) : Prop :=
  (∃ (P_1 : (Int32) → Prop), wX3_isFilled plan_bound plan_modulus plan_seed plan_functions P_1 ∧ ∀ (rF_1 : Int32), P_1 rF_1 → ((rF_1 = 0 → (∀ token_1 : Int32, token_1 = token + 1 → ∃ (P_2 : (Int32) → Prop), wX9_sortOf tape_fed tape_length tape_tokens tape_at tape_sorts token_1 P_2 ∧ ∀ (rF_2 : Int32), P_2 rF_2 → ((rF_2 = 4 → (∃ (P_3 : (Int32) → Prop), wX9_contentOf tape_fed tape_length tape_tokens tape_at tape_contents token_1 P_3 ∧ ∀ (rF_3 : Int32), P_3 rF_3 → ∃ (P_4 : (Int32) → Prop), wX3_find plan_bound plan_modulus plan_seed plan_functions plan_names rF_3 P_4 ∧ ∀ (rF_4 : Int32), P_4 rF_4 → ((rF_4 = (-1) → (Q rF_3 faulty place token_1)) ∧ (¬ rF_4 = (-1) → (∃ (P_5 : (Int32) → (Int32) → (Int32) → Prop), wX5_refuse lines faulty place token_1 toldOnce tape_fed tape_length tape_tokens tape_at tape_starts 3 P_5 ∧ ∀ (rF_5 : Int32) (faulty_1 : Int32) (place_1 : Int32), P_5 rF_5 faulty_1 place_1 → (Q (-1) faulty_1 place_1 token_1)))))) ∧ (¬ rF_2 = 4 → (∃ (P_6 : (Int32) → (Int32) → (Int32) → Prop), wX5_refuse lines faulty place token_1 toldOnce tape_fed tape_length tape_tokens tape_at tape_starts 1 P_6 ∧ ∀ (rF_6 : Int32) (faulty_2 : Int32) (place_2 : Int32), P_6 rF_6 faulty_2 place_2 → (Q (-1) faulty_2 place_2 token_1)))))) ∧ (¬ rF_1 = 0 → (∃ (P_7 : (Int32) → (Int32) → (Int32) → Prop), wX5_refuse lines faulty place token toldOnce tape_fed tape_length tape_tokens tape_at tape_starts 2 P_7 ∧ ∀ (rF_7 : Int32) (faulty_3 : Int32) (place_3 : Int32), P_7 rF_7 faulty_3 place_3 → (Q (-1) faulty_3 place_3 token)))))
set_option maxHeartbeats 4000000 in
set_option maxRecDepth 100000 in
theorem mX5_takeNewName (l : Launch) (D : va_G) (Y : Nat → ClassId) (h0 : Nat) (q_tape : Nat) (lines : Int32) (faulty : Int32) (place : Int32) (q_plan : Nat) (token : Int32) (toldOnce : Int32) (plan_bound : Int32) (plan_modulus : Int32) (plan_seed : Int32) (plan_functions : Int32) (q_plan_names : Nat) (v_plan_kinds : Value) (v_plan_firsts : Value) (v_plan_seconds : Value) (v_plan_degrees : Value) (v_plan_colours : Value) (v_plan_needs : Value) (v_plan_numbers : Value) (tape_fed : Int32) (v_tape_bytes : Value) (q_tape_sorts : Nat) (q_tape_starts : Nat) (q_tape_contents : Nat) (tape_length : Int32) (tape_tokens : Int32) (tape_at : Int32) (tape_sorts : Nat → Int32) (tape_contents : Nat → Int32) (plan_names : Nat → Int32) (tape_starts : Nat → Int32)  (Q : (Int32) → (Int32) → (Int32) → (Int32) → Prop) (h : wX5_takeNewName lines faulty place token toldOnce plan_bound plan_modulus plan_seed plan_functions tape_fed tape_length tape_tokens tape_at tape_sorts tape_contents plan_names tape_starts Q) : gM l D Y yX5_takeNewName cX5_takeNewName 2 (some .int) 2 42 0 0 [.ref h0] [oX5 h0 (.ref q_tape) lines faulty place (.ref q_plan) token toldOnce, oX3 q_plan plan_bound plan_modulus plan_seed plan_functions (.ref q_plan_names) (v_plan_kinds) (v_plan_firsts) (v_plan_seconds) (v_plan_degrees) (v_plan_colours) (v_plan_needs) (v_plan_numbers), oX9 q_tape tape_fed (v_tape_bytes) (.ref q_tape_sorts) (.ref q_tape_starts) (.ref q_tape_contents) tape_length tape_tokens tape_at, aI Y q_tape_sorts 701 tape_sorts, aI Y q_tape_contents 701 tape_contents, aI Y q_plan_names 12 plan_names, aI Y q_tape_starts 701 tape_starts] (fun v w => ∃ r : Int32, ∃ faulty' : Int32, ∃ place' : Int32, ∃ token' : Int32, v = some (.int r) ∧ w = [oX5 h0 (.ref q_tape) lines faulty' place' (.ref q_plan) token' toldOnce, oX3 q_plan plan_bound plan_modulus plan_seed plan_functions (.ref q_plan_names) (v_plan_kinds) (v_plan_firsts) (v_plan_seconds) (v_plan_degrees) (v_plan_colours) (v_plan_needs) (v_plan_numbers), oX9 q_tape tape_fed (v_tape_bytes) (.ref q_tape_sorts) (.ref q_tape_starts) (.ref q_tape_contents) tape_length tape_tokens tape_at, aI Y q_tape_sorts 701 tape_sorts, aI Y q_tape_contents 701 tape_contents, aI Y q_plan_names 12 plan_names, aI Y q_tape_starts 701 tape_starts] ∧ Q r faulty' place' token') := by
  refine gM_of (own := RX5) (by decide +kernel) rfl (Nat.le_of_ble_eq_true rfl) rfl (fun E C hR => ?_)
  unfold wX5_takeNewName at h
  refine g_aload_n C dX5_takeNewName_0 0 rfl ?_
  refine g_get C inX5 0 rfl rfl 4 (by decide) wF_X5_25 rfl dX5_takeNewName_1 ?_
  obtain ⟨P_1, hP, h⟩ := h
  refine g_callV (As := []) (rest := []) C (mX3_isFilled l D Y q_plan plan_bound plan_modulus plan_seed plan_functions (.ref q_plan_names) v_plan_kinds v_plan_firsts v_plan_seconds v_plan_degrees v_plan_colours v_plan_needs v_plan_numbers P_1 hP) dX5_takeNewName_4 rfl wM_X5_72 wI_X3_isFilled wV_X3_isFilled wN_X3 wC_X3_isFilled (n := 0) (by decide +kernel) rfl (q0 := 0) rfl rfl ⟨Nat.le_of_ble_eq_true rfl, Nat.le_of_ble_eq_true rfl⟩ ⟨Nat.le_of_ble_eq_true rfl, Nat.le_of_ble_eq_true rfl⟩ (Nat.le_of_ble_eq_true rfl) [1] [0, 2, 3, 4, 5, 6] rfl rfl rfl (fun v wc hv => ?_)
  obtain ⟨rF_1, rfl, rfl, hq⟩ := hv
  replace h := h rF_1 hq
  refine gG.perm (ws' := [oX5 h0 (.ref q_tape) lines faulty place (.ref q_plan) token toldOnce, oX3 q_plan plan_bound plan_modulus plan_seed plan_functions (.ref q_plan_names) (v_plan_kinds) (v_plan_firsts) (v_plan_seconds) (v_plan_degrees) (v_plan_colours) (v_plan_needs) (v_plan_numbers), oX9 q_tape tape_fed (v_tape_bytes) (.ref q_tape_sorts) (.ref q_tape_starts) (.ref q_tape_contents) tape_length tape_tokens tape_at, aI Y q_tape_sorts 701 tape_sorts, aI Y q_tape_contents 701 tape_contents, aI Y q_plan_names 12 plan_names, aI Y q_tape_starts 701 tape_starts]) [0, 6, 1, 2, 3, 4, 5] rfl rfl ?_
  refine g_if_eq (tgt := 18) C dX5_takeNewName_7 (by decide) (fun c_1 => ?_) (fun c_1 => ?_)
  · replace h := h.1 c_1
    refine g_aload_n C dX5_takeNewName_18 0 rfl ?_
    refine g_dup C dX5_takeNewName_19 rfl ?_
    refine g_get C inX5 0 rfl rfl 5 (by decide) wF_X5_36 rfl dX5_takeNewName_20 ?_
    refine g_iconst (v := 1) C dX5_takeNewName_23 rfl ?_
    refine g_iadd C dX5_takeNewName_24 ?_
    refine g_topi (fun token_1 etoken_1 => ?_)
    replace h := h token_1 etoken_1
    refine g_put C inX5 tyX5 tyX5_ok nmX5 0 rfl rfl 5 (by decide) wF_X5_36 rfl rfl rfl (Nat.le_of_ble_eq_true rfl) (ws' := [oX5 h0 (.ref q_tape) lines faulty place (.ref q_plan) token_1 toldOnce, oX3 q_plan plan_bound plan_modulus plan_seed plan_functions (.ref q_plan_names) (v_plan_kinds) (v_plan_firsts) (v_plan_seconds) (v_plan_degrees) (v_plan_colours) (v_plan_needs) (v_plan_numbers), oX9 q_tape tape_fed (v_tape_bytes) (.ref q_tape_sorts) (.ref q_tape_starts) (.ref q_tape_contents) tape_length tape_tokens tape_at, aI Y q_tape_sorts 701 tape_sorts, aI Y q_tape_contents 701 tape_contents, aI Y q_plan_names 12 plan_names, aI Y q_tape_starts 701 tape_starts]) rfl dX5_takeNewName_25 ?_
    refine g_aload_n C dX5_takeNewName_28 0 rfl ?_
    refine g_get C inX5 0 rfl rfl 0 (by decide) wF_X5_12 rfl dX5_takeNewName_29 ?_
    refine g_aload_n C dX5_takeNewName_32 0 rfl ?_
    refine g_get C inX5 0 rfl rfl 5 (by decide) wF_X5_36 rfl dX5_takeNewName_33 ?_
    obtain ⟨P_2, hP, h⟩ := h
    refine g_callV (As := [.int token_1]) (rest := []) C (mX9_sortOf l D Y q_tape tape_fed v_tape_bytes q_tape_sorts (.ref q_tape_starts) (.ref q_tape_contents) tape_length tape_tokens tape_at tape_sorts token_1 P_2 hP) dX5_takeNewName_36 rfl wM_X5_48 wI_X9_sortOf wV_X9_sortOf wN_X9 wC_X9_sortOf (n := 1) (by decide +kernel) rfl (q0 := 0) rfl rfl ⟨Nat.le_of_ble_eq_true rfl, Nat.le_of_ble_eq_true rfl⟩ ⟨Nat.le_of_ble_eq_true rfl, Nat.le_of_ble_eq_true rfl⟩ (Nat.le_of_ble_eq_true rfl) [2, 3] [0, 1, 4, 5, 6] rfl rfl rfl (fun v wc hv => ?_)
    obtain ⟨rF_2, rfl, rfl, hq⟩ := hv
    replace h := h rF_2 hq
    refine gG.perm (ws' := [oX5 h0 (.ref q_tape) lines faulty place (.ref q_plan) token_1 toldOnce, oX3 q_plan plan_bound plan_modulus plan_seed plan_functions (.ref q_plan_names) (v_plan_kinds) (v_plan_firsts) (v_plan_seconds) (v_plan_degrees) (v_plan_colours) (v_plan_needs) (v_plan_numbers), oX9 q_tape tape_fed (v_tape_bytes) (.ref q_tape_sorts) (.ref q_tape_starts) (.ref q_tape_contents) tape_length tape_tokens tape_at, aI Y q_tape_sorts 701 tape_sorts, aI Y q_tape_contents 701 tape_contents, aI Y q_plan_names 12 plan_names, aI Y q_tape_starts 701 tape_starts]) [0, 1, 5, 6, 2, 3, 4] rfl rfl ?_
    refine g_iconst (v := 4) C dX5_takeNewName_39 rfl ?_
    refine g_icmp_eq (tgt := 51) C dX5_takeNewName_40 (by decide) (fun c_2 => ?_) (fun c_2 => ?_)
    · replace h := h.1 c_2
      refine g_aload_n C dX5_takeNewName_51 0 rfl ?_
      refine g_get C inX5 0 rfl rfl 0 (by decide) wF_X5_12 rfl dX5_takeNewName_52 ?_
      refine g_aload_n C dX5_takeNewName_55 0 rfl ?_
      refine g_get C inX5 0 rfl rfl 5 (by decide) wF_X5_36 rfl dX5_takeNewName_56 ?_
      obtain ⟨P_3, hP, h⟩ := h
      refine g_callV (As := [.int token_1]) (rest := []) C (mX9_contentOf l D Y q_tape tape_fed v_tape_bytes (.ref q_tape_sorts) (.ref q_tape_starts) q_tape_contents tape_length tape_tokens tape_at tape_contents token_1 P_3 hP) dX5_takeNewName_59 rfl wM_X5_66 wI_X9_contentOf wV_X9_contentOf wN_X9 wC_X9_contentOf (n := 1) (by decide +kernel) rfl (q0 := 0) rfl rfl ⟨Nat.le_of_ble_eq_true rfl, Nat.le_of_ble_eq_true rfl⟩ ⟨Nat.le_of_ble_eq_true rfl, Nat.le_of_ble_eq_true rfl⟩ (Nat.le_of_ble_eq_true rfl) [2, 4] [0, 1, 3, 5, 6] rfl rfl rfl (fun v wc hv => ?_)
      obtain ⟨rF_3, rfl, rfl, hq⟩ := hv
      replace h := h rF_3 hq
      refine gG.perm (ws' := [oX5 h0 (.ref q_tape) lines faulty place (.ref q_plan) token_1 toldOnce, oX3 q_plan plan_bound plan_modulus plan_seed plan_functions (.ref q_plan_names) (v_plan_kinds) (v_plan_firsts) (v_plan_seconds) (v_plan_degrees) (v_plan_colours) (v_plan_needs) (v_plan_numbers), oX9 q_tape tape_fed (v_tape_bytes) (.ref q_tape_sorts) (.ref q_tape_starts) (.ref q_tape_contents) tape_length tape_tokens tape_at, aI Y q_tape_sorts 701 tape_sorts, aI Y q_tape_contents 701 tape_contents, aI Y q_plan_names 12 plan_names, aI Y q_tape_starts 701 tape_starts]) [0, 1, 5, 2, 6, 3, 4] rfl rfl ?_
      refine g_istore_n (lv' := [(1, .int rF_3), (0, .ref h0)]) C dX5_takeNewName_62 (by decide) rfl ?_
      refine g_aload_n C dX5_takeNewName_63 1 rfl ?_
      refine g_get C inX5 0 rfl rfl 4 (by decide) wF_X5_25 rfl dX5_takeNewName_64 ?_
      refine g_iload_n C dX5_takeNewName_67 0 rfl ?_
      obtain ⟨P_4, hP, h⟩ := h
      refine g_callV (As := [.int rF_3]) (rest := []) C (mX3_find l D Y q_plan plan_bound plan_modulus plan_seed plan_functions q_plan_names v_plan_kinds v_plan_firsts v_plan_seconds v_plan_degrees v_plan_colours v_plan_needs v_plan_numbers plan_names rF_3 P_4 hP) dX5_takeNewName_68 rfl wM_X5_75 wI_X3_find wV_X3_find wN_X3 wC_X3_find (n := 1) (by decide +kernel) rfl (q0 := 0) rfl rfl ⟨Nat.le_of_ble_eq_true rfl, Nat.le_of_ble_eq_true rfl⟩ ⟨Nat.le_of_ble_eq_true rfl, Nat.le_of_ble_eq_true rfl⟩ (Nat.le_of_ble_eq_true rfl) [1, 5] [0, 2, 3, 4, 6] rfl rfl rfl (fun v wc hv => ?_)
      obtain ⟨rF_4, rfl, rfl, hq⟩ := hv
      replace h := h rF_4 hq
      refine gG.perm (ws' := [oX5 h0 (.ref q_tape) lines faulty place (.ref q_plan) token_1 toldOnce, oX3 q_plan plan_bound plan_modulus plan_seed plan_functions (.ref q_plan_names) (v_plan_kinds) (v_plan_firsts) (v_plan_seconds) (v_plan_degrees) (v_plan_colours) (v_plan_needs) (v_plan_numbers), oX9 q_tape tape_fed (v_tape_bytes) (.ref q_tape_sorts) (.ref q_tape_starts) (.ref q_tape_contents) tape_length tape_tokens tape_at, aI Y q_tape_sorts 701 tape_sorts, aI Y q_tape_contents 701 tape_contents, aI Y q_plan_names 12 plan_names, aI Y q_tape_starts 701 tape_starts]) [0, 5, 1, 2, 3, 6, 4] rfl rfl ?_
      refine g_iconst (v := (-1)) C dX5_takeNewName_71 rfl ?_
      refine g_icmp_eq (tgt := 83) C dX5_takeNewName_72 (by decide) (fun c_3 => ?_) (fun c_3 => ?_)
      · replace h := h.1 c_3
        refine g_iload_n C dX5_takeNewName_83 0 rfl ?_
        exact g_iret C hR (Nat.le_of_ble_eq_true rfl) (Nat.le_of_ble_eq_true rfl) dX5_takeNewName_84 ⟨rF_3, faulty, place, token_1, rfl, rfl, h⟩
      · replace h := h.2 c_3
        refine g_aload_n C dX5_takeNewName_75 1 rfl ?_
        refine g_iconst (v := 3) C dX5_takeNewName_76 rfl ?_
        obtain ⟨P_5, hP, h⟩ := h
        refine g_callV (As := [.int 3]) (rest := []) C (mX5_refuse l D Y h0 q_tape lines faulty place (.ref q_plan) token_1 toldOnce tape_fed v_tape_bytes (.ref q_tape_sorts) q_tape_starts (.ref q_tape_contents) tape_length tape_tokens tape_at tape_starts 3 P_5 hP) dX5_takeNewName_77 rfl wM_X5_62 wI_X5_refuse wV_X5_refuse wN_X5 wC_X5_refuse (n := 1) (by decide +kernel) rfl (q0 := 0) rfl rfl ⟨Nat.le_of_ble_eq_true rfl, Nat.le_of_ble_eq_true rfl⟩ ⟨Nat.le_of_ble_eq_true rfl, Nat.le_of_ble_eq_true rfl⟩ (Nat.le_of_ble_eq_true rfl) [0, 2, 6] [1, 3, 4, 5] rfl rfl rfl (fun v wc hv => ?_)
        obtain ⟨rF_5, faulty_1, place_1, rfl, rfl, hq⟩ := hv
        replace h := h rF_5 faulty_1 place_1 hq
        refine gG.perm (ws' := [oX5 h0 (.ref q_tape) lines faulty_1 place_1 (.ref q_plan) token_1 toldOnce, oX3 q_plan plan_bound plan_modulus plan_seed plan_functions (.ref q_plan_names) (v_plan_kinds) (v_plan_firsts) (v_plan_seconds) (v_plan_degrees) (v_plan_colours) (v_plan_needs) (v_plan_numbers), oX9 q_tape tape_fed (v_tape_bytes) (.ref q_tape_sorts) (.ref q_tape_starts) (.ref q_tape_contents) tape_length tape_tokens tape_at, aI Y q_tape_sorts 701 tape_sorts, aI Y q_tape_contents 701 tape_contents, aI Y q_plan_names 12 plan_names, aI Y q_tape_starts 701 tape_starts]) [4, 0, 5, 1, 2, 3, 6] rfl rfl ?_
        refine g_pop C dX5_takeNewName_80 rfl ?_
        refine g_iconst (v := (-1)) C dX5_takeNewName_81 rfl ?_
        exact g_iret C hR (Nat.le_of_ble_eq_true rfl) (Nat.le_of_ble_eq_true rfl) dX5_takeNewName_82 ⟨(-1), faulty_1, place_1, token_1, rfl, rfl, h⟩
    · replace h := h.2 c_2
      refine g_aload_n C dX5_takeNewName_43 0 rfl ?_
      refine g_iconst (v := 1) C dX5_takeNewName_44 rfl ?_
      obtain ⟨P_6, hP, h⟩ := h
      refine g_callV (As := [.int 1]) (rest := []) C (mX5_refuse l D Y h0 q_tape lines faulty place (.ref q_plan) token_1 toldOnce tape_fed v_tape_bytes (.ref q_tape_sorts) q_tape_starts (.ref q_tape_contents) tape_length tape_tokens tape_at tape_starts 1 P_6 hP) dX5_takeNewName_45 rfl wM_X5_62 wI_X5_refuse wV_X5_refuse wN_X5 wC_X5_refuse (n := 1) (by decide +kernel) rfl (q0 := 0) rfl rfl ⟨Nat.le_of_ble_eq_true rfl, Nat.le_of_ble_eq_true rfl⟩ ⟨Nat.le_of_ble_eq_true rfl, Nat.le_of_ble_eq_true rfl⟩ (Nat.le_of_ble_eq_true rfl) [0, 2, 6] [1, 3, 4, 5] rfl rfl rfl (fun v wc hv => ?_)
      obtain ⟨rF_6, faulty_2, place_2, rfl, rfl, hq⟩ := hv
      replace h := h rF_6 faulty_2 place_2 hq
      refine gG.perm (ws' := [oX5 h0 (.ref q_tape) lines faulty_2 place_2 (.ref q_plan) token_1 toldOnce, oX3 q_plan plan_bound plan_modulus plan_seed plan_functions (.ref q_plan_names) (v_plan_kinds) (v_plan_firsts) (v_plan_seconds) (v_plan_degrees) (v_plan_colours) (v_plan_needs) (v_plan_numbers), oX9 q_tape tape_fed (v_tape_bytes) (.ref q_tape_sorts) (.ref q_tape_starts) (.ref q_tape_contents) tape_length tape_tokens tape_at, aI Y q_tape_sorts 701 tape_sorts, aI Y q_tape_contents 701 tape_contents, aI Y q_plan_names 12 plan_names, aI Y q_tape_starts 701 tape_starts]) [4, 0, 5, 1, 2, 3, 6] rfl rfl ?_
      refine g_pop C dX5_takeNewName_48 rfl ?_
      refine g_iconst (v := (-1)) C dX5_takeNewName_49 rfl ?_
      exact g_iret C hR (Nat.le_of_ble_eq_true rfl) (Nat.le_of_ble_eq_true rfl) dX5_takeNewName_50 ⟨(-1), faulty_2, place_2, token_1, rfl, rfl, h⟩
  · replace h := h.2 c_1
    refine g_aload_n C dX5_takeNewName_10 0 rfl ?_
    refine g_iconst (v := 2) C dX5_takeNewName_11 rfl ?_
    obtain ⟨P_7, hP, h⟩ := h
    refine g_callV (As := [.int 2]) (rest := []) C (mX5_refuse l D Y h0 q_tape lines faulty place (.ref q_plan) token toldOnce tape_fed v_tape_bytes (.ref q_tape_sorts) q_tape_starts (.ref q_tape_contents) tape_length tape_tokens tape_at tape_starts 2 P_7 hP) dX5_takeNewName_12 rfl wM_X5_62 wI_X5_refuse wV_X5_refuse wN_X5 wC_X5_refuse (n := 1) (by decide +kernel) rfl (q0 := 0) rfl rfl ⟨Nat.le_of_ble_eq_true rfl, Nat.le_of_ble_eq_true rfl⟩ ⟨Nat.le_of_ble_eq_true rfl, Nat.le_of_ble_eq_true rfl⟩ (Nat.le_of_ble_eq_true rfl) [0, 2, 6] [1, 3, 4, 5] rfl rfl rfl (fun v wc hv => ?_)
    obtain ⟨rF_7, faulty_3, place_3, rfl, rfl, hq⟩ := hv
    replace h := h rF_7 faulty_3 place_3 hq
    refine gG.perm (ws' := [oX5 h0 (.ref q_tape) lines faulty_3 place_3 (.ref q_plan) token toldOnce, oX3 q_plan plan_bound plan_modulus plan_seed plan_functions (.ref q_plan_names) (v_plan_kinds) (v_plan_firsts) (v_plan_seconds) (v_plan_degrees) (v_plan_colours) (v_plan_needs) (v_plan_numbers), oX9 q_tape tape_fed (v_tape_bytes) (.ref q_tape_sorts) (.ref q_tape_starts) (.ref q_tape_contents) tape_length tape_tokens tape_at, aI Y q_tape_sorts 701 tape_sorts, aI Y q_tape_contents 701 tape_contents, aI Y q_plan_names 12 plan_names, aI Y q_tape_starts 701 tape_starts]) [4, 0, 5, 1, 2, 3, 6] rfl rfl ?_
    refine g_pop C dX5_takeNewName_15 rfl ?_
    refine g_iconst (v := (-1)) C dX5_takeNewName_16 rfl ?_
    exact g_iret C hR (Nat.le_of_ble_eq_true rfl) (Nat.le_of_ble_eq_true rfl) dX5_takeNewName_17 ⟨(-1), faulty_3, place_3, token, rfl, rfl, h⟩
theorem dX5_readOwn_0 : decode cX5_readOwn 0 = .ok (.aload_n 0, 1) := by decide +kernel
theorem dX5_readOwn_1 : decode cX5_readOwn 1 = .ok (.invokevirtual 130, 3) := by decide +kernel
theorem dX5_readOwn_4 : decode cX5_readOwn 4 = .ok (.istore_n 1, 1) := by decide +kernel
theorem dX5_readOwn_5 : decode cX5_readOwn 5 = .ok (.iload_n 1, 1) := by decide +kernel
theorem dX5_readOwn_6 : decode cX5_readOwn 6 = .ok (.iconst (-1), 1) := by decide +kernel
theorem dX5_readOwn_7 : decode cX5_readOwn 7 = .ok (.if_icmp .ne 5, 3) := by decide +kernel
theorem dX5_readOwn_10 : decode cX5_readOwn 10 = .ok (.iconst 0, 1) := by decide +kernel
theorem dX5_readOwn_11 : decode cX5_readOwn 11 = .ok (.ireturn, 1) := by decide +kernel
theorem dX5_readOwn_12 : decode cX5_readOwn 12 = .ok (.aload_n 0, 1) := by decide +kernel
theorem dX5_readOwn_13 : decode cX5_readOwn 13 = .ok (.getfield 25, 3) := by decide +kernel
theorem dX5_readOwn_16 : decode cX5_readOwn 16 = .ok (.iload_n 1, 1) := by decide +kernel
theorem dX5_readOwn_17 : decode cX5_readOwn 17 = .ok (.iconst 1, 1) := by decide +kernel
theorem dX5_readOwn_18 : decode cX5_readOwn 18 = .ok (.bipush (-2), 2) := by decide +kernel
theorem dX5_readOwn_20 : decode cX5_readOwn 20 = .ok (.bipush (-2), 2) := by decide +kernel
theorem dX5_readOwn_22 : decode cX5_readOwn 22 = .ok (.invokevirtual 133, 3) := by decide +kernel
theorem dX5_readOwn_25 : decode cX5_readOwn 25 = .ok (.istore_n 2, 1) := by decide +kernel
theorem dX5_readOwn_26 : decode cX5_readOwn 26 = .ok (.aload_n 0, 1) := by decide +kernel
theorem dX5_readOwn_27 : decode cX5_readOwn 27 = .ok (.getfield 25, 3) := by decide +kernel
theorem dX5_readOwn_30 : decode cX5_readOwn 30 = .ok (.getfield 137, 3) := by decide +kernel
theorem dX5_readOwn_33 : decode cX5_readOwn 33 = .ok (.iload_n 2, 1) := by decide +kernel
theorem dX5_readOwn_34 : decode cX5_readOwn 34 = .ok (.iconst 1, 1) := by decide +kernel
theorem dX5_readOwn_35 : decode cX5_readOwn 35 = .ok (.iastore, 1) := by decide +kernel
theorem dX5_readOwn_36 : decode cX5_readOwn 36 = .ok (.iconst 1, 1) := by decide +kernel
theorem dX5_readOwn_37 : decode cX5_readOwn 37 = .ok (.ireturn, 1) := by decide +kernel
/-- QuotientSums$Reader.readOwn()Z -/
def wX5_readOwn (lines : Int32) (faulty : Int32) (place : Int32) (token : Int32) (toldOnce : Int32) (plan_bound : Int32) (plan_modulus : Int32) (plan_seed : Int32) (plan_functions : Int32) (tape_fed : Int32) (tape_length : Int32) (tape_tokens : Int32) (tape_at : Int32) (tape_sorts : Nat → Int32) (tape_contents : Nat → Int32) (plan_names : Nat → Int32) (tape_starts : Nat → Int32) (plan_kinds : Nat → Int32) (plan_firsts : Nat → Int32) (plan_seconds : Nat → Int32) (plan_degrees : Nat → Int32) (plan_colours : Nat → Int32) (plan_needs : Nat → Int32)  (Q : (Int32) → (Int32) → (Int32) → (Int32) → (Int32) → (Nat → Int32) → (Nat → Int32) → (Nat → Int32) → (Nat → Int32) → (Nat → Int32) → (Nat → Int32) → (Nat → Int32) → Prop) : Prop :=
  (∃ (P_1 : (Int32) → (Int32) → (Int32) → (Int32) → Prop), wX5_takeNewName lines faulty place token toldOnce plan_bound plan_modulus plan_seed plan_functions tape_fed tape_length tape_tokens tape_at tape_sorts tape_contents plan_names tape_starts P_1 ∧ ∀ (rF_1 : Int32) (faulty_1 : Int32) (place_1 : Int32) (token_1 : Int32), P_1 rF_1 faulty_1 place_1 token_1 → ((¬ rF_1 = (-1) → (∃ (P_2 : (Int32) → (Int32) → (Nat → Int32) → (Nat → Int32) → (Nat → Int32) → (Nat → Int32) → (Nat → Int32) → (Nat → Int32) → (Nat → Int32) → Prop), wX3_add plan_bound plan_modulus plan_seed plan_functions plan_names plan_kinds plan_firsts plan_seconds plan_degrees plan_colours plan_needs rF_1 1 (-2) (-2) P_2 ∧ ∀ (rF_2 : Int32) (functions_1 : Int32) (names_1 : Nat → Int32) (kinds_1 : Nat → Int32) (firsts_1 : Nat → Int32) (seconds_1 : Nat → Int32) (degrees_1 : Nat → Int32) (colours_1 : Nat → Int32) (needs_1 : Nat → Int32), P_2 rF_2 functions_1 names_1 kinds_1 firsts_1 seconds_1 degrees_1 colours_1 needs_1 → vp_in rF_2 12 ∧ ∀ degrees_2 : Nat → Int32, degrees_2 = upd degrees_1 rF_2.toNatClampNeg 1 → (Q 1 faulty_1 place_1 token_1 functions_1 names_1 kinds_1 firsts_1 seconds_1 degrees_2 colours_1 needs_1))) ∧ (rF_1 = (-1) → (Q 0 faulty_1 place_1 token_1 plan_functions plan_names plan_kinds plan_firsts plan_seconds plan_degrees plan_colours plan_needs))))
set_option maxHeartbeats 4000000 in
set_option maxRecDepth 100000 in
theorem mX5_readOwn (l : Launch) (D : va_G) (Y : Nat → ClassId) (h0 : Nat) (q_tape : Nat) (lines : Int32) (faulty : Int32) (place : Int32) (q_plan : Nat) (token : Int32) (toldOnce : Int32) (plan_bound : Int32) (plan_modulus : Int32) (plan_seed : Int32) (plan_functions : Int32) (q_plan_names : Nat) (q_plan_kinds : Nat) (q_plan_firsts : Nat) (q_plan_seconds : Nat) (q_plan_degrees : Nat) (q_plan_colours : Nat) (q_plan_needs : Nat) (v_plan_numbers : Value) (tape_fed : Int32) (v_tape_bytes : Value) (q_tape_sorts : Nat) (q_tape_starts : Nat) (q_tape_contents : Nat) (tape_length : Int32) (tape_tokens : Int32) (tape_at : Int32) (tape_sorts : Nat → Int32) (tape_contents : Nat → Int32) (plan_names : Nat → Int32) (tape_starts : Nat → Int32) (plan_kinds : Nat → Int32) (plan_firsts : Nat → Int32) (plan_seconds : Nat → Int32) (plan_degrees : Nat → Int32) (plan_colours : Nat → Int32) (plan_needs : Nat → Int32)  (Q : (Int32) → (Int32) → (Int32) → (Int32) → (Int32) → (Nat → Int32) → (Nat → Int32) → (Nat → Int32) → (Nat → Int32) → (Nat → Int32) → (Nat → Int32) → (Nat → Int32) → Prop) (h : wX5_readOwn lines faulty place token toldOnce plan_bound plan_modulus plan_seed plan_functions tape_fed tape_length tape_tokens tape_at tape_sorts tape_contents plan_names tape_starts plan_kinds plan_firsts plan_seconds plan_degrees plan_colours plan_needs Q) : gM l D Y yX5_readOwn cX5_readOwn 3 (some .boolean) 3 63 0 0 [.ref h0] [oX5 h0 (.ref q_tape) lines faulty place (.ref q_plan) token toldOnce, oX3 q_plan plan_bound plan_modulus plan_seed plan_functions (.ref q_plan_names) (.ref q_plan_kinds) (.ref q_plan_firsts) (.ref q_plan_seconds) (.ref q_plan_degrees) (.ref q_plan_colours) (.ref q_plan_needs) (v_plan_numbers), oX9 q_tape tape_fed (v_tape_bytes) (.ref q_tape_sorts) (.ref q_tape_starts) (.ref q_tape_contents) tape_length tape_tokens tape_at, aI Y q_tape_sorts 701 tape_sorts, aI Y q_tape_contents 701 tape_contents, aI Y q_plan_names 12 plan_names, aI Y q_tape_starts 701 tape_starts, aI Y q_plan_kinds 12 plan_kinds, aI Y q_plan_firsts 12 plan_firsts, aI Y q_plan_seconds 12 plan_seconds, aI Y q_plan_degrees 12 plan_degrees, aI Y q_plan_colours 12 plan_colours, aI Y q_plan_needs 12 plan_needs] (fun v w => ∃ r : Int32, ∃ faulty' : Int32, ∃ place' : Int32, ∃ token' : Int32, ∃ plan_functions' : Int32, ∃ plan_names' : Nat → Int32, ∃ plan_kinds' : Nat → Int32, ∃ plan_firsts' : Nat → Int32, ∃ plan_seconds' : Nat → Int32, ∃ plan_degrees' : Nat → Int32, ∃ plan_colours' : Nat → Int32, ∃ plan_needs' : Nat → Int32, v = some (.int r) ∧ w = [oX5 h0 (.ref q_tape) lines faulty' place' (.ref q_plan) token' toldOnce, oX3 q_plan plan_bound plan_modulus plan_seed plan_functions' (.ref q_plan_names) (.ref q_plan_kinds) (.ref q_plan_firsts) (.ref q_plan_seconds) (.ref q_plan_degrees) (.ref q_plan_colours) (.ref q_plan_needs) (v_plan_numbers), oX9 q_tape tape_fed (v_tape_bytes) (.ref q_tape_sorts) (.ref q_tape_starts) (.ref q_tape_contents) tape_length tape_tokens tape_at, aI Y q_tape_sorts 701 tape_sorts, aI Y q_tape_contents 701 tape_contents, aI Y q_plan_names 12 plan_names', aI Y q_tape_starts 701 tape_starts, aI Y q_plan_kinds 12 plan_kinds', aI Y q_plan_firsts 12 plan_firsts', aI Y q_plan_seconds 12 plan_seconds', aI Y q_plan_degrees 12 plan_degrees', aI Y q_plan_colours 12 plan_colours', aI Y q_plan_needs 12 plan_needs'] ∧ Q r faulty' place' token' plan_functions' plan_names' plan_kinds' plan_firsts' plan_seconds' plan_degrees' plan_colours' plan_needs') := by
  refine gM_of (own := RX5) (by decide +kernel) rfl (Nat.le_of_ble_eq_true rfl) rfl (fun E C hR => ?_)
  unfold wX5_readOwn at h
  refine g_aload_n C dX5_readOwn_0 0 rfl ?_
  obtain ⟨P_1, hP, h⟩ := h
  refine g_callV (As := []) (rest := []) C (mX5_takeNewName l D Y h0 q_tape lines faulty place q_plan token toldOnce plan_bound plan_modulus plan_seed plan_functions q_plan_names (.ref q_plan_kinds) (.ref q_plan_firsts) (.ref q_plan_seconds) (.ref q_plan_degrees) (.ref q_plan_colours) (.ref q_plan_needs) v_plan_numbers tape_fed v_tape_bytes q_tape_sorts q_tape_starts q_tape_contents tape_length tape_tokens tape_at tape_sorts tape_contents plan_names tape_starts P_1 hP) dX5_readOwn_1 rfl wM_X5_130 wI_X5_takeNewName wV_X5_takeNewName wN_X5 wC_X5_takeNewName (n := 0) (by decide +kernel) rfl (q0 := 0) rfl rfl ⟨Nat.le_of_ble_eq_true rfl, Nat.le_of_ble_eq_true rfl⟩ ⟨Nat.le_of_ble_eq_true rfl, Nat.le_of_ble_eq_true rfl⟩ (Nat.le_of_ble_eq_true rfl) [0, 1, 2, 3, 4, 5, 6] [7, 8, 9, 10, 11, 12] rfl rfl rfl (fun v wc hv => ?_)
  obtain ⟨rF_1, faulty_1, place_1, token_1, rfl, rfl, hq⟩ := hv
  replace h := h rF_1 faulty_1 place_1 token_1 hq
  refine gG.perm (ws' := [oX5 h0 (.ref q_tape) lines faulty_1 place_1 (.ref q_plan) token_1 toldOnce, oX3 q_plan plan_bound plan_modulus plan_seed plan_functions (.ref q_plan_names) (.ref q_plan_kinds) (.ref q_plan_firsts) (.ref q_plan_seconds) (.ref q_plan_degrees) (.ref q_plan_colours) (.ref q_plan_needs) (v_plan_numbers), oX9 q_tape tape_fed (v_tape_bytes) (.ref q_tape_sorts) (.ref q_tape_starts) (.ref q_tape_contents) tape_length tape_tokens tape_at, aI Y q_tape_sorts 701 tape_sorts, aI Y q_tape_contents 701 tape_contents, aI Y q_plan_names 12 plan_names, aI Y q_tape_starts 701 tape_starts, aI Y q_plan_kinds 12 plan_kinds, aI Y q_plan_firsts 12 plan_firsts, aI Y q_plan_seconds 12 plan_seconds, aI Y q_plan_degrees 12 plan_degrees, aI Y q_plan_colours 12 plan_colours, aI Y q_plan_needs 12 plan_needs]) [6, 7, 8, 9, 10, 11, 12, 0, 1, 2, 3, 4, 5] rfl rfl ?_
  refine g_istore_n (lv' := [(1, .int rF_1), (0, .ref h0)]) C dX5_readOwn_4 (by decide) rfl ?_
  refine g_iload_n C dX5_readOwn_5 0 rfl ?_
  refine g_iconst (v := (-1)) C dX5_readOwn_6 rfl ?_
  refine g_icmp_ne (tgt := 12) C dX5_readOwn_7 (by decide) (fun c_1 => ?_) (fun c_1 => ?_)
  · replace h := h.1 c_1
    refine g_aload_n C dX5_readOwn_12 1 rfl ?_
    refine g_get C inX5 0 rfl rfl 4 (by decide) wF_X5_25 rfl dX5_readOwn_13 ?_
    refine g_iload_n C dX5_readOwn_16 0 rfl ?_
    refine g_iconst (v := 1) C dX5_readOwn_17 rfl ?_
    refine g_bipush (v := (-2)) C dX5_readOwn_18 rfl ?_
    refine g_bipush (v := (-2)) C dX5_readOwn_20 rfl ?_
    obtain ⟨P_2, hP, h⟩ := h
    refine g_callV (As := [.int rF_1, .int 1, .int (-2), .int (-2)]) (rest := []) C (mX3_add l D Y q_plan plan_bound plan_modulus plan_seed plan_functions q_plan_names q_plan_kinds q_plan_firsts q_plan_seconds q_plan_degrees q_plan_colours q_plan_needs v_plan_numbers plan_names plan_kinds plan_firsts plan_seconds plan_degrees plan_colours plan_needs rF_1 1 (-2) (-2) P_2 hP) dX5_readOwn_22 rfl wM_X5_133 wI_X3_add wV_X3_add wN_X3 wC_X3_add (n := 4) (by decide +kernel) rfl (q0 := 0) rfl rfl ⟨Nat.le_of_ble_eq_true rfl, Nat.le_of_ble_eq_true rfl⟩ ⟨Nat.le_of_ble_eq_true rfl, Nat.le_of_ble_eq_true rfl⟩ (Nat.le_of_ble_eq_true rfl) [1, 5, 7, 8, 9, 10, 11, 12] [0, 2, 3, 4, 6] rfl rfl rfl (fun v wc hv => ?_)
    obtain ⟨rF_2, functions_1, names_1, kinds_1, firsts_1, seconds_1, degrees_1, colours_1, needs_1, rfl, rfl, hq⟩ := hv
    replace h := h rF_2 functions_1 names_1 kinds_1 firsts_1 seconds_1 degrees_1 colours_1 needs_1 hq
    refine gG.perm (ws' := [oX5 h0 (.ref q_tape) lines faulty_1 place_1 (.ref q_plan) token_1 toldOnce, oX3 q_plan plan_bound plan_modulus plan_seed functions_1 (.ref q_plan_names) (.ref q_plan_kinds) (.ref q_plan_firsts) (.ref q_plan_seconds) (.ref q_plan_degrees) (.ref q_plan_colours) (.ref q_plan_needs) (v_plan_numbers), oX9 q_tape tape_fed (v_tape_bytes) (.ref q_tape_sorts) (.ref q_tape_starts) (.ref q_tape_contents) tape_length tape_tokens tape_at, aI Y q_tape_sorts 701 tape_sorts, aI Y q_tape_contents 701 tape_contents, aI Y q_plan_names 12 names_1, aI Y q_tape_starts 701 tape_starts, aI Y q_plan_kinds 12 kinds_1, aI Y q_plan_firsts 12 firsts_1, aI Y q_plan_seconds 12 seconds_1, aI Y q_plan_degrees 12 degrees_1, aI Y q_plan_colours 12 colours_1, aI Y q_plan_needs 12 needs_1]) [0, 5, 1, 2, 3, 6, 4, 7, 8, 9, 10, 11, 12] rfl rfl ?_
    refine g_istore_n (lv' := [(2, .int rF_2), (1, .int rF_1), (0, .ref h0)]) C dX5_readOwn_25 (by decide) rfl ?_
    refine g_aload_n C dX5_readOwn_26 2 rfl ?_
    refine g_get C inX5 0 rfl rfl 4 (by decide) wF_X5_25 rfl dX5_readOwn_27 ?_
    refine g_get C inX3 1 rfl rfl 8 (by decide) wF_X5_137 rfl dX5_readOwn_30 ?_
    refine g_iload_n C dX5_readOwn_33 0 rfl ?_
    refine g_iconst (v := 1) C dX5_readOwn_34 rfl ?_
    obtain ⟨hc_1, h⟩ := h
    refine g_iast C 10 rfl hc_1 dX5_readOwn_35 (fun degrees_2 edegrees_2 => gG.eqw (ws' := [oX5 h0 (.ref q_tape) lines faulty_1 place_1 (.ref q_plan) token_1 toldOnce, oX3 q_plan plan_bound plan_modulus plan_seed functions_1 (.ref q_plan_names) (.ref q_plan_kinds) (.ref q_plan_firsts) (.ref q_plan_seconds) (.ref q_plan_degrees) (.ref q_plan_colours) (.ref q_plan_needs) (v_plan_numbers), oX9 q_tape tape_fed (v_tape_bytes) (.ref q_tape_sorts) (.ref q_tape_starts) (.ref q_tape_contents) tape_length tape_tokens tape_at, aI Y q_tape_sorts 701 tape_sorts, aI Y q_tape_contents 701 tape_contents, aI Y q_plan_names 12 names_1, aI Y q_tape_starts 701 tape_starts, aI Y q_plan_kinds 12 kinds_1, aI Y q_plan_firsts 12 firsts_1, aI Y q_plan_seconds 12 seconds_1, aI Y q_plan_degrees 12 degrees_2, aI Y q_plan_colours 12 colours_1, aI Y q_plan_needs 12 needs_1]) rfl ?_)
    replace h := h degrees_2 edegrees_2
    refine g_iconst (v := 1) C dX5_readOwn_36 rfl ?_
    exact g_zret C hR (by decide) (Nat.le_of_ble_eq_true rfl) (Nat.le_of_ble_eq_true rfl) dX5_readOwn_37 ⟨1, faulty_1, place_1, token_1, functions_1, names_1, kinds_1, firsts_1, seconds_1, degrees_2, colours_1, needs_1, rfl, rfl, h⟩
  · replace h := h.2 c_1
    refine g_iconst (v := 0) C dX5_readOwn_10 rfl ?_
    exact g_zret C hR (by decide) (Nat.le_of_ble_eq_true rfl) (Nat.le_of_ble_eq_true rfl) dX5_readOwn_11 ⟨0, faulty_1, place_1, token_1, plan_functions, plan_names, plan_kinds, plan_firsts, plan_seconds, plan_degrees, plan_colours, plan_needs, rfl, rfl, h⟩
theorem dX5_takeFunction_0 : decode cX5_takeFunction 0 = .ok (.aload_n 0, 1) := by decide +kernel
theorem dX5_takeFunction_1 : decode cX5_takeFunction 1 = .ok (.dup, 1) := by decide +kernel
theorem dX5_takeFunction_2 : decode cX5_takeFunction 2 = .ok (.getfield 36, 3) := by decide +kernel
theorem dX5_takeFunction_5 : decode cX5_takeFunction 5 = .ok (.iconst 1, 1) := by decide +kernel
theorem dX5_takeFunction_6 : decode cX5_takeFunction 6 = .ok (.iadd, 1) := by decide +kernel
theorem dX5_takeFunction_7 : decode cX5_takeFunction 7 = .ok (.putfield 36, 3) := by decide +kernel
theorem dX5_takeFunction_10 : decode cX5_takeFunction 10 = .ok (.aload_n 0, 1) := by decide +kernel
theorem dX5_takeFunction_11 : decode cX5_takeFunction 11 = .ok (.getfield 12, 3) := by decide +kernel
theorem dX5_takeFunction_14 : decode cX5_takeFunction 14 = .ok (.aload_n 0, 1) := by decide +kernel
theorem dX5_takeFunction_15 : decode cX5_takeFunction 15 = .ok (.getfield 36, 3) := by decide +kernel
theorem dX5_takeFunction_18 : decode cX5_takeFunction 18 = .ok (.invokevirtual 48, 3) := by decide +kernel
theorem dX5_takeFunction_21 : decode cX5_takeFunction 21 = .ok (.iconst 4, 1) := by decide +kernel
theorem dX5_takeFunction_22 : decode cX5_takeFunction 22 = .ok (.if_icmp .eq 11, 3) := by decide +kernel
theorem dX5_takeFunction_25 : decode cX5_takeFunction 25 = .ok (.aload_n 0, 1) := by decide +kernel
theorem dX5_takeFunction_26 : decode cX5_takeFunction 26 = .ok (.iconst 1, 1) := by decide +kernel
theorem dX5_takeFunction_27 : decode cX5_takeFunction 27 = .ok (.invokevirtual 62, 3) := by decide +kernel
theorem dX5_takeFunction_30 : decode cX5_takeFunction 30 = .ok (.pop, 1) := by decide +kernel
theorem dX5_takeFunction_31 : decode cX5_takeFunction 31 = .ok (.iconst (-1), 1) := by decide +kernel
theorem dX5_takeFunction_32 : decode cX5_takeFunction 32 = .ok (.ireturn, 1) := by decide +kernel
theorem dX5_takeFunction_33 : decode cX5_takeFunction 33 = .ok (.aload_n 0, 1) := by decide +kernel
theorem dX5_takeFunction_34 : decode cX5_takeFunction 34 = .ok (.getfield 25, 3) := by decide +kernel
theorem dX5_takeFunction_37 : decode cX5_takeFunction 37 = .ok (.aload_n 0, 1) := by decide +kernel
theorem dX5_takeFunction_38 : decode cX5_takeFunction 38 = .ok (.getfield 12, 3) := by decide +kernel
theorem dX5_takeFunction_41 : decode cX5_takeFunction 41 = .ok (.aload_n 0, 1) := by decide +kernel
theorem dX5_takeFunction_42 : decode cX5_takeFunction 42 = .ok (.getfield 36, 3) := by decide +kernel
theorem dX5_takeFunction_45 : decode cX5_takeFunction 45 = .ok (.invokevirtual 66, 3) := by decide +kernel
theorem dX5_takeFunction_48 : decode cX5_takeFunction 48 = .ok (.invokevirtual 75, 3) := by decide +kernel
theorem dX5_takeFunction_51 : decode cX5_takeFunction 51 = .ok (.istore_n 1, 1) := by decide +kernel
theorem dX5_takeFunction_52 : decode cX5_takeFunction 52 = .ok (.iload_n 1, 1) := by decide +kernel
theorem dX5_takeFunction_53 : decode cX5_takeFunction 53 = .ok (.iconst (-1), 1) := by decide +kernel
theorem dX5_takeFunction_54 : decode cX5_takeFunction 54 = .ok (.if_icmp .ne 9, 3) := by decide +kernel
theorem dX5_takeFunction_57 : decode cX5_takeFunction 57 = .ok (.aload_n 0, 1) := by decide +kernel
theorem dX5_takeFunction_58 : decode cX5_takeFunction 58 = .ok (.iconst 4, 1) := by decide +kernel
theorem dX5_takeFunction_59 : decode cX5_takeFunction 59 = .ok (.invokevirtual 62, 3) := by decide +kernel
theorem dX5_takeFunction_62 : decode cX5_takeFunction 62 = .ok (.pop, 1) := by decide +kernel
theorem dX5_takeFunction_63 : decode cX5_takeFunction 63 = .ok (.iload_n 1, 1) := by decide +kernel
theorem dX5_takeFunction_64 : decode cX5_takeFunction 64 = .ok (.ireturn, 1) := by decide +kernel
/-- QuotientSums$Reader.takeFunction()I -/
def wX5_takeFunction (lines : Int32) (faulty : Int32) (place : Int32) (token : Int32) (toldOnce : Int32) (tape_fed : Int32) (tape_length : Int32) (tape_tokens : Int32) (tape_at : Int32) (tape_sorts : Nat → Int32) (tape_contents : Nat → Int32) (plan_bound : Int32) (plan_modulus : Int32) (plan_seed : Int32) (plan_functions : Int32) (plan_names : Nat → Int32) (tape_starts : Nat → Int32)  (Q : (Int32) → (Int32) → (Int32) → (Int32) → Prop) : Prop :=
  (∀ token_1 : Int32, token_1 = token + 1 → ∃ (P_1 : (Int32) → Prop), wX9_sortOf tape_fed tape_length tape_tokens tape_at tape_sorts token_1 P_1 ∧ ∀ (rF_1 : Int32), P_1 rF_1 → ((rF_1 = 4 → (∃ (P_2 : (Int32) → Prop), wX9_contentOf tape_fed tape_length tape_tokens tape_at tape_contents token_1 P_2 ∧ ∀ (rF_2 : Int32), P_2 rF_2 → ∃ (P_3 : (Int32) → Prop), wX3_find plan_bound plan_modulus plan_seed plan_functions plan_names rF_2 P_3 ∧ ∀ (rF_3 : Int32), P_3 rF_3 → ((¬ rF_3 = (-1) → (Q rF_3 faulty place token_1)) ∧ (rF_3 = (-1) → (∃ (P_4 : (Int32) → (Int32) → (Int32) → Prop), wX5_refuse lines faulty place token_1 toldOnce tape_fed tape_length tape_tokens tape_at tape_starts 4 P_4 ∧ ∀ (rF_4 : Int32) (faulty_1 : Int32) (place_1 : Int32), P_4 rF_4 faulty_1 place_1 → (Q rF_3 faulty_1 place_1 token_1)))))) ∧ (¬ rF_1 = 4 → (∃ (P_5 : (Int32) → (Int32) → (Int32) → Prop), wX5_refuse lines faulty place token_1 toldOnce tape_fed tape_length tape_tokens tape_at tape_starts 1 P_5 ∧ ∀ (rF_5 : Int32) (faulty_2 : Int32) (place_2 : Int32), P_5 rF_5 faulty_2 place_2 → (Q (-1) faulty_2 place_2 token_1)))))
set_option maxHeartbeats 4000000 in
set_option maxRecDepth 100000 in
theorem mX5_takeFunction (l : Launch) (D : va_G) (Y : Nat → ClassId) (h0 : Nat) (q_tape : Nat) (lines : Int32) (faulty : Int32) (place : Int32) (q_plan : Nat) (token : Int32) (toldOnce : Int32) (tape_fed : Int32) (v_tape_bytes : Value) (q_tape_sorts : Nat) (q_tape_starts : Nat) (q_tape_contents : Nat) (tape_length : Int32) (tape_tokens : Int32) (tape_at : Int32) (tape_sorts : Nat → Int32) (tape_contents : Nat → Int32) (plan_bound : Int32) (plan_modulus : Int32) (plan_seed : Int32) (plan_functions : Int32) (q_plan_names : Nat) (v_plan_kinds : Value) (v_plan_firsts : Value) (v_plan_seconds : Value) (v_plan_degrees : Value) (v_plan_colours : Value) (v_plan_needs : Value) (v_plan_numbers : Value) (plan_names : Nat → Int32) (tape_starts : Nat → Int32)  (Q : (Int32) → (Int32) → (Int32) → (Int32) → Prop) (h : wX5_takeFunction lines faulty place token toldOnce tape_fed tape_length tape_tokens tape_at tape_sorts tape_contents plan_bound plan_modulus plan_seed plan_functions plan_names tape_starts Q) : gM l D Y yX5_takeFunction cX5_takeFunction 2 (some .int) 2 42 0 0 [.ref h0] [oX5 h0 (.ref q_tape) lines faulty place (.ref q_plan) token toldOnce, oX9 q_tape tape_fed (v_tape_bytes) (.ref q_tape_sorts) (.ref q_tape_starts) (.ref q_tape_contents) tape_length tape_tokens tape_at, aI Y q_tape_sorts 701 tape_sorts, aI Y q_tape_contents 701 tape_contents, oX3 q_plan plan_bound plan_modulus plan_seed plan_functions (.ref q_plan_names) (v_plan_kinds) (v_plan_firsts) (v_plan_seconds) (v_plan_degrees) (v_plan_colours) (v_plan_needs) (v_plan_numbers), aI Y q_plan_names 12 plan_names, aI Y q_tape_starts 701 tape_starts] (fun v w => ∃ r : Int32, ∃ faulty' : Int32, ∃ place' : Int32, ∃ token' : Int32, v = some (.int r) ∧ w = [oX5 h0 (.ref q_tape) lines faulty' place' (.ref q_plan) token' toldOnce, oX9 q_tape tape_fed (v_tape_bytes) (.ref q_tape_sorts) (.ref q_tape_starts) (.ref q_tape_contents) tape_length tape_tokens tape_at, aI Y q_tape_sorts 701 tape_sorts, aI Y q_tape_contents 701 tape_contents, oX3 q_plan plan_bound plan_modulus plan_seed plan_functions (.ref q_plan_names) (v_plan_kinds) (v_plan_firsts) (v_plan_seconds) (v_plan_degrees) (v_plan_colours) (v_plan_needs) (v_plan_numbers), aI Y q_plan_names 12 plan_names, aI Y q_tape_starts 701 tape_starts] ∧ Q r faulty' place' token') := by
  refine gM_of (own := RX5) (by decide +kernel) rfl (Nat.le_of_ble_eq_true rfl) rfl (fun E C hR => ?_)
  unfold wX5_takeFunction at h
  refine g_aload_n C dX5_takeFunction_0 0 rfl ?_
  refine g_dup C dX5_takeFunction_1 rfl ?_
  refine g_get C inX5 0 rfl rfl 5 (by decide) wF_X5_36 rfl dX5_takeFunction_2 ?_
  refine g_iconst (v := 1) C dX5_takeFunction_5 rfl ?_
  refine g_iadd C dX5_takeFunction_6 ?_
  refine g_topi (fun token_1 etoken_1 => ?_)
  replace h := h token_1 etoken_1
  refine g_put C inX5 tyX5 tyX5_ok nmX5 0 rfl rfl 5 (by decide) wF_X5_36 rfl rfl rfl (Nat.le_of_ble_eq_true rfl) (ws' := [oX5 h0 (.ref q_tape) lines faulty place (.ref q_plan) token_1 toldOnce, oX9 q_tape tape_fed (v_tape_bytes) (.ref q_tape_sorts) (.ref q_tape_starts) (.ref q_tape_contents) tape_length tape_tokens tape_at, aI Y q_tape_sorts 701 tape_sorts, aI Y q_tape_contents 701 tape_contents, oX3 q_plan plan_bound plan_modulus plan_seed plan_functions (.ref q_plan_names) (v_plan_kinds) (v_plan_firsts) (v_plan_seconds) (v_plan_degrees) (v_plan_colours) (v_plan_needs) (v_plan_numbers), aI Y q_plan_names 12 plan_names, aI Y q_tape_starts 701 tape_starts]) rfl dX5_takeFunction_7 ?_
  refine g_aload_n C dX5_takeFunction_10 0 rfl ?_
  refine g_get C inX5 0 rfl rfl 0 (by decide) wF_X5_12 rfl dX5_takeFunction_11 ?_
  refine g_aload_n C dX5_takeFunction_14 0 rfl ?_
  refine g_get C inX5 0 rfl rfl 5 (by decide) wF_X5_36 rfl dX5_takeFunction_15 ?_
  obtain ⟨P_1, hP, h⟩ := h
  refine g_callV (As := [.int token_1]) (rest := []) C (mX9_sortOf l D Y q_tape tape_fed v_tape_bytes q_tape_sorts (.ref q_tape_starts) (.ref q_tape_contents) tape_length tape_tokens tape_at tape_sorts token_1 P_1 hP) dX5_takeFunction_18 rfl wM_X5_48 wI_X9_sortOf wV_X9_sortOf wN_X9 wC_X9_sortOf (n := 1) (by decide +kernel) rfl (q0 := 0) rfl rfl ⟨Nat.le_of_ble_eq_true rfl, Nat.le_of_ble_eq_true rfl⟩ ⟨Nat.le_of_ble_eq_true rfl, Nat.le_of_ble_eq_true rfl⟩ (Nat.le_of_ble_eq_true rfl) [1, 2] [0, 3, 4, 5, 6] rfl rfl rfl (fun v wc hv => ?_)
  obtain ⟨rF_1, rfl, rfl, hq⟩ := hv
  replace h := h rF_1 hq
  refine gG.perm (ws' := [oX5 h0 (.ref q_tape) lines faulty place (.ref q_plan) token_1 toldOnce, oX9 q_tape tape_fed (v_tape_bytes) (.ref q_tape_sorts) (.ref q_tape_starts) (.ref q_tape_contents) tape_length tape_tokens tape_at, aI Y q_tape_sorts 701 tape_sorts, aI Y q_tape_contents 701 tape_contents, oX3 q_plan plan_bound plan_modulus plan_seed plan_functions (.ref q_plan_names) (v_plan_kinds) (v_plan_firsts) (v_plan_seconds) (v_plan_degrees) (v_plan_colours) (v_plan_needs) (v_plan_numbers), aI Y q_plan_names 12 plan_names, aI Y q_tape_starts 701 tape_starts]) [0, 5, 6, 1, 2, 3, 4] rfl rfl ?_
  refine g_iconst (v := 4) C dX5_takeFunction_21 rfl ?_
  refine g_icmp_eq (tgt := 33) C dX5_takeFunction_22 (by decide) (fun c_1 => ?_) (fun c_1 => ?_)
  · replace h := h.1 c_1
    refine g_aload_n C dX5_takeFunction_33 0 rfl ?_
    refine g_get C inX5 0 rfl rfl 4 (by decide) wF_X5_25 rfl dX5_takeFunction_34 ?_
    refine g_aload_n C dX5_takeFunction_37 0 rfl ?_
    refine g_get C inX5 0 rfl rfl 0 (by decide) wF_X5_12 rfl dX5_takeFunction_38 ?_
    refine g_aload_n C dX5_takeFunction_41 0 rfl ?_
    refine g_get C inX5 0 rfl rfl 5 (by decide) wF_X5_36 rfl dX5_takeFunction_42 ?_
    obtain ⟨P_2, hP, h⟩ := h
    refine g_callV (As := [.int token_1]) (rest := [.ref q_plan]) C (mX9_contentOf l D Y q_tape tape_fed v_tape_bytes (.ref q_tape_sorts) (.ref q_tape_starts) q_tape_contents tape_length tape_tokens tape_at tape_contents token_1 P_2 hP) dX5_takeFunction_45 rfl wM_X5_66 wI_X9_contentOf wV_X9_contentOf wN_X9 wC_X9_contentOf (n := 1) (by decide +kernel) rfl (q0 := 0) rfl rfl ⟨Nat.le_of_ble_eq_true rfl, Nat.le_of_ble_eq_true rfl⟩ ⟨Nat.le_of_ble_eq_true rfl, Nat.le_of_ble_eq_true rfl⟩ (Nat.le_of_ble_eq_true rfl) [1, 3] [0, 2, 4, 5, 6] rfl rfl rfl (fun v wc hv => ?_)
    obtain ⟨rF_2, rfl, rfl, hq⟩ := hv
    replace h := h rF_2 hq
    refine gG.perm (ws' := [oX5 h0 (.ref q_tape) lines faulty place (.ref q_plan) token_1 toldOnce, oX9 q_tape tape_fed (v_tape_bytes) (.ref q_tape_sorts) (.ref q_tape_starts) (.ref q_tape_contents) tape_length tape_tokens tape_at, aI Y q_tape_sorts 701 tape_sorts, aI Y q_tape_contents 701 tape_contents, oX3 q_plan plan_bound plan_modulus plan_seed plan_functions (.ref q_plan_names) (v_plan_kinds) (v_plan_firsts) (v_plan_seconds) (v_plan_degrees) (v_plan_colours) (v_plan_needs) (v_plan_numbers), aI Y q_plan_names 12 plan_names, aI Y q_tape_starts 701 tape_starts]) [0, 5, 1, 6, 2, 3, 4] rfl rfl ?_
    obtain ⟨P_3, hP, h⟩ := h
    refine g_callV (As := [.int rF_2]) (rest := []) C (mX3_find l D Y q_plan plan_bound plan_modulus plan_seed plan_functions q_plan_names v_plan_kinds v_plan_firsts v_plan_seconds v_plan_degrees v_plan_colours v_plan_needs v_plan_numbers plan_names rF_2 P_3 hP) dX5_takeFunction_48 rfl wM_X5_75 wI_X3_find wV_X3_find wN_X3 wC_X3_find (n := 1) (by decide +kernel) rfl (q0 := 0) rfl rfl ⟨Nat.le_of_ble_eq_true rfl, Nat.le_of_ble_eq_true rfl⟩ ⟨Nat.le_of_ble_eq_true rfl, Nat.le_of_ble_eq_true rfl⟩ (Nat.le_of_ble_eq_true rfl) [4, 5] [0, 1, 2, 3, 6] rfl rfl rfl (fun v wc hv => ?_)
    obtain ⟨rF_3, rfl, rfl, hq⟩ := hv
    replace h := h rF_3 hq
    refine gG.perm (ws' := [oX5 h0 (.ref q_tape) lines faulty place (.ref q_plan) token_1 toldOnce, oX9 q_tape tape_fed (v_tape_bytes) (.ref q_tape_sorts) (.ref q_tape_starts) (.ref q_tape_contents) tape_length tape_tokens tape_at, aI Y q_tape_sorts 701 tape_sorts, aI Y q_tape_contents 701 tape_contents, oX3 q_plan plan_bound plan_modulus plan_seed plan_functions (.ref q_plan_names) (v_plan_kinds) (v_plan_firsts) (v_plan_seconds) (v_plan_degrees) (v_plan_colours) (v_plan_needs) (v_plan_numbers), aI Y q_plan_names 12 plan_names, aI Y q_tape_starts 701 tape_starts]) [0, 1, 2, 3, 5, 6, 4] rfl rfl ?_
    refine g_istore_n (lv' := [(1, .int rF_3), (0, .ref h0)]) C dX5_takeFunction_51 (by decide) rfl ?_
    refine g_iload_n C dX5_takeFunction_52 0 rfl ?_
    refine g_iconst (v := (-1)) C dX5_takeFunction_53 rfl ?_
    refine g_icmp_ne (tgt := 63) C dX5_takeFunction_54 (by decide) (fun c_2 => ?_) (fun c_2 => ?_)
    · replace h := h.1 c_2
      refine g_iload_n C dX5_takeFunction_63 0 rfl ?_
      exact g_iret C hR (Nat.le_of_ble_eq_true rfl) (Nat.le_of_ble_eq_true rfl) dX5_takeFunction_64 ⟨rF_3, faulty, place, token_1, rfl, rfl, h⟩
    · replace h := h.2 c_2
      refine g_aload_n C dX5_takeFunction_57 1 rfl ?_
      refine g_iconst (v := 4) C dX5_takeFunction_58 rfl ?_
      obtain ⟨P_4, hP, h⟩ := h
      refine g_callV (As := [.int 4]) (rest := []) C (mX5_refuse l D Y h0 q_tape lines faulty place (.ref q_plan) token_1 toldOnce tape_fed v_tape_bytes (.ref q_tape_sorts) q_tape_starts (.ref q_tape_contents) tape_length tape_tokens tape_at tape_starts 4 P_4 hP) dX5_takeFunction_59 rfl wM_X5_62 wI_X5_refuse wV_X5_refuse wN_X5 wC_X5_refuse (n := 1) (by decide +kernel) rfl (q0 := 0) rfl rfl ⟨Nat.le_of_ble_eq_true rfl, Nat.le_of_ble_eq_true rfl⟩ ⟨Nat.le_of_ble_eq_true rfl, Nat.le_of_ble_eq_true rfl⟩ (Nat.le_of_ble_eq_true rfl) [0, 1, 6] [2, 3, 4, 5] rfl rfl rfl (fun v wc hv => ?_)
      obtain ⟨rF_4, faulty_1, place_1, rfl, rfl, hq⟩ := hv
      replace h := h rF_4 faulty_1 place_1 hq
      refine gG.perm (ws' := [oX5 h0 (.ref q_tape) lines faulty_1 place_1 (.ref q_plan) token_1 toldOnce, oX9 q_tape tape_fed (v_tape_bytes) (.ref q_tape_sorts) (.ref q_tape_starts) (.ref q_tape_contents) tape_length tape_tokens tape_at, aI Y q_tape_sorts 701 tape_sorts, aI Y q_tape_contents 701 tape_contents, oX3 q_plan plan_bound plan_modulus plan_seed plan_functions (.ref q_plan_names) (v_plan_kinds) (v_plan_firsts) (v_plan_seconds) (v_plan_degrees) (v_plan_colours) (v_plan_needs) (v_plan_numbers), aI Y q_plan_names 12 plan_names, aI Y q_tape_starts 701 tape_starts]) [4, 5, 0, 1, 2, 3, 6] rfl rfl ?_
      refine g_pop C dX5_takeFunction_62 rfl ?_
      refine g_iload_n C dX5_takeFunction_63 0 rfl ?_
      exact g_iret C hR (Nat.le_of_ble_eq_true rfl) (Nat.le_of_ble_eq_true rfl) dX5_takeFunction_64 ⟨rF_3, faulty_1, place_1, token_1, rfl, rfl, h⟩
  · replace h := h.2 c_1
    refine g_aload_n C dX5_takeFunction_25 0 rfl ?_
    refine g_iconst (v := 1) C dX5_takeFunction_26 rfl ?_
    obtain ⟨P_5, hP, h⟩ := h
    refine g_callV (As := [.int 1]) (rest := []) C (mX5_refuse l D Y h0 q_tape lines faulty place (.ref q_plan) token_1 toldOnce tape_fed v_tape_bytes (.ref q_tape_sorts) q_tape_starts (.ref q_tape_contents) tape_length tape_tokens tape_at tape_starts 1 P_5 hP) dX5_takeFunction_27 rfl wM_X5_62 wI_X5_refuse wV_X5_refuse wN_X5 wC_X5_refuse (n := 1) (by decide +kernel) rfl (q0 := 0) rfl rfl ⟨Nat.le_of_ble_eq_true rfl, Nat.le_of_ble_eq_true rfl⟩ ⟨Nat.le_of_ble_eq_true rfl, Nat.le_of_ble_eq_true rfl⟩ (Nat.le_of_ble_eq_true rfl) [0, 1, 6] [2, 3, 4, 5] rfl rfl rfl (fun v wc hv => ?_)
    obtain ⟨rF_5, faulty_2, place_2, rfl, rfl, hq⟩ := hv
    replace h := h rF_5 faulty_2 place_2 hq
    refine gG.perm (ws' := [oX5 h0 (.ref q_tape) lines faulty_2 place_2 (.ref q_plan) token_1 toldOnce, oX9 q_tape tape_fed (v_tape_bytes) (.ref q_tape_sorts) (.ref q_tape_starts) (.ref q_tape_contents) tape_length tape_tokens tape_at, aI Y q_tape_sorts 701 tape_sorts, aI Y q_tape_contents 701 tape_contents, oX3 q_plan plan_bound plan_modulus plan_seed plan_functions (.ref q_plan_names) (v_plan_kinds) (v_plan_firsts) (v_plan_seconds) (v_plan_degrees) (v_plan_colours) (v_plan_needs) (v_plan_numbers), aI Y q_plan_names 12 plan_names, aI Y q_tape_starts 701 tape_starts]) [4, 5, 0, 1, 2, 3, 6] rfl rfl ?_
    refine g_pop C dX5_takeFunction_30 rfl ?_
    refine g_iconst (v := (-1)) C dX5_takeFunction_31 rfl ?_
    exact g_iret C hR (Nat.le_of_ble_eq_true rfl) (Nat.le_of_ble_eq_true rfl) dX5_takeFunction_32 ⟨(-1), faulty_2, place_2, token_1, rfl, rfl, h⟩
theorem dX5_takeSigned_0 : decode cX5_takeSigned 0 = .ok (.aload_n 0, 1) := by decide +kernel
theorem dX5_takeSigned_1 : decode cX5_takeSigned 1 = .ok (.dup, 1) := by decide +kernel
theorem dX5_takeSigned_2 : decode cX5_takeSigned 2 = .ok (.getfield 36, 3) := by decide +kernel
theorem dX5_takeSigned_5 : decode cX5_takeSigned 5 = .ok (.iconst 1, 1) := by decide +kernel
theorem dX5_takeSigned_6 : decode cX5_takeSigned 6 = .ok (.iadd, 1) := by decide +kernel
theorem dX5_takeSigned_7 : decode cX5_takeSigned 7 = .ok (.putfield 36, 3) := by decide +kernel
theorem dX5_takeSigned_10 : decode cX5_takeSigned 10 = .ok (.aload_n 0, 1) := by decide +kernel
theorem dX5_takeSigned_11 : decode cX5_takeSigned 11 = .ok (.getfield 12, 3) := by decide +kernel
theorem dX5_takeSigned_14 : decode cX5_takeSigned 14 = .ok (.aload_n 0, 1) := by decide +kernel
theorem dX5_takeSigned_15 : decode cX5_takeSigned 15 = .ok (.getfield 36, 3) := by decide +kernel
theorem dX5_takeSigned_18 : decode cX5_takeSigned 18 = .ok (.invokevirtual 48, 3) := by decide +kernel
theorem dX5_takeSigned_21 : decode cX5_takeSigned 21 = .ok (.istore_n 1, 1) := by decide +kernel
theorem dX5_takeSigned_22 : decode cX5_takeSigned 22 = .ok (.iload_n 1, 1) := by decide +kernel
theorem dX5_takeSigned_23 : decode cX5_takeSigned 23 = .ok (.iconst 2, 1) := by decide +kernel
theorem dX5_takeSigned_24 : decode cX5_takeSigned 24 = .ok (.if_icmp .eq 14, 3) := by decide +kernel
theorem dX5_takeSigned_27 : decode cX5_takeSigned 27 = .ok (.iload_n 1, 1) := by decide +kernel
theorem dX5_takeSigned_28 : decode cX5_takeSigned 28 = .ok (.iconst 3, 1) := by decide +kernel
theorem dX5_takeSigned_29 : decode cX5_takeSigned 29 = .ok (.if_icmp .eq 9, 3) := by decide +kernel
theorem dX5_takeSigned_32 : decode cX5_takeSigned 32 = .ok (.aload_n 0, 1) := by decide +kernel
theorem dX5_takeSigned_33 : decode cX5_takeSigned 33 = .ok (.iconst 1, 1) := by decide +kernel
theorem dX5_takeSigned_34 : decode cX5_takeSigned 34 = .ok (.invokevirtual 62, 3) := by decide +kernel
theorem dX5_takeSigned_37 : decode cX5_takeSigned 37 = .ok (.ireturn, 1) := by decide +kernel
theorem dX5_takeSigned_38 : decode cX5_takeSigned 38 = .ok (.aload_n 0, 1) := by decide +kernel
theorem dX5_takeSigned_39 : decode cX5_takeSigned 39 = .ok (.getfield 12, 3) := by decide +kernel
theorem dX5_takeSigned_42 : decode cX5_takeSigned 42 = .ok (.aload_n 0, 1) := by decide +kernel
theorem dX5_takeSigned_43 : decode cX5_takeSigned 43 = .ok (.getfield 36, 3) := by decide +kernel
theorem dX5_takeSigned_46 : decode cX5_takeSigned 46 = .ok (.invokevirtual 66, 3) := by decide +kernel
theorem dX5_takeSigned_49 : decode cX5_takeSigned 49 = .ok (.invokestatic 69, 3) := by decide +kernel
theorem dX5_takeSigned_52 : decode cX5_takeSigned 52 = .ok (.ifCond .ne 11, 3) := by decide +kernel
theorem dX5_takeSigned_55 : decode cX5_takeSigned 55 = .ok (.aload_n 0, 1) := by decide +kernel
theorem dX5_takeSigned_56 : decode cX5_takeSigned 56 = .ok (.iconst 2, 1) := by decide +kernel
theorem dX5_takeSigned_57 : decode cX5_takeSigned 57 = .ok (.invokevirtual 62, 3) := by decide +kernel
theorem dX5_takeSigned_60 : decode cX5_takeSigned 60 = .ok (.ifCond .eq 7, 3) := by decide +kernel
theorem dX5_takeSigned_63 : decode cX5_takeSigned 63 = .ok (.iconst 1, 1) := by decide +kernel
theorem dX5_takeSigned_64 : decode cX5_takeSigned 64 = .ok (.goto 4, 3) := by decide +kernel
theorem dX5_takeSigned_67 : decode cX5_takeSigned 67 = .ok (.iconst 0, 1) := by decide +kernel
theorem dX5_takeSigned_68 : decode cX5_takeSigned 68 = .ok (.ireturn, 1) := by decide +kernel
/-- QuotientSums$Reader.takeSigned()Z -/
def wX5_takeSigned (lines : Int32) (faulty : Int32) (place : Int32) (token : Int32) (toldOnce : Int32) (tape_fed : Int32) (tape_length : Int32) (tape_tokens : Int32) (tape_at : Int32) (tape_sorts : Nat → Int32) (tape_starts : Nat → Int32) (tape_contents : Nat → Int32)  (Q : (Int32) → (Int32) → (Int32) → (Int32) → Prop) : Prop :=
  (∀ token_1 : Int32, token_1 = token + 1 → ∃ (P_1 : (Int32) → Prop), wX9_sortOf tape_fed tape_length tape_tokens tape_at tape_sorts token_1 P_1 ∧ ∀ (rF_1 : Int32), P_1 rF_1 → (∃ (J_1 : Prop), ((rF_1 = 2 → (J_1)) ∧ (¬ rF_1 = 2 → ((rF_1 = 3 → (J_1)) ∧ (¬ rF_1 = 3 → (∃ (P_5 : (Int32) → (Int32) → (Int32) → Prop), wX5_refuse lines faulty place token_1 toldOnce tape_fed tape_length tape_tokens tape_at tape_starts 1 P_5 ∧ ∀ (rF_5 : Int32) (faulty_2 : Int32) (place_2 : Int32), P_5 rF_5 faulty_2 place_2 → ((rF_5 = 0 ∨ rF_5 = 1) ∧ Q rF_5 faulty_2 place_2 token_1)))))) ∧ (J_1 → (∃ (P_2 : (Int32) → Prop), wX9_contentOf tape_fed tape_length tape_tokens tape_at tape_contents token_1 P_2 ∧ ∀ (rF_2 : Int32), P_2 rF_2 → ∃ (P_3 : (Int32) → Prop), wX10_isTellable rF_2 P_3 ∧ ∀ (rF_3 : Int32), P_3 rF_3 → ((¬ rF_3 = 0 → (Q 1 faulty place token_1)) ∧ (rF_3 = 0 → (∃ (P_4 : (Int32) → (Int32) → (Int32) → Prop), wX5_refuse lines faulty place token_1 toldOnce tape_fed tape_length tape_tokens tape_at tape_starts 2 P_4 ∧ ∀ (rF_4 : Int32) (faulty_1 : Int32) (place_1 : Int32), P_4 rF_4 faulty_1 place_1 → ((rF_4 = 0 → (Q 0 faulty_1 place_1 token_1)) ∧ (¬ rF_4 = 0 → (Q 1 faulty_1 place_1 token_1))))))))))
set_option maxHeartbeats 4000000 in
set_option maxRecDepth 100000 in
theorem mX5_takeSigned (l : Launch) (D : va_G) (Y : Nat → ClassId) (h0 : Nat) (q_tape : Nat) (lines : Int32) (faulty : Int32) (place : Int32) (v_plan : Value) (token : Int32) (toldOnce : Int32) (tape_fed : Int32) (v_tape_bytes : Value) (q_tape_sorts : Nat) (q_tape_starts : Nat) (q_tape_contents : Nat) (tape_length : Int32) (tape_tokens : Int32) (tape_at : Int32) (tape_sorts : Nat → Int32) (tape_starts : Nat → Int32) (tape_contents : Nat → Int32)  (Q : (Int32) → (Int32) → (Int32) → (Int32) → Prop) (h : wX5_takeSigned lines faulty place token toldOnce tape_fed tape_length tape_tokens tape_at tape_sorts tape_starts tape_contents Q) : gM l D Y yX5_takeSigned cX5_takeSigned 2 (some .boolean) 2 42 0 0 [.ref h0] [oX5 h0 (.ref q_tape) lines faulty place (v_plan) token toldOnce, oX9 q_tape tape_fed (v_tape_bytes) (.ref q_tape_sorts) (.ref q_tape_starts) (.ref q_tape_contents) tape_length tape_tokens tape_at, aI Y q_tape_sorts 701 tape_sorts, aI Y q_tape_starts 701 tape_starts, aI Y q_tape_contents 701 tape_contents] (fun v w => ∃ r : Int32, ∃ faulty' : Int32, ∃ place' : Int32, ∃ token' : Int32, v = some (.int r) ∧ w = [oX5 h0 (.ref q_tape) lines faulty' place' (v_plan) token' toldOnce, oX9 q_tape tape_fed (v_tape_bytes) (.ref q_tape_sorts) (.ref q_tape_starts) (.ref q_tape_contents) tape_length tape_tokens tape_at, aI Y q_tape_sorts 701 tape_sorts, aI Y q_tape_starts 701 tape_starts, aI Y q_tape_contents 701 tape_contents] ∧ Q r faulty' place' token') := by
  refine gM_of (own := RX5) (by decide +kernel) rfl (Nat.le_of_ble_eq_true rfl) rfl (fun E C hR => ?_)
  unfold wX5_takeSigned at h
  refine g_aload_n C dX5_takeSigned_0 0 rfl ?_
  refine g_dup C dX5_takeSigned_1 rfl ?_
  refine g_get C inX5 0 rfl rfl 5 (by decide) wF_X5_36 rfl dX5_takeSigned_2 ?_
  refine g_iconst (v := 1) C dX5_takeSigned_5 rfl ?_
  refine g_iadd C dX5_takeSigned_6 ?_
  refine g_topi (fun token_1 etoken_1 => ?_)
  replace h := h token_1 etoken_1
  refine g_put C inX5 tyX5 tyX5_ok nmX5 0 rfl rfl 5 (by decide) wF_X5_36 rfl rfl rfl (Nat.le_of_ble_eq_true rfl) (ws' := [oX5 h0 (.ref q_tape) lines faulty place (v_plan) token_1 toldOnce, oX9 q_tape tape_fed (v_tape_bytes) (.ref q_tape_sorts) (.ref q_tape_starts) (.ref q_tape_contents) tape_length tape_tokens tape_at, aI Y q_tape_sorts 701 tape_sorts, aI Y q_tape_starts 701 tape_starts, aI Y q_tape_contents 701 tape_contents]) rfl dX5_takeSigned_7 ?_
  refine g_aload_n C dX5_takeSigned_10 0 rfl ?_
  refine g_get C inX5 0 rfl rfl 0 (by decide) wF_X5_12 rfl dX5_takeSigned_11 ?_
  refine g_aload_n C dX5_takeSigned_14 0 rfl ?_
  refine g_get C inX5 0 rfl rfl 5 (by decide) wF_X5_36 rfl dX5_takeSigned_15 ?_
  obtain ⟨P_1, hP, h⟩ := h
  refine g_callV (As := [.int token_1]) (rest := []) C (mX9_sortOf l D Y q_tape tape_fed v_tape_bytes q_tape_sorts (.ref q_tape_starts) (.ref q_tape_contents) tape_length tape_tokens tape_at tape_sorts token_1 P_1 hP) dX5_takeSigned_18 rfl wM_X5_48 wI_X9_sortOf wV_X9_sortOf wN_X9 wC_X9_sortOf (n := 1) (by decide +kernel) rfl (q0 := 0) rfl rfl ⟨Nat.le_of_ble_eq_true rfl, Nat.le_of_ble_eq_true rfl⟩ ⟨Nat.le_of_ble_eq_true rfl, Nat.le_of_ble_eq_true rfl⟩ (Nat.le_of_ble_eq_true rfl) [1, 2] [0, 3, 4] rfl rfl rfl (fun v wc hv => ?_)
  obtain ⟨rF_1, rfl, rfl, hq⟩ := hv
  replace h := h rF_1 hq
  refine gG.perm (ws' := [oX5 h0 (.ref q_tape) lines faulty place (v_plan) token_1 toldOnce, oX9 q_tape tape_fed (v_tape_bytes) (.ref q_tape_sorts) (.ref q_tape_starts) (.ref q_tape_contents) tape_length tape_tokens tape_at, aI Y q_tape_sorts 701 tape_sorts, aI Y q_tape_starts 701 tape_starts, aI Y q_tape_contents 701 tape_contents]) [0, 3, 4, 1, 2] rfl rfl ?_
  refine g_istore_n (lv' := [(1, .int rF_1), (0, .ref h0)]) C dX5_takeSigned_21 (by decide) rfl ?_
  refine g_iload_n C dX5_takeSigned_22 0 rfl ?_
  refine g_iconst (v := 2) C dX5_takeSigned_23 rfl ?_
  obtain ⟨J_1, hA, hB_J_1⟩ := h
  have key_1 : J_1 → gG E 0 0 [oX5 h0 (.ref q_tape) lines faulty place (v_plan) token_1 toldOnce, oX9 q_tape tape_fed (v_tape_bytes) (.ref q_tape_sorts) (.ref q_tape_starts) (.ref q_tape_contents) tape_length tape_tokens tape_at, aI Y q_tape_sorts 701 tape_sorts, aI Y q_tape_starts 701 tape_starts, aI Y q_tape_contents 701 tape_contents] [(0, .ref h0)] [] 38 := by
    intro  hJ
    have h := hB_J_1  hJ
    refine g_aload_n C dX5_takeSigned_38 0 rfl ?_
    refine g_get C inX5 0 rfl rfl 0 (by decide) wF_X5_12 rfl dX5_takeSigned_39 ?_
    refine g_aload_n C dX5_takeSigned_42 0 rfl ?_
    refine g_get C inX5 0 rfl rfl 5 (by decide) wF_X5_36 rfl dX5_takeSigned_43 ?_
    obtain ⟨P_2, hP, h⟩ := h
    refine g_callV (As := [.int token_1]) (rest := []) C (mX9_contentOf l D Y q_tape tape_fed v_tape_bytes (.ref q_tape_sorts) (.ref q_tape_starts) q_tape_contents tape_length tape_tokens tape_at tape_contents token_1 P_2 hP) dX5_takeSigned_46 rfl wM_X5_66 wI_X9_contentOf wV_X9_contentOf wN_X9 wC_X9_contentOf (n := 1) (by decide +kernel) rfl (q0 := 0) rfl rfl ⟨Nat.le_of_ble_eq_true rfl, Nat.le_of_ble_eq_true rfl⟩ ⟨Nat.le_of_ble_eq_true rfl, Nat.le_of_ble_eq_true rfl⟩ (Nat.le_of_ble_eq_true rfl) [1, 4] [0, 2, 3] rfl rfl rfl (fun v wc hv => ?_)
    obtain ⟨rF_2, rfl, rfl, hq⟩ := hv
    replace h := h rF_2 hq
    refine gG.perm (ws' := [oX5 h0 (.ref q_tape) lines faulty place (v_plan) token_1 toldOnce, oX9 q_tape tape_fed (v_tape_bytes) (.ref q_tape_sorts) (.ref q_tape_starts) (.ref q_tape_contents) tape_length tape_tokens tape_at, aI Y q_tape_sorts 701 tape_sorts, aI Y q_tape_starts 701 tape_starts, aI Y q_tape_contents 701 tape_contents]) [0, 3, 1, 2, 4] rfl rfl ?_
    obtain ⟨P_3, hP, h⟩ := h
    refine g_callSN (As := [.int rF_2]) (rest := []) C (mX10_isTellable l D Y rF_2 P_3 hP) dX5_takeSigned_49 rfl wNM_X5_69 wS_X10_isTellable wN_X10 wC_X10_isTellable (n := 1) (by decide +kernel) rfl ⟨Nat.le_of_ble_eq_true rfl, Nat.le_of_ble_eq_true rfl⟩ ⟨Nat.le_of_ble_eq_true rfl, Nat.le_of_ble_eq_true rfl⟩ (Nat.le_of_ble_eq_true rfl) [] [0, 1, 2, 3, 4] rfl rfl rfl (fun v wc hv => ?_)
    obtain ⟨rF_3, rfl, rfl, hq⟩ := hv
    replace h := h rF_3 hq
    refine gG.eqw (ws' := [oX5 h0 (.ref q_tape) lines faulty place (v_plan) token_1 toldOnce, oX9 q_tape tape_fed (v_tape_bytes) (.ref q_tape_sorts) (.ref q_tape_starts) (.ref q_tape_contents) tape_length tape_tokens tape_at, aI Y q_tape_sorts 701 tape_sorts, aI Y q_tape_starts 701 tape_starts, aI Y q_tape_contents 701 tape_contents]) rfl ?_
    refine g_if_ne (tgt := 63) C dX5_takeSigned_52 (by decide) (fun c_1 => ?_) (fun c_1 => ?_)
    · replace h := h.1 c_1
      refine g_iconst (v := 1) C dX5_takeSigned_63 rfl ?_
      refine g_goto (tgt := 68) C dX5_takeSigned_64 (by decide) ?_
      exact g_zret C hR (by decide) (Nat.le_of_ble_eq_true rfl) (Nat.le_of_ble_eq_true rfl) dX5_takeSigned_68 ⟨1, faulty, place, token_1, rfl, rfl, h⟩
    · replace h := h.2 c_1
      refine g_aload_n C dX5_takeSigned_55 0 rfl ?_
      refine g_iconst (v := 2) C dX5_takeSigned_56 rfl ?_
      obtain ⟨P_4, hP, h⟩ := h
      refine g_callV (As := [.int 2]) (rest := []) C (mX5_refuse l D Y h0 q_tape lines faulty place v_plan token_1 toldOnce tape_fed v_tape_bytes (.ref q_tape_sorts) q_tape_starts (.ref q_tape_contents) tape_length tape_tokens tape_at tape_starts 2 P_4 hP) dX5_takeSigned_57 rfl wM_X5_62 wI_X5_refuse wV_X5_refuse wN_X5 wC_X5_refuse (n := 1) (by decide +kernel) rfl (q0 := 0) rfl rfl ⟨Nat.le_of_ble_eq_true rfl, Nat.le_of_ble_eq_true rfl⟩ ⟨Nat.le_of_ble_eq_true rfl, Nat.le_of_ble_eq_true rfl⟩ (Nat.le_of_ble_eq_true rfl) [0, 1, 3] [2, 4] rfl rfl rfl (fun v wc hv => ?_)
      obtain ⟨rF_4, faulty_1, place_1, rfl, rfl, hq⟩ := hv
      replace h := h rF_4 faulty_1 place_1 hq
      refine gG.perm (ws' := [oX5 h0 (.ref q_tape) lines faulty_1 place_1 (v_plan) token_1 toldOnce, oX9 q_tape tape_fed (v_tape_bytes) (.ref q_tape_sorts) (.ref q_tape_starts) (.ref q_tape_contents) tape_length tape_tokens tape_at, aI Y q_tape_sorts 701 tape_sorts, aI Y q_tape_starts 701 tape_starts, aI Y q_tape_contents 701 tape_contents]) [2, 3, 0, 4, 1] rfl rfl ?_
      refine g_if_eq (tgt := 67) C dX5_takeSigned_60 (by decide) (fun c_2 => ?_) (fun c_2 => ?_)
      · replace h := h.1 c_2
        refine g_iconst (v := 0) C dX5_takeSigned_67 rfl ?_
        exact g_zret C hR (by decide) (Nat.le_of_ble_eq_true rfl) (Nat.le_of_ble_eq_true rfl) dX5_takeSigned_68 ⟨0, faulty_1, place_1, token_1, rfl, rfl, h⟩
      · replace h := h.2 c_2
        refine g_iconst (v := 1) C dX5_takeSigned_63 rfl ?_
        refine g_goto (tgt := 68) C dX5_takeSigned_64 (by decide) ?_
        exact g_zret C hR (by decide) (Nat.le_of_ble_eq_true rfl) (Nat.le_of_ble_eq_true rfl) dX5_takeSigned_68 ⟨1, faulty_1, place_1, token_1, rfl, rfl, h⟩
  replace h := hA
  refine g_icmp_eq (tgt := 38) C dX5_takeSigned_24 (by decide) (fun c_3 => ?_) (fun c_3 => ?_)
  · replace h := h.1 c_3
    refine gG.locals (lv' := [(0, .ref h0)]) [1] rfl ?_
    exact key_1 h
  · replace h := h.2 c_3
    refine g_iload_n C dX5_takeSigned_27 0 rfl ?_
    refine g_iconst (v := 3) C dX5_takeSigned_28 rfl ?_
    refine g_icmp_eq (tgt := 38) C dX5_takeSigned_29 (by decide) (fun c_4 => ?_) (fun c_4 => ?_)
    · replace h := h.1 c_4
      refine gG.locals (lv' := [(0, .ref h0)]) [1] rfl ?_
      exact key_1 h
    · replace h := h.2 c_4
      refine g_aload_n C dX5_takeSigned_32 1 rfl ?_
      refine g_iconst (v := 1) C dX5_takeSigned_33 rfl ?_
      obtain ⟨P_5, hP, h⟩ := h
      refine g_callV (As := [.int 1]) (rest := []) C (mX5_refuse l D Y h0 q_tape lines faulty place v_plan token_1 toldOnce tape_fed v_tape_bytes (.ref q_tape_sorts) q_tape_starts (.ref q_tape_contents) tape_length tape_tokens tape_at tape_starts 1 P_5 hP) dX5_takeSigned_34 rfl wM_X5_62 wI_X5_refuse wV_X5_refuse wN_X5 wC_X5_refuse (n := 1) (by decide +kernel) rfl (q0 := 0) rfl rfl ⟨Nat.le_of_ble_eq_true rfl, Nat.le_of_ble_eq_true rfl⟩ ⟨Nat.le_of_ble_eq_true rfl, Nat.le_of_ble_eq_true rfl⟩ (Nat.le_of_ble_eq_true rfl) [0, 1, 3] [2, 4] rfl rfl rfl (fun v wc hv => ?_)
      obtain ⟨rF_5, faulty_2, place_2, rfl, rfl, hq⟩ := hv
      replace h := h rF_5 faulty_2 place_2 hq
      refine gG.perm (ws' := [oX5 h0 (.ref q_tape) lines faulty_2 place_2 (v_plan) token_1 toldOnce, oX9 q_tape tape_fed (v_tape_bytes) (.ref q_tape_sorts) (.ref q_tape_starts) (.ref q_tape_contents) tape_length tape_tokens tape_at, aI Y q_tape_sorts 701 tape_sorts, aI Y q_tape_starts 701 tape_starts, aI Y q_tape_contents 701 tape_contents]) [2, 3, 0, 4, 1] rfl rfl ?_
      obtain ⟨hz, h⟩ := h
      exact g_zret C hR hz (Nat.le_of_ble_eq_true rfl) (Nat.le_of_ble_eq_true rfl) dX5_takeSigned_37 ⟨rF_5, faulty_2, place_2, token_1, rfl, rfl, h⟩
theorem dX5_readAt_0 : decode cX5_readAt 0 = .ok (.aload_n 0, 1) := by decide +kernel
theorem dX5_readAt_1 : decode cX5_readAt 1 = .ok (.invokevirtual 112, 3) := by decide +kernel
theorem dX5_readAt_4 : decode cX5_readAt 4 = .ok (.istore_n 1, 1) := by decide +kernel
theorem dX5_readAt_5 : decode cX5_readAt 5 = .ok (.iload_n 1, 1) := by decide +kernel
theorem dX5_readAt_6 : decode cX5_readAt 6 = .ok (.iconst (-1), 1) := by decide +kernel
theorem dX5_readAt_7 : decode cX5_readAt 7 = .ok (.if_icmp .ne 5, 3) := by decide +kernel
theorem dX5_readAt_10 : decode cX5_readAt 10 = .ok (.iconst 0, 1) := by decide +kernel
theorem dX5_readAt_11 : decode cX5_readAt 11 = .ok (.ireturn, 1) := by decide +kernel
theorem dX5_readAt_12 : decode cX5_readAt 12 = .ok (.aload_n 0, 1) := by decide +kernel
theorem dX5_readAt_13 : decode cX5_readAt 13 = .ok (.getfield 25, 3) := by decide +kernel
theorem dX5_readAt_16 : decode cX5_readAt 16 = .ok (.iload_n 1, 1) := by decide +kernel
theorem dX5_readAt_17 : decode cX5_readAt 17 = .ok (.invokevirtual 116, 3) := by decide +kernel
theorem dX5_readAt_20 : decode cX5_readAt 20 = .ok (.ifCond .ne 9, 3) := by decide +kernel
theorem dX5_readAt_23 : decode cX5_readAt 23 = .ok (.aload_n 0, 1) := by decide +kernel
theorem dX5_readAt_24 : decode cX5_readAt 24 = .ok (.iconst 4, 1) := by decide +kernel
theorem dX5_readAt_25 : decode cX5_readAt 25 = .ok (.invokevirtual 62, 3) := by decide +kernel
theorem dX5_readAt_28 : decode cX5_readAt 28 = .ok (.ireturn, 1) := by decide +kernel
theorem dX5_readAt_29 : decode cX5_readAt 29 = .ok (.aload_n 0, 1) := by decide +kernel
theorem dX5_readAt_30 : decode cX5_readAt 30 = .ok (.iconst 1, 1) := by decide +kernel
theorem dX5_readAt_31 : decode cX5_readAt 31 = .ok (.bipush 6, 2) := by decide +kernel
theorem dX5_readAt_33 : decode cX5_readAt 33 = .ok (.invokevirtual 97, 3) := by decide +kernel
theorem dX5_readAt_36 : decode cX5_readAt 36 = .ok (.ifCond .ne 5, 3) := by decide +kernel
theorem dX5_readAt_39 : decode cX5_readAt 39 = .ok (.iconst 0, 1) := by decide +kernel
theorem dX5_readAt_40 : decode cX5_readAt 40 = .ok (.ireturn, 1) := by decide +kernel
theorem dX5_readAt_41 : decode cX5_readAt 41 = .ok (.iload_n 1, 1) := by decide +kernel
theorem dX5_readAt_42 : decode cX5_readAt 42 = .ok (.aload_n 0, 1) := by decide +kernel
theorem dX5_readAt_43 : decode cX5_readAt 43 = .ok (.getfield 12, 3) := by decide +kernel
theorem dX5_readAt_46 : decode cX5_readAt 46 = .ok (.aload_n 0, 1) := by decide +kernel
theorem dX5_readAt_47 : decode cX5_readAt 47 = .ok (.getfield 36, 3) := by decide +kernel
theorem dX5_readAt_50 : decode cX5_readAt 50 = .ok (.invokevirtual 66, 3) := by decide +kernel
theorem dX5_readAt_53 : decode cX5_readAt 53 = .ok (.invokestatic 119, 3) := by decide +kernel
theorem dX5_readAt_56 : decode cX5_readAt 56 = .ok (.istore_n 2, 1) := by decide +kernel
theorem dX5_readAt_57 : decode cX5_readAt 57 = .ok (.aload_n 0, 1) := by decide +kernel
theorem dX5_readAt_58 : decode cX5_readAt 58 = .ok (.invokevirtual 123, 3) := by decide +kernel
theorem dX5_readAt_61 : decode cX5_readAt 61 = .ok (.ifCond .eq 10, 3) := by decide +kernel
theorem dX5_readAt_64 : decode cX5_readAt 64 = .ok (.aload_n 0, 1) := by decide +kernel
theorem dX5_readAt_65 : decode cX5_readAt 65 = .ok (.invokevirtual 123, 3) := by decide +kernel
theorem dX5_readAt_68 : decode cX5_readAt 68 = .ok (.ifCond .ne 5, 3) := by decide +kernel
theorem dX5_readAt_71 : decode cX5_readAt 71 = .ok (.iconst 0, 1) := by decide +kernel
theorem dX5_readAt_72 : decode cX5_readAt 72 = .ok (.ireturn, 1) := by decide +kernel
theorem dX5_readAt_73 : decode cX5_readAt 73 = .ok (.aload_n 0, 1) := by decide +kernel
theorem dX5_readAt_74 : decode cX5_readAt 74 = .ok (.getfield 25, 3) := by decide +kernel
theorem dX5_readAt_77 : decode cX5_readAt 77 = .ok (.getfield 126, 3) := by decide +kernel
theorem dX5_readAt_80 : decode cX5_readAt 80 = .ok (.iload_n 2, 1) := by decide +kernel
theorem dX5_readAt_81 : decode cX5_readAt 81 = .ok (.aload_n 0, 1) := by decide +kernel
theorem dX5_readAt_82 : decode cX5_readAt 82 = .ok (.getfield 12, 3) := by decide +kernel
theorem dX5_readAt_85 : decode cX5_readAt 85 = .ok (.aload_n 0, 1) := by decide +kernel
theorem dX5_readAt_86 : decode cX5_readAt 86 = .ok (.getfield 36, 3) := by decide +kernel
theorem dX5_readAt_89 : decode cX5_readAt 89 = .ok (.iconst 1, 1) := by decide +kernel
theorem dX5_readAt_90 : decode cX5_readAt 90 = .ok (.isub, 1) := by decide +kernel
theorem dX5_readAt_91 : decode cX5_readAt 91 = .ok (.invokevirtual 66, 3) := by decide +kernel
theorem dX5_readAt_94 : decode cX5_readAt 94 = .ok (.iastore, 1) := by decide +kernel
theorem dX5_readAt_95 : decode cX5_readAt 95 = .ok (.aload_n 0, 1) := by decide +kernel
theorem dX5_readAt_96 : decode cX5_readAt 96 = .ok (.getfield 25, 3) := by decide +kernel
theorem dX5_readAt_99 : decode cX5_readAt 99 = .ok (.getfield 126, 3) := by decide +kernel
theorem dX5_readAt_102 : decode cX5_readAt 102 = .ok (.iload_n 2, 1) := by decide +kernel
theorem dX5_readAt_103 : decode cX5_readAt 103 = .ok (.iconst 1, 1) := by decide +kernel
theorem dX5_readAt_104 : decode cX5_readAt 104 = .ok (.iadd, 1) := by decide +kernel
theorem dX5_readAt_105 : decode cX5_readAt 105 = .ok (.aload_n 0, 1) := by decide +kernel
theorem dX5_readAt_106 : decode cX5_readAt 106 = .ok (.getfield 12, 3) := by decide +kernel
theorem dX5_readAt_109 : decode cX5_readAt 109 = .ok (.aload_n 0, 1) := by decide +kernel
theorem dX5_readAt_110 : decode cX5_readAt 110 = .ok (.getfield 36, 3) := by decide +kernel
theorem dX5_readAt_113 : decode cX5_readAt 113 = .ok (.invokevirtual 66, 3) := by decide +kernel
theorem dX5_readAt_116 : decode cX5_readAt 116 = .ok (.iastore, 1) := by decide +kernel
theorem dX5_readAt_117 : decode cX5_readAt 117 = .ok (.iconst 1, 1) := by decide +kernel
theorem dX5_readAt_118 : decode cX5_readAt 118 = .ok (.ireturn, 1) := by decide +kernel
/-- QuotientSums$Reader.readAt()Z -/
def wX5_readAt (lines : Int32) (faulty : Int32) (place : Int32) (token : Int32) (toldOnce : Int32) (tape_fed : Int32) (tape_length : Int32) (tape_tokens : Int32) (tape_at : Int32) (tape_sorts : Nat → Int32) (tape_contents : Nat → Int32) (plan_bound : Int32) (plan_modulus : Int32) (plan_seed : Int32) (plan_functions : Int32) (plan_names : Nat → Int32) (tape_starts : Nat → Int32) (plan_kinds : Nat → Int32) (plan_numbers : Nat → Int32)  (Q : (Int32) → (Int32) → (Int32) → (Int32) → (Nat → Int32) → Prop) : Prop :=
  (∃ (P_1 : (Int32) → (Int32) → (Int32) → (Int32) → Prop), wX5_takeFunction lines faulty place token toldOnce tape_fed tape_length tape_tokens tape_at tape_sorts tape_contents plan_bound plan_modulus plan_seed plan_functions plan_names tape_starts P_1 ∧ ∀ (rF_1 : Int32) (faulty_1 : Int32) (place_1 : Int32) (token_1 : Int32), P_1 rF_1 faulty_1 place_1 token_1 → ((¬ rF_1 = (-1) → (∃ (P_2 : (Int32) → Prop), wX3_isOwn plan_bound plan_modulus plan_seed plan_functions plan_kinds rF_1 P_2 ∧ ∀ (rF_2 : Int32), P_2 rF_2 → ((¬ rF_2 = 0 → (∃ (P_3 : (Int32) → (Int32) → (Int32) → (Int32) → Prop), wX5_takeNumber lines faulty_1 place_1 token_1 toldOnce tape_fed tape_length tape_tokens tape_at tape_sorts tape_contents tape_starts 1 6 P_3 ∧ ∀ (rF_3 : Int32) (faulty_2 : Int32) (place_2 : Int32) (token_2 : Int32), P_3 rF_3 faulty_2 place_2 token_2 → ((¬ rF_3 = 0 → (∃ (P_4 : (Int32) → Prop), wX9_contentOf tape_fed tape_length tape_tokens tape_at tape_contents token_2 P_4 ∧ ∀ (rF_4 : Int32), P_4 rF_4 → ∃ (P_5 : (Int32) → Prop), wX3_cell rF_1 rF_4 P_5 ∧ ∀ (rF_5 : Int32), P_5 rF_5 → ∃ (P_6 : (Int32) → (Int32) → (Int32) → (Int32) → Prop), wX5_takeSigned lines faulty_2 place_2 token_2 toldOnce tape_fed tape_length tape_tokens tape_at tape_sorts tape_starts tape_contents P_6 ∧ ∀ (rF_6 : Int32) (faulty_3 : Int32) (place_3 : Int32) (token_3 : Int32), P_6 rF_6 faulty_3 place_3 token_3 → ((rF_6 = 0 → (Q 0 faulty_3 place_3 token_3 plan_numbers)) ∧ (¬ rF_6 = 0 → (∃ (P_7 : (Int32) → (Int32) → (Int32) → (Int32) → Prop), wX5_takeSigned lines faulty_3 place_3 token_3 toldOnce tape_fed tape_length tape_tokens tape_at tape_sorts tape_starts tape_contents P_7 ∧ ∀ (rF_7 : Int32) (faulty_4 : Int32) (place_4 : Int32) (token_4 : Int32), P_7 rF_7 faulty_4 place_4 token_4 → ((¬ rF_7 = 0 → (∃ (P_8 : (Int32) → Prop), wX9_contentOf tape_fed tape_length tape_tokens tape_at tape_contents (token_4 - 1) P_8 ∧ ∀ (rF_8 : Int32), P_8 rF_8 → vp_in rF_5 144 ∧ ∀ plan_numbers_1 : Nat → Int32, plan_numbers_1 = upd plan_numbers rF_5.toNatClampNeg rF_8 → ∃ (P_9 : (Int32) → Prop), wX9_contentOf tape_fed tape_length tape_tokens tape_at tape_contents token_4 P_9 ∧ ∀ (rF_9 : Int32), P_9 rF_9 → vp_in (rF_5 + 1) 144 ∧ ∀ plan_numbers_2 : Nat → Int32, plan_numbers_2 = upd plan_numbers_1 (rF_5 + 1).toNatClampNeg rF_9 → (Q 1 faulty_4 place_4 token_4 plan_numbers_2))) ∧ (rF_7 = 0 → (Q 0 faulty_4 place_4 token_4 plan_numbers)))))))) ∧ (rF_3 = 0 → (Q 0 faulty_2 place_2 token_2 plan_numbers))))) ∧ (rF_2 = 0 → (∃ (P_10 : (Int32) → (Int32) → (Int32) → Prop), wX5_refuse lines faulty_1 place_1 token_1 toldOnce tape_fed tape_length tape_tokens tape_at tape_starts 4 P_10 ∧ ∀ (rF_10 : Int32) (faulty_5 : Int32) (place_5 : Int32), P_10 rF_10 faulty_5 place_5 → ((rF_10 = 0 ∨ rF_10 = 1) ∧ Q rF_10 faulty_5 place_5 token_1 plan_numbers)))))) ∧ (rF_1 = (-1) → (Q 0 faulty_1 place_1 token_1 plan_numbers))))
set_option maxHeartbeats 4000000 in
set_option maxRecDepth 100000 in
theorem mX5_readAt (l : Launch) (D : va_G) (Y : Nat → ClassId) (h0 : Nat) (q_tape : Nat) (lines : Int32) (faulty : Int32) (place : Int32) (q_plan : Nat) (token : Int32) (toldOnce : Int32) (tape_fed : Int32) (v_tape_bytes : Value) (q_tape_sorts : Nat) (q_tape_starts : Nat) (q_tape_contents : Nat) (tape_length : Int32) (tape_tokens : Int32) (tape_at : Int32) (tape_sorts : Nat → Int32) (tape_contents : Nat → Int32) (plan_bound : Int32) (plan_modulus : Int32) (plan_seed : Int32) (plan_functions : Int32) (q_plan_names : Nat) (q_plan_kinds : Nat) (v_plan_firsts : Value) (v_plan_seconds : Value) (v_plan_degrees : Value) (v_plan_colours : Value) (v_plan_needs : Value) (q_plan_numbers : Nat) (plan_names : Nat → Int32) (tape_starts : Nat → Int32) (plan_kinds : Nat → Int32) (plan_numbers : Nat → Int32)  (Q : (Int32) → (Int32) → (Int32) → (Int32) → (Nat → Int32) → Prop) (h : wX5_readAt lines faulty place token toldOnce tape_fed tape_length tape_tokens tape_at tape_sorts tape_contents plan_bound plan_modulus plan_seed plan_functions plan_names tape_starts plan_kinds plan_numbers Q) : gM l D Y yX5_readAt cX5_readAt 3 (some .boolean) 3 65 0 0 [.ref h0] [oX5 h0 (.ref q_tape) lines faulty place (.ref q_plan) token toldOnce, oX9 q_tape tape_fed (v_tape_bytes) (.ref q_tape_sorts) (.ref q_tape_starts) (.ref q_tape_contents) tape_length tape_tokens tape_at, aI Y q_tape_sorts 701 tape_sorts, aI Y q_tape_contents 701 tape_contents, oX3 q_plan plan_bound plan_modulus plan_seed plan_functions (.ref q_plan_names) (.ref q_plan_kinds) (v_plan_firsts) (v_plan_seconds) (v_plan_degrees) (v_plan_colours) (v_plan_needs) (.ref q_plan_numbers), aI Y q_plan_names 12 plan_names, aI Y q_tape_starts 701 tape_starts, aI Y q_plan_kinds 12 plan_kinds, aI Y q_plan_numbers 144 plan_numbers] (fun v w => ∃ r : Int32, ∃ faulty' : Int32, ∃ place' : Int32, ∃ token' : Int32, ∃ plan_numbers' : Nat → Int32, v = some (.int r) ∧ w = [oX5 h0 (.ref q_tape) lines faulty' place' (.ref q_plan) token' toldOnce, oX9 q_tape tape_fed (v_tape_bytes) (.ref q_tape_sorts) (.ref q_tape_starts) (.ref q_tape_contents) tape_length tape_tokens tape_at, aI Y q_tape_sorts 701 tape_sorts, aI Y q_tape_contents 701 tape_contents, oX3 q_plan plan_bound plan_modulus plan_seed plan_functions (.ref q_plan_names) (.ref q_plan_kinds) (v_plan_firsts) (v_plan_seconds) (v_plan_degrees) (v_plan_colours) (v_plan_needs) (.ref q_plan_numbers), aI Y q_plan_names 12 plan_names, aI Y q_tape_starts 701 tape_starts, aI Y q_plan_kinds 12 plan_kinds, aI Y q_plan_numbers 144 plan_numbers'] ∧ Q r faulty' place' token' plan_numbers') := by
  refine gM_of (own := RX5) (by decide +kernel) rfl (Nat.le_of_ble_eq_true rfl) rfl (fun E C hR => ?_)
  unfold wX5_readAt at h
  refine g_aload_n C dX5_readAt_0 0 rfl ?_
  obtain ⟨P_1, hP, h⟩ := h
  refine g_callV (As := []) (rest := []) C (mX5_takeFunction l D Y h0 q_tape lines faulty place q_plan token toldOnce tape_fed v_tape_bytes q_tape_sorts q_tape_starts q_tape_contents tape_length tape_tokens tape_at tape_sorts tape_contents plan_bound plan_modulus plan_seed plan_functions q_plan_names (.ref q_plan_kinds) v_plan_firsts v_plan_seconds v_plan_degrees v_plan_colours v_plan_needs (.ref q_plan_numbers) plan_names tape_starts P_1 hP) dX5_readAt_1 rfl wM_X5_112 wI_X5_takeFunction wV_X5_takeFunction wN_X5 wC_X5_takeFunction (n := 0) (by decide +kernel) rfl (q0 := 0) rfl rfl ⟨Nat.le_of_ble_eq_true rfl, Nat.le_of_ble_eq_true rfl⟩ ⟨Nat.le_of_ble_eq_true rfl, Nat.le_of_ble_eq_true rfl⟩ (Nat.le_of_ble_eq_true rfl) [0, 1, 2, 3, 4, 5, 6] [7, 8] rfl rfl rfl (fun v wc hv => ?_)
  obtain ⟨rF_1, faulty_1, place_1, token_1, rfl, rfl, hq⟩ := hv
  replace h := h rF_1 faulty_1 place_1 token_1 hq
  refine gG.perm (ws' := [oX5 h0 (.ref q_tape) lines faulty_1 place_1 (.ref q_plan) token_1 toldOnce, oX9 q_tape tape_fed (v_tape_bytes) (.ref q_tape_sorts) (.ref q_tape_starts) (.ref q_tape_contents) tape_length tape_tokens tape_at, aI Y q_tape_sorts 701 tape_sorts, aI Y q_tape_contents 701 tape_contents, oX3 q_plan plan_bound plan_modulus plan_seed plan_functions (.ref q_plan_names) (.ref q_plan_kinds) (v_plan_firsts) (v_plan_seconds) (v_plan_degrees) (v_plan_colours) (v_plan_needs) (.ref q_plan_numbers), aI Y q_plan_names 12 plan_names, aI Y q_tape_starts 701 tape_starts, aI Y q_plan_kinds 12 plan_kinds, aI Y q_plan_numbers 144 plan_numbers]) [2, 3, 4, 5, 6, 7, 8, 0, 1] rfl rfl ?_
  refine g_istore_n (lv' := [(1, .int rF_1), (0, .ref h0)]) C dX5_readAt_4 (by decide) rfl ?_
  refine g_iload_n C dX5_readAt_5 0 rfl ?_
  refine g_iconst (v := (-1)) C dX5_readAt_6 rfl ?_
  refine g_icmp_ne (tgt := 12) C dX5_readAt_7 (by decide) (fun c_1 => ?_) (fun c_1 => ?_)
  · replace h := h.1 c_1
    refine g_aload_n C dX5_readAt_12 1 rfl ?_
    refine g_get C inX5 0 rfl rfl 4 (by decide) wF_X5_25 rfl dX5_readAt_13 ?_
    refine g_iload_n C dX5_readAt_16 0 rfl ?_
    obtain ⟨P_2, hP, h⟩ := h
    refine g_callV (As := [.int rF_1]) (rest := []) C (mX3_isOwn l D Y q_plan plan_bound plan_modulus plan_seed plan_functions (.ref q_plan_names) q_plan_kinds v_plan_firsts v_plan_seconds v_plan_degrees v_plan_colours v_plan_needs (.ref q_plan_numbers) plan_kinds rF_1 P_2 hP) dX5_readAt_17 rfl wM_X5_116 wI_X3_isOwn wV_X3_isOwn wN_X3 wC_X3_isOwn (n := 1) (by decide +kernel) rfl (q0 := 0) rfl rfl ⟨Nat.le_of_ble_eq_true rfl, Nat.le_of_ble_eq_true rfl⟩ ⟨Nat.le_of_ble_eq_true rfl, Nat.le_of_ble_eq_true rfl⟩ (Nat.le_of_ble_eq_true rfl) [4, 7] [0, 1, 2, 3, 5, 6, 8] rfl rfl rfl (fun v wc hv => ?_)
    obtain ⟨rF_2, rfl, rfl, hq⟩ := hv
    replace h := h rF_2 hq
    refine gG.perm (ws' := [oX5 h0 (.ref q_tape) lines faulty_1 place_1 (.ref q_plan) token_1 toldOnce, oX9 q_tape tape_fed (v_tape_bytes) (.ref q_tape_sorts) (.ref q_tape_starts) (.ref q_tape_contents) tape_length tape_tokens tape_at, aI Y q_tape_sorts 701 tape_sorts, aI Y q_tape_contents 701 tape_contents, oX3 q_plan plan_bound plan_modulus plan_seed plan_functions (.ref q_plan_names) (.ref q_plan_kinds) (v_plan_firsts) (v_plan_seconds) (v_plan_degrees) (v_plan_colours) (v_plan_needs) (.ref q_plan_numbers), aI Y q_plan_names 12 plan_names, aI Y q_tape_starts 701 tape_starts, aI Y q_plan_kinds 12 plan_kinds, aI Y q_plan_numbers 144 plan_numbers]) [0, 1, 2, 3, 7, 4, 5, 8, 6] rfl rfl ?_
    refine g_if_ne (tgt := 29) C dX5_readAt_20 (by decide) (fun c_2 => ?_) (fun c_2 => ?_)
    · replace h := h.1 c_2
      refine g_aload_n C dX5_readAt_29 1 rfl ?_
      refine g_iconst (v := 1) C dX5_readAt_30 rfl ?_
      refine g_bipush (v := 6) C dX5_readAt_31 rfl ?_
      obtain ⟨P_3, hP, h⟩ := h
      refine g_callV (As := [.int 1, .int 6]) (rest := []) C (mX5_takeNumber l D Y h0 q_tape lines faulty_1 place_1 (.ref q_plan) token_1 toldOnce tape_fed v_tape_bytes q_tape_sorts q_tape_starts q_tape_contents tape_length tape_tokens tape_at tape_sorts tape_contents tape_starts 1 6 P_3 hP) dX5_readAt_33 rfl wM_X5_97 wI_X5_takeNumber wV_X5_takeNumber wN_X5 wC_X5_takeNumber (n := 2) (by decide +kernel) rfl (q0 := 0) rfl rfl ⟨Nat.le_of_ble_eq_true rfl, Nat.le_of_ble_eq_true rfl⟩ ⟨Nat.le_of_ble_eq_true rfl, Nat.le_of_ble_eq_true rfl⟩ (Nat.le_of_ble_eq_true rfl) [0, 1, 2, 3, 6] [4, 5, 7, 8] rfl rfl rfl (fun v wc hv => ?_)
      obtain ⟨rF_3, faulty_2, place_2, token_2, rfl, rfl, hq⟩ := hv
      replace h := h rF_3 faulty_2 place_2 token_2 hq
      refine gG.perm (ws' := [oX5 h0 (.ref q_tape) lines faulty_2 place_2 (.ref q_plan) token_2 toldOnce, oX9 q_tape tape_fed (v_tape_bytes) (.ref q_tape_sorts) (.ref q_tape_starts) (.ref q_tape_contents) tape_length tape_tokens tape_at, aI Y q_tape_sorts 701 tape_sorts, aI Y q_tape_contents 701 tape_contents, oX3 q_plan plan_bound plan_modulus plan_seed plan_functions (.ref q_plan_names) (.ref q_plan_kinds) (v_plan_firsts) (v_plan_seconds) (v_plan_degrees) (v_plan_colours) (v_plan_needs) (.ref q_plan_numbers), aI Y q_plan_names 12 plan_names, aI Y q_tape_starts 701 tape_starts, aI Y q_plan_kinds 12 plan_kinds, aI Y q_plan_numbers 144 plan_numbers]) [4, 5, 6, 7, 0, 1, 8, 2, 3] rfl rfl ?_
      refine g_if_ne (tgt := 41) C dX5_readAt_36 (by decide) (fun c_3 => ?_) (fun c_3 => ?_)
      · replace h := h.1 c_3
        refine g_iload_n C dX5_readAt_41 0 rfl ?_
        refine g_aload_n C dX5_readAt_42 1 rfl ?_
        refine g_get C inX5 0 rfl rfl 0 (by decide) wF_X5_12 rfl dX5_readAt_43 ?_
        refine g_aload_n C dX5_readAt_46 1 rfl ?_
        refine g_get C inX5 0 rfl rfl 5 (by decide) wF_X5_36 rfl dX5_readAt_47 ?_
        obtain ⟨P_4, hP, h⟩ := h
        refine g_callV (As := [.int token_2]) (rest := [.int rF_1]) C (mX9_contentOf l D Y q_tape tape_fed v_tape_bytes (.ref q_tape_sorts) (.ref q_tape_starts) q_tape_contents tape_length tape_tokens tape_at tape_contents token_2 P_4 hP) dX5_readAt_50 rfl wM_X5_66 wI_X9_contentOf wV_X9_contentOf wN_X9 wC_X9_contentOf (n := 1) (by decide +kernel) rfl (q0 := 0) rfl rfl ⟨Nat.le_of_ble_eq_true rfl, Nat.le_of_ble_eq_true rfl⟩ ⟨Nat.le_of_ble_eq_true rfl, Nat.le_of_ble_eq_true rfl⟩ (Nat.le_of_ble_eq_true rfl) [1, 3] [0, 2, 4, 5, 6, 7, 8] rfl rfl rfl (fun v wc hv => ?_)
        obtain ⟨rF_4, rfl, rfl, hq⟩ := hv
        replace h := h rF_4 hq
        refine gG.perm (ws' := [oX5 h0 (.ref q_tape) lines faulty_2 place_2 (.ref q_plan) token_2 toldOnce, oX9 q_tape tape_fed (v_tape_bytes) (.ref q_tape_sorts) (.ref q_tape_starts) (.ref q_tape_contents) tape_length tape_tokens tape_at, aI Y q_tape_sorts 701 tape_sorts, aI Y q_tape_contents 701 tape_contents, oX3 q_plan plan_bound plan_modulus plan_seed plan_functions (.ref q_plan_names) (.ref q_plan_kinds) (v_plan_firsts) (v_plan_seconds) (v_plan_degrees) (v_plan_colours) (v_plan_needs) (.ref q_plan_numbers), aI Y q_plan_names 12 plan_names, aI Y q_tape_starts 701 tape_starts, aI Y q_plan_kinds 12 plan_kinds, aI Y q_plan_numbers 144 plan_numbers]) [0, 7, 1, 8, 2, 3, 4, 5, 6] rfl rfl ?_
        obtain ⟨P_5, hP, h⟩ := h
        refine g_callS (As := [.int rF_1, .int rF_4]) (rest := []) C (mX3_cell l D Y rF_1 rF_4 P_5 hP) dX5_readAt_53 rfl wM_X5_119 wS_X3_cell wN_X3 wC_X3_cell (n := 2) (by decide +kernel) rfl ⟨Nat.le_of_ble_eq_true rfl, Nat.le_of_ble_eq_true rfl⟩ ⟨Nat.le_of_ble_eq_true rfl, Nat.le_of_ble_eq_true rfl⟩ (Nat.le_of_ble_eq_true rfl) [] [0, 1, 2, 3, 4, 5, 6, 7, 8] rfl rfl rfl (fun v wc hv => ?_)
        obtain ⟨rF_5, rfl, rfl, hq⟩ := hv
        replace h := h rF_5 hq
        refine gG.eqw (ws' := [oX5 h0 (.ref q_tape) lines faulty_2 place_2 (.ref q_plan) token_2 toldOnce, oX9 q_tape tape_fed (v_tape_bytes) (.ref q_tape_sorts) (.ref q_tape_starts) (.ref q_tape_contents) tape_length tape_tokens tape_at, aI Y q_tape_sorts 701 tape_sorts, aI Y q_tape_contents 701 tape_contents, oX3 q_plan plan_bound plan_modulus plan_seed plan_functions (.ref q_plan_names) (.ref q_plan_kinds) (v_plan_firsts) (v_plan_seconds) (v_plan_degrees) (v_plan_colours) (v_plan_needs) (.ref q_plan_numbers), aI Y q_plan_names 12 plan_names, aI Y q_tape_starts 701 tape_starts, aI Y q_plan_kinds 12 plan_kinds, aI Y q_plan_numbers 144 plan_numbers]) rfl ?_
        refine g_istore_n (lv' := [(2, .int rF_5), (1, .int rF_1), (0, .ref h0)]) C dX5_readAt_56 (by decide) rfl ?_
        refine g_aload_n C dX5_readAt_57 2 rfl ?_
        obtain ⟨P_6, hP, h⟩ := h
        refine g_callV (As := []) (rest := []) C (mX5_takeSigned l D Y h0 q_tape lines faulty_2 place_2 (.ref q_plan) token_2 toldOnce tape_fed v_tape_bytes q_tape_sorts q_tape_starts q_tape_contents tape_length tape_tokens tape_at tape_sorts tape_starts tape_contents P_6 hP) dX5_readAt_58 rfl wM_X5_123 wI_X5_takeSigned wV_X5_takeSigned wN_X5 wC_X5_takeSigned (n := 0) (by decide +kernel) rfl (q0 := 0) rfl rfl ⟨Nat.le_of_ble_eq_true rfl, Nat.le_of_ble_eq_true rfl⟩ ⟨Nat.le_of_ble_eq_true rfl, Nat.le_of_ble_eq_true rfl⟩ (Nat.le_of_ble_eq_true rfl) [0, 1, 2, 6, 3] [4, 5, 7, 8] rfl rfl rfl (fun v wc hv => ?_)
        obtain ⟨rF_6, faulty_3, place_3, token_3, rfl, rfl, hq⟩ := hv
        replace h := h rF_6 faulty_3 place_3 token_3 hq
        refine gG.perm (ws' := [oX5 h0 (.ref q_tape) lines faulty_3 place_3 (.ref q_plan) token_3 toldOnce, oX9 q_tape tape_fed (v_tape_bytes) (.ref q_tape_sorts) (.ref q_tape_starts) (.ref q_tape_contents) tape_length tape_tokens tape_at, aI Y q_tape_sorts 701 tape_sorts, aI Y q_tape_contents 701 tape_contents, oX3 q_plan plan_bound plan_modulus plan_seed plan_functions (.ref q_plan_names) (.ref q_plan_kinds) (v_plan_firsts) (v_plan_seconds) (v_plan_degrees) (v_plan_colours) (v_plan_needs) (.ref q_plan_numbers), aI Y q_plan_names 12 plan_names, aI Y q_tape_starts 701 tape_starts, aI Y q_plan_kinds 12 plan_kinds, aI Y q_plan_numbers 144 plan_numbers]) [4, 5, 6, 8, 0, 1, 7, 2, 3] rfl rfl ?_
        refine g_if_eq (tgt := 71) C dX5_readAt_61 (by decide) (fun c_4 => ?_) (fun c_4 => ?_)
        · replace h := h.1 c_4
          refine g_iconst (v := 0) C dX5_readAt_71 rfl ?_
          exact g_zret C hR (by decide) (Nat.le_of_ble_eq_true rfl) (Nat.le_of_ble_eq_true rfl) dX5_readAt_72 ⟨0, faulty_3, place_3, token_3, plan_numbers, rfl, rfl, h⟩
        · replace h := h.2 c_4
          refine g_aload_n C dX5_readAt_64 2 rfl ?_
          obtain ⟨P_7, hP, h⟩ := h
          refine g_callV (As := []) (rest := []) C (mX5_takeSigned l D Y h0 q_tape lines faulty_3 place_3 (.ref q_plan) token_3 toldOnce tape_fed v_tape_bytes q_tape_sorts q_tape_starts q_tape_contents tape_length tape_tokens tape_at tape_sorts tape_starts tape_contents P_7 hP) dX5_readAt_65 rfl wM_X5_123 wI_X5_takeSigned wV_X5_takeSigned wN_X5 wC_X5_takeSigned (n := 0) (by decide +kernel) rfl (q0 := 0) rfl rfl ⟨Nat.le_of_ble_eq_true rfl, Nat.le_of_ble_eq_true rfl⟩ ⟨Nat.le_of_ble_eq_true rfl, Nat.le_of_ble_eq_true rfl⟩ (Nat.le_of_ble_eq_true rfl) [0, 1, 2, 6, 3] [4, 5, 7, 8] rfl rfl rfl (fun v wc hv => ?_)
          obtain ⟨rF_7, faulty_4, place_4, token_4, rfl, rfl, hq⟩ := hv
          replace h := h rF_7 faulty_4 place_4 token_4 hq
          refine gG.perm (ws' := [oX5 h0 (.ref q_tape) lines faulty_4 place_4 (.ref q_plan) token_4 toldOnce, oX9 q_tape tape_fed (v_tape_bytes) (.ref q_tape_sorts) (.ref q_tape_starts) (.ref q_tape_contents) tape_length tape_tokens tape_at, aI Y q_tape_sorts 701 tape_sorts, aI Y q_tape_contents 701 tape_contents, oX3 q_plan plan_bound plan_modulus plan_seed plan_functions (.ref q_plan_names) (.ref q_plan_kinds) (v_plan_firsts) (v_plan_seconds) (v_plan_degrees) (v_plan_colours) (v_plan_needs) (.ref q_plan_numbers), aI Y q_plan_names 12 plan_names, aI Y q_tape_starts 701 tape_starts, aI Y q_plan_kinds 12 plan_kinds, aI Y q_plan_numbers 144 plan_numbers]) [4, 5, 6, 8, 0, 1, 7, 2, 3] rfl rfl ?_
          refine g_if_ne (tgt := 73) C dX5_readAt_68 (by decide) (fun c_5 => ?_) (fun c_5 => ?_)
          · replace h := h.1 c_5
            refine g_aload_n C dX5_readAt_73 2 rfl ?_
            refine g_get C inX5 0 rfl rfl 4 (by decide) wF_X5_25 rfl dX5_readAt_74 ?_
            refine g_get C inX3 4 rfl rfl 11 (by decide) wF_X5_126 rfl dX5_readAt_77 ?_
            refine g_iload_n C dX5_readAt_80 0 rfl ?_
            refine g_aload_n C dX5_readAt_81 2 rfl ?_
            refine g_get C inX5 0 rfl rfl 0 (by decide) wF_X5_12 rfl dX5_readAt_82 ?_
            refine g_aload_n C dX5_readAt_85 2 rfl ?_
            refine g_get C inX5 0 rfl rfl 5 (by decide) wF_X5_36 rfl dX5_readAt_86 ?_
            refine g_iconst (v := 1) C dX5_readAt_89 rfl ?_
            refine g_isub C dX5_readAt_90 ?_
            obtain ⟨P_8, hP, h⟩ := h
            refine g_callV (As := [.int (token_4 - 1)]) (rest := [.int rF_5, .ref q_plan_numbers]) C (mX9_contentOf l D Y q_tape tape_fed v_tape_bytes (.ref q_tape_sorts) (.ref q_tape_starts) q_tape_contents tape_length tape_tokens tape_at tape_contents (token_4 - 1) P_8 hP) dX5_readAt_91 rfl wM_X5_66 wI_X9_contentOf wV_X9_contentOf wN_X9 wC_X9_contentOf (n := 1) (by decide +kernel) rfl (q0 := 0) rfl rfl ⟨Nat.le_of_ble_eq_true rfl, Nat.le_of_ble_eq_true rfl⟩ ⟨Nat.le_of_ble_eq_true rfl, Nat.le_of_ble_eq_true rfl⟩ (Nat.le_of_ble_eq_true rfl) [1, 3] [0, 2, 4, 5, 6, 7, 8] rfl rfl rfl (fun v wc hv => ?_)
            obtain ⟨rF_8, rfl, rfl, hq⟩ := hv
            replace h := h rF_8 hq
            refine gG.perm (ws' := [oX5 h0 (.ref q_tape) lines faulty_4 place_4 (.ref q_plan) token_4 toldOnce, oX9 q_tape tape_fed (v_tape_bytes) (.ref q_tape_sorts) (.ref q_tape_starts) (.ref q_tape_contents) tape_length tape_tokens tape_at, aI Y q_tape_sorts 701 tape_sorts, aI Y q_tape_contents 701 tape_contents, oX3 q_plan plan_bound plan_modulus plan_seed plan_functions (.ref q_plan_names) (.ref q_plan_kinds) (v_plan_firsts) (v_plan_seconds) (v_plan_degrees) (v_plan_colours) (v_plan_needs) (.ref q_plan_numbers), aI Y q_plan_names 12 plan_names, aI Y q_tape_starts 701 tape_starts, aI Y q_plan_kinds 12 plan_kinds, aI Y q_plan_numbers 144 plan_numbers]) [0, 7, 1, 8, 2, 3, 4, 5, 6] rfl rfl ?_
            obtain ⟨hc_1, h⟩ := h
            refine g_iast C 8 rfl hc_1 dX5_readAt_94 (fun plan_numbers_1 eplan_numbers_1 => gG.eqw (ws' := [oX5 h0 (.ref q_tape) lines faulty_4 place_4 (.ref q_plan) token_4 toldOnce, oX9 q_tape tape_fed (v_tape_bytes) (.ref q_tape_sorts) (.ref q_tape_starts) (.ref q_tape_contents) tape_length tape_tokens tape_at, aI Y q_tape_sorts 701 tape_sorts, aI Y q_tape_contents 701 tape_contents, oX3 q_plan plan_bound plan_modulus plan_seed plan_functions (.ref q_plan_names) (.ref q_plan_kinds) (v_plan_firsts) (v_plan_seconds) (v_plan_degrees) (v_plan_colours) (v_plan_needs) (.ref q_plan_numbers), aI Y q_plan_names 12 plan_names, aI Y q_tape_starts 701 tape_starts, aI Y q_plan_kinds 12 plan_kinds, aI Y q_plan_numbers 144 plan_numbers_1]) rfl ?_)
            replace h := h plan_numbers_1 eplan_numbers_1
            refine g_aload_n C dX5_readAt_95 2 rfl ?_
            refine g_get C inX5 0 rfl rfl 4 (by decide) wF_X5_25 rfl dX5_readAt_96 ?_
            refine g_get C inX3 4 rfl rfl 11 (by decide) wF_X5_126 rfl dX5_readAt_99 ?_
            refine g_iload_n C dX5_readAt_102 0 rfl ?_
            refine g_iconst (v := 1) C dX5_readAt_103 rfl ?_
            refine g_iadd C dX5_readAt_104 ?_
            refine g_aload_n C dX5_readAt_105 2 rfl ?_
            refine g_get C inX5 0 rfl rfl 0 (by decide) wF_X5_12 rfl dX5_readAt_106 ?_
            refine g_aload_n C dX5_readAt_109 2 rfl ?_
            refine g_get C inX5 0 rfl rfl 5 (by decide) wF_X5_36 rfl dX5_readAt_110 ?_
            obtain ⟨P_9, hP, h⟩ := h
            refine g_callV (As := [.int token_4]) (rest := [.int (rF_5 + 1), .ref q_plan_numbers]) C (mX9_contentOf l D Y q_tape tape_fed v_tape_bytes (.ref q_tape_sorts) (.ref q_tape_starts) q_tape_contents tape_length tape_tokens tape_at tape_contents token_4 P_9 hP) dX5_readAt_113 rfl wM_X5_66 wI_X9_contentOf wV_X9_contentOf wN_X9 wC_X9_contentOf (n := 1) (by decide +kernel) rfl (q0 := 0) rfl rfl ⟨Nat.le_of_ble_eq_true rfl, Nat.le_of_ble_eq_true rfl⟩ ⟨Nat.le_of_ble_eq_true rfl, Nat.le_of_ble_eq_true rfl⟩ (Nat.le_of_ble_eq_true rfl) [1, 3] [0, 2, 4, 5, 6, 7, 8] rfl rfl rfl (fun v wc hv => ?_)
            obtain ⟨rF_9, rfl, rfl, hq⟩ := hv
            replace h := h rF_9 hq
            refine gG.perm (ws' := [oX5 h0 (.ref q_tape) lines faulty_4 place_4 (.ref q_plan) token_4 toldOnce, oX9 q_tape tape_fed (v_tape_bytes) (.ref q_tape_sorts) (.ref q_tape_starts) (.ref q_tape_contents) tape_length tape_tokens tape_at, aI Y q_tape_sorts 701 tape_sorts, aI Y q_tape_contents 701 tape_contents, oX3 q_plan plan_bound plan_modulus plan_seed plan_functions (.ref q_plan_names) (.ref q_plan_kinds) (v_plan_firsts) (v_plan_seconds) (v_plan_degrees) (v_plan_colours) (v_plan_needs) (.ref q_plan_numbers), aI Y q_plan_names 12 plan_names, aI Y q_tape_starts 701 tape_starts, aI Y q_plan_kinds 12 plan_kinds, aI Y q_plan_numbers 144 plan_numbers_1]) [0, 7, 1, 8, 2, 3, 4, 5, 6] rfl rfl ?_
            obtain ⟨hc_2, h⟩ := h
            refine g_iast C 8 rfl hc_2 dX5_readAt_116 (fun plan_numbers_2 eplan_numbers_2 => gG.eqw (ws' := [oX5 h0 (.ref q_tape) lines faulty_4 place_4 (.ref q_plan) token_4 toldOnce, oX9 q_tape tape_fed (v_tape_bytes) (.ref q_tape_sorts) (.ref q_tape_starts) (.ref q_tape_contents) tape_length tape_tokens tape_at, aI Y q_tape_sorts 701 tape_sorts, aI Y q_tape_contents 701 tape_contents, oX3 q_plan plan_bound plan_modulus plan_seed plan_functions (.ref q_plan_names) (.ref q_plan_kinds) (v_plan_firsts) (v_plan_seconds) (v_plan_degrees) (v_plan_colours) (v_plan_needs) (.ref q_plan_numbers), aI Y q_plan_names 12 plan_names, aI Y q_tape_starts 701 tape_starts, aI Y q_plan_kinds 12 plan_kinds, aI Y q_plan_numbers 144 plan_numbers_2]) rfl ?_)
            replace h := h plan_numbers_2 eplan_numbers_2
            refine g_iconst (v := 1) C dX5_readAt_117 rfl ?_
            exact g_zret C hR (by decide) (Nat.le_of_ble_eq_true rfl) (Nat.le_of_ble_eq_true rfl) dX5_readAt_118 ⟨1, faulty_4, place_4, token_4, plan_numbers_2, rfl, rfl, h⟩
          · replace h := h.2 c_5
            refine g_iconst (v := 0) C dX5_readAt_71 rfl ?_
            exact g_zret C hR (by decide) (Nat.le_of_ble_eq_true rfl) (Nat.le_of_ble_eq_true rfl) dX5_readAt_72 ⟨0, faulty_4, place_4, token_4, plan_numbers, rfl, rfl, h⟩
      · replace h := h.2 c_3
        refine g_iconst (v := 0) C dX5_readAt_39 rfl ?_
        exact g_zret C hR (by decide) (Nat.le_of_ble_eq_true rfl) (Nat.le_of_ble_eq_true rfl) dX5_readAt_40 ⟨0, faulty_2, place_2, token_2, plan_numbers, rfl, rfl, h⟩
    · replace h := h.2 c_2
      refine g_aload_n C dX5_readAt_23 1 rfl ?_
      refine g_iconst (v := 4) C dX5_readAt_24 rfl ?_
      obtain ⟨P_10, hP, h⟩ := h
      refine g_callV (As := [.int 4]) (rest := []) C (mX5_refuse l D Y h0 q_tape lines faulty_1 place_1 (.ref q_plan) token_1 toldOnce tape_fed v_tape_bytes (.ref q_tape_sorts) q_tape_starts (.ref q_tape_contents) tape_length tape_tokens tape_at tape_starts 4 P_10 hP) dX5_readAt_25 rfl wM_X5_62 wI_X5_refuse wV_X5_refuse wN_X5 wC_X5_refuse (n := 1) (by decide +kernel) rfl (q0 := 0) rfl rfl ⟨Nat.le_of_ble_eq_true rfl, Nat.le_of_ble_eq_true rfl⟩ ⟨Nat.le_of_ble_eq_true rfl, Nat.le_of_ble_eq_true rfl⟩ (Nat.le_of_ble_eq_true rfl) [0, 1, 6] [2, 3, 4, 5, 7, 8] rfl rfl rfl (fun v wc hv => ?_)
      obtain ⟨rF_10, faulty_5, place_5, rfl, rfl, hq⟩ := hv
      replace h := h rF_10 faulty_5 place_5 hq
      refine gG.perm (ws' := [oX5 h0 (.ref q_tape) lines faulty_5 place_5 (.ref q_plan) token_1 toldOnce, oX9 q_tape tape_fed (v_tape_bytes) (.ref q_tape_sorts) (.ref q_tape_starts) (.ref q_tape_contents) tape_length tape_tokens tape_at, aI Y q_tape_sorts 701 tape_sorts, aI Y q_tape_contents 701 tape_contents, oX3 q_plan plan_bound plan_modulus plan_seed plan_functions (.ref q_plan_names) (.ref q_plan_kinds) (v_plan_firsts) (v_plan_seconds) (v_plan_degrees) (v_plan_colours) (v_plan_needs) (.ref q_plan_numbers), aI Y q_plan_names 12 plan_names, aI Y q_tape_starts 701 tape_starts, aI Y q_plan_kinds 12 plan_kinds, aI Y q_plan_numbers 144 plan_numbers]) [6, 7, 0, 1, 2, 3, 8, 4, 5] rfl rfl ?_
      obtain ⟨hz, h⟩ := h
      exact g_zret C hR hz (Nat.le_of_ble_eq_true rfl) (Nat.le_of_ble_eq_true rfl) dX5_readAt_28 ⟨rF_10, faulty_5, place_5, token_1, plan_numbers, rfl, rfl, h⟩
  · replace h := h.2 c_1
    refine g_iconst (v := 0) C dX5_readAt_10 rfl ?_
    exact g_zret C hR (by decide) (Nat.le_of_ble_eq_true rfl) (Nat.le_of_ble_eq_true rfl) dX5_readAt_11 ⟨0, faulty_1, place_1, token_1, plan_numbers, rfl, rfl, h⟩
theorem dX5_addTimes_0 : decode cX5_addTimes 0 = .ok (.aload_n 0, 1) := by decide +kernel
theorem dX5_addTimes_1 : decode cX5_addTimes 1 = .ok (.getfield 25, 3) := by decide +kernel
theorem dX5_addTimes_4 : decode cX5_addTimes 4 = .ok (.iload_n 1, 1) := by decide +kernel
theorem dX5_addTimes_5 : decode cX5_addTimes 5 = .ok (.iconst 2, 1) := by decide +kernel
theorem dX5_addTimes_6 : decode cX5_addTimes 6 = .ok (.iload_n 2, 1) := by decide +kernel
theorem dX5_addTimes_7 : decode cX5_addTimes 7 = .ok (.iload_n 3, 1) := by decide +kernel
theorem dX5_addTimes_8 : decode cX5_addTimes 8 = .ok (.invokevirtual 133, 3) := by decide +kernel
theorem dX5_addTimes_11 : decode cX5_addTimes 11 = .ok (.istore 4, 2) := by decide +kernel
theorem dX5_addTimes_13 : decode cX5_addTimes 13 = .ok (.aload_n 0, 1) := by decide +kernel
theorem dX5_addTimes_14 : decode cX5_addTimes 14 = .ok (.getfield 25, 3) := by decide +kernel
theorem dX5_addTimes_17 : decode cX5_addTimes 17 = .ok (.getfield 137, 3) := by decide +kernel
theorem dX5_addTimes_20 : decode cX5_addTimes 20 = .ok (.iload 4, 2) := by decide +kernel
theorem dX5_addTimes_22 : decode cX5_addTimes 22 = .ok (.aload_n 0, 1) := by decide +kernel
theorem dX5_addTimes_23 : decode cX5_addTimes 23 = .ok (.getfield 25, 3) := by decide +kernel
theorem dX5_addTimes_26 : decode cX5_addTimes 26 = .ok (.getfield 137, 3) := by decide +kernel
theorem dX5_addTimes_29 : decode cX5_addTimes 29 = .ok (.iload_n 2, 1) := by decide +kernel
theorem dX5_addTimes_30 : decode cX5_addTimes 30 = .ok (.iaload, 1) := by decide +kernel
theorem dX5_addTimes_31 : decode cX5_addTimes 31 = .ok (.aload_n 0, 1) := by decide +kernel
theorem dX5_addTimes_32 : decode cX5_addTimes 32 = .ok (.getfield 25, 3) := by decide +kernel
theorem dX5_addTimes_35 : decode cX5_addTimes 35 = .ok (.getfield 137, 3) := by decide +kernel
theorem dX5_addTimes_38 : decode cX5_addTimes 38 = .ok (.iload_n 3, 1) := by decide +kernel
theorem dX5_addTimes_39 : decode cX5_addTimes 39 = .ok (.iaload, 1) := by decide +kernel
theorem dX5_addTimes_40 : decode cX5_addTimes 40 = .ok (.invokestatic 147, 3) := by decide +kernel
theorem dX5_addTimes_43 : decode cX5_addTimes 43 = .ok (.iastore, 1) := by decide +kernel
theorem dX5_addTimes_44 : decode cX5_addTimes 44 = .ok (.aload_n 0, 1) := by decide +kernel
theorem dX5_addTimes_45 : decode cX5_addTimes 45 = .ok (.getfield 25, 3) := by decide +kernel
theorem dX5_addTimes_48 : decode cX5_addTimes 48 = .ok (.getfield 152, 3) := by decide +kernel
theorem dX5_addTimes_51 : decode cX5_addTimes 51 = .ok (.iload 4, 2) := by decide +kernel
theorem dX5_addTimes_53 : decode cX5_addTimes 53 = .ok (.aload_n 0, 1) := by decide +kernel
theorem dX5_addTimes_54 : decode cX5_addTimes 54 = .ok (.getfield 25, 3) := by decide +kernel
theorem dX5_addTimes_57 : decode cX5_addTimes 57 = .ok (.getfield 152, 3) := by decide +kernel
theorem dX5_addTimes_60 : decode cX5_addTimes 60 = .ok (.iload_n 2, 1) := by decide +kernel
theorem dX5_addTimes_61 : decode cX5_addTimes 61 = .ok (.iaload, 1) := by decide +kernel
theorem dX5_addTimes_62 : decode cX5_addTimes 62 = .ok (.aload_n 0, 1) := by decide +kernel
theorem dX5_addTimes_63 : decode cX5_addTimes 63 = .ok (.getfield 25, 3) := by decide +kernel
theorem dX5_addTimes_66 : decode cX5_addTimes 66 = .ok (.getfield 152, 3) := by decide +kernel
theorem dX5_addTimes_69 : decode cX5_addTimes 69 = .ok (.iload_n 3, 1) := by decide +kernel
theorem dX5_addTimes_70 : decode cX5_addTimes 70 = .ok (.iaload, 1) := by decide +kernel
theorem dX5_addTimes_71 : decode cX5_addTimes 71 = .ok (.ior, 1) := by decide +kernel
theorem dX5_addTimes_72 : decode cX5_addTimes 72 = .ok (.iastore, 1) := by decide +kernel
theorem dX5_addTimes_73 : decode cX5_addTimes 73 = .ok (.iconst 1, 1) := by decide +kernel
theorem dX5_addTimes_74 : decode cX5_addTimes 74 = .ok (.ireturn, 1) := by decide +kernel
/-- QuotientSums$Reader.addTimes(III)Z -/
def wX5_addTimes (lines : Int32) (faulty : Int32) (place : Int32) (token : Int32) (toldOnce : Int32) (plan_bound : Int32) (plan_modulus : Int32) (plan_seed : Int32) (plan_functions : Int32) (plan_names : Nat → Int32) (plan_kinds : Nat → Int32) (plan_firsts : Nat → Int32) (plan_seconds : Nat → Int32) (plan_degrees : Nat → Int32) (plan_colours : Nat → Int32) (plan_needs : Nat → Int32) (a1 : Int32) (a2 : Int32) (a3 : Int32) (Q : (Int32) → (Int32) → (Nat → Int32) → (Nat → Int32) → (Nat → Int32) → (Nat → Int32) → (Nat → Int32) → (Nat → Int32) → (Nat → Int32) → Prop) : Prop :=
  (∃ (P_1 : (Int32) → (Int32) → (Nat → Int32) → (Nat → Int32) → (Nat → Int32) → (Nat → Int32) → (Nat → Int32) → (Nat → Int32) → (Nat → Int32) → Prop), wX3_add plan_bound plan_modulus plan_seed plan_functions plan_names plan_kinds plan_firsts plan_seconds plan_degrees plan_colours plan_needs a1 2 a2 a3 P_1 ∧ ∀ (rF_1 : Int32) (functions_1 : Int32) (names_1 : Nat → Int32) (kinds_1 : Nat → Int32) (firsts_1 : Nat → Int32) (seconds_1 : Nat → Int32) (degrees_1 : Nat → Int32) (colours_1 : Nat → Int32) (needs_1 : Nat → Int32), P_1 rF_1 functions_1 names_1 kinds_1 firsts_1 seconds_1 degrees_1 colours_1 needs_1 → vp_in a2 12 ∧ vp_in a3 12 ∧ ∀ m_1 : Int32, m_1 = (if (degrees_1 a2.toNatClampNeg) < (degrees_1 a3.toNatClampNeg) then (degrees_1 a3.toNatClampNeg) else (degrees_1 a2.toNatClampNeg)) → vp_in rF_1 12 ∧ ∀ degrees_2 : Nat → Int32, degrees_2 = upd degrees_1 rF_1.toNatClampNeg m_1 → ∀ e_1 : Int32, e_1 = (colours_1 a2.toNatClampNeg) ||| (colours_1 a3.toNatClampNeg) → ∀ colours_2 : Nat → Int32, colours_2 = upd colours_1 rF_1.toNatClampNeg e_1 → (Q 1 functions_1 names_1 kinds_1 firsts_1 seconds_1 degrees_2 colours_2 needs_1))
set_option maxHeartbeats 4000000 in
set_option maxRecDepth 100000 in
theorem mX5_addTimes (l : Launch) (D : va_G) (Y : Nat → ClassId) (h0 : Nat) (v_tape : Value) (lines : Int32) (faulty : Int32) (place : Int32) (q_plan : Nat) (token : Int32) (toldOnce : Int32) (plan_bound : Int32) (plan_modulus : Int32) (plan_seed : Int32) (plan_functions : Int32) (q_plan_names : Nat) (q_plan_kinds : Nat) (q_plan_firsts : Nat) (q_plan_seconds : Nat) (q_plan_degrees : Nat) (q_plan_colours : Nat) (q_plan_needs : Nat) (v_plan_numbers : Value) (plan_names : Nat → Int32) (plan_kinds : Nat → Int32) (plan_firsts : Nat → Int32) (plan_seconds : Nat → Int32) (plan_degrees : Nat → Int32) (plan_colours : Nat → Int32) (plan_needs : Nat → Int32) (a1 : Int32) (a2 : Int32) (a3 : Int32) (Q : (Int32) → (Int32) → (Nat → Int32) → (Nat → Int32) → (Nat → Int32) → (Nat → Int32) → (Nat → Int32) → (Nat → Int32) → (Nat → Int32) → Prop) (h : wX5_addTimes lines faulty place token toldOnce plan_bound plan_modulus plan_seed plan_functions plan_names plan_kinds plan_firsts plan_seconds plan_degrees plan_colours plan_needs a1 a2 a3 Q) : gM l D Y yX5_addTimes cX5_addTimes 5 (some .boolean) 2 46 0 0 [.ref h0, .int a1, .int a2, .int a3] [oX5 h0 (v_tape) lines faulty place (.ref q_plan) token toldOnce, oX3 q_plan plan_bound plan_modulus plan_seed plan_functions (.ref q_plan_names) (.ref q_plan_kinds) (.ref q_plan_firsts) (.ref q_plan_seconds) (.ref q_plan_degrees) (.ref q_plan_colours) (.ref q_plan_needs) (v_plan_numbers), aI Y q_plan_names 12 plan_names, aI Y q_plan_kinds 12 plan_kinds, aI Y q_plan_firsts 12 plan_firsts, aI Y q_plan_seconds 12 plan_seconds, aI Y q_plan_degrees 12 plan_degrees, aI Y q_plan_colours 12 plan_colours, aI Y q_plan_needs 12 plan_needs] (fun v w => ∃ r : Int32, ∃ plan_functions' : Int32, ∃ plan_names' : Nat → Int32, ∃ plan_kinds' : Nat → Int32, ∃ plan_firsts' : Nat → Int32, ∃ plan_seconds' : Nat → Int32, ∃ plan_degrees' : Nat → Int32, ∃ plan_colours' : Nat → Int32, ∃ plan_needs' : Nat → Int32, v = some (.int r) ∧ w = [oX5 h0 (v_tape) lines faulty place (.ref q_plan) token toldOnce, oX3 q_plan plan_bound plan_modulus plan_seed plan_functions' (.ref q_plan_names) (.ref q_plan_kinds) (.ref q_plan_firsts) (.ref q_plan_seconds) (.ref q_plan_degrees) (.ref q_plan_colours) (.ref q_plan_needs) (v_plan_numbers), aI Y q_plan_names 12 plan_names', aI Y q_plan_kinds 12 plan_kinds', aI Y q_plan_firsts 12 plan_firsts', aI Y q_plan_seconds 12 plan_seconds', aI Y q_plan_degrees 12 plan_degrees', aI Y q_plan_colours 12 plan_colours', aI Y q_plan_needs 12 plan_needs'] ∧ Q r plan_functions' plan_names' plan_kinds' plan_firsts' plan_seconds' plan_degrees' plan_colours' plan_needs') := by
  refine gM_of (own := RX5) (by decide +kernel) rfl (Nat.le_of_ble_eq_true rfl) rfl (fun E C hR => ?_)
  unfold wX5_addTimes at h
  refine g_aload_n C dX5_addTimes_0 0 rfl ?_
  refine g_get C inX5 0 rfl rfl 4 (by decide) wF_X5_25 rfl dX5_addTimes_1 ?_
  refine g_iload_n C dX5_addTimes_4 1 rfl ?_
  refine g_iconst (v := 2) C dX5_addTimes_5 rfl ?_
  refine g_iload_n C dX5_addTimes_6 2 rfl ?_
  refine g_iload_n C dX5_addTimes_7 3 rfl ?_
  obtain ⟨P_1, hP, h⟩ := h
  refine g_callV (As := [.int a1, .int 2, .int a2, .int a3]) (rest := []) C (mX3_add l D Y q_plan plan_bound plan_modulus plan_seed plan_functions q_plan_names q_plan_kinds q_plan_firsts q_plan_seconds q_plan_degrees q_plan_colours q_plan_needs v_plan_numbers plan_names plan_kinds plan_firsts plan_seconds plan_degrees plan_colours plan_needs a1 2 a2 a3 P_1 hP) dX5_addTimes_8 rfl wM_X5_133 wI_X3_add wV_X3_add wN_X3 wC_X3_add (n := 4) (by decide +kernel) rfl (q0 := 0) rfl rfl ⟨Nat.le_of_ble_eq_true rfl, Nat.le_of_ble_eq_true rfl⟩ ⟨Nat.le_of_ble_eq_true rfl, Nat.le_of_ble_eq_true rfl⟩ (Nat.le_of_ble_eq_true rfl) [1, 2, 3, 4, 5, 6, 7, 8] [0] rfl rfl rfl (fun v wc hv => ?_)
  obtain ⟨rF_1, functions_1, names_1, kinds_1, firsts_1, seconds_1, degrees_1, colours_1, needs_1, rfl, rfl, hq⟩ := hv
  replace h := h rF_1 functions_1 names_1 kinds_1 firsts_1 seconds_1 degrees_1 colours_1 needs_1 hq
  refine gG.eqw (ws' := [oX5 h0 (v_tape) lines faulty place (.ref q_plan) token toldOnce, oX3 q_plan plan_bound plan_modulus plan_seed functions_1 (.ref q_plan_names) (.ref q_plan_kinds) (.ref q_plan_firsts) (.ref q_plan_seconds) (.ref q_plan_degrees) (.ref q_plan_colours) (.ref q_plan_needs) (v_plan_numbers), aI Y q_plan_names 12 names_1, aI Y q_plan_kinds 12 kinds_1, aI Y q_plan_firsts 12 firsts_1, aI Y q_plan_seconds 12 seconds_1, aI Y q_plan_degrees 12 degrees_1, aI Y q_plan_colours 12 colours_1, aI Y q_plan_needs 12 needs_1]) rfl ?_
  refine g_istore (lv' := [(4, .int rF_1), (0, .ref h0), (1, .int a1), (2, .int a2), (3, .int a3)]) C dX5_addTimes_11 (by decide) rfl ?_
  refine g_aload_n C dX5_addTimes_13 1 rfl ?_
  refine g_get C inX5 0 rfl rfl 4 (by decide) wF_X5_25 rfl dX5_addTimes_14 ?_
  refine g_get C inX3 1 rfl rfl 8 (by decide) wF_X5_137 rfl dX5_addTimes_17 ?_
  refine g_iload C dX5_addTimes_20 0 rfl ?_
  refine g_aload_n C dX5_addTimes_22 1 rfl ?_
  refine g_get C inX5 0 rfl rfl 4 (by decide) wF_X5_25 rfl dX5_addTimes_23 ?_
  refine g_get C inX3 1 rfl rfl 8 (by decide) wF_X5_137 rfl dX5_addTimes_26 ?_
  refine g_iload_n C dX5_addTimes_29 3 rfl ?_
  obtain ⟨hc_1, h⟩ := h
  refine g_iald C 6 rfl hc_1 dX5_addTimes_30 ?_
  refine g_aload_n C dX5_addTimes_31 1 rfl ?_
  refine g_get C inX5 0 rfl rfl 4 (by decide) wF_X5_25 rfl dX5_addTimes_32 ?_
  refine g_get C inX3 1 rfl rfl 8 (by decide) wF_X5_137 rfl dX5_addTimes_35 ?_
  refine g_iload_n C dX5_addTimes_38 4 rfl ?_
  obtain ⟨hc_2, h⟩ := h
  refine g_iald C 6 rfl hc_2 dX5_addTimes_39 ?_
  refine g_mmax C wM_X5_147 dX5_addTimes_40 ⟨Nat.le_of_ble_eq_true rfl, Nat.le_of_ble_eq_true rfl⟩ ⟨Nat.le_of_ble_eq_true rfl, Nat.le_of_ble_eq_true rfl⟩ ?_
  refine g_topi (fun m_1 em_1 => ?_)
  replace h := h m_1 em_1
  obtain ⟨hc_3, h⟩ := h
  refine g_iast C 6 rfl hc_3 dX5_addTimes_43 (fun degrees_2 edegrees_2 => gG.eqw (ws' := [oX5 h0 (v_tape) lines faulty place (.ref q_plan) token toldOnce, oX3 q_plan plan_bound plan_modulus plan_seed functions_1 (.ref q_plan_names) (.ref q_plan_kinds) (.ref q_plan_firsts) (.ref q_plan_seconds) (.ref q_plan_degrees) (.ref q_plan_colours) (.ref q_plan_needs) (v_plan_numbers), aI Y q_plan_names 12 names_1, aI Y q_plan_kinds 12 kinds_1, aI Y q_plan_firsts 12 firsts_1, aI Y q_plan_seconds 12 seconds_1, aI Y q_plan_degrees 12 degrees_2, aI Y q_plan_colours 12 colours_1, aI Y q_plan_needs 12 needs_1]) rfl ?_)
  replace h := h degrees_2 edegrees_2
  refine g_aload_n C dX5_addTimes_44 1 rfl ?_
  refine g_get C inX5 0 rfl rfl 4 (by decide) wF_X5_25 rfl dX5_addTimes_45 ?_
  refine g_get C inX3 1 rfl rfl 9 (by decide) wF_X5_152 rfl dX5_addTimes_48 ?_
  refine g_iload C dX5_addTimes_51 0 rfl ?_
  refine g_aload_n C dX5_addTimes_53 1 rfl ?_
  refine g_get C inX5 0 rfl rfl 4 (by decide) wF_X5_25 rfl dX5_addTimes_54 ?_
  refine g_get C inX3 1 rfl rfl 9 (by decide) wF_X5_152 rfl dX5_addTimes_57 ?_
  refine g_iload_n C dX5_addTimes_60 3 rfl ?_
  refine g_iald C 7 rfl hc_1 dX5_addTimes_61 ?_
  refine g_aload_n C dX5_addTimes_62 1 rfl ?_
  refine g_get C inX5 0 rfl rfl 4 (by decide) wF_X5_25 rfl dX5_addTimes_63 ?_
  refine g_get C inX3 1 rfl rfl 9 (by decide) wF_X5_152 rfl dX5_addTimes_66 ?_
  refine g_iload_n C dX5_addTimes_69 4 rfl ?_
  refine g_iald C 7 rfl hc_2 dX5_addTimes_70 ?_
  refine g_ior C dX5_addTimes_71 ?_
  refine g_topi (fun e_1 ee_1 => ?_)
  replace h := h e_1 ee_1
  refine g_iast C 7 rfl hc_3 dX5_addTimes_72 (fun colours_2 ecolours_2 => gG.eqw (ws' := [oX5 h0 (v_tape) lines faulty place (.ref q_plan) token toldOnce, oX3 q_plan plan_bound plan_modulus plan_seed functions_1 (.ref q_plan_names) (.ref q_plan_kinds) (.ref q_plan_firsts) (.ref q_plan_seconds) (.ref q_plan_degrees) (.ref q_plan_colours) (.ref q_plan_needs) (v_plan_numbers), aI Y q_plan_names 12 names_1, aI Y q_plan_kinds 12 kinds_1, aI Y q_plan_firsts 12 firsts_1, aI Y q_plan_seconds 12 seconds_1, aI Y q_plan_degrees 12 degrees_2, aI Y q_plan_colours 12 colours_2, aI Y q_plan_needs 12 needs_1]) rfl ?_)
  replace h := h colours_2 ecolours_2
  refine g_iconst (v := 1) C dX5_addTimes_73 rfl ?_
  exact g_zret C hR (by decide) (Nat.le_of_ble_eq_true rfl) (Nat.le_of_ble_eq_true rfl) dX5_addTimes_74 ⟨1, functions_1, names_1, kinds_1, firsts_1, seconds_1, degrees_2, colours_2, needs_1, rfl, rfl, h⟩
theorem dX5_addPoint_0 : decode cX5_addPoint 0 = .ok (.aload_n 0, 1) := by decide +kernel
theorem dX5_addPoint_1 : decode cX5_addPoint 1 = .ok (.getfield 25, 3) := by decide +kernel
theorem dX5_addPoint_4 : decode cX5_addPoint 4 = .ok (.getfield 137, 3) := by decide +kernel
theorem dX5_addPoint_7 : decode cX5_addPoint 7 = .ok (.iload_n 2, 1) := by decide +kernel
theorem dX5_addPoint_8 : decode cX5_addPoint 8 = .ok (.iaload, 1) := by decide +kernel
theorem dX5_addPoint_9 : decode cX5_addPoint 9 = .ok (.aload_n 0, 1) := by decide +kernel
theorem dX5_addPoint_10 : decode cX5_addPoint 10 = .ok (.getfield 25, 3) := by decide +kernel
theorem dX5_addPoint_13 : decode cX5_addPoint 13 = .ok (.getfield 137, 3) := by decide +kernel
theorem dX5_addPoint_16 : decode cX5_addPoint 16 = .ok (.iload_n 3, 1) := by decide +kernel
theorem dX5_addPoint_17 : decode cX5_addPoint 17 = .ok (.iaload, 1) := by decide +kernel
theorem dX5_addPoint_18 : decode cX5_addPoint 18 = .ok (.iadd, 1) := by decide +kernel
theorem dX5_addPoint_19 : decode cX5_addPoint 19 = .ok (.istore 4, 2) := by decide +kernel
theorem dX5_addPoint_21 : decode cX5_addPoint 21 = .ok (.aload_n 0, 1) := by decide +kernel
theorem dX5_addPoint_22 : decode cX5_addPoint 22 = .ok (.getfield 25, 3) := by decide +kernel
theorem dX5_addPoint_25 : decode cX5_addPoint 25 = .ok (.getfield 152, 3) := by decide +kernel
theorem dX5_addPoint_28 : decode cX5_addPoint 28 = .ok (.iload_n 2, 1) := by decide +kernel
theorem dX5_addPoint_29 : decode cX5_addPoint 29 = .ok (.iaload, 1) := by decide +kernel
theorem dX5_addPoint_30 : decode cX5_addPoint 30 = .ok (.ifCond .eq 19, 3) := by decide +kernel
theorem dX5_addPoint_33 : decode cX5_addPoint 33 = .ok (.aload_n 0, 1) := by decide +kernel
theorem dX5_addPoint_34 : decode cX5_addPoint 34 = .ok (.getfield 25, 3) := by decide +kernel
theorem dX5_addPoint_37 : decode cX5_addPoint 37 = .ok (.getfield 152, 3) := by decide +kernel
theorem dX5_addPoint_40 : decode cX5_addPoint 40 = .ok (.iload_n 3, 1) := by decide +kernel
theorem dX5_addPoint_41 : decode cX5_addPoint 41 = .ok (.iaload, 1) := by decide +kernel
theorem dX5_addPoint_42 : decode cX5_addPoint 42 = .ok (.ifCond .eq 7, 3) := by decide +kernel
theorem dX5_addPoint_45 : decode cX5_addPoint 45 = .ok (.iconst 1, 1) := by decide +kernel
theorem dX5_addPoint_46 : decode cX5_addPoint 46 = .ok (.goto 4, 3) := by decide +kernel
theorem dX5_addPoint_49 : decode cX5_addPoint 49 = .ok (.iconst 0, 1) := by decide +kernel
theorem dX5_addPoint_50 : decode cX5_addPoint 50 = .ok (.istore 5, 2) := by decide +kernel
theorem dX5_addPoint_52 : decode cX5_addPoint 52 = .ok (.iload 4, 2) := by decide +kernel
theorem dX5_addPoint_54 : decode cX5_addPoint 54 = .ok (.iconst 3, 1) := by decide +kernel
theorem dX5_addPoint_55 : decode cX5_addPoint 55 = .ok (.if_icmp .gt 8, 3) := by decide +kernel
theorem dX5_addPoint_58 : decode cX5_addPoint 58 = .ok (.iload 5, 2) := by decide +kernel
theorem dX5_addPoint_60 : decode cX5_addPoint 60 = .ok (.ifCond .eq 9, 3) := by decide +kernel
theorem dX5_addPoint_63 : decode cX5_addPoint 63 = .ok (.aload_n 0, 1) := by decide +kernel
theorem dX5_addPoint_64 : decode cX5_addPoint 64 = .ok (.iconst 2, 1) := by decide +kernel
theorem dX5_addPoint_65 : decode cX5_addPoint 65 = .ok (.invokevirtual 62, 3) := by decide +kernel
theorem dX5_addPoint_68 : decode cX5_addPoint 68 = .ok (.ireturn, 1) := by decide +kernel
theorem dX5_addPoint_69 : decode cX5_addPoint 69 = .ok (.aload_n 0, 1) := by decide +kernel
theorem dX5_addPoint_70 : decode cX5_addPoint 70 = .ok (.getfield 25, 3) := by decide +kernel
theorem dX5_addPoint_73 : decode cX5_addPoint 73 = .ok (.iload_n 1, 1) := by decide +kernel
theorem dX5_addPoint_74 : decode cX5_addPoint 74 = .ok (.iconst 4, 1) := by decide +kernel
theorem dX5_addPoint_75 : decode cX5_addPoint 75 = .ok (.iload_n 2, 1) := by decide +kernel
theorem dX5_addPoint_76 : decode cX5_addPoint 76 = .ok (.iload_n 3, 1) := by decide +kernel
theorem dX5_addPoint_77 : decode cX5_addPoint 77 = .ok (.invokevirtual 133, 3) := by decide +kernel
theorem dX5_addPoint_80 : decode cX5_addPoint 80 = .ok (.istore 6, 2) := by decide +kernel
theorem dX5_addPoint_82 : decode cX5_addPoint 82 = .ok (.aload_n 0, 1) := by decide +kernel
theorem dX5_addPoint_83 : decode cX5_addPoint 83 = .ok (.getfield 25, 3) := by decide +kernel
theorem dX5_addPoint_86 : decode cX5_addPoint 86 = .ok (.getfield 137, 3) := by decide +kernel
theorem dX5_addPoint_89 : decode cX5_addPoint 89 = .ok (.iload 6, 2) := by decide +kernel
theorem dX5_addPoint_91 : decode cX5_addPoint 91 = .ok (.iload 4, 2) := by decide +kernel
theorem dX5_addPoint_93 : decode cX5_addPoint 93 = .ok (.iastore, 1) := by decide +kernel
theorem dX5_addPoint_94 : decode cX5_addPoint 94 = .ok (.aload_n 0, 1) := by decide +kernel
theorem dX5_addPoint_95 : decode cX5_addPoint 95 = .ok (.getfield 25, 3) := by decide +kernel
theorem dX5_addPoint_98 : decode cX5_addPoint 98 = .ok (.getfield 152, 3) := by decide +kernel
theorem dX5_addPoint_101 : decode cX5_addPoint 101 = .ok (.iload 6, 2) := by decide +kernel
theorem dX5_addPoint_103 : decode cX5_addPoint 103 = .ok (.aload_n 0, 1) := by decide +kernel
theorem dX5_addPoint_104 : decode cX5_addPoint 104 = .ok (.getfield 25, 3) := by decide +kernel
theorem dX5_addPoint_107 : decode cX5_addPoint 107 = .ok (.getfield 152, 3) := by decide +kernel
theorem dX5_addPoint_110 : decode cX5_addPoint 110 = .ok (.iload_n 2, 1) := by decide +kernel
theorem dX5_addPoint_111 : decode cX5_addPoint 111 = .ok (.iaload, 1) := by decide +kernel
theorem dX5_addPoint_112 : decode cX5_addPoint 112 = .ok (.aload_n 0, 1) := by decide +kernel
theorem dX5_addPoint_113 : decode cX5_addPoint 113 = .ok (.getfield 25, 3) := by decide +kernel
theorem dX5_addPoint_116 : decode cX5_addPoint 116 = .ok (.getfield 152, 3) := by decide +kernel
theorem dX5_addPoint_119 : decode cX5_addPoint 119 = .ok (.iload_n 3, 1) := by decide +kernel
theorem dX5_addPoint_120 : decode cX5_addPoint 120 = .ok (.iaload, 1) := by decide +kernel
theorem dX5_addPoint_121 : decode cX5_addPoint 121 = .ok (.ior, 1) := by decide +kernel
theorem dX5_addPoint_122 : decode cX5_addPoint 122 = .ok (.iastore, 1) := by decide +kernel
theorem dX5_addPoint_123 : decode cX5_addPoint 123 = .ok (.iconst 1, 1) := by decide +kernel
theorem dX5_addPoint_124 : decode cX5_addPoint 124 = .ok (.ireturn, 1) := by decide +kernel
/-- QuotientSums$Reader.addPoint(III)Z -/
def wX5_addPoint (lines : Int32) (faulty : Int32) (place : Int32) (token : Int32) (toldOnce : Int32) (plan_bound : Int32) (plan_modulus : Int32) (plan_seed : Int32) (plan_functions : Int32) (plan_degrees : Nat → Int32) (plan_colours : Nat → Int32) (tape_fed : Int32) (tape_length : Int32) (tape_tokens : Int32) (tape_at : Int32) (tape_starts : Nat → Int32) (plan_names : Nat → Int32) (plan_kinds : Nat → Int32) (plan_firsts : Nat → Int32) (plan_seconds : Nat → Int32) (plan_needs : Nat → Int32) (a1 : Int32) (a2 : Int32) (a3 : Int32) (Q : (Int32) → (Int32) → (Int32) → (Int32) → (Nat → Int32) → (Nat → Int32) → (Nat → Int32) → (Nat → Int32) → (Nat → Int32) → (Nat → Int32) → (Nat → Int32) → Prop) : Prop :=
  (vp_in a2 12 ∧ vp_in a3 12 ∧ ∀ x4_1 : Int32, x4_1 = (plan_degrees a2.toNatClampNeg) + (plan_degrees a3.toNatClampNeg) → (∃ (J_1 : Prop) (J_2 : (Int32) → Prop), (((plan_colours a2.toNatClampNeg) = 0 → (J_1)) ∧ (¬ (plan_colours a2.toNatClampNeg) = 0 → (vp_in a3 12 ∧ (((plan_colours a3.toNatClampNeg) = 0 → (J_1)) ∧ (¬ (plan_colours a3.toNatClampNeg) = 0 → (J_2 1)))))) ∧ (J_1 → (J_2 0)) ∧ (∀ (t_1 : Int32), J_2 t_1 → ((3 < x4_1 → (∃ (P_1 : (Int32) → (Int32) → (Int32) → Prop), wX5_refuse lines faulty place token toldOnce tape_fed tape_length tape_tokens tape_at tape_starts 2 P_1 ∧ ∀ (rF_1 : Int32) (faulty_1 : Int32) (place_1 : Int32), P_1 rF_1 faulty_1 place_1 → ((rF_1 = 0 ∨ rF_1 = 1) ∧ Q rF_1 faulty_1 place_1 plan_functions plan_degrees plan_colours plan_names plan_kinds plan_firsts plan_seconds plan_needs))) ∧ (¬ 3 < x4_1 → ((t_1 = 0 → (∃ (P_2 : (Int32) → (Int32) → (Nat → Int32) → (Nat → Int32) → (Nat → Int32) → (Nat → Int32) → (Nat → Int32) → (Nat → Int32) → (Nat → Int32) → Prop), wX3_add plan_bound plan_modulus plan_seed plan_functions plan_names plan_kinds plan_firsts plan_seconds plan_degrees plan_colours plan_needs a1 4 a2 a3 P_2 ∧ ∀ (rF_2 : Int32) (functions_1 : Int32) (names_1 : Nat → Int32) (kinds_1 : Nat → Int32) (firsts_1 : Nat → Int32) (seconds_1 : Nat → Int32) (degrees_1 : Nat → Int32) (colours_1 : Nat → Int32) (needs_1 : Nat → Int32), P_2 rF_2 functions_1 names_1 kinds_1 firsts_1 seconds_1 degrees_1 colours_1 needs_1 → vp_in rF_2 12 ∧ ∀ degrees_2 : Nat → Int32, degrees_2 = upd degrees_1 rF_2.toNatClampNeg x4_1 → vp_in a2 12 ∧ vp_in a3 12 ∧ ∀ e_1 : Int32, e_1 = (colours_1 a2.toNatClampNeg) ||| (colours_1 a3.toNatClampNeg) → ∀ colours_2 : Nat → Int32, colours_2 = upd colours_1 rF_2.toNatClampNeg e_1 → (Q 1 faulty place functions_1 degrees_2 colours_2 names_1 kinds_1 firsts_1 seconds_1 needs_1))) ∧ (¬ t_1 = 0 → (∃ (P_3 : (Int32) → (Int32) → (Int32) → Prop), wX5_refuse lines faulty place token toldOnce tape_fed tape_length tape_tokens tape_at tape_starts 2 P_3 ∧ ∀ (rF_3 : Int32) (faulty_2 : Int32) (place_2 : Int32), P_3 rF_3 faulty_2 place_2 → ((rF_3 = 0 ∨ rF_3 = 1) ∧ Q rF_3 faulty_2 place_2 plan_functions plan_degrees plan_colours plan_names plan_kinds plan_firsts plan_seconds plan_needs)))))))))
set_option maxHeartbeats 4000000 in
set_option maxRecDepth 100000 in
theorem mX5_addPoint (l : Launch) (D : va_G) (Y : Nat → ClassId) (h0 : Nat) (q_tape : Nat) (lines : Int32) (faulty : Int32) (place : Int32) (q_plan : Nat) (token : Int32) (toldOnce : Int32) (plan_bound : Int32) (plan_modulus : Int32) (plan_seed : Int32) (plan_functions : Int32) (q_plan_names : Nat) (q_plan_kinds : Nat) (q_plan_firsts : Nat) (q_plan_seconds : Nat) (q_plan_degrees : Nat) (q_plan_colours : Nat) (q_plan_needs : Nat) (v_plan_numbers : Value) (plan_degrees : Nat → Int32) (plan_colours : Nat → Int32) (tape_fed : Int32) (v_tape_bytes : Value) (v_tape_sorts : Value) (q_tape_starts : Nat) (v_tape_contents : Value) (tape_length : Int32) (tape_tokens : Int32) (tape_at : Int32) (tape_starts : Nat → Int32) (plan_names : Nat → Int32) (plan_kinds : Nat → Int32) (plan_firsts : Nat → Int32) (plan_seconds : Nat → Int32) (plan_needs : Nat → Int32) (a1 : Int32) (a2 : Int32) (a3 : Int32) (Q : (Int32) → (Int32) → (Int32) → (Int32) → (Nat → Int32) → (Nat → Int32) → (Nat → Int32) → (Nat → Int32) → (Nat → Int32) → (Nat → Int32) → (Nat → Int32) → Prop) (h : wX5_addPoint lines faulty place token toldOnce plan_bound plan_modulus plan_seed plan_functions plan_degrees plan_colours tape_fed tape_length tape_tokens tape_at tape_starts plan_names plan_kinds plan_firsts plan_seconds plan_needs a1 a2 a3 Q) : gM l D Y yX5_addPoint cX5_addPoint 7 (some .boolean) 2 46 0 0 [.ref h0, .int a1, .int a2, .int a3] [oX5 h0 (.ref q_tape) lines faulty place (.ref q_plan) token toldOnce, oX3 q_plan plan_bound plan_modulus plan_seed plan_functions (.ref q_plan_names) (.ref q_plan_kinds) (.ref q_plan_firsts) (.ref q_plan_seconds) (.ref q_plan_degrees) (.ref q_plan_colours) (.ref q_plan_needs) (v_plan_numbers), aI Y q_plan_degrees 12 plan_degrees, aI Y q_plan_colours 12 plan_colours, oX9 q_tape tape_fed (v_tape_bytes) (v_tape_sorts) (.ref q_tape_starts) (v_tape_contents) tape_length tape_tokens tape_at, aI Y q_tape_starts 701 tape_starts, aI Y q_plan_names 12 plan_names, aI Y q_plan_kinds 12 plan_kinds, aI Y q_plan_firsts 12 plan_firsts, aI Y q_plan_seconds 12 plan_seconds, aI Y q_plan_needs 12 plan_needs] (fun v w => ∃ r : Int32, ∃ faulty' : Int32, ∃ place' : Int32, ∃ plan_functions' : Int32, ∃ plan_degrees' : Nat → Int32, ∃ plan_colours' : Nat → Int32, ∃ plan_names' : Nat → Int32, ∃ plan_kinds' : Nat → Int32, ∃ plan_firsts' : Nat → Int32, ∃ plan_seconds' : Nat → Int32, ∃ plan_needs' : Nat → Int32, v = some (.int r) ∧ w = [oX5 h0 (.ref q_tape) lines faulty' place' (.ref q_plan) token toldOnce, oX3 q_plan plan_bound plan_modulus plan_seed plan_functions' (.ref q_plan_names) (.ref q_plan_kinds) (.ref q_plan_firsts) (.ref q_plan_seconds) (.ref q_plan_degrees) (.ref q_plan_colours) (.ref q_plan_needs) (v_plan_numbers), aI Y q_plan_degrees 12 plan_degrees', aI Y q_plan_colours 12 plan_colours', oX9 q_tape tape_fed (v_tape_bytes) (v_tape_sorts) (.ref q_tape_starts) (v_tape_contents) tape_length tape_tokens tape_at, aI Y q_tape_starts 701 tape_starts, aI Y q_plan_names 12 plan_names', aI Y q_plan_kinds 12 plan_kinds', aI Y q_plan_firsts 12 plan_firsts', aI Y q_plan_seconds 12 plan_seconds', aI Y q_plan_needs 12 plan_needs'] ∧ Q r faulty' place' plan_functions' plan_degrees' plan_colours' plan_names' plan_kinds' plan_firsts' plan_seconds' plan_needs') := by
  refine gM_of (own := RX5) (by decide +kernel) rfl (Nat.le_of_ble_eq_true rfl) rfl (fun E C hR => ?_)
  unfold wX5_addPoint at h
  refine g_aload_n C dX5_addPoint_0 0 rfl ?_
  refine g_get C inX5 0 rfl rfl 4 (by decide) wF_X5_25 rfl dX5_addPoint_1 ?_
  refine g_get C inX3 1 rfl rfl 8 (by decide) wF_X5_137 rfl dX5_addPoint_4 ?_
  refine g_iload_n C dX5_addPoint_7 2 rfl ?_
  obtain ⟨hc_1, h⟩ := h
  refine g_iald C 2 rfl hc_1 dX5_addPoint_8 ?_
  refine g_aload_n C dX5_addPoint_9 0 rfl ?_
  refine g_get C inX5 0 rfl rfl 4 (by decide) wF_X5_25 rfl dX5_addPoint_10 ?_
  refine g_get C inX3 1 rfl rfl 8 (by decide) wF_X5_137 rfl dX5_addPoint_13 ?_
  refine g_iload_n C dX5_addPoint_16 3 rfl ?_
  obtain ⟨hc_2, h⟩ := h
  refine g_iald C 2 rfl hc_2 dX5_addPoint_17 ?_
  refine g_iadd C dX5_addPoint_18 ?_
  refine g_topi (fun x4_1 ex4_1 => ?_)
  replace h := h x4_1 ex4_1
  refine g_istore (lv' := [(4, .int x4_1), (0, .ref h0), (1, .int a1), (2, .int a2), (3, .int a3)]) C dX5_addPoint_19 (by decide) rfl ?_
  refine g_aload_n C dX5_addPoint_21 1 rfl ?_
  refine g_get C inX5 0 rfl rfl 4 (by decide) wF_X5_25 rfl dX5_addPoint_22 ?_
  refine g_get C inX3 1 rfl rfl 9 (by decide) wF_X5_152 rfl dX5_addPoint_25 ?_
  refine g_iload_n C dX5_addPoint_28 3 rfl ?_
  refine g_iald C 3 rfl hc_1 dX5_addPoint_29 ?_
  obtain ⟨J_1, J_2, hA, hB_J_1, hB_J_2⟩ := h
  have key_2 : ∀ (t_1 : Int32), J_2 t_1 → gG E 0 0 [oX5 h0 (.ref q_tape) lines faulty place (.ref q_plan) token toldOnce, oX3 q_plan plan_bound plan_modulus plan_seed plan_functions (.ref q_plan_names) (.ref q_plan_kinds) (.ref q_plan_firsts) (.ref q_plan_seconds) (.ref q_plan_degrees) (.ref q_plan_colours) (.ref q_plan_needs) (v_plan_numbers), aI Y q_plan_degrees 12 plan_degrees, aI Y q_plan_colours 12 plan_colours, oX9 q_tape tape_fed (v_tape_bytes) (v_tape_sorts) (.ref q_tape_starts) (v_tape_contents) tape_length tape_tokens tape_at, aI Y q_tape_starts 701 tape_starts, aI Y q_plan_names 12 plan_names, aI Y q_plan_kinds 12 plan_kinds, aI Y q_plan_firsts 12 plan_firsts, aI Y q_plan_seconds 12 plan_seconds, aI Y q_plan_needs 12 plan_needs] [(0, .ref h0), (1, .int a1), (2, .int a2), (3, .int a3), (4, .int x4_1)] [.int t_1] 50 := by
    intro t_1 hJ
    have h := hB_J_2 t_1 hJ
    refine g_istore (lv' := [(5, .int t_1), (0, .ref h0), (1, .int a1), (2, .int a2), (3, .int a3), (4, .int x4_1)]) C dX5_addPoint_50 (by decide) rfl ?_
    refine g_iload C dX5_addPoint_52 5 rfl ?_
    refine g_iconst (v := 3) C dX5_addPoint_54 rfl ?_
    refine g_icmp_gt (tgt := 63) C dX5_addPoint_55 (by decide) (fun c_1 => ?_) (fun c_1 => ?_)
    · replace h := h.1 c_1
      refine g_aload_n C dX5_addPoint_63 1 rfl ?_
      refine g_iconst (v := 2) C dX5_addPoint_64 rfl ?_
      obtain ⟨P_1, hP, h⟩ := h
      refine g_callV (As := [.int 2]) (rest := []) C (mX5_refuse l D Y h0 q_tape lines faulty place (.ref q_plan) token toldOnce tape_fed v_tape_bytes v_tape_sorts q_tape_starts v_tape_contents tape_length tape_tokens tape_at tape_starts 2 P_1 hP) dX5_addPoint_65 rfl wM_X5_62 wI_X5_refuse wV_X5_refuse wN_X5 wC_X5_refuse (n := 1) (by decide +kernel) rfl (q0 := 0) rfl rfl ⟨Nat.le_of_ble_eq_true rfl, Nat.le_of_ble_eq_true rfl⟩ ⟨Nat.le_of_ble_eq_true rfl, Nat.le_of_ble_eq_true rfl⟩ (Nat.le_of_ble_eq_true rfl) [0, 4, 5] [1, 2, 3, 6, 7, 8, 9, 10] rfl rfl rfl (fun v wc hv => ?_)
      obtain ⟨rF_1, faulty_1, place_1, rfl, rfl, hq⟩ := hv
      replace h := h rF_1 faulty_1 place_1 hq
      refine gG.perm (ws' := [oX5 h0 (.ref q_tape) lines faulty_1 place_1 (.ref q_plan) token toldOnce, oX3 q_plan plan_bound plan_modulus plan_seed plan_functions (.ref q_plan_names) (.ref q_plan_kinds) (.ref q_plan_firsts) (.ref q_plan_seconds) (.ref q_plan_degrees) (.ref q_plan_colours) (.ref q_plan_needs) (v_plan_numbers), aI Y q_plan_degrees 12 plan_degrees, aI Y q_plan_colours 12 plan_colours, oX9 q_tape tape_fed (v_tape_bytes) (v_tape_sorts) (.ref q_tape_starts) (v_tape_contents) tape_length tape_tokens tape_at, aI Y q_tape_starts 701 tape_starts, aI Y q_plan_names 12 plan_names, aI Y q_plan_kinds 12 plan_kinds, aI Y q_plan_firsts 12 plan_firsts, aI Y q_plan_seconds 12 plan_seconds, aI Y q_plan_needs 12 plan_needs]) [8, 0, 1, 2, 9, 10, 3, 4, 5, 6, 7] rfl rfl ?_
      obtain ⟨hz, h⟩ := h
      exact g_zret C hR hz (Nat.le_of_ble_eq_true rfl) (Nat.le_of_ble_eq_true rfl) dX5_addPoint_68 ⟨rF_1, faulty_1, place_1, plan_functions, plan_degrees, plan_colours, plan_names, plan_kinds, plan_firsts, plan_seconds, plan_needs, rfl, rfl, h⟩
    · replace h := h.2 c_1
      refine g_iload C dX5_addPoint_58 0 rfl ?_
      refine g_if_eq (tgt := 69) C dX5_addPoint_60 (by decide) (fun c_2 => ?_) (fun c_2 => ?_)
      · replace h := h.1 c_2
        refine g_aload_n C dX5_addPoint_69 1 rfl ?_
        refine g_get C inX5 0 rfl rfl 4 (by decide) wF_X5_25 rfl dX5_addPoint_70 ?_
        refine g_iload_n C dX5_addPoint_73 2 rfl ?_
        refine g_iconst (v := 4) C dX5_addPoint_74 rfl ?_
        refine g_iload_n C dX5_addPoint_75 3 rfl ?_
        refine g_iload_n C dX5_addPoint_76 4 rfl ?_
        obtain ⟨P_2, hP, h⟩ := h
        refine g_callV (As := [.int a1, .int 4, .int a2, .int a3]) (rest := []) C (mX3_add l D Y q_plan plan_bound plan_modulus plan_seed plan_functions q_plan_names q_plan_kinds q_plan_firsts q_plan_seconds q_plan_degrees q_plan_colours q_plan_needs v_plan_numbers plan_names plan_kinds plan_firsts plan_seconds plan_degrees plan_colours plan_needs a1 4 a2 a3 P_2 hP) dX5_addPoint_77 rfl wM_X5_133 wI_X3_add wV_X3_add wN_X3 wC_X3_add (n := 4) (by decide +kernel) rfl (q0 := 0) rfl rfl ⟨Nat.le_of_ble_eq_true rfl, Nat.le_of_ble_eq_true rfl⟩ ⟨Nat.le_of_ble_eq_true rfl, Nat.le_of_ble_eq_true rfl⟩ (Nat.le_of_ble_eq_true rfl) [1, 6, 7, 8, 9, 2, 3, 10] [0, 4, 5] rfl rfl rfl (fun v wc hv => ?_)
        obtain ⟨rF_2, functions_1, names_1, kinds_1, firsts_1, seconds_1, degrees_1, colours_1, needs_1, rfl, rfl, hq⟩ := hv
        replace h := h rF_2 functions_1 names_1 kinds_1 firsts_1 seconds_1 degrees_1 colours_1 needs_1 hq
        refine gG.perm (ws' := [oX5 h0 (.ref q_tape) lines faulty place (.ref q_plan) token toldOnce, oX3 q_plan plan_bound plan_modulus plan_seed functions_1 (.ref q_plan_names) (.ref q_plan_kinds) (.ref q_plan_firsts) (.ref q_plan_seconds) (.ref q_plan_degrees) (.ref q_plan_colours) (.ref q_plan_needs) (v_plan_numbers), aI Y q_plan_degrees 12 degrees_1, aI Y q_plan_colours 12 colours_1, oX9 q_tape tape_fed (v_tape_bytes) (v_tape_sorts) (.ref q_tape_starts) (v_tape_contents) tape_length tape_tokens tape_at, aI Y q_tape_starts 701 tape_starts, aI Y q_plan_names 12 names_1, aI Y q_plan_kinds 12 kinds_1, aI Y q_plan_firsts 12 firsts_1, aI Y q_plan_seconds 12 seconds_1, aI Y q_plan_needs 12 needs_1]) [0, 3, 8, 9, 1, 2, 4, 5, 6, 7, 10] rfl rfl ?_
        refine g_istore (lv' := [(6, .int rF_2), (5, .int t_1), (0, .ref h0), (1, .int a1), (2, .int a2), (3, .int a3), (4, .int x4_1)]) C dX5_addPoint_80 (by decide) rfl ?_
        refine g_aload_n C dX5_addPoint_82 2 rfl ?_
        refine g_get C inX5 0 rfl rfl 4 (by decide) wF_X5_25 rfl dX5_addPoint_83 ?_
        refine g_get C inX3 1 rfl rfl 8 (by decide) wF_X5_137 rfl dX5_addPoint_86 ?_
        refine g_iload C dX5_addPoint_89 0 rfl ?_
        refine g_iload C dX5_addPoint_91 6 rfl ?_
        obtain ⟨hc_3, h⟩ := h
        refine g_iast C 2 rfl hc_3 dX5_addPoint_93 (fun degrees_2 edegrees_2 => gG.eqw (ws' := [oX5 h0 (.ref q_tape) lines faulty place (.ref q_plan) token toldOnce, oX3 q_plan plan_bound plan_modulus plan_seed functions_1 (.ref q_plan_names) (.ref q_plan_kinds) (.ref q_plan_firsts) (.ref q_plan_seconds) (.ref q_plan_degrees) (.ref q_plan_colours) (.ref q_plan_needs) (v_plan_numbers), aI Y q_plan_degrees 12 degrees_2, aI Y q_plan_colours 12 colours_1, oX9 q_tape tape_fed (v_tape_bytes) (v_tape_sorts) (.ref q_tape_starts) (v_tape_contents) tape_length tape_tokens tape_at, aI Y q_tape_starts 701 tape_starts, aI Y q_plan_names 12 names_1, aI Y q_plan_kinds 12 kinds_1, aI Y q_plan_firsts 12 firsts_1, aI Y q_plan_seconds 12 seconds_1, aI Y q_plan_needs 12 needs_1]) rfl ?_)
        replace h := h degrees_2 edegrees_2
        refine g_aload_n C dX5_addPoint_94 2 rfl ?_
        refine g_get C inX5 0 rfl rfl 4 (by decide) wF_X5_25 rfl dX5_addPoint_95 ?_
        refine g_get C inX3 1 rfl rfl 9 (by decide) wF_X5_152 rfl dX5_addPoint_98 ?_
        refine g_iload C dX5_addPoint_101 0 rfl ?_
        refine g_aload_n C dX5_addPoint_103 2 rfl ?_
        refine g_get C inX5 0 rfl rfl 4 (by decide) wF_X5_25 rfl dX5_addPoint_104 ?_
        refine g_get C inX3 1 rfl rfl 9 (by decide) wF_X5_152 rfl dX5_addPoint_107 ?_
        refine g_iload_n C dX5_addPoint_110 4 rfl ?_
        obtain ⟨hc_4, h⟩ := h
        refine g_iald C 3 rfl hc_4 dX5_addPoint_111 ?_
        refine g_aload_n C dX5_addPoint_112 2 rfl ?_
        refine g_get C inX5 0 rfl rfl 4 (by decide) wF_X5_25 rfl dX5_addPoint_113 ?_
        refine g_get C inX3 1 rfl rfl 9 (by decide) wF_X5_152 rfl dX5_addPoint_116 ?_
        refine g_iload_n C dX5_addPoint_119 5 rfl ?_
        obtain ⟨hc_5, h⟩ := h
        refine g_iald C 3 rfl hc_5 dX5_addPoint_120 ?_
        refine g_ior C dX5_addPoint_121 ?_
        refine g_topi (fun e_1 ee_1 => ?_)
        replace h := h e_1 ee_1
        refine g_iast C 3 rfl hc_3 dX5_addPoint_122 (fun colours_2 ecolours_2 => gG.eqw (ws' := [oX5 h0 (.ref q_tape) lines faulty place (.ref q_plan) token toldOnce, oX3 q_plan plan_bound plan_modulus plan_seed functions_1 (.ref q_plan_names) (.ref q_plan_kinds) (.ref q_plan_firsts) (.ref q_plan_seconds) (.ref q_plan_degrees) (.ref q_plan_colours) (.ref q_plan_needs) (v_plan_numbers), aI Y q_plan_degrees 12 degrees_2, aI Y q_plan_colours 12 colours_2, oX9 q_tape tape_fed (v_tape_bytes) (v_tape_sorts) (.ref q_tape_starts) (v_tape_contents) tape_length tape_tokens tape_at, aI Y q_tape_starts 701 tape_starts, aI Y q_plan_names 12 names_1, aI Y q_plan_kinds 12 kinds_1, aI Y q_plan_firsts 12 firsts_1, aI Y q_plan_seconds 12 seconds_1, aI Y q_plan_needs 12 needs_1]) rfl ?_)
        replace h := h colours_2 ecolours_2
        refine g_iconst (v := 1) C dX5_addPoint_123 rfl ?_
        exact g_zret C hR (by decide) (Nat.le_of_ble_eq_true rfl) (Nat.le_of_ble_eq_true rfl) dX5_addPoint_124 ⟨1, faulty, place, functions_1, degrees_2, colours_2, names_1, kinds_1, firsts_1, seconds_1, needs_1, rfl, rfl, h⟩
      · replace h := h.2 c_2
        refine g_aload_n C dX5_addPoint_63 1 rfl ?_
        refine g_iconst (v := 2) C dX5_addPoint_64 rfl ?_
        obtain ⟨P_3, hP, h⟩ := h
        refine g_callV (As := [.int 2]) (rest := []) C (mX5_refuse l D Y h0 q_tape lines faulty place (.ref q_plan) token toldOnce tape_fed v_tape_bytes v_tape_sorts q_tape_starts v_tape_contents tape_length tape_tokens tape_at tape_starts 2 P_3 hP) dX5_addPoint_65 rfl wM_X5_62 wI_X5_refuse wV_X5_refuse wN_X5 wC_X5_refuse (n := 1) (by decide +kernel) rfl (q0 := 0) rfl rfl ⟨Nat.le_of_ble_eq_true rfl, Nat.le_of_ble_eq_true rfl⟩ ⟨Nat.le_of_ble_eq_true rfl, Nat.le_of_ble_eq_true rfl⟩ (Nat.le_of_ble_eq_true rfl) [0, 4, 5] [1, 2, 3, 6, 7, 8, 9, 10] rfl rfl rfl (fun v wc hv => ?_)
        obtain ⟨rF_3, faulty_2, place_2, rfl, rfl, hq⟩ := hv
        replace h := h rF_3 faulty_2 place_2 hq
        refine gG.perm (ws' := [oX5 h0 (.ref q_tape) lines faulty_2 place_2 (.ref q_plan) token toldOnce, oX3 q_plan plan_bound plan_modulus plan_seed plan_functions (.ref q_plan_names) (.ref q_plan_kinds) (.ref q_plan_firsts) (.ref q_plan_seconds) (.ref q_plan_degrees) (.ref q_plan_colours) (.ref q_plan_needs) (v_plan_numbers), aI Y q_plan_degrees 12 plan_degrees, aI Y q_plan_colours 12 plan_colours, oX9 q_tape tape_fed (v_tape_bytes) (v_tape_sorts) (.ref q_tape_starts) (v_tape_contents) tape_length tape_tokens tape_at, aI Y q_tape_starts 701 tape_starts, aI Y q_plan_names 12 plan_names, aI Y q_plan_kinds 12 plan_kinds, aI Y q_plan_firsts 12 plan_firsts, aI Y q_plan_seconds 12 plan_seconds, aI Y q_plan_needs 12 plan_needs]) [8, 0, 1, 2, 9, 10, 3, 4, 5, 6, 7] rfl rfl ?_
        obtain ⟨hz, h⟩ := h
        exact g_zret C hR hz (Nat.le_of_ble_eq_true rfl) (Nat.le_of_ble_eq_true rfl) dX5_addPoint_68 ⟨rF_3, faulty_2, place_2, plan_functions, plan_degrees, plan_colours, plan_names, plan_kinds, plan_firsts, plan_seconds, plan_needs, rfl, rfl, h⟩
  have key_1 : J_1 → gG E 0 0 [oX5 h0 (.ref q_tape) lines faulty place (.ref q_plan) token toldOnce, oX3 q_plan plan_bound plan_modulus plan_seed plan_functions (.ref q_plan_names) (.ref q_plan_kinds) (.ref q_plan_firsts) (.ref q_plan_seconds) (.ref q_plan_degrees) (.ref q_plan_colours) (.ref q_plan_needs) (v_plan_numbers), aI Y q_plan_degrees 12 plan_degrees, aI Y q_plan_colours 12 plan_colours, oX9 q_tape tape_fed (v_tape_bytes) (v_tape_sorts) (.ref q_tape_starts) (v_tape_contents) tape_length tape_tokens tape_at, aI Y q_tape_starts 701 tape_starts, aI Y q_plan_names 12 plan_names, aI Y q_plan_kinds 12 plan_kinds, aI Y q_plan_firsts 12 plan_firsts, aI Y q_plan_seconds 12 plan_seconds, aI Y q_plan_needs 12 plan_needs] [(0, .ref h0), (1, .int a1), (2, .int a2), (3, .int a3), (4, .int x4_1)] [] 49 := by
    intro  hJ
    have h := hB_J_1  hJ
    refine g_iconst (v := 0) C dX5_addPoint_49 rfl ?_
    exact key_2 0 h
  replace h := hA
  refine g_if_eq (tgt := 49) C dX5_addPoint_30 (by decide) (fun c_3 => ?_) (fun c_3 => ?_)
  · replace h := h.1 c_3
    refine gG.locals (lv' := [(0, .ref h0), (1, .int a1), (2, .int a2), (3, .int a3), (4, .int x4_1)]) [1, 2, 3, 4, 0] rfl ?_
    exact key_1 h
  · replace h := h.2 c_3
    refine g_aload_n C dX5_addPoint_33 1 rfl ?_
    refine g_get C inX5 0 rfl rfl 4 (by decide) wF_X5_25 rfl dX5_addPoint_34 ?_
    refine g_get C inX3 1 rfl rfl 9 (by decide) wF_X5_152 rfl dX5_addPoint_37 ?_
    refine g_iload_n C dX5_addPoint_40 4 rfl ?_
    obtain ⟨hc_6, h⟩ := h
    refine g_iald C 3 rfl hc_6 dX5_addPoint_41 ?_
    refine g_if_eq (tgt := 49) C dX5_addPoint_42 (by decide) (fun c_4 => ?_) (fun c_4 => ?_)
    · replace h := h.1 c_4
      refine gG.locals (lv' := [(0, .ref h0), (1, .int a1), (2, .int a2), (3, .int a3), (4, .int x4_1)]) [1, 2, 3, 4, 0] rfl ?_
      exact key_1 h
    · replace h := h.2 c_4
      refine g_iconst (v := 1) C dX5_addPoint_45 rfl ?_
      refine g_goto (tgt := 50) C dX5_addPoint_46 (by decide) ?_
      refine gG.locals (lv' := [(0, .ref h0), (1, .int a1), (2, .int a2), (3, .int a3), (4, .int x4_1)]) [1, 2, 3, 4, 0] rfl ?_
      exact key_2 1 h
theorem dX5_readPair_0 : decode cX5_readPair 0 = .ok (.aload_n 0, 1) := by decide +kernel
theorem dX5_readPair_1 : decode cX5_readPair 1 = .ok (.invokevirtual 130, 3) := by decide +kernel
theorem dX5_readPair_4 : decode cX5_readPair 4 = .ok (.istore_n 2, 1) := by decide +kernel
theorem dX5_readPair_5 : decode cX5_readPair 5 = .ok (.iload_n 2, 1) := by decide +kernel
theorem dX5_readPair_6 : decode cX5_readPair 6 = .ok (.iconst (-1), 1) := by decide +kernel
theorem dX5_readPair_7 : decode cX5_readPair 7 = .ok (.if_icmp .ne 5, 3) := by decide +kernel
theorem dX5_readPair_10 : decode cX5_readPair 10 = .ok (.iconst 0, 1) := by decide +kernel
theorem dX5_readPair_11 : decode cX5_readPair 11 = .ok (.ireturn, 1) := by decide +kernel
theorem dX5_readPair_12 : decode cX5_readPair 12 = .ok (.aload_n 0, 1) := by decide +kernel
theorem dX5_readPair_13 : decode cX5_readPair 13 = .ok (.invokevirtual 112, 3) := by decide +kernel
theorem dX5_readPair_16 : decode cX5_readPair 16 = .ok (.istore_n 3, 1) := by decide +kernel
theorem dX5_readPair_17 : decode cX5_readPair 17 = .ok (.iload_n 3, 1) := by decide +kernel
theorem dX5_readPair_18 : decode cX5_readPair 18 = .ok (.iconst (-1), 1) := by decide +kernel
theorem dX5_readPair_19 : decode cX5_readPair 19 = .ok (.if_icmp .ne 5, 3) := by decide +kernel
theorem dX5_readPair_22 : decode cX5_readPair 22 = .ok (.iconst 0, 1) := by decide +kernel
theorem dX5_readPair_23 : decode cX5_readPair 23 = .ok (.ireturn, 1) := by decide +kernel
theorem dX5_readPair_24 : decode cX5_readPair 24 = .ok (.aload_n 0, 1) := by decide +kernel
theorem dX5_readPair_25 : decode cX5_readPair 25 = .ok (.invokevirtual 112, 3) := by decide +kernel
theorem dX5_readPair_28 : decode cX5_readPair 28 = .ok (.istore 4, 2) := by decide +kernel
theorem dX5_readPair_30 : decode cX5_readPair 30 = .ok (.iload 4, 2) := by decide +kernel
theorem dX5_readPair_32 : decode cX5_readPair 32 = .ok (.iconst (-1), 1) := by decide +kernel
theorem dX5_readPair_33 : decode cX5_readPair 33 = .ok (.if_icmp .ne 5, 3) := by decide +kernel
theorem dX5_readPair_36 : decode cX5_readPair 36 = .ok (.iconst 0, 1) := by decide +kernel
theorem dX5_readPair_37 : decode cX5_readPair 37 = .ok (.ireturn, 1) := by decide +kernel
theorem dX5_readPair_38 : decode cX5_readPair 38 = .ok (.iload_n 1, 1) := by decide +kernel
theorem dX5_readPair_39 : decode cX5_readPair 39 = .ok (.bipush 15, 2) := by decide +kernel
theorem dX5_readPair_41 : decode cX5_readPair 41 = .ok (.if_icmp .ne 14, 3) := by decide +kernel
theorem dX5_readPair_44 : decode cX5_readPair 44 = .ok (.aload_n 0, 1) := by decide +kernel
theorem dX5_readPair_45 : decode cX5_readPair 45 = .ok (.iload_n 2, 1) := by decide +kernel
theorem dX5_readPair_46 : decode cX5_readPair 46 = .ok (.iload_n 3, 1) := by decide +kernel
theorem dX5_readPair_47 : decode cX5_readPair 47 = .ok (.iload 4, 2) := by decide +kernel
theorem dX5_readPair_49 : decode cX5_readPair 49 = .ok (.invokevirtual 140, 3) := by decide +kernel
theorem dX5_readPair_52 : decode cX5_readPair 52 = .ok (.goto 11, 3) := by decide +kernel
theorem dX5_readPair_55 : decode cX5_readPair 55 = .ok (.aload_n 0, 1) := by decide +kernel
theorem dX5_readPair_56 : decode cX5_readPair 56 = .ok (.iload_n 2, 1) := by decide +kernel
theorem dX5_readPair_57 : decode cX5_readPair 57 = .ok (.iload_n 3, 1) := by decide +kernel
theorem dX5_readPair_58 : decode cX5_readPair 58 = .ok (.iload 4, 2) := by decide +kernel
theorem dX5_readPair_60 : decode cX5_readPair 60 = .ok (.invokevirtual 144, 3) := by decide +kernel
theorem dX5_readPair_63 : decode cX5_readPair 63 = .ok (.ireturn, 1) := by decide +kernel
/-- QuotientSums$Reader.readPair(I)Z -/
def wX5_readPair (lines : Int32) (faulty : Int32) (place : Int32) (token : Int32) (toldOnce : Int32) (plan_bound : Int32) (plan_modulus : Int32) (plan_seed : Int32) (plan_functions : Int32) (tape_fed : Int32) (tape_length : Int32) (tape_tokens : Int32) (tape_at : Int32) (tape_sorts : Nat → Int32) (tape_contents : Nat → Int32) (plan_names : Nat → Int32) (tape_starts : Nat → Int32) (plan_degrees : Nat → Int32) (plan_colours : Nat → Int32) (plan_kinds : Nat → Int32) (plan_firsts : Nat → Int32) (plan_seconds : Nat → Int32) (plan_needs : Nat → Int32) (a1 : Int32) (Q : (Int32) → (Int32) → (Int32) → (Int32) → (Int32) → (Nat → Int32) → (Nat → Int32) → (Nat → Int32) → (Nat → Int32) → (Nat → Int32) → (Nat → Int32) → (Nat → Int32) → Prop) : Prop :=
  (∃ (P_1 : (Int32) → (Int32) → (Int32) → (Int32) → Prop), wX5_takeNewName lines faulty place token toldOnce plan_bound plan_modulus plan_seed plan_functions tape_fed tape_length tape_tokens tape_at tape_sorts tape_contents plan_names tape_starts P_1 ∧ ∀ (rF_1 : Int32) (faulty_1 : Int32) (place_1 : Int32) (token_1 : Int32), P_1 rF_1 faulty_1 place_1 token_1 → ((¬ rF_1 = (-1) → (∃ (P_2 : (Int32) → (Int32) → (Int32) → (Int32) → Prop), wX5_takeFunction lines faulty_1 place_1 token_1 toldOnce tape_fed tape_length tape_tokens tape_at tape_sorts tape_contents plan_bound plan_modulus plan_seed plan_functions plan_names tape_starts P_2 ∧ ∀ (rF_2 : Int32) (faulty_2 : Int32) (place_2 : Int32) (token_2 : Int32), P_2 rF_2 faulty_2 place_2 token_2 → ((¬ rF_2 = (-1) → (∃ (P_3 : (Int32) → (Int32) → (Int32) → (Int32) → Prop), wX5_takeFunction lines faulty_2 place_2 token_2 toldOnce tape_fed tape_length tape_tokens tape_at tape_sorts tape_contents plan_bound plan_modulus plan_seed plan_functions plan_names tape_starts P_3 ∧ ∀ (rF_3 : Int32) (faulty_3 : Int32) (place_3 : Int32) (token_3 : Int32), P_3 rF_3 faulty_3 place_3 token_3 → ((¬ rF_3 = (-1) → ((¬ a1 = 15 → (∃ (P_4 : (Int32) → (Int32) → (Int32) → (Int32) → (Nat → Int32) → (Nat → Int32) → (Nat → Int32) → (Nat → Int32) → (Nat → Int32) → (Nat → Int32) → (Nat → Int32) → Prop), wX5_addPoint lines faulty_3 place_3 token_3 toldOnce plan_bound plan_modulus plan_seed plan_functions plan_degrees plan_colours tape_fed tape_length tape_tokens tape_at tape_starts plan_names plan_kinds plan_firsts plan_seconds plan_needs rF_1 rF_2 rF_3 P_4 ∧ ∀ (rF_4 : Int32) (faulty_4 : Int32) (place_4 : Int32) (plan_functions_1 : Int32) (plan_degrees_1 : Nat → Int32) (plan_colours_1 : Nat → Int32) (plan_names_1 : Nat → Int32) (plan_kinds_1 : Nat → Int32) (plan_firsts_1 : Nat → Int32) (plan_seconds_1 : Nat → Int32) (plan_needs_1 : Nat → Int32), P_4 rF_4 faulty_4 place_4 plan_functions_1 plan_degrees_1 plan_colours_1 plan_names_1 plan_kinds_1 plan_firsts_1 plan_seconds_1 plan_needs_1 → ((rF_4 = 0 ∨ rF_4 = 1) ∧ Q rF_4 faulty_4 place_4 token_3 plan_functions_1 plan_names_1 plan_degrees_1 plan_colours_1 plan_kinds_1 plan_firsts_1 plan_seconds_1 plan_needs_1))) ∧ (a1 = 15 → (∃ (P_5 : (Int32) → (Int32) → (Nat → Int32) → (Nat → Int32) → (Nat → Int32) → (Nat → Int32) → (Nat → Int32) → (Nat → Int32) → (Nat → Int32) → Prop), wX5_addTimes lines faulty_3 place_3 token_3 toldOnce plan_bound plan_modulus plan_seed plan_functions plan_names plan_kinds plan_firsts plan_seconds plan_degrees plan_colours plan_needs rF_1 rF_2 rF_3 P_5 ∧ ∀ (rF_5 : Int32) (plan_functions_2 : Int32) (plan_names_2 : Nat → Int32) (plan_kinds_2 : Nat → Int32) (plan_firsts_2 : Nat → Int32) (plan_seconds_2 : Nat → Int32) (plan_degrees_2 : Nat → Int32) (plan_colours_2 : Nat → Int32) (plan_needs_2 : Nat → Int32), P_5 rF_5 plan_functions_2 plan_names_2 plan_kinds_2 plan_firsts_2 plan_seconds_2 plan_degrees_2 plan_colours_2 plan_needs_2 → ((rF_5 = 0 ∨ rF_5 = 1) ∧ Q rF_5 faulty_3 place_3 token_3 plan_functions_2 plan_names_2 plan_degrees_2 plan_colours_2 plan_kinds_2 plan_firsts_2 plan_seconds_2 plan_needs_2))))) ∧ (rF_3 = (-1) → (Q 0 faulty_3 place_3 token_3 plan_functions plan_names plan_degrees plan_colours plan_kinds plan_firsts plan_seconds plan_needs))))) ∧ (rF_2 = (-1) → (Q 0 faulty_2 place_2 token_2 plan_functions plan_names plan_degrees plan_colours plan_kinds plan_firsts plan_seconds plan_needs))))) ∧ (rF_1 = (-1) → (Q 0 faulty_1 place_1 token_1 plan_functions plan_names plan_degrees plan_colours plan_kinds plan_firsts plan_seconds plan_needs))))
set_option maxHeartbeats 4000000 in
set_option maxRecDepth 100000 in
theorem mX5_readPair (l : Launch) (D : va_G) (Y : Nat → ClassId) (h0 : Nat) (q_tape : Nat) (lines : Int32) (faulty : Int32) (place : Int32) (q_plan : Nat) (token : Int32) (toldOnce : Int32) (plan_bound : Int32) (plan_modulus : Int32) (plan_seed : Int32) (plan_functions : Int32) (q_plan_names : Nat) (q_plan_kinds : Nat) (q_plan_firsts : Nat) (q_plan_seconds : Nat) (q_plan_degrees : Nat) (q_plan_colours : Nat) (q_plan_needs : Nat) (v_plan_numbers : Value) (tape_fed : Int32) (v_tape_bytes : Value) (q_tape_sorts : Nat) (q_tape_starts : Nat) (q_tape_contents : Nat) (tape_length : Int32) (tape_tokens : Int32) (tape_at : Int32) (tape_sorts : Nat → Int32) (tape_contents : Nat → Int32) (plan_names : Nat → Int32) (tape_starts : Nat → Int32) (plan_degrees : Nat → Int32) (plan_colours : Nat → Int32) (plan_kinds : Nat → Int32) (plan_firsts : Nat → Int32) (plan_seconds : Nat → Int32) (plan_needs : Nat → Int32) (a1 : Int32) (Q : (Int32) → (Int32) → (Int32) → (Int32) → (Int32) → (Nat → Int32) → (Nat → Int32) → (Nat → Int32) → (Nat → Int32) → (Nat → Int32) → (Nat → Int32) → (Nat → Int32) → Prop) (h : wX5_readPair lines faulty place token toldOnce plan_bound plan_modulus plan_seed plan_functions tape_fed tape_length tape_tokens tape_at tape_sorts tape_contents plan_names tape_starts plan_degrees plan_colours plan_kinds plan_firsts plan_seconds plan_needs a1 Q) : gM l D Y yX5_readPair cX5_readPair 5 (some .boolean) 3 72 0 0 [.ref h0, .int a1] [oX5 h0 (.ref q_tape) lines faulty place (.ref q_plan) token toldOnce, oX3 q_plan plan_bound plan_modulus plan_seed plan_functions (.ref q_plan_names) (.ref q_plan_kinds) (.ref q_plan_firsts) (.ref q_plan_seconds) (.ref q_plan_degrees) (.ref q_plan_colours) (.ref q_plan_needs) (v_plan_numbers), oX9 q_tape tape_fed (v_tape_bytes) (.ref q_tape_sorts) (.ref q_tape_starts) (.ref q_tape_contents) tape_length tape_tokens tape_at, aI Y q_tape_sorts 701 tape_sorts, aI Y q_tape_contents 701 tape_contents, aI Y q_plan_names 12 plan_names, aI Y q_tape_starts 701 tape_starts, aI Y q_plan_degrees 12 plan_degrees, aI Y q_plan_colours 12 plan_colours, aI Y q_plan_kinds 12 plan_kinds, aI Y q_plan_firsts 12 plan_firsts, aI Y q_plan_seconds 12 plan_seconds, aI Y q_plan_needs 12 plan_needs] (fun v w => ∃ r : Int32, ∃ faulty' : Int32, ∃ place' : Int32, ∃ token' : Int32, ∃ plan_functions' : Int32, ∃ plan_names' : Nat → Int32, ∃ plan_degrees' : Nat → Int32, ∃ plan_colours' : Nat → Int32, ∃ plan_kinds' : Nat → Int32, ∃ plan_firsts' : Nat → Int32, ∃ plan_seconds' : Nat → Int32, ∃ plan_needs' : Nat → Int32, v = some (.int r) ∧ w = [oX5 h0 (.ref q_tape) lines faulty' place' (.ref q_plan) token' toldOnce, oX3 q_plan plan_bound plan_modulus plan_seed plan_functions' (.ref q_plan_names) (.ref q_plan_kinds) (.ref q_plan_firsts) (.ref q_plan_seconds) (.ref q_plan_degrees) (.ref q_plan_colours) (.ref q_plan_needs) (v_plan_numbers), oX9 q_tape tape_fed (v_tape_bytes) (.ref q_tape_sorts) (.ref q_tape_starts) (.ref q_tape_contents) tape_length tape_tokens tape_at, aI Y q_tape_sorts 701 tape_sorts, aI Y q_tape_contents 701 tape_contents, aI Y q_plan_names 12 plan_names', aI Y q_tape_starts 701 tape_starts, aI Y q_plan_degrees 12 plan_degrees', aI Y q_plan_colours 12 plan_colours', aI Y q_plan_kinds 12 plan_kinds', aI Y q_plan_firsts 12 plan_firsts', aI Y q_plan_seconds 12 plan_seconds', aI Y q_plan_needs 12 plan_needs'] ∧ Q r faulty' place' token' plan_functions' plan_names' plan_degrees' plan_colours' plan_kinds' plan_firsts' plan_seconds' plan_needs') := by
  refine gM_of (own := RX5) (by decide +kernel) rfl (Nat.le_of_ble_eq_true rfl) rfl (fun E C hR => ?_)
  unfold wX5_readPair at h
  refine g_aload_n C dX5_readPair_0 0 rfl ?_
  obtain ⟨P_1, hP, h⟩ := h
  refine g_callV (As := []) (rest := []) C (mX5_takeNewName l D Y h0 q_tape lines faulty place q_plan token toldOnce plan_bound plan_modulus plan_seed plan_functions q_plan_names (.ref q_plan_kinds) (.ref q_plan_firsts) (.ref q_plan_seconds) (.ref q_plan_degrees) (.ref q_plan_colours) (.ref q_plan_needs) v_plan_numbers tape_fed v_tape_bytes q_tape_sorts q_tape_starts q_tape_contents tape_length tape_tokens tape_at tape_sorts tape_contents plan_names tape_starts P_1 hP) dX5_readPair_1 rfl wM_X5_130 wI_X5_takeNewName wV_X5_takeNewName wN_X5 wC_X5_takeNewName (n := 0) (by decide +kernel) rfl (q0 := 0) rfl rfl ⟨Nat.le_of_ble_eq_true rfl, Nat.le_of_ble_eq_true rfl⟩ ⟨Nat.le_of_ble_eq_true rfl, Nat.le_of_ble_eq_true rfl⟩ (Nat.le_of_ble_eq_true rfl) [0, 1, 2, 3, 4, 5, 6] [7, 8, 9, 10, 11, 12] rfl rfl rfl (fun v wc hv => ?_)
  obtain ⟨rF_1, faulty_1, place_1, token_1, rfl, rfl, hq⟩ := hv
  replace h := h rF_1 faulty_1 place_1 token_1 hq
  refine gG.perm (ws' := [oX5 h0 (.ref q_tape) lines faulty_1 place_1 (.ref q_plan) token_1 toldOnce, oX3 q_plan plan_bound plan_modulus plan_seed plan_functions (.ref q_plan_names) (.ref q_plan_kinds) (.ref q_plan_firsts) (.ref q_plan_seconds) (.ref q_plan_degrees) (.ref q_plan_colours) (.ref q_plan_needs) (v_plan_numbers), oX9 q_tape tape_fed (v_tape_bytes) (.ref q_tape_sorts) (.ref q_tape_starts) (.ref q_tape_contents) tape_length tape_tokens tape_at, aI Y q_tape_sorts 701 tape_sorts, aI Y q_tape_contents 701 tape_contents, aI Y q_plan_names 12 plan_names, aI Y q_tape_starts 701 tape_starts, aI Y q_plan_degrees 12 plan_degrees, aI Y q_plan_colours 12 plan_colours, aI Y q_plan_kinds 12 plan_kinds, aI Y q_plan_firsts 12 plan_firsts, aI Y q_plan_seconds 12 plan_seconds, aI Y q_plan_needs 12 plan_needs]) [6, 7, 8, 9, 10, 11, 12, 0, 1, 2, 3, 4, 5] rfl rfl ?_
  refine g_istore_n (lv' := [(2, .int rF_1), (0, .ref h0), (1, .int a1)]) C dX5_readPair_4 (by decide) rfl ?_
  refine g_iload_n C dX5_readPair_5 0 rfl ?_
  refine g_iconst (v := (-1)) C dX5_readPair_6 rfl ?_
  refine g_icmp_ne (tgt := 12) C dX5_readPair_7 (by decide) (fun c_1 => ?_) (fun c_1 => ?_)
  · replace h := h.1 c_1
    refine g_aload_n C dX5_readPair_12 1 rfl ?_
    obtain ⟨P_2, hP, h⟩ := h
    refine g_callV (As := []) (rest := []) C (mX5_takeFunction l D Y h0 q_tape lines faulty_1 place_1 q_plan token_1 toldOnce tape_fed v_tape_bytes q_tape_sorts q_tape_starts q_tape_contents tape_length tape_tokens tape_at tape_sorts tape_contents plan_bound plan_modulus plan_seed plan_functions q_plan_names (.ref q_plan_kinds) (.ref q_plan_firsts) (.ref q_plan_seconds) (.ref q_plan_degrees) (.ref q_plan_colours) (.ref q_plan_needs) v_plan_numbers plan_names tape_starts P_2 hP) dX5_readPair_13 rfl wM_X5_112 wI_X5_takeFunction wV_X5_takeFunction wN_X5 wC_X5_takeFunction (n := 0) (by decide +kernel) rfl (q0 := 0) rfl rfl ⟨Nat.le_of_ble_eq_true rfl, Nat.le_of_ble_eq_true rfl⟩ ⟨Nat.le_of_ble_eq_true rfl, Nat.le_of_ble_eq_true rfl⟩ (Nat.le_of_ble_eq_true rfl) [0, 2, 3, 4, 1, 5, 6] [7, 8, 9, 10, 11, 12] rfl rfl rfl (fun v wc hv => ?_)
    obtain ⟨rF_2, faulty_2, place_2, token_2, rfl, rfl, hq⟩ := hv
    replace h := h rF_2 faulty_2 place_2 token_2 hq
    refine gG.perm (ws' := [oX5 h0 (.ref q_tape) lines faulty_2 place_2 (.ref q_plan) token_2 toldOnce, oX3 q_plan plan_bound plan_modulus plan_seed plan_functions (.ref q_plan_names) (.ref q_plan_kinds) (.ref q_plan_firsts) (.ref q_plan_seconds) (.ref q_plan_degrees) (.ref q_plan_colours) (.ref q_plan_needs) (v_plan_numbers), oX9 q_tape tape_fed (v_tape_bytes) (.ref q_tape_sorts) (.ref q_tape_starts) (.ref q_tape_contents) tape_length tape_tokens tape_at, aI Y q_tape_sorts 701 tape_sorts, aI Y q_tape_contents 701 tape_contents, aI Y q_plan_names 12 plan_names, aI Y q_tape_starts 701 tape_starts, aI Y q_plan_degrees 12 plan_degrees, aI Y q_plan_colours 12 plan_colours, aI Y q_plan_kinds 12 plan_kinds, aI Y q_plan_firsts 12 plan_firsts, aI Y q_plan_seconds 12 plan_seconds, aI Y q_plan_needs 12 plan_needs]) [6, 10, 7, 8, 9, 11, 12, 0, 1, 2, 3, 4, 5] rfl rfl ?_
    refine g_istore_n (lv' := [(3, .int rF_2), (2, .int rF_1), (0, .ref h0), (1, .int a1)]) C dX5_readPair_16 (by decide) rfl ?_
    refine g_iload_n C dX5_readPair_17 0 rfl ?_
    refine g_iconst (v := (-1)) C dX5_readPair_18 rfl ?_
    refine g_icmp_ne (tgt := 24) C dX5_readPair_19 (by decide) (fun c_2 => ?_) (fun c_2 => ?_)
    · replace h := h.1 c_2
      refine g_aload_n C dX5_readPair_24 2 rfl ?_
      obtain ⟨P_3, hP, h⟩ := h
      refine g_callV (As := []) (rest := []) C (mX5_takeFunction l D Y h0 q_tape lines faulty_2 place_2 q_plan token_2 toldOnce tape_fed v_tape_bytes q_tape_sorts q_tape_starts q_tape_contents tape_length tape_tokens tape_at tape_sorts tape_contents plan_bound plan_modulus plan_seed plan_functions q_plan_names (.ref q_plan_kinds) (.ref q_plan_firsts) (.ref q_plan_seconds) (.ref q_plan_degrees) (.ref q_plan_colours) (.ref q_plan_needs) v_plan_numbers plan_names tape_starts P_3 hP) dX5_readPair_25 rfl wM_X5_112 wI_X5_takeFunction wV_X5_takeFunction wN_X5 wC_X5_takeFunction (n := 0) (by decide +kernel) rfl (q0 := 0) rfl rfl ⟨Nat.le_of_ble_eq_true rfl, Nat.le_of_ble_eq_true rfl⟩ ⟨Nat.le_of_ble_eq_true rfl, Nat.le_of_ble_eq_true rfl⟩ (Nat.le_of_ble_eq_true rfl) [0, 2, 3, 4, 1, 5, 6] [7, 8, 9, 10, 11, 12] rfl rfl rfl (fun v wc hv => ?_)
      obtain ⟨rF_3, faulty_3, place_3, token_3, rfl, rfl, hq⟩ := hv
      replace h := h rF_3 faulty_3 place_3 token_3 hq
      refine gG.perm (ws' := [oX5 h0 (.ref q_tape) lines faulty_3 place_3 (.ref q_plan) token_3 toldOnce, oX3 q_plan plan_bound plan_modulus plan_seed plan_functions (.ref q_plan_names) (.ref q_plan_kinds) (.ref q_plan_firsts) (.ref q_plan_seconds) (.ref q_plan_degrees) (.ref q_plan_colours) (.ref q_plan_needs) (v_plan_numbers), oX9 q_tape tape_fed (v_tape_bytes) (.ref q_tape_sorts) (.ref q_tape_starts) (.ref q_tape_contents) tape_length tape_tokens tape_at, aI Y q_tape_sorts 701 tape_sorts, aI Y q_tape_contents 701 tape_contents, aI Y q_plan_names 12 plan_names, aI Y q_tape_starts 701 tape_starts, aI Y q_plan_degrees 12 plan_degrees, aI Y q_plan_colours 12 plan_colours, aI Y q_plan_kinds 12 plan_kinds, aI Y q_plan_firsts 12 plan_firsts, aI Y q_plan_seconds 12 plan_seconds, aI Y q_plan_needs 12 plan_needs]) [6, 10, 7, 8, 9, 11, 12, 0, 1, 2, 3, 4, 5] rfl rfl ?_
      refine g_istore (lv' := [(4, .int rF_3), (3, .int rF_2), (2, .int rF_1), (0, .ref h0), (1, .int a1)]) C dX5_readPair_28 (by decide) rfl ?_
      refine g_iload C dX5_readPair_30 0 rfl ?_
      refine g_iconst (v := (-1)) C dX5_readPair_32 rfl ?_
      refine g_icmp_ne (tgt := 38) C dX5_readPair_33 (by decide) (fun c_3 => ?_) (fun c_3 => ?_)
      · replace h := h.1 c_3
        refine g_iload_n C dX5_readPair_38 4 rfl ?_
        refine g_bipush (v := 15) C dX5_readPair_39 rfl ?_
        refine g_icmp_ne (tgt := 55) C dX5_readPair_41 (by decide) (fun c_4 => ?_) (fun c_4 => ?_)
        · replace h := h.1 c_4
          refine g_aload_n C dX5_readPair_55 3 rfl ?_
          refine g_iload_n C dX5_readPair_56 2 rfl ?_
          refine g_iload_n C dX5_readPair_57 1 rfl ?_
          refine g_iload C dX5_readPair_58 0 rfl ?_
          obtain ⟨P_4, hP, h⟩ := h
          refine g_callV (As := [.int rF_1, .int rF_2, .int rF_3]) (rest := []) C (mX5_addPoint l D Y h0 q_tape lines faulty_3 place_3 q_plan token_3 toldOnce plan_bound plan_modulus plan_seed plan_functions q_plan_names q_plan_kinds q_plan_firsts q_plan_seconds q_plan_degrees q_plan_colours q_plan_needs v_plan_numbers plan_degrees plan_colours tape_fed v_tape_bytes (.ref q_tape_sorts) q_tape_starts (.ref q_tape_contents) tape_length tape_tokens tape_at tape_starts plan_names plan_kinds plan_firsts plan_seconds plan_needs rF_1 rF_2 rF_3 P_4 hP) dX5_readPair_60 rfl wM_X5_144 wI_X5_addPoint wV_X5_addPoint wN_X5 wC_X5_addPoint (n := 3) (by decide +kernel) rfl (q0 := 0) rfl rfl ⟨Nat.le_of_ble_eq_true rfl, Nat.le_of_ble_eq_true rfl⟩ ⟨Nat.le_of_ble_eq_true rfl, Nat.le_of_ble_eq_true rfl⟩ (Nat.le_of_ble_eq_true rfl) [0, 1, 7, 8, 2, 6, 5, 9, 10, 11, 12] [3, 4] rfl rfl rfl (fun v wc hv => ?_)
          obtain ⟨rF_4, faulty_4, place_4, plan_functions_1, plan_degrees_1, plan_colours_1, plan_names_1, plan_kinds_1, plan_firsts_1, plan_seconds_1, plan_needs_1, rfl, rfl, hq⟩ := hv
          replace h := h rF_4 faulty_4 place_4 plan_functions_1 plan_degrees_1 plan_colours_1 plan_names_1 plan_kinds_1 plan_firsts_1 plan_seconds_1 plan_needs_1 hq
          refine gG.perm (ws' := [oX5 h0 (.ref q_tape) lines faulty_4 place_4 (.ref q_plan) token_3 toldOnce, oX3 q_plan plan_bound plan_modulus plan_seed plan_functions_1 (.ref q_plan_names) (.ref q_plan_kinds) (.ref q_plan_firsts) (.ref q_plan_seconds) (.ref q_plan_degrees) (.ref q_plan_colours) (.ref q_plan_needs) (v_plan_numbers), oX9 q_tape tape_fed (v_tape_bytes) (.ref q_tape_sorts) (.ref q_tape_starts) (.ref q_tape_contents) tape_length tape_tokens tape_at, aI Y q_tape_sorts 701 tape_sorts, aI Y q_tape_contents 701 tape_contents, aI Y q_plan_names 12 plan_names_1, aI Y q_tape_starts 701 tape_starts, aI Y q_plan_degrees 12 plan_degrees_1, aI Y q_plan_colours 12 plan_colours_1, aI Y q_plan_kinds 12 plan_kinds_1, aI Y q_plan_firsts 12 plan_firsts_1, aI Y q_plan_seconds 12 plan_seconds_1, aI Y q_plan_needs 12 plan_needs_1]) [2, 3, 6, 0, 1, 8, 7, 4, 5, 9, 10, 11, 12] rfl rfl ?_
          obtain ⟨hz, h⟩ := h
          exact g_zret C hR hz (Nat.le_of_ble_eq_true rfl) (Nat.le_of_ble_eq_true rfl) dX5_readPair_63 ⟨rF_4, faulty_4, place_4, token_3, plan_functions_1, plan_names_1, plan_degrees_1, plan_colours_1, plan_kinds_1, plan_firsts_1, plan_seconds_1, plan_needs_1, rfl, rfl, h⟩
        · replace h := h.2 c_4
          refine g_aload_n C dX5_readPair_44 3 rfl ?_
          refine g_iload_n C dX5_readPair_45 2 rfl ?_
          refine g_iload_n C dX5_readPair_46 1 rfl ?_
          refine g_iload C dX5_readPair_47 0 rfl ?_
          obtain ⟨P_5, hP, h⟩ := h
          refine g_callV (As := [.int rF_1, .int rF_2, .int rF_3]) (rest := []) C (mX5_addTimes l D Y h0 (.ref q_tape) lines faulty_3 place_3 q_plan token_3 toldOnce plan_bound plan_modulus plan_seed plan_functions q_plan_names q_plan_kinds q_plan_firsts q_plan_seconds q_plan_degrees q_plan_colours q_plan_needs v_plan_numbers plan_names plan_kinds plan_firsts plan_seconds plan_degrees plan_colours plan_needs rF_1 rF_2 rF_3 P_5 hP) dX5_readPair_49 rfl wM_X5_140 wI_X5_addTimes wV_X5_addTimes wN_X5 wC_X5_addTimes (n := 3) (by decide +kernel) rfl (q0 := 0) rfl rfl ⟨Nat.le_of_ble_eq_true rfl, Nat.le_of_ble_eq_true rfl⟩ ⟨Nat.le_of_ble_eq_true rfl, Nat.le_of_ble_eq_true rfl⟩ (Nat.le_of_ble_eq_true rfl) [0, 1, 5, 9, 10, 11, 7, 8, 12] [2, 3, 4, 6] rfl rfl rfl (fun v wc hv => ?_)
          obtain ⟨rF_5, plan_functions_2, plan_names_2, plan_kinds_2, plan_firsts_2, plan_seconds_2, plan_degrees_2, plan_colours_2, plan_needs_2, rfl, rfl, hq⟩ := hv
          replace h := h rF_5 plan_functions_2 plan_names_2 plan_kinds_2 plan_firsts_2 plan_seconds_2 plan_degrees_2 plan_colours_2 plan_needs_2 hq
          refine gG.perm (ws' := [oX5 h0 (.ref q_tape) lines faulty_3 place_3 (.ref q_plan) token_3 toldOnce, oX3 q_plan plan_bound plan_modulus plan_seed plan_functions_2 (.ref q_plan_names) (.ref q_plan_kinds) (.ref q_plan_firsts) (.ref q_plan_seconds) (.ref q_plan_degrees) (.ref q_plan_colours) (.ref q_plan_needs) (v_plan_numbers), oX9 q_tape tape_fed (v_tape_bytes) (.ref q_tape_sorts) (.ref q_tape_starts) (.ref q_tape_contents) tape_length tape_tokens tape_at, aI Y q_tape_sorts 701 tape_sorts, aI Y q_tape_contents 701 tape_contents, aI Y q_plan_names 12 plan_names_2, aI Y q_tape_starts 701 tape_starts, aI Y q_plan_degrees 12 plan_degrees_2, aI Y q_plan_colours 12 plan_colours_2, aI Y q_plan_kinds 12 plan_kinds_2, aI Y q_plan_firsts 12 plan_firsts_2, aI Y q_plan_seconds 12 plan_seconds_2, aI Y q_plan_needs 12 plan_needs_2]) [4, 5, 0, 1, 2, 6, 3, 10, 11, 7, 8, 9, 12] rfl rfl ?_
          refine g_goto (tgt := 63) C dX5_readPair_52 (by decide) ?_
          obtain ⟨hz, h⟩ := h
          exact g_zret C hR hz (Nat.le_of_ble_eq_true rfl) (Nat.le_of_ble_eq_true rfl) dX5_readPair_63 ⟨rF_5, faulty_3, place_3, token_3, plan_functions_2, plan_names_2, plan_degrees_2, plan_colours_2, plan_kinds_2, plan_firsts_2, plan_seconds_2, plan_needs_2, rfl, rfl, h⟩
      · replace h := h.2 c_3
        refine g_iconst (v := 0) C dX5_readPair_36 rfl ?_
        exact g_zret C hR (by decide) (Nat.le_of_ble_eq_true rfl) (Nat.le_of_ble_eq_true rfl) dX5_readPair_37 ⟨0, faulty_3, place_3, token_3, plan_functions, plan_names, plan_degrees, plan_colours, plan_kinds, plan_firsts, plan_seconds, plan_needs, rfl, rfl, h⟩
    · replace h := h.2 c_2
      refine g_iconst (v := 0) C dX5_readPair_22 rfl ?_
      exact g_zret C hR (by decide) (Nat.le_of_ble_eq_true rfl) (Nat.le_of_ble_eq_true rfl) dX5_readPair_23 ⟨0, faulty_2, place_2, token_2, plan_functions, plan_names, plan_degrees, plan_colours, plan_kinds, plan_firsts, plan_seconds, plan_needs, rfl, rfl, h⟩
  · replace h := h.2 c_1
    refine g_iconst (v := 0) C dX5_readPair_10 rfl ?_
    exact g_zret C hR (by decide) (Nat.le_of_ble_eq_true rfl) (Nat.le_of_ble_eq_true rfl) dX5_readPair_11 ⟨0, faulty_1, place_1, token_1, plan_functions, plan_names, plan_degrees, plan_colours, plan_kinds, plan_firsts, plan_seconds, plan_needs, rfl, rfl, h⟩
theorem dX5_readOver_0 : decode cX5_readOver 0 = .ok (.aload_n 0, 1) := by decide +kernel
theorem dX5_readOver_1 : decode cX5_readOver 1 = .ok (.invokevirtual 130, 3) := by decide +kernel
theorem dX5_readOver_4 : decode cX5_readOver 4 = .ok (.istore_n 1, 1) := by decide +kernel
theorem dX5_readOver_5 : decode cX5_readOver 5 = .ok (.iload_n 1, 1) := by decide +kernel
theorem dX5_readOver_6 : decode cX5_readOver 6 = .ok (.iconst (-1), 1) := by decide +kernel
theorem dX5_readOver_7 : decode cX5_readOver 7 = .ok (.if_icmp .ne 5, 3) := by decide +kernel
theorem dX5_readOver_10 : decode cX5_readOver 10 = .ok (.iconst 0, 1) := by decide +kernel
theorem dX5_readOver_11 : decode cX5_readOver 11 = .ok (.ireturn, 1) := by decide +kernel
theorem dX5_readOver_12 : decode cX5_readOver 12 = .ok (.aload_n 0, 1) := by decide +kernel
theorem dX5_readOver_13 : decode cX5_readOver 13 = .ok (.invokevirtual 112, 3) := by decide +kernel
theorem dX5_readOver_16 : decode cX5_readOver 16 = .ok (.istore_n 2, 1) := by decide +kernel
theorem dX5_readOver_17 : decode cX5_readOver 17 = .ok (.iload_n 2, 1) := by decide +kernel
theorem dX5_readOver_18 : decode cX5_readOver 18 = .ok (.iconst (-1), 1) := by decide +kernel
theorem dX5_readOver_19 : decode cX5_readOver 19 = .ok (.if_icmp .ne 5, 3) := by decide +kernel
theorem dX5_readOver_22 : decode cX5_readOver 22 = .ok (.iconst 0, 1) := by decide +kernel
theorem dX5_readOver_23 : decode cX5_readOver 23 = .ok (.ireturn, 1) := by decide +kernel
theorem dX5_readOver_24 : decode cX5_readOver 24 = .ok (.aload_n 0, 1) := by decide +kernel
theorem dX5_readOver_25 : decode cX5_readOver 25 = .ok (.getfield 25, 3) := by decide +kernel
theorem dX5_readOver_28 : decode cX5_readOver 28 = .ok (.iload_n 1, 1) := by decide +kernel
theorem dX5_readOver_29 : decode cX5_readOver 29 = .ok (.iconst 3, 1) := by decide +kernel
theorem dX5_readOver_30 : decode cX5_readOver 30 = .ok (.iload_n 2, 1) := by decide +kernel
theorem dX5_readOver_31 : decode cX5_readOver 31 = .ok (.bipush (-2), 2) := by decide +kernel
theorem dX5_readOver_33 : decode cX5_readOver 33 = .ok (.invokevirtual 133, 3) := by decide +kernel
theorem dX5_readOver_36 : decode cX5_readOver 36 = .ok (.istore_n 3, 1) := by decide +kernel
theorem dX5_readOver_37 : decode cX5_readOver 37 = .ok (.aload_n 0, 1) := by decide +kernel
theorem dX5_readOver_38 : decode cX5_readOver 38 = .ok (.getfield 25, 3) := by decide +kernel
theorem dX5_readOver_41 : decode cX5_readOver 41 = .ok (.getfield 137, 3) := by decide +kernel
theorem dX5_readOver_44 : decode cX5_readOver 44 = .ok (.iload_n 3, 1) := by decide +kernel
theorem dX5_readOver_45 : decode cX5_readOver 45 = .ok (.aload_n 0, 1) := by decide +kernel
theorem dX5_readOver_46 : decode cX5_readOver 46 = .ok (.getfield 25, 3) := by decide +kernel
theorem dX5_readOver_49 : decode cX5_readOver 49 = .ok (.getfield 137, 3) := by decide +kernel
theorem dX5_readOver_52 : decode cX5_readOver 52 = .ok (.iload_n 2, 1) := by decide +kernel
theorem dX5_readOver_53 : decode cX5_readOver 53 = .ok (.iaload, 1) := by decide +kernel
theorem dX5_readOver_54 : decode cX5_readOver 54 = .ok (.iastore, 1) := by decide +kernel
theorem dX5_readOver_55 : decode cX5_readOver 55 = .ok (.aload_n 0, 1) := by decide +kernel
theorem dX5_readOver_56 : decode cX5_readOver 56 = .ok (.getfield 25, 3) := by decide +kernel
theorem dX5_readOver_59 : decode cX5_readOver 59 = .ok (.getfield 152, 3) := by decide +kernel
theorem dX5_readOver_62 : decode cX5_readOver 62 = .ok (.iload_n 3, 1) := by decide +kernel
theorem dX5_readOver_63 : decode cX5_readOver 63 = .ok (.aload_n 0, 1) := by decide +kernel
theorem dX5_readOver_64 : decode cX5_readOver 64 = .ok (.getfield 25, 3) := by decide +kernel
theorem dX5_readOver_67 : decode cX5_readOver 67 = .ok (.getfield 152, 3) := by decide +kernel
theorem dX5_readOver_70 : decode cX5_readOver 70 = .ok (.iload_n 2, 1) := by decide +kernel
theorem dX5_readOver_71 : decode cX5_readOver 71 = .ok (.iaload, 1) := by decide +kernel
theorem dX5_readOver_72 : decode cX5_readOver 72 = .ok (.iastore, 1) := by decide +kernel
theorem dX5_readOver_73 : decode cX5_readOver 73 = .ok (.iconst 1, 1) := by decide +kernel
theorem dX5_readOver_74 : decode cX5_readOver 74 = .ok (.ireturn, 1) := by decide +kernel
/-- QuotientSums$Reader.readOver()Z -/
def wX5_readOver (lines : Int32) (faulty : Int32) (place : Int32) (token : Int32) (toldOnce : Int32) (plan_bound : Int32) (plan_modulus : Int32) (plan_seed : Int32) (plan_functions : Int32) (tape_fed : Int32) (tape_length : Int32) (tape_tokens : Int32) (tape_at : Int32) (tape_sorts : Nat → Int32) (tape_contents : Nat → Int32) (plan_names : Nat → Int32) (tape_starts : Nat → Int32) (plan_kinds : Nat → Int32) (plan_firsts : Nat → Int32) (plan_seconds : Nat → Int32) (plan_degrees : Nat → Int32) (plan_colours : Nat → Int32) (plan_needs : Nat → Int32)  (Q : (Int32) → (Int32) → (Int32) → (Int32) → (Int32) → (Nat → Int32) → (Nat → Int32) → (Nat → Int32) → (Nat → Int32) → (Nat → Int32) → (Nat → Int32) → (Nat → Int32) → Prop) : Prop :=
  (∃ (P_1 : (Int32) → (Int32) → (Int32) → (Int32) → Prop), wX5_takeNewName lines faulty place token toldOnce plan_bound plan_modulus plan_seed plan_functions tape_fed tape_length tape_tokens tape_at tape_sorts tape_contents plan_names tape_starts P_1 ∧ ∀ (rF_1 : Int32) (faulty_1 : Int32) (place_1 : Int32) (token_1 : Int32), P_1 rF_1 faulty_1 place_1 token_1 → ((¬ rF_1 = (-1) → (∃ (P_2 : (Int32) → (Int32) → (Int32) → (Int32) → Prop), wX5_takeFunction lines faulty_1 place_1 token_1 toldOnce tape_fed tape_length tape_tokens tape_at tape_sorts tape_contents plan_bound plan_modulus plan_seed plan_functions plan_names tape_starts P_2 ∧ ∀ (rF_2 : Int32) (faulty_2 : Int32) (place_2 : Int32) (token_2 : Int32), P_2 rF_2 faulty_2 place_2 token_2 → ((¬ rF_2 = (-1) → (∃ (P_3 : (Int32) → (Int32) → (Nat → Int32) → (Nat → Int32) → (Nat → Int32) → (Nat → Int32) → (Nat → Int32) → (Nat → Int32) → (Nat → Int32) → Prop), wX3_add plan_bound plan_modulus plan_seed plan_functions plan_names plan_kinds plan_firsts plan_seconds plan_degrees plan_colours plan_needs rF_1 3 rF_2 (-2) P_3 ∧ ∀ (rF_3 : Int32) (functions_1 : Int32) (names_1 : Nat → Int32) (kinds_1 : Nat → Int32) (firsts_1 : Nat → Int32) (seconds_1 : Nat → Int32) (degrees_1 : Nat → Int32) (colours_1 : Nat → Int32) (needs_1 : Nat → Int32), P_3 rF_3 functions_1 names_1 kinds_1 firsts_1 seconds_1 degrees_1 colours_1 needs_1 → vp_in rF_2 12 ∧ ∀ e_1 : Int32, e_1 = degrees_1 rF_2.toNatClampNeg → vp_in rF_3 12 ∧ ∀ degrees_2 : Nat → Int32, degrees_2 = upd degrees_1 rF_3.toNatClampNeg e_1 → ∀ e_2 : Int32, e_2 = colours_1 rF_2.toNatClampNeg → ∀ colours_2 : Nat → Int32, colours_2 = upd colours_1 rF_3.toNatClampNeg e_2 → (Q 1 faulty_2 place_2 token_2 functions_1 names_1 kinds_1 firsts_1 seconds_1 degrees_2 colours_2 needs_1))) ∧ (rF_2 = (-1) → (Q 0 faulty_2 place_2 token_2 plan_functions plan_names plan_kinds plan_firsts plan_seconds plan_degrees plan_colours plan_needs))))) ∧ (rF_1 = (-1) → (Q 0 faulty_1 place_1 token_1 plan_functions plan_names plan_kinds plan_firsts plan_seconds plan_degrees plan_colours plan_needs))))
set_option maxHeartbeats 4000000 in
set_option maxRecDepth 100000 in
theorem mX5_readOver (l : Launch) (D : va_G) (Y : Nat → ClassId) (h0 : Nat) (q_tape : Nat) (lines : Int32) (faulty : Int32) (place : Int32) (q_plan : Nat) (token : Int32) (toldOnce : Int32) (plan_bound : Int32) (plan_modulus : Int32) (plan_seed : Int32) (plan_functions : Int32) (q_plan_names : Nat) (q_plan_kinds : Nat) (q_plan_firsts : Nat) (q_plan_seconds : Nat) (q_plan_degrees : Nat) (q_plan_colours : Nat) (q_plan_needs : Nat) (v_plan_numbers : Value) (tape_fed : Int32) (v_tape_bytes : Value) (q_tape_sorts : Nat) (q_tape_starts : Nat) (q_tape_contents : Nat) (tape_length : Int32) (tape_tokens : Int32) (tape_at : Int32) (tape_sorts : Nat → Int32) (tape_contents : Nat → Int32) (plan_names : Nat → Int32) (tape_starts : Nat → Int32) (plan_kinds : Nat → Int32) (plan_firsts : Nat → Int32) (plan_seconds : Nat → Int32) (plan_degrees : Nat → Int32) (plan_colours : Nat → Int32) (plan_needs : Nat → Int32)  (Q : (Int32) → (Int32) → (Int32) → (Int32) → (Int32) → (Nat → Int32) → (Nat → Int32) → (Nat → Int32) → (Nat → Int32) → (Nat → Int32) → (Nat → Int32) → (Nat → Int32) → Prop) (h : wX5_readOver lines faulty place token toldOnce plan_bound plan_modulus plan_seed plan_functions tape_fed tape_length tape_tokens tape_at tape_sorts tape_contents plan_names tape_starts plan_kinds plan_firsts plan_seconds plan_degrees plan_colours plan_needs Q) : gM l D Y yX5_readOver cX5_readOver 4 (some .boolean) 3 63 0 0 [.ref h0] [oX5 h0 (.ref q_tape) lines faulty place (.ref q_plan) token toldOnce, oX3 q_plan plan_bound plan_modulus plan_seed plan_functions (.ref q_plan_names) (.ref q_plan_kinds) (.ref q_plan_firsts) (.ref q_plan_seconds) (.ref q_plan_degrees) (.ref q_plan_colours) (.ref q_plan_needs) (v_plan_numbers), oX9 q_tape tape_fed (v_tape_bytes) (.ref q_tape_sorts) (.ref q_tape_starts) (.ref q_tape_contents) tape_length tape_tokens tape_at, aI Y q_tape_sorts 701 tape_sorts, aI Y q_tape_contents 701 tape_contents, aI Y q_plan_names 12 plan_names, aI Y q_tape_starts 701 tape_starts, aI Y q_plan_kinds 12 plan_kinds, aI Y q_plan_firsts 12 plan_firsts, aI Y q_plan_seconds 12 plan_seconds, aI Y q_plan_degrees 12 plan_degrees, aI Y q_plan_colours 12 plan_colours, aI Y q_plan_needs 12 plan_needs] (fun v w => ∃ r : Int32, ∃ faulty' : Int32, ∃ place' : Int32, ∃ token' : Int32, ∃ plan_functions' : Int32, ∃ plan_names' : Nat → Int32, ∃ plan_kinds' : Nat → Int32, ∃ plan_firsts' : Nat → Int32, ∃ plan_seconds' : Nat → Int32, ∃ plan_degrees' : Nat → Int32, ∃ plan_colours' : Nat → Int32, ∃ plan_needs' : Nat → Int32, v = some (.int r) ∧ w = [oX5 h0 (.ref q_tape) lines faulty' place' (.ref q_plan) token' toldOnce, oX3 q_plan plan_bound plan_modulus plan_seed plan_functions' (.ref q_plan_names) (.ref q_plan_kinds) (.ref q_plan_firsts) (.ref q_plan_seconds) (.ref q_plan_degrees) (.ref q_plan_colours) (.ref q_plan_needs) (v_plan_numbers), oX9 q_tape tape_fed (v_tape_bytes) (.ref q_tape_sorts) (.ref q_tape_starts) (.ref q_tape_contents) tape_length tape_tokens tape_at, aI Y q_tape_sorts 701 tape_sorts, aI Y q_tape_contents 701 tape_contents, aI Y q_plan_names 12 plan_names', aI Y q_tape_starts 701 tape_starts, aI Y q_plan_kinds 12 plan_kinds', aI Y q_plan_firsts 12 plan_firsts', aI Y q_plan_seconds 12 plan_seconds', aI Y q_plan_degrees 12 plan_degrees', aI Y q_plan_colours 12 plan_colours', aI Y q_plan_needs 12 plan_needs'] ∧ Q r faulty' place' token' plan_functions' plan_names' plan_kinds' plan_firsts' plan_seconds' plan_degrees' plan_colours' plan_needs') := by
  refine gM_of (own := RX5) (by decide +kernel) rfl (Nat.le_of_ble_eq_true rfl) rfl (fun E C hR => ?_)
  unfold wX5_readOver at h
  refine g_aload_n C dX5_readOver_0 0 rfl ?_
  obtain ⟨P_1, hP, h⟩ := h
  refine g_callV (As := []) (rest := []) C (mX5_takeNewName l D Y h0 q_tape lines faulty place q_plan token toldOnce plan_bound plan_modulus plan_seed plan_functions q_plan_names (.ref q_plan_kinds) (.ref q_plan_firsts) (.ref q_plan_seconds) (.ref q_plan_degrees) (.ref q_plan_colours) (.ref q_plan_needs) v_plan_numbers tape_fed v_tape_bytes q_tape_sorts q_tape_starts q_tape_contents tape_length tape_tokens tape_at tape_sorts tape_contents plan_names tape_starts P_1 hP) dX5_readOver_1 rfl wM_X5_130 wI_X5_takeNewName wV_X5_takeNewName wN_X5 wC_X5_takeNewName (n := 0) (by decide +kernel) rfl (q0 := 0) rfl rfl ⟨Nat.le_of_ble_eq_true rfl, Nat.le_of_ble_eq_true rfl⟩ ⟨Nat.le_of_ble_eq_true rfl, Nat.le_of_ble_eq_true rfl⟩ (Nat.le_of_ble_eq_true rfl) [0, 1, 2, 3, 4, 5, 6] [7, 8, 9, 10, 11, 12] rfl rfl rfl (fun v wc hv => ?_)
  obtain ⟨rF_1, faulty_1, place_1, token_1, rfl, rfl, hq⟩ := hv
  replace h := h rF_1 faulty_1 place_1 token_1 hq
  refine gG.perm (ws' := [oX5 h0 (.ref q_tape) lines faulty_1 place_1 (.ref q_plan) token_1 toldOnce, oX3 q_plan plan_bound plan_modulus plan_seed plan_functions (.ref q_plan_names) (.ref q_plan_kinds) (.ref q_plan_firsts) (.ref q_plan_seconds) (.ref q_plan_degrees) (.ref q_plan_colours) (.ref q_plan_needs) (v_plan_numbers), oX9 q_tape tape_fed (v_tape_bytes) (.ref q_tape_sorts) (.ref q_tape_starts) (.ref q_tape_contents) tape_length tape_tokens tape_at, aI Y q_tape_sorts 701 tape_sorts, aI Y q_tape_contents 701 tape_contents, aI Y q_plan_names 12 plan_names, aI Y q_tape_starts 701 tape_starts, aI Y q_plan_kinds 12 plan_kinds, aI Y q_plan_firsts 12 plan_firsts, aI Y q_plan_seconds 12 plan_seconds, aI Y q_plan_degrees 12 plan_degrees, aI Y q_plan_colours 12 plan_colours, aI Y q_plan_needs 12 plan_needs]) [6, 7, 8, 9, 10, 11, 12, 0, 1, 2, 3, 4, 5] rfl rfl ?_
  refine g_istore_n (lv' := [(1, .int rF_1), (0, .ref h0)]) C dX5_readOver_4 (by decide) rfl ?_
  refine g_iload_n C dX5_readOver_5 0 rfl ?_
  refine g_iconst (v := (-1)) C dX5_readOver_6 rfl ?_
  refine g_icmp_ne (tgt := 12) C dX5_readOver_7 (by decide) (fun c_1 => ?_) (fun c_1 => ?_)
  · replace h := h.1 c_1
    refine g_aload_n C dX5_readOver_12 1 rfl ?_
    obtain ⟨P_2, hP, h⟩ := h
    refine g_callV (As := []) (rest := []) C (mX5_takeFunction l D Y h0 q_tape lines faulty_1 place_1 q_plan token_1 toldOnce tape_fed v_tape_bytes q_tape_sorts q_tape_starts q_tape_contents tape_length tape_tokens tape_at tape_sorts tape_contents plan_bound plan_modulus plan_seed plan_functions q_plan_names (.ref q_plan_kinds) (.ref q_plan_firsts) (.ref q_plan_seconds) (.ref q_plan_degrees) (.ref q_plan_colours) (.ref q_plan_needs) v_plan_numbers plan_names tape_starts P_2 hP) dX5_readOver_13 rfl wM_X5_112 wI_X5_takeFunction wV_X5_takeFunction wN_X5 wC_X5_takeFunction (n := 0) (by decide +kernel) rfl (q0 := 0) rfl rfl ⟨Nat.le_of_ble_eq_true rfl, Nat.le_of_ble_eq_true rfl⟩ ⟨Nat.le_of_ble_eq_true rfl, Nat.le_of_ble_eq_true rfl⟩ (Nat.le_of_ble_eq_true rfl) [0, 2, 3, 4, 1, 5, 6] [7, 8, 9, 10, 11, 12] rfl rfl rfl (fun v wc hv => ?_)
    obtain ⟨rF_2, faulty_2, place_2, token_2, rfl, rfl, hq⟩ := hv
    replace h := h rF_2 faulty_2 place_2 token_2 hq
    refine gG.perm (ws' := [oX5 h0 (.ref q_tape) lines faulty_2 place_2 (.ref q_plan) token_2 toldOnce, oX3 q_plan plan_bound plan_modulus plan_seed plan_functions (.ref q_plan_names) (.ref q_plan_kinds) (.ref q_plan_firsts) (.ref q_plan_seconds) (.ref q_plan_degrees) (.ref q_plan_colours) (.ref q_plan_needs) (v_plan_numbers), oX9 q_tape tape_fed (v_tape_bytes) (.ref q_tape_sorts) (.ref q_tape_starts) (.ref q_tape_contents) tape_length tape_tokens tape_at, aI Y q_tape_sorts 701 tape_sorts, aI Y q_tape_contents 701 tape_contents, aI Y q_plan_names 12 plan_names, aI Y q_tape_starts 701 tape_starts, aI Y q_plan_kinds 12 plan_kinds, aI Y q_plan_firsts 12 plan_firsts, aI Y q_plan_seconds 12 plan_seconds, aI Y q_plan_degrees 12 plan_degrees, aI Y q_plan_colours 12 plan_colours, aI Y q_plan_needs 12 plan_needs]) [6, 10, 7, 8, 9, 11, 12, 0, 1, 2, 3, 4, 5] rfl rfl ?_
    refine g_istore_n (lv' := [(2, .int rF_2), (1, .int rF_1), (0, .ref h0)]) C dX5_readOver_16 (by decide) rfl ?_
    refine g_iload_n C dX5_readOver_17 0 rfl ?_
    refine g_iconst (v := (-1)) C dX5_readOver_18 rfl ?_
    refine g_icmp_ne (tgt := 24) C dX5_readOver_19 (by decide) (fun c_2 => ?_) (fun c_2 => ?_)
    · replace h := h.1 c_2
      refine g_aload_n C dX5_readOver_24 2 rfl ?_
      refine g_get C inX5 0 rfl rfl 4 (by decide) wF_X5_25 rfl dX5_readOver_25 ?_
      refine g_iload_n C dX5_readOver_28 1 rfl ?_
      refine g_iconst (v := 3) C dX5_readOver_29 rfl ?_
      refine g_iload_n C dX5_readOver_30 0 rfl ?_
      refine g_bipush (v := (-2)) C dX5_readOver_31 rfl ?_
      obtain ⟨P_3, hP, h⟩ := h
      refine g_callV (As := [.int rF_1, .int 3, .int rF_2, .int (-2)]) (rest := []) C (mX3_add l D Y q_plan plan_bound plan_modulus plan_seed plan_functions q_plan_names q_plan_kinds q_plan_firsts q_plan_seconds q_plan_degrees q_plan_colours q_plan_needs v_plan_numbers plan_names plan_kinds plan_firsts plan_seconds plan_degrees plan_colours plan_needs rF_1 3 rF_2 (-2) P_3 hP) dX5_readOver_33 rfl wM_X5_133 wI_X3_add wV_X3_add wN_X3 wC_X3_add (n := 4) (by decide +kernel) rfl (q0 := 0) rfl rfl ⟨Nat.le_of_ble_eq_true rfl, Nat.le_of_ble_eq_true rfl⟩ ⟨Nat.le_of_ble_eq_true rfl, Nat.le_of_ble_eq_true rfl⟩ (Nat.le_of_ble_eq_true rfl) [1, 5, 7, 8, 9, 10, 11, 12] [0, 2, 3, 4, 6] rfl rfl rfl (fun v wc hv => ?_)
      obtain ⟨rF_3, functions_1, names_1, kinds_1, firsts_1, seconds_1, degrees_1, colours_1, needs_1, rfl, rfl, hq⟩ := hv
      replace h := h rF_3 functions_1 names_1 kinds_1 firsts_1 seconds_1 degrees_1 colours_1 needs_1 hq
      refine gG.perm (ws' := [oX5 h0 (.ref q_tape) lines faulty_2 place_2 (.ref q_plan) token_2 toldOnce, oX3 q_plan plan_bound plan_modulus plan_seed functions_1 (.ref q_plan_names) (.ref q_plan_kinds) (.ref q_plan_firsts) (.ref q_plan_seconds) (.ref q_plan_degrees) (.ref q_plan_colours) (.ref q_plan_needs) (v_plan_numbers), oX9 q_tape tape_fed (v_tape_bytes) (.ref q_tape_sorts) (.ref q_tape_starts) (.ref q_tape_contents) tape_length tape_tokens tape_at, aI Y q_tape_sorts 701 tape_sorts, aI Y q_tape_contents 701 tape_contents, aI Y q_plan_names 12 names_1, aI Y q_tape_starts 701 tape_starts, aI Y q_plan_kinds 12 kinds_1, aI Y q_plan_firsts 12 firsts_1, aI Y q_plan_seconds 12 seconds_1, aI Y q_plan_degrees 12 degrees_1, aI Y q_plan_colours 12 colours_1, aI Y q_plan_needs 12 needs_1]) [0, 5, 1, 2, 3, 6, 4, 7, 8, 9, 10, 11, 12] rfl rfl ?_
      refine g_istore_n (lv' := [(3, .int rF_3), (2, .int rF_2), (1, .int rF_1), (0, .ref h0)]) C dX5_readOver_36 (by decide) rfl ?_
      refine g_aload_n C dX5_readOver_37 3 rfl ?_
      refine g_get C inX5 0 rfl rfl 4 (by decide) wF_X5_25 rfl dX5_readOver_38 ?_
      refine g_get C inX3 1 rfl rfl 8 (by decide) wF_X5_137 rfl dX5_readOver_41 ?_
      refine g_iload_n C dX5_readOver_44 0 rfl ?_
      refine g_aload_n C dX5_readOver_45 3 rfl ?_
      refine g_get C inX5 0 rfl rfl 4 (by decide) wF_X5_25 rfl dX5_readOver_46 ?_
      refine g_get C inX3 1 rfl rfl 8 (by decide) wF_X5_137 rfl dX5_readOver_49 ?_
      refine g_iload_n C dX5_readOver_52 1 rfl ?_
      obtain ⟨hc_1, h⟩ := h
      refine g_iald C 10 rfl hc_1 dX5_readOver_53 ?_
      refine g_topi (fun e_1 ee_1 => ?_)
      replace h := h e_1 ee_1
      obtain ⟨hc_2, h⟩ := h
      refine g_iast C 10 rfl hc_2 dX5_readOver_54 (fun degrees_2 edegrees_2 => gG.eqw (ws' := [oX5 h0 (.ref q_tape) lines faulty_2 place_2 (.ref q_plan) token_2 toldOnce, oX3 q_plan plan_bound plan_modulus plan_seed functions_1 (.ref q_plan_names) (.ref q_plan_kinds) (.ref q_plan_firsts) (.ref q_plan_seconds) (.ref q_plan_degrees) (.ref q_plan_colours) (.ref q_plan_needs) (v_plan_numbers), oX9 q_tape tape_fed (v_tape_bytes) (.ref q_tape_sorts) (.ref q_tape_starts) (.ref q_tape_contents) tape_length tape_tokens tape_at, aI Y q_tape_sorts 701 tape_sorts, aI Y q_tape_contents 701 tape_contents, aI Y q_plan_names 12 names_1, aI Y q_tape_starts 701 tape_starts, aI Y q_plan_kinds 12 kinds_1, aI Y q_plan_firsts 12 firsts_1, aI Y q_plan_seconds 12 seconds_1, aI Y q_plan_degrees 12 degrees_2, aI Y q_plan_colours 12 colours_1, aI Y q_plan_needs 12 needs_1]) rfl ?_)
      replace h := h degrees_2 edegrees_2
      refine g_aload_n C dX5_readOver_55 3 rfl ?_
      refine g_get C inX5 0 rfl rfl 4 (by decide) wF_X5_25 rfl dX5_readOver_56 ?_
      refine g_get C inX3 1 rfl rfl 9 (by decide) wF_X5_152 rfl dX5_readOver_59 ?_
      refine g_iload_n C dX5_readOver_62 0 rfl ?_
      refine g_aload_n C dX5_readOver_63 3 rfl ?_
      refine g_get C inX5 0 rfl rfl 4 (by decide) wF_X5_25 rfl dX5_readOver_64 ?_
      refine g_get C inX3 1 rfl rfl 9 (by decide) wF_X5_152 rfl dX5_readOver_67 ?_
      refine g_iload_n C dX5_readOver_70 1 rfl ?_
      refine g_iald C 11 rfl hc_1 dX5_readOver_71 ?_
      refine g_topi (fun e_2 ee_2 => ?_)
      replace h := h e_2 ee_2
      refine g_iast C 11 rfl hc_2 dX5_readOver_72 (fun colours_2 ecolours_2 => gG.eqw (ws' := [oX5 h0 (.ref q_tape) lines faulty_2 place_2 (.ref q_plan) token_2 toldOnce, oX3 q_plan plan_bound plan_modulus plan_seed functions_1 (.ref q_plan_names) (.ref q_plan_kinds) (.ref q_plan_firsts) (.ref q_plan_seconds) (.ref q_plan_degrees) (.ref q_plan_colours) (.ref q_plan_needs) (v_plan_numbers), oX9 q_tape tape_fed (v_tape_bytes) (.ref q_tape_sorts) (.ref q_tape_starts) (.ref q_tape_contents) tape_length tape_tokens tape_at, aI Y q_tape_sorts 701 tape_sorts, aI Y q_tape_contents 701 tape_contents, aI Y q_plan_names 12 names_1, aI Y q_tape_starts 701 tape_starts, aI Y q_plan_kinds 12 kinds_1, aI Y q_plan_firsts 12 firsts_1, aI Y q_plan_seconds 12 seconds_1, aI Y q_plan_degrees 12 degrees_2, aI Y q_plan_colours 12 colours_2, aI Y q_plan_needs 12 needs_1]) rfl ?_)
      replace h := h colours_2 ecolours_2
      refine g_iconst (v := 1) C dX5_readOver_73 rfl ?_
      exact g_zret C hR (by decide) (Nat.le_of_ble_eq_true rfl) (Nat.le_of_ble_eq_true rfl) dX5_readOver_74 ⟨1, faulty_2, place_2, token_2, functions_1, names_1, kinds_1, firsts_1, seconds_1, degrees_2, colours_2, needs_1, rfl, rfl, h⟩
    · replace h := h.2 c_2
      refine g_iconst (v := 0) C dX5_readOver_22 rfl ?_
      exact g_zret C hR (by decide) (Nat.le_of_ble_eq_true rfl) (Nat.le_of_ble_eq_true rfl) dX5_readOver_23 ⟨0, faulty_2, place_2, token_2, plan_functions, plan_names, plan_kinds, plan_firsts, plan_seconds, plan_degrees, plan_colours, plan_needs, rfl, rfl, h⟩
  · replace h := h.2 c_1
    refine g_iconst (v := 0) C dX5_readOver_10 rfl ?_
    exact g_zret C hR (by decide) (Nat.le_of_ble_eq_true rfl) (Nat.le_of_ble_eq_true rfl) dX5_readOver_11 ⟨0, faulty_1, place_1, token_1, plan_functions, plan_names, plan_kinds, plan_firsts, plan_seconds, plan_degrees, plan_colours, plan_needs, rfl, rfl, h⟩
theorem dX5_readTwist_0 : decode cX5_readTwist 0 = .ok (.aload_n 0, 1) := by decide +kernel
theorem dX5_readTwist_1 : decode cX5_readTwist 1 = .ok (.invokevirtual 130, 3) := by decide +kernel
theorem dX5_readTwist_4 : decode cX5_readTwist 4 = .ok (.istore_n 1, 1) := by decide +kernel
theorem dX5_readTwist_5 : decode cX5_readTwist 5 = .ok (.iload_n 1, 1) := by decide +kernel
theorem dX5_readTwist_6 : decode cX5_readTwist 6 = .ok (.iconst (-1), 1) := by decide +kernel
theorem dX5_readTwist_7 : decode cX5_readTwist 7 = .ok (.if_icmp .ne 5, 3) := by decide +kernel
theorem dX5_readTwist_10 : decode cX5_readTwist 10 = .ok (.iconst 0, 1) := by decide +kernel
theorem dX5_readTwist_11 : decode cX5_readTwist 11 = .ok (.ireturn, 1) := by decide +kernel
theorem dX5_readTwist_12 : decode cX5_readTwist 12 = .ok (.aload_n 0, 1) := by decide +kernel
theorem dX5_readTwist_13 : decode cX5_readTwist 13 = .ok (.invokevirtual 112, 3) := by decide +kernel
theorem dX5_readTwist_16 : decode cX5_readTwist 16 = .ok (.istore_n 2, 1) := by decide +kernel
theorem dX5_readTwist_17 : decode cX5_readTwist 17 = .ok (.iload_n 2, 1) := by decide +kernel
theorem dX5_readTwist_18 : decode cX5_readTwist 18 = .ok (.iconst (-1), 1) := by decide +kernel
theorem dX5_readTwist_19 : decode cX5_readTwist 19 = .ok (.if_icmp .ne 5, 3) := by decide +kernel
theorem dX5_readTwist_22 : decode cX5_readTwist 22 = .ok (.iconst 0, 1) := by decide +kernel
theorem dX5_readTwist_23 : decode cX5_readTwist 23 = .ok (.ireturn, 1) := by decide +kernel
theorem dX5_readTwist_24 : decode cX5_readTwist 24 = .ok (.aload_n 0, 1) := by decide +kernel
theorem dX5_readTwist_25 : decode cX5_readTwist 25 = .ok (.getfield 25, 3) := by decide +kernel
theorem dX5_readTwist_28 : decode cX5_readTwist 28 = .ok (.getfield 152, 3) := by decide +kernel
theorem dX5_readTwist_31 : decode cX5_readTwist 31 = .ok (.iload_n 2, 1) := by decide +kernel
theorem dX5_readTwist_32 : decode cX5_readTwist 32 = .ok (.iaload, 1) := by decide +kernel
theorem dX5_readTwist_33 : decode cX5_readTwist 33 = .ok (.ifCond .eq 9, 3) := by decide +kernel
theorem dX5_readTwist_36 : decode cX5_readTwist 36 = .ok (.aload_n 0, 1) := by decide +kernel
theorem dX5_readTwist_37 : decode cX5_readTwist 37 = .ok (.iconst 2, 1) := by decide +kernel
theorem dX5_readTwist_38 : decode cX5_readTwist 38 = .ok (.invokevirtual 62, 3) := by decide +kernel
theorem dX5_readTwist_41 : decode cX5_readTwist 41 = .ok (.ireturn, 1) := by decide +kernel
theorem dX5_readTwist_42 : decode cX5_readTwist 42 = .ok (.aload_n 0, 1) := by decide +kernel
theorem dX5_readTwist_43 : decode cX5_readTwist 43 = .ok (.iconst 3, 1) := by decide +kernel
theorem dX5_readTwist_44 : decode cX5_readTwist 44 = .ok (.iconst 4, 1) := by decide +kernel
theorem dX5_readTwist_45 : decode cX5_readTwist 45 = .ok (.invokevirtual 97, 3) := by decide +kernel
theorem dX5_readTwist_48 : decode cX5_readTwist 48 = .ok (.ifCond .ne 5, 3) := by decide +kernel
theorem dX5_readTwist_51 : decode cX5_readTwist 51 = .ok (.iconst 0, 1) := by decide +kernel
theorem dX5_readTwist_52 : decode cX5_readTwist 52 = .ok (.ireturn, 1) := by decide +kernel
theorem dX5_readTwist_53 : decode cX5_readTwist 53 = .ok (.aload_n 0, 1) := by decide +kernel
theorem dX5_readTwist_54 : decode cX5_readTwist 54 = .ok (.getfield 25, 3) := by decide +kernel
theorem dX5_readTwist_57 : decode cX5_readTwist 57 = .ok (.iload_n 1, 1) := by decide +kernel
theorem dX5_readTwist_58 : decode cX5_readTwist 58 = .ok (.iconst 5, 1) := by decide +kernel
theorem dX5_readTwist_59 : decode cX5_readTwist 59 = .ok (.iload_n 2, 1) := by decide +kernel
theorem dX5_readTwist_60 : decode cX5_readTwist 60 = .ok (.bipush (-2), 2) := by decide +kernel
theorem dX5_readTwist_62 : decode cX5_readTwist 62 = .ok (.invokevirtual 133, 3) := by decide +kernel
theorem dX5_readTwist_65 : decode cX5_readTwist 65 = .ok (.istore_n 3, 1) := by decide +kernel
theorem dX5_readTwist_66 : decode cX5_readTwist 66 = .ok (.aload_n 0, 1) := by decide +kernel
theorem dX5_readTwist_67 : decode cX5_readTwist 67 = .ok (.getfield 25, 3) := by decide +kernel
theorem dX5_readTwist_70 : decode cX5_readTwist 70 = .ok (.getfield 137, 3) := by decide +kernel
theorem dX5_readTwist_73 : decode cX5_readTwist 73 = .ok (.iload_n 3, 1) := by decide +kernel
theorem dX5_readTwist_74 : decode cX5_readTwist 74 = .ok (.aload_n 0, 1) := by decide +kernel
theorem dX5_readTwist_75 : decode cX5_readTwist 75 = .ok (.getfield 25, 3) := by decide +kernel
theorem dX5_readTwist_78 : decode cX5_readTwist 78 = .ok (.getfield 137, 3) := by decide +kernel
theorem dX5_readTwist_81 : decode cX5_readTwist 81 = .ok (.iload_n 2, 1) := by decide +kernel
theorem dX5_readTwist_82 : decode cX5_readTwist 82 = .ok (.iaload, 1) := by decide +kernel
theorem dX5_readTwist_83 : decode cX5_readTwist 83 = .ok (.iastore, 1) := by decide +kernel
theorem dX5_readTwist_84 : decode cX5_readTwist 84 = .ok (.aload_n 0, 1) := by decide +kernel
theorem dX5_readTwist_85 : decode cX5_readTwist 85 = .ok (.getfield 25, 3) := by decide +kernel
theorem dX5_readTwist_88 : decode cX5_readTwist 88 = .ok (.getfield 152, 3) := by decide +kernel
theorem dX5_readTwist_91 : decode cX5_readTwist 91 = .ok (.iload_n 3, 1) := by decide +kernel
theorem dX5_readTwist_92 : decode cX5_readTwist 92 = .ok (.aload_n 0, 1) := by decide +kernel
theorem dX5_readTwist_93 : decode cX5_readTwist 93 = .ok (.getfield 12, 3) := by decide +kernel
theorem dX5_readTwist_96 : decode cX5_readTwist 96 = .ok (.aload_n 0, 1) := by decide +kernel
theorem dX5_readTwist_97 : decode cX5_readTwist 97 = .ok (.getfield 36, 3) := by decide +kernel
theorem dX5_readTwist_100 : decode cX5_readTwist 100 = .ok (.invokevirtual 66, 3) := by decide +kernel
theorem dX5_readTwist_103 : decode cX5_readTwist 103 = .ok (.iconst 3, 1) := by decide +kernel
theorem dX5_readTwist_104 : decode cX5_readTwist 104 = .ok (.if_icmp .ne 7, 3) := by decide +kernel
theorem dX5_readTwist_107 : decode cX5_readTwist 107 = .ok (.iconst 1, 1) := by decide +kernel
theorem dX5_readTwist_108 : decode cX5_readTwist 108 = .ok (.goto 4, 3) := by decide +kernel
theorem dX5_readTwist_111 : decode cX5_readTwist 111 = .ok (.iconst 2, 1) := by decide +kernel
theorem dX5_readTwist_112 : decode cX5_readTwist 112 = .ok (.iastore, 1) := by decide +kernel
theorem dX5_readTwist_113 : decode cX5_readTwist 113 = .ok (.iconst 1, 1) := by decide +kernel
theorem dX5_readTwist_114 : decode cX5_readTwist 114 = .ok (.ireturn, 1) := by decide +kernel
/-- QuotientSums$Reader.readTwist()Z -/
def wX5_readTwist (lines : Int32) (faulty : Int32) (place : Int32) (token : Int32) (toldOnce : Int32) (plan_bound : Int32) (plan_modulus : Int32) (plan_seed : Int32) (plan_functions : Int32) (tape_fed : Int32) (tape_length : Int32) (tape_tokens : Int32) (tape_at : Int32) (tape_sorts : Nat → Int32) (tape_contents : Nat → Int32) (plan_names : Nat → Int32) (tape_starts : Nat → Int32) (plan_colours : Nat → Int32) (plan_kinds : Nat → Int32) (plan_firsts : Nat → Int32) (plan_seconds : Nat → Int32) (plan_degrees : Nat → Int32) (plan_needs : Nat → Int32)  (Q : (Int32) → (Int32) → (Int32) → (Int32) → (Int32) → (Nat → Int32) → (Nat → Int32) → (Nat → Int32) → (Nat → Int32) → (Nat → Int32) → (Nat → Int32) → (Nat → Int32) → Prop) : Prop :=
  (∃ (P_1 : (Int32) → (Int32) → (Int32) → (Int32) → Prop), wX5_takeNewName lines faulty place token toldOnce plan_bound plan_modulus plan_seed plan_functions tape_fed tape_length tape_tokens tape_at tape_sorts tape_contents plan_names tape_starts P_1 ∧ ∀ (rF_1 : Int32) (faulty_1 : Int32) (place_1 : Int32) (token_1 : Int32), P_1 rF_1 faulty_1 place_1 token_1 → ((¬ rF_1 = (-1) → (∃ (P_2 : (Int32) → (Int32) → (Int32) → (Int32) → Prop), wX5_takeFunction lines faulty_1 place_1 token_1 toldOnce tape_fed tape_length tape_tokens tape_at tape_sorts tape_contents plan_bound plan_modulus plan_seed plan_functions plan_names tape_starts P_2 ∧ ∀ (rF_2 : Int32) (faulty_2 : Int32) (place_2 : Int32) (token_2 : Int32), P_2 rF_2 faulty_2 place_2 token_2 → ((¬ rF_2 = (-1) → (vp_in rF_2 12 ∧ (((plan_colours rF_2.toNatClampNeg) = 0 → (∃ (P_3 : (Int32) → (Int32) → (Int32) → (Int32) → Prop), wX5_takeNumber lines faulty_2 place_2 token_2 toldOnce tape_fed tape_length tape_tokens tape_at tape_sorts tape_contents tape_starts 3 4 P_3 ∧ ∀ (rF_3 : Int32) (faulty_3 : Int32) (place_3 : Int32) (token_3 : Int32), P_3 rF_3 faulty_3 place_3 token_3 → ((¬ rF_3 = 0 → (∃ (P_4 : (Int32) → (Int32) → (Nat → Int32) → (Nat → Int32) → (Nat → Int32) → (Nat → Int32) → (Nat → Int32) → (Nat → Int32) → (Nat → Int32) → Prop), wX3_add plan_bound plan_modulus plan_seed plan_functions plan_names plan_kinds plan_firsts plan_seconds plan_degrees plan_colours plan_needs rF_1 5 rF_2 (-2) P_4 ∧ ∀ (rF_4 : Int32) (functions_1 : Int32) (names_1 : Nat → Int32) (kinds_1 : Nat → Int32) (firsts_1 : Nat → Int32) (seconds_1 : Nat → Int32) (degrees_1 : Nat → Int32) (colours_1 : Nat → Int32) (needs_1 : Nat → Int32), P_4 rF_4 functions_1 names_1 kinds_1 firsts_1 seconds_1 degrees_1 colours_1 needs_1 → vp_in rF_2 12 ∧ ∀ e_1 : Int32, e_1 = degrees_1 rF_2.toNatClampNeg → vp_in rF_4 12 ∧ ∀ degrees_2 : Nat → Int32, degrees_2 = upd degrees_1 rF_4.toNatClampNeg e_1 → ∃ (P_5 : (Int32) → Prop), wX9_contentOf tape_fed tape_length tape_tokens tape_at tape_contents token_3 P_5 ∧ ∀ (rF_5 : Int32), P_5 rF_5 → ((¬ rF_5 = 3 → (vp_in rF_4 12 ∧ ∀ colours_2 : Nat → Int32, colours_2 = upd colours_1 rF_4.toNatClampNeg 2 → (Q 1 faulty_3 place_3 token_3 functions_1 names_1 colours_2 kinds_1 firsts_1 seconds_1 degrees_2 needs_1))) ∧ (rF_5 = 3 → (vp_in rF_4 12 ∧ ∀ colours_3 : Nat → Int32, colours_3 = upd colours_1 rF_4.toNatClampNeg 1 → (Q 1 faulty_3 place_3 token_3 functions_1 names_1 colours_3 kinds_1 firsts_1 seconds_1 degrees_2 needs_1)))))) ∧ (rF_3 = 0 → (Q 0 faulty_3 place_3 token_3 plan_functions plan_names plan_colours plan_kinds plan_firsts plan_seconds plan_degrees plan_needs))))) ∧ (¬ (plan_colours rF_2.toNatClampNeg) = 0 → (∃ (P_6 : (Int32) → (Int32) → (Int32) → Prop), wX5_refuse lines faulty_2 place_2 token_2 toldOnce tape_fed tape_length tape_tokens tape_at tape_starts 2 P_6 ∧ ∀ (rF_6 : Int32) (faulty_4 : Int32) (place_4 : Int32), P_6 rF_6 faulty_4 place_4 → ((rF_6 = 0 ∨ rF_6 = 1) ∧ Q rF_6 faulty_4 place_4 token_2 plan_functions plan_names plan_colours plan_kinds plan_firsts plan_seconds plan_degrees plan_needs)))))) ∧ (rF_2 = (-1) → (Q 0 faulty_2 place_2 token_2 plan_functions plan_names plan_colours plan_kinds plan_firsts plan_seconds plan_degrees plan_needs))))) ∧ (rF_1 = (-1) → (Q 0 faulty_1 place_1 token_1 plan_functions plan_names plan_colours plan_kinds plan_firsts plan_seconds plan_degrees plan_needs))))
set_option maxHeartbeats 4000000 in
set_option maxRecDepth 100000 in
theorem mX5_readTwist (l : Launch) (D : va_G) (Y : Nat → ClassId) (h0 : Nat) (q_tape : Nat) (lines : Int32) (faulty : Int32) (place : Int32) (q_plan : Nat) (token : Int32) (toldOnce : Int32) (plan_bound : Int32) (plan_modulus : Int32) (plan_seed : Int32) (plan_functions : Int32) (q_plan_names : Nat) (q_plan_kinds : Nat) (q_plan_firsts : Nat) (q_plan_seconds : Nat) (q_plan_degrees : Nat) (q_plan_colours : Nat) (q_plan_needs : Nat) (v_plan_numbers : Value) (tape_fed : Int32) (v_tape_bytes : Value) (q_tape_sorts : Nat) (q_tape_starts : Nat) (q_tape_contents : Nat) (tape_length : Int32) (tape_tokens : Int32) (tape_at : Int32) (tape_sorts : Nat → Int32) (tape_contents : Nat → Int32) (plan_names : Nat → Int32) (tape_starts : Nat → Int32) (plan_colours : Nat → Int32) (plan_kinds : Nat → Int32) (plan_firsts : Nat → Int32) (plan_seconds : Nat → Int32) (plan_degrees : Nat → Int32) (plan_needs : Nat → Int32)  (Q : (Int32) → (Int32) → (Int32) → (Int32) → (Int32) → (Nat → Int32) → (Nat → Int32) → (Nat → Int32) → (Nat → Int32) → (Nat → Int32) → (Nat → Int32) → (Nat → Int32) → Prop) (h : wX5_readTwist lines faulty place token toldOnce plan_bound plan_modulus plan_seed plan_functions tape_fed tape_length tape_tokens tape_at tape_sorts tape_contents plan_names tape_starts plan_colours plan_kinds plan_firsts plan_seconds plan_degrees plan_needs Q) : gM l D Y yX5_readTwist cX5_readTwist 4 (some .boolean) 3 65 0 0 [.ref h0] [oX5 h0 (.ref q_tape) lines faulty place (.ref q_plan) token toldOnce, oX3 q_plan plan_bound plan_modulus plan_seed plan_functions (.ref q_plan_names) (.ref q_plan_kinds) (.ref q_plan_firsts) (.ref q_plan_seconds) (.ref q_plan_degrees) (.ref q_plan_colours) (.ref q_plan_needs) (v_plan_numbers), oX9 q_tape tape_fed (v_tape_bytes) (.ref q_tape_sorts) (.ref q_tape_starts) (.ref q_tape_contents) tape_length tape_tokens tape_at, aI Y q_tape_sorts 701 tape_sorts, aI Y q_tape_contents 701 tape_contents, aI Y q_plan_names 12 plan_names, aI Y q_tape_starts 701 tape_starts, aI Y q_plan_colours 12 plan_colours, aI Y q_plan_kinds 12 plan_kinds, aI Y q_plan_firsts 12 plan_firsts, aI Y q_plan_seconds 12 plan_seconds, aI Y q_plan_degrees 12 plan_degrees, aI Y q_plan_needs 12 plan_needs] (fun v w => ∃ r : Int32, ∃ faulty' : Int32, ∃ place' : Int32, ∃ token' : Int32, ∃ plan_functions' : Int32, ∃ plan_names' : Nat → Int32, ∃ plan_colours' : Nat → Int32, ∃ plan_kinds' : Nat → Int32, ∃ plan_firsts' : Nat → Int32, ∃ plan_seconds' : Nat → Int32, ∃ plan_degrees' : Nat → Int32, ∃ plan_needs' : Nat → Int32, v = some (.int r) ∧ w = [oX5 h0 (.ref q_tape) lines faulty' place' (.ref q_plan) token' toldOnce, oX3 q_plan plan_bound plan_modulus plan_seed plan_functions' (.ref q_plan_names) (.ref q_plan_kinds) (.ref q_plan_firsts) (.ref q_plan_seconds) (.ref q_plan_degrees) (.ref q_plan_colours) (.ref q_plan_needs) (v_plan_numbers), oX9 q_tape tape_fed (v_tape_bytes) (.ref q_tape_sorts) (.ref q_tape_starts) (.ref q_tape_contents) tape_length tape_tokens tape_at, aI Y q_tape_sorts 701 tape_sorts, aI Y q_tape_contents 701 tape_contents, aI Y q_plan_names 12 plan_names', aI Y q_tape_starts 701 tape_starts, aI Y q_plan_colours 12 plan_colours', aI Y q_plan_kinds 12 plan_kinds', aI Y q_plan_firsts 12 plan_firsts', aI Y q_plan_seconds 12 plan_seconds', aI Y q_plan_degrees 12 plan_degrees', aI Y q_plan_needs 12 plan_needs'] ∧ Q r faulty' place' token' plan_functions' plan_names' plan_colours' plan_kinds' plan_firsts' plan_seconds' plan_degrees' plan_needs') := by
  refine gM_of (own := RX5) (by decide +kernel) rfl (Nat.le_of_ble_eq_true rfl) rfl (fun E C hR => ?_)
  unfold wX5_readTwist at h
  refine g_aload_n C dX5_readTwist_0 0 rfl ?_
  obtain ⟨P_1, hP, h⟩ := h
  refine g_callV (As := []) (rest := []) C (mX5_takeNewName l D Y h0 q_tape lines faulty place q_plan token toldOnce plan_bound plan_modulus plan_seed plan_functions q_plan_names (.ref q_plan_kinds) (.ref q_plan_firsts) (.ref q_plan_seconds) (.ref q_plan_degrees) (.ref q_plan_colours) (.ref q_plan_needs) v_plan_numbers tape_fed v_tape_bytes q_tape_sorts q_tape_starts q_tape_contents tape_length tape_tokens tape_at tape_sorts tape_contents plan_names tape_starts P_1 hP) dX5_readTwist_1 rfl wM_X5_130 wI_X5_takeNewName wV_X5_takeNewName wN_X5 wC_X5_takeNewName (n := 0) (by decide +kernel) rfl (q0 := 0) rfl rfl ⟨Nat.le_of_ble_eq_true rfl, Nat.le_of_ble_eq_true rfl⟩ ⟨Nat.le_of_ble_eq_true rfl, Nat.le_of_ble_eq_true rfl⟩ (Nat.le_of_ble_eq_true rfl) [0, 1, 2, 3, 4, 5, 6] [7, 8, 9, 10, 11, 12] rfl rfl rfl (fun v wc hv => ?_)
  obtain ⟨rF_1, faulty_1, place_1, token_1, rfl, rfl, hq⟩ := hv
  replace h := h rF_1 faulty_1 place_1 token_1 hq
  refine gG.perm (ws' := [oX5 h0 (.ref q_tape) lines faulty_1 place_1 (.ref q_plan) token_1 toldOnce, oX3 q_plan plan_bound plan_modulus plan_seed plan_functions (.ref q_plan_names) (.ref q_plan_kinds) (.ref q_plan_firsts) (.ref q_plan_seconds) (.ref q_plan_degrees) (.ref q_plan_colours) (.ref q_plan_needs) (v_plan_numbers), oX9 q_tape tape_fed (v_tape_bytes) (.ref q_tape_sorts) (.ref q_tape_starts) (.ref q_tape_contents) tape_length tape_tokens tape_at, aI Y q_tape_sorts 701 tape_sorts, aI Y q_tape_contents 701 tape_contents, aI Y q_plan_names 12 plan_names, aI Y q_tape_starts 701 tape_starts, aI Y q_plan_colours 12 plan_colours, aI Y q_plan_kinds 12 plan_kinds, aI Y q_plan_firsts 12 plan_firsts, aI Y q_plan_seconds 12 plan_seconds, aI Y q_plan_degrees 12 plan_degrees, aI Y q_plan_needs 12 plan_needs]) [6, 7, 8, 9, 10, 11, 12, 0, 1, 2, 3, 4, 5] rfl rfl ?_
  refine g_istore_n (lv' := [(1, .int rF_1), (0, .ref h0)]) C dX5_readTwist_4 (by decide) rfl ?_
  refine g_iload_n C dX5_readTwist_5 0 rfl ?_
  refine g_iconst (v := (-1)) C dX5_readTwist_6 rfl ?_
  refine g_icmp_ne (tgt := 12) C dX5_readTwist_7 (by decide) (fun c_1 => ?_) (fun c_1 => ?_)
  · replace h := h.1 c_1
    refine g_aload_n C dX5_readTwist_12 1 rfl ?_
    obtain ⟨P_2, hP, h⟩ := h
    refine g_callV (As := []) (rest := []) C (mX5_takeFunction l D Y h0 q_tape lines faulty_1 place_1 q_plan token_1 toldOnce tape_fed v_tape_bytes q_tape_sorts q_tape_starts q_tape_contents tape_length tape_tokens tape_at tape_sorts tape_contents plan_bound plan_modulus plan_seed plan_functions q_plan_names (.ref q_plan_kinds) (.ref q_plan_firsts) (.ref q_plan_seconds) (.ref q_plan_degrees) (.ref q_plan_colours) (.ref q_plan_needs) v_plan_numbers plan_names tape_starts P_2 hP) dX5_readTwist_13 rfl wM_X5_112 wI_X5_takeFunction wV_X5_takeFunction wN_X5 wC_X5_takeFunction (n := 0) (by decide +kernel) rfl (q0 := 0) rfl rfl ⟨Nat.le_of_ble_eq_true rfl, Nat.le_of_ble_eq_true rfl⟩ ⟨Nat.le_of_ble_eq_true rfl, Nat.le_of_ble_eq_true rfl⟩ (Nat.le_of_ble_eq_true rfl) [0, 2, 3, 4, 1, 5, 6] [7, 8, 9, 10, 11, 12] rfl rfl rfl (fun v wc hv => ?_)
    obtain ⟨rF_2, faulty_2, place_2, token_2, rfl, rfl, hq⟩ := hv
    replace h := h rF_2 faulty_2 place_2 token_2 hq
    refine gG.perm (ws' := [oX5 h0 (.ref q_tape) lines faulty_2 place_2 (.ref q_plan) token_2 toldOnce, oX3 q_plan plan_bound plan_modulus plan_seed plan_functions (.ref q_plan_names) (.ref q_plan_kinds) (.ref q_plan_firsts) (.ref q_plan_seconds) (.ref q_plan_degrees) (.ref q_plan_colours) (.ref q_plan_needs) (v_plan_numbers), oX9 q_tape tape_fed (v_tape_bytes) (.ref q_tape_sorts) (.ref q_tape_starts) (.ref q_tape_contents) tape_length tape_tokens tape_at, aI Y q_tape_sorts 701 tape_sorts, aI Y q_tape_contents 701 tape_contents, aI Y q_plan_names 12 plan_names, aI Y q_tape_starts 701 tape_starts, aI Y q_plan_colours 12 plan_colours, aI Y q_plan_kinds 12 plan_kinds, aI Y q_plan_firsts 12 plan_firsts, aI Y q_plan_seconds 12 plan_seconds, aI Y q_plan_degrees 12 plan_degrees, aI Y q_plan_needs 12 plan_needs]) [6, 10, 7, 8, 9, 11, 12, 0, 1, 2, 3, 4, 5] rfl rfl ?_
    refine g_istore_n (lv' := [(2, .int rF_2), (1, .int rF_1), (0, .ref h0)]) C dX5_readTwist_16 (by decide) rfl ?_
    refine g_iload_n C dX5_readTwist_17 0 rfl ?_
    refine g_iconst (v := (-1)) C dX5_readTwist_18 rfl ?_
    refine g_icmp_ne (tgt := 24) C dX5_readTwist_19 (by decide) (fun c_2 => ?_) (fun c_2 => ?_)
    · replace h := h.1 c_2
      refine g_aload_n C dX5_readTwist_24 2 rfl ?_
      refine g_get C inX5 0 rfl rfl 4 (by decide) wF_X5_25 rfl dX5_readTwist_25 ?_
      refine g_get C inX3 1 rfl rfl 9 (by decide) wF_X5_152 rfl dX5_readTwist_28 ?_
      refine g_iload_n C dX5_readTwist_31 0 rfl ?_
      obtain ⟨hc_1, h⟩ := h
      refine g_iald C 7 rfl hc_1 dX5_readTwist_32 ?_
      refine g_if_eq (tgt := 42) C dX5_readTwist_33 (by decide) (fun c_3 => ?_) (fun c_3 => ?_)
      · replace h := h.1 c_3
        refine g_aload_n C dX5_readTwist_42 2 rfl ?_
        refine g_iconst (v := 3) C dX5_readTwist_43 rfl ?_
        refine g_iconst (v := 4) C dX5_readTwist_44 rfl ?_
        obtain ⟨P_3, hP, h⟩ := h
        refine g_callV (As := [.int 3, .int 4]) (rest := []) C (mX5_takeNumber l D Y h0 q_tape lines faulty_2 place_2 (.ref q_plan) token_2 toldOnce tape_fed v_tape_bytes q_tape_sorts q_tape_starts q_tape_contents tape_length tape_tokens tape_at tape_sorts tape_contents tape_starts 3 4 P_3 hP) dX5_readTwist_45 rfl wM_X5_97 wI_X5_takeNumber wV_X5_takeNumber wN_X5 wC_X5_takeNumber (n := 2) (by decide +kernel) rfl (q0 := 0) rfl rfl ⟨Nat.le_of_ble_eq_true rfl, Nat.le_of_ble_eq_true rfl⟩ ⟨Nat.le_of_ble_eq_true rfl, Nat.le_of_ble_eq_true rfl⟩ (Nat.le_of_ble_eq_true rfl) [0, 2, 3, 4, 6] [1, 5, 7, 8, 9, 10, 11, 12] rfl rfl rfl (fun v wc hv => ?_)
        obtain ⟨rF_3, faulty_3, place_3, token_3, rfl, rfl, hq⟩ := hv
        replace h := h rF_3 faulty_3 place_3 token_3 hq
        refine gG.perm (ws' := [oX5 h0 (.ref q_tape) lines faulty_3 place_3 (.ref q_plan) token_3 toldOnce, oX3 q_plan plan_bound plan_modulus plan_seed plan_functions (.ref q_plan_names) (.ref q_plan_kinds) (.ref q_plan_firsts) (.ref q_plan_seconds) (.ref q_plan_degrees) (.ref q_plan_colours) (.ref q_plan_needs) (v_plan_numbers), oX9 q_tape tape_fed (v_tape_bytes) (.ref q_tape_sorts) (.ref q_tape_starts) (.ref q_tape_contents) tape_length tape_tokens tape_at, aI Y q_tape_sorts 701 tape_sorts, aI Y q_tape_contents 701 tape_contents, aI Y q_plan_names 12 plan_names, aI Y q_tape_starts 701 tape_starts, aI Y q_plan_colours 12 plan_colours, aI Y q_plan_kinds 12 plan_kinds, aI Y q_plan_firsts 12 plan_firsts, aI Y q_plan_seconds 12 plan_seconds, aI Y q_plan_degrees 12 plan_degrees, aI Y q_plan_needs 12 plan_needs]) [8, 0, 9, 10, 11, 1, 12, 2, 3, 4, 5, 6, 7] rfl rfl ?_
        refine g_if_ne (tgt := 53) C dX5_readTwist_48 (by decide) (fun c_4 => ?_) (fun c_4 => ?_)
        · replace h := h.1 c_4
          refine g_aload_n C dX5_readTwist_53 2 rfl ?_
          refine g_get C inX5 0 rfl rfl 4 (by decide) wF_X5_25 rfl dX5_readTwist_54 ?_
          refine g_iload_n C dX5_readTwist_57 1 rfl ?_
          refine g_iconst (v := 5) C dX5_readTwist_58 rfl ?_
          refine g_iload_n C dX5_readTwist_59 0 rfl ?_
          refine g_bipush (v := (-2)) C dX5_readTwist_60 rfl ?_
          obtain ⟨P_4, hP, h⟩ := h
          refine g_callV (As := [.int rF_1, .int 5, .int rF_2, .int (-2)]) (rest := []) C (mX3_add l D Y q_plan plan_bound plan_modulus plan_seed plan_functions q_plan_names q_plan_kinds q_plan_firsts q_plan_seconds q_plan_degrees q_plan_colours q_plan_needs v_plan_numbers plan_names plan_kinds plan_firsts plan_seconds plan_degrees plan_colours plan_needs rF_1 5 rF_2 (-2) P_4 hP) dX5_readTwist_62 rfl wM_X5_133 wI_X3_add wV_X3_add wN_X3 wC_X3_add (n := 4) (by decide +kernel) rfl (q0 := 0) rfl rfl ⟨Nat.le_of_ble_eq_true rfl, Nat.le_of_ble_eq_true rfl⟩ ⟨Nat.le_of_ble_eq_true rfl, Nat.le_of_ble_eq_true rfl⟩ (Nat.le_of_ble_eq_true rfl) [1, 5, 8, 9, 10, 11, 7, 12] [0, 2, 3, 4, 6] rfl rfl rfl (fun v wc hv => ?_)
          obtain ⟨rF_4, functions_1, names_1, kinds_1, firsts_1, seconds_1, degrees_1, colours_1, needs_1, rfl, rfl, hq⟩ := hv
          replace h := h rF_4 functions_1 names_1 kinds_1 firsts_1 seconds_1 degrees_1 colours_1 needs_1 hq
          refine gG.perm (ws' := [oX5 h0 (.ref q_tape) lines faulty_3 place_3 (.ref q_plan) token_3 toldOnce, oX3 q_plan plan_bound plan_modulus plan_seed functions_1 (.ref q_plan_names) (.ref q_plan_kinds) (.ref q_plan_firsts) (.ref q_plan_seconds) (.ref q_plan_degrees) (.ref q_plan_colours) (.ref q_plan_needs) (v_plan_numbers), oX9 q_tape tape_fed (v_tape_bytes) (.ref q_tape_sorts) (.ref q_tape_starts) (.ref q_tape_contents) tape_length tape_tokens tape_at, aI Y q_tape_sorts 701 tape_sorts, aI Y q_tape_contents 701 tape_contents, aI Y q_plan_names 12 names_1, aI Y q_tape_starts 701 tape_starts, aI Y q_plan_colours 12 colours_1, aI Y q_plan_kinds 12 kinds_1, aI Y q_plan_firsts 12 firsts_1, aI Y q_plan_seconds 12 seconds_1, aI Y q_plan_degrees 12 degrees_1, aI Y q_plan_needs 12 needs_1]) [0, 5, 1, 2, 3, 6, 4, 11, 7, 8, 9, 10, 12] rfl rfl ?_
          refine g_istore_n (lv' := [(3, .int rF_4), (2, .int rF_2), (1, .int rF_1), (0, .ref h0)]) C dX5_readTwist_65 (by decide) rfl ?_
          refine g_aload_n C dX5_readTwist_66 3 rfl ?_
          refine g_get C inX5 0 rfl rfl 4 (by decide) wF_X5_25 rfl dX5_readTwist_67 ?_
          refine g_get C inX3 1 rfl rfl 8 (by decide) wF_X5_137 rfl dX5_readTwist_70 ?_
          refine g_iload_n C dX5_readTwist_73 0 rfl ?_
          refine g_aload_n C dX5_readTwist_74 3 rfl ?_
          refine g_get C inX5 0 rfl rfl 4 (by decide) wF_X5_25 rfl dX5_readTwist_75 ?_
          refine g_get C inX3 1 rfl rfl 8 (by decide) wF_X5_137 rfl dX5_readTwist_78 ?_
          refine g_iload_n C dX5_readTwist_81 1 rfl ?_
          obtain ⟨hc_2, h⟩ := h
          refine g_iald C 11 rfl hc_2 dX5_readTwist_82 ?_
          refine g_topi (fun e_1 ee_1 => ?_)
          replace h := h e_1 ee_1
          obtain ⟨hc_3, h⟩ := h
          refine g_iast C 11 rfl hc_3 dX5_readTwist_83 (fun degrees_2 edegrees_2 => gG.eqw (ws' := [oX5 h0 (.ref q_tape) lines faulty_3 place_3 (.ref q_plan) token_3 toldOnce, oX3 q_plan plan_bound plan_modulus plan_seed functions_1 (.ref q_plan_names) (.ref q_plan_kinds) (.ref q_plan_firsts) (.ref q_plan_seconds) (.ref q_plan_degrees) (.ref q_plan_colours) (.ref q_plan_needs) (v_plan_numbers), oX9 q_tape tape_fed (v_tape_bytes) (.ref q_tape_sorts) (.ref q_tape_starts) (.ref q_tape_contents) tape_length tape_tokens tape_at, aI Y q_tape_sorts 701 tape_sorts, aI Y q_tape_contents 701 tape_contents, aI Y q_plan_names 12 names_1, aI Y q_tape_starts 701 tape_starts, aI Y q_plan_colours 12 colours_1, aI Y q_plan_kinds 12 kinds_1, aI Y q_plan_firsts 12 firsts_1, aI Y q_plan_seconds 12 seconds_1, aI Y q_plan_degrees 12 degrees_2, aI Y q_plan_needs 12 needs_1]) rfl ?_)
          replace h := h degrees_2 edegrees_2
          refine g_aload_n C dX5_readTwist_84 3 rfl ?_
          refine g_get C inX5 0 rfl rfl 4 (by decide) wF_X5_25 rfl dX5_readTwist_85 ?_
          refine g_get C inX3 1 rfl rfl 9 (by decide) wF_X5_152 rfl dX5_readTwist_88 ?_
          refine g_iload_n C dX5_readTwist_91 0 rfl ?_
          refine g_aload_n C dX5_readTwist_92 3 rfl ?_
          refine g_get C inX5 0 rfl rfl 0 (by decide) wF_X5_12 rfl dX5_readTwist_93 ?_
          refine g_aload_n C dX5_readTwist_96 3 rfl ?_
          refine g_get C inX5 0 rfl rfl 5 (by decide) wF_X5_36 rfl dX5_readTwist_97 ?_
          obtain ⟨P_5, hP, h⟩ := h
          refine g_callV (As := [.int token_3]) (rest := [.int rF_4, .ref q_plan_colours]) C (mX9_contentOf l D Y q_tape tape_fed v_tape_bytes (.ref q_tape_sorts) (.ref q_tape_starts) q_tape_contents tape_length tape_tokens tape_at tape_contents token_3 P_5 hP) dX5_readTwist_100 rfl wM_X5_66 wI_X9_contentOf wV_X9_contentOf wN_X9 wC_X9_contentOf (n := 1) (by decide +kernel) rfl (q0 := 0) rfl rfl ⟨Nat.le_of_ble_eq_true rfl, Nat.le_of_ble_eq_true rfl⟩ ⟨Nat.le_of_ble_eq_true rfl, Nat.le_of_ble_eq_true rfl⟩ (Nat.le_of_ble_eq_true rfl) [2, 4] [0, 1, 3, 5, 6, 7, 8, 9, 10, 11, 12] rfl rfl rfl (fun v wc hv => ?_)
          obtain ⟨rF_5, rfl, rfl, hq⟩ := hv
          replace h := h rF_5 hq
          refine gG.perm (ws' := [oX5 h0 (.ref q_tape) lines faulty_3 place_3 (.ref q_plan) token_3 toldOnce, oX3 q_plan plan_bound plan_modulus plan_seed functions_1 (.ref q_plan_names) (.ref q_plan_kinds) (.ref q_plan_firsts) (.ref q_plan_seconds) (.ref q_plan_degrees) (.ref q_plan_colours) (.ref q_plan_needs) (v_plan_numbers), oX9 q_tape tape_fed (v_tape_bytes) (.ref q_tape_sorts) (.ref q_tape_starts) (.ref q_tape_contents) tape_length tape_tokens tape_at, aI Y q_tape_sorts 701 tape_sorts, aI Y q_tape_contents 701 tape_contents, aI Y q_plan_names 12 names_1, aI Y q_tape_starts 701 tape_starts, aI Y q_plan_colours 12 colours_1, aI Y q_plan_kinds 12 kinds_1, aI Y q_plan_firsts 12 firsts_1, aI Y q_plan_seconds 12 seconds_1, aI Y q_plan_degrees 12 degrees_2, aI Y q_plan_needs 12 needs_1]) [0, 1, 11, 2, 12, 3, 4, 5, 6, 7, 8, 9, 10] rfl rfl ?_
          refine g_iconst (v := 3) C dX5_readTwist_103 rfl ?_
          refine g_icmp_ne (tgt := 111) C dX5_readTwist_104 (by decide) (fun c_5 => ?_) (fun c_5 => ?_)
          · replace h := h.1 c_5
            refine g_iconst (v := 2) C dX5_readTwist_111 rfl ?_
            obtain ⟨hc_4, h⟩ := h
            refine g_iast C 7 rfl hc_4 dX5_readTwist_112 (fun colours_2 ecolours_2 => gG.eqw (ws' := [oX5 h0 (.ref q_tape) lines faulty_3 place_3 (.ref q_plan) token_3 toldOnce, oX3 q_plan plan_bound plan_modulus plan_seed functions_1 (.ref q_plan_names) (.ref q_plan_kinds) (.ref q_plan_firsts) (.ref q_plan_seconds) (.ref q_plan_degrees) (.ref q_plan_colours) (.ref q_plan_needs) (v_plan_numbers), oX9 q_tape tape_fed (v_tape_bytes) (.ref q_tape_sorts) (.ref q_tape_starts) (.ref q_tape_contents) tape_length tape_tokens tape_at, aI Y q_tape_sorts 701 tape_sorts, aI Y q_tape_contents 701 tape_contents, aI Y q_plan_names 12 names_1, aI Y q_tape_starts 701 tape_starts, aI Y q_plan_colours 12 colours_2, aI Y q_plan_kinds 12 kinds_1, aI Y q_plan_firsts 12 firsts_1, aI Y q_plan_seconds 12 seconds_1, aI Y q_plan_degrees 12 degrees_2, aI Y q_plan_needs 12 needs_1]) rfl ?_)
            replace h := h colours_2 ecolours_2
            refine g_iconst (v := 1) C dX5_readTwist_113 rfl ?_
            exact g_zret C hR (by decide) (Nat.le_of_ble_eq_true rfl) (Nat.le_of_ble_eq_true rfl) dX5_readTwist_114 ⟨1, faulty_3, place_3, token_3, functions_1, names_1, colours_2, kinds_1, firsts_1, seconds_1, degrees_2, needs_1, rfl, rfl, h⟩
          · replace h := h.2 c_5
            refine g_iconst (v := 1) C dX5_readTwist_107 rfl ?_
            refine g_goto (tgt := 112) C dX5_readTwist_108 (by decide) ?_
            obtain ⟨hc_5, h⟩ := h
            refine g_iast C 7 rfl hc_5 dX5_readTwist_112 (fun colours_3 ecolours_3 => gG.eqw (ws' := [oX5 h0 (.ref q_tape) lines faulty_3 place_3 (.ref q_plan) token_3 toldOnce, oX3 q_plan plan_bound plan_modulus plan_seed functions_1 (.ref q_plan_names) (.ref q_plan_kinds) (.ref q_plan_firsts) (.ref q_plan_seconds) (.ref q_plan_degrees) (.ref q_plan_colours) (.ref q_plan_needs) (v_plan_numbers), oX9 q_tape tape_fed (v_tape_bytes) (.ref q_tape_sorts) (.ref q_tape_starts) (.ref q_tape_contents) tape_length tape_tokens tape_at, aI Y q_tape_sorts 701 tape_sorts, aI Y q_tape_contents 701 tape_contents, aI Y q_plan_names 12 names_1, aI Y q_tape_starts 701 tape_starts, aI Y q_plan_colours 12 colours_3, aI Y q_plan_kinds 12 kinds_1, aI Y q_plan_firsts 12 firsts_1, aI Y q_plan_seconds 12 seconds_1, aI Y q_plan_degrees 12 degrees_2, aI Y q_plan_needs 12 needs_1]) rfl ?_)
            replace h := h colours_3 ecolours_3
            refine g_iconst (v := 1) C dX5_readTwist_113 rfl ?_
            exact g_zret C hR (by decide) (Nat.le_of_ble_eq_true rfl) (Nat.le_of_ble_eq_true rfl) dX5_readTwist_114 ⟨1, faulty_3, place_3, token_3, functions_1, names_1, colours_3, kinds_1, firsts_1, seconds_1, degrees_2, needs_1, rfl, rfl, h⟩
        · replace h := h.2 c_4
          refine g_iconst (v := 0) C dX5_readTwist_51 rfl ?_
          exact g_zret C hR (by decide) (Nat.le_of_ble_eq_true rfl) (Nat.le_of_ble_eq_true rfl) dX5_readTwist_52 ⟨0, faulty_3, place_3, token_3, plan_functions, plan_names, plan_colours, plan_kinds, plan_firsts, plan_seconds, plan_degrees, plan_needs, rfl, rfl, h⟩
      · replace h := h.2 c_3
        refine g_aload_n C dX5_readTwist_36 2 rfl ?_
        refine g_iconst (v := 2) C dX5_readTwist_37 rfl ?_
        obtain ⟨P_6, hP, h⟩ := h
        refine g_callV (As := [.int 2]) (rest := []) C (mX5_refuse l D Y h0 q_tape lines faulty_2 place_2 (.ref q_plan) token_2 toldOnce tape_fed v_tape_bytes (.ref q_tape_sorts) q_tape_starts (.ref q_tape_contents) tape_length tape_tokens tape_at tape_starts 2 P_6 hP) dX5_readTwist_38 rfl wM_X5_62 wI_X5_refuse wV_X5_refuse wN_X5 wC_X5_refuse (n := 1) (by decide +kernel) rfl (q0 := 0) rfl rfl ⟨Nat.le_of_ble_eq_true rfl, Nat.le_of_ble_eq_true rfl⟩ ⟨Nat.le_of_ble_eq_true rfl, Nat.le_of_ble_eq_true rfl⟩ (Nat.le_of_ble_eq_true rfl) [0, 2, 6] [1, 3, 4, 5, 7, 8, 9, 10, 11, 12] rfl rfl rfl (fun v wc hv => ?_)
        obtain ⟨rF_6, faulty_4, place_4, rfl, rfl, hq⟩ := hv
        replace h := h rF_6 faulty_4 place_4 hq
        refine gG.perm (ws' := [oX5 h0 (.ref q_tape) lines faulty_4 place_4 (.ref q_plan) token_2 toldOnce, oX3 q_plan plan_bound plan_modulus plan_seed plan_functions (.ref q_plan_names) (.ref q_plan_kinds) (.ref q_plan_firsts) (.ref q_plan_seconds) (.ref q_plan_degrees) (.ref q_plan_colours) (.ref q_plan_needs) (v_plan_numbers), oX9 q_tape tape_fed (v_tape_bytes) (.ref q_tape_sorts) (.ref q_tape_starts) (.ref q_tape_contents) tape_length tape_tokens tape_at, aI Y q_tape_sorts 701 tape_sorts, aI Y q_tape_contents 701 tape_contents, aI Y q_plan_names 12 plan_names, aI Y q_tape_starts 701 tape_starts, aI Y q_plan_colours 12 plan_colours, aI Y q_plan_kinds 12 plan_kinds, aI Y q_plan_firsts 12 plan_firsts, aI Y q_plan_seconds 12 plan_seconds, aI Y q_plan_degrees 12 plan_degrees, aI Y q_plan_needs 12 plan_needs]) [10, 0, 11, 1, 2, 3, 12, 4, 5, 6, 7, 8, 9] rfl rfl ?_
        obtain ⟨hz, h⟩ := h
        exact g_zret C hR hz (Nat.le_of_ble_eq_true rfl) (Nat.le_of_ble_eq_true rfl) dX5_readTwist_41 ⟨rF_6, faulty_4, place_4, token_2, plan_functions, plan_names, plan_colours, plan_kinds, plan_firsts, plan_seconds, plan_degrees, plan_needs, rfl, rfl, h⟩
    · replace h := h.2 c_2
      refine g_iconst (v := 0) C dX5_readTwist_22 rfl ?_
      exact g_zret C hR (by decide) (Nat.le_of_ble_eq_true rfl) (Nat.le_of_ble_eq_true rfl) dX5_readTwist_23 ⟨0, faulty_2, place_2, token_2, plan_functions, plan_names, plan_colours, plan_kinds, plan_firsts, plan_seconds, plan_degrees, plan_needs, rfl, rfl, h⟩
  · replace h := h.2 c_1
    refine g_iconst (v := 0) C dX5_readTwist_10 rfl ?_
    exact g_zret C hR (by decide) (Nat.le_of_ble_eq_true rfl) (Nat.le_of_ble_eq_true rfl) dX5_readTwist_11 ⟨0, faulty_1, place_1, token_1, plan_functions, plan_names, plan_colours, plan_kinds, plan_firsts, plan_seconds, plan_degrees, plan_needs, rfl, rfl, h⟩
theorem dX5_readLine_0 : decode cX5_readLine 0 = .ok (.aload_n 0, 1) := by decide +kernel
theorem dX5_readLine_1 : decode cX5_readLine 1 = .ok (.getfield 12, 3) := by decide +kernel
theorem dX5_readLine_4 : decode cX5_readLine 4 = .ok (.aload_n 0, 1) := by decide +kernel
theorem dX5_readLine_5 : decode cX5_readLine 5 = .ok (.getfield 36, 3) := by decide +kernel
theorem dX5_readLine_8 : decode cX5_readLine 8 = .ok (.invokevirtual 48, 3) := by decide +kernel
theorem dX5_readLine_11 : decode cX5_readLine 11 = .ok (.istore_n 1, 1) := by decide +kernel
theorem dX5_readLine_12 : decode cX5_readLine 12 = .ok (.iload_n 1, 1) := by decide +kernel
theorem dX5_readLine_13 : decode cX5_readLine 13 = .ok (.tableswitch 83 10 18 #[51, 51, 51, 57, 62, 67, 73, 67, 78], 51) := by decide +kernel
theorem dX5_readLine_64 : decode cX5_readLine 64 = .ok (.aload_n 0, 1) := by decide +kernel
theorem dX5_readLine_65 : decode cX5_readLine 65 = .ok (.iload_n 1, 1) := by decide +kernel
theorem dX5_readLine_66 : decode cX5_readLine 66 = .ok (.invokevirtual 78, 3) := by decide +kernel
theorem dX5_readLine_69 : decode cX5_readLine 69 = .ok (.ireturn, 1) := by decide +kernel
theorem dX5_readLine_70 : decode cX5_readLine 70 = .ok (.aload_n 0, 1) := by decide +kernel
theorem dX5_readLine_71 : decode cX5_readLine 71 = .ok (.invokevirtual 81, 3) := by decide +kernel
theorem dX5_readLine_74 : decode cX5_readLine 74 = .ok (.ireturn, 1) := by decide +kernel
theorem dX5_readLine_75 : decode cX5_readLine 75 = .ok (.aload_n 0, 1) := by decide +kernel
theorem dX5_readLine_76 : decode cX5_readLine 76 = .ok (.invokevirtual 84, 3) := by decide +kernel
theorem dX5_readLine_79 : decode cX5_readLine 79 = .ok (.ireturn, 1) := by decide +kernel
theorem dX5_readLine_80 : decode cX5_readLine 80 = .ok (.aload_n 0, 1) := by decide +kernel
theorem dX5_readLine_81 : decode cX5_readLine 81 = .ok (.iload_n 1, 1) := by decide +kernel
theorem dX5_readLine_82 : decode cX5_readLine 82 = .ok (.invokevirtual 87, 3) := by decide +kernel
theorem dX5_readLine_85 : decode cX5_readLine 85 = .ok (.ireturn, 1) := by decide +kernel
theorem dX5_readLine_86 : decode cX5_readLine 86 = .ok (.aload_n 0, 1) := by decide +kernel
theorem dX5_readLine_87 : decode cX5_readLine 87 = .ok (.invokevirtual 90, 3) := by decide +kernel
theorem dX5_readLine_90 : decode cX5_readLine 90 = .ok (.ireturn, 1) := by decide +kernel
theorem dX5_readLine_91 : decode cX5_readLine 91 = .ok (.aload_n 0, 1) := by decide +kernel
theorem dX5_readLine_92 : decode cX5_readLine 92 = .ok (.invokevirtual 93, 3) := by decide +kernel
theorem dX5_readLine_95 : decode cX5_readLine 95 = .ok (.ireturn, 1) := by decide +kernel
theorem dX5_readLine_96 : decode cX5_readLine 96 = .ok (.aload_n 0, 1) := by decide +kernel
theorem dX5_readLine_97 : decode cX5_readLine 97 = .ok (.iconst 1, 1) := by decide +kernel
theorem dX5_readLine_98 : decode cX5_readLine 98 = .ok (.invokevirtual 62, 3) := by decide +kernel
theorem dX5_readLine_101 : decode cX5_readLine 101 = .ok (.ireturn, 1) := by decide +kernel
/-- QuotientSums$Reader.readLine()Z -/
def wX5_readLine (lines : Int32) (faulty : Int32) (place : Int32) (token : Int32) (toldOnce : Int32) (tape_fed : Int32) (tape_length : Int32) (tape_tokens : Int32) (tape_at : Int32) (tape_sorts : Nat → Int32) (tape_contents : Nat → Int32) (tape_starts : Nat → Int32) (plan_bound : Int32) (plan_modulus : Int32) (plan_seed : Int32) (plan_functions : Int32) (plan_names : Nat → Int32) (plan_kinds : Nat → Int32) (plan_firsts : Nat → Int32) (plan_seconds : Nat → Int32) (plan_degrees : Nat → Int32) (plan_colours : Nat → Int32) (plan_needs : Nat → Int32) (plan_numbers : Nat → Int32)  (Q : (Int32) → (Int32) → (Int32) → (Int32) → (Int32) → (Int32) → (Int32) → (Int32) → (Int32) → (Nat → Int32) → (Nat → Int32) → (Nat → Int32) → (Nat → Int32) → (Nat → Int32) → (Nat → Int32) → (Nat → Int32) → (Nat → Int32) → Prop) : Prop :=
  (∃ (P_1 : (Int32) → Prop), wX9_sortOf tape_fed tape_length tape_tokens tape_at tape_sorts token P_1 ∧ ∀ (rF_1 : Int32), P_1 rF_1 → ((rF_1 = 10 → (∃ (P_2 : (Int32) → (Int32) → (Int32) → (Int32) → (Int32) → (Int32) → (Int32) → (Int32) → Prop), wX5_readSetting lines faulty place token toldOnce tape_fed tape_length tape_tokens tape_at tape_sorts tape_contents tape_starts plan_bound plan_modulus plan_seed plan_functions rF_1 P_2 ∧ ∀ (rF_2 : Int32) (faulty_1 : Int32) (place_1 : Int32) (token_1 : Int32) (toldOnce_1 : Int32) (plan_bound_1 : Int32) (plan_modulus_1 : Int32) (plan_seed_1 : Int32), P_2 rF_2 faulty_1 place_1 token_1 toldOnce_1 plan_bound_1 plan_modulus_1 plan_seed_1 → ((rF_2 = 0 ∨ rF_2 = 1) ∧ Q rF_2 faulty_1 place_1 token_1 toldOnce_1 plan_bound_1 plan_modulus_1 plan_seed_1 plan_functions plan_names plan_kinds plan_firsts plan_seconds plan_degrees plan_colours plan_needs plan_numbers))) ∧ (¬ rF_1 = 10 → ((rF_1 = 11 → (∃ (P_3 : (Int32) → (Int32) → (Int32) → (Int32) → (Int32) → (Int32) → (Int32) → (Int32) → Prop), wX5_readSetting lines faulty place token toldOnce tape_fed tape_length tape_tokens tape_at tape_sorts tape_contents tape_starts plan_bound plan_modulus plan_seed plan_functions rF_1 P_3 ∧ ∀ (rF_3 : Int32) (faulty_2 : Int32) (place_2 : Int32) (token_2 : Int32) (toldOnce_2 : Int32) (plan_bound_2 : Int32) (plan_modulus_2 : Int32) (plan_seed_2 : Int32), P_3 rF_3 faulty_2 place_2 token_2 toldOnce_2 plan_bound_2 plan_modulus_2 plan_seed_2 → ((rF_3 = 0 ∨ rF_3 = 1) ∧ Q rF_3 faulty_2 place_2 token_2 toldOnce_2 plan_bound_2 plan_modulus_2 plan_seed_2 plan_functions plan_names plan_kinds plan_firsts plan_seconds plan_degrees plan_colours plan_needs plan_numbers))) ∧ (¬ rF_1 = 11 → ((rF_1 = 12 → (∃ (P_4 : (Int32) → (Int32) → (Int32) → (Int32) → (Int32) → (Int32) → (Int32) → (Int32) → Prop), wX5_readSetting lines faulty place token toldOnce tape_fed tape_length tape_tokens tape_at tape_sorts tape_contents tape_starts plan_bound plan_modulus plan_seed plan_functions rF_1 P_4 ∧ ∀ (rF_4 : Int32) (faulty_3 : Int32) (place_3 : Int32) (token_3 : Int32) (toldOnce_3 : Int32) (plan_bound_3 : Int32) (plan_modulus_3 : Int32) (plan_seed_3 : Int32), P_4 rF_4 faulty_3 place_3 token_3 toldOnce_3 plan_bound_3 plan_modulus_3 plan_seed_3 → ((rF_4 = 0 ∨ rF_4 = 1) ∧ Q rF_4 faulty_3 place_3 token_3 toldOnce_3 plan_bound_3 plan_modulus_3 plan_seed_3 plan_functions plan_names plan_kinds plan_firsts plan_seconds plan_degrees plan_colours plan_needs plan_numbers))) ∧ (¬ rF_1 = 12 → ((rF_1 = 13 → (∃ (P_5 : (Int32) → (Int32) → (Int32) → (Int32) → (Int32) → (Nat → Int32) → (Nat → Int32) → (Nat → Int32) → (Nat → Int32) → (Nat → Int32) → (Nat → Int32) → (Nat → Int32) → Prop), wX5_readOwn lines faulty place token toldOnce plan_bound plan_modulus plan_seed plan_functions tape_fed tape_length tape_tokens tape_at tape_sorts tape_contents plan_names tape_starts plan_kinds plan_firsts plan_seconds plan_degrees plan_colours plan_needs P_5 ∧ ∀ (rF_5 : Int32) (faulty_4 : Int32) (place_4 : Int32) (token_4 : Int32) (plan_functions_1 : Int32) (plan_names_1 : Nat → Int32) (plan_kinds_1 : Nat → Int32) (plan_firsts_1 : Nat → Int32) (plan_seconds_1 : Nat → Int32) (plan_degrees_1 : Nat → Int32) (plan_colours_1 : Nat → Int32) (plan_needs_1 : Nat → Int32), P_5 rF_5 faulty_4 place_4 token_4 plan_functions_1 plan_names_1 plan_kinds_1 plan_firsts_1 plan_seconds_1 plan_degrees_1 plan_colours_1 plan_needs_1 → ((rF_5 = 0 ∨ rF_5 = 1) ∧ Q rF_5 faulty_4 place_4 token_4 toldOnce plan_bound plan_modulus plan_seed plan_functions_1 plan_names_1 plan_kinds_1 plan_firsts_1 plan_seconds_1 plan_degrees_1 plan_colours_1 plan_needs_1 plan_numbers))) ∧ (¬ rF_1 = 13 → ((rF_1 = 14 → (∃ (P_6 : (Int32) → (Int32) → (Int32) → (Int32) → (Nat → Int32) → Prop), wX5_readAt lines faulty place token toldOnce tape_fed tape_length tape_tokens tape_at tape_sorts tape_contents plan_bound plan_modulus plan_seed plan_functions plan_names tape_starts plan_kinds plan_numbers P_6 ∧ ∀ (rF_6 : Int32) (faulty_5 : Int32) (place_5 : Int32) (token_5 : Int32) (plan_numbers_1 : Nat → Int32), P_6 rF_6 faulty_5 place_5 token_5 plan_numbers_1 → ((rF_6 = 0 ∨ rF_6 = 1) ∧ Q rF_6 faulty_5 place_5 token_5 toldOnce plan_bound plan_modulus plan_seed plan_functions plan_names plan_kinds plan_firsts plan_seconds plan_degrees plan_colours plan_needs plan_numbers_1))) ∧ (¬ rF_1 = 14 → ((rF_1 = 15 → (∃ (P_7 : (Int32) → (Int32) → (Int32) → (Int32) → (Int32) → (Nat → Int32) → (Nat → Int32) → (Nat → Int32) → (Nat → Int32) → (Nat → Int32) → (Nat → Int32) → (Nat → Int32) → Prop), wX5_readPair lines faulty place token toldOnce plan_bound plan_modulus plan_seed plan_functions tape_fed tape_length tape_tokens tape_at tape_sorts tape_contents plan_names tape_starts plan_degrees plan_colours plan_kinds plan_firsts plan_seconds plan_needs rF_1 P_7 ∧ ∀ (rF_7 : Int32) (faulty_6 : Int32) (place_6 : Int32) (token_6 : Int32) (plan_functions_2 : Int32) (plan_names_2 : Nat → Int32) (plan_degrees_2 : Nat → Int32) (plan_colours_2 : Nat → Int32) (plan_kinds_2 : Nat → Int32) (plan_firsts_2 : Nat → Int32) (plan_seconds_2 : Nat → Int32) (plan_needs_2 : Nat → Int32), P_7 rF_7 faulty_6 place_6 token_6 plan_functions_2 plan_names_2 plan_degrees_2 plan_colours_2 plan_kinds_2 plan_firsts_2 plan_seconds_2 plan_needs_2 → ((rF_7 = 0 ∨ rF_7 = 1) ∧ Q rF_7 faulty_6 place_6 token_6 toldOnce plan_bound plan_modulus plan_seed plan_functions_2 plan_names_2 plan_kinds_2 plan_firsts_2 plan_seconds_2 plan_degrees_2 plan_colours_2 plan_needs_2 plan_numbers))) ∧ (¬ rF_1 = 15 → ((rF_1 = 16 → (∃ (P_8 : (Int32) → (Int32) → (Int32) → (Int32) → (Int32) → (Nat → Int32) → (Nat → Int32) → (Nat → Int32) → (Nat → Int32) → (Nat → Int32) → (Nat → Int32) → (Nat → Int32) → Prop), wX5_readOver lines faulty place token toldOnce plan_bound plan_modulus plan_seed plan_functions tape_fed tape_length tape_tokens tape_at tape_sorts tape_contents plan_names tape_starts plan_kinds plan_firsts plan_seconds plan_degrees plan_colours plan_needs P_8 ∧ ∀ (rF_8 : Int32) (faulty_7 : Int32) (place_7 : Int32) (token_7 : Int32) (plan_functions_3 : Int32) (plan_names_3 : Nat → Int32) (plan_kinds_3 : Nat → Int32) (plan_firsts_3 : Nat → Int32) (plan_seconds_3 : Nat → Int32) (plan_degrees_3 : Nat → Int32) (plan_colours_3 : Nat → Int32) (plan_needs_3 : Nat → Int32), P_8 rF_8 faulty_7 place_7 token_7 plan_functions_3 plan_names_3 plan_kinds_3 plan_firsts_3 plan_seconds_3 plan_degrees_3 plan_colours_3 plan_needs_3 → ((rF_8 = 0 ∨ rF_8 = 1) ∧ Q rF_8 faulty_7 place_7 token_7 toldOnce plan_bound plan_modulus plan_seed plan_functions_3 plan_names_3 plan_kinds_3 plan_firsts_3 plan_seconds_3 plan_degrees_3 plan_colours_3 plan_needs_3 plan_numbers))) ∧ (¬ rF_1 = 16 → ((rF_1 = 17 → (∃ (P_9 : (Int32) → (Int32) → (Int32) → (Int32) → (Int32) → (Nat → Int32) → (Nat → Int32) → (Nat → Int32) → (Nat → Int32) → (Nat → Int32) → (Nat → Int32) → (Nat → Int32) → Prop), wX5_readPair lines faulty place token toldOnce plan_bound plan_modulus plan_seed plan_functions tape_fed tape_length tape_tokens tape_at tape_sorts tape_contents plan_names tape_starts plan_degrees plan_colours plan_kinds plan_firsts plan_seconds plan_needs rF_1 P_9 ∧ ∀ (rF_9 : Int32) (faulty_8 : Int32) (place_8 : Int32) (token_8 : Int32) (plan_functions_4 : Int32) (plan_names_4 : Nat → Int32) (plan_degrees_4 : Nat → Int32) (plan_colours_4 : Nat → Int32) (plan_kinds_4 : Nat → Int32) (plan_firsts_4 : Nat → Int32) (plan_seconds_4 : Nat → Int32) (plan_needs_4 : Nat → Int32), P_9 rF_9 faulty_8 place_8 token_8 plan_functions_4 plan_names_4 plan_degrees_4 plan_colours_4 plan_kinds_4 plan_firsts_4 plan_seconds_4 plan_needs_4 → ((rF_9 = 0 ∨ rF_9 = 1) ∧ Q rF_9 faulty_8 place_8 token_8 toldOnce plan_bound plan_modulus plan_seed plan_functions_4 plan_names_4 plan_kinds_4 plan_firsts_4 plan_seconds_4 plan_degrees_4 plan_colours_4 plan_needs_4 plan_numbers))) ∧ (¬ rF_1 = 17 → ((rF_1 = 18 → (∃ (P_10 : (Int32) → (Int32) → (Int32) → (Int32) → (Int32) → (Nat → Int32) → (Nat → Int32) → (Nat → Int32) → (Nat → Int32) → (Nat → Int32) → (Nat → Int32) → (Nat → Int32) → Prop), wX5_readTwist lines faulty place token toldOnce plan_bound plan_modulus plan_seed plan_functions tape_fed tape_length tape_tokens tape_at tape_sorts tape_contents plan_names tape_starts plan_colours plan_kinds plan_firsts plan_seconds plan_degrees plan_needs P_10 ∧ ∀ (rF_10 : Int32) (faulty_9 : Int32) (place_9 : Int32) (token_9 : Int32) (plan_functions_5 : Int32) (plan_names_5 : Nat → Int32) (plan_colours_5 : Nat → Int32) (plan_kinds_5 : Nat → Int32) (plan_firsts_5 : Nat → Int32) (plan_seconds_5 : Nat → Int32) (plan_degrees_5 : Nat → Int32) (plan_needs_5 : Nat → Int32), P_10 rF_10 faulty_9 place_9 token_9 plan_functions_5 plan_names_5 plan_colours_5 plan_kinds_5 plan_firsts_5 plan_seconds_5 plan_degrees_5 plan_needs_5 → ((rF_10 = 0 ∨ rF_10 = 1) ∧ Q rF_10 faulty_9 place_9 token_9 toldOnce plan_bound plan_modulus plan_seed plan_functions_5 plan_names_5 plan_kinds_5 plan_firsts_5 plan_seconds_5 plan_degrees_5 plan_colours_5 plan_needs_5 plan_numbers))) ∧ (¬ rF_1 = 18 → (∃ (P_11 : (Int32) → (Int32) → (Int32) → Prop), wX5_refuse lines faulty place token toldOnce tape_fed tape_length tape_tokens tape_at tape_starts 1 P_11 ∧ ∀ (rF_11 : Int32) (faulty_10 : Int32) (place_10 : Int32), P_11 rF_11 faulty_10 place_10 → ((rF_11 = 0 ∨ rF_11 = 1) ∧ Q rF_11 faulty_10 place_10 token toldOnce plan_bound plan_modulus plan_seed plan_functions plan_names plan_kinds plan_firsts plan_seconds plan_degrees plan_colours plan_needs plan_numbers)))))))))))))))))))))
set_option maxHeartbeats 4000000 in
set_option maxRecDepth 100000 in
theorem mX5_readLine (l : Launch) (D : va_G) (Y : Nat → ClassId) (h0 : Nat) (q_tape : Nat) (lines : Int32) (faulty : Int32) (place : Int32) (q_plan : Nat) (token : Int32) (toldOnce : Int32) (tape_fed : Int32) (v_tape_bytes : Value) (q_tape_sorts : Nat) (q_tape_starts : Nat) (q_tape_contents : Nat) (tape_length : Int32) (tape_tokens : Int32) (tape_at : Int32) (tape_sorts : Nat → Int32) (tape_contents : Nat → Int32) (tape_starts : Nat → Int32) (plan_bound : Int32) (plan_modulus : Int32) (plan_seed : Int32) (plan_functions : Int32) (q_plan_names : Nat) (q_plan_kinds : Nat) (q_plan_firsts : Nat) (q_plan_seconds : Nat) (q_plan_degrees : Nat) (q_plan_colours : Nat) (q_plan_needs : Nat) (q_plan_numbers : Nat) (plan_names : Nat → Int32) (plan_kinds : Nat → Int32) (plan_firsts : Nat → Int32) (plan_seconds : Nat → Int32) (plan_degrees : Nat → Int32) (plan_colours : Nat → Int32) (plan_needs : Nat → Int32) (plan_numbers : Nat → Int32)  (Q : (Int32) → (Int32) → (Int32) → (Int32) → (Int32) → (Int32) → (Int32) → (Int32) → (Int32) → (Nat → Int32) → (Nat → Int32) → (Nat → Int32) → (Nat → Int32) → (Nat → Int32) → (Nat → Int32) → (Nat → Int32) → (Nat → Int32) → Prop) (h : wX5_readLine lines faulty place token toldOnce tape_fed tape_length tape_tokens tape_at tape_sorts tape_contents tape_starts plan_bound plan_modulus plan_seed plan_functions plan_names plan_kinds plan_firsts plan_seconds plan_degrees plan_colours plan_needs plan_numbers Q) : gM l D Y yX5_readLine cX5_readLine 2 (some .boolean) 4 96 0 0 [.ref h0] [oX5 h0 (.ref q_tape) lines faulty place (.ref q_plan) token toldOnce, oX9 q_tape tape_fed (v_tape_bytes) (.ref q_tape_sorts) (.ref q_tape_starts) (.ref q_tape_contents) tape_length tape_tokens tape_at, aI Y q_tape_sorts 701 tape_sorts, aI Y q_tape_contents 701 tape_contents, aI Y q_tape_starts 701 tape_starts, oX3 q_plan plan_bound plan_modulus plan_seed plan_functions (.ref q_plan_names) (.ref q_plan_kinds) (.ref q_plan_firsts) (.ref q_plan_seconds) (.ref q_plan_degrees) (.ref q_plan_colours) (.ref q_plan_needs) (.ref q_plan_numbers), aI Y q_plan_names 12 plan_names, aI Y q_plan_kinds 12 plan_kinds, aI Y q_plan_firsts 12 plan_firsts, aI Y q_plan_seconds 12 plan_seconds, aI Y q_plan_degrees 12 plan_degrees, aI Y q_plan_colours 12 plan_colours, aI Y q_plan_needs 12 plan_needs, aI Y q_plan_numbers 144 plan_numbers] (fun v w => ∃ r : Int32, ∃ faulty' : Int32, ∃ place' : Int32, ∃ token' : Int32, ∃ toldOnce' : Int32, ∃ plan_bound' : Int32, ∃ plan_modulus' : Int32, ∃ plan_seed' : Int32, ∃ plan_functions' : Int32, ∃ plan_names' : Nat → Int32, ∃ plan_kinds' : Nat → Int32, ∃ plan_firsts' : Nat → Int32, ∃ plan_seconds' : Nat → Int32, ∃ plan_degrees' : Nat → Int32, ∃ plan_colours' : Nat → Int32, ∃ plan_needs' : Nat → Int32, ∃ plan_numbers' : Nat → Int32, v = some (.int r) ∧ w = [oX5 h0 (.ref q_tape) lines faulty' place' (.ref q_plan) token' toldOnce', oX9 q_tape tape_fed (v_tape_bytes) (.ref q_tape_sorts) (.ref q_tape_starts) (.ref q_tape_contents) tape_length tape_tokens tape_at, aI Y q_tape_sorts 701 tape_sorts, aI Y q_tape_contents 701 tape_contents, aI Y q_tape_starts 701 tape_starts, oX3 q_plan plan_bound' plan_modulus' plan_seed' plan_functions' (.ref q_plan_names) (.ref q_plan_kinds) (.ref q_plan_firsts) (.ref q_plan_seconds) (.ref q_plan_degrees) (.ref q_plan_colours) (.ref q_plan_needs) (.ref q_plan_numbers), aI Y q_plan_names 12 plan_names', aI Y q_plan_kinds 12 plan_kinds', aI Y q_plan_firsts 12 plan_firsts', aI Y q_plan_seconds 12 plan_seconds', aI Y q_plan_degrees 12 plan_degrees', aI Y q_plan_colours 12 plan_colours', aI Y q_plan_needs 12 plan_needs', aI Y q_plan_numbers 144 plan_numbers'] ∧ Q r faulty' place' token' toldOnce' plan_bound' plan_modulus' plan_seed' plan_functions' plan_names' plan_kinds' plan_firsts' plan_seconds' plan_degrees' plan_colours' plan_needs' plan_numbers') := by
  refine gM_of (own := RX5) (by decide +kernel) rfl (Nat.le_of_ble_eq_true rfl) rfl (fun E C hR => ?_)
  unfold wX5_readLine at h
  refine g_aload_n C dX5_readLine_0 0 rfl ?_
  refine g_get C inX5 0 rfl rfl 0 (by decide) wF_X5_12 rfl dX5_readLine_1 ?_
  refine g_aload_n C dX5_readLine_4 0 rfl ?_
  refine g_get C inX5 0 rfl rfl 5 (by decide) wF_X5_36 rfl dX5_readLine_5 ?_
  obtain ⟨P_1, hP, h⟩ := h
  refine g_callV (As := [.int token]) (rest := []) C (mX9_sortOf l D Y q_tape tape_fed v_tape_bytes q_tape_sorts (.ref q_tape_starts) (.ref q_tape_contents) tape_length tape_tokens tape_at tape_sorts token P_1 hP) dX5_readLine_8 rfl wM_X5_48 wI_X9_sortOf wV_X9_sortOf wN_X9 wC_X9_sortOf (n := 1) (by decide +kernel) rfl (q0 := 0) rfl rfl ⟨Nat.le_of_ble_eq_true rfl, Nat.le_of_ble_eq_true rfl⟩ ⟨Nat.le_of_ble_eq_true rfl, Nat.le_of_ble_eq_true rfl⟩ (Nat.le_of_ble_eq_true rfl) [1, 2] [0, 3, 4, 5, 6, 7, 8, 9, 10, 11, 12, 13] rfl rfl rfl (fun v wc hv => ?_)
  obtain ⟨rF_1, rfl, rfl, hq⟩ := hv
  replace h := h rF_1 hq
  refine gG.perm (ws' := [oX5 h0 (.ref q_tape) lines faulty place (.ref q_plan) token toldOnce, oX9 q_tape tape_fed (v_tape_bytes) (.ref q_tape_sorts) (.ref q_tape_starts) (.ref q_tape_contents) tape_length tape_tokens tape_at, aI Y q_tape_sorts 701 tape_sorts, aI Y q_tape_contents 701 tape_contents, aI Y q_tape_starts 701 tape_starts, oX3 q_plan plan_bound plan_modulus plan_seed plan_functions (.ref q_plan_names) (.ref q_plan_kinds) (.ref q_plan_firsts) (.ref q_plan_seconds) (.ref q_plan_degrees) (.ref q_plan_colours) (.ref q_plan_needs) (.ref q_plan_numbers), aI Y q_plan_names 12 plan_names, aI Y q_plan_kinds 12 plan_kinds, aI Y q_plan_firsts 12 plan_firsts, aI Y q_plan_seconds 12 plan_seconds, aI Y q_plan_degrees 12 plan_degrees, aI Y q_plan_colours 12 plan_colours, aI Y q_plan_needs 12 plan_needs, aI Y q_plan_numbers 144 plan_numbers]) [0, 12, 13, 1, 2, 3, 4, 5, 6, 7, 8, 9, 10, 11] rfl rfl ?_
  refine g_istore_n (lv' := [(1, .int rF_1), (0, .ref h0)]) C dX5_readLine_11 (by decide) rfl ?_
  refine g_iload_n C dX5_readLine_12 0 rfl ?_
  by_cases c_1 : rF_1 = 10
  · replace h := h.1 c_1
    refine g_tabI (v := 10) (tgt := 64) C dX5_readLine_13 c_1 (by decide) (by decide) rfl (by decide) ?_
    refine g_aload_n C dX5_readLine_64 1 rfl ?_
    refine g_iload_n C dX5_readLine_65 0 rfl ?_
    obtain ⟨P_2, hP, h⟩ := h
    refine g_callV (As := [.int rF_1]) (rest := []) C (mX5_readSetting l D Y h0 q_tape lines faulty place q_plan token toldOnce tape_fed v_tape_bytes q_tape_sorts q_tape_starts q_tape_contents tape_length tape_tokens tape_at tape_sorts tape_contents tape_starts plan_bound plan_modulus plan_seed plan_functions (.ref q_plan_names) (.ref q_plan_kinds) (.ref q_plan_firsts) (.ref q_plan_seconds) (.ref q_plan_degrees) (.ref q_plan_colours) (.ref q_plan_needs) (.ref q_plan_numbers) rF_1 P_2 hP) dX5_readLine_66 rfl wM_X5_78 wI_X5_readSetting wV_X5_readSetting wN_X5 wC_X5_readSetting (n := 1) (by decide +kernel) rfl (q0 := 0) rfl rfl ⟨Nat.le_of_ble_eq_true rfl, Nat.le_of_ble_eq_true rfl⟩ ⟨Nat.le_of_ble_eq_true rfl, Nat.le_of_ble_eq_true rfl⟩ (Nat.le_of_ble_eq_true rfl) [0, 1, 2, 3, 4, 5] [6, 7, 8, 9, 10, 11, 12, 13] rfl rfl rfl (fun v wc hv => ?_)
    obtain ⟨rF_2, faulty_1, place_1, token_1, toldOnce_1, plan_bound_1, plan_modulus_1, plan_seed_1, rfl, rfl, hq⟩ := hv
    replace h := h rF_2 faulty_1 place_1 token_1 toldOnce_1 plan_bound_1 plan_modulus_1 plan_seed_1 hq
    refine gG.perm (ws' := [oX5 h0 (.ref q_tape) lines faulty_1 place_1 (.ref q_plan) token_1 toldOnce_1, oX9 q_tape tape_fed (v_tape_bytes) (.ref q_tape_sorts) (.ref q_tape_starts) (.ref q_tape_contents) tape_length tape_tokens tape_at, aI Y q_tape_sorts 701 tape_sorts, aI Y q_tape_contents 701 tape_contents, aI Y q_tape_starts 701 tape_starts, oX3 q_plan plan_bound_1 plan_modulus_1 plan_seed_1 plan_functions (.ref q_plan_names) (.ref q_plan_kinds) (.ref q_plan_firsts) (.ref q_plan_seconds) (.ref q_plan_degrees) (.ref q_plan_colours) (.ref q_plan_needs) (.ref q_plan_numbers), aI Y q_plan_names 12 plan_names, aI Y q_plan_kinds 12 plan_kinds, aI Y q_plan_firsts 12 plan_firsts, aI Y q_plan_seconds 12 plan_seconds, aI Y q_plan_degrees 12 plan_degrees, aI Y q_plan_colours 12 plan_colours, aI Y q_plan_needs 12 plan_needs, aI Y q_plan_numbers 144 plan_numbers]) [8, 9, 10, 11, 12, 13, 0, 1, 2, 3, 4, 5, 6, 7] rfl rfl ?_
    obtain ⟨hz, h⟩ := h
    exact g_zret C hR hz (Nat.le_of_ble_eq_true rfl) (Nat.le_of_ble_eq_true rfl) dX5_readLine_69 ⟨rF_2, faulty_1, place_1, token_1, toldOnce_1, plan_bound_1, plan_modulus_1, plan_seed_1, plan_functions, plan_names, plan_kinds, plan_firsts, plan_seconds, plan_degrees, plan_colours, plan_needs, plan_numbers, rfl, rfl, h⟩
  · replace h := h.2 c_1
    by_cases c_2 : rF_1 = 11
    · replace h := h.1 c_2
      refine g_tabI (v := 11) (tgt := 64) C dX5_readLine_13 c_2 (by decide) (by decide) rfl (by decide) ?_
      refine g_aload_n C dX5_readLine_64 1 rfl ?_
      refine g_iload_n C dX5_readLine_65 0 rfl ?_
      obtain ⟨P_3, hP, h⟩ := h
      refine g_callV (As := [.int rF_1]) (rest := []) C (mX5_readSetting l D Y h0 q_tape lines faulty place q_plan token toldOnce tape_fed v_tape_bytes q_tape_sorts q_tape_starts q_tape_contents tape_length tape_tokens tape_at tape_sorts tape_contents tape_starts plan_bound plan_modulus plan_seed plan_functions (.ref q_plan_names) (.ref q_plan_kinds) (.ref q_plan_firsts) (.ref q_plan_seconds) (.ref q_plan_degrees) (.ref q_plan_colours) (.ref q_plan_needs) (.ref q_plan_numbers) rF_1 P_3 hP) dX5_readLine_66 rfl wM_X5_78 wI_X5_readSetting wV_X5_readSetting wN_X5 wC_X5_readSetting (n := 1) (by decide +kernel) rfl (q0 := 0) rfl rfl ⟨Nat.le_of_ble_eq_true rfl, Nat.le_of_ble_eq_true rfl⟩ ⟨Nat.le_of_ble_eq_true rfl, Nat.le_of_ble_eq_true rfl⟩ (Nat.le_of_ble_eq_true rfl) [0, 1, 2, 3, 4, 5] [6, 7, 8, 9, 10, 11, 12, 13] rfl rfl rfl (fun v wc hv => ?_)
      obtain ⟨rF_3, faulty_2, place_2, token_2, toldOnce_2, plan_bound_2, plan_modulus_2, plan_seed_2, rfl, rfl, hq⟩ := hv
      replace h := h rF_3 faulty_2 place_2 token_2 toldOnce_2 plan_bound_2 plan_modulus_2 plan_seed_2 hq
      refine gG.perm (ws' := [oX5 h0 (.ref q_tape) lines faulty_2 place_2 (.ref q_plan) token_2 toldOnce_2, oX9 q_tape tape_fed (v_tape_bytes) (.ref q_tape_sorts) (.ref q_tape_starts) (.ref q_tape_contents) tape_length tape_tokens tape_at, aI Y q_tape_sorts 701 tape_sorts, aI Y q_tape_contents 701 tape_contents, aI Y q_tape_starts 701 tape_starts, oX3 q_plan plan_bound_2 plan_modulus_2 plan_seed_2 plan_functions (.ref q_plan_names) (.ref q_plan_kinds) (.ref q_plan_firsts) (.ref q_plan_seconds) (.ref q_plan_degrees) (.ref q_plan_colours) (.ref q_plan_needs) (.ref q_plan_numbers), aI Y q_plan_names 12 plan_names, aI Y q_plan_kinds 12 plan_kinds, aI Y q_plan_firsts 12 plan_firsts, aI Y q_plan_seconds 12 plan_seconds, aI Y q_plan_degrees 12 plan_degrees, aI Y q_plan_colours 12 plan_colours, aI Y q_plan_needs 12 plan_needs, aI Y q_plan_numbers 144 plan_numbers]) [8, 9, 10, 11, 12, 13, 0, 1, 2, 3, 4, 5, 6, 7] rfl rfl ?_
      obtain ⟨hz, h⟩ := h
      exact g_zret C hR hz (Nat.le_of_ble_eq_true rfl) (Nat.le_of_ble_eq_true rfl) dX5_readLine_69 ⟨rF_3, faulty_2, place_2, token_2, toldOnce_2, plan_bound_2, plan_modulus_2, plan_seed_2, plan_functions, plan_names, plan_kinds, plan_firsts, plan_seconds, plan_degrees, plan_colours, plan_needs, plan_numbers, rfl, rfl, h⟩
    · replace h := h.2 c_2
      by_cases c_3 : rF_1 = 12
      · replace h := h.1 c_3
        refine g_tabI (v := 12) (tgt := 64) C dX5_readLine_13 c_3 (by decide) (by decide) rfl (by decide) ?_
        refine g_aload_n C dX5_readLine_64 1 rfl ?_
        refine g_iload_n C dX5_readLine_65 0 rfl ?_
        obtain ⟨P_4, hP, h⟩ := h
        refine g_callV (As := [.int rF_1]) (rest := []) C (mX5_readSetting l D Y h0 q_tape lines faulty place q_plan token toldOnce tape_fed v_tape_bytes q_tape_sorts q_tape_starts q_tape_contents tape_length tape_tokens tape_at tape_sorts tape_contents tape_starts plan_bound plan_modulus plan_seed plan_functions (.ref q_plan_names) (.ref q_plan_kinds) (.ref q_plan_firsts) (.ref q_plan_seconds) (.ref q_plan_degrees) (.ref q_plan_colours) (.ref q_plan_needs) (.ref q_plan_numbers) rF_1 P_4 hP) dX5_readLine_66 rfl wM_X5_78 wI_X5_readSetting wV_X5_readSetting wN_X5 wC_X5_readSetting (n := 1) (by decide +kernel) rfl (q0 := 0) rfl rfl ⟨Nat.le_of_ble_eq_true rfl, Nat.le_of_ble_eq_true rfl⟩ ⟨Nat.le_of_ble_eq_true rfl, Nat.le_of_ble_eq_true rfl⟩ (Nat.le_of_ble_eq_true rfl) [0, 1, 2, 3, 4, 5] [6, 7, 8, 9, 10, 11, 12, 13] rfl rfl rfl (fun v wc hv => ?_)
        obtain ⟨rF_4, faulty_3, place_3, token_3, toldOnce_3, plan_bound_3, plan_modulus_3, plan_seed_3, rfl, rfl, hq⟩ := hv
        replace h := h rF_4 faulty_3 place_3 token_3 toldOnce_3 plan_bound_3 plan_modulus_3 plan_seed_3 hq
        refine gG.perm (ws' := [oX5 h0 (.ref q_tape) lines faulty_3 place_3 (.ref q_plan) token_3 toldOnce_3, oX9 q_tape tape_fed (v_tape_bytes) (.ref q_tape_sorts) (.ref q_tape_starts) (.ref q_tape_contents) tape_length tape_tokens tape_at, aI Y q_tape_sorts 701 tape_sorts, aI Y q_tape_contents 701 tape_contents, aI Y q_tape_starts 701 tape_starts, oX3 q_plan plan_bound_3 plan_modulus_3 plan_seed_3 plan_functions (.ref q_plan_names) (.ref q_plan_kinds) (.ref q_plan_firsts) (.ref q_plan_seconds) (.ref q_plan_degrees) (.ref q_plan_colours) (.ref q_plan_needs) (.ref q_plan_numbers), aI Y q_plan_names 12 plan_names, aI Y q_plan_kinds 12 plan_kinds, aI Y q_plan_firsts 12 plan_firsts, aI Y q_plan_seconds 12 plan_seconds, aI Y q_plan_degrees 12 plan_degrees, aI Y q_plan_colours 12 plan_colours, aI Y q_plan_needs 12 plan_needs, aI Y q_plan_numbers 144 plan_numbers]) [8, 9, 10, 11, 12, 13, 0, 1, 2, 3, 4, 5, 6, 7] rfl rfl ?_
        obtain ⟨hz, h⟩ := h
        exact g_zret C hR hz (Nat.le_of_ble_eq_true rfl) (Nat.le_of_ble_eq_true rfl) dX5_readLine_69 ⟨rF_4, faulty_3, place_3, token_3, toldOnce_3, plan_bound_3, plan_modulus_3, plan_seed_3, plan_functions, plan_names, plan_kinds, plan_firsts, plan_seconds, plan_degrees, plan_colours, plan_needs, plan_numbers, rfl, rfl, h⟩
      · replace h := h.2 c_3
        by_cases c_4 : rF_1 = 13
        · replace h := h.1 c_4
          refine g_tabI (v := 13) (tgt := 70) C dX5_readLine_13 c_4 (by decide) (by decide) rfl (by decide) ?_
          refine g_aload_n C dX5_readLine_70 1 rfl ?_
          obtain ⟨P_5, hP, h⟩ := h
          refine g_callV (As := []) (rest := []) C (mX5_readOwn l D Y h0 q_tape lines faulty place q_plan token toldOnce plan_bound plan_modulus plan_seed plan_functions q_plan_names q_plan_kinds q_plan_firsts q_plan_seconds q_plan_degrees q_plan_colours q_plan_needs (.ref q_plan_numbers) tape_fed v_tape_bytes q_tape_sorts q_tape_starts q_tape_contents tape_length tape_tokens tape_at tape_sorts tape_contents plan_names tape_starts plan_kinds plan_firsts plan_seconds plan_degrees plan_colours plan_needs P_5 hP) dX5_readLine_71 rfl wM_X5_81 wI_X5_readOwn wV_X5_readOwn wN_X5 wC_X5_readOwn (n := 0) (by decide +kernel) rfl (q0 := 0) rfl rfl ⟨Nat.le_of_ble_eq_true rfl, Nat.le_of_ble_eq_true rfl⟩ ⟨Nat.le_of_ble_eq_true rfl, Nat.le_of_ble_eq_true rfl⟩ (Nat.le_of_ble_eq_true rfl) [0, 5, 1, 2, 3, 6, 4, 7, 8, 9, 10, 11, 12] [13] rfl rfl rfl (fun v wc hv => ?_)
          obtain ⟨rF_5, faulty_4, place_4, token_4, plan_functions_1, plan_names_1, plan_kinds_1, plan_firsts_1, plan_seconds_1, plan_degrees_1, plan_colours_1, plan_needs_1, rfl, rfl, hq⟩ := hv
          replace h := h rF_5 faulty_4 place_4 token_4 plan_functions_1 plan_names_1 plan_kinds_1 plan_firsts_1 plan_seconds_1 plan_degrees_1 plan_colours_1 plan_needs_1 hq
          refine gG.perm (ws' := [oX5 h0 (.ref q_tape) lines faulty_4 place_4 (.ref q_plan) token_4 toldOnce, oX9 q_tape tape_fed (v_tape_bytes) (.ref q_tape_sorts) (.ref q_tape_starts) (.ref q_tape_contents) tape_length tape_tokens tape_at, aI Y q_tape_sorts 701 tape_sorts, aI Y q_tape_contents 701 tape_contents, aI Y q_tape_starts 701 tape_starts, oX3 q_plan plan_bound plan_modulus plan_seed plan_functions_1 (.ref q_plan_names) (.ref q_plan_kinds) (.ref q_plan_firsts) (.ref q_plan_seconds) (.ref q_plan_degrees) (.ref q_plan_colours) (.ref q_plan_needs) (.ref q_plan_numbers), aI Y q_plan_names 12 plan_names_1, aI Y q_plan_kinds 12 plan_kinds_1, aI Y q_plan_firsts 12 plan_firsts_1, aI Y q_plan_seconds 12 plan_seconds_1, aI Y q_plan_degrees 12 plan_degrees_1, aI Y q_plan_colours 12 plan_colours_1, aI Y q_plan_needs 12 plan_needs_1, aI Y q_plan_numbers 144 plan_numbers]) [1, 3, 4, 5, 7, 2, 6, 8, 9, 10, 11, 12, 13, 0] rfl rfl ?_
          obtain ⟨hz, h⟩ := h
          exact g_zret C hR hz (Nat.le_of_ble_eq_true rfl) (Nat.le_of_ble_eq_true rfl) dX5_readLine_74 ⟨rF_5, faulty_4, place_4, token_4, toldOnce, plan_bound, plan_modulus, plan_seed, plan_functions_1, plan_names_1, plan_kinds_1, plan_firsts_1, plan_seconds_1, plan_degrees_1, plan_colours_1, plan_needs_1, plan_numbers, rfl, rfl, h⟩
        · replace h := h.2 c_4
          by_cases c_5 : rF_1 = 14
          · replace h := h.1 c_5
            refine g_tabI (v := 14) (tgt := 75) C dX5_readLine_13 c_5 (by decide) (by decide) rfl (by decide) ?_
            refine g_aload_n C dX5_readLine_75 1 rfl ?_
            obtain ⟨P_6, hP, h⟩ := h
            refine g_callV (As := []) (rest := []) C (mX5_readAt l D Y h0 q_tape lines faulty place q_plan token toldOnce tape_fed v_tape_bytes q_tape_sorts q_tape_starts q_tape_contents tape_length tape_tokens tape_at tape_sorts tape_contents plan_bound plan_modulus plan_seed plan_functions q_plan_names q_plan_kinds (.ref q_plan_firsts) (.ref q_plan_seconds) (.ref q_plan_degrees) (.ref q_plan_colours) (.ref q_plan_needs) q_plan_numbers plan_names tape_starts plan_kinds plan_numbers P_6 hP) dX5_readLine_76 rfl wM_X5_84 wI_X5_readAt wV_X5_readAt wN_X5 wC_X5_readAt (n := 0) (by decide +kernel) rfl (q0 := 0) rfl rfl ⟨Nat.le_of_ble_eq_true rfl, Nat.le_of_ble_eq_true rfl⟩ ⟨Nat.le_of_ble_eq_true rfl, Nat.le_of_ble_eq_true rfl⟩ (Nat.le_of_ble_eq_true rfl) [0, 1, 2, 3, 5, 6, 4, 7, 13] [8, 9, 10, 11, 12] rfl rfl rfl (fun v wc hv => ?_)
            obtain ⟨rF_6, faulty_5, place_5, token_5, plan_numbers_1, rfl, rfl, hq⟩ := hv
            replace h := h rF_6 faulty_5 place_5 token_5 plan_numbers_1 hq
            refine gG.perm (ws' := [oX5 h0 (.ref q_tape) lines faulty_5 place_5 (.ref q_plan) token_5 toldOnce, oX9 q_tape tape_fed (v_tape_bytes) (.ref q_tape_sorts) (.ref q_tape_starts) (.ref q_tape_contents) tape_length tape_tokens tape_at, aI Y q_tape_sorts 701 tape_sorts, aI Y q_tape_contents 701 tape_contents, aI Y q_tape_starts 701 tape_starts, oX3 q_plan plan_bound plan_modulus plan_seed plan_functions (.ref q_plan_names) (.ref q_plan_kinds) (.ref q_plan_firsts) (.ref q_plan_seconds) (.ref q_plan_degrees) (.ref q_plan_colours) (.ref q_plan_needs) (.ref q_plan_numbers), aI Y q_plan_names 12 plan_names, aI Y q_plan_kinds 12 plan_kinds, aI Y q_plan_firsts 12 plan_firsts, aI Y q_plan_seconds 12 plan_seconds, aI Y q_plan_degrees 12 plan_degrees, aI Y q_plan_colours 12 plan_colours, aI Y q_plan_needs 12 plan_needs, aI Y q_plan_numbers 144 plan_numbers_1]) [5, 6, 7, 8, 11, 9, 10, 12, 0, 1, 2, 3, 4, 13] rfl rfl ?_
            obtain ⟨hz, h⟩ := h
            exact g_zret C hR hz (Nat.le_of_ble_eq_true rfl) (Nat.le_of_ble_eq_true rfl) dX5_readLine_79 ⟨rF_6, faulty_5, place_5, token_5, toldOnce, plan_bound, plan_modulus, plan_seed, plan_functions, plan_names, plan_kinds, plan_firsts, plan_seconds, plan_degrees, plan_colours, plan_needs, plan_numbers_1, rfl, rfl, h⟩
          · replace h := h.2 c_5
            by_cases c_6 : rF_1 = 15
            · replace h := h.1 c_6
              refine g_tabI (v := 15) (tgt := 80) C dX5_readLine_13 c_6 (by decide) (by decide) rfl (by decide) ?_
              refine g_aload_n C dX5_readLine_80 1 rfl ?_
              refine g_iload_n C dX5_readLine_81 0 rfl ?_
              obtain ⟨P_7, hP, h⟩ := h
              refine g_callV (As := [.int rF_1]) (rest := []) C (mX5_readPair l D Y h0 q_tape lines faulty place q_plan token toldOnce plan_bound plan_modulus plan_seed plan_functions q_plan_names q_plan_kinds q_plan_firsts q_plan_seconds q_plan_degrees q_plan_colours q_plan_needs (.ref q_plan_numbers) tape_fed v_tape_bytes q_tape_sorts q_tape_starts q_tape_contents tape_length tape_tokens tape_at tape_sorts tape_contents plan_names tape_starts plan_degrees plan_colours plan_kinds plan_firsts plan_seconds plan_needs rF_1 P_7 hP) dX5_readLine_82 rfl wM_X5_87 wI_X5_readPair wV_X5_readPair wN_X5 wC_X5_readPair (n := 1) (by decide +kernel) rfl (q0 := 0) rfl rfl ⟨Nat.le_of_ble_eq_true rfl, Nat.le_of_ble_eq_true rfl⟩ ⟨Nat.le_of_ble_eq_true rfl, Nat.le_of_ble_eq_true rfl⟩ (Nat.le_of_ble_eq_true rfl) [0, 5, 1, 2, 3, 6, 4, 10, 11, 7, 8, 9, 12] [13] rfl rfl rfl (fun v wc hv => ?_)
              obtain ⟨rF_7, faulty_6, place_6, token_6, plan_functions_2, plan_names_2, plan_degrees_2, plan_colours_2, plan_kinds_2, plan_firsts_2, plan_seconds_2, plan_needs_2, rfl, rfl, hq⟩ := hv
              replace h := h rF_7 faulty_6 place_6 token_6 plan_functions_2 plan_names_2 plan_degrees_2 plan_colours_2 plan_kinds_2 plan_firsts_2 plan_seconds_2 plan_needs_2 hq
              refine gG.perm (ws' := [oX5 h0 (.ref q_tape) lines faulty_6 place_6 (.ref q_plan) token_6 toldOnce, oX9 q_tape tape_fed (v_tape_bytes) (.ref q_tape_sorts) (.ref q_tape_starts) (.ref q_tape_contents) tape_length tape_tokens tape_at, aI Y q_tape_sorts 701 tape_sorts, aI Y q_tape_contents 701 tape_contents, aI Y q_tape_starts 701 tape_starts, oX3 q_plan plan_bound plan_modulus plan_seed plan_functions_2 (.ref q_plan_names) (.ref q_plan_kinds) (.ref q_plan_firsts) (.ref q_plan_seconds) (.ref q_plan_degrees) (.ref q_plan_colours) (.ref q_plan_needs) (.ref q_plan_numbers), aI Y q_plan_names 12 plan_names_2, aI Y q_plan_kinds 12 plan_kinds_2, aI Y q_plan_firsts 12 plan_firsts_2, aI Y q_plan_seconds 12 plan_seconds_2, aI Y q_plan_degrees 12 plan_degrees_2, aI Y q_plan_colours 12 plan_colours_2, aI Y q_plan_needs 12 plan_needs_2, aI Y q_plan_numbers 144 plan_numbers]) [1, 3, 4, 5, 7, 2, 6, 10, 11, 12, 8, 9, 13, 0] rfl rfl ?_
              obtain ⟨hz, h⟩ := h
              exact g_zret C hR hz (Nat.le_of_ble_eq_true rfl) (Nat.le_of_ble_eq_true rfl) dX5_readLine_85 ⟨rF_7, faulty_6, place_6, token_6, toldOnce, plan_bound, plan_modulus, plan_seed, plan_functions_2, plan_names_2, plan_kinds_2, plan_firsts_2, plan_seconds_2, plan_degrees_2, plan_colours_2, plan_needs_2, plan_numbers, rfl, rfl, h⟩
            · replace h := h.2 c_6
              by_cases c_7 : rF_1 = 16
              · replace h := h.1 c_7
                refine g_tabI (v := 16) (tgt := 86) C dX5_readLine_13 c_7 (by decide) (by decide) rfl (by decide) ?_
                refine g_aload_n C dX5_readLine_86 1 rfl ?_
                obtain ⟨P_8, hP, h⟩ := h
                refine g_callV (As := []) (rest := []) C (mX5_readOver l D Y h0 q_tape lines faulty place q_plan token toldOnce plan_bound plan_modulus plan_seed plan_functions q_plan_names q_plan_kinds q_plan_firsts q_plan_seconds q_plan_degrees q_plan_colours q_plan_needs (.ref q_plan_numbers) tape_fed v_tape_bytes q_tape_sorts q_tape_starts q_tape_contents tape_length tape_tokens tape_at tape_sorts tape_contents plan_names tape_starts plan_kinds plan_firsts plan_seconds plan_degrees plan_colours plan_needs P_8 hP) dX5_readLine_87 rfl wM_X5_90 wI_X5_readOver wV_X5_readOver wN_X5 wC_X5_readOver (n := 0) (by decide +kernel) rfl (q0 := 0) rfl rfl ⟨Nat.le_of_ble_eq_true rfl, Nat.le_of_ble_eq_true rfl⟩ ⟨Nat.le_of_ble_eq_true rfl, Nat.le_of_ble_eq_true rfl⟩ (Nat.le_of_ble_eq_true rfl) [0, 5, 1, 2, 3, 6, 4, 7, 8, 9, 10, 11, 12] [13] rfl rfl rfl (fun v wc hv => ?_)
                obtain ⟨rF_8, faulty_7, place_7, token_7, plan_functions_3, plan_names_3, plan_kinds_3, plan_firsts_3, plan_seconds_3, plan_degrees_3, plan_colours_3, plan_needs_3, rfl, rfl, hq⟩ := hv
                replace h := h rF_8 faulty_7 place_7 token_7 plan_functions_3 plan_names_3 plan_kinds_3 plan_firsts_3 plan_seconds_3 plan_degrees_3 plan_colours_3 plan_needs_3 hq
                refine gG.perm (ws' := [oX5 h0 (.ref q_tape) lines faulty_7 place_7 (.ref q_plan) token_7 toldOnce, oX9 q_tape tape_fed (v_tape_bytes) (.ref q_tape_sorts) (.ref q_tape_starts) (.ref q_tape_contents) tape_length tape_tokens tape_at, aI Y q_tape_sorts 701 tape_sorts, aI Y q_tape_contents 701 tape_contents, aI Y q_tape_starts 701 tape_starts, oX3 q_plan plan_bound plan_modulus plan_seed plan_functions_3 (.ref q_plan_names) (.ref q_plan_kinds) (.ref q_plan_firsts) (.ref q_plan_seconds) (.ref q_plan_degrees) (.ref q_plan_colours) (.ref q_plan_needs) (.ref q_plan_numbers), aI Y q_plan_names 12 plan_names_3, aI Y q_plan_kinds 12 plan_kinds_3, aI Y q_plan_firsts 12 plan_firsts_3, aI Y q_plan_seconds 12 plan_seconds_3, aI Y q_plan_degrees 12 plan_degrees_3, aI Y q_plan_colours 12 plan_colours_3, aI Y q_plan_needs 12 plan_needs_3, aI Y q_plan_numbers 144 plan_numbers]) [1, 3, 4, 5, 7, 2, 6, 8, 9, 10, 11, 12, 13, 0] rfl rfl ?_
                obtain ⟨hz, h⟩ := h
                exact g_zret C hR hz (Nat.le_of_ble_eq_true rfl) (Nat.le_of_ble_eq_true rfl) dX5_readLine_90 ⟨rF_8, faulty_7, place_7, token_7, toldOnce, plan_bound, plan_modulus, plan_seed, plan_functions_3, plan_names_3, plan_kinds_3, plan_firsts_3, plan_seconds_3, plan_degrees_3, plan_colours_3, plan_needs_3, plan_numbers, rfl, rfl, h⟩
              · replace h := h.2 c_7
                by_cases c_8 : rF_1 = 17
                · replace h := h.1 c_8
                  refine g_tabI (v := 17) (tgt := 80) C dX5_readLine_13 c_8 (by decide) (by decide) rfl (by decide) ?_
                  refine g_aload_n C dX5_readLine_80 1 rfl ?_
                  refine g_iload_n C dX5_readLine_81 0 rfl ?_
                  obtain ⟨P_9, hP, h⟩ := h
                  refine g_callV (As := [.int rF_1]) (rest := []) C (mX5_readPair l D Y h0 q_tape lines faulty place q_plan token toldOnce plan_bound plan_modulus plan_seed plan_functions q_plan_names q_plan_kinds q_plan_firsts q_plan_seconds q_plan_degrees q_plan_colours q_plan_needs (.ref q_plan_numbers) tape_fed v_tape_bytes q_tape_sorts q_tape_starts q_tape_contents tape_length tape_tokens tape_at tape_sorts tape_contents plan_names tape_starts plan_degrees plan_colours plan_kinds plan_firsts plan_seconds plan_needs rF_1 P_9 hP) dX5_readLine_82 rfl wM_X5_87 wI_X5_readPair wV_X5_readPair wN_X5 wC_X5_readPair (n := 1) (by decide +kernel) rfl (q0 := 0) rfl rfl ⟨Nat.le_of_ble_eq_true rfl, Nat.le_of_ble_eq_true rfl⟩ ⟨Nat.le_of_ble_eq_true rfl, Nat.le_of_ble_eq_true rfl⟩ (Nat.le_of_ble_eq_true rfl) [0, 5, 1, 2, 3, 6, 4, 10, 11, 7, 8, 9, 12] [13] rfl rfl rfl (fun v wc hv => ?_)
                  obtain ⟨rF_9, faulty_8, place_8, token_8, plan_functions_4, plan_names_4, plan_degrees_4, plan_colours_4, plan_kinds_4, plan_firsts_4, plan_seconds_4, plan_needs_4, rfl, rfl, hq⟩ := hv
                  replace h := h rF_9 faulty_8 place_8 token_8 plan_functions_4 plan_names_4 plan_degrees_4 plan_colours_4 plan_kinds_4 plan_firsts_4 plan_seconds_4 plan_needs_4 hq
                  refine gG.perm (ws' := [oX5 h0 (.ref q_tape) lines faulty_8 place_8 (.ref q_plan) token_8 toldOnce, oX9 q_tape tape_fed (v_tape_bytes) (.ref q_tape_sorts) (.ref q_tape_starts) (.ref q_tape_contents) tape_length tape_tokens tape_at, aI Y q_tape_sorts 701 tape_sorts, aI Y q_tape_contents 701 tape_contents, aI Y q_tape_starts 701 tape_starts, oX3 q_plan plan_bound plan_modulus plan_seed plan_functions_4 (.ref q_plan_names) (.ref q_plan_kinds) (.ref q_plan_firsts) (.ref q_plan_seconds) (.ref q_plan_degrees) (.ref q_plan_colours) (.ref q_plan_needs) (.ref q_plan_numbers), aI Y q_plan_names 12 plan_names_4, aI Y q_plan_kinds 12 plan_kinds_4, aI Y q_plan_firsts 12 plan_firsts_4, aI Y q_plan_seconds 12 plan_seconds_4, aI Y q_plan_degrees 12 plan_degrees_4, aI Y q_plan_colours 12 plan_colours_4, aI Y q_plan_needs 12 plan_needs_4, aI Y q_plan_numbers 144 plan_numbers]) [1, 3, 4, 5, 7, 2, 6, 10, 11, 12, 8, 9, 13, 0] rfl rfl ?_
                  obtain ⟨hz, h⟩ := h
                  exact g_zret C hR hz (Nat.le_of_ble_eq_true rfl) (Nat.le_of_ble_eq_true rfl) dX5_readLine_85 ⟨rF_9, faulty_8, place_8, token_8, toldOnce, plan_bound, plan_modulus, plan_seed, plan_functions_4, plan_names_4, plan_kinds_4, plan_firsts_4, plan_seconds_4, plan_degrees_4, plan_colours_4, plan_needs_4, plan_numbers, rfl, rfl, h⟩
                · replace h := h.2 c_8
                  by_cases c_9 : rF_1 = 18
                  · replace h := h.1 c_9
                    refine g_tabI (v := 18) (tgt := 91) C dX5_readLine_13 c_9 (by decide) (by decide) rfl (by decide) ?_
                    refine g_aload_n C dX5_readLine_91 1 rfl ?_
                    obtain ⟨P_10, hP, h⟩ := h
                    refine g_callV (As := []) (rest := []) C (mX5_readTwist l D Y h0 q_tape lines faulty place q_plan token toldOnce plan_bound plan_modulus plan_seed plan_functions q_plan_names q_plan_kinds q_plan_firsts q_plan_seconds q_plan_degrees q_plan_colours q_plan_needs (.ref q_plan_numbers) tape_fed v_tape_bytes q_tape_sorts q_tape_starts q_tape_contents tape_length tape_tokens tape_at tape_sorts tape_contents plan_names tape_starts plan_colours plan_kinds plan_firsts plan_seconds plan_degrees plan_needs P_10 hP) dX5_readLine_92 rfl wM_X5_93 wI_X5_readTwist wV_X5_readTwist wN_X5 wC_X5_readTwist (n := 0) (by decide +kernel) rfl (q0 := 0) rfl rfl ⟨Nat.le_of_ble_eq_true rfl, Nat.le_of_ble_eq_true rfl⟩ ⟨Nat.le_of_ble_eq_true rfl, Nat.le_of_ble_eq_true rfl⟩ (Nat.le_of_ble_eq_true rfl) [0, 5, 1, 2, 3, 6, 4, 11, 7, 8, 9, 10, 12] [13] rfl rfl rfl (fun v wc hv => ?_)
                    obtain ⟨rF_10, faulty_9, place_9, token_9, plan_functions_5, plan_names_5, plan_colours_5, plan_kinds_5, plan_firsts_5, plan_seconds_5, plan_degrees_5, plan_needs_5, rfl, rfl, hq⟩ := hv
                    replace h := h rF_10 faulty_9 place_9 token_9 plan_functions_5 plan_names_5 plan_colours_5 plan_kinds_5 plan_firsts_5 plan_seconds_5 plan_degrees_5 plan_needs_5 hq
                    refine gG.perm (ws' := [oX5 h0 (.ref q_tape) lines faulty_9 place_9 (.ref q_plan) token_9 toldOnce, oX9 q_tape tape_fed (v_tape_bytes) (.ref q_tape_sorts) (.ref q_tape_starts) (.ref q_tape_contents) tape_length tape_tokens tape_at, aI Y q_tape_sorts 701 tape_sorts, aI Y q_tape_contents 701 tape_contents, aI Y q_tape_starts 701 tape_starts, oX3 q_plan plan_bound plan_modulus plan_seed plan_functions_5 (.ref q_plan_names) (.ref q_plan_kinds) (.ref q_plan_firsts) (.ref q_plan_seconds) (.ref q_plan_degrees) (.ref q_plan_colours) (.ref q_plan_needs) (.ref q_plan_numbers), aI Y q_plan_names 12 plan_names_5, aI Y q_plan_kinds 12 plan_kinds_5, aI Y q_plan_firsts 12 plan_firsts_5, aI Y q_plan_seconds 12 plan_seconds_5, aI Y q_plan_degrees 12 plan_degrees_5, aI Y q_plan_colours 12 plan_colours_5, aI Y q_plan_needs 12 plan_needs_5, aI Y q_plan_numbers 144 plan_numbers]) [1, 3, 4, 5, 7, 2, 6, 9, 10, 11, 12, 8, 13, 0] rfl rfl ?_
                    obtain ⟨hz, h⟩ := h
                    exact g_zret C hR hz (Nat.le_of_ble_eq_true rfl) (Nat.le_of_ble_eq_true rfl) dX5_readLine_95 ⟨rF_10, faulty_9, place_9, token_9, toldOnce, plan_bound, plan_modulus, plan_seed, plan_functions_5, plan_names_5, plan_kinds_5, plan_firsts_5, plan_seconds_5, plan_degrees_5, plan_colours_5, plan_needs_5, plan_numbers, rfl, rfl, h⟩
                  · replace h := h.2 c_9
                    refine g_tabO (tgt := 96) C dX5_readLine_13 [10, 11, 12, 13, 14, 15, 16, 17, 18] (by decide) (by exact ⟨c_1, c_2, c_3, c_4, c_5, c_6, c_7, c_8, c_9, trivial⟩) (by decide) ?_
                    refine g_aload_n C dX5_readLine_96 1 rfl ?_
                    refine g_iconst (v := 1) C dX5_readLine_97 rfl ?_
                    obtain ⟨P_11, hP, h⟩ := h
                    refine g_callV (As := [.int 1]) (rest := []) C (mX5_refuse l D Y h0 q_tape lines faulty place (.ref q_plan) token toldOnce tape_fed v_tape_bytes (.ref q_tape_sorts) q_tape_starts (.ref q_tape_contents) tape_length tape_tokens tape_at tape_starts 1 P_11 hP) dX5_readLine_98 rfl wM_X5_62 wI_X5_refuse wV_X5_refuse wN_X5 wC_X5_refuse (n := 1) (by decide +kernel) rfl (q0 := 0) rfl rfl ⟨Nat.le_of_ble_eq_true rfl, Nat.le_of_ble_eq_true rfl⟩ ⟨Nat.le_of_ble_eq_true rfl, Nat.le_of_ble_eq_true rfl⟩ (Nat.le_of_ble_eq_true rfl) [0, 1, 4] [2, 3, 5, 6, 7, 8, 9, 10, 11, 12, 13] rfl rfl rfl (fun v wc hv => ?_)
                    obtain ⟨rF_11, faulty_10, place_10, rfl, rfl, hq⟩ := hv
                    replace h := h rF_11 faulty_10 place_10 hq
                    refine gG.perm (ws' := [oX5 h0 (.ref q_tape) lines faulty_10 place_10 (.ref q_plan) token toldOnce, oX9 q_tape tape_fed (v_tape_bytes) (.ref q_tape_sorts) (.ref q_tape_starts) (.ref q_tape_contents) tape_length tape_tokens tape_at, aI Y q_tape_sorts 701 tape_sorts, aI Y q_tape_contents 701 tape_contents, aI Y q_tape_starts 701 tape_starts, oX3 q_plan plan_bound plan_modulus plan_seed plan_functions (.ref q_plan_names) (.ref q_plan_kinds) (.ref q_plan_firsts) (.ref q_plan_seconds) (.ref q_plan_degrees) (.ref q_plan_colours) (.ref q_plan_needs) (.ref q_plan_numbers), aI Y q_plan_names 12 plan_names, aI Y q_plan_kinds 12 plan_kinds, aI Y q_plan_firsts 12 plan_firsts, aI Y q_plan_seconds 12 plan_seconds, aI Y q_plan_degrees 12 plan_degrees, aI Y q_plan_colours 12 plan_colours, aI Y q_plan_needs 12 plan_needs, aI Y q_plan_numbers 144 plan_numbers]) [11, 12, 0, 1, 13, 2, 3, 4, 5, 6, 7, 8, 9, 10] rfl rfl ?_
                    obtain ⟨hz, h⟩ := h
                    exact g_zret C hR hz (Nat.le_of_ble_eq_true rfl) (Nat.le_of_ble_eq_true rfl) dX5_readLine_101 ⟨rF_11, faulty_10, place_10, token, toldOnce, plan_bound, plan_modulus, plan_seed, plan_functions, plan_names, plan_kinds, plan_firsts, plan_seconds, plan_degrees, plan_colours, plan_needs, plan_numbers, rfl, rfl, h⟩
theorem dX5_takeStop_0 : decode cX5_takeStop 0 = .ok (.aload_n 0, 1) := by decide +kernel
theorem dX5_takeStop_1 : decode cX5_takeStop 1 = .ok (.dup, 1) := by decide +kernel
theorem dX5_takeStop_2 : decode cX5_takeStop 2 = .ok (.getfield 36, 3) := by decide +kernel
theorem dX5_takeStop_5 : decode cX5_takeStop 5 = .ok (.iconst 1, 1) := by decide +kernel
theorem dX5_takeStop_6 : decode cX5_takeStop 6 = .ok (.iadd, 1) := by decide +kernel
theorem dX5_takeStop_7 : decode cX5_takeStop 7 = .ok (.putfield 36, 3) := by decide +kernel
theorem dX5_takeStop_10 : decode cX5_takeStop 10 = .ok (.aload_n 0, 1) := by decide +kernel
theorem dX5_takeStop_11 : decode cX5_takeStop 11 = .ok (.getfield 12, 3) := by decide +kernel
theorem dX5_takeStop_14 : decode cX5_takeStop 14 = .ok (.aload_n 0, 1) := by decide +kernel
theorem dX5_takeStop_15 : decode cX5_takeStop 15 = .ok (.getfield 36, 3) := by decide +kernel
theorem dX5_takeStop_18 : decode cX5_takeStop 18 = .ok (.invokevirtual 48, 3) := by decide +kernel
theorem dX5_takeStop_21 : decode cX5_takeStop 21 = .ok (.iconst 1, 1) := by decide +kernel
theorem dX5_takeStop_22 : decode cX5_takeStop 22 = .ok (.if_icmp .eq 11, 3) := by decide +kernel
theorem dX5_takeStop_25 : decode cX5_takeStop 25 = .ok (.aload_n 0, 1) := by decide +kernel
theorem dX5_takeStop_26 : decode cX5_takeStop 26 = .ok (.iconst 1, 1) := by decide +kernel
theorem dX5_takeStop_27 : decode cX5_takeStop 27 = .ok (.invokevirtual 62, 3) := by decide +kernel
theorem dX5_takeStop_30 : decode cX5_takeStop 30 = .ok (.ifCond .eq 7, 3) := by decide +kernel
theorem dX5_takeStop_33 : decode cX5_takeStop 33 = .ok (.iconst 1, 1) := by decide +kernel
theorem dX5_takeStop_34 : decode cX5_takeStop 34 = .ok (.goto 4, 3) := by decide +kernel
theorem dX5_takeStop_37 : decode cX5_takeStop 37 = .ok (.iconst 0, 1) := by decide +kernel
theorem dX5_takeStop_38 : decode cX5_takeStop 38 = .ok (.ireturn, 1) := by decide +kernel
/-- QuotientSums$Reader.takeStop()Z -/
def wX5_takeStop (lines : Int32) (faulty : Int32) (place : Int32) (token : Int32) (toldOnce : Int32) (tape_fed : Int32) (tape_length : Int32) (tape_tokens : Int32) (tape_at : Int32) (tape_sorts : Nat → Int32) (tape_starts : Nat → Int32)  (Q : (Int32) → (Int32) → (Int32) → (Int32) → Prop) : Prop :=
  (∀ token_1 : Int32, token_1 = token + 1 → ∃ (P_1 : (Int32) → Prop), wX9_sortOf tape_fed tape_length tape_tokens tape_at tape_sorts token_1 P_1 ∧ ∀ (rF_1 : Int32), P_1 rF_1 → ((rF_1 = 1 → (Q 1 faulty place token_1)) ∧ (¬ rF_1 = 1 → (∃ (P_2 : (Int32) → (Int32) → (Int32) → Prop), wX5_refuse lines faulty place token_1 toldOnce tape_fed tape_length tape_tokens tape_at tape_starts 1 P_2 ∧ ∀ (rF_2 : Int32) (faulty_1 : Int32) (place_1 : Int32), P_2 rF_2 faulty_1 place_1 → ((rF_2 = 0 → (Q 0 faulty_1 place_1 token_1)) ∧ (¬ rF_2 = 0 → (Q 1 faulty_1 place_1 token_1)))))))
set_option maxHeartbeats 4000000 in
set_option maxRecDepth 100000 in
theorem mX5_takeStop (l : Launch) (D : va_G) (Y : Nat → ClassId) (h0 : Nat) (q_tape : Nat) (lines : Int32) (faulty : Int32) (place : Int32) (v_plan : Value) (token : Int32) (toldOnce : Int32) (tape_fed : Int32) (v_tape_bytes : Value) (q_tape_sorts : Nat) (q_tape_starts : Nat) (v_tape_contents : Value) (tape_length : Int32) (tape_tokens : Int32) (tape_at : Int32) (tape_sorts : Nat → Int32) (tape_starts : Nat → Int32)  (Q : (Int32) → (Int32) → (Int32) → (Int32) → Prop) (h : wX5_takeStop lines faulty place token toldOnce tape_fed tape_length tape_tokens tape_at tape_sorts tape_starts Q) : gM l D Y yX5_takeStop cX5_takeStop 1 (some .boolean) 2 42 0 0 [.ref h0] [oX5 h0 (.ref q_tape) lines faulty place (v_plan) token toldOnce, oX9 q_tape tape_fed (v_tape_bytes) (.ref q_tape_sorts) (.ref q_tape_starts) (v_tape_contents) tape_length tape_tokens tape_at, aI Y q_tape_sorts 701 tape_sorts, aI Y q_tape_starts 701 tape_starts] (fun v w => ∃ r : Int32, ∃ faulty' : Int32, ∃ place' : Int32, ∃ token' : Int32, v = some (.int r) ∧ w = [oX5 h0 (.ref q_tape) lines faulty' place' (v_plan) token' toldOnce, oX9 q_tape tape_fed (v_tape_bytes) (.ref q_tape_sorts) (.ref q_tape_starts) (v_tape_contents) tape_length tape_tokens tape_at, aI Y q_tape_sorts 701 tape_sorts, aI Y q_tape_starts 701 tape_starts] ∧ Q r faulty' place' token') := by
  refine gM_of (own := RX5) (by decide +kernel) rfl (Nat.le_of_ble_eq_true rfl) rfl (fun E C hR => ?_)
  unfold wX5_takeStop at h
  refine g_aload_n C dX5_takeStop_0 0 rfl ?_
  refine g_dup C dX5_takeStop_1 rfl ?_
  refine g_get C inX5 0 rfl rfl 5 (by decide) wF_X5_36 rfl dX5_takeStop_2 ?_
  refine g_iconst (v := 1) C dX5_takeStop_5 rfl ?_
  refine g_iadd C dX5_takeStop_6 ?_
  refine g_topi (fun token_1 etoken_1 => ?_)
  replace h := h token_1 etoken_1
  refine g_put C inX5 tyX5 tyX5_ok nmX5 0 rfl rfl 5 (by decide) wF_X5_36 rfl rfl rfl (Nat.le_of_ble_eq_true rfl) (ws' := [oX5 h0 (.ref q_tape) lines faulty place (v_plan) token_1 toldOnce, oX9 q_tape tape_fed (v_tape_bytes) (.ref q_tape_sorts) (.ref q_tape_starts) (v_tape_contents) tape_length tape_tokens tape_at, aI Y q_tape_sorts 701 tape_sorts, aI Y q_tape_starts 701 tape_starts]) rfl dX5_takeStop_7 ?_
  refine g_aload_n C dX5_takeStop_10 0 rfl ?_
  refine g_get C inX5 0 rfl rfl 0 (by decide) wF_X5_12 rfl dX5_takeStop_11 ?_
  refine g_aload_n C dX5_takeStop_14 0 rfl ?_
  refine g_get C inX5 0 rfl rfl 5 (by decide) wF_X5_36 rfl dX5_takeStop_15 ?_
  obtain ⟨P_1, hP, h⟩ := h
  refine g_callV (As := [.int token_1]) (rest := []) C (mX9_sortOf l D Y q_tape tape_fed v_tape_bytes q_tape_sorts (.ref q_tape_starts) v_tape_contents tape_length tape_tokens tape_at tape_sorts token_1 P_1 hP) dX5_takeStop_18 rfl wM_X5_48 wI_X9_sortOf wV_X9_sortOf wN_X9 wC_X9_sortOf (n := 1) (by decide +kernel) rfl (q0 := 0) rfl rfl ⟨Nat.le_of_ble_eq_true rfl, Nat.le_of_ble_eq_true rfl⟩ ⟨Nat.le_of_ble_eq_true rfl, Nat.le_of_ble_eq_true rfl⟩ (Nat.le_of_ble_eq_true rfl) [1, 2] [0, 3] rfl rfl rfl (fun v wc hv => ?_)
  obtain ⟨rF_1, rfl, rfl, hq⟩ := hv
  replace h := h rF_1 hq
  refine gG.perm (ws' := [oX5 h0 (.ref q_tape) lines faulty place (v_plan) token_1 toldOnce, oX9 q_tape tape_fed (v_tape_bytes) (.ref q_tape_sorts) (.ref q_tape_starts) (v_tape_contents) tape_length tape_tokens tape_at, aI Y q_tape_sorts 701 tape_sorts, aI Y q_tape_starts 701 tape_starts]) [0, 2, 3, 1] rfl rfl ?_
  refine g_iconst (v := 1) C dX5_takeStop_21 rfl ?_
  refine g_icmp_eq (tgt := 33) C dX5_takeStop_22 (by decide) (fun c_1 => ?_) (fun c_1 => ?_)
  · replace h := h.1 c_1
    refine g_iconst (v := 1) C dX5_takeStop_33 rfl ?_
    refine g_goto (tgt := 38) C dX5_takeStop_34 (by decide) ?_
    exact g_zret C hR (by decide) (Nat.le_of_ble_eq_true rfl) (Nat.le_of_ble_eq_true rfl) dX5_takeStop_38 ⟨1, faulty, place, token_1, rfl, rfl, h⟩
  · replace h := h.2 c_1
    refine g_aload_n C dX5_takeStop_25 0 rfl ?_
    refine g_iconst (v := 1) C dX5_takeStop_26 rfl ?_
    obtain ⟨P_2, hP, h⟩ := h
    refine g_callV (As := [.int 1]) (rest := []) C (mX5_refuse l D Y h0 q_tape lines faulty place v_plan token_1 toldOnce tape_fed v_tape_bytes (.ref q_tape_sorts) q_tape_starts v_tape_contents tape_length tape_tokens tape_at tape_starts 1 P_2 hP) dX5_takeStop_27 rfl wM_X5_62 wI_X5_refuse wV_X5_refuse wN_X5 wC_X5_refuse (n := 1) (by decide +kernel) rfl (q0 := 0) rfl rfl ⟨Nat.le_of_ble_eq_true rfl, Nat.le_of_ble_eq_true rfl⟩ ⟨Nat.le_of_ble_eq_true rfl, Nat.le_of_ble_eq_true rfl⟩ (Nat.le_of_ble_eq_true rfl) [0, 1, 3] [2] rfl rfl rfl (fun v wc hv => ?_)
    obtain ⟨rF_2, faulty_1, place_1, rfl, rfl, hq⟩ := hv
    replace h := h rF_2 faulty_1 place_1 hq
    refine gG.perm (ws' := [oX5 h0 (.ref q_tape) lines faulty_1 place_1 (v_plan) token_1 toldOnce, oX9 q_tape tape_fed (v_tape_bytes) (.ref q_tape_sorts) (.ref q_tape_starts) (v_tape_contents) tape_length tape_tokens tape_at, aI Y q_tape_sorts 701 tape_sorts, aI Y q_tape_starts 701 tape_starts]) [1, 2, 0, 3] rfl rfl ?_
    refine g_if_eq (tgt := 37) C dX5_takeStop_30 (by decide) (fun c_2 => ?_) (fun c_2 => ?_)
    · replace h := h.1 c_2
      refine g_iconst (v := 0) C dX5_takeStop_37 rfl ?_
      exact g_zret C hR (by decide) (Nat.le_of_ble_eq_true rfl) (Nat.le_of_ble_eq_true rfl) dX5_takeStop_38 ⟨0, faulty_1, place_1, token_1, rfl, rfl, h⟩
    · replace h := h.2 c_2
      refine g_iconst (v := 1) C dX5_takeStop_33 rfl ?_
      refine g_goto (tgt := 38) C dX5_takeStop_34 (by decide) ?_
      exact g_zret C hR (by decide) (Nat.le_of_ble_eq_true rfl) (Nat.le_of_ble_eq_true rfl) dX5_takeStop_38 ⟨1, faulty_1, place_1, token_1, rfl, rfl, h⟩
theorem dX5_read_0 : decode cX5_read 0 = .ok (.aload_n 0, 1) := by decide +kernel
theorem dX5_read_1 : decode cX5_read 1 = .ok (.getfield 12, 3) := by decide +kernel
theorem dX5_read_4 : decode cX5_read 4 = .ok (.iload_n 1, 1) := by decide +kernel
theorem dX5_read_5 : decode cX5_read 5 = .ok (.invokevirtual 29, 3) := by decide +kernel
theorem dX5_read_8 : decode cX5_read 8 = .ok (.aload_n 0, 1) := by decide +kernel
theorem dX5_read_9 : decode cX5_read 9 = .ok (.getfield 25, 3) := by decide +kernel
theorem dX5_read_12 : decode cX5_read 12 = .ok (.invokevirtual 33, 3) := by decide +kernel
theorem dX5_read_15 : decode cX5_read 15 = .ok (.aload_n 0, 1) := by decide +kernel
theorem dX5_read_16 : decode cX5_read 16 = .ok (.iconst 0, 1) := by decide +kernel
theorem dX5_read_17 : decode cX5_read 17 = .ok (.putfield 36, 3) := by decide +kernel
theorem dX5_read_20 : decode cX5_read 20 = .ok (.aload_n 0, 1) := by decide +kernel
theorem dX5_read_21 : decode cX5_read 21 = .ok (.iconst 0, 1) := by decide +kernel
theorem dX5_read_22 : decode cX5_read 22 = .ok (.putfield 39, 3) := by decide +kernel
theorem dX5_read_25 : decode cX5_read 25 = .ok (.aload_n 0, 1) := by decide +kernel
theorem dX5_read_26 : decode cX5_read 26 = .ok (.iconst 0, 1) := by decide +kernel
theorem dX5_read_27 : decode cX5_read 27 = .ok (.putfield 42, 3) := by decide +kernel
theorem dX5_read_30 : decode cX5_read 30 = .ok (.aload_n 0, 1) := by decide +kernel
theorem dX5_read_31 : decode cX5_read 31 = .ok (.iconst 0, 1) := by decide +kernel
theorem dX5_read_32 : decode cX5_read 32 = .ok (.putfield 45, 3) := by decide +kernel
theorem dX5_read_35 : decode cX5_read 35 = .ok (.aload_n 0, 1) := by decide +kernel
theorem dX5_read_36 : decode cX5_read 36 = .ok (.iconst (-1), 1) := by decide +kernel
theorem dX5_read_37 : decode cX5_read 37 = .ok (.putfield 18, 3) := by decide +kernel
theorem dX5_read_40 : decode cX5_read 40 = .ok (.iconst 0, 1) := by decide +kernel
theorem dX5_read_41 : decode cX5_read 41 = .ok (.istore_n 2, 1) := by decide +kernel
theorem dX5_read_42 : decode cX5_read 42 = .ok (.iload_n 2, 1) := by decide +kernel
theorem dX5_read_43 : decode cX5_read 43 = .ok (.iload_n 1, 1) := by decide +kernel
theorem dX5_read_44 : decode cX5_read 44 = .ok (.if_icmp .gt 64, 3) := by decide +kernel
theorem dX5_read_47 : decode cX5_read 47 = .ok (.aload_n 0, 1) := by decide +kernel
theorem dX5_read_48 : decode cX5_read 48 = .ok (.getfield 45, 3) := by decide +kernel
theorem dX5_read_51 : decode cX5_read 51 = .ok (.ifCond .ne 57, 3) := by decide +kernel
theorem dX5_read_54 : decode cX5_read 54 = .ok (.aload_n 0, 1) := by decide +kernel
theorem dX5_read_55 : decode cX5_read 55 = .ok (.getfield 12, 3) := by decide +kernel
theorem dX5_read_58 : decode cX5_read 58 = .ok (.aload_n 0, 1) := by decide +kernel
theorem dX5_read_59 : decode cX5_read 59 = .ok (.getfield 36, 3) := by decide +kernel
theorem dX5_read_62 : decode cX5_read 62 = .ok (.invokevirtual 48, 3) := by decide +kernel
theorem dX5_read_65 : decode cX5_read 65 = .ok (.ifCond .eq 43, 3) := by decide +kernel
theorem dX5_read_68 : decode cX5_read 68 = .ok (.aload_n 0, 1) := by decide +kernel
theorem dX5_read_69 : decode cX5_read 69 = .ok (.invokevirtual 52, 3) := by decide +kernel
theorem dX5_read_72 : decode cX5_read 72 = .ok (.ifCond .eq 30, 3) := by decide +kernel
theorem dX5_read_75 : decode cX5_read 75 = .ok (.aload_n 0, 1) := by decide +kernel
theorem dX5_read_76 : decode cX5_read 76 = .ok (.invokevirtual 56, 3) := by decide +kernel
theorem dX5_read_79 : decode cX5_read 79 = .ok (.ifCond .eq 23, 3) := by decide +kernel
theorem dX5_read_82 : decode cX5_read 82 = .ok (.aload_n 0, 1) := by decide +kernel
theorem dX5_read_83 : decode cX5_read 83 = .ok (.dup, 1) := by decide +kernel
theorem dX5_read_84 : decode cX5_read 84 = .ok (.getfield 42, 3) := by decide +kernel
theorem dX5_read_87 : decode cX5_read 87 = .ok (.iconst 1, 1) := by decide +kernel
theorem dX5_read_88 : decode cX5_read 88 = .ok (.iadd, 1) := by decide +kernel
theorem dX5_read_89 : decode cX5_read 89 = .ok (.putfield 42, 3) := by decide +kernel
theorem dX5_read_92 : decode cX5_read 92 = .ok (.aload_n 0, 1) := by decide +kernel
theorem dX5_read_93 : decode cX5_read 93 = .ok (.dup, 1) := by decide +kernel
theorem dX5_read_94 : decode cX5_read 94 = .ok (.getfield 36, 3) := by decide +kernel
theorem dX5_read_97 : decode cX5_read 97 = .ok (.iconst 1, 1) := by decide +kernel
theorem dX5_read_98 : decode cX5_read 98 = .ok (.iadd, 1) := by decide +kernel
theorem dX5_read_99 : decode cX5_read 99 = .ok (.putfield 36, 3) := by decide +kernel
theorem dX5_read_102 : decode cX5_read 102 = .ok (.iinc 2 1, 3) := by decide +kernel
theorem dX5_read_105 : decode cX5_read 105 = .ok (.goto (-63), 3) := by decide +kernel
theorem dX5_read_108 : decode cX5_read 108 = .ok (.aload_n 0, 1) := by decide +kernel
theorem dX5_read_109 : decode cX5_read 109 = .ok (.getfield 45, 3) := by decide +kernel
theorem dX5_read_112 : decode cX5_read 112 = .ok (.ifCond .ne 7, 3) := by decide +kernel
theorem dX5_read_115 : decode cX5_read 115 = .ok (.iconst 1, 1) := by decide +kernel
theorem dX5_read_116 : decode cX5_read 116 = .ok (.goto 4, 3) := by decide +kernel
theorem dX5_read_119 : decode cX5_read 119 = .ok (.iconst 0, 1) := by decide +kernel
theorem dX5_read_120 : decode cX5_read 120 = .ok (.ireturn, 1) := by decide +kernel
/-- QuotientSums$Reader.read(I)Z -/
def wX5_read (lines : Int32) (faulty : Int32) (place : Int32) (token : Int32) (toldOnce : Int32) (tape_fed : Int32) (tape_length : Int32) (tape_tokens : Int32) (tape_at : Int32) (tape_bytes : Nat → Int32) (tape_sorts : Nat → Int32) (tape_starts : Nat → Int32) (tape_contents : Nat → Int32) (plan_bound : Int32) (plan_modulus : Int32) (plan_seed : Int32) (plan_functions : Int32) (plan_numbers : Nat → Int32) (plan_names : Nat → Int32) (plan_kinds : Nat → Int32) (plan_firsts : Nat → Int32) (plan_seconds : Nat → Int32) (plan_degrees : Nat → Int32) (plan_colours : Nat → Int32) (plan_needs : Nat → Int32) (a1 : Int32) (Q : (Int32) → (Int32) → (Int32) → (Int32) → (Int32) → (Int32) → (Int32) → (Int32) → (Int32) → (Int32) → (Nat → Int32) → (Nat → Int32) → (Nat → Int32) → (Int32) → (Int32) → (Int32) → (Int32) → (Nat → Int32) → (Nat → Int32) → (Nat → Int32) → (Nat → Int32) → (Nat → Int32) → (Nat → Int32) → (Nat → Int32) → (Nat → Int32) → Prop) : Prop :=
  (∃ (P_1 : (Int32) → (Int32) → (Int32) → (Int32) → (Nat → Int32) → (Nat → Int32) → (Nat → Int32) → Prop), wX9_cut tape_fed tape_length tape_tokens tape_at tape_bytes tape_sorts tape_starts tape_contents a1 P_1 ∧ ∀ (fed_1 : Int32) (length_1 : Int32) (tokens_1 : Int32) (atF_1 : Int32) (sorts_1 : Nat → Int32) (starts_1 : Nat → Int32) (contents_1 : Nat → Int32), P_1 fed_1 length_1 tokens_1 atF_1 sorts_1 starts_1 contents_1 → ∃ (P_2 : (Int32) → (Int32) → (Int32) → (Int32) → (Nat → Int32) → (Nat → Int32) → (Nat → Int32) → (Nat → Int32) → (Nat → Int32) → (Nat → Int32) → (Nat → Int32) → (Nat → Int32) → Prop), wX3_reset plan_bound plan_modulus plan_seed plan_functions plan_numbers plan_names plan_kinds plan_firsts plan_seconds plan_degrees plan_colours plan_needs P_2 ∧ ∀ (bound_1 : Int32) (modulus_1 : Int32) (seed_1 : Int32) (functions_1 : Int32) (numbers_1 : Nat → Int32) (names_1 : Nat → Int32) (kinds_1 : Nat → Int32) (firsts_1 : Nat → Int32) (seconds_1 : Nat → Int32) (degrees_1 : Nat → Int32) (colours_1 : Nat → Int32) (needs_1 : Nat → Int32), P_2 bound_1 modulus_1 seed_1 functions_1 numbers_1 names_1 kinds_1 firsts_1 seconds_1 degrees_1 colours_1 needs_1 → (∃ (Inv_1 : (Nat → Int32) → (Nat → Int32) → (Nat → Int32) → (Nat → Int32) → (Nat → Int32) → (Nat → Int32) → (Nat → Int32) → (Nat → Int32) → (Int32) → (Int32) → (Int32) → (Int32) → (Int32) → (Int32) → (Int32) → (Int32) → (Int32) → (Int32) → Prop) (Mea_1 : (Nat → Int32) → (Nat → Int32) → (Nat → Int32) → (Nat → Int32) → (Nat → Int32) → (Nat → Int32) → (Nat → Int32) → (Nat → Int32) → (Int32) → (Int32) → (Int32) → (Int32) → (Int32) → (Int32) → (Int32) → (Int32) → (Int32) → (Int32) → Nat), Inv_1 colours_1 degrees_1 firsts_1 kinds_1 names_1 needs_1 numbers_1 seconds_1 0 0 (-1) 0 0 bound_1 modulus_1 seed_1 functions_1 0 ∧ ∀ (colours_2 : Nat → Int32) (degrees_2 : Nat → Int32) (firsts_2 : Nat → Int32) (kinds_2 : Nat → Int32) (names_2 : Nat → Int32) (needs_2 : Nat → Int32) (numbers_2 : Nat → Int32) (seconds_2 : Nat → Int32) (lines_1 : Int32) (faulty_1 : Int32) (place_1 : Int32) (token_1 : Int32) (toldOnce_1 : Int32) (bound_2 : Int32) (modulus_2 : Int32) (seed_2 : Int32) (functions_2 : Int32) (x2_1 : Int32), Inv_1 colours_2 degrees_2 firsts_2 kinds_2 names_2 needs_2 numbers_2 seconds_2 lines_1 faulty_1 place_1 token_1 toldOnce_1 bound_2 modulus_2 seed_2 functions_2 x2_1 → ((a1 < x2_1 → ((¬ faulty_1 = 0 → (Q 0 lines_1 faulty_1 place_1 token_1 toldOnce_1 fed_1 length_1 tokens_1 atF_1 sorts_1 starts_1 contents_1 bound_2 modulus_2 seed_2 functions_2 numbers_2 names_2 kinds_2 firsts_2 seconds_2 degrees_2 colours_2 needs_2)) ∧ (faulty_1 = 0 → (Q 1 lines_1 faulty_1 place_1 token_1 toldOnce_1 fed_1 length_1 tokens_1 atF_1 sorts_1 starts_1 contents_1 bound_2 modulus_2 seed_2 functions_2 numbers_2 names_2 kinds_2 firsts_2 seconds_2 degrees_2 colours_2 needs_2)))) ∧ (¬ a1 < x2_1 → ((¬ faulty_1 = 0 → ((¬ faulty_1 = 0 → (Q 0 lines_1 faulty_1 place_1 token_1 toldOnce_1 fed_1 length_1 tokens_1 atF_1 sorts_1 starts_1 contents_1 bound_2 modulus_2 seed_2 functions_2 numbers_2 names_2 kinds_2 firsts_2 seconds_2 degrees_2 colours_2 needs_2)) ∧ (faulty_1 = 0 → (Q 1 lines_1 faulty_1 place_1 token_1 toldOnce_1 fed_1 length_1 tokens_1 atF_1 sorts_1 starts_1 contents_1 bound_2 modulus_2 seed_2 functions_2 numbers_2 names_2 kinds_2 firsts_2 seconds_2 degrees_2 colours_2 needs_2)))) ∧ (faulty_1 = 0 → (∃ (P_3 : (Int32) → Prop), wX9_sortOf fed_1 length_1 tokens_1 atF_1 sorts_1 token_1 P_3 ∧ ∀ (rF_1 : Int32), P_3 rF_1 → ((rF_1 = 0 → ((¬ faulty_1 = 0 → (Q 0 lines_1 faulty_1 place_1 token_1 toldOnce_1 fed_1 length_1 tokens_1 atF_1 sorts_1 starts_1 contents_1 bound_2 modulus_2 seed_2 functions_2 numbers_2 names_2 kinds_2 firsts_2 seconds_2 degrees_2 colours_2 needs_2)) ∧ (faulty_1 = 0 → (Q 1 lines_1 faulty_1 place_1 token_1 toldOnce_1 fed_1 length_1 tokens_1 atF_1 sorts_1 starts_1 contents_1 bound_2 modulus_2 seed_2 functions_2 numbers_2 names_2 kinds_2 firsts_2 seconds_2 degrees_2 colours_2 needs_2)))) ∧ (¬ rF_1 = 0 → (∃ (P_4 : (Int32) → (Int32) → (Int32) → (Int32) → (Int32) → (Int32) → (Int32) → (Int32) → (Int32) → (Nat → Int32) → (Nat → Int32) → (Nat → Int32) → (Nat → Int32) → (Nat → Int32) → (Nat → Int32) → (Nat → Int32) → (Nat → Int32) → Prop), wX5_readLine lines_1 faulty_1 place_1 token_1 toldOnce_1 fed_1 length_1 tokens_1 atF_1 sorts_1 contents_1 starts_1 bound_2 modulus_2 seed_2 functions_2 names_2 kinds_2 firsts_2 seconds_2 degrees_2 colours_2 needs_2 numbers_2 P_4 ∧ ∀ (rF_2 : Int32) (faulty_2 : Int32) (place_2 : Int32) (token_2 : Int32) (toldOnce_2 : Int32) (plan_bound_1 : Int32) (plan_modulus_1 : Int32) (plan_seed_1 : Int32) (plan_functions_1 : Int32) (plan_names_1 : Nat → Int32) (plan_kinds_1 : Nat → Int32) (plan_firsts_1 : Nat → Int32) (plan_seconds_1 : Nat → Int32) (plan_degrees_1 : Nat → Int32) (plan_colours_1 : Nat → Int32) (plan_needs_1 : Nat → Int32) (plan_numbers_1 : Nat → Int32), P_4 rF_2 faulty_2 place_2 token_2 toldOnce_2 plan_bound_1 plan_modulus_1 plan_seed_1 plan_functions_1 plan_names_1 plan_kinds_1 plan_firsts_1 plan_seconds_1 plan_degrees_1 plan_colours_1 plan_needs_1 plan_numbers_1 → ((rF_2 = 0 → (Inv_1 plan_colours_1 plan_degrees_1 plan_firsts_1 plan_kinds_1 plan_names_1 plan_needs_1 plan_numbers_1 plan_seconds_1 lines_1 faulty_2 place_2 token_2 toldOnce_2 plan_bound_1 plan_modulus_1 plan_seed_1 plan_functions_1 (x2_1 + 1) ∧ Mea_1 plan_colours_1 plan_degrees_1 plan_firsts_1 plan_kinds_1 plan_names_1 plan_needs_1 plan_numbers_1 plan_seconds_1 lines_1 faulty_2 place_2 token_2 toldOnce_2 plan_bound_1 plan_modulus_1 plan_seed_1 plan_functions_1 (x2_1 + 1) < Mea_1 colours_2 degrees_2 firsts_2 kinds_2 names_2 needs_2 numbers_2 seconds_2 lines_1 faulty_1 place_1 token_1 toldOnce_1 bound_2 modulus_2 seed_2 functions_2 x2_1)) ∧ (¬ rF_2 = 0 → (∃ (P_5 : (Int32) → (Int32) → (Int32) → (Int32) → Prop), wX5_takeStop lines_1 faulty_2 place_2 token_2 toldOnce_2 fed_1 length_1 tokens_1 atF_1 sorts_1 starts_1 P_5 ∧ ∀ (rF_3 : Int32) (faulty_3 : Int32) (place_3 : Int32) (token_3 : Int32), P_5 rF_3 faulty_3 place_3 token_3 → ((rF_3 = 0 → (Inv_1 plan_colours_1 plan_degrees_1 plan_firsts_1 plan_kinds_1 plan_names_1 plan_needs_1 plan_numbers_1 plan_seconds_1 lines_1 faulty_3 place_3 token_3 toldOnce_2 plan_bound_1 plan_modulus_1 plan_seed_1 plan_functions_1 (x2_1 + 1) ∧ Mea_1 plan_colours_1 plan_degrees_1 plan_firsts_1 plan_kinds_1 plan_names_1 plan_needs_1 plan_numbers_1 plan_seconds_1 lines_1 faulty_3 place_3 token_3 toldOnce_2 plan_bound_1 plan_modulus_1 plan_seed_1 plan_functions_1 (x2_1 + 1) < Mea_1 colours_2 degrees_2 firsts_2 kinds_2 names_2 needs_2 numbers_2 seconds_2 lines_1 faulty_1 place_1 token_1 toldOnce_1 bound_2 modulus_2 seed_2 functions_2 x2_1)) ∧ (¬ rF_3 = 0 → (∀ lines_2 : Int32, lines_2 = lines_1 + 1 → ∀ token_4 : Int32, token_4 = token_3 + 1 → (Inv_1 plan_colours_1 plan_degrees_1 plan_firsts_1 plan_kinds_1 plan_names_1 plan_needs_1 plan_numbers_1 plan_seconds_1 lines_2 faulty_3 place_3 token_4 toldOnce_2 plan_bound_1 plan_modulus_1 plan_seed_1 plan_functions_1 (x2_1 + 1) ∧ Mea_1 plan_colours_1 plan_degrees_1 plan_firsts_1 plan_kinds_1 plan_names_1 plan_needs_1 plan_numbers_1 plan_seconds_1 lines_2 faulty_3 place_3 token_4 toldOnce_2 plan_bound_1 plan_modulus_1 plan_seed_1 plan_functions_1 (x2_1 + 1) < Mea_1 colours_2 degrees_2 firsts_2 kinds_2 names_2 needs_2 numbers_2 seconds_2 lines_1 faulty_1 place_1 token_1 toldOnce_1 bound_2 modulus_2 seed_2 functions_2 x2_1)))))))))))))))))
set_option maxHeartbeats 4000000 in
set_option maxRecDepth 100000 in
theorem mX5_read (l : Launch) (D : va_G) (Y : Nat → ClassId) (h0 : Nat) (q_tape : Nat) (lines : Int32) (faulty : Int32) (place : Int32) (q_plan : Nat) (token : Int32) (toldOnce : Int32) (tape_fed : Int32) (q_tape_bytes : Nat) (q_tape_sorts : Nat) (q_tape_starts : Nat) (q_tape_contents : Nat) (tape_length : Int32) (tape_tokens : Int32) (tape_at : Int32) (tape_bytes : Nat → Int32) (tape_sorts : Nat → Int32) (tape_starts : Nat → Int32) (tape_contents : Nat → Int32) (plan_bound : Int32) (plan_modulus : Int32) (plan_seed : Int32) (plan_functions : Int32) (q_plan_names : Nat) (q_plan_kinds : Nat) (q_plan_firsts : Nat) (q_plan_seconds : Nat) (q_plan_degrees : Nat) (q_plan_colours : Nat) (q_plan_needs : Nat) (q_plan_numbers : Nat) (plan_numbers : Nat → Int32) (plan_names : Nat → Int32) (plan_kinds : Nat → Int32) (plan_firsts : Nat → Int32) (plan_seconds : Nat → Int32) (plan_degrees : Nat → Int32) (plan_colours : Nat → Int32) (plan_needs : Nat → Int32) (a1 : Int32) (Q : (Int32) → (Int32) → (Int32) → (Int32) → (Int32) → (Int32) → (Int32) → (Int32) → (Int32) → (Int32) → (Nat → Int32) → (Nat → Int32) → (Nat → Int32) → (Int32) → (Int32) → (Int32) → (Int32) → (Nat → Int32) → (Nat → Int32) → (Nat → Int32) → (Nat → Int32) → (Nat → Int32) → (Nat → Int32) → (Nat → Int32) → (Nat → Int32) → Prop) (h : wX5_read lines faulty place token toldOnce tape_fed tape_length tape_tokens tape_at tape_bytes tape_sorts tape_starts tape_contents plan_bound plan_modulus plan_seed plan_functions plan_numbers plan_names plan_kinds plan_firsts plan_seconds plan_degrees plan_colours plan_needs a1 Q) : gM l D Y yX5_read cX5_read 3 (some .boolean) 8 177 0 0 [.ref h0, .int a1] [oX5 h0 (.ref q_tape) lines faulty place (.ref q_plan) token toldOnce, oX9 q_tape tape_fed (.ref q_tape_bytes) (.ref q_tape_sorts) (.ref q_tape_starts) (.ref q_tape_contents) tape_length tape_tokens tape_at, aI Y q_tape_bytes 700 tape_bytes, aI Y q_tape_sorts 701 tape_sorts, aI Y q_tape_starts 701 tape_starts, aI Y q_tape_contents 701 tape_contents, oX3 q_plan plan_bound plan_modulus plan_seed plan_functions (.ref q_plan_names) (.ref q_plan_kinds) (.ref q_plan_firsts) (.ref q_plan_seconds) (.ref q_plan_degrees) (.ref q_plan_colours) (.ref q_plan_needs) (.ref q_plan_numbers), aI Y q_plan_numbers 144 plan_numbers, aI Y q_plan_names 12 plan_names, aI Y q_plan_kinds 12 plan_kinds, aI Y q_plan_firsts 12 plan_firsts, aI Y q_plan_seconds 12 plan_seconds, aI Y q_plan_degrees 12 plan_degrees, aI Y q_plan_colours 12 plan_colours, aI Y q_plan_needs 12 plan_needs] (fun v w => ∃ r : Int32, ∃ lines' : Int32, ∃ faulty' : Int32, ∃ place' : Int32, ∃ token' : Int32, ∃ toldOnce' : Int32, ∃ tape_fed' : Int32, ∃ tape_length' : Int32, ∃ tape_tokens' : Int32, ∃ tape_at' : Int32, ∃ tape_sorts' : Nat → Int32, ∃ tape_starts' : Nat → Int32, ∃ tape_contents' : Nat → Int32, ∃ plan_bound' : Int32, ∃ plan_modulus' : Int32, ∃ plan_seed' : Int32, ∃ plan_functions' : Int32, ∃ plan_numbers' : Nat → Int32, ∃ plan_names' : Nat → Int32, ∃ plan_kinds' : Nat → Int32, ∃ plan_firsts' : Nat → Int32, ∃ plan_seconds' : Nat → Int32, ∃ plan_degrees' : Nat → Int32, ∃ plan_colours' : Nat → Int32, ∃ plan_needs' : Nat → Int32, v = some (.int r) ∧ w = [oX5 h0 (.ref q_tape) lines' faulty' place' (.ref q_plan) token' toldOnce', oX9 q_tape tape_fed' (.ref q_tape_bytes) (.ref q_tape_sorts) (.ref q_tape_starts) (.ref q_tape_contents) tape_length' tape_tokens' tape_at', aI Y q_tape_bytes 700 tape_bytes, aI Y q_tape_sorts 701 tape_sorts', aI Y q_tape_starts 701 tape_starts', aI Y q_tape_contents 701 tape_contents', oX3 q_plan plan_bound' plan_modulus' plan_seed' plan_functions' (.ref q_plan_names) (.ref q_plan_kinds) (.ref q_plan_firsts) (.ref q_plan_seconds) (.ref q_plan_degrees) (.ref q_plan_colours) (.ref q_plan_needs) (.ref q_plan_numbers), aI Y q_plan_numbers 144 plan_numbers', aI Y q_plan_names 12 plan_names', aI Y q_plan_kinds 12 plan_kinds', aI Y q_plan_firsts 12 plan_firsts', aI Y q_plan_seconds 12 plan_seconds', aI Y q_plan_degrees 12 plan_degrees', aI Y q_plan_colours 12 plan_colours', aI Y q_plan_needs 12 plan_needs'] ∧ Q r lines' faulty' place' token' toldOnce' tape_fed' tape_length' tape_tokens' tape_at' tape_sorts' tape_starts' tape_contents' plan_bound' plan_modulus' plan_seed' plan_functions' plan_numbers' plan_names' plan_kinds' plan_firsts' plan_seconds' plan_degrees' plan_colours' plan_needs') := by
  refine gM_of (own := RX5) (by decide +kernel) rfl (Nat.le_of_ble_eq_true rfl) rfl (fun E C hR => ?_)
  unfold wX5_read at h
  refine g_aload_n C dX5_read_0 0 rfl ?_
  refine g_get C inX5 0 rfl rfl 0 (by decide) wF_X5_12 rfl dX5_read_1 ?_
  refine g_iload_n C dX5_read_4 1 rfl ?_
  obtain ⟨P_1, hP, h⟩ := h
  refine g_callV (As := [.int a1]) (rest := []) C (mX9_cut l D Y q_tape tape_fed q_tape_bytes q_tape_sorts q_tape_starts q_tape_contents tape_length tape_tokens tape_at tape_bytes tape_sorts tape_starts tape_contents a1 P_1 hP) dX5_read_5 rfl wM_X5_29 wI_X9_cut wV_X9_cut wN_X9 wC_X9_cut (n := 1) (by decide +kernel) rfl (q0 := 0) rfl rfl ⟨Nat.le_of_ble_eq_true rfl, Nat.le_of_ble_eq_true rfl⟩ ⟨Nat.le_of_ble_eq_true rfl, Nat.le_of_ble_eq_true rfl⟩ (Nat.le_of_ble_eq_true rfl) [1, 2, 3, 4, 5] [0, 6, 7, 8, 9, 10, 11, 12, 13, 14] rfl rfl rfl (fun v wc hv => ?_)
  obtain ⟨fed_1, length_1, tokens_1, atF_1, sorts_1, starts_1, contents_1, rfl, rfl, hq⟩ := hv
  replace h := h fed_1 length_1 tokens_1 atF_1 sorts_1 starts_1 contents_1 hq
  refine gG.perm (ws' := [oX5 h0 (.ref q_tape) lines faulty place (.ref q_plan) token toldOnce, oX9 q_tape fed_1 (.ref q_tape_bytes) (.ref q_tape_sorts) (.ref q_tape_starts) (.ref q_tape_contents) length_1 tokens_1 atF_1, aI Y q_tape_bytes 700 tape_bytes, aI Y q_tape_sorts 701 sorts_1, aI Y q_tape_starts 701 starts_1, aI Y q_tape_contents 701 contents_1, oX3 q_plan plan_bound plan_modulus plan_seed plan_functions (.ref q_plan_names) (.ref q_plan_kinds) (.ref q_plan_firsts) (.ref q_plan_seconds) (.ref q_plan_degrees) (.ref q_plan_colours) (.ref q_plan_needs) (.ref q_plan_numbers), aI Y q_plan_numbers 144 plan_numbers, aI Y q_plan_names 12 plan_names, aI Y q_plan_kinds 12 plan_kinds, aI Y q_plan_firsts 12 plan_firsts, aI Y q_plan_seconds 12 plan_seconds, aI Y q_plan_degrees 12 plan_degrees, aI Y q_plan_colours 12 plan_colours, aI Y q_plan_needs 12 plan_needs]) [0, 10, 11, 12, 13, 14, 1, 2, 3, 4, 5, 6, 7, 8, 9] rfl rfl ?_
  refine g_aload_n C dX5_read_8 0 rfl ?_
  refine g_get C inX5 0 rfl rfl 4 (by decide) wF_X5_25 rfl dX5_read_9 ?_
  obtain ⟨P_2, hP, h⟩ := h
  refine g_callV (As := []) (rest := []) C (mX3_reset l D Y q_plan plan_bound plan_modulus plan_seed plan_functions q_plan_names q_plan_kinds q_plan_firsts q_plan_seconds q_plan_degrees q_plan_colours q_plan_needs q_plan_numbers plan_numbers plan_names plan_kinds plan_firsts plan_seconds plan_degrees plan_colours plan_needs P_2 hP) dX5_read_12 rfl wM_X5_33 wI_X3_reset wV_X3_reset wN_X3 wC_X3_reset (n := 0) (by decide +kernel) rfl (q0 := 0) rfl rfl ⟨Nat.le_of_ble_eq_true rfl, Nat.le_of_ble_eq_true rfl⟩ ⟨Nat.le_of_ble_eq_true rfl, Nat.le_of_ble_eq_true rfl⟩ (Nat.le_of_ble_eq_true rfl) [6, 7, 8, 9, 10, 11, 12, 13, 14] [0, 1, 2, 3, 4, 5] rfl rfl rfl (fun v wc hv => ?_)
  obtain ⟨bound_1, modulus_1, seed_1, functions_1, numbers_1, names_1, kinds_1, firsts_1, seconds_1, degrees_1, colours_1, needs_1, rfl, rfl, hq⟩ := hv
  replace h := h bound_1 modulus_1 seed_1 functions_1 numbers_1 names_1 kinds_1 firsts_1 seconds_1 degrees_1 colours_1 needs_1 hq
  refine gG.eqw (ws' := [oX5 h0 (.ref q_tape) lines faulty place (.ref q_plan) token toldOnce, oX9 q_tape fed_1 (.ref q_tape_bytes) (.ref q_tape_sorts) (.ref q_tape_starts) (.ref q_tape_contents) length_1 tokens_1 atF_1, aI Y q_tape_bytes 700 tape_bytes, aI Y q_tape_sorts 701 sorts_1, aI Y q_tape_starts 701 starts_1, aI Y q_tape_contents 701 contents_1, oX3 q_plan bound_1 modulus_1 seed_1 functions_1 (.ref q_plan_names) (.ref q_plan_kinds) (.ref q_plan_firsts) (.ref q_plan_seconds) (.ref q_plan_degrees) (.ref q_plan_colours) (.ref q_plan_needs) (.ref q_plan_numbers), aI Y q_plan_numbers 144 numbers_1, aI Y q_plan_names 12 names_1, aI Y q_plan_kinds 12 kinds_1, aI Y q_plan_firsts 12 firsts_1, aI Y q_plan_seconds 12 seconds_1, aI Y q_plan_degrees 12 degrees_1, aI Y q_plan_colours 12 colours_1, aI Y q_plan_needs 12 needs_1]) rfl ?_
  refine g_aload_n C dX5_read_15 0 rfl ?_
  refine g_iconst (v := 0) C dX5_read_16 rfl ?_
  refine g_put C inX5 tyX5 tyX5_ok nmX5 0 rfl rfl 5 (by decide) wF_X5_36 rfl rfl rfl (Nat.le_of_ble_eq_true rfl) (ws' := [oX5 h0 (.ref q_tape) lines faulty place (.ref q_plan) 0 toldOnce, oX9 q_tape fed_1 (.ref q_tape_bytes) (.ref q_tape_sorts) (.ref q_tape_starts) (.ref q_tape_contents) length_1 tokens_1 atF_1, aI Y q_tape_bytes 700 tape_bytes, aI Y q_tape_sorts 701 sorts_1, aI Y q_tape_starts 701 starts_1, aI Y q_tape_contents 701 contents_1, oX3 q_plan bound_1 modulus_1 seed_1 functions_1 (.ref q_plan_names) (.ref q_plan_kinds) (.ref q_plan_firsts) (.ref q_plan_seconds) (.ref q_plan_degrees) (.ref q_plan_colours) (.ref q_plan_needs) (.ref q_plan_numbers), aI Y q_plan_numbers 144 numbers_1, aI Y q_plan_names 12 names_1, aI Y q_plan_kinds 12 kinds_1, aI Y q_plan_firsts 12 firsts_1, aI Y q_plan_seconds 12 seconds_1, aI Y q_plan_degrees 12 degrees_1, aI Y q_plan_colours 12 colours_1, aI Y q_plan_needs 12 needs_1]) rfl dX5_read_17 ?_
  refine g_aload_n C dX5_read_20 0 rfl ?_
  refine g_iconst (v := 0) C dX5_read_21 rfl ?_
  refine g_put C inX5 tyX5 tyX5_ok nmX5 0 rfl rfl 6 (by decide) wF_X5_39 rfl rfl rfl (Nat.le_of_ble_eq_true rfl) (ws' := [oX5 h0 (.ref q_tape) lines faulty place (.ref q_plan) 0 0, oX9 q_tape fed_1 (.ref q_tape_bytes) (.ref q_tape_sorts) (.ref q_tape_starts) (.ref q_tape_contents) length_1 tokens_1 atF_1, aI Y q_tape_bytes 700 tape_bytes, aI Y q_tape_sorts 701 sorts_1, aI Y q_tape_starts 701 starts_1, aI Y q_tape_contents 701 contents_1, oX3 q_plan bound_1 modulus_1 seed_1 functions_1 (.ref q_plan_names) (.ref q_plan_kinds) (.ref q_plan_firsts) (.ref q_plan_seconds) (.ref q_plan_degrees) (.ref q_plan_colours) (.ref q_plan_needs) (.ref q_plan_numbers), aI Y q_plan_numbers 144 numbers_1, aI Y q_plan_names 12 names_1, aI Y q_plan_kinds 12 kinds_1, aI Y q_plan_firsts 12 firsts_1, aI Y q_plan_seconds 12 seconds_1, aI Y q_plan_degrees 12 degrees_1, aI Y q_plan_colours 12 colours_1, aI Y q_plan_needs 12 needs_1]) rfl dX5_read_22 ?_
  refine g_aload_n C dX5_read_25 0 rfl ?_
  refine g_iconst (v := 0) C dX5_read_26 rfl ?_
  refine g_put C inX5 tyX5 tyX5_ok nmX5 0 rfl rfl 1 (by decide) wF_X5_42 rfl rfl rfl (Nat.le_of_ble_eq_true rfl) (ws' := [oX5 h0 (.ref q_tape) 0 faulty place (.ref q_plan) 0 0, oX9 q_tape fed_1 (.ref q_tape_bytes) (.ref q_tape_sorts) (.ref q_tape_starts) (.ref q_tape_contents) length_1 tokens_1 atF_1, aI Y q_tape_bytes 700 tape_bytes, aI Y q_tape_sorts 701 sorts_1, aI Y q_tape_starts 701 starts_1, aI Y q_tape_contents 701 contents_1, oX3 q_plan bound_1 modulus_1 seed_1 functions_1 (.ref q_plan_names) (.ref q_plan_kinds) (.ref q_plan_firsts) (.ref q_plan_seconds) (.ref q_plan_degrees) (.ref q_plan_colours) (.ref q_plan_needs) (.ref q_plan_numbers), aI Y q_plan_numbers 144 numbers_1, aI Y q_plan_names 12 names_1, aI Y q_plan_kinds 12 kinds_1, aI Y q_plan_firsts 12 firsts_1, aI Y q_plan_seconds 12 seconds_1, aI Y q_plan_degrees 12 degrees_1, aI Y q_plan_colours 12 colours_1, aI Y q_plan_needs 12 needs_1]) rfl dX5_read_27 ?_
  refine g_aload_n C dX5_read_30 0 rfl ?_
  refine g_iconst (v := 0) C dX5_read_31 rfl ?_
  refine g_put C inX5 tyX5 tyX5_ok nmX5 0 rfl rfl 2 (by decide) wF_X5_45 rfl rfl rfl (Nat.le_of_ble_eq_true rfl) (ws' := [oX5 h0 (.ref q_tape) 0 0 place (.ref q_plan) 0 0, oX9 q_tape fed_1 (.ref q_tape_bytes) (.ref q_tape_sorts) (.ref q_tape_starts) (.ref q_tape_contents) length_1 tokens_1 atF_1, aI Y q_tape_bytes 700 tape_bytes, aI Y q_tape_sorts 701 sorts_1, aI Y q_tape_starts 701 starts_1, aI Y q_tape_contents 701 contents_1, oX3 q_plan bound_1 modulus_1 seed_1 functions_1 (.ref q_plan_names) (.ref q_plan_kinds) (.ref q_plan_firsts) (.ref q_plan_seconds) (.ref q_plan_degrees) (.ref q_plan_colours) (.ref q_plan_needs) (.ref q_plan_numbers), aI Y q_plan_numbers 144 numbers_1, aI Y q_plan_names 12 names_1, aI Y q_plan_kinds 12 kinds_1, aI Y q_plan_firsts 12 firsts_1, aI Y q_plan_seconds 12 seconds_1, aI Y q_plan_degrees 12 degrees_1, aI Y q_plan_colours 12 colours_1, aI Y q_plan_needs 12 needs_1]) rfl dX5_read_32 ?_
  refine g_aload_n C dX5_read_35 0 rfl ?_
  refine g_iconst (v := (-1)) C dX5_read_36 rfl ?_
  refine g_put C inX5 tyX5 tyX5_ok nmX5 0 rfl rfl 3 (by decide) wF_X5_18 rfl rfl rfl (Nat.le_of_ble_eq_true rfl) (ws' := [oX5 h0 (.ref q_tape) 0 0 (-1) (.ref q_plan) 0 0, oX9 q_tape fed_1 (.ref q_tape_bytes) (.ref q_tape_sorts) (.ref q_tape_starts) (.ref q_tape_contents) length_1 tokens_1 atF_1, aI Y q_tape_bytes 700 tape_bytes, aI Y q_tape_sorts 701 sorts_1, aI Y q_tape_starts 701 starts_1, aI Y q_tape_contents 701 contents_1, oX3 q_plan bound_1 modulus_1 seed_1 functions_1 (.ref q_plan_names) (.ref q_plan_kinds) (.ref q_plan_firsts) (.ref q_plan_seconds) (.ref q_plan_degrees) (.ref q_plan_colours) (.ref q_plan_needs) (.ref q_plan_numbers), aI Y q_plan_numbers 144 numbers_1, aI Y q_plan_names 12 names_1, aI Y q_plan_kinds 12 kinds_1, aI Y q_plan_firsts 12 firsts_1, aI Y q_plan_seconds 12 seconds_1, aI Y q_plan_degrees 12 degrees_1, aI Y q_plan_colours 12 colours_1, aI Y q_plan_needs 12 needs_1]) rfl dX5_read_37 ?_
  refine g_iconst (v := 0) C dX5_read_40 rfl ?_
  refine g_istore_n (lv' := [(2, .int 0), (0, .ref h0), (1, .int a1)]) C dX5_read_41 (by decide) rfl ?_
  obtain ⟨Inv_1, Mea_1, hI1, hB1⟩ := h
  have key_1 : ∀ (n : Nat) (colours_2 : Nat → Int32) (degrees_2 : Nat → Int32) (firsts_2 : Nat → Int32) (kinds_2 : Nat → Int32) (names_2 : Nat → Int32) (needs_2 : Nat → Int32) (numbers_2 : Nat → Int32) (seconds_2 : Nat → Int32) (lines_1 : Int32) (faulty_1 : Int32) (place_1 : Int32) (token_1 : Int32) (toldOnce_1 : Int32) (bound_2 : Int32) (modulus_2 : Int32) (seed_2 : Int32) (functions_2 : Int32) (x2_1 : Int32) , Mea_1 colours_2 degrees_2 firsts_2 kinds_2 names_2 needs_2 numbers_2 seconds_2 lines_1 faulty_1 place_1 token_1 toldOnce_1 bound_2 modulus_2 seed_2 functions_2 x2_1 < n → Inv_1 colours_2 degrees_2 firsts_2 kinds_2 names_2 needs_2 numbers_2 seconds_2 lines_1 faulty_1 place_1 token_1 toldOnce_1 bound_2 modulus_2 seed_2 functions_2 x2_1 → gG E 0 0 [oX5 h0 (.ref q_tape) lines_1 faulty_1 place_1 (.ref q_plan) token_1 toldOnce_1, oX9 q_tape fed_1 (.ref q_tape_bytes) (.ref q_tape_sorts) (.ref q_tape_starts) (.ref q_tape_contents) length_1 tokens_1 atF_1, aI Y q_tape_bytes 700 tape_bytes, aI Y q_tape_sorts 701 sorts_1, aI Y q_tape_starts 701 starts_1, aI Y q_tape_contents 701 contents_1, oX3 q_plan bound_2 modulus_2 seed_2 functions_2 (.ref q_plan_names) (.ref q_plan_kinds) (.ref q_plan_firsts) (.ref q_plan_seconds) (.ref q_plan_degrees) (.ref q_plan_colours) (.ref q_plan_needs) (.ref q_plan_numbers), aI Y q_plan_numbers 144 numbers_2, aI Y q_plan_names 12 names_2, aI Y q_plan_kinds 12 kinds_2, aI Y q_plan_firsts 12 firsts_2, aI Y q_plan_seconds 12 seconds_2, aI Y q_plan_degrees 12 degrees_2, aI Y q_plan_colours 12 colours_2, aI Y q_plan_needs 12 needs_2] [(0, .ref h0), (1, .int a1), (2, .int x2_1)] [] 42 := by
    intro n
    induction n with
    | zero => exact fun _ _ _ _ _ _ _ _ _ _ _ _ _ _ _ _ _ _ hm => absurd hm (Nat.not_lt_zero _)
    | succ n ih1 =>
      intro colours_2 degrees_2 firsts_2 kinds_2 names_2 needs_2 numbers_2 seconds_2 lines_1 faulty_1 place_1 token_1 toldOnce_1 bound_2 modulus_2 seed_2 functions_2 x2_1  hm1 hI
      have h := hB1 colours_2 degrees_2 firsts_2 kinds_2 names_2 needs_2 numbers_2 seconds_2 lines_1 faulty_1 place_1 token_1 toldOnce_1 bound_2 modulus_2 seed_2 functions_2 x2_1 hI
      refine g_iload_n C dX5_read_42 2 rfl ?_
      refine g_iload_n C dX5_read_43 1 rfl ?_
      refine g_icmp_gt (tgt := 108) C dX5_read_44 (by decide) (fun c_1 => ?_) (fun c_1 => ?_)
      · replace h := h.1 c_1
        refine g_aload_n C dX5_read_108 0 rfl ?_
        refine g_get C inX5 0 rfl rfl 2 (by decide) wF_X5_45 rfl dX5_read_109 ?_
        refine g_if_ne (tgt := 119) C dX5_read_112 (by decide) (fun c_2 => ?_) (fun c_2 => ?_)
        · replace h := h.1 c_2
          refine g_iconst (v := 0) C dX5_read_119 rfl ?_
          exact g_zret C hR (by decide) (Nat.le_of_ble_eq_true rfl) (Nat.le_of_ble_eq_true rfl) dX5_read_120 ⟨0, lines_1, faulty_1, place_1, token_1, toldOnce_1, fed_1, length_1, tokens_1, atF_1, sorts_1, starts_1, contents_1, bound_2, modulus_2, seed_2, functions_2, numbers_2, names_2, kinds_2, firsts_2, seconds_2, degrees_2, colours_2, needs_2, rfl, rfl, h⟩
        · replace h := h.2 c_2
          refine g_iconst (v := 1) C dX5_read_115 rfl ?_
          refine g_goto (tgt := 120) C dX5_read_116 (by decide) ?_
          exact g_zret C hR (by decide) (Nat.le_of_ble_eq_true rfl) (Nat.le_of_ble_eq_true rfl) dX5_read_120 ⟨1, lines_1, faulty_1, place_1, token_1, toldOnce_1, fed_1, length_1, tokens_1, atF_1, sorts_1, starts_1, contents_1, bound_2, modulus_2, seed_2, functions_2, numbers_2, names_2, kinds_2, firsts_2, seconds_2, degrees_2, colours_2, needs_2, rfl, rfl, h⟩
      · replace h := h.2 c_1
        refine g_aload_n C dX5_read_47 0 rfl ?_
        refine g_get C inX5 0 rfl rfl 2 (by decide) wF_X5_45 rfl dX5_read_48 ?_
        refine g_if_ne (tgt := 108) C dX5_read_51 (by decide) (fun c_3 => ?_) (fun c_3 => ?_)
        · replace h := h.1 c_3
          refine g_aload_n C dX5_read_108 0 rfl ?_
          refine g_get C inX5 0 rfl rfl 2 (by decide) wF_X5_45 rfl dX5_read_109 ?_
          refine g_if_ne (tgt := 119) C dX5_read_112 (by decide) (fun c_4 => ?_) (fun c_4 => ?_)
          · replace h := h.1 c_4
            refine g_iconst (v := 0) C dX5_read_119 rfl ?_
            exact g_zret C hR (by decide) (Nat.le_of_ble_eq_true rfl) (Nat.le_of_ble_eq_true rfl) dX5_read_120 ⟨0, lines_1, faulty_1, place_1, token_1, toldOnce_1, fed_1, length_1, tokens_1, atF_1, sorts_1, starts_1, contents_1, bound_2, modulus_2, seed_2, functions_2, numbers_2, names_2, kinds_2, firsts_2, seconds_2, degrees_2, colours_2, needs_2, rfl, rfl, h⟩
          · replace h := h.2 c_4
            refine g_iconst (v := 1) C dX5_read_115 rfl ?_
            refine g_goto (tgt := 120) C dX5_read_116 (by decide) ?_
            exact g_zret C hR (by decide) (Nat.le_of_ble_eq_true rfl) (Nat.le_of_ble_eq_true rfl) dX5_read_120 ⟨1, lines_1, faulty_1, place_1, token_1, toldOnce_1, fed_1, length_1, tokens_1, atF_1, sorts_1, starts_1, contents_1, bound_2, modulus_2, seed_2, functions_2, numbers_2, names_2, kinds_2, firsts_2, seconds_2, degrees_2, colours_2, needs_2, rfl, rfl, h⟩
        · replace h := h.2 c_3
          refine g_aload_n C dX5_read_54 0 rfl ?_
          refine g_get C inX5 0 rfl rfl 0 (by decide) wF_X5_12 rfl dX5_read_55 ?_
          refine g_aload_n C dX5_read_58 0 rfl ?_
          refine g_get C inX5 0 rfl rfl 5 (by decide) wF_X5_36 rfl dX5_read_59 ?_
          obtain ⟨P_3, hP, h⟩ := h
          refine g_callV (As := [.int token_1]) (rest := []) C (mX9_sortOf l D Y q_tape fed_1 (.ref q_tape_bytes) q_tape_sorts (.ref q_tape_starts) (.ref q_tape_contents) length_1 tokens_1 atF_1 sorts_1 token_1 P_3 hP) dX5_read_62 rfl wM_X5_48 wI_X9_sortOf wV_X9_sortOf wN_X9 wC_X9_sortOf (n := 1) (by decide +kernel) rfl (q0 := 0) rfl rfl ⟨Nat.le_of_ble_eq_true rfl, Nat.le_of_ble_eq_true rfl⟩ ⟨Nat.le_of_ble_eq_true rfl, Nat.le_of_ble_eq_true rfl⟩ (Nat.le_of_ble_eq_true rfl) [1, 3] [0, 2, 4, 5, 6, 7, 8, 9, 10, 11, 12, 13, 14] rfl rfl rfl (fun v wc hv => ?_)
          obtain ⟨rF_1, rfl, rfl, hq⟩ := hv
          replace h := h rF_1 hq
          refine gG.perm (ws' := [oX5 h0 (.ref q_tape) lines_1 faulty_1 place_1 (.ref q_plan) token_1 toldOnce_1, oX9 q_tape fed_1 (.ref q_tape_bytes) (.ref q_tape_sorts) (.ref q_tape_starts) (.ref q_tape_contents) length_1 tokens_1 atF_1, aI Y q_tape_bytes 700 tape_bytes, aI Y q_tape_sorts 701 sorts_1, aI Y q_tape_starts 701 starts_1, aI Y q_tape_contents 701 contents_1, oX3 q_plan bound_2 modulus_2 seed_2 functions_2 (.ref q_plan_names) (.ref q_plan_kinds) (.ref q_plan_firsts) (.ref q_plan_seconds) (.ref q_plan_degrees) (.ref q_plan_colours) (.ref q_plan_needs) (.ref q_plan_numbers), aI Y q_plan_numbers 144 numbers_2, aI Y q_plan_names 12 names_2, aI Y q_plan_kinds 12 kinds_2, aI Y q_plan_firsts 12 firsts_2, aI Y q_plan_seconds 12 seconds_2, aI Y q_plan_degrees 12 degrees_2, aI Y q_plan_colours 12 colours_2, aI Y q_plan_needs 12 needs_2]) [0, 13, 1, 14, 2, 3, 4, 5, 6, 7, 8, 9, 10, 11, 12] rfl rfl ?_
          refine g_if_eq (tgt := 108) C dX5_read_65 (by decide) (fun c_5 => ?_) (fun c_5 => ?_)
          · replace h := h.1 c_5
            refine g_aload_n C dX5_read_108 0 rfl ?_
            refine g_get C inX5 0 rfl rfl 2 (by decide) wF_X5_45 rfl dX5_read_109 ?_
            refine g_if_ne (tgt := 119) C dX5_read_112 (by decide) (fun c_6 => ?_) (fun c_6 => ?_)
            · replace h := h.1 c_6
              refine g_iconst (v := 0) C dX5_read_119 rfl ?_
              exact g_zret C hR (by decide) (Nat.le_of_ble_eq_true rfl) (Nat.le_of_ble_eq_true rfl) dX5_read_120 ⟨0, lines_1, faulty_1, place_1, token_1, toldOnce_1, fed_1, length_1, tokens_1, atF_1, sorts_1, starts_1, contents_1, bound_2, modulus_2, seed_2, functions_2, numbers_2, names_2, kinds_2, firsts_2, seconds_2, degrees_2, colours_2, needs_2, rfl, rfl, h⟩
            · replace h := h.2 c_6
              refine g_iconst (v := 1) C dX5_read_115 rfl ?_
              refine g_goto (tgt := 120) C dX5_read_116 (by decide) ?_
              exact g_zret C hR (by decide) (Nat.le_of_ble_eq_true rfl) (Nat.le_of_ble_eq_true rfl) dX5_read_120 ⟨1, lines_1, faulty_1, place_1, token_1, toldOnce_1, fed_1, length_1, tokens_1, atF_1, sorts_1, starts_1, contents_1, bound_2, modulus_2, seed_2, functions_2, numbers_2, names_2, kinds_2, firsts_2, seconds_2, degrees_2, colours_2, needs_2, rfl, rfl, h⟩
          · replace h := h.2 c_5
            refine g_aload_n C dX5_read_68 0 rfl ?_
            obtain ⟨P_4, hP, h⟩ := h
            refine g_callV (As := []) (rest := []) C (mX5_readLine l D Y h0 q_tape lines_1 faulty_1 place_1 q_plan token_1 toldOnce_1 fed_1 (.ref q_tape_bytes) q_tape_sorts q_tape_starts q_tape_contents length_1 tokens_1 atF_1 sorts_1 contents_1 starts_1 bound_2 modulus_2 seed_2 functions_2 q_plan_names q_plan_kinds q_plan_firsts q_plan_seconds q_plan_degrees q_plan_colours q_plan_needs q_plan_numbers names_2 kinds_2 firsts_2 seconds_2 degrees_2 colours_2 needs_2 numbers_2 P_4 hP) dX5_read_69 rfl wM_X5_52 wI_X5_readLine wV_X5_readLine wN_X5 wC_X5_readLine (n := 0) (by decide +kernel) rfl (q0 := 0) rfl rfl ⟨Nat.le_of_ble_eq_true rfl, Nat.le_of_ble_eq_true rfl⟩ ⟨Nat.le_of_ble_eq_true rfl, Nat.le_of_ble_eq_true rfl⟩ (Nat.le_of_ble_eq_true rfl) [0, 1, 3, 5, 4, 6, 8, 9, 10, 11, 12, 13, 14, 7] [2] rfl rfl rfl (fun v wc hv => ?_)
            obtain ⟨rF_2, faulty_2, place_2, token_2, toldOnce_2, plan_bound_1, plan_modulus_1, plan_seed_1, plan_functions_1, plan_names_1, plan_kinds_1, plan_firsts_1, plan_seconds_1, plan_degrees_1, plan_colours_1, plan_needs_1, plan_numbers_1, rfl, rfl, hq⟩ := hv
            replace h := h rF_2 faulty_2 place_2 token_2 toldOnce_2 plan_bound_1 plan_modulus_1 plan_seed_1 plan_functions_1 plan_names_1 plan_kinds_1 plan_firsts_1 plan_seconds_1 plan_degrees_1 plan_colours_1 plan_needs_1 plan_numbers_1 hq
            refine gG.perm (ws' := [oX5 h0 (.ref q_tape) lines_1 faulty_2 place_2 (.ref q_plan) token_2 toldOnce_2, oX9 q_tape fed_1 (.ref q_tape_bytes) (.ref q_tape_sorts) (.ref q_tape_starts) (.ref q_tape_contents) length_1 tokens_1 atF_1, aI Y q_tape_bytes 700 tape_bytes, aI Y q_tape_sorts 701 sorts_1, aI Y q_tape_starts 701 starts_1, aI Y q_tape_contents 701 contents_1, oX3 q_plan plan_bound_1 plan_modulus_1 plan_seed_1 plan_functions_1 (.ref q_plan_names) (.ref q_plan_kinds) (.ref q_plan_firsts) (.ref q_plan_seconds) (.ref q_plan_degrees) (.ref q_plan_colours) (.ref q_plan_needs) (.ref q_plan_numbers), aI Y q_plan_numbers 144 plan_numbers_1, aI Y q_plan_names 12 plan_names_1, aI Y q_plan_kinds 12 plan_kinds_1, aI Y q_plan_firsts 12 plan_firsts_1, aI Y q_plan_seconds 12 plan_seconds_1, aI Y q_plan_degrees 12 plan_degrees_1, aI Y q_plan_colours 12 plan_colours_1, aI Y q_plan_needs 12 plan_needs_1]) [1, 2, 0, 3, 5, 4, 6, 14, 7, 8, 9, 10, 11, 12, 13] rfl rfl ?_
            refine g_if_eq (tgt := 102) C dX5_read_72 (by decide) (fun c_7 => ?_) (fun c_7 => ?_)
            · replace h := h.1 c_7
              refine g_iinc (v := x2_1 + 1) (lv' := [(2, .int (x2_1 + 1)), (0, .ref h0), (1, .int a1)]) C dX5_read_102 2 rfl rfl (by decide) rfl ?_
              refine g_goto (tgt := 42) C dX5_read_105 (by decide) ?_
              refine gG.locals (lv' := [(0, .ref h0), (1, .int a1), (2, .int (x2_1 + 1))]) [1, 2, 0] rfl ?_
              exact ih1 plan_colours_1 plan_degrees_1 plan_firsts_1 plan_kinds_1 plan_names_1 plan_needs_1 plan_numbers_1 plan_seconds_1 lines_1 faulty_2 place_2 token_2 toldOnce_2 plan_bound_1 plan_modulus_1 plan_seed_1 plan_functions_1 (x2_1 + 1) (Nat.lt_of_lt_of_le h.2 (Nat.le_of_lt_succ hm1)) h.1
            · replace h := h.2 c_7
              refine g_aload_n C dX5_read_75 0 rfl ?_
              obtain ⟨P_5, hP, h⟩ := h
              refine g_callV (As := []) (rest := []) C (mX5_takeStop l D Y h0 q_tape lines_1 faulty_2 place_2 (.ref q_plan) token_2 toldOnce_2 fed_1 (.ref q_tape_bytes) q_tape_sorts q_tape_starts (.ref q_tape_contents) length_1 tokens_1 atF_1 sorts_1 starts_1 P_5 hP) dX5_read_76 rfl wM_X5_56 wI_X5_takeStop wV_X5_takeStop wN_X5 wC_X5_takeStop (n := 0) (by decide +kernel) rfl (q0 := 0) rfl rfl ⟨Nat.le_of_ble_eq_true rfl, Nat.le_of_ble_eq_true rfl⟩ ⟨Nat.le_of_ble_eq_true rfl, Nat.le_of_ble_eq_true rfl⟩ (Nat.le_of_ble_eq_true rfl) [0, 1, 3, 4] [2, 5, 6, 7, 8, 9, 10, 11, 12, 13, 14] rfl rfl rfl (fun v wc hv => ?_)
              obtain ⟨rF_3, faulty_3, place_3, token_3, rfl, rfl, hq⟩ := hv
              replace h := h rF_3 faulty_3 place_3 token_3 hq
              refine gG.perm (ws' := [oX5 h0 (.ref q_tape) lines_1 faulty_3 place_3 (.ref q_plan) token_3 toldOnce_2, oX9 q_tape fed_1 (.ref q_tape_bytes) (.ref q_tape_sorts) (.ref q_tape_starts) (.ref q_tape_contents) length_1 tokens_1 atF_1, aI Y q_tape_bytes 700 tape_bytes, aI Y q_tape_sorts 701 sorts_1, aI Y q_tape_starts 701 starts_1, aI Y q_tape_contents 701 contents_1, oX3 q_plan plan_bound_1 plan_modulus_1 plan_seed_1 plan_functions_1 (.ref q_plan_names) (.ref q_plan_kinds) (.ref q_plan_firsts) (.ref q_plan_seconds) (.ref q_plan_degrees) (.ref q_plan_colours) (.ref q_plan_needs) (.ref q_plan_numbers), aI Y q_plan_numbers 144 plan_numbers_1, aI Y q_plan_names 12 plan_names_1, aI Y q_plan_kinds 12 plan_kinds_1, aI Y q_plan_firsts 12 plan_firsts_1, aI Y q_plan_seconds 12 plan_seconds_1, aI Y q_plan_degrees 12 plan_degrees_1, aI Y q_plan_colours 12 plan_colours_1, aI Y q_plan_needs 12 plan_needs_1]) [11, 12, 0, 13, 14, 1, 2, 3, 4, 5, 6, 7, 8, 9, 10] rfl rfl ?_
              refine g_if_eq (tgt := 102) C dX5_read_79 (by decide) (fun c_8 => ?_) (fun c_8 => ?_)
              · replace h := h.1 c_8
                refine g_iinc (v := x2_1 + 1) (lv' := [(2, .int (x2_1 + 1)), (0, .ref h0), (1, .int a1)]) C dX5_read_102 2 rfl rfl (by decide) rfl ?_
                refine g_goto (tgt := 42) C dX5_read_105 (by decide) ?_
                refine gG.locals (lv' := [(0, .ref h0), (1, .int a1), (2, .int (x2_1 + 1))]) [1, 2, 0] rfl ?_
                exact ih1 plan_colours_1 plan_degrees_1 plan_firsts_1 plan_kinds_1 plan_names_1 plan_needs_1 plan_numbers_1 plan_seconds_1 lines_1 faulty_3 place_3 token_3 toldOnce_2 plan_bound_1 plan_modulus_1 plan_seed_1 plan_functions_1 (x2_1 + 1) (Nat.lt_of_lt_of_le h.2 (Nat.le_of_lt_succ hm1)) h.1
              · replace h := h.2 c_8
                refine g_aload_n C dX5_read_82 0 rfl ?_
                refine g_dup C dX5_read_83 rfl ?_
                refine g_get C inX5 0 rfl rfl 1 (by decide) wF_X5_42 rfl dX5_read_84 ?_
                refine g_iconst (v := 1) C dX5_read_87 rfl ?_
                refine g_iadd C dX5_read_88 ?_
                refine g_topi (fun lines_2 elines_2 => ?_)
                replace h := h lines_2 elines_2
                refine g_put C inX5 tyX5 tyX5_ok nmX5 0 rfl rfl 1 (by decide) wF_X5_42 rfl rfl rfl (Nat.le_of_ble_eq_true rfl) (ws' := [oX5 h0 (.ref q_tape) lines_2 faulty_3 place_3 (.ref q_plan) token_3 toldOnce_2, oX9 q_tape fed_1 (.ref q_tape_bytes) (.ref q_tape_sorts) (.ref q_tape_starts) (.ref q_tape_contents) length_1 tokens_1 atF_1, aI Y q_tape_bytes 700 tape_bytes, aI Y q_tape_sorts 701 sorts_1, aI Y q_tape_starts 701 starts_1, aI Y q_tape_contents 701 contents_1, oX3 q_plan plan_bound_1 plan_modulus_1 plan_seed_1 plan_functions_1 (.ref q_plan_names) (.ref q_plan_kinds) (.ref q_plan_firsts) (.ref q_plan_seconds) (.ref q_plan_degrees) (.ref q_plan_colours) (.ref q_plan_needs) (.ref q_plan_numbers), aI Y q_plan_numbers 144 plan_numbers_1, aI Y q_plan_names 12 plan_names_1, aI Y q_plan_kinds 12 plan_kinds_1, aI Y q_plan_firsts 12 plan_firsts_1, aI Y q_plan_seconds 12 plan_seconds_1, aI Y q_plan_degrees 12 plan_degrees_1, aI Y q_plan_colours 12 plan_colours_1, aI Y q_plan_needs 12 plan_needs_1]) rfl dX5_read_89 ?_
                refine g_aload_n C dX5_read_92 0 rfl ?_
                refine g_dup C dX5_read_93 rfl ?_
                refine g_get C inX5 0 rfl rfl 5 (by decide) wF_X5_36 rfl dX5_read_94 ?_
                refine g_iconst (v := 1) C dX5_read_97 rfl ?_
                refine g_iadd C dX5_read_98 ?_
                refine g_topi (fun token_4 etoken_4 => ?_)
                replace h := h token_4 etoken_4
                refine g_put C inX5 tyX5 tyX5_ok nmX5 0 rfl rfl 5 (by decide) wF_X5_36 rfl rfl rfl (Nat.le_of_ble_eq_true rfl) (ws' := [oX5 h0 (.ref q_tape) lines_2 faulty_3 place_3 (.ref q_plan) token_4 toldOnce_2, oX9 q_tape fed_1 (.ref q_tape_bytes) (.ref q_tape_sorts) (.ref q_tape_starts) (.ref q_tape_contents) length_1 tokens_1 atF_1, aI Y q_tape_bytes 700 tape_bytes, aI Y q_tape_sorts 701 sorts_1, aI Y q_tape_starts 701 starts_1, aI Y q_tape_contents 701 contents_1, oX3 q_plan plan_bound_1 plan_modulus_1 plan_seed_1 plan_functions_1 (.ref q_plan_names) (.ref q_plan_kinds) (.ref q_plan_firsts) (.ref q_plan_seconds) (.ref q_plan_degrees) (.ref q_plan_colours) (.ref q_plan_needs) (.ref q_plan_numbers), aI Y q_plan_numbers 144 plan_numbers_1, aI Y q_plan_names 12 plan_names_1, aI Y q_plan_kinds 12 plan_kinds_1, aI Y q_plan_firsts 12 plan_firsts_1, aI Y q_plan_seconds 12 plan_seconds_1, aI Y q_plan_degrees 12 plan_degrees_1, aI Y q_plan_colours 12 plan_colours_1, aI Y q_plan_needs 12 plan_needs_1]) rfl dX5_read_99 ?_
                refine g_iinc (v := x2_1 + 1) (lv' := [(2, .int (x2_1 + 1)), (0, .ref h0), (1, .int a1)]) C dX5_read_102 2 rfl rfl (by decide) rfl ?_
                refine g_goto (tgt := 42) C dX5_read_105 (by decide) ?_
                refine gG.locals (lv' := [(0, .ref h0), (1, .int a1), (2, .int (x2_1 + 1))]) [1, 2, 0] rfl ?_
                exact ih1 plan_colours_1 plan_degrees_1 plan_firsts_1 plan_kinds_1 plan_names_1 plan_needs_1 plan_numbers_1 plan_seconds_1 lines_2 faulty_3 place_3 token_4 toldOnce_2 plan_bound_1 plan_modulus_1 plan_seed_1 plan_functions_1 (x2_1 + 1) (Nat.lt_of_lt_of_le h.2 (Nat.le_of_lt_succ hm1)) h.1
  refine gG.locals (lv' := [(0, .ref h0), (1, .int a1), (2, .int 0)]) [1, 2, 0] rfl ?_
  exact key_1 (Mea_1 colours_1 degrees_1 firsts_1 kinds_1 names_1 needs_1 numbers_1 seconds_1 0 0 (-1) 0 0 bound_1 modulus_1 seed_1 functions_1 0 + 1) colours_1 degrees_1 firsts_1 kinds_1 names_1 needs_1 numbers_1 seconds_1 0 0 (-1) 0 0 bound_1 modulus_1 seed_1 functions_1 0 (Nat.lt_succ_self _) hI1
theorem dX5_swap_0 : decode cX5_swap 0 = .ok (.aload_n 0, 1) := by decide +kernel
theorem dX5_swap_1 : decode cX5_swap 1 = .ok (.getfield 25, 3) := by decide +kernel
theorem dX5_swap_4 : decode cX5_swap 4 = .ok (.astore_n 2, 1) := by decide +kernel
theorem dX5_swap_5 : decode cX5_swap 5 = .ok (.aload_n 0, 1) := by decide +kernel
theorem dX5_swap_6 : decode cX5_swap 6 = .ok (.aload_n 1, 1) := by decide +kernel
theorem dX5_swap_7 : decode cX5_swap 7 = .ok (.putfield 25, 3) := by decide +kernel
theorem dX5_swap_10 : decode cX5_swap 10 = .ok (.aload_n 2, 1) := by decide +kernel
theorem dX5_swap_11 : decode cX5_swap 11 = .ok (.areturn, 1) := by decide +kernel
/-- QuotientSums$Reader.swap(LQuotientSums$Plan;)LQuotientSums$Plan; -/
def wX5_swap (lines : Int32) (faulty : Int32) (place : Int32) (token : Int32) (toldOnce : Int32)  (Q : Prop) : Prop :=
  (Q)
set_option maxHeartbeats 4000000 in
set_option maxRecDepth 100000 in
theorem mX5_swap (l : Launch) (D : va_G) (Y : Nat → ClassId) (h0 : Nat) (q_a1 : Nat) (v_tape : Value) (lines : Int32) (faulty : Int32) (place : Int32) (q_plan : Nat) (token : Int32) (toldOnce : Int32)  (Q : Prop) (h : wX5_swap lines faulty place token toldOnce Q) : gM l D Y yX5_swap cX5_swap 3 (some (.object "QuotientSums$Plan")) 0 0 0 0 [.ref h0, .ref q_a1] [oX5 h0 (v_tape) lines faulty place (.ref q_plan) token toldOnce] (fun v w => v = some (.ref q_plan) ∧ w = [oX5 h0 (v_tape) lines faulty place (.ref q_a1) token toldOnce] ∧ Q ) := by
  refine gM_of (own := RX5) (by decide +kernel) rfl (Nat.le_of_ble_eq_true rfl) rfl (fun E C hR => ?_)
  unfold wX5_swap at h
  refine g_aload_n C dX5_swap_0 0 rfl ?_
  refine g_get C inX5 0 rfl rfl 4 (by decide) wF_X5_25 rfl dX5_swap_1 ?_
  refine g_astore_n (lv' := [(2, .ref q_plan), (0, .ref h0), (1, .ref q_a1)]) C dX5_swap_4 (by decide) rfl ?_
  refine g_aload_n C dX5_swap_5 1 rfl ?_
  refine g_aload_n C dX5_swap_6 2 rfl ?_
  refine g_put C inX5 tyX5 tyX5_ok nmX5 0 rfl rfl 4 (by decide) wF_X5_25 rfl rfl rfl (Nat.le_of_ble_eq_true rfl) (ws' := [oX5 h0 (v_tape) lines faulty place (.ref q_a1) token toldOnce]) rfl dX5_swap_7 ?_
  refine g_aload_n C dX5_swap_10 0 rfl ?_
  exact g_aret C hR (by first | exact Or.inl ⟨_, rfl⟩ | exact Or.inr ⟨_, rfl⟩) (Nat.le_of_ble_eq_true rfl) (Nat.le_of_ble_eq_true rfl) dX5_swap_11 ⟨rfl, rfl, h⟩
