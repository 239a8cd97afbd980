theorem dX11_readOnce_0 : decode cX11_readOnce 0 = .ok (.aload_n 0, 1) := by decide +kernel
theorem dX11_readOnce_1 : decode cX11_readOnce 1 = .ok (.getfield 16, 3) := by decide +kernel
theorem dX11_readOnce_4 : decode cX11_readOnce 4 = .ok (.iload_n 1, 1) := by decide +kernel
theorem dX11_readOnce_5 : decode cX11_readOnce 5 = .ok (.baload, 1) := by decide +kernel
theorem dX11_readOnce_6 : decode cX11_readOnce 6 = .ok (.ifCond .eq 8, 3) := by decide +kernel
theorem dX11_readOnce_9 : decode cX11_readOnce 9 = .ok (.aload_n 0, 1) := by decide +kernel
theorem dX11_readOnce_10 : decode cX11_readOnce 10 = .ok (.iconst 3, 1) := by decide +kernel
theorem dX11_readOnce_11 : decode cX11_readOnce 11 = .ok (.invokevirtual 151, 3) := by decide +kernel
theorem dX11_readOnce_14 : decode cX11_readOnce 14 = .ok (.aload_n 0, 1) := by decide +kernel
theorem dX11_readOnce_15 : decode cX11_readOnce 15 = .ok (.getfield 16, 3) := by decide +kernel
theorem dX11_readOnce_18 : decode cX11_readOnce 18 = .ok (.iload_n 1, 1) := by decide +kernel
theorem dX11_readOnce_19 : decode cX11_readOnce 19 = .ok (.iconst 1, 1) := by decide +kernel
theorem dX11_readOnce_20 : decode cX11_readOnce 20 = .ok (.bastore, 1) := by decide +kernel
theorem dX11_readOnce_21 : decode cX11_readOnce 21 = .ok (.aload_n 0, 1) := by decide +kernel
theorem dX11_readOnce_22 : decode cX11_readOnce 22 = .ok (.invokevirtual 155, 3) := by decide +kernel
theorem dX11_readOnce_25 : decode cX11_readOnce 25 = .ok (.aload_n 0, 1) := by decide +kernel
theorem dX11_readOnce_26 : decode cX11_readOnce 26 = .ok (.iload_n 2, 1) := by decide +kernel
theorem dX11_readOnce_27 : decode cX11_readOnce 27 = .ok (.aload_n 0, 1) := by decide +kernel
theorem dX11_readOnce_28 : decode cX11_readOnce 28 = .ok (.iconst 0, 1) := by decide +kernel
theorem dX11_readOnce_29 : decode cX11_readOnce 29 = .ok (.iload_n 3, 1) := by decide +kernel
theorem dX11_readOnce_30 : decode cX11_readOnce 30 = .ok (.iload 4, 2) := by decide +kernel
theorem dX11_readOnce_32 : decode cX11_readOnce 32 = .ok (.invokevirtual 158, 3) := by decide +kernel
theorem dX11_readOnce_35 : decode cX11_readOnce 35 = .ok (.invokevirtual 162, 3) := by decide +kernel
theorem dX11_readOnce_38 : decode cX11_readOnce 38 = .ok (.return_, 1) := by decide +kernel
/-- QuotientSumsModel.readOnce(IIII)V -/
def wX11_readOnce (thrown : Int32) (taped : Int32) (lines : Int32) (size : Int32) (atF : Int32) (place : Int32) (sort : Int32) (value : Int32) (fault : Int32) (faultPlace : Int32) (lastFault : Int32) (lastPlace : Int32) (undoable : Int32) (hasImage : Int32) (rowOf : Int32) (areSums : Int32) (isSieved : Int32) (blocks : Int32) (drawn : Int32) (isTold : Nat → Int32) (tape : Nat → Int32) (number : Nat → Int32) (a1 : Int32) (a2 : Int32) (a3 : Int32) (a4 : Int32) (Q : (Int32) → (Int32) → (Int32) → (Int32) → (Int32) → (Int32) → (Nat → Int32) → (Nat → Int32) → Prop) : Prop :=
  (vp_in a1 9 ∧ (∃ (J_1 : (Int32) → (Int32) → Prop), (((isTold a1.toNatClampNeg) = 0 → (J_1 fault faultPlace)) ∧ (¬ (isTold a1.toNatClampNeg) = 0 → (∃ (P_4 : (Int32) → (Int32) → Prop), wX11_wrong thrown taped lines size atF place sort value fault faultPlace lastFault lastPlace undoable hasImage rowOf areSums isSieved blocks drawn 3 P_4 ∧ ∀ (fault_3 : Int32) (faultPlace_3 : Int32), P_4 fault_3 faultPlace_3 → (J_1 fault_3 faultPlace_3)))) ∧ (∀ (fault_1 : Int32) (faultPlace_1 : Int32), J_1 fault_1 faultPlace_1 → (vp_in a1 9 ∧ ∀ isTold_1 : Nat → Int32, isTold_1 = upd isTold a1.toNatClampNeg (vp_nar .boolean 1) → ∃ (P_1 : (Int32) → (Int32) → (Int32) → (Int32) → Prop), wX11_goOn thrown taped lines size atF place sort value fault_1 faultPlace_1 lastFault lastPlace undoable hasImage rowOf areSums isSieved blocks drawn tape P_1 ∧ ∀ (atF_1 : Int32) (place_1 : Int32) (sort_1 : Int32) (value_1 : Int32), P_1 atF_1 place_1 sort_1 value_1 → ∃ (P_2 : (Int32) → (Int32) → (Int32) → (Int32) → (Int32) → (Int32) → (Int32) → Prop), wX11_numeralOf thrown taped lines size atF_1 place_1 sort_1 value_1 fault_1 faultPlace_1 lastFault lastPlace undoable hasImage rowOf areSums isSieved blocks drawn tape 0 a3 a4 P_2 ∧ ∀ (rF_1 : Int32) (atF_2 : Int32) (place_2 : Int32) (sort_2 : Int32) (value_2 : Int32) (fault_2 : Int32) (faultPlace_2 : Int32), P_2 rF_1 atF_2 place_2 sort_2 value_2 fault_2 faultPlace_2 → ∃ (P_3 : (Nat → Int32) → Prop), wX11_reads thrown taped lines size atF_2 place_2 sort_2 value_2 fault_2 faultPlace_2 lastFault lastPlace undoable hasImage rowOf areSums isSieved blocks drawn number a2 rF_1 P_3 ∧ ∀ (number_1 : Nat → Int32), P_3 number_1 → (Q atF_2 place_2 sort_2 value_2 fault_2 faultPlace_2 isTold_1 number_1)))))
set_option maxHeartbeats 4000000 in
set_option maxRecDepth 100000 in
theorem mX11_readOnce (l : Launch) (D : va_G) (Y : Nat → ClassId) (h0 : Nat) (thrown : Int32) (q_tape : Nat) (taped : Int32) (q_number : Nat) (q_isTold : Nat) (v_name : Value) (v_sortOf : Value) (v_first : Value) (v_second : Value) (v_degree : Value) (v_colours : Value) (v_signBy : Value) (v_own : Value) (lines : Int32) (size : Int32) (atF : Int32) (place : Int32) (sort : Int32) (value : Int32) (fault : Int32) (faultPlace : Int32) (lastFault : Int32) (lastPlace : Int32) (v_sF : Value) (v_kept : Value) (undoable : Int32) (hasImage : Int32) (v_power : Value) (v_table : Value) (v_marks : Value) (v_row : Value) (rowOf : Int32) (areSums : Int32) (isSieved : Int32) (v_lastOf : Value) (blocks : Int32) (v_inBlock : Value) (v_atQuotient : Value) (v_small : Value) (drawn : Int32) (isTold : Nat → Int32) (tape : Nat → Int32) (number : Nat → Int32) (a1 : Int32) (a2 : Int32) (a3 : Int32) (a4 : Int32) (Q : (Int32) → (Int32) → (Int32) → (Int32) → (Int32) → (Int32) → (Nat → Int32) → (Nat → Int32) → Prop) (h : wX11_readOnce thrown taped lines size atF place sort value fault faultPlace lastFault lastPlace undoable hasImage rowOf areSums isSieved blocks drawn isTold tape number a1 a2 a3 a4 Q) : gM l D Y yX11_readOnce cX11_readOnce 5 none 8 173 0 0 [.ref h0, .int a1, .int a2, .int a3, .int a4] [oX11 h0 thrown (.ref q_tape) taped (.ref q_number) (.ref q_isTold) (v_name) (v_sortOf) (v_first) (v_second) (v_degree) (v_colours) (v_signBy) (v_own) lines size atF place sort value fault faultPlace lastFault lastPlace (v_sF) (v_kept) undoable hasImage (v_power) (v_table) (v_marks) (v_row) rowOf areSums isSieved (v_lastOf) blocks (v_inBlock) (v_atQuotient) (v_small) drawn, aZ Y q_isTold 9 isTold, aI Y q_tape 700 tape, aI Y q_number 8 number] (fun v w => ∃ atF' : Int32, ∃ place' : Int32, ∃ sort' : Int32, ∃ value' : Int32, ∃ fault' : Int32, ∃ faultPlace' : Int32, ∃ isTold' : Nat → Int32, ∃ number' : Nat → Int32, v = none ∧ w = [oX11 h0 thrown (.ref q_tape) taped (.ref q_number) (.ref q_isTold) (v_name) (v_sortOf) (v_first) (v_second) (v_degree) (v_colours) (v_signBy) (v_own) lines size atF' place' sort' value' fault' faultPlace' lastFault lastPlace (v_sF) (v_kept) undoable hasImage (v_power) (v_table) (v_marks) (v_row) rowOf areSums isSieved (v_lastOf) blocks (v_inBlock) (v_atQuotient) (v_small) drawn, aZ Y q_isTold 9 isTold', aI Y q_tape 700 tape, aI Y q_number 8 number'] ∧ Q atF' place' sort' value' fault' faultPlace' isTold' number') := by
  refine gM_of (own := RX11) (by decide +kernel) rfl (Nat.le_of_ble_eq_true rfl) rfl (fun E C hR => ?_)
  unfold wX11_readOnce at h
  refine g_aload_n C dX11_readOnce_0 0 rfl ?_
  refine g_get C inX11 0 rfl rfl 4 (by decide) wF_X11_16 rfl dX11_readOnce_1 ?_
  refine g_iload_n C dX11_readOnce_4 1 rfl ?_
  obtain ⟨hc_1, h⟩ := h
  refine g_zald C 1 rfl hc_1 dX11_readOnce_5 ?_
  obtain ⟨J_1, hA, hB_J_1⟩ := h
  have key_1 : ∀ (fault_1 : Int32) (faultPlace_1 : Int32), J_1 fault_1 faultPlace_1 → gG E 0 0 [oX11 h0 thrown (.ref q_tape) taped (.ref q_number) (.ref q_isTold) (v_name) (v_sortOf) (v_first) (v_second) (v_degree) (v_colours) (v_signBy) (v_own) lines size atF place sort value fault_1 faultPlace_1 lastFault lastPlace (v_sF) (v_kept) undoable hasImage (v_power) (v_table) (v_marks) (v_row) rowOf areSums isSieved (v_lastOf) blocks (v_inBlock) (v_atQuotient) (v_small) drawn, aZ Y q_isTold 9 isTold, aI Y q_tape 700 tape, aI Y q_number 8 number] [(0, .ref h0), (1, .int a1), (2, .int a2), (3, .int a3), (4, .int a4)] [] 14 := by
    intro fault_1 faultPlace_1 hJ
    have h := hB_J_1 fault_1 faultPlace_1 hJ
    refine g_aload_n C dX11_readOnce_14 0 rfl ?_
    refine g_get C inX11 0 rfl rfl 4 (by decide) wF_X11_16 rfl dX11_readOnce_15 ?_
    refine g_iload_n C dX11_readOnce_18 1 rfl ?_
    refine g_iconst (v := 1) C dX11_readOnce_19 rfl ?_
    obtain ⟨hc_2, h⟩ := h
    refine g_zast C 1 rfl hc_2 dX11_readOnce_20 (fun isTold_1 eisTold_1 => gG.eqw (ws' := [oX11 h0 thrown (.ref q_tape) taped (.ref q_number) (.ref q_isTold) (v_name) (v_sortOf) (v_first) (v_second) (v_degree) (v_colours) (v_signBy) (v_own) lines size atF place sort value fault_1 faultPlace_1 lastFault lastPlace (v_sF) (v_kept) undoable hasImage (v_power) (v_table) (v_marks) (v_row) rowOf areSums isSieved (v_lastOf) blocks (v_inBlock) (v_atQuotient) (v_small) drawn, aZ Y q_isTold 9 isTold_1, aI Y q_tape 700 tape, aI Y q_number 8 number]) rfl ?_)
    replace h := h isTold_1 eisTold_1
    refine g_aload_n C dX11_readOnce_21 0 rfl ?_
    obtain ⟨P_1, hP, h⟩ := h
    refine g_callV (As := []) (rest := []) C (mX11_goOn l D Y h0 thrown q_tape taped (.ref q_number) (.ref q_isTold) v_name v_sortOf v_first v_second v_degree v_colours v_signBy v_own lines size atF place sort value fault_1 faultPlace_1 lastFault lastPlace v_sF v_kept undoable hasImage v_power v_table v_marks v_row rowOf areSums isSieved v_lastOf blocks v_inBlock v_atQuotient v_small drawn tape P_1 hP) dX11_readOnce_22 rfl wM_X11_155 wI_X11_goOn wV_X11_goOn wN_X11 wC_X11_goOn (n := 0) (by decide +kernel) rfl (q0 := 0) rfl rfl ⟨Nat.le_of_ble_eq_true rfl, Nat.le_of_ble_eq_true rfl⟩ ⟨Nat.le_of_ble_eq_true rfl, Nat.le_of_ble_eq_true rfl⟩ (Nat.le_of_ble_eq_true rfl) [0, 2] [1, 3] rfl rfl rfl (fun v wc hv => ?_)
    obtain ⟨atF_1, place_1, sort_1, value_1, rfl, rfl, hq⟩ := hv
    replace h := h atF_1 place_1 sort_1 value_1 hq
    refine gG.perm (ws' := [oX11 h0 thrown (.ref q_tape) taped (.ref q_number) (.ref q_isTold) (v_name) (v_sortOf) (v_first) (v_second) (v_degree) (v_colours) (v_signBy) (v_own) lines size atF_1 place_1 sort_1 value_1 fault_1 faultPlace_1 lastFault lastPlace (v_sF) (v_kept) undoable hasImage (v_power) (v_table) (v_marks) (v_row) rowOf areSums isSieved (v_lastOf) blocks (v_inBlock) (v_atQuotient) (v_small) drawn, aZ Y q_isTold 9 isTold_1, aI Y q_tape 700 tape, aI Y q_number 8 number]) [2, 0, 3, 1] rfl rfl ?_
    refine g_aload_n C dX11_readOnce_25 0 rfl ?_
    refine g_iload_n C dX11_readOnce_26 2 rfl ?_
    refine g_aload_n C dX11_readOnce_27 0 rfl ?_
    refine g_iconst (v := 0) C dX11_readOnce_28 rfl ?_
    refine g_iload_n C dX11_readOnce_29 3 rfl ?_
    refine g_iload C dX11_readOnce_30 4 rfl ?_
    obtain ⟨P_2, hP, h⟩ := h
    refine g_callV (As := [.int 0, .int a3, .int a4]) (rest := [.int a2, .ref h0]) C (mX11_numeralOf l D Y h0 thrown q_tape taped (.ref q_number) (.ref q_isTold) v_name v_sortOf v_first v_second v_degree v_colours v_signBy v_own lines size atF_1 place_1 sort_1 value_1 fault_1 faultPlace_1 lastFault lastPlace v_sF v_kept undoable hasImage v_power v_table v_marks v_row rowOf areSums isSieved v_lastOf blocks v_inBlock v_atQuotient v_small drawn tape 0 a3 a4 P_2 hP) dX11_readOnce_32 rfl wM_X11_158 wI_X11_numeralOf wV_X11_numeralOf wN_X11 wC_X11_numeralOf (n := 3) (by decide +kernel) rfl (q0 := 0) rfl rfl ⟨Nat.le_of_ble_eq_true rfl, Nat.le_of_ble_eq_true rfl⟩ ⟨Nat.le_of_ble_eq_true rfl, Nat.le_of_ble_eq_true rfl⟩ (Nat.le_of_ble_eq_true rfl) [0, 2] [1, 3] rfl rfl rfl (fun v wc hv => ?_)
    obtain ⟨rF_1, atF_2, place_2, sort_2, value_2, fault_2, faultPlace_2, rfl, rfl, hq⟩ := hv
    replace h := h rF_1 atF_2 place_2 sort_2 value_2 fault_2 faultPlace_2 hq
    refine gG.perm (ws' := [oX11 h0 thrown (.ref q_tape) taped (.ref q_number) (.ref q_isTold) (v_name) (v_sortOf) (v_first) (v_second) (v_degree) (v_colours) (v_signBy) (v_own) lines size atF_2 place_2 sort_2 value_2 fault_2 faultPlace_2 lastFault lastPlace (v_sF) (v_kept) undoable hasImage (v_power) (v_table) (v_marks) (v_row) rowOf areSums isSieved (v_lastOf) blocks (v_inBlock) (v_atQuotient) (v_small) drawn, aZ Y q_isTold 9 isTold_1, aI Y q_tape 700 tape, aI Y q_number 8 number]) [2, 0, 3, 1] rfl rfl ?_
    obtain ⟨P_3, hP, h⟩ := h
    refine g_callV (As := [.int a2, .int rF_1]) (rest := []) C (mX11_reads l D Y h0 thrown (.ref q_tape) taped q_number (.ref q_isTold) v_name v_sortOf v_first v_second v_degree v_colours v_signBy v_own lines size atF_2 place_2 sort_2 value_2 fault_2 faultPlace_2 lastFault lastPlace v_sF v_kept undoable hasImage v_power v_table v_marks v_row rowOf areSums isSieved v_lastOf blocks v_inBlock v_atQuotient v_small drawn number a2 rF_1 P_3 hP) dX11_readOnce_35 rfl wM_X11_162 wI_X11_reads wV_X11_reads wN_X11 wC_X11_reads (n := 2) (by decide +kernel) rfl (q0 := 0) rfl rfl ⟨Nat.le_of_ble_eq_true rfl, Nat.le_of_ble_eq_true rfl⟩ ⟨Nat.le_of_ble_eq_true rfl, Nat.le_of_ble_eq_true rfl⟩ (Nat.le_of_ble_eq_true rfl) [0, 3] [1, 2] rfl rfl rfl (fun v wc hv => ?_)
    obtain ⟨number_1, rfl, rfl, hq⟩ := hv
    replace h := h number_1 hq
    refine gG.perm (ws' := [oX11 h0 thrown (.ref q_tape) taped (.ref q_number) (.ref q_isTold) (v_name) (v_sortOf) (v_first) (v_second) (v_degree) (v_colours) (v_signBy) (v_own) lines size atF_2 place_2 sort_2 value_2 fault_2 faultPlace_2 lastFault lastPlace (v_sF) (v_kept) undoable hasImage (v_power) (v_table) (v_marks) (v_row) rowOf areSums isSieved (v_lastOf) blocks (v_inBlock) (v_atQuotient) (v_small) drawn, aZ Y q_isTold 9 isTold_1, aI Y q_tape 700 tape, aI Y q_number 8 number_1]) [2, 0, 1, 3] rfl rfl ?_
    exact g_vret C hR (Nat.le_of_ble_eq_true rfl) (Nat.le_of_ble_eq_true rfl) dX11_readOnce_38 ⟨atF_2, place_2, sort_2, value_2, fault_2, faultPlace_2, isTold_1, number_1, rfl, rfl, h⟩
  replace h := hA
  refine g_if_eq (tgt := 14) C dX11_readOnce_6 (by decide) (fun c_1 => ?_) (fun c_1 => ?_)
  · replace h := h.1 c_1
    exact key_1 fault faultPlace h
  · replace h := h.2 c_1
    refine g_aload_n C dX11_readOnce_9 0 rfl ?_
    refine g_iconst (v := 3) C dX11_readOnce_10 rfl ?_
    obtain ⟨P_4, hP, h⟩ := h
    refine g_callV (As := [.int 3]) (rest := []) C (mX11_wrong l D Y h0 thrown (.ref q_tape) taped (.ref q_number) (.ref q_isTold) v_name v_sortOf v_first v_second v_degree v_colours v_signBy v_own lines size atF place sort value fault faultPlace lastFault lastPlace v_sF v_kept undoable hasImage v_power v_table v_marks v_row rowOf areSums isSieved v_lastOf blocks v_inBlock v_atQuotient v_small drawn 3 P_4 hP) dX11_readOnce_11 rfl wM_X11_151 wI_X11_wrong wV_X11_wrong wN_X11 wC_X11_wrong (n := 1) (by decide +kernel) rfl (q0 := 0) rfl rfl ⟨Nat.le_of_ble_eq_true rfl, Nat.le_of_ble_eq_true rfl⟩ ⟨Nat.le_of_ble_eq_true rfl, Nat.le_of_ble_eq_true rfl⟩ (Nat.le_of_ble_eq_true rfl) [0] [1, 2, 3] rfl rfl rfl (fun v wc hv => ?_)
    obtain ⟨fault_3, faultPlace_3, rfl, rfl, hq⟩ := hv
    replace h := h fault_3 faultPlace_3 hq
    refine gG.perm (ws' := [oX11 h0 thrown (.ref q_tape) taped (.ref q_number) (.ref q_isTold) (v_name) (v_sortOf) (v_first) (v_second) (v_degree) (v_colours) (v_signBy) (v_own) lines size atF place sort value fault_3 faultPlace_3 lastFault lastPlace (v_sF) (v_kept) undoable hasImage (v_power) (v_table) (v_marks) (v_row) rowOf areSums isSieved (v_lastOf) blocks (v_inBlock) (v_atQuotient) (v_small) drawn, aZ Y q_isTold 9 isTold, aI Y q_tape 700 tape, aI Y q_number 8 number]) [3, 0, 1, 2] rfl rfl ?_
    exact key_1 fault_3 faultPlace_3 h
theorem dX11_namedAt_0 : decode cX11_namedAt 0 = .ok (.iconst 0, 1) := by decide +kernel
theorem dX11_namedAt_1 : decode cX11_namedAt 1 = .ok (.istore 4, 2) := by decide +kernel
theorem dX11_namedAt_3 : decode cX11_namedAt 3 = .ok (.iload 4, 2) := by decide +kernel
theorem dX11_namedAt_5 : decode cX11_namedAt 5 = .ok (.iload_n 2, 1) := by decide +kernel
theorem dX11_namedAt_6 : decode cX11_namedAt 6 = .ok (.if_icmp .ge 25, 3) := by decide +kernel
theorem dX11_namedAt_9 : decode cX11_namedAt 9 = .ok (.aload_n 0, 1) := by decide +kernel
theorem dX11_namedAt_10 : decode cX11_namedAt 10 = .ok (.getfield 20, 3) := by decide +kernel
theorem dX11_namedAt_13 : decode cX11_namedAt 13 = .ok (.iload_n 1, 1) := by decide +kernel
theorem dX11_namedAt_14 : decode cX11_namedAt 14 = .ok (.iload 4, 2) := by decide +kernel
theorem dX11_namedAt_16 : decode cX11_namedAt 16 = .ok (.iadd, 1) := by decide +kernel
theorem dX11_namedAt_17 : decode cX11_namedAt 17 = .ok (.iaload, 1) := by decide +kernel
theorem dX11_namedAt_18 : decode cX11_namedAt 18 = .ok (.iload_n 3, 1) := by decide +kernel
theorem dX11_namedAt_19 : decode cX11_namedAt 19 = .ok (.if_icmp .ne 6, 3) := by decide +kernel
theorem dX11_namedAt_22 : decode cX11_namedAt 22 = .ok (.iload 4, 2) := by decide +kernel
theorem dX11_namedAt_24 : decode cX11_namedAt 24 = .ok (.ireturn, 1) := by decide +kernel
theorem dX11_namedAt_25 : decode cX11_namedAt 25 = .ok (.iinc 4 1, 3) := by decide +kernel
theorem dX11_namedAt_28 : decode cX11_namedAt 28 = .ok (.goto (-25), 3) := by decide +kernel
theorem dX11_namedAt_31 : decode cX11_namedAt 31 = .ok (.iconst (-1), 1) := by decide +kernel
theorem dX11_namedAt_32 : decode cX11_namedAt 32 = .ok (.ireturn, 1) := by decide +kernel
/-- QuotientSumsModel.namedAt(III)I -/
def wX11_namedAt (thrown : Int32) (taped : Int32) (lines : Int32) (size : Int32) (atF : Int32) (place : Int32) (sort : Int32) (value : Int32) (fault : Int32) (faultPlace : Int32) (lastFault : Int32) (lastPlace : Int32) (undoable : Int32) (hasImage : Int32) (rowOf : Int32) (areSums : Int32) (isSieved : Int32) (blocks : Int32) (drawn : Int32) (name : Nat → Int32) (a1 : Int32) (a2 : Int32) (a3 : Int32) (Q : (Int32) → Prop) : Prop :=
  (∃ (Inv_1 : (Int32) → Prop) (Mea_1 : (Int32) → Nat), Inv_1 0 ∧ ∀ (x4_1 : Int32), Inv_1 x4_1 → ((a2 ≤ x4_1 → (Q (-1))) ∧ (¬ a2 ≤ x4_1 → (vp_in (a1 + x4_1) 24 ∧ ((¬ (name (a1 + x4_1).toNatClampNeg) = a3 → (Inv_1 (x4_1 + 1) ∧ Mea_1 (x4_1 + 1) < Mea_1 x4_1)) ∧ ((name (a1 + x4_1).toNatClampNeg) = a3 → (Q x4_1)))))))
set_option maxHeartbeats 4000000 in
set_option maxRecDepth 100000 in
theorem mX11_namedAt (l : Launch) (D : va_G) (Y : Nat → ClassId) (h0 : Nat) (thrown : Int32) (v_tape : Value) (taped : Int32) (v_number : Value) (v_isTold : Value) (q_name : Nat) (v_sortOf : Value) (v_first : Value) (v_second : Value) (v_degree : Value) (v_colours : Value) (v_signBy : Value) (v_own : Value) (lines : Int32) (size : Int32) (atF : Int32) (place : Int32) (sort : Int32) (value : Int32) (fault : Int32) (faultPlace : Int32) (lastFault : Int32) (lastPlace : Int32) (v_sF : Value) (v_kept : Value) (undoable : Int32) (hasImage : Int32) (v_power : Value) (v_table : Value) (v_marks : Value) (v_row : Value) (rowOf : Int32) (areSums : Int32) (isSieved : Int32) (v_lastOf : Value) (blocks : Int32) (v_inBlock : Value) (v_atQuotient : Value) (v_small : Value) (drawn : Int32) (name : Nat → Int32) (a1 : Int32) (a2 : Int32) (a3 : Int32) (Q : (Int32) → Prop) (h : wX11_namedAt thrown taped lines size atF place sort value fault faultPlace lastFault lastPlace undoable hasImage rowOf areSums isSieved blocks drawn name a1 a2 a3 Q) : gM l D Y yX11_namedAt cX11_namedAt 5 (some .int) 0 0 0 0 [.ref h0, .int a1, .int a2, .int a3] [oX11 h0 thrown (v_tape) taped (v_number) (v_isTold) (.ref q_name) (v_sortOf) (v_first) (v_second) (v_degree) (v_colours) (v_signBy) (v_own) lines size atF place sort value fault faultPlace lastFault lastPlace (v_sF) (v_kept) undoable hasImage (v_power) (v_table) (v_marks) (v_row) rowOf areSums isSieved (v_lastOf) blocks (v_inBlock) (v_atQuotient) (v_small) drawn, aI Y q_name 24 name] (fun v w => ∃ r : Int32, v = some (.int r) ∧ w = [oX11 h0 thrown (v_tape) taped (v_number) (v_isTold) (.ref q_name) (v_sortOf) (v_first) (v_second) (v_degree) (v_colours) (v_signBy) (v_own) lines size atF place sort value fault faultPlace lastFault lastPlace (v_sF) (v_kept) undoable hasImage (v_power) (v_table) (v_marks) (v_row) rowOf areSums isSieved (v_lastOf) blocks (v_inBlock) (v_atQuotient) (v_small) drawn, aI Y q_name 24 name] ∧ Q r) := by
  refine gM_of (own := RX11) (by decide +kernel) rfl (Nat.le_of_ble_eq_true rfl) rfl (fun E C hR => ?_)
  unfold wX11_namedAt at h
  refine g_iconst (v := 0) C dX11_namedAt_0 rfl ?_
  refine g_istore (lv' := [(4, .int 0), (0, .ref h0), (1, .int a1), (2, .int a2), (3, .int a3)]) C dX11_namedAt_1 (by decide) rfl ?_
  obtain ⟨Inv_1, Mea_1, hI1, hB1⟩ := h
  have key_1 : ∀ (n : Nat) (x4_1 : Int32) , Mea_1 x4_1 < n → Inv_1 x4_1 → gG E 0 0 [oX11 h0 thrown (v_tape) taped (v_number) (v_isTold) (.ref q_name) (v_sortOf) (v_first) (v_second) (v_degree) (v_colours) (v_signBy) (v_own) lines size atF place sort value fault faultPlace lastFault lastPlace (v_sF) (v_kept) undoable hasImage (v_power) (v_table) (v_marks) (v_row) rowOf areSums isSieved (v_lastOf) blocks (v_inBlock) (v_atQuotient) (v_small) drawn, aI Y q_name 24 name] [(0, .ref h0), (1, .int a1), (2, .int a2), (3, .int a3), (4, .int x4_1)] [] 3 := by
    intro n
    induction n with
    | zero => exact fun _ hm => absurd hm (Nat.not_lt_zero _)
    | succ n ih1 =>
      intro x4_1  hm1 hI
      have h := hB1 x4_1 hI
      refine g_iload C dX11_namedAt_3 4 rfl ?_
      refine g_iload_n C dX11_namedAt_5 2 rfl ?_
      refine g_icmp_ge (tgt := 31) C dX11_namedAt_6 (by decide) (fun c_1 => ?_) (fun c_1 => ?_)
      · replace h := h.1 c_1
        refine g_iconst (v := (-1)) C dX11_namedAt_31 rfl ?_
        exact g_iret C hR (Nat.le_of_ble_eq_true rfl) (Nat.le_of_ble_eq_true rfl) dX11_namedAt_32 ⟨(-1), rfl, rfl, h⟩
      · replace h := h.2 c_1
        refine g_aload_n C dX11_namedAt_9 0 rfl ?_
        refine g_get C inX11 0 rfl rfl 5 (by decide) wF_X11_20 rfl dX11_namedAt_10 ?_
        refine g_iload_n C dX11_namedAt_13 1 rfl ?_
        refine g_iload C dX11_namedAt_14 4 rfl ?_
        refine g_iadd C dX11_namedAt_16 ?_
        obtain ⟨hc_1, h⟩ := h
        refine g_iald C 1 rfl hc_1 dX11_namedAt_17 ?_
        refine g_iload_n C dX11_namedAt_18 3 rfl ?_
        refine g_icmp_ne (tgt := 25) C dX11_namedAt_19 (by decide) (fun c_2 => ?_) (fun c_2 => ?_)
        · replace h := h.1 c_2
          refine g_iinc (v := x4_1 + 1) (lv' := [(4, .int (x4_1 + 1)), (0, .ref h0), (1, .int a1), (2, .int a2), (3, .int a3)]) C dX11_namedAt_25 4 rfl rfl (by decide) rfl ?_
          refine g_goto (tgt := 3) C dX11_namedAt_28 (by decide) ?_
          refine gG.locals (lv' := [(0, .ref h0), (1, .int a1), (2, .int a2), (3, .int a3), (4, .int (x4_1 + 1))]) [1, 2, 3, 4, 0] rfl ?_
          exact ih1 (x4_1 + 1) (Nat.lt_of_lt_of_le h.2 (Nat.le_of_lt_succ hm1)) h.1
        · replace h := h.2 c_2
          refine g_iload C dX11_namedAt_22 4 rfl ?_
          exact g_iret C hR (Nat.le_of_ble_eq_true rfl) (Nat.le_of_ble_eq_true rfl) dX11_namedAt_24 ⟨x4_1, rfl, rfl, h⟩
  refine gG.locals (lv' := [(0, .ref h0), (1, .int a1), (2, .int a2), (3, .int a3), (4, .int 0)]) [1, 2, 3, 4, 0] rfl ?_
  exact key_1 (Mea_1 0 + 1) 0 (Nat.lt_succ_self _) hI1
theorem dX11_functionsRead_0 : decode cX11_functionsRead 0 = .ok (.bipush 6, 2) := by decide +kernel
theorem dX11_functionsRead_2 : decode cX11_functionsRead 2 = .ok (.aload_n 0, 1) := by decide +kernel
theorem dX11_functionsRead_3 : decode cX11_functionsRead 3 = .ok (.iconst 3, 1) := by decide +kernel
theorem dX11_functionsRead_4 : decode cX11_functionsRead 4 = .ok (.invokevirtual 166, 3) := by decide +kernel
theorem dX11_functionsRead_7 : decode cX11_functionsRead 7 = .ok (.iadd, 1) := by decide +kernel
theorem dX11_functionsRead_8 : decode cX11_functionsRead 8 = .ok (.ireturn, 1) := by decide +kernel
/-- QuotientSumsModel.functionsRead()I -/
def wX11_functionsRead (thrown : Int32) (taped : Int32) (lines : Int32) (size : Int32) (atF : Int32) (place : Int32) (sort : Int32) (value : Int32) (fault : Int32) (faultPlace : Int32) (lastFault : Int32) (lastPlace : Int32) (undoable : Int32) (hasImage : Int32) (rowOf : Int32) (areSums : Int32) (isSieved : Int32) (blocks : Int32) (drawn : Int32) (number : Nat → Int32)  (Q : (Int32) → Prop) : Prop :=
  (∃ (P_1 : (Int32) → Prop), wX11_reading thrown taped lines size atF place sort value fault faultPlace lastFault lastPlace undoable hasImage rowOf areSums isSieved blocks drawn number 3 P_1 ∧ ∀ (rF_1 : Int32), P_1 rF_1 → (Q (6 + rF_1)))
set_option maxHeartbeats 4000000 in
set_option maxRecDepth 100000 in
theorem mX11_functionsRead (l : Launch) (D : va_G) (Y : Nat → ClassId) (h0 : Nat) (thrown : Int32) (v_tape : Value) (taped : Int32) (q_number : Nat) (v_isTold : Value) (v_name : Value) (v_sortOf : Value) (v_first : Value) (v_second : Value) (v_degree : Value) (v_colours : Value) (v_signBy : Value) (v_own : Value) (lines : Int32) (size : Int32) (atF : Int32) (place : Int32) (sort : Int32) (value : Int32) (fault : Int32) (faultPlace : Int32) (lastFault : Int32) (lastPlace : Int32) (v_sF : Value) (v_kept : Value) (undoable : Int32) (hasImage : Int32) (v_power : Value) (v_table : Value) (v_marks : Value) (v_row : Value) (rowOf : Int32) (areSums : Int32) (isSieved : Int32) (v_lastOf : Value) (blocks : Int32) (v_inBlock : Value) (v_atQuotient : Value) (v_small : Value) (drawn : Int32) (number : Nat → Int32)  (Q : (Int32) → Prop) (h : wX11_functionsRead thrown taped lines size atF place sort value fault faultPlace lastFault lastPlace undoable hasImage rowOf areSums isSieved blocks drawn number Q) : gM l D Y yX11_functionsRead cX11_functionsRead 1 (some .int) 1 21 0 0 [.ref h0] [oX11 h0 thrown (v_tape) taped (.ref q_number) (v_isTold) (v_name) (v_sortOf) (v_first) (v_second) (v_degree) (v_colours) (v_signBy) (v_own) lines size atF place sort value fault faultPlace lastFault lastPlace (v_sF) (v_kept) undoable hasImage (v_power) (v_table) (v_marks) (v_row) rowOf areSums isSieved (v_lastOf) blocks (v_inBlock) (v_atQuotient) (v_small) drawn, aI Y q_number 8 number] (fun v w => ∃ r : Int32, v = some (.int r) ∧ w = [oX11 h0 thrown (v_tape) taped (.ref q_number) (v_isTold) (v_name) (v_sortOf) (v_first) (v_second) (v_degree) (v_colours) (v_signBy) (v_own) lines size atF place sort value fault faultPlace lastFault lastPlace (v_sF) (v_kept) undoable hasImage (v_power) (v_table) (v_marks) (v_row) rowOf areSums isSieved (v_lastOf) blocks (v_inBlock) (v_atQuotient) (v_small) drawn, aI Y q_number 8 number] ∧ Q r) := by
  refine gM_of (own := RX11) (by decide +kernel) rfl (Nat.le_of_ble_eq_true rfl) rfl (fun E C hR => ?_)
  unfold wX11_functionsRead at h
  refine g_bipush (v := 6) C dX11_functionsRead_0 rfl ?_
  refine g_aload_n C dX11_functionsRead_2 0 rfl ?_
  refine g_iconst (v := 3) C dX11_functionsRead_3 rfl ?_
  obtain ⟨P_1, hP, h⟩ := h
  refine g_callV (As := [.int 3]) (rest := [.int 6]) C (mX11_reading l D Y h0 thrown v_tape taped q_number v_isTold v_name v_sortOf v_first v_second v_degree v_colours v_signBy v_own lines size atF place sort value fault faultPlace lastFault lastPlace v_sF v_kept undoable hasImage v_power v_table v_marks v_row rowOf areSums isSieved v_lastOf blocks v_inBlock v_atQuotient v_small drawn number 3 P_1 hP) dX11_functionsRead_4 rfl wM_X11_166 wI_X11_reading wV_X11_reading wN_X11 wC_X11_reading (n := 1) (by decide +kernel) rfl (q0 := 0) rfl rfl ⟨Nat.le_of_ble_eq_true rfl, Nat.le_of_ble_eq_true rfl⟩ ⟨Nat.le_of_ble_eq_true rfl, Nat.le_of_ble_eq_true rfl⟩ (Nat.le_of_ble_eq_true rfl) [0, 1] [] rfl rfl rfl (fun v wc hv => ?_)
  obtain ⟨rF_1, rfl, rfl, hq⟩ := hv
  replace h := h rF_1 hq
  refine gG.eqw (ws' := [oX11 h0 thrown (v_tape) taped (.ref q_number) (v_isTold) (v_name) (v_sortOf) (v_first) (v_second) (v_degree) (v_colours) (v_signBy) (v_own) lines size atF place sort value fault faultPlace lastFault lastPlace (v_sF) (v_kept) undoable hasImage (v_power) (v_table) (v_marks) (v_row) rowOf areSums isSieved (v_lastOf) blocks (v_inBlock) (v_atQuotient) (v_small) drawn, aI Y q_number 8 number]) rfl ?_
  refine g_iadd C dX11_functionsRead_7 ?_
  exact g_iret C hR (Nat.le_of_ble_eq_true rfl) (Nat.le_of_ble_eq_true rfl) dX11_functionsRead_8 ⟨6 + rF_1, rfl, rfl, h⟩
theorem dX11_functionHere_0 : decode cX11_functionHere 0 = .ok (.aload_n 0, 1) := by decide +kernel
theorem dX11_functionHere_1 : decode cX11_functionHere 1 = .ok (.getfield 142, 3) := by decide +kernel
theorem dX11_functionHere_4 : decode cX11_functionHere 4 = .ok (.ifCond .eq 5, 3) := by decide +kernel
theorem dX11_functionHere_7 : decode cX11_functionHere 7 = .ok (.iconst 0, 1) := by decide +kernel
theorem dX11_functionHere_8 : decode cX11_functionHere 8 = .ok (.ireturn, 1) := by decide +kernel
theorem dX11_functionHere_9 : decode cX11_functionHere 9 = .ok (.aload_n 0, 1) := by decide +kernel
theorem dX11_functionHere_10 : decode cX11_functionHere 10 = .ok (.getfield 108, 3) := by decide +kernel
theorem dX11_functionHere_13 : decode cX11_functionHere 13 = .ok (.iconst 1, 1) := by decide +kernel
theorem dX11_functionHere_14 : decode cX11_functionHere 14 = .ok (.if_icmp .eq 8, 3) := by decide +kernel
theorem dX11_functionHere_17 : decode cX11_functionHere 17 = .ok (.aload_n 0, 1) := by decide +kernel
theorem dX11_functionHere_18 : decode cX11_functionHere 18 = .ok (.iconst 1, 1) := by decide +kernel
theorem dX11_functionHere_19 : decode cX11_functionHere 19 = .ok (.invokevirtual 151, 3) := by decide +kernel
theorem dX11_functionHere_22 : decode cX11_functionHere 22 = .ok (.aload_n 0, 1) := by decide +kernel
theorem dX11_functionHere_23 : decode cX11_functionHere 23 = .ok (.getfield 142, 3) := by decide +kernel
theorem dX11_functionHere_26 : decode cX11_functionHere 26 = .ok (.ifCond .ne 20, 3) := by decide +kernel
theorem dX11_functionHere_29 : decode cX11_functionHere 29 = .ok (.aload_n 0, 1) := by decide +kernel
theorem dX11_functionHere_30 : decode cX11_functionHere 30 = .ok (.bipush 12, 2) := by decide +kernel
theorem dX11_functionHere_32 : decode cX11_functionHere 32 = .ok (.aload_n 0, 1) := by decide +kernel
theorem dX11_functionHere_33 : decode cX11_functionHere 33 = .ok (.invokevirtual 170, 3) := by decide +kernel
theorem dX11_functionHere_36 : decode cX11_functionHere 36 = .ok (.aload_n 0, 1) := by decide +kernel
theorem dX11_functionHere_37 : decode cX11_functionHere 37 = .ok (.getfield 118, 3) := by decide +kernel
theorem dX11_functionHere_40 : decode cX11_functionHere 40 = .ok (.invokevirtual 173, 3) := by decide +kernel
theorem dX11_functionHere_43 : decode cX11_functionHere 43 = .ok (.goto 4, 3) := by decide +kernel
theorem dX11_functionHere_46 : decode cX11_functionHere 46 = .ok (.iconst 0, 1) := by decide +kernel
theorem dX11_functionHere_47 : decode cX11_functionHere 47 = .ok (.istore_n 1, 1) := by decide +kernel
theorem dX11_functionHere_48 : decode cX11_functionHere 48 = .ok (.iload_n 1, 1) := by decide +kernel
theorem dX11_functionHere_49 : decode cX11_functionHere 49 = .ok (.iconst (-1), 1) := by decide +kernel
theorem dX11_functionHere_50 : decode cX11_functionHere 50 = .ok (.if_icmp .ne 8, 3) := by decide +kernel
theorem dX11_functionHere_53 : decode cX11_functionHere 53 = .ok (.aload_n 0, 1) := by decide +kernel
theorem dX11_functionHere_54 : decode cX11_functionHere 54 = .ok (.iconst 4, 1) := by decide +kernel
theorem dX11_functionHere_55 : decode cX11_functionHere 55 = .ok (.invokevirtual 151, 3) := by decide +kernel
theorem dX11_functionHere_58 : decode cX11_functionHere 58 = .ok (.aload_n 0, 1) := by decide +kernel
theorem dX11_functionHere_59 : decode cX11_functionHere 59 = .ok (.getfield 142, 3) := by decide +kernel
theorem dX11_functionHere_62 : decode cX11_functionHere 62 = .ok (.ifCond .ne 7, 3) := by decide +kernel
theorem dX11_functionHere_65 : decode cX11_functionHere 65 = .ok (.iload_n 1, 1) := by decide +kernel
theorem dX11_functionHere_66 : decode cX11_functionHere 66 = .ok (.goto 4, 3) := by decide +kernel
theorem dX11_functionHere_69 : decode cX11_functionHere 69 = .ok (.iconst 0, 1) := by decide +kernel
theorem dX11_functionHere_70 : decode cX11_functionHere 70 = .ok (.ireturn, 1) := by decide +kernel
/-- QuotientSumsModel.functionHere()I -/
def wX11_functionHere (thrown : Int32) (taped : Int32) (lines : Int32) (size : Int32) (atF : Int32) (place : Int32) (sort : Int32) (value : Int32) (fault : Int32) (faultPlace : Int32) (lastFault : Int32) (lastPlace : Int32) (undoable : Int32) (hasImage : Int32) (rowOf : Int32) (areSums : Int32) (isSieved : Int32) (blocks : Int32) (drawn : Int32) (number : Nat → Int32) (name : Nat → Int32)  (Q : (Int32) → (Int32) → (Int32) → Prop) : Prop :=
  ((fault = 0 → (∃ (J_1 : (Int32) → (Int32) → Prop), ((sort = 1 → (J_1 fault faultPlace)) ∧ (¬ sort = 1 → (∃ (P_4 : (Int32) → (Int32) → Prop), wX11_wrong thrown taped lines size atF place sort value fault faultPlace lastFault lastPlace undoable hasImage rowOf areSums isSieved blocks drawn 1 P_4 ∧ ∀ (fault_3 : Int32) (faultPlace_3 : Int32), P_4 fault_3 faultPlace_3 → (J_1 fault_3 faultPlace_3)))) ∧ (∀ (fault_1 : Int32) (faultPlace_1 : Int32), J_1 fault_1 faultPlace_1 → ((¬ fault_1 = 0 → ((¬ fault_1 = 0 → (Q 0 fault_1 faultPlace_1)) ∧ (fault_1 = 0 → (Q 0 fault_1 faultPlace_1)))) ∧ (fault_1 = 0 → (∃ (P_1 : (Int32) → Prop), wX11_functionsRead thrown taped lines size atF place sort value fault_1 faultPlace_1 lastFault lastPlace undoable hasImage rowOf areSums isSieved blocks drawn number P_1 ∧ ∀ (rF_1 : Int32), P_1 rF_1 → ∃ (P_2 : (Int32) → Prop), wX11_namedAt thrown taped lines size atF place sort value fault_1 faultPlace_1 lastFault lastPlace undoable hasImage rowOf areSums isSieved blocks drawn name 12 rF_1 value P_2 ∧ ∀ (rF_2 : Int32), P_2 rF_2 → ((¬ rF_2 = (-1) → ((¬ fault_1 = 0 → (Q 0 fault_1 faultPlace_1)) ∧ (fault_1 = 0 → (Q rF_2 fault_1 faultPlace_1)))) ∧ (rF_2 = (-1) → (∃ (P_3 : (Int32) → (Int32) → Prop), wX11_wrong thrown taped lines size atF place sort value fault_1 faultPlace_1 lastFault lastPlace undoable hasImage rowOf areSums isSieved blocks drawn 4 P_3 ∧ ∀ (fault_2 : Int32) (faultPlace_2 : Int32), P_3 fault_2 faultPlace_2 → ((¬ fault_2 = 0 → (Q 0 fault_2 faultPlace_2)) ∧ (fault_2 = 0 → (Q rF_2 fault_2 faultPlace_2)))))))))))) ∧ (¬ fault = 0 → (Q 0 fault faultPlace)))
set_option maxHeartbeats 4000000 in
set_option maxRecDepth 100000 in
theorem mX11_functionHere (l : Launch) (D : va_G) (Y : Nat → ClassId) (h0 : Nat) (thrown : Int32) (v_tape : Value) (taped : Int32) (q_number : Nat) (v_isTold : Value) (q_name : Nat) (v_sortOf : Value) (v_first : Value) (v_second : Value) (v_degree : Value) (v_colours : Value) (v_signBy : Value) (v_own : Value) (lines : Int32) (size : Int32) (atF : Int32) (place : Int32) (sort : Int32) (value : Int32) (fault : Int32) (faultPlace : Int32) (lastFault : Int32) (lastPlace : Int32) (v_sF : Value) (v_kept : Value) (undoable : Int32) (hasImage : Int32) (v_power : Value) (v_table : Value) (v_marks : Value) (v_row : Value) (rowOf : Int32) (areSums : Int32) (isSieved : Int32) (v_lastOf : Value) (blocks : Int32) (v_inBlock : Value) (v_atQuotient : Value) (v_small : Value) (drawn : Int32) (number : Nat → Int32) (name : Nat → Int32)  (Q : (Int32) → (Int32) → (Int32) → Prop) (h : wX11_functionHere thrown taped lines size atF place sort value fault faultPlace lastFault lastPlace undoable hasImage rowOf areSums isSieved blocks drawn number name Q) : gM l D Y yX11_functionHere cX11_functionHere 2 (some .int) 2 41 0 0 [.ref h0] [oX11 h0 thrown (v_tape) taped (.ref q_number) (v_isTold) (.ref q_name) (v_sortOf) (v_first) (v_second) (v_degree) (v_colours) (v_signBy) (v_own) lines size atF place sort value fault faultPlace lastFault lastPlace (v_sF) (v_kept) undoable hasImage (v_power) (v_table) (v_marks) (v_row) rowOf areSums isSieved (v_lastOf) blocks (v_inBlock) (v_atQuotient) (v_small) drawn, aI Y q_number 8 number, aI Y q_name 24 name] (fun v w => ∃ r : Int32, ∃ fault' : Int32, ∃ faultPlace' : Int32, v = some (.int r) ∧ w = [oX11 h0 thrown (v_tape) taped (.ref q_number) (v_isTold) (.ref q_name) (v_sortOf) (v_first) (v_second) (v_degree) (v_colours) (v_signBy) (v_own) lines size atF place sort value fault' faultPlace' lastFault lastPlace (v_sF) (v_kept) undoable hasImage (v_power) (v_table) (v_marks) (v_row) rowOf areSums isSieved (v_lastOf) blocks (v_inBlock) (v_atQuotient) (v_small) drawn, aI Y q_number 8 number, aI Y q_name 24 name] ∧ Q r fault' faultPlace') := by
  refine gM_of (own := RX11) (by decide +kernel) rfl (Nat.le_of_ble_eq_true rfl) rfl (fun E C hR => ?_)
  unfold wX11_functionHere at h
  refine g_aload_n C dX11_functionHere_0 0 rfl ?_
  refine g_get C inX11 0 rfl rfl 19 (by decide) wF_X11_142 rfl dX11_functionHere_1 ?_
  refine g_if_eq (tgt := 9) C dX11_functionHere_4 (by decide) (fun c_1 => ?_) (fun c_1 => ?_)
  · replace h := h.1 c_1
    refine g_aload_n C dX11_functionHere_9 0 rfl ?_
    refine g_get C inX11 0 rfl rfl 17 (by decide) wF_X11_108 rfl dX11_functionHere_10 ?_
    refine g_iconst (v := 1) C dX11_functionHere_13 rfl ?_
    obtain ⟨J_1, hA, hB_J_1⟩ := h
    have key_1 : ∀ (fault_1 : Int32) (faultPlace_1 : Int32), J_1 fault_1 faultPlace_1 → gG E 0 0 [oX11 h0 thrown (v_tape) taped (.ref q_number) (v_isTold) (.ref q_name) (v_sortOf) (v_first) (v_second) (v_degree) (v_colours) (v_signBy) (v_own) lines size atF place sort value fault_1 faultPlace_1 lastFault lastPlace (v_sF) (v_kept) undoable hasImage (v_power) (v_table) (v_marks) (v_row) rowOf areSums isSieved (v_lastOf) blocks (v_inBlock) (v_atQuotient) (v_small) drawn, aI Y q_number 8 number, aI Y q_name 24 name] [(0, .ref h0)] [] 22 := by
      intro fault_1 faultPlace_1 hJ
      have h := hB_J_1 fault_1 faultPlace_1 hJ
      refine g_aload_n C dX11_functionHere_22 0 rfl ?_
      refine g_get C inX11 0 rfl rfl 19 (by decide) wF_X11_142 rfl dX11_functionHere_23 ?_
      refine g_if_ne (tgt := 46) C dX11_functionHere_26 (by decide) (fun c_2 => ?_) (fun c_2 => ?_)
      · replace h := h.1 c_2
        refine g_iconst (v := 0) C dX11_functionHere_46 rfl ?_
        refine g_istore_n (lv' := [(1, .int 0), (0, .ref h0)]) C dX11_functionHere_47 (by decide) rfl ?_
        refine g_iload_n C dX11_functionHere_48 0 rfl ?_
        refine g_iconst (v := (-1)) C dX11_functionHere_49 rfl ?_
        refine g_icmp_ne (tgt := 58) C dX11_functionHere_50 (by decide) (fun _ => ?_) (fun c => absurd c (by decide))
        refine g_aload_n C dX11_functionHere_58 1 rfl ?_
        refine g_get C inX11 0 rfl rfl 19 (by decide) wF_X11_142 rfl dX11_functionHere_59 ?_
        refine g_if_ne (tgt := 69) C dX11_functionHere_62 (by decide) (fun c_3 => ?_) (fun c_3 => ?_)
        · replace h := h.1 c_3
          refine g_iconst (v := 0) C dX11_functionHere_69 rfl ?_
          exact g_iret C hR (Nat.le_of_ble_eq_true rfl) (Nat.le_of_ble_eq_true rfl) dX11_functionHere_70 ⟨0, fault_1, faultPlace_1, rfl, rfl, h⟩
        · replace h := h.2 c_3
          refine g_iload_n C dX11_functionHere_65 0 rfl ?_
          refine g_goto (tgt := 70) C dX11_functionHere_66 (by decide) ?_
          exact g_iret C hR (Nat.le_of_ble_eq_true rfl) (Nat.le_of_ble_eq_true rfl) dX11_functionHere_70 ⟨0, fault_1, faultPlace_1, rfl, rfl, h⟩
      · replace h := h.2 c_2
        refine g_aload_n C dX11_functionHere_29 0 rfl ?_
        refine g_bipush (v := 12) C dX11_functionHere_30 rfl ?_
        refine g_aload_n C dX11_functionHere_32 0 rfl ?_
        obtain ⟨P_1, hP, h⟩ := h
        refine g_callV (As := []) (rest := [.int 12, .ref h0]) C (mX11_functionsRead l D Y h0 thrown v_tape taped q_number v_isTold (.ref q_name) v_sortOf v_first v_second v_degree v_colours v_signBy v_own lines size atF place sort value fault_1 faultPlace_1 lastFault lastPlace v_sF v_kept undoable hasImage v_power v_table v_marks v_row rowOf areSums isSieved v_lastOf blocks v_inBlock v_atQuotient v_small drawn number P_1 hP) dX11_functionHere_33 rfl wM_X11_170 wI_X11_functionsRead wV_X11_functionsRead wN_X11 wC_X11_functionsRead (n := 0) (by decide +kernel) rfl (q0 := 0) rfl rfl ⟨Nat.le_of_ble_eq_true rfl, Nat.le_of_ble_eq_true rfl⟩ ⟨Nat.le_of_ble_eq_true rfl, Nat.le_of_ble_eq_true rfl⟩ (Nat.le_of_ble_eq_true rfl) [0, 1] [2] rfl rfl rfl (fun v wc hv => ?_)
        obtain ⟨rF_1, rfl, rfl, hq⟩ := hv
        replace h := h rF_1 hq
        refine gG.perm (ws' := [oX11 h0 thrown (v_tape) taped (.ref q_number) (v_isTold) (.ref q_name) (v_sortOf) (v_first) (v_second) (v_degree) (v_colours) (v_signBy) (v_own) lines size atF place sort value fault_1 faultPlace_1 lastFault lastPlace (v_sF) (v_kept) undoable hasImage (v_power) (v_table) (v_marks) (v_row) rowOf areSums isSieved (v_lastOf) blocks (v_inBlock) (v_atQuotient) (v_small) drawn, aI Y q_number 8 number, aI Y q_name 24 name]) [1, 2, 0] rfl rfl ?_
        refine g_aload_n C dX11_functionHere_36 0 rfl ?_
        refine g_get C inX11 0 rfl rfl 18 (by decide) wF_X11_118 rfl dX11_functionHere_37 ?_
        obtain ⟨P_2, hP, h⟩ := h
        refine g_callV (As := [.int 12, .int rF_1, .int value]) (rest := []) C (mX11_namedAt l D Y h0 thrown v_tape taped (.ref q_number) v_isTold q_name v_sortOf v_first v_second v_degree v_colours v_signBy v_own lines size atF place sort value fault_1 faultPlace_1 lastFault lastPlace v_sF v_kept undoable hasImage v_power v_table v_marks v_row rowOf areSums isSieved v_lastOf blocks v_inBlock v_atQuotient v_small drawn name 12 rF_1 value P_2 hP) dX11_functionHere_40 rfl wM_X11_173 wI_X11_namedAt wV_X11_namedAt wN_X11 wC_X11_namedAt (n := 3) (by decide +kernel) rfl (q0 := 0) rfl rfl ⟨Nat.le_of_ble_eq_true rfl, Nat.le_of_ble_eq_true rfl⟩ ⟨Nat.le_of_ble_eq_true rfl, Nat.le_of_ble_eq_true rfl⟩ (Nat.le_of_ble_eq_true rfl) [0, 2] [1] rfl rfl rfl (fun v wc hv => ?_)
        obtain ⟨rF_2, rfl, rfl, hq⟩ := hv
        replace h := h rF_2 hq
        refine gG.perm (ws' := [oX11 h0 thrown (v_tape) taped (.ref q_number) (v_isTold) (.ref q_name) (v_sortOf) (v_first) (v_second) (v_degree) (v_colours) (v_signBy) (v_own) lines size atF place sort value fault_1 faultPlace_1 lastFault lastPlace (v_sF) (v_kept) undoable hasImage (v_power) (v_table) (v_marks) (v_row) rowOf areSums isSieved (v_lastOf) blocks (v_inBlock) (v_atQuotient) (v_small) drawn, aI Y q_number 8 number, aI Y q_name 24 name]) [1, 0, 2] rfl rfl ?_
        refine g_goto (tgt := 47) C dX11_functionHere_43 (by decide) ?_
        refine g_istore_n (lv' := [(1, .int rF_2), (0, .ref h0)]) C dX11_functionHere_47 (by decide) rfl ?_
        refine g_iload_n C dX11_functionHere_48 0 rfl ?_
        refine g_iconst (v := (-1)) C dX11_functionHere_49 rfl ?_
        refine g_icmp_ne (tgt := 58) C dX11_functionHere_50 (by decide) (fun c_4 => ?_) (fun c_4 => ?_)
        · replace h := h.1 c_4
          refine g_aload_n C dX11_functionHere_58 1 rfl ?_
          refine g_get C inX11 0 rfl rfl 19 (by decide) wF_X11_142 rfl dX11_functionHere_59 ?_
          refine g_if_ne (tgt := 69) C dX11_functionHere_62 (by decide) (fun c_5 => ?_) (fun c_5 => ?_)
          · replace h := h.1 c_5
            refine g_iconst (v := 0) C dX11_functionHere_69 rfl ?_
            exact g_iret C hR (Nat.le_of_ble_eq_true rfl) (Nat.le_of_ble_eq_true rfl) dX11_functionHere_70 ⟨0, fault_1, faultPlace_1, rfl, rfl, h⟩
          · replace h := h.2 c_5
            refine g_iload_n C dX11_functionHere_65 0 rfl ?_
            refine g_goto (tgt := 70) C dX11_functionHere_66 (by decide) ?_
            exact g_iret C hR (Nat.le_of_ble_eq_true rfl) (Nat.le_of_ble_eq_true rfl) dX11_functionHere_70 ⟨rF_2, fault_1, faultPlace_1, rfl, rfl, h⟩
        · replace h := h.2 c_4
          refine g_aload_n C dX11_functionHere_53 1 rfl ?_
          refine g_iconst (v := 4) C dX11_functionHere_54 rfl ?_
          obtain ⟨P_3, hP, h⟩ := h
          refine g_callV (As := [.int 4]) (rest := []) C (mX11_wrong l D Y h0 thrown v_tape taped (.ref q_number) v_isTold (.ref q_name) v_sortOf v_first v_second v_degree v_colours v_signBy v_own lines size atF place sort value fault_1 faultPlace_1 lastFault lastPlace v_sF v_kept undoable hasImage v_power v_table v_marks v_row rowOf areSums isSieved v_lastOf blocks v_inBlock v_atQuotient v_small drawn 4 P_3 hP) dX11_functionHere_55 rfl wM_X11_151 wI_X11_wrong wV_X11_wrong wN_X11 wC_X11_wrong (n := 1) (by decide +kernel) rfl (q0 := 0) rfl rfl ⟨Nat.le_of_ble_eq_true rfl, Nat.le_of_ble_eq_true rfl⟩ ⟨Nat.le_of_ble_eq_true rfl, Nat.le_of_ble_eq_true rfl⟩ (Nat.le_of_ble_eq_true rfl) [0] [1, 2] rfl rfl rfl (fun v wc hv => ?_)
          obtain ⟨fault_2, faultPlace_2, rfl, rfl, hq⟩ := hv
          replace h := h fault_2 faultPlace_2 hq
          refine gG.perm (ws' := [oX11 h0 thrown (v_tape) taped (.ref q_number) (v_isTold) (.ref q_name) (v_sortOf) (v_first) (v_second) (v_degree) (v_colours) (v_signBy) (v_own) lines size atF place sort value fault_2 faultPlace_2 lastFault lastPlace (v_sF) (v_kept) undoable hasImage (v_power) (v_table) (v_marks) (v_row) rowOf areSums isSieved (v_lastOf) blocks (v_inBlock) (v_atQuotient) (v_small) drawn, aI Y q_number 8 number, aI Y q_name 24 name]) [2, 0, 1] rfl rfl ?_
          refine g_aload_n C dX11_functionHere_58 1 rfl ?_
          refine g_get C inX11 0 rfl rfl 19 (by decide) wF_X11_142 rfl dX11_functionHere_59 ?_
          refine g_if_ne (tgt := 69) C dX11_functionHere_62 (by decide) (fun c_6 => ?_) (fun c_6 => ?_)
          · replace h := h.1 c_6
            refine g_iconst (v := 0) C dX11_functionHere_69 rfl ?_
            exact g_iret C hR (Nat.le_of_ble_eq_true rfl) (Nat.le_of_ble_eq_true rfl) dX11_functionHere_70 ⟨0, fault_2, faultPlace_2, rfl, rfl, h⟩
          · replace h := h.2 c_6
            refine g_iload_n C dX11_functionHere_65 0 rfl ?_
            refine g_goto (tgt := 70) C dX11_functionHere_66 (by decide) ?_
            exact g_iret C hR (Nat.le_of_ble_eq_true rfl) (Nat.le_of_ble_eq_true rfl) dX11_functionHere_70 ⟨rF_2, fault_2, faultPlace_2, rfl, rfl, h⟩
    replace h := hA
    refine g_icmp_eq (tgt := 22) C dX11_functionHere_14 (by decide) (fun c_7 => ?_) (fun c_7 => ?_)
    · replace h := h.1 c_7
      exact key_1 fault faultPlace h
    · replace h := h.2 c_7
      refine g_aload_n C dX11_functionHere_17 0 rfl ?_
      refine g_iconst (v := 1) C dX11_functionHere_18 rfl ?_
      obtain ⟨P_4, hP, h⟩ := h
      refine g_callV (As := [.int 1]) (rest := []) C (mX11_wrong l D Y h0 thrown v_tape taped (.ref q_number) v_isTold (.ref q_name) v_sortOf v_first v_second v_degree v_colours v_signBy v_own lines size atF place sort value fault faultPlace lastFault lastPlace v_sF v_kept undoable hasImage v_power v_table v_marks v_row rowOf areSums isSieved v_lastOf blocks v_inBlock v_atQuotient v_small drawn 1 P_4 hP) dX11_functionHere_19 rfl wM_X11_151 wI_X11_wrong wV_X11_wrong wN_X11 wC_X11_wrong (n := 1) (by decide +kernel) rfl (q0 := 0) rfl rfl ⟨Nat.le_of_ble_eq_true rfl, Nat.le_of_ble_eq_true rfl⟩ ⟨Nat.le_of_ble_eq_true rfl, Nat.le_of_ble_eq_true rfl⟩ (Nat.le_of_ble_eq_true rfl) [0] [1, 2] rfl rfl rfl (fun v wc hv => ?_)
      obtain ⟨fault_3, faultPlace_3, rfl, rfl, hq⟩ := hv
      replace h := h fault_3 faultPlace_3 hq
      refine gG.perm (ws' := [oX11 h0 thrown (v_tape) taped (.ref q_number) (v_isTold) (.ref q_name) (v_sortOf) (v_first) (v_second) (v_degree) (v_colours) (v_signBy) (v_own) lines size atF place sort value fault_3 faultPlace_3 lastFault lastPlace (v_sF) (v_kept) undoable hasImage (v_power) (v_table) (v_marks) (v_row) rowOf areSums isSieved (v_lastOf) blocks (v_inBlock) (v_atQuotient) (v_small) drawn, aI Y q_number 8 number, aI Y q_name 24 name]) [2, 0, 1] rfl rfl ?_
      exact key_1 fault_3 faultPlace_3 h
  · replace h := h.2 c_1
    refine g_iconst (v := 0) C dX11_functionHere_7 rfl ?_
    exact g_iret C hR (Nat.le_of_ble_eq_true rfl) (Nat.le_of_ble_eq_true rfl) dX11_functionHere_8 ⟨0, fault, faultPlace, rfl, rfl, h⟩
theorem dX11_readFirst_0 : decode cX11_readFirst 0 = .ok (.aload_n 0, 1) := by decide +kernel
theorem dX11_readFirst_1 : decode cX11_readFirst 1 = .ok (.getfield 26, 3) := by decide +kernel
theorem dX11_readFirst_4 : decode cX11_readFirst 4 = .ok (.iload_n 1, 1) := by decide +kernel
theorem dX11_readFirst_5 : decode cX11_readFirst 5 = .ok (.aload_n 0, 1) := by decide +kernel
theorem dX11_readFirst_6 : decode cX11_readFirst 6 = .ok (.invokevirtual 186, 3) := by decide +kernel
theorem dX11_readFirst_9 : decode cX11_readFirst 9 = .ok (.iastore, 1) := by decide +kernel
theorem dX11_readFirst_10 : decode cX11_readFirst 10 = .ok (.aload_n 0, 1) := by decide +kernel
theorem dX11_readFirst_11 : decode cX11_readFirst 11 = .ok (.getfield 32, 3) := by decide +kernel
theorem dX11_readFirst_14 : decode cX11_readFirst 14 = .ok (.iload_n 1, 1) := by decide +kernel
theorem dX11_readFirst_15 : decode cX11_readFirst 15 = .ok (.aload_n 0, 1) := by decide +kernel
theorem dX11_readFirst_16 : decode cX11_readFirst 16 = .ok (.getfield 32, 3) := by decide +kernel
theorem dX11_readFirst_19 : decode cX11_readFirst 19 = .ok (.bipush 12, 2) := by decide +kernel
theorem dX11_readFirst_21 : decode cX11_readFirst 21 = .ok (.aload_n 0, 1) := by decide +kernel
theorem dX11_readFirst_22 : decode cX11_readFirst 22 = .ok (.getfield 26, 3) := by decide +kernel
theorem dX11_readFirst_25 : decode cX11_readFirst 25 = .ok (.iload_n 1, 1) := by decide +kernel
theorem dX11_readFirst_26 : decode cX11_readFirst 26 = .ok (.iaload, 1) := by decide +kernel
theorem dX11_readFirst_27 : decode cX11_readFirst 27 = .ok (.iadd, 1) := by decide +kernel
theorem dX11_readFirst_28 : decode cX11_readFirst 28 = .ok (.iaload, 1) := by decide +kernel
theorem dX11_readFirst_29 : decode cX11_readFirst 29 = .ok (.iastore, 1) := by decide +kernel
theorem dX11_readFirst_30 : decode cX11_readFirst 30 = .ok (.aload_n 0, 1) := by decide +kernel
theorem dX11_readFirst_31 : decode cX11_readFirst 31 = .ok (.getfield 35, 3) := by decide +kernel
theorem dX11_readFirst_34 : decode cX11_readFirst 34 = .ok (.iload_n 1, 1) := by decide +kernel
theorem dX11_readFirst_35 : decode cX11_readFirst 35 = .ok (.aload_n 0, 1) := by decide +kernel
theorem dX11_readFirst_36 : decode cX11_readFirst 36 = .ok (.getfield 35, 3) := by decide +kernel
theorem dX11_readFirst_39 : decode cX11_readFirst 39 = .ok (.bipush 12, 2) := by decide +kernel
theorem dX11_readFirst_41 : decode cX11_readFirst 41 = .ok (.aload_n 0, 1) := by decide +kernel
theorem dX11_readFirst_42 : decode cX11_readFirst 42 = .ok (.getfield 26, 3) := by decide +kernel
theorem dX11_readFirst_45 : decode cX11_readFirst 45 = .ok (.iload_n 1, 1) := by decide +kernel
theorem dX11_readFirst_46 : decode cX11_readFirst 46 = .ok (.iaload, 1) := by decide +kernel
theorem dX11_readFirst_47 : decode cX11_readFirst 47 = .ok (.iadd, 1) := by decide +kernel
theorem dX11_readFirst_48 : decode cX11_readFirst 48 = .ok (.iaload, 1) := by decide +kernel
theorem dX11_readFirst_49 : decode cX11_readFirst 49 = .ok (.iastore, 1) := by decide +kernel
theorem dX11_readFirst_50 : decode cX11_readFirst 50 = .ok (.aload_n 0, 1) := by decide +kernel
theorem dX11_readFirst_51 : decode cX11_readFirst 51 = .ok (.getfield 142, 3) := by decide +kernel
theorem dX11_readFirst_54 : decode cX11_readFirst 54 = .ok (.ifCond .ne 22, 3) := by decide +kernel
theorem dX11_readFirst_57 : decode cX11_readFirst 57 = .ok (.iload_n 2, 1) := by decide +kernel
theorem dX11_readFirst_58 : decode cX11_readFirst 58 = .ok (.iconst 5, 1) := by decide +kernel
theorem dX11_readFirst_59 : decode cX11_readFirst 59 = .ok (.if_icmp .ne 17, 3) := by decide +kernel
theorem dX11_readFirst_62 : decode cX11_readFirst 62 = .ok (.aload_n 0, 1) := by decide +kernel
theorem dX11_readFirst_63 : decode cX11_readFirst 63 = .ok (.getfield 35, 3) := by decide +kernel
theorem dX11_readFirst_66 : decode cX11_readFirst 66 = .ok (.iload_n 1, 1) := by decide +kernel
theorem dX11_readFirst_67 : decode cX11_readFirst 67 = .ok (.iaload, 1) := by decide +kernel
theorem dX11_readFirst_68 : decode cX11_readFirst 68 = .ok (.ifCond .eq 8, 3) := by decide +kernel
theorem dX11_readFirst_71 : decode cX11_readFirst 71 = .ok (.aload_n 0, 1) := by decide +kernel
theorem dX11_readFirst_72 : decode cX11_readFirst 72 = .ok (.iconst 2, 1) := by decide +kernel
theorem dX11_readFirst_73 : decode cX11_readFirst 73 = .ok (.invokevirtual 151, 3) := by decide +kernel
theorem dX11_readFirst_76 : decode cX11_readFirst 76 = .ok (.aload_n 0, 1) := by decide +kernel
theorem dX11_readFirst_77 : decode cX11_readFirst 77 = .ok (.invokevirtual 155, 3) := by decide +kernel
theorem dX11_readFirst_80 : decode cX11_readFirst 80 = .ok (.return_, 1) := by decide +kernel
/-- QuotientSumsModel.readFirst(II)V -/
def wX11_readFirst (thrown : Int32) (taped : Int32) (lines : Int32) (size : Int32) (atF : Int32) (place : Int32) (sort : Int32) (value : Int32) (fault : Int32) (faultPlace : Int32) (lastFault : Int32) (lastPlace : Int32) (undoable : Int32) (hasImage : Int32) (rowOf : Int32) (areSums : Int32) (isSieved : Int32) (blocks : Int32) (drawn : Int32) (number : Nat → Int32) (name : Nat → Int32) (first : Nat → Int32) (degree : Nat → Int32) (colours : Nat → Int32) (tape : Nat → Int32) (a1 : Int32) (a2 : Int32) (Q : (Int32) → (Int32) → (Int32) → (Int32) → (Int32) → (Int32) → (Nat → Int32) → (Nat → Int32) → (Nat → Int32) → Prop) : Prop :=
  (∃ (P_1 : (Int32) → (Int32) → (Int32) → Prop), wX11_functionHere thrown taped lines size atF place sort value fault faultPlace lastFault lastPlace undoable hasImage rowOf areSums isSieved blocks drawn number name P_1 ∧ ∀ (rF_1 : Int32) (fault_1 : Int32) (faultPlace_1 : Int32), P_1 rF_1 fault_1 faultPlace_1 → vp_in a1 24 ∧ ∀ first_1 : Nat → Int32, first_1 = upd first a1.toNatClampNeg rF_1 → vp_in (12 + (first_1 a1.toNatClampNeg)) 24 ∧ ∀ e_1 : Int32, e_1 = degree (12 + (first_1 a1.toNatClampNeg)).toNatClampNeg → ∀ degree_1 : Nat → Int32, degree_1 = upd degree a1.toNatClampNeg e_1 → ∀ e_2 : Int32, e_2 = colours (12 + (first_1 a1.toNatClampNeg)).toNatClampNeg → ∀ colours_1 : Nat → Int32, colours_1 = upd colours a1.toNatClampNeg e_2 → ((¬ fault_1 = 0 → (∃ (P_2 : (Int32) → (Int32) → (Int32) → (Int32) → Prop), wX11_goOn thrown taped lines size atF place sort value fault_1 faultPlace_1 lastFault lastPlace undoable hasImage rowOf areSums isSieved blocks drawn tape P_2 ∧ ∀ (atF_1 : Int32) (place_1 : Int32) (sort_1 : Int32) (value_1 : Int32), P_2 atF_1 place_1 sort_1 value_1 → (Q atF_1 place_1 sort_1 value_1 fault_1 faultPlace_1 first_1 degree_1 colours_1))) ∧ (fault_1 = 0 → ((¬ a2 = 5 → (∃ (P_3 : (Int32) → (Int32) → (Int32) → (Int32) → Prop), wX11_goOn thrown taped lines size atF place sort value fault_1 faultPlace_1 lastFault lastPlace undoable hasImage rowOf areSums isSieved blocks drawn tape P_3 ∧ ∀ (atF_2 : Int32) (place_2 : Int32) (sort_2 : Int32) (value_2 : Int32), P_3 atF_2 place_2 sort_2 value_2 → (Q atF_2 place_2 sort_2 value_2 fault_1 faultPlace_1 first_1 degree_1 colours_1))) ∧ (a2 = 5 → (((colours_1 a1.toNatClampNeg) = 0 → (∃ (P_4 : (Int32) → (Int32) → (Int32) → (Int32) → Prop), wX11_goOn thrown taped lines size atF place sort value fault_1 faultPlace_1 lastFault lastPlace undoable hasImage rowOf areSums isSieved blocks drawn tape P_4 ∧ ∀ (atF_3 : Int32) (place_3 : Int32) (sort_3 : Int32) (value_3 : Int32), P_4 atF_3 place_3 sort_3 value_3 → (Q atF_3 place_3 sort_3 value_3 fault_1 faultPlace_1 first_1 degree_1 colours_1))) ∧ (¬ (colours_1 a1.toNatClampNeg) = 0 → (∃ (P_5 : (Int32) → (Int32) → Prop), wX11_wrong thrown taped lines size atF place sort value fault_1 faultPlace_1 lastFault lastPlace undoable hasImage rowOf areSums isSieved blocks drawn 2 P_5 ∧ ∀ (fault_2 : Int32) (faultPlace_2 : Int32), P_5 fault_2 faultPlace_2 → ∃ (P_6 : (Int32) → (Int32) → (Int32) → (Int32) → Prop), wX11_goOn thrown taped lines size atF place sort value fault_2 faultPlace_2 lastFault lastPlace undoable hasImage rowOf areSums isSieved blocks drawn tape P_6 ∧ ∀ (atF_4 : Int32) (place_4 : Int32) (sort_4 : Int32) (value_4 : Int32), P_6 atF_4 place_4 sort_4 value_4 → (Q atF_4 place_4 sort_4 value_4 fault_2 faultPlace_2 first_1 degree_1 colours_1)))))))))
set_option maxHeartbeats 4000000 in
set_option maxRecDepth 100000 in
theorem mX11_readFirst (l : Launch) (D : va_G) (Y : Nat → ClassId) (h0 : Nat) (thrown : Int32) (q_tape : Nat) (taped : Int32) (q_number : Nat) (v_isTold : Value) (q_name : Nat) (v_sortOf : Value) (q_first : Nat) (v_second : Value) (q_degree : Nat) (q_colours : Nat) (v_signBy : Value) (v_own : Value) (lines : Int32) (size : Int32) (atF : Int32) (place : Int32) (sort : Int32) (value : Int32) (fault : Int32) (faultPlace : Int32) (lastFault : Int32) (lastPlace : Int32) (v_sF : Value) (v_kept : Value) (undoable : Int32) (hasImage : Int32) (v_power : Value) (v_table : Value) (v_marks : Value) (v_row : Value) (rowOf : Int32) (areSums : Int32) (isSieved : Int32) (v_lastOf : Value) (blocks : Int32) (v_inBlock : Value) (v_atQuotient : Value) (v_small : Value) (drawn : Int32) (number : Nat → Int32) (name : Nat → Int32) (first : Nat → Int32) (degree : Nat → Int32) (colours : Nat → Int32) (tape : Nat → Int32) (a1 : Int32) (a2 : Int32) (Q : (Int32) → (Int32) → (Int32) → (Int32) → (Int32) → (Int32) → (Nat → Int32) → (Nat → Int32) → (Nat → Int32) → Prop) (h : wX11_readFirst thrown taped lines size atF place sort value fault faultPlace lastFault lastPlace undoable hasImage rowOf areSums isSieved blocks drawn number name first degree colours tape a1 a2 Q) : gM l D Y yX11_readFirst cX11_readFirst 3 none 7 149 0 0 [.ref h0, .int a1, .int a2] [oX11 h0 thrown (.ref q_tape) taped (.ref q_number) (v_isTold) (.ref q_name) (v_sortOf) (.ref q_first) (v_second) (.ref q_degree) (.ref q_colours) (v_signBy) (v_own) lines size atF place sort value fault faultPlace lastFault lastPlace (v_sF) (v_kept) undoable hasImage (v_power) (v_table) (v_marks) (v_row) rowOf areSums isSieved (v_lastOf) blocks (v_inBlock) (v_atQuotient) (v_small) drawn, aI Y q_number 8 number, aI Y q_name 24 name, aI Y q_first 24 first, aI Y q_degree 24 degree, aI Y q_colours 24 colours, aI Y q_tape 700 tape] (fun v w => ∃ atF' : Int32, ∃ place' : Int32, ∃ sort' : Int32, ∃ value' : Int32, ∃ fault' : Int32, ∃ faultPlace' : Int32, ∃ first' : Nat → Int32, ∃ degree' : Nat → Int32, ∃ colours' : Nat → Int32, v = none ∧ w = [oX11 h0 thrown (.ref q_tape) taped (.ref q_number) (v_isTold) (.ref q_name) (v_sortOf) (.ref q_first) (v_second) (.ref q_degree) (.ref q_colours) (v_signBy) (v_own) lines size atF' place' sort' value' fault' faultPlace' lastFault lastPlace (v_sF) (v_kept) undoable hasImage (v_power) (v_table) (v_marks) (v_row) rowOf areSums isSieved (v_lastOf) blocks (v_inBlock) (v_atQuotient) (v_small) drawn, aI Y q_number 8 number, aI Y q_name 24 name, aI Y q_first 24 first', aI Y q_degree 24 degree', aI Y q_colours 24 colours', aI Y q_tape 700 tape] ∧ Q atF' place' sort' value' fault' faultPlace' first' degree' colours') := by
  refine gM_of (own := RX11) (by decide +kernel) rfl (Nat.le_of_ble_eq_true rfl) rfl (fun E C hR => ?_)
  unfold wX11_readFirst at h
  refine g_aload_n C dX11_readFirst_0 0 rfl ?_
  refine g_get C inX11 0 rfl rfl 7 (by decide) wF_X11_26 rfl dX11_readFirst_1 ?_
  refine g_iload_n C dX11_readFirst_4 1 rfl ?_
  refine g_aload_n C dX11_readFirst_5 0 rfl ?_
  obtain ⟨P_1, hP, h⟩ := h
  refine g_callV (As := []) (rest := [.int a1, .ref q_first]) C (mX11_functionHere l D Y h0 thrown (.ref q_tape) taped q_number v_isTold q_name v_sortOf (.ref q_first) v_second (.ref q_degree) (.ref q_colours) v_signBy v_own lines size atF place sort value fault faultPlace lastFault lastPlace v_sF v_kept undoable hasImage v_power v_table v_marks v_row rowOf areSums isSieved v_lastOf blocks v_inBlock v_atQuotient v_small drawn number name P_1 hP) dX11_readFirst_6 rfl wM_X11_186 wI_X11_functionHere wV_X11_functionHere wN_X11 wC_X11_functionHere (n := 0) (by decide +kernel) rfl (q0 := 0) rfl rfl ⟨Nat.le_of_ble_eq_true rfl, Nat.le_of_ble_eq_true rfl⟩ ⟨Nat.le_of_ble_eq_true rfl, Nat.le_of_ble_eq_true rfl⟩ (Nat.le_of_ble_eq_true rfl) [0, 1, 2] [3, 4, 5, 6] rfl rfl rfl (fun v wc hv => ?_)
  obtain ⟨rF_1, fault_1, faultPlace_1, rfl, rfl, hq⟩ := hv
  replace h := h rF_1 fault_1 faultPlace_1 hq
  refine gG.perm (ws' := [oX11 h0 thrown (.ref q_tape) taped (.ref q_number) (v_isTold) (.ref q_name) (v_sortOf) (.ref q_first) (v_second) (.ref q_degree) (.ref q_colours) (v_signBy) (v_own) lines size atF place sort value fault_1 faultPlace_1 lastFault lastPlace (v_sF) (v_kept) undoable hasImage (v_power) (v_table) (v_marks) (v_row) rowOf areSums isSieved (v_lastOf) blocks (v_inBlock) (v_atQuotient) (v_small) drawn, aI Y q_number 8 number, aI Y q_name 24 name, aI Y q_first 24 first, aI Y q_degree 24 degree, aI Y q_colours 24 colours, aI Y q_tape 700 tape]) [4, 5, 6, 0, 1, 2, 3] rfl rfl ?_
  obtain ⟨hc_1, h⟩ := h
  refine g_iast C 3 rfl hc_1 dX11_readFirst_9 (fun first_1 efirst_1 => gG.eqw (ws' := [oX11 h0 thrown (.ref q_tape) taped (.ref q_number) (v_isTold) (.ref q_name) (v_sortOf) (.ref q_first) (v_second) (.ref q_degree) (.ref q_colours) (v_signBy) (v_own) lines size atF place sort value fault_1 faultPlace_1 lastFault lastPlace (v_sF) (v_kept) undoable hasImage (v_power) (v_table) (v_marks) (v_row) rowOf areSums isSieved (v_lastOf) blocks (v_inBlock) (v_atQuotient) (v_small) drawn, aI Y q_number 8 number, aI Y q_name 24 name, aI Y q_first 24 first_1, aI Y q_degree 24 degree, aI Y q_colours 24 colours, aI Y q_tape 700 tape]) rfl ?_)
  replace h := h first_1 efirst_1
  refine g_aload_n C dX11_readFirst_10 0 rfl ?_
  refine g_get C inX11 0 rfl rfl 9 (by decide) wF_X11_32 rfl dX11_readFirst_11 ?_
  refine g_iload_n C dX11_readFirst_14 1 rfl ?_
  refine g_aload_n C dX11_readFirst_15 0 rfl ?_
  refine g_get C inX11 0 rfl rfl 9 (by decide) wF_X11_32 rfl dX11_readFirst_16 ?_
  refine g_bipush (v := 12) C dX11_readFirst_19 rfl ?_
  refine g_aload_n C dX11_readFirst_21 0 rfl ?_
  refine g_get C inX11 0 rfl rfl 7 (by decide) wF_X11_26 rfl dX11_readFirst_22 ?_
  refine g_iload_n C dX11_readFirst_25 1 rfl ?_
  refine g_iald C 3 rfl hc_1 dX11_readFirst_26 ?_
  refine g_iadd C dX11_readFirst_27 ?_
  obtain ⟨hc_2, h⟩ := h
  refine g_iald C 4 rfl hc_2 dX11_readFirst_28 ?_
  refine g_topi (fun e_1 ee_1 => ?_)
  replace h := h e_1 ee_1
  refine g_iast C 4 rfl hc_1 dX11_readFirst_29 (fun degree_1 edegree_1 => gG.eqw (ws' := [oX11 h0 thrown (.ref q_tape) taped (.ref q_number) (v_isTold) (.ref q_name) (v_sortOf) (.ref q_first) (v_second) (.ref q_degree) (.ref q_colours) (v_signBy) (v_own) lines size atF place sort value fault_1 faultPlace_1 lastFault lastPlace (v_sF) (v_kept) undoable hasImage (v_power) (v_table) (v_marks) (v_row) rowOf areSums isSieved (v_lastOf) blocks (v_inBlock) (v_atQuotient) (v_small) drawn, aI Y q_number 8 number, aI Y q_name 24 name, aI Y q_first 24 first_1, aI Y q_degree 24 degree_1, aI Y q_colours 24 colours, aI Y q_tape 700 tape]) rfl ?_)
  replace h := h degree_1 edegree_1
  refine g_aload_n C dX11_readFirst_30 0 rfl ?_
  refine g_get C inX11 0 rfl rfl 10 (by decide) wF_X11_35 rfl dX11_readFirst_31 ?_
  refine g_iload_n C dX11_readFirst_34 1 rfl ?_
  refine g_aload_n C dX11_readFirst_35 0 rfl ?_
  refine g_get C inX11 0 rfl rfl 10 (by decide) wF_X11_35 rfl dX11_readFirst_36 ?_
  refine g_bipush (v := 12) C dX11_readFirst_39 rfl ?_
  refine g_aload_n C dX11_readFirst_41 0 rfl ?_
  refine g_get C inX11 0 rfl rfl 7 (by decide) wF_X11_26 rfl dX11_readFirst_42 ?_
  refine g_iload_n C dX11_readFirst_45 1 rfl ?_
  refine g_iald C 3 rfl hc_1 dX11_readFirst_46 ?_
  refine g_iadd C dX11_readFirst_47 ?_
  refine g_iald C 5 rfl hc_2 dX11_readFirst_48 ?_
  refine g_topi (fun e_2 ee_2 => ?_)
  replace h := h e_2 ee_2
  refine g_iast C 5 rfl hc_1 dX11_readFirst_49 (fun colours_1 ecolours_1 => gG.eqw (ws' := [oX11 h0 thrown (.ref q_tape) taped (.ref q_number) (v_isTold) (.ref q_name) (v_sortOf) (.ref q_first) (v_second) (.ref q_degree) (.ref q_colours) (v_signBy) (v_own) lines size atF place sort value fault_1 faultPlace_1 lastFault lastPlace (v_sF) (v_kept) undoable hasImage (v_power) (v_table) (v_marks) (v_row) rowOf areSums isSieved (v_lastOf) blocks (v_inBlock) (v_atQuotient) (v_small) drawn, aI Y q_number 8 number, aI Y q_name 24 name, aI Y q_first 24 first_1, aI Y q_degree 24 degree_1, aI Y q_colours 24 colours_1, aI Y q_tape 700 tape]) rfl ?_)
  replace h := h colours_1 ecolours_1
  refine g_aload_n C dX11_readFirst_50 0 rfl ?_
  refine g_get C inX11 0 rfl rfl 19 (by decide) wF_X11_142 rfl dX11_readFirst_51 ?_
  refine g_if_ne (tgt := 76) C dX11_readFirst_54 (by decide) (fun c_1 => ?_) (fun c_1 => ?_)
  · replace h := h.1 c_1
    refine g_aload_n C dX11_readFirst_76 0 rfl ?_
    obtain ⟨P_2, hP, h⟩ := h
    refine g_callV (As := []) (rest := []) C (mX11_goOn l D Y h0 thrown q_tape taped (.ref q_number) v_isTold (.ref q_name) v_sortOf (.ref q_first) v_second (.ref q_degree) (.ref q_colours) v_signBy v_own lines size atF place sort value fault_1 faultPlace_1 lastFault lastPlace v_sF v_kept undoable hasImage v_power v_table v_marks v_row rowOf areSums isSieved v_lastOf blocks v_inBlock v_atQuotient v_small drawn tape P_2 hP) dX11_readFirst_77 rfl wM_X11_155 wI_X11_goOn wV_X11_goOn wN_X11 wC_X11_goOn (n := 0) (by decide +kernel) rfl (q0 := 0) rfl rfl ⟨Nat.le_of_ble_eq_true rfl, Nat.le_of_ble_eq_true rfl⟩ ⟨Nat.le_of_ble_eq_true rfl, Nat.le_of_ble_eq_true rfl⟩ (Nat.le_of_ble_eq_true rfl) [0, 6] [1, 2, 3, 4, 5] rfl rfl rfl (fun v wc hv => ?_)
    obtain ⟨atF_1, place_1, sort_1, value_1, rfl, rfl, hq⟩ := hv
    replace h := h atF_1 place_1 sort_1 value_1 hq
    refine gG.perm (ws' := [oX11 h0 thrown (.ref q_tape) taped (.ref q_number) (v_isTold) (.ref q_name) (v_sortOf) (.ref q_first) (v_second) (.ref q_degree) (.ref q_colours) (v_signBy) (v_own) lines size atF_1 place_1 sort_1 value_1 fault_1 faultPlace_1 lastFault lastPlace (v_sF) (v_kept) undoable hasImage (v_power) (v_table) (v_marks) (v_row) rowOf areSums isSieved (v_lastOf) blocks (v_inBlock) (v_atQuotient) (v_small) drawn, aI Y q_number 8 number, aI Y q_name 24 name, aI Y q_first 24 first_1, aI Y q_degree 24 degree_1, aI Y q_colours 24 colours_1, aI Y q_tape 700 tape]) [5, 0, 1, 2, 3, 4, 6] rfl rfl ?_
    exact g_vret C hR (Nat.le_of_ble_eq_true rfl) (Nat.le_of_ble_eq_true rfl) dX11_readFirst_80 ⟨atF_1, place_1, sort_1, value_1, fault_1, faultPlace_1, first_1, degree_1, colours_1, rfl, rfl, h⟩
  · replace h := h.2 c_1
    refine g_iload_n C dX11_readFirst_57 2 rfl ?_
    refine g_iconst (v := 5) C dX11_readFirst_58 rfl ?_
    refine g_icmp_ne (tgt := 76) C dX11_readFirst_59 (by decide) (fun c_2 => ?_) (fun c_2 => ?_)
    · replace h := h.1 c_2
      refine g_aload_n C dX11_readFirst_76 0 rfl ?_
      obtain ⟨P_3, hP, h⟩ := h
      refine g_callV (As := []) (rest := []) C (mX11_goOn l D Y h0 thrown q_tape taped (.ref q_number) v_isTold (.ref q_name) v_sortOf (.ref q_first) v_second (.ref q_degree) (.ref q_colours) v_signBy v_own lines size atF place sort value fault_1 faultPlace_1 lastFault lastPlace v_sF v_kept undoable hasImage v_power v_table v_marks v_row rowOf areSums isSieved v_lastOf blocks v_inBlock v_atQuotient v_small drawn tape P_3 hP) dX11_readFirst_77 rfl wM_X11_155 wI_X11_goOn wV_X11_goOn wN_X11 wC_X11_goOn (n := 0) (by decide +kernel) rfl (q0 := 0) rfl rfl ⟨Nat.le_of_ble_eq_true rfl, Nat.le_of_ble_eq_true rfl⟩ ⟨Nat.le_of_ble_eq_true rfl, Nat.le_of_ble_eq_true rfl⟩ (Nat.le_of_ble_eq_true rfl) [0, 6] [1, 2, 3, 4, 5] rfl rfl rfl (fun v wc hv => ?_)
      obtain ⟨atF_2, place_2, sort_2, value_2, rfl, rfl, hq⟩ := hv
      replace h := h atF_2 place_2 sort_2 value_2 hq
      refine gG.perm (ws' := [oX11 h0 thrown (.ref q_tape) taped (.ref q_number) (v_isTold) (.ref q_name) (v_sortOf) (.ref q_first) (v_second) (.ref q_degree) (.ref q_colours) (v_signBy) (v_own) lines size atF_2 place_2 sort_2 value_2 fault_1 faultPlace_1 lastFault lastPlace (v_sF) (v_kept) undoable hasImage (v_power) (v_table) (v_marks) (v_row) rowOf areSums isSieved (v_lastOf) blocks (v_inBlock) (v_atQuotient) (v_small) drawn, aI Y q_number 8 number, aI Y q_name 24 name, aI Y q_first 24 first_1, aI Y q_degree 24 degree_1, aI Y q_colours 24 colours_1, aI Y q_tape 700 tape]) [5, 0, 1, 2, 3, 4, 6] rfl rfl ?_
      exact g_vret C hR (Nat.le_of_ble_eq_true rfl) (Nat.le_of_ble_eq_true rfl) dX11_readFirst_80 ⟨atF_2, place_2, sort_2, value_2, fault_1, faultPlace_1, first_1, degree_1, colours_1, rfl, rfl, h⟩
    · replace h := h.2 c_2
      refine g_aload_n C dX11_readFirst_62 0 rfl ?_
      refine g_get C inX11 0 rfl rfl 10 (by decide) wF_X11_35 rfl dX11_readFirst_63 ?_
      refine g_iload_n C dX11_readFirst_66 1 rfl ?_
      refine g_iald C 5 rfl hc_1 dX11_readFirst_67 ?_
      refine g_if_eq (tgt := 76) C dX11_readFirst_68 (by decide) (fun c_3 => ?_) (fun c_3 => ?_)
      · replace h := h.1 c_3
        refine g_aload_n C dX11_readFirst_76 0 rfl ?_
        obtain ⟨P_4, hP, h⟩ := h
        refine g_callV (As := []) (rest := []) C (mX11_goOn l D Y h0 thrown q_tape taped (.ref q_number) v_isTold (.ref q_name) v_sortOf (.ref q_first) v_second (.ref q_degree) (.ref q_colours) v_signBy v_own lines size atF place sort value fault_1 faultPlace_1 lastFault lastPlace v_sF v_kept undoable hasImage v_power v_table v_marks v_row rowOf areSums isSieved v_lastOf blocks v_inBlock v_atQuotient v_small drawn tape P_4 hP) dX11_readFirst_77 rfl wM_X11_155 wI_X11_goOn wV_X11_goOn wN_X11 wC_X11_goOn (n := 0) (by decide +kernel) rfl (q0 := 0) rfl rfl ⟨Nat.le_of_ble_eq_true rfl, Nat.le_of_ble_eq_true rfl⟩ ⟨Nat.le_of_ble_eq_true rfl, Nat.le_of_ble_eq_true rfl⟩ (Nat.le_of_ble_eq_true rfl) [0, 6] [1, 2, 3, 4, 5] rfl rfl rfl (fun v wc hv => ?_)
        obtain ⟨atF_3, place_3, sort_3, value_3, rfl, rfl, hq⟩ := hv
        replace h := h atF_3 place_3 sort_3 value_3 hq
        refine gG.perm (ws' := [oX11 h0 thrown (.ref q_tape) taped (.ref q_number) (v_isTold) (.ref q_name) (v_sortOf) (.ref q_first) (v_second) (.ref q_degree) (.ref q_colours) (v_signBy) (v_own) lines size atF_3 place_3 sort_3 value_3 fault_1 faultPlace_1 lastFault lastPlace (v_sF) (v_kept) undoable hasImage (v_power) (v_table) (v_marks) (v_row) rowOf areSums isSieved (v_lastOf) blocks (v_inBlock) (v_atQuotient) (v_small) drawn, aI Y q_number 8 number, aI Y q_name 24 name, aI Y q_first 24 first_1, aI Y q_degree 24 degree_1, aI Y q_colours 24 colours_1, aI Y q_tape 700 tape]) [5, 0, 1, 2, 3, 4, 6] rfl rfl ?_
        exact g_vret C hR (Nat.le_of_ble_eq_true rfl) (Nat.le_of_ble_eq_true rfl) dX11_readFirst_80 ⟨atF_3, place_3, sort_3, value_3, fault_1, faultPlace_1, first_1, degree_1, colours_1, rfl, rfl, h⟩
      · replace h := h.2 c_3
        refine g_aload_n C dX11_readFirst_71 0 rfl ?_
        refine g_iconst (v := 2) C dX11_readFirst_72 rfl ?_
        obtain ⟨P_5, hP, h⟩ := h
        refine g_callV (As := [.int 2]) (rest := []) C (mX11_wrong l D Y h0 thrown (.ref q_tape) taped (.ref q_number) v_isTold (.ref q_name) v_sortOf (.ref q_first) v_second (.ref q_degree) (.ref q_colours) v_signBy v_own lines size atF place sort value fault_1 faultPlace_1 lastFault lastPlace v_sF v_kept undoable hasImage v_power v_table v_marks v_row rowOf areSums isSieved v_lastOf blocks v_inBlock v_atQuotient v_small drawn 2 P_5 hP) dX11_readFirst_73 rfl wM_X11_151 wI_X11_wrong wV_X11_wrong wN_X11 wC_X11_wrong (n := 1) (by decide +kernel) rfl (q0 := 0) rfl rfl ⟨Nat.le_of_ble_eq_true rfl, Nat.le_of_ble_eq_true rfl⟩ ⟨Nat.le_of_ble_eq_true rfl, Nat.le_of_ble_eq_true rfl⟩ (Nat.le_of_ble_eq_true rfl) [0] [1, 2, 3, 4, 5, 6] rfl rfl rfl (fun v wc hv => ?_)
        obtain ⟨fault_2, faultPlace_2, rfl, rfl, hq⟩ := hv
        replace h := h fault_2 faultPlace_2 hq
        refine gG.perm (ws' := [oX11 h0 thrown (.ref q_tape) taped (.ref q_number) (v_isTold) (.ref q_name) (v_sortOf) (.ref q_first) (v_second) (.ref q_degree) (.ref q_colours) (v_signBy) (v_own) lines size atF place sort value fault_2 faultPlace_2 lastFault lastPlace (v_sF) (v_kept) undoable hasImage (v_power) (v_table) (v_marks) (v_row) rowOf areSums isSieved (v_lastOf) blocks (v_inBlock) (v_atQuotient) (v_small) drawn, aI Y q_number 8 number, aI Y q_name 24 name, aI Y q_first 24 first_1, aI Y q_degree 24 degree_1, aI Y q_colours 24 colours_1, aI Y q_tape 700 tape]) [6, 0, 1, 2, 3, 4, 5] rfl rfl ?_
        refine g_aload_n C dX11_readFirst_76 0 rfl ?_
        obtain ⟨P_6, hP, h⟩ := h
        refine g_callV (As := []) (rest := []) C (mX11_goOn l D Y h0 thrown q_tape taped (.ref q_number) v_isTold (.ref q_name) v_sortOf (.ref q_first) v_second (.ref q_degree) (.ref q_colours) v_signBy v_own lines size atF place sort value fault_2 faultPlace_2 lastFault lastPlace v_sF v_kept undoable hasImage v_power v_table v_marks v_row rowOf areSums isSieved v_lastOf blocks v_inBlock v_atQuotient v_small drawn tape P_6 hP) dX11_readFirst_77 rfl wM_X11_155 wI_X11_goOn wV_X11_goOn wN_X11 wC_X11_goOn (n := 0) (by decide +kernel) rfl (q0 := 0) rfl rfl ⟨Nat.le_of_ble_eq_true rfl, Nat.le_of_ble_eq_true rfl⟩ ⟨Nat.le_of_ble_eq_true rfl, Nat.le_of_ble_eq_true rfl⟩ (Nat.le_of_ble_eq_true rfl) [0, 6] [1, 2, 3, 4, 5] rfl rfl rfl (fun v wc hv => ?_)
        obtain ⟨atF_4, place_4, sort_4, value_4, rfl, rfl, hq⟩ := hv
        replace h := h atF_4 place_4 sort_4 value_4 hq
        refine gG.perm (ws' := [oX11 h0 thrown (.ref q_tape) taped (.ref q_number) (v_isTold) (.ref q_name) (v_sortOf) (.ref q_first) (v_second) (.ref q_degree) (.ref q_colours) (v_signBy) (v_own) lines size atF_4 place_4 sort_4 value_4 fault_2 faultPlace_2 lastFault lastPlace (v_sF) (v_kept) undoable hasImage (v_power) (v_table) (v_marks) (v_row) rowOf areSums isSieved (v_lastOf) blocks (v_inBlock) (v_atQuotient) (v_small) drawn, aI Y q_number 8 number, aI Y q_name 24 name, aI Y q_first 24 first_1, aI Y q_degree 24 degree_1, aI Y q_colours 24 colours_1, aI Y q_tape 700 tape]) [5, 0, 1, 2, 3, 4, 6] rfl rfl ?_
        exact g_vret C hR (Nat.le_of_ble_eq_true rfl) (Nat.le_of_ble_eq_true rfl) dX11_readFirst_80 ⟨atF_4, place_4, sort_4, value_4, fault_2, faultPlace_2, first_1, degree_1, colours_1, rfl, rfl, h⟩
theorem dX11_readSecond_0 : decode cX11_readSecond 0 = .ok (.aload_n 0, 1) := by decide +kernel
theorem dX11_readSecond_1 : decode cX11_readSecond 1 = .ok (.getfield 29, 3) := by decide +kernel
theorem dX11_readSecond_4 : decode cX11_readSecond 4 = .ok (.iload_n 1, 1) := by decide +kernel
theorem dX11_readSecond_5 : decode cX11_readSecond 5 = .ok (.aload_n 0, 1) := by decide +kernel
theorem dX11_readSecond_6 : decode cX11_readSecond 6 = .ok (.invokevirtual 186, 3) := by decide +kernel
theorem dX11_readSecond_9 : decode cX11_readSecond 9 = .ok (.iastore, 1) := by decide +kernel
theorem dX11_readSecond_10 : decode cX11_readSecond 10 = .ok (.aload_n 0, 1) := by decide +kernel
theorem dX11_readSecond_11 : decode cX11_readSecond 11 = .ok (.getfield 32, 3) := by decide +kernel
theorem dX11_readSecond_14 : decode cX11_readSecond 14 = .ok (.bipush 12, 2) := by decide +kernel
theorem dX11_readSecond_16 : decode cX11_readSecond 16 = .ok (.aload_n 0, 1) := by decide +kernel
theorem dX11_readSecond_17 : decode cX11_readSecond 17 = .ok (.getfield 29, 3) := by decide +kernel
theorem dX11_readSecond_20 : decode cX11_readSecond 20 = .ok (.iload_n 1, 1) := by decide +kernel
theorem dX11_readSecond_21 : decode cX11_readSecond 21 = .ok (.iaload, 1) := by decide +kernel
theorem dX11_readSecond_22 : decode cX11_readSecond 22 = .ok (.iadd, 1) := by decide +kernel
theorem dX11_readSecond_23 : decode cX11_readSecond 23 = .ok (.iaload, 1) := by decide +kernel
theorem dX11_readSecond_24 : decode cX11_readSecond 24 = .ok (.istore_n 3, 1) := by decide +kernel
theorem dX11_readSecond_25 : decode cX11_readSecond 25 = .ok (.iload_n 2, 1) := by decide +kernel
theorem dX11_readSecond_26 : decode cX11_readSecond 26 = .ok (.iconst 4, 1) := by decide +kernel
theorem dX11_readSecond_27 : decode cX11_readSecond 27 = .ok (.if_icmp .ne 16, 3) := by decide +kernel
theorem dX11_readSecond_30 : decode cX11_readSecond 30 = .ok (.aload_n 0, 1) := by decide +kernel
theorem dX11_readSecond_31 : decode cX11_readSecond 31 = .ok (.getfield 32, 3) := by decide +kernel
theorem dX11_readSecond_34 : decode cX11_readSecond 34 = .ok (.iload_n 1, 1) := by decide +kernel
theorem dX11_readSecond_35 : decode cX11_readSecond 35 = .ok (.dup2, 1) := by decide +kernel
theorem dX11_readSecond_36 : decode cX11_readSecond 36 = .ok (.iaload, 1) := by decide +kernel
theorem dX11_readSecond_37 : decode cX11_readSecond 37 = .ok (.iload_n 3, 1) := by decide +kernel
theorem dX11_readSecond_38 : decode cX11_readSecond 38 = .ok (.iadd, 1) := by decide +kernel
theorem dX11_readSecond_39 : decode cX11_readSecond 39 = .ok (.iastore, 1) := by decide +kernel
theorem dX11_readSecond_40 : decode cX11_readSecond 40 = .ok (.goto 20, 3) := by decide +kernel
theorem dX11_readSecond_43 : decode cX11_readSecond 43 = .ok (.iload_n 3, 1) := by decide +kernel
theorem dX11_readSecond_44 : decode cX11_readSecond 44 = .ok (.aload_n 0, 1) := by decide +kernel
theorem dX11_readSecond_45 : decode cX11_readSecond 45 = .ok (.getfield 32, 3) := by decide +kernel
theorem dX11_readSecond_48 : decode cX11_readSecond 48 = .ok (.iload_n 1, 1) := by decide +kernel
theorem dX11_readSecond_49 : decode cX11_readSecond 49 = .ok (.iaload, 1) := by decide +kernel
theorem dX11_readSecond_50 : decode cX11_readSecond 50 = .ok (.if_icmp .le 10, 3) := by decide +kernel
theorem dX11_readSecond_53 : decode cX11_readSecond 53 = .ok (.aload_n 0, 1) := by decide +kernel
theorem dX11_readSecond_54 : decode cX11_readSecond 54 = .ok (.getfield 32, 3) := by decide +kernel
theorem dX11_readSecond_57 : decode cX11_readSecond 57 = .ok (.iload_n 1, 1) := by decide +kernel
theorem dX11_readSecond_58 : decode cX11_readSecond 58 = .ok (.iload_n 3, 1) := by decide +kernel
theorem dX11_readSecond_59 : decode cX11_readSecond 59 = .ok (.iastore, 1) := by decide +kernel
theorem dX11_readSecond_60 : decode cX11_readSecond 60 = .ok (.aload_n 0, 1) := by decide +kernel
theorem dX11_readSecond_61 : decode cX11_readSecond 61 = .ok (.getfield 35, 3) := by decide +kernel
theorem dX11_readSecond_64 : decode cX11_readSecond 64 = .ok (.bipush 12, 2) := by decide +kernel
theorem dX11_readSecond_66 : decode cX11_readSecond 66 = .ok (.aload_n 0, 1) := by decide +kernel
theorem dX11_readSecond_67 : decode cX11_readSecond 67 = .ok (.getfield 29, 3) := by decide +kernel
theorem dX11_readSecond_70 : decode cX11_readSecond 70 = .ok (.iload_n 1, 1) := by decide +kernel
theorem dX11_readSecond_71 : decode cX11_readSecond 71 = .ok (.iaload, 1) := by decide +kernel
theorem dX11_readSecond_72 : decode cX11_readSecond 72 = .ok (.iadd, 1) := by decide +kernel
theorem dX11_readSecond_73 : decode cX11_readSecond 73 = .ok (.iaload, 1) := by decide +kernel
theorem dX11_readSecond_74 : decode cX11_readSecond 74 = .ok (.istore 4, 2) := by decide +kernel
theorem dX11_readSecond_76 : decode cX11_readSecond 76 = .ok (.aload_n 0, 1) := by decide +kernel
theorem dX11_readSecond_77 : decode cX11_readSecond 77 = .ok (.getfield 142, 3) := by decide +kernel
theorem dX11_readSecond_80 : decode cX11_readSecond 80 = .ok (.ifCond .ne 37, 3) := by decide +kernel
theorem dX11_readSecond_83 : decode cX11_readSecond 83 = .ok (.aload_n 0, 1) := by decide +kernel
theorem dX11_readSecond_84 : decode cX11_readSecond 84 = .ok (.getfield 32, 3) := by decide +kernel
theorem dX11_readSecond_87 : decode cX11_readSecond 87 = .ok (.iload_n 1, 1) := by decide +kernel
theorem dX11_readSecond_88 : decode cX11_readSecond 88 = .ok (.iaload, 1) := by decide +kernel
theorem dX11_readSecond_89 : decode cX11_readSecond 89 = .ok (.iconst 3, 1) := by decide +kernel
theorem dX11_readSecond_90 : decode cX11_readSecond 90 = .ok (.if_icmp .gt 22, 3) := by decide +kernel
theorem dX11_readSecond_93 : decode cX11_readSecond 93 = .ok (.iload_n 2, 1) := by decide +kernel
theorem dX11_readSecond_94 : decode cX11_readSecond 94 = .ok (.iconst 4, 1) := by decide +kernel
theorem dX11_readSecond_95 : decode cX11_readSecond 95 = .ok (.if_icmp .ne 22, 3) := by decide +kernel
theorem dX11_readSecond_98 : decode cX11_readSecond 98 = .ok (.aload_n 0, 1) := by decide +kernel
theorem dX11_readSecond_99 : decode cX11_readSecond 99 = .ok (.getfield 35, 3) := by decide +kernel
theorem dX11_readSecond_102 : decode cX11_readSecond 102 = .ok (.iload_n 1, 1) := by decide +kernel
theorem dX11_readSecond_103 : decode cX11_readSecond 103 = .ok (.iaload, 1) := by decide +kernel
theorem dX11_readSecond_104 : decode cX11_readSecond 104 = .ok (.ifCond .eq 13, 3) := by decide +kernel
theorem dX11_readSecond_107 : decode cX11_readSecond 107 = .ok (.iload 4, 2) := by decide +kernel
theorem dX11_readSecond_109 : decode cX11_readSecond 109 = .ok (.ifCond .eq 8, 3) := by decide +kernel
theorem dX11_readSecond_112 : decode cX11_readSecond 112 = .ok (.aload_n 0, 1) := by decide +kernel
theorem dX11_readSecond_113 : decode cX11_readSecond 113 = .ok (.iconst 2, 1) := by decide +kernel
theorem dX11_readSecond_114 : decode cX11_readSecond 114 = .ok (.invokevirtual 151, 3) := by decide +kernel
theorem dX11_readSecond_117 : decode cX11_readSecond 117 = .ok (.aload_n 0, 1) := by decide +kernel
theorem dX11_readSecond_118 : decode cX11_readSecond 118 = .ok (.getfield 35, 3) := by decide +kernel
theorem dX11_readSecond_121 : decode cX11_readSecond 121 = .ok (.iload_n 1, 1) := by decide +kernel
theorem dX11_readSecond_122 : decode cX11_readSecond 122 = .ok (.dup2, 1) := by decide +kernel
theorem dX11_readSecond_123 : decode cX11_readSecond 123 = .ok (.iaload, 1) := by decide +kernel
theorem dX11_readSecond_124 : decode cX11_readSecond 124 = .ok (.iload 4, 2) := by decide +kernel
theorem dX11_readSecond_126 : decode cX11_readSecond 126 = .ok (.ior, 1) := by decide +kernel
theorem dX11_readSecond_127 : decode cX11_readSecond 127 = .ok (.iastore, 1) := by decide +kernel
theorem dX11_readSecond_128 : decode cX11_readSecond 128 = .ok (.aload_n 0, 1) := by decide +kernel
theorem dX11_readSecond_129 : decode cX11_readSecond 129 = .ok (.invokevirtual 155, 3) := by decide +kernel
theorem dX11_readSecond_132 : decode cX11_readSecond 132 = .ok (.return_, 1) := by decide +kernel
/-- QuotientSumsModel.readSecond(II)V -/
def wX11_readSecond (thrown : Int32) (taped : Int32) (lines : Int32) (size : Int32) (atF : Int32) (place : Int32) (sort : Int32) (value : Int32) (fault : Int32) (faultPlace : Int32) (lastFault : Int32) (lastPlace : Int32) (undoable : Int32) (hasImage : Int32) (rowOf : Int32) (areSums : Int32) (isSieved : Int32) (blocks : Int32) (drawn : Int32) (number : Nat → Int32) (name : Nat → Int32) (second : Nat → Int32) (degree : Nat → Int32) (colours : Nat → Int32) (tape : Nat → Int32) (a1 : Int32) (a2 : Int32) (Q : (Int32) → (Int32) → (Int32) → (Int32) → (Int32) → (Int32) → (Nat → Int32) → (Nat → Int32) → (Nat → Int32) → Prop) : Prop :=
  (∃ (P_1 : (Int32) → (Int32) → (Int32) → Prop), wX11_functionHere thrown taped lines size atF place sort value fault faultPlace lastFault lastPlace undoable hasImage rowOf areSums isSieved blocks drawn number name P_1 ∧ ∀ (rF_1 : Int32) (fault_1 : Int32) (faultPlace_1 : Int32), P_1 rF_1 fault_1 faultPlace_1 → vp_in a1 24 ∧ ∀ second_1 : Nat → Int32, second_1 = upd second a1.toNatClampNeg rF_1 → vp_in (12 + (second_1 a1.toNatClampNeg)) 24 ∧ ∀ x3_1 : Int32, x3_1 = degree (12 + (second_1 a1.toNatClampNeg)).toNatClampNeg → (∃ (J_1 : (Nat → Int32) → Prop), ((¬ a2 = 4 → (vp_in a1 24 ∧ ((x3_1 ≤ (degree a1.toNatClampNeg) → (J_1 degree)) ∧ (¬ x3_1 ≤ (degree a1.toNatClampNeg) → (∀ degree_2 : Nat → Int32, degree_2 = upd degree a1.toNatClampNeg x3_1 → (J_1 degree_2)))))) ∧ (a2 = 4 → (vp_in a1 24 ∧ ∀ e_6 : Int32, e_6 = (degree a1.toNatClampNeg) + x3_1 → ∀ degree_3 : Nat → Int32, degree_3 = upd degree a1.toNatClampNeg e_6 → (J_1 degree_3)))) ∧ (∀ (degree_1 : Nat → Int32), J_1 degree_1 → (vp_in a1 24 ∧ vp_in (12 + (second_1 a1.toNatClampNeg)) 24 ∧ ∀ x4_1 : Int32, x4_1 = colours (12 + (second_1 a1.toNatClampNeg)).toNatClampNeg → ((¬ fault_1 = 0 → (∀ e_1 : Int32, e_1 = (colours a1.toNatClampNeg) ||| x4_1 → ∀ colours_1 : Nat → Int32, colours_1 = upd colours a1.toNatClampNeg e_1 → ∃ (P_2 : (Int32) → (Int32) → (Int32) → (Int32) → Prop), wX11_goOn thrown taped lines size atF place sort value fault_1 faultPlace_1 lastFault lastPlace undoable hasImage rowOf areSums isSieved blocks drawn tape P_2 ∧ ∀ (atF_1 : Int32) (place_1 : Int32) (sort_1 : Int32) (value_1 : Int32), P_2 atF_1 place_1 sort_1 value_1 → (Q atF_1 place_1 sort_1 value_1 fault_1 faultPlace_1 second_1 degree_1 colours_1))) ∧ (fault_1 = 0 → (∃ (J_2 : Prop), ((3 < (degree_1 a1.toNatClampNeg) → (J_2)) ∧ (¬ 3 < (degree_1 a1.toNatClampNeg) → ((¬ a2 = 4 → (∀ e_3 : Int32, e_3 = (colours a1.toNatClampNeg) ||| x4_1 → ∀ colours_3 : Nat → Int32, colours_3 = upd colours a1.toNatClampNeg e_3 → ∃ (P_5 : (Int32) → (Int32) → (Int32) → (Int32) → Prop), wX11_goOn thrown taped lines size atF place sort value fault_1 faultPlace_1 lastFault lastPlace undoable hasImage rowOf areSums isSieved blocks drawn tape P_5 ∧ ∀ (atF_3 : Int32) (place_3 : Int32) (sort_3 : Int32) (value_3 : Int32), P_5 atF_3 place_3 sort_3 value_3 → (Q atF_3 place_3 sort_3 value_3 fault_1 faultPlace_1 second_1 degree_1 colours_3))) ∧ (a2 = 4 → (((colours a1.toNatClampNeg) = 0 → (∀ e_4 : Int32, e_4 = (colours a1.toNatClampNeg) ||| x4_1 → ∀ colours_4 : Nat → Int32, colours_4 = upd colours a1.toNatClampNeg e_4 → ∃ (P_6 : (Int32) → (Int32) → (Int32) → (Int32) → Prop), wX11_goOn thrown taped lines size atF place sort value fault_1 faultPlace_1 lastFault lastPlace undoable hasImage rowOf areSums isSieved blocks drawn tape P_6 ∧ ∀ (atF_4 : Int32) (place_4 : Int32) (sort_4 : Int32) (value_4 : Int32), P_6 atF_4 place_4 sort_4 value_4 → (Q atF_4 place_4 sort_4 value_4 fault_1 faultPlace_1 second_1 degree_1 colours_4))) ∧ (¬ (colours a1.toNatClampNeg) = 0 → ((x4_1 = 0 → (∀ e_5 : Int32, e_5 = (colours a1.toNatClampNeg) ||| x4_1 → ∀ colours_5 : Nat → Int32, colours_5 = upd colours a1.toNatClampNeg e_5 → ∃ (P_7 : (Int32) → (Int32) → (Int32) → (Int32) → Prop), wX11_goOn thrown taped lines size atF place sort value fault_1 faultPlace_1 lastFault lastPlace undoable hasImage rowOf areSums isSieved blocks drawn tape P_7 ∧ ∀ (atF_5 : Int32) (place_5 : Int32) (sort_5 : Int32) (value_5 : Int32), P_7 atF_5 place_5 sort_5 value_5 → (Q atF_5 place_5 sort_5 value_5 fault_1 faultPlace_1 second_1 degree_1 colours_5))) ∧ (¬ x4_1 = 0 → (J_2))))))))) ∧ (J_2 → (∃ (P_3 : (Int32) → (Int32) → Prop), wX11_wrong thrown taped lines size atF place sort value fault_1 faultPlace_1 lastFault lastPlace undoable hasImage rowOf areSums isSieved blocks drawn 2 P_3 ∧ ∀ (fault_2 : Int32) (faultPlace_2 : Int32), P_3 fault_2 faultPlace_2 → vp_in a1 24 ∧ ∀ e_2 : Int32, e_2 = (colours a1.toNatClampNeg) ||| x4_1 → ∀ colours_2 : Nat → Int32, colours_2 = upd colours a1.toNatClampNeg e_2 → ∃ (P_4 : (Int32) → (Int32) → (Int32) → (Int32) → Prop), wX11_goOn thrown taped lines size atF place sort value fault_2 faultPlace_2 lastFault lastPlace undoable hasImage rowOf areSums isSieved blocks drawn tape P_4 ∧ ∀ (atF_2 : Int32) (place_2 : Int32) (sort_2 : Int32) (value_2 : Int32), P_4 atF_2 place_2 sort_2 value_2 → (Q atF_2 place_2 sort_2 value_2 fault_2 faultPlace_2 second_1 degree_1 colours_2))))))))))
set_option maxHeartbeats 4000000 in
set_option maxRecDepth 100000 in
theorem mX11_readSecond (l : Launch) (D : va_G) (Y : Nat → ClassId) (h0 : Nat) (thrown : Int32) (q_tape : Nat) (taped : Int32) (q_number : Nat) (v_isTold : Value) (q_name : Nat) (v_sortOf : Value) (v_first : Value) (q_second : Nat) (q_degree : Nat) (q_colours : Nat) (v_signBy : Value) (v_own : Value) (lines : Int32) (size : Int32) (atF : Int32) (place : Int32) (sort : Int32) (value : Int32) (fault : Int32) (faultPlace : Int32) (lastFault : Int32) (lastPlace : Int32) (v_sF : Value) (v_kept : Value) (undoable : Int32) (hasImage : Int32) (v_power : Value) (v_table : Value) (v_marks : Value) (v_row : Value) (rowOf : Int32) (areSums : Int32) (isSieved : Int32) (v_lastOf : Value) (blocks : Int32) (v_inBlock : Value) (v_atQuotient : Value) (v_small : Value) (drawn : Int32) (number : Nat → Int32) (name : Nat → Int32) (second : Nat → Int32) (degree : Nat → Int32) (colours : Nat → Int32) (tape : Nat → Int32) (a1 : Int32) (a2 : Int32) (Q : (Int32) → (Int32) → (Int32) → (Int32) → (Int32) → (Int32) → (Nat → Int32) → (Nat → Int32) → (Nat → Int32) → Prop) (h : wX11_readSecond thrown taped lines size atF place sort value fault faultPlace lastFault lastPlace undoable hasImage rowOf areSums isSieved blocks drawn number name second degree colours tape a1 a2 Q) : gM l D Y yX11_readSecond cX11_readSecond 5 none 7 149 0 0 [.ref h0, .int a1, .int a2] [oX11 h0 thrown (.ref q_tape) taped (.ref q_number) (v_isTold) (.ref q_name) (v_sortOf) (v_first) (.ref q_second) (.ref q_degree) (.ref q_colours) (v_signBy) (v_own) lines size atF place sort value fault faultPlace lastFault lastPlace (v_sF) (v_kept) undoable hasImage (v_power) (v_table) (v_marks) (v_row) rowOf areSums isSieved (v_lastOf) blocks (v_inBlock) (v_atQuotient) (v_small) drawn, aI Y q_number 8 number, aI Y q_name 24 name, aI Y q_second 24 second, aI Y q_degree 24 degree, aI Y q_colours 24 colours, aI Y q_tape 700 tape] (fun v w => ∃ atF' : Int32, ∃ place' : Int32, ∃ sort' : Int32, ∃ value' : Int32, ∃ fault' : Int32, ∃ faultPlace' : Int32, ∃ second' : Nat → Int32, ∃ degree' : Nat → Int32, ∃ colours' : Nat → Int32, v = none ∧ w = [oX11 h0 thrown (.ref q_tape) taped (.ref q_number) (v_isTold) (.ref q_name) (v_sortOf) (v_first) (.ref q_second) (.ref q_degree) (.ref q_colours) (v_signBy) (v_own) lines size atF' place' sort' value' fault' faultPlace' lastFault lastPlace (v_sF) (v_kept) undoable hasImage (v_power) (v_table) (v_marks) (v_row) rowOf areSums isSieved (v_lastOf) blocks (v_inBlock) (v_atQuotient) (v_small) drawn, aI Y q_number 8 number, aI Y q_name 24 name, aI Y q_second 24 second', aI Y q_degree 24 degree', aI Y q_colours 24 colours', aI Y q_tape 700 tape] ∧ Q atF' place' sort' value' fault' faultPlace' second' degree' colours') := by
  refine gM_of (own := RX11) (by decide +kernel) rfl (Nat.le_of_ble_eq_true rfl) rfl (fun E C hR => ?_)
  unfold wX11_readSecond at h
  refine g_aload_n C dX11_readSecond_0 0 rfl ?_
  refine g_get C inX11 0 rfl rfl 8 (by decide) wF_X11_29 rfl dX11_readSecond_1 ?_
  refine g_iload_n C dX11_readSecond_4 1 rfl ?_
  refine g_aload_n C dX11_readSecond_5 0 rfl ?_
  obtain ⟨P_1, hP, h⟩ := h
  refine g_callV (As := []) (rest := [.int a1, .ref q_second]) C (mX11_functionHere l D Y h0 thrown (.ref q_tape) taped q_number v_isTold q_name v_sortOf v_first (.ref q_second) (.ref q_degree) (.ref q_colours) v_signBy v_own lines size atF place sort value fault faultPlace lastFault lastPlace v_sF v_kept undoable hasImage v_power v_table v_marks v_row rowOf areSums isSieved v_lastOf blocks v_inBlock v_atQuotient v_small drawn number name P_1 hP) dX11_readSecond_6 rfl wM_X11_186 wI_X11_functionHere wV_X11_functionHere wN_X11 wC_X11_functionHere (n := 0) (by decide +kernel) rfl (q0 := 0) rfl rfl ⟨Nat.le_of_ble_eq_true rfl, Nat.le_of_ble_eq_true rfl⟩ ⟨Nat.le_of_ble_eq_true rfl, Nat.le_of_ble_eq_true rfl⟩ (Nat.le_of_ble_eq_true rfl) [0, 1, 2] [3, 4, 5, 6] rfl rfl rfl (fun v wc hv => ?_)
  obtain ⟨rF_1, fault_1, faultPlace_1, rfl, rfl, hq⟩ := hv
  replace h := h rF_1 fault_1 faultPlace_1 hq
  refine gG.perm (ws' := [oX11 h0 thrown (.ref q_tape) taped (.ref q_number) (v_isTold) (.ref q_name) (v_sortOf) (v_first) (.ref q_second) (.ref q_degree) (.ref q_colours) (v_signBy) (v_own) lines size atF place sort value fault_1 faultPlace_1 lastFault lastPlace (v_sF) (v_kept) undoable hasImage (v_power) (v_table) (v_marks) (v_row) rowOf areSums isSieved (v_lastOf) blocks (v_inBlock) (v_atQuotient) (v_small) drawn, aI Y q_number 8 number, aI Y q_name 24 name, aI Y q_second 24 second, aI Y q_degree 24 degree, aI Y q_colours 24 colours, aI Y q_tape 700 tape]) [4, 5, 6, 0, 1, 2, 3] rfl rfl ?_
  obtain ⟨hc_1, h⟩ := h
  refine g_iast C 3 rfl hc_1 dX11_readSecond_9 (fun second_1 esecond_1 => gG.eqw (ws' := [oX11 h0 thrown (.ref q_tape) taped (.ref q_number) (v_isTold) (.ref q_name) (v_sortOf) (v_first) (.ref q_second) (.ref q_degree) (.ref q_colours) (v_signBy) (v_own) lines size atF place sort value fault_1 faultPlace_1 lastFault lastPlace (v_sF) (v_kept) undoable hasImage (v_power) (v_table) (v_marks) (v_row) rowOf areSums isSieved (v_lastOf) blocks (v_inBlock) (v_atQuotient) (v_small) drawn, aI Y q_number 8 number, aI Y q_name 24 name, aI Y q_second 24 second_1, aI Y q_degree 24 degree, aI Y q_colours 24 colours, aI Y q_tape 700 tape]) rfl ?_)
  replace h := h second_1 esecond_1
  refine g_aload_n C dX11_readSecond_10 0 rfl ?_
  refine g_get C inX11 0 rfl rfl 9 (by decide) wF_X11_32 rfl dX11_readSecond_11 ?_
  refine g_bipush (v := 12) C dX11_readSecond_14 rfl ?_
  refine g_aload_n C dX11_readSecond_16 0 rfl ?_
  refine g_get C inX11 0 rfl rfl 8 (by decide) wF_X11_29 rfl dX11_readSecond_17 ?_
  refine g_iload_n C dX11_readSecond_20 1 rfl ?_
  refine g_iald C 3 rfl hc_1 dX11_readSecond_21 ?_
  refine g_iadd C dX11_readSecond_22 ?_
  obtain ⟨hc_2, h⟩ := h
  refine g_iald C 4 rfl hc_2 dX11_readSecond_23 ?_
  refine g_topi (fun x3_1 ex3_1 => ?_)
  replace h := h x3_1 ex3_1
  refine g_istore_n (lv' := [(3, .int x3_1), (0, .ref h0), (1, .int a1), (2, .int a2)]) C dX11_readSecond_24 (by decide) rfl ?_
  refine g_iload_n C dX11_readSecond_25 3 rfl ?_
  refine g_iconst (v := 4) C dX11_readSecond_26 rfl ?_
  obtain ⟨J_1, hA, hB_J_1⟩ := h
  have key_1 : ∀ (degree_1 : Nat → Int32), J_1 degree_1 → gG E 0 0 [oX11 h0 thrown (.ref q_tape) taped (.ref q_number) (v_isTold) (.ref q_name) (v_sortOf) (v_first) (.ref q_second) (.ref q_degree) (.ref q_colours) (v_signBy) (v_own) lines size atF place sort value fault_1 faultPlace_1 lastFault lastPlace (v_sF) (v_kept) undoable hasImage (v_power) (v_table) (v_marks) (v_row) rowOf areSums isSieved (v_lastOf) blocks (v_inBlock) (v_atQuotient) (v_small) drawn, aI Y q_number 8 number, aI Y q_name 24 name, aI Y q_second 24 second_1, aI Y q_degree 24 degree_1, aI Y q_colours 24 colours, aI Y q_tape 700 tape] [(0, .ref h0), (1, .int a1), (2, .int a2)] [] 60 := by
    intro degree_1 hJ
    have h := hB_J_1 degree_1 hJ
    refine g_aload_n C dX11_readSecond_60 0 rfl ?_
    refine g_get C inX11 0 rfl rfl 10 (by decide) wF_X11_35 rfl dX11_readSecond_61 ?_
    refine g_bipush (v := 12) C dX11_readSecond_64 rfl ?_
    refine g_aload_n C dX11_readSecond_66 0 rfl ?_
    refine g_get C inX11 0 rfl rfl 8 (by decide) wF_X11_29 rfl dX11_readSecond_67 ?_
    refine g_iload_n C dX11_readSecond_70 1 rfl ?_
    obtain ⟨hc_3, h⟩ := h
    refine g_iald C 3 rfl hc_3 dX11_readSecond_71 ?_
    refine g_iadd C dX11_readSecond_72 ?_
    obtain ⟨hc_4, h⟩ := h
    refine g_iald C 5 rfl hc_4 dX11_readSecond_73 ?_
    refine g_topi (fun x4_1 ex4_1 => ?_)
    replace h := h x4_1 ex4_1
    refine g_istore (lv' := [(4, .int x4_1), (0, .ref h0), (1, .int a1), (2, .int a2)]) C dX11_readSecond_74 (by decide) rfl ?_
    refine g_aload_n C dX11_readSecond_76 1 rfl ?_
    refine g_get C inX11 0 rfl rfl 19 (by decide) wF_X11_142 rfl dX11_readSecond_77 ?_
    refine g_if_ne (tgt := 117) C dX11_readSecond_80 (by decide) (fun c_1 => ?_) (fun c_1 => ?_)
    · replace h := h.1 c_1
      refine g_aload_n C dX11_readSecond_117 1 rfl ?_
      refine g_get C inX11 0 rfl rfl 10 (by decide) wF_X11_35 rfl dX11_readSecond_118 ?_
      refine g_iload_n C dX11_readSecond_121 2 rfl ?_
      refine g_dup2 C dX11_readSecond_122 rfl rfl ?_
      refine g_iald C 5 rfl hc_3 dX11_readSecond_123 ?_
      refine g_iload C dX11_readSecond_124 0 rfl ?_
      refine g_ior C dX11_readSecond_126 ?_
      refine g_topi (fun e_1 ee_1 => ?_)
      replace h := h e_1 ee_1
      refine g_iast C 5 rfl hc_3 dX11_readSecond_127 (fun colours_1 ecolours_1 => gG.eqw (ws' := [oX11 h0 thrown (.ref q_tape) taped (.ref q_number) (v_isTold) (.ref q_name) (v_sortOf) (v_first) (.ref q_second) (.ref q_degree) (.ref q_colours) (v_signBy) (v_own) lines size atF place sort value fault_1 faultPlace_1 lastFault lastPlace (v_sF) (v_kept) undoable hasImage (v_power) (v_table) (v_marks) (v_row) rowOf areSums isSieved (v_lastOf) blocks (v_inBlock) (v_atQuotient) (v_small) drawn, aI Y q_number 8 number, aI Y q_name 24 name, aI Y q_second 24 second_1, aI Y q_degree 24 degree_1, aI Y q_colours 24 colours_1, aI Y q_tape 700 tape]) rfl ?_)
      replace h := h colours_1 ecolours_1
      refine g_aload_n C dX11_readSecond_128 1 rfl ?_
      obtain ⟨P_2, hP, h⟩ := h
      refine g_callV (As := []) (rest := []) C (mX11_goOn l D Y h0 thrown q_tape taped (.ref q_number) v_isTold (.ref q_name) v_sortOf v_first (.ref q_second) (.ref q_degree) (.ref q_colours) v_signBy v_own lines size atF place sort value fault_1 faultPlace_1 lastFault lastPlace v_sF v_kept undoable hasImage v_power v_table v_marks v_row rowOf areSums isSieved v_lastOf blocks v_inBlock v_atQuotient v_small drawn tape P_2 hP) dX11_readSecond_129 rfl wM_X11_155 wI_X11_goOn wV_X11_goOn wN_X11 wC_X11_goOn (n := 0) (by decide +kernel) rfl (q0 := 0) rfl rfl ⟨Nat.le_of_ble_eq_true rfl, Nat.le_of_ble_eq_true rfl⟩ ⟨Nat.le_of_ble_eq_true rfl, Nat.le_of_ble_eq_true rfl⟩ (Nat.le_of_ble_eq_true rfl) [0, 6] [1, 2, 3, 4, 5] rfl rfl rfl (fun v wc hv => ?_)
      obtain ⟨atF_1, place_1, sort_1, value_1, rfl, rfl, hq⟩ := hv
      replace h := h atF_1 place_1 sort_1 value_1 hq
      refine gG.perm (ws' := [oX11 h0 thrown (.ref q_tape) taped (.ref q_number) (v_isTold) (.ref q_name) (v_sortOf) (v_first) (.ref q_second) (.ref q_degree) (.ref q_colours) (v_signBy) (v_own) lines size atF_1 place_1 sort_1 value_1 fault_1 faultPlace_1 lastFault lastPlace (v_sF) (v_kept) undoable hasImage (v_power) (v_table) (v_marks) (v_row) rowOf areSums isSieved (v_lastOf) blocks (v_inBlock) (v_atQuotient) (v_small) drawn, aI Y q_number 8 number, aI Y q_name 24 name, aI Y q_second 24 second_1, aI Y q_degree 24 degree_1, aI Y q_colours 24 colours_1, aI Y q_tape 700 tape]) [5, 0, 1, 2, 3, 4, 6] rfl rfl ?_
      exact g_vret C hR (Nat.le_of_ble_eq_true rfl) (Nat.le_of_ble_eq_true rfl) dX11_readSecond_132 ⟨atF_1, place_1, sort_1, value_1, fault_1, faultPlace_1, second_1, degree_1, colours_1, rfl, rfl, h⟩
    · replace h := h.2 c_1
      refine g_aload_n C dX11_readSecond_83 1 rfl ?_
      refine g_get C inX11 0 rfl rfl 9 (by decide) wF_X11_32 rfl dX11_readSecond_84 ?_
      refine g_iload_n C dX11_readSecond_87 2 rfl ?_
      refine g_iald C 4 rfl hc_3 dX11_readSecond_88 ?_
      refine g_iconst (v := 3) C dX11_readSecond_89 rfl ?_
      obtain ⟨J_2, hA, hB_J_2⟩ := h
      have key_2 : J_2 → gG E 0 0 [oX11 h0 thrown (.ref q_tape) taped (.ref q_number) (v_isTold) (.ref q_name) (v_sortOf) (v_first) (.ref q_second) (.ref q_degree) (.ref q_colours) (v_signBy) (v_own) lines size atF place sort value fault_1 faultPlace_1 lastFault lastPlace (v_sF) (v_kept) undoable hasImage (v_power) (v_table) (v_marks) (v_row) rowOf areSums isSieved (v_lastOf) blocks (v_inBlock) (v_atQuotient) (v_small) drawn, aI Y q_number 8 number, aI Y q_name 24 name, aI Y q_second 24 second_1, aI Y q_degree 24 degree_1, aI Y q_colours 24 colours, aI Y q_tape 700 tape] [(0, .ref h0), (1, .int a1), (4, .int x4_1)] [] 112 := by
        intro  hJ
        have h := hB_J_2  hJ
        refine g_aload_n C dX11_readSecond_112 0 rfl ?_
        refine g_iconst (v := 2) C dX11_readSecond_113 rfl ?_
        obtain ⟨P_3, hP, h⟩ := h
        refine g_callV (As := [.int 2]) (rest := []) C (mX11_wrong l D Y h0 thrown (.ref q_tape) taped (.ref q_number) v_isTold (.ref q_name) v_sortOf v_first (.ref q_second) (.ref q_degree) (.ref q_colours) v_signBy v_own lines size atF place sort value fault_1 faultPlace_1 lastFault lastPlace v_sF v_kept undoable hasImage v_power v_table v_marks v_row rowOf areSums isSieved v_lastOf blocks v_inBlock v_atQuotient v_small drawn 2 P_3 hP) dX11_readSecond_114 rfl wM_X11_151 wI_X11_wrong wV_X11_wrong wN_X11 wC_X11_wrong (n := 1) (by decide +kernel) rfl (q0 := 0) rfl rfl ⟨Nat.le_of_ble_eq_true rfl, Nat.le_of_ble_eq_true rfl⟩ ⟨Nat.le_of_ble_eq_true rfl, Nat.le_of_ble_eq_true rfl⟩ (Nat.le_of_ble_eq_true rfl) [0] [1, 2, 3, 4, 5, 6] rfl rfl rfl (fun v wc hv => ?_)
        obtain ⟨fault_2, faultPlace_2, rfl, rfl, hq⟩ := hv
        replace h := h fault_2 faultPlace_2 hq
        refine gG.perm (ws' := [oX11 h0 thrown (.ref q_tape) taped (.ref q_number) (v_isTold) (.ref q_name) (v_sortOf) (v_first) (.ref q_second) (.ref q_degree) (.ref q_colours) (v_signBy) (v_own) lines size atF place sort value fault_2 faultPlace_2 lastFault lastPlace (v_sF) (v_kept) undoable hasImage (v_power) (v_table) (v_marks) (v_row) rowOf areSums isSieved (v_lastOf) blocks (v_inBlock) (v_atQuotient) (v_small) drawn, aI Y q_number 8 number, aI Y q_name 24 name, aI Y q_second 24 second_1, aI Y q_degree 24 degree_1, aI Y q_colours 24 colours, aI Y q_tape 700 tape]) [6, 0, 1, 2, 3, 4, 5] rfl rfl ?_
        refine g_aload_n C dX11_readSecond_117 0 rfl ?_
        refine g_get C inX11 0 rfl rfl 10 (by decide) wF_X11_35 rfl dX11_readSecond_118 ?_
        refine g_iload_n C dX11_readSecond_121 1 rfl ?_
        refine g_dup2 C dX11_readSecond_122 rfl rfl ?_
        obtain ⟨hc_5, h⟩ := h
        refine g_iald C 5 rfl hc_5 dX11_readSecond_123 ?_
        refine g_iload C dX11_readSecond_124 2 rfl ?_
        refine g_ior C dX11_readSecond_126 ?_
        refine g_topi (fun e_2 ee_2 => ?_)
        replace h := h e_2 ee_2
        refine g_iast C 5 rfl hc_5 dX11_readSecond_127 (fun colours_2 ecolours_2 => gG.eqw (ws' := [oX11 h0 thrown (.ref q_tape) taped (.ref q_number) (v_isTold) (.ref q_name) (v_sortOf) (v_first) (.ref q_second) (.ref q_degree) (.ref q_colours) (v_signBy) (v_own) lines size atF place sort value fault_2 faultPlace_2 lastFault lastPlace (v_sF) (v_kept) undoable hasImage (v_power) (v_table) (v_marks) (v_row) rowOf areSums isSieved (v_lastOf) blocks (v_inBlock) (v_atQuotient) (v_small) drawn, aI Y q_number 8 number, aI Y q_name 24 name, aI Y q_second 24 second_1, aI Y q_degree 24 degree_1, aI Y q_colours 24 colours_2, aI Y q_tape 700 tape]) rfl ?_)
        replace h := h colours_2 ecolours_2
        refine g_aload_n C dX11_readSecond_128 0 rfl ?_
        obtain ⟨P_4, hP, h⟩ := h
        refine g_callV (As := []) (rest := []) C (mX11_goOn l D Y h0 thrown q_tape taped (.ref q_number) v_isTold (.ref q_name) v_sortOf v_first (.ref q_second) (.ref q_degree) (.ref q_colours) v_signBy v_own lines size atF place sort value fault_2 faultPlace_2 lastFault lastPlace v_sF v_kept undoable hasImage v_power v_table v_marks v_row rowOf areSums isSieved v_lastOf blocks v_inBlock v_atQuotient v_small drawn tape P_4 hP) dX11_readSecond_129 rfl wM_X11_155 wI_X11_goOn wV_X11_goOn wN_X11 wC_X11_goOn (n := 0) (by decide +kernel) rfl (q0 := 0) rfl rfl ⟨Nat.le_of_ble_eq_true rfl, Nat.le_of_ble_eq_true rfl⟩ ⟨Nat.le_of_ble_eq_true rfl, Nat.le_of_ble_eq_true rfl⟩ (Nat.le_of_ble_eq_true rfl) [0, 6] [1, 2, 3, 4, 5] rfl rfl rfl (fun v wc hv => ?_)
        obtain ⟨atF_2, place_2, sort_2, value_2, rfl, rfl, hq⟩ := hv
        replace h := h atF_2 place_2 sort_2 value_2 hq
        refine gG.perm (ws' := [oX11 h0 thrown (.ref q_tape) taped (.ref q_number) (v_isTold) (.ref q_name) (v_sortOf) (v_first) (.ref q_second) (.ref q_degree) (.ref q_colours) (v_signBy) (v_own) lines size atF_2 place_2 sort_2 value_2 fault_2 faultPlace_2 lastFault lastPlace (v_sF) (v_kept) undoable hasImage (v_power) (v_table) (v_marks) (v_row) rowOf areSums isSieved (v_lastOf) blocks (v_inBlock) (v_atQuotient) (v_small) drawn, aI Y q_number 8 number, aI Y q_name 24 name, aI Y q_second 24 second_1, aI Y q_degree 24 degree_1, aI Y q_colours 24 colours_2, aI Y q_tape 700 tape]) [5, 0, 1, 2, 3, 4, 6] rfl rfl ?_
        exact g_vret C hR (Nat.le_of_ble_eq_true rfl) (Nat.le_of_ble_eq_true rfl) dX11_readSecond_132 ⟨atF_2, place_2, sort_2, value_2, fault_2, faultPlace_2, second_1, degree_1, colours_2, rfl, rfl, h⟩
      replace h := hA
      refine g_icmp_gt (tgt := 112) C dX11_readSecond_90 (by decide) (fun c_2 => ?_) (fun c_2 => ?_)
      · replace h := h.1 c_2
        refine gG.locals (lv' := [(0, .ref h0), (1, .int a1), (4, .int x4_1)]) [1, 2, 0] rfl ?_
        exact key_2 h
      · replace h := h.2 c_2
        refine g_iload_n C dX11_readSecond_93 3 rfl ?_
        refine g_iconst (v := 4) C dX11_readSecond_94 rfl ?_
        refine g_icmp_ne (tgt := 117) C dX11_readSecond_95 (by decide) (fun c_3 => ?_) (fun c_3 => ?_)
        · replace h := h.1 c_3
          refine g_aload_n C dX11_readSecond_117 1 rfl ?_
          refine g_get C inX11 0 rfl rfl 10 (by decide) wF_X11_35 rfl dX11_readSecond_118 ?_
          refine g_iload_n C dX11_readSecond_121 2 rfl ?_
          refine g_dup2 C dX11_readSecond_122 rfl rfl ?_
          refine g_iald C 5 rfl hc_3 dX11_readSecond_123 ?_
          refine g_iload C dX11_readSecond_124 0 rfl ?_
          refine g_ior C dX11_readSecond_126 ?_
          refine g_topi (fun e_3 ee_3 => ?_)
          replace h := h e_3 ee_3
          refine g_iast C 5 rfl hc_3 dX11_readSecond_127 (fun colours_3 ecolours_3 => gG.eqw (ws' := [oX11 h0 thrown (.ref q_tape) taped (.ref q_number) (v_isTold) (.ref q_name) (v_sortOf) (v_first) (.ref q_second) (.ref q_degree) (.ref q_colours) (v_signBy) (v_own) lines size atF place sort value fault_1 faultPlace_1 lastFault lastPlace (v_sF) (v_kept) undoable hasImage (v_power) (v_table) (v_marks) (v_row) rowOf areSums isSieved (v_lastOf) blocks (v_inBlock) (v_atQuotient) (v_small) drawn, aI Y q_number 8 number, aI Y q_name 24 name, aI Y q_second 24 second_1, aI Y q_degree 24 degree_1, aI Y q_colours 24 colours_3, aI Y q_tape 700 tape]) rfl ?_)
          replace h := h colours_3 ecolours_3
          refine g_aload_n C dX11_readSecond_128 1 rfl ?_
          obtain ⟨P_5, hP, h⟩ := h
          refine g_callV (As := []) (rest := []) C (mX11_goOn l D Y h0 thrown q_tape taped (.ref q_number) v_isTold (.ref q_name) v_sortOf v_first (.ref q_second) (.ref q_degree) (.ref q_colours) v_signBy v_own lines size atF place sort value fault_1 faultPlace_1 lastFault lastPlace v_sF v_kept undoable hasImage v_power v_table v_marks v_row rowOf areSums isSieved v_lastOf blocks v_inBlock v_atQuotient v_small drawn tape P_5 hP) dX11_readSecond_129 rfl wM_X11_155 wI_X11_goOn wV_X11_goOn wN_X11 wC_X11_goOn (n := 0) (by decide +kernel) rfl (q0 := 0) rfl rfl ⟨Nat.le_of_ble_eq_true rfl, Nat.le_of_ble_eq_true rfl⟩ ⟨Nat.le_of_ble_eq_true rfl, Nat.le_of_ble_eq_true rfl⟩ (Nat.le_of_ble_eq_true rfl) [0, 6] [1, 2, 3, 4, 5] rfl rfl rfl (fun v wc hv => ?_)
          obtain ⟨atF_3, place_3, sort_3, value_3, rfl, rfl, hq⟩ := hv
          replace h := h atF_3 place_3 sort_3 value_3 hq
          refine gG.perm (ws' := [oX11 h0 thrown (.ref q_tape) taped (.ref q_number) (v_isTold) (.ref q_name) (v_sortOf) (v_first) (.ref q_second) (.ref q_degree) (.ref q_colours) (v_signBy) (v_own) lines size atF_3 place_3 sort_3 value_3 fault_1 faultPlace_1 lastFault lastPlace (v_sF) (v_kept) undoable hasImage (v_power) (v_table) (v_marks) (v_row) rowOf areSums isSieved (v_lastOf) blocks (v_inBlock) (v_atQuotient) (v_small) drawn, aI Y q_number 8 number, aI Y q_name 24 name, aI Y q_second 24 second_1, aI Y q_degree 24 degree_1, aI Y q_colours 24 colours_3, aI Y q_tape 700 tape]) [5, 0, 1, 2, 3, 4, 6] rfl rfl ?_
          exact g_vret C hR (Nat.le_of_ble_eq_true rfl) (Nat.le_of_ble_eq_true rfl) dX11_readSecond_132 ⟨atF_3, place_3, sort_3, value_3, fault_1, faultPlace_1, second_1, degree_1, colours_3, rfl, rfl, h⟩
        · replace h := h.2 c_3
          refine g_aload_n C dX11_readSecond_98 1 rfl ?_
          refine g_get C inX11 0 rfl rfl 10 (by decide) wF_X11_35 rfl dX11_readSecond_99 ?_
          refine g_iload_n C dX11_readSecond_102 2 rfl ?_
          refine g_iald C 5 rfl hc_3 dX11_readSecond_103 ?_
          refine g_if_eq (tgt := 117) C dX11_readSecond_104 (by decide) (fun c_4 => ?_) (fun c_4 => ?_)
          · replace h := h.1 c_4
            refine g_aload_n C dX11_readSecond_117 1 rfl ?_
            refine g_get C inX11 0 rfl rfl 10 (by decide) wF_X11_35 rfl dX11_readSecond_118 ?_
            refine g_iload_n C dX11_readSecond_121 2 rfl ?_
            refine g_dup2 C dX11_readSecond_122 rfl rfl ?_
            refine g_iald C 5 rfl hc_3 dX11_readSecond_123 ?_
            refine g_iload C dX11_readSecond_124 0 rfl ?_
            refine g_ior C dX11_readSecond_126 ?_
            refine g_topi (fun e_4 ee_4 => ?_)
            replace h := h e_4 ee_4
            refine g_iast C 5 rfl hc_3 dX11_readSecond_127 (fun colours_4 ecolours_4 => gG.eqw (ws' := [oX11 h0 thrown (.ref q_tape) taped (.ref q_number) (v_isTold) (.ref q_name) (v_sortOf) (v_first) (.ref q_second) (.ref q_degree) (.ref q_colours) (v_signBy) (v_own) lines size atF place sort value fault_1 faultPlace_1 lastFault lastPlace (v_sF) (v_kept) undoable hasImage (v_power) (v_table) (v_marks) (v_row) rowOf areSums isSieved (v_lastOf) blocks (v_inBlock) (v_atQuotient) (v_small) drawn, aI Y q_number 8 number, aI Y q_name 24 name, aI Y q_second 24 second_1, aI Y q_degree 24 degree_1, aI Y q_colours 24 colours_4, aI Y q_tape 700 tape]) rfl ?_)
            replace h := h colours_4 ecolours_4
            refine g_aload_n C dX11_readSecond_128 1 rfl ?_
            obtain ⟨P_6, hP, h⟩ := h
            refine g_callV (As := []) (rest := []) C (mX11_goOn l D Y h0 thrown q_tape taped (.ref q_number) v_isTold (.ref q_name) v_sortOf v_first (.ref q_second) (.ref q_degree) (.ref q_colours) v_signBy v_own lines size atF place sort value fault_1 faultPlace_1 lastFault lastPlace v_sF v_kept undoable hasImage v_power v_table v_marks v_row rowOf areSums isSieved v_lastOf blocks v_inBlock v_atQuotient v_small drawn tape P_6 hP) dX11_readSecond_129 rfl wM_X11_155 wI_X11_goOn wV_X11_goOn wN_X11 wC_X11_goOn (n := 0) (by decide +kernel) rfl (q0 := 0) rfl rfl ⟨Nat.le_of_ble_eq_true rfl, Nat.le_of_ble_eq_true rfl⟩ ⟨Nat.le_of_ble_eq_true rfl, Nat.le_of_ble_eq_true rfl⟩ (Nat.le_of_ble_eq_true rfl) [0, 6] [1, 2, 3, 4, 5] rfl rfl rfl (fun v wc hv => ?_)
            obtain ⟨atF_4, place_4, sort_4, value_4, rfl, rfl, hq⟩ := hv
            replace h := h atF_4 place_4 sort_4 value_4 hq
            refine gG.perm (ws' := [oX11 h0 thrown (.ref q_tape) taped (.ref q_number) (v_isTold) (.ref q_name) (v_sortOf) (v_first) (.ref q_second) (.ref q_degree) (.ref q_colours) (v_signBy) (v_own) lines size atF_4 place_4 sort_4 value_4 fault_1 faultPlace_1 lastFault lastPlace (v_sF) (v_kept) undoable hasImage (v_power) (v_table) (v_marks) (v_row) rowOf areSums isSieved (v_lastOf) blocks (v_inBlock) (v_atQuotient) (v_small) drawn, aI Y q_number 8 number, aI Y q_name 24 name, aI Y q_second 24 second_1, aI Y q_degree 24 degree_1, aI Y q_colours 24 colours_4, aI Y q_tape 700 tape]) [5, 0, 1, 2, 3, 4, 6] rfl rfl ?_
            exact g_vret C hR (Nat.le_of_ble_eq_true rfl) (Nat.le_of_ble_eq_true rfl) dX11_readSecond_132 ⟨atF_4, place_4, sort_4, value_4, fault_1, faultPlace_1, second_1, degree_1, colours_4, rfl, rfl, h⟩
          · replace h := h.2 c_4
            refine g_iload C dX11_readSecond_107 0 rfl ?_
            refine g_if_eq (tgt := 117) C dX11_readSecond_109 (by decide) (fun c_5 => ?_) (fun c_5 => ?_)
            · replace h := h.1 c_5
              refine g_aload_n C dX11_readSecond_117 1 rfl ?_
              refine g_get C inX11 0 rfl rfl 10 (by decide) wF_X11_35 rfl dX11_readSecond_118 ?_
              refine g_iload_n C dX11_readSecond_121 2 rfl ?_
              refine g_dup2 C dX11_readSecond_122 rfl rfl ?_
              refine g_iald C 5 rfl hc_3 dX11_readSecond_123 ?_
              refine g_iload C dX11_readSecond_124 0 rfl ?_
              refine g_ior C dX11_readSecond_126 ?_
              refine g_topi (fun e_5 ee_5 => ?_)
              replace h := h e_5 ee_5
              refine g_iast C 5 rfl hc_3 dX11_readSecond_127 (fun colours_5 ecolours_5 => gG.eqw (ws' := [oX11 h0 thrown (.ref q_tape) taped (.ref q_number) (v_isTold) (.ref q_name) (v_sortOf) (v_first) (.ref q_second) (.ref q_degree) (.ref q_colours) (v_signBy) (v_own) lines size atF place sort value fault_1 faultPlace_1 lastFault lastPlace (v_sF) (v_kept) undoable hasImage (v_power) (v_table) (v_marks) (v_row) rowOf areSums isSieved (v_lastOf) blocks (v_inBlock) (v_atQuotient) (v_small) drawn, aI Y q_number 8 number, aI Y q_name 24 name, aI Y q_second 24 second_1, aI Y q_degree 24 degree_1, aI Y q_colours 24 colours_5, aI Y q_tape 700 tape]) rfl ?_)
              replace h := h colours_5 ecolours_5
              refine g_aload_n C dX11_readSecond_128 1 rfl ?_
              obtain ⟨P_7, hP, h⟩ := h
              refine g_callV (As := []) (rest := []) C (mX11_goOn l D Y h0 thrown q_tape taped (.ref q_number) v_isTold (.ref q_name) v_sortOf v_first (.ref q_second) (.ref q_degree) (.ref q_colours) v_signBy v_own lines size atF place sort value fault_1 faultPlace_1 lastFault lastPlace v_sF v_kept undoable hasImage v_power v_table v_marks v_row rowOf areSums isSieved v_lastOf blocks v_inBlock v_atQuotient v_small drawn tape P_7 hP) dX11_readSecond_129 rfl wM_X11_155 wI_X11_goOn wV_X11_goOn wN_X11 wC_X11_goOn (n := 0) (by decide +kernel) rfl (q0 := 0) rfl rfl ⟨Nat.le_of_ble_eq_true rfl, Nat.le_of_ble_eq_true rfl⟩ ⟨Nat.le_of_ble_eq_true rfl, Nat.le_of_ble_eq_true rfl⟩ (Nat.le_of_ble_eq_true rfl) [0, 6] [1, 2, 3, 4, 5] rfl rfl rfl (fun v wc hv => ?_)
              obtain ⟨atF_5, place_5, sort_5, value_5, rfl, rfl, hq⟩ := hv
              replace h := h atF_5 place_5 sort_5 value_5 hq
              refine gG.perm (ws' := [oX11 h0 thrown (.ref q_tape) taped (.ref q_number) (v_isTold) (.ref q_name) (v_sortOf) (v_first) (.ref q_second) (.ref q_degree) (.ref q_colours) (v_signBy) (v_own) lines size atF_5 place_5 sort_5 value_5 fault_1 faultPlace_1 lastFault lastPlace (v_sF) (v_kept) undoable hasImage (v_power) (v_table) (v_marks) (v_row) rowOf areSums isSieved (v_lastOf) blocks (v_inBlock) (v_atQuotient) (v_small) drawn, aI Y q_number 8 number, aI Y q_name 24 name, aI Y q_second 24 second_1, aI Y q_degree 24 degree_1, aI Y q_colours 24 colours_5, aI Y q_tape 700 tape]) [5, 0, 1, 2, 3, 4, 6] rfl rfl ?_
              exact g_vret C hR (Nat.le_of_ble_eq_true rfl) (Nat.le_of_ble_eq_true rfl) dX11_readSecond_132 ⟨atF_5, place_5, sort_5, value_5, fault_1, faultPlace_1, second_1, degree_1, colours_5, rfl, rfl, h⟩
            · replace h := h.2 c_5
              refine gG.locals (lv' := [(0, .ref h0), (1, .int a1), (4, .int x4_1)]) [1, 2, 0] rfl ?_
              exact key_2 h
  replace h := hA
  refine g_icmp_ne (tgt := 43) C dX11_readSecond_27 (by decide) (fun c_6 => ?_) (fun c_6 => ?_)
  · replace h := h.1 c_6
    refine g_iload_n C dX11_readSecond_43 0 rfl ?_
    refine g_aload_n C dX11_readSecond_44 1 rfl ?_
    refine g_get C inX11 0 rfl rfl 9 (by decide) wF_X11_32 rfl dX11_readSecond_45 ?_
    refine g_iload_n C dX11_readSecond_48 2 rfl ?_
    obtain ⟨hc_6, h⟩ := h
    refine g_iald C 4 rfl hc_6 dX11_readSecond_49 ?_
    refine g_icmp_le (tgt := 60) C dX11_readSecond_50 (by decide) (fun c_7 => ?_) (fun c_7 => ?_)
    · replace h := h.1 c_7
      refine gG.locals (lv' := [(0, .ref h0), (1, .int a1), (2, .int a2)]) [1, 2, 3] rfl ?_
      exact key_1 degree h
    · replace h := h.2 c_7
      refine g_aload_n C dX11_readSecond_53 1 rfl ?_
      refine g_get C inX11 0 rfl rfl 9 (by decide) wF_X11_32 rfl dX11_readSecond_54 ?_
      refine g_iload_n C dX11_readSecond_57 2 rfl ?_
      refine g_iload_n C dX11_readSecond_58 0 rfl ?_
      refine g_iast C 4 rfl hc_6 dX11_readSecond_59 (fun degree_2 edegree_2 => gG.eqw (ws' := [oX11 h0 thrown (.ref q_tape) taped (.ref q_number) (v_isTold) (.ref q_name) (v_sortOf) (v_first) (.ref q_second) (.ref q_degree) (.ref q_colours) (v_signBy) (v_own) lines size atF place sort value fault_1 faultPlace_1 lastFault lastPlace (v_sF) (v_kept) undoable hasImage (v_power) (v_table) (v_marks) (v_row) rowOf areSums isSieved (v_lastOf) blocks (v_inBlock) (v_atQuotient) (v_small) drawn, aI Y q_number 8 number, aI Y q_name 24 name, aI Y q_second 24 second_1, aI Y q_degree 24 degree_2, aI Y q_colours 24 colours, aI Y q_tape 700 tape]) rfl ?_)
      replace h := h degree_2 edegree_2
      refine gG.locals (lv' := [(0, .ref h0), (1, .int a1), (2, .int a2)]) [1, 2, 3] rfl ?_
      exact key_1 degree_2 h
  · replace h := h.2 c_6
    refine g_aload_n C dX11_readSecond_30 1 rfl ?_
    refine g_get C inX11 0 rfl rfl 9 (by decide) wF_X11_32 rfl dX11_readSecond_31 ?_
    refine g_iload_n C dX11_readSecond_34 2 rfl ?_
    refine g_dup2 C dX11_readSecond_35 rfl rfl ?_
    obtain ⟨hc_7, h⟩ := h
    refine g_iald C 4 rfl hc_7 dX11_readSecond_36 ?_
    refine g_iload_n C dX11_readSecond_37 0 rfl ?_
    refine g_iadd C dX11_readSecond_38 ?_
    refine g_topi (fun e_6 ee_6 => ?_)
    replace h := h e_6 ee_6
    refine g_iast C 4 rfl hc_7 dX11_readSecond_39 (fun degree_3 edegree_3 => gG.eqw (ws' := [oX11 h0 thrown (.ref q_tape) taped (.ref q_number) (v_isTold) (.ref q_name) (v_sortOf) (v_first) (.ref q_second) (.ref q_degree) (.ref q_colours) (v_signBy) (v_own) lines size atF place sort value fault_1 faultPlace_1 lastFault lastPlace (v_sF) (v_kept) undoable hasImage (v_power) (v_table) (v_marks) (v_row) rowOf areSums isSieved (v_lastOf) blocks (v_inBlock) (v_atQuotient) (v_small) drawn, aI Y q_number 8 number, aI Y q_name 24 name, aI Y q_second 24 second_1, aI Y q_degree 24 degree_3, aI Y q_colours 24 colours, aI Y q_tape 700 tape]) rfl ?_)
    replace h := h degree_3 edegree_3
    refine g_goto (tgt := 60) C dX11_readSecond_40 (by decide) ?_
    refine gG.locals (lv' := [(0, .ref h0), (1, .int a1), (2, .int a2)]) [1, 2, 3] rfl ?_
    exact key_1 degree_3 h
theorem dX11_readSign_0 : decode cX11_readSign 0 = .ok (.aload_n 0, 1) := by decide +kernel
theorem dX11_readSign_1 : decode cX11_readSign 1 = .ok (.getfield 38, 3) := by decide +kernel
theorem dX11_readSign_4 : decode cX11_readSign 4 = .ok (.iload_n 1, 1) := by decide +kernel
theorem dX11_readSign_5 : decode cX11_readSign 5 = .ok (.aload_n 0, 1) := by decide +kernel
theorem dX11_readSign_6 : decode cX11_readSign 6 = .ok (.iconst 0, 1) := by decide +kernel
theorem dX11_readSign_7 : decode cX11_readSign 7 = .ok (.iconst 3, 1) := by decide +kernel
theorem dX11_readSign_8 : decode cX11_readSign 8 = .ok (.iconst 4, 1) := by decide +kernel
theorem dX11_readSign_9 : decode cX11_readSign 9 = .ok (.invokevirtual 158, 3) := by decide +kernel
theorem dX11_readSign_12 : decode cX11_readSign 12 = .ok (.iastore, 1) := by decide +kernel
theorem dX11_readSign_13 : decode cX11_readSign 13 = .ok (.aload_n 0, 1) := by decide +kernel
theorem dX11_readSign_14 : decode cX11_readSign 14 = .ok (.getfield 35, 3) := by decide +kernel
theorem dX11_readSign_17 : decode cX11_readSign 17 = .ok (.iload_n 1, 1) := by decide +kernel
theorem dX11_readSign_18 : decode cX11_readSign 18 = .ok (.aload_n 0, 1) := by decide +kernel
theorem dX11_readSign_19 : decode cX11_readSign 19 = .ok (.getfield 38, 3) := by decide +kernel
theorem dX11_readSign_22 : decode cX11_readSign 22 = .ok (.iload_n 1, 1) := by decide +kernel
theorem dX11_readSign_23 : decode cX11_readSign 23 = .ok (.iaload, 1) := by decide +kernel
theorem dX11_readSign_24 : decode cX11_readSign 24 = .ok (.iconst 3, 1) := by decide +kernel
theorem dX11_readSign_25 : decode cX11_readSign 25 = .ok (.if_icmp .ne 7, 3) := by decide +kernel
theorem dX11_readSign_28 : decode cX11_readSign 28 = .ok (.iconst 1, 1) := by decide +kernel
theorem dX11_readSign_29 : decode cX11_readSign 29 = .ok (.goto 4, 3) := by decide +kernel
theorem dX11_readSign_32 : decode cX11_readSign 32 = .ok (.iconst 2, 1) := by decide +kernel
theorem dX11_readSign_33 : decode cX11_readSign 33 = .ok (.iastore, 1) := by decide +kernel
theorem dX11_readSign_34 : decode cX11_readSign 34 = .ok (.return_, 1) := by decide +kernel
/-- QuotientSumsModel.readSign(I)V -/
def wX11_readSign (thrown : Int32) (taped : Int32) (lines : Int32) (size : Int32) (atF : Int32) (place : Int32) (sort : Int32) (value : Int32) (fault : Int32) (faultPlace : Int32) (lastFault : Int32) (lastPlace : Int32) (undoable : Int32) (hasImage : Int32) (rowOf : Int32) (areSums : Int32) (isSieved : Int32) (blocks : Int32) (drawn : Int32) (tape : Nat → Int32) (signBy : Nat → Int32) (colours : Nat → Int32) (a1 : Int32) (Q : (Int32) → (Int32) → (Int32) → (Int32) → (Int32) → (Int32) → (Nat → Int32) → (Nat → Int32) → Prop) : Prop :=
  (∃ (P_1 : (Int32) → (Int32) → (Int32) → (Int32) → (Int32) → (Int32) → (Int32) → Prop), wX11_numeralOf thrown taped lines size atF place sort value fault faultPlace lastFault lastPlace undoable hasImage rowOf areSums isSieved blocks drawn tape 0 3 4 P_1 ∧ ∀ (rF_1 : Int32) (atF_1 : Int32) (place_1 : Int32) (sort_1 : Int32) (value_1 : Int32) (fault_1 : Int32) (faultPlace_1 : Int32), P_1 rF_1 atF_1 place_1 sort_1 value_1 fault_1 faultPlace_1 → vp_in a1 24 ∧ ∀ signBy_1 : Nat → Int32, signBy_1 = upd signBy a1.toNatClampNeg rF_1 → ((¬ (signBy_1 a1.toNatClampNeg) = 3 → (∀ colours_1 : Nat → Int32, colours_1 = upd colours a1.toNatClampNeg 2 → (Q atF_1 place_1 sort_1 value_1 fault_1 faultPlace_1 signBy_1 colours_1))) ∧ ((signBy_1 a1.toNatClampNeg) = 3 → (∀ colours_2 : Nat → Int32, colours_2 = upd colours a1.toNatClampNeg 1 → (Q atF_1 place_1 sort_1 value_1 fault_1 faultPlace_1 signBy_1 colours_2)))))
set_option maxHeartbeats 4000000 in
set_option maxRecDepth 100000 in
theorem mX11_readSign (l : Launch) (D : va_G) (Y : Nat → ClassId) (h0 : Nat) (thrown : Int32) (q_tape : Nat) (taped : Int32) (v_number : Value) (v_isTold : Value) (v_name : Value) (v_sortOf : Value) (v_first : Value) (v_second : Value) (v_degree : Value) (q_colours : Nat) (q_signBy : Nat) (v_own : Value) (lines : Int32) (size : Int32) (atF : Int32) (place : Int32) (sort : Int32) (value : Int32) (fault : Int32) (faultPlace : Int32) (lastFault : Int32) (lastPlace : Int32) (v_sF : Value) (v_kept : Value) (undoable : Int32) (hasImage : Int32) (v_power : Value) (v_table : Value) (v_marks : Value) (v_row : Value) (rowOf : Int32) (areSums : Int32) (isSieved : Int32) (v_lastOf : Value) (blocks : Int32) (v_inBlock : Value) (v_atQuotient : Value) (v_small : Value) (drawn : Int32) (tape : Nat → Int32) (signBy : Nat → Int32) (colours : Nat → Int32) (a1 : Int32) (Q : (Int32) → (Int32) → (Int32) → (Int32) → (Int32) → (Int32) → (Nat → Int32) → (Nat → Int32) → Prop) (h : wX11_readSign thrown taped lines size atF place sort value fault faultPlace lastFault lastPlace undoable hasImage rowOf areSums isSieved blocks drawn tape signBy colours a1 Q) : gM l D Y yX11_readSign cX11_readSign 2 none 8 173 0 0 [.ref h0, .int a1] [oX11 h0 thrown (.ref q_tape) taped (v_number) (v_isTold) (v_name) (v_sortOf) (v_first) (v_second) (v_degree) (.ref q_colours) (.ref q_signBy) (v_own) lines size atF place sort value fault faultPlace lastFault lastPlace (v_sF) (v_kept) undoable hasImage (v_power) (v_table) (v_marks) (v_row) rowOf areSums isSieved (v_lastOf) blocks (v_inBlock) (v_atQuotient) (v_small) drawn, aI Y q_tape 700 tape, aI Y q_signBy 24 signBy, aI Y q_colours 24 colours] (fun v w => ∃ atF' : Int32, ∃ place' : Int32, ∃ sort' : Int32, ∃ value' : Int32, ∃ fault' : Int32, ∃ faultPlace' : Int32, ∃ signBy' : Nat → Int32, ∃ colours' : Nat → Int32, v = none ∧ w = [oX11 h0 thrown (.ref q_tape) taped (v_number) (v_isTold) (v_name) (v_sortOf) (v_first) (v_second) (v_degree) (.ref q_colours) (.ref q_signBy) (v_own) lines size atF' place' sort' value' fault' faultPlace' lastFault lastPlace (v_sF) (v_kept) undoable hasImage (v_power) (v_table) (v_marks) (v_row) rowOf areSums isSieved (v_lastOf) blocks (v_inBlock) (v_atQuotient) (v_small) drawn, aI Y q_tape 700 tape, aI Y q_signBy 24 signBy', aI Y q_colours 24 colours'] ∧ Q atF' place' sort' value' fault' faultPlace' signBy' colours') := by
  refine gM_of (own := RX11) (by decide +kernel) rfl (Nat.le_of_ble_eq_true rfl) rfl (fun E C hR => ?_)
  unfold wX11_readSign at h
  refine g_aload_n C dX11_readSign_0 0 rfl ?_
  refine g_get C inX11 0 rfl rfl 11 (by decide) wF_X11_38 rfl dX11_readSign_1 ?_
  refine g_iload_n C dX11_readSign_4 1 rfl ?_
  refine g_aload_n C dX11_readSign_5 0 rfl ?_
  refine g_iconst (v := 0) C dX11_readSign_6 rfl ?_
  refine g_iconst (v := 3) C dX11_readSign_7 rfl ?_
  refine g_iconst (v := 4) C dX11_readSign_8 rfl ?_
  obtain ⟨P_1, hP, h⟩ := h
  refine g_callV (As := [.int 0, .int 3, .int 4]) (rest := [.int a1, .ref q_signBy]) C (mX11_numeralOf l D Y h0 thrown q_tape taped v_number v_isTold v_name v_sortOf v_first v_second v_degree (.ref q_colours) (.ref q_signBy) v_own lines size atF place sort value fault faultPlace lastFault lastPlace v_sF v_kept undoable hasImage v_power v_table v_marks v_row rowOf areSums isSieved v_lastOf blocks v_inBlock v_atQuotient v_small drawn tape 0 3 4 P_1 hP) dX11_readSign_9 rfl wM_X11_158 wI_X11_numeralOf wV_X11_numeralOf wN_X11 wC_X11_numeralOf (n := 3) (by decide +kernel) rfl (q0 := 0) rfl rfl ⟨Nat.le_of_ble_eq_true rfl, Nat.le_of_ble_eq_true rfl⟩ ⟨Nat.le_of_ble_eq_true rfl, Nat.le_of_ble_eq_true rfl⟩ (Nat.le_of_ble_eq_true rfl) [0, 1] [2, 3] rfl rfl rfl (fun v wc hv => ?_)
  obtain ⟨rF_1, atF_1, place_1, sort_1, value_1, fault_1, faultPlace_1, rfl, rfl, hq⟩ := hv
  replace h := h rF_1 atF_1 place_1 sort_1 value_1 fault_1 faultPlace_1 hq
  refine gG.perm (ws' := [oX11 h0 thrown (.ref q_tape) taped (v_number) (v_isTold) (v_name) (v_sortOf) (v_first) (v_second) (v_degree) (.ref q_colours) (.ref q_signBy) (v_own) lines size atF_1 place_1 sort_1 value_1 fault_1 faultPlace_1 lastFault lastPlace (v_sF) (v_kept) undoable hasImage (v_power) (v_table) (v_marks) (v_row) rowOf areSums isSieved (v_lastOf) blocks (v_inBlock) (v_atQuotient) (v_small) drawn, aI Y q_tape 700 tape, aI Y q_signBy 24 signBy, aI Y q_colours 24 colours]) [2, 3, 0, 1] rfl rfl ?_
  obtain ⟨hc_1, h⟩ := h
  refine g_iast C 2 rfl hc_1 dX11_readSign_12 (fun signBy_1 esignBy_1 => gG.eqw (ws' := [oX11 h0 thrown (.ref q_tape) taped (v_number) (v_isTold) (v_name) (v_sortOf) (v_first) (v_second) (v_degree) (.ref q_colours) (.ref q_signBy) (v_own) lines size atF_1 place_1 sort_1 value_1 fault_1 faultPlace_1 lastFault lastPlace (v_sF) (v_kept) undoable hasImage (v_power) (v_table) (v_marks) (v_row) rowOf areSums isSieved (v_lastOf) blocks (v_inBlock) (v_atQuotient) (v_small) drawn, aI Y q_tape 700 tape, aI Y q_signBy 24 signBy_1, aI Y q_colours 24 colours]) rfl ?_)
  replace h := h signBy_1 esignBy_1
  refine g_aload_n C dX11_readSign_13 0 rfl ?_
  refine g_get C inX11 0 rfl rfl 10 (by decide) wF_X11_35 rfl dX11_readSign_14 ?_
  refine g_iload_n C dX11_readSign_17 1 rfl ?_
  refine g_aload_n C dX11_readSign_18 0 rfl ?_
  refine g_get C inX11 0 rfl rfl 11 (by decide) wF_X11_38 rfl dX11_readSign_19 ?_
  refine g_iload_n C dX11_readSign_22 1 rfl ?_
  refine g_iald C 2 rfl hc_1 dX11_readSign_23 ?_
  refine g_iconst (v := 3) C dX11_readSign_24 rfl ?_
  refine g_icmp_ne (tgt := 32) C dX11_readSign_25 (by decide) (fun c_1 => ?_) (fun c_1 => ?_)
  · replace h := h.1 c_1
    refine g_iconst (v := 2) C dX11_readSign_32 rfl ?_
    refine g_iast C 3 rfl hc_1 dX11_readSign_33 (fun colours_1 ecolours_1 => gG.eqw (ws' := [oX11 h0 thrown (.ref q_tape) taped (v_number) (v_isTold) (v_name) (v_sortOf) (v_first) (v_second) (v_degree) (.ref q_colours) (.ref q_signBy) (v_own) lines size atF_1 place_1 sort_1 value_1 fault_1 faultPlace_1 lastFault lastPlace (v_sF) (v_kept) undoable hasImage (v_power) (v_table) (v_marks) (v_row) rowOf areSums isSieved (v_lastOf) blocks (v_inBlock) (v_atQuotient) (v_small) drawn, aI Y q_tape 700 tape, aI Y q_signBy 24 signBy_1, aI Y q_colours 24 colours_1]) rfl ?_)
    replace h := h colours_1 ecolours_1
    exact g_vret C hR (Nat.le_of_ble_eq_true rfl) (Nat.le_of_ble_eq_true rfl) dX11_readSign_34 ⟨atF_1, place_1, sort_1, value_1, fault_1, faultPlace_1, signBy_1, colours_1, rfl, rfl, h⟩
  · replace h := h.2 c_1
    refine g_iconst (v := 1) C dX11_readSign_28 rfl ?_
    refine g_goto (tgt := 33) C dX11_readSign_29 (by decide) ?_
    refine g_iast C 3 rfl hc_1 dX11_readSign_33 (fun colours_2 ecolours_2 => gG.eqw (ws' := [oX11 h0 thrown (.ref q_tape) taped (v_number) (v_isTold) (v_name) (v_sortOf) (v_first) (v_second) (v_degree) (.ref q_colours) (.ref q_signBy) (v_own) lines size atF_1 place_1 sort_1 value_1 fault_1 faultPlace_1 lastFault lastPlace (v_sF) (v_kept) undoable hasImage (v_power) (v_table) (v_marks) (v_row) rowOf areSums isSieved (v_lastOf) blocks (v_inBlock) (v_atQuotient) (v_small) drawn, aI Y q_tape 700 tape, aI Y q_signBy 24 signBy_1, aI Y q_colours 24 colours_2]) rfl ?_)
    replace h := h colours_2 ecolours_2
    exact g_vret C hR (Nat.le_of_ble_eq_true rfl) (Nat.le_of_ble_eq_true rfl) dX11_readSign_34 ⟨atF_1, place_1, sort_1, value_1, fault_1, faultPlace_1, signBy_1, colours_2, rfl, rfl, h⟩
theorem dX11_readFunction_0 : decode cX11_readFunction 0 = .ok (.bipush 12, 2) := by decide +kernel
theorem dX11_readFunction_2 : decode cX11_readFunction 2 = .ok (.aload_n 0, 1) := by decide +kernel
theorem dX11_readFunction_3 : decode cX11_readFunction 3 = .ok (.invokevirtual 170, 3) := by decide +kernel
theorem dX11_readFunction_6 : decode cX11_readFunction 6 = .ok (.iadd, 1) := by decide +kernel
theorem dX11_readFunction_7 : decode cX11_readFunction 7 = .ok (.istore_n 2, 1) := by decide +kernel
theorem dX11_readFunction_8 : decode cX11_readFunction 8 = .ok (.iload_n 2, 1) := by decide +kernel
theorem dX11_readFunction_9 : decode cX11_readFunction 9 = .ok (.bipush 24, 2) := by decide +kernel
theorem dX11_readFunction_11 : decode cX11_readFunction 11 = .ok (.if_icmp .ne 8, 3) := by decide +kernel
theorem dX11_readFunction_14 : decode cX11_readFunction 14 = .ok (.aload_n 0, 1) := by decide +kernel
theorem dX11_readFunction_15 : decode cX11_readFunction 15 = .ok (.iconst 2, 1) := by decide +kernel
theorem dX11_readFunction_16 : decode cX11_readFunction 16 = .ok (.invokevirtual 151, 3) := by decide +kernel
theorem dX11_readFunction_19 : decode cX11_readFunction 19 = .ok (.aload_n 0, 1) := by decide +kernel
theorem dX11_readFunction_20 : decode cX11_readFunction 20 = .ok (.invokevirtual 155, 3) := by decide +kernel
theorem dX11_readFunction_23 : decode cX11_readFunction 23 = .ok (.aload_n 0, 1) := by decide +kernel
theorem dX11_readFunction_24 : decode cX11_readFunction 24 = .ok (.getfield 142, 3) := by decide +kernel
theorem dX11_readFunction_27 : decode cX11_readFunction 27 = .ok (.ifCond .eq 4, 3) := by decide +kernel
theorem dX11_readFunction_30 : decode cX11_readFunction 30 = .ok (.return_, 1) := by decide +kernel
theorem dX11_readFunction_31 : decode cX11_readFunction 31 = .ok (.aload_n 0, 1) := by decide +kernel
theorem dX11_readFunction_32 : decode cX11_readFunction 32 = .ok (.getfield 108, 3) := by decide +kernel
theorem dX11_readFunction_35 : decode cX11_readFunction 35 = .ok (.iconst 1, 1) := by decide +kernel
theorem dX11_readFunction_36 : decode cX11_readFunction 36 = .ok (.if_icmp .eq 11, 3) := by decide +kernel
theorem dX11_readFunction_39 : decode cX11_readFunction 39 = .ok (.aload_n 0, 1) := by decide +kernel
theorem dX11_readFunction_40 : decode cX11_readFunction 40 = .ok (.iconst 1, 1) := by decide +kernel
theorem dX11_readFunction_41 : decode cX11_readFunction 41 = .ok (.invokevirtual 151, 3) := by decide +kernel
theorem dX11_readFunction_44 : decode cX11_readFunction 44 = .ok (.goto 26, 3) := by decide +kernel
theorem dX11_readFunction_47 : decode cX11_readFunction 47 = .ok (.aload_n 0, 1) := by decide +kernel
theorem dX11_readFunction_48 : decode cX11_readFunction 48 = .ok (.bipush 12, 2) := by decide +kernel
theorem dX11_readFunction_50 : decode cX11_readFunction 50 = .ok (.aload_n 0, 1) := by decide +kernel
theorem dX11_readFunction_51 : decode cX11_readFunction 51 = .ok (.invokevirtual 170, 3) := by decide +kernel
theorem dX11_readFunction_54 : decode cX11_readFunction 54 = .ok (.aload_n 0, 1) := by decide +kernel
theorem dX11_readFunction_55 : decode cX11_readFunction 55 = .ok (.getfield 118, 3) := by decide +kernel
theorem dX11_readFunction_58 : decode cX11_readFunction 58 = .ok (.invokevirtual 173, 3) := by decide +kernel
theorem dX11_readFunction_61 : decode cX11_readFunction 61 = .ok (.iconst (-1), 1) := by decide +kernel
theorem dX11_readFunction_62 : decode cX11_readFunction 62 = .ok (.if_icmp .eq 8, 3) := by decide +kernel
theorem dX11_readFunction_65 : decode cX11_readFunction 65 = .ok (.aload_n 0, 1) := by decide +kernel
theorem dX11_readFunction_66 : decode cX11_readFunction 66 = .ok (.iconst 3, 1) := by decide +kernel
theorem dX11_readFunction_67 : decode cX11_readFunction 67 = .ok (.invokevirtual 151, 3) := by decide +kernel
theorem dX11_readFunction_70 : decode cX11_readFunction 70 = .ok (.aload_n 0, 1) := by decide +kernel
theorem dX11_readFunction_71 : decode cX11_readFunction 71 = .ok (.getfield 142, 3) := by decide +kernel
theorem dX11_readFunction_74 : decode cX11_readFunction 74 = .ok (.ifCond .eq 4, 3) := by decide +kernel
theorem dX11_readFunction_77 : decode cX11_readFunction 77 = .ok (.return_, 1) := by decide +kernel
theorem dX11_readFunction_78 : decode cX11_readFunction 78 = .ok (.aload_n 0, 1) := by decide +kernel
theorem dX11_readFunction_79 : decode cX11_readFunction 79 = .ok (.getfield 20, 3) := by decide +kernel
theorem dX11_readFunction_82 : decode cX11_readFunction 82 = .ok (.iload_n 2, 1) := by decide +kernel
theorem dX11_readFunction_83 : decode cX11_readFunction 83 = .ok (.aload_n 0, 1) := by decide +kernel
theorem dX11_readFunction_84 : decode cX11_readFunction 84 = .ok (.getfield 118, 3) := by decide +kernel
theorem dX11_readFunction_87 : decode cX11_readFunction 87 = .ok (.iastore, 1) := by decide +kernel
theorem dX11_readFunction_88 : decode cX11_readFunction 88 = .ok (.aload_n 0, 1) := by decide +kernel
theorem dX11_readFunction_89 : decode cX11_readFunction 89 = .ok (.getfield 23, 3) := by decide +kernel
theorem dX11_readFunction_92 : decode cX11_readFunction 92 = .ok (.iload_n 2, 1) := by decide +kernel
theorem dX11_readFunction_93 : decode cX11_readFunction 93 = .ok (.iload_n 1, 1) := by decide +kernel
theorem dX11_readFunction_94 : decode cX11_readFunction 94 = .ok (.iastore, 1) := by decide +kernel
theorem dX11_readFunction_95 : decode cX11_readFunction 95 = .ok (.aload_n 0, 1) := by decide +kernel
theorem dX11_readFunction_96 : decode cX11_readFunction 96 = .ok (.getfield 26, 3) := by decide +kernel
theorem dX11_readFunction_99 : decode cX11_readFunction 99 = .ok (.iload_n 2, 1) := by decide +kernel
theorem dX11_readFunction_100 : decode cX11_readFunction 100 = .ok (.bipush (-2), 2) := by decide +kernel
theorem dX11_readFunction_102 : decode cX11_readFunction 102 = .ok (.iastore, 1) := by decide +kernel
theorem dX11_readFunction_103 : decode cX11_readFunction 103 = .ok (.aload_n 0, 1) := by decide +kernel
theorem dX11_readFunction_104 : decode cX11_readFunction 104 = .ok (.getfield 29, 3) := by decide +kernel
theorem dX11_readFunction_107 : decode cX11_readFunction 107 = .ok (.iload_n 2, 1) := by decide +kernel
theorem dX11_readFunction_108 : decode cX11_readFunction 108 = .ok (.bipush (-2), 2) := by decide +kernel
theorem dX11_readFunction_110 : decode cX11_readFunction 110 = .ok (.iastore, 1) := by decide +kernel
theorem dX11_readFunction_111 : decode cX11_readFunction 111 = .ok (.aload_n 0, 1) := by decide +kernel
theorem dX11_readFunction_112 : decode cX11_readFunction 112 = .ok (.getfield 32, 3) := by decide +kernel
theorem dX11_readFunction_115 : decode cX11_readFunction 115 = .ok (.iload_n 2, 1) := by decide +kernel
theorem dX11_readFunction_116 : decode cX11_readFunction 116 = .ok (.iconst 1, 1) := by decide +kernel
theorem dX11_readFunction_117 : decode cX11_readFunction 117 = .ok (.iastore, 1) := by decide +kernel
theorem dX11_readFunction_118 : decode cX11_readFunction 118 = .ok (.aload_n 0, 1) := by decide +kernel
theorem dX11_readFunction_119 : decode cX11_readFunction 119 = .ok (.invokevirtual 148, 3) := by decide +kernel
theorem dX11_readFunction_122 : decode cX11_readFunction 122 = .ok (.aload_n 0, 1) := by decide +kernel
theorem dX11_readFunction_123 : decode cX11_readFunction 123 = .ok (.getfield 35, 3) := by decide +kernel
theorem dX11_readFunction_126 : decode cX11_readFunction 126 = .ok (.iload_n 2, 1) := by decide +kernel
theorem dX11_readFunction_127 : decode cX11_readFunction 127 = .ok (.iconst 0, 1) := by decide +kernel
theorem dX11_readFunction_128 : decode cX11_readFunction 128 = .ok (.iastore, 1) := by decide +kernel
theorem dX11_readFunction_129 : decode cX11_readFunction 129 = .ok (.aload_n 0, 1) := by decide +kernel
theorem dX11_readFunction_130 : decode cX11_readFunction 130 = .ok (.getfield 38, 3) := by decide +kernel
theorem dX11_readFunction_133 : decode cX11_readFunction 133 = .ok (.iload_n 2, 1) := by decide +kernel
theorem dX11_readFunction_134 : decode cX11_readFunction 134 = .ok (.iconst 0, 1) := by decide +kernel
theorem dX11_readFunction_135 : decode cX11_readFunction 135 = .ok (.iastore, 1) := by decide +kernel
theorem dX11_readFunction_136 : decode cX11_readFunction 136 = .ok (.iload_n 1, 1) := by decide +kernel
theorem dX11_readFunction_137 : decode cX11_readFunction 137 = .ok (.iconst 1, 1) := by decide +kernel
theorem dX11_readFunction_138 : decode cX11_readFunction 138 = .ok (.if_icmp .eq 9, 3) := by decide +kernel
theorem dX11_readFunction_141 : decode cX11_readFunction 141 = .ok (.aload_n 0, 1) := by decide +kernel
theorem dX11_readFunction_142 : decode cX11_readFunction 142 = .ok (.iload_n 2, 1) := by decide +kernel
theorem dX11_readFunction_143 : decode cX11_readFunction 143 = .ok (.iload_n 1, 1) := by decide +kernel
theorem dX11_readFunction_144 : decode cX11_readFunction 144 = .ok (.invokevirtual 177, 3) := by decide +kernel
theorem dX11_readFunction_147 : decode cX11_readFunction 147 = .ok (.iload_n 1, 1) := by decide +kernel
theorem dX11_readFunction_148 : decode cX11_readFunction 148 = .ok (.iconst 2, 1) := by decide +kernel
theorem dX11_readFunction_149 : decode cX11_readFunction 149 = .ok (.if_icmp .eq 8, 3) := by decide +kernel
theorem dX11_readFunction_152 : decode cX11_readFunction 152 = .ok (.iload_n 1, 1) := by decide +kernel
theorem dX11_readFunction_153 : decode cX11_readFunction 153 = .ok (.iconst 4, 1) := by decide +kernel
theorem dX11_readFunction_154 : decode cX11_readFunction 154 = .ok (.if_icmp .ne 9, 3) := by decide +kernel
theorem dX11_readFunction_157 : decode cX11_readFunction 157 = .ok (.aload_n 0, 1) := by decide +kernel
theorem dX11_readFunction_158 : decode cX11_readFunction 158 = .ok (.iload_n 2, 1) := by decide +kernel
theorem dX11_readFunction_159 : decode cX11_readFunction 159 = .ok (.iload_n 1, 1) := by decide +kernel
theorem dX11_readFunction_160 : decode cX11_readFunction 160 = .ok (.invokevirtual 180, 3) := by decide +kernel
theorem dX11_readFunction_163 : decode cX11_readFunction 163 = .ok (.iload_n 1, 1) := by decide +kernel
theorem dX11_readFunction_164 : decode cX11_readFunction 164 = .ok (.iconst 5, 1) := by decide +kernel
theorem dX11_readFunction_165 : decode cX11_readFunction 165 = .ok (.if_icmp .ne 8, 3) := by decide +kernel
theorem dX11_readFunction_168 : decode cX11_readFunction 168 = .ok (.aload_n 0, 1) := by decide +kernel
theorem dX11_readFunction_169 : decode cX11_readFunction 169 = .ok (.iload_n 2, 1) := by decide +kernel
theorem dX11_readFunction_170 : decode cX11_readFunction 170 = .ok (.invokevirtual 183, 3) := by decide +kernel
theorem dX11_readFunction_173 : decode cX11_readFunction 173 = .ok (.iconst 0, 1) := by decide +kernel
theorem dX11_readFunction_174 : decode cX11_readFunction 174 = .ok (.istore_n 3, 1) := by decide +kernel
theorem dX11_readFunction_175 : decode cX11_readFunction 175 = .ok (.iload_n 3, 1) := by decide +kernel
theorem dX11_readFunction_176 : decode cX11_readFunction 176 = .ok (.bipush 12, 2) := by decide +kernel
theorem dX11_readFunction_178 : decode cX11_readFunction 178 = .ok (.if_icmp .ge 21, 3) := by decide +kernel
theorem dX11_readFunction_181 : decode cX11_readFunction 181 = .ok (.aload_n 0, 1) := by decide +kernel
theorem dX11_readFunction_182 : decode cX11_readFunction 182 = .ok (.getfield 41, 3) := by decide +kernel
theorem dX11_readFunction_185 : decode cX11_readFunction 185 = .ok (.bipush 12, 2) := by decide +kernel
theorem dX11_readFunction_187 : decode cX11_readFunction 187 = .ok (.iload_n 2, 1) := by decide +kernel
theorem dX11_readFunction_188 : decode cX11_readFunction 188 = .ok (.imul, 1) := by decide +kernel
theorem dX11_readFunction_189 : decode cX11_readFunction 189 = .ok (.iload_n 3, 1) := by decide +kernel
theorem dX11_readFunction_190 : decode cX11_readFunction 190 = .ok (.iadd, 1) := by decide +kernel
theorem dX11_readFunction_191 : decode cX11_readFunction 191 = .ok (.iconst 0, 1) := by decide +kernel
theorem dX11_readFunction_192 : decode cX11_readFunction 192 = .ok (.iastore, 1) := by decide +kernel
theorem dX11_readFunction_193 : decode cX11_readFunction 193 = .ok (.iinc 3 1, 3) := by decide +kernel
theorem dX11_readFunction_196 : decode cX11_readFunction 196 = .ok (.goto (-21), 3) := by decide +kernel
theorem dX11_readFunction_199 : decode cX11_readFunction 199 = .ok (.aload_n 0, 1) := by decide +kernel
theorem dX11_readFunction_200 : decode cX11_readFunction 200 = .ok (.iconst 3, 1) := by decide +kernel
theorem dX11_readFunction_201 : decode cX11_readFunction 201 = .ok (.aload_n 0, 1) := by decide +kernel
theorem dX11_readFunction_202 : decode cX11_readFunction 202 = .ok (.iconst 3, 1) := by decide +kernel
theorem dX11_readFunction_203 : decode cX11_readFunction 203 = .ok (.invokevirtual 166, 3) := by decide +kernel
theorem dX11_readFunction_206 : decode cX11_readFunction 206 = .ok (.iconst 1, 1) := by decide +kernel
theorem dX11_readFunction_207 : decode cX11_readFunction 207 = .ok (.iadd, 1) := by decide +kernel
theorem dX11_readFunction_208 : decode cX11_readFunction 208 = .ok (.invokevirtual 162, 3) := by decide +kernel
theorem dX11_readFunction_211 : decode cX11_readFunction 211 = .ok (.return_, 1) := by decide +kernel
/-- QuotientSumsModel.readFunction(I)V -/
def wX11_readFunction (thrown : Int32) (taped : Int32) (lines : Int32) (size : Int32) (atF : Int32) (place : Int32) (sort : Int32) (value : Int32) (fault : Int32) (faultPlace : Int32) (lastFault : Int32) (lastPlace : Int32) (undoable : Int32) (hasImage : Int32) (rowOf : Int32) (areSums : Int32) (isSieved : Int32) (blocks : Int32) (drawn : Int32) (number : Nat → Int32) (tape : Nat → Int32) (name : Nat → Int32) (sortOf : Nat → Int32) (first : Nat → Int32) (second : Nat → Int32) (degree : Nat → Int32) (colours : Nat → Int32) (signBy : Nat → Int32) (own : Nat → Int32) (a1 : Int32) (Q : (Int32) → (Int32) → (Int32) → (Int32) → (Int32) → (Int32) → (Nat → Int32) → (Nat → Int32) → (Nat → Int32) → (Nat → Int32) → (Nat → Int32) → (Nat → Int32) → (Nat → Int32) → (Nat → Int32) → (Nat → Int32) → Prop) : Prop :=
  (∃ (P_1 : (Int32) → Prop), wX11_functionsRead thrown taped lines size atF place sort value fault faultPlace lastFault lastPlace undoable hasImage rowOf areSums isSieved blocks drawn number P_1 ∧ ∀ (rF_1 : Int32), P_1 rF_1 → ∀ x2_1 : Int32, x2_1 = 12 + rF_1 → (∃ (J_1 : (Int32) → (Int32) → Prop), ((¬ x2_1 = 24 → (J_1 fault faultPlace)) ∧ (x2_1 = 24 → (∃ (P_13 : (Int32) → (Int32) → Prop), wX11_wrong thrown taped lines size atF place sort value fault faultPlace lastFault lastPlace undoable hasImage rowOf areSums isSieved blocks drawn 2 P_13 ∧ ∀ (fault_11 : Int32) (faultPlace_11 : Int32), P_13 fault_11 faultPlace_11 → (J_1 fault_11 faultPlace_11)))) ∧ (∀ (fault_1 : Int32) (faultPlace_1 : Int32), J_1 fault_1 faultPlace_1 → (∃ (P_2 : (Int32) → (Int32) → (Int32) → (Int32) → Prop), wX11_goOn thrown taped lines size atF place sort value fault_1 faultPlace_1 lastFault lastPlace undoable hasImage rowOf areSums isSieved blocks drawn tape P_2 ∧ ∀ (atF_1 : Int32) (place_1 : Int32) (sort_1 : Int32) (value_1 : Int32), P_2 atF_1 place_1 sort_1 value_1 → ((fault_1 = 0 → (∃ (J_2 : (Int32) → (Int32) → Prop), ((sort_1 = 1 → (∃ (P_9 : (Int32) → Prop), wX11_functionsRead thrown taped lines size atF_1 place_1 sort_1 value_1 fault_1 faultPlace_1 lastFault lastPlace undoable hasImage rowOf areSums isSieved blocks drawn number P_9 ∧ ∀ (rF_3 : Int32), P_9 rF_3 → ∃ (P_10 : (Int32) → Prop), wX11_namedAt thrown taped lines size atF_1 place_1 sort_1 value_1 fault_1 faultPlace_1 lastFault lastPlace undoable hasImage rowOf areSums isSieved blocks drawn name 12 rF_3 value_1 P_10 ∧ ∀ (rF_4 : Int32), P_10 rF_4 → ((rF_4 = (-1) → (J_2 fault_1 faultPlace_1)) ∧ (¬ rF_4 = (-1) → (∃ (P_11 : (Int32) → (Int32) → Prop), wX11_wrong thrown taped lines size atF_1 place_1 sort_1 value_1 fault_1 faultPlace_1 lastFault lastPlace undoable hasImage rowOf areSums isSieved blocks drawn 3 P_11 ∧ ∀ (fault_9 : Int32) (faultPlace_9 : Int32), P_11 fault_9 faultPlace_9 → (J_2 fault_9 faultPlace_9)))))) ∧ (¬ sort_1 = 1 → (∃ (P_12 : (Int32) → (Int32) → Prop), wX11_wrong thrown taped lines size atF_1 place_1 sort_1 value_1 fault_1 faultPlace_1 lastFault lastPlace undoable hasImage rowOf areSums isSieved blocks drawn 1 P_12 ∧ ∀ (fault_10 : Int32) (faultPlace_10 : Int32), P_12 fault_10 faultPlace_10 → (J_2 fault_10 faultPlace_10)))) ∧ (∀ (fault_2 : Int32) (faultPlace_2 : Int32), J_2 fault_2 faultPlace_2 → ((fault_2 = 0 → (vp_in x2_1 24 ∧ ∀ name_1 : Nat → Int32, name_1 = upd name x2_1.toNatClampNeg value_1 → ∀ sortOf_1 : Nat → Int32, sortOf_1 = upd sortOf x2_1.toNatClampNeg a1 → ∀ first_1 : Nat → Int32, first_1 = upd first x2_1.toNatClampNeg (-2) → ∀ second_1 : Nat → Int32, second_1 = upd second x2_1.toNatClampNeg (-2) → ∀ degree_1 : Nat → Int32, degree_1 = upd degree x2_1.toNatClampNeg 1 → ∃ (P_3 : (Int32) → (Int32) → (Int32) → (Int32) → Prop), wX11_token thrown taped lines size atF_1 place_1 sort_1 value_1 fault_2 faultPlace_2 lastFault lastPlace undoable hasImage rowOf areSums isSieved blocks drawn tape P_3 ∧ ∀ (atF_2 : Int32) (place_2 : Int32) (sort_2 : Int32) (value_2 : Int32), P_3 atF_2 place_2 sort_2 value_2 → vp_in x2_1 24 ∧ ∀ colours_1 : Nat → Int32, colours_1 = upd colours x2_1.toNatClampNeg 0 → ∀ signBy_1 : Nat → Int32, signBy_1 = upd signBy x2_1.toNatClampNeg 0 → (∃ (J_3 : (Nat → Int32) → (Nat → Int32) → (Nat → Int32) → (Int32) → (Int32) → (Int32) → (Int32) → (Int32) → (Int32) → Prop), ((a1 = 1 → (J_3 colours_1 degree_1 first_1 atF_2 place_2 sort_2 value_2 fault_2 faultPlace_2)) ∧ (¬ a1 = 1 → (∃ (P_8 : (Int32) → (Int32) → (Int32) → (Int32) → (Int32) → (Int32) → (Nat → Int32) → (Nat → Int32) → (Nat → Int32) → Prop), wX11_readFirst thrown taped lines size atF_2 place_2 sort_2 value_2 fault_2 faultPlace_2 lastFault lastPlace undoable hasImage rowOf areSums isSieved blocks drawn number name_1 first_1 degree_1 colours_1 tape x2_1 a1 P_8 ∧ ∀ (atF_8 : Int32) (place_8 : Int32) (sort_8 : Int32) (value_8 : Int32) (fault_8 : Int32) (faultPlace_8 : Int32) (first_3 : Nat → Int32) (degree_5 : Nat → Int32) (colours_7 : Nat → Int32), P_8 atF_8 place_8 sort_8 value_8 fault_8 faultPlace_8 first_3 degree_5 colours_7 → (J_3 colours_7 degree_5 first_3 atF_8 place_8 sort_8 value_8 fault_8 faultPlace_8)))) ∧ (∀ (colours_2 : Nat → Int32) (degree_2 : Nat → Int32) (first_2 : Nat → Int32) (atF_3 : Int32) (place_3 : Int32) (sort_3 : Int32) (value_3 : Int32) (fault_3 : Int32) (faultPlace_3 : Int32), J_3 colours_2 degree_2 first_2 atF_3 place_3 sort_3 value_3 fault_3 faultPlace_3 → (∃ (J_4 : Prop) (J_5 : (Nat → Int32) → (Nat → Int32) → (Nat → Int32) → (Int32) → (Int32) → (Int32) → (Int32) → (Int32) → (Int32) → Prop), ((a1 = 2 → (J_4)) ∧ (¬ a1 = 2 → ((¬ a1 = 4 → (J_5 colours_2 degree_2 second_1 atF_3 place_3 sort_3 value_3 fault_3 faultPlace_3)) ∧ (a1 = 4 → (J_4))))) ∧ (J_4 → (∃ (P_7 : (Int32) → (Int32) → (Int32) → (Int32) → (Int32) → (Int32) → (Nat → Int32) → (Nat → Int32) → (Nat → Int32) → Prop), wX11_readSecond thrown taped lines size atF_3 place_3 sort_3 value_3 fault_3 faultPlace_3 lastFault lastPlace undoable hasImage rowOf areSums isSieved blocks drawn number name_1 second_1 degree_2 colours_2 tape x2_1 a1 P_7 ∧ ∀ (atF_7 : Int32) (place_7 : Int32) (sort_7 : Int32) (value_7 : Int32) (fault_7 : Int32) (faultPlace_7 : Int32) (second_3 : Nat → Int32) (degree_4 : Nat → Int32) (colours_6 : Nat → Int32), P_7 atF_7 place_7 sort_7 value_7 fault_7 faultPlace_7 second_3 degree_4 colours_6 → (J_5 colours_6 degree_4 second_3 atF_7 place_7 sort_7 value_7 fault_7 faultPlace_7))) ∧ (∀ (colours_3 : Nat → Int32) (degree_3 : Nat → Int32) (second_2 : Nat → Int32) (atF_4 : Int32) (place_4 : Int32) (sort_4 : Int32) (value_4 : Int32) (fault_4 : Int32) (faultPlace_4 : Int32), J_5 colours_3 degree_3 second_2 atF_4 place_4 sort_4 value_4 fault_4 faultPlace_4 → (∃ (J_6 : (Nat → Int32) → (Nat → Int32) → (Int32) → (Int32) → (Int32) → (Int32) → (Int32) → (Int32) → Prop), ((¬ a1 = 5 → (J_6 colours_3 signBy_1 atF_4 place_4 sort_4 value_4 fault_4 faultPlace_4)) ∧ (a1 = 5 → (∃ (P_6 : (Int32) → (Int32) → (Int32) → (Int32) → (Int32) → (Int32) → (Nat → Int32) → (Nat → Int32) → Prop), wX11_readSign thrown taped lines size atF_4 place_4 sort_4 value_4 fault_4 faultPlace_4 lastFault lastPlace undoable hasImage rowOf areSums isSieved blocks drawn tape signBy_1 colours_3 x2_1 P_6 ∧ ∀ (atF_6 : Int32) (place_6 : Int32) (sort_6 : Int32) (value_6 : Int32) (fault_6 : Int32) (faultPlace_6 : Int32) (signBy_3 : Nat → Int32) (colours_5 : Nat → Int32), P_6 atF_6 place_6 sort_6 value_6 fault_6 faultPlace_6 signBy_3 colours_5 → (J_6 colours_5 signBy_3 atF_6 place_6 sort_6 value_6 fault_6 faultPlace_6)))) ∧ (∀ (colours_4 : Nat → Int32) (signBy_2 : Nat → Int32) (atF_5 : Int32) (place_5 : Int32) (sort_5 : Int32) (value_5 : Int32) (fault_5 : Int32) (faultPlace_5 : Int32), J_6 colours_4 signBy_2 atF_5 place_5 sort_5 value_5 fault_5 faultPlace_5 → (∃ (Inv_1 : (Nat → Int32) → (Int32) → Prop) (Mea_1 : (Nat → Int32) → (Int32) → Nat), Inv_1 own 0 ∧ ∀ (own_1 : Nat → Int32) (x3_1 : Int32), Inv_1 own_1 x3_1 → ((12 ≤ x3_1 → (∃ (P_4 : (Int32) → Prop), wX11_reading thrown taped lines size atF_5 place_5 sort_5 value_5 fault_5 faultPlace_5 lastFault lastPlace undoable hasImage rowOf areSums isSieved blocks drawn number 3 P_4 ∧ ∀ (rF_2 : Int32), P_4 rF_2 → ∃ (P_5 : (Nat → Int32) → Prop), wX11_reads thrown taped lines size atF_5 place_5 sort_5 value_5 fault_5 faultPlace_5 lastFault lastPlace undoable hasImage rowOf areSums isSieved blocks drawn number 3 (rF_2 + 1) P_5 ∧ ∀ (number_1 : Nat → Int32), P_5 number_1 → (Q atF_5 place_5 sort_5 value_5 fault_5 faultPlace_5 number_1 name_1 sortOf_1 first_2 second_2 degree_3 colours_4 signBy_2 own_1))) ∧ (¬ 12 ≤ x3_1 → (vp_in ((12 * x2_1) + x3_1) 288 ∧ ∀ own_2 : Nat → Int32, own_2 = upd own_1 ((12 * x2_1) + x3_1).toNatClampNeg 0 → (Inv_1 own_2 (x3_1 + 1) ∧ Mea_1 own_2 (x3_1 + 1) < Mea_1 own_1 x3_1))))))))))))) ∧ (¬ fault_2 = 0 → (Q atF_1 place_1 sort_1 value_1 fault_2 faultPlace_2 number name sortOf first second degree colours signBy own)))))) ∧ (¬ fault_1 = 0 → (Q atF_1 place_1 sort_1 value_1 fault_1 faultPlace_1 number name sortOf first second degree colours signBy own)))))))
set_option maxHeartbeats 4000000 in
set_option maxRecDepth 100000 in
theorem mX11_readFunction (l : Launch) (D : va_G) (Y : Nat → ClassId) (h0 : Nat) (thrown : Int32) (q_tape : Nat) (taped : Int32) (q_number : Nat) (v_isTold : Value) (q_name : Nat) (q_sortOf : Nat) (q_first : Nat) (q_second : Nat) (q_degree : Nat) (q_colours : Nat) (q_signBy : Nat) (q_own : Nat) (lines : Int32) (size : Int32) (atF : Int32) (place : Int32) (sort : Int32) (value : Int32) (fault : Int32) (faultPlace : Int32) (lastFault : Int32) (lastPlace : Int32) (v_sF : Value) (v_kept : Value) (undoable : Int32) (hasImage : Int32) (v_power : Value) (v_table : Value) (v_marks : Value) (v_row : Value) (rowOf : Int32) (areSums : Int32) (isSieved : Int32) (v_lastOf : Value) (blocks : Int32) (v_inBlock : Value) (v_atQuotient : Value) (v_small : Value) (drawn : Int32) (number : Nat → Int32) (tape : Nat → Int32) (name : Nat → Int32) (sortOf : Nat → Int32) (first : Nat → Int32) (second : Nat → Int32) (degree : Nat → Int32) (colours : Nat → Int32) (signBy : Nat → Int32) (own : Nat → Int32) (a1 : Int32) (Q : (Int32) → (Int32) → (Int32) → (Int32) → (Int32) → (Int32) → (Nat → Int32) → (Nat → Int32) → (Nat → Int32) → (Nat → Int32) → (Nat → Int32) → (Nat → Int32) → (Nat → Int32) → (Nat → Int32) → (Nat → Int32) → Prop) (h : wX11_readFunction thrown taped lines size atF place sort value fault faultPlace lastFault lastPlace undoable hasImage rowOf areSums isSieved blocks drawn number tape name sortOf first second degree colours signBy own a1 Q) : gM l D Y yX11_readFunction cX11_readFunction 4 none 9 194 0 0 [.ref h0, .int a1] [oX11 h0 thrown (.ref q_tape) taped (.ref q_number) (v_isTold) (.ref q_name) (.ref q_sortOf) (.ref q_first) (.ref q_second) (.ref q_degree) (.ref q_colours) (.ref q_signBy) (.ref q_own) lines size atF place sort value fault faultPlace lastFault lastPlace (v_sF) (v_kept) undoable hasImage (v_power) (v_table) (v_marks) (v_row) rowOf areSums isSieved (v_lastOf) blocks (v_inBlock) (v_atQuotient) (v_small) drawn, aI Y q_number 8 number, aI Y q_tape 700 tape, aI Y q_name 24 name, aI Y q_sortOf 24 sortOf, aI Y q_first 24 first, aI Y q_second 24 second, aI Y q_degree 24 degree, aI Y q_colours 24 colours, aI Y q_signBy 24 signBy, aI Y q_own 288 own] (fun v w => ∃ atF' : Int32, ∃ place' : Int32, ∃ sort' : Int32, ∃ value' : Int32, ∃ fault' : Int32, ∃ faultPlace' : Int32, ∃ number' : Nat → Int32, ∃ name' : Nat → Int32, ∃ sortOf' : Nat → Int32, ∃ first' : Nat → Int32, ∃ second' : Nat → Int32, ∃ degree' : Nat → Int32, ∃ colours' : Nat → Int32, ∃ signBy' : Nat → Int32, ∃ own' : Nat → Int32, v = none ∧ w = [oX11 h0 thrown (.ref q_tape) taped (.ref q_number) (v_isTold) (.ref q_name) (.ref q_sortOf) (.ref q_first) (.ref q_second) (.ref q_degree) (.ref q_colours) (.ref q_signBy) (.ref q_own) lines size atF' place' sort' value' fault' faultPlace' lastFault lastPlace (v_sF) (v_kept) undoable hasImage (v_power) (v_table) (v_marks) (v_row) rowOf areSums isSieved (v_lastOf) blocks (v_inBlock) (v_atQuotient) (v_small) drawn, aI Y q_number 8 number', aI Y q_tape 700 tape, aI Y q_name 24 name', aI Y q_sortOf 24 sortOf', aI Y q_first 24 first', aI Y q_second 24 second', aI Y q_degree 24 degree', aI Y q_colours 24 colours', aI Y q_signBy 24 signBy', aI Y q_own 288 own'] ∧ Q atF' place' sort' value' fault' faultPlace' number' name' sortOf' first' second' degree' colours' signBy' own') := by
  refine gM_of (own := RX11) (by decide +kernel) rfl (Nat.le_of_ble_eq_true rfl) rfl (fun E C hR => ?_)
  unfold wX11_readFunction at h
  refine g_bipush (v := 12) C dX11_readFunction_0 rfl ?_
  refine g_aload_n C dX11_readFunction_2 0 rfl ?_
  obtain ⟨P_1, hP, h⟩ := h
  refine g_callV (As := []) (rest := [.int 12]) C (mX11_functionsRead l D Y h0 thrown (.ref q_tape) taped q_number v_isTold (.ref q_name) (.ref q_sortOf) (.ref q_first) (.ref q_second) (.ref q_degree) (.ref q_colours) (.ref q_signBy) (.ref q_own) lines size atF place sort value fault faultPlace lastFault lastPlace v_sF v_kept undoable hasImage v_power v_table v_marks v_row rowOf areSums isSieved v_lastOf blocks v_inBlock v_atQuotient v_small drawn number P_1 hP) dX11_readFunction_3 rfl wM_X11_170 wI_X11_functionsRead wV_X11_functionsRead wN_X11 wC_X11_functionsRead (n := 0) (by decide +kernel) rfl (q0 := 0) rfl rfl ⟨Nat.le_of_ble_eq_true rfl, Nat.le_of_ble_eq_true rfl⟩ ⟨Nat.le_of_ble_eq_true rfl, Nat.le_of_ble_eq_true rfl⟩ (Nat.le_of_ble_eq_true rfl) [0, 1] [2, 3, 4, 5, 6, 7, 8, 9, 10] rfl rfl rfl (fun v wc hv => ?_)
  obtain ⟨rF_1, rfl, rfl, hq⟩ := hv
  replace h := h rF_1 hq
  refine gG.perm (ws' := [oX11 h0 thrown (.ref q_tape) taped (.ref q_number) (v_isTold) (.ref q_name) (.ref q_sortOf) (.ref q_first) (.ref q_second) (.ref q_degree) (.ref q_colours) (.ref q_signBy) (.ref q_own) lines size atF place sort value fault faultPlace lastFault lastPlace (v_sF) (v_kept) undoable hasImage (v_power) (v_table) (v_marks) (v_row) rowOf areSums isSieved (v_lastOf) blocks (v_inBlock) (v_atQuotient) (v_small) drawn, aI Y q_number 8 number, aI Y q_tape 700 tape, aI Y q_name 24 name, aI Y q_sortOf 24 sortOf, aI Y q_first 24 first, aI Y q_second 24 second, aI Y q_degree 24 degree, aI Y q_colours 24 colours, aI Y q_signBy 24 signBy, aI Y q_own 288 own]) [9, 10, 0, 1, 2, 3, 4, 5, 6, 7, 8] rfl rfl ?_
  refine g_iadd C dX11_readFunction_6 ?_
  refine g_topi (fun x2_1 ex2_1 => ?_)
  replace h := h x2_1 ex2_1
  refine g_istore_n (lv' := [(2, .int x2_1), (0, .ref h0), (1, .int a1)]) C dX11_readFunction_7 (by decide) rfl ?_
  refine g_iload_n C dX11_readFunction_8 0 rfl ?_
  refine g_bipush (v := 24) C dX11_readFunction_9 rfl ?_
  obtain ⟨J_1, hA, hB_J_1⟩ := h
  have key_1 : ∀ (fault_1 : Int32) (faultPlace_1 : Int32), J_1 fault_1 faultPlace_1 → gG E 0 0 [oX11 h0 thrown (.ref q_tape) taped (.ref q_number) (v_isTold) (.ref q_name) (.ref q_sortOf) (.ref q_first) (.ref q_second) (.ref q_degree) (.ref q_colours) (.ref q_signBy) (.ref q_own) lines size atF place sort value fault_1 faultPlace_1 lastFault lastPlace (v_sF) (v_kept) undoable hasImage (v_power) (v_table) (v_marks) (v_row) rowOf areSums isSieved (v_lastOf) blocks (v_inBlock) (v_atQuotient) (v_small) drawn, aI Y q_number 8 number, aI Y q_tape 700 tape, aI Y q_name 24 name, aI Y q_sortOf 24 sortOf, aI Y q_first 24 first, aI Y q_second 24 second, aI Y q_degree 24 degree, aI Y q_colours 24 colours, aI Y q_signBy 24 signBy, aI Y q_own 288 own] [(0, .ref h0), (1, .int a1), (2, .int x2_1)] [] 19 := by
    intro fault_1 faultPlace_1 hJ
    have h := hB_J_1 fault_1 faultPlace_1 hJ
    refine g_aload_n C dX11_readFunction_19 0 rfl ?_
    obtain ⟨P_2, hP, h⟩ := h
    refine g_callV (As := []) (rest := []) C (mX11_goOn l D Y h0 thrown q_tape taped (.ref q_number) v_isTold (.ref q_name) (.ref q_sortOf) (.ref q_first) (.ref q_second) (.ref q_degree) (.ref q_colours) (.ref q_signBy) (.ref q_own) lines size atF place sort value fault_1 faultPlace_1 lastFault lastPlace v_sF v_kept undoable hasImage v_power v_table v_marks v_row rowOf areSums isSieved v_lastOf blocks v_inBlock v_atQuotient v_small drawn tape P_2 hP) dX11_readFunction_20 rfl wM_X11_155 wI_X11_goOn wV_X11_goOn wN_X11 wC_X11_goOn (n := 0) (by decide +kernel) rfl (q0 := 0) rfl rfl ⟨Nat.le_of_ble_eq_true rfl, Nat.le_of_ble_eq_true rfl⟩ ⟨Nat.le_of_ble_eq_true rfl, Nat.le_of_ble_eq_true rfl⟩ (Nat.le_of_ble_eq_true rfl) [0, 2] [1, 3, 4, 5, 6, 7, 8, 9, 10] rfl rfl rfl (fun v wc hv => ?_)
    obtain ⟨atF_1, place_1, sort_1, value_1, rfl, rfl, hq⟩ := hv
    replace h := h atF_1 place_1 sort_1 value_1 hq
    refine gG.perm (ws' := [oX11 h0 thrown (.ref q_tape) taped (.ref q_number) (v_isTold) (.ref q_name) (.ref q_sortOf) (.ref q_first) (.ref q_second) (.ref q_degree) (.ref q_colours) (.ref q_signBy) (.ref q_own) lines size atF_1 place_1 sort_1 value_1 fault_1 faultPlace_1 lastFault lastPlace (v_sF) (v_kept) undoable hasImage (v_power) (v_table) (v_marks) (v_row) rowOf areSums isSieved (v_lastOf) blocks (v_inBlock) (v_atQuotient) (v_small) drawn, aI Y q_number 8 number, aI Y q_tape 700 tape, aI Y q_name 24 name, aI Y q_sortOf 24 sortOf, aI Y q_first 24 first, aI Y q_second 24 second, aI Y q_degree 24 degree, aI Y q_colours 24 colours, aI Y q_signBy 24 signBy, aI Y q_own 288 own]) [9, 0, 10, 1, 2, 3, 4, 5, 6, 7, 8] rfl rfl ?_
    refine g_aload_n C dX11_readFunction_23 0 rfl ?_
    refine g_get C inX11 0 rfl rfl 19 (by decide) wF_X11_142 rfl dX11_readFunction_24 ?_
    refine g_if_eq (tgt := 31) C dX11_readFunction_27 (by decide) (fun c_1 => ?_) (fun c_1 => ?_)
    · replace h := h.1 c_1
      refine g_aload_n C dX11_readFunction_31 0 rfl ?_
      refine g_get C inX11 0 rfl rfl 17 (by decide) wF_X11_108 rfl dX11_readFunction_32 ?_
      refine g_iconst (v := 1) C dX11_readFunction_35 rfl ?_
      obtain ⟨J_2, hA, hB_J_2⟩ := h
      have key_2 : ∀ (fault_2 : Int32) (faultPlace_2 : Int32), J_2 fault_2 faultPlace_2 → gG E 0 0 [oX11 h0 thrown (.ref q_tape) taped (.ref q_number) (v_isTold) (.ref q_name) (.ref q_sortOf) (.ref q_first) (.ref q_second) (.ref q_degree) (.ref q_colours) (.ref q_signBy) (.ref q_own) lines size atF_1 place_1 sort_1 value_1 fault_2 faultPlace_2 lastFault lastPlace (v_sF) (v_kept) undoable hasImage (v_power) (v_table) (v_marks) (v_row) rowOf areSums isSieved (v_lastOf) blocks (v_inBlock) (v_atQuotient) (v_small) drawn, aI Y q_number 8 number, aI Y q_tape 700 tape, aI Y q_name 24 name, aI Y q_sortOf 24 sortOf, aI Y q_first 24 first, aI Y q_second 24 second, aI Y q_degree 24 degree, aI Y q_colours 24 colours, aI Y q_signBy 24 signBy, aI Y q_own 288 own] [(0, .ref h0), (1, .int a1), (2, .int x2_1)] [] 70 := by
        intro fault_2 faultPlace_2 hJ
        have h := hB_J_2 fault_2 faultPlace_2 hJ
        refine g_aload_n C dX11_readFunction_70 0 rfl ?_
        refine g_get C inX11 0 rfl rfl 19 (by decide) wF_X11_142 rfl dX11_readFunction_71 ?_
        refine g_if_eq (tgt := 78) C dX11_readFunction_74 (by decide) (fun c_2 => ?_) (fun c_2 => ?_)
        · replace h := h.1 c_2
          refine g_aload_n C dX11_readFunction_78 0 rfl ?_
          refine g_get C inX11 0 rfl rfl 5 (by decide) wF_X11_20 rfl dX11_readFunction_79 ?_
          refine g_iload_n C dX11_readFunction_82 2 rfl ?_
          refine g_aload_n C dX11_readFunction_83 0 rfl ?_
          refine g_get C inX11 0 rfl rfl 18 (by decide) wF_X11_118 rfl dX11_readFunction_84 ?_
          obtain ⟨hc_1, h⟩ := h
          refine g_iast C 3 rfl hc_1 dX11_readFunction_87 (fun name_1 ename_1 => gG.eqw (ws' := [oX11 h0 thrown (.ref q_tape) taped (.ref q_number) (v_isTold) (.ref q_name) (.ref q_sortOf) (.ref q_first) (.ref q_second) (.ref q_degree) (.ref q_colours) (.ref q_signBy) (.ref q_own) lines size atF_1 place_1 sort_1 value_1 fault_2 faultPlace_2 lastFault lastPlace (v_sF) (v_kept) undoable hasImage (v_power) (v_table) (v_marks) (v_row) rowOf areSums isSieved (v_lastOf) blocks (v_inBlock) (v_atQuotient) (v_small) drawn, aI Y q_number 8 number, aI Y q_tape 700 tape, aI Y q_name 24 name_1, aI Y q_sortOf 24 sortOf, aI Y q_first 24 first, aI Y q_second 24 second, aI Y q_degree 24 degree, aI Y q_colours 24 colours, aI Y q_signBy 24 signBy, aI Y q_own 288 own]) rfl ?_)
          replace h := h name_1 ename_1
          refine g_aload_n C dX11_readFunction_88 0 rfl ?_
          refine g_get C inX11 0 rfl rfl 6 (by decide) wF_X11_23 rfl dX11_readFunction_89 ?_
          refine g_iload_n C dX11_readFunction_92 2 rfl ?_
          refine g_iload_n C dX11_readFunction_93 1 rfl ?_
          refine g_iast C 4 rfl hc_1 dX11_readFunction_94 (fun sortOf_1 esortOf_1 => gG.eqw (ws' := [oX11 h0 thrown (.ref q_tape) taped (.ref q_number) (v_isTold) (.ref q_name) (.ref q_sortOf) (.ref q_first) (.ref q_second) (.ref q_degree) (.ref q_colours) (.ref q_signBy) (.ref q_own) lines size atF_1 place_1 sort_1 value_1 fault_2 faultPlace_2 lastFault lastPlace (v_sF) (v_kept) undoable hasImage (v_power) (v_table) (v_marks) (v_row) rowOf areSums isSieved (v_lastOf) blocks (v_inBlock) (v_atQuotient) (v_small) drawn, aI Y q_number 8 number, aI Y q_tape 700 tape, aI Y q_name 24 name_1, aI Y q_sortOf 24 sortOf_1, aI Y q_first 24 first, aI Y q_second 24 second, aI Y q_degree 24 degree, aI Y q_colours 24 colours, aI Y q_signBy 24 signBy, aI Y q_own 288 own]) rfl ?_)
          replace h := h sortOf_1 esortOf_1
          refine g_aload_n C dX11_readFunction_95 0 rfl ?_
          refine g_get C inX11 0 rfl rfl 7 (by decide) wF_X11_26 rfl dX11_readFunction_96 ?_
          refine g_iload_n C dX11_readFunction_99 2 rfl ?_
          refine g_bipush (v := (-2)) C dX11_readFunction_100 rfl ?_
          refine g_iast C 5 rfl hc_1 dX11_readFunction_102 (fun first_1 efirst_1 => gG.eqw (ws' := [oX11 h0 thrown (.ref q_tape) taped (.ref q_number) (v_isTold) (.ref q_name) (.ref q_sortOf) (.ref q_first) (.ref q_second) (.ref q_degree) (.ref q_colours) (.ref q_signBy) (.ref q_own) lines size atF_1 place_1 sort_1 value_1 fault_2 faultPlace_2 lastFault lastPlace (v_sF) (v_kept) undoable hasImage (v_power) (v_table) (v_marks) (v_row) rowOf areSums isSieved (v_lastOf) blocks (v_inBlock) (v_atQuotient) (v_small) drawn, aI Y q_number 8 number, aI Y q_tape 700 tape, aI Y q_name 24 name_1, aI Y q_sortOf 24 sortOf_1, aI Y q_first 24 first_1, aI Y q_second 24 second, aI Y q_degree 24 degree, aI Y q_colours 24 colours, aI Y q_signBy 24 signBy, aI Y q_own 288 own]) rfl ?_)
          replace h := h first_1 efirst_1
          refine g_aload_n C dX11_readFunction_103 0 rfl ?_
          refine g_get C inX11 0 rfl rfl 8 (by decide) wF_X11_29 rfl dX11_readFunction_104 ?_
          refine g_iload_n C dX11_readFunction_107 2 rfl ?_
          refine g_bipush (v := (-2)) C dX11_readFunction_108 rfl ?_
          refine g_iast C 6 rfl hc_1 dX11_readFunction_110 (fun second_1 esecond_1 => gG.eqw (ws' := [oX11 h0 thrown (.ref q_tape) taped (.ref q_number) (v_isTold) (.ref q_name) (.ref q_sortOf) (.ref q_first) (.ref q_second) (.ref q_degree) (.ref q_colours) (.ref q_signBy) (.ref q_own) lines size atF_1 place_1 sort_1 value_1 fault_2 faultPlace_2 lastFault lastPlace (v_sF) (v_kept) undoable hasImage (v_power) (v_table) (v_marks) (v_row) rowOf areSums isSieved (v_lastOf) blocks (v_inBlock) (v_atQuotient) (v_small) drawn, aI Y q_number 8 number, aI Y q_tape 700 tape, aI Y q_name 24 name_1, aI Y q_sortOf 24 sortOf_1, aI Y q_first 24 first_1, aI Y q_second 24 second_1, aI Y q_degree 24 degree, aI Y q_colours 24 colours, aI Y q_signBy 24 signBy, aI Y q_own 288 own]) rfl ?_)
          replace h := h second_1 esecond_1
          refine g_aload_n C dX11_readFunction_111 0 rfl ?_
          refine g_get C inX11 0 rfl rfl 9 (by decide) wF_X11_32 rfl dX11_readFunction_112 ?_
          refine g_iload_n C dX11_readFunction_115 2 rfl ?_
          refine g_iconst (v := 1) C dX11_readFunction_116 rfl ?_
          refine g_iast C 7 rfl hc_1 dX11_readFunction_117 (fun degree_1 edegree_1 => gG.eqw (ws' := [oX11 h0 thrown (.ref q_tape) taped (.ref q_number) (v_isTold) (.ref q_name) (.ref q_sortOf) (.ref q_first) (.ref q_second) (.ref q_degree) (.ref q_colours) (.ref q_signBy) (.ref q_own) lines size atF_1 place_1 sort_1 value_1 fault_2 faultPlace_2 lastFault lastPlace (v_sF) (v_kept) undoable hasImage (v_power) (v_table) (v_marks) (v_row) rowOf areSums isSieved (v_lastOf) blocks (v_inBlock) (v_atQuotient) (v_small) drawn, aI Y q_number 8 number, aI Y q_tape 700 tape, aI Y q_name 24 name_1, aI Y q_sortOf 24 sortOf_1, aI Y q_first 24 first_1, aI Y q_second 24 second_1, aI Y q_degree 24 degree_1, aI Y q_colours 24 colours, aI Y q_signBy 24 signBy, aI Y q_own 288 own]) rfl ?_)
          replace h := h degree_1 edegree_1
          refine g_aload_n C dX11_readFunction_118 0 rfl ?_
          obtain ⟨P_3, hP, h⟩ := h
          refine g_callV (As := []) (rest := []) C (mX11_token l D Y h0 thrown q_tape taped (.ref q_number) v_isTold (.ref q_name) (.ref q_sortOf) (.ref q_first) (.ref q_second) (.ref q_degree) (.ref q_colours) (.ref q_signBy) (.ref q_own) lines size atF_1 place_1 sort_1 value_1 fault_2 faultPlace_2 lastFault lastPlace v_sF v_kept undoable hasImage v_power v_table v_marks v_row rowOf areSums isSieved v_lastOf blocks v_inBlock v_atQuotient v_small drawn tape P_3 hP) dX11_readFunction_119 rfl wM_X11_148 wI_X11_token wV_X11_token wN_X11 wC_X11_token (n := 0) (by decide +kernel) rfl (q0 := 0) rfl rfl ⟨Nat.le_of_ble_eq_true rfl, Nat.le_of_ble_eq_true rfl⟩ ⟨Nat.le_of_ble_eq_true rfl, Nat.le_of_ble_eq_true rfl⟩ (Nat.le_of_ble_eq_true rfl) [0, 2] [1, 3, 4, 5, 6, 7, 8, 9, 10] rfl rfl rfl (fun v wc hv => ?_)
          obtain ⟨atF_2, place_2, sort_2, value_2, rfl, rfl, hq⟩ := hv
          replace h := h atF_2 place_2 sort_2 value_2 hq
          refine gG.perm (ws' := [oX11 h0 thrown (.ref q_tape) taped (.ref q_number) (v_isTold) (.ref q_name) (.ref q_sortOf) (.ref q_first) (.ref q_second) (.ref q_degree) (.ref q_colours) (.ref q_signBy) (.ref q_own) lines size atF_2 place_2 sort_2 value_2 fault_2 faultPlace_2 lastFault lastPlace (v_sF) (v_kept) undoable hasImage (v_power) (v_table) (v_marks) (v_row) rowOf areSums isSieved (v_lastOf) blocks (v_inBlock) (v_atQuotient) (v_small) drawn, aI Y q_number 8 number, aI Y q_tape 700 tape, aI Y q_name 24 name_1, aI Y q_sortOf 24 sortOf_1, aI Y q_first 24 first_1, aI Y q_second 24 second_1, aI Y q_degree 24 degree_1, aI Y q_colours 24 colours, aI Y q_signBy 24 signBy, aI Y q_own 288 own]) [9, 0, 10, 1, 2, 3, 4, 5, 6, 7, 8] rfl rfl ?_
          refine g_aload_n C dX11_readFunction_122 0 rfl ?_
          refine g_get C inX11 0 rfl rfl 10 (by decide) wF_X11_35 rfl dX11_readFunction_123 ?_
          refine g_iload_n C dX11_readFunction_126 2 rfl ?_
          refine g_iconst (v := 0) C dX11_readFunction_127 rfl ?_
          obtain ⟨hc_2, h⟩ := h
          refine g_iast C 8 rfl hc_2 dX11_readFunction_128 (fun colours_1 ecolours_1 => gG.eqw (ws' := [oX11 h0 thrown (.ref q_tape) taped (.ref q_number) (v_isTold) (.ref q_name) (.ref q_sortOf) (.ref q_first) (.ref q_second) (.ref q_degree) (.ref q_colours) (.ref q_signBy) (.ref q_own) lines size atF_2 place_2 sort_2 value_2 fault_2 faultPlace_2 lastFault lastPlace (v_sF) (v_kept) undoable hasImage (v_power) (v_table) (v_marks) (v_row) rowOf areSums isSieved (v_lastOf) blocks (v_inBlock) (v_atQuotient) (v_small) drawn, aI Y q_number 8 number, aI Y q_tape 700 tape, aI Y q_name 24 name_1, aI Y q_sortOf 24 sortOf_1, aI Y q_first 24 first_1, aI Y q_second 24 second_1, aI Y q_degree 24 degree_1, aI Y q_colours 24 colours_1, aI Y q_signBy 24 signBy, aI Y q_own 288 own]) rfl ?_)
          replace h := h colours_1 ecolours_1
          refine g_aload_n C dX11_readFunction_129 0 rfl ?_
          refine g_get C inX11 0 rfl rfl 11 (by decide) wF_X11_38 rfl dX11_readFunction_130 ?_
          refine g_iload_n C dX11_readFunction_133 2 rfl ?_
          refine g_iconst (v := 0) C dX11_readFunction_134 rfl ?_
          refine g_iast C 9 rfl hc_2 dX11_readFunction_135 (fun signBy_1 esignBy_1 => gG.eqw (ws' := [oX11 h0 thrown (.ref q_tape) taped (.ref q_number) (v_isTold) (.ref q_name) (.ref q_sortOf) (.ref q_first) (.ref q_second) (.ref q_degree) (.ref q_colours) (.ref q_signBy) (.ref q_own) lines size atF_2 place_2 sort_2 value_2 fault_2 faultPlace_2 lastFault lastPlace (v_sF) (v_kept) undoable hasImage (v_power) (v_table) (v_marks) (v_row) rowOf areSums isSieved (v_lastOf) blocks (v_inBlock) (v_atQuotient) (v_small) drawn, aI Y q_number 8 number, aI Y q_tape 700 tape, aI Y q_name 24 name_1, aI Y q_sortOf 24 sortOf_1, aI Y q_first 24 first_1, aI Y q_second 24 second_1, aI Y q_degree 24 degree_1, aI Y q_colours 24 colours_1, aI Y q_signBy 24 signBy_1, aI Y q_own 288 own]) rfl ?_)
          replace h := h signBy_1 esignBy_1
          refine g_iload_n C dX11_readFunction_136 1 rfl ?_
          refine g_iconst (v := 1) C dX11_readFunction_137 rfl ?_
          obtain ⟨J_3, hA, hB_J_3⟩ := h
          have key_3 : ∀ (colours_2 : Nat → Int32) (degree_2 : Nat → Int32) (first_2 : Nat → Int32) (atF_3 : Int32) (place_3 : Int32) (sort_3 : Int32) (value_3 : Int32) (fault_3 : Int32) (faultPlace_3 : Int32), J_3 colours_2 degree_2 first_2 atF_3 place_3 sort_3 value_3 fault_3 faultPlace_3 → gG E 0 0 [oX11 h0 thrown (.ref q_tape) taped (.ref q_number) (v_isTold) (.ref q_name) (.ref q_sortOf) (.ref q_first) (.ref q_second) (.ref q_degree) (.ref q_colours) (.ref q_signBy) (.ref q_own) lines size atF_3 place_3 sort_3 value_3 fault_3 faultPlace_3 lastFault lastPlace (v_sF) (v_kept) undoable hasImage (v_power) (v_table) (v_marks) (v_row) rowOf areSums isSieved (v_lastOf) blocks (v_inBlock) (v_atQuotient) (v_small) drawn, aI Y q_number 8 number, aI Y q_tape 700 tape, aI Y q_name 24 name_1, aI Y q_sortOf 24 sortOf_1, aI Y q_first 24 first_2, aI Y q_second 24 second_1, aI Y q_degree 24 degree_2, aI Y q_colours 24 colours_2, aI Y q_signBy 24 signBy_1, aI Y q_own 288 own] [(0, .ref h0), (1, .int a1), (2, .int x2_1)] [] 147 := by
            intro colours_2 degree_2 first_2 atF_3 place_3 sort_3 value_3 fault_3 faultPlace_3 hJ
            have h := hB_J_3 colours_2 degree_2 first_2 atF_3 place_3 sort_3 value_3 fault_3 faultPlace_3 hJ
            refine g_iload_n C dX11_readFunction_147 1 rfl ?_
            refine g_iconst (v := 2) C dX11_readFunction_148 rfl ?_
            obtain ⟨J_4, J_5, hA, hB_J_4, hB_J_5⟩ := h
            have key_5 : ∀ (colours_3 : Nat → Int32) (degree_3 : Nat → Int32) (second_2 : Nat → Int32) (atF_4 : Int32) (place_4 : Int32) (sort_4 : Int32) (value_4 : Int32) (fault_4 : Int32) (faultPlace_4 : Int32), J_5 colours_3 degree_3 second_2 atF_4 place_4 sort_4 value_4 fault_4 faultPlace_4 → gG E 0 0 [oX11 h0 thrown (.ref q_tape) taped (.ref q_number) (v_isTold) (.ref q_name) (.ref q_sortOf) (.ref q_first) (.ref q_second) (.ref q_degree) (.ref q_colours) (.ref q_signBy) (.ref q_own) lines size atF_4 place_4 sort_4 value_4 fault_4 faultPlace_4 lastFault lastPlace (v_sF) (v_kept) undoable hasImage (v_power) (v_table) (v_marks) (v_row) rowOf areSums isSieved (v_lastOf) blocks (v_inBlock) (v_atQuotient) (v_small) drawn, aI Y q_number 8 number, aI Y q_tape 700 tape, aI Y q_name 24 name_1, aI Y q_sortOf 24 sortOf_1, aI Y q_first 24 first_2, aI Y q_second 24 second_2, aI Y q_degree 24 degree_3, aI Y q_colours 24 colours_3, aI Y q_signBy 24 signBy_1, aI Y q_own 288 own] [(0, .ref h0), (1, .int a1), (2, .int x2_1)] [] 163 := by
              intro colours_3 degree_3 second_2 atF_4 place_4 sort_4 value_4 fault_4 faultPlace_4 hJ
              have h := hB_J_5 colours_3 degree_3 second_2 atF_4 place_4 sort_4 value_4 fault_4 faultPlace_4 hJ
              refine g_iload_n C dX11_readFunction_163 1 rfl ?_
              refine g_iconst (v := 5) C dX11_readFunction_164 rfl ?_
              obtain ⟨J_6, hA, hB_J_6⟩ := h
              have key_6 : ∀ (colours_4 : Nat → Int32) (signBy_2 : Nat → Int32) (atF_5 : Int32) (place_5 : Int32) (sort_5 : Int32) (value_5 : Int32) (fault_5 : Int32) (faultPlace_5 : Int32), J_6 colours_4 signBy_2 atF_5 place_5 sort_5 value_5 fault_5 faultPlace_5 → gG E 0 0 [oX11 h0 thrown (.ref q_tape) taped (.ref q_number) (v_isTold) (.ref q_name) (.ref q_sortOf) (.ref q_first) (.ref q_second) (.ref q_degree) (.ref q_colours) (.ref q_signBy) (.ref q_own) lines size atF_5 place_5 sort_5 value_5 fault_5 faultPlace_5 lastFault lastPlace (v_sF) (v_kept) undoable hasImage (v_power) (v_table) (v_marks) (v_row) rowOf areSums isSieved (v_lastOf) blocks (v_inBlock) (v_atQuotient) (v_small) drawn, aI Y q_number 8 number, aI Y q_tape 700 tape, aI Y q_name 24 name_1, aI Y q_sortOf 24 sortOf_1, aI Y q_first 24 first_2, aI Y q_second 24 second_2, aI Y q_degree 24 degree_3, aI Y q_colours 24 colours_4, aI Y q_signBy 24 signBy_2, aI Y q_own 288 own] [(0, .ref h0), (2, .int x2_1)] [] 173 := by
                intro colours_4 signBy_2 atF_5 place_5 sort_5 value_5 fault_5 faultPlace_5 hJ
                have h := hB_J_6 colours_4 signBy_2 atF_5 place_5 sort_5 value_5 fault_5 faultPlace_5 hJ
                refine g_iconst (v := 0) C dX11_readFunction_173 rfl ?_
                refine g_istore_n (lv' := [(3, .int 0), (0, .ref h0), (2, .int x2_1)]) C dX11_readFunction_174 (by decide) rfl ?_
                obtain ⟨Inv_1, Mea_1, hI7, hB7⟩ := h
                have key_7 : ∀ (n : Nat) (own_1 : Nat → Int32) (x3_1 : Int32) , Mea_1 own_1 x3_1 < n → Inv_1 own_1 x3_1 → gG E 0 0 [oX11 h0 thrown (.ref q_tape) taped (.ref q_number) (v_isTold) (.ref q_name) (.ref q_sortOf) (.ref q_first) (.ref q_second) (.ref q_degree) (.ref q_colours) (.ref q_signBy) (.ref q_own) lines size atF_5 place_5 sort_5 value_5 fault_5 faultPlace_5 lastFault lastPlace (v_sF) (v_kept) undoable hasImage (v_power) (v_table) (v_marks) (v_row) rowOf areSums isSieved (v_lastOf) blocks (v_inBlock) (v_atQuotient) (v_small) drawn, aI Y q_number 8 number, aI Y q_tape 700 tape, aI Y q_name 24 name_1, aI Y q_sortOf 24 sortOf_1, aI Y q_first 24 first_2, aI Y q_second 24 second_2, aI Y q_degree 24 degree_3, aI Y q_colours 24 colours_4, aI Y q_signBy 24 signBy_2, aI Y q_own 288 own_1] [(0, .ref h0), (2, .int x2_1), (3, .int x3_1)] [] 175 := by
                  intro n
                  induction n with
                  | zero => exact fun _ _ hm => absurd hm (Nat.not_lt_zero _)
                  | succ n ih7 =>
                    intro own_1 x3_1  hm7 hI
                    have h := hB7 own_1 x3_1 hI
                    refine g_iload_n C dX11_readFunction_175 2 rfl ?_
                    refine g_bipush (v := 12) C dX11_readFunction_176 rfl ?_
                    refine g_icmp_ge (tgt := 199) C dX11_readFunction_178 (by decide) (fun c_3 => ?_) (fun c_3 => ?_)
                    · replace h := h.1 c_3
                      refine g_aload_n C dX11_readFunction_199 0 rfl ?_
                      refine g_iconst (v := 3) C dX11_readFunction_200 rfl ?_
                      refine g_aload_n C dX11_readFunction_201 0 rfl ?_
                      refine g_iconst (v := 3) C dX11_readFunction_202 rfl ?_
                      obtain ⟨P_4, hP, h⟩ := h
                      refine g_callV (As := [.int 3]) (rest := [.int 3, .ref h0]) C (mX11_reading l D Y h0 thrown (.ref q_tape) taped q_number v_isTold (.ref q_name) (.ref q_sortOf) (.ref q_first) (.ref q_second) (.ref q_degree) (.ref q_colours) (.ref q_signBy) (.ref q_own) lines size atF_5 place_5 sort_5 value_5 fault_5 faultPlace_5 lastFault lastPlace v_sF v_kept undoable hasImage v_power v_table v_marks v_row rowOf areSums isSieved v_lastOf blocks v_inBlock v_atQuotient v_small drawn number 3 P_4 hP) dX11_readFunction_203 rfl wM_X11_166 wI_X11_reading wV_X11_reading wN_X11 wC_X11_reading (n := 1) (by decide +kernel) rfl (q0 := 0) rfl rfl ⟨Nat.le_of_ble_eq_true rfl, Nat.le_of_ble_eq_true rfl⟩ ⟨Nat.le_of_ble_eq_true rfl, Nat.le_of_ble_eq_true rfl⟩ (Nat.le_of_ble_eq_true rfl) [0, 1] [2, 3, 4, 5, 6, 7, 8, 9, 10] rfl rfl rfl (fun v wc hv => ?_)
                      obtain ⟨rF_2, rfl, rfl, hq⟩ := hv
                      replace h := h rF_2 hq
                      refine gG.perm (ws' := [oX11 h0 thrown (.ref q_tape) taped (.ref q_number) (v_isTold) (.ref q_name) (.ref q_sortOf) (.ref q_first) (.ref q_second) (.ref q_degree) (.ref q_colours) (.ref q_signBy) (.ref q_own) lines size atF_5 place_5 sort_5 value_5 fault_5 faultPlace_5 lastFault lastPlace (v_sF) (v_kept) undoable hasImage (v_power) (v_table) (v_marks) (v_row) rowOf areSums isSieved (v_lastOf) blocks (v_inBlock) (v_atQuotient) (v_small) drawn, aI Y q_number 8 number, aI Y q_tape 700 tape, aI Y q_name 24 name_1, aI Y q_sortOf 24 sortOf_1, aI Y q_first 24 first_2, aI Y q_second 24 second_2, aI Y q_degree 24 degree_3, aI Y q_colours 24 colours_4, aI Y q_signBy 24 signBy_2, aI Y q_own 288 own_1]) [9, 10, 0, 1, 2, 3, 4, 5, 6, 7, 8] rfl rfl ?_
                      refine g_iconst (v := 1) C dX11_readFunction_206 rfl ?_
                      refine g_iadd C dX11_readFunction_207 ?_
                      obtain ⟨P_5, hP, h⟩ := h
                      refine g_callV (As := [.int 3, .int (rF_2 + 1)]) (rest := []) C (mX11_reads l D Y h0 thrown (.ref q_tape) taped q_number v_isTold (.ref q_name) (.ref q_sortOf) (.ref q_first) (.ref q_second) (.ref q_degree) (.ref q_colours) (.ref q_signBy) (.ref q_own) lines size atF_5 place_5 sort_5 value_5 fault_5 faultPlace_5 lastFault lastPlace v_sF v_kept undoable hasImage v_power v_table v_marks v_row rowOf areSums isSieved v_lastOf blocks v_inBlock v_atQuotient v_small drawn number 3 (rF_2 + 1) P_5 hP) dX11_readFunction_208 rfl wM_X11_162 wI_X11_reads wV_X11_reads wN_X11 wC_X11_reads (n := 2) (by decide +kernel) rfl (q0 := 0) rfl rfl ⟨Nat.le_of_ble_eq_true rfl, Nat.le_of_ble_eq_true rfl⟩ ⟨Nat.le_of_ble_eq_true rfl, Nat.le_of_ble_eq_true rfl⟩ (Nat.le_of_ble_eq_true rfl) [0, 1] [2, 3, 4, 5, 6, 7, 8, 9, 10] rfl rfl rfl (fun v wc hv => ?_)
                      obtain ⟨number_1, rfl, rfl, hq⟩ := hv
                      replace h := h number_1 hq
                      refine gG.perm (ws' := [oX11 h0 thrown (.ref q_tape) taped (.ref q_number) (v_isTold) (.ref q_name) (.ref q_sortOf) (.ref q_first) (.ref q_second) (.ref q_degree) (.ref q_colours) (.ref q_signBy) (.ref q_own) lines size atF_5 place_5 sort_5 value_5 fault_5 faultPlace_5 lastFault lastPlace (v_sF) (v_kept) undoable hasImage (v_power) (v_table) (v_marks) (v_row) rowOf areSums isSieved (v_lastOf) blocks (v_inBlock) (v_atQuotient) (v_small) drawn, aI Y q_number 8 number_1, aI Y q_tape 700 tape, aI Y q_name 24 name_1, aI Y q_sortOf 24 sortOf_1, aI Y q_first 24 first_2, aI Y q_second 24 second_2, aI Y q_degree 24 degree_3, aI Y q_colours 24 colours_4, aI Y q_signBy 24 signBy_2, aI Y q_own 288 own_1]) [9, 10, 0, 1, 2, 3, 4, 5, 6, 7, 8] rfl rfl ?_
                      exact g_vret C hR (Nat.le_of_ble_eq_true rfl) (Nat.le_of_ble_eq_true rfl) dX11_readFunction_211 ⟨atF_5, place_5, sort_5, value_5, fault_5, faultPlace_5, number_1, name_1, sortOf_1, first_2, second_2, degree_3, colours_4, signBy_2, own_1, rfl, rfl, h⟩
                    · replace h := h.2 c_3
                      refine g_aload_n C dX11_readFunction_181 0 rfl ?_
                      refine g_get C inX11 0 rfl rfl 12 (by decide) wF_X11_41 rfl dX11_readFunction_182 ?_
                      refine g_bipush (v := 12) C dX11_readFunction_185 rfl ?_
                      refine g_iload_n C dX11_readFunction_187 1 rfl ?_
                      refine g_imul C dX11_readFunction_188 ?_
                      refine g_iload_n C dX11_readFunction_189 2 rfl ?_
                      refine g_iadd C dX11_readFunction_190 ?_
                      refine g_iconst (v := 0) C dX11_readFunction_191 rfl ?_
                      obtain ⟨hc_3, h⟩ := h
                      refine g_iast C 10 rfl hc_3 dX11_readFunction_192 (fun own_2 eown_2 => gG.eqw (ws' := [oX11 h0 thrown (.ref q_tape) taped (.ref q_number) (v_isTold) (.ref q_name) (.ref q_sortOf) (.ref q_first) (.ref q_second) (.ref q_degree) (.ref q_colours) (.ref q_signBy) (.ref q_own) lines size atF_5 place_5 sort_5 value_5 fault_5 faultPlace_5 lastFault lastPlace (v_sF) (v_kept) undoable hasImage (v_power) (v_table) (v_marks) (v_row) rowOf areSums isSieved (v_lastOf) blocks (v_inBlock) (v_atQuotient) (v_small) drawn, aI Y q_number 8 number, aI Y q_tape 700 tape, aI Y q_name 24 name_1, aI Y q_sortOf 24 sortOf_1, aI Y q_first 24 first_2, aI Y q_second 24 second_2, aI Y q_degree 24 degree_3, aI Y q_colours 24 colours_4, aI Y q_signBy 24 signBy_2, aI Y q_own 288 own_2]) rfl ?_)
                      replace h := h own_2 eown_2
                      refine g_iinc (v := x3_1 + 1) (lv' := [(3, .int (x3_1 + 1)), (0, .ref h0), (2, .int x2_1)]) C dX11_readFunction_193 2 rfl rfl (by decide) rfl ?_
                      refine g_goto (tgt := 175) C dX11_readFunction_196 (by decide) ?_
                      refine gG.locals (lv' := [(0, .ref h0), (2, .int x2_1), (3, .int (x3_1 + 1))]) [1, 2, 0] rfl ?_
                      exact ih7 own_2 (x3_1 + 1) (Nat.lt_of_lt_of_le h.2 (Nat.le_of_lt_succ hm7)) h.1
                refine gG.locals (lv' := [(0, .ref h0), (2, .int x2_1), (3, .int 0)]) [1, 2, 0] rfl ?_
                exact key_7 (Mea_1 own 0 + 1) own 0 (Nat.lt_succ_self _) hI7
              replace h := hA
              refine g_icmp_ne (tgt := 173) C dX11_readFunction_165 (by decide) (fun c_4 => ?_) (fun c_4 => ?_)
              · replace h := h.1 c_4
                refine gG.locals (lv' := [(0, .ref h0), (2, .int x2_1)]) [0, 2] rfl ?_
                exact key_6 colours_3 signBy_1 atF_4 place_4 sort_4 value_4 fault_4 faultPlace_4 h
              · replace h := h.2 c_4
                refine g_aload_n C dX11_readFunction_168 0 rfl ?_
                refine g_iload_n C dX11_readFunction_169 2 rfl ?_
                obtain ⟨P_6, hP, h⟩ := h
                refine g_callV (As := [.int x2_1]) (rest := []) C (mX11_readSign l D Y h0 thrown q_tape taped (.ref q_number) v_isTold (.ref q_name) (.ref q_sortOf) (.ref q_first) (.ref q_second) (.ref q_degree) q_colours q_signBy (.ref q_own) lines size atF_4 place_4 sort_4 value_4 fault_4 faultPlace_4 lastFault lastPlace v_sF v_kept undoable hasImage v_power v_table v_marks v_row rowOf areSums isSieved v_lastOf blocks v_inBlock v_atQuotient v_small drawn tape signBy_1 colours_3 x2_1 P_6 hP) dX11_readFunction_170 rfl wM_X11_183 wI_X11_readSign wV_X11_readSign wN_X11 wC_X11_readSign (n := 1) (by decide +kernel) rfl (q0 := 0) rfl rfl ⟨Nat.le_of_ble_eq_true rfl, Nat.le_of_ble_eq_true rfl⟩ ⟨Nat.le_of_ble_eq_true rfl, Nat.le_of_ble_eq_true rfl⟩ (Nat.le_of_ble_eq_true rfl) [0, 2, 9, 8] [1, 3, 4, 5, 6, 7, 10] rfl rfl rfl (fun v wc hv => ?_)
                obtain ⟨atF_6, place_6, sort_6, value_6, fault_6, faultPlace_6, signBy_3, colours_5, rfl, rfl, hq⟩ := hv
                replace h := h atF_6 place_6 sort_6 value_6 fault_6 faultPlace_6 signBy_3 colours_5 hq
                refine gG.perm (ws' := [oX11 h0 thrown (.ref q_tape) taped (.ref q_number) (v_isTold) (.ref q_name) (.ref q_sortOf) (.ref q_first) (.ref q_second) (.ref q_degree) (.ref q_colours) (.ref q_signBy) (.ref q_own) lines size atF_6 place_6 sort_6 value_6 fault_6 faultPlace_6 lastFault lastPlace (v_sF) (v_kept) undoable hasImage (v_power) (v_table) (v_marks) (v_row) rowOf areSums isSieved (v_lastOf) blocks (v_inBlock) (v_atQuotient) (v_small) drawn, aI Y q_number 8 number, aI Y q_tape 700 tape, aI Y q_name 24 name_1, aI Y q_sortOf 24 sortOf_1, aI Y q_first 24 first_2, aI Y q_second 24 second_2, aI Y q_degree 24 degree_3, aI Y q_colours 24 colours_5, aI Y q_signBy 24 signBy_3, aI Y q_own 288 own]) [7, 0, 8, 1, 2, 3, 4, 5, 10, 9, 6] rfl rfl ?_
                refine gG.locals (lv' := [(0, .ref h0), (2, .int x2_1)]) [0, 2] rfl ?_
                exact key_6 colours_5 signBy_3 atF_6 place_6 sort_6 value_6 fault_6 faultPlace_6 h
            have key_4 : J_4 → gG E 0 0 [oX11 h0 thrown (.ref q_tape) taped (.ref q_number) (v_isTold) (.ref q_name) (.ref q_sortOf) (.ref q_first) (.ref q_second) (.ref q_degree) (.ref q_colours) (.ref q_signBy) (.ref q_own) lines size atF_3 place_3 sort_3 value_3 fault_3 faultPlace_3 lastFault lastPlace (v_sF) (v_kept) undoable hasImage (v_power) (v_table) (v_marks) (v_row) rowOf areSums isSieved (v_lastOf) blocks (v_inBlock) (v_atQuotient) (v_small) drawn, aI Y q_number 8 number, aI Y q_tape 700 tape, aI Y q_name 24 name_1, aI Y q_sortOf 24 sortOf_1, aI Y q_first 24 first_2, aI Y q_second 24 second_1, aI Y q_degree 24 degree_2, aI Y q_colours 24 colours_2, aI Y q_signBy 24 signBy_1, aI Y q_own 288 own] [(0, .ref h0), (1, .int a1), (2, .int x2_1)] [] 157 := by
              intro  hJ
              have h := hB_J_4  hJ
              refine g_aload_n C dX11_readFunction_157 0 rfl ?_
              refine g_iload_n C dX11_readFunction_158 2 rfl ?_
              refine g_iload_n C dX11_readFunction_159 1 rfl ?_
              obtain ⟨P_7, hP, h⟩ := h
              refine g_callV (As := [.int x2_1, .int a1]) (rest := []) C (mX11_readSecond l D Y h0 thrown q_tape taped q_number v_isTold q_name (.ref q_sortOf) (.ref q_first) q_second q_degree q_colours (.ref q_signBy) (.ref q_own) lines size atF_3 place_3 sort_3 value_3 fault_3 faultPlace_3 lastFault lastPlace v_sF v_kept undoable hasImage v_power v_table v_marks v_row rowOf areSums isSieved v_lastOf blocks v_inBlock v_atQuotient v_small drawn number name_1 second_1 degree_2 colours_2 tape x2_1 a1 P_7 hP) dX11_readFunction_160 rfl wM_X11_180 wI_X11_readSecond wV_X11_readSecond wN_X11 wC_X11_readSecond (n := 2) (by decide +kernel) rfl (q0 := 0) rfl rfl ⟨Nat.le_of_ble_eq_true rfl, Nat.le_of_ble_eq_true rfl⟩ ⟨Nat.le_of_ble_eq_true rfl, Nat.le_of_ble_eq_true rfl⟩ (Nat.le_of_ble_eq_true rfl) [0, 1, 3, 6, 7, 8, 2] [4, 5, 9, 10] rfl rfl rfl (fun v wc hv => ?_)
              obtain ⟨atF_7, place_7, sort_7, value_7, fault_7, faultPlace_7, second_3, degree_4, colours_6, rfl, rfl, hq⟩ := hv
              replace h := h atF_7 place_7 sort_7 value_7 fault_7 faultPlace_7 second_3 degree_4 colours_6 hq
              refine gG.perm (ws' := [oX11 h0 thrown (.ref q_tape) taped (.ref q_number) (v_isTold) (.ref q_name) (.ref q_sortOf) (.ref q_first) (.ref q_second) (.ref q_degree) (.ref q_colours) (.ref q_signBy) (.ref q_own) lines size atF_7 place_7 sort_7 value_7 fault_7 faultPlace_7 lastFault lastPlace (v_sF) (v_kept) undoable hasImage (v_power) (v_table) (v_marks) (v_row) rowOf areSums isSieved (v_lastOf) blocks (v_inBlock) (v_atQuotient) (v_small) drawn, aI Y q_number 8 number, aI Y q_tape 700 tape, aI Y q_name 24 name_1, aI Y q_sortOf 24 sortOf_1, aI Y q_first 24 first_2, aI Y q_second 24 second_3, aI Y q_degree 24 degree_4, aI Y q_colours 24 colours_6, aI Y q_signBy 24 signBy_1, aI Y q_own 288 own]) [4, 5, 10, 6, 0, 1, 7, 8, 9, 2, 3] rfl rfl ?_
              exact key_5 colours_6 degree_4 second_3 atF_7 place_7 sort_7 value_7 fault_7 faultPlace_7 h
            replace h := hA
            refine g_icmp_eq (tgt := 157) C dX11_readFunction_149 (by decide) (fun c_5 => ?_) (fun c_5 => ?_)
            · replace h := h.1 c_5
              exact key_4 h
            · replace h := h.2 c_5
              refine g_iload_n C dX11_readFunction_152 1 rfl ?_
              refine g_iconst (v := 4) C dX11_readFunction_153 rfl ?_
              refine g_icmp_ne (tgt := 163) C dX11_readFunction_154 (by decide) (fun c_6 => ?_) (fun c_6 => ?_)
              · replace h := h.1 c_6
                exact key_5 colours_2 degree_2 second_1 atF_3 place_3 sort_3 value_3 fault_3 faultPlace_3 h
              · replace h := h.2 c_6
                exact key_4 h
          replace h := hA
          refine g_icmp_eq (tgt := 147) C dX11_readFunction_138 (by decide) (fun c_7 => ?_) (fun c_7 => ?_)
          · replace h := h.1 c_7
            exact key_3 colours_1 degree_1 first_1 atF_2 place_2 sort_2 value_2 fault_2 faultPlace_2 h
          · replace h := h.2 c_7
            refine g_aload_n C dX11_readFunction_141 0 rfl ?_
            refine g_iload_n C dX11_readFunction_142 2 rfl ?_
            refine g_iload_n C dX11_readFunction_143 1 rfl ?_
            obtain ⟨P_8, hP, h⟩ := h
            refine g_callV (As := [.int x2_1, .int a1]) (rest := []) C (mX11_readFirst l D Y h0 thrown q_tape taped q_number v_isTold q_name (.ref q_sortOf) q_first (.ref q_second) q_degree q_colours (.ref q_signBy) (.ref q_own) lines size atF_2 place_2 sort_2 value_2 fault_2 faultPlace_2 lastFault lastPlace v_sF v_kept undoable hasImage v_power v_table v_marks v_row rowOf areSums isSieved v_lastOf blocks v_inBlock v_atQuotient v_small drawn number name_1 first_1 degree_1 colours_1 tape x2_1 a1 P_8 hP) dX11_readFunction_144 rfl wM_X11_177 wI_X11_readFirst wV_X11_readFirst wN_X11 wC_X11_readFirst (n := 2) (by decide +kernel) rfl (q0 := 0) rfl rfl ⟨Nat.le_of_ble_eq_true rfl, Nat.le_of_ble_eq_true rfl⟩ ⟨Nat.le_of_ble_eq_true rfl, Nat.le_of_ble_eq_true rfl⟩ (Nat.le_of_ble_eq_true rfl) [0, 1, 3, 5, 7, 8, 2] [4, 6, 9, 10] rfl rfl rfl (fun v wc hv => ?_)
            obtain ⟨atF_8, place_8, sort_8, value_8, fault_8, faultPlace_8, first_3, degree_5, colours_7, rfl, rfl, hq⟩ := hv
            replace h := h atF_8 place_8 sort_8 value_8 fault_8 faultPlace_8 first_3 degree_5 colours_7 hq
            refine gG.perm (ws' := [oX11 h0 thrown (.ref q_tape) taped (.ref q_number) (v_isTold) (.ref q_name) (.ref q_sortOf) (.ref q_first) (.ref q_second) (.ref q_degree) (.ref q_colours) (.ref q_signBy) (.ref q_own) lines size atF_8 place_8 sort_8 value_8 fault_8 faultPlace_8 lastFault lastPlace (v_sF) (v_kept) undoable hasImage (v_power) (v_table) (v_marks) (v_row) rowOf areSums isSieved (v_lastOf) blocks (v_inBlock) (v_atQuotient) (v_small) drawn, aI Y q_number 8 number, aI Y q_tape 700 tape, aI Y q_name 24 name_1, aI Y q_sortOf 24 sortOf_1, aI Y q_first 24 first_3, aI Y q_second 24 second_1, aI Y q_degree 24 degree_5, aI Y q_colours 24 colours_7, aI Y q_signBy 24 signBy_1, aI Y q_own 288 own]) [4, 5, 10, 6, 0, 7, 1, 8, 9, 2, 3] rfl rfl ?_
            exact key_3 colours_7 degree_5 first_3 atF_8 place_8 sort_8 value_8 fault_8 faultPlace_8 h
        · replace h := h.2 c_2
          exact g_vret C hR (Nat.le_of_ble_eq_true rfl) (Nat.le_of_ble_eq_true rfl) dX11_readFunction_77 ⟨atF_1, place_1, sort_1, value_1, fault_2, faultPlace_2, number, name, sortOf, first, second, degree, colours, signBy, own, rfl, rfl, h⟩
      replace h := hA
      refine g_icmp_eq (tgt := 47) C dX11_readFunction_36 (by decide) (fun c_8 => ?_) (fun c_8 => ?_)
      · replace h := h.1 c_8
        refine g_aload_n C dX11_readFunction_47 0 rfl ?_
        refine g_bipush (v := 12) C dX11_readFunction_48 rfl ?_
        refine g_aload_n C dX11_readFunction_50 0 rfl ?_
        obtain ⟨P_9, hP, h⟩ := h
        refine g_callV (As := []) (rest := [.int 12, .ref h0]) C (mX11_functionsRead l D Y h0 thrown (.ref q_tape) taped q_number v_isTold (.ref q_name) (.ref q_sortOf) (.ref q_first) (.ref q_second) (.ref q_degree) (.ref q_colours) (.ref q_signBy) (.ref q_own) lines size atF_1 place_1 sort_1 value_1 fault_1 faultPlace_1 lastFault lastPlace v_sF v_kept undoable hasImage v_power v_table v_marks v_row rowOf areSums isSieved v_lastOf blocks v_inBlock v_atQuotient v_small drawn number P_9 hP) dX11_readFunction_51 rfl wM_X11_170 wI_X11_functionsRead wV_X11_functionsRead wN_X11 wC_X11_functionsRead (n := 0) (by decide +kernel) rfl (q0 := 0) rfl rfl ⟨Nat.le_of_ble_eq_true rfl, Nat.le_of_ble_eq_true rfl⟩ ⟨Nat.le_of_ble_eq_true rfl, Nat.le_of_ble_eq_true rfl⟩ (Nat.le_of_ble_eq_true rfl) [0, 1] [2, 3, 4, 5, 6, 7, 8, 9, 10] rfl rfl rfl (fun v wc hv => ?_)
        obtain ⟨rF_3, rfl, rfl, hq⟩ := hv
        replace h := h rF_3 hq
        refine gG.perm (ws' := [oX11 h0 thrown (.ref q_tape) taped (.ref q_number) (v_isTold) (.ref q_name) (.ref q_sortOf) (.ref q_first) (.ref q_second) (.ref q_degree) (.ref q_colours) (.ref q_signBy) (.ref q_own) lines size atF_1 place_1 sort_1 value_1 fault_1 faultPlace_1 lastFault lastPlace (v_sF) (v_kept) undoable hasImage (v_power) (v_table) (v_marks) (v_row) rowOf areSums isSieved (v_lastOf) blocks (v_inBlock) (v_atQuotient) (v_small) drawn, aI Y q_number 8 number, aI Y q_tape 700 tape, aI Y q_name 24 name, aI Y q_sortOf 24 sortOf, aI Y q_first 24 first, aI Y q_second 24 second, aI Y q_degree 24 degree, aI Y q_colours 24 colours, aI Y q_signBy 24 signBy, aI Y q_own 288 own]) [9, 10, 0, 1, 2, 3, 4, 5, 6, 7, 8] rfl rfl ?_
        refine g_aload_n C dX11_readFunction_54 0 rfl ?_
        refine g_get C inX11 0 rfl rfl 18 (by decide) wF_X11_118 rfl dX11_readFunction_55 ?_
        obtain ⟨P_10, hP, h⟩ := h
        refine g_callV (As := [.int 12, .int rF_3, .int value_1]) (rest := []) C (mX11_namedAt l D Y h0 thrown (.ref q_tape) taped (.ref q_number) v_isTold q_name (.ref q_sortOf) (.ref q_first) (.ref q_second) (.ref q_degree) (.ref q_colours) (.ref q_signBy) (.ref q_own) lines size atF_1 place_1 sort_1 value_1 fault_1 faultPlace_1 lastFault lastPlace v_sF v_kept undoable hasImage v_power v_table v_marks v_row rowOf areSums isSieved v_lastOf blocks v_inBlock v_atQuotient v_small drawn name 12 rF_3 value_1 P_10 hP) dX11_readFunction_58 rfl wM_X11_173 wI_X11_namedAt wV_X11_namedAt wN_X11 wC_X11_namedAt (n := 3) (by decide +kernel) rfl (q0 := 0) rfl rfl ⟨Nat.le_of_ble_eq_true rfl, Nat.le_of_ble_eq_true rfl⟩ ⟨Nat.le_of_ble_eq_true rfl, Nat.le_of_ble_eq_true rfl⟩ (Nat.le_of_ble_eq_true rfl) [0, 3] [1, 2, 4, 5, 6, 7, 8, 9, 10] rfl rfl rfl (fun v wc hv => ?_)
        obtain ⟨rF_4, rfl, rfl, hq⟩ := hv
        replace h := h rF_4 hq
        refine gG.perm (ws' := [oX11 h0 thrown (.ref q_tape) taped (.ref q_number) (v_isTold) (.ref q_name) (.ref q_sortOf) (.ref q_first) (.ref q_second) (.ref q_degree) (.ref q_colours) (.ref q_signBy) (.ref q_own) lines size atF_1 place_1 sort_1 value_1 fault_1 faultPlace_1 lastFault lastPlace (v_sF) (v_kept) undoable hasImage (v_power) (v_table) (v_marks) (v_row) rowOf areSums isSieved (v_lastOf) blocks (v_inBlock) (v_atQuotient) (v_small) drawn, aI Y q_number 8 number, aI Y q_tape 700 tape, aI Y q_name 24 name, aI Y q_sortOf 24 sortOf, aI Y q_first 24 first, aI Y q_second 24 second, aI Y q_degree 24 degree, aI Y q_colours 24 colours, aI Y q_signBy 24 signBy, aI Y q_own 288 own]) [9, 0, 1, 10, 2, 3, 4, 5, 6, 7, 8] rfl rfl ?_
        refine g_iconst (v := (-1)) C dX11_readFunction_61 rfl ?_
        refine g_icmp_eq (tgt := 70) C dX11_readFunction_62 (by decide) (fun c_9 => ?_) (fun c_9 => ?_)
        · replace h := h.1 c_9
          exact key_2 fault_1 faultPlace_1 h
        · replace h := h.2 c_9
          refine g_aload_n C dX11_readFunction_65 0 rfl ?_
          refine g_iconst (v := 3) C dX11_readFunction_66 rfl ?_
          obtain ⟨P_11, hP, h⟩ := h
          refine g_callV (As := [.int 3]) (rest := []) C (mX11_wrong l D Y h0 thrown (.ref q_tape) taped (.ref q_number) v_isTold (.ref q_name) (.ref q_sortOf) (.ref q_first) (.ref q_second) (.ref q_degree) (.ref q_colours) (.ref q_signBy) (.ref q_own) lines size atF_1 place_1 sort_1 value_1 fault_1 faultPlace_1 lastFault lastPlace v_sF v_kept undoable hasImage v_power v_table v_marks v_row rowOf areSums isSieved v_lastOf blocks v_inBlock v_atQuotient v_small drawn 3 P_11 hP) dX11_readFunction_67 rfl wM_X11_151 wI_X11_wrong wV_X11_wrong wN_X11 wC_X11_wrong (n := 1) (by decide +kernel) rfl (q0 := 0) rfl rfl ⟨Nat.le_of_ble_eq_true rfl, Nat.le_of_ble_eq_true rfl⟩ ⟨Nat.le_of_ble_eq_true rfl, Nat.le_of_ble_eq_true rfl⟩ (Nat.le_of_ble_eq_true rfl) [0] [1, 2, 3, 4, 5, 6, 7, 8, 9, 10] rfl rfl rfl (fun v wc hv => ?_)
          obtain ⟨fault_9, faultPlace_9, rfl, rfl, hq⟩ := hv
          replace h := h fault_9 faultPlace_9 hq
          refine gG.perm (ws' := [oX11 h0 thrown (.ref q_tape) taped (.ref q_number) (v_isTold) (.ref q_name) (.ref q_sortOf) (.ref q_first) (.ref q_second) (.ref q_degree) (.ref q_colours) (.ref q_signBy) (.ref q_own) lines size atF_1 place_1 sort_1 value_1 fault_9 faultPlace_9 lastFault lastPlace (v_sF) (v_kept) undoable hasImage (v_power) (v_table) (v_marks) (v_row) rowOf areSums isSieved (v_lastOf) blocks (v_inBlock) (v_atQuotient) (v_small) drawn, aI Y q_number 8 number, aI Y q_tape 700 tape, aI Y q_name 24 name, aI Y q_sortOf 24 sortOf, aI Y q_first 24 first, aI Y q_second 24 second, aI Y q_degree 24 degree, aI Y q_colours 24 colours, aI Y q_signBy 24 signBy, aI Y q_own 288 own]) [10, 0, 1, 2, 3, 4, 5, 6, 7, 8, 9] rfl rfl ?_
          exact key_2 fault_9 faultPlace_9 h
      · replace h := h.2 c_8
        refine g_aload_n C dX11_readFunction_39 0 rfl ?_
        refine g_iconst (v := 1) C dX11_readFunction_40 rfl ?_
        obtain ⟨P_12, hP, h⟩ := h
        refine g_callV (As := [.int 1]) (rest := []) C (mX11_wrong l D Y h0 thrown (.ref q_tape) taped (.ref q_number) v_isTold (.ref q_name) (.ref q_sortOf) (.ref q_first) (.ref q_second) (.ref q_degree) (.ref q_colours) (.ref q_signBy) (.ref q_own) lines size atF_1 place_1 sort_1 value_1 fault_1 faultPlace_1 lastFault lastPlace v_sF v_kept undoable hasImage v_power v_table v_marks v_row rowOf areSums isSieved v_lastOf blocks v_inBlock v_atQuotient v_small drawn 1 P_12 hP) dX11_readFunction_41 rfl wM_X11_151 wI_X11_wrong wV_X11_wrong wN_X11 wC_X11_wrong (n := 1) (by decide +kernel) rfl (q0 := 0) rfl rfl ⟨Nat.le_of_ble_eq_true rfl, Nat.le_of_ble_eq_true rfl⟩ ⟨Nat.le_of_ble_eq_true rfl, Nat.le_of_ble_eq_true rfl⟩ (Nat.le_of_ble_eq_true rfl) [0] [1, 2, 3, 4, 5, 6, 7, 8, 9, 10] rfl rfl rfl (fun v wc hv => ?_)
        obtain ⟨fault_10, faultPlace_10, rfl, rfl, hq⟩ := hv
        replace h := h fault_10 faultPlace_10 hq
        refine gG.perm (ws' := [oX11 h0 thrown (.ref q_tape) taped (.ref q_number) (v_isTold) (.ref q_name) (.ref q_sortOf) (.ref q_first) (.ref q_second) (.ref q_degree) (.ref q_colours) (.ref q_signBy) (.ref q_own) lines size atF_1 place_1 sort_1 value_1 fault_10 faultPlace_10 lastFault lastPlace (v_sF) (v_kept) undoable hasImage (v_power) (v_table) (v_marks) (v_row) rowOf areSums isSieved (v_lastOf) blocks (v_inBlock) (v_atQuotient) (v_small) drawn, aI Y q_number 8 number, aI Y q_tape 700 tape, aI Y q_name 24 name, aI Y q_sortOf 24 sortOf, aI Y q_first 24 first, aI Y q_second 24 second, aI Y q_degree 24 degree, aI Y q_colours 24 colours, aI Y q_signBy 24 signBy, aI Y q_own 288 own]) [10, 0, 1, 2, 3, 4, 5, 6, 7, 8, 9] rfl rfl ?_
        refine g_goto (tgt := 70) C dX11_readFunction_44 (by decide) ?_
        exact key_2 fault_10 faultPlace_10 h
    · replace h := h.2 c_1
      exact g_vret C hR (Nat.le_of_ble_eq_true rfl) (Nat.le_of_ble_eq_true rfl) dX11_readFunction_30 ⟨atF_1, place_1, sort_1, value_1, fault_1, faultPlace_1, number, name, sortOf, first, second, degree, colours, signBy, own, rfl, rfl, h⟩
  replace h := hA
  refine g_icmp_ne (tgt := 19) C dX11_readFunction_11 (by decide) (fun c_10 => ?_) (fun c_10 => ?_)
  · replace h := h.1 c_10
    refine gG.locals (lv' := [(0, .ref h0), (1, .int a1), (2, .int x2_1)]) [1, 2, 0] rfl ?_
    exact key_1 fault faultPlace h
  · replace h := h.2 c_10
    refine g_aload_n C dX11_readFunction_14 1 rfl ?_
    refine g_iconst (v := 2) C dX11_readFunction_15 rfl ?_
    obtain ⟨P_13, hP, h⟩ := h
    refine g_callV (As := [.int 2]) (rest := []) C (mX11_wrong l D Y h0 thrown (.ref q_tape) taped (.ref q_number) v_isTold (.ref q_name) (.ref q_sortOf) (.ref q_first) (.ref q_second) (.ref q_degree) (.ref q_colours) (.ref q_signBy) (.ref q_own) lines size atF place sort value fault faultPlace lastFault lastPlace v_sF v_kept undoable hasImage v_power v_table v_marks v_row rowOf areSums isSieved v_lastOf blocks v_inBlock v_atQuotient v_small drawn 2 P_13 hP) dX11_readFunction_16 rfl wM_X11_151 wI_X11_wrong wV_X11_wrong wN_X11 wC_X11_wrong (n := 1) (by decide +kernel) rfl (q0 := 0) rfl rfl ⟨Nat.le_of_ble_eq_true rfl, Nat.le_of_ble_eq_true rfl⟩ ⟨Nat.le_of_ble_eq_true rfl, Nat.le_of_ble_eq_true rfl⟩ (Nat.le_of_ble_eq_true rfl) [0] [1, 2, 3, 4, 5, 6, 7, 8, 9, 10] rfl rfl rfl (fun v wc hv => ?_)
    obtain ⟨fault_11, faultPlace_11, rfl, rfl, hq⟩ := hv
    replace h := h fault_11 faultPlace_11 hq
    refine gG.perm (ws' := [oX11 h0 thrown (.ref q_tape) taped (.ref q_number) (v_isTold) (.ref q_name) (.ref q_sortOf) (.ref q_first) (.ref q_second) (.ref q_degree) (.ref q_colours) (.ref q_signBy) (.ref q_own) lines size atF place sort value fault_11 faultPlace_11 lastFault lastPlace (v_sF) (v_kept) undoable hasImage (v_power) (v_table) (v_marks) (v_row) rowOf areSums isSieved (v_lastOf) blocks (v_inBlock) (v_atQuotient) (v_small) drawn, aI Y q_number 8 number, aI Y q_tape 700 tape, aI Y q_name 24 name, aI Y q_sortOf 24 sortOf, aI Y q_first 24 first, aI Y q_second 24 second, aI Y q_degree 24 degree, aI Y q_colours 24 colours, aI Y q_signBy 24 signBy, aI Y q_own 288 own]) [10, 0, 1, 2, 3, 4, 5, 6, 7, 8, 9] rfl rfl ?_
    refine gG.locals (lv' := [(0, .ref h0), (1, .int a1), (2, .int x2_1)]) [1, 2, 0] rfl ?_
    exact key_1 fault_11 faultPlace_11 h
theorem dX11_readAt_0 : decode cX11_readAt 0 = .ok (.aload_n 0, 1) := by decide +kernel
theorem dX11_readAt_1 : decode cX11_readAt 1 = .ok (.invokevirtual 155, 3) := by decide +kernel
theorem dX11_readAt_4 : decode cX11_readAt 4 = .ok (.aload_n 0, 1) := by decide +kernel
theorem dX11_readAt_5 : decode cX11_readAt 5 = .ok (.invokevirtual 186, 3) := by decide +kernel
theorem dX11_readAt_8 : decode cX11_readAt 8 = .ok (.istore_n 1, 1) := by decide +kernel
theorem dX11_readAt_9 : decode cX11_readAt 9 = .ok (.aload_n 0, 1) := by decide +kernel
theorem dX11_readAt_10 : decode cX11_readAt 10 = .ok (.getfield 142, 3) := by decide +kernel
theorem dX11_readAt_13 : decode cX11_readAt 13 = .ok (.ifCond .ne 21, 3) := by decide +kernel
theorem dX11_readAt_16 : decode cX11_readAt 16 = .ok (.aload_n 0, 1) := by decide +kernel
theorem dX11_readAt_17 : decode cX11_readAt 17 = .ok (.getfield 23, 3) := by decide +kernel
theorem dX11_readAt_20 : decode cX11_readAt 20 = .ok (.bipush 12, 2) := by decide +kernel
theorem dX11_readAt_22 : decode cX11_readAt 22 = .ok (.iload_n 1, 1) := by decide +kernel
theorem dX11_readAt_23 : decode cX11_readAt 23 = .ok (.iadd, 1) := by decide +kernel
theorem dX11_readAt_24 : decode cX11_readAt 24 = .ok (.iaload, 1) := by decide +kernel
theorem dX11_readAt_25 : decode cX11_readAt 25 = .ok (.iconst 1, 1) := by decide +kernel
theorem dX11_readAt_26 : decode cX11_readAt 26 = .ok (.if_icmp .eq 8, 3) := by decide +kernel
theorem dX11_readAt_29 : decode cX11_readAt 29 = .ok (.aload_n 0, 1) := by decide +kernel
theorem dX11_readAt_30 : decode cX11_readAt 30 = .ok (.iconst 4, 1) := by decide +kernel
theorem dX11_readAt_31 : decode cX11_readAt 31 = .ok (.invokevirtual 151, 3) := by decide +kernel
theorem dX11_readAt_34 : decode cX11_readAt 34 = .ok (.aload_n 0, 1) := by decide +kernel
theorem dX11_readAt_35 : decode cX11_readAt 35 = .ok (.invokevirtual 155, 3) := by decide +kernel
theorem dX11_readAt_38 : decode cX11_readAt 38 = .ok (.aload_n 0, 1) := by decide +kernel
theorem dX11_readAt_39 : decode cX11_readAt 39 = .ok (.iconst 0, 1) := by decide +kernel
theorem dX11_readAt_40 : decode cX11_readAt 40 = .ok (.iconst 1, 1) := by decide +kernel
theorem dX11_readAt_41 : decode cX11_readAt 41 = .ok (.bipush 6, 2) := by decide +kernel
theorem dX11_readAt_43 : decode cX11_readAt 43 = .ok (.invokevirtual 158, 3) := by decide +kernel
theorem dX11_readAt_46 : decode cX11_readAt 46 = .ok (.istore_n 2, 1) := by decide +kernel
theorem dX11_readAt_47 : decode cX11_readAt 47 = .ok (.aload_n 0, 1) := by decide +kernel
theorem dX11_readAt_48 : decode cX11_readAt 48 = .ok (.iconst 1, 1) := by decide +kernel
theorem dX11_readAt_49 : decode cX11_readAt 49 = .ok (.sipush (-999), 3) := by decide +kernel
theorem dX11_readAt_52 : decode cX11_readAt 52 = .ok (.sipush 999, 3) := by decide +kernel
theorem dX11_readAt_55 : decode cX11_readAt 55 = .ok (.invokevirtual 158, 3) := by decide +kernel
theorem dX11_readAt_58 : decode cX11_readAt 58 = .ok (.istore_n 3, 1) := by decide +kernel
theorem dX11_readAt_59 : decode cX11_readAt 59 = .ok (.aload_n 0, 1) := by decide +kernel
theorem dX11_readAt_60 : decode cX11_readAt 60 = .ok (.iconst 1, 1) := by decide +kernel
theorem dX11_readAt_61 : decode cX11_readAt 61 = .ok (.sipush (-999), 3) := by decide +kernel
theorem dX11_readAt_64 : decode cX11_readAt 64 = .ok (.sipush 999, 3) := by decide +kernel
theorem dX11_readAt_67 : decode cX11_readAt 67 = .ok (.invokevirtual 158, 3) := by decide +kernel
theorem dX11_readAt_70 : decode cX11_readAt 70 = .ok (.istore 4, 2) := by decide +kernel
theorem dX11_readAt_72 : decode cX11_readAt 72 = .ok (.aload_n 0, 1) := by decide +kernel
theorem dX11_readAt_73 : decode cX11_readAt 73 = .ok (.getfield 142, 3) := by decide +kernel
theorem dX11_readAt_76 : decode cX11_readAt 76 = .ok (.ifCond .eq 4, 3) := by decide +kernel
theorem dX11_readAt_79 : decode cX11_readAt 79 = .ok (.return_, 1) := by decide +kernel
theorem dX11_readAt_80 : decode cX11_readAt 80 = .ok (.aload_n 0, 1) := by decide +kernel
theorem dX11_readAt_81 : decode cX11_readAt 81 = .ok (.getfield 41, 3) := by decide +kernel
theorem dX11_readAt_84 : decode cX11_readAt 84 = .ok (.bipush 12, 2) := by decide +kernel
theorem dX11_readAt_86 : decode cX11_readAt 86 = .ok (.bipush 12, 2) := by decide +kernel
theorem dX11_readAt_88 : decode cX11_readAt 88 = .ok (.iload_n 1, 1) := by decide +kernel
theorem dX11_readAt_89 : decode cX11_readAt 89 = .ok (.iadd, 1) := by decide +kernel
theorem dX11_readAt_90 : decode cX11_readAt 90 = .ok (.imul, 1) := by decide +kernel
theorem dX11_readAt_91 : decode cX11_readAt 91 = .ok (.iconst 2, 1) := by decide +kernel
theorem dX11_readAt_92 : decode cX11_readAt 92 = .ok (.iload_n 2, 1) := by decide +kernel
theorem dX11_readAt_93 : decode cX11_readAt 93 = .ok (.imul, 1) := by decide +kernel
theorem dX11_readAt_94 : decode cX11_readAt 94 = .ok (.iadd, 1) := by decide +kernel
theorem dX11_readAt_95 : decode cX11_readAt 95 = .ok (.iconst 2, 1) := by decide +kernel
theorem dX11_readAt_96 : decode cX11_readAt 96 = .ok (.isub, 1) := by decide +kernel
theorem dX11_readAt_97 : decode cX11_readAt 97 = .ok (.iload_n 3, 1) := by decide +kernel
theorem dX11_readAt_98 : decode cX11_readAt 98 = .ok (.iastore, 1) := by decide +kernel
theorem dX11_readAt_99 : decode cX11_readAt 99 = .ok (.aload_n 0, 1) := by decide +kernel
theorem dX11_readAt_100 : decode cX11_readAt 100 = .ok (.getfield 41, 3) := by decide +kernel
theorem dX11_readAt_103 : decode cX11_readAt 103 = .ok (.bipush 12, 2) := by decide +kernel
theorem dX11_readAt_105 : decode cX11_readAt 105 = .ok (.bipush 12, 2) := by decide +kernel
theorem dX11_readAt_107 : decode cX11_readAt 107 = .ok (.iload_n 1, 1) := by decide +kernel
theorem dX11_readAt_108 : decode cX11_readAt 108 = .ok (.iadd, 1) := by decide +kernel
theorem dX11_readAt_109 : decode cX11_readAt 109 = .ok (.imul, 1) := by decide +kernel
theorem dX11_readAt_110 : decode cX11_readAt 110 = .ok (.iconst 2, 1) := by decide +kernel
theorem dX11_readAt_111 : decode cX11_readAt 111 = .ok (.iload_n 2, 1) := by decide +kernel
theorem dX11_readAt_112 : decode cX11_readAt 112 = .ok (.imul, 1) := by decide +kernel
theorem dX11_readAt_113 : decode cX11_readAt 113 = .ok (.iadd, 1) := by decide +kernel
theorem dX11_readAt_114 : decode cX11_readAt 114 = .ok (.iconst 1, 1) := by decide +kernel
theorem dX11_readAt_115 : decode cX11_readAt 115 = .ok (.isub, 1) := by decide +kernel
theorem dX11_readAt_116 : decode cX11_readAt 116 = .ok (.iload 4, 2) := by decide +kernel
theorem dX11_readAt_118 : decode cX11_readAt 118 = .ok (.iastore, 1) := by decide +kernel
theorem dX11_readAt_119 : decode cX11_readAt 119 = .ok (.return_, 1) := by decide +kernel
/-- QuotientSumsModel.readAt()V -/
def wX11_readAt (thrown : Int32) (taped : Int32) (lines : Int32) (size : Int32) (atF : Int32) (place : Int32) (sort : Int32) (value : Int32) (fault : Int32) (faultPlace : Int32) (lastFault : Int32) (lastPlace : Int32) (undoable : Int32) (hasImage : Int32) (rowOf : Int32) (areSums : Int32) (isSieved : Int32) (blocks : Int32) (drawn : Int32) (tape : Nat → Int32) (number : Nat → Int32) (name : Nat → Int32) (sortOf : Nat → Int32) (own : Nat → Int32)  (Q : (Int32) → (Int32) → (Int32) → (Int32) → (Int32) → (Int32) → (Nat → Int32) → Prop) : Prop :=
  (∃ (P_1 : (Int32) → (Int32) → (Int32) → (Int32) → Prop), wX11_goOn thrown taped lines size atF place sort value fault faultPlace lastFault lastPlace undoable hasImage rowOf areSums isSieved blocks drawn tape P_1 ∧ ∀ (atF_1 : Int32) (place_1 : Int32) (sort_1 : Int32) (value_1 : Int32), P_1 atF_1 place_1 sort_1 value_1 → ∃ (P_2 : (Int32) → (Int32) → (Int32) → Prop), wX11_functionHere thrown taped lines size atF_1 place_1 sort_1 value_1 fault faultPlace lastFault lastPlace undoable hasImage rowOf areSums isSieved blocks drawn number name P_2 ∧ ∀ (rF_1 : Int32) (fault_1 : Int32) (faultPlace_1 : Int32), P_2 rF_1 fault_1 faultPlace_1 → (∃ (J_1 : (Int32) → (Int32) → Prop), ((¬ fault_1 = 0 → (J_1 fault_1 faultPlace_1)) ∧ (fault_1 = 0 → (vp_in (12 + rF_1) 24 ∧ (((sortOf (12 + rF_1).toNatClampNeg) = 1 → (J_1 fault_1 faultPlace_1)) ∧ (¬ (sortOf (12 + rF_1).toNatClampNeg) = 1 → (∃ (P_7 : (Int32) → (Int32) → Prop), wX11_wrong thrown taped lines size atF_1 place_1 sort_1 value_1 fault_1 faultPlace_1 lastFault lastPlace undoable hasImage rowOf areSums isSieved blocks drawn 4 P_7 ∧ ∀ (fault_6 : Int32) (faultPlace_6 : Int32), P_7 fault_6 faultPlace_6 → (J_1 fault_6 faultPlace_6))))))) ∧ (∀ (fault_2 : Int32) (faultPlace_2 : Int32), J_1 fault_2 faultPlace_2 → (∃ (P_3 : (Int32) → (Int32) → (Int32) → (Int32) → Prop), wX11_goOn thrown taped lines size atF_1 place_1 sort_1 value_1 fault_2 faultPlace_2 lastFault lastPlace undoable hasImage rowOf areSums isSieved blocks drawn tape P_3 ∧ ∀ (atF_2 : Int32) (place_2 : Int32) (sort_2 : Int32) (value_2 : Int32), P_3 atF_2 place_2 sort_2 value_2 → ∃ (P_4 : (Int32) → (Int32) → (Int32) → (Int32) → (Int32) → (Int32) → (Int32) → Prop), wX11_numeralOf thrown taped lines size atF_2 place_2 sort_2 value_2 fault_2 faultPlace_2 lastFault lastPlace undoable hasImage rowOf areSums isSieved blocks drawn tape 0 1 6 P_4 ∧ ∀ (rF_2 : Int32) (atF_3 : Int32) (place_3 : Int32) (sort_3 : Int32) (value_3 : Int32) (fault_3 : Int32) (faultPlace_3 : Int32), P_4 rF_2 atF_3 place_3 sort_3 value_3 fault_3 faultPlace_3 → ∃ (P_5 : (Int32) → (Int32) → (Int32) → (Int32) → (Int32) → (Int32) → (Int32) → Prop), wX11_numeralOf thrown taped lines size atF_3 place_3 sort_3 value_3 fault_3 faultPlace_3 lastFault lastPlace undoable hasImage rowOf areSums isSieved blocks drawn tape 1 (-999) 999 P_5 ∧ ∀ (rF_3 : Int32) (atF_4 : Int32) (place_4 : Int32) (sort_4 : Int32) (value_4 : Int32) (fault_4 : Int32) (faultPlace_4 : Int32), P_5 rF_3 atF_4 place_4 sort_4 value_4 fault_4 faultPlace_4 → ∃ (P_6 : (Int32) → (Int32) → (Int32) → (Int32) → (Int32) → (Int32) → (Int32) → Prop), wX11_numeralOf thrown taped lines size atF_4 place_4 sort_4 value_4 fault_4 faultPlace_4 lastFault lastPlace undoable hasImage rowOf areSums isSieved blocks drawn tape 1 (-999) 999 P_6 ∧ ∀ (rF_4 : Int32) (atF_5 : Int32) (place_5 : Int32) (sort_5 : Int32) (value_5 : Int32) (fault_5 : Int32) (faultPlace_5 : Int32), P_6 rF_4 atF_5 place_5 sort_5 value_5 fault_5 faultPlace_5 → ((fault_5 = 0 → (vp_in (((12 * (12 + rF_1)) + (2 * rF_2)) - 2) 288 ∧ ∀ own_1 : Nat → Int32, own_1 = upd own (((12 * (12 + rF_1)) + (2 * rF_2)) - 2).toNatClampNeg rF_3 → vp_in (((12 * (12 + rF_1)) + (2 * rF_2)) - 1) 288 ∧ ∀ own_2 : Nat → Int32, own_2 = upd own_1 (((12 * (12 + rF_1)) + (2 * rF_2)) - 1).toNatClampNeg rF_4 → (Q atF_5 place_5 sort_5 value_5 fault_5 faultPlace_5 own_2))) ∧ (¬ fault_5 = 0 → (Q atF_5 place_5 sort_5 value_5 fault_5 faultPlace_5 own)))))))
set_option maxHeartbeats 4000000 in
set_option maxRecDepth 100000 in
theorem mX11_readAt (l : Launch) (D : va_G) (Y : Nat → ClassId) (h0 : Nat) (thrown : Int32) (q_tape : Nat) (taped : Int32) (q_number : Nat) (v_isTold : Value) (q_name : Nat) (q_sortOf : Nat) (v_first : Value) (v_second : Value) (v_degree : Value) (v_colours : Value) (v_signBy : Value) (q_own : Nat) (lines : Int32) (size : Int32) (atF : Int32) (place : Int32) (sort : Int32) (value : Int32) (fault : Int32) (faultPlace : Int32) (lastFault : Int32) (lastPlace : Int32) (v_sF : Value) (v_kept : Value) (undoable : Int32) (hasImage : Int32) (v_power : Value) (v_table : Value) (v_marks : Value) (v_row : Value) (rowOf : Int32) (areSums : Int32) (isSieved : Int32) (v_lastOf : Value) (blocks : Int32) (v_inBlock : Value) (v_atQuotient : Value) (v_small : Value) (drawn : Int32) (tape : Nat → Int32) (number : Nat → Int32) (name : Nat → Int32) (sortOf : Nat → Int32) (own : Nat → Int32)  (Q : (Int32) → (Int32) → (Int32) → (Int32) → (Int32) → (Int32) → (Nat → Int32) → Prop) (h : wX11_readAt thrown taped lines size atF place sort value fault faultPlace lastFault lastPlace undoable hasImage rowOf areSums isSieved blocks drawn tape number name sortOf own Q) : gM l D Y yX11_readAt cX11_readAt 5 none 8 173 0 0 [.ref h0] [oX11 h0 thrown (.ref q_tape) taped (.ref q_number) (v_isTold) (.ref q_name) (.ref q_sortOf) (v_first) (v_second) (v_degree) (v_colours) (v_signBy) (.ref q_own) lines size atF place sort value fault faultPlace lastFault lastPlace (v_sF) (v_kept) undoable hasImage (v_power) (v_table) (v_marks) (v_row) rowOf areSums isSieved (v_lastOf) blocks (v_inBlock) (v_atQuotient) (v_small) drawn, aI Y q_tape 700 tape, aI Y q_number 8 number, aI Y q_name 24 name, aI Y q_sortOf 24 sortOf, aI Y q_own 288 own] (fun v w => ∃ atF' : Int32, ∃ place' : Int32, ∃ sort' : Int32, ∃ value' : Int32, ∃ fault' : Int32, ∃ faultPlace' : Int32, ∃ own' : Nat → Int32, v = none ∧ w = [oX11 h0 thrown (.ref q_tape) taped (.ref q_number) (v_isTold) (.ref q_name) (.ref q_sortOf) (v_first) (v_second) (v_degree) (v_colours) (v_signBy) (.ref q_own) lines size atF' place' sort' value' fault' faultPlace' lastFault lastPlace (v_sF) (v_kept) undoable hasImage (v_power) (v_table) (v_marks) (v_row) rowOf areSums isSieved (v_lastOf) blocks (v_inBlock) (v_atQuotient) (v_small) drawn, aI Y q_tape 700 tape, aI Y q_number 8 number, aI Y q_name 24 name, aI Y q_sortOf 24 sortOf, aI Y q_own 288 own'] ∧ Q atF' place' sort' value' fault' faultPlace' own') := by
  refine gM_of (own := RX11) (by decide +kernel) rfl (Nat.le_of_ble_eq_true rfl) rfl (fun E C hR => ?_)
  unfold wX11_readAt at h
  refine g_aload_n C dX11_readAt_0 0 rfl ?_
  obtain ⟨P_1, hP, h⟩ := h
  refine g_callV (As := []) (rest := []) C (mX11_goOn l D Y h0 thrown q_tape taped (.ref q_number) v_isTold (.ref q_name) (.ref q_sortOf) v_first v_second v_degree v_colours v_signBy (.ref q_own) lines size atF place sort value fault faultPlace lastFault lastPlace v_sF v_kept undoable hasImage v_power v_table v_marks v_row rowOf areSums isSieved v_lastOf blocks v_inBlock v_atQuotient v_small drawn tape P_1 hP) dX11_readAt_1 rfl wM_X11_155 wI_X11_goOn wV_X11_goOn wN_X11 wC_X11_goOn (n := 0) (by decide +kernel) rfl (q0 := 0) rfl rfl ⟨Nat.le_of_ble_eq_true rfl, Nat.le_of_ble_eq_true rfl⟩ ⟨Nat.le_of_ble_eq_true rfl, Nat.le_of_ble_eq_true rfl⟩ (Nat.le_of_ble_eq_true rfl) [0, 1] [2, 3, 4, 5] rfl rfl rfl (fun v wc hv => ?_)
  obtain ⟨atF_1, place_1, sort_1, value_1, rfl, rfl, hq⟩ := hv
  replace h := h atF_1 place_1 sort_1 value_1 hq
  refine gG.perm (ws' := [oX11 h0 thrown (.ref q_tape) taped (.ref q_number) (v_isTold) (.ref q_name) (.ref q_sortOf) (v_first) (v_second) (v_degree) (v_colours) (v_signBy) (.ref q_own) lines size atF_1 place_1 sort_1 value_1 fault faultPlace lastFault lastPlace (v_sF) (v_kept) undoable hasImage (v_power) (v_table) (v_marks) (v_row) rowOf areSums isSieved (v_lastOf) blocks (v_inBlock) (v_atQuotient) (v_small) drawn, aI Y q_tape 700 tape, aI Y q_number 8 number, aI Y q_name 24 name, aI Y q_sortOf 24 sortOf, aI Y q_own 288 own]) [4, 5, 0, 1, 2, 3] rfl rfl ?_
  refine g_aload_n C dX11_readAt_4 0 rfl ?_
  obtain ⟨P_2, hP, h⟩ := h
  refine g_callV (As := []) (rest := []) C (mX11_functionHere l D Y h0 thrown (.ref q_tape) taped q_number v_isTold q_name (.ref q_sortOf) v_first v_second v_degree v_colours v_signBy (.ref q_own) lines size atF_1 place_1 sort_1 value_1 fault faultPlace lastFault lastPlace v_sF v_kept undoable hasImage v_power v_table v_marks v_row rowOf areSums isSieved v_lastOf blocks v_inBlock v_atQuotient v_small drawn number name P_2 hP) dX11_readAt_5 rfl wM_X11_186 wI_X11_functionHere wV_X11_functionHere wN_X11 wC_X11_functionHere (n := 0) (by decide +kernel) rfl (q0 := 0) rfl rfl ⟨Nat.le_of_ble_eq_true rfl, Nat.le_of_ble_eq_true rfl⟩ ⟨Nat.le_of_ble_eq_true rfl, Nat.le_of_ble_eq_true rfl⟩ (Nat.le_of_ble_eq_true rfl) [0, 2, 3] [1, 4, 5] rfl rfl rfl (fun v wc hv => ?_)
  obtain ⟨rF_1, fault_1, faultPlace_1, rfl, rfl, hq⟩ := hv
  replace h := h rF_1 fault_1 faultPlace_1 hq
  refine gG.perm (ws' := [oX11 h0 thrown (.ref q_tape) taped (.ref q_number) (v_isTold) (.ref q_name) (.ref q_sortOf) (v_first) (v_second) (v_degree) (v_colours) (v_signBy) (.ref q_own) lines size atF_1 place_1 sort_1 value_1 fault_1 faultPlace_1 lastFault lastPlace (v_sF) (v_kept) undoable hasImage (v_power) (v_table) (v_marks) (v_row) rowOf areSums isSieved (v_lastOf) blocks (v_inBlock) (v_atQuotient) (v_small) drawn, aI Y q_tape 700 tape, aI Y q_number 8 number, aI Y q_name 24 name, aI Y q_sortOf 24 sortOf, aI Y q_own 288 own]) [3, 0, 4, 5, 1, 2] rfl rfl ?_
  refine g_istore_n (lv' := [(1, .int rF_1), (0, .ref h0)]) C dX11_readAt_8 (by decide) rfl ?_
  refine g_aload_n C dX11_readAt_9 1 rfl ?_
  refine g_get C inX11 0 rfl rfl 19 (by decide) wF_X11_142 rfl dX11_readAt_10 ?_
  obtain ⟨J_1, hA, hB_J_1⟩ := h
  have key_1 : ∀ (fault_2 : Int32) (faultPlace_2 : Int32), J_1 fault_2 faultPlace_2 → gG E 0 0 [oX11 h0 thrown (.ref q_tape) taped (.ref q_number) (v_isTold) (.ref q_name) (.ref q_sortOf) (v_first) (v_second) (v_degree) (v_colours) (v_signBy) (.ref q_own) lines size atF_1 place_1 sort_1 value_1 fault_2 faultPlace_2 lastFault lastPlace (v_sF) (v_kept) undoable hasImage (v_power) (v_table) (v_marks) (v_row) rowOf areSums isSieved (v_lastOf) blocks (v_inBlock) (v_atQuotient) (v_small) drawn, aI Y q_tape 700 tape, aI Y q_number 8 number, aI Y q_name 24 name, aI Y q_sortOf 24 sortOf, aI Y q_own 288 own] [(0, .ref h0), (1, .int rF_1)] [] 34 := by
    intro fault_2 faultPlace_2 hJ
    have h := hB_J_1 fault_2 faultPlace_2 hJ
    refine g_aload_n C dX11_readAt_34 0 rfl ?_
    obtain ⟨P_3, hP, h⟩ := h
    refine g_callV (As := []) (rest := []) C (mX11_goOn l D Y h0 thrown q_tape taped (.ref q_number) v_isTold (.ref q_name) (.ref q_sortOf) v_first v_second v_degree v_colours v_signBy (.ref q_own) lines size atF_1 place_1 sort_1 value_1 fault_2 faultPlace_2 lastFault lastPlace v_sF v_kept undoable hasImage v_power v_table v_marks v_row rowOf areSums isSieved v_lastOf blocks v_inBlock v_atQuotient v_small drawn tape P_3 hP) dX11_readAt_35 rfl wM_X11_155 wI_X11_goOn wV_X11_goOn wN_X11 wC_X11_goOn (n := 0) (by decide +kernel) rfl (q0 := 0) rfl rfl ⟨Nat.le_of_ble_eq_true rfl, Nat.le_of_ble_eq_true rfl⟩ ⟨Nat.le_of_ble_eq_true rfl, Nat.le_of_ble_eq_true rfl⟩ (Nat.le_of_ble_eq_true rfl) [0, 1] [2, 3, 4, 5] rfl rfl rfl (fun v wc hv => ?_)
    obtain ⟨atF_2, place_2, sort_2, value_2, rfl, rfl, hq⟩ := hv
    replace h := h atF_2 place_2 sort_2 value_2 hq
    refine gG.perm (ws' := [oX11 h0 thrown (.ref q_tape) taped (.ref q_number) (v_isTold) (.ref q_name) (.ref q_sortOf) (v_first) (v_second) (v_degree) (v_colours) (v_signBy) (.ref q_own) lines size atF_2 place_2 sort_2 value_2 fault_2 faultPlace_2 lastFault lastPlace (v_sF) (v_kept) undoable hasImage (v_power) (v_table) (v_marks) (v_row) rowOf areSums isSieved (v_lastOf) blocks (v_inBlock) (v_atQuotient) (v_small) drawn, aI Y q_tape 700 tape, aI Y q_number 8 number, aI Y q_name 24 name, aI Y q_sortOf 24 sortOf, aI Y q_own 288 own]) [4, 5, 0, 1, 2, 3] rfl rfl ?_
    refine g_aload_n C dX11_readAt_38 0 rfl ?_
    refine g_iconst (v := 0) C dX11_readAt_39 rfl ?_
    refine g_iconst (v := 1) C dX11_readAt_40 rfl ?_
    refine g_bipush (v := 6) C dX11_readAt_41 rfl ?_
    obtain ⟨P_4, hP, h⟩ := h
    refine g_callV (As := [.int 0, .int 1, .int 6]) (rest := []) C (mX11_numeralOf l D Y h0 thrown q_tape taped (.ref q_number) v_isTold (.ref q_name) (.ref q_sortOf) v_first v_second v_degree v_colours v_signBy (.ref q_own) lines size atF_2 place_2 sort_2 value_2 fault_2 faultPlace_2 lastFault lastPlace v_sF v_kept undoable hasImage v_power v_table v_marks v_row rowOf areSums isSieved v_lastOf blocks v_inBlock v_atQuotient v_small drawn tape 0 1 6 P_4 hP) dX11_readAt_43 rfl wM_X11_158 wI_X11_numeralOf wV_X11_numeralOf wN_X11 wC_X11_numeralOf (n := 3) (by decide +kernel) rfl (q0 := 0) rfl rfl ⟨Nat.le_of_ble_eq_true rfl, Nat.le_of_ble_eq_true rfl⟩ ⟨Nat.le_of_ble_eq_true rfl, Nat.le_of_ble_eq_true rfl⟩ (Nat.le_of_ble_eq_true rfl) [0, 1] [2, 3, 4, 5] rfl rfl rfl (fun v wc hv => ?_)
    obtain ⟨rF_2, atF_3, place_3, sort_3, value_3, fault_3, faultPlace_3, rfl, rfl, hq⟩ := hv
    replace h := h rF_2 atF_3 place_3 sort_3 value_3 fault_3 faultPlace_3 hq
    refine gG.perm (ws' := [oX11 h0 thrown (.ref q_tape) taped (.ref q_number) (v_isTold) (.ref q_name) (.ref q_sortOf) (v_first) (v_second) (v_degree) (v_colours) (v_signBy) (.ref q_own) lines size atF_3 place_3 sort_3 value_3 fault_3 faultPlace_3 lastFault lastPlace (v_sF) (v_kept) undoable hasImage (v_power) (v_table) (v_marks) (v_row) rowOf areSums isSieved (v_lastOf) blocks (v_inBlock) (v_atQuotient) (v_small) drawn, aI Y q_tape 700 tape, aI Y q_number 8 number, aI Y q_name 24 name, aI Y q_sortOf 24 sortOf, aI Y q_own 288 own]) [4, 5, 0, 1, 2, 3] rfl rfl ?_
    refine g_istore_n (lv' := [(2, .int rF_2), (0, .ref h0), (1, .int rF_1)]) C dX11_readAt_46 (by decide) rfl ?_
    refine g_aload_n C dX11_readAt_47 1 rfl ?_
    refine g_iconst (v := 1) C dX11_readAt_48 rfl ?_
    refine g_sipush (v := (-999)) C dX11_readAt_49 rfl ?_
    refine g_sipush (v := 999) C dX11_readAt_52 rfl ?_
    obtain ⟨P_5, hP, h⟩ := h
    refine g_callV (As := [.int 1, .int (-999), .int 999]) (rest := []) C (mX11_numeralOf l D Y h0 thrown q_tape taped (.ref q_number) v_isTold (.ref q_name) (.ref q_sortOf) v_first v_second v_degree v_colours v_signBy (.ref q_own) lines size atF_3 place_3 sort_3 value_3 fault_3 faultPlace_3 lastFault lastPlace v_sF v_kept undoable hasImage v_power v_table v_marks v_row rowOf areSums isSieved v_lastOf blocks v_inBlock v_atQuotient v_small drawn tape 1 (-999) 999 P_5 hP) dX11_readAt_55 rfl wM_X11_158 wI_X11_numeralOf wV_X11_numeralOf wN_X11 wC_X11_numeralOf (n := 3) (by decide +kernel) rfl (q0 := 0) rfl rfl ⟨Nat.le_of_ble_eq_true rfl, Nat.le_of_ble_eq_true rfl⟩ ⟨Nat.le_of_ble_eq_true rfl, Nat.le_of_ble_eq_true rfl⟩ (Nat.le_of_ble_eq_true rfl) [0, 1] [2, 3, 4, 5] rfl rfl rfl (fun v wc hv => ?_)
    obtain ⟨rF_3, atF_4, place_4, sort_4, value_4, fault_4, faultPlace_4, rfl, rfl, hq⟩ := hv
    replace h := h rF_3 atF_4 place_4 sort_4 value_4 fault_4 faultPlace_4 hq
    refine gG.perm (ws' := [oX11 h0 thrown (.ref q_tape) taped (.ref q_number) (v_isTold) (.ref q_name) (.ref q_sortOf) (v_first) (v_second) (v_degree) (v_colours) (v_signBy) (.ref q_own) lines size atF_4 place_4 sort_4 value_4 fault_4 faultPlace_4 lastFault lastPlace (v_sF) (v_kept) undoable hasImage (v_power) (v_table) (v_marks) (v_row) rowOf areSums isSieved (v_lastOf) blocks (v_inBlock) (v_atQuotient) (v_small) drawn, aI Y q_tape 700 tape, aI Y q_number 8 number, aI Y q_name 24 name, aI Y q_sortOf 24 sortOf, aI Y q_own 288 own]) [4, 5, 0, 1, 2, 3] rfl rfl ?_
    refine g_istore_n (lv' := [(3, .int rF_3), (2, .int rF_2), (0, .ref h0), (1, .int rF_1)]) C dX11_readAt_58 (by decide) rfl ?_
    refine g_aload_n C dX11_readAt_59 2 rfl ?_
    refine g_iconst (v := 1) C dX11_readAt_60 rfl ?_
    refine g_sipush (v := (-999)) C dX11_readAt_61 rfl ?_
    refine g_sipush (v := 999) C dX11_readAt_64 rfl ?_
    obtain ⟨P_6, hP, h⟩ := h
    refine g_callV (As := [.int 1, .int (-999), .int 999]) (rest := []) C (mX11_numeralOf l D Y h0 thrown q_tape taped (.ref q_number) v_isTold (.ref q_name) (.ref q_sortOf) v_first v_second v_degree v_colours v_signBy (.ref q_own) lines size atF_4 place_4 sort_4 value_4 fault_4 faultPlace_4 lastFault lastPlace v_sF v_kept undoable hasImage v_power v_table v_marks v_row rowOf areSums isSieved v_lastOf blocks v_inBlock v_atQuotient v_small drawn tape 1 (-999) 999 P_6 hP) dX11_readAt_67 rfl wM_X11_158 wI_X11_numeralOf wV_X11_numeralOf wN_X11 wC_X11_numeralOf (n := 3) (by decide +kernel) rfl (q0 := 0) rfl rfl ⟨Nat.le_of_ble_eq_true rfl, Nat.le_of_ble_eq_true rfl⟩ ⟨Nat.le_of_ble_eq_true rfl, Nat.le_of_ble_eq_true rfl⟩ (Nat.le_of_ble_eq_true rfl) [0, 1] [2, 3, 4, 5] rfl rfl rfl (fun v wc hv => ?_)
    obtain ⟨rF_4, atF_5, place_5, sort_5, value_5, fault_5, faultPlace_5, rfl, rfl, hq⟩ := hv
    replace h := h rF_4 atF_5 place_5 sort_5 value_5 fault_5 faultPlace_5 hq
    refine gG.perm (ws' := [oX11 h0 thrown (.ref q_tape) taped (.ref q_number) (v_isTold) (.ref q_name) (.ref q_sortOf) (v_first) (v_second) (v_degree) (v_colours) (v_signBy) (.ref q_own) lines size atF_5 place_5 sort_5 value_5 fault_5 faultPlace_5 lastFault lastPlace (v_sF) (v_kept) undoable hasImage (v_power) (v_table) (v_marks) (v_row) rowOf areSums isSieved (v_lastOf) blocks (v_inBlock) (v_atQuotient) (v_small) drawn, aI Y q_tape 700 tape, aI Y q_number 8 number, aI Y q_name 24 name, aI Y q_sortOf 24 sortOf, aI Y q_own 288 own]) [4, 5, 0, 1, 2, 3] rfl rfl ?_
    refine g_istore (lv' := [(4, .int rF_4), (3, .int rF_3), (2, .int rF_2), (0, .ref h0), (1, .int rF_1)]) C dX11_readAt_70 (by decide) rfl ?_
    refine g_aload_n C dX11_readAt_72 3 rfl ?_
    refine g_get C inX11 0 rfl rfl 19 (by decide) wF_X11_142 rfl dX11_readAt_73 ?_
    refine g_if_eq (tgt := 80) C dX11_readAt_76 (by decide) (fun c_1 => ?_) (fun c_1 => ?_)
    · replace h := h.1 c_1
      refine g_aload_n C dX11_readAt_80 3 rfl ?_
      refine g_get C inX11 0 rfl rfl 12 (by decide) wF_X11_41 rfl dX11_readAt_81 ?_
      refine g_bipush (v := 12) C dX11_readAt_84 rfl ?_
      refine g_bipush (v := 12) C dX11_readAt_86 rfl ?_
      refine g_iload_n C dX11_readAt_88 4 rfl ?_
      refine g_iadd C dX11_readAt_89 ?_
      refine g_imul C dX11_readAt_90 ?_
      refine g_iconst (v := 2) C dX11_readAt_91 rfl ?_
      refine g_iload_n C dX11_readAt_92 2 rfl ?_
      refine g_imul C dX11_readAt_93 ?_
      refine g_iadd C dX11_readAt_94 ?_
      refine g_iconst (v := 2) C dX11_readAt_95 rfl ?_
      refine g_isub C dX11_readAt_96 ?_
      refine g_iload_n C dX11_readAt_97 1 rfl ?_
      obtain ⟨hc_1, h⟩ := h
      refine g_iast C 5 rfl hc_1 dX11_readAt_98 (fun own_1 eown_1 => gG.eqw (ws' := [oX11 h0 thrown (.ref q_tape) taped (.ref q_number) (v_isTold) (.ref q_name) (.ref q_sortOf) (v_first) (v_second) (v_degree) (v_colours) (v_signBy) (.ref q_own) lines size atF_5 place_5 sort_5 value_5 fault_5 faultPlace_5 lastFault lastPlace (v_sF) (v_kept) undoable hasImage (v_power) (v_table) (v_marks) (v_row) rowOf areSums isSieved (v_lastOf) blocks (v_inBlock) (v_atQuotient) (v_small) drawn, aI Y q_tape 700 tape, aI Y q_number 8 number, aI Y q_name 24 name, aI Y q_sortOf 24 sortOf, aI Y q_own 288 own_1]) rfl ?_)
      replace h := h own_1 eown_1
      refine g_aload_n C dX11_readAt_99 3 rfl ?_
      refine g_get C inX11 0 rfl rfl 12 (by decide) wF_X11_41 rfl dX11_readAt_100 ?_
      refine g_bipush (v := 12) C dX11_readAt_103 rfl ?_
      refine g_bipush (v := 12) C dX11_readAt_105 rfl ?_
      refine g_iload_n C dX11_readAt_107 4 rfl ?_
      refine g_iadd C dX11_readAt_108 ?_
      refine g_imul C dX11_readAt_109 ?_
      refine g_iconst (v := 2) C dX11_readAt_110 rfl ?_
      refine g_iload_n C dX11_readAt_111 2 rfl ?_
      refine g_imul C dX11_readAt_112 ?_
      refine g_iadd C dX11_readAt_113 ?_
      refine g_iconst (v := 1) C dX11_readAt_114 rfl ?_
      refine g_isub C dX11_readAt_115 ?_
      refine g_iload C dX11_readAt_116 0 rfl ?_
      obtain ⟨hc_2, h⟩ := h
      refine g_iast C 5 rfl hc_2 dX11_readAt_118 (fun own_2 eown_2 => gG.eqw (ws' := [oX11 h0 thrown (.ref q_tape) taped (.ref q_number) (v_isTold) (.ref q_name) (.ref q_sortOf) (v_first) (v_second) (v_degree) (v_colours) (v_signBy) (.ref q_own) lines size atF_5 place_5 sort_5 value_5 fault_5 faultPlace_5 lastFault lastPlace (v_sF) (v_kept) undoable hasImage (v_power) (v_table) (v_marks) (v_row) rowOf areSums isSieved (v_lastOf) blocks (v_inBlock) (v_atQuotient) (v_small) drawn, aI Y q_tape 700 tape, aI Y q_number 8 number, aI Y q_name 24 name, aI Y q_sortOf 24 sortOf, aI Y q_own 288 own_2]) rfl ?_)
      replace h := h own_2 eown_2
      exact g_vret C hR (Nat.le_of_ble_eq_true rfl) (Nat.le_of_ble_eq_true rfl) dX11_readAt_119 ⟨atF_5, place_5, sort_5, value_5, fault_5, faultPlace_5, own_2, rfl, rfl, h⟩
    · replace h := h.2 c_1
      exact g_vret C hR (Nat.le_of_ble_eq_true rfl) (Nat.le_of_ble_eq_true rfl) dX11_readAt_79 ⟨atF_5, place_5, sort_5, value_5, fault_5, faultPlace_5, own, rfl, rfl, h⟩
  replace h := hA
  refine g_if_ne (tgt := 34) C dX11_readAt_13 (by decide) (fun c_2 => ?_) (fun c_2 => ?_)
  · replace h := h.1 c_2
    refine gG.locals (lv' := [(0, .ref h0), (1, .int rF_1)]) [1, 0] rfl ?_
    exact key_1 fault_1 faultPlace_1 h
  · replace h := h.2 c_2
    refine g_aload_n C dX11_readAt_16 1 rfl ?_
    refine g_get C inX11 0 rfl rfl 6 (by decide) wF_X11_23 rfl dX11_readAt_17 ?_
    refine g_bipush (v := 12) C dX11_readAt_20 rfl ?_
    refine g_iload_n C dX11_readAt_22 0 rfl ?_
    refine g_iadd C dX11_readAt_23 ?_
    obtain ⟨hc_3, h⟩ := h
    refine g_iald C 4 rfl hc_3 dX11_readAt_24 ?_
    refine g_iconst (v := 1) C dX11_readAt_25 rfl ?_
    refine g_icmp_eq (tgt := 34) C dX11_readAt_26 (by decide) (fun c_3 => ?_) (fun c_3 => ?_)
    · replace h := h.1 c_3
      refine gG.locals (lv' := [(0, .ref h0), (1, .int rF_1)]) [1, 0] rfl ?_
      exact key_1 fault_1 faultPlace_1 h
    · replace h := h.2 c_3
      refine g_aload_n C dX11_readAt_29 1 rfl ?_
      refine g_iconst (v := 4) C dX11_readAt_30 rfl ?_
      obtain ⟨P_7, hP, h⟩ := h
      refine g_callV (As := [.int 4]) (rest := []) C (mX11_wrong l D Y h0 thrown (.ref q_tape) taped (.ref q_number) v_isTold (.ref q_name) (.ref q_sortOf) v_first v_second v_degree v_colours v_signBy (.ref q_own) lines size atF_1 place_1 sort_1 value_1 fault_1 faultPlace_1 lastFault lastPlace v_sF v_kept undoable hasImage v_power v_table v_marks v_row rowOf areSums isSieved v_lastOf blocks v_inBlock v_atQuotient v_small drawn 4 P_7 hP) dX11_readAt_31 rfl wM_X11_151 wI_X11_wrong wV_X11_wrong wN_X11 wC_X11_wrong (n := 1) (by decide +kernel) rfl (q0 := 0) rfl rfl ⟨Nat.le_of_ble_eq_true rfl, Nat.le_of_ble_eq_true rfl⟩ ⟨Nat.le_of_ble_eq_true rfl, Nat.le_of_ble_eq_true rfl⟩ (Nat.le_of_ble_eq_true rfl) [0] [1, 2, 3, 4, 5] rfl rfl rfl (fun v wc hv => ?_)
      obtain ⟨fault_6, faultPlace_6, rfl, rfl, hq⟩ := hv
      replace h := h fault_6 faultPlace_6 hq
      refine gG.perm (ws' := [oX11 h0 thrown (.ref q_tape) taped (.ref q_number) (v_isTold) (.ref q_name) (.ref q_sortOf) (v_first) (v_second) (v_degree) (v_colours) (v_signBy) (.ref q_own) lines size atF_1 place_1 sort_1 value_1 fault_6 faultPlace_6 lastFault lastPlace (v_sF) (v_kept) undoable hasImage (v_power) (v_table) (v_marks) (v_row) rowOf areSums isSieved (v_lastOf) blocks (v_inBlock) (v_atQuotient) (v_small) drawn, aI Y q_tape 700 tape, aI Y q_number 8 number, aI Y q_name 24 name, aI Y q_sortOf 24 sortOf, aI Y q_own 288 own]) [5, 0, 1, 2, 3, 4] rfl rfl ?_
      refine gG.locals (lv' := [(0, .ref h0), (1, .int rF_1)]) [1, 0] rfl ?_
      exact key_1 fault_6 faultPlace_6 h
theorem dX11_readLine_0 : decode cX11_readLine 0 = .ok (.aload_n 0, 1) := by decide +kernel
theorem dX11_readLine_1 : decode cX11_readLine 1 = .ok (.getfield 108, 3) := by decide +kernel
theorem dX11_readLine_4 : decode cX11_readLine 4 = .ok (.ifCond .eq 11, 3) := by decide +kernel
theorem dX11_readLine_7 : decode cX11_readLine 7 = .ok (.aload_n 0, 1) := by decide +kernel
theorem dX11_readLine_8 : decode cX11_readLine 8 = .ok (.iconst 1, 1) := by decide +kernel
theorem dX11_readLine_9 : decode cX11_readLine 9 = .ok (.invokevirtual 151, 3) := by decide +kernel
theorem dX11_readLine_12 : decode cX11_readLine 12 = .ok (.goto 148, 3) := by decide +kernel
theorem dX11_readLine_15 : decode cX11_readLine 15 = .ok (.aload_n 0, 1) := by decide +kernel
theorem dX11_readLine_16 : decode cX11_readLine 16 = .ok (.getfield 118, 3) := by decide +kernel
theorem dX11_readLine_19 : decode cX11_readLine 19 = .ok (.ifCond .ne 15, 3) := by decide +kernel
theorem dX11_readLine_22 : decode cX11_readLine 22 = .ok (.aload_n 0, 1) := by decide +kernel
theorem dX11_readLine_23 : decode cX11_readLine 23 = .ok (.iconst 0, 1) := by decide +kernel
theorem dX11_readLine_24 : decode cX11_readLine 24 = .ok (.iconst 0, 1) := by decide +kernel
theorem dX11_readLine_25 : decode cX11_readLine 25 = .ok (.iconst 1, 1) := by decide +kernel
theorem dX11_readLine_26 : decode cX11_readLine 26 = .ok (.ldc 189, 2) := by decide +kernel
theorem dX11_readLine_28 : decode cX11_readLine 28 = .ok (.invokevirtual 190, 3) := by decide +kernel
theorem dX11_readLine_31 : decode cX11_readLine 31 = .ok (.goto 129, 3) := by decide +kernel
theorem dX11_readLine_34 : decode cX11_readLine 34 = .ok (.aload_n 0, 1) := by decide +kernel
theorem dX11_readLine_35 : decode cX11_readLine 35 = .ok (.getfield 118, 3) := by decide +kernel
theorem dX11_readLine_38 : decode cX11_readLine 38 = .ok (.iconst 1, 1) := by decide +kernel
theorem dX11_readLine_39 : decode cX11_readLine 39 = .ok (.if_icmp .ne 15, 3) := by decide +kernel
theorem dX11_readLine_42 : decode cX11_readLine 42 = .ok (.aload_n 0, 1) := by decide +kernel
theorem dX11_readLine_43 : decode cX11_readLine 43 = .ok (.iconst 1, 1) := by decide +kernel
theorem dX11_readLine_44 : decode cX11_readLine 44 = .ok (.iconst 1, 1) := by decide +kernel
theorem dX11_readLine_45 : decode cX11_readLine 45 = .ok (.iconst 2, 1) := by decide +kernel
theorem dX11_readLine_46 : decode cX11_readLine 46 = .ok (.ldc 194, 2) := by decide +kernel
theorem dX11_readLine_48 : decode cX11_readLine 48 = .ok (.invokevirtual 190, 3) := by decide +kernel
theorem dX11_readLine_51 : decode cX11_readLine 51 = .ok (.goto 109, 3) := by decide +kernel
theorem dX11_readLine_54 : decode cX11_readLine 54 = .ok (.aload_n 0, 1) := by decide +kernel
theorem dX11_readLine_55 : decode cX11_readLine 55 = .ok (.getfield 118, 3) := by decide +kernel
theorem dX11_readLine_58 : decode cX11_readLine 58 = .ok (.iconst 2, 1) := by decide +kernel
theorem dX11_readLine_59 : decode cX11_readLine 59 = .ok (.if_icmp .ne 15, 3) := by decide +kernel
theorem dX11_readLine_62 : decode cX11_readLine 62 = .ok (.aload_n 0, 1) := by decide +kernel
theorem dX11_readLine_63 : decode cX11_readLine 63 = .ok (.iconst 2, 1) := by decide +kernel
theorem dX11_readLine_64 : decode cX11_readLine 64 = .ok (.iconst 2, 1) := by decide +kernel
theorem dX11_readLine_65 : decode cX11_readLine 65 = .ok (.iconst 0, 1) := by decide +kernel
theorem dX11_readLine_66 : decode cX11_readLine 66 = .ok (.ldc 195, 2) := by decide +kernel
theorem dX11_readLine_68 : decode cX11_readLine 68 = .ok (.invokevirtual 190, 3) := by decide +kernel
theorem dX11_readLine_71 : decode cX11_readLine 71 = .ok (.goto 89, 3) := by decide +kernel
theorem dX11_readLine_74 : decode cX11_readLine 74 = .ok (.aload_n 0, 1) := by decide +kernel
theorem dX11_readLine_75 : decode cX11_readLine 75 = .ok (.getfield 118, 3) := by decide +kernel
theorem dX11_readLine_78 : decode cX11_readLine 78 = .ok (.iconst 3, 1) := by decide +kernel
theorem dX11_readLine_79 : decode cX11_readLine 79 = .ok (.if_icmp .ne 11, 3) := by decide +kernel
theorem dX11_readLine_82 : decode cX11_readLine 82 = .ok (.aload_n 0, 1) := by decide +kernel
theorem dX11_readLine_83 : decode cX11_readLine 83 = .ok (.iconst 1, 1) := by decide +kernel
theorem dX11_readLine_84 : decode cX11_readLine 84 = .ok (.invokevirtual 196, 3) := by decide +kernel
theorem dX11_readLine_87 : decode cX11_readLine 87 = .ok (.goto 73, 3) := by decide +kernel
theorem dX11_readLine_90 : decode cX11_readLine 90 = .ok (.aload_n 0, 1) := by decide +kernel
theorem dX11_readLine_91 : decode cX11_readLine 91 = .ok (.getfield 118, 3) := by decide +kernel
theorem dX11_readLine_94 : decode cX11_readLine 94 = .ok (.iconst 4, 1) := by decide +kernel
theorem dX11_readLine_95 : decode cX11_readLine 95 = .ok (.if_icmp .ne 10, 3) := by decide +kernel
theorem dX11_readLine_98 : decode cX11_readLine 98 = .ok (.aload_n 0, 1) := by decide +kernel
theorem dX11_readLine_99 : decode cX11_readLine 99 = .ok (.invokevirtual 199, 3) := by decide +kernel
theorem dX11_readLine_102 : decode cX11_readLine 102 = .ok (.goto 58, 3) := by decide +kernel
theorem dX11_readLine_105 : decode cX11_readLine 105 = .ok (.aload_n 0, 1) := by decide +kernel
theorem dX11_readLine_106 : decode cX11_readLine 106 = .ok (.getfield 118, 3) := by decide +kernel
theorem dX11_readLine_109 : decode cX11_readLine 109 = .ok (.iconst 5, 1) := by decide +kernel
theorem dX11_readLine_110 : decode cX11_readLine 110 = .ok (.if_icmp .ne 11, 3) := by decide +kernel
theorem dX11_readLine_113 : decode cX11_readLine 113 = .ok (.aload_n 0, 1) := by decide +kernel
theorem dX11_readLine_114 : decode cX11_readLine 114 = .ok (.iconst 2, 1) := by decide +kernel
theorem dX11_readLine_115 : decode cX11_readLine 115 = .ok (.invokevirtual 196, 3) := by decide +kernel
theorem dX11_readLine_118 : decode cX11_readLine 118 = .ok (.goto 42, 3) := by decide +kernel
theorem dX11_readLine_121 : decode cX11_readLine 121 = .ok (.aload_n 0, 1) := by decide +kernel
theorem dX11_readLine_122 : decode cX11_readLine 122 = .ok (.getfield 118, 3) := by decide +kernel
theorem dX11_readLine_125 : decode cX11_readLine 125 = .ok (.bipush 6, 2) := by decide +kernel
theorem dX11_readLine_127 : decode cX11_readLine 127 = .ok (.if_icmp .ne 11, 3) := by decide +kernel
theorem dX11_readLine_130 : decode cX11_readLine 130 = .ok (.aload_n 0, 1) := by decide +kernel
theorem dX11_readLine_131 : decode cX11_readLine 131 = .ok (.iconst 3, 1) := by decide +kernel
theorem dX11_readLine_132 : decode cX11_readLine 132 = .ok (.invokevirtual 196, 3) := by decide +kernel
theorem dX11_readLine_135 : decode cX11_readLine 135 = .ok (.goto 25, 3) := by decide +kernel
theorem dX11_readLine_138 : decode cX11_readLine 138 = .ok (.aload_n 0, 1) := by decide +kernel
theorem dX11_readLine_139 : decode cX11_readLine 139 = .ok (.getfield 118, 3) := by decide +kernel
theorem dX11_readLine_142 : decode cX11_readLine 142 = .ok (.bipush 7, 2) := by decide +kernel
theorem dX11_readLine_144 : decode cX11_readLine 144 = .ok (.if_icmp .ne 11, 3) := by decide +kernel
theorem dX11_readLine_147 : decode cX11_readLine 147 = .ok (.aload_n 0, 1) := by decide +kernel
theorem dX11_readLine_148 : decode cX11_readLine 148 = .ok (.iconst 4, 1) := by decide +kernel
theorem dX11_readLine_149 : decode cX11_readLine 149 = .ok (.invokevirtual 196, 3) := by decide +kernel
theorem dX11_readLine_152 : decode cX11_readLine 152 = .ok (.goto 8, 3) := by decide +kernel
theorem dX11_readLine_155 : decode cX11_readLine 155 = .ok (.aload_n 0, 1) := by decide +kernel
theorem dX11_readLine_156 : decode cX11_readLine 156 = .ok (.iconst 5, 1) := by decide +kernel
theorem dX11_readLine_157 : decode cX11_readLine 157 = .ok (.invokevirtual 196, 3) := by decide +kernel
theorem dX11_readLine_160 : decode cX11_readLine 160 = .ok (.aload_n 0, 1) := by decide +kernel
theorem dX11_readLine_161 : decode cX11_readLine 161 = .ok (.getfield 142, 3) := by decide +kernel
theorem dX11_readLine_164 : decode cX11_readLine 164 = .ok (.ifCond .ne 16, 3) := by decide +kernel
theorem dX11_readLine_167 : decode cX11_readLine 167 = .ok (.aload_n 0, 1) := by decide +kernel
theorem dX11_readLine_168 : decode cX11_readLine 168 = .ok (.getfield 108, 3) := by decide +kernel
theorem dX11_readLine_171 : decode cX11_readLine 171 = .ok (.iconst 4, 1) := by decide +kernel
theorem dX11_readLine_172 : decode cX11_readLine 172 = .ok (.if_icmp .eq 8, 3) := by decide +kernel
theorem dX11_readLine_175 : decode cX11_readLine 175 = .ok (.aload_n 0, 1) := by decide +kernel
theorem dX11_readLine_176 : decode cX11_readLine 176 = .ok (.iconst 1, 1) := by decide +kernel
theorem dX11_readLine_177 : decode cX11_readLine 177 = .ok (.invokevirtual 151, 3) := by decide +kernel
theorem dX11_readLine_180 : decode cX11_readLine 180 = .ok (.aload_n 0, 1) := by decide +kernel
theorem dX11_readLine_181 : decode cX11_readLine 181 = .ok (.invokevirtual 155, 3) := by decide +kernel
theorem dX11_readLine_184 : decode cX11_readLine 184 = .ok (.aload_n 0, 1) := by decide +kernel
theorem dX11_readLine_185 : decode cX11_readLine 185 = .ok (.dup, 1) := by decide +kernel
theorem dX11_readLine_186 : decode cX11_readLine 186 = .ok (.getfield 202, 3) := by decide +kernel
theorem dX11_readLine_189 : decode cX11_readLine 189 = .ok (.iconst 1, 1) := by decide +kernel
theorem dX11_readLine_190 : decode cX11_readLine 190 = .ok (.iadd, 1) := by decide +kernel
theorem dX11_readLine_191 : decode cX11_readLine 191 = .ok (.putfield 202, 3) := by decide +kernel
theorem dX11_readLine_194 : decode cX11_readLine 194 = .ok (.return_, 1) := by decide +kernel
/-- QuotientSumsModel.readLine()V -/
def wX11_readLine (thrown : Int32) (taped : Int32) (lines : Int32) (size : Int32) (atF : Int32) (place : Int32) (sort : Int32) (value : Int32) (fault : Int32) (faultPlace : Int32) (lastFault : Int32) (lastPlace : Int32) (undoable : Int32) (hasImage : Int32) (rowOf : Int32) (areSums : Int32) (isSieved : Int32) (blocks : Int32) (drawn : Int32) (number : Nat → Int32) (tape : Nat → Int32) (name : Nat → Int32) (sortOf : Nat → Int32) (first : Nat → Int32) (second : Nat → Int32) (degree : Nat → Int32) (colours : Nat → Int32) (signBy : Nat → Int32) (own : Nat → Int32) (isTold : Nat → Int32)  (Q : (Int32) → (Int32) → (Int32) → (Int32) → (Int32) → (Int32) → (Int32) → (Nat → Int32) → (Nat → Int32) → (Nat → Int32) → (Nat → Int32) → (Nat → Int32) → (Nat → Int32) → (Nat → Int32) → (Nat → Int32) → (Nat → Int32) → (Nat → Int32) → Prop) : Prop :=
  (∃ (J_1 : (Nat → Int32) → (Nat → Int32) → (Nat → Int32) → (Nat → Int32) → (Nat → Int32) → (Nat → Int32) → (Nat → Int32) → (Nat → Int32) → (Nat → Int32) → (Nat → Int32) → (Int32) → (Int32) → (Int32) → (Int32) → (Int32) → (Int32) → Prop), ((sort = 0 → ((¬ value = 0 → ((¬ value = 1 → ((¬ value = 2 → ((¬ value = 3 → ((¬ value = 4 → ((¬ value = 5 → ((¬ value = 6 → ((¬ value = 7 → (∃ (P_5 : (Int32) → (Int32) → (Int32) → (Int32) → (Int32) → (Int32) → (Nat → Int32) → (Nat → Int32) → (Nat → Int32) → (Nat → Int32) → (Nat → Int32) → (Nat → Int32) → (Nat → Int32) → (Nat → Int32) → (Nat → Int32) → Prop), wX11_readFunction thrown taped lines size atF place sort value fault faultPlace lastFault lastPlace undoable hasImage rowOf areSums isSieved blocks drawn number tape name sortOf first second degree colours signBy own 5 P_5 ∧ ∀ (atF_5 : Int32) (place_5 : Int32) (sort_5 : Int32) (value_5 : Int32) (fault_3 : Int32) (faultPlace_3 : Int32) (number_2 : Nat → Int32) (name_2 : Nat → Int32) (sortOf_2 : Nat → Int32) (first_2 : Nat → Int32) (second_2 : Nat → Int32) (degree_2 : Nat → Int32) (colours_2 : Nat → Int32) (signBy_2 : Nat → Int32) (own_2 : Nat → Int32), P_5 atF_5 place_5 sort_5 value_5 fault_3 faultPlace_3 number_2 name_2 sortOf_2 first_2 second_2 degree_2 colours_2 signBy_2 own_2 → (J_1 colours_2 degree_2 first_2 isTold name_2 number_2 own_2 second_2 signBy_2 sortOf_2 atF_5 place_5 sort_5 value_5 fault_3 faultPlace_3))) ∧ (value = 7 → (∃ (P_6 : (Int32) → (Int32) → (Int32) → (Int32) → (Int32) → (Int32) → (Nat → Int32) → (Nat → Int32) → (Nat → Int32) → (Nat → Int32) → (Nat → Int32) → (Nat → Int32) → (Nat → Int32) → (Nat → Int32) → (Nat → Int32) → Prop), wX11_readFunction thrown taped lines size atF place sort value fault faultPlace lastFault lastPlace undoable hasImage rowOf areSums isSieved blocks drawn number tape name sortOf first second degree colours signBy own 4 P_6 ∧ ∀ (atF_6 : Int32) (place_6 : Int32) (sort_6 : Int32) (value_6 : Int32) (fault_4 : Int32) (faultPlace_4 : Int32) (number_3 : Nat → Int32) (name_3 : Nat → Int32) (sortOf_3 : Nat → Int32) (first_3 : Nat → Int32) (second_3 : Nat → Int32) (degree_3 : Nat → Int32) (colours_3 : Nat → Int32) (signBy_3 : Nat → Int32) (own_3 : Nat → Int32), P_6 atF_6 place_6 sort_6 value_6 fault_4 faultPlace_4 number_3 name_3 sortOf_3 first_3 second_3 degree_3 colours_3 signBy_3 own_3 → (J_1 colours_3 degree_3 first_3 isTold name_3 number_3 own_3 second_3 signBy_3 sortOf_3 atF_6 place_6 sort_6 value_6 fault_4 faultPlace_4))))) ∧ (value = 6 → (∃ (P_7 : (Int32) → (Int32) → (Int32) → (Int32) → (Int32) → (Int32) → (Nat → Int32) → (Nat → Int32) → (Nat → Int32) → (Nat → Int32) → (Nat → Int32) → (Nat → Int32) → (Nat → Int32) → (Nat → Int32) → (Nat → Int32) → Prop), wX11_readFunction thrown taped lines size atF place sort value fault faultPlace lastFault lastPlace undoable hasImage rowOf areSums isSieved blocks drawn number tape name sortOf first second degree colours signBy own 3 P_7 ∧ ∀ (atF_7 : Int32) (place_7 : Int32) (sort_7 : Int32) (value_7 : Int32) (fault_5 : Int32) (faultPlace_5 : Int32) (number_4 : Nat → Int32) (name_4 : Nat → Int32) (sortOf_4 : Nat → Int32) (first_4 : Nat → Int32) (second_4 : Nat → Int32) (degree_4 : Nat → Int32) (colours_4 : Nat → Int32) (signBy_4 : Nat → Int32) (own_4 : Nat → Int32), P_7 atF_7 place_7 sort_7 value_7 fault_5 faultPlace_5 number_4 name_4 sortOf_4 first_4 second_4 degree_4 colours_4 signBy_4 own_4 → (J_1 colours_4 degree_4 first_4 isTold name_4 number_4 own_4 second_4 signBy_4 sortOf_4 atF_7 place_7 sort_7 value_7 fault_5 faultPlace_5))))) ∧ (value = 5 → (∃ (P_8 : (Int32) → (Int32) → (Int32) → (Int32) → (Int32) → (Int32) → (Nat → Int32) → (Nat → Int32) → (Nat → Int32) → (Nat → Int32) → (Nat → Int32) → (Nat → Int32) → (Nat → Int32) → (Nat → Int32) → (Nat → Int32) → Prop), wX11_readFunction thrown taped lines size atF place sort value fault faultPlace lastFault lastPlace undoable hasImage rowOf areSums isSieved blocks drawn number tape name sortOf first second degree colours signBy own 2 P_8 ∧ ∀ (atF_8 : Int32) (place_8 : Int32) (sort_8 : Int32) (value_8 : Int32) (fault_6 : Int32) (faultPlace_6 : Int32) (number_5 : Nat → Int32) (name_5 : Nat → Int32) (sortOf_5 : Nat → Int32) (first_5 : Nat → Int32) (second_5 : Nat → Int32) (degree_5 : Nat → Int32) (colours_5 : Nat → Int32) (signBy_5 : Nat → Int32) (own_5 : Nat → Int32), P_8 atF_8 place_8 sort_8 value_8 fault_6 faultPlace_6 number_5 name_5 sortOf_5 first_5 second_5 degree_5 colours_5 signBy_5 own_5 → (J_1 colours_5 degree_5 first_5 isTold name_5 number_5 own_5 second_5 signBy_5 sortOf_5 atF_8 place_8 sort_8 value_8 fault_6 faultPlace_6))))) ∧ (value = 4 → (∃ (P_9 : (Int32) → (Int32) → (Int32) → (Int32) → (Int32) → (Int32) → (Nat → Int32) → Prop), wX11_readAt thrown taped lines size atF place sort value fault faultPlace lastFault lastPlace undoable hasImage rowOf areSums isSieved blocks drawn tape number name sortOf own P_9 ∧ ∀ (atF_9 : Int32) (place_9 : Int32) (sort_9 : Int32) (value_9 : Int32) (fault_7 : Int32) (faultPlace_7 : Int32) (own_6 : Nat → Int32), P_9 atF_9 place_9 sort_9 value_9 fault_7 faultPlace_7 own_6 → (J_1 colours degree first isTold name number own_6 second signBy sortOf atF_9 place_9 sort_9 value_9 fault_7 faultPlace_7))))) ∧ (value = 3 → (∃ (P_10 : (Int32) → (Int32) → (Int32) → (Int32) → (Int32) → (Int32) → (Nat → Int32) → (Nat → Int32) → (Nat → Int32) → (Nat → Int32) → (Nat → Int32) → (Nat → Int32) → (Nat → Int32) → (Nat → Int32) → (Nat → Int32) → Prop), wX11_readFunction thrown taped lines size atF place sort value fault faultPlace lastFault lastPlace undoable hasImage rowOf areSums isSieved blocks drawn number tape name sortOf first second degree colours signBy own 1 P_10 ∧ ∀ (atF_10 : Int32) (place_10 : Int32) (sort_10 : Int32) (value_10 : Int32) (fault_8 : Int32) (faultPlace_8 : Int32) (number_6 : Nat → Int32) (name_6 : Nat → Int32) (sortOf_6 : Nat → Int32) (first_6 : Nat → Int32) (second_6 : Nat → Int32) (degree_6 : Nat → Int32) (colours_6 : Nat → Int32) (signBy_6 : Nat → Int32) (own_7 : Nat → Int32), P_10 atF_10 place_10 sort_10 value_10 fault_8 faultPlace_8 number_6 name_6 sortOf_6 first_6 second_6 degree_6 colours_6 signBy_6 own_7 → (J_1 colours_6 degree_6 first_6 isTold name_6 number_6 own_7 second_6 signBy_6 sortOf_6 atF_10 place_10 sort_10 value_10 fault_8 faultPlace_8))))) ∧ (value = 2 → (∃ (P_11 : (Int32) → (Int32) → (Int32) → (Int32) → (Int32) → (Int32) → (Nat → Int32) → (Nat → Int32) → Prop), wX11_readOnce thrown taped lines size atF place sort value fault faultPlace lastFault lastPlace undoable hasImage rowOf areSums isSieved blocks drawn isTold tape number 2 2 0 99999 P_11 ∧ ∀ (atF_11 : Int32) (place_11 : Int32) (sort_11 : Int32) (value_11 : Int32) (fault_9 : Int32) (faultPlace_9 : Int32) (isTold_2 : Nat → Int32) (number_7 : Nat → Int32), P_11 atF_11 place_11 sort_11 value_11 fault_9 faultPlace_9 isTold_2 number_7 → (J_1 colours degree first isTold_2 name number_7 own second signBy sortOf atF_11 place_11 sort_11 value_11 fault_9 faultPlace_9))))) ∧ (value = 1 → (∃ (P_12 : (Int32) → (Int32) → (Int32) → (Int32) → (Int32) → (Int32) → (Nat → Int32) → (Nat → Int32) → Prop), wX11_readOnce thrown taped lines size atF place sort value fault faultPlace lastFault lastPlace undoable hasImage rowOf areSums isSieved blocks drawn isTold tape number 1 1 2 1000003 P_12 ∧ ∀ (atF_12 : Int32) (place_12 : Int32) (sort_12 : Int32) (value_12 : Int32) (fault_10 : Int32) (faultPlace_10 : Int32) (isTold_3 : Nat → Int32) (number_8 : Nat → Int32), P_12 atF_12 place_12 sort_12 value_12 fault_10 faultPlace_10 isTold_3 number_8 → (J_1 colours degree first isTold_3 name number_8 own second signBy sortOf atF_12 place_12 sort_12 value_12 fault_10 faultPlace_10))))) ∧ (value = 0 → (∃ (P_13 : (Int32) → (Int32) → (Int32) → (Int32) → (Int32) → (Int32) → (Nat → Int32) → (Nat → Int32) → Prop), wX11_readOnce thrown taped lines size atF place sort value fault faultPlace lastFault lastPlace undoable hasImage rowOf areSums isSieved blocks drawn isTold tape number 0 0 1 200000 P_13 ∧ ∀ (atF_13 : Int32) (place_13 : Int32) (sort_13 : Int32) (value_13 : Int32) (fault_11 : Int32) (faultPlace_11 : Int32) (isTold_4 : Nat → Int32) (number_9 : Nat → Int32), P_13 atF_13 place_13 sort_13 value_13 fault_11 faultPlace_11 isTold_4 number_9 → (J_1 colours degree first isTold_4 name number_9 own second signBy sortOf atF_13 place_13 sort_13 value_13 fault_11 faultPlace_11))))) ∧ (¬ sort = 0 → (∃ (P_14 : (Int32) → (Int32) → Prop), wX11_wrong thrown taped lines size atF place sort value fault faultPlace lastFault lastPlace undoable hasImage rowOf areSums isSieved blocks drawn 1 P_14 ∧ ∀ (fault_12 : Int32) (faultPlace_12 : Int32), P_14 fault_12 faultPlace_12 → (J_1 colours degree first isTold name number own second signBy sortOf atF place sort value fault_12 faultPlace_12)))) ∧ (∀ (colours_1 : Nat → Int32) (degree_1 : Nat → Int32) (first_1 : Nat → Int32) (isTold_1 : Nat → Int32) (name_1 : Nat → Int32) (number_1 : Nat → Int32) (own_1 : Nat → Int32) (second_1 : Nat → Int32) (signBy_1 : Nat → Int32) (sortOf_1 : Nat → Int32) (atF_1 : Int32) (place_1 : Int32) (sort_1 : Int32) (value_1 : Int32) (fault_1 : Int32) (faultPlace_1 : Int32), J_1 colours_1 degree_1 first_1 isTold_1 name_1 number_1 own_1 second_1 signBy_1 sortOf_1 atF_1 place_1 sort_1 value_1 fault_1 faultPlace_1 → ((¬ fault_1 = 0 → (∃ (P_1 : (Int32) → (Int32) → (Int32) → (Int32) → Prop), wX11_goOn thrown taped lines size atF_1 place_1 sort_1 value_1 fault_1 faultPlace_1 lastFault lastPlace undoable hasImage rowOf areSums isSieved blocks drawn tape P_1 ∧ ∀ (atF_2 : Int32) (place_2 : Int32) (sort_2 : Int32) (value_2 : Int32), P_1 atF_2 place_2 sort_2 value_2 → ∀ lines_1 : Int32, lines_1 = lines + 1 → (Q lines_1 atF_2 place_2 sort_2 value_2 fault_1 faultPlace_1 number_1 name_1 sortOf_1 first_1 second_1 degree_1 colours_1 signBy_1 own_1 isTold_1))) ∧ (fault_1 = 0 → ((sort_1 = 4 → (∃ (P_2 : (Int32) → (Int32) → (Int32) → (Int32) → Prop), wX11_goOn thrown taped lines size atF_1 place_1 sort_1 value_1 fault_1 faultPlace_1 lastFault lastPlace undoable hasImage rowOf areSums isSieved blocks drawn tape P_2 ∧ ∀ (atF_3 : Int32) (place_3 : Int32) (sort_3 : Int32) (value_3 : Int32), P_2 atF_3 place_3 sort_3 value_3 → ∀ lines_2 : Int32, lines_2 = lines + 1 → (Q lines_2 atF_3 place_3 sort_3 value_3 fault_1 faultPlace_1 number_1 name_1 sortOf_1 first_1 second_1 degree_1 colours_1 signBy_1 own_1 isTold_1))) ∧ (¬ sort_1 = 4 → (∃ (P_3 : (Int32) → (Int32) → Prop), wX11_wrong thrown taped lines size atF_1 place_1 sort_1 value_1 fault_1 faultPlace_1 lastFault lastPlace undoable hasImage rowOf areSums isSieved blocks drawn 1 P_3 ∧ ∀ (fault_2 : Int32) (faultPlace_2 : Int32), P_3 fault_2 faultPlace_2 → ∃ (P_4 : (Int32) → (Int32) → (Int32) → (Int32) → Prop), wX11_goOn thrown taped lines size atF_1 place_1 sort_1 value_1 fault_2 faultPlace_2 lastFault lastPlace undoable hasImage rowOf areSums isSieved blocks drawn tape P_4 ∧ ∀ (atF_4 : Int32) (place_4 : Int32) (sort_4 : Int32) (value_4 : Int32), P_4 atF_4 place_4 sort_4 value_4 → ∀ lines_3 : Int32, lines_3 = lines + 1 → (Q lines_3 atF_4 place_4 sort_4 value_4 fault_2 faultPlace_2 number_1 name_1 sortOf_1 first_1 second_1 degree_1 colours_1 signBy_1 own_1 isTold_1))))))))
set_option maxHeartbeats 4000000 in
set_option maxRecDepth 100000 in
theorem mX11_readLine (l : Launch) (D : va_G) (Y : Nat → ClassId) (h0 : Nat) (thrown : Int32) (q_tape : Nat) (taped : Int32) (q_number : Nat) (q_isTold : Nat) (q_name : Nat) (q_sortOf : Nat) (q_first : Nat) (q_second : Nat) (q_degree : Nat) (q_colours : Nat) (q_signBy : Nat) (q_own : Nat) (lines : Int32) (size : Int32) (atF : Int32) (place : Int32) (sort : Int32) (value : Int32) (fault : Int32) (faultPlace : Int32) (lastFault : Int32) (lastPlace : Int32) (v_sF : Value) (v_kept : Value) (undoable : Int32) (hasImage : Int32) (v_power : Value) (v_table : Value) (v_marks : Value) (v_row : Value) (rowOf : Int32) (areSums : Int32) (isSieved : Int32) (v_lastOf : Value) (blocks : Int32) (v_inBlock : Value) (v_atQuotient : Value) (v_small : Value) (drawn : Int32) (number : Nat → Int32) (tape : Nat → Int32) (name : Nat → Int32) (sortOf : Nat → Int32) (first : Nat → Int32) (second : Nat → Int32) (degree : Nat → Int32) (colours : Nat → Int32) (signBy : Nat → Int32) (own : Nat → Int32) (isTold : Nat → Int32)  (Q : (Int32) → (Int32) → (Int32) → (Int32) → (Int32) → (Int32) → (Int32) → (Nat → Int32) → (Nat → Int32) → (Nat → Int32) → (Nat → Int32) → (Nat → Int32) → (Nat → Int32) → (Nat → Int32) → (Nat → Int32) → (Nat → Int32) → (Nat → Int32) → Prop) (h : wX11_readLine thrown taped lines size atF place sort value fault faultPlace lastFault lastPlace undoable hasImage rowOf areSums isSieved blocks drawn number tape name sortOf first second degree colours signBy own isTold Q) : gM l D Y yX11_readLine cX11_readLine 1 none 10 217 0 0 [.ref h0] [oX11 h0 thrown (.ref q_tape) taped (.ref q_number) (.ref q_isTold) (.ref q_name) (.ref q_sortOf) (.ref q_first) (.ref q_second) (.ref q_degree) (.ref q_colours) (.ref q_signBy) (.ref q_own) lines size atF place sort value fault faultPlace lastFault lastPlace (v_sF) (v_kept) undoable hasImage (v_power) (v_table) (v_marks) (v_row) rowOf areSums isSieved (v_lastOf) blocks (v_inBlock) (v_atQuotient) (v_small) drawn, aI Y q_number 8 number, aI Y q_tape 700 tape, aI Y q_name 24 name, aI Y q_sortOf 24 sortOf, aI Y q_first 24 first, aI Y q_second 24 second, aI Y q_degree 24 degree, aI Y q_colours 24 colours, aI Y q_signBy 24 signBy, aI Y q_own 288 own, aZ Y q_isTold 9 isTold] (fun v w => ∃ lines' : Int32, ∃ atF' : Int32, ∃ place' : Int32, ∃ sort' : Int32, ∃ value' : Int32, ∃ fault' : Int32, ∃ faultPlace' : Int32, ∃ number' : Nat → Int32, ∃ name' : Nat → Int32, ∃ sortOf' : Nat → Int32, ∃ first' : Nat → Int32, ∃ second' : Nat → Int32, ∃ degree' : Nat → Int32, ∃ colours' : Nat → Int32, ∃ signBy' : Nat → Int32, ∃ own' : Nat → Int32, ∃ isTold' : Nat → Int32, v = none ∧ w = [oX11 h0 thrown (.ref q_tape) taped (.ref q_number) (.ref q_isTold) (.ref q_name) (.ref q_sortOf) (.ref q_first) (.ref q_second) (.ref q_degree) (.ref q_colours) (.ref q_signBy) (.ref q_own) lines' size atF' place' sort' value' fault' faultPlace' lastFault lastPlace (v_sF) (v_kept) undoable hasImage (v_power) (v_table) (v_marks) (v_row) rowOf areSums isSieved (v_lastOf) blocks (v_inBlock) (v_atQuotient) (v_small) drawn, aI Y q_number 8 number', aI Y q_tape 700 tape, aI Y q_name 24 name', aI Y q_sortOf 24 sortOf', aI Y q_first 24 first', aI Y q_second 24 second', aI Y q_degree 24 degree', aI Y q_colours 24 colours', aI Y q_signBy 24 signBy', aI Y q_own 288 own', aZ Y q_isTold 9 isTold'] ∧ Q lines' atF' place' sort' value' fault' faultPlace' number' name' sortOf' first' second' degree' colours' signBy' own' isTold') := by
  refine gM_of (own := RX11) (by decide +kernel) rfl (Nat.le_of_ble_eq_true rfl) rfl (fun E C hR => ?_)
  unfold wX11_readLine at h
  refine g_aload_n C dX11_readLine_0 0 rfl ?_
  refine g_get C inX11 0 rfl rfl 17 (by decide) wF_X11_108 rfl dX11_readLine_1 ?_
  obtain ⟨J_1, hA, hB_J_1⟩ := h
  have key_1 : ∀ (colours_1 : Nat → Int32) (degree_1 : Nat → Int32) (first_1 : Nat → Int32) (isTold_1 : Nat → Int32) (name_1 : Nat → Int32) (number_1 : Nat → Int32) (own_1 : Nat → Int32) (second_1 : Nat → Int32) (signBy_1 : Nat → Int32) (sortOf_1 : Nat → Int32) (atF_1 : Int32) (place_1 : Int32) (sort_1 : Int32) (value_1 : Int32) (fault_1 : Int32) (faultPlace_1 : Int32), J_1 colours_1 degree_1 first_1 isTold_1 name_1 number_1 own_1 second_1 signBy_1 sortOf_1 atF_1 place_1 sort_1 value_1 fault_1 faultPlace_1 → gG E 0 0 [oX11 h0 thrown (.ref q_tape) taped (.ref q_number) (.ref q_isTold) (.ref q_name) (.ref q_sortOf) (.ref q_first) (.ref q_second) (.ref q_degree) (.ref q_colours) (.ref q_signBy) (.ref q_own) lines size atF_1 place_1 sort_1 value_1 fault_1 faultPlace_1 lastFault lastPlace (v_sF) (v_kept) undoable hasImage (v_power) (v_table) (v_marks) (v_row) rowOf areSums isSieved (v_lastOf) blocks (v_inBlock) (v_atQuotient) (v_small) drawn, aI Y q_number 8 number_1, aI Y q_tape 700 tape, aI Y q_name 24 name_1, aI Y q_sortOf 24 sortOf_1, aI Y q_first 24 first_1, aI Y q_second 24 second_1, aI Y q_degree 24 degree_1, aI Y q_colours 24 colours_1, aI Y q_signBy 24 signBy_1, aI Y q_own 288 own_1, aZ Y q_isTold 9 isTold_1] [(0, .ref h0)] [] 160 := by
    intro colours_1 degree_1 first_1 isTold_1 name_1 number_1 own_1 second_1 signBy_1 sortOf_1 atF_1 place_1 sort_1 value_1 fault_1 faultPlace_1 hJ
    have h := hB_J_1 colours_1 degree_1 first_1 isTold_1 name_1 number_1 own_1 second_1 signBy_1 sortOf_1 atF_1 place_1 sort_1 value_1 fault_1 faultPlace_1 hJ
    refine g_aload_n C dX11_readLine_160 0 rfl ?_
    refine g_get C inX11 0 rfl rfl 19 (by decide) wF_X11_142 rfl dX11_readLine_161 ?_
    refine g_if_ne (tgt := 180) C dX11_readLine_164 (by decide) (fun c_1 => ?_) (fun c_1 => ?_)
    · replace h := h.1 c_1
      refine g_aload_n C dX11_readLine_180 0 rfl ?_
      obtain ⟨P_1, hP, h⟩ := h
      refine g_callV (As := []) (rest := []) C (mX11_goOn l D Y h0 thrown q_tape taped (.ref q_number) (.ref q_isTold) (.ref q_name) (.ref q_sortOf) (.ref q_first) (.ref q_second) (.ref q_degree) (.ref q_colours) (.ref q_signBy) (.ref q_own) lines size atF_1 place_1 sort_1 value_1 fault_1 faultPlace_1 lastFault lastPlace v_sF v_kept undoable hasImage v_power v_table v_marks v_row rowOf areSums isSieved v_lastOf blocks v_inBlock v_atQuotient v_small drawn tape P_1 hP) dX11_readLine_181 rfl wM_X11_155 wI_X11_goOn wV_X11_goOn wN_X11 wC_X11_goOn (n := 0) (by decide +kernel) rfl (q0 := 0) rfl rfl ⟨Nat.le_of_ble_eq_true rfl, Nat.le_of_ble_eq_true rfl⟩ ⟨Nat.le_of_ble_eq_true rfl, Nat.le_of_ble_eq_true rfl⟩ (Nat.le_of_ble_eq_true rfl) [0, 2] [1, 3, 4, 5, 6, 7, 8, 9, 10, 11] rfl rfl rfl (fun v wc hv => ?_)
      obtain ⟨atF_2, place_2, sort_2, value_2, rfl, rfl, hq⟩ := hv
      replace h := h atF_2 place_2 sort_2 value_2 hq
      refine gG.perm (ws' := [oX11 h0 thrown (.ref q_tape) taped (.ref q_number) (.ref q_isTold) (.ref q_name) (.ref q_sortOf) (.ref q_first) (.ref q_second) (.ref q_degree) (.ref q_colours) (.ref q_signBy) (.ref q_own) lines size atF_2 place_2 sort_2 value_2 fault_1 faultPlace_1 lastFault lastPlace (v_sF) (v_kept) undoable hasImage (v_power) (v_table) (v_marks) (v_row) rowOf areSums isSieved (v_lastOf) blocks (v_inBlock) (v_atQuotient) (v_small) drawn, aI Y q_number 8 number_1, aI Y q_tape 700 tape, aI Y q_name 24 name_1, aI Y q_sortOf 24 sortOf_1, aI Y q_first 24 first_1, aI Y q_second 24 second_1, aI Y q_degree 24 degree_1, aI Y q_colours 24 colours_1, aI Y q_signBy 24 signBy_1, aI Y q_own 288 own_1, aZ Y q_isTold 9 isTold_1]) [10, 0, 11, 1, 2, 3, 4, 5, 6, 7, 8, 9] rfl rfl ?_
      refine g_aload_n C dX11_readLine_184 0 rfl ?_
      refine g_dup C dX11_readLine_185 rfl ?_
      refine g_get C inX11 0 rfl rfl 13 (by decide) wF_X11_202 rfl dX11_readLine_186 ?_
      refine g_iconst (v := 1) C dX11_readLine_189 rfl ?_
      refine g_iadd C dX11_readLine_190 ?_
      refine g_topi (fun lines_1 elines_1 => ?_)
      replace h := h lines_1 elines_1
      refine g_put C inX11 tyX11 tyX11_ok nmX11 0 rfl rfl 13 (by decide) wF_X11_202 rfl rfl rfl (Nat.le_of_ble_eq_true rfl) (ws' := [oX11 h0 thrown (.ref q_tape) taped (.ref q_number) (.ref q_isTold) (.ref q_name) (.ref q_sortOf) (.ref q_first) (.ref q_second) (.ref q_degree) (.ref q_colours) (.ref q_signBy) (.ref q_own) lines_1 size atF_2 place_2 sort_2 value_2 fault_1 faultPlace_1 lastFault lastPlace (v_sF) (v_kept) undoable hasImage (v_power) (v_table) (v_marks) (v_row) rowOf areSums isSieved (v_lastOf) blocks (v_inBlock) (v_atQuotient) (v_small) drawn, aI Y q_number 8 number_1, aI Y q_tape 700 tape, aI Y q_name 24 name_1, aI Y q_sortOf 24 sortOf_1, aI Y q_first 24 first_1, aI Y q_second 24 second_1, aI Y q_degree 24 degree_1, aI Y q_colours 24 colours_1, aI Y q_signBy 24 signBy_1, aI Y q_own 288 own_1, aZ Y q_isTold 9 isTold_1]) rfl dX11_readLine_191 ?_
      exact g_vret C hR (Nat.le_of_ble_eq_true rfl) (Nat.le_of_ble_eq_true rfl) dX11_readLine_194 ⟨lines_1, atF_2, place_2, sort_2, value_2, fault_1, faultPlace_1, number_1, name_1, sortOf_1, first_1, second_1, degree_1, colours_1, signBy_1, own_1, isTold_1, rfl, rfl, h⟩
    · replace h := h.2 c_1
      refine g_aload_n C dX11_readLine_167 0 rfl ?_
      refine g_get C inX11 0 rfl rfl 17 (by decide) wF_X11_108 rfl dX11_readLine_168 ?_
      refine g_iconst (v := 4) C dX11_readLine_171 rfl ?_
      refine g_icmp_eq (tgt := 180) C dX11_readLine_172 (by decide) (fun c_2 => ?_) (fun c_2 => ?_)
      · replace h := h.1 c_2
        refine g_aload_n C dX11_readLine_180 0 rfl ?_
        obtain ⟨P_2, hP, h⟩ := h
        refine g_callV (As := []) (rest := []) C (mX11_goOn l D Y h0 thrown q_tape taped (.ref q_number) (.ref q_isTold) (.ref q_name) (.ref q_sortOf) (.ref q_first) (.ref q_second) (.ref q_degree) (.ref q_colours) (.ref q_signBy) (.ref q_own) lines size atF_1 place_1 sort_1 value_1 fault_1 faultPlace_1 lastFault lastPlace v_sF v_kept undoable hasImage v_power v_table v_marks v_row rowOf areSums isSieved v_lastOf blocks v_inBlock v_atQuotient v_small drawn tape P_2 hP) dX11_readLine_181 rfl wM_X11_155 wI_X11_goOn wV_X11_goOn wN_X11 wC_X11_goOn (n := 0) (by decide +kernel) rfl (q0 := 0) rfl rfl ⟨Nat.le_of_ble_eq_true rfl, Nat.le_of_ble_eq_true rfl⟩ ⟨Nat.le_of_ble_eq_true rfl, Nat.le_of_ble_eq_true rfl⟩ (Nat.le_of_ble_eq_true rfl) [0, 2] [1, 3, 4, 5, 6, 7, 8, 9, 10, 11] rfl rfl rfl (fun v wc hv => ?_)
        obtain ⟨atF_3, place_3, sort_3, value_3, rfl, rfl, hq⟩ := hv
        replace h := h atF_3 place_3 sort_3 value_3 hq
        refine gG.perm (ws' := [oX11 h0 thrown (.ref q_tape) taped (.ref q_number) (.ref q_isTold) (.ref q_name) (.ref q_sortOf) (.ref q_first) (.ref q_second) (.ref q_degree) (.ref q_colours) (.ref q_signBy) (.ref q_own) lines size atF_3 place_3 sort_3 value_3 fault_1 faultPlace_1 lastFault lastPlace (v_sF) (v_kept) undoable hasImage (v_power) (v_table) (v_marks) (v_row) rowOf areSums isSieved (v_lastOf) blocks (v_inBlock) (v_atQuotient) (v_small) drawn, aI Y q_number 8 number_1, aI Y q_tape 700 tape, aI Y q_name 24 name_1, aI Y q_sortOf 24 sortOf_1, aI Y q_first 24 first_1, aI Y q_second 24 second_1, aI Y q_degree 24 degree_1, aI Y q_colours 24 colours_1, aI Y q_signBy 24 signBy_1, aI Y q_own 288 own_1, aZ Y q_isTold 9 isTold_1]) [10, 0, 11, 1, 2, 3, 4, 5, 6, 7, 8, 9] rfl rfl ?_
        refine g_aload_n C dX11_readLine_184 0 rfl ?_
        refine g_dup C dX11_readLine_185 rfl ?_
        refine g_get C inX11 0 rfl rfl 13 (by decide) wF_X11_202 rfl dX11_readLine_186 ?_
        refine g_iconst (v := 1) C dX11_readLine_189 rfl ?_
        refine g_iadd C dX11_readLine_190 ?_
        refine g_topi (fun lines_2 elines_2 => ?_)
        replace h := h lines_2 elines_2
        refine g_put C inX11 tyX11 tyX11_ok nmX11 0 rfl rfl 13 (by decide) wF_X11_202 rfl rfl rfl (Nat.le_of_ble_eq_true rfl) (ws' := [oX11 h0 thrown (.ref q_tape) taped (.ref q_number) (.ref q_isTold) (.ref q_name) (.ref q_sortOf) (.ref q_first) (.ref q_second) (.ref q_degree) (.ref q_colours) (.ref q_signBy) (.ref q_own) lines_2 size atF_3 place_3 sort_3 value_3 fault_1 faultPlace_1 lastFault lastPlace (v_sF) (v_kept) undoable hasImage (v_power) (v_table) (v_marks) (v_row) rowOf areSums isSieved (v_lastOf) blocks (v_inBlock) (v_atQuotient) (v_small) drawn, aI Y q_number 8 number_1, aI Y q_tape 700 tape, aI Y q_name 24 name_1, aI Y q_sortOf 24 sortOf_1, aI Y q_first 24 first_1, aI Y q_second 24 second_1, aI Y q_degree 24 degree_1, aI Y q_colours 24 colours_1, aI Y q_signBy 24 signBy_1, aI Y q_own 288 own_1, aZ Y q_isTold 9 isTold_1]) rfl dX11_readLine_191 ?_
        exact g_vret C hR (Nat.le_of_ble_eq_true rfl) (Nat.le_of_ble_eq_true rfl) dX11_readLine_194 ⟨lines_2, atF_3, place_3, sort_3, value_3, fault_1, faultPlace_1, number_1, name_1, sortOf_1, first_1, second_1, degree_1, colours_1, signBy_1, own_1, isTold_1, rfl, rfl, h⟩
      · replace h := h.2 c_2
        refine g_aload_n C dX11_readLine_175 0 rfl ?_
        refine g_iconst (v := 1) C dX11_readLine_176 rfl ?_
        obtain ⟨P_3, hP, h⟩ := h
        refine g_callV (As := [.int 1]) (rest := []) C (mX11_wrong l D Y h0 thrown (.ref q_tape) taped (.ref q_number) (.ref q_isTold) (.ref q_name) (.ref q_sortOf) (.ref q_first) (.ref q_second) (.ref q_degree) (.ref q_colours) (.ref q_signBy) (.ref q_own) lines size atF_1 place_1 sort_1 value_1 fault_1 faultPlace_1 lastFault lastPlace v_sF v_kept undoable hasImage v_power v_table v_marks v_row rowOf areSums isSieved v_lastOf blocks v_inBlock v_atQuotient v_small drawn 1 P_3 hP) dX11_readLine_177 rfl wM_X11_151 wI_X11_wrong wV_X11_wrong wN_X11 wC_X11_wrong (n := 1) (by decide +kernel) rfl (q0 := 0) rfl rfl ⟨Nat.le_of_ble_eq_true rfl, Nat.le_of_ble_eq_true rfl⟩ ⟨Nat.le_of_ble_eq_true rfl, Nat.le_of_ble_eq_true rfl⟩ (Nat.le_of_ble_eq_true rfl) [0] [1, 2, 3, 4, 5, 6, 7, 8, 9, 10, 11] rfl rfl rfl (fun v wc hv => ?_)
        obtain ⟨fault_2, faultPlace_2, rfl, rfl, hq⟩ := hv
        replace h := h fault_2 faultPlace_2 hq
        refine gG.perm (ws' := [oX11 h0 thrown (.ref q_tape) taped (.ref q_number) (.ref q_isTold) (.ref q_name) (.ref q_sortOf) (.ref q_first) (.ref q_second) (.ref q_degree) (.ref q_colours) (.ref q_signBy) (.ref q_own) lines size atF_1 place_1 sort_1 value_1 fault_2 faultPlace_2 lastFault lastPlace (v_sF) (v_kept) undoable hasImage (v_power) (v_table) (v_marks) (v_row) rowOf areSums isSieved (v_lastOf) blocks (v_inBlock) (v_atQuotient) (v_small) drawn, aI Y q_number 8 number_1, aI Y q_tape 700 tape, aI Y q_name 24 name_1, aI Y q_sortOf 24 sortOf_1, aI Y q_first 24 first_1, aI Y q_second 24 second_1, aI Y q_degree 24 degree_1, aI Y q_colours 24 colours_1, aI Y q_signBy 24 signBy_1, aI Y q_own 288 own_1, aZ Y q_isTold 9 isTold_1]) [11, 0, 1, 2, 3, 4, 5, 6, 7, 8, 9, 10] rfl rfl ?_
        refine g_aload_n C dX11_readLine_180 0 rfl ?_
        obtain ⟨P_4, hP, h⟩ := h
        refine g_callV (As := []) (rest := []) C (mX11_goOn l D Y h0 thrown q_tape taped (.ref q_number) (.ref q_isTold) (.ref q_name) (.ref q_sortOf) (.ref q_first) (.ref q_second) (.ref q_degree) (.ref q_colours) (.ref q_signBy) (.ref q_own) lines size atF_1 place_1 sort_1 value_1 fault_2 faultPlace_2 lastFault lastPlace v_sF v_kept undoable hasImage v_power v_table v_marks v_row rowOf areSums isSieved v_lastOf blocks v_inBlock v_atQuotient v_small drawn tape P_4 hP) dX11_readLine_181 rfl wM_X11_155 wI_X11_goOn wV_X11_goOn wN_X11 wC_X11_goOn (n := 0) (by decide +kernel) rfl (q0 := 0) rfl rfl ⟨Nat.le_of_ble_eq_true rfl, Nat.le_of_ble_eq_true rfl⟩ ⟨Nat.le_of_ble_eq_true rfl, Nat.le_of_ble_eq_true rfl⟩ (Nat.le_of_ble_eq_true rfl) [0, 2] [1, 3, 4, 5, 6, 7, 8, 9, 10, 11] rfl rfl rfl (fun v wc hv => ?_)
        obtain ⟨atF_4, place_4, sort_4, value_4, rfl, rfl, hq⟩ := hv
        replace h := h atF_4 place_4 sort_4 value_4 hq
        refine gG.perm (ws' := [oX11 h0 thrown (.ref q_tape) taped (.ref q_number) (.ref q_isTold) (.ref q_name) (.ref q_sortOf) (.ref q_first) (.ref q_second) (.ref q_degree) (.ref q_colours) (.ref q_signBy) (.ref q_own) lines size atF_4 place_4 sort_4 value_4 fault_2 faultPlace_2 lastFault lastPlace (v_sF) (v_kept) undoable hasImage (v_power) (v_table) (v_marks) (v_row) rowOf areSums isSieved (v_lastOf) blocks (v_inBlock) (v_atQuotient) (v_small) drawn, aI Y q_number 8 number_1, aI Y q_tape 700 tape, aI Y q_name 24 name_1, aI Y q_sortOf 24 sortOf_1, aI Y q_first 24 first_1, aI Y q_second 24 second_1, aI Y q_degree 24 degree_1, aI Y q_colours 24 colours_1, aI Y q_signBy 24 signBy_1, aI Y q_own 288 own_1, aZ Y q_isTold 9 isTold_1]) [10, 0, 11, 1, 2, 3, 4, 5, 6, 7, 8, 9] rfl rfl ?_
        refine g_aload_n C dX11_readLine_184 0 rfl ?_
        refine g_dup C dX11_readLine_185 rfl ?_
        refine g_get C inX11 0 rfl rfl 13 (by decide) wF_X11_202 rfl dX11_readLine_186 ?_
        refine g_iconst (v := 1) C dX11_readLine_189 rfl ?_
        refine g_iadd C dX11_readLine_190 ?_
        refine g_topi (fun lines_3 elines_3 => ?_)
        replace h := h lines_3 elines_3
        refine g_put C inX11 tyX11 tyX11_ok nmX11 0 rfl rfl 13 (by decide) wF_X11_202 rfl rfl rfl (Nat.le_of_ble_eq_true rfl) (ws' := [oX11 h0 thrown (.ref q_tape) taped (.ref q_number) (.ref q_isTold) (.ref q_name) (.ref q_sortOf) (.ref q_first) (.ref q_second) (.ref q_degree) (.ref q_colours) (.ref q_signBy) (.ref q_own) lines_3 size atF_4 place_4 sort_4 value_4 fault_2 faultPlace_2 lastFault lastPlace (v_sF) (v_kept) undoable hasImage (v_power) (v_table) (v_marks) (v_row) rowOf areSums isSieved (v_lastOf) blocks (v_inBlock) (v_atQuotient) (v_small) drawn, aI Y q_number 8 number_1, aI Y q_tape 700 tape, aI Y q_name 24 name_1, aI Y q_sortOf 24 sortOf_1, aI Y q_first 24 first_1, aI Y q_second 24 second_1, aI Y q_degree 24 degree_1, aI Y q_colours 24 colours_1, aI Y q_signBy 24 signBy_1, aI Y q_own 288 own_1, aZ Y q_isTold 9 isTold_1]) rfl dX11_readLine_191 ?_
        exact g_vret C hR (Nat.le_of_ble_eq_true rfl) (Nat.le_of_ble_eq_true rfl) dX11_readLine_194 ⟨lines_3, atF_4, place_4, sort_4, value_4, fault_2, faultPlace_2, number_1, name_1, sortOf_1, first_1, second_1, degree_1, colours_1, signBy_1, own_1, isTold_1, rfl, rfl, h⟩
  replace h := hA
  refine g_if_eq (tgt := 15) C dX11_readLine_4 (by decide) (fun c_3 => ?_) (fun c_3 => ?_)
  · replace h := h.1 c_3
    refine g_aload_n C dX11_readLine_15 0 rfl ?_
    refine g_get C inX11 0 rfl rfl 18 (by decide) wF_X11_118 rfl dX11_readLine_16 ?_
    refine g_if_ne (tgt := 34) C dX11_readLine_19 (by decide) (fun c_4 => ?_) (fun c_4 => ?_)
    · replace h := h.1 c_4
      refine g_aload_n C dX11_readLine_34 0 rfl ?_
      refine g_get C inX11 0 rfl rfl 18 (by decide) wF_X11_118 rfl dX11_readLine_35 ?_
      refine g_iconst (v := 1) C dX11_readLine_38 rfl ?_
      refine g_icmp_ne (tgt := 54) C dX11_readLine_39 (by decide) (fun c_5 => ?_) (fun c_5 => ?_)
      · replace h := h.1 c_5
        refine g_aload_n C dX11_readLine_54 0 rfl ?_
        refine g_get C inX11 0 rfl rfl 18 (by decide) wF_X11_118 rfl dX11_readLine_55 ?_
        refine g_iconst (v := 2) C dX11_readLine_58 rfl ?_
        refine g_icmp_ne (tgt := 74) C dX11_readLine_59 (by decide) (fun c_6 => ?_) (fun c_6 => ?_)
        · replace h := h.1 c_6
          refine g_aload_n C dX11_readLine_74 0 rfl ?_
          refine g_get C inX11 0 rfl rfl 18 (by decide) wF_X11_118 rfl dX11_readLine_75 ?_
          refine g_iconst (v := 3) C dX11_readLine_78 rfl ?_
          refine g_icmp_ne (tgt := 90) C dX11_readLine_79 (by decide) (fun c_7 => ?_) (fun c_7 => ?_)
          · replace h := h.1 c_7
            refine g_aload_n C dX11_readLine_90 0 rfl ?_
            refine g_get C inX11 0 rfl rfl 18 (by decide) wF_X11_118 rfl dX11_readLine_91 ?_
            refine g_iconst (v := 4) C dX11_readLine_94 rfl ?_
            refine g_icmp_ne (tgt := 105) C dX11_readLine_95 (by decide) (fun c_8 => ?_) (fun c_8 => ?_)
            · replace h := h.1 c_8
              refine g_aload_n C dX11_readLine_105 0 rfl ?_
              refine g_get C inX11 0 rfl rfl 18 (by decide) wF_X11_118 rfl dX11_readLine_106 ?_
              refine g_iconst (v := 5) C dX11_readLine_109 rfl ?_
              refine g_icmp_ne (tgt := 121) C dX11_readLine_110 (by decide) (fun c_9 => ?_) (fun c_9 => ?_)
              · replace h := h.1 c_9
                refine g_aload_n C dX11_readLine_121 0 rfl ?_
                refine g_get C inX11 0 rfl rfl 18 (by decide) wF_X11_118 rfl dX11_readLine_122 ?_
                refine g_bipush (v := 6) C dX11_readLine_125 rfl ?_
                refine g_icmp_ne (tgt := 138) C dX11_readLine_127 (by decide) (fun c_10 => ?_) (fun c_10 => ?_)
                · replace h := h.1 c_10
                  refine g_aload_n C dX11_readLine_138 0 rfl ?_
                  refine g_get C inX11 0 rfl rfl 18 (by decide) wF_X11_118 rfl dX11_readLine_139 ?_
                  refine g_bipush (v := 7) C dX11_readLine_142 rfl ?_
                  refine g_icmp_ne (tgt := 155) C dX11_readLine_144 (by decide) (fun c_11 => ?_) (fun c_11 => ?_)
                  · replace h := h.1 c_11
                    refine g_aload_n C dX11_readLine_155 0 rfl ?_
                    refine g_iconst (v := 5) C dX11_readLine_156 rfl ?_
                    obtain ⟨P_5, hP, h⟩ := h
                    refine g_callV (As := [.int 5]) (rest := []) C (mX11_readFunction l D Y h0 thrown q_tape taped q_number (.ref q_isTold) q_name q_sortOf q_first q_second q_degree q_colours q_signBy q_own lines size atF place sort value fault faultPlace lastFault lastPlace v_sF v_kept undoable hasImage v_power v_table v_marks v_row rowOf areSums isSieved v_lastOf blocks v_inBlock v_atQuotient v_small drawn number tape name sortOf first second degree colours signBy own 5 P_5 hP) dX11_readLine_157 rfl wM_X11_196 wI_X11_readFunction wV_X11_readFunction wN_X11 wC_X11_readFunction (n := 1) (by decide +kernel) rfl (q0 := 0) rfl rfl ⟨Nat.le_of_ble_eq_true rfl, Nat.le_of_ble_eq_true rfl⟩ ⟨Nat.le_of_ble_eq_true rfl, Nat.le_of_ble_eq_true rfl⟩ (Nat.le_of_ble_eq_true rfl) [0, 1, 2, 3, 4, 5, 6, 7, 8, 9, 10] [11] rfl rfl rfl (fun v wc hv => ?_)
                    obtain ⟨atF_5, place_5, sort_5, value_5, fault_3, faultPlace_3, number_2, name_2, sortOf_2, first_2, second_2, degree_2, colours_2, signBy_2, own_2, rfl, rfl, hq⟩ := hv
                    replace h := h atF_5 place_5 sort_5 value_5 fault_3 faultPlace_3 number_2 name_2 sortOf_2 first_2 second_2 degree_2 colours_2 signBy_2 own_2 hq
                    refine gG.perm (ws' := [oX11 h0 thrown (.ref q_tape) taped (.ref q_number) (.ref q_isTold) (.ref q_name) (.ref q_sortOf) (.ref q_first) (.ref q_second) (.ref q_degree) (.ref q_colours) (.ref q_signBy) (.ref q_own) lines size atF_5 place_5 sort_5 value_5 fault_3 faultPlace_3 lastFault lastPlace (v_sF) (v_kept) undoable hasImage (v_power) (v_table) (v_marks) (v_row) rowOf areSums isSieved (v_lastOf) blocks (v_inBlock) (v_atQuotient) (v_small) drawn, aI Y q_number 8 number_2, aI Y q_tape 700 tape, aI Y q_name 24 name_2, aI Y q_sortOf 24 sortOf_2, aI Y q_first 24 first_2, aI Y q_second 24 second_2, aI Y q_degree 24 degree_2, aI Y q_colours 24 colours_2, aI Y q_signBy 24 signBy_2, aI Y q_own 288 own_2, aZ Y q_isTold 9 isTold]) [1, 2, 3, 4, 5, 6, 7, 8, 9, 10, 11, 0] rfl rfl ?_
                    exact key_1 colours_2 degree_2 first_2 isTold name_2 number_2 own_2 second_2 signBy_2 sortOf_2 atF_5 place_5 sort_5 value_5 fault_3 faultPlace_3 h
                  · replace h := h.2 c_11
                    refine g_aload_n C dX11_readLine_147 0 rfl ?_
                    refine g_iconst (v := 4) C dX11_readLine_148 rfl ?_
                    obtain ⟨P_6, hP, h⟩ := h
                    refine g_callV (As := [.int 4]) (rest := []) C (mX11_readFunction l D Y h0 thrown q_tape taped q_number (.ref q_isTold) q_name q_sortOf q_first q_second q_degree q_colours q_signBy q_own lines size atF place sort value fault faultPlace lastFault lastPlace v_sF v_kept undoable hasImage v_power v_table v_marks v_row rowOf areSums isSieved v_lastOf blocks v_inBlock v_atQuotient v_small drawn number tape name sortOf first second degree colours signBy own 4 P_6 hP) dX11_readLine_149 rfl wM_X11_196 wI_X11_readFunction wV_X11_readFunction wN_X11 wC_X11_readFunction (n := 1) (by decide +kernel) rfl (q0 := 0) rfl rfl ⟨Nat.le_of_ble_eq_true rfl, Nat.le_of_ble_eq_true rfl⟩ ⟨Nat.le_of_ble_eq_true rfl, Nat.le_of_ble_eq_true rfl⟩ (Nat.le_of_ble_eq_true rfl) [0, 1, 2, 3, 4, 5, 6, 7, 8, 9, 10] [11] rfl rfl rfl (fun v wc hv => ?_)
                    obtain ⟨atF_6, place_6, sort_6, value_6, fault_4, faultPlace_4, number_3, name_3, sortOf_3, first_3, second_3, degree_3, colours_3, signBy_3, own_3, rfl, rfl, hq⟩ := hv
                    replace h := h atF_6 place_6 sort_6 value_6 fault_4 faultPlace_4 number_3 name_3 sortOf_3 first_3 second_3 degree_3 colours_3 signBy_3 own_3 hq
                    refine gG.perm (ws' := [oX11 h0 thrown (.ref q_tape) taped (.ref q_number) (.ref q_isTold) (.ref q_name) (.ref q_sortOf) (.ref q_first) (.ref q_second) (.ref q_degree) (.ref q_colours) (.ref q_signBy) (.ref q_own) lines size atF_6 place_6 sort_6 value_6 fault_4 faultPlace_4 lastFault lastPlace (v_sF) (v_kept) undoable hasImage (v_power) (v_table) (v_marks) (v_row) rowOf areSums isSieved (v_lastOf) blocks (v_inBlock) (v_atQuotient) (v_small) drawn, aI Y q_number 8 number_3, aI Y q_tape 700 tape, aI Y q_name 24 name_3, aI Y q_sortOf 24 sortOf_3, aI Y q_first 24 first_3, aI Y q_second 24 second_3, aI Y q_degree 24 degree_3, aI Y q_colours 24 colours_3, aI Y q_signBy 24 signBy_3, aI Y q_own 288 own_3, aZ Y q_isTold 9 isTold]) [1, 2, 3, 4, 5, 6, 7, 8, 9, 10, 11, 0] rfl rfl ?_
                    refine g_goto (tgt := 160) C dX11_readLine_152 (by decide) ?_
                    exact key_1 colours_3 degree_3 first_3 isTold name_3 number_3 own_3 second_3 signBy_3 sortOf_3 atF_6 place_6 sort_6 value_6 fault_4 faultPlace_4 h
                · replace h := h.2 c_10
                  refine g_aload_n C dX11_readLine_130 0 rfl ?_
                  refine g_iconst (v := 3) C dX11_readLine_131 rfl ?_
                  obtain ⟨P_7, hP, h⟩ := h
                  refine g_callV (As := [.int 3]) (rest := []) C (mX11_readFunction l D Y h0 thrown q_tape taped q_number (.ref q_isTold) q_name q_sortOf q_first q_second q_degree q_colours q_signBy q_own lines size atF place sort value fault faultPlace lastFault lastPlace v_sF v_kept undoable hasImage v_power v_table v_marks v_row rowOf areSums isSieved v_lastOf blocks v_inBlock v_atQuotient v_small drawn number tape name sortOf first second degree colours signBy own 3 P_7 hP) dX11_readLine_132 rfl wM_X11_196 wI_X11_readFunction wV_X11_readFunction wN_X11 wC_X11_readFunction (n := 1) (by decide +kernel) rfl (q0 := 0) rfl rfl ⟨Nat.le_of_ble_eq_true rfl, Nat.le_of_ble_eq_true rfl⟩ ⟨Nat.le_of_ble_eq_true rfl, Nat.le_of_ble_eq_true rfl⟩ (Nat.le_of_ble_eq_true rfl) [0, 1, 2, 3, 4, 5, 6, 7, 8, 9, 10] [11] rfl rfl rfl (fun v wc hv => ?_)
                  obtain ⟨atF_7, place_7, sort_7, value_7, fault_5, faultPlace_5, number_4, name_4, sortOf_4, first_4, second_4, degree_4, colours_4, signBy_4, own_4, rfl, rfl, hq⟩ := hv
                  replace h := h atF_7 place_7 sort_7 value_7 fault_5 faultPlace_5 number_4 name_4 sortOf_4 first_4 second_4 degree_4 colours_4 signBy_4 own_4 hq
                  refine gG.perm (ws' := [oX11 h0 thrown (.ref q_tape) taped (.ref q_number) (.ref q_isTold) (.ref q_name) (.ref q_sortOf) (.ref q_first) (.ref q_second) (.ref q_degree) (.ref q_colours) (.ref q_signBy) (.ref q_own) lines size atF_7 place_7 sort_7 value_7 fault_5 faultPlace_5 lastFault lastPlace (v_sF) (v_kept) undoable hasImage (v_power) (v_table) (v_marks) (v_row) rowOf areSums isSieved (v_lastOf) blocks (v_inBlock) (v_atQuotient) (v_small) drawn, aI Y q_number 8 number_4, aI Y q_tape 700 tape, aI Y q_name 24 name_4, aI Y q_sortOf 24 sortOf_4, aI Y q_first 24 first_4, aI Y q_second 24 second_4, aI Y q_degree 24 degree_4, aI Y q_colours 24 colours_4, aI Y q_signBy 24 signBy_4, aI Y q_own 288 own_4, aZ Y q_isTold 9 isTold]) [1, 2, 3, 4, 5, 6, 7, 8, 9, 10, 11, 0] rfl rfl ?_
                  refine g_goto (tgt := 160) C dX11_readLine_135 (by decide) ?_
                  exact key_1 colours_4 degree_4 first_4 isTold name_4 number_4 own_4 second_4 signBy_4 sortOf_4 atF_7 place_7 sort_7 value_7 fault_5 faultPlace_5 h
              · replace h := h.2 c_9
                refine g_aload_n C dX11_readLine_113 0 rfl ?_
                refine g_iconst (v := 2) C dX11_readLine_114 rfl ?_
                obtain ⟨P_8, hP, h⟩ := h
                refine g_callV (As := [.int 2]) (rest := []) C (mX11_readFunction l D Y h0 thrown q_tape taped q_number (.ref q_isTold) q_name q_sortOf q_first q_second q_degree q_colours q_signBy q_own lines size atF place sort value fault faultPlace lastFault lastPlace v_sF v_kept undoable hasImage v_power v_table v_marks v_row rowOf areSums isSieved v_lastOf blocks v_inBlock v_atQuotient v_small drawn number tape name sortOf first second degree colours signBy own 2 P_8 hP) dX11_readLine_115 rfl wM_X11_196 wI_X11_readFunction wV_X11_readFunction wN_X11 wC_X11_readFunction (n := 1) (by decide +kernel) rfl (q0 := 0) rfl rfl ⟨Nat.le_of_ble_eq_true rfl, Nat.le_of_ble_eq_true rfl⟩ ⟨Nat.le_of_ble_eq_true rfl, Nat.le_of_ble_eq_true rfl⟩ (Nat.le_of_ble_eq_true rfl) [0, 1, 2, 3, 4, 5, 6, 7, 8, 9, 10] [11] rfl rfl rfl (fun v wc hv => ?_)
                obtain ⟨atF_8, place_8, sort_8, value_8, fault_6, faultPlace_6, number_5, name_5, sortOf_5, first_5, second_5, degree_5, colours_5, signBy_5, own_5, rfl, rfl, hq⟩ := hv
                replace h := h atF_8 place_8 sort_8 value_8 fault_6 faultPlace_6 number_5 name_5 sortOf_5 first_5 second_5 degree_5 colours_5 signBy_5 own_5 hq
                refine gG.perm (ws' := [oX11 h0 thrown (.ref q_tape) taped (.ref q_number) (.ref q_isTold) (.ref q_name) (.ref q_sortOf) (.ref q_first) (.ref q_second) (.ref q_degree) (.ref q_colours) (.ref q_signBy) (.ref q_own) lines size atF_8 place_8 sort_8 value_8 fault_6 faultPlace_6 lastFault lastPlace (v_sF) (v_kept) undoable hasImage (v_power) (v_table) (v_marks) (v_row) rowOf areSums isSieved (v_lastOf) blocks (v_inBlock) (v_atQuotient) (v_small) drawn, aI Y q_number 8 number_5, aI Y q_tape 700 tape, aI Y q_name 24 name_5, aI Y q_sortOf 24 sortOf_5, aI Y q_first 24 first_5, aI Y q_second 24 second_5, aI Y q_degree 24 degree_5, aI Y q_colours 24 colours_5, aI Y q_signBy 24 signBy_5, aI Y q_own 288 own_5, aZ Y q_isTold 9 isTold]) [1, 2, 3, 4, 5, 6, 7, 8, 9, 10, 11, 0] rfl rfl ?_
                refine g_goto (tgt := 160) C dX11_readLine_118 (by decide) ?_
                exact key_1 colours_5 degree_5 first_5 isTold name_5 number_5 own_5 second_5 signBy_5 sortOf_5 atF_8 place_8 sort_8 value_8 fault_6 faultPlace_6 h
            · replace h := h.2 c_8
              refine g_aload_n C dX11_readLine_98 0 rfl ?_
              obtain ⟨P_9, hP, h⟩ := h
              refine g_callV (As := []) (rest := []) C (mX11_readAt l D Y h0 thrown q_tape taped q_number (.ref q_isTold) q_name q_sortOf (.ref q_first) (.ref q_second) (.ref q_degree) (.ref q_colours) (.ref q_signBy) q_own lines size atF place sort value fault faultPlace lastFault lastPlace v_sF v_kept undoable hasImage v_power v_table v_marks v_row rowOf areSums isSieved v_lastOf blocks v_inBlock v_atQuotient v_small drawn tape number name sortOf own P_9 hP) dX11_readLine_99 rfl wM_X11_199 wI_X11_readAt wV_X11_readAt wN_X11 wC_X11_readAt (n := 0) (by decide +kernel) rfl (q0 := 0) rfl rfl ⟨Nat.le_of_ble_eq_true rfl, Nat.le_of_ble_eq_true rfl⟩ ⟨Nat.le_of_ble_eq_true rfl, Nat.le_of_ble_eq_true rfl⟩ (Nat.le_of_ble_eq_true rfl) [0, 2, 1, 3, 4, 10] [5, 6, 7, 8, 9, 11] rfl rfl rfl (fun v wc hv => ?_)
              obtain ⟨atF_9, place_9, sort_9, value_9, fault_7, faultPlace_7, own_6, rfl, rfl, hq⟩ := hv
              replace h := h atF_9 place_9 sort_9 value_9 fault_7 faultPlace_7 own_6 hq
              refine gG.perm (ws' := [oX11 h0 thrown (.ref q_tape) taped (.ref q_number) (.ref q_isTold) (.ref q_name) (.ref q_sortOf) (.ref q_first) (.ref q_second) (.ref q_degree) (.ref q_colours) (.ref q_signBy) (.ref q_own) lines size atF_9 place_9 sort_9 value_9 fault_7 faultPlace_7 lastFault lastPlace (v_sF) (v_kept) undoable hasImage (v_power) (v_table) (v_marks) (v_row) rowOf areSums isSieved (v_lastOf) blocks (v_inBlock) (v_atQuotient) (v_small) drawn, aI Y q_number 8 number, aI Y q_tape 700 tape, aI Y q_name 24 name, aI Y q_sortOf 24 sortOf, aI Y q_first 24 first, aI Y q_second 24 second, aI Y q_degree 24 degree, aI Y q_colours 24 colours, aI Y q_signBy 24 signBy, aI Y q_own 288 own_6, aZ Y q_isTold 9 isTold]) [6, 8, 7, 9, 10, 0, 1, 2, 3, 4, 11, 5] rfl rfl ?_
              refine g_goto (tgt := 160) C dX11_readLine_102 (by decide) ?_
              exact key_1 colours degree first isTold name number own_6 second signBy sortOf atF_9 place_9 sort_9 value_9 fault_7 faultPlace_7 h
          · replace h := h.2 c_7
            refine g_aload_n C dX11_readLine_82 0 rfl ?_
            refine g_iconst (v := 1) C dX11_readLine_83 rfl ?_
            obtain ⟨P_10, hP, h⟩ := h
            refine g_callV (As := [.int 1]) (rest := []) C (mX11_readFunction l D Y h0 thrown q_tape taped q_number (.ref q_isTold) q_name q_sortOf q_first q_second q_degree q_colours q_signBy q_own lines size atF place sort value fault faultPlace lastFault lastPlace v_sF v_kept undoable hasImage v_power v_table v_marks v_row rowOf areSums isSieved v_lastOf blocks v_inBlock v_atQuotient v_small drawn number tape name sortOf first second degree colours signBy own 1 P_10 hP) dX11_readLine_84 rfl wM_X11_196 wI_X11_readFunction wV_X11_readFunction wN_X11 wC_X11_readFunction (n := 1) (by decide +kernel) rfl (q0 := 0) rfl rfl ⟨Nat.le_of_ble_eq_true rfl, Nat.le_of_ble_eq_true rfl⟩ ⟨Nat.le_of_ble_eq_true rfl, Nat.le_of_ble_eq_true rfl⟩ (Nat.le_of_ble_eq_true rfl) [0, 1, 2, 3, 4, 5, 6, 7, 8, 9, 10] [11] rfl rfl rfl (fun v wc hv => ?_)
            obtain ⟨atF_10, place_10, sort_10, value_10, fault_8, faultPlace_8, number_6, name_6, sortOf_6, first_6, second_6, degree_6, colours_6, signBy_6, own_7, rfl, rfl, hq⟩ := hv
            replace h := h atF_10 place_10 sort_10 value_10 fault_8 faultPlace_8 number_6 name_6 sortOf_6 first_6 second_6 degree_6 colours_6 signBy_6 own_7 hq
            refine gG.perm (ws' := [oX11 h0 thrown (.ref q_tape) taped (.ref q_number) (.ref q_isTold) (.ref q_name) (.ref q_sortOf) (.ref q_first) (.ref q_second) (.ref q_degree) (.ref q_colours) (.ref q_signBy) (.ref q_own) lines size atF_10 place_10 sort_10 value_10 fault_8 faultPlace_8 lastFault lastPlace (v_sF) (v_kept) undoable hasImage (v_power) (v_table) (v_marks) (v_row) rowOf areSums isSieved (v_lastOf) blocks (v_inBlock) (v_atQuotient) (v_small) drawn, aI Y q_number 8 number_6, aI Y q_tape 700 tape, aI Y q_name 24 name_6, aI Y q_sortOf 24 sortOf_6, aI Y q_first 24 first_6, aI Y q_second 24 second_6, aI Y q_degree 24 degree_6, aI Y q_colours 24 colours_6, aI Y q_signBy 24 signBy_6, aI Y q_own 288 own_7, aZ Y q_isTold 9 isTold]) [1, 2, 3, 4, 5, 6, 7, 8, 9, 10, 11, 0] rfl rfl ?_
            refine g_goto (tgt := 160) C dX11_readLine_87 (by decide) ?_
            exact key_1 colours_6 degree_6 first_6 isTold name_6 number_6 own_7 second_6 signBy_6 sortOf_6 atF_10 place_10 sort_10 value_10 fault_8 faultPlace_8 h
        · replace h := h.2 c_6
          refine g_aload_n C dX11_readLine_62 0 rfl ?_
          refine g_iconst (v := 2) C dX11_readLine_63 rfl ?_
          refine g_iconst (v := 2) C dX11_readLine_64 rfl ?_
          refine g_iconst (v := 0) C dX11_readLine_65 rfl ?_
          refine g_ldc C dX11_readLine_66 wK_X11_195 ?_
          obtain ⟨P_11, hP, h⟩ := h
          refine g_callV (As := [.int 2, .int 2, .int 0, .int 99999]) (rest := []) C (mX11_readOnce l D Y h0 thrown q_tape taped q_number q_isTold (.ref q_name) (.ref q_sortOf) (.ref q_first) (.ref q_second) (.ref q_degree) (.ref q_colours) (.ref q_signBy) (.ref q_own) lines size atF place sort value fault faultPlace lastFault lastPlace v_sF v_kept undoable hasImage v_power v_table v_marks v_row rowOf areSums isSieved v_lastOf blocks v_inBlock v_atQuotient v_small drawn isTold tape number 2 2 0 99999 P_11 hP) dX11_readLine_68 rfl wM_X11_190 wI_X11_readOnce wV_X11_readOnce wN_X11 wC_X11_readOnce (n := 4) (by decide +kernel) rfl (q0 := 0) rfl rfl ⟨Nat.le_of_ble_eq_true rfl, Nat.le_of_ble_eq_true rfl⟩ ⟨Nat.le_of_ble_eq_true rfl, Nat.le_of_ble_eq_true rfl⟩ (Nat.le_of_ble_eq_true rfl) [0, 11, 2, 1] [3, 4, 5, 6, 7, 8, 9, 10] rfl rfl rfl (fun v wc hv => ?_)
          obtain ⟨atF_11, place_11, sort_11, value_11, fault_9, faultPlace_9, isTold_2, number_7, rfl, rfl, hq⟩ := hv
          replace h := h atF_11 place_11 sort_11 value_11 fault_9 faultPlace_9 isTold_2 number_7 hq
          refine gG.perm (ws' := [oX11 h0 thrown (.ref q_tape) taped (.ref q_number) (.ref q_isTold) (.ref q_name) (.ref q_sortOf) (.ref q_first) (.ref q_second) (.ref q_degree) (.ref q_colours) (.ref q_signBy) (.ref q_own) lines size atF_11 place_11 sort_11 value_11 fault_9 faultPlace_9 lastFault lastPlace (v_sF) (v_kept) undoable hasImage (v_power) (v_table) (v_marks) (v_row) rowOf areSums isSieved (v_lastOf) blocks (v_inBlock) (v_atQuotient) (v_small) drawn, aI Y q_number 8 number_7, aI Y q_tape 700 tape, aI Y q_name 24 name, aI Y q_sortOf 24 sortOf, aI Y q_first 24 first, aI Y q_second 24 second, aI Y q_degree 24 degree, aI Y q_colours 24 colours, aI Y q_signBy 24 signBy, aI Y q_own 288 own, aZ Y q_isTold 9 isTold_2]) [8, 11, 10, 0, 1, 2, 3, 4, 5, 6, 7, 9] rfl rfl ?_
          refine g_goto (tgt := 160) C dX11_readLine_71 (by decide) ?_
          exact key_1 colours degree first isTold_2 name number_7 own second signBy sortOf atF_11 place_11 sort_11 value_11 fault_9 faultPlace_9 h
      · replace h := h.2 c_5
        refine g_aload_n C dX11_readLine_42 0 rfl ?_
        refine g_iconst (v := 1) C dX11_readLine_43 rfl ?_
        refine g_iconst (v := 1) C dX11_readLine_44 rfl ?_
        refine g_iconst (v := 2) C dX11_readLine_45 rfl ?_
        refine g_ldc C dX11_readLine_46 wK_X11_194 ?_
        obtain ⟨P_12, hP, h⟩ := h
        refine g_callV (As := [.int 1, .int 1, .int 2, .int 1000003]) (rest := []) C (mX11_readOnce l D Y h0 thrown q_tape taped q_number q_isTold (.ref q_name) (.ref q_sortOf) (.ref q_first) (.ref q_second) (.ref q_degree) (.ref q_colours) (.ref q_signBy) (.ref q_own) lines size atF place sort value fault faultPlace lastFault lastPlace v_sF v_kept undoable hasImage v_power v_table v_marks v_row rowOf areSums isSieved v_lastOf blocks v_inBlock v_atQuotient v_small drawn isTold tape number 1 1 2 1000003 P_12 hP) dX11_readLine_48 rfl wM_X11_190 wI_X11_readOnce wV_X11_readOnce wN_X11 wC_X11_readOnce (n := 4) (by decide +kernel) rfl (q0 := 0) rfl rfl ⟨Nat.le_of_ble_eq_true rfl, Nat.le_of_ble_eq_true rfl⟩ ⟨Nat.le_of_ble_eq_true rfl, Nat.le_of_ble_eq_true rfl⟩ (Nat.le_of_ble_eq_true rfl) [0, 11, 2, 1] [3, 4, 5, 6, 7, 8, 9, 10] rfl rfl rfl (fun v wc hv => ?_)
        obtain ⟨atF_12, place_12, sort_12, value_12, fault_10, faultPlace_10, isTold_3, number_8, rfl, rfl, hq⟩ := hv
        replace h := h atF_12 place_12 sort_12 value_12 fault_10 faultPlace_10 isTold_3 number_8 hq
        refine gG.perm (ws' := [oX11 h0 thrown (.ref q_tape) taped (.ref q_number) (.ref q_isTold) (.ref q_name) (.ref q_sortOf) (.ref q_first) (.ref q_second) (.ref q_degree) (.ref q_colours) (.ref q_signBy) (.ref q_own) lines size atF_12 place_12 sort_12 value_12 fault_10 faultPlace_10 lastFault lastPlace (v_sF) (v_kept) undoable hasImage (v_power) (v_table) (v_marks) (v_row) rowOf areSums isSieved (v_lastOf) blocks (v_inBlock) (v_atQuotient) (v_small) drawn, aI Y q_number 8 number_8, aI Y q_tape 700 tape, aI Y q_name 24 name, aI Y q_sortOf 24 sortOf, aI Y q_first 24 first, aI Y q_second 24 second, aI Y q_degree 24 degree, aI Y q_colours 24 colours, aI Y q_signBy 24 signBy, aI Y q_own 288 own, aZ Y q_isTold 9 isTold_3]) [8, 11, 10, 0, 1, 2, 3, 4, 5, 6, 7, 9] rfl rfl ?_
        refine g_goto (tgt := 160) C dX11_readLine_51 (by decide) ?_
        exact key_1 colours degree first isTold_3 name number_8 own second signBy sortOf atF_12 place_12 sort_12 value_12 fault_10 faultPlace_10 h
    · replace h := h.2 c_4
      refine g_aload_n C dX11_readLine_22 0 rfl ?_
      refine g_iconst (v := 0) C dX11_readLine_23 rfl ?_
      refine g_iconst (v := 0) C dX11_readLine_24 rfl ?_
      refine g_iconst (v := 1) C dX11_readLine_25 rfl ?_
      refine g_ldc C dX11_readLine_26 wK_X11_189 ?_
      obtain ⟨P_13, hP, h⟩ := h
      refine g_callV (As := [.int 0, .int 0, .int 1, .int 200000]) (rest := []) C (mX11_readOnce l D Y h0 thrown q_tape taped q_number q_isTold (.ref q_name) (.ref q_sortOf) (.ref q_first) (.ref q_second) (.ref q_degree) (.ref q_colours) (.ref q_signBy) (.ref q_own) lines size atF place sort value fault faultPlace lastFault lastPlace v_sF v_kept undoable hasImage v_power v_table v_marks v_row rowOf areSums isSieved v_lastOf blocks v_inBlock v_atQuotient v_small drawn isTold tape number 0 0 1 200000 P_13 hP) dX11_readLine_28 rfl wM_X11_190 wI_X11_readOnce wV_X11_readOnce wN_X11 wC_X11_readOnce (n := 4) (by decide +kernel) rfl (q0 := 0) rfl rfl ⟨Nat.le_of_ble_eq_true rfl, Nat.le_of_ble_eq_true rfl⟩ ⟨Nat.le_of_ble_eq_true rfl, Nat.le_of_ble_eq_true rfl⟩ (Nat.le_of_ble_eq_true rfl) [0, 11, 2, 1] [3, 4, 5, 6, 7, 8, 9, 10] rfl rfl rfl (fun v wc hv => ?_)
      obtain ⟨atF_13, place_13, sort_13, value_13, fault_11, faultPlace_11, isTold_4, number_9, rfl, rfl, hq⟩ := hv
      replace h := h atF_13 place_13 sort_13 value_13 fault_11 faultPlace_11 isTold_4 number_9 hq
      refine gG.perm (ws' := [oX11 h0 thrown (.ref q_tape) taped (.ref q_number) (.ref q_isTold) (.ref q_name) (.ref q_sortOf) (.ref q_first) (.ref q_second) (.ref q_degree) (.ref q_colours) (.ref q_signBy) (.ref q_own) lines size atF_13 place_13 sort_13 value_13 fault_11 faultPlace_11 lastFault lastPlace (v_sF) (v_kept) undoable hasImage (v_power) (v_table) (v_marks) (v_row) rowOf areSums isSieved (v_lastOf) blocks (v_inBlock) (v_atQuotient) (v_small) drawn, aI Y q_number 8 number_9, aI Y q_tape 700 tape, aI Y q_name 24 name, aI Y q_sortOf 24 sortOf, aI Y q_first 24 first, aI Y q_second 24 second, aI Y q_degree 24 degree, aI Y q_colours 24 colours, aI Y q_signBy 24 signBy, aI Y q_own 288 own, aZ Y q_isTold 9 isTold_4]) [8, 11, 10, 0, 1, 2, 3, 4, 5, 6, 7, 9] rfl rfl ?_
      refine g_goto (tgt := 160) C dX11_readLine_31 (by decide) ?_
      exact key_1 colours degree first isTold_4 name number_9 own second signBy sortOf atF_13 place_13 sort_13 value_13 fault_11 faultPlace_11 h
  · replace h := h.2 c_3
    refine g_aload_n C dX11_readLine_7 0 rfl ?_
    refine g_iconst (v := 1) C dX11_readLine_8 rfl ?_
    obtain ⟨P_14, hP, h⟩ := h
    refine g_callV (As := [.int 1]) (rest := []) C (mX11_wrong l D Y h0 thrown (.ref q_tape) taped (.ref q_number) (.ref q_isTold) (.ref q_name) (.ref q_sortOf) (.ref q_first) (.ref q_second) (.ref q_degree) (.ref q_colours) (.ref q_signBy) (.ref q_own) lines size atF place sort value fault faultPlace lastFault lastPlace v_sF v_kept undoable hasImage v_power v_table v_marks v_row rowOf areSums isSieved v_lastOf blocks v_inBlock v_atQuotient v_small drawn 1 P_14 hP) dX11_readLine_9 rfl wM_X11_151 wI_X11_wrong wV_X11_wrong wN_X11 wC_X11_wrong (n := 1) (by decide +kernel) rfl (q0 := 0) rfl rfl ⟨Nat.le_of_ble_eq_true rfl, Nat.le_of_ble_eq_true rfl⟩ ⟨Nat.le_of_ble_eq_true rfl, Nat.le_of_ble_eq_true rfl⟩ (Nat.le_of_ble_eq_true rfl) [0] [1, 2, 3, 4, 5, 6, 7, 8, 9, 10, 11] rfl rfl rfl (fun v wc hv => ?_)
    obtain ⟨fault_12, faultPlace_12, rfl, rfl, hq⟩ := hv
    replace h := h fault_12 faultPlace_12 hq
    refine gG.perm (ws' := [oX11 h0 thrown (.ref q_tape) taped (.ref q_number) (.ref q_isTold) (.ref q_name) (.ref q_sortOf) (.ref q_first) (.ref q_second) (.ref q_degree) (.ref q_colours) (.ref q_signBy) (.ref q_own) lines size atF place sort value fault_12 faultPlace_12 lastFault lastPlace (v_sF) (v_kept) undoable hasImage (v_power) (v_table) (v_marks) (v_row) rowOf areSums isSieved (v_lastOf) blocks (v_inBlock) (v_atQuotient) (v_small) drawn, aI Y q_number 8 number, aI Y q_tape 700 tape, aI Y q_name 24 name, aI Y q_sortOf 24 sortOf, aI Y q_first 24 first, aI Y q_second 24 second, aI Y q_degree 24 degree, aI Y q_colours 24 colours, aI Y q_signBy 24 signBy, aI Y q_own 288 own, aZ Y q_isTold 9 isTold]) [11, 0, 1, 2, 3, 4, 5, 6, 7, 8, 9, 10] rfl rfl ?_
    refine g_goto (tgt := 160) C dX11_readLine_12 (by decide) ?_
    exact key_1 colours degree first isTold name number own second signBy sortOf atF place sort value fault_12 faultPlace_12 h
theorem dX11_readText_0 : decode cX11_readText 0 = .ok (.aload_n 0, 1) := by decide +kernel
theorem dX11_readText_1 : decode cX11_readText 1 = .ok (.iload_n 1, 1) := by decide +kernel
theorem dX11_readText_2 : decode cX11_readText 2 = .ok (.putfield 98, 3) := by decide +kernel
theorem dX11_readText_5 : decode cX11_readText 5 = .ok (.aload_n 0, 1) := by decide +kernel
theorem dX11_readText_6 : decode cX11_readText 6 = .ok (.iconst 0, 1) := by decide +kernel
theorem dX11_readText_7 : decode cX11_readText 7 = .ok (.putfield 95, 3) := by decide +kernel
theorem dX11_readText_10 : decode cX11_readText 10 = .ok (.aload_n 0, 1) := by decide +kernel
theorem dX11_readText_11 : decode cX11_readText 11 = .ok (.iconst 0, 1) := by decide +kernel
theorem dX11_readText_12 : decode cX11_readText 12 = .ok (.putfield 142, 3) := by decide +kernel
theorem dX11_readText_15 : decode cX11_readText 15 = .ok (.aload_n 0, 1) := by decide +kernel
theorem dX11_readText_16 : decode cX11_readText 16 = .ok (.iconst 0, 1) := by decide +kernel
theorem dX11_readText_17 : decode cX11_readText 17 = .ok (.putfield 202, 3) := by decide +kernel
theorem dX11_readText_20 : decode cX11_readText 20 = .ok (.aload_n 0, 1) := by decide +kernel
theorem dX11_readText_21 : decode cX11_readText 21 = .ok (.invokevirtual 80, 3) := by decide +kernel
theorem dX11_readText_24 : decode cX11_readText 24 = .ok (.aload_n 0, 1) := by decide +kernel
theorem dX11_readText_25 : decode cX11_readText 25 = .ok (.invokevirtual 148, 3) := by decide +kernel
theorem dX11_readText_28 : decode cX11_readText 28 = .ok (.aload_n 0, 1) := by decide +kernel
theorem dX11_readText_29 : decode cX11_readText 29 = .ok (.getfield 142, 3) := by decide +kernel
theorem dX11_readText_32 : decode cX11_readText 32 = .ok (.ifCond .ne 18, 3) := by decide +kernel
theorem dX11_readText_35 : decode cX11_readText 35 = .ok (.aload_n 0, 1) := by decide +kernel
theorem dX11_readText_36 : decode cX11_readText 36 = .ok (.getfield 108, 3) := by decide +kernel
theorem dX11_readText_39 : decode cX11_readText 39 = .ok (.iconst 5, 1) := by decide +kernel
theorem dX11_readText_40 : decode cX11_readText 40 = .ok (.if_icmp .eq 10, 3) := by decide +kernel
theorem dX11_readText_43 : decode cX11_readText 43 = .ok (.aload_n 0, 1) := by decide +kernel
theorem dX11_readText_44 : decode cX11_readText 44 = .ok (.invokevirtual 210, 3) := by decide +kernel
theorem dX11_readText_47 : decode cX11_readText 47 = .ok (.goto (-19), 3) := by decide +kernel
theorem dX11_readText_50 : decode cX11_readText 50 = .ok (.return_, 1) := by decide +kernel
/-- QuotientSumsModel.readText(I)V -/
def wX11_readText (thrown : Int32) (taped : Int32) (lines : Int32) (size : Int32) (atF : Int32) (place : Int32) (sort : Int32) (value : Int32) (fault : Int32) (faultPlace : Int32) (lastFault : Int32) (lastPlace : Int32) (undoable : Int32) (hasImage : Int32) (rowOf : Int32) (areSums : Int32) (isSieved : Int32) (blocks : Int32) (drawn : Int32) (number : Nat → Int32) (isTold : Nat → Int32) (name : Nat → Int32) (sortOf : Nat → Int32) (first : Nat → Int32) (second : Nat → Int32) (degree : Nat → Int32) (colours : Nat → Int32) (signBy : Nat → Int32) (tape : Nat → Int32) (own : Nat → Int32) (a1 : Int32) (Q : (Int32) → (Int32) → (Int32) → (Int32) → (Int32) → (Int32) → (Int32) → (Int32) → (Nat → Int32) → (Nat → Int32) → (Nat → Int32) → (Nat → Int32) → (Nat → Int32) → (Nat → Int32) → (Nat → Int32) → (Nat → Int32) → (Nat → Int32) → (Nat → Int32) → Prop) : Prop :=
  (∃ (P_1 : (Nat → Int32) → (Nat → Int32) → (Nat → Int32) → (Nat → Int32) → (Nat → Int32) → (Nat → Int32) → (Nat → Int32) → (Nat → Int32) → (Nat → Int32) → Prop), wX11_freshText thrown taped 0 a1 0 place sort value 0 faultPlace lastFault lastPlace undoable hasImage rowOf areSums isSieved blocks drawn number isTold name sortOf first second degree colours signBy P_1 ∧ ∀ (number_1 : Nat → Int32) (isTold_1 : Nat → Int32) (name_1 : Nat → Int32) (sortOf_1 : Nat → Int32) (first_1 : Nat → Int32) (second_1 : Nat → Int32) (degree_1 : Nat → Int32) (colours_1 : Nat → Int32) (signBy_1 : Nat → Int32), P_1 number_1 isTold_1 name_1 sortOf_1 first_1 second_1 degree_1 colours_1 signBy_1 → ∃ (P_2 : (Int32) → (Int32) → (Int32) → (Int32) → Prop), wX11_token thrown taped 0 a1 0 place sort value 0 faultPlace lastFault lastPlace undoable hasImage rowOf areSums isSieved blocks drawn tape P_2 ∧ ∀ (atF_1 : Int32) (place_1 : Int32) (sort_1 : Int32) (value_1 : Int32), P_2 atF_1 place_1 sort_1 value_1 → (∃ (Inv_1 : (Nat → Int32) → (Nat → Int32) → (Nat → Int32) → (Nat → Int32) → (Nat → Int32) → (Nat → Int32) → (Nat → Int32) → (Nat → Int32) → (Nat → Int32) → (Nat → Int32) → (Int32) → (Int32) → (Int32) → (Int32) → (Int32) → (Int32) → (Int32) → Prop) (Mea_1 : (Nat → Int32) → (Nat → Int32) → (Nat → Int32) → (Nat → Int32) → (Nat → Int32) → (Nat → Int32) → (Nat → Int32) → (Nat → Int32) → (Nat → Int32) → (Nat → Int32) → (Int32) → (Int32) → (Int32) → (Int32) → (Int32) → (Int32) → (Int32) → Nat), Inv_1 colours_1 degree_1 first_1 isTold_1 name_1 number_1 own second_1 signBy_1 sortOf_1 0 atF_1 place_1 sort_1 value_1 0 faultPlace ∧ ∀ (colours_2 : Nat → Int32) (degree_2 : Nat → Int32) (first_2 : Nat → Int32) (isTold_2 : Nat → Int32) (name_2 : Nat → Int32) (number_2 : Nat → Int32) (own_1 : Nat → Int32) (second_2 : Nat → Int32) (signBy_2 : Nat → Int32) (sortOf_2 : Nat → Int32) (lines_1 : Int32) (atF_2 : Int32) (place_2 : Int32) (sort_2 : Int32) (value_2 : Int32) (fault_1 : Int32) (faultPlace_1 : Int32), Inv_1 colours_2 degree_2 first_2 isTold_2 name_2 number_2 own_1 second_2 signBy_2 sortOf_2 lines_1 atF_2 place_2 sort_2 value_2 fault_1 faultPlace_1 → ((¬ fault_1 = 0 → (Q lines_1 a1 atF_2 place_2 sort_2 value_2 fault_1 faultPlace_1 number_2 isTold_2 name_2 sortOf_2 first_2 second_2 degree_2 colours_2 signBy_2 own_1)) ∧ (fault_1 = 0 → ((sort_2 = 5 → (Q lines_1 a1 atF_2 place_2 sort_2 value_2 fault_1 faultPlace_1 number_2 isTold_2 name_2 sortOf_2 first_2 second_2 degree_2 colours_2 signBy_2 own_1)) ∧ (¬ sort_2 = 5 → (∃ (P_3 : (Int32) → (Int32) → (Int32) → (Int32) → (Int32) → (Int32) → (Int32) → (Nat → Int32) → (Nat → Int32) → (Nat → Int32) → (Nat → Int32) → (Nat → Int32) → (Nat → Int32) → (Nat → Int32) → (Nat → Int32) → (Nat → Int32) → (Nat → Int32) → Prop), wX11_readLine thrown taped lines_1 a1 atF_2 place_2 sort_2 value_2 fault_1 faultPlace_1 lastFault lastPlace undoable hasImage rowOf areSums isSieved blocks drawn number_2 tape name_2 sortOf_2 first_2 second_2 degree_2 colours_2 signBy_2 own_1 isTold_2 P_3 ∧ ∀ (lines_2 : Int32) (atF_3 : Int32) (place_3 : Int32) (sort_3 : Int32) (value_3 : Int32) (fault_2 : Int32) (faultPlace_2 : Int32) (number_3 : Nat → Int32) (name_3 : Nat → Int32) (sortOf_3 : Nat → Int32) (first_3 : Nat → Int32) (second_3 : Nat → Int32) (degree_3 : Nat → Int32) (colours_3 : Nat → Int32) (signBy_3 : Nat → Int32) (own_2 : Nat → Int32) (isTold_3 : Nat → Int32), P_3 lines_2 atF_3 place_3 sort_3 value_3 fault_2 faultPlace_2 number_3 name_3 sortOf_3 first_3 second_3 degree_3 colours_3 signBy_3 own_2 isTold_3 → (Inv_1 colours_3 degree_3 first_3 isTold_3 name_3 number_3 own_2 second_3 signBy_3 sortOf_3 lines_2 atF_3 place_3 sort_3 value_3 fault_2 faultPlace_2 ∧ Mea_1 colours_3 degree_3 first_3 isTold_3 name_3 number_3 own_2 second_3 signBy_3 sortOf_3 lines_2 atF_3 place_3 sort_3 value_3 fault_2 faultPlace_2 < Mea_1 colours_2 degree_2 first_2 isTold_2 name_2 number_2 own_1 second_2 signBy_2 sortOf_2 lines_1 atF_2 place_2 sort_2 value_2 fault_1 faultPlace_1))))))))
set_option maxHeartbeats 4000000 in
set_option maxRecDepth 100000 in
theorem mX11_readText (l : Launch) (D : va_G) (Y : Nat → ClassId) (h0 : Nat) (thrown : Int32) (q_tape : Nat) (taped : Int32) (q_number : Nat) (q_isTold : Nat) (q_name : Nat) (q_sortOf : Nat) (q_first : Nat) (q_second : Nat) (q_degree : Nat) (q_colours : Nat) (q_signBy : Nat) (q_own : Nat) (lines : Int32) (size : Int32) (atF : Int32) (place : Int32) (sort : Int32) (value : Int32) (fault : Int32) (faultPlace : Int32) (lastFault : Int32) (lastPlace : Int32) (v_sF : Value) (v_kept : Value) (undoable : Int32) (hasImage : Int32) (v_power : Value) (v_table : Value) (v_marks : Value) (v_row : Value) (rowOf : Int32) (areSums : Int32) (isSieved : Int32) (v_lastOf : Value) (blocks : Int32) (v_inBlock : Value) (v_atQuotient : Value) (v_small : Value) (drawn : Int32) (number : Nat → Int32) (isTold : Nat → Int32) (name : Nat → Int32) (sortOf : Nat → Int32) (first : Nat → Int32) (second : Nat → Int32) (degree : Nat → Int32) (colours : Nat → Int32) (signBy : Nat → Int32) (tape : Nat → Int32) (own : Nat → Int32) (a1 : Int32) (Q : (Int32) → (Int32) → (Int32) → (Int32) → (Int32) → (Int32) → (Int32) → (Int32) → (Nat → Int32) → (Nat → Int32) → (Nat → Int32) → (Nat → Int32) → (Nat → Int32) → (Nat → Int32) → (Nat → Int32) → (Nat → Int32) → (Nat → Int32) → (Nat → Int32) → Prop) (h : wX11_readText thrown taped lines size atF place sort value fault faultPlace lastFault lastPlace undoable hasImage rowOf areSums isSieved blocks drawn number isTold name sortOf first second degree colours signBy tape own a1 Q) : gM l D Y yX11_readText cX11_readText 2 none 11 237 0 0 [.ref h0, .int a1] [oX11 h0 thrown (.ref q_tape) taped (.ref q_number) (.ref q_isTold) (.ref q_name) (.ref q_sortOf) (.ref q_first) (.ref q_second) (.ref q_degree) (.ref q_colours) (.ref q_signBy) (.ref q_own) lines size atF place sort value fault faultPlace lastFault lastPlace (v_sF) (v_kept) undoable hasImage (v_power) (v_table) (v_marks) (v_row) rowOf areSums isSieved (v_lastOf) blocks (v_inBlock) (v_atQuotient) (v_small) drawn, aI Y q_number 8 number, aZ Y q_isTold 9 isTold, aI Y q_name 24 name, aI Y q_sortOf 24 sortOf, aI Y q_first 24 first, aI Y q_second 24 second, aI Y q_degree 24 degree, aI Y q_colours 24 colours, aI Y q_signBy 24 signBy, aI Y q_tape 700 tape, aI Y q_own 288 own] (fun v w => ∃ lines' : Int32, ∃ size' : Int32, ∃ atF' : Int32, ∃ place' : Int32, ∃ sort' : Int32, ∃ value' : Int32, ∃ fault' : Int32, ∃ faultPlace' : Int32, ∃ number' : Nat → Int32, ∃ isTold' : Nat → Int32, ∃ name' : Nat → Int32, ∃ sortOf' : Nat → Int32, ∃ first' : Nat → Int32, ∃ second' : Nat → Int32, ∃ degree' : Nat → Int32, ∃ colours' : Nat → Int32, ∃ signBy' : Nat → Int32, ∃ own' : Nat → Int32, v = none ∧ w = [oX11 h0 thrown (.ref q_tape) taped (.ref q_number) (.ref q_isTold) (.ref q_name) (.ref q_sortOf) (.ref q_first) (.ref q_second) (.ref q_degree) (.ref q_colours) (.ref q_signBy) (.ref q_own) lines' size' atF' place' sort' value' fault' faultPlace' lastFault lastPlace (v_sF) (v_kept) undoable hasImage (v_power) (v_table) (v_marks) (v_row) rowOf areSums isSieved (v_lastOf) blocks (v_inBlock) (v_atQuotient) (v_small) drawn, aI Y q_number 8 number', aZ Y q_isTold 9 isTold', aI Y q_name 24 name', aI Y q_sortOf 24 sortOf', aI Y q_first 24 first', aI Y q_second 24 second', aI Y q_degree 24 degree', aI Y q_colours 24 colours', aI Y q_signBy 24 signBy', aI Y q_tape 700 tape, aI Y q_own 288 own'] ∧ Q lines' size' atF' place' sort' value' fault' faultPlace' number' isTold' name' sortOf' first' second' degree' colours' signBy' own') := by
  refine gM_of (own := RX11) (by decide +kernel) rfl (Nat.le_of_ble_eq_true rfl) rfl (fun E C hR => ?_)
  unfold wX11_readText at h
  refine g_aload_n C dX11_readText_0 0 rfl ?_
  refine g_iload_n C dX11_readText_1 1 rfl ?_
  refine g_put C inX11 tyX11 tyX11_ok nmX11 0 rfl rfl 14 (by decide) wF_X11_98 rfl rfl rfl (Nat.le_of_ble_eq_true rfl) (ws' := [oX11 h0 thrown (.ref q_tape) taped (.ref q_number) (.ref q_isTold) (.ref q_name) (.ref q_sortOf) (.ref q_first) (.ref q_second) (.ref q_degree) (.ref q_colours) (.ref q_signBy) (.ref q_own) lines a1 atF place sort value fault faultPlace lastFault lastPlace (v_sF) (v_kept) undoable hasImage (v_power) (v_table) (v_marks) (v_row) rowOf areSums isSieved (v_lastOf) blocks (v_inBlock) (v_atQuotient) (v_small) drawn, aI Y q_number 8 number, aZ Y q_isTold 9 isTold, aI Y q_name 24 name, aI Y q_sortOf 24 sortOf, aI Y q_first 24 first, aI Y q_second 24 second, aI Y q_degree 24 degree, aI Y q_colours 24 colours, aI Y q_signBy 24 signBy, aI Y q_tape 700 tape, aI Y q_own 288 own]) rfl dX11_readText_2 ?_
  refine g_aload_n C dX11_readText_5 0 rfl ?_
  refine g_iconst (v := 0) C dX11_readText_6 rfl ?_
  refine g_put C inX11 tyX11 tyX11_ok nmX11 0 rfl rfl 15 (by decide) wF_X11_95 rfl rfl rfl (Nat.le_of_ble_eq_true rfl) (ws' := [oX11 h0 thrown (.ref q_tape) taped (.ref q_number) (.ref q_isTold) (.ref q_name) (.ref q_sortOf) (.ref q_first) (.ref q_second) (.ref q_degree) (.ref q_colours) (.ref q_signBy) (.ref q_own) lines a1 0 place sort value fault faultPlace lastFault lastPlace (v_sF) (v_kept) undoable hasImage (v_power) (v_table) (v_marks) (v_row) rowOf areSums isSieved (v_lastOf) blocks (v_inBlock) (v_atQuotient) (v_small) drawn, aI Y q_number 8 number, aZ Y q_isTold 9 isTold, aI Y q_name 24 name, aI Y q_sortOf 24 sortOf, aI Y q_first 24 first, aI Y q_second 24 second, aI Y q_degree 24 degree, aI Y q_colours 24 colours, aI Y q_signBy 24 signBy, aI Y q_tape 700 tape, aI Y q_own 288 own]) rfl dX11_readText_7 ?_
  refine g_aload_n C dX11_readText_10 0 rfl ?_
  refine g_iconst (v := 0) C dX11_readText_11 rfl ?_
  refine g_put C inX11 tyX11 tyX11_ok nmX11 0 rfl rfl 19 (by decide) wF_X11_142 rfl rfl rfl (Nat.le_of_ble_eq_true rfl) (ws' := [oX11 h0 thrown (.ref q_tape) taped (.ref q_number) (.ref q_isTold) (.ref q_name) (.ref q_sortOf) (.ref q_first) (.ref q_second) (.ref q_degree) (.ref q_colours) (.ref q_signBy) (.ref q_own) lines a1 0 place sort value 0 faultPlace lastFault lastPlace (v_sF) (v_kept) undoable hasImage (v_power) (v_table) (v_marks) (v_row) rowOf areSums isSieved (v_lastOf) blocks (v_inBlock) (v_atQuotient) (v_small) drawn, aI Y q_number 8 number, aZ Y q_isTold 9 isTold, aI Y q_name 24 name, aI Y q_sortOf 24 sortOf, aI Y q_first 24 first, aI Y q_second 24 second, aI Y q_degree 24 degree, aI Y q_colours 24 colours, aI Y q_signBy 24 signBy, aI Y q_tape 700 tape, aI Y q_own 288 own]) rfl dX11_readText_12 ?_
  refine g_aload_n C dX11_readText_15 0 rfl ?_
  refine g_iconst (v := 0) C dX11_readText_16 rfl ?_
  refine g_put C inX11 tyX11 tyX11_ok nmX11 0 rfl rfl 13 (by decide) wF_X11_202 rfl rfl rfl (Nat.le_of_ble_eq_true rfl) (ws' := [oX11 h0 thrown (.ref q_tape) taped (.ref q_number) (.ref q_isTold) (.ref q_name) (.ref q_sortOf) (.ref q_first) (.ref q_second) (.ref q_degree) (.ref q_colours) (.ref q_signBy) (.ref q_own) 0 a1 0 place sort value 0 faultPlace lastFault lastPlace (v_sF) (v_kept) undoable hasImage (v_power) (v_table) (v_marks) (v_row) rowOf areSums isSieved (v_lastOf) blocks (v_inBlock) (v_atQuotient) (v_small) drawn, aI Y q_number 8 number, aZ Y q_isTold 9 isTold, aI Y q_name 24 name, aI Y q_sortOf 24 sortOf, aI Y q_first 24 first, aI Y q_second 24 second, aI Y q_degree 24 degree, aI Y q_colours 24 colours, aI Y q_signBy 24 signBy, aI Y q_tape 700 tape, aI Y q_own 288 own]) rfl dX11_readText_17 ?_
  refine g_aload_n C dX11_readText_20 0 rfl ?_
  obtain ⟨P_1, hP, h⟩ := h
  refine g_callV (As := []) (rest := []) C (mX11_freshText l D Y h0 thrown (.ref q_tape) taped q_number q_isTold q_name q_sortOf q_first q_second q_degree q_colours q_signBy (.ref q_own) 0 a1 0 place sort value 0 faultPlace lastFault lastPlace v_sF v_kept undoable hasImage v_power v_table v_marks v_row rowOf areSums isSieved v_lastOf blocks v_inBlock v_atQuotient v_small drawn number isTold name sortOf first second degree colours signBy P_1 hP) dX11_readText_21 rfl wM_X11_80 wI_X11_freshText wV_X11_freshText wN_X11 wC_X11_freshText (n := 0) (by decide +kernel) rfl (q0 := 0) rfl rfl ⟨Nat.le_of_ble_eq_true rfl, Nat.le_of_ble_eq_true rfl⟩ ⟨Nat.le_of_ble_eq_true rfl, Nat.le_of_ble_eq_true rfl⟩ (Nat.le_of_ble_eq_true rfl) [0, 1, 2, 3, 4, 5, 6, 7, 8, 9] [10, 11] rfl rfl rfl (fun v wc hv => ?_)
  obtain ⟨number_1, isTold_1, name_1, sortOf_1, first_1, second_1, degree_1, colours_1, signBy_1, rfl, rfl, hq⟩ := hv
  replace h := h number_1 isTold_1 name_1 sortOf_1 first_1 second_1 degree_1 colours_1 signBy_1 hq
  refine gG.perm (ws' := [oX11 h0 thrown (.ref q_tape) taped (.ref q_number) (.ref q_isTold) (.ref q_name) (.ref q_sortOf) (.ref q_first) (.ref q_second) (.ref q_degree) (.ref q_colours) (.ref q_signBy) (.ref q_own) 0 a1 0 place sort value 0 faultPlace lastFault lastPlace (v_sF) (v_kept) undoable hasImage (v_power) (v_table) (v_marks) (v_row) rowOf areSums isSieved (v_lastOf) blocks (v_inBlock) (v_atQuotient) (v_small) drawn, aI Y q_number 8 number_1, aZ Y q_isTold 9 isTold_1, aI Y q_name 24 name_1, aI Y q_sortOf 24 sortOf_1, aI Y q_first 24 first_1, aI Y q_second 24 second_1, aI Y q_degree 24 degree_1, aI Y q_colours 24 colours_1, aI Y q_signBy 24 signBy_1, aI Y q_tape 700 tape, aI Y q_own 288 own]) [2, 3, 4, 5, 6, 7, 8, 9, 10, 11, 0, 1] rfl rfl ?_
  refine g_aload_n C dX11_readText_24 0 rfl ?_
  obtain ⟨P_2, hP, h⟩ := h
  refine g_callV (As := []) (rest := []) C (mX11_token l D Y h0 thrown q_tape taped (.ref q_number) (.ref q_isTold) (.ref q_name) (.ref q_sortOf) (.ref q_first) (.ref q_second) (.ref q_degree) (.ref q_colours) (.ref q_signBy) (.ref q_own) 0 a1 0 place sort value 0 faultPlace lastFault lastPlace v_sF v_kept undoable hasImage v_power v_table v_marks v_row rowOf areSums isSieved v_lastOf blocks v_inBlock v_atQuotient v_small drawn tape P_2 hP) dX11_readText_25 rfl wM_X11_148 wI_X11_token wV_X11_token wN_X11 wC_X11_token (n := 0) (by decide +kernel) rfl (q0 := 0) rfl rfl ⟨Nat.le_of_ble_eq_true rfl, Nat.le_of_ble_eq_true rfl⟩ ⟨Nat.le_of_ble_eq_true rfl, Nat.le_of_ble_eq_true rfl⟩ (Nat.le_of_ble_eq_true rfl) [0, 10] [1, 2, 3, 4, 5, 6, 7, 8, 9, 11] rfl rfl rfl (fun v wc hv => ?_)
  obtain ⟨atF_1, place_1, sort_1, value_1, rfl, rfl, hq⟩ := hv
  replace h := h atF_1 place_1 sort_1 value_1 hq
  refine gG.perm (ws' := [oX11 h0 thrown (.ref q_tape) taped (.ref q_number) (.ref q_isTold) (.ref q_name) (.ref q_sortOf) (.ref q_first) (.ref q_second) (.ref q_degree) (.ref q_colours) (.ref q_signBy) (.ref q_own) 0 a1 atF_1 place_1 sort_1 value_1 0 faultPlace lastFault lastPlace (v_sF) (v_kept) undoable hasImage (v_power) (v_table) (v_marks) (v_row) rowOf areSums isSieved (v_lastOf) blocks (v_inBlock) (v_atQuotient) (v_small) drawn, aI Y q_number 8 number_1, aZ Y q_isTold 9 isTold_1, aI Y q_name 24 name_1, aI Y q_sortOf 24 sortOf_1, aI Y q_first 24 first_1, aI Y q_second 24 second_1, aI Y q_degree 24 degree_1, aI Y q_colours 24 colours_1, aI Y q_signBy 24 signBy_1, aI Y q_tape 700 tape, aI Y q_own 288 own]) [10, 0, 1, 2, 3, 4, 5, 6, 7, 8, 11, 9] rfl rfl ?_
  obtain ⟨Inv_1, Mea_1, hI1, hB1⟩ := h
  have key_1 : ∀ (n : Nat) (colours_2 : Nat → Int32) (degree_2 : Nat → Int32) (first_2 : Nat → Int32) (isTold_2 : Nat → Int32) (name_2 : Nat → Int32) (number_2 : Nat → Int32) (own_1 : Nat → Int32) (second_2 : Nat → Int32) (signBy_2 : Nat → Int32) (sortOf_2 : Nat → Int32) (lines_1 : Int32) (atF_2 : Int32) (place_2 : Int32) (sort_2 : Int32) (value_2 : Int32) (fault_1 : Int32) (faultPlace_1 : Int32) , Mea_1 colours_2 degree_2 first_2 isTold_2 name_2 number_2 own_1 second_2 signBy_2 sortOf_2 lines_1 atF_2 place_2 sort_2 value_2 fault_1 faultPlace_1 < n → Inv_1 colours_2 degree_2 first_2 isTold_2 name_2 number_2 own_1 second_2 signBy_2 sortOf_2 lines_1 atF_2 place_2 sort_2 value_2 fault_1 faultPlace_1 → gG E 0 0 [oX11 h0 thrown (.ref q_tape) taped (.ref q_number) (.ref q_isTold) (.ref q_name) (.ref q_sortOf) (.ref q_first) (.ref q_second) (.ref q_degree) (.ref q_colours) (.ref q_signBy) (.ref q_own) lines_1 a1 atF_2 place_2 sort_2 value_2 fault_1 faultPlace_1 lastFault lastPlace (v_sF) (v_kept) undoable hasImage (v_power) (v_table) (v_marks) (v_row) rowOf areSums isSieved (v_lastOf) blocks (v_inBlock) (v_atQuotient) (v_small) drawn, aI Y q_number 8 number_2, aZ Y q_isTold 9 isTold_2, aI Y q_name 24 name_2, aI Y q_sortOf 24 sortOf_2, aI Y q_first 24 first_2, aI Y q_second 24 second_2, aI Y q_degree 24 degree_2, aI Y q_colours 24 colours_2, aI Y q_signBy 24 signBy_2, aI Y q_tape 700 tape, aI Y q_own 288 own_1] [(0, .ref h0)] [] 28 := by
    intro n
    induction n with
    | zero => exact fun _ _ _ _ _ _ _ _ _ _ _ _ _ _ _ _ _ hm => absurd hm (Nat.not_lt_zero _)
    | succ n ih1 =>
      intro colours_2 degree_2 first_2 isTold_2 name_2 number_2 own_1 second_2 signBy_2 sortOf_2 lines_1 atF_2 place_2 sort_2 value_2 fault_1 faultPlace_1  hm1 hI
      have h := hB1 colours_2 degree_2 first_2 isTold_2 name_2 number_2 own_1 second_2 signBy_2 sortOf_2 lines_1 atF_2 place_2 sort_2 value_2 fault_1 faultPlace_1 hI
      refine g_aload_n C dX11_readText_28 0 rfl ?_
      refine g_get C inX11 0 rfl rfl 19 (by decide) wF_X11_142 rfl dX11_readText_29 ?_
      refine g_if_ne (tgt := 50) C dX11_readText_32 (by decide) (fun c_1 => ?_) (fun c_1 => ?_)
      · replace h := h.1 c_1
        exact g_vret C hR (Nat.le_of_ble_eq_true rfl) (Nat.le_of_ble_eq_true rfl) dX11_readText_50 ⟨lines_1, a1, atF_2, place_2, sort_2, value_2, fault_1, faultPlace_1, number_2, isTold_2, name_2, sortOf_2, first_2, second_2, degree_2, colours_2, signBy_2, own_1, rfl, rfl, h⟩
      · replace h := h.2 c_1
        refine g_aload_n C dX11_readText_35 0 rfl ?_
        refine g_get C inX11 0 rfl rfl 17 (by decide) wF_X11_108 rfl dX11_readText_36 ?_
        refine g_iconst (v := 5) C dX11_readText_39 rfl ?_
        refine g_icmp_eq (tgt := 50) C dX11_readText_40 (by decide) (fun c_2 => ?_) (fun c_2 => ?_)
        · replace h := h.1 c_2
          exact g_vret C hR (Nat.le_of_ble_eq_true rfl) (Nat.le_of_ble_eq_true rfl) dX11_readText_50 ⟨lines_1, a1, atF_2, place_2, sort_2, value_2, fault_1, faultPlace_1, number_2, isTold_2, name_2, sortOf_2, first_2, second_2, degree_2, colours_2, signBy_2, own_1, rfl, rfl, h⟩
        · replace h := h.2 c_2
          refine g_aload_n C dX11_readText_43 0 rfl ?_
          obtain ⟨P_3, hP, h⟩ := h
          refine g_callV (As := []) (rest := []) C (mX11_readLine l D Y h0 thrown q_tape taped q_number q_isTold q_name q_sortOf q_first q_second q_degree q_colours q_signBy q_own lines_1 a1 atF_2 place_2 sort_2 value_2 fault_1 faultPlace_1 lastFault lastPlace v_sF v_kept undoable hasImage v_power v_table v_marks v_row rowOf areSums isSieved v_lastOf blocks v_inBlock v_atQuotient v_small drawn number_2 tape name_2 sortOf_2 first_2 second_2 degree_2 colours_2 signBy_2 own_1 isTold_2 P_3 hP) dX11_readText_44 rfl wM_X11_210 wI_X11_readLine wV_X11_readLine wN_X11 wC_X11_readLine (n := 0) (by decide +kernel) rfl (q0 := 0) rfl rfl ⟨Nat.le_of_ble_eq_true rfl, Nat.le_of_ble_eq_true rfl⟩ ⟨Nat.le_of_ble_eq_true rfl, Nat.le_of_ble_eq_true rfl⟩ (Nat.le_of_ble_eq_true rfl) [0, 1, 10, 3, 4, 5, 6, 7, 8, 9, 11, 2] [] rfl rfl rfl (fun v wc hv => ?_)
          obtain ⟨lines_2, atF_3, place_3, sort_3, value_3, fault_2, faultPlace_2, number_3, name_3, sortOf_3, first_3, second_3, degree_3, colours_3, signBy_3, own_2, isTold_3, rfl, rfl, hq⟩ := hv
          replace h := h lines_2 atF_3 place_3 sort_3 value_3 fault_2 faultPlace_2 number_3 name_3 sortOf_3 first_3 second_3 degree_3 colours_3 signBy_3 own_2 isTold_3 hq
          refine gG.perm (ws' := [oX11 h0 thrown (.ref q_tape) taped (.ref q_number) (.ref q_isTold) (.ref q_name) (.ref q_sortOf) (.ref q_first) (.ref q_second) (.ref q_degree) (.ref q_colours) (.ref q_signBy) (.ref q_own) lines_2 a1 atF_3 place_3 sort_3 value_3 fault_2 faultPlace_2 lastFault lastPlace (v_sF) (v_kept) undoable hasImage (v_power) (v_table) (v_marks) (v_row) rowOf areSums isSieved (v_lastOf) blocks (v_inBlock) (v_atQuotient) (v_small) drawn, aI Y q_number 8 number_3, aZ Y q_isTold 9 isTold_3, aI Y q_name 24 name_3, aI Y q_sortOf 24 sortOf_3, aI Y q_first 24 first_3, aI Y q_second 24 second_3, aI Y q_degree 24 degree_3, aI Y q_colours 24 colours_3, aI Y q_signBy 24 signBy_3, aI Y q_tape 700 tape, aI Y q_own 288 own_2]) [0, 1, 11, 3, 4, 5, 6, 7, 8, 9, 2, 10] rfl rfl ?_
          refine g_goto (tgt := 28) C dX11_readText_47 (by decide) ?_
          exact ih1 colours_3 degree_3 first_3 isTold_3 name_3 number_3 own_2 second_3 signBy_3 sortOf_3 lines_2 atF_3 place_3 sort_3 value_3 fault_2 faultPlace_2 (Nat.lt_of_lt_of_le h.2 (Nat.le_of_lt_succ hm1)) h.1
  refine gG.locals (lv' := [(0, .ref h0)]) [0] rfl ?_
  exact key_1 (Mea_1 colours_1 degree_1 first_1 isTold_1 name_1 number_1 own second_1 signBy_1 sortOf_1 0 atF_1 place_1 sort_1 value_1 0 faultPlace + 1) colours_1 degree_1 first_1 isTold_1 name_1 number_1 own second_1 signBy_1 sortOf_1 0 atF_1 place_1 sort_1 value_1 0 faultPlace (Nat.lt_succ_self _) hI1
theorem dX11_text_0 : decode cX11_text 0 = .ok (.aload_n 0, 1) := by decide +kernel
theorem dX11_text_1 : decode cX11_text 1 = .ok (.iconst 0, 1) := by decide +kernel
theorem dX11_text_2 : decode cX11_text 2 = .ok (.putfield 89, 3) := by decide +kernel
theorem dX11_text_5 : decode cX11_text 5 = .ok (.iload_n 1, 1) := by decide +kernel
theorem dX11_text_6 : decode cX11_text 6 = .ok (.ifCond .lt 11, 3) := by decide +kernel
theorem dX11_text_9 : decode cX11_text 9 = .ok (.iload_n 1, 1) := by decide +kernel
theorem dX11_text_10 : decode cX11_text 10 = .ok (.aload_n 0, 1) := by decide +kernel
theorem dX11_text_11 : decode cX11_text 11 = .ok (.getfield 92, 3) := by decide +kernel
theorem dX11_text_14 : decode cX11_text 14 = .ok (.if_icmp .le 6, 3) := by decide +kernel
theorem dX11_text_17 : decode cX11_text 17 = .ok (.bipush (-2), 2) := by decide +kernel
theorem dX11_text_19 : decode cX11_text 19 = .ok (.ireturn, 1) := by decide +kernel
theorem dX11_text_20 : decode cX11_text 20 = .ok (.aload_n 0, 1) := by decide +kernel
theorem dX11_text_21 : decode cX11_text 21 = .ok (.iload_n 1, 1) := by decide +kernel
theorem dX11_text_22 : decode cX11_text 22 = .ok (.invokevirtual 213, 3) := by decide +kernel
theorem dX11_text_25 : decode cX11_text 25 = .ok (.aload_n 0, 1) := by decide +kernel
theorem dX11_text_26 : decode cX11_text 26 = .ok (.iconst 0, 1) := by decide +kernel
theorem dX11_text_27 : decode cX11_text 27 = .ok (.putfield 92, 3) := by decide +kernel
theorem dX11_text_30 : decode cX11_text 30 = .ok (.aload_n 0, 1) := by decide +kernel
theorem dX11_text_31 : decode cX11_text 31 = .ok (.aload_n 0, 1) := by decide +kernel
theorem dX11_text_32 : decode cX11_text 32 = .ok (.getfield 142, 3) := by decide +kernel
theorem dX11_text_35 : decode cX11_text 35 = .ok (.putfield 216, 3) := by decide +kernel
theorem dX11_text_38 : decode cX11_text 38 = .ok (.aload_n 0, 1) := by decide +kernel
theorem dX11_text_39 : decode cX11_text 39 = .ok (.aload_n 0, 1) := by decide +kernel
theorem dX11_text_40 : decode cX11_text 40 = .ok (.getfield 142, 3) := by decide +kernel
theorem dX11_text_43 : decode cX11_text 43 = .ok (.ifCond .ne 7, 3) := by decide +kernel
theorem dX11_text_46 : decode cX11_text 46 = .ok (.iconst (-1), 1) := by decide +kernel
theorem dX11_text_47 : decode cX11_text 47 = .ok (.goto 7, 3) := by decide +kernel
theorem dX11_text_50 : decode cX11_text 50 = .ok (.aload_n 0, 1) := by decide +kernel
theorem dX11_text_51 : decode cX11_text 51 = .ok (.getfield 145, 3) := by decide +kernel
theorem dX11_text_54 : decode cX11_text 54 = .ok (.putfield 44, 3) := by decide +kernel
theorem dX11_text_57 : decode cX11_text 57 = .ok (.aload_n 0, 1) := by decide +kernel
theorem dX11_text_58 : decode cX11_text 58 = .ok (.getfield 142, 3) := by decide +kernel
theorem dX11_text_61 : decode cX11_text 61 = .ok (.ifCond .eq 5, 3) := by decide +kernel
theorem dX11_text_64 : decode cX11_text 64 = .ok (.iconst (-1), 1) := by decide +kernel
theorem dX11_text_65 : decode cX11_text 65 = .ok (.ireturn, 1) := by decide +kernel
theorem dX11_text_66 : decode cX11_text 66 = .ok (.aload_n 0, 1) := by decide +kernel
theorem dX11_text_67 : decode cX11_text 67 = .ok (.invokevirtual 83, 3) := by decide +kernel
theorem dX11_text_70 : decode cX11_text 70 = .ok (.aload_n 0, 1) := by decide +kernel
theorem dX11_text_71 : decode cX11_text 71 = .ok (.invokevirtual 86, 3) := by decide +kernel
theorem dX11_text_74 : decode cX11_text 74 = .ok (.aload_n 0, 1) := by decide +kernel
theorem dX11_text_75 : decode cX11_text 75 = .ok (.iconst 0, 1) := by decide +kernel
theorem dX11_text_76 : decode cX11_text 76 = .ok (.putfield 219, 3) := by decide +kernel
theorem dX11_text_79 : decode cX11_text 79 = .ok (.aload_n 0, 1) := by decide +kernel
theorem dX11_text_80 : decode cX11_text 80 = .ok (.iconst 0, 1) := by decide +kernel
theorem dX11_text_81 : decode cX11_text 81 = .ok (.putfield 222, 3) := by decide +kernel
theorem dX11_text_84 : decode cX11_text 84 = .ok (.aload_n 0, 1) := by decide +kernel
theorem dX11_text_85 : decode cX11_text 85 = .ok (.getfield 202, 3) := by decide +kernel
theorem dX11_text_88 : decode cX11_text 88 = .ok (.ireturn, 1) := by decide +kernel
/-- QuotientSumsModel.text(I)I -/
def wX11_text (thrown : Int32) (taped : Int32) (lines : Int32) (size : Int32) (atF : Int32) (place : Int32) (sort : Int32) (value : Int32) (fault : Int32) (faultPlace : Int32) (lastFault : Int32) (lastPlace : Int32) (undoable : Int32) (hasImage : Int32) (rowOf : Int32) (areSums : Int32) (isSieved : Int32) (blocks : Int32) (drawn : Int32) (number : Nat → Int32) (isTold : Nat → Int32) (name : Nat → Int32) (sortOf : Nat → Int32) (first : Nat → Int32) (second : Nat → Int32) (degree : Nat → Int32) (colours : Nat → Int32) (signBy : Nat → Int32) (tape : Nat → Int32) (own : Nat → Int32) (sF : Nat → Int32) (marks : Nat → Int32) (a1 : Int32) (Q : (Int32) → (Int32) → (Int32) → (Int32) → (Int32) → (Int32) → (Int32) → (Int32) → (Int32) → (Int32) → (Int32) → (Int32) → (Int32) → (Int32) → (Int32) → (Int32) → (Int32) → (Nat → Int32) → (Nat → Int32) → (Nat → Int32) → (Nat → Int32) → (Nat → Int32) → (Nat → Int32) → (Nat → Int32) → (Nat → Int32) → (Nat → Int32) → (Nat → Int32) → (Nat → Int32) → (Nat → Int32) → Prop) : Prop :=
  ((a1 < 0 → (Q (-2) 0 taped lines size atF place sort value fault faultPlace lastFault lastPlace undoable hasImage rowOf isSieved number isTold name sortOf first second degree colours signBy own sF marks)) ∧ (¬ a1 < 0 → ((a1 ≤ taped → (∃ (P_1 : (Int32) → (Int32) → (Int32) → (Int32) → (Int32) → (Int32) → (Int32) → (Int32) → (Nat → Int32) → (Nat → Int32) → (Nat → Int32) → (Nat → Int32) → (Nat → Int32) → (Nat → Int32) → (Nat → Int32) → (Nat → Int32) → (Nat → Int32) → (Nat → Int32) → Prop), wX11_readText 0 taped lines size atF place sort value fault faultPlace lastFault lastPlace undoable hasImage rowOf areSums isSieved blocks drawn number isTold name sortOf first second degree colours signBy tape own a1 P_1 ∧ ∀ (lines_1 : Int32) (size_1 : Int32) (atF_1 : Int32) (place_1 : Int32) (sort_1 : Int32) (value_1 : Int32) (fault_1 : Int32) (faultPlace_1 : Int32) (number_1 : Nat → Int32) (isTold_1 : Nat → Int32) (name_1 : Nat → Int32) (sortOf_1 : Nat → Int32) (first_1 : Nat → Int32) (second_1 : Nat → Int32) (degree_1 : Nat → Int32) (colours_1 : Nat → Int32) (signBy_1 : Nat → Int32) (own_1 : Nat → Int32), P_1 lines_1 size_1 atF_1 place_1 sort_1 value_1 fault_1 faultPlace_1 number_1 isTold_1 name_1 sortOf_1 first_1 second_1 degree_1 colours_1 signBy_1 own_1 → (∃ (J_1 : (Int32) → Prop), ((¬ fault_1 = 0 → (J_1 faultPlace_1)) ∧ (fault_1 = 0 → (J_1 (-1)))) ∧ (∀ (t_1 : Int32), J_1 t_1 → ((fault_1 = 0 → (∃ (P_2 : (Nat → Int32) → (Nat → Int32) → (Nat → Int32) → (Nat → Int32) → (Nat → Int32) → (Nat → Int32) → (Nat → Int32) → (Nat → Int32) → (Nat → Int32) → Prop), wX11_takeText 0 0 lines_1 size_1 atF_1 place_1 sort_1 value_1 fault_1 faultPlace_1 fault_1 t_1 undoable hasImage rowOf areSums isSieved blocks drawn number_1 name_1 sortOf_1 first_1 second_1 degree_1 colours_1 signBy_1 own_1 P_2 ∧ ∀ (number_2 : Nat → Int32) (name_2 : Nat → Int32) (sortOf_2 : Nat → Int32) (first_2 : Nat → Int32) (second_2 : Nat → Int32) (degree_2 : Nat → Int32) (colours_2 : Nat → Int32) (signBy_2 : Nat → Int32) (own_2 : Nat → Int32), P_2 number_2 name_2 sortOf_2 first_2 second_2 degree_2 colours_2 signBy_2 own_2 → ∃ (P_3 : (Int32) → (Int32) → (Nat → Int32) → (Nat → Int32) → Prop), wX11_begins 0 0 lines_1 size_1 atF_1 place_1 sort_1 value_1 fault_1 faultPlace_1 fault_1 t_1 undoable hasImage rowOf areSums isSieved blocks drawn number_2 sF own_2 marks P_3 ∧ ∀ (rowOf_1 : Int32) (isSieved_1 : Int32) (sF_1 : Nat → Int32) (marks_1 : Nat → Int32), P_3 rowOf_1 isSieved_1 sF_1 marks_1 → (Q lines_1 0 0 lines_1 size_1 atF_1 place_1 sort_1 value_1 fault_1 faultPlace_1 fault_1 t_1 0 0 rowOf_1 isSieved_1 number_2 isTold_1 name_2 sortOf_2 first_2 second_2 degree_2 colours_2 signBy_2 own_2 sF_1 marks_1))) ∧ (¬ fault_1 = 0 → (Q (-1) 0 0 lines_1 size_1 atF_1 place_1 sort_1 value_1 fault_1 faultPlace_1 fault_1 t_1 undoable hasImage rowOf isSieved number_1 isTold_1 name_1 sortOf_1 first_1 second_1 degree_1 colours_1 signBy_1 own_1 sF marks))))))) ∧ (¬ a1 ≤ taped → (Q (-2) 0 taped lines size atF place sort value fault faultPlace lastFault lastPlace undoable hasImage rowOf isSieved number isTold name sortOf first second degree colours signBy own sF marks)))))
set_option maxHeartbeats 4000000 in
set_option maxRecDepth 100000 in
theorem mX11_text (l : Launch) (D : va_G) (Y : Nat → ClassId) (h0 : Nat) (thrown : Int32) (q_tape : Nat) (taped : Int32) (q_number : Nat) (q_isTold : Nat) (q_name : Nat) (q_sortOf : Nat) (q_first : Nat) (q_second : Nat) (q_degree : Nat) (q_colours : Nat) (q_signBy : Nat) (q_own : Nat) (lines : Int32) (size : Int32) (atF : Int32) (place : Int32) (sort : Int32) (value : Int32) (fault : Int32) (faultPlace : Int32) (lastFault : Int32) (lastPlace : Int32) (q_sF : Nat) (v_kept : Value) (undoable : Int32) (hasImage : Int32) (v_power : Value) (v_table : Value) (q_marks : Nat) (v_row : Value) (rowOf : Int32) (areSums : Int32) (isSieved : Int32) (v_lastOf : Value) (blocks : Int32) (v_inBlock : Value) (v_atQuotient : Value) (v_small : Value) (drawn : Int32) (number : Nat → Int32) (isTold : Nat → Int32) (name : Nat → Int32) (sortOf : Nat → Int32) (first : Nat → Int32) (second : Nat → Int32) (degree : Nat → Int32) (colours : Nat → Int32) (signBy : Nat → Int32) (tape : Nat → Int32) (own : Nat → Int32) (sF : Nat → Int32) (marks : Nat → Int32) (a1 : Int32) (Q : (Int32) → (Int32) → (Int32) → (Int32) → (Int32) → (Int32) → (Int32) → (Int32) → (Int32) → (Int32) → (Int32) → (Int32) → (Int32) → (Int32) → (Int32) → (Int32) → (Int32) → (Nat → Int32) → (Nat → Int32) → (Nat → Int32) → (Nat → Int32) → (Nat → Int32) → (Nat → Int32) → (Nat → Int32) → (Nat → Int32) → (Nat → Int32) → (Nat → Int32) → (Nat → Int32) → (Nat → Int32) → Prop) (h : wX11_text thrown taped lines size atF place sort value fault faultPlace lastFault lastPlace undoable hasImage rowOf areSums isSieved blocks drawn number isTold name sortOf first second degree colours signBy tape own sF marks a1 Q) : gM l D Y yX11_text cX11_text 2 (some .int) 12 258 0 0 [.ref h0, .int a1] [oX11 h0 thrown (.ref q_tape) taped (.ref q_number) (.ref q_isTold) (.ref q_name) (.ref q_sortOf) (.ref q_first) (.ref q_second) (.ref q_degree) (.ref q_colours) (.ref q_signBy) (.ref q_own) lines size atF place sort value fault faultPlace lastFault lastPlace (.ref q_sF) (v_kept) undoable hasImage (v_power) (v_table) (.ref q_marks) (v_row) rowOf areSums isSieved (v_lastOf) blocks (v_inBlock) (v_atQuotient) (v_small) drawn, aI Y q_number 8 number, aZ Y q_isTold 9 isTold, aI Y q_name 24 name, aI Y q_sortOf 24 sortOf, aI Y q_first 24 first, aI Y q_second 24 second, aI Y q_degree 24 degree, aI Y q_colours 24 colours, aI Y q_signBy 24 signBy, aI Y q_tape 700 tape, aI Y q_own 288 own, aI Y q_sF 74 sF, aI Y q_marks 6251 marks] (fun v w => ∃ r : Int32, ∃ thrown' : Int32, ∃ taped' : Int32, ∃ lines' : Int32, ∃ size' : Int32, ∃ atF' : Int32, ∃ place' : Int32, ∃ sort' : Int32, ∃ value' : Int32, ∃ fault' : Int32, ∃ faultPlace' : Int32, ∃ lastFault' : Int32, ∃ lastPlace' : Int32, ∃ undoable' : Int32, ∃ hasImage' : Int32, ∃ rowOf' : Int32, ∃ isSieved' : Int32, ∃ number' : Nat → Int32, ∃ isTold' : Nat → Int32, ∃ name' : Nat → Int32, ∃ sortOf' : Nat → Int32, ∃ first' : Nat → Int32, ∃ second' : Nat → Int32, ∃ degree' : Nat → Int32, ∃ colours' : Nat → Int32, ∃ signBy' : Nat → Int32, ∃ own' : Nat → Int32, ∃ sF' : Nat → Int32, ∃ marks' : Nat → Int32, v = some (.int r) ∧ w = [oX11 h0 thrown' (.ref q_tape) taped' (.ref q_number) (.ref q_isTold) (.ref q_name) (.ref q_sortOf) (.ref q_first) (.ref q_second) (.ref q_degree) (.ref q_colours) (.ref q_signBy) (.ref q_own) lines' size' atF' place' sort' value' fault' faultPlace' lastFault' lastPlace' (.ref q_sF) (v_kept) undoable' hasImage' (v_power) (v_table) (.ref q_marks) (v_row) rowOf' areSums isSieved' (v_lastOf) blocks (v_inBlock) (v_atQuotient) (v_small) drawn, aI Y q_number 8 number', aZ Y q_isTold 9 isTold', aI Y q_name 24 name', aI Y q_sortOf 24 sortOf', aI Y q_first 24 first', aI Y q_second 24 second', aI Y q_degree 24 degree', aI Y q_colours 24 colours', aI Y q_signBy 24 signBy', aI Y q_tape 700 tape, aI Y q_own 288 own', aI Y q_sF 74 sF', aI Y q_marks 6251 marks'] ∧ Q r thrown' taped' lines' size' atF' place' sort' value' fault' faultPlace' lastFault' lastPlace' undoable' hasImage' rowOf' isSieved' number' isTold' name' sortOf' first' second' degree' colours' signBy' own' sF' marks') := by
  refine gM_of (own := RX11) (by decide +kernel) rfl (Nat.le_of_ble_eq_true rfl) rfl (fun E C hR => ?_)
  unfold wX11_text at h
  refine g_aload_n C dX11_text_0 0 rfl ?_
  refine g_iconst (v := 0) C dX11_text_1 rfl ?_
  refine g_put C inX11 tyX11 tyX11_ok nmX11 0 rfl rfl 0 (by decide) wF_X11_89 rfl rfl rfl (Nat.le_of_ble_eq_true rfl) (ws' := [oX11 h0 0 (.ref q_tape) taped (.ref q_number) (.ref q_isTold) (.ref q_name) (.ref q_sortOf) (.ref q_first) (.ref q_second) (.ref q_degree) (.ref q_colours) (.ref q_signBy) (.ref q_own) lines size atF place sort value fault faultPlace lastFault lastPlace (.ref q_sF) (v_kept) undoable hasImage (v_power) (v_table) (.ref q_marks) (v_row) rowOf areSums isSieved (v_lastOf) blocks (v_inBlock) (v_atQuotient) (v_small) drawn, aI Y q_number 8 number, aZ Y q_isTold 9 isTold, aI Y q_name 24 name, aI Y q_sortOf 24 sortOf, aI Y q_first 24 first, aI Y q_second 24 second, aI Y q_degree 24 degree, aI Y q_colours 24 colours, aI Y q_signBy 24 signBy, aI Y q_tape 700 tape, aI Y q_own 288 own, aI Y q_sF 74 sF, aI Y q_marks 6251 marks]) rfl dX11_text_2 ?_
  refine g_iload_n C dX11_text_5 1 rfl ?_
  refine g_if_lt (tgt := 17) C dX11_text_6 (by decide) (fun c_1 => ?_) (fun c_1 => ?_)
  · replace h := h.1 c_1
    refine g_bipush (v := (-2)) C dX11_text_17 rfl ?_
    exact g_iret C hR (Nat.le_of_ble_eq_true rfl) (Nat.le_of_ble_eq_true rfl) dX11_text_19 ⟨(-2), 0, taped, lines, size, atF, place, sort, value, fault, faultPlace, lastFault, lastPlace, undoable, hasImage, rowOf, isSieved, number, isTold, name, sortOf, first, second, degree, colours, signBy, own, sF, marks, rfl, rfl, h⟩
  · replace h := h.2 c_1
    refine g_iload_n C dX11_text_9 1 rfl ?_
    refine g_aload_n C dX11_text_10 0 rfl ?_
    refine g_get C inX11 0 rfl rfl 2 (by decide) wF_X11_92 rfl dX11_text_11 ?_
    refine g_icmp_le (tgt := 20) C dX11_text_14 (by decide) (fun c_2 => ?_) (fun c_2 => ?_)
    · replace h := h.1 c_2
      refine g_aload_n C dX11_text_20 0 rfl ?_
      refine g_iload_n C dX11_text_21 1 rfl ?_
      obtain ⟨P_1, hP, h⟩ := h
      refine g_callV (As := [.int a1]) (rest := []) C (mX11_readText l D Y h0 0 q_tape taped q_number q_isTold q_name q_sortOf q_first q_second q_degree q_colours q_signBy q_own lines size atF place sort value fault faultPlace lastFault lastPlace (.ref q_sF) v_kept undoable hasImage v_power v_table (.ref q_marks) v_row rowOf areSums isSieved v_lastOf blocks v_inBlock v_atQuotient v_small drawn number isTold name sortOf first second degree colours signBy tape own a1 P_1 hP) dX11_text_22 rfl wM_X11_213 wI_X11_readText wV_X11_readText wN_X11 wC_X11_readText (n := 1) (by decide +kernel) rfl (q0 := 0) rfl rfl ⟨Nat.le_of_ble_eq_true rfl, Nat.le_of_ble_eq_true rfl⟩ ⟨Nat.le_of_ble_eq_true rfl, Nat.le_of_ble_eq_true rfl⟩ (Nat.le_of_ble_eq_true rfl) [0, 1, 2, 3, 4, 5, 6, 7, 8, 9, 10, 11] [12, 13] rfl rfl rfl (fun v wc hv => ?_)
      obtain ⟨lines_1, size_1, atF_1, place_1, sort_1, value_1, fault_1, faultPlace_1, number_1, isTold_1, name_1, sortOf_1, first_1, second_1, degree_1, colours_1, signBy_1, own_1, rfl, rfl, hq⟩ := hv
      replace h := h lines_1 size_1 atF_1 place_1 sort_1 value_1 fault_1 faultPlace_1 number_1 isTold_1 name_1 sortOf_1 first_1 second_1 degree_1 colours_1 signBy_1 own_1 hq
      refine gG.perm (ws' := [oX11 h0 0 (.ref q_tape) taped (.ref q_number) (.ref q_isTold) (.ref q_name) (.ref q_sortOf) (.ref q_first) (.ref q_second) (.ref q_degree) (.ref q_colours) (.ref q_signBy) (.ref q_own) lines_1 size_1 atF_1 place_1 sort_1 value_1 fault_1 faultPlace_1 lastFault lastPlace (.ref q_sF) (v_kept) undoable hasImage (v_power) (v_table) (.ref q_marks) (v_row) rowOf areSums isSieved (v_lastOf) blocks (v_inBlock) (v_atQuotient) (v_small) drawn, aI Y q_number 8 number_1, aZ Y q_isTold 9 isTold_1, aI Y q_name 24 name_1, aI Y q_sortOf 24 sortOf_1, aI Y q_first 24 first_1, aI Y q_second 24 second_1, aI Y q_degree 24 degree_1, aI Y q_colours 24 colours_1, aI Y q_signBy 24 signBy_1, aI Y q_tape 700 tape, aI Y q_own 288 own_1, aI Y q_sF 74 sF, aI Y q_marks 6251 marks]) [2, 3, 4, 5, 6, 7, 8, 9, 10, 11, 12, 13, 0, 1] rfl rfl ?_
      refine g_aload_n C dX11_text_25 0 rfl ?_
      refine g_iconst (v := 0) C dX11_text_26 rfl ?_
      refine g_put C inX11 tyX11 tyX11_ok nmX11 0 rfl rfl 2 (by decide) wF_X11_92 rfl rfl rfl (Nat.le_of_ble_eq_true rfl) (ws' := [oX11 h0 0 (.ref q_tape) 0 (.ref q_number) (.ref q_isTold) (.ref q_name) (.ref q_sortOf) (.ref q_first) (.ref q_second) (.ref q_degree) (.ref q_colours) (.ref q_signBy) (.ref q_own) lines_1 size_1 atF_1 place_1 sort_1 value_1 fault_1 faultPlace_1 lastFault lastPlace (.ref q_sF) (v_kept) undoable hasImage (v_power) (v_table) (.ref q_marks) (v_row) rowOf areSums isSieved (v_lastOf) blocks (v_inBlock) (v_atQuotient) (v_small) drawn, aI Y q_number 8 number_1, aZ Y q_isTold 9 isTold_1, aI Y q_name 24 name_1, aI Y q_sortOf 24 sortOf_1, aI Y q_first 24 first_1, aI Y q_second 24 second_1, aI Y q_degree 24 degree_1, aI Y q_colours 24 colours_1, aI Y q_signBy 24 signBy_1, aI Y q_tape 700 tape, aI Y q_own 288 own_1, aI Y q_sF 74 sF, aI Y q_marks 6251 marks]) rfl dX11_text_27 ?_
      refine g_aload_n C dX11_text_30 0 rfl ?_
      refine g_aload_n C dX11_text_31 0 rfl ?_
      refine g_get C inX11 0 rfl rfl 19 (by decide) wF_X11_142 rfl dX11_text_32 ?_
      refine g_put C inX11 tyX11 tyX11_ok nmX11 0 rfl rfl 21 (by decide) wF_X11_216 rfl rfl rfl (Nat.le_of_ble_eq_true rfl) (ws' := [oX11 h0 0 (.ref q_tape) 0 (.ref q_number) (.ref q_isTold) (.ref q_name) (.ref q_sortOf) (.ref q_first) (.ref q_second) (.ref q_degree) (.ref q_colours) (.ref q_signBy) (.ref q_own) lines_1 size_1 atF_1 place_1 sort_1 value_1 fault_1 faultPlace_1 fault_1 lastPlace (.ref q_sF) (v_kept) undoable hasImage (v_power) (v_table) (.ref q_marks) (v_row) rowOf areSums isSieved (v_lastOf) blocks (v_inBlock) (v_atQuotient) (v_small) drawn, aI Y q_number 8 number_1, aZ Y q_isTold 9 isTold_1, aI Y q_name 24 name_1, aI Y q_sortOf 24 sortOf_1, aI Y q_first 24 first_1, aI Y q_second 24 second_1, aI Y q_degree 24 degree_1, aI Y q_colours 24 colours_1, aI Y q_signBy 24 signBy_1, aI Y q_tape 700 tape, aI Y q_own 288 own_1, aI Y q_sF 74 sF, aI Y q_marks 6251 marks]) rfl dX11_text_35 ?_
      refine g_aload_n C dX11_text_38 0 rfl ?_
      refine g_aload_n C dX11_text_39 0 rfl ?_
      refine g_get C inX11 0 rfl rfl 19 (by decide) wF_X11_142 rfl dX11_text_40 ?_
      obtain ⟨J_1, hA, hB_J_1⟩ := h
      have key_1 : ∀ (t_1 : Int32), J_1 t_1 → gG E 0 0 [oX11 h0 0 (.ref q_tape) 0 (.ref q_number) (.ref q_isTold) (.ref q_name) (.ref q_sortOf) (.ref q_first) (.ref q_second) (.ref q_degree) (.ref q_colours) (.ref q_signBy) (.ref q_own) lines_1 size_1 atF_1 place_1 sort_1 value_1 fault_1 faultPlace_1 fault_1 lastPlace (.ref q_sF) (v_kept) undoable hasImage (v_power) (v_table) (.ref q_marks) (v_row) rowOf areSums isSieved (v_lastOf) blocks (v_inBlock) (v_atQuotient) (v_small) drawn, aI Y q_number 8 number_1, aZ Y q_isTold 9 isTold_1, aI Y q_name 24 name_1, aI Y q_sortOf 24 sortOf_1, aI Y q_first 24 first_1, aI Y q_second 24 second_1, aI Y q_degree 24 degree_1, aI Y q_colours 24 colours_1, aI Y q_signBy 24 signBy_1, aI Y q_tape 700 tape, aI Y q_own 288 own_1, aI Y q_sF 74 sF, aI Y q_marks 6251 marks] [(0, .ref h0)] [.int t_1, .ref h0] 54 := by
        intro t_1 hJ
        have h := hB_J_1 t_1 hJ
        refine g_put C inX11 tyX11 tyX11_ok nmX11 0 rfl rfl 22 (by decide) wF_X11_44 rfl rfl rfl (Nat.le_of_ble_eq_true rfl) (ws' := [oX11 h0 0 (.ref q_tape) 0 (.ref q_number) (.ref q_isTold) (.ref q_name) (.ref q_sortOf) (.ref q_first) (.ref q_second) (.ref q_degree) (.ref q_colours) (.ref q_signBy) (.ref q_own) lines_1 size_1 atF_1 place_1 sort_1 value_1 fault_1 faultPlace_1 fault_1 t_1 (.ref q_sF) (v_kept) undoable hasImage (v_power) (v_table) (.ref q_marks) (v_row) rowOf areSums isSieved (v_lastOf) blocks (v_inBlock) (v_atQuotient) (v_small) drawn, aI Y q_number 8 number_1, aZ Y q_isTold 9 isTold_1, aI Y q_name 24 name_1, aI Y q_sortOf 24 sortOf_1, aI Y q_first 24 first_1, aI Y q_second 24 second_1, aI Y q_degree 24 degree_1, aI Y q_colours 24 colours_1, aI Y q_signBy 24 signBy_1, aI Y q_tape 700 tape, aI Y q_own 288 own_1, aI Y q_sF 74 sF, aI Y q_marks 6251 marks]) rfl dX11_text_54 ?_
        refine g_aload_n C dX11_text_57 0 rfl ?_
        refine g_get C inX11 0 rfl rfl 19 (by decide) wF_X11_142 rfl dX11_text_58 ?_
        refine g_if_eq (tgt := 66) C dX11_text_61 (by decide) (fun c_3 => ?_) (fun c_3 => ?_)
        · replace h := h.1 c_3
          refine g_aload_n C dX11_text_66 0 rfl ?_
          obtain ⟨P_2, hP, h⟩ := h
          refine g_callV (As := []) (rest := []) C (mX11_takeText l D Y h0 0 (.ref q_tape) 0 q_number (.ref q_isTold) q_name q_sortOf q_first q_second q_degree q_colours q_signBy q_own lines_1 size_1 atF_1 place_1 sort_1 value_1 fault_1 faultPlace_1 fault_1 t_1 (.ref q_sF) v_kept undoable hasImage v_power v_table (.ref q_marks) v_row rowOf areSums isSieved v_lastOf blocks v_inBlock v_atQuotient v_small drawn number_1 name_1 sortOf_1 first_1 second_1 degree_1 colours_1 signBy_1 own_1 P_2 hP) dX11_text_67 rfl wM_X11_83 wI_X11_takeText wV_X11_takeText wN_X11 wC_X11_takeText (n := 0) (by decide +kernel) rfl (q0 := 0) rfl rfl ⟨Nat.le_of_ble_eq_true rfl, Nat.le_of_ble_eq_true rfl⟩ ⟨Nat.le_of_ble_eq_true rfl, Nat.le_of_ble_eq_true rfl⟩ (Nat.le_of_ble_eq_true rfl) [0, 1, 3, 4, 5, 6, 7, 8, 9, 11] [2, 10, 12, 13] rfl rfl rfl (fun v wc hv => ?_)
          obtain ⟨number_2, name_2, sortOf_2, first_2, second_2, degree_2, colours_2, signBy_2, own_2, rfl, rfl, hq⟩ := hv
          replace h := h number_2 name_2 sortOf_2 first_2 second_2 degree_2 colours_2 signBy_2 own_2 hq
          refine gG.perm (ws' := [oX11 h0 0 (.ref q_tape) 0 (.ref q_number) (.ref q_isTold) (.ref q_name) (.ref q_sortOf) (.ref q_first) (.ref q_second) (.ref q_degree) (.ref q_colours) (.ref q_signBy) (.ref q_own) lines_1 size_1 atF_1 place_1 sort_1 value_1 fault_1 faultPlace_1 fault_1 t_1 (.ref q_sF) (v_kept) undoable hasImage (v_power) (v_table) (.ref q_marks) (v_row) rowOf areSums isSieved (v_lastOf) blocks (v_inBlock) (v_atQuotient) (v_small) drawn, aI Y q_number 8 number_2, aZ Y q_isTold 9 isTold_1, aI Y q_name 24 name_2, aI Y q_sortOf 24 sortOf_2, aI Y q_first 24 first_2, aI Y q_second 24 second_2, aI Y q_degree 24 degree_2, aI Y q_colours 24 colours_2, aI Y q_signBy 24 signBy_2, aI Y q_tape 700 tape, aI Y q_own 288 own_2, aI Y q_sF 74 sF, aI Y q_marks 6251 marks]) [4, 5, 0, 6, 7, 8, 9, 10, 11, 12, 1, 13, 2, 3] rfl rfl ?_
          refine g_aload_n C dX11_text_70 0 rfl ?_
          obtain ⟨P_3, hP, h⟩ := h
          refine g_callV (As := []) (rest := []) C (mX11_begins l D Y h0 0 (.ref q_tape) 0 q_number (.ref q_isTold) (.ref q_name) (.ref q_sortOf) (.ref q_first) (.ref q_second) (.ref q_degree) (.ref q_colours) (.ref q_signBy) q_own lines_1 size_1 atF_1 place_1 sort_1 value_1 fault_1 faultPlace_1 fault_1 t_1 q_sF v_kept undoable hasImage v_power v_table q_marks v_row rowOf areSums isSieved v_lastOf blocks v_inBlock v_atQuotient v_small drawn number_2 sF own_2 marks P_3 hP) dX11_text_71 rfl wM_X11_86 wI_X11_begins wV_X11_begins wN_X11 wC_X11_begins (n := 0) (by decide +kernel) rfl (q0 := 0) rfl rfl ⟨Nat.le_of_ble_eq_true rfl, Nat.le_of_ble_eq_true rfl⟩ ⟨Nat.le_of_ble_eq_true rfl, Nat.le_of_ble_eq_true rfl⟩ (Nat.le_of_ble_eq_true rfl) [0, 1, 12, 11, 13] [2, 3, 4, 5, 6, 7, 8, 9, 10] rfl rfl rfl (fun v wc hv => ?_)
          obtain ⟨rowOf_1, isSieved_1, sF_1, marks_1, rfl, rfl, hq⟩ := hv
          replace h := h rowOf_1 isSieved_1 sF_1 marks_1 hq
          refine gG.perm (ws' := [oX11 h0 0 (.ref q_tape) 0 (.ref q_number) (.ref q_isTold) (.ref q_name) (.ref q_sortOf) (.ref q_first) (.ref q_second) (.ref q_degree) (.ref q_colours) (.ref q_signBy) (.ref q_own) lines_1 size_1 atF_1 place_1 sort_1 value_1 fault_1 faultPlace_1 fault_1 t_1 (.ref q_sF) (v_kept) undoable hasImage (v_power) (v_table) (.ref q_marks) (v_row) rowOf_1 areSums isSieved_1 (v_lastOf) blocks (v_inBlock) (v_atQuotient) (v_small) drawn, aI Y q_number 8 number_2, aZ Y q_isTold 9 isTold_1, aI Y q_name 24 name_2, aI Y q_sortOf 24 sortOf_2, aI Y q_first 24 first_2, aI Y q_second 24 second_2, aI Y q_degree 24 degree_2, aI Y q_colours 24 colours_2, aI Y q_signBy 24 signBy_2, aI Y q_tape 700 tape, aI Y q_own 288 own_2, aI Y q_sF 74 sF_1, aI Y q_marks 6251 marks_1]) [9, 10, 0, 1, 2, 3, 4, 5, 6, 7, 8, 12, 11, 13] rfl rfl ?_
          refine g_aload_n C dX11_text_74 0 rfl ?_
          refine g_iconst (v := 0) C dX11_text_75 rfl ?_
          refine g_put C inX11 tyX11 tyX11_ok nmX11 0 rfl rfl 25 (by decide) wF_X11_219 rfl rfl rfl (Nat.le_of_ble_eq_true rfl) (ws' := [oX11 h0 0 (.ref q_tape) 0 (.ref q_number) (.ref q_isTold) (.ref q_name) (.ref q_sortOf) (.ref q_first) (.ref q_second) (.ref q_degree) (.ref q_colours) (.ref q_signBy) (.ref q_own) lines_1 size_1 atF_1 place_1 sort_1 value_1 fault_1 faultPlace_1 fault_1 t_1 (.ref q_sF) (v_kept) 0 hasImage (v_power) (v_table) (.ref q_marks) (v_row) rowOf_1 areSums isSieved_1 (v_lastOf) blocks (v_inBlock) (v_atQuotient) (v_small) drawn, aI Y q_number 8 number_2, aZ Y q_isTold 9 isTold_1, aI Y q_name 24 name_2, aI Y q_sortOf 24 sortOf_2, aI Y q_first 24 first_2, aI Y q_second 24 second_2, aI Y q_degree 24 degree_2, aI Y q_colours 24 colours_2, aI Y q_signBy 24 signBy_2, aI Y q_tape 700 tape, aI Y q_own 288 own_2, aI Y q_sF 74 sF_1, aI Y q_marks 6251 marks_1]) rfl dX11_text_76 ?_
          refine g_aload_n C dX11_text_79 0 rfl ?_
          refine g_iconst (v := 0) C dX11_text_80 rfl ?_
          refine g_put C inX11 tyX11 tyX11_ok nmX11 0 rfl rfl 26 (by decide) wF_X11_222 rfl rfl rfl (Nat.le_of_ble_eq_true rfl) (ws' := [oX11 h0 0 (.ref q_tape) 0 (.ref q_number) (.ref q_isTold) (.ref q_name) (.ref q_sortOf) (.ref q_first) (.ref q_second) (.ref q_degree) (.ref q_colours) (.ref q_signBy) (.ref q_own) lines_1 size_1 atF_1 place_1 sort_1 value_1 fault_1 faultPlace_1 fault_1 t_1 (.ref q_sF) (v_kept) 0 0 (v_power) (v_table) (.ref q_marks) (v_row) rowOf_1 areSums isSieved_1 (v_lastOf) blocks (v_inBlock) (v_atQuotient) (v_small) drawn, aI Y q_number 8 number_2, aZ Y q_isTold 9 isTold_1, aI Y q_name 24 name_2, aI Y q_sortOf 24 sortOf_2, aI Y q_first 24 first_2, aI Y q_second 24 second_2, aI Y q_degree 24 degree_2, aI Y q_colours 24 colours_2, aI Y q_signBy 24 signBy_2, aI Y q_tape 700 tape, aI Y q_own 288 own_2, aI Y q_sF 74 sF_1, aI Y q_marks 6251 marks_1]) rfl dX11_text_81 ?_
          refine g_aload_n C dX11_text_84 0 rfl ?_
          refine g_get C inX11 0 rfl rfl 13 (by decide) wF_X11_202 rfl dX11_text_85 ?_
          exact g_iret C hR (Nat.le_of_ble_eq_true rfl) (Nat.le_of_ble_eq_true rfl) dX11_text_88 ⟨lines_1, 0, 0, lines_1, size_1, atF_1, place_1, sort_1, value_1, fault_1, faultPlace_1, fault_1, t_1, 0, 0, rowOf_1, isSieved_1, number_2, isTold_1, name_2, sortOf_2, first_2, second_2, degree_2, colours_2, signBy_2, own_2, sF_1, marks_1, rfl, rfl, h⟩
        · replace h := h.2 c_3
          refine g_iconst (v := (-1)) C dX11_text_64 rfl ?_
          exact g_iret C hR (Nat.le_of_ble_eq_true rfl) (Nat.le_of_ble_eq_true rfl) dX11_text_65 ⟨(-1), 0, 0, lines_1, size_1, atF_1, place_1, sort_1, value_1, fault_1, faultPlace_1, fault_1, t_1, undoable, hasImage, rowOf, isSieved, number_1, isTold_1, name_1, sortOf_1, first_1, second_1, degree_1, colours_1, signBy_1, own_1, sF, marks, rfl, rfl, h⟩
      replace h := hA
      refine g_if_ne (tgt := 50) C dX11_text_43 (by decide) (fun c_4 => ?_) (fun c_4 => ?_)
      · replace h := h.1 c_4
        refine g_aload_n C dX11_text_50 0 rfl ?_
        refine g_get C inX11 0 rfl rfl 20 (by decide) wF_X11_145 rfl dX11_text_51 ?_
        refine gG.locals (lv' := [(0, .ref h0)]) [0] rfl ?_
        exact key_1 faultPlace_1 h
      · replace h := h.2 c_4
        refine g_iconst (v := (-1)) C dX11_text_46 rfl ?_
        refine g_goto (tgt := 54) C dX11_text_47 (by decide) ?_
        refine gG.locals (lv' := [(0, .ref h0)]) [0] rfl ?_
        exact key_1 (-1) h
    · replace h := h.2 c_2
      refine g_bipush (v := (-2)) C dX11_text_17 rfl ?_
      exact g_iret C hR (Nat.le_of_ble_eq_true rfl) (Nat.le_of_ble_eq_true rfl) dX11_text_19 ⟨(-2), 0, taped, lines, size, atF, place, sort, value, fault, faultPlace, lastFault, lastPlace, undoable, hasImage, rowOf, isSieved, number, isTold, name, sortOf, first, second, degree, colours, signBy, own, sF, marks, rfl, rfl, h⟩
theorem dX11_fault_0 : decode cX11_fault 0 = .ok (.aload_n 0, 1) := by decide +kernel
theorem dX11_fault_1 : decode cX11_fault 1 = .ok (.iconst 0, 1) := by decide +kernel
theorem dX11_fault_2 : decode cX11_fault 2 = .ok (.putfield 89, 3) := by decide +kernel
theorem dX11_fault_5 : decode cX11_fault 5 = .ok (.iload_n 1, 1) := by decide +kernel
theorem dX11_fault_6 : decode cX11_fault 6 = .ok (.ifCond .ne 10, 3) := by decide +kernel
theorem dX11_fault_9 : decode cX11_fault 9 = .ok (.aload_n 0, 1) := by decide +kernel
theorem dX11_fault_10 : decode cX11_fault 10 = .ok (.getfield 216, 3) := by decide +kernel
theorem dX11_fault_13 : decode cX11_fault 13 = .ok (.goto 16, 3) := by decide +kernel
theorem dX11_fault_16 : decode cX11_fault 16 = .ok (.iload_n 1, 1) := by decide +kernel
theorem dX11_fault_17 : decode cX11_fault 17 = .ok (.iconst 1, 1) := by decide +kernel
theorem dX11_fault_18 : decode cX11_fault 18 = .ok (.if_icmp .ne 10, 3) := by decide +kernel
theorem dX11_fault_21 : decode cX11_fault 21 = .ok (.aload_n 0, 1) := by decide +kernel
theorem dX11_fault_22 : decode cX11_fault 22 = .ok (.getfield 44, 3) := by decide +kernel
theorem dX11_fault_25 : decode cX11_fault 25 = .ok (.goto 4, 3) := by decide +kernel
theorem dX11_fault_28 : decode cX11_fault 28 = .ok (.iconst (-1), 1) := by decide +kernel
theorem dX11_fault_29 : decode cX11_fault 29 = .ok (.ireturn, 1) := by decide +kernel
/-- QuotientSumsModel.fault(I)I -/
def wX11_fault (thrown : Int32) (taped : Int32) (lines : Int32) (size : Int32) (atF : Int32) (place : Int32) (sort : Int32) (value : Int32) (fault : Int32) (faultPlace : Int32) (lastFault : Int32) (lastPlace : Int32) (undoable : Int32) (hasImage : Int32) (rowOf : Int32) (areSums : Int32) (isSieved : Int32) (blocks : Int32) (drawn : Int32) (a1 : Int32) (Q : (Int32) → (Int32) → Prop) : Prop :=
  ((¬ a1 = 0 → ((¬ a1 = 1 → (Q (-1) 0)) ∧ (a1 = 1 → (Q lastPlace 0)))) ∧ (a1 = 0 → (Q lastFault 0)))
set_option maxHeartbeats 4000000 in
set_option maxRecDepth 100000 in
theorem mX11_fault (l : Launch) (D : va_G) (Y : Nat → ClassId) (h0 : Nat) (thrown : Int32) (v_tape : Value) (taped : Int32) (v_number : Value) (v_isTold : Value) (v_name : Value) (v_sortOf : Value) (v_first : Value) (v_second : Value) (v_degree : Value) (v_colours : Value) (v_signBy : Value) (v_own : Value) (lines : Int32) (size : Int32) (atF : Int32) (place : Int32) (sort : Int32) (value : Int32) (fault : Int32) (faultPlace : Int32) (lastFault : Int32) (lastPlace : Int32) (v_sF : Value) (v_kept : Value) (undoable : Int32) (hasImage : Int32) (v_power : Value) (v_table : Value) (v_marks : Value) (v_row : Value) (rowOf : Int32) (areSums : Int32) (isSieved : Int32) (v_lastOf : Value) (blocks : Int32) (v_inBlock : Value) (v_atQuotient : Value) (v_small : Value) (drawn : Int32) (a1 : Int32) (Q : (Int32) → (Int32) → Prop) (h : wX11_fault thrown taped lines size atF place sort value fault faultPlace lastFault lastPlace undoable hasImage rowOf areSums isSieved blocks drawn a1 Q) : gM l D Y yX11_fault cX11_fault 2 (some .int) 0 0 0 0 [.ref h0, .int a1] [oX11 h0 thrown (v_tape) taped (v_number) (v_isTold) (v_name) (v_sortOf) (v_first) (v_second) (v_degree) (v_colours) (v_signBy) (v_own) lines size atF place sort value fault faultPlace lastFault lastPlace (v_sF) (v_kept) undoable hasImage (v_power) (v_table) (v_marks) (v_row) rowOf areSums isSieved (v_lastOf) blocks (v_inBlock) (v_atQuotient) (v_small) drawn] (fun v w => ∃ r : Int32, ∃ thrown' : Int32, v = some (.int r) ∧ w = [oX11 h0 thrown' (v_tape) taped (v_number) (v_isTold) (v_name) (v_sortOf) (v_first) (v_second) (v_degree) (v_colours) (v_signBy) (v_own) lines size atF place sort value fault faultPlace lastFault lastPlace (v_sF) (v_kept) undoable hasImage (v_power) (v_table) (v_marks) (v_row) rowOf areSums isSieved (v_lastOf) blocks (v_inBlock) (v_atQuotient) (v_small) drawn] ∧ Q r thrown') := by
  refine gM_of (own := RX11) (by decide +kernel) rfl (Nat.le_of_ble_eq_true rfl) rfl (fun E C hR => ?_)
  unfold wX11_fault at h
  refine g_aload_n C dX11_fault_0 0 rfl ?_
  refine g_iconst (v := 0) C dX11_fault_1 rfl ?_
  refine g_put C inX11 tyX11 tyX11_ok nmX11 0 rfl rfl 0 (by decide) wF_X11_89 rfl rfl rfl (Nat.le_of_ble_eq_true rfl) (ws' := [oX11 h0 0 (v_tape) taped (v_number) (v_isTold) (v_name) (v_sortOf) (v_first) (v_second) (v_degree) (v_colours) (v_signBy) (v_own) lines size atF place sort value fault faultPlace lastFault lastPlace (v_sF) (v_kept) undoable hasImage (v_power) (v_table) (v_marks) (v_row) rowOf areSums isSieved (v_lastOf) blocks (v_inBlock) (v_atQuotient) (v_small) drawn]) rfl dX11_fault_2 ?_
  refine g_iload_n C dX11_fault_5 1 rfl ?_
  refine g_if_ne (tgt := 16) C dX11_fault_6 (by decide) (fun c_1 => ?_) (fun c_1 => ?_)
  · replace h := h.1 c_1
    refine g_iload_n C dX11_fault_16 1 rfl ?_
    refine g_iconst (v := 1) C dX11_fault_17 rfl ?_
    refine g_icmp_ne (tgt := 28) C dX11_fault_18 (by decide) (fun c_2 => ?_) (fun c_2 => ?_)
    · replace h := h.1 c_2
      refine g_iconst (v := (-1)) C dX11_fault_28 rfl ?_
      exact g_iret C hR (Nat.le_of_ble_eq_true rfl) (Nat.le_of_ble_eq_true rfl) dX11_fault_29 ⟨(-1), 0, rfl, rfl, h⟩
    · replace h := h.2 c_2
      refine g_aload_n C dX11_fault_21 0 rfl ?_
      refine g_get C inX11 0 rfl rfl 22 (by decide) wF_X11_44 rfl dX11_fault_22 ?_
      refine g_goto (tgt := 29) C dX11_fault_25 (by decide) ?_
      exact g_iret C hR (Nat.le_of_ble_eq_true rfl) (Nat.le_of_ble_eq_true rfl) dX11_fault_29 ⟨lastPlace, 0, rfl, rfl, h⟩
  · replace h := h.2 c_1
    refine g_aload_n C dX11_fault_9 0 rfl ?_
    refine g_get C inX11 0 rfl rfl 21 (by decide) wF_X11_216 rfl dX11_fault_10 ?_
    refine g_goto (tgt := 29) C dX11_fault_13 (by decide) ?_
    exact g_iret C hR (Nat.le_of_ble_eq_true rfl) (Nat.le_of_ble_eq_true rfl) dX11_fault_29 ⟨lastFault, 0, rfl, rfl, h⟩
theorem dX11_functions_0 : decode cX11_functions 0 = .ok (.bipush 6, 2) := by decide +kernel
theorem dX11_functions_2 : decode cX11_functions 2 = .ok (.aload_n 0, 1) := by decide +kernel
theorem dX11_functions_3 : decode cX11_functions 3 = .ok (.getfield 13, 3) := by decide +kernel
theorem dX11_functions_6 : decode cX11_functions 6 = .ok (.iconst 3, 1) := by decide +kernel
theorem dX11_functions_7 : decode cX11_functions 7 = .ok (.iaload, 1) := by decide +kernel
theorem dX11_functions_8 : decode cX11_functions 8 = .ok (.iadd, 1) := by decide +kernel
theorem dX11_functions_9 : decode cX11_functions 9 = .ok (.ireturn, 1) := by decide +kernel
/-- QuotientSumsModel.functions()I -/
def wX11_functions (thrown : Int32) (taped : Int32) (lines : Int32) (size : Int32) (atF : Int32) (place : Int32) (sort : Int32) (value : Int32) (fault : Int32) (faultPlace : Int32) (lastFault : Int32) (lastPlace : Int32) (undoable : Int32) (hasImage : Int32) (rowOf : Int32) (areSums : Int32) (isSieved : Int32) (blocks : Int32) (drawn : Int32) (number : Nat → Int32)  (Q : (Int32) → Prop) : Prop :=
  (Q (6 + (number 3)))
set_option maxHeartbeats 4000000 in
set_option maxRecDepth 100000 in
theorem mX11_functions (l : Launch) (D : va_G) (Y : Nat → ClassId) (h0 : Nat) (thrown : Int32) (v_tape : Value) (taped : Int32) (q_number : Nat) (v_isTold : Value) (v_name : Value) (v_sortOf : Value) (v_first : Value) (v_second : Value) (v_degree : Value) (v_colours : Value) (v_signBy : Value) (v_own : Value) (lines : Int32) (size : Int32) (atF : Int32) (place : Int32) (sort : Int32) (value : Int32) (fault : Int32) (faultPlace : Int32) (lastFault : Int32) (lastPlace : Int32) (v_sF : Value) (v_kept : Value) (undoable : Int32) (hasImage : Int32) (v_power : Value) (v_table : Value) (v_marks : Value) (v_row : Value) (rowOf : Int32) (areSums : Int32) (isSieved : Int32) (v_lastOf : Value) (blocks : Int32) (v_inBlock : Value) (v_atQuotient : Value) (v_small : Value) (drawn : Int32) (number : Nat → Int32)  (Q : (Int32) → Prop) (h : wX11_functions thrown taped lines size atF place sort value fault faultPlace lastFault lastPlace undoable hasImage rowOf areSums isSieved blocks drawn number Q) : gM l D Y yX11_functions cX11_functions 1 (some .int) 0 0 0 0 [.ref h0] [oX11 h0 thrown (v_tape) taped (.ref q_number) (v_isTold) (v_name) (v_sortOf) (v_first) (v_second) (v_degree) (v_colours) (v_signBy) (v_own) lines size atF place sort value fault faultPlace lastFault lastPlace (v_sF) (v_kept) undoable hasImage (v_power) (v_table) (v_marks) (v_row) rowOf areSums isSieved (v_lastOf) blocks (v_inBlock) (v_atQuotient) (v_small) drawn, aI Y q_number 8 number] (fun v w => ∃ r : Int32, v = some (.int r) ∧ w = [oX11 h0 thrown (v_tape) taped (.ref q_number) (v_isTold) (v_name) (v_sortOf) (v_first) (v_second) (v_degree) (v_colours) (v_signBy) (v_own) lines size atF place sort value fault faultPlace lastFault lastPlace (v_sF) (v_kept) undoable hasImage (v_power) (v_table) (v_marks) (v_row) rowOf areSums isSieved (v_lastOf) blocks (v_inBlock) (v_atQuotient) (v_small) drawn, aI Y q_number 8 number] ∧ Q r) := by
  refine gM_of (own := RX11) (by decide +kernel) rfl (Nat.le_of_ble_eq_true rfl) rfl (fun E C hR => ?_)
  unfold wX11_functions at h
  refine g_bipush (v := 6) C dX11_functions_0 rfl ?_
  refine g_aload_n C dX11_functions_2 0 rfl ?_
  refine g_get C inX11 0 rfl rfl 3 (by decide) wF_X11_13 rfl dX11_functions_3 ?_
  refine g_iconst (v := 3) C dX11_functions_6 rfl ?_
  refine g_iald C 1 rfl (by unfold vp_in; decide) dX11_functions_7 ?_
  refine g_iadd C dX11_functions_8 ?_
  exact g_iret C hR (Nat.le_of_ble_eq_true rfl) (Nat.le_of_ble_eq_true rfl) dX11_functions_9 ⟨6 + (number 3), rfl, rfl, h⟩
theorem dX11_named_0 : decode cX11_named 0 = .ok (.aload_n 0, 1) := by decide +kernel
theorem dX11_named_1 : decode cX11_named 1 = .ok (.iconst 0, 1) := by decide +kernel
theorem dX11_named_2 : decode cX11_named 2 = .ok (.putfield 89, 3) := by decide +kernel
theorem dX11_named_5 : decode cX11_named 5 = .ok (.aload_n 0, 1) := by decide +kernel
theorem dX11_named_6 : decode cX11_named 6 = .ok (.iconst 0, 1) := by decide +kernel
theorem dX11_named_7 : decode cX11_named 7 = .ok (.aload_n 0, 1) := by decide +kernel
theorem dX11_named_8 : decode cX11_named 8 = .ok (.invokevirtual 226, 3) := by decide +kernel
theorem dX11_named_11 : decode cX11_named 11 = .ok (.iload_n 1, 1) := by decide +kernel
theorem dX11_named_12 : decode cX11_named 12 = .ok (.invokevirtual 173, 3) := by decide +kernel
theorem dX11_named_15 : decode cX11_named 15 = .ok (.ireturn, 1) := by decide +kernel
/-- QuotientSumsModel.named(I)I -/
def wX11_named (thrown : Int32) (taped : Int32) (lines : Int32) (size : Int32) (atF : Int32) (place : Int32) (sort : Int32) (value : Int32) (fault : Int32) (faultPlace : Int32) (lastFault : Int32) (lastPlace : Int32) (undoable : Int32) (hasImage : Int32) (rowOf : Int32) (areSums : Int32) (isSieved : Int32) (blocks : Int32) (drawn : Int32) (number : Nat → Int32) (name : Nat → Int32) (a1 : Int32) (Q : (Int32) → (Int32) → Prop) : Prop :=
  (∃ (P_1 : (Int32) → Prop), wX11_functions 0 taped lines size atF place sort value fault faultPlace lastFault lastPlace undoable hasImage rowOf areSums isSieved blocks drawn number P_1 ∧ ∀ (rF_1 : Int32), P_1 rF_1 → ∃ (P_2 : (Int32) → Prop), wX11_namedAt 0 taped lines size atF place sort value fault faultPlace lastFault lastPlace undoable hasImage rowOf areSums isSieved blocks drawn name 0 rF_1 a1 P_2 ∧ ∀ (rF_2 : Int32), P_2 rF_2 → (Q rF_2 0))
set_option maxHeartbeats 4000000 in
set_option maxRecDepth 100000 in
theorem mX11_named (l : Launch) (D : va_G) (Y : Nat → ClassId) (h0 : Nat) (thrown : Int32) (v_tape : Value) (taped : Int32) (q_number : Nat) (v_isTold : Value) (q_name : Nat) (v_sortOf : Value) (v_first : Value) (v_second : Value) (v_degree : Value) (v_colours : Value) (v_signBy : Value) (v_own : Value) (lines : Int32) (size : Int32) (atF : Int32) (place : Int32) (sort : Int32) (value : Int32) (fault : Int32) (faultPlace : Int32) (lastFault : Int32) (lastPlace : Int32) (v_sF : Value) (v_kept : Value) (undoable : Int32) (hasImage : Int32) (v_power : Value) (v_table : Value) (v_marks : Value) (v_row : Value) (rowOf : Int32) (areSums : Int32) (isSieved : Int32) (v_lastOf : Value) (blocks : Int32) (v_inBlock : Value) (v_atQuotient : Value) (v_small : Value) (drawn : Int32) (number : Nat → Int32) (name : Nat → Int32) (a1 : Int32) (Q : (Int32) → (Int32) → Prop) (h : wX11_named thrown taped lines size atF place sort value fault faultPlace lastFault lastPlace undoable hasImage rowOf areSums isSieved blocks drawn number name a1 Q) : gM l D Y yX11_named cX11_named 2 (some .int) 1 24 0 0 [.ref h0, .int a1] [oX11 h0 thrown (v_tape) taped (.ref q_number) (v_isTold) (.ref q_name) (v_sortOf) (v_first) (v_second) (v_degree) (v_colours) (v_signBy) (v_own) lines size atF place sort value fault faultPlace lastFault lastPlace (v_sF) (v_kept) undoable hasImage (v_power) (v_table) (v_marks) (v_row) rowOf areSums isSieved (v_lastOf) blocks (v_inBlock) (v_atQuotient) (v_small) drawn, aI Y q_number 8 number, aI Y q_name 24 name] (fun v w => ∃ r : Int32, ∃ thrown' : Int32, v = some (.int r) ∧ w = [oX11 h0 thrown' (v_tape) taped (.ref q_number) (v_isTold) (.ref q_name) (v_sortOf) (v_first) (v_second) (v_degree) (v_colours) (v_signBy) (v_own) lines size atF place sort value fault faultPlace lastFault lastPlace (v_sF) (v_kept) undoable hasImage (v_power) (v_table) (v_marks) (v_row) rowOf areSums isSieved (v_lastOf) blocks (v_inBlock) (v_atQuotient) (v_small) drawn, aI Y q_number 8 number, aI Y q_name 24 name] ∧ Q r thrown') := by
  refine gM_of (own := RX11) (by decide +kernel) rfl (Nat.le_of_ble_eq_true rfl) rfl (fun E C hR => ?_)
  unfold wX11_named at h
  refine g_aload_n C dX11_named_0 0 rfl ?_
  refine g_iconst (v := 0) C dX11_named_1 rfl ?_
  refine g_put C inX11 tyX11 tyX11_ok nmX11 0 rfl rfl 0 (by decide) wF_X11_89 rfl rfl rfl (Nat.le_of_ble_eq_true rfl) (ws' := [oX11 h0 0 (v_tape) taped (.ref q_number) (v_isTold) (.ref q_name) (v_sortOf) (v_first) (v_second) (v_degree) (v_colours) (v_signBy) (v_own) lines size atF place sort value fault faultPlace lastFault lastPlace (v_sF) (v_kept) undoable hasImage (v_power) (v_table) (v_marks) (v_row) rowOf areSums isSieved (v_lastOf) blocks (v_inBlock) (v_atQuotient) (v_small) drawn, aI Y q_number 8 number, aI Y q_name 24 name]) rfl dX11_named_2 ?_
  refine g_aload_n C dX11_named_5 0 rfl ?_
  refine g_iconst (v := 0) C dX11_named_6 rfl ?_
  refine g_aload_n C dX11_named_7 0 rfl ?_
  obtain ⟨P_1, hP, h⟩ := h
  refine g_callV (As := []) (rest := [.int 0, .ref h0]) C (mX11_functions l D Y h0 0 v_tape taped q_number v_isTold (.ref q_name) v_sortOf v_first v_second v_degree v_colours v_signBy v_own lines size atF place sort value fault faultPlace lastFault lastPlace v_sF v_kept undoable hasImage v_power v_table v_marks v_row rowOf areSums isSieved v_lastOf blocks v_inBlock v_atQuotient v_small drawn number P_1 hP) dX11_named_8 rfl wM_X11_226 wI_X11_functions wV_X11_functions wN_X11 wC_X11_functions (n := 0) (by decide +kernel) rfl (q0 := 0) rfl rfl ⟨Nat.le_of_ble_eq_true rfl, Nat.le_of_ble_eq_true rfl⟩ ⟨Nat.le_of_ble_eq_true rfl, Nat.le_of_ble_eq_true rfl⟩ (Nat.le_of_ble_eq_true rfl) [0, 1] [2] rfl rfl rfl (fun v wc hv => ?_)
  obtain ⟨rF_1, rfl, rfl, hq⟩ := hv
  replace h := h rF_1 hq
  refine gG.perm (ws' := [oX11 h0 0 (v_tape) taped (.ref q_number) (v_isTold) (.ref q_name) (v_sortOf) (v_first) (v_second) (v_degree) (v_colours) (v_signBy) (v_own) lines size atF place sort value fault faultPlace lastFault lastPlace (v_sF) (v_kept) undoable hasImage (v_power) (v_table) (v_marks) (v_row) rowOf areSums isSieved (v_lastOf) blocks (v_inBlock) (v_atQuotient) (v_small) drawn, aI Y q_number 8 number, aI Y q_name 24 name]) [1, 2, 0] rfl rfl ?_
  refine g_iload_n C dX11_named_11 1 rfl ?_
  obtain ⟨P_2, hP, h⟩ := h
  refine g_callV (As := [.int 0, .int rF_1, .int a1]) (rest := []) C (mX11_namedAt l D Y h0 0 v_tape taped (.ref q_number) v_isTold q_name v_sortOf v_first v_second v_degree v_colours v_signBy v_own lines size atF place sort value fault faultPlace lastFault lastPlace v_sF v_kept undoable hasImage v_power v_table v_marks v_row rowOf areSums isSieved v_lastOf blocks v_inBlock v_atQuotient v_small drawn name 0 rF_1 a1 P_2 hP) dX11_named_12 rfl wM_X11_173 wI_X11_namedAt wV_X11_namedAt wN_X11 wC_X11_namedAt (n := 3) (by decide +kernel) rfl (q0 := 0) rfl rfl ⟨Nat.le_of_ble_eq_true rfl, Nat.le_of_ble_eq_true rfl⟩ ⟨Nat.le_of_ble_eq_true rfl, Nat.le_of_ble_eq_true rfl⟩ (Nat.le_of_ble_eq_true rfl) [0, 2] [1] rfl rfl rfl (fun v wc hv => ?_)
  obtain ⟨rF_2, rfl, rfl, hq⟩ := hv
  replace h := h rF_2 hq
  refine gG.perm (ws' := [oX11 h0 0 (v_tape) taped (.ref q_number) (v_isTold) (.ref q_name) (v_sortOf) (v_first) (v_second) (v_degree) (v_colours) (v_signBy) (v_own) lines size atF place sort value fault faultPlace lastFault lastPlace (v_sF) (v_kept) undoable hasImage (v_power) (v_table) (v_marks) (v_row) rowOf areSums isSieved (v_lastOf) blocks (v_inBlock) (v_atQuotient) (v_small) drawn, aI Y q_number 8 number, aI Y q_name 24 name]) [1, 0, 2] rfl rfl ?_
  exact g_iret C hR (Nat.le_of_ble_eq_true rfl) (Nat.le_of_ble_eq_true rfl) dX11_named_15 ⟨rF_2, 0, rfl, rfl, h⟩
theorem dX11_lays_0 : decode cX11_lays 0 = .ok (.iconst 0, 1) := by decide +kernel
theorem dX11_lays_1 : decode cX11_lays 1 = .ok (.istore_n 2, 1) := by decide +kernel
theorem dX11_lays_2 : decode cX11_lays 2 = .ok (.iload_n 2, 1) := by decide +kernel
theorem dX11_lays_3 : decode cX11_lays 3 = .ok (.bipush 74, 2) := by decide +kernel
theorem dX11_lays_5 : decode cX11_lays 5 = .ok (.if_icmp .ge 26, 3) := by decide +kernel
theorem dX11_lays_8 : decode cX11_lays 8 = .ok (.aload_n 0, 1) := by decide +kernel
theorem dX11_lays_9 : decode cX11_lays 9 = .ok (.getfield 51, 3) := by decide +kernel
theorem dX11_lays_12 : decode cX11_lays 12 = .ok (.bipush 74, 2) := by decide +kernel
theorem dX11_lays_14 : decode cX11_lays 14 = .ok (.iload_n 1, 1) := by decide +kernel
theorem dX11_lays_15 : decode cX11_lays 15 = .ok (.imul, 1) := by decide +kernel
theorem dX11_lays_16 : decode cX11_lays 16 = .ok (.iload_n 2, 1) := by decide +kernel
theorem dX11_lays_17 : decode cX11_lays 17 = .ok (.iadd, 1) := by decide +kernel
theorem dX11_lays_18 : decode cX11_lays 18 = .ok (.aload_n 0, 1) := by decide +kernel
theorem dX11_lays_19 : decode cX11_lays 19 = .ok (.getfield 48, 3) := by decide +kernel
theorem dX11_lays_22 : decode cX11_lays 22 = .ok (.iload_n 2, 1) := by decide +kernel
theorem dX11_lays_23 : decode cX11_lays 23 = .ok (.iaload, 1) := by decide +kernel
theorem dX11_lays_24 : decode cX11_lays 24 = .ok (.iastore, 1) := by decide +kernel
theorem dX11_lays_25 : decode cX11_lays 25 = .ok (.iinc 2 1, 3) := by decide +kernel
theorem dX11_lays_28 : decode cX11_lays 28 = .ok (.goto (-26), 3) := by decide +kernel
theorem dX11_lays_31 : decode cX11_lays 31 = .ok (.return_, 1) := by decide +kernel
/-- QuotientSumsModel.lays(I)V -/
def wX11_lays (thrown : Int32) (taped : Int32) (lines : Int32) (size : Int32) (atF : Int32) (place : Int32) (sort : Int32) (value : Int32) (fault : Int32) (faultPlace : Int32) (lastFault : Int32) (lastPlace : Int32) (undoable : Int32) (hasImage : Int32) (rowOf : Int32) (areSums : Int32) (isSieved : Int32) (blocks : Int32) (drawn : Int32) (sF : Nat → Int32) (kept : Nat → Int32) (a1 : Int32) (Q : (Nat → Int32) → Prop) : Prop :=
  (∃ (Inv_1 : (Nat → Int32) → (Int32) → Prop) (Mea_1 : (Nat → Int32) → (Int32) → Nat), Inv_1 kept 0 ∧ ∀ (kept_1 : Nat → Int32) (x2_1 : Int32), Inv_1 kept_1 x2_1 → ((74 ≤ x2_1 → (Q kept_1)) ∧ (¬ 74 ≤ x2_1 → (vp_in x2_1 74 ∧ ∀ e_1 : Int32, e_1 = sF x2_1.toNatClampNeg → vp_in ((74 * a1) + x2_1) 1554 ∧ ∀ kept_2 : Nat → Int32, kept_2 = upd kept_1 ((74 * a1) + x2_1).toNatClampNeg e_1 → (Inv_1 kept_2 (x2_1 + 1) ∧ Mea_1 kept_2 (x2_1 + 1) < Mea_1 kept_1 x2_1)))))
set_option maxHeartbeats 4000000 in
set_option maxRecDepth 100000 in
theorem mX11_lays (l : Launch) (D : va_G) (Y : Nat → ClassId) (h0 : Nat) (thrown : Int32) (v_tape : Value) (taped : Int32) (v_number : Value) (v_isTold : Value) (v_name : Value) (v_sortOf : Value) (v_first : Value) (v_second : Value) (v_degree : Value) (v_colours : Value) (v_signBy : Value) (v_own : Value) (lines : Int32) (size : Int32) (atF : Int32) (place : Int32) (sort : Int32) (value : Int32) (fault : Int32) (faultPlace : Int32) (lastFault : Int32) (lastPlace : Int32) (q_sF : Nat) (q_kept : Nat) (undoable : Int32) (hasImage : Int32) (v_power : Value) (v_table : Value) (v_marks : Value) (v_row : Value) (rowOf : Int32) (areSums : Int32) (isSieved : Int32) (v_lastOf : Value) (blocks : Int32) (v_inBlock : Value) (v_atQuotient : Value) (v_small : Value) (drawn : Int32) (sF : Nat → Int32) (kept : Nat → Int32) (a1 : Int32) (Q : (Nat → Int32) → Prop) (h : wX11_lays thrown taped lines size atF place sort value fault faultPlace lastFault lastPlace undoable hasImage rowOf areSums isSieved blocks drawn sF kept a1 Q) : gM l D Y yX11_lays cX11_lays 3 none 0 0 0 0 [.ref h0, .int a1] [oX11 h0 thrown (v_tape) taped (v_number) (v_isTold) (v_name) (v_sortOf) (v_first) (v_second) (v_degree) (v_colours) (v_signBy) (v_own) lines size atF place sort value fault faultPlace lastFault lastPlace (.ref q_sF) (.ref q_kept) undoable hasImage (v_power) (v_table) (v_marks) (v_row) rowOf areSums isSieved (v_lastOf) blocks (v_inBlock) (v_atQuotient) (v_small) drawn, aI Y q_sF 74 sF, aI Y q_kept 1554 kept] (fun v w => ∃ kept' : Nat → Int32, v = none ∧ w = [oX11 h0 thrown (v_tape) taped (v_number) (v_isTold) (v_name) (v_sortOf) (v_first) (v_second) (v_degree) (v_colours) (v_signBy) (v_own) lines size atF place sort value fault faultPlace lastFault lastPlace (.ref q_sF) (.ref q_kept) undoable hasImage (v_power) (v_table) (v_marks) (v_row) rowOf areSums isSieved (v_lastOf) blocks (v_inBlock) (v_atQuotient) (v_small) drawn, aI Y q_sF 74 sF, aI Y q_kept 1554 kept'] ∧ Q kept') := by
  refine gM_of (own := RX11) (by decide +kernel) rfl (Nat.le_of_ble_eq_true rfl) rfl (fun E C hR => ?_)
  unfold wX11_lays at h
  refine g_iconst (v := 0) C dX11_lays_0 rfl ?_
  refine g_istore_n (lv' := [(2, .int 0), (0, .ref h0), (1, .int a1)]) C dX11_lays_1 (by decide) rfl ?_
  obtain ⟨Inv_1, Mea_1, hI1, hB1⟩ := h
  have key_1 : ∀ (n : Nat) (kept_1 : Nat → Int32) (x2_1 : Int32) , Mea_1 kept_1 x2_1 < n → Inv_1 kept_1 x2_1 → gG E 0 0 [oX11 h0 thrown (v_tape) taped (v_number) (v_isTold) (v_name) (v_sortOf) (v_first) (v_second) (v_degree) (v_colours) (v_signBy) (v_own) lines size atF place sort value fault faultPlace lastFault lastPlace (.ref q_sF) (.ref q_kept) undoable hasImage (v_power) (v_table) (v_marks) (v_row) rowOf areSums isSieved (v_lastOf) blocks (v_inBlock) (v_atQuotient) (v_small) drawn, aI Y q_sF 74 sF, aI Y q_kept 1554 kept_1] [(0, .ref h0), (1, .int a1), (2, .int x2_1)] [] 2 := by
    intro n
    induction n with
    | zero => exact fun _ _ hm => absurd hm (Nat.not_lt_zero _)
    | succ n ih1 =>
      intro kept_1 x2_1  hm1 hI
      have h := hB1 kept_1 x2_1 hI
      refine g_iload_n C dX11_lays_2 2 rfl ?_
      refine g_bipush (v := 74) C dX11_lays_3 rfl ?_
      refine g_icmp_ge (tgt := 31) C dX11_lays_5 (by decide) (fun c_1 => ?_) (fun c_1 => ?_)
      · replace h := h.1 c_1
        exact g_vret C hR (Nat.le_of_ble_eq_true rfl) (Nat.le_of_ble_eq_true rfl) dX11_lays_31 ⟨kept_1, rfl, rfl, h⟩
      · replace h := h.2 c_1
        refine g_aload_n C dX11_lays_8 0 rfl ?_
        refine g_get C inX11 0 rfl rfl 24 (by decide) wF_X11_51 rfl dX11_lays_9 ?_
        refine g_bipush (v := 74) C dX11_lays_12 rfl ?_
        refine g_iload_n C dX11_lays_14 1 rfl ?_
        refine g_imul C dX11_lays_15 ?_
        refine g_iload_n C dX11_lays_16 2 rfl ?_
        refine g_iadd C dX11_lays_17 ?_
        refine g_aload_n C dX11_lays_18 0 rfl ?_
        refine g_get C inX11 0 rfl rfl 23 (by decide) wF_X11_48 rfl dX11_lays_19 ?_
        refine g_iload_n C dX11_lays_22 2 rfl ?_
        obtain ⟨hc_1, h⟩ := h
        refine g_iald C 1 rfl hc_1 dX11_lays_23 ?_
        refine g_topi (fun e_1 ee_1 => ?_)
        replace h := h e_1 ee_1
        obtain ⟨hc_2, h⟩ := h
        refine g_iast C 2 rfl hc_2 dX11_lays_24 (fun kept_2 ekept_2 => gG.eqw (ws' := [oX11 h0 thrown (v_tape) taped (v_number) (v_isTold) (v_name) (v_sortOf) (v_first) (v_second) (v_degree) (v_colours) (v_signBy) (v_own) lines size atF place sort value fault faultPlace lastFault lastPlace (.ref q_sF) (.ref q_kept) undoable hasImage (v_power) (v_table) (v_marks) (v_row) rowOf areSums isSieved (v_lastOf) blocks (v_inBlock) (v_atQuotient) (v_small) drawn, aI Y q_sF 74 sF, aI Y q_kept 1554 kept_2]) rfl ?_)
        replace h := h kept_2 ekept_2
        refine g_iinc (v := x2_1 + 1) (lv' := [(2, .int (x2_1 + 1)), (0, .ref h0), (1, .int a1)]) C dX11_lays_25 2 rfl rfl (by decide) rfl ?_
        refine g_goto (tgt := 2) C dX11_lays_28 (by decide) ?_
        refine gG.locals (lv' := [(0, .ref h0), (1, .int a1), (2, .int (x2_1 + 1))]) [1, 2, 0] rfl ?_
        exact ih1 kept_2 (x2_1 + 1) (Nat.lt_of_lt_of_le h.2 (Nat.le_of_lt_succ hm1)) h.1
  refine gG.locals (lv' := [(0, .ref h0), (1, .int a1), (2, .int 0)]) [1, 2, 0] rfl ?_
  exact key_1 (Mea_1 kept 0 + 1) kept 0 (Nat.lt_succ_self _) hI1
theorem dX11_laysBack_0 : decode cX11_laysBack 0 = .ok (.iconst 0, 1) := by decide +kernel
theorem dX11_laysBack_1 : decode cX11_laysBack 1 = .ok (.istore_n 2, 1) := by decide +kernel
theorem dX11_laysBack_2 : decode cX11_laysBack 2 = .ok (.iload_n 2, 1) := by decide +kernel
theorem dX11_laysBack_3 : decode cX11_laysBack 3 = .ok (.bipush 74, 2) := by decide +kernel
theorem dX11_laysBack_5 : decode cX11_laysBack 5 = .ok (.if_icmp .ge 26, 3) := by decide +kernel
theorem dX11_laysBack_8 : decode cX11_laysBack 8 = .ok (.aload_n 0, 1) := by decide +kernel
theorem dX11_laysBack_9 : decode cX11_laysBack 9 = .ok (.getfield 48, 3) := by decide +kernel
theorem dX11_laysBack_12 : decode cX11_laysBack 12 = .ok (.iload_n 2, 1) := by decide +kernel
theorem dX11_laysBack_13 : decode cX11_laysBack 13 = .ok (.aload_n 0, 1) := by decide +kernel
theorem dX11_laysBack_14 : decode cX11_laysBack 14 = .ok (.getfield 51, 3) := by decide +kernel
theorem dX11_laysBack_17 : decode cX11_laysBack 17 = .ok (.bipush 74, 2) := by decide +kernel
theorem dX11_laysBack_19 : decode cX11_laysBack 19 = .ok (.iload_n 1, 1) := by decide +kernel
theorem dX11_laysBack_20 : decode cX11_laysBack 20 = .ok (.imul, 1) := by decide +kernel
theorem dX11_laysBack_21 : decode cX11_laysBack 21 = .ok (.iload_n 2, 1) := by decide +kernel
theorem dX11_laysBack_22 : decode cX11_laysBack 22 = .ok (.iadd, 1) := by decide +kernel
theorem dX11_laysBack_23 : decode cX11_laysBack 23 = .ok (.iaload, 1) := by decide +kernel
theorem dX11_laysBack_24 : decode cX11_laysBack 24 = .ok (.iastore, 1) := by decide +kernel
theorem dX11_laysBack_25 : decode cX11_laysBack 25 = .ok (.iinc 2 1, 3) := by decide +kernel
theorem dX11_laysBack_28 : decode cX11_laysBack 28 = .ok (.goto (-26), 3) := by decide +kernel
theorem dX11_laysBack_31 : decode cX11_laysBack 31 = .ok (.aload_n 0, 1) := by decide +kernel
theorem dX11_laysBack_32 : decode cX11_laysBack 32 = .ok (.invokevirtual 232, 3) := by decide +kernel
theorem dX11_laysBack_35 : decode cX11_laysBack 35 = .ok (.return_, 1) := by decide +kernel
/-- QuotientSumsModel.laysBack(I)V -/
def wX11_laysBack (thrown : Int32) (taped : Int32) (lines : Int32) (size : Int32) (atF : Int32) (place : Int32) (sort : Int32) (value : Int32) (fault : Int32) (faultPlace : Int32) (lastFault : Int32) (lastPlace : Int32) (undoable : Int32) (hasImage : Int32) (rowOf : Int32) (areSums : Int32) (isSieved : Int32) (blocks : Int32) (drawn : Int32) (kept : Nat → Int32) (sF : Nat → Int32) (a1 : Int32) (Q : (Int32) → (Nat → Int32) → Prop) : Prop :=
  (∃ (Inv_1 : (Nat → Int32) → (Int32) → Prop) (Mea_1 : (Nat → Int32) → (Int32) → Nat), Inv_1 sF 0 ∧ ∀ (sF_1 : Nat → Int32) (x2_1 : Int32), Inv_1 sF_1 x2_1 → ((74 ≤ x2_1 → (∃ (P_1 : (Int32) → Prop), wX11_forgets thrown taped lines size atF place sort value fault faultPlace lastFault lastPlace undoable hasImage rowOf areSums isSieved blocks drawn P_1 ∧ ∀ (rowOf_1 : Int32), P_1 rowOf_1 → (Q rowOf_1 sF_1))) ∧ (¬ 74 ≤ x2_1 → (vp_in ((74 * a1) + x2_1) 1554 ∧ ∀ e_1 : Int32, e_1 = kept ((74 * a1) + x2_1).toNatClampNeg → vp_in x2_1 74 ∧ ∀ sF_2 : Nat → Int32, sF_2 = upd sF_1 x2_1.toNatClampNeg e_1 → (Inv_1 sF_2 (x2_1 + 1) ∧ Mea_1 sF_2 (x2_1 + 1) < Mea_1 sF_1 x2_1)))))
set_option maxHeartbeats 4000000 in
set_option maxRecDepth 100000 in
theorem mX11_laysBack (l : Launch) (D : va_G) (Y : Nat → ClassId) (h0 : Nat) (thrown : Int32) (v_tape : Value) (taped : Int32) (v_number : Value) (v_isTold : Value) (v_name : Value) (v_sortOf : Value) (v_first : Value) (v_second : Value) (v_degree : Value) (v_colours : Value) (v_signBy : Value) (v_own : Value) (lines : Int32) (size : Int32) (atF : Int32) (place : Int32) (sort : Int32) (value : Int32) (fault : Int32) (faultPlace : Int32) (lastFault : Int32) (lastPlace : Int32) (q_sF : Nat) (q_kept : Nat) (undoable : Int32) (hasImage : Int32) (v_power : Value) (v_table : Value) (v_marks : Value) (v_row : Value) (rowOf : Int32) (areSums : Int32) (isSieved : Int32) (v_lastOf : Value) (blocks : Int32) (v_inBlock : Value) (v_atQuotient : Value) (v_small : Value) (drawn : Int32) (kept : Nat → Int32) (sF : Nat → Int32) (a1 : Int32) (Q : (Int32) → (Nat → Int32) → Prop) (h : wX11_laysBack thrown taped lines size atF place sort value fault faultPlace lastFault lastPlace undoable hasImage rowOf areSums isSieved blocks drawn kept sF a1 Q) : gM l D Y yX11_laysBack cX11_laysBack 3 none 1 20 0 0 [.ref h0, .int a1] [oX11 h0 thrown (v_tape) taped (v_number) (v_isTold) (v_name) (v_sortOf) (v_first) (v_second) (v_degree) (v_colours) (v_signBy) (v_own) lines size atF place sort value fault faultPlace lastFault lastPlace (.ref q_sF) (.ref q_kept) undoable hasImage (v_power) (v_table) (v_marks) (v_row) rowOf areSums isSieved (v_lastOf) blocks (v_inBlock) (v_atQuotient) (v_small) drawn, aI Y q_kept 1554 kept, aI Y q_sF 74 sF] (fun v w => ∃ rowOf' : Int32, ∃ sF' : Nat → Int32, v = none ∧ w = [oX11 h0 thrown (v_tape) taped (v_number) (v_isTold) (v_name) (v_sortOf) (v_first) (v_second) (v_degree) (v_colours) (v_signBy) (v_own) lines size atF place sort value fault faultPlace lastFault lastPlace (.ref q_sF) (.ref q_kept) undoable hasImage (v_power) (v_table) (v_marks) (v_row) rowOf' areSums isSieved (v_lastOf) blocks (v_inBlock) (v_atQuotient) (v_small) drawn, aI Y q_kept 1554 kept, aI Y q_sF 74 sF'] ∧ Q rowOf' sF') := by
  refine gM_of (own := RX11) (by decide +kernel) rfl (Nat.le_of_ble_eq_true rfl) rfl (fun E C hR => ?_)
  unfold wX11_laysBack at h
  refine g_iconst (v := 0) C dX11_laysBack_0 rfl ?_
  refine g_istore_n (lv' := [(2, .int 0), (0, .ref h0), (1, .int a1)]) C dX11_laysBack_1 (by decide) rfl ?_
  obtain ⟨Inv_1, Mea_1, hI1, hB1⟩ := h
  have key_1 : ∀ (n : Nat) (sF_1 : Nat → Int32) (x2_1 : Int32) , Mea_1 sF_1 x2_1 < n → Inv_1 sF_1 x2_1 → gG E 0 0 [oX11 h0 thrown (v_tape) taped (v_number) (v_isTold) (v_name) (v_sortOf) (v_first) (v_second) (v_degree) (v_colours) (v_signBy) (v_own) lines size atF place sort value fault faultPlace lastFault lastPlace (.ref q_sF) (.ref q_kept) undoable hasImage (v_power) (v_table) (v_marks) (v_row) rowOf areSums isSieved (v_lastOf) blocks (v_inBlock) (v_atQuotient) (v_small) drawn, aI Y q_kept 1554 kept, aI Y q_sF 74 sF_1] [(0, .ref h0), (1, .int a1), (2, .int x2_1)] [] 2 := by
    intro n
    induction n with
    | zero => exact fun _ _ hm => absurd hm (Nat.not_lt_zero _)
    | succ n ih1 =>
      intro sF_1 x2_1  hm1 hI
      have h := hB1 sF_1 x2_1 hI
      refine g_iload_n C dX11_laysBack_2 2 rfl ?_
      refine g_bipush (v := 74) C dX11_laysBack_3 rfl ?_
      refine g_icmp_ge (tgt := 31) C dX11_laysBack_5 (by decide) (fun c_1 => ?_) (fun c_1 => ?_)
      · replace h := h.1 c_1
        refine g_aload_n C dX11_laysBack_31 0 rfl ?_
        obtain ⟨P_1, hP, h⟩ := h
        refine g_callV (As := []) (rest := []) C (mX11_forgets l D Y h0 thrown v_tape taped v_number v_isTold v_name v_sortOf v_first v_second v_degree v_colours v_signBy v_own lines size atF place sort value fault faultPlace lastFault lastPlace (.ref q_sF) (.ref q_kept) undoable hasImage v_power v_table v_marks v_row rowOf areSums isSieved v_lastOf blocks v_inBlock v_atQuotient v_small drawn P_1 hP) dX11_laysBack_32 rfl wM_X11_232 wI_X11_forgets wV_X11_forgets wN_X11 wC_X11_forgets (n := 0) (by decide +kernel) rfl (q0 := 0) rfl rfl ⟨Nat.le_of_ble_eq_true rfl, Nat.le_of_ble_eq_true rfl⟩ ⟨Nat.le_of_ble_eq_true rfl, Nat.le_of_ble_eq_true rfl⟩ (Nat.le_of_ble_eq_true rfl) [0] [1, 2] rfl rfl rfl (fun v wc hv => ?_)
        obtain ⟨rowOf_1, rfl, rfl, hq⟩ := hv
        replace h := h rowOf_1 hq
        refine gG.perm (ws' := [oX11 h0 thrown (v_tape) taped (v_number) (v_isTold) (v_name) (v_sortOf) (v_first) (v_second) (v_degree) (v_colours) (v_signBy) (v_own) lines size atF place sort value fault faultPlace lastFault lastPlace (.ref q_sF) (.ref q_kept) undoable hasImage (v_power) (v_table) (v_marks) (v_row) rowOf_1 areSums isSieved (v_lastOf) blocks (v_inBlock) (v_atQuotient) (v_small) drawn, aI Y q_kept 1554 kept, aI Y q_sF 74 sF_1]) [2, 0, 1] rfl rfl ?_
        exact g_vret C hR (Nat.le_of_ble_eq_true rfl) (Nat.le_of_ble_eq_true rfl) dX11_laysBack_35 ⟨rowOf_1, sF_1, rfl, rfl, h⟩
      · replace h := h.2 c_1
        refine g_aload_n C dX11_laysBack_8 0 rfl ?_
        refine g_get C inX11 0 rfl rfl 23 (by decide) wF_X11_48 rfl dX11_laysBack_9 ?_
        refine g_iload_n C dX11_laysBack_12 2 rfl ?_
        refine g_aload_n C dX11_laysBack_13 0 rfl ?_
        refine g_get C inX11 0 rfl rfl 24 (by decide) wF_X11_51 rfl dX11_laysBack_14 ?_
        refine g_bipush (v := 74) C dX11_laysBack_17 rfl ?_
        refine g_iload_n C dX11_laysBack_19 1 rfl ?_
        refine g_imul C dX11_laysBack_20 ?_
        refine g_iload_n C dX11_laysBack_21 2 rfl ?_
        refine g_iadd C dX11_laysBack_22 ?_
        obtain ⟨hc_1, h⟩ := h
        refine g_iald C 1 rfl hc_1 dX11_laysBack_23 ?_
        refine g_topi (fun e_1 ee_1 => ?_)
        replace h := h e_1 ee_1
        obtain ⟨hc_2, h⟩ := h
        refine g_iast C 2 rfl hc_2 dX11_laysBack_24 (fun sF_2 esF_2 => gG.eqw (ws' := [oX11 h0 thrown (v_tape) taped (v_number) (v_isTold) (v_name) (v_sortOf) (v_first) (v_second) (v_degree) (v_colours) (v_signBy) (v_own) lines size atF place sort value fault faultPlace lastFault lastPlace (.ref q_sF) (.ref q_kept) undoable hasImage (v_power) (v_table) (v_marks) (v_row) rowOf areSums isSieved (v_lastOf) blocks (v_inBlock) (v_atQuotient) (v_small) drawn, aI Y q_kept 1554 kept, aI Y q_sF 74 sF_2]) rfl ?_)
        replace h := h sF_2 esF_2
        refine g_iinc (v := x2_1 + 1) (lv' := [(2, .int (x2_1 + 1)), (0, .ref h0), (1, .int a1)]) C dX11_laysBack_25 2 rfl rfl (by decide) rfl ?_
        refine g_goto (tgt := 2) C dX11_laysBack_28 (by decide) ?_
        refine gG.locals (lv' := [(0, .ref h0), (1, .int a1), (2, .int (x2_1 + 1))]) [1, 2, 0] rfl ?_
        exact ih1 sF_2 (x2_1 + 1) (Nat.lt_of_lt_of_le h.2 (Nat.le_of_lt_succ hm1)) h.1
  refine gG.locals (lv' := [(0, .ref h0), (1, .int a1), (2, .int 0)]) [1, 2, 0] rfl ?_
  exact key_1 (Mea_1 sF 0 + 1) sF 0 (Nat.lt_succ_self _) hI1
theorem dX11_remembers_0 : decode cX11_remembers 0 = .ok (.aload_n 0, 1) := by decide +kernel
theorem dX11_remembers_1 : decode cX11_remembers 1 = .ok (.getfield 219, 3) := by decide +kernel
theorem dX11_remembers_4 : decode cX11_remembers 4 = .ok (.bipush 20, 2) := by decide +kernel
theorem dX11_remembers_6 : decode cX11_remembers 6 = .ok (.if_icmp .ne 43, 3) := by decide +kernel
theorem dX11_remembers_9 : decode cX11_remembers 9 = .ok (.iconst 0, 1) := by decide +kernel
theorem dX11_remembers_10 : decode cX11_remembers 10 = .ok (.istore_n 1, 1) := by decide +kernel
theorem dX11_remembers_11 : decode cX11_remembers 11 = .ok (.iload_n 1, 1) := by decide +kernel
theorem dX11_remembers_12 : decode cX11_remembers 12 = .ok (.sipush 1406, 3) := by decide +kernel
theorem dX11_remembers_15 : decode cX11_remembers 15 = .ok (.if_icmp .ge 24, 3) := by decide +kernel
theorem dX11_remembers_18 : decode cX11_remembers 18 = .ok (.aload_n 0, 1) := by decide +kernel
theorem dX11_remembers_19 : decode cX11_remembers 19 = .ok (.getfield 51, 3) := by decide +kernel
theorem dX11_remembers_22 : decode cX11_remembers 22 = .ok (.iload_n 1, 1) := by decide +kernel
theorem dX11_remembers_23 : decode cX11_remembers 23 = .ok (.aload_n 0, 1) := by decide +kernel
theorem dX11_remembers_24 : decode cX11_remembers 24 = .ok (.getfield 51, 3) := by decide +kernel
theorem dX11_remembers_27 : decode cX11_remembers 27 = .ok (.bipush 74, 2) := by decide +kernel
theorem dX11_remembers_29 : decode cX11_remembers 29 = .ok (.iload_n 1, 1) := by decide +kernel
theorem dX11_remembers_30 : decode cX11_remembers 30 = .ok (.iadd, 1) := by decide +kernel
theorem dX11_remembers_31 : decode cX11_remembers 31 = .ok (.iaload, 1) := by decide +kernel
theorem dX11_remembers_32 : decode cX11_remembers 32 = .ok (.iastore, 1) := by decide +kernel
theorem dX11_remembers_33 : decode cX11_remembers 33 = .ok (.iinc 1 1, 3) := by decide +kernel
theorem dX11_remembers_36 : decode cX11_remembers 36 = .ok (.goto (-25), 3) := by decide +kernel
theorem dX11_remembers_39 : decode cX11_remembers 39 = .ok (.aload_n 0, 1) := by decide +kernel
theorem dX11_remembers_40 : decode cX11_remembers 40 = .ok (.dup, 1) := by decide +kernel
theorem dX11_remembers_41 : decode cX11_remembers 41 = .ok (.getfield 219, 3) := by decide +kernel
theorem dX11_remembers_44 : decode cX11_remembers 44 = .ok (.iconst 1, 1) := by decide +kernel
theorem dX11_remembers_45 : decode cX11_remembers 45 = .ok (.isub, 1) := by decide +kernel
theorem dX11_remembers_46 : decode cX11_remembers 46 = .ok (.putfield 219, 3) := by decide +kernel
theorem dX11_remembers_49 : decode cX11_remembers 49 = .ok (.aload_n 0, 1) := by decide +kernel
theorem dX11_remembers_50 : decode cX11_remembers 50 = .ok (.aload_n 0, 1) := by decide +kernel
theorem dX11_remembers_51 : decode cX11_remembers 51 = .ok (.getfield 219, 3) := by decide +kernel
theorem dX11_remembers_54 : decode cX11_remembers 54 = .ok (.invokevirtual 235, 3) := by decide +kernel
theorem dX11_remembers_57 : decode cX11_remembers 57 = .ok (.aload_n 0, 1) := by decide +kernel
theorem dX11_remembers_58 : decode cX11_remembers 58 = .ok (.dup, 1) := by decide +kernel
theorem dX11_remembers_59 : decode cX11_remembers 59 = .ok (.getfield 219, 3) := by decide +kernel
theorem dX11_remembers_62 : decode cX11_remembers 62 = .ok (.iconst 1, 1) := by decide +kernel
theorem dX11_remembers_63 : decode cX11_remembers 63 = .ok (.iadd, 1) := by decide +kernel
theorem dX11_remembers_64 : decode cX11_remembers 64 = .ok (.putfield 219, 3) := by decide +kernel
theorem dX11_remembers_67 : decode cX11_remembers 67 = .ok (.aload_n 0, 1) := by decide +kernel
theorem dX11_remembers_68 : decode cX11_remembers 68 = .ok (.invokevirtual 232, 3) := by decide +kernel
theorem dX11_remembers_71 : decode cX11_remembers 71 = .ok (.return_, 1) := by decide +kernel
/-- QuotientSumsModel.remembers()V -/
def wX11_remembers (thrown : Int32) (taped : Int32) (lines : Int32) (size : Int32) (atF : Int32) (place : Int32) (sort : Int32) (value : Int32) (fault : Int32) (faultPlace : Int32) (lastFault : Int32) (lastPlace : Int32) (undoable : Int32) (hasImage : Int32) (rowOf : Int32) (areSums : Int32) (isSieved : Int32) (blocks : Int32) (drawn : Int32) (kept : Nat → Int32) (sF : Nat → Int32)  (Q : (Int32) → (Int32) → (Nat → Int32) → Prop) : Prop :=
  (∃ (J_1 : (Nat → Int32) → (Int32) → Prop), ((¬ undoable = 20 → (J_1 kept undoable)) ∧ (undoable = 20 → (∃ (Inv_1 : (Nat → Int32) → (Int32) → Prop) (Mea_1 : (Nat → Int32) → (Int32) → Nat), Inv_1 kept 0 ∧ ∀ (kept_3 : Nat → Int32) (x1_1 : Int32), Inv_1 kept_3 x1_1 → ((1406 ≤ x1_1 → (∀ undoable_3 : Int32, undoable_3 = undoable - 1 → (J_1 kept_3 undoable_3))) ∧ (¬ 1406 ≤ x1_1 → (vp_in (74 + x1_1) 1554 ∧ ∀ e_1 : Int32, e_1 = kept_3 (74 + x1_1).toNatClampNeg → vp_in x1_1 1554 ∧ ∀ kept_4 : Nat → Int32, kept_4 = upd kept_3 x1_1.toNatClampNeg e_1 → (Inv_1 kept_4 (x1_1 + 1) ∧ Mea_1 kept_4 (x1_1 + 1) < Mea_1 kept_3 x1_1))))))) ∧ (∀ (kept_1 : Nat → Int32) (undoable_1 : Int32), J_1 kept_1 undoable_1 → (∃ (P_1 : (Nat → Int32) → Prop), wX11_lays thrown taped lines size atF place sort value fault faultPlace lastFault lastPlace undoable_1 hasImage rowOf areSums isSieved blocks drawn sF kept_1 undoable_1 P_1 ∧ ∀ (kept_2 : Nat → Int32), P_1 kept_2 → ∀ undoable_2 : Int32, undoable_2 = undoable_1 + 1 → ∃ (P_2 : (Int32) → Prop), wX11_forgets thrown taped lines size atF place sort value fault faultPlace lastFault lastPlace undoable_2 hasImage rowOf areSums isSieved blocks drawn P_2 ∧ ∀ (rowOf_1 : Int32), P_2 rowOf_1 → (Q undoable_2 rowOf_1 kept_2))))
set_option maxHeartbeats 4000000 in
set_option maxRecDepth 100000 in
theorem mX11_remembers (l : Launch) (D : va_G) (Y : Nat → ClassId) (h0 : Nat) (thrown : Int32) (v_tape : Value) (taped : Int32) (v_number : Value) (v_isTold : Value) (v_name : Value) (v_sortOf : Value) (v_first : Value) (v_second : Value) (v_degree : Value) (v_colours : Value) (v_signBy : Value) (v_own : Value) (lines : Int32) (size : Int32) (atF : Int32) (place : Int32) (sort : Int32) (value : Int32) (fault : Int32) (faultPlace : Int32) (lastFault : Int32) (lastPlace : Int32) (q_sF : Nat) (q_kept : Nat) (undoable : Int32) (hasImage : Int32) (v_power : Value) (v_table : Value) (v_marks : Value) (v_row : Value) (rowOf : Int32) (areSums : Int32) (isSieved : Int32) (v_lastOf : Value) (blocks : Int32) (v_inBlock : Value) (v_atQuotient : Value) (v_small : Value) (drawn : Int32) (kept : Nat → Int32) (sF : Nat → Int32)  (Q : (Int32) → (Int32) → (Nat → Int32) → Prop) (h : wX11_remembers thrown taped lines size atF place sort value fault faultPlace lastFault lastPlace undoable hasImage rowOf areSums isSieved blocks drawn kept sF Q) : gM l D Y yX11_remembers cX11_remembers 2 none 1 22 0 0 [.ref h0] [oX11 h0 thrown (v_tape) taped (v_number) (v_isTold) (v_name) (v_sortOf) (v_first) (v_second) (v_degree) (v_colours) (v_signBy) (v_own) lines size atF place sort value fault faultPlace lastFault lastPlace (.ref q_sF) (.ref q_kept) undoable hasImage (v_power) (v_table) (v_marks) (v_row) rowOf areSums isSieved (v_lastOf) blocks (v_inBlock) (v_atQuotient) (v_small) drawn, aI Y q_kept 1554 kept, aI Y q_sF 74 sF] (fun v w => ∃ undoable' : Int32, ∃ rowOf' : Int32, ∃ kept' : Nat → Int32, v = none ∧ w = [oX11 h0 thrown (v_tape) taped (v_number) (v_isTold) (v_name) (v_sortOf) (v_first) (v_second) (v_degree) (v_colours) (v_signBy) (v_own) lines size atF place sort value fault faultPlace lastFault lastPlace (.ref q_sF) (.ref q_kept) undoable' hasImage (v_power) (v_table) (v_marks) (v_row) rowOf' areSums isSieved (v_lastOf) blocks (v_inBlock) (v_atQuotient) (v_small) drawn, aI Y q_kept 1554 kept', aI Y q_sF 74 sF] ∧ Q undoable' rowOf' kept') := by
  refine gM_of (own := RX11) (by decide +kernel) rfl (Nat.le_of_ble_eq_true rfl) rfl (fun E C hR => ?_)
  unfold wX11_remembers at h
  refine g_aload_n C dX11_remembers_0 0 rfl ?_
  refine g_get C inX11 0 rfl rfl 25 (by decide) wF_X11_219 rfl dX11_remembers_1 ?_
  refine g_bipush (v := 20) C dX11_remembers_4 rfl ?_
  obtain ⟨J_1, hA, hB_J_1⟩ := h
  have key_1 : ∀ (kept_1 : Nat → Int32) (undoable_1 : Int32), J_1 kept_1 undoable_1 → gG E 0 0 [oX11 h0 thrown (v_tape) taped (v_number) (v_isTold) (v_name) (v_sortOf) (v_first) (v_second) (v_degree) (v_colours) (v_signBy) (v_own) lines size atF place sort value fault faultPlace lastFault lastPlace (.ref q_sF) (.ref q_kept) undoable_1 hasImage (v_power) (v_table) (v_marks) (v_row) rowOf areSums isSieved (v_lastOf) blocks (v_inBlock) (v_atQuotient) (v_small) drawn, aI Y q_kept 1554 kept_1, aI Y q_sF 74 sF] [(0, .ref h0)] [] 49 := by
    intro kept_1 undoable_1 hJ
    have h := hB_J_1 kept_1 undoable_1 hJ
    refine g_aload_n C dX11_remembers_49 0 rfl ?_
    refine g_aload_n C dX11_remembers_50 0 rfl ?_
    refine g_get C inX11 0 rfl rfl 25 (by decide) wF_X11_219 rfl dX11_remembers_51 ?_
    obtain ⟨P_1, hP, h⟩ := h
    refine g_callV (As := [.int undoable_1]) (rest := []) C (mX11_lays l D Y h0 thrown v_tape taped v_number v_isTold v_name v_sortOf v_first v_second v_degree v_colours v_signBy v_own lines size atF place sort value fault faultPlace lastFault lastPlace q_sF q_kept undoable_1 hasImage v_power v_table v_marks v_row rowOf areSums isSieved v_lastOf blocks v_inBlock v_atQuotient v_small drawn sF kept_1 undoable_1 P_1 hP) dX11_remembers_54 rfl wM_X11_235 wI_X11_lays wV_X11_lays wN_X11 wC_X11_lays (n := 1) (by decide +kernel) rfl (q0 := 0) rfl rfl ⟨Nat.le_of_ble_eq_true rfl, Nat.le_of_ble_eq_true rfl⟩ ⟨Nat.le_of_ble_eq_true rfl, Nat.le_of_ble_eq_true rfl⟩ (Nat.le_of_ble_eq_true rfl) [0, 2, 1] [] rfl rfl rfl (fun v wc hv => ?_)
    obtain ⟨kept_2, rfl, rfl, hq⟩ := hv
    replace h := h kept_2 hq
    refine gG.perm (ws' := [oX11 h0 thrown (v_tape) taped (v_number) (v_isTold) (v_name) (v_sortOf) (v_first) (v_second) (v_degree) (v_colours) (v_signBy) (v_own) lines size atF place sort value fault faultPlace lastFault lastPlace (.ref q_sF) (.ref q_kept) undoable_1 hasImage (v_power) (v_table) (v_marks) (v_row) rowOf areSums isSieved (v_lastOf) blocks (v_inBlock) (v_atQuotient) (v_small) drawn, aI Y q_kept 1554 kept_2, aI Y q_sF 74 sF]) [0, 2, 1] rfl rfl ?_
    refine g_aload_n C dX11_remembers_57 0 rfl ?_
    refine g_dup C dX11_remembers_58 rfl ?_
    refine g_get C inX11 0 rfl rfl 25 (by decide) wF_X11_219 rfl dX11_remembers_59 ?_
    refine g_iconst (v := 1) C dX11_remembers_62 rfl ?_
    refine g_iadd C dX11_remembers_63 ?_
    refine g_topi (fun undoable_2 eundoable_2 => ?_)
    replace h := h undoable_2 eundoable_2
    refine g_put C inX11 tyX11 tyX11_ok nmX11 0 rfl rfl 25 (by decide) wF_X11_219 rfl rfl rfl (Nat.le_of_ble_eq_true rfl) (ws' := [oX11 h0 thrown (v_tape) taped (v_number) (v_isTold) (v_name) (v_sortOf) (v_first) (v_second) (v_degree) (v_colours) (v_signBy) (v_own) lines size atF place sort value fault faultPlace lastFault lastPlace (.ref q_sF) (.ref q_kept) undoable_2 hasImage (v_power) (v_table) (v_marks) (v_row) rowOf areSums isSieved (v_lastOf) blocks (v_inBlock) (v_atQuotient) (v_small) drawn, aI Y q_kept 1554 kept_2, aI Y q_sF 74 sF]) rfl dX11_remembers_64 ?_
    refine g_aload_n C dX11_remembers_67 0 rfl ?_
    obtain ⟨P_2, hP, h⟩ := h
    refine g_callV (As := []) (rest := []) C (mX11_forgets l D Y h0 thrown v_tape taped v_number v_isTold v_name v_sortOf v_first v_second v_degree v_colours v_signBy v_own lines size atF place sort value fault faultPlace lastFault lastPlace (.ref q_sF) (.ref q_kept) undoable_2 hasImage v_power v_table v_marks v_row rowOf areSums isSieved v_lastOf blocks v_inBlock v_atQuotient v_small drawn P_2 hP) dX11_remembers_68 rfl wM_X11_232 wI_X11_forgets wV_X11_forgets wN_X11 wC_X11_forgets (n := 0) (by decide +kernel) rfl (q0 := 0) rfl rfl ⟨Nat.le_of_ble_eq_true rfl, Nat.le_of_ble_eq_true rfl⟩ ⟨Nat.le_of_ble_eq_true rfl, Nat.le_of_ble_eq_true rfl⟩ (Nat.le_of_ble_eq_true rfl) [0] [1, 2] rfl rfl rfl (fun v wc hv => ?_)
    obtain ⟨rowOf_1, rfl, rfl, hq⟩ := hv
    replace h := h rowOf_1 hq
    refine gG.perm (ws' := [oX11 h0 thrown (v_tape) taped (v_number) (v_isTold) (v_name) (v_sortOf) (v_first) (v_second) (v_degree) (v_colours) (v_signBy) (v_own) lines size atF place sort value fault faultPlace lastFault lastPlace (.ref q_sF) (.ref q_kept) undoable_2 hasImage (v_power) (v_table) (v_marks) (v_row) rowOf_1 areSums isSieved (v_lastOf) blocks (v_inBlock) (v_atQuotient) (v_small) drawn, aI Y q_kept 1554 kept_2, aI Y q_sF 74 sF]) [2, 0, 1] rfl rfl ?_
    exact g_vret C hR (Nat.le_of_ble_eq_true rfl) (Nat.le_of_ble_eq_true rfl) dX11_remembers_71 ⟨undoable_2, rowOf_1, kept_2, rfl, rfl, h⟩
  replace h := hA
  refine g_icmp_ne (tgt := 49) C dX11_remembers_6 (by decide) (fun c_1 => ?_) (fun c_1 => ?_)
  · replace h := h.1 c_1
    exact key_1 kept undoable h
  · replace h := h.2 c_1
    refine g_iconst (v := 0) C dX11_remembers_9 rfl ?_
    refine g_istore_n (lv' := [(1, .int 0), (0, .ref h0)]) C dX11_remembers_10 (by decide) rfl ?_
    obtain ⟨Inv_1, Mea_1, hI2, hB2⟩ := h
    have key_2 : ∀ (n : Nat) (kept_3 : Nat → Int32) (x1_1 : Int32) , Mea_1 kept_3 x1_1 < n → Inv_1 kept_3 x1_1 → gG E 0 0 [oX11 h0 thrown (v_tape) taped (v_number) (v_isTold) (v_name) (v_sortOf) (v_first) (v_second) (v_degree) (v_colours) (v_signBy) (v_own) lines size atF place sort value fault faultPlace lastFault lastPlace (.ref q_sF) (.ref q_kept) undoable hasImage (v_power) (v_table) (v_marks) (v_row) rowOf areSums isSieved (v_lastOf) blocks (v_inBlock) (v_atQuotient) (v_small) drawn, aI Y q_kept 1554 kept_3, aI Y q_sF 74 sF] [(0, .ref h0), (1, .int x1_1)] [] 11 := by
      intro n
      induction n with
      | zero => exact fun _ _ hm => absurd hm (Nat.not_lt_zero _)
      | succ n ih2 =>
        intro kept_3 x1_1  hm2 hI
        have h := hB2 kept_3 x1_1 hI
        refine g_iload_n C dX11_remembers_11 1 rfl ?_
        refine g_sipush (v := 1406) C dX11_remembers_12 rfl ?_
        refine g_icmp_ge (tgt := 39) C dX11_remembers_15 (by decide) (fun c_2 => ?_) (fun c_2 => ?_)
        · replace h := h.1 c_2
          refine g_aload_n C dX11_remembers_39 0 rfl ?_
          refine g_dup C dX11_remembers_40 rfl ?_
          refine g_get C inX11 0 rfl rfl 25 (by decide) wF_X11_219 rfl dX11_remembers_41 ?_
          refine g_iconst (v := 1) C dX11_remembers_44 rfl ?_
          refine g_isub C dX11_remembers_45 ?_
          refine g_topi (fun undoable_3 eundoable_3 => ?_)
          replace h := h undoable_3 eundoable_3
          refine g_put C inX11 tyX11 tyX11_ok nmX11 0 rfl rfl 25 (by decide) wF_X11_219 rfl rfl rfl (Nat.le_of_ble_eq_true rfl) (ws' := [oX11 h0 thrown (v_tape) taped (v_number) (v_isTold) (v_name) (v_sortOf) (v_first) (v_second) (v_degree) (v_colours) (v_signBy) (v_own) lines size atF place sort value fault faultPlace lastFault lastPlace (.ref q_sF) (.ref q_kept) undoable_3 hasImage (v_power) (v_table) (v_marks) (v_row) rowOf areSums isSieved (v_lastOf) blocks (v_inBlock) (v_atQuotient) (v_small) drawn, aI Y q_kept 1554 kept_3, aI Y q_sF 74 sF]) rfl dX11_remembers_46 ?_
          refine gG.locals (lv' := [(0, .ref h0)]) [0] rfl ?_
          exact key_1 kept_3 undoable_3 h
        · replace h := h.2 c_2
          refine g_aload_n C dX11_remembers_18 0 rfl ?_
          refine g_get C inX11 0 rfl rfl 24 (by decide) wF_X11_51 rfl dX11_remembers_19 ?_
          refine g_iload_n C dX11_remembers_22 1 rfl ?_
          refine g_aload_n C dX11_remembers_23 0 rfl ?_
          refine g_get C inX11 0 rfl rfl 24 (by decide) wF_X11_51 rfl dX11_remembers_24 ?_
          refine g_bipush (v := 74) C dX11_remembers_27 rfl ?_
          refine g_iload_n C dX11_remembers_29 1 rfl ?_
          refine g_iadd C dX11_remembers_30 ?_
          obtain ⟨hc_1, h⟩ := h
          refine g_iald C 1 rfl hc_1 dX11_remembers_31 ?_
          refine g_topi (fun e_1 ee_1 => ?_)
          replace h := h e_1 ee_1
          obtain ⟨hc_2, h⟩ := h
          refine g_iast C 1 rfl hc_2 dX11_remembers_32 (fun kept_4 ekept_4 => gG.eqw (ws' := [oX11 h0 thrown (v_tape) taped (v_number) (v_isTold) (v_name) (v_sortOf) (v_first) (v_second) (v_degree) (v_colours) (v_signBy) (v_own) lines size atF place sort value fault faultPlace lastFault lastPlace (.ref q_sF) (.ref q_kept) undoable hasImage (v_power) (v_table) (v_marks) (v_row) rowOf areSums isSieved (v_lastOf) blocks (v_inBlock) (v_atQuotient) (v_small) drawn, aI Y q_kept 1554 kept_4, aI Y q_sF 74 sF]) rfl ?_)
          replace h := h kept_4 ekept_4
          refine g_iinc (v := x1_1 + 1) (lv' := [(1, .int (x1_1 + 1)), (0, .ref h0)]) C dX11_remembers_33 1 rfl rfl (by decide) rfl ?_
          refine g_goto (tgt := 11) C dX11_remembers_36 (by decide) ?_
          refine gG.locals (lv' := [(0, .ref h0), (1, .int (x1_1 + 1))]) [1, 0] rfl ?_
          exact ih2 kept_4 (x1_1 + 1) (Nat.lt_of_lt_of_le h.2 (Nat.le_of_lt_succ hm2)) h.1
    refine gG.locals (lv' := [(0, .ref h0), (1, .int 0)]) [1, 0] rfl ?_
    exact key_2 (Mea_1 kept 0 + 1) kept 0 (Nat.lt_succ_self _) hI2
theorem dX11_undo_0 : decode cX11_undo 0 = .ok (.aload_n 0, 1) := by decide +kernel
theorem dX11_undo_1 : decode cX11_undo 1 = .ok (.iconst 0, 1) := by decide +kernel
theorem dX11_undo_2 : decode cX11_undo 2 = .ok (.putfield 89, 3) := by decide +kernel
theorem dX11_undo_5 : decode cX11_undo 5 = .ok (.aload_n 0, 1) := by decide +kernel
theorem dX11_undo_6 : decode cX11_undo 6 = .ok (.getfield 219, 3) := by decide +kernel
theorem dX11_undo_9 : decode cX11_undo 9 = .ok (.ifCond .ne 5, 3) := by decide +kernel
theorem dX11_undo_12 : decode cX11_undo 12 = .ok (.iconst (-1), 1) := by decide +kernel
theorem dX11_undo_13 : decode cX11_undo 13 = .ok (.ireturn, 1) := by decide +kernel
theorem dX11_undo_14 : decode cX11_undo 14 = .ok (.aload_n 0, 1) := by decide +kernel
theorem dX11_undo_15 : decode cX11_undo 15 = .ok (.dup, 1) := by decide +kernel
theorem dX11_undo_16 : decode cX11_undo 16 = .ok (.getfield 219, 3) := by decide +kernel
theorem dX11_undo_19 : decode cX11_undo 19 = .ok (.iconst 1, 1) := by decide +kernel
theorem dX11_undo_20 : decode cX11_undo 20 = .ok (.isub, 1) := by decide +kernel
theorem dX11_undo_21 : decode cX11_undo 21 = .ok (.putfield 219, 3) := by decide +kernel
theorem dX11_undo_24 : decode cX11_undo 24 = .ok (.aload_n 0, 1) := by decide +kernel
theorem dX11_undo_25 : decode cX11_undo 25 = .ok (.aload_n 0, 1) := by decide +kernel
theorem dX11_undo_26 : decode cX11_undo 26 = .ok (.getfield 219, 3) := by decide +kernel
theorem dX11_undo_29 : decode cX11_undo 29 = .ok (.invokevirtual 238, 3) := by decide +kernel
theorem dX11_undo_32 : decode cX11_undo 32 = .ok (.aload_n 0, 1) := by decide +kernel
theorem dX11_undo_33 : decode cX11_undo 33 = .ok (.getfield 219, 3) := by decide +kernel
theorem dX11_undo_36 : decode cX11_undo 36 = .ok (.ireturn, 1) := by decide +kernel
/-- QuotientSumsModel.undo()I -/
def wX11_undo (thrown : Int32) (taped : Int32) (lines : Int32) (size : Int32) (atF : Int32) (place : Int32) (sort : Int32) (value : Int32) (fault : Int32) (faultPlace : Int32) (lastFault : Int32) (lastPlace : Int32) (undoable : Int32) (hasImage : Int32) (rowOf : Int32) (areSums : Int32) (isSieved : Int32) (blocks : Int32) (drawn : Int32) (kept : Nat → Int32) (sF : Nat → Int32)  (Q : (Int32) → (Int32) → (Int32) → (Int32) → (Nat → Int32) → Prop) : Prop :=
  ((¬ undoable = 0 → (∀ undoable_1 : Int32, undoable_1 = undoable - 1 → ∃ (P_1 : (Int32) → (Nat → Int32) → Prop), wX11_laysBack 0 taped lines size atF place sort value fault faultPlace lastFault lastPlace undoable_1 hasImage rowOf areSums isSieved blocks drawn kept sF undoable_1 P_1 ∧ ∀ (rowOf_1 : Int32) (sF_1 : Nat → Int32), P_1 rowOf_1 sF_1 → (Q undoable_1 0 undoable_1 rowOf_1 sF_1))) ∧ (undoable = 0 → (Q (-1) 0 undoable rowOf sF)))
set_option maxHeartbeats 4000000 in
set_option maxRecDepth 100000 in
theorem mX11_undo (l : Launch) (D : va_G) (Y : Nat → ClassId) (h0 : Nat) (thrown : Int32) (v_tape : Value) (taped : Int32) (v_number : Value) (v_isTold : Value) (v_name : Value) (v_sortOf : Value) (v_first : Value) (v_second : Value) (v_degree : Value) (v_colours : Value) (v_signBy : Value) (v_own : Value) (lines : Int32) (size : Int32) (atF : Int32) (place : Int32) (sort : Int32) (value : Int32) (fault : Int32) (faultPlace : Int32) (lastFault : Int32) (lastPlace : Int32) (q_sF : Nat) (q_kept : Nat) (undoable : Int32) (hasImage : Int32) (v_power : Value) (v_table : Value) (v_marks : Value) (v_row : Value) (rowOf : Int32) (areSums : Int32) (isSieved : Int32) (v_lastOf : Value) (blocks : Int32) (v_inBlock : Value) (v_atQuotient : Value) (v_small : Value) (drawn : Int32) (kept : Nat → Int32) (sF : Nat → Int32)  (Q : (Int32) → (Int32) → (Int32) → (Int32) → (Nat → Int32) → Prop) (h : wX11_undo thrown taped lines size atF place sort value fault faultPlace lastFault lastPlace undoable hasImage rowOf areSums isSieved blocks drawn kept sF Q) : gM l D Y yX11_undo cX11_undo 1 (some .int) 2 42 0 0 [.ref h0] [oX11 h0 thrown (v_tape) taped (v_number) (v_isTold) (v_name) (v_sortOf) (v_first) (v_second) (v_degree) (v_colours) (v_signBy) (v_own) lines size atF place sort value fault faultPlace lastFault lastPlace (.ref q_sF) (.ref q_kept) undoable hasImage (v_power) (v_table) (v_marks) (v_row) rowOf areSums isSieved (v_lastOf) blocks (v_inBlock) (v_atQuotient) (v_small) drawn, aI Y q_kept 1554 kept, aI Y q_sF 74 sF] (fun v w => ∃ r : Int32, ∃ thrown' : Int32, ∃ undoable' : Int32, ∃ rowOf' : Int32, ∃ sF' : Nat → Int32, v = some (.int r) ∧ w = [oX11 h0 thrown' (v_tape) taped (v_number) (v_isTold) (v_name) (v_sortOf) (v_first) (v_second) (v_degree) (v_colours) (v_signBy) (v_own) lines size atF place sort value fault faultPlace lastFault lastPlace (.ref q_sF) (.ref q_kept) undoable' hasImage (v_power) (v_table) (v_marks) (v_row) rowOf' areSums isSieved (v_lastOf) blocks (v_inBlock) (v_atQuotient) (v_small) drawn, aI Y q_kept 1554 kept, aI Y q_sF 74 sF'] ∧ Q r thrown' undoable' rowOf' sF') := by
  refine gM_of (own := RX11) (by decide +kernel) rfl (Nat.le_of_ble_eq_true rfl) rfl (fun E C hR => ?_)
  unfold wX11_undo at h
  refine g_aload_n C dX11_undo_0 0 rfl ?_
  refine g_iconst (v := 0) C dX11_undo_1 rfl ?_
  refine g_put C inX11 tyX11 tyX11_ok nmX11 0 rfl rfl 0 (by decide) wF_X11_89 rfl rfl rfl (Nat.le_of_ble_eq_true rfl) (ws' := [oX11 h0 0 (v_tape) taped (v_number) (v_isTold) (v_name) (v_sortOf) (v_first) (v_second) (v_degree) (v_colours) (v_signBy) (v_own) lines size atF place sort value fault faultPlace lastFault lastPlace (.ref q_sF) (.ref q_kept) undoable hasImage (v_power) (v_table) (v_marks) (v_row) rowOf areSums isSieved (v_lastOf) blocks (v_inBlock) (v_atQuotient) (v_small) drawn, aI Y q_kept 1554 kept, aI Y q_sF 74 sF]) rfl dX11_undo_2 ?_
  refine g_aload_n C dX11_undo_5 0 rfl ?_
  refine g_get C inX11 0 rfl rfl 25 (by decide) wF_X11_219 rfl dX11_undo_6 ?_
  refine g_if_ne (tgt := 14) C dX11_undo_9 (by decide) (fun c_1 => ?_) (fun c_1 => ?_)
  · replace h := h.1 c_1
    refine g_aload_n C dX11_undo_14 0 rfl ?_
    refine g_dup C dX11_undo_15 rfl ?_
    refine g_get C inX11 0 rfl rfl 25 (by decide) wF_X11_219 rfl dX11_undo_16 ?_
    refine g_iconst (v := 1) C dX11_undo_19 rfl ?_
    refine g_isub C dX11_undo_20 ?_
    refine g_topi (fun undoable_1 eundoable_1 => ?_)
    replace h := h undoable_1 eundoable_1
    refine g_put C inX11 tyX11 tyX11_ok nmX11 0 rfl rfl 25 (by decide) wF_X11_219 rfl rfl rfl (Nat.le_of_ble_eq_true rfl) (ws' := [oX11 h0 0 (v_tape) taped (v_number) (v_isTold) (v_name) (v_sortOf) (v_first) (v_second) (v_degree) (v_colours) (v_signBy) (v_own) lines size atF place sort value fault faultPlace lastFault lastPlace (.ref q_sF) (.ref q_kept) undoable_1 hasImage (v_power) (v_table) (v_marks) (v_row) rowOf areSums isSieved (v_lastOf) blocks (v_inBlock) (v_atQuotient) (v_small) drawn, aI Y q_kept 1554 kept, aI Y q_sF 74 sF]) rfl dX11_undo_21 ?_
    refine g_aload_n C dX11_undo_24 0 rfl ?_
    refine g_aload_n C dX11_undo_25 0 rfl ?_
    refine g_get C inX11 0 rfl rfl 25 (by decide) wF_X11_219 rfl dX11_undo_26 ?_
    obtain ⟨P_1, hP, h⟩ := h
    refine g_callV (As := [.int undoable_1]) (rest := []) C (mX11_laysBack l D Y h0 0 v_tape taped v_number v_isTold v_name v_sortOf v_first v_second v_degree v_colours v_signBy v_own lines size atF place sort value fault faultPlace lastFault lastPlace q_sF q_kept undoable_1 hasImage v_power v_table v_marks v_row rowOf areSums isSieved v_lastOf blocks v_inBlock v_atQuotient v_small drawn kept sF undoable_1 P_1 hP) dX11_undo_29 rfl wM_X11_238 wI_X11_laysBack wV_X11_laysBack wN_X11 wC_X11_laysBack (n := 1) (by decide +kernel) rfl (q0 := 0) rfl rfl ⟨Nat.le_of_ble_eq_true rfl, Nat.le_of_ble_eq_true rfl⟩ ⟨Nat.le_of_ble_eq_true rfl, Nat.le_of_ble_eq_true rfl⟩ (Nat.le_of_ble_eq_true rfl) [0, 1, 2] [] rfl rfl rfl (fun v wc hv => ?_)
    obtain ⟨rowOf_1, sF_1, rfl, rfl, hq⟩ := hv
    replace h := h rowOf_1 sF_1 hq
    refine gG.eqw (ws' := [oX11 h0 0 (v_tape) taped (v_number) (v_isTold) (v_name) (v_sortOf) (v_first) (v_second) (v_degree) (v_colours) (v_signBy) (v_own) lines size atF place sort value fault faultPlace lastFault lastPlace (.ref q_sF) (.ref q_kept) undoable_1 hasImage (v_power) (v_table) (v_marks) (v_row) rowOf_1 areSums isSieved (v_lastOf) blocks (v_inBlock) (v_atQuotient) (v_small) drawn, aI Y q_kept 1554 kept, aI Y q_sF 74 sF_1]) rfl ?_
    refine g_aload_n C dX11_undo_32 0 rfl ?_
    refine g_get C inX11 0 rfl rfl 25 (by decide) wF_X11_219 rfl dX11_undo_33 ?_
    exact g_iret C hR (Nat.le_of_ble_eq_true rfl) (Nat.le_of_ble_eq_true rfl) dX11_undo_36 ⟨undoable_1, 0, undoable_1, rowOf_1, sF_1, rfl, rfl, h⟩
  · replace h := h.2 c_1
    refine g_iconst (v := (-1)) C dX11_undo_12 rfl ?_
    exact g_iret C hR (Nat.le_of_ble_eq_true rfl) (Nat.le_of_ble_eq_true rfl) dX11_undo_13 ⟨(-1), 0, undoable, rowOf, sF, rfl, rfl, h⟩
theorem dX11_keep_0 : decode cX11_keep 0 = .ok (.aload_n 0, 1) := by decide +kernel
theorem dX11_keep_1 : decode cX11_keep 1 = .ok (.iconst 0, 1) := by decide +kernel
theorem dX11_keep_2 : decode cX11_keep 2 = .ok (.putfield 89, 3) := by decide +kernel
theorem dX11_keep_5 : decode cX11_keep 5 = .ok (.aload_n 0, 1) := by decide +kernel
theorem dX11_keep_6 : decode cX11_keep 6 = .ok (.bipush 20, 2) := by decide +kernel
theorem dX11_keep_8 : decode cX11_keep 8 = .ok (.invokevirtual 235, 3) := by decide +kernel
theorem dX11_keep_11 : decode cX11_keep 11 = .ok (.aload_n 0, 1) := by decide +kernel
theorem dX11_keep_12 : decode cX11_keep 12 = .ok (.iconst 1, 1) := by decide +kernel
theorem dX11_keep_13 : decode cX11_keep 13 = .ok (.putfield 222, 3) := by decide +kernel
theorem dX11_keep_16 : decode cX11_keep 16 = .ok (.aload_n 0, 1) := by decide +kernel
theorem dX11_keep_17 : decode cX11_keep 17 = .ok (.getfield 48, 3) := by decide +kernel
theorem dX11_keep_20 : decode cX11_keep 20 = .ok (.iconst 0, 1) := by decide +kernel
theorem dX11_keep_21 : decode cX11_keep 21 = .ok (.iaload, 1) := by decide +kernel
theorem dX11_keep_22 : decode cX11_keep 22 = .ok (.ireturn, 1) := by decide +kernel
/-- QuotientSumsModel.keep()I -/
def wX11_keep (thrown : Int32) (taped : Int32) (lines : Int32) (size : Int32) (atF : Int32) (place : Int32) (sort : Int32) (value : Int32) (fault : Int32) (faultPlace : Int32) (lastFault : Int32) (lastPlace : Int32) (undoable : Int32) (hasImage : Int32) (rowOf : Int32) (areSums : Int32) (isSieved : Int32) (blocks : Int32) (drawn : Int32) (sF : Nat → Int32) (kept : Nat → Int32)  (Q : (Int32) → (Int32) → (Int32) → (Nat → Int32) → Prop) : Prop :=
  (∃ (P_1 : (Nat → Int32) → Prop), wX11_lays 0 taped lines size atF place sort value fault faultPlace lastFault lastPlace undoable hasImage rowOf areSums isSieved blocks drawn sF kept 20 P_1 ∧ ∀ (kept_1 : Nat → Int32), P_1 kept_1 → (Q (sF 0) 0 1 kept_1))
set_option maxHeartbeats 4000000 in
set_option maxRecDepth 100000 in
theorem mX11_keep (l : Launch) (D : va_G) (Y : Nat → ClassId) (h0 : Nat) (thrown : Int32) (v_tape : Value) (taped : Int32) (v_number : Value) (v_isTold : Value) (v_name : Value) (v_sortOf : Value) (v_first : Value) (v_second : Value) (v_degree : Value) (v_colours : Value) (v_signBy : Value) (v_own : Value) (lines : Int32) (size : Int32) (atF : Int32) (place : Int32) (sort : Int32) (value : Int32) (fault : Int32) (faultPlace : Int32) (lastFault : Int32) (lastPlace : Int32) (q_sF : Nat) (q_kept : Nat) (undoable : Int32) (hasImage : Int32) (v_power : Value) (v_table : Value) (v_marks : Value) (v_row : Value) (rowOf : Int32) (areSums : Int32) (isSieved : Int32) (v_lastOf : Value) (blocks : Int32) (v_inBlock : Value) (v_atQuotient : Value) (v_small : Value) (drawn : Int32) (sF : Nat → Int32) (kept : Nat → Int32)  (Q : (Int32) → (Int32) → (Int32) → (Nat → Int32) → Prop) (h : wX11_keep thrown taped lines size atF place sort value fault faultPlace lastFault lastPlace undoable hasImage rowOf areSums isSieved blocks drawn sF kept Q) : gM l D Y yX11_keep cX11_keep 1 (some .int) 1 22 0 0 [.ref h0] [oX11 h0 thrown (v_tape) taped (v_number) (v_isTold) (v_name) (v_sortOf) (v_first) (v_second) (v_degree) (v_colours) (v_signBy) (v_own) lines size atF place sort value fault faultPlace lastFault lastPlace (.ref q_sF) (.ref q_kept) undoable hasImage (v_power) (v_table) (v_marks) (v_row) rowOf areSums isSieved (v_lastOf) blocks (v_inBlock) (v_atQuotient) (v_small) drawn, aI Y q_sF 74 sF, aI Y q_kept 1554 kept] (fun v w => ∃ r : Int32, ∃ thrown' : Int32, ∃ hasImage' : Int32, ∃ kept' : Nat → Int32, v = some (.int r) ∧ w = [oX11 h0 thrown' (v_tape) taped (v_number) (v_isTold) (v_name) (v_sortOf) (v_first) (v_second) (v_degree) (v_colours) (v_signBy) (v_own) lines size atF place sort value fault faultPlace lastFault lastPlace (.ref q_sF) (.ref q_kept) undoable hasImage' (v_power) (v_table) (v_marks) (v_row) rowOf areSums isSieved (v_lastOf) blocks (v_inBlock) (v_atQuotient) (v_small) drawn, aI Y q_sF 74 sF, aI Y q_kept 1554 kept'] ∧ Q r thrown' hasImage' kept') := by
  refine gM_of (own := RX11) (by decide +kernel) rfl (Nat.le_of_ble_eq_true rfl) rfl (fun E C hR => ?_)
  unfold wX11_keep at h
  refine g_aload_n C dX11_keep_0 0 rfl ?_
  refine g_iconst (v := 0) C dX11_keep_1 rfl ?_
  refine g_put C inX11 tyX11 tyX11_ok nmX11 0 rfl rfl 0 (by decide) wF_X11_89 rfl rfl rfl (Nat.le_of_ble_eq_true rfl) (ws' := [oX11 h0 0 (v_tape) taped (v_number) (v_isTold) (v_name) (v_sortOf) (v_first) (v_second) (v_degree) (v_colours) (v_signBy) (v_own) lines size atF place sort value fault faultPlace lastFault lastPlace (.ref q_sF) (.ref q_kept) undoable hasImage (v_power) (v_table) (v_marks) (v_row) rowOf areSums isSieved (v_lastOf) blocks (v_inBlock) (v_atQuotient) (v_small) drawn, aI Y q_sF 74 sF, aI Y q_kept 1554 kept]) rfl dX11_keep_2 ?_
  refine g_aload_n C dX11_keep_5 0 rfl ?_
  refine g_bipush (v := 20) C dX11_keep_6 rfl ?_
  obtain ⟨P_1, hP, h⟩ := h
  refine g_callV (As := [.int 20]) (rest := []) C (mX11_lays l D Y h0 0 v_tape taped v_number v_isTold v_name v_sortOf v_first v_second v_degree v_colours v_signBy v_own lines size atF place sort value fault faultPlace lastFault lastPlace q_sF q_kept undoable hasImage v_power v_table v_marks v_row rowOf areSums isSieved v_lastOf blocks v_inBlock v_atQuotient v_small drawn sF kept 20 P_1 hP) dX11_keep_8 rfl wM_X11_235 wI_X11_lays wV_X11_lays wN_X11 wC_X11_lays (n := 1) (by decide +kernel) rfl (q0 := 0) rfl rfl ⟨Nat.le_of_ble_eq_true rfl, Nat.le_of_ble_eq_true rfl⟩ ⟨Nat.le_of_ble_eq_true rfl, Nat.le_of_ble_eq_true rfl⟩ (Nat.le_of_ble_eq_true rfl) [0, 1, 2] [] rfl rfl rfl (fun v wc hv => ?_)
  obtain ⟨kept_1, rfl, rfl, hq⟩ := hv
  replace h := h kept_1 hq
  refine gG.eqw (ws' := [oX11 h0 0 (v_tape) taped (v_number) (v_isTold) (v_name) (v_sortOf) (v_first) (v_second) (v_degree) (v_colours) (v_signBy) (v_own) lines size atF place sort value fault faultPlace lastFault lastPlace (.ref q_sF) (.ref q_kept) undoable hasImage (v_power) (v_table) (v_marks) (v_row) rowOf areSums isSieved (v_lastOf) blocks (v_inBlock) (v_atQuotient) (v_small) drawn, aI Y q_sF 74 sF, aI Y q_kept 1554 kept_1]) rfl ?_
  refine g_aload_n C dX11_keep_11 0 rfl ?_
  refine g_iconst (v := 1) C dX11_keep_12 rfl ?_
  refine g_put C inX11 tyX11 tyX11_ok nmX11 0 rfl rfl 26 (by decide) wF_X11_222 rfl rfl rfl (Nat.le_of_ble_eq_true rfl) (ws' := [oX11 h0 0 (v_tape) taped (v_number) (v_isTold) (v_name) (v_sortOf) (v_first) (v_second) (v_degree) (v_colours) (v_signBy) (v_own) lines size atF place sort value fault faultPlace lastFault lastPlace (.ref q_sF) (.ref q_kept) undoable 1 (v_power) (v_table) (v_marks) (v_row) rowOf areSums isSieved (v_lastOf) blocks (v_inBlock) (v_atQuotient) (v_small) drawn, aI Y q_sF 74 sF, aI Y q_kept 1554 kept_1]) rfl dX11_keep_13 ?_
  refine g_aload_n C dX11_keep_16 0 rfl ?_
  refine g_get C inX11 0 rfl rfl 23 (by decide) wF_X11_48 rfl dX11_keep_17 ?_
  refine g_iconst (v := 0) C dX11_keep_20 rfl ?_
  refine g_iald C 1 rfl (by unfold vp_in; decide) dX11_keep_21 ?_
  exact g_iret C hR (Nat.le_of_ble_eq_true rfl) (Nat.le_of_ble_eq_true rfl) dX11_keep_22 ⟨sF 0, 0, 1, kept_1, rfl, rfl, h⟩
theorem dX11_back_0 : decode cX11_back 0 = .ok (.aload_n 0, 1) := by decide +kernel
theorem dX11_back_1 : decode cX11_back 1 = .ok (.iconst 0, 1) := by decide +kernel
theorem dX11_back_2 : decode cX11_back 2 = .ok (.putfield 89, 3) := by decide +kernel
theorem dX11_back_5 : decode cX11_back 5 = .ok (.aload_n 0, 1) := by decide +kernel
theorem dX11_back_6 : decode cX11_back 6 = .ok (.getfield 222, 3) := by decide +kernel
theorem dX11_back_9 : decode cX11_back 9 = .ok (.ifCond .ne 5, 3) := by decide +kernel
theorem dX11_back_12 : decode cX11_back 12 = .ok (.iconst (-1), 1) := by decide +kernel
theorem dX11_back_13 : decode cX11_back 13 = .ok (.ireturn, 1) := by decide +kernel
theorem dX11_back_14 : decode cX11_back 14 = .ok (.aload_n 0, 1) := by decide +kernel
theorem dX11_back_15 : decode cX11_back 15 = .ok (.bipush 20, 2) := by decide +kernel
theorem dX11_back_17 : decode cX11_back 17 = .ok (.invokevirtual 238, 3) := by decide +kernel
theorem dX11_back_20 : decode cX11_back 20 = .ok (.aload_n 0, 1) := by decide +kernel
theorem dX11_back_21 : decode cX11_back 21 = .ok (.iconst 0, 1) := by decide +kernel
theorem dX11_back_22 : decode cX11_back 22 = .ok (.putfield 219, 3) := by decide +kernel
theorem dX11_back_25 : decode cX11_back 25 = .ok (.aload_n 0, 1) := by decide +kernel
theorem dX11_back_26 : decode cX11_back 26 = .ok (.getfield 48, 3) := by decide +kernel
theorem dX11_back_29 : decode cX11_back 29 = .ok (.iconst 0, 1) := by decide +kernel
theorem dX11_back_30 : decode cX11_back 30 = .ok (.iaload, 1) := by decide +kernel
theorem dX11_back_31 : decode cX11_back 31 = .ok (.ireturn, 1) := by decide +kernel
/-- QuotientSumsModel.back()I -/
def wX11_back (thrown : Int32) (taped : Int32) (lines : Int32) (size : Int32) (atF : Int32) (place : Int32) (sort : Int32) (value : Int32) (fault : Int32) (faultPlace : Int32) (lastFault : Int32) (lastPlace : Int32) (undoable : Int32) (hasImage : Int32) (rowOf : Int32) (areSums : Int32) (isSieved : Int32) (blocks : Int32) (drawn : Int32) (kept : Nat → Int32) (sF : Nat → Int32)  (Q : (Int32) → (Int32) → (Int32) → (Int32) → (Nat → Int32) → Prop) : Prop :=
  ((¬ hasImage = 0 → (∃ (P_1 : (Int32) → (Nat → Int32) → Prop), wX11_laysBack 0 taped lines size atF place sort value fault faultPlace lastFault lastPlace undoable hasImage rowOf areSums isSieved blocks drawn kept sF 20 P_1 ∧ ∀ (rowOf_1 : Int32) (sF_1 : Nat → Int32), P_1 rowOf_1 sF_1 → (Q (sF_1 0) 0 0 rowOf_1 sF_1))) ∧ (hasImage = 0 → (Q (-1) 0 undoable rowOf sF)))
set_option maxHeartbeats 4000000 in
set_option maxRecDepth 100000 in
theorem mX11_back (l : Launch) (D : va_G) (Y : Nat → ClassId) (h0 : Nat) (thrown : Int32) (v_tape : Value) (taped : Int32) (v_number : Value) (v_isTold : Value) (v_name : Value) (v_sortOf : Value) (v_first : Value) (v_second : Value) (v_degree : Value) (v_colours : Value) (v_signBy : Value) (v_own : Value) (lines : Int32) (size : Int32) (atF : Int32) (place : Int32) (sort : Int32) (value : Int32) (fault : Int32) (faultPlace : Int32) (lastFault : Int32) (lastPlace : Int32) (q_sF : Nat) (q_kept : Nat) (undoable : Int32) (hasImage : Int32) (v_power : Value) (v_table : Value) (v_marks : Value) (v_row : Value) (rowOf : Int32) (areSums : Int32) (isSieved : Int32) (v_lastOf : Value) (blocks : Int32) (v_inBlock : Value) (v_atQuotient : Value) (v_small : Value) (drawn : Int32) (kept : Nat → Int32) (sF : Nat → Int32)  (Q : (Int32) → (Int32) → (Int32) → (Int32) → (Nat → Int32) → Prop) (h : wX11_back thrown taped lines size atF place sort value fault faultPlace lastFault lastPlace undoable hasImage rowOf areSums isSieved blocks drawn kept sF Q) : gM l D Y yX11_back cX11_back 1 (some .int) 2 42 0 0 [.ref h0] [oX11 h0 thrown (v_tape) taped (v_number) (v_isTold) (v_name) (v_sortOf) (v_first) (v_second) (v_degree) (v_colours) (v_signBy) (v_own) lines size atF place sort value fault faultPlace lastFault lastPlace (.ref q_sF) (.ref q_kept) undoable hasImage (v_power) (v_table) (v_marks) (v_row) rowOf areSums isSieved (v_lastOf) blocks (v_inBlock) (v_atQuotient) (v_small) drawn, aI Y q_kept 1554 kept, aI Y q_sF 74 sF] (fun v w => ∃ r : Int32, ∃ thrown' : Int32, ∃ undoable' : Int32, ∃ rowOf' : Int32, ∃ sF' : Nat → Int32, v = some (.int r) ∧ w = [oX11 h0 thrown' (v_tape) taped (v_number) (v_isTold) (v_name) (v_sortOf) (v_first) (v_second) (v_degree) (v_colours) (v_signBy) (v_own) lines size atF place sort value fault faultPlace lastFault lastPlace (.ref q_sF) (.ref q_kept) undoable' hasImage (v_power) (v_table) (v_marks) (v_row) rowOf' areSums isSieved (v_lastOf) blocks (v_inBlock) (v_atQuotient) (v_small) drawn, aI Y q_kept 1554 kept, aI Y q_sF 74 sF'] ∧ Q r thrown' undoable' rowOf' sF') := by
  refine gM_of (own := RX11) (by decide +kernel) rfl (Nat.le_of_ble_eq_true rfl) rfl (fun E C hR => ?_)
  unfold wX11_back at h
  refine g_aload_n C dX11_back_0 0 rfl ?_
  refine g_iconst (v := 0) C dX11_back_1 rfl ?_
  refine g_put C inX11 tyX11 tyX11_ok nmX11 0 rfl rfl 0 (by decide) wF_X11_89 rfl rfl rfl (Nat.le_of_ble_eq_true rfl) (ws' := [oX11 h0 0 (v_tape) taped (v_number) (v_isTold) (v_name) (v_sortOf) (v_first) (v_second) (v_degree) (v_colours) (v_signBy) (v_own) lines size atF place sort value fault faultPlace lastFault lastPlace (.ref q_sF) (.ref q_kept) undoable hasImage (v_power) (v_table) (v_marks) (v_row) rowOf areSums isSieved (v_lastOf) blocks (v_inBlock) (v_atQuotient) (v_small) drawn, aI Y q_kept 1554 kept, aI Y q_sF 74 sF]) rfl dX11_back_2 ?_
  refine g_aload_n C dX11_back_5 0 rfl ?_
  refine g_get C inX11 0 rfl rfl 26 (by decide) wF_X11_222 rfl dX11_back_6 ?_
  refine g_if_ne (tgt := 14) C dX11_back_9 (by decide) (fun c_1 => ?_) (fun c_1 => ?_)
  · replace h := h.1 c_1
    refine g_aload_n C dX11_back_14 0 rfl ?_
    refine g_bipush (v := 20) C dX11_back_15 rfl ?_
    obtain ⟨P_1, hP, h⟩ := h
    refine g_callV (As := [.int 20]) (rest := []) C (mX11_laysBack l D Y h0 0 v_tape taped v_number v_isTold v_name v_sortOf v_first v_second v_degree v_colours v_signBy v_own lines size atF place sort value fault faultPlace lastFault lastPlace q_sF q_kept undoable hasImage v_power v_table v_marks v_row rowOf areSums isSieved v_lastOf blocks v_inBlock v_atQuotient v_small drawn kept sF 20 P_1 hP) dX11_back_17 rfl wM_X11_238 wI_X11_laysBack wV_X11_laysBack wN_X11 wC_X11_laysBack (n := 1) (by decide +kernel) rfl (q0 := 0) rfl rfl ⟨Nat.le_of_ble_eq_true rfl, Nat.le_of_ble_eq_true rfl⟩ ⟨Nat.le_of_ble_eq_true rfl, Nat.le_of_ble_eq_true rfl⟩ (Nat.le_of_ble_eq_true rfl) [0, 1, 2] [] rfl rfl rfl (fun v wc hv => ?_)
    obtain ⟨rowOf_1, sF_1, rfl, rfl, hq⟩ := hv
    replace h := h rowOf_1 sF_1 hq
    refine gG.eqw (ws' := [oX11 h0 0 (v_tape) taped (v_number) (v_isTold) (v_name) (v_sortOf) (v_first) (v_second) (v_degree) (v_colours) (v_signBy) (v_own) lines size atF place sort value fault faultPlace lastFault lastPlace (.ref q_sF) (.ref q_kept) undoable hasImage (v_power) (v_table) (v_marks) (v_row) rowOf_1 areSums isSieved (v_lastOf) blocks (v_inBlock) (v_atQuotient) (v_small) drawn, aI Y q_kept 1554 kept, aI Y q_sF 74 sF_1]) rfl ?_
    refine g_aload_n C dX11_back_20 0 rfl ?_
    refine g_iconst (v := 0) C dX11_back_21 rfl ?_
    refine g_put C inX11 tyX11 tyX11_ok nmX11 0 rfl rfl 25 (by decide) wF_X11_219 rfl rfl rfl (Nat.le_of_ble_eq_true rfl) (ws' := [oX11 h0 0 (v_tape) taped (v_number) (v_isTold) (v_name) (v_sortOf) (v_first) (v_second) (v_degree) (v_colours) (v_signBy) (v_own) lines size atF place sort value fault faultPlace lastFault lastPlace (.ref q_sF) (.ref q_kept) 0 hasImage (v_power) (v_table) (v_marks) (v_row) rowOf_1 areSums isSieved (v_lastOf) blocks (v_inBlock) (v_atQuotient) (v_small) drawn, aI Y q_kept 1554 kept, aI Y q_sF 74 sF_1]) rfl dX11_back_22 ?_
    refine g_aload_n C dX11_back_25 0 rfl ?_
    refine g_get C inX11 0 rfl rfl 23 (by decide) wF_X11_48 rfl dX11_back_26 ?_
    refine g_iconst (v := 0) C dX11_back_29 rfl ?_
    refine g_iald C 2 rfl (by unfold vp_in; decide) dX11_back_30 ?_
    exact g_iret C hR (Nat.le_of_ble_eq_true rfl) (Nat.le_of_ble_eq_true rfl) dX11_back_31 ⟨sF_1 0, 0, 0, rowOf_1, sF_1, rfl, rfl, h⟩
  · replace h := h.2 c_1
    refine g_iconst (v := (-1)) C dX11_back_12 rfl ?_
    exact g_iret C hR (Nat.le_of_ble_eq_true rfl) (Nat.le_of_ble_eq_true rfl) dX11_back_13 ⟨(-1), 0, undoable, rowOf, sF, rfl, rfl, h⟩
theorem dX11_isFunction_0 : decode cX11_isFunction 0 = .ok (.iload_n 1, 1) := by decide +kernel
theorem dX11_isFunction_1 : decode cX11_isFunction 1 = .ok (.ifCond .lt 15, 3) := by decide +kernel
theorem dX11_isFunction_4 : decode cX11_isFunction 4 = .ok (.iload_n 1, 1) := by decide +kernel
theorem dX11_isFunction_5 : decode cX11_isFunction 5 = .ok (.aload_n 0, 1) := by decide +kernel
theorem dX11_isFunction_6 : decode cX11_isFunction 6 = .ok (.invokevirtual 226, 3) := by decide +kernel
theorem dX11_isFunction_9 : decode cX11_isFunction 9 = .ok (.if_icmp .ge 7, 3) := by decide +kernel
theorem dX11_isFunction_12 : decode cX11_isFunction 12 = .ok (.iconst 1, 1) := by decide +kernel
theorem dX11_isFunction_13 : decode cX11_isFunction 13 = .ok (.goto 4, 3) := by decide +kernel
theorem dX11_isFunction_16 : decode cX11_isFunction 16 = .ok (.iconst 0, 1) := by decide +kernel
theorem dX11_isFunction_17 : decode cX11_isFunction 17 = .ok (.ireturn, 1) := by decide +kernel
/-- QuotientSumsModel.isFunction(I)Z -/
def wX11_isFunction (thrown : Int32) (taped : Int32) (lines : Int32) (size : Int32) (atF : Int32) (place : Int32) (sort : Int32) (value : Int32) (fault : Int32) (faultPlace : Int32) (lastFault : Int32) (lastPlace : Int32) (undoable : Int32) (hasImage : Int32) (rowOf : Int32) (areSums : Int32) (isSieved : Int32) (blocks : Int32) (drawn : Int32) (number : Nat → Int32) (a1 : Int32) (Q : (Int32) → Prop) : Prop :=
  ((a1 < 0 → (Q 0)) ∧ (¬ a1 < 0 → (∃ (P_1 : (Int32) → Prop), wX11_functions thrown taped lines size atF place sort value fault faultPlace lastFault lastPlace undoable hasImage rowOf areSums isSieved blocks drawn number P_1 ∧ ∀ (rF_1 : Int32), P_1 rF_1 → ((rF_1 ≤ a1 → (Q 0)) ∧ (¬ rF_1 ≤ a1 → (Q 1))))))
set_option maxHeartbeats 4000000 in
set_option maxRecDepth 100000 in
theorem mX11_isFunction (l : Launch) (D : va_G) (Y : Nat → ClassId) (h0 : Nat) (thrown : Int32) (v_tape : Value) (taped : Int32) (q_number : Nat) (v_isTold : Value) (v_name : Value) (v_sortOf : Value) (v_first : Value) (v_second : Value) (v_degree : Value) (v_colours : Value) (v_signBy : Value) (v_own : Value) (lines : Int32) (size : Int32) (atF : Int32) (place : Int32) (sort : Int32) (value : Int32) (fault : Int32) (faultPlace : Int32) (lastFault : Int32) (lastPlace : Int32) (v_sF : Value) (v_kept : Value) (undoable : Int32) (hasImage : Int32) (v_power : Value) (v_table : Value) (v_marks : Value) (v_row : Value) (rowOf : Int32) (areSums : Int32) (isSieved : Int32) (v_lastOf : Value) (blocks : Int32) (v_inBlock : Value) (v_atQuotient : Value) (v_small : Value) (drawn : Int32) (number : Nat → Int32) (a1 : Int32) (Q : (Int32) → Prop) (h : wX11_isFunction thrown taped lines size atF place sort value fault faultPlace lastFault lastPlace undoable hasImage rowOf areSums isSieved blocks drawn number a1 Q) : gM l D Y yX11_isFunction cX11_isFunction 2 (some .boolean) 1 20 0 0 [.ref h0, .int a1] [oX11 h0 thrown (v_tape) taped (.ref q_number) (v_isTold) (v_name) (v_sortOf) (v_first) (v_second) (v_degree) (v_colours) (v_signBy) (v_own) lines size atF place sort value fault faultPlace lastFault lastPlace (v_sF) (v_kept) undoable hasImage (v_power) (v_table) (v_marks) (v_row) rowOf areSums isSieved (v_lastOf) blocks (v_inBlock) (v_atQuotient) (v_small) drawn, aI Y q_number 8 number] (fun v w => ∃ r : Int32, v = some (.int r) ∧ w = [oX11 h0 thrown (v_tape) taped (.ref q_number) (v_isTold) (v_name) (v_sortOf) (v_first) (v_second) (v_degree) (v_colours) (v_signBy) (v_own) lines size atF place sort value fault faultPlace lastFault lastPlace (v_sF) (v_kept) undoable hasImage (v_power) (v_table) (v_marks) (v_row) rowOf areSums isSieved (v_lastOf) blocks (v_inBlock) (v_atQuotient) (v_small) drawn, aI Y q_number 8 number] ∧ Q r) := by
  refine gM_of (own := RX11) (by decide +kernel) rfl (Nat.le_of_ble_eq_true rfl) rfl (fun E C hR => ?_)
  unfold wX11_isFunction at h
  refine g_iload_n C dX11_isFunction_0 1 rfl ?_
  refine g_if_lt (tgt := 16) C dX11_isFunction_1 (by decide) (fun c_1 => ?_) (fun c_1 => ?_)
  · replace h := h.1 c_1
    refine g_iconst (v := 0) C dX11_isFunction_16 rfl ?_
    exact g_zret C hR (by decide) (Nat.le_of_ble_eq_true rfl) (Nat.le_of_ble_eq_true rfl) dX11_isFunction_17 ⟨0, rfl, rfl, h⟩
  · replace h := h.2 c_1
    refine g_iload_n C dX11_isFunction_4 1 rfl ?_
    refine g_aload_n C dX11_isFunction_5 0 rfl ?_
    obtain ⟨P_1, hP, h⟩ := h
    refine g_callV (As := []) (rest := [.int a1]) C (mX11_functions l D Y h0 thrown v_tape taped q_number v_isTold v_name v_sortOf v_first v_second v_degree v_colours v_signBy v_own lines size atF place sort value fault faultPlace lastFault lastPlace v_sF v_kept undoable hasImage v_power v_table v_marks v_row rowOf areSums isSieved v_lastOf blocks v_inBlock v_atQuotient v_small drawn number P_1 hP) dX11_isFunction_6 rfl wM_X11_226 wI_X11_functions wV_X11_functions wN_X11 wC_X11_functions (n := 0) (by decide +kernel) rfl (q0 := 0) rfl rfl ⟨Nat.le_of_ble_eq_true rfl, Nat.le_of_ble_eq_true rfl⟩ ⟨Nat.le_of_ble_eq_true rfl, Nat.le_of_ble_eq_true rfl⟩ (Nat.le_of_ble_eq_true rfl) [0, 1] [] rfl rfl rfl (fun v wc hv => ?_)
    obtain ⟨rF_1, rfl, rfl, hq⟩ := hv
    replace h := h rF_1 hq
    refine gG.eqw (ws' := [oX11 h0 thrown (v_tape) taped (.ref q_number) (v_isTold) (v_name) (v_sortOf) (v_first) (v_second) (v_degree) (v_colours) (v_signBy) (v_own) lines size atF place sort value fault faultPlace lastFault lastPlace (v_sF) (v_kept) undoable hasImage (v_power) (v_table) (v_marks) (v_row) rowOf areSums isSieved (v_lastOf) blocks (v_inBlock) (v_atQuotient) (v_small) drawn, aI Y q_number 8 number]) rfl ?_
    refine g_icmp_ge (tgt := 16) C dX11_isFunction_9 (by decide) (fun c_2 => ?_) (fun c_2 => ?_)
    · replace h := h.1 c_2
      refine g_iconst (v := 0) C dX11_isFunction_16 rfl ?_
      exact g_zret C hR (by decide) (Nat.le_of_ble_eq_true rfl) (Nat.le_of_ble_eq_true rfl) dX11_isFunction_17 ⟨0, rfl, rfl, h⟩
    · replace h := h.2 c_2
      refine g_iconst (v := 1) C dX11_isFunction_12 rfl ?_
      refine g_goto (tgt := 17) C dX11_isFunction_13 (by decide) ?_
      exact g_zret C hR (by decide) (Nat.le_of_ble_eq_true rfl) (Nat.le_of_ble_eq_true rfl) dX11_isFunction_17 ⟨1, rfl, rfl, h⟩
theorem dX11_within_0 : decode cX11_within 0 = .ok (.iload_n 0, 1) := by decide +kernel
theorem dX11_within_1 : decode cX11_within 1 = .ok (.iload_n 1, 1) := by decide +kernel
theorem dX11_within_2 : decode cX11_within 2 = .ok (.if_icmp .lt 12, 3) := by decide +kernel
theorem dX11_within_5 : decode cX11_within 5 = .ok (.iload_n 0, 1) := by decide +kernel
theorem dX11_within_6 : decode cX11_within 6 = .ok (.iload_n 2, 1) := by decide +kernel
theorem dX11_within_7 : decode cX11_within 7 = .ok (.if_icmp .gt 7, 3) := by decide +kernel
theorem dX11_within_10 : decode cX11_within 10 = .ok (.iconst 1, 1) := by decide +kernel
theorem dX11_within_11 : decode cX11_within 11 = .ok (.goto 4, 3) := by decide +kernel
theorem dX11_within_14 : decode cX11_within 14 = .ok (.iconst 0, 1) := by decide +kernel
theorem dX11_within_15 : decode cX11_within 15 = .ok (.ireturn, 1) := by decide +kernel
/-- QuotientSumsModel.within(III)Z -/
def wX11_within  (a1 : Int32) (a2 : Int32) (a3 : Int32) (Q : (Int32) → Prop) : Prop :=
  ((a1 < a2 → (Q 0)) ∧ (¬ a1 < a2 → ((a3 < a1 → (Q 0)) ∧ (¬ a3 < a1 → (Q 1)))))
set_option maxHeartbeats 4000000 in
set_option maxRecDepth 100000 in
theorem mX11_within (l : Launch) (D : va_G) (Y : Nat → ClassId)   (a1 : Int32) (a2 : Int32) (a3 : Int32) (Q : (Int32) → Prop) (h : wX11_within a1 a2 a3 Q) : gM l D Y yX11_within cX11_within 3 (some .boolean) 0 0 0 0 [.int a1, .int a2, .int a3] [] (fun v w => ∃ r : Int32, v = some (.int r) ∧ w = [] ∧ Q r) := by
  refine gM_of (own := RX11) (by decide +kernel) rfl (Nat.le_of_ble_eq_true rfl) rfl (fun E C hR => ?_)
  unfold wX11_within at h
  refine g_iload_n C dX11_within_0 0 rfl ?_
  refine g_iload_n C dX11_within_1 1 rfl ?_
  refine g_icmp_lt (tgt := 14) C dX11_within_2 (by decide) (fun c_1 => ?_) (fun c_1 => ?_)
  · replace h := h.1 c_1
    refine g_iconst (v := 0) C dX11_within_14 rfl ?_
    exact g_zret C hR (by decide) (Nat.le_of_ble_eq_true rfl) (Nat.le_of_ble_eq_true rfl) dX11_within_15 ⟨0, rfl, rfl, h⟩
  · replace h := h.2 c_1
    refine g_iload_n C dX11_within_5 0 rfl ?_
    refine g_iload_n C dX11_within_6 2 rfl ?_
    refine g_icmp_gt (tgt := 14) C dX11_within_7 (by decide) (fun c_2 => ?_) (fun c_2 => ?_)
    · replace h := h.1 c_2
      refine g_iconst (v := 0) C dX11_within_14 rfl ?_
      exact g_zret C hR (by decide) (Nat.le_of_ble_eq_true rfl) (Nat.le_of_ble_eq_true rfl) dX11_within_15 ⟨0, rfl, rfl, h⟩
    · replace h := h.2 c_2
      refine g_iconst (v := 1) C dX11_within_10 rfl ?_
      refine g_goto (tgt := 15) C dX11_within_11 (by decide) ?_
      exact g_zret C hR (by decide) (Nat.le_of_ble_eq_true rfl) (Nat.le_of_ble_eq_true rfl) dX11_within_15 ⟨1, rfl, rfl, h⟩
theorem dX11_isIn_0 : decode cX11_isIn 0 = .ok (.iload_n 1, 1) := by decide +kernel
theorem dX11_isIn_1 : decode cX11_isIn 1 = .ok (.iload_n 2, 1) := by decide +kernel
theorem dX11_isIn_2 : decode cX11_isIn 2 = .ok (.if_icmp .lt 17, 3) := by decide +kernel
theorem dX11_isIn_5 : decode cX11_isIn 5 = .ok (.iload_n 1, 1) := by decide +kernel
theorem dX11_isIn_6 : decode cX11_isIn 6 = .ok (.aload_n 0, 1) := by decide +kernel
theorem dX11_isIn_7 : decode cX11_isIn 7 = .ok (.getfield 48, 3) := by decide +kernel
theorem dX11_isIn_10 : decode cX11_isIn 10 = .ok (.iconst 0, 1) := by decide +kernel
theorem dX11_isIn_11 : decode cX11_isIn 11 = .ok (.iaload, 1) := by decide +kernel
theorem dX11_isIn_12 : decode cX11_isIn 12 = .ok (.if_icmp .gt 7, 3) := by decide +kernel
theorem dX11_isIn_15 : decode cX11_isIn 15 = .ok (.iconst 1, 1) := by decide +kernel
theorem dX11_isIn_16 : decode cX11_isIn 16 = .ok (.goto 4, 3) := by decide +kernel
theorem dX11_isIn_19 : decode cX11_isIn 19 = .ok (.iconst 0, 1) := by decide +kernel
theorem dX11_isIn_20 : decode cX11_isIn 20 = .ok (.ireturn, 1) := by decide +kernel
/-- QuotientSumsModel.isIn(II)Z -/
def wX11_isIn (thrown : Int32) (taped : Int32) (lines : Int32) (size : Int32) (atF : Int32) (place : Int32) (sort : Int32) (value : Int32) (fault : Int32) (faultPlace : Int32) (lastFault : Int32) (lastPlace : Int32) (undoable : Int32) (hasImage : Int32) (rowOf : Int32) (areSums : Int32) (isSieved : Int32) (blocks : Int32) (drawn : Int32) (sF : Nat → Int32) (a1 : Int32) (a2 : Int32) (Q : (Int32) → Prop) : Prop :=
  ((a1 < a2 → (Q 0)) ∧ (¬ a1 < a2 → (((sF 0) < a1 → (Q 0)) ∧ (¬ (sF 0) < a1 → (Q 1)))))
set_option maxHeartbeats 4000000 in
set_option maxRecDepth 100000 in
theorem mX11_isIn (l : Launch) (D : va_G) (Y : Nat → ClassId) (h0 : Nat) (thrown : Int32) (v_tape : Value) (taped : Int32) (v_number : Value) (v_isTold : Value) (v_name : Value) (v_sortOf : Value) (v_first : Value) (v_second : Value) (v_degree : Value) (v_colours : Value) (v_signBy : Value) (v_own : Value) (lines : Int32) (size : Int32) (atF : Int32) (place : Int32) (sort : Int32) (value : Int32) (fault : Int32) (faultPlace : Int32) (lastFault : Int32) (lastPlace : Int32) (q_sF : Nat) (v_kept : Value) (undoable : Int32) (hasImage : Int32) (v_power : Value) (v_table : Value) (v_marks : Value) (v_row : Value) (rowOf : Int32) (areSums : Int32) (isSieved : Int32) (v_lastOf : Value) (blocks : Int32) (v_inBlock : Value) (v_atQuotient : Value) (v_small : Value) (drawn : Int32) (sF : Nat → Int32) (a1 : Int32) (a2 : Int32) (Q : (Int32) → Prop) (h : wX11_isIn thrown taped lines size atF place sort value fault faultPlace lastFault lastPlace undoable hasImage rowOf areSums isSieved blocks drawn sF a1 a2 Q) : gM l D Y yX11_isIn cX11_isIn 3 (some .boolean) 0 0 0 0 [.ref h0, .int a1, .int a2] [oX11 h0 thrown (v_tape) taped (v_number) (v_isTold) (v_name) (v_sortOf) (v_first) (v_second) (v_degree) (v_colours) (v_signBy) (v_own) lines size atF place sort value fault faultPlace lastFault lastPlace (.ref q_sF) (v_kept) undoable hasImage (v_power) (v_table) (v_marks) (v_row) rowOf areSums isSieved (v_lastOf) blocks (v_inBlock) (v_atQuotient) (v_small) drawn, aI Y q_sF 74 sF] (fun v w => ∃ r : Int32, v = some (.int r) ∧ w = [oX11 h0 thrown (v_tape) taped (v_number) (v_isTold) (v_name) (v_sortOf) (v_first) (v_second) (v_degree) (v_colours) (v_signBy) (v_own) lines size atF place sort value fault faultPlace lastFault lastPlace (.ref q_sF) (v_kept) undoable hasImage (v_power) (v_table) (v_marks) (v_row) rowOf areSums isSieved (v_lastOf) blocks (v_inBlock) (v_atQuotient) (v_small) drawn, aI Y q_sF 74 sF] ∧ Q r) := by
  refine gM_of (own := RX11) (by decide +kernel) rfl (Nat.le_of_ble_eq_true rfl) rfl (fun E C hR => ?_)
  unfold wX11_isIn at h
  refine g_iload_n C dX11_isIn_0 1 rfl ?_
  refine g_iload_n C dX11_isIn_1 2 rfl ?_
  refine g_icmp_lt (tgt := 19) C dX11_isIn_2 (by decide) (fun c_1 => ?_) (fun c_1 => ?_)
  · replace h := h.1 c_1
    refine g_iconst (v := 0) C dX11_isIn_19 rfl ?_
    exact g_zret C hR (by decide) (Nat.le_of_ble_eq_true rfl) (Nat.le_of_ble_eq_true rfl) dX11_isIn_20 ⟨0, rfl, rfl, h⟩
  · replace h := h.2 c_1
    refine g_iload_n C dX11_isIn_5 1 rfl ?_
    refine g_aload_n C dX11_isIn_6 0 rfl ?_
    refine g_get C inX11 0 rfl rfl 23 (by decide) wF_X11_48 rfl dX11_isIn_7 ?_
    refine g_iconst (v := 0) C dX11_isIn_10 rfl ?_
    refine g_iald C 1 rfl (by unfold vp_in; decide) dX11_isIn_11 ?_
    refine g_icmp_gt (tgt := 19) C dX11_isIn_12 (by decide) (fun c_2 => ?_) (fun c_2 => ?_)
    · replace h := h.1 c_2
      refine g_iconst (v := 0) C dX11_isIn_19 rfl ?_
      exact g_zret C hR (by decide) (Nat.le_of_ble_eq_true rfl) (Nat.le_of_ble_eq_true rfl) dX11_isIn_20 ⟨0, rfl, rfl, h⟩
    · replace h := h.2 c_2
      refine g_iconst (v := 1) C dX11_isIn_15 rfl ?_
      refine g_goto (tgt := 20) C dX11_isIn_16 (by decide) ?_
      exact g_zret C hR (by decide) (Nat.le_of_ble_eq_true rfl) (Nat.le_of_ble_eq_true rfl) dX11_isIn_20 ⟨1, rfl, rfl, h⟩
theorem dX11_function_0 : decode cX11_function 0 = .ok (.aload_n 0, 1) := by decide +kernel
theorem dX11_function_1 : decode cX11_function 1 = .ok (.iconst 0, 1) := by decide +kernel
theorem dX11_function_2 : decode cX11_function 2 = .ok (.putfield 89, 3) := by decide +kernel
theorem dX11_function_5 : decode cX11_function 5 = .ok (.aload_n 0, 1) := by decide +kernel
theorem dX11_function_6 : decode cX11_function 6 = .ok (.iload_n 1, 1) := by decide +kernel
theorem dX11_function_7 : decode cX11_function 7 = .ok (.invokevirtual 241, 3) := by decide +kernel
theorem dX11_function_10 : decode cX11_function 10 = .ok (.ifCond .ne 10, 3) := by decide +kernel
theorem dX11_function_13 : decode cX11_function 13 = .ok (.aload_n 0, 1) := by decide +kernel
theorem dX11_function_14 : decode cX11_function 14 = .ok (.iconst 1, 1) := by decide +kernel
theorem dX11_function_15 : decode cX11_function 15 = .ok (.putfield 89, 3) := by decide +kernel
theorem dX11_function_18 : decode cX11_function 18 = .ok (.iconst 0, 1) := by decide +kernel
theorem dX11_function_19 : decode cX11_function 19 = .ok (.ireturn, 1) := by decide +kernel
theorem dX11_function_20 : decode cX11_function 20 = .ok (.iload_n 2, 1) := by decide +kernel
theorem dX11_function_21 : decode cX11_function 21 = .ok (.tableswitch 70 0 4 #[35, 42, 49, 56, 63], 35) := by decide +kernel
theorem dX11_function_56 : decode cX11_function 56 = .ok (.aload_n 0, 1) := by decide +kernel
theorem dX11_function_57 : decode cX11_function 57 = .ok (.getfield 23, 3) := by decide +kernel
theorem dX11_function_60 : decode cX11_function 60 = .ok (.iload_n 1, 1) := by decide +kernel
theorem dX11_function_61 : decode cX11_function 61 = .ok (.iaload, 1) := by decide +kernel
theorem dX11_function_62 : decode cX11_function 62 = .ok (.ireturn, 1) := by decide +kernel
theorem dX11_function_63 : decode cX11_function 63 = .ok (.aload_n 0, 1) := by decide +kernel
theorem dX11_function_64 : decode cX11_function 64 = .ok (.getfield 26, 3) := by decide +kernel
theorem dX11_function_67 : decode cX11_function 67 = .ok (.iload_n 1, 1) := by decide +kernel
theorem dX11_function_68 : decode cX11_function 68 = .ok (.iaload, 1) := by decide +kernel
theorem dX11_function_69 : decode cX11_function 69 = .ok (.ireturn, 1) := by decide +kernel
theorem dX11_function_70 : decode cX11_function 70 = .ok (.aload_n 0, 1) := by decide +kernel
theorem dX11_function_71 : decode cX11_function 71 = .ok (.getfield 29, 3) := by decide +kernel
theorem dX11_function_74 : decode cX11_function 74 = .ok (.iload_n 1, 1) := by decide +kernel
theorem dX11_function_75 : decode cX11_function 75 = .ok (.iaload, 1) := by decide +kernel
theorem dX11_function_76 : decode cX11_function 76 = .ok (.ireturn, 1) := by decide +kernel
theorem dX11_function_77 : decode cX11_function 77 = .ok (.aload_n 0, 1) := by decide +kernel
theorem dX11_function_78 : decode cX11_function 78 = .ok (.getfield 32, 3) := by decide +kernel
theorem dX11_function_81 : decode cX11_function 81 = .ok (.iload_n 1, 1) := by decide +kernel
theorem dX11_function_82 : decode cX11_function 82 = .ok (.iaload, 1) := by decide +kernel
theorem dX11_function_83 : decode cX11_function 83 = .ok (.ireturn, 1) := by decide +kernel
theorem dX11_function_84 : decode cX11_function 84 = .ok (.aload_n 0, 1) := by decide +kernel
theorem dX11_function_85 : decode cX11_function 85 = .ok (.getfield 35, 3) := by decide +kernel
theorem dX11_function_88 : decode cX11_function 88 = .ok (.iload_n 1, 1) := by decide +kernel
theorem dX11_function_89 : decode cX11_function 89 = .ok (.iaload, 1) := by decide +kernel
theorem dX11_function_90 : decode cX11_function 90 = .ok (.ireturn, 1) := by decide +kernel
theorem dX11_function_91 : decode cX11_function 91 = .ok (.aload_n 0, 1) := by decide +kernel
theorem dX11_function_92 : decode cX11_function 92 = .ok (.iconst 2, 1) := by decide +kernel
theorem dX11_function_93 : decode cX11_function 93 = .ok (.putfield 89, 3) := by decide +kernel
theorem dX11_function_96 : decode cX11_function 96 = .ok (.iconst 0, 1) := by decide +kernel
theorem dX11_function_97 : decode cX11_function 97 = .ok (.ireturn, 1) := by decide +kernel
/-- QuotientSumsModel.function(II)I -/
def wX11_function (thrown : Int32) (taped : Int32) (lines : Int32) (size : Int32) (atF : Int32) (place : Int32) (sort : Int32) (value : Int32) (fault : Int32) (faultPlace : Int32) (lastFault : Int32) (lastPlace : Int32) (undoable : Int32) (hasImage : Int32) (rowOf : Int32) (areSums : Int32) (isSieved : Int32) (blocks : Int32) (drawn : Int32) (number : Nat → Int32) (sortOf : Nat → Int32) (first : Nat → Int32) (second : Nat → Int32) (degree : Nat → Int32) (colours : Nat → Int32) (a1 : Int32) (a2 : Int32) (Q : (Int32) → (Int32) → Prop) : Prop :=
  (∃ (P_1 : (Int32) → Prop), wX11_isFunction 0 taped lines size atF place sort value fault faultPlace lastFault lastPlace undoable hasImage rowOf areSums isSieved blocks drawn number a1 P_1 ∧ ∀ (rF_1 : Int32), P_1 rF_1 → ((¬ rF_1 = 0 → ((a2 = 0 → (vp_in a1 24 ∧ (Q (sortOf a1.toNatClampNeg) 0))) ∧ (¬ a2 = 0 → ((a2 = 1 → (vp_in a1 24 ∧ (Q (first a1.toNatClampNeg) 0))) ∧ (¬ a2 = 1 → ((a2 = 2 → (vp_in a1 24 ∧ (Q (second a1.toNatClampNeg) 0))) ∧ (¬ a2 = 2 → ((a2 = 3 → (vp_in a1 24 ∧ (Q (degree a1.toNatClampNeg) 0))) ∧ (¬ a2 = 3 → ((a2 = 4 → (vp_in a1 24 ∧ (Q (colours a1.toNatClampNeg) 0))) ∧ (¬ a2 = 4 → (Q 0 2)))))))))))) ∧ (rF_1 = 0 → (Q 0 1))))
set_option maxHeartbeats 4000000 in
set_option maxRecDepth 100000 in
theorem mX11_function (l : Launch) (D : va_G) (Y : Nat → ClassId) (h0 : Nat) (thrown : Int32) (v_tape : Value) (taped : Int32) (q_number : Nat) (v_isTold : Value) (v_name : Value) (q_sortOf : Nat) (q_first : Nat) (q_second : Nat) (q_degree : Nat) (q_colours : Nat) (v_signBy : Value) (v_own : Value) (lines : Int32) (size : Int32) (atF : Int32) (place : Int32) (sort : Int32) (value : Int32) (fault : Int32) (faultPlace : Int32) (lastFault : Int32) (lastPlace : Int32) (v_sF : Value) (v_kept : Value) (undoable : Int32) (hasImage : Int32) (v_power : Value) (v_table : Value) (v_marks : Value) (v_row : Value) (rowOf : Int32) (areSums : Int32) (isSieved : Int32) (v_lastOf : Value) (blocks : Int32) (v_inBlock : Value) (v_atQuotient : Value) (v_small : Value) (drawn : Int32) (number : Nat → Int32) (sortOf : Nat → Int32) (first : Nat → Int32) (second : Nat → Int32) (degree : Nat → Int32) (colours : Nat → Int32) (a1 : Int32) (a2 : Int32) (Q : (Int32) → (Int32) → Prop) (h : wX11_function thrown taped lines size atF place sort value fault faultPlace lastFault lastPlace undoable hasImage rowOf areSums isSieved blocks drawn number sortOf first second degree colours a1 a2 Q) : gM l D Y yX11_function cX11_function 3 (some .int) 2 41 0 0 [.ref h0, .int a1, .int a2] [oX11 h0 thrown (v_tape) taped (.ref q_number) (v_isTold) (v_name) (.ref q_sortOf) (.ref q_first) (.ref q_second) (.ref q_degree) (.ref q_colours) (v_signBy) (v_own) lines size atF place sort value fault faultPlace lastFault lastPlace (v_sF) (v_kept) undoable hasImage (v_power) (v_table) (v_marks) (v_row) rowOf areSums isSieved (v_lastOf) blocks (v_inBlock) (v_atQuotient) (v_small) drawn, aI Y q_number 8 number, aI Y q_sortOf 24 sortOf, aI Y q_first 24 first, aI Y q_second 24 second, aI Y q_degree 24 degree, aI Y q_colours 24 colours] (fun v w => ∃ r : Int32, ∃ thrown' : Int32, v = some (.int r) ∧ w = [oX11 h0 thrown' (v_tape) taped (.ref q_number) (v_isTold) (v_name) (.ref q_sortOf) (.ref q_first) (.ref q_second) (.ref q_degree) (.ref q_colours) (v_signBy) (v_own) lines size atF place sort value fault faultPlace lastFault lastPlace (v_sF) (v_kept) undoable hasImage (v_power) (v_table) (v_marks) (v_row) rowOf areSums isSieved (v_lastOf) blocks (v_inBlock) (v_atQuotient) (v_small) drawn, aI Y q_number 8 number, aI Y q_sortOf 24 sortOf, aI Y q_first 24 first, aI Y q_second 24 second, aI Y q_degree 24 degree, aI Y q_colours 24 colours] ∧ Q r thrown') := by
  refine gM_of (own := RX11) (by decide +kernel) rfl (Nat.le_of_ble_eq_true rfl) rfl (fun E C hR => ?_)
  unfold wX11_function at h
  refine g_aload_n C dX11_function_0 0 rfl ?_
  refine g_iconst (v := 0) C dX11_function_1 rfl ?_
  refine g_put C inX11 tyX11 tyX11_ok nmX11 0 rfl rfl 0 (by decide) wF_X11_89 rfl rfl rfl (Nat.le_of_ble_eq_true rfl) (ws' := [oX11 h0 0 (v_tape) taped (.ref q_number) (v_isTold) (v_name) (.ref q_sortOf) (.ref q_first) (.ref q_second) (.ref q_degree) (.ref q_colours) (v_signBy) (v_own) lines size atF place sort value fault faultPlace lastFault lastPlace (v_sF) (v_kept) undoable hasImage (v_power) (v_table) (v_marks) (v_row) rowOf areSums isSieved (v_lastOf) blocks (v_inBlock) (v_atQuotient) (v_small) drawn, aI Y q_number 8 number, aI Y q_sortOf 24 sortOf, aI Y q_first 24 first, aI Y q_second 24 second, aI Y q_degree 24 degree, aI Y q_colours 24 colours]) rfl dX11_function_2 ?_
  refine g_aload_n C dX11_function_5 0 rfl ?_
  refine g_iload_n C dX11_function_6 1 rfl ?_
  obtain ⟨P_1, hP, h⟩ := h
  refine g_callV (As := [.int a1]) (rest := []) C (mX11_isFunction l D Y h0 0 v_tape taped q_number v_isTold v_name (.ref q_sortOf) (.ref q_first) (.ref q_second) (.ref q_degree) (.ref q_colours) v_signBy v_own lines size atF place sort value fault faultPlace lastFault lastPlace v_sF v_kept undoable hasImage v_power v_table v_marks v_row rowOf areSums isSieved v_lastOf blocks v_inBlock v_atQuotient v_small drawn number a1 P_1 hP) dX11_function_7 rfl wM_X11_241 wI_X11_isFunction wV_X11_isFunction wN_X11 wC_X11_isFunction (n := 1) (by decide +kernel) rfl (q0 := 0) rfl rfl ⟨Nat.le_of_ble_eq_true rfl, Nat.le_of_ble_eq_true rfl⟩ ⟨Nat.le_of_ble_eq_true rfl, Nat.le_of_ble_eq_true rfl⟩ (Nat.le_of_ble_eq_true rfl) [0, 1] [2, 3, 4, 5, 6] rfl rfl rfl (fun v wc hv => ?_)
  obtain ⟨rF_1, rfl, rfl, hq⟩ := hv
  replace h := h rF_1 hq
  refine gG.perm (ws' := [oX11 h0 0 (v_tape) taped (.ref q_number) (v_isTold) (v_name) (.ref q_sortOf) (.ref q_first) (.ref q_second) (.ref q_degree) (.ref q_colours) (v_signBy) (v_own) lines size atF place sort value fault faultPlace lastFault lastPlace (v_sF) (v_kept) undoable hasImage (v_power) (v_table) (v_marks) (v_row) rowOf areSums isSieved (v_lastOf) blocks (v_inBlock) (v_atQuotient) (v_small) drawn, aI Y q_number 8 number, aI Y q_sortOf 24 sortOf, aI Y q_first 24 first, aI Y q_second 24 second, aI Y q_degree 24 degree, aI Y q_colours 24 colours]) [5, 6, 0, 1, 2, 3, 4] rfl rfl ?_
  refine g_if_ne (tgt := 20) C dX11_function_10 (by decide) (fun c_1 => ?_) (fun c_1 => ?_)
  · replace h := h.1 c_1
    refine g_iload_n C dX11_function_20 2 rfl ?_
    by_cases c_2 : a2 = 0
    · replace h := h.1 c_2
      refine g_tabI (v := 0) (tgt := 56) C dX11_function_21 c_2 (by decide) (by decide) rfl (by decide) ?_
      refine g_aload_n C dX11_function_56 0 rfl ?_
      refine g_get C inX11 0 rfl rfl 6 (by decide) wF_X11_23 rfl dX11_function_57 ?_
      refine g_iload_n C dX11_function_60 1 rfl ?_
      obtain ⟨hc_1, h⟩ := h
      refine g_iald C 2 rfl hc_1 dX11_function_61 ?_
      exact g_iret C hR (Nat.le_of_ble_eq_true rfl) (Nat.le_of_ble_eq_true rfl) dX11_function_62 ⟨sortOf a1.toNatClampNeg, 0, rfl, rfl, h⟩
    · replace h := h.2 c_2
      by_cases c_3 : a2 = 1
      · replace h := h.1 c_3
        refine g_tabI (v := 1) (tgt := 63) C dX11_function_21 c_3 (by decide) (by decide) rfl (by decide) ?_
        refine g_aload_n C dX11_function_63 0 rfl ?_
        refine g_get C inX11 0 rfl rfl 7 (by decide) wF_X11_26 rfl dX11_function_64 ?_
        refine g_iload_n C dX11_function_67 1 rfl ?_
        obtain ⟨hc_2, h⟩ := h
        refine g_iald C 3 rfl hc_2 dX11_function_68 ?_
        exact g_iret C hR (Nat.le_of_ble_eq_true rfl) (Nat.le_of_ble_eq_true rfl) dX11_function_69 ⟨first a1.toNatClampNeg, 0, rfl, rfl, h⟩
      · replace h := h.2 c_3
        by_cases c_4 : a2 = 2
        · replace h := h.1 c_4
          refine g_tabI (v := 2) (tgt := 70) C dX11_function_21 c_4 (by decide) (by decide) rfl (by decide) ?_
          refine g_aload_n C dX11_function_70 0 rfl ?_
          refine g_get C inX11 0 rfl rfl 8 (by decide) wF_X11_29 rfl dX11_function_71 ?_
          refine g_iload_n C dX11_function_74 1 rfl ?_
          obtain ⟨hc_3, h⟩ := h
          refine g_iald C 4 rfl hc_3 dX11_function_75 ?_
          exact g_iret C hR (Nat.le_of_ble_eq_true rfl) (Nat.le_of_ble_eq_true rfl) dX11_function_76 ⟨second a1.toNatClampNeg, 0, rfl, rfl, h⟩
        · replace h := h.2 c_4
          by_cases c_5 : a2 = 3
          · replace h := h.1 c_5
            refine g_tabI (v := 3) (tgt := 77) C dX11_function_21 c_5 (by decide) (by decide) rfl (by decide) ?_
            refine g_aload_n C dX11_function_77 0 rfl ?_
            refine g_get C inX11 0 rfl rfl 9 (by decide) wF_X11_32 rfl dX11_function_78 ?_
            refine g_iload_n C dX11_function_81 1 rfl ?_
            obtain ⟨hc_4, h⟩ := h
            refine g_iald C 5 rfl hc_4 dX11_function_82 ?_
            exact g_iret C hR (Nat.le_of_ble_eq_true rfl) (Nat.le_of_ble_eq_true rfl) dX11_function_83 ⟨degree a1.toNatClampNeg, 0, rfl, rfl, h⟩
          · replace h := h.2 c_5
            by_cases c_6 : a2 = 4
            · replace h := h.1 c_6
              refine g_tabI (v := 4) (tgt := 84) C dX11_function_21 c_6 (by decide) (by decide) rfl (by decide) ?_
              refine g_aload_n C dX11_function_84 0 rfl ?_
              refine g_get C inX11 0 rfl rfl 10 (by decide) wF_X11_35 rfl dX11_function_85 ?_
              refine g_iload_n C dX11_function_88 1 rfl ?_
              obtain ⟨hc_5, h⟩ := h
              refine g_iald C 6 rfl hc_5 dX11_function_89 ?_
              exact g_iret C hR (Nat.le_of_ble_eq_true rfl) (Nat.le_of_ble_eq_true rfl) dX11_function_90 ⟨colours a1.toNatClampNeg, 0, rfl, rfl, h⟩
            · replace h := h.2 c_6
              refine g_tabO (tgt := 91) C dX11_function_21 [0, 1, 2, 3, 4] (by decide) (by exact ⟨c_2, c_3, c_4, c_5, c_6, trivial⟩) (by decide) ?_
              refine g_aload_n C dX11_function_91 0 rfl ?_
              refine g_iconst (v := 2) C dX11_function_92 rfl ?_
              refine g_put C inX11 tyX11 tyX11_ok nmX11 0 rfl rfl 0 (by decide) wF_X11_89 rfl rfl rfl (Nat.le_of_ble_eq_true rfl) (ws' := [oX11 h0 2 (v_tape) taped (.ref q_number) (v_isTold) (v_name) (.ref q_sortOf) (.ref q_first) (.ref q_second) (.ref q_degree) (.ref q_colours) (v_signBy) (v_own) lines size atF place sort value fault faultPlace lastFault lastPlace (v_sF) (v_kept) undoable hasImage (v_power) (v_table) (v_marks) (v_row) rowOf areSums isSieved (v_lastOf) blocks (v_inBlock) (v_atQuotient) (v_small) drawn, aI Y q_number 8 number, aI Y q_sortOf 24 sortOf, aI Y q_first 24 first, aI Y q_second 24 second, aI Y q_degree 24 degree, aI Y q_colours 24 colours]) rfl dX11_function_93 ?_
              refine g_iconst (v := 0) C dX11_function_96 rfl ?_
              exact g_iret C hR (Nat.le_of_ble_eq_true rfl) (Nat.le_of_ble_eq_true rfl) dX11_function_97 ⟨0, 2, rfl, rfl, h⟩
  · replace h := h.2 c_1
    refine g_aload_n C dX11_function_13 0 rfl ?_
    refine g_iconst (v := 1) C dX11_function_14 rfl ?_
    refine g_put C inX11 tyX11 tyX11_ok nmX11 0 rfl rfl 0 (by decide) wF_X11_89 rfl rfl rfl (Nat.le_of_ble_eq_true rfl) (ws' := [oX11 h0 1 (v_tape) taped (.ref q_number) (v_isTold) (v_name) (.ref q_sortOf) (.ref q_first) (.ref q_second) (.ref q_degree) (.ref q_colours) (v_signBy) (v_own) lines size atF place sort value fault faultPlace lastFault lastPlace (v_sF) (v_kept) undoable hasImage (v_power) (v_table) (v_marks) (v_row) rowOf areSums isSieved (v_lastOf) blocks (v_inBlock) (v_atQuotient) (v_small) drawn, aI Y q_number 8 number, aI Y q_sortOf 24 sortOf, aI Y q_first 24 first, aI Y q_second 24 second, aI Y q_degree 24 degree, aI Y q_colours 24 colours]) rfl dX11_function_15 ?_
    refine g_iconst (v := 0) C dX11_function_18 rfl ?_
    exact g_iret C hR (Nat.le_of_ble_eq_true rfl) (Nat.le_of_ble_eq_true rfl) dX11_function_19 ⟨0, 1, rfl, rfl, h⟩
theorem dX11_isOwn_0 : decode cX11_isOwn 0 = .ok (.aload_n 0, 1) := by decide +kernel
theorem dX11_isOwn_1 : decode cX11_isOwn 1 = .ok (.iload_n 1, 1) := by decide +kernel
theorem dX11_isOwn_2 : decode cX11_isOwn 2 = .ok (.invokevirtual 241, 3) := by decide +kernel
theorem dX11_isOwn_5 : decode cX11_isOwn 5 = .ok (.ifCond .eq 17, 3) := by decide +kernel
theorem dX11_isOwn_8 : decode cX11_isOwn 8 = .ok (.aload_n 0, 1) := by decide +kernel
theorem dX11_isOwn_9 : decode cX11_isOwn 9 = .ok (.getfield 23, 3) := by decide +kernel
theorem dX11_isOwn_12 : decode cX11_isOwn 12 = .ok (.iload_n 1, 1) := by decide +kernel
theorem dX11_isOwn_13 : decode cX11_isOwn 13 = .ok (.iaload, 1) := by decide +kernel
theorem dX11_isOwn_14 : decode cX11_isOwn 14 = .ok (.iconst 1, 1) := by decide +kernel
theorem dX11_isOwn_15 : decode cX11_isOwn 15 = .ok (.if_icmp .ne 7, 3) := by decide +kernel
theorem dX11_isOwn_18 : decode cX11_isOwn 18 = .ok (.iconst 1, 1) := by decide +kernel
theorem dX11_isOwn_19 : decode cX11_isOwn 19 = .ok (.goto 4, 3) := by decide +kernel
theorem dX11_isOwn_22 : decode cX11_isOwn 22 = .ok (.iconst 0, 1) := by decide +kernel
theorem dX11_isOwn_23 : decode cX11_isOwn 23 = .ok (.ireturn, 1) := by decide +kernel
/-- QuotientSumsModel.isOwn(I)Z -/
def wX11_isOwn (thrown : Int32) (taped : Int32) (lines : Int32) (size : Int32) (atF : Int32) (place : Int32) (sort : Int32) (value : Int32) (fault : Int32) (faultPlace : Int32) (lastFault : Int32) (lastPlace : Int32) (undoable : Int32) (hasImage : Int32) (rowOf : Int32) (areSums : Int32) (isSieved : Int32) (blocks : Int32) (drawn : Int32) (number : Nat → Int32) (sortOf : Nat → Int32) (a1 : Int32) (Q : (Int32) → Prop) : Prop :=
  (∃ (P_1 : (Int32) → Prop), wX11_isFunction thrown taped lines size atF place sort value fault faultPlace lastFault lastPlace undoable hasImage rowOf areSums isSieved blocks drawn number a1 P_1 ∧ ∀ (rF_1 : Int32), P_1 rF_1 → ((rF_1 = 0 → (Q 0)) ∧ (¬ rF_1 = 0 → (vp_in a1 24 ∧ ((¬ (sortOf a1.toNatClampNeg) = 1 → (Q 0)) ∧ ((sortOf a1.toNatClampNeg) = 1 → (Q 1)))))))
set_option maxHeartbeats 4000000 in
set_option maxRecDepth 100000 in
theorem mX11_isOwn (l : Launch) (D : va_G) (Y : Nat → ClassId) (h0 : Nat) (thrown : Int32) (v_tape : Value) (taped : Int32) (q_number : Nat) (v_isTold : Value) (v_name : Value) (q_sortOf : Nat) (v_first : Value) (v_second : Value) (v_degree : Value) (v_colours : Value) (v_signBy : Value) (v_own : Value) (lines : Int32) (size : Int32) (atF : Int32) (place : Int32) (sort : Int32) (value : Int32) (fault : Int32) (faultPlace : Int32) (lastFault : Int32) (lastPlace : Int32) (v_sF : Value) (v_kept : Value) (undoable : Int32) (hasImage : Int32) (v_power : Value) (v_table : Value) (v_marks : Value) (v_row : Value) (rowOf : Int32) (areSums : Int32) (isSieved : Int32) (v_lastOf : Value) (blocks : Int32) (v_inBlock : Value) (v_atQuotient : Value) (v_small : Value) (drawn : Int32) (number : Nat → Int32) (sortOf : Nat → Int32) (a1 : Int32) (Q : (Int32) → Prop) (h : wX11_isOwn thrown taped lines size atF place sort value fault faultPlace lastFault lastPlace undoable hasImage rowOf areSums isSieved blocks drawn number sortOf a1 Q) : gM l D Y yX11_isOwn cX11_isOwn 2 (some .boolean) 2 41 0 0 [.ref h0, .int a1] [oX11 h0 thrown (v_tape) taped (.ref q_number) (v_isTold) (v_name) (.ref q_sortOf) (v_first) (v_second) (v_degree) (v_colours) (v_signBy) (v_own) lines size atF place sort value fault faultPlace lastFault lastPlace (v_sF) (v_kept) undoable hasImage (v_power) (v_table) (v_marks) (v_row) rowOf areSums isSieved (v_lastOf) blocks (v_inBlock) (v_atQuotient) (v_small) drawn, aI Y q_number 8 number, aI Y q_sortOf 24 sortOf] (fun v w => ∃ r : Int32, v = some (.int r) ∧ w = [oX11 h0 thrown (v_tape) taped (.ref q_number) (v_isTold) (v_name) (.ref q_sortOf) (v_first) (v_second) (v_degree) (v_colours) (v_signBy) (v_own) lines size atF place sort value fault faultPlace lastFault lastPlace (v_sF) (v_kept) undoable hasImage (v_power) (v_table) (v_marks) (v_row) rowOf areSums isSieved (v_lastOf) blocks (v_inBlock) (v_atQuotient) (v_small) drawn, aI Y q_number 8 number, aI Y q_sortOf 24 sortOf] ∧ Q r) := by
  refine gM_of (own := RX11) (by decide +kernel) rfl (Nat.le_of_ble_eq_true rfl) rfl (fun E C hR => ?_)
  unfold wX11_isOwn at h
  refine g_aload_n C dX11_isOwn_0 0 rfl ?_
  refine g_iload_n C dX11_isOwn_1 1 rfl ?_
  obtain ⟨P_1, hP, h⟩ := h
  refine g_callV (As := [.int a1]) (rest := []) C (mX11_isFunction l D Y h0 thrown v_tape taped q_number v_isTold v_name (.ref q_sortOf) v_first v_second v_degree v_colours v_signBy v_own lines size atF place sort value fault faultPlace lastFault lastPlace v_sF v_kept undoable hasImage v_power v_table v_marks v_row rowOf areSums isSieved v_lastOf blocks v_inBlock v_atQuotient v_small drawn number a1 P_1 hP) dX11_isOwn_2 rfl wM_X11_241 wI_X11_isFunction wV_X11_isFunction wN_X11 wC_X11_isFunction (n := 1) (by decide +kernel) rfl (q0 := 0) rfl rfl ⟨Nat.le_of_ble_eq_true rfl, Nat.le_of_ble_eq_true rfl⟩ ⟨Nat.le_of_ble_eq_true rfl, Nat.le_of_ble_eq_true rfl⟩ (Nat.le_of_ble_eq_true rfl) [0, 1] [2] rfl rfl rfl (fun v wc hv => ?_)
  obtain ⟨rF_1, rfl, rfl, hq⟩ := hv
  replace h := h rF_1 hq
  refine gG.perm (ws' := [oX11 h0 thrown (v_tape) taped (.ref q_number) (v_isTold) (v_name) (.ref q_sortOf) (v_first) (v_second) (v_degree) (v_colours) (v_signBy) (v_own) lines size atF place sort value fault faultPlace lastFault lastPlace (v_sF) (v_kept) undoable hasImage (v_power) (v_table) (v_marks) (v_row) rowOf areSums isSieved (v_lastOf) blocks (v_inBlock) (v_atQuotient) (v_small) drawn, aI Y q_number 8 number, aI Y q_sortOf 24 sortOf]) [1, 2, 0] rfl rfl ?_
  refine g_if_eq (tgt := 22) C dX11_isOwn_5 (by decide) (fun c_1 => ?_) (fun c_1 => ?_)
  · replace h := h.1 c_1
    refine g_iconst (v := 0) C dX11_isOwn_22 rfl ?_
    exact g_zret C hR (by decide) (Nat.le_of_ble_eq_true rfl) (Nat.le_of_ble_eq_true rfl) dX11_isOwn_23 ⟨0, rfl, rfl, h⟩
  · replace h := h.2 c_1
    refine g_aload_n C dX11_isOwn_8 0 rfl ?_
    refine g_get C inX11 0 rfl rfl 6 (by decide) wF_X11_23 rfl dX11_isOwn_9 ?_
    refine g_iload_n C dX11_isOwn_12 1 rfl ?_
    obtain ⟨hc_1, h⟩ := h
    refine g_iald C 2 rfl hc_1 dX11_isOwn_13 ?_
    refine g_iconst (v := 1) C dX11_isOwn_14 rfl ?_
    refine g_icmp_ne (tgt := 22) C dX11_isOwn_15 (by decide) (fun c_2 => ?_) (fun c_2 => ?_)
    · replace h := h.1 c_2
      refine g_iconst (v := 0) C dX11_isOwn_22 rfl ?_
      exact g_zret C hR (by decide) (Nat.le_of_ble_eq_true rfl) (Nat.le_of_ble_eq_true rfl) dX11_isOwn_23 ⟨0, rfl, rfl, h⟩
    · replace h := h.2 c_2
      refine g_iconst (v := 1) C dX11_isOwn_18 rfl ?_
      refine g_goto (tgt := 23) C dX11_isOwn_19 (by decide) ?_
      exact g_zret C hR (by decide) (Nat.le_of_ble_eq_true rfl) (Nat.le_of_ble_eq_true rfl) dX11_isOwn_23 ⟨1, rfl, rfl, h⟩
theorem dX11_told_0 : decode cX11_told 0 = .ok (.aload_n 0, 1) := by decide +kernel
theorem dX11_told_1 : decode cX11_told 1 = .ok (.iconst 0, 1) := by decide +kernel
theorem dX11_told_2 : decode cX11_told 2 = .ok (.putfield 89, 3) := by decide +kernel
theorem dX11_told_5 : decode cX11_told 5 = .ok (.aload_n 0, 1) := by decide +kernel
theorem dX11_told_6 : decode cX11_told 6 = .ok (.iload_n 1, 1) := by decide +kernel
theorem dX11_told_7 : decode cX11_told 7 = .ok (.invokevirtual 244, 3) := by decide +kernel
theorem dX11_told_10 : decode cX11_told 10 = .ok (.ifCond .eq 44, 3) := by decide +kernel
theorem dX11_told_13 : decode cX11_told 13 = .ok (.iload_n 2, 1) := by decide +kernel
theorem dX11_told_14 : decode cX11_told 14 = .ok (.iconst 1, 1) := by decide +kernel
theorem dX11_told_15 : decode cX11_told 15 = .ok (.bipush 6, 2) := by decide +kernel
theorem dX11_told_17 : decode cX11_told 17 = .ok (.invokestatic 247, 3) := by decide +kernel
theorem dX11_told_20 : decode cX11_told 20 = .ok (.ifCond .eq 34, 3) := by decide +kernel
theorem dX11_told_23 : decode cX11_told 23 = .ok (.aload_n 0, 1) := by decide +kernel
theorem dX11_told_24 : decode cX11_told 24 = .ok (.getfield 48, 3) := by decide +kernel
theorem dX11_told_27 : decode cX11_told 27 = .ok (.iconst 2, 1) := by decide +kernel
theorem dX11_told_28 : decode cX11_told 28 = .ok (.bipush 12, 2) := by decide +kernel
theorem dX11_told_30 : decode cX11_told 30 = .ok (.iload_n 1, 1) := by decide +kernel
theorem dX11_told_31 : decode cX11_told 31 = .ok (.bipush 6, 2) := by decide +kernel
theorem dX11_told_33 : decode cX11_told 33 = .ok (.isub, 1) := by decide +kernel
theorem dX11_told_34 : decode cX11_told 34 = .ok (.imul, 1) := by decide +kernel
theorem dX11_told_35 : decode cX11_told 35 = .ok (.iadd, 1) := by decide +kernel
theorem dX11_told_36 : decode cX11_told 36 = .ok (.iconst 2, 1) := by decide +kernel
theorem dX11_told_37 : decode cX11_told 37 = .ok (.iload_n 2, 1) := by decide +kernel
theorem dX11_told_38 : decode cX11_told 38 = .ok (.imul, 1) := by decide +kernel
theorem dX11_told_39 : decode cX11_told 39 = .ok (.iadd, 1) := by decide +kernel
theorem dX11_told_40 : decode cX11_told 40 = .ok (.iload_n 3, 1) := by decide +kernel
theorem dX11_told_41 : decode cX11_told 41 = .ok (.ifCond .eq 7, 3) := by decide +kernel
theorem dX11_told_44 : decode cX11_told 44 = .ok (.iconst 1, 1) := by decide +kernel
theorem dX11_told_45 : decode cX11_told 45 = .ok (.goto 4, 3) := by decide +kernel
theorem dX11_told_48 : decode cX11_told 48 = .ok (.iconst 2, 1) := by decide +kernel
theorem dX11_told_49 : decode cX11_told 49 = .ok (.isub, 1) := by decide +kernel
theorem dX11_told_50 : decode cX11_told 50 = .ok (.iaload, 1) := by decide +kernel
theorem dX11_told_51 : decode cX11_told 51 = .ok (.goto 6, 3) := by decide +kernel
theorem dX11_told_54 : decode cX11_told 54 = .ok (.sipush (-1000), 3) := by decide +kernel
theorem dX11_told_57 : decode cX11_told 57 = .ok (.ireturn, 1) := by decide +kernel
/-- QuotientSumsModel.told(IIZ)I -/
def wX11_told (thrown : Int32) (taped : Int32) (lines : Int32) (size : Int32) (atF : Int32) (place : Int32) (sort : Int32) (value : Int32) (fault : Int32) (faultPlace : Int32) (lastFault : Int32) (lastPlace : Int32) (undoable : Int32) (hasImage : Int32) (rowOf : Int32) (areSums : Int32) (isSieved : Int32) (blocks : Int32) (drawn : Int32) (number : Nat → Int32) (sortOf : Nat → Int32) (sF : Nat → Int32) (a1 : Int32) (a2 : Int32) (a3 : Int32) (Q : (Int32) → (Int32) → Prop) : Prop :=
  (∃ (P_1 : (Int32) → Prop), wX11_isOwn 0 taped lines size atF place sort value fault faultPlace lastFault lastPlace undoable hasImage rowOf areSums isSieved blocks drawn number sortOf a1 P_1 ∧ ∀ (rF_1 : Int32), P_1 rF_1 → ((rF_1 = 0 → (Q (-1000) 0)) ∧ (¬ rF_1 = 0 → (∃ (P_2 : (Int32) → Prop), wX11_within a2 1 6 P_2 ∧ ∀ (rF_2 : Int32), P_2 rF_2 → ((rF_2 = 0 → (Q (-1000) 0)) ∧ (¬ rF_2 = 0 → ((a3 = 0 → (vp_in (((2 + (12 * (a1 - 6))) + (2 * a2)) - 2) 74 ∧ (Q (sF (((2 + (12 * (a1 - 6))) + (2 * a2)) - 2).toNatClampNeg) 0))) ∧ (¬ a3 = 0 → (vp_in (((2 + (12 * (a1 - 6))) + (2 * a2)) - 1) 74 ∧ (Q (sF (((2 + (12 * (a1 - 6))) + (2 * a2)) - 1).toNatClampNeg) 0))))))))))
set_option maxHeartbeats 4000000 in
set_option maxRecDepth 100000 in
theorem mX11_told (l : Launch) (D : va_G) (Y : Nat → ClassId) (h0 : Nat) (thrown : Int32) (v_tape : Value) (taped : Int32) (q_number : Nat) (v_isTold : Value) (v_name : Value) (q_sortOf : Nat) (v_first : Value) (v_second : Value) (v_degree : Value) (v_colours : Value) (v_signBy : Value) (v_own : Value) (lines : Int32) (size : Int32) (atF : Int32) (place : Int32) (sort : Int32) (value : Int32) (fault : Int32) (faultPlace : Int32) (lastFault : Int32) (lastPlace : Int32) (q_sF : Nat) (v_kept : Value) (undoable : Int32) (hasImage : Int32) (v_power : Value) (v_table : Value) (v_marks : Value) (v_row : Value) (rowOf : Int32) (areSums : Int32) (isSieved : Int32) (v_lastOf : Value) (blocks : Int32) (v_inBlock : Value) (v_atQuotient : Value) (v_small : Value) (drawn : Int32) (number : Nat → Int32) (sortOf : Nat → Int32) (sF : Nat → Int32) (a1 : Int32) (a2 : Int32) (a3 : Int32) (Q : (Int32) → (Int32) → Prop) (h : wX11_told thrown taped lines size atF place sort value fault faultPlace lastFault lastPlace undoable hasImage rowOf areSums isSieved blocks drawn number sortOf sF a1 a2 a3 Q) : gM l D Y yX11_told cX11_told 4 (some .int) 3 62 0 0 [.ref h0, .int a1, .int a2, .int a3] [oX11 h0 thrown (v_tape) taped (.ref q_number) (v_isTold) (v_name) (.ref q_sortOf) (v_first) (v_second) (v_degree) (v_colours) (v_signBy) (v_own) lines size atF place sort value fault faultPlace lastFault lastPlace (.ref q_sF) (v_kept) undoable hasImage (v_power) (v_table) (v_marks) (v_row) rowOf areSums isSieved (v_lastOf) blocks (v_inBlock) (v_atQuotient) (v_small) drawn, aI Y q_number 8 number, aI Y q_sortOf 24 sortOf, aI Y q_sF 74 sF] (fun v w => ∃ r : Int32, ∃ thrown' : Int32, v = some (.int r) ∧ w = [oX11 h0 thrown' (v_tape) taped (.ref q_number) (v_isTold) (v_name) (.ref q_sortOf) (v_first) (v_second) (v_degree) (v_colours) (v_signBy) (v_own) lines size atF place sort value fault faultPlace lastFault lastPlace (.ref q_sF) (v_kept) undoable hasImage (v_power) (v_table) (v_marks) (v_row) rowOf areSums isSieved (v_lastOf) blocks (v_inBlock) (v_atQuotient) (v_small) drawn, aI Y q_number 8 number, aI Y q_sortOf 24 sortOf, aI Y q_sF 74 sF] ∧ Q r thrown') := by
  refine gM_of (own := RX11) (by decide +kernel) rfl (Nat.le_of_ble_eq_true rfl) rfl (fun E C hR => ?_)
  unfold wX11_told at h
  refine g_aload_n C dX11_told_0 0 rfl ?_
  refine g_iconst (v := 0) C dX11_told_1 rfl ?_
  refine g_put C inX11 tyX11 tyX11_ok nmX11 0 rfl rfl 0 (by decide) wF_X11_89 rfl rfl rfl (Nat.le_of_ble_eq_true rfl) (ws' := [oX11 h0 0 (v_tape) taped (.ref q_number) (v_isTold) (v_name) (.ref q_sortOf) (v_first) (v_second) (v_degree) (v_colours) (v_signBy) (v_own) lines size atF place sort value fault faultPlace lastFault lastPlace (.ref q_sF) (v_kept) undoable hasImage (v_power) (v_table) (v_marks) (v_row) rowOf areSums isSieved (v_lastOf) blocks (v_inBlock) (v_atQuotient) (v_small) drawn, aI Y q_number 8 number, aI Y q_sortOf 24 sortOf, aI Y q_sF 74 sF]) rfl dX11_told_2 ?_
  refine g_aload_n C dX11_told_5 0 rfl ?_
  refine g_iload_n C dX11_told_6 1 rfl ?_
  obtain ⟨P_1, hP, h⟩ := h
  refine g_callV (As := [.int a1]) (rest := []) C (mX11_isOwn l D Y h0 0 v_tape taped q_number v_isTold v_name q_sortOf v_first v_second v_degree v_colours v_signBy v_own lines size atF place sort value fault faultPlace lastFault lastPlace (.ref q_sF) v_kept undoable hasImage v_power v_table v_marks v_row rowOf areSums isSieved v_lastOf blocks v_inBlock v_atQuotient v_small drawn number sortOf a1 P_1 hP) dX11_told_7 rfl wM_X11_244 wI_X11_isOwn wV_X11_isOwn wN_X11 wC_X11_isOwn (n := 1) (by decide +kernel) rfl (q0 := 0) rfl rfl ⟨Nat.le_of_ble_eq_true rfl, Nat.le_of_ble_eq_true rfl⟩ ⟨Nat.le_of_ble_eq_true rfl, Nat.le_of_ble_eq_true rfl⟩ (Nat.le_of_ble_eq_true rfl) [0, 1, 2] [3] rfl rfl rfl (fun v wc hv => ?_)
  obtain ⟨rF_1, rfl, rfl, hq⟩ := hv
  replace h := h rF_1 hq
  refine gG.perm (ws' := [oX11 h0 0 (v_tape) taped (.ref q_number) (v_isTold) (v_name) (.ref q_sortOf) (v_first) (v_second) (v_degree) (v_colours) (v_signBy) (v_own) lines size atF place sort value fault faultPlace lastFault lastPlace (.ref q_sF) (v_kept) undoable hasImage (v_power) (v_table) (v_marks) (v_row) rowOf areSums isSieved (v_lastOf) blocks (v_inBlock) (v_atQuotient) (v_small) drawn, aI Y q_number 8 number, aI Y q_sortOf 24 sortOf, aI Y q_sF 74 sF]) [1, 2, 3, 0] rfl rfl ?_
  refine g_if_eq (tgt := 54) C dX11_told_10 (by decide) (fun c_1 => ?_) (fun c_1 => ?_)
  · replace h := h.1 c_1
    refine g_sipush (v := (-1000)) C dX11_told_54 rfl ?_
    exact g_iret C hR (Nat.le_of_ble_eq_true rfl) (Nat.le_of_ble_eq_true rfl) dX11_told_57 ⟨(-1000), 0, rfl, rfl, h⟩
  · replace h := h.2 c_1
    refine g_iload_n C dX11_told_13 2 rfl ?_
    refine g_iconst (v := 1) C dX11_told_14 rfl ?_
    refine g_bipush (v := 6) C dX11_told_15 rfl ?_
    obtain ⟨P_2, hP, h⟩ := h
    refine g_callS (As := [.int a2, .int 1, .int 6]) (rest := []) C (mX11_within l D Y a2 1 6 P_2 hP) dX11_told_17 rfl wM_X11_247 wS_X11_within wN_X11 wC_X11_within (n := 3) (by decide +kernel) rfl ⟨Nat.le_of_ble_eq_true rfl, Nat.le_of_ble_eq_true rfl⟩ ⟨Nat.le_of_ble_eq_true rfl, Nat.le_of_ble_eq_true rfl⟩ (Nat.le_of_ble_eq_true rfl) [] [0, 1, 2, 3] rfl rfl rfl (fun v wc hv => ?_)
    obtain ⟨rF_2, rfl, rfl, hq⟩ := hv
    replace h := h rF_2 hq
    refine gG.eqw (ws' := [oX11 h0 0 (v_tape) taped (.ref q_number) (v_isTold) (v_name) (.ref q_sortOf) (v_first) (v_second) (v_degree) (v_colours) (v_signBy) (v_own) lines size atF place sort value fault faultPlace lastFault lastPlace (.ref q_sF) (v_kept) undoable hasImage (v_power) (v_table) (v_marks) (v_row) rowOf areSums isSieved (v_lastOf) blocks (v_inBlock) (v_atQuotient) (v_small) drawn, aI Y q_number 8 number, aI Y q_sortOf 24 sortOf, aI Y q_sF 74 sF]) rfl ?_
    refine g_if_eq (tgt := 54) C dX11_told_20 (by decide) (fun c_2 => ?_) (fun c_2 => ?_)
    · replace h := h.1 c_2
      refine g_sipush (v := (-1000)) C dX11_told_54 rfl ?_
      exact g_iret C hR (Nat.le_of_ble_eq_true rfl) (Nat.le_of_ble_eq_true rfl) dX11_told_57 ⟨(-1000), 0, rfl, rfl, h⟩
    · replace h := h.2 c_2
      refine g_aload_n C dX11_told_23 0 rfl ?_
      refine g_get C inX11 0 rfl rfl 23 (by decide) wF_X11_48 rfl dX11_told_24 ?_
      refine g_iconst (v := 2) C dX11_told_27 rfl ?_
      refine g_bipush (v := 12) C dX11_told_28 rfl ?_
      refine g_iload_n C dX11_told_30 1 rfl ?_
      refine g_bipush (v := 6) C dX11_told_31 rfl ?_
      refine g_isub C dX11_told_33 ?_
      refine g_imul C dX11_told_34 ?_
      refine g_iadd C dX11_told_35 ?_
      refine g_iconst (v := 2) C dX11_told_36 rfl ?_
      refine g_iload_n C dX11_told_37 2 rfl ?_
      refine g_imul C dX11_told_38 ?_
      refine g_iadd C dX11_told_39 ?_
      refine g_iload_n C dX11_told_40 3 rfl ?_
      refine g_if_eq (tgt := 48) C dX11_told_41 (by decide) (fun c_3 => ?_) (fun c_3 => ?_)
      · replace h := h.1 c_3
        refine g_iconst (v := 2) C dX11_told_48 rfl ?_
        refine g_isub C dX11_told_49 ?_
        obtain ⟨hc_1, h⟩ := h
        refine g_iald C 3 rfl hc_1 dX11_told_50 ?_
        refine g_goto (tgt := 57) C dX11_told_51 (by decide) ?_
        exact g_iret C hR (Nat.le_of_ble_eq_true rfl) (Nat.le_of_ble_eq_true rfl) dX11_told_57 ⟨sF (((2 + (12 * (a1 - 6))) + (2 * a2)) - 2).toNatClampNeg, 0, rfl, rfl, h⟩
      · replace h := h.2 c_3
        refine g_iconst (v := 1) C dX11_told_44 rfl ?_
        refine g_goto (tgt := 49) C dX11_told_45 (by decide) ?_
        refine g_isub C dX11_told_49 ?_
        obtain ⟨hc_2, h⟩ := h
        refine g_iald C 3 rfl hc_2 dX11_told_50 ?_
        refine g_goto (tgt := 57) C dX11_told_51 (by decide) ?_
        exact g_iret C hR (Nat.le_of_ble_eq_true rfl) (Nat.le_of_ble_eq_true rfl) dX11_told_57 ⟨sF (((2 + (12 * (a1 - 6))) + (2 * a2)) - 1).toNatClampNeg, 0, rfl, rfl, h⟩
