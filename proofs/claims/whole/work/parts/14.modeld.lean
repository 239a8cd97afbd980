theorem dX11_firstOf_0 : decode cX11_firstOf 0 = .ok (.iload_n 1, 1) := by decide +kernel
theorem dX11_firstOf_1 : decode cX11_firstOf 1 = .ok (.ifCond .ne 7, 3) := by decide +kernel
theorem dX11_firstOf_4 : decode cX11_firstOf 4 = .ok (.iconst 1, 1) := by decide +kernel
theorem dX11_firstOf_5 : decode cX11_firstOf 5 = .ok (.goto 13, 3) := by decide +kernel
theorem dX11_firstOf_8 : decode cX11_firstOf 8 = .ok (.aload_n 0, 1) := by decide +kernel
theorem dX11_firstOf_9 : decode cX11_firstOf 9 = .ok (.getfield 68, 3) := by decide +kernel
theorem dX11_firstOf_12 : decode cX11_firstOf 12 = .ok (.iload_n 1, 1) := by decide +kernel
theorem dX11_firstOf_13 : decode cX11_firstOf 13 = .ok (.iconst 1, 1) := by decide +kernel
theorem dX11_firstOf_14 : decode cX11_firstOf 14 = .ok (.isub, 1) := by decide +kernel
theorem dX11_firstOf_15 : decode cX11_firstOf 15 = .ok (.iaload, 1) := by decide +kernel
theorem dX11_firstOf_16 : decode cX11_firstOf 16 = .ok (.iconst 1, 1) := by decide +kernel
theorem dX11_firstOf_17 : decode cX11_firstOf 17 = .ok (.iadd, 1) := by decide +kernel
theorem dX11_firstOf_18 : decode cX11_firstOf 18 = .ok (.ireturn, 1) := by decide +kernel
/-- QuotientSumsModel.firstOf(I)I -/
def wX11_firstOf (thrown : Int32) (taped : Int32) (lines : Int32) (size : Int32) (atF : Int32) (place : Int32) (sort : Int32) (value : Int32) (fault : Int32) (faultPlace : Int32) (lastFault : Int32) (lastPlace : Int32) (undoable : Int32) (hasImage : Int32) (rowOf : Int32) (areSums : Int32) (isSieved : Int32) (blocks : Int32) (drawn : Int32) (lastOf : Nat → Int32) (a1 : Int32) (Q : (Int32) → Prop) : Prop :=
  ((¬ a1 = 0 → (vp_in (a1 - 1) 900 ∧ (Q ((lastOf (a1 - 1).toNatClampNeg) + 1)))) ∧ (a1 = 0 → (Q 1)))
set_option maxHeartbeats 4000000 in
set_option maxRecDepth 100000 in
theorem mX11_firstOf (l : Launch) (D : va_G) (Y : Nat → ClassId) (h0 : Nat) (thrown : Int32) (v_tape : Value) (taped : Int32) (v_number : Value) (v_isTold : Value) (v_name : Value) (v_sortOf : Value) (v_first : Value) (v_second : Value) (v_degree : Value) (v_colours : Value) (v_signBy : Value) (v_own : Value) (lines : Int32) (size : Int32) (atF : Int32) (place : Int32) (sort : Int32) (value : Int32) (fault : Int32) (faultPlace : Int32) (lastFault : Int32) (lastPlace : Int32) (v_sF : Value) (v_kept : Value) (undoable : Int32) (hasImage : Int32) (v_power : Value) (v_table : Value) (v_marks : Value) (v_row : Value) (rowOf : Int32) (areSums : Int32) (isSieved : Int32) (q_lastOf : Nat) (blocks : Int32) (v_inBlock : Value) (v_atQuotient : Value) (v_small : Value) (drawn : Int32) (lastOf : Nat → Int32) (a1 : Int32) (Q : (Int32) → Prop) (h : wX11_firstOf thrown taped lines size atF place sort value fault faultPlace lastFault lastPlace undoable hasImage rowOf areSums isSieved blocks drawn lastOf a1 Q) : gM l D Y yX11_firstOf cX11_firstOf 2 (some .int) 0 0 0 0 [.ref h0, .int a1] [oX11 h0 thrown (v_tape) taped (v_number) (v_isTold) (v_name) (v_sortOf) (v_first) (v_second) (v_degree) (v_colours) (v_signBy) (v_own) lines size atF place sort value fault faultPlace lastFault lastPlace (v_sF) (v_kept) undoable hasImage (v_power) (v_table) (v_marks) (v_row) rowOf areSums isSieved (.ref q_lastOf) blocks (v_inBlock) (v_atQuotient) (v_small) drawn, aI Y q_lastOf 900 lastOf] (fun v w => ∃ r : Int32, v = some (.int r) ∧ w = [oX11 h0 thrown (v_tape) taped (v_number) (v_isTold) (v_name) (v_sortOf) (v_first) (v_second) (v_degree) (v_colours) (v_signBy) (v_own) lines size atF place sort value fault faultPlace lastFault lastPlace (v_sF) (v_kept) undoable hasImage (v_power) (v_table) (v_marks) (v_row) rowOf areSums isSieved (.ref q_lastOf) blocks (v_inBlock) (v_atQuotient) (v_small) drawn, aI Y q_lastOf 900 lastOf] ∧ Q r) := by
  refine gM_of (own := RX11) (by decide +kernel) rfl (Nat.le_of_ble_eq_true rfl) rfl (fun E C hR => ?_)
  unfold wX11_firstOf at h
  refine g_iload_n C dX11_firstOf_0 1 rfl ?_
  refine g_if_ne (tgt := 8) C dX11_firstOf_1 (by decide) (fun c_1 => ?_) (fun c_1 => ?_)
  · replace h := h.1 c_1
    refine g_aload_n C dX11_firstOf_8 0 rfl ?_
    refine g_get C inX11 0 rfl rfl 34 (by decide) wF_X11_68 rfl dX11_firstOf_9 ?_
    refine g_iload_n C dX11_firstOf_12 1 rfl ?_
    refine g_iconst (v := 1) C dX11_firstOf_13 rfl ?_
    refine g_isub C dX11_firstOf_14 ?_
    obtain ⟨hc_1, h⟩ := h
    refine g_iald C 1 rfl hc_1 dX11_firstOf_15 ?_
    refine g_iconst (v := 1) C dX11_firstOf_16 rfl ?_
    refine g_iadd C dX11_firstOf_17 ?_
    exact g_iret C hR (Nat.le_of_ble_eq_true rfl) (Nat.le_of_ble_eq_true rfl) dX11_firstOf_18 ⟨(lastOf (a1 - 1).toNatClampNeg) + 1, rfl, rfl, h⟩
  · replace h := h.2 c_1
    refine g_iconst (v := 1) C dX11_firstOf_4 rfl ?_
    refine g_goto (tgt := 18) C dX11_firstOf_5 (by decide) ?_
    exact g_iret C hR (Nat.le_of_ble_eq_true rfl) (Nat.le_of_ble_eq_true rfl) dX11_firstOf_18 ⟨1, rfl, rfl, h⟩
theorem dX11_quotients_0 : decode cX11_quotients 0 = .ok (.aload_n 0, 1) := by decide +kernel
theorem dX11_quotients_1 : decode cX11_quotients 1 = .ok (.iconst 0, 1) := by decide +kernel
theorem dX11_quotients_2 : decode cX11_quotients 2 = .ok (.putfield 89, 3) := by decide +kernel
theorem dX11_quotients_5 : decode cX11_quotients 5 = .ok (.aload_n 0, 1) := by decide +kernel
theorem dX11_quotients_6 : decode cX11_quotients 6 = .ok (.iload_n 1, 1) := by decide +kernel
theorem dX11_quotients_7 : decode cX11_quotients 7 = .ok (.iconst 1, 1) := by decide +kernel
theorem dX11_quotients_8 : decode cX11_quotients 8 = .ok (.invokevirtual 282, 3) := by decide +kernel
theorem dX11_quotients_11 : decode cX11_quotients 11 = .ok (.ifCond .ne 5, 3) := by decide +kernel
theorem dX11_quotients_14 : decode cX11_quotients 14 = .ok (.iconst (-1), 1) := by decide +kernel
theorem dX11_quotients_15 : decode cX11_quotients 15 = .ok (.ireturn, 1) := by decide +kernel
theorem dX11_quotients_16 : decode cX11_quotients 16 = .ok (.aload_n 0, 1) := by decide +kernel
theorem dX11_quotients_17 : decode cX11_quotients 17 = .ok (.iload_n 1, 1) := by decide +kernel
theorem dX11_quotients_18 : decode cX11_quotients 18 = .ok (.invokevirtual 317, 3) := by decide +kernel
theorem dX11_quotients_21 : decode cX11_quotients 21 = .ok (.aload_n 0, 1) := by decide +kernel
theorem dX11_quotients_22 : decode cX11_quotients 22 = .ok (.getfield 314, 3) := by decide +kernel
theorem dX11_quotients_25 : decode cX11_quotients 25 = .ok (.ireturn, 1) := by decide +kernel
/-- QuotientSumsModel.quotients(I)I -/
def wX11_quotients (thrown : Int32) (taped : Int32) (lines : Int32) (size : Int32) (atF : Int32) (place : Int32) (sort : Int32) (value : Int32) (fault : Int32) (faultPlace : Int32) (lastFault : Int32) (lastPlace : Int32) (undoable : Int32) (hasImage : Int32) (rowOf : Int32) (areSums : Int32) (isSieved : Int32) (blocks : Int32) (drawn : Int32) (sF : Nat → Int32) (lastOf : Nat → Int32) (a1 : Int32) (Q : (Int32) → (Int32) → (Int32) → (Nat → Int32) → Prop) : Prop :=
  (∃ (P_1 : (Int32) → Prop), wX11_isIn 0 taped lines size atF place sort value fault faultPlace lastFault lastPlace undoable hasImage rowOf areSums isSieved blocks drawn sF a1 1 P_1 ∧ ∀ (rF_1 : Int32), P_1 rF_1 → ((¬ rF_1 = 0 → (∃ (P_2 : (Int32) → (Nat → Int32) → Prop), wX11_laysBlocks 0 taped lines size atF place sort value fault faultPlace lastFault lastPlace undoable hasImage rowOf areSums isSieved blocks drawn lastOf a1 P_2 ∧ ∀ (blocks_1 : Int32) (lastOf_1 : Nat → Int32), P_2 blocks_1 lastOf_1 → (Q blocks_1 0 blocks_1 lastOf_1))) ∧ (rF_1 = 0 → (Q (-1) 0 blocks lastOf))))
set_option maxHeartbeats 4000000 in
set_option maxRecDepth 100000 in
theorem mX11_quotients (l : Launch) (D : va_G) (Y : Nat → ClassId) (h0 : Nat) (thrown : Int32) (v_tape : Value) (taped : Int32) (v_number : Value) (v_isTold : Value) (v_name : Value) (v_sortOf : Value) (v_first : Value) (v_second : Value) (v_degree : Value) (v_colours : Value) (v_signBy : Value) (v_own : Value) (lines : Int32) (size : Int32) (atF : Int32) (place : Int32) (sort : Int32) (value : Int32) (fault : Int32) (faultPlace : Int32) (lastFault : Int32) (lastPlace : Int32) (q_sF : Nat) (v_kept : Value) (undoable : Int32) (hasImage : Int32) (v_power : Value) (v_table : Value) (v_marks : Value) (v_row : Value) (rowOf : Int32) (areSums : Int32) (isSieved : Int32) (q_lastOf : Nat) (blocks : Int32) (v_inBlock : Value) (v_atQuotient : Value) (v_small : Value) (drawn : Int32) (sF : Nat → Int32) (lastOf : Nat → Int32) (a1 : Int32) (Q : (Int32) → (Int32) → (Int32) → (Nat → Int32) → Prop) (h : wX11_quotients thrown taped lines size atF place sort value fault faultPlace lastFault lastPlace undoable hasImage rowOf areSums isSieved blocks drawn sF lastOf a1 Q) : gM l D Y yX11_quotients cX11_quotients 2 (some .int) 1 22 0 0 [.ref h0, .int a1] [oX11 h0 thrown (v_tape) taped (v_number) (v_isTold) (v_name) (v_sortOf) (v_first) (v_second) (v_degree) (v_colours) (v_signBy) (v_own) lines size atF place sort value fault faultPlace lastFault lastPlace (.ref q_sF) (v_kept) undoable hasImage (v_power) (v_table) (v_marks) (v_row) rowOf areSums isSieved (.ref q_lastOf) blocks (v_inBlock) (v_atQuotient) (v_small) drawn, aI Y q_sF 74 sF, aI Y q_lastOf 900 lastOf] (fun v w => ∃ r : Int32, ∃ thrown' : Int32, ∃ blocks' : Int32, ∃ lastOf' : Nat → Int32, v = some (.int r) ∧ w = [oX11 h0 thrown' (v_tape) taped (v_number) (v_isTold) (v_name) (v_sortOf) (v_first) (v_second) (v_degree) (v_colours) (v_signBy) (v_own) lines size atF place sort value fault faultPlace lastFault lastPlace (.ref q_sF) (v_kept) undoable hasImage (v_power) (v_table) (v_marks) (v_row) rowOf areSums isSieved (.ref q_lastOf) blocks' (v_inBlock) (v_atQuotient) (v_small) drawn, aI Y q_sF 74 sF, aI Y q_lastOf 900 lastOf'] ∧ Q r thrown' blocks' lastOf') := by
  refine gM_of (own := RX11) (by decide +kernel) rfl (Nat.le_of_ble_eq_true rfl) rfl (fun E C hR => ?_)
  unfold wX11_quotients at h
  refine g_aload_n C dX11_quotients_0 0 rfl ?_
  refine g_iconst (v := 0) C dX11_quotients_1 rfl ?_
  refine g_put C inX11 tyX11 tyX11_ok nmX11 0 rfl rfl 0 (by decide) wF_X11_89 rfl rfl rfl (Nat.le_of_ble_eq_true rfl) (ws' := [oX11 h0 0 (v_tape) taped (v_number) (v_isTold) (v_name) (v_sortOf) (v_first) (v_second) (v_degree) (v_colours) (v_signBy) (v_own) lines size atF place sort value fault faultPlace lastFault lastPlace (.ref q_sF) (v_kept) undoable hasImage (v_power) (v_table) (v_marks) (v_row) rowOf areSums isSieved (.ref q_lastOf) blocks (v_inBlock) (v_atQuotient) (v_small) drawn, aI Y q_sF 74 sF, aI Y q_lastOf 900 lastOf]) rfl dX11_quotients_2 ?_
  refine g_aload_n C dX11_quotients_5 0 rfl ?_
  refine g_iload_n C dX11_quotients_6 1 rfl ?_
  refine g_iconst (v := 1) C dX11_quotients_7 rfl ?_
  obtain ⟨P_1, hP, h⟩ := h
  refine g_callV (As := [.int a1, .int 1]) (rest := []) C (mX11_isIn l D Y h0 0 v_tape taped v_number v_isTold v_name v_sortOf v_first v_second v_degree v_colours v_signBy v_own lines size atF place sort value fault faultPlace lastFault lastPlace q_sF v_kept undoable hasImage v_power v_table v_marks v_row rowOf areSums isSieved (.ref q_lastOf) blocks v_inBlock v_atQuotient v_small drawn sF a1 1 P_1 hP) dX11_quotients_8 rfl wM_X11_282 wI_X11_isIn wV_X11_isIn wN_X11 wC_X11_isIn (n := 2) (by decide +kernel) rfl (q0 := 0) rfl rfl ⟨Nat.le_of_ble_eq_true rfl, Nat.le_of_ble_eq_true rfl⟩ ⟨Nat.le_of_ble_eq_true rfl, Nat.le_of_ble_eq_true rfl⟩ (Nat.le_of_ble_eq_true rfl) [0, 1] [2] rfl rfl rfl (fun v wc hv => ?_)
  obtain ⟨rF_1, rfl, rfl, hq⟩ := hv
  replace h := h rF_1 hq
  refine gG.perm (ws' := [oX11 h0 0 (v_tape) taped (v_number) (v_isTold) (v_name) (v_sortOf) (v_first) (v_second) (v_degree) (v_colours) (v_signBy) (v_own) lines size atF place sort value fault faultPlace lastFault lastPlace (.ref q_sF) (v_kept) undoable hasImage (v_power) (v_table) (v_marks) (v_row) rowOf areSums isSieved (.ref q_lastOf) blocks (v_inBlock) (v_atQuotient) (v_small) drawn, aI Y q_sF 74 sF, aI Y q_lastOf 900 lastOf]) [1, 2, 0] rfl rfl ?_
  refine g_if_ne (tgt := 16) C dX11_quotients_11 (by decide) (fun c_1 => ?_) (fun c_1 => ?_)
  · replace h := h.1 c_1
    refine g_aload_n C dX11_quotients_16 0 rfl ?_
    refine g_iload_n C dX11_quotients_17 1 rfl ?_
    obtain ⟨P_2, hP, h⟩ := h
    refine g_callV (As := [.int a1]) (rest := []) C (mX11_laysBlocks l D Y h0 0 v_tape taped v_number v_isTold v_name v_sortOf v_first v_second v_degree v_colours v_signBy v_own lines size atF place sort value fault faultPlace lastFault lastPlace (.ref q_sF) v_kept undoable hasImage v_power v_table v_marks v_row rowOf areSums isSieved q_lastOf blocks v_inBlock v_atQuotient v_small drawn lastOf a1 P_2 hP) dX11_quotients_18 rfl wM_X11_317 wI_X11_laysBlocks wV_X11_laysBlocks wN_X11 wC_X11_laysBlocks (n := 1) (by decide +kernel) rfl (q0 := 0) rfl rfl ⟨Nat.le_of_ble_eq_true rfl, Nat.le_of_ble_eq_true rfl⟩ ⟨Nat.le_of_ble_eq_true rfl, Nat.le_of_ble_eq_true rfl⟩ (Nat.le_of_ble_eq_true rfl) [0, 2] [1] rfl rfl rfl (fun v wc hv => ?_)
    obtain ⟨blocks_1, lastOf_1, rfl, rfl, hq⟩ := hv
    replace h := h blocks_1 lastOf_1 hq
    refine gG.perm (ws' := [oX11 h0 0 (v_tape) taped (v_number) (v_isTold) (v_name) (v_sortOf) (v_first) (v_second) (v_degree) (v_colours) (v_signBy) (v_own) lines size atF place sort value fault faultPlace lastFault lastPlace (.ref q_sF) (v_kept) undoable hasImage (v_power) (v_table) (v_marks) (v_row) rowOf areSums isSieved (.ref q_lastOf) blocks_1 (v_inBlock) (v_atQuotient) (v_small) drawn, aI Y q_sF 74 sF, aI Y q_lastOf 900 lastOf_1]) [1, 0, 2] rfl rfl ?_
    refine g_aload_n C dX11_quotients_21 0 rfl ?_
    refine g_get C inX11 0 rfl rfl 35 (by decide) wF_X11_314 rfl dX11_quotients_22 ?_
    exact g_iret C hR (Nat.le_of_ble_eq_true rfl) (Nat.le_of_ble_eq_true rfl) dX11_quotients_25 ⟨blocks_1, 0, blocks_1, lastOf_1, rfl, rfl, h⟩
  · replace h := h.2 c_1
    refine g_iconst (v := (-1)) C dX11_quotients_14 rfl ?_
    exact g_iret C hR (Nat.le_of_ble_eq_true rfl) (Nat.le_of_ble_eq_true rfl) dX11_quotients_15 ⟨(-1), 0, blocks, lastOf, rfl, rfl, h⟩
theorem dX11_quotient_0 : decode cX11_quotient 0 = .ok (.aload_n 0, 1) := by decide +kernel
theorem dX11_quotient_1 : decode cX11_quotient 1 = .ok (.iconst 0, 1) := by decide +kernel
theorem dX11_quotient_2 : decode cX11_quotient 2 = .ok (.putfield 89, 3) := by decide +kernel
theorem dX11_quotient_5 : decode cX11_quotient 5 = .ok (.aload_n 0, 1) := by decide +kernel
theorem dX11_quotient_6 : decode cX11_quotient 6 = .ok (.iload_n 1, 1) := by decide +kernel
theorem dX11_quotient_7 : decode cX11_quotient 7 = .ok (.iconst 1, 1) := by decide +kernel
theorem dX11_quotient_8 : decode cX11_quotient 8 = .ok (.invokevirtual 282, 3) := by decide +kernel
theorem dX11_quotient_11 : decode cX11_quotient 11 = .ok (.ifCond .eq 7, 3) := by decide +kernel
theorem dX11_quotient_14 : decode cX11_quotient 14 = .ok (.iload_n 2, 1) := by decide +kernel
theorem dX11_quotient_15 : decode cX11_quotient 15 = .ok (.ifCond .ge 5, 3) := by decide +kernel
theorem dX11_quotient_18 : decode cX11_quotient 18 = .ok (.iconst (-1), 1) := by decide +kernel
theorem dX11_quotient_19 : decode cX11_quotient 19 = .ok (.ireturn, 1) := by decide +kernel
theorem dX11_quotient_20 : decode cX11_quotient 20 = .ok (.aload_n 0, 1) := by decide +kernel
theorem dX11_quotient_21 : decode cX11_quotient 21 = .ok (.iload_n 1, 1) := by decide +kernel
theorem dX11_quotient_22 : decode cX11_quotient 22 = .ok (.invokevirtual 317, 3) := by decide +kernel
theorem dX11_quotient_25 : decode cX11_quotient 25 = .ok (.iload_n 2, 1) := by decide +kernel
theorem dX11_quotient_26 : decode cX11_quotient 26 = .ok (.aload_n 0, 1) := by decide +kernel
theorem dX11_quotient_27 : decode cX11_quotient 27 = .ok (.getfield 314, 3) := by decide +kernel
theorem dX11_quotient_30 : decode cX11_quotient 30 = .ok (.if_icmp .ge 14, 3) := by decide +kernel
theorem dX11_quotient_33 : decode cX11_quotient 33 = .ok (.iload_n 1, 1) := by decide +kernel
theorem dX11_quotient_34 : decode cX11_quotient 34 = .ok (.aload_n 0, 1) := by decide +kernel
theorem dX11_quotient_35 : decode cX11_quotient 35 = .ok (.getfield 68, 3) := by decide +kernel
theorem dX11_quotient_38 : decode cX11_quotient 38 = .ok (.iload_n 2, 1) := by decide +kernel
theorem dX11_quotient_39 : decode cX11_quotient 39 = .ok (.iaload, 1) := by decide +kernel
theorem dX11_quotient_40 : decode cX11_quotient 40 = .ok (.idiv, 1) := by decide +kernel
theorem dX11_quotient_41 : decode cX11_quotient 41 = .ok (.goto 5, 3) := by decide +kernel
theorem dX11_quotient_44 : decode cX11_quotient 44 = .ok (.bipush (-2), 2) := by decide +kernel
theorem dX11_quotient_46 : decode cX11_quotient 46 = .ok (.ireturn, 1) := by decide +kernel
/-- QuotientSumsModel.quotient(II)I -/
def wX11_quotient (thrown : Int32) (taped : Int32) (lines : Int32) (size : Int32) (atF : Int32) (place : Int32) (sort : Int32) (value : Int32) (fault : Int32) (faultPlace : Int32) (lastFault : Int32) (lastPlace : Int32) (undoable : Int32) (hasImage : Int32) (rowOf : Int32) (areSums : Int32) (isSieved : Int32) (blocks : Int32) (drawn : Int32) (sF : Nat → Int32) (lastOf : Nat → Int32) (a1 : Int32) (a2 : Int32) (Q : (Int32) → (Int32) → (Int32) → (Nat → Int32) → Prop) : Prop :=
  (∃ (P_1 : (Int32) → Prop), wX11_isIn 0 taped lines size atF place sort value fault faultPlace lastFault lastPlace undoable hasImage rowOf areSums isSieved blocks drawn sF a1 1 P_1 ∧ ∀ (rF_1 : Int32), P_1 rF_1 → ((rF_1 = 0 → (Q (-1) 0 blocks lastOf)) ∧ (¬ rF_1 = 0 → ((0 ≤ a2 → (∃ (P_2 : (Int32) → (Nat → Int32) → Prop), wX11_laysBlocks 0 taped lines size atF place sort value fault faultPlace lastFault lastPlace undoable hasImage rowOf areSums isSieved blocks drawn lastOf a1 P_2 ∧ ∀ (blocks_1 : Int32) (lastOf_1 : Nat → Int32), P_2 blocks_1 lastOf_1 → ((blocks_1 ≤ a2 → (Q (-2) 0 blocks_1 lastOf_1)) ∧ (¬ blocks_1 ≤ a2 → (vp_in a2 900 ∧ ¬ (lastOf_1 a2.toNatClampNeg) = 0 ∧ (Q (a1 / (lastOf_1 a2.toNatClampNeg)) 0 blocks_1 lastOf_1)))))) ∧ (¬ 0 ≤ a2 → (Q (-1) 0 blocks lastOf))))))
set_option maxHeartbeats 4000000 in
set_option maxRecDepth 100000 in
theorem mX11_quotient (l : Launch) (D : va_G) (Y : Nat → ClassId) (h0 : Nat) (thrown : Int32) (v_tape : Value) (taped : Int32) (v_number : Value) (v_isTold : Value) (v_name : Value) (v_sortOf : Value) (v_first : Value) (v_second : Value) (v_degree : Value) (v_colours : Value) (v_signBy : Value) (v_own : Value) (lines : Int32) (size : Int32) (atF : Int32) (place : Int32) (sort : Int32) (value : Int32) (fault : Int32) (faultPlace : Int32) (lastFault : Int32) (lastPlace : Int32) (q_sF : Nat) (v_kept : Value) (undoable : Int32) (hasImage : Int32) (v_power : Value) (v_table : Value) (v_marks : Value) (v_row : Value) (rowOf : Int32) (areSums : Int32) (isSieved : Int32) (q_lastOf : Nat) (blocks : Int32) (v_inBlock : Value) (v_atQuotient : Value) (v_small : Value) (drawn : Int32) (sF : Nat → Int32) (lastOf : Nat → Int32) (a1 : Int32) (a2 : Int32) (Q : (Int32) → (Int32) → (Int32) → (Nat → Int32) → Prop) (h : wX11_quotient thrown taped lines size atF place sort value fault faultPlace lastFault lastPlace undoable hasImage rowOf areSums isSieved blocks drawn sF lastOf a1 a2 Q) : gM l D Y yX11_quotient cX11_quotient 3 (some .int) 1 22 0 0 [.ref h0, .int a1, .int a2] [oX11 h0 thrown (v_tape) taped (v_number) (v_isTold) (v_name) (v_sortOf) (v_first) (v_second) (v_degree) (v_colours) (v_signBy) (v_own) lines size atF place sort value fault faultPlace lastFault lastPlace (.ref q_sF) (v_kept) undoable hasImage (v_power) (v_table) (v_marks) (v_row) rowOf areSums isSieved (.ref q_lastOf) blocks (v_inBlock) (v_atQuotient) (v_small) drawn, aI Y q_sF 74 sF, aI Y q_lastOf 900 lastOf] (fun v w => ∃ r : Int32, ∃ thrown' : Int32, ∃ blocks' : Int32, ∃ lastOf' : Nat → Int32, v = some (.int r) ∧ w = [oX11 h0 thrown' (v_tape) taped (v_number) (v_isTold) (v_name) (v_sortOf) (v_first) (v_second) (v_degree) (v_colours) (v_signBy) (v_own) lines size atF place sort value fault faultPlace lastFault lastPlace (.ref q_sF) (v_kept) undoable hasImage (v_power) (v_table) (v_marks) (v_row) rowOf areSums isSieved (.ref q_lastOf) blocks' (v_inBlock) (v_atQuotient) (v_small) drawn, aI Y q_sF 74 sF, aI Y q_lastOf 900 lastOf'] ∧ Q r thrown' blocks' lastOf') := by
  refine gM_of (own := RX11) (by decide +kernel) rfl (Nat.le_of_ble_eq_true rfl) rfl (fun E C hR => ?_)
  unfold wX11_quotient at h
  refine g_aload_n C dX11_quotient_0 0 rfl ?_
  refine g_iconst (v := 0) C dX11_quotient_1 rfl ?_
  refine g_put C inX11 tyX11 tyX11_ok nmX11 0 rfl rfl 0 (by decide) wF_X11_89 rfl rfl rfl (Nat.le_of_ble_eq_true rfl) (ws' := [oX11 h0 0 (v_tape) taped (v_number) (v_isTold) (v_name) (v_sortOf) (v_first) (v_second) (v_degree) (v_colours) (v_signBy) (v_own) lines size atF place sort value fault faultPlace lastFault lastPlace (.ref q_sF) (v_kept) undoable hasImage (v_power) (v_table) (v_marks) (v_row) rowOf areSums isSieved (.ref q_lastOf) blocks (v_inBlock) (v_atQuotient) (v_small) drawn, aI Y q_sF 74 sF, aI Y q_lastOf 900 lastOf]) rfl dX11_quotient_2 ?_
  refine g_aload_n C dX11_quotient_5 0 rfl ?_
  refine g_iload_n C dX11_quotient_6 1 rfl ?_
  refine g_iconst (v := 1) C dX11_quotient_7 rfl ?_
  obtain ⟨P_1, hP, h⟩ := h
  refine g_callV (As := [.int a1, .int 1]) (rest := []) C (mX11_isIn l D Y h0 0 v_tape taped v_number v_isTold v_name v_sortOf v_first v_second v_degree v_colours v_signBy v_own lines size atF place sort value fault faultPlace lastFault lastPlace q_sF v_kept undoable hasImage v_power v_table v_marks v_row rowOf areSums isSieved (.ref q_lastOf) blocks v_inBlock v_atQuotient v_small drawn sF a1 1 P_1 hP) dX11_quotient_8 rfl wM_X11_282 wI_X11_isIn wV_X11_isIn wN_X11 wC_X11_isIn (n := 2) (by decide +kernel) rfl (q0 := 0) rfl rfl ⟨Nat.le_of_ble_eq_true rfl, Nat.le_of_ble_eq_true rfl⟩ ⟨Nat.le_of_ble_eq_true rfl, Nat.le_of_ble_eq_true rfl⟩ (Nat.le_of_ble_eq_true rfl) [0, 1] [2] rfl rfl rfl (fun v wc hv => ?_)
  obtain ⟨rF_1, rfl, rfl, hq⟩ := hv
  replace h := h rF_1 hq
  refine gG.perm (ws' := [oX11 h0 0 (v_tape) taped (v_number) (v_isTold) (v_name) (v_sortOf) (v_first) (v_second) (v_degree) (v_colours) (v_signBy) (v_own) lines size atF place sort value fault faultPlace lastFault lastPlace (.ref q_sF) (v_kept) undoable hasImage (v_power) (v_table) (v_marks) (v_row) rowOf areSums isSieved (.ref q_lastOf) blocks (v_inBlock) (v_atQuotient) (v_small) drawn, aI Y q_sF 74 sF, aI Y q_lastOf 900 lastOf]) [1, 2, 0] rfl rfl ?_
  refine g_if_eq (tgt := 18) C dX11_quotient_11 (by decide) (fun c_1 => ?_) (fun c_1 => ?_)
  · replace h := h.1 c_1
    refine g_iconst (v := (-1)) C dX11_quotient_18 rfl ?_
    exact g_iret C hR (Nat.le_of_ble_eq_true rfl) (Nat.le_of_ble_eq_true rfl) dX11_quotient_19 ⟨(-1), 0, blocks, lastOf, rfl, rfl, h⟩
  · replace h := h.2 c_1
    refine g_iload_n C dX11_quotient_14 2 rfl ?_
    refine g_if_ge (tgt := 20) C dX11_quotient_15 (by decide) (fun c_2 => ?_) (fun c_2 => ?_)
    · replace h := h.1 c_2
      refine g_aload_n C dX11_quotient_20 0 rfl ?_
      refine g_iload_n C dX11_quotient_21 1 rfl ?_
      obtain ⟨P_2, hP, h⟩ := h
      refine g_callV (As := [.int a1]) (rest := []) C (mX11_laysBlocks l D Y h0 0 v_tape taped v_number v_isTold v_name v_sortOf v_first v_second v_degree v_colours v_signBy v_own lines size atF place sort value fault faultPlace lastFault lastPlace (.ref q_sF) v_kept undoable hasImage v_power v_table v_marks v_row rowOf areSums isSieved q_lastOf blocks v_inBlock v_atQuotient v_small drawn lastOf a1 P_2 hP) dX11_quotient_22 rfl wM_X11_317 wI_X11_laysBlocks wV_X11_laysBlocks wN_X11 wC_X11_laysBlocks (n := 1) (by decide +kernel) rfl (q0 := 0) rfl rfl ⟨Nat.le_of_ble_eq_true rfl, Nat.le_of_ble_eq_true rfl⟩ ⟨Nat.le_of_ble_eq_true rfl, Nat.le_of_ble_eq_true rfl⟩ (Nat.le_of_ble_eq_true rfl) [0, 2] [1] rfl rfl rfl (fun v wc hv => ?_)
      obtain ⟨blocks_1, lastOf_1, rfl, rfl, hq⟩ := hv
      replace h := h blocks_1 lastOf_1 hq
      refine gG.perm (ws' := [oX11 h0 0 (v_tape) taped (v_number) (v_isTold) (v_name) (v_sortOf) (v_first) (v_second) (v_degree) (v_colours) (v_signBy) (v_own) lines size atF place sort value fault faultPlace lastFault lastPlace (.ref q_sF) (v_kept) undoable hasImage (v_power) (v_table) (v_marks) (v_row) rowOf areSums isSieved (.ref q_lastOf) blocks_1 (v_inBlock) (v_atQuotient) (v_small) drawn, aI Y q_sF 74 sF, aI Y q_lastOf 900 lastOf_1]) [1, 0, 2] rfl rfl ?_
      refine g_iload_n C dX11_quotient_25 2 rfl ?_
      refine g_aload_n C dX11_quotient_26 0 rfl ?_
      refine g_get C inX11 0 rfl rfl 35 (by decide) wF_X11_314 rfl dX11_quotient_27 ?_
      refine g_icmp_ge (tgt := 44) C dX11_quotient_30 (by decide) (fun c_3 => ?_) (fun c_3 => ?_)
      · replace h := h.1 c_3
        refine g_bipush (v := (-2)) C dX11_quotient_44 rfl ?_
        exact g_iret C hR (Nat.le_of_ble_eq_true rfl) (Nat.le_of_ble_eq_true rfl) dX11_quotient_46 ⟨(-2), 0, blocks_1, lastOf_1, rfl, rfl, h⟩
      · replace h := h.2 c_3
        refine g_iload_n C dX11_quotient_33 1 rfl ?_
        refine g_aload_n C dX11_quotient_34 0 rfl ?_
        refine g_get C inX11 0 rfl rfl 34 (by decide) wF_X11_68 rfl dX11_quotient_35 ?_
        refine g_iload_n C dX11_quotient_38 2 rfl ?_
        obtain ⟨hc_1, h⟩ := h
        refine g_iald C 2 rfl hc_1 dX11_quotient_39 ?_
        obtain ⟨hc_2, h⟩ := h
        refine g_idiv C dX11_quotient_40 hc_2 ?_
        refine g_goto (tgt := 46) C dX11_quotient_41 (by decide) ?_
        exact g_iret C hR (Nat.le_of_ble_eq_true rfl) (Nat.le_of_ble_eq_true rfl) dX11_quotient_46 ⟨a1 / (lastOf_1 a2.toNatClampNeg), 0, blocks_1, lastOf_1, rfl, rfl, h⟩
    · replace h := h.2 c_2
      refine g_iconst (v := (-1)) C dX11_quotient_18 rfl ?_
      exact g_iret C hR (Nat.le_of_ble_eq_true rfl) (Nat.le_of_ble_eq_true rfl) dX11_quotient_19 ⟨(-1), 0, blocks, lastOf, rfl, rfl, h⟩
theorem dX11_block_0 : decode cX11_block 0 = .ok (.aload_n 0, 1) := by decide +kernel
theorem dX11_block_1 : decode cX11_block 1 = .ok (.iconst 0, 1) := by decide +kernel
theorem dX11_block_2 : decode cX11_block 2 = .ok (.putfield 89, 3) := by decide +kernel
theorem dX11_block_5 : decode cX11_block 5 = .ok (.aload_n 0, 1) := by decide +kernel
theorem dX11_block_6 : decode cX11_block 6 = .ok (.iload_n 1, 1) := by decide +kernel
theorem dX11_block_7 : decode cX11_block 7 = .ok (.iconst 1, 1) := by decide +kernel
theorem dX11_block_8 : decode cX11_block 8 = .ok (.invokevirtual 282, 3) := by decide +kernel
theorem dX11_block_11 : decode cX11_block 11 = .ok (.ifCond .eq 7, 3) := by decide +kernel
theorem dX11_block_14 : decode cX11_block 14 = .ok (.iload_n 2, 1) := by decide +kernel
theorem dX11_block_15 : decode cX11_block 15 = .ok (.ifCond .ge 5, 3) := by decide +kernel
theorem dX11_block_18 : decode cX11_block 18 = .ok (.iconst (-1), 1) := by decide +kernel
theorem dX11_block_19 : decode cX11_block 19 = .ok (.ireturn, 1) := by decide +kernel
theorem dX11_block_20 : decode cX11_block 20 = .ok (.aload_n 0, 1) := by decide +kernel
theorem dX11_block_21 : decode cX11_block 21 = .ok (.iload_n 1, 1) := by decide +kernel
theorem dX11_block_22 : decode cX11_block 22 = .ok (.invokevirtual 317, 3) := by decide +kernel
theorem dX11_block_25 : decode cX11_block 25 = .ok (.iload_n 2, 1) := by decide +kernel
theorem dX11_block_26 : decode cX11_block 26 = .ok (.aload_n 0, 1) := by decide +kernel
theorem dX11_block_27 : decode cX11_block 27 = .ok (.getfield 314, 3) := by decide +kernel
theorem dX11_block_30 : decode cX11_block 30 = .ok (.if_icmp .lt 8, 3) := by decide +kernel
theorem dX11_block_33 : decode cX11_block 33 = .ok (.bipush (-2), 2) := by decide +kernel
theorem dX11_block_35 : decode cX11_block 35 = .ok (.goto 21, 3) := by decide +kernel
theorem dX11_block_38 : decode cX11_block 38 = .ok (.iload_n 3, 1) := by decide +kernel
theorem dX11_block_39 : decode cX11_block 39 = .ok (.ifCond .eq 12, 3) := by decide +kernel
theorem dX11_block_42 : decode cX11_block 42 = .ok (.aload_n 0, 1) := by decide +kernel
theorem dX11_block_43 : decode cX11_block 43 = .ok (.getfield 68, 3) := by decide +kernel
theorem dX11_block_46 : decode cX11_block 46 = .ok (.iload_n 2, 1) := by decide +kernel
theorem dX11_block_47 : decode cX11_block 47 = .ok (.iaload, 1) := by decide +kernel
theorem dX11_block_48 : decode cX11_block 48 = .ok (.goto 8, 3) := by decide +kernel
theorem dX11_block_51 : decode cX11_block 51 = .ok (.aload_n 0, 1) := by decide +kernel
theorem dX11_block_52 : decode cX11_block 52 = .ok (.iload_n 2, 1) := by decide +kernel
theorem dX11_block_53 : decode cX11_block 53 = .ok (.invokevirtual 320, 3) := by decide +kernel
theorem dX11_block_56 : decode cX11_block 56 = .ok (.ireturn, 1) := by decide +kernel
/-- QuotientSumsModel.block(IIZ)I -/
def wX11_block (thrown : Int32) (taped : Int32) (lines : Int32) (size : Int32) (atF : Int32) (place : Int32) (sort : Int32) (value : Int32) (fault : Int32) (faultPlace : Int32) (lastFault : Int32) (lastPlace : Int32) (undoable : Int32) (hasImage : Int32) (rowOf : Int32) (areSums : Int32) (isSieved : Int32) (blocks : Int32) (drawn : Int32) (sF : Nat → Int32) (lastOf : Nat → Int32) (a1 : Int32) (a2 : Int32) (a3 : Int32) (Q : (Int32) → (Int32) → (Int32) → (Nat → Int32) → Prop) : Prop :=
  (∃ (P_1 : (Int32) → Prop), wX11_isIn 0 taped lines size atF place sort value fault faultPlace lastFault lastPlace undoable hasImage rowOf areSums isSieved blocks drawn sF a1 1 P_1 ∧ ∀ (rF_1 : Int32), P_1 rF_1 → ((rF_1 = 0 → (Q (-1) 0 blocks lastOf)) ∧ (¬ rF_1 = 0 → ((0 ≤ a2 → (∃ (P_2 : (Int32) → (Nat → Int32) → Prop), wX11_laysBlocks 0 taped lines size atF place sort value fault faultPlace lastFault lastPlace undoable hasImage rowOf areSums isSieved blocks drawn lastOf a1 P_2 ∧ ∀ (blocks_1 : Int32) (lastOf_1 : Nat → Int32), P_2 blocks_1 lastOf_1 → ((a2 < blocks_1 → ((a3 = 0 → (∃ (P_3 : (Int32) → Prop), wX11_firstOf 0 taped lines size atF place sort value fault faultPlace lastFault lastPlace undoable hasImage rowOf areSums isSieved blocks_1 drawn lastOf_1 a2 P_3 ∧ ∀ (rF_2 : Int32), P_3 rF_2 → (Q rF_2 0 blocks_1 lastOf_1))) ∧ (¬ a3 = 0 → (vp_in a2 900 ∧ (Q (lastOf_1 a2.toNatClampNeg) 0 blocks_1 lastOf_1))))) ∧ (¬ a2 < blocks_1 → (Q (-2) 0 blocks_1 lastOf_1))))) ∧ (¬ 0 ≤ a2 → (Q (-1) 0 blocks lastOf))))))
set_option maxHeartbeats 4000000 in
set_option maxRecDepth 100000 in
theorem mX11_block (l : Launch) (D : va_G) (Y : Nat → ClassId) (h0 : Nat) (thrown : Int32) (v_tape : Value) (taped : Int32) (v_number : Value) (v_isTold : Value) (v_name : Value) (v_sortOf : Value) (v_first : Value) (v_second : Value) (v_degree : Value) (v_colours : Value) (v_signBy : Value) (v_own : Value) (lines : Int32) (size : Int32) (atF : Int32) (place : Int32) (sort : Int32) (value : Int32) (fault : Int32) (faultPlace : Int32) (lastFault : Int32) (lastPlace : Int32) (q_sF : Nat) (v_kept : Value) (undoable : Int32) (hasImage : Int32) (v_power : Value) (v_table : Value) (v_marks : Value) (v_row : Value) (rowOf : Int32) (areSums : Int32) (isSieved : Int32) (q_lastOf : Nat) (blocks : Int32) (v_inBlock : Value) (v_atQuotient : Value) (v_small : Value) (drawn : Int32) (sF : Nat → Int32) (lastOf : Nat → Int32) (a1 : Int32) (a2 : Int32) (a3 : Int32) (Q : (Int32) → (Int32) → (Int32) → (Nat → Int32) → Prop) (h : wX11_block thrown taped lines size atF place sort value fault faultPlace lastFault lastPlace undoable hasImage rowOf areSums isSieved blocks drawn sF lastOf a1 a2 a3 Q) : gM l D Y yX11_block cX11_block 4 (some .int) 1 22 0 0 [.ref h0, .int a1, .int a2, .int a3] [oX11 h0 thrown (v_tape) taped (v_number) (v_isTold) (v_name) (v_sortOf) (v_first) (v_second) (v_degree) (v_colours) (v_signBy) (v_own) lines size atF place sort value fault faultPlace lastFault lastPlace (.ref q_sF) (v_kept) undoable hasImage (v_power) (v_table) (v_marks) (v_row) rowOf areSums isSieved (.ref q_lastOf) blocks (v_inBlock) (v_atQuotient) (v_small) drawn, aI Y q_sF 74 sF, aI Y q_lastOf 900 lastOf] (fun v w => ∃ r : Int32, ∃ thrown' : Int32, ∃ blocks' : Int32, ∃ lastOf' : Nat → Int32, v = some (.int r) ∧ w = [oX11 h0 thrown' (v_tape) taped (v_number) (v_isTold) (v_name) (v_sortOf) (v_first) (v_second) (v_degree) (v_colours) (v_signBy) (v_own) lines size atF place sort value fault faultPlace lastFault lastPlace (.ref q_sF) (v_kept) undoable hasImage (v_power) (v_table) (v_marks) (v_row) rowOf areSums isSieved (.ref q_lastOf) blocks' (v_inBlock) (v_atQuotient) (v_small) drawn, aI Y q_sF 74 sF, aI Y q_lastOf 900 lastOf'] ∧ Q r thrown' blocks' lastOf') := by
  refine gM_of (own := RX11) (by decide +kernel) rfl (Nat.le_of_ble_eq_true rfl) rfl (fun E C hR => ?_)
  unfold wX11_block at h
  refine g_aload_n C dX11_block_0 0 rfl ?_
  refine g_iconst (v := 0) C dX11_block_1 rfl ?_
  refine g_put C inX11 tyX11 tyX11_ok nmX11 0 rfl rfl 0 (by decide) wF_X11_89 rfl rfl rfl (Nat.le_of_ble_eq_true rfl) (ws' := [oX11 h0 0 (v_tape) taped (v_number) (v_isTold) (v_name) (v_sortOf) (v_first) (v_second) (v_degree) (v_colours) (v_signBy) (v_own) lines size atF place sort value fault faultPlace lastFault lastPlace (.ref q_sF) (v_kept) undoable hasImage (v_power) (v_table) (v_marks) (v_row) rowOf areSums isSieved (.ref q_lastOf) blocks (v_inBlock) (v_atQuotient) (v_small) drawn, aI Y q_sF 74 sF, aI Y q_lastOf 900 lastOf]) rfl dX11_block_2 ?_
  refine g_aload_n C dX11_block_5 0 rfl ?_
  refine g_iload_n C dX11_block_6 1 rfl ?_
  refine g_iconst (v := 1) C dX11_block_7 rfl ?_
  obtain ⟨P_1, hP, h⟩ := h
  refine g_callV (As := [.int a1, .int 1]) (rest := []) C (mX11_isIn l D Y h0 0 v_tape taped v_number v_isTold v_name v_sortOf v_first v_second v_degree v_colours v_signBy v_own lines size atF place sort value fault faultPlace lastFault lastPlace q_sF v_kept undoable hasImage v_power v_table v_marks v_row rowOf areSums isSieved (.ref q_lastOf) blocks v_inBlock v_atQuotient v_small drawn sF a1 1 P_1 hP) dX11_block_8 rfl wM_X11_282 wI_X11_isIn wV_X11_isIn wN_X11 wC_X11_isIn (n := 2) (by decide +kernel) rfl (q0 := 0) rfl rfl ⟨Nat.le_of_ble_eq_true rfl, Nat.le_of_ble_eq_true rfl⟩ ⟨Nat.le_of_ble_eq_true rfl, Nat.le_of_ble_eq_true rfl⟩ (Nat.le_of_ble_eq_true rfl) [0, 1] [2] rfl rfl rfl (fun v wc hv => ?_)
  obtain ⟨rF_1, rfl, rfl, hq⟩ := hv
  replace h := h rF_1 hq
  refine gG.perm (ws' := [oX11 h0 0 (v_tape) taped (v_number) (v_isTold) (v_name) (v_sortOf) (v_first) (v_second) (v_degree) (v_colours) (v_signBy) (v_own) lines size atF place sort value fault faultPlace lastFault lastPlace (.ref q_sF) (v_kept) undoable hasImage (v_power) (v_table) (v_marks) (v_row) rowOf areSums isSieved (.ref q_lastOf) blocks (v_inBlock) (v_atQuotient) (v_small) drawn, aI Y q_sF 74 sF, aI Y q_lastOf 900 lastOf]) [1, 2, 0] rfl rfl ?_
  refine g_if_eq (tgt := 18) C dX11_block_11 (by decide) (fun c_1 => ?_) (fun c_1 => ?_)
  · replace h := h.1 c_1
    refine g_iconst (v := (-1)) C dX11_block_18 rfl ?_
    exact g_iret C hR (Nat.le_of_ble_eq_true rfl) (Nat.le_of_ble_eq_true rfl) dX11_block_19 ⟨(-1), 0, blocks, lastOf, rfl, rfl, h⟩
  · replace h := h.2 c_1
    refine g_iload_n C dX11_block_14 2 rfl ?_
    refine g_if_ge (tgt := 20) C dX11_block_15 (by decide) (fun c_2 => ?_) (fun c_2 => ?_)
    · replace h := h.1 c_2
      refine g_aload_n C dX11_block_20 0 rfl ?_
      refine g_iload_n C dX11_block_21 1 rfl ?_
      obtain ⟨P_2, hP, h⟩ := h
      refine g_callV (As := [.int a1]) (rest := []) C (mX11_laysBlocks l D Y h0 0 v_tape taped v_number v_isTold v_name v_sortOf v_first v_second v_degree v_colours v_signBy v_own lines size atF place sort value fault faultPlace lastFault lastPlace (.ref q_sF) v_kept undoable hasImage v_power v_table v_marks v_row rowOf areSums isSieved q_lastOf blocks v_inBlock v_atQuotient v_small drawn lastOf a1 P_2 hP) dX11_block_22 rfl wM_X11_317 wI_X11_laysBlocks wV_X11_laysBlocks wN_X11 wC_X11_laysBlocks (n := 1) (by decide +kernel) rfl (q0 := 0) rfl rfl ⟨Nat.le_of_ble_eq_true rfl, Nat.le_of_ble_eq_true rfl⟩ ⟨Nat.le_of_ble_eq_true rfl, Nat.le_of_ble_eq_true rfl⟩ (Nat.le_of_ble_eq_true rfl) [0, 2] [1] rfl rfl rfl (fun v wc hv => ?_)
      obtain ⟨blocks_1, lastOf_1, rfl, rfl, hq⟩ := hv
      replace h := h blocks_1 lastOf_1 hq
      refine gG.perm (ws' := [oX11 h0 0 (v_tape) taped (v_number) (v_isTold) (v_name) (v_sortOf) (v_first) (v_second) (v_degree) (v_colours) (v_signBy) (v_own) lines size atF place sort value fault faultPlace lastFault lastPlace (.ref q_sF) (v_kept) undoable hasImage (v_power) (v_table) (v_marks) (v_row) rowOf areSums isSieved (.ref q_lastOf) blocks_1 (v_inBlock) (v_atQuotient) (v_small) drawn, aI Y q_sF 74 sF, aI Y q_lastOf 900 lastOf_1]) [1, 0, 2] rfl rfl ?_
      refine g_iload_n C dX11_block_25 2 rfl ?_
      refine g_aload_n C dX11_block_26 0 rfl ?_
      refine g_get C inX11 0 rfl rfl 35 (by decide) wF_X11_314 rfl dX11_block_27 ?_
      refine g_icmp_lt (tgt := 38) C dX11_block_30 (by decide) (fun c_3 => ?_) (fun c_3 => ?_)
      · replace h := h.1 c_3
        refine g_iload_n C dX11_block_38 3 rfl ?_
        refine g_if_eq (tgt := 51) C dX11_block_39 (by decide) (fun c_4 => ?_) (fun c_4 => ?_)
        · replace h := h.1 c_4
          refine g_aload_n C dX11_block_51 0 rfl ?_
          refine g_iload_n C dX11_block_52 2 rfl ?_
          obtain ⟨P_3, hP, h⟩ := h
          refine g_callV (As := [.int a2]) (rest := []) C (mX11_firstOf l D Y h0 0 v_tape taped v_number v_isTold v_name v_sortOf v_first v_second v_degree v_colours v_signBy v_own lines size atF place sort value fault faultPlace lastFault lastPlace (.ref q_sF) v_kept undoable hasImage v_power v_table v_marks v_row rowOf areSums isSieved q_lastOf blocks_1 v_inBlock v_atQuotient v_small drawn lastOf_1 a2 P_3 hP) dX11_block_53 rfl wM_X11_320 wI_X11_firstOf wV_X11_firstOf wN_X11 wC_X11_firstOf (n := 1) (by decide +kernel) rfl (q0 := 0) rfl rfl ⟨Nat.le_of_ble_eq_true rfl, Nat.le_of_ble_eq_true rfl⟩ ⟨Nat.le_of_ble_eq_true rfl, Nat.le_of_ble_eq_true rfl⟩ (Nat.le_of_ble_eq_true rfl) [0, 2] [1] rfl rfl rfl (fun v wc hv => ?_)
          obtain ⟨rF_2, rfl, rfl, hq⟩ := hv
          replace h := h rF_2 hq
          refine gG.perm (ws' := [oX11 h0 0 (v_tape) taped (v_number) (v_isTold) (v_name) (v_sortOf) (v_first) (v_second) (v_degree) (v_colours) (v_signBy) (v_own) lines size atF place sort value fault faultPlace lastFault lastPlace (.ref q_sF) (v_kept) undoable hasImage (v_power) (v_table) (v_marks) (v_row) rowOf areSums isSieved (.ref q_lastOf) blocks_1 (v_inBlock) (v_atQuotient) (v_small) drawn, aI Y q_sF 74 sF, aI Y q_lastOf 900 lastOf_1]) [1, 0, 2] rfl rfl ?_
          exact g_iret C hR (Nat.le_of_ble_eq_true rfl) (Nat.le_of_ble_eq_true rfl) dX11_block_56 ⟨rF_2, 0, blocks_1, lastOf_1, rfl, rfl, h⟩
        · replace h := h.2 c_4
          refine g_aload_n C dX11_block_42 0 rfl ?_
          refine g_get C inX11 0 rfl rfl 34 (by decide) wF_X11_68 rfl dX11_block_43 ?_
          refine g_iload_n C dX11_block_46 2 rfl ?_
          obtain ⟨hc_1, h⟩ := h
          refine g_iald C 2 rfl hc_1 dX11_block_47 ?_
          refine g_goto (tgt := 56) C dX11_block_48 (by decide) ?_
          exact g_iret C hR (Nat.le_of_ble_eq_true rfl) (Nat.le_of_ble_eq_true rfl) dX11_block_56 ⟨lastOf_1 a2.toNatClampNeg, 0, blocks_1, lastOf_1, rfl, rfl, h⟩
      · replace h := h.2 c_3
        refine g_bipush (v := (-2)) C dX11_block_33 rfl ?_
        refine g_goto (tgt := 56) C dX11_block_35 (by decide) ?_
        exact g_iret C hR (Nat.le_of_ble_eq_true rfl) (Nat.le_of_ble_eq_true rfl) dX11_block_56 ⟨(-2), 0, blocks_1, lastOf_1, rfl, rfl, h⟩
    · replace h := h.2 c_2
      refine g_iconst (v := (-1)) C dX11_block_18 rfl ?_
      exact g_iret C hR (Nat.le_of_ble_eq_true rfl) (Nat.le_of_ble_eq_true rfl) dX11_block_19 ⟨(-1), 0, blocks, lastOf, rfl, rfl, h⟩
theorem dX11_laysInBlocks_0 : decode cX11_laysInBlocks 0 = .ok (.aload_n 0, 1) := by decide +kernel
theorem dX11_laysInBlocks_1 : decode cX11_laysInBlocks 1 = .ok (.iload_n 1, 1) := by decide +kernel
theorem dX11_laysInBlocks_2 : decode cX11_laysInBlocks 2 = .ok (.invokevirtual 311, 3) := by decide +kernel
theorem dX11_laysInBlocks_5 : decode cX11_laysInBlocks 5 = .ok (.iconst 0, 1) := by decide +kernel
theorem dX11_laysInBlocks_6 : decode cX11_laysInBlocks 6 = .ok (.istore_n 2, 1) := by decide +kernel
theorem dX11_laysInBlocks_7 : decode cX11_laysInBlocks 7 = .ok (.iload_n 2, 1) := by decide +kernel
theorem dX11_laysInBlocks_8 : decode cX11_laysInBlocks 8 = .ok (.aload_n 0, 1) := by decide +kernel
theorem dX11_laysInBlocks_9 : decode cX11_laysInBlocks 9 = .ok (.getfield 314, 3) := by decide +kernel
theorem dX11_laysInBlocks_12 : decode cX11_laysInBlocks 12 = .ok (.if_icmp .ge 44, 3) := by decide +kernel
theorem dX11_laysInBlocks_15 : decode cX11_laysInBlocks 15 = .ok (.aload_n 0, 1) := by decide +kernel
theorem dX11_laysInBlocks_16 : decode cX11_laysInBlocks 16 = .ok (.getfield 71, 3) := by decide +kernel
theorem dX11_laysInBlocks_19 : decode cX11_laysInBlocks 19 = .ok (.iload_n 2, 1) := by decide +kernel
theorem dX11_laysInBlocks_20 : decode cX11_laysInBlocks 20 = .ok (.aload_n 0, 1) := by decide +kernel
theorem dX11_laysInBlocks_21 : decode cX11_laysInBlocks 21 = .ok (.aload_n 0, 1) := by decide +kernel
theorem dX11_laysInBlocks_22 : decode cX11_laysInBlocks 22 = .ok (.getfield 65, 3) := by decide +kernel
theorem dX11_laysInBlocks_25 : decode cX11_laysInBlocks 25 = .ok (.aload_n 0, 1) := by decide +kernel
theorem dX11_laysInBlocks_26 : decode cX11_laysInBlocks 26 = .ok (.getfield 68, 3) := by decide +kernel
theorem dX11_laysInBlocks_29 : decode cX11_laysInBlocks 29 = .ok (.iload_n 2, 1) := by decide +kernel
theorem dX11_laysInBlocks_30 : decode cX11_laysInBlocks 30 = .ok (.iaload, 1) := by decide +kernel
theorem dX11_laysInBlocks_31 : decode cX11_laysInBlocks 31 = .ok (.iaload, 1) := by decide +kernel
theorem dX11_laysInBlocks_32 : decode cX11_laysInBlocks 32 = .ok (.aload_n 0, 1) := by decide +kernel
theorem dX11_laysInBlocks_33 : decode cX11_laysInBlocks 33 = .ok (.getfield 65, 3) := by decide +kernel
theorem dX11_laysInBlocks_36 : decode cX11_laysInBlocks 36 = .ok (.aload_n 0, 1) := by decide +kernel
theorem dX11_laysInBlocks_37 : decode cX11_laysInBlocks 37 = .ok (.iload_n 2, 1) := by decide +kernel
theorem dX11_laysInBlocks_38 : decode cX11_laysInBlocks 38 = .ok (.invokevirtual 320, 3) := by decide +kernel
theorem dX11_laysInBlocks_41 : decode cX11_laysInBlocks 41 = .ok (.iconst 1, 1) := by decide +kernel
theorem dX11_laysInBlocks_42 : decode cX11_laysInBlocks 42 = .ok (.isub, 1) := by decide +kernel
theorem dX11_laysInBlocks_43 : decode cX11_laysInBlocks 43 = .ok (.iaload, 1) := by decide +kernel
theorem dX11_laysInBlocks_44 : decode cX11_laysInBlocks 44 = .ok (.isub, 1) := by decide +kernel
theorem dX11_laysInBlocks_45 : decode cX11_laysInBlocks 45 = .ok (.i2l, 1) := by decide +kernel
theorem dX11_laysInBlocks_46 : decode cX11_laysInBlocks 46 = .ok (.invokevirtual 256, 3) := by decide +kernel
theorem dX11_laysInBlocks_49 : decode cX11_laysInBlocks 49 = .ok (.lastore, 1) := by decide +kernel
theorem dX11_laysInBlocks_50 : decode cX11_laysInBlocks 50 = .ok (.iinc 2 1, 3) := by decide +kernel
theorem dX11_laysInBlocks_53 : decode cX11_laysInBlocks 53 = .ok (.goto (-46), 3) := by decide +kernel
theorem dX11_laysInBlocks_56 : decode cX11_laysInBlocks 56 = .ok (.return_, 1) := by decide +kernel
/-- QuotientSumsModel.laysInBlocks(I)V -/
def wX11_laysInBlocks (thrown : Int32) (taped : Int32) (lines : Int32) (size : Int32) (atF : Int32) (place : Int32) (sort : Int32) (value : Int32) (fault : Int32) (faultPlace : Int32) (lastFault : Int32) (lastPlace : Int32) (undoable : Int32) (hasImage : Int32) (rowOf : Int32) (areSums : Int32) (isSieved : Int32) (blocks : Int32) (drawn : Int32) (sF : Nat → Int32) (row : Nat → Int32) (marks : Nat → Int32) (power : Nat → Int64) (table : Nat → Int64) (sortOf : Nat → Int32) (first : Nat → Int32) (second : Nat → Int32) (signBy : Nat → Int32) (lastOf : Nat → Int32) (inBlock : Nat → Int64) (a1 : Int32) (Q : (Int32) → (Int32) → (Nat → Int32) → (Nat → Int64) → (Nat → Int64) → (Nat → Int64) → Prop) : Prop :=
  (∃ (P_1 : (Int32) → (Int32) → (Nat → Int32) → (Nat → Int64) → (Nat → Int64) → Prop), wX11_laysSums thrown taped lines size atF place sort value fault faultPlace lastFault lastPlace undoable hasImage rowOf areSums isSieved blocks drawn sF row marks power table sortOf first second signBy a1 P_1 ∧ ∀ (rowOf_1 : Int32) (areSums_1 : Int32) (row_1 : Nat → Int32) (power_1 : Nat → Int64) (table_1 : Nat → Int64), P_1 rowOf_1 areSums_1 row_1 power_1 table_1 → (∃ (Inv_1 : (Nat → Int64) → (Int32) → Prop) (Mea_1 : (Nat → Int64) → (Int32) → Nat), Inv_1 inBlock 0 ∧ ∀ (inBlock_1 : Nat → Int64) (x2_1 : Int32), Inv_1 inBlock_1 x2_1 → ((blocks ≤ x2_1 → (Q rowOf_1 areSums_1 row_1 power_1 table_1 inBlock_1)) ∧ (¬ blocks ≤ x2_1 → (vp_in x2_1 900 ∧ vp_in (lastOf x2_1.toNatClampNeg) 200001 ∧ ∃ (P_2 : (Int32) → Prop), wX11_firstOf thrown taped lines size atF place sort value fault faultPlace lastFault lastPlace undoable hasImage rowOf_1 areSums_1 isSieved blocks drawn lastOf x2_1 P_2 ∧ ∀ (rF_1 : Int32), P_2 rF_1 → vp_in (rF_1 - 1) 200001 ∧ ∀ t_1 : Int32, t_1 = (row_1 (lastOf x2_1.toNatClampNeg).toNatClampNeg) - (row_1 (rF_1 - 1).toNatClampNeg) → ∃ (P_3 : (Int64) → Prop), wX11_rest thrown taped lines size atF place sort value fault faultPlace lastFault lastPlace undoable hasImage rowOf_1 areSums_1 isSieved blocks drawn sF (t_1.toInt64) P_3 ∧ ∀ (rF_2 : Int64), P_3 rF_2 → vp_in x2_1 900 ∧ ∀ inBlock_2 : Nat → Int64, inBlock_2 = vp_updL inBlock_1 x2_1.toNatClampNeg rF_2 → (Inv_1 inBlock_2 (x2_1 + 1) ∧ Mea_1 inBlock_2 (x2_1 + 1) < Mea_1 inBlock_1 x2_1))))))
set_option maxHeartbeats 4000000 in
set_option maxRecDepth 100000 in
theorem mX11_laysInBlocks (l : Launch) (D : va_G) (Y : Nat → ClassId) (h0 : Nat) (thrown : Int32) (v_tape : Value) (taped : Int32) (v_number : Value) (v_isTold : Value) (v_name : Value) (q_sortOf : Nat) (q_first : Nat) (q_second : Nat) (v_degree : Value) (v_colours : Value) (q_signBy : Nat) (v_own : Value) (lines : Int32) (size : Int32) (atF : Int32) (place : Int32) (sort : Int32) (value : Int32) (fault : Int32) (faultPlace : Int32) (lastFault : Int32) (lastPlace : Int32) (q_sF : Nat) (v_kept : Value) (undoable : Int32) (hasImage : Int32) (q_power : Nat) (q_table : Nat) (q_marks : Nat) (q_row : Nat) (rowOf : Int32) (areSums : Int32) (isSieved : Int32) (q_lastOf : Nat) (blocks : Int32) (q_inBlock : Nat) (v_atQuotient : Value) (v_small : Value) (drawn : Int32) (sF : Nat → Int32) (row : Nat → Int32) (marks : Nat → Int32) (power : Nat → Int64) (table : Nat → Int64) (sortOf : Nat → Int32) (first : Nat → Int32) (second : Nat → Int32) (signBy : Nat → Int32) (lastOf : Nat → Int32) (inBlock : Nat → Int64) (a1 : Int32) (Q : (Int32) → (Int32) → (Nat → Int32) → (Nat → Int64) → (Nat → Int64) → (Nat → Int64) → Prop) (h : wX11_laysInBlocks thrown taped lines size atF place sort value fault faultPlace lastFault lastPlace undoable hasImage rowOf areSums isSieved blocks drawn sF row marks power table sortOf first second signBy lastOf inBlock a1 Q) : gM l D Y yX11_laysInBlocks cX11_laysInBlocks 3 none 4 99 0 0 [.ref h0, .int a1] [oX11 h0 thrown (v_tape) taped (v_number) (v_isTold) (v_name) (.ref q_sortOf) (.ref q_first) (.ref q_second) (v_degree) (v_colours) (.ref q_signBy) (v_own) lines size atF place sort value fault faultPlace lastFault lastPlace (.ref q_sF) (v_kept) undoable hasImage (.ref q_power) (.ref q_table) (.ref q_marks) (.ref q_row) rowOf areSums isSieved (.ref q_lastOf) blocks (.ref q_inBlock) (v_atQuotient) (v_small) drawn, aI Y q_sF 74 sF, aI Y q_row 200001 row, aI Y q_marks 6251 marks, aJ Y q_power 18 power, aJ Y q_table 216 table, aI Y q_sortOf 24 sortOf, aI Y q_first 24 first, aI Y q_second 24 second, aI Y q_signBy 24 signBy, aI Y q_lastOf 900 lastOf, aJ Y q_inBlock 900 inBlock] (fun v w => ∃ rowOf' : Int32, ∃ areSums' : Int32, ∃ row' : Nat → Int32, ∃ power' : Nat → Int64, ∃ table' : Nat → Int64, ∃ inBlock' : Nat → Int64, v = none ∧ w = [oX11 h0 thrown (v_tape) taped (v_number) (v_isTold) (v_name) (.ref q_sortOf) (.ref q_first) (.ref q_second) (v_degree) (v_colours) (.ref q_signBy) (v_own) lines size atF place sort value fault faultPlace lastFault lastPlace (.ref q_sF) (v_kept) undoable hasImage (.ref q_power) (.ref q_table) (.ref q_marks) (.ref q_row) rowOf' areSums' isSieved (.ref q_lastOf) blocks (.ref q_inBlock) (v_atQuotient) (v_small) drawn, aI Y q_sF 74 sF, aI Y q_row 200001 row', aI Y q_marks 6251 marks, aJ Y q_power 18 power', aJ Y q_table 216 table', aI Y q_sortOf 24 sortOf, aI Y q_first 24 first, aI Y q_second 24 second, aI Y q_signBy 24 signBy, aI Y q_lastOf 900 lastOf, aJ Y q_inBlock 900 inBlock'] ∧ Q rowOf' areSums' row' power' table' inBlock') := by
  refine gM_of (own := RX11) (by decide +kernel) rfl (Nat.le_of_ble_eq_true rfl) rfl (fun E C hR => ?_)
  unfold wX11_laysInBlocks at h
  refine g_aload_n C dX11_laysInBlocks_0 0 rfl ?_
  refine g_iload_n C dX11_laysInBlocks_1 1 rfl ?_
  obtain ⟨P_1, hP, h⟩ := h
  refine g_callV (As := [.int a1]) (rest := []) C (mX11_laysSums l D Y h0 thrown v_tape taped v_number v_isTold v_name q_sortOf q_first q_second v_degree v_colours q_signBy v_own lines size atF place sort value fault faultPlace lastFault lastPlace q_sF v_kept undoable hasImage q_power q_table q_marks q_row rowOf areSums isSieved (.ref q_lastOf) blocks (.ref q_inBlock) v_atQuotient v_small drawn sF row marks power table sortOf first second signBy a1 P_1 hP) dX11_laysInBlocks_2 rfl wM_X11_311 wI_X11_laysSums wV_X11_laysSums wN_X11 wC_X11_laysSums (n := 1) (by decide +kernel) rfl (q0 := 0) rfl rfl ⟨Nat.le_of_ble_eq_true rfl, Nat.le_of_ble_eq_true rfl⟩ ⟨Nat.le_of_ble_eq_true rfl, Nat.le_of_ble_eq_true rfl⟩ (Nat.le_of_ble_eq_true rfl) [0, 1, 2, 3, 4, 5, 6, 7, 8, 9] [10, 11] rfl rfl rfl (fun v wc hv => ?_)
  obtain ⟨rowOf_1, areSums_1, row_1, power_1, table_1, rfl, rfl, hq⟩ := hv
  replace h := h rowOf_1 areSums_1 row_1 power_1 table_1 hq
  refine gG.perm (ws' := [oX11 h0 thrown (v_tape) taped (v_number) (v_isTold) (v_name) (.ref q_sortOf) (.ref q_first) (.ref q_second) (v_degree) (v_colours) (.ref q_signBy) (v_own) lines size atF place sort value fault faultPlace lastFault lastPlace (.ref q_sF) (v_kept) undoable hasImage (.ref q_power) (.ref q_table) (.ref q_marks) (.ref q_row) rowOf_1 areSums_1 isSieved (.ref q_lastOf) blocks (.ref q_inBlock) (v_atQuotient) (v_small) drawn, aI Y q_sF 74 sF, aI Y q_row 200001 row_1, aI Y q_marks 6251 marks, aJ Y q_power 18 power_1, aJ Y q_table 216 table_1, aI Y q_sortOf 24 sortOf, aI Y q_first 24 first, aI Y q_second 24 second, aI Y q_signBy 24 signBy, aI Y q_lastOf 900 lastOf, aJ Y q_inBlock 900 inBlock]) [2, 3, 4, 5, 6, 7, 8, 9, 10, 11, 0, 1] rfl rfl ?_
  refine g_iconst (v := 0) C dX11_laysInBlocks_5 rfl ?_
  refine g_istore_n (lv' := [(2, .int 0), (0, .ref h0), (1, .int a1)]) C dX11_laysInBlocks_6 (by decide) rfl ?_
  obtain ⟨Inv_1, Mea_1, hI1, hB1⟩ := h
  have key_1 : ∀ (n : Nat) (inBlock_1 : Nat → Int64) (x2_1 : Int32) , Mea_1 inBlock_1 x2_1 < n → Inv_1 inBlock_1 x2_1 → gG E 0 0 [oX11 h0 thrown (v_tape) taped (v_number) (v_isTold) (v_name) (.ref q_sortOf) (.ref q_first) (.ref q_second) (v_degree) (v_colours) (.ref q_signBy) (v_own) lines size atF place sort value fault faultPlace lastFault lastPlace (.ref q_sF) (v_kept) undoable hasImage (.ref q_power) (.ref q_table) (.ref q_marks) (.ref q_row) rowOf_1 areSums_1 isSieved (.ref q_lastOf) blocks (.ref q_inBlock) (v_atQuotient) (v_small) drawn, aI Y q_sF 74 sF, aI Y q_row 200001 row_1, aI Y q_marks 6251 marks, aJ Y q_power 18 power_1, aJ Y q_table 216 table_1, aI Y q_sortOf 24 sortOf, aI Y q_first 24 first, aI Y q_second 24 second, aI Y q_signBy 24 signBy, aI Y q_lastOf 900 lastOf, aJ Y q_inBlock 900 inBlock_1] [(0, .ref h0), (2, .int x2_1)] [] 7 := by
    intro n
    induction n with
    | zero => exact fun _ _ hm => absurd hm (Nat.not_lt_zero _)
    | succ n ih1 =>
      intro inBlock_1 x2_1  hm1 hI
      have h := hB1 inBlock_1 x2_1 hI
      refine g_iload_n C dX11_laysInBlocks_7 1 rfl ?_
      refine g_aload_n C dX11_laysInBlocks_8 0 rfl ?_
      refine g_get C inX11 0 rfl rfl 35 (by decide) wF_X11_314 rfl dX11_laysInBlocks_9 ?_
      refine g_icmp_ge (tgt := 56) C dX11_laysInBlocks_12 (by decide) (fun c_1 => ?_) (fun c_1 => ?_)
      · replace h := h.1 c_1
        exact g_vret C hR (Nat.le_of_ble_eq_true rfl) (Nat.le_of_ble_eq_true rfl) dX11_laysInBlocks_56 ⟨rowOf_1, areSums_1, row_1, power_1, table_1, inBlock_1, rfl, rfl, h⟩
      · replace h := h.2 c_1
        refine g_aload_n C dX11_laysInBlocks_15 0 rfl ?_
        refine g_get C inX11 0 rfl rfl 36 (by decide) wF_X11_71 rfl dX11_laysInBlocks_16 ?_
        refine g_iload_n C dX11_laysInBlocks_19 1 rfl ?_
        refine g_aload_n C dX11_laysInBlocks_20 0 rfl ?_
        refine g_aload_n C dX11_laysInBlocks_21 0 rfl ?_
        refine g_get C inX11 0 rfl rfl 30 (by decide) wF_X11_65 rfl dX11_laysInBlocks_22 ?_
        refine g_aload_n C dX11_laysInBlocks_25 0 rfl ?_
        refine g_get C inX11 0 rfl rfl 34 (by decide) wF_X11_68 rfl dX11_laysInBlocks_26 ?_
        refine g_iload_n C dX11_laysInBlocks_29 1 rfl ?_
        obtain ⟨hc_1, h⟩ := h
        refine g_iald C 10 rfl hc_1 dX11_laysInBlocks_30 ?_
        obtain ⟨hc_2, h⟩ := h
        refine g_iald C 2 rfl hc_2 dX11_laysInBlocks_31 ?_
        refine g_aload_n C dX11_laysInBlocks_32 0 rfl ?_
        refine g_get C inX11 0 rfl rfl 30 (by decide) wF_X11_65 rfl dX11_laysInBlocks_33 ?_
        refine g_aload_n C dX11_laysInBlocks_36 0 rfl ?_
        refine g_iload_n C dX11_laysInBlocks_37 1 rfl ?_
        obtain ⟨P_2, hP, h⟩ := h
        refine g_callV (As := [.int x2_1]) (rest := [.ref q_row, .int (row_1 (lastOf x2_1.toNatClampNeg).toNatClampNeg), .ref h0, .int x2_1, .ref q_inBlock]) C (mX11_firstOf l D Y h0 thrown v_tape taped v_number v_isTold v_name (.ref q_sortOf) (.ref q_first) (.ref q_second) v_degree v_colours (.ref q_signBy) v_own lines size atF place sort value fault faultPlace lastFault lastPlace (.ref q_sF) v_kept undoable hasImage (.ref q_power) (.ref q_table) (.ref q_marks) (.ref q_row) rowOf_1 areSums_1 isSieved q_lastOf blocks (.ref q_inBlock) v_atQuotient v_small drawn lastOf x2_1 P_2 hP) dX11_laysInBlocks_38 rfl wM_X11_320 wI_X11_firstOf wV_X11_firstOf wN_X11 wC_X11_firstOf (n := 1) (by decide +kernel) rfl (q0 := 0) rfl rfl ⟨Nat.le_of_ble_eq_true rfl, Nat.le_of_ble_eq_true rfl⟩ ⟨Nat.le_of_ble_eq_true rfl, Nat.le_of_ble_eq_true rfl⟩ (Nat.le_of_ble_eq_true rfl) [0, 10] [1, 2, 3, 4, 5, 6, 7, 8, 9, 11] rfl rfl rfl (fun v wc hv => ?_)
        obtain ⟨rF_1, rfl, rfl, hq⟩ := hv
        replace h := h rF_1 hq
        refine gG.perm (ws' := [oX11 h0 thrown (v_tape) taped (v_number) (v_isTold) (v_name) (.ref q_sortOf) (.ref q_first) (.ref q_second) (v_degree) (v_colours) (.ref q_signBy) (v_own) lines size atF place sort value fault faultPlace lastFault lastPlace (.ref q_sF) (v_kept) undoable hasImage (.ref q_power) (.ref q_table) (.ref q_marks) (.ref q_row) rowOf_1 areSums_1 isSieved (.ref q_lastOf) blocks (.ref q_inBlock) (v_atQuotient) (v_small) drawn, aI Y q_sF 74 sF, aI Y q_row 200001 row_1, aI Y q_marks 6251 marks, aJ Y q_power 18 power_1, aJ Y q_table 216 table_1, aI Y q_sortOf 24 sortOf, aI Y q_first 24 first, aI Y q_second 24 second, aI Y q_signBy 24 signBy, aI Y q_lastOf 900 lastOf, aJ Y q_inBlock 900 inBlock_1]) [10, 0, 1, 2, 3, 4, 5, 6, 7, 8, 11, 9] rfl rfl ?_
        refine g_iconst (v := 1) C dX11_laysInBlocks_41 rfl ?_
        refine g_isub C dX11_laysInBlocks_42 ?_
        obtain ⟨hc_3, h⟩ := h
        refine g_iald C 2 rfl hc_3 dX11_laysInBlocks_43 ?_
        refine g_isub C dX11_laysInBlocks_44 ?_
        refine g_topi (fun t_1 et_1 => ?_)
        replace h := h t_1 et_1
        refine g_i2l C dX11_laysInBlocks_45 ?_
        obtain ⟨P_3, hP, h⟩ := h
        refine g_callV (As := [.long (t_1.toInt64)]) (rest := [.int x2_1, .ref q_inBlock]) C (mX11_rest l D Y h0 thrown v_tape taped v_number v_isTold v_name (.ref q_sortOf) (.ref q_first) (.ref q_second) v_degree v_colours (.ref q_signBy) v_own lines size atF place sort value fault faultPlace lastFault lastPlace q_sF v_kept undoable hasImage (.ref q_power) (.ref q_table) (.ref q_marks) (.ref q_row) rowOf_1 areSums_1 isSieved (.ref q_lastOf) blocks (.ref q_inBlock) v_atQuotient v_small drawn sF (t_1.toInt64) P_3 hP) dX11_laysInBlocks_46 rfl wM_X11_256 wI_X11_rest wV_X11_rest wN_X11 wC_X11_rest (n := 1) (by decide +kernel) rfl (q0 := 0) rfl rfl ⟨Nat.le_of_ble_eq_true rfl, Nat.le_of_ble_eq_true rfl⟩ ⟨Nat.le_of_ble_eq_true rfl, Nat.le_of_ble_eq_true rfl⟩ (Nat.le_of_ble_eq_true rfl) [0, 1] [2, 3, 4, 5, 6, 7, 8, 9, 10, 11] rfl rfl rfl (fun v wc hv => ?_)
        obtain ⟨rF_2, rfl, rfl, hq⟩ := hv
        replace h := h rF_2 hq
        refine gG.perm (ws' := [oX11 h0 thrown (v_tape) taped (v_number) (v_isTold) (v_name) (.ref q_sortOf) (.ref q_first) (.ref q_second) (v_degree) (v_colours) (.ref q_signBy) (v_own) lines size atF place sort value fault faultPlace lastFault lastPlace (.ref q_sF) (v_kept) undoable hasImage (.ref q_power) (.ref q_table) (.ref q_marks) (.ref q_row) rowOf_1 areSums_1 isSieved (.ref q_lastOf) blocks (.ref q_inBlock) (v_atQuotient) (v_small) drawn, aI Y q_sF 74 sF, aI Y q_row 200001 row_1, aI Y q_marks 6251 marks, aJ Y q_power 18 power_1, aJ Y q_table 216 table_1, aI Y q_sortOf 24 sortOf, aI Y q_first 24 first, aI Y q_second 24 second, aI Y q_signBy 24 signBy, aI Y q_lastOf 900 lastOf, aJ Y q_inBlock 900 inBlock_1]) [10, 11, 0, 1, 2, 3, 4, 5, 6, 7, 8, 9] rfl rfl ?_
        obtain ⟨hc_4, h⟩ := h
        refine g_last C 11 rfl hc_4 dX11_laysInBlocks_49 (fun inBlock_2 einBlock_2 => gG.eqw (ws' := [oX11 h0 thrown (v_tape) taped (v_number) (v_isTold) (v_name) (.ref q_sortOf) (.ref q_first) (.ref q_second) (v_degree) (v_colours) (.ref q_signBy) (v_own) lines size atF place sort value fault faultPlace lastFault lastPlace (.ref q_sF) (v_kept) undoable hasImage (.ref q_power) (.ref q_table) (.ref q_marks) (.ref q_row) rowOf_1 areSums_1 isSieved (.ref q_lastOf) blocks (.ref q_inBlock) (v_atQuotient) (v_small) drawn, aI Y q_sF 74 sF, aI Y q_row 200001 row_1, aI Y q_marks 6251 marks, aJ Y q_power 18 power_1, aJ Y q_table 216 table_1, aI Y q_sortOf 24 sortOf, aI Y q_first 24 first, aI Y q_second 24 second, aI Y q_signBy 24 signBy, aI Y q_lastOf 900 lastOf, aJ Y q_inBlock 900 inBlock_2]) rfl ?_)
        replace h := h inBlock_2 einBlock_2
        refine g_iinc (v := x2_1 + 1) (lv' := [(2, .int (x2_1 + 1)), (0, .ref h0)]) C dX11_laysInBlocks_50 1 rfl rfl (by decide) rfl ?_
        refine g_goto (tgt := 7) C dX11_laysInBlocks_53 (by decide) ?_
        refine gG.locals (lv' := [(0, .ref h0), (2, .int (x2_1 + 1))]) [1, 0] rfl ?_
        exact ih1 inBlock_2 (x2_1 + 1) (Nat.lt_of_lt_of_le h.2 (Nat.le_of_lt_succ hm1)) h.1
  refine gG.locals (lv' := [(0, .ref h0), (2, .int 0)]) [1, 0] rfl ?_
  exact key_1 (Mea_1 inBlock 0 + 1) inBlock 0 (Nat.lt_succ_self _) hI1
theorem dX11_laysAtQuotients_0 : decode cX11_laysAtQuotients 0 = .ok (.aload_n 0, 1) := by decide +kernel
theorem dX11_laysAtQuotients_1 : decode cX11_laysAtQuotients 1 = .ok (.iload_n 1, 1) := by decide +kernel
theorem dX11_laysAtQuotients_2 : decode cX11_laysAtQuotients 2 = .ok (.invokevirtual 311, 3) := by decide +kernel
theorem dX11_laysAtQuotients_5 : decode cX11_laysAtQuotients 5 = .ok (.iconst 0, 1) := by decide +kernel
theorem dX11_laysAtQuotients_6 : decode cX11_laysAtQuotients 6 = .ok (.istore_n 3, 1) := by decide +kernel
theorem dX11_laysAtQuotients_7 : decode cX11_laysAtQuotients 7 = .ok (.iload_n 3, 1) := by decide +kernel
theorem dX11_laysAtQuotients_8 : decode cX11_laysAtQuotients 8 = .ok (.aload_n 0, 1) := by decide +kernel
theorem dX11_laysAtQuotients_9 : decode cX11_laysAtQuotients 9 = .ok (.getfield 314, 3) := by decide +kernel
theorem dX11_laysAtQuotients_12 : decode cX11_laysAtQuotients 12 = .ok (.if_icmp .ge 29, 3) := by decide +kernel
theorem dX11_laysAtQuotients_15 : decode cX11_laysAtQuotients 15 = .ok (.aload_n 0, 1) := by decide +kernel
theorem dX11_laysAtQuotients_16 : decode cX11_laysAtQuotients 16 = .ok (.getfield 74, 3) := by decide +kernel
theorem dX11_laysAtQuotients_19 : decode cX11_laysAtQuotients 19 = .ok (.iload_n 3, 1) := by decide +kernel
theorem dX11_laysAtQuotients_20 : decode cX11_laysAtQuotients 20 = .ok (.aload_n 0, 1) := by decide +kernel
theorem dX11_laysAtQuotients_21 : decode cX11_laysAtQuotients 21 = .ok (.getfield 65, 3) := by decide +kernel
theorem dX11_laysAtQuotients_24 : decode cX11_laysAtQuotients 24 = .ok (.iload_n 2, 1) := by decide +kernel
theorem dX11_laysAtQuotients_25 : decode cX11_laysAtQuotients 25 = .ok (.aload_n 0, 1) := by decide +kernel
theorem dX11_laysAtQuotients_26 : decode cX11_laysAtQuotients 26 = .ok (.getfield 68, 3) := by decide +kernel
theorem dX11_laysAtQuotients_29 : decode cX11_laysAtQuotients 29 = .ok (.iload_n 3, 1) := by decide +kernel
theorem dX11_laysAtQuotients_30 : decode cX11_laysAtQuotients 30 = .ok (.iaload, 1) := by decide +kernel
theorem dX11_laysAtQuotients_31 : decode cX11_laysAtQuotients 31 = .ok (.idiv, 1) := by decide +kernel
theorem dX11_laysAtQuotients_32 : decode cX11_laysAtQuotients 32 = .ok (.iaload, 1) := by decide +kernel
theorem dX11_laysAtQuotients_33 : decode cX11_laysAtQuotients 33 = .ok (.i2l, 1) := by decide +kernel
theorem dX11_laysAtQuotients_34 : decode cX11_laysAtQuotients 34 = .ok (.lastore, 1) := by decide +kernel
theorem dX11_laysAtQuotients_35 : decode cX11_laysAtQuotients 35 = .ok (.iinc 3 1, 3) := by decide +kernel
theorem dX11_laysAtQuotients_38 : decode cX11_laysAtQuotients 38 = .ok (.goto (-31), 3) := by decide +kernel
theorem dX11_laysAtQuotients_41 : decode cX11_laysAtQuotients 41 = .ok (.return_, 1) := by decide +kernel
/-- QuotientSumsModel.laysAtQuotients(II)V -/
def wX11_laysAtQuotients (thrown : Int32) (taped : Int32) (lines : Int32) (size : Int32) (atF : Int32) (place : Int32) (sort : Int32) (value : Int32) (fault : Int32) (faultPlace : Int32) (lastFault : Int32) (lastPlace : Int32) (undoable : Int32) (hasImage : Int32) (rowOf : Int32) (areSums : Int32) (isSieved : Int32) (blocks : Int32) (drawn : Int32) (sF : Nat → Int32) (row : Nat → Int32) (marks : Nat → Int32) (power : Nat → Int64) (table : Nat → Int64) (sortOf : Nat → Int32) (first : Nat → Int32) (second : Nat → Int32) (signBy : Nat → Int32) (lastOf : Nat → Int32) (atQuotient : Nat → Int64) (a1 : Int32) (a2 : Int32) (Q : (Int32) → (Int32) → (Nat → Int32) → (Nat → Int64) → (Nat → Int64) → (Nat → Int64) → Prop) : Prop :=
  (∃ (P_1 : (Int32) → (Int32) → (Nat → Int32) → (Nat → Int64) → (Nat → Int64) → Prop), wX11_laysSums thrown taped lines size atF place sort value fault faultPlace lastFault lastPlace undoable hasImage rowOf areSums isSieved blocks drawn sF row marks power table sortOf first second signBy a1 P_1 ∧ ∀ (rowOf_1 : Int32) (areSums_1 : Int32) (row_1 : Nat → Int32) (power_1 : Nat → Int64) (table_1 : Nat → Int64), P_1 rowOf_1 areSums_1 row_1 power_1 table_1 → (∃ (Inv_1 : (Nat → Int64) → (Int32) → Prop) (Mea_1 : (Nat → Int64) → (Int32) → Nat), Inv_1 atQuotient 0 ∧ ∀ (atQuotient_1 : Nat → Int64) (x3_1 : Int32), Inv_1 atQuotient_1 x3_1 → ((blocks ≤ x3_1 → (Q rowOf_1 areSums_1 row_1 power_1 table_1 atQuotient_1)) ∧ (¬ blocks ≤ x3_1 → (vp_in x3_1 900 ∧ ¬ (lastOf x3_1.toNatClampNeg) = 0 ∧ vp_in (a2 / (lastOf x3_1.toNatClampNeg)) 200001 ∧ ∀ e_1 : Int64, e_1 = (row_1 (a2 / (lastOf x3_1.toNatClampNeg)).toNatClampNeg).toInt64 → ∀ atQuotient_2 : Nat → Int64, atQuotient_2 = vp_updL atQuotient_1 x3_1.toNatClampNeg e_1 → (Inv_1 atQuotient_2 (x3_1 + 1) ∧ Mea_1 atQuotient_2 (x3_1 + 1) < Mea_1 atQuotient_1 x3_1))))))
set_option maxHeartbeats 4000000 in
set_option maxRecDepth 100000 in
theorem mX11_laysAtQuotients (l : Launch) (D : va_G) (Y : Nat → ClassId) (h0 : Nat) (thrown : Int32) (v_tape : Value) (taped : Int32) (v_number : Value) (v_isTold : Value) (v_name : Value) (q_sortOf : Nat) (q_first : Nat) (q_second : Nat) (v_degree : Value) (v_colours : Value) (q_signBy : Nat) (v_own : Value) (lines : Int32) (size : Int32) (atF : Int32) (place : Int32) (sort : Int32) (value : Int32) (fault : Int32) (faultPlace : Int32) (lastFault : Int32) (lastPlace : Int32) (q_sF : Nat) (v_kept : Value) (undoable : Int32) (hasImage : Int32) (q_power : Nat) (q_table : Nat) (q_marks : Nat) (q_row : Nat) (rowOf : Int32) (areSums : Int32) (isSieved : Int32) (q_lastOf : Nat) (blocks : Int32) (v_inBlock : Value) (q_atQuotient : Nat) (v_small : Value) (drawn : Int32) (sF : Nat → Int32) (row : Nat → Int32) (marks : Nat → Int32) (power : Nat → Int64) (table : Nat → Int64) (sortOf : Nat → Int32) (first : Nat → Int32) (second : Nat → Int32) (signBy : Nat → Int32) (lastOf : Nat → Int32) (atQuotient : Nat → Int64) (a1 : Int32) (a2 : Int32) (Q : (Int32) → (Int32) → (Nat → Int32) → (Nat → Int64) → (Nat → Int64) → (Nat → Int64) → Prop) (h : wX11_laysAtQuotients thrown taped lines size atF place sort value fault faultPlace lastFault lastPlace undoable hasImage rowOf areSums isSieved blocks drawn sF row marks power table sortOf first second signBy lastOf atQuotient a1 a2 Q) : gM l D Y yX11_laysAtQuotients cX11_laysAtQuotients 4 none 4 99 0 0 [.ref h0, .int a1, .int a2] [oX11 h0 thrown (v_tape) taped (v_number) (v_isTold) (v_name) (.ref q_sortOf) (.ref q_first) (.ref q_second) (v_degree) (v_colours) (.ref q_signBy) (v_own) lines size atF place sort value fault faultPlace lastFault lastPlace (.ref q_sF) (v_kept) undoable hasImage (.ref q_power) (.ref q_table) (.ref q_marks) (.ref q_row) rowOf areSums isSieved (.ref q_lastOf) blocks (v_inBlock) (.ref q_atQuotient) (v_small) drawn, aI Y q_sF 74 sF, aI Y q_row 200001 row, aI Y q_marks 6251 marks, aJ Y q_power 18 power, aJ Y q_table 216 table, aI Y q_sortOf 24 sortOf, aI Y q_first 24 first, aI Y q_second 24 second, aI Y q_signBy 24 signBy, aI Y q_lastOf 900 lastOf, aJ Y q_atQuotient 900 atQuotient] (fun v w => ∃ rowOf' : Int32, ∃ areSums' : Int32, ∃ row' : Nat → Int32, ∃ power' : Nat → Int64, ∃ table' : Nat → Int64, ∃ atQuotient' : Nat → Int64, v = none ∧ w = [oX11 h0 thrown (v_tape) taped (v_number) (v_isTold) (v_name) (.ref q_sortOf) (.ref q_first) (.ref q_second) (v_degree) (v_colours) (.ref q_signBy) (v_own) lines size atF place sort value fault faultPlace lastFault lastPlace (.ref q_sF) (v_kept) undoable hasImage (.ref q_power) (.ref q_table) (.ref q_marks) (.ref q_row) rowOf' areSums' isSieved (.ref q_lastOf) blocks (v_inBlock) (.ref q_atQuotient) (v_small) drawn, aI Y q_sF 74 sF, aI Y q_row 200001 row', aI Y q_marks 6251 marks, aJ Y q_power 18 power', aJ Y q_table 216 table', aI Y q_sortOf 24 sortOf, aI Y q_first 24 first, aI Y q_second 24 second, aI Y q_signBy 24 signBy, aI Y q_lastOf 900 lastOf, aJ Y q_atQuotient 900 atQuotient'] ∧ Q rowOf' areSums' row' power' table' atQuotient') := by
  refine gM_of (own := RX11) (by decide +kernel) rfl (Nat.le_of_ble_eq_true rfl) rfl (fun E C hR => ?_)
  unfold wX11_laysAtQuotients at h
  refine g_aload_n C dX11_laysAtQuotients_0 0 rfl ?_
  refine g_iload_n C dX11_laysAtQuotients_1 1 rfl ?_
  obtain ⟨P_1, hP, h⟩ := h
  refine g_callV (As := [.int a1]) (rest := []) C (mX11_laysSums l D Y h0 thrown v_tape taped v_number v_isTold v_name q_sortOf q_first q_second v_degree v_colours q_signBy v_own lines size atF place sort value fault faultPlace lastFault lastPlace q_sF v_kept undoable hasImage q_power q_table q_marks q_row rowOf areSums isSieved (.ref q_lastOf) blocks v_inBlock (.ref q_atQuotient) v_small drawn sF row marks power table sortOf first second signBy a1 P_1 hP) dX11_laysAtQuotients_2 rfl wM_X11_311 wI_X11_laysSums wV_X11_laysSums wN_X11 wC_X11_laysSums (n := 1) (by decide +kernel) rfl (q0 := 0) rfl rfl ⟨Nat.le_of_ble_eq_true rfl, Nat.le_of_ble_eq_true rfl⟩ ⟨Nat.le_of_ble_eq_true rfl, Nat.le_of_ble_eq_true rfl⟩ (Nat.le_of_ble_eq_true rfl) [0, 1, 2, 3, 4, 5, 6, 7, 8, 9] [10, 11] rfl rfl rfl (fun v wc hv => ?_)
  obtain ⟨rowOf_1, areSums_1, row_1, power_1, table_1, rfl, rfl, hq⟩ := hv
  replace h := h rowOf_1 areSums_1 row_1 power_1 table_1 hq
  refine gG.perm (ws' := [oX11 h0 thrown (v_tape) taped (v_number) (v_isTold) (v_name) (.ref q_sortOf) (.ref q_first) (.ref q_second) (v_degree) (v_colours) (.ref q_signBy) (v_own) lines size atF place sort value fault faultPlace lastFault lastPlace (.ref q_sF) (v_kept) undoable hasImage (.ref q_power) (.ref q_table) (.ref q_marks) (.ref q_row) rowOf_1 areSums_1 isSieved (.ref q_lastOf) blocks (v_inBlock) (.ref q_atQuotient) (v_small) drawn, aI Y q_sF 74 sF, aI Y q_row 200001 row_1, aI Y q_marks 6251 marks, aJ Y q_power 18 power_1, aJ Y q_table 216 table_1, aI Y q_sortOf 24 sortOf, aI Y q_first 24 first, aI Y q_second 24 second, aI Y q_signBy 24 signBy, aI Y q_lastOf 900 lastOf, aJ Y q_atQuotient 900 atQuotient]) [2, 3, 4, 5, 6, 7, 8, 9, 10, 11, 0, 1] rfl rfl ?_
  refine g_iconst (v := 0) C dX11_laysAtQuotients_5 rfl ?_
  refine g_istore_n (lv' := [(3, .int 0), (0, .ref h0), (1, .int a1), (2, .int a2)]) C dX11_laysAtQuotients_6 (by decide) rfl ?_
  obtain ⟨Inv_1, Mea_1, hI1, hB1⟩ := h
  have key_1 : ∀ (n : Nat) (atQuotient_1 : Nat → Int64) (x3_1 : Int32) , Mea_1 atQuotient_1 x3_1 < n → Inv_1 atQuotient_1 x3_1 → gG E 0 0 [oX11 h0 thrown (v_tape) taped (v_number) (v_isTold) (v_name) (.ref q_sortOf) (.ref q_first) (.ref q_second) (v_degree) (v_colours) (.ref q_signBy) (v_own) lines size atF place sort value fault faultPlace lastFault lastPlace (.ref q_sF) (v_kept) undoable hasImage (.ref q_power) (.ref q_table) (.ref q_marks) (.ref q_row) rowOf_1 areSums_1 isSieved (.ref q_lastOf) blocks (v_inBlock) (.ref q_atQuotient) (v_small) drawn, aI Y q_sF 74 sF, aI Y q_row 200001 row_1, aI Y q_marks 6251 marks, aJ Y q_power 18 power_1, aJ Y q_table 216 table_1, aI Y q_sortOf 24 sortOf, aI Y q_first 24 first, aI Y q_second 24 second, aI Y q_signBy 24 signBy, aI Y q_lastOf 900 lastOf, aJ Y q_atQuotient 900 atQuotient_1] [(0, .ref h0), (2, .int a2), (3, .int x3_1)] [] 7 := by
    intro n
    induction n with
    | zero => exact fun _ _ hm => absurd hm (Nat.not_lt_zero _)
    | succ n ih1 =>
      intro atQuotient_1 x3_1  hm1 hI
      have h := hB1 atQuotient_1 x3_1 hI
      refine g_iload_n C dX11_laysAtQuotients_7 2 rfl ?_
      refine g_aload_n C dX11_laysAtQuotients_8 0 rfl ?_
      refine g_get C inX11 0 rfl rfl 35 (by decide) wF_X11_314 rfl dX11_laysAtQuotients_9 ?_
      refine g_icmp_ge (tgt := 41) C dX11_laysAtQuotients_12 (by decide) (fun c_1 => ?_) (fun c_1 => ?_)
      · replace h := h.1 c_1
        exact g_vret C hR (Nat.le_of_ble_eq_true rfl) (Nat.le_of_ble_eq_true rfl) dX11_laysAtQuotients_41 ⟨rowOf_1, areSums_1, row_1, power_1, table_1, atQuotient_1, rfl, rfl, h⟩
      · replace h := h.2 c_1
        refine g_aload_n C dX11_laysAtQuotients_15 0 rfl ?_
        refine g_get C inX11 0 rfl rfl 37 (by decide) wF_X11_74 rfl dX11_laysAtQuotients_16 ?_
        refine g_iload_n C dX11_laysAtQuotients_19 2 rfl ?_
        refine g_aload_n C dX11_laysAtQuotients_20 0 rfl ?_
        refine g_get C inX11 0 rfl rfl 30 (by decide) wF_X11_65 rfl dX11_laysAtQuotients_21 ?_
        refine g_iload_n C dX11_laysAtQuotients_24 1 rfl ?_
        refine g_aload_n C dX11_laysAtQuotients_25 0 rfl ?_
        refine g_get C inX11 0 rfl rfl 34 (by decide) wF_X11_68 rfl dX11_laysAtQuotients_26 ?_
        refine g_iload_n C dX11_laysAtQuotients_29 2 rfl ?_
        obtain ⟨hc_1, h⟩ := h
        refine g_iald C 10 rfl hc_1 dX11_laysAtQuotients_30 ?_
        obtain ⟨hc_2, h⟩ := h
        refine g_idiv C dX11_laysAtQuotients_31 hc_2 ?_
        obtain ⟨hc_3, h⟩ := h
        refine g_iald C 2 rfl hc_3 dX11_laysAtQuotients_32 ?_
        refine g_i2l C dX11_laysAtQuotients_33 ?_
        refine g_topl (fun e_1 ee_1 => ?_)
        replace h := h e_1 ee_1
        refine g_last C 11 rfl hc_1 dX11_laysAtQuotients_34 (fun atQuotient_2 eatQuotient_2 => gG.eqw (ws' := [oX11 h0 thrown (v_tape) taped (v_number) (v_isTold) (v_name) (.ref q_sortOf) (.ref q_first) (.ref q_second) (v_degree) (v_colours) (.ref q_signBy) (v_own) lines size atF place sort value fault faultPlace lastFault lastPlace (.ref q_sF) (v_kept) undoable hasImage (.ref q_power) (.ref q_table) (.ref q_marks) (.ref q_row) rowOf_1 areSums_1 isSieved (.ref q_lastOf) blocks (v_inBlock) (.ref q_atQuotient) (v_small) drawn, aI Y q_sF 74 sF, aI Y q_row 200001 row_1, aI Y q_marks 6251 marks, aJ Y q_power 18 power_1, aJ Y q_table 216 table_1, aI Y q_sortOf 24 sortOf, aI Y q_first 24 first, aI Y q_second 24 second, aI Y q_signBy 24 signBy, aI Y q_lastOf 900 lastOf, aJ Y q_atQuotient 900 atQuotient_2]) rfl ?_)
        replace h := h atQuotient_2 eatQuotient_2
        refine g_iinc (v := x3_1 + 1) (lv' := [(3, .int (x3_1 + 1)), (0, .ref h0), (2, .int a2)]) C dX11_laysAtQuotients_35 2 rfl rfl (by decide) rfl ?_
        refine g_goto (tgt := 7) C dX11_laysAtQuotients_38 (by decide) ?_
        refine gG.locals (lv' := [(0, .ref h0), (2, .int a2), (3, .int (x3_1 + 1))]) [1, 2, 0] rfl ?_
        exact ih1 atQuotient_2 (x3_1 + 1) (Nat.lt_of_lt_of_le h.2 (Nat.le_of_lt_succ hm1)) h.1
  refine gG.locals (lv' := [(0, .ref h0), (2, .int a2), (3, .int 0)]) [1, 3, 0] rfl ?_
  exact key_1 (Mea_1 atQuotient 0 + 1) atQuotient 0 (Nat.lt_succ_self _) hI1
theorem dX11_acrossBlocks_0 : decode cX11_acrossBlocks 0 = .ok (.lconst 0, 1) := by decide +kernel
theorem dX11_acrossBlocks_1 : decode cX11_acrossBlocks 1 = .ok (.lstore_n 1, 1) := by decide +kernel
theorem dX11_acrossBlocks_2 : decode cX11_acrossBlocks 2 = .ok (.iconst 0, 1) := by decide +kernel
theorem dX11_acrossBlocks_3 : decode cX11_acrossBlocks 3 = .ok (.istore_n 3, 1) := by decide +kernel
theorem dX11_acrossBlocks_4 : decode cX11_acrossBlocks 4 = .ok (.iload_n 3, 1) := by decide +kernel
theorem dX11_acrossBlocks_5 : decode cX11_acrossBlocks 5 = .ok (.aload_n 0, 1) := by decide +kernel
theorem dX11_acrossBlocks_6 : decode cX11_acrossBlocks 6 = .ok (.getfield 314, 3) := by decide +kernel
theorem dX11_acrossBlocks_9 : decode cX11_acrossBlocks 9 = .ok (.if_icmp .ge 33, 3) := by decide +kernel
theorem dX11_acrossBlocks_12 : decode cX11_acrossBlocks 12 = .ok (.lload_n 1, 1) := by decide +kernel
theorem dX11_acrossBlocks_13 : decode cX11_acrossBlocks 13 = .ok (.aload_n 0, 1) := by decide +kernel
theorem dX11_acrossBlocks_14 : decode cX11_acrossBlocks 14 = .ok (.getfield 71, 3) := by decide +kernel
theorem dX11_acrossBlocks_17 : decode cX11_acrossBlocks 17 = .ok (.iload_n 3, 1) := by decide +kernel
theorem dX11_acrossBlocks_18 : decode cX11_acrossBlocks 18 = .ok (.laload, 1) := by decide +kernel
theorem dX11_acrossBlocks_19 : decode cX11_acrossBlocks 19 = .ok (.aload_n 0, 1) := by decide +kernel
theorem dX11_acrossBlocks_20 : decode cX11_acrossBlocks 20 = .ok (.getfield 74, 3) := by decide +kernel
theorem dX11_acrossBlocks_23 : decode cX11_acrossBlocks 23 = .ok (.iload_n 3, 1) := by decide +kernel
theorem dX11_acrossBlocks_24 : decode cX11_acrossBlocks 24 = .ok (.laload, 1) := by decide +kernel
theorem dX11_acrossBlocks_25 : decode cX11_acrossBlocks 25 = .ok (.lmul, 1) := by decide +kernel
theorem dX11_acrossBlocks_26 : decode cX11_acrossBlocks 26 = .ok (.ladd, 1) := by decide +kernel
theorem dX11_acrossBlocks_27 : decode cX11_acrossBlocks 27 = .ok (.aload_n 0, 1) := by decide +kernel
theorem dX11_acrossBlocks_28 : decode cX11_acrossBlocks 28 = .ok (.getfield 48, 3) := by decide +kernel
theorem dX11_acrossBlocks_31 : decode cX11_acrossBlocks 31 = .ok (.iconst 1, 1) := by decide +kernel
theorem dX11_acrossBlocks_32 : decode cX11_acrossBlocks 32 = .ok (.iaload, 1) := by decide +kernel
theorem dX11_acrossBlocks_33 : decode cX11_acrossBlocks 33 = .ok (.i2l, 1) := by decide +kernel
theorem dX11_acrossBlocks_34 : decode cX11_acrossBlocks 34 = .ok (.lrem, 1) := by decide +kernel
theorem dX11_acrossBlocks_35 : decode cX11_acrossBlocks 35 = .ok (.lstore_n 1, 1) := by decide +kernel
theorem dX11_acrossBlocks_36 : decode cX11_acrossBlocks 36 = .ok (.iinc 3 1, 3) := by decide +kernel
theorem dX11_acrossBlocks_39 : decode cX11_acrossBlocks 39 = .ok (.goto (-35), 3) := by decide +kernel
theorem dX11_acrossBlocks_42 : decode cX11_acrossBlocks 42 = .ok (.lload_n 1, 1) := by decide +kernel
theorem dX11_acrossBlocks_43 : decode cX11_acrossBlocks 43 = .ok (.l2i, 1) := by decide +kernel
theorem dX11_acrossBlocks_44 : decode cX11_acrossBlocks 44 = .ok (.ireturn, 1) := by decide +kernel
/-- QuotientSumsModel.acrossBlocks()I -/
def wX11_acrossBlocks (thrown : Int32) (taped : Int32) (lines : Int32) (size : Int32) (atF : Int32) (place : Int32) (sort : Int32) (value : Int32) (fault : Int32) (faultPlace : Int32) (lastFault : Int32) (lastPlace : Int32) (undoable : Int32) (hasImage : Int32) (rowOf : Int32) (areSums : Int32) (isSieved : Int32) (blocks : Int32) (drawn : Int32) (inBlock : Nat → Int64) (atQuotient : Nat → Int64) (sF : Nat → Int32)  (Q : (Int32) → Prop) : Prop :=
  (∃ (Inv_1 : (Int64) → (Int32) → Prop) (Mea_1 : (Int64) → (Int32) → Nat), Inv_1 0 0 ∧ ∀ (x1_1 : Int64) (x3_1 : Int32), Inv_1 x1_1 x3_1 → ((blocks ≤ x3_1 → (Q (x1_1.toInt32))) ∧ (¬ blocks ≤ x3_1 → (vp_in x3_1 900 ∧ ∀ t_1 : Int64, t_1 = x1_1 + ((inBlock x3_1.toNatClampNeg) * (atQuotient x3_1.toNatClampNeg)) → ¬ ((sF 1).toInt64) = 0 ∧ ∀ x1_2 : Int64, x1_2 = t_1 - t_1 / ((sF 1).toInt64) * ((sF 1).toInt64) → (Inv_1 x1_2 (x3_1 + 1) ∧ Mea_1 x1_2 (x3_1 + 1) < Mea_1 x1_1 x3_1)))))
set_option maxHeartbeats 4000000 in
set_option maxRecDepth 100000 in
theorem mX11_acrossBlocks (l : Launch) (D : va_G) (Y : Nat → ClassId) (h0 : Nat) (thrown : Int32) (v_tape : Value) (taped : Int32) (v_number : Value) (v_isTold : Value) (v_name : Value) (v_sortOf : Value) (v_first : Value) (v_second : Value) (v_degree : Value) (v_colours : Value) (v_signBy : Value) (v_own : Value) (lines : Int32) (size : Int32) (atF : Int32) (place : Int32) (sort : Int32) (value : Int32) (fault : Int32) (faultPlace : Int32) (lastFault : Int32) (lastPlace : Int32) (q_sF : Nat) (v_kept : Value) (undoable : Int32) (hasImage : Int32) (v_power : Value) (v_table : Value) (v_marks : Value) (v_row : Value) (rowOf : Int32) (areSums : Int32) (isSieved : Int32) (v_lastOf : Value) (blocks : Int32) (q_inBlock : Nat) (q_atQuotient : Nat) (v_small : Value) (drawn : Int32) (inBlock : Nat → Int64) (atQuotient : Nat → Int64) (sF : Nat → Int32)  (Q : (Int32) → Prop) (h : wX11_acrossBlocks thrown taped lines size atF place sort value fault faultPlace lastFault lastPlace undoable hasImage rowOf areSums isSieved blocks drawn inBlock atQuotient sF Q) : gM l D Y yX11_acrossBlocks cX11_acrossBlocks 4 (some .int) 0 0 0 0 [.ref h0] [oX11 h0 thrown (v_tape) taped (v_number) (v_isTold) (v_name) (v_sortOf) (v_first) (v_second) (v_degree) (v_colours) (v_signBy) (v_own) lines size atF place sort value fault faultPlace lastFault lastPlace (.ref q_sF) (v_kept) undoable hasImage (v_power) (v_table) (v_marks) (v_row) rowOf areSums isSieved (v_lastOf) blocks (.ref q_inBlock) (.ref q_atQuotient) (v_small) drawn, aJ Y q_inBlock 900 inBlock, aJ Y q_atQuotient 900 atQuotient, aI Y q_sF 74 sF] (fun v w => ∃ r : Int32, v = some (.int r) ∧ w = [oX11 h0 thrown (v_tape) taped (v_number) (v_isTold) (v_name) (v_sortOf) (v_first) (v_second) (v_degree) (v_colours) (v_signBy) (v_own) lines size atF place sort value fault faultPlace lastFault lastPlace (.ref q_sF) (v_kept) undoable hasImage (v_power) (v_table) (v_marks) (v_row) rowOf areSums isSieved (v_lastOf) blocks (.ref q_inBlock) (.ref q_atQuotient) (v_small) drawn, aJ Y q_inBlock 900 inBlock, aJ Y q_atQuotient 900 atQuotient, aI Y q_sF 74 sF] ∧ Q r) := by
  refine gM_of (own := RX11) (by decide +kernel) rfl (Nat.le_of_ble_eq_true rfl) rfl (fun E C hR => ?_)
  unfold wX11_acrossBlocks at h
  refine g_lconst (v := 0) C dX11_acrossBlocks_0 rfl ?_
  refine g_lstore_n (lv' := [(1, .long 0), (0, .ref h0)]) C dX11_acrossBlocks_1 (by decide) rfl ?_
  refine g_iconst (v := 0) C dX11_acrossBlocks_2 rfl ?_
  refine g_istore_n (lv' := [(3, .int 0), (1, .long 0), (0, .ref h0)]) C dX11_acrossBlocks_3 (by decide) rfl ?_
  obtain ⟨Inv_1, Mea_1, hI1, hB1⟩ := h
  have key_1 : ∀ (n : Nat) (x1_1 : Int64) (x3_1 : Int32) , Mea_1 x1_1 x3_1 < n → Inv_1 x1_1 x3_1 → gG E 0 0 [oX11 h0 thrown (v_tape) taped (v_number) (v_isTold) (v_name) (v_sortOf) (v_first) (v_second) (v_degree) (v_colours) (v_signBy) (v_own) lines size atF place sort value fault faultPlace lastFault lastPlace (.ref q_sF) (v_kept) undoable hasImage (v_power) (v_table) (v_marks) (v_row) rowOf areSums isSieved (v_lastOf) blocks (.ref q_inBlock) (.ref q_atQuotient) (v_small) drawn, aJ Y q_inBlock 900 inBlock, aJ Y q_atQuotient 900 atQuotient, aI Y q_sF 74 sF] [(0, .ref h0), (1, .long x1_1), (3, .int x3_1)] [] 4 := by
    intro n
    induction n with
    | zero => exact fun _ _ hm => absurd hm (Nat.not_lt_zero _)
    | succ n ih1 =>
      intro x1_1 x3_1  hm1 hI
      have h := hB1 x1_1 x3_1 hI
      refine g_iload_n C dX11_acrossBlocks_4 2 rfl ?_
      refine g_aload_n C dX11_acrossBlocks_5 0 rfl ?_
      refine g_get C inX11 0 rfl rfl 35 (by decide) wF_X11_314 rfl dX11_acrossBlocks_6 ?_
      refine g_icmp_ge (tgt := 42) C dX11_acrossBlocks_9 (by decide) (fun c_1 => ?_) (fun c_1 => ?_)
      · replace h := h.1 c_1
        refine g_lload_n C dX11_acrossBlocks_42 1 rfl ?_
        refine g_l2i C dX11_acrossBlocks_43 ?_
        exact g_iret C hR (Nat.le_of_ble_eq_true rfl) (Nat.le_of_ble_eq_true rfl) dX11_acrossBlocks_44 ⟨x1_1.toInt32, rfl, rfl, h⟩
      · replace h := h.2 c_1
        refine g_lload_n C dX11_acrossBlocks_12 1 rfl ?_
        refine g_aload_n C dX11_acrossBlocks_13 0 rfl ?_
        refine g_get C inX11 0 rfl rfl 36 (by decide) wF_X11_71 rfl dX11_acrossBlocks_14 ?_
        refine g_iload_n C dX11_acrossBlocks_17 2 rfl ?_
        obtain ⟨hc_1, h⟩ := h
        refine g_lald C 1 rfl hc_1 dX11_acrossBlocks_18 ?_
        refine g_aload_n C dX11_acrossBlocks_19 0 rfl ?_
        refine g_get C inX11 0 rfl rfl 37 (by decide) wF_X11_74 rfl dX11_acrossBlocks_20 ?_
        refine g_iload_n C dX11_acrossBlocks_23 2 rfl ?_
        refine g_lald C 2 rfl hc_1 dX11_acrossBlocks_24 ?_
        refine g_lmul C dX11_acrossBlocks_25 ?_
        refine g_ladd C dX11_acrossBlocks_26 ?_
        refine g_topl (fun t_1 et_1 => ?_)
        replace h := h t_1 et_1
        refine g_aload_n C dX11_acrossBlocks_27 0 rfl ?_
        refine g_get C inX11 0 rfl rfl 23 (by decide) wF_X11_48 rfl dX11_acrossBlocks_28 ?_
        refine g_iconst (v := 1) C dX11_acrossBlocks_31 rfl ?_
        refine g_iald C 3 rfl (by unfold vp_in; decide) dX11_acrossBlocks_32 ?_
        refine g_i2l C dX11_acrossBlocks_33 ?_
        obtain ⟨hc_2, h⟩ := h
        refine g_lrem C dX11_acrossBlocks_34 hc_2 ?_
        refine g_topl (fun x1_2 ex1_2 => ?_)
        replace h := h x1_2 ex1_2
        refine g_lstore_n (lv' := [(1, .long x1_2), (0, .ref h0), (3, .int x3_1)]) C dX11_acrossBlocks_35 (by decide) rfl ?_
        refine g_iinc (v := x3_1 + 1) (lv' := [(3, .int (x3_1 + 1)), (1, .long x1_2), (0, .ref h0)]) C dX11_acrossBlocks_36 2 rfl rfl (by decide) rfl ?_
        refine g_goto (tgt := 4) C dX11_acrossBlocks_39 (by decide) ?_
        refine gG.locals (lv' := [(0, .ref h0), (1, .long x1_2), (3, .int (x3_1 + 1))]) [2, 1, 0] rfl ?_
        exact ih1 x1_2 (x3_1 + 1) (Nat.lt_of_lt_of_le h.2 (Nat.le_of_lt_succ hm1)) h.1
  refine gG.locals (lv' := [(0, .ref h0), (1, .long 0), (3, .int 0)]) [2, 1, 0] rfl ?_
  exact key_1 (Mea_1 0 0 + 1) 0 0 (Nat.lt_succ_self _) hI1
theorem dX11_hyper_0 : decode cX11_hyper 0 = .ok (.aload_n 0, 1) := by decide +kernel
theorem dX11_hyper_1 : decode cX11_hyper 1 = .ok (.iconst 0, 1) := by decide +kernel
theorem dX11_hyper_2 : decode cX11_hyper 2 = .ok (.putfield 89, 3) := by decide +kernel
theorem dX11_hyper_5 : decode cX11_hyper 5 = .ok (.aload_n 0, 1) := by decide +kernel
theorem dX11_hyper_6 : decode cX11_hyper 6 = .ok (.iload_n 1, 1) := by decide +kernel
theorem dX11_hyper_7 : decode cX11_hyper 7 = .ok (.invokevirtual 241, 3) := by decide +kernel
theorem dX11_hyper_10 : decode cX11_hyper 10 = .ok (.ifCond .eq 20, 3) := by decide +kernel
theorem dX11_hyper_13 : decode cX11_hyper 13 = .ok (.aload_n 0, 1) := by decide +kernel
theorem dX11_hyper_14 : decode cX11_hyper 14 = .ok (.iload_n 2, 1) := by decide +kernel
theorem dX11_hyper_15 : decode cX11_hyper 15 = .ok (.invokevirtual 241, 3) := by decide +kernel
theorem dX11_hyper_18 : decode cX11_hyper 18 = .ok (.ifCond .eq 12, 3) := by decide +kernel
theorem dX11_hyper_21 : decode cX11_hyper 21 = .ok (.aload_n 0, 1) := by decide +kernel
theorem dX11_hyper_22 : decode cX11_hyper 22 = .ok (.iload_n 3, 1) := by decide +kernel
theorem dX11_hyper_23 : decode cX11_hyper 23 = .ok (.iconst 0, 1) := by decide +kernel
theorem dX11_hyper_24 : decode cX11_hyper 24 = .ok (.invokevirtual 282, 3) := by decide +kernel
theorem dX11_hyper_27 : decode cX11_hyper 27 = .ok (.ifCond .ne 5, 3) := by decide +kernel
theorem dX11_hyper_30 : decode cX11_hyper 30 = .ok (.iconst (-1), 1) := by decide +kernel
theorem dX11_hyper_31 : decode cX11_hyper 31 = .ok (.ireturn, 1) := by decide +kernel
theorem dX11_hyper_32 : decode cX11_hyper 32 = .ok (.aload_n 0, 1) := by decide +kernel
theorem dX11_hyper_33 : decode cX11_hyper 33 = .ok (.iload_n 3, 1) := by decide +kernel
theorem dX11_hyper_34 : decode cX11_hyper 34 = .ok (.invokevirtual 317, 3) := by decide +kernel
theorem dX11_hyper_37 : decode cX11_hyper 37 = .ok (.aload_n 0, 1) := by decide +kernel
theorem dX11_hyper_38 : decode cX11_hyper 38 = .ok (.iload_n 1, 1) := by decide +kernel
theorem dX11_hyper_39 : decode cX11_hyper 39 = .ok (.invokevirtual 323, 3) := by decide +kernel
theorem dX11_hyper_42 : decode cX11_hyper 42 = .ok (.aload_n 0, 1) := by decide +kernel
theorem dX11_hyper_43 : decode cX11_hyper 43 = .ok (.iload_n 2, 1) := by decide +kernel
theorem dX11_hyper_44 : decode cX11_hyper 44 = .ok (.iload_n 3, 1) := by decide +kernel
theorem dX11_hyper_45 : decode cX11_hyper 45 = .ok (.invokevirtual 326, 3) := by decide +kernel
theorem dX11_hyper_48 : decode cX11_hyper 48 = .ok (.aload_n 0, 1) := by decide +kernel
theorem dX11_hyper_49 : decode cX11_hyper 49 = .ok (.invokevirtual 329, 3) := by decide +kernel
theorem dX11_hyper_52 : decode cX11_hyper 52 = .ok (.ireturn, 1) := by decide +kernel
/-- QuotientSumsModel.hyper(III)I -/
def wX11_hyper (thrown : Int32) (taped : Int32) (lines : Int32) (size : Int32) (atF : Int32) (place : Int32) (sort : Int32) (value : Int32) (fault : Int32) (faultPlace : Int32) (lastFault : Int32) (lastPlace : Int32) (undoable : Int32) (hasImage : Int32) (rowOf : Int32) (areSums : Int32) (isSieved : Int32) (blocks : Int32) (drawn : Int32) (number : Nat → Int32) (sF : Nat → Int32) (lastOf : Nat → Int32) (row : Nat → Int32) (marks : Nat → Int32) (power : Nat → Int64) (table : Nat → Int64) (sortOf : Nat → Int32) (first : Nat → Int32) (second : Nat → Int32) (signBy : Nat → Int32) (inBlock : Nat → Int64) (atQuotient : Nat → Int64) (a1 : Int32) (a2 : Int32) (a3 : Int32) (Q : (Int32) → (Int32) → (Int32) → (Int32) → (Int32) → (Nat → Int32) → (Nat → Int32) → (Nat → Int64) → (Nat → Int64) → (Nat → Int64) → (Nat → Int64) → Prop) : Prop :=
  (∃ (P_1 : (Int32) → Prop), wX11_isFunction 0 taped lines size atF place sort value fault faultPlace lastFault lastPlace undoable hasImage rowOf areSums isSieved blocks drawn number a1 P_1 ∧ ∀ (rF_1 : Int32), P_1 rF_1 → ((rF_1 = 0 → (Q (-1) 0 rowOf areSums blocks lastOf row power table inBlock atQuotient)) ∧ (¬ rF_1 = 0 → (∃ (P_2 : (Int32) → Prop), wX11_isFunction 0 taped lines size atF place sort value fault faultPlace lastFault lastPlace undoable hasImage rowOf areSums isSieved blocks drawn number a2 P_2 ∧ ∀ (rF_2 : Int32), P_2 rF_2 → ((rF_2 = 0 → (Q (-1) 0 rowOf areSums blocks lastOf row power table inBlock atQuotient)) ∧ (¬ rF_2 = 0 → (∃ (P_3 : (Int32) → Prop), wX11_isIn 0 taped lines size atF place sort value fault faultPlace lastFault lastPlace undoable hasImage rowOf areSums isSieved blocks drawn sF a3 0 P_3 ∧ ∀ (rF_3 : Int32), P_3 rF_3 → ((¬ rF_3 = 0 → (∃ (P_4 : (Int32) → (Nat → Int32) → Prop), wX11_laysBlocks 0 taped lines size atF place sort value fault faultPlace lastFault lastPlace undoable hasImage rowOf areSums isSieved blocks drawn lastOf a3 P_4 ∧ ∀ (blocks_1 : Int32) (lastOf_1 : Nat → Int32), P_4 blocks_1 lastOf_1 → ∃ (P_5 : (Int32) → (Int32) → (Nat → Int32) → (Nat → Int64) → (Nat → Int64) → (Nat → Int64) → Prop), wX11_laysInBlocks 0 taped lines size atF place sort value fault faultPlace lastFault lastPlace undoable hasImage rowOf areSums isSieved blocks_1 drawn sF row marks power table sortOf first second signBy lastOf_1 inBlock a1 P_5 ∧ ∀ (rowOf_1 : Int32) (areSums_1 : Int32) (row_1 : Nat → Int32) (power_1 : Nat → Int64) (table_1 : Nat → Int64) (inBlock_1 : Nat → Int64), P_5 rowOf_1 areSums_1 row_1 power_1 table_1 inBlock_1 → ∃ (P_6 : (Int32) → (Int32) → (Nat → Int32) → (Nat → Int64) → (Nat → Int64) → (Nat → Int64) → Prop), wX11_laysAtQuotients 0 taped lines size atF place sort value fault faultPlace lastFault lastPlace undoable hasImage rowOf_1 areSums_1 isSieved blocks_1 drawn sF row_1 marks power_1 table_1 sortOf first second signBy lastOf_1 atQuotient a2 a3 P_6 ∧ ∀ (rowOf_2 : Int32) (areSums_2 : Int32) (row_2 : Nat → Int32) (power_2 : Nat → Int64) (table_2 : Nat → Int64) (atQuotient_1 : Nat → Int64), P_6 rowOf_2 areSums_2 row_2 power_2 table_2 atQuotient_1 → ∃ (P_7 : (Int32) → Prop), wX11_acrossBlocks 0 taped lines size atF place sort value fault faultPlace lastFault lastPlace undoable hasImage rowOf_2 areSums_2 isSieved blocks_1 drawn inBlock_1 atQuotient_1 sF P_7 ∧ ∀ (rF_4 : Int32), P_7 rF_4 → (Q rF_4 0 rowOf_2 areSums_2 blocks_1 lastOf_1 row_2 power_2 table_2 inBlock_1 atQuotient_1))) ∧ (rF_3 = 0 → (Q (-1) 0 rowOf areSums blocks lastOf row power table inBlock atQuotient))))))))))
set_option maxHeartbeats 4000000 in
set_option maxRecDepth 100000 in
theorem mX11_hyper (l : Launch) (D : va_G) (Y : Nat → ClassId) (h0 : Nat) (thrown : Int32) (v_tape : Value) (taped : Int32) (q_number : Nat) (v_isTold : Value) (v_name : Value) (q_sortOf : Nat) (q_first : Nat) (q_second : Nat) (v_degree : Value) (v_colours : Value) (q_signBy : Nat) (v_own : Value) (lines : Int32) (size : Int32) (atF : Int32) (place : Int32) (sort : Int32) (value : Int32) (fault : Int32) (faultPlace : Int32) (lastFault : Int32) (lastPlace : Int32) (q_sF : Nat) (v_kept : Value) (undoable : Int32) (hasImage : Int32) (q_power : Nat) (q_table : Nat) (q_marks : Nat) (q_row : Nat) (rowOf : Int32) (areSums : Int32) (isSieved : Int32) (q_lastOf : Nat) (blocks : Int32) (q_inBlock : Nat) (q_atQuotient : Nat) (v_small : Value) (drawn : Int32) (number : Nat → Int32) (sF : Nat → Int32) (lastOf : Nat → Int32) (row : Nat → Int32) (marks : Nat → Int32) (power : Nat → Int64) (table : Nat → Int64) (sortOf : Nat → Int32) (first : Nat → Int32) (second : Nat → Int32) (signBy : Nat → Int32) (inBlock : Nat → Int64) (atQuotient : Nat → Int64) (a1 : Int32) (a2 : Int32) (a3 : Int32) (Q : (Int32) → (Int32) → (Int32) → (Int32) → (Int32) → (Nat → Int32) → (Nat → Int32) → (Nat → Int64) → (Nat → Int64) → (Nat → Int64) → (Nat → Int64) → Prop) (h : wX11_hyper thrown taped lines size atF place sort value fault faultPlace lastFault lastPlace undoable hasImage rowOf areSums isSieved blocks drawn number sF lastOf row marks power table sortOf first second signBy inBlock atQuotient a1 a2 a3 Q) : gM l D Y yX11_hyper cX11_hyper 4 (some .int) 5 122 0 0 [.ref h0, .int a1, .int a2, .int a3] [oX11 h0 thrown (v_tape) taped (.ref q_number) (v_isTold) (v_name) (.ref q_sortOf) (.ref q_first) (.ref q_second) (v_degree) (v_colours) (.ref q_signBy) (v_own) lines size atF place sort value fault faultPlace lastFault lastPlace (.ref q_sF) (v_kept) undoable hasImage (.ref q_power) (.ref q_table) (.ref q_marks) (.ref q_row) rowOf areSums isSieved (.ref q_lastOf) blocks (.ref q_inBlock) (.ref q_atQuotient) (v_small) drawn, aI Y q_number 8 number, aI Y q_sF 74 sF, aI Y q_lastOf 900 lastOf, aI Y q_row 200001 row, aI Y q_marks 6251 marks, aJ Y q_power 18 power, aJ Y q_table 216 table, aI Y q_sortOf 24 sortOf, aI Y q_first 24 first, aI Y q_second 24 second, aI Y q_signBy 24 signBy, aJ Y q_inBlock 900 inBlock, aJ Y q_atQuotient 900 atQuotient] (fun v w => ∃ r : Int32, ∃ thrown' : Int32, ∃ rowOf' : Int32, ∃ areSums' : Int32, ∃ blocks' : Int32, ∃ lastOf' : Nat → Int32, ∃ row' : Nat → Int32, ∃ power' : Nat → Int64, ∃ table' : Nat → Int64, ∃ inBlock' : Nat → Int64, ∃ atQuotient' : Nat → Int64, v = some (.int r) ∧ w = [oX11 h0 thrown' (v_tape) taped (.ref q_number) (v_isTold) (v_name) (.ref q_sortOf) (.ref q_first) (.ref q_second) (v_degree) (v_colours) (.ref q_signBy) (v_own) lines size atF place sort value fault faultPlace lastFault lastPlace (.ref q_sF) (v_kept) undoable hasImage (.ref q_power) (.ref q_table) (.ref q_marks) (.ref q_row) rowOf' areSums' isSieved (.ref q_lastOf) blocks' (.ref q_inBlock) (.ref q_atQuotient) (v_small) drawn, aI Y q_number 8 number, aI Y q_sF 74 sF, aI Y q_lastOf 900 lastOf', aI Y q_row 200001 row', aI Y q_marks 6251 marks, aJ Y q_power 18 power', aJ Y q_table 216 table', aI Y q_sortOf 24 sortOf, aI Y q_first 24 first, aI Y q_second 24 second, aI Y q_signBy 24 signBy, aJ Y q_inBlock 900 inBlock', aJ Y q_atQuotient 900 atQuotient'] ∧ Q r thrown' rowOf' areSums' blocks' lastOf' row' power' table' inBlock' atQuotient') := by
  refine gM_of (own := RX11) (by decide +kernel) rfl (Nat.le_of_ble_eq_true rfl) rfl (fun E C hR => ?_)
  unfold wX11_hyper at h
  refine g_aload_n C dX11_hyper_0 0 rfl ?_
  refine g_iconst (v := 0) C dX11_hyper_1 rfl ?_
  refine g_put C inX11 tyX11 tyX11_ok nmX11 0 rfl rfl 0 (by decide) wF_X11_89 rfl rfl rfl (Nat.le_of_ble_eq_true rfl) (ws' := [oX11 h0 0 (v_tape) taped (.ref q_number) (v_isTold) (v_name) (.ref q_sortOf) (.ref q_first) (.ref q_second) (v_degree) (v_colours) (.ref q_signBy) (v_own) lines size atF place sort value fault faultPlace lastFault lastPlace (.ref q_sF) (v_kept) undoable hasImage (.ref q_power) (.ref q_table) (.ref q_marks) (.ref q_row) rowOf areSums isSieved (.ref q_lastOf) blocks (.ref q_inBlock) (.ref q_atQuotient) (v_small) drawn, aI Y q_number 8 number, aI Y q_sF 74 sF, aI Y q_lastOf 900 lastOf, aI Y q_row 200001 row, aI Y q_marks 6251 marks, aJ Y q_power 18 power, aJ Y q_table 216 table, aI Y q_sortOf 24 sortOf, aI Y q_first 24 first, aI Y q_second 24 second, aI Y q_signBy 24 signBy, aJ Y q_inBlock 900 inBlock, aJ Y q_atQuotient 900 atQuotient]) rfl dX11_hyper_2 ?_
  refine g_aload_n C dX11_hyper_5 0 rfl ?_
  refine g_iload_n C dX11_hyper_6 1 rfl ?_
  obtain ⟨P_1, hP, h⟩ := h
  refine g_callV (As := [.int a1]) (rest := []) C (mX11_isFunction l D Y h0 0 v_tape taped q_number v_isTold v_name (.ref q_sortOf) (.ref q_first) (.ref q_second) v_degree v_colours (.ref q_signBy) v_own lines size atF place sort value fault faultPlace lastFault lastPlace (.ref q_sF) v_kept undoable hasImage (.ref q_power) (.ref q_table) (.ref q_marks) (.ref q_row) rowOf areSums isSieved (.ref q_lastOf) blocks (.ref q_inBlock) (.ref q_atQuotient) v_small drawn number a1 P_1 hP) dX11_hyper_7 rfl wM_X11_241 wI_X11_isFunction wV_X11_isFunction wN_X11 wC_X11_isFunction (n := 1) (by decide +kernel) rfl (q0 := 0) rfl rfl ⟨Nat.le_of_ble_eq_true rfl, Nat.le_of_ble_eq_true rfl⟩ ⟨Nat.le_of_ble_eq_true rfl, Nat.le_of_ble_eq_true rfl⟩ (Nat.le_of_ble_eq_true rfl) [0, 1] [2, 3, 4, 5, 6, 7, 8, 9, 10, 11, 12, 13] rfl rfl rfl (fun v wc hv => ?_)
  obtain ⟨rF_1, rfl, rfl, hq⟩ := hv
  replace h := h rF_1 hq
  refine gG.perm (ws' := [oX11 h0 0 (v_tape) taped (.ref q_number) (v_isTold) (v_name) (.ref q_sortOf) (.ref q_first) (.ref q_second) (v_degree) (v_colours) (.ref q_signBy) (v_own) lines size atF place sort value fault faultPlace lastFault lastPlace (.ref q_sF) (v_kept) undoable hasImage (.ref q_power) (.ref q_table) (.ref q_marks) (.ref q_row) rowOf areSums isSieved (.ref q_lastOf) blocks (.ref q_inBlock) (.ref q_atQuotient) (v_small) drawn, aI Y q_number 8 number, aI Y q_sF 74 sF, aI Y q_lastOf 900 lastOf, aI Y q_row 200001 row, aI Y q_marks 6251 marks, aJ Y q_power 18 power, aJ Y q_table 216 table, aI Y q_sortOf 24 sortOf, aI Y q_first 24 first, aI Y q_second 24 second, aI Y q_signBy 24 signBy, aJ Y q_inBlock 900 inBlock, aJ Y q_atQuotient 900 atQuotient]) [12, 13, 0, 1, 2, 3, 4, 5, 6, 7, 8, 9, 10, 11] rfl rfl ?_
  refine g_if_eq (tgt := 30) C dX11_hyper_10 (by decide) (fun c_1 => ?_) (fun c_1 => ?_)
  · replace h := h.1 c_1
    refine g_iconst (v := (-1)) C dX11_hyper_30 rfl ?_
    exact g_iret C hR (Nat.le_of_ble_eq_true rfl) (Nat.le_of_ble_eq_true rfl) dX11_hyper_31 ⟨(-1), 0, rowOf, areSums, blocks, lastOf, row, power, table, inBlock, atQuotient, rfl, rfl, h⟩
  · replace h := h.2 c_1
    refine g_aload_n C dX11_hyper_13 0 rfl ?_
    refine g_iload_n C dX11_hyper_14 2 rfl ?_
    obtain ⟨P_2, hP, h⟩ := h
    refine g_callV (As := [.int a2]) (rest := []) C (mX11_isFunction l D Y h0 0 v_tape taped q_number v_isTold v_name (.ref q_sortOf) (.ref q_first) (.ref q_second) v_degree v_colours (.ref q_signBy) v_own lines size atF place sort value fault faultPlace lastFault lastPlace (.ref q_sF) v_kept undoable hasImage (.ref q_power) (.ref q_table) (.ref q_marks) (.ref q_row) rowOf areSums isSieved (.ref q_lastOf) blocks (.ref q_inBlock) (.ref q_atQuotient) v_small drawn number a2 P_2 hP) dX11_hyper_15 rfl wM_X11_241 wI_X11_isFunction wV_X11_isFunction wN_X11 wC_X11_isFunction (n := 1) (by decide +kernel) rfl (q0 := 0) rfl rfl ⟨Nat.le_of_ble_eq_true rfl, Nat.le_of_ble_eq_true rfl⟩ ⟨Nat.le_of_ble_eq_true rfl, Nat.le_of_ble_eq_true rfl⟩ (Nat.le_of_ble_eq_true rfl) [0, 1] [2, 3, 4, 5, 6, 7, 8, 9, 10, 11, 12, 13] rfl rfl rfl (fun v wc hv => ?_)
    obtain ⟨rF_2, rfl, rfl, hq⟩ := hv
    replace h := h rF_2 hq
    refine gG.perm (ws' := [oX11 h0 0 (v_tape) taped (.ref q_number) (v_isTold) (v_name) (.ref q_sortOf) (.ref q_first) (.ref q_second) (v_degree) (v_colours) (.ref q_signBy) (v_own) lines size atF place sort value fault faultPlace lastFault lastPlace (.ref q_sF) (v_kept) undoable hasImage (.ref q_power) (.ref q_table) (.ref q_marks) (.ref q_row) rowOf areSums isSieved (.ref q_lastOf) blocks (.ref q_inBlock) (.ref q_atQuotient) (v_small) drawn, aI Y q_number 8 number, aI Y q_sF 74 sF, aI Y q_lastOf 900 lastOf, aI Y q_row 200001 row, aI Y q_marks 6251 marks, aJ Y q_power 18 power, aJ Y q_table 216 table, aI Y q_sortOf 24 sortOf, aI Y q_first 24 first, aI Y q_second 24 second, aI Y q_signBy 24 signBy, aJ Y q_inBlock 900 inBlock, aJ Y q_atQuotient 900 atQuotient]) [12, 13, 0, 1, 2, 3, 4, 5, 6, 7, 8, 9, 10, 11] rfl rfl ?_
    refine g_if_eq (tgt := 30) C dX11_hyper_18 (by decide) (fun c_2 => ?_) (fun c_2 => ?_)
    · replace h := h.1 c_2
      refine g_iconst (v := (-1)) C dX11_hyper_30 rfl ?_
      exact g_iret C hR (Nat.le_of_ble_eq_true rfl) (Nat.le_of_ble_eq_true rfl) dX11_hyper_31 ⟨(-1), 0, rowOf, areSums, blocks, lastOf, row, power, table, inBlock, atQuotient, rfl, rfl, h⟩
    · replace h := h.2 c_2
      refine g_aload_n C dX11_hyper_21 0 rfl ?_
      refine g_iload_n C dX11_hyper_22 3 rfl ?_
      refine g_iconst (v := 0) C dX11_hyper_23 rfl ?_
      obtain ⟨P_3, hP, h⟩ := h
      refine g_callV (As := [.int a3, .int 0]) (rest := []) C (mX11_isIn l D Y h0 0 v_tape taped (.ref q_number) v_isTold v_name (.ref q_sortOf) (.ref q_first) (.ref q_second) v_degree v_colours (.ref q_signBy) v_own lines size atF place sort value fault faultPlace lastFault lastPlace q_sF v_kept undoable hasImage (.ref q_power) (.ref q_table) (.ref q_marks) (.ref q_row) rowOf areSums isSieved (.ref q_lastOf) blocks (.ref q_inBlock) (.ref q_atQuotient) v_small drawn sF a3 0 P_3 hP) dX11_hyper_24 rfl wM_X11_282 wI_X11_isIn wV_X11_isIn wN_X11 wC_X11_isIn (n := 2) (by decide +kernel) rfl (q0 := 0) rfl rfl ⟨Nat.le_of_ble_eq_true rfl, Nat.le_of_ble_eq_true rfl⟩ ⟨Nat.le_of_ble_eq_true rfl, Nat.le_of_ble_eq_true rfl⟩ (Nat.le_of_ble_eq_true rfl) [0, 2] [1, 3, 4, 5, 6, 7, 8, 9, 10, 11, 12, 13] rfl rfl rfl (fun v wc hv => ?_)
      obtain ⟨rF_3, rfl, rfl, hq⟩ := hv
      replace h := h rF_3 hq
      refine gG.perm (ws' := [oX11 h0 0 (v_tape) taped (.ref q_number) (v_isTold) (v_name) (.ref q_sortOf) (.ref q_first) (.ref q_second) (v_degree) (v_colours) (.ref q_signBy) (v_own) lines size atF place sort value fault faultPlace lastFault lastPlace (.ref q_sF) (v_kept) undoable hasImage (.ref q_power) (.ref q_table) (.ref q_marks) (.ref q_row) rowOf areSums isSieved (.ref q_lastOf) blocks (.ref q_inBlock) (.ref q_atQuotient) (v_small) drawn, aI Y q_number 8 number, aI Y q_sF 74 sF, aI Y q_lastOf 900 lastOf, aI Y q_row 200001 row, aI Y q_marks 6251 marks, aJ Y q_power 18 power, aJ Y q_table 216 table, aI Y q_sortOf 24 sortOf, aI Y q_first 24 first, aI Y q_second 24 second, aI Y q_signBy 24 signBy, aJ Y q_inBlock 900 inBlock, aJ Y q_atQuotient 900 atQuotient]) [12, 0, 13, 1, 2, 3, 4, 5, 6, 7, 8, 9, 10, 11] rfl rfl ?_
      refine g_if_ne (tgt := 32) C dX11_hyper_27 (by decide) (fun c_3 => ?_) (fun c_3 => ?_)
      · replace h := h.1 c_3
        refine g_aload_n C dX11_hyper_32 0 rfl ?_
        refine g_iload_n C dX11_hyper_33 3 rfl ?_
        obtain ⟨P_4, hP, h⟩ := h
        refine g_callV (As := [.int a3]) (rest := []) C (mX11_laysBlocks l D Y h0 0 v_tape taped (.ref q_number) v_isTold v_name (.ref q_sortOf) (.ref q_first) (.ref q_second) v_degree v_colours (.ref q_signBy) v_own lines size atF place sort value fault faultPlace lastFault lastPlace (.ref q_sF) v_kept undoable hasImage (.ref q_power) (.ref q_table) (.ref q_marks) (.ref q_row) rowOf areSums isSieved q_lastOf blocks (.ref q_inBlock) (.ref q_atQuotient) v_small drawn lastOf a3 P_4 hP) dX11_hyper_34 rfl wM_X11_317 wI_X11_laysBlocks wV_X11_laysBlocks wN_X11 wC_X11_laysBlocks (n := 1) (by decide +kernel) rfl (q0 := 0) rfl rfl ⟨Nat.le_of_ble_eq_true rfl, Nat.le_of_ble_eq_true rfl⟩ ⟨Nat.le_of_ble_eq_true rfl, Nat.le_of_ble_eq_true rfl⟩ (Nat.le_of_ble_eq_true rfl) [0, 3] [1, 2, 4, 5, 6, 7, 8, 9, 10, 11, 12, 13] rfl rfl rfl (fun v wc hv => ?_)
        obtain ⟨blocks_1, lastOf_1, rfl, rfl, hq⟩ := hv
        replace h := h blocks_1 lastOf_1 hq
        refine gG.perm (ws' := [oX11 h0 0 (v_tape) taped (.ref q_number) (v_isTold) (v_name) (.ref q_sortOf) (.ref q_first) (.ref q_second) (v_degree) (v_colours) (.ref q_signBy) (v_own) lines size atF place sort value fault faultPlace lastFault lastPlace (.ref q_sF) (v_kept) undoable hasImage (.ref q_power) (.ref q_table) (.ref q_marks) (.ref q_row) rowOf areSums isSieved (.ref q_lastOf) blocks_1 (.ref q_inBlock) (.ref q_atQuotient) (v_small) drawn, aI Y q_number 8 number, aI Y q_sF 74 sF, aI Y q_lastOf 900 lastOf_1, aI Y q_row 200001 row, aI Y q_marks 6251 marks, aJ Y q_power 18 power, aJ Y q_table 216 table, aI Y q_sortOf 24 sortOf, aI Y q_first 24 first, aI Y q_second 24 second, aI Y q_signBy 24 signBy, aJ Y q_inBlock 900 inBlock, aJ Y q_atQuotient 900 atQuotient]) [12, 0, 1, 13, 2, 3, 4, 5, 6, 7, 8, 9, 10, 11] rfl rfl ?_
        refine g_aload_n C dX11_hyper_37 0 rfl ?_
        refine g_iload_n C dX11_hyper_38 1 rfl ?_
        obtain ⟨P_5, hP, h⟩ := h
        refine g_callV (As := [.int a1]) (rest := []) C (mX11_laysInBlocks l D Y h0 0 v_tape taped (.ref q_number) v_isTold v_name q_sortOf q_first q_second v_degree v_colours q_signBy v_own lines size atF place sort value fault faultPlace lastFault lastPlace q_sF v_kept undoable hasImage q_power q_table q_marks q_row rowOf areSums isSieved q_lastOf blocks_1 q_inBlock (.ref q_atQuotient) v_small drawn sF row marks power table sortOf first second signBy lastOf_1 inBlock a1 P_5 hP) dX11_hyper_39 rfl wM_X11_323 wI_X11_laysInBlocks wV_X11_laysInBlocks wN_X11 wC_X11_laysInBlocks (n := 1) (by decide +kernel) rfl (q0 := 0) rfl rfl ⟨Nat.le_of_ble_eq_true rfl, Nat.le_of_ble_eq_true rfl⟩ ⟨Nat.le_of_ble_eq_true rfl, Nat.le_of_ble_eq_true rfl⟩ (Nat.le_of_ble_eq_true rfl) [0, 2, 4, 5, 6, 7, 8, 9, 10, 11, 3, 12] [1, 13] rfl rfl rfl (fun v wc hv => ?_)
        obtain ⟨rowOf_1, areSums_1, row_1, power_1, table_1, inBlock_1, rfl, rfl, hq⟩ := hv
        replace h := h rowOf_1 areSums_1 row_1 power_1 table_1 inBlock_1 hq
        refine gG.perm (ws' := [oX11 h0 0 (v_tape) taped (.ref q_number) (v_isTold) (v_name) (.ref q_sortOf) (.ref q_first) (.ref q_second) (v_degree) (v_colours) (.ref q_signBy) (v_own) lines size atF place sort value fault faultPlace lastFault lastPlace (.ref q_sF) (v_kept) undoable hasImage (.ref q_power) (.ref q_table) (.ref q_marks) (.ref q_row) rowOf_1 areSums_1 isSieved (.ref q_lastOf) blocks_1 (.ref q_inBlock) (.ref q_atQuotient) (v_small) drawn, aI Y q_number 8 number, aI Y q_sF 74 sF, aI Y q_lastOf 900 lastOf_1, aI Y q_row 200001 row_1, aI Y q_marks 6251 marks, aJ Y q_power 18 power_1, aJ Y q_table 216 table_1, aI Y q_sortOf 24 sortOf, aI Y q_first 24 first, aI Y q_second 24 second, aI Y q_signBy 24 signBy, aJ Y q_inBlock 900 inBlock_1, aJ Y q_atQuotient 900 atQuotient]) [2, 0, 3, 12, 4, 5, 6, 7, 8, 9, 10, 11, 13, 1] rfl rfl ?_
        refine g_aload_n C dX11_hyper_42 0 rfl ?_
        refine g_iload_n C dX11_hyper_43 2 rfl ?_
        refine g_iload_n C dX11_hyper_44 3 rfl ?_
        obtain ⟨P_6, hP, h⟩ := h
        refine g_callV (As := [.int a2, .int a3]) (rest := []) C (mX11_laysAtQuotients l D Y h0 0 v_tape taped (.ref q_number) v_isTold v_name q_sortOf q_first q_second v_degree v_colours q_signBy v_own lines size atF place sort value fault faultPlace lastFault lastPlace q_sF v_kept undoable hasImage q_power q_table q_marks q_row rowOf_1 areSums_1 isSieved q_lastOf blocks_1 (.ref q_inBlock) q_atQuotient v_small drawn sF row_1 marks power_1 table_1 sortOf first second signBy lastOf_1 atQuotient a2 a3 P_6 hP) dX11_hyper_45 rfl wM_X11_326 wI_X11_laysAtQuotients wV_X11_laysAtQuotients wN_X11 wC_X11_laysAtQuotients (n := 2) (by decide +kernel) rfl (q0 := 0) rfl rfl ⟨Nat.le_of_ble_eq_true rfl, Nat.le_of_ble_eq_true rfl⟩ ⟨Nat.le_of_ble_eq_true rfl, Nat.le_of_ble_eq_true rfl⟩ (Nat.le_of_ble_eq_true rfl) [0, 2, 4, 5, 6, 7, 8, 9, 10, 11, 3, 13] [1, 12] rfl rfl rfl (fun v wc hv => ?_)
        obtain ⟨rowOf_2, areSums_2, row_2, power_2, table_2, atQuotient_1, rfl, rfl, hq⟩ := hv
        replace h := h rowOf_2 areSums_2 row_2 power_2 table_2 atQuotient_1 hq
        refine gG.perm (ws' := [oX11 h0 0 (v_tape) taped (.ref q_number) (v_isTold) (v_name) (.ref q_sortOf) (.ref q_first) (.ref q_second) (v_degree) (v_colours) (.ref q_signBy) (v_own) lines size atF place sort value fault faultPlace lastFault lastPlace (.ref q_sF) (v_kept) undoable hasImage (.ref q_power) (.ref q_table) (.ref q_marks) (.ref q_row) rowOf_2 areSums_2 isSieved (.ref q_lastOf) blocks_1 (.ref q_inBlock) (.ref q_atQuotient) (v_small) drawn, aI Y q_number 8 number, aI Y q_sF 74 sF, aI Y q_lastOf 900 lastOf_1, aI Y q_row 200001 row_2, aI Y q_marks 6251 marks, aJ Y q_power 18 power_2, aJ Y q_table 216 table_2, aI Y q_sortOf 24 sortOf, aI Y q_first 24 first, aI Y q_second 24 second, aI Y q_signBy 24 signBy, aJ Y q_inBlock 900 inBlock_1, aJ Y q_atQuotient 900 atQuotient_1]) [2, 0, 3, 12, 4, 5, 6, 7, 8, 9, 10, 11, 1, 13] rfl rfl ?_
        refine g_aload_n C dX11_hyper_48 0 rfl ?_
        obtain ⟨P_7, hP, h⟩ := h
        refine g_callV (As := []) (rest := []) C (mX11_acrossBlocks l D Y h0 0 v_tape taped (.ref q_number) v_isTold v_name (.ref q_sortOf) (.ref q_first) (.ref q_second) v_degree v_colours (.ref q_signBy) v_own lines size atF place sort value fault faultPlace lastFault lastPlace q_sF v_kept undoable hasImage (.ref q_power) (.ref q_table) (.ref q_marks) (.ref q_row) rowOf_2 areSums_2 isSieved (.ref q_lastOf) blocks_1 q_inBlock q_atQuotient v_small drawn inBlock_1 atQuotient_1 sF P_7 hP) dX11_hyper_49 rfl wM_X11_329 wI_X11_acrossBlocks wV_X11_acrossBlocks wN_X11 wC_X11_acrossBlocks (n := 0) (by decide +kernel) rfl (q0 := 0) rfl rfl ⟨Nat.le_of_ble_eq_true rfl, Nat.le_of_ble_eq_true rfl⟩ ⟨Nat.le_of_ble_eq_true rfl, Nat.le_of_ble_eq_true rfl⟩ (Nat.le_of_ble_eq_true rfl) [0, 12, 13, 2] [1, 3, 4, 5, 6, 7, 8, 9, 10, 11] rfl rfl rfl (fun v wc hv => ?_)
        obtain ⟨rF_4, rfl, rfl, hq⟩ := hv
        replace h := h rF_4 hq
        refine gG.perm (ws' := [oX11 h0 0 (v_tape) taped (.ref q_number) (v_isTold) (v_name) (.ref q_sortOf) (.ref q_first) (.ref q_second) (v_degree) (v_colours) (.ref q_signBy) (v_own) lines size atF place sort value fault faultPlace lastFault lastPlace (.ref q_sF) (v_kept) undoable hasImage (.ref q_power) (.ref q_table) (.ref q_marks) (.ref q_row) rowOf_2 areSums_2 isSieved (.ref q_lastOf) blocks_1 (.ref q_inBlock) (.ref q_atQuotient) (v_small) drawn, aI Y q_number 8 number, aI Y q_sF 74 sF, aI Y q_lastOf 900 lastOf_1, aI Y q_row 200001 row_2, aI Y q_marks 6251 marks, aJ Y q_power 18 power_2, aJ Y q_table 216 table_2, aI Y q_sortOf 24 sortOf, aI Y q_first 24 first, aI Y q_second 24 second, aI Y q_signBy 24 signBy, aJ Y q_inBlock 900 inBlock_1, aJ Y q_atQuotient 900 atQuotient_1]) [10, 0, 13, 1, 2, 3, 4, 5, 6, 7, 8, 9, 11, 12] rfl rfl ?_
        exact g_iret C hR (Nat.le_of_ble_eq_true rfl) (Nat.le_of_ble_eq_true rfl) dX11_hyper_52 ⟨rF_4, 0, rowOf_2, areSums_2, blocks_1, lastOf_1, row_2, power_2, table_2, inBlock_1, atQuotient_1, rfl, rfl, h⟩
      · replace h := h.2 c_3
        refine g_iconst (v := (-1)) C dX11_hyper_30 rfl ?_
        exact g_iret C hR (Nat.le_of_ble_eq_true rfl) (Nat.le_of_ble_eq_true rfl) dX11_hyper_31 ⟨(-1), 0, rowOf, areSums, blocks, lastOf, row, power, table, inBlock, atQuotient, rfl, rfl, h⟩
theorem dX11_blocks_0 : decode cX11_blocks 0 = .ok (.aload_n 0, 1) := by decide +kernel
theorem dX11_blocks_1 : decode cX11_blocks 1 = .ok (.iconst 0, 1) := by decide +kernel
theorem dX11_blocks_2 : decode cX11_blocks 2 = .ok (.putfield 89, 3) := by decide +kernel
theorem dX11_blocks_5 : decode cX11_blocks 5 = .ok (.aload_n 0, 1) := by decide +kernel
theorem dX11_blocks_6 : decode cX11_blocks 6 = .ok (.iload_n 1, 1) := by decide +kernel
theorem dX11_blocks_7 : decode cX11_blocks 7 = .ok (.invokevirtual 241, 3) := by decide +kernel
theorem dX11_blocks_10 : decode cX11_blocks 10 = .ok (.ifCond .eq 12, 3) := by decide +kernel
theorem dX11_blocks_13 : decode cX11_blocks 13 = .ok (.aload_n 0, 1) := by decide +kernel
theorem dX11_blocks_14 : decode cX11_blocks 14 = .ok (.iload_n 2, 1) := by decide +kernel
theorem dX11_blocks_15 : decode cX11_blocks 15 = .ok (.iconst 1, 1) := by decide +kernel
theorem dX11_blocks_16 : decode cX11_blocks 16 = .ok (.invokevirtual 282, 3) := by decide +kernel
theorem dX11_blocks_19 : decode cX11_blocks 19 = .ok (.ifCond .ne 5, 3) := by decide +kernel
theorem dX11_blocks_22 : decode cX11_blocks 22 = .ok (.iconst (-1), 1) := by decide +kernel
theorem dX11_blocks_23 : decode cX11_blocks 23 = .ok (.ireturn, 1) := by decide +kernel
theorem dX11_blocks_24 : decode cX11_blocks 24 = .ok (.aload_n 0, 1) := by decide +kernel
theorem dX11_blocks_25 : decode cX11_blocks 25 = .ok (.iload_n 2, 1) := by decide +kernel
theorem dX11_blocks_26 : decode cX11_blocks 26 = .ok (.invokevirtual 317, 3) := by decide +kernel
theorem dX11_blocks_29 : decode cX11_blocks 29 = .ok (.aload_n 0, 1) := by decide +kernel
theorem dX11_blocks_30 : decode cX11_blocks 30 = .ok (.iload_n 1, 1) := by decide +kernel
theorem dX11_blocks_31 : decode cX11_blocks 31 = .ok (.iload_n 2, 1) := by decide +kernel
theorem dX11_blocks_32 : decode cX11_blocks 32 = .ok (.invokevirtual 326, 3) := by decide +kernel
theorem dX11_blocks_35 : decode cX11_blocks 35 = .ok (.iconst 0, 1) := by decide +kernel
theorem dX11_blocks_36 : decode cX11_blocks 36 = .ok (.istore_n 3, 1) := by decide +kernel
theorem dX11_blocks_37 : decode cX11_blocks 37 = .ok (.iload_n 3, 1) := by decide +kernel
theorem dX11_blocks_38 : decode cX11_blocks 38 = .ok (.aload_n 0, 1) := by decide +kernel
theorem dX11_blocks_39 : decode cX11_blocks 39 = .ok (.getfield 314, 3) := by decide +kernel
theorem dX11_blocks_42 : decode cX11_blocks 42 = .ok (.if_icmp .ge 34, 3) := by decide +kernel
theorem dX11_blocks_45 : decode cX11_blocks 45 = .ok (.aload_n 0, 1) := by decide +kernel
theorem dX11_blocks_46 : decode cX11_blocks 46 = .ok (.getfield 71, 3) := by decide +kernel
theorem dX11_blocks_49 : decode cX11_blocks 49 = .ok (.iload_n 3, 1) := by decide +kernel
theorem dX11_blocks_50 : decode cX11_blocks 50 = .ok (.aload_n 0, 1) := by decide +kernel
theorem dX11_blocks_51 : decode cX11_blocks 51 = .ok (.aload_n 0, 1) := by decide +kernel
theorem dX11_blocks_52 : decode cX11_blocks 52 = .ok (.getfield 68, 3) := by decide +kernel
theorem dX11_blocks_55 : decode cX11_blocks 55 = .ok (.iload_n 3, 1) := by decide +kernel
theorem dX11_blocks_56 : decode cX11_blocks 56 = .ok (.iaload, 1) := by decide +kernel
theorem dX11_blocks_57 : decode cX11_blocks 57 = .ok (.aload_n 0, 1) := by decide +kernel
theorem dX11_blocks_58 : decode cX11_blocks 58 = .ok (.iload_n 3, 1) := by decide +kernel
theorem dX11_blocks_59 : decode cX11_blocks 59 = .ok (.invokevirtual 320, 3) := by decide +kernel
theorem dX11_blocks_62 : decode cX11_blocks 62 = .ok (.isub, 1) := by decide +kernel
theorem dX11_blocks_63 : decode cX11_blocks 63 = .ok (.iconst 1, 1) := by decide +kernel
theorem dX11_blocks_64 : decode cX11_blocks 64 = .ok (.iadd, 1) := by decide +kernel
theorem dX11_blocks_65 : decode cX11_blocks 65 = .ok (.i2l, 1) := by decide +kernel
theorem dX11_blocks_66 : decode cX11_blocks 66 = .ok (.invokevirtual 256, 3) := by decide +kernel
theorem dX11_blocks_69 : decode cX11_blocks 69 = .ok (.lastore, 1) := by decide +kernel
theorem dX11_blocks_70 : decode cX11_blocks 70 = .ok (.iinc 3 1, 3) := by decide +kernel
theorem dX11_blocks_73 : decode cX11_blocks 73 = .ok (.goto (-36), 3) := by decide +kernel
theorem dX11_blocks_76 : decode cX11_blocks 76 = .ok (.aload_n 0, 1) := by decide +kernel
theorem dX11_blocks_77 : decode cX11_blocks 77 = .ok (.invokevirtual 329, 3) := by decide +kernel
theorem dX11_blocks_80 : decode cX11_blocks 80 = .ok (.ireturn, 1) := by decide +kernel
/-- QuotientSumsModel.blocks(II)I -/
def wX11_blocks (thrown : Int32) (taped : Int32) (lines : Int32) (size : Int32) (atF : Int32) (place : Int32) (sort : Int32) (value : Int32) (fault : Int32) (faultPlace : Int32) (lastFault : Int32) (lastPlace : Int32) (undoable : Int32) (hasImage : Int32) (rowOf : Int32) (areSums : Int32) (isSieved : Int32) (blocks : Int32) (drawn : Int32) (number : Nat → Int32) (sF : Nat → Int32) (lastOf : Nat → Int32) (row : Nat → Int32) (marks : Nat → Int32) (power : Nat → Int64) (table : Nat → Int64) (sortOf : Nat → Int32) (first : Nat → Int32) (second : Nat → Int32) (signBy : Nat → Int32) (atQuotient : Nat → Int64) (inBlock : Nat → Int64) (a1 : Int32) (a2 : Int32) (Q : (Int32) → (Int32) → (Int32) → (Int32) → (Int32) → (Nat → Int32) → (Nat → Int32) → (Nat → Int64) → (Nat → Int64) → (Nat → Int64) → (Nat → Int64) → Prop) : Prop :=
  (∃ (P_1 : (Int32) → Prop), wX11_isFunction 0 taped lines size atF place sort value fault faultPlace lastFault lastPlace undoable hasImage rowOf areSums isSieved blocks drawn number a1 P_1 ∧ ∀ (rF_1 : Int32), P_1 rF_1 → ((rF_1 = 0 → (Q (-1) 0 rowOf areSums blocks lastOf row power table atQuotient inBlock)) ∧ (¬ rF_1 = 0 → (∃ (P_2 : (Int32) → Prop), wX11_isIn 0 taped lines size atF place sort value fault faultPlace lastFault lastPlace undoable hasImage rowOf areSums isSieved blocks drawn sF a2 1 P_2 ∧ ∀ (rF_2 : Int32), P_2 rF_2 → ((¬ rF_2 = 0 → (∃ (P_3 : (Int32) → (Nat → Int32) → Prop), wX11_laysBlocks 0 taped lines size atF place sort value fault faultPlace lastFault lastPlace undoable hasImage rowOf areSums isSieved blocks drawn lastOf a2 P_3 ∧ ∀ (blocks_1 : Int32) (lastOf_1 : Nat → Int32), P_3 blocks_1 lastOf_1 → ∃ (P_4 : (Int32) → (Int32) → (Nat → Int32) → (Nat → Int64) → (Nat → Int64) → (Nat → Int64) → Prop), wX11_laysAtQuotients 0 taped lines size atF place sort value fault faultPlace lastFault lastPlace undoable hasImage rowOf areSums isSieved blocks_1 drawn sF row marks power table sortOf first second signBy lastOf_1 atQuotient a1 a2 P_4 ∧ ∀ (rowOf_1 : Int32) (areSums_1 : Int32) (row_1 : Nat → Int32) (power_1 : Nat → Int64) (table_1 : Nat → Int64) (atQuotient_1 : Nat → Int64), P_4 rowOf_1 areSums_1 row_1 power_1 table_1 atQuotient_1 → (∃ (Inv_1 : (Nat → Int64) → (Int32) → Prop) (Mea_1 : (Nat → Int64) → (Int32) → Nat), Inv_1 inBlock 0 ∧ ∀ (inBlock_1 : Nat → Int64) (x3_1 : Int32), Inv_1 inBlock_1 x3_1 → ((blocks_1 ≤ x3_1 → (∃ (P_5 : (Int32) → Prop), wX11_acrossBlocks 0 taped lines size atF place sort value fault faultPlace lastFault lastPlace undoable hasImage rowOf_1 areSums_1 isSieved blocks_1 drawn inBlock_1 atQuotient_1 sF P_5 ∧ ∀ (rF_3 : Int32), P_5 rF_3 → (Q rF_3 0 rowOf_1 areSums_1 blocks_1 lastOf_1 row_1 power_1 table_1 atQuotient_1 inBlock_1))) ∧ (¬ blocks_1 ≤ x3_1 → (vp_in x3_1 900 ∧ ∃ (P_6 : (Int32) → Prop), wX11_firstOf 0 taped lines size atF place sort value fault faultPlace lastFault lastPlace undoable hasImage rowOf_1 areSums_1 isSieved blocks_1 drawn lastOf_1 x3_1 P_6 ∧ ∀ (rF_4 : Int32), P_6 rF_4 → ∃ (P_7 : (Int64) → Prop), wX11_rest 0 taped lines size atF place sort value fault faultPlace lastFault lastPlace undoable hasImage rowOf_1 areSums_1 isSieved blocks_1 drawn sF ((((lastOf_1 x3_1.toNatClampNeg) - rF_4) + 1).toInt64) P_7 ∧ ∀ (rF_5 : Int64), P_7 rF_5 → vp_in x3_1 900 ∧ ∀ inBlock_2 : Nat → Int64, inBlock_2 = vp_updL inBlock_1 x3_1.toNatClampNeg rF_5 → (Inv_1 inBlock_2 (x3_1 + 1) ∧ Mea_1 inBlock_2 (x3_1 + 1) < Mea_1 inBlock_1 x3_1))))))) ∧ (rF_2 = 0 → (Q (-1) 0 rowOf areSums blocks lastOf row power table atQuotient inBlock)))))))
set_option maxHeartbeats 4000000 in
set_option maxRecDepth 100000 in
theorem mX11_blocks (l : Launch) (D : va_G) (Y : Nat → ClassId) (h0 : Nat) (thrown : Int32) (v_tape : Value) (taped : Int32) (q_number : Nat) (v_isTold : Value) (v_name : Value) (q_sortOf : Nat) (q_first : Nat) (q_second : Nat) (v_degree : Value) (v_colours : Value) (q_signBy : Nat) (v_own : Value) (lines : Int32) (size : Int32) (atF : Int32) (place : Int32) (sort : Int32) (value : Int32) (fault : Int32) (faultPlace : Int32) (lastFault : Int32) (lastPlace : Int32) (q_sF : Nat) (v_kept : Value) (undoable : Int32) (hasImage : Int32) (q_power : Nat) (q_table : Nat) (q_marks : Nat) (q_row : Nat) (rowOf : Int32) (areSums : Int32) (isSieved : Int32) (q_lastOf : Nat) (blocks : Int32) (q_inBlock : Nat) (q_atQuotient : Nat) (v_small : Value) (drawn : Int32) (number : Nat → Int32) (sF : Nat → Int32) (lastOf : Nat → Int32) (row : Nat → Int32) (marks : Nat → Int32) (power : Nat → Int64) (table : Nat → Int64) (sortOf : Nat → Int32) (first : Nat → Int32) (second : Nat → Int32) (signBy : Nat → Int32) (atQuotient : Nat → Int64) (inBlock : Nat → Int64) (a1 : Int32) (a2 : Int32) (Q : (Int32) → (Int32) → (Int32) → (Int32) → (Int32) → (Nat → Int32) → (Nat → Int32) → (Nat → Int64) → (Nat → Int64) → (Nat → Int64) → (Nat → Int64) → Prop) (h : wX11_blocks thrown taped lines size atF place sort value fault faultPlace lastFault lastPlace undoable hasImage rowOf areSums isSieved blocks drawn number sF lastOf row marks power table sortOf first second signBy atQuotient inBlock a1 a2 Q) : gM l D Y yX11_blocks cX11_blocks 4 (some .int) 5 122 0 0 [.ref h0, .int a1, .int a2] [oX11 h0 thrown (v_tape) taped (.ref q_number) (v_isTold) (v_name) (.ref q_sortOf) (.ref q_first) (.ref q_second) (v_degree) (v_colours) (.ref q_signBy) (v_own) lines size atF place sort value fault faultPlace lastFault lastPlace (.ref q_sF) (v_kept) undoable hasImage (.ref q_power) (.ref q_table) (.ref q_marks) (.ref q_row) rowOf areSums isSieved (.ref q_lastOf) blocks (.ref q_inBlock) (.ref q_atQuotient) (v_small) drawn, aI Y q_number 8 number, aI Y q_sF 74 sF, aI Y q_lastOf 900 lastOf, aI Y q_row 200001 row, aI Y q_marks 6251 marks, aJ Y q_power 18 power, aJ Y q_table 216 table, aI Y q_sortOf 24 sortOf, aI Y q_first 24 first, aI Y q_second 24 second, aI Y q_signBy 24 signBy, aJ Y q_atQuotient 900 atQuotient, aJ Y q_inBlock 900 inBlock] (fun v w => ∃ r : Int32, ∃ thrown' : Int32, ∃ rowOf' : Int32, ∃ areSums' : Int32, ∃ blocks' : Int32, ∃ lastOf' : Nat → Int32, ∃ row' : Nat → Int32, ∃ power' : Nat → Int64, ∃ table' : Nat → Int64, ∃ atQuotient' : Nat → Int64, ∃ inBlock' : Nat → Int64, v = some (.int r) ∧ w = [oX11 h0 thrown' (v_tape) taped (.ref q_number) (v_isTold) (v_name) (.ref q_sortOf) (.ref q_first) (.ref q_second) (v_degree) (v_colours) (.ref q_signBy) (v_own) lines size atF place sort value fault faultPlace lastFault lastPlace (.ref q_sF) (v_kept) undoable hasImage (.ref q_power) (.ref q_table) (.ref q_marks) (.ref q_row) rowOf' areSums' isSieved (.ref q_lastOf) blocks' (.ref q_inBlock) (.ref q_atQuotient) (v_small) drawn, aI Y q_number 8 number, aI Y q_sF 74 sF, aI Y q_lastOf 900 lastOf', aI Y q_row 200001 row', aI Y q_marks 6251 marks, aJ Y q_power 18 power', aJ Y q_table 216 table', aI Y q_sortOf 24 sortOf, aI Y q_first 24 first, aI Y q_second 24 second, aI Y q_signBy 24 signBy, aJ Y q_atQuotient 900 atQuotient', aJ Y q_inBlock 900 inBlock'] ∧ Q r thrown' rowOf' areSums' blocks' lastOf' row' power' table' atQuotient' inBlock') := by
  refine gM_of (own := RX11) (by decide +kernel) rfl (Nat.le_of_ble_eq_true rfl) rfl (fun E C hR => ?_)
  unfold wX11_blocks at h
  refine g_aload_n C dX11_blocks_0 0 rfl ?_
  refine g_iconst (v := 0) C dX11_blocks_1 rfl ?_
  refine g_put C inX11 tyX11 tyX11_ok nmX11 0 rfl rfl 0 (by decide) wF_X11_89 rfl rfl rfl (Nat.le_of_ble_eq_true rfl) (ws' := [oX11 h0 0 (v_tape) taped (.ref q_number) (v_isTold) (v_name) (.ref q_sortOf) (.ref q_first) (.ref q_second) (v_degree) (v_colours) (.ref q_signBy) (v_own) lines size atF place sort value fault faultPlace lastFault lastPlace (.ref q_sF) (v_kept) undoable hasImage (.ref q_power) (.ref q_table) (.ref q_marks) (.ref q_row) rowOf areSums isSieved (.ref q_lastOf) blocks (.ref q_inBlock) (.ref q_atQuotient) (v_small) drawn, aI Y q_number 8 number, aI Y q_sF 74 sF, aI Y q_lastOf 900 lastOf, aI Y q_row 200001 row, aI Y q_marks 6251 marks, aJ Y q_power 18 power, aJ Y q_table 216 table, aI Y q_sortOf 24 sortOf, aI Y q_first 24 first, aI Y q_second 24 second, aI Y q_signBy 24 signBy, aJ Y q_atQuotient 900 atQuotient, aJ Y q_inBlock 900 inBlock]) rfl dX11_blocks_2 ?_
  refine g_aload_n C dX11_blocks_5 0 rfl ?_
  refine g_iload_n C dX11_blocks_6 1 rfl ?_
  obtain ⟨P_1, hP, h⟩ := h
  refine g_callV (As := [.int a1]) (rest := []) C (mX11_isFunction l D Y h0 0 v_tape taped q_number v_isTold v_name (.ref q_sortOf) (.ref q_first) (.ref q_second) v_degree v_colours (.ref q_signBy) v_own lines size atF place sort value fault faultPlace lastFault lastPlace (.ref q_sF) v_kept undoable hasImage (.ref q_power) (.ref q_table) (.ref q_marks) (.ref q_row) rowOf areSums isSieved (.ref q_lastOf) blocks (.ref q_inBlock) (.ref q_atQuotient) v_small drawn number a1 P_1 hP) dX11_blocks_7 rfl wM_X11_241 wI_X11_isFunction wV_X11_isFunction wN_X11 wC_X11_isFunction (n := 1) (by decide +kernel) rfl (q0 := 0) rfl rfl ⟨Nat.le_of_ble_eq_true rfl, Nat.le_of_ble_eq_true rfl⟩ ⟨Nat.le_of_ble_eq_true rfl, Nat.le_of_ble_eq_true rfl⟩ (Nat.le_of_ble_eq_true rfl) [0, 1] [2, 3, 4, 5, 6, 7, 8, 9, 10, 11, 12, 13] rfl rfl rfl (fun v wc hv => ?_)
  obtain ⟨rF_1, rfl, rfl, hq⟩ := hv
  replace h := h rF_1 hq
  refine gG.perm (ws' := [oX11 h0 0 (v_tape) taped (.ref q_number) (v_isTold) (v_name) (.ref q_sortOf) (.ref q_first) (.ref q_second) (v_degree) (v_colours) (.ref q_signBy) (v_own) lines size atF place sort value fault faultPlace lastFault lastPlace (.ref q_sF) (v_kept) undoable hasImage (.ref q_power) (.ref q_table) (.ref q_marks) (.ref q_row) rowOf areSums isSieved (.ref q_lastOf) blocks (.ref q_inBlock) (.ref q_atQuotient) (v_small) drawn, aI Y q_number 8 number, aI Y q_sF 74 sF, aI Y q_lastOf 900 lastOf, aI Y q_row 200001 row, aI Y q_marks 6251 marks, aJ Y q_power 18 power, aJ Y q_table 216 table, aI Y q_sortOf 24 sortOf, aI Y q_first 24 first, aI Y q_second 24 second, aI Y q_signBy 24 signBy, aJ Y q_atQuotient 900 atQuotient, aJ Y q_inBlock 900 inBlock]) [12, 13, 0, 1, 2, 3, 4, 5, 6, 7, 8, 9, 10, 11] rfl rfl ?_
  refine g_if_eq (tgt := 22) C dX11_blocks_10 (by decide) (fun c_1 => ?_) (fun c_1 => ?_)
  · replace h := h.1 c_1
    refine g_iconst (v := (-1)) C dX11_blocks_22 rfl ?_
    exact g_iret C hR (Nat.le_of_ble_eq_true rfl) (Nat.le_of_ble_eq_true rfl) dX11_blocks_23 ⟨(-1), 0, rowOf, areSums, blocks, lastOf, row, power, table, atQuotient, inBlock, rfl, rfl, h⟩
  · replace h := h.2 c_1
    refine g_aload_n C dX11_blocks_13 0 rfl ?_
    refine g_iload_n C dX11_blocks_14 2 rfl ?_
    refine g_iconst (v := 1) C dX11_blocks_15 rfl ?_
    obtain ⟨P_2, hP, h⟩ := h
    refine g_callV (As := [.int a2, .int 1]) (rest := []) C (mX11_isIn l D Y h0 0 v_tape taped (.ref q_number) v_isTold v_name (.ref q_sortOf) (.ref q_first) (.ref q_second) v_degree v_colours (.ref q_signBy) v_own lines size atF place sort value fault faultPlace lastFault lastPlace q_sF v_kept undoable hasImage (.ref q_power) (.ref q_table) (.ref q_marks) (.ref q_row) rowOf areSums isSieved (.ref q_lastOf) blocks (.ref q_inBlock) (.ref q_atQuotient) v_small drawn sF a2 1 P_2 hP) dX11_blocks_16 rfl wM_X11_282 wI_X11_isIn wV_X11_isIn wN_X11 wC_X11_isIn (n := 2) (by decide +kernel) rfl (q0 := 0) rfl rfl ⟨Nat.le_of_ble_eq_true rfl, Nat.le_of_ble_eq_true rfl⟩ ⟨Nat.le_of_ble_eq_true rfl, Nat.le_of_ble_eq_true rfl⟩ (Nat.le_of_ble_eq_true rfl) [0, 2] [1, 3, 4, 5, 6, 7, 8, 9, 10, 11, 12, 13] rfl rfl rfl (fun v wc hv => ?_)
    obtain ⟨rF_2, rfl, rfl, hq⟩ := hv
    replace h := h rF_2 hq
    refine gG.perm (ws' := [oX11 h0 0 (v_tape) taped (.ref q_number) (v_isTold) (v_name) (.ref q_sortOf) (.ref q_first) (.ref q_second) (v_degree) (v_colours) (.ref q_signBy) (v_own) lines size atF place sort value fault faultPlace lastFault lastPlace (.ref q_sF) (v_kept) undoable hasImage (.ref q_power) (.ref q_table) (.ref q_marks) (.ref q_row) rowOf areSums isSieved (.ref q_lastOf) blocks (.ref q_inBlock) (.ref q_atQuotient) (v_small) drawn, aI Y q_number 8 number, aI Y q_sF 74 sF, aI Y q_lastOf 900 lastOf, aI Y q_row 200001 row, aI Y q_marks 6251 marks, aJ Y q_power 18 power, aJ Y q_table 216 table, aI Y q_sortOf 24 sortOf, aI Y q_first 24 first, aI Y q_second 24 second, aI Y q_signBy 24 signBy, aJ Y q_atQuotient 900 atQuotient, aJ Y q_inBlock 900 inBlock]) [12, 0, 13, 1, 2, 3, 4, 5, 6, 7, 8, 9, 10, 11] rfl rfl ?_
    refine g_if_ne (tgt := 24) C dX11_blocks_19 (by decide) (fun c_2 => ?_) (fun c_2 => ?_)
    · replace h := h.1 c_2
      refine g_aload_n C dX11_blocks_24 0 rfl ?_
      refine g_iload_n C dX11_blocks_25 2 rfl ?_
      obtain ⟨P_3, hP, h⟩ := h
      refine g_callV (As := [.int a2]) (rest := []) C (mX11_laysBlocks l D Y h0 0 v_tape taped (.ref q_number) v_isTold v_name (.ref q_sortOf) (.ref q_first) (.ref q_second) v_degree v_colours (.ref q_signBy) v_own lines size atF place sort value fault faultPlace lastFault lastPlace (.ref q_sF) v_kept undoable hasImage (.ref q_power) (.ref q_table) (.ref q_marks) (.ref q_row) rowOf areSums isSieved q_lastOf blocks (.ref q_inBlock) (.ref q_atQuotient) v_small drawn lastOf a2 P_3 hP) dX11_blocks_26 rfl wM_X11_317 wI_X11_laysBlocks wV_X11_laysBlocks wN_X11 wC_X11_laysBlocks (n := 1) (by decide +kernel) rfl (q0 := 0) rfl rfl ⟨Nat.le_of_ble_eq_true rfl, Nat.le_of_ble_eq_true rfl⟩ ⟨Nat.le_of_ble_eq_true rfl, Nat.le_of_ble_eq_true rfl⟩ (Nat.le_of_ble_eq_true rfl) [0, 3] [1, 2, 4, 5, 6, 7, 8, 9, 10, 11, 12, 13] rfl rfl rfl (fun v wc hv => ?_)
      obtain ⟨blocks_1, lastOf_1, rfl, rfl, hq⟩ := hv
      replace h := h blocks_1 lastOf_1 hq
      refine gG.perm (ws' := [oX11 h0 0 (v_tape) taped (.ref q_number) (v_isTold) (v_name) (.ref q_sortOf) (.ref q_first) (.ref q_second) (v_degree) (v_colours) (.ref q_signBy) (v_own) lines size atF place sort value fault faultPlace lastFault lastPlace (.ref q_sF) (v_kept) undoable hasImage (.ref q_power) (.ref q_table) (.ref q_marks) (.ref q_row) rowOf areSums isSieved (.ref q_lastOf) blocks_1 (.ref q_inBlock) (.ref q_atQuotient) (v_small) drawn, aI Y q_number 8 number, aI Y q_sF 74 sF, aI Y q_lastOf 900 lastOf_1, aI Y q_row 200001 row, aI Y q_marks 6251 marks, aJ Y q_power 18 power, aJ Y q_table 216 table, aI Y q_sortOf 24 sortOf, aI Y q_first 24 first, aI Y q_second 24 second, aI Y q_signBy 24 signBy, aJ Y q_atQuotient 900 atQuotient, aJ Y q_inBlock 900 inBlock]) [12, 0, 1, 13, 2, 3, 4, 5, 6, 7, 8, 9, 10, 11] rfl rfl ?_
      refine g_aload_n C dX11_blocks_29 0 rfl ?_
      refine g_iload_n C dX11_blocks_30 1 rfl ?_
      refine g_iload_n C dX11_blocks_31 2 rfl ?_
      obtain ⟨P_4, hP, h⟩ := h
      refine g_callV (As := [.int a1, .int a2]) (rest := []) C (mX11_laysAtQuotients l D Y h0 0 v_tape taped (.ref q_number) v_isTold v_name q_sortOf q_first q_second v_degree v_colours q_signBy v_own lines size atF place sort value fault faultPlace lastFault lastPlace q_sF v_kept undoable hasImage q_power q_table q_marks q_row rowOf areSums isSieved q_lastOf blocks_1 (.ref q_inBlock) q_atQuotient v_small drawn sF row marks power table sortOf first second signBy lastOf_1 atQuotient a1 a2 P_4 hP) dX11_blocks_32 rfl wM_X11_326 wI_X11_laysAtQuotients wV_X11_laysAtQuotients wN_X11 wC_X11_laysAtQuotients (n := 2) (by decide +kernel) rfl (q0 := 0) rfl rfl ⟨Nat.le_of_ble_eq_true rfl, Nat.le_of_ble_eq_true rfl⟩ ⟨Nat.le_of_ble_eq_true rfl, Nat.le_of_ble_eq_true rfl⟩ (Nat.le_of_ble_eq_true rfl) [0, 2, 4, 5, 6, 7, 8, 9, 10, 11, 3, 12] [1, 13] rfl rfl rfl (fun v wc hv => ?_)
      obtain ⟨rowOf_1, areSums_1, row_1, power_1, table_1, atQuotient_1, rfl, rfl, hq⟩ := hv
      replace h := h rowOf_1 areSums_1 row_1 power_1 table_1 atQuotient_1 hq
      refine gG.perm (ws' := [oX11 h0 0 (v_tape) taped (.ref q_number) (v_isTold) (v_name) (.ref q_sortOf) (.ref q_first) (.ref q_second) (v_degree) (v_colours) (.ref q_signBy) (v_own) lines size atF place sort value fault faultPlace lastFault lastPlace (.ref q_sF) (v_kept) undoable hasImage (.ref q_power) (.ref q_table) (.ref q_marks) (.ref q_row) rowOf_1 areSums_1 isSieved (.ref q_lastOf) blocks_1 (.ref q_inBlock) (.ref q_atQuotient) (v_small) drawn, aI Y q_number 8 number, aI Y q_sF 74 sF, aI Y q_lastOf 900 lastOf_1, aI Y q_row 200001 row_1, aI Y q_marks 6251 marks, aJ Y q_power 18 power_1, aJ Y q_table 216 table_1, aI Y q_sortOf 24 sortOf, aI Y q_first 24 first, aI Y q_second 24 second, aI Y q_signBy 24 signBy, aJ Y q_atQuotient 900 atQuotient_1, aJ Y q_inBlock 900 inBlock]) [2, 0, 3, 12, 4, 5, 6, 7, 8, 9, 10, 11, 13, 1] rfl rfl ?_
      refine g_iconst (v := 0) C dX11_blocks_35 rfl ?_
      refine g_istore_n (lv' := [(3, .int 0), (0, .ref h0), (1, .int a1), (2, .int a2)]) C dX11_blocks_36 (by decide) rfl ?_
      obtain ⟨Inv_1, Mea_1, hI1, hB1⟩ := h
      have key_1 : ∀ (n : Nat) (inBlock_1 : Nat → Int64) (x3_1 : Int32) , Mea_1 inBlock_1 x3_1 < n → Inv_1 inBlock_1 x3_1 → gG E 0 0 [oX11 h0 0 (v_tape) taped (.ref q_number) (v_isTold) (v_name) (.ref q_sortOf) (.ref q_first) (.ref q_second) (v_degree) (v_colours) (.ref q_signBy) (v_own) lines size atF place sort value fault faultPlace lastFault lastPlace (.ref q_sF) (v_kept) undoable hasImage (.ref q_power) (.ref q_table) (.ref q_marks) (.ref q_row) rowOf_1 areSums_1 isSieved (.ref q_lastOf) blocks_1 (.ref q_inBlock) (.ref q_atQuotient) (v_small) drawn, aI Y q_number 8 number, aI Y q_sF 74 sF, aI Y q_lastOf 900 lastOf_1, aI Y q_row 200001 row_1, aI Y q_marks 6251 marks, aJ Y q_power 18 power_1, aJ Y q_table 216 table_1, aI Y q_sortOf 24 sortOf, aI Y q_first 24 first, aI Y q_second 24 second, aI Y q_signBy 24 signBy, aJ Y q_atQuotient 900 atQuotient_1, aJ Y q_inBlock 900 inBlock_1] [(0, .ref h0), (3, .int x3_1)] [] 37 := by
        intro n
        induction n with
        | zero => exact fun _ _ hm => absurd hm (Nat.not_lt_zero _)
        | succ n ih1 =>
          intro inBlock_1 x3_1  hm1 hI
          have h := hB1 inBlock_1 x3_1 hI
          refine g_iload_n C dX11_blocks_37 1 rfl ?_
          refine g_aload_n C dX11_blocks_38 0 rfl ?_
          refine g_get C inX11 0 rfl rfl 35 (by decide) wF_X11_314 rfl dX11_blocks_39 ?_
          refine g_icmp_ge (tgt := 76) C dX11_blocks_42 (by decide) (fun c_3 => ?_) (fun c_3 => ?_)
          · replace h := h.1 c_3
            refine g_aload_n C dX11_blocks_76 0 rfl ?_
            obtain ⟨P_5, hP, h⟩ := h
            refine g_callV (As := []) (rest := []) C (mX11_acrossBlocks l D Y h0 0 v_tape taped (.ref q_number) v_isTold v_name (.ref q_sortOf) (.ref q_first) (.ref q_second) v_degree v_colours (.ref q_signBy) v_own lines size atF place sort value fault faultPlace lastFault lastPlace q_sF v_kept undoable hasImage (.ref q_power) (.ref q_table) (.ref q_marks) (.ref q_row) rowOf_1 areSums_1 isSieved (.ref q_lastOf) blocks_1 q_inBlock q_atQuotient v_small drawn inBlock_1 atQuotient_1 sF P_5 hP) dX11_blocks_77 rfl wM_X11_329 wI_X11_acrossBlocks wV_X11_acrossBlocks wN_X11 wC_X11_acrossBlocks (n := 0) (by decide +kernel) rfl (q0 := 0) rfl rfl ⟨Nat.le_of_ble_eq_true rfl, Nat.le_of_ble_eq_true rfl⟩ ⟨Nat.le_of_ble_eq_true rfl, Nat.le_of_ble_eq_true rfl⟩ (Nat.le_of_ble_eq_true rfl) [0, 13, 12, 2] [1, 3, 4, 5, 6, 7, 8, 9, 10, 11] rfl rfl rfl (fun v wc hv => ?_)
            obtain ⟨rF_3, rfl, rfl, hq⟩ := hv
            replace h := h rF_3 hq
            refine gG.perm (ws' := [oX11 h0 0 (v_tape) taped (.ref q_number) (v_isTold) (v_name) (.ref q_sortOf) (.ref q_first) (.ref q_second) (v_degree) (v_colours) (.ref q_signBy) (v_own) lines size atF place sort value fault faultPlace lastFault lastPlace (.ref q_sF) (v_kept) undoable hasImage (.ref q_power) (.ref q_table) (.ref q_marks) (.ref q_row) rowOf_1 areSums_1 isSieved (.ref q_lastOf) blocks_1 (.ref q_inBlock) (.ref q_atQuotient) (v_small) drawn, aI Y q_number 8 number, aI Y q_sF 74 sF, aI Y q_lastOf 900 lastOf_1, aI Y q_row 200001 row_1, aI Y q_marks 6251 marks, aJ Y q_power 18 power_1, aJ Y q_table 216 table_1, aI Y q_sortOf 24 sortOf, aI Y q_first 24 first, aI Y q_second 24 second, aI Y q_signBy 24 signBy, aJ Y q_atQuotient 900 atQuotient_1, aJ Y q_inBlock 900 inBlock_1]) [10, 0, 13, 1, 2, 3, 4, 5, 6, 7, 8, 9, 12, 11] rfl rfl ?_
            exact g_iret C hR (Nat.le_of_ble_eq_true rfl) (Nat.le_of_ble_eq_true rfl) dX11_blocks_80 ⟨rF_3, 0, rowOf_1, areSums_1, blocks_1, lastOf_1, row_1, power_1, table_1, atQuotient_1, inBlock_1, rfl, rfl, h⟩
          · replace h := h.2 c_3
            refine g_aload_n C dX11_blocks_45 0 rfl ?_
            refine g_get C inX11 0 rfl rfl 36 (by decide) wF_X11_71 rfl dX11_blocks_46 ?_
            refine g_iload_n C dX11_blocks_49 1 rfl ?_
            refine g_aload_n C dX11_blocks_50 0 rfl ?_
            refine g_aload_n C dX11_blocks_51 0 rfl ?_
            refine g_get C inX11 0 rfl rfl 34 (by decide) wF_X11_68 rfl dX11_blocks_52 ?_
            refine g_iload_n C dX11_blocks_55 1 rfl ?_
            obtain ⟨hc_1, h⟩ := h
            refine g_iald C 3 rfl hc_1 dX11_blocks_56 ?_
            refine g_aload_n C dX11_blocks_57 0 rfl ?_
            refine g_iload_n C dX11_blocks_58 1 rfl ?_
            obtain ⟨P_6, hP, h⟩ := h
            refine g_callV (As := [.int x3_1]) (rest := [.int (lastOf_1 x3_1.toNatClampNeg), .ref h0, .int x3_1, .ref q_inBlock]) C (mX11_firstOf l D Y h0 0 v_tape taped (.ref q_number) v_isTold v_name (.ref q_sortOf) (.ref q_first) (.ref q_second) v_degree v_colours (.ref q_signBy) v_own lines size atF place sort value fault faultPlace lastFault lastPlace (.ref q_sF) v_kept undoable hasImage (.ref q_power) (.ref q_table) (.ref q_marks) (.ref q_row) rowOf_1 areSums_1 isSieved q_lastOf blocks_1 (.ref q_inBlock) (.ref q_atQuotient) v_small drawn lastOf_1 x3_1 P_6 hP) dX11_blocks_59 rfl wM_X11_320 wI_X11_firstOf wV_X11_firstOf wN_X11 wC_X11_firstOf (n := 1) (by decide +kernel) rfl (q0 := 0) rfl rfl ⟨Nat.le_of_ble_eq_true rfl, Nat.le_of_ble_eq_true rfl⟩ ⟨Nat.le_of_ble_eq_true rfl, Nat.le_of_ble_eq_true rfl⟩ (Nat.le_of_ble_eq_true rfl) [0, 3] [1, 2, 4, 5, 6, 7, 8, 9, 10, 11, 12, 13] rfl rfl rfl (fun v wc hv => ?_)
            obtain ⟨rF_4, rfl, rfl, hq⟩ := hv
            replace h := h rF_4 hq
            refine gG.perm (ws' := [oX11 h0 0 (v_tape) taped (.ref q_number) (v_isTold) (v_name) (.ref q_sortOf) (.ref q_first) (.ref q_second) (v_degree) (v_colours) (.ref q_signBy) (v_own) lines size atF place sort value fault faultPlace lastFault lastPlace (.ref q_sF) (v_kept) undoable hasImage (.ref q_power) (.ref q_table) (.ref q_marks) (.ref q_row) rowOf_1 areSums_1 isSieved (.ref q_lastOf) blocks_1 (.ref q_inBlock) (.ref q_atQuotient) (v_small) drawn, aI Y q_number 8 number, aI Y q_sF 74 sF, aI Y q_lastOf 900 lastOf_1, aI Y q_row 200001 row_1, aI Y q_marks 6251 marks, aJ Y q_power 18 power_1, aJ Y q_table 216 table_1, aI Y q_sortOf 24 sortOf, aI Y q_first 24 first, aI Y q_second 24 second, aI Y q_signBy 24 signBy, aJ Y q_atQuotient 900 atQuotient_1, aJ Y q_inBlock 900 inBlock_1]) [12, 0, 1, 13, 2, 3, 4, 5, 6, 7, 8, 9, 10, 11] rfl rfl ?_
            refine g_isub C dX11_blocks_62 ?_
            refine g_iconst (v := 1) C dX11_blocks_63 rfl ?_
            refine g_iadd C dX11_blocks_64 ?_
            refine g_i2l C dX11_blocks_65 ?_
            obtain ⟨P_7, hP, h⟩ := h
            refine g_callV (As := [.long ((((lastOf_1 x3_1.toNatClampNeg) - rF_4) + 1).toInt64)]) (rest := [.int x3_1, .ref q_inBlock]) C (mX11_rest l D Y h0 0 v_tape taped (.ref q_number) v_isTold v_name (.ref q_sortOf) (.ref q_first) (.ref q_second) v_degree v_colours (.ref q_signBy) v_own lines size atF place sort value fault faultPlace lastFault lastPlace q_sF v_kept undoable hasImage (.ref q_power) (.ref q_table) (.ref q_marks) (.ref q_row) rowOf_1 areSums_1 isSieved (.ref q_lastOf) blocks_1 (.ref q_inBlock) (.ref q_atQuotient) v_small drawn sF ((((lastOf_1 x3_1.toNatClampNeg) - rF_4) + 1).toInt64) P_7 hP) dX11_blocks_66 rfl wM_X11_256 wI_X11_rest wV_X11_rest wN_X11 wC_X11_rest (n := 1) (by decide +kernel) rfl (q0 := 0) rfl rfl ⟨Nat.le_of_ble_eq_true rfl, Nat.le_of_ble_eq_true rfl⟩ ⟨Nat.le_of_ble_eq_true rfl, Nat.le_of_ble_eq_true rfl⟩ (Nat.le_of_ble_eq_true rfl) [0, 2] [1, 3, 4, 5, 6, 7, 8, 9, 10, 11, 12, 13] rfl rfl rfl (fun v wc hv => ?_)
            obtain ⟨rF_5, rfl, rfl, hq⟩ := hv
            replace h := h rF_5 hq
            refine gG.perm (ws' := [oX11 h0 0 (v_tape) taped (.ref q_number) (v_isTold) (v_name) (.ref q_sortOf) (.ref q_first) (.ref q_second) (v_degree) (v_colours) (.ref q_signBy) (v_own) lines size atF place sort value fault faultPlace lastFault lastPlace (.ref q_sF) (v_kept) undoable hasImage (.ref q_power) (.ref q_table) (.ref q_marks) (.ref q_row) rowOf_1 areSums_1 isSieved (.ref q_lastOf) blocks_1 (.ref q_inBlock) (.ref q_atQuotient) (v_small) drawn, aI Y q_number 8 number, aI Y q_sF 74 sF, aI Y q_lastOf 900 lastOf_1, aI Y q_row 200001 row_1, aI Y q_marks 6251 marks, aJ Y q_power 18 power_1, aJ Y q_table 216 table_1, aI Y q_sortOf 24 sortOf, aI Y q_first 24 first, aI Y q_second 24 second, aI Y q_signBy 24 signBy, aJ Y q_atQuotient 900 atQuotient_1, aJ Y q_inBlock 900 inBlock_1]) [12, 0, 13, 1, 2, 3, 4, 5, 6, 7, 8, 9, 10, 11] rfl rfl ?_
            obtain ⟨hc_2, h⟩ := h
            refine g_last C 13 rfl hc_2 dX11_blocks_69 (fun inBlock_2 einBlock_2 => gG.eqw (ws' := [oX11 h0 0 (v_tape) taped (.ref q_number) (v_isTold) (v_name) (.ref q_sortOf) (.ref q_first) (.ref q_second) (v_degree) (v_colours) (.ref q_signBy) (v_own) lines size atF place sort value fault faultPlace lastFault lastPlace (.ref q_sF) (v_kept) undoable hasImage (.ref q_power) (.ref q_table) (.ref q_marks) (.ref q_row) rowOf_1 areSums_1 isSieved (.ref q_lastOf) blocks_1 (.ref q_inBlock) (.ref q_atQuotient) (v_small) drawn, aI Y q_number 8 number, aI Y q_sF 74 sF, aI Y q_lastOf 900 lastOf_1, aI Y q_row 200001 row_1, aI Y q_marks 6251 marks, aJ Y q_power 18 power_1, aJ Y q_table 216 table_1, aI Y q_sortOf 24 sortOf, aI Y q_first 24 first, aI Y q_second 24 second, aI Y q_signBy 24 signBy, aJ Y q_atQuotient 900 atQuotient_1, aJ Y q_inBlock 900 inBlock_2]) rfl ?_)
            replace h := h inBlock_2 einBlock_2
            refine g_iinc (v := x3_1 + 1) (lv' := [(3, .int (x3_1 + 1)), (0, .ref h0)]) C dX11_blocks_70 1 rfl rfl (by decide) rfl ?_
            refine g_goto (tgt := 37) C dX11_blocks_73 (by decide) ?_
            refine gG.locals (lv' := [(0, .ref h0), (3, .int (x3_1 + 1))]) [1, 0] rfl ?_
            exact ih1 inBlock_2 (x3_1 + 1) (Nat.lt_of_lt_of_le h.2 (Nat.le_of_lt_succ hm1)) h.1
      refine gG.locals (lv' := [(0, .ref h0), (3, .int 0)]) [1, 0] rfl ?_
      exact key_1 (Mea_1 inBlock 0 + 1) inBlock 0 (Nat.lt_succ_self _) hI1
    · replace h := h.2 c_2
      refine g_iconst (v := (-1)) C dX11_blocks_22 rfl ?_
      exact g_iret C hR (Nat.le_of_ble_eq_true rfl) (Nat.le_of_ble_eq_true rfl) dX11_blocks_23 ⟨(-1), 0, rowOf, areSums, blocks, lastOf, row, power, table, atQuotient, inBlock, rfl, rfl, h⟩
theorem dX11_laysPhi_0 : decode cX11_laysPhi 0 = .ok (.aload_n 0, 1) := by decide +kernel
theorem dX11_laysPhi_1 : decode cX11_laysPhi 1 = .ok (.invokevirtual 232, 3) := by decide +kernel
theorem dX11_laysPhi_4 : decode cX11_laysPhi 4 = .ok (.iconst 0, 1) := by decide +kernel
theorem dX11_laysPhi_5 : decode cX11_laysPhi 5 = .ok (.istore_n 2, 1) := by decide +kernel
theorem dX11_laysPhi_6 : decode cX11_laysPhi 6 = .ok (.iload_n 2, 1) := by decide +kernel
theorem dX11_laysPhi_7 : decode cX11_laysPhi 7 = .ok (.iload_n 1, 1) := by decide +kernel
theorem dX11_laysPhi_8 : decode cX11_laysPhi 8 = .ok (.if_icmp .gt 16, 3) := by decide +kernel
theorem dX11_laysPhi_11 : decode cX11_laysPhi 11 = .ok (.aload_n 0, 1) := by decide +kernel
theorem dX11_laysPhi_12 : decode cX11_laysPhi 12 = .ok (.getfield 65, 3) := by decide +kernel
theorem dX11_laysPhi_15 : decode cX11_laysPhi 15 = .ok (.iload_n 2, 1) := by decide +kernel
theorem dX11_laysPhi_16 : decode cX11_laysPhi 16 = .ok (.iload_n 2, 1) := by decide +kernel
theorem dX11_laysPhi_17 : decode cX11_laysPhi 17 = .ok (.iastore, 1) := by decide +kernel
theorem dX11_laysPhi_18 : decode cX11_laysPhi 18 = .ok (.iinc 2 1, 3) := by decide +kernel
theorem dX11_laysPhi_21 : decode cX11_laysPhi 21 = .ok (.goto (-15), 3) := by decide +kernel
theorem dX11_laysPhi_24 : decode cX11_laysPhi 24 = .ok (.iconst 2, 1) := by decide +kernel
theorem dX11_laysPhi_25 : decode cX11_laysPhi 25 = .ok (.istore_n 2, 1) := by decide +kernel
theorem dX11_laysPhi_26 : decode cX11_laysPhi 26 = .ok (.iload_n 2, 1) := by decide +kernel
theorem dX11_laysPhi_27 : decode cX11_laysPhi 27 = .ok (.iload_n 1, 1) := by decide +kernel
theorem dX11_laysPhi_28 : decode cX11_laysPhi 28 = .ok (.if_icmp .gt 51, 3) := by decide +kernel
theorem dX11_laysPhi_31 : decode cX11_laysPhi 31 = .ok (.aload_n 0, 1) := by decide +kernel
theorem dX11_laysPhi_32 : decode cX11_laysPhi 32 = .ok (.iload_n 2, 1) := by decide +kernel
theorem dX11_laysPhi_33 : decode cX11_laysPhi 33 = .ok (.invokevirtual 292, 3) := by decide +kernel
theorem dX11_laysPhi_36 : decode cX11_laysPhi 36 = .ok (.ifCond .ne 6, 3) := by decide +kernel
theorem dX11_laysPhi_39 : decode cX11_laysPhi 39 = .ok (.goto 34, 3) := by decide +kernel
theorem dX11_laysPhi_42 : decode cX11_laysPhi 42 = .ok (.iload_n 2, 1) := by decide +kernel
theorem dX11_laysPhi_43 : decode cX11_laysPhi 43 = .ok (.istore_n 3, 1) := by decide +kernel
theorem dX11_laysPhi_44 : decode cX11_laysPhi 44 = .ok (.iload_n 3, 1) := by decide +kernel
theorem dX11_laysPhi_45 : decode cX11_laysPhi 45 = .ok (.iload_n 1, 1) := by decide +kernel
theorem dX11_laysPhi_46 : decode cX11_laysPhi 46 = .ok (.if_icmp .gt 27, 3) := by decide +kernel
theorem dX11_laysPhi_49 : decode cX11_laysPhi 49 = .ok (.aload_n 0, 1) := by decide +kernel
theorem dX11_laysPhi_50 : decode cX11_laysPhi 50 = .ok (.getfield 65, 3) := by decide +kernel
theorem dX11_laysPhi_53 : decode cX11_laysPhi 53 = .ok (.iload_n 3, 1) := by decide +kernel
theorem dX11_laysPhi_54 : decode cX11_laysPhi 54 = .ok (.dup2, 1) := by decide +kernel
theorem dX11_laysPhi_55 : decode cX11_laysPhi 55 = .ok (.iaload, 1) := by decide +kernel
theorem dX11_laysPhi_56 : decode cX11_laysPhi 56 = .ok (.aload_n 0, 1) := by decide +kernel
theorem dX11_laysPhi_57 : decode cX11_laysPhi 57 = .ok (.getfield 65, 3) := by decide +kernel
theorem dX11_laysPhi_60 : decode cX11_laysPhi 60 = .ok (.iload_n 3, 1) := by decide +kernel
theorem dX11_laysPhi_61 : decode cX11_laysPhi 61 = .ok (.iaload, 1) := by decide +kernel
theorem dX11_laysPhi_62 : decode cX11_laysPhi 62 = .ok (.iload_n 2, 1) := by decide +kernel
theorem dX11_laysPhi_63 : decode cX11_laysPhi 63 = .ok (.idiv, 1) := by decide +kernel
theorem dX11_laysPhi_64 : decode cX11_laysPhi 64 = .ok (.isub, 1) := by decide +kernel
theorem dX11_laysPhi_65 : decode cX11_laysPhi 65 = .ok (.iastore, 1) := by decide +kernel
theorem dX11_laysPhi_66 : decode cX11_laysPhi 66 = .ok (.iload_n 3, 1) := by decide +kernel
theorem dX11_laysPhi_67 : decode cX11_laysPhi 67 = .ok (.iload_n 2, 1) := by decide +kernel
theorem dX11_laysPhi_68 : decode cX11_laysPhi 68 = .ok (.iadd, 1) := by decide +kernel
theorem dX11_laysPhi_69 : decode cX11_laysPhi 69 = .ok (.istore_n 3, 1) := by decide +kernel
theorem dX11_laysPhi_70 : decode cX11_laysPhi 70 = .ok (.goto (-26), 3) := by decide +kernel
theorem dX11_laysPhi_73 : decode cX11_laysPhi 73 = .ok (.iinc 2 1, 3) := by decide +kernel
theorem dX11_laysPhi_76 : decode cX11_laysPhi 76 = .ok (.goto (-50), 3) := by decide +kernel
theorem dX11_laysPhi_79 : decode cX11_laysPhi 79 = .ok (.return_, 1) := by decide +kernel
/-- QuotientSumsModel.laysPhi(I)V -/
def wX11_laysPhi (thrown : Int32) (taped : Int32) (lines : Int32) (size : Int32) (atF : Int32) (place : Int32) (sort : Int32) (value : Int32) (fault : Int32) (faultPlace : Int32) (lastFault : Int32) (lastPlace : Int32) (undoable : Int32) (hasImage : Int32) (rowOf : Int32) (areSums : Int32) (isSieved : Int32) (blocks : Int32) (drawn : Int32) (marks : Nat → Int32) (row : Nat → Int32) (a1 : Int32) (Q : (Int32) → (Nat → Int32) → Prop) : Prop :=
  (∃ (P_1 : (Int32) → Prop), wX11_forgets thrown taped lines size atF place sort value fault faultPlace lastFault lastPlace undoable hasImage rowOf areSums isSieved blocks drawn P_1 ∧ ∀ (rowOf_1 : Int32), P_1 rowOf_1 → (∃ (Inv_1 : (Nat → Int32) → (Int32) → Prop) (Mea_1 : (Nat → Int32) → (Int32) → Nat), Inv_1 row 0 ∧ ∀ (row_1 : Nat → Int32) (x2_1 : Int32), Inv_1 row_1 x2_1 → ((a1 < x2_1 → (∃ (Inv_2 : (Nat → Int32) → (Int32) → Prop) (Mea_2 : (Nat → Int32) → (Int32) → Nat), Inv_2 row_1 2 ∧ ∀ (row_2 : Nat → Int32) (x2_2 : Int32), Inv_2 row_2 x2_2 → ((a1 < x2_2 → (Q rowOf_1 row_2)) ∧ (¬ a1 < x2_2 → (∃ (P_2 : (Int32) → Prop), wX11_isPrime thrown taped lines size atF place sort value fault faultPlace lastFault lastPlace undoable hasImage rowOf_1 areSums isSieved blocks drawn marks x2_2 P_2 ∧ ∀ (rF_1 : Int32), P_2 rF_1 → ((¬ rF_1 = 0 → (∃ (Inv_3 : (Nat → Int32) → (Int32) → Prop) (Mea_3 : (Nat → Int32) → (Int32) → Nat), Inv_3 row_2 x2_2 ∧ ∀ (row_3 : Nat → Int32) (x3_1 : Int32), Inv_3 row_3 x3_1 → ((a1 < x3_1 → (Inv_2 row_3 (x2_2 + 1) ∧ Mea_2 row_3 (x2_2 + 1) < Mea_2 row_2 x2_2)) ∧ (¬ a1 < x3_1 → (vp_in x3_1 200001 ∧ ¬ x2_2 = 0 ∧ ∀ e_1 : Int32, e_1 = (row_3 x3_1.toNatClampNeg) - ((row_3 x3_1.toNatClampNeg) / x2_2) → ∀ row_4 : Nat → Int32, row_4 = upd row_3 x3_1.toNatClampNeg e_1 → ∀ x3_2 : Int32, x3_2 = x3_1 + x2_2 → (Inv_3 row_4 x3_2 ∧ Mea_3 row_4 x3_2 < Mea_3 row_3 x3_1)))))) ∧ (rF_1 = 0 → (Inv_2 row_2 (x2_2 + 1) ∧ Mea_2 row_2 (x2_2 + 1) < Mea_2 row_2 x2_2)))))))) ∧ (¬ a1 < x2_1 → (vp_in x2_1 200001 ∧ ∀ row_5 : Nat → Int32, row_5 = upd row_1 x2_1.toNatClampNeg x2_1 → (Inv_1 row_5 (x2_1 + 1) ∧ Mea_1 row_5 (x2_1 + 1) < Mea_1 row_1 x2_1))))))
set_option maxHeartbeats 4000000 in
set_option maxRecDepth 100000 in
theorem mX11_laysPhi (l : Launch) (D : va_G) (Y : Nat → ClassId) (h0 : Nat) (thrown : Int32) (v_tape : Value) (taped : Int32) (v_number : Value) (v_isTold : Value) (v_name : Value) (v_sortOf : Value) (v_first : Value) (v_second : Value) (v_degree : Value) (v_colours : Value) (v_signBy : Value) (v_own : Value) (lines : Int32) (size : Int32) (atF : Int32) (place : Int32) (sort : Int32) (value : Int32) (fault : Int32) (faultPlace : Int32) (lastFault : Int32) (lastPlace : Int32) (v_sF : Value) (v_kept : Value) (undoable : Int32) (hasImage : Int32) (v_power : Value) (v_table : Value) (q_marks : Nat) (q_row : Nat) (rowOf : Int32) (areSums : Int32) (isSieved : Int32) (v_lastOf : Value) (blocks : Int32) (v_inBlock : Value) (v_atQuotient : Value) (v_small : Value) (drawn : Int32) (marks : Nat → Int32) (row : Nat → Int32) (a1 : Int32) (Q : (Int32) → (Nat → Int32) → Prop) (h : wX11_laysPhi thrown taped lines size atF place sort value fault faultPlace lastFault lastPlace undoable hasImage rowOf areSums isSieved blocks drawn marks row a1 Q) : gM l D Y yX11_laysPhi cX11_laysPhi 4 none 1 21 0 0 [.ref h0, .int a1] [oX11 h0 thrown (v_tape) taped (v_number) (v_isTold) (v_name) (v_sortOf) (v_first) (v_second) (v_degree) (v_colours) (v_signBy) (v_own) lines size atF place sort value fault faultPlace lastFault lastPlace (v_sF) (v_kept) undoable hasImage (v_power) (v_table) (.ref q_marks) (.ref q_row) rowOf areSums isSieved (v_lastOf) blocks (v_inBlock) (v_atQuotient) (v_small) drawn, aI Y q_marks 6251 marks, aI Y q_row 200001 row] (fun v w => ∃ rowOf' : Int32, ∃ row' : Nat → Int32, v = none ∧ w = [oX11 h0 thrown (v_tape) taped (v_number) (v_isTold) (v_name) (v_sortOf) (v_first) (v_second) (v_degree) (v_colours) (v_signBy) (v_own) lines size atF place sort value fault faultPlace lastFault lastPlace (v_sF) (v_kept) undoable hasImage (v_power) (v_table) (.ref q_marks) (.ref q_row) rowOf' areSums isSieved (v_lastOf) blocks (v_inBlock) (v_atQuotient) (v_small) drawn, aI Y q_marks 6251 marks, aI Y q_row 200001 row'] ∧ Q rowOf' row') := by
  refine gM_of (own := RX11) (by decide +kernel) rfl (Nat.le_of_ble_eq_true rfl) rfl (fun E C hR => ?_)
  unfold wX11_laysPhi at h
  refine g_aload_n C dX11_laysPhi_0 0 rfl ?_
  obtain ⟨P_1, hP, h⟩ := h
  refine g_callV (As := []) (rest := []) C (mX11_forgets l D Y h0 thrown v_tape taped v_number v_isTold v_name v_sortOf v_first v_second v_degree v_colours v_signBy v_own lines size atF place sort value fault faultPlace lastFault lastPlace v_sF v_kept undoable hasImage v_power v_table (.ref q_marks) (.ref q_row) rowOf areSums isSieved v_lastOf blocks v_inBlock v_atQuotient v_small drawn P_1 hP) dX11_laysPhi_1 rfl wM_X11_232 wI_X11_forgets wV_X11_forgets wN_X11 wC_X11_forgets (n := 0) (by decide +kernel) rfl (q0 := 0) rfl rfl ⟨Nat.le_of_ble_eq_true rfl, Nat.le_of_ble_eq_true rfl⟩ ⟨Nat.le_of_ble_eq_true rfl, Nat.le_of_ble_eq_true rfl⟩ (Nat.le_of_ble_eq_true rfl) [0] [1, 2] rfl rfl rfl (fun v wc hv => ?_)
  obtain ⟨rowOf_1, rfl, rfl, hq⟩ := hv
  replace h := h rowOf_1 hq
  refine gG.perm (ws' := [oX11 h0 thrown (v_tape) taped (v_number) (v_isTold) (v_name) (v_sortOf) (v_first) (v_second) (v_degree) (v_colours) (v_signBy) (v_own) lines size atF place sort value fault faultPlace lastFault lastPlace (v_sF) (v_kept) undoable hasImage (v_power) (v_table) (.ref q_marks) (.ref q_row) rowOf_1 areSums isSieved (v_lastOf) blocks (v_inBlock) (v_atQuotient) (v_small) drawn, aI Y q_marks 6251 marks, aI Y q_row 200001 row]) [2, 0, 1] rfl rfl ?_
  refine g_iconst (v := 0) C dX11_laysPhi_4 rfl ?_
  refine g_istore_n (lv' := [(2, .int 0), (0, .ref h0), (1, .int a1)]) C dX11_laysPhi_5 (by decide) rfl ?_
  obtain ⟨Inv_1, Mea_1, hI1, hB1⟩ := h
  have key_1 : ∀ (n : Nat) (row_1 : Nat → Int32) (x2_1 : Int32) , Mea_1 row_1 x2_1 < n → Inv_1 row_1 x2_1 → gG E 0 0 [oX11 h0 thrown (v_tape) taped (v_number) (v_isTold) (v_name) (v_sortOf) (v_first) (v_second) (v_degree) (v_colours) (v_signBy) (v_own) lines size atF place sort value fault faultPlace lastFault lastPlace (v_sF) (v_kept) undoable hasImage (v_power) (v_table) (.ref q_marks) (.ref q_row) rowOf_1 areSums isSieved (v_lastOf) blocks (v_inBlock) (v_atQuotient) (v_small) drawn, aI Y q_marks 6251 marks, aI Y q_row 200001 row_1] [(0, .ref h0), (1, .int a1), (2, .int x2_1)] [] 6 := by
    intro n
    induction n with
    | zero => exact fun _ _ hm => absurd hm (Nat.not_lt_zero _)
    | succ n ih1 =>
      intro row_1 x2_1  hm1 hI
      have h := hB1 row_1 x2_1 hI
      refine g_iload_n C dX11_laysPhi_6 2 rfl ?_
      refine g_iload_n C dX11_laysPhi_7 1 rfl ?_
      refine g_icmp_gt (tgt := 24) C dX11_laysPhi_8 (by decide) (fun c_1 => ?_) (fun c_1 => ?_)
      · replace h := h.1 c_1
        refine g_iconst (v := 2) C dX11_laysPhi_24 rfl ?_
        refine g_istore_n (lv' := [(2, .int 2), (0, .ref h0), (1, .int a1)]) C dX11_laysPhi_25 (by decide) rfl ?_
        obtain ⟨Inv_2, Mea_2, hI2, hB2⟩ := h
        have key_2 : ∀ (n : Nat) (row_2 : Nat → Int32) (x2_2 : Int32) , Mea_2 row_2 x2_2 < n → Inv_2 row_2 x2_2 → gG E 0 0 [oX11 h0 thrown (v_tape) taped (v_number) (v_isTold) (v_name) (v_sortOf) (v_first) (v_second) (v_degree) (v_colours) (v_signBy) (v_own) lines size atF place sort value fault faultPlace lastFault lastPlace (v_sF) (v_kept) undoable hasImage (v_power) (v_table) (.ref q_marks) (.ref q_row) rowOf_1 areSums isSieved (v_lastOf) blocks (v_inBlock) (v_atQuotient) (v_small) drawn, aI Y q_marks 6251 marks, aI Y q_row 200001 row_2] [(0, .ref h0), (1, .int a1), (2, .int x2_2)] [] 26 := by
          intro n
          induction n with
          | zero => exact fun _ _ hm => absurd hm (Nat.not_lt_zero _)
          | succ n ih2 =>
            intro row_2 x2_2  hm2 hI
            have h := hB2 row_2 x2_2 hI
            refine g_iload_n C dX11_laysPhi_26 2 rfl ?_
            refine g_iload_n C dX11_laysPhi_27 1 rfl ?_
            refine g_icmp_gt (tgt := 79) C dX11_laysPhi_28 (by decide) (fun c_2 => ?_) (fun c_2 => ?_)
            · replace h := h.1 c_2
              exact g_vret C hR (Nat.le_of_ble_eq_true rfl) (Nat.le_of_ble_eq_true rfl) dX11_laysPhi_79 ⟨rowOf_1, row_2, rfl, rfl, h⟩
            · replace h := h.2 c_2
              refine g_aload_n C dX11_laysPhi_31 0 rfl ?_
              refine g_iload_n C dX11_laysPhi_32 2 rfl ?_
              obtain ⟨P_2, hP, h⟩ := h
              refine g_callV (As := [.int x2_2]) (rest := []) C (mX11_isPrime l D Y h0 thrown v_tape taped v_number v_isTold v_name v_sortOf v_first v_second v_degree v_colours v_signBy v_own lines size atF place sort value fault faultPlace lastFault lastPlace v_sF v_kept undoable hasImage v_power v_table q_marks (.ref q_row) rowOf_1 areSums isSieved v_lastOf blocks v_inBlock v_atQuotient v_small drawn marks x2_2 P_2 hP) dX11_laysPhi_33 rfl wM_X11_292 wI_X11_isPrime wV_X11_isPrime wN_X11 wC_X11_isPrime (n := 1) (by decide +kernel) rfl (q0 := 0) rfl rfl ⟨Nat.le_of_ble_eq_true rfl, Nat.le_of_ble_eq_true rfl⟩ ⟨Nat.le_of_ble_eq_true rfl, Nat.le_of_ble_eq_true rfl⟩ (Nat.le_of_ble_eq_true rfl) [0, 1] [2] rfl rfl rfl (fun v wc hv => ?_)
              obtain ⟨rF_1, rfl, rfl, hq⟩ := hv
              replace h := h rF_1 hq
              refine gG.perm (ws' := [oX11 h0 thrown (v_tape) taped (v_number) (v_isTold) (v_name) (v_sortOf) (v_first) (v_second) (v_degree) (v_colours) (v_signBy) (v_own) lines size atF place sort value fault faultPlace lastFault lastPlace (v_sF) (v_kept) undoable hasImage (v_power) (v_table) (.ref q_marks) (.ref q_row) rowOf_1 areSums isSieved (v_lastOf) blocks (v_inBlock) (v_atQuotient) (v_small) drawn, aI Y q_marks 6251 marks, aI Y q_row 200001 row_2]) [1, 2, 0] rfl rfl ?_
              refine g_if_ne (tgt := 42) C dX11_laysPhi_36 (by decide) (fun c_3 => ?_) (fun c_3 => ?_)
              · replace h := h.1 c_3
                refine g_iload_n C dX11_laysPhi_42 2 rfl ?_
                refine g_istore_n (lv' := [(3, .int x2_2), (0, .ref h0), (1, .int a1), (2, .int x2_2)]) C dX11_laysPhi_43 (by decide) rfl ?_
                obtain ⟨Inv_3, Mea_3, hI3, hB3⟩ := h
                have key_3 : ∀ (n : Nat) (row_3 : Nat → Int32) (x3_1 : Int32) , Mea_3 row_3 x3_1 < n → Inv_3 row_3 x3_1 → gG E 0 0 [oX11 h0 thrown (v_tape) taped (v_number) (v_isTold) (v_name) (v_sortOf) (v_first) (v_second) (v_degree) (v_colours) (v_signBy) (v_own) lines size atF place sort value fault faultPlace lastFault lastPlace (v_sF) (v_kept) undoable hasImage (v_power) (v_table) (.ref q_marks) (.ref q_row) rowOf_1 areSums isSieved (v_lastOf) blocks (v_inBlock) (v_atQuotient) (v_small) drawn, aI Y q_marks 6251 marks, aI Y q_row 200001 row_3] [(0, .ref h0), (1, .int a1), (2, .int x2_2), (3, .int x3_1)] [] 44 := by
                  intro n
                  induction n with
                  | zero => exact fun _ _ hm => absurd hm (Nat.not_lt_zero _)
                  | succ n ih3 =>
                    intro row_3 x3_1  hm3 hI
                    have h := hB3 row_3 x3_1 hI
                    refine g_iload_n C dX11_laysPhi_44 3 rfl ?_
                    refine g_iload_n C dX11_laysPhi_45 1 rfl ?_
                    refine g_icmp_gt (tgt := 73) C dX11_laysPhi_46 (by decide) (fun c_4 => ?_) (fun c_4 => ?_)
                    · replace h := h.1 c_4
                      refine g_iinc (v := x2_2 + 1) (lv' := [(2, .int (x2_2 + 1)), (0, .ref h0), (1, .int a1), (3, .int x3_1)]) C dX11_laysPhi_73 2 rfl rfl (by decide) rfl ?_
                      refine g_goto (tgt := 26) C dX11_laysPhi_76 (by decide) ?_
                      refine gG.locals (lv' := [(0, .ref h0), (1, .int a1), (2, .int (x2_2 + 1))]) [1, 2, 0] rfl ?_
                      exact ih2 row_3 (x2_2 + 1) (Nat.lt_of_lt_of_le h.2 (Nat.le_of_lt_succ hm2)) h.1
                    · replace h := h.2 c_4
                      refine g_aload_n C dX11_laysPhi_49 0 rfl ?_
                      refine g_get C inX11 0 rfl rfl 30 (by decide) wF_X11_65 rfl dX11_laysPhi_50 ?_
                      refine g_iload_n C dX11_laysPhi_53 3 rfl ?_
                      refine g_dup2 C dX11_laysPhi_54 rfl rfl ?_
                      obtain ⟨hc_1, h⟩ := h
                      refine g_iald C 2 rfl hc_1 dX11_laysPhi_55 ?_
                      refine g_aload_n C dX11_laysPhi_56 0 rfl ?_
                      refine g_get C inX11 0 rfl rfl 30 (by decide) wF_X11_65 rfl dX11_laysPhi_57 ?_
                      refine g_iload_n C dX11_laysPhi_60 3 rfl ?_
                      refine g_iald C 2 rfl hc_1 dX11_laysPhi_61 ?_
                      refine g_iload_n C dX11_laysPhi_62 2 rfl ?_
                      obtain ⟨hc_2, h⟩ := h
                      refine g_idiv C dX11_laysPhi_63 hc_2 ?_
                      refine g_isub C dX11_laysPhi_64 ?_
                      refine g_topi (fun e_1 ee_1 => ?_)
                      replace h := h e_1 ee_1
                      refine g_iast C 2 rfl hc_1 dX11_laysPhi_65 (fun row_4 erow_4 => gG.eqw (ws' := [oX11 h0 thrown (v_tape) taped (v_number) (v_isTold) (v_name) (v_sortOf) (v_first) (v_second) (v_degree) (v_colours) (v_signBy) (v_own) lines size atF place sort value fault faultPlace lastFault lastPlace (v_sF) (v_kept) undoable hasImage (v_power) (v_table) (.ref q_marks) (.ref q_row) rowOf_1 areSums isSieved (v_lastOf) blocks (v_inBlock) (v_atQuotient) (v_small) drawn, aI Y q_marks 6251 marks, aI Y q_row 200001 row_4]) rfl ?_)
                      replace h := h row_4 erow_4
                      refine g_iload_n C dX11_laysPhi_66 3 rfl ?_
                      refine g_iload_n C dX11_laysPhi_67 2 rfl ?_
                      refine g_iadd C dX11_laysPhi_68 ?_
                      refine g_topi (fun x3_2 ex3_2 => ?_)
                      replace h := h x3_2 ex3_2
                      refine g_istore_n (lv' := [(3, .int x3_2), (0, .ref h0), (1, .int a1), (2, .int x2_2)]) C dX11_laysPhi_69 (by decide) rfl ?_
                      refine g_goto (tgt := 44) C dX11_laysPhi_70 (by decide) ?_
                      refine gG.locals (lv' := [(0, .ref h0), (1, .int a1), (2, .int x2_2), (3, .int x3_2)]) [1, 2, 3, 0] rfl ?_
                      exact ih3 row_4 x3_2 (Nat.lt_of_lt_of_le h.2 (Nat.le_of_lt_succ hm3)) h.1
                refine gG.locals (lv' := [(0, .ref h0), (1, .int a1), (2, .int x2_2), (3, .int x2_2)]) [1, 2, 3, 0] rfl ?_
                exact key_3 (Mea_3 row_2 x2_2 + 1) row_2 x2_2 (Nat.lt_succ_self _) hI3
              · replace h := h.2 c_3
                refine g_goto (tgt := 73) C dX11_laysPhi_39 (by decide) ?_
                refine g_iinc (v := x2_2 + 1) (lv' := [(2, .int (x2_2 + 1)), (0, .ref h0), (1, .int a1)]) C dX11_laysPhi_73 2 rfl rfl (by decide) rfl ?_
                refine g_goto (tgt := 26) C dX11_laysPhi_76 (by decide) ?_
                refine gG.locals (lv' := [(0, .ref h0), (1, .int a1), (2, .int (x2_2 + 1))]) [1, 2, 0] rfl ?_
                exact ih2 row_2 (x2_2 + 1) (Nat.lt_of_lt_of_le h.2 (Nat.le_of_lt_succ hm2)) h.1
        refine gG.locals (lv' := [(0, .ref h0), (1, .int a1), (2, .int 2)]) [1, 2, 0] rfl ?_
        exact key_2 (Mea_2 row_1 2 + 1) row_1 2 (Nat.lt_succ_self _) hI2
      · replace h := h.2 c_1
        refine g_aload_n C dX11_laysPhi_11 0 rfl ?_
        refine g_get C inX11 0 rfl rfl 30 (by decide) wF_X11_65 rfl dX11_laysPhi_12 ?_
        refine g_iload_n C dX11_laysPhi_15 2 rfl ?_
        refine g_iload_n C dX11_laysPhi_16 2 rfl ?_
        obtain ⟨hc_3, h⟩ := h
        refine g_iast C 2 rfl hc_3 dX11_laysPhi_17 (fun row_5 erow_5 => gG.eqw (ws' := [oX11 h0 thrown (v_tape) taped (v_number) (v_isTold) (v_name) (v_sortOf) (v_first) (v_second) (v_degree) (v_colours) (v_signBy) (v_own) lines size atF place sort value fault faultPlace lastFault lastPlace (v_sF) (v_kept) undoable hasImage (v_power) (v_table) (.ref q_marks) (.ref q_row) rowOf_1 areSums isSieved (v_lastOf) blocks (v_inBlock) (v_atQuotient) (v_small) drawn, aI Y q_marks 6251 marks, aI Y q_row 200001 row_5]) rfl ?_)
        replace h := h row_5 erow_5
        refine g_iinc (v := x2_1 + 1) (lv' := [(2, .int (x2_1 + 1)), (0, .ref h0), (1, .int a1)]) C dX11_laysPhi_18 2 rfl rfl (by decide) rfl ?_
        refine g_goto (tgt := 6) C dX11_laysPhi_21 (by decide) ?_
        refine gG.locals (lv' := [(0, .ref h0), (1, .int a1), (2, .int (x2_1 + 1))]) [1, 2, 0] rfl ?_
        exact ih1 row_5 (x2_1 + 1) (Nat.lt_of_lt_of_le h.2 (Nat.le_of_lt_succ hm1)) h.1
  refine gG.locals (lv' := [(0, .ref h0), (1, .int a1), (2, .int 0)]) [1, 2, 0] rfl ?_
  exact key_1 (Mea_1 row 0 + 1) row 0 (Nat.lt_succ_self _) hI1
theorem dX11_laysCoprime_0 : decode cX11_laysCoprime 0 = .ok (.aload_n 0, 1) := by decide +kernel
theorem dX11_laysCoprime_1 : decode cX11_laysCoprime 1 = .ok (.iload_n 1, 1) := by decide +kernel
theorem dX11_laysCoprime_2 : decode cX11_laysCoprime 2 = .ok (.invokevirtual 332, 3) := by decide +kernel
theorem dX11_laysCoprime_5 : decode cX11_laysCoprime 5 = .ok (.lconst 0, 1) := by decide +kernel
theorem dX11_laysCoprime_6 : decode cX11_laysCoprime 6 = .ok (.lstore_n 2, 1) := by decide +kernel
theorem dX11_laysCoprime_7 : decode cX11_laysCoprime 7 = .ok (.iconst 0, 1) := by decide +kernel
theorem dX11_laysCoprime_8 : decode cX11_laysCoprime 8 = .ok (.istore 4, 2) := by decide +kernel
theorem dX11_laysCoprime_10 : decode cX11_laysCoprime 10 = .ok (.aload_n 0, 1) := by decide +kernel
theorem dX11_laysCoprime_11 : decode cX11_laysCoprime 11 = .ok (.getfield 314, 3) := by decide +kernel
theorem dX11_laysCoprime_14 : decode cX11_laysCoprime 14 = .ok (.iconst 1, 1) := by decide +kernel
theorem dX11_laysCoprime_15 : decode cX11_laysCoprime 15 = .ok (.isub, 1) := by decide +kernel
theorem dX11_laysCoprime_16 : decode cX11_laysCoprime 16 = .ok (.istore 5, 2) := by decide +kernel
theorem dX11_laysCoprime_18 : decode cX11_laysCoprime 18 = .ok (.iload 5, 2) := by decide +kernel
theorem dX11_laysCoprime_20 : decode cX11_laysCoprime 20 = .ok (.ifCond .lt 58, 3) := by decide +kernel
theorem dX11_laysCoprime_23 : decode cX11_laysCoprime 23 = .ok (.iload 4, 2) := by decide +kernel
theorem dX11_laysCoprime_25 : decode cX11_laysCoprime 25 = .ok (.iload_n 1, 1) := by decide +kernel
theorem dX11_laysCoprime_26 : decode cX11_laysCoprime 26 = .ok (.aload_n 0, 1) := by decide +kernel
theorem dX11_laysCoprime_27 : decode cX11_laysCoprime 27 = .ok (.getfield 68, 3) := by decide +kernel
theorem dX11_laysCoprime_30 : decode cX11_laysCoprime 30 = .ok (.iload 5, 2) := by decide +kernel
theorem dX11_laysCoprime_32 : decode cX11_laysCoprime 32 = .ok (.iaload, 1) := by decide +kernel
theorem dX11_laysCoprime_33 : decode cX11_laysCoprime 33 = .ok (.idiv, 1) := by decide +kernel
theorem dX11_laysCoprime_34 : decode cX11_laysCoprime 34 = .ok (.if_icmp .ge 20, 3) := by decide +kernel
theorem dX11_laysCoprime_37 : decode cX11_laysCoprime 37 = .ok (.iinc 4 1, 3) := by decide +kernel
theorem dX11_laysCoprime_40 : decode cX11_laysCoprime 40 = .ok (.lload_n 2, 1) := by decide +kernel
theorem dX11_laysCoprime_41 : decode cX11_laysCoprime 41 = .ok (.aload_n 0, 1) := by decide +kernel
theorem dX11_laysCoprime_42 : decode cX11_laysCoprime 42 = .ok (.getfield 65, 3) := by decide +kernel
theorem dX11_laysCoprime_45 : decode cX11_laysCoprime 45 = .ok (.iload 4, 2) := by decide +kernel
theorem dX11_laysCoprime_47 : decode cX11_laysCoprime 47 = .ok (.iaload, 1) := by decide +kernel
theorem dX11_laysCoprime_48 : decode cX11_laysCoprime 48 = .ok (.i2l, 1) := by decide +kernel
theorem dX11_laysCoprime_49 : decode cX11_laysCoprime 49 = .ok (.ladd, 1) := by decide +kernel
theorem dX11_laysCoprime_50 : decode cX11_laysCoprime 50 = .ok (.lstore_n 2, 1) := by decide +kernel
theorem dX11_laysCoprime_51 : decode cX11_laysCoprime 51 = .ok (.goto (-28), 3) := by decide +kernel
theorem dX11_laysCoprime_54 : decode cX11_laysCoprime 54 = .ok (.aload_n 0, 1) := by decide +kernel
theorem dX11_laysCoprime_55 : decode cX11_laysCoprime 55 = .ok (.getfield 74, 3) := by decide +kernel
theorem dX11_laysCoprime_58 : decode cX11_laysCoprime 58 = .ok (.iload 5, 2) := by decide +kernel
theorem dX11_laysCoprime_60 : decode cX11_laysCoprime 60 = .ok (.aload_n 0, 1) := by decide +kernel
theorem dX11_laysCoprime_61 : decode cX11_laysCoprime 61 = .ok (.ldc2_w 335, 3) := by decide +kernel
theorem dX11_laysCoprime_64 : decode cX11_laysCoprime 64 = .ok (.lload_n 2, 1) := by decide +kernel
theorem dX11_laysCoprime_65 : decode cX11_laysCoprime 65 = .ok (.lmul, 1) := by decide +kernel
theorem dX11_laysCoprime_66 : decode cX11_laysCoprime 66 = .ok (.lconst 1, 1) := by decide +kernel
theorem dX11_laysCoprime_67 : decode cX11_laysCoprime 67 = .ok (.lsub, 1) := by decide +kernel
theorem dX11_laysCoprime_68 : decode cX11_laysCoprime 68 = .ok (.invokevirtual 256, 3) := by decide +kernel
theorem dX11_laysCoprime_71 : decode cX11_laysCoprime 71 = .ok (.lastore, 1) := by decide +kernel
theorem dX11_laysCoprime_72 : decode cX11_laysCoprime 72 = .ok (.iinc 5 (-1), 3) := by decide +kernel
theorem dX11_laysCoprime_75 : decode cX11_laysCoprime 75 = .ok (.goto (-57), 3) := by decide +kernel
theorem dX11_laysCoprime_78 : decode cX11_laysCoprime 78 = .ok (.return_, 1) := by decide +kernel
/-- QuotientSumsModel.laysCoprime(I)V -/
def wX11_laysCoprime (thrown : Int32) (taped : Int32) (lines : Int32) (size : Int32) (atF : Int32) (place : Int32) (sort : Int32) (value : Int32) (fault : Int32) (faultPlace : Int32) (lastFault : Int32) (lastPlace : Int32) (undoable : Int32) (hasImage : Int32) (rowOf : Int32) (areSums : Int32) (isSieved : Int32) (blocks : Int32) (drawn : Int32) (marks : Nat → Int32) (row : Nat → Int32) (lastOf : Nat → Int32) (sF : Nat → Int32) (atQuotient : Nat → Int64) (a1 : Int32) (Q : (Int32) → (Nat → Int32) → (Nat → Int64) → Prop) : Prop :=
  (∃ (P_1 : (Int32) → (Nat → Int32) → Prop), wX11_laysPhi thrown taped lines size atF place sort value fault faultPlace lastFault lastPlace undoable hasImage rowOf areSums isSieved blocks drawn marks row a1 P_1 ∧ ∀ (rowOf_1 : Int32) (row_1 : Nat → Int32), P_1 rowOf_1 row_1 → ∀ x5_1 : Int32, x5_1 = blocks - 1 → (∃ (Inv_1 : (Nat → Int64) → (Int64) → (Int32) → (Int32) → Prop) (Mea_1 : (Nat → Int64) → (Int64) → (Int32) → (Int32) → Nat), Inv_1 atQuotient 0 0 x5_1 ∧ ∀ (atQuotient_1 : Nat → Int64) (x2_1 : Int64) (x4_1 : Int32) (x5_2 : Int32), Inv_1 atQuotient_1 x2_1 x4_1 x5_2 → ((x5_2 < 0 → (Q rowOf_1 row_1 atQuotient_1)) ∧ (¬ x5_2 < 0 → (∃ (Inv_2 : (Int64) → (Int32) → Prop) (Mea_2 : (Int64) → (Int32) → Nat), Inv_2 x2_1 x4_1 ∧ ∀ (x2_2 : Int64) (x4_2 : Int32), Inv_2 x2_2 x4_2 → (vp_in x5_2 900 ∧ ¬ (lastOf x5_2.toNatClampNeg) = 0 ∧ (((a1 / (lastOf x5_2.toNatClampNeg)) ≤ x4_2 → (∃ (P_2 : (Int64) → Prop), wX11_rest thrown taped lines size atF place sort value fault faultPlace lastFault lastPlace undoable hasImage rowOf_1 areSums isSieved blocks drawn sF ((2 * x2_2) - 1) P_2 ∧ ∀ (rF_1 : Int64), P_2 rF_1 → vp_in x5_2 900 ∧ ∀ atQuotient_2 : Nat → Int64, atQuotient_2 = vp_updL atQuotient_1 x5_2.toNatClampNeg rF_1 → (Inv_1 atQuotient_2 x2_2 x4_2 (x5_2 + (-1)) ∧ Mea_1 atQuotient_2 x2_2 x4_2 (x5_2 + (-1)) < Mea_1 atQuotient_1 x2_1 x4_1 x5_2))) ∧ (¬ (a1 / (lastOf x5_2.toNatClampNeg)) ≤ x4_2 → (vp_in (x4_2 + 1) 200001 ∧ ∀ x2_3 : Int64, x2_3 = x2_2 + ((row_1 (x4_2 + 1).toNatClampNeg).toInt64) → (Inv_2 x2_3 (x4_2 + 1) ∧ Mea_2 x2_3 (x4_2 + 1) < Mea_2 x2_2 x4_2))))))))))
set_option maxHeartbeats 4000000 in
set_option maxRecDepth 100000 in
theorem mX11_laysCoprime (l : Launch) (D : va_G) (Y : Nat → ClassId) (h0 : Nat) (thrown : Int32) (v_tape : Value) (taped : Int32) (v_number : Value) (v_isTold : Value) (v_name : Value) (v_sortOf : Value) (v_first : Value) (v_second : Value) (v_degree : Value) (v_colours : Value) (v_signBy : Value) (v_own : Value) (lines : Int32) (size : Int32) (atF : Int32) (place : Int32) (sort : Int32) (value : Int32) (fault : Int32) (faultPlace : Int32) (lastFault : Int32) (lastPlace : Int32) (q_sF : Nat) (v_kept : Value) (undoable : Int32) (hasImage : Int32) (v_power : Value) (v_table : Value) (q_marks : Nat) (q_row : Nat) (rowOf : Int32) (areSums : Int32) (isSieved : Int32) (q_lastOf : Nat) (blocks : Int32) (v_inBlock : Value) (q_atQuotient : Nat) (v_small : Value) (drawn : Int32) (marks : Nat → Int32) (row : Nat → Int32) (lastOf : Nat → Int32) (sF : Nat → Int32) (atQuotient : Nat → Int64) (a1 : Int32) (Q : (Int32) → (Nat → Int32) → (Nat → Int64) → Prop) (h : wX11_laysCoprime thrown taped lines size atF place sort value fault faultPlace lastFault lastPlace undoable hasImage rowOf areSums isSieved blocks drawn marks row lastOf sF atQuotient a1 Q) : gM l D Y yX11_laysCoprime cX11_laysCoprime 6 none 2 44 0 0 [.ref h0, .int a1] [oX11 h0 thrown (v_tape) taped (v_number) (v_isTold) (v_name) (v_sortOf) (v_first) (v_second) (v_degree) (v_colours) (v_signBy) (v_own) lines size atF place sort value fault faultPlace lastFault lastPlace (.ref q_sF) (v_kept) undoable hasImage (v_power) (v_table) (.ref q_marks) (.ref q_row) rowOf areSums isSieved (.ref q_lastOf) blocks (v_inBlock) (.ref q_atQuotient) (v_small) drawn, aI Y q_marks 6251 marks, aI Y q_row 200001 row, aI Y q_lastOf 900 lastOf, aI Y q_sF 74 sF, aJ Y q_atQuotient 900 atQuotient] (fun v w => ∃ rowOf' : Int32, ∃ row' : Nat → Int32, ∃ atQuotient' : Nat → Int64, v = none ∧ w = [oX11 h0 thrown (v_tape) taped (v_number) (v_isTold) (v_name) (v_sortOf) (v_first) (v_second) (v_degree) (v_colours) (v_signBy) (v_own) lines size atF place sort value fault faultPlace lastFault lastPlace (.ref q_sF) (v_kept) undoable hasImage (v_power) (v_table) (.ref q_marks) (.ref q_row) rowOf' areSums isSieved (.ref q_lastOf) blocks (v_inBlock) (.ref q_atQuotient) (v_small) drawn, aI Y q_marks 6251 marks, aI Y q_row 200001 row', aI Y q_lastOf 900 lastOf, aI Y q_sF 74 sF, aJ Y q_atQuotient 900 atQuotient'] ∧ Q rowOf' row' atQuotient') := by
  refine gM_of (own := RX11) (by decide +kernel) rfl (Nat.le_of_ble_eq_true rfl) rfl (fun E C hR => ?_)
  unfold wX11_laysCoprime at h
  refine g_aload_n C dX11_laysCoprime_0 0 rfl ?_
  refine g_iload_n C dX11_laysCoprime_1 1 rfl ?_
  obtain ⟨P_1, hP, h⟩ := h
  refine g_callV (As := [.int a1]) (rest := []) C (mX11_laysPhi l D Y h0 thrown v_tape taped v_number v_isTold v_name v_sortOf v_first v_second v_degree v_colours v_signBy v_own lines size atF place sort value fault faultPlace lastFault lastPlace (.ref q_sF) v_kept undoable hasImage v_power v_table q_marks q_row rowOf areSums isSieved (.ref q_lastOf) blocks v_inBlock (.ref q_atQuotient) v_small drawn marks row a1 P_1 hP) dX11_laysCoprime_2 rfl wM_X11_332 wI_X11_laysPhi wV_X11_laysPhi wN_X11 wC_X11_laysPhi (n := 1) (by decide +kernel) rfl (q0 := 0) rfl rfl ⟨Nat.le_of_ble_eq_true rfl, Nat.le_of_ble_eq_true rfl⟩ ⟨Nat.le_of_ble_eq_true rfl, Nat.le_of_ble_eq_true rfl⟩ (Nat.le_of_ble_eq_true rfl) [0, 1, 2] [3, 4, 5] rfl rfl rfl (fun v wc hv => ?_)
  obtain ⟨rowOf_1, row_1, rfl, rfl, hq⟩ := hv
  replace h := h rowOf_1 row_1 hq
  refine gG.perm (ws' := [oX11 h0 thrown (v_tape) taped (v_number) (v_isTold) (v_name) (v_sortOf) (v_first) (v_second) (v_degree) (v_colours) (v_signBy) (v_own) lines size atF place sort value fault faultPlace lastFault lastPlace (.ref q_sF) (v_kept) undoable hasImage (v_power) (v_table) (.ref q_marks) (.ref q_row) rowOf_1 areSums isSieved (.ref q_lastOf) blocks (v_inBlock) (.ref q_atQuotient) (v_small) drawn, aI Y q_marks 6251 marks, aI Y q_row 200001 row_1, aI Y q_lastOf 900 lastOf, aI Y q_sF 74 sF, aJ Y q_atQuotient 900 atQuotient]) [3, 4, 5, 0, 1, 2] rfl rfl ?_
  refine g_lconst (v := 0) C dX11_laysCoprime_5 rfl ?_
  refine g_lstore_n (lv' := [(2, .long 0), (0, .ref h0), (1, .int a1)]) C dX11_laysCoprime_6 (by decide) rfl ?_
  refine g_iconst (v := 0) C dX11_laysCoprime_7 rfl ?_
  refine g_istore (lv' := [(4, .int 0), (2, .long 0), (0, .ref h0), (1, .int a1)]) C dX11_laysCoprime_8 (by decide) rfl ?_
  refine g_aload_n C dX11_laysCoprime_10 2 rfl ?_
  refine g_get C inX11 0 rfl rfl 35 (by decide) wF_X11_314 rfl dX11_laysCoprime_11 ?_
  refine g_iconst (v := 1) C dX11_laysCoprime_14 rfl ?_
  refine g_isub C dX11_laysCoprime_15 ?_
  refine g_topi (fun x5_1 ex5_1 => ?_)
  replace h := h x5_1 ex5_1
  refine g_istore (lv' := [(5, .int x5_1), (4, .int 0), (2, .long 0), (0, .ref h0), (1, .int a1)]) C dX11_laysCoprime_16 (by decide) rfl ?_
  obtain ⟨Inv_1, Mea_1, hI1, hB1⟩ := h
  have key_1 : ∀ (n : Nat) (atQuotient_1 : Nat → Int64) (x2_1 : Int64) (x4_1 : Int32) (x5_2 : Int32) , Mea_1 atQuotient_1 x2_1 x4_1 x5_2 < n → Inv_1 atQuotient_1 x2_1 x4_1 x5_2 → gG E 0 0 [oX11 h0 thrown (v_tape) taped (v_number) (v_isTold) (v_name) (v_sortOf) (v_first) (v_second) (v_degree) (v_colours) (v_signBy) (v_own) lines size atF place sort value fault faultPlace lastFault lastPlace (.ref q_sF) (v_kept) undoable hasImage (v_power) (v_table) (.ref q_marks) (.ref q_row) rowOf_1 areSums isSieved (.ref q_lastOf) blocks (v_inBlock) (.ref q_atQuotient) (v_small) drawn, aI Y q_marks 6251 marks, aI Y q_row 200001 row_1, aI Y q_lastOf 900 lastOf, aI Y q_sF 74 sF, aJ Y q_atQuotient 900 atQuotient_1] [(0, .ref h0), (1, .int a1), (2, .long x2_1), (4, .int x4_1), (5, .int x5_2)] [] 18 := by
    intro n
    induction n with
    | zero => exact fun _ _ _ _ hm => absurd hm (Nat.not_lt_zero _)
    | succ n ih1 =>
      intro atQuotient_1 x2_1 x4_1 x5_2  hm1 hI
      have h := hB1 atQuotient_1 x2_1 x4_1 x5_2 hI
      refine g_iload C dX11_laysCoprime_18 4 rfl ?_
      refine g_if_lt (tgt := 78) C dX11_laysCoprime_20 (by decide) (fun c_1 => ?_) (fun c_1 => ?_)
      · replace h := h.1 c_1
        exact g_vret C hR (Nat.le_of_ble_eq_true rfl) (Nat.le_of_ble_eq_true rfl) dX11_laysCoprime_78 ⟨rowOf_1, row_1, atQuotient_1, rfl, rfl, h⟩
      · replace h := h.2 c_1
        obtain ⟨Inv_2, Mea_2, hI2, hB2⟩ := h
        have key_2 : ∀ (n : Nat) (x2_2 : Int64) (x4_2 : Int32) , Mea_2 x2_2 x4_2 < n → Inv_2 x2_2 x4_2 → gG E 0 0 [oX11 h0 thrown (v_tape) taped (v_number) (v_isTold) (v_name) (v_sortOf) (v_first) (v_second) (v_degree) (v_colours) (v_signBy) (v_own) lines size atF place sort value fault faultPlace lastFault lastPlace (.ref q_sF) (v_kept) undoable hasImage (v_power) (v_table) (.ref q_marks) (.ref q_row) rowOf_1 areSums isSieved (.ref q_lastOf) blocks (v_inBlock) (.ref q_atQuotient) (v_small) drawn, aI Y q_marks 6251 marks, aI Y q_row 200001 row_1, aI Y q_lastOf 900 lastOf, aI Y q_sF 74 sF, aJ Y q_atQuotient 900 atQuotient_1] [(0, .ref h0), (1, .int a1), (2, .long x2_2), (4, .int x4_2), (5, .int x5_2)] [] 23 := by
          intro n
          induction n with
          | zero => exact fun _ _ hm => absurd hm (Nat.not_lt_zero _)
          | succ n ih2 =>
            intro x2_2 x4_2  hm2 hI
            have h := hB2 x2_2 x4_2 hI
            refine g_iload C dX11_laysCoprime_23 3 rfl ?_
            refine g_iload_n C dX11_laysCoprime_25 1 rfl ?_
            refine g_aload_n C dX11_laysCoprime_26 0 rfl ?_
            refine g_get C inX11 0 rfl rfl 34 (by decide) wF_X11_68 rfl dX11_laysCoprime_27 ?_
            refine g_iload C dX11_laysCoprime_30 4 rfl ?_
            obtain ⟨hc_1, h⟩ := h
            refine g_iald C 3 rfl hc_1 dX11_laysCoprime_32 ?_
            obtain ⟨hc_2, h⟩ := h
            refine g_idiv C dX11_laysCoprime_33 hc_2 ?_
            refine g_icmp_ge (tgt := 54) C dX11_laysCoprime_34 (by decide) (fun c_2 => ?_) (fun c_2 => ?_)
            · replace h := h.1 c_2
              refine g_aload_n C dX11_laysCoprime_54 0 rfl ?_
              refine g_get C inX11 0 rfl rfl 37 (by decide) wF_X11_74 rfl dX11_laysCoprime_55 ?_
              refine g_iload C dX11_laysCoprime_58 4 rfl ?_
              refine g_aload_n C dX11_laysCoprime_60 0 rfl ?_
              refine g_ldc2 C dX11_laysCoprime_61 wQ_X11_335 ?_
              refine g_lload_n C dX11_laysCoprime_64 2 rfl ?_
              refine g_lmul C dX11_laysCoprime_65 ?_
              refine g_lconst (v := 1) C dX11_laysCoprime_66 rfl ?_
              refine g_lsub C dX11_laysCoprime_67 ?_
              obtain ⟨P_2, hP, h⟩ := h
              refine g_callV (As := [.long ((2 * x2_2) - 1)]) (rest := [.int x5_2, .ref q_atQuotient]) C (mX11_rest l D Y h0 thrown v_tape taped v_number v_isTold v_name v_sortOf v_first v_second v_degree v_colours v_signBy v_own lines size atF place sort value fault faultPlace lastFault lastPlace q_sF v_kept undoable hasImage v_power v_table (.ref q_marks) (.ref q_row) rowOf_1 areSums isSieved (.ref q_lastOf) blocks v_inBlock (.ref q_atQuotient) v_small drawn sF ((2 * x2_2) - 1) P_2 hP) dX11_laysCoprime_68 rfl wM_X11_256 wI_X11_rest wV_X11_rest wN_X11 wC_X11_rest (n := 1) (by decide +kernel) rfl (q0 := 0) rfl rfl ⟨Nat.le_of_ble_eq_true rfl, Nat.le_of_ble_eq_true rfl⟩ ⟨Nat.le_of_ble_eq_true rfl, Nat.le_of_ble_eq_true rfl⟩ (Nat.le_of_ble_eq_true rfl) [0, 4] [1, 2, 3, 5] rfl rfl rfl (fun v wc hv => ?_)
              obtain ⟨rF_1, rfl, rfl, hq⟩ := hv
              replace h := h rF_1 hq
              refine gG.perm (ws' := [oX11 h0 thrown (v_tape) taped (v_number) (v_isTold) (v_name) (v_sortOf) (v_first) (v_second) (v_degree) (v_colours) (v_signBy) (v_own) lines size atF place sort value fault faultPlace lastFault lastPlace (.ref q_sF) (v_kept) undoable hasImage (v_power) (v_table) (.ref q_marks) (.ref q_row) rowOf_1 areSums isSieved (.ref q_lastOf) blocks (v_inBlock) (.ref q_atQuotient) (v_small) drawn, aI Y q_marks 6251 marks, aI Y q_row 200001 row_1, aI Y q_lastOf 900 lastOf, aI Y q_sF 74 sF, aJ Y q_atQuotient 900 atQuotient_1]) [4, 0, 1, 2, 5, 3] rfl rfl ?_
              obtain ⟨hc_3, h⟩ := h
              refine g_last C 5 rfl hc_3 dX11_laysCoprime_71 (fun atQuotient_2 eatQuotient_2 => gG.eqw (ws' := [oX11 h0 thrown (v_tape) taped (v_number) (v_isTold) (v_name) (v_sortOf) (v_first) (v_second) (v_degree) (v_colours) (v_signBy) (v_own) lines size atF place sort value fault faultPlace lastFault lastPlace (.ref q_sF) (v_kept) undoable hasImage (v_power) (v_table) (.ref q_marks) (.ref q_row) rowOf_1 areSums isSieved (.ref q_lastOf) blocks (v_inBlock) (.ref q_atQuotient) (v_small) drawn, aI Y q_marks 6251 marks, aI Y q_row 200001 row_1, aI Y q_lastOf 900 lastOf, aI Y q_sF 74 sF, aJ Y q_atQuotient 900 atQuotient_2]) rfl ?_)
              replace h := h atQuotient_2 eatQuotient_2
              refine g_iinc (v := x5_2 + (-1)) (lv' := [(5, .int (x5_2 + (-1))), (0, .ref h0), (1, .int a1), (2, .long x2_2), (4, .int x4_2)]) C dX11_laysCoprime_72 4 rfl rfl (by decide) rfl ?_
              refine g_goto (tgt := 18) C dX11_laysCoprime_75 (by decide) ?_
              refine gG.locals (lv' := [(0, .ref h0), (1, .int a1), (2, .long x2_2), (4, .int x4_2), (5, .int (x5_2 + (-1)))]) [1, 2, 3, 4, 0] rfl ?_
              exact ih1 atQuotient_2 x2_2 x4_2 (x5_2 + (-1)) (Nat.lt_of_lt_of_le h.2 (Nat.le_of_lt_succ hm1)) h.1
            · replace h := h.2 c_2
              refine g_iinc (v := x4_2 + 1) (lv' := [(4, .int (x4_2 + 1)), (0, .ref h0), (1, .int a1), (2, .long x2_2), (5, .int x5_2)]) C dX11_laysCoprime_37 3 rfl rfl (by decide) rfl ?_
              refine g_lload_n C dX11_laysCoprime_40 3 rfl ?_
              refine g_aload_n C dX11_laysCoprime_41 1 rfl ?_
              refine g_get C inX11 0 rfl rfl 30 (by decide) wF_X11_65 rfl dX11_laysCoprime_42 ?_
              refine g_iload C dX11_laysCoprime_45 0 rfl ?_
              obtain ⟨hc_4, h⟩ := h
              refine g_iald C 2 rfl hc_4 dX11_laysCoprime_47 ?_
              refine g_i2l C dX11_laysCoprime_48 ?_
              refine g_ladd C dX11_laysCoprime_49 ?_
              refine g_topl (fun x2_3 ex2_3 => ?_)
              replace h := h x2_3 ex2_3
              refine g_lstore_n (lv' := [(2, .long x2_3), (4, .int (x4_2 + 1)), (0, .ref h0), (1, .int a1), (5, .int x5_2)]) C dX11_laysCoprime_50 (by decide) rfl ?_
              refine g_goto (tgt := 23) C dX11_laysCoprime_51 (by decide) ?_
              refine gG.locals (lv' := [(0, .ref h0), (1, .int a1), (2, .long x2_3), (4, .int (x4_2 + 1)), (5, .int x5_2)]) [2, 3, 0, 1, 4] rfl ?_
              exact ih2 x2_3 (x4_2 + 1) (Nat.lt_of_lt_of_le h.2 (Nat.le_of_lt_succ hm2)) h.1
        exact key_2 (Mea_2 x2_1 x4_1 + 1) x2_1 x4_1 (Nat.lt_succ_self _) hI2
  refine gG.locals (lv' := [(0, .ref h0), (1, .int a1), (2, .long 0), (4, .int 0), (5, .int x5_1)]) [3, 4, 2, 1, 0] rfl ?_
  exact key_1 (Mea_1 atQuotient 0 0 x5_1 + 1) atQuotient 0 0 x5_1 (Nat.lt_succ_self _) hI1
theorem dX11_common_0 : decode cX11_common 0 = .ok (.aload_n 0, 1) := by decide +kernel
theorem dX11_common_1 : decode cX11_common 1 = .ok (.iconst 0, 1) := by decide +kernel
theorem dX11_common_2 : decode cX11_common 2 = .ok (.putfield 89, 3) := by decide +kernel
theorem dX11_common_5 : decode cX11_common 5 = .ok (.aload_n 0, 1) := by decide +kernel
theorem dX11_common_6 : decode cX11_common 6 = .ok (.iload_n 1, 1) := by decide +kernel
theorem dX11_common_7 : decode cX11_common 7 = .ok (.invokevirtual 241, 3) := by decide +kernel
theorem dX11_common_10 : decode cX11_common 10 = .ok (.ifCond .eq 12, 3) := by decide +kernel
theorem dX11_common_13 : decode cX11_common 13 = .ok (.aload_n 0, 1) := by decide +kernel
theorem dX11_common_14 : decode cX11_common 14 = .ok (.iload_n 2, 1) := by decide +kernel
theorem dX11_common_15 : decode cX11_common 15 = .ok (.iconst 0, 1) := by decide +kernel
theorem dX11_common_16 : decode cX11_common 16 = .ok (.invokevirtual 282, 3) := by decide +kernel
theorem dX11_common_19 : decode cX11_common 19 = .ok (.ifCond .ne 5, 3) := by decide +kernel
theorem dX11_common_22 : decode cX11_common 22 = .ok (.iconst (-1), 1) := by decide +kernel
theorem dX11_common_23 : decode cX11_common 23 = .ok (.ireturn, 1) := by decide +kernel
theorem dX11_common_24 : decode cX11_common 24 = .ok (.aload_n 0, 1) := by decide +kernel
theorem dX11_common_25 : decode cX11_common 25 = .ok (.iload_n 2, 1) := by decide +kernel
theorem dX11_common_26 : decode cX11_common 26 = .ok (.invokevirtual 317, 3) := by decide +kernel
theorem dX11_common_29 : decode cX11_common 29 = .ok (.aload_n 0, 1) := by decide +kernel
theorem dX11_common_30 : decode cX11_common 30 = .ok (.iload_n 1, 1) := by decide +kernel
theorem dX11_common_31 : decode cX11_common 31 = .ok (.invokevirtual 323, 3) := by decide +kernel
theorem dX11_common_34 : decode cX11_common 34 = .ok (.aload_n 0, 1) := by decide +kernel
theorem dX11_common_35 : decode cX11_common 35 = .ok (.iload_n 2, 1) := by decide +kernel
theorem dX11_common_36 : decode cX11_common 36 = .ok (.invokevirtual 337, 3) := by decide +kernel
theorem dX11_common_39 : decode cX11_common 39 = .ok (.aload_n 0, 1) := by decide +kernel
theorem dX11_common_40 : decode cX11_common 40 = .ok (.invokevirtual 329, 3) := by decide +kernel
theorem dX11_common_43 : decode cX11_common 43 = .ok (.ireturn, 1) := by decide +kernel
/-- QuotientSumsModel.common(II)I -/
def wX11_common (thrown : Int32) (taped : Int32) (lines : Int32) (size : Int32) (atF : Int32) (place : Int32) (sort : Int32) (value : Int32) (fault : Int32) (faultPlace : Int32) (lastFault : Int32) (lastPlace : Int32) (undoable : Int32) (hasImage : Int32) (rowOf : Int32) (areSums : Int32) (isSieved : Int32) (blocks : Int32) (drawn : Int32) (number : Nat → Int32) (sF : Nat → Int32) (lastOf : Nat → Int32) (row : Nat → Int32) (marks : Nat → Int32) (power : Nat → Int64) (table : Nat → Int64) (sortOf : Nat → Int32) (first : Nat → Int32) (second : Nat → Int32) (signBy : Nat → Int32) (inBlock : Nat → Int64) (atQuotient : Nat → Int64) (a1 : Int32) (a2 : Int32) (Q : (Int32) → (Int32) → (Int32) → (Int32) → (Int32) → (Nat → Int32) → (Nat → Int32) → (Nat → Int64) → (Nat → Int64) → (Nat → Int64) → (Nat → Int64) → Prop) : Prop :=
  (∃ (P_1 : (Int32) → Prop), wX11_isFunction 0 taped lines size atF place sort value fault faultPlace lastFault lastPlace undoable hasImage rowOf areSums isSieved blocks drawn number a1 P_1 ∧ ∀ (rF_1 : Int32), P_1 rF_1 → ((rF_1 = 0 → (Q (-1) 0 rowOf areSums blocks lastOf row power table inBlock atQuotient)) ∧ (¬ rF_1 = 0 → (∃ (P_2 : (Int32) → Prop), wX11_isIn 0 taped lines size atF place sort value fault faultPlace lastFault lastPlace undoable hasImage rowOf areSums isSieved blocks drawn sF a2 0 P_2 ∧ ∀ (rF_2 : Int32), P_2 rF_2 → ((¬ rF_2 = 0 → (∃ (P_3 : (Int32) → (Nat → Int32) → Prop), wX11_laysBlocks 0 taped lines size atF place sort value fault faultPlace lastFault lastPlace undoable hasImage rowOf areSums isSieved blocks drawn lastOf a2 P_3 ∧ ∀ (blocks_1 : Int32) (lastOf_1 : Nat → Int32), P_3 blocks_1 lastOf_1 → ∃ (P_4 : (Int32) → (Int32) → (Nat → Int32) → (Nat → Int64) → (Nat → Int64) → (Nat → Int64) → Prop), wX11_laysInBlocks 0 taped lines size atF place sort value fault faultPlace lastFault lastPlace undoable hasImage rowOf areSums isSieved blocks_1 drawn sF row marks power table sortOf first second signBy lastOf_1 inBlock a1 P_4 ∧ ∀ (rowOf_1 : Int32) (areSums_1 : Int32) (row_1 : Nat → Int32) (power_1 : Nat → Int64) (table_1 : Nat → Int64) (inBlock_1 : Nat → Int64), P_4 rowOf_1 areSums_1 row_1 power_1 table_1 inBlock_1 → ∃ (P_5 : (Int32) → (Nat → Int32) → (Nat → Int64) → Prop), wX11_laysCoprime 0 taped lines size atF place sort value fault faultPlace lastFault lastPlace undoable hasImage rowOf_1 areSums_1 isSieved blocks_1 drawn marks row_1 lastOf_1 sF atQuotient a2 P_5 ∧ ∀ (rowOf_2 : Int32) (row_2 : Nat → Int32) (atQuotient_1 : Nat → Int64), P_5 rowOf_2 row_2 atQuotient_1 → ∃ (P_6 : (Int32) → Prop), wX11_acrossBlocks 0 taped lines size atF place sort value fault faultPlace lastFault lastPlace undoable hasImage rowOf_2 areSums_1 isSieved blocks_1 drawn inBlock_1 atQuotient_1 sF P_6 ∧ ∀ (rF_3 : Int32), P_6 rF_3 → (Q rF_3 0 rowOf_2 areSums_1 blocks_1 lastOf_1 row_2 power_1 table_1 inBlock_1 atQuotient_1))) ∧ (rF_2 = 0 → (Q (-1) 0 rowOf areSums blocks lastOf row power table inBlock atQuotient)))))))
set_option maxHeartbeats 4000000 in
set_option maxRecDepth 100000 in
theorem mX11_common (l : Launch) (D : va_G) (Y : Nat → ClassId) (h0 : Nat) (thrown : Int32) (v_tape : Value) (taped : Int32) (q_number : Nat) (v_isTold : Value) (v_name : Value) (q_sortOf : Nat) (q_first : Nat) (q_second : Nat) (v_degree : Value) (v_colours : Value) (q_signBy : Nat) (v_own : Value) (lines : Int32) (size : Int32) (atF : Int32) (place : Int32) (sort : Int32) (value : Int32) (fault : Int32) (faultPlace : Int32) (lastFault : Int32) (lastPlace : Int32) (q_sF : Nat) (v_kept : Value) (undoable : Int32) (hasImage : Int32) (q_power : Nat) (q_table : Nat) (q_marks : Nat) (q_row : Nat) (rowOf : Int32) (areSums : Int32) (isSieved : Int32) (q_lastOf : Nat) (blocks : Int32) (q_inBlock : Nat) (q_atQuotient : Nat) (v_small : Value) (drawn : Int32) (number : Nat → Int32) (sF : Nat → Int32) (lastOf : Nat → Int32) (row : Nat → Int32) (marks : Nat → Int32) (power : Nat → Int64) (table : Nat → Int64) (sortOf : Nat → Int32) (first : Nat → Int32) (second : Nat → Int32) (signBy : Nat → Int32) (inBlock : Nat → Int64) (atQuotient : Nat → Int64) (a1 : Int32) (a2 : Int32) (Q : (Int32) → (Int32) → (Int32) → (Int32) → (Int32) → (Nat → Int32) → (Nat → Int32) → (Nat → Int64) → (Nat → Int64) → (Nat → Int64) → (Nat → Int64) → Prop) (h : wX11_common thrown taped lines size atF place sort value fault faultPlace lastFault lastPlace undoable hasImage rowOf areSums isSieved blocks drawn number sF lastOf row marks power table sortOf first second signBy inBlock atQuotient a1 a2 Q) : gM l D Y yX11_common cX11_common 3 (some .int) 5 121 0 0 [.ref h0, .int a1, .int a2] [oX11 h0 thrown (v_tape) taped (.ref q_number) (v_isTold) (v_name) (.ref q_sortOf) (.ref q_first) (.ref q_second) (v_degree) (v_colours) (.ref q_signBy) (v_own) lines size atF place sort value fault faultPlace lastFault lastPlace (.ref q_sF) (v_kept) undoable hasImage (.ref q_power) (.ref q_table) (.ref q_marks) (.ref q_row) rowOf areSums isSieved (.ref q_lastOf) blocks (.ref q_inBlock) (.ref q_atQuotient) (v_small) drawn, aI Y q_number 8 number, aI Y q_sF 74 sF, aI Y q_lastOf 900 lastOf, aI Y q_row 200001 row, aI Y q_marks 6251 marks, aJ Y q_power 18 power, aJ Y q_table 216 table, aI Y q_sortOf 24 sortOf, aI Y q_first 24 first, aI Y q_second 24 second, aI Y q_signBy 24 signBy, aJ Y q_inBlock 900 inBlock, aJ Y q_atQuotient 900 atQuotient] (fun v w => ∃ r : Int32, ∃ thrown' : Int32, ∃ rowOf' : Int32, ∃ areSums' : Int32, ∃ blocks' : Int32, ∃ lastOf' : Nat → Int32, ∃ row' : Nat → Int32, ∃ power' : Nat → Int64, ∃ table' : Nat → Int64, ∃ inBlock' : Nat → Int64, ∃ atQuotient' : Nat → Int64, v = some (.int r) ∧ w = [oX11 h0 thrown' (v_tape) taped (.ref q_number) (v_isTold) (v_name) (.ref q_sortOf) (.ref q_first) (.ref q_second) (v_degree) (v_colours) (.ref q_signBy) (v_own) lines size atF place sort value fault faultPlace lastFault lastPlace (.ref q_sF) (v_kept) undoable hasImage (.ref q_power) (.ref q_table) (.ref q_marks) (.ref q_row) rowOf' areSums' isSieved (.ref q_lastOf) blocks' (.ref q_inBlock) (.ref q_atQuotient) (v_small) drawn, aI Y q_number 8 number, aI Y q_sF 74 sF, aI Y q_lastOf 900 lastOf', aI Y q_row 200001 row', aI Y q_marks 6251 marks, aJ Y q_power 18 power', aJ Y q_table 216 table', aI Y q_sortOf 24 sortOf, aI Y q_first 24 first, aI Y q_second 24 second, aI Y q_signBy 24 signBy, aJ Y q_inBlock 900 inBlock', aJ Y q_atQuotient 900 atQuotient'] ∧ Q r thrown' rowOf' areSums' blocks' lastOf' row' power' table' inBlock' atQuotient') := by
  refine gM_of (own := RX11) (by decide +kernel) rfl (Nat.le_of_ble_eq_true rfl) rfl (fun E C hR => ?_)
  unfold wX11_common at h
  refine g_aload_n C dX11_common_0 0 rfl ?_
  refine g_iconst (v := 0) C dX11_common_1 rfl ?_
  refine g_put C inX11 tyX11 tyX11_ok nmX11 0 rfl rfl 0 (by decide) wF_X11_89 rfl rfl rfl (Nat.le_of_ble_eq_true rfl) (ws' := [oX11 h0 0 (v_tape) taped (.ref q_number) (v_isTold) (v_name) (.ref q_sortOf) (.ref q_first) (.ref q_second) (v_degree) (v_colours) (.ref q_signBy) (v_own) lines size atF place sort value fault faultPlace lastFault lastPlace (.ref q_sF) (v_kept) undoable hasImage (.ref q_power) (.ref q_table) (.ref q_marks) (.ref q_row) rowOf areSums isSieved (.ref q_lastOf) blocks (.ref q_inBlock) (.ref q_atQuotient) (v_small) drawn, aI Y q_number 8 number, aI Y q_sF 74 sF, aI Y q_lastOf 900 lastOf, aI Y q_row 200001 row, aI Y q_marks 6251 marks, aJ Y q_power 18 power, aJ Y q_table 216 table, aI Y q_sortOf 24 sortOf, aI Y q_first 24 first, aI Y q_second 24 second, aI Y q_signBy 24 signBy, aJ Y q_inBlock 900 inBlock, aJ Y q_atQuotient 900 atQuotient]) rfl dX11_common_2 ?_
  refine g_aload_n C dX11_common_5 0 rfl ?_
  refine g_iload_n C dX11_common_6 1 rfl ?_
  obtain ⟨P_1, hP, h⟩ := h
  refine g_callV (As := [.int a1]) (rest := []) C (mX11_isFunction l D Y h0 0 v_tape taped q_number v_isTold v_name (.ref q_sortOf) (.ref q_first) (.ref q_second) v_degree v_colours (.ref q_signBy) v_own lines size atF place sort value fault faultPlace lastFault lastPlace (.ref q_sF) v_kept undoable hasImage (.ref q_power) (.ref q_table) (.ref q_marks) (.ref q_row) rowOf areSums isSieved (.ref q_lastOf) blocks (.ref q_inBlock) (.ref q_atQuotient) v_small drawn number a1 P_1 hP) dX11_common_7 rfl wM_X11_241 wI_X11_isFunction wV_X11_isFunction wN_X11 wC_X11_isFunction (n := 1) (by decide +kernel) rfl (q0 := 0) rfl rfl ⟨Nat.le_of_ble_eq_true rfl, Nat.le_of_ble_eq_true rfl⟩ ⟨Nat.le_of_ble_eq_true rfl, Nat.le_of_ble_eq_true rfl⟩ (Nat.le_of_ble_eq_true rfl) [0, 1] [2, 3, 4, 5, 6, 7, 8, 9, 10, 11, 12, 13] rfl rfl rfl (fun v wc hv => ?_)
  obtain ⟨rF_1, rfl, rfl, hq⟩ := hv
  replace h := h rF_1 hq
  refine gG.perm (ws' := [oX11 h0 0 (v_tape) taped (.ref q_number) (v_isTold) (v_name) (.ref q_sortOf) (.ref q_first) (.ref q_second) (v_degree) (v_colours) (.ref q_signBy) (v_own) lines size atF place sort value fault faultPlace lastFault lastPlace (.ref q_sF) (v_kept) undoable hasImage (.ref q_power) (.ref q_table) (.ref q_marks) (.ref q_row) rowOf areSums isSieved (.ref q_lastOf) blocks (.ref q_inBlock) (.ref q_atQuotient) (v_small) drawn, aI Y q_number 8 number, aI Y q_sF 74 sF, aI Y q_lastOf 900 lastOf, aI Y q_row 200001 row, aI Y q_marks 6251 marks, aJ Y q_power 18 power, aJ Y q_table 216 table, aI Y q_sortOf 24 sortOf, aI Y q_first 24 first, aI Y q_second 24 second, aI Y q_signBy 24 signBy, aJ Y q_inBlock 900 inBlock, aJ Y q_atQuotient 900 atQuotient]) [12, 13, 0, 1, 2, 3, 4, 5, 6, 7, 8, 9, 10, 11] rfl rfl ?_
  refine g_if_eq (tgt := 22) C dX11_common_10 (by decide) (fun c_1 => ?_) (fun c_1 => ?_)
  · replace h := h.1 c_1
    refine g_iconst (v := (-1)) C dX11_common_22 rfl ?_
    exact g_iret C hR (Nat.le_of_ble_eq_true rfl) (Nat.le_of_ble_eq_true rfl) dX11_common_23 ⟨(-1), 0, rowOf, areSums, blocks, lastOf, row, power, table, inBlock, atQuotient, rfl, rfl, h⟩
  · replace h := h.2 c_1
    refine g_aload_n C dX11_common_13 0 rfl ?_
    refine g_iload_n C dX11_common_14 2 rfl ?_
    refine g_iconst (v := 0) C dX11_common_15 rfl ?_
    obtain ⟨P_2, hP, h⟩ := h
    refine g_callV (As := [.int a2, .int 0]) (rest := []) C (mX11_isIn l D Y h0 0 v_tape taped (.ref q_number) v_isTold v_name (.ref q_sortOf) (.ref q_first) (.ref q_second) v_degree v_colours (.ref q_signBy) v_own lines size atF place sort value fault faultPlace lastFault lastPlace q_sF v_kept undoable hasImage (.ref q_power) (.ref q_table) (.ref q_marks) (.ref q_row) rowOf areSums isSieved (.ref q_lastOf) blocks (.ref q_inBlock) (.ref q_atQuotient) v_small drawn sF a2 0 P_2 hP) dX11_common_16 rfl wM_X11_282 wI_X11_isIn wV_X11_isIn wN_X11 wC_X11_isIn (n := 2) (by decide +kernel) rfl (q0 := 0) rfl rfl ⟨Nat.le_of_ble_eq_true rfl, Nat.le_of_ble_eq_true rfl⟩ ⟨Nat.le_of_ble_eq_true rfl, Nat.le_of_ble_eq_true rfl⟩ (Nat.le_of_ble_eq_true rfl) [0, 2] [1, 3, 4, 5, 6, 7, 8, 9, 10, 11, 12, 13] rfl rfl rfl (fun v wc hv => ?_)
    obtain ⟨rF_2, rfl, rfl, hq⟩ := hv
    replace h := h rF_2 hq
    refine gG.perm (ws' := [oX11 h0 0 (v_tape) taped (.ref q_number) (v_isTold) (v_name) (.ref q_sortOf) (.ref q_first) (.ref q_second) (v_degree) (v_colours) (.ref q_signBy) (v_own) lines size atF place sort value fault faultPlace lastFault lastPlace (.ref q_sF) (v_kept) undoable hasImage (.ref q_power) (.ref q_table) (.ref q_marks) (.ref q_row) rowOf areSums isSieved (.ref q_lastOf) blocks (.ref q_inBlock) (.ref q_atQuotient) (v_small) drawn, aI Y q_number 8 number, aI Y q_sF 74 sF, aI Y q_lastOf 900 lastOf, aI Y q_row 200001 row, aI Y q_marks 6251 marks, aJ Y q_power 18 power, aJ Y q_table 216 table, aI Y q_sortOf 24 sortOf, aI Y q_first 24 first, aI Y q_second 24 second, aI Y q_signBy 24 signBy, aJ Y q_inBlock 900 inBlock, aJ Y q_atQuotient 900 atQuotient]) [12, 0, 13, 1, 2, 3, 4, 5, 6, 7, 8, 9, 10, 11] rfl rfl ?_
    refine g_if_ne (tgt := 24) C dX11_common_19 (by decide) (fun c_2 => ?_) (fun c_2 => ?_)
    · replace h := h.1 c_2
      refine g_aload_n C dX11_common_24 0 rfl ?_
      refine g_iload_n C dX11_common_25 2 rfl ?_
      obtain ⟨P_3, hP, h⟩ := h
      refine g_callV (As := [.int a2]) (rest := []) C (mX11_laysBlocks l D Y h0 0 v_tape taped (.ref q_number) v_isTold v_name (.ref q_sortOf) (.ref q_first) (.ref q_second) v_degree v_colours (.ref q_signBy) v_own lines size atF place sort value fault faultPlace lastFault lastPlace (.ref q_sF) v_kept undoable hasImage (.ref q_power) (.ref q_table) (.ref q_marks) (.ref q_row) rowOf areSums isSieved q_lastOf blocks (.ref q_inBlock) (.ref q_atQuotient) v_small drawn lastOf a2 P_3 hP) dX11_common_26 rfl wM_X11_317 wI_X11_laysBlocks wV_X11_laysBlocks wN_X11 wC_X11_laysBlocks (n := 1) (by decide +kernel) rfl (q0 := 0) rfl rfl ⟨Nat.le_of_ble_eq_true rfl, Nat.le_of_ble_eq_true rfl⟩ ⟨Nat.le_of_ble_eq_true rfl, Nat.le_of_ble_eq_true rfl⟩ (Nat.le_of_ble_eq_true rfl) [0, 3] [1, 2, 4, 5, 6, 7, 8, 9, 10, 11, 12, 13] rfl rfl rfl (fun v wc hv => ?_)
      obtain ⟨blocks_1, lastOf_1, rfl, rfl, hq⟩ := hv
      replace h := h blocks_1 lastOf_1 hq
      refine gG.perm (ws' := [oX11 h0 0 (v_tape) taped (.ref q_number) (v_isTold) (v_name) (.ref q_sortOf) (.ref q_first) (.ref q_second) (v_degree) (v_colours) (.ref q_signBy) (v_own) lines size atF place sort value fault faultPlace lastFault lastPlace (.ref q_sF) (v_kept) undoable hasImage (.ref q_power) (.ref q_table) (.ref q_marks) (.ref q_row) rowOf areSums isSieved (.ref q_lastOf) blocks_1 (.ref q_inBlock) (.ref q_atQuotient) (v_small) drawn, aI Y q_number 8 number, aI Y q_sF 74 sF, aI Y q_lastOf 900 lastOf_1, aI Y q_row 200001 row, aI Y q_marks 6251 marks, aJ Y q_power 18 power, aJ Y q_table 216 table, aI Y q_sortOf 24 sortOf, aI Y q_first 24 first, aI Y q_second 24 second, aI Y q_signBy 24 signBy, aJ Y q_inBlock 900 inBlock, aJ Y q_atQuotient 900 atQuotient]) [12, 0, 1, 13, 2, 3, 4, 5, 6, 7, 8, 9, 10, 11] rfl rfl ?_
      refine g_aload_n C dX11_common_29 0 rfl ?_
      refine g_iload_n C dX11_common_30 1 rfl ?_
      obtain ⟨P_4, hP, h⟩ := h
      refine g_callV (As := [.int a1]) (rest := []) C (mX11_laysInBlocks l D Y h0 0 v_tape taped (.ref q_number) v_isTold v_name q_sortOf q_first q_second v_degree v_colours q_signBy v_own lines size atF place sort value fault faultPlace lastFault lastPlace q_sF v_kept undoable hasImage q_power q_table q_marks q_row rowOf areSums isSieved q_lastOf blocks_1 q_inBlock (.ref q_atQuotient) v_small drawn sF row marks power table sortOf first second signBy lastOf_1 inBlock a1 P_4 hP) dX11_common_31 rfl wM_X11_323 wI_X11_laysInBlocks wV_X11_laysInBlocks wN_X11 wC_X11_laysInBlocks (n := 1) (by decide +kernel) rfl (q0 := 0) rfl rfl ⟨Nat.le_of_ble_eq_true rfl, Nat.le_of_ble_eq_true rfl⟩ ⟨Nat.le_of_ble_eq_true rfl, Nat.le_of_ble_eq_true rfl⟩ (Nat.le_of_ble_eq_true rfl) [0, 2, 4, 5, 6, 7, 8, 9, 10, 11, 3, 12] [1, 13] rfl rfl rfl (fun v wc hv => ?_)
      obtain ⟨rowOf_1, areSums_1, row_1, power_1, table_1, inBlock_1, rfl, rfl, hq⟩ := hv
      replace h := h rowOf_1 areSums_1 row_1 power_1 table_1 inBlock_1 hq
      refine gG.perm (ws' := [oX11 h0 0 (v_tape) taped (.ref q_number) (v_isTold) (v_name) (.ref q_sortOf) (.ref q_first) (.ref q_second) (v_degree) (v_colours) (.ref q_signBy) (v_own) lines size atF place sort value fault faultPlace lastFault lastPlace (.ref q_sF) (v_kept) undoable hasImage (.ref q_power) (.ref q_table) (.ref q_marks) (.ref q_row) rowOf_1 areSums_1 isSieved (.ref q_lastOf) blocks_1 (.ref q_inBlock) (.ref q_atQuotient) (v_small) drawn, aI Y q_number 8 number, aI Y q_sF 74 sF, aI Y q_lastOf 900 lastOf_1, aI Y q_row 200001 row_1, aI Y q_marks 6251 marks, aJ Y q_power 18 power_1, aJ Y q_table 216 table_1, aI Y q_sortOf 24 sortOf, aI Y q_first 24 first, aI Y q_second 24 second, aI Y q_signBy 24 signBy, aJ Y q_inBlock 900 inBlock_1, aJ Y q_atQuotient 900 atQuotient]) [2, 0, 3, 12, 4, 5, 6, 7, 8, 9, 10, 11, 13, 1] rfl rfl ?_
      refine g_aload_n C dX11_common_34 0 rfl ?_
      refine g_iload_n C dX11_common_35 2 rfl ?_
      obtain ⟨P_5, hP, h⟩ := h
      refine g_callV (As := [.int a2]) (rest := []) C (mX11_laysCoprime l D Y h0 0 v_tape taped (.ref q_number) v_isTold v_name (.ref q_sortOf) (.ref q_first) (.ref q_second) v_degree v_colours (.ref q_signBy) v_own lines size atF place sort value fault faultPlace lastFault lastPlace q_sF v_kept undoable hasImage (.ref q_power) (.ref q_table) q_marks q_row rowOf_1 areSums_1 isSieved q_lastOf blocks_1 (.ref q_inBlock) q_atQuotient v_small drawn marks row_1 lastOf_1 sF atQuotient a2 P_5 hP) dX11_common_36 rfl wM_X11_337 wI_X11_laysCoprime wV_X11_laysCoprime wN_X11 wC_X11_laysCoprime (n := 1) (by decide +kernel) rfl (q0 := 0) rfl rfl ⟨Nat.le_of_ble_eq_true rfl, Nat.le_of_ble_eq_true rfl⟩ ⟨Nat.le_of_ble_eq_true rfl, Nat.le_of_ble_eq_true rfl⟩ (Nat.le_of_ble_eq_true rfl) [0, 5, 4, 3, 2, 13] [1, 6, 7, 8, 9, 10, 11, 12] rfl rfl rfl (fun v wc hv => ?_)
      obtain ⟨rowOf_2, row_2, atQuotient_1, rfl, rfl, hq⟩ := hv
      replace h := h rowOf_2 row_2 atQuotient_1 hq
      refine gG.perm (ws' := [oX11 h0 0 (v_tape) taped (.ref q_number) (v_isTold) (v_name) (.ref q_sortOf) (.ref q_first) (.ref q_second) (v_degree) (v_colours) (.ref q_signBy) (v_own) lines size atF place sort value fault faultPlace lastFault lastPlace (.ref q_sF) (v_kept) undoable hasImage (.ref q_power) (.ref q_table) (.ref q_marks) (.ref q_row) rowOf_2 areSums_1 isSieved (.ref q_lastOf) blocks_1 (.ref q_inBlock) (.ref q_atQuotient) (v_small) drawn, aI Y q_number 8 number, aI Y q_sF 74 sF, aI Y q_lastOf 900 lastOf_1, aI Y q_row 200001 row_2, aI Y q_marks 6251 marks, aJ Y q_power 18 power_1, aJ Y q_table 216 table_1, aI Y q_sortOf 24 sortOf, aI Y q_first 24 first, aI Y q_second 24 second, aI Y q_signBy 24 signBy, aJ Y q_inBlock 900 inBlock_1, aJ Y q_atQuotient 900 atQuotient_1]) [8, 0, 12, 11, 10, 9, 1, 2, 3, 4, 5, 6, 7, 13] rfl rfl ?_
      refine g_aload_n C dX11_common_39 0 rfl ?_
      obtain ⟨P_6, hP, h⟩ := h
      refine g_callV (As := []) (rest := []) C (mX11_acrossBlocks l D Y h0 0 v_tape taped (.ref q_number) v_isTold v_name (.ref q_sortOf) (.ref q_first) (.ref q_second) v_degree v_colours (.ref q_signBy) v_own lines size atF place sort value fault faultPlace lastFault lastPlace q_sF v_kept undoable hasImage (.ref q_power) (.ref q_table) (.ref q_marks) (.ref q_row) rowOf_2 areSums_1 isSieved (.ref q_lastOf) blocks_1 q_inBlock q_atQuotient v_small drawn inBlock_1 atQuotient_1 sF P_6 hP) dX11_common_40 rfl wM_X11_329 wI_X11_acrossBlocks wV_X11_acrossBlocks wN_X11 wC_X11_acrossBlocks (n := 0) (by decide +kernel) rfl (q0 := 0) rfl rfl ⟨Nat.le_of_ble_eq_true rfl, Nat.le_of_ble_eq_true rfl⟩ ⟨Nat.le_of_ble_eq_true rfl, Nat.le_of_ble_eq_true rfl⟩ (Nat.le_of_ble_eq_true rfl) [0, 12, 13, 2] [1, 3, 4, 5, 6, 7, 8, 9, 10, 11] rfl rfl rfl (fun v wc hv => ?_)
      obtain ⟨rF_3, rfl, rfl, hq⟩ := hv
      replace h := h rF_3 hq
      refine gG.perm (ws' := [oX11 h0 0 (v_tape) taped (.ref q_number) (v_isTold) (v_name) (.ref q_sortOf) (.ref q_first) (.ref q_second) (v_degree) (v_colours) (.ref q_signBy) (v_own) lines size atF place sort value fault faultPlace lastFault lastPlace (.ref q_sF) (v_kept) undoable hasImage (.ref q_power) (.ref q_table) (.ref q_marks) (.ref q_row) rowOf_2 areSums_1 isSieved (.ref q_lastOf) blocks_1 (.ref q_inBlock) (.ref q_atQuotient) (v_small) drawn, aI Y q_number 8 number, aI Y q_sF 74 sF, aI Y q_lastOf 900 lastOf_1, aI Y q_row 200001 row_2, aI Y q_marks 6251 marks, aJ Y q_power 18 power_1, aJ Y q_table 216 table_1, aI Y q_sortOf 24 sortOf, aI Y q_first 24 first, aI Y q_second 24 second, aI Y q_signBy 24 signBy, aJ Y q_inBlock 900 inBlock_1, aJ Y q_atQuotient 900 atQuotient_1]) [10, 0, 13, 1, 2, 3, 4, 5, 6, 7, 8, 9, 11, 12] rfl rfl ?_
      exact g_iret C hR (Nat.le_of_ble_eq_true rfl) (Nat.le_of_ble_eq_true rfl) dX11_common_43 ⟨rF_3, 0, rowOf_2, areSums_1, blocks_1, lastOf_1, row_2, power_1, table_1, inBlock_1, atQuotient_1, rfl, rfl, h⟩
    · replace h := h.2 c_2
      refine g_iconst (v := (-1)) C dX11_common_22 rfl ?_
      exact g_iret C hR (Nat.le_of_ble_eq_true rfl) (Nat.le_of_ble_eq_true rfl) dX11_common_23 ⟨(-1), 0, rowOf, areSums, blocks, lastOf, row, power, table, inBlock, atQuotient, rfl, rfl, h⟩
theorem dX11_coprime_0 : decode cX11_coprime 0 = .ok (.aload_n 0, 1) := by decide +kernel
theorem dX11_coprime_1 : decode cX11_coprime 1 = .ok (.iconst 0, 1) := by decide +kernel
theorem dX11_coprime_2 : decode cX11_coprime 2 = .ok (.putfield 89, 3) := by decide +kernel
theorem dX11_coprime_5 : decode cX11_coprime 5 = .ok (.aload_n 0, 1) := by decide +kernel
theorem dX11_coprime_6 : decode cX11_coprime 6 = .ok (.iload_n 1, 1) := by decide +kernel
theorem dX11_coprime_7 : decode cX11_coprime 7 = .ok (.iconst 0, 1) := by decide +kernel
theorem dX11_coprime_8 : decode cX11_coprime 8 = .ok (.invokevirtual 282, 3) := by decide +kernel
theorem dX11_coprime_11 : decode cX11_coprime 11 = .ok (.ifCond .ne 7, 3) := by decide +kernel
theorem dX11_coprime_14 : decode cX11_coprime 14 = .ok (.ldc2_w 254, 3) := by decide +kernel
theorem dX11_coprime_17 : decode cX11_coprime 17 = .ok (.lreturn, 1) := by decide +kernel
theorem dX11_coprime_18 : decode cX11_coprime 18 = .ok (.aload_n 0, 1) := by decide +kernel
theorem dX11_coprime_19 : decode cX11_coprime 19 = .ok (.iload_n 1, 1) := by decide +kernel
theorem dX11_coprime_20 : decode cX11_coprime 20 = .ok (.invokevirtual 332, 3) := by decide +kernel
theorem dX11_coprime_23 : decode cX11_coprime 23 = .ok (.lconst 0, 1) := by decide +kernel
theorem dX11_coprime_24 : decode cX11_coprime 24 = .ok (.lstore_n 2, 1) := by decide +kernel
theorem dX11_coprime_25 : decode cX11_coprime 25 = .ok (.iconst 1, 1) := by decide +kernel
theorem dX11_coprime_26 : decode cX11_coprime 26 = .ok (.istore 4, 2) := by decide +kernel
theorem dX11_coprime_28 : decode cX11_coprime 28 = .ok (.iload 4, 2) := by decide +kernel
theorem dX11_coprime_30 : decode cX11_coprime 30 = .ok (.iload_n 1, 1) := by decide +kernel
theorem dX11_coprime_31 : decode cX11_coprime 31 = .ok (.if_icmp .gt 20, 3) := by decide +kernel
theorem dX11_coprime_34 : decode cX11_coprime 34 = .ok (.lload_n 2, 1) := by decide +kernel
theorem dX11_coprime_35 : decode cX11_coprime 35 = .ok (.aload_n 0, 1) := by decide +kernel
theorem dX11_coprime_36 : decode cX11_coprime 36 = .ok (.getfield 65, 3) := by decide +kernel
theorem dX11_coprime_39 : decode cX11_coprime 39 = .ok (.iload 4, 2) := by decide +kernel
theorem dX11_coprime_41 : decode cX11_coprime 41 = .ok (.iaload, 1) := by decide +kernel
theorem dX11_coprime_42 : decode cX11_coprime 42 = .ok (.i2l, 1) := by decide +kernel
theorem dX11_coprime_43 : decode cX11_coprime 43 = .ok (.ladd, 1) := by decide +kernel
theorem dX11_coprime_44 : decode cX11_coprime 44 = .ok (.lstore_n 2, 1) := by decide +kernel
theorem dX11_coprime_45 : decode cX11_coprime 45 = .ok (.iinc 4 1, 3) := by decide +kernel
theorem dX11_coprime_48 : decode cX11_coprime 48 = .ok (.goto (-20), 3) := by decide +kernel
theorem dX11_coprime_51 : decode cX11_coprime 51 = .ok (.iload_n 1, 1) := by decide +kernel
theorem dX11_coprime_52 : decode cX11_coprime 52 = .ok (.ifCond .ne 7, 3) := by decide +kernel
theorem dX11_coprime_55 : decode cX11_coprime 55 = .ok (.lconst 0, 1) := by decide +kernel
theorem dX11_coprime_56 : decode cX11_coprime 56 = .ok (.goto 10, 3) := by decide +kernel
theorem dX11_coprime_59 : decode cX11_coprime 59 = .ok (.ldc2_w 335, 3) := by decide +kernel
theorem dX11_coprime_62 : decode cX11_coprime 62 = .ok (.lload_n 2, 1) := by decide +kernel
theorem dX11_coprime_63 : decode cX11_coprime 63 = .ok (.lmul, 1) := by decide +kernel
theorem dX11_coprime_64 : decode cX11_coprime 64 = .ok (.lconst 1, 1) := by decide +kernel
theorem dX11_coprime_65 : decode cX11_coprime 65 = .ok (.lsub, 1) := by decide +kernel
theorem dX11_coprime_66 : decode cX11_coprime 66 = .ok (.lreturn, 1) := by decide +kernel
/-- QuotientSumsModel.coprime(I)J -/
def wX11_coprime (thrown : Int32) (taped : Int32) (lines : Int32) (size : Int32) (atF : Int32) (place : Int32) (sort : Int32) (value : Int32) (fault : Int32) (faultPlace : Int32) (lastFault : Int32) (lastPlace : Int32) (undoable : Int32) (hasImage : Int32) (rowOf : Int32) (areSums : Int32) (isSieved : Int32) (blocks : Int32) (drawn : Int32) (sF : Nat → Int32) (marks : Nat → Int32) (row : Nat → Int32) (a1 : Int32) (Q : (Int64) → (Int32) → (Int32) → (Nat → Int32) → Prop) : Prop :=
  (∃ (P_1 : (Int32) → Prop), wX11_isIn 0 taped lines size atF place sort value fault faultPlace lastFault lastPlace undoable hasImage rowOf areSums isSieved blocks drawn sF a1 0 P_1 ∧ ∀ (rF_1 : Int32), P_1 rF_1 → ((¬ rF_1 = 0 → (∃ (P_2 : (Int32) → (Nat → Int32) → Prop), wX11_laysPhi 0 taped lines size atF place sort value fault faultPlace lastFault lastPlace undoable hasImage rowOf areSums isSieved blocks drawn marks row a1 P_2 ∧ ∀ (rowOf_1 : Int32) (row_1 : Nat → Int32), P_2 rowOf_1 row_1 → (∃ (Inv_1 : (Int64) → (Int32) → Prop) (Mea_1 : (Int64) → (Int32) → Nat), Inv_1 0 1 ∧ ∀ (x2_1 : Int64) (x4_1 : Int32), Inv_1 x2_1 x4_1 → ((a1 < x4_1 → ((¬ a1 = 0 → (Q ((2 * x2_1) - 1) 0 rowOf_1 row_1)) ∧ (a1 = 0 → (Q 0 0 rowOf_1 row_1)))) ∧ (¬ a1 < x4_1 → (vp_in x4_1 200001 ∧ ∀ x2_2 : Int64, x2_2 = x2_1 + ((row_1 x4_1.toNatClampNeg).toInt64) → (Inv_1 x2_2 (x4_1 + 1) ∧ Mea_1 x2_2 (x4_1 + 1) < Mea_1 x2_1 x4_1))))))) ∧ (rF_1 = 0 → (Q (-1) 0 rowOf row))))
set_option maxHeartbeats 4000000 in
set_option maxRecDepth 100000 in
theorem mX11_coprime (l : Launch) (D : va_G) (Y : Nat → ClassId) (h0 : Nat) (thrown : Int32) (v_tape : Value) (taped : Int32) (v_number : Value) (v_isTold : Value) (v_name : Value) (v_sortOf : Value) (v_first : Value) (v_second : Value) (v_degree : Value) (v_colours : Value) (v_signBy : Value) (v_own : Value) (lines : Int32) (size : Int32) (atF : Int32) (place : Int32) (sort : Int32) (value : Int32) (fault : Int32) (faultPlace : Int32) (lastFault : Int32) (lastPlace : Int32) (q_sF : Nat) (v_kept : Value) (undoable : Int32) (hasImage : Int32) (v_power : Value) (v_table : Value) (q_marks : Nat) (q_row : Nat) (rowOf : Int32) (areSums : Int32) (isSieved : Int32) (v_lastOf : Value) (blocks : Int32) (v_inBlock : Value) (v_atQuotient : Value) (v_small : Value) (drawn : Int32) (sF : Nat → Int32) (marks : Nat → Int32) (row : Nat → Int32) (a1 : Int32) (Q : (Int64) → (Int32) → (Int32) → (Nat → Int32) → Prop) (h : wX11_coprime thrown taped lines size atF place sort value fault faultPlace lastFault lastPlace undoable hasImage rowOf areSums isSieved blocks drawn sF marks row a1 Q) : gM l D Y yX11_coprime cX11_coprime 5 (some .long) 2 44 0 0 [.ref h0, .int a1] [oX11 h0 thrown (v_tape) taped (v_number) (v_isTold) (v_name) (v_sortOf) (v_first) (v_second) (v_degree) (v_colours) (v_signBy) (v_own) lines size atF place sort value fault faultPlace lastFault lastPlace (.ref q_sF) (v_kept) undoable hasImage (v_power) (v_table) (.ref q_marks) (.ref q_row) rowOf areSums isSieved (v_lastOf) blocks (v_inBlock) (v_atQuotient) (v_small) drawn, aI Y q_sF 74 sF, aI Y q_marks 6251 marks, aI Y q_row 200001 row] (fun v w => ∃ r : Int64, ∃ thrown' : Int32, ∃ rowOf' : Int32, ∃ row' : Nat → Int32, v = some (.long r) ∧ w = [oX11 h0 thrown' (v_tape) taped (v_number) (v_isTold) (v_name) (v_sortOf) (v_first) (v_second) (v_degree) (v_colours) (v_signBy) (v_own) lines size atF place sort value fault faultPlace lastFault lastPlace (.ref q_sF) (v_kept) undoable hasImage (v_power) (v_table) (.ref q_marks) (.ref q_row) rowOf' areSums isSieved (v_lastOf) blocks (v_inBlock) (v_atQuotient) (v_small) drawn, aI Y q_sF 74 sF, aI Y q_marks 6251 marks, aI Y q_row 200001 row'] ∧ Q r thrown' rowOf' row') := by
  refine gM_of (own := RX11) (by decide +kernel) rfl (Nat.le_of_ble_eq_true rfl) rfl (fun E C hR => ?_)
  unfold wX11_coprime at h
  refine g_aload_n C dX11_coprime_0 0 rfl ?_
  refine g_iconst (v := 0) C dX11_coprime_1 rfl ?_
  refine g_put C inX11 tyX11 tyX11_ok nmX11 0 rfl rfl 0 (by decide) wF_X11_89 rfl rfl rfl (Nat.le_of_ble_eq_true rfl) (ws' := [oX11 h0 0 (v_tape) taped (v_number) (v_isTold) (v_name) (v_sortOf) (v_first) (v_second) (v_degree) (v_colours) (v_signBy) (v_own) lines size atF place sort value fault faultPlace lastFault lastPlace (.ref q_sF) (v_kept) undoable hasImage (v_power) (v_table) (.ref q_marks) (.ref q_row) rowOf areSums isSieved (v_lastOf) blocks (v_inBlock) (v_atQuotient) (v_small) drawn, aI Y q_sF 74 sF, aI Y q_marks 6251 marks, aI Y q_row 200001 row]) rfl dX11_coprime_2 ?_
  refine g_aload_n C dX11_coprime_5 0 rfl ?_
  refine g_iload_n C dX11_coprime_6 1 rfl ?_
  refine g_iconst (v := 0) C dX11_coprime_7 rfl ?_
  obtain ⟨P_1, hP, h⟩ := h
  refine g_callV (As := [.int a1, .int 0]) (rest := []) C (mX11_isIn l D Y h0 0 v_tape taped v_number v_isTold v_name v_sortOf v_first v_second v_degree v_colours v_signBy v_own lines size atF place sort value fault faultPlace lastFault lastPlace q_sF v_kept undoable hasImage v_power v_table (.ref q_marks) (.ref q_row) rowOf areSums isSieved v_lastOf blocks v_inBlock v_atQuotient v_small drawn sF a1 0 P_1 hP) dX11_coprime_8 rfl wM_X11_282 wI_X11_isIn wV_X11_isIn wN_X11 wC_X11_isIn (n := 2) (by decide +kernel) rfl (q0 := 0) rfl rfl ⟨Nat.le_of_ble_eq_true rfl, Nat.le_of_ble_eq_true rfl⟩ ⟨Nat.le_of_ble_eq_true rfl, Nat.le_of_ble_eq_true rfl⟩ (Nat.le_of_ble_eq_true rfl) [0, 1] [2, 3] rfl rfl rfl (fun v wc hv => ?_)
  obtain ⟨rF_1, rfl, rfl, hq⟩ := hv
  replace h := h rF_1 hq
  refine gG.perm (ws' := [oX11 h0 0 (v_tape) taped (v_number) (v_isTold) (v_name) (v_sortOf) (v_first) (v_second) (v_degree) (v_colours) (v_signBy) (v_own) lines size atF place sort value fault faultPlace lastFault lastPlace (.ref q_sF) (v_kept) undoable hasImage (v_power) (v_table) (.ref q_marks) (.ref q_row) rowOf areSums isSieved (v_lastOf) blocks (v_inBlock) (v_atQuotient) (v_small) drawn, aI Y q_sF 74 sF, aI Y q_marks 6251 marks, aI Y q_row 200001 row]) [2, 3, 0, 1] rfl rfl ?_
  refine g_if_ne (tgt := 18) C dX11_coprime_11 (by decide) (fun c_1 => ?_) (fun c_1 => ?_)
  · replace h := h.1 c_1
    refine g_aload_n C dX11_coprime_18 0 rfl ?_
    refine g_iload_n C dX11_coprime_19 1 rfl ?_
    obtain ⟨P_2, hP, h⟩ := h
    refine g_callV (As := [.int a1]) (rest := []) C (mX11_laysPhi l D Y h0 0 v_tape taped v_number v_isTold v_name v_sortOf v_first v_second v_degree v_colours v_signBy v_own lines size atF place sort value fault faultPlace lastFault lastPlace (.ref q_sF) v_kept undoable hasImage v_power v_table q_marks q_row rowOf areSums isSieved v_lastOf blocks v_inBlock v_atQuotient v_small drawn marks row a1 P_2 hP) dX11_coprime_20 rfl wM_X11_332 wI_X11_laysPhi wV_X11_laysPhi wN_X11 wC_X11_laysPhi (n := 1) (by decide +kernel) rfl (q0 := 0) rfl rfl ⟨Nat.le_of_ble_eq_true rfl, Nat.le_of_ble_eq_true rfl⟩ ⟨Nat.le_of_ble_eq_true rfl, Nat.le_of_ble_eq_true rfl⟩ (Nat.le_of_ble_eq_true rfl) [0, 2, 3] [1] rfl rfl rfl (fun v wc hv => ?_)
    obtain ⟨rowOf_1, row_1, rfl, rfl, hq⟩ := hv
    replace h := h rowOf_1 row_1 hq
    refine gG.perm (ws' := [oX11 h0 0 (v_tape) taped (v_number) (v_isTold) (v_name) (v_sortOf) (v_first) (v_second) (v_degree) (v_colours) (v_signBy) (v_own) lines size atF place sort value fault faultPlace lastFault lastPlace (.ref q_sF) (v_kept) undoable hasImage (v_power) (v_table) (.ref q_marks) (.ref q_row) rowOf_1 areSums isSieved (v_lastOf) blocks (v_inBlock) (v_atQuotient) (v_small) drawn, aI Y q_sF 74 sF, aI Y q_marks 6251 marks, aI Y q_row 200001 row_1]) [1, 0, 2, 3] rfl rfl ?_
    refine g_lconst (v := 0) C dX11_coprime_23 rfl ?_
    refine g_lstore_n (lv' := [(2, .long 0), (0, .ref h0), (1, .int a1)]) C dX11_coprime_24 (by decide) rfl ?_
    refine g_iconst (v := 1) C dX11_coprime_25 rfl ?_
    refine g_istore (lv' := [(4, .int 1), (2, .long 0), (0, .ref h0), (1, .int a1)]) C dX11_coprime_26 (by decide) rfl ?_
    obtain ⟨Inv_1, Mea_1, hI1, hB1⟩ := h
    have key_1 : ∀ (n : Nat) (x2_1 : Int64) (x4_1 : Int32) , Mea_1 x2_1 x4_1 < n → Inv_1 x2_1 x4_1 → gG E 0 0 [oX11 h0 0 (v_tape) taped (v_number) (v_isTold) (v_name) (v_sortOf) (v_first) (v_second) (v_degree) (v_colours) (v_signBy) (v_own) lines size atF place sort value fault faultPlace lastFault lastPlace (.ref q_sF) (v_kept) undoable hasImage (v_power) (v_table) (.ref q_marks) (.ref q_row) rowOf_1 areSums isSieved (v_lastOf) blocks (v_inBlock) (v_atQuotient) (v_small) drawn, aI Y q_sF 74 sF, aI Y q_marks 6251 marks, aI Y q_row 200001 row_1] [(0, .ref h0), (1, .int a1), (2, .long x2_1), (4, .int x4_1)] [] 28 := by
      intro n
      induction n with
      | zero => exact fun _ _ hm => absurd hm (Nat.not_lt_zero _)
      | succ n ih1 =>
        intro x2_1 x4_1  hm1 hI
        have h := hB1 x2_1 x4_1 hI
        refine g_iload C dX11_coprime_28 3 rfl ?_
        refine g_iload_n C dX11_coprime_30 1 rfl ?_
        refine g_icmp_gt (tgt := 51) C dX11_coprime_31 (by decide) (fun c_2 => ?_) (fun c_2 => ?_)
        · replace h := h.1 c_2
          refine g_iload_n C dX11_coprime_51 1 rfl ?_
          refine g_if_ne (tgt := 59) C dX11_coprime_52 (by decide) (fun c_3 => ?_) (fun c_3 => ?_)
          · replace h := h.1 c_3
            refine g_ldc2 C dX11_coprime_59 wQ_X11_335 ?_
            refine g_lload_n C dX11_coprime_62 2 rfl ?_
            refine g_lmul C dX11_coprime_63 ?_
            refine g_lconst (v := 1) C dX11_coprime_64 rfl ?_
            refine g_lsub C dX11_coprime_65 ?_
            exact g_lret C hR (Nat.le_of_ble_eq_true rfl) (Nat.le_of_ble_eq_true rfl) dX11_coprime_66 ⟨(2 * x2_1) - 1, 0, rowOf_1, row_1, rfl, rfl, h⟩
          · replace h := h.2 c_3
            refine g_lconst (v := 0) C dX11_coprime_55 rfl ?_
            refine g_goto (tgt := 66) C dX11_coprime_56 (by decide) ?_
            exact g_lret C hR (Nat.le_of_ble_eq_true rfl) (Nat.le_of_ble_eq_true rfl) dX11_coprime_66 ⟨0, 0, rowOf_1, row_1, rfl, rfl, h⟩
        · replace h := h.2 c_2
          refine g_lload_n C dX11_coprime_34 2 rfl ?_
          refine g_aload_n C dX11_coprime_35 0 rfl ?_
          refine g_get C inX11 0 rfl rfl 30 (by decide) wF_X11_65 rfl dX11_coprime_36 ?_
          refine g_iload C dX11_coprime_39 3 rfl ?_
          obtain ⟨hc_1, h⟩ := h
          refine g_iald C 3 rfl hc_1 dX11_coprime_41 ?_
          refine g_i2l C dX11_coprime_42 ?_
          refine g_ladd C dX11_coprime_43 ?_
          refine g_topl (fun x2_2 ex2_2 => ?_)
          replace h := h x2_2 ex2_2
          refine g_lstore_n (lv' := [(2, .long x2_2), (0, .ref h0), (1, .int a1), (4, .int x4_1)]) C dX11_coprime_44 (by decide) rfl ?_
          refine g_iinc (v := x4_1 + 1) (lv' := [(4, .int (x4_1 + 1)), (2, .long x2_2), (0, .ref h0), (1, .int a1)]) C dX11_coprime_45 3 rfl rfl (by decide) rfl ?_
          refine g_goto (tgt := 28) C dX11_coprime_48 (by decide) ?_
          refine gG.locals (lv' := [(0, .ref h0), (1, .int a1), (2, .long x2_2), (4, .int (x4_1 + 1))]) [2, 3, 1, 0] rfl ?_
          exact ih1 x2_2 (x4_1 + 1) (Nat.lt_of_lt_of_le h.2 (Nat.le_of_lt_succ hm1)) h.1
    refine gG.locals (lv' := [(0, .ref h0), (1, .int a1), (2, .long 0), (4, .int 1)]) [2, 3, 1, 0] rfl ?_
    exact key_1 (Mea_1 0 1 + 1) 0 1 (Nat.lt_succ_self _) hI1
  · replace h := h.2 c_1
    refine g_ldc2 C dX11_coprime_14 wQ_X11_254 ?_
    exact g_lret C hR (Nat.le_of_ble_eq_true rfl) (Nat.le_of_ble_eq_true rfl) dX11_coprime_17 ⟨(-1), 0, rowOf, row, rfl, rfl, h⟩
theorem dX11_laysKinds_0 : decode cX11_laysKinds 0 = .ok (.aload_n 0, 1) := by decide +kernel
theorem dX11_laysKinds_1 : decode cX11_laysKinds 1 = .ok (.invokevirtual 232, 3) := by decide +kernel
theorem dX11_laysKinds_4 : decode cX11_laysKinds 4 = .ok (.iconst 0, 1) := by decide +kernel
theorem dX11_laysKinds_5 : decode cX11_laysKinds 5 = .ok (.istore_n 3, 1) := by decide +kernel
theorem dX11_laysKinds_6 : decode cX11_laysKinds 6 = .ok (.iload_n 3, 1) := by decide +kernel
theorem dX11_laysKinds_7 : decode cX11_laysKinds 7 = .ok (.iload_n 2, 1) := by decide +kernel
theorem dX11_laysKinds_8 : decode cX11_laysKinds 8 = .ok (.if_icmp .gt 24, 3) := by decide +kernel
theorem dX11_laysKinds_11 : decode cX11_laysKinds 11 = .ok (.aload_n 0, 1) := by decide +kernel
theorem dX11_laysKinds_12 : decode cX11_laysKinds 12 = .ok (.getfield 65, 3) := by decide +kernel
theorem dX11_laysKinds_15 : decode cX11_laysKinds 15 = .ok (.iload_n 3, 1) := by decide +kernel
theorem dX11_laysKinds_16 : decode cX11_laysKinds 16 = .ok (.iload_n 3, 1) := by decide +kernel
theorem dX11_laysKinds_17 : decode cX11_laysKinds 17 = .ok (.ifCond .ne 7, 3) := by decide +kernel
theorem dX11_laysKinds_20 : decode cX11_laysKinds 20 = .ok (.iconst 0, 1) := by decide +kernel
theorem dX11_laysKinds_21 : decode cX11_laysKinds 21 = .ok (.goto 4, 3) := by decide +kernel
theorem dX11_laysKinds_24 : decode cX11_laysKinds 24 = .ok (.iconst 1, 1) := by decide +kernel
theorem dX11_laysKinds_25 : decode cX11_laysKinds 25 = .ok (.iastore, 1) := by decide +kernel
theorem dX11_laysKinds_26 : decode cX11_laysKinds 26 = .ok (.iinc 3 1, 3) := by decide +kernel
theorem dX11_laysKinds_29 : decode cX11_laysKinds 29 = .ok (.goto (-23), 3) := by decide +kernel
theorem dX11_laysKinds_32 : decode cX11_laysKinds 32 = .ok (.iconst 2, 1) := by decide +kernel
theorem dX11_laysKinds_33 : decode cX11_laysKinds 33 = .ok (.istore_n 3, 1) := by decide +kernel
theorem dX11_laysKinds_34 : decode cX11_laysKinds 34 = .ok (.iload_n 3, 1) := by decide +kernel
theorem dX11_laysKinds_35 : decode cX11_laysKinds 35 = .ok (.iload_n 2, 1) := by decide +kernel
theorem dX11_laysKinds_36 : decode cX11_laysKinds 36 = .ok (.if_icmp .gt 87, 3) := by decide +kernel
theorem dX11_laysKinds_39 : decode cX11_laysKinds 39 = .ok (.aload_n 0, 1) := by decide +kernel
theorem dX11_laysKinds_40 : decode cX11_laysKinds 40 = .ok (.iload_n 3, 1) := by decide +kernel
theorem dX11_laysKinds_41 : decode cX11_laysKinds 41 = .ok (.invokevirtual 292, 3) := by decide +kernel
theorem dX11_laysKinds_44 : decode cX11_laysKinds 44 = .ok (.ifCond .eq 73, 3) := by decide +kernel
theorem dX11_laysKinds_47 : decode cX11_laysKinds 47 = .ok (.iload_n 1, 1) := by decide +kernel
theorem dX11_laysKinds_48 : decode cX11_laysKinds 48 = .ok (.ifCond .ne 13, 3) := by decide +kernel
theorem dX11_laysKinds_51 : decode cX11_laysKinds 51 = .ok (.iload_n 3, 1) := by decide +kernel
theorem dX11_laysKinds_52 : decode cX11_laysKinds 52 = .ok (.iload_n 2, 1) := by decide +kernel
theorem dX11_laysKinds_53 : decode cX11_laysKinds 53 = .ok (.iload_n 3, 1) := by decide +kernel
theorem dX11_laysKinds_54 : decode cX11_laysKinds 54 = .ok (.idiv, 1) := by decide +kernel
theorem dX11_laysKinds_55 : decode cX11_laysKinds 55 = .ok (.if_icmp .le 6, 3) := by decide +kernel
theorem dX11_laysKinds_58 : decode cX11_laysKinds 58 = .ok (.goto 59, 3) := by decide +kernel
theorem dX11_laysKinds_61 : decode cX11_laysKinds 61 = .ok (.iload_n 3, 1) := by decide +kernel
theorem dX11_laysKinds_62 : decode cX11_laysKinds 62 = .ok (.istore 4, 2) := by decide +kernel
theorem dX11_laysKinds_64 : decode cX11_laysKinds 64 = .ok (.iload 4, 2) := by decide +kernel
theorem dX11_laysKinds_66 : decode cX11_laysKinds 66 = .ok (.iload_n 2, 1) := by decide +kernel
theorem dX11_laysKinds_67 : decode cX11_laysKinds 67 = .ok (.if_icmp .gt 50, 3) := by decide +kernel
theorem dX11_laysKinds_70 : decode cX11_laysKinds 70 = .ok (.iload 4, 2) := by decide +kernel
theorem dX11_laysKinds_72 : decode cX11_laysKinds 72 = .ok (.iload_n 3, 1) := by decide +kernel
theorem dX11_laysKinds_73 : decode cX11_laysKinds 73 = .ok (.idiv, 1) := by decide +kernel
theorem dX11_laysKinds_74 : decode cX11_laysKinds 74 = .ok (.iload_n 3, 1) := by decide +kernel
theorem dX11_laysKinds_75 : decode cX11_laysKinds 75 = .ok (.irem, 1) := by decide +kernel
theorem dX11_laysKinds_76 : decode cX11_laysKinds 76 = .ok (.ifCond .ne 7, 3) := by decide +kernel
theorem dX11_laysKinds_79 : decode cX11_laysKinds 79 = .ok (.iconst 1, 1) := by decide +kernel
theorem dX11_laysKinds_80 : decode cX11_laysKinds 80 = .ok (.goto 4, 3) := by decide +kernel
theorem dX11_laysKinds_83 : decode cX11_laysKinds 83 = .ok (.iconst 0, 1) := by decide +kernel
theorem dX11_laysKinds_84 : decode cX11_laysKinds 84 = .ok (.istore 5, 2) := by decide +kernel
theorem dX11_laysKinds_86 : decode cX11_laysKinds 86 = .ok (.iload 5, 2) := by decide +kernel
theorem dX11_laysKinds_88 : decode cX11_laysKinds 88 = .ok (.iload_n 1, 1) := by decide +kernel
theorem dX11_laysKinds_89 : decode cX11_laysKinds 89 = .ok (.ifCond .ne 7, 3) := by decide +kernel
theorem dX11_laysKinds_92 : decode cX11_laysKinds 92 = .ok (.iconst 1, 1) := by decide +kernel
theorem dX11_laysKinds_93 : decode cX11_laysKinds 93 = .ok (.goto 4, 3) := by decide +kernel
theorem dX11_laysKinds_96 : decode cX11_laysKinds 96 = .ok (.iconst 0, 1) := by decide +kernel
theorem dX11_laysKinds_97 : decode cX11_laysKinds 97 = .ok (.if_icmp .ne 11, 3) := by decide +kernel
theorem dX11_laysKinds_100 : decode cX11_laysKinds 100 = .ok (.aload_n 0, 1) := by decide +kernel
theorem dX11_laysKinds_101 : decode cX11_laysKinds 101 = .ok (.getfield 65, 3) := by decide +kernel
theorem dX11_laysKinds_104 : decode cX11_laysKinds 104 = .ok (.iload 4, 2) := by decide +kernel
theorem dX11_laysKinds_106 : decode cX11_laysKinds 106 = .ok (.iconst 0, 1) := by decide +kernel
theorem dX11_laysKinds_107 : decode cX11_laysKinds 107 = .ok (.iastore, 1) := by decide +kernel
theorem dX11_laysKinds_108 : decode cX11_laysKinds 108 = .ok (.iload 4, 2) := by decide +kernel
theorem dX11_laysKinds_110 : decode cX11_laysKinds 110 = .ok (.iload_n 3, 1) := by decide +kernel
theorem dX11_laysKinds_111 : decode cX11_laysKinds 111 = .ok (.iadd, 1) := by decide +kernel
theorem dX11_laysKinds_112 : decode cX11_laysKinds 112 = .ok (.istore 4, 2) := by decide +kernel
theorem dX11_laysKinds_114 : decode cX11_laysKinds 114 = .ok (.goto (-50), 3) := by decide +kernel
theorem dX11_laysKinds_117 : decode cX11_laysKinds 117 = .ok (.iinc 3 1, 3) := by decide +kernel
theorem dX11_laysKinds_120 : decode cX11_laysKinds 120 = .ok (.goto (-86), 3) := by decide +kernel
theorem dX11_laysKinds_123 : decode cX11_laysKinds 123 = .ok (.return_, 1) := by decide +kernel
/-- QuotientSumsModel.laysKinds(II)V -/
def wX11_laysKinds (thrown : Int32) (taped : Int32) (lines : Int32) (size : Int32) (atF : Int32) (place : Int32) (sort : Int32) (value : Int32) (fault : Int32) (faultPlace : Int32) (lastFault : Int32) (lastPlace : Int32) (undoable : Int32) (hasImage : Int32) (rowOf : Int32) (areSums : Int32) (isSieved : Int32) (blocks : Int32) (drawn : Int32) (marks : Nat → Int32) (row : Nat → Int32) (a1 : Int32) (a2 : Int32) (Q : (Int32) → (Nat → Int32) → Prop) : Prop :=
  (∃ (P_1 : (Int32) → Prop), wX11_forgets thrown taped lines size atF place sort value fault faultPlace lastFault lastPlace undoable hasImage rowOf areSums isSieved blocks drawn P_1 ∧ ∀ (rowOf_1 : Int32), P_1 rowOf_1 → (∃ (Inv_1 : (Nat → Int32) → (Int32) → Prop) (Mea_1 : (Nat → Int32) → (Int32) → Nat), Inv_1 row 0 ∧ ∀ (row_1 : Nat → Int32) (x3_1 : Int32), Inv_1 row_1 x3_1 → ((a2 < x3_1 → (∃ (Inv_2 : (Nat → Int32) → (Int32) → Prop) (Mea_2 : (Nat → Int32) → (Int32) → Nat), Inv_2 row_1 2 ∧ ∀ (row_2 : Nat → Int32) (x3_2 : Int32), Inv_2 row_2 x3_2 → ((a2 < x3_2 → (Q rowOf_1 row_2)) ∧ (¬ a2 < x3_2 → (∃ (P_2 : (Int32) → Prop), wX11_isPrime thrown taped lines size atF place sort value fault faultPlace lastFault lastPlace undoable hasImage rowOf_1 areSums isSieved blocks drawn marks x3_2 P_2 ∧ ∀ (rF_1 : Int32), P_2 rF_1 → ((rF_1 = 0 → (Inv_2 row_2 (x3_2 + 1) ∧ Mea_2 row_2 (x3_2 + 1) < Mea_2 row_2 x3_2)) ∧ (¬ rF_1 = 0 → (∃ (J_1 : Prop), ((¬ a1 = 0 → (J_1)) ∧ (a1 = 0 → (¬ x3_2 = 0 ∧ ((x3_2 ≤ (a2 / x3_2) → (J_1)) ∧ (¬ x3_2 ≤ (a2 / x3_2) → (Inv_2 row_2 (x3_2 + 1) ∧ Mea_2 row_2 (x3_2 + 1) < Mea_2 row_2 x3_2)))))) ∧ (J_1 → (∃ (Inv_3 : (Nat → Int32) → (Int32) → Prop) (Mea_3 : (Nat → Int32) → (Int32) → Nat), Inv_3 row_2 x3_2 ∧ ∀ (row_3 : Nat → Int32) (x4_1 : Int32), Inv_3 row_3 x4_1 → ((a2 < x4_1 → (Inv_2 row_3 (x3_2 + 1) ∧ Mea_2 row_3 (x3_2 + 1) < Mea_2 row_2 x3_2)) ∧ (¬ a2 < x4_1 → (¬ x3_2 = 0 ∧ ((¬ ((x4_1 / x3_2) - (x4_1 / x3_2) / x3_2 * x3_2) = 0 → ((¬ a1 = 0 → (vp_in x4_1 200001 ∧ ∀ row_4 : Nat → Int32, row_4 = upd row_3 x4_1.toNatClampNeg 0 → ∀ x4_2 : Int32, x4_2 = x4_1 + x3_2 → (Inv_3 row_4 x4_2 ∧ Mea_3 row_4 x4_2 < Mea_3 row_3 x4_1))) ∧ (a1 = 0 → (∀ x4_3 : Int32, x4_3 = x4_1 + x3_2 → (Inv_3 row_3 x4_3 ∧ Mea_3 row_3 x4_3 < Mea_3 row_3 x4_1))))) ∧ (((x4_1 / x3_2) - (x4_1 / x3_2) / x3_2 * x3_2) = 0 → ((¬ a1 = 0 → (∀ x4_4 : Int32, x4_4 = x4_1 + x3_2 → (Inv_3 row_3 x4_4 ∧ Mea_3 row_3 x4_4 < Mea_3 row_3 x4_1))) ∧ (a1 = 0 → (vp_in x4_1 200001 ∧ ∀ row_5 : Nat → Int32, row_5 = upd row_3 x4_1.toNatClampNeg 0 → ∀ x4_5 : Int32, x4_5 = x4_1 + x3_2 → (Inv_3 row_5 x4_5 ∧ Mea_3 row_5 x4_5 < Mea_3 row_3 x4_1))))))))))))))))))) ∧ (¬ a2 < x3_1 → ((¬ x3_1 = 0 → (vp_in x3_1 200001 ∧ ∀ row_6 : Nat → Int32, row_6 = upd row_1 x3_1.toNatClampNeg 1 → (Inv_1 row_6 (x3_1 + 1) ∧ Mea_1 row_6 (x3_1 + 1) < Mea_1 row_1 x3_1))) ∧ (x3_1 = 0 → (vp_in x3_1 200001 ∧ ∀ row_7 : Nat → Int32, row_7 = upd row_1 x3_1.toNatClampNeg 0 → (Inv_1 row_7 (x3_1 + 1) ∧ Mea_1 row_7 (x3_1 + 1) < Mea_1 row_1 x3_1))))))))
set_option maxHeartbeats 4000000 in
set_option maxRecDepth 100000 in
theorem mX11_laysKinds (l : Launch) (D : va_G) (Y : Nat → ClassId) (h0 : Nat) (thrown : Int32) (v_tape : Value) (taped : Int32) (v_number : Value) (v_isTold : Value) (v_name : Value) (v_sortOf : Value) (v_first : Value) (v_second : Value) (v_degree : Value) (v_colours : Value) (v_signBy : Value) (v_own : Value) (lines : Int32) (size : Int32) (atF : Int32) (place : Int32) (sort : Int32) (value : Int32) (fault : Int32) (faultPlace : Int32) (lastFault : Int32) (lastPlace : Int32) (v_sF : Value) (v_kept : Value) (undoable : Int32) (hasImage : Int32) (v_power : Value) (v_table : Value) (q_marks : Nat) (q_row : Nat) (rowOf : Int32) (areSums : Int32) (isSieved : Int32) (v_lastOf : Value) (blocks : Int32) (v_inBlock : Value) (v_atQuotient : Value) (v_small : Value) (drawn : Int32) (marks : Nat → Int32) (row : Nat → Int32) (a1 : Int32) (a2 : Int32) (Q : (Int32) → (Nat → Int32) → Prop) (h : wX11_laysKinds thrown taped lines size atF place sort value fault faultPlace lastFault lastPlace undoable hasImage rowOf areSums isSieved blocks drawn marks row a1 a2 Q) : gM l D Y yX11_laysKinds cX11_laysKinds 6 none 1 21 0 0 [.ref h0, .int a1, .int a2] [oX11 h0 thrown (v_tape) taped (v_number) (v_isTold) (v_name) (v_sortOf) (v_first) (v_second) (v_degree) (v_colours) (v_signBy) (v_own) lines size atF place sort value fault faultPlace lastFault lastPlace (v_sF) (v_kept) undoable hasImage (v_power) (v_table) (.ref q_marks) (.ref q_row) rowOf areSums isSieved (v_lastOf) blocks (v_inBlock) (v_atQuotient) (v_small) drawn, aI Y q_marks 6251 marks, aI Y q_row 200001 row] (fun v w => ∃ rowOf' : Int32, ∃ row' : Nat → Int32, v = none ∧ w = [oX11 h0 thrown (v_tape) taped (v_number) (v_isTold) (v_name) (v_sortOf) (v_first) (v_second) (v_degree) (v_colours) (v_signBy) (v_own) lines size atF place sort value fault faultPlace lastFault lastPlace (v_sF) (v_kept) undoable hasImage (v_power) (v_table) (.ref q_marks) (.ref q_row) rowOf' areSums isSieved (v_lastOf) blocks (v_inBlock) (v_atQuotient) (v_small) drawn, aI Y q_marks 6251 marks, aI Y q_row 200001 row'] ∧ Q rowOf' row') := by
  refine gM_of (own := RX11) (by decide +kernel) rfl (Nat.le_of_ble_eq_true rfl) rfl (fun E C hR => ?_)
  unfold wX11_laysKinds at h
  refine g_aload_n C dX11_laysKinds_0 0 rfl ?_
  obtain ⟨P_1, hP, h⟩ := h
  refine g_callV (As := []) (rest := []) C (mX11_forgets l D Y h0 thrown v_tape taped v_number v_isTold v_name v_sortOf v_first v_second v_degree v_colours v_signBy v_own lines size atF place sort value fault faultPlace lastFault lastPlace v_sF v_kept undoable hasImage v_power v_table (.ref q_marks) (.ref q_row) rowOf areSums isSieved v_lastOf blocks v_inBlock v_atQuotient v_small drawn P_1 hP) dX11_laysKinds_1 rfl wM_X11_232 wI_X11_forgets wV_X11_forgets wN_X11 wC_X11_forgets (n := 0) (by decide +kernel) rfl (q0 := 0) rfl rfl ⟨Nat.le_of_ble_eq_true rfl, Nat.le_of_ble_eq_true rfl⟩ ⟨Nat.le_of_ble_eq_true rfl, Nat.le_of_ble_eq_true rfl⟩ (Nat.le_of_ble_eq_true rfl) [0] [1, 2] rfl rfl rfl (fun v wc hv => ?_)
  obtain ⟨rowOf_1, rfl, rfl, hq⟩ := hv
  replace h := h rowOf_1 hq
  refine gG.perm (ws' := [oX11 h0 thrown (v_tape) taped (v_number) (v_isTold) (v_name) (v_sortOf) (v_first) (v_second) (v_degree) (v_colours) (v_signBy) (v_own) lines size atF place sort value fault faultPlace lastFault lastPlace (v_sF) (v_kept) undoable hasImage (v_power) (v_table) (.ref q_marks) (.ref q_row) rowOf_1 areSums isSieved (v_lastOf) blocks (v_inBlock) (v_atQuotient) (v_small) drawn, aI Y q_marks 6251 marks, aI Y q_row 200001 row]) [2, 0, 1] rfl rfl ?_
  refine g_iconst (v := 0) C dX11_laysKinds_4 rfl ?_
  refine g_istore_n (lv' := [(3, .int 0), (0, .ref h0), (1, .int a1), (2, .int a2)]) C dX11_laysKinds_5 (by decide) rfl ?_
  obtain ⟨Inv_1, Mea_1, hI1, hB1⟩ := h
  have key_1 : ∀ (n : Nat) (row_1 : Nat → Int32) (x3_1 : Int32) , Mea_1 row_1 x3_1 < n → Inv_1 row_1 x3_1 → gG E 0 0 [oX11 h0 thrown (v_tape) taped (v_number) (v_isTold) (v_name) (v_sortOf) (v_first) (v_second) (v_degree) (v_colours) (v_signBy) (v_own) lines size atF place sort value fault faultPlace lastFault lastPlace (v_sF) (v_kept) undoable hasImage (v_power) (v_table) (.ref q_marks) (.ref q_row) rowOf_1 areSums isSieved (v_lastOf) blocks (v_inBlock) (v_atQuotient) (v_small) drawn, aI Y q_marks 6251 marks, aI Y q_row 200001 row_1] [(0, .ref h0), (1, .int a1), (2, .int a2), (3, .int x3_1)] [] 6 := by
    intro n
    induction n with
    | zero => exact fun _ _ hm => absurd hm (Nat.not_lt_zero _)
    | succ n ih1 =>
      intro row_1 x3_1  hm1 hI
      have h := hB1 row_1 x3_1 hI
      refine g_iload_n C dX11_laysKinds_6 3 rfl ?_
      refine g_iload_n C dX11_laysKinds_7 2 rfl ?_
      refine g_icmp_gt (tgt := 32) C dX11_laysKinds_8 (by decide) (fun c_1 => ?_) (fun c_1 => ?_)
      · replace h := h.1 c_1
        refine g_iconst (v := 2) C dX11_laysKinds_32 rfl ?_
        refine g_istore_n (lv' := [(3, .int 2), (0, .ref h0), (1, .int a1), (2, .int a2)]) C dX11_laysKinds_33 (by decide) rfl ?_
        obtain ⟨Inv_2, Mea_2, hI2, hB2⟩ := h
        have key_2 : ∀ (n : Nat) (row_2 : Nat → Int32) (x3_2 : Int32) , Mea_2 row_2 x3_2 < n → Inv_2 row_2 x3_2 → gG E 0 0 [oX11 h0 thrown (v_tape) taped (v_number) (v_isTold) (v_name) (v_sortOf) (v_first) (v_second) (v_degree) (v_colours) (v_signBy) (v_own) lines size atF place sort value fault faultPlace lastFault lastPlace (v_sF) (v_kept) undoable hasImage (v_power) (v_table) (.ref q_marks) (.ref q_row) rowOf_1 areSums isSieved (v_lastOf) blocks (v_inBlock) (v_atQuotient) (v_small) drawn, aI Y q_marks 6251 marks, aI Y q_row 200001 row_2] [(0, .ref h0), (1, .int a1), (2, .int a2), (3, .int x3_2)] [] 34 := by
          intro n
          induction n with
          | zero => exact fun _ _ hm => absurd hm (Nat.not_lt_zero _)
          | succ n ih2 =>
            intro row_2 x3_2  hm2 hI
            have h := hB2 row_2 x3_2 hI
            refine g_iload_n C dX11_laysKinds_34 3 rfl ?_
            refine g_iload_n C dX11_laysKinds_35 2 rfl ?_
            refine g_icmp_gt (tgt := 123) C dX11_laysKinds_36 (by decide) (fun c_2 => ?_) (fun c_2 => ?_)
            · replace h := h.1 c_2
              exact g_vret C hR (Nat.le_of_ble_eq_true rfl) (Nat.le_of_ble_eq_true rfl) dX11_laysKinds_123 ⟨rowOf_1, row_2, rfl, rfl, h⟩
            · replace h := h.2 c_2
              refine g_aload_n C dX11_laysKinds_39 0 rfl ?_
              refine g_iload_n C dX11_laysKinds_40 3 rfl ?_
              obtain ⟨P_2, hP, h⟩ := h
              refine g_callV (As := [.int x3_2]) (rest := []) C (mX11_isPrime l D Y h0 thrown v_tape taped v_number v_isTold v_name v_sortOf v_first v_second v_degree v_colours v_signBy v_own lines size atF place sort value fault faultPlace lastFault lastPlace v_sF v_kept undoable hasImage v_power v_table q_marks (.ref q_row) rowOf_1 areSums isSieved v_lastOf blocks v_inBlock v_atQuotient v_small drawn marks x3_2 P_2 hP) dX11_laysKinds_41 rfl wM_X11_292 wI_X11_isPrime wV_X11_isPrime wN_X11 wC_X11_isPrime (n := 1) (by decide +kernel) rfl (q0 := 0) rfl rfl ⟨Nat.le_of_ble_eq_true rfl, Nat.le_of_ble_eq_true rfl⟩ ⟨Nat.le_of_ble_eq_true rfl, Nat.le_of_ble_eq_true rfl⟩ (Nat.le_of_ble_eq_true rfl) [0, 1] [2] rfl rfl rfl (fun v wc hv => ?_)
              obtain ⟨rF_1, rfl, rfl, hq⟩ := hv
              replace h := h rF_1 hq
              refine gG.perm (ws' := [oX11 h0 thrown (v_tape) taped (v_number) (v_isTold) (v_name) (v_sortOf) (v_first) (v_second) (v_degree) (v_colours) (v_signBy) (v_own) lines size atF place sort value fault faultPlace lastFault lastPlace (v_sF) (v_kept) undoable hasImage (v_power) (v_table) (.ref q_marks) (.ref q_row) rowOf_1 areSums isSieved (v_lastOf) blocks (v_inBlock) (v_atQuotient) (v_small) drawn, aI Y q_marks 6251 marks, aI Y q_row 200001 row_2]) [1, 2, 0] rfl rfl ?_
              refine g_if_eq (tgt := 117) C dX11_laysKinds_44 (by decide) (fun c_3 => ?_) (fun c_3 => ?_)
              · replace h := h.1 c_3
                refine g_iinc (v := x3_2 + 1) (lv' := [(3, .int (x3_2 + 1)), (0, .ref h0), (1, .int a1), (2, .int a2)]) C dX11_laysKinds_117 3 rfl rfl (by decide) rfl ?_
                refine g_goto (tgt := 34) C dX11_laysKinds_120 (by decide) ?_
                refine gG.locals (lv' := [(0, .ref h0), (1, .int a1), (2, .int a2), (3, .int (x3_2 + 1))]) [1, 2, 3, 0] rfl ?_
                exact ih2 row_2 (x3_2 + 1) (Nat.lt_of_lt_of_le h.2 (Nat.le_of_lt_succ hm2)) h.1
              · replace h := h.2 c_3
                refine g_iload_n C dX11_laysKinds_47 1 rfl ?_
                obtain ⟨J_1, hA, hB_J_1⟩ := h
                have key_3 : J_1 → gG E 0 0 [oX11 h0 thrown (v_tape) taped (v_number) (v_isTold) (v_name) (v_sortOf) (v_first) (v_second) (v_degree) (v_colours) (v_signBy) (v_own) lines size atF place sort value fault faultPlace lastFault lastPlace (v_sF) (v_kept) undoable hasImage (v_power) (v_table) (.ref q_marks) (.ref q_row) rowOf_1 areSums isSieved (v_lastOf) blocks (v_inBlock) (v_atQuotient) (v_small) drawn, aI Y q_marks 6251 marks, aI Y q_row 200001 row_2] [(0, .ref h0), (1, .int a1), (2, .int a2), (3, .int x3_2)] [] 61 := by
                  intro  hJ
                  have h := hB_J_1  hJ
                  refine g_iload_n C dX11_laysKinds_61 3 rfl ?_
                  refine g_istore (lv' := [(4, .int x3_2), (0, .ref h0), (1, .int a1), (2, .int a2), (3, .int x3_2)]) C dX11_laysKinds_62 (by decide) rfl ?_
                  obtain ⟨Inv_3, Mea_3, hI4, hB4⟩ := h
                  have key_4 : ∀ (n : Nat) (row_3 : Nat → Int32) (x4_1 : Int32) , Mea_3 row_3 x4_1 < n → Inv_3 row_3 x4_1 → gG E 0 0 [oX11 h0 thrown (v_tape) taped (v_number) (v_isTold) (v_name) (v_sortOf) (v_first) (v_second) (v_degree) (v_colours) (v_signBy) (v_own) lines size atF place sort value fault faultPlace lastFault lastPlace (v_sF) (v_kept) undoable hasImage (v_power) (v_table) (.ref q_marks) (.ref q_row) rowOf_1 areSums isSieved (v_lastOf) blocks (v_inBlock) (v_atQuotient) (v_small) drawn, aI Y q_marks 6251 marks, aI Y q_row 200001 row_3] [(0, .ref h0), (1, .int a1), (2, .int a2), (3, .int x3_2), (4, .int x4_1)] [] 64 := by
                    intro n
                    induction n with
                    | zero => exact fun _ _ hm => absurd hm (Nat.not_lt_zero _)
                    | succ n ih4 =>
                      intro row_3 x4_1  hm4 hI
                      have h := hB4 row_3 x4_1 hI
                      refine g_iload C dX11_laysKinds_64 4 rfl ?_
                      refine g_iload_n C dX11_laysKinds_66 2 rfl ?_
                      refine g_icmp_gt (tgt := 117) C dX11_laysKinds_67 (by decide) (fun c_4 => ?_) (fun c_4 => ?_)
                      · replace h := h.1 c_4
                        refine g_iinc (v := x3_2 + 1) (lv' := [(3, .int (x3_2 + 1)), (0, .ref h0), (1, .int a1), (2, .int a2), (4, .int x4_1)]) C dX11_laysKinds_117 3 rfl rfl (by decide) rfl ?_
                        refine g_goto (tgt := 34) C dX11_laysKinds_120 (by decide) ?_
                        refine gG.locals (lv' := [(0, .ref h0), (1, .int a1), (2, .int a2), (3, .int (x3_2 + 1))]) [1, 2, 3, 0] rfl ?_
                        exact ih2 row_3 (x3_2 + 1) (Nat.lt_of_lt_of_le h.2 (Nat.le_of_lt_succ hm2)) h.1
                      · replace h := h.2 c_4
                        refine g_iload C dX11_laysKinds_70 4 rfl ?_
                        refine g_iload_n C dX11_laysKinds_72 3 rfl ?_
                        obtain ⟨hc_1, h⟩ := h
                        refine g_idiv C dX11_laysKinds_73 hc_1 ?_
                        refine g_iload_n C dX11_laysKinds_74 3 rfl ?_
                        refine g_irem C dX11_laysKinds_75 hc_1 ?_
                        refine g_if_ne (tgt := 83) C dX11_laysKinds_76 (by decide) (fun c_5 => ?_) (fun c_5 => ?_)
                        · replace h := h.1 c_5
                          refine g_iconst (v := 0) C dX11_laysKinds_83 rfl ?_
                          refine g_istore (lv' := [(5, .int 0), (0, .ref h0), (1, .int a1), (2, .int a2), (3, .int x3_2), (4, .int x4_1)]) C dX11_laysKinds_84 (by decide) rfl ?_
                          refine g_iload C dX11_laysKinds_86 0 rfl ?_
                          refine g_iload_n C dX11_laysKinds_88 2 rfl ?_
                          refine g_if_ne (tgt := 96) C dX11_laysKinds_89 (by decide) (fun c_6 => ?_) (fun c_6 => ?_)
                          · replace h := h.1 c_6
                            refine g_iconst (v := 0) C dX11_laysKinds_96 rfl ?_
                            refine g_icmp_ne (tgt := 108) C dX11_laysKinds_97 (by decide) (fun c => absurd (by decide) c) (fun _ => ?_)
                            refine g_aload_n C dX11_laysKinds_100 1 rfl ?_
                            refine g_get C inX11 0 rfl rfl 30 (by decide) wF_X11_65 rfl dX11_laysKinds_101 ?_
                            refine g_iload C dX11_laysKinds_104 5 rfl ?_
                            refine g_iconst (v := 0) C dX11_laysKinds_106 rfl ?_
                            obtain ⟨hc_2, h⟩ := h
                            refine g_iast C 2 rfl hc_2 dX11_laysKinds_107 (fun row_4 erow_4 => gG.eqw (ws' := [oX11 h0 thrown (v_tape) taped (v_number) (v_isTold) (v_name) (v_sortOf) (v_first) (v_second) (v_degree) (v_colours) (v_signBy) (v_own) lines size atF place sort value fault faultPlace lastFault lastPlace (v_sF) (v_kept) undoable hasImage (v_power) (v_table) (.ref q_marks) (.ref q_row) rowOf_1 areSums isSieved (v_lastOf) blocks (v_inBlock) (v_atQuotient) (v_small) drawn, aI Y q_marks 6251 marks, aI Y q_row 200001 row_4]) rfl ?_)
                            replace h := h row_4 erow_4
                            refine g_iload C dX11_laysKinds_108 5 rfl ?_
                            refine g_iload_n C dX11_laysKinds_110 4 rfl ?_
                            refine g_iadd C dX11_laysKinds_111 ?_
                            refine g_topi (fun x4_2 ex4_2 => ?_)
                            replace h := h x4_2 ex4_2
                            refine g_istore (lv' := [(4, .int x4_2), (5, .int 0), (0, .ref h0), (1, .int a1), (2, .int a2), (3, .int x3_2)]) C dX11_laysKinds_112 (by decide) rfl ?_
                            refine g_goto (tgt := 64) C dX11_laysKinds_114 (by decide) ?_
                            refine gG.locals (lv' := [(0, .ref h0), (1, .int a1), (2, .int a2), (3, .int x3_2), (4, .int x4_2)]) [2, 3, 4, 5, 0] rfl ?_
                            exact ih4 row_4 x4_2 (Nat.lt_of_lt_of_le h.2 (Nat.le_of_lt_succ hm4)) h.1
                          · replace h := h.2 c_6
                            refine g_iconst (v := 1) C dX11_laysKinds_92 rfl ?_
                            refine g_goto (tgt := 97) C dX11_laysKinds_93 (by decide) ?_
                            refine g_icmp_ne (tgt := 108) C dX11_laysKinds_97 (by decide) (fun _ => ?_) (fun c => absurd c (by decide))
                            refine g_iload C dX11_laysKinds_108 5 rfl ?_
                            refine g_iload_n C dX11_laysKinds_110 4 rfl ?_
                            refine g_iadd C dX11_laysKinds_111 ?_
                            refine g_topi (fun x4_3 ex4_3 => ?_)
                            replace h := h x4_3 ex4_3
                            refine g_istore (lv' := [(4, .int x4_3), (5, .int 0), (0, .ref h0), (1, .int a1), (2, .int a2), (3, .int x3_2)]) C dX11_laysKinds_112 (by decide) rfl ?_
                            refine g_goto (tgt := 64) C dX11_laysKinds_114 (by decide) ?_
                            refine gG.locals (lv' := [(0, .ref h0), (1, .int a1), (2, .int a2), (3, .int x3_2), (4, .int x4_3)]) [2, 3, 4, 5, 0] rfl ?_
                            exact ih4 row_3 x4_3 (Nat.lt_of_lt_of_le h.2 (Nat.le_of_lt_succ hm4)) h.1
                        · replace h := h.2 c_5
                          refine g_iconst (v := 1) C dX11_laysKinds_79 rfl ?_
                          refine g_goto (tgt := 84) C dX11_laysKinds_80 (by decide) ?_
                          refine g_istore (lv' := [(5, .int 1), (0, .ref h0), (1, .int a1), (2, .int a2), (3, .int x3_2), (4, .int x4_1)]) C dX11_laysKinds_84 (by decide) rfl ?_
                          refine g_iload C dX11_laysKinds_86 0 rfl ?_
                          refine g_iload_n C dX11_laysKinds_88 2 rfl ?_
                          refine g_if_ne (tgt := 96) C dX11_laysKinds_89 (by decide) (fun c_7 => ?_) (fun c_7 => ?_)
                          · replace h := h.1 c_7
                            refine g_iconst (v := 0) C dX11_laysKinds_96 rfl ?_
                            refine g_icmp_ne (tgt := 108) C dX11_laysKinds_97 (by decide) (fun _ => ?_) (fun c => absurd c (by decide))
                            refine g_iload C dX11_laysKinds_108 5 rfl ?_
                            refine g_iload_n C dX11_laysKinds_110 4 rfl ?_
                            refine g_iadd C dX11_laysKinds_111 ?_
                            refine g_topi (fun x4_4 ex4_4 => ?_)
                            replace h := h x4_4 ex4_4
                            refine g_istore (lv' := [(4, .int x4_4), (5, .int 1), (0, .ref h0), (1, .int a1), (2, .int a2), (3, .int x3_2)]) C dX11_laysKinds_112 (by decide) rfl ?_
                            refine g_goto (tgt := 64) C dX11_laysKinds_114 (by decide) ?_
                            refine gG.locals (lv' := [(0, .ref h0), (1, .int a1), (2, .int a2), (3, .int x3_2), (4, .int x4_4)]) [2, 3, 4, 5, 0] rfl ?_
                            exact ih4 row_3 x4_4 (Nat.lt_of_lt_of_le h.2 (Nat.le_of_lt_succ hm4)) h.1
                          · replace h := h.2 c_7
                            refine g_iconst (v := 1) C dX11_laysKinds_92 rfl ?_
                            refine g_goto (tgt := 97) C dX11_laysKinds_93 (by decide) ?_
                            refine g_icmp_ne (tgt := 108) C dX11_laysKinds_97 (by decide) (fun c => absurd (by decide) c) (fun _ => ?_)
                            refine g_aload_n C dX11_laysKinds_100 1 rfl ?_
                            refine g_get C inX11 0 rfl rfl 30 (by decide) wF_X11_65 rfl dX11_laysKinds_101 ?_
                            refine g_iload C dX11_laysKinds_104 5 rfl ?_
                            refine g_iconst (v := 0) C dX11_laysKinds_106 rfl ?_
                            obtain ⟨hc_3, h⟩ := h
                            refine g_iast C 2 rfl hc_3 dX11_laysKinds_107 (fun row_5 erow_5 => gG.eqw (ws' := [oX11 h0 thrown (v_tape) taped (v_number) (v_isTold) (v_name) (v_sortOf) (v_first) (v_second) (v_degree) (v_colours) (v_signBy) (v_own) lines size atF place sort value fault faultPlace lastFault lastPlace (v_sF) (v_kept) undoable hasImage (v_power) (v_table) (.ref q_marks) (.ref q_row) rowOf_1 areSums isSieved (v_lastOf) blocks (v_inBlock) (v_atQuotient) (v_small) drawn, aI Y q_marks 6251 marks, aI Y q_row 200001 row_5]) rfl ?_)
                            replace h := h row_5 erow_5
                            refine g_iload C dX11_laysKinds_108 5 rfl ?_
                            refine g_iload_n C dX11_laysKinds_110 4 rfl ?_
                            refine g_iadd C dX11_laysKinds_111 ?_
                            refine g_topi (fun x4_5 ex4_5 => ?_)
                            replace h := h x4_5 ex4_5
                            refine g_istore (lv' := [(4, .int x4_5), (5, .int 1), (0, .ref h0), (1, .int a1), (2, .int a2), (3, .int x3_2)]) C dX11_laysKinds_112 (by decide) rfl ?_
                            refine g_goto (tgt := 64) C dX11_laysKinds_114 (by decide) ?_
                            refine gG.locals (lv' := [(0, .ref h0), (1, .int a1), (2, .int a2), (3, .int x3_2), (4, .int x4_5)]) [2, 3, 4, 5, 0] rfl ?_
                            exact ih4 row_5 x4_5 (Nat.lt_of_lt_of_le h.2 (Nat.le_of_lt_succ hm4)) h.1
                  refine gG.locals (lv' := [(0, .ref h0), (1, .int a1), (2, .int a2), (3, .int x3_2), (4, .int x3_2)]) [1, 2, 3, 4, 0] rfl ?_
                  exact key_4 (Mea_3 row_2 x3_2 + 1) row_2 x3_2 (Nat.lt_succ_self _) hI4
                replace h := hA
                refine g_if_ne (tgt := 61) C dX11_laysKinds_48 (by decide) (fun c_8 => ?_) (fun c_8 => ?_)
                · replace h := h.1 c_8
                  exact key_3 h
                · replace h := h.2 c_8
                  refine g_iload_n C dX11_laysKinds_51 3 rfl ?_
                  refine g_iload_n C dX11_laysKinds_52 2 rfl ?_
                  refine g_iload_n C dX11_laysKinds_53 3 rfl ?_
                  obtain ⟨hc_4, h⟩ := h
                  refine g_idiv C dX11_laysKinds_54 hc_4 ?_
                  refine g_icmp_le (tgt := 61) C dX11_laysKinds_55 (by decide) (fun c_9 => ?_) (fun c_9 => ?_)
                  · replace h := h.1 c_9
                    exact key_3 h
                  · replace h := h.2 c_9
                    refine g_goto (tgt := 117) C dX11_laysKinds_58 (by decide) ?_
                    refine g_iinc (v := x3_2 + 1) (lv' := [(3, .int (x3_2 + 1)), (0, .ref h0), (1, .int a1), (2, .int a2)]) C dX11_laysKinds_117 3 rfl rfl (by decide) rfl ?_
                    refine g_goto (tgt := 34) C dX11_laysKinds_120 (by decide) ?_
                    refine gG.locals (lv' := [(0, .ref h0), (1, .int a1), (2, .int a2), (3, .int (x3_2 + 1))]) [1, 2, 3, 0] rfl ?_
                    exact ih2 row_2 (x3_2 + 1) (Nat.lt_of_lt_of_le h.2 (Nat.le_of_lt_succ hm2)) h.1
        refine gG.locals (lv' := [(0, .ref h0), (1, .int a1), (2, .int a2), (3, .int 2)]) [1, 2, 3, 0] rfl ?_
        exact key_2 (Mea_2 row_1 2 + 1) row_1 2 (Nat.lt_succ_self _) hI2
      · replace h := h.2 c_1
        refine g_aload_n C dX11_laysKinds_11 0 rfl ?_
        refine g_get C inX11 0 rfl rfl 30 (by decide) wF_X11_65 rfl dX11_laysKinds_12 ?_
        refine g_iload_n C dX11_laysKinds_15 3 rfl ?_
        refine g_iload_n C dX11_laysKinds_16 3 rfl ?_
        refine g_if_ne (tgt := 24) C dX11_laysKinds_17 (by decide) (fun c_10 => ?_) (fun c_10 => ?_)
        · replace h := h.1 c_10
          refine g_iconst (v := 1) C dX11_laysKinds_24 rfl ?_
          obtain ⟨hc_5, h⟩ := h
          refine g_iast C 2 rfl hc_5 dX11_laysKinds_25 (fun row_6 erow_6 => gG.eqw (ws' := [oX11 h0 thrown (v_tape) taped (v_number) (v_isTold) (v_name) (v_sortOf) (v_first) (v_second) (v_degree) (v_colours) (v_signBy) (v_own) lines size atF place sort value fault faultPlace lastFault lastPlace (v_sF) (v_kept) undoable hasImage (v_power) (v_table) (.ref q_marks) (.ref q_row) rowOf_1 areSums isSieved (v_lastOf) blocks (v_inBlock) (v_atQuotient) (v_small) drawn, aI Y q_marks 6251 marks, aI Y q_row 200001 row_6]) rfl ?_)
          replace h := h row_6 erow_6
          refine g_iinc (v := x3_1 + 1) (lv' := [(3, .int (x3_1 + 1)), (0, .ref h0), (1, .int a1), (2, .int a2)]) C dX11_laysKinds_26 3 rfl rfl (by decide) rfl ?_
          refine g_goto (tgt := 6) C dX11_laysKinds_29 (by decide) ?_
          refine gG.locals (lv' := [(0, .ref h0), (1, .int a1), (2, .int a2), (3, .int (x3_1 + 1))]) [1, 2, 3, 0] rfl ?_
          exact ih1 row_6 (x3_1 + 1) (Nat.lt_of_lt_of_le h.2 (Nat.le_of_lt_succ hm1)) h.1
        · replace h := h.2 c_10
          refine g_iconst (v := 0) C dX11_laysKinds_20 rfl ?_
          refine g_goto (tgt := 25) C dX11_laysKinds_21 (by decide) ?_
          obtain ⟨hc_6, h⟩ := h
          refine g_iast C 2 rfl hc_6 dX11_laysKinds_25 (fun row_7 erow_7 => gG.eqw (ws' := [oX11 h0 thrown (v_tape) taped (v_number) (v_isTold) (v_name) (v_sortOf) (v_first) (v_second) (v_degree) (v_colours) (v_signBy) (v_own) lines size atF place sort value fault faultPlace lastFault lastPlace (v_sF) (v_kept) undoable hasImage (v_power) (v_table) (.ref q_marks) (.ref q_row) rowOf_1 areSums isSieved (v_lastOf) blocks (v_inBlock) (v_atQuotient) (v_small) drawn, aI Y q_marks 6251 marks, aI Y q_row 200001 row_7]) rfl ?_)
          replace h := h row_7 erow_7
          refine g_iinc (v := x3_1 + 1) (lv' := [(3, .int (x3_1 + 1)), (0, .ref h0), (1, .int a1), (2, .int a2)]) C dX11_laysKinds_26 3 rfl rfl (by decide) rfl ?_
          refine g_goto (tgt := 6) C dX11_laysKinds_29 (by decide) ?_
          refine gG.locals (lv' := [(0, .ref h0), (1, .int a1), (2, .int a2), (3, .int (x3_1 + 1))]) [1, 2, 3, 0] rfl ?_
          exact ih1 row_7 (x3_1 + 1) (Nat.lt_of_lt_of_le h.2 (Nat.le_of_lt_succ hm1)) h.1
  refine gG.locals (lv' := [(0, .ref h0), (1, .int a1), (2, .int a2), (3, .int 0)]) [1, 2, 3, 0] rfl ?_
  exact key_1 (Mea_1 row 0 + 1) row 0 (Nat.lt_succ_self _) hI1
theorem dX11_many_0 : decode cX11_many 0 = .ok (.aload_n 0, 1) := by decide +kernel
theorem dX11_many_1 : decode cX11_many 1 = .ok (.iconst 0, 1) := by decide +kernel
theorem dX11_many_2 : decode cX11_many 2 = .ok (.putfield 89, 3) := by decide +kernel
theorem dX11_many_5 : decode cX11_many 5 = .ok (.iload_n 1, 1) := by decide +kernel
theorem dX11_many_6 : decode cX11_many 6 = .ok (.ifCond .lt 17, 3) := by decide +kernel
theorem dX11_many_9 : decode cX11_many 9 = .ok (.iload_n 1, 1) := by decide +kernel
theorem dX11_many_10 : decode cX11_many 10 = .ok (.iconst 1, 1) := by decide +kernel
theorem dX11_many_11 : decode cX11_many 11 = .ok (.if_icmp .gt 12, 3) := by decide +kernel
theorem dX11_many_14 : decode cX11_many 14 = .ok (.aload_n 0, 1) := by decide +kernel
theorem dX11_many_15 : decode cX11_many 15 = .ok (.iload_n 2, 1) := by decide +kernel
theorem dX11_many_16 : decode cX11_many 16 = .ok (.iconst 0, 1) := by decide +kernel
theorem dX11_many_17 : decode cX11_many 17 = .ok (.invokevirtual 282, 3) := by decide +kernel
theorem dX11_many_20 : decode cX11_many 20 = .ok (.ifCond .ne 5, 3) := by decide +kernel
theorem dX11_many_23 : decode cX11_many 23 = .ok (.iconst (-1), 1) := by decide +kernel
theorem dX11_many_24 : decode cX11_many 24 = .ok (.ireturn, 1) := by decide +kernel
theorem dX11_many_25 : decode cX11_many 25 = .ok (.aload_n 0, 1) := by decide +kernel
theorem dX11_many_26 : decode cX11_many 26 = .ok (.iload_n 1, 1) := by decide +kernel
theorem dX11_many_27 : decode cX11_many 27 = .ok (.iload_n 2, 1) := by decide +kernel
theorem dX11_many_28 : decode cX11_many 28 = .ok (.invokevirtual 340, 3) := by decide +kernel
theorem dX11_many_31 : decode cX11_many 31 = .ok (.iconst 0, 1) := by decide +kernel
theorem dX11_many_32 : decode cX11_many 32 = .ok (.istore_n 3, 1) := by decide +kernel
theorem dX11_many_33 : decode cX11_many 33 = .ok (.iconst 1, 1) := by decide +kernel
theorem dX11_many_34 : decode cX11_many 34 = .ok (.istore 4, 2) := by decide +kernel
theorem dX11_many_36 : decode cX11_many 36 = .ok (.iload 4, 2) := by decide +kernel
theorem dX11_many_38 : decode cX11_many 38 = .ok (.iload_n 2, 1) := by decide +kernel
theorem dX11_many_39 : decode cX11_many 39 = .ok (.if_icmp .gt 19, 3) := by decide +kernel
theorem dX11_many_42 : decode cX11_many 42 = .ok (.iload_n 3, 1) := by decide +kernel
theorem dX11_many_43 : decode cX11_many 43 = .ok (.aload_n 0, 1) := by decide +kernel
theorem dX11_many_44 : decode cX11_many 44 = .ok (.getfield 65, 3) := by decide +kernel
theorem dX11_many_47 : decode cX11_many 47 = .ok (.iload 4, 2) := by decide +kernel
theorem dX11_many_49 : decode cX11_many 49 = .ok (.iaload, 1) := by decide +kernel
theorem dX11_many_50 : decode cX11_many 50 = .ok (.iadd, 1) := by decide +kernel
theorem dX11_many_51 : decode cX11_many 51 = .ok (.istore_n 3, 1) := by decide +kernel
theorem dX11_many_52 : decode cX11_many 52 = .ok (.iinc 4 1, 3) := by decide +kernel
theorem dX11_many_55 : decode cX11_many 55 = .ok (.goto (-19), 3) := by decide +kernel
theorem dX11_many_58 : decode cX11_many 58 = .ok (.iload_n 3, 1) := by decide +kernel
theorem dX11_many_59 : decode cX11_many 59 = .ok (.ireturn, 1) := by decide +kernel
/-- QuotientSumsModel.many(II)I -/
def wX11_many (thrown : Int32) (taped : Int32) (lines : Int32) (size : Int32) (atF : Int32) (place : Int32) (sort : Int32) (value : Int32) (fault : Int32) (faultPlace : Int32) (lastFault : Int32) (lastPlace : Int32) (undoable : Int32) (hasImage : Int32) (rowOf : Int32) (areSums : Int32) (isSieved : Int32) (blocks : Int32) (drawn : Int32) (sF : Nat → Int32) (marks : Nat → Int32) (row : Nat → Int32) (a1 : Int32) (a2 : Int32) (Q : (Int32) → (Int32) → (Int32) → (Nat → Int32) → Prop) : Prop :=
  ((a1 < 0 → (Q (-1) 0 rowOf row)) ∧ (¬ a1 < 0 → ((1 < a1 → (Q (-1) 0 rowOf row)) ∧ (¬ 1 < a1 → (∃ (P_1 : (Int32) → Prop), wX11_isIn 0 taped lines size atF place sort value fault faultPlace lastFault lastPlace undoable hasImage rowOf areSums isSieved blocks drawn sF a2 0 P_1 ∧ ∀ (rF_1 : Int32), P_1 rF_1 → ((¬ rF_1 = 0 → (∃ (P_2 : (Int32) → (Nat → Int32) → Prop), wX11_laysKinds 0 taped lines size atF place sort value fault faultPlace lastFault lastPlace undoable hasImage rowOf areSums isSieved blocks drawn marks row a1 a2 P_2 ∧ ∀ (rowOf_1 : Int32) (row_1 : Nat → Int32), P_2 rowOf_1 row_1 → (∃ (Inv_1 : (Int32) → (Int32) → Prop) (Mea_1 : (Int32) → (Int32) → Nat), Inv_1 0 1 ∧ ∀ (x3_1 : Int32) (x4_1 : Int32), Inv_1 x3_1 x4_1 → ((a2 < x4_1 → (Q x3_1 0 rowOf_1 row_1)) ∧ (¬ a2 < x4_1 → (vp_in x4_1 200001 ∧ ∀ x3_2 : Int32, x3_2 = x3_1 + (row_1 x4_1.toNatClampNeg) → (Inv_1 x3_2 (x4_1 + 1) ∧ Mea_1 x3_2 (x4_1 + 1) < Mea_1 x3_1 x4_1))))))) ∧ (rF_1 = 0 → (Q (-1) 0 rowOf row))))))))
set_option maxHeartbeats 4000000 in
set_option maxRecDepth 100000 in
theorem mX11_many (l : Launch) (D : va_G) (Y : Nat → ClassId) (h0 : Nat) (thrown : Int32) (v_tape : Value) (taped : Int32) (v_number : Value) (v_isTold : Value) (v_name : Value) (v_sortOf : Value) (v_first : Value) (v_second : Value) (v_degree : Value) (v_colours : Value) (v_signBy : Value) (v_own : Value) (lines : Int32) (size : Int32) (atF : Int32) (place : Int32) (sort : Int32) (value : Int32) (fault : Int32) (faultPlace : Int32) (lastFault : Int32) (lastPlace : Int32) (q_sF : Nat) (v_kept : Value) (undoable : Int32) (hasImage : Int32) (v_power : Value) (v_table : Value) (q_marks : Nat) (q_row : Nat) (rowOf : Int32) (areSums : Int32) (isSieved : Int32) (v_lastOf : Value) (blocks : Int32) (v_inBlock : Value) (v_atQuotient : Value) (v_small : Value) (drawn : Int32) (sF : Nat → Int32) (marks : Nat → Int32) (row : Nat → Int32) (a1 : Int32) (a2 : Int32) (Q : (Int32) → (Int32) → (Int32) → (Nat → Int32) → Prop) (h : wX11_many thrown taped lines size atF place sort value fault faultPlace lastFault lastPlace undoable hasImage rowOf areSums isSieved blocks drawn sF marks row a1 a2 Q) : gM l D Y yX11_many cX11_many 5 (some .int) 2 46 0 0 [.ref h0, .int a1, .int a2] [oX11 h0 thrown (v_tape) taped (v_number) (v_isTold) (v_name) (v_sortOf) (v_first) (v_second) (v_degree) (v_colours) (v_signBy) (v_own) lines size atF place sort value fault faultPlace lastFault lastPlace (.ref q_sF) (v_kept) undoable hasImage (v_power) (v_table) (.ref q_marks) (.ref q_row) rowOf areSums isSieved (v_lastOf) blocks (v_inBlock) (v_atQuotient) (v_small) drawn, aI Y q_sF 74 sF, aI Y q_marks 6251 marks, aI Y q_row 200001 row] (fun v w => ∃ r : Int32, ∃ thrown' : Int32, ∃ rowOf' : Int32, ∃ row' : Nat → Int32, v = some (.int r) ∧ w = [oX11 h0 thrown' (v_tape) taped (v_number) (v_isTold) (v_name) (v_sortOf) (v_first) (v_second) (v_degree) (v_colours) (v_signBy) (v_own) lines size atF place sort value fault faultPlace lastFault lastPlace (.ref q_sF) (v_kept) undoable hasImage (v_power) (v_table) (.ref q_marks) (.ref q_row) rowOf' areSums isSieved (v_lastOf) blocks (v_inBlock) (v_atQuotient) (v_small) drawn, aI Y q_sF 74 sF, aI Y q_marks 6251 marks, aI Y q_row 200001 row'] ∧ Q r thrown' rowOf' row') := by
  refine gM_of (own := RX11) (by decide +kernel) rfl (Nat.le_of_ble_eq_true rfl) rfl (fun E C hR => ?_)
  unfold wX11_many at h
  refine g_aload_n C dX11_many_0 0 rfl ?_
  refine g_iconst (v := 0) C dX11_many_1 rfl ?_
  refine g_put C inX11 tyX11 tyX11_ok nmX11 0 rfl rfl 0 (by decide) wF_X11_89 rfl rfl rfl (Nat.le_of_ble_eq_true rfl) (ws' := [oX11 h0 0 (v_tape) taped (v_number) (v_isTold) (v_name) (v_sortOf) (v_first) (v_second) (v_degree) (v_colours) (v_signBy) (v_own) lines size atF place sort value fault faultPlace lastFault lastPlace (.ref q_sF) (v_kept) undoable hasImage (v_power) (v_table) (.ref q_marks) (.ref q_row) rowOf areSums isSieved (v_lastOf) blocks (v_inBlock) (v_atQuotient) (v_small) drawn, aI Y q_sF 74 sF, aI Y q_marks 6251 marks, aI Y q_row 200001 row]) rfl dX11_many_2 ?_
  refine g_iload_n C dX11_many_5 1 rfl ?_
  refine g_if_lt (tgt := 23) C dX11_many_6 (by decide) (fun c_1 => ?_) (fun c_1 => ?_)
  · replace h := h.1 c_1
    refine g_iconst (v := (-1)) C dX11_many_23 rfl ?_
    exact g_iret C hR (Nat.le_of_ble_eq_true rfl) (Nat.le_of_ble_eq_true rfl) dX11_many_24 ⟨(-1), 0, rowOf, row, rfl, rfl, h⟩
  · replace h := h.2 c_1
    refine g_iload_n C dX11_many_9 1 rfl ?_
    refine g_iconst (v := 1) C dX11_many_10 rfl ?_
    refine g_icmp_gt (tgt := 23) C dX11_many_11 (by decide) (fun c_2 => ?_) (fun c_2 => ?_)
    · replace h := h.1 c_2
      refine g_iconst (v := (-1)) C dX11_many_23 rfl ?_
      exact g_iret C hR (Nat.le_of_ble_eq_true rfl) (Nat.le_of_ble_eq_true rfl) dX11_many_24 ⟨(-1), 0, rowOf, row, rfl, rfl, h⟩
    · replace h := h.2 c_2
      refine g_aload_n C dX11_many_14 0 rfl ?_
      refine g_iload_n C dX11_many_15 2 rfl ?_
      refine g_iconst (v := 0) C dX11_many_16 rfl ?_
      obtain ⟨P_1, hP, h⟩ := h
      refine g_callV (As := [.int a2, .int 0]) (rest := []) C (mX11_isIn l D Y h0 0 v_tape taped v_number v_isTold v_name v_sortOf v_first v_second v_degree v_colours v_signBy v_own lines size atF place sort value fault faultPlace lastFault lastPlace q_sF v_kept undoable hasImage v_power v_table (.ref q_marks) (.ref q_row) rowOf areSums isSieved v_lastOf blocks v_inBlock v_atQuotient v_small drawn sF a2 0 P_1 hP) dX11_many_17 rfl wM_X11_282 wI_X11_isIn wV_X11_isIn wN_X11 wC_X11_isIn (n := 2) (by decide +kernel) rfl (q0 := 0) rfl rfl ⟨Nat.le_of_ble_eq_true rfl, Nat.le_of_ble_eq_true rfl⟩ ⟨Nat.le_of_ble_eq_true rfl, Nat.le_of_ble_eq_true rfl⟩ (Nat.le_of_ble_eq_true rfl) [0, 1] [2, 3] rfl rfl rfl (fun v wc hv => ?_)
      obtain ⟨rF_1, rfl, rfl, hq⟩ := hv
      replace h := h rF_1 hq
      refine gG.perm (ws' := [oX11 h0 0 (v_tape) taped (v_number) (v_isTold) (v_name) (v_sortOf) (v_first) (v_second) (v_degree) (v_colours) (v_signBy) (v_own) lines size atF place sort value fault faultPlace lastFault lastPlace (.ref q_sF) (v_kept) undoable hasImage (v_power) (v_table) (.ref q_marks) (.ref q_row) rowOf areSums isSieved (v_lastOf) blocks (v_inBlock) (v_atQuotient) (v_small) drawn, aI Y q_sF 74 sF, aI Y q_marks 6251 marks, aI Y q_row 200001 row]) [2, 3, 0, 1] rfl rfl ?_
      refine g_if_ne (tgt := 25) C dX11_many_20 (by decide) (fun c_3 => ?_) (fun c_3 => ?_)
      · replace h := h.1 c_3
        refine g_aload_n C dX11_many_25 0 rfl ?_
        refine g_iload_n C dX11_many_26 1 rfl ?_
        refine g_iload_n C dX11_many_27 2 rfl ?_
        obtain ⟨P_2, hP, h⟩ := h
        refine g_callV (As := [.int a1, .int a2]) (rest := []) C (mX11_laysKinds l D Y h0 0 v_tape taped v_number v_isTold v_name v_sortOf v_first v_second v_degree v_colours v_signBy v_own lines size atF place sort value fault faultPlace lastFault lastPlace (.ref q_sF) v_kept undoable hasImage v_power v_table q_marks q_row rowOf areSums isSieved v_lastOf blocks v_inBlock v_atQuotient v_small drawn marks row a1 a2 P_2 hP) dX11_many_28 rfl wM_X11_340 wI_X11_laysKinds wV_X11_laysKinds wN_X11 wC_X11_laysKinds (n := 2) (by decide +kernel) rfl (q0 := 0) rfl rfl ⟨Nat.le_of_ble_eq_true rfl, Nat.le_of_ble_eq_true rfl⟩ ⟨Nat.le_of_ble_eq_true rfl, Nat.le_of_ble_eq_true rfl⟩ (Nat.le_of_ble_eq_true rfl) [0, 2, 3] [1] rfl rfl rfl (fun v wc hv => ?_)
        obtain ⟨rowOf_1, row_1, rfl, rfl, hq⟩ := hv
        replace h := h rowOf_1 row_1 hq
        refine gG.perm (ws' := [oX11 h0 0 (v_tape) taped (v_number) (v_isTold) (v_name) (v_sortOf) (v_first) (v_second) (v_degree) (v_colours) (v_signBy) (v_own) lines size atF place sort value fault faultPlace lastFault lastPlace (.ref q_sF) (v_kept) undoable hasImage (v_power) (v_table) (.ref q_marks) (.ref q_row) rowOf_1 areSums isSieved (v_lastOf) blocks (v_inBlock) (v_atQuotient) (v_small) drawn, aI Y q_sF 74 sF, aI Y q_marks 6251 marks, aI Y q_row 200001 row_1]) [1, 0, 2, 3] rfl rfl ?_
        refine g_iconst (v := 0) C dX11_many_31 rfl ?_
        refine g_istore_n (lv' := [(3, .int 0), (0, .ref h0), (1, .int a1), (2, .int a2)]) C dX11_many_32 (by decide) rfl ?_
        refine g_iconst (v := 1) C dX11_many_33 rfl ?_
        refine g_istore (lv' := [(4, .int 1), (3, .int 0), (0, .ref h0), (1, .int a1), (2, .int a2)]) C dX11_many_34 (by decide) rfl ?_
        obtain ⟨Inv_1, Mea_1, hI1, hB1⟩ := h
        have key_1 : ∀ (n : Nat) (x3_1 : Int32) (x4_1 : Int32) , Mea_1 x3_1 x4_1 < n → Inv_1 x3_1 x4_1 → gG E 0 0 [oX11 h0 0 (v_tape) taped (v_number) (v_isTold) (v_name) (v_sortOf) (v_first) (v_second) (v_degree) (v_colours) (v_signBy) (v_own) lines size atF place sort value fault faultPlace lastFault lastPlace (.ref q_sF) (v_kept) undoable hasImage (v_power) (v_table) (.ref q_marks) (.ref q_row) rowOf_1 areSums isSieved (v_lastOf) blocks (v_inBlock) (v_atQuotient) (v_small) drawn, aI Y q_sF 74 sF, aI Y q_marks 6251 marks, aI Y q_row 200001 row_1] [(0, .ref h0), (2, .int a2), (3, .int x3_1), (4, .int x4_1)] [] 36 := by
          intro n
          induction n with
          | zero => exact fun _ _ hm => absurd hm (Nat.not_lt_zero _)
          | succ n ih1 =>
            intro x3_1 x4_1  hm1 hI
            have h := hB1 x3_1 x4_1 hI
            refine g_iload C dX11_many_36 3 rfl ?_
            refine g_iload_n C dX11_many_38 1 rfl ?_
            refine g_icmp_gt (tgt := 58) C dX11_many_39 (by decide) (fun c_4 => ?_) (fun c_4 => ?_)
            · replace h := h.1 c_4
              refine g_iload_n C dX11_many_58 2 rfl ?_
              exact g_iret C hR (Nat.le_of_ble_eq_true rfl) (Nat.le_of_ble_eq_true rfl) dX11_many_59 ⟨x3_1, 0, rowOf_1, row_1, rfl, rfl, h⟩
            · replace h := h.2 c_4
              refine g_iload_n C dX11_many_42 2 rfl ?_
              refine g_aload_n C dX11_many_43 0 rfl ?_
              refine g_get C inX11 0 rfl rfl 30 (by decide) wF_X11_65 rfl dX11_many_44 ?_
              refine g_iload C dX11_many_47 3 rfl ?_
              obtain ⟨hc_1, h⟩ := h
              refine g_iald C 3 rfl hc_1 dX11_many_49 ?_
              refine g_iadd C dX11_many_50 ?_
              refine g_topi (fun x3_2 ex3_2 => ?_)
              replace h := h x3_2 ex3_2
              refine g_istore_n (lv' := [(3, .int x3_2), (0, .ref h0), (2, .int a2), (4, .int x4_1)]) C dX11_many_51 (by decide) rfl ?_
              refine g_iinc (v := x4_1 + 1) (lv' := [(4, .int (x4_1 + 1)), (3, .int x3_2), (0, .ref h0), (2, .int a2)]) C dX11_many_52 3 rfl rfl (by decide) rfl ?_
              refine g_goto (tgt := 36) C dX11_many_55 (by decide) ?_
              refine gG.locals (lv' := [(0, .ref h0), (2, .int a2), (3, .int x3_2), (4, .int (x4_1 + 1))]) [2, 3, 1, 0] rfl ?_
              exact ih1 x3_2 (x4_1 + 1) (Nat.lt_of_lt_of_le h.2 (Nat.le_of_lt_succ hm1)) h.1
        refine gG.locals (lv' := [(0, .ref h0), (2, .int a2), (3, .int 0), (4, .int 1)]) [2, 4, 1, 0] rfl ?_
        exact key_1 (Mea_1 0 1 + 1) 0 1 (Nat.lt_succ_self _) hI1
      · replace h := h.2 c_3
        refine g_iconst (v := (-1)) C dX11_many_23 rfl ?_
        exact g_iret C hR (Nat.le_of_ble_eq_true rfl) (Nat.le_of_ble_eq_true rfl) dX11_many_24 ⟨(-1), 0, rowOf, row, rfl, rfl, h⟩
theorem dX11_full_0 : decode cX11_full 0 = .ok (.aload_n 0, 1) := by decide +kernel
theorem dX11_full_1 : decode cX11_full 1 = .ok (.iconst 0, 1) := by decide +kernel
theorem dX11_full_2 : decode cX11_full 2 = .ok (.putfield 89, 3) := by decide +kernel
theorem dX11_full_5 : decode cX11_full 5 = .ok (.iload_n 1, 1) := by decide +kernel
theorem dX11_full_6 : decode cX11_full 6 = .ok (.ifCond .ge 5, 3) := by decide +kernel
theorem dX11_full_9 : decode cX11_full 9 = .ok (.iconst (-1), 1) := by decide +kernel
theorem dX11_full_10 : decode cX11_full 10 = .ok (.ireturn, 1) := by decide +kernel
theorem dX11_full_11 : decode cX11_full 11 = .ok (.aload_n 0, 1) := by decide +kernel
theorem dX11_full_12 : decode cX11_full 12 = .ok (.iconst 1, 1) := by decide +kernel
theorem dX11_full_13 : decode cX11_full 13 = .ok (.aload_n 0, 1) := by decide +kernel
theorem dX11_full_14 : decode cX11_full 14 = .ok (.getfield 48, 3) := by decide +kernel
theorem dX11_full_17 : decode cX11_full 17 = .ok (.iconst 0, 1) := by decide +kernel
theorem dX11_full_18 : decode cX11_full 18 = .ok (.iaload, 1) := by decide +kernel
theorem dX11_full_19 : decode cX11_full 19 = .ok (.invokevirtual 340, 3) := by decide +kernel
theorem dX11_full_22 : decode cX11_full 22 = .ok (.iload_n 1, 1) := by decide +kernel
theorem dX11_full_23 : decode cX11_full 23 = .ok (.istore_n 2, 1) := by decide +kernel
theorem dX11_full_24 : decode cX11_full 24 = .ok (.iconst 1, 1) := by decide +kernel
theorem dX11_full_25 : decode cX11_full 25 = .ok (.istore_n 3, 1) := by decide +kernel
theorem dX11_full_26 : decode cX11_full 26 = .ok (.iload_n 3, 1) := by decide +kernel
theorem dX11_full_27 : decode cX11_full 27 = .ok (.aload_n 0, 1) := by decide +kernel
theorem dX11_full_28 : decode cX11_full 28 = .ok (.getfield 48, 3) := by decide +kernel
theorem dX11_full_31 : decode cX11_full 31 = .ok (.iconst 0, 1) := by decide +kernel
theorem dX11_full_32 : decode cX11_full 32 = .ok (.iaload, 1) := by decide +kernel
theorem dX11_full_33 : decode cX11_full 33 = .ok (.if_icmp .gt 30, 3) := by decide +kernel
theorem dX11_full_36 : decode cX11_full 36 = .ok (.aload_n 0, 1) := by decide +kernel
theorem dX11_full_37 : decode cX11_full 37 = .ok (.getfield 65, 3) := by decide +kernel
theorem dX11_full_40 : decode cX11_full 40 = .ok (.iload_n 3, 1) := by decide +kernel
theorem dX11_full_41 : decode cX11_full 41 = .ok (.iaload, 1) := by decide +kernel
theorem dX11_full_42 : decode cX11_full 42 = .ok (.ifCond .ne 6, 3) := by decide +kernel
theorem dX11_full_45 : decode cX11_full 45 = .ok (.goto 12, 3) := by decide +kernel
theorem dX11_full_48 : decode cX11_full 48 = .ok (.iload_n 2, 1) := by decide +kernel
theorem dX11_full_49 : decode cX11_full 49 = .ok (.ifCond .ne 5, 3) := by decide +kernel
theorem dX11_full_52 : decode cX11_full 52 = .ok (.iload_n 3, 1) := by decide +kernel
theorem dX11_full_53 : decode cX11_full 53 = .ok (.ireturn, 1) := by decide +kernel
theorem dX11_full_54 : decode cX11_full 54 = .ok (.iinc 2 (-1), 3) := by decide +kernel
theorem dX11_full_57 : decode cX11_full 57 = .ok (.iinc 3 1, 3) := by decide +kernel
theorem dX11_full_60 : decode cX11_full 60 = .ok (.goto (-34), 3) := by decide +kernel
theorem dX11_full_63 : decode cX11_full 63 = .ok (.bipush (-2), 2) := by decide +kernel
theorem dX11_full_65 : decode cX11_full 65 = .ok (.ireturn, 1) := by decide +kernel
/-- QuotientSumsModel.full(I)I -/
def wX11_full (thrown : Int32) (taped : Int32) (lines : Int32) (size : Int32) (atF : Int32) (place : Int32) (sort : Int32) (value : Int32) (fault : Int32) (faultPlace : Int32) (lastFault : Int32) (lastPlace : Int32) (undoable : Int32) (hasImage : Int32) (rowOf : Int32) (areSums : Int32) (isSieved : Int32) (blocks : Int32) (drawn : Int32) (sF : Nat → Int32) (marks : Nat → Int32) (row : Nat → Int32) (a1 : Int32) (Q : (Int32) → (Int32) → (Int32) → (Nat → Int32) → Prop) : Prop :=
  ((0 ≤ a1 → (∃ (P_1 : (Int32) → (Nat → Int32) → Prop), wX11_laysKinds 0 taped lines size atF place sort value fault faultPlace lastFault lastPlace undoable hasImage rowOf areSums isSieved blocks drawn marks row 1 (sF 0) P_1 ∧ ∀ (rowOf_1 : Int32) (row_1 : Nat → Int32), P_1 rowOf_1 row_1 → (∃ (Inv_1 : (Int32) → (Int32) → Prop) (Mea_1 : (Int32) → (Int32) → Nat), Inv_1 a1 1 ∧ ∀ (x2_1 : Int32) (x3_1 : Int32), Inv_1 x2_1 x3_1 → (((sF 0) < x3_1 → (Q (-2) 0 rowOf_1 row_1)) ∧ (¬ (sF 0) < x3_1 → (vp_in x3_1 200001 ∧ ((¬ (row_1 x3_1.toNatClampNeg) = 0 → ((¬ x2_1 = 0 → (Inv_1 (x2_1 + (-1)) (x3_1 + 1) ∧ Mea_1 (x2_1 + (-1)) (x3_1 + 1) < Mea_1 x2_1 x3_1)) ∧ (x2_1 = 0 → (Q x3_1 0 rowOf_1 row_1)))) ∧ ((row_1 x3_1.toNatClampNeg) = 0 → (Inv_1 x2_1 (x3_1 + 1) ∧ Mea_1 x2_1 (x3_1 + 1) < Mea_1 x2_1 x3_1))))))))) ∧ (¬ 0 ≤ a1 → (Q (-1) 0 rowOf row)))
set_option maxHeartbeats 4000000 in
set_option maxRecDepth 100000 in
theorem mX11_full (l : Launch) (D : va_G) (Y : Nat → ClassId) (h0 : Nat) (thrown : Int32) (v_tape : Value) (taped : Int32) (v_number : Value) (v_isTold : Value) (v_name : Value) (v_sortOf : Value) (v_first : Value) (v_second : Value) (v_degree : Value) (v_colours : Value) (v_signBy : Value) (v_own : Value) (lines : Int32) (size : Int32) (atF : Int32) (place : Int32) (sort : Int32) (value : Int32) (fault : Int32) (faultPlace : Int32) (lastFault : Int32) (lastPlace : Int32) (q_sF : Nat) (v_kept : Value) (undoable : Int32) (hasImage : Int32) (v_power : Value) (v_table : Value) (q_marks : Nat) (q_row : Nat) (rowOf : Int32) (areSums : Int32) (isSieved : Int32) (v_lastOf : Value) (blocks : Int32) (v_inBlock : Value) (v_atQuotient : Value) (v_small : Value) (drawn : Int32) (sF : Nat → Int32) (marks : Nat → Int32) (row : Nat → Int32) (a1 : Int32) (Q : (Int32) → (Int32) → (Int32) → (Nat → Int32) → Prop) (h : wX11_full thrown taped lines size atF place sort value fault faultPlace lastFault lastPlace undoable hasImage rowOf areSums isSieved blocks drawn sF marks row a1 Q) : gM l D Y yX11_full cX11_full 4 (some .int) 2 46 0 0 [.ref h0, .int a1] [oX11 h0 thrown (v_tape) taped (v_number) (v_isTold) (v_name) (v_sortOf) (v_first) (v_second) (v_degree) (v_colours) (v_signBy) (v_own) lines size atF place sort value fault faultPlace lastFault lastPlace (.ref q_sF) (v_kept) undoable hasImage (v_power) (v_table) (.ref q_marks) (.ref q_row) rowOf areSums isSieved (v_lastOf) blocks (v_inBlock) (v_atQuotient) (v_small) drawn, aI Y q_sF 74 sF, aI Y q_marks 6251 marks, aI Y q_row 200001 row] (fun v w => ∃ r : Int32, ∃ thrown' : Int32, ∃ rowOf' : Int32, ∃ row' : Nat → Int32, v = some (.int r) ∧ w = [oX11 h0 thrown' (v_tape) taped (v_number) (v_isTold) (v_name) (v_sortOf) (v_first) (v_second) (v_degree) (v_colours) (v_signBy) (v_own) lines size atF place sort value fault faultPlace lastFault lastPlace (.ref q_sF) (v_kept) undoable hasImage (v_power) (v_table) (.ref q_marks) (.ref q_row) rowOf' areSums isSieved (v_lastOf) blocks (v_inBlock) (v_atQuotient) (v_small) drawn, aI Y q_sF 74 sF, aI Y q_marks 6251 marks, aI Y q_row 200001 row'] ∧ Q r thrown' rowOf' row') := by
  refine gM_of (own := RX11) (by decide +kernel) rfl (Nat.le_of_ble_eq_true rfl) rfl (fun E C hR => ?_)
  unfold wX11_full at h
  refine g_aload_n C dX11_full_0 0 rfl ?_
  refine g_iconst (v := 0) C dX11_full_1 rfl ?_
  refine g_put C inX11 tyX11 tyX11_ok nmX11 0 rfl rfl 0 (by decide) wF_X11_89 rfl rfl rfl (Nat.le_of_ble_eq_true rfl) (ws' := [oX11 h0 0 (v_tape) taped (v_number) (v_isTold) (v_name) (v_sortOf) (v_first) (v_second) (v_degree) (v_colours) (v_signBy) (v_own) lines size atF place sort value fault faultPlace lastFault lastPlace (.ref q_sF) (v_kept) undoable hasImage (v_power) (v_table) (.ref q_marks) (.ref q_row) rowOf areSums isSieved (v_lastOf) blocks (v_inBlock) (v_atQuotient) (v_small) drawn, aI Y q_sF 74 sF, aI Y q_marks 6251 marks, aI Y q_row 200001 row]) rfl dX11_full_2 ?_
  refine g_iload_n C dX11_full_5 1 rfl ?_
  refine g_if_ge (tgt := 11) C dX11_full_6 (by decide) (fun c_1 => ?_) (fun c_1 => ?_)
  · replace h := h.1 c_1
    refine g_aload_n C dX11_full_11 0 rfl ?_
    refine g_iconst (v := 1) C dX11_full_12 rfl ?_
    refine g_aload_n C dX11_full_13 0 rfl ?_
    refine g_get C inX11 0 rfl rfl 23 (by decide) wF_X11_48 rfl dX11_full_14 ?_
    refine g_iconst (v := 0) C dX11_full_17 rfl ?_
    refine g_iald C 1 rfl (by unfold vp_in; decide) dX11_full_18 ?_
    obtain ⟨P_1, hP, h⟩ := h
    refine g_callV (As := [.int 1, .int (sF 0)]) (rest := []) C (mX11_laysKinds l D Y h0 0 v_tape taped v_number v_isTold v_name v_sortOf v_first v_second v_degree v_colours v_signBy v_own lines size atF place sort value fault faultPlace lastFault lastPlace (.ref q_sF) v_kept undoable hasImage v_power v_table q_marks q_row rowOf areSums isSieved v_lastOf blocks v_inBlock v_atQuotient v_small drawn marks row 1 (sF 0) P_1 hP) dX11_full_19 rfl wM_X11_340 wI_X11_laysKinds wV_X11_laysKinds wN_X11 wC_X11_laysKinds (n := 2) (by decide +kernel) rfl (q0 := 0) rfl rfl ⟨Nat.le_of_ble_eq_true rfl, Nat.le_of_ble_eq_true rfl⟩ ⟨Nat.le_of_ble_eq_true rfl, Nat.le_of_ble_eq_true rfl⟩ (Nat.le_of_ble_eq_true rfl) [0, 2, 3] [1] rfl rfl rfl (fun v wc hv => ?_)
    obtain ⟨rowOf_1, row_1, rfl, rfl, hq⟩ := hv
    replace h := h rowOf_1 row_1 hq
    refine gG.perm (ws' := [oX11 h0 0 (v_tape) taped (v_number) (v_isTold) (v_name) (v_sortOf) (v_first) (v_second) (v_degree) (v_colours) (v_signBy) (v_own) lines size atF place sort value fault faultPlace lastFault lastPlace (.ref q_sF) (v_kept) undoable hasImage (v_power) (v_table) (.ref q_marks) (.ref q_row) rowOf_1 areSums isSieved (v_lastOf) blocks (v_inBlock) (v_atQuotient) (v_small) drawn, aI Y q_sF 74 sF, aI Y q_marks 6251 marks, aI Y q_row 200001 row_1]) [1, 0, 2, 3] rfl rfl ?_
    refine g_iload_n C dX11_full_22 1 rfl ?_
    refine g_istore_n (lv' := [(2, .int a1), (0, .ref h0), (1, .int a1)]) C dX11_full_23 (by decide) rfl ?_
    refine g_iconst (v := 1) C dX11_full_24 rfl ?_
    refine g_istore_n (lv' := [(3, .int 1), (2, .int a1), (0, .ref h0), (1, .int a1)]) C dX11_full_25 (by decide) rfl ?_
    obtain ⟨Inv_1, Mea_1, hI1, hB1⟩ := h
    have key_1 : ∀ (n : Nat) (x2_1 : Int32) (x3_1 : Int32) , Mea_1 x2_1 x3_1 < n → Inv_1 x2_1 x3_1 → gG E 0 0 [oX11 h0 0 (v_tape) taped (v_number) (v_isTold) (v_name) (v_sortOf) (v_first) (v_second) (v_degree) (v_colours) (v_signBy) (v_own) lines size atF place sort value fault faultPlace lastFault lastPlace (.ref q_sF) (v_kept) undoable hasImage (v_power) (v_table) (.ref q_marks) (.ref q_row) rowOf_1 areSums isSieved (v_lastOf) blocks (v_inBlock) (v_atQuotient) (v_small) drawn, aI Y q_sF 74 sF, aI Y q_marks 6251 marks, aI Y q_row 200001 row_1] [(0, .ref h0), (2, .int x2_1), (3, .int x3_1)] [] 26 := by
      intro n
      induction n with
      | zero => exact fun _ _ hm => absurd hm (Nat.not_lt_zero _)
      | succ n ih1 =>
        intro x2_1 x3_1  hm1 hI
        have h := hB1 x2_1 x3_1 hI
        refine g_iload_n C dX11_full_26 2 rfl ?_
        refine g_aload_n C dX11_full_27 0 rfl ?_
        refine g_get C inX11 0 rfl rfl 23 (by decide) wF_X11_48 rfl dX11_full_28 ?_
        refine g_iconst (v := 0) C dX11_full_31 rfl ?_
        refine g_iald C 1 rfl (by unfold vp_in; decide) dX11_full_32 ?_
        refine g_icmp_gt (tgt := 63) C dX11_full_33 (by decide) (fun c_2 => ?_) (fun c_2 => ?_)
        · replace h := h.1 c_2
          refine g_bipush (v := (-2)) C dX11_full_63 rfl ?_
          exact g_iret C hR (Nat.le_of_ble_eq_true rfl) (Nat.le_of_ble_eq_true rfl) dX11_full_65 ⟨(-2), 0, rowOf_1, row_1, rfl, rfl, h⟩
        · replace h := h.2 c_2
          refine g_aload_n C dX11_full_36 0 rfl ?_
          refine g_get C inX11 0 rfl rfl 30 (by decide) wF_X11_65 rfl dX11_full_37 ?_
          refine g_iload_n C dX11_full_40 2 rfl ?_
          obtain ⟨hc_1, h⟩ := h
          refine g_iald C 3 rfl hc_1 dX11_full_41 ?_
          refine g_if_ne (tgt := 48) C dX11_full_42 (by decide) (fun c_3 => ?_) (fun c_3 => ?_)
          · replace h := h.1 c_3
            refine g_iload_n C dX11_full_48 1 rfl ?_
            refine g_if_ne (tgt := 54) C dX11_full_49 (by decide) (fun c_4 => ?_) (fun c_4 => ?_)
            · replace h := h.1 c_4
              refine g_iinc (v := x2_1 + (-1)) (lv' := [(2, .int (x2_1 + (-1))), (0, .ref h0), (3, .int x3_1)]) C dX11_full_54 1 rfl rfl (by decide) rfl ?_
              refine g_iinc (v := x3_1 + 1) (lv' := [(3, .int (x3_1 + 1)), (2, .int (x2_1 + (-1))), (0, .ref h0)]) C dX11_full_57 2 rfl rfl (by decide) rfl ?_
              refine g_goto (tgt := 26) C dX11_full_60 (by decide) ?_
              refine gG.locals (lv' := [(0, .ref h0), (2, .int (x2_1 + (-1))), (3, .int (x3_1 + 1))]) [2, 1, 0] rfl ?_
              exact ih1 (x2_1 + (-1)) (x3_1 + 1) (Nat.lt_of_lt_of_le h.2 (Nat.le_of_lt_succ hm1)) h.1
            · replace h := h.2 c_4
              refine g_iload_n C dX11_full_52 2 rfl ?_
              exact g_iret C hR (Nat.le_of_ble_eq_true rfl) (Nat.le_of_ble_eq_true rfl) dX11_full_53 ⟨x3_1, 0, rowOf_1, row_1, rfl, rfl, h⟩
          · replace h := h.2 c_3
            refine g_goto (tgt := 57) C dX11_full_45 (by decide) ?_
            refine g_iinc (v := x3_1 + 1) (lv' := [(3, .int (x3_1 + 1)), (0, .ref h0), (2, .int x2_1)]) C dX11_full_57 2 rfl rfl (by decide) rfl ?_
            refine g_goto (tgt := 26) C dX11_full_60 (by decide) ?_
            refine gG.locals (lv' := [(0, .ref h0), (2, .int x2_1), (3, .int (x3_1 + 1))]) [1, 2, 0] rfl ?_
            exact ih1 x2_1 (x3_1 + 1) (Nat.lt_of_lt_of_le h.2 (Nat.le_of_lt_succ hm1)) h.1
    refine gG.locals (lv' := [(0, .ref h0), (2, .int a1), (3, .int 1)]) [2, 1, 0] rfl ?_
    exact key_1 (Mea_1 a1 1 + 1) a1 1 (Nat.lt_succ_self _) hI1
  · replace h := h.2 c_1
    refine g_iconst (v := (-1)) C dX11_full_9 rfl ?_
    exact g_iret C hR (Nat.le_of_ble_eq_true rfl) (Nat.le_of_ble_eq_true rfl) dX11_full_10 ⟨(-1), 0, rowOf, row, rfl, rfl, h⟩
theorem dX11_fullSum_0 : decode cX11_fullSum 0 = .ok (.aload_n 0, 1) := by decide +kernel
theorem dX11_fullSum_1 : decode cX11_fullSum 1 = .ok (.iconst 0, 1) := by decide +kernel
theorem dX11_fullSum_2 : decode cX11_fullSum 2 = .ok (.putfield 89, 3) := by decide +kernel
theorem dX11_fullSum_5 : decode cX11_fullSum 5 = .ok (.aload_n 0, 1) := by decide +kernel
theorem dX11_fullSum_6 : decode cX11_fullSum 6 = .ok (.iload_n 1, 1) := by decide +kernel
theorem dX11_fullSum_7 : decode cX11_fullSum 7 = .ok (.invokevirtual 241, 3) := by decide +kernel
theorem dX11_fullSum_10 : decode cX11_fullSum 10 = .ok (.ifCond .eq 12, 3) := by decide +kernel
theorem dX11_fullSum_13 : decode cX11_fullSum 13 = .ok (.aload_n 0, 1) := by decide +kernel
theorem dX11_fullSum_14 : decode cX11_fullSum 14 = .ok (.iload_n 2, 1) := by decide +kernel
theorem dX11_fullSum_15 : decode cX11_fullSum 15 = .ok (.iconst 0, 1) := by decide +kernel
theorem dX11_fullSum_16 : decode cX11_fullSum 16 = .ok (.invokevirtual 282, 3) := by decide +kernel
theorem dX11_fullSum_19 : decode cX11_fullSum 19 = .ok (.ifCond .ne 5, 3) := by decide +kernel
theorem dX11_fullSum_22 : decode cX11_fullSum 22 = .ok (.iconst (-1), 1) := by decide +kernel
theorem dX11_fullSum_23 : decode cX11_fullSum 23 = .ok (.ireturn, 1) := by decide +kernel
theorem dX11_fullSum_24 : decode cX11_fullSum 24 = .ok (.aload_n 0, 1) := by decide +kernel
theorem dX11_fullSum_25 : decode cX11_fullSum 25 = .ok (.iconst 1, 1) := by decide +kernel
theorem dX11_fullSum_26 : decode cX11_fullSum 26 = .ok (.iload_n 2, 1) := by decide +kernel
theorem dX11_fullSum_27 : decode cX11_fullSum 27 = .ok (.invokevirtual 340, 3) := by decide +kernel
theorem dX11_fullSum_30 : decode cX11_fullSum 30 = .ok (.lconst 0, 1) := by decide +kernel
theorem dX11_fullSum_31 : decode cX11_fullSum 31 = .ok (.lstore_n 3, 1) := by decide +kernel
theorem dX11_fullSum_32 : decode cX11_fullSum 32 = .ok (.iconst 1, 1) := by decide +kernel
theorem dX11_fullSum_33 : decode cX11_fullSum 33 = .ok (.istore 5, 2) := by decide +kernel
theorem dX11_fullSum_35 : decode cX11_fullSum 35 = .ok (.iload 5, 2) := by decide +kernel
theorem dX11_fullSum_37 : decode cX11_fullSum 37 = .ok (.iload_n 2, 1) := by decide +kernel
theorem dX11_fullSum_38 : decode cX11_fullSum 38 = .ok (.if_icmp .gt 30, 3) := by decide +kernel
theorem dX11_fullSum_41 : decode cX11_fullSum 41 = .ok (.aload_n 0, 1) := by decide +kernel
theorem dX11_fullSum_42 : decode cX11_fullSum 42 = .ok (.getfield 65, 3) := by decide +kernel
theorem dX11_fullSum_45 : decode cX11_fullSum 45 = .ok (.iload 5, 2) := by decide +kernel
theorem dX11_fullSum_47 : decode cX11_fullSum 47 = .ok (.iaload, 1) := by decide +kernel
theorem dX11_fullSum_48 : decode cX11_fullSum 48 = .ok (.iconst 1, 1) := by decide +kernel
theorem dX11_fullSum_49 : decode cX11_fullSum 49 = .ok (.if_icmp .ne 13, 3) := by decide +kernel
theorem dX11_fullSum_52 : decode cX11_fullSum 52 = .ok (.lload_n 3, 1) := by decide +kernel
theorem dX11_fullSum_53 : decode cX11_fullSum 53 = .ok (.aload_n 0, 1) := by decide +kernel
theorem dX11_fullSum_54 : decode cX11_fullSum 54 = .ok (.iload_n 1, 1) := by decide +kernel
theorem dX11_fullSum_55 : decode cX11_fullSum 55 = .ok (.iload 5, 2) := by decide +kernel
theorem dX11_fullSum_57 : decode cX11_fullSum 57 = .ok (.invokevirtual 286, 3) := by decide +kernel
theorem dX11_fullSum_60 : decode cX11_fullSum 60 = .ok (.ladd, 1) := by decide +kernel
theorem dX11_fullSum_61 : decode cX11_fullSum 61 = .ok (.lstore_n 3, 1) := by decide +kernel
theorem dX11_fullSum_62 : decode cX11_fullSum 62 = .ok (.iinc 5 1, 3) := by decide +kernel
theorem dX11_fullSum_65 : decode cX11_fullSum 65 = .ok (.goto (-30), 3) := by decide +kernel
theorem dX11_fullSum_68 : decode cX11_fullSum 68 = .ok (.aload_n 0, 1) := by decide +kernel
theorem dX11_fullSum_69 : decode cX11_fullSum 69 = .ok (.lload_n 3, 1) := by decide +kernel
theorem dX11_fullSum_70 : decode cX11_fullSum 70 = .ok (.invokevirtual 256, 3) := by decide +kernel
theorem dX11_fullSum_73 : decode cX11_fullSum 73 = .ok (.l2i, 1) := by decide +kernel
theorem dX11_fullSum_74 : decode cX11_fullSum 74 = .ok (.ireturn, 1) := by decide +kernel
/-- QuotientSumsModel.fullSum(II)I -/
def wX11_fullSum (thrown : Int32) (taped : Int32) (lines : Int32) (size : Int32) (atF : Int32) (place : Int32) (sort : Int32) (value : Int32) (fault : Int32) (faultPlace : Int32) (lastFault : Int32) (lastPlace : Int32) (undoable : Int32) (hasImage : Int32) (rowOf : Int32) (areSums : Int32) (isSieved : Int32) (blocks : Int32) (drawn : Int32) (number : Nat → Int32) (sF : Nat → Int32) (marks : Nat → Int32) (row : Nat → Int32) (power : Nat → Int64) (table : Nat → Int64) (sortOf : Nat → Int32) (first : Nat → Int32) (second : Nat → Int32) (signBy : Nat → Int32) (a1 : Int32) (a2 : Int32) (Q : (Int32) → (Int32) → (Int32) → (Nat → Int32) → (Nat → Int64) → (Nat → Int64) → Prop) : Prop :=
  (∃ (P_1 : (Int32) → Prop), wX11_isFunction 0 taped lines size atF place sort value fault faultPlace lastFault lastPlace undoable hasImage rowOf areSums isSieved blocks drawn number a1 P_1 ∧ ∀ (rF_1 : Int32), P_1 rF_1 → ((rF_1 = 0 → (Q (-1) 0 rowOf row power table)) ∧ (¬ rF_1 = 0 → (∃ (P_2 : (Int32) → Prop), wX11_isIn 0 taped lines size atF place sort value fault faultPlace lastFault lastPlace undoable hasImage rowOf areSums isSieved blocks drawn sF a2 0 P_2 ∧ ∀ (rF_2 : Int32), P_2 rF_2 → ((¬ rF_2 = 0 → (∃ (P_3 : (Int32) → (Nat → Int32) → Prop), wX11_laysKinds 0 taped lines size atF place sort value fault faultPlace lastFault lastPlace undoable hasImage rowOf areSums isSieved blocks drawn marks row 1 a2 P_3 ∧ ∀ (rowOf_1 : Int32) (row_1 : Nat → Int32), P_3 rowOf_1 row_1 → (∃ (Inv_1 : (Nat → Int64) → (Nat → Int64) → (Int64) → (Int32) → Prop) (Mea_1 : (Nat → Int64) → (Nat → Int64) → (Int64) → (Int32) → Nat), Inv_1 power table 0 1 ∧ ∀ (power_1 : Nat → Int64) (table_1 : Nat → Int64) (x3_1 : Int64) (x5_1 : Int32), Inv_1 power_1 table_1 x3_1 x5_1 → ((a2 < x5_1 → (∃ (P_4 : (Int64) → Prop), wX11_rest 0 taped lines size atF place sort value fault faultPlace lastFault lastPlace undoable hasImage rowOf_1 areSums isSieved blocks drawn sF x3_1 P_4 ∧ ∀ (rF_3 : Int64), P_4 rF_3 → (Q (rF_3.toInt32) 0 rowOf_1 row_1 power_1 table_1))) ∧ (¬ a2 < x5_1 → (vp_in x5_1 200001 ∧ ((¬ (row_1 x5_1.toNatClampNeg) = 1 → (Inv_1 power_1 table_1 x3_1 (x5_1 + 1) ∧ Mea_1 power_1 table_1 x3_1 (x5_1 + 1) < Mea_1 power_1 table_1 x3_1 x5_1)) ∧ ((row_1 x5_1.toNatClampNeg) = 1 → (∃ (P_5 : (Int64) → (Nat → Int64) → (Nat → Int64) → Prop), wX11_valueAt 0 taped lines size atF place sort value fault faultPlace lastFault lastPlace undoable hasImage rowOf_1 areSums isSieved blocks drawn power_1 table_1 sortOf sF first second signBy a1 x5_1 P_5 ∧ ∀ (rF_4 : Int64) (power_2 : Nat → Int64) (table_2 : Nat → Int64), P_5 rF_4 power_2 table_2 → ∀ x3_2 : Int64, x3_2 = x3_1 + rF_4 → (Inv_1 power_2 table_2 x3_2 (x5_1 + 1) ∧ Mea_1 power_2 table_2 x3_2 (x5_1 + 1) < Mea_1 power_1 table_1 x3_1 x5_1)))))))))) ∧ (rF_2 = 0 → (Q (-1) 0 rowOf row power table)))))))
set_option maxHeartbeats 4000000 in
set_option maxRecDepth 100000 in
theorem mX11_fullSum (l : Launch) (D : va_G) (Y : Nat → ClassId) (h0 : Nat) (thrown : Int32) (v_tape : Value) (taped : Int32) (q_number : Nat) (v_isTold : Value) (v_name : Value) (q_sortOf : Nat) (q_first : Nat) (q_second : Nat) (v_degree : Value) (v_colours : Value) (q_signBy : Nat) (v_own : Value) (lines : Int32) (size : Int32) (atF : Int32) (place : Int32) (sort : Int32) (value : Int32) (fault : Int32) (faultPlace : Int32) (lastFault : Int32) (lastPlace : Int32) (q_sF : Nat) (v_kept : Value) (undoable : Int32) (hasImage : Int32) (q_power : Nat) (q_table : Nat) (q_marks : Nat) (q_row : Nat) (rowOf : Int32) (areSums : Int32) (isSieved : Int32) (v_lastOf : Value) (blocks : Int32) (v_inBlock : Value) (v_atQuotient : Value) (v_small : Value) (drawn : Int32) (number : Nat → Int32) (sF : Nat → Int32) (marks : Nat → Int32) (row : Nat → Int32) (power : Nat → Int64) (table : Nat → Int64) (sortOf : Nat → Int32) (first : Nat → Int32) (second : Nat → Int32) (signBy : Nat → Int32) (a1 : Int32) (a2 : Int32) (Q : (Int32) → (Int32) → (Int32) → (Nat → Int32) → (Nat → Int64) → (Nat → Int64) → Prop) (h : wX11_fullSum thrown taped lines size atF place sort value fault faultPlace lastFault lastPlace undoable hasImage rowOf areSums isSieved blocks drawn number sF marks row power table sortOf first second signBy a1 a2 Q) : gM l D Y yX11_fullSum cX11_fullSum 6 (some .int) 3 80 0 0 [.ref h0, .int a1, .int a2] [oX11 h0 thrown (v_tape) taped (.ref q_number) (v_isTold) (v_name) (.ref q_sortOf) (.ref q_first) (.ref q_second) (v_degree) (v_colours) (.ref q_signBy) (v_own) lines size atF place sort value fault faultPlace lastFault lastPlace (.ref q_sF) (v_kept) undoable hasImage (.ref q_power) (.ref q_table) (.ref q_marks) (.ref q_row) rowOf areSums isSieved (v_lastOf) blocks (v_inBlock) (v_atQuotient) (v_small) drawn, aI Y q_number 8 number, aI Y q_sF 74 sF, aI Y q_marks 6251 marks, aI Y q_row 200001 row, aJ Y q_power 18 power, aJ Y q_table 216 table, aI Y q_sortOf 24 sortOf, aI Y q_first 24 first, aI Y q_second 24 second, aI Y q_signBy 24 signBy] (fun v w => ∃ r : Int32, ∃ thrown' : Int32, ∃ rowOf' : Int32, ∃ row' : Nat → Int32, ∃ power' : Nat → Int64, ∃ table' : Nat → Int64, v = some (.int r) ∧ w = [oX11 h0 thrown' (v_tape) taped (.ref q_number) (v_isTold) (v_name) (.ref q_sortOf) (.ref q_first) (.ref q_second) (v_degree) (v_colours) (.ref q_signBy) (v_own) lines size atF place sort value fault faultPlace lastFault lastPlace (.ref q_sF) (v_kept) undoable hasImage (.ref q_power) (.ref q_table) (.ref q_marks) (.ref q_row) rowOf' areSums isSieved (v_lastOf) blocks (v_inBlock) (v_atQuotient) (v_small) drawn, aI Y q_number 8 number, aI Y q_sF 74 sF, aI Y q_marks 6251 marks, aI Y q_row 200001 row', aJ Y q_power 18 power', aJ Y q_table 216 table', aI Y q_sortOf 24 sortOf, aI Y q_first 24 first, aI Y q_second 24 second, aI Y q_signBy 24 signBy] ∧ Q r thrown' rowOf' row' power' table') := by
  refine gM_of (own := RX11) (by decide +kernel) rfl (Nat.le_of_ble_eq_true rfl) rfl (fun E C hR => ?_)
  unfold wX11_fullSum at h
  refine g_aload_n C dX11_fullSum_0 0 rfl ?_
  refine g_iconst (v := 0) C dX11_fullSum_1 rfl ?_
  refine g_put C inX11 tyX11 tyX11_ok nmX11 0 rfl rfl 0 (by decide) wF_X11_89 rfl rfl rfl (Nat.le_of_ble_eq_true rfl) (ws' := [oX11 h0 0 (v_tape) taped (.ref q_number) (v_isTold) (v_name) (.ref q_sortOf) (.ref q_first) (.ref q_second) (v_degree) (v_colours) (.ref q_signBy) (v_own) lines size atF place sort value fault faultPlace lastFault lastPlace (.ref q_sF) (v_kept) undoable hasImage (.ref q_power) (.ref q_table) (.ref q_marks) (.ref q_row) rowOf areSums isSieved (v_lastOf) blocks (v_inBlock) (v_atQuotient) (v_small) drawn, aI Y q_number 8 number, aI Y q_sF 74 sF, aI Y q_marks 6251 marks, aI Y q_row 200001 row, aJ Y q_power 18 power, aJ Y q_table 216 table, aI Y q_sortOf 24 sortOf, aI Y q_first 24 first, aI Y q_second 24 second, aI Y q_signBy 24 signBy]) rfl dX11_fullSum_2 ?_
  refine g_aload_n C dX11_fullSum_5 0 rfl ?_
  refine g_iload_n C dX11_fullSum_6 1 rfl ?_
  obtain ⟨P_1, hP, h⟩ := h
  refine g_callV (As := [.int a1]) (rest := []) C (mX11_isFunction l D Y h0 0 v_tape taped q_number v_isTold v_name (.ref q_sortOf) (.ref q_first) (.ref q_second) v_degree v_colours (.ref q_signBy) v_own lines size atF place sort value fault faultPlace lastFault lastPlace (.ref q_sF) v_kept undoable hasImage (.ref q_power) (.ref q_table) (.ref q_marks) (.ref q_row) rowOf areSums isSieved v_lastOf blocks v_inBlock v_atQuotient v_small drawn number a1 P_1 hP) dX11_fullSum_7 rfl wM_X11_241 wI_X11_isFunction wV_X11_isFunction wN_X11 wC_X11_isFunction (n := 1) (by decide +kernel) rfl (q0 := 0) rfl rfl ⟨Nat.le_of_ble_eq_true rfl, Nat.le_of_ble_eq_true rfl⟩ ⟨Nat.le_of_ble_eq_true rfl, Nat.le_of_ble_eq_true rfl⟩ (Nat.le_of_ble_eq_true rfl) [0, 1] [2, 3, 4, 5, 6, 7, 8, 9, 10] rfl rfl rfl (fun v wc hv => ?_)
  obtain ⟨rF_1, rfl, rfl, hq⟩ := hv
  replace h := h rF_1 hq
  refine gG.perm (ws' := [oX11 h0 0 (v_tape) taped (.ref q_number) (v_isTold) (v_name) (.ref q_sortOf) (.ref q_first) (.ref q_second) (v_degree) (v_colours) (.ref q_signBy) (v_own) lines size atF place sort value fault faultPlace lastFault lastPlace (.ref q_sF) (v_kept) undoable hasImage (.ref q_power) (.ref q_table) (.ref q_marks) (.ref q_row) rowOf areSums isSieved (v_lastOf) blocks (v_inBlock) (v_atQuotient) (v_small) drawn, aI Y q_number 8 number, aI Y q_sF 74 sF, aI Y q_marks 6251 marks, aI Y q_row 200001 row, aJ Y q_power 18 power, aJ Y q_table 216 table, aI Y q_sortOf 24 sortOf, aI Y q_first 24 first, aI Y q_second 24 second, aI Y q_signBy 24 signBy]) [9, 10, 0, 1, 2, 3, 4, 5, 6, 7, 8] rfl rfl ?_
  refine g_if_eq (tgt := 22) C dX11_fullSum_10 (by decide) (fun c_1 => ?_) (fun c_1 => ?_)
  · replace h := h.1 c_1
    refine g_iconst (v := (-1)) C dX11_fullSum_22 rfl ?_
    exact g_iret C hR (Nat.le_of_ble_eq_true rfl) (Nat.le_of_ble_eq_true rfl) dX11_fullSum_23 ⟨(-1), 0, rowOf, row, power, table, rfl, rfl, h⟩
  · replace h := h.2 c_1
    refine g_aload_n C dX11_fullSum_13 0 rfl ?_
    refine g_iload_n C dX11_fullSum_14 2 rfl ?_
    refine g_iconst (v := 0) C dX11_fullSum_15 rfl ?_
    obtain ⟨P_2, hP, h⟩ := h
    refine g_callV (As := [.int a2, .int 0]) (rest := []) C (mX11_isIn l D Y h0 0 v_tape taped (.ref q_number) v_isTold v_name (.ref q_sortOf) (.ref q_first) (.ref q_second) v_degree v_colours (.ref q_signBy) v_own lines size atF place sort value fault faultPlace lastFault lastPlace q_sF v_kept undoable hasImage (.ref q_power) (.ref q_table) (.ref q_marks) (.ref q_row) rowOf areSums isSieved v_lastOf blocks v_inBlock v_atQuotient v_small drawn sF a2 0 P_2 hP) dX11_fullSum_16 rfl wM_X11_282 wI_X11_isIn wV_X11_isIn wN_X11 wC_X11_isIn (n := 2) (by decide +kernel) rfl (q0 := 0) rfl rfl ⟨Nat.le_of_ble_eq_true rfl, Nat.le_of_ble_eq_true rfl⟩ ⟨Nat.le_of_ble_eq_true rfl, Nat.le_of_ble_eq_true rfl⟩ (Nat.le_of_ble_eq_true rfl) [0, 2] [1, 3, 4, 5, 6, 7, 8, 9, 10] rfl rfl rfl (fun v wc hv => ?_)
    obtain ⟨rF_2, rfl, rfl, hq⟩ := hv
    replace h := h rF_2 hq
    refine gG.perm (ws' := [oX11 h0 0 (v_tape) taped (.ref q_number) (v_isTold) (v_name) (.ref q_sortOf) (.ref q_first) (.ref q_second) (v_degree) (v_colours) (.ref q_signBy) (v_own) lines size atF place sort value fault faultPlace lastFault lastPlace (.ref q_sF) (v_kept) undoable hasImage (.ref q_power) (.ref q_table) (.ref q_marks) (.ref q_row) rowOf areSums isSieved (v_lastOf) blocks (v_inBlock) (v_atQuotient) (v_small) drawn, aI Y q_number 8 number, aI Y q_sF 74 sF, aI Y q_marks 6251 marks, aI Y q_row 200001 row, aJ Y q_power 18 power, aJ Y q_table 216 table, aI Y q_sortOf 24 sortOf, aI Y q_first 24 first, aI Y q_second 24 second, aI Y q_signBy 24 signBy]) [9, 0, 10, 1, 2, 3, 4, 5, 6, 7, 8] rfl rfl ?_
    refine g_if_ne (tgt := 24) C dX11_fullSum_19 (by decide) (fun c_2 => ?_) (fun c_2 => ?_)
    · replace h := h.1 c_2
      refine g_aload_n C dX11_fullSum_24 0 rfl ?_
      refine g_iconst (v := 1) C dX11_fullSum_25 rfl ?_
      refine g_iload_n C dX11_fullSum_26 2 rfl ?_
      obtain ⟨P_3, hP, h⟩ := h
      refine g_callV (As := [.int 1, .int a2]) (rest := []) C (mX11_laysKinds l D Y h0 0 v_tape taped (.ref q_number) v_isTold v_name (.ref q_sortOf) (.ref q_first) (.ref q_second) v_degree v_colours (.ref q_signBy) v_own lines size atF place sort value fault faultPlace lastFault lastPlace (.ref q_sF) v_kept undoable hasImage (.ref q_power) (.ref q_table) q_marks q_row rowOf areSums isSieved v_lastOf blocks v_inBlock v_atQuotient v_small drawn marks row 1 a2 P_3 hP) dX11_fullSum_27 rfl wM_X11_340 wI_X11_laysKinds wV_X11_laysKinds wN_X11 wC_X11_laysKinds (n := 2) (by decide +kernel) rfl (q0 := 0) rfl rfl ⟨Nat.le_of_ble_eq_true rfl, Nat.le_of_ble_eq_true rfl⟩ ⟨Nat.le_of_ble_eq_true rfl, Nat.le_of_ble_eq_true rfl⟩ (Nat.le_of_ble_eq_true rfl) [0, 3, 4] [1, 2, 5, 6, 7, 8, 9, 10] rfl rfl rfl (fun v wc hv => ?_)
      obtain ⟨rowOf_1, row_1, rfl, rfl, hq⟩ := hv
      replace h := h rowOf_1 row_1 hq
      refine gG.perm (ws' := [oX11 h0 0 (v_tape) taped (.ref q_number) (v_isTold) (v_name) (.ref q_sortOf) (.ref q_first) (.ref q_second) (v_degree) (v_colours) (.ref q_signBy) (v_own) lines size atF place sort value fault faultPlace lastFault lastPlace (.ref q_sF) (v_kept) undoable hasImage (.ref q_power) (.ref q_table) (.ref q_marks) (.ref q_row) rowOf_1 areSums isSieved (v_lastOf) blocks (v_inBlock) (v_atQuotient) (v_small) drawn, aI Y q_number 8 number, aI Y q_sF 74 sF, aI Y q_marks 6251 marks, aI Y q_row 200001 row_1, aJ Y q_power 18 power, aJ Y q_table 216 table, aI Y q_sortOf 24 sortOf, aI Y q_first 24 first, aI Y q_second 24 second, aI Y q_signBy 24 signBy]) [8, 0, 1, 9, 10, 2, 3, 4, 5, 6, 7] rfl rfl ?_
      refine g_lconst (v := 0) C dX11_fullSum_30 rfl ?_
      refine g_lstore_n (lv' := [(3, .long 0), (0, .ref h0), (1, .int a1), (2, .int a2)]) C dX11_fullSum_31 (by decide) rfl ?_
      refine g_iconst (v := 1) C dX11_fullSum_32 rfl ?_
      refine g_istore (lv' := [(5, .int 1), (3, .long 0), (0, .ref h0), (1, .int a1), (2, .int a2)]) C dX11_fullSum_33 (by decide) rfl ?_
      obtain ⟨Inv_1, Mea_1, hI1, hB1⟩ := h
      have key_1 : ∀ (n : Nat) (power_1 : Nat → Int64) (table_1 : Nat → Int64) (x3_1 : Int64) (x5_1 : Int32) , Mea_1 power_1 table_1 x3_1 x5_1 < n → Inv_1 power_1 table_1 x3_1 x5_1 → gG E 0 0 [oX11 h0 0 (v_tape) taped (.ref q_number) (v_isTold) (v_name) (.ref q_sortOf) (.ref q_first) (.ref q_second) (v_degree) (v_colours) (.ref q_signBy) (v_own) lines size atF place sort value fault faultPlace lastFault lastPlace (.ref q_sF) (v_kept) undoable hasImage (.ref q_power) (.ref q_table) (.ref q_marks) (.ref q_row) rowOf_1 areSums isSieved (v_lastOf) blocks (v_inBlock) (v_atQuotient) (v_small) drawn, aI Y q_number 8 number, aI Y q_sF 74 sF, aI Y q_marks 6251 marks, aI Y q_row 200001 row_1, aJ Y q_power 18 power_1, aJ Y q_table 216 table_1, aI Y q_sortOf 24 sortOf, aI Y q_first 24 first, aI Y q_second 24 second, aI Y q_signBy 24 signBy] [(0, .ref h0), (1, .int a1), (2, .int a2), (3, .long x3_1), (5, .int x5_1)] [] 35 := by
        intro n
        induction n with
        | zero => exact fun _ _ _ _ hm => absurd hm (Nat.not_lt_zero _)
        | succ n ih1 =>
          intro power_1 table_1 x3_1 x5_1  hm1 hI
          have h := hB1 power_1 table_1 x3_1 x5_1 hI
          refine g_iload C dX11_fullSum_35 4 rfl ?_
          refine g_iload_n C dX11_fullSum_37 2 rfl ?_
          refine g_icmp_gt (tgt := 68) C dX11_fullSum_38 (by decide) (fun c_3 => ?_) (fun c_3 => ?_)
          · replace h := h.1 c_3
            refine g_aload_n C dX11_fullSum_68 0 rfl ?_
            refine g_lload_n C dX11_fullSum_69 3 rfl ?_
            obtain ⟨P_4, hP, h⟩ := h
            refine g_callV (As := [.long x3_1]) (rest := []) C (mX11_rest l D Y h0 0 v_tape taped (.ref q_number) v_isTold v_name (.ref q_sortOf) (.ref q_first) (.ref q_second) v_degree v_colours (.ref q_signBy) v_own lines size atF place sort value fault faultPlace lastFault lastPlace q_sF v_kept undoable hasImage (.ref q_power) (.ref q_table) (.ref q_marks) (.ref q_row) rowOf_1 areSums isSieved v_lastOf blocks v_inBlock v_atQuotient v_small drawn sF x3_1 P_4 hP) dX11_fullSum_70 rfl wM_X11_256 wI_X11_rest wV_X11_rest wN_X11 wC_X11_rest (n := 1) (by decide +kernel) rfl (q0 := 0) rfl rfl ⟨Nat.le_of_ble_eq_true rfl, Nat.le_of_ble_eq_true rfl⟩ ⟨Nat.le_of_ble_eq_true rfl, Nat.le_of_ble_eq_true rfl⟩ (Nat.le_of_ble_eq_true rfl) [0, 2] [1, 3, 4, 5, 6, 7, 8, 9, 10] rfl rfl rfl (fun v wc hv => ?_)
            obtain ⟨rF_3, rfl, rfl, hq⟩ := hv
            replace h := h rF_3 hq
            refine gG.perm (ws' := [oX11 h0 0 (v_tape) taped (.ref q_number) (v_isTold) (v_name) (.ref q_sortOf) (.ref q_first) (.ref q_second) (v_degree) (v_colours) (.ref q_signBy) (v_own) lines size atF place sort value fault faultPlace lastFault lastPlace (.ref q_sF) (v_kept) undoable hasImage (.ref q_power) (.ref q_table) (.ref q_marks) (.ref q_row) rowOf_1 areSums isSieved (v_lastOf) blocks (v_inBlock) (v_atQuotient) (v_small) drawn, aI Y q_number 8 number, aI Y q_sF 74 sF, aI Y q_marks 6251 marks, aI Y q_row 200001 row_1, aJ Y q_power 18 power_1, aJ Y q_table 216 table_1, aI Y q_sortOf 24 sortOf, aI Y q_first 24 first, aI Y q_second 24 second, aI Y q_signBy 24 signBy]) [9, 0, 10, 1, 2, 3, 4, 5, 6, 7, 8] rfl rfl ?_
            refine g_l2i C dX11_fullSum_73 ?_
            exact g_iret C hR (Nat.le_of_ble_eq_true rfl) (Nat.le_of_ble_eq_true rfl) dX11_fullSum_74 ⟨rF_3.toInt32, 0, rowOf_1, row_1, power_1, table_1, rfl, rfl, h⟩
          · replace h := h.2 c_3
            refine g_aload_n C dX11_fullSum_41 0 rfl ?_
            refine g_get C inX11 0 rfl rfl 30 (by decide) wF_X11_65 rfl dX11_fullSum_42 ?_
            refine g_iload C dX11_fullSum_45 4 rfl ?_
            obtain ⟨hc_1, h⟩ := h
            refine g_iald C 4 rfl hc_1 dX11_fullSum_47 ?_
            refine g_iconst (v := 1) C dX11_fullSum_48 rfl ?_
            refine g_icmp_ne (tgt := 62) C dX11_fullSum_49 (by decide) (fun c_4 => ?_) (fun c_4 => ?_)
            · replace h := h.1 c_4
              refine g_iinc (v := x5_1 + 1) (lv' := [(5, .int (x5_1 + 1)), (0, .ref h0), (1, .int a1), (2, .int a2), (3, .long x3_1)]) C dX11_fullSum_62 4 rfl rfl (by decide) rfl ?_
              refine g_goto (tgt := 35) C dX11_fullSum_65 (by decide) ?_
              refine gG.locals (lv' := [(0, .ref h0), (1, .int a1), (2, .int a2), (3, .long x3_1), (5, .int (x5_1 + 1))]) [1, 2, 3, 4, 0] rfl ?_
              exact ih1 power_1 table_1 x3_1 (x5_1 + 1) (Nat.lt_of_lt_of_le h.2 (Nat.le_of_lt_succ hm1)) h.1
            · replace h := h.2 c_4
              refine g_lload_n C dX11_fullSum_52 3 rfl ?_
              refine g_aload_n C dX11_fullSum_53 0 rfl ?_
              refine g_iload_n C dX11_fullSum_54 1 rfl ?_
              refine g_iload C dX11_fullSum_55 4 rfl ?_
              obtain ⟨P_5, hP, h⟩ := h
              refine g_callV (As := [.int a1, .int x5_1]) (rest := [.long x3_1]) C (mX11_valueAt l D Y h0 0 v_tape taped (.ref q_number) v_isTold v_name q_sortOf q_first q_second v_degree v_colours q_signBy v_own lines size atF place sort value fault faultPlace lastFault lastPlace q_sF v_kept undoable hasImage q_power q_table (.ref q_marks) (.ref q_row) rowOf_1 areSums isSieved v_lastOf blocks v_inBlock v_atQuotient v_small drawn power_1 table_1 sortOf sF first second signBy a1 x5_1 P_5 hP) dX11_fullSum_57 rfl wM_X11_286 wI_X11_valueAt wV_X11_valueAt wN_X11 wC_X11_valueAt (n := 2) (by decide +kernel) rfl (q0 := 0) rfl rfl ⟨Nat.le_of_ble_eq_true rfl, Nat.le_of_ble_eq_true rfl⟩ ⟨Nat.le_of_ble_eq_true rfl, Nat.le_of_ble_eq_true rfl⟩ (Nat.le_of_ble_eq_true rfl) [0, 5, 6, 7, 2, 8, 9, 10] [1, 3, 4] rfl rfl rfl (fun v wc hv => ?_)
              obtain ⟨rF_4, power_2, table_2, rfl, rfl, hq⟩ := hv
              replace h := h rF_4 power_2 table_2 hq
              refine gG.perm (ws' := [oX11 h0 0 (v_tape) taped (.ref q_number) (v_isTold) (v_name) (.ref q_sortOf) (.ref q_first) (.ref q_second) (v_degree) (v_colours) (.ref q_signBy) (v_own) lines size atF place sort value fault faultPlace lastFault lastPlace (.ref q_sF) (v_kept) undoable hasImage (.ref q_power) (.ref q_table) (.ref q_marks) (.ref q_row) rowOf_1 areSums isSieved (v_lastOf) blocks (v_inBlock) (v_atQuotient) (v_small) drawn, aI Y q_number 8 number, aI Y q_sF 74 sF, aI Y q_marks 6251 marks, aI Y q_row 200001 row_1, aJ Y q_power 18 power_2, aJ Y q_table 216 table_2, aI Y q_sortOf 24 sortOf, aI Y q_first 24 first, aI Y q_second 24 second, aI Y q_signBy 24 signBy]) [3, 0, 7, 1, 2, 4, 5, 6, 8, 9, 10] rfl rfl ?_
              refine g_ladd C dX11_fullSum_60 ?_
              refine g_topl (fun x3_2 ex3_2 => ?_)
              replace h := h x3_2 ex3_2
              refine g_lstore_n (lv' := [(3, .long x3_2), (0, .ref h0), (1, .int a1), (2, .int a2), (5, .int x5_1)]) C dX11_fullSum_61 (by decide) rfl ?_
              refine g_iinc (v := x5_1 + 1) (lv' := [(5, .int (x5_1 + 1)), (3, .long x3_2), (0, .ref h0), (1, .int a1), (2, .int a2)]) C dX11_fullSum_62 4 rfl rfl (by decide) rfl ?_
              refine g_goto (tgt := 35) C dX11_fullSum_65 (by decide) ?_
              refine gG.locals (lv' := [(0, .ref h0), (1, .int a1), (2, .int a2), (3, .long x3_2), (5, .int (x5_1 + 1))]) [2, 3, 4, 1, 0] rfl ?_
              exact ih1 power_2 table_2 x3_2 (x5_1 + 1) (Nat.lt_of_lt_of_le h.2 (Nat.le_of_lt_succ hm1)) h.1
      refine gG.locals (lv' := [(0, .ref h0), (1, .int a1), (2, .int a2), (3, .long 0), (5, .int 1)]) [2, 3, 4, 1, 0] rfl ?_
      exact key_1 (Mea_1 power table 0 1 + 1) power table 0 1 (Nat.lt_succ_self _) hI1
    · replace h := h.2 c_2
      refine g_iconst (v := (-1)) C dX11_fullSum_22 rfl ?_
      exact g_iret C hR (Nat.le_of_ble_eq_true rfl) (Nat.le_of_ble_eq_true rfl) dX11_fullSum_23 ⟨(-1), 0, rowOf, row, power, table, rfl, rfl, h⟩
theorem dX11_without_0 : decode cX11_without 0 = .ok (.aload_n 0, 1) := by decide +kernel
theorem dX11_without_1 : decode cX11_without 1 = .ok (.iload_n 1, 1) := by decide +kernel
theorem dX11_without_2 : decode cX11_without 2 = .ok (.invokevirtual 308, 3) := by decide +kernel
theorem dX11_without_5 : decode cX11_without 5 = .ok (.aload_n 0, 1) := by decide +kernel
theorem dX11_without_6 : decode cX11_without 6 = .ok (.invokevirtual 232, 3) := by decide +kernel
theorem dX11_without_9 : decode cX11_without 9 = .ok (.iload_n 3, 1) := by decide +kernel
theorem dX11_without_10 : decode cX11_without 10 = .ok (.iconst 2, 1) := by decide +kernel
theorem dX11_without_11 : decode cX11_without 11 = .ok (.if_icmp .ge 7, 3) := by decide +kernel
theorem dX11_without_14 : decode cX11_without 14 = .ok (.iconst 2, 1) := by decide +kernel
theorem dX11_without_15 : decode cX11_without 15 = .ok (.goto 4, 3) := by decide +kernel
theorem dX11_without_18 : decode cX11_without 18 = .ok (.iload_n 3, 1) := by decide +kernel
theorem dX11_without_19 : decode cX11_without 19 = .ok (.istore 5, 2) := by decide +kernel
theorem dX11_without_21 : decode cX11_without 21 = .ok (.iload 5, 2) := by decide +kernel
theorem dX11_without_23 : decode cX11_without 23 = .ok (.iload 4, 2) := by decide +kernel
theorem dX11_without_25 : decode cX11_without 25 = .ok (.if_icmp .gt 55, 3) := by decide +kernel
theorem dX11_without_28 : decode cX11_without 28 = .ok (.iload 5, 2) := by decide +kernel
theorem dX11_without_30 : decode cX11_without 30 = .ok (.iload_n 2, 1) := by decide +kernel
theorem dX11_without_31 : decode cX11_without 31 = .ok (.if_icmp .gt 49, 3) := by decide +kernel
theorem dX11_without_34 : decode cX11_without 34 = .ok (.aload_n 0, 1) := by decide +kernel
theorem dX11_without_35 : decode cX11_without 35 = .ok (.iload 5, 2) := by decide +kernel
theorem dX11_without_37 : decode cX11_without 37 = .ok (.invokevirtual 292, 3) := by decide +kernel
theorem dX11_without_40 : decode cX11_without 40 = .ok (.ifCond .ne 6, 3) := by decide +kernel
theorem dX11_without_43 : decode cX11_without 43 = .ok (.goto 31, 3) := by decide +kernel
theorem dX11_without_46 : decode cX11_without 46 = .ok (.iload 5, 2) := by decide +kernel
theorem dX11_without_48 : decode cX11_without 48 = .ok (.istore 6, 2) := by decide +kernel
theorem dX11_without_50 : decode cX11_without 50 = .ok (.iload 6, 2) := by decide +kernel
theorem dX11_without_52 : decode cX11_without 52 = .ok (.iload_n 2, 1) := by decide +kernel
theorem dX11_without_53 : decode cX11_without 53 = .ok (.if_icmp .gt 21, 3) := by decide +kernel
theorem dX11_without_56 : decode cX11_without 56 = .ok (.aload_n 0, 1) := by decide +kernel
theorem dX11_without_57 : decode cX11_without 57 = .ok (.getfield 65, 3) := by decide +kernel
theorem dX11_without_60 : decode cX11_without 60 = .ok (.iload 6, 2) := by decide +kernel
theorem dX11_without_62 : decode cX11_without 62 = .ok (.iconst 0, 1) := by decide +kernel
theorem dX11_without_63 : decode cX11_without 63 = .ok (.iastore, 1) := by decide +kernel
theorem dX11_without_64 : decode cX11_without 64 = .ok (.iload 6, 2) := by decide +kernel
theorem dX11_without_66 : decode cX11_without 66 = .ok (.iload 5, 2) := by decide +kernel
theorem dX11_without_68 : decode cX11_without 68 = .ok (.iadd, 1) := by decide +kernel
theorem dX11_without_69 : decode cX11_without 69 = .ok (.istore 6, 2) := by decide +kernel
theorem dX11_without_71 : decode cX11_without 71 = .ok (.goto (-21), 3) := by decide +kernel
theorem dX11_without_74 : decode cX11_without 74 = .ok (.iinc 5 1, 3) := by decide +kernel
theorem dX11_without_77 : decode cX11_without 77 = .ok (.goto (-56), 3) := by decide +kernel
theorem dX11_without_80 : decode cX11_without 80 = .ok (.lconst 0, 1) := by decide +kernel
theorem dX11_without_81 : decode cX11_without 81 = .ok (.lstore 5, 2) := by decide +kernel
theorem dX11_without_83 : decode cX11_without 83 = .ok (.iconst 1, 1) := by decide +kernel
theorem dX11_without_84 : decode cX11_without 84 = .ok (.istore 7, 2) := by decide +kernel
theorem dX11_without_86 : decode cX11_without 86 = .ok (.iload 7, 2) := by decide +kernel
theorem dX11_without_88 : decode cX11_without 88 = .ok (.iload_n 2, 1) := by decide +kernel
theorem dX11_without_89 : decode cX11_without 89 = .ok (.if_icmp .gt 22, 3) := by decide +kernel
theorem dX11_without_92 : decode cX11_without 92 = .ok (.lload 5, 2) := by decide +kernel
theorem dX11_without_94 : decode cX11_without 94 = .ok (.aload_n 0, 1) := by decide +kernel
theorem dX11_without_95 : decode cX11_without 95 = .ok (.getfield 65, 3) := by decide +kernel
theorem dX11_without_98 : decode cX11_without 98 = .ok (.iload 7, 2) := by decide +kernel
theorem dX11_without_100 : decode cX11_without 100 = .ok (.iaload, 1) := by decide +kernel
theorem dX11_without_101 : decode cX11_without 101 = .ok (.i2l, 1) := by decide +kernel
theorem dX11_without_102 : decode cX11_without 102 = .ok (.ladd, 1) := by decide +kernel
theorem dX11_without_103 : decode cX11_without 103 = .ok (.lstore 5, 2) := by decide +kernel
theorem dX11_without_105 : decode cX11_without 105 = .ok (.iinc 7 1, 3) := by decide +kernel
theorem dX11_without_108 : decode cX11_without 108 = .ok (.goto (-22), 3) := by decide +kernel
theorem dX11_without_111 : decode cX11_without 111 = .ok (.aload_n 0, 1) := by decide +kernel
theorem dX11_without_112 : decode cX11_without 112 = .ok (.lload 5, 2) := by decide +kernel
theorem dX11_without_114 : decode cX11_without 114 = .ok (.invokevirtual 256, 3) := by decide +kernel
theorem dX11_without_117 : decode cX11_without 117 = .ok (.l2i, 1) := by decide +kernel
theorem dX11_without_118 : decode cX11_without 118 = .ok (.ireturn, 1) := by decide +kernel
/-- QuotientSumsModel.without(IIII)I -/
def wX11_without (thrown : Int32) (taped : Int32) (lines : Int32) (size : Int32) (atF : Int32) (place : Int32) (sort : Int32) (value : Int32) (fault : Int32) (faultPlace : Int32) (lastFault : Int32) (lastPlace : Int32) (undoable : Int32) (hasImage : Int32) (rowOf : Int32) (areSums : Int32) (isSieved : Int32) (blocks : Int32) (drawn : Int32) (sF : Nat → Int32) (row : Nat → Int32) (marks : Nat → Int32) (power : Nat → Int64) (table : Nat → Int64) (sortOf : Nat → Int32) (first : Nat → Int32) (second : Nat → Int32) (signBy : Nat → Int32) (a1 : Int32) (a2 : Int32) (a3 : Int32) (a4 : Int32) (Q : (Int32) → (Int32) → (Int32) → (Nat → Int32) → (Nat → Int64) → (Nat → Int64) → Prop) : Prop :=
  (∃ (P_1 : (Int32) → (Int32) → (Nat → Int32) → (Nat → Int64) → (Nat → Int64) → Prop), wX11_laysValues thrown taped lines size atF place sort value fault faultPlace lastFault lastPlace undoable hasImage rowOf areSums isSieved blocks drawn sF row marks power table sortOf first second signBy a1 P_1 ∧ ∀ (rowOf_1 : Int32) (areSums_1 : Int32) (row_1 : Nat → Int32) (power_1 : Nat → Int64) (table_1 : Nat → Int64), P_1 rowOf_1 areSums_1 row_1 power_1 table_1 → ∃ (P_2 : (Int32) → Prop), wX11_forgets thrown taped lines size atF place sort value fault faultPlace lastFault lastPlace undoable hasImage rowOf_1 areSums_1 isSieved blocks drawn P_2 ∧ ∀ (rowOf_2 : Int32), P_2 rowOf_2 → (∃ (J_1 : (Int32) → Prop), ((2 ≤ a3 → (J_1 a3)) ∧ (¬ 2 ≤ a3 → (J_1 2))) ∧ (∀ (t_1 : Int32), J_1 t_1 → (∃ (Inv_1 : (Nat → Int32) → (Int32) → Prop) (Mea_1 : (Nat → Int32) → (Int32) → Nat), Inv_1 row_1 t_1 ∧ ∀ (row_2 : Nat → Int32) (x5_1 : Int32), Inv_1 row_2 x5_1 → (∃ (J_2 : Prop), ((a4 < x5_1 → (J_2)) ∧ (¬ a4 < x5_1 → ((a2 < x5_1 → (J_2)) ∧ (¬ a2 < x5_1 → (∃ (P_4 : (Int32) → Prop), wX11_isPrime thrown taped lines size atF place sort value fault faultPlace lastFault lastPlace undoable hasImage rowOf_2 areSums_1 isSieved blocks drawn marks x5_1 P_4 ∧ ∀ (rF_2 : Int32), P_4 rF_2 → ((¬ rF_2 = 0 → (∃ (Inv_3 : (Nat → Int32) → (Int32) → Prop) (Mea_3 : (Nat → Int32) → (Int32) → Nat), Inv_3 row_2 x5_1 ∧ ∀ (row_3 : Nat → Int32) (x6_1 : Int32), Inv_3 row_3 x6_1 → ((a2 < x6_1 → (Inv_1 row_3 (x5_1 + 1) ∧ Mea_1 row_3 (x5_1 + 1) < Mea_1 row_2 x5_1)) ∧ (¬ a2 < x6_1 → (vp_in x6_1 200001 ∧ ∀ row_4 : Nat → Int32, row_4 = upd row_3 x6_1.toNatClampNeg 0 → ∀ x6_2 : Int32, x6_2 = x6_1 + x5_1 → (Inv_3 row_4 x6_2 ∧ Mea_3 row_4 x6_2 < Mea_3 row_3 x6_1)))))) ∧ (rF_2 = 0 → (Inv_1 row_2 (x5_1 + 1) ∧ Mea_1 row_2 (x5_1 + 1) < Mea_1 row_2 x5_1)))))))) ∧ (J_2 → (∃ (Inv_2 : (Int64) → (Int32) → Prop) (Mea_2 : (Int64) → (Int32) → Nat), Inv_2 0 1 ∧ ∀ (x5_2 : Int64) (x7_1 : Int32), Inv_2 x5_2 x7_1 → ((a2 < x7_1 → (∃ (P_3 : (Int64) → Prop), wX11_rest thrown taped lines size atF place sort value fault faultPlace lastFault lastPlace undoable hasImage rowOf_2 areSums_1 isSieved blocks drawn sF x5_2 P_3 ∧ ∀ (rF_1 : Int64), P_3 rF_1 → (Q (rF_1.toInt32) rowOf_2 areSums_1 row_2 power_1 table_1))) ∧ (¬ a2 < x7_1 → (vp_in x7_1 200001 ∧ ∀ x5_3 : Int64, x5_3 = x5_2 + ((row_2 x7_1.toNatClampNeg).toInt64) → (Inv_2 x5_3 (x7_1 + 1) ∧ Mea_2 x5_3 (x7_1 + 1) < Mea_2 x5_2 x7_1)))))))))))
set_option maxHeartbeats 4000000 in
set_option maxRecDepth 100000 in
theorem mX11_without (l : Launch) (D : va_G) (Y : Nat → ClassId) (h0 : Nat) (thrown : Int32) (v_tape : Value) (taped : Int32) (v_number : Value) (v_isTold : Value) (v_name : Value) (q_sortOf : Nat) (q_first : Nat) (q_second : Nat) (v_degree : Value) (v_colours : Value) (q_signBy : Nat) (v_own : Value) (lines : Int32) (size : Int32) (atF : Int32) (place : Int32) (sort : Int32) (value : Int32) (fault : Int32) (faultPlace : Int32) (lastFault : Int32) (lastPlace : Int32) (q_sF : Nat) (v_kept : Value) (undoable : Int32) (hasImage : Int32) (q_power : Nat) (q_table : Nat) (q_marks : Nat) (q_row : Nat) (rowOf : Int32) (areSums : Int32) (isSieved : Int32) (v_lastOf : Value) (blocks : Int32) (v_inBlock : Value) (v_atQuotient : Value) (v_small : Value) (drawn : Int32) (sF : Nat → Int32) (row : Nat → Int32) (marks : Nat → Int32) (power : Nat → Int64) (table : Nat → Int64) (sortOf : Nat → Int32) (first : Nat → Int32) (second : Nat → Int32) (signBy : Nat → Int32) (a1 : Int32) (a2 : Int32) (a3 : Int32) (a4 : Int32) (Q : (Int32) → (Int32) → (Int32) → (Nat → Int32) → (Nat → Int64) → (Nat → Int64) → Prop) (h : wX11_without thrown taped lines size atF place sort value fault faultPlace lastFault lastPlace undoable hasImage rowOf areSums isSieved blocks drawn sF row marks power table sortOf first second signBy a1 a2 a3 a4 Q) : gM l D Y yX11_without cX11_without 8 (some .int) 3 77 0 0 [.ref h0, .int a1, .int a2, .int a3, .int a4] [oX11 h0 thrown (v_tape) taped (v_number) (v_isTold) (v_name) (.ref q_sortOf) (.ref q_first) (.ref q_second) (v_degree) (v_colours) (.ref q_signBy) (v_own) lines size atF place sort value fault faultPlace lastFault lastPlace (.ref q_sF) (v_kept) undoable hasImage (.ref q_power) (.ref q_table) (.ref q_marks) (.ref q_row) rowOf areSums isSieved (v_lastOf) blocks (v_inBlock) (v_atQuotient) (v_small) drawn, aI Y q_sF 74 sF, aI Y q_row 200001 row, aI Y q_marks 6251 marks, aJ Y q_power 18 power, aJ Y q_table 216 table, aI Y q_sortOf 24 sortOf, aI Y q_first 24 first, aI Y q_second 24 second, aI Y q_signBy 24 signBy] (fun v w => ∃ r : Int32, ∃ rowOf' : Int32, ∃ areSums' : Int32, ∃ row' : Nat → Int32, ∃ power' : Nat → Int64, ∃ table' : Nat → Int64, v = some (.int r) ∧ w = [oX11 h0 thrown (v_tape) taped (v_number) (v_isTold) (v_name) (.ref q_sortOf) (.ref q_first) (.ref q_second) (v_degree) (v_colours) (.ref q_signBy) (v_own) lines size atF place sort value fault faultPlace lastFault lastPlace (.ref q_sF) (v_kept) undoable hasImage (.ref q_power) (.ref q_table) (.ref q_marks) (.ref q_row) rowOf' areSums' isSieved (v_lastOf) blocks (v_inBlock) (v_atQuotient) (v_small) drawn, aI Y q_sF 74 sF, aI Y q_row 200001 row', aI Y q_marks 6251 marks, aJ Y q_power 18 power', aJ Y q_table 216 table', aI Y q_sortOf 24 sortOf, aI Y q_first 24 first, aI Y q_second 24 second, aI Y q_signBy 24 signBy] ∧ Q r rowOf' areSums' row' power' table') := by
  refine gM_of (own := RX11) (by decide +kernel) rfl (Nat.le_of_ble_eq_true rfl) rfl (fun E C hR => ?_)
  unfold wX11_without at h
  refine g_aload_n C dX11_without_0 0 rfl ?_
  refine g_iload_n C dX11_without_1 1 rfl ?_
  obtain ⟨P_1, hP, h⟩ := h
  refine g_callV (As := [.int a1]) (rest := []) C (mX11_laysValues l D Y h0 thrown v_tape taped v_number v_isTold v_name q_sortOf q_first q_second v_degree v_colours q_signBy v_own lines size atF place sort value fault faultPlace lastFault lastPlace q_sF v_kept undoable hasImage q_power q_table q_marks q_row rowOf areSums isSieved v_lastOf blocks v_inBlock v_atQuotient v_small drawn sF row marks power table sortOf first second signBy a1 P_1 hP) dX11_without_2 rfl wM_X11_308 wI_X11_laysValues wV_X11_laysValues wN_X11 wC_X11_laysValues (n := 1) (by decide +kernel) rfl (q0 := 0) rfl rfl ⟨Nat.le_of_ble_eq_true rfl, Nat.le_of_ble_eq_true rfl⟩ ⟨Nat.le_of_ble_eq_true rfl, Nat.le_of_ble_eq_true rfl⟩ (Nat.le_of_ble_eq_true rfl) [0, 1, 2, 3, 4, 5, 6, 7, 8, 9] [] rfl rfl rfl (fun v wc hv => ?_)
  obtain ⟨rowOf_1, areSums_1, row_1, power_1, table_1, rfl, rfl, hq⟩ := hv
  replace h := h rowOf_1 areSums_1 row_1 power_1 table_1 hq
  refine gG.eqw (ws' := [oX11 h0 thrown (v_tape) taped (v_number) (v_isTold) (v_name) (.ref q_sortOf) (.ref q_first) (.ref q_second) (v_degree) (v_colours) (.ref q_signBy) (v_own) lines size atF place sort value fault faultPlace lastFault lastPlace (.ref q_sF) (v_kept) undoable hasImage (.ref q_power) (.ref q_table) (.ref q_marks) (.ref q_row) rowOf_1 areSums_1 isSieved (v_lastOf) blocks (v_inBlock) (v_atQuotient) (v_small) drawn, aI Y q_sF 74 sF, aI Y q_row 200001 row_1, aI Y q_marks 6251 marks, aJ Y q_power 18 power_1, aJ Y q_table 216 table_1, aI Y q_sortOf 24 sortOf, aI Y q_first 24 first, aI Y q_second 24 second, aI Y q_signBy 24 signBy]) rfl ?_
  refine g_aload_n C dX11_without_5 0 rfl ?_
  obtain ⟨P_2, hP, h⟩ := h
  refine g_callV (As := []) (rest := []) C (mX11_forgets l D Y h0 thrown v_tape taped v_number v_isTold v_name (.ref q_sortOf) (.ref q_first) (.ref q_second) v_degree v_colours (.ref q_signBy) v_own lines size atF place sort value fault faultPlace lastFault lastPlace (.ref q_sF) v_kept undoable hasImage (.ref q_power) (.ref q_table) (.ref q_marks) (.ref q_row) rowOf_1 areSums_1 isSieved v_lastOf blocks v_inBlock v_atQuotient v_small drawn P_2 hP) dX11_without_6 rfl wM_X11_232 wI_X11_forgets wV_X11_forgets wN_X11 wC_X11_forgets (n := 0) (by decide +kernel) rfl (q0 := 0) rfl rfl ⟨Nat.le_of_ble_eq_true rfl, Nat.le_of_ble_eq_true rfl⟩ ⟨Nat.le_of_ble_eq_true rfl, Nat.le_of_ble_eq_true rfl⟩ (Nat.le_of_ble_eq_true rfl) [0] [1, 2, 3, 4, 5, 6, 7, 8, 9] rfl rfl rfl (fun v wc hv => ?_)
  obtain ⟨rowOf_2, rfl, rfl, hq⟩ := hv
  replace h := h rowOf_2 hq
  refine gG.perm (ws' := [oX11 h0 thrown (v_tape) taped (v_number) (v_isTold) (v_name) (.ref q_sortOf) (.ref q_first) (.ref q_second) (v_degree) (v_colours) (.ref q_signBy) (v_own) lines size atF place sort value fault faultPlace lastFault lastPlace (.ref q_sF) (v_kept) undoable hasImage (.ref q_power) (.ref q_table) (.ref q_marks) (.ref q_row) rowOf_2 areSums_1 isSieved (v_lastOf) blocks (v_inBlock) (v_atQuotient) (v_small) drawn, aI Y q_sF 74 sF, aI Y q_row 200001 row_1, aI Y q_marks 6251 marks, aJ Y q_power 18 power_1, aJ Y q_table 216 table_1, aI Y q_sortOf 24 sortOf, aI Y q_first 24 first, aI Y q_second 24 second, aI Y q_signBy 24 signBy]) [9, 0, 1, 2, 3, 4, 5, 6, 7, 8] rfl rfl ?_
  refine g_iload_n C dX11_without_9 3 rfl ?_
  refine g_iconst (v := 2) C dX11_without_10 rfl ?_
  obtain ⟨J_1, hA, hB_J_1⟩ := h
  have key_1 : ∀ (t_1 : Int32), J_1 t_1 → gG E 0 0 [oX11 h0 thrown (v_tape) taped (v_number) (v_isTold) (v_name) (.ref q_sortOf) (.ref q_first) (.ref q_second) (v_degree) (v_colours) (.ref q_signBy) (v_own) lines size atF place sort value fault faultPlace lastFault lastPlace (.ref q_sF) (v_kept) undoable hasImage (.ref q_power) (.ref q_table) (.ref q_marks) (.ref q_row) rowOf_2 areSums_1 isSieved (v_lastOf) blocks (v_inBlock) (v_atQuotient) (v_small) drawn, aI Y q_sF 74 sF, aI Y q_row 200001 row_1, aI Y q_marks 6251 marks, aJ Y q_power 18 power_1, aJ Y q_table 216 table_1, aI Y q_sortOf 24 sortOf, aI Y q_first 24 first, aI Y q_second 24 second, aI Y q_signBy 24 signBy] [(0, .ref h0), (2, .int a2), (4, .int a4)] [.int t_1] 19 := by
    intro t_1 hJ
    have h := hB_J_1 t_1 hJ
    refine g_istore (lv' := [(5, .int t_1), (0, .ref h0), (2, .int a2), (4, .int a4)]) C dX11_without_19 (by decide) rfl ?_
    obtain ⟨Inv_1, Mea_1, hI2, hB2⟩ := h
    have key_2 : ∀ (n : Nat) (row_2 : Nat → Int32) (x5_1 : Int32) , Mea_1 row_2 x5_1 < n → Inv_1 row_2 x5_1 → gG E 0 0 [oX11 h0 thrown (v_tape) taped (v_number) (v_isTold) (v_name) (.ref q_sortOf) (.ref q_first) (.ref q_second) (v_degree) (v_colours) (.ref q_signBy) (v_own) lines size atF place sort value fault faultPlace lastFault lastPlace (.ref q_sF) (v_kept) undoable hasImage (.ref q_power) (.ref q_table) (.ref q_marks) (.ref q_row) rowOf_2 areSums_1 isSieved (v_lastOf) blocks (v_inBlock) (v_atQuotient) (v_small) drawn, aI Y q_sF 74 sF, aI Y q_row 200001 row_2, aI Y q_marks 6251 marks, aJ Y q_power 18 power_1, aJ Y q_table 216 table_1, aI Y q_sortOf 24 sortOf, aI Y q_first 24 first, aI Y q_second 24 second, aI Y q_signBy 24 signBy] [(0, .ref h0), (2, .int a2), (4, .int a4), (5, .int x5_1)] [] 21 := by
      intro n
      induction n with
      | zero => exact fun _ _ hm => absurd hm (Nat.not_lt_zero _)
      | succ n ih2 =>
        intro row_2 x5_1  hm2 hI
        have h := hB2 row_2 x5_1 hI
        refine g_iload C dX11_without_21 3 rfl ?_
        refine g_iload C dX11_without_23 2 rfl ?_
        obtain ⟨J_2, hA, hB_J_2⟩ := h
        have key_3 : J_2 → gG E 0 0 [oX11 h0 thrown (v_tape) taped (v_number) (v_isTold) (v_name) (.ref q_sortOf) (.ref q_first) (.ref q_second) (v_degree) (v_colours) (.ref q_signBy) (v_own) lines size atF place sort value fault faultPlace lastFault lastPlace (.ref q_sF) (v_kept) undoable hasImage (.ref q_power) (.ref q_table) (.ref q_marks) (.ref q_row) rowOf_2 areSums_1 isSieved (v_lastOf) blocks (v_inBlock) (v_atQuotient) (v_small) drawn, aI Y q_sF 74 sF, aI Y q_row 200001 row_2, aI Y q_marks 6251 marks, aJ Y q_power 18 power_1, aJ Y q_table 216 table_1, aI Y q_sortOf 24 sortOf, aI Y q_first 24 first, aI Y q_second 24 second, aI Y q_signBy 24 signBy] [(0, .ref h0), (2, .int a2)] [] 80 := by
          intro  hJ
          have h := hB_J_2  hJ
          refine g_lconst (v := 0) C dX11_without_80 rfl ?_
          refine g_lstore (lv' := [(5, .long 0), (0, .ref h0), (2, .int a2)]) C dX11_without_81 (by decide) rfl ?_
          refine g_iconst (v := 1) C dX11_without_83 rfl ?_
          refine g_istore (lv' := [(7, .int 1), (5, .long 0), (0, .ref h0), (2, .int a2)]) C dX11_without_84 (by decide) rfl ?_
          obtain ⟨Inv_2, Mea_2, hI4, hB4⟩ := h
          have key_4 : ∀ (n : Nat) (x5_2 : Int64) (x7_1 : Int32) , Mea_2 x5_2 x7_1 < n → Inv_2 x5_2 x7_1 → gG E 0 0 [oX11 h0 thrown (v_tape) taped (v_number) (v_isTold) (v_name) (.ref q_sortOf) (.ref q_first) (.ref q_second) (v_degree) (v_colours) (.ref q_signBy) (v_own) lines size atF place sort value fault faultPlace lastFault lastPlace (.ref q_sF) (v_kept) undoable hasImage (.ref q_power) (.ref q_table) (.ref q_marks) (.ref q_row) rowOf_2 areSums_1 isSieved (v_lastOf) blocks (v_inBlock) (v_atQuotient) (v_small) drawn, aI Y q_sF 74 sF, aI Y q_row 200001 row_2, aI Y q_marks 6251 marks, aJ Y q_power 18 power_1, aJ Y q_table 216 table_1, aI Y q_sortOf 24 sortOf, aI Y q_first 24 first, aI Y q_second 24 second, aI Y q_signBy 24 signBy] [(0, .ref h0), (2, .int a2), (5, .long x5_2), (7, .int x7_1)] [] 86 := by
            intro n
            induction n with
            | zero => exact fun _ _ hm => absurd hm (Nat.not_lt_zero _)
            | succ n ih4 =>
              intro x5_2 x7_1  hm4 hI
              have h := hB4 x5_2 x7_1 hI
              refine g_iload C dX11_without_86 3 rfl ?_
              refine g_iload_n C dX11_without_88 1 rfl ?_
              refine g_icmp_gt (tgt := 111) C dX11_without_89 (by decide) (fun c_1 => ?_) (fun c_1 => ?_)
              · replace h := h.1 c_1
                refine g_aload_n C dX11_without_111 0 rfl ?_
                refine g_lload C dX11_without_112 2 rfl ?_
                obtain ⟨P_3, hP, h⟩ := h
                refine g_callV (As := [.long x5_2]) (rest := []) C (mX11_rest l D Y h0 thrown v_tape taped v_number v_isTold v_name (.ref q_sortOf) (.ref q_first) (.ref q_second) v_degree v_colours (.ref q_signBy) v_own lines size atF place sort value fault faultPlace lastFault lastPlace q_sF v_kept undoable hasImage (.ref q_power) (.ref q_table) (.ref q_marks) (.ref q_row) rowOf_2 areSums_1 isSieved v_lastOf blocks v_inBlock v_atQuotient v_small drawn sF x5_2 P_3 hP) dX11_without_114 rfl wM_X11_256 wI_X11_rest wV_X11_rest wN_X11 wC_X11_rest (n := 1) (by decide +kernel) rfl (q0 := 0) rfl rfl ⟨Nat.le_of_ble_eq_true rfl, Nat.le_of_ble_eq_true rfl⟩ ⟨Nat.le_of_ble_eq_true rfl, Nat.le_of_ble_eq_true rfl⟩ (Nat.le_of_ble_eq_true rfl) [0, 1] [2, 3, 4, 5, 6, 7, 8, 9] rfl rfl rfl (fun v wc hv => ?_)
                obtain ⟨rF_1, rfl, rfl, hq⟩ := hv
                replace h := h rF_1 hq
                refine gG.perm (ws' := [oX11 h0 thrown (v_tape) taped (v_number) (v_isTold) (v_name) (.ref q_sortOf) (.ref q_first) (.ref q_second) (v_degree) (v_colours) (.ref q_signBy) (v_own) lines size atF place sort value fault faultPlace lastFault lastPlace (.ref q_sF) (v_kept) undoable hasImage (.ref q_power) (.ref q_table) (.ref q_marks) (.ref q_row) rowOf_2 areSums_1 isSieved (v_lastOf) blocks (v_inBlock) (v_atQuotient) (v_small) drawn, aI Y q_sF 74 sF, aI Y q_row 200001 row_2, aI Y q_marks 6251 marks, aJ Y q_power 18 power_1, aJ Y q_table 216 table_1, aI Y q_sortOf 24 sortOf, aI Y q_first 24 first, aI Y q_second 24 second, aI Y q_signBy 24 signBy]) [8, 9, 0, 1, 2, 3, 4, 5, 6, 7] rfl rfl ?_
                refine g_l2i C dX11_without_117 ?_
                exact g_iret C hR (Nat.le_of_ble_eq_true rfl) (Nat.le_of_ble_eq_true rfl) dX11_without_118 ⟨rF_1.toInt32, rowOf_2, areSums_1, row_2, power_1, table_1, rfl, rfl, h⟩
              · replace h := h.2 c_1
                refine g_lload C dX11_without_92 2 rfl ?_
                refine g_aload_n C dX11_without_94 0 rfl ?_
                refine g_get C inX11 0 rfl rfl 30 (by decide) wF_X11_65 rfl dX11_without_95 ?_
                refine g_iload C dX11_without_98 3 rfl ?_
                obtain ⟨hc_1, h⟩ := h
                refine g_iald C 2 rfl hc_1 dX11_without_100 ?_
                refine g_i2l C dX11_without_101 ?_
                refine g_ladd C dX11_without_102 ?_
                refine g_topl (fun x5_3 ex5_3 => ?_)
                replace h := h x5_3 ex5_3
                refine g_lstore (lv' := [(5, .long x5_3), (0, .ref h0), (2, .int a2), (7, .int x7_1)]) C dX11_without_103 (by decide) rfl ?_
                refine g_iinc (v := x7_1 + 1) (lv' := [(7, .int (x7_1 + 1)), (5, .long x5_3), (0, .ref h0), (2, .int a2)]) C dX11_without_105 3 rfl rfl (by decide) rfl ?_
                refine g_goto (tgt := 86) C dX11_without_108 (by decide) ?_
                refine gG.locals (lv' := [(0, .ref h0), (2, .int a2), (5, .long x5_3), (7, .int (x7_1 + 1))]) [2, 3, 1, 0] rfl ?_
                exact ih4 x5_3 (x7_1 + 1) (Nat.lt_of_lt_of_le h.2 (Nat.le_of_lt_succ hm4)) h.1
          refine gG.locals (lv' := [(0, .ref h0), (2, .int a2), (5, .long 0), (7, .int 1)]) [2, 3, 1, 0] rfl ?_
          exact key_4 (Mea_2 0 1 + 1) 0 1 (Nat.lt_succ_self _) hI4
        replace h := hA
        refine g_icmp_gt (tgt := 80) C dX11_without_25 (by decide) (fun c_2 => ?_) (fun c_2 => ?_)
        · replace h := h.1 c_2
          refine gG.locals (lv' := [(0, .ref h0), (2, .int a2)]) [0, 1] rfl ?_
          exact key_3 h
        · replace h := h.2 c_2
          refine g_iload C dX11_without_28 3 rfl ?_
          refine g_iload_n C dX11_without_30 1 rfl ?_
          refine g_icmp_gt (tgt := 80) C dX11_without_31 (by decide) (fun c_3 => ?_) (fun c_3 => ?_)
          · replace h := h.1 c_3
            refine gG.locals (lv' := [(0, .ref h0), (2, .int a2)]) [0, 1] rfl ?_
            exact key_3 h
          · replace h := h.2 c_3
            refine g_aload_n C dX11_without_34 0 rfl ?_
            refine g_iload C dX11_without_35 3 rfl ?_
            obtain ⟨P_4, hP, h⟩ := h
            refine g_callV (As := [.int x5_1]) (rest := []) C (mX11_isPrime l D Y h0 thrown v_tape taped v_number v_isTold v_name (.ref q_sortOf) (.ref q_first) (.ref q_second) v_degree v_colours (.ref q_signBy) v_own lines size atF place sort value fault faultPlace lastFault lastPlace (.ref q_sF) v_kept undoable hasImage (.ref q_power) (.ref q_table) q_marks (.ref q_row) rowOf_2 areSums_1 isSieved v_lastOf blocks v_inBlock v_atQuotient v_small drawn marks x5_1 P_4 hP) dX11_without_37 rfl wM_X11_292 wI_X11_isPrime wV_X11_isPrime wN_X11 wC_X11_isPrime (n := 1) (by decide +kernel) rfl (q0 := 0) rfl rfl ⟨Nat.le_of_ble_eq_true rfl, Nat.le_of_ble_eq_true rfl⟩ ⟨Nat.le_of_ble_eq_true rfl, Nat.le_of_ble_eq_true rfl⟩ (Nat.le_of_ble_eq_true rfl) [0, 3] [1, 2, 4, 5, 6, 7, 8, 9] rfl rfl rfl (fun v wc hv => ?_)
            obtain ⟨rF_2, rfl, rfl, hq⟩ := hv
            replace h := h rF_2 hq
            refine gG.perm (ws' := [oX11 h0 thrown (v_tape) taped (v_number) (v_isTold) (v_name) (.ref q_sortOf) (.ref q_first) (.ref q_second) (v_degree) (v_colours) (.ref q_signBy) (v_own) lines size atF place sort value fault faultPlace lastFault lastPlace (.ref q_sF) (v_kept) undoable hasImage (.ref q_power) (.ref q_table) (.ref q_marks) (.ref q_row) rowOf_2 areSums_1 isSieved (v_lastOf) blocks (v_inBlock) (v_atQuotient) (v_small) drawn, aI Y q_sF 74 sF, aI Y q_row 200001 row_2, aI Y q_marks 6251 marks, aJ Y q_power 18 power_1, aJ Y q_table 216 table_1, aI Y q_sortOf 24 sortOf, aI Y q_first 24 first, aI Y q_second 24 second, aI Y q_signBy 24 signBy]) [8, 0, 1, 9, 2, 3, 4, 5, 6, 7] rfl rfl ?_
            refine g_if_ne (tgt := 46) C dX11_without_40 (by decide) (fun c_4 => ?_) (fun c_4 => ?_)
            · replace h := h.1 c_4
              refine g_iload C dX11_without_46 3 rfl ?_
              refine g_istore (lv' := [(6, .int x5_1), (0, .ref h0), (2, .int a2), (4, .int a4), (5, .int x5_1)]) C dX11_without_48 (by decide) rfl ?_
              obtain ⟨Inv_3, Mea_3, hI5, hB5⟩ := h
              have key_5 : ∀ (n : Nat) (row_3 : Nat → Int32) (x6_1 : Int32) , Mea_3 row_3 x6_1 < n → Inv_3 row_3 x6_1 → gG E 0 0 [oX11 h0 thrown (v_tape) taped (v_number) (v_isTold) (v_name) (.ref q_sortOf) (.ref q_first) (.ref q_second) (v_degree) (v_colours) (.ref q_signBy) (v_own) lines size atF place sort value fault faultPlace lastFault lastPlace (.ref q_sF) (v_kept) undoable hasImage (.ref q_power) (.ref q_table) (.ref q_marks) (.ref q_row) rowOf_2 areSums_1 isSieved (v_lastOf) blocks (v_inBlock) (v_atQuotient) (v_small) drawn, aI Y q_sF 74 sF, aI Y q_row 200001 row_3, aI Y q_marks 6251 marks, aJ Y q_power 18 power_1, aJ Y q_table 216 table_1, aI Y q_sortOf 24 sortOf, aI Y q_first 24 first, aI Y q_second 24 second, aI Y q_signBy 24 signBy] [(0, .ref h0), (2, .int a2), (4, .int a4), (5, .int x5_1), (6, .int x6_1)] [] 50 := by
                intro n
                induction n with
                | zero => exact fun _ _ hm => absurd hm (Nat.not_lt_zero _)
                | succ n ih5 =>
                  intro row_3 x6_1  hm5 hI
                  have h := hB5 row_3 x6_1 hI
                  refine g_iload C dX11_without_50 4 rfl ?_
                  refine g_iload_n C dX11_without_52 1 rfl ?_
                  refine g_icmp_gt (tgt := 74) C dX11_without_53 (by decide) (fun c_5 => ?_) (fun c_5 => ?_)
                  · replace h := h.1 c_5
                    refine g_iinc (v := x5_1 + 1) (lv' := [(5, .int (x5_1 + 1)), (0, .ref h0), (2, .int a2), (4, .int a4), (6, .int x6_1)]) C dX11_without_74 3 rfl rfl (by decide) rfl ?_
                    refine g_goto (tgt := 21) C dX11_without_77 (by decide) ?_
                    refine gG.locals (lv' := [(0, .ref h0), (2, .int a2), (4, .int a4), (5, .int (x5_1 + 1))]) [1, 2, 3, 0] rfl ?_
                    exact ih2 row_3 (x5_1 + 1) (Nat.lt_of_lt_of_le h.2 (Nat.le_of_lt_succ hm2)) h.1
                  · replace h := h.2 c_5
                    refine g_aload_n C dX11_without_56 0 rfl ?_
                    refine g_get C inX11 0 rfl rfl 30 (by decide) wF_X11_65 rfl dX11_without_57 ?_
                    refine g_iload C dX11_without_60 4 rfl ?_
                    refine g_iconst (v := 0) C dX11_without_62 rfl ?_
                    obtain ⟨hc_2, h⟩ := h
                    refine g_iast C 2 rfl hc_2 dX11_without_63 (fun row_4 erow_4 => gG.eqw (ws' := [oX11 h0 thrown (v_tape) taped (v_number) (v_isTold) (v_name) (.ref q_sortOf) (.ref q_first) (.ref q_second) (v_degree) (v_colours) (.ref q_signBy) (v_own) lines size atF place sort value fault faultPlace lastFault lastPlace (.ref q_sF) (v_kept) undoable hasImage (.ref q_power) (.ref q_table) (.ref q_marks) (.ref q_row) rowOf_2 areSums_1 isSieved (v_lastOf) blocks (v_inBlock) (v_atQuotient) (v_small) drawn, aI Y q_sF 74 sF, aI Y q_row 200001 row_4, aI Y q_marks 6251 marks, aJ Y q_power 18 power_1, aJ Y q_table 216 table_1, aI Y q_sortOf 24 sortOf, aI Y q_first 24 first, aI Y q_second 24 second, aI Y q_signBy 24 signBy]) rfl ?_)
                    replace h := h row_4 erow_4
                    refine g_iload C dX11_without_64 4 rfl ?_
                    refine g_iload C dX11_without_66 3 rfl ?_
                    refine g_iadd C dX11_without_68 ?_
                    refine g_topi (fun x6_2 ex6_2 => ?_)
                    replace h := h x6_2 ex6_2
                    refine g_istore (lv' := [(6, .int x6_2), (0, .ref h0), (2, .int a2), (4, .int a4), (5, .int x5_1)]) C dX11_without_69 (by decide) rfl ?_
                    refine g_goto (tgt := 50) C dX11_without_71 (by decide) ?_
                    refine gG.locals (lv' := [(0, .ref h0), (2, .int a2), (4, .int a4), (5, .int x5_1), (6, .int x6_2)]) [1, 2, 3, 4, 0] rfl ?_
                    exact ih5 row_4 x6_2 (Nat.lt_of_lt_of_le h.2 (Nat.le_of_lt_succ hm5)) h.1
              refine gG.locals (lv' := [(0, .ref h0), (2, .int a2), (4, .int a4), (5, .int x5_1), (6, .int x5_1)]) [1, 2, 3, 4, 0] rfl ?_
              exact key_5 (Mea_3 row_2 x5_1 + 1) row_2 x5_1 (Nat.lt_succ_self _) hI5
            · replace h := h.2 c_4
              refine g_goto (tgt := 74) C dX11_without_43 (by decide) ?_
              refine g_iinc (v := x5_1 + 1) (lv' := [(5, .int (x5_1 + 1)), (0, .ref h0), (2, .int a2), (4, .int a4)]) C dX11_without_74 3 rfl rfl (by decide) rfl ?_
              refine g_goto (tgt := 21) C dX11_without_77 (by decide) ?_
              refine gG.locals (lv' := [(0, .ref h0), (2, .int a2), (4, .int a4), (5, .int (x5_1 + 1))]) [1, 2, 3, 0] rfl ?_
              exact ih2 row_2 (x5_1 + 1) (Nat.lt_of_lt_of_le h.2 (Nat.le_of_lt_succ hm2)) h.1
    refine gG.locals (lv' := [(0, .ref h0), (2, .int a2), (4, .int a4), (5, .int t_1)]) [1, 2, 3, 0] rfl ?_
    exact key_2 (Mea_1 row_1 t_1 + 1) row_1 t_1 (Nat.lt_succ_self _) hI2
  replace h := hA
  refine g_icmp_ge (tgt := 18) C dX11_without_11 (by decide) (fun c_6 => ?_) (fun c_6 => ?_)
  · replace h := h.1 c_6
    refine g_iload_n C dX11_without_18 3 rfl ?_
    refine gG.locals (lv' := [(0, .ref h0), (2, .int a2), (4, .int a4)]) [0, 2, 4] rfl ?_
    exact key_1 a3 h
  · replace h := h.2 c_6
    refine g_iconst (v := 2) C dX11_without_14 rfl ?_
    refine g_goto (tgt := 19) C dX11_without_15 (by decide) ?_
    refine gG.locals (lv' := [(0, .ref h0), (2, .int a2), (4, .int a4)]) [0, 2, 4] rfl ?_
    exact key_1 2 h
theorem dX11_smooth_0 : decode cX11_smooth 0 = .ok (.aload_n 0, 1) := by decide +kernel
theorem dX11_smooth_1 : decode cX11_smooth 1 = .ok (.iconst 0, 1) := by decide +kernel
theorem dX11_smooth_2 : decode cX11_smooth 2 = .ok (.putfield 89, 3) := by decide +kernel
theorem dX11_smooth_5 : decode cX11_smooth 5 = .ok (.aload_n 0, 1) := by decide +kernel
theorem dX11_smooth_6 : decode cX11_smooth 6 = .ok (.iload_n 1, 1) := by decide +kernel
theorem dX11_smooth_7 : decode cX11_smooth 7 = .ok (.invokevirtual 241, 3) := by decide +kernel
theorem dX11_smooth_10 : decode cX11_smooth 10 = .ok (.ifCond .eq 34, 3) := by decide +kernel
theorem dX11_smooth_13 : decode cX11_smooth 13 = .ok (.aload_n 0, 1) := by decide +kernel
theorem dX11_smooth_14 : decode cX11_smooth 14 = .ok (.iload_n 2, 1) := by decide +kernel
theorem dX11_smooth_15 : decode cX11_smooth 15 = .ok (.iconst 0, 1) := by decide +kernel
theorem dX11_smooth_16 : decode cX11_smooth 16 = .ok (.invokevirtual 282, 3) := by decide +kernel
theorem dX11_smooth_19 : decode cX11_smooth 19 = .ok (.ifCond .eq 25, 3) := by decide +kernel
theorem dX11_smooth_22 : decode cX11_smooth 22 = .ok (.aload_n 0, 1) := by decide +kernel
theorem dX11_smooth_23 : decode cX11_smooth 23 = .ok (.iload_n 3, 1) := by decide +kernel
theorem dX11_smooth_24 : decode cX11_smooth 24 = .ok (.iconst 0, 1) := by decide +kernel
theorem dX11_smooth_25 : decode cX11_smooth 25 = .ok (.invokevirtual 282, 3) := by decide +kernel
theorem dX11_smooth_28 : decode cX11_smooth 28 = .ok (.ifCond .eq 16, 3) := by decide +kernel
theorem dX11_smooth_31 : decode cX11_smooth 31 = .ok (.aload_n 0, 1) := by decide +kernel
theorem dX11_smooth_32 : decode cX11_smooth 32 = .ok (.iload_n 1, 1) := by decide +kernel
theorem dX11_smooth_33 : decode cX11_smooth 33 = .ok (.iload_n 2, 1) := by decide +kernel
theorem dX11_smooth_34 : decode cX11_smooth 34 = .ok (.iload_n 3, 1) := by decide +kernel
theorem dX11_smooth_35 : decode cX11_smooth 35 = .ok (.iconst 1, 1) := by decide +kernel
theorem dX11_smooth_36 : decode cX11_smooth 36 = .ok (.iadd, 1) := by decide +kernel
theorem dX11_smooth_37 : decode cX11_smooth 37 = .ok (.iload_n 2, 1) := by decide +kernel
theorem dX11_smooth_38 : decode cX11_smooth 38 = .ok (.invokevirtual 343, 3) := by decide +kernel
theorem dX11_smooth_41 : decode cX11_smooth 41 = .ok (.goto 4, 3) := by decide +kernel
theorem dX11_smooth_44 : decode cX11_smooth 44 = .ok (.iconst (-1), 1) := by decide +kernel
theorem dX11_smooth_45 : decode cX11_smooth 45 = .ok (.ireturn, 1) := by decide +kernel
/-- QuotientSumsModel.smooth(III)I -/
def wX11_smooth (thrown : Int32) (taped : Int32) (lines : Int32) (size : Int32) (atF : Int32) (place : Int32) (sort : Int32) (value : Int32) (fault : Int32) (faultPlace : Int32) (lastFault : Int32) (lastPlace : Int32) (undoable : Int32) (hasImage : Int32) (rowOf : Int32) (areSums : Int32) (isSieved : Int32) (blocks : Int32) (drawn : Int32) (number : Nat → Int32) (sF : Nat → Int32) (row : Nat → Int32) (marks : Nat → Int32) (power : Nat → Int64) (table : Nat → Int64) (sortOf : Nat → Int32) (first : Nat → Int32) (second : Nat → Int32) (signBy : Nat → Int32) (a1 : Int32) (a2 : Int32) (a3 : Int32) (Q : (Int32) → (Int32) → (Int32) → (Int32) → (Nat → Int32) → (Nat → Int64) → (Nat → Int64) → Prop) : Prop :=
  (∃ (P_1 : (Int32) → Prop), wX11_isFunction 0 taped lines size atF place sort value fault faultPlace lastFault lastPlace undoable hasImage rowOf areSums isSieved blocks drawn number a1 P_1 ∧ ∀ (rF_1 : Int32), P_1 rF_1 → ((rF_1 = 0 → (Q (-1) 0 rowOf areSums row power table)) ∧ (¬ rF_1 = 0 → (∃ (P_2 : (Int32) → Prop), wX11_isIn 0 taped lines size atF place sort value fault faultPlace lastFault lastPlace undoable hasImage rowOf areSums isSieved blocks drawn sF a2 0 P_2 ∧ ∀ (rF_2 : Int32), P_2 rF_2 → ((rF_2 = 0 → (Q (-1) 0 rowOf areSums row power table)) ∧ (¬ rF_2 = 0 → (∃ (P_3 : (Int32) → Prop), wX11_isIn 0 taped lines size atF place sort value fault faultPlace lastFault lastPlace undoable hasImage rowOf areSums isSieved blocks drawn sF a3 0 P_3 ∧ ∀ (rF_3 : Int32), P_3 rF_3 → ((rF_3 = 0 → (Q (-1) 0 rowOf areSums row power table)) ∧ (¬ rF_3 = 0 → (∃ (P_4 : (Int32) → (Int32) → (Int32) → (Nat → Int32) → (Nat → Int64) → (Nat → Int64) → Prop), wX11_without 0 taped lines size atF place sort value fault faultPlace lastFault lastPlace undoable hasImage rowOf areSums isSieved blocks drawn sF row marks power table sortOf first second signBy a1 a2 (a3 + 1) a2 P_4 ∧ ∀ (rF_4 : Int32) (rowOf_1 : Int32) (areSums_1 : Int32) (row_1 : Nat → Int32) (power_1 : Nat → Int64) (table_1 : Nat → Int64), P_4 rF_4 rowOf_1 areSums_1 row_1 power_1 table_1 → (Q rF_4 0 rowOf_1 areSums_1 row_1 power_1 table_1)))))))))))
set_option maxHeartbeats 4000000 in
set_option maxRecDepth 100000 in
theorem mX11_smooth (l : Launch) (D : va_G) (Y : Nat → ClassId) (h0 : Nat) (thrown : Int32) (v_tape : Value) (taped : Int32) (q_number : Nat) (v_isTold : Value) (v_name : Value) (q_sortOf : Nat) (q_first : Nat) (q_second : Nat) (v_degree : Value) (v_colours : Value) (q_signBy : Nat) (v_own : Value) (lines : Int32) (size : Int32) (atF : Int32) (place : Int32) (sort : Int32) (value : Int32) (fault : Int32) (faultPlace : Int32) (lastFault : Int32) (lastPlace : Int32) (q_sF : Nat) (v_kept : Value) (undoable : Int32) (hasImage : Int32) (q_power : Nat) (q_table : Nat) (q_marks : Nat) (q_row : Nat) (rowOf : Int32) (areSums : Int32) (isSieved : Int32) (v_lastOf : Value) (blocks : Int32) (v_inBlock : Value) (v_atQuotient : Value) (v_small : Value) (drawn : Int32) (number : Nat → Int32) (sF : Nat → Int32) (row : Nat → Int32) (marks : Nat → Int32) (power : Nat → Int64) (table : Nat → Int64) (sortOf : Nat → Int32) (first : Nat → Int32) (second : Nat → Int32) (signBy : Nat → Int32) (a1 : Int32) (a2 : Int32) (a3 : Int32) (Q : (Int32) → (Int32) → (Int32) → (Int32) → (Nat → Int32) → (Nat → Int64) → (Nat → Int64) → Prop) (h : wX11_smooth thrown taped lines size atF place sort value fault faultPlace lastFault lastPlace undoable hasImage rowOf areSums isSieved blocks drawn number sF row marks power table sortOf first second signBy a1 a2 a3 Q) : gM l D Y yX11_smooth cX11_smooth 4 (some .int) 4 104 0 0 [.ref h0, .int a1, .int a2, .int a3] [oX11 h0 thrown (v_tape) taped (.ref q_number) (v_isTold) (v_name) (.ref q_sortOf) (.ref q_first) (.ref q_second) (v_degree) (v_colours) (.ref q_signBy) (v_own) lines size atF place sort value fault faultPlace lastFault lastPlace (.ref q_sF) (v_kept) undoable hasImage (.ref q_power) (.ref q_table) (.ref q_marks) (.ref q_row) rowOf areSums isSieved (v_lastOf) blocks (v_inBlock) (v_atQuotient) (v_small) drawn, aI Y q_number 8 number, aI Y q_sF 74 sF, aI Y q_row 200001 row, aI Y q_marks 6251 marks, aJ Y q_power 18 power, aJ Y q_table 216 table, aI Y q_sortOf 24 sortOf, aI Y q_first 24 first, aI Y q_second 24 second, aI Y q_signBy 24 signBy] (fun v w => ∃ r : Int32, ∃ thrown' : Int32, ∃ rowOf' : Int32, ∃ areSums' : Int32, ∃ row' : Nat → Int32, ∃ power' : Nat → Int64, ∃ table' : Nat → Int64, v = some (.int r) ∧ w = [oX11 h0 thrown' (v_tape) taped (.ref q_number) (v_isTold) (v_name) (.ref q_sortOf) (.ref q_first) (.ref q_second) (v_degree) (v_colours) (.ref q_signBy) (v_own) lines size atF place sort value fault faultPlace lastFault lastPlace (.ref q_sF) (v_kept) undoable hasImage (.ref q_power) (.ref q_table) (.ref q_marks) (.ref q_row) rowOf' areSums' isSieved (v_lastOf) blocks (v_inBlock) (v_atQuotient) (v_small) drawn, aI Y q_number 8 number, aI Y q_sF 74 sF, aI Y q_row 200001 row', aI Y q_marks 6251 marks, aJ Y q_power 18 power', aJ Y q_table 216 table', aI Y q_sortOf 24 sortOf, aI Y q_first 24 first, aI Y q_second 24 second, aI Y q_signBy 24 signBy] ∧ Q r thrown' rowOf' areSums' row' power' table') := by
  refine gM_of (own := RX11) (by decide +kernel) rfl (Nat.le_of_ble_eq_true rfl) rfl (fun E C hR => ?_)
  unfold wX11_smooth at h
  refine g_aload_n C dX11_smooth_0 0 rfl ?_
  refine g_iconst (v := 0) C dX11_smooth_1 rfl ?_
  refine g_put C inX11 tyX11 tyX11_ok nmX11 0 rfl rfl 0 (by decide) wF_X11_89 rfl rfl rfl (Nat.le_of_ble_eq_true rfl) (ws' := [oX11 h0 0 (v_tape) taped (.ref q_number) (v_isTold) (v_name) (.ref q_sortOf) (.ref q_first) (.ref q_second) (v_degree) (v_colours) (.ref q_signBy) (v_own) lines size atF place sort value fault faultPlace lastFault lastPlace (.ref q_sF) (v_kept) undoable hasImage (.ref q_power) (.ref q_table) (.ref q_marks) (.ref q_row) rowOf areSums isSieved (v_lastOf) blocks (v_inBlock) (v_atQuotient) (v_small) drawn, aI Y q_number 8 number, aI Y q_sF 74 sF, aI Y q_row 200001 row, aI Y q_marks 6251 marks, aJ Y q_power 18 power, aJ Y q_table 216 table, aI Y q_sortOf 24 sortOf, aI Y q_first 24 first, aI Y q_second 24 second, aI Y q_signBy 24 signBy]) rfl dX11_smooth_2 ?_
  refine g_aload_n C dX11_smooth_5 0 rfl ?_
  refine g_iload_n C dX11_smooth_6 1 rfl ?_
  obtain ⟨P_1, hP, h⟩ := h
  refine g_callV (As := [.int a1]) (rest := []) C (mX11_isFunction l D Y h0 0 v_tape taped q_number v_isTold v_name (.ref q_sortOf) (.ref q_first) (.ref q_second) v_degree v_colours (.ref q_signBy) v_own lines size atF place sort value fault faultPlace lastFault lastPlace (.ref q_sF) v_kept undoable hasImage (.ref q_power) (.ref q_table) (.ref q_marks) (.ref q_row) rowOf areSums isSieved v_lastOf blocks v_inBlock v_atQuotient v_small drawn number a1 P_1 hP) dX11_smooth_7 rfl wM_X11_241 wI_X11_isFunction wV_X11_isFunction wN_X11 wC_X11_isFunction (n := 1) (by decide +kernel) rfl (q0 := 0) rfl rfl ⟨Nat.le_of_ble_eq_true rfl, Nat.le_of_ble_eq_true rfl⟩ ⟨Nat.le_of_ble_eq_true rfl, Nat.le_of_ble_eq_true rfl⟩ (Nat.le_of_ble_eq_true rfl) [0, 1] [2, 3, 4, 5, 6, 7, 8, 9, 10] rfl rfl rfl (fun v wc hv => ?_)
  obtain ⟨rF_1, rfl, rfl, hq⟩ := hv
  replace h := h rF_1 hq
  refine gG.perm (ws' := [oX11 h0 0 (v_tape) taped (.ref q_number) (v_isTold) (v_name) (.ref q_sortOf) (.ref q_first) (.ref q_second) (v_degree) (v_colours) (.ref q_signBy) (v_own) lines size atF place sort value fault faultPlace lastFault lastPlace (.ref q_sF) (v_kept) undoable hasImage (.ref q_power) (.ref q_table) (.ref q_marks) (.ref q_row) rowOf areSums isSieved (v_lastOf) blocks (v_inBlock) (v_atQuotient) (v_small) drawn, aI Y q_number 8 number, aI Y q_sF 74 sF, aI Y q_row 200001 row, aI Y q_marks 6251 marks, aJ Y q_power 18 power, aJ Y q_table 216 table, aI Y q_sortOf 24 sortOf, aI Y q_first 24 first, aI Y q_second 24 second, aI Y q_signBy 24 signBy]) [9, 10, 0, 1, 2, 3, 4, 5, 6, 7, 8] rfl rfl ?_
  refine g_if_eq (tgt := 44) C dX11_smooth_10 (by decide) (fun c_1 => ?_) (fun c_1 => ?_)
  · replace h := h.1 c_1
    refine g_iconst (v := (-1)) C dX11_smooth_44 rfl ?_
    exact g_iret C hR (Nat.le_of_ble_eq_true rfl) (Nat.le_of_ble_eq_true rfl) dX11_smooth_45 ⟨(-1), 0, rowOf, areSums, row, power, table, rfl, rfl, h⟩
  · replace h := h.2 c_1
    refine g_aload_n C dX11_smooth_13 0 rfl ?_
    refine g_iload_n C dX11_smooth_14 2 rfl ?_
    refine g_iconst (v := 0) C dX11_smooth_15 rfl ?_
    obtain ⟨P_2, hP, h⟩ := h
    refine g_callV (As := [.int a2, .int 0]) (rest := []) C (mX11_isIn l D Y h0 0 v_tape taped (.ref q_number) v_isTold v_name (.ref q_sortOf) (.ref q_first) (.ref q_second) v_degree v_colours (.ref q_signBy) v_own lines size atF place sort value fault faultPlace lastFault lastPlace q_sF v_kept undoable hasImage (.ref q_power) (.ref q_table) (.ref q_marks) (.ref q_row) rowOf areSums isSieved v_lastOf blocks v_inBlock v_atQuotient v_small drawn sF a2 0 P_2 hP) dX11_smooth_16 rfl wM_X11_282 wI_X11_isIn wV_X11_isIn wN_X11 wC_X11_isIn (n := 2) (by decide +kernel) rfl (q0 := 0) rfl rfl ⟨Nat.le_of_ble_eq_true rfl, Nat.le_of_ble_eq_true rfl⟩ ⟨Nat.le_of_ble_eq_true rfl, Nat.le_of_ble_eq_true rfl⟩ (Nat.le_of_ble_eq_true rfl) [0, 2] [1, 3, 4, 5, 6, 7, 8, 9, 10] rfl rfl rfl (fun v wc hv => ?_)
    obtain ⟨rF_2, rfl, rfl, hq⟩ := hv
    replace h := h rF_2 hq
    refine gG.perm (ws' := [oX11 h0 0 (v_tape) taped (.ref q_number) (v_isTold) (v_name) (.ref q_sortOf) (.ref q_first) (.ref q_second) (v_degree) (v_colours) (.ref q_signBy) (v_own) lines size atF place sort value fault faultPlace lastFault lastPlace (.ref q_sF) (v_kept) undoable hasImage (.ref q_power) (.ref q_table) (.ref q_marks) (.ref q_row) rowOf areSums isSieved (v_lastOf) blocks (v_inBlock) (v_atQuotient) (v_small) drawn, aI Y q_number 8 number, aI Y q_sF 74 sF, aI Y q_row 200001 row, aI Y q_marks 6251 marks, aJ Y q_power 18 power, aJ Y q_table 216 table, aI Y q_sortOf 24 sortOf, aI Y q_first 24 first, aI Y q_second 24 second, aI Y q_signBy 24 signBy]) [9, 0, 10, 1, 2, 3, 4, 5, 6, 7, 8] rfl rfl ?_
    refine g_if_eq (tgt := 44) C dX11_smooth_19 (by decide) (fun c_2 => ?_) (fun c_2 => ?_)
    · replace h := h.1 c_2
      refine g_iconst (v := (-1)) C dX11_smooth_44 rfl ?_
      exact g_iret C hR (Nat.le_of_ble_eq_true rfl) (Nat.le_of_ble_eq_true rfl) dX11_smooth_45 ⟨(-1), 0, rowOf, areSums, row, power, table, rfl, rfl, h⟩
    · replace h := h.2 c_2
      refine g_aload_n C dX11_smooth_22 0 rfl ?_
      refine g_iload_n C dX11_smooth_23 3 rfl ?_
      refine g_iconst (v := 0) C dX11_smooth_24 rfl ?_
      obtain ⟨P_3, hP, h⟩ := h
      refine g_callV (As := [.int a3, .int 0]) (rest := []) C (mX11_isIn l D Y h0 0 v_tape taped (.ref q_number) v_isTold v_name (.ref q_sortOf) (.ref q_first) (.ref q_second) v_degree v_colours (.ref q_signBy) v_own lines size atF place sort value fault faultPlace lastFault lastPlace q_sF v_kept undoable hasImage (.ref q_power) (.ref q_table) (.ref q_marks) (.ref q_row) rowOf areSums isSieved v_lastOf blocks v_inBlock v_atQuotient v_small drawn sF a3 0 P_3 hP) dX11_smooth_25 rfl wM_X11_282 wI_X11_isIn wV_X11_isIn wN_X11 wC_X11_isIn (n := 2) (by decide +kernel) rfl (q0 := 0) rfl rfl ⟨Nat.le_of_ble_eq_true rfl, Nat.le_of_ble_eq_true rfl⟩ ⟨Nat.le_of_ble_eq_true rfl, Nat.le_of_ble_eq_true rfl⟩ (Nat.le_of_ble_eq_true rfl) [0, 2] [1, 3, 4, 5, 6, 7, 8, 9, 10] rfl rfl rfl (fun v wc hv => ?_)
      obtain ⟨rF_3, rfl, rfl, hq⟩ := hv
      replace h := h rF_3 hq
      refine gG.perm (ws' := [oX11 h0 0 (v_tape) taped (.ref q_number) (v_isTold) (v_name) (.ref q_sortOf) (.ref q_first) (.ref q_second) (v_degree) (v_colours) (.ref q_signBy) (v_own) lines size atF place sort value fault faultPlace lastFault lastPlace (.ref q_sF) (v_kept) undoable hasImage (.ref q_power) (.ref q_table) (.ref q_marks) (.ref q_row) rowOf areSums isSieved (v_lastOf) blocks (v_inBlock) (v_atQuotient) (v_small) drawn, aI Y q_number 8 number, aI Y q_sF 74 sF, aI Y q_row 200001 row, aI Y q_marks 6251 marks, aJ Y q_power 18 power, aJ Y q_table 216 table, aI Y q_sortOf 24 sortOf, aI Y q_first 24 first, aI Y q_second 24 second, aI Y q_signBy 24 signBy]) [9, 0, 10, 1, 2, 3, 4, 5, 6, 7, 8] rfl rfl ?_
      refine g_if_eq (tgt := 44) C dX11_smooth_28 (by decide) (fun c_3 => ?_) (fun c_3 => ?_)
      · replace h := h.1 c_3
        refine g_iconst (v := (-1)) C dX11_smooth_44 rfl ?_
        exact g_iret C hR (Nat.le_of_ble_eq_true rfl) (Nat.le_of_ble_eq_true rfl) dX11_smooth_45 ⟨(-1), 0, rowOf, areSums, row, power, table, rfl, rfl, h⟩
      · replace h := h.2 c_3
        refine g_aload_n C dX11_smooth_31 0 rfl ?_
        refine g_iload_n C dX11_smooth_32 1 rfl ?_
        refine g_iload_n C dX11_smooth_33 2 rfl ?_
        refine g_iload_n C dX11_smooth_34 3 rfl ?_
        refine g_iconst (v := 1) C dX11_smooth_35 rfl ?_
        refine g_iadd C dX11_smooth_36 ?_
        refine g_iload_n C dX11_smooth_37 2 rfl ?_
        obtain ⟨P_4, hP, h⟩ := h
        refine g_callV (As := [.int a1, .int a2, .int (a3 + 1), .int a2]) (rest := []) C (mX11_without l D Y h0 0 v_tape taped (.ref q_number) v_isTold v_name q_sortOf q_first q_second v_degree v_colours q_signBy v_own lines size atF place sort value fault faultPlace lastFault lastPlace q_sF v_kept undoable hasImage q_power q_table q_marks q_row rowOf areSums isSieved v_lastOf blocks v_inBlock v_atQuotient v_small drawn sF row marks power table sortOf first second signBy a1 a2 (a3 + 1) a2 P_4 hP) dX11_smooth_38 rfl wM_X11_343 wI_X11_without wV_X11_without wN_X11 wC_X11_without (n := 4) (by decide +kernel) rfl (q0 := 0) rfl rfl ⟨Nat.le_of_ble_eq_true rfl, Nat.le_of_ble_eq_true rfl⟩ ⟨Nat.le_of_ble_eq_true rfl, Nat.le_of_ble_eq_true rfl⟩ (Nat.le_of_ble_eq_true rfl) [0, 2, 3, 4, 5, 6, 7, 8, 9, 10] [1] rfl rfl rfl (fun v wc hv => ?_)
        obtain ⟨rF_4, rowOf_1, areSums_1, row_1, power_1, table_1, rfl, rfl, hq⟩ := hv
        replace h := h rF_4 rowOf_1 areSums_1 row_1 power_1 table_1 hq
        refine gG.perm (ws' := [oX11 h0 0 (v_tape) taped (.ref q_number) (v_isTold) (v_name) (.ref q_sortOf) (.ref q_first) (.ref q_second) (v_degree) (v_colours) (.ref q_signBy) (v_own) lines size atF place sort value fault faultPlace lastFault lastPlace (.ref q_sF) (v_kept) undoable hasImage (.ref q_power) (.ref q_table) (.ref q_marks) (.ref q_row) rowOf_1 areSums_1 isSieved (v_lastOf) blocks (v_inBlock) (v_atQuotient) (v_small) drawn, aI Y q_number 8 number, aI Y q_sF 74 sF, aI Y q_row 200001 row_1, aI Y q_marks 6251 marks, aJ Y q_power 18 power_1, aJ Y q_table 216 table_1, aI Y q_sortOf 24 sortOf, aI Y q_first 24 first, aI Y q_second 24 second, aI Y q_signBy 24 signBy]) [1, 0, 2, 3, 4, 5, 6, 7, 8, 9, 10] rfl rfl ?_
        refine g_goto (tgt := 45) C dX11_smooth_41 (by decide) ?_
        exact g_iret C hR (Nat.le_of_ble_eq_true rfl) (Nat.le_of_ble_eq_true rfl) dX11_smooth_45 ⟨rF_4, 0, rowOf_1, areSums_1, row_1, power_1, table_1, rfl, rfl, h⟩
theorem dX11_rough_0 : decode cX11_rough 0 = .ok (.aload_n 0, 1) := by decide +kernel
theorem dX11_rough_1 : decode cX11_rough 1 = .ok (.iconst 0, 1) := by decide +kernel
theorem dX11_rough_2 : decode cX11_rough 2 = .ok (.putfield 89, 3) := by decide +kernel
theorem dX11_rough_5 : decode cX11_rough 5 = .ok (.aload_n 0, 1) := by decide +kernel
theorem dX11_rough_6 : decode cX11_rough 6 = .ok (.iload_n 1, 1) := by decide +kernel
theorem dX11_rough_7 : decode cX11_rough 7 = .ok (.invokevirtual 241, 3) := by decide +kernel
theorem dX11_rough_10 : decode cX11_rough 10 = .ok (.ifCond .eq 32, 3) := by decide +kernel
theorem dX11_rough_13 : decode cX11_rough 13 = .ok (.aload_n 0, 1) := by decide +kernel
theorem dX11_rough_14 : decode cX11_rough 14 = .ok (.iload_n 2, 1) := by decide +kernel
theorem dX11_rough_15 : decode cX11_rough 15 = .ok (.iconst 0, 1) := by decide +kernel
theorem dX11_rough_16 : decode cX11_rough 16 = .ok (.invokevirtual 282, 3) := by decide +kernel
theorem dX11_rough_19 : decode cX11_rough 19 = .ok (.ifCond .eq 23, 3) := by decide +kernel
theorem dX11_rough_22 : decode cX11_rough 22 = .ok (.aload_n 0, 1) := by decide +kernel
theorem dX11_rough_23 : decode cX11_rough 23 = .ok (.iload_n 3, 1) := by decide +kernel
theorem dX11_rough_24 : decode cX11_rough 24 = .ok (.iconst 0, 1) := by decide +kernel
theorem dX11_rough_25 : decode cX11_rough 25 = .ok (.invokevirtual 282, 3) := by decide +kernel
theorem dX11_rough_28 : decode cX11_rough 28 = .ok (.ifCond .eq 14, 3) := by decide +kernel
theorem dX11_rough_31 : decode cX11_rough 31 = .ok (.aload_n 0, 1) := by decide +kernel
theorem dX11_rough_32 : decode cX11_rough 32 = .ok (.iload_n 1, 1) := by decide +kernel
theorem dX11_rough_33 : decode cX11_rough 33 = .ok (.iload_n 2, 1) := by decide +kernel
theorem dX11_rough_34 : decode cX11_rough 34 = .ok (.iconst 2, 1) := by decide +kernel
theorem dX11_rough_35 : decode cX11_rough 35 = .ok (.iload_n 3, 1) := by decide +kernel
theorem dX11_rough_36 : decode cX11_rough 36 = .ok (.invokevirtual 343, 3) := by decide +kernel
theorem dX11_rough_39 : decode cX11_rough 39 = .ok (.goto 4, 3) := by decide +kernel
theorem dX11_rough_42 : decode cX11_rough 42 = .ok (.iconst (-1), 1) := by decide +kernel
theorem dX11_rough_43 : decode cX11_rough 43 = .ok (.ireturn, 1) := by decide +kernel
/-- QuotientSumsModel.rough(III)I -/
def wX11_rough (thrown : Int32) (taped : Int32) (lines : Int32) (size : Int32) (atF : Int32) (place : Int32) (sort : Int32) (value : Int32) (fault : Int32) (faultPlace : Int32) (lastFault : Int32) (lastPlace : Int32) (undoable : Int32) (hasImage : Int32) (rowOf : Int32) (areSums : Int32) (isSieved : Int32) (blocks : Int32) (drawn : Int32) (number : Nat → Int32) (sF : Nat → Int32) (row : Nat → Int32) (marks : Nat → Int32) (power : Nat → Int64) (table : Nat → Int64) (sortOf : Nat → Int32) (first : Nat → Int32) (second : Nat → Int32) (signBy : Nat → Int32) (a1 : Int32) (a2 : Int32) (a3 : Int32) (Q : (Int32) → (Int32) → (Int32) → (Int32) → (Nat → Int32) → (Nat → Int64) → (Nat → Int64) → Prop) : Prop :=
  (∃ (P_1 : (Int32) → Prop), wX11_isFunction 0 taped lines size atF place sort value fault faultPlace lastFault lastPlace undoable hasImage rowOf areSums isSieved blocks drawn number a1 P_1 ∧ ∀ (rF_1 : Int32), P_1 rF_1 → ((rF_1 = 0 → (Q (-1) 0 rowOf areSums row power table)) ∧ (¬ rF_1 = 0 → (∃ (P_2 : (Int32) → Prop), wX11_isIn 0 taped lines size atF place sort value fault faultPlace lastFault lastPlace undoable hasImage rowOf areSums isSieved blocks drawn sF a2 0 P_2 ∧ ∀ (rF_2 : Int32), P_2 rF_2 → ((rF_2 = 0 → (Q (-1) 0 rowOf areSums row power table)) ∧ (¬ rF_2 = 0 → (∃ (P_3 : (Int32) → Prop), wX11_isIn 0 taped lines size atF place sort value fault faultPlace lastFault lastPlace undoable hasImage rowOf areSums isSieved blocks drawn sF a3 0 P_3 ∧ ∀ (rF_3 : Int32), P_3 rF_3 → ((rF_3 = 0 → (Q (-1) 0 rowOf areSums row power table)) ∧ (¬ rF_3 = 0 → (∃ (P_4 : (Int32) → (Int32) → (Int32) → (Nat → Int32) → (Nat → Int64) → (Nat → Int64) → Prop), wX11_without 0 taped lines size atF place sort value fault faultPlace lastFault lastPlace undoable hasImage rowOf areSums isSieved blocks drawn sF row marks power table sortOf first second signBy a1 a2 2 a3 P_4 ∧ ∀ (rF_4 : Int32) (rowOf_1 : Int32) (areSums_1 : Int32) (row_1 : Nat → Int32) (power_1 : Nat → Int64) (table_1 : Nat → Int64), P_4 rF_4 rowOf_1 areSums_1 row_1 power_1 table_1 → (Q rF_4 0 rowOf_1 areSums_1 row_1 power_1 table_1)))))))))))
set_option maxHeartbeats 4000000 in
set_option maxRecDepth 100000 in
theorem mX11_rough (l : Launch) (D : va_G) (Y : Nat → ClassId) (h0 : Nat) (thrown : Int32) (v_tape : Value) (taped : Int32) (q_number : Nat) (v_isTold : Value) (v_name : Value) (q_sortOf : Nat) (q_first : Nat) (q_second : Nat) (v_degree : Value) (v_colours : Value) (q_signBy : Nat) (v_own : Value) (lines : Int32) (size : Int32) (atF : Int32) (place : Int32) (sort : Int32) (value : Int32) (fault : Int32) (faultPlace : Int32) (lastFault : Int32) (lastPlace : Int32) (q_sF : Nat) (v_kept : Value) (undoable : Int32) (hasImage : Int32) (q_power : Nat) (q_table : Nat) (q_marks : Nat) (q_row : Nat) (rowOf : Int32) (areSums : Int32) (isSieved : Int32) (v_lastOf : Value) (blocks : Int32) (v_inBlock : Value) (v_atQuotient : Value) (v_small : Value) (drawn : Int32) (number : Nat → Int32) (sF : Nat → Int32) (row : Nat → Int32) (marks : Nat → Int32) (power : Nat → Int64) (table : Nat → Int64) (sortOf : Nat → Int32) (first : Nat → Int32) (second : Nat → Int32) (signBy : Nat → Int32) (a1 : Int32) (a2 : Int32) (a3 : Int32) (Q : (Int32) → (Int32) → (Int32) → (Int32) → (Nat → Int32) → (Nat → Int64) → (Nat → Int64) → Prop) (h : wX11_rough thrown taped lines size atF place sort value fault faultPlace lastFault lastPlace undoable hasImage rowOf areSums isSieved blocks drawn number sF row marks power table sortOf first second signBy a1 a2 a3 Q) : gM l D Y yX11_rough cX11_rough 4 (some .int) 4 104 0 0 [.ref h0, .int a1, .int a2, .int a3] [oX11 h0 thrown (v_tape) taped (.ref q_number) (v_isTold) (v_name) (.ref q_sortOf) (.ref q_first) (.ref q_second) (v_degree) (v_colours) (.ref q_signBy) (v_own) lines size atF place sort value fault faultPlace lastFault lastPlace (.ref q_sF) (v_kept) undoable hasImage (.ref q_power) (.ref q_table) (.ref q_marks) (.ref q_row) rowOf areSums isSieved (v_lastOf) blocks (v_inBlock) (v_atQuotient) (v_small) drawn, aI Y q_number 8 number, aI Y q_sF 74 sF, aI Y q_row 200001 row, aI Y q_marks 6251 marks, aJ Y q_power 18 power, aJ Y q_table 216 table, aI Y q_sortOf 24 sortOf, aI Y q_first 24 first, aI Y q_second 24 second, aI Y q_signBy 24 signBy] (fun v w => ∃ r : Int32, ∃ thrown' : Int32, ∃ rowOf' : Int32, ∃ areSums' : Int32, ∃ row' : Nat → Int32, ∃ power' : Nat → Int64, ∃ table' : Nat → Int64, v = some (.int r) ∧ w = [oX11 h0 thrown' (v_tape) taped (.ref q_number) (v_isTold) (v_name) (.ref q_sortOf) (.ref q_first) (.ref q_second) (v_degree) (v_colours) (.ref q_signBy) (v_own) lines size atF place sort value fault faultPlace lastFault lastPlace (.ref q_sF) (v_kept) undoable hasImage (.ref q_power) (.ref q_table) (.ref q_marks) (.ref q_row) rowOf' areSums' isSieved (v_lastOf) blocks (v_inBlock) (v_atQuotient) (v_small) drawn, aI Y q_number 8 number, aI Y q_sF 74 sF, aI Y q_row 200001 row', aI Y q_marks 6251 marks, aJ Y q_power 18 power', aJ Y q_table 216 table', aI Y q_sortOf 24 sortOf, aI Y q_first 24 first, aI Y q_second 24 second, aI Y q_signBy 24 signBy] ∧ Q r thrown' rowOf' areSums' row' power' table') := by
  refine gM_of (own := RX11) (by decide +kernel) rfl (Nat.le_of_ble_eq_true rfl) rfl (fun E C hR => ?_)
  unfold wX11_rough at h
  refine g_aload_n C dX11_rough_0 0 rfl ?_
  refine g_iconst (v := 0) C dX11_rough_1 rfl ?_
  refine g_put C inX11 tyX11 tyX11_ok nmX11 0 rfl rfl 0 (by decide) wF_X11_89 rfl rfl rfl (Nat.le_of_ble_eq_true rfl) (ws' := [oX11 h0 0 (v_tape) taped (.ref q_number) (v_isTold) (v_name) (.ref q_sortOf) (.ref q_first) (.ref q_second) (v_degree) (v_colours) (.ref q_signBy) (v_own) lines size atF place sort value fault faultPlace lastFault lastPlace (.ref q_sF) (v_kept) undoable hasImage (.ref q_power) (.ref q_table) (.ref q_marks) (.ref q_row) rowOf areSums isSieved (v_lastOf) blocks (v_inBlock) (v_atQuotient) (v_small) drawn, aI Y q_number 8 number, aI Y q_sF 74 sF, aI Y q_row 200001 row, aI Y q_marks 6251 marks, aJ Y q_power 18 power, aJ Y q_table 216 table, aI Y q_sortOf 24 sortOf, aI Y q_first 24 first, aI Y q_second 24 second, aI Y q_signBy 24 signBy]) rfl dX11_rough_2 ?_
  refine g_aload_n C dX11_rough_5 0 rfl ?_
  refine g_iload_n C dX11_rough_6 1 rfl ?_
  obtain ⟨P_1, hP, h⟩ := h
  refine g_callV (As := [.int a1]) (rest := []) C (mX11_isFunction l D Y h0 0 v_tape taped q_number v_isTold v_name (.ref q_sortOf) (.ref q_first) (.ref q_second) v_degree v_colours (.ref q_signBy) v_own lines size atF place sort value fault faultPlace lastFault lastPlace (.ref q_sF) v_kept undoable hasImage (.ref q_power) (.ref q_table) (.ref q_marks) (.ref q_row) rowOf areSums isSieved v_lastOf blocks v_inBlock v_atQuotient v_small drawn number a1 P_1 hP) dX11_rough_7 rfl wM_X11_241 wI_X11_isFunction wV_X11_isFunction wN_X11 wC_X11_isFunction (n := 1) (by decide +kernel) rfl (q0 := 0) rfl rfl ⟨Nat.le_of_ble_eq_true rfl, Nat.le_of_ble_eq_true rfl⟩ ⟨Nat.le_of_ble_eq_true rfl, Nat.le_of_ble_eq_true rfl⟩ (Nat.le_of_ble_eq_true rfl) [0, 1] [2, 3, 4, 5, 6, 7, 8, 9, 10] rfl rfl rfl (fun v wc hv => ?_)
  obtain ⟨rF_1, rfl, rfl, hq⟩ := hv
  replace h := h rF_1 hq
  refine gG.perm (ws' := [oX11 h0 0 (v_tape) taped (.ref q_number) (v_isTold) (v_name) (.ref q_sortOf) (.ref q_first) (.ref q_second) (v_degree) (v_colours) (.ref q_signBy) (v_own) lines size atF place sort value fault faultPlace lastFault lastPlace (.ref q_sF) (v_kept) undoable hasImage (.ref q_power) (.ref q_table) (.ref q_marks) (.ref q_row) rowOf areSums isSieved (v_lastOf) blocks (v_inBlock) (v_atQuotient) (v_small) drawn, aI Y q_number 8 number, aI Y q_sF 74 sF, aI Y q_row 200001 row, aI Y q_marks 6251 marks, aJ Y q_power 18 power, aJ Y q_table 216 table, aI Y q_sortOf 24 sortOf, aI Y q_first 24 first, aI Y q_second 24 second, aI Y q_signBy 24 signBy]) [9, 10, 0, 1, 2, 3, 4, 5, 6, 7, 8] rfl rfl ?_
  refine g_if_eq (tgt := 42) C dX11_rough_10 (by decide) (fun c_1 => ?_) (fun c_1 => ?_)
  · replace h := h.1 c_1
    refine g_iconst (v := (-1)) C dX11_rough_42 rfl ?_
    exact g_iret C hR (Nat.le_of_ble_eq_true rfl) (Nat.le_of_ble_eq_true rfl) dX11_rough_43 ⟨(-1), 0, rowOf, areSums, row, power, table, rfl, rfl, h⟩
  · replace h := h.2 c_1
    refine g_aload_n C dX11_rough_13 0 rfl ?_
    refine g_iload_n C dX11_rough_14 2 rfl ?_
    refine g_iconst (v := 0) C dX11_rough_15 rfl ?_
    obtain ⟨P_2, hP, h⟩ := h
    refine g_callV (As := [.int a2, .int 0]) (rest := []) C (mX11_isIn l D Y h0 0 v_tape taped (.ref q_number) v_isTold v_name (.ref q_sortOf) (.ref q_first) (.ref q_second) v_degree v_colours (.ref q_signBy) v_own lines size atF place sort value fault faultPlace lastFault lastPlace q_sF v_kept undoable hasImage (.ref q_power) (.ref q_table) (.ref q_marks) (.ref q_row) rowOf areSums isSieved v_lastOf blocks v_inBlock v_atQuotient v_small drawn sF a2 0 P_2 hP) dX11_rough_16 rfl wM_X11_282 wI_X11_isIn wV_X11_isIn wN_X11 wC_X11_isIn (n := 2) (by decide +kernel) rfl (q0 := 0) rfl rfl ⟨Nat.le_of_ble_eq_true rfl, Nat.le_of_ble_eq_true rfl⟩ ⟨Nat.le_of_ble_eq_true rfl, Nat.le_of_ble_eq_true rfl⟩ (Nat.le_of_ble_eq_true rfl) [0, 2] [1, 3, 4, 5, 6, 7, 8, 9, 10] rfl rfl rfl (fun v wc hv => ?_)
    obtain ⟨rF_2, rfl, rfl, hq⟩ := hv
    replace h := h rF_2 hq
    refine gG.perm (ws' := [oX11 h0 0 (v_tape) taped (.ref q_number) (v_isTold) (v_name) (.ref q_sortOf) (.ref q_first) (.ref q_second) (v_degree) (v_colours) (.ref q_signBy) (v_own) lines size atF place sort value fault faultPlace lastFault lastPlace (.ref q_sF) (v_kept) undoable hasImage (.ref q_power) (.ref q_table) (.ref q_marks) (.ref q_row) rowOf areSums isSieved (v_lastOf) blocks (v_inBlock) (v_atQuotient) (v_small) drawn, aI Y q_number 8 number, aI Y q_sF 74 sF, aI Y q_row 200001 row, aI Y q_marks 6251 marks, aJ Y q_power 18 power, aJ Y q_table 216 table, aI Y q_sortOf 24 sortOf, aI Y q_first 24 first, aI Y q_second 24 second, aI Y q_signBy 24 signBy]) [9, 0, 10, 1, 2, 3, 4, 5, 6, 7, 8] rfl rfl ?_
    refine g_if_eq (tgt := 42) C dX11_rough_19 (by decide) (fun c_2 => ?_) (fun c_2 => ?_)
    · replace h := h.1 c_2
      refine g_iconst (v := (-1)) C dX11_rough_42 rfl ?_
      exact g_iret C hR (Nat.le_of_ble_eq_true rfl) (Nat.le_of_ble_eq_true rfl) dX11_rough_43 ⟨(-1), 0, rowOf, areSums, row, power, table, rfl, rfl, h⟩
    · replace h := h.2 c_2
      refine g_aload_n C dX11_rough_22 0 rfl ?_
      refine g_iload_n C dX11_rough_23 3 rfl ?_
      refine g_iconst (v := 0) C dX11_rough_24 rfl ?_
      obtain ⟨P_3, hP, h⟩ := h
      refine g_callV (As := [.int a3, .int 0]) (rest := []) C (mX11_isIn l D Y h0 0 v_tape taped (.ref q_number) v_isTold v_name (.ref q_sortOf) (.ref q_first) (.ref q_second) v_degree v_colours (.ref q_signBy) v_own lines size atF place sort value fault faultPlace lastFault lastPlace q_sF v_kept undoable hasImage (.ref q_power) (.ref q_table) (.ref q_marks) (.ref q_row) rowOf areSums isSieved v_lastOf blocks v_inBlock v_atQuotient v_small drawn sF a3 0 P_3 hP) dX11_rough_25 rfl wM_X11_282 wI_X11_isIn wV_X11_isIn wN_X11 wC_X11_isIn (n := 2) (by decide +kernel) rfl (q0 := 0) rfl rfl ⟨Nat.le_of_ble_eq_true rfl, Nat.le_of_ble_eq_true rfl⟩ ⟨Nat.le_of_ble_eq_true rfl, Nat.le_of_ble_eq_true rfl⟩ (Nat.le_of_ble_eq_true rfl) [0, 2] [1, 3, 4, 5, 6, 7, 8, 9, 10] rfl rfl rfl (fun v wc hv => ?_)
      obtain ⟨rF_3, rfl, rfl, hq⟩ := hv
      replace h := h rF_3 hq
      refine gG.perm (ws' := [oX11 h0 0 (v_tape) taped (.ref q_number) (v_isTold) (v_name) (.ref q_sortOf) (.ref q_first) (.ref q_second) (v_degree) (v_colours) (.ref q_signBy) (v_own) lines size atF place sort value fault faultPlace lastFault lastPlace (.ref q_sF) (v_kept) undoable hasImage (.ref q_power) (.ref q_table) (.ref q_marks) (.ref q_row) rowOf areSums isSieved (v_lastOf) blocks (v_inBlock) (v_atQuotient) (v_small) drawn, aI Y q_number 8 number, aI Y q_sF 74 sF, aI Y q_row 200001 row, aI Y q_marks 6251 marks, aJ Y q_power 18 power, aJ Y q_table 216 table, aI Y q_sortOf 24 sortOf, aI Y q_first 24 first, aI Y q_second 24 second, aI Y q_signBy 24 signBy]) [9, 0, 10, 1, 2, 3, 4, 5, 6, 7, 8] rfl rfl ?_
      refine g_if_eq (tgt := 42) C dX11_rough_28 (by decide) (fun c_3 => ?_) (fun c_3 => ?_)
      · replace h := h.1 c_3
        refine g_iconst (v := (-1)) C dX11_rough_42 rfl ?_
        exact g_iret C hR (Nat.le_of_ble_eq_true rfl) (Nat.le_of_ble_eq_true rfl) dX11_rough_43 ⟨(-1), 0, rowOf, areSums, row, power, table, rfl, rfl, h⟩
      · replace h := h.2 c_3
        refine g_aload_n C dX11_rough_31 0 rfl ?_
        refine g_iload_n C dX11_rough_32 1 rfl ?_
        refine g_iload_n C dX11_rough_33 2 rfl ?_
        refine g_iconst (v := 2) C dX11_rough_34 rfl ?_
        refine g_iload_n C dX11_rough_35 3 rfl ?_
        obtain ⟨P_4, hP, h⟩ := h
        refine g_callV (As := [.int a1, .int a2, .int 2, .int a3]) (rest := []) C (mX11_without l D Y h0 0 v_tape taped (.ref q_number) v_isTold v_name q_sortOf q_first q_second v_degree v_colours q_signBy v_own lines size atF place sort value fault faultPlace lastFault lastPlace q_sF v_kept undoable hasImage q_power q_table q_marks q_row rowOf areSums isSieved v_lastOf blocks v_inBlock v_atQuotient v_small drawn sF row marks power table sortOf first second signBy a1 a2 2 a3 P_4 hP) dX11_rough_36 rfl wM_X11_343 wI_X11_without wV_X11_without wN_X11 wC_X11_without (n := 4) (by decide +kernel) rfl (q0 := 0) rfl rfl ⟨Nat.le_of_ble_eq_true rfl, Nat.le_of_ble_eq_true rfl⟩ ⟨Nat.le_of_ble_eq_true rfl, Nat.le_of_ble_eq_true rfl⟩ (Nat.le_of_ble_eq_true rfl) [0, 2, 3, 4, 5, 6, 7, 8, 9, 10] [1] rfl rfl rfl (fun v wc hv => ?_)
        obtain ⟨rF_4, rowOf_1, areSums_1, row_1, power_1, table_1, rfl, rfl, hq⟩ := hv
        replace h := h rF_4 rowOf_1 areSums_1 row_1 power_1 table_1 hq
        refine gG.perm (ws' := [oX11 h0 0 (v_tape) taped (.ref q_number) (v_isTold) (v_name) (.ref q_sortOf) (.ref q_first) (.ref q_second) (v_degree) (v_colours) (.ref q_signBy) (v_own) lines size atF place sort value fault faultPlace lastFault lastPlace (.ref q_sF) (v_kept) undoable hasImage (.ref q_power) (.ref q_table) (.ref q_marks) (.ref q_row) rowOf_1 areSums_1 isSieved (v_lastOf) blocks (v_inBlock) (v_atQuotient) (v_small) drawn, aI Y q_number 8 number, aI Y q_sF 74 sF, aI Y q_row 200001 row_1, aI Y q_marks 6251 marks, aJ Y q_power 18 power_1, aJ Y q_table 216 table_1, aI Y q_sortOf 24 sortOf, aI Y q_first 24 first, aI Y q_second 24 second, aI Y q_signBy 24 signBy]) [1, 0, 2, 3, 4, 5, 6, 7, 8, 9, 10] rfl rfl ?_
        refine g_goto (tgt := 43) C dX11_rough_39 (by decide) ?_
        exact g_iret C hR (Nat.le_of_ble_eq_true rfl) (Nat.le_of_ble_eq_true rfl) dX11_rough_43 ⟨rF_4, 0, rowOf_1, areSums_1, row_1, power_1, table_1, rfl, rfl, h⟩
theorem dX11_isRest_0 : decode cX11_isRest 0 = .ok (.iload_n 1, 1) := by decide +kernel
theorem dX11_isRest_1 : decode cX11_isRest 1 = .ok (.ifCond .lt 17, 3) := by decide +kernel
theorem dX11_isRest_4 : decode cX11_isRest 4 = .ok (.iload_n 1, 1) := by decide +kernel
theorem dX11_isRest_5 : decode cX11_isRest 5 = .ok (.aload_n 0, 1) := by decide +kernel
theorem dX11_isRest_6 : decode cX11_isRest 6 = .ok (.getfield 48, 3) := by decide +kernel
theorem dX11_isRest_9 : decode cX11_isRest 9 = .ok (.iconst 1, 1) := by decide +kernel
theorem dX11_isRest_10 : decode cX11_isRest 10 = .ok (.iaload, 1) := by decide +kernel
theorem dX11_isRest_11 : decode cX11_isRest 11 = .ok (.if_icmp .ge 7, 3) := by decide +kernel
theorem dX11_isRest_14 : decode cX11_isRest 14 = .ok (.iconst 1, 1) := by decide +kernel
theorem dX11_isRest_15 : decode cX11_isRest 15 = .ok (.goto 4, 3) := by decide +kernel
theorem dX11_isRest_18 : decode cX11_isRest 18 = .ok (.iconst 0, 1) := by decide +kernel
theorem dX11_isRest_19 : decode cX11_isRest 19 = .ok (.ireturn, 1) := by decide +kernel
/-- QuotientSumsModel.isRest(I)Z -/
def wX11_isRest (thrown : Int32) (taped : Int32) (lines : Int32) (size : Int32) (atF : Int32) (place : Int32) (sort : Int32) (value : Int32) (fault : Int32) (faultPlace : Int32) (lastFault : Int32) (lastPlace : Int32) (undoable : Int32) (hasImage : Int32) (rowOf : Int32) (areSums : Int32) (isSieved : Int32) (blocks : Int32) (drawn : Int32) (sF : Nat → Int32) (a1 : Int32) (Q : (Int32) → Prop) : Prop :=
  ((a1 < 0 → (Q 0)) ∧ (¬ a1 < 0 → (((sF 1) ≤ a1 → (Q 0)) ∧ (¬ (sF 1) ≤ a1 → (Q 1)))))
set_option maxHeartbeats 4000000 in
set_option maxRecDepth 100000 in
theorem mX11_isRest (l : Launch) (D : va_G) (Y : Nat → ClassId) (h0 : Nat) (thrown : Int32) (v_tape : Value) (taped : Int32) (v_number : Value) (v_isTold : Value) (v_name : Value) (v_sortOf : Value) (v_first : Value) (v_second : Value) (v_degree : Value) (v_colours : Value) (v_signBy : Value) (v_own : Value) (lines : Int32) (size : Int32) (atF : Int32) (place : Int32) (sort : Int32) (value : Int32) (fault : Int32) (faultPlace : Int32) (lastFault : Int32) (lastPlace : Int32) (q_sF : Nat) (v_kept : Value) (undoable : Int32) (hasImage : Int32) (v_power : Value) (v_table : Value) (v_marks : Value) (v_row : Value) (rowOf : Int32) (areSums : Int32) (isSieved : Int32) (v_lastOf : Value) (blocks : Int32) (v_inBlock : Value) (v_atQuotient : Value) (v_small : Value) (drawn : Int32) (sF : Nat → Int32) (a1 : Int32) (Q : (Int32) → Prop) (h : wX11_isRest thrown taped lines size atF place sort value fault faultPlace lastFault lastPlace undoable hasImage rowOf areSums isSieved blocks drawn sF a1 Q) : gM l D Y yX11_isRest cX11_isRest 2 (some .boolean) 0 0 0 0 [.ref h0, .int a1] [oX11 h0 thrown (v_tape) taped (v_number) (v_isTold) (v_name) (v_sortOf) (v_first) (v_second) (v_degree) (v_colours) (v_signBy) (v_own) lines size atF place sort value fault faultPlace lastFault lastPlace (.ref q_sF) (v_kept) undoable hasImage (v_power) (v_table) (v_marks) (v_row) rowOf areSums isSieved (v_lastOf) blocks (v_inBlock) (v_atQuotient) (v_small) drawn, aI Y q_sF 74 sF] (fun v w => ∃ r : Int32, v = some (.int r) ∧ w = [oX11 h0 thrown (v_tape) taped (v_number) (v_isTold) (v_name) (v_sortOf) (v_first) (v_second) (v_degree) (v_colours) (v_signBy) (v_own) lines size atF place sort value fault faultPlace lastFault lastPlace (.ref q_sF) (v_kept) undoable hasImage (v_power) (v_table) (v_marks) (v_row) rowOf areSums isSieved (v_lastOf) blocks (v_inBlock) (v_atQuotient) (v_small) drawn, aI Y q_sF 74 sF] ∧ Q r) := by
  refine gM_of (own := RX11) (by decide +kernel) rfl (Nat.le_of_ble_eq_true rfl) rfl (fun E C hR => ?_)
  unfold wX11_isRest at h
  refine g_iload_n C dX11_isRest_0 1 rfl ?_
  refine g_if_lt (tgt := 18) C dX11_isRest_1 (by decide) (fun c_1 => ?_) (fun c_1 => ?_)
  · replace h := h.1 c_1
    refine g_iconst (v := 0) C dX11_isRest_18 rfl ?_
    exact g_zret C hR (by decide) (Nat.le_of_ble_eq_true rfl) (Nat.le_of_ble_eq_true rfl) dX11_isRest_19 ⟨0, rfl, rfl, h⟩
  · replace h := h.2 c_1
    refine g_iload_n C dX11_isRest_4 1 rfl ?_
    refine g_aload_n C dX11_isRest_5 0 rfl ?_
    refine g_get C inX11 0 rfl rfl 23 (by decide) wF_X11_48 rfl dX11_isRest_6 ?_
    refine g_iconst (v := 1) C dX11_isRest_9 rfl ?_
    refine g_iald C 1 rfl (by unfold vp_in; decide) dX11_isRest_10 ?_
    refine g_icmp_ge (tgt := 18) C dX11_isRest_11 (by decide) (fun c_2 => ?_) (fun c_2 => ?_)
    · replace h := h.1 c_2
      refine g_iconst (v := 0) C dX11_isRest_18 rfl ?_
      exact g_zret C hR (by decide) (Nat.le_of_ble_eq_true rfl) (Nat.le_of_ble_eq_true rfl) dX11_isRest_19 ⟨0, rfl, rfl, h⟩
    · replace h := h.2 c_2
      refine g_iconst (v := 1) C dX11_isRest_14 rfl ?_
      refine g_goto (tgt := 19) C dX11_isRest_15 (by decide) ?_
      exact g_zret C hR (by decide) (Nat.le_of_ble_eq_true rfl) (Nat.le_of_ble_eq_true rfl) dX11_isRest_19 ⟨1, rfl, rfl, h⟩
theorem dX11_first_0 : decode cX11_first 0 = .ok (.aload_n 0, 1) := by decide +kernel
theorem dX11_first_1 : decode cX11_first 1 = .ok (.iconst 0, 1) := by decide +kernel
theorem dX11_first_2 : decode cX11_first 2 = .ok (.putfield 89, 3) := by decide +kernel
theorem dX11_first_5 : decode cX11_first 5 = .ok (.aload_n 0, 1) := by decide +kernel
theorem dX11_first_6 : decode cX11_first 6 = .ok (.iload_n 1, 1) := by decide +kernel
theorem dX11_first_7 : decode cX11_first 7 = .ok (.invokevirtual 241, 3) := by decide +kernel
theorem dX11_first_10 : decode cX11_first 10 = .ok (.ifCond .eq 11, 3) := by decide +kernel
theorem dX11_first_13 : decode cX11_first 13 = .ok (.aload_n 0, 1) := by decide +kernel
theorem dX11_first_14 : decode cX11_first 14 = .ok (.iload_n 2, 1) := by decide +kernel
theorem dX11_first_15 : decode cX11_first 15 = .ok (.invokevirtual 347, 3) := by decide +kernel
theorem dX11_first_18 : decode cX11_first 18 = .ok (.ifCond .ne 5, 3) := by decide +kernel
theorem dX11_first_21 : decode cX11_first 21 = .ok (.iconst (-1), 1) := by decide +kernel
theorem dX11_first_22 : decode cX11_first 22 = .ok (.ireturn, 1) := by decide +kernel
theorem dX11_first_23 : decode cX11_first 23 = .ok (.aload_n 0, 1) := by decide +kernel
theorem dX11_first_24 : decode cX11_first 24 = .ok (.iload_n 1, 1) := by decide +kernel
theorem dX11_first_25 : decode cX11_first 25 = .ok (.invokevirtual 311, 3) := by decide +kernel
theorem dX11_first_28 : decode cX11_first 28 = .ok (.iconst 1, 1) := by decide +kernel
theorem dX11_first_29 : decode cX11_first 29 = .ok (.istore_n 3, 1) := by decide +kernel
theorem dX11_first_30 : decode cX11_first 30 = .ok (.iload_n 3, 1) := by decide +kernel
theorem dX11_first_31 : decode cX11_first 31 = .ok (.aload_n 0, 1) := by decide +kernel
theorem dX11_first_32 : decode cX11_first 32 = .ok (.getfield 48, 3) := by decide +kernel
theorem dX11_first_35 : decode cX11_first 35 = .ok (.iconst 0, 1) := by decide +kernel
theorem dX11_first_36 : decode cX11_first 36 = .ok (.iaload, 1) := by decide +kernel
theorem dX11_first_37 : decode cX11_first 37 = .ok (.if_icmp .gt 21, 3) := by decide +kernel
theorem dX11_first_40 : decode cX11_first 40 = .ok (.aload_n 0, 1) := by decide +kernel
theorem dX11_first_41 : decode cX11_first 41 = .ok (.getfield 65, 3) := by decide +kernel
theorem dX11_first_44 : decode cX11_first 44 = .ok (.iload_n 3, 1) := by decide +kernel
theorem dX11_first_45 : decode cX11_first 45 = .ok (.iaload, 1) := by decide +kernel
theorem dX11_first_46 : decode cX11_first 46 = .ok (.iload_n 2, 1) := by decide +kernel
theorem dX11_first_47 : decode cX11_first 47 = .ok (.if_icmp .ne 5, 3) := by decide +kernel
theorem dX11_first_50 : decode cX11_first 50 = .ok (.iload_n 3, 1) := by decide +kernel
theorem dX11_first_51 : decode cX11_first 51 = .ok (.ireturn, 1) := by decide +kernel
theorem dX11_first_52 : decode cX11_first 52 = .ok (.iinc 3 1, 3) := by decide +kernel
theorem dX11_first_55 : decode cX11_first 55 = .ok (.goto (-25), 3) := by decide +kernel
theorem dX11_first_58 : decode cX11_first 58 = .ok (.bipush (-2), 2) := by decide +kernel
theorem dX11_first_60 : decode cX11_first 60 = .ok (.ireturn, 1) := by decide +kernel
/-- QuotientSumsModel.first(II)I -/
def wX11_first (thrown : Int32) (taped : Int32) (lines : Int32) (size : Int32) (atF : Int32) (place : Int32) (sort : Int32) (value : Int32) (fault : Int32) (faultPlace : Int32) (lastFault : Int32) (lastPlace : Int32) (undoable : Int32) (hasImage : Int32) (rowOf : Int32) (areSums : Int32) (isSieved : Int32) (blocks : Int32) (drawn : Int32) (number : Nat → Int32) (sF : Nat → Int32) (row : Nat → Int32) (marks : Nat → Int32) (power : Nat → Int64) (table : Nat → Int64) (sortOf : Nat → Int32) (first : Nat → Int32) (second : Nat → Int32) (signBy : Nat → Int32) (a1 : Int32) (a2 : Int32) (Q : (Int32) → (Int32) → (Int32) → (Int32) → (Nat → Int32) → (Nat → Int64) → (Nat → Int64) → Prop) : Prop :=
  (∃ (P_1 : (Int32) → Prop), wX11_isFunction 0 taped lines size atF place sort value fault faultPlace lastFault lastPlace undoable hasImage rowOf areSums isSieved blocks drawn number a1 P_1 ∧ ∀ (rF_1 : Int32), P_1 rF_1 → ((rF_1 = 0 → (Q (-1) 0 rowOf areSums row power table)) ∧ (¬ rF_1 = 0 → (∃ (P_2 : (Int32) → Prop), wX11_isRest 0 taped lines size atF place sort value fault faultPlace lastFault lastPlace undoable hasImage rowOf areSums isSieved blocks drawn sF a2 P_2 ∧ ∀ (rF_2 : Int32), P_2 rF_2 → ((¬ rF_2 = 0 → (∃ (P_3 : (Int32) → (Int32) → (Nat → Int32) → (Nat → Int64) → (Nat → Int64) → Prop), wX11_laysSums 0 taped lines size atF place sort value fault faultPlace lastFault lastPlace undoable hasImage rowOf areSums isSieved blocks drawn sF row marks power table sortOf first second signBy a1 P_3 ∧ ∀ (rowOf_1 : Int32) (areSums_1 : Int32) (row_1 : Nat → Int32) (power_1 : Nat → Int64) (table_1 : Nat → Int64), P_3 rowOf_1 areSums_1 row_1 power_1 table_1 → (∃ (Inv_1 : (Int32) → Prop) (Mea_1 : (Int32) → Nat), Inv_1 1 ∧ ∀ (x3_1 : Int32), Inv_1 x3_1 → (((sF 0) < x3_1 → (Q (-2) 0 rowOf_1 areSums_1 row_1 power_1 table_1)) ∧ (¬ (sF 0) < x3_1 → (vp_in x3_1 200001 ∧ ((¬ (row_1 x3_1.toNatClampNeg) = a2 → (Inv_1 (x3_1 + 1) ∧ Mea_1 (x3_1 + 1) < Mea_1 x3_1)) ∧ ((row_1 x3_1.toNatClampNeg) = a2 → (Q x3_1 0 rowOf_1 areSums_1 row_1 power_1 table_1))))))))) ∧ (rF_2 = 0 → (Q (-1) 0 rowOf areSums row power table)))))))
set_option maxHeartbeats 4000000 in
set_option maxRecDepth 100000 in
theorem mX11_first (l : Launch) (D : va_G) (Y : Nat → ClassId) (h0 : Nat) (thrown : Int32) (v_tape : Value) (taped : Int32) (q_number : Nat) (v_isTold : Value) (v_name : Value) (q_sortOf : Nat) (q_first : Nat) (q_second : Nat) (v_degree : Value) (v_colours : Value) (q_signBy : Nat) (v_own : Value) (lines : Int32) (size : Int32) (atF : Int32) (place : Int32) (sort : Int32) (value : Int32) (fault : Int32) (faultPlace : Int32) (lastFault : Int32) (lastPlace : Int32) (q_sF : Nat) (v_kept : Value) (undoable : Int32) (hasImage : Int32) (q_power : Nat) (q_table : Nat) (q_marks : Nat) (q_row : Nat) (rowOf : Int32) (areSums : Int32) (isSieved : Int32) (v_lastOf : Value) (blocks : Int32) (v_inBlock : Value) (v_atQuotient : Value) (v_small : Value) (drawn : Int32) (number : Nat → Int32) (sF : Nat → Int32) (row : Nat → Int32) (marks : Nat → Int32) (power : Nat → Int64) (table : Nat → Int64) (sortOf : Nat → Int32) (first : Nat → Int32) (second : Nat → Int32) (signBy : Nat → Int32) (a1 : Int32) (a2 : Int32) (Q : (Int32) → (Int32) → (Int32) → (Int32) → (Nat → Int32) → (Nat → Int64) → (Nat → Int64) → Prop) (h : wX11_first thrown taped lines size atF place sort value fault faultPlace lastFault lastPlace undoable hasImage rowOf areSums isSieved blocks drawn number sF row marks power table sortOf first second signBy a1 a2 Q) : gM l D Y yX11_first cX11_first 4 (some .int) 4 99 0 0 [.ref h0, .int a1, .int a2] [oX11 h0 thrown (v_tape) taped (.ref q_number) (v_isTold) (v_name) (.ref q_sortOf) (.ref q_first) (.ref q_second) (v_degree) (v_colours) (.ref q_signBy) (v_own) lines size atF place sort value fault faultPlace lastFault lastPlace (.ref q_sF) (v_kept) undoable hasImage (.ref q_power) (.ref q_table) (.ref q_marks) (.ref q_row) rowOf areSums isSieved (v_lastOf) blocks (v_inBlock) (v_atQuotient) (v_small) drawn, aI Y q_number 8 number, aI Y q_sF 74 sF, aI Y q_row 200001 row, aI Y q_marks 6251 marks, aJ Y q_power 18 power, aJ Y q_table 216 table, aI Y q_sortOf 24 sortOf, aI Y q_first 24 first, aI Y q_second 24 second, aI Y q_signBy 24 signBy] (fun v w => ∃ r : Int32, ∃ thrown' : Int32, ∃ rowOf' : Int32, ∃ areSums' : Int32, ∃ row' : Nat → Int32, ∃ power' : Nat → Int64, ∃ table' : Nat → Int64, v = some (.int r) ∧ w = [oX11 h0 thrown' (v_tape) taped (.ref q_number) (v_isTold) (v_name) (.ref q_sortOf) (.ref q_first) (.ref q_second) (v_degree) (v_colours) (.ref q_signBy) (v_own) lines size atF place sort value fault faultPlace lastFault lastPlace (.ref q_sF) (v_kept) undoable hasImage (.ref q_power) (.ref q_table) (.ref q_marks) (.ref q_row) rowOf' areSums' isSieved (v_lastOf) blocks (v_inBlock) (v_atQuotient) (v_small) drawn, aI Y q_number 8 number, aI Y q_sF 74 sF, aI Y q_row 200001 row', aI Y q_marks 6251 marks, aJ Y q_power 18 power', aJ Y q_table 216 table', aI Y q_sortOf 24 sortOf, aI Y q_first 24 first, aI Y q_second 24 second, aI Y q_signBy 24 signBy] ∧ Q r thrown' rowOf' areSums' row' power' table') := by
  refine gM_of (own := RX11) (by decide +kernel) rfl (Nat.le_of_ble_eq_true rfl) rfl (fun E C hR => ?_)
  unfold wX11_first at h
  refine g_aload_n C dX11_first_0 0 rfl ?_
  refine g_iconst (v := 0) C dX11_first_1 rfl ?_
  refine g_put C inX11 tyX11 tyX11_ok nmX11 0 rfl rfl 0 (by decide) wF_X11_89 rfl rfl rfl (Nat.le_of_ble_eq_true rfl) (ws' := [oX11 h0 0 (v_tape) taped (.ref q_number) (v_isTold) (v_name) (.ref q_sortOf) (.ref q_first) (.ref q_second) (v_degree) (v_colours) (.ref q_signBy) (v_own) lines size atF place sort value fault faultPlace lastFault lastPlace (.ref q_sF) (v_kept) undoable hasImage (.ref q_power) (.ref q_table) (.ref q_marks) (.ref q_row) rowOf areSums isSieved (v_lastOf) blocks (v_inBlock) (v_atQuotient) (v_small) drawn, aI Y q_number 8 number, aI Y q_sF 74 sF, aI Y q_row 200001 row, aI Y q_marks 6251 marks, aJ Y q_power 18 power, aJ Y q_table 216 table, aI Y q_sortOf 24 sortOf, aI Y q_first 24 first, aI Y q_second 24 second, aI Y q_signBy 24 signBy]) rfl dX11_first_2 ?_
  refine g_aload_n C dX11_first_5 0 rfl ?_
  refine g_iload_n C dX11_first_6 1 rfl ?_
  obtain ⟨P_1, hP, h⟩ := h
  refine g_callV (As := [.int a1]) (rest := []) C (mX11_isFunction l D Y h0 0 v_tape taped q_number v_isTold v_name (.ref q_sortOf) (.ref q_first) (.ref q_second) v_degree v_colours (.ref q_signBy) v_own lines size atF place sort value fault faultPlace lastFault lastPlace (.ref q_sF) v_kept undoable hasImage (.ref q_power) (.ref q_table) (.ref q_marks) (.ref q_row) rowOf areSums isSieved v_lastOf blocks v_inBlock v_atQuotient v_small drawn number a1 P_1 hP) dX11_first_7 rfl wM_X11_241 wI_X11_isFunction wV_X11_isFunction wN_X11 wC_X11_isFunction (n := 1) (by decide +kernel) rfl (q0 := 0) rfl rfl ⟨Nat.le_of_ble_eq_true rfl, Nat.le_of_ble_eq_true rfl⟩ ⟨Nat.le_of_ble_eq_true rfl, Nat.le_of_ble_eq_true rfl⟩ (Nat.le_of_ble_eq_true rfl) [0, 1] [2, 3, 4, 5, 6, 7, 8, 9, 10] rfl rfl rfl (fun v wc hv => ?_)
  obtain ⟨rF_1, rfl, rfl, hq⟩ := hv
  replace h := h rF_1 hq
  refine gG.perm (ws' := [oX11 h0 0 (v_tape) taped (.ref q_number) (v_isTold) (v_name) (.ref q_sortOf) (.ref q_first) (.ref q_second) (v_degree) (v_colours) (.ref q_signBy) (v_own) lines size atF place sort value fault faultPlace lastFault lastPlace (.ref q_sF) (v_kept) undoable hasImage (.ref q_power) (.ref q_table) (.ref q_marks) (.ref q_row) rowOf areSums isSieved (v_lastOf) blocks (v_inBlock) (v_atQuotient) (v_small) drawn, aI Y q_number 8 number, aI Y q_sF 74 sF, aI Y q_row 200001 row, aI Y q_marks 6251 marks, aJ Y q_power 18 power, aJ Y q_table 216 table, aI Y q_sortOf 24 sortOf, aI Y q_first 24 first, aI Y q_second 24 second, aI Y q_signBy 24 signBy]) [9, 10, 0, 1, 2, 3, 4, 5, 6, 7, 8] rfl rfl ?_
  refine g_if_eq (tgt := 21) C dX11_first_10 (by decide) (fun c_1 => ?_) (fun c_1 => ?_)
  · replace h := h.1 c_1
    refine g_iconst (v := (-1)) C dX11_first_21 rfl ?_
    exact g_iret C hR (Nat.le_of_ble_eq_true rfl) (Nat.le_of_ble_eq_true rfl) dX11_first_22 ⟨(-1), 0, rowOf, areSums, row, power, table, rfl, rfl, h⟩
  · replace h := h.2 c_1
    refine g_aload_n C dX11_first_13 0 rfl ?_
    refine g_iload_n C dX11_first_14 2 rfl ?_
    obtain ⟨P_2, hP, h⟩ := h
    refine g_callV (As := [.int a2]) (rest := []) C (mX11_isRest l D Y h0 0 v_tape taped (.ref q_number) v_isTold v_name (.ref q_sortOf) (.ref q_first) (.ref q_second) v_degree v_colours (.ref q_signBy) v_own lines size atF place sort value fault faultPlace lastFault lastPlace q_sF v_kept undoable hasImage (.ref q_power) (.ref q_table) (.ref q_marks) (.ref q_row) rowOf areSums isSieved v_lastOf blocks v_inBlock v_atQuotient v_small drawn sF a2 P_2 hP) dX11_first_15 rfl wM_X11_347 wI_X11_isRest wV_X11_isRest wN_X11 wC_X11_isRest (n := 1) (by decide +kernel) rfl (q0 := 0) rfl rfl ⟨Nat.le_of_ble_eq_true rfl, Nat.le_of_ble_eq_true rfl⟩ ⟨Nat.le_of_ble_eq_true rfl, Nat.le_of_ble_eq_true rfl⟩ (Nat.le_of_ble_eq_true rfl) [0, 2] [1, 3, 4, 5, 6, 7, 8, 9, 10] rfl rfl rfl (fun v wc hv => ?_)
    obtain ⟨rF_2, rfl, rfl, hq⟩ := hv
    replace h := h rF_2 hq
    refine gG.perm (ws' := [oX11 h0 0 (v_tape) taped (.ref q_number) (v_isTold) (v_name) (.ref q_sortOf) (.ref q_first) (.ref q_second) (v_degree) (v_colours) (.ref q_signBy) (v_own) lines size atF place sort value fault faultPlace lastFault lastPlace (.ref q_sF) (v_kept) undoable hasImage (.ref q_power) (.ref q_table) (.ref q_marks) (.ref q_row) rowOf areSums isSieved (v_lastOf) blocks (v_inBlock) (v_atQuotient) (v_small) drawn, aI Y q_number 8 number, aI Y q_sF 74 sF, aI Y q_row 200001 row, aI Y q_marks 6251 marks, aJ Y q_power 18 power, aJ Y q_table 216 table, aI Y q_sortOf 24 sortOf, aI Y q_first 24 first, aI Y q_second 24 second, aI Y q_signBy 24 signBy]) [9, 0, 10, 1, 2, 3, 4, 5, 6, 7, 8] rfl rfl ?_
    refine g_if_ne (tgt := 23) C dX11_first_18 (by decide) (fun c_2 => ?_) (fun c_2 => ?_)
    · replace h := h.1 c_2
      refine g_aload_n C dX11_first_23 0 rfl ?_
      refine g_iload_n C dX11_first_24 1 rfl ?_
      obtain ⟨P_3, hP, h⟩ := h
      refine g_callV (As := [.int a1]) (rest := []) C (mX11_laysSums l D Y h0 0 v_tape taped (.ref q_number) v_isTold v_name q_sortOf q_first q_second v_degree v_colours q_signBy v_own lines size atF place sort value fault faultPlace lastFault lastPlace q_sF v_kept undoable hasImage q_power q_table q_marks q_row rowOf areSums isSieved v_lastOf blocks v_inBlock v_atQuotient v_small drawn sF row marks power table sortOf first second signBy a1 P_3 hP) dX11_first_25 rfl wM_X11_311 wI_X11_laysSums wV_X11_laysSums wN_X11 wC_X11_laysSums (n := 1) (by decide +kernel) rfl (q0 := 0) rfl rfl ⟨Nat.le_of_ble_eq_true rfl, Nat.le_of_ble_eq_true rfl⟩ ⟨Nat.le_of_ble_eq_true rfl, Nat.le_of_ble_eq_true rfl⟩ (Nat.le_of_ble_eq_true rfl) [0, 2, 3, 4, 5, 6, 7, 8, 9, 10] [1] rfl rfl rfl (fun v wc hv => ?_)
      obtain ⟨rowOf_1, areSums_1, row_1, power_1, table_1, rfl, rfl, hq⟩ := hv
      replace h := h rowOf_1 areSums_1 row_1 power_1 table_1 hq
      refine gG.perm (ws' := [oX11 h0 0 (v_tape) taped (.ref q_number) (v_isTold) (v_name) (.ref q_sortOf) (.ref q_first) (.ref q_second) (v_degree) (v_colours) (.ref q_signBy) (v_own) lines size atF place sort value fault faultPlace lastFault lastPlace (.ref q_sF) (v_kept) undoable hasImage (.ref q_power) (.ref q_table) (.ref q_marks) (.ref q_row) rowOf_1 areSums_1 isSieved (v_lastOf) blocks (v_inBlock) (v_atQuotient) (v_small) drawn, aI Y q_number 8 number, aI Y q_sF 74 sF, aI Y q_row 200001 row_1, aI Y q_marks 6251 marks, aJ Y q_power 18 power_1, aJ Y q_table 216 table_1, aI Y q_sortOf 24 sortOf, aI Y q_first 24 first, aI Y q_second 24 second, aI Y q_signBy 24 signBy]) [1, 0, 2, 3, 4, 5, 6, 7, 8, 9, 10] rfl rfl ?_
      refine g_iconst (v := 1) C dX11_first_28 rfl ?_
      refine g_istore_n (lv' := [(3, .int 1), (0, .ref h0), (1, .int a1), (2, .int a2)]) C dX11_first_29 (by decide) rfl ?_
      obtain ⟨Inv_1, Mea_1, hI1, hB1⟩ := h
      have key_1 : ∀ (n : Nat) (x3_1 : Int32) , Mea_1 x3_1 < n → Inv_1 x3_1 → gG E 0 0 [oX11 h0 0 (v_tape) taped (.ref q_number) (v_isTold) (v_name) (.ref q_sortOf) (.ref q_first) (.ref q_second) (v_degree) (v_colours) (.ref q_signBy) (v_own) lines size atF place sort value fault faultPlace lastFault lastPlace (.ref q_sF) (v_kept) undoable hasImage (.ref q_power) (.ref q_table) (.ref q_marks) (.ref q_row) rowOf_1 areSums_1 isSieved (v_lastOf) blocks (v_inBlock) (v_atQuotient) (v_small) drawn, aI Y q_number 8 number, aI Y q_sF 74 sF, aI Y q_row 200001 row_1, aI Y q_marks 6251 marks, aJ Y q_power 18 power_1, aJ Y q_table 216 table_1, aI Y q_sortOf 24 sortOf, aI Y q_first 24 first, aI Y q_second 24 second, aI Y q_signBy 24 signBy] [(0, .ref h0), (2, .int a2), (3, .int x3_1)] [] 30 := by
        intro n
        induction n with
        | zero => exact fun _ hm => absurd hm (Nat.not_lt_zero _)
        | succ n ih1 =>
          intro x3_1  hm1 hI
          have h := hB1 x3_1 hI
          refine g_iload_n C dX11_first_30 2 rfl ?_
          refine g_aload_n C dX11_first_31 0 rfl ?_
          refine g_get C inX11 0 rfl rfl 23 (by decide) wF_X11_48 rfl dX11_first_32 ?_
          refine g_iconst (v := 0) C dX11_first_35 rfl ?_
          refine g_iald C 2 rfl (by unfold vp_in; decide) dX11_first_36 ?_
          refine g_icmp_gt (tgt := 58) C dX11_first_37 (by decide) (fun c_3 => ?_) (fun c_3 => ?_)
          · replace h := h.1 c_3
            refine g_bipush (v := (-2)) C dX11_first_58 rfl ?_
            exact g_iret C hR (Nat.le_of_ble_eq_true rfl) (Nat.le_of_ble_eq_true rfl) dX11_first_60 ⟨(-2), 0, rowOf_1, areSums_1, row_1, power_1, table_1, rfl, rfl, h⟩
          · replace h := h.2 c_3
            refine g_aload_n C dX11_first_40 0 rfl ?_
            refine g_get C inX11 0 rfl rfl 30 (by decide) wF_X11_65 rfl dX11_first_41 ?_
            refine g_iload_n C dX11_first_44 2 rfl ?_
            obtain ⟨hc_1, h⟩ := h
            refine g_iald C 3 rfl hc_1 dX11_first_45 ?_
            refine g_iload_n C dX11_first_46 1 rfl ?_
            refine g_icmp_ne (tgt := 52) C dX11_first_47 (by decide) (fun c_4 => ?_) (fun c_4 => ?_)
            · replace h := h.1 c_4
              refine g_iinc (v := x3_1 + 1) (lv' := [(3, .int (x3_1 + 1)), (0, .ref h0), (2, .int a2)]) C dX11_first_52 2 rfl rfl (by decide) rfl ?_
              refine g_goto (tgt := 30) C dX11_first_55 (by decide) ?_
              refine gG.locals (lv' := [(0, .ref h0), (2, .int a2), (3, .int (x3_1 + 1))]) [1, 2, 0] rfl ?_
              exact ih1 (x3_1 + 1) (Nat.lt_of_lt_of_le h.2 (Nat.le_of_lt_succ hm1)) h.1
            · replace h := h.2 c_4
              refine g_iload_n C dX11_first_50 2 rfl ?_
              exact g_iret C hR (Nat.le_of_ble_eq_true rfl) (Nat.le_of_ble_eq_true rfl) dX11_first_51 ⟨x3_1, 0, rowOf_1, areSums_1, row_1, power_1, table_1, rfl, rfl, h⟩
      refine gG.locals (lv' := [(0, .ref h0), (2, .int a2), (3, .int 1)]) [1, 3, 0] rfl ?_
      exact key_1 (Mea_1 1 + 1) 1 (Nat.lt_succ_self _) hI1
    · replace h := h.2 c_2
      refine g_iconst (v := (-1)) C dX11_first_21 rfl ?_
      exact g_iret C hR (Nat.le_of_ble_eq_true rfl) (Nat.le_of_ble_eq_true rfl) dX11_first_22 ⟨(-1), 0, rowOf, areSums, row, power, table, rfl, rfl, h⟩
theorem dX11_isPowerOfPrime_0 : decode cX11_isPowerOfPrime 0 = .ok (.iload_n 1, 1) := by decide +kernel
theorem dX11_isPowerOfPrime_1 : decode cX11_isPowerOfPrime 1 = .ok (.iconst 1, 1) := by decide +kernel
theorem dX11_isPowerOfPrime_2 : decode cX11_isPowerOfPrime 2 = .ok (.if_icmp .ne 5, 3) := by decide +kernel
theorem dX11_isPowerOfPrime_5 : decode cX11_isPowerOfPrime 5 = .ok (.iconst 0, 1) := by decide +kernel
theorem dX11_isPowerOfPrime_6 : decode cX11_isPowerOfPrime 6 = .ok (.ireturn, 1) := by decide +kernel
theorem dX11_isPowerOfPrime_7 : decode cX11_isPowerOfPrime 7 = .ok (.aload_n 0, 1) := by decide +kernel
theorem dX11_isPowerOfPrime_8 : decode cX11_isPowerOfPrime 8 = .ok (.iload_n 1, 1) := by decide +kernel
theorem dX11_isPowerOfPrime_9 : decode cX11_isPowerOfPrime 9 = .ok (.invokevirtual 292, 3) := by decide +kernel
theorem dX11_isPowerOfPrime_12 : decode cX11_isPowerOfPrime 12 = .ok (.ifCond .eq 5, 3) := by decide +kernel
theorem dX11_isPowerOfPrime_15 : decode cX11_isPowerOfPrime 15 = .ok (.iconst 1, 1) := by decide +kernel
theorem dX11_isPowerOfPrime_16 : decode cX11_isPowerOfPrime 16 = .ok (.ireturn, 1) := by decide +kernel
theorem dX11_isPowerOfPrime_17 : decode cX11_isPowerOfPrime 17 = .ok (.iconst 2, 1) := by decide +kernel
theorem dX11_isPowerOfPrime_18 : decode cX11_isPowerOfPrime 18 = .ok (.istore_n 2, 1) := by decide +kernel
theorem dX11_isPowerOfPrime_19 : decode cX11_isPowerOfPrime 19 = .ok (.iload_n 1, 1) := by decide +kernel
theorem dX11_isPowerOfPrime_20 : decode cX11_isPowerOfPrime 20 = .ok (.iload_n 2, 1) := by decide +kernel
theorem dX11_isPowerOfPrime_21 : decode cX11_isPowerOfPrime 21 = .ok (.irem, 1) := by decide +kernel
theorem dX11_isPowerOfPrime_22 : decode cX11_isPowerOfPrime 22 = .ok (.ifCond .eq 9, 3) := by decide +kernel
theorem dX11_isPowerOfPrime_25 : decode cX11_isPowerOfPrime 25 = .ok (.iinc 2 1, 3) := by decide +kernel
theorem dX11_isPowerOfPrime_28 : decode cX11_isPowerOfPrime 28 = .ok (.goto (-9), 3) := by decide +kernel
theorem dX11_isPowerOfPrime_31 : decode cX11_isPowerOfPrime 31 = .ok (.iload_n 1, 1) := by decide +kernel
theorem dX11_isPowerOfPrime_32 : decode cX11_isPowerOfPrime 32 = .ok (.istore_n 3, 1) := by decide +kernel
theorem dX11_isPowerOfPrime_33 : decode cX11_isPowerOfPrime 33 = .ok (.iload_n 3, 1) := by decide +kernel
theorem dX11_isPowerOfPrime_34 : decode cX11_isPowerOfPrime 34 = .ok (.iload_n 2, 1) := by decide +kernel
theorem dX11_isPowerOfPrime_35 : decode cX11_isPowerOfPrime 35 = .ok (.irem, 1) := by decide +kernel
theorem dX11_isPowerOfPrime_36 : decode cX11_isPowerOfPrime 36 = .ok (.ifCond .ne 10, 3) := by decide +kernel
theorem dX11_isPowerOfPrime_39 : decode cX11_isPowerOfPrime 39 = .ok (.iload_n 3, 1) := by decide +kernel
theorem dX11_isPowerOfPrime_40 : decode cX11_isPowerOfPrime 40 = .ok (.iload_n 2, 1) := by decide +kernel
theorem dX11_isPowerOfPrime_41 : decode cX11_isPowerOfPrime 41 = .ok (.idiv, 1) := by decide +kernel
theorem dX11_isPowerOfPrime_42 : decode cX11_isPowerOfPrime 42 = .ok (.istore_n 3, 1) := by decide +kernel
theorem dX11_isPowerOfPrime_43 : decode cX11_isPowerOfPrime 43 = .ok (.goto (-10), 3) := by decide +kernel
theorem dX11_isPowerOfPrime_46 : decode cX11_isPowerOfPrime 46 = .ok (.iload_n 3, 1) := by decide +kernel
theorem dX11_isPowerOfPrime_47 : decode cX11_isPowerOfPrime 47 = .ok (.iconst 1, 1) := by decide +kernel
theorem dX11_isPowerOfPrime_48 : decode cX11_isPowerOfPrime 48 = .ok (.if_icmp .ne 7, 3) := by decide +kernel
theorem dX11_isPowerOfPrime_51 : decode cX11_isPowerOfPrime 51 = .ok (.iconst 1, 1) := by decide +kernel
theorem dX11_isPowerOfPrime_52 : decode cX11_isPowerOfPrime 52 = .ok (.goto 4, 3) := by decide +kernel
theorem dX11_isPowerOfPrime_55 : decode cX11_isPowerOfPrime 55 = .ok (.iconst 0, 1) := by decide +kernel
theorem dX11_isPowerOfPrime_56 : decode cX11_isPowerOfPrime 56 = .ok (.ireturn, 1) := by decide +kernel
/-- QuotientSumsModel.isPowerOfPrime(I)Z -/
def wX11_isPowerOfPrime (thrown : Int32) (taped : Int32) (lines : Int32) (size : Int32) (atF : Int32) (place : Int32) (sort : Int32) (value : Int32) (fault : Int32) (faultPlace : Int32) (lastFault : Int32) (lastPlace : Int32) (undoable : Int32) (hasImage : Int32) (rowOf : Int32) (areSums : Int32) (isSieved : Int32) (blocks : Int32) (drawn : Int32) (marks : Nat → Int32) (a1 : Int32) (Q : (Int32) → Prop) : Prop :=
  ((¬ a1 = 1 → (∃ (P_1 : (Int32) → Prop), wX11_isPrime thrown taped lines size atF place sort value fault faultPlace lastFault lastPlace undoable hasImage rowOf areSums isSieved blocks drawn marks a1 P_1 ∧ ∀ (rF_1 : Int32), P_1 rF_1 → ((rF_1 = 0 → (∃ (Inv_1 : (Int32) → Prop) (Mea_1 : (Int32) → Nat), Inv_1 2 ∧ ∀ (x2_1 : Int32), Inv_1 x2_1 → (¬ x2_1 = 0 ∧ (((a1 - a1 / x2_1 * x2_1) = 0 → (∃ (Inv_2 : (Int32) → Prop) (Mea_2 : (Int32) → Nat), Inv_2 a1 ∧ ∀ (x3_1 : Int32), Inv_2 x3_1 → (¬ x2_1 = 0 ∧ ((¬ (x3_1 - x3_1 / x2_1 * x2_1) = 0 → ((¬ x3_1 = 1 → (Q 0)) ∧ (x3_1 = 1 → (Q 1)))) ∧ ((x3_1 - x3_1 / x2_1 * x2_1) = 0 → (∀ x3_2 : Int32, x3_2 = x3_1 / x2_1 → (Inv_2 x3_2 ∧ Mea_2 x3_2 < Mea_2 x3_1))))))) ∧ (¬ (a1 - a1 / x2_1 * x2_1) = 0 → (Inv_1 (x2_1 + 1) ∧ Mea_1 (x2_1 + 1) < Mea_1 x2_1)))))) ∧ (¬ rF_1 = 0 → (Q 1))))) ∧ (a1 = 1 → (Q 0)))
set_option maxHeartbeats 4000000 in
set_option maxRecDepth 100000 in
theorem mX11_isPowerOfPrime (l : Launch) (D : va_G) (Y : Nat → ClassId) (h0 : Nat) (thrown : Int32) (v_tape : Value) (taped : Int32) (v_number : Value) (v_isTold : Value) (v_name : Value) (v_sortOf : Value) (v_first : Value) (v_second : Value) (v_degree : Value) (v_colours : Value) (v_signBy : Value) (v_own : Value) (lines : Int32) (size : Int32) (atF : Int32) (place : Int32) (sort : Int32) (value : Int32) (fault : Int32) (faultPlace : Int32) (lastFault : Int32) (lastPlace : Int32) (v_sF : Value) (v_kept : Value) (undoable : Int32) (hasImage : Int32) (v_power : Value) (v_table : Value) (q_marks : Nat) (v_row : Value) (rowOf : Int32) (areSums : Int32) (isSieved : Int32) (v_lastOf : Value) (blocks : Int32) (v_inBlock : Value) (v_atQuotient : Value) (v_small : Value) (drawn : Int32) (marks : Nat → Int32) (a1 : Int32) (Q : (Int32) → Prop) (h : wX11_isPowerOfPrime thrown taped lines size atF place sort value fault faultPlace lastFault lastPlace undoable hasImage rowOf areSums isSieved blocks drawn marks a1 Q) : gM l D Y yX11_isPowerOfPrime cX11_isPowerOfPrime 4 (some .boolean) 1 21 0 0 [.ref h0, .int a1] [oX11 h0 thrown (v_tape) taped (v_number) (v_isTold) (v_name) (v_sortOf) (v_first) (v_second) (v_degree) (v_colours) (v_signBy) (v_own) lines size atF place sort value fault faultPlace lastFault lastPlace (v_sF) (v_kept) undoable hasImage (v_power) (v_table) (.ref q_marks) (v_row) rowOf areSums isSieved (v_lastOf) blocks (v_inBlock) (v_atQuotient) (v_small) drawn, aI Y q_marks 6251 marks] (fun v w => ∃ r : Int32, v = some (.int r) ∧ w = [oX11 h0 thrown (v_tape) taped (v_number) (v_isTold) (v_name) (v_sortOf) (v_first) (v_second) (v_degree) (v_colours) (v_signBy) (v_own) lines size atF place sort value fault faultPlace lastFault lastPlace (v_sF) (v_kept) undoable hasImage (v_power) (v_table) (.ref q_marks) (v_row) rowOf areSums isSieved (v_lastOf) blocks (v_inBlock) (v_atQuotient) (v_small) drawn, aI Y q_marks 6251 marks] ∧ Q r) := by
  refine gM_of (own := RX11) (by decide +kernel) rfl (Nat.le_of_ble_eq_true rfl) rfl (fun E C hR => ?_)
  unfold wX11_isPowerOfPrime at h
  refine g_iload_n C dX11_isPowerOfPrime_0 1 rfl ?_
  refine g_iconst (v := 1) C dX11_isPowerOfPrime_1 rfl ?_
  refine g_icmp_ne (tgt := 7) C dX11_isPowerOfPrime_2 (by decide) (fun c_1 => ?_) (fun c_1 => ?_)
  · replace h := h.1 c_1
    refine g_aload_n C dX11_isPowerOfPrime_7 0 rfl ?_
    refine g_iload_n C dX11_isPowerOfPrime_8 1 rfl ?_
    obtain ⟨P_1, hP, h⟩ := h
    refine g_callV (As := [.int a1]) (rest := []) C (mX11_isPrime l D Y h0 thrown v_tape taped v_number v_isTold v_name v_sortOf v_first v_second v_degree v_colours v_signBy v_own lines size atF place sort value fault faultPlace lastFault lastPlace v_sF v_kept undoable hasImage v_power v_table q_marks v_row rowOf areSums isSieved v_lastOf blocks v_inBlock v_atQuotient v_small drawn marks a1 P_1 hP) dX11_isPowerOfPrime_9 rfl wM_X11_292 wI_X11_isPrime wV_X11_isPrime wN_X11 wC_X11_isPrime (n := 1) (by decide +kernel) rfl (q0 := 0) rfl rfl ⟨Nat.le_of_ble_eq_true rfl, Nat.le_of_ble_eq_true rfl⟩ ⟨Nat.le_of_ble_eq_true rfl, Nat.le_of_ble_eq_true rfl⟩ (Nat.le_of_ble_eq_true rfl) [0, 1] [] rfl rfl rfl (fun v wc hv => ?_)
    obtain ⟨rF_1, rfl, rfl, hq⟩ := hv
    replace h := h rF_1 hq
    refine gG.eqw (ws' := [oX11 h0 thrown (v_tape) taped (v_number) (v_isTold) (v_name) (v_sortOf) (v_first) (v_second) (v_degree) (v_colours) (v_signBy) (v_own) lines size atF place sort value fault faultPlace lastFault lastPlace (v_sF) (v_kept) undoable hasImage (v_power) (v_table) (.ref q_marks) (v_row) rowOf areSums isSieved (v_lastOf) blocks (v_inBlock) (v_atQuotient) (v_small) drawn, aI Y q_marks 6251 marks]) rfl ?_
    refine g_if_eq (tgt := 17) C dX11_isPowerOfPrime_12 (by decide) (fun c_2 => ?_) (fun c_2 => ?_)
    · replace h := h.1 c_2
      refine g_iconst (v := 2) C dX11_isPowerOfPrime_17 rfl ?_
      refine g_istore_n (lv' := [(2, .int 2), (0, .ref h0), (1, .int a1)]) C dX11_isPowerOfPrime_18 (by decide) rfl ?_
      obtain ⟨Inv_1, Mea_1, hI1, hB1⟩ := h
      have key_1 : ∀ (n : Nat) (x2_1 : Int32) , Mea_1 x2_1 < n → Inv_1 x2_1 → gG E 0 0 [oX11 h0 thrown (v_tape) taped (v_number) (v_isTold) (v_name) (v_sortOf) (v_first) (v_second) (v_degree) (v_colours) (v_signBy) (v_own) lines size atF place sort value fault faultPlace lastFault lastPlace (v_sF) (v_kept) undoable hasImage (v_power) (v_table) (.ref q_marks) (v_row) rowOf areSums isSieved (v_lastOf) blocks (v_inBlock) (v_atQuotient) (v_small) drawn, aI Y q_marks 6251 marks] [(1, .int a1), (2, .int x2_1)] [] 19 := by
        intro n
        induction n with
        | zero => exact fun _ hm => absurd hm (Nat.not_lt_zero _)
        | succ n ih1 =>
          intro x2_1  hm1 hI
          have h := hB1 x2_1 hI
          refine g_iload_n C dX11_isPowerOfPrime_19 0 rfl ?_
          refine g_iload_n C dX11_isPowerOfPrime_20 1 rfl ?_
          obtain ⟨hc_1, h⟩ := h
          refine g_irem C dX11_isPowerOfPrime_21 hc_1 ?_
          refine g_if_eq (tgt := 31) C dX11_isPowerOfPrime_22 (by decide) (fun c_3 => ?_) (fun c_3 => ?_)
          · replace h := h.1 c_3
            refine g_iload_n C dX11_isPowerOfPrime_31 0 rfl ?_
            refine g_istore_n (lv' := [(3, .int a1), (1, .int a1), (2, .int x2_1)]) C dX11_isPowerOfPrime_32 (by decide) rfl ?_
            obtain ⟨Inv_2, Mea_2, hI2, hB2⟩ := h
            have key_2 : ∀ (n : Nat) (x3_1 : Int32) , Mea_2 x3_1 < n → Inv_2 x3_1 → gG E 0 0 [oX11 h0 thrown (v_tape) taped (v_number) (v_isTold) (v_name) (v_sortOf) (v_first) (v_second) (v_degree) (v_colours) (v_signBy) (v_own) lines size atF place sort value fault faultPlace lastFault lastPlace (v_sF) (v_kept) undoable hasImage (v_power) (v_table) (.ref q_marks) (v_row) rowOf areSums isSieved (v_lastOf) blocks (v_inBlock) (v_atQuotient) (v_small) drawn, aI Y q_marks 6251 marks] [(2, .int x2_1), (3, .int x3_1)] [] 33 := by
              intro n
              induction n with
              | zero => exact fun _ hm => absurd hm (Nat.not_lt_zero _)
              | succ n ih2 =>
                intro x3_1  hm2 hI
                have h := hB2 x3_1 hI
                refine g_iload_n C dX11_isPowerOfPrime_33 1 rfl ?_
                refine g_iload_n C dX11_isPowerOfPrime_34 0 rfl ?_
                obtain ⟨hc_2, h⟩ := h
                refine g_irem C dX11_isPowerOfPrime_35 hc_2 ?_
                refine g_if_ne (tgt := 46) C dX11_isPowerOfPrime_36 (by decide) (fun c_4 => ?_) (fun c_4 => ?_)
                · replace h := h.1 c_4
                  refine g_iload_n C dX11_isPowerOfPrime_46 1 rfl ?_
                  refine g_iconst (v := 1) C dX11_isPowerOfPrime_47 rfl ?_
                  refine g_icmp_ne (tgt := 55) C dX11_isPowerOfPrime_48 (by decide) (fun c_5 => ?_) (fun c_5 => ?_)
                  · replace h := h.1 c_5
                    refine g_iconst (v := 0) C dX11_isPowerOfPrime_55 rfl ?_
                    exact g_zret C hR (by decide) (Nat.le_of_ble_eq_true rfl) (Nat.le_of_ble_eq_true rfl) dX11_isPowerOfPrime_56 ⟨0, rfl, rfl, h⟩
                  · replace h := h.2 c_5
                    refine g_iconst (v := 1) C dX11_isPowerOfPrime_51 rfl ?_
                    refine g_goto (tgt := 56) C dX11_isPowerOfPrime_52 (by decide) ?_
                    exact g_zret C hR (by decide) (Nat.le_of_ble_eq_true rfl) (Nat.le_of_ble_eq_true rfl) dX11_isPowerOfPrime_56 ⟨1, rfl, rfl, h⟩
                · replace h := h.2 c_4
                  refine g_iload_n C dX11_isPowerOfPrime_39 1 rfl ?_
                  refine g_iload_n C dX11_isPowerOfPrime_40 0 rfl ?_
                  refine g_idiv C dX11_isPowerOfPrime_41 hc_2 ?_
                  refine g_topi (fun x3_2 ex3_2 => ?_)
                  replace h := h x3_2 ex3_2
                  refine g_istore_n (lv' := [(3, .int x3_2), (2, .int x2_1)]) C dX11_isPowerOfPrime_42 (by decide) rfl ?_
                  refine g_goto (tgt := 33) C dX11_isPowerOfPrime_43 (by decide) ?_
                  refine gG.locals (lv' := [(2, .int x2_1), (3, .int x3_2)]) [1, 0] rfl ?_
                  exact ih2 x3_2 (Nat.lt_of_lt_of_le h.2 (Nat.le_of_lt_succ hm2)) h.1
            refine gG.locals (lv' := [(2, .int x2_1), (3, .int a1)]) [2, 0] rfl ?_
            exact key_2 (Mea_2 a1 + 1) a1 (Nat.lt_succ_self _) hI2
          · replace h := h.2 c_3
            refine g_iinc (v := x2_1 + 1) (lv' := [(2, .int (x2_1 + 1)), (1, .int a1)]) C dX11_isPowerOfPrime_25 1 rfl rfl (by decide) rfl ?_
            refine g_goto (tgt := 19) C dX11_isPowerOfPrime_28 (by decide) ?_
            refine gG.locals (lv' := [(1, .int a1), (2, .int (x2_1 + 1))]) [1, 0] rfl ?_
            exact ih1 (x2_1 + 1) (Nat.lt_of_lt_of_le h.2 (Nat.le_of_lt_succ hm1)) h.1
      refine gG.locals (lv' := [(1, .int a1), (2, .int 2)]) [2, 0] rfl ?_
      exact key_1 (Mea_1 2 + 1) 2 (Nat.lt_succ_self _) hI1
    · replace h := h.2 c_2
      refine g_iconst (v := 1) C dX11_isPowerOfPrime_15 rfl ?_
      exact g_zret C hR (by decide) (Nat.le_of_ble_eq_true rfl) (Nat.le_of_ble_eq_true rfl) dX11_isPowerOfPrime_16 ⟨1, rfl, rfl, h⟩
  · replace h := h.2 c_1
    refine g_iconst (v := 0) C dX11_isPowerOfPrime_5 rfl ?_
    exact g_zret C hR (by decide) (Nat.le_of_ble_eq_true rfl) (Nat.le_of_ble_eq_true rfl) dX11_isPowerOfPrime_6 ⟨0, rfl, rfl, h⟩
theorem dX11_parts_0 : decode cX11_parts 0 = .ok (.aload_n 0, 1) := by decide +kernel
theorem dX11_parts_1 : decode cX11_parts 1 = .ok (.iconst 0, 1) := by decide +kernel
theorem dX11_parts_2 : decode cX11_parts 2 = .ok (.putfield 89, 3) := by decide +kernel
theorem dX11_parts_5 : decode cX11_parts 5 = .ok (.aload_n 0, 1) := by decide +kernel
theorem dX11_parts_6 : decode cX11_parts 6 = .ok (.iload_n 1, 1) := by decide +kernel
theorem dX11_parts_7 : decode cX11_parts 7 = .ok (.invokevirtual 241, 3) := by decide +kernel
theorem dX11_parts_10 : decode cX11_parts 10 = .ok (.ifCond .eq 11, 3) := by decide +kernel
theorem dX11_parts_13 : decode cX11_parts 13 = .ok (.aload_n 0, 1) := by decide +kernel
theorem dX11_parts_14 : decode cX11_parts 14 = .ok (.iload_n 2, 1) := by decide +kernel
theorem dX11_parts_15 : decode cX11_parts 15 = .ok (.invokevirtual 241, 3) := by decide +kernel
theorem dX11_parts_18 : decode cX11_parts 18 = .ok (.ifCond .ne 5, 3) := by decide +kernel
theorem dX11_parts_21 : decode cX11_parts 21 = .ok (.iconst (-1), 1) := by decide +kernel
theorem dX11_parts_22 : decode cX11_parts 22 = .ok (.ireturn, 1) := by decide +kernel
theorem dX11_parts_23 : decode cX11_parts 23 = .ok (.iload_n 1, 1) := by decide +kernel
theorem dX11_parts_24 : decode cX11_parts 24 = .ok (.iload_n 2, 1) := by decide +kernel
theorem dX11_parts_25 : decode cX11_parts 25 = .ok (.if_icmp .ne 6, 3) := by decide +kernel
theorem dX11_parts_28 : decode cX11_parts 28 = .ok (.bipush (-2), 2) := by decide +kernel
theorem dX11_parts_30 : decode cX11_parts 30 = .ok (.ireturn, 1) := by decide +kernel
theorem dX11_parts_31 : decode cX11_parts 31 = .ok (.aload_n 0, 1) := by decide +kernel
theorem dX11_parts_32 : decode cX11_parts 32 = .ok (.iload_n 1, 1) := by decide +kernel
theorem dX11_parts_33 : decode cX11_parts 33 = .ok (.invokevirtual 308, 3) := by decide +kernel
theorem dX11_parts_36 : decode cX11_parts 36 = .ok (.iconst 1, 1) := by decide +kernel
theorem dX11_parts_37 : decode cX11_parts 37 = .ok (.istore_n 3, 1) := by decide +kernel
theorem dX11_parts_38 : decode cX11_parts 38 = .ok (.iload_n 3, 1) := by decide +kernel
theorem dX11_parts_39 : decode cX11_parts 39 = .ok (.aload_n 0, 1) := by decide +kernel
theorem dX11_parts_40 : decode cX11_parts 40 = .ok (.getfield 48, 3) := by decide +kernel
theorem dX11_parts_43 : decode cX11_parts 43 = .ok (.iconst 0, 1) := by decide +kernel
theorem dX11_parts_44 : decode cX11_parts 44 = .ok (.iaload, 1) := by decide +kernel
theorem dX11_parts_45 : decode cX11_parts 45 = .ok (.if_icmp .gt 36, 3) := by decide +kernel
theorem dX11_parts_48 : decode cX11_parts 48 = .ok (.aload_n 0, 1) := by decide +kernel
theorem dX11_parts_49 : decode cX11_parts 49 = .ok (.iload_n 3, 1) := by decide +kernel
theorem dX11_parts_50 : decode cX11_parts 50 = .ok (.invokevirtual 350, 3) := by decide +kernel
theorem dX11_parts_53 : decode cX11_parts 53 = .ok (.ifCond .eq 22, 3) := by decide +kernel
theorem dX11_parts_56 : decode cX11_parts 56 = .ok (.aload_n 0, 1) := by decide +kernel
theorem dX11_parts_57 : decode cX11_parts 57 = .ok (.getfield 65, 3) := by decide +kernel
theorem dX11_parts_60 : decode cX11_parts 60 = .ok (.iload_n 3, 1) := by decide +kernel
theorem dX11_parts_61 : decode cX11_parts 61 = .ok (.iaload, 1) := by decide +kernel
theorem dX11_parts_62 : decode cX11_parts 62 = .ok (.i2l, 1) := by decide +kernel
theorem dX11_parts_63 : decode cX11_parts 63 = .ok (.aload_n 0, 1) := by decide +kernel
theorem dX11_parts_64 : decode cX11_parts 64 = .ok (.iload_n 2, 1) := by decide +kernel
theorem dX11_parts_65 : decode cX11_parts 65 = .ok (.iload_n 3, 1) := by decide +kernel
theorem dX11_parts_66 : decode cX11_parts 66 = .ok (.invokevirtual 286, 3) := by decide +kernel
theorem dX11_parts_69 : decode cX11_parts 69 = .ok (.lcmp, 1) := by decide +kernel
theorem dX11_parts_70 : decode cX11_parts 70 = .ok (.ifCond .eq 5, 3) := by decide +kernel
theorem dX11_parts_73 : decode cX11_parts 73 = .ok (.iload_n 3, 1) := by decide +kernel
theorem dX11_parts_74 : decode cX11_parts 74 = .ok (.ireturn, 1) := by decide +kernel
theorem dX11_parts_75 : decode cX11_parts 75 = .ok (.iinc 3 1, 3) := by decide +kernel
theorem dX11_parts_78 : decode cX11_parts 78 = .ok (.goto (-40), 3) := by decide +kernel
theorem dX11_parts_81 : decode cX11_parts 81 = .ok (.bipush (-2), 2) := by decide +kernel
theorem dX11_parts_83 : decode cX11_parts 83 = .ok (.ireturn, 1) := by decide +kernel
/-- QuotientSumsModel.parts(II)I -/
def wX11_parts (thrown : Int32) (taped : Int32) (lines : Int32) (size : Int32) (atF : Int32) (place : Int32) (sort : Int32) (value : Int32) (fault : Int32) (faultPlace : Int32) (lastFault : Int32) (lastPlace : Int32) (undoable : Int32) (hasImage : Int32) (rowOf : Int32) (areSums : Int32) (isSieved : Int32) (blocks : Int32) (drawn : Int32) (number : Nat → Int32) (sF : Nat → Int32) (row : Nat → Int32) (marks : Nat → Int32) (power : Nat → Int64) (table : Nat → Int64) (sortOf : Nat → Int32) (first : Nat → Int32) (second : Nat → Int32) (signBy : Nat → Int32) (a1 : Int32) (a2 : Int32) (Q : (Int32) → (Int32) → (Int32) → (Int32) → (Nat → Int32) → (Nat → Int64) → (Nat → Int64) → Prop) : Prop :=
  (∃ (P_1 : (Int32) → Prop), wX11_isFunction 0 taped lines size atF place sort value fault faultPlace lastFault lastPlace undoable hasImage rowOf areSums isSieved blocks drawn number a1 P_1 ∧ ∀ (rF_1 : Int32), P_1 rF_1 → ((rF_1 = 0 → (Q (-1) 0 rowOf areSums row power table)) ∧ (¬ rF_1 = 0 → (∃ (P_2 : (Int32) → Prop), wX11_isFunction 0 taped lines size atF place sort value fault faultPlace lastFault lastPlace undoable hasImage rowOf areSums isSieved blocks drawn number a2 P_2 ∧ ∀ (rF_2 : Int32), P_2 rF_2 → ((¬ rF_2 = 0 → ((¬ a1 = a2 → (∃ (P_3 : (Int32) → (Int32) → (Nat → Int32) → (Nat → Int64) → (Nat → Int64) → Prop), wX11_laysValues 0 taped lines size atF place sort value fault faultPlace lastFault lastPlace undoable hasImage rowOf areSums isSieved blocks drawn sF row marks power table sortOf first second signBy a1 P_3 ∧ ∀ (rowOf_1 : Int32) (areSums_1 : Int32) (row_1 : Nat → Int32) (power_1 : Nat → Int64) (table_1 : Nat → Int64), P_3 rowOf_1 areSums_1 row_1 power_1 table_1 → (∃ (Inv_1 : (Nat → Int64) → (Nat → Int64) → (Int32) → Prop) (Mea_1 : (Nat → Int64) → (Nat → Int64) → (Int32) → Nat), Inv_1 power_1 table_1 1 ∧ ∀ (power_2 : Nat → Int64) (table_2 : Nat → Int64) (x3_1 : Int32), Inv_1 power_2 table_2 x3_1 → (((sF 0) < x3_1 → (Q (-2) 0 rowOf_1 areSums_1 row_1 power_2 table_2)) ∧ (¬ (sF 0) < x3_1 → (∃ (P_4 : (Int32) → Prop), wX11_isPowerOfPrime 0 taped lines size atF place sort value fault faultPlace lastFault lastPlace undoable hasImage rowOf_1 areSums_1 isSieved blocks drawn marks x3_1 P_4 ∧ ∀ (rF_3 : Int32), P_4 rF_3 → ((rF_3 = 0 → (Inv_1 power_2 table_2 (x3_1 + 1) ∧ Mea_1 power_2 table_2 (x3_1 + 1) < Mea_1 power_2 table_2 x3_1)) ∧ (¬ rF_3 = 0 → (vp_in x3_1 200001 ∧ ∃ (P_5 : (Int64) → (Nat → Int64) → (Nat → Int64) → Prop), wX11_valueAt 0 taped lines size atF place sort value fault faultPlace lastFault lastPlace undoable hasImage rowOf_1 areSums_1 isSieved blocks drawn power_2 table_2 sortOf sF first second signBy a2 x3_1 P_5 ∧ ∀ (rF_4 : Int64) (power_3 : Nat → Int64) (table_3 : Nat → Int64), P_5 rF_4 power_3 table_3 → (((lg_cmp ((row_1 x3_1.toNatClampNeg).toInt64) rF_4) = 0 → (Inv_1 power_3 table_3 (x3_1 + 1) ∧ Mea_1 power_3 table_3 (x3_1 + 1) < Mea_1 power_2 table_2 x3_1)) ∧ (¬ (lg_cmp ((row_1 x3_1.toNatClampNeg).toInt64) rF_4) = 0 → (Q x3_1 0 rowOf_1 areSums_1 row_1 power_3 table_3)))))))))))) ∧ (a1 = a2 → (Q (-2) 0 rowOf areSums row power table)))) ∧ (rF_2 = 0 → (Q (-1) 0 rowOf areSums row power table)))))))
set_option maxHeartbeats 4000000 in
set_option maxRecDepth 100000 in
theorem mX11_parts (l : Launch) (D : va_G) (Y : Nat → ClassId) (h0 : Nat) (thrown : Int32) (v_tape : Value) (taped : Int32) (q_number : Nat) (v_isTold : Value) (v_name : Value) (q_sortOf : Nat) (q_first : Nat) (q_second : Nat) (v_degree : Value) (v_colours : Value) (q_signBy : Nat) (v_own : Value) (lines : Int32) (size : Int32) (atF : Int32) (place : Int32) (sort : Int32) (value : Int32) (fault : Int32) (faultPlace : Int32) (lastFault : Int32) (lastPlace : Int32) (q_sF : Nat) (v_kept : Value) (undoable : Int32) (hasImage : Int32) (q_power : Nat) (q_table : Nat) (q_marks : Nat) (q_row : Nat) (rowOf : Int32) (areSums : Int32) (isSieved : Int32) (v_lastOf : Value) (blocks : Int32) (v_inBlock : Value) (v_atQuotient : Value) (v_small : Value) (drawn : Int32) (number : Nat → Int32) (sF : Nat → Int32) (row : Nat → Int32) (marks : Nat → Int32) (power : Nat → Int64) (table : Nat → Int64) (sortOf : Nat → Int32) (first : Nat → Int32) (second : Nat → Int32) (signBy : Nat → Int32) (a1 : Int32) (a2 : Int32) (Q : (Int32) → (Int32) → (Int32) → (Int32) → (Nat → Int32) → (Nat → Int64) → (Nat → Int64) → Prop) (h : wX11_parts thrown taped lines size atF place sort value fault faultPlace lastFault lastPlace undoable hasImage rowOf areSums isSieved blocks drawn number sF row marks power table sortOf first second signBy a1 a2 Q) : gM l D Y yX11_parts cX11_parts 4 (some .int) 3 80 0 0 [.ref h0, .int a1, .int a2] [oX11 h0 thrown (v_tape) taped (.ref q_number) (v_isTold) (v_name) (.ref q_sortOf) (.ref q_first) (.ref q_second) (v_degree) (v_colours) (.ref q_signBy) (v_own) lines size atF place sort value fault faultPlace lastFault lastPlace (.ref q_sF) (v_kept) undoable hasImage (.ref q_power) (.ref q_table) (.ref q_marks) (.ref q_row) rowOf areSums isSieved (v_lastOf) blocks (v_inBlock) (v_atQuotient) (v_small) drawn, aI Y q_number 8 number, aI Y q_sF 74 sF, aI Y q_row 200001 row, aI Y q_marks 6251 marks, aJ Y q_power 18 power, aJ Y q_table 216 table, aI Y q_sortOf 24 sortOf, aI Y q_first 24 first, aI Y q_second 24 second, aI Y q_signBy 24 signBy] (fun v w => ∃ r : Int32, ∃ thrown' : Int32, ∃ rowOf' : Int32, ∃ areSums' : Int32, ∃ row' : Nat → Int32, ∃ power' : Nat → Int64, ∃ table' : Nat → Int64, v = some (.int r) ∧ w = [oX11 h0 thrown' (v_tape) taped (.ref q_number) (v_isTold) (v_name) (.ref q_sortOf) (.ref q_first) (.ref q_second) (v_degree) (v_colours) (.ref q_signBy) (v_own) lines size atF place sort value fault faultPlace lastFault lastPlace (.ref q_sF) (v_kept) undoable hasImage (.ref q_power) (.ref q_table) (.ref q_marks) (.ref q_row) rowOf' areSums' isSieved (v_lastOf) blocks (v_inBlock) (v_atQuotient) (v_small) drawn, aI Y q_number 8 number, aI Y q_sF 74 sF, aI Y q_row 200001 row', aI Y q_marks 6251 marks, aJ Y q_power 18 power', aJ Y q_table 216 table', aI Y q_sortOf 24 sortOf, aI Y q_first 24 first, aI Y q_second 24 second, aI Y q_signBy 24 signBy] ∧ Q r thrown' rowOf' areSums' row' power' table') := by
  refine gM_of (own := RX11) (by decide +kernel) rfl (Nat.le_of_ble_eq_true rfl) rfl (fun E C hR => ?_)
  unfold wX11_parts at h
  refine g_aload_n C dX11_parts_0 0 rfl ?_
  refine g_iconst (v := 0) C dX11_parts_1 rfl ?_
  refine g_put C inX11 tyX11 tyX11_ok nmX11 0 rfl rfl 0 (by decide) wF_X11_89 rfl rfl rfl (Nat.le_of_ble_eq_true rfl) (ws' := [oX11 h0 0 (v_tape) taped (.ref q_number) (v_isTold) (v_name) (.ref q_sortOf) (.ref q_first) (.ref q_second) (v_degree) (v_colours) (.ref q_signBy) (v_own) lines size atF place sort value fault faultPlace lastFault lastPlace (.ref q_sF) (v_kept) undoable hasImage (.ref q_power) (.ref q_table) (.ref q_marks) (.ref q_row) rowOf areSums isSieved (v_lastOf) blocks (v_inBlock) (v_atQuotient) (v_small) drawn, aI Y q_number 8 number, aI Y q_sF 74 sF, aI Y q_row 200001 row, aI Y q_marks 6251 marks, aJ Y q_power 18 power, aJ Y q_table 216 table, aI Y q_sortOf 24 sortOf, aI Y q_first 24 first, aI Y q_second 24 second, aI Y q_signBy 24 signBy]) rfl dX11_parts_2 ?_
  refine g_aload_n C dX11_parts_5 0 rfl ?_
  refine g_iload_n C dX11_parts_6 1 rfl ?_
  obtain ⟨P_1, hP, h⟩ := h
  refine g_callV (As := [.int a1]) (rest := []) C (mX11_isFunction l D Y h0 0 v_tape taped q_number v_isTold v_name (.ref q_sortOf) (.ref q_first) (.ref q_second) v_degree v_colours (.ref q_signBy) v_own lines size atF place sort value fault faultPlace lastFault lastPlace (.ref q_sF) v_kept undoable hasImage (.ref q_power) (.ref q_table) (.ref q_marks) (.ref q_row) rowOf areSums isSieved v_lastOf blocks v_inBlock v_atQuotient v_small drawn number a1 P_1 hP) dX11_parts_7 rfl wM_X11_241 wI_X11_isFunction wV_X11_isFunction wN_X11 wC_X11_isFunction (n := 1) (by decide +kernel) rfl (q0 := 0) rfl rfl ⟨Nat.le_of_ble_eq_true rfl, Nat.le_of_ble_eq_true rfl⟩ ⟨Nat.le_of_ble_eq_true rfl, Nat.le_of_ble_eq_true rfl⟩ (Nat.le_of_ble_eq_true rfl) [0, 1] [2, 3, 4, 5, 6, 7, 8, 9, 10] rfl rfl rfl (fun v wc hv => ?_)
  obtain ⟨rF_1, rfl, rfl, hq⟩ := hv
  replace h := h rF_1 hq
  refine gG.perm (ws' := [oX11 h0 0 (v_tape) taped (.ref q_number) (v_isTold) (v_name) (.ref q_sortOf) (.ref q_first) (.ref q_second) (v_degree) (v_colours) (.ref q_signBy) (v_own) lines size atF place sort value fault faultPlace lastFault lastPlace (.ref q_sF) (v_kept) undoable hasImage (.ref q_power) (.ref q_table) (.ref q_marks) (.ref q_row) rowOf areSums isSieved (v_lastOf) blocks (v_inBlock) (v_atQuotient) (v_small) drawn, aI Y q_number 8 number, aI Y q_sF 74 sF, aI Y q_row 200001 row, aI Y q_marks 6251 marks, aJ Y q_power 18 power, aJ Y q_table 216 table, aI Y q_sortOf 24 sortOf, aI Y q_first 24 first, aI Y q_second 24 second, aI Y q_signBy 24 signBy]) [9, 10, 0, 1, 2, 3, 4, 5, 6, 7, 8] rfl rfl ?_
  refine g_if_eq (tgt := 21) C dX11_parts_10 (by decide) (fun c_1 => ?_) (fun c_1 => ?_)
  · replace h := h.1 c_1
    refine g_iconst (v := (-1)) C dX11_parts_21 rfl ?_
    exact g_iret C hR (Nat.le_of_ble_eq_true rfl) (Nat.le_of_ble_eq_true rfl) dX11_parts_22 ⟨(-1), 0, rowOf, areSums, row, power, table, rfl, rfl, h⟩
  · replace h := h.2 c_1
    refine g_aload_n C dX11_parts_13 0 rfl ?_
    refine g_iload_n C dX11_parts_14 2 rfl ?_
    obtain ⟨P_2, hP, h⟩ := h
    refine g_callV (As := [.int a2]) (rest := []) C (mX11_isFunction l D Y h0 0 v_tape taped q_number v_isTold v_name (.ref q_sortOf) (.ref q_first) (.ref q_second) v_degree v_colours (.ref q_signBy) v_own lines size atF place sort value fault faultPlace lastFault lastPlace (.ref q_sF) v_kept undoable hasImage (.ref q_power) (.ref q_table) (.ref q_marks) (.ref q_row) rowOf areSums isSieved v_lastOf blocks v_inBlock v_atQuotient v_small drawn number a2 P_2 hP) dX11_parts_15 rfl wM_X11_241 wI_X11_isFunction wV_X11_isFunction wN_X11 wC_X11_isFunction (n := 1) (by decide +kernel) rfl (q0 := 0) rfl rfl ⟨Nat.le_of_ble_eq_true rfl, Nat.le_of_ble_eq_true rfl⟩ ⟨Nat.le_of_ble_eq_true rfl, Nat.le_of_ble_eq_true rfl⟩ (Nat.le_of_ble_eq_true rfl) [0, 1] [2, 3, 4, 5, 6, 7, 8, 9, 10] rfl rfl rfl (fun v wc hv => ?_)
    obtain ⟨rF_2, rfl, rfl, hq⟩ := hv
    replace h := h rF_2 hq
    refine gG.perm (ws' := [oX11 h0 0 (v_tape) taped (.ref q_number) (v_isTold) (v_name) (.ref q_sortOf) (.ref q_first) (.ref q_second) (v_degree) (v_colours) (.ref q_signBy) (v_own) lines size atF place sort value fault faultPlace lastFault lastPlace (.ref q_sF) (v_kept) undoable hasImage (.ref q_power) (.ref q_table) (.ref q_marks) (.ref q_row) rowOf areSums isSieved (v_lastOf) blocks (v_inBlock) (v_atQuotient) (v_small) drawn, aI Y q_number 8 number, aI Y q_sF 74 sF, aI Y q_row 200001 row, aI Y q_marks 6251 marks, aJ Y q_power 18 power, aJ Y q_table 216 table, aI Y q_sortOf 24 sortOf, aI Y q_first 24 first, aI Y q_second 24 second, aI Y q_signBy 24 signBy]) [9, 10, 0, 1, 2, 3, 4, 5, 6, 7, 8] rfl rfl ?_
    refine g_if_ne (tgt := 23) C dX11_parts_18 (by decide) (fun c_2 => ?_) (fun c_2 => ?_)
    · replace h := h.1 c_2
      refine g_iload_n C dX11_parts_23 1 rfl ?_
      refine g_iload_n C dX11_parts_24 2 rfl ?_
      refine g_icmp_ne (tgt := 31) C dX11_parts_25 (by decide) (fun c_3 => ?_) (fun c_3 => ?_)
      · replace h := h.1 c_3
        refine g_aload_n C dX11_parts_31 0 rfl ?_
        refine g_iload_n C dX11_parts_32 1 rfl ?_
        obtain ⟨P_3, hP, h⟩ := h
        refine g_callV (As := [.int a1]) (rest := []) C (mX11_laysValues l D Y h0 0 v_tape taped (.ref q_number) v_isTold v_name q_sortOf q_first q_second v_degree v_colours q_signBy v_own lines size atF place sort value fault faultPlace lastFault lastPlace q_sF v_kept undoable hasImage q_power q_table q_marks q_row rowOf areSums isSieved v_lastOf blocks v_inBlock v_atQuotient v_small drawn sF row marks power table sortOf first second signBy a1 P_3 hP) dX11_parts_33 rfl wM_X11_308 wI_X11_laysValues wV_X11_laysValues wN_X11 wC_X11_laysValues (n := 1) (by decide +kernel) rfl (q0 := 0) rfl rfl ⟨Nat.le_of_ble_eq_true rfl, Nat.le_of_ble_eq_true rfl⟩ ⟨Nat.le_of_ble_eq_true rfl, Nat.le_of_ble_eq_true rfl⟩ (Nat.le_of_ble_eq_true rfl) [0, 2, 3, 4, 5, 6, 7, 8, 9, 10] [1] rfl rfl rfl (fun v wc hv => ?_)
        obtain ⟨rowOf_1, areSums_1, row_1, power_1, table_1, rfl, rfl, hq⟩ := hv
        replace h := h rowOf_1 areSums_1 row_1 power_1 table_1 hq
        refine gG.perm (ws' := [oX11 h0 0 (v_tape) taped (.ref q_number) (v_isTold) (v_name) (.ref q_sortOf) (.ref q_first) (.ref q_second) (v_degree) (v_colours) (.ref q_signBy) (v_own) lines size atF place sort value fault faultPlace lastFault lastPlace (.ref q_sF) (v_kept) undoable hasImage (.ref q_power) (.ref q_table) (.ref q_marks) (.ref q_row) rowOf_1 areSums_1 isSieved (v_lastOf) blocks (v_inBlock) (v_atQuotient) (v_small) drawn, aI Y q_number 8 number, aI Y q_sF 74 sF, aI Y q_row 200001 row_1, aI Y q_marks 6251 marks, aJ Y q_power 18 power_1, aJ Y q_table 216 table_1, aI Y q_sortOf 24 sortOf, aI Y q_first 24 first, aI Y q_second 24 second, aI Y q_signBy 24 signBy]) [1, 0, 2, 3, 4, 5, 6, 7, 8, 9, 10] rfl rfl ?_
        refine g_iconst (v := 1) C dX11_parts_36 rfl ?_
        refine g_istore_n (lv' := [(3, .int 1), (0, .ref h0), (1, .int a1), (2, .int a2)]) C dX11_parts_37 (by decide) rfl ?_
        obtain ⟨Inv_1, Mea_1, hI1, hB1⟩ := h
        have key_1 : ∀ (n : Nat) (power_2 : Nat → Int64) (table_2 : Nat → Int64) (x3_1 : Int32) , Mea_1 power_2 table_2 x3_1 < n → Inv_1 power_2 table_2 x3_1 → gG E 0 0 [oX11 h0 0 (v_tape) taped (.ref q_number) (v_isTold) (v_name) (.ref q_sortOf) (.ref q_first) (.ref q_second) (v_degree) (v_colours) (.ref q_signBy) (v_own) lines size atF place sort value fault faultPlace lastFault lastPlace (.ref q_sF) (v_kept) undoable hasImage (.ref q_power) (.ref q_table) (.ref q_marks) (.ref q_row) rowOf_1 areSums_1 isSieved (v_lastOf) blocks (v_inBlock) (v_atQuotient) (v_small) drawn, aI Y q_number 8 number, aI Y q_sF 74 sF, aI Y q_row 200001 row_1, aI Y q_marks 6251 marks, aJ Y q_power 18 power_2, aJ Y q_table 216 table_2, aI Y q_sortOf 24 sortOf, aI Y q_first 24 first, aI Y q_second 24 second, aI Y q_signBy 24 signBy] [(0, .ref h0), (2, .int a2), (3, .int x3_1)] [] 38 := by
          intro n
          induction n with
          | zero => exact fun _ _ _ hm => absurd hm (Nat.not_lt_zero _)
          | succ n ih1 =>
            intro power_2 table_2 x3_1  hm1 hI
            have h := hB1 power_2 table_2 x3_1 hI
            refine g_iload_n C dX11_parts_38 2 rfl ?_
            refine g_aload_n C dX11_parts_39 0 rfl ?_
            refine g_get C inX11 0 rfl rfl 23 (by decide) wF_X11_48 rfl dX11_parts_40 ?_
            refine g_iconst (v := 0) C dX11_parts_43 rfl ?_
            refine g_iald C 2 rfl (by unfold vp_in; decide) dX11_parts_44 ?_
            refine g_icmp_gt (tgt := 81) C dX11_parts_45 (by decide) (fun c_4 => ?_) (fun c_4 => ?_)
            · replace h := h.1 c_4
              refine g_bipush (v := (-2)) C dX11_parts_81 rfl ?_
              exact g_iret C hR (Nat.le_of_ble_eq_true rfl) (Nat.le_of_ble_eq_true rfl) dX11_parts_83 ⟨(-2), 0, rowOf_1, areSums_1, row_1, power_2, table_2, rfl, rfl, h⟩
            · replace h := h.2 c_4
              refine g_aload_n C dX11_parts_48 0 rfl ?_
              refine g_iload_n C dX11_parts_49 2 rfl ?_
              obtain ⟨P_4, hP, h⟩ := h
              refine g_callV (As := [.int x3_1]) (rest := []) C (mX11_isPowerOfPrime l D Y h0 0 v_tape taped (.ref q_number) v_isTold v_name (.ref q_sortOf) (.ref q_first) (.ref q_second) v_degree v_colours (.ref q_signBy) v_own lines size atF place sort value fault faultPlace lastFault lastPlace (.ref q_sF) v_kept undoable hasImage (.ref q_power) (.ref q_table) q_marks (.ref q_row) rowOf_1 areSums_1 isSieved v_lastOf blocks v_inBlock v_atQuotient v_small drawn marks x3_1 P_4 hP) dX11_parts_50 rfl wM_X11_350 wI_X11_isPowerOfPrime wV_X11_isPowerOfPrime wN_X11 wC_X11_isPowerOfPrime (n := 1) (by decide +kernel) rfl (q0 := 0) rfl rfl ⟨Nat.le_of_ble_eq_true rfl, Nat.le_of_ble_eq_true rfl⟩ ⟨Nat.le_of_ble_eq_true rfl, Nat.le_of_ble_eq_true rfl⟩ (Nat.le_of_ble_eq_true rfl) [0, 4] [1, 2, 3, 5, 6, 7, 8, 9, 10] rfl rfl rfl (fun v wc hv => ?_)
              obtain ⟨rF_3, rfl, rfl, hq⟩ := hv
              replace h := h rF_3 hq
              refine gG.perm (ws' := [oX11 h0 0 (v_tape) taped (.ref q_number) (v_isTold) (v_name) (.ref q_sortOf) (.ref q_first) (.ref q_second) (v_degree) (v_colours) (.ref q_signBy) (v_own) lines size atF place sort value fault faultPlace lastFault lastPlace (.ref q_sF) (v_kept) undoable hasImage (.ref q_power) (.ref q_table) (.ref q_marks) (.ref q_row) rowOf_1 areSums_1 isSieved (v_lastOf) blocks (v_inBlock) (v_atQuotient) (v_small) drawn, aI Y q_number 8 number, aI Y q_sF 74 sF, aI Y q_row 200001 row_1, aI Y q_marks 6251 marks, aJ Y q_power 18 power_2, aJ Y q_table 216 table_2, aI Y q_sortOf 24 sortOf, aI Y q_first 24 first, aI Y q_second 24 second, aI Y q_signBy 24 signBy]) [9, 0, 1, 2, 10, 3, 4, 5, 6, 7, 8] rfl rfl ?_
              refine g_if_eq (tgt := 75) C dX11_parts_53 (by decide) (fun c_5 => ?_) (fun c_5 => ?_)
              · replace h := h.1 c_5
                refine g_iinc (v := x3_1 + 1) (lv' := [(3, .int (x3_1 + 1)), (0, .ref h0), (2, .int a2)]) C dX11_parts_75 2 rfl rfl (by decide) rfl ?_
                refine g_goto (tgt := 38) C dX11_parts_78 (by decide) ?_
                refine gG.locals (lv' := [(0, .ref h0), (2, .int a2), (3, .int (x3_1 + 1))]) [1, 2, 0] rfl ?_
                exact ih1 power_2 table_2 (x3_1 + 1) (Nat.lt_of_lt_of_le h.2 (Nat.le_of_lt_succ hm1)) h.1
              · replace h := h.2 c_5
                refine g_aload_n C dX11_parts_56 0 rfl ?_
                refine g_get C inX11 0 rfl rfl 30 (by decide) wF_X11_65 rfl dX11_parts_57 ?_
                refine g_iload_n C dX11_parts_60 2 rfl ?_
                obtain ⟨hc_1, h⟩ := h
                refine g_iald C 3 rfl hc_1 dX11_parts_61 ?_
                refine g_i2l C dX11_parts_62 ?_
                refine g_aload_n C dX11_parts_63 0 rfl ?_
                refine g_iload_n C dX11_parts_64 1 rfl ?_
                refine g_iload_n C dX11_parts_65 2 rfl ?_
                obtain ⟨P_5, hP, h⟩ := h
                refine g_callV (As := [.int a2, .int x3_1]) (rest := [.long ((row_1 x3_1.toNatClampNeg).toInt64)]) C (mX11_valueAt l D Y h0 0 v_tape taped (.ref q_number) v_isTold v_name q_sortOf q_first q_second v_degree v_colours q_signBy v_own lines size atF place sort value fault faultPlace lastFault lastPlace q_sF v_kept undoable hasImage q_power q_table (.ref q_marks) (.ref q_row) rowOf_1 areSums_1 isSieved v_lastOf blocks v_inBlock v_atQuotient v_small drawn power_2 table_2 sortOf sF first second signBy a2 x3_1 P_5 hP) dX11_parts_66 rfl wM_X11_286 wI_X11_valueAt wV_X11_valueAt wN_X11 wC_X11_valueAt (n := 2) (by decide +kernel) rfl (q0 := 0) rfl rfl ⟨Nat.le_of_ble_eq_true rfl, Nat.le_of_ble_eq_true rfl⟩ ⟨Nat.le_of_ble_eq_true rfl, Nat.le_of_ble_eq_true rfl⟩ (Nat.le_of_ble_eq_true rfl) [0, 5, 6, 7, 2, 8, 9, 10] [1, 3, 4] rfl rfl rfl (fun v wc hv => ?_)
                obtain ⟨rF_4, power_3, table_3, rfl, rfl, hq⟩ := hv
                replace h := h rF_4 power_3 table_3 hq
                refine gG.perm (ws' := [oX11 h0 0 (v_tape) taped (.ref q_number) (v_isTold) (v_name) (.ref q_sortOf) (.ref q_first) (.ref q_second) (v_degree) (v_colours) (.ref q_signBy) (v_own) lines size atF place sort value fault faultPlace lastFault lastPlace (.ref q_sF) (v_kept) undoable hasImage (.ref q_power) (.ref q_table) (.ref q_marks) (.ref q_row) rowOf_1 areSums_1 isSieved (v_lastOf) blocks (v_inBlock) (v_atQuotient) (v_small) drawn, aI Y q_number 8 number, aI Y q_sF 74 sF, aI Y q_row 200001 row_1, aI Y q_marks 6251 marks, aJ Y q_power 18 power_3, aJ Y q_table 216 table_3, aI Y q_sortOf 24 sortOf, aI Y q_first 24 first, aI Y q_second 24 second, aI Y q_signBy 24 signBy]) [3, 0, 7, 1, 2, 4, 5, 6, 8, 9, 10] rfl rfl ?_
                refine g_lcmp C dX11_parts_69 ?_
                refine g_if_eq (tgt := 75) C dX11_parts_70 (by decide) (fun c_6 => ?_) (fun c_6 => ?_)
                · replace h := h.1 c_6
                  refine g_iinc (v := x3_1 + 1) (lv' := [(3, .int (x3_1 + 1)), (0, .ref h0), (2, .int a2)]) C dX11_parts_75 2 rfl rfl (by decide) rfl ?_
                  refine g_goto (tgt := 38) C dX11_parts_78 (by decide) ?_
                  refine gG.locals (lv' := [(0, .ref h0), (2, .int a2), (3, .int (x3_1 + 1))]) [1, 2, 0] rfl ?_
                  exact ih1 power_3 table_3 (x3_1 + 1) (Nat.lt_of_lt_of_le h.2 (Nat.le_of_lt_succ hm1)) h.1
                · replace h := h.2 c_6
                  refine g_iload_n C dX11_parts_73 2 rfl ?_
                  exact g_iret C hR (Nat.le_of_ble_eq_true rfl) (Nat.le_of_ble_eq_true rfl) dX11_parts_74 ⟨x3_1, 0, rowOf_1, areSums_1, row_1, power_3, table_3, rfl, rfl, h⟩
        refine gG.locals (lv' := [(0, .ref h0), (2, .int a2), (3, .int 1)]) [1, 3, 0] rfl ?_
        exact key_1 (Mea_1 power_1 table_1 1 + 1) power_1 table_1 1 (Nat.lt_succ_self _) hI1
      · replace h := h.2 c_3
        refine g_bipush (v := (-2)) C dX11_parts_28 rfl ?_
        exact g_iret C hR (Nat.le_of_ble_eq_true rfl) (Nat.le_of_ble_eq_true rfl) dX11_parts_30 ⟨(-2), 0, rowOf, areSums, row, power, table, rfl, rfl, h⟩
    · replace h := h.2 c_2
      refine g_iconst (v := (-1)) C dX11_parts_21 rfl ?_
      exact g_iret C hR (Nat.le_of_ble_eq_true rfl) (Nat.le_of_ble_eq_true rfl) dX11_parts_22 ⟨(-1), 0, rowOf, areSums, row, power, table, rfl, rfl, h⟩
theorem dX11_best_0 : decode cX11_best 0 = .ok (.aload_n 0, 1) := by decide +kernel
theorem dX11_best_1 : decode cX11_best 1 = .ok (.iconst 0, 1) := by decide +kernel
theorem dX11_best_2 : decode cX11_best 2 = .ok (.putfield 89, 3) := by decide +kernel
theorem dX11_best_5 : decode cX11_best 5 = .ok (.aload_n 0, 1) := by decide +kernel
theorem dX11_best_6 : decode cX11_best 6 = .ok (.iload_n 1, 1) := by decide +kernel
theorem dX11_best_7 : decode cX11_best 7 = .ok (.invokevirtual 241, 3) := by decide +kernel
theorem dX11_best_10 : decode cX11_best 10 = .ok (.ifCond .eq 12, 3) := by decide +kernel
theorem dX11_best_13 : decode cX11_best 13 = .ok (.aload_n 0, 1) := by decide +kernel
theorem dX11_best_14 : decode cX11_best 14 = .ok (.iload_n 2, 1) := by decide +kernel
theorem dX11_best_15 : decode cX11_best 15 = .ok (.iconst 1, 1) := by decide +kernel
theorem dX11_best_16 : decode cX11_best 16 = .ok (.invokevirtual 282, 3) := by decide +kernel
theorem dX11_best_19 : decode cX11_best 19 = .ok (.ifCond .ne 5, 3) := by decide +kernel
theorem dX11_best_22 : decode cX11_best 22 = .ok (.iconst (-1), 1) := by decide +kernel
theorem dX11_best_23 : decode cX11_best 23 = .ok (.ireturn, 1) := by decide +kernel
theorem dX11_best_24 : decode cX11_best 24 = .ok (.iload_n 3, 1) := by decide +kernel
theorem dX11_best_25 : decode cX11_best 25 = .ok (.ifCond .eq 11, 3) := by decide +kernel
theorem dX11_best_28 : decode cX11_best 28 = .ok (.aload_n 0, 1) := by decide +kernel
theorem dX11_best_29 : decode cX11_best 29 = .ok (.iload_n 1, 1) := by decide +kernel
theorem dX11_best_30 : decode cX11_best 30 = .ok (.invokevirtual 311, 3) := by decide +kernel
theorem dX11_best_33 : decode cX11_best 33 = .ok (.goto 8, 3) := by decide +kernel
theorem dX11_best_36 : decode cX11_best 36 = .ok (.aload_n 0, 1) := by decide +kernel
theorem dX11_best_37 : decode cX11_best 37 = .ok (.iload_n 1, 1) := by decide +kernel
theorem dX11_best_38 : decode cX11_best 38 = .ok (.invokevirtual 308, 3) := by decide +kernel
theorem dX11_best_41 : decode cX11_best 41 = .ok (.iconst 1, 1) := by decide +kernel
theorem dX11_best_42 : decode cX11_best 42 = .ok (.istore 4, 2) := by decide +kernel
theorem dX11_best_44 : decode cX11_best 44 = .ok (.iconst 2, 1) := by decide +kernel
theorem dX11_best_45 : decode cX11_best 45 = .ok (.istore 5, 2) := by decide +kernel
theorem dX11_best_47 : decode cX11_best 47 = .ok (.iload 5, 2) := by decide +kernel
theorem dX11_best_49 : decode cX11_best 49 = .ok (.iload_n 2, 1) := by decide +kernel
theorem dX11_best_50 : decode cX11_best 50 = .ok (.if_icmp .gt 30, 3) := by decide +kernel
theorem dX11_best_53 : decode cX11_best 53 = .ok (.aload_n 0, 1) := by decide +kernel
theorem dX11_best_54 : decode cX11_best 54 = .ok (.getfield 65, 3) := by decide +kernel
theorem dX11_best_57 : decode cX11_best 57 = .ok (.iload 5, 2) := by decide +kernel
theorem dX11_best_59 : decode cX11_best 59 = .ok (.iaload, 1) := by decide +kernel
theorem dX11_best_60 : decode cX11_best 60 = .ok (.aload_n 0, 1) := by decide +kernel
theorem dX11_best_61 : decode cX11_best 61 = .ok (.getfield 65, 3) := by decide +kernel
theorem dX11_best_64 : decode cX11_best 64 = .ok (.iload 4, 2) := by decide +kernel
theorem dX11_best_66 : decode cX11_best 66 = .ok (.iaload, 1) := by decide +kernel
theorem dX11_best_67 : decode cX11_best 67 = .ok (.if_icmp .le 7, 3) := by decide +kernel
theorem dX11_best_70 : decode cX11_best 70 = .ok (.iload 5, 2) := by decide +kernel
theorem dX11_best_72 : decode cX11_best 72 = .ok (.istore 4, 2) := by decide +kernel
theorem dX11_best_74 : decode cX11_best 74 = .ok (.iinc 5 1, 3) := by decide +kernel
theorem dX11_best_77 : decode cX11_best 77 = .ok (.goto (-30), 3) := by decide +kernel
theorem dX11_best_80 : decode cX11_best 80 = .ok (.iload 4, 2) := by decide +kernel
theorem dX11_best_82 : decode cX11_best 82 = .ok (.ireturn, 1) := by decide +kernel
/-- QuotientSumsModel.best(IIZ)I -/
def wX11_best (thrown : Int32) (taped : Int32) (lines : Int32) (size : Int32) (atF : Int32) (place : Int32) (sort : Int32) (value : Int32) (fault : Int32) (faultPlace : Int32) (lastFault : Int32) (lastPlace : Int32) (undoable : Int32) (hasImage : Int32) (rowOf : Int32) (areSums : Int32) (isSieved : Int32) (blocks : Int32) (drawn : Int32) (number : Nat → Int32) (sF : Nat → Int32) (row : Nat → Int32) (marks : Nat → Int32) (power : Nat → Int64) (table : Nat → Int64) (sortOf : Nat → Int32) (first : Nat → Int32) (second : Nat → Int32) (signBy : Nat → Int32) (a1 : Int32) (a2 : Int32) (a3 : Int32) (Q : (Int32) → (Int32) → (Int32) → (Int32) → (Nat → Int32) → (Nat → Int64) → (Nat → Int64) → Prop) : Prop :=
  (∃ (P_1 : (Int32) → Prop), wX11_isFunction 0 taped lines size atF place sort value fault faultPlace lastFault lastPlace undoable hasImage rowOf areSums isSieved blocks drawn number a1 P_1 ∧ ∀ (rF_1 : Int32), P_1 rF_1 → ((rF_1 = 0 → (Q (-1) 0 rowOf areSums row power table)) ∧ (¬ rF_1 = 0 → (∃ (P_2 : (Int32) → Prop), wX11_isIn 0 taped lines size atF place sort value fault faultPlace lastFault lastPlace undoable hasImage rowOf areSums isSieved blocks drawn sF a2 1 P_2 ∧ ∀ (rF_2 : Int32), P_2 rF_2 → ((¬ rF_2 = 0 → (∃ (J_1 : (Nat → Int64) → (Nat → Int32) → (Nat → Int64) → (Int32) → (Int32) → Prop), ((a3 = 0 → (∃ (P_3 : (Int32) → (Int32) → (Nat → Int32) → (Nat → Int64) → (Nat → Int64) → Prop), wX11_laysValues 0 taped lines size atF place sort value fault faultPlace lastFault lastPlace undoable hasImage rowOf areSums isSieved blocks drawn sF row marks power table sortOf first second signBy a1 P_3 ∧ ∀ (rowOf_2 : Int32) (areSums_2 : Int32) (row_2 : Nat → Int32) (power_2 : Nat → Int64) (table_2 : Nat → Int64), P_3 rowOf_2 areSums_2 row_2 power_2 table_2 → (J_1 power_2 row_2 table_2 rowOf_2 areSums_2))) ∧ (¬ a3 = 0 → (∃ (P_4 : (Int32) → (Int32) → (Nat → Int32) → (Nat → Int64) → (Nat → Int64) → Prop), wX11_laysSums 0 taped lines size atF place sort value fault faultPlace lastFault lastPlace undoable hasImage rowOf areSums isSieved blocks drawn sF row marks power table sortOf first second signBy a1 P_4 ∧ ∀ (rowOf_3 : Int32) (areSums_3 : Int32) (row_3 : Nat → Int32) (power_3 : Nat → Int64) (table_3 : Nat → Int64), P_4 rowOf_3 areSums_3 row_3 power_3 table_3 → (J_1 power_3 row_3 table_3 rowOf_3 areSums_3)))) ∧ (∀ (power_1 : Nat → Int64) (row_1 : Nat → Int32) (table_1 : Nat → Int64) (rowOf_1 : Int32) (areSums_1 : Int32), J_1 power_1 row_1 table_1 rowOf_1 areSums_1 → (∃ (Inv_1 : (Int32) → (Int32) → Prop) (Mea_1 : (Int32) → (Int32) → Nat), Inv_1 1 2 ∧ ∀ (x4_1 : Int32) (x5_1 : Int32), Inv_1 x4_1 x5_1 → ((a2 < x5_1 → (Q x4_1 0 rowOf_1 areSums_1 row_1 power_1 table_1)) ∧ (¬ a2 < x5_1 → (vp_in x5_1 200001 ∧ vp_in x4_1 200001 ∧ (((row_1 x5_1.toNatClampNeg) ≤ (row_1 x4_1.toNatClampNeg) → (Inv_1 x4_1 (x5_1 + 1) ∧ Mea_1 x4_1 (x5_1 + 1) < Mea_1 x4_1 x5_1)) ∧ (¬ (row_1 x5_1.toNatClampNeg) ≤ (row_1 x4_1.toNatClampNeg) → (Inv_1 x5_1 (x5_1 + 1) ∧ Mea_1 x5_1 (x5_1 + 1) < Mea_1 x4_1 x5_1)))))))))) ∧ (rF_2 = 0 → (Q (-1) 0 rowOf areSums row power table)))))))
set_option maxHeartbeats 4000000 in
set_option maxRecDepth 100000 in
theorem mX11_best (l : Launch) (D : va_G) (Y : Nat → ClassId) (h0 : Nat) (thrown : Int32) (v_tape : Value) (taped : Int32) (q_number : Nat) (v_isTold : Value) (v_name : Value) (q_sortOf : Nat) (q_first : Nat) (q_second : Nat) (v_degree : Value) (v_colours : Value) (q_signBy : Nat) (v_own : Value) (lines : Int32) (size : Int32) (atF : Int32) (place : Int32) (sort : Int32) (value : Int32) (fault : Int32) (faultPlace : Int32) (lastFault : Int32) (lastPlace : Int32) (q_sF : Nat) (v_kept : Value) (undoable : Int32) (hasImage : Int32) (q_power : Nat) (q_table : Nat) (q_marks : Nat) (q_row : Nat) (rowOf : Int32) (areSums : Int32) (isSieved : Int32) (v_lastOf : Value) (blocks : Int32) (v_inBlock : Value) (v_atQuotient : Value) (v_small : Value) (drawn : Int32) (number : Nat → Int32) (sF : Nat → Int32) (row : Nat → Int32) (marks : Nat → Int32) (power : Nat → Int64) (table : Nat → Int64) (sortOf : Nat → Int32) (first : Nat → Int32) (second : Nat → Int32) (signBy : Nat → Int32) (a1 : Int32) (a2 : Int32) (a3 : Int32) (Q : (Int32) → (Int32) → (Int32) → (Int32) → (Nat → Int32) → (Nat → Int64) → (Nat → Int64) → Prop) (h : wX11_best thrown taped lines size atF place sort value fault faultPlace lastFault lastPlace undoable hasImage rowOf areSums isSieved blocks drawn number sF row marks power table sortOf first second signBy a1 a2 a3 Q) : gM l D Y yX11_best cX11_best 6 (some .int) 4 99 0 0 [.ref h0, .int a1, .int a2, .int a3] [oX11 h0 thrown (v_tape) taped (.ref q_number) (v_isTold) (v_name) (.ref q_sortOf) (.ref q_first) (.ref q_second) (v_degree) (v_colours) (.ref q_signBy) (v_own) lines size atF place sort value fault faultPlace lastFault lastPlace (.ref q_sF) (v_kept) undoable hasImage (.ref q_power) (.ref q_table) (.ref q_marks) (.ref q_row) rowOf areSums isSieved (v_lastOf) blocks (v_inBlock) (v_atQuotient) (v_small) drawn, aI Y q_number 8 number, aI Y q_sF 74 sF, aI Y q_row 200001 row, aI Y q_marks 6251 marks, aJ Y q_power 18 power, aJ Y q_table 216 table, aI Y q_sortOf 24 sortOf, aI Y q_first 24 first, aI Y q_second 24 second, aI Y q_signBy 24 signBy] (fun v w => ∃ r : Int32, ∃ thrown' : Int32, ∃ rowOf' : Int32, ∃ areSums' : Int32, ∃ row' : Nat → Int32, ∃ power' : Nat → Int64, ∃ table' : Nat → Int64, v = some (.int r) ∧ w = [oX11 h0 thrown' (v_tape) taped (.ref q_number) (v_isTold) (v_name) (.ref q_sortOf) (.ref q_first) (.ref q_second) (v_degree) (v_colours) (.ref q_signBy) (v_own) lines size atF place sort value fault faultPlace lastFault lastPlace (.ref q_sF) (v_kept) undoable hasImage (.ref q_power) (.ref q_table) (.ref q_marks) (.ref q_row) rowOf' areSums' isSieved (v_lastOf) blocks (v_inBlock) (v_atQuotient) (v_small) drawn, aI Y q_number 8 number, aI Y q_sF 74 sF, aI Y q_row 200001 row', aI Y q_marks 6251 marks, aJ Y q_power 18 power', aJ Y q_table 216 table', aI Y q_sortOf 24 sortOf, aI Y q_first 24 first, aI Y q_second 24 second, aI Y q_signBy 24 signBy] ∧ Q r thrown' rowOf' areSums' row' power' table') := by
  refine gM_of (own := RX11) (by decide +kernel) rfl (Nat.le_of_ble_eq_true rfl) rfl (fun E C hR => ?_)
  unfold wX11_best at h
  refine g_aload_n C dX11_best_0 0 rfl ?_
  refine g_iconst (v := 0) C dX11_best_1 rfl ?_
  refine g_put C inX11 tyX11 tyX11_ok nmX11 0 rfl rfl 0 (by decide) wF_X11_89 rfl rfl rfl (Nat.le_of_ble_eq_true rfl) (ws' := [oX11 h0 0 (v_tape) taped (.ref q_number) (v_isTold) (v_name) (.ref q_sortOf) (.ref q_first) (.ref q_second) (v_degree) (v_colours) (.ref q_signBy) (v_own) lines size atF place sort value fault faultPlace lastFault lastPlace (.ref q_sF) (v_kept) undoable hasImage (.ref q_power) (.ref q_table) (.ref q_marks) (.ref q_row) rowOf areSums isSieved (v_lastOf) blocks (v_inBlock) (v_atQuotient) (v_small) drawn, aI Y q_number 8 number, aI Y q_sF 74 sF, aI Y q_row 200001 row, aI Y q_marks 6251 marks, aJ Y q_power 18 power, aJ Y q_table 216 table, aI Y q_sortOf 24 sortOf, aI Y q_first 24 first, aI Y q_second 24 second, aI Y q_signBy 24 signBy]) rfl dX11_best_2 ?_
  refine g_aload_n C dX11_best_5 0 rfl ?_
  refine g_iload_n C dX11_best_6 1 rfl ?_
  obtain ⟨P_1, hP, h⟩ := h
  refine g_callV (As := [.int a1]) (rest := []) C (mX11_isFunction l D Y h0 0 v_tape taped q_number v_isTold v_name (.ref q_sortOf) (.ref q_first) (.ref q_second) v_degree v_colours (.ref q_signBy) v_own lines size atF place sort value fault faultPlace lastFault lastPlace (.ref q_sF) v_kept undoable hasImage (.ref q_power) (.ref q_table) (.ref q_marks) (.ref q_row) rowOf areSums isSieved v_lastOf blocks v_inBlock v_atQuotient v_small drawn number a1 P_1 hP) dX11_best_7 rfl wM_X11_241 wI_X11_isFunction wV_X11_isFunction wN_X11 wC_X11_isFunction (n := 1) (by decide +kernel) rfl (q0 := 0) rfl rfl ⟨Nat.le_of_ble_eq_true rfl, Nat.le_of_ble_eq_true rfl⟩ ⟨Nat.le_of_ble_eq_true rfl, Nat.le_of_ble_eq_true rfl⟩ (Nat.le_of_ble_eq_true rfl) [0, 1] [2, 3, 4, 5, 6, 7, 8, 9, 10] rfl rfl rfl (fun v wc hv => ?_)
  obtain ⟨rF_1, rfl, rfl, hq⟩ := hv
  replace h := h rF_1 hq
  refine gG.perm (ws' := [oX11 h0 0 (v_tape) taped (.ref q_number) (v_isTold) (v_name) (.ref q_sortOf) (.ref q_first) (.ref q_second) (v_degree) (v_colours) (.ref q_signBy) (v_own) lines size atF place sort value fault faultPlace lastFault lastPlace (.ref q_sF) (v_kept) undoable hasImage (.ref q_power) (.ref q_table) (.ref q_marks) (.ref q_row) rowOf areSums isSieved (v_lastOf) blocks (v_inBlock) (v_atQuotient) (v_small) drawn, aI Y q_number 8 number, aI Y q_sF 74 sF, aI Y q_row 200001 row, aI Y q_marks 6251 marks, aJ Y q_power 18 power, aJ Y q_table 216 table, aI Y q_sortOf 24 sortOf, aI Y q_first 24 first, aI Y q_second 24 second, aI Y q_signBy 24 signBy]) [9, 10, 0, 1, 2, 3, 4, 5, 6, 7, 8] rfl rfl ?_
  refine g_if_eq (tgt := 22) C dX11_best_10 (by decide) (fun c_1 => ?_) (fun c_1 => ?_)
  · replace h := h.1 c_1
    refine g_iconst (v := (-1)) C dX11_best_22 rfl ?_
    exact g_iret C hR (Nat.le_of_ble_eq_true rfl) (Nat.le_of_ble_eq_true rfl) dX11_best_23 ⟨(-1), 0, rowOf, areSums, row, power, table, rfl, rfl, h⟩
  · replace h := h.2 c_1
    refine g_aload_n C dX11_best_13 0 rfl ?_
    refine g_iload_n C dX11_best_14 2 rfl ?_
    refine g_iconst (v := 1) C dX11_best_15 rfl ?_
    obtain ⟨P_2, hP, h⟩ := h
    refine g_callV (As := [.int a2, .int 1]) (rest := []) C (mX11_isIn l D Y h0 0 v_tape taped (.ref q_number) v_isTold v_name (.ref q_sortOf) (.ref q_first) (.ref q_second) v_degree v_colours (.ref q_signBy) v_own lines size atF place sort value fault faultPlace lastFault lastPlace q_sF v_kept undoable hasImage (.ref q_power) (.ref q_table) (.ref q_marks) (.ref q_row) rowOf areSums isSieved v_lastOf blocks v_inBlock v_atQuotient v_small drawn sF a2 1 P_2 hP) dX11_best_16 rfl wM_X11_282 wI_X11_isIn wV_X11_isIn wN_X11 wC_X11_isIn (n := 2) (by decide +kernel) rfl (q0 := 0) rfl rfl ⟨Nat.le_of_ble_eq_true rfl, Nat.le_of_ble_eq_true rfl⟩ ⟨Nat.le_of_ble_eq_true rfl, Nat.le_of_ble_eq_true rfl⟩ (Nat.le_of_ble_eq_true rfl) [0, 2] [1, 3, 4, 5, 6, 7, 8, 9, 10] rfl rfl rfl (fun v wc hv => ?_)
    obtain ⟨rF_2, rfl, rfl, hq⟩ := hv
    replace h := h rF_2 hq
    refine gG.perm (ws' := [oX11 h0 0 (v_tape) taped (.ref q_number) (v_isTold) (v_name) (.ref q_sortOf) (.ref q_first) (.ref q_second) (v_degree) (v_colours) (.ref q_signBy) (v_own) lines size atF place sort value fault faultPlace lastFault lastPlace (.ref q_sF) (v_kept) undoable hasImage (.ref q_power) (.ref q_table) (.ref q_marks) (.ref q_row) rowOf areSums isSieved (v_lastOf) blocks (v_inBlock) (v_atQuotient) (v_small) drawn, aI Y q_number 8 number, aI Y q_sF 74 sF, aI Y q_row 200001 row, aI Y q_marks 6251 marks, aJ Y q_power 18 power, aJ Y q_table 216 table, aI Y q_sortOf 24 sortOf, aI Y q_first 24 first, aI Y q_second 24 second, aI Y q_signBy 24 signBy]) [9, 0, 10, 1, 2, 3, 4, 5, 6, 7, 8] rfl rfl ?_
    refine g_if_ne (tgt := 24) C dX11_best_19 (by decide) (fun c_2 => ?_) (fun c_2 => ?_)
    · replace h := h.1 c_2
      refine g_iload_n C dX11_best_24 3 rfl ?_
      obtain ⟨J_1, hA, hB_J_1⟩ := h
      have key_1 : ∀ (power_1 : Nat → Int64) (row_1 : Nat → Int32) (table_1 : Nat → Int64) (rowOf_1 : Int32) (areSums_1 : Int32), J_1 power_1 row_1 table_1 rowOf_1 areSums_1 → gG E 0 0 [oX11 h0 0 (v_tape) taped (.ref q_number) (v_isTold) (v_name) (.ref q_sortOf) (.ref q_first) (.ref q_second) (v_degree) (v_colours) (.ref q_signBy) (v_own) lines size atF place sort value fault faultPlace lastFault lastPlace (.ref q_sF) (v_kept) undoable hasImage (.ref q_power) (.ref q_table) (.ref q_marks) (.ref q_row) rowOf_1 areSums_1 isSieved (v_lastOf) blocks (v_inBlock) (v_atQuotient) (v_small) drawn, aI Y q_number 8 number, aI Y q_sF 74 sF, aI Y q_row 200001 row_1, aI Y q_marks 6251 marks, aJ Y q_power 18 power_1, aJ Y q_table 216 table_1, aI Y q_sortOf 24 sortOf, aI Y q_first 24 first, aI Y q_second 24 second, aI Y q_signBy 24 signBy] [(0, .ref h0), (2, .int a2)] [] 41 := by
        intro power_1 row_1 table_1 rowOf_1 areSums_1 hJ
        have h := hB_J_1 power_1 row_1 table_1 rowOf_1 areSums_1 hJ
        refine g_iconst (v := 1) C dX11_best_41 rfl ?_
        refine g_istore (lv' := [(4, .int 1), (0, .ref h0), (2, .int a2)]) C dX11_best_42 (by decide) rfl ?_
        refine g_iconst (v := 2) C dX11_best_44 rfl ?_
        refine g_istore (lv' := [(5, .int 2), (4, .int 1), (0, .ref h0), (2, .int a2)]) C dX11_best_45 (by decide) rfl ?_
        obtain ⟨Inv_1, Mea_1, hI2, hB2⟩ := h
        have key_2 : ∀ (n : Nat) (x4_1 : Int32) (x5_1 : Int32) , Mea_1 x4_1 x5_1 < n → Inv_1 x4_1 x5_1 → gG E 0 0 [oX11 h0 0 (v_tape) taped (.ref q_number) (v_isTold) (v_name) (.ref q_sortOf) (.ref q_first) (.ref q_second) (v_degree) (v_colours) (.ref q_signBy) (v_own) lines size atF place sort value fault faultPlace lastFault lastPlace (.ref q_sF) (v_kept) undoable hasImage (.ref q_power) (.ref q_table) (.ref q_marks) (.ref q_row) rowOf_1 areSums_1 isSieved (v_lastOf) blocks (v_inBlock) (v_atQuotient) (v_small) drawn, aI Y q_number 8 number, aI Y q_sF 74 sF, aI Y q_row 200001 row_1, aI Y q_marks 6251 marks, aJ Y q_power 18 power_1, aJ Y q_table 216 table_1, aI Y q_sortOf 24 sortOf, aI Y q_first 24 first, aI Y q_second 24 second, aI Y q_signBy 24 signBy] [(0, .ref h0), (2, .int a2), (4, .int x4_1), (5, .int x5_1)] [] 47 := by
          intro n
          induction n with
          | zero => exact fun _ _ hm => absurd hm (Nat.not_lt_zero _)
          | succ n ih2 =>
            intro x4_1 x5_1  hm2 hI
            have h := hB2 x4_1 x5_1 hI
            refine g_iload C dX11_best_47 3 rfl ?_
            refine g_iload_n C dX11_best_49 1 rfl ?_
            refine g_icmp_gt (tgt := 80) C dX11_best_50 (by decide) (fun c_3 => ?_) (fun c_3 => ?_)
            · replace h := h.1 c_3
              refine g_iload C dX11_best_80 2 rfl ?_
              exact g_iret C hR (Nat.le_of_ble_eq_true rfl) (Nat.le_of_ble_eq_true rfl) dX11_best_82 ⟨x4_1, 0, rowOf_1, areSums_1, row_1, power_1, table_1, rfl, rfl, h⟩
            · replace h := h.2 c_3
              refine g_aload_n C dX11_best_53 0 rfl ?_
              refine g_get C inX11 0 rfl rfl 30 (by decide) wF_X11_65 rfl dX11_best_54 ?_
              refine g_iload C dX11_best_57 3 rfl ?_
              obtain ⟨hc_1, h⟩ := h
              refine g_iald C 3 rfl hc_1 dX11_best_59 ?_
              refine g_aload_n C dX11_best_60 0 rfl ?_
              refine g_get C inX11 0 rfl rfl 30 (by decide) wF_X11_65 rfl dX11_best_61 ?_
              refine g_iload C dX11_best_64 2 rfl ?_
              obtain ⟨hc_2, h⟩ := h
              refine g_iald C 3 rfl hc_2 dX11_best_66 ?_
              refine g_icmp_le (tgt := 74) C dX11_best_67 (by decide) (fun c_4 => ?_) (fun c_4 => ?_)
              · replace h := h.1 c_4
                refine g_iinc (v := x5_1 + 1) (lv' := [(5, .int (x5_1 + 1)), (0, .ref h0), (2, .int a2), (4, .int x4_1)]) C dX11_best_74 3 rfl rfl (by decide) rfl ?_
                refine g_goto (tgt := 47) C dX11_best_77 (by decide) ?_
                refine gG.locals (lv' := [(0, .ref h0), (2, .int a2), (4, .int x4_1), (5, .int (x5_1 + 1))]) [1, 2, 3, 0] rfl ?_
                exact ih2 x4_1 (x5_1 + 1) (Nat.lt_of_lt_of_le h.2 (Nat.le_of_lt_succ hm2)) h.1
              · replace h := h.2 c_4
                refine g_iload C dX11_best_70 3 rfl ?_
                refine g_istore (lv' := [(4, .int x5_1), (0, .ref h0), (2, .int a2), (5, .int x5_1)]) C dX11_best_72 (by decide) rfl ?_
                refine g_iinc (v := x5_1 + 1) (lv' := [(5, .int (x5_1 + 1)), (4, .int x5_1), (0, .ref h0), (2, .int a2)]) C dX11_best_74 3 rfl rfl (by decide) rfl ?_
                refine g_goto (tgt := 47) C dX11_best_77 (by decide) ?_
                refine gG.locals (lv' := [(0, .ref h0), (2, .int a2), (4, .int x5_1), (5, .int (x5_1 + 1))]) [2, 3, 1, 0] rfl ?_
                exact ih2 x5_1 (x5_1 + 1) (Nat.lt_of_lt_of_le h.2 (Nat.le_of_lt_succ hm2)) h.1
        refine gG.locals (lv' := [(0, .ref h0), (2, .int a2), (4, .int 1), (5, .int 2)]) [2, 3, 1, 0] rfl ?_
        exact key_2 (Mea_1 1 2 + 1) 1 2 (Nat.lt_succ_self _) hI2
      replace h := hA
      refine g_if_eq (tgt := 36) C dX11_best_25 (by decide) (fun c_5 => ?_) (fun c_5 => ?_)
      · replace h := h.1 c_5
        refine g_aload_n C dX11_best_36 0 rfl ?_
        refine g_iload_n C dX11_best_37 1 rfl ?_
        obtain ⟨P_3, hP, h⟩ := h
        refine g_callV (As := [.int a1]) (rest := []) C (mX11_laysValues l D Y h0 0 v_tape taped (.ref q_number) v_isTold v_name q_sortOf q_first q_second v_degree v_colours q_signBy v_own lines size atF place sort value fault faultPlace lastFault lastPlace q_sF v_kept undoable hasImage q_power q_table q_marks q_row rowOf areSums isSieved v_lastOf blocks v_inBlock v_atQuotient v_small drawn sF row marks power table sortOf first second signBy a1 P_3 hP) dX11_best_38 rfl wM_X11_308 wI_X11_laysValues wV_X11_laysValues wN_X11 wC_X11_laysValues (n := 1) (by decide +kernel) rfl (q0 := 0) rfl rfl ⟨Nat.le_of_ble_eq_true rfl, Nat.le_of_ble_eq_true rfl⟩ ⟨Nat.le_of_ble_eq_true rfl, Nat.le_of_ble_eq_true rfl⟩ (Nat.le_of_ble_eq_true rfl) [0, 2, 3, 4, 5, 6, 7, 8, 9, 10] [1] rfl rfl rfl (fun v wc hv => ?_)
        obtain ⟨rowOf_2, areSums_2, row_2, power_2, table_2, rfl, rfl, hq⟩ := hv
        replace h := h rowOf_2 areSums_2 row_2 power_2 table_2 hq
        refine gG.perm (ws' := [oX11 h0 0 (v_tape) taped (.ref q_number) (v_isTold) (v_name) (.ref q_sortOf) (.ref q_first) (.ref q_second) (v_degree) (v_colours) (.ref q_signBy) (v_own) lines size atF place sort value fault faultPlace lastFault lastPlace (.ref q_sF) (v_kept) undoable hasImage (.ref q_power) (.ref q_table) (.ref q_marks) (.ref q_row) rowOf_2 areSums_2 isSieved (v_lastOf) blocks (v_inBlock) (v_atQuotient) (v_small) drawn, aI Y q_number 8 number, aI Y q_sF 74 sF, aI Y q_row 200001 row_2, aI Y q_marks 6251 marks, aJ Y q_power 18 power_2, aJ Y q_table 216 table_2, aI Y q_sortOf 24 sortOf, aI Y q_first 24 first, aI Y q_second 24 second, aI Y q_signBy 24 signBy]) [1, 0, 2, 3, 4, 5, 6, 7, 8, 9, 10] rfl rfl ?_
        refine gG.locals (lv' := [(0, .ref h0), (2, .int a2)]) [0, 2] rfl ?_
        exact key_1 power_2 row_2 table_2 rowOf_2 areSums_2 h
      · replace h := h.2 c_5
        refine g_aload_n C dX11_best_28 0 rfl ?_
        refine g_iload_n C dX11_best_29 1 rfl ?_
        obtain ⟨P_4, hP, h⟩ := h
        refine g_callV (As := [.int a1]) (rest := []) C (mX11_laysSums l D Y h0 0 v_tape taped (.ref q_number) v_isTold v_name q_sortOf q_first q_second v_degree v_colours q_signBy v_own lines size atF place sort value fault faultPlace lastFault lastPlace q_sF v_kept undoable hasImage q_power q_table q_marks q_row rowOf areSums isSieved v_lastOf blocks v_inBlock v_atQuotient v_small drawn sF row marks power table sortOf first second signBy a1 P_4 hP) dX11_best_30 rfl wM_X11_311 wI_X11_laysSums wV_X11_laysSums wN_X11 wC_X11_laysSums (n := 1) (by decide +kernel) rfl (q0 := 0) rfl rfl ⟨Nat.le_of_ble_eq_true rfl, Nat.le_of_ble_eq_true rfl⟩ ⟨Nat.le_of_ble_eq_true rfl, Nat.le_of_ble_eq_true rfl⟩ (Nat.le_of_ble_eq_true rfl) [0, 2, 3, 4, 5, 6, 7, 8, 9, 10] [1] rfl rfl rfl (fun v wc hv => ?_)
        obtain ⟨rowOf_3, areSums_3, row_3, power_3, table_3, rfl, rfl, hq⟩ := hv
        replace h := h rowOf_3 areSums_3 row_3 power_3 table_3 hq
        refine gG.perm (ws' := [oX11 h0 0 (v_tape) taped (.ref q_number) (v_isTold) (v_name) (.ref q_sortOf) (.ref q_first) (.ref q_second) (v_degree) (v_colours) (.ref q_signBy) (v_own) lines size atF place sort value fault faultPlace lastFault lastPlace (.ref q_sF) (v_kept) undoable hasImage (.ref q_power) (.ref q_table) (.ref q_marks) (.ref q_row) rowOf_3 areSums_3 isSieved (v_lastOf) blocks (v_inBlock) (v_atQuotient) (v_small) drawn, aI Y q_number 8 number, aI Y q_sF 74 sF, aI Y q_row 200001 row_3, aI Y q_marks 6251 marks, aJ Y q_power 18 power_3, aJ Y q_table 216 table_3, aI Y q_sortOf 24 sortOf, aI Y q_first 24 first, aI Y q_second 24 second, aI Y q_signBy 24 signBy]) [1, 0, 2, 3, 4, 5, 6, 7, 8, 9, 10] rfl rfl ?_
        refine g_goto (tgt := 41) C dX11_best_33 (by decide) ?_
        refine gG.locals (lv' := [(0, .ref h0), (2, .int a2)]) [0, 2] rfl ?_
        exact key_1 power_3 row_3 table_3 rowOf_3 areSums_3 h
    · replace h := h.2 c_2
      refine g_iconst (v := (-1)) C dX11_best_22 rfl ?_
      exact g_iret C hR (Nat.le_of_ble_eq_true rfl) (Nat.le_of_ble_eq_true rfl) dX11_best_23 ⟨(-1), 0, rowOf, areSums, row, power, table, rfl, rfl, h⟩
