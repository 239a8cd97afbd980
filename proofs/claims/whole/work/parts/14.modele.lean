theorem dX11_howMany_0 : decode cX11_howMany 0 = .ok (.aload_n 0, 1) := by decide +kernel
theorem dX11_howMany_1 : decode cX11_howMany 1 = .ok (.iconst 0, 1) := by decide +kernel
theorem dX11_howMany_2 : decode cX11_howMany 2 = .ok (.putfield 89, 3) := by decide +kernel
theorem dX11_howMany_5 : decode cX11_howMany 5 = .ok (.aload_n 0, 1) := by decide +kernel
theorem dX11_howMany_6 : decode cX11_howMany 6 = .ok (.iload_n 1, 1) := by decide +kernel
theorem dX11_howMany_7 : decode cX11_howMany 7 = .ok (.invokevirtual 241, 3) := by decide +kernel
theorem dX11_howMany_10 : decode cX11_howMany 10 = .ok (.ifCond .eq 20, 3) := by decide +kernel
theorem dX11_howMany_13 : decode cX11_howMany 13 = .ok (.aload_n 0, 1) := by decide +kernel
theorem dX11_howMany_14 : decode cX11_howMany 14 = .ok (.iload_n 2, 1) := by decide +kernel
theorem dX11_howMany_15 : decode cX11_howMany 15 = .ok (.iconst 0, 1) := by decide +kernel
theorem dX11_howMany_16 : decode cX11_howMany 16 = .ok (.invokevirtual 282, 3) := by decide +kernel
theorem dX11_howMany_19 : decode cX11_howMany 19 = .ok (.ifCond .eq 11, 3) := by decide +kernel
theorem dX11_howMany_22 : decode cX11_howMany 22 = .ok (.aload_n 0, 1) := by decide +kernel
theorem dX11_howMany_23 : decode cX11_howMany 23 = .ok (.iload_n 3, 1) := by decide +kernel
theorem dX11_howMany_24 : decode cX11_howMany 24 = .ok (.invokevirtual 347, 3) := by decide +kernel
theorem dX11_howMany_27 : decode cX11_howMany 27 = .ok (.ifCond .ne 5, 3) := by decide +kernel
theorem dX11_howMany_30 : decode cX11_howMany 30 = .ok (.iconst (-1), 1) := by decide +kernel
theorem dX11_howMany_31 : decode cX11_howMany 31 = .ok (.ireturn, 1) := by decide +kernel
theorem dX11_howMany_32 : decode cX11_howMany 32 = .ok (.aload_n 0, 1) := by decide +kernel
theorem dX11_howMany_33 : decode cX11_howMany 33 = .ok (.iload_n 1, 1) := by decide +kernel
theorem dX11_howMany_34 : decode cX11_howMany 34 = .ok (.invokevirtual 308, 3) := by decide +kernel
theorem dX11_howMany_37 : decode cX11_howMany 37 = .ok (.iconst 0, 1) := by decide +kernel
theorem dX11_howMany_38 : decode cX11_howMany 38 = .ok (.istore 4, 2) := by decide +kernel
theorem dX11_howMany_40 : decode cX11_howMany 40 = .ok (.iconst 1, 1) := by decide +kernel
theorem dX11_howMany_41 : decode cX11_howMany 41 = .ok (.istore 5, 2) := by decide +kernel
theorem dX11_howMany_43 : decode cX11_howMany 43 = .ok (.iload 5, 2) := by decide +kernel
theorem dX11_howMany_45 : decode cX11_howMany 45 = .ok (.iload_n 2, 1) := by decide +kernel
theorem dX11_howMany_46 : decode cX11_howMany 46 = .ok (.if_icmp .gt 30, 3) := by decide +kernel
theorem dX11_howMany_49 : decode cX11_howMany 49 = .ok (.iload 4, 2) := by decide +kernel
theorem dX11_howMany_51 : decode cX11_howMany 51 = .ok (.aload_n 0, 1) := by decide +kernel
theorem dX11_howMany_52 : decode cX11_howMany 52 = .ok (.getfield 65, 3) := by decide +kernel
theorem dX11_howMany_55 : decode cX11_howMany 55 = .ok (.iload 5, 2) := by decide +kernel
theorem dX11_howMany_57 : decode cX11_howMany 57 = .ok (.iaload, 1) := by decide +kernel
theorem dX11_howMany_58 : decode cX11_howMany 58 = .ok (.iload_n 3, 1) := by decide +kernel
theorem dX11_howMany_59 : decode cX11_howMany 59 = .ok (.if_icmp .ne 7, 3) := by decide +kernel
theorem dX11_howMany_62 : decode cX11_howMany 62 = .ok (.iconst 1, 1) := by decide +kernel
theorem dX11_howMany_63 : decode cX11_howMany 63 = .ok (.goto 4, 3) := by decide +kernel
theorem dX11_howMany_66 : decode cX11_howMany 66 = .ok (.iconst 0, 1) := by decide +kernel
theorem dX11_howMany_67 : decode cX11_howMany 67 = .ok (.iadd, 1) := by decide +kernel
theorem dX11_howMany_68 : decode cX11_howMany 68 = .ok (.istore 4, 2) := by decide +kernel
theorem dX11_howMany_70 : decode cX11_howMany 70 = .ok (.iinc 5 1, 3) := by decide +kernel
theorem dX11_howMany_73 : decode cX11_howMany 73 = .ok (.goto (-30), 3) := by decide +kernel
theorem dX11_howMany_76 : decode cX11_howMany 76 = .ok (.iload 4, 2) := by decide +kernel
theorem dX11_howMany_78 : decode cX11_howMany 78 = .ok (.ireturn, 1) := by decide +kernel
/-- QuotientSumsModel.howMany(III)I -/
def wX11_howMany (thrown : Int32) (taped : Int32) (lines : Int32) (size : Int32) (atF : Int32) (place : Int32) (sort : Int32) (value : Int32) (fault : Int32) (faultPlace : Int32) (lastFault : Int32) (lastPlace : Int32) (undoable : Int32) (hasImage : Int32) (rowOf : Int32) (areSums : Int32) (isSieved : Int32) (blocks : Int32) (drawn : Int32) (number : Nat → Int32) (sF : Nat → Int32) (row : Nat → Int32) (marks : Nat → Int32) (power : Nat → Int64) (table : Nat → Int64) (sortOf : Nat → Int32) (first : Nat → Int32) (second : Nat → Int32) (signBy : Nat → Int32) (a1 : Int32) (a2 : Int32) (a3 : Int32) (Q : (Int32) → (Int32) → (Int32) → (Int32) → (Nat → Int32) → (Nat → Int64) → (Nat → Int64) → Prop) : Prop :=
  (∃ (P_1 : (Int32) → Prop), wX11_isFunction 0 taped lines size atF place sort value fault faultPlace lastFault lastPlace undoable hasImage rowOf areSums isSieved blocks drawn number a1 P_1 ∧ ∀ (rF_1 : Int32), P_1 rF_1 → ((rF_1 = 0 → (Q (-1) 0 rowOf areSums row power table)) ∧ (¬ rF_1 = 0 → (∃ (P_2 : (Int32) → Prop), wX11_isIn 0 taped lines size atF place sort value fault faultPlace lastFault lastPlace undoable hasImage rowOf areSums isSieved blocks drawn sF a2 0 P_2 ∧ ∀ (rF_2 : Int32), P_2 rF_2 → ((rF_2 = 0 → (Q (-1) 0 rowOf areSums row power table)) ∧ (¬ rF_2 = 0 → (∃ (P_3 : (Int32) → Prop), wX11_isRest 0 taped lines size atF place sort value fault faultPlace lastFault lastPlace undoable hasImage rowOf areSums isSieved blocks drawn sF a3 P_3 ∧ ∀ (rF_3 : Int32), P_3 rF_3 → ((¬ rF_3 = 0 → (∃ (P_4 : (Int32) → (Int32) → (Nat → Int32) → (Nat → Int64) → (Nat → Int64) → Prop), wX11_laysValues 0 taped lines size atF place sort value fault faultPlace lastFault lastPlace undoable hasImage rowOf areSums isSieved blocks drawn sF row marks power table sortOf first second signBy a1 P_4 ∧ ∀ (rowOf_1 : Int32) (areSums_1 : Int32) (row_1 : Nat → Int32) (power_1 : Nat → Int64) (table_1 : Nat → Int64), P_4 rowOf_1 areSums_1 row_1 power_1 table_1 → (∃ (Inv_1 : (Int32) → (Int32) → Prop) (Mea_1 : (Int32) → (Int32) → Nat), Inv_1 0 1 ∧ ∀ (x4_1 : Int32) (x5_1 : Int32), Inv_1 x4_1 x5_1 → ((a2 < x5_1 → (Q x4_1 0 rowOf_1 areSums_1 row_1 power_1 table_1)) ∧ (¬ a2 < x5_1 → (vp_in x5_1 200001 ∧ ((¬ (row_1 x5_1.toNatClampNeg) = a3 → (∀ x4_2 : Int32, x4_2 = x4_1 + 0 → (Inv_1 x4_2 (x5_1 + 1) ∧ Mea_1 x4_2 (x5_1 + 1) < Mea_1 x4_1 x5_1))) ∧ ((row_1 x5_1.toNatClampNeg) = a3 → (∀ x4_3 : Int32, x4_3 = x4_1 + 1 → (Inv_1 x4_3 (x5_1 + 1) ∧ Mea_1 x4_3 (x5_1 + 1) < Mea_1 x4_1 x5_1)))))))))) ∧ (rF_3 = 0 → (Q (-1) 0 rowOf areSums row power table))))))))))
set_option maxHeartbeats 4000000 in
set_option maxRecDepth 100000 in
theorem mX11_howMany (l : Launch) (D : va_G) (Y : Nat → ClassId) (h0 : Nat) (thrown : Int32) (v_tape : Value) (taped : Int32) (q_number : Nat) (v_isTold : Value) (v_name : Value) (q_sortOf : Nat) (q_first : Nat) (q_second : Nat) (v_degree : Value) (v_colours : Value) (q_signBy : Nat) (v_own : Value) (lines : Int32) (size : Int32) (atF : Int32) (place : Int32) (sort : Int32) (value : Int32) (fault : Int32) (faultPlace : Int32) (lastFault : Int32) (lastPlace : Int32) (q_sF : Nat) (v_kept : Value) (undoable : Int32) (hasImage : Int32) (q_power : Nat) (q_table : Nat) (q_marks : Nat) (q_row : Nat) (rowOf : Int32) (areSums : Int32) (isSieved : Int32) (v_lastOf : Value) (blocks : Int32) (v_inBlock : Value) (v_atQuotient : Value) (v_small : Value) (drawn : Int32) (number : Nat → Int32) (sF : Nat → Int32) (row : Nat → Int32) (marks : Nat → Int32) (power : Nat → Int64) (table : Nat → Int64) (sortOf : Nat → Int32) (first : Nat → Int32) (second : Nat → Int32) (signBy : Nat → Int32) (a1 : Int32) (a2 : Int32) (a3 : Int32) (Q : (Int32) → (Int32) → (Int32) → (Int32) → (Nat → Int32) → (Nat → Int64) → (Nat → Int64) → Prop) (h : wX11_howMany thrown taped lines size atF place sort value fault faultPlace lastFault lastPlace undoable hasImage rowOf areSums isSieved blocks drawn number sF row marks power table sortOf first second signBy a1 a2 a3 Q) : gM l D Y yX11_howMany cX11_howMany 6 (some .int) 3 77 0 0 [.ref h0, .int a1, .int a2, .int a3] [oX11 h0 thrown (v_tape) taped (.ref q_number) (v_isTold) (v_name) (.ref q_sortOf) (.ref q_first) (.ref q_second) (v_degree) (v_colours) (.ref q_signBy) (v_own) lines size atF place sort value fault faultPlace lastFault lastPlace (.ref q_sF) (v_kept) undoable hasImage (.ref q_power) (.ref q_table) (.ref q_marks) (.ref q_row) rowOf areSums isSieved (v_lastOf) blocks (v_inBlock) (v_atQuotient) (v_small) drawn, aI Y q_number 8 number, aI Y q_sF 74 sF, aI Y q_row 200001 row, aI Y q_marks 6251 marks, aJ Y q_power 18 power, aJ Y q_table 216 table, aI Y q_sortOf 24 sortOf, aI Y q_first 24 first, aI Y q_second 24 second, aI Y q_signBy 24 signBy] (fun v w => ∃ r : Int32, ∃ thrown' : Int32, ∃ rowOf' : Int32, ∃ areSums' : Int32, ∃ row' : Nat → Int32, ∃ power' : Nat → Int64, ∃ table' : Nat → Int64, v = some (.int r) ∧ w = [oX11 h0 thrown' (v_tape) taped (.ref q_number) (v_isTold) (v_name) (.ref q_sortOf) (.ref q_first) (.ref q_second) (v_degree) (v_colours) (.ref q_signBy) (v_own) lines size atF place sort value fault faultPlace lastFault lastPlace (.ref q_sF) (v_kept) undoable hasImage (.ref q_power) (.ref q_table) (.ref q_marks) (.ref q_row) rowOf' areSums' isSieved (v_lastOf) blocks (v_inBlock) (v_atQuotient) (v_small) drawn, aI Y q_number 8 number, aI Y q_sF 74 sF, aI Y q_row 200001 row', aI Y q_marks 6251 marks, aJ Y q_power 18 power', aJ Y q_table 216 table', aI Y q_sortOf 24 sortOf, aI Y q_first 24 first, aI Y q_second 24 second, aI Y q_signBy 24 signBy] ∧ Q r thrown' rowOf' areSums' row' power' table') := by
  refine gM_of (own := RX11) (by decide +kernel) rfl (Nat.le_of_ble_eq_true rfl) rfl (fun E C hR => ?_)
  unfold wX11_howMany at h
  refine g_aload_n C dX11_howMany_0 0 rfl ?_
  refine g_iconst (v := 0) C dX11_howMany_1 rfl ?_
  refine g_put C inX11 tyX11 tyX11_ok nmX11 0 rfl rfl 0 (by decide) wF_X11_89 rfl rfl rfl (Nat.le_of_ble_eq_true rfl) (ws' := [oX11 h0 0 (v_tape) taped (.ref q_number) (v_isTold) (v_name) (.ref q_sortOf) (.ref q_first) (.ref q_second) (v_degree) (v_colours) (.ref q_signBy) (v_own) lines size atF place sort value fault faultPlace lastFault lastPlace (.ref q_sF) (v_kept) undoable hasImage (.ref q_power) (.ref q_table) (.ref q_marks) (.ref q_row) rowOf areSums isSieved (v_lastOf) blocks (v_inBlock) (v_atQuotient) (v_small) drawn, aI Y q_number 8 number, aI Y q_sF 74 sF, aI Y q_row 200001 row, aI Y q_marks 6251 marks, aJ Y q_power 18 power, aJ Y q_table 216 table, aI Y q_sortOf 24 sortOf, aI Y q_first 24 first, aI Y q_second 24 second, aI Y q_signBy 24 signBy]) rfl dX11_howMany_2 ?_
  refine g_aload_n C dX11_howMany_5 0 rfl ?_
  refine g_iload_n C dX11_howMany_6 1 rfl ?_
  obtain ⟨P_1, hP, h⟩ := h
  refine g_callV (As := [.int a1]) (rest := []) C (mX11_isFunction l D Y h0 0 v_tape taped q_number v_isTold v_name (.ref q_sortOf) (.ref q_first) (.ref q_second) v_degree v_colours (.ref q_signBy) v_own lines size atF place sort value fault faultPlace lastFault lastPlace (.ref q_sF) v_kept undoable hasImage (.ref q_power) (.ref q_table) (.ref q_marks) (.ref q_row) rowOf areSums isSieved v_lastOf blocks v_inBlock v_atQuotient v_small drawn number a1 P_1 hP) dX11_howMany_7 rfl wM_X11_241 wI_X11_isFunction wV_X11_isFunction wN_X11 wC_X11_isFunction (n := 1) (by decide +kernel) rfl (q0 := 0) rfl rfl ⟨Nat.le_of_ble_eq_true rfl, Nat.le_of_ble_eq_true rfl⟩ ⟨Nat.le_of_ble_eq_true rfl, Nat.le_of_ble_eq_true rfl⟩ (Nat.le_of_ble_eq_true rfl) [0, 1] [2, 3, 4, 5, 6, 7, 8, 9, 10] rfl rfl rfl (fun v wc hv => ?_)
  obtain ⟨rF_1, rfl, rfl, hq⟩ := hv
  replace h := h rF_1 hq
  refine gG.perm (ws' := [oX11 h0 0 (v_tape) taped (.ref q_number) (v_isTold) (v_name) (.ref q_sortOf) (.ref q_first) (.ref q_second) (v_degree) (v_colours) (.ref q_signBy) (v_own) lines size atF place sort value fault faultPlace lastFault lastPlace (.ref q_sF) (v_kept) undoable hasImage (.ref q_power) (.ref q_table) (.ref q_marks) (.ref q_row) rowOf areSums isSieved (v_lastOf) blocks (v_inBlock) (v_atQuotient) (v_small) drawn, aI Y q_number 8 number, aI Y q_sF 74 sF, aI Y q_row 200001 row, aI Y q_marks 6251 marks, aJ Y q_power 18 power, aJ Y q_table 216 table, aI Y q_sortOf 24 sortOf, aI Y q_first 24 first, aI Y q_second 24 second, aI Y q_signBy 24 signBy]) [9, 10, 0, 1, 2, 3, 4, 5, 6, 7, 8] rfl rfl ?_
  refine g_if_eq (tgt := 30) C dX11_howMany_10 (by decide) (fun c_1 => ?_) (fun c_1 => ?_)
  · replace h := h.1 c_1
    refine g_iconst (v := (-1)) C dX11_howMany_30 rfl ?_
    exact g_iret C hR (Nat.le_of_ble_eq_true rfl) (Nat.le_of_ble_eq_true rfl) dX11_howMany_31 ⟨(-1), 0, rowOf, areSums, row, power, table, rfl, rfl, h⟩
  · replace h := h.2 c_1
    refine g_aload_n C dX11_howMany_13 0 rfl ?_
    refine g_iload_n C dX11_howMany_14 2 rfl ?_
    refine g_iconst (v := 0) C dX11_howMany_15 rfl ?_
    obtain ⟨P_2, hP, h⟩ := h
    refine g_callV (As := [.int a2, .int 0]) (rest := []) C (mX11_isIn l D Y h0 0 v_tape taped (.ref q_number) v_isTold v_name (.ref q_sortOf) (.ref q_first) (.ref q_second) v_degree v_colours (.ref q_signBy) v_own lines size atF place sort value fault faultPlace lastFault lastPlace q_sF v_kept undoable hasImage (.ref q_power) (.ref q_table) (.ref q_marks) (.ref q_row) rowOf areSums isSieved v_lastOf blocks v_inBlock v_atQuotient v_small drawn sF a2 0 P_2 hP) dX11_howMany_16 rfl wM_X11_282 wI_X11_isIn wV_X11_isIn wN_X11 wC_X11_isIn (n := 2) (by decide +kernel) rfl (q0 := 0) rfl rfl ⟨Nat.le_of_ble_eq_true rfl, Nat.le_of_ble_eq_true rfl⟩ ⟨Nat.le_of_ble_eq_true rfl, Nat.le_of_ble_eq_true rfl⟩ (Nat.le_of_ble_eq_true rfl) [0, 2] [1, 3, 4, 5, 6, 7, 8, 9, 10] rfl rfl rfl (fun v wc hv => ?_)
    obtain ⟨rF_2, rfl, rfl, hq⟩ := hv
    replace h := h rF_2 hq
    refine gG.perm (ws' := [oX11 h0 0 (v_tape) taped (.ref q_number) (v_isTold) (v_name) (.ref q_sortOf) (.ref q_first) (.ref q_second) (v_degree) (v_colours) (.ref q_signBy) (v_own) lines size atF place sort value fault faultPlace lastFault lastPlace (.ref q_sF) (v_kept) undoable hasImage (.ref q_power) (.ref q_table) (.ref q_marks) (.ref q_row) rowOf areSums isSieved (v_lastOf) blocks (v_inBlock) (v_atQuotient) (v_small) drawn, aI Y q_number 8 number, aI Y q_sF 74 sF, aI Y q_row 200001 row, aI Y q_marks 6251 marks, aJ Y q_power 18 power, aJ Y q_table 216 table, aI Y q_sortOf 24 sortOf, aI Y q_first 24 first, aI Y q_second 24 second, aI Y q_signBy 24 signBy]) [9, 0, 10, 1, 2, 3, 4, 5, 6, 7, 8] rfl rfl ?_
    refine g_if_eq (tgt := 30) C dX11_howMany_19 (by decide) (fun c_2 => ?_) (fun c_2 => ?_)
    · replace h := h.1 c_2
      refine g_iconst (v := (-1)) C dX11_howMany_30 rfl ?_
      exact g_iret C hR (Nat.le_of_ble_eq_true rfl) (Nat.le_of_ble_eq_true rfl) dX11_howMany_31 ⟨(-1), 0, rowOf, areSums, row, power, table, rfl, rfl, h⟩
    · replace h := h.2 c_2
      refine g_aload_n C dX11_howMany_22 0 rfl ?_
      refine g_iload_n C dX11_howMany_23 3 rfl ?_
      obtain ⟨P_3, hP, h⟩ := h
      refine g_callV (As := [.int a3]) (rest := []) C (mX11_isRest l D Y h0 0 v_tape taped (.ref q_number) v_isTold v_name (.ref q_sortOf) (.ref q_first) (.ref q_second) v_degree v_colours (.ref q_signBy) v_own lines size atF place sort value fault faultPlace lastFault lastPlace q_sF v_kept undoable hasImage (.ref q_power) (.ref q_table) (.ref q_marks) (.ref q_row) rowOf areSums isSieved v_lastOf blocks v_inBlock v_atQuotient v_small drawn sF a3 P_3 hP) dX11_howMany_24 rfl wM_X11_347 wI_X11_isRest wV_X11_isRest wN_X11 wC_X11_isRest (n := 1) (by decide +kernel) rfl (q0 := 0) rfl rfl ⟨Nat.le_of_ble_eq_true rfl, Nat.le_of_ble_eq_true rfl⟩ ⟨Nat.le_of_ble_eq_true rfl, Nat.le_of_ble_eq_true rfl⟩ (Nat.le_of_ble_eq_true rfl) [0, 2] [1, 3, 4, 5, 6, 7, 8, 9, 10] rfl rfl rfl (fun v wc hv => ?_)
      obtain ⟨rF_3, rfl, rfl, hq⟩ := hv
      replace h := h rF_3 hq
      refine gG.perm (ws' := [oX11 h0 0 (v_tape) taped (.ref q_number) (v_isTold) (v_name) (.ref q_sortOf) (.ref q_first) (.ref q_second) (v_degree) (v_colours) (.ref q_signBy) (v_own) lines size atF place sort value fault faultPlace lastFault lastPlace (.ref q_sF) (v_kept) undoable hasImage (.ref q_power) (.ref q_table) (.ref q_marks) (.ref q_row) rowOf areSums isSieved (v_lastOf) blocks (v_inBlock) (v_atQuotient) (v_small) drawn, aI Y q_number 8 number, aI Y q_sF 74 sF, aI Y q_row 200001 row, aI Y q_marks 6251 marks, aJ Y q_power 18 power, aJ Y q_table 216 table, aI Y q_sortOf 24 sortOf, aI Y q_first 24 first, aI Y q_second 24 second, aI Y q_signBy 24 signBy]) [9, 0, 10, 1, 2, 3, 4, 5, 6, 7, 8] rfl rfl ?_
      refine g_if_ne (tgt := 32) C dX11_howMany_27 (by decide) (fun c_3 => ?_) (fun c_3 => ?_)
      · replace h := h.1 c_3
        refine g_aload_n C dX11_howMany_32 0 rfl ?_
        refine g_iload_n C dX11_howMany_33 1 rfl ?_
        obtain ⟨P_4, hP, h⟩ := h
        refine g_callV (As := [.int a1]) (rest := []) C (mX11_laysValues l D Y h0 0 v_tape taped (.ref q_number) v_isTold v_name q_sortOf q_first q_second v_degree v_colours q_signBy v_own lines size atF place sort value fault faultPlace lastFault lastPlace q_sF v_kept undoable hasImage q_power q_table q_marks q_row rowOf areSums isSieved v_lastOf blocks v_inBlock v_atQuotient v_small drawn sF row marks power table sortOf first second signBy a1 P_4 hP) dX11_howMany_34 rfl wM_X11_308 wI_X11_laysValues wV_X11_laysValues wN_X11 wC_X11_laysValues (n := 1) (by decide +kernel) rfl (q0 := 0) rfl rfl ⟨Nat.le_of_ble_eq_true rfl, Nat.le_of_ble_eq_true rfl⟩ ⟨Nat.le_of_ble_eq_true rfl, Nat.le_of_ble_eq_true rfl⟩ (Nat.le_of_ble_eq_true rfl) [0, 2, 3, 4, 5, 6, 7, 8, 9, 10] [1] rfl rfl rfl (fun v wc hv => ?_)
        obtain ⟨rowOf_1, areSums_1, row_1, power_1, table_1, rfl, rfl, hq⟩ := hv
        replace h := h rowOf_1 areSums_1 row_1 power_1 table_1 hq
        refine gG.perm (ws' := [oX11 h0 0 (v_tape) taped (.ref q_number) (v_isTold) (v_name) (.ref q_sortOf) (.ref q_first) (.ref q_second) (v_degree) (v_colours) (.ref q_signBy) (v_own) lines size atF place sort value fault faultPlace lastFault lastPlace (.ref q_sF) (v_kept) undoable hasImage (.ref q_power) (.ref q_table) (.ref q_marks) (.ref q_row) rowOf_1 areSums_1 isSieved (v_lastOf) blocks (v_inBlock) (v_atQuotient) (v_small) drawn, aI Y q_number 8 number, aI Y q_sF 74 sF, aI Y q_row 200001 row_1, aI Y q_marks 6251 marks, aJ Y q_power 18 power_1, aJ Y q_table 216 table_1, aI Y q_sortOf 24 sortOf, aI Y q_first 24 first, aI Y q_second 24 second, aI Y q_signBy 24 signBy]) [1, 0, 2, 3, 4, 5, 6, 7, 8, 9, 10] rfl rfl ?_
        refine g_iconst (v := 0) C dX11_howMany_37 rfl ?_
        refine g_istore (lv' := [(4, .int 0), (0, .ref h0), (1, .int a1), (2, .int a2), (3, .int a3)]) C dX11_howMany_38 (by decide) rfl ?_
        refine g_iconst (v := 1) C dX11_howMany_40 rfl ?_
        refine g_istore (lv' := [(5, .int 1), (4, .int 0), (0, .ref h0), (1, .int a1), (2, .int a2), (3, .int a3)]) C dX11_howMany_41 (by decide) rfl ?_
        obtain ⟨Inv_1, Mea_1, hI1, hB1⟩ := h
        have key_1 : ∀ (n : Nat) (x4_1 : Int32) (x5_1 : Int32) , Mea_1 x4_1 x5_1 < n → Inv_1 x4_1 x5_1 → gG E 0 0 [oX11 h0 0 (v_tape) taped (.ref q_number) (v_isTold) (v_name) (.ref q_sortOf) (.ref q_first) (.ref q_second) (v_degree) (v_colours) (.ref q_signBy) (v_own) lines size atF place sort value fault faultPlace lastFault lastPlace (.ref q_sF) (v_kept) undoable hasImage (.ref q_power) (.ref q_table) (.ref q_marks) (.ref q_row) rowOf_1 areSums_1 isSieved (v_lastOf) blocks (v_inBlock) (v_atQuotient) (v_small) drawn, aI Y q_number 8 number, aI Y q_sF 74 sF, aI Y q_row 200001 row_1, aI Y q_marks 6251 marks, aJ Y q_power 18 power_1, aJ Y q_table 216 table_1, aI Y q_sortOf 24 sortOf, aI Y q_first 24 first, aI Y q_second 24 second, aI Y q_signBy 24 signBy] [(0, .ref h0), (2, .int a2), (3, .int a3), (4, .int x4_1), (5, .int x5_1)] [] 43 := by
          intro n
          induction n with
          | zero => exact fun _ _ hm => absurd hm (Nat.not_lt_zero _)
          | succ n ih1 =>
            intro x4_1 x5_1  hm1 hI
            have h := hB1 x4_1 x5_1 hI
            refine g_iload C dX11_howMany_43 4 rfl ?_
            refine g_iload_n C dX11_howMany_45 1 rfl ?_
            refine g_icmp_gt (tgt := 76) C dX11_howMany_46 (by decide) (fun c_4 => ?_) (fun c_4 => ?_)
            · replace h := h.1 c_4
              refine g_iload C dX11_howMany_76 3 rfl ?_
              exact g_iret C hR (Nat.le_of_ble_eq_true rfl) (Nat.le_of_ble_eq_true rfl) dX11_howMany_78 ⟨x4_1, 0, rowOf_1, areSums_1, row_1, power_1, table_1, rfl, rfl, h⟩
            · replace h := h.2 c_4
              refine g_iload C dX11_howMany_49 3 rfl ?_
              refine g_aload_n C dX11_howMany_51 0 rfl ?_
              refine g_get C inX11 0 rfl rfl 30 (by decide) wF_X11_65 rfl dX11_howMany_52 ?_
              refine g_iload C dX11_howMany_55 4 rfl ?_
              obtain ⟨hc_1, h⟩ := h
              refine g_iald C 3 rfl hc_1 dX11_howMany_57 ?_
              refine g_iload_n C dX11_howMany_58 2 rfl ?_
              refine g_icmp_ne (tgt := 66) C dX11_howMany_59 (by decide) (fun c_5 => ?_) (fun c_5 => ?_)
              · replace h := h.1 c_5
                refine g_iconst (v := 0) C dX11_howMany_66 rfl ?_
                refine g_iadd C dX11_howMany_67 ?_
                refine g_topi (fun x4_2 ex4_2 => ?_)
                replace h := h x4_2 ex4_2
                refine g_istore (lv' := [(4, .int x4_2), (0, .ref h0), (2, .int a2), (3, .int a3), (5, .int x5_1)]) C dX11_howMany_68 (by decide) rfl ?_
                refine g_iinc (v := x5_1 + 1) (lv' := [(5, .int (x5_1 + 1)), (4, .int x4_2), (0, .ref h0), (2, .int a2), (3, .int a3)]) C dX11_howMany_70 4 rfl rfl (by decide) rfl ?_
                refine g_goto (tgt := 43) C dX11_howMany_73 (by decide) ?_
                refine gG.locals (lv' := [(0, .ref h0), (2, .int a2), (3, .int a3), (4, .int x4_2), (5, .int (x5_1 + 1))]) [2, 3, 4, 1, 0] rfl ?_
                exact ih1 x4_2 (x5_1 + 1) (Nat.lt_of_lt_of_le h.2 (Nat.le_of_lt_succ hm1)) h.1
              · replace h := h.2 c_5
                refine g_iconst (v := 1) C dX11_howMany_62 rfl ?_
                refine g_goto (tgt := 67) C dX11_howMany_63 (by decide) ?_
                refine g_iadd C dX11_howMany_67 ?_
                refine g_topi (fun x4_3 ex4_3 => ?_)
                replace h := h x4_3 ex4_3
                refine g_istore (lv' := [(4, .int x4_3), (0, .ref h0), (2, .int a2), (3, .int a3), (5, .int x5_1)]) C dX11_howMany_68 (by decide) rfl ?_
                refine g_iinc (v := x5_1 + 1) (lv' := [(5, .int (x5_1 + 1)), (4, .int x4_3), (0, .ref h0), (2, .int a2), (3, .int a3)]) C dX11_howMany_70 4 rfl rfl (by decide) rfl ?_
                refine g_goto (tgt := 43) C dX11_howMany_73 (by decide) ?_
                refine gG.locals (lv' := [(0, .ref h0), (2, .int a2), (3, .int a3), (4, .int x4_3), (5, .int (x5_1 + 1))]) [2, 3, 4, 1, 0] rfl ?_
                exact ih1 x4_3 (x5_1 + 1) (Nat.lt_of_lt_of_le h.2 (Nat.le_of_lt_succ hm1)) h.1
        refine gG.locals (lv' := [(0, .ref h0), (2, .int a2), (3, .int a3), (4, .int 0), (5, .int 1)]) [2, 4, 5, 1, 0] rfl ?_
        exact key_1 (Mea_1 0 1 + 1) 0 1 (Nat.lt_succ_self _) hI1
      · replace h := h.2 c_3
        refine g_iconst (v := (-1)) C dX11_howMany_30 rfl ?_
        exact g_iret C hR (Nat.le_of_ble_eq_true rfl) (Nat.le_of_ble_eq_true rfl) dX11_howMany_31 ⟨(-1), 0, rowOf, areSums, row, power, table, rfl, rfl, h⟩
theorem dX11_isWhole_0 : decode cX11_isWhole 0 = .ok (.aload_n 0, 1) := by decide +kernel
theorem dX11_isWhole_1 : decode cX11_isWhole 1 = .ok (.iconst 0, 1) := by decide +kernel
theorem dX11_isWhole_2 : decode cX11_isWhole 2 = .ok (.putfield 89, 3) := by decide +kernel
theorem dX11_isWhole_5 : decode cX11_isWhole 5 = .ok (.aload_n 0, 1) := by decide +kernel
theorem dX11_isWhole_6 : decode cX11_isWhole 6 = .ok (.iload_n 1, 1) := by decide +kernel
theorem dX11_isWhole_7 : decode cX11_isWhole 7 = .ok (.invokevirtual 241, 3) := by decide +kernel
theorem dX11_isWhole_10 : decode cX11_isWhole 10 = .ok (.ifCond .ne 5, 3) := by decide +kernel
theorem dX11_isWhole_13 : decode cX11_isWhole 13 = .ok (.iconst (-1), 1) := by decide +kernel
theorem dX11_isWhole_14 : decode cX11_isWhole 14 = .ok (.ireturn, 1) := by decide +kernel
theorem dX11_isWhole_15 : decode cX11_isWhole 15 = .ok (.iconst 1, 1) := by decide +kernel
theorem dX11_isWhole_16 : decode cX11_isWhole 16 = .ok (.istore_n 2, 1) := by decide +kernel
theorem dX11_isWhole_17 : decode cX11_isWhole 17 = .ok (.iload_n 2, 1) := by decide +kernel
theorem dX11_isWhole_18 : decode cX11_isWhole 18 = .ok (.sipush 1600, 3) := by decide +kernel
theorem dX11_isWhole_21 : decode cX11_isWhole 21 = .ok (.if_icmp .gt 21, 3) := by decide +kernel
theorem dX11_isWhole_24 : decode cX11_isWhole 24 = .ok (.aload_n 0, 1) := by decide +kernel
theorem dX11_isWhole_25 : decode cX11_isWhole 25 = .ok (.getfield 77, 3) := by decide +kernel
theorem dX11_isWhole_28 : decode cX11_isWhole 28 = .ok (.iload_n 2, 1) := by decide +kernel
theorem dX11_isWhole_29 : decode cX11_isWhole 29 = .ok (.aload_n 0, 1) := by decide +kernel
theorem dX11_isWhole_30 : decode cX11_isWhole 30 = .ok (.iload_n 1, 1) := by decide +kernel
theorem dX11_isWhole_31 : decode cX11_isWhole 31 = .ok (.iload_n 2, 1) := by decide +kernel
theorem dX11_isWhole_32 : decode cX11_isWhole 32 = .ok (.invokevirtual 286, 3) := by decide +kernel
theorem dX11_isWhole_35 : decode cX11_isWhole 35 = .ok (.lastore, 1) := by decide +kernel
theorem dX11_isWhole_36 : decode cX11_isWhole 36 = .ok (.iinc 2 1, 3) := by decide +kernel
theorem dX11_isWhole_39 : decode cX11_isWhole 39 = .ok (.goto (-22), 3) := by decide +kernel
theorem dX11_isWhole_42 : decode cX11_isWhole 42 = .ok (.iconst 1, 1) := by decide +kernel
theorem dX11_isWhole_43 : decode cX11_isWhole 43 = .ok (.istore_n 2, 1) := by decide +kernel
theorem dX11_isWhole_44 : decode cX11_isWhole 44 = .ok (.iload_n 2, 1) := by decide +kernel
theorem dX11_isWhole_45 : decode cX11_isWhole 45 = .ok (.bipush 40, 2) := by decide +kernel
theorem dX11_isWhole_47 : decode cX11_isWhole 47 = .ok (.if_icmp .gt 58, 3) := by decide +kernel
theorem dX11_isWhole_50 : decode cX11_isWhole 50 = .ok (.iconst 1, 1) := by decide +kernel
theorem dX11_isWhole_51 : decode cX11_isWhole 51 = .ok (.istore_n 3, 1) := by decide +kernel
theorem dX11_isWhole_52 : decode cX11_isWhole 52 = .ok (.iload_n 3, 1) := by decide +kernel
theorem dX11_isWhole_53 : decode cX11_isWhole 53 = .ok (.bipush 40, 2) := by decide +kernel
theorem dX11_isWhole_55 : decode cX11_isWhole 55 = .ok (.if_icmp .gt 44, 3) := by decide +kernel
theorem dX11_isWhole_58 : decode cX11_isWhole 58 = .ok (.aload_n 0, 1) := by decide +kernel
theorem dX11_isWhole_59 : decode cX11_isWhole 59 = .ok (.getfield 77, 3) := by decide +kernel
theorem dX11_isWhole_62 : decode cX11_isWhole 62 = .ok (.iload_n 2, 1) := by decide +kernel
theorem dX11_isWhole_63 : decode cX11_isWhole 63 = .ok (.iload_n 3, 1) := by decide +kernel
theorem dX11_isWhole_64 : decode cX11_isWhole 64 = .ok (.imul, 1) := by decide +kernel
theorem dX11_isWhole_65 : decode cX11_isWhole 65 = .ok (.laload, 1) := by decide +kernel
theorem dX11_isWhole_66 : decode cX11_isWhole 66 = .ok (.aload_n 0, 1) := by decide +kernel
theorem dX11_isWhole_67 : decode cX11_isWhole 67 = .ok (.getfield 77, 3) := by decide +kernel
theorem dX11_isWhole_70 : decode cX11_isWhole 70 = .ok (.iload_n 2, 1) := by decide +kernel
theorem dX11_isWhole_71 : decode cX11_isWhole 71 = .ok (.laload, 1) := by decide +kernel
theorem dX11_isWhole_72 : decode cX11_isWhole 72 = .ok (.aload_n 0, 1) := by decide +kernel
theorem dX11_isWhole_73 : decode cX11_isWhole 73 = .ok (.getfield 77, 3) := by decide +kernel
theorem dX11_isWhole_76 : decode cX11_isWhole 76 = .ok (.iload_n 3, 1) := by decide +kernel
theorem dX11_isWhole_77 : decode cX11_isWhole 77 = .ok (.laload, 1) := by decide +kernel
theorem dX11_isWhole_78 : decode cX11_isWhole 78 = .ok (.lmul, 1) := by decide +kernel
theorem dX11_isWhole_79 : decode cX11_isWhole 79 = .ok (.aload_n 0, 1) := by decide +kernel
theorem dX11_isWhole_80 : decode cX11_isWhole 80 = .ok (.getfield 48, 3) := by decide +kernel
theorem dX11_isWhole_83 : decode cX11_isWhole 83 = .ok (.iconst 1, 1) := by decide +kernel
theorem dX11_isWhole_84 : decode cX11_isWhole 84 = .ok (.iaload, 1) := by decide +kernel
theorem dX11_isWhole_85 : decode cX11_isWhole 85 = .ok (.i2l, 1) := by decide +kernel
theorem dX11_isWhole_86 : decode cX11_isWhole 86 = .ok (.lrem, 1) := by decide +kernel
theorem dX11_isWhole_87 : decode cX11_isWhole 87 = .ok (.lcmp, 1) := by decide +kernel
theorem dX11_isWhole_88 : decode cX11_isWhole 88 = .ok (.ifCond .eq 5, 3) := by decide +kernel
theorem dX11_isWhole_91 : decode cX11_isWhole 91 = .ok (.iconst 0, 1) := by decide +kernel
theorem dX11_isWhole_92 : decode cX11_isWhole 92 = .ok (.ireturn, 1) := by decide +kernel
theorem dX11_isWhole_93 : decode cX11_isWhole 93 = .ok (.iinc 3 1, 3) := by decide +kernel
theorem dX11_isWhole_96 : decode cX11_isWhole 96 = .ok (.goto (-44), 3) := by decide +kernel
theorem dX11_isWhole_99 : decode cX11_isWhole 99 = .ok (.iinc 2 1, 3) := by decide +kernel
theorem dX11_isWhole_102 : decode cX11_isWhole 102 = .ok (.goto (-58), 3) := by decide +kernel
theorem dX11_isWhole_105 : decode cX11_isWhole 105 = .ok (.iconst 1, 1) := by decide +kernel
theorem dX11_isWhole_106 : decode cX11_isWhole 106 = .ok (.ireturn, 1) := by decide +kernel
/-- QuotientSumsModel.isWhole(I)I -/
def wX11_isWhole (thrown : Int32) (taped : Int32) (lines : Int32) (size : Int32) (atF : Int32) (place : Int32) (sort : Int32) (value : Int32) (fault : Int32) (faultPlace : Int32) (lastFault : Int32) (lastPlace : Int32) (undoable : Int32) (hasImage : Int32) (rowOf : Int32) (areSums : Int32) (isSieved : Int32) (blocks : Int32) (drawn : Int32) (number : Nat → Int32) (power : Nat → Int64) (table : Nat → Int64) (sortOf : Nat → Int32) (sF : Nat → Int32) (first : Nat → Int32) (second : Nat → Int32) (signBy : Nat → Int32) (small : Nat → Int64) (a1 : Int32) (Q : (Int32) → (Int32) → (Nat → Int64) → (Nat → Int64) → (Nat → Int64) → Prop) : Prop :=
  (∃ (P_1 : (Int32) → Prop), wX11_isFunction 0 taped lines size atF place sort value fault faultPlace lastFault lastPlace undoable hasImage rowOf areSums isSieved blocks drawn number a1 P_1 ∧ ∀ (rF_1 : Int32), P_1 rF_1 → ((¬ rF_1 = 0 → (∃ (Inv_1 : (Nat → Int64) → (Nat → Int64) → (Nat → Int64) → (Int32) → Prop) (Mea_1 : (Nat → Int64) → (Nat → Int64) → (Nat → Int64) → (Int32) → Nat), Inv_1 power small table 1 ∧ ∀ (power_1 : Nat → Int64) (small_1 : Nat → Int64) (table_1 : Nat → Int64) (x2_1 : Int32), Inv_1 power_1 small_1 table_1 x2_1 → ((1600 < x2_1 → (∃ (Inv_2 : (Int32) → Prop) (Mea_2 : (Int32) → Nat), Inv_2 1 ∧ ∀ (x2_2 : Int32), Inv_2 x2_2 → ((40 < x2_2 → (Q 1 0 power_1 table_1 small_1)) ∧ (¬ 40 < x2_2 → (∃ (Inv_3 : (Int32) → Prop) (Mea_3 : (Int32) → Nat), Inv_3 1 ∧ ∀ (x3_1 : Int32), Inv_3 x3_1 → ((40 < x3_1 → (Inv_2 (x2_2 + 1) ∧ Mea_2 (x2_2 + 1) < Mea_2 x2_2)) ∧ (¬ 40 < x3_1 → (vp_in (x2_2 * x3_1) 1601 ∧ vp_in x2_2 1601 ∧ vp_in x3_1 1601 ∧ ¬ ((sF 1).toInt64) = 0 ∧ ∀ t_1 : Int64, t_1 = ((small_1 x2_2.toNatClampNeg) * (small_1 x3_1.toNatClampNeg)) - ((small_1 x2_2.toNatClampNeg) * (small_1 x3_1.toNatClampNeg)) / ((sF 1).toInt64) * ((sF 1).toInt64) → (((lg_cmp (small_1 (x2_2 * x3_1).toNatClampNeg) t_1) = 0 → (Inv_3 (x3_1 + 1) ∧ Mea_3 (x3_1 + 1) < Mea_3 x3_1)) ∧ (¬ (lg_cmp (small_1 (x2_2 * x3_1).toNatClampNeg) t_1) = 0 → (Q 0 0 power_1 table_1 small_1))))))))))) ∧ (¬ 1600 < x2_1 → (∃ (P_2 : (Int64) → (Nat → Int64) → (Nat → Int64) → Prop), wX11_valueAt 0 taped lines size atF place sort value fault faultPlace lastFault lastPlace undoable hasImage rowOf areSums isSieved blocks drawn power_1 table_1 sortOf sF first second signBy a1 x2_1 P_2 ∧ ∀ (rF_2 : Int64) (power_2 : Nat → Int64) (table_2 : Nat → Int64), P_2 rF_2 power_2 table_2 → vp_in x2_1 1601 ∧ ∀ small_2 : Nat → Int64, small_2 = vp_updL small_1 x2_1.toNatClampNeg rF_2 → (Inv_1 power_2 small_2 table_2 (x2_1 + 1) ∧ Mea_1 power_2 small_2 table_2 (x2_1 + 1) < Mea_1 power_1 small_1 table_1 x2_1)))))) ∧ (rF_1 = 0 → (Q (-1) 0 power table small))))
set_option maxHeartbeats 4000000 in
set_option maxRecDepth 100000 in
theorem mX11_isWhole (l : Launch) (D : va_G) (Y : Nat → ClassId) (h0 : Nat) (thrown : Int32) (v_tape : Value) (taped : Int32) (q_number : Nat) (v_isTold : Value) (v_name : Value) (q_sortOf : Nat) (q_first : Nat) (q_second : Nat) (v_degree : Value) (v_colours : Value) (q_signBy : Nat) (v_own : Value) (lines : Int32) (size : Int32) (atF : Int32) (place : Int32) (sort : Int32) (value : Int32) (fault : Int32) (faultPlace : Int32) (lastFault : Int32) (lastPlace : Int32) (q_sF : Nat) (v_kept : Value) (undoable : Int32) (hasImage : Int32) (q_power : Nat) (q_table : Nat) (v_marks : Value) (v_row : Value) (rowOf : Int32) (areSums : Int32) (isSieved : Int32) (v_lastOf : Value) (blocks : Int32) (v_inBlock : Value) (v_atQuotient : Value) (q_small : Nat) (drawn : Int32) (number : Nat → Int32) (power : Nat → Int64) (table : Nat → Int64) (sortOf : Nat → Int32) (sF : Nat → Int32) (first : Nat → Int32) (second : Nat → Int32) (signBy : Nat → Int32) (small : Nat → Int64) (a1 : Int32) (Q : (Int32) → (Int32) → (Nat → Int64) → (Nat → Int64) → (Nat → Int64) → Prop) (h : wX11_isWhole thrown taped lines size atF place sort value fault faultPlace lastFault lastPlace undoable hasImage rowOf areSums isSieved blocks drawn number power table sortOf sF first second signBy small a1 Q) : gM l D Y yX11_isWhole cX11_isWhole 4 (some .int) 3 80 0 0 [.ref h0, .int a1] [oX11 h0 thrown (v_tape) taped (.ref q_number) (v_isTold) (v_name) (.ref q_sortOf) (.ref q_first) (.ref q_second) (v_degree) (v_colours) (.ref q_signBy) (v_own) lines size atF place sort value fault faultPlace lastFault lastPlace (.ref q_sF) (v_kept) undoable hasImage (.ref q_power) (.ref q_table) (v_marks) (v_row) rowOf areSums isSieved (v_lastOf) blocks (v_inBlock) (v_atQuotient) (.ref q_small) drawn, aI Y q_number 8 number, aJ Y q_power 18 power, aJ Y q_table 216 table, aI Y q_sortOf 24 sortOf, aI Y q_sF 74 sF, aI Y q_first 24 first, aI Y q_second 24 second, aI Y q_signBy 24 signBy, aJ Y q_small 1601 small] (fun v w => ∃ r : Int32, ∃ thrown' : Int32, ∃ power' : Nat → Int64, ∃ table' : Nat → Int64, ∃ small' : Nat → Int64, v = some (.int r) ∧ w = [oX11 h0 thrown' (v_tape) taped (.ref q_number) (v_isTold) (v_name) (.ref q_sortOf) (.ref q_first) (.ref q_second) (v_degree) (v_colours) (.ref q_signBy) (v_own) lines size atF place sort value fault faultPlace lastFault lastPlace (.ref q_sF) (v_kept) undoable hasImage (.ref q_power) (.ref q_table) (v_marks) (v_row) rowOf areSums isSieved (v_lastOf) blocks (v_inBlock) (v_atQuotient) (.ref q_small) drawn, aI Y q_number 8 number, aJ Y q_power 18 power', aJ Y q_table 216 table', aI Y q_sortOf 24 sortOf, aI Y q_sF 74 sF, aI Y q_first 24 first, aI Y q_second 24 second, aI Y q_signBy 24 signBy, aJ Y q_small 1601 small'] ∧ Q r thrown' power' table' small') := by
  refine gM_of (own := RX11) (by decide +kernel) rfl (Nat.le_of_ble_eq_true rfl) rfl (fun E C hR => ?_)
  unfold wX11_isWhole at h
  refine g_aload_n C dX11_isWhole_0 0 rfl ?_
  refine g_iconst (v := 0) C dX11_isWhole_1 rfl ?_
  refine g_put C inX11 tyX11 tyX11_ok nmX11 0 rfl rfl 0 (by decide) wF_X11_89 rfl rfl rfl (Nat.le_of_ble_eq_true rfl) (ws' := [oX11 h0 0 (v_tape) taped (.ref q_number) (v_isTold) (v_name) (.ref q_sortOf) (.ref q_first) (.ref q_second) (v_degree) (v_colours) (.ref q_signBy) (v_own) lines size atF place sort value fault faultPlace lastFault lastPlace (.ref q_sF) (v_kept) undoable hasImage (.ref q_power) (.ref q_table) (v_marks) (v_row) rowOf areSums isSieved (v_lastOf) blocks (v_inBlock) (v_atQuotient) (.ref q_small) drawn, aI Y q_number 8 number, aJ Y q_power 18 power, aJ Y q_table 216 table, aI Y q_sortOf 24 sortOf, aI Y q_sF 74 sF, aI Y q_first 24 first, aI Y q_second 24 second, aI Y q_signBy 24 signBy, aJ Y q_small 1601 small]) rfl dX11_isWhole_2 ?_
  refine g_aload_n C dX11_isWhole_5 0 rfl ?_
  refine g_iload_n C dX11_isWhole_6 1 rfl ?_
  obtain ⟨P_1, hP, h⟩ := h
  refine g_callV (As := [.int a1]) (rest := []) C (mX11_isFunction l D Y h0 0 v_tape taped q_number v_isTold v_name (.ref q_sortOf) (.ref q_first) (.ref q_second) v_degree v_colours (.ref q_signBy) v_own lines size atF place sort value fault faultPlace lastFault lastPlace (.ref q_sF) v_kept undoable hasImage (.ref q_power) (.ref q_table) v_marks v_row rowOf areSums isSieved v_lastOf blocks v_inBlock v_atQuotient (.ref q_small) drawn number a1 P_1 hP) dX11_isWhole_7 rfl wM_X11_241 wI_X11_isFunction wV_X11_isFunction wN_X11 wC_X11_isFunction (n := 1) (by decide +kernel) rfl (q0 := 0) rfl rfl ⟨Nat.le_of_ble_eq_true rfl, Nat.le_of_ble_eq_true rfl⟩ ⟨Nat.le_of_ble_eq_true rfl, Nat.le_of_ble_eq_true rfl⟩ (Nat.le_of_ble_eq_true rfl) [0, 1] [2, 3, 4, 5, 6, 7, 8, 9] rfl rfl rfl (fun v wc hv => ?_)
  obtain ⟨rF_1, rfl, rfl, hq⟩ := hv
  replace h := h rF_1 hq
  refine gG.perm (ws' := [oX11 h0 0 (v_tape) taped (.ref q_number) (v_isTold) (v_name) (.ref q_sortOf) (.ref q_first) (.ref q_second) (v_degree) (v_colours) (.ref q_signBy) (v_own) lines size atF place sort value fault faultPlace lastFault lastPlace (.ref q_sF) (v_kept) undoable hasImage (.ref q_power) (.ref q_table) (v_marks) (v_row) rowOf areSums isSieved (v_lastOf) blocks (v_inBlock) (v_atQuotient) (.ref q_small) drawn, aI Y q_number 8 number, aJ Y q_power 18 power, aJ Y q_table 216 table, aI Y q_sortOf 24 sortOf, aI Y q_sF 74 sF, aI Y q_first 24 first, aI Y q_second 24 second, aI Y q_signBy 24 signBy, aJ Y q_small 1601 small]) [8, 9, 0, 1, 2, 3, 4, 5, 6, 7] rfl rfl ?_
  refine g_if_ne (tgt := 15) C dX11_isWhole_10 (by decide) (fun c_1 => ?_) (fun c_1 => ?_)
  · replace h := h.1 c_1
    refine g_iconst (v := 1) C dX11_isWhole_15 rfl ?_
    refine g_istore_n (lv' := [(2, .int 1), (0, .ref h0), (1, .int a1)]) C dX11_isWhole_16 (by decide) rfl ?_
    obtain ⟨Inv_1, Mea_1, hI1, hB1⟩ := h
    have key_1 : ∀ (n : Nat) (power_1 : Nat → Int64) (small_1 : Nat → Int64) (table_1 : Nat → Int64) (x2_1 : Int32) , Mea_1 power_1 small_1 table_1 x2_1 < n → Inv_1 power_1 small_1 table_1 x2_1 → gG E 0 0 [oX11 h0 0 (v_tape) taped (.ref q_number) (v_isTold) (v_name) (.ref q_sortOf) (.ref q_first) (.ref q_second) (v_degree) (v_colours) (.ref q_signBy) (v_own) lines size atF place sort value fault faultPlace lastFault lastPlace (.ref q_sF) (v_kept) undoable hasImage (.ref q_power) (.ref q_table) (v_marks) (v_row) rowOf areSums isSieved (v_lastOf) blocks (v_inBlock) (v_atQuotient) (.ref q_small) drawn, aI Y q_number 8 number, aJ Y q_power 18 power_1, aJ Y q_table 216 table_1, aI Y q_sortOf 24 sortOf, aI Y q_sF 74 sF, aI Y q_first 24 first, aI Y q_second 24 second, aI Y q_signBy 24 signBy, aJ Y q_small 1601 small_1] [(0, .ref h0), (1, .int a1), (2, .int x2_1)] [] 17 := by
      intro n
      induction n with
      | zero => exact fun _ _ _ _ hm => absurd hm (Nat.not_lt_zero _)
      | succ n ih1 =>
        intro power_1 small_1 table_1 x2_1  hm1 hI
        have h := hB1 power_1 small_1 table_1 x2_1 hI
        refine g_iload_n C dX11_isWhole_17 2 rfl ?_
        refine g_sipush (v := 1600) C dX11_isWhole_18 rfl ?_
        refine g_icmp_gt (tgt := 42) C dX11_isWhole_21 (by decide) (fun c_2 => ?_) (fun c_2 => ?_)
        · replace h := h.1 c_2
          refine g_iconst (v := 1) C dX11_isWhole_42 rfl ?_
          refine g_istore_n (lv' := [(2, .int 1), (0, .ref h0), (1, .int a1)]) C dX11_isWhole_43 (by decide) rfl ?_
          obtain ⟨Inv_2, Mea_2, hI2, hB2⟩ := h
          have key_2 : ∀ (n : Nat) (x2_2 : Int32) , Mea_2 x2_2 < n → Inv_2 x2_2 → gG E 0 0 [oX11 h0 0 (v_tape) taped (.ref q_number) (v_isTold) (v_name) (.ref q_sortOf) (.ref q_first) (.ref q_second) (v_degree) (v_colours) (.ref q_signBy) (v_own) lines size atF place sort value fault faultPlace lastFault lastPlace (.ref q_sF) (v_kept) undoable hasImage (.ref q_power) (.ref q_table) (v_marks) (v_row) rowOf areSums isSieved (v_lastOf) blocks (v_inBlock) (v_atQuotient) (.ref q_small) drawn, aI Y q_number 8 number, aJ Y q_power 18 power_1, aJ Y q_table 216 table_1, aI Y q_sortOf 24 sortOf, aI Y q_sF 74 sF, aI Y q_first 24 first, aI Y q_second 24 second, aI Y q_signBy 24 signBy, aJ Y q_small 1601 small_1] [(0, .ref h0), (2, .int x2_2)] [] 44 := by
            intro n
            induction n with
            | zero => exact fun _ hm => absurd hm (Nat.not_lt_zero _)
            | succ n ih2 =>
              intro x2_2  hm2 hI
              have h := hB2 x2_2 hI
              refine g_iload_n C dX11_isWhole_44 1 rfl ?_
              refine g_bipush (v := 40) C dX11_isWhole_45 rfl ?_
              refine g_icmp_gt (tgt := 105) C dX11_isWhole_47 (by decide) (fun c_3 => ?_) (fun c_3 => ?_)
              · replace h := h.1 c_3
                refine g_iconst (v := 1) C dX11_isWhole_105 rfl ?_
                exact g_iret C hR (Nat.le_of_ble_eq_true rfl) (Nat.le_of_ble_eq_true rfl) dX11_isWhole_106 ⟨1, 0, power_1, table_1, small_1, rfl, rfl, h⟩
              · replace h := h.2 c_3
                refine g_iconst (v := 1) C dX11_isWhole_50 rfl ?_
                refine g_istore_n (lv' := [(3, .int 1), (0, .ref h0), (2, .int x2_2)]) C dX11_isWhole_51 (by decide) rfl ?_
                obtain ⟨Inv_3, Mea_3, hI3, hB3⟩ := h
                have key_3 : ∀ (n : Nat) (x3_1 : Int32) , Mea_3 x3_1 < n → Inv_3 x3_1 → gG E 0 0 [oX11 h0 0 (v_tape) taped (.ref q_number) (v_isTold) (v_name) (.ref q_sortOf) (.ref q_first) (.ref q_second) (v_degree) (v_colours) (.ref q_signBy) (v_own) lines size atF place sort value fault faultPlace lastFault lastPlace (.ref q_sF) (v_kept) undoable hasImage (.ref q_power) (.ref q_table) (v_marks) (v_row) rowOf areSums isSieved (v_lastOf) blocks (v_inBlock) (v_atQuotient) (.ref q_small) drawn, aI Y q_number 8 number, aJ Y q_power 18 power_1, aJ Y q_table 216 table_1, aI Y q_sortOf 24 sortOf, aI Y q_sF 74 sF, aI Y q_first 24 first, aI Y q_second 24 second, aI Y q_signBy 24 signBy, aJ Y q_small 1601 small_1] [(0, .ref h0), (2, .int x2_2), (3, .int x3_1)] [] 52 := by
                  intro n
                  induction n with
                  | zero => exact fun _ hm => absurd hm (Nat.not_lt_zero _)
                  | succ n ih3 =>
                    intro x3_1  hm3 hI
                    have h := hB3 x3_1 hI
                    refine g_iload_n C dX11_isWhole_52 2 rfl ?_
                    refine g_bipush (v := 40) C dX11_isWhole_53 rfl ?_
                    refine g_icmp_gt (tgt := 99) C dX11_isWhole_55 (by decide) (fun c_4 => ?_) (fun c_4 => ?_)
                    · replace h := h.1 c_4
                      refine g_iinc (v := x2_2 + 1) (lv' := [(2, .int (x2_2 + 1)), (0, .ref h0), (3, .int x3_1)]) C dX11_isWhole_99 1 rfl rfl (by decide) rfl ?_
                      refine g_goto (tgt := 44) C dX11_isWhole_102 (by decide) ?_
                      refine gG.locals (lv' := [(0, .ref h0), (2, .int (x2_2 + 1))]) [1, 0] rfl ?_
                      exact ih2 (x2_2 + 1) (Nat.lt_of_lt_of_le h.2 (Nat.le_of_lt_succ hm2)) h.1
                    · replace h := h.2 c_4
                      refine g_aload_n C dX11_isWhole_58 0 rfl ?_
                      refine g_get C inX11 0 rfl rfl 38 (by decide) wF_X11_77 rfl dX11_isWhole_59 ?_
                      refine g_iload_n C dX11_isWhole_62 1 rfl ?_
                      refine g_iload_n C dX11_isWhole_63 2 rfl ?_
                      refine g_imul C dX11_isWhole_64 ?_
                      obtain ⟨hc_1, h⟩ := h
                      refine g_lald C 9 rfl hc_1 dX11_isWhole_65 ?_
                      refine g_aload_n C dX11_isWhole_66 0 rfl ?_
                      refine g_get C inX11 0 rfl rfl 38 (by decide) wF_X11_77 rfl dX11_isWhole_67 ?_
                      refine g_iload_n C dX11_isWhole_70 1 rfl ?_
                      obtain ⟨hc_2, h⟩ := h
                      refine g_lald C 9 rfl hc_2 dX11_isWhole_71 ?_
                      refine g_aload_n C dX11_isWhole_72 0 rfl ?_
                      refine g_get C inX11 0 rfl rfl 38 (by decide) wF_X11_77 rfl dX11_isWhole_73 ?_
                      refine g_iload_n C dX11_isWhole_76 2 rfl ?_
                      obtain ⟨hc_3, h⟩ := h
                      refine g_lald C 9 rfl hc_3 dX11_isWhole_77 ?_
                      refine g_lmul C dX11_isWhole_78 ?_
                      refine g_aload_n C dX11_isWhole_79 0 rfl ?_
                      refine g_get C inX11 0 rfl rfl 23 (by decide) wF_X11_48 rfl dX11_isWhole_80 ?_
                      refine g_iconst (v := 1) C dX11_isWhole_83 rfl ?_
                      refine g_iald C 5 rfl (by unfold vp_in; decide) dX11_isWhole_84 ?_
                      refine g_i2l C dX11_isWhole_85 ?_
                      obtain ⟨hc_4, h⟩ := h
                      refine g_lrem C dX11_isWhole_86 hc_4 ?_
                      refine g_topl (fun t_1 et_1 => ?_)
                      replace h := h t_1 et_1
                      refine g_lcmp C dX11_isWhole_87 ?_
                      refine g_if_eq (tgt := 93) C dX11_isWhole_88 (by decide) (fun c_5 => ?_) (fun c_5 => ?_)
                      · replace h := h.1 c_5
                        refine g_iinc (v := x3_1 + 1) (lv' := [(3, .int (x3_1 + 1)), (0, .ref h0), (2, .int x2_2)]) C dX11_isWhole_93 2 rfl rfl (by decide) rfl ?_
                        refine g_goto (tgt := 52) C dX11_isWhole_96 (by decide) ?_
                        refine gG.locals (lv' := [(0, .ref h0), (2, .int x2_2), (3, .int (x3_1 + 1))]) [1, 2, 0] rfl ?_
                        exact ih3 (x3_1 + 1) (Nat.lt_of_lt_of_le h.2 (Nat.le_of_lt_succ hm3)) h.1
                      · replace h := h.2 c_5
                        refine g_iconst (v := 0) C dX11_isWhole_91 rfl ?_
                        exact g_iret C hR (Nat.le_of_ble_eq_true rfl) (Nat.le_of_ble_eq_true rfl) dX11_isWhole_92 ⟨0, 0, power_1, table_1, small_1, rfl, rfl, h⟩
                refine gG.locals (lv' := [(0, .ref h0), (2, .int x2_2), (3, .int 1)]) [1, 2, 0] rfl ?_
                exact key_3 (Mea_3 1 + 1) 1 (Nat.lt_succ_self _) hI3
          refine gG.locals (lv' := [(0, .ref h0), (2, .int 1)]) [1, 0] rfl ?_
          exact key_2 (Mea_2 1 + 1) 1 (Nat.lt_succ_self _) hI2
        · replace h := h.2 c_2
          refine g_aload_n C dX11_isWhole_24 0 rfl ?_
          refine g_get C inX11 0 rfl rfl 38 (by decide) wF_X11_77 rfl dX11_isWhole_25 ?_
          refine g_iload_n C dX11_isWhole_28 2 rfl ?_
          refine g_aload_n C dX11_isWhole_29 0 rfl ?_
          refine g_iload_n C dX11_isWhole_30 1 rfl ?_
          refine g_iload_n C dX11_isWhole_31 2 rfl ?_
          obtain ⟨P_2, hP, h⟩ := h
          refine g_callV (As := [.int a1, .int x2_1]) (rest := [.int x2_1, .ref q_small]) C (mX11_valueAt l D Y h0 0 v_tape taped (.ref q_number) v_isTold v_name q_sortOf q_first q_second v_degree v_colours q_signBy v_own lines size atF place sort value fault faultPlace lastFault lastPlace q_sF v_kept undoable hasImage q_power q_table v_marks v_row rowOf areSums isSieved v_lastOf blocks v_inBlock v_atQuotient (.ref q_small) drawn power_1 table_1 sortOf sF first second signBy a1 x2_1 P_2 hP) dX11_isWhole_32 rfl wM_X11_286 wI_X11_valueAt wV_X11_valueAt wN_X11 wC_X11_valueAt (n := 2) (by decide +kernel) rfl (q0 := 0) rfl rfl ⟨Nat.le_of_ble_eq_true rfl, Nat.le_of_ble_eq_true rfl⟩ ⟨Nat.le_of_ble_eq_true rfl, Nat.le_of_ble_eq_true rfl⟩ (Nat.le_of_ble_eq_true rfl) [0, 2, 3, 4, 5, 6, 7, 8] [1, 9] rfl rfl rfl (fun v wc hv => ?_)
          obtain ⟨rF_2, power_2, table_2, rfl, rfl, hq⟩ := hv
          replace h := h rF_2 power_2 table_2 hq
          refine gG.perm (ws' := [oX11 h0 0 (v_tape) taped (.ref q_number) (v_isTold) (v_name) (.ref q_sortOf) (.ref q_first) (.ref q_second) (v_degree) (v_colours) (.ref q_signBy) (v_own) lines size atF place sort value fault faultPlace lastFault lastPlace (.ref q_sF) (v_kept) undoable hasImage (.ref q_power) (.ref q_table) (v_marks) (v_row) rowOf areSums isSieved (v_lastOf) blocks (v_inBlock) (v_atQuotient) (.ref q_small) drawn, aI Y q_number 8 number, aJ Y q_power 18 power_2, aJ Y q_table 216 table_2, aI Y q_sortOf 24 sortOf, aI Y q_sF 74 sF, aI Y q_first 24 first, aI Y q_second 24 second, aI Y q_signBy 24 signBy, aJ Y q_small 1601 small_1]) [2, 0, 3, 4, 5, 6, 7, 8, 9, 1] rfl rfl ?_
          obtain ⟨hc_5, h⟩ := h
          refine g_last C 9 rfl hc_5 dX11_isWhole_35 (fun small_2 esmall_2 => gG.eqw (ws' := [oX11 h0 0 (v_tape) taped (.ref q_number) (v_isTold) (v_name) (.ref q_sortOf) (.ref q_first) (.ref q_second) (v_degree) (v_colours) (.ref q_signBy) (v_own) lines size atF place sort value fault faultPlace lastFault lastPlace (.ref q_sF) (v_kept) undoable hasImage (.ref q_power) (.ref q_table) (v_marks) (v_row) rowOf areSums isSieved (v_lastOf) blocks (v_inBlock) (v_atQuotient) (.ref q_small) drawn, aI Y q_number 8 number, aJ Y q_power 18 power_2, aJ Y q_table 216 table_2, aI Y q_sortOf 24 sortOf, aI Y q_sF 74 sF, aI Y q_first 24 first, aI Y q_second 24 second, aI Y q_signBy 24 signBy, aJ Y q_small 1601 small_2]) rfl ?_)
          replace h := h small_2 esmall_2
          refine g_iinc (v := x2_1 + 1) (lv' := [(2, .int (x2_1 + 1)), (0, .ref h0), (1, .int a1)]) C dX11_isWhole_36 2 rfl rfl (by decide) rfl ?_
          refine g_goto (tgt := 17) C dX11_isWhole_39 (by decide) ?_
          refine gG.locals (lv' := [(0, .ref h0), (1, .int a1), (2, .int (x2_1 + 1))]) [1, 2, 0] rfl ?_
          exact ih1 power_2 small_2 table_2 (x2_1 + 1) (Nat.lt_of_lt_of_le h.2 (Nat.le_of_lt_succ hm1)) h.1
    refine gG.locals (lv' := [(0, .ref h0), (1, .int a1), (2, .int 1)]) [1, 2, 0] rfl ?_
    exact key_1 (Mea_1 power small table 1 + 1) power small table 1 (Nat.lt_succ_self _) hI1
  · replace h := h.2 c_1
    refine g_iconst (v := (-1)) C dX11_isWhole_13 rfl ?_
    exact g_iret C hR (Nat.le_of_ble_eq_true rfl) (Nat.le_of_ble_eq_true rfl) dX11_isWhole_14 ⟨(-1), 0, power, table, small, rfl, rfl, h⟩
theorem dX11_draw_0 : decode cX11_draw 0 = .ok (.aload_n 0, 1) := by decide +kernel
theorem dX11_draw_1 : decode cX11_draw 1 = .ok (.aload_n 0, 1) := by decide +kernel
theorem dX11_draw_2 : decode cX11_draw 2 = .ok (.getfield 353, 3) := by decide +kernel
theorem dX11_draw_5 : decode cX11_draw 5 = .ok (.ldc_w 356, 3) := by decide +kernel
theorem dX11_draw_8 : decode cX11_draw 8 = .ok (.imul, 1) := by decide +kernel
theorem dX11_draw_9 : decode cX11_draw 9 = .ok (.sipush 12345, 3) := by decide +kernel
theorem dX11_draw_12 : decode cX11_draw 12 = .ok (.iadd, 1) := by decide +kernel
theorem dX11_draw_13 : decode cX11_draw 13 = .ok (.ldc_w 357, 3) := by decide +kernel
theorem dX11_draw_16 : decode cX11_draw 16 = .ok (.iand, 1) := by decide +kernel
theorem dX11_draw_17 : decode cX11_draw 17 = .ok (.putfield 353, 3) := by decide +kernel
theorem dX11_draw_20 : decode cX11_draw 20 = .ok (.aload_n 0, 1) := by decide +kernel
theorem dX11_draw_21 : decode cX11_draw 21 = .ok (.getfield 353, 3) := by decide +kernel
theorem dX11_draw_24 : decode cX11_draw 24 = .ok (.bipush 16, 2) := by decide +kernel
theorem dX11_draw_26 : decode cX11_draw 26 = .ok (.ishr, 1) := by decide +kernel
theorem dX11_draw_27 : decode cX11_draw 27 = .ok (.iload_n 1, 1) := by decide +kernel
theorem dX11_draw_28 : decode cX11_draw 28 = .ok (.irem, 1) := by decide +kernel
theorem dX11_draw_29 : decode cX11_draw 29 = .ok (.ireturn, 1) := by decide +kernel
/-- QuotientSumsModel.draw(I)I -/
def wX11_draw (thrown : Int32) (taped : Int32) (lines : Int32) (size : Int32) (atF : Int32) (place : Int32) (sort : Int32) (value : Int32) (fault : Int32) (faultPlace : Int32) (lastFault : Int32) (lastPlace : Int32) (undoable : Int32) (hasImage : Int32) (rowOf : Int32) (areSums : Int32) (isSieved : Int32) (blocks : Int32) (drawn : Int32) (a1 : Int32) (Q : (Int32) → (Int32) → Prop) : Prop :=
  (∀ drawn_1 : Int32, drawn_1 = ((drawn * 1103515245) + 12345) &&& 2147483647 → ¬ a1 = 0 ∧ (Q ((drawn_1 >>> (16 &&& 31)) - (drawn_1 >>> (16 &&& 31)) / a1 * a1) drawn_1))
set_option maxHeartbeats 4000000 in
set_option maxRecDepth 100000 in
theorem mX11_draw (l : Launch) (D : va_G) (Y : Nat → ClassId) (h0 : Nat) (thrown : Int32) (v_tape : Value) (taped : Int32) (v_number : Value) (v_isTold : Value) (v_name : Value) (v_sortOf : Value) (v_first : Value) (v_second : Value) (v_degree : Value) (v_colours : Value) (v_signBy : Value) (v_own : Value) (lines : Int32) (size : Int32) (atF : Int32) (place : Int32) (sort : Int32) (value : Int32) (fault : Int32) (faultPlace : Int32) (lastFault : Int32) (lastPlace : Int32) (v_sF : Value) (v_kept : Value) (undoable : Int32) (hasImage : Int32) (v_power : Value) (v_table : Value) (v_marks : Value) (v_row : Value) (rowOf : Int32) (areSums : Int32) (isSieved : Int32) (v_lastOf : Value) (blocks : Int32) (v_inBlock : Value) (v_atQuotient : Value) (v_small : Value) (drawn : Int32) (a1 : Int32) (Q : (Int32) → (Int32) → Prop) (h : wX11_draw thrown taped lines size atF place sort value fault faultPlace lastFault lastPlace undoable hasImage rowOf areSums isSieved blocks drawn a1 Q) : gM l D Y yX11_draw cX11_draw 2 (some .int) 0 0 0 0 [.ref h0, .int a1] [oX11 h0 thrown (v_tape) taped (v_number) (v_isTold) (v_name) (v_sortOf) (v_first) (v_second) (v_degree) (v_colours) (v_signBy) (v_own) lines size atF place sort value fault faultPlace lastFault lastPlace (v_sF) (v_kept) undoable hasImage (v_power) (v_table) (v_marks) (v_row) rowOf areSums isSieved (v_lastOf) blocks (v_inBlock) (v_atQuotient) (v_small) drawn] (fun v w => ∃ r : Int32, ∃ drawn' : Int32, v = some (.int r) ∧ w = [oX11 h0 thrown (v_tape) taped (v_number) (v_isTold) (v_name) (v_sortOf) (v_first) (v_second) (v_degree) (v_colours) (v_signBy) (v_own) lines size atF place sort value fault faultPlace lastFault lastPlace (v_sF) (v_kept) undoable hasImage (v_power) (v_table) (v_marks) (v_row) rowOf areSums isSieved (v_lastOf) blocks (v_inBlock) (v_atQuotient) (v_small) drawn'] ∧ Q r drawn') := by
  refine gM_of (own := RX11) (by decide +kernel) rfl (Nat.le_of_ble_eq_true rfl) rfl (fun E C hR => ?_)
  unfold wX11_draw at h
  refine g_aload_n C dX11_draw_0 0 rfl ?_
  refine g_aload_n C dX11_draw_1 0 rfl ?_
  refine g_get C inX11 0 rfl rfl 39 (by decide) wF_X11_353 rfl dX11_draw_2 ?_
  refine g_ldcw C dX11_draw_5 wK_X11_356 ?_
  refine g_imul C dX11_draw_8 ?_
  refine g_sipush (v := 12345) C dX11_draw_9 rfl ?_
  refine g_iadd C dX11_draw_12 ?_
  refine g_ldcw C dX11_draw_13 wK_X11_357 ?_
  refine g_iand C dX11_draw_16 ?_
  refine g_topi (fun drawn_1 edrawn_1 => ?_)
  replace h := h drawn_1 edrawn_1
  refine g_put C inX11 tyX11 tyX11_ok nmX11 0 rfl rfl 39 (by decide) wF_X11_353 rfl rfl rfl (Nat.le_of_ble_eq_true rfl) (ws' := [oX11 h0 thrown (v_tape) taped (v_number) (v_isTold) (v_name) (v_sortOf) (v_first) (v_second) (v_degree) (v_colours) (v_signBy) (v_own) lines size atF place sort value fault faultPlace lastFault lastPlace (v_sF) (v_kept) undoable hasImage (v_power) (v_table) (v_marks) (v_row) rowOf areSums isSieved (v_lastOf) blocks (v_inBlock) (v_atQuotient) (v_small) drawn_1]) rfl dX11_draw_17 ?_
  refine g_aload_n C dX11_draw_20 0 rfl ?_
  refine g_get C inX11 0 rfl rfl 39 (by decide) wF_X11_353 rfl dX11_draw_21 ?_
  refine g_bipush (v := 16) C dX11_draw_24 rfl ?_
  refine g_ishr C dX11_draw_26 ?_
  refine g_iload_n C dX11_draw_27 1 rfl ?_
  obtain ⟨hc_1, h⟩ := h
  refine g_irem C dX11_draw_28 hc_1 ?_
  exact g_iret C hR (Nat.le_of_ble_eq_true rfl) (Nat.le_of_ble_eq_true rfl) dX11_draw_29 ⟨(drawn_1 >>> (16 &&& 31)) - (drawn_1 >>> (16 &&& 31)) / a1 * a1, drawn_1, rfl, rfl, h⟩
theorem dX11_chance_0 : decode cX11_chance 0 = .ok (.aload_n 0, 1) := by decide +kernel
theorem dX11_chance_1 : decode cX11_chance 1 = .ok (.iconst 0, 1) := by decide +kernel
theorem dX11_chance_2 : decode cX11_chance 2 = .ok (.putfield 89, 3) := by decide +kernel
theorem dX11_chance_5 : decode cX11_chance 5 = .ok (.iload_n 1, 1) := by decide +kernel
theorem dX11_chance_6 : decode cX11_chance 6 = .ok (.iconst (-1), 1) := by decide +kernel
theorem dX11_chance_7 : decode cX11_chance 7 = .ok (.if_icmp .lt 21, 3) := by decide +kernel
theorem dX11_chance_10 : decode cX11_chance 10 = .ok (.iload_n 2, 1) := by decide +kernel
theorem dX11_chance_11 : decode cX11_chance 11 = .ok (.iconst 1, 1) := by decide +kernel
theorem dX11_chance_12 : decode cX11_chance 12 = .ok (.bipush 100, 2) := by decide +kernel
theorem dX11_chance_14 : decode cX11_chance 14 = .ok (.invokestatic 247, 3) := by decide +kernel
theorem dX11_chance_17 : decode cX11_chance 17 = .ok (.ifCond .eq 11, 3) := by decide +kernel
theorem dX11_chance_20 : decode cX11_chance 20 = .ok (.aload_n 0, 1) := by decide +kernel
theorem dX11_chance_21 : decode cX11_chance 21 = .ok (.iload_n 3, 1) := by decide +kernel
theorem dX11_chance_22 : decode cX11_chance 22 = .ok (.invokevirtual 241, 3) := by decide +kernel
theorem dX11_chance_25 : decode cX11_chance 25 = .ok (.ifCond .ne 5, 3) := by decide +kernel
theorem dX11_chance_28 : decode cX11_chance 28 = .ok (.iconst (-1), 1) := by decide +kernel
theorem dX11_chance_29 : decode cX11_chance 29 = .ok (.ireturn, 1) := by decide +kernel
theorem dX11_chance_30 : decode cX11_chance 30 = .ok (.aload_n 0, 1) := by decide +kernel
theorem dX11_chance_31 : decode cX11_chance 31 = .ok (.iload_n 1, 1) := by decide +kernel
theorem dX11_chance_32 : decode cX11_chance 32 = .ok (.iconst (-1), 1) := by decide +kernel
theorem dX11_chance_33 : decode cX11_chance 33 = .ok (.if_icmp .ne 12, 3) := by decide +kernel
theorem dX11_chance_36 : decode cX11_chance 36 = .ok (.aload_n 0, 1) := by decide +kernel
theorem dX11_chance_37 : decode cX11_chance 37 = .ok (.getfield 13, 3) := by decide +kernel
theorem dX11_chance_40 : decode cX11_chance 40 = .ok (.iconst 2, 1) := by decide +kernel
theorem dX11_chance_41 : decode cX11_chance 41 = .ok (.iaload, 1) := by decide +kernel
theorem dX11_chance_42 : decode cX11_chance 42 = .ok (.goto 4, 3) := by decide +kernel
theorem dX11_chance_45 : decode cX11_chance 45 = .ok (.iload_n 1, 1) := by decide +kernel
theorem dX11_chance_46 : decode cX11_chance 46 = .ok (.putfield 353, 3) := by decide +kernel
theorem dX11_chance_49 : decode cX11_chance 49 = .ok (.lconst 0, 1) := by decide +kernel
theorem dX11_chance_50 : decode cX11_chance 50 = .ok (.lstore 4, 2) := by decide +kernel
theorem dX11_chance_52 : decode cX11_chance 52 = .ok (.iconst 0, 1) := by decide +kernel
theorem dX11_chance_53 : decode cX11_chance 53 = .ok (.istore 6, 2) := by decide +kernel
theorem dX11_chance_55 : decode cX11_chance 55 = .ok (.iload 6, 2) := by decide +kernel
theorem dX11_chance_57 : decode cX11_chance 57 = .ok (.iload_n 2, 1) := by decide +kernel
theorem dX11_chance_58 : decode cX11_chance 58 = .ok (.if_icmp .ge 55, 3) := by decide +kernel
theorem dX11_chance_61 : decode cX11_chance 61 = .ok (.aload_n 0, 1) := by decide +kernel
theorem dX11_chance_62 : decode cX11_chance 62 = .ok (.ldc_w 358, 3) := by decide +kernel
theorem dX11_chance_65 : decode cX11_chance 65 = .ok (.invokevirtual 359, 3) := by decide +kernel
theorem dX11_chance_68 : decode cX11_chance 68 = .ok (.istore 7, 2) := by decide +kernel
theorem dX11_chance_70 : decode cX11_chance 70 = .ok (.aload_n 0, 1) := by decide +kernel
theorem dX11_chance_71 : decode cX11_chance 71 = .ok (.ldc_w 358, 3) := by decide +kernel
theorem dX11_chance_74 : decode cX11_chance 74 = .ok (.invokevirtual 359, 3) := by decide +kernel
theorem dX11_chance_77 : decode cX11_chance 77 = .ok (.istore 8, 2) := by decide +kernel
theorem dX11_chance_79 : decode cX11_chance 79 = .ok (.lload 4, 2) := by decide +kernel
theorem dX11_chance_81 : decode cX11_chance 81 = .ok (.aload_n 0, 1) := by decide +kernel
theorem dX11_chance_82 : decode cX11_chance 82 = .ok (.iload_n 3, 1) := by decide +kernel
theorem dX11_chance_83 : decode cX11_chance 83 = .ok (.iload 7, 2) := by decide +kernel
theorem dX11_chance_85 : decode cX11_chance 85 = .ok (.ldc_w 358, 3) := by decide +kernel
theorem dX11_chance_88 : decode cX11_chance 88 = .ok (.imul, 1) := by decide +kernel
theorem dX11_chance_89 : decode cX11_chance 89 = .ok (.iload 8, 2) := by decide +kernel
theorem dX11_chance_91 : decode cX11_chance 91 = .ok (.iadd, 1) := by decide +kernel
theorem dX11_chance_92 : decode cX11_chance 92 = .ok (.aload_n 0, 1) := by decide +kernel
theorem dX11_chance_93 : decode cX11_chance 93 = .ok (.getfield 48, 3) := by decide +kernel
theorem dX11_chance_96 : decode cX11_chance 96 = .ok (.iconst 0, 1) := by decide +kernel
theorem dX11_chance_97 : decode cX11_chance 97 = .ok (.iaload, 1) := by decide +kernel
theorem dX11_chance_98 : decode cX11_chance 98 = .ok (.irem, 1) := by decide +kernel
theorem dX11_chance_99 : decode cX11_chance 99 = .ok (.iconst 1, 1) := by decide +kernel
theorem dX11_chance_100 : decode cX11_chance 100 = .ok (.iadd, 1) := by decide +kernel
theorem dX11_chance_101 : decode cX11_chance 101 = .ok (.invokevirtual 286, 3) := by decide +kernel
theorem dX11_chance_104 : decode cX11_chance 104 = .ok (.ladd, 1) := by decide +kernel
theorem dX11_chance_105 : decode cX11_chance 105 = .ok (.lstore 4, 2) := by decide +kernel
theorem dX11_chance_107 : decode cX11_chance 107 = .ok (.iinc 6 1, 3) := by decide +kernel
theorem dX11_chance_110 : decode cX11_chance 110 = .ok (.goto (-55), 3) := by decide +kernel
theorem dX11_chance_113 : decode cX11_chance 113 = .ok (.aload_n 0, 1) := by decide +kernel
theorem dX11_chance_114 : decode cX11_chance 114 = .ok (.lload 4, 2) := by decide +kernel
theorem dX11_chance_116 : decode cX11_chance 116 = .ok (.invokevirtual 256, 3) := by decide +kernel
theorem dX11_chance_119 : decode cX11_chance 119 = .ok (.l2i, 1) := by decide +kernel
theorem dX11_chance_120 : decode cX11_chance 120 = .ok (.ireturn, 1) := by decide +kernel
/-- QuotientSumsModel.chance(III)I -/
def wX11_chance (thrown : Int32) (taped : Int32) (lines : Int32) (size : Int32) (atF : Int32) (place : Int32) (sort : Int32) (value : Int32) (fault : Int32) (faultPlace : Int32) (lastFault : Int32) (lastPlace : Int32) (undoable : Int32) (hasImage : Int32) (rowOf : Int32) (areSums : Int32) (isSieved : Int32) (blocks : Int32) (drawn : Int32) (number : Nat → Int32) (sF : Nat → Int32) (power : Nat → Int64) (table : Nat → Int64) (sortOf : Nat → Int32) (first : Nat → Int32) (second : Nat → Int32) (signBy : Nat → Int32) (a1 : Int32) (a2 : Int32) (a3 : Int32) (Q : (Int32) → (Int32) → (Int32) → (Nat → Int64) → (Nat → Int64) → Prop) : Prop :=
  ((a1 < (-1) → (Q (-1) 0 drawn power table)) ∧ (¬ a1 < (-1) → (∃ (P_1 : (Int32) → Prop), wX11_within a2 1 100 P_1 ∧ ∀ (rF_1 : Int32), P_1 rF_1 → ((rF_1 = 0 → (Q (-1) 0 drawn power table)) ∧ (¬ rF_1 = 0 → (∃ (P_2 : (Int32) → Prop), wX11_isFunction 0 taped lines size atF place sort value fault faultPlace lastFault lastPlace undoable hasImage rowOf areSums isSieved blocks drawn number a3 P_2 ∧ ∀ (rF_2 : Int32), P_2 rF_2 → ((¬ rF_2 = 0 → (∃ (J_1 : (Int32) → Prop), ((¬ a1 = (-1) → (J_1 a1)) ∧ (a1 = (-1) → (J_1 (number 2)))) ∧ (∀ (t_1 : Int32), J_1 t_1 → (∃ (Inv_1 : (Nat → Int64) → (Nat → Int64) → (Int32) → (Int64) → (Int32) → Prop) (Mea_1 : (Nat → Int64) → (Nat → Int64) → (Int32) → (Int64) → (Int32) → Nat), Inv_1 power table t_1 0 0 ∧ ∀ (power_1 : Nat → Int64) (table_1 : Nat → Int64) (drawn_1 : Int32) (x4_1 : Int64) (x6_1 : Int32), Inv_1 power_1 table_1 drawn_1 x4_1 x6_1 → ((a2 ≤ x6_1 → (∃ (P_3 : (Int64) → Prop), wX11_rest 0 taped lines size atF place sort value fault faultPlace lastFault lastPlace undoable hasImage rowOf areSums isSieved blocks drawn_1 sF x4_1 P_3 ∧ ∀ (rF_3 : Int64), P_3 rF_3 → (Q (rF_3.toInt32) 0 drawn_1 power_1 table_1))) ∧ (¬ a2 ≤ x6_1 → (∃ (P_4 : (Int32) → (Int32) → Prop), wX11_draw 0 taped lines size atF place sort value fault faultPlace lastFault lastPlace undoable hasImage rowOf areSums isSieved blocks drawn_1 32768 P_4 ∧ ∀ (rF_4 : Int32) (drawn_2 : Int32), P_4 rF_4 drawn_2 → ∃ (P_5 : (Int32) → (Int32) → Prop), wX11_draw 0 taped lines size atF place sort value fault faultPlace lastFault lastPlace undoable hasImage rowOf areSums isSieved blocks drawn_2 32768 P_5 ∧ ∀ (rF_5 : Int32) (drawn_3 : Int32), P_5 rF_5 drawn_3 → ¬ (sF 0) = 0 ∧ ∀ t_2 : Int32, t_2 = (((rF_4 * 32768) + rF_5) - ((rF_4 * 32768) + rF_5) / (sF 0) * (sF 0)) + 1 → ∃ (P_6 : (Int64) → (Nat → Int64) → (Nat → Int64) → Prop), wX11_valueAt 0 taped lines size atF place sort value fault faultPlace lastFault lastPlace undoable hasImage rowOf areSums isSieved blocks drawn_3 power_1 table_1 sortOf sF first second signBy a3 t_2 P_6 ∧ ∀ (rF_6 : Int64) (power_2 : Nat → Int64) (table_2 : Nat → Int64), P_6 rF_6 power_2 table_2 → ∀ x4_2 : Int64, x4_2 = x4_1 + rF_6 → (Inv_1 power_2 table_2 drawn_3 x4_2 (x6_1 + 1) ∧ Mea_1 power_2 table_2 drawn_3 x4_2 (x6_1 + 1) < Mea_1 power_1 table_1 drawn_1 x4_1 x6_1)))))))) ∧ (rF_2 = 0 → (Q (-1) 0 drawn power table)))))))))
set_option maxHeartbeats 4000000 in
set_option maxRecDepth 100000 in
theorem mX11_chance (l : Launch) (D : va_G) (Y : Nat → ClassId) (h0 : Nat) (thrown : Int32) (v_tape : Value) (taped : Int32) (q_number : Nat) (v_isTold : Value) (v_name : Value) (q_sortOf : Nat) (q_first : Nat) (q_second : Nat) (v_degree : Value) (v_colours : Value) (q_signBy : Nat) (v_own : Value) (lines : Int32) (size : Int32) (atF : Int32) (place : Int32) (sort : Int32) (value : Int32) (fault : Int32) (faultPlace : Int32) (lastFault : Int32) (lastPlace : Int32) (q_sF : Nat) (v_kept : Value) (undoable : Int32) (hasImage : Int32) (q_power : Nat) (q_table : Nat) (v_marks : Value) (v_row : Value) (rowOf : Int32) (areSums : Int32) (isSieved : Int32) (v_lastOf : Value) (blocks : Int32) (v_inBlock : Value) (v_atQuotient : Value) (v_small : Value) (drawn : Int32) (number : Nat → Int32) (sF : Nat → Int32) (power : Nat → Int64) (table : Nat → Int64) (sortOf : Nat → Int32) (first : Nat → Int32) (second : Nat → Int32) (signBy : Nat → Int32) (a1 : Int32) (a2 : Int32) (a3 : Int32) (Q : (Int32) → (Int32) → (Int32) → (Nat → Int64) → (Nat → Int64) → Prop) (h : wX11_chance thrown taped lines size atF place sort value fault faultPlace lastFault lastPlace undoable hasImage rowOf areSums isSieved blocks drawn number sF power table sortOf first second signBy a1 a2 a3 Q) : gM l D Y yX11_chance cX11_chance 9 (some .int) 3 80 0 0 [.ref h0, .int a1, .int a2, .int a3] [oX11 h0 thrown (v_tape) taped (.ref q_number) (v_isTold) (v_name) (.ref q_sortOf) (.ref q_first) (.ref q_second) (v_degree) (v_colours) (.ref q_signBy) (v_own) lines size atF place sort value fault faultPlace lastFault lastPlace (.ref q_sF) (v_kept) undoable hasImage (.ref q_power) (.ref q_table) (v_marks) (v_row) rowOf areSums isSieved (v_lastOf) blocks (v_inBlock) (v_atQuotient) (v_small) drawn, aI Y q_number 8 number, aI Y q_sF 74 sF, aJ Y q_power 18 power, aJ Y q_table 216 table, aI Y q_sortOf 24 sortOf, aI Y q_first 24 first, aI Y q_second 24 second, aI Y q_signBy 24 signBy] (fun v w => ∃ r : Int32, ∃ thrown' : Int32, ∃ drawn' : Int32, ∃ power' : Nat → Int64, ∃ table' : Nat → Int64, v = some (.int r) ∧ w = [oX11 h0 thrown' (v_tape) taped (.ref q_number) (v_isTold) (v_name) (.ref q_sortOf) (.ref q_first) (.ref q_second) (v_degree) (v_colours) (.ref q_signBy) (v_own) lines size atF place sort value fault faultPlace lastFault lastPlace (.ref q_sF) (v_kept) undoable hasImage (.ref q_power) (.ref q_table) (v_marks) (v_row) rowOf areSums isSieved (v_lastOf) blocks (v_inBlock) (v_atQuotient) (v_small) drawn', aI Y q_number 8 number, aI Y q_sF 74 sF, aJ Y q_power 18 power', aJ Y q_table 216 table', aI Y q_sortOf 24 sortOf, aI Y q_first 24 first, aI Y q_second 24 second, aI Y q_signBy 24 signBy] ∧ Q r thrown' drawn' power' table') := by
  refine gM_of (own := RX11) (by decide +kernel) rfl (Nat.le_of_ble_eq_true rfl) rfl (fun E C hR => ?_)
  unfold wX11_chance at h
  refine g_aload_n C dX11_chance_0 0 rfl ?_
  refine g_iconst (v := 0) C dX11_chance_1 rfl ?_
  refine g_put C inX11 tyX11 tyX11_ok nmX11 0 rfl rfl 0 (by decide) wF_X11_89 rfl rfl rfl (Nat.le_of_ble_eq_true rfl) (ws' := [oX11 h0 0 (v_tape) taped (.ref q_number) (v_isTold) (v_name) (.ref q_sortOf) (.ref q_first) (.ref q_second) (v_degree) (v_colours) (.ref q_signBy) (v_own) lines size atF place sort value fault faultPlace lastFault lastPlace (.ref q_sF) (v_kept) undoable hasImage (.ref q_power) (.ref q_table) (v_marks) (v_row) rowOf areSums isSieved (v_lastOf) blocks (v_inBlock) (v_atQuotient) (v_small) drawn, aI Y q_number 8 number, aI Y q_sF 74 sF, aJ Y q_power 18 power, aJ Y q_table 216 table, aI Y q_sortOf 24 sortOf, aI Y q_first 24 first, aI Y q_second 24 second, aI Y q_signBy 24 signBy]) rfl dX11_chance_2 ?_
  refine g_iload_n C dX11_chance_5 1 rfl ?_
  refine g_iconst (v := (-1)) C dX11_chance_6 rfl ?_
  refine g_icmp_lt (tgt := 28) C dX11_chance_7 (by decide) (fun c_1 => ?_) (fun c_1 => ?_)
  · replace h := h.1 c_1
    refine g_iconst (v := (-1)) C dX11_chance_28 rfl ?_
    exact g_iret C hR (Nat.le_of_ble_eq_true rfl) (Nat.le_of_ble_eq_true rfl) dX11_chance_29 ⟨(-1), 0, drawn, power, table, rfl, rfl, h⟩
  · replace h := h.2 c_1
    refine g_iload_n C dX11_chance_10 2 rfl ?_
    refine g_iconst (v := 1) C dX11_chance_11 rfl ?_
    refine g_bipush (v := 100) C dX11_chance_12 rfl ?_
    obtain ⟨P_1, hP, h⟩ := h
    refine g_callS (As := [.int a2, .int 1, .int 100]) (rest := []) C (mX11_within l D Y a2 1 100 P_1 hP) dX11_chance_14 rfl wM_X11_247 wS_X11_within wN_X11 wC_X11_within (n := 3) (by decide +kernel) rfl ⟨Nat.le_of_ble_eq_true rfl, Nat.le_of_ble_eq_true rfl⟩ ⟨Nat.le_of_ble_eq_true rfl, Nat.le_of_ble_eq_true rfl⟩ (Nat.le_of_ble_eq_true rfl) [] [0, 1, 2, 3, 4, 5, 6, 7, 8] rfl rfl rfl (fun v wc hv => ?_)
    obtain ⟨rF_1, rfl, rfl, hq⟩ := hv
    replace h := h rF_1 hq
    refine gG.eqw (ws' := [oX11 h0 0 (v_tape) taped (.ref q_number) (v_isTold) (v_name) (.ref q_sortOf) (.ref q_first) (.ref q_second) (v_degree) (v_colours) (.ref q_signBy) (v_own) lines size atF place sort value fault faultPlace lastFault lastPlace (.ref q_sF) (v_kept) undoable hasImage (.ref q_power) (.ref q_table) (v_marks) (v_row) rowOf areSums isSieved (v_lastOf) blocks (v_inBlock) (v_atQuotient) (v_small) drawn, aI Y q_number 8 number, aI Y q_sF 74 sF, aJ Y q_power 18 power, aJ Y q_table 216 table, aI Y q_sortOf 24 sortOf, aI Y q_first 24 first, aI Y q_second 24 second, aI Y q_signBy 24 signBy]) rfl ?_
    refine g_if_eq (tgt := 28) C dX11_chance_17 (by decide) (fun c_2 => ?_) (fun c_2 => ?_)
    · replace h := h.1 c_2
      refine g_iconst (v := (-1)) C dX11_chance_28 rfl ?_
      exact g_iret C hR (Nat.le_of_ble_eq_true rfl) (Nat.le_of_ble_eq_true rfl) dX11_chance_29 ⟨(-1), 0, drawn, power, table, rfl, rfl, h⟩
    · replace h := h.2 c_2
      refine g_aload_n C dX11_chance_20 0 rfl ?_
      refine g_iload_n C dX11_chance_21 3 rfl ?_
      obtain ⟨P_2, hP, h⟩ := h
      refine g_callV (As := [.int a3]) (rest := []) C (mX11_isFunction l D Y h0 0 v_tape taped q_number v_isTold v_name (.ref q_sortOf) (.ref q_first) (.ref q_second) v_degree v_colours (.ref q_signBy) v_own lines size atF place sort value fault faultPlace lastFault lastPlace (.ref q_sF) v_kept undoable hasImage (.ref q_power) (.ref q_table) v_marks v_row rowOf areSums isSieved v_lastOf blocks v_inBlock v_atQuotient v_small drawn number a3 P_2 hP) dX11_chance_22 rfl wM_X11_241 wI_X11_isFunction wV_X11_isFunction wN_X11 wC_X11_isFunction (n := 1) (by decide +kernel) rfl (q0 := 0) rfl rfl ⟨Nat.le_of_ble_eq_true rfl, Nat.le_of_ble_eq_true rfl⟩ ⟨Nat.le_of_ble_eq_true rfl, Nat.le_of_ble_eq_true rfl⟩ (Nat.le_of_ble_eq_true rfl) [0, 1] [2, 3, 4, 5, 6, 7, 8] rfl rfl rfl (fun v wc hv => ?_)
      obtain ⟨rF_2, rfl, rfl, hq⟩ := hv
      replace h := h rF_2 hq
      refine gG.perm (ws' := [oX11 h0 0 (v_tape) taped (.ref q_number) (v_isTold) (v_name) (.ref q_sortOf) (.ref q_first) (.ref q_second) (v_degree) (v_colours) (.ref q_signBy) (v_own) lines size atF place sort value fault faultPlace lastFault lastPlace (.ref q_sF) (v_kept) undoable hasImage (.ref q_power) (.ref q_table) (v_marks) (v_row) rowOf areSums isSieved (v_lastOf) blocks (v_inBlock) (v_atQuotient) (v_small) drawn, aI Y q_number 8 number, aI Y q_sF 74 sF, aJ Y q_power 18 power, aJ Y q_table 216 table, aI Y q_sortOf 24 sortOf, aI Y q_first 24 first, aI Y q_second 24 second, aI Y q_signBy 24 signBy]) [7, 8, 0, 1, 2, 3, 4, 5, 6] rfl rfl ?_
      refine g_if_ne (tgt := 30) C dX11_chance_25 (by decide) (fun c_3 => ?_) (fun c_3 => ?_)
      · replace h := h.1 c_3
        refine g_aload_n C dX11_chance_30 0 rfl ?_
        refine g_iload_n C dX11_chance_31 1 rfl ?_
        refine g_iconst (v := (-1)) C dX11_chance_32 rfl ?_
        obtain ⟨J_1, hA, hB_J_1⟩ := h
        have key_1 : ∀ (t_1 : Int32), J_1 t_1 → gG E 0 0 [oX11 h0 0 (v_tape) taped (.ref q_number) (v_isTold) (v_name) (.ref q_sortOf) (.ref q_first) (.ref q_second) (v_degree) (v_colours) (.ref q_signBy) (v_own) lines size atF place sort value fault faultPlace lastFault lastPlace (.ref q_sF) (v_kept) undoable hasImage (.ref q_power) (.ref q_table) (v_marks) (v_row) rowOf areSums isSieved (v_lastOf) blocks (v_inBlock) (v_atQuotient) (v_small) drawn, aI Y q_number 8 number, aI Y q_sF 74 sF, aJ Y q_power 18 power, aJ Y q_table 216 table, aI Y q_sortOf 24 sortOf, aI Y q_first 24 first, aI Y q_second 24 second, aI Y q_signBy 24 signBy] [(0, .ref h0), (2, .int a2), (3, .int a3)] [.int t_1, .ref h0] 46 := by
          intro t_1 hJ
          have h := hB_J_1 t_1 hJ
          refine g_put C inX11 tyX11 tyX11_ok nmX11 0 rfl rfl 39 (by decide) wF_X11_353 rfl rfl rfl (Nat.le_of_ble_eq_true rfl) (ws' := [oX11 h0 0 (v_tape) taped (.ref q_number) (v_isTold) (v_name) (.ref q_sortOf) (.ref q_first) (.ref q_second) (v_degree) (v_colours) (.ref q_signBy) (v_own) lines size atF place sort value fault faultPlace lastFault lastPlace (.ref q_sF) (v_kept) undoable hasImage (.ref q_power) (.ref q_table) (v_marks) (v_row) rowOf areSums isSieved (v_lastOf) blocks (v_inBlock) (v_atQuotient) (v_small) t_1, aI Y q_number 8 number, aI Y q_sF 74 sF, aJ Y q_power 18 power, aJ Y q_table 216 table, aI Y q_sortOf 24 sortOf, aI Y q_first 24 first, aI Y q_second 24 second, aI Y q_signBy 24 signBy]) rfl dX11_chance_46 ?_
          refine g_lconst (v := 0) C dX11_chance_49 rfl ?_
          refine g_lstore (lv' := [(4, .long 0), (0, .ref h0), (2, .int a2), (3, .int a3)]) C dX11_chance_50 (by decide) rfl ?_
          refine g_iconst (v := 0) C dX11_chance_52 rfl ?_
          refine g_istore (lv' := [(6, .int 0), (4, .long 0), (0, .ref h0), (2, .int a2), (3, .int a3)]) C dX11_chance_53 (by decide) rfl ?_
          obtain ⟨Inv_1, Mea_1, hI2, hB2⟩ := h
          have key_2 : ∀ (n : Nat) (power_1 : Nat → Int64) (table_1 : Nat → Int64) (drawn_1 : Int32) (x4_1 : Int64) (x6_1 : Int32) , Mea_1 power_1 table_1 drawn_1 x4_1 x6_1 < n → Inv_1 power_1 table_1 drawn_1 x4_1 x6_1 → gG E 0 0 [oX11 h0 0 (v_tape) taped (.ref q_number) (v_isTold) (v_name) (.ref q_sortOf) (.ref q_first) (.ref q_second) (v_degree) (v_colours) (.ref q_signBy) (v_own) lines size atF place sort value fault faultPlace lastFault lastPlace (.ref q_sF) (v_kept) undoable hasImage (.ref q_power) (.ref q_table) (v_marks) (v_row) rowOf areSums isSieved (v_lastOf) blocks (v_inBlock) (v_atQuotient) (v_small) drawn_1, aI Y q_number 8 number, aI Y q_sF 74 sF, aJ Y q_power 18 power_1, aJ Y q_table 216 table_1, aI Y q_sortOf 24 sortOf, aI Y q_first 24 first, aI Y q_second 24 second, aI Y q_signBy 24 signBy] [(0, .ref h0), (2, .int a2), (3, .int a3), (4, .long x4_1), (6, .int x6_1)] [] 55 := by
            intro n
            induction n with
            | zero => exact fun _ _ _ _ _ hm => absurd hm (Nat.not_lt_zero _)
            | succ n ih2 =>
              intro power_1 table_1 drawn_1 x4_1 x6_1  hm2 hI
              have h := hB2 power_1 table_1 drawn_1 x4_1 x6_1 hI
              refine g_iload C dX11_chance_55 4 rfl ?_
              refine g_iload_n C dX11_chance_57 1 rfl ?_
              refine g_icmp_ge (tgt := 113) C dX11_chance_58 (by decide) (fun c_4 => ?_) (fun c_4 => ?_)
              · replace h := h.1 c_4
                refine g_aload_n C dX11_chance_113 0 rfl ?_
                refine g_lload C dX11_chance_114 3 rfl ?_
                obtain ⟨P_3, hP, h⟩ := h
                refine g_callV (As := [.long x4_1]) (rest := []) C (mX11_rest l D Y h0 0 v_tape taped (.ref q_number) v_isTold v_name (.ref q_sortOf) (.ref q_first) (.ref q_second) v_degree v_colours (.ref q_signBy) v_own lines size atF place sort value fault faultPlace lastFault lastPlace q_sF v_kept undoable hasImage (.ref q_power) (.ref q_table) v_marks v_row rowOf areSums isSieved v_lastOf blocks v_inBlock v_atQuotient v_small drawn_1 sF x4_1 P_3 hP) dX11_chance_116 rfl wM_X11_256 wI_X11_rest wV_X11_rest wN_X11 wC_X11_rest (n := 1) (by decide +kernel) rfl (q0 := 0) rfl rfl ⟨Nat.le_of_ble_eq_true rfl, Nat.le_of_ble_eq_true rfl⟩ ⟨Nat.le_of_ble_eq_true rfl, Nat.le_of_ble_eq_true rfl⟩ (Nat.le_of_ble_eq_true rfl) [0, 2] [1, 3, 4, 5, 6, 7, 8] rfl rfl rfl (fun v wc hv => ?_)
                obtain ⟨rF_3, rfl, rfl, hq⟩ := hv
                replace h := h rF_3 hq
                refine gG.perm (ws' := [oX11 h0 0 (v_tape) taped (.ref q_number) (v_isTold) (v_name) (.ref q_sortOf) (.ref q_first) (.ref q_second) (v_degree) (v_colours) (.ref q_signBy) (v_own) lines size atF place sort value fault faultPlace lastFault lastPlace (.ref q_sF) (v_kept) undoable hasImage (.ref q_power) (.ref q_table) (v_marks) (v_row) rowOf areSums isSieved (v_lastOf) blocks (v_inBlock) (v_atQuotient) (v_small) drawn_1, aI Y q_number 8 number, aI Y q_sF 74 sF, aJ Y q_power 18 power_1, aJ Y q_table 216 table_1, aI Y q_sortOf 24 sortOf, aI Y q_first 24 first, aI Y q_second 24 second, aI Y q_signBy 24 signBy]) [7, 0, 8, 1, 2, 3, 4, 5, 6] rfl rfl ?_
                refine g_l2i C dX11_chance_119 ?_
                exact g_iret C hR (Nat.le_of_ble_eq_true rfl) (Nat.le_of_ble_eq_true rfl) dX11_chance_120 ⟨rF_3.toInt32, 0, drawn_1, power_1, table_1, rfl, rfl, h⟩
              · replace h := h.2 c_4
                refine g_aload_n C dX11_chance_61 0 rfl ?_
                refine g_ldcw C dX11_chance_62 wK_X11_358 ?_
                obtain ⟨P_4, hP, h⟩ := h
                refine g_callV (As := [.int 32768]) (rest := []) C (mX11_draw l D Y h0 0 v_tape taped (.ref q_number) v_isTold v_name (.ref q_sortOf) (.ref q_first) (.ref q_second) v_degree v_colours (.ref q_signBy) v_own lines size atF place sort value fault faultPlace lastFault lastPlace (.ref q_sF) v_kept undoable hasImage (.ref q_power) (.ref q_table) v_marks v_row rowOf areSums isSieved v_lastOf blocks v_inBlock v_atQuotient v_small drawn_1 32768 P_4 hP) dX11_chance_65 rfl wM_X11_359 wI_X11_draw wV_X11_draw wN_X11 wC_X11_draw (n := 1) (by decide +kernel) rfl (q0 := 0) rfl rfl ⟨Nat.le_of_ble_eq_true rfl, Nat.le_of_ble_eq_true rfl⟩ ⟨Nat.le_of_ble_eq_true rfl, Nat.le_of_ble_eq_true rfl⟩ (Nat.le_of_ble_eq_true rfl) [0] [1, 2, 3, 4, 5, 6, 7, 8] rfl rfl rfl (fun v wc hv => ?_)
                obtain ⟨rF_4, drawn_2, rfl, rfl, hq⟩ := hv
                replace h := h rF_4 drawn_2 hq
                refine gG.perm (ws' := [oX11 h0 0 (v_tape) taped (.ref q_number) (v_isTold) (v_name) (.ref q_sortOf) (.ref q_first) (.ref q_second) (v_degree) (v_colours) (.ref q_signBy) (v_own) lines size atF place sort value fault faultPlace lastFault lastPlace (.ref q_sF) (v_kept) undoable hasImage (.ref q_power) (.ref q_table) (v_marks) (v_row) rowOf areSums isSieved (v_lastOf) blocks (v_inBlock) (v_atQuotient) (v_small) drawn_2, aI Y q_number 8 number, aI Y q_sF 74 sF, aJ Y q_power 18 power_1, aJ Y q_table 216 table_1, aI Y q_sortOf 24 sortOf, aI Y q_first 24 first, aI Y q_second 24 second, aI Y q_signBy 24 signBy]) [8, 0, 1, 2, 3, 4, 5, 6, 7] rfl rfl ?_
                refine g_istore (lv' := [(7, .int rF_4), (0, .ref h0), (2, .int a2), (3, .int a3), (4, .long x4_1), (6, .int x6_1)]) C dX11_chance_68 (by decide) rfl ?_
                refine g_aload_n C dX11_chance_70 1 rfl ?_
                refine g_ldcw C dX11_chance_71 wK_X11_358 ?_
                obtain ⟨P_5, hP, h⟩ := h
                refine g_callV (As := [.int 32768]) (rest := []) C (mX11_draw l D Y h0 0 v_tape taped (.ref q_number) v_isTold v_name (.ref q_sortOf) (.ref q_first) (.ref q_second) v_degree v_colours (.ref q_signBy) v_own lines size atF place sort value fault faultPlace lastFault lastPlace (.ref q_sF) v_kept undoable hasImage (.ref q_power) (.ref q_table) v_marks v_row rowOf areSums isSieved v_lastOf blocks v_inBlock v_atQuotient v_small drawn_2 32768 P_5 hP) dX11_chance_74 rfl wM_X11_359 wI_X11_draw wV_X11_draw wN_X11 wC_X11_draw (n := 1) (by decide +kernel) rfl (q0 := 0) rfl rfl ⟨Nat.le_of_ble_eq_true rfl, Nat.le_of_ble_eq_true rfl⟩ ⟨Nat.le_of_ble_eq_true rfl, Nat.le_of_ble_eq_true rfl⟩ (Nat.le_of_ble_eq_true rfl) [0] [1, 2, 3, 4, 5, 6, 7, 8] rfl rfl rfl (fun v wc hv => ?_)
                obtain ⟨rF_5, drawn_3, rfl, rfl, hq⟩ := hv
                replace h := h rF_5 drawn_3 hq
                refine gG.perm (ws' := [oX11 h0 0 (v_tape) taped (.ref q_number) (v_isTold) (v_name) (.ref q_sortOf) (.ref q_first) (.ref q_second) (v_degree) (v_colours) (.ref q_signBy) (v_own) lines size atF place sort value fault faultPlace lastFault lastPlace (.ref q_sF) (v_kept) undoable hasImage (.ref q_power) (.ref q_table) (v_marks) (v_row) rowOf areSums isSieved (v_lastOf) blocks (v_inBlock) (v_atQuotient) (v_small) drawn_3, aI Y q_number 8 number, aI Y q_sF 74 sF, aJ Y q_power 18 power_1, aJ Y q_table 216 table_1, aI Y q_sortOf 24 sortOf, aI Y q_first 24 first, aI Y q_second 24 second, aI Y q_signBy 24 signBy]) [8, 0, 1, 2, 3, 4, 5, 6, 7] rfl rfl ?_
                refine g_istore (lv' := [(8, .int rF_5), (7, .int rF_4), (0, .ref h0), (2, .int a2), (3, .int a3), (4, .long x4_1), (6, .int x6_1)]) C dX11_chance_77 (by decide) rfl ?_
                refine g_lload C dX11_chance_79 5 rfl ?_
                refine g_aload_n C dX11_chance_81 2 rfl ?_
                refine g_iload_n C dX11_chance_82 4 rfl ?_
                refine g_iload C dX11_chance_83 1 rfl ?_
                refine g_ldcw C dX11_chance_85 wK_X11_358 ?_
                refine g_imul C dX11_chance_88 ?_
                refine g_iload C dX11_chance_89 0 rfl ?_
                refine g_iadd C dX11_chance_91 ?_
                refine g_aload_n C dX11_chance_92 2 rfl ?_
                refine g_get C inX11 0 rfl rfl 23 (by decide) wF_X11_48 rfl dX11_chance_93 ?_
                refine g_iconst (v := 0) C dX11_chance_96 rfl ?_
                refine g_iald C 2 rfl (by unfold vp_in; decide) dX11_chance_97 ?_
                obtain ⟨hc_1, h⟩ := h
                refine g_irem C dX11_chance_98 hc_1 ?_
                refine g_iconst (v := 1) C dX11_chance_99 rfl ?_
                refine g_iadd C dX11_chance_100 ?_
                refine g_topi (fun t_2 et_2 => ?_)
                replace h := h t_2 et_2
                obtain ⟨P_6, hP, h⟩ := h
                refine g_callV (As := [.int a3, .int t_2]) (rest := [.long x4_1]) C (mX11_valueAt l D Y h0 0 v_tape taped (.ref q_number) v_isTold v_name q_sortOf q_first q_second v_degree v_colours q_signBy v_own lines size atF place sort value fault faultPlace lastFault lastPlace q_sF v_kept undoable hasImage q_power q_table v_marks v_row rowOf areSums isSieved v_lastOf blocks v_inBlock v_atQuotient v_small drawn_3 power_1 table_1 sortOf sF first second signBy a3 t_2 P_6 hP) dX11_chance_101 rfl wM_X11_286 wI_X11_valueAt wV_X11_valueAt wN_X11 wC_X11_valueAt (n := 2) (by decide +kernel) rfl (q0 := 0) rfl rfl ⟨Nat.le_of_ble_eq_true rfl, Nat.le_of_ble_eq_true rfl⟩ ⟨Nat.le_of_ble_eq_true rfl, Nat.le_of_ble_eq_true rfl⟩ (Nat.le_of_ble_eq_true rfl) [0, 3, 4, 5, 2, 6, 7, 8] [1] rfl rfl rfl (fun v wc hv => ?_)
                obtain ⟨rF_6, power_2, table_2, rfl, rfl, hq⟩ := hv
                replace h := h rF_6 power_2 table_2 hq
                refine gG.perm (ws' := [oX11 h0 0 (v_tape) taped (.ref q_number) (v_isTold) (v_name) (.ref q_sortOf) (.ref q_first) (.ref q_second) (v_degree) (v_colours) (.ref q_signBy) (v_own) lines size atF place sort value fault faultPlace lastFault lastPlace (.ref q_sF) (v_kept) undoable hasImage (.ref q_power) (.ref q_table) (v_marks) (v_row) rowOf areSums isSieved (v_lastOf) blocks (v_inBlock) (v_atQuotient) (v_small) drawn_3, aI Y q_number 8 number, aI Y q_sF 74 sF, aJ Y q_power 18 power_2, aJ Y q_table 216 table_2, aI Y q_sortOf 24 sortOf, aI Y q_first 24 first, aI Y q_second 24 second, aI Y q_signBy 24 signBy]) [1, 0, 5, 2, 3, 4, 6, 7, 8] rfl rfl ?_
                refine g_ladd C dX11_chance_104 ?_
                refine g_topl (fun x4_2 ex4_2 => ?_)
                replace h := h x4_2 ex4_2
                refine g_lstore (lv' := [(4, .long x4_2), (8, .int rF_5), (7, .int rF_4), (0, .ref h0), (2, .int a2), (3, .int a3), (6, .int x6_1)]) C dX11_chance_105 (by decide) rfl ?_
                refine g_iinc (v := x6_1 + 1) (lv' := [(6, .int (x6_1 + 1)), (4, .long x4_2), (8, .int rF_5), (7, .int rF_4), (0, .ref h0), (2, .int a2), (3, .int a3)]) C dX11_chance_107 6 rfl rfl (by decide) rfl ?_
                refine g_goto (tgt := 55) C dX11_chance_110 (by decide) ?_
                refine gG.locals (lv' := [(0, .ref h0), (2, .int a2), (3, .int a3), (4, .long x4_2), (6, .int (x6_1 + 1))]) [4, 5, 6, 1, 0] rfl ?_
                exact ih2 power_2 table_2 drawn_3 x4_2 (x6_1 + 1) (Nat.lt_of_lt_of_le h.2 (Nat.le_of_lt_succ hm2)) h.1
          refine gG.locals (lv' := [(0, .ref h0), (2, .int a2), (3, .int a3), (4, .long 0), (6, .int 0)]) [2, 3, 4, 1, 0] rfl ?_
          exact key_2 (Mea_1 power table t_1 0 0 + 1) power table t_1 0 0 (Nat.lt_succ_self _) hI2
        replace h := hA
        refine g_icmp_ne (tgt := 45) C dX11_chance_33 (by decide) (fun c_5 => ?_) (fun c_5 => ?_)
        · replace h := h.1 c_5
          refine g_iload_n C dX11_chance_45 1 rfl ?_
          refine gG.locals (lv' := [(0, .ref h0), (2, .int a2), (3, .int a3)]) [0, 2, 3] rfl ?_
          exact key_1 a1 h
        · replace h := h.2 c_5
          refine g_aload_n C dX11_chance_36 0 rfl ?_
          refine g_get C inX11 0 rfl rfl 3 (by decide) wF_X11_13 rfl dX11_chance_37 ?_
          refine g_iconst (v := 2) C dX11_chance_40 rfl ?_
          refine g_iald C 1 rfl (by unfold vp_in; decide) dX11_chance_41 ?_
          refine g_goto (tgt := 46) C dX11_chance_42 (by decide) ?_
          refine gG.locals (lv' := [(0, .ref h0), (2, .int a2), (3, .int a3)]) [0, 2, 3] rfl ?_
          exact key_1 (number 2) h
      · replace h := h.2 c_3
        refine g_iconst (v := (-1)) C dX11_chance_28 rfl ?_
        exact g_iret C hR (Nat.le_of_ble_eq_true rfl) (Nat.le_of_ble_eq_true rfl) dX11_chance_29 ⟨(-1), 0, drawn, power, table, rfl, rfl, h⟩
theorem dX11_ownMany_0 : decode cX11_ownMany 0 = .ok (.iconst 0, 1) := by decide +kernel
theorem dX11_ownMany_1 : decode cX11_ownMany 1 = .ok (.istore_n 1, 1) := by decide +kernel
theorem dX11_ownMany_2 : decode cX11_ownMany 2 = .ok (.bipush 6, 2) := by decide +kernel
theorem dX11_ownMany_4 : decode cX11_ownMany 4 = .ok (.istore_n 2, 1) := by decide +kernel
theorem dX11_ownMany_5 : decode cX11_ownMany 5 = .ok (.iload_n 2, 1) := by decide +kernel
theorem dX11_ownMany_6 : decode cX11_ownMany 6 = .ok (.aload_n 0, 1) := by decide +kernel
theorem dX11_ownMany_7 : decode cX11_ownMany 7 = .ok (.invokevirtual 226, 3) := by decide +kernel
theorem dX11_ownMany_10 : decode cX11_ownMany 10 = .ok (.if_icmp .ge 27, 3) := by decide +kernel
theorem dX11_ownMany_13 : decode cX11_ownMany 13 = .ok (.iload_n 1, 1) := by decide +kernel
theorem dX11_ownMany_14 : decode cX11_ownMany 14 = .ok (.aload_n 0, 1) := by decide +kernel
theorem dX11_ownMany_15 : decode cX11_ownMany 15 = .ok (.getfield 23, 3) := by decide +kernel
theorem dX11_ownMany_18 : decode cX11_ownMany 18 = .ok (.iload_n 2, 1) := by decide +kernel
theorem dX11_ownMany_19 : decode cX11_ownMany 19 = .ok (.iaload, 1) := by decide +kernel
theorem dX11_ownMany_20 : decode cX11_ownMany 20 = .ok (.iconst 1, 1) := by decide +kernel
theorem dX11_ownMany_21 : decode cX11_ownMany 21 = .ok (.if_icmp .ne 7, 3) := by decide +kernel
theorem dX11_ownMany_24 : decode cX11_ownMany 24 = .ok (.iconst 1, 1) := by decide +kernel
theorem dX11_ownMany_25 : decode cX11_ownMany 25 = .ok (.goto 4, 3) := by decide +kernel
theorem dX11_ownMany_28 : decode cX11_ownMany 28 = .ok (.iconst 0, 1) := by decide +kernel
theorem dX11_ownMany_29 : decode cX11_ownMany 29 = .ok (.iadd, 1) := by decide +kernel
theorem dX11_ownMany_30 : decode cX11_ownMany 30 = .ok (.istore_n 1, 1) := by decide +kernel
theorem dX11_ownMany_31 : decode cX11_ownMany 31 = .ok (.iinc 2 1, 3) := by decide +kernel
theorem dX11_ownMany_34 : decode cX11_ownMany 34 = .ok (.goto (-29), 3) := by decide +kernel
theorem dX11_ownMany_37 : decode cX11_ownMany 37 = .ok (.iload_n 1, 1) := by decide +kernel
theorem dX11_ownMany_38 : decode cX11_ownMany 38 = .ok (.ireturn, 1) := by decide +kernel
/-- QuotientSumsModel.ownMany()I -/
def wX11_ownMany (thrown : Int32) (taped : Int32) (lines : Int32) (size : Int32) (atF : Int32) (place : Int32) (sort : Int32) (value : Int32) (fault : Int32) (faultPlace : Int32) (lastFault : Int32) (lastPlace : Int32) (undoable : Int32) (hasImage : Int32) (rowOf : Int32) (areSums : Int32) (isSieved : Int32) (blocks : Int32) (drawn : Int32) (number : Nat → Int32) (sortOf : Nat → Int32)  (Q : (Int32) → Prop) : Prop :=
  (∃ (Inv_1 : (Int32) → (Int32) → Prop) (Mea_1 : (Int32) → (Int32) → Nat), Inv_1 0 6 ∧ ∀ (x1_1 : Int32) (x2_1 : Int32), Inv_1 x1_1 x2_1 → (∃ (P_1 : (Int32) → Prop), wX11_functions thrown taped lines size atF place sort value fault faultPlace lastFault lastPlace undoable hasImage rowOf areSums isSieved blocks drawn number P_1 ∧ ∀ (rF_1 : Int32), P_1 rF_1 → ((rF_1 ≤ x2_1 → (Q x1_1)) ∧ (¬ rF_1 ≤ x2_1 → (vp_in x2_1 24 ∧ ((¬ (sortOf x2_1.toNatClampNeg) = 1 → (∀ x1_2 : Int32, x1_2 = x1_1 + 0 → (Inv_1 x1_2 (x2_1 + 1) ∧ Mea_1 x1_2 (x2_1 + 1) < Mea_1 x1_1 x2_1))) ∧ ((sortOf x2_1.toNatClampNeg) = 1 → (∀ x1_3 : Int32, x1_3 = x1_1 + 1 → (Inv_1 x1_3 (x2_1 + 1) ∧ Mea_1 x1_3 (x2_1 + 1) < Mea_1 x1_1 x2_1)))))))))
set_option maxHeartbeats 4000000 in
set_option maxRecDepth 100000 in
theorem mX11_ownMany (l : Launch) (D : va_G) (Y : Nat → ClassId) (h0 : Nat) (thrown : Int32) (v_tape : Value) (taped : Int32) (q_number : Nat) (v_isTold : Value) (v_name : Value) (q_sortOf : Nat) (v_first : Value) (v_second : Value) (v_degree : Value) (v_colours : Value) (v_signBy : Value) (v_own : Value) (lines : Int32) (size : Int32) (atF : Int32) (place : Int32) (sort : Int32) (value : Int32) (fault : Int32) (faultPlace : Int32) (lastFault : Int32) (lastPlace : Int32) (v_sF : Value) (v_kept : Value) (undoable : Int32) (hasImage : Int32) (v_power : Value) (v_table : Value) (v_marks : Value) (v_row : Value) (rowOf : Int32) (areSums : Int32) (isSieved : Int32) (v_lastOf : Value) (blocks : Int32) (v_inBlock : Value) (v_atQuotient : Value) (v_small : Value) (drawn : Int32) (number : Nat → Int32) (sortOf : Nat → Int32)  (Q : (Int32) → Prop) (h : wX11_ownMany thrown taped lines size atF place sort value fault faultPlace lastFault lastPlace undoable hasImage rowOf areSums isSieved blocks drawn number sortOf Q) : gM l D Y yX11_ownMany cX11_ownMany 3 (some .int) 1 20 0 0 [.ref h0] [oX11 h0 thrown (v_tape) taped (.ref q_number) (v_isTold) (v_name) (.ref q_sortOf) (v_first) (v_second) (v_degree) (v_colours) (v_signBy) (v_own) lines size atF place sort value fault faultPlace lastFault lastPlace (v_sF) (v_kept) undoable hasImage (v_power) (v_table) (v_marks) (v_row) rowOf areSums isSieved (v_lastOf) blocks (v_inBlock) (v_atQuotient) (v_small) drawn, aI Y q_number 8 number, aI Y q_sortOf 24 sortOf] (fun v w => ∃ r : Int32, v = some (.int r) ∧ w = [oX11 h0 thrown (v_tape) taped (.ref q_number) (v_isTold) (v_name) (.ref q_sortOf) (v_first) (v_second) (v_degree) (v_colours) (v_signBy) (v_own) lines size atF place sort value fault faultPlace lastFault lastPlace (v_sF) (v_kept) undoable hasImage (v_power) (v_table) (v_marks) (v_row) rowOf areSums isSieved (v_lastOf) blocks (v_inBlock) (v_atQuotient) (v_small) drawn, aI Y q_number 8 number, aI Y q_sortOf 24 sortOf] ∧ Q r) := by
  refine gM_of (own := RX11) (by decide +kernel) rfl (Nat.le_of_ble_eq_true rfl) rfl (fun E C hR => ?_)
  unfold wX11_ownMany at h
  refine g_iconst (v := 0) C dX11_ownMany_0 rfl ?_
  refine g_istore_n (lv' := [(1, .int 0), (0, .ref h0)]) C dX11_ownMany_1 (by decide) rfl ?_
  refine g_bipush (v := 6) C dX11_ownMany_2 rfl ?_
  refine g_istore_n (lv' := [(2, .int 6), (1, .int 0), (0, .ref h0)]) C dX11_ownMany_4 (by decide) rfl ?_
  obtain ⟨Inv_1, Mea_1, hI1, hB1⟩ := h
  have key_1 : ∀ (n : Nat) (x1_1 : Int32) (x2_1 : Int32) , Mea_1 x1_1 x2_1 < n → Inv_1 x1_1 x2_1 → gG E 0 0 [oX11 h0 thrown (v_tape) taped (.ref q_number) (v_isTold) (v_name) (.ref q_sortOf) (v_first) (v_second) (v_degree) (v_colours) (v_signBy) (v_own) lines size atF place sort value fault faultPlace lastFault lastPlace (v_sF) (v_kept) undoable hasImage (v_power) (v_table) (v_marks) (v_row) rowOf areSums isSieved (v_lastOf) blocks (v_inBlock) (v_atQuotient) (v_small) drawn, aI Y q_number 8 number, aI Y q_sortOf 24 sortOf] [(0, .ref h0), (1, .int x1_1), (2, .int x2_1)] [] 5 := by
    intro n
    induction n with
    | zero => exact fun _ _ hm => absurd hm (Nat.not_lt_zero _)
    | succ n ih1 =>
      intro x1_1 x2_1  hm1 hI
      have h := hB1 x1_1 x2_1 hI
      refine g_iload_n C dX11_ownMany_5 2 rfl ?_
      refine g_aload_n C dX11_ownMany_6 0 rfl ?_
      obtain ⟨P_1, hP, h⟩ := h
      refine g_callV (As := []) (rest := [.int x2_1]) C (mX11_functions l D Y h0 thrown v_tape taped q_number v_isTold v_name (.ref q_sortOf) v_first v_second v_degree v_colours v_signBy v_own lines size atF place sort value fault faultPlace lastFault lastPlace v_sF v_kept undoable hasImage v_power v_table v_marks v_row rowOf areSums isSieved v_lastOf blocks v_inBlock v_atQuotient v_small drawn number P_1 hP) dX11_ownMany_7 rfl wM_X11_226 wI_X11_functions wV_X11_functions wN_X11 wC_X11_functions (n := 0) (by decide +kernel) rfl (q0 := 0) rfl rfl ⟨Nat.le_of_ble_eq_true rfl, Nat.le_of_ble_eq_true rfl⟩ ⟨Nat.le_of_ble_eq_true rfl, Nat.le_of_ble_eq_true rfl⟩ (Nat.le_of_ble_eq_true rfl) [0, 1] [2] rfl rfl rfl (fun v wc hv => ?_)
      obtain ⟨rF_1, rfl, rfl, hq⟩ := hv
      replace h := h rF_1 hq
      refine gG.perm (ws' := [oX11 h0 thrown (v_tape) taped (.ref q_number) (v_isTold) (v_name) (.ref q_sortOf) (v_first) (v_second) (v_degree) (v_colours) (v_signBy) (v_own) lines size atF place sort value fault faultPlace lastFault lastPlace (v_sF) (v_kept) undoable hasImage (v_power) (v_table) (v_marks) (v_row) rowOf areSums isSieved (v_lastOf) blocks (v_inBlock) (v_atQuotient) (v_small) drawn, aI Y q_number 8 number, aI Y q_sortOf 24 sortOf]) [1, 2, 0] rfl rfl ?_
      refine g_icmp_ge (tgt := 37) C dX11_ownMany_10 (by decide) (fun c_1 => ?_) (fun c_1 => ?_)
      · replace h := h.1 c_1
        refine g_iload_n C dX11_ownMany_37 1 rfl ?_
        exact g_iret C hR (Nat.le_of_ble_eq_true rfl) (Nat.le_of_ble_eq_true rfl) dX11_ownMany_38 ⟨x1_1, rfl, rfl, h⟩
      · replace h := h.2 c_1
        refine g_iload_n C dX11_ownMany_13 1 rfl ?_
        refine g_aload_n C dX11_ownMany_14 0 rfl ?_
        refine g_get C inX11 0 rfl rfl 6 (by decide) wF_X11_23 rfl dX11_ownMany_15 ?_
        refine g_iload_n C dX11_ownMany_18 2 rfl ?_
        obtain ⟨hc_1, h⟩ := h
        refine g_iald C 2 rfl hc_1 dX11_ownMany_19 ?_
        refine g_iconst (v := 1) C dX11_ownMany_20 rfl ?_
        refine g_icmp_ne (tgt := 28) C dX11_ownMany_21 (by decide) (fun c_2 => ?_) (fun c_2 => ?_)
        · replace h := h.1 c_2
          refine g_iconst (v := 0) C dX11_ownMany_28 rfl ?_
          refine g_iadd C dX11_ownMany_29 ?_
          refine g_topi (fun x1_2 ex1_2 => ?_)
          replace h := h x1_2 ex1_2
          refine g_istore_n (lv' := [(1, .int x1_2), (0, .ref h0), (2, .int x2_1)]) C dX11_ownMany_30 (by decide) rfl ?_
          refine g_iinc (v := x2_1 + 1) (lv' := [(2, .int (x2_1 + 1)), (1, .int x1_2), (0, .ref h0)]) C dX11_ownMany_31 2 rfl rfl (by decide) rfl ?_
          refine g_goto (tgt := 5) C dX11_ownMany_34 (by decide) ?_
          refine gG.locals (lv' := [(0, .ref h0), (1, .int x1_2), (2, .int (x2_1 + 1))]) [2, 1, 0] rfl ?_
          exact ih1 x1_2 (x2_1 + 1) (Nat.lt_of_lt_of_le h.2 (Nat.le_of_lt_succ hm1)) h.1
        · replace h := h.2 c_2
          refine g_iconst (v := 1) C dX11_ownMany_24 rfl ?_
          refine g_goto (tgt := 29) C dX11_ownMany_25 (by decide) ?_
          refine g_iadd C dX11_ownMany_29 ?_
          refine g_topi (fun x1_3 ex1_3 => ?_)
          replace h := h x1_3 ex1_3
          refine g_istore_n (lv' := [(1, .int x1_3), (0, .ref h0), (2, .int x2_1)]) C dX11_ownMany_30 (by decide) rfl ?_
          refine g_iinc (v := x2_1 + 1) (lv' := [(2, .int (x2_1 + 1)), (1, .int x1_3), (0, .ref h0)]) C dX11_ownMany_31 2 rfl rfl (by decide) rfl ?_
          refine g_goto (tgt := 5) C dX11_ownMany_34 (by decide) ?_
          refine gG.locals (lv' := [(0, .ref h0), (1, .int x1_3), (2, .int (x2_1 + 1))]) [2, 1, 0] rfl ?_
          exact ih1 x1_3 (x2_1 + 1) (Nat.lt_of_lt_of_le h.2 (Nat.le_of_lt_succ hm1)) h.1
  refine gG.locals (lv' := [(0, .ref h0), (1, .int 0), (2, .int 6)]) [2, 1, 0] rfl ?_
  exact key_1 (Mea_1 0 6 + 1) 0 6 (Nat.lt_succ_self _) hI1
theorem dX11_greatestPrime_0 : decode cX11_greatestPrime 0 = .ok (.aload_n 0, 1) := by decide +kernel
theorem dX11_greatestPrime_1 : decode cX11_greatestPrime 1 = .ok (.getfield 48, 3) := by decide +kernel
theorem dX11_greatestPrime_4 : decode cX11_greatestPrime 4 = .ok (.iconst 0, 1) := by decide +kernel
theorem dX11_greatestPrime_5 : decode cX11_greatestPrime 5 = .ok (.iaload, 1) := by decide +kernel
theorem dX11_greatestPrime_6 : decode cX11_greatestPrime 6 = .ok (.istore_n 1, 1) := by decide +kernel
theorem dX11_greatestPrime_7 : decode cX11_greatestPrime 7 = .ok (.iload_n 1, 1) := by decide +kernel
theorem dX11_greatestPrime_8 : decode cX11_greatestPrime 8 = .ok (.iconst 1, 1) := by decide +kernel
theorem dX11_greatestPrime_9 : decode cX11_greatestPrime 9 = .ok (.if_icmp .le 19, 3) := by decide +kernel
theorem dX11_greatestPrime_12 : decode cX11_greatestPrime 12 = .ok (.aload_n 0, 1) := by decide +kernel
theorem dX11_greatestPrime_13 : decode cX11_greatestPrime 13 = .ok (.iload_n 1, 1) := by decide +kernel
theorem dX11_greatestPrime_14 : decode cX11_greatestPrime 14 = .ok (.invokevirtual 292, 3) := by decide +kernel
theorem dX11_greatestPrime_17 : decode cX11_greatestPrime 17 = .ok (.ifCond .eq 5, 3) := by decide +kernel
theorem dX11_greatestPrime_20 : decode cX11_greatestPrime 20 = .ok (.iload_n 1, 1) := by decide +kernel
theorem dX11_greatestPrime_21 : decode cX11_greatestPrime 21 = .ok (.ireturn, 1) := by decide +kernel
theorem dX11_greatestPrime_22 : decode cX11_greatestPrime 22 = .ok (.iinc 1 (-1), 3) := by decide +kernel
theorem dX11_greatestPrime_25 : decode cX11_greatestPrime 25 = .ok (.goto (-18), 3) := by decide +kernel
theorem dX11_greatestPrime_28 : decode cX11_greatestPrime 28 = .ok (.bipush (-2), 2) := by decide +kernel
theorem dX11_greatestPrime_30 : decode cX11_greatestPrime 30 = .ok (.ireturn, 1) := by decide +kernel
/-- QuotientSumsModel.greatestPrime()I -/
def wX11_greatestPrime (thrown : Int32) (taped : Int32) (lines : Int32) (size : Int32) (atF : Int32) (place : Int32) (sort : Int32) (value : Int32) (fault : Int32) (faultPlace : Int32) (lastFault : Int32) (lastPlace : Int32) (undoable : Int32) (hasImage : Int32) (rowOf : Int32) (areSums : Int32) (isSieved : Int32) (blocks : Int32) (drawn : Int32) (sF : Nat → Int32) (marks : Nat → Int32)  (Q : (Int32) → Prop) : Prop :=
  (∀ x1_1 : Int32, x1_1 = sF 0 → (∃ (Inv_1 : (Int32) → Prop) (Mea_1 : (Int32) → Nat), Inv_1 x1_1 ∧ ∀ (x1_2 : Int32), Inv_1 x1_2 → ((x1_2 ≤ 1 → (Q (-2))) ∧ (¬ x1_2 ≤ 1 → (∃ (P_1 : (Int32) → Prop), wX11_isPrime thrown taped lines size atF place sort value fault faultPlace lastFault lastPlace undoable hasImage rowOf areSums isSieved blocks drawn marks x1_2 P_1 ∧ ∀ (rF_1 : Int32), P_1 rF_1 → ((rF_1 = 0 → (Inv_1 (x1_2 + (-1)) ∧ Mea_1 (x1_2 + (-1)) < Mea_1 x1_2)) ∧ (¬ rF_1 = 0 → (Q x1_2))))))))
set_option maxHeartbeats 4000000 in
set_option maxRecDepth 100000 in
theorem mX11_greatestPrime (l : Launch) (D : va_G) (Y : Nat → ClassId) (h0 : Nat) (thrown : Int32) (v_tape : Value) (taped : Int32) (v_number : Value) (v_isTold : Value) (v_name : Value) (v_sortOf : Value) (v_first : Value) (v_second : Value) (v_degree : Value) (v_colours : Value) (v_signBy : Value) (v_own : Value) (lines : Int32) (size : Int32) (atF : Int32) (place : Int32) (sort : Int32) (value : Int32) (fault : Int32) (faultPlace : Int32) (lastFault : Int32) (lastPlace : Int32) (q_sF : Nat) (v_kept : Value) (undoable : Int32) (hasImage : Int32) (v_power : Value) (v_table : Value) (q_marks : Nat) (v_row : Value) (rowOf : Int32) (areSums : Int32) (isSieved : Int32) (v_lastOf : Value) (blocks : Int32) (v_inBlock : Value) (v_atQuotient : Value) (v_small : Value) (drawn : Int32) (sF : Nat → Int32) (marks : Nat → Int32)  (Q : (Int32) → Prop) (h : wX11_greatestPrime thrown taped lines size atF place sort value fault faultPlace lastFault lastPlace undoable hasImage rowOf areSums isSieved blocks drawn sF marks Q) : gM l D Y yX11_greatestPrime cX11_greatestPrime 2 (some .int) 1 21 0 0 [.ref h0] [oX11 h0 thrown (v_tape) taped (v_number) (v_isTold) (v_name) (v_sortOf) (v_first) (v_second) (v_degree) (v_colours) (v_signBy) (v_own) lines size atF place sort value fault faultPlace lastFault lastPlace (.ref q_sF) (v_kept) undoable hasImage (v_power) (v_table) (.ref q_marks) (v_row) rowOf areSums isSieved (v_lastOf) blocks (v_inBlock) (v_atQuotient) (v_small) drawn, aI Y q_sF 74 sF, aI Y q_marks 6251 marks] (fun v w => ∃ r : Int32, v = some (.int r) ∧ w = [oX11 h0 thrown (v_tape) taped (v_number) (v_isTold) (v_name) (v_sortOf) (v_first) (v_second) (v_degree) (v_colours) (v_signBy) (v_own) lines size atF place sort value fault faultPlace lastFault lastPlace (.ref q_sF) (v_kept) undoable hasImage (v_power) (v_table) (.ref q_marks) (v_row) rowOf areSums isSieved (v_lastOf) blocks (v_inBlock) (v_atQuotient) (v_small) drawn, aI Y q_sF 74 sF, aI Y q_marks 6251 marks] ∧ Q r) := by
  refine gM_of (own := RX11) (by decide +kernel) rfl (Nat.le_of_ble_eq_true rfl) rfl (fun E C hR => ?_)
  unfold wX11_greatestPrime at h
  refine g_aload_n C dX11_greatestPrime_0 0 rfl ?_
  refine g_get C inX11 0 rfl rfl 23 (by decide) wF_X11_48 rfl dX11_greatestPrime_1 ?_
  refine g_iconst (v := 0) C dX11_greatestPrime_4 rfl ?_
  refine g_iald C 1 rfl (by unfold vp_in; decide) dX11_greatestPrime_5 ?_
  refine g_topi (fun x1_1 ex1_1 => ?_)
  replace h := h x1_1 ex1_1
  refine g_istore_n (lv' := [(1, .int x1_1), (0, .ref h0)]) C dX11_greatestPrime_6 (by decide) rfl ?_
  obtain ⟨Inv_1, Mea_1, hI1, hB1⟩ := h
  have key_1 : ∀ (n : Nat) (x1_2 : Int32) , Mea_1 x1_2 < n → Inv_1 x1_2 → gG E 0 0 [oX11 h0 thrown (v_tape) taped (v_number) (v_isTold) (v_name) (v_sortOf) (v_first) (v_second) (v_degree) (v_colours) (v_signBy) (v_own) lines size atF place sort value fault faultPlace lastFault lastPlace (.ref q_sF) (v_kept) undoable hasImage (v_power) (v_table) (.ref q_marks) (v_row) rowOf areSums isSieved (v_lastOf) blocks (v_inBlock) (v_atQuotient) (v_small) drawn, aI Y q_sF 74 sF, aI Y q_marks 6251 marks] [(0, .ref h0), (1, .int x1_2)] [] 7 := by
    intro n
    induction n with
    | zero => exact fun _ hm => absurd hm (Nat.not_lt_zero _)
    | succ n ih1 =>
      intro x1_2  hm1 hI
      have h := hB1 x1_2 hI
      refine g_iload_n C dX11_greatestPrime_7 1 rfl ?_
      refine g_iconst (v := 1) C dX11_greatestPrime_8 rfl ?_
      refine g_icmp_le (tgt := 28) C dX11_greatestPrime_9 (by decide) (fun c_1 => ?_) (fun c_1 => ?_)
      · replace h := h.1 c_1
        refine g_bipush (v := (-2)) C dX11_greatestPrime_28 rfl ?_
        exact g_iret C hR (Nat.le_of_ble_eq_true rfl) (Nat.le_of_ble_eq_true rfl) dX11_greatestPrime_30 ⟨(-2), rfl, rfl, h⟩
      · replace h := h.2 c_1
        refine g_aload_n C dX11_greatestPrime_12 0 rfl ?_
        refine g_iload_n C dX11_greatestPrime_13 1 rfl ?_
        obtain ⟨P_1, hP, h⟩ := h
        refine g_callV (As := [.int x1_2]) (rest := []) C (mX11_isPrime l D Y h0 thrown v_tape taped v_number v_isTold v_name v_sortOf v_first v_second v_degree v_colours v_signBy v_own lines size atF place sort value fault faultPlace lastFault lastPlace (.ref q_sF) v_kept undoable hasImage v_power v_table q_marks v_row rowOf areSums isSieved v_lastOf blocks v_inBlock v_atQuotient v_small drawn marks x1_2 P_1 hP) dX11_greatestPrime_14 rfl wM_X11_292 wI_X11_isPrime wV_X11_isPrime wN_X11 wC_X11_isPrime (n := 1) (by decide +kernel) rfl (q0 := 0) rfl rfl ⟨Nat.le_of_ble_eq_true rfl, Nat.le_of_ble_eq_true rfl⟩ ⟨Nat.le_of_ble_eq_true rfl, Nat.le_of_ble_eq_true rfl⟩ (Nat.le_of_ble_eq_true rfl) [0, 2] [1] rfl rfl rfl (fun v wc hv => ?_)
        obtain ⟨rF_1, rfl, rfl, hq⟩ := hv
        replace h := h rF_1 hq
        refine gG.perm (ws' := [oX11 h0 thrown (v_tape) taped (v_number) (v_isTold) (v_name) (v_sortOf) (v_first) (v_second) (v_degree) (v_colours) (v_signBy) (v_own) lines size atF place sort value fault faultPlace lastFault lastPlace (.ref q_sF) (v_kept) undoable hasImage (v_power) (v_table) (.ref q_marks) (v_row) rowOf areSums isSieved (v_lastOf) blocks (v_inBlock) (v_atQuotient) (v_small) drawn, aI Y q_sF 74 sF, aI Y q_marks 6251 marks]) [1, 0, 2] rfl rfl ?_
        refine g_if_eq (tgt := 22) C dX11_greatestPrime_17 (by decide) (fun c_2 => ?_) (fun c_2 => ?_)
        · replace h := h.1 c_2
          refine g_iinc (v := x1_2 + (-1)) (lv' := [(1, .int (x1_2 + (-1))), (0, .ref h0)]) C dX11_greatestPrime_22 1 rfl rfl (by decide) rfl ?_
          refine g_goto (tgt := 7) C dX11_greatestPrime_25 (by decide) ?_
          refine gG.locals (lv' := [(0, .ref h0), (1, .int (x1_2 + (-1)))]) [1, 0] rfl ?_
          exact ih1 (x1_2 + (-1)) (Nat.lt_of_lt_of_le h.2 (Nat.le_of_lt_succ hm1)) h.1
        · replace h := h.2 c_2
          refine g_iload_n C dX11_greatestPrime_20 1 rfl ?_
          exact g_iret C hR (Nat.le_of_ble_eq_true rfl) (Nat.le_of_ble_eq_true rfl) dX11_greatestPrime_21 ⟨x1_2, rfl, rfl, h⟩
  refine gG.locals (lv' := [(0, .ref h0), (1, .int x1_1)]) [1, 0] rfl ?_
  exact key_1 (Mea_1 x1_1 + 1) x1_1 (Nat.lt_succ_self _) hI1
theorem dX11_count_0 : decode cX11_count 0 = .ok (.aload_n 0, 1) := by decide +kernel
theorem dX11_count_1 : decode cX11_count 1 = .ok (.iconst 0, 1) := by decide +kernel
theorem dX11_count_2 : decode cX11_count 2 = .ok (.putfield 89, 3) := by decide +kernel
theorem dX11_count_5 : decode cX11_count 5 = .ok (.iload_n 1, 1) := by decide +kernel
theorem dX11_count_6 : decode cX11_count 6 = .ok (.tableswitch 81 0 6 #[42, 47, 52, 59, 66, 71, 76], 42) := by decide +kernel
theorem dX11_count_48 : decode cX11_count 48 = .ok (.aload_n 0, 1) := by decide +kernel
theorem dX11_count_49 : decode cX11_count 49 = .ok (.invokevirtual 226, 3) := by decide +kernel
theorem dX11_count_52 : decode cX11_count 52 = .ok (.ireturn, 1) := by decide +kernel
theorem dX11_count_53 : decode cX11_count 53 = .ok (.aload_n 0, 1) := by decide +kernel
theorem dX11_count_54 : decode cX11_count 54 = .ok (.invokevirtual 362, 3) := by decide +kernel
theorem dX11_count_57 : decode cX11_count 57 = .ok (.ireturn, 1) := by decide +kernel
theorem dX11_count_58 : decode cX11_count 58 = .ok (.aload_n 0, 1) := by decide +kernel
theorem dX11_count_59 : decode cX11_count 59 = .ok (.getfield 48, 3) := by decide +kernel
theorem dX11_count_62 : decode cX11_count 62 = .ok (.iconst 0, 1) := by decide +kernel
theorem dX11_count_63 : decode cX11_count 63 = .ok (.iaload, 1) := by decide +kernel
theorem dX11_count_64 : decode cX11_count 64 = .ok (.ireturn, 1) := by decide +kernel
theorem dX11_count_65 : decode cX11_count 65 = .ok (.aload_n 0, 1) := by decide +kernel
theorem dX11_count_66 : decode cX11_count 66 = .ok (.getfield 48, 3) := by decide +kernel
theorem dX11_count_69 : decode cX11_count 69 = .ok (.iconst 1, 1) := by decide +kernel
theorem dX11_count_70 : decode cX11_count 70 = .ok (.iaload, 1) := by decide +kernel
theorem dX11_count_71 : decode cX11_count 71 = .ok (.ireturn, 1) := by decide +kernel
theorem dX11_count_72 : decode cX11_count 72 = .ok (.aload_n 0, 1) := by decide +kernel
theorem dX11_count_73 : decode cX11_count 73 = .ok (.getfield 219, 3) := by decide +kernel
theorem dX11_count_76 : decode cX11_count 76 = .ok (.ireturn, 1) := by decide +kernel
theorem dX11_count_77 : decode cX11_count 77 = .ok (.aload_n 0, 1) := by decide +kernel
theorem dX11_count_78 : decode cX11_count 78 = .ok (.getfield 92, 3) := by decide +kernel
theorem dX11_count_81 : decode cX11_count 81 = .ok (.ireturn, 1) := by decide +kernel
theorem dX11_count_82 : decode cX11_count 82 = .ok (.aload_n 0, 1) := by decide +kernel
theorem dX11_count_83 : decode cX11_count 83 = .ok (.invokevirtual 365, 3) := by decide +kernel
theorem dX11_count_86 : decode cX11_count 86 = .ok (.ireturn, 1) := by decide +kernel
theorem dX11_count_87 : decode cX11_count 87 = .ok (.iconst (-1), 1) := by decide +kernel
theorem dX11_count_88 : decode cX11_count 88 = .ok (.ireturn, 1) := by decide +kernel
/-- QuotientSumsModel.count(I)I -/
def wX11_count (thrown : Int32) (taped : Int32) (lines : Int32) (size : Int32) (atF : Int32) (place : Int32) (sort : Int32) (value : Int32) (fault : Int32) (faultPlace : Int32) (lastFault : Int32) (lastPlace : Int32) (undoable : Int32) (hasImage : Int32) (rowOf : Int32) (areSums : Int32) (isSieved : Int32) (blocks : Int32) (drawn : Int32) (number : Nat → Int32) (sortOf : Nat → Int32) (sF : Nat → Int32) (marks : Nat → Int32) (a1 : Int32) (Q : (Int32) → (Int32) → Prop) : Prop :=
  ((a1 = 0 → (∃ (P_1 : (Int32) → Prop), wX11_functions 0 taped lines size atF place sort value fault faultPlace lastFault lastPlace undoable hasImage rowOf areSums isSieved blocks drawn number P_1 ∧ ∀ (rF_1 : Int32), P_1 rF_1 → (Q rF_1 0))) ∧ (¬ a1 = 0 → ((a1 = 1 → (∃ (P_2 : (Int32) → Prop), wX11_ownMany 0 taped lines size atF place sort value fault faultPlace lastFault lastPlace undoable hasImage rowOf areSums isSieved blocks drawn number sortOf P_2 ∧ ∀ (rF_2 : Int32), P_2 rF_2 → (Q rF_2 0))) ∧ (¬ a1 = 1 → ((a1 = 2 → (Q (sF 0) 0)) ∧ (¬ a1 = 2 → ((a1 = 3 → (Q (sF 1) 0)) ∧ (¬ a1 = 3 → ((a1 = 4 → (Q undoable 0)) ∧ (¬ a1 = 4 → ((a1 = 5 → (Q taped 0)) ∧ (¬ a1 = 5 → ((a1 = 6 → (∃ (P_3 : (Int32) → Prop), wX11_greatestPrime 0 taped lines size atF place sort value fault faultPlace lastFault lastPlace undoable hasImage rowOf areSums isSieved blocks drawn sF marks P_3 ∧ ∀ (rF_3 : Int32), P_3 rF_3 → (Q rF_3 0))) ∧ (¬ a1 = 6 → (Q (-1) 0)))))))))))))))
set_option maxHeartbeats 4000000 in
set_option maxRecDepth 100000 in
theorem mX11_count (l : Launch) (D : va_G) (Y : Nat → ClassId) (h0 : Nat) (thrown : Int32) (v_tape : Value) (taped : Int32) (q_number : Nat) (v_isTold : Value) (v_name : Value) (q_sortOf : Nat) (v_first : Value) (v_second : Value) (v_degree : Value) (v_colours : Value) (v_signBy : Value) (v_own : Value) (lines : Int32) (size : Int32) (atF : Int32) (place : Int32) (sort : Int32) (value : Int32) (fault : Int32) (faultPlace : Int32) (lastFault : Int32) (lastPlace : Int32) (q_sF : Nat) (v_kept : Value) (undoable : Int32) (hasImage : Int32) (v_power : Value) (v_table : Value) (q_marks : Nat) (v_row : Value) (rowOf : Int32) (areSums : Int32) (isSieved : Int32) (v_lastOf : Value) (blocks : Int32) (v_inBlock : Value) (v_atQuotient : Value) (v_small : Value) (drawn : Int32) (number : Nat → Int32) (sortOf : Nat → Int32) (sF : Nat → Int32) (marks : Nat → Int32) (a1 : Int32) (Q : (Int32) → (Int32) → Prop) (h : wX11_count thrown taped lines size atF place sort value fault faultPlace lastFault lastPlace undoable hasImage rowOf areSums isSieved blocks drawn number sortOf sF marks a1 Q) : gM l D Y yX11_count cX11_count 2 (some .int) 2 42 0 0 [.ref h0, .int a1] [oX11 h0 thrown (v_tape) taped (.ref q_number) (v_isTold) (v_name) (.ref q_sortOf) (v_first) (v_second) (v_degree) (v_colours) (v_signBy) (v_own) lines size atF place sort value fault faultPlace lastFault lastPlace (.ref q_sF) (v_kept) undoable hasImage (v_power) (v_table) (.ref q_marks) (v_row) rowOf areSums isSieved (v_lastOf) blocks (v_inBlock) (v_atQuotient) (v_small) drawn, aI Y q_number 8 number, aI Y q_sortOf 24 sortOf, aI Y q_sF 74 sF, aI Y q_marks 6251 marks] (fun v w => ∃ r : Int32, ∃ thrown' : Int32, v = some (.int r) ∧ w = [oX11 h0 thrown' (v_tape) taped (.ref q_number) (v_isTold) (v_name) (.ref q_sortOf) (v_first) (v_second) (v_degree) (v_colours) (v_signBy) (v_own) lines size atF place sort value fault faultPlace lastFault lastPlace (.ref q_sF) (v_kept) undoable hasImage (v_power) (v_table) (.ref q_marks) (v_row) rowOf areSums isSieved (v_lastOf) blocks (v_inBlock) (v_atQuotient) (v_small) drawn, aI Y q_number 8 number, aI Y q_sortOf 24 sortOf, aI Y q_sF 74 sF, aI Y q_marks 6251 marks] ∧ Q r thrown') := by
  refine gM_of (own := RX11) (by decide +kernel) rfl (Nat.le_of_ble_eq_true rfl) rfl (fun E C hR => ?_)
  unfold wX11_count at h
  refine g_aload_n C dX11_count_0 0 rfl ?_
  refine g_iconst (v := 0) C dX11_count_1 rfl ?_
  refine g_put C inX11 tyX11 tyX11_ok nmX11 0 rfl rfl 0 (by decide) wF_X11_89 rfl rfl rfl (Nat.le_of_ble_eq_true rfl) (ws' := [oX11 h0 0 (v_tape) taped (.ref q_number) (v_isTold) (v_name) (.ref q_sortOf) (v_first) (v_second) (v_degree) (v_colours) (v_signBy) (v_own) lines size atF place sort value fault faultPlace lastFault lastPlace (.ref q_sF) (v_kept) undoable hasImage (v_power) (v_table) (.ref q_marks) (v_row) rowOf areSums isSieved (v_lastOf) blocks (v_inBlock) (v_atQuotient) (v_small) drawn, aI Y q_number 8 number, aI Y q_sortOf 24 sortOf, aI Y q_sF 74 sF, aI Y q_marks 6251 marks]) rfl dX11_count_2 ?_
  refine g_iload_n C dX11_count_5 1 rfl ?_
  by_cases c_1 : a1 = 0
  · replace h := h.1 c_1
    refine g_tabI (v := 0) (tgt := 48) C dX11_count_6 c_1 (by decide) (by decide) rfl (by decide) ?_
    refine g_aload_n C dX11_count_48 0 rfl ?_
    obtain ⟨P_1, hP, h⟩ := h
    refine g_callV (As := []) (rest := []) C (mX11_functions l D Y h0 0 v_tape taped q_number v_isTold v_name (.ref q_sortOf) v_first v_second v_degree v_colours v_signBy v_own lines size atF place sort value fault faultPlace lastFault lastPlace (.ref q_sF) v_kept undoable hasImage v_power v_table (.ref q_marks) v_row rowOf areSums isSieved v_lastOf blocks v_inBlock v_atQuotient v_small drawn number P_1 hP) dX11_count_49 rfl wM_X11_226 wI_X11_functions wV_X11_functions wN_X11 wC_X11_functions (n := 0) (by decide +kernel) rfl (q0 := 0) rfl rfl ⟨Nat.le_of_ble_eq_true rfl, Nat.le_of_ble_eq_true rfl⟩ ⟨Nat.le_of_ble_eq_true rfl, Nat.le_of_ble_eq_true rfl⟩ (Nat.le_of_ble_eq_true rfl) [0, 1] [2, 3, 4] rfl rfl rfl (fun v wc hv => ?_)
    obtain ⟨rF_1, rfl, rfl, hq⟩ := hv
    replace h := h rF_1 hq
    refine gG.perm (ws' := [oX11 h0 0 (v_tape) taped (.ref q_number) (v_isTold) (v_name) (.ref q_sortOf) (v_first) (v_second) (v_degree) (v_colours) (v_signBy) (v_own) lines size atF place sort value fault faultPlace lastFault lastPlace (.ref q_sF) (v_kept) undoable hasImage (v_power) (v_table) (.ref q_marks) (v_row) rowOf areSums isSieved (v_lastOf) blocks (v_inBlock) (v_atQuotient) (v_small) drawn, aI Y q_number 8 number, aI Y q_sortOf 24 sortOf, aI Y q_sF 74 sF, aI Y q_marks 6251 marks]) [3, 4, 0, 1, 2] rfl rfl ?_
    exact g_iret C hR (Nat.le_of_ble_eq_true rfl) (Nat.le_of_ble_eq_true rfl) dX11_count_52 ⟨rF_1, 0, rfl, rfl, h⟩
  · replace h := h.2 c_1
    by_cases c_2 : a1 = 1
    · replace h := h.1 c_2
      refine g_tabI (v := 1) (tgt := 53) C dX11_count_6 c_2 (by decide) (by decide) rfl (by decide) ?_
      refine g_aload_n C dX11_count_53 0 rfl ?_
      obtain ⟨P_2, hP, h⟩ := h
      refine g_callV (As := []) (rest := []) C (mX11_ownMany l D Y h0 0 v_tape taped q_number v_isTold v_name q_sortOf v_first v_second v_degree v_colours v_signBy v_own lines size atF place sort value fault faultPlace lastFault lastPlace (.ref q_sF) v_kept undoable hasImage v_power v_table (.ref q_marks) v_row rowOf areSums isSieved v_lastOf blocks v_inBlock v_atQuotient v_small drawn number sortOf P_2 hP) dX11_count_54 rfl wM_X11_362 wI_X11_ownMany wV_X11_ownMany wN_X11 wC_X11_ownMany (n := 0) (by decide +kernel) rfl (q0 := 0) rfl rfl ⟨Nat.le_of_ble_eq_true rfl, Nat.le_of_ble_eq_true rfl⟩ ⟨Nat.le_of_ble_eq_true rfl, Nat.le_of_ble_eq_true rfl⟩ (Nat.le_of_ble_eq_true rfl) [0, 1, 2] [3, 4] rfl rfl rfl (fun v wc hv => ?_)
      obtain ⟨rF_2, rfl, rfl, hq⟩ := hv
      replace h := h rF_2 hq
      refine gG.perm (ws' := [oX11 h0 0 (v_tape) taped (.ref q_number) (v_isTold) (v_name) (.ref q_sortOf) (v_first) (v_second) (v_degree) (v_colours) (v_signBy) (v_own) lines size atF place sort value fault faultPlace lastFault lastPlace (.ref q_sF) (v_kept) undoable hasImage (v_power) (v_table) (.ref q_marks) (v_row) rowOf areSums isSieved (v_lastOf) blocks (v_inBlock) (v_atQuotient) (v_small) drawn, aI Y q_number 8 number, aI Y q_sortOf 24 sortOf, aI Y q_sF 74 sF, aI Y q_marks 6251 marks]) [2, 3, 4, 0, 1] rfl rfl ?_
      exact g_iret C hR (Nat.le_of_ble_eq_true rfl) (Nat.le_of_ble_eq_true rfl) dX11_count_57 ⟨rF_2, 0, rfl, rfl, h⟩
    · replace h := h.2 c_2
      by_cases c_3 : a1 = 2
      · replace h := h.1 c_3
        refine g_tabI (v := 2) (tgt := 58) C dX11_count_6 c_3 (by decide) (by decide) rfl (by decide) ?_
        refine g_aload_n C dX11_count_58 0 rfl ?_
        refine g_get C inX11 0 rfl rfl 23 (by decide) wF_X11_48 rfl dX11_count_59 ?_
        refine g_iconst (v := 0) C dX11_count_62 rfl ?_
        refine g_iald C 3 rfl (by unfold vp_in; decide) dX11_count_63 ?_
        exact g_iret C hR (Nat.le_of_ble_eq_true rfl) (Nat.le_of_ble_eq_true rfl) dX11_count_64 ⟨sF 0, 0, rfl, rfl, h⟩
      · replace h := h.2 c_3
        by_cases c_4 : a1 = 3
        · replace h := h.1 c_4
          refine g_tabI (v := 3) (tgt := 65) C dX11_count_6 c_4 (by decide) (by decide) rfl (by decide) ?_
          refine g_aload_n C dX11_count_65 0 rfl ?_
          refine g_get C inX11 0 rfl rfl 23 (by decide) wF_X11_48 rfl dX11_count_66 ?_
          refine g_iconst (v := 1) C dX11_count_69 rfl ?_
          refine g_iald C 3 rfl (by unfold vp_in; decide) dX11_count_70 ?_
          exact g_iret C hR (Nat.le_of_ble_eq_true rfl) (Nat.le_of_ble_eq_true rfl) dX11_count_71 ⟨sF 1, 0, rfl, rfl, h⟩
        · replace h := h.2 c_4
          by_cases c_5 : a1 = 4
          · replace h := h.1 c_5
            refine g_tabI (v := 4) (tgt := 72) C dX11_count_6 c_5 (by decide) (by decide) rfl (by decide) ?_
            refine g_aload_n C dX11_count_72 0 rfl ?_
            refine g_get C inX11 0 rfl rfl 25 (by decide) wF_X11_219 rfl dX11_count_73 ?_
            exact g_iret C hR (Nat.le_of_ble_eq_true rfl) (Nat.le_of_ble_eq_true rfl) dX11_count_76 ⟨undoable, 0, rfl, rfl, h⟩
          · replace h := h.2 c_5
            by_cases c_6 : a1 = 5
            · replace h := h.1 c_6
              refine g_tabI (v := 5) (tgt := 77) C dX11_count_6 c_6 (by decide) (by decide) rfl (by decide) ?_
              refine g_aload_n C dX11_count_77 0 rfl ?_
              refine g_get C inX11 0 rfl rfl 2 (by decide) wF_X11_92 rfl dX11_count_78 ?_
              exact g_iret C hR (Nat.le_of_ble_eq_true rfl) (Nat.le_of_ble_eq_true rfl) dX11_count_81 ⟨taped, 0, rfl, rfl, h⟩
            · replace h := h.2 c_6
              by_cases c_7 : a1 = 6
              · replace h := h.1 c_7
                refine g_tabI (v := 6) (tgt := 82) C dX11_count_6 c_7 (by decide) (by decide) rfl (by decide) ?_
                refine g_aload_n C dX11_count_82 0 rfl ?_
                obtain ⟨P_3, hP, h⟩ := h
                refine g_callV (As := []) (rest := []) C (mX11_greatestPrime l D Y h0 0 v_tape taped (.ref q_number) v_isTold v_name (.ref q_sortOf) v_first v_second v_degree v_colours v_signBy v_own lines size atF place sort value fault faultPlace lastFault lastPlace q_sF v_kept undoable hasImage v_power v_table q_marks v_row rowOf areSums isSieved v_lastOf blocks v_inBlock v_atQuotient v_small drawn sF marks P_3 hP) dX11_count_83 rfl wM_X11_365 wI_X11_greatestPrime wV_X11_greatestPrime wN_X11 wC_X11_greatestPrime (n := 0) (by decide +kernel) rfl (q0 := 0) rfl rfl ⟨Nat.le_of_ble_eq_true rfl, Nat.le_of_ble_eq_true rfl⟩ ⟨Nat.le_of_ble_eq_true rfl, Nat.le_of_ble_eq_true rfl⟩ (Nat.le_of_ble_eq_true rfl) [0, 3, 4] [1, 2] rfl rfl rfl (fun v wc hv => ?_)
                obtain ⟨rF_3, rfl, rfl, hq⟩ := hv
                replace h := h rF_3 hq
                refine gG.perm (ws' := [oX11 h0 0 (v_tape) taped (.ref q_number) (v_isTold) (v_name) (.ref q_sortOf) (v_first) (v_second) (v_degree) (v_colours) (v_signBy) (v_own) lines size atF place sort value fault faultPlace lastFault lastPlace (.ref q_sF) (v_kept) undoable hasImage (v_power) (v_table) (.ref q_marks) (v_row) rowOf areSums isSieved (v_lastOf) blocks (v_inBlock) (v_atQuotient) (v_small) drawn, aI Y q_number 8 number, aI Y q_sortOf 24 sortOf, aI Y q_sF 74 sF, aI Y q_marks 6251 marks]) [2, 0, 1, 3, 4] rfl rfl ?_
                exact g_iret C hR (Nat.le_of_ble_eq_true rfl) (Nat.le_of_ble_eq_true rfl) dX11_count_86 ⟨rF_3, 0, rfl, rfl, h⟩
              · replace h := h.2 c_7
                refine g_tabO (tgt := 87) C dX11_count_6 [0, 1, 2, 3, 4, 5, 6] (by decide) (by exact ⟨c_1, c_2, c_3, c_4, c_5, c_6, c_7, trivial⟩) (by decide) ?_
                refine g_iconst (v := (-1)) C dX11_count_87 rfl ?_
                exact g_iret C hR (Nat.le_of_ble_eq_true rfl) (Nat.le_of_ble_eq_true rfl) dX11_count_88 ⟨(-1), 0, rfl, rfl, h⟩
