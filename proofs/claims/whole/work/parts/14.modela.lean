theorem dX11_reads_0 : decode cX11_reads 0 = .ok (.aload_n 0, 1) := by decide +kernel
theorem dX11_reads_1 : decode cX11_reads 1 = .ok (.getfield 13, 3) := by decide +kernel
theorem dX11_reads_4 : decode cX11_reads 4 = .ok (.iconst 4, 1) := by decide +kernel
theorem dX11_reads_5 : decode cX11_reads 5 = .ok (.iload_n 1, 1) := by decide +kernel
theorem dX11_reads_6 : decode cX11_reads 6 = .ok (.iadd, 1) := by decide +kernel
theorem dX11_reads_7 : decode cX11_reads 7 = .ok (.iload_n 2, 1) := by decide +kernel
theorem dX11_reads_8 : decode cX11_reads 8 = .ok (.iastore, 1) := by decide +kernel
theorem dX11_reads_9 : decode cX11_reads 9 = .ok (.return_, 1) := by decide +kernel
/-- QuotientSumsModel.reads(II)V -/
def wX11_reads (thrown : Int32) (taped : Int32) (lines : Int32) (size : Int32) (atF : Int32) (place : Int32) (sort : Int32) (value : Int32) (fault : Int32) (faultPlace : Int32) (lastFault : Int32) (lastPlace : Int32) (undoable : Int32) (hasImage : Int32) (rowOf : Int32) (areSums : Int32) (isSieved : Int32) (blocks : Int32) (drawn : Int32) (number : Nat → Int32) (a1 : Int32) (a2 : Int32) (Q : (Nat → Int32) → Prop) : Prop :=
  (vp_in (4 + a1) 8 ∧ ∀ number_1 : Nat → Int32, number_1 = upd number (4 + a1).toNatClampNeg a2 → (Q number_1))
set_option maxHeartbeats 4000000 in
set_option maxRecDepth 100000 in
theorem mX11_reads (l : Launch) (D : va_G) (Y : Nat → ClassId) (h0 : Nat) (thrown : Int32) (v_tape : Value) (taped : Int32) (q_number : Nat) (v_isTold : Value) (v_name : Value) (v_sortOf : Value) (v_first : Value) (v_second : Value) (v_degree : Value) (v_colours : Value) (v_signBy : Value) (v_own : Value) (lines : Int32) (size : Int32) (atF : Int32) (place : Int32) (sort : Int32) (value : Int32) (fault : Int32) (faultPlace : Int32) (lastFault : Int32) (lastPlace : Int32) (v_sF : Value) (v_kept : Value) (undoable : Int32) (hasImage : Int32) (v_power : Value) (v_table : Value) (v_marks : Value) (v_row : Value) (rowOf : Int32) (areSums : Int32) (isSieved : Int32) (v_lastOf : Value) (blocks : Int32) (v_inBlock : Value) (v_atQuotient : Value) (v_small : Value) (drawn : Int32) (number : Nat → Int32) (a1 : Int32) (a2 : Int32) (Q : (Nat → Int32) → Prop) (h : wX11_reads thrown taped lines size atF place sort value fault faultPlace lastFault lastPlace undoable hasImage rowOf areSums isSieved blocks drawn number a1 a2 Q) : gM l D Y yX11_reads cX11_reads 3 none 0 0 0 0 [.ref h0, .int a1, .int a2] [oX11 h0 thrown (v_tape) taped (.ref q_number) (v_isTold) (v_name) (v_sortOf) (v_first) (v_second) (v_degree) (v_colours) (v_signBy) (v_own) lines size atF place sort value fault faultPlace lastFault lastPlace (v_sF) (v_kept) undoable hasImage (v_power) (v_table) (v_marks) (v_row) rowOf areSums isSieved (v_lastOf) blocks (v_inBlock) (v_atQuotient) (v_small) drawn, aI Y q_number 8 number] (fun v w => ∃ number' : Nat → Int32, v = none ∧ w = [oX11 h0 thrown (v_tape) taped (.ref q_number) (v_isTold) (v_name) (v_sortOf) (v_first) (v_second) (v_degree) (v_colours) (v_signBy) (v_own) lines size atF place sort value fault faultPlace lastFault lastPlace (v_sF) (v_kept) undoable hasImage (v_power) (v_table) (v_marks) (v_row) rowOf areSums isSieved (v_lastOf) blocks (v_inBlock) (v_atQuotient) (v_small) drawn, aI Y q_number 8 number'] ∧ Q number') := by
  refine gM_of (own := RX11) (by decide +kernel) rfl (Nat.le_of_ble_eq_true rfl) rfl (fun E C hR => ?_)
  unfold wX11_reads at h
  refine g_aload_n C dX11_reads_0 0 rfl ?_
  refine g_get C inX11 0 rfl rfl 3 (by decide) wF_X11_13 rfl dX11_reads_1 ?_
  refine g_iconst (v := 4) C dX11_reads_4 rfl ?_
  refine g_iload_n C dX11_reads_5 1 rfl ?_
  refine g_iadd C dX11_reads_6 ?_
  refine g_iload_n C dX11_reads_7 2 rfl ?_
  obtain ⟨hc_1, h⟩ := h
  refine g_iast C 1 rfl hc_1 dX11_reads_8 (fun number_1 enumber_1 => gG.eqw (ws' := [oX11 h0 thrown (v_tape) taped (.ref q_number) (v_isTold) (v_name) (v_sortOf) (v_first) (v_second) (v_degree) (v_colours) (v_signBy) (v_own) lines size atF place sort value fault faultPlace lastFault lastPlace (v_sF) (v_kept) undoable hasImage (v_power) (v_table) (v_marks) (v_row) rowOf areSums isSieved (v_lastOf) blocks (v_inBlock) (v_atQuotient) (v_small) drawn, aI Y q_number 8 number_1]) rfl ?_)
  replace h := h number_1 enumber_1
  exact g_vret C hR (Nat.le_of_ble_eq_true rfl) (Nat.le_of_ble_eq_true rfl) dX11_reads_9 ⟨number_1, rfl, rfl, h⟩
theorem dX11_knownName_0 : decode cX11_knownName 0 = .ok (.iconst 0, 1) := by decide +kernel
theorem dX11_knownName_1 : decode cX11_knownName 1 = .ok (.istore_n 1, 1) := by decide +kernel
theorem dX11_knownName_2 : decode cX11_knownName 2 = .ok (.iconst 0, 1) := by decide +kernel
theorem dX11_knownName_3 : decode cX11_knownName 3 = .ok (.istore_n 2, 1) := by decide +kernel
theorem dX11_knownName_4 : decode cX11_knownName 4 = .ok (.iload_n 2, 1) := by decide +kernel
theorem dX11_knownName_5 : decode cX11_knownName 5 = .ok (.iload_n 0, 1) := by decide +kernel
theorem dX11_knownName_6 : decode cX11_knownName 6 = .ok (.if_icmp .ge 29, 3) := by decide +kernel
theorem dX11_knownName_9 : decode cX11_knownName 9 = .ok (.ldc 205, 2) := by decide +kernel
theorem dX11_knownName_11 : decode cX11_knownName 11 = .ok (.iload_n 1, 1) := by decide +kernel
theorem dX11_knownName_12 : decode cX11_knownName 12 = .ok (.invokevirtual 138, 3) := by decide +kernel
theorem dX11_knownName_15 : decode cX11_knownName 15 = .ok (.bipush 32, 2) := by decide +kernel
theorem dX11_knownName_17 : decode cX11_knownName 17 = .ok (.if_icmp .eq 9, 3) := by decide +kernel
theorem dX11_knownName_20 : decode cX11_knownName 20 = .ok (.iinc 1 1, 3) := by decide +kernel
theorem dX11_knownName_23 : decode cX11_knownName 23 = .ok (.goto (-14), 3) := by decide +kernel
theorem dX11_knownName_26 : decode cX11_knownName 26 = .ok (.iinc 1 1, 3) := by decide +kernel
theorem dX11_knownName_29 : decode cX11_knownName 29 = .ok (.iinc 2 1, 3) := by decide +kernel
theorem dX11_knownName_32 : decode cX11_knownName 32 = .ok (.goto (-28), 3) := by decide +kernel
theorem dX11_knownName_35 : decode cX11_knownName 35 = .ok (.iconst 0, 1) := by decide +kernel
theorem dX11_knownName_36 : decode cX11_knownName 36 = .ok (.istore_n 2, 1) := by decide +kernel
theorem dX11_knownName_37 : decode cX11_knownName 37 = .ok (.iconst 0, 1) := by decide +kernel
theorem dX11_knownName_38 : decode cX11_knownName 38 = .ok (.istore_n 3, 1) := by decide +kernel
theorem dX11_knownName_39 : decode cX11_knownName 39 = .ok (.ldc 205, 2) := by decide +kernel
theorem dX11_knownName_41 : decode cX11_knownName 41 = .ok (.iload_n 1, 1) := by decide +kernel
theorem dX11_knownName_42 : decode cX11_knownName 42 = .ok (.iload_n 3, 1) := by decide +kernel
theorem dX11_knownName_43 : decode cX11_knownName 43 = .ok (.iadd, 1) := by decide +kernel
theorem dX11_knownName_44 : decode cX11_knownName 44 = .ok (.invokevirtual 138, 3) := by decide +kernel
theorem dX11_knownName_47 : decode cX11_knownName 47 = .ok (.bipush 32, 2) := by decide +kernel
theorem dX11_knownName_49 : decode cX11_knownName 49 = .ok (.if_icmp .eq 27, 3) := by decide +kernel
theorem dX11_knownName_52 : decode cX11_knownName 52 = .ok (.iload_n 2, 1) := by decide +kernel
theorem dX11_knownName_53 : decode cX11_knownName 53 = .ok (.iconst 5, 1) := by decide +kernel
theorem dX11_knownName_54 : decode cX11_knownName 54 = .ok (.ishl, 1) := by decide +kernel
theorem dX11_knownName_55 : decode cX11_knownName 55 = .ok (.ldc 205, 2) := by decide +kernel
theorem dX11_knownName_57 : decode cX11_knownName 57 = .ok (.iload_n 1, 1) := by decide +kernel
theorem dX11_knownName_58 : decode cX11_knownName 58 = .ok (.iload_n 3, 1) := by decide +kernel
theorem dX11_knownName_59 : decode cX11_knownName 59 = .ok (.iadd, 1) := by decide +kernel
theorem dX11_knownName_60 : decode cX11_knownName 60 = .ok (.invokevirtual 138, 3) := by decide +kernel
theorem dX11_knownName_63 : decode cX11_knownName 63 = .ok (.bipush 97, 2) := by decide +kernel
theorem dX11_knownName_65 : decode cX11_knownName 65 = .ok (.isub, 1) := by decide +kernel
theorem dX11_knownName_66 : decode cX11_knownName 66 = .ok (.iconst 1, 1) := by decide +kernel
theorem dX11_knownName_67 : decode cX11_knownName 67 = .ok (.iadd, 1) := by decide +kernel
theorem dX11_knownName_68 : decode cX11_knownName 68 = .ok (.ior, 1) := by decide +kernel
theorem dX11_knownName_69 : decode cX11_knownName 69 = .ok (.istore_n 2, 1) := by decide +kernel
theorem dX11_knownName_70 : decode cX11_knownName 70 = .ok (.iinc 3 1, 3) := by decide +kernel
theorem dX11_knownName_73 : decode cX11_knownName 73 = .ok (.goto (-34), 3) := by decide +kernel
theorem dX11_knownName_76 : decode cX11_knownName 76 = .ok (.iload_n 2, 1) := by decide +kernel
theorem dX11_knownName_77 : decode cX11_knownName 77 = .ok (.iconst 5, 1) := by decide +kernel
theorem dX11_knownName_78 : decode cX11_knownName 78 = .ok (.bipush 6, 2) := by decide +kernel
theorem dX11_knownName_80 : decode cX11_knownName 80 = .ok (.iload_n 3, 1) := by decide +kernel
theorem dX11_knownName_81 : decode cX11_knownName 81 = .ok (.isub, 1) := by decide +kernel
theorem dX11_knownName_82 : decode cX11_knownName 82 = .ok (.imul, 1) := by decide +kernel
theorem dX11_knownName_83 : decode cX11_knownName 83 = .ok (.ishl, 1) := by decide +kernel
theorem dX11_knownName_84 : decode cX11_knownName 84 = .ok (.ireturn, 1) := by decide +kernel
/-- QuotientSumsModel.knownName(I)I -/
def wX11_knownName  (a1 : Int32) (Q : (Int32) → Prop) : Prop :=
  (∃ (Inv_1 : (Int32) → (Int32) → Prop) (Mea_1 : (Int32) → (Int32) → Nat), Inv_1 0 0 ∧ ∀ (x1_1 : Int32) (x2_1 : Int32), Inv_1 x1_1 x2_1 → ((a1 ≤ x2_1 → (∃ (Inv_2 : (Int32) → (Int32) → Prop) (Mea_2 : (Int32) → (Int32) → Nat), Inv_2 0 0 ∧ ∀ (x2_2 : Int32) (x3_1 : Int32), Inv_2 x2_2 x3_1 → (vp_in (x1_1 + x3_1) 24 ∧ (((gCh 4 (x1_1 + x3_1).toNatClampNeg) = 32 → (Q (x2_2 <<< ((5 * (6 - x3_1)) &&& 31)))) ∧ (¬ (gCh 4 (x1_1 + x3_1).toNatClampNeg) = 32 → (∀ t_1 : Int32, t_1 = (x2_2 <<< (5 &&& 31)) ||| (((gCh 4 (x1_1 + x3_1).toNatClampNeg) - 97) + 1) → (Inv_2 t_1 (x3_1 + 1) ∧ Mea_2 t_1 (x3_1 + 1) < Mea_2 x2_2 x3_1))))))) ∧ (¬ a1 ≤ x2_1 → (∃ (Inv_3 : (Int32) → Prop) (Mea_3 : (Int32) → Nat), Inv_3 x1_1 ∧ ∀ (x1_2 : Int32), Inv_3 x1_2 → (vp_in x1_2 24 ∧ (((gCh 4 x1_2.toNatClampNeg) = 32 → (Inv_1 (x1_2 + 1) (x2_1 + 1) ∧ Mea_1 (x1_2 + 1) (x2_1 + 1) < Mea_1 x1_1 x2_1)) ∧ (¬ (gCh 4 x1_2.toNatClampNeg) = 32 → (Inv_3 (x1_2 + 1) ∧ Mea_3 (x1_2 + 1) < Mea_3 x1_2))))))))
set_option maxHeartbeats 4000000 in
set_option maxRecDepth 100000 in
theorem mX11_knownName (l : Launch) (D : va_G) (Y : Nat → ClassId)   (a1 : Int32) (Q : (Int32) → Prop) (h : wX11_knownName a1 Q) : gM l D Y yX11_knownName cX11_knownName 4 (some .int) 4 85 0 0 [.int a1] [] (fun v w => ∃ r : Int32, v = some (.int r) ∧ w = [] ∧ Q r) := by
  refine gM_of (own := RX11) (by decide +kernel) rfl (Nat.le_of_ble_eq_true rfl) rfl (fun E C hR => ?_)
  unfold wX11_knownName at h
  refine g_iconst (v := 0) C dX11_knownName_0 rfl ?_
  refine g_istore_n (lv' := [(1, .int 0), (0, .int a1)]) C dX11_knownName_1 (by decide) rfl ?_
  refine g_iconst (v := 0) C dX11_knownName_2 rfl ?_
  refine g_istore_n (lv' := [(2, .int 0), (1, .int 0), (0, .int a1)]) C dX11_knownName_3 (by decide) rfl ?_
  obtain ⟨Inv_1, Mea_1, hI1, hB1⟩ := h
  have key_1 : ∀ (n : Nat) (x1_1 : Int32) (x2_1 : Int32) , Mea_1 x1_1 x2_1 < n → Inv_1 x1_1 x2_1 → gG E 0 0 [] [(0, .int a1), (1, .int x1_1), (2, .int x2_1)] [] 4 := by
    intro n
    induction n with
    | zero => exact fun _ _ hm => absurd hm (Nat.not_lt_zero _)
    | succ n ih1 =>
      intro x1_1 x2_1  hm1 hI
      have h := hB1 x1_1 x2_1 hI
      refine g_iload_n C dX11_knownName_4 2 rfl ?_
      refine g_iload_n C dX11_knownName_5 0 rfl ?_
      refine g_icmp_ge (tgt := 35) C dX11_knownName_6 (by decide) (fun c_1 => ?_) (fun c_1 => ?_)
      · replace h := h.1 c_1
        refine g_iconst (v := 0) C dX11_knownName_35 rfl ?_
        refine g_istore_n (lv' := [(2, .int 0), (0, .int a1), (1, .int x1_1)]) C dX11_knownName_36 (by decide) rfl ?_
        refine g_iconst (v := 0) C dX11_knownName_37 rfl ?_
        refine g_istore_n (lv' := [(3, .int 0), (2, .int 0), (0, .int a1), (1, .int x1_1)]) C dX11_knownName_38 (by decide) rfl ?_
        obtain ⟨Inv_2, Mea_2, hI2, hB2⟩ := h
        have key_2 : ∀ (n : Nat) (x2_2 : Int32) (x3_1 : Int32) , Mea_2 x2_2 x3_1 < n → Inv_2 x2_2 x3_1 → gG E 0 0 [] [(1, .int x1_1), (2, .int x2_2), (3, .int x3_1)] [] 39 := by
          intro n
          induction n with
          | zero => exact fun _ _ hm => absurd hm (Nat.not_lt_zero _)
          | succ n ih2 =>
            intro x2_2 x3_1  hm2 hI
            have h := hB2 x2_2 x3_1 hI
            refine g_ldcStr C (fun U hz => hz.2.2.2.2.1) dX11_knownName_39 ?_
            refine g_iload_n C dX11_knownName_41 0 rfl ?_
            refine g_iload_n C dX11_knownName_42 2 rfl ?_
            refine g_iadd C dX11_knownName_43 ?_
            obtain ⟨hc_1, h⟩ := h
            refine g_charAt C 4 (by decide) wM_X11_138 dX11_knownName_44 hc_1 ⟨Nat.le_of_ble_eq_true rfl, Nat.le_of_ble_eq_true rfl⟩ ⟨Nat.le_of_ble_eq_true rfl, Nat.le_of_ble_eq_true rfl⟩ (Nat.le_of_ble_eq_true rfl) ?_
            refine g_bipush (v := 32) C dX11_knownName_47 rfl ?_
            refine g_icmp_eq (tgt := 76) C dX11_knownName_49 (by decide) (fun c_2 => ?_) (fun c_2 => ?_)
            · replace h := h.1 c_2
              refine g_iload_n C dX11_knownName_76 1 rfl ?_
              refine g_iconst (v := 5) C dX11_knownName_77 rfl ?_
              refine g_bipush (v := 6) C dX11_knownName_78 rfl ?_
              refine g_iload_n C dX11_knownName_80 2 rfl ?_
              refine g_isub C dX11_knownName_81 ?_
              refine g_imul C dX11_knownName_82 ?_
              refine g_ishl C dX11_knownName_83 ?_
              exact g_iret C hR (Nat.le_of_ble_eq_true rfl) (Nat.le_of_ble_eq_true rfl) dX11_knownName_84 ⟨x2_2 <<< ((5 * (6 - x3_1)) &&& 31), rfl, rfl, h⟩
            · replace h := h.2 c_2
              refine g_iload_n C dX11_knownName_52 1 rfl ?_
              refine g_iconst (v := 5) C dX11_knownName_53 rfl ?_
              refine g_ishl C dX11_knownName_54 ?_
              refine g_ldcStr C (fun U hz => hz.2.2.2.2.1) dX11_knownName_55 ?_
              refine g_iload_n C dX11_knownName_57 0 rfl ?_
              refine g_iload_n C dX11_knownName_58 2 rfl ?_
              refine g_iadd C dX11_knownName_59 ?_
              refine g_charAt C 4 (by decide) wM_X11_138 dX11_knownName_60 hc_1 ⟨Nat.le_of_ble_eq_true rfl, Nat.le_of_ble_eq_true rfl⟩ ⟨Nat.le_of_ble_eq_true rfl, Nat.le_of_ble_eq_true rfl⟩ (Nat.le_of_ble_eq_true rfl) ?_
              refine g_bipush (v := 97) C dX11_knownName_63 rfl ?_
              refine g_isub C dX11_knownName_65 ?_
              refine g_iconst (v := 1) C dX11_knownName_66 rfl ?_
              refine g_iadd C dX11_knownName_67 ?_
              refine g_ior C dX11_knownName_68 ?_
              refine g_topi (fun t_1 et_1 => ?_)
              replace h := h t_1 et_1
              refine g_istore_n (lv' := [(2, .int t_1), (1, .int x1_1), (3, .int x3_1)]) C dX11_knownName_69 (by decide) rfl ?_
              refine g_iinc (v := x3_1 + 1) (lv' := [(3, .int (x3_1 + 1)), (2, .int t_1), (1, .int x1_1)]) C dX11_knownName_70 2 rfl rfl (by decide) rfl ?_
              refine g_goto (tgt := 39) C dX11_knownName_73 (by decide) ?_
              refine gG.locals (lv' := [(1, .int x1_1), (2, .int t_1), (3, .int (x3_1 + 1))]) [2, 1, 0] rfl ?_
              exact ih2 t_1 (x3_1 + 1) (Nat.lt_of_lt_of_le h.2 (Nat.le_of_lt_succ hm2)) h.1
        refine gG.locals (lv' := [(1, .int x1_1), (2, .int 0), (3, .int 0)]) [3, 1, 0] rfl ?_
        exact key_2 (Mea_2 0 0 + 1) 0 0 (Nat.lt_succ_self _) hI2
      · replace h := h.2 c_1
        obtain ⟨Inv_3, Mea_3, hI3, hB3⟩ := h
        have key_3 : ∀ (n : Nat) (x1_2 : Int32) , Mea_3 x1_2 < n → Inv_3 x1_2 → gG E 0 0 [] [(0, .int a1), (1, .int x1_2), (2, .int x2_1)] [] 9 := by
          intro n
          induction n with
          | zero => exact fun _ hm => absurd hm (Nat.not_lt_zero _)
          | succ n ih3 =>
            intro x1_2  hm3 hI
            have h := hB3 x1_2 hI
            refine g_ldcStr C (fun U hz => hz.2.2.2.2.1) dX11_knownName_9 ?_
            refine g_iload_n C dX11_knownName_11 1 rfl ?_
            obtain ⟨hc_2, h⟩ := h
            refine g_charAt C 4 (by decide) wM_X11_138 dX11_knownName_12 hc_2 ⟨Nat.le_of_ble_eq_true rfl, Nat.le_of_ble_eq_true rfl⟩ ⟨Nat.le_of_ble_eq_true rfl, Nat.le_of_ble_eq_true rfl⟩ (Nat.le_of_ble_eq_true rfl) ?_
            refine g_bipush (v := 32) C dX11_knownName_15 rfl ?_
            refine g_icmp_eq (tgt := 26) C dX11_knownName_17 (by decide) (fun c_3 => ?_) (fun c_3 => ?_)
            · replace h := h.1 c_3
              refine g_iinc (v := x1_2 + 1) (lv' := [(1, .int (x1_2 + 1)), (0, .int a1), (2, .int x2_1)]) C dX11_knownName_26 1 rfl rfl (by decide) rfl ?_
              refine g_iinc (v := x2_1 + 1) (lv' := [(2, .int (x2_1 + 1)), (1, .int (x1_2 + 1)), (0, .int a1)]) C dX11_knownName_29 2 rfl rfl (by decide) rfl ?_
              refine g_goto (tgt := 4) C dX11_knownName_32 (by decide) ?_
              refine gG.locals (lv' := [(0, .int a1), (1, .int (x1_2 + 1)), (2, .int (x2_1 + 1))]) [2, 1, 0] rfl ?_
              exact ih1 (x1_2 + 1) (x2_1 + 1) (Nat.lt_of_lt_of_le h.2 (Nat.le_of_lt_succ hm1)) h.1
            · replace h := h.2 c_3
              refine g_iinc (v := x1_2 + 1) (lv' := [(1, .int (x1_2 + 1)), (0, .int a1), (2, .int x2_1)]) C dX11_knownName_20 1 rfl rfl (by decide) rfl ?_
              refine g_goto (tgt := 9) C dX11_knownName_23 (by decide) ?_
              refine gG.locals (lv' := [(0, .int a1), (1, .int (x1_2 + 1)), (2, .int x2_1)]) [1, 0, 2] rfl ?_
              exact ih3 (x1_2 + 1) (Nat.lt_of_lt_of_le h.2 (Nat.le_of_lt_succ hm3)) h.1
        exact key_3 (Mea_3 x1_1 + 1) x1_1 (Nat.lt_succ_self _) hI3
  refine gG.locals (lv' := [(0, .int a1), (1, .int 0), (2, .int 0)]) [2, 1, 0] rfl ?_
  exact key_1 (Mea_1 0 0 + 1) 0 0 (Nat.lt_succ_self _) hI1
theorem dX11_freshText_0 : decode cX11_freshText 0 = .ok (.iconst 0, 1) := by decide +kernel
theorem dX11_freshText_1 : decode cX11_freshText 1 = .ok (.istore_n 1, 1) := by decide +kernel
theorem dX11_freshText_2 : decode cX11_freshText 2 = .ok (.iload_n 1, 1) := by decide +kernel
theorem dX11_freshText_3 : decode cX11_freshText 3 = .ok (.iconst 4, 1) := by decide +kernel
theorem dX11_freshText_4 : decode cX11_freshText 4 = .ok (.if_icmp .ge 15, 3) := by decide +kernel
theorem dX11_freshText_7 : decode cX11_freshText 7 = .ok (.aload_n 0, 1) := by decide +kernel
theorem dX11_freshText_8 : decode cX11_freshText 8 = .ok (.iload_n 1, 1) := by decide +kernel
theorem dX11_freshText_9 : decode cX11_freshText 9 = .ok (.iconst 0, 1) := by decide +kernel
theorem dX11_freshText_10 : decode cX11_freshText 10 = .ok (.invokevirtual 162, 3) := by decide +kernel
theorem dX11_freshText_13 : decode cX11_freshText 13 = .ok (.iinc 1 1, 3) := by decide +kernel
theorem dX11_freshText_16 : decode cX11_freshText 16 = .ok (.goto (-14), 3) := by decide +kernel
theorem dX11_freshText_19 : decode cX11_freshText 19 = .ok (.aload_n 0, 1) := by decide +kernel
theorem dX11_freshText_20 : decode cX11_freshText 20 = .ok (.iconst 0, 1) := by decide +kernel
theorem dX11_freshText_21 : decode cX11_freshText 21 = .ok (.sipush 1000, 3) := by decide +kernel
theorem dX11_freshText_24 : decode cX11_freshText 24 = .ok (.invokevirtual 162, 3) := by decide +kernel
theorem dX11_freshText_27 : decode cX11_freshText 27 = .ok (.aload_n 0, 1) := by decide +kernel
theorem dX11_freshText_28 : decode cX11_freshText 28 = .ok (.iconst 1, 1) := by decide +kernel
theorem dX11_freshText_29 : decode cX11_freshText 29 = .ok (.ldc 194, 2) := by decide +kernel
theorem dX11_freshText_31 : decode cX11_freshText 31 = .ok (.invokevirtual 162, 3) := by decide +kernel
theorem dX11_freshText_34 : decode cX11_freshText 34 = .ok (.iconst 0, 1) := by decide +kernel
theorem dX11_freshText_35 : decode cX11_freshText 35 = .ok (.istore_n 1, 1) := by decide +kernel
theorem dX11_freshText_36 : decode cX11_freshText 36 = .ok (.iload_n 1, 1) := by decide +kernel
theorem dX11_freshText_37 : decode cX11_freshText 37 = .ok (.bipush 9, 2) := by decide +kernel
theorem dX11_freshText_39 : decode cX11_freshText 39 = .ok (.if_icmp .ge 16, 3) := by decide +kernel
theorem dX11_freshText_42 : decode cX11_freshText 42 = .ok (.aload_n 0, 1) := by decide +kernel
theorem dX11_freshText_43 : decode cX11_freshText 43 = .ok (.getfield 16, 3) := by decide +kernel
theorem dX11_freshText_46 : decode cX11_freshText 46 = .ok (.iload_n 1, 1) := by decide +kernel
theorem dX11_freshText_47 : decode cX11_freshText 47 = .ok (.iconst 0, 1) := by decide +kernel
theorem dX11_freshText_48 : decode cX11_freshText 48 = .ok (.bastore, 1) := by decide +kernel
theorem dX11_freshText_49 : decode cX11_freshText 49 = .ok (.iinc 1 1, 3) := by decide +kernel
theorem dX11_freshText_52 : decode cX11_freshText 52 = .ok (.goto (-16), 3) := by decide +kernel
theorem dX11_freshText_55 : decode cX11_freshText 55 = .ok (.iconst 0, 1) := by decide +kernel
theorem dX11_freshText_56 : decode cX11_freshText 56 = .ok (.istore_n 1, 1) := by decide +kernel
theorem dX11_freshText_57 : decode cX11_freshText 57 = .ok (.iload_n 1, 1) := by decide +kernel
theorem dX11_freshText_58 : decode cX11_freshText 58 = .ok (.bipush 6, 2) := by decide +kernel
theorem dX11_freshText_60 : decode cX11_freshText 60 = .ok (.if_icmp .ge 103, 3) := by decide +kernel
theorem dX11_freshText_63 : decode cX11_freshText 63 = .ok (.aload_n 0, 1) := by decide +kernel
theorem dX11_freshText_64 : decode cX11_freshText 64 = .ok (.getfield 20, 3) := by decide +kernel
theorem dX11_freshText_67 : decode cX11_freshText 67 = .ok (.bipush 12, 2) := by decide +kernel
theorem dX11_freshText_69 : decode cX11_freshText 69 = .ok (.iload_n 1, 1) := by decide +kernel
theorem dX11_freshText_70 : decode cX11_freshText 70 = .ok (.iadd, 1) := by decide +kernel
theorem dX11_freshText_71 : decode cX11_freshText 71 = .ok (.iload_n 1, 1) := by decide +kernel
theorem dX11_freshText_72 : decode cX11_freshText 72 = .ok (.invokestatic 207, 3) := by decide +kernel
theorem dX11_freshText_75 : decode cX11_freshText 75 = .ok (.iastore, 1) := by decide +kernel
theorem dX11_freshText_76 : decode cX11_freshText 76 = .ok (.aload_n 0, 1) := by decide +kernel
theorem dX11_freshText_77 : decode cX11_freshText 77 = .ok (.getfield 23, 3) := by decide +kernel
theorem dX11_freshText_80 : decode cX11_freshText 80 = .ok (.bipush 12, 2) := by decide +kernel
theorem dX11_freshText_82 : decode cX11_freshText 82 = .ok (.iload_n 1, 1) := by decide +kernel
theorem dX11_freshText_83 : decode cX11_freshText 83 = .ok (.iadd, 1) := by decide +kernel
theorem dX11_freshText_84 : decode cX11_freshText 84 = .ok (.iconst 0, 1) := by decide +kernel
theorem dX11_freshText_85 : decode cX11_freshText 85 = .ok (.iastore, 1) := by decide +kernel
theorem dX11_freshText_86 : decode cX11_freshText 86 = .ok (.aload_n 0, 1) := by decide +kernel
theorem dX11_freshText_87 : decode cX11_freshText 87 = .ok (.getfield 26, 3) := by decide +kernel
theorem dX11_freshText_90 : decode cX11_freshText 90 = .ok (.bipush 12, 2) := by decide +kernel
theorem dX11_freshText_92 : decode cX11_freshText 92 = .ok (.iload_n 1, 1) := by decide +kernel
theorem dX11_freshText_93 : decode cX11_freshText 93 = .ok (.iadd, 1) := by decide +kernel
theorem dX11_freshText_94 : decode cX11_freshText 94 = .ok (.bipush (-2), 2) := by decide +kernel
theorem dX11_freshText_96 : decode cX11_freshText 96 = .ok (.iastore, 1) := by decide +kernel
theorem dX11_freshText_97 : decode cX11_freshText 97 = .ok (.aload_n 0, 1) := by decide +kernel
theorem dX11_freshText_98 : decode cX11_freshText 98 = .ok (.getfield 29, 3) := by decide +kernel
theorem dX11_freshText_101 : decode cX11_freshText 101 = .ok (.bipush 12, 2) := by decide +kernel
theorem dX11_freshText_103 : decode cX11_freshText 103 = .ok (.iload_n 1, 1) := by decide +kernel
theorem dX11_freshText_104 : decode cX11_freshText 104 = .ok (.iadd, 1) := by decide +kernel
theorem dX11_freshText_105 : decode cX11_freshText 105 = .ok (.bipush (-2), 2) := by decide +kernel
theorem dX11_freshText_107 : decode cX11_freshText 107 = .ok (.iastore, 1) := by decide +kernel
theorem dX11_freshText_108 : decode cX11_freshText 108 = .ok (.aload_n 0, 1) := by decide +kernel
theorem dX11_freshText_109 : decode cX11_freshText 109 = .ok (.getfield 32, 3) := by decide +kernel
theorem dX11_freshText_112 : decode cX11_freshText 112 = .ok (.bipush 12, 2) := by decide +kernel
theorem dX11_freshText_114 : decode cX11_freshText 114 = .ok (.iload_n 1, 1) := by decide +kernel
theorem dX11_freshText_115 : decode cX11_freshText 115 = .ok (.iadd, 1) := by decide +kernel
theorem dX11_freshText_116 : decode cX11_freshText 116 = .ok (.iload_n 1, 1) := by decide +kernel
theorem dX11_freshText_117 : decode cX11_freshText 117 = .ok (.iconst 1, 1) := by decide +kernel
theorem dX11_freshText_118 : decode cX11_freshText 118 = .ok (.if_icmp .eq 13, 3) := by decide +kernel
theorem dX11_freshText_121 : decode cX11_freshText 121 = .ok (.iload_n 1, 1) := by decide +kernel
theorem dX11_freshText_122 : decode cX11_freshText 122 = .ok (.iconst 3, 1) := by decide +kernel
theorem dX11_freshText_123 : decode cX11_freshText 123 = .ok (.if_icmp .eq 8, 3) := by decide +kernel
theorem dX11_freshText_126 : decode cX11_freshText 126 = .ok (.iload_n 1, 1) := by decide +kernel
theorem dX11_freshText_127 : decode cX11_freshText 127 = .ok (.iconst 5, 1) := by decide +kernel
theorem dX11_freshText_128 : decode cX11_freshText 128 = .ok (.if_icmp .ne 7, 3) := by decide +kernel
theorem dX11_freshText_131 : decode cX11_freshText 131 = .ok (.iconst 1, 1) := by decide +kernel
theorem dX11_freshText_132 : decode cX11_freshText 132 = .ok (.goto 4, 3) := by decide +kernel
theorem dX11_freshText_135 : decode cX11_freshText 135 = .ok (.iconst 0, 1) := by decide +kernel
theorem dX11_freshText_136 : decode cX11_freshText 136 = .ok (.iastore, 1) := by decide +kernel
theorem dX11_freshText_137 : decode cX11_freshText 137 = .ok (.aload_n 0, 1) := by decide +kernel
theorem dX11_freshText_138 : decode cX11_freshText 138 = .ok (.getfield 35, 3) := by decide +kernel
theorem dX11_freshText_141 : decode cX11_freshText 141 = .ok (.bipush 12, 2) := by decide +kernel
theorem dX11_freshText_143 : decode cX11_freshText 143 = .ok (.iload_n 1, 1) := by decide +kernel
theorem dX11_freshText_144 : decode cX11_freshText 144 = .ok (.iadd, 1) := by decide +kernel
theorem dX11_freshText_145 : decode cX11_freshText 145 = .ok (.iconst 0, 1) := by decide +kernel
theorem dX11_freshText_146 : decode cX11_freshText 146 = .ok (.iastore, 1) := by decide +kernel
theorem dX11_freshText_147 : decode cX11_freshText 147 = .ok (.aload_n 0, 1) := by decide +kernel
theorem dX11_freshText_148 : decode cX11_freshText 148 = .ok (.getfield 38, 3) := by decide +kernel
theorem dX11_freshText_151 : decode cX11_freshText 151 = .ok (.bipush 12, 2) := by decide +kernel
theorem dX11_freshText_153 : decode cX11_freshText 153 = .ok (.iload_n 1, 1) := by decide +kernel
theorem dX11_freshText_154 : decode cX11_freshText 154 = .ok (.iadd, 1) := by decide +kernel
theorem dX11_freshText_155 : decode cX11_freshText 155 = .ok (.iconst 0, 1) := by decide +kernel
theorem dX11_freshText_156 : decode cX11_freshText 156 = .ok (.iastore, 1) := by decide +kernel
theorem dX11_freshText_157 : decode cX11_freshText 157 = .ok (.iinc 1 1, 3) := by decide +kernel
theorem dX11_freshText_160 : decode cX11_freshText 160 = .ok (.goto (-103), 3) := by decide +kernel
theorem dX11_freshText_163 : decode cX11_freshText 163 = .ok (.return_, 1) := by decide +kernel
/-- QuotientSumsModel.freshText()V -/
def wX11_freshText (thrown : Int32) (taped : Int32) (lines : Int32) (size : Int32) (atF : Int32) (place : Int32) (sort : Int32) (value : Int32) (fault : Int32) (faultPlace : Int32) (lastFault : Int32) (lastPlace : Int32) (undoable : Int32) (hasImage : Int32) (rowOf : Int32) (areSums : Int32) (isSieved : Int32) (blocks : Int32) (drawn : Int32) (number : Nat → Int32) (isTold : Nat → Int32) (name : Nat → Int32) (sortOf : Nat → Int32) (first : Nat → Int32) (second : Nat → Int32) (degree : Nat → Int32) (colours : Nat → Int32) (signBy : Nat → Int32)  (Q : (Nat → Int32) → (Nat → Int32) → (Nat → Int32) → (Nat → Int32) → (Nat → Int32) → (Nat → Int32) → (Nat → Int32) → (Nat → Int32) → (Nat → Int32) → Prop) : Prop :=
  (∃ (Inv_1 : (Nat → Int32) → (Int32) → Prop) (Mea_1 : (Nat → Int32) → (Int32) → Nat), Inv_1 number 0 ∧ ∀ (number_1 : Nat → Int32) (x1_1 : Int32), Inv_1 number_1 x1_1 → ((4 ≤ x1_1 → (∃ (P_1 : (Nat → Int32) → Prop), wX11_reads thrown taped lines size atF place sort value fault faultPlace lastFault lastPlace undoable hasImage rowOf areSums isSieved blocks drawn number_1 0 1000 P_1 ∧ ∀ (number_2 : Nat → Int32), P_1 number_2 → ∃ (P_2 : (Nat → Int32) → Prop), wX11_reads thrown taped lines size atF place sort value fault faultPlace lastFault lastPlace undoable hasImage rowOf areSums isSieved blocks drawn number_2 1 1000003 P_2 ∧ ∀ (number_3 : Nat → Int32), P_2 number_3 → (∃ (Inv_2 : (Nat → Int32) → (Int32) → Prop) (Mea_2 : (Nat → Int32) → (Int32) → Nat), Inv_2 isTold 0 ∧ ∀ (isTold_1 : Nat → Int32) (x1_2 : Int32), Inv_2 isTold_1 x1_2 → ((9 ≤ x1_2 → (∃ (Inv_3 : (Nat → Int32) → (Nat → Int32) → (Nat → Int32) → (Nat → Int32) → (Nat → Int32) → (Nat → Int32) → (Nat → Int32) → (Int32) → Prop) (Mea_3 : (Nat → Int32) → (Nat → Int32) → (Nat → Int32) → (Nat → Int32) → (Nat → Int32) → (Nat → Int32) → (Nat → Int32) → (Int32) → Nat), Inv_3 colours degree first name second signBy sortOf 0 ∧ ∀ (colours_1 : Nat → Int32) (degree_1 : Nat → Int32) (first_1 : Nat → Int32) (name_1 : Nat → Int32) (second_1 : Nat → Int32) (signBy_1 : Nat → Int32) (sortOf_1 : Nat → Int32) (x1_3 : Int32), Inv_3 colours_1 degree_1 first_1 name_1 second_1 signBy_1 sortOf_1 x1_3 → ((6 ≤ x1_3 → (Q number_3 isTold_1 name_1 sortOf_1 first_1 second_1 degree_1 colours_1 signBy_1)) ∧ (¬ 6 ≤ x1_3 → (∃ (P_3 : (Int32) → Prop), wX11_knownName x1_3 P_3 ∧ ∀ (rF_1 : Int32), P_3 rF_1 → vp_in (12 + x1_3) 24 ∧ ∀ name_2 : Nat → Int32, name_2 = upd name_1 (12 + x1_3).toNatClampNeg rF_1 → ∀ sortOf_2 : Nat → Int32, sortOf_2 = upd sortOf_1 (12 + x1_3).toNatClampNeg 0 → ∀ first_2 : Nat → Int32, first_2 = upd first_1 (12 + x1_3).toNatClampNeg (-2) → ∀ second_2 : Nat → Int32, second_2 = upd second_1 (12 + x1_3).toNatClampNeg (-2) → ((x1_3 = 1 → (∀ degree_2 : Nat → Int32, degree_2 = upd degree_1 (12 + x1_3).toNatClampNeg 1 → ∀ colours_2 : Nat → Int32, colours_2 = upd colours_1 (12 + x1_3).toNatClampNeg 0 → ∀ signBy_2 : Nat → Int32, signBy_2 = upd signBy_1 (12 + x1_3).toNatClampNeg 0 → (Inv_3 colours_2 degree_2 first_2 name_2 second_2 signBy_2 sortOf_2 (x1_3 + 1) ∧ Mea_3 colours_2 degree_2 first_2 name_2 second_2 signBy_2 sortOf_2 (x1_3 + 1) < Mea_3 colours_1 degree_1 first_1 name_1 second_1 signBy_1 sortOf_1 x1_3))) ∧ (¬ x1_3 = 1 → ((x1_3 = 3 → (∀ degree_3 : Nat → Int32, degree_3 = upd degree_1 (12 + x1_3).toNatClampNeg 1 → ∀ colours_3 : Nat → Int32, colours_3 = upd colours_1 (12 + x1_3).toNatClampNeg 0 → ∀ signBy_3 : Nat → Int32, signBy_3 = upd signBy_1 (12 + x1_3).toNatClampNeg 0 → (Inv_3 colours_3 degree_3 first_2 name_2 second_2 signBy_3 sortOf_2 (x1_3 + 1) ∧ Mea_3 colours_3 degree_3 first_2 name_2 second_2 signBy_3 sortOf_2 (x1_3 + 1) < Mea_3 colours_1 degree_1 first_1 name_1 second_1 signBy_1 sortOf_1 x1_3))) ∧ (¬ x1_3 = 3 → ((¬ x1_3 = 5 → (∀ degree_4 : Nat → Int32, degree_4 = upd degree_1 (12 + x1_3).toNatClampNeg 0 → ∀ colours_4 : Nat → Int32, colours_4 = upd colours_1 (12 + x1_3).toNatClampNeg 0 → ∀ signBy_4 : Nat → Int32, signBy_4 = upd signBy_1 (12 + x1_3).toNatClampNeg 0 → (Inv_3 colours_4 degree_4 first_2 name_2 second_2 signBy_4 sortOf_2 (x1_3 + 1) ∧ Mea_3 colours_4 degree_4 first_2 name_2 second_2 signBy_4 sortOf_2 (x1_3 + 1) < Mea_3 colours_1 degree_1 first_1 name_1 second_1 signBy_1 sortOf_1 x1_3))) ∧ (x1_3 = 5 → (∀ degree_5 : Nat → Int32, degree_5 = upd degree_1 (12 + x1_3).toNatClampNeg 1 → ∀ colours_5 : Nat → Int32, colours_5 = upd colours_1 (12 + x1_3).toNatClampNeg 0 → ∀ signBy_5 : Nat → Int32, signBy_5 = upd signBy_1 (12 + x1_3).toNatClampNeg 0 → (Inv_3 colours_5 degree_5 first_2 name_2 second_2 signBy_5 sortOf_2 (x1_3 + 1) ∧ Mea_3 colours_5 degree_5 first_2 name_2 second_2 signBy_5 sortOf_2 (x1_3 + 1) < Mea_3 colours_1 degree_1 first_1 name_1 second_1 signBy_1 sortOf_1 x1_3))))))))))))) ∧ (¬ 9 ≤ x1_2 → (vp_in x1_2 9 ∧ ∀ isTold_2 : Nat → Int32, isTold_2 = upd isTold_1 x1_2.toNatClampNeg (vp_nar .boolean 0) → (Inv_2 isTold_2 (x1_2 + 1) ∧ Mea_2 isTold_2 (x1_2 + 1) < Mea_2 isTold_1 x1_2))))))) ∧ (¬ 4 ≤ x1_1 → (∃ (P_4 : (Nat → Int32) → Prop), wX11_reads thrown taped lines size atF place sort value fault faultPlace lastFault lastPlace undoable hasImage rowOf areSums isSieved blocks drawn number_1 x1_1 0 P_4 ∧ ∀ (number_4 : Nat → Int32), P_4 number_4 → (Inv_1 number_4 (x1_1 + 1) ∧ Mea_1 number_4 (x1_1 + 1) < Mea_1 number_1 x1_1)))))
set_option maxHeartbeats 4000000 in
set_option maxRecDepth 100000 in
theorem mX11_freshText (l : Launch) (D : va_G) (Y : Nat → ClassId) (h0 : Nat) (thrown : Int32) (v_tape : Value) (taped : Int32) (q_number : Nat) (q_isTold : Nat) (q_name : Nat) (q_sortOf : Nat) (q_first : Nat) (q_second : Nat) (q_degree : Nat) (q_colours : Nat) (q_signBy : Nat) (v_own : Value) (lines : Int32) (size : Int32) (atF : Int32) (place : Int32) (sort : Int32) (value : Int32) (fault : Int32) (faultPlace : Int32) (lastFault : Int32) (lastPlace : Int32) (v_sF : Value) (v_kept : Value) (undoable : Int32) (hasImage : Int32) (v_power : Value) (v_table : Value) (v_marks : Value) (v_row : Value) (rowOf : Int32) (areSums : Int32) (isSieved : Int32) (v_lastOf : Value) (blocks : Int32) (v_inBlock : Value) (v_atQuotient : Value) (v_small : Value) (drawn : Int32) (number : Nat → Int32) (isTold : Nat → Int32) (name : Nat → Int32) (sortOf : Nat → Int32) (first : Nat → Int32) (second : Nat → Int32) (degree : Nat → Int32) (colours : Nat → Int32) (signBy : Nat → Int32)  (Q : (Nat → Int32) → (Nat → Int32) → (Nat → Int32) → (Nat → Int32) → (Nat → Int32) → (Nat → Int32) → (Nat → Int32) → (Nat → Int32) → (Nat → Int32) → Prop) (h : wX11_freshText thrown taped lines size atF place sort value fault faultPlace lastFault lastPlace undoable hasImage rowOf areSums isSieved blocks drawn number isTold name sortOf first second degree colours signBy Q) : gM l D Y yX11_freshText cX11_freshText 2 none 5 108 0 0 [.ref h0] [oX11 h0 thrown (v_tape) taped (.ref q_number) (.ref q_isTold) (.ref q_name) (.ref q_sortOf) (.ref q_first) (.ref q_second) (.ref q_degree) (.ref q_colours) (.ref q_signBy) (v_own) lines size atF place sort value fault faultPlace lastFault lastPlace (v_sF) (v_kept) undoable hasImage (v_power) (v_table) (v_marks) (v_row) rowOf areSums isSieved (v_lastOf) blocks (v_inBlock) (v_atQuotient) (v_small) drawn, aI Y q_number 8 number, aZ Y q_isTold 9 isTold, aI Y q_name 24 name, aI Y q_sortOf 24 sortOf, aI Y q_first 24 first, aI Y q_second 24 second, aI Y q_degree 24 degree, aI Y q_colours 24 colours, aI Y q_signBy 24 signBy] (fun v w => ∃ number' : Nat → Int32, ∃ isTold' : Nat → Int32, ∃ name' : Nat → Int32, ∃ sortOf' : Nat → Int32, ∃ first' : Nat → Int32, ∃ second' : Nat → Int32, ∃ degree' : Nat → Int32, ∃ colours' : Nat → Int32, ∃ signBy' : Nat → Int32, v = none ∧ w = [oX11 h0 thrown (v_tape) taped (.ref q_number) (.ref q_isTold) (.ref q_name) (.ref q_sortOf) (.ref q_first) (.ref q_second) (.ref q_degree) (.ref q_colours) (.ref q_signBy) (v_own) lines size atF place sort value fault faultPlace lastFault lastPlace (v_sF) (v_kept) undoable hasImage (v_power) (v_table) (v_marks) (v_row) rowOf areSums isSieved (v_lastOf) blocks (v_inBlock) (v_atQuotient) (v_small) drawn, aI Y q_number 8 number', aZ Y q_isTold 9 isTold', aI Y q_name 24 name', aI Y q_sortOf 24 sortOf', aI Y q_first 24 first', aI Y q_second 24 second', aI Y q_degree 24 degree', aI Y q_colours 24 colours', aI Y q_signBy 24 signBy'] ∧ Q number' isTold' name' sortOf' first' second' degree' colours' signBy') := by
  refine gM_of (own := RX11) (by decide +kernel) rfl (Nat.le_of_ble_eq_true rfl) rfl (fun E C hR => ?_)
  unfold wX11_freshText at h
  refine g_iconst (v := 0) C dX11_freshText_0 rfl ?_
  refine g_istore_n (lv' := [(1, .int 0), (0, .ref h0)]) C dX11_freshText_1 (by decide) rfl ?_
  obtain ⟨Inv_1, Mea_1, hI1, hB1⟩ := h
  have key_1 : ∀ (n : Nat) (number_1 : Nat → Int32) (x1_1 : Int32) , Mea_1 number_1 x1_1 < n → Inv_1 number_1 x1_1 → gG E 0 0 [oX11 h0 thrown (v_tape) taped (.ref q_number) (.ref q_isTold) (.ref q_name) (.ref q_sortOf) (.ref q_first) (.ref q_second) (.ref q_degree) (.ref q_colours) (.ref q_signBy) (v_own) lines size atF place sort value fault faultPlace lastFault lastPlace (v_sF) (v_kept) undoable hasImage (v_power) (v_table) (v_marks) (v_row) rowOf areSums isSieved (v_lastOf) blocks (v_inBlock) (v_atQuotient) (v_small) drawn, aI Y q_number 8 number_1, aZ Y q_isTold 9 isTold, aI Y q_name 24 name, aI Y q_sortOf 24 sortOf, aI Y q_first 24 first, aI Y q_second 24 second, aI Y q_degree 24 degree, aI Y q_colours 24 colours, aI Y q_signBy 24 signBy] [(0, .ref h0), (1, .int x1_1)] [] 2 := by
    intro n
    induction n with
    | zero => exact fun _ _ hm => absurd hm (Nat.not_lt_zero _)
    | succ n ih1 =>
      intro number_1 x1_1  hm1 hI
      have h := hB1 number_1 x1_1 hI
      refine g_iload_n C dX11_freshText_2 1 rfl ?_
      refine g_iconst (v := 4) C dX11_freshText_3 rfl ?_
      refine g_icmp_ge (tgt := 19) C dX11_freshText_4 (by decide) (fun c_1 => ?_) (fun c_1 => ?_)
      · replace h := h.1 c_1
        refine g_aload_n C dX11_freshText_19 0 rfl ?_
        refine g_iconst (v := 0) C dX11_freshText_20 rfl ?_
        refine g_sipush (v := 1000) C dX11_freshText_21 rfl ?_
        obtain ⟨P_1, hP, h⟩ := h
        refine g_callV (As := [.int 0, .int 1000]) (rest := []) C (mX11_reads l D Y h0 thrown v_tape taped q_number (.ref q_isTold) (.ref q_name) (.ref q_sortOf) (.ref q_first) (.ref q_second) (.ref q_degree) (.ref q_colours) (.ref q_signBy) v_own lines size atF place sort value fault faultPlace lastFault lastPlace v_sF v_kept undoable hasImage v_power v_table v_marks v_row rowOf areSums isSieved v_lastOf blocks v_inBlock v_atQuotient v_small drawn number_1 0 1000 P_1 hP) dX11_freshText_24 rfl wM_X11_162 wI_X11_reads wV_X11_reads wN_X11 wC_X11_reads (n := 2) (by decide +kernel) rfl (q0 := 0) rfl rfl ⟨Nat.le_of_ble_eq_true rfl, Nat.le_of_ble_eq_true rfl⟩ ⟨Nat.le_of_ble_eq_true rfl, Nat.le_of_ble_eq_true rfl⟩ (Nat.le_of_ble_eq_true rfl) [0, 1] [2, 3, 4, 5, 6, 7, 8, 9] rfl rfl rfl (fun v wc hv => ?_)
        obtain ⟨number_2, rfl, rfl, hq⟩ := hv
        replace h := h number_2 hq
        refine gG.perm (ws' := [oX11 h0 thrown (v_tape) taped (.ref q_number) (.ref q_isTold) (.ref q_name) (.ref q_sortOf) (.ref q_first) (.ref q_second) (.ref q_degree) (.ref q_colours) (.ref q_signBy) (v_own) lines size atF place sort value fault faultPlace lastFault lastPlace (v_sF) (v_kept) undoable hasImage (v_power) (v_table) (v_marks) (v_row) rowOf areSums isSieved (v_lastOf) blocks (v_inBlock) (v_atQuotient) (v_small) drawn, aI Y q_number 8 number_2, aZ Y q_isTold 9 isTold, aI Y q_name 24 name, aI Y q_sortOf 24 sortOf, aI Y q_first 24 first, aI Y q_second 24 second, aI Y q_degree 24 degree, aI Y q_colours 24 colours, aI Y q_signBy 24 signBy]) [8, 9, 0, 1, 2, 3, 4, 5, 6, 7] rfl rfl ?_
        refine g_aload_n C dX11_freshText_27 0 rfl ?_
        refine g_iconst (v := 1) C dX11_freshText_28 rfl ?_
        refine g_ldc C dX11_freshText_29 wK_X11_194 ?_
        obtain ⟨P_2, hP, h⟩ := h
        refine g_callV (As := [.int 1, .int 1000003]) (rest := []) C (mX11_reads l D Y h0 thrown v_tape taped q_number (.ref q_isTold) (.ref q_name) (.ref q_sortOf) (.ref q_first) (.ref q_second) (.ref q_degree) (.ref q_colours) (.ref q_signBy) v_own lines size atF place sort value fault faultPlace lastFault lastPlace v_sF v_kept undoable hasImage v_power v_table v_marks v_row rowOf areSums isSieved v_lastOf blocks v_inBlock v_atQuotient v_small drawn number_2 1 1000003 P_2 hP) dX11_freshText_31 rfl wM_X11_162 wI_X11_reads wV_X11_reads wN_X11 wC_X11_reads (n := 2) (by decide +kernel) rfl (q0 := 0) rfl rfl ⟨Nat.le_of_ble_eq_true rfl, Nat.le_of_ble_eq_true rfl⟩ ⟨Nat.le_of_ble_eq_true rfl, Nat.le_of_ble_eq_true rfl⟩ (Nat.le_of_ble_eq_true rfl) [0, 1] [2, 3, 4, 5, 6, 7, 8, 9] rfl rfl rfl (fun v wc hv => ?_)
        obtain ⟨number_3, rfl, rfl, hq⟩ := hv
        replace h := h number_3 hq
        refine gG.perm (ws' := [oX11 h0 thrown (v_tape) taped (.ref q_number) (.ref q_isTold) (.ref q_name) (.ref q_sortOf) (.ref q_first) (.ref q_second) (.ref q_degree) (.ref q_colours) (.ref q_signBy) (v_own) lines size atF place sort value fault faultPlace lastFault lastPlace (v_sF) (v_kept) undoable hasImage (v_power) (v_table) (v_marks) (v_row) rowOf areSums isSieved (v_lastOf) blocks (v_inBlock) (v_atQuotient) (v_small) drawn, aI Y q_number 8 number_3, aZ Y q_isTold 9 isTold, aI Y q_name 24 name, aI Y q_sortOf 24 sortOf, aI Y q_first 24 first, aI Y q_second 24 second, aI Y q_degree 24 degree, aI Y q_colours 24 colours, aI Y q_signBy 24 signBy]) [8, 9, 0, 1, 2, 3, 4, 5, 6, 7] rfl rfl ?_
        refine g_iconst (v := 0) C dX11_freshText_34 rfl ?_
        refine g_istore_n (lv' := [(1, .int 0), (0, .ref h0)]) C dX11_freshText_35 (by decide) rfl ?_
        obtain ⟨Inv_2, Mea_2, hI2, hB2⟩ := h
        have key_2 : ∀ (n : Nat) (isTold_1 : Nat → Int32) (x1_2 : Int32) , Mea_2 isTold_1 x1_2 < n → Inv_2 isTold_1 x1_2 → gG E 0 0 [oX11 h0 thrown (v_tape) taped (.ref q_number) (.ref q_isTold) (.ref q_name) (.ref q_sortOf) (.ref q_first) (.ref q_second) (.ref q_degree) (.ref q_colours) (.ref q_signBy) (v_own) lines size atF place sort value fault faultPlace lastFault lastPlace (v_sF) (v_kept) undoable hasImage (v_power) (v_table) (v_marks) (v_row) rowOf areSums isSieved (v_lastOf) blocks (v_inBlock) (v_atQuotient) (v_small) drawn, aI Y q_number 8 number_3, aZ Y q_isTold 9 isTold_1, aI Y q_name 24 name, aI Y q_sortOf 24 sortOf, aI Y q_first 24 first, aI Y q_second 24 second, aI Y q_degree 24 degree, aI Y q_colours 24 colours, aI Y q_signBy 24 signBy] [(0, .ref h0), (1, .int x1_2)] [] 36 := by
          intro n
          induction n with
          | zero => exact fun _ _ hm => absurd hm (Nat.not_lt_zero _)
          | succ n ih2 =>
            intro isTold_1 x1_2  hm2 hI
            have h := hB2 isTold_1 x1_2 hI
            refine g_iload_n C dX11_freshText_36 1 rfl ?_
            refine g_bipush (v := 9) C dX11_freshText_37 rfl ?_
            refine g_icmp_ge (tgt := 55) C dX11_freshText_39 (by decide) (fun c_2 => ?_) (fun c_2 => ?_)
            · replace h := h.1 c_2
              refine g_iconst (v := 0) C dX11_freshText_55 rfl ?_
              refine g_istore_n (lv' := [(1, .int 0), (0, .ref h0)]) C dX11_freshText_56 (by decide) rfl ?_
              obtain ⟨Inv_3, Mea_3, hI3, hB3⟩ := h
              have key_3 : ∀ (n : Nat) (colours_1 : Nat → Int32) (degree_1 : Nat → Int32) (first_1 : Nat → Int32) (name_1 : Nat → Int32) (second_1 : Nat → Int32) (signBy_1 : Nat → Int32) (sortOf_1 : Nat → Int32) (x1_3 : Int32) , Mea_3 colours_1 degree_1 first_1 name_1 second_1 signBy_1 sortOf_1 x1_3 < n → Inv_3 colours_1 degree_1 first_1 name_1 second_1 signBy_1 sortOf_1 x1_3 → gG E 0 0 [oX11 h0 thrown (v_tape) taped (.ref q_number) (.ref q_isTold) (.ref q_name) (.ref q_sortOf) (.ref q_first) (.ref q_second) (.ref q_degree) (.ref q_colours) (.ref q_signBy) (v_own) lines size atF place sort value fault faultPlace lastFault lastPlace (v_sF) (v_kept) undoable hasImage (v_power) (v_table) (v_marks) (v_row) rowOf areSums isSieved (v_lastOf) blocks (v_inBlock) (v_atQuotient) (v_small) drawn, aI Y q_number 8 number_3, aZ Y q_isTold 9 isTold_1, aI Y q_name 24 name_1, aI Y q_sortOf 24 sortOf_1, aI Y q_first 24 first_1, aI Y q_second 24 second_1, aI Y q_degree 24 degree_1, aI Y q_colours 24 colours_1, aI Y q_signBy 24 signBy_1] [(0, .ref h0), (1, .int x1_3)] [] 57 := by
                intro n
                induction n with
                | zero => exact fun _ _ _ _ _ _ _ _ hm => absurd hm (Nat.not_lt_zero _)
                | succ n ih3 =>
                  intro colours_1 degree_1 first_1 name_1 second_1 signBy_1 sortOf_1 x1_3  hm3 hI
                  have h := hB3 colours_1 degree_1 first_1 name_1 second_1 signBy_1 sortOf_1 x1_3 hI
                  refine g_iload_n C dX11_freshText_57 1 rfl ?_
                  refine g_bipush (v := 6) C dX11_freshText_58 rfl ?_
                  refine g_icmp_ge (tgt := 163) C dX11_freshText_60 (by decide) (fun c_3 => ?_) (fun c_3 => ?_)
                  · replace h := h.1 c_3
                    exact g_vret C hR (Nat.le_of_ble_eq_true rfl) (Nat.le_of_ble_eq_true rfl) dX11_freshText_163 ⟨number_3, isTold_1, name_1, sortOf_1, first_1, second_1, degree_1, colours_1, signBy_1, rfl, rfl, h⟩
                  · replace h := h.2 c_3
                    refine g_aload_n C dX11_freshText_63 0 rfl ?_
                    refine g_get C inX11 0 rfl rfl 5 (by decide) wF_X11_20 rfl dX11_freshText_64 ?_
                    refine g_bipush (v := 12) C dX11_freshText_67 rfl ?_
                    refine g_iload_n C dX11_freshText_69 1 rfl ?_
                    refine g_iadd C dX11_freshText_70 ?_
                    refine g_iload_n C dX11_freshText_71 1 rfl ?_
                    obtain ⟨P_3, hP, h⟩ := h
                    refine g_callS (As := [.int x1_3]) (rest := [.int (12 + x1_3), .ref q_name]) C (mX11_knownName l D Y x1_3 P_3 hP) dX11_freshText_72 rfl wM_X11_207 wS_X11_knownName wN_X11 wC_X11_knownName (n := 1) (by decide +kernel) rfl ⟨Nat.le_of_ble_eq_true rfl, Nat.le_of_ble_eq_true rfl⟩ ⟨Nat.le_of_ble_eq_true rfl, Nat.le_of_ble_eq_true rfl⟩ (Nat.le_of_ble_eq_true rfl) [] [0, 1, 2, 3, 4, 5, 6, 7, 8, 9] rfl rfl rfl (fun v wc hv => ?_)
                    obtain ⟨rF_1, rfl, rfl, hq⟩ := hv
                    replace h := h rF_1 hq
                    refine gG.eqw (ws' := [oX11 h0 thrown (v_tape) taped (.ref q_number) (.ref q_isTold) (.ref q_name) (.ref q_sortOf) (.ref q_first) (.ref q_second) (.ref q_degree) (.ref q_colours) (.ref q_signBy) (v_own) lines size atF place sort value fault faultPlace lastFault lastPlace (v_sF) (v_kept) undoable hasImage (v_power) (v_table) (v_marks) (v_row) rowOf areSums isSieved (v_lastOf) blocks (v_inBlock) (v_atQuotient) (v_small) drawn, aI Y q_number 8 number_3, aZ Y q_isTold 9 isTold_1, aI Y q_name 24 name_1, aI Y q_sortOf 24 sortOf_1, aI Y q_first 24 first_1, aI Y q_second 24 second_1, aI Y q_degree 24 degree_1, aI Y q_colours 24 colours_1, aI Y q_signBy 24 signBy_1]) rfl ?_
                    obtain ⟨hc_1, h⟩ := h
                    refine g_iast C 3 rfl hc_1 dX11_freshText_75 (fun name_2 ename_2 => gG.eqw (ws' := [oX11 h0 thrown (v_tape) taped (.ref q_number) (.ref q_isTold) (.ref q_name) (.ref q_sortOf) (.ref q_first) (.ref q_second) (.ref q_degree) (.ref q_colours) (.ref q_signBy) (v_own) lines size atF place sort value fault faultPlace lastFault lastPlace (v_sF) (v_kept) undoable hasImage (v_power) (v_table) (v_marks) (v_row) rowOf areSums isSieved (v_lastOf) blocks (v_inBlock) (v_atQuotient) (v_small) drawn, aI Y q_number 8 number_3, aZ Y q_isTold 9 isTold_1, aI Y q_name 24 name_2, aI Y q_sortOf 24 sortOf_1, aI Y q_first 24 first_1, aI Y q_second 24 second_1, aI Y q_degree 24 degree_1, aI Y q_colours 24 colours_1, aI Y q_signBy 24 signBy_1]) rfl ?_)
                    replace h := h name_2 ename_2
                    refine g_aload_n C dX11_freshText_76 0 rfl ?_
                    refine g_get C inX11 0 rfl rfl 6 (by decide) wF_X11_23 rfl dX11_freshText_77 ?_
                    refine g_bipush (v := 12) C dX11_freshText_80 rfl ?_
                    refine g_iload_n C dX11_freshText_82 1 rfl ?_
                    refine g_iadd C dX11_freshText_83 ?_
                    refine g_iconst (v := 0) C dX11_freshText_84 rfl ?_
                    refine g_iast C 4 rfl hc_1 dX11_freshText_85 (fun sortOf_2 esortOf_2 => gG.eqw (ws' := [oX11 h0 thrown (v_tape) taped (.ref q_number) (.ref q_isTold) (.ref q_name) (.ref q_sortOf) (.ref q_first) (.ref q_second) (.ref q_degree) (.ref q_colours) (.ref q_signBy) (v_own) lines size atF place sort value fault faultPlace lastFault lastPlace (v_sF) (v_kept) undoable hasImage (v_power) (v_table) (v_marks) (v_row) rowOf areSums isSieved (v_lastOf) blocks (v_inBlock) (v_atQuotient) (v_small) drawn, aI Y q_number 8 number_3, aZ Y q_isTold 9 isTold_1, aI Y q_name 24 name_2, aI Y q_sortOf 24 sortOf_2, aI Y q_first 24 first_1, aI Y q_second 24 second_1, aI Y q_degree 24 degree_1, aI Y q_colours 24 colours_1, aI Y q_signBy 24 signBy_1]) rfl ?_)
                    replace h := h sortOf_2 esortOf_2
                    refine g_aload_n C dX11_freshText_86 0 rfl ?_
                    refine g_get C inX11 0 rfl rfl 7 (by decide) wF_X11_26 rfl dX11_freshText_87 ?_
                    refine g_bipush (v := 12) C dX11_freshText_90 rfl ?_
                    refine g_iload_n C dX11_freshText_92 1 rfl ?_
                    refine g_iadd C dX11_freshText_93 ?_
                    refine g_bipush (v := (-2)) C dX11_freshText_94 rfl ?_
                    refine g_iast C 5 rfl hc_1 dX11_freshText_96 (fun first_2 efirst_2 => gG.eqw (ws' := [oX11 h0 thrown (v_tape) taped (.ref q_number) (.ref q_isTold) (.ref q_name) (.ref q_sortOf) (.ref q_first) (.ref q_second) (.ref q_degree) (.ref q_colours) (.ref q_signBy) (v_own) lines size atF place sort value fault faultPlace lastFault lastPlace (v_sF) (v_kept) undoable hasImage (v_power) (v_table) (v_marks) (v_row) rowOf areSums isSieved (v_lastOf) blocks (v_inBlock) (v_atQuotient) (v_small) drawn, aI Y q_number 8 number_3, aZ Y q_isTold 9 isTold_1, aI Y q_name 24 name_2, aI Y q_sortOf 24 sortOf_2, aI Y q_first 24 first_2, aI Y q_second 24 second_1, aI Y q_degree 24 degree_1, aI Y q_colours 24 colours_1, aI Y q_signBy 24 signBy_1]) rfl ?_)
                    replace h := h first_2 efirst_2
                    refine g_aload_n C dX11_freshText_97 0 rfl ?_
                    refine g_get C inX11 0 rfl rfl 8 (by decide) wF_X11_29 rfl dX11_freshText_98 ?_
                    refine g_bipush (v := 12) C dX11_freshText_101 rfl ?_
                    refine g_iload_n C dX11_freshText_103 1 rfl ?_
                    refine g_iadd C dX11_freshText_104 ?_
                    refine g_bipush (v := (-2)) C dX11_freshText_105 rfl ?_
                    refine g_iast C 6 rfl hc_1 dX11_freshText_107 (fun second_2 esecond_2 => gG.eqw (ws' := [oX11 h0 thrown (v_tape) taped (.ref q_number) (.ref q_isTold) (.ref q_name) (.ref q_sortOf) (.ref q_first) (.ref q_second) (.ref q_degree) (.ref q_colours) (.ref q_signBy) (v_own) lines size atF place sort value fault faultPlace lastFault lastPlace (v_sF) (v_kept) undoable hasImage (v_power) (v_table) (v_marks) (v_row) rowOf areSums isSieved (v_lastOf) blocks (v_inBlock) (v_atQuotient) (v_small) drawn, aI Y q_number 8 number_3, aZ Y q_isTold 9 isTold_1, aI Y q_name 24 name_2, aI Y q_sortOf 24 sortOf_2, aI Y q_first 24 first_2, aI Y q_second 24 second_2, aI Y q_degree 24 degree_1, aI Y q_colours 24 colours_1, aI Y q_signBy 24 signBy_1]) rfl ?_)
                    replace h := h second_2 esecond_2
                    refine g_aload_n C dX11_freshText_108 0 rfl ?_
                    refine g_get C inX11 0 rfl rfl 9 (by decide) wF_X11_32 rfl dX11_freshText_109 ?_
                    refine g_bipush (v := 12) C dX11_freshText_112 rfl ?_
                    refine g_iload_n C dX11_freshText_114 1 rfl ?_
                    refine g_iadd C dX11_freshText_115 ?_
                    refine g_iload_n C dX11_freshText_116 1 rfl ?_
                    refine g_iconst (v := 1) C dX11_freshText_117 rfl ?_
                    refine g_icmp_eq (tgt := 131) C dX11_freshText_118 (by decide) (fun c_4 => ?_) (fun c_4 => ?_)
                    · replace h := h.1 c_4
                      refine g_iconst (v := 1) C dX11_freshText_131 rfl ?_
                      refine g_goto (tgt := 136) C dX11_freshText_132 (by decide) ?_
                      refine g_iast C 7 rfl hc_1 dX11_freshText_136 (fun degree_2 edegree_2 => gG.eqw (ws' := [oX11 h0 thrown (v_tape) taped (.ref q_number) (.ref q_isTold) (.ref q_name) (.ref q_sortOf) (.ref q_first) (.ref q_second) (.ref q_degree) (.ref q_colours) (.ref q_signBy) (v_own) lines size atF place sort value fault faultPlace lastFault lastPlace (v_sF) (v_kept) undoable hasImage (v_power) (v_table) (v_marks) (v_row) rowOf areSums isSieved (v_lastOf) blocks (v_inBlock) (v_atQuotient) (v_small) drawn, aI Y q_number 8 number_3, aZ Y q_isTold 9 isTold_1, aI Y q_name 24 name_2, aI Y q_sortOf 24 sortOf_2, aI Y q_first 24 first_2, aI Y q_second 24 second_2, aI Y q_degree 24 degree_2, aI Y q_colours 24 colours_1, aI Y q_signBy 24 signBy_1]) rfl ?_)
                      replace h := h degree_2 edegree_2
                      refine g_aload_n C dX11_freshText_137 0 rfl ?_
                      refine g_get C inX11 0 rfl rfl 10 (by decide) wF_X11_35 rfl dX11_freshText_138 ?_
                      refine g_bipush (v := 12) C dX11_freshText_141 rfl ?_
                      refine g_iload_n C dX11_freshText_143 1 rfl ?_
                      refine g_iadd C dX11_freshText_144 ?_
                      refine g_iconst (v := 0) C dX11_freshText_145 rfl ?_
                      refine g_iast C 8 rfl hc_1 dX11_freshText_146 (fun colours_2 ecolours_2 => gG.eqw (ws' := [oX11 h0 thrown (v_tape) taped (.ref q_number) (.ref q_isTold) (.ref q_name) (.ref q_sortOf) (.ref q_first) (.ref q_second) (.ref q_degree) (.ref q_colours) (.ref q_signBy) (v_own) lines size atF place sort value fault faultPlace lastFault lastPlace (v_sF) (v_kept) undoable hasImage (v_power) (v_table) (v_marks) (v_row) rowOf areSums isSieved (v_lastOf) blocks (v_inBlock) (v_atQuotient) (v_small) drawn, aI Y q_number 8 number_3, aZ Y q_isTold 9 isTold_1, aI Y q_name 24 name_2, aI Y q_sortOf 24 sortOf_2, aI Y q_first 24 first_2, aI Y q_second 24 second_2, aI Y q_degree 24 degree_2, aI Y q_colours 24 colours_2, aI Y q_signBy 24 signBy_1]) rfl ?_)
                      replace h := h colours_2 ecolours_2
                      refine g_aload_n C dX11_freshText_147 0 rfl ?_
                      refine g_get C inX11 0 rfl rfl 11 (by decide) wF_X11_38 rfl dX11_freshText_148 ?_
                      refine g_bipush (v := 12) C dX11_freshText_151 rfl ?_
                      refine g_iload_n C dX11_freshText_153 1 rfl ?_
                      refine g_iadd C dX11_freshText_154 ?_
                      refine g_iconst (v := 0) C dX11_freshText_155 rfl ?_
                      refine g_iast C 9 rfl hc_1 dX11_freshText_156 (fun signBy_2 esignBy_2 => gG.eqw (ws' := [oX11 h0 thrown (v_tape) taped (.ref q_number) (.ref q_isTold) (.ref q_name) (.ref q_sortOf) (.ref q_first) (.ref q_second) (.ref q_degree) (.ref q_colours) (.ref q_signBy) (v_own) lines size atF place sort value fault faultPlace lastFault lastPlace (v_sF) (v_kept) undoable hasImage (v_power) (v_table) (v_marks) (v_row) rowOf areSums isSieved (v_lastOf) blocks (v_inBlock) (v_atQuotient) (v_small) drawn, aI Y q_number 8 number_3, aZ Y q_isTold 9 isTold_1, aI Y q_name 24 name_2, aI Y q_sortOf 24 sortOf_2, aI Y q_first 24 first_2, aI Y q_second 24 second_2, aI Y q_degree 24 degree_2, aI Y q_colours 24 colours_2, aI Y q_signBy 24 signBy_2]) rfl ?_)
                      replace h := h signBy_2 esignBy_2
                      refine g_iinc (v := x1_3 + 1) (lv' := [(1, .int (x1_3 + 1)), (0, .ref h0)]) C dX11_freshText_157 1 rfl rfl (by decide) rfl ?_
                      refine g_goto (tgt := 57) C dX11_freshText_160 (by decide) ?_
                      refine gG.locals (lv' := [(0, .ref h0), (1, .int (x1_3 + 1))]) [1, 0] rfl ?_
                      exact ih3 colours_2 degree_2 first_2 name_2 second_2 signBy_2 sortOf_2 (x1_3 + 1) (Nat.lt_of_lt_of_le h.2 (Nat.le_of_lt_succ hm3)) h.1
                    · replace h := h.2 c_4
                      refine g_iload_n C dX11_freshText_121 1 rfl ?_
                      refine g_iconst (v := 3) C dX11_freshText_122 rfl ?_
                      refine g_icmp_eq (tgt := 131) C dX11_freshText_123 (by decide) (fun c_5 => ?_) (fun c_5 => ?_)
                      · replace h := h.1 c_5
                        refine g_iconst (v := 1) C dX11_freshText_131 rfl ?_
                        refine g_goto (tgt := 136) C dX11_freshText_132 (by decide) ?_
                        refine g_iast C 7 rfl hc_1 dX11_freshText_136 (fun degree_3 edegree_3 => gG.eqw (ws' := [oX11 h0 thrown (v_tape) taped (.ref q_number) (.ref q_isTold) (.ref q_name) (.ref q_sortOf) (.ref q_first) (.ref q_second) (.ref q_degree) (.ref q_colours) (.ref q_signBy) (v_own) lines size atF place sort value fault faultPlace lastFault lastPlace (v_sF) (v_kept) undoable hasImage (v_power) (v_table) (v_marks) (v_row) rowOf areSums isSieved (v_lastOf) blocks (v_inBlock) (v_atQuotient) (v_small) drawn, aI Y q_number 8 number_3, aZ Y q_isTold 9 isTold_1, aI Y q_name 24 name_2, aI Y q_sortOf 24 sortOf_2, aI Y q_first 24 first_2, aI Y q_second 24 second_2, aI Y q_degree 24 degree_3, aI Y q_colours 24 colours_1, aI Y q_signBy 24 signBy_1]) rfl ?_)
                        replace h := h degree_3 edegree_3
                        refine g_aload_n C dX11_freshText_137 0 rfl ?_
                        refine g_get C inX11 0 rfl rfl 10 (by decide) wF_X11_35 rfl dX11_freshText_138 ?_
                        refine g_bipush (v := 12) C dX11_freshText_141 rfl ?_
                        refine g_iload_n C dX11_freshText_143 1 rfl ?_
                        refine g_iadd C dX11_freshText_144 ?_
                        refine g_iconst (v := 0) C dX11_freshText_145 rfl ?_
                        refine g_iast C 8 rfl hc_1 dX11_freshText_146 (fun colours_3 ecolours_3 => gG.eqw (ws' := [oX11 h0 thrown (v_tape) taped (.ref q_number) (.ref q_isTold) (.ref q_name) (.ref q_sortOf) (.ref q_first) (.ref q_second) (.ref q_degree) (.ref q_colours) (.ref q_signBy) (v_own) lines size atF place sort value fault faultPlace lastFault lastPlace (v_sF) (v_kept) undoable hasImage (v_power) (v_table) (v_marks) (v_row) rowOf areSums isSieved (v_lastOf) blocks (v_inBlock) (v_atQuotient) (v_small) drawn, aI Y q_number 8 number_3, aZ Y q_isTold 9 isTold_1, aI Y q_name 24 name_2, aI Y q_sortOf 24 sortOf_2, aI Y q_first 24 first_2, aI Y q_second 24 second_2, aI Y q_degree 24 degree_3, aI Y q_colours 24 colours_3, aI Y q_signBy 24 signBy_1]) rfl ?_)
                        replace h := h colours_3 ecolours_3
                        refine g_aload_n C dX11_freshText_147 0 rfl ?_
                        refine g_get C inX11 0 rfl rfl 11 (by decide) wF_X11_38 rfl dX11_freshText_148 ?_
                        refine g_bipush (v := 12) C dX11_freshText_151 rfl ?_
                        refine g_iload_n C dX11_freshText_153 1 rfl ?_
                        refine g_iadd C dX11_freshText_154 ?_
                        refine g_iconst (v := 0) C dX11_freshText_155 rfl ?_
                        refine g_iast C 9 rfl hc_1 dX11_freshText_156 (fun signBy_3 esignBy_3 => gG.eqw (ws' := [oX11 h0 thrown (v_tape) taped (.ref q_number) (.ref q_isTold) (.ref q_name) (.ref q_sortOf) (.ref q_first) (.ref q_second) (.ref q_degree) (.ref q_colours) (.ref q_signBy) (v_own) lines size atF place sort value fault faultPlace lastFault lastPlace (v_sF) (v_kept) undoable hasImage (v_power) (v_table) (v_marks) (v_row) rowOf areSums isSieved (v_lastOf) blocks (v_inBlock) (v_atQuotient) (v_small) drawn, aI Y q_number 8 number_3, aZ Y q_isTold 9 isTold_1, aI Y q_name 24 name_2, aI Y q_sortOf 24 sortOf_2, aI Y q_first 24 first_2, aI Y q_second 24 second_2, aI Y q_degree 24 degree_3, aI Y q_colours 24 colours_3, aI Y q_signBy 24 signBy_3]) rfl ?_)
                        replace h := h signBy_3 esignBy_3
                        refine g_iinc (v := x1_3 + 1) (lv' := [(1, .int (x1_3 + 1)), (0, .ref h0)]) C dX11_freshText_157 1 rfl rfl (by decide) rfl ?_
                        refine g_goto (tgt := 57) C dX11_freshText_160 (by decide) ?_
                        refine gG.locals (lv' := [(0, .ref h0), (1, .int (x1_3 + 1))]) [1, 0] rfl ?_
                        exact ih3 colours_3 degree_3 first_2 name_2 second_2 signBy_3 sortOf_2 (x1_3 + 1) (Nat.lt_of_lt_of_le h.2 (Nat.le_of_lt_succ hm3)) h.1
                      · replace h := h.2 c_5
                        refine g_iload_n C dX11_freshText_126 1 rfl ?_
                        refine g_iconst (v := 5) C dX11_freshText_127 rfl ?_
                        refine g_icmp_ne (tgt := 135) C dX11_freshText_128 (by decide) (fun c_6 => ?_) (fun c_6 => ?_)
                        · replace h := h.1 c_6
                          refine g_iconst (v := 0) C dX11_freshText_135 rfl ?_
                          refine g_iast C 7 rfl hc_1 dX11_freshText_136 (fun degree_4 edegree_4 => gG.eqw (ws' := [oX11 h0 thrown (v_tape) taped (.ref q_number) (.ref q_isTold) (.ref q_name) (.ref q_sortOf) (.ref q_first) (.ref q_second) (.ref q_degree) (.ref q_colours) (.ref q_signBy) (v_own) lines size atF place sort value fault faultPlace lastFault lastPlace (v_sF) (v_kept) undoable hasImage (v_power) (v_table) (v_marks) (v_row) rowOf areSums isSieved (v_lastOf) blocks (v_inBlock) (v_atQuotient) (v_small) drawn, aI Y q_number 8 number_3, aZ Y q_isTold 9 isTold_1, aI Y q_name 24 name_2, aI Y q_sortOf 24 sortOf_2, aI Y q_first 24 first_2, aI Y q_second 24 second_2, aI Y q_degree 24 degree_4, aI Y q_colours 24 colours_1, aI Y q_signBy 24 signBy_1]) rfl ?_)
                          replace h := h degree_4 edegree_4
                          refine g_aload_n C dX11_freshText_137 0 rfl ?_
                          refine g_get C inX11 0 rfl rfl 10 (by decide) wF_X11_35 rfl dX11_freshText_138 ?_
                          refine g_bipush (v := 12) C dX11_freshText_141 rfl ?_
                          refine g_iload_n C dX11_freshText_143 1 rfl ?_
                          refine g_iadd C dX11_freshText_144 ?_
                          refine g_iconst (v := 0) C dX11_freshText_145 rfl ?_
                          refine g_iast C 8 rfl hc_1 dX11_freshText_146 (fun colours_4 ecolours_4 => gG.eqw (ws' := [oX11 h0 thrown (v_tape) taped (.ref q_number) (.ref q_isTold) (.ref q_name) (.ref q_sortOf) (.ref q_first) (.ref q_second) (.ref q_degree) (.ref q_colours) (.ref q_signBy) (v_own) lines size atF place sort value fault faultPlace lastFault lastPlace (v_sF) (v_kept) undoable hasImage (v_power) (v_table) (v_marks) (v_row) rowOf areSums isSieved (v_lastOf) blocks (v_inBlock) (v_atQuotient) (v_small) drawn, aI Y q_number 8 number_3, aZ Y q_isTold 9 isTold_1, aI Y q_name 24 name_2, aI Y q_sortOf 24 sortOf_2, aI Y q_first 24 first_2, aI Y q_second 24 second_2, aI Y q_degree 24 degree_4, aI Y q_colours 24 colours_4, aI Y q_signBy 24 signBy_1]) rfl ?_)
                          replace h := h colours_4 ecolours_4
                          refine g_aload_n C dX11_freshText_147 0 rfl ?_
                          refine g_get C inX11 0 rfl rfl 11 (by decide) wF_X11_38 rfl dX11_freshText_148 ?_
                          refine g_bipush (v := 12) C dX11_freshText_151 rfl ?_
                          refine g_iload_n C dX11_freshText_153 1 rfl ?_
                          refine g_iadd C dX11_freshText_154 ?_
                          refine g_iconst (v := 0) C dX11_freshText_155 rfl ?_
                          refine g_iast C 9 rfl hc_1 dX11_freshText_156 (fun signBy_4 esignBy_4 => gG.eqw (ws' := [oX11 h0 thrown (v_tape) taped (.ref q_number) (.ref q_isTold) (.ref q_name) (.ref q_sortOf) (.ref q_first) (.ref q_second) (.ref q_degree) (.ref q_colours) (.ref q_signBy) (v_own) lines size atF place sort value fault faultPlace lastFault lastPlace (v_sF) (v_kept) undoable hasImage (v_power) (v_table) (v_marks) (v_row) rowOf areSums isSieved (v_lastOf) blocks (v_inBlock) (v_atQuotient) (v_small) drawn, aI Y q_number 8 number_3, aZ Y q_isTold 9 isTold_1, aI Y q_name 24 name_2, aI Y q_sortOf 24 sortOf_2, aI Y q_first 24 first_2, aI Y q_second 24 second_2, aI Y q_degree 24 degree_4, aI Y q_colours 24 colours_4, aI Y q_signBy 24 signBy_4]) rfl ?_)
                          replace h := h signBy_4 esignBy_4
                          refine g_iinc (v := x1_3 + 1) (lv' := [(1, .int (x1_3 + 1)), (0, .ref h0)]) C dX11_freshText_157 1 rfl rfl (by decide) rfl ?_
                          refine g_goto (tgt := 57) C dX11_freshText_160 (by decide) ?_
                          refine gG.locals (lv' := [(0, .ref h0), (1, .int (x1_3 + 1))]) [1, 0] rfl ?_
                          exact ih3 colours_4 degree_4 first_2 name_2 second_2 signBy_4 sortOf_2 (x1_3 + 1) (Nat.lt_of_lt_of_le h.2 (Nat.le_of_lt_succ hm3)) h.1
                        · replace h := h.2 c_6
                          refine g_iconst (v := 1) C dX11_freshText_131 rfl ?_
                          refine g_goto (tgt := 136) C dX11_freshText_132 (by decide) ?_
                          refine g_iast C 7 rfl hc_1 dX11_freshText_136 (fun degree_5 edegree_5 => gG.eqw (ws' := [oX11 h0 thrown (v_tape) taped (.ref q_number) (.ref q_isTold) (.ref q_name) (.ref q_sortOf) (.ref q_first) (.ref q_second) (.ref q_degree) (.ref q_colours) (.ref q_signBy) (v_own) lines size atF place sort value fault faultPlace lastFault lastPlace (v_sF) (v_kept) undoable hasImage (v_power) (v_table) (v_marks) (v_row) rowOf areSums isSieved (v_lastOf) blocks (v_inBlock) (v_atQuotient) (v_small) drawn, aI Y q_number 8 number_3, aZ Y q_isTold 9 isTold_1, aI Y q_name 24 name_2, aI Y q_sortOf 24 sortOf_2, aI Y q_first 24 first_2, aI Y q_second 24 second_2, aI Y q_degree 24 degree_5, aI Y q_colours 24 colours_1, aI Y q_signBy 24 signBy_1]) rfl ?_)
                          replace h := h degree_5 edegree_5
                          refine g_aload_n C dX11_freshText_137 0 rfl ?_
                          refine g_get C inX11 0 rfl rfl 10 (by decide) wF_X11_35 rfl dX11_freshText_138 ?_
                          refine g_bipush (v := 12) C dX11_freshText_141 rfl ?_
                          refine g_iload_n C dX11_freshText_143 1 rfl ?_
                          refine g_iadd C dX11_freshText_144 ?_
                          refine g_iconst (v := 0) C dX11_freshText_145 rfl ?_
                          refine g_iast C 8 rfl hc_1 dX11_freshText_146 (fun colours_5 ecolours_5 => gG.eqw (ws' := [oX11 h0 thrown (v_tape) taped (.ref q_number) (.ref q_isTold) (.ref q_name) (.ref q_sortOf) (.ref q_first) (.ref q_second) (.ref q_degree) (.ref q_colours) (.ref q_signBy) (v_own) lines size atF place sort value fault faultPlace lastFault lastPlace (v_sF) (v_kept) undoable hasImage (v_power) (v_table) (v_marks) (v_row) rowOf areSums isSieved (v_lastOf) blocks (v_inBlock) (v_atQuotient) (v_small) drawn, aI Y q_number 8 number_3, aZ Y q_isTold 9 isTold_1, aI Y q_name 24 name_2, aI Y q_sortOf 24 sortOf_2, aI Y q_first 24 first_2, aI Y q_second 24 second_2, aI Y q_degree 24 degree_5, aI Y q_colours 24 colours_5, aI Y q_signBy 24 signBy_1]) rfl ?_)
                          replace h := h colours_5 ecolours_5
                          refine g_aload_n C dX11_freshText_147 0 rfl ?_
                          refine g_get C inX11 0 rfl rfl 11 (by decide) wF_X11_38 rfl dX11_freshText_148 ?_
                          refine g_bipush (v := 12) C dX11_freshText_151 rfl ?_
                          refine g_iload_n C dX11_freshText_153 1 rfl ?_
                          refine g_iadd C dX11_freshText_154 ?_
                          refine g_iconst (v := 0) C dX11_freshText_155 rfl ?_
                          refine g_iast C 9 rfl hc_1 dX11_freshText_156 (fun signBy_5 esignBy_5 => gG.eqw (ws' := [oX11 h0 thrown (v_tape) taped (.ref q_number) (.ref q_isTold) (.ref q_name) (.ref q_sortOf) (.ref q_first) (.ref q_second) (.ref q_degree) (.ref q_colours) (.ref q_signBy) (v_own) lines size atF place sort value fault faultPlace lastFault lastPlace (v_sF) (v_kept) undoable hasImage (v_power) (v_table) (v_marks) (v_row) rowOf areSums isSieved (v_lastOf) blocks (v_inBlock) (v_atQuotient) (v_small) drawn, aI Y q_number 8 number_3, aZ Y q_isTold 9 isTold_1, aI Y q_name 24 name_2, aI Y q_sortOf 24 sortOf_2, aI Y q_first 24 first_2, aI Y q_second 24 second_2, aI Y q_degree 24 degree_5, aI Y q_colours 24 colours_5, aI Y q_signBy 24 signBy_5]) rfl ?_)
                          replace h := h signBy_5 esignBy_5
                          refine g_iinc (v := x1_3 + 1) (lv' := [(1, .int (x1_3 + 1)), (0, .ref h0)]) C dX11_freshText_157 1 rfl rfl (by decide) rfl ?_
                          refine g_goto (tgt := 57) C dX11_freshText_160 (by decide) ?_
                          refine gG.locals (lv' := [(0, .ref h0), (1, .int (x1_3 + 1))]) [1, 0] rfl ?_
                          exact ih3 colours_5 degree_5 first_2 name_2 second_2 signBy_5 sortOf_2 (x1_3 + 1) (Nat.lt_of_lt_of_le h.2 (Nat.le_of_lt_succ hm3)) h.1
              refine gG.locals (lv' := [(0, .ref h0), (1, .int 0)]) [1, 0] rfl ?_
              exact key_3 (Mea_3 colours degree first name second signBy sortOf 0 + 1) colours degree first name second signBy sortOf 0 (Nat.lt_succ_self _) hI3
            · replace h := h.2 c_2
              refine g_aload_n C dX11_freshText_42 0 rfl ?_
              refine g_get C inX11 0 rfl rfl 4 (by decide) wF_X11_16 rfl dX11_freshText_43 ?_
              refine g_iload_n C dX11_freshText_46 1 rfl ?_
              refine g_iconst (v := 0) C dX11_freshText_47 rfl ?_
              obtain ⟨hc_2, h⟩ := h
              refine g_zast C 2 rfl hc_2 dX11_freshText_48 (fun isTold_2 eisTold_2 => gG.eqw (ws' := [oX11 h0 thrown (v_tape) taped (.ref q_number) (.ref q_isTold) (.ref q_name) (.ref q_sortOf) (.ref q_first) (.ref q_second) (.ref q_degree) (.ref q_colours) (.ref q_signBy) (v_own) lines size atF place sort value fault faultPlace lastFault lastPlace (v_sF) (v_kept) undoable hasImage (v_power) (v_table) (v_marks) (v_row) rowOf areSums isSieved (v_lastOf) blocks (v_inBlock) (v_atQuotient) (v_small) drawn, aI Y q_number 8 number_3, aZ Y q_isTold 9 isTold_2, aI Y q_name 24 name, aI Y q_sortOf 24 sortOf, aI Y q_first 24 first, aI Y q_second 24 second, aI Y q_degree 24 degree, aI Y q_colours 24 colours, aI Y q_signBy 24 signBy]) rfl ?_)
              replace h := h isTold_2 eisTold_2
              refine g_iinc (v := x1_2 + 1) (lv' := [(1, .int (x1_2 + 1)), (0, .ref h0)]) C dX11_freshText_49 1 rfl rfl (by decide) rfl ?_
              refine g_goto (tgt := 36) C dX11_freshText_52 (by decide) ?_
              refine gG.locals (lv' := [(0, .ref h0), (1, .int (x1_2 + 1))]) [1, 0] rfl ?_
              exact ih2 isTold_2 (x1_2 + 1) (Nat.lt_of_lt_of_le h.2 (Nat.le_of_lt_succ hm2)) h.1
        refine gG.locals (lv' := [(0, .ref h0), (1, .int 0)]) [1, 0] rfl ?_
        exact key_2 (Mea_2 isTold 0 + 1) isTold 0 (Nat.lt_succ_self _) hI2
      · replace h := h.2 c_1
        refine g_aload_n C dX11_freshText_7 0 rfl ?_
        refine g_iload_n C dX11_freshText_8 1 rfl ?_
        refine g_iconst (v := 0) C dX11_freshText_9 rfl ?_
        obtain ⟨P_4, hP, h⟩ := h
        refine g_callV (As := [.int x1_1, .int 0]) (rest := []) C (mX11_reads l D Y h0 thrown v_tape taped q_number (.ref q_isTold) (.ref q_name) (.ref q_sortOf) (.ref q_first) (.ref q_second) (.ref q_degree) (.ref q_colours) (.ref q_signBy) v_own lines size atF place sort value fault faultPlace lastFault lastPlace v_sF v_kept undoable hasImage v_power v_table v_marks v_row rowOf areSums isSieved v_lastOf blocks v_inBlock v_atQuotient v_small drawn number_1 x1_1 0 P_4 hP) dX11_freshText_10 rfl wM_X11_162 wI_X11_reads wV_X11_reads wN_X11 wC_X11_reads (n := 2) (by decide +kernel) rfl (q0 := 0) rfl rfl ⟨Nat.le_of_ble_eq_true rfl, Nat.le_of_ble_eq_true rfl⟩ ⟨Nat.le_of_ble_eq_true rfl, Nat.le_of_ble_eq_true rfl⟩ (Nat.le_of_ble_eq_true rfl) [0, 1] [2, 3, 4, 5, 6, 7, 8, 9] rfl rfl rfl (fun v wc hv => ?_)
        obtain ⟨number_4, rfl, rfl, hq⟩ := hv
        replace h := h number_4 hq
        refine gG.perm (ws' := [oX11 h0 thrown (v_tape) taped (.ref q_number) (.ref q_isTold) (.ref q_name) (.ref q_sortOf) (.ref q_first) (.ref q_second) (.ref q_degree) (.ref q_colours) (.ref q_signBy) (v_own) lines size atF place sort value fault faultPlace lastFault lastPlace (v_sF) (v_kept) undoable hasImage (v_power) (v_table) (v_marks) (v_row) rowOf areSums isSieved (v_lastOf) blocks (v_inBlock) (v_atQuotient) (v_small) drawn, aI Y q_number 8 number_4, aZ Y q_isTold 9 isTold, aI Y q_name 24 name, aI Y q_sortOf 24 sortOf, aI Y q_first 24 first, aI Y q_second 24 second, aI Y q_degree 24 degree, aI Y q_colours 24 colours, aI Y q_signBy 24 signBy]) [8, 9, 0, 1, 2, 3, 4, 5, 6, 7] rfl rfl ?_
        refine g_iinc (v := x1_1 + 1) (lv' := [(1, .int (x1_1 + 1)), (0, .ref h0)]) C dX11_freshText_13 1 rfl rfl (by decide) rfl ?_
        refine g_goto (tgt := 2) C dX11_freshText_16 (by decide) ?_
        refine gG.locals (lv' := [(0, .ref h0), (1, .int (x1_1 + 1))]) [1, 0] rfl ?_
        exact ih1 number_4 (x1_1 + 1) (Nat.lt_of_lt_of_le h.2 (Nat.le_of_lt_succ hm1)) h.1
  refine gG.locals (lv' := [(0, .ref h0), (1, .int 0)]) [1, 0] rfl ?_
  exact key_1 (Mea_1 number 0 + 1) number 0 (Nat.lt_succ_self _) hI1
theorem dX11_reading_0 : decode cX11_reading 0 = .ok (.aload_n 0, 1) := by decide +kernel
theorem dX11_reading_1 : decode cX11_reading 1 = .ok (.getfield 13, 3) := by decide +kernel
theorem dX11_reading_4 : decode cX11_reading 4 = .ok (.iconst 4, 1) := by decide +kernel
theorem dX11_reading_5 : decode cX11_reading 5 = .ok (.iload_n 1, 1) := by decide +kernel
theorem dX11_reading_6 : decode cX11_reading 6 = .ok (.iadd, 1) := by decide +kernel
theorem dX11_reading_7 : decode cX11_reading 7 = .ok (.iaload, 1) := by decide +kernel
theorem dX11_reading_8 : decode cX11_reading 8 = .ok (.ireturn, 1) := by decide +kernel
/-- QuotientSumsModel.reading(I)I -/
def wX11_reading (thrown : Int32) (taped : Int32) (lines : Int32) (size : Int32) (atF : Int32) (place : Int32) (sort : Int32) (value : Int32) (fault : Int32) (faultPlace : Int32) (lastFault : Int32) (lastPlace : Int32) (undoable : Int32) (hasImage : Int32) (rowOf : Int32) (areSums : Int32) (isSieved : Int32) (blocks : Int32) (drawn : Int32) (number : Nat → Int32) (a1 : Int32) (Q : (Int32) → Prop) : Prop :=
  (vp_in (4 + a1) 8 ∧ (Q (number (4 + a1).toNatClampNeg)))
set_option maxHeartbeats 4000000 in
set_option maxRecDepth 100000 in
theorem mX11_reading (l : Launch) (D : va_G) (Y : Nat → ClassId) (h0 : Nat) (thrown : Int32) (v_tape : Value) (taped : Int32) (q_number : Nat) (v_isTold : Value) (v_name : Value) (v_sortOf : Value) (v_first : Value) (v_second : Value) (v_degree : Value) (v_colours : Value) (v_signBy : Value) (v_own : Value) (lines : Int32) (size : Int32) (atF : Int32) (place : Int32) (sort : Int32) (value : Int32) (fault : Int32) (faultPlace : Int32) (lastFault : Int32) (lastPlace : Int32) (v_sF : Value) (v_kept : Value) (undoable : Int32) (hasImage : Int32) (v_power : Value) (v_table : Value) (v_marks : Value) (v_row : Value) (rowOf : Int32) (areSums : Int32) (isSieved : Int32) (v_lastOf : Value) (blocks : Int32) (v_inBlock : Value) (v_atQuotient : Value) (v_small : Value) (drawn : Int32) (number : Nat → Int32) (a1 : Int32) (Q : (Int32) → Prop) (h : wX11_reading thrown taped lines size atF place sort value fault faultPlace lastFault lastPlace undoable hasImage rowOf areSums isSieved blocks drawn number a1 Q) : gM l D Y yX11_reading cX11_reading 2 (some .int) 0 0 0 0 [.ref h0, .int a1] [oX11 h0 thrown (v_tape) taped (.ref q_number) (v_isTold) (v_name) (v_sortOf) (v_first) (v_second) (v_degree) (v_colours) (v_signBy) (v_own) lines size atF place sort value fault faultPlace lastFault lastPlace (v_sF) (v_kept) undoable hasImage (v_power) (v_table) (v_marks) (v_row) rowOf areSums isSieved (v_lastOf) blocks (v_inBlock) (v_atQuotient) (v_small) drawn, aI Y q_number 8 number] (fun v w => ∃ r : Int32, v = some (.int r) ∧ w = [oX11 h0 thrown (v_tape) taped (.ref q_number) (v_isTold) (v_name) (v_sortOf) (v_first) (v_second) (v_degree) (v_colours) (v_signBy) (v_own) lines size atF place sort value fault faultPlace lastFault lastPlace (v_sF) (v_kept) undoable hasImage (v_power) (v_table) (v_marks) (v_row) rowOf areSums isSieved (v_lastOf) blocks (v_inBlock) (v_atQuotient) (v_small) drawn, aI Y q_number 8 number] ∧ Q r) := by
  refine gM_of (own := RX11) (by decide +kernel) rfl (Nat.le_of_ble_eq_true rfl) rfl (fun E C hR => ?_)
  unfold wX11_reading at h
  refine g_aload_n C dX11_reading_0 0 rfl ?_
  refine g_get C inX11 0 rfl rfl 3 (by decide) wF_X11_13 rfl dX11_reading_1 ?_
  refine g_iconst (v := 4) C dX11_reading_4 rfl ?_
  refine g_iload_n C dX11_reading_5 1 rfl ?_
  refine g_iadd C dX11_reading_6 ?_
  obtain ⟨hc_1, h⟩ := h
  refine g_iald C 1 rfl hc_1 dX11_reading_7 ?_
  exact g_iret C hR (Nat.le_of_ble_eq_true rfl) (Nat.le_of_ble_eq_true rfl) dX11_reading_8 ⟨number (4 + a1).toNatClampNeg, rfl, rfl, h⟩
theorem dX11_takeText_0 : decode cX11_takeText 0 = .ok (.iconst 0, 1) := by decide +kernel
theorem dX11_takeText_1 : decode cX11_takeText 1 = .ok (.istore_n 1, 1) := by decide +kernel
theorem dX11_takeText_2 : decode cX11_takeText 2 = .ok (.iload_n 1, 1) := by decide +kernel
theorem dX11_takeText_3 : decode cX11_takeText 3 = .ok (.iconst 4, 1) := by decide +kernel
theorem dX11_takeText_4 : decode cX11_takeText 4 = .ok (.if_icmp .ge 20, 3) := by decide +kernel
theorem dX11_takeText_7 : decode cX11_takeText 7 = .ok (.aload_n 0, 1) := by decide +kernel
theorem dX11_takeText_8 : decode cX11_takeText 8 = .ok (.getfield 13, 3) := by decide +kernel
theorem dX11_takeText_11 : decode cX11_takeText 11 = .ok (.iload_n 1, 1) := by decide +kernel
theorem dX11_takeText_12 : decode cX11_takeText 12 = .ok (.aload_n 0, 1) := by decide +kernel
theorem dX11_takeText_13 : decode cX11_takeText 13 = .ok (.iload_n 1, 1) := by decide +kernel
theorem dX11_takeText_14 : decode cX11_takeText 14 = .ok (.invokevirtual 166, 3) := by decide +kernel
theorem dX11_takeText_17 : decode cX11_takeText 17 = .ok (.iastore, 1) := by decide +kernel
theorem dX11_takeText_18 : decode cX11_takeText 18 = .ok (.iinc 1 1, 3) := by decide +kernel
theorem dX11_takeText_21 : decode cX11_takeText 21 = .ok (.goto (-19), 3) := by decide +kernel
theorem dX11_takeText_24 : decode cX11_takeText 24 = .ok (.iconst 0, 1) := by decide +kernel
theorem dX11_takeText_25 : decode cX11_takeText 25 = .ok (.istore_n 1, 1) := by decide +kernel
theorem dX11_takeText_26 : decode cX11_takeText 26 = .ok (.iload_n 1, 1) := by decide +kernel
theorem dX11_takeText_27 : decode cX11_takeText 27 = .ok (.bipush 12, 2) := by decide +kernel
theorem dX11_takeText_29 : decode cX11_takeText 29 = .ok (.if_icmp .ge 114, 3) := by decide +kernel
theorem dX11_takeText_32 : decode cX11_takeText 32 = .ok (.aload_n 0, 1) := by decide +kernel
theorem dX11_takeText_33 : decode cX11_takeText 33 = .ok (.getfield 20, 3) := by decide +kernel
theorem dX11_takeText_36 : decode cX11_takeText 36 = .ok (.iload_n 1, 1) := by decide +kernel
theorem dX11_takeText_37 : decode cX11_takeText 37 = .ok (.aload_n 0, 1) := by decide +kernel
theorem dX11_takeText_38 : decode cX11_takeText 38 = .ok (.getfield 20, 3) := by decide +kernel
theorem dX11_takeText_41 : decode cX11_takeText 41 = .ok (.bipush 12, 2) := by decide +kernel
theorem dX11_takeText_43 : decode cX11_takeText 43 = .ok (.iload_n 1, 1) := by decide +kernel
theorem dX11_takeText_44 : decode cX11_takeText 44 = .ok (.iadd, 1) := by decide +kernel
theorem dX11_takeText_45 : decode cX11_takeText 45 = .ok (.iaload, 1) := by decide +kernel
theorem dX11_takeText_46 : decode cX11_takeText 46 = .ok (.iastore, 1) := by decide +kernel
theorem dX11_takeText_47 : decode cX11_takeText 47 = .ok (.aload_n 0, 1) := by decide +kernel
theorem dX11_takeText_48 : decode cX11_takeText 48 = .ok (.getfield 23, 3) := by decide +kernel
theorem dX11_takeText_51 : decode cX11_takeText 51 = .ok (.iload_n 1, 1) := by decide +kernel
theorem dX11_takeText_52 : decode cX11_takeText 52 = .ok (.aload_n 0, 1) := by decide +kernel
theorem dX11_takeText_53 : decode cX11_takeText 53 = .ok (.getfield 23, 3) := by decide +kernel
theorem dX11_takeText_56 : decode cX11_takeText 56 = .ok (.bipush 12, 2) := by decide +kernel
theorem dX11_takeText_58 : decode cX11_takeText 58 = .ok (.iload_n 1, 1) := by decide +kernel
theorem dX11_takeText_59 : decode cX11_takeText 59 = .ok (.iadd, 1) := by decide +kernel
theorem dX11_takeText_60 : decode cX11_takeText 60 = .ok (.iaload, 1) := by decide +kernel
theorem dX11_takeText_61 : decode cX11_takeText 61 = .ok (.iastore, 1) := by decide +kernel
theorem dX11_takeText_62 : decode cX11_takeText 62 = .ok (.aload_n 0, 1) := by decide +kernel
theorem dX11_takeText_63 : decode cX11_takeText 63 = .ok (.getfield 26, 3) := by decide +kernel
theorem dX11_takeText_66 : decode cX11_takeText 66 = .ok (.iload_n 1, 1) := by decide +kernel
theorem dX11_takeText_67 : decode cX11_takeText 67 = .ok (.aload_n 0, 1) := by decide +kernel
theorem dX11_takeText_68 : decode cX11_takeText 68 = .ok (.getfield 26, 3) := by decide +kernel
theorem dX11_takeText_71 : decode cX11_takeText 71 = .ok (.bipush 12, 2) := by decide +kernel
theorem dX11_takeText_73 : decode cX11_takeText 73 = .ok (.iload_n 1, 1) := by decide +kernel
theorem dX11_takeText_74 : decode cX11_takeText 74 = .ok (.iadd, 1) := by decide +kernel
theorem dX11_takeText_75 : decode cX11_takeText 75 = .ok (.iaload, 1) := by decide +kernel
theorem dX11_takeText_76 : decode cX11_takeText 76 = .ok (.iastore, 1) := by decide +kernel
theorem dX11_takeText_77 : decode cX11_takeText 77 = .ok (.aload_n 0, 1) := by decide +kernel
theorem dX11_takeText_78 : decode cX11_takeText 78 = .ok (.getfield 29, 3) := by decide +kernel
theorem dX11_takeText_81 : decode cX11_takeText 81 = .ok (.iload_n 1, 1) := by decide +kernel
theorem dX11_takeText_82 : decode cX11_takeText 82 = .ok (.aload_n 0, 1) := by decide +kernel
theorem dX11_takeText_83 : decode cX11_takeText 83 = .ok (.getfield 29, 3) := by decide +kernel
theorem dX11_takeText_86 : decode cX11_takeText 86 = .ok (.bipush 12, 2) := by decide +kernel
theorem dX11_takeText_88 : decode cX11_takeText 88 = .ok (.iload_n 1, 1) := by decide +kernel
theorem dX11_takeText_89 : decode cX11_takeText 89 = .ok (.iadd, 1) := by decide +kernel
theorem dX11_takeText_90 : decode cX11_takeText 90 = .ok (.iaload, 1) := by decide +kernel
theorem dX11_takeText_91 : decode cX11_takeText 91 = .ok (.iastore, 1) := by decide +kernel
theorem dX11_takeText_92 : decode cX11_takeText 92 = .ok (.aload_n 0, 1) := by decide +kernel
theorem dX11_takeText_93 : decode cX11_takeText 93 = .ok (.getfield 32, 3) := by decide +kernel
theorem dX11_takeText_96 : decode cX11_takeText 96 = .ok (.iload_n 1, 1) := by decide +kernel
theorem dX11_takeText_97 : decode cX11_takeText 97 = .ok (.aload_n 0, 1) := by decide +kernel
theorem dX11_takeText_98 : decode cX11_takeText 98 = .ok (.getfield 32, 3) := by decide +kernel
theorem dX11_takeText_101 : decode cX11_takeText 101 = .ok (.bipush 12, 2) := by decide +kernel
theorem dX11_takeText_103 : decode cX11_takeText 103 = .ok (.iload_n 1, 1) := by decide +kernel
theorem dX11_takeText_104 : decode cX11_takeText 104 = .ok (.iadd, 1) := by decide +kernel
theorem dX11_takeText_105 : decode cX11_takeText 105 = .ok (.iaload, 1) := by decide +kernel
theorem dX11_takeText_106 : decode cX11_takeText 106 = .ok (.iastore, 1) := by decide +kernel
theorem dX11_takeText_107 : decode cX11_takeText 107 = .ok (.aload_n 0, 1) := by decide +kernel
theorem dX11_takeText_108 : decode cX11_takeText 108 = .ok (.getfield 35, 3) := by decide +kernel
theorem dX11_takeText_111 : decode cX11_takeText 111 = .ok (.iload_n 1, 1) := by decide +kernel
theorem dX11_takeText_112 : decode cX11_takeText 112 = .ok (.aload_n 0, 1) := by decide +kernel
theorem dX11_takeText_113 : decode cX11_takeText 113 = .ok (.getfield 35, 3) := by decide +kernel
theorem dX11_takeText_116 : decode cX11_takeText 116 = .ok (.bipush 12, 2) := by decide +kernel
theorem dX11_takeText_118 : decode cX11_takeText 118 = .ok (.iload_n 1, 1) := by decide +kernel
theorem dX11_takeText_119 : decode cX11_takeText 119 = .ok (.iadd, 1) := by decide +kernel
theorem dX11_takeText_120 : decode cX11_takeText 120 = .ok (.iaload, 1) := by decide +kernel
theorem dX11_takeText_121 : decode cX11_takeText 121 = .ok (.iastore, 1) := by decide +kernel
theorem dX11_takeText_122 : decode cX11_takeText 122 = .ok (.aload_n 0, 1) := by decide +kernel
theorem dX11_takeText_123 : decode cX11_takeText 123 = .ok (.getfield 38, 3) := by decide +kernel
theorem dX11_takeText_126 : decode cX11_takeText 126 = .ok (.iload_n 1, 1) := by decide +kernel
theorem dX11_takeText_127 : decode cX11_takeText 127 = .ok (.aload_n 0, 1) := by decide +kernel
theorem dX11_takeText_128 : decode cX11_takeText 128 = .ok (.getfield 38, 3) := by decide +kernel
theorem dX11_takeText_131 : decode cX11_takeText 131 = .ok (.bipush 12, 2) := by decide +kernel
theorem dX11_takeText_133 : decode cX11_takeText 133 = .ok (.iload_n 1, 1) := by decide +kernel
theorem dX11_takeText_134 : decode cX11_takeText 134 = .ok (.iadd, 1) := by decide +kernel
theorem dX11_takeText_135 : decode cX11_takeText 135 = .ok (.iaload, 1) := by decide +kernel
theorem dX11_takeText_136 : decode cX11_takeText 136 = .ok (.iastore, 1) := by decide +kernel
theorem dX11_takeText_137 : decode cX11_takeText 137 = .ok (.iinc 1 1, 3) := by decide +kernel
theorem dX11_takeText_140 : decode cX11_takeText 140 = .ok (.goto (-114), 3) := by decide +kernel
theorem dX11_takeText_143 : decode cX11_takeText 143 = .ok (.iconst 0, 1) := by decide +kernel
theorem dX11_takeText_144 : decode cX11_takeText 144 = .ok (.istore_n 1, 1) := by decide +kernel
theorem dX11_takeText_145 : decode cX11_takeText 145 = .ok (.iload_n 1, 1) := by decide +kernel
theorem dX11_takeText_146 : decode cX11_takeText 146 = .ok (.sipush 144, 3) := by decide +kernel
theorem dX11_takeText_149 : decode cX11_takeText 149 = .ok (.if_icmp .ge 25, 3) := by decide +kernel
theorem dX11_takeText_152 : decode cX11_takeText 152 = .ok (.aload_n 0, 1) := by decide +kernel
theorem dX11_takeText_153 : decode cX11_takeText 153 = .ok (.getfield 41, 3) := by decide +kernel
theorem dX11_takeText_156 : decode cX11_takeText 156 = .ok (.iload_n 1, 1) := by decide +kernel
theorem dX11_takeText_157 : decode cX11_takeText 157 = .ok (.aload_n 0, 1) := by decide +kernel
theorem dX11_takeText_158 : decode cX11_takeText 158 = .ok (.getfield 41, 3) := by decide +kernel
theorem dX11_takeText_161 : decode cX11_takeText 161 = .ok (.sipush 144, 3) := by decide +kernel
theorem dX11_takeText_164 : decode cX11_takeText 164 = .ok (.iload_n 1, 1) := by decide +kernel
theorem dX11_takeText_165 : decode cX11_takeText 165 = .ok (.iadd, 1) := by decide +kernel
theorem dX11_takeText_166 : decode cX11_takeText 166 = .ok (.iaload, 1) := by decide +kernel
theorem dX11_takeText_167 : decode cX11_takeText 167 = .ok (.iastore, 1) := by decide +kernel
theorem dX11_takeText_168 : decode cX11_takeText 168 = .ok (.iinc 1 1, 3) := by decide +kernel
theorem dX11_takeText_171 : decode cX11_takeText 171 = .ok (.goto (-26), 3) := by decide +kernel
theorem dX11_takeText_174 : decode cX11_takeText 174 = .ok (.return_, 1) := by decide +kernel
/-- QuotientSumsModel.takeText()V -/
def wX11_takeText (thrown : Int32) (taped : Int32) (lines : Int32) (size : Int32) (atF : Int32) (place : Int32) (sort : Int32) (value : Int32) (fault : Int32) (faultPlace : Int32) (lastFault : Int32) (lastPlace : Int32) (undoable : Int32) (hasImage : Int32) (rowOf : Int32) (areSums : Int32) (isSieved : Int32) (blocks : Int32) (drawn : Int32) (number : Nat → Int32) (name : Nat → Int32) (sortOf : Nat → Int32) (first : Nat → Int32) (second : Nat → Int32) (degree : Nat → Int32) (colours : Nat → Int32) (signBy : Nat → Int32) (own : Nat → Int32)  (Q : (Nat → Int32) → (Nat → Int32) → (Nat → Int32) → (Nat → Int32) → (Nat → Int32) → (Nat → Int32) → (Nat → Int32) → (Nat → Int32) → (Nat → Int32) → Prop) : Prop :=
  (∃ (Inv_1 : (Nat → Int32) → (Int32) → Prop) (Mea_1 : (Nat → Int32) → (Int32) → Nat), Inv_1 number 0 ∧ ∀ (number_1 : Nat → Int32) (x1_1 : Int32), Inv_1 number_1 x1_1 → ((4 ≤ x1_1 → (∃ (Inv_2 : (Nat → Int32) → (Nat → Int32) → (Nat → Int32) → (Nat → Int32) → (Nat → Int32) → (Nat → Int32) → (Nat → Int32) → (Int32) → Prop) (Mea_2 : (Nat → Int32) → (Nat → Int32) → (Nat → Int32) → (Nat → Int32) → (Nat → Int32) → (Nat → Int32) → (Nat → Int32) → (Int32) → Nat), Inv_2 colours degree first name second signBy sortOf 0 ∧ ∀ (colours_1 : Nat → Int32) (degree_1 : Nat → Int32) (first_1 : Nat → Int32) (name_1 : Nat → Int32) (second_1 : Nat → Int32) (signBy_1 : Nat → Int32) (sortOf_1 : Nat → Int32) (x1_2 : Int32), Inv_2 colours_1 degree_1 first_1 name_1 second_1 signBy_1 sortOf_1 x1_2 → ((12 ≤ x1_2 → (∃ (Inv_3 : (Nat → Int32) → (Int32) → Prop) (Mea_3 : (Nat → Int32) → (Int32) → Nat), Inv_3 own 0 ∧ ∀ (own_1 : Nat → Int32) (x1_3 : Int32), Inv_3 own_1 x1_3 → ((144 ≤ x1_3 → (Q number_1 name_1 sortOf_1 first_1 second_1 degree_1 colours_1 signBy_1 own_1)) ∧ (¬ 144 ≤ x1_3 → (vp_in (144 + x1_3) 288 ∧ ∀ e_1 : Int32, e_1 = own_1 (144 + x1_3).toNatClampNeg → vp_in x1_3 288 ∧ ∀ own_2 : Nat → Int32, own_2 = upd own_1 x1_3.toNatClampNeg e_1 → (Inv_3 own_2 (x1_3 + 1) ∧ Mea_3 own_2 (x1_3 + 1) < Mea_3 own_1 x1_3)))))) ∧ (¬ 12 ≤ x1_2 → (vp_in (12 + x1_2) 24 ∧ ∀ e_2 : Int32, e_2 = name_1 (12 + x1_2).toNatClampNeg → vp_in x1_2 24 ∧ ∀ name_2 : Nat → Int32, name_2 = upd name_1 x1_2.toNatClampNeg e_2 → ∀ e_3 : Int32, e_3 = sortOf_1 (12 + x1_2).toNatClampNeg → ∀ sortOf_2 : Nat → Int32, sortOf_2 = upd sortOf_1 x1_2.toNatClampNeg e_3 → ∀ e_4 : Int32, e_4 = first_1 (12 + x1_2).toNatClampNeg → ∀ first_2 : Nat → Int32, first_2 = upd first_1 x1_2.toNatClampNeg e_4 → ∀ e_5 : Int32, e_5 = second_1 (12 + x1_2).toNatClampNeg → ∀ second_2 : Nat → Int32, second_2 = upd second_1 x1_2.toNatClampNeg e_5 → ∀ e_6 : Int32, e_6 = degree_1 (12 + x1_2).toNatClampNeg → ∀ degree_2 : Nat → Int32, degree_2 = upd degree_1 x1_2.toNatClampNeg e_6 → ∀ e_7 : Int32, e_7 = colours_1 (12 + x1_2).toNatClampNeg → ∀ colours_2 : Nat → Int32, colours_2 = upd colours_1 x1_2.toNatClampNeg e_7 → ∀ e_8 : Int32, e_8 = signBy_1 (12 + x1_2).toNatClampNeg → ∀ signBy_2 : Nat → Int32, signBy_2 = upd signBy_1 x1_2.toNatClampNeg e_8 → (Inv_2 colours_2 degree_2 first_2 name_2 second_2 signBy_2 sortOf_2 (x1_2 + 1) ∧ Mea_2 colours_2 degree_2 first_2 name_2 second_2 signBy_2 sortOf_2 (x1_2 + 1) < Mea_2 colours_1 degree_1 first_1 name_1 second_1 signBy_1 sortOf_1 x1_2)))))) ∧ (¬ 4 ≤ x1_1 → (∃ (P_1 : (Int32) → Prop), wX11_reading thrown taped lines size atF place sort value fault faultPlace lastFault lastPlace undoable hasImage rowOf areSums isSieved blocks drawn number_1 x1_1 P_1 ∧ ∀ (rF_1 : Int32), P_1 rF_1 → vp_in x1_1 8 ∧ ∀ number_2 : Nat → Int32, number_2 = upd number_1 x1_1.toNatClampNeg rF_1 → (Inv_1 number_2 (x1_1 + 1) ∧ Mea_1 number_2 (x1_1 + 1) < Mea_1 number_1 x1_1)))))
set_option maxHeartbeats 4000000 in
set_option maxRecDepth 100000 in
theorem mX11_takeText (l : Launch) (D : va_G) (Y : Nat → ClassId) (h0 : Nat) (thrown : Int32) (v_tape : Value) (taped : Int32) (q_number : Nat) (v_isTold : Value) (q_name : Nat) (q_sortOf : Nat) (q_first : Nat) (q_second : Nat) (q_degree : Nat) (q_colours : Nat) (q_signBy : Nat) (q_own : Nat) (lines : Int32) (size : Int32) (atF : Int32) (place : Int32) (sort : Int32) (value : Int32) (fault : Int32) (faultPlace : Int32) (lastFault : Int32) (lastPlace : Int32) (v_sF : Value) (v_kept : Value) (undoable : Int32) (hasImage : Int32) (v_power : Value) (v_table : Value) (v_marks : Value) (v_row : Value) (rowOf : Int32) (areSums : Int32) (isSieved : Int32) (v_lastOf : Value) (blocks : Int32) (v_inBlock : Value) (v_atQuotient : Value) (v_small : Value) (drawn : Int32) (number : Nat → Int32) (name : Nat → Int32) (sortOf : Nat → Int32) (first : Nat → Int32) (second : Nat → Int32) (degree : Nat → Int32) (colours : Nat → Int32) (signBy : Nat → Int32) (own : Nat → Int32)  (Q : (Nat → Int32) → (Nat → Int32) → (Nat → Int32) → (Nat → Int32) → (Nat → Int32) → (Nat → Int32) → (Nat → Int32) → (Nat → Int32) → (Nat → Int32) → Prop) (h : wX11_takeText thrown taped lines size atF place sort value fault faultPlace lastFault lastPlace undoable hasImage rowOf areSums isSieved blocks drawn number name sortOf first second degree colours signBy own Q) : gM l D Y yX11_takeText cX11_takeText 2 none 1 21 0 0 [.ref h0] [oX11 h0 thrown (v_tape) taped (.ref q_number) (v_isTold) (.ref q_name) (.ref q_sortOf) (.ref q_first) (.ref q_second) (.ref q_degree) (.ref q_colours) (.ref q_signBy) (.ref q_own) lines size atF place sort value fault faultPlace lastFault lastPlace (v_sF) (v_kept) undoable hasImage (v_power) (v_table) (v_marks) (v_row) rowOf areSums isSieved (v_lastOf) blocks (v_inBlock) (v_atQuotient) (v_small) drawn, aI Y q_number 8 number, aI Y q_name 24 name, aI Y q_sortOf 24 sortOf, aI Y q_first 24 first, aI Y q_second 24 second, aI Y q_degree 24 degree, aI Y q_colours 24 colours, aI Y q_signBy 24 signBy, aI Y q_own 288 own] (fun v w => ∃ number' : Nat → Int32, ∃ name' : Nat → Int32, ∃ sortOf' : Nat → Int32, ∃ first' : Nat → Int32, ∃ second' : Nat → Int32, ∃ degree' : Nat → Int32, ∃ colours' : Nat → Int32, ∃ signBy' : Nat → Int32, ∃ own' : Nat → Int32, v = none ∧ w = [oX11 h0 thrown (v_tape) taped (.ref q_number) (v_isTold) (.ref q_name) (.ref q_sortOf) (.ref q_first) (.ref q_second) (.ref q_degree) (.ref q_colours) (.ref q_signBy) (.ref q_own) lines size atF place sort value fault faultPlace lastFault lastPlace (v_sF) (v_kept) undoable hasImage (v_power) (v_table) (v_marks) (v_row) rowOf areSums isSieved (v_lastOf) blocks (v_inBlock) (v_atQuotient) (v_small) drawn, aI Y q_number 8 number', aI Y q_name 24 name', aI Y q_sortOf 24 sortOf', aI Y q_first 24 first', aI Y q_second 24 second', aI Y q_degree 24 degree', aI Y q_colours 24 colours', aI Y q_signBy 24 signBy', aI Y q_own 288 own'] ∧ Q number' name' sortOf' first' second' degree' colours' signBy' own') := by
  refine gM_of (own := RX11) (by decide +kernel) rfl (Nat.le_of_ble_eq_true rfl) rfl (fun E C hR => ?_)
  unfold wX11_takeText at h
  refine g_iconst (v := 0) C dX11_takeText_0 rfl ?_
  refine g_istore_n (lv' := [(1, .int 0), (0, .ref h0)]) C dX11_takeText_1 (by decide) rfl ?_
  obtain ⟨Inv_1, Mea_1, hI1, hB1⟩ := h
  have key_1 : ∀ (n : Nat) (number_1 : Nat → Int32) (x1_1 : Int32) , Mea_1 number_1 x1_1 < n → Inv_1 number_1 x1_1 → gG E 0 0 [oX11 h0 thrown (v_tape) taped (.ref q_number) (v_isTold) (.ref q_name) (.ref q_sortOf) (.ref q_first) (.ref q_second) (.ref q_degree) (.ref q_colours) (.ref q_signBy) (.ref q_own) lines size atF place sort value fault faultPlace lastFault lastPlace (v_sF) (v_kept) undoable hasImage (v_power) (v_table) (v_marks) (v_row) rowOf areSums isSieved (v_lastOf) blocks (v_inBlock) (v_atQuotient) (v_small) drawn, aI Y q_number 8 number_1, aI Y q_name 24 name, aI Y q_sortOf 24 sortOf, aI Y q_first 24 first, aI Y q_second 24 second, aI Y q_degree 24 degree, aI Y q_colours 24 colours, aI Y q_signBy 24 signBy, aI Y q_own 288 own] [(0, .ref h0), (1, .int x1_1)] [] 2 := by
    intro n
    induction n with
    | zero => exact fun _ _ hm => absurd hm (Nat.not_lt_zero _)
    | succ n ih1 =>
      intro number_1 x1_1  hm1 hI
      have h := hB1 number_1 x1_1 hI
      refine g_iload_n C dX11_takeText_2 1 rfl ?_
      refine g_iconst (v := 4) C dX11_takeText_3 rfl ?_
      refine g_icmp_ge (tgt := 24) C dX11_takeText_4 (by decide) (fun c_1 => ?_) (fun c_1 => ?_)
      · replace h := h.1 c_1
        refine g_iconst (v := 0) C dX11_takeText_24 rfl ?_
        refine g_istore_n (lv' := [(1, .int 0), (0, .ref h0)]) C dX11_takeText_25 (by decide) rfl ?_
        obtain ⟨Inv_2, Mea_2, hI2, hB2⟩ := h
        have key_2 : ∀ (n : Nat) (colours_1 : Nat → Int32) (degree_1 : Nat → Int32) (first_1 : Nat → Int32) (name_1 : Nat → Int32) (second_1 : Nat → Int32) (signBy_1 : Nat → Int32) (sortOf_1 : Nat → Int32) (x1_2 : Int32) , Mea_2 colours_1 degree_1 first_1 name_1 second_1 signBy_1 sortOf_1 x1_2 < n → Inv_2 colours_1 degree_1 first_1 name_1 second_1 signBy_1 sortOf_1 x1_2 → gG E 0 0 [oX11 h0 thrown (v_tape) taped (.ref q_number) (v_isTold) (.ref q_name) (.ref q_sortOf) (.ref q_first) (.ref q_second) (.ref q_degree) (.ref q_colours) (.ref q_signBy) (.ref q_own) lines size atF place sort value fault faultPlace lastFault lastPlace (v_sF) (v_kept) undoable hasImage (v_power) (v_table) (v_marks) (v_row) rowOf areSums isSieved (v_lastOf) blocks (v_inBlock) (v_atQuotient) (v_small) drawn, aI Y q_number 8 number_1, aI Y q_name 24 name_1, aI Y q_sortOf 24 sortOf_1, aI Y q_first 24 first_1, aI Y q_second 24 second_1, aI Y q_degree 24 degree_1, aI Y q_colours 24 colours_1, aI Y q_signBy 24 signBy_1, aI Y q_own 288 own] [(0, .ref h0), (1, .int x1_2)] [] 26 := by
          intro n
          induction n with
          | zero => exact fun _ _ _ _ _ _ _ _ hm => absurd hm (Nat.not_lt_zero _)
          | succ n ih2 =>
            intro colours_1 degree_1 first_1 name_1 second_1 signBy_1 sortOf_1 x1_2  hm2 hI
            have h := hB2 colours_1 degree_1 first_1 name_1 second_1 signBy_1 sortOf_1 x1_2 hI
            refine g_iload_n C dX11_takeText_26 1 rfl ?_
            refine g_bipush (v := 12) C dX11_takeText_27 rfl ?_
            refine g_icmp_ge (tgt := 143) C dX11_takeText_29 (by decide) (fun c_2 => ?_) (fun c_2 => ?_)
            · replace h := h.1 c_2
              refine g_iconst (v := 0) C dX11_takeText_143 rfl ?_
              refine g_istore_n (lv' := [(1, .int 0), (0, .ref h0)]) C dX11_takeText_144 (by decide) rfl ?_
              obtain ⟨Inv_3, Mea_3, hI3, hB3⟩ := h
              have key_3 : ∀ (n : Nat) (own_1 : Nat → Int32) (x1_3 : Int32) , Mea_3 own_1 x1_3 < n → Inv_3 own_1 x1_3 → gG E 0 0 [oX11 h0 thrown (v_tape) taped (.ref q_number) (v_isTold) (.ref q_name) (.ref q_sortOf) (.ref q_first) (.ref q_second) (.ref q_degree) (.ref q_colours) (.ref q_signBy) (.ref q_own) lines size atF place sort value fault faultPlace lastFault lastPlace (v_sF) (v_kept) undoable hasImage (v_power) (v_table) (v_marks) (v_row) rowOf areSums isSieved (v_lastOf) blocks (v_inBlock) (v_atQuotient) (v_small) drawn, aI Y q_number 8 number_1, aI Y q_name 24 name_1, aI Y q_sortOf 24 sortOf_1, aI Y q_first 24 first_1, aI Y q_second 24 second_1, aI Y q_degree 24 degree_1, aI Y q_colours 24 colours_1, aI Y q_signBy 24 signBy_1, aI Y q_own 288 own_1] [(0, .ref h0), (1, .int x1_3)] [] 145 := by
                intro n
                induction n with
                | zero => exact fun _ _ hm => absurd hm (Nat.not_lt_zero _)
                | succ n ih3 =>
                  intro own_1 x1_3  hm3 hI
                  have h := hB3 own_1 x1_3 hI
                  refine g_iload_n C dX11_takeText_145 1 rfl ?_
                  refine g_sipush (v := 144) C dX11_takeText_146 rfl ?_
                  refine g_icmp_ge (tgt := 174) C dX11_takeText_149 (by decide) (fun c_3 => ?_) (fun c_3 => ?_)
                  · replace h := h.1 c_3
                    exact g_vret C hR (Nat.le_of_ble_eq_true rfl) (Nat.le_of_ble_eq_true rfl) dX11_takeText_174 ⟨number_1, name_1, sortOf_1, first_1, second_1, degree_1, colours_1, signBy_1, own_1, rfl, rfl, h⟩
                  · replace h := h.2 c_3
                    refine g_aload_n C dX11_takeText_152 0 rfl ?_
                    refine g_get C inX11 0 rfl rfl 12 (by decide) wF_X11_41 rfl dX11_takeText_153 ?_
                    refine g_iload_n C dX11_takeText_156 1 rfl ?_
                    refine g_aload_n C dX11_takeText_157 0 rfl ?_
                    refine g_get C inX11 0 rfl rfl 12 (by decide) wF_X11_41 rfl dX11_takeText_158 ?_
                    refine g_sipush (v := 144) C dX11_takeText_161 rfl ?_
                    refine g_iload_n C dX11_takeText_164 1 rfl ?_
                    refine g_iadd C dX11_takeText_165 ?_
                    obtain ⟨hc_1, h⟩ := h
                    refine g_iald C 9 rfl hc_1 dX11_takeText_166 ?_
                    refine g_topi (fun e_1 ee_1 => ?_)
                    replace h := h e_1 ee_1
                    obtain ⟨hc_2, h⟩ := h
                    refine g_iast C 9 rfl hc_2 dX11_takeText_167 (fun own_2 eown_2 => gG.eqw (ws' := [oX11 h0 thrown (v_tape) taped (.ref q_number) (v_isTold) (.ref q_name) (.ref q_sortOf) (.ref q_first) (.ref q_second) (.ref q_degree) (.ref q_colours) (.ref q_signBy) (.ref q_own) lines size atF place sort value fault faultPlace lastFault lastPlace (v_sF) (v_kept) undoable hasImage (v_power) (v_table) (v_marks) (v_row) rowOf areSums isSieved (v_lastOf) blocks (v_inBlock) (v_atQuotient) (v_small) drawn, aI Y q_number 8 number_1, aI Y q_name 24 name_1, aI Y q_sortOf 24 sortOf_1, aI Y q_first 24 first_1, aI Y q_second 24 second_1, aI Y q_degree 24 degree_1, aI Y q_colours 24 colours_1, aI Y q_signBy 24 signBy_1, aI Y q_own 288 own_2]) rfl ?_)
                    replace h := h own_2 eown_2
                    refine g_iinc (v := x1_3 + 1) (lv' := [(1, .int (x1_3 + 1)), (0, .ref h0)]) C dX11_takeText_168 1 rfl rfl (by decide) rfl ?_
                    refine g_goto (tgt := 145) C dX11_takeText_171 (by decide) ?_
                    refine gG.locals (lv' := [(0, .ref h0), (1, .int (x1_3 + 1))]) [1, 0] rfl ?_
                    exact ih3 own_2 (x1_3 + 1) (Nat.lt_of_lt_of_le h.2 (Nat.le_of_lt_succ hm3)) h.1
              refine gG.locals (lv' := [(0, .ref h0), (1, .int 0)]) [1, 0] rfl ?_
              exact key_3 (Mea_3 own 0 + 1) own 0 (Nat.lt_succ_self _) hI3
            · replace h := h.2 c_2
              refine g_aload_n C dX11_takeText_32 0 rfl ?_
              refine g_get C inX11 0 rfl rfl 5 (by decide) wF_X11_20 rfl dX11_takeText_33 ?_
              refine g_iload_n C dX11_takeText_36 1 rfl ?_
              refine g_aload_n C dX11_takeText_37 0 rfl ?_
              refine g_get C inX11 0 rfl rfl 5 (by decide) wF_X11_20 rfl dX11_takeText_38 ?_
              refine g_bipush (v := 12) C dX11_takeText_41 rfl ?_
              refine g_iload_n C dX11_takeText_43 1 rfl ?_
              refine g_iadd C dX11_takeText_44 ?_
              obtain ⟨hc_3, h⟩ := h
              refine g_iald C 2 rfl hc_3 dX11_takeText_45 ?_
              refine g_topi (fun e_2 ee_2 => ?_)
              replace h := h e_2 ee_2
              obtain ⟨hc_4, h⟩ := h
              refine g_iast C 2 rfl hc_4 dX11_takeText_46 (fun name_2 ename_2 => gG.eqw (ws' := [oX11 h0 thrown (v_tape) taped (.ref q_number) (v_isTold) (.ref q_name) (.ref q_sortOf) (.ref q_first) (.ref q_second) (.ref q_degree) (.ref q_colours) (.ref q_signBy) (.ref q_own) lines size atF place sort value fault faultPlace lastFault lastPlace (v_sF) (v_kept) undoable hasImage (v_power) (v_table) (v_marks) (v_row) rowOf areSums isSieved (v_lastOf) blocks (v_inBlock) (v_atQuotient) (v_small) drawn, aI Y q_number 8 number_1, aI Y q_name 24 name_2, aI Y q_sortOf 24 sortOf_1, aI Y q_first 24 first_1, aI Y q_second 24 second_1, aI Y q_degree 24 degree_1, aI Y q_colours 24 colours_1, aI Y q_signBy 24 signBy_1, aI Y q_own 288 own]) rfl ?_)
              replace h := h name_2 ename_2
              refine g_aload_n C dX11_takeText_47 0 rfl ?_
              refine g_get C inX11 0 rfl rfl 6 (by decide) wF_X11_23 rfl dX11_takeText_48 ?_
              refine g_iload_n C dX11_takeText_51 1 rfl ?_
              refine g_aload_n C dX11_takeText_52 0 rfl ?_
              refine g_get C inX11 0 rfl rfl 6 (by decide) wF_X11_23 rfl dX11_takeText_53 ?_
              refine g_bipush (v := 12) C dX11_takeText_56 rfl ?_
              refine g_iload_n C dX11_takeText_58 1 rfl ?_
              refine g_iadd C dX11_takeText_59 ?_
              refine g_iald C 3 rfl hc_3 dX11_takeText_60 ?_
              refine g_topi (fun e_3 ee_3 => ?_)
              replace h := h e_3 ee_3
              refine g_iast C 3 rfl hc_4 dX11_takeText_61 (fun sortOf_2 esortOf_2 => gG.eqw (ws' := [oX11 h0 thrown (v_tape) taped (.ref q_number) (v_isTold) (.ref q_name) (.ref q_sortOf) (.ref q_first) (.ref q_second) (.ref q_degree) (.ref q_colours) (.ref q_signBy) (.ref q_own) lines size atF place sort value fault faultPlace lastFault lastPlace (v_sF) (v_kept) undoable hasImage (v_power) (v_table) (v_marks) (v_row) rowOf areSums isSieved (v_lastOf) blocks (v_inBlock) (v_atQuotient) (v_small) drawn, aI Y q_number 8 number_1, aI Y q_name 24 name_2, aI Y q_sortOf 24 sortOf_2, aI Y q_first 24 first_1, aI Y q_second 24 second_1, aI Y q_degree 24 degree_1, aI Y q_colours 24 colours_1, aI Y q_signBy 24 signBy_1, aI Y q_own 288 own]) rfl ?_)
              replace h := h sortOf_2 esortOf_2
              refine g_aload_n C dX11_takeText_62 0 rfl ?_
              refine g_get C inX11 0 rfl rfl 7 (by decide) wF_X11_26 rfl dX11_takeText_63 ?_
              refine g_iload_n C dX11_takeText_66 1 rfl ?_
              refine g_aload_n C dX11_takeText_67 0 rfl ?_
              refine g_get C inX11 0 rfl rfl 7 (by decide) wF_X11_26 rfl dX11_takeText_68 ?_
              refine g_bipush (v := 12) C dX11_takeText_71 rfl ?_
              refine g_iload_n C dX11_takeText_73 1 rfl ?_
              refine g_iadd C dX11_takeText_74 ?_
              refine g_iald C 4 rfl hc_3 dX11_takeText_75 ?_
              refine g_topi (fun e_4 ee_4 => ?_)
              replace h := h e_4 ee_4
              refine g_iast C 4 rfl hc_4 dX11_takeText_76 (fun first_2 efirst_2 => gG.eqw (ws' := [oX11 h0 thrown (v_tape) taped (.ref q_number) (v_isTold) (.ref q_name) (.ref q_sortOf) (.ref q_first) (.ref q_second) (.ref q_degree) (.ref q_colours) (.ref q_signBy) (.ref q_own) lines size atF place sort value fault faultPlace lastFault lastPlace (v_sF) (v_kept) undoable hasImage (v_power) (v_table) (v_marks) (v_row) rowOf areSums isSieved (v_lastOf) blocks (v_inBlock) (v_atQuotient) (v_small) drawn, aI Y q_number 8 number_1, aI Y q_name 24 name_2, aI Y q_sortOf 24 sortOf_2, aI Y q_first 24 first_2, aI Y q_second 24 second_1, aI Y q_degree 24 degree_1, aI Y q_colours 24 colours_1, aI Y q_signBy 24 signBy_1, aI Y q_own 288 own]) rfl ?_)
              replace h := h first_2 efirst_2
              refine g_aload_n C dX11_takeText_77 0 rfl ?_
              refine g_get C inX11 0 rfl rfl 8 (by decide) wF_X11_29 rfl dX11_takeText_78 ?_
              refine g_iload_n C dX11_takeText_81 1 rfl ?_
              refine g_aload_n C dX11_takeText_82 0 rfl ?_
              refine g_get C inX11 0 rfl rfl 8 (by decide) wF_X11_29 rfl dX11_takeText_83 ?_
              refine g_bipush (v := 12) C dX11_takeText_86 rfl ?_
              refine g_iload_n C dX11_takeText_88 1 rfl ?_
              refine g_iadd C dX11_takeText_89 ?_
              refine g_iald C 5 rfl hc_3 dX11_takeText_90 ?_
              refine g_topi (fun e_5 ee_5 => ?_)
              replace h := h e_5 ee_5
              refine g_iast C 5 rfl hc_4 dX11_takeText_91 (fun second_2 esecond_2 => gG.eqw (ws' := [oX11 h0 thrown (v_tape) taped (.ref q_number) (v_isTold) (.ref q_name) (.ref q_sortOf) (.ref q_first) (.ref q_second) (.ref q_degree) (.ref q_colours) (.ref q_signBy) (.ref q_own) lines size atF place sort value fault faultPlace lastFault lastPlace (v_sF) (v_kept) undoable hasImage (v_power) (v_table) (v_marks) (v_row) rowOf areSums isSieved (v_lastOf) blocks (v_inBlock) (v_atQuotient) (v_small) drawn, aI Y q_number 8 number_1, aI Y q_name 24 name_2, aI Y q_sortOf 24 sortOf_2, aI Y q_first 24 first_2, aI Y q_second 24 second_2, aI Y q_degree 24 degree_1, aI Y q_colours 24 colours_1, aI Y q_signBy 24 signBy_1, aI Y q_own 288 own]) rfl ?_)
              replace h := h second_2 esecond_2
              refine g_aload_n C dX11_takeText_92 0 rfl ?_
              refine g_get C inX11 0 rfl rfl 9 (by decide) wF_X11_32 rfl dX11_takeText_93 ?_
              refine g_iload_n C dX11_takeText_96 1 rfl ?_
              refine g_aload_n C dX11_takeText_97 0 rfl ?_
              refine g_get C inX11 0 rfl rfl 9 (by decide) wF_X11_32 rfl dX11_takeText_98 ?_
              refine g_bipush (v := 12) C dX11_takeText_101 rfl ?_
              refine g_iload_n C dX11_takeText_103 1 rfl ?_
              refine g_iadd C dX11_takeText_104 ?_
              refine g_iald C 6 rfl hc_3 dX11_takeText_105 ?_
              refine g_topi (fun e_6 ee_6 => ?_)
              replace h := h e_6 ee_6
              refine g_iast C 6 rfl hc_4 dX11_takeText_106 (fun degree_2 edegree_2 => gG.eqw (ws' := [oX11 h0 thrown (v_tape) taped (.ref q_number) (v_isTold) (.ref q_name) (.ref q_sortOf) (.ref q_first) (.ref q_second) (.ref q_degree) (.ref q_colours) (.ref q_signBy) (.ref q_own) lines size atF place sort value fault faultPlace lastFault lastPlace (v_sF) (v_kept) undoable hasImage (v_power) (v_table) (v_marks) (v_row) rowOf areSums isSieved (v_lastOf) blocks (v_inBlock) (v_atQuotient) (v_small) drawn, aI Y q_number 8 number_1, aI Y q_name 24 name_2, aI Y q_sortOf 24 sortOf_2, aI Y q_first 24 first_2, aI Y q_second 24 second_2, aI Y q_degree 24 degree_2, aI Y q_colours 24 colours_1, aI Y q_signBy 24 signBy_1, aI Y q_own 288 own]) rfl ?_)
              replace h := h degree_2 edegree_2
              refine g_aload_n C dX11_takeText_107 0 rfl ?_
              refine g_get C inX11 0 rfl rfl 10 (by decide) wF_X11_35 rfl dX11_takeText_108 ?_
              refine g_iload_n C dX11_takeText_111 1 rfl ?_
              refine g_aload_n C dX11_takeText_112 0 rfl ?_
              refine g_get C inX11 0 rfl rfl 10 (by decide) wF_X11_35 rfl dX11_takeText_113 ?_
              refine g_bipush (v := 12) C dX11_takeText_116 rfl ?_
              refine g_iload_n C dX11_takeText_118 1 rfl ?_
              refine g_iadd C dX11_takeText_119 ?_
              refine g_iald C 7 rfl hc_3 dX11_takeText_120 ?_
              refine g_topi (fun e_7 ee_7 => ?_)
              replace h := h e_7 ee_7
              refine g_iast C 7 rfl hc_4 dX11_takeText_121 (fun colours_2 ecolours_2 => gG.eqw (ws' := [oX11 h0 thrown (v_tape) taped (.ref q_number) (v_isTold) (.ref q_name) (.ref q_sortOf) (.ref q_first) (.ref q_second) (.ref q_degree) (.ref q_colours) (.ref q_signBy) (.ref q_own) lines size atF place sort value fault faultPlace lastFault lastPlace (v_sF) (v_kept) undoable hasImage (v_power) (v_table) (v_marks) (v_row) rowOf areSums isSieved (v_lastOf) blocks (v_inBlock) (v_atQuotient) (v_small) drawn, aI Y q_number 8 number_1, aI Y q_name 24 name_2, aI Y q_sortOf 24 sortOf_2, aI Y q_first 24 first_2, aI Y q_second 24 second_2, aI Y q_degree 24 degree_2, aI Y q_colours 24 colours_2, aI Y q_signBy 24 signBy_1, aI Y q_own 288 own]) rfl ?_)
              replace h := h colours_2 ecolours_2
              refine g_aload_n C dX11_takeText_122 0 rfl ?_
              refine g_get C inX11 0 rfl rfl 11 (by decide) wF_X11_38 rfl dX11_takeText_123 ?_
              refine g_iload_n C dX11_takeText_126 1 rfl ?_
              refine g_aload_n C dX11_takeText_127 0 rfl ?_
              refine g_get C inX11 0 rfl rfl 11 (by decide) wF_X11_38 rfl dX11_takeText_128 ?_
              refine g_bipush (v := 12) C dX11_takeText_131 rfl ?_
              refine g_iload_n C dX11_takeText_133 1 rfl ?_
              refine g_iadd C dX11_takeText_134 ?_
              refine g_iald C 8 rfl hc_3 dX11_takeText_135 ?_
              refine g_topi (fun e_8 ee_8 => ?_)
              replace h := h e_8 ee_8
              refine g_iast C 8 rfl hc_4 dX11_takeText_136 (fun signBy_2 esignBy_2 => gG.eqw (ws' := [oX11 h0 thrown (v_tape) taped (.ref q_number) (v_isTold) (.ref q_name) (.ref q_sortOf) (.ref q_first) (.ref q_second) (.ref q_degree) (.ref q_colours) (.ref q_signBy) (.ref q_own) lines size atF place sort value fault faultPlace lastFault lastPlace (v_sF) (v_kept) undoable hasImage (v_power) (v_table) (v_marks) (v_row) rowOf areSums isSieved (v_lastOf) blocks (v_inBlock) (v_atQuotient) (v_small) drawn, aI Y q_number 8 number_1, aI Y q_name 24 name_2, aI Y q_sortOf 24 sortOf_2, aI Y q_first 24 first_2, aI Y q_second 24 second_2, aI Y q_degree 24 degree_2, aI Y q_colours 24 colours_2, aI Y q_signBy 24 signBy_2, aI Y q_own 288 own]) rfl ?_)
              replace h := h signBy_2 esignBy_2
              refine g_iinc (v := x1_2 + 1) (lv' := [(1, .int (x1_2 + 1)), (0, .ref h0)]) C dX11_takeText_137 1 rfl rfl (by decide) rfl ?_
              refine g_goto (tgt := 26) C dX11_takeText_140 (by decide) ?_
              refine gG.locals (lv' := [(0, .ref h0), (1, .int (x1_2 + 1))]) [1, 0] rfl ?_
              exact ih2 colours_2 degree_2 first_2 name_2 second_2 signBy_2 sortOf_2 (x1_2 + 1) (Nat.lt_of_lt_of_le h.2 (Nat.le_of_lt_succ hm2)) h.1
        refine gG.locals (lv' := [(0, .ref h0), (1, .int 0)]) [1, 0] rfl ?_
        exact key_2 (Mea_2 colours degree first name second signBy sortOf 0 + 1) colours degree first name second signBy sortOf 0 (Nat.lt_succ_self _) hI2
      · replace h := h.2 c_1
        refine g_aload_n C dX11_takeText_7 0 rfl ?_
        refine g_get C inX11 0 rfl rfl 3 (by decide) wF_X11_13 rfl dX11_takeText_8 ?_
        refine g_iload_n C dX11_takeText_11 1 rfl ?_
        refine g_aload_n C dX11_takeText_12 0 rfl ?_
        refine g_iload_n C dX11_takeText_13 1 rfl ?_
        obtain ⟨P_1, hP, h⟩ := h
        refine g_callV (As := [.int x1_1]) (rest := [.int x1_1, .ref q_number]) C (mX11_reading l D Y h0 thrown v_tape taped q_number v_isTold (.ref q_name) (.ref q_sortOf) (.ref q_first) (.ref q_second) (.ref q_degree) (.ref q_colours) (.ref q_signBy) (.ref q_own) lines size atF place sort value fault faultPlace lastFault lastPlace v_sF v_kept undoable hasImage v_power v_table v_marks v_row rowOf areSums isSieved v_lastOf blocks v_inBlock v_atQuotient v_small drawn number_1 x1_1 P_1 hP) dX11_takeText_14 rfl wM_X11_166 wI_X11_reading wV_X11_reading wN_X11 wC_X11_reading (n := 1) (by decide +kernel) rfl (q0 := 0) rfl rfl ⟨Nat.le_of_ble_eq_true rfl, Nat.le_of_ble_eq_true rfl⟩ ⟨Nat.le_of_ble_eq_true rfl, Nat.le_of_ble_eq_true rfl⟩ (Nat.le_of_ble_eq_true rfl) [0, 1] [2, 3, 4, 5, 6, 7, 8, 9] rfl rfl rfl (fun v wc hv => ?_)
        obtain ⟨rF_1, rfl, rfl, hq⟩ := hv
        replace h := h rF_1 hq
        refine gG.perm (ws' := [oX11 h0 thrown (v_tape) taped (.ref q_number) (v_isTold) (.ref q_name) (.ref q_sortOf) (.ref q_first) (.ref q_second) (.ref q_degree) (.ref q_colours) (.ref q_signBy) (.ref q_own) lines size atF place sort value fault faultPlace lastFault lastPlace (v_sF) (v_kept) undoable hasImage (v_power) (v_table) (v_marks) (v_row) rowOf areSums isSieved (v_lastOf) blocks (v_inBlock) (v_atQuotient) (v_small) drawn, aI Y q_number 8 number_1, aI Y q_name 24 name, aI Y q_sortOf 24 sortOf, aI Y q_first 24 first, aI Y q_second 24 second, aI Y q_degree 24 degree, aI Y q_colours 24 colours, aI Y q_signBy 24 signBy, aI Y q_own 288 own]) [8, 9, 0, 1, 2, 3, 4, 5, 6, 7] rfl rfl ?_
        obtain ⟨hc_5, h⟩ := h
        refine g_iast C 1 rfl hc_5 dX11_takeText_17 (fun number_2 enumber_2 => gG.eqw (ws' := [oX11 h0 thrown (v_tape) taped (.ref q_number) (v_isTold) (.ref q_name) (.ref q_sortOf) (.ref q_first) (.ref q_second) (.ref q_degree) (.ref q_colours) (.ref q_signBy) (.ref q_own) lines size atF place sort value fault faultPlace lastFault lastPlace (v_sF) (v_kept) undoable hasImage (v_power) (v_table) (v_marks) (v_row) rowOf areSums isSieved (v_lastOf) blocks (v_inBlock) (v_atQuotient) (v_small) drawn, aI Y q_number 8 number_2, aI Y q_name 24 name, aI Y q_sortOf 24 sortOf, aI Y q_first 24 first, aI Y q_second 24 second, aI Y q_degree 24 degree, aI Y q_colours 24 colours, aI Y q_signBy 24 signBy, aI Y q_own 288 own]) rfl ?_)
        replace h := h number_2 enumber_2
        refine g_iinc (v := x1_1 + 1) (lv' := [(1, .int (x1_1 + 1)), (0, .ref h0)]) C dX11_takeText_18 1 rfl rfl (by decide) rfl ?_
        refine g_goto (tgt := 2) C dX11_takeText_21 (by decide) ?_
        refine gG.locals (lv' := [(0, .ref h0), (1, .int (x1_1 + 1))]) [1, 0] rfl ?_
        exact ih1 number_2 (x1_1 + 1) (Nat.lt_of_lt_of_le h.2 (Nat.le_of_lt_succ hm1)) h.1
  refine gG.locals (lv' := [(0, .ref h0), (1, .int 0)]) [1, 0] rfl ?_
  exact key_1 (Mea_1 number 0 + 1) number 0 (Nat.lt_succ_self _) hI1
theorem dX11_isPrime_0 : decode cX11_isPrime 0 = .ok (.aload_n 0, 1) := by decide +kernel
theorem dX11_isPrime_1 : decode cX11_isPrime 1 = .ok (.getfield 61, 3) := by decide +kernel
theorem dX11_isPrime_4 : decode cX11_isPrime 4 = .ok (.iload_n 1, 1) := by decide +kernel
theorem dX11_isPrime_5 : decode cX11_isPrime 5 = .ok (.iconst 5, 1) := by decide +kernel
theorem dX11_isPrime_6 : decode cX11_isPrime 6 = .ok (.ishr, 1) := by decide +kernel
theorem dX11_isPrime_7 : decode cX11_isPrime 7 = .ok (.iaload, 1) := by decide +kernel
theorem dX11_isPrime_8 : decode cX11_isPrime 8 = .ok (.iload_n 1, 1) := by decide +kernel
theorem dX11_isPrime_9 : decode cX11_isPrime 9 = .ok (.bipush 31, 2) := by decide +kernel
theorem dX11_isPrime_11 : decode cX11_isPrime 11 = .ok (.iand, 1) := by decide +kernel
theorem dX11_isPrime_12 : decode cX11_isPrime 12 = .ok (.ishr, 1) := by decide +kernel
theorem dX11_isPrime_13 : decode cX11_isPrime 13 = .ok (.iconst 1, 1) := by decide +kernel
theorem dX11_isPrime_14 : decode cX11_isPrime 14 = .ok (.iand, 1) := by decide +kernel
theorem dX11_isPrime_15 : decode cX11_isPrime 15 = .ok (.ifCond .ne 7, 3) := by decide +kernel
theorem dX11_isPrime_18 : decode cX11_isPrime 18 = .ok (.iconst 1, 1) := by decide +kernel
theorem dX11_isPrime_19 : decode cX11_isPrime 19 = .ok (.goto 4, 3) := by decide +kernel
theorem dX11_isPrime_22 : decode cX11_isPrime 22 = .ok (.iconst 0, 1) := by decide +kernel
theorem dX11_isPrime_23 : decode cX11_isPrime 23 = .ok (.ireturn, 1) := by decide +kernel
/-- QuotientSumsModel.isPrime(I)Z -/
def wX11_isPrime (thrown : Int32) (taped : Int32) (lines : Int32) (size : Int32) (atF : Int32) (place : Int32) (sort : Int32) (value : Int32) (fault : Int32) (faultPlace : Int32) (lastFault : Int32) (lastPlace : Int32) (undoable : Int32) (hasImage : Int32) (rowOf : Int32) (areSums : Int32) (isSieved : Int32) (blocks : Int32) (drawn : Int32) (marks : Nat → Int32) (a1 : Int32) (Q : (Int32) → Prop) : Prop :=
  (vp_in (a1 >>> (5 &&& 31)) 6251 ∧ ∀ t_1 : Int32, t_1 = ((marks (a1 >>> (5 &&& 31)).toNatClampNeg) >>> ((a1 &&& 31) &&& 31)) &&& 1 → ((¬ t_1 = 0 → (Q 0)) ∧ (t_1 = 0 → (Q 1))))
set_option maxHeartbeats 4000000 in
set_option maxRecDepth 100000 in
theorem mX11_isPrime (l : Launch) (D : va_G) (Y : Nat → ClassId) (h0 : Nat) (thrown : Int32) (v_tape : Value) (taped : Int32) (v_number : Value) (v_isTold : Value) (v_name : Value) (v_sortOf : Value) (v_first : Value) (v_second : Value) (v_degree : Value) (v_colours : Value) (v_signBy : Value) (v_own : Value) (lines : Int32) (size : Int32) (atF : Int32) (place : Int32) (sort : Int32) (value : Int32) (fault : Int32) (faultPlace : Int32) (lastFault : Int32) (lastPlace : Int32) (v_sF : Value) (v_kept : Value) (undoable : Int32) (hasImage : Int32) (v_power : Value) (v_table : Value) (q_marks : Nat) (v_row : Value) (rowOf : Int32) (areSums : Int32) (isSieved : Int32) (v_lastOf : Value) (blocks : Int32) (v_inBlock : Value) (v_atQuotient : Value) (v_small : Value) (drawn : Int32) (marks : Nat → Int32) (a1 : Int32) (Q : (Int32) → Prop) (h : wX11_isPrime thrown taped lines size atF place sort value fault faultPlace lastFault lastPlace undoable hasImage rowOf areSums isSieved blocks drawn marks a1 Q) : gM l D Y yX11_isPrime cX11_isPrime 2 (some .boolean) 0 0 0 0 [.ref h0, .int a1] [oX11 h0 thrown (v_tape) taped (v_number) (v_isTold) (v_name) (v_sortOf) (v_first) (v_second) (v_degree) (v_colours) (v_signBy) (v_own) lines size atF place sort value fault faultPlace lastFault lastPlace (v_sF) (v_kept) undoable hasImage (v_power) (v_table) (.ref q_marks) (v_row) rowOf areSums isSieved (v_lastOf) blocks (v_inBlock) (v_atQuotient) (v_small) drawn, aI Y q_marks 6251 marks] (fun v w => ∃ r : Int32, v = some (.int r) ∧ w = [oX11 h0 thrown (v_tape) taped (v_number) (v_isTold) (v_name) (v_sortOf) (v_first) (v_second) (v_degree) (v_colours) (v_signBy) (v_own) lines size atF place sort value fault faultPlace lastFault lastPlace (v_sF) (v_kept) undoable hasImage (v_power) (v_table) (.ref q_marks) (v_row) rowOf areSums isSieved (v_lastOf) blocks (v_inBlock) (v_atQuotient) (v_small) drawn, aI Y q_marks 6251 marks] ∧ Q r) := by
  refine gM_of (own := RX11) (by decide +kernel) rfl (Nat.le_of_ble_eq_true rfl) rfl (fun E C hR => ?_)
  unfold wX11_isPrime at h
  refine g_aload_n C dX11_isPrime_0 0 rfl ?_
  refine g_get C inX11 0 rfl rfl 29 (by decide) wF_X11_61 rfl dX11_isPrime_1 ?_
  refine g_iload_n C dX11_isPrime_4 1 rfl ?_
  refine g_iconst (v := 5) C dX11_isPrime_5 rfl ?_
  refine g_ishr C dX11_isPrime_6 ?_
  obtain ⟨hc_1, h⟩ := h
  refine g_iald C 1 rfl hc_1 dX11_isPrime_7 ?_
  refine g_iload_n C dX11_isPrime_8 1 rfl ?_
  refine g_bipush (v := 31) C dX11_isPrime_9 rfl ?_
  refine g_iand C dX11_isPrime_11 ?_
  refine g_ishr C dX11_isPrime_12 ?_
  refine g_iconst (v := 1) C dX11_isPrime_13 rfl ?_
  refine g_iand C dX11_isPrime_14 ?_
  refine g_topi (fun t_1 et_1 => ?_)
  replace h := h t_1 et_1
  refine g_if_ne (tgt := 22) C dX11_isPrime_15 (by decide) (fun c_1 => ?_) (fun c_1 => ?_)
  · replace h := h.1 c_1
    refine g_iconst (v := 0) C dX11_isPrime_22 rfl ?_
    exact g_zret C hR (by decide) (Nat.le_of_ble_eq_true rfl) (Nat.le_of_ble_eq_true rfl) dX11_isPrime_23 ⟨0, rfl, rfl, h⟩
  · replace h := h.2 c_1
    refine g_iconst (v := 1) C dX11_isPrime_18 rfl ?_
    refine g_goto (tgt := 23) C dX11_isPrime_19 (by decide) ?_
    exact g_zret C hR (by decide) (Nat.le_of_ble_eq_true rfl) (Nat.le_of_ble_eq_true rfl) dX11_isPrime_23 ⟨1, rfl, rfl, h⟩
theorem dX11_sieves_0 : decode cX11_sieves 0 = .ok (.aload_n 0, 1) := by decide +kernel
theorem dX11_sieves_1 : decode cX11_sieves 1 = .ok (.getfield 289, 3) := by decide +kernel
theorem dX11_sieves_4 : decode cX11_sieves 4 = .ok (.ifCond .eq 4, 3) := by decide +kernel
theorem dX11_sieves_7 : decode cX11_sieves 7 = .ok (.return_, 1) := by decide +kernel
theorem dX11_sieves_8 : decode cX11_sieves 8 = .ok (.aload_n 0, 1) := by decide +kernel
theorem dX11_sieves_9 : decode cX11_sieves 9 = .ok (.iconst 1, 1) := by decide +kernel
theorem dX11_sieves_10 : decode cX11_sieves 10 = .ok (.putfield 289, 3) := by decide +kernel
theorem dX11_sieves_13 : decode cX11_sieves 13 = .ok (.aload_n 0, 1) := by decide +kernel
theorem dX11_sieves_14 : decode cX11_sieves 14 = .ok (.getfield 61, 3) := by decide +kernel
theorem dX11_sieves_17 : decode cX11_sieves 17 = .ok (.iconst 0, 1) := by decide +kernel
theorem dX11_sieves_18 : decode cX11_sieves 18 = .ok (.dup2, 1) := by decide +kernel
theorem dX11_sieves_19 : decode cX11_sieves 19 = .ok (.iaload, 1) := by decide +kernel
theorem dX11_sieves_20 : decode cX11_sieves 20 = .ok (.iconst 3, 1) := by decide +kernel
theorem dX11_sieves_21 : decode cX11_sieves 21 = .ok (.ior, 1) := by decide +kernel
theorem dX11_sieves_22 : decode cX11_sieves 22 = .ok (.iastore, 1) := by decide +kernel
theorem dX11_sieves_23 : decode cX11_sieves 23 = .ok (.iconst 2, 1) := by decide +kernel
theorem dX11_sieves_24 : decode cX11_sieves 24 = .ok (.istore_n 1, 1) := by decide +kernel
theorem dX11_sieves_25 : decode cX11_sieves 25 = .ok (.iload_n 1, 1) := by decide +kernel
theorem dX11_sieves_26 : decode cX11_sieves 26 = .ok (.iload_n 1, 1) := by decide +kernel
theorem dX11_sieves_27 : decode cX11_sieves 27 = .ok (.imul, 1) := by decide +kernel
theorem dX11_sieves_28 : decode cX11_sieves 28 = .ok (.ldc 189, 2) := by decide +kernel
theorem dX11_sieves_30 : decode cX11_sieves 30 = .ok (.if_icmp .gt 54, 3) := by decide +kernel
theorem dX11_sieves_33 : decode cX11_sieves 33 = .ok (.aload_n 0, 1) := by decide +kernel
theorem dX11_sieves_34 : decode cX11_sieves 34 = .ok (.iload_n 1, 1) := by decide +kernel
theorem dX11_sieves_35 : decode cX11_sieves 35 = .ok (.invokevirtual 292, 3) := by decide +kernel
theorem dX11_sieves_38 : decode cX11_sieves 38 = .ok (.ifCond .ne 6, 3) := by decide +kernel
theorem dX11_sieves_41 : decode cX11_sieves 41 = .ok (.goto 37, 3) := by decide +kernel
theorem dX11_sieves_44 : decode cX11_sieves 44 = .ok (.iload_n 1, 1) := by decide +kernel
theorem dX11_sieves_45 : decode cX11_sieves 45 = .ok (.iload_n 1, 1) := by decide +kernel
theorem dX11_sieves_46 : decode cX11_sieves 46 = .ok (.imul, 1) := by decide +kernel
theorem dX11_sieves_47 : decode cX11_sieves 47 = .ok (.istore_n 2, 1) := by decide +kernel
theorem dX11_sieves_48 : decode cX11_sieves 48 = .ok (.iload_n 2, 1) := by decide +kernel
theorem dX11_sieves_49 : decode cX11_sieves 49 = .ok (.ldc 189, 2) := by decide +kernel
theorem dX11_sieves_51 : decode cX11_sieves 51 = .ok (.if_icmp .gt 27, 3) := by decide +kernel
theorem dX11_sieves_54 : decode cX11_sieves 54 = .ok (.aload_n 0, 1) := by decide +kernel
theorem dX11_sieves_55 : decode cX11_sieves 55 = .ok (.getfield 61, 3) := by decide +kernel
theorem dX11_sieves_58 : decode cX11_sieves 58 = .ok (.iload_n 2, 1) := by decide +kernel
theorem dX11_sieves_59 : decode cX11_sieves 59 = .ok (.iconst 5, 1) := by decide +kernel
theorem dX11_sieves_60 : decode cX11_sieves 60 = .ok (.ishr, 1) := by decide +kernel
theorem dX11_sieves_61 : decode cX11_sieves 61 = .ok (.dup2, 1) := by decide +kernel
theorem dX11_sieves_62 : decode cX11_sieves 62 = .ok (.iaload, 1) := by decide +kernel
theorem dX11_sieves_63 : decode cX11_sieves 63 = .ok (.iconst 1, 1) := by decide +kernel
theorem dX11_sieves_64 : decode cX11_sieves 64 = .ok (.iload_n 2, 1) := by decide +kernel
theorem dX11_sieves_65 : decode cX11_sieves 65 = .ok (.bipush 31, 2) := by decide +kernel
theorem dX11_sieves_67 : decode cX11_sieves 67 = .ok (.iand, 1) := by decide +kernel
theorem dX11_sieves_68 : decode cX11_sieves 68 = .ok (.ishl, 1) := by decide +kernel
theorem dX11_sieves_69 : decode cX11_sieves 69 = .ok (.ior, 1) := by decide +kernel
theorem dX11_sieves_70 : decode cX11_sieves 70 = .ok (.iastore, 1) := by decide +kernel
theorem dX11_sieves_71 : decode cX11_sieves 71 = .ok (.iload_n 2, 1) := by decide +kernel
theorem dX11_sieves_72 : decode cX11_sieves 72 = .ok (.iload_n 1, 1) := by decide +kernel
theorem dX11_sieves_73 : decode cX11_sieves 73 = .ok (.iadd, 1) := by decide +kernel
theorem dX11_sieves_74 : decode cX11_sieves 74 = .ok (.istore_n 2, 1) := by decide +kernel
theorem dX11_sieves_75 : decode cX11_sieves 75 = .ok (.goto (-27), 3) := by decide +kernel
theorem dX11_sieves_78 : decode cX11_sieves 78 = .ok (.iinc 1 1, 3) := by decide +kernel
theorem dX11_sieves_81 : decode cX11_sieves 81 = .ok (.goto (-56), 3) := by decide +kernel
theorem dX11_sieves_84 : decode cX11_sieves 84 = .ok (.return_, 1) := by decide +kernel
/-- QuotientSumsModel.sieves()V -/
def wX11_sieves (thrown : Int32) (taped : Int32) (lines : Int32) (size : Int32) (atF : Int32) (place : Int32) (sort : Int32) (value : Int32) (fault : Int32) (faultPlace : Int32) (lastFault : Int32) (lastPlace : Int32) (undoable : Int32) (hasImage : Int32) (rowOf : Int32) (areSums : Int32) (isSieved : Int32) (blocks : Int32) (drawn : Int32) (marks : Nat → Int32)  (Q : (Int32) → (Nat → Int32) → Prop) : Prop :=
  ((isSieved = 0 → (∀ e_1 : Int32, e_1 = (marks 0) ||| 3 → ∀ marks_1 : Nat → Int32, marks_1 = upd marks 0 e_1 → (∃ (Inv_1 : (Nat → Int32) → (Int32) → Prop) (Mea_1 : (Nat → Int32) → (Int32) → Nat), Inv_1 marks_1 2 ∧ ∀ (marks_2 : Nat → Int32) (x1_1 : Int32), Inv_1 marks_2 x1_1 → ((200000 < (x1_1 * x1_1) → (Q 1 marks_2)) ∧ (¬ 200000 < (x1_1 * x1_1) → (∃ (P_1 : (Int32) → Prop), wX11_isPrime thrown taped lines size atF place sort value fault faultPlace lastFault lastPlace undoable hasImage rowOf areSums 1 blocks drawn marks_2 x1_1 P_1 ∧ ∀ (rF_1 : Int32), P_1 rF_1 → ((¬ rF_1 = 0 → (∀ x2_1 : Int32, x2_1 = x1_1 * x1_1 → (∃ (Inv_2 : (Nat → Int32) → (Int32) → Prop) (Mea_2 : (Nat → Int32) → (Int32) → Nat), Inv_2 marks_2 x2_1 ∧ ∀ (marks_3 : Nat → Int32) (x2_2 : Int32), Inv_2 marks_3 x2_2 → ((200000 < x2_2 → (Inv_1 marks_3 (x1_1 + 1) ∧ Mea_1 marks_3 (x1_1 + 1) < Mea_1 marks_2 x1_1)) ∧ (¬ 200000 < x2_2 → (vp_in (x2_2 >>> (5 &&& 31)) 6251 ∧ ∀ t_1 : Int32, t_1 = (marks_3 (x2_2 >>> (5 &&& 31)).toNatClampNeg) ||| (1 <<< ((x2_2 &&& 31) &&& 31)) → ∀ marks_4 : Nat → Int32, marks_4 = upd marks_3 (x2_2 >>> (5 &&& 31)).toNatClampNeg t_1 → ∀ x2_3 : Int32, x2_3 = x2_2 + x1_1 → (Inv_2 marks_4 x2_3 ∧ Mea_2 marks_4 x2_3 < Mea_2 marks_3 x2_2))))))) ∧ (rF_1 = 0 → (Inv_1 marks_2 (x1_1 + 1) ∧ Mea_1 marks_2 (x1_1 + 1) < Mea_1 marks_2 x1_1))))))))) ∧ (¬ isSieved = 0 → (Q isSieved marks)))
set_option maxHeartbeats 4000000 in
set_option maxRecDepth 100000 in
theorem mX11_sieves (l : Launch) (D : va_G) (Y : Nat → ClassId) (h0 : Nat) (thrown : Int32) (v_tape : Value) (taped : Int32) (v_number : Value) (v_isTold : Value) (v_name : Value) (v_sortOf : Value) (v_first : Value) (v_second : Value) (v_degree : Value) (v_colours : Value) (v_signBy : Value) (v_own : Value) (lines : Int32) (size : Int32) (atF : Int32) (place : Int32) (sort : Int32) (value : Int32) (fault : Int32) (faultPlace : Int32) (lastFault : Int32) (lastPlace : Int32) (v_sF : Value) (v_kept : Value) (undoable : Int32) (hasImage : Int32) (v_power : Value) (v_table : Value) (q_marks : Nat) (v_row : Value) (rowOf : Int32) (areSums : Int32) (isSieved : Int32) (v_lastOf : Value) (blocks : Int32) (v_inBlock : Value) (v_atQuotient : Value) (v_small : Value) (drawn : Int32) (marks : Nat → Int32)  (Q : (Int32) → (Nat → Int32) → Prop) (h : wX11_sieves thrown taped lines size atF place sort value fault faultPlace lastFault lastPlace undoable hasImage rowOf areSums isSieved blocks drawn marks Q) : gM l D Y yX11_sieves cX11_sieves 3 none 1 21 0 0 [.ref h0] [oX11 h0 thrown (v_tape) taped (v_number) (v_isTold) (v_name) (v_sortOf) (v_first) (v_second) (v_degree) (v_colours) (v_signBy) (v_own) lines size atF place sort value fault faultPlace lastFault lastPlace (v_sF) (v_kept) undoable hasImage (v_power) (v_table) (.ref q_marks) (v_row) rowOf areSums isSieved (v_lastOf) blocks (v_inBlock) (v_atQuotient) (v_small) drawn, aI Y q_marks 6251 marks] (fun v w => ∃ isSieved' : Int32, ∃ marks' : Nat → Int32, v = none ∧ w = [oX11 h0 thrown (v_tape) taped (v_number) (v_isTold) (v_name) (v_sortOf) (v_first) (v_second) (v_degree) (v_colours) (v_signBy) (v_own) lines size atF place sort value fault faultPlace lastFault lastPlace (v_sF) (v_kept) undoable hasImage (v_power) (v_table) (.ref q_marks) (v_row) rowOf areSums isSieved' (v_lastOf) blocks (v_inBlock) (v_atQuotient) (v_small) drawn, aI Y q_marks 6251 marks'] ∧ Q isSieved' marks') := by
  refine gM_of (own := RX11) (by decide +kernel) rfl (Nat.le_of_ble_eq_true rfl) rfl (fun E C hR => ?_)
  unfold wX11_sieves at h
  refine g_aload_n C dX11_sieves_0 0 rfl ?_
  refine g_get C inX11 0 rfl rfl 33 (by decide) wF_X11_289 rfl dX11_sieves_1 ?_
  refine g_if_eq (tgt := 8) C dX11_sieves_4 (by decide) (fun c_1 => ?_) (fun c_1 => ?_)
  · replace h := h.1 c_1
    refine g_aload_n C dX11_sieves_8 0 rfl ?_
    refine g_iconst (v := 1) C dX11_sieves_9 rfl ?_
    refine g_put C inX11 tyX11 tyX11_ok nmX11 0 rfl rfl 33 (by decide) wF_X11_289 rfl rfl rfl (Nat.le_of_ble_eq_true rfl) (ws' := [oX11 h0 thrown (v_tape) taped (v_number) (v_isTold) (v_name) (v_sortOf) (v_first) (v_second) (v_degree) (v_colours) (v_signBy) (v_own) lines size atF place sort value fault faultPlace lastFault lastPlace (v_sF) (v_kept) undoable hasImage (v_power) (v_table) (.ref q_marks) (v_row) rowOf areSums 1 (v_lastOf) blocks (v_inBlock) (v_atQuotient) (v_small) drawn, aI Y q_marks 6251 marks]) rfl dX11_sieves_10 ?_
    refine g_aload_n C dX11_sieves_13 0 rfl ?_
    refine g_get C inX11 0 rfl rfl 29 (by decide) wF_X11_61 rfl dX11_sieves_14 ?_
    refine g_iconst (v := 0) C dX11_sieves_17 rfl ?_
    refine g_dup2 C dX11_sieves_18 rfl rfl ?_
    refine g_iald C 1 rfl (by unfold vp_in; decide) dX11_sieves_19 ?_
    refine g_iconst (v := 3) C dX11_sieves_20 rfl ?_
    refine g_ior C dX11_sieves_21 ?_
    refine g_topi (fun e_1 ee_1 => ?_)
    replace h := h e_1 ee_1
    refine g_iast C 1 rfl (by unfold vp_in; decide) dX11_sieves_22 (fun marks_1 emarks_1 => gG.eqw (ws' := [oX11 h0 thrown (v_tape) taped (v_number) (v_isTold) (v_name) (v_sortOf) (v_first) (v_second) (v_degree) (v_colours) (v_signBy) (v_own) lines size atF place sort value fault faultPlace lastFault lastPlace (v_sF) (v_kept) undoable hasImage (v_power) (v_table) (.ref q_marks) (v_row) rowOf areSums 1 (v_lastOf) blocks (v_inBlock) (v_atQuotient) (v_small) drawn, aI Y q_marks 6251 marks_1]) rfl ?_)
    replace h := h marks_1 emarks_1
    refine g_iconst (v := 2) C dX11_sieves_23 rfl ?_
    refine g_istore_n (lv' := [(1, .int 2), (0, .ref h0)]) C dX11_sieves_24 (by decide) rfl ?_
    obtain ⟨Inv_1, Mea_1, hI1, hB1⟩ := h
    have key_1 : ∀ (n : Nat) (marks_2 : Nat → Int32) (x1_1 : Int32) , Mea_1 marks_2 x1_1 < n → Inv_1 marks_2 x1_1 → gG E 0 0 [oX11 h0 thrown (v_tape) taped (v_number) (v_isTold) (v_name) (v_sortOf) (v_first) (v_second) (v_degree) (v_colours) (v_signBy) (v_own) lines size atF place sort value fault faultPlace lastFault lastPlace (v_sF) (v_kept) undoable hasImage (v_power) (v_table) (.ref q_marks) (v_row) rowOf areSums 1 (v_lastOf) blocks (v_inBlock) (v_atQuotient) (v_small) drawn, aI Y q_marks 6251 marks_2] [(0, .ref h0), (1, .int x1_1)] [] 25 := by
      intro n
      induction n with
      | zero => exact fun _ _ hm => absurd hm (Nat.not_lt_zero _)
      | succ n ih1 =>
        intro marks_2 x1_1  hm1 hI
        have h := hB1 marks_2 x1_1 hI
        refine g_iload_n C dX11_sieves_25 1 rfl ?_
        refine g_iload_n C dX11_sieves_26 1 rfl ?_
        refine g_imul C dX11_sieves_27 ?_
        refine g_ldc C dX11_sieves_28 wK_X11_189 ?_
        refine g_icmp_gt (tgt := 84) C dX11_sieves_30 (by decide) (fun c_2 => ?_) (fun c_2 => ?_)
        · replace h := h.1 c_2
          exact g_vret C hR (Nat.le_of_ble_eq_true rfl) (Nat.le_of_ble_eq_true rfl) dX11_sieves_84 ⟨1, marks_2, rfl, rfl, h⟩
        · replace h := h.2 c_2
          refine g_aload_n C dX11_sieves_33 0 rfl ?_
          refine g_iload_n C dX11_sieves_34 1 rfl ?_
          obtain ⟨P_1, hP, h⟩ := h
          refine g_callV (As := [.int x1_1]) (rest := []) C (mX11_isPrime l D Y h0 thrown v_tape taped v_number v_isTold v_name v_sortOf v_first v_second v_degree v_colours v_signBy v_own lines size atF place sort value fault faultPlace lastFault lastPlace v_sF v_kept undoable hasImage v_power v_table q_marks v_row rowOf areSums 1 v_lastOf blocks v_inBlock v_atQuotient v_small drawn marks_2 x1_1 P_1 hP) dX11_sieves_35 rfl wM_X11_292 wI_X11_isPrime wV_X11_isPrime wN_X11 wC_X11_isPrime (n := 1) (by decide +kernel) rfl (q0 := 0) rfl rfl ⟨Nat.le_of_ble_eq_true rfl, Nat.le_of_ble_eq_true rfl⟩ ⟨Nat.le_of_ble_eq_true rfl, Nat.le_of_ble_eq_true rfl⟩ (Nat.le_of_ble_eq_true rfl) [0, 1] [] rfl rfl rfl (fun v wc hv => ?_)
          obtain ⟨rF_1, rfl, rfl, hq⟩ := hv
          replace h := h rF_1 hq
          refine gG.eqw (ws' := [oX11 h0 thrown (v_tape) taped (v_number) (v_isTold) (v_name) (v_sortOf) (v_first) (v_second) (v_degree) (v_colours) (v_signBy) (v_own) lines size atF place sort value fault faultPlace lastFault lastPlace (v_sF) (v_kept) undoable hasImage (v_power) (v_table) (.ref q_marks) (v_row) rowOf areSums 1 (v_lastOf) blocks (v_inBlock) (v_atQuotient) (v_small) drawn, aI Y q_marks 6251 marks_2]) rfl ?_
          refine g_if_ne (tgt := 44) C dX11_sieves_38 (by decide) (fun c_3 => ?_) (fun c_3 => ?_)
          · replace h := h.1 c_3
            refine g_iload_n C dX11_sieves_44 1 rfl ?_
            refine g_iload_n C dX11_sieves_45 1 rfl ?_
            refine g_imul C dX11_sieves_46 ?_
            refine g_topi (fun x2_1 ex2_1 => ?_)
            replace h := h x2_1 ex2_1
            refine g_istore_n (lv' := [(2, .int x2_1), (0, .ref h0), (1, .int x1_1)]) C dX11_sieves_47 (by decide) rfl ?_
            obtain ⟨Inv_2, Mea_2, hI2, hB2⟩ := h
            have key_2 : ∀ (n : Nat) (marks_3 : Nat → Int32) (x2_2 : Int32) , Mea_2 marks_3 x2_2 < n → Inv_2 marks_3 x2_2 → gG E 0 0 [oX11 h0 thrown (v_tape) taped (v_number) (v_isTold) (v_name) (v_sortOf) (v_first) (v_second) (v_degree) (v_colours) (v_signBy) (v_own) lines size atF place sort value fault faultPlace lastFault lastPlace (v_sF) (v_kept) undoable hasImage (v_power) (v_table) (.ref q_marks) (v_row) rowOf areSums 1 (v_lastOf) blocks (v_inBlock) (v_atQuotient) (v_small) drawn, aI Y q_marks 6251 marks_3] [(0, .ref h0), (1, .int x1_1), (2, .int x2_2)] [] 48 := by
              intro n
              induction n with
              | zero => exact fun _ _ hm => absurd hm (Nat.not_lt_zero _)
              | succ n ih2 =>
                intro marks_3 x2_2  hm2 hI
                have h := hB2 marks_3 x2_2 hI
                refine g_iload_n C dX11_sieves_48 2 rfl ?_
                refine g_ldc C dX11_sieves_49 wK_X11_189 ?_
                refine g_icmp_gt (tgt := 78) C dX11_sieves_51 (by decide) (fun c_4 => ?_) (fun c_4 => ?_)
                · replace h := h.1 c_4
                  refine g_iinc (v := x1_1 + 1) (lv' := [(1, .int (x1_1 + 1)), (0, .ref h0), (2, .int x2_2)]) C dX11_sieves_78 1 rfl rfl (by decide) rfl ?_
                  refine g_goto (tgt := 25) C dX11_sieves_81 (by decide) ?_
                  refine gG.locals (lv' := [(0, .ref h0), (1, .int (x1_1 + 1))]) [1, 0] rfl ?_
                  exact ih1 marks_3 (x1_1 + 1) (Nat.lt_of_lt_of_le h.2 (Nat.le_of_lt_succ hm1)) h.1
                · replace h := h.2 c_4
                  refine g_aload_n C dX11_sieves_54 0 rfl ?_
                  refine g_get C inX11 0 rfl rfl 29 (by decide) wF_X11_61 rfl dX11_sieves_55 ?_
                  refine g_iload_n C dX11_sieves_58 2 rfl ?_
                  refine g_iconst (v := 5) C dX11_sieves_59 rfl ?_
                  refine g_ishr C dX11_sieves_60 ?_
                  refine g_dup2 C dX11_sieves_61 rfl rfl ?_
                  obtain ⟨hc_1, h⟩ := h
                  refine g_iald C 1 rfl hc_1 dX11_sieves_62 ?_
                  refine g_iconst (v := 1) C dX11_sieves_63 rfl ?_
                  refine g_iload_n C dX11_sieves_64 2 rfl ?_
                  refine g_bipush (v := 31) C dX11_sieves_65 rfl ?_
                  refine g_iand C dX11_sieves_67 ?_
                  refine g_ishl C dX11_sieves_68 ?_
                  refine g_ior C dX11_sieves_69 ?_
                  refine g_topi (fun t_1 et_1 => ?_)
                  replace h := h t_1 et_1
                  refine g_iast C 1 rfl hc_1 dX11_sieves_70 (fun marks_4 emarks_4 => gG.eqw (ws' := [oX11 h0 thrown (v_tape) taped (v_number) (v_isTold) (v_name) (v_sortOf) (v_first) (v_second) (v_degree) (v_colours) (v_signBy) (v_own) lines size atF place sort value fault faultPlace lastFault lastPlace (v_sF) (v_kept) undoable hasImage (v_power) (v_table) (.ref q_marks) (v_row) rowOf areSums 1 (v_lastOf) blocks (v_inBlock) (v_atQuotient) (v_small) drawn, aI Y q_marks 6251 marks_4]) rfl ?_)
                  replace h := h marks_4 emarks_4
                  refine g_iload_n C dX11_sieves_71 2 rfl ?_
                  refine g_iload_n C dX11_sieves_72 1 rfl ?_
                  refine g_iadd C dX11_sieves_73 ?_
                  refine g_topi (fun x2_3 ex2_3 => ?_)
                  replace h := h x2_3 ex2_3
                  refine g_istore_n (lv' := [(2, .int x2_3), (0, .ref h0), (1, .int x1_1)]) C dX11_sieves_74 (by decide) rfl ?_
                  refine g_goto (tgt := 48) C dX11_sieves_75 (by decide) ?_
                  refine gG.locals (lv' := [(0, .ref h0), (1, .int x1_1), (2, .int x2_3)]) [1, 2, 0] rfl ?_
                  exact ih2 marks_4 x2_3 (Nat.lt_of_lt_of_le h.2 (Nat.le_of_lt_succ hm2)) h.1
            refine gG.locals (lv' := [(0, .ref h0), (1, .int x1_1), (2, .int x2_1)]) [1, 2, 0] rfl ?_
            exact key_2 (Mea_2 marks_2 x2_1 + 1) marks_2 x2_1 (Nat.lt_succ_self _) hI2
          · replace h := h.2 c_3
            refine g_goto (tgt := 78) C dX11_sieves_41 (by decide) ?_
            refine g_iinc (v := x1_1 + 1) (lv' := [(1, .int (x1_1 + 1)), (0, .ref h0)]) C dX11_sieves_78 1 rfl rfl (by decide) rfl ?_
            refine g_goto (tgt := 25) C dX11_sieves_81 (by decide) ?_
            refine gG.locals (lv' := [(0, .ref h0), (1, .int (x1_1 + 1))]) [1, 0] rfl ?_
            exact ih1 marks_2 (x1_1 + 1) (Nat.lt_of_lt_of_le h.2 (Nat.le_of_lt_succ hm1)) h.1
    refine gG.locals (lv' := [(0, .ref h0), (1, .int 2)]) [1, 0] rfl ?_
    exact key_1 (Mea_1 marks_1 2 + 1) marks_1 2 (Nat.lt_succ_self _) hI1
  · replace h := h.2 c_1
    exact g_vret C hR (Nat.le_of_ble_eq_true rfl) (Nat.le_of_ble_eq_true rfl) dX11_sieves_7 ⟨isSieved, marks, rfl, rfl, h⟩
theorem dX11_forgets_0 : decode cX11_forgets 0 = .ok (.aload_n 0, 1) := by decide +kernel
theorem dX11_forgets_1 : decode cX11_forgets 1 = .ok (.iconst (-1), 1) := by decide +kernel
theorem dX11_forgets_2 : decode cX11_forgets 2 = .ok (.putfield 295, 3) := by decide +kernel
theorem dX11_forgets_5 : decode cX11_forgets 5 = .ok (.return_, 1) := by decide +kernel
/-- QuotientSumsModel.forgets()V -/
def wX11_forgets (thrown : Int32) (taped : Int32) (lines : Int32) (size : Int32) (atF : Int32) (place : Int32) (sort : Int32) (value : Int32) (fault : Int32) (faultPlace : Int32) (lastFault : Int32) (lastPlace : Int32) (undoable : Int32) (hasImage : Int32) (rowOf : Int32) (areSums : Int32) (isSieved : Int32) (blocks : Int32) (drawn : Int32)  (Q : (Int32) → Prop) : Prop :=
  (Q (-1))
set_option maxHeartbeats 4000000 in
set_option maxRecDepth 100000 in
theorem mX11_forgets (l : Launch) (D : va_G) (Y : Nat → ClassId) (h0 : Nat) (thrown : Int32) (v_tape : Value) (taped : Int32) (v_number : Value) (v_isTold : Value) (v_name : Value) (v_sortOf : Value) (v_first : Value) (v_second : Value) (v_degree : Value) (v_colours : Value) (v_signBy : Value) (v_own : Value) (lines : Int32) (size : Int32) (atF : Int32) (place : Int32) (sort : Int32) (value : Int32) (fault : Int32) (faultPlace : Int32) (lastFault : Int32) (lastPlace : Int32) (v_sF : Value) (v_kept : Value) (undoable : Int32) (hasImage : Int32) (v_power : Value) (v_table : Value) (v_marks : Value) (v_row : Value) (rowOf : Int32) (areSums : Int32) (isSieved : Int32) (v_lastOf : Value) (blocks : Int32) (v_inBlock : Value) (v_atQuotient : Value) (v_small : Value) (drawn : Int32)  (Q : (Int32) → Prop) (h : wX11_forgets thrown taped lines size atF place sort value fault faultPlace lastFault lastPlace undoable hasImage rowOf areSums isSieved blocks drawn Q) : gM l D Y yX11_forgets cX11_forgets 1 none 0 0 0 0 [.ref h0] [oX11 h0 thrown (v_tape) taped (v_number) (v_isTold) (v_name) (v_sortOf) (v_first) (v_second) (v_degree) (v_colours) (v_signBy) (v_own) lines size atF place sort value fault faultPlace lastFault lastPlace (v_sF) (v_kept) undoable hasImage (v_power) (v_table) (v_marks) (v_row) rowOf areSums isSieved (v_lastOf) blocks (v_inBlock) (v_atQuotient) (v_small) drawn] (fun v w => ∃ rowOf' : Int32, v = none ∧ w = [oX11 h0 thrown (v_tape) taped (v_number) (v_isTold) (v_name) (v_sortOf) (v_first) (v_second) (v_degree) (v_colours) (v_signBy) (v_own) lines size atF place sort value fault faultPlace lastFault lastPlace (v_sF) (v_kept) undoable hasImage (v_power) (v_table) (v_marks) (v_row) rowOf' areSums isSieved (v_lastOf) blocks (v_inBlock) (v_atQuotient) (v_small) drawn] ∧ Q rowOf') := by
  refine gM_of (own := RX11) (by decide +kernel) rfl (Nat.le_of_ble_eq_true rfl) rfl (fun E C hR => ?_)
  unfold wX11_forgets at h
  refine g_aload_n C dX11_forgets_0 0 rfl ?_
  refine g_iconst (v := (-1)) C dX11_forgets_1 rfl ?_
  refine g_put C inX11 tyX11 tyX11_ok nmX11 0 rfl rfl 31 (by decide) wF_X11_295 rfl rfl rfl (Nat.le_of_ble_eq_true rfl) (ws' := [oX11 h0 thrown (v_tape) taped (v_number) (v_isTold) (v_name) (v_sortOf) (v_first) (v_second) (v_degree) (v_colours) (v_signBy) (v_own) lines size atF place sort value fault faultPlace lastFault lastPlace (v_sF) (v_kept) undoable hasImage (v_power) (v_table) (v_marks) (v_row) (-1) areSums isSieved (v_lastOf) blocks (v_inBlock) (v_atQuotient) (v_small) drawn]) rfl dX11_forgets_2 ?_
  exact g_vret C hR (Nat.le_of_ble_eq_true rfl) (Nat.le_of_ble_eq_true rfl) dX11_forgets_5 ⟨(-1), rfl, rfl, h⟩
theorem dX11_begins_0 : decode cX11_begins 0 = .ok (.aload_n 0, 1) := by decide +kernel
theorem dX11_begins_1 : decode cX11_begins 1 = .ok (.getfield 48, 3) := by decide +kernel
theorem dX11_begins_4 : decode cX11_begins 4 = .ok (.iconst 0, 1) := by decide +kernel
theorem dX11_begins_5 : decode cX11_begins 5 = .ok (.aload_n 0, 1) := by decide +kernel
theorem dX11_begins_6 : decode cX11_begins 6 = .ok (.getfield 13, 3) := by decide +kernel
theorem dX11_begins_9 : decode cX11_begins 9 = .ok (.iconst 0, 1) := by decide +kernel
theorem dX11_begins_10 : decode cX11_begins 10 = .ok (.iaload, 1) := by decide +kernel
theorem dX11_begins_11 : decode cX11_begins 11 = .ok (.iastore, 1) := by decide +kernel
theorem dX11_begins_12 : decode cX11_begins 12 = .ok (.aload_n 0, 1) := by decide +kernel
theorem dX11_begins_13 : decode cX11_begins 13 = .ok (.getfield 48, 3) := by decide +kernel
theorem dX11_begins_16 : decode cX11_begins 16 = .ok (.iconst 1, 1) := by decide +kernel
theorem dX11_begins_17 : decode cX11_begins 17 = .ok (.aload_n 0, 1) := by decide +kernel
theorem dX11_begins_18 : decode cX11_begins 18 = .ok (.getfield 13, 3) := by decide +kernel
theorem dX11_begins_21 : decode cX11_begins 21 = .ok (.iconst 1, 1) := by decide +kernel
theorem dX11_begins_22 : decode cX11_begins 22 = .ok (.iaload, 1) := by decide +kernel
theorem dX11_begins_23 : decode cX11_begins 23 = .ok (.iastore, 1) := by decide +kernel
theorem dX11_begins_24 : decode cX11_begins 24 = .ok (.iconst 0, 1) := by decide +kernel
theorem dX11_begins_25 : decode cX11_begins 25 = .ok (.istore_n 1, 1) := by decide +kernel
theorem dX11_begins_26 : decode cX11_begins 26 = .ok (.iload_n 1, 1) := by decide +kernel
theorem dX11_begins_27 : decode cX11_begins 27 = .ok (.bipush 72, 2) := by decide +kernel
theorem dX11_begins_29 : decode cX11_begins 29 = .ok (.if_icmp .ge 26, 3) := by decide +kernel
theorem dX11_begins_32 : decode cX11_begins 32 = .ok (.aload_n 0, 1) := by decide +kernel
theorem dX11_begins_33 : decode cX11_begins 33 = .ok (.getfield 48, 3) := by decide +kernel
theorem dX11_begins_36 : decode cX11_begins 36 = .ok (.iconst 2, 1) := by decide +kernel
theorem dX11_begins_37 : decode cX11_begins 37 = .ok (.iload_n 1, 1) := by decide +kernel
theorem dX11_begins_38 : decode cX11_begins 38 = .ok (.iadd, 1) := by decide +kernel
theorem dX11_begins_39 : decode cX11_begins 39 = .ok (.aload_n 0, 1) := by decide +kernel
theorem dX11_begins_40 : decode cX11_begins 40 = .ok (.getfield 41, 3) := by decide +kernel
theorem dX11_begins_43 : decode cX11_begins 43 = .ok (.bipush 72, 2) := by decide +kernel
theorem dX11_begins_45 : decode cX11_begins 45 = .ok (.iload_n 1, 1) := by decide +kernel
theorem dX11_begins_46 : decode cX11_begins 46 = .ok (.iadd, 1) := by decide +kernel
theorem dX11_begins_47 : decode cX11_begins 47 = .ok (.iaload, 1) := by decide +kernel
theorem dX11_begins_48 : decode cX11_begins 48 = .ok (.iastore, 1) := by decide +kernel
theorem dX11_begins_49 : decode cX11_begins 49 = .ok (.iinc 1 1, 3) := by decide +kernel
theorem dX11_begins_52 : decode cX11_begins 52 = .ok (.goto (-26), 3) := by decide +kernel
theorem dX11_begins_55 : decode cX11_begins 55 = .ok (.aload_n 0, 1) := by decide +kernel
theorem dX11_begins_56 : decode cX11_begins 56 = .ok (.invokevirtual 229, 3) := by decide +kernel
theorem dX11_begins_59 : decode cX11_begins 59 = .ok (.aload_n 0, 1) := by decide +kernel
theorem dX11_begins_60 : decode cX11_begins 60 = .ok (.invokevirtual 232, 3) := by decide +kernel
theorem dX11_begins_63 : decode cX11_begins 63 = .ok (.return_, 1) := by decide +kernel
/-- QuotientSumsModel.begins()V -/
def wX11_begins (thrown : Int32) (taped : Int32) (lines : Int32) (size : Int32) (atF : Int32) (place : Int32) (sort : Int32) (value : Int32) (fault : Int32) (faultPlace : Int32) (lastFault : Int32) (lastPlace : Int32) (undoable : Int32) (hasImage : Int32) (rowOf : Int32) (areSums : Int32) (isSieved : Int32) (blocks : Int32) (drawn : Int32) (number : Nat → Int32) (sF : Nat → Int32) (own : Nat → Int32) (marks : Nat → Int32)  (Q : (Int32) → (Int32) → (Nat → Int32) → (Nat → Int32) → Prop) : Prop :=
  (∀ e_1 : Int32, e_1 = number 0 → ∀ sF_1 : Nat → Int32, sF_1 = upd sF 0 e_1 → ∀ e_2 : Int32, e_2 = number 1 → ∀ sF_2 : Nat → Int32, sF_2 = upd sF_1 1 e_2 → (∃ (Inv_1 : (Nat → Int32) → (Int32) → Prop) (Mea_1 : (Nat → Int32) → (Int32) → Nat), Inv_1 sF_2 0 ∧ ∀ (sF_3 : Nat → Int32) (x1_1 : Int32), Inv_1 sF_3 x1_1 → ((72 ≤ x1_1 → (∃ (P_1 : (Int32) → (Nat → Int32) → Prop), wX11_sieves thrown taped lines size atF place sort value fault faultPlace lastFault lastPlace undoable hasImage rowOf areSums isSieved blocks drawn marks P_1 ∧ ∀ (isSieved_1 : Int32) (marks_1 : Nat → Int32), P_1 isSieved_1 marks_1 → ∃ (P_2 : (Int32) → Prop), wX11_forgets thrown taped lines size atF place sort value fault faultPlace lastFault lastPlace undoable hasImage rowOf areSums isSieved_1 blocks drawn P_2 ∧ ∀ (rowOf_1 : Int32), P_2 rowOf_1 → (Q rowOf_1 isSieved_1 sF_3 marks_1))) ∧ (¬ 72 ≤ x1_1 → (vp_in (72 + x1_1) 288 ∧ ∀ e_3 : Int32, e_3 = own (72 + x1_1).toNatClampNeg → vp_in (2 + x1_1) 74 ∧ ∀ sF_4 : Nat → Int32, sF_4 = upd sF_3 (2 + x1_1).toNatClampNeg e_3 → (Inv_1 sF_4 (x1_1 + 1) ∧ Mea_1 sF_4 (x1_1 + 1) < Mea_1 sF_3 x1_1))))))
set_option maxHeartbeats 4000000 in
set_option maxRecDepth 100000 in
theorem mX11_begins (l : Launch) (D : va_G) (Y : Nat → ClassId) (h0 : Nat) (thrown : Int32) (v_tape : Value) (taped : Int32) (q_number : Nat) (v_isTold : Value) (v_name : Value) (v_sortOf : Value) (v_first : Value) (v_second : Value) (v_degree : Value) (v_colours : Value) (v_signBy : Value) (q_own : Nat) (lines : Int32) (size : Int32) (atF : Int32) (place : Int32) (sort : Int32) (value : Int32) (fault : Int32) (faultPlace : Int32) (lastFault : Int32) (lastPlace : Int32) (q_sF : Nat) (v_kept : Value) (undoable : Int32) (hasImage : Int32) (v_power : Value) (v_table : Value) (q_marks : Nat) (v_row : Value) (rowOf : Int32) (areSums : Int32) (isSieved : Int32) (v_lastOf : Value) (blocks : Int32) (v_inBlock : Value) (v_atQuotient : Value) (v_small : Value) (drawn : Int32) (number : Nat → Int32) (sF : Nat → Int32) (own : Nat → Int32) (marks : Nat → Int32)  (Q : (Int32) → (Int32) → (Nat → Int32) → (Nat → Int32) → Prop) (h : wX11_begins thrown taped lines size atF place sort value fault faultPlace lastFault lastPlace undoable hasImage rowOf areSums isSieved blocks drawn number sF own marks Q) : gM l D Y yX11_begins cX11_begins 2 none 2 43 0 0 [.ref h0] [oX11 h0 thrown (v_tape) taped (.ref q_number) (v_isTold) (v_name) (v_sortOf) (v_first) (v_second) (v_degree) (v_colours) (v_signBy) (.ref q_own) lines size atF place sort value fault faultPlace lastFault lastPlace (.ref q_sF) (v_kept) undoable hasImage (v_power) (v_table) (.ref q_marks) (v_row) rowOf areSums isSieved (v_lastOf) blocks (v_inBlock) (v_atQuotient) (v_small) drawn, aI Y q_number 8 number, aI Y q_sF 74 sF, aI Y q_own 288 own, aI Y q_marks 6251 marks] (fun v w => ∃ rowOf' : Int32, ∃ isSieved' : Int32, ∃ sF' : Nat → Int32, ∃ marks' : Nat → Int32, v = none ∧ w = [oX11 h0 thrown (v_tape) taped (.ref q_number) (v_isTold) (v_name) (v_sortOf) (v_first) (v_second) (v_degree) (v_colours) (v_signBy) (.ref q_own) lines size atF place sort value fault faultPlace lastFault lastPlace (.ref q_sF) (v_kept) undoable hasImage (v_power) (v_table) (.ref q_marks) (v_row) rowOf' areSums isSieved' (v_lastOf) blocks (v_inBlock) (v_atQuotient) (v_small) drawn, aI Y q_number 8 number, aI Y q_sF 74 sF', aI Y q_own 288 own, aI Y q_marks 6251 marks'] ∧ Q rowOf' isSieved' sF' marks') := by
  refine gM_of (own := RX11) (by decide +kernel) rfl (Nat.le_of_ble_eq_true rfl) rfl (fun E C hR => ?_)
  unfold wX11_begins at h
  refine g_aload_n C dX11_begins_0 0 rfl ?_
  refine g_get C inX11 0 rfl rfl 23 (by decide) wF_X11_48 rfl dX11_begins_1 ?_
  refine g_iconst (v := 0) C dX11_begins_4 rfl ?_
  refine g_aload_n C dX11_begins_5 0 rfl ?_
  refine g_get C inX11 0 rfl rfl 3 (by decide) wF_X11_13 rfl dX11_begins_6 ?_
  refine g_iconst (v := 0) C dX11_begins_9 rfl ?_
  refine g_iald C 1 rfl (by unfold vp_in; decide) dX11_begins_10 ?_
  refine g_topi (fun e_1 ee_1 => ?_)
  replace h := h e_1 ee_1
  refine g_iast C 2 rfl (by unfold vp_in; decide) dX11_begins_11 (fun sF_1 esF_1 => gG.eqw (ws' := [oX11 h0 thrown (v_tape) taped (.ref q_number) (v_isTold) (v_name) (v_sortOf) (v_first) (v_second) (v_degree) (v_colours) (v_signBy) (.ref q_own) lines size atF place sort value fault faultPlace lastFault lastPlace (.ref q_sF) (v_kept) undoable hasImage (v_power) (v_table) (.ref q_marks) (v_row) rowOf areSums isSieved (v_lastOf) blocks (v_inBlock) (v_atQuotient) (v_small) drawn, aI Y q_number 8 number, aI Y q_sF 74 sF_1, aI Y q_own 288 own, aI Y q_marks 6251 marks]) rfl ?_)
  replace h := h sF_1 esF_1
  refine g_aload_n C dX11_begins_12 0 rfl ?_
  refine g_get C inX11 0 rfl rfl 23 (by decide) wF_X11_48 rfl dX11_begins_13 ?_
  refine g_iconst (v := 1) C dX11_begins_16 rfl ?_
  refine g_aload_n C dX11_begins_17 0 rfl ?_
  refine g_get C inX11 0 rfl rfl 3 (by decide) wF_X11_13 rfl dX11_begins_18 ?_
  refine g_iconst (v := 1) C dX11_begins_21 rfl ?_
  refine g_iald C 1 rfl (by unfold vp_in; decide) dX11_begins_22 ?_
  refine g_topi (fun e_2 ee_2 => ?_)
  replace h := h e_2 ee_2
  refine g_iast C 2 rfl (by unfold vp_in; decide) dX11_begins_23 (fun sF_2 esF_2 => gG.eqw (ws' := [oX11 h0 thrown (v_tape) taped (.ref q_number) (v_isTold) (v_name) (v_sortOf) (v_first) (v_second) (v_degree) (v_colours) (v_signBy) (.ref q_own) lines size atF place sort value fault faultPlace lastFault lastPlace (.ref q_sF) (v_kept) undoable hasImage (v_power) (v_table) (.ref q_marks) (v_row) rowOf areSums isSieved (v_lastOf) blocks (v_inBlock) (v_atQuotient) (v_small) drawn, aI Y q_number 8 number, aI Y q_sF 74 sF_2, aI Y q_own 288 own, aI Y q_marks 6251 marks]) rfl ?_)
  replace h := h sF_2 esF_2
  refine g_iconst (v := 0) C dX11_begins_24 rfl ?_
  refine g_istore_n (lv' := [(1, .int 0), (0, .ref h0)]) C dX11_begins_25 (by decide) rfl ?_
  obtain ⟨Inv_1, Mea_1, hI1, hB1⟩ := h
  have key_1 : ∀ (n : Nat) (sF_3 : Nat → Int32) (x1_1 : Int32) , Mea_1 sF_3 x1_1 < n → Inv_1 sF_3 x1_1 → gG E 0 0 [oX11 h0 thrown (v_tape) taped (.ref q_number) (v_isTold) (v_name) (v_sortOf) (v_first) (v_second) (v_degree) (v_colours) (v_signBy) (.ref q_own) lines size atF place sort value fault faultPlace lastFault lastPlace (.ref q_sF) (v_kept) undoable hasImage (v_power) (v_table) (.ref q_marks) (v_row) rowOf areSums isSieved (v_lastOf) blocks (v_inBlock) (v_atQuotient) (v_small) drawn, aI Y q_number 8 number, aI Y q_sF 74 sF_3, aI Y q_own 288 own, aI Y q_marks 6251 marks] [(0, .ref h0), (1, .int x1_1)] [] 26 := by
    intro n
    induction n with
    | zero => exact fun _ _ hm => absurd hm (Nat.not_lt_zero _)
    | succ n ih1 =>
      intro sF_3 x1_1  hm1 hI
      have h := hB1 sF_3 x1_1 hI
      refine g_iload_n C dX11_begins_26 1 rfl ?_
      refine g_bipush (v := 72) C dX11_begins_27 rfl ?_
      refine g_icmp_ge (tgt := 55) C dX11_begins_29 (by decide) (fun c_1 => ?_) (fun c_1 => ?_)
      · replace h := h.1 c_1
        refine g_aload_n C dX11_begins_55 0 rfl ?_
        obtain ⟨P_1, hP, h⟩ := h
        refine g_callV (As := []) (rest := []) C (mX11_sieves l D Y h0 thrown v_tape taped (.ref q_number) v_isTold v_name v_sortOf v_first v_second v_degree v_colours v_signBy (.ref q_own) lines size atF place sort value fault faultPlace lastFault lastPlace (.ref q_sF) v_kept undoable hasImage v_power v_table q_marks v_row rowOf areSums isSieved v_lastOf blocks v_inBlock v_atQuotient v_small drawn marks P_1 hP) dX11_begins_56 rfl wM_X11_229 wI_X11_sieves wV_X11_sieves wN_X11 wC_X11_sieves (n := 0) (by decide +kernel) rfl (q0 := 0) rfl rfl ⟨Nat.le_of_ble_eq_true rfl, Nat.le_of_ble_eq_true rfl⟩ ⟨Nat.le_of_ble_eq_true rfl, Nat.le_of_ble_eq_true rfl⟩ (Nat.le_of_ble_eq_true rfl) [0, 4] [1, 2, 3] rfl rfl rfl (fun v wc hv => ?_)
        obtain ⟨isSieved_1, marks_1, rfl, rfl, hq⟩ := hv
        replace h := h isSieved_1 marks_1 hq
        refine gG.perm (ws' := [oX11 h0 thrown (v_tape) taped (.ref q_number) (v_isTold) (v_name) (v_sortOf) (v_first) (v_second) (v_degree) (v_colours) (v_signBy) (.ref q_own) lines size atF place sort value fault faultPlace lastFault lastPlace (.ref q_sF) (v_kept) undoable hasImage (v_power) (v_table) (.ref q_marks) (v_row) rowOf areSums isSieved_1 (v_lastOf) blocks (v_inBlock) (v_atQuotient) (v_small) drawn, aI Y q_number 8 number, aI Y q_sF 74 sF_3, aI Y q_own 288 own, aI Y q_marks 6251 marks_1]) [3, 0, 1, 2, 4] rfl rfl ?_
        refine g_aload_n C dX11_begins_59 0 rfl ?_
        obtain ⟨P_2, hP, h⟩ := h
        refine g_callV (As := []) (rest := []) C (mX11_forgets l D Y h0 thrown v_tape taped (.ref q_number) v_isTold v_name v_sortOf v_first v_second v_degree v_colours v_signBy (.ref q_own) lines size atF place sort value fault faultPlace lastFault lastPlace (.ref q_sF) v_kept undoable hasImage v_power v_table (.ref q_marks) v_row rowOf areSums isSieved_1 v_lastOf blocks v_inBlock v_atQuotient v_small drawn P_2 hP) dX11_begins_60 rfl wM_X11_232 wI_X11_forgets wV_X11_forgets wN_X11 wC_X11_forgets (n := 0) (by decide +kernel) rfl (q0 := 0) rfl rfl ⟨Nat.le_of_ble_eq_true rfl, Nat.le_of_ble_eq_true rfl⟩ ⟨Nat.le_of_ble_eq_true rfl, Nat.le_of_ble_eq_true rfl⟩ (Nat.le_of_ble_eq_true rfl) [0] [1, 2, 3, 4] rfl rfl rfl (fun v wc hv => ?_)
        obtain ⟨rowOf_1, rfl, rfl, hq⟩ := hv
        replace h := h rowOf_1 hq
        refine gG.perm (ws' := [oX11 h0 thrown (v_tape) taped (.ref q_number) (v_isTold) (v_name) (v_sortOf) (v_first) (v_second) (v_degree) (v_colours) (v_signBy) (.ref q_own) lines size atF place sort value fault faultPlace lastFault lastPlace (.ref q_sF) (v_kept) undoable hasImage (v_power) (v_table) (.ref q_marks) (v_row) rowOf_1 areSums isSieved_1 (v_lastOf) blocks (v_inBlock) (v_atQuotient) (v_small) drawn, aI Y q_number 8 number, aI Y q_sF 74 sF_3, aI Y q_own 288 own, aI Y q_marks 6251 marks_1]) [4, 0, 1, 2, 3] rfl rfl ?_
        exact g_vret C hR (Nat.le_of_ble_eq_true rfl) (Nat.le_of_ble_eq_true rfl) dX11_begins_63 ⟨rowOf_1, isSieved_1, sF_3, marks_1, rfl, rfl, h⟩
      · replace h := h.2 c_1
        refine g_aload_n C dX11_begins_32 0 rfl ?_
        refine g_get C inX11 0 rfl rfl 23 (by decide) wF_X11_48 rfl dX11_begins_33 ?_
        refine g_iconst (v := 2) C dX11_begins_36 rfl ?_
        refine g_iload_n C dX11_begins_37 1 rfl ?_
        refine g_iadd C dX11_begins_38 ?_
        refine g_aload_n C dX11_begins_39 0 rfl ?_
        refine g_get C inX11 0 rfl rfl 12 (by decide) wF_X11_41 rfl dX11_begins_40 ?_
        refine g_bipush (v := 72) C dX11_begins_43 rfl ?_
        refine g_iload_n C dX11_begins_45 1 rfl ?_
        refine g_iadd C dX11_begins_46 ?_
        obtain ⟨hc_1, h⟩ := h
        refine g_iald C 3 rfl hc_1 dX11_begins_47 ?_
        refine g_topi (fun e_3 ee_3 => ?_)
        replace h := h e_3 ee_3
        obtain ⟨hc_2, h⟩ := h
        refine g_iast C 2 rfl hc_2 dX11_begins_48 (fun sF_4 esF_4 => gG.eqw (ws' := [oX11 h0 thrown (v_tape) taped (.ref q_number) (v_isTold) (v_name) (v_sortOf) (v_first) (v_second) (v_degree) (v_colours) (v_signBy) (.ref q_own) lines size atF place sort value fault faultPlace lastFault lastPlace (.ref q_sF) (v_kept) undoable hasImage (v_power) (v_table) (.ref q_marks) (v_row) rowOf areSums isSieved (v_lastOf) blocks (v_inBlock) (v_atQuotient) (v_small) drawn, aI Y q_number 8 number, aI Y q_sF 74 sF_4, aI Y q_own 288 own, aI Y q_marks 6251 marks]) rfl ?_)
        replace h := h sF_4 esF_4
        refine g_iinc (v := x1_1 + 1) (lv' := [(1, .int (x1_1 + 1)), (0, .ref h0)]) C dX11_begins_49 1 rfl rfl (by decide) rfl ?_
        refine g_goto (tgt := 26) C dX11_begins_52 (by decide) ?_
        refine gG.locals (lv' := [(0, .ref h0), (1, .int (x1_1 + 1))]) [1, 0] rfl ?_
        exact ih1 sF_4 (x1_1 + 1) (Nat.lt_of_lt_of_le h.2 (Nat.le_of_lt_succ hm1)) h.1
  refine gG.locals (lv' := [(0, .ref h0), (1, .int 0)]) [1, 0] rfl ?_
  exact key_1 (Mea_1 sF_2 0 + 1) sF_2 0 (Nat.lt_succ_self _) hI1
theorem dX11_init_0 : decode cX11_init 0 = .ok (.aload_n 0, 1) := by decide +kernel
theorem dX11_init_1 : decode cX11_init 1 = .ok (.invokespecial 1, 3) := by decide +kernel
theorem dX11_init_4 : decode cX11_init 4 = .ok (.aload_n 0, 1) := by decide +kernel
theorem dX11_init_5 : decode cX11_init 5 = .ok (.sipush 700, 3) := by decide +kernel
theorem dX11_init_8 : decode cX11_init 8 = .ok (.newarray .int, 2) := by decide +kernel
theorem dX11_init_10 : decode cX11_init 10 = .ok (.putfield 7, 3) := by decide +kernel
theorem dX11_init_13 : decode cX11_init 13 = .ok (.aload_n 0, 1) := by decide +kernel
theorem dX11_init_14 : decode cX11_init 14 = .ok (.bipush 8, 2) := by decide +kernel
theorem dX11_init_16 : decode cX11_init 16 = .ok (.newarray .int, 2) := by decide +kernel
theorem dX11_init_18 : decode cX11_init 18 = .ok (.putfield 13, 3) := by decide +kernel
theorem dX11_init_21 : decode cX11_init 21 = .ok (.aload_n 0, 1) := by decide +kernel
theorem dX11_init_22 : decode cX11_init 22 = .ok (.bipush 9, 2) := by decide +kernel
theorem dX11_init_24 : decode cX11_init 24 = .ok (.newarray .boolean, 2) := by decide +kernel
theorem dX11_init_26 : decode cX11_init 26 = .ok (.putfield 16, 3) := by decide +kernel
theorem dX11_init_29 : decode cX11_init 29 = .ok (.aload_n 0, 1) := by decide +kernel
theorem dX11_init_30 : decode cX11_init 30 = .ok (.bipush 24, 2) := by decide +kernel
theorem dX11_init_32 : decode cX11_init 32 = .ok (.newarray .int, 2) := by decide +kernel
theorem dX11_init_34 : decode cX11_init 34 = .ok (.putfield 20, 3) := by decide +kernel
theorem dX11_init_37 : decode cX11_init 37 = .ok (.aload_n 0, 1) := by decide +kernel
theorem dX11_init_38 : decode cX11_init 38 = .ok (.bipush 24, 2) := by decide +kernel
theorem dX11_init_40 : decode cX11_init 40 = .ok (.newarray .int, 2) := by decide +kernel
theorem dX11_init_42 : decode cX11_init 42 = .ok (.putfield 23, 3) := by decide +kernel
theorem dX11_init_45 : decode cX11_init 45 = .ok (.aload_n 0, 1) := by decide +kernel
theorem dX11_init_46 : decode cX11_init 46 = .ok (.bipush 24, 2) := by decide +kernel
theorem dX11_init_48 : decode cX11_init 48 = .ok (.newarray .int, 2) := by decide +kernel
theorem dX11_init_50 : decode cX11_init 50 = .ok (.putfield 26, 3) := by decide +kernel
theorem dX11_init_53 : decode cX11_init 53 = .ok (.aload_n 0, 1) := by decide +kernel
theorem dX11_init_54 : decode cX11_init 54 = .ok (.bipush 24, 2) := by decide +kernel
theorem dX11_init_56 : decode cX11_init 56 = .ok (.newarray .int, 2) := by decide +kernel
theorem dX11_init_58 : decode cX11_init 58 = .ok (.putfield 29, 3) := by decide +kernel
theorem dX11_init_61 : decode cX11_init 61 = .ok (.aload_n 0, 1) := by decide +kernel
theorem dX11_init_62 : decode cX11_init 62 = .ok (.bipush 24, 2) := by decide +kernel
theorem dX11_init_64 : decode cX11_init 64 = .ok (.newarray .int, 2) := by decide +kernel
theorem dX11_init_66 : decode cX11_init 66 = .ok (.putfield 32, 3) := by decide +kernel
theorem dX11_init_69 : decode cX11_init 69 = .ok (.aload_n 0, 1) := by decide +kernel
theorem dX11_init_70 : decode cX11_init 70 = .ok (.bipush 24, 2) := by decide +kernel
theorem dX11_init_72 : decode cX11_init 72 = .ok (.newarray .int, 2) := by decide +kernel
theorem dX11_init_74 : decode cX11_init 74 = .ok (.putfield 35, 3) := by decide +kernel
theorem dX11_init_77 : decode cX11_init 77 = .ok (.aload_n 0, 1) := by decide +kernel
theorem dX11_init_78 : decode cX11_init 78 = .ok (.bipush 24, 2) := by decide +kernel
theorem dX11_init_80 : decode cX11_init 80 = .ok (.newarray .int, 2) := by decide +kernel
theorem dX11_init_82 : decode cX11_init 82 = .ok (.putfield 38, 3) := by decide +kernel
theorem dX11_init_85 : decode cX11_init 85 = .ok (.aload_n 0, 1) := by decide +kernel
theorem dX11_init_86 : decode cX11_init 86 = .ok (.sipush 288, 3) := by decide +kernel
theorem dX11_init_89 : decode cX11_init 89 = .ok (.newarray .int, 2) := by decide +kernel
theorem dX11_init_91 : decode cX11_init 91 = .ok (.putfield 41, 3) := by decide +kernel
theorem dX11_init_94 : decode cX11_init 94 = .ok (.aload_n 0, 1) := by decide +kernel
theorem dX11_init_95 : decode cX11_init 95 = .ok (.iconst (-1), 1) := by decide +kernel
theorem dX11_init_96 : decode cX11_init 96 = .ok (.putfield 44, 3) := by decide +kernel
theorem dX11_init_99 : decode cX11_init 99 = .ok (.aload_n 0, 1) := by decide +kernel
theorem dX11_init_100 : decode cX11_init 100 = .ok (.bipush 74, 2) := by decide +kernel
theorem dX11_init_102 : decode cX11_init 102 = .ok (.newarray .int, 2) := by decide +kernel
theorem dX11_init_104 : decode cX11_init 104 = .ok (.putfield 48, 3) := by decide +kernel
theorem dX11_init_107 : decode cX11_init 107 = .ok (.aload_n 0, 1) := by decide +kernel
theorem dX11_init_108 : decode cX11_init 108 = .ok (.sipush 1554, 3) := by decide +kernel
theorem dX11_init_111 : decode cX11_init 111 = .ok (.newarray .int, 2) := by decide +kernel
theorem dX11_init_113 : decode cX11_init 113 = .ok (.putfield 51, 3) := by decide +kernel
theorem dX11_init_116 : decode cX11_init 116 = .ok (.aload_n 0, 1) := by decide +kernel
theorem dX11_init_117 : decode cX11_init 117 = .ok (.bipush 18, 2) := by decide +kernel
theorem dX11_init_119 : decode cX11_init 119 = .ok (.newarray .long, 2) := by decide +kernel
theorem dX11_init_121 : decode cX11_init 121 = .ok (.putfield 54, 3) := by decide +kernel
theorem dX11_init_124 : decode cX11_init 124 = .ok (.aload_n 0, 1) := by decide +kernel
theorem dX11_init_125 : decode cX11_init 125 = .ok (.sipush 216, 3) := by decide +kernel
theorem dX11_init_128 : decode cX11_init 128 = .ok (.newarray .long, 2) := by decide +kernel
theorem dX11_init_130 : decode cX11_init 130 = .ok (.putfield 58, 3) := by decide +kernel
theorem dX11_init_133 : decode cX11_init 133 = .ok (.aload_n 0, 1) := by decide +kernel
theorem dX11_init_134 : decode cX11_init 134 = .ok (.sipush 6251, 3) := by decide +kernel
theorem dX11_init_137 : decode cX11_init 137 = .ok (.newarray .int, 2) := by decide +kernel
theorem dX11_init_139 : decode cX11_init 139 = .ok (.putfield 61, 3) := by decide +kernel
theorem dX11_init_142 : decode cX11_init 142 = .ok (.aload_n 0, 1) := by decide +kernel
theorem dX11_init_143 : decode cX11_init 143 = .ok (.ldc 64, 2) := by decide +kernel
theorem dX11_init_145 : decode cX11_init 145 = .ok (.newarray .int, 2) := by decide +kernel
theorem dX11_init_147 : decode cX11_init 147 = .ok (.putfield 65, 3) := by decide +kernel
theorem dX11_init_150 : decode cX11_init 150 = .ok (.aload_n 0, 1) := by decide +kernel
theorem dX11_init_151 : decode cX11_init 151 = .ok (.sipush 900, 3) := by decide +kernel
theorem dX11_init_154 : decode cX11_init 154 = .ok (.newarray .int, 2) := by decide +kernel
theorem dX11_init_156 : decode cX11_init 156 = .ok (.putfield 68, 3) := by decide +kernel
theorem dX11_init_159 : decode cX11_init 159 = .ok (.aload_n 0, 1) := by decide +kernel
theorem dX11_init_160 : decode cX11_init 160 = .ok (.sipush 900, 3) := by decide +kernel
theorem dX11_init_163 : decode cX11_init 163 = .ok (.newarray .long, 2) := by decide +kernel
theorem dX11_init_165 : decode cX11_init 165 = .ok (.putfield 71, 3) := by decide +kernel
theorem dX11_init_168 : decode cX11_init 168 = .ok (.aload_n 0, 1) := by decide +kernel
theorem dX11_init_169 : decode cX11_init 169 = .ok (.sipush 900, 3) := by decide +kernel
theorem dX11_init_172 : decode cX11_init 172 = .ok (.newarray .long, 2) := by decide +kernel
theorem dX11_init_174 : decode cX11_init 174 = .ok (.putfield 74, 3) := by decide +kernel
theorem dX11_init_177 : decode cX11_init 177 = .ok (.aload_n 0, 1) := by decide +kernel
theorem dX11_init_178 : decode cX11_init 178 = .ok (.sipush 1601, 3) := by decide +kernel
theorem dX11_init_181 : decode cX11_init 181 = .ok (.newarray .long, 2) := by decide +kernel
theorem dX11_init_183 : decode cX11_init 183 = .ok (.putfield 77, 3) := by decide +kernel
theorem dX11_init_186 : decode cX11_init 186 = .ok (.aload_n 0, 1) := by decide +kernel
theorem dX11_init_187 : decode cX11_init 187 = .ok (.invokevirtual 80, 3) := by decide +kernel
theorem dX11_init_190 : decode cX11_init 190 = .ok (.aload_n 0, 1) := by decide +kernel
theorem dX11_init_191 : decode cX11_init 191 = .ok (.invokevirtual 83, 3) := by decide +kernel
theorem dX11_init_194 : decode cX11_init 194 = .ok (.aload_n 0, 1) := by decide +kernel
theorem dX11_init_195 : decode cX11_init 195 = .ok (.invokevirtual 86, 3) := by decide +kernel
theorem dX11_init_198 : decode cX11_init 198 = .ok (.return_, 1) := by decide +kernel
/-- QuotientSumsModel.<init>()V -/
def wX11_init   (Q : (Int32) → (Int32) → (Int32) → (Int32) → (Int32) → (Int32) → (Int32) → (Int32) → (Int32) → (Int32) → (Int32) → (Int32) → (Int32) → (Int32) → (Int32) → (Int32) → (Int32) → (Int32) → (Int32) → (Nat → Int32) → (Nat → Int32) → (Nat → Int32) → (Nat → Int32) → (Nat → Int32) → (Nat → Int32) → (Nat → Int32) → (Nat → Int32) → (Nat → Int32) → (Nat → Int32) → (Nat → Int32) → (Nat → Int32) → (Nat → Int32) → (Nat → Int64) → (Nat → Int64) → (Nat → Int32) → (Nat → Int32) → (Nat → Int32) → (Nat → Int64) → (Nat → Int64) → (Nat → Int64) → Prop) : Prop :=
  (∀ z_1 : Nat → Int32, z_1 = (fun _ => 0) → ∀ z_2 : Nat → Int32, z_2 = (fun _ => 0) → ∀ z_3 : Nat → Int32, z_3 = (fun _ => 0) → ∀ z_4 : Nat → Int32, z_4 = (fun _ => 0) → ∀ z_5 : Nat → Int32, z_5 = (fun _ => 0) → ∀ z_6 : Nat → Int32, z_6 = (fun _ => 0) → ∀ z_7 : Nat → Int32, z_7 = (fun _ => 0) → ∀ z_8 : Nat → Int32, z_8 = (fun _ => 0) → ∀ z_9 : Nat → Int32, z_9 = (fun _ => 0) → ∀ z_10 : Nat → Int32, z_10 = (fun _ => 0) → ∀ z_11 : Nat → Int32, z_11 = (fun _ => 0) → ∀ z_12 : Nat → Int32, z_12 = (fun _ => 0) → ∀ z_13 : Nat → Int32, z_13 = (fun _ => 0) → ∀ z_14 : Nat → Int64, z_14 = (fun _ => 0) → ∀ z_15 : Nat → Int64, z_15 = (fun _ => 0) → ∀ z_16 : Nat → Int32, z_16 = (fun _ => 0) → ∀ z_17 : Nat → Int32, z_17 = (fun _ => 0) → ∀ z_18 : Nat → Int32, z_18 = (fun _ => 0) → ∀ z_19 : Nat → Int64, z_19 = (fun _ => 0) → ∀ z_20 : Nat → Int64, z_20 = (fun _ => 0) → ∀ z_21 : Nat → Int64, z_21 = (fun _ => 0) → ∃ (P_1 : (Nat → Int32) → (Nat → Int32) → (Nat → Int32) → (Nat → Int32) → (Nat → Int32) → (Nat → Int32) → (Nat → Int32) → (Nat → Int32) → (Nat → Int32) → Prop), wX11_freshText 0 0 0 0 0 0 0 0 0 0 0 (-1) 0 0 0 0 0 0 0 z_2 z_3 z_4 z_5 z_6 z_7 z_8 z_9 z_10 P_1 ∧ ∀ (number_1 : Nat → Int32) (isTold_1 : Nat → Int32) (name_1 : Nat → Int32) (sortOf_1 : Nat → Int32) (first_1 : Nat → Int32) (second_1 : Nat → Int32) (degree_1 : Nat → Int32) (colours_1 : Nat → Int32) (signBy_1 : Nat → Int32), P_1 number_1 isTold_1 name_1 sortOf_1 first_1 second_1 degree_1 colours_1 signBy_1 → ∃ (P_2 : (Nat → Int32) → (Nat → Int32) → (Nat → Int32) → (Nat → Int32) → (Nat → Int32) → (Nat → Int32) → (Nat → Int32) → (Nat → Int32) → (Nat → Int32) → Prop), wX11_takeText 0 0 0 0 0 0 0 0 0 0 0 (-1) 0 0 0 0 0 0 0 number_1 name_1 sortOf_1 first_1 second_1 degree_1 colours_1 signBy_1 z_11 P_2 ∧ ∀ (number_2 : Nat → Int32) (name_2 : Nat → Int32) (sortOf_2 : Nat → Int32) (first_2 : Nat → Int32) (second_2 : Nat → Int32) (degree_2 : Nat → Int32) (colours_2 : Nat → Int32) (signBy_2 : Nat → Int32) (own_1 : Nat → Int32), P_2 number_2 name_2 sortOf_2 first_2 second_2 degree_2 colours_2 signBy_2 own_1 → ∃ (P_3 : (Int32) → (Int32) → (Nat → Int32) → (Nat → Int32) → Prop), wX11_begins 0 0 0 0 0 0 0 0 0 0 0 (-1) 0 0 0 0 0 0 0 number_2 z_12 own_1 z_16 P_3 ∧ ∀ (rowOf_1 : Int32) (isSieved_1 : Int32) (sF_1 : Nat → Int32) (marks_1 : Nat → Int32), P_3 rowOf_1 isSieved_1 sF_1 marks_1 → (Q 0 0 0 0 0 0 0 0 0 0 0 (-1) 0 0 rowOf_1 0 isSieved_1 0 0 z_1 number_2 isTold_1 name_2 sortOf_2 first_2 second_2 degree_2 colours_2 signBy_2 own_1 sF_1 z_13 z_14 z_15 marks_1 z_17 z_18 z_19 z_20 z_21))
set_option maxHeartbeats 4000000 in
set_option maxRecDepth 100000 in
theorem mX11_init (l : Launch) (D : va_G) (Y : Nat → ClassId) (h0 : Nat)   (Q : (Int32) → (Int32) → (Int32) → (Int32) → (Int32) → (Int32) → (Int32) → (Int32) → (Int32) → (Int32) → (Int32) → (Int32) → (Int32) → (Int32) → (Int32) → (Int32) → (Int32) → (Int32) → (Int32) → (Nat → Int32) → (Nat → Int32) → (Nat → Int32) → (Nat → Int32) → (Nat → Int32) → (Nat → Int32) → (Nat → Int32) → (Nat → Int32) → (Nat → Int32) → (Nat → Int32) → (Nat → Int32) → (Nat → Int32) → (Nat → Int32) → (Nat → Int64) → (Nat → Int64) → (Nat → Int32) → (Nat → Int32) → (Nat → Int32) → (Nat → Int64) → (Nat → Int64) → (Nat → Int64) → Prop) (h : wX11_init  Q) : gM l D Y yX11_init cX11_init 1 none 6 129 21 213588 [.ref h0] [oX11 h0 0 (.null) 0 (.null) (.null) (.null) (.null) (.null) (.null) (.null) (.null) (.null) (.null) 0 0 0 0 0 0 0 0 0 0 (.null) (.null) 0 0 (.null) (.null) (.null) (.null) 0 0 0 (.null) 0 (.null) (.null) (.null) 0] (fun v w => ∃ thrown' : Int32, ∃ q_tape : Nat, ∃ taped' : Int32, ∃ q_number : Nat, ∃ q_isTold : Nat, ∃ q_name : Nat, ∃ q_sortOf : Nat, ∃ q_first : Nat, ∃ q_second : Nat, ∃ q_degree : Nat, ∃ q_colours : Nat, ∃ q_signBy : Nat, ∃ q_own : Nat, ∃ lines' : Int32, ∃ size' : Int32, ∃ atF' : Int32, ∃ place' : Int32, ∃ sort' : Int32, ∃ value' : Int32, ∃ fault' : Int32, ∃ faultPlace' : Int32, ∃ lastFault' : Int32, ∃ lastPlace' : Int32, ∃ q_sF : Nat, ∃ q_kept : Nat, ∃ undoable' : Int32, ∃ hasImage' : Int32, ∃ q_power : Nat, ∃ q_table : Nat, ∃ q_marks : Nat, ∃ q_row : Nat, ∃ rowOf' : Int32, ∃ areSums' : Int32, ∃ isSieved' : Int32, ∃ q_lastOf : Nat, ∃ blocks' : Int32, ∃ q_inBlock : Nat, ∃ q_atQuotient : Nat, ∃ q_small : Nat, ∃ drawn' : Int32, ∃ tape' : Nat → Int32, ∃ number' : Nat → Int32, ∃ isTold' : Nat → Int32, ∃ name' : Nat → Int32, ∃ sortOf' : Nat → Int32, ∃ first' : Nat → Int32, ∃ second' : Nat → Int32, ∃ degree' : Nat → Int32, ∃ colours' : Nat → Int32, ∃ signBy' : Nat → Int32, ∃ own' : Nat → Int32, ∃ sF' : Nat → Int32, ∃ kept' : Nat → Int32, ∃ power' : Nat → Int64, ∃ table' : Nat → Int64, ∃ marks' : Nat → Int32, ∃ row' : Nat → Int32, ∃ lastOf' : Nat → Int32, ∃ inBlock' : Nat → Int64, ∃ atQuotient' : Nat → Int64, ∃ small' : Nat → Int64, v = none ∧ w = [oX11 h0 thrown' (.ref q_tape) taped' (.ref q_number) (.ref q_isTold) (.ref q_name) (.ref q_sortOf) (.ref q_first) (.ref q_second) (.ref q_degree) (.ref q_colours) (.ref q_signBy) (.ref q_own) lines' size' atF' place' sort' value' fault' faultPlace' lastFault' lastPlace' (.ref q_sF) (.ref q_kept) undoable' hasImage' (.ref q_power) (.ref q_table) (.ref q_marks) (.ref q_row) rowOf' areSums' isSieved' (.ref q_lastOf) blocks' (.ref q_inBlock) (.ref q_atQuotient) (.ref q_small) drawn', aI Y q_tape 700 tape', aI Y q_number 8 number', aZ Y q_isTold 9 isTold', aI Y q_name 24 name', aI Y q_sortOf 24 sortOf', aI Y q_first 24 first', aI Y q_second 24 second', aI Y q_degree 24 degree', aI Y q_colours 24 colours', aI Y q_signBy 24 signBy', aI Y q_own 288 own', aI Y q_sF 74 sF', aI Y q_kept 1554 kept', aJ Y q_power 18 power', aJ Y q_table 216 table', aI Y q_marks 6251 marks', aI Y q_row 200001 row', aI Y q_lastOf 900 lastOf', aJ Y q_inBlock 900 inBlock', aJ Y q_atQuotient 900 atQuotient', aJ Y q_small 1601 small'] ∧ Q thrown' taped' lines' size' atF' place' sort' value' fault' faultPlace' lastFault' lastPlace' undoable' hasImage' rowOf' areSums' isSieved' blocks' drawn' tape' number' isTold' name' sortOf' first' second' degree' colours' signBy' own' sF' kept' power' table' marks' row' lastOf' inBlock' atQuotient' small') := by
  refine gM_ofI (own := RX11) (by decide +kernel) rfl rfl (Nat.le_of_ble_eq_true rfl) rfl (fun E C hR hin => ?_)
  unfold wX11_init at h
  refine g_aload_n C dX11_init_0 0 rfl ?_
  refine g_objInit C wM_X11_1 dX11_init_1 (Nat.le_of_ble_eq_true rfl) (Nat.le_of_ble_eq_true rfl) ?_
  refine g_aload_n C dX11_init_4 0 rfl ?_
  refine g_sipush (v := 700) C dX11_init_5 rfl ?_
  refine g_newI C dX11_init_8 (by decide) rfl (Nat.le_of_ble_eq_true rfl) ⟨Nat.le_of_ble_eq_true rfl, Nat.le_of_ble_eq_true rfl⟩ (fun q_1 z_1 ez_1 => gG.eqw (ws' := [oX11 h0 0 (.null) 0 (.null) (.null) (.null) (.null) (.null) (.null) (.null) (.null) (.null) (.null) 0 0 0 0 0 0 0 0 0 0 (.null) (.null) 0 0 (.null) (.null) (.null) (.null) 0 0 0 (.null) 0 (.null) (.null) (.null) 0, aI Y q_1 700 z_1]) rfl ?_)
  replace h := h z_1 ez_1
  refine g_putF C inX11 tyX11 tyX11_ok nmX11 0 rfl rfl 1 (by decide) wF_X11_7 rfl hin rfl rfl rfl (Nat.le_of_ble_eq_true rfl) (ws' := [oX11 h0 0 (.ref q_1) 0 (.null) (.null) (.null) (.null) (.null) (.null) (.null) (.null) (.null) (.null) 0 0 0 0 0 0 0 0 0 0 (.null) (.null) 0 0 (.null) (.null) (.null) (.null) 0 0 0 (.null) 0 (.null) (.null) (.null) 0, aI Y q_1 700 z_1]) rfl dX11_init_10 ?_
  refine g_aload_n C dX11_init_13 0 rfl ?_
  refine g_bipush (v := 8) C dX11_init_14 rfl ?_
  refine g_newI C dX11_init_16 (by decide) rfl (Nat.le_of_ble_eq_true rfl) ⟨Nat.le_of_ble_eq_true rfl, Nat.le_of_ble_eq_true rfl⟩ (fun q_2 z_2 ez_2 => gG.eqw (ws' := [oX11 h0 0 (.ref q_1) 0 (.null) (.null) (.null) (.null) (.null) (.null) (.null) (.null) (.null) (.null) 0 0 0 0 0 0 0 0 0 0 (.null) (.null) 0 0 (.null) (.null) (.null) (.null) 0 0 0 (.null) 0 (.null) (.null) (.null) 0, aI Y q_1 700 z_1, aI Y q_2 8 z_2]) rfl ?_)
  replace h := h z_2 ez_2
  refine g_putF C inX11 tyX11 tyX11_ok nmX11 0 rfl rfl 3 (by decide) wF_X11_13 rfl hin rfl rfl rfl (Nat.le_of_ble_eq_true rfl) (ws' := [oX11 h0 0 (.ref q_1) 0 (.ref q_2) (.null) (.null) (.null) (.null) (.null) (.null) (.null) (.null) (.null) 0 0 0 0 0 0 0 0 0 0 (.null) (.null) 0 0 (.null) (.null) (.null) (.null) 0 0 0 (.null) 0 (.null) (.null) (.null) 0, aI Y q_1 700 z_1, aI Y q_2 8 z_2]) rfl dX11_init_18 ?_
  refine g_aload_n C dX11_init_21 0 rfl ?_
  refine g_bipush (v := 9) C dX11_init_22 rfl ?_
  refine g_newZ C dX11_init_24 (by decide) rfl (Nat.le_of_ble_eq_true rfl) ⟨Nat.le_of_ble_eq_true rfl, Nat.le_of_ble_eq_true rfl⟩ (fun q_3 z_3 ez_3 => gG.eqw (ws' := [oX11 h0 0 (.ref q_1) 0 (.ref q_2) (.null) (.null) (.null) (.null) (.null) (.null) (.null) (.null) (.null) 0 0 0 0 0 0 0 0 0 0 (.null) (.null) 0 0 (.null) (.null) (.null) (.null) 0 0 0 (.null) 0 (.null) (.null) (.null) 0, aI Y q_1 700 z_1, aI Y q_2 8 z_2, aZ Y q_3 9 z_3]) rfl ?_)
  replace h := h z_3 ez_3
  refine g_putF C inX11 tyX11 tyX11_ok nmX11 0 rfl rfl 4 (by decide) wF_X11_16 rfl hin rfl rfl rfl (Nat.le_of_ble_eq_true rfl) (ws' := [oX11 h0 0 (.ref q_1) 0 (.ref q_2) (.ref q_3) (.null) (.null) (.null) (.null) (.null) (.null) (.null) (.null) 0 0 0 0 0 0 0 0 0 0 (.null) (.null) 0 0 (.null) (.null) (.null) (.null) 0 0 0 (.null) 0 (.null) (.null) (.null) 0, aI Y q_1 700 z_1, aI Y q_2 8 z_2, aZ Y q_3 9 z_3]) rfl dX11_init_26 ?_
  refine g_aload_n C dX11_init_29 0 rfl ?_
  refine g_bipush (v := 24) C dX11_init_30 rfl ?_
  refine g_newI C dX11_init_32 (by decide) rfl (Nat.le_of_ble_eq_true rfl) ⟨Nat.le_of_ble_eq_true rfl, Nat.le_of_ble_eq_true rfl⟩ (fun q_4 z_4 ez_4 => gG.eqw (ws' := [oX11 h0 0 (.ref q_1) 0 (.ref q_2) (.ref q_3) (.null) (.null) (.null) (.null) (.null) (.null) (.null) (.null) 0 0 0 0 0 0 0 0 0 0 (.null) (.null) 0 0 (.null) (.null) (.null) (.null) 0 0 0 (.null) 0 (.null) (.null) (.null) 0, aI Y q_1 700 z_1, aI Y q_2 8 z_2, aZ Y q_3 9 z_3, aI Y q_4 24 z_4]) rfl ?_)
  replace h := h z_4 ez_4
  refine g_putF C inX11 tyX11 tyX11_ok nmX11 0 rfl rfl 5 (by decide) wF_X11_20 rfl hin rfl rfl rfl (Nat.le_of_ble_eq_true rfl) (ws' := [oX11 h0 0 (.ref q_1) 0 (.ref q_2) (.ref q_3) (.ref q_4) (.null) (.null) (.null) (.null) (.null) (.null) (.null) 0 0 0 0 0 0 0 0 0 0 (.null) (.null) 0 0 (.null) (.null) (.null) (.null) 0 0 0 (.null) 0 (.null) (.null) (.null) 0, aI Y q_1 700 z_1, aI Y q_2 8 z_2, aZ Y q_3 9 z_3, aI Y q_4 24 z_4]) rfl dX11_init_34 ?_
  refine g_aload_n C dX11_init_37 0 rfl ?_
  refine g_bipush (v := 24) C dX11_init_38 rfl ?_
  refine g_newI C dX11_init_40 (by decide) rfl (Nat.le_of_ble_eq_true rfl) ⟨Nat.le_of_ble_eq_true rfl, Nat.le_of_ble_eq_true rfl⟩ (fun q_5 z_5 ez_5 => gG.eqw (ws' := [oX11 h0 0 (.ref q_1) 0 (.ref q_2) (.ref q_3) (.ref q_4) (.null) (.null) (.null) (.null) (.null) (.null) (.null) 0 0 0 0 0 0 0 0 0 0 (.null) (.null) 0 0 (.null) (.null) (.null) (.null) 0 0 0 (.null) 0 (.null) (.null) (.null) 0, aI Y q_1 700 z_1, aI Y q_2 8 z_2, aZ Y q_3 9 z_3, aI Y q_4 24 z_4, aI Y q_5 24 z_5]) rfl ?_)
  replace h := h z_5 ez_5
  refine g_putF C inX11 tyX11 tyX11_ok nmX11 0 rfl rfl 6 (by decide) wF_X11_23 rfl hin rfl rfl rfl (Nat.le_of_ble_eq_true rfl) (ws' := [oX11 h0 0 (.ref q_1) 0 (.ref q_2) (.ref q_3) (.ref q_4) (.ref q_5) (.null) (.null) (.null) (.null) (.null) (.null) 0 0 0 0 0 0 0 0 0 0 (.null) (.null) 0 0 (.null) (.null) (.null) (.null) 0 0 0 (.null) 0 (.null) (.null) (.null) 0, aI Y q_1 700 z_1, aI Y q_2 8 z_2, aZ Y q_3 9 z_3, aI Y q_4 24 z_4, aI Y q_5 24 z_5]) rfl dX11_init_42 ?_
  refine g_aload_n C dX11_init_45 0 rfl ?_
  refine g_bipush (v := 24) C dX11_init_46 rfl ?_
  refine g_newI C dX11_init_48 (by decide) rfl (Nat.le_of_ble_eq_true rfl) ⟨Nat.le_of_ble_eq_true rfl, Nat.le_of_ble_eq_true rfl⟩ (fun q_6 z_6 ez_6 => gG.eqw (ws' := [oX11 h0 0 (.ref q_1) 0 (.ref q_2) (.ref q_3) (.ref q_4) (.ref q_5) (.null) (.null) (.null) (.null) (.null) (.null) 0 0 0 0 0 0 0 0 0 0 (.null) (.null) 0 0 (.null) (.null) (.null) (.null) 0 0 0 (.null) 0 (.null) (.null) (.null) 0, aI Y q_1 700 z_1, aI Y q_2 8 z_2, aZ Y q_3 9 z_3, aI Y q_4 24 z_4, aI Y q_5 24 z_5, aI Y q_6 24 z_6]) rfl ?_)
  replace h := h z_6 ez_6
  refine g_putF C inX11 tyX11 tyX11_ok nmX11 0 rfl rfl 7 (by decide) wF_X11_26 rfl hin rfl rfl rfl (Nat.le_of_ble_eq_true rfl) (ws' := [oX11 h0 0 (.ref q_1) 0 (.ref q_2) (.ref q_3) (.ref q_4) (.ref q_5) (.ref q_6) (.null) (.null) (.null) (.null) (.null) 0 0 0 0 0 0 0 0 0 0 (.null) (.null) 0 0 (.null) (.null) (.null) (.null) 0 0 0 (.null) 0 (.null) (.null) (.null) 0, aI Y q_1 700 z_1, aI Y q_2 8 z_2, aZ Y q_3 9 z_3, aI Y q_4 24 z_4, aI Y q_5 24 z_5, aI Y q_6 24 z_6]) rfl dX11_init_50 ?_
  refine g_aload_n C dX11_init_53 0 rfl ?_
  refine g_bipush (v := 24) C dX11_init_54 rfl ?_
  refine g_newI C dX11_init_56 (by decide) rfl (Nat.le_of_ble_eq_true rfl) ⟨Nat.le_of_ble_eq_true rfl, Nat.le_of_ble_eq_true rfl⟩ (fun q_7 z_7 ez_7 => gG.eqw (ws' := [oX11 h0 0 (.ref q_1) 0 (.ref q_2) (.ref q_3) (.ref q_4) (.ref q_5) (.ref q_6) (.null) (.null) (.null) (.null) (.null) 0 0 0 0 0 0 0 0 0 0 (.null) (.null) 0 0 (.null) (.null) (.null) (.null) 0 0 0 (.null) 0 (.null) (.null) (.null) 0, aI Y q_1 700 z_1, aI Y q_2 8 z_2, aZ Y q_3 9 z_3, aI Y q_4 24 z_4, aI Y q_5 24 z_5, aI Y q_6 24 z_6, aI Y q_7 24 z_7]) rfl ?_)
  replace h := h z_7 ez_7
  refine g_putF C inX11 tyX11 tyX11_ok nmX11 0 rfl rfl 8 (by decide) wF_X11_29 rfl hin rfl rfl rfl (Nat.le_of_ble_eq_true rfl) (ws' := [oX11 h0 0 (.ref q_1) 0 (.ref q_2) (.ref q_3) (.ref q_4) (.ref q_5) (.ref q_6) (.ref q_7) (.null) (.null) (.null) (.null) 0 0 0 0 0 0 0 0 0 0 (.null) (.null) 0 0 (.null) (.null) (.null) (.null) 0 0 0 (.null) 0 (.null) (.null) (.null) 0, aI Y q_1 700 z_1, aI Y q_2 8 z_2, aZ Y q_3 9 z_3, aI Y q_4 24 z_4, aI Y q_5 24 z_5, aI Y q_6 24 z_6, aI Y q_7 24 z_7]) rfl dX11_init_58 ?_
  refine g_aload_n C dX11_init_61 0 rfl ?_
  refine g_bipush (v := 24) C dX11_init_62 rfl ?_
  refine g_newI C dX11_init_64 (by decide) rfl (Nat.le_of_ble_eq_true rfl) ⟨Nat.le_of_ble_eq_true rfl, Nat.le_of_ble_eq_true rfl⟩ (fun q_8 z_8 ez_8 => gG.eqw (ws' := [oX11 h0 0 (.ref q_1) 0 (.ref q_2) (.ref q_3) (.ref q_4) (.ref q_5) (.ref q_6) (.ref q_7) (.null) (.null) (.null) (.null) 0 0 0 0 0 0 0 0 0 0 (.null) (.null) 0 0 (.null) (.null) (.null) (.null) 0 0 0 (.null) 0 (.null) (.null) (.null) 0, aI Y q_1 700 z_1, aI Y q_2 8 z_2, aZ Y q_3 9 z_3, aI Y q_4 24 z_4, aI Y q_5 24 z_5, aI Y q_6 24 z_6, aI Y q_7 24 z_7, aI Y q_8 24 z_8]) rfl ?_)
  replace h := h z_8 ez_8
  refine g_putF C inX11 tyX11 tyX11_ok nmX11 0 rfl rfl 9 (by decide) wF_X11_32 rfl hin rfl rfl rfl (Nat.le_of_ble_eq_true rfl) (ws' := [oX11 h0 0 (.ref q_1) 0 (.ref q_2) (.ref q_3) (.ref q_4) (.ref q_5) (.ref q_6) (.ref q_7) (.ref q_8) (.null) (.null) (.null) 0 0 0 0 0 0 0 0 0 0 (.null) (.null) 0 0 (.null) (.null) (.null) (.null) 0 0 0 (.null) 0 (.null) (.null) (.null) 0, aI Y q_1 700 z_1, aI Y q_2 8 z_2, aZ Y q_3 9 z_3, aI Y q_4 24 z_4, aI Y q_5 24 z_5, aI Y q_6 24 z_6, aI Y q_7 24 z_7, aI Y q_8 24 z_8]) rfl dX11_init_66 ?_
  refine g_aload_n C dX11_init_69 0 rfl ?_
  refine g_bipush (v := 24) C dX11_init_70 rfl ?_
  refine g_newI C dX11_init_72 (by decide) rfl (Nat.le_of_ble_eq_true rfl) ⟨Nat.le_of_ble_eq_true rfl, Nat.le_of_ble_eq_true rfl⟩ (fun q_9 z_9 ez_9 => gG.eqw (ws' := [oX11 h0 0 (.ref q_1) 0 (.ref q_2) (.ref q_3) (.ref q_4) (.ref q_5) (.ref q_6) (.ref q_7) (.ref q_8) (.null) (.null) (.null) 0 0 0 0 0 0 0 0 0 0 (.null) (.null) 0 0 (.null) (.null) (.null) (.null) 0 0 0 (.null) 0 (.null) (.null) (.null) 0, aI Y q_1 700 z_1, aI Y q_2 8 z_2, aZ Y q_3 9 z_3, aI Y q_4 24 z_4, aI Y q_5 24 z_5, aI Y q_6 24 z_6, aI Y q_7 24 z_7, aI Y q_8 24 z_8, aI Y q_9 24 z_9]) rfl ?_)
  replace h := h z_9 ez_9
  refine g_putF C inX11 tyX11 tyX11_ok nmX11 0 rfl rfl 10 (by decide) wF_X11_35 rfl hin rfl rfl rfl (Nat.le_of_ble_eq_true rfl) (ws' := [oX11 h0 0 (.ref q_1) 0 (.ref q_2) (.ref q_3) (.ref q_4) (.ref q_5) (.ref q_6) (.ref q_7) (.ref q_8) (.ref q_9) (.null) (.null) 0 0 0 0 0 0 0 0 0 0 (.null) (.null) 0 0 (.null) (.null) (.null) (.null) 0 0 0 (.null) 0 (.null) (.null) (.null) 0, aI Y q_1 700 z_1, aI Y q_2 8 z_2, aZ Y q_3 9 z_3, aI Y q_4 24 z_4, aI Y q_5 24 z_5, aI Y q_6 24 z_6, aI Y q_7 24 z_7, aI Y q_8 24 z_8, aI Y q_9 24 z_9]) rfl dX11_init_74 ?_
  refine g_aload_n C dX11_init_77 0 rfl ?_
  refine g_bipush (v := 24) C dX11_init_78 rfl ?_
  refine g_newI C dX11_init_80 (by decide) rfl (Nat.le_of_ble_eq_true rfl) ⟨Nat.le_of_ble_eq_true rfl, Nat.le_of_ble_eq_true rfl⟩ (fun q_10 z_10 ez_10 => gG.eqw (ws' := [oX11 h0 0 (.ref q_1) 0 (.ref q_2) (.ref q_3) (.ref q_4) (.ref q_5) (.ref q_6) (.ref q_7) (.ref q_8) (.ref q_9) (.null) (.null) 0 0 0 0 0 0 0 0 0 0 (.null) (.null) 0 0 (.null) (.null) (.null) (.null) 0 0 0 (.null) 0 (.null) (.null) (.null) 0, aI Y q_1 700 z_1, aI Y q_2 8 z_2, aZ Y q_3 9 z_3, aI Y q_4 24 z_4, aI Y q_5 24 z_5, aI Y q_6 24 z_6, aI Y q_7 24 z_7, aI Y q_8 24 z_8, aI Y q_9 24 z_9, aI Y q_10 24 z_10]) rfl ?_)
  replace h := h z_10 ez_10
  refine g_putF C inX11 tyX11 tyX11_ok nmX11 0 rfl rfl 11 (by decide) wF_X11_38 rfl hin rfl rfl rfl (Nat.le_of_ble_eq_true rfl) (ws' := [oX11 h0 0 (.ref q_1) 0 (.ref q_2) (.ref q_3) (.ref q_4) (.ref q_5) (.ref q_6) (.ref q_7) (.ref q_8) (.ref q_9) (.ref q_10) (.null) 0 0 0 0 0 0 0 0 0 0 (.null) (.null) 0 0 (.null) (.null) (.null) (.null) 0 0 0 (.null) 0 (.null) (.null) (.null) 0, aI Y q_1 700 z_1, aI Y q_2 8 z_2, aZ Y q_3 9 z_3, aI Y q_4 24 z_4, aI Y q_5 24 z_5, aI Y q_6 24 z_6, aI Y q_7 24 z_7, aI Y q_8 24 z_8, aI Y q_9 24 z_9, aI Y q_10 24 z_10]) rfl dX11_init_82 ?_
  refine g_aload_n C dX11_init_85 0 rfl ?_
  refine g_sipush (v := 288) C dX11_init_86 rfl ?_
  refine g_newI C dX11_init_89 (by decide) rfl (Nat.le_of_ble_eq_true rfl) ⟨Nat.le_of_ble_eq_true rfl, Nat.le_of_ble_eq_true rfl⟩ (fun q_11 z_11 ez_11 => gG.eqw (ws' := [oX11 h0 0 (.ref q_1) 0 (.ref q_2) (.ref q_3) (.ref q_4) (.ref q_5) (.ref q_6) (.ref q_7) (.ref q_8) (.ref q_9) (.ref q_10) (.null) 0 0 0 0 0 0 0 0 0 0 (.null) (.null) 0 0 (.null) (.null) (.null) (.null) 0 0 0 (.null) 0 (.null) (.null) (.null) 0, aI Y q_1 700 z_1, aI Y q_2 8 z_2, aZ Y q_3 9 z_3, aI Y q_4 24 z_4, aI Y q_5 24 z_5, aI Y q_6 24 z_6, aI Y q_7 24 z_7, aI Y q_8 24 z_8, aI Y q_9 24 z_9, aI Y q_10 24 z_10, aI Y q_11 288 z_11]) rfl ?_)
  replace h := h z_11 ez_11
  refine g_putF C inX11 tyX11 tyX11_ok nmX11 0 rfl rfl 12 (by decide) wF_X11_41 rfl hin rfl rfl rfl (Nat.le_of_ble_eq_true rfl) (ws' := [oX11 h0 0 (.ref q_1) 0 (.ref q_2) (.ref q_3) (.ref q_4) (.ref q_5) (.ref q_6) (.ref q_7) (.ref q_8) (.ref q_9) (.ref q_10) (.ref q_11) 0 0 0 0 0 0 0 0 0 0 (.null) (.null) 0 0 (.null) (.null) (.null) (.null) 0 0 0 (.null) 0 (.null) (.null) (.null) 0, aI Y q_1 700 z_1, aI Y q_2 8 z_2, aZ Y q_3 9 z_3, aI Y q_4 24 z_4, aI Y q_5 24 z_5, aI Y q_6 24 z_6, aI Y q_7 24 z_7, aI Y q_8 24 z_8, aI Y q_9 24 z_9, aI Y q_10 24 z_10, aI Y q_11 288 z_11]) rfl dX11_init_91 ?_
  refine g_aload_n C dX11_init_94 0 rfl ?_
  refine g_iconst (v := (-1)) C dX11_init_95 rfl ?_
  refine g_put C inX11 tyX11 tyX11_ok nmX11 0 rfl rfl 22 (by decide) wF_X11_44 rfl rfl rfl (Nat.le_of_ble_eq_true rfl) (ws' := [oX11 h0 0 (.ref q_1) 0 (.ref q_2) (.ref q_3) (.ref q_4) (.ref q_5) (.ref q_6) (.ref q_7) (.ref q_8) (.ref q_9) (.ref q_10) (.ref q_11) 0 0 0 0 0 0 0 0 0 (-1) (.null) (.null) 0 0 (.null) (.null) (.null) (.null) 0 0 0 (.null) 0 (.null) (.null) (.null) 0, aI Y q_1 700 z_1, aI Y q_2 8 z_2, aZ Y q_3 9 z_3, aI Y q_4 24 z_4, aI Y q_5 24 z_5, aI Y q_6 24 z_6, aI Y q_7 24 z_7, aI Y q_8 24 z_8, aI Y q_9 24 z_9, aI Y q_10 24 z_10, aI Y q_11 288 z_11]) rfl dX11_init_96 ?_
  refine g_aload_n C dX11_init_99 0 rfl ?_
  refine g_bipush (v := 74) C dX11_init_100 rfl ?_
  refine g_newI C dX11_init_102 (by decide) rfl (Nat.le_of_ble_eq_true rfl) ⟨Nat.le_of_ble_eq_true rfl, Nat.le_of_ble_eq_true rfl⟩ (fun q_12 z_12 ez_12 => gG.eqw (ws' := [oX11 h0 0 (.ref q_1) 0 (.ref q_2) (.ref q_3) (.ref q_4) (.ref q_5) (.ref q_6) (.ref q_7) (.ref q_8) (.ref q_9) (.ref q_10) (.ref q_11) 0 0 0 0 0 0 0 0 0 (-1) (.null) (.null) 0 0 (.null) (.null) (.null) (.null) 0 0 0 (.null) 0 (.null) (.null) (.null) 0, aI Y q_1 700 z_1, aI Y q_2 8 z_2, aZ Y q_3 9 z_3, aI Y q_4 24 z_4, aI Y q_5 24 z_5, aI Y q_6 24 z_6, aI Y q_7 24 z_7, aI Y q_8 24 z_8, aI Y q_9 24 z_9, aI Y q_10 24 z_10, aI Y q_11 288 z_11, aI Y q_12 74 z_12]) rfl ?_)
  replace h := h z_12 ez_12
  refine g_putF C inX11 tyX11 tyX11_ok nmX11 0 rfl rfl 23 (by decide) wF_X11_48 rfl hin rfl rfl rfl (Nat.le_of_ble_eq_true rfl) (ws' := [oX11 h0 0 (.ref q_1) 0 (.ref q_2) (.ref q_3) (.ref q_4) (.ref q_5) (.ref q_6) (.ref q_7) (.ref q_8) (.ref q_9) (.ref q_10) (.ref q_11) 0 0 0 0 0 0 0 0 0 (-1) (.ref q_12) (.null) 0 0 (.null) (.null) (.null) (.null) 0 0 0 (.null) 0 (.null) (.null) (.null) 0, aI Y q_1 700 z_1, aI Y q_2 8 z_2, aZ Y q_3 9 z_3, aI Y q_4 24 z_4, aI Y q_5 24 z_5, aI Y q_6 24 z_6, aI Y q_7 24 z_7, aI Y q_8 24 z_8, aI Y q_9 24 z_9, aI Y q_10 24 z_10, aI Y q_11 288 z_11, aI Y q_12 74 z_12]) rfl dX11_init_104 ?_
  refine g_aload_n C dX11_init_107 0 rfl ?_
  refine g_sipush (v := 1554) C dX11_init_108 rfl ?_
  refine g_newI C dX11_init_111 (by decide) rfl (Nat.le_of_ble_eq_true rfl) ⟨Nat.le_of_ble_eq_true rfl, Nat.le_of_ble_eq_true rfl⟩ (fun q_13 z_13 ez_13 => gG.eqw (ws' := [oX11 h0 0 (.ref q_1) 0 (.ref q_2) (.ref q_3) (.ref q_4) (.ref q_5) (.ref q_6) (.ref q_7) (.ref q_8) (.ref q_9) (.ref q_10) (.ref q_11) 0 0 0 0 0 0 0 0 0 (-1) (.ref q_12) (.null) 0 0 (.null) (.null) (.null) (.null) 0 0 0 (.null) 0 (.null) (.null) (.null) 0, aI Y q_1 700 z_1, aI Y q_2 8 z_2, aZ Y q_3 9 z_3, aI Y q_4 24 z_4, aI Y q_5 24 z_5, aI Y q_6 24 z_6, aI Y q_7 24 z_7, aI Y q_8 24 z_8, aI Y q_9 24 z_9, aI Y q_10 24 z_10, aI Y q_11 288 z_11, aI Y q_12 74 z_12, aI Y q_13 1554 z_13]) rfl ?_)
  replace h := h z_13 ez_13
  refine g_putF C inX11 tyX11 tyX11_ok nmX11 0 rfl rfl 24 (by decide) wF_X11_51 rfl hin rfl rfl rfl (Nat.le_of_ble_eq_true rfl) (ws' := [oX11 h0 0 (.ref q_1) 0 (.ref q_2) (.ref q_3) (.ref q_4) (.ref q_5) (.ref q_6) (.ref q_7) (.ref q_8) (.ref q_9) (.ref q_10) (.ref q_11) 0 0 0 0 0 0 0 0 0 (-1) (.ref q_12) (.ref q_13) 0 0 (.null) (.null) (.null) (.null) 0 0 0 (.null) 0 (.null) (.null) (.null) 0, aI Y q_1 700 z_1, aI Y q_2 8 z_2, aZ Y q_3 9 z_3, aI Y q_4 24 z_4, aI Y q_5 24 z_5, aI Y q_6 24 z_6, aI Y q_7 24 z_7, aI Y q_8 24 z_8, aI Y q_9 24 z_9, aI Y q_10 24 z_10, aI Y q_11 288 z_11, aI Y q_12 74 z_12, aI Y q_13 1554 z_13]) rfl dX11_init_113 ?_
  refine g_aload_n C dX11_init_116 0 rfl ?_
  refine g_bipush (v := 18) C dX11_init_117 rfl ?_
  refine g_newJ C dX11_init_119 (by decide) rfl (Nat.le_of_ble_eq_true rfl) ⟨Nat.le_of_ble_eq_true rfl, Nat.le_of_ble_eq_true rfl⟩ (fun q_14 z_14 ez_14 => gG.eqw (ws' := [oX11 h0 0 (.ref q_1) 0 (.ref q_2) (.ref q_3) (.ref q_4) (.ref q_5) (.ref q_6) (.ref q_7) (.ref q_8) (.ref q_9) (.ref q_10) (.ref q_11) 0 0 0 0 0 0 0 0 0 (-1) (.ref q_12) (.ref q_13) 0 0 (.null) (.null) (.null) (.null) 0 0 0 (.null) 0 (.null) (.null) (.null) 0, aI Y q_1 700 z_1, aI Y q_2 8 z_2, aZ Y q_3 9 z_3, aI Y q_4 24 z_4, aI Y q_5 24 z_5, aI Y q_6 24 z_6, aI Y q_7 24 z_7, aI Y q_8 24 z_8, aI Y q_9 24 z_9, aI Y q_10 24 z_10, aI Y q_11 288 z_11, aI Y q_12 74 z_12, aI Y q_13 1554 z_13, aJ Y q_14 18 z_14]) rfl ?_)
  replace h := h z_14 ez_14
  refine g_putF C inX11 tyX11 tyX11_ok nmX11 0 rfl rfl 27 (by decide) wF_X11_54 rfl hin rfl rfl rfl (Nat.le_of_ble_eq_true rfl) (ws' := [oX11 h0 0 (.ref q_1) 0 (.ref q_2) (.ref q_3) (.ref q_4) (.ref q_5) (.ref q_6) (.ref q_7) (.ref q_8) (.ref q_9) (.ref q_10) (.ref q_11) 0 0 0 0 0 0 0 0 0 (-1) (.ref q_12) (.ref q_13) 0 0 (.ref q_14) (.null) (.null) (.null) 0 0 0 (.null) 0 (.null) (.null) (.null) 0, aI Y q_1 700 z_1, aI Y q_2 8 z_2, aZ Y q_3 9 z_3, aI Y q_4 24 z_4, aI Y q_5 24 z_5, aI Y q_6 24 z_6, aI Y q_7 24 z_7, aI Y q_8 24 z_8, aI Y q_9 24 z_9, aI Y q_10 24 z_10, aI Y q_11 288 z_11, aI Y q_12 74 z_12, aI Y q_13 1554 z_13, aJ Y q_14 18 z_14]) rfl dX11_init_121 ?_
  refine g_aload_n C dX11_init_124 0 rfl ?_
  refine g_sipush (v := 216) C dX11_init_125 rfl ?_
  refine g_newJ C dX11_init_128 (by decide) rfl (Nat.le_of_ble_eq_true rfl) ⟨Nat.le_of_ble_eq_true rfl, Nat.le_of_ble_eq_true rfl⟩ (fun q_15 z_15 ez_15 => gG.eqw (ws' := [oX11 h0 0 (.ref q_1) 0 (.ref q_2) (.ref q_3) (.ref q_4) (.ref q_5) (.ref q_6) (.ref q_7) (.ref q_8) (.ref q_9) (.ref q_10) (.ref q_11) 0 0 0 0 0 0 0 0 0 (-1) (.ref q_12) (.ref q_13) 0 0 (.ref q_14) (.null) (.null) (.null) 0 0 0 (.null) 0 (.null) (.null) (.null) 0, aI Y q_1 700 z_1, aI Y q_2 8 z_2, aZ Y q_3 9 z_3, aI Y q_4 24 z_4, aI Y q_5 24 z_5, aI Y q_6 24 z_6, aI Y q_7 24 z_7, aI Y q_8 24 z_8, aI Y q_9 24 z_9, aI Y q_10 24 z_10, aI Y q_11 288 z_11, aI Y q_12 74 z_12, aI Y q_13 1554 z_13, aJ Y q_14 18 z_14, aJ Y q_15 216 z_15]) rfl ?_)
  replace h := h z_15 ez_15
  refine g_putF C inX11 tyX11 tyX11_ok nmX11 0 rfl rfl 28 (by decide) wF_X11_58 rfl hin rfl rfl rfl (Nat.le_of_ble_eq_true rfl) (ws' := [oX11 h0 0 (.ref q_1) 0 (.ref q_2) (.ref q_3) (.ref q_4) (.ref q_5) (.ref q_6) (.ref q_7) (.ref q_8) (.ref q_9) (.ref q_10) (.ref q_11) 0 0 0 0 0 0 0 0 0 (-1) (.ref q_12) (.ref q_13) 0 0 (.ref q_14) (.ref q_15) (.null) (.null) 0 0 0 (.null) 0 (.null) (.null) (.null) 0, aI Y q_1 700 z_1, aI Y q_2 8 z_2, aZ Y q_3 9 z_3, aI Y q_4 24 z_4, aI Y q_5 24 z_5, aI Y q_6 24 z_6, aI Y q_7 24 z_7, aI Y q_8 24 z_8, aI Y q_9 24 z_9, aI Y q_10 24 z_10, aI Y q_11 288 z_11, aI Y q_12 74 z_12, aI Y q_13 1554 z_13, aJ Y q_14 18 z_14, aJ Y q_15 216 z_15]) rfl dX11_init_130 ?_
  refine g_aload_n C dX11_init_133 0 rfl ?_
  refine g_sipush (v := 6251) C dX11_init_134 rfl ?_
  refine g_newI C dX11_init_137 (by decide) rfl (Nat.le_of_ble_eq_true rfl) ⟨Nat.le_of_ble_eq_true rfl, Nat.le_of_ble_eq_true rfl⟩ (fun q_16 z_16 ez_16 => gG.eqw (ws' := [oX11 h0 0 (.ref q_1) 0 (.ref q_2) (.ref q_3) (.ref q_4) (.ref q_5) (.ref q_6) (.ref q_7) (.ref q_8) (.ref q_9) (.ref q_10) (.ref q_11) 0 0 0 0 0 0 0 0 0 (-1) (.ref q_12) (.ref q_13) 0 0 (.ref q_14) (.ref q_15) (.null) (.null) 0 0 0 (.null) 0 (.null) (.null) (.null) 0, aI Y q_1 700 z_1, aI Y q_2 8 z_2, aZ Y q_3 9 z_3, aI Y q_4 24 z_4, aI Y q_5 24 z_5, aI Y q_6 24 z_6, aI Y q_7 24 z_7, aI Y q_8 24 z_8, aI Y q_9 24 z_9, aI Y q_10 24 z_10, aI Y q_11 288 z_11, aI Y q_12 74 z_12, aI Y q_13 1554 z_13, aJ Y q_14 18 z_14, aJ Y q_15 216 z_15, aI Y q_16 6251 z_16]) rfl ?_)
  replace h := h z_16 ez_16
  refine g_putF C inX11 tyX11 tyX11_ok nmX11 0 rfl rfl 29 (by decide) wF_X11_61 rfl hin rfl rfl rfl (Nat.le_of_ble_eq_true rfl) (ws' := [oX11 h0 0 (.ref q_1) 0 (.ref q_2) (.ref q_3) (.ref q_4) (.ref q_5) (.ref q_6) (.ref q_7) (.ref q_8) (.ref q_9) (.ref q_10) (.ref q_11) 0 0 0 0 0 0 0 0 0 (-1) (.ref q_12) (.ref q_13) 0 0 (.ref q_14) (.ref q_15) (.ref q_16) (.null) 0 0 0 (.null) 0 (.null) (.null) (.null) 0, aI Y q_1 700 z_1, aI Y q_2 8 z_2, aZ Y q_3 9 z_3, aI Y q_4 24 z_4, aI Y q_5 24 z_5, aI Y q_6 24 z_6, aI Y q_7 24 z_7, aI Y q_8 24 z_8, aI Y q_9 24 z_9, aI Y q_10 24 z_10, aI Y q_11 288 z_11, aI Y q_12 74 z_12, aI Y q_13 1554 z_13, aJ Y q_14 18 z_14, aJ Y q_15 216 z_15, aI Y q_16 6251 z_16]) rfl dX11_init_139 ?_
  refine g_aload_n C dX11_init_142 0 rfl ?_
  refine g_ldc C dX11_init_143 wK_X11_64 ?_
  refine g_newI C dX11_init_145 (by decide) rfl (Nat.le_of_ble_eq_true rfl) ⟨Nat.le_of_ble_eq_true rfl, Nat.le_of_ble_eq_true rfl⟩ (fun q_17 z_17 ez_17 => gG.eqw (ws' := [oX11 h0 0 (.ref q_1) 0 (.ref q_2) (.ref q_3) (.ref q_4) (.ref q_5) (.ref q_6) (.ref q_7) (.ref q_8) (.ref q_9) (.ref q_10) (.ref q_11) 0 0 0 0 0 0 0 0 0 (-1) (.ref q_12) (.ref q_13) 0 0 (.ref q_14) (.ref q_15) (.ref q_16) (.null) 0 0 0 (.null) 0 (.null) (.null) (.null) 0, aI Y q_1 700 z_1, aI Y q_2 8 z_2, aZ Y q_3 9 z_3, aI Y q_4 24 z_4, aI Y q_5 24 z_5, aI Y q_6 24 z_6, aI Y q_7 24 z_7, aI Y q_8 24 z_8, aI Y q_9 24 z_9, aI Y q_10 24 z_10, aI Y q_11 288 z_11, aI Y q_12 74 z_12, aI Y q_13 1554 z_13, aJ Y q_14 18 z_14, aJ Y q_15 216 z_15, aI Y q_16 6251 z_16, aI Y q_17 200001 z_17]) rfl ?_)
  replace h := h z_17 ez_17
  refine g_putF C inX11 tyX11 tyX11_ok nmX11 0 rfl rfl 30 (by decide) wF_X11_65 rfl hin rfl rfl rfl (Nat.le_of_ble_eq_true rfl) (ws' := [oX11 h0 0 (.ref q_1) 0 (.ref q_2) (.ref q_3) (.ref q_4) (.ref q_5) (.ref q_6) (.ref q_7) (.ref q_8) (.ref q_9) (.ref q_10) (.ref q_11) 0 0 0 0 0 0 0 0 0 (-1) (.ref q_12) (.ref q_13) 0 0 (.ref q_14) (.ref q_15) (.ref q_16) (.ref q_17) 0 0 0 (.null) 0 (.null) (.null) (.null) 0, aI Y q_1 700 z_1, aI Y q_2 8 z_2, aZ Y q_3 9 z_3, aI Y q_4 24 z_4, aI Y q_5 24 z_5, aI Y q_6 24 z_6, aI Y q_7 24 z_7, aI Y q_8 24 z_8, aI Y q_9 24 z_9, aI Y q_10 24 z_10, aI Y q_11 288 z_11, aI Y q_12 74 z_12, aI Y q_13 1554 z_13, aJ Y q_14 18 z_14, aJ Y q_15 216 z_15, aI Y q_16 6251 z_16, aI Y q_17 200001 z_17]) rfl dX11_init_147 ?_
  refine g_aload_n C dX11_init_150 0 rfl ?_
  refine g_sipush (v := 900) C dX11_init_151 rfl ?_
  refine g_newI C dX11_init_154 (by decide) rfl (Nat.le_of_ble_eq_true rfl) ⟨Nat.le_of_ble_eq_true rfl, Nat.le_of_ble_eq_true rfl⟩ (fun q_18 z_18 ez_18 => gG.eqw (ws' := [oX11 h0 0 (.ref q_1) 0 (.ref q_2) (.ref q_3) (.ref q_4) (.ref q_5) (.ref q_6) (.ref q_7) (.ref q_8) (.ref q_9) (.ref q_10) (.ref q_11) 0 0 0 0 0 0 0 0 0 (-1) (.ref q_12) (.ref q_13) 0 0 (.ref q_14) (.ref q_15) (.ref q_16) (.ref q_17) 0 0 0 (.null) 0 (.null) (.null) (.null) 0, aI Y q_1 700 z_1, aI Y q_2 8 z_2, aZ Y q_3 9 z_3, aI Y q_4 24 z_4, aI Y q_5 24 z_5, aI Y q_6 24 z_6, aI Y q_7 24 z_7, aI Y q_8 24 z_8, aI Y q_9 24 z_9, aI Y q_10 24 z_10, aI Y q_11 288 z_11, aI Y q_12 74 z_12, aI Y q_13 1554 z_13, aJ Y q_14 18 z_14, aJ Y q_15 216 z_15, aI Y q_16 6251 z_16, aI Y q_17 200001 z_17, aI Y q_18 900 z_18]) rfl ?_)
  replace h := h z_18 ez_18
  refine g_putF C inX11 tyX11 tyX11_ok nmX11 0 rfl rfl 34 (by decide) wF_X11_68 rfl hin rfl rfl rfl (Nat.le_of_ble_eq_true rfl) (ws' := [oX11 h0 0 (.ref q_1) 0 (.ref q_2) (.ref q_3) (.ref q_4) (.ref q_5) (.ref q_6) (.ref q_7) (.ref q_8) (.ref q_9) (.ref q_10) (.ref q_11) 0 0 0 0 0 0 0 0 0 (-1) (.ref q_12) (.ref q_13) 0 0 (.ref q_14) (.ref q_15) (.ref q_16) (.ref q_17) 0 0 0 (.ref q_18) 0 (.null) (.null) (.null) 0, aI Y q_1 700 z_1, aI Y q_2 8 z_2, aZ Y q_3 9 z_3, aI Y q_4 24 z_4, aI Y q_5 24 z_5, aI Y q_6 24 z_6, aI Y q_7 24 z_7, aI Y q_8 24 z_8, aI Y q_9 24 z_9, aI Y q_10 24 z_10, aI Y q_11 288 z_11, aI Y q_12 74 z_12, aI Y q_13 1554 z_13, aJ Y q_14 18 z_14, aJ Y q_15 216 z_15, aI Y q_16 6251 z_16, aI Y q_17 200001 z_17, aI Y q_18 900 z_18]) rfl dX11_init_156 ?_
  refine g_aload_n C dX11_init_159 0 rfl ?_
  refine g_sipush (v := 900) C dX11_init_160 rfl ?_
  refine g_newJ C dX11_init_163 (by decide) rfl (Nat.le_of_ble_eq_true rfl) ⟨Nat.le_of_ble_eq_true rfl, Nat.le_of_ble_eq_true rfl⟩ (fun q_19 z_19 ez_19 => gG.eqw (ws' := [oX11 h0 0 (.ref q_1) 0 (.ref q_2) (.ref q_3) (.ref q_4) (.ref q_5) (.ref q_6) (.ref q_7) (.ref q_8) (.ref q_9) (.ref q_10) (.ref q_11) 0 0 0 0 0 0 0 0 0 (-1) (.ref q_12) (.ref q_13) 0 0 (.ref q_14) (.ref q_15) (.ref q_16) (.ref q_17) 0 0 0 (.ref q_18) 0 (.null) (.null) (.null) 0, aI Y q_1 700 z_1, aI Y q_2 8 z_2, aZ Y q_3 9 z_3, aI Y q_4 24 z_4, aI Y q_5 24 z_5, aI Y q_6 24 z_6, aI Y q_7 24 z_7, aI Y q_8 24 z_8, aI Y q_9 24 z_9, aI Y q_10 24 z_10, aI Y q_11 288 z_11, aI Y q_12 74 z_12, aI Y q_13 1554 z_13, aJ Y q_14 18 z_14, aJ Y q_15 216 z_15, aI Y q_16 6251 z_16, aI Y q_17 200001 z_17, aI Y q_18 900 z_18, aJ Y q_19 900 z_19]) rfl ?_)
  replace h := h z_19 ez_19
  refine g_putF C inX11 tyX11 tyX11_ok nmX11 0 rfl rfl 36 (by decide) wF_X11_71 rfl hin rfl rfl rfl (Nat.le_of_ble_eq_true rfl) (ws' := [oX11 h0 0 (.ref q_1) 0 (.ref q_2) (.ref q_3) (.ref q_4) (.ref q_5) (.ref q_6) (.ref q_7) (.ref q_8) (.ref q_9) (.ref q_10) (.ref q_11) 0 0 0 0 0 0 0 0 0 (-1) (.ref q_12) (.ref q_13) 0 0 (.ref q_14) (.ref q_15) (.ref q_16) (.ref q_17) 0 0 0 (.ref q_18) 0 (.ref q_19) (.null) (.null) 0, aI Y q_1 700 z_1, aI Y q_2 8 z_2, aZ Y q_3 9 z_3, aI Y q_4 24 z_4, aI Y q_5 24 z_5, aI Y q_6 24 z_6, aI Y q_7 24 z_7, aI Y q_8 24 z_8, aI Y q_9 24 z_9, aI Y q_10 24 z_10, aI Y q_11 288 z_11, aI Y q_12 74 z_12, aI Y q_13 1554 z_13, aJ Y q_14 18 z_14, aJ Y q_15 216 z_15, aI Y q_16 6251 z_16, aI Y q_17 200001 z_17, aI Y q_18 900 z_18, aJ Y q_19 900 z_19]) rfl dX11_init_165 ?_
  refine g_aload_n C dX11_init_168 0 rfl ?_
  refine g_sipush (v := 900) C dX11_init_169 rfl ?_
  refine g_newJ C dX11_init_172 (by decide) rfl (Nat.le_of_ble_eq_true rfl) ⟨Nat.le_of_ble_eq_true rfl, Nat.le_of_ble_eq_true rfl⟩ (fun q_20 z_20 ez_20 => gG.eqw (ws' := [oX11 h0 0 (.ref q_1) 0 (.ref q_2) (.ref q_3) (.ref q_4) (.ref q_5) (.ref q_6) (.ref q_7) (.ref q_8) (.ref q_9) (.ref q_10) (.ref q_11) 0 0 0 0 0 0 0 0 0 (-1) (.ref q_12) (.ref q_13) 0 0 (.ref q_14) (.ref q_15) (.ref q_16) (.ref q_17) 0 0 0 (.ref q_18) 0 (.ref q_19) (.null) (.null) 0, aI Y q_1 700 z_1, aI Y q_2 8 z_2, aZ Y q_3 9 z_3, aI Y q_4 24 z_4, aI Y q_5 24 z_5, aI Y q_6 24 z_6, aI Y q_7 24 z_7, aI Y q_8 24 z_8, aI Y q_9 24 z_9, aI Y q_10 24 z_10, aI Y q_11 288 z_11, aI Y q_12 74 z_12, aI Y q_13 1554 z_13, aJ Y q_14 18 z_14, aJ Y q_15 216 z_15, aI Y q_16 6251 z_16, aI Y q_17 200001 z_17, aI Y q_18 900 z_18, aJ Y q_19 900 z_19, aJ Y q_20 900 z_20]) rfl ?_)
  replace h := h z_20 ez_20
  refine g_putF C inX11 tyX11 tyX11_ok nmX11 0 rfl rfl 37 (by decide) wF_X11_74 rfl hin rfl rfl rfl (Nat.le_of_ble_eq_true rfl) (ws' := [oX11 h0 0 (.ref q_1) 0 (.ref q_2) (.ref q_3) (.ref q_4) (.ref q_5) (.ref q_6) (.ref q_7) (.ref q_8) (.ref q_9) (.ref q_10) (.ref q_11) 0 0 0 0 0 0 0 0 0 (-1) (.ref q_12) (.ref q_13) 0 0 (.ref q_14) (.ref q_15) (.ref q_16) (.ref q_17) 0 0 0 (.ref q_18) 0 (.ref q_19) (.ref q_20) (.null) 0, aI Y q_1 700 z_1, aI Y q_2 8 z_2, aZ Y q_3 9 z_3, aI Y q_4 24 z_4, aI Y q_5 24 z_5, aI Y q_6 24 z_6, aI Y q_7 24 z_7, aI Y q_8 24 z_8, aI Y q_9 24 z_9, aI Y q_10 24 z_10, aI Y q_11 288 z_11, aI Y q_12 74 z_12, aI Y q_13 1554 z_13, aJ Y q_14 18 z_14, aJ Y q_15 216 z_15, aI Y q_16 6251 z_16, aI Y q_17 200001 z_17, aI Y q_18 900 z_18, aJ Y q_19 900 z_19, aJ Y q_20 900 z_20]) rfl dX11_init_174 ?_
  refine g_aload_n C dX11_init_177 0 rfl ?_
  refine g_sipush (v := 1601) C dX11_init_178 rfl ?_
  refine g_newJ C dX11_init_181 (by decide) rfl (Nat.le_of_ble_eq_true rfl) ⟨Nat.le_of_ble_eq_true rfl, Nat.le_of_ble_eq_true rfl⟩ (fun q_21 z_21 ez_21 => gG.eqw (ws' := [oX11 h0 0 (.ref q_1) 0 (.ref q_2) (.ref q_3) (.ref q_4) (.ref q_5) (.ref q_6) (.ref q_7) (.ref q_8) (.ref q_9) (.ref q_10) (.ref q_11) 0 0 0 0 0 0 0 0 0 (-1) (.ref q_12) (.ref q_13) 0 0 (.ref q_14) (.ref q_15) (.ref q_16) (.ref q_17) 0 0 0 (.ref q_18) 0 (.ref q_19) (.ref q_20) (.null) 0, aI Y q_1 700 z_1, aI Y q_2 8 z_2, aZ Y q_3 9 z_3, aI Y q_4 24 z_4, aI Y q_5 24 z_5, aI Y q_6 24 z_6, aI Y q_7 24 z_7, aI Y q_8 24 z_8, aI Y q_9 24 z_9, aI Y q_10 24 z_10, aI Y q_11 288 z_11, aI Y q_12 74 z_12, aI Y q_13 1554 z_13, aJ Y q_14 18 z_14, aJ Y q_15 216 z_15, aI Y q_16 6251 z_16, aI Y q_17 200001 z_17, aI Y q_18 900 z_18, aJ Y q_19 900 z_19, aJ Y q_20 900 z_20, aJ Y q_21 1601 z_21]) rfl ?_)
  replace h := h z_21 ez_21
  refine g_putF C inX11 tyX11 tyX11_ok nmX11 0 rfl rfl 38 (by decide) wF_X11_77 rfl hin rfl rfl rfl (Nat.le_of_ble_eq_true rfl) (ws' := [oX11 h0 0 (.ref q_1) 0 (.ref q_2) (.ref q_3) (.ref q_4) (.ref q_5) (.ref q_6) (.ref q_7) (.ref q_8) (.ref q_9) (.ref q_10) (.ref q_11) 0 0 0 0 0 0 0 0 0 (-1) (.ref q_12) (.ref q_13) 0 0 (.ref q_14) (.ref q_15) (.ref q_16) (.ref q_17) 0 0 0 (.ref q_18) 0 (.ref q_19) (.ref q_20) (.ref q_21) 0, aI Y q_1 700 z_1, aI Y q_2 8 z_2, aZ Y q_3 9 z_3, aI Y q_4 24 z_4, aI Y q_5 24 z_5, aI Y q_6 24 z_6, aI Y q_7 24 z_7, aI Y q_8 24 z_8, aI Y q_9 24 z_9, aI Y q_10 24 z_10, aI Y q_11 288 z_11, aI Y q_12 74 z_12, aI Y q_13 1554 z_13, aJ Y q_14 18 z_14, aJ Y q_15 216 z_15, aI Y q_16 6251 z_16, aI Y q_17 200001 z_17, aI Y q_18 900 z_18, aJ Y q_19 900 z_19, aJ Y q_20 900 z_20, aJ Y q_21 1601 z_21]) rfl dX11_init_183 ?_
  refine g_aload_n C dX11_init_186 0 rfl ?_
  obtain ⟨P_1, hP, h⟩ := h
  refine g_callV (As := []) (rest := []) C (mX11_freshText l D Y h0 0 (.ref q_1) 0 q_2 q_3 q_4 q_5 q_6 q_7 q_8 q_9 q_10 (.ref q_11) 0 0 0 0 0 0 0 0 0 (-1) (.ref q_12) (.ref q_13) 0 0 (.ref q_14) (.ref q_15) (.ref q_16) (.ref q_17) 0 0 0 (.ref q_18) 0 (.ref q_19) (.ref q_20) (.ref q_21) 0 z_2 z_3 z_4 z_5 z_6 z_7 z_8 z_9 z_10 P_1 hP) dX11_init_187 rfl wM_X11_80 wI_X11_freshText wV_X11_freshText wN_X11 wC_X11_freshText (n := 0) (by decide +kernel) rfl (q0 := 0) rfl rfl ⟨Nat.le_of_ble_eq_true rfl, Nat.le_of_ble_eq_true rfl⟩ ⟨Nat.le_of_ble_eq_true rfl, Nat.le_of_ble_eq_true rfl⟩ (Nat.le_of_ble_eq_true rfl) [0, 2, 3, 4, 5, 6, 7, 8, 9, 10] [1, 11, 12, 13, 14, 15, 16, 17, 18, 19, 20, 21] rfl rfl rfl (fun v wc hv => ?_)
  obtain ⟨number_1, isTold_1, name_1, sortOf_1, first_1, second_1, degree_1, colours_1, signBy_1, rfl, rfl, hq⟩ := hv
  replace h := h number_1 isTold_1 name_1 sortOf_1 first_1 second_1 degree_1 colours_1 signBy_1 hq
  refine gG.perm (ws' := [oX11 h0 0 (.ref q_1) 0 (.ref q_2) (.ref q_3) (.ref q_4) (.ref q_5) (.ref q_6) (.ref q_7) (.ref q_8) (.ref q_9) (.ref q_10) (.ref q_11) 0 0 0 0 0 0 0 0 0 (-1) (.ref q_12) (.ref q_13) 0 0 (.ref q_14) (.ref q_15) (.ref q_16) (.ref q_17) 0 0 0 (.ref q_18) 0 (.ref q_19) (.ref q_20) (.ref q_21) 0, aI Y q_1 700 z_1, aI Y q_2 8 number_1, aZ Y q_3 9 isTold_1, aI Y q_4 24 name_1, aI Y q_5 24 sortOf_1, aI Y q_6 24 first_1, aI Y q_7 24 second_1, aI Y q_8 24 degree_1, aI Y q_9 24 colours_1, aI Y q_10 24 signBy_1, aI Y q_11 288 z_11, aI Y q_12 74 z_12, aI Y q_13 1554 z_13, aJ Y q_14 18 z_14, aJ Y q_15 216 z_15, aI Y q_16 6251 z_16, aI Y q_17 200001 z_17, aI Y q_18 900 z_18, aJ Y q_19 900 z_19, aJ Y q_20 900 z_20, aJ Y q_21 1601 z_21]) [12, 0, 13, 14, 15, 16, 17, 18, 19, 20, 21, 1, 2, 3, 4, 5, 6, 7, 8, 9, 10, 11] rfl rfl ?_
  refine g_aload_n C dX11_init_190 0 rfl ?_
  obtain ⟨P_2, hP, h⟩ := h
  refine g_callV (As := []) (rest := []) C (mX11_takeText l D Y h0 0 (.ref q_1) 0 q_2 (.ref q_3) q_4 q_5 q_6 q_7 q_8 q_9 q_10 q_11 0 0 0 0 0 0 0 0 0 (-1) (.ref q_12) (.ref q_13) 0 0 (.ref q_14) (.ref q_15) (.ref q_16) (.ref q_17) 0 0 0 (.ref q_18) 0 (.ref q_19) (.ref q_20) (.ref q_21) 0 number_1 name_1 sortOf_1 first_1 second_1 degree_1 colours_1 signBy_1 z_11 P_2 hP) dX11_init_191 rfl wM_X11_83 wI_X11_takeText wV_X11_takeText wN_X11 wC_X11_takeText (n := 0) (by decide +kernel) rfl (q0 := 0) rfl rfl ⟨Nat.le_of_ble_eq_true rfl, Nat.le_of_ble_eq_true rfl⟩ ⟨Nat.le_of_ble_eq_true rfl, Nat.le_of_ble_eq_true rfl⟩ (Nat.le_of_ble_eq_true rfl) [0, 2, 4, 5, 6, 7, 8, 9, 10, 11] [1, 3, 12, 13, 14, 15, 16, 17, 18, 19, 20, 21] rfl rfl rfl (fun v wc hv => ?_)
  obtain ⟨number_2, name_2, sortOf_2, first_2, second_2, degree_2, colours_2, signBy_2, own_1, rfl, rfl, hq⟩ := hv
  replace h := h number_2 name_2 sortOf_2 first_2 second_2 degree_2 colours_2 signBy_2 own_1 hq
  refine gG.perm (ws' := [oX11 h0 0 (.ref q_1) 0 (.ref q_2) (.ref q_3) (.ref q_4) (.ref q_5) (.ref q_6) (.ref q_7) (.ref q_8) (.ref q_9) (.ref q_10) (.ref q_11) 0 0 0 0 0 0 0 0 0 (-1) (.ref q_12) (.ref q_13) 0 0 (.ref q_14) (.ref q_15) (.ref q_16) (.ref q_17) 0 0 0 (.ref q_18) 0 (.ref q_19) (.ref q_20) (.ref q_21) 0, aI Y q_1 700 z_1, aI Y q_2 8 number_2, aZ Y q_3 9 isTold_1, aI Y q_4 24 name_2, aI Y q_5 24 sortOf_2, aI Y q_6 24 first_2, aI Y q_7 24 second_2, aI Y q_8 24 degree_2, aI Y q_9 24 colours_2, aI Y q_10 24 signBy_2, aI Y q_11 288 own_1, aI Y q_12 74 z_12, aI Y q_13 1554 z_13, aJ Y q_14 18 z_14, aJ Y q_15 216 z_15, aI Y q_16 6251 z_16, aI Y q_17 200001 z_17, aI Y q_18 900 z_18, aJ Y q_19 900 z_19, aJ Y q_20 900 z_20, aJ Y q_21 1601 z_21]) [12, 0, 13, 1, 14, 15, 16, 17, 18, 19, 20, 21, 2, 3, 4, 5, 6, 7, 8, 9, 10, 11] rfl rfl ?_
  refine g_aload_n C dX11_init_194 0 rfl ?_
  obtain ⟨P_3, hP, h⟩ := h
  refine g_callV (As := []) (rest := []) C (mX11_begins l D Y h0 0 (.ref q_1) 0 q_2 (.ref q_3) (.ref q_4) (.ref q_5) (.ref q_6) (.ref q_7) (.ref q_8) (.ref q_9) (.ref q_10) q_11 0 0 0 0 0 0 0 0 0 (-1) q_12 (.ref q_13) 0 0 (.ref q_14) (.ref q_15) q_16 (.ref q_17) 0 0 0 (.ref q_18) 0 (.ref q_19) (.ref q_20) (.ref q_21) 0 number_2 z_12 own_1 z_16 P_3 hP) dX11_init_195 rfl wM_X11_86 wI_X11_begins wV_X11_begins wN_X11 wC_X11_begins (n := 0) (by decide +kernel) rfl (q0 := 0) rfl rfl ⟨Nat.le_of_ble_eq_true rfl, Nat.le_of_ble_eq_true rfl⟩ ⟨Nat.le_of_ble_eq_true rfl, Nat.le_of_ble_eq_true rfl⟩ (Nat.le_of_ble_eq_true rfl) [0, 2, 12, 11, 16] [1, 3, 4, 5, 6, 7, 8, 9, 10, 13, 14, 15, 17, 18, 19, 20, 21] rfl rfl rfl (fun v wc hv => ?_)
  obtain ⟨rowOf_1, isSieved_1, sF_1, marks_1, rfl, rfl, hq⟩ := hv
  replace h := h rowOf_1 isSieved_1 sF_1 marks_1 hq
  refine gG.perm (ws' := [oX11 h0 0 (.ref q_1) 0 (.ref q_2) (.ref q_3) (.ref q_4) (.ref q_5) (.ref q_6) (.ref q_7) (.ref q_8) (.ref q_9) (.ref q_10) (.ref q_11) 0 0 0 0 0 0 0 0 0 (-1) (.ref q_12) (.ref q_13) 0 0 (.ref q_14) (.ref q_15) (.ref q_16) (.ref q_17) rowOf_1 0 isSieved_1 (.ref q_18) 0 (.ref q_19) (.ref q_20) (.ref q_21) 0, aI Y q_1 700 z_1, aI Y q_2 8 number_2, aZ Y q_3 9 isTold_1, aI Y q_4 24 name_2, aI Y q_5 24 sortOf_2, aI Y q_6 24 first_2, aI Y q_7 24 second_2, aI Y q_8 24 degree_2, aI Y q_9 24 colours_2, aI Y q_10 24 signBy_2, aI Y q_11 288 own_1, aI Y q_12 74 sF_1, aI Y q_13 1554 z_13, aJ Y q_14 18 z_14, aJ Y q_15 216 z_15, aI Y q_16 6251 marks_1, aI Y q_17 200001 z_17, aI Y q_18 900 z_18, aJ Y q_19 900 z_19, aJ Y q_20 900 z_20, aJ Y q_21 1601 z_21]) [17, 0, 18, 1, 2, 3, 4, 5, 6, 7, 8, 20, 19, 9, 10, 11, 21, 12, 13, 14, 15, 16] rfl rfl ?_
  exact g_vret C hR (Nat.le_of_ble_eq_true rfl) (Nat.le_of_ble_eq_true rfl) dX11_init_198 ⟨0, q_1, 0, q_2, q_3, q_4, q_5, q_6, q_7, q_8, q_9, q_10, q_11, 0, 0, 0, 0, 0, 0, 0, 0, 0, (-1), q_12, q_13, 0, 0, q_14, q_15, q_16, q_17, rowOf_1, 0, isSieved_1, q_18, 0, q_19, q_20, q_21, 0, z_1, number_2, isTold_1, name_2, sortOf_2, first_2, second_2, degree_2, colours_2, signBy_2, own_1, sF_1, z_13, z_14, z_15, marks_1, z_17, z_18, z_19, z_20, z_21, rfl, rfl, h⟩
theorem dX11_thrown_0 : decode cX11_thrown 0 = .ok (.aload_n 0, 1) := by decide +kernel
theorem dX11_thrown_1 : decode cX11_thrown 1 = .ok (.getfield 89, 3) := by decide +kernel
theorem dX11_thrown_4 : decode cX11_thrown 4 = .ok (.ireturn, 1) := by decide +kernel
/-- QuotientSumsModel.thrown()I -/
def wX11_thrown (thrown : Int32) (taped : Int32) (lines : Int32) (size : Int32) (atF : Int32) (place : Int32) (sort : Int32) (value : Int32) (fault : Int32) (faultPlace : Int32) (lastFault : Int32) (lastPlace : Int32) (undoable : Int32) (hasImage : Int32) (rowOf : Int32) (areSums : Int32) (isSieved : Int32) (blocks : Int32) (drawn : Int32)  (Q : (Int32) → Prop) : Prop :=
  (Q thrown)
set_option maxHeartbeats 4000000 in
set_option maxRecDepth 100000 in
theorem mX11_thrown (l : Launch) (D : va_G) (Y : Nat → ClassId) (h0 : Nat) (thrown : Int32) (v_tape : Value) (taped : Int32) (v_number : Value) (v_isTold : Value) (v_name : Value) (v_sortOf : Value) (v_first : Value) (v_second : Value) (v_degree : Value) (v_colours : Value) (v_signBy : Value) (v_own : Value) (lines : Int32) (size : Int32) (atF : Int32) (place : Int32) (sort : Int32) (value : Int32) (fault : Int32) (faultPlace : Int32) (lastFault : Int32) (lastPlace : Int32) (v_sF : Value) (v_kept : Value) (undoable : Int32) (hasImage : Int32) (v_power : Value) (v_table : Value) (v_marks : Value) (v_row : Value) (rowOf : Int32) (areSums : Int32) (isSieved : Int32) (v_lastOf : Value) (blocks : Int32) (v_inBlock : Value) (v_atQuotient : Value) (v_small : Value) (drawn : Int32)  (Q : (Int32) → Prop) (h : wX11_thrown thrown taped lines size atF place sort value fault faultPlace lastFault lastPlace undoable hasImage rowOf areSums isSieved blocks drawn Q) : gM l D Y yX11_thrown cX11_thrown 1 (some .int) 0 0 0 0 [.ref h0] [oX11 h0 thrown (v_tape) taped (v_number) (v_isTold) (v_name) (v_sortOf) (v_first) (v_second) (v_degree) (v_colours) (v_signBy) (v_own) lines size atF place sort value fault faultPlace lastFault lastPlace (v_sF) (v_kept) undoable hasImage (v_power) (v_table) (v_marks) (v_row) rowOf areSums isSieved (v_lastOf) blocks (v_inBlock) (v_atQuotient) (v_small) drawn] (fun v w => ∃ r : Int32, v = some (.int r) ∧ w = [oX11 h0 thrown (v_tape) taped (v_number) (v_isTold) (v_name) (v_sortOf) (v_first) (v_second) (v_degree) (v_colours) (v_signBy) (v_own) lines size atF place sort value fault faultPlace lastFault lastPlace (v_sF) (v_kept) undoable hasImage (v_power) (v_table) (v_marks) (v_row) rowOf areSums isSieved (v_lastOf) blocks (v_inBlock) (v_atQuotient) (v_small) drawn] ∧ Q r) := by
  refine gM_of (own := RX11) (by decide +kernel) rfl (Nat.le_of_ble_eq_true rfl) rfl (fun E C hR => ?_)
  unfold wX11_thrown at h
  refine g_aload_n C dX11_thrown_0 0 rfl ?_
  refine g_get C inX11 0 rfl rfl 0 (by decide) wF_X11_89 rfl dX11_thrown_1 ?_
  exact g_iret C hR (Nat.le_of_ble_eq_true rfl) (Nat.le_of_ble_eq_true rfl) dX11_thrown_4 ⟨thrown, rfl, rfl, h⟩
theorem dX11_feed_0 : decode cX11_feed 0 = .ok (.aload_n 0, 1) := by decide +kernel
theorem dX11_feed_1 : decode cX11_feed 1 = .ok (.iconst 0, 1) := by decide +kernel
theorem dX11_feed_2 : decode cX11_feed 2 = .ok (.putfield 89, 3) := by decide +kernel
theorem dX11_feed_5 : decode cX11_feed 5 = .ok (.aload_n 0, 1) := by decide +kernel
theorem dX11_feed_6 : decode cX11_feed 6 = .ok (.getfield 92, 3) := by decide +kernel
theorem dX11_feed_9 : decode cX11_feed 9 = .ok (.sipush 680, 3) := by decide +kernel
theorem dX11_feed_12 : decode cX11_feed 12 = .ok (.if_icmp .le 5, 3) := by decide +kernel
theorem dX11_feed_15 : decode cX11_feed 15 = .ok (.iconst (-1), 1) := by decide +kernel
theorem dX11_feed_16 : decode cX11_feed 16 = .ok (.ireturn, 1) := by decide +kernel
theorem dX11_feed_17 : decode cX11_feed 17 = .ok (.iconst 0, 1) := by decide +kernel
theorem dX11_feed_18 : decode cX11_feed 18 = .ok (.istore 6, 2) := by decide +kernel
theorem dX11_feed_20 : decode cX11_feed 20 = .ok (.iload 6, 2) := by decide +kernel
theorem dX11_feed_22 : decode cX11_feed 22 = .ok (.bipush 20, 2) := by decide +kernel
theorem dX11_feed_24 : decode cX11_feed 24 = .ok (.if_icmp .ge 86, 3) := by decide +kernel
theorem dX11_feed_27 : decode cX11_feed 27 = .ok (.iload 6, 2) := by decide +kernel
theorem dX11_feed_29 : decode cX11_feed 29 = .ok (.iconst 4, 1) := by decide +kernel
theorem dX11_feed_30 : decode cX11_feed 30 = .ok (.if_icmp .ge 7, 3) := by decide +kernel
theorem dX11_feed_33 : decode cX11_feed 33 = .ok (.iload_n 1, 1) := by decide +kernel
theorem dX11_feed_34 : decode cX11_feed 34 = .ok (.goto 39, 3) := by decide +kernel
theorem dX11_feed_37 : decode cX11_feed 37 = .ok (.iload 6, 2) := by decide +kernel
theorem dX11_feed_39 : decode cX11_feed 39 = .ok (.bipush 8, 2) := by decide +kernel
theorem dX11_feed_41 : decode cX11_feed 41 = .ok (.if_icmp .ge 7, 3) := by decide +kernel
theorem dX11_feed_44 : decode cX11_feed 44 = .ok (.iload_n 2, 1) := by decide +kernel
theorem dX11_feed_45 : decode cX11_feed 45 = .ok (.goto 28, 3) := by decide +kernel
theorem dX11_feed_48 : decode cX11_feed 48 = .ok (.iload 6, 2) := by decide +kernel
theorem dX11_feed_50 : decode cX11_feed 50 = .ok (.bipush 12, 2) := by decide +kernel
theorem dX11_feed_52 : decode cX11_feed 52 = .ok (.if_icmp .ge 7, 3) := by decide +kernel
theorem dX11_feed_55 : decode cX11_feed 55 = .ok (.iload_n 3, 1) := by decide +kernel
theorem dX11_feed_56 : decode cX11_feed 56 = .ok (.goto 17, 3) := by decide +kernel
theorem dX11_feed_59 : decode cX11_feed 59 = .ok (.iload 6, 2) := by decide +kernel
theorem dX11_feed_61 : decode cX11_feed 61 = .ok (.bipush 16, 2) := by decide +kernel
theorem dX11_feed_63 : decode cX11_feed 63 = .ok (.if_icmp .ge 8, 3) := by decide +kernel
theorem dX11_feed_66 : decode cX11_feed 66 = .ok (.iload 4, 2) := by decide +kernel
theorem dX11_feed_68 : decode cX11_feed 68 = .ok (.goto 5, 3) := by decide +kernel
theorem dX11_feed_71 : decode cX11_feed 71 = .ok (.iload 5, 2) := by decide +kernel
theorem dX11_feed_73 : decode cX11_feed 73 = .ok (.istore 7, 2) := by decide +kernel
theorem dX11_feed_75 : decode cX11_feed 75 = .ok (.aload_n 0, 1) := by decide +kernel
theorem dX11_feed_76 : decode cX11_feed 76 = .ok (.getfield 7, 3) := by decide +kernel
theorem dX11_feed_79 : decode cX11_feed 79 = .ok (.aload_n 0, 1) := by decide +kernel
theorem dX11_feed_80 : decode cX11_feed 80 = .ok (.getfield 92, 3) := by decide +kernel
theorem dX11_feed_83 : decode cX11_feed 83 = .ok (.iload 6, 2) := by decide +kernel
theorem dX11_feed_85 : decode cX11_feed 85 = .ok (.iadd, 1) := by decide +kernel
theorem dX11_feed_86 : decode cX11_feed 86 = .ok (.iload 7, 2) := by decide +kernel
theorem dX11_feed_88 : decode cX11_feed 88 = .ok (.bipush 24, 2) := by decide +kernel
theorem dX11_feed_90 : decode cX11_feed 90 = .ok (.bipush 8, 2) := by decide +kernel
theorem dX11_feed_92 : decode cX11_feed 92 = .ok (.iload 6, 2) := by decide +kernel
theorem dX11_feed_94 : decode cX11_feed 94 = .ok (.iconst 4, 1) := by decide +kernel
theorem dX11_feed_95 : decode cX11_feed 95 = .ok (.irem, 1) := by decide +kernel
theorem dX11_feed_96 : decode cX11_feed 96 = .ok (.imul, 1) := by decide +kernel
theorem dX11_feed_97 : decode cX11_feed 97 = .ok (.isub, 1) := by decide +kernel
theorem dX11_feed_98 : decode cX11_feed 98 = .ok (.ishr, 1) := by decide +kernel
theorem dX11_feed_99 : decode cX11_feed 99 = .ok (.sipush 255, 3) := by decide +kernel
theorem dX11_feed_102 : decode cX11_feed 102 = .ok (.iand, 1) := by decide +kernel
theorem dX11_feed_103 : decode cX11_feed 103 = .ok (.iastore, 1) := by decide +kernel
theorem dX11_feed_104 : decode cX11_feed 104 = .ok (.iinc 6 1, 3) := by decide +kernel
theorem dX11_feed_107 : decode cX11_feed 107 = .ok (.goto (-87), 3) := by decide +kernel
theorem dX11_feed_110 : decode cX11_feed 110 = .ok (.aload_n 0, 1) := by decide +kernel
theorem dX11_feed_111 : decode cX11_feed 111 = .ok (.dup, 1) := by decide +kernel
theorem dX11_feed_112 : decode cX11_feed 112 = .ok (.getfield 92, 3) := by decide +kernel
theorem dX11_feed_115 : decode cX11_feed 115 = .ok (.bipush 20, 2) := by decide +kernel
theorem dX11_feed_117 : decode cX11_feed 117 = .ok (.iadd, 1) := by decide +kernel
theorem dX11_feed_118 : decode cX11_feed 118 = .ok (.putfield 92, 3) := by decide +kernel
theorem dX11_feed_121 : decode cX11_feed 121 = .ok (.aload_n 0, 1) := by decide +kernel
theorem dX11_feed_122 : decode cX11_feed 122 = .ok (.getfield 92, 3) := by decide +kernel
theorem dX11_feed_125 : decode cX11_feed 125 = .ok (.ireturn, 1) := by decide +kernel
/-- QuotientSumsModel.feed(IIIII)I -/
def wX11_feed (thrown : Int32) (taped : Int32) (lines : Int32) (size : Int32) (atF : Int32) (place : Int32) (sort : Int32) (value : Int32) (fault : Int32) (faultPlace : Int32) (lastFault : Int32) (lastPlace : Int32) (undoable : Int32) (hasImage : Int32) (rowOf : Int32) (areSums : Int32) (isSieved : Int32) (blocks : Int32) (drawn : Int32) (tape : Nat → Int32) (a1 : Int32) (a2 : Int32) (a3 : Int32) (a4 : Int32) (a5 : Int32) (Q : (Int32) → (Int32) → (Int32) → (Nat → Int32) → Prop) : Prop :=
  ((taped ≤ 680 → (∃ (Inv_1 : (Nat → Int32) → (Int32) → Prop) (Mea_1 : (Nat → Int32) → (Int32) → Nat), Inv_1 tape 0 ∧ ∀ (tape_1 : Nat → Int32) (x6_1 : Int32), Inv_1 tape_1 x6_1 → ((20 ≤ x6_1 → (∀ taped_1 : Int32, taped_1 = taped + 20 → (Q taped_1 0 taped_1 tape_1))) ∧ (¬ 20 ≤ x6_1 → ((4 ≤ x6_1 → ((8 ≤ x6_1 → ((12 ≤ x6_1 → ((16 ≤ x6_1 → (∀ e_1 : Int32, e_1 = (a5 >>> ((24 - (8 * (x6_1 - x6_1 / 4 * 4))) &&& 31)) &&& 255 → vp_in (taped + x6_1) 700 ∧ ∀ tape_2 : Nat → Int32, tape_2 = upd tape_1 (taped + x6_1).toNatClampNeg e_1 → (Inv_1 tape_2 (x6_1 + 1) ∧ Mea_1 tape_2 (x6_1 + 1) < Mea_1 tape_1 x6_1))) ∧ (¬ 16 ≤ x6_1 → (∀ e_2 : Int32, e_2 = (a4 >>> ((24 - (8 * (x6_1 - x6_1 / 4 * 4))) &&& 31)) &&& 255 → vp_in (taped + x6_1) 700 ∧ ∀ tape_3 : Nat → Int32, tape_3 = upd tape_1 (taped + x6_1).toNatClampNeg e_2 → (Inv_1 tape_3 (x6_1 + 1) ∧ Mea_1 tape_3 (x6_1 + 1) < Mea_1 tape_1 x6_1))))) ∧ (¬ 12 ≤ x6_1 → (∀ e_3 : Int32, e_3 = (a3 >>> ((24 - (8 * (x6_1 - x6_1 / 4 * 4))) &&& 31)) &&& 255 → vp_in (taped + x6_1) 700 ∧ ∀ tape_4 : Nat → Int32, tape_4 = upd tape_1 (taped + x6_1).toNatClampNeg e_3 → (Inv_1 tape_4 (x6_1 + 1) ∧ Mea_1 tape_4 (x6_1 + 1) < Mea_1 tape_1 x6_1))))) ∧ (¬ 8 ≤ x6_1 → (∀ e_4 : Int32, e_4 = (a2 >>> ((24 - (8 * (x6_1 - x6_1 / 4 * 4))) &&& 31)) &&& 255 → vp_in (taped + x6_1) 700 ∧ ∀ tape_5 : Nat → Int32, tape_5 = upd tape_1 (taped + x6_1).toNatClampNeg e_4 → (Inv_1 tape_5 (x6_1 + 1) ∧ Mea_1 tape_5 (x6_1 + 1) < Mea_1 tape_1 x6_1))))) ∧ (¬ 4 ≤ x6_1 → (∀ e_5 : Int32, e_5 = (a1 >>> ((24 - (8 * (x6_1 - x6_1 / 4 * 4))) &&& 31)) &&& 255 → vp_in (taped + x6_1) 700 ∧ ∀ tape_6 : Nat → Int32, tape_6 = upd tape_1 (taped + x6_1).toNatClampNeg e_5 → (Inv_1 tape_6 (x6_1 + 1) ∧ Mea_1 tape_6 (x6_1 + 1) < Mea_1 tape_1 x6_1)))))))) ∧ (¬ taped ≤ 680 → (Q (-1) 0 taped tape)))
set_option maxHeartbeats 4000000 in
set_option maxRecDepth 100000 in
theorem mX11_feed (l : Launch) (D : va_G) (Y : Nat → ClassId) (h0 : Nat) (thrown : Int32) (q_tape : Nat) (taped : Int32) (v_number : Value) (v_isTold : Value) (v_name : Value) (v_sortOf : Value) (v_first : Value) (v_second : Value) (v_degree : Value) (v_colours : Value) (v_signBy : Value) (v_own : Value) (lines : Int32) (size : Int32) (atF : Int32) (place : Int32) (sort : Int32) (value : Int32) (fault : Int32) (faultPlace : Int32) (lastFault : Int32) (lastPlace : Int32) (v_sF : Value) (v_kept : Value) (undoable : Int32) (hasImage : Int32) (v_power : Value) (v_table : Value) (v_marks : Value) (v_row : Value) (rowOf : Int32) (areSums : Int32) (isSieved : Int32) (v_lastOf : Value) (blocks : Int32) (v_inBlock : Value) (v_atQuotient : Value) (v_small : Value) (drawn : Int32) (tape : Nat → Int32) (a1 : Int32) (a2 : Int32) (a3 : Int32) (a4 : Int32) (a5 : Int32) (Q : (Int32) → (Int32) → (Int32) → (Nat → Int32) → Prop) (h : wX11_feed thrown taped lines size atF place sort value fault faultPlace lastFault lastPlace undoable hasImage rowOf areSums isSieved blocks drawn tape a1 a2 a3 a4 a5 Q) : gM l D Y yX11_feed cX11_feed 8 (some .int) 0 0 0 0 [.ref h0, .int a1, .int a2, .int a3, .int a4, .int a5] [oX11 h0 thrown (.ref q_tape) taped (v_number) (v_isTold) (v_name) (v_sortOf) (v_first) (v_second) (v_degree) (v_colours) (v_signBy) (v_own) lines size atF place sort value fault faultPlace lastFault lastPlace (v_sF) (v_kept) undoable hasImage (v_power) (v_table) (v_marks) (v_row) rowOf areSums isSieved (v_lastOf) blocks (v_inBlock) (v_atQuotient) (v_small) drawn, aI Y q_tape 700 tape] (fun v w => ∃ r : Int32, ∃ thrown' : Int32, ∃ taped' : Int32, ∃ tape' : Nat → Int32, v = some (.int r) ∧ w = [oX11 h0 thrown' (.ref q_tape) taped' (v_number) (v_isTold) (v_name) (v_sortOf) (v_first) (v_second) (v_degree) (v_colours) (v_signBy) (v_own) lines size atF place sort value fault faultPlace lastFault lastPlace (v_sF) (v_kept) undoable hasImage (v_power) (v_table) (v_marks) (v_row) rowOf areSums isSieved (v_lastOf) blocks (v_inBlock) (v_atQuotient) (v_small) drawn, aI Y q_tape 700 tape'] ∧ Q r thrown' taped' tape') := by
  refine gM_of (own := RX11) (by decide +kernel) rfl (Nat.le_of_ble_eq_true rfl) rfl (fun E C hR => ?_)
  unfold wX11_feed at h
  refine g_aload_n C dX11_feed_0 0 rfl ?_
  refine g_iconst (v := 0) C dX11_feed_1 rfl ?_
  refine g_put C inX11 tyX11 tyX11_ok nmX11 0 rfl rfl 0 (by decide) wF_X11_89 rfl rfl rfl (Nat.le_of_ble_eq_true rfl) (ws' := [oX11 h0 0 (.ref q_tape) taped (v_number) (v_isTold) (v_name) (v_sortOf) (v_first) (v_second) (v_degree) (v_colours) (v_signBy) (v_own) lines size atF place sort value fault faultPlace lastFault lastPlace (v_sF) (v_kept) undoable hasImage (v_power) (v_table) (v_marks) (v_row) rowOf areSums isSieved (v_lastOf) blocks (v_inBlock) (v_atQuotient) (v_small) drawn, aI Y q_tape 700 tape]) rfl dX11_feed_2 ?_
  refine g_aload_n C dX11_feed_5 0 rfl ?_
  refine g_get C inX11 0 rfl rfl 2 (by decide) wF_X11_92 rfl dX11_feed_6 ?_
  refine g_sipush (v := 680) C dX11_feed_9 rfl ?_
  refine g_icmp_le (tgt := 17) C dX11_feed_12 (by decide) (fun c_1 => ?_) (fun c_1 => ?_)
  · replace h := h.1 c_1
    refine g_iconst (v := 0) C dX11_feed_17 rfl ?_
    refine g_istore (lv' := [(6, .int 0), (0, .ref h0), (1, .int a1), (2, .int a2), (3, .int a3), (4, .int a4), (5, .int a5)]) C dX11_feed_18 (by decide) rfl ?_
    obtain ⟨Inv_1, Mea_1, hI1, hB1⟩ := h
    have key_1 : ∀ (n : Nat) (tape_1 : Nat → Int32) (x6_1 : Int32) , Mea_1 tape_1 x6_1 < n → Inv_1 tape_1 x6_1 → gG E 0 0 [oX11 h0 0 (.ref q_tape) taped (v_number) (v_isTold) (v_name) (v_sortOf) (v_first) (v_second) (v_degree) (v_colours) (v_signBy) (v_own) lines size atF place sort value fault faultPlace lastFault lastPlace (v_sF) (v_kept) undoable hasImage (v_power) (v_table) (v_marks) (v_row) rowOf areSums isSieved (v_lastOf) blocks (v_inBlock) (v_atQuotient) (v_small) drawn, aI Y q_tape 700 tape_1] [(0, .ref h0), (1, .int a1), (2, .int a2), (3, .int a3), (4, .int a4), (5, .int a5), (6, .int x6_1)] [] 20 := by
      intro n
      induction n with
      | zero => exact fun _ _ hm => absurd hm (Nat.not_lt_zero _)
      | succ n ih1 =>
        intro tape_1 x6_1  hm1 hI
        have h := hB1 tape_1 x6_1 hI
        refine g_iload C dX11_feed_20 6 rfl ?_
        refine g_bipush (v := 20) C dX11_feed_22 rfl ?_
        refine g_icmp_ge (tgt := 110) C dX11_feed_24 (by decide) (fun c_2 => ?_) (fun c_2 => ?_)
        · replace h := h.1 c_2
          refine g_aload_n C dX11_feed_110 0 rfl ?_
          refine g_dup C dX11_feed_111 rfl ?_
          refine g_get C inX11 0 rfl rfl 2 (by decide) wF_X11_92 rfl dX11_feed_112 ?_
          refine g_bipush (v := 20) C dX11_feed_115 rfl ?_
          refine g_iadd C dX11_feed_117 ?_
          refine g_topi (fun taped_1 etaped_1 => ?_)
          replace h := h taped_1 etaped_1
          refine g_put C inX11 tyX11 tyX11_ok nmX11 0 rfl rfl 2 (by decide) wF_X11_92 rfl rfl rfl (Nat.le_of_ble_eq_true rfl) (ws' := [oX11 h0 0 (.ref q_tape) taped_1 (v_number) (v_isTold) (v_name) (v_sortOf) (v_first) (v_second) (v_degree) (v_colours) (v_signBy) (v_own) lines size atF place sort value fault faultPlace lastFault lastPlace (v_sF) (v_kept) undoable hasImage (v_power) (v_table) (v_marks) (v_row) rowOf areSums isSieved (v_lastOf) blocks (v_inBlock) (v_atQuotient) (v_small) drawn, aI Y q_tape 700 tape_1]) rfl dX11_feed_118 ?_
          refine g_aload_n C dX11_feed_121 0 rfl ?_
          refine g_get C inX11 0 rfl rfl 2 (by decide) wF_X11_92 rfl dX11_feed_122 ?_
          exact g_iret C hR (Nat.le_of_ble_eq_true rfl) (Nat.le_of_ble_eq_true rfl) dX11_feed_125 ⟨taped_1, 0, taped_1, tape_1, rfl, rfl, h⟩
        · replace h := h.2 c_2
          refine g_iload C dX11_feed_27 6 rfl ?_
          refine g_iconst (v := 4) C dX11_feed_29 rfl ?_
          refine g_icmp_ge (tgt := 37) C dX11_feed_30 (by decide) (fun c_3 => ?_) (fun c_3 => ?_)
          · replace h := h.1 c_3
            refine g_iload C dX11_feed_37 6 rfl ?_
            refine g_bipush (v := 8) C dX11_feed_39 rfl ?_
            refine g_icmp_ge (tgt := 48) C dX11_feed_41 (by decide) (fun c_4 => ?_) (fun c_4 => ?_)
            · replace h := h.1 c_4
              refine g_iload C dX11_feed_48 6 rfl ?_
              refine g_bipush (v := 12) C dX11_feed_50 rfl ?_
              refine g_icmp_ge (tgt := 59) C dX11_feed_52 (by decide) (fun c_5 => ?_) (fun c_5 => ?_)
              · replace h := h.1 c_5
                refine g_iload C dX11_feed_59 6 rfl ?_
                refine g_bipush (v := 16) C dX11_feed_61 rfl ?_
                refine g_icmp_ge (tgt := 71) C dX11_feed_63 (by decide) (fun c_6 => ?_) (fun c_6 => ?_)
                · replace h := h.1 c_6
                  refine g_iload C dX11_feed_71 5 rfl ?_
                  refine g_istore (lv' := [(7, .int a5), (0, .ref h0), (1, .int a1), (2, .int a2), (3, .int a3), (4, .int a4), (5, .int a5), (6, .int x6_1)]) C dX11_feed_73 (by decide) rfl ?_
                  refine g_aload_n C dX11_feed_75 1 rfl ?_
                  refine g_get C inX11 0 rfl rfl 1 (by decide) wF_X11_7 rfl dX11_feed_76 ?_
                  refine g_aload_n C dX11_feed_79 1 rfl ?_
                  refine g_get C inX11 0 rfl rfl 2 (by decide) wF_X11_92 rfl dX11_feed_80 ?_
                  refine g_iload C dX11_feed_83 7 rfl ?_
                  refine g_iadd C dX11_feed_85 ?_
                  refine g_iload C dX11_feed_86 0 rfl ?_
                  refine g_bipush (v := 24) C dX11_feed_88 rfl ?_
                  refine g_bipush (v := 8) C dX11_feed_90 rfl ?_
                  refine g_iload C dX11_feed_92 7 rfl ?_
                  refine g_iconst (v := 4) C dX11_feed_94 rfl ?_
                  refine g_irem C dX11_feed_95 (by decide) ?_
                  refine g_imul C dX11_feed_96 ?_
                  refine g_isub C dX11_feed_97 ?_
                  refine g_ishr C dX11_feed_98 ?_
                  refine g_sipush (v := 255) C dX11_feed_99 rfl ?_
                  refine g_iand C dX11_feed_102 ?_
                  refine g_topi (fun e_1 ee_1 => ?_)
                  replace h := h e_1 ee_1
                  obtain ⟨hc_1, h⟩ := h
                  refine g_iast C 1 rfl hc_1 dX11_feed_103 (fun tape_2 etape_2 => gG.eqw (ws' := [oX11 h0 0 (.ref q_tape) taped (v_number) (v_isTold) (v_name) (v_sortOf) (v_first) (v_second) (v_degree) (v_colours) (v_signBy) (v_own) lines size atF place sort value fault faultPlace lastFault lastPlace (v_sF) (v_kept) undoable hasImage (v_power) (v_table) (v_marks) (v_row) rowOf areSums isSieved (v_lastOf) blocks (v_inBlock) (v_atQuotient) (v_small) drawn, aI Y q_tape 700 tape_2]) rfl ?_)
                  replace h := h tape_2 etape_2
                  refine g_iinc (v := x6_1 + 1) (lv' := [(6, .int (x6_1 + 1)), (7, .int a5), (0, .ref h0), (1, .int a1), (2, .int a2), (3, .int a3), (4, .int a4), (5, .int a5)]) C dX11_feed_104 7 rfl rfl (by decide) rfl ?_
                  refine g_goto (tgt := 20) C dX11_feed_107 (by decide) ?_
                  refine gG.locals (lv' := [(0, .ref h0), (1, .int a1), (2, .int a2), (3, .int a3), (4, .int a4), (5, .int a5), (6, .int (x6_1 + 1))]) [2, 3, 4, 5, 6, 7, 0] rfl ?_
                  exact ih1 tape_2 (x6_1 + 1) (Nat.lt_of_lt_of_le h.2 (Nat.le_of_lt_succ hm1)) h.1
                · replace h := h.2 c_6
                  refine g_iload C dX11_feed_66 4 rfl ?_
                  refine g_goto (tgt := 73) C dX11_feed_68 (by decide) ?_
                  refine g_istore (lv' := [(7, .int a4), (0, .ref h0), (1, .int a1), (2, .int a2), (3, .int a3), (4, .int a4), (5, .int a5), (6, .int x6_1)]) C dX11_feed_73 (by decide) rfl ?_
                  refine g_aload_n C dX11_feed_75 1 rfl ?_
                  refine g_get C inX11 0 rfl rfl 1 (by decide) wF_X11_7 rfl dX11_feed_76 ?_
                  refine g_aload_n C dX11_feed_79 1 rfl ?_
                  refine g_get C inX11 0 rfl rfl 2 (by decide) wF_X11_92 rfl dX11_feed_80 ?_
                  refine g_iload C dX11_feed_83 7 rfl ?_
                  refine g_iadd C dX11_feed_85 ?_
                  refine g_iload C dX11_feed_86 0 rfl ?_
                  refine g_bipush (v := 24) C dX11_feed_88 rfl ?_
                  refine g_bipush (v := 8) C dX11_feed_90 rfl ?_
                  refine g_iload C dX11_feed_92 7 rfl ?_
                  refine g_iconst (v := 4) C dX11_feed_94 rfl ?_
                  refine g_irem C dX11_feed_95 (by decide) ?_
                  refine g_imul C dX11_feed_96 ?_
                  refine g_isub C dX11_feed_97 ?_
                  refine g_ishr C dX11_feed_98 ?_
                  refine g_sipush (v := 255) C dX11_feed_99 rfl ?_
                  refine g_iand C dX11_feed_102 ?_
                  refine g_topi (fun e_2 ee_2 => ?_)
                  replace h := h e_2 ee_2
                  obtain ⟨hc_2, h⟩ := h
                  refine g_iast C 1 rfl hc_2 dX11_feed_103 (fun tape_3 etape_3 => gG.eqw (ws' := [oX11 h0 0 (.ref q_tape) taped (v_number) (v_isTold) (v_name) (v_sortOf) (v_first) (v_second) (v_degree) (v_colours) (v_signBy) (v_own) lines size atF place sort value fault faultPlace lastFault lastPlace (v_sF) (v_kept) undoable hasImage (v_power) (v_table) (v_marks) (v_row) rowOf areSums isSieved (v_lastOf) blocks (v_inBlock) (v_atQuotient) (v_small) drawn, aI Y q_tape 700 tape_3]) rfl ?_)
                  replace h := h tape_3 etape_3
                  refine g_iinc (v := x6_1 + 1) (lv' := [(6, .int (x6_1 + 1)), (7, .int a4), (0, .ref h0), (1, .int a1), (2, .int a2), (3, .int a3), (4, .int a4), (5, .int a5)]) C dX11_feed_104 7 rfl rfl (by decide) rfl ?_
                  refine g_goto (tgt := 20) C dX11_feed_107 (by decide) ?_
                  refine gG.locals (lv' := [(0, .ref h0), (1, .int a1), (2, .int a2), (3, .int a3), (4, .int a4), (5, .int a5), (6, .int (x6_1 + 1))]) [2, 3, 4, 5, 6, 7, 0] rfl ?_
                  exact ih1 tape_3 (x6_1 + 1) (Nat.lt_of_lt_of_le h.2 (Nat.le_of_lt_succ hm1)) h.1
              · replace h := h.2 c_5
                refine g_iload_n C dX11_feed_55 3 rfl ?_
                refine g_goto (tgt := 73) C dX11_feed_56 (by decide) ?_
                refine g_istore (lv' := [(7, .int a3), (0, .ref h0), (1, .int a1), (2, .int a2), (3, .int a3), (4, .int a4), (5, .int a5), (6, .int x6_1)]) C dX11_feed_73 (by decide) rfl ?_
                refine g_aload_n C dX11_feed_75 1 rfl ?_
                refine g_get C inX11 0 rfl rfl 1 (by decide) wF_X11_7 rfl dX11_feed_76 ?_
                refine g_aload_n C dX11_feed_79 1 rfl ?_
                refine g_get C inX11 0 rfl rfl 2 (by decide) wF_X11_92 rfl dX11_feed_80 ?_
                refine g_iload C dX11_feed_83 7 rfl ?_
                refine g_iadd C dX11_feed_85 ?_
                refine g_iload C dX11_feed_86 0 rfl ?_
                refine g_bipush (v := 24) C dX11_feed_88 rfl ?_
                refine g_bipush (v := 8) C dX11_feed_90 rfl ?_
                refine g_iload C dX11_feed_92 7 rfl ?_
                refine g_iconst (v := 4) C dX11_feed_94 rfl ?_
                refine g_irem C dX11_feed_95 (by decide) ?_
                refine g_imul C dX11_feed_96 ?_
                refine g_isub C dX11_feed_97 ?_
                refine g_ishr C dX11_feed_98 ?_
                refine g_sipush (v := 255) C dX11_feed_99 rfl ?_
                refine g_iand C dX11_feed_102 ?_
                refine g_topi (fun e_3 ee_3 => ?_)
                replace h := h e_3 ee_3
                obtain ⟨hc_3, h⟩ := h
                refine g_iast C 1 rfl hc_3 dX11_feed_103 (fun tape_4 etape_4 => gG.eqw (ws' := [oX11 h0 0 (.ref q_tape) taped (v_number) (v_isTold) (v_name) (v_sortOf) (v_first) (v_second) (v_degree) (v_colours) (v_signBy) (v_own) lines size atF place sort value fault faultPlace lastFault lastPlace (v_sF) (v_kept) undoable hasImage (v_power) (v_table) (v_marks) (v_row) rowOf areSums isSieved (v_lastOf) blocks (v_inBlock) (v_atQuotient) (v_small) drawn, aI Y q_tape 700 tape_4]) rfl ?_)
                replace h := h tape_4 etape_4
                refine g_iinc (v := x6_1 + 1) (lv' := [(6, .int (x6_1 + 1)), (7, .int a3), (0, .ref h0), (1, .int a1), (2, .int a2), (3, .int a3), (4, .int a4), (5, .int a5)]) C dX11_feed_104 7 rfl rfl (by decide) rfl ?_
                refine g_goto (tgt := 20) C dX11_feed_107 (by decide) ?_
                refine gG.locals (lv' := [(0, .ref h0), (1, .int a1), (2, .int a2), (3, .int a3), (4, .int a4), (5, .int a5), (6, .int (x6_1 + 1))]) [2, 3, 4, 5, 6, 7, 0] rfl ?_
                exact ih1 tape_4 (x6_1 + 1) (Nat.lt_of_lt_of_le h.2 (Nat.le_of_lt_succ hm1)) h.1
            · replace h := h.2 c_4
              refine g_iload_n C dX11_feed_44 2 rfl ?_
              refine g_goto (tgt := 73) C dX11_feed_45 (by decide) ?_
              refine g_istore (lv' := [(7, .int a2), (0, .ref h0), (1, .int a1), (2, .int a2), (3, .int a3), (4, .int a4), (5, .int a5), (6, .int x6_1)]) C dX11_feed_73 (by decide) rfl ?_
              refine g_aload_n C dX11_feed_75 1 rfl ?_
              refine g_get C inX11 0 rfl rfl 1 (by decide) wF_X11_7 rfl dX11_feed_76 ?_
              refine g_aload_n C dX11_feed_79 1 rfl ?_
              refine g_get C inX11 0 rfl rfl 2 (by decide) wF_X11_92 rfl dX11_feed_80 ?_
              refine g_iload C dX11_feed_83 7 rfl ?_
              refine g_iadd C dX11_feed_85 ?_
              refine g_iload C dX11_feed_86 0 rfl ?_
              refine g_bipush (v := 24) C dX11_feed_88 rfl ?_
              refine g_bipush (v := 8) C dX11_feed_90 rfl ?_
              refine g_iload C dX11_feed_92 7 rfl ?_
              refine g_iconst (v := 4) C dX11_feed_94 rfl ?_
              refine g_irem C dX11_feed_95 (by decide) ?_
              refine g_imul C dX11_feed_96 ?_
              refine g_isub C dX11_feed_97 ?_
              refine g_ishr C dX11_feed_98 ?_
              refine g_sipush (v := 255) C dX11_feed_99 rfl ?_
              refine g_iand C dX11_feed_102 ?_
              refine g_topi (fun e_4 ee_4 => ?_)
              replace h := h e_4 ee_4
              obtain ⟨hc_4, h⟩ := h
              refine g_iast C 1 rfl hc_4 dX11_feed_103 (fun tape_5 etape_5 => gG.eqw (ws' := [oX11 h0 0 (.ref q_tape) taped (v_number) (v_isTold) (v_name) (v_sortOf) (v_first) (v_second) (v_degree) (v_colours) (v_signBy) (v_own) lines size atF place sort value fault faultPlace lastFault lastPlace (v_sF) (v_kept) undoable hasImage (v_power) (v_table) (v_marks) (v_row) rowOf areSums isSieved (v_lastOf) blocks (v_inBlock) (v_atQuotient) (v_small) drawn, aI Y q_tape 700 tape_5]) rfl ?_)
              replace h := h tape_5 etape_5
              refine g_iinc (v := x6_1 + 1) (lv' := [(6, .int (x6_1 + 1)), (7, .int a2), (0, .ref h0), (1, .int a1), (2, .int a2), (3, .int a3), (4, .int a4), (5, .int a5)]) C dX11_feed_104 7 rfl rfl (by decide) rfl ?_
              refine g_goto (tgt := 20) C dX11_feed_107 (by decide) ?_
              refine gG.locals (lv' := [(0, .ref h0), (1, .int a1), (2, .int a2), (3, .int a3), (4, .int a4), (5, .int a5), (6, .int (x6_1 + 1))]) [2, 3, 4, 5, 6, 7, 0] rfl ?_
              exact ih1 tape_5 (x6_1 + 1) (Nat.lt_of_lt_of_le h.2 (Nat.le_of_lt_succ hm1)) h.1
          · replace h := h.2 c_3
            refine g_iload_n C dX11_feed_33 1 rfl ?_
            refine g_goto (tgt := 73) C dX11_feed_34 (by decide) ?_
            refine g_istore (lv' := [(7, .int a1), (0, .ref h0), (1, .int a1), (2, .int a2), (3, .int a3), (4, .int a4), (5, .int a5), (6, .int x6_1)]) C dX11_feed_73 (by decide) rfl ?_
            refine g_aload_n C dX11_feed_75 1 rfl ?_
            refine g_get C inX11 0 rfl rfl 1 (by decide) wF_X11_7 rfl dX11_feed_76 ?_
            refine g_aload_n C dX11_feed_79 1 rfl ?_
            refine g_get C inX11 0 rfl rfl 2 (by decide) wF_X11_92 rfl dX11_feed_80 ?_
            refine g_iload C dX11_feed_83 7 rfl ?_
            refine g_iadd C dX11_feed_85 ?_
            refine g_iload C dX11_feed_86 0 rfl ?_
            refine g_bipush (v := 24) C dX11_feed_88 rfl ?_
            refine g_bipush (v := 8) C dX11_feed_90 rfl ?_
            refine g_iload C dX11_feed_92 7 rfl ?_
            refine g_iconst (v := 4) C dX11_feed_94 rfl ?_
            refine g_irem C dX11_feed_95 (by decide) ?_
            refine g_imul C dX11_feed_96 ?_
            refine g_isub C dX11_feed_97 ?_
            refine g_ishr C dX11_feed_98 ?_
            refine g_sipush (v := 255) C dX11_feed_99 rfl ?_
            refine g_iand C dX11_feed_102 ?_
            refine g_topi (fun e_5 ee_5 => ?_)
            replace h := h e_5 ee_5
            obtain ⟨hc_5, h⟩ := h
            refine g_iast C 1 rfl hc_5 dX11_feed_103 (fun tape_6 etape_6 => gG.eqw (ws' := [oX11 h0 0 (.ref q_tape) taped (v_number) (v_isTold) (v_name) (v_sortOf) (v_first) (v_second) (v_degree) (v_colours) (v_signBy) (v_own) lines size atF place sort value fault faultPlace lastFault lastPlace (v_sF) (v_kept) undoable hasImage (v_power) (v_table) (v_marks) (v_row) rowOf areSums isSieved (v_lastOf) blocks (v_inBlock) (v_atQuotient) (v_small) drawn, aI Y q_tape 700 tape_6]) rfl ?_)
            replace h := h tape_6 etape_6
            refine g_iinc (v := x6_1 + 1) (lv' := [(6, .int (x6_1 + 1)), (7, .int a1), (0, .ref h0), (1, .int a1), (2, .int a2), (3, .int a3), (4, .int a4), (5, .int a5)]) C dX11_feed_104 7 rfl rfl (by decide) rfl ?_
            refine g_goto (tgt := 20) C dX11_feed_107 (by decide) ?_
            refine gG.locals (lv' := [(0, .ref h0), (1, .int a1), (2, .int a2), (3, .int a3), (4, .int a4), (5, .int a5), (6, .int (x6_1 + 1))]) [2, 3, 4, 5, 6, 7, 0] rfl ?_
            exact ih1 tape_6 (x6_1 + 1) (Nat.lt_of_lt_of_le h.2 (Nat.le_of_lt_succ hm1)) h.1
    refine gG.locals (lv' := [(0, .ref h0), (1, .int a1), (2, .int a2), (3, .int a3), (4, .int a4), (5, .int a5), (6, .int 0)]) [1, 2, 3, 4, 5, 6, 0] rfl ?_
    exact key_1 (Mea_1 tape 0 + 1) tape 0 (Nat.lt_succ_self _) hI1
  · replace h := h.2 c_1
    refine g_iconst (v := (-1)) C dX11_feed_15 rfl ?_
    exact g_iret C hR (Nat.le_of_ble_eq_true rfl) (Nat.le_of_ble_eq_true rfl) dX11_feed_16 ⟨(-1), 0, taped, tape, rfl, rfl, h⟩
theorem dX11_here_0 : decode cX11_here 0 = .ok (.aload_n 0, 1) := by decide +kernel
theorem dX11_here_1 : decode cX11_here 1 = .ok (.getfield 95, 3) := by decide +kernel
theorem dX11_here_4 : decode cX11_here 4 = .ok (.aload_n 0, 1) := by decide +kernel
theorem dX11_here_5 : decode cX11_here 5 = .ok (.getfield 98, 3) := by decide +kernel
theorem dX11_here_8 : decode cX11_here 8 = .ok (.if_icmp .ge 15, 3) := by decide +kernel
theorem dX11_here_11 : decode cX11_here 11 = .ok (.aload_n 0, 1) := by decide +kernel
theorem dX11_here_12 : decode cX11_here 12 = .ok (.getfield 7, 3) := by decide +kernel
theorem dX11_here_15 : decode cX11_here 15 = .ok (.aload_n 0, 1) := by decide +kernel
theorem dX11_here_16 : decode cX11_here 16 = .ok (.getfield 95, 3) := by decide +kernel
theorem dX11_here_19 : decode cX11_here 19 = .ok (.iaload, 1) := by decide +kernel
theorem dX11_here_20 : decode cX11_here 20 = .ok (.goto 4, 3) := by decide +kernel
theorem dX11_here_23 : decode cX11_here 23 = .ok (.iconst (-1), 1) := by decide +kernel
theorem dX11_here_24 : decode cX11_here 24 = .ok (.ireturn, 1) := by decide +kernel
/-- QuotientSumsModel.here()I -/
def wX11_here (thrown : Int32) (taped : Int32) (lines : Int32) (size : Int32) (atF : Int32) (place : Int32) (sort : Int32) (value : Int32) (fault : Int32) (faultPlace : Int32) (lastFault : Int32) (lastPlace : Int32) (undoable : Int32) (hasImage : Int32) (rowOf : Int32) (areSums : Int32) (isSieved : Int32) (blocks : Int32) (drawn : Int32) (tape : Nat → Int32)  (Q : (Int32) → Prop) : Prop :=
  ((size ≤ atF → (Q (-1))) ∧ (¬ size ≤ atF → (vp_in atF 700 ∧ (Q (tape atF.toNatClampNeg)))))
set_option maxHeartbeats 4000000 in
set_option maxRecDepth 100000 in
theorem mX11_here (l : Launch) (D : va_G) (Y : Nat → ClassId) (h0 : Nat) (thrown : Int32) (q_tape : Nat) (taped : Int32) (v_number : Value) (v_isTold : Value) (v_name : Value) (v_sortOf : Value) (v_first : Value) (v_second : Value) (v_degree : Value) (v_colours : Value) (v_signBy : Value) (v_own : Value) (lines : Int32) (size : Int32) (atF : Int32) (place : Int32) (sort : Int32) (value : Int32) (fault : Int32) (faultPlace : Int32) (lastFault : Int32) (lastPlace : Int32) (v_sF : Value) (v_kept : Value) (undoable : Int32) (hasImage : Int32) (v_power : Value) (v_table : Value) (v_marks : Value) (v_row : Value) (rowOf : Int32) (areSums : Int32) (isSieved : Int32) (v_lastOf : Value) (blocks : Int32) (v_inBlock : Value) (v_atQuotient : Value) (v_small : Value) (drawn : Int32) (tape : Nat → Int32)  (Q : (Int32) → Prop) (h : wX11_here thrown taped lines size atF place sort value fault faultPlace lastFault lastPlace undoable hasImage rowOf areSums isSieved blocks drawn tape Q) : gM l D Y yX11_here cX11_here 1 (some .int) 0 0 0 0 [.ref h0] [oX11 h0 thrown (.ref q_tape) taped (v_number) (v_isTold) (v_name) (v_sortOf) (v_first) (v_second) (v_degree) (v_colours) (v_signBy) (v_own) lines size atF place sort value fault faultPlace lastFault lastPlace (v_sF) (v_kept) undoable hasImage (v_power) (v_table) (v_marks) (v_row) rowOf areSums isSieved (v_lastOf) blocks (v_inBlock) (v_atQuotient) (v_small) drawn, aI Y q_tape 700 tape] (fun v w => ∃ r : Int32, v = some (.int r) ∧ w = [oX11 h0 thrown (.ref q_tape) taped (v_number) (v_isTold) (v_name) (v_sortOf) (v_first) (v_second) (v_degree) (v_colours) (v_signBy) (v_own) lines size atF place sort value fault faultPlace lastFault lastPlace (v_sF) (v_kept) undoable hasImage (v_power) (v_table) (v_marks) (v_row) rowOf areSums isSieved (v_lastOf) blocks (v_inBlock) (v_atQuotient) (v_small) drawn, aI Y q_tape 700 tape] ∧ Q r) := by
  refine gM_of (own := RX11) (by decide +kernel) rfl (Nat.le_of_ble_eq_true rfl) rfl (fun E C hR => ?_)
  unfold wX11_here at h
  refine g_aload_n C dX11_here_0 0 rfl ?_
  refine g_get C inX11 0 rfl rfl 15 (by decide) wF_X11_95 rfl dX11_here_1 ?_
  refine g_aload_n C dX11_here_4 0 rfl ?_
  refine g_get C inX11 0 rfl rfl 14 (by decide) wF_X11_98 rfl dX11_here_5 ?_
  refine g_icmp_ge (tgt := 23) C dX11_here_8 (by decide) (fun c_1 => ?_) (fun c_1 => ?_)
  · replace h := h.1 c_1
    refine g_iconst (v := (-1)) C dX11_here_23 rfl ?_
    exact g_iret C hR (Nat.le_of_ble_eq_true rfl) (Nat.le_of_ble_eq_true rfl) dX11_here_24 ⟨(-1), rfl, rfl, h⟩
  · replace h := h.2 c_1
    refine g_aload_n C dX11_here_11 0 rfl ?_
    refine g_get C inX11 0 rfl rfl 1 (by decide) wF_X11_7 rfl dX11_here_12 ?_
    refine g_aload_n C dX11_here_15 0 rfl ?_
    refine g_get C inX11 0 rfl rfl 15 (by decide) wF_X11_95 rfl dX11_here_16 ?_
    obtain ⟨hc_1, h⟩ := h
    refine g_iald C 1 rfl hc_1 dX11_here_19 ?_
    refine g_goto (tgt := 24) C dX11_here_20 (by decide) ?_
    exact g_iret C hR (Nat.le_of_ble_eq_true rfl) (Nat.le_of_ble_eq_true rfl) dX11_here_24 ⟨tape atF.toNatClampNeg, rfl, rfl, h⟩
theorem dX11_isSmall_0 : decode cX11_isSmall 0 = .ok (.iload_n 0, 1) := by decide +kernel
theorem dX11_isSmall_1 : decode cX11_isSmall 1 = .ok (.bipush 97, 2) := by decide +kernel
theorem dX11_isSmall_3 : decode cX11_isSmall 3 = .ok (.if_icmp .lt 13, 3) := by decide +kernel
theorem dX11_isSmall_6 : decode cX11_isSmall 6 = .ok (.iload_n 0, 1) := by decide +kernel
theorem dX11_isSmall_7 : decode cX11_isSmall 7 = .ok (.bipush 122, 2) := by decide +kernel
theorem dX11_isSmall_9 : decode cX11_isSmall 9 = .ok (.if_icmp .gt 7, 3) := by decide +kernel
theorem dX11_isSmall_12 : decode cX11_isSmall 12 = .ok (.iconst 1, 1) := by decide +kernel
theorem dX11_isSmall_13 : decode cX11_isSmall 13 = .ok (.goto 4, 3) := by decide +kernel
theorem dX11_isSmall_16 : decode cX11_isSmall 16 = .ok (.iconst 0, 1) := by decide +kernel
theorem dX11_isSmall_17 : decode cX11_isSmall 17 = .ok (.ireturn, 1) := by decide +kernel
/-- QuotientSumsModel.isSmall(I)Z -/
def wX11_isSmall  (a1 : Int32) (Q : (Int32) → Prop) : Prop :=
  ((a1 < 97 → (Q 0)) ∧ (¬ a1 < 97 → ((122 < a1 → (Q 0)) ∧ (¬ 122 < a1 → (Q 1)))))
set_option maxHeartbeats 4000000 in
set_option maxRecDepth 100000 in
theorem mX11_isSmall (l : Launch) (D : va_G) (Y : Nat → ClassId)   (a1 : Int32) (Q : (Int32) → Prop) (h : wX11_isSmall a1 Q) : gM l D Y yX11_isSmall cX11_isSmall 1 (some .boolean) 0 0 0 0 [.int a1] [] (fun v w => ∃ r : Int32, v = some (.int r) ∧ w = [] ∧ Q r) := by
  refine gM_of (own := RX11) (by decide +kernel) rfl (Nat.le_of_ble_eq_true rfl) rfl (fun E C hR => ?_)
  unfold wX11_isSmall at h
  refine g_iload_n C dX11_isSmall_0 0 rfl ?_
  refine g_bipush (v := 97) C dX11_isSmall_1 rfl ?_
  refine g_icmp_lt (tgt := 16) C dX11_isSmall_3 (by decide) (fun c_1 => ?_) (fun c_1 => ?_)
  · replace h := h.1 c_1
    refine g_iconst (v := 0) C dX11_isSmall_16 rfl ?_
    exact g_zret C hR (by decide) (Nat.le_of_ble_eq_true rfl) (Nat.le_of_ble_eq_true rfl) dX11_isSmall_17 ⟨0, rfl, rfl, h⟩
  · replace h := h.2 c_1
    refine g_iload_n C dX11_isSmall_6 0 rfl ?_
    refine g_bipush (v := 122) C dX11_isSmall_7 rfl ?_
    refine g_icmp_gt (tgt := 16) C dX11_isSmall_9 (by decide) (fun c_2 => ?_) (fun c_2 => ?_)
    · replace h := h.1 c_2
      refine g_iconst (v := 0) C dX11_isSmall_16 rfl ?_
      exact g_zret C hR (by decide) (Nat.le_of_ble_eq_true rfl) (Nat.le_of_ble_eq_true rfl) dX11_isSmall_17 ⟨0, rfl, rfl, h⟩
    · replace h := h.2 c_2
      refine g_iconst (v := 1) C dX11_isSmall_12 rfl ?_
      refine g_goto (tgt := 17) C dX11_isSmall_13 (by decide) ?_
      exact g_zret C hR (by decide) (Nat.le_of_ble_eq_true rfl) (Nat.le_of_ble_eq_true rfl) dX11_isSmall_17 ⟨1, rfl, rfl, h⟩
theorem dX11_isDigit_0 : decode cX11_isDigit 0 = .ok (.iload_n 0, 1) := by decide +kernel
theorem dX11_isDigit_1 : decode cX11_isDigit 1 = .ok (.bipush 48, 2) := by decide +kernel
theorem dX11_isDigit_3 : decode cX11_isDigit 3 = .ok (.if_icmp .lt 13, 3) := by decide +kernel
theorem dX11_isDigit_6 : decode cX11_isDigit 6 = .ok (.iload_n 0, 1) := by decide +kernel
theorem dX11_isDigit_7 : decode cX11_isDigit 7 = .ok (.bipush 57, 2) := by decide +kernel
theorem dX11_isDigit_9 : decode cX11_isDigit 9 = .ok (.if_icmp .gt 7, 3) := by decide +kernel
theorem dX11_isDigit_12 : decode cX11_isDigit 12 = .ok (.iconst 1, 1) := by decide +kernel
theorem dX11_isDigit_13 : decode cX11_isDigit 13 = .ok (.goto 4, 3) := by decide +kernel
theorem dX11_isDigit_16 : decode cX11_isDigit 16 = .ok (.iconst 0, 1) := by decide +kernel
theorem dX11_isDigit_17 : decode cX11_isDigit 17 = .ok (.ireturn, 1) := by decide +kernel
/-- QuotientSumsModel.isDigit(I)Z -/
def wX11_isDigit  (a1 : Int32) (Q : (Int32) → Prop) : Prop :=
  ((a1 < 48 → (Q 0)) ∧ (¬ a1 < 48 → ((57 < a1 → (Q 0)) ∧ (¬ 57 < a1 → (Q 1)))))
set_option maxHeartbeats 4000000 in
set_option maxRecDepth 100000 in
theorem mX11_isDigit (l : Launch) (D : va_G) (Y : Nat → ClassId)   (a1 : Int32) (Q : (Int32) → Prop) (h : wX11_isDigit a1 Q) : gM l D Y yX11_isDigit cX11_isDigit 1 (some .boolean) 0 0 0 0 [.int a1] [] (fun v w => ∃ r : Int32, v = some (.int r) ∧ w = [] ∧ Q r) := by
  refine gM_of (own := RX11) (by decide +kernel) rfl (Nat.le_of_ble_eq_true rfl) rfl (fun E C hR => ?_)
  unfold wX11_isDigit at h
  refine g_iload_n C dX11_isDigit_0 0 rfl ?_
  refine g_bipush (v := 48) C dX11_isDigit_1 rfl ?_
  refine g_icmp_lt (tgt := 16) C dX11_isDigit_3 (by decide) (fun c_1 => ?_) (fun c_1 => ?_)
  · replace h := h.1 c_1
    refine g_iconst (v := 0) C dX11_isDigit_16 rfl ?_
    exact g_zret C hR (by decide) (Nat.le_of_ble_eq_true rfl) (Nat.le_of_ble_eq_true rfl) dX11_isDigit_17 ⟨0, rfl, rfl, h⟩
  · replace h := h.2 c_1
    refine g_iload_n C dX11_isDigit_6 0 rfl ?_
    refine g_bipush (v := 57) C dX11_isDigit_7 rfl ?_
    refine g_icmp_gt (tgt := 16) C dX11_isDigit_9 (by decide) (fun c_2 => ?_) (fun c_2 => ?_)
    · replace h := h.1 c_2
      refine g_iconst (v := 0) C dX11_isDigit_16 rfl ?_
      exact g_zret C hR (by decide) (Nat.le_of_ble_eq_true rfl) (Nat.le_of_ble_eq_true rfl) dX11_isDigit_17 ⟨0, rfl, rfl, h⟩
    · replace h := h.2 c_2
      refine g_iconst (v := 1) C dX11_isDigit_12 rfl ?_
      refine g_goto (tgt := 17) C dX11_isDigit_13 (by decide) ?_
      exact g_zret C hR (by decide) (Nat.le_of_ble_eq_true rfl) (Nat.le_of_ble_eq_true rfl) dX11_isDigit_17 ⟨1, rfl, rfl, h⟩
theorem dX11_wordHere_0 : decode cX11_wordHere 0 = .ok (.iconst 0, 1) := by decide +kernel
theorem dX11_wordHere_1 : decode cX11_wordHere 1 = .ok (.istore_n 1, 1) := by decide +kernel
theorem dX11_wordHere_2 : decode cX11_wordHere 2 = .ok (.iconst 0, 1) := by decide +kernel
theorem dX11_wordHere_3 : decode cX11_wordHere 3 = .ok (.istore_n 2, 1) := by decide +kernel
theorem dX11_wordHere_4 : decode cX11_wordHere 4 = .ok (.iload_n 2, 1) := by decide +kernel
theorem dX11_wordHere_5 : decode cX11_wordHere 5 = .ok (.ldc 131, 2) := by decide +kernel
theorem dX11_wordHere_7 : decode cX11_wordHere 7 = .ok (.invokevirtual 133, 3) := by decide +kernel
theorem dX11_wordHere_10 : decode cX11_wordHere 10 = .ok (.if_icmp .ge 113, 3) := by decide +kernel
theorem dX11_wordHere_13 : decode cX11_wordHere 13 = .ok (.iconst 0, 1) := by decide +kernel
theorem dX11_wordHere_14 : decode cX11_wordHere 14 = .ok (.istore_n 3, 1) := by decide +kernel
theorem dX11_wordHere_15 : decode cX11_wordHere 15 = .ok (.ldc 131, 2) := by decide +kernel
theorem dX11_wordHere_17 : decode cX11_wordHere 17 = .ok (.iload_n 2, 1) := by decide +kernel
theorem dX11_wordHere_18 : decode cX11_wordHere 18 = .ok (.iload_n 3, 1) := by decide +kernel
theorem dX11_wordHere_19 : decode cX11_wordHere 19 = .ok (.iadd, 1) := by decide +kernel
theorem dX11_wordHere_20 : decode cX11_wordHere 20 = .ok (.invokevirtual 138, 3) := by decide +kernel
theorem dX11_wordHere_23 : decode cX11_wordHere 23 = .ok (.bipush 32, 2) := by decide +kernel
theorem dX11_wordHere_25 : decode cX11_wordHere 25 = .ok (.if_icmp .eq 44, 3) := by decide +kernel
theorem dX11_wordHere_28 : decode cX11_wordHere 28 = .ok (.aload_n 0, 1) := by decide +kernel
theorem dX11_wordHere_29 : decode cX11_wordHere 29 = .ok (.getfield 105, 3) := by decide +kernel
theorem dX11_wordHere_32 : decode cX11_wordHere 32 = .ok (.iload_n 3, 1) := by decide +kernel
theorem dX11_wordHere_33 : decode cX11_wordHere 33 = .ok (.iadd, 1) := by decide +kernel
theorem dX11_wordHere_34 : decode cX11_wordHere 34 = .ok (.aload_n 0, 1) := by decide +kernel
theorem dX11_wordHere_35 : decode cX11_wordHere 35 = .ok (.getfield 95, 3) := by decide +kernel
theorem dX11_wordHere_38 : decode cX11_wordHere 38 = .ok (.if_icmp .ge 31, 3) := by decide +kernel
theorem dX11_wordHere_41 : decode cX11_wordHere 41 = .ok (.aload_n 0, 1) := by decide +kernel
theorem dX11_wordHere_42 : decode cX11_wordHere 42 = .ok (.getfield 7, 3) := by decide +kernel
theorem dX11_wordHere_45 : decode cX11_wordHere 45 = .ok (.aload_n 0, 1) := by decide +kernel
theorem dX11_wordHere_46 : decode cX11_wordHere 46 = .ok (.getfield 105, 3) := by decide +kernel
theorem dX11_wordHere_49 : decode cX11_wordHere 49 = .ok (.iload_n 3, 1) := by decide +kernel
theorem dX11_wordHere_50 : decode cX11_wordHere 50 = .ok (.iadd, 1) := by decide +kernel
theorem dX11_wordHere_51 : decode cX11_wordHere 51 = .ok (.iaload, 1) := by decide +kernel
theorem dX11_wordHere_52 : decode cX11_wordHere 52 = .ok (.ldc 131, 2) := by decide +kernel
theorem dX11_wordHere_54 : decode cX11_wordHere 54 = .ok (.iload_n 2, 1) := by decide +kernel
theorem dX11_wordHere_55 : decode cX11_wordHere 55 = .ok (.iload_n 3, 1) := by decide +kernel
theorem dX11_wordHere_56 : decode cX11_wordHere 56 = .ok (.iadd, 1) := by decide +kernel
theorem dX11_wordHere_57 : decode cX11_wordHere 57 = .ok (.invokevirtual 138, 3) := by decide +kernel
theorem dX11_wordHere_60 : decode cX11_wordHere 60 = .ok (.if_icmp .ne 9, 3) := by decide +kernel
theorem dX11_wordHere_63 : decode cX11_wordHere 63 = .ok (.iinc 3 1, 3) := by decide +kernel
theorem dX11_wordHere_66 : decode cX11_wordHere 66 = .ok (.goto (-51), 3) := by decide +kernel
theorem dX11_wordHere_69 : decode cX11_wordHere 69 = .ok (.ldc 131, 2) := by decide +kernel
theorem dX11_wordHere_71 : decode cX11_wordHere 71 = .ok (.iload_n 2, 1) := by decide +kernel
theorem dX11_wordHere_72 : decode cX11_wordHere 72 = .ok (.iload_n 3, 1) := by decide +kernel
theorem dX11_wordHere_73 : decode cX11_wordHere 73 = .ok (.iadd, 1) := by decide +kernel
theorem dX11_wordHere_74 : decode cX11_wordHere 74 = .ok (.invokevirtual 138, 3) := by decide +kernel
theorem dX11_wordHere_77 : decode cX11_wordHere 77 = .ok (.bipush 32, 2) := by decide +kernel
theorem dX11_wordHere_79 : decode cX11_wordHere 79 = .ok (.if_icmp .ne 18, 3) := by decide +kernel
theorem dX11_wordHere_82 : decode cX11_wordHere 82 = .ok (.aload_n 0, 1) := by decide +kernel
theorem dX11_wordHere_83 : decode cX11_wordHere 83 = .ok (.getfield 105, 3) := by decide +kernel
theorem dX11_wordHere_86 : decode cX11_wordHere 86 = .ok (.iload_n 3, 1) := by decide +kernel
theorem dX11_wordHere_87 : decode cX11_wordHere 87 = .ok (.iadd, 1) := by decide +kernel
theorem dX11_wordHere_88 : decode cX11_wordHere 88 = .ok (.aload_n 0, 1) := by decide +kernel
theorem dX11_wordHere_89 : decode cX11_wordHere 89 = .ok (.getfield 95, 3) := by decide +kernel
theorem dX11_wordHere_92 : decode cX11_wordHere 92 = .ok (.if_icmp .ne 5, 3) := by decide +kernel
theorem dX11_wordHere_95 : decode cX11_wordHere 95 = .ok (.iload_n 1, 1) := by decide +kernel
theorem dX11_wordHere_96 : decode cX11_wordHere 96 = .ok (.ireturn, 1) := by decide +kernel
theorem dX11_wordHere_97 : decode cX11_wordHere 97 = .ok (.ldc 131, 2) := by decide +kernel
theorem dX11_wordHere_99 : decode cX11_wordHere 99 = .ok (.iload_n 2, 1) := by decide +kernel
theorem dX11_wordHere_100 : decode cX11_wordHere 100 = .ok (.invokevirtual 138, 3) := by decide +kernel
theorem dX11_wordHere_103 : decode cX11_wordHere 103 = .ok (.bipush 32, 2) := by decide +kernel
theorem dX11_wordHere_105 : decode cX11_wordHere 105 = .ok (.if_icmp .eq 9, 3) := by decide +kernel
theorem dX11_wordHere_108 : decode cX11_wordHere 108 = .ok (.iinc 2 1, 3) := by decide +kernel
theorem dX11_wordHere_111 : decode cX11_wordHere 111 = .ok (.goto (-14), 3) := by decide +kernel
theorem dX11_wordHere_114 : decode cX11_wordHere 114 = .ok (.iinc 2 1, 3) := by decide +kernel
theorem dX11_wordHere_117 : decode cX11_wordHere 117 = .ok (.iinc 1 1, 3) := by decide +kernel
theorem dX11_wordHere_120 : decode cX11_wordHere 120 = .ok (.goto (-116), 3) := by decide +kernel
theorem dX11_wordHere_123 : decode cX11_wordHere 123 = .ok (.iconst (-1), 1) := by decide +kernel
theorem dX11_wordHere_124 : decode cX11_wordHere 124 = .ok (.ireturn, 1) := by decide +kernel
/-- QuotientSumsModel.wordHere()I -/
def wX11_wordHere (thrown : Int32) (taped : Int32) (lines : Int32) (size : Int32) (atF : Int32) (place : Int32) (sort : Int32) (value : Int32) (fault : Int32) (faultPlace : Int32) (lastFault : Int32) (lastPlace : Int32) (undoable : Int32) (hasImage : Int32) (rowOf : Int32) (areSums : Int32) (isSieved : Int32) (blocks : Int32) (drawn : Int32) (tape : Nat → Int32)  (Q : (Int32) → Prop) : Prop :=
  (∃ (Inv_1 : (Int32) → (Int32) → Prop) (Mea_1 : (Int32) → (Int32) → Nat), Inv_1 0 0 ∧ ∀ (x1_1 : Int32) (x2_1 : Int32), Inv_1 x1_1 x2_1 → ((49 ≤ x2_1 → (Q (-1))) ∧ (¬ 49 ≤ x2_1 → (∃ (Inv_2 : (Int32) → Prop) (Mea_2 : (Int32) → Nat), Inv_2 0 ∧ ∀ (x3_1 : Int32), Inv_2 x3_1 → (vp_in (x2_1 + x3_1) 49 ∧ (∃ (J_1 : Prop), (((gCh 5 (x2_1 + x3_1).toNatClampNeg) = 32 → (J_1)) ∧ (¬ (gCh 5 (x2_1 + x3_1).toNatClampNeg) = 32 → ((atF ≤ (place + x3_1) → (J_1)) ∧ (¬ atF ≤ (place + x3_1) → (vp_in (place + x3_1) 700 ∧ ((¬ (tape (place + x3_1).toNatClampNeg) = (gCh 5 (x2_1 + x3_1).toNatClampNeg) → (J_1)) ∧ ((tape (place + x3_1).toNatClampNeg) = (gCh 5 (x2_1 + x3_1).toNatClampNeg) → (Inv_2 (x3_1 + 1) ∧ Mea_2 (x3_1 + 1) < Mea_2 x3_1)))))))) ∧ (J_1 → (vp_in (x2_1 + x3_1) 49 ∧ ((¬ (gCh 5 (x2_1 + x3_1).toNatClampNeg) = 32 → (∃ (Inv_3 : (Int32) → Prop) (Mea_3 : (Int32) → Nat), Inv_3 x2_1 ∧ ∀ (x2_2 : Int32), Inv_3 x2_2 → (vp_in x2_2 49 ∧ (((gCh 5 x2_2.toNatClampNeg) = 32 → (Inv_1 (x1_1 + 1) (x2_2 + 1) ∧ Mea_1 (x1_1 + 1) (x2_2 + 1) < Mea_1 x1_1 x2_1)) ∧ (¬ (gCh 5 x2_2.toNatClampNeg) = 32 → (Inv_3 (x2_2 + 1) ∧ Mea_3 (x2_2 + 1) < Mea_3 x2_2)))))) ∧ ((gCh 5 (x2_1 + x3_1).toNatClampNeg) = 32 → ((¬ (place + x3_1) = atF → (∃ (Inv_4 : (Int32) → Prop) (Mea_4 : (Int32) → Nat), Inv_4 x2_1 ∧ ∀ (x2_3 : Int32), Inv_4 x2_3 → (vp_in x2_3 49 ∧ (((gCh 5 x2_3.toNatClampNeg) = 32 → (Inv_1 (x1_1 + 1) (x2_3 + 1) ∧ Mea_1 (x1_1 + 1) (x2_3 + 1) < Mea_1 x1_1 x2_1)) ∧ (¬ (gCh 5 x2_3.toNatClampNeg) = 32 → (Inv_4 (x2_3 + 1) ∧ Mea_4 (x2_3 + 1) < Mea_4 x2_3)))))) ∧ ((place + x3_1) = atF → (Q x1_1)))))))))))))
set_option maxHeartbeats 4000000 in
set_option maxRecDepth 100000 in
theorem mX11_wordHere (l : Launch) (D : va_G) (Y : Nat → ClassId) (h0 : Nat) (thrown : Int32) (q_tape : Nat) (taped : Int32) (v_number : Value) (v_isTold : Value) (v_name : Value) (v_sortOf : Value) (v_first : Value) (v_second : Value) (v_degree : Value) (v_colours : Value) (v_signBy : Value) (v_own : Value) (lines : Int32) (size : Int32) (atF : Int32) (place : Int32) (sort : Int32) (value : Int32) (fault : Int32) (faultPlace : Int32) (lastFault : Int32) (lastPlace : Int32) (v_sF : Value) (v_kept : Value) (undoable : Int32) (hasImage : Int32) (v_power : Value) (v_table : Value) (v_marks : Value) (v_row : Value) (rowOf : Int32) (areSums : Int32) (isSieved : Int32) (v_lastOf : Value) (blocks : Int32) (v_inBlock : Value) (v_atQuotient : Value) (v_small : Value) (drawn : Int32) (tape : Nat → Int32)  (Q : (Int32) → Prop) (h : wX11_wordHere thrown taped lines size atF place sort value fault faultPlace lastFault lastPlace undoable hasImage rowOf areSums isSieved blocks drawn tape Q) : gM l D Y yX11_wordHere cX11_wordHere 4 (some .int) 4 85 0 0 [.ref h0] [oX11 h0 thrown (.ref q_tape) taped (v_number) (v_isTold) (v_name) (v_sortOf) (v_first) (v_second) (v_degree) (v_colours) (v_signBy) (v_own) lines size atF place sort value fault faultPlace lastFault lastPlace (v_sF) (v_kept) undoable hasImage (v_power) (v_table) (v_marks) (v_row) rowOf areSums isSieved (v_lastOf) blocks (v_inBlock) (v_atQuotient) (v_small) drawn, aI Y q_tape 700 tape] (fun v w => ∃ r : Int32, v = some (.int r) ∧ w = [oX11 h0 thrown (.ref q_tape) taped (v_number) (v_isTold) (v_name) (v_sortOf) (v_first) (v_second) (v_degree) (v_colours) (v_signBy) (v_own) lines size atF place sort value fault faultPlace lastFault lastPlace (v_sF) (v_kept) undoable hasImage (v_power) (v_table) (v_marks) (v_row) rowOf areSums isSieved (v_lastOf) blocks (v_inBlock) (v_atQuotient) (v_small) drawn, aI Y q_tape 700 tape] ∧ Q r) := by
  refine gM_of (own := RX11) (by decide +kernel) rfl (Nat.le_of_ble_eq_true rfl) rfl (fun E C hR => ?_)
  unfold wX11_wordHere at h
  refine g_iconst (v := 0) C dX11_wordHere_0 rfl ?_
  refine g_istore_n (lv' := [(1, .int 0), (0, .ref h0)]) C dX11_wordHere_1 (by decide) rfl ?_
  refine g_iconst (v := 0) C dX11_wordHere_2 rfl ?_
  refine g_istore_n (lv' := [(2, .int 0), (1, .int 0), (0, .ref h0)]) C dX11_wordHere_3 (by decide) rfl ?_
  obtain ⟨Inv_1, Mea_1, hI1, hB1⟩ := h
  have key_1 : ∀ (n : Nat) (x1_1 : Int32) (x2_1 : Int32) , Mea_1 x1_1 x2_1 < n → Inv_1 x1_1 x2_1 → gG E 0 0 [oX11 h0 thrown (.ref q_tape) taped (v_number) (v_isTold) (v_name) (v_sortOf) (v_first) (v_second) (v_degree) (v_colours) (v_signBy) (v_own) lines size atF place sort value fault faultPlace lastFault lastPlace (v_sF) (v_kept) undoable hasImage (v_power) (v_table) (v_marks) (v_row) rowOf areSums isSieved (v_lastOf) blocks (v_inBlock) (v_atQuotient) (v_small) drawn, aI Y q_tape 700 tape] [(0, .ref h0), (1, .int x1_1), (2, .int x2_1)] [] 4 := by
    intro n
    induction n with
    | zero => exact fun _ _ hm => absurd hm (Nat.not_lt_zero _)
    | succ n ih1 =>
      intro x1_1 x2_1  hm1 hI
      have h := hB1 x1_1 x2_1 hI
      refine g_iload_n C dX11_wordHere_4 2 rfl ?_
      refine g_ldcStr C (fun U hz => hz.2.2.2.2.2) dX11_wordHere_5 ?_
      refine g_strLength C 5 (by decide) wM_X11_133 dX11_wordHere_7 ⟨Nat.le_of_ble_eq_true rfl, Nat.le_of_ble_eq_true rfl⟩ ⟨Nat.le_of_ble_eq_true rfl, Nat.le_of_ble_eq_true rfl⟩ (Nat.le_of_ble_eq_true rfl) ?_
      refine g_icmp_ge (tgt := 123) C dX11_wordHere_10 (by decide) (fun c_1 => ?_) (fun c_1 => ?_)
      · replace h := h.1 c_1
        refine g_iconst (v := (-1)) C dX11_wordHere_123 rfl ?_
        exact g_iret C hR (Nat.le_of_ble_eq_true rfl) (Nat.le_of_ble_eq_true rfl) dX11_wordHere_124 ⟨(-1), rfl, rfl, h⟩
      · replace h := h.2 c_1
        refine g_iconst (v := 0) C dX11_wordHere_13 rfl ?_
        refine g_istore_n (lv' := [(3, .int 0), (0, .ref h0), (1, .int x1_1), (2, .int x2_1)]) C dX11_wordHere_14 (by decide) rfl ?_
        obtain ⟨Inv_2, Mea_2, hI2, hB2⟩ := h
        have key_2 : ∀ (n : Nat) (x3_1 : Int32) , Mea_2 x3_1 < n → Inv_2 x3_1 → gG E 0 0 [oX11 h0 thrown (.ref q_tape) taped (v_number) (v_isTold) (v_name) (v_sortOf) (v_first) (v_second) (v_degree) (v_colours) (v_signBy) (v_own) lines size atF place sort value fault faultPlace lastFault lastPlace (v_sF) (v_kept) undoable hasImage (v_power) (v_table) (v_marks) (v_row) rowOf areSums isSieved (v_lastOf) blocks (v_inBlock) (v_atQuotient) (v_small) drawn, aI Y q_tape 700 tape] [(0, .ref h0), (1, .int x1_1), (2, .int x2_1), (3, .int x3_1)] [] 15 := by
          intro n
          induction n with
          | zero => exact fun _ hm => absurd hm (Nat.not_lt_zero _)
          | succ n ih2 =>
            intro x3_1  hm2 hI
            have h := hB2 x3_1 hI
            refine g_ldcStr C (fun U hz => hz.2.2.2.2.2) dX11_wordHere_15 ?_
            refine g_iload_n C dX11_wordHere_17 2 rfl ?_
            refine g_iload_n C dX11_wordHere_18 3 rfl ?_
            refine g_iadd C dX11_wordHere_19 ?_
            obtain ⟨hc_1, h⟩ := h
            refine g_charAt C 5 (by decide) wM_X11_138 dX11_wordHere_20 hc_1 ⟨Nat.le_of_ble_eq_true rfl, Nat.le_of_ble_eq_true rfl⟩ ⟨Nat.le_of_ble_eq_true rfl, Nat.le_of_ble_eq_true rfl⟩ (Nat.le_of_ble_eq_true rfl) ?_
            refine g_bipush (v := 32) C dX11_wordHere_23 rfl ?_
            obtain ⟨J_1, hA, hB_J_1⟩ := h
            have key_3 : J_1 → gG E 0 0 [oX11 h0 thrown (.ref q_tape) taped (v_number) (v_isTold) (v_name) (v_sortOf) (v_first) (v_second) (v_degree) (v_colours) (v_signBy) (v_own) lines size atF place sort value fault faultPlace lastFault lastPlace (v_sF) (v_kept) undoable hasImage (v_power) (v_table) (v_marks) (v_row) rowOf areSums isSieved (v_lastOf) blocks (v_inBlock) (v_atQuotient) (v_small) drawn, aI Y q_tape 700 tape] [(0, .ref h0), (1, .int x1_1), (2, .int x2_1), (3, .int x3_1)] [] 69 := by
              intro  hJ
              have h := hB_J_1  hJ
              refine g_ldcStr C (fun U hz => hz.2.2.2.2.2) dX11_wordHere_69 ?_
              refine g_iload_n C dX11_wordHere_71 2 rfl ?_
              refine g_iload_n C dX11_wordHere_72 3 rfl ?_
              refine g_iadd C dX11_wordHere_73 ?_
              obtain ⟨hc_2, h⟩ := h
              refine g_charAt C 5 (by decide) wM_X11_138 dX11_wordHere_74 hc_2 ⟨Nat.le_of_ble_eq_true rfl, Nat.le_of_ble_eq_true rfl⟩ ⟨Nat.le_of_ble_eq_true rfl, Nat.le_of_ble_eq_true rfl⟩ (Nat.le_of_ble_eq_true rfl) ?_
              refine g_bipush (v := 32) C dX11_wordHere_77 rfl ?_
              refine g_icmp_ne (tgt := 97) C dX11_wordHere_79 (by decide) (fun c_2 => ?_) (fun c_2 => ?_)
              · replace h := h.1 c_2
                obtain ⟨Inv_3, Mea_3, hI4, hB4⟩ := h
                have key_4 : ∀ (n : Nat) (x2_2 : Int32) , Mea_3 x2_2 < n → Inv_3 x2_2 → gG E 0 0 [oX11 h0 thrown (.ref q_tape) taped (v_number) (v_isTold) (v_name) (v_sortOf) (v_first) (v_second) (v_degree) (v_colours) (v_signBy) (v_own) lines size atF place sort value fault faultPlace lastFault lastPlace (v_sF) (v_kept) undoable hasImage (v_power) (v_table) (v_marks) (v_row) rowOf areSums isSieved (v_lastOf) blocks (v_inBlock) (v_atQuotient) (v_small) drawn, aI Y q_tape 700 tape] [(0, .ref h0), (1, .int x1_1), (2, .int x2_2)] [] 97 := by
                  intro n
                  induction n with
                  | zero => exact fun _ hm => absurd hm (Nat.not_lt_zero _)
                  | succ n ih4 =>
                    intro x2_2  hm4 hI
                    have h := hB4 x2_2 hI
                    refine g_ldcStr C (fun U hz => hz.2.2.2.2.2) dX11_wordHere_97 ?_
                    refine g_iload_n C dX11_wordHere_99 2 rfl ?_
                    obtain ⟨hc_3, h⟩ := h
                    refine g_charAt C 5 (by decide) wM_X11_138 dX11_wordHere_100 hc_3 ⟨Nat.le_of_ble_eq_true rfl, Nat.le_of_ble_eq_true rfl⟩ ⟨Nat.le_of_ble_eq_true rfl, Nat.le_of_ble_eq_true rfl⟩ (Nat.le_of_ble_eq_true rfl) ?_
                    refine g_bipush (v := 32) C dX11_wordHere_103 rfl ?_
                    refine g_icmp_eq (tgt := 114) C dX11_wordHere_105 (by decide) (fun c_3 => ?_) (fun c_3 => ?_)
                    · replace h := h.1 c_3
                      refine g_iinc (v := x2_2 + 1) (lv' := [(2, .int (x2_2 + 1)), (0, .ref h0), (1, .int x1_1)]) C dX11_wordHere_114 2 rfl rfl (by decide) rfl ?_
                      refine g_iinc (v := x1_1 + 1) (lv' := [(1, .int (x1_1 + 1)), (2, .int (x2_2 + 1)), (0, .ref h0)]) C dX11_wordHere_117 2 rfl rfl (by decide) rfl ?_
                      refine g_goto (tgt := 4) C dX11_wordHere_120 (by decide) ?_
                      refine gG.locals (lv' := [(0, .ref h0), (1, .int (x1_1 + 1)), (2, .int (x2_2 + 1))]) [2, 0, 1] rfl ?_
                      exact ih1 (x1_1 + 1) (x2_2 + 1) (Nat.lt_of_lt_of_le h.2 (Nat.le_of_lt_succ hm1)) h.1
                    · replace h := h.2 c_3
                      refine g_iinc (v := x2_2 + 1) (lv' := [(2, .int (x2_2 + 1)), (0, .ref h0), (1, .int x1_1)]) C dX11_wordHere_108 2 rfl rfl (by decide) rfl ?_
                      refine g_goto (tgt := 97) C dX11_wordHere_111 (by decide) ?_
                      refine gG.locals (lv' := [(0, .ref h0), (1, .int x1_1), (2, .int (x2_2 + 1))]) [1, 2, 0] rfl ?_
                      exact ih4 (x2_2 + 1) (Nat.lt_of_lt_of_le h.2 (Nat.le_of_lt_succ hm4)) h.1
                refine gG.locals (lv' := [(0, .ref h0), (1, .int x1_1), (2, .int x2_1)]) [0, 1, 2] rfl ?_
                exact key_4 (Mea_3 x2_1 + 1) x2_1 (Nat.lt_succ_self _) hI4
              · replace h := h.2 c_2
                refine g_aload_n C dX11_wordHere_82 0 rfl ?_
                refine g_get C inX11 0 rfl rfl 16 (by decide) wF_X11_105 rfl dX11_wordHere_83 ?_
                refine g_iload_n C dX11_wordHere_86 3 rfl ?_
                refine g_iadd C dX11_wordHere_87 ?_
                refine g_aload_n C dX11_wordHere_88 0 rfl ?_
                refine g_get C inX11 0 rfl rfl 15 (by decide) wF_X11_95 rfl dX11_wordHere_89 ?_
                refine g_icmp_ne (tgt := 97) C dX11_wordHere_92 (by decide) (fun c_4 => ?_) (fun c_4 => ?_)
                · replace h := h.1 c_4
                  obtain ⟨Inv_4, Mea_4, hI5, hB5⟩ := h
                  have key_5 : ∀ (n : Nat) (x2_3 : Int32) , Mea_4 x2_3 < n → Inv_4 x2_3 → gG E 0 0 [oX11 h0 thrown (.ref q_tape) taped (v_number) (v_isTold) (v_name) (v_sortOf) (v_first) (v_second) (v_degree) (v_colours) (v_signBy) (v_own) lines size atF place sort value fault faultPlace lastFault lastPlace (v_sF) (v_kept) undoable hasImage (v_power) (v_table) (v_marks) (v_row) rowOf areSums isSieved (v_lastOf) blocks (v_inBlock) (v_atQuotient) (v_small) drawn, aI Y q_tape 700 tape] [(0, .ref h0), (1, .int x1_1), (2, .int x2_3)] [] 97 := by
                    intro n
                    induction n with
                    | zero => exact fun _ hm => absurd hm (Nat.not_lt_zero _)
                    | succ n ih5 =>
                      intro x2_3  hm5 hI
                      have h := hB5 x2_3 hI
                      refine g_ldcStr C (fun U hz => hz.2.2.2.2.2) dX11_wordHere_97 ?_
                      refine g_iload_n C dX11_wordHere_99 2 rfl ?_
                      obtain ⟨hc_4, h⟩ := h
                      refine g_charAt C 5 (by decide) wM_X11_138 dX11_wordHere_100 hc_4 ⟨Nat.le_of_ble_eq_true rfl, Nat.le_of_ble_eq_true rfl⟩ ⟨Nat.le_of_ble_eq_true rfl, Nat.le_of_ble_eq_true rfl⟩ (Nat.le_of_ble_eq_true rfl) ?_
                      refine g_bipush (v := 32) C dX11_wordHere_103 rfl ?_
                      refine g_icmp_eq (tgt := 114) C dX11_wordHere_105 (by decide) (fun c_5 => ?_) (fun c_5 => ?_)
                      · replace h := h.1 c_5
                        refine g_iinc (v := x2_3 + 1) (lv' := [(2, .int (x2_3 + 1)), (0, .ref h0), (1, .int x1_1)]) C dX11_wordHere_114 2 rfl rfl (by decide) rfl ?_
                        refine g_iinc (v := x1_1 + 1) (lv' := [(1, .int (x1_1 + 1)), (2, .int (x2_3 + 1)), (0, .ref h0)]) C dX11_wordHere_117 2 rfl rfl (by decide) rfl ?_
                        refine g_goto (tgt := 4) C dX11_wordHere_120 (by decide) ?_
                        refine gG.locals (lv' := [(0, .ref h0), (1, .int (x1_1 + 1)), (2, .int (x2_3 + 1))]) [2, 0, 1] rfl ?_
                        exact ih1 (x1_1 + 1) (x2_3 + 1) (Nat.lt_of_lt_of_le h.2 (Nat.le_of_lt_succ hm1)) h.1
                      · replace h := h.2 c_5
                        refine g_iinc (v := x2_3 + 1) (lv' := [(2, .int (x2_3 + 1)), (0, .ref h0), (1, .int x1_1)]) C dX11_wordHere_108 2 rfl rfl (by decide) rfl ?_
                        refine g_goto (tgt := 97) C dX11_wordHere_111 (by decide) ?_
                        refine gG.locals (lv' := [(0, .ref h0), (1, .int x1_1), (2, .int (x2_3 + 1))]) [1, 2, 0] rfl ?_
                        exact ih5 (x2_3 + 1) (Nat.lt_of_lt_of_le h.2 (Nat.le_of_lt_succ hm5)) h.1
                  refine gG.locals (lv' := [(0, .ref h0), (1, .int x1_1), (2, .int x2_1)]) [0, 1, 2] rfl ?_
                  exact key_5 (Mea_4 x2_1 + 1) x2_1 (Nat.lt_succ_self _) hI5
                · replace h := h.2 c_4
                  refine g_iload_n C dX11_wordHere_95 1 rfl ?_
                  exact g_iret C hR (Nat.le_of_ble_eq_true rfl) (Nat.le_of_ble_eq_true rfl) dX11_wordHere_96 ⟨x1_1, rfl, rfl, h⟩
            replace h := hA
            refine g_icmp_eq (tgt := 69) C dX11_wordHere_25 (by decide) (fun c_6 => ?_) (fun c_6 => ?_)
            · replace h := h.1 c_6
              exact key_3 h
            · replace h := h.2 c_6
              refine g_aload_n C dX11_wordHere_28 0 rfl ?_
              refine g_get C inX11 0 rfl rfl 16 (by decide) wF_X11_105 rfl dX11_wordHere_29 ?_
              refine g_iload_n C dX11_wordHere_32 3 rfl ?_
              refine g_iadd C dX11_wordHere_33 ?_
              refine g_aload_n C dX11_wordHere_34 0 rfl ?_
              refine g_get C inX11 0 rfl rfl 15 (by decide) wF_X11_95 rfl dX11_wordHere_35 ?_
              refine g_icmp_ge (tgt := 69) C dX11_wordHere_38 (by decide) (fun c_7 => ?_) (fun c_7 => ?_)
              · replace h := h.1 c_7
                exact key_3 h
              · replace h := h.2 c_7
                refine g_aload_n C dX11_wordHere_41 0 rfl ?_
                refine g_get C inX11 0 rfl rfl 1 (by decide) wF_X11_7 rfl dX11_wordHere_42 ?_
                refine g_aload_n C dX11_wordHere_45 0 rfl ?_
                refine g_get C inX11 0 rfl rfl 16 (by decide) wF_X11_105 rfl dX11_wordHere_46 ?_
                refine g_iload_n C dX11_wordHere_49 3 rfl ?_
                refine g_iadd C dX11_wordHere_50 ?_
                obtain ⟨hc_5, h⟩ := h
                refine g_iald C 1 rfl hc_5 dX11_wordHere_51 ?_
                refine g_ldcStr C (fun U hz => hz.2.2.2.2.2) dX11_wordHere_52 ?_
                refine g_iload_n C dX11_wordHere_54 2 rfl ?_
                refine g_iload_n C dX11_wordHere_55 3 rfl ?_
                refine g_iadd C dX11_wordHere_56 ?_
                refine g_charAt C 5 (by decide) wM_X11_138 dX11_wordHere_57 hc_1 ⟨Nat.le_of_ble_eq_true rfl, Nat.le_of_ble_eq_true rfl⟩ ⟨Nat.le_of_ble_eq_true rfl, Nat.le_of_ble_eq_true rfl⟩ (Nat.le_of_ble_eq_true rfl) ?_
                refine g_icmp_ne (tgt := 69) C dX11_wordHere_60 (by decide) (fun c_8 => ?_) (fun c_8 => ?_)
                · replace h := h.1 c_8
                  exact key_3 h
                · replace h := h.2 c_8
                  refine g_iinc (v := x3_1 + 1) (lv' := [(3, .int (x3_1 + 1)), (0, .ref h0), (1, .int x1_1), (2, .int x2_1)]) C dX11_wordHere_63 3 rfl rfl (by decide) rfl ?_
                  refine g_goto (tgt := 15) C dX11_wordHere_66 (by decide) ?_
                  refine gG.locals (lv' := [(0, .ref h0), (1, .int x1_1), (2, .int x2_1), (3, .int (x3_1 + 1))]) [1, 2, 3, 0] rfl ?_
                  exact ih2 (x3_1 + 1) (Nat.lt_of_lt_of_le h.2 (Nat.le_of_lt_succ hm2)) h.1
        refine gG.locals (lv' := [(0, .ref h0), (1, .int x1_1), (2, .int x2_1), (3, .int 0)]) [1, 2, 3, 0] rfl ?_
        exact key_2 (Mea_2 0 + 1) 0 (Nat.lt_succ_self _) hI2
  refine gG.locals (lv' := [(0, .ref h0), (1, .int 0), (2, .int 0)]) [2, 1, 0] rfl ?_
  exact key_1 (Mea_1 0 0 + 1) 0 0 (Nat.lt_succ_self _) hI1
theorem dX11_nameHere_0 : decode cX11_nameHere 0 = .ok (.aload_n 0, 1) := by decide +kernel
theorem dX11_nameHere_1 : decode cX11_nameHere 1 = .ok (.iconst 0, 1) := by decide +kernel
theorem dX11_nameHere_2 : decode cX11_nameHere 2 = .ok (.putfield 118, 3) := by decide +kernel
theorem dX11_nameHere_5 : decode cX11_nameHere 5 = .ok (.iconst 0, 1) := by decide +kernel
theorem dX11_nameHere_6 : decode cX11_nameHere 6 = .ok (.istore_n 1, 1) := by decide +kernel
theorem dX11_nameHere_7 : decode cX11_nameHere 7 = .ok (.iload_n 1, 1) := by decide +kernel
theorem dX11_nameHere_8 : decode cX11_nameHere 8 = .ok (.bipush 6, 2) := by decide +kernel
theorem dX11_nameHere_10 : decode cX11_nameHere 10 = .ok (.if_icmp .ge 53, 3) := by decide +kernel
theorem dX11_nameHere_13 : decode cX11_nameHere 13 = .ok (.aload_n 0, 1) := by decide +kernel
theorem dX11_nameHere_14 : decode cX11_nameHere 14 = .ok (.aload_n 0, 1) := by decide +kernel
theorem dX11_nameHere_15 : decode cX11_nameHere 15 = .ok (.getfield 118, 3) := by decide +kernel
theorem dX11_nameHere_18 : decode cX11_nameHere 18 = .ok (.iconst 5, 1) := by decide +kernel
theorem dX11_nameHere_19 : decode cX11_nameHere 19 = .ok (.ishl, 1) := by decide +kernel
theorem dX11_nameHere_20 : decode cX11_nameHere 20 = .ok (.aload_n 0, 1) := by decide +kernel
theorem dX11_nameHere_21 : decode cX11_nameHere 21 = .ok (.getfield 105, 3) := by decide +kernel
theorem dX11_nameHere_24 : decode cX11_nameHere 24 = .ok (.iload_n 1, 1) := by decide +kernel
theorem dX11_nameHere_25 : decode cX11_nameHere 25 = .ok (.iadd, 1) := by decide +kernel
theorem dX11_nameHere_26 : decode cX11_nameHere 26 = .ok (.aload_n 0, 1) := by decide +kernel
theorem dX11_nameHere_27 : decode cX11_nameHere 27 = .ok (.getfield 95, 3) := by decide +kernel
theorem dX11_nameHere_30 : decode cX11_nameHere 30 = .ok (.if_icmp .ge 22, 3) := by decide +kernel
theorem dX11_nameHere_33 : decode cX11_nameHere 33 = .ok (.aload_n 0, 1) := by decide +kernel
theorem dX11_nameHere_34 : decode cX11_nameHere 34 = .ok (.getfield 7, 3) := by decide +kernel
theorem dX11_nameHere_37 : decode cX11_nameHere 37 = .ok (.aload_n 0, 1) := by decide +kernel
theorem dX11_nameHere_38 : decode cX11_nameHere 38 = .ok (.getfield 105, 3) := by decide +kernel
theorem dX11_nameHere_41 : decode cX11_nameHere 41 = .ok (.iload_n 1, 1) := by decide +kernel
theorem dX11_nameHere_42 : decode cX11_nameHere 42 = .ok (.iadd, 1) := by decide +kernel
theorem dX11_nameHere_43 : decode cX11_nameHere 43 = .ok (.iaload, 1) := by decide +kernel
theorem dX11_nameHere_44 : decode cX11_nameHere 44 = .ok (.bipush 97, 2) := by decide +kernel
theorem dX11_nameHere_46 : decode cX11_nameHere 46 = .ok (.isub, 1) := by decide +kernel
theorem dX11_nameHere_47 : decode cX11_nameHere 47 = .ok (.iconst 1, 1) := by decide +kernel
theorem dX11_nameHere_48 : decode cX11_nameHere 48 = .ok (.iadd, 1) := by decide +kernel
theorem dX11_nameHere_49 : decode cX11_nameHere 49 = .ok (.goto 4, 3) := by decide +kernel
theorem dX11_nameHere_52 : decode cX11_nameHere 52 = .ok (.iconst 0, 1) := by decide +kernel
theorem dX11_nameHere_53 : decode cX11_nameHere 53 = .ok (.ior, 1) := by decide +kernel
theorem dX11_nameHere_54 : decode cX11_nameHere 54 = .ok (.putfield 118, 3) := by decide +kernel
theorem dX11_nameHere_57 : decode cX11_nameHere 57 = .ok (.iinc 1 1, 3) := by decide +kernel
theorem dX11_nameHere_60 : decode cX11_nameHere 60 = .ok (.goto (-53), 3) := by decide +kernel
theorem dX11_nameHere_63 : decode cX11_nameHere 63 = .ok (.return_, 1) := by decide +kernel
/-- QuotientSumsModel.nameHere()V -/
def wX11_nameHere (thrown : Int32) (taped : Int32) (lines : Int32) (size : Int32) (atF : Int32) (place : Int32) (sort : Int32) (value : Int32) (fault : Int32) (faultPlace : Int32) (lastFault : Int32) (lastPlace : Int32) (undoable : Int32) (hasImage : Int32) (rowOf : Int32) (areSums : Int32) (isSieved : Int32) (blocks : Int32) (drawn : Int32) (tape : Nat → Int32)  (Q : (Int32) → Prop) : Prop :=
  (∃ (Inv_1 : (Int32) → (Int32) → Prop) (Mea_1 : (Int32) → (Int32) → Nat), Inv_1 0 0 ∧ ∀ (value_1 : Int32) (x1_1 : Int32), Inv_1 value_1 x1_1 → ((6 ≤ x1_1 → (Q value_1)) ∧ (¬ 6 ≤ x1_1 → ((atF ≤ (place + x1_1) → (∀ value_2 : Int32, value_2 = (value_1 <<< (5 &&& 31)) ||| 0 → (Inv_1 value_2 (x1_1 + 1) ∧ Mea_1 value_2 (x1_1 + 1) < Mea_1 value_1 x1_1))) ∧ (¬ atF ≤ (place + x1_1) → (vp_in (place + x1_1) 700 ∧ ∀ t_1 : Int32, t_1 = (value_1 <<< (5 &&& 31)) ||| (((tape (place + x1_1).toNatClampNeg) - 97) + 1) → (Inv_1 t_1 (x1_1 + 1) ∧ Mea_1 t_1 (x1_1 + 1) < Mea_1 value_1 x1_1)))))))
set_option maxHeartbeats 4000000 in
set_option maxRecDepth 100000 in
theorem mX11_nameHere (l : Launch) (D : va_G) (Y : Nat → ClassId) (h0 : Nat) (thrown : Int32) (q_tape : Nat) (taped : Int32) (v_number : Value) (v_isTold : Value) (v_name : Value) (v_sortOf : Value) (v_first : Value) (v_second : Value) (v_degree : Value) (v_colours : Value) (v_signBy : Value) (v_own : Value) (lines : Int32) (size : Int32) (atF : Int32) (place : Int32) (sort : Int32) (value : Int32) (fault : Int32) (faultPlace : Int32) (lastFault : Int32) (lastPlace : Int32) (v_sF : Value) (v_kept : Value) (undoable : Int32) (hasImage : Int32) (v_power : Value) (v_table : Value) (v_marks : Value) (v_row : Value) (rowOf : Int32) (areSums : Int32) (isSieved : Int32) (v_lastOf : Value) (blocks : Int32) (v_inBlock : Value) (v_atQuotient : Value) (v_small : Value) (drawn : Int32) (tape : Nat → Int32)  (Q : (Int32) → Prop) (h : wX11_nameHere thrown taped lines size atF place sort value fault faultPlace lastFault lastPlace undoable hasImage rowOf areSums isSieved blocks drawn tape Q) : gM l D Y yX11_nameHere cX11_nameHere 2 none 0 0 0 0 [.ref h0] [oX11 h0 thrown (.ref q_tape) taped (v_number) (v_isTold) (v_name) (v_sortOf) (v_first) (v_second) (v_degree) (v_colours) (v_signBy) (v_own) lines size atF place sort value fault faultPlace lastFault lastPlace (v_sF) (v_kept) undoable hasImage (v_power) (v_table) (v_marks) (v_row) rowOf areSums isSieved (v_lastOf) blocks (v_inBlock) (v_atQuotient) (v_small) drawn, aI Y q_tape 700 tape] (fun v w => ∃ value' : Int32, v = none ∧ w = [oX11 h0 thrown (.ref q_tape) taped (v_number) (v_isTold) (v_name) (v_sortOf) (v_first) (v_second) (v_degree) (v_colours) (v_signBy) (v_own) lines size atF place sort value' fault faultPlace lastFault lastPlace (v_sF) (v_kept) undoable hasImage (v_power) (v_table) (v_marks) (v_row) rowOf areSums isSieved (v_lastOf) blocks (v_inBlock) (v_atQuotient) (v_small) drawn, aI Y q_tape 700 tape] ∧ Q value') := by
  refine gM_of (own := RX11) (by decide +kernel) rfl (Nat.le_of_ble_eq_true rfl) rfl (fun E C hR => ?_)
  unfold wX11_nameHere at h
  refine g_aload_n C dX11_nameHere_0 0 rfl ?_
  refine g_iconst (v := 0) C dX11_nameHere_1 rfl ?_
  refine g_put C inX11 tyX11 tyX11_ok nmX11 0 rfl rfl 18 (by decide) wF_X11_118 rfl rfl rfl (Nat.le_of_ble_eq_true rfl) (ws' := [oX11 h0 thrown (.ref q_tape) taped (v_number) (v_isTold) (v_name) (v_sortOf) (v_first) (v_second) (v_degree) (v_colours) (v_signBy) (v_own) lines size atF place sort 0 fault faultPlace lastFault lastPlace (v_sF) (v_kept) undoable hasImage (v_power) (v_table) (v_marks) (v_row) rowOf areSums isSieved (v_lastOf) blocks (v_inBlock) (v_atQuotient) (v_small) drawn, aI Y q_tape 700 tape]) rfl dX11_nameHere_2 ?_
  refine g_iconst (v := 0) C dX11_nameHere_5 rfl ?_
  refine g_istore_n (lv' := [(1, .int 0), (0, .ref h0)]) C dX11_nameHere_6 (by decide) rfl ?_
  obtain ⟨Inv_1, Mea_1, hI1, hB1⟩ := h
  have key_1 : ∀ (n : Nat) (value_1 : Int32) (x1_1 : Int32) , Mea_1 value_1 x1_1 < n → Inv_1 value_1 x1_1 → gG E 0 0 [oX11 h0 thrown (.ref q_tape) taped (v_number) (v_isTold) (v_name) (v_sortOf) (v_first) (v_second) (v_degree) (v_colours) (v_signBy) (v_own) lines size atF place sort value_1 fault faultPlace lastFault lastPlace (v_sF) (v_kept) undoable hasImage (v_power) (v_table) (v_marks) (v_row) rowOf areSums isSieved (v_lastOf) blocks (v_inBlock) (v_atQuotient) (v_small) drawn, aI Y q_tape 700 tape] [(0, .ref h0), (1, .int x1_1)] [] 7 := by
    intro n
    induction n with
    | zero => exact fun _ _ hm => absurd hm (Nat.not_lt_zero _)
    | succ n ih1 =>
      intro value_1 x1_1  hm1 hI
      have h := hB1 value_1 x1_1 hI
      refine g_iload_n C dX11_nameHere_7 1 rfl ?_
      refine g_bipush (v := 6) C dX11_nameHere_8 rfl ?_
      refine g_icmp_ge (tgt := 63) C dX11_nameHere_10 (by decide) (fun c_1 => ?_) (fun c_1 => ?_)
      · replace h := h.1 c_1
        exact g_vret C hR (Nat.le_of_ble_eq_true rfl) (Nat.le_of_ble_eq_true rfl) dX11_nameHere_63 ⟨value_1, rfl, rfl, h⟩
      · replace h := h.2 c_1
        refine g_aload_n C dX11_nameHere_13 0 rfl ?_
        refine g_aload_n C dX11_nameHere_14 0 rfl ?_
        refine g_get C inX11 0 rfl rfl 18 (by decide) wF_X11_118 rfl dX11_nameHere_15 ?_
        refine g_iconst (v := 5) C dX11_nameHere_18 rfl ?_
        refine g_ishl C dX11_nameHere_19 ?_
        refine g_aload_n C dX11_nameHere_20 0 rfl ?_
        refine g_get C inX11 0 rfl rfl 16 (by decide) wF_X11_105 rfl dX11_nameHere_21 ?_
        refine g_iload_n C dX11_nameHere_24 1 rfl ?_
        refine g_iadd C dX11_nameHere_25 ?_
        refine g_aload_n C dX11_nameHere_26 0 rfl ?_
        refine g_get C inX11 0 rfl rfl 15 (by decide) wF_X11_95 rfl dX11_nameHere_27 ?_
        refine g_icmp_ge (tgt := 52) C dX11_nameHere_30 (by decide) (fun c_2 => ?_) (fun c_2 => ?_)
        · replace h := h.1 c_2
          refine g_iconst (v := 0) C dX11_nameHere_52 rfl ?_
          refine g_ior C dX11_nameHere_53 ?_
          refine g_topi (fun value_2 evalue_2 => ?_)
          replace h := h value_2 evalue_2
          refine g_put C inX11 tyX11 tyX11_ok nmX11 0 rfl rfl 18 (by decide) wF_X11_118 rfl rfl rfl (Nat.le_of_ble_eq_true rfl) (ws' := [oX11 h0 thrown (.ref q_tape) taped (v_number) (v_isTold) (v_name) (v_sortOf) (v_first) (v_second) (v_degree) (v_colours) (v_signBy) (v_own) lines size atF place sort value_2 fault faultPlace lastFault lastPlace (v_sF) (v_kept) undoable hasImage (v_power) (v_table) (v_marks) (v_row) rowOf areSums isSieved (v_lastOf) blocks (v_inBlock) (v_atQuotient) (v_small) drawn, aI Y q_tape 700 tape]) rfl dX11_nameHere_54 ?_
          refine g_iinc (v := x1_1 + 1) (lv' := [(1, .int (x1_1 + 1)), (0, .ref h0)]) C dX11_nameHere_57 1 rfl rfl (by decide) rfl ?_
          refine g_goto (tgt := 7) C dX11_nameHere_60 (by decide) ?_
          refine gG.locals (lv' := [(0, .ref h0), (1, .int (x1_1 + 1))]) [1, 0] rfl ?_
          exact ih1 value_2 (x1_1 + 1) (Nat.lt_of_lt_of_le h.2 (Nat.le_of_lt_succ hm1)) h.1
        · replace h := h.2 c_2
          refine g_aload_n C dX11_nameHere_33 0 rfl ?_
          refine g_get C inX11 0 rfl rfl 1 (by decide) wF_X11_7 rfl dX11_nameHere_34 ?_
          refine g_aload_n C dX11_nameHere_37 0 rfl ?_
          refine g_get C inX11 0 rfl rfl 16 (by decide) wF_X11_105 rfl dX11_nameHere_38 ?_
          refine g_iload_n C dX11_nameHere_41 1 rfl ?_
          refine g_iadd C dX11_nameHere_42 ?_
          obtain ⟨hc_1, h⟩ := h
          refine g_iald C 1 rfl hc_1 dX11_nameHere_43 ?_
          refine g_bipush (v := 97) C dX11_nameHere_44 rfl ?_
          refine g_isub C dX11_nameHere_46 ?_
          refine g_iconst (v := 1) C dX11_nameHere_47 rfl ?_
          refine g_iadd C dX11_nameHere_48 ?_
          refine g_goto (tgt := 53) C dX11_nameHere_49 (by decide) ?_
          refine g_ior C dX11_nameHere_53 ?_
          refine g_topi (fun t_1 et_1 => ?_)
          replace h := h t_1 et_1
          refine g_put C inX11 tyX11 tyX11_ok nmX11 0 rfl rfl 18 (by decide) wF_X11_118 rfl rfl rfl (Nat.le_of_ble_eq_true rfl) (ws' := [oX11 h0 thrown (.ref q_tape) taped (v_number) (v_isTold) (v_name) (v_sortOf) (v_first) (v_second) (v_degree) (v_colours) (v_signBy) (v_own) lines size atF place sort t_1 fault faultPlace lastFault lastPlace (v_sF) (v_kept) undoable hasImage (v_power) (v_table) (v_marks) (v_row) rowOf areSums isSieved (v_lastOf) blocks (v_inBlock) (v_atQuotient) (v_small) drawn, aI Y q_tape 700 tape]) rfl dX11_nameHere_54 ?_
          refine g_iinc (v := x1_1 + 1) (lv' := [(1, .int (x1_1 + 1)), (0, .ref h0)]) C dX11_nameHere_57 1 rfl rfl (by decide) rfl ?_
          refine g_goto (tgt := 7) C dX11_nameHere_60 (by decide) ?_
          refine gG.locals (lv' := [(0, .ref h0), (1, .int (x1_1 + 1))]) [1, 0] rfl ?_
          exact ih1 t_1 (x1_1 + 1) (Nat.lt_of_lt_of_le h.2 (Nat.le_of_lt_succ hm1)) h.1
  refine gG.locals (lv' := [(0, .ref h0), (1, .int 0)]) [1, 0] rfl ?_
  exact key_1 (Mea_1 0 0 + 1) 0 0 (Nat.lt_succ_self _) hI1
theorem dX11_digits_0 : decode cX11_digits 0 = .ok (.aload_n 0, 1) := by decide +kernel
theorem dX11_digits_1 : decode cX11_digits 1 = .ok (.iconst 0, 1) := by decide +kernel
theorem dX11_digits_2 : decode cX11_digits 2 = .ok (.putfield 118, 3) := by decide +kernel
theorem dX11_digits_5 : decode cX11_digits 5 = .ok (.aload_n 0, 1) := by decide +kernel
theorem dX11_digits_6 : decode cX11_digits 6 = .ok (.invokevirtual 101, 3) := by decide +kernel
theorem dX11_digits_9 : decode cX11_digits 9 = .ok (.invokestatic 124, 3) := by decide +kernel
theorem dX11_digits_12 : decode cX11_digits 12 = .ok (.ifCond .eq 51, 3) := by decide +kernel
theorem dX11_digits_15 : decode cX11_digits 15 = .ok (.aload_n 0, 1) := by decide +kernel
theorem dX11_digits_16 : decode cX11_digits 16 = .ok (.aload_n 0, 1) := by decide +kernel
theorem dX11_digits_17 : decode cX11_digits 17 = .ok (.getfield 118, 3) := by decide +kernel
theorem dX11_digits_20 : decode cX11_digits 20 = .ok (.ldc 130, 2) := by decide +kernel
theorem dX11_digits_22 : decode cX11_digits 22 = .ok (.if_icmp .le 10, 3) := by decide +kernel
theorem dX11_digits_25 : decode cX11_digits 25 = .ok (.aload_n 0, 1) := by decide +kernel
theorem dX11_digits_26 : decode cX11_digits 26 = .ok (.getfield 118, 3) := by decide +kernel
theorem dX11_digits_29 : decode cX11_digits 29 = .ok (.goto 18, 3) := by decide +kernel
theorem dX11_digits_32 : decode cX11_digits 32 = .ok (.bipush 10, 2) := by decide +kernel
theorem dX11_digits_34 : decode cX11_digits 34 = .ok (.aload_n 0, 1) := by decide +kernel
theorem dX11_digits_35 : decode cX11_digits 35 = .ok (.getfield 118, 3) := by decide +kernel
theorem dX11_digits_38 : decode cX11_digits 38 = .ok (.imul, 1) := by decide +kernel
theorem dX11_digits_39 : decode cX11_digits 39 = .ok (.aload_n 0, 1) := by decide +kernel
theorem dX11_digits_40 : decode cX11_digits 40 = .ok (.invokevirtual 101, 3) := by decide +kernel
theorem dX11_digits_43 : decode cX11_digits 43 = .ok (.iadd, 1) := by decide +kernel
theorem dX11_digits_44 : decode cX11_digits 44 = .ok (.bipush 48, 2) := by decide +kernel
theorem dX11_digits_46 : decode cX11_digits 46 = .ok (.isub, 1) := by decide +kernel
theorem dX11_digits_47 : decode cX11_digits 47 = .ok (.putfield 118, 3) := by decide +kernel
theorem dX11_digits_50 : decode cX11_digits 50 = .ok (.aload_n 0, 1) := by decide +kernel
theorem dX11_digits_51 : decode cX11_digits 51 = .ok (.dup, 1) := by decide +kernel
theorem dX11_digits_52 : decode cX11_digits 52 = .ok (.getfield 95, 3) := by decide +kernel
theorem dX11_digits_55 : decode cX11_digits 55 = .ok (.iconst 1, 1) := by decide +kernel
theorem dX11_digits_56 : decode cX11_digits 56 = .ok (.iadd, 1) := by decide +kernel
theorem dX11_digits_57 : decode cX11_digits 57 = .ok (.putfield 95, 3) := by decide +kernel
theorem dX11_digits_60 : decode cX11_digits 60 = .ok (.goto (-55), 3) := by decide +kernel
theorem dX11_digits_63 : decode cX11_digits 63 = .ok (.return_, 1) := by decide +kernel
/-- QuotientSumsModel.digits()V -/
def wX11_digits (thrown : Int32) (taped : Int32) (lines : Int32) (size : Int32) (atF : Int32) (place : Int32) (sort : Int32) (value : Int32) (fault : Int32) (faultPlace : Int32) (lastFault : Int32) (lastPlace : Int32) (undoable : Int32) (hasImage : Int32) (rowOf : Int32) (areSums : Int32) (isSieved : Int32) (blocks : Int32) (drawn : Int32) (tape : Nat → Int32)  (Q : (Int32) → (Int32) → Prop) : Prop :=
  (∃ (Inv_1 : (Int32) → (Int32) → Prop) (Mea_1 : (Int32) → (Int32) → Nat), Inv_1 atF 0 ∧ ∀ (atF_1 : Int32) (value_1 : Int32), Inv_1 atF_1 value_1 → (∃ (P_1 : (Int32) → Prop), wX11_here thrown taped lines size atF_1 place sort value_1 fault faultPlace lastFault lastPlace undoable hasImage rowOf areSums isSieved blocks drawn tape P_1 ∧ ∀ (rF_1 : Int32), P_1 rF_1 → ∃ (P_2 : (Int32) → Prop), wX11_isDigit rF_1 P_2 ∧ ∀ (rF_2 : Int32), P_2 rF_2 → ((rF_2 = 0 → (Q atF_1 value_1)) ∧ (¬ rF_2 = 0 → ((value_1 ≤ 9999999 → (∃ (P_3 : (Int32) → Prop), wX11_here thrown taped lines size atF_1 place sort value_1 fault faultPlace lastFault lastPlace undoable hasImage rowOf areSums isSieved blocks drawn tape P_3 ∧ ∀ (rF_3 : Int32), P_3 rF_3 → ∀ value_2 : Int32, value_2 = ((10 * value_1) + rF_3) - 48 → ∀ atF_2 : Int32, atF_2 = atF_1 + 1 → (Inv_1 atF_2 value_2 ∧ Mea_1 atF_2 value_2 < Mea_1 atF_1 value_1))) ∧ (¬ value_1 ≤ 9999999 → (∀ atF_3 : Int32, atF_3 = atF_1 + 1 → (Inv_1 atF_3 value_1 ∧ Mea_1 atF_3 value_1 < Mea_1 atF_1 value_1))))))))
set_option maxHeartbeats 4000000 in
set_option maxRecDepth 100000 in
theorem mX11_digits (l : Launch) (D : va_G) (Y : Nat → ClassId) (h0 : Nat) (thrown : Int32) (q_tape : Nat) (taped : Int32) (v_number : Value) (v_isTold : Value) (v_name : Value) (v_sortOf : Value) (v_first : Value) (v_second : Value) (v_degree : Value) (v_colours : Value) (v_signBy : Value) (v_own : Value) (lines : Int32) (size : Int32) (atF : Int32) (place : Int32) (sort : Int32) (value : Int32) (fault : Int32) (faultPlace : Int32) (lastFault : Int32) (lastPlace : Int32) (v_sF : Value) (v_kept : Value) (undoable : Int32) (hasImage : Int32) (v_power : Value) (v_table : Value) (v_marks : Value) (v_row : Value) (rowOf : Int32) (areSums : Int32) (isSieved : Int32) (v_lastOf : Value) (blocks : Int32) (v_inBlock : Value) (v_atQuotient : Value) (v_small : Value) (drawn : Int32) (tape : Nat → Int32)  (Q : (Int32) → (Int32) → Prop) (h : wX11_digits thrown taped lines size atF place sort value fault faultPlace lastFault lastPlace undoable hasImage rowOf areSums isSieved blocks drawn tape Q) : gM l D Y yX11_digits cX11_digits 1 none 1 20 0 0 [.ref h0] [oX11 h0 thrown (.ref q_tape) taped (v_number) (v_isTold) (v_name) (v_sortOf) (v_first) (v_second) (v_degree) (v_colours) (v_signBy) (v_own) lines size atF place sort value fault faultPlace lastFault lastPlace (v_sF) (v_kept) undoable hasImage (v_power) (v_table) (v_marks) (v_row) rowOf areSums isSieved (v_lastOf) blocks (v_inBlock) (v_atQuotient) (v_small) drawn, aI Y q_tape 700 tape] (fun v w => ∃ atF' : Int32, ∃ value' : Int32, v = none ∧ w = [oX11 h0 thrown (.ref q_tape) taped (v_number) (v_isTold) (v_name) (v_sortOf) (v_first) (v_second) (v_degree) (v_colours) (v_signBy) (v_own) lines size atF' place sort value' fault faultPlace lastFault lastPlace (v_sF) (v_kept) undoable hasImage (v_power) (v_table) (v_marks) (v_row) rowOf areSums isSieved (v_lastOf) blocks (v_inBlock) (v_atQuotient) (v_small) drawn, aI Y q_tape 700 tape] ∧ Q atF' value') := by
  refine gM_of (own := RX11) (by decide +kernel) rfl (Nat.le_of_ble_eq_true rfl) rfl (fun E C hR => ?_)
  unfold wX11_digits at h
  refine g_aload_n C dX11_digits_0 0 rfl ?_
  refine g_iconst (v := 0) C dX11_digits_1 rfl ?_
  refine g_put C inX11 tyX11 tyX11_ok nmX11 0 rfl rfl 18 (by decide) wF_X11_118 rfl rfl rfl (Nat.le_of_ble_eq_true rfl) (ws' := [oX11 h0 thrown (.ref q_tape) taped (v_number) (v_isTold) (v_name) (v_sortOf) (v_first) (v_second) (v_degree) (v_colours) (v_signBy) (v_own) lines size atF place sort 0 fault faultPlace lastFault lastPlace (v_sF) (v_kept) undoable hasImage (v_power) (v_table) (v_marks) (v_row) rowOf areSums isSieved (v_lastOf) blocks (v_inBlock) (v_atQuotient) (v_small) drawn, aI Y q_tape 700 tape]) rfl dX11_digits_2 ?_
  obtain ⟨Inv_1, Mea_1, hI1, hB1⟩ := h
  have key_1 : ∀ (n : Nat) (atF_1 : Int32) (value_1 : Int32) , Mea_1 atF_1 value_1 < n → Inv_1 atF_1 value_1 → gG E 0 0 [oX11 h0 thrown (.ref q_tape) taped (v_number) (v_isTold) (v_name) (v_sortOf) (v_first) (v_second) (v_degree) (v_colours) (v_signBy) (v_own) lines size atF_1 place sort value_1 fault faultPlace lastFault lastPlace (v_sF) (v_kept) undoable hasImage (v_power) (v_table) (v_marks) (v_row) rowOf areSums isSieved (v_lastOf) blocks (v_inBlock) (v_atQuotient) (v_small) drawn, aI Y q_tape 700 tape] [(0, .ref h0)] [] 5 := by
    intro n
    induction n with
    | zero => exact fun _ _ hm => absurd hm (Nat.not_lt_zero _)
    | succ n ih1 =>
      intro atF_1 value_1  hm1 hI
      have h := hB1 atF_1 value_1 hI
      refine g_aload_n C dX11_digits_5 0 rfl ?_
      obtain ⟨P_1, hP, h⟩ := h
      refine g_callV (As := []) (rest := []) C (mX11_here l D Y h0 thrown q_tape taped v_number v_isTold v_name v_sortOf v_first v_second v_degree v_colours v_signBy v_own lines size atF_1 place sort value_1 fault faultPlace lastFault lastPlace v_sF v_kept undoable hasImage v_power v_table v_marks v_row rowOf areSums isSieved v_lastOf blocks v_inBlock v_atQuotient v_small drawn tape P_1 hP) dX11_digits_6 rfl wM_X11_101 wI_X11_here wV_X11_here wN_X11 wC_X11_here (n := 0) (by decide +kernel) rfl (q0 := 0) rfl rfl ⟨Nat.le_of_ble_eq_true rfl, Nat.le_of_ble_eq_true rfl⟩ ⟨Nat.le_of_ble_eq_true rfl, Nat.le_of_ble_eq_true rfl⟩ (Nat.le_of_ble_eq_true rfl) [0, 1] [] rfl rfl rfl (fun v wc hv => ?_)
      obtain ⟨rF_1, rfl, rfl, hq⟩ := hv
      replace h := h rF_1 hq
      refine gG.eqw (ws' := [oX11 h0 thrown (.ref q_tape) taped (v_number) (v_isTold) (v_name) (v_sortOf) (v_first) (v_second) (v_degree) (v_colours) (v_signBy) (v_own) lines size atF_1 place sort value_1 fault faultPlace lastFault lastPlace (v_sF) (v_kept) undoable hasImage (v_power) (v_table) (v_marks) (v_row) rowOf areSums isSieved (v_lastOf) blocks (v_inBlock) (v_atQuotient) (v_small) drawn, aI Y q_tape 700 tape]) rfl ?_
      obtain ⟨P_2, hP, h⟩ := h
      refine g_callS (As := [.int rF_1]) (rest := []) C (mX11_isDigit l D Y rF_1 P_2 hP) dX11_digits_9 rfl wM_X11_124 wS_X11_isDigit wN_X11 wC_X11_isDigit (n := 1) (by decide +kernel) rfl ⟨Nat.le_of_ble_eq_true rfl, Nat.le_of_ble_eq_true rfl⟩ ⟨Nat.le_of_ble_eq_true rfl, Nat.le_of_ble_eq_true rfl⟩ (Nat.le_of_ble_eq_true rfl) [] [0, 1] rfl rfl rfl (fun v wc hv => ?_)
      obtain ⟨rF_2, rfl, rfl, hq⟩ := hv
      replace h := h rF_2 hq
      refine gG.eqw (ws' := [oX11 h0 thrown (.ref q_tape) taped (v_number) (v_isTold) (v_name) (v_sortOf) (v_first) (v_second) (v_degree) (v_colours) (v_signBy) (v_own) lines size atF_1 place sort value_1 fault faultPlace lastFault lastPlace (v_sF) (v_kept) undoable hasImage (v_power) (v_table) (v_marks) (v_row) rowOf areSums isSieved (v_lastOf) blocks (v_inBlock) (v_atQuotient) (v_small) drawn, aI Y q_tape 700 tape]) rfl ?_
      refine g_if_eq (tgt := 63) C dX11_digits_12 (by decide) (fun c_1 => ?_) (fun c_1 => ?_)
      · replace h := h.1 c_1
        exact g_vret C hR (Nat.le_of_ble_eq_true rfl) (Nat.le_of_ble_eq_true rfl) dX11_digits_63 ⟨atF_1, value_1, rfl, rfl, h⟩
      · replace h := h.2 c_1
        refine g_aload_n C dX11_digits_15 0 rfl ?_
        refine g_aload_n C dX11_digits_16 0 rfl ?_
        refine g_get C inX11 0 rfl rfl 18 (by decide) wF_X11_118 rfl dX11_digits_17 ?_
        refine g_ldc C dX11_digits_20 wK_X11_130 ?_
        refine g_icmp_le (tgt := 32) C dX11_digits_22 (by decide) (fun c_2 => ?_) (fun c_2 => ?_)
        · replace h := h.1 c_2
          refine g_bipush (v := 10) C dX11_digits_32 rfl ?_
          refine g_aload_n C dX11_digits_34 0 rfl ?_
          refine g_get C inX11 0 rfl rfl 18 (by decide) wF_X11_118 rfl dX11_digits_35 ?_
          refine g_imul C dX11_digits_38 ?_
          refine g_aload_n C dX11_digits_39 0 rfl ?_
          obtain ⟨P_3, hP, h⟩ := h
          refine g_callV (As := []) (rest := [.int (10 * value_1), .ref h0]) C (mX11_here l D Y h0 thrown q_tape taped v_number v_isTold v_name v_sortOf v_first v_second v_degree v_colours v_signBy v_own lines size atF_1 place sort value_1 fault faultPlace lastFault lastPlace v_sF v_kept undoable hasImage v_power v_table v_marks v_row rowOf areSums isSieved v_lastOf blocks v_inBlock v_atQuotient v_small drawn tape P_3 hP) dX11_digits_40 rfl wM_X11_101 wI_X11_here wV_X11_here wN_X11 wC_X11_here (n := 0) (by decide +kernel) rfl (q0 := 0) rfl rfl ⟨Nat.le_of_ble_eq_true rfl, Nat.le_of_ble_eq_true rfl⟩ ⟨Nat.le_of_ble_eq_true rfl, Nat.le_of_ble_eq_true rfl⟩ (Nat.le_of_ble_eq_true rfl) [0, 1] [] rfl rfl rfl (fun v wc hv => ?_)
          obtain ⟨rF_3, rfl, rfl, hq⟩ := hv
          replace h := h rF_3 hq
          refine gG.eqw (ws' := [oX11 h0 thrown (.ref q_tape) taped (v_number) (v_isTold) (v_name) (v_sortOf) (v_first) (v_second) (v_degree) (v_colours) (v_signBy) (v_own) lines size atF_1 place sort value_1 fault faultPlace lastFault lastPlace (v_sF) (v_kept) undoable hasImage (v_power) (v_table) (v_marks) (v_row) rowOf areSums isSieved (v_lastOf) blocks (v_inBlock) (v_atQuotient) (v_small) drawn, aI Y q_tape 700 tape]) rfl ?_
          refine g_iadd C dX11_digits_43 ?_
          refine g_bipush (v := 48) C dX11_digits_44 rfl ?_
          refine g_isub C dX11_digits_46 ?_
          refine g_topi (fun value_2 evalue_2 => ?_)
          replace h := h value_2 evalue_2
          refine g_put C inX11 tyX11 tyX11_ok nmX11 0 rfl rfl 18 (by decide) wF_X11_118 rfl rfl rfl (Nat.le_of_ble_eq_true rfl) (ws' := [oX11 h0 thrown (.ref q_tape) taped (v_number) (v_isTold) (v_name) (v_sortOf) (v_first) (v_second) (v_degree) (v_colours) (v_signBy) (v_own) lines size atF_1 place sort value_2 fault faultPlace lastFault lastPlace (v_sF) (v_kept) undoable hasImage (v_power) (v_table) (v_marks) (v_row) rowOf areSums isSieved (v_lastOf) blocks (v_inBlock) (v_atQuotient) (v_small) drawn, aI Y q_tape 700 tape]) rfl dX11_digits_47 ?_
          refine g_aload_n C dX11_digits_50 0 rfl ?_
          refine g_dup C dX11_digits_51 rfl ?_
          refine g_get C inX11 0 rfl rfl 15 (by decide) wF_X11_95 rfl dX11_digits_52 ?_
          refine g_iconst (v := 1) C dX11_digits_55 rfl ?_
          refine g_iadd C dX11_digits_56 ?_
          refine g_topi (fun atF_2 eatF_2 => ?_)
          replace h := h atF_2 eatF_2
          refine g_put C inX11 tyX11 tyX11_ok nmX11 0 rfl rfl 15 (by decide) wF_X11_95 rfl rfl rfl (Nat.le_of_ble_eq_true rfl) (ws' := [oX11 h0 thrown (.ref q_tape) taped (v_number) (v_isTold) (v_name) (v_sortOf) (v_first) (v_second) (v_degree) (v_colours) (v_signBy) (v_own) lines size atF_2 place sort value_2 fault faultPlace lastFault lastPlace (v_sF) (v_kept) undoable hasImage (v_power) (v_table) (v_marks) (v_row) rowOf areSums isSieved (v_lastOf) blocks (v_inBlock) (v_atQuotient) (v_small) drawn, aI Y q_tape 700 tape]) rfl dX11_digits_57 ?_
          refine g_goto (tgt := 5) C dX11_digits_60 (by decide) ?_
          exact ih1 atF_2 value_2 (Nat.lt_of_lt_of_le h.2 (Nat.le_of_lt_succ hm1)) h.1
        · replace h := h.2 c_2
          refine g_aload_n C dX11_digits_25 0 rfl ?_
          refine g_get C inX11 0 rfl rfl 18 (by decide) wF_X11_118 rfl dX11_digits_26 ?_
          refine g_goto (tgt := 47) C dX11_digits_29 (by decide) ?_
          refine g_put C inX11 tyX11 tyX11_ok nmX11 0 rfl rfl 18 (by decide) wF_X11_118 rfl rfl rfl (Nat.le_of_ble_eq_true rfl) (ws' := [oX11 h0 thrown (.ref q_tape) taped (v_number) (v_isTold) (v_name) (v_sortOf) (v_first) (v_second) (v_degree) (v_colours) (v_signBy) (v_own) lines size atF_1 place sort value_1 fault faultPlace lastFault lastPlace (v_sF) (v_kept) undoable hasImage (v_power) (v_table) (v_marks) (v_row) rowOf areSums isSieved (v_lastOf) blocks (v_inBlock) (v_atQuotient) (v_small) drawn, aI Y q_tape 700 tape]) rfl dX11_digits_47 ?_
          refine g_aload_n C dX11_digits_50 0 rfl ?_
          refine g_dup C dX11_digits_51 rfl ?_
          refine g_get C inX11 0 rfl rfl 15 (by decide) wF_X11_95 rfl dX11_digits_52 ?_
          refine g_iconst (v := 1) C dX11_digits_55 rfl ?_
          refine g_iadd C dX11_digits_56 ?_
          refine g_topi (fun atF_3 eatF_3 => ?_)
          replace h := h atF_3 eatF_3
          refine g_put C inX11 tyX11 tyX11_ok nmX11 0 rfl rfl 15 (by decide) wF_X11_95 rfl rfl rfl (Nat.le_of_ble_eq_true rfl) (ws' := [oX11 h0 thrown (.ref q_tape) taped (v_number) (v_isTold) (v_name) (v_sortOf) (v_first) (v_second) (v_degree) (v_colours) (v_signBy) (v_own) lines size atF_3 place sort value_1 fault faultPlace lastFault lastPlace (v_sF) (v_kept) undoable hasImage (v_power) (v_table) (v_marks) (v_row) rowOf areSums isSieved (v_lastOf) blocks (v_inBlock) (v_atQuotient) (v_small) drawn, aI Y q_tape 700 tape]) rfl dX11_digits_57 ?_
          refine g_goto (tgt := 5) C dX11_digits_60 (by decide) ?_
          exact ih1 atF_3 value_1 (Nat.lt_of_lt_of_le h.2 (Nat.le_of_lt_succ hm1)) h.1
  exact key_1 (Mea_1 atF 0 + 1) atF 0 (Nat.lt_succ_self _) hI1
theorem dX11_token_0 : decode cX11_token 0 = .ok (.aload_n 0, 1) := by decide +kernel
theorem dX11_token_1 : decode cX11_token 1 = .ok (.invokevirtual 101, 3) := by decide +kernel
theorem dX11_token_4 : decode cX11_token 4 = .ok (.bipush 10, 2) := by decide +kernel
theorem dX11_token_6 : decode cX11_token 6 = .ok (.if_icmp .eq 12, 3) := by decide +kernel
theorem dX11_token_9 : decode cX11_token 9 = .ok (.aload_n 0, 1) := by decide +kernel
theorem dX11_token_10 : decode cX11_token 10 = .ok (.invokevirtual 101, 3) := by decide +kernel
theorem dX11_token_13 : decode cX11_token 13 = .ok (.bipush 32, 2) := by decide +kernel
theorem dX11_token_15 : decode cX11_token 15 = .ok (.if_icmp .ne 16, 3) := by decide +kernel
theorem dX11_token_18 : decode cX11_token 18 = .ok (.aload_n 0, 1) := by decide +kernel
theorem dX11_token_19 : decode cX11_token 19 = .ok (.dup, 1) := by decide +kernel
theorem dX11_token_20 : decode cX11_token 20 = .ok (.getfield 95, 3) := by decide +kernel
theorem dX11_token_23 : decode cX11_token 23 = .ok (.iconst 1, 1) := by decide +kernel
theorem dX11_token_24 : decode cX11_token 24 = .ok (.iadd, 1) := by decide +kernel
theorem dX11_token_25 : decode cX11_token 25 = .ok (.putfield 95, 3) := by decide +kernel
theorem dX11_token_28 : decode cX11_token 28 = .ok (.goto (-28), 3) := by decide +kernel
theorem dX11_token_31 : decode cX11_token 31 = .ok (.aload_n 0, 1) := by decide +kernel
theorem dX11_token_32 : decode cX11_token 32 = .ok (.aload_n 0, 1) := by decide +kernel
theorem dX11_token_33 : decode cX11_token 33 = .ok (.getfield 95, 3) := by decide +kernel
theorem dX11_token_36 : decode cX11_token 36 = .ok (.putfield 105, 3) := by decide +kernel
theorem dX11_token_39 : decode cX11_token 39 = .ok (.aload_n 0, 1) := by decide +kernel
theorem dX11_token_40 : decode cX11_token 40 = .ok (.invokevirtual 101, 3) := by decide +kernel
theorem dX11_token_43 : decode cX11_token 43 = .ok (.istore_n 1, 1) := by decide +kernel
theorem dX11_token_44 : decode cX11_token 44 = .ok (.iload_n 1, 1) := by decide +kernel
theorem dX11_token_45 : decode cX11_token 45 = .ok (.iconst (-1), 1) := by decide +kernel
theorem dX11_token_46 : decode cX11_token 46 = .ok (.if_icmp .ne 11, 3) := by decide +kernel
theorem dX11_token_49 : decode cX11_token 49 = .ok (.aload_n 0, 1) := by decide +kernel
theorem dX11_token_50 : decode cX11_token 50 = .ok (.iconst 5, 1) := by decide +kernel
theorem dX11_token_51 : decode cX11_token 51 = .ok (.putfield 108, 3) := by decide +kernel
theorem dX11_token_54 : decode cX11_token 54 = .ok (.goto 186, 3) := by decide +kernel
theorem dX11_token_57 : decode cX11_token 57 = .ok (.iload_n 1, 1) := by decide +kernel
theorem dX11_token_58 : decode cX11_token 58 = .ok (.invokestatic 111, 3) := by decide +kernel
theorem dX11_token_61 : decode cX11_token 61 = .ok (.ifCond .eq 85, 3) := by decide +kernel
theorem dX11_token_64 : decode cX11_token 64 = .ok (.aload_n 0, 1) := by decide +kernel
theorem dX11_token_65 : decode cX11_token 65 = .ok (.invokevirtual 101, 3) := by decide +kernel
theorem dX11_token_68 : decode cX11_token 68 = .ok (.invokestatic 111, 3) := by decide +kernel
theorem dX11_token_71 : decode cX11_token 71 = .ok (.ifCond .eq 16, 3) := by decide +kernel
theorem dX11_token_74 : decode cX11_token 74 = .ok (.aload_n 0, 1) := by decide +kernel
theorem dX11_token_75 : decode cX11_token 75 = .ok (.dup, 1) := by decide +kernel
theorem dX11_token_76 : decode cX11_token 76 = .ok (.getfield 95, 3) := by decide +kernel
theorem dX11_token_79 : decode cX11_token 79 = .ok (.iconst 1, 1) := by decide +kernel
theorem dX11_token_80 : decode cX11_token 80 = .ok (.iadd, 1) := by decide +kernel
theorem dX11_token_81 : decode cX11_token 81 = .ok (.putfield 95, 3) := by decide +kernel
theorem dX11_token_84 : decode cX11_token 84 = .ok (.goto (-20), 3) := by decide +kernel
theorem dX11_token_87 : decode cX11_token 87 = .ok (.aload_n 0, 1) := by decide +kernel
theorem dX11_token_88 : decode cX11_token 88 = .ok (.aload_n 0, 1) := by decide +kernel
theorem dX11_token_89 : decode cX11_token 89 = .ok (.invokevirtual 115, 3) := by decide +kernel
theorem dX11_token_92 : decode cX11_token 92 = .ok (.putfield 118, 3) := by decide +kernel
theorem dX11_token_95 : decode cX11_token 95 = .ok (.aload_n 0, 1) := by decide +kernel
theorem dX11_token_96 : decode cX11_token 96 = .ok (.aload_n 0, 1) := by decide +kernel
theorem dX11_token_97 : decode cX11_token 97 = .ok (.getfield 118, 3) := by decide +kernel
theorem dX11_token_100 : decode cX11_token 100 = .ok (.iconst (-1), 1) := by decide +kernel
theorem dX11_token_101 : decode cX11_token 101 = .ok (.if_icmp .eq 7, 3) := by decide +kernel
theorem dX11_token_104 : decode cX11_token 104 = .ok (.iconst 0, 1) := by decide +kernel
theorem dX11_token_105 : decode cX11_token 105 = .ok (.goto 23, 3) := by decide +kernel
theorem dX11_token_108 : decode cX11_token 108 = .ok (.aload_n 0, 1) := by decide +kernel
theorem dX11_token_109 : decode cX11_token 109 = .ok (.getfield 95, 3) := by decide +kernel
theorem dX11_token_112 : decode cX11_token 112 = .ok (.aload_n 0, 1) := by decide +kernel
theorem dX11_token_113 : decode cX11_token 113 = .ok (.getfield 105, 3) := by decide +kernel
theorem dX11_token_116 : decode cX11_token 116 = .ok (.isub, 1) := by decide +kernel
theorem dX11_token_117 : decode cX11_token 117 = .ok (.bipush 6, 2) := by decide +kernel
theorem dX11_token_119 : decode cX11_token 119 = .ok (.if_icmp .le 8, 3) := by decide +kernel
theorem dX11_token_122 : decode cX11_token 122 = .ok (.bipush 6, 2) := by decide +kernel
theorem dX11_token_124 : decode cX11_token 124 = .ok (.goto 4, 3) := by decide +kernel
theorem dX11_token_127 : decode cX11_token 127 = .ok (.iconst 1, 1) := by decide +kernel
theorem dX11_token_128 : decode cX11_token 128 = .ok (.putfield 108, 3) := by decide +kernel
theorem dX11_token_131 : decode cX11_token 131 = .ok (.aload_n 0, 1) := by decide +kernel
theorem dX11_token_132 : decode cX11_token 132 = .ok (.getfield 108, 3) := by decide +kernel
theorem dX11_token_135 : decode cX11_token 135 = .ok (.iconst 1, 1) := by decide +kernel
theorem dX11_token_136 : decode cX11_token 136 = .ok (.if_icmp .ne 104, 3) := by decide +kernel
theorem dX11_token_139 : decode cX11_token 139 = .ok (.aload_n 0, 1) := by decide +kernel
theorem dX11_token_140 : decode cX11_token 140 = .ok (.invokevirtual 121, 3) := by decide +kernel
theorem dX11_token_143 : decode cX11_token 143 = .ok (.goto 97, 3) := by decide +kernel
theorem dX11_token_146 : decode cX11_token 146 = .ok (.iload_n 1, 1) := by decide +kernel
theorem dX11_token_147 : decode cX11_token 147 = .ok (.invokestatic 124, 3) := by decide +kernel
theorem dX11_token_150 : decode cX11_token 150 = .ok (.ifCond .eq 15, 3) := by decide +kernel
theorem dX11_token_153 : decode cX11_token 153 = .ok (.aload_n 0, 1) := by decide +kernel
theorem dX11_token_154 : decode cX11_token 154 = .ok (.iconst 2, 1) := by decide +kernel
theorem dX11_token_155 : decode cX11_token 155 = .ok (.putfield 108, 3) := by decide +kernel
theorem dX11_token_158 : decode cX11_token 158 = .ok (.aload_n 0, 1) := by decide +kernel
theorem dX11_token_159 : decode cX11_token 159 = .ok (.invokevirtual 127, 3) := by decide +kernel
theorem dX11_token_162 : decode cX11_token 162 = .ok (.goto 78, 3) := by decide +kernel
theorem dX11_token_165 : decode cX11_token 165 = .ok (.aload_n 0, 1) := by decide +kernel
theorem dX11_token_166 : decode cX11_token 166 = .ok (.dup, 1) := by decide +kernel
theorem dX11_token_167 : decode cX11_token 167 = .ok (.getfield 95, 3) := by decide +kernel
theorem dX11_token_170 : decode cX11_token 170 = .ok (.iconst 1, 1) := by decide +kernel
theorem dX11_token_171 : decode cX11_token 171 = .ok (.iadd, 1) := by decide +kernel
theorem dX11_token_172 : decode cX11_token 172 = .ok (.putfield 95, 3) := by decide +kernel
theorem dX11_token_175 : decode cX11_token 175 = .ok (.aload_n 0, 1) := by decide +kernel
theorem dX11_token_176 : decode cX11_token 176 = .ok (.iload_n 1, 1) := by decide +kernel
theorem dX11_token_177 : decode cX11_token 177 = .ok (.bipush 59, 2) := by decide +kernel
theorem dX11_token_179 : decode cX11_token 179 = .ok (.if_icmp .ne 7, 3) := by decide +kernel
theorem dX11_token_182 : decode cX11_token 182 = .ok (.iconst 4, 1) := by decide +kernel
theorem dX11_token_183 : decode cX11_token 183 = .ok (.goto 25, 3) := by decide +kernel
theorem dX11_token_186 : decode cX11_token 186 = .ok (.iload_n 1, 1) := by decide +kernel
theorem dX11_token_187 : decode cX11_token 187 = .ok (.bipush 45, 2) := by decide +kernel
theorem dX11_token_189 : decode cX11_token 189 = .ok (.if_icmp .ne 17, 3) := by decide +kernel
theorem dX11_token_192 : decode cX11_token 192 = .ok (.aload_n 0, 1) := by decide +kernel
theorem dX11_token_193 : decode cX11_token 193 = .ok (.invokevirtual 101, 3) := by decide +kernel
theorem dX11_token_196 : decode cX11_token 196 = .ok (.invokestatic 124, 3) := by decide +kernel
theorem dX11_token_199 : decode cX11_token 199 = .ok (.ifCond .eq 7, 3) := by decide +kernel
theorem dX11_token_202 : decode cX11_token 202 = .ok (.iconst 3, 1) := by decide +kernel
theorem dX11_token_203 : decode cX11_token 203 = .ok (.goto 5, 3) := by decide +kernel
theorem dX11_token_206 : decode cX11_token 206 = .ok (.bipush 6, 2) := by decide +kernel
theorem dX11_token_208 : decode cX11_token 208 = .ok (.putfield 108, 3) := by decide +kernel
theorem dX11_token_211 : decode cX11_token 211 = .ok (.aload_n 0, 1) := by decide +kernel
theorem dX11_token_212 : decode cX11_token 212 = .ok (.getfield 108, 3) := by decide +kernel
theorem dX11_token_215 : decode cX11_token 215 = .ok (.iconst 3, 1) := by decide +kernel
theorem dX11_token_216 : decode cX11_token 216 = .ok (.if_icmp .ne 7, 3) := by decide +kernel
theorem dX11_token_219 : decode cX11_token 219 = .ok (.aload_n 0, 1) := by decide +kernel
theorem dX11_token_220 : decode cX11_token 220 = .ok (.invokevirtual 127, 3) := by decide +kernel
theorem dX11_token_223 : decode cX11_token 223 = .ok (.aload_n 0, 1) := by decide +kernel
theorem dX11_token_224 : decode cX11_token 224 = .ok (.getfield 108, 3) := by decide +kernel
theorem dX11_token_227 : decode cX11_token 227 = .ok (.iconst 3, 1) := by decide +kernel
theorem dX11_token_228 : decode cX11_token 228 = .ok (.if_icmp .ne 12, 3) := by decide +kernel
theorem dX11_token_231 : decode cX11_token 231 = .ok (.aload_n 0, 1) := by decide +kernel
theorem dX11_token_232 : decode cX11_token 232 = .ok (.aload_n 0, 1) := by decide +kernel
theorem dX11_token_233 : decode cX11_token 233 = .ok (.getfield 118, 3) := by decide +kernel
theorem dX11_token_236 : decode cX11_token 236 = .ok (.ineg, 1) := by decide +kernel
theorem dX11_token_237 : decode cX11_token 237 = .ok (.putfield 118, 3) := by decide +kernel
theorem dX11_token_240 : decode cX11_token 240 = .ok (.return_, 1) := by decide +kernel
/-- QuotientSumsModel.token()V -/
def wX11_token (thrown : Int32) (taped : Int32) (lines : Int32) (size : Int32) (atF : Int32) (place : Int32) (sort : Int32) (value : Int32) (fault : Int32) (faultPlace : Int32) (lastFault : Int32) (lastPlace : Int32) (undoable : Int32) (hasImage : Int32) (rowOf : Int32) (areSums : Int32) (isSieved : Int32) (blocks : Int32) (drawn : Int32) (tape : Nat → Int32)  (Q : (Int32) → (Int32) → (Int32) → (Int32) → Prop) : Prop :=
  (∃ (Inv_1 : (Int32) → Prop) (Mea_1 : (Int32) → Nat), Inv_1 atF ∧ ∀ (atF_1 : Int32), Inv_1 atF_1 → (∃ (P_1 : (Int32) → Prop), wX11_here thrown taped lines size atF_1 place sort value fault faultPlace lastFault lastPlace undoable hasImage rowOf areSums isSieved blocks drawn tape P_1 ∧ ∀ (rF_1 : Int32), P_1 rF_1 → ((rF_1 = 10 → (∀ atF_2 : Int32, atF_2 = atF_1 + 1 → (Inv_1 atF_2 ∧ Mea_1 atF_2 < Mea_1 atF_1))) ∧ (¬ rF_1 = 10 → (∃ (P_2 : (Int32) → Prop), wX11_here thrown taped lines size atF_1 place sort value fault faultPlace lastFault lastPlace undoable hasImage rowOf areSums isSieved blocks drawn tape P_2 ∧ ∀ (rF_2 : Int32), P_2 rF_2 → ((¬ rF_2 = 32 → (∃ (P_3 : (Int32) → Prop), wX11_here thrown taped lines size atF_1 atF_1 sort value fault faultPlace lastFault lastPlace undoable hasImage rowOf areSums isSieved blocks drawn tape P_3 ∧ ∀ (rF_3 : Int32), P_3 rF_3 → ((¬ rF_3 = (-1) → (∃ (P_4 : (Int32) → Prop), wX11_isSmall rF_3 P_4 ∧ ∀ (rF_4 : Int32), P_4 rF_4 → ((rF_4 = 0 → (∃ (P_5 : (Int32) → Prop), wX11_isDigit rF_3 P_5 ∧ ∀ (rF_5 : Int32), P_5 rF_5 → ((rF_5 = 0 → (∀ atF_3 : Int32, atF_3 = atF_1 + 1 → ((¬ rF_3 = 59 → ((¬ rF_3 = 45 → (Q atF_3 atF_1 6 value)) ∧ (rF_3 = 45 → (∃ (P_6 : (Int32) → Prop), wX11_here thrown taped lines size atF_3 atF_1 sort value fault faultPlace lastFault lastPlace undoable hasImage rowOf areSums isSieved blocks drawn tape P_6 ∧ ∀ (rF_6 : Int32), P_6 rF_6 → ∃ (P_7 : (Int32) → Prop), wX11_isDigit rF_6 P_7 ∧ ∀ (rF_7 : Int32), P_7 rF_7 → ((rF_7 = 0 → (Q atF_3 atF_1 6 value)) ∧ (¬ rF_7 = 0 → (∃ (P_8 : (Int32) → (Int32) → Prop), wX11_digits thrown taped lines size atF_3 atF_1 3 value fault faultPlace lastFault lastPlace undoable hasImage rowOf areSums isSieved blocks drawn tape P_8 ∧ ∀ (atF_4 : Int32) (value_1 : Int32), P_8 atF_4 value_1 → ∀ value_2 : Int32, value_2 = -value_1 → (Q atF_4 atF_1 3 value_2)))))))) ∧ (rF_3 = 59 → (Q atF_3 atF_1 4 value))))) ∧ (¬ rF_5 = 0 → (∃ (P_9 : (Int32) → (Int32) → Prop), wX11_digits thrown taped lines size atF_1 atF_1 2 value fault faultPlace lastFault lastPlace undoable hasImage rowOf areSums isSieved blocks drawn tape P_9 ∧ ∀ (atF_5 : Int32) (value_3 : Int32), P_9 atF_5 value_3 → (Q atF_5 atF_1 2 value_3)))))) ∧ (¬ rF_4 = 0 → (∃ (Inv_2 : (Int32) → Prop) (Mea_2 : (Int32) → Nat), Inv_2 atF_1 ∧ ∀ (atF_6 : Int32), Inv_2 atF_6 → (∃ (P_10 : (Int32) → Prop), wX11_here thrown taped lines size atF_6 atF_1 sort value fault faultPlace lastFault lastPlace undoable hasImage rowOf areSums isSieved blocks drawn tape P_10 ∧ ∀ (rF_8 : Int32), P_10 rF_8 → ∃ (P_11 : (Int32) → Prop), wX11_isSmall rF_8 P_11 ∧ ∀ (rF_9 : Int32), P_11 rF_9 → ((rF_9 = 0 → (∃ (P_12 : (Int32) → Prop), wX11_wordHere thrown taped lines size atF_6 atF_1 sort value fault faultPlace lastFault lastPlace undoable hasImage rowOf areSums isSieved blocks drawn tape P_12 ∧ ∀ (rF_10 : Int32), P_12 rF_10 → ((rF_10 = (-1) → (((atF_6 - atF_1) ≤ 6 → (∃ (P_13 : (Int32) → Prop), wX11_nameHere thrown taped lines size atF_6 atF_1 1 rF_10 fault faultPlace lastFault lastPlace undoable hasImage rowOf areSums isSieved blocks drawn tape P_13 ∧ ∀ (value_4 : Int32), P_13 value_4 → (Q atF_6 atF_1 1 value_4))) ∧ (¬ (atF_6 - atF_1) ≤ 6 → (Q atF_6 atF_1 6 rF_10)))) ∧ (¬ rF_10 = (-1) → (Q atF_6 atF_1 0 rF_10))))) ∧ (¬ rF_9 = 0 → (∀ atF_7 : Int32, atF_7 = atF_6 + 1 → (Inv_2 atF_7 ∧ Mea_2 atF_7 < Mea_2 atF_6)))))))))) ∧ (rF_3 = (-1) → (Q atF_1 atF_1 5 value))))) ∧ (rF_2 = 32 → (∀ atF_8 : Int32, atF_8 = atF_1 + 1 → (Inv_1 atF_8 ∧ Mea_1 atF_8 < Mea_1 atF_1)))))))))
set_option maxHeartbeats 4000000 in
set_option maxRecDepth 100000 in
theorem mX11_token (l : Launch) (D : va_G) (Y : Nat → ClassId) (h0 : Nat) (thrown : Int32) (q_tape : Nat) (taped : Int32) (v_number : Value) (v_isTold : Value) (v_name : Value) (v_sortOf : Value) (v_first : Value) (v_second : Value) (v_degree : Value) (v_colours : Value) (v_signBy : Value) (v_own : Value) (lines : Int32) (size : Int32) (atF : Int32) (place : Int32) (sort : Int32) (value : Int32) (fault : Int32) (faultPlace : Int32) (lastFault : Int32) (lastPlace : Int32) (v_sF : Value) (v_kept : Value) (undoable : Int32) (hasImage : Int32) (v_power : Value) (v_table : Value) (v_marks : Value) (v_row : Value) (rowOf : Int32) (areSums : Int32) (isSieved : Int32) (v_lastOf : Value) (blocks : Int32) (v_inBlock : Value) (v_atQuotient : Value) (v_small : Value) (drawn : Int32) (tape : Nat → Int32)  (Q : (Int32) → (Int32) → (Int32) → (Int32) → Prop) (h : wX11_token thrown taped lines size atF place sort value fault faultPlace lastFault lastPlace undoable hasImage rowOf areSums isSieved blocks drawn tape Q) : gM l D Y yX11_token cX11_token 2 none 5 108 0 0 [.ref h0] [oX11 h0 thrown (.ref q_tape) taped (v_number) (v_isTold) (v_name) (v_sortOf) (v_first) (v_second) (v_degree) (v_colours) (v_signBy) (v_own) lines size atF place sort value fault faultPlace lastFault lastPlace (v_sF) (v_kept) undoable hasImage (v_power) (v_table) (v_marks) (v_row) rowOf areSums isSieved (v_lastOf) blocks (v_inBlock) (v_atQuotient) (v_small) drawn, aI Y q_tape 700 tape] (fun v w => ∃ atF' : Int32, ∃ place' : Int32, ∃ sort' : Int32, ∃ value' : Int32, v = none ∧ w = [oX11 h0 thrown (.ref q_tape) taped (v_number) (v_isTold) (v_name) (v_sortOf) (v_first) (v_second) (v_degree) (v_colours) (v_signBy) (v_own) lines size atF' place' sort' value' fault faultPlace lastFault lastPlace (v_sF) (v_kept) undoable hasImage (v_power) (v_table) (v_marks) (v_row) rowOf areSums isSieved (v_lastOf) blocks (v_inBlock) (v_atQuotient) (v_small) drawn, aI Y q_tape 700 tape] ∧ Q atF' place' sort' value') := by
  refine gM_of (own := RX11) (by decide +kernel) rfl (Nat.le_of_ble_eq_true rfl) rfl (fun E C hR => ?_)
  unfold wX11_token at h
  obtain ⟨Inv_1, Mea_1, hI1, hB1⟩ := h
  have key_1 : ∀ (n : Nat) (atF_1 : Int32) , Mea_1 atF_1 < n → Inv_1 atF_1 → gG E 0 0 [oX11 h0 thrown (.ref q_tape) taped (v_number) (v_isTold) (v_name) (v_sortOf) (v_first) (v_second) (v_degree) (v_colours) (v_signBy) (v_own) lines size atF_1 place sort value fault faultPlace lastFault lastPlace (v_sF) (v_kept) undoable hasImage (v_power) (v_table) (v_marks) (v_row) rowOf areSums isSieved (v_lastOf) blocks (v_inBlock) (v_atQuotient) (v_small) drawn, aI Y q_tape 700 tape] [(0, .ref h0)] [] 0 := by
    intro n
    induction n with
    | zero => exact fun _ hm => absurd hm (Nat.not_lt_zero _)
    | succ n ih1 =>
      intro atF_1  hm1 hI
      have h := hB1 atF_1 hI
      refine g_aload_n C dX11_token_0 0 rfl ?_
      obtain ⟨P_1, hP, h⟩ := h
      refine g_callV (As := []) (rest := []) C (mX11_here l D Y h0 thrown q_tape taped v_number v_isTold v_name v_sortOf v_first v_second v_degree v_colours v_signBy v_own lines size atF_1 place sort value fault faultPlace lastFault lastPlace v_sF v_kept undoable hasImage v_power v_table v_marks v_row rowOf areSums isSieved v_lastOf blocks v_inBlock v_atQuotient v_small drawn tape P_1 hP) dX11_token_1 rfl wM_X11_101 wI_X11_here wV_X11_here wN_X11 wC_X11_here (n := 0) (by decide +kernel) rfl (q0 := 0) rfl rfl ⟨Nat.le_of_ble_eq_true rfl, Nat.le_of_ble_eq_true rfl⟩ ⟨Nat.le_of_ble_eq_true rfl, Nat.le_of_ble_eq_true rfl⟩ (Nat.le_of_ble_eq_true rfl) [0, 1] [] rfl rfl rfl (fun v wc hv => ?_)
      obtain ⟨rF_1, rfl, rfl, hq⟩ := hv
      replace h := h rF_1 hq
      refine gG.eqw (ws' := [oX11 h0 thrown (.ref q_tape) taped (v_number) (v_isTold) (v_name) (v_sortOf) (v_first) (v_second) (v_degree) (v_colours) (v_signBy) (v_own) lines size atF_1 place sort value fault faultPlace lastFault lastPlace (v_sF) (v_kept) undoable hasImage (v_power) (v_table) (v_marks) (v_row) rowOf areSums isSieved (v_lastOf) blocks (v_inBlock) (v_atQuotient) (v_small) drawn, aI Y q_tape 700 tape]) rfl ?_
      refine g_bipush (v := 10) C dX11_token_4 rfl ?_
      refine g_icmp_eq (tgt := 18) C dX11_token_6 (by decide) (fun c_1 => ?_) (fun c_1 => ?_)
      · replace h := h.1 c_1
        refine g_aload_n C dX11_token_18 0 rfl ?_
        refine g_dup C dX11_token_19 rfl ?_
        refine g_get C inX11 0 rfl rfl 15 (by decide) wF_X11_95 rfl dX11_token_20 ?_
        refine g_iconst (v := 1) C dX11_token_23 rfl ?_
        refine g_iadd C dX11_token_24 ?_
        refine g_topi (fun atF_2 eatF_2 => ?_)
        replace h := h atF_2 eatF_2
        refine g_put C inX11 tyX11 tyX11_ok nmX11 0 rfl rfl 15 (by decide) wF_X11_95 rfl rfl rfl (Nat.le_of_ble_eq_true rfl) (ws' := [oX11 h0 thrown (.ref q_tape) taped (v_number) (v_isTold) (v_name) (v_sortOf) (v_first) (v_second) (v_degree) (v_colours) (v_signBy) (v_own) lines size atF_2 place sort value fault faultPlace lastFault lastPlace (v_sF) (v_kept) undoable hasImage (v_power) (v_table) (v_marks) (v_row) rowOf areSums isSieved (v_lastOf) blocks (v_inBlock) (v_atQuotient) (v_small) drawn, aI Y q_tape 700 tape]) rfl dX11_token_25 ?_
        refine g_goto (tgt := 0) C dX11_token_28 (by decide) ?_
        exact ih1 atF_2 (Nat.lt_of_lt_of_le h.2 (Nat.le_of_lt_succ hm1)) h.1
      · replace h := h.2 c_1
        refine g_aload_n C dX11_token_9 0 rfl ?_
        obtain ⟨P_2, hP, h⟩ := h
        refine g_callV (As := []) (rest := []) C (mX11_here l D Y h0 thrown q_tape taped v_number v_isTold v_name v_sortOf v_first v_second v_degree v_colours v_signBy v_own lines size atF_1 place sort value fault faultPlace lastFault lastPlace v_sF v_kept undoable hasImage v_power v_table v_marks v_row rowOf areSums isSieved v_lastOf blocks v_inBlock v_atQuotient v_small drawn tape P_2 hP) dX11_token_10 rfl wM_X11_101 wI_X11_here wV_X11_here wN_X11 wC_X11_here (n := 0) (by decide +kernel) rfl (q0 := 0) rfl rfl ⟨Nat.le_of_ble_eq_true rfl, Nat.le_of_ble_eq_true rfl⟩ ⟨Nat.le_of_ble_eq_true rfl, Nat.le_of_ble_eq_true rfl⟩ (Nat.le_of_ble_eq_true rfl) [0, 1] [] rfl rfl rfl (fun v wc hv => ?_)
        obtain ⟨rF_2, rfl, rfl, hq⟩ := hv
        replace h := h rF_2 hq
        refine gG.eqw (ws' := [oX11 h0 thrown (.ref q_tape) taped (v_number) (v_isTold) (v_name) (v_sortOf) (v_first) (v_second) (v_degree) (v_colours) (v_signBy) (v_own) lines size atF_1 place sort value fault faultPlace lastFault lastPlace (v_sF) (v_kept) undoable hasImage (v_power) (v_table) (v_marks) (v_row) rowOf areSums isSieved (v_lastOf) blocks (v_inBlock) (v_atQuotient) (v_small) drawn, aI Y q_tape 700 tape]) rfl ?_
        refine g_bipush (v := 32) C dX11_token_13 rfl ?_
        refine g_icmp_ne (tgt := 31) C dX11_token_15 (by decide) (fun c_2 => ?_) (fun c_2 => ?_)
        · replace h := h.1 c_2
          refine g_aload_n C dX11_token_31 0 rfl ?_
          refine g_aload_n C dX11_token_32 0 rfl ?_
          refine g_get C inX11 0 rfl rfl 15 (by decide) wF_X11_95 rfl dX11_token_33 ?_
          refine g_put C inX11 tyX11 tyX11_ok nmX11 0 rfl rfl 16 (by decide) wF_X11_105 rfl rfl rfl (Nat.le_of_ble_eq_true rfl) (ws' := [oX11 h0 thrown (.ref q_tape) taped (v_number) (v_isTold) (v_name) (v_sortOf) (v_first) (v_second) (v_degree) (v_colours) (v_signBy) (v_own) lines size atF_1 atF_1 sort value fault faultPlace lastFault lastPlace (v_sF) (v_kept) undoable hasImage (v_power) (v_table) (v_marks) (v_row) rowOf areSums isSieved (v_lastOf) blocks (v_inBlock) (v_atQuotient) (v_small) drawn, aI Y q_tape 700 tape]) rfl dX11_token_36 ?_
          refine g_aload_n C dX11_token_39 0 rfl ?_
          obtain ⟨P_3, hP, h⟩ := h
          refine g_callV (As := []) (rest := []) C (mX11_here l D Y h0 thrown q_tape taped v_number v_isTold v_name v_sortOf v_first v_second v_degree v_colours v_signBy v_own lines size atF_1 atF_1 sort value fault faultPlace lastFault lastPlace v_sF v_kept undoable hasImage v_power v_table v_marks v_row rowOf areSums isSieved v_lastOf blocks v_inBlock v_atQuotient v_small drawn tape P_3 hP) dX11_token_40 rfl wM_X11_101 wI_X11_here wV_X11_here wN_X11 wC_X11_here (n := 0) (by decide +kernel) rfl (q0 := 0) rfl rfl ⟨Nat.le_of_ble_eq_true rfl, Nat.le_of_ble_eq_true rfl⟩ ⟨Nat.le_of_ble_eq_true rfl, Nat.le_of_ble_eq_true rfl⟩ (Nat.le_of_ble_eq_true rfl) [0, 1] [] rfl rfl rfl (fun v wc hv => ?_)
          obtain ⟨rF_3, rfl, rfl, hq⟩ := hv
          replace h := h rF_3 hq
          refine gG.eqw (ws' := [oX11 h0 thrown (.ref q_tape) taped (v_number) (v_isTold) (v_name) (v_sortOf) (v_first) (v_second) (v_degree) (v_colours) (v_signBy) (v_own) lines size atF_1 atF_1 sort value fault faultPlace lastFault lastPlace (v_sF) (v_kept) undoable hasImage (v_power) (v_table) (v_marks) (v_row) rowOf areSums isSieved (v_lastOf) blocks (v_inBlock) (v_atQuotient) (v_small) drawn, aI Y q_tape 700 tape]) rfl ?_
          refine g_istore_n (lv' := [(1, .int rF_3), (0, .ref h0)]) C dX11_token_43 (by decide) rfl ?_
          refine g_iload_n C dX11_token_44 0 rfl ?_
          refine g_iconst (v := (-1)) C dX11_token_45 rfl ?_
          refine g_icmp_ne (tgt := 57) C dX11_token_46 (by decide) (fun c_3 => ?_) (fun c_3 => ?_)
          · replace h := h.1 c_3
            refine g_iload_n C dX11_token_57 0 rfl ?_
            obtain ⟨P_4, hP, h⟩ := h
            refine g_callS (As := [.int rF_3]) (rest := []) C (mX11_isSmall l D Y rF_3 P_4 hP) dX11_token_58 rfl wM_X11_111 wS_X11_isSmall wN_X11 wC_X11_isSmall (n := 1) (by decide +kernel) rfl ⟨Nat.le_of_ble_eq_true rfl, Nat.le_of_ble_eq_true rfl⟩ ⟨Nat.le_of_ble_eq_true rfl, Nat.le_of_ble_eq_true rfl⟩ (Nat.le_of_ble_eq_true rfl) [] [0, 1] rfl rfl rfl (fun v wc hv => ?_)
            obtain ⟨rF_4, rfl, rfl, hq⟩ := hv
            replace h := h rF_4 hq
            refine gG.eqw (ws' := [oX11 h0 thrown (.ref q_tape) taped (v_number) (v_isTold) (v_name) (v_sortOf) (v_first) (v_second) (v_degree) (v_colours) (v_signBy) (v_own) lines size atF_1 atF_1 sort value fault faultPlace lastFault lastPlace (v_sF) (v_kept) undoable hasImage (v_power) (v_table) (v_marks) (v_row) rowOf areSums isSieved (v_lastOf) blocks (v_inBlock) (v_atQuotient) (v_small) drawn, aI Y q_tape 700 tape]) rfl ?_
            refine g_if_eq (tgt := 146) C dX11_token_61 (by decide) (fun c_4 => ?_) (fun c_4 => ?_)
            · replace h := h.1 c_4
              refine g_iload_n C dX11_token_146 0 rfl ?_
              obtain ⟨P_5, hP, h⟩ := h
              refine g_callS (As := [.int rF_3]) (rest := []) C (mX11_isDigit l D Y rF_3 P_5 hP) dX11_token_147 rfl wM_X11_124 wS_X11_isDigit wN_X11 wC_X11_isDigit (n := 1) (by decide +kernel) rfl ⟨Nat.le_of_ble_eq_true rfl, Nat.le_of_ble_eq_true rfl⟩ ⟨Nat.le_of_ble_eq_true rfl, Nat.le_of_ble_eq_true rfl⟩ (Nat.le_of_ble_eq_true rfl) [] [0, 1] rfl rfl rfl (fun v wc hv => ?_)
              obtain ⟨rF_5, rfl, rfl, hq⟩ := hv
              replace h := h rF_5 hq
              refine gG.eqw (ws' := [oX11 h0 thrown (.ref q_tape) taped (v_number) (v_isTold) (v_name) (v_sortOf) (v_first) (v_second) (v_degree) (v_colours) (v_signBy) (v_own) lines size atF_1 atF_1 sort value fault faultPlace lastFault lastPlace (v_sF) (v_kept) undoable hasImage (v_power) (v_table) (v_marks) (v_row) rowOf areSums isSieved (v_lastOf) blocks (v_inBlock) (v_atQuotient) (v_small) drawn, aI Y q_tape 700 tape]) rfl ?_
              refine g_if_eq (tgt := 165) C dX11_token_150 (by decide) (fun c_5 => ?_) (fun c_5 => ?_)
              · replace h := h.1 c_5
                refine g_aload_n C dX11_token_165 1 rfl ?_
                refine g_dup C dX11_token_166 rfl ?_
                refine g_get C inX11 0 rfl rfl 15 (by decide) wF_X11_95 rfl dX11_token_167 ?_
                refine g_iconst (v := 1) C dX11_token_170 rfl ?_
                refine g_iadd C dX11_token_171 ?_
                refine g_topi (fun atF_3 eatF_3 => ?_)
                replace h := h atF_3 eatF_3
                refine g_put C inX11 tyX11 tyX11_ok nmX11 0 rfl rfl 15 (by decide) wF_X11_95 rfl rfl rfl (Nat.le_of_ble_eq_true rfl) (ws' := [oX11 h0 thrown (.ref q_tape) taped (v_number) (v_isTold) (v_name) (v_sortOf) (v_first) (v_second) (v_degree) (v_colours) (v_signBy) (v_own) lines size atF_3 atF_1 sort value fault faultPlace lastFault lastPlace (v_sF) (v_kept) undoable hasImage (v_power) (v_table) (v_marks) (v_row) rowOf areSums isSieved (v_lastOf) blocks (v_inBlock) (v_atQuotient) (v_small) drawn, aI Y q_tape 700 tape]) rfl dX11_token_172 ?_
                refine g_aload_n C dX11_token_175 1 rfl ?_
                refine g_iload_n C dX11_token_176 0 rfl ?_
                refine g_bipush (v := 59) C dX11_token_177 rfl ?_
                refine g_icmp_ne (tgt := 186) C dX11_token_179 (by decide) (fun c_6 => ?_) (fun c_6 => ?_)
                · replace h := h.1 c_6
                  refine g_iload_n C dX11_token_186 0 rfl ?_
                  refine g_bipush (v := 45) C dX11_token_187 rfl ?_
                  refine g_icmp_ne (tgt := 206) C dX11_token_189 (by decide) (fun c_7 => ?_) (fun c_7 => ?_)
                  · replace h := h.1 c_7
                    refine g_bipush (v := 6) C dX11_token_206 rfl ?_
                    refine g_put C inX11 tyX11 tyX11_ok nmX11 0 rfl rfl 17 (by decide) wF_X11_108 rfl rfl rfl (Nat.le_of_ble_eq_true rfl) (ws' := [oX11 h0 thrown (.ref q_tape) taped (v_number) (v_isTold) (v_name) (v_sortOf) (v_first) (v_second) (v_degree) (v_colours) (v_signBy) (v_own) lines size atF_3 atF_1 6 value fault faultPlace lastFault lastPlace (v_sF) (v_kept) undoable hasImage (v_power) (v_table) (v_marks) (v_row) rowOf areSums isSieved (v_lastOf) blocks (v_inBlock) (v_atQuotient) (v_small) drawn, aI Y q_tape 700 tape]) rfl dX11_token_208 ?_
                    refine g_aload_n C dX11_token_211 1 rfl ?_
                    refine g_get C inX11 0 rfl rfl 17 (by decide) wF_X11_108 rfl dX11_token_212 ?_
                    refine g_iconst (v := 3) C dX11_token_215 rfl ?_
                    refine g_icmp_ne (tgt := 223) C dX11_token_216 (by decide) (fun _ => ?_) (fun c => absurd c (by decide))
                    refine g_aload_n C dX11_token_223 1 rfl ?_
                    refine g_get C inX11 0 rfl rfl 17 (by decide) wF_X11_108 rfl dX11_token_224 ?_
                    refine g_iconst (v := 3) C dX11_token_227 rfl ?_
                    refine g_icmp_ne (tgt := 240) C dX11_token_228 (by decide) (fun _ => ?_) (fun c => absurd c (by decide))
                    exact g_vret C hR (Nat.le_of_ble_eq_true rfl) (Nat.le_of_ble_eq_true rfl) dX11_token_240 ⟨atF_3, atF_1, 6, value, rfl, rfl, h⟩
                  · replace h := h.2 c_7
                    refine g_aload_n C dX11_token_192 1 rfl ?_
                    obtain ⟨P_6, hP, h⟩ := h
                    refine g_callV (As := []) (rest := [.ref h0]) C (mX11_here l D Y h0 thrown q_tape taped v_number v_isTold v_name v_sortOf v_first v_second v_degree v_colours v_signBy v_own lines size atF_3 atF_1 sort value fault faultPlace lastFault lastPlace v_sF v_kept undoable hasImage v_power v_table v_marks v_row rowOf areSums isSieved v_lastOf blocks v_inBlock v_atQuotient v_small drawn tape P_6 hP) dX11_token_193 rfl wM_X11_101 wI_X11_here wV_X11_here wN_X11 wC_X11_here (n := 0) (by decide +kernel) rfl (q0 := 0) rfl rfl ⟨Nat.le_of_ble_eq_true rfl, Nat.le_of_ble_eq_true rfl⟩ ⟨Nat.le_of_ble_eq_true rfl, Nat.le_of_ble_eq_true rfl⟩ (Nat.le_of_ble_eq_true rfl) [0, 1] [] rfl rfl rfl (fun v wc hv => ?_)
                    obtain ⟨rF_6, rfl, rfl, hq⟩ := hv
                    replace h := h rF_6 hq
                    refine gG.eqw (ws' := [oX11 h0 thrown (.ref q_tape) taped (v_number) (v_isTold) (v_name) (v_sortOf) (v_first) (v_second) (v_degree) (v_colours) (v_signBy) (v_own) lines size atF_3 atF_1 sort value fault faultPlace lastFault lastPlace (v_sF) (v_kept) undoable hasImage (v_power) (v_table) (v_marks) (v_row) rowOf areSums isSieved (v_lastOf) blocks (v_inBlock) (v_atQuotient) (v_small) drawn, aI Y q_tape 700 tape]) rfl ?_
                    obtain ⟨P_7, hP, h⟩ := h
                    refine g_callS (As := [.int rF_6]) (rest := [.ref h0]) C (mX11_isDigit l D Y rF_6 P_7 hP) dX11_token_196 rfl wM_X11_124 wS_X11_isDigit wN_X11 wC_X11_isDigit (n := 1) (by decide +kernel) rfl ⟨Nat.le_of_ble_eq_true rfl, Nat.le_of_ble_eq_true rfl⟩ ⟨Nat.le_of_ble_eq_true rfl, Nat.le_of_ble_eq_true rfl⟩ (Nat.le_of_ble_eq_true rfl) [] [0, 1] rfl rfl rfl (fun v wc hv => ?_)
                    obtain ⟨rF_7, rfl, rfl, hq⟩ := hv
                    replace h := h rF_7 hq
                    refine gG.eqw (ws' := [oX11 h0 thrown (.ref q_tape) taped (v_number) (v_isTold) (v_name) (v_sortOf) (v_first) (v_second) (v_degree) (v_colours) (v_signBy) (v_own) lines size atF_3 atF_1 sort value fault faultPlace lastFault lastPlace (v_sF) (v_kept) undoable hasImage (v_power) (v_table) (v_marks) (v_row) rowOf areSums isSieved (v_lastOf) blocks (v_inBlock) (v_atQuotient) (v_small) drawn, aI Y q_tape 700 tape]) rfl ?_
                    refine g_if_eq (tgt := 206) C dX11_token_199 (by decide) (fun c_8 => ?_) (fun c_8 => ?_)
                    · replace h := h.1 c_8
                      refine g_bipush (v := 6) C dX11_token_206 rfl ?_
                      refine g_put C inX11 tyX11 tyX11_ok nmX11 0 rfl rfl 17 (by decide) wF_X11_108 rfl rfl rfl (Nat.le_of_ble_eq_true rfl) (ws' := [oX11 h0 thrown (.ref q_tape) taped (v_number) (v_isTold) (v_name) (v_sortOf) (v_first) (v_second) (v_degree) (v_colours) (v_signBy) (v_own) lines size atF_3 atF_1 6 value fault faultPlace lastFault lastPlace (v_sF) (v_kept) undoable hasImage (v_power) (v_table) (v_marks) (v_row) rowOf areSums isSieved (v_lastOf) blocks (v_inBlock) (v_atQuotient) (v_small) drawn, aI Y q_tape 700 tape]) rfl dX11_token_208 ?_
                      refine g_aload_n C dX11_token_211 1 rfl ?_
                      refine g_get C inX11 0 rfl rfl 17 (by decide) wF_X11_108 rfl dX11_token_212 ?_
                      refine g_iconst (v := 3) C dX11_token_215 rfl ?_
                      refine g_icmp_ne (tgt := 223) C dX11_token_216 (by decide) (fun _ => ?_) (fun c => absurd c (by decide))
                      refine g_aload_n C dX11_token_223 1 rfl ?_
                      refine g_get C inX11 0 rfl rfl 17 (by decide) wF_X11_108 rfl dX11_token_224 ?_
                      refine g_iconst (v := 3) C dX11_token_227 rfl ?_
                      refine g_icmp_ne (tgt := 240) C dX11_token_228 (by decide) (fun _ => ?_) (fun c => absurd c (by decide))
                      exact g_vret C hR (Nat.le_of_ble_eq_true rfl) (Nat.le_of_ble_eq_true rfl) dX11_token_240 ⟨atF_3, atF_1, 6, value, rfl, rfl, h⟩
                    · replace h := h.2 c_8
                      refine g_iconst (v := 3) C dX11_token_202 rfl ?_
                      refine g_goto (tgt := 208) C dX11_token_203 (by decide) ?_
                      refine g_put C inX11 tyX11 tyX11_ok nmX11 0 rfl rfl 17 (by decide) wF_X11_108 rfl rfl rfl (Nat.le_of_ble_eq_true rfl) (ws' := [oX11 h0 thrown (.ref q_tape) taped (v_number) (v_isTold) (v_name) (v_sortOf) (v_first) (v_second) (v_degree) (v_colours) (v_signBy) (v_own) lines size atF_3 atF_1 3 value fault faultPlace lastFault lastPlace (v_sF) (v_kept) undoable hasImage (v_power) (v_table) (v_marks) (v_row) rowOf areSums isSieved (v_lastOf) blocks (v_inBlock) (v_atQuotient) (v_small) drawn, aI Y q_tape 700 tape]) rfl dX11_token_208 ?_
                      refine g_aload_n C dX11_token_211 1 rfl ?_
                      refine g_get C inX11 0 rfl rfl 17 (by decide) wF_X11_108 rfl dX11_token_212 ?_
                      refine g_iconst (v := 3) C dX11_token_215 rfl ?_
                      refine g_icmp_ne (tgt := 223) C dX11_token_216 (by decide) (fun c => absurd (by decide) c) (fun _ => ?_)
                      refine g_aload_n C dX11_token_219 1 rfl ?_
                      obtain ⟨P_8, hP, h⟩ := h
                      refine g_callV (As := []) (rest := []) C (mX11_digits l D Y h0 thrown q_tape taped v_number v_isTold v_name v_sortOf v_first v_second v_degree v_colours v_signBy v_own lines size atF_3 atF_1 3 value fault faultPlace lastFault lastPlace v_sF v_kept undoable hasImage v_power v_table v_marks v_row rowOf areSums isSieved v_lastOf blocks v_inBlock v_atQuotient v_small drawn tape P_8 hP) dX11_token_220 rfl wM_X11_127 wI_X11_digits wV_X11_digits wN_X11 wC_X11_digits (n := 0) (by decide +kernel) rfl (q0 := 0) rfl rfl ⟨Nat.le_of_ble_eq_true rfl, Nat.le_of_ble_eq_true rfl⟩ ⟨Nat.le_of_ble_eq_true rfl, Nat.le_of_ble_eq_true rfl⟩ (Nat.le_of_ble_eq_true rfl) [0, 1] [] rfl rfl rfl (fun v wc hv => ?_)
                      obtain ⟨atF_4, value_1, rfl, rfl, hq⟩ := hv
                      replace h := h atF_4 value_1 hq
                      refine gG.eqw (ws' := [oX11 h0 thrown (.ref q_tape) taped (v_number) (v_isTold) (v_name) (v_sortOf) (v_first) (v_second) (v_degree) (v_colours) (v_signBy) (v_own) lines size atF_4 atF_1 3 value_1 fault faultPlace lastFault lastPlace (v_sF) (v_kept) undoable hasImage (v_power) (v_table) (v_marks) (v_row) rowOf areSums isSieved (v_lastOf) blocks (v_inBlock) (v_atQuotient) (v_small) drawn, aI Y q_tape 700 tape]) rfl ?_
                      refine g_aload_n C dX11_token_223 1 rfl ?_
                      refine g_get C inX11 0 rfl rfl 17 (by decide) wF_X11_108 rfl dX11_token_224 ?_
                      refine g_iconst (v := 3) C dX11_token_227 rfl ?_
                      refine g_icmp_ne (tgt := 240) C dX11_token_228 (by decide) (fun c => absurd (by decide) c) (fun _ => ?_)
                      refine g_aload_n C dX11_token_231 1 rfl ?_
                      refine g_aload_n C dX11_token_232 1 rfl ?_
                      refine g_get C inX11 0 rfl rfl 18 (by decide) wF_X11_118 rfl dX11_token_233 ?_
                      refine g_ineg C dX11_token_236 ?_
                      refine g_topi (fun value_2 evalue_2 => ?_)
                      replace h := h value_2 evalue_2
                      refine g_put C inX11 tyX11 tyX11_ok nmX11 0 rfl rfl 18 (by decide) wF_X11_118 rfl rfl rfl (Nat.le_of_ble_eq_true rfl) (ws' := [oX11 h0 thrown (.ref q_tape) taped (v_number) (v_isTold) (v_name) (v_sortOf) (v_first) (v_second) (v_degree) (v_colours) (v_signBy) (v_own) lines size atF_4 atF_1 3 value_2 fault faultPlace lastFault lastPlace (v_sF) (v_kept) undoable hasImage (v_power) (v_table) (v_marks) (v_row) rowOf areSums isSieved (v_lastOf) blocks (v_inBlock) (v_atQuotient) (v_small) drawn, aI Y q_tape 700 tape]) rfl dX11_token_237 ?_
                      exact g_vret C hR (Nat.le_of_ble_eq_true rfl) (Nat.le_of_ble_eq_true rfl) dX11_token_240 ⟨atF_4, atF_1, 3, value_2, rfl, rfl, h⟩
                · replace h := h.2 c_6
                  refine g_iconst (v := 4) C dX11_token_182 rfl ?_
                  refine g_goto (tgt := 208) C dX11_token_183 (by decide) ?_
                  refine g_put C inX11 tyX11 tyX11_ok nmX11 0 rfl rfl 17 (by decide) wF_X11_108 rfl rfl rfl (Nat.le_of_ble_eq_true rfl) (ws' := [oX11 h0 thrown (.ref q_tape) taped (v_number) (v_isTold) (v_name) (v_sortOf) (v_first) (v_second) (v_degree) (v_colours) (v_signBy) (v_own) lines size atF_3 atF_1 4 value fault faultPlace lastFault lastPlace (v_sF) (v_kept) undoable hasImage (v_power) (v_table) (v_marks) (v_row) rowOf areSums isSieved (v_lastOf) blocks (v_inBlock) (v_atQuotient) (v_small) drawn, aI Y q_tape 700 tape]) rfl dX11_token_208 ?_
                  refine g_aload_n C dX11_token_211 1 rfl ?_
                  refine g_get C inX11 0 rfl rfl 17 (by decide) wF_X11_108 rfl dX11_token_212 ?_
                  refine g_iconst (v := 3) C dX11_token_215 rfl ?_
                  refine g_icmp_ne (tgt := 223) C dX11_token_216 (by decide) (fun _ => ?_) (fun c => absurd c (by decide))
                  refine g_aload_n C dX11_token_223 1 rfl ?_
                  refine g_get C inX11 0 rfl rfl 17 (by decide) wF_X11_108 rfl dX11_token_224 ?_
                  refine g_iconst (v := 3) C dX11_token_227 rfl ?_
                  refine g_icmp_ne (tgt := 240) C dX11_token_228 (by decide) (fun _ => ?_) (fun c => absurd c (by decide))
                  exact g_vret C hR (Nat.le_of_ble_eq_true rfl) (Nat.le_of_ble_eq_true rfl) dX11_token_240 ⟨atF_3, atF_1, 4, value, rfl, rfl, h⟩
              · replace h := h.2 c_5
                refine g_aload_n C dX11_token_153 1 rfl ?_
                refine g_iconst (v := 2) C dX11_token_154 rfl ?_
                refine g_put C inX11 tyX11 tyX11_ok nmX11 0 rfl rfl 17 (by decide) wF_X11_108 rfl rfl rfl (Nat.le_of_ble_eq_true rfl) (ws' := [oX11 h0 thrown (.ref q_tape) taped (v_number) (v_isTold) (v_name) (v_sortOf) (v_first) (v_second) (v_degree) (v_colours) (v_signBy) (v_own) lines size atF_1 atF_1 2 value fault faultPlace lastFault lastPlace (v_sF) (v_kept) undoable hasImage (v_power) (v_table) (v_marks) (v_row) rowOf areSums isSieved (v_lastOf) blocks (v_inBlock) (v_atQuotient) (v_small) drawn, aI Y q_tape 700 tape]) rfl dX11_token_155 ?_
                refine g_aload_n C dX11_token_158 1 rfl ?_
                obtain ⟨P_9, hP, h⟩ := h
                refine g_callV (As := []) (rest := []) C (mX11_digits l D Y h0 thrown q_tape taped v_number v_isTold v_name v_sortOf v_first v_second v_degree v_colours v_signBy v_own lines size atF_1 atF_1 2 value fault faultPlace lastFault lastPlace v_sF v_kept undoable hasImage v_power v_table v_marks v_row rowOf areSums isSieved v_lastOf blocks v_inBlock v_atQuotient v_small drawn tape P_9 hP) dX11_token_159 rfl wM_X11_127 wI_X11_digits wV_X11_digits wN_X11 wC_X11_digits (n := 0) (by decide +kernel) rfl (q0 := 0) rfl rfl ⟨Nat.le_of_ble_eq_true rfl, Nat.le_of_ble_eq_true rfl⟩ ⟨Nat.le_of_ble_eq_true rfl, Nat.le_of_ble_eq_true rfl⟩ (Nat.le_of_ble_eq_true rfl) [0, 1] [] rfl rfl rfl (fun v wc hv => ?_)
                obtain ⟨atF_5, value_3, rfl, rfl, hq⟩ := hv
                replace h := h atF_5 value_3 hq
                refine gG.eqw (ws' := [oX11 h0 thrown (.ref q_tape) taped (v_number) (v_isTold) (v_name) (v_sortOf) (v_first) (v_second) (v_degree) (v_colours) (v_signBy) (v_own) lines size atF_5 atF_1 2 value_3 fault faultPlace lastFault lastPlace (v_sF) (v_kept) undoable hasImage (v_power) (v_table) (v_marks) (v_row) rowOf areSums isSieved (v_lastOf) blocks (v_inBlock) (v_atQuotient) (v_small) drawn, aI Y q_tape 700 tape]) rfl ?_
                refine g_goto (tgt := 240) C dX11_token_162 (by decide) ?_
                exact g_vret C hR (Nat.le_of_ble_eq_true rfl) (Nat.le_of_ble_eq_true rfl) dX11_token_240 ⟨atF_5, atF_1, 2, value_3, rfl, rfl, h⟩
            · replace h := h.2 c_4
              obtain ⟨Inv_2, Mea_2, hI2, hB2⟩ := h
              have key_2 : ∀ (n : Nat) (atF_6 : Int32) , Mea_2 atF_6 < n → Inv_2 atF_6 → gG E 0 0 [oX11 h0 thrown (.ref q_tape) taped (v_number) (v_isTold) (v_name) (v_sortOf) (v_first) (v_second) (v_degree) (v_colours) (v_signBy) (v_own) lines size atF_6 atF_1 sort value fault faultPlace lastFault lastPlace (v_sF) (v_kept) undoable hasImage (v_power) (v_table) (v_marks) (v_row) rowOf areSums isSieved (v_lastOf) blocks (v_inBlock) (v_atQuotient) (v_small) drawn, aI Y q_tape 700 tape] [(0, .ref h0)] [] 64 := by
                intro n
                induction n with
                | zero => exact fun _ hm => absurd hm (Nat.not_lt_zero _)
                | succ n ih2 =>
                  intro atF_6  hm2 hI
                  have h := hB2 atF_6 hI
                  refine g_aload_n C dX11_token_64 0 rfl ?_
                  obtain ⟨P_10, hP, h⟩ := h
                  refine g_callV (As := []) (rest := []) C (mX11_here l D Y h0 thrown q_tape taped v_number v_isTold v_name v_sortOf v_first v_second v_degree v_colours v_signBy v_own lines size atF_6 atF_1 sort value fault faultPlace lastFault lastPlace v_sF v_kept undoable hasImage v_power v_table v_marks v_row rowOf areSums isSieved v_lastOf blocks v_inBlock v_atQuotient v_small drawn tape P_10 hP) dX11_token_65 rfl wM_X11_101 wI_X11_here wV_X11_here wN_X11 wC_X11_here (n := 0) (by decide +kernel) rfl (q0 := 0) rfl rfl ⟨Nat.le_of_ble_eq_true rfl, Nat.le_of_ble_eq_true rfl⟩ ⟨Nat.le_of_ble_eq_true rfl, Nat.le_of_ble_eq_true rfl⟩ (Nat.le_of_ble_eq_true rfl) [0, 1] [] rfl rfl rfl (fun v wc hv => ?_)
                  obtain ⟨rF_8, rfl, rfl, hq⟩ := hv
                  replace h := h rF_8 hq
                  refine gG.eqw (ws' := [oX11 h0 thrown (.ref q_tape) taped (v_number) (v_isTold) (v_name) (v_sortOf) (v_first) (v_second) (v_degree) (v_colours) (v_signBy) (v_own) lines size atF_6 atF_1 sort value fault faultPlace lastFault lastPlace (v_sF) (v_kept) undoable hasImage (v_power) (v_table) (v_marks) (v_row) rowOf areSums isSieved (v_lastOf) blocks (v_inBlock) (v_atQuotient) (v_small) drawn, aI Y q_tape 700 tape]) rfl ?_
                  obtain ⟨P_11, hP, h⟩ := h
                  refine g_callS (As := [.int rF_8]) (rest := []) C (mX11_isSmall l D Y rF_8 P_11 hP) dX11_token_68 rfl wM_X11_111 wS_X11_isSmall wN_X11 wC_X11_isSmall (n := 1) (by decide +kernel) rfl ⟨Nat.le_of_ble_eq_true rfl, Nat.le_of_ble_eq_true rfl⟩ ⟨Nat.le_of_ble_eq_true rfl, Nat.le_of_ble_eq_true rfl⟩ (Nat.le_of_ble_eq_true rfl) [] [0, 1] rfl rfl rfl (fun v wc hv => ?_)
                  obtain ⟨rF_9, rfl, rfl, hq⟩ := hv
                  replace h := h rF_9 hq
                  refine gG.eqw (ws' := [oX11 h0 thrown (.ref q_tape) taped (v_number) (v_isTold) (v_name) (v_sortOf) (v_first) (v_second) (v_degree) (v_colours) (v_signBy) (v_own) lines size atF_6 atF_1 sort value fault faultPlace lastFault lastPlace (v_sF) (v_kept) undoable hasImage (v_power) (v_table) (v_marks) (v_row) rowOf areSums isSieved (v_lastOf) blocks (v_inBlock) (v_atQuotient) (v_small) drawn, aI Y q_tape 700 tape]) rfl ?_
                  refine g_if_eq (tgt := 87) C dX11_token_71 (by decide) (fun c_9 => ?_) (fun c_9 => ?_)
                  · replace h := h.1 c_9
                    refine g_aload_n C dX11_token_87 0 rfl ?_
                    refine g_aload_n C dX11_token_88 0 rfl ?_
                    obtain ⟨P_12, hP, h⟩ := h
                    refine g_callV (As := []) (rest := [.ref h0]) C (mX11_wordHere l D Y h0 thrown q_tape taped v_number v_isTold v_name v_sortOf v_first v_second v_degree v_colours v_signBy v_own lines size atF_6 atF_1 sort value fault faultPlace lastFault lastPlace v_sF v_kept undoable hasImage v_power v_table v_marks v_row rowOf areSums isSieved v_lastOf blocks v_inBlock v_atQuotient v_small drawn tape P_12 hP) dX11_token_89 rfl wM_X11_115 wI_X11_wordHere wV_X11_wordHere wN_X11 wC_X11_wordHere (n := 0) (by decide +kernel) rfl (q0 := 0) rfl rfl ⟨Nat.le_of_ble_eq_true rfl, Nat.le_of_ble_eq_true rfl⟩ ⟨Nat.le_of_ble_eq_true rfl, Nat.le_of_ble_eq_true rfl⟩ (Nat.le_of_ble_eq_true rfl) [0, 1] [] rfl rfl rfl (fun v wc hv => ?_)
                    obtain ⟨rF_10, rfl, rfl, hq⟩ := hv
                    replace h := h rF_10 hq
                    refine gG.eqw (ws' := [oX11 h0 thrown (.ref q_tape) taped (v_number) (v_isTold) (v_name) (v_sortOf) (v_first) (v_second) (v_degree) (v_colours) (v_signBy) (v_own) lines size atF_6 atF_1 sort value fault faultPlace lastFault lastPlace (v_sF) (v_kept) undoable hasImage (v_power) (v_table) (v_marks) (v_row) rowOf areSums isSieved (v_lastOf) blocks (v_inBlock) (v_atQuotient) (v_small) drawn, aI Y q_tape 700 tape]) rfl ?_
                    refine g_put C inX11 tyX11 tyX11_ok nmX11 0 rfl rfl 18 (by decide) wF_X11_118 rfl rfl rfl (Nat.le_of_ble_eq_true rfl) (ws' := [oX11 h0 thrown (.ref q_tape) taped (v_number) (v_isTold) (v_name) (v_sortOf) (v_first) (v_second) (v_degree) (v_colours) (v_signBy) (v_own) lines size atF_6 atF_1 sort rF_10 fault faultPlace lastFault lastPlace (v_sF) (v_kept) undoable hasImage (v_power) (v_table) (v_marks) (v_row) rowOf areSums isSieved (v_lastOf) blocks (v_inBlock) (v_atQuotient) (v_small) drawn, aI Y q_tape 700 tape]) rfl dX11_token_92 ?_
                    refine g_aload_n C dX11_token_95 0 rfl ?_
                    refine g_aload_n C dX11_token_96 0 rfl ?_
                    refine g_get C inX11 0 rfl rfl 18 (by decide) wF_X11_118 rfl dX11_token_97 ?_
                    refine g_iconst (v := (-1)) C dX11_token_100 rfl ?_
                    refine g_icmp_eq (tgt := 108) C dX11_token_101 (by decide) (fun c_10 => ?_) (fun c_10 => ?_)
                    · replace h := h.1 c_10
                      refine g_aload_n C dX11_token_108 0 rfl ?_
                      refine g_get C inX11 0 rfl rfl 15 (by decide) wF_X11_95 rfl dX11_token_109 ?_
                      refine g_aload_n C dX11_token_112 0 rfl ?_
                      refine g_get C inX11 0 rfl rfl 16 (by decide) wF_X11_105 rfl dX11_token_113 ?_
                      refine g_isub C dX11_token_116 ?_
                      refine g_bipush (v := 6) C dX11_token_117 rfl ?_
                      refine g_icmp_le (tgt := 127) C dX11_token_119 (by decide) (fun c_11 => ?_) (fun c_11 => ?_)
                      · replace h := h.1 c_11
                        refine g_iconst (v := 1) C dX11_token_127 rfl ?_
                        refine g_put C inX11 tyX11 tyX11_ok nmX11 0 rfl rfl 17 (by decide) wF_X11_108 rfl rfl rfl (Nat.le_of_ble_eq_true rfl) (ws' := [oX11 h0 thrown (.ref q_tape) taped (v_number) (v_isTold) (v_name) (v_sortOf) (v_first) (v_second) (v_degree) (v_colours) (v_signBy) (v_own) lines size atF_6 atF_1 1 rF_10 fault faultPlace lastFault lastPlace (v_sF) (v_kept) undoable hasImage (v_power) (v_table) (v_marks) (v_row) rowOf areSums isSieved (v_lastOf) blocks (v_inBlock) (v_atQuotient) (v_small) drawn, aI Y q_tape 700 tape]) rfl dX11_token_128 ?_
                        refine g_aload_n C dX11_token_131 0 rfl ?_
                        refine g_get C inX11 0 rfl rfl 17 (by decide) wF_X11_108 rfl dX11_token_132 ?_
                        refine g_iconst (v := 1) C dX11_token_135 rfl ?_
                        refine g_icmp_ne (tgt := 240) C dX11_token_136 (by decide) (fun c => absurd (by decide) c) (fun _ => ?_)
                        refine g_aload_n C dX11_token_139 0 rfl ?_
                        obtain ⟨P_13, hP, h⟩ := h
                        refine g_callV (As := []) (rest := []) C (mX11_nameHere l D Y h0 thrown q_tape taped v_number v_isTold v_name v_sortOf v_first v_second v_degree v_colours v_signBy v_own lines size atF_6 atF_1 1 rF_10 fault faultPlace lastFault lastPlace v_sF v_kept undoable hasImage v_power v_table v_marks v_row rowOf areSums isSieved v_lastOf blocks v_inBlock v_atQuotient v_small drawn tape P_13 hP) dX11_token_140 rfl wM_X11_121 wI_X11_nameHere wV_X11_nameHere wN_X11 wC_X11_nameHere (n := 0) (by decide +kernel) rfl (q0 := 0) rfl rfl ⟨Nat.le_of_ble_eq_true rfl, Nat.le_of_ble_eq_true rfl⟩ ⟨Nat.le_of_ble_eq_true rfl, Nat.le_of_ble_eq_true rfl⟩ (Nat.le_of_ble_eq_true rfl) [0, 1] [] rfl rfl rfl (fun v wc hv => ?_)
                        obtain ⟨value_4, rfl, rfl, hq⟩ := hv
                        replace h := h value_4 hq
                        refine gG.eqw (ws' := [oX11 h0 thrown (.ref q_tape) taped (v_number) (v_isTold) (v_name) (v_sortOf) (v_first) (v_second) (v_degree) (v_colours) (v_signBy) (v_own) lines size atF_6 atF_1 1 value_4 fault faultPlace lastFault lastPlace (v_sF) (v_kept) undoable hasImage (v_power) (v_table) (v_marks) (v_row) rowOf areSums isSieved (v_lastOf) blocks (v_inBlock) (v_atQuotient) (v_small) drawn, aI Y q_tape 700 tape]) rfl ?_
                        refine g_goto (tgt := 240) C dX11_token_143 (by decide) ?_
                        exact g_vret C hR (Nat.le_of_ble_eq_true rfl) (Nat.le_of_ble_eq_true rfl) dX11_token_240 ⟨atF_6, atF_1, 1, value_4, rfl, rfl, h⟩
                      · replace h := h.2 c_11
                        refine g_bipush (v := 6) C dX11_token_122 rfl ?_
                        refine g_goto (tgt := 128) C dX11_token_124 (by decide) ?_
                        refine g_put C inX11 tyX11 tyX11_ok nmX11 0 rfl rfl 17 (by decide) wF_X11_108 rfl rfl rfl (Nat.le_of_ble_eq_true rfl) (ws' := [oX11 h0 thrown (.ref q_tape) taped (v_number) (v_isTold) (v_name) (v_sortOf) (v_first) (v_second) (v_degree) (v_colours) (v_signBy) (v_own) lines size atF_6 atF_1 6 rF_10 fault faultPlace lastFault lastPlace (v_sF) (v_kept) undoable hasImage (v_power) (v_table) (v_marks) (v_row) rowOf areSums isSieved (v_lastOf) blocks (v_inBlock) (v_atQuotient) (v_small) drawn, aI Y q_tape 700 tape]) rfl dX11_token_128 ?_
                        refine g_aload_n C dX11_token_131 0 rfl ?_
                        refine g_get C inX11 0 rfl rfl 17 (by decide) wF_X11_108 rfl dX11_token_132 ?_
                        refine g_iconst (v := 1) C dX11_token_135 rfl ?_
                        refine g_icmp_ne (tgt := 240) C dX11_token_136 (by decide) (fun _ => ?_) (fun c => absurd c (by decide))
                        exact g_vret C hR (Nat.le_of_ble_eq_true rfl) (Nat.le_of_ble_eq_true rfl) dX11_token_240 ⟨atF_6, atF_1, 6, rF_10, rfl, rfl, h⟩
                    · replace h := h.2 c_10
                      refine g_iconst (v := 0) C dX11_token_104 rfl ?_
                      refine g_goto (tgt := 128) C dX11_token_105 (by decide) ?_
                      refine g_put C inX11 tyX11 tyX11_ok nmX11 0 rfl rfl 17 (by decide) wF_X11_108 rfl rfl rfl (Nat.le_of_ble_eq_true rfl) (ws' := [oX11 h0 thrown (.ref q_tape) taped (v_number) (v_isTold) (v_name) (v_sortOf) (v_first) (v_second) (v_degree) (v_colours) (v_signBy) (v_own) lines size atF_6 atF_1 0 rF_10 fault faultPlace lastFault lastPlace (v_sF) (v_kept) undoable hasImage (v_power) (v_table) (v_marks) (v_row) rowOf areSums isSieved (v_lastOf) blocks (v_inBlock) (v_atQuotient) (v_small) drawn, aI Y q_tape 700 tape]) rfl dX11_token_128 ?_
                      refine g_aload_n C dX11_token_131 0 rfl ?_
                      refine g_get C inX11 0 rfl rfl 17 (by decide) wF_X11_108 rfl dX11_token_132 ?_
                      refine g_iconst (v := 1) C dX11_token_135 rfl ?_
                      refine g_icmp_ne (tgt := 240) C dX11_token_136 (by decide) (fun _ => ?_) (fun c => absurd c (by decide))
                      exact g_vret C hR (Nat.le_of_ble_eq_true rfl) (Nat.le_of_ble_eq_true rfl) dX11_token_240 ⟨atF_6, atF_1, 0, rF_10, rfl, rfl, h⟩
                  · replace h := h.2 c_9
                    refine g_aload_n C dX11_token_74 0 rfl ?_
                    refine g_dup C dX11_token_75 rfl ?_
                    refine g_get C inX11 0 rfl rfl 15 (by decide) wF_X11_95 rfl dX11_token_76 ?_
                    refine g_iconst (v := 1) C dX11_token_79 rfl ?_
                    refine g_iadd C dX11_token_80 ?_
                    refine g_topi (fun atF_7 eatF_7 => ?_)
                    replace h := h atF_7 eatF_7
                    refine g_put C inX11 tyX11 tyX11_ok nmX11 0 rfl rfl 15 (by decide) wF_X11_95 rfl rfl rfl (Nat.le_of_ble_eq_true rfl) (ws' := [oX11 h0 thrown (.ref q_tape) taped (v_number) (v_isTold) (v_name) (v_sortOf) (v_first) (v_second) (v_degree) (v_colours) (v_signBy) (v_own) lines size atF_7 atF_1 sort value fault faultPlace lastFault lastPlace (v_sF) (v_kept) undoable hasImage (v_power) (v_table) (v_marks) (v_row) rowOf areSums isSieved (v_lastOf) blocks (v_inBlock) (v_atQuotient) (v_small) drawn, aI Y q_tape 700 tape]) rfl dX11_token_81 ?_
                    refine g_goto (tgt := 64) C dX11_token_84 (by decide) ?_
                    exact ih2 atF_7 (Nat.lt_of_lt_of_le h.2 (Nat.le_of_lt_succ hm2)) h.1
              refine gG.locals (lv' := [(0, .ref h0)]) [1] rfl ?_
              exact key_2 (Mea_2 atF_1 + 1) atF_1 (Nat.lt_succ_self _) hI2
          · replace h := h.2 c_3
            refine g_aload_n C dX11_token_49 1 rfl ?_
            refine g_iconst (v := 5) C dX11_token_50 rfl ?_
            refine g_put C inX11 tyX11 tyX11_ok nmX11 0 rfl rfl 17 (by decide) wF_X11_108 rfl rfl rfl (Nat.le_of_ble_eq_true rfl) (ws' := [oX11 h0 thrown (.ref q_tape) taped (v_number) (v_isTold) (v_name) (v_sortOf) (v_first) (v_second) (v_degree) (v_colours) (v_signBy) (v_own) lines size atF_1 atF_1 5 value fault faultPlace lastFault lastPlace (v_sF) (v_kept) undoable hasImage (v_power) (v_table) (v_marks) (v_row) rowOf areSums isSieved (v_lastOf) blocks (v_inBlock) (v_atQuotient) (v_small) drawn, aI Y q_tape 700 tape]) rfl dX11_token_51 ?_
            refine g_goto (tgt := 240) C dX11_token_54 (by decide) ?_
            exact g_vret C hR (Nat.le_of_ble_eq_true rfl) (Nat.le_of_ble_eq_true rfl) dX11_token_240 ⟨atF_1, atF_1, 5, value, rfl, rfl, h⟩
        · replace h := h.2 c_2
          refine g_aload_n C dX11_token_18 0 rfl ?_
          refine g_dup C dX11_token_19 rfl ?_
          refine g_get C inX11 0 rfl rfl 15 (by decide) wF_X11_95 rfl dX11_token_20 ?_
          refine g_iconst (v := 1) C dX11_token_23 rfl ?_
          refine g_iadd C dX11_token_24 ?_
          refine g_topi (fun atF_8 eatF_8 => ?_)
          replace h := h atF_8 eatF_8
          refine g_put C inX11 tyX11 tyX11_ok nmX11 0 rfl rfl 15 (by decide) wF_X11_95 rfl rfl rfl (Nat.le_of_ble_eq_true rfl) (ws' := [oX11 h0 thrown (.ref q_tape) taped (v_number) (v_isTold) (v_name) (v_sortOf) (v_first) (v_second) (v_degree) (v_colours) (v_signBy) (v_own) lines size atF_8 place sort value fault faultPlace lastFault lastPlace (v_sF) (v_kept) undoable hasImage (v_power) (v_table) (v_marks) (v_row) rowOf areSums isSieved (v_lastOf) blocks (v_inBlock) (v_atQuotient) (v_small) drawn, aI Y q_tape 700 tape]) rfl dX11_token_25 ?_
          refine g_goto (tgt := 0) C dX11_token_28 (by decide) ?_
          exact ih1 atF_8 (Nat.lt_of_lt_of_le h.2 (Nat.le_of_lt_succ hm1)) h.1
  exact key_1 (Mea_1 atF + 1) atF (Nat.lt_succ_self _) hI1
theorem dX11_wrong_0 : decode cX11_wrong 0 = .ok (.aload_n 0, 1) := by decide +kernel
theorem dX11_wrong_1 : decode cX11_wrong 1 = .ok (.getfield 142, 3) := by decide +kernel
theorem dX11_wrong_4 : decode cX11_wrong 4 = .ok (.ifCond .eq 4, 3) := by decide +kernel
theorem dX11_wrong_7 : decode cX11_wrong 7 = .ok (.return_, 1) := by decide +kernel
theorem dX11_wrong_8 : decode cX11_wrong 8 = .ok (.aload_n 0, 1) := by decide +kernel
theorem dX11_wrong_9 : decode cX11_wrong 9 = .ok (.iload_n 1, 1) := by decide +kernel
theorem dX11_wrong_10 : decode cX11_wrong 10 = .ok (.putfield 142, 3) := by decide +kernel
theorem dX11_wrong_13 : decode cX11_wrong 13 = .ok (.aload_n 0, 1) := by decide +kernel
theorem dX11_wrong_14 : decode cX11_wrong 14 = .ok (.aload_n 0, 1) := by decide +kernel
theorem dX11_wrong_15 : decode cX11_wrong 15 = .ok (.getfield 105, 3) := by decide +kernel
theorem dX11_wrong_18 : decode cX11_wrong 18 = .ok (.putfield 145, 3) := by decide +kernel
theorem dX11_wrong_21 : decode cX11_wrong 21 = .ok (.return_, 1) := by decide +kernel
/-- QuotientSumsModel.wrong(I)V -/
def wX11_wrong (thrown : Int32) (taped : Int32) (lines : Int32) (size : Int32) (atF : Int32) (place : Int32) (sort : Int32) (value : Int32) (fault : Int32) (faultPlace : Int32) (lastFault : Int32) (lastPlace : Int32) (undoable : Int32) (hasImage : Int32) (rowOf : Int32) (areSums : Int32) (isSieved : Int32) (blocks : Int32) (drawn : Int32) (a1 : Int32) (Q : (Int32) → (Int32) → Prop) : Prop :=
  ((fault = 0 → (Q a1 place)) ∧ (¬ fault = 0 → (Q fault faultPlace)))
set_option maxHeartbeats 4000000 in
set_option maxRecDepth 100000 in
theorem mX11_wrong (l : Launch) (D : va_G) (Y : Nat → ClassId) (h0 : Nat) (thrown : Int32) (v_tape : Value) (taped : Int32) (v_number : Value) (v_isTold : Value) (v_name : Value) (v_sortOf : Value) (v_first : Value) (v_second : Value) (v_degree : Value) (v_colours : Value) (v_signBy : Value) (v_own : Value) (lines : Int32) (size : Int32) (atF : Int32) (place : Int32) (sort : Int32) (value : Int32) (fault : Int32) (faultPlace : Int32) (lastFault : Int32) (lastPlace : Int32) (v_sF : Value) (v_kept : Value) (undoable : Int32) (hasImage : Int32) (v_power : Value) (v_table : Value) (v_marks : Value) (v_row : Value) (rowOf : Int32) (areSums : Int32) (isSieved : Int32) (v_lastOf : Value) (blocks : Int32) (v_inBlock : Value) (v_atQuotient : Value) (v_small : Value) (drawn : Int32) (a1 : Int32) (Q : (Int32) → (Int32) → Prop) (h : wX11_wrong thrown taped lines size atF place sort value fault faultPlace lastFault lastPlace undoable hasImage rowOf areSums isSieved blocks drawn a1 Q) : gM l D Y yX11_wrong cX11_wrong 2 none 0 0 0 0 [.ref h0, .int a1] [oX11 h0 thrown (v_tape) taped (v_number) (v_isTold) (v_name) (v_sortOf) (v_first) (v_second) (v_degree) (v_colours) (v_signBy) (v_own) lines size atF place sort value fault faultPlace lastFault lastPlace (v_sF) (v_kept) undoable hasImage (v_power) (v_table) (v_marks) (v_row) rowOf areSums isSieved (v_lastOf) blocks (v_inBlock) (v_atQuotient) (v_small) drawn] (fun v w => ∃ fault' : Int32, ∃ faultPlace' : Int32, v = none ∧ w = [oX11 h0 thrown (v_tape) taped (v_number) (v_isTold) (v_name) (v_sortOf) (v_first) (v_second) (v_degree) (v_colours) (v_signBy) (v_own) lines size atF place sort value fault' faultPlace' lastFault lastPlace (v_sF) (v_kept) undoable hasImage (v_power) (v_table) (v_marks) (v_row) rowOf areSums isSieved (v_lastOf) blocks (v_inBlock) (v_atQuotient) (v_small) drawn] ∧ Q fault' faultPlace') := by
  refine gM_of (own := RX11) (by decide +kernel) rfl (Nat.le_of_ble_eq_true rfl) rfl (fun E C hR => ?_)
  unfold wX11_wrong at h
  refine g_aload_n C dX11_wrong_0 0 rfl ?_
  refine g_get C inX11 0 rfl rfl 19 (by decide) wF_X11_142 rfl dX11_wrong_1 ?_
  refine g_if_eq (tgt := 8) C dX11_wrong_4 (by decide) (fun c_1 => ?_) (fun c_1 => ?_)
  · replace h := h.1 c_1
    refine g_aload_n C dX11_wrong_8 0 rfl ?_
    refine g_iload_n C dX11_wrong_9 1 rfl ?_
    refine g_put C inX11 tyX11 tyX11_ok nmX11 0 rfl rfl 19 (by decide) wF_X11_142 rfl rfl rfl (Nat.le_of_ble_eq_true rfl) (ws' := [oX11 h0 thrown (v_tape) taped (v_number) (v_isTold) (v_name) (v_sortOf) (v_first) (v_second) (v_degree) (v_colours) (v_signBy) (v_own) lines size atF place sort value a1 faultPlace lastFault lastPlace (v_sF) (v_kept) undoable hasImage (v_power) (v_table) (v_marks) (v_row) rowOf areSums isSieved (v_lastOf) blocks (v_inBlock) (v_atQuotient) (v_small) drawn]) rfl dX11_wrong_10 ?_
    refine g_aload_n C dX11_wrong_13 0 rfl ?_
    refine g_aload_n C dX11_wrong_14 0 rfl ?_
    refine g_get C inX11 0 rfl rfl 16 (by decide) wF_X11_105 rfl dX11_wrong_15 ?_
    refine g_put C inX11 tyX11 tyX11_ok nmX11 0 rfl rfl 20 (by decide) wF_X11_145 rfl rfl rfl (Nat.le_of_ble_eq_true rfl) (ws' := [oX11 h0 thrown (v_tape) taped (v_number) (v_isTold) (v_name) (v_sortOf) (v_first) (v_second) (v_degree) (v_colours) (v_signBy) (v_own) lines size atF place sort value a1 place lastFault lastPlace (v_sF) (v_kept) undoable hasImage (v_power) (v_table) (v_marks) (v_row) rowOf areSums isSieved (v_lastOf) blocks (v_inBlock) (v_atQuotient) (v_small) drawn]) rfl dX11_wrong_18 ?_
    exact g_vret C hR (Nat.le_of_ble_eq_true rfl) (Nat.le_of_ble_eq_true rfl) dX11_wrong_21 ⟨a1, place, rfl, rfl, h⟩
  · replace h := h.2 c_1
    exact g_vret C hR (Nat.le_of_ble_eq_true rfl) (Nat.le_of_ble_eq_true rfl) dX11_wrong_7 ⟨fault, faultPlace, rfl, rfl, h⟩
theorem dX11_goOn_0 : decode cX11_goOn 0 = .ok (.aload_n 0, 1) := by decide +kernel
theorem dX11_goOn_1 : decode cX11_goOn 1 = .ok (.getfield 142, 3) := by decide +kernel
theorem dX11_goOn_4 : decode cX11_goOn 4 = .ok (.ifCond .ne 7, 3) := by decide +kernel
theorem dX11_goOn_7 : decode cX11_goOn 7 = .ok (.aload_n 0, 1) := by decide +kernel
theorem dX11_goOn_8 : decode cX11_goOn 8 = .ok (.invokevirtual 148, 3) := by decide +kernel
theorem dX11_goOn_11 : decode cX11_goOn 11 = .ok (.return_, 1) := by decide +kernel
/-- QuotientSumsModel.goOn()V -/
def wX11_goOn (thrown : Int32) (taped : Int32) (lines : Int32) (size : Int32) (atF : Int32) (place : Int32) (sort : Int32) (value : Int32) (fault : Int32) (faultPlace : Int32) (lastFault : Int32) (lastPlace : Int32) (undoable : Int32) (hasImage : Int32) (rowOf : Int32) (areSums : Int32) (isSieved : Int32) (blocks : Int32) (drawn : Int32) (tape : Nat → Int32)  (Q : (Int32) → (Int32) → (Int32) → (Int32) → Prop) : Prop :=
  ((¬ fault = 0 → (Q atF place sort value)) ∧ (fault = 0 → (∃ (P_1 : (Int32) → (Int32) → (Int32) → (Int32) → Prop), wX11_token thrown taped lines size atF place sort value fault faultPlace lastFault lastPlace undoable hasImage rowOf areSums isSieved blocks drawn tape P_1 ∧ ∀ (atF_1 : Int32) (place_1 : Int32) (sort_1 : Int32) (value_1 : Int32), P_1 atF_1 place_1 sort_1 value_1 → (Q atF_1 place_1 sort_1 value_1))))
set_option maxHeartbeats 4000000 in
set_option maxRecDepth 100000 in
theorem mX11_goOn (l : Launch) (D : va_G) (Y : Nat → ClassId) (h0 : Nat) (thrown : Int32) (q_tape : Nat) (taped : Int32) (v_number : Value) (v_isTold : Value) (v_name : Value) (v_sortOf : Value) (v_first : Value) (v_second : Value) (v_degree : Value) (v_colours : Value) (v_signBy : Value) (v_own : Value) (lines : Int32) (size : Int32) (atF : Int32) (place : Int32) (sort : Int32) (value : Int32) (fault : Int32) (faultPlace : Int32) (lastFault : Int32) (lastPlace : Int32) (v_sF : Value) (v_kept : Value) (undoable : Int32) (hasImage : Int32) (v_power : Value) (v_table : Value) (v_marks : Value) (v_row : Value) (rowOf : Int32) (areSums : Int32) (isSieved : Int32) (v_lastOf : Value) (blocks : Int32) (v_inBlock : Value) (v_atQuotient : Value) (v_small : Value) (drawn : Int32) (tape : Nat → Int32)  (Q : (Int32) → (Int32) → (Int32) → (Int32) → Prop) (h : wX11_goOn thrown taped lines size atF place sort value fault faultPlace lastFault lastPlace undoable hasImage rowOf areSums isSieved blocks drawn tape Q) : gM l D Y yX11_goOn cX11_goOn 1 none 6 129 0 0 [.ref h0] [oX11 h0 thrown (.ref q_tape) taped (v_number) (v_isTold) (v_name) (v_sortOf) (v_first) (v_second) (v_degree) (v_colours) (v_signBy) (v_own) lines size atF place sort value fault faultPlace lastFault lastPlace (v_sF) (v_kept) undoable hasImage (v_power) (v_table) (v_marks) (v_row) rowOf areSums isSieved (v_lastOf) blocks (v_inBlock) (v_atQuotient) (v_small) drawn, aI Y q_tape 700 tape] (fun v w => ∃ atF' : Int32, ∃ place' : Int32, ∃ sort' : Int32, ∃ value' : Int32, v = none ∧ w = [oX11 h0 thrown (.ref q_tape) taped (v_number) (v_isTold) (v_name) (v_sortOf) (v_first) (v_second) (v_degree) (v_colours) (v_signBy) (v_own) lines size atF' place' sort' value' fault faultPlace lastFault lastPlace (v_sF) (v_kept) undoable hasImage (v_power) (v_table) (v_marks) (v_row) rowOf areSums isSieved (v_lastOf) blocks (v_inBlock) (v_atQuotient) (v_small) drawn, aI Y q_tape 700 tape] ∧ Q atF' place' sort' value') := by
  refine gM_of (own := RX11) (by decide +kernel) rfl (Nat.le_of_ble_eq_true rfl) rfl (fun E C hR => ?_)
  unfold wX11_goOn at h
  refine g_aload_n C dX11_goOn_0 0 rfl ?_
  refine g_get C inX11 0 rfl rfl 19 (by decide) wF_X11_142 rfl dX11_goOn_1 ?_
  refine g_if_ne (tgt := 11) C dX11_goOn_4 (by decide) (fun c_1 => ?_) (fun c_1 => ?_)
  · replace h := h.1 c_1
    exact g_vret C hR (Nat.le_of_ble_eq_true rfl) (Nat.le_of_ble_eq_true rfl) dX11_goOn_11 ⟨atF, place, sort, value, rfl, rfl, h⟩
  · replace h := h.2 c_1
    refine g_aload_n C dX11_goOn_7 0 rfl ?_
    obtain ⟨P_1, hP, h⟩ := h
    refine g_callV (As := []) (rest := []) C (mX11_token l D Y h0 thrown q_tape taped v_number v_isTold v_name v_sortOf v_first v_second v_degree v_colours v_signBy v_own lines size atF place sort value fault faultPlace lastFault lastPlace v_sF v_kept undoable hasImage v_power v_table v_marks v_row rowOf areSums isSieved v_lastOf blocks v_inBlock v_atQuotient v_small drawn tape P_1 hP) dX11_goOn_8 rfl wM_X11_148 wI_X11_token wV_X11_token wN_X11 wC_X11_token (n := 0) (by decide +kernel) rfl (q0 := 0) rfl rfl ⟨Nat.le_of_ble_eq_true rfl, Nat.le_of_ble_eq_true rfl⟩ ⟨Nat.le_of_ble_eq_true rfl, Nat.le_of_ble_eq_true rfl⟩ (Nat.le_of_ble_eq_true rfl) [0, 1] [] rfl rfl rfl (fun v wc hv => ?_)
    obtain ⟨atF_1, place_1, sort_1, value_1, rfl, rfl, hq⟩ := hv
    replace h := h atF_1 place_1 sort_1 value_1 hq
    refine gG.eqw (ws' := [oX11 h0 thrown (.ref q_tape) taped (v_number) (v_isTold) (v_name) (v_sortOf) (v_first) (v_second) (v_degree) (v_colours) (v_signBy) (v_own) lines size atF_1 place_1 sort_1 value_1 fault faultPlace lastFault lastPlace (v_sF) (v_kept) undoable hasImage (v_power) (v_table) (v_marks) (v_row) rowOf areSums isSieved (v_lastOf) blocks (v_inBlock) (v_atQuotient) (v_small) drawn, aI Y q_tape 700 tape]) rfl ?_
    exact g_vret C hR (Nat.le_of_ble_eq_true rfl) (Nat.le_of_ble_eq_true rfl) dX11_goOn_11 ⟨atF_1, place_1, sort_1, value_1, rfl, rfl, h⟩
theorem dX11_numeralOf_0 : decode cX11_numeralOf 0 = .ok (.aload_n 0, 1) := by decide +kernel
theorem dX11_numeralOf_1 : decode cX11_numeralOf 1 = .ok (.getfield 142, 3) := by decide +kernel
theorem dX11_numeralOf_4 : decode cX11_numeralOf 4 = .ok (.ifCond .eq 5, 3) := by decide +kernel
theorem dX11_numeralOf_7 : decode cX11_numeralOf 7 = .ok (.iload_n 2, 1) := by decide +kernel
theorem dX11_numeralOf_8 : decode cX11_numeralOf 8 = .ok (.ireturn, 1) := by decide +kernel
theorem dX11_numeralOf_9 : decode cX11_numeralOf 9 = .ok (.aload_n 0, 1) := by decide +kernel
theorem dX11_numeralOf_10 : decode cX11_numeralOf 10 = .ok (.getfield 108, 3) := by decide +kernel
theorem dX11_numeralOf_13 : decode cX11_numeralOf 13 = .ok (.iconst 2, 1) := by decide +kernel
theorem dX11_numeralOf_14 : decode cX11_numeralOf 14 = .ok (.if_icmp .eq 23, 3) := by decide +kernel
theorem dX11_numeralOf_17 : decode cX11_numeralOf 17 = .ok (.iload_n 1, 1) := by decide +kernel
theorem dX11_numeralOf_18 : decode cX11_numeralOf 18 = .ok (.ifCond .eq 11, 3) := by decide +kernel
theorem dX11_numeralOf_21 : decode cX11_numeralOf 21 = .ok (.aload_n 0, 1) := by decide +kernel
theorem dX11_numeralOf_22 : decode cX11_numeralOf 22 = .ok (.getfield 108, 3) := by decide +kernel
theorem dX11_numeralOf_25 : decode cX11_numeralOf 25 = .ok (.iconst 3, 1) := by decide +kernel
theorem dX11_numeralOf_26 : decode cX11_numeralOf 26 = .ok (.if_icmp .eq 11, 3) := by decide +kernel
theorem dX11_numeralOf_29 : decode cX11_numeralOf 29 = .ok (.aload_n 0, 1) := by decide +kernel
theorem dX11_numeralOf_30 : decode cX11_numeralOf 30 = .ok (.iconst 1, 1) := by decide +kernel
theorem dX11_numeralOf_31 : decode cX11_numeralOf 31 = .ok (.invokevirtual 151, 3) := by decide +kernel
theorem dX11_numeralOf_34 : decode cX11_numeralOf 34 = .ok (.goto 24, 3) := by decide +kernel
theorem dX11_numeralOf_37 : decode cX11_numeralOf 37 = .ok (.aload_n 0, 1) := by decide +kernel
theorem dX11_numeralOf_38 : decode cX11_numeralOf 38 = .ok (.getfield 118, 3) := by decide +kernel
theorem dX11_numeralOf_41 : decode cX11_numeralOf 41 = .ok (.iload_n 2, 1) := by decide +kernel
theorem dX11_numeralOf_42 : decode cX11_numeralOf 42 = .ok (.if_icmp .lt 11, 3) := by decide +kernel
theorem dX11_numeralOf_45 : decode cX11_numeralOf 45 = .ok (.aload_n 0, 1) := by decide +kernel
theorem dX11_numeralOf_46 : decode cX11_numeralOf 46 = .ok (.getfield 118, 3) := by decide +kernel
theorem dX11_numeralOf_49 : decode cX11_numeralOf 49 = .ok (.iload_n 3, 1) := by decide +kernel
theorem dX11_numeralOf_50 : decode cX11_numeralOf 50 = .ok (.if_icmp .le 8, 3) := by decide +kernel
theorem dX11_numeralOf_53 : decode cX11_numeralOf 53 = .ok (.aload_n 0, 1) := by decide +kernel
theorem dX11_numeralOf_54 : decode cX11_numeralOf 54 = .ok (.iconst 2, 1) := by decide +kernel
theorem dX11_numeralOf_55 : decode cX11_numeralOf 55 = .ok (.invokevirtual 151, 3) := by decide +kernel
theorem dX11_numeralOf_58 : decode cX11_numeralOf 58 = .ok (.aload_n 0, 1) := by decide +kernel
theorem dX11_numeralOf_59 : decode cX11_numeralOf 59 = .ok (.getfield 142, 3) := by decide +kernel
theorem dX11_numeralOf_62 : decode cX11_numeralOf 62 = .ok (.ifCond .ne 10, 3) := by decide +kernel
theorem dX11_numeralOf_65 : decode cX11_numeralOf 65 = .ok (.aload_n 0, 1) := by decide +kernel
theorem dX11_numeralOf_66 : decode cX11_numeralOf 66 = .ok (.getfield 118, 3) := by decide +kernel
theorem dX11_numeralOf_69 : decode cX11_numeralOf 69 = .ok (.goto 4, 3) := by decide +kernel
theorem dX11_numeralOf_72 : decode cX11_numeralOf 72 = .ok (.iload_n 2, 1) := by decide +kernel
theorem dX11_numeralOf_73 : decode cX11_numeralOf 73 = .ok (.istore 4, 2) := by decide +kernel
theorem dX11_numeralOf_75 : decode cX11_numeralOf 75 = .ok (.aload_n 0, 1) := by decide +kernel
theorem dX11_numeralOf_76 : decode cX11_numeralOf 76 = .ok (.invokevirtual 155, 3) := by decide +kernel
theorem dX11_numeralOf_79 : decode cX11_numeralOf 79 = .ok (.iload 4, 2) := by decide +kernel
theorem dX11_numeralOf_81 : decode cX11_numeralOf 81 = .ok (.ireturn, 1) := by decide +kernel
/-- QuotientSumsModel.numeralOf(ZII)I -/
def wX11_numeralOf (thrown : Int32) (taped : Int32) (lines : Int32) (size : Int32) (atF : Int32) (place : Int32) (sort : Int32) (value : Int32) (fault : Int32) (faultPlace : Int32) (lastFault : Int32) (lastPlace : Int32) (undoable : Int32) (hasImage : Int32) (rowOf : Int32) (areSums : Int32) (isSieved : Int32) (blocks : Int32) (drawn : Int32) (tape : Nat → Int32) (a1 : Int32) (a2 : Int32) (a3 : Int32) (Q : (Int32) → (Int32) → (Int32) → (Int32) → (Int32) → (Int32) → (Int32) → Prop) : Prop :=
  ((fault = 0 → (∃ (J_1 : Prop), ((sort = 2 → (J_1)) ∧ (¬ sort = 2 → (∃ (J_3 : Prop), ((a1 = 0 → (J_3)) ∧ (¬ a1 = 0 → ((sort = 3 → (J_1)) ∧ (¬ sort = 3 → (J_3))))) ∧ (J_3 → (∃ (P_6 : (Int32) → (Int32) → Prop), wX11_wrong thrown taped lines size atF place sort value fault faultPlace lastFault lastPlace undoable hasImage rowOf areSums isSieved blocks drawn 1 P_6 ∧ ∀ (fault_2 : Int32) (faultPlace_2 : Int32), P_6 fault_2 faultPlace_2 → ((¬ fault_2 = 0 → (∃ (P_7 : (Int32) → (Int32) → (Int32) → (Int32) → Prop), wX11_goOn thrown taped lines size atF place sort value fault_2 faultPlace_2 lastFault lastPlace undoable hasImage rowOf areSums isSieved blocks drawn tape P_7 ∧ ∀ (atF_5 : Int32) (place_5 : Int32) (sort_5 : Int32) (value_5 : Int32), P_7 atF_5 place_5 sort_5 value_5 → (Q a2 atF_5 place_5 sort_5 value_5 fault_2 faultPlace_2))) ∧ (fault_2 = 0 → (∃ (P_8 : (Int32) → (Int32) → (Int32) → (Int32) → Prop), wX11_goOn thrown taped lines size atF place sort value fault_2 faultPlace_2 lastFault lastPlace undoable hasImage rowOf areSums isSieved blocks drawn tape P_8 ∧ ∀ (atF_6 : Int32) (place_6 : Int32) (sort_6 : Int32) (value_6 : Int32), P_8 atF_6 place_6 sort_6 value_6 → (Q value atF_6 place_6 sort_6 value_6 fault_2 faultPlace_2))))))))) ∧ (J_1 → (∃ (J_2 : Prop), ((value < a2 → (J_2)) ∧ (¬ value < a2 → ((value ≤ a3 → ((¬ fault = 0 → (∃ (P_4 : (Int32) → (Int32) → (Int32) → (Int32) → Prop), wX11_goOn thrown taped lines size atF place sort value fault faultPlace lastFault lastPlace undoable hasImage rowOf areSums isSieved blocks drawn tape P_4 ∧ ∀ (atF_3 : Int32) (place_3 : Int32) (sort_3 : Int32) (value_3 : Int32), P_4 atF_3 place_3 sort_3 value_3 → (Q a2 atF_3 place_3 sort_3 value_3 fault faultPlace))) ∧ (fault = 0 → (∃ (P_5 : (Int32) → (Int32) → (Int32) → (Int32) → Prop), wX11_goOn thrown taped lines size atF place sort value fault faultPlace lastFault lastPlace undoable hasImage rowOf areSums isSieved blocks drawn tape P_5 ∧ ∀ (atF_4 : Int32) (place_4 : Int32) (sort_4 : Int32) (value_4 : Int32), P_5 atF_4 place_4 sort_4 value_4 → (Q value atF_4 place_4 sort_4 value_4 fault faultPlace))))) ∧ (¬ value ≤ a3 → (J_2))))) ∧ (J_2 → (∃ (P_1 : (Int32) → (Int32) → Prop), wX11_wrong thrown taped lines size atF place sort value fault faultPlace lastFault lastPlace undoable hasImage rowOf areSums isSieved blocks drawn 2 P_1 ∧ ∀ (fault_1 : Int32) (faultPlace_1 : Int32), P_1 fault_1 faultPlace_1 → ((¬ fault_1 = 0 → (∃ (P_2 : (Int32) → (Int32) → (Int32) → (Int32) → Prop), wX11_goOn thrown taped lines size atF place sort value fault_1 faultPlace_1 lastFault lastPlace undoable hasImage rowOf areSums isSieved blocks drawn tape P_2 ∧ ∀ (atF_1 : Int32) (place_1 : Int32) (sort_1 : Int32) (value_1 : Int32), P_2 atF_1 place_1 sort_1 value_1 → (Q a2 atF_1 place_1 sort_1 value_1 fault_1 faultPlace_1))) ∧ (fault_1 = 0 → (∃ (P_3 : (Int32) → (Int32) → (Int32) → (Int32) → Prop), wX11_goOn thrown taped lines size atF place sort value fault_1 faultPlace_1 lastFault lastPlace undoable hasImage rowOf areSums isSieved blocks drawn tape P_3 ∧ ∀ (atF_2 : Int32) (place_2 : Int32) (sort_2 : Int32) (value_2 : Int32), P_3 atF_2 place_2 sort_2 value_2 → (Q value atF_2 place_2 sort_2 value_2 fault_1 faultPlace_1)))))))))) ∧ (¬ fault = 0 → (Q a2 atF place sort value fault faultPlace)))
set_option maxHeartbeats 4000000 in
set_option maxRecDepth 100000 in
theorem mX11_numeralOf (l : Launch) (D : va_G) (Y : Nat → ClassId) (h0 : Nat) (thrown : Int32) (q_tape : Nat) (taped : Int32) (v_number : Value) (v_isTold : Value) (v_name : Value) (v_sortOf : Value) (v_first : Value) (v_second : Value) (v_degree : Value) (v_colours : Value) (v_signBy : Value) (v_own : Value) (lines : Int32) (size : Int32) (atF : Int32) (place : Int32) (sort : Int32) (value : Int32) (fault : Int32) (faultPlace : Int32) (lastFault : Int32) (lastPlace : Int32) (v_sF : Value) (v_kept : Value) (undoable : Int32) (hasImage : Int32) (v_power : Value) (v_table : Value) (v_marks : Value) (v_row : Value) (rowOf : Int32) (areSums : Int32) (isSieved : Int32) (v_lastOf : Value) (blocks : Int32) (v_inBlock : Value) (v_atQuotient : Value) (v_small : Value) (drawn : Int32) (tape : Nat → Int32) (a1 : Int32) (a2 : Int32) (a3 : Int32) (Q : (Int32) → (Int32) → (Int32) → (Int32) → (Int32) → (Int32) → (Int32) → Prop) (h : wX11_numeralOf thrown taped lines size atF place sort value fault faultPlace lastFault lastPlace undoable hasImage rowOf areSums isSieved blocks drawn tape a1 a2 a3 Q) : gM l D Y yX11_numeralOf cX11_numeralOf 5 (some .int) 7 149 0 0 [.ref h0, .int a1, .int a2, .int a3] [oX11 h0 thrown (.ref q_tape) taped (v_number) (v_isTold) (v_name) (v_sortOf) (v_first) (v_second) (v_degree) (v_colours) (v_signBy) (v_own) lines size atF place sort value fault faultPlace lastFault lastPlace (v_sF) (v_kept) undoable hasImage (v_power) (v_table) (v_marks) (v_row) rowOf areSums isSieved (v_lastOf) blocks (v_inBlock) (v_atQuotient) (v_small) drawn, aI Y q_tape 700 tape] (fun v w => ∃ r : Int32, ∃ atF' : Int32, ∃ place' : Int32, ∃ sort' : Int32, ∃ value' : Int32, ∃ fault' : Int32, ∃ faultPlace' : Int32, v = some (.int r) ∧ w = [oX11 h0 thrown (.ref q_tape) taped (v_number) (v_isTold) (v_name) (v_sortOf) (v_first) (v_second) (v_degree) (v_colours) (v_signBy) (v_own) lines size atF' place' sort' value' fault' faultPlace' lastFault lastPlace (v_sF) (v_kept) undoable hasImage (v_power) (v_table) (v_marks) (v_row) rowOf areSums isSieved (v_lastOf) blocks (v_inBlock) (v_atQuotient) (v_small) drawn, aI Y q_tape 700 tape] ∧ Q r atF' place' sort' value' fault' faultPlace') := by
  refine gM_of (own := RX11) (by decide +kernel) rfl (Nat.le_of_ble_eq_true rfl) rfl (fun E C hR => ?_)
  unfold wX11_numeralOf at h
  refine g_aload_n C dX11_numeralOf_0 0 rfl ?_
  refine g_get C inX11 0 rfl rfl 19 (by decide) wF_X11_142 rfl dX11_numeralOf_1 ?_
  refine g_if_eq (tgt := 9) C dX11_numeralOf_4 (by decide) (fun c_1 => ?_) (fun c_1 => ?_)
  · replace h := h.1 c_1
    refine g_aload_n C dX11_numeralOf_9 0 rfl ?_
    refine g_get C inX11 0 rfl rfl 17 (by decide) wF_X11_108 rfl dX11_numeralOf_10 ?_
    refine g_iconst (v := 2) C dX11_numeralOf_13 rfl ?_
    obtain ⟨J_1, hA, hB_J_1⟩ := h
    have key_1 : J_1 → gG E 0 0 [oX11 h0 thrown (.ref q_tape) taped (v_number) (v_isTold) (v_name) (v_sortOf) (v_first) (v_second) (v_degree) (v_colours) (v_signBy) (v_own) lines size atF place sort value fault faultPlace lastFault lastPlace (v_sF) (v_kept) undoable hasImage (v_power) (v_table) (v_marks) (v_row) rowOf areSums isSieved (v_lastOf) blocks (v_inBlock) (v_atQuotient) (v_small) drawn, aI Y q_tape 700 tape] [(0, .ref h0), (2, .int a2), (3, .int a3)] [] 37 := by
      intro  hJ
      have h := hB_J_1  hJ
      refine g_aload_n C dX11_numeralOf_37 0 rfl ?_
      refine g_get C inX11 0 rfl rfl 18 (by decide) wF_X11_118 rfl dX11_numeralOf_38 ?_
      refine g_iload_n C dX11_numeralOf_41 1 rfl ?_
      obtain ⟨J_2, hA, hB_J_2⟩ := h
      have key_2 : J_2 → gG E 0 0 [oX11 h0 thrown (.ref q_tape) taped (v_number) (v_isTold) (v_name) (v_sortOf) (v_first) (v_second) (v_degree) (v_colours) (v_signBy) (v_own) lines size atF place sort value fault faultPlace lastFault lastPlace (v_sF) (v_kept) undoable hasImage (v_power) (v_table) (v_marks) (v_row) rowOf areSums isSieved (v_lastOf) blocks (v_inBlock) (v_atQuotient) (v_small) drawn, aI Y q_tape 700 tape] [(0, .ref h0), (2, .int a2)] [] 53 := by
        intro  hJ
        have h := hB_J_2  hJ
        refine g_aload_n C dX11_numeralOf_53 0 rfl ?_
        refine g_iconst (v := 2) C dX11_numeralOf_54 rfl ?_
        obtain ⟨P_1, hP, h⟩ := h
        refine g_callV (As := [.int 2]) (rest := []) C (mX11_wrong l D Y h0 thrown (.ref q_tape) taped v_number v_isTold v_name v_sortOf v_first v_second v_degree v_colours v_signBy v_own lines size atF place sort value fault faultPlace lastFault lastPlace v_sF v_kept undoable hasImage v_power v_table v_marks v_row rowOf areSums isSieved v_lastOf blocks v_inBlock v_atQuotient v_small drawn 2 P_1 hP) dX11_numeralOf_55 rfl wM_X11_151 wI_X11_wrong wV_X11_wrong wN_X11 wC_X11_wrong (n := 1) (by decide +kernel) rfl (q0 := 0) rfl rfl ⟨Nat.le_of_ble_eq_true rfl, Nat.le_of_ble_eq_true rfl⟩ ⟨Nat.le_of_ble_eq_true rfl, Nat.le_of_ble_eq_true rfl⟩ (Nat.le_of_ble_eq_true rfl) [0] [1] rfl rfl rfl (fun v wc hv => ?_)
        obtain ⟨fault_1, faultPlace_1, rfl, rfl, hq⟩ := hv
        replace h := h fault_1 faultPlace_1 hq
        refine gG.perm (ws' := [oX11 h0 thrown (.ref q_tape) taped (v_number) (v_isTold) (v_name) (v_sortOf) (v_first) (v_second) (v_degree) (v_colours) (v_signBy) (v_own) lines size atF place sort value fault_1 faultPlace_1 lastFault lastPlace (v_sF) (v_kept) undoable hasImage (v_power) (v_table) (v_marks) (v_row) rowOf areSums isSieved (v_lastOf) blocks (v_inBlock) (v_atQuotient) (v_small) drawn, aI Y q_tape 700 tape]) [1, 0] rfl rfl ?_
        refine g_aload_n C dX11_numeralOf_58 0 rfl ?_
        refine g_get C inX11 0 rfl rfl 19 (by decide) wF_X11_142 rfl dX11_numeralOf_59 ?_
        refine g_if_ne (tgt := 72) C dX11_numeralOf_62 (by decide) (fun c_2 => ?_) (fun c_2 => ?_)
        · replace h := h.1 c_2
          refine g_iload_n C dX11_numeralOf_72 1 rfl ?_
          refine g_istore (lv' := [(4, .int a2), (0, .ref h0), (2, .int a2)]) C dX11_numeralOf_73 (by decide) rfl ?_
          refine g_aload_n C dX11_numeralOf_75 1 rfl ?_
          obtain ⟨P_2, hP, h⟩ := h
          refine g_callV (As := []) (rest := []) C (mX11_goOn l D Y h0 thrown q_tape taped v_number v_isTold v_name v_sortOf v_first v_second v_degree v_colours v_signBy v_own lines size atF place sort value fault_1 faultPlace_1 lastFault lastPlace v_sF v_kept undoable hasImage v_power v_table v_marks v_row rowOf areSums isSieved v_lastOf blocks v_inBlock v_atQuotient v_small drawn tape P_2 hP) dX11_numeralOf_76 rfl wM_X11_155 wI_X11_goOn wV_X11_goOn wN_X11 wC_X11_goOn (n := 0) (by decide +kernel) rfl (q0 := 0) rfl rfl ⟨Nat.le_of_ble_eq_true rfl, Nat.le_of_ble_eq_true rfl⟩ ⟨Nat.le_of_ble_eq_true rfl, Nat.le_of_ble_eq_true rfl⟩ (Nat.le_of_ble_eq_true rfl) [0, 1] [] rfl rfl rfl (fun v wc hv => ?_)
          obtain ⟨atF_1, place_1, sort_1, value_1, rfl, rfl, hq⟩ := hv
          replace h := h atF_1 place_1 sort_1 value_1 hq
          refine gG.eqw (ws' := [oX11 h0 thrown (.ref q_tape) taped (v_number) (v_isTold) (v_name) (v_sortOf) (v_first) (v_second) (v_degree) (v_colours) (v_signBy) (v_own) lines size atF_1 place_1 sort_1 value_1 fault_1 faultPlace_1 lastFault lastPlace (v_sF) (v_kept) undoable hasImage (v_power) (v_table) (v_marks) (v_row) rowOf areSums isSieved (v_lastOf) blocks (v_inBlock) (v_atQuotient) (v_small) drawn, aI Y q_tape 700 tape]) rfl ?_
          refine g_iload C dX11_numeralOf_79 0 rfl ?_
          exact g_iret C hR (Nat.le_of_ble_eq_true rfl) (Nat.le_of_ble_eq_true rfl) dX11_numeralOf_81 ⟨a2, atF_1, place_1, sort_1, value_1, fault_1, faultPlace_1, rfl, rfl, h⟩
        · replace h := h.2 c_2
          refine g_aload_n C dX11_numeralOf_65 0 rfl ?_
          refine g_get C inX11 0 rfl rfl 18 (by decide) wF_X11_118 rfl dX11_numeralOf_66 ?_
          refine g_goto (tgt := 73) C dX11_numeralOf_69 (by decide) ?_
          refine g_istore (lv' := [(4, .int value), (0, .ref h0), (2, .int a2)]) C dX11_numeralOf_73 (by decide) rfl ?_
          refine g_aload_n C dX11_numeralOf_75 1 rfl ?_
          obtain ⟨P_3, hP, h⟩ := h
          refine g_callV (As := []) (rest := []) C (mX11_goOn l D Y h0 thrown q_tape taped v_number v_isTold v_name v_sortOf v_first v_second v_degree v_colours v_signBy v_own lines size atF place sort value fault_1 faultPlace_1 lastFault lastPlace v_sF v_kept undoable hasImage v_power v_table v_marks v_row rowOf areSums isSieved v_lastOf blocks v_inBlock v_atQuotient v_small drawn tape P_3 hP) dX11_numeralOf_76 rfl wM_X11_155 wI_X11_goOn wV_X11_goOn wN_X11 wC_X11_goOn (n := 0) (by decide +kernel) rfl (q0 := 0) rfl rfl ⟨Nat.le_of_ble_eq_true rfl, Nat.le_of_ble_eq_true rfl⟩ ⟨Nat.le_of_ble_eq_true rfl, Nat.le_of_ble_eq_true rfl⟩ (Nat.le_of_ble_eq_true rfl) [0, 1] [] rfl rfl rfl (fun v wc hv => ?_)
          obtain ⟨atF_2, place_2, sort_2, value_2, rfl, rfl, hq⟩ := hv
          replace h := h atF_2 place_2 sort_2 value_2 hq
          refine gG.eqw (ws' := [oX11 h0 thrown (.ref q_tape) taped (v_number) (v_isTold) (v_name) (v_sortOf) (v_first) (v_second) (v_degree) (v_colours) (v_signBy) (v_own) lines size atF_2 place_2 sort_2 value_2 fault_1 faultPlace_1 lastFault lastPlace (v_sF) (v_kept) undoable hasImage (v_power) (v_table) (v_marks) (v_row) rowOf areSums isSieved (v_lastOf) blocks (v_inBlock) (v_atQuotient) (v_small) drawn, aI Y q_tape 700 tape]) rfl ?_
          refine g_iload C dX11_numeralOf_79 0 rfl ?_
          exact g_iret C hR (Nat.le_of_ble_eq_true rfl) (Nat.le_of_ble_eq_true rfl) dX11_numeralOf_81 ⟨value, atF_2, place_2, sort_2, value_2, fault_1, faultPlace_1, rfl, rfl, h⟩
      replace h := hA
      refine g_icmp_lt (tgt := 53) C dX11_numeralOf_42 (by decide) (fun c_3 => ?_) (fun c_3 => ?_)
      · replace h := h.1 c_3
        refine gG.locals (lv' := [(0, .ref h0), (2, .int a2)]) [0, 1] rfl ?_
        exact key_2 h
      · replace h := h.2 c_3
        refine g_aload_n C dX11_numeralOf_45 0 rfl ?_
        refine g_get C inX11 0 rfl rfl 18 (by decide) wF_X11_118 rfl dX11_numeralOf_46 ?_
        refine g_iload_n C dX11_numeralOf_49 2 rfl ?_
        refine g_icmp_le (tgt := 58) C dX11_numeralOf_50 (by decide) (fun c_4 => ?_) (fun c_4 => ?_)
        · replace h := h.1 c_4
          refine g_aload_n C dX11_numeralOf_58 0 rfl ?_
          refine g_get C inX11 0 rfl rfl 19 (by decide) wF_X11_142 rfl dX11_numeralOf_59 ?_
          refine g_if_ne (tgt := 72) C dX11_numeralOf_62 (by decide) (fun c_5 => ?_) (fun c_5 => ?_)
          · replace h := h.1 c_5
            refine g_iload_n C dX11_numeralOf_72 1 rfl ?_
            refine g_istore (lv' := [(4, .int a2), (0, .ref h0), (2, .int a2), (3, .int a3)]) C dX11_numeralOf_73 (by decide) rfl ?_
            refine g_aload_n C dX11_numeralOf_75 1 rfl ?_
            obtain ⟨P_4, hP, h⟩ := h
            refine g_callV (As := []) (rest := []) C (mX11_goOn l D Y h0 thrown q_tape taped v_number v_isTold v_name v_sortOf v_first v_second v_degree v_colours v_signBy v_own lines size atF place sort value fault faultPlace lastFault lastPlace v_sF v_kept undoable hasImage v_power v_table v_marks v_row rowOf areSums isSieved v_lastOf blocks v_inBlock v_atQuotient v_small drawn tape P_4 hP) dX11_numeralOf_76 rfl wM_X11_155 wI_X11_goOn wV_X11_goOn wN_X11 wC_X11_goOn (n := 0) (by decide +kernel) rfl (q0 := 0) rfl rfl ⟨Nat.le_of_ble_eq_true rfl, Nat.le_of_ble_eq_true rfl⟩ ⟨Nat.le_of_ble_eq_true rfl, Nat.le_of_ble_eq_true rfl⟩ (Nat.le_of_ble_eq_true rfl) [0, 1] [] rfl rfl rfl (fun v wc hv => ?_)
            obtain ⟨atF_3, place_3, sort_3, value_3, rfl, rfl, hq⟩ := hv
            replace h := h atF_3 place_3 sort_3 value_3 hq
            refine gG.eqw (ws' := [oX11 h0 thrown (.ref q_tape) taped (v_number) (v_isTold) (v_name) (v_sortOf) (v_first) (v_second) (v_degree) (v_colours) (v_signBy) (v_own) lines size atF_3 place_3 sort_3 value_3 fault faultPlace lastFault lastPlace (v_sF) (v_kept) undoable hasImage (v_power) (v_table) (v_marks) (v_row) rowOf areSums isSieved (v_lastOf) blocks (v_inBlock) (v_atQuotient) (v_small) drawn, aI Y q_tape 700 tape]) rfl ?_
            refine g_iload C dX11_numeralOf_79 0 rfl ?_
            exact g_iret C hR (Nat.le_of_ble_eq_true rfl) (Nat.le_of_ble_eq_true rfl) dX11_numeralOf_81 ⟨a2, atF_3, place_3, sort_3, value_3, fault, faultPlace, rfl, rfl, h⟩
          · replace h := h.2 c_5
            refine g_aload_n C dX11_numeralOf_65 0 rfl ?_
            refine g_get C inX11 0 rfl rfl 18 (by decide) wF_X11_118 rfl dX11_numeralOf_66 ?_
            refine g_goto (tgt := 73) C dX11_numeralOf_69 (by decide) ?_
            refine g_istore (lv' := [(4, .int value), (0, .ref h0), (2, .int a2), (3, .int a3)]) C dX11_numeralOf_73 (by decide) rfl ?_
            refine g_aload_n C dX11_numeralOf_75 1 rfl ?_
            obtain ⟨P_5, hP, h⟩ := h
            refine g_callV (As := []) (rest := []) C (mX11_goOn l D Y h0 thrown q_tape taped v_number v_isTold v_name v_sortOf v_first v_second v_degree v_colours v_signBy v_own lines size atF place sort value fault faultPlace lastFault lastPlace v_sF v_kept undoable hasImage v_power v_table v_marks v_row rowOf areSums isSieved v_lastOf blocks v_inBlock v_atQuotient v_small drawn tape P_5 hP) dX11_numeralOf_76 rfl wM_X11_155 wI_X11_goOn wV_X11_goOn wN_X11 wC_X11_goOn (n := 0) (by decide +kernel) rfl (q0 := 0) rfl rfl ⟨Nat.le_of_ble_eq_true rfl, Nat.le_of_ble_eq_true rfl⟩ ⟨Nat.le_of_ble_eq_true rfl, Nat.le_of_ble_eq_true rfl⟩ (Nat.le_of_ble_eq_true rfl) [0, 1] [] rfl rfl rfl (fun v wc hv => ?_)
            obtain ⟨atF_4, place_4, sort_4, value_4, rfl, rfl, hq⟩ := hv
            replace h := h atF_4 place_4 sort_4 value_4 hq
            refine gG.eqw (ws' := [oX11 h0 thrown (.ref q_tape) taped (v_number) (v_isTold) (v_name) (v_sortOf) (v_first) (v_second) (v_degree) (v_colours) (v_signBy) (v_own) lines size atF_4 place_4 sort_4 value_4 fault faultPlace lastFault lastPlace (v_sF) (v_kept) undoable hasImage (v_power) (v_table) (v_marks) (v_row) rowOf areSums isSieved (v_lastOf) blocks (v_inBlock) (v_atQuotient) (v_small) drawn, aI Y q_tape 700 tape]) rfl ?_
            refine g_iload C dX11_numeralOf_79 0 rfl ?_
            exact g_iret C hR (Nat.le_of_ble_eq_true rfl) (Nat.le_of_ble_eq_true rfl) dX11_numeralOf_81 ⟨value, atF_4, place_4, sort_4, value_4, fault, faultPlace, rfl, rfl, h⟩
        · replace h := h.2 c_4
          refine gG.locals (lv' := [(0, .ref h0), (2, .int a2)]) [0, 1] rfl ?_
          exact key_2 h
    replace h := hA
    refine g_icmp_eq (tgt := 37) C dX11_numeralOf_14 (by decide) (fun c_6 => ?_) (fun c_6 => ?_)
    · replace h := h.1 c_6
      refine gG.locals (lv' := [(0, .ref h0), (2, .int a2), (3, .int a3)]) [0, 2, 3] rfl ?_
      exact key_1 h
    · replace h := h.2 c_6
      refine g_iload_n C dX11_numeralOf_17 1 rfl ?_
      obtain ⟨J_3, hA, hB_J_3⟩ := h
      have key_3 : J_3 → gG E 0 0 [oX11 h0 thrown (.ref q_tape) taped (v_number) (v_isTold) (v_name) (v_sortOf) (v_first) (v_second) (v_degree) (v_colours) (v_signBy) (v_own) lines size atF place sort value fault faultPlace lastFault lastPlace (v_sF) (v_kept) undoable hasImage (v_power) (v_table) (v_marks) (v_row) rowOf areSums isSieved (v_lastOf) blocks (v_inBlock) (v_atQuotient) (v_small) drawn, aI Y q_tape 700 tape] [(0, .ref h0), (2, .int a2)] [] 29 := by
        intro  hJ
        have h := hB_J_3  hJ
        refine g_aload_n C dX11_numeralOf_29 0 rfl ?_
        refine g_iconst (v := 1) C dX11_numeralOf_30 rfl ?_
        obtain ⟨P_6, hP, h⟩ := h
        refine g_callV (As := [.int 1]) (rest := []) C (mX11_wrong l D Y h0 thrown (.ref q_tape) taped v_number v_isTold v_name v_sortOf v_first v_second v_degree v_colours v_signBy v_own lines size atF place sort value fault faultPlace lastFault lastPlace v_sF v_kept undoable hasImage v_power v_table v_marks v_row rowOf areSums isSieved v_lastOf blocks v_inBlock v_atQuotient v_small drawn 1 P_6 hP) dX11_numeralOf_31 rfl wM_X11_151 wI_X11_wrong wV_X11_wrong wN_X11 wC_X11_wrong (n := 1) (by decide +kernel) rfl (q0 := 0) rfl rfl ⟨Nat.le_of_ble_eq_true rfl, Nat.le_of_ble_eq_true rfl⟩ ⟨Nat.le_of_ble_eq_true rfl, Nat.le_of_ble_eq_true rfl⟩ (Nat.le_of_ble_eq_true rfl) [0] [1] rfl rfl rfl (fun v wc hv => ?_)
        obtain ⟨fault_2, faultPlace_2, rfl, rfl, hq⟩ := hv
        replace h := h fault_2 faultPlace_2 hq
        refine gG.perm (ws' := [oX11 h0 thrown (.ref q_tape) taped (v_number) (v_isTold) (v_name) (v_sortOf) (v_first) (v_second) (v_degree) (v_colours) (v_signBy) (v_own) lines size atF place sort value fault_2 faultPlace_2 lastFault lastPlace (v_sF) (v_kept) undoable hasImage (v_power) (v_table) (v_marks) (v_row) rowOf areSums isSieved (v_lastOf) blocks (v_inBlock) (v_atQuotient) (v_small) drawn, aI Y q_tape 700 tape]) [1, 0] rfl rfl ?_
        refine g_goto (tgt := 58) C dX11_numeralOf_34 (by decide) ?_
        refine g_aload_n C dX11_numeralOf_58 0 rfl ?_
        refine g_get C inX11 0 rfl rfl 19 (by decide) wF_X11_142 rfl dX11_numeralOf_59 ?_
        refine g_if_ne (tgt := 72) C dX11_numeralOf_62 (by decide) (fun c_7 => ?_) (fun c_7 => ?_)
        · replace h := h.1 c_7
          refine g_iload_n C dX11_numeralOf_72 1 rfl ?_
          refine g_istore (lv' := [(4, .int a2), (0, .ref h0), (2, .int a2)]) C dX11_numeralOf_73 (by decide) rfl ?_
          refine g_aload_n C dX11_numeralOf_75 1 rfl ?_
          obtain ⟨P_7, hP, h⟩ := h
          refine g_callV (As := []) (rest := []) C (mX11_goOn l D Y h0 thrown q_tape taped v_number v_isTold v_name v_sortOf v_first v_second v_degree v_colours v_signBy v_own lines size atF place sort value fault_2 faultPlace_2 lastFault lastPlace v_sF v_kept undoable hasImage v_power v_table v_marks v_row rowOf areSums isSieved v_lastOf blocks v_inBlock v_atQuotient v_small drawn tape P_7 hP) dX11_numeralOf_76 rfl wM_X11_155 wI_X11_goOn wV_X11_goOn wN_X11 wC_X11_goOn (n := 0) (by decide +kernel) rfl (q0 := 0) rfl rfl ⟨Nat.le_of_ble_eq_true rfl, Nat.le_of_ble_eq_true rfl⟩ ⟨Nat.le_of_ble_eq_true rfl, Nat.le_of_ble_eq_true rfl⟩ (Nat.le_of_ble_eq_true rfl) [0, 1] [] rfl rfl rfl (fun v wc hv => ?_)
          obtain ⟨atF_5, place_5, sort_5, value_5, rfl, rfl, hq⟩ := hv
          replace h := h atF_5 place_5 sort_5 value_5 hq
          refine gG.eqw (ws' := [oX11 h0 thrown (.ref q_tape) taped (v_number) (v_isTold) (v_name) (v_sortOf) (v_first) (v_second) (v_degree) (v_colours) (v_signBy) (v_own) lines size atF_5 place_5 sort_5 value_5 fault_2 faultPlace_2 lastFault lastPlace (v_sF) (v_kept) undoable hasImage (v_power) (v_table) (v_marks) (v_row) rowOf areSums isSieved (v_lastOf) blocks (v_inBlock) (v_atQuotient) (v_small) drawn, aI Y q_tape 700 tape]) rfl ?_
          refine g_iload C dX11_numeralOf_79 0 rfl ?_
          exact g_iret C hR (Nat.le_of_ble_eq_true rfl) (Nat.le_of_ble_eq_true rfl) dX11_numeralOf_81 ⟨a2, atF_5, place_5, sort_5, value_5, fault_2, faultPlace_2, rfl, rfl, h⟩
        · replace h := h.2 c_7
          refine g_aload_n C dX11_numeralOf_65 0 rfl ?_
          refine g_get C inX11 0 rfl rfl 18 (by decide) wF_X11_118 rfl dX11_numeralOf_66 ?_
          refine g_goto (tgt := 73) C dX11_numeralOf_69 (by decide) ?_
          refine g_istore (lv' := [(4, .int value), (0, .ref h0), (2, .int a2)]) C dX11_numeralOf_73 (by decide) rfl ?_
          refine g_aload_n C dX11_numeralOf_75 1 rfl ?_
          obtain ⟨P_8, hP, h⟩ := h
          refine g_callV (As := []) (rest := []) C (mX11_goOn l D Y h0 thrown q_tape taped v_number v_isTold v_name v_sortOf v_first v_second v_degree v_colours v_signBy v_own lines size atF place sort value fault_2 faultPlace_2 lastFault lastPlace v_sF v_kept undoable hasImage v_power v_table v_marks v_row rowOf areSums isSieved v_lastOf blocks v_inBlock v_atQuotient v_small drawn tape P_8 hP) dX11_numeralOf_76 rfl wM_X11_155 wI_X11_goOn wV_X11_goOn wN_X11 wC_X11_goOn (n := 0) (by decide +kernel) rfl (q0 := 0) rfl rfl ⟨Nat.le_of_ble_eq_true rfl, Nat.le_of_ble_eq_true rfl⟩ ⟨Nat.le_of_ble_eq_true rfl, Nat.le_of_ble_eq_true rfl⟩ (Nat.le_of_ble_eq_true rfl) [0, 1] [] rfl rfl rfl (fun v wc hv => ?_)
          obtain ⟨atF_6, place_6, sort_6, value_6, rfl, rfl, hq⟩ := hv
          replace h := h atF_6 place_6 sort_6 value_6 hq
          refine gG.eqw (ws' := [oX11 h0 thrown (.ref q_tape) taped (v_number) (v_isTold) (v_name) (v_sortOf) (v_first) (v_second) (v_degree) (v_colours) (v_signBy) (v_own) lines size atF_6 place_6 sort_6 value_6 fault_2 faultPlace_2 lastFault lastPlace (v_sF) (v_kept) undoable hasImage (v_power) (v_table) (v_marks) (v_row) rowOf areSums isSieved (v_lastOf) blocks (v_inBlock) (v_atQuotient) (v_small) drawn, aI Y q_tape 700 tape]) rfl ?_
          refine g_iload C dX11_numeralOf_79 0 rfl ?_
          exact g_iret C hR (Nat.le_of_ble_eq_true rfl) (Nat.le_of_ble_eq_true rfl) dX11_numeralOf_81 ⟨value, atF_6, place_6, sort_6, value_6, fault_2, faultPlace_2, rfl, rfl, h⟩
      replace h := hA
      refine g_if_eq (tgt := 29) C dX11_numeralOf_18 (by decide) (fun c_8 => ?_) (fun c_8 => ?_)
      · replace h := h.1 c_8
        refine gG.locals (lv' := [(0, .ref h0), (2, .int a2)]) [0, 2] rfl ?_
        exact key_3 h
      · replace h := h.2 c_8
        refine g_aload_n C dX11_numeralOf_21 0 rfl ?_
        refine g_get C inX11 0 rfl rfl 17 (by decide) wF_X11_108 rfl dX11_numeralOf_22 ?_
        refine g_iconst (v := 3) C dX11_numeralOf_25 rfl ?_
        refine g_icmp_eq (tgt := 37) C dX11_numeralOf_26 (by decide) (fun c_9 => ?_) (fun c_9 => ?_)
        · replace h := h.1 c_9
          refine gG.locals (lv' := [(0, .ref h0), (2, .int a2), (3, .int a3)]) [0, 2, 3] rfl ?_
          exact key_1 h
        · replace h := h.2 c_9
          refine gG.locals (lv' := [(0, .ref h0), (2, .int a2)]) [0, 2] rfl ?_
          exact key_3 h
  · replace h := h.2 c_1
    refine g_iload_n C dX11_numeralOf_7 2 rfl ?_
    exact g_iret C hR (Nat.le_of_ble_eq_true rfl) (Nat.le_of_ble_eq_true rfl) dX11_numeralOf_8 ⟨a2, atF, place, sort, value, fault, faultPlace, rfl, rfl, h⟩
