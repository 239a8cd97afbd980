theorem dX11_bound_0 : decode cX11_bound 0 = .ok (.aload_n 0, 1) := by decide +kernel
theorem dX11_bound_1 : decode cX11_bound 1 = .ok (.iconst 0, 1) := by decide +kernel
theorem dX11_bound_2 : decode cX11_bound 2 = .ok (.putfield 89, 3) := by decide +kernel
theorem dX11_bound_5 : decode cX11_bound 5 = .ok (.iload_n 1, 1) := by decide +kernel
theorem dX11_bound_6 : decode cX11_bound 6 = .ok (.iconst 1, 1) := by decide +kernel
theorem dX11_bound_7 : decode cX11_bound 7 = .ok (.ldc 189, 2) := by decide +kernel
theorem dX11_bound_9 : decode cX11_bound 9 = .ok (.invokestatic 247, 3) := by decide +kernel
theorem dX11_bound_12 : decode cX11_bound 12 = .ok (.ifCond .ne 5, 3) := by decide +kernel
theorem dX11_bound_15 : decode cX11_bound 15 = .ok (.iconst (-1), 1) := by decide +kernel
theorem dX11_bound_16 : decode cX11_bound 16 = .ok (.ireturn, 1) := by decide +kernel
theorem dX11_bound_17 : decode cX11_bound 17 = .ok (.aload_n 0, 1) := by decide +kernel
theorem dX11_bound_18 : decode cX11_bound 18 = .ok (.getfield 48, 3) := by decide +kernel
theorem dX11_bound_21 : decode cX11_bound 21 = .ok (.iconst 0, 1) := by decide +kernel
theorem dX11_bound_22 : decode cX11_bound 22 = .ok (.iaload, 1) := by decide +kernel
theorem dX11_bound_23 : decode cX11_bound 23 = .ok (.istore_n 2, 1) := by decide +kernel
theorem dX11_bound_24 : decode cX11_bound 24 = .ok (.aload_n 0, 1) := by decide +kernel
theorem dX11_bound_25 : decode cX11_bound 25 = .ok (.invokevirtual 251, 3) := by decide +kernel
theorem dX11_bound_28 : decode cX11_bound 28 = .ok (.aload_n 0, 1) := by decide +kernel
theorem dX11_bound_29 : decode cX11_bound 29 = .ok (.getfield 48, 3) := by decide +kernel
theorem dX11_bound_32 : decode cX11_bound 32 = .ok (.iconst 0, 1) := by decide +kernel
theorem dX11_bound_33 : decode cX11_bound 33 = .ok (.iload_n 1, 1) := by decide +kernel
theorem dX11_bound_34 : decode cX11_bound 34 = .ok (.iastore, 1) := by decide +kernel
theorem dX11_bound_35 : decode cX11_bound 35 = .ok (.iload_n 2, 1) := by decide +kernel
theorem dX11_bound_36 : decode cX11_bound 36 = .ok (.ireturn, 1) := by decide +kernel
/-- QuotientSumsModel.bound(I)I -/
def wX11_bound (thrown : Int32) (taped : Int32) (lines : Int32) (size : Int32) (atF : Int32) (place : Int32) (sort : Int32) (value : Int32) (fault : Int32) (faultPlace : Int32) (lastFault : Int32) (lastPlace : Int32) (undoable : Int32) (hasImage : Int32) (rowOf : Int32) (areSums : Int32) (isSieved : Int32) (blocks : Int32) (drawn : Int32) (sF : Nat → Int32) (kept : Nat → Int32) (a1 : Int32) (Q : (Int32) → (Int32) → (Int32) → (Int32) → (Nat → Int32) → (Nat → Int32) → Prop) : Prop :=
  (∃ (P_1 : (Int32) → Prop), wX11_within a1 1 200000 P_1 ∧ ∀ (rF_1 : Int32), P_1 rF_1 → ((¬ rF_1 = 0 → (∀ x2_1 : Int32, x2_1 = sF 0 → ∃ (P_2 : (Int32) → (Int32) → (Nat → Int32) → Prop), wX11_remembers 0 taped lines size atF place sort value fault faultPlace lastFault lastPlace undoable hasImage rowOf areSums isSieved blocks drawn kept sF P_2 ∧ ∀ (undoable_1 : Int32) (rowOf_1 : Int32) (kept_1 : Nat → Int32), P_2 undoable_1 rowOf_1 kept_1 → ∀ sF_1 : Nat → Int32, sF_1 = upd sF 0 a1 → (Q x2_1 0 undoable_1 rowOf_1 sF_1 kept_1))) ∧ (rF_1 = 0 → (Q (-1) 0 undoable rowOf sF kept))))
set_option maxHeartbeats 4000000 in
set_option maxRecDepth 100000 in
theorem mX11_bound (l : Launch) (D : va_G) (Y : Nat → ClassId) (h0 : Nat) (thrown : Int32) (v_tape : Value) (taped : Int32) (v_number : Value) (v_isTold : Value) (v_name : Value) (v_sortOf : Value) (v_first : Value) (v_second : Value) (v_degree : Value) (v_colours : Value) (v_signBy : Value) (v_own : Value) (lines : Int32) (size : Int32) (atF : Int32) (place : Int32) (sort : Int32) (value : Int32) (fault : Int32) (faultPlace : Int32) (lastFault : Int32) (lastPlace : Int32) (q_sF : Nat) (q_kept : Nat) (undoable : Int32) (hasImage : Int32) (v_power : Value) (v_table : Value) (v_marks : Value) (v_row : Value) (rowOf : Int32) (areSums : Int32) (isSieved : Int32) (v_lastOf : Value) (blocks : Int32) (v_inBlock : Value) (v_atQuotient : Value) (v_small : Value) (drawn : Int32) (sF : Nat → Int32) (kept : Nat → Int32) (a1 : Int32) (Q : (Int32) → (Int32) → (Int32) → (Int32) → (Nat → Int32) → (Nat → Int32) → Prop) (h : wX11_bound thrown taped lines size atF place sort value fault faultPlace lastFault lastPlace undoable hasImage rowOf areSums isSieved blocks drawn sF kept a1 Q) : gM l D Y yX11_bound cX11_bound 3 (some .int) 2 43 0 0 [.ref h0, .int a1] [oX11 h0 thrown (v_tape) taped (v_number) (v_isTold) (v_name) (v_sortOf) (v_first) (v_second) (v_degree) (v_colours) (v_signBy) (v_own) lines size atF place sort value fault faultPlace lastFault lastPlace (.ref q_sF) (.ref q_kept) undoable hasImage (v_power) (v_table) (v_marks) (v_row) rowOf areSums isSieved (v_lastOf) blocks (v_inBlock) (v_atQuotient) (v_small) drawn, aI Y q_sF 74 sF, aI Y q_kept 1554 kept] (fun v w => ∃ r : Int32, ∃ thrown' : Int32, ∃ undoable' : Int32, ∃ rowOf' : Int32, ∃ sF' : Nat → Int32, ∃ kept' : Nat → Int32, v = some (.int r) ∧ w = [oX11 h0 thrown' (v_tape) taped (v_number) (v_isTold) (v_name) (v_sortOf) (v_first) (v_second) (v_degree) (v_colours) (v_signBy) (v_own) lines size atF place sort value fault faultPlace lastFault lastPlace (.ref q_sF) (.ref q_kept) undoable' hasImage (v_power) (v_table) (v_marks) (v_row) rowOf' areSums isSieved (v_lastOf) blocks (v_inBlock) (v_atQuotient) (v_small) drawn, aI Y q_sF 74 sF', aI Y q_kept 1554 kept'] ∧ Q r thrown' undoable' rowOf' sF' kept') := by
  refine gM_of (own := RX11) (by decide +kernel) rfl (Nat.le_of_ble_eq_true rfl) rfl (fun E C hR => ?_)
  unfold wX11_bound at h
  refine g_aload_n C dX11_bound_0 0 rfl ?_
  refine g_iconst (v := 0) C dX11_bound_1 rfl ?_
  refine g_put C inX11 tyX11 tyX11_ok nmX11 0 rfl rfl 0 (by decide) wF_X11_89 rfl rfl rfl (Nat.le_of_ble_eq_true rfl) (ws' := [oX11 h0 0 (v_tape) taped (v_number) (v_isTold) (v_name) (v_sortOf) (v_first) (v_second) (v_degree) (v_colours) (v_signBy) (v_own) lines size atF place sort value fault faultPlace lastFault lastPlace (.ref q_sF) (.ref q_kept) undoable hasImage (v_power) (v_table) (v_marks) (v_row) rowOf areSums isSieved (v_lastOf) blocks (v_inBlock) (v_atQuotient) (v_small) drawn, aI Y q_sF 74 sF, aI Y q_kept 1554 kept]) rfl dX11_bound_2 ?_
  refine g_iload_n C dX11_bound_5 1 rfl ?_
  refine g_iconst (v := 1) C dX11_bound_6 rfl ?_
  refine g_ldc C dX11_bound_7 wK_X11_189 ?_
  obtain ⟨P_1, hP, h⟩ := h
  refine g_callS (As := [.int a1, .int 1, .int 200000]) (rest := []) C (mX11_within l D Y a1 1 200000 P_1 hP) dX11_bound_9 rfl wM_X11_247 wS_X11_within wN_X11 wC_X11_within (n := 3) (by decide +kernel) rfl ⟨Nat.le_of_ble_eq_true rfl, Nat.le_of_ble_eq_true rfl⟩ ⟨Nat.le_of_ble_eq_true rfl, Nat.le_of_ble_eq_true rfl⟩ (Nat.le_of_ble_eq_true rfl) [] [0, 1, 2] rfl rfl rfl (fun v wc hv => ?_)
  obtain ⟨rF_1, rfl, rfl, hq⟩ := hv
  replace h := h rF_1 hq
  refine gG.eqw (ws' := [oX11 h0 0 (v_tape) taped (v_number) (v_isTold) (v_name) (v_sortOf) (v_first) (v_second) (v_degree) (v_colours) (v_signBy) (v_own) lines size atF place sort value fault faultPlace lastFault lastPlace (.ref q_sF) (.ref q_kept) undoable hasImage (v_power) (v_table) (v_marks) (v_row) rowOf areSums isSieved (v_lastOf) blocks (v_inBlock) (v_atQuotient) (v_small) drawn, aI Y q_sF 74 sF, aI Y q_kept 1554 kept]) rfl ?_
  refine g_if_ne (tgt := 17) C dX11_bound_12 (by decide) (fun c_1 => ?_) (fun c_1 => ?_)
  · replace h := h.1 c_1
    refine g_aload_n C dX11_bound_17 0 rfl ?_
    refine g_get C inX11 0 rfl rfl 23 (by decide) wF_X11_48 rfl dX11_bound_18 ?_
    refine g_iconst (v := 0) C dX11_bound_21 rfl ?_
    refine g_iald C 1 rfl (by unfold vp_in; decide) dX11_bound_22 ?_
    refine g_topi (fun x2_1 ex2_1 => ?_)
    replace h := h x2_1 ex2_1
    refine g_istore_n (lv' := [(2, .int x2_1), (0, .ref h0), (1, .int a1)]) C dX11_bound_23 (by decide) rfl ?_
    refine g_aload_n C dX11_bound_24 1 rfl ?_
    obtain ⟨P_2, hP, h⟩ := h
    refine g_callV (As := []) (rest := []) C (mX11_remembers l D Y h0 0 v_tape taped v_number v_isTold v_name v_sortOf v_first v_second v_degree v_colours v_signBy v_own lines size atF place sort value fault faultPlace lastFault lastPlace q_sF q_kept undoable hasImage v_power v_table v_marks v_row rowOf areSums isSieved v_lastOf blocks v_inBlock v_atQuotient v_small drawn kept sF P_2 hP) dX11_bound_25 rfl wM_X11_251 wI_X11_remembers wV_X11_remembers wN_X11 wC_X11_remembers (n := 0) (by decide +kernel) rfl (q0 := 0) rfl rfl ⟨Nat.le_of_ble_eq_true rfl, Nat.le_of_ble_eq_true rfl⟩ ⟨Nat.le_of_ble_eq_true rfl, Nat.le_of_ble_eq_true rfl⟩ (Nat.le_of_ble_eq_true rfl) [0, 2, 1] [] rfl rfl rfl (fun v wc hv => ?_)
    obtain ⟨undoable_1, rowOf_1, kept_1, rfl, rfl, hq⟩ := hv
    replace h := h undoable_1 rowOf_1 kept_1 hq
    refine gG.perm (ws' := [oX11 h0 0 (v_tape) taped (v_number) (v_isTold) (v_name) (v_sortOf) (v_first) (v_second) (v_degree) (v_colours) (v_signBy) (v_own) lines size atF place sort value fault faultPlace lastFault lastPlace (.ref q_sF) (.ref q_kept) undoable_1 hasImage (v_power) (v_table) (v_marks) (v_row) rowOf_1 areSums isSieved (v_lastOf) blocks (v_inBlock) (v_atQuotient) (v_small) drawn, aI Y q_sF 74 sF, aI Y q_kept 1554 kept_1]) [0, 2, 1] rfl rfl ?_
    refine g_aload_n C dX11_bound_28 1 rfl ?_
    refine g_get C inX11 0 rfl rfl 23 (by decide) wF_X11_48 rfl dX11_bound_29 ?_
    refine g_iconst (v := 0) C dX11_bound_32 rfl ?_
    refine g_iload_n C dX11_bound_33 2 rfl ?_
    refine g_iast C 1 rfl (by unfold vp_in; decide) dX11_bound_34 (fun sF_1 esF_1 => gG.eqw (ws' := [oX11 h0 0 (v_tape) taped (v_number) (v_isTold) (v_name) (v_sortOf) (v_first) (v_second) (v_degree) (v_colours) (v_signBy) (v_own) lines size atF place sort value fault faultPlace lastFault lastPlace (.ref q_sF) (.ref q_kept) undoable_1 hasImage (v_power) (v_table) (v_marks) (v_row) rowOf_1 areSums isSieved (v_lastOf) blocks (v_inBlock) (v_atQuotient) (v_small) drawn, aI Y q_sF 74 sF_1, aI Y q_kept 1554 kept_1]) rfl ?_)
    replace h := h sF_1 esF_1
    refine g_iload_n C dX11_bound_35 0 rfl ?_
    exact g_iret C hR (Nat.le_of_ble_eq_true rfl) (Nat.le_of_ble_eq_true rfl) dX11_bound_36 ⟨x2_1, 0, undoable_1, rowOf_1, sF_1, kept_1, rfl, rfl, h⟩
  · replace h := h.2 c_1
    refine g_iconst (v := (-1)) C dX11_bound_15 rfl ?_
    exact g_iret C hR (Nat.le_of_ble_eq_true rfl) (Nat.le_of_ble_eq_true rfl) dX11_bound_16 ⟨(-1), 0, undoable, rowOf, sF, kept, rfl, rfl, h⟩
theorem dX11_modulus_0 : decode cX11_modulus 0 = .ok (.aload_n 0, 1) := by decide +kernel
theorem dX11_modulus_1 : decode cX11_modulus 1 = .ok (.iconst 0, 1) := by decide +kernel
theorem dX11_modulus_2 : decode cX11_modulus 2 = .ok (.putfield 89, 3) := by decide +kernel
theorem dX11_modulus_5 : decode cX11_modulus 5 = .ok (.iload_n 1, 1) := by decide +kernel
theorem dX11_modulus_6 : decode cX11_modulus 6 = .ok (.iconst 2, 1) := by decide +kernel
theorem dX11_modulus_7 : decode cX11_modulus 7 = .ok (.ldc 194, 2) := by decide +kernel
theorem dX11_modulus_9 : decode cX11_modulus 9 = .ok (.invokestatic 247, 3) := by decide +kernel
theorem dX11_modulus_12 : decode cX11_modulus 12 = .ok (.ifCond .ne 5, 3) := by decide +kernel
theorem dX11_modulus_15 : decode cX11_modulus 15 = .ok (.iconst (-1), 1) := by decide +kernel
theorem dX11_modulus_16 : decode cX11_modulus 16 = .ok (.ireturn, 1) := by decide +kernel
theorem dX11_modulus_17 : decode cX11_modulus 17 = .ok (.aload_n 0, 1) := by decide +kernel
theorem dX11_modulus_18 : decode cX11_modulus 18 = .ok (.getfield 48, 3) := by decide +kernel
theorem dX11_modulus_21 : decode cX11_modulus 21 = .ok (.iconst 1, 1) := by decide +kernel
theorem dX11_modulus_22 : decode cX11_modulus 22 = .ok (.iaload, 1) := by decide +kernel
theorem dX11_modulus_23 : decode cX11_modulus 23 = .ok (.istore_n 2, 1) := by decide +kernel
theorem dX11_modulus_24 : decode cX11_modulus 24 = .ok (.aload_n 0, 1) := by decide +kernel
theorem dX11_modulus_25 : decode cX11_modulus 25 = .ok (.invokevirtual 251, 3) := by decide +kernel
theorem dX11_modulus_28 : decode cX11_modulus 28 = .ok (.aload_n 0, 1) := by decide +kernel
theorem dX11_modulus_29 : decode cX11_modulus 29 = .ok (.getfield 48, 3) := by decide +kernel
theorem dX11_modulus_32 : decode cX11_modulus 32 = .ok (.iconst 1, 1) := by decide +kernel
theorem dX11_modulus_33 : decode cX11_modulus 33 = .ok (.iload_n 1, 1) := by decide +kernel
theorem dX11_modulus_34 : decode cX11_modulus 34 = .ok (.iastore, 1) := by decide +kernel
theorem dX11_modulus_35 : decode cX11_modulus 35 = .ok (.iload_n 2, 1) := by decide +kernel
theorem dX11_modulus_36 : decode cX11_modulus 36 = .ok (.ireturn, 1) := by decide +kernel
/-- QuotientSumsModel.modulus(I)I -/
def wX11_modulus (thrown : Int32) (taped : Int32) (lines : Int32) (size : Int32) (atF : Int32) (place : Int32) (sort : Int32) (value : Int32) (fault : Int32) (faultPlace : Int32) (lastFault : Int32) (lastPlace : Int32) (undoable : Int32) (hasImage : Int32) (rowOf : Int32) (areSums : Int32) (isSieved : Int32) (blocks : Int32) (drawn : Int32) (sF : Nat → Int32) (kept : Nat → Int32) (a1 : Int32) (Q : (Int32) → (Int32) → (Int32) → (Int32) → (Nat → Int32) → (Nat → Int32) → Prop) : Prop :=
  (∃ (P_1 : (Int32) → Prop), wX11_within a1 2 1000003 P_1 ∧ ∀ (rF_1 : Int32), P_1 rF_1 → ((¬ rF_1 = 0 → (∀ x2_1 : Int32, x2_1 = sF 1 → ∃ (P_2 : (Int32) → (Int32) → (Nat → Int32) → Prop), wX11_remembers 0 taped lines size atF place sort value fault faultPlace lastFault lastPlace undoable hasImage rowOf areSums isSieved blocks drawn kept sF P_2 ∧ ∀ (undoable_1 : Int32) (rowOf_1 : Int32) (kept_1 : Nat → Int32), P_2 undoable_1 rowOf_1 kept_1 → ∀ sF_1 : Nat → Int32, sF_1 = upd sF 1 a1 → (Q x2_1 0 undoable_1 rowOf_1 sF_1 kept_1))) ∧ (rF_1 = 0 → (Q (-1) 0 undoable rowOf sF kept))))
set_option maxHeartbeats 4000000 in
set_option maxRecDepth 100000 in
theorem mX11_modulus (l : Launch) (D : va_G) (Y : Nat → ClassId) (h0 : Nat) (thrown : Int32) (v_tape : Value) (taped : Int32) (v_number : Value) (v_isTold : Value) (v_name : Value) (v_sortOf : Value) (v_first : Value) (v_second : Value) (v_degree : Value) (v_colours : Value) (v_signBy : Value) (v_own : Value) (lines : Int32) (size : Int32) (atF : Int32) (place : Int32) (sort : Int32) (value : Int32) (fault : Int32) (faultPlace : Int32) (lastFault : Int32) (lastPlace : Int32) (q_sF : Nat) (q_kept : Nat) (undoable : Int32) (hasImage : Int32) (v_power : Value) (v_table : Value) (v_marks : Value) (v_row : Value) (rowOf : Int32) (areSums : Int32) (isSieved : Int32) (v_lastOf : Value) (blocks : Int32) (v_inBlock : Value) (v_atQuotient : Value) (v_small : Value) (drawn : Int32) (sF : Nat → Int32) (kept : Nat → Int32) (a1 : Int32) (Q : (Int32) → (Int32) → (Int32) → (Int32) → (Nat → Int32) → (Nat → Int32) → Prop) (h : wX11_modulus thrown taped lines size atF place sort value fault faultPlace lastFault lastPlace undoable hasImage rowOf areSums isSieved blocks drawn sF kept a1 Q) : gM l D Y yX11_modulus cX11_modulus 3 (some .int) 2 43 0 0 [.ref h0, .int a1] [oX11 h0 thrown (v_tape) taped (v_number) (v_isTold) (v_name) (v_sortOf) (v_first) (v_second) (v_degree) (v_colours) (v_signBy) (v_own) lines size atF place sort value fault faultPlace lastFault lastPlace (.ref q_sF) (.ref q_kept) undoable hasImage (v_power) (v_table) (v_marks) (v_row) rowOf areSums isSieved (v_lastOf) blocks (v_inBlock) (v_atQuotient) (v_small) drawn, aI Y q_sF 74 sF, aI Y q_kept 1554 kept] (fun v w => ∃ r : Int32, ∃ thrown' : Int32, ∃ undoable' : Int32, ∃ rowOf' : Int32, ∃ sF' : Nat → Int32, ∃ kept' : Nat → Int32, v = some (.int r) ∧ w = [oX11 h0 thrown' (v_tape) taped (v_number) (v_isTold) (v_name) (v_sortOf) (v_first) (v_second) (v_degree) (v_colours) (v_signBy) (v_own) lines size atF place sort value fault faultPlace lastFault lastPlace (.ref q_sF) (.ref q_kept) undoable' hasImage (v_power) (v_table) (v_marks) (v_row) rowOf' areSums isSieved (v_lastOf) blocks (v_inBlock) (v_atQuotient) (v_small) drawn, aI Y q_sF 74 sF', aI Y q_kept 1554 kept'] ∧ Q r thrown' undoable' rowOf' sF' kept') := by
  refine gM_of (own := RX11) (by decide +kernel) rfl (Nat.le_of_ble_eq_true rfl) rfl (fun E C hR => ?_)
  unfold wX11_modulus at h
  refine g_aload_n C dX11_modulus_0 0 rfl ?_
  refine g_iconst (v := 0) C dX11_modulus_1 rfl ?_
  refine g_put C inX11 tyX11 tyX11_ok nmX11 0 rfl rfl 0 (by decide) wF_X11_89 rfl rfl rfl (Nat.le_of_ble_eq_true rfl) (ws' := [oX11 h0 0 (v_tape) taped (v_number) (v_isTold) (v_name) (v_sortOf) (v_first) (v_second) (v_degree) (v_colours) (v_signBy) (v_own) lines size atF place sort value fault faultPlace lastFault lastPlace (.ref q_sF) (.ref q_kept) undoable hasImage (v_power) (v_table) (v_marks) (v_row) rowOf areSums isSieved (v_lastOf) blocks (v_inBlock) (v_atQuotient) (v_small) drawn, aI Y q_sF 74 sF, aI Y q_kept 1554 kept]) rfl dX11_modulus_2 ?_
  refine g_iload_n C dX11_modulus_5 1 rfl ?_
  refine g_iconst (v := 2) C dX11_modulus_6 rfl ?_
  refine g_ldc C dX11_modulus_7 wK_X11_194 ?_
  obtain ⟨P_1, hP, h⟩ := h
  refine g_callS (As := [.int a1, .int 2, .int 1000003]) (rest := []) C (mX11_within l D Y a1 2 1000003 P_1 hP) dX11_modulus_9 rfl wM_X11_247 wS_X11_within wN_X11 wC_X11_within (n := 3) (by decide +kernel) rfl ⟨Nat.le_of_ble_eq_true rfl, Nat.le_of_ble_eq_true rfl⟩ ⟨Nat.le_of_ble_eq_true rfl, Nat.le_of_ble_eq_true rfl⟩ (Nat.le_of_ble_eq_true rfl) [] [0, 1, 2] rfl rfl rfl (fun v wc hv => ?_)
  obtain ⟨rF_1, rfl, rfl, hq⟩ := hv
  replace h := h rF_1 hq
  refine gG.eqw (ws' := [oX11 h0 0 (v_tape) taped (v_number) (v_isTold) (v_name) (v_sortOf) (v_first) (v_second) (v_degree) (v_colours) (v_signBy) (v_own) lines size atF place sort value fault faultPlace lastFault lastPlace (.ref q_sF) (.ref q_kept) undoable hasImage (v_power) (v_table) (v_marks) (v_row) rowOf areSums isSieved (v_lastOf) blocks (v_inBlock) (v_atQuotient) (v_small) drawn, aI Y q_sF 74 sF, aI Y q_kept 1554 kept]) rfl ?_
  refine g_if_ne (tgt := 17) C dX11_modulus_12 (by decide) (fun c_1 => ?_) (fun c_1 => ?_)
  · replace h := h.1 c_1
    refine g_aload_n C dX11_modulus_17 0 rfl ?_
    refine g_get C inX11 0 rfl rfl 23 (by decide) wF_X11_48 rfl dX11_modulus_18 ?_
    refine g_iconst (v := 1) C dX11_modulus_21 rfl ?_
    refine g_iald C 1 rfl (by unfold vp_in; decide) dX11_modulus_22 ?_
    refine g_topi (fun x2_1 ex2_1 => ?_)
    replace h := h x2_1 ex2_1
    refine g_istore_n (lv' := [(2, .int x2_1), (0, .ref h0), (1, .int a1)]) C dX11_modulus_23 (by decide) rfl ?_
    refine g_aload_n C dX11_modulus_24 1 rfl ?_
    obtain ⟨P_2, hP, h⟩ := h
    refine g_callV (As := []) (rest := []) C (mX11_remembers l D Y h0 0 v_tape taped v_number v_isTold v_name v_sortOf v_first v_second v_degree v_colours v_signBy v_own lines size atF place sort value fault faultPlace lastFault lastPlace q_sF q_kept undoable hasImage v_power v_table v_marks v_row rowOf areSums isSieved v_lastOf blocks v_inBlock v_atQuotient v_small drawn kept sF P_2 hP) dX11_modulus_25 rfl wM_X11_251 wI_X11_remembers wV_X11_remembers wN_X11 wC_X11_remembers (n := 0) (by decide +kernel) rfl (q0 := 0) rfl rfl ⟨Nat.le_of_ble_eq_true rfl, Nat.le_of_ble_eq_true rfl⟩ ⟨Nat.le_of_ble_eq_true rfl, Nat.le_of_ble_eq_true rfl⟩ (Nat.le_of_ble_eq_true rfl) [0, 2, 1] [] rfl rfl rfl (fun v wc hv => ?_)
    obtain ⟨undoable_1, rowOf_1, kept_1, rfl, rfl, hq⟩ := hv
    replace h := h undoable_1 rowOf_1 kept_1 hq
    refine gG.perm (ws' := [oX11 h0 0 (v_tape) taped (v_number) (v_isTold) (v_name) (v_sortOf) (v_first) (v_second) (v_degree) (v_colours) (v_signBy) (v_own) lines size atF place sort value fault faultPlace lastFault lastPlace (.ref q_sF) (.ref q_kept) undoable_1 hasImage (v_power) (v_table) (v_marks) (v_row) rowOf_1 areSums isSieved (v_lastOf) blocks (v_inBlock) (v_atQuotient) (v_small) drawn, aI Y q_sF 74 sF, aI Y q_kept 1554 kept_1]) [0, 2, 1] rfl rfl ?_
    refine g_aload_n C dX11_modulus_28 1 rfl ?_
    refine g_get C inX11 0 rfl rfl 23 (by decide) wF_X11_48 rfl dX11_modulus_29 ?_
    refine g_iconst (v := 1) C dX11_modulus_32 rfl ?_
    refine g_iload_n C dX11_modulus_33 2 rfl ?_
    refine g_iast C 1 rfl (by unfold vp_in; decide) dX11_modulus_34 (fun sF_1 esF_1 => gG.eqw (ws' := [oX11 h0 0 (v_tape) taped (v_number) (v_isTold) (v_name) (v_sortOf) (v_first) (v_second) (v_degree) (v_colours) (v_signBy) (v_own) lines size atF place sort value fault faultPlace lastFault lastPlace (.ref q_sF) (.ref q_kept) undoable_1 hasImage (v_power) (v_table) (v_marks) (v_row) rowOf_1 areSums isSieved (v_lastOf) blocks (v_inBlock) (v_atQuotient) (v_small) drawn, aI Y q_sF 74 sF_1, aI Y q_kept 1554 kept_1]) rfl ?_)
    replace h := h sF_1 esF_1
    refine g_iload_n C dX11_modulus_35 0 rfl ?_
    exact g_iret C hR (Nat.le_of_ble_eq_true rfl) (Nat.le_of_ble_eq_true rfl) dX11_modulus_36 ⟨x2_1, 0, undoable_1, rowOf_1, sF_1, kept_1, rfl, rfl, h⟩
  · replace h := h.2 c_1
    refine g_iconst (v := (-1)) C dX11_modulus_15 rfl ?_
    exact g_iret C hR (Nat.le_of_ble_eq_true rfl) (Nat.le_of_ble_eq_true rfl) dX11_modulus_16 ⟨(-1), 0, undoable, rowOf, sF, kept, rfl, rfl, h⟩
theorem dX11_set_0 : decode cX11_set 0 = .ok (.aload_n 0, 1) := by decide +kernel
theorem dX11_set_1 : decode cX11_set 1 = .ok (.iconst 0, 1) := by decide +kernel
theorem dX11_set_2 : decode cX11_set 2 = .ok (.putfield 89, 3) := by decide +kernel
theorem dX11_set_5 : decode cX11_set 5 = .ok (.aload_n 0, 1) := by decide +kernel
theorem dX11_set_6 : decode cX11_set 6 = .ok (.iload_n 1, 1) := by decide +kernel
theorem dX11_set_7 : decode cX11_set 7 = .ok (.invokevirtual 244, 3) := by decide +kernel
theorem dX11_set_10 : decode cX11_set 10 = .ok (.ifCond .eq 40, 3) := by decide +kernel
theorem dX11_set_13 : decode cX11_set 13 = .ok (.iload_n 2, 1) := by decide +kernel
theorem dX11_set_14 : decode cX11_set 14 = .ok (.iconst 1, 1) := by decide +kernel
theorem dX11_set_15 : decode cX11_set 15 = .ok (.bipush 6, 2) := by decide +kernel
theorem dX11_set_17 : decode cX11_set 17 = .ok (.invokestatic 247, 3) := by decide +kernel
theorem dX11_set_20 : decode cX11_set 20 = .ok (.ifCond .eq 30, 3) := by decide +kernel
theorem dX11_set_23 : decode cX11_set 23 = .ok (.iload_n 3, 1) := by decide +kernel
theorem dX11_set_24 : decode cX11_set 24 = .ok (.sipush (-999), 3) := by decide +kernel
theorem dX11_set_27 : decode cX11_set 27 = .ok (.sipush 999, 3) := by decide +kernel
theorem dX11_set_30 : decode cX11_set 30 = .ok (.invokestatic 247, 3) := by decide +kernel
theorem dX11_set_33 : decode cX11_set 33 = .ok (.ifCond .eq 17, 3) := by decide +kernel
theorem dX11_set_36 : decode cX11_set 36 = .ok (.iload 4, 2) := by decide +kernel
theorem dX11_set_38 : decode cX11_set 38 = .ok (.sipush (-999), 3) := by decide +kernel
theorem dX11_set_41 : decode cX11_set 41 = .ok (.sipush 999, 3) := by decide +kernel
theorem dX11_set_44 : decode cX11_set 44 = .ok (.invokestatic 247, 3) := by decide +kernel
theorem dX11_set_47 : decode cX11_set 47 = .ok (.ifCond .ne 5, 3) := by decide +kernel
theorem dX11_set_50 : decode cX11_set 50 = .ok (.iconst 0, 1) := by decide +kernel
theorem dX11_set_51 : decode cX11_set 51 = .ok (.ireturn, 1) := by decide +kernel
theorem dX11_set_52 : decode cX11_set 52 = .ok (.aload_n 0, 1) := by decide +kernel
theorem dX11_set_53 : decode cX11_set 53 = .ok (.invokevirtual 251, 3) := by decide +kernel
theorem dX11_set_56 : decode cX11_set 56 = .ok (.aload_n 0, 1) := by decide +kernel
theorem dX11_set_57 : decode cX11_set 57 = .ok (.getfield 48, 3) := by decide +kernel
theorem dX11_set_60 : decode cX11_set 60 = .ok (.iconst 2, 1) := by decide +kernel
theorem dX11_set_61 : decode cX11_set 61 = .ok (.bipush 12, 2) := by decide +kernel
theorem dX11_set_63 : decode cX11_set 63 = .ok (.iload_n 1, 1) := by decide +kernel
theorem dX11_set_64 : decode cX11_set 64 = .ok (.bipush 6, 2) := by decide +kernel
theorem dX11_set_66 : decode cX11_set 66 = .ok (.isub, 1) := by decide +kernel
theorem dX11_set_67 : decode cX11_set 67 = .ok (.imul, 1) := by decide +kernel
theorem dX11_set_68 : decode cX11_set 68 = .ok (.iadd, 1) := by decide +kernel
theorem dX11_set_69 : decode cX11_set 69 = .ok (.iconst 2, 1) := by decide +kernel
theorem dX11_set_70 : decode cX11_set 70 = .ok (.iload_n 2, 1) := by decide +kernel
theorem dX11_set_71 : decode cX11_set 71 = .ok (.imul, 1) := by decide +kernel
theorem dX11_set_72 : decode cX11_set 72 = .ok (.iadd, 1) := by decide +kernel
theorem dX11_set_73 : decode cX11_set 73 = .ok (.iconst 2, 1) := by decide +kernel
theorem dX11_set_74 : decode cX11_set 74 = .ok (.isub, 1) := by decide +kernel
theorem dX11_set_75 : decode cX11_set 75 = .ok (.iload_n 3, 1) := by decide +kernel
theorem dX11_set_76 : decode cX11_set 76 = .ok (.iastore, 1) := by decide +kernel
theorem dX11_set_77 : decode cX11_set 77 = .ok (.aload_n 0, 1) := by decide +kernel
theorem dX11_set_78 : decode cX11_set 78 = .ok (.getfield 48, 3) := by decide +kernel
theorem dX11_set_81 : decode cX11_set 81 = .ok (.iconst 2, 1) := by decide +kernel
theorem dX11_set_82 : decode cX11_set 82 = .ok (.bipush 12, 2) := by decide +kernel
theorem dX11_set_84 : decode cX11_set 84 = .ok (.iload_n 1, 1) := by decide +kernel
theorem dX11_set_85 : decode cX11_set 85 = .ok (.bipush 6, 2) := by decide +kernel
theorem dX11_set_87 : decode cX11_set 87 = .ok (.isub, 1) := by decide +kernel
theorem dX11_set_88 : decode cX11_set 88 = .ok (.imul, 1) := by decide +kernel
theorem dX11_set_89 : decode cX11_set 89 = .ok (.iadd, 1) := by decide +kernel
theorem dX11_set_90 : decode cX11_set 90 = .ok (.iconst 2, 1) := by decide +kernel
theorem dX11_set_91 : decode cX11_set 91 = .ok (.iload_n 2, 1) := by decide +kernel
theorem dX11_set_92 : decode cX11_set 92 = .ok (.imul, 1) := by decide +kernel
theorem dX11_set_93 : decode cX11_set 93 = .ok (.iadd, 1) := by decide +kernel
theorem dX11_set_94 : decode cX11_set 94 = .ok (.iconst 1, 1) := by decide +kernel
theorem dX11_set_95 : decode cX11_set 95 = .ok (.isub, 1) := by decide +kernel
theorem dX11_set_96 : decode cX11_set 96 = .ok (.iload 4, 2) := by decide +kernel
theorem dX11_set_98 : decode cX11_set 98 = .ok (.iastore, 1) := by decide +kernel
theorem dX11_set_99 : decode cX11_set 99 = .ok (.iconst 1, 1) := by decide +kernel
theorem dX11_set_100 : decode cX11_set 100 = .ok (.ireturn, 1) := by decide +kernel
/-- QuotientSumsModel.set(IIII)Z -/
def wX11_set (thrown : Int32) (taped : Int32) (lines : Int32) (size : Int32) (atF : Int32) (place : Int32) (sort : Int32) (value : Int32) (fault : Int32) (faultPlace : Int32) (lastFault : Int32) (lastPlace : Int32) (undoable : Int32) (hasImage : Int32) (rowOf : Int32) (areSums : Int32) (isSieved : Int32) (blocks : Int32) (drawn : Int32) (number : Nat → Int32) (sortOf : Nat → Int32) (kept : Nat → Int32) (sF : Nat → Int32) (a1 : Int32) (a2 : Int32) (a3 : Int32) (a4 : Int32) (Q : (Int32) → (Int32) → (Int32) → (Int32) → (Nat → Int32) → (Nat → Int32) → Prop) : Prop :=
  (∃ (P_1 : (Int32) → Prop), wX11_isOwn 0 taped lines size atF place sort value fault faultPlace lastFault lastPlace undoable hasImage rowOf areSums isSieved blocks drawn number sortOf a1 P_1 ∧ ∀ (rF_1 : Int32), P_1 rF_1 → ((rF_1 = 0 → (Q 0 0 undoable rowOf kept sF)) ∧ (¬ rF_1 = 0 → (∃ (P_2 : (Int32) → Prop), wX11_within a2 1 6 P_2 ∧ ∀ (rF_2 : Int32), P_2 rF_2 → ((rF_2 = 0 → (Q 0 0 undoable rowOf kept sF)) ∧ (¬ rF_2 = 0 → (∃ (P_3 : (Int32) → Prop), wX11_within a3 (-999) 999 P_3 ∧ ∀ (rF_3 : Int32), P_3 rF_3 → ((rF_3 = 0 → (Q 0 0 undoable rowOf kept sF)) ∧ (¬ rF_3 = 0 → (∃ (P_4 : (Int32) → Prop), wX11_within a4 (-999) 999 P_4 ∧ ∀ (rF_4 : Int32), P_4 rF_4 → ((¬ rF_4 = 0 → (∃ (P_5 : (Int32) → (Int32) → (Nat → Int32) → Prop), wX11_remembers 0 taped lines size atF place sort value fault faultPlace lastFault lastPlace undoable hasImage rowOf areSums isSieved blocks drawn kept sF P_5 ∧ ∀ (undoable_1 : Int32) (rowOf_1 : Int32) (kept_1 : Nat → Int32), P_5 undoable_1 rowOf_1 kept_1 → vp_in (((2 + (12 * (a1 - 6))) + (2 * a2)) - 2) 74 ∧ ∀ sF_1 : Nat → Int32, sF_1 = upd sF (((2 + (12 * (a1 - 6))) + (2 * a2)) - 2).toNatClampNeg a3 → vp_in (((2 + (12 * (a1 - 6))) + (2 * a2)) - 1) 74 ∧ ∀ sF_2 : Nat → Int32, sF_2 = upd sF_1 (((2 + (12 * (a1 - 6))) + (2 * a2)) - 1).toNatClampNeg a4 → (Q 1 0 undoable_1 rowOf_1 kept_1 sF_2))) ∧ (rF_4 = 0 → (Q 0 0 undoable rowOf kept sF)))))))))))))
set_option maxHeartbeats 4000000 in
set_option maxRecDepth 100000 in
theorem mX11_set (l : Launch) (D : va_G) (Y : Nat → ClassId) (h0 : Nat) (thrown : Int32) (v_tape : Value) (taped : Int32) (q_number : Nat) (v_isTold : Value) (v_name : Value) (q_sortOf : Nat) (v_first : Value) (v_second : Value) (v_degree : Value) (v_colours : Value) (v_signBy : Value) (v_own : Value) (lines : Int32) (size : Int32) (atF : Int32) (place : Int32) (sort : Int32) (value : Int32) (fault : Int32) (faultPlace : Int32) (lastFault : Int32) (lastPlace : Int32) (q_sF : Nat) (q_kept : Nat) (undoable : Int32) (hasImage : Int32) (v_power : Value) (v_table : Value) (v_marks : Value) (v_row : Value) (rowOf : Int32) (areSums : Int32) (isSieved : Int32) (v_lastOf : Value) (blocks : Int32) (v_inBlock : Value) (v_atQuotient : Value) (v_small : Value) (drawn : Int32) (number : Nat → Int32) (sortOf : Nat → Int32) (kept : Nat → Int32) (sF : Nat → Int32) (a1 : Int32) (a2 : Int32) (a3 : Int32) (a4 : Int32) (Q : (Int32) → (Int32) → (Int32) → (Int32) → (Nat → Int32) → (Nat → Int32) → Prop) (h : wX11_set thrown taped lines size atF place sort value fault faultPlace lastFault lastPlace undoable hasImage rowOf areSums isSieved blocks drawn number sortOf kept sF a1 a2 a3 a4 Q) : gM l D Y yX11_set cX11_set 5 (some .boolean) 3 62 0 0 [.ref h0, .int a1, .int a2, .int a3, .int a4] [oX11 h0 thrown (v_tape) taped (.ref q_number) (v_isTold) (v_name) (.ref q_sortOf) (v_first) (v_second) (v_degree) (v_colours) (v_signBy) (v_own) lines size atF place sort value fault faultPlace lastFault lastPlace (.ref q_sF) (.ref q_kept) undoable hasImage (v_power) (v_table) (v_marks) (v_row) rowOf areSums isSieved (v_lastOf) blocks (v_inBlock) (v_atQuotient) (v_small) drawn, aI Y q_number 8 number, aI Y q_sortOf 24 sortOf, aI Y q_kept 1554 kept, aI Y q_sF 74 sF] (fun v w => ∃ r : Int32, ∃ thrown' : Int32, ∃ undoable' : Int32, ∃ rowOf' : Int32, ∃ kept' : Nat → Int32, ∃ sF' : Nat → Int32, v = some (.int r) ∧ w = [oX11 h0 thrown' (v_tape) taped (.ref q_number) (v_isTold) (v_name) (.ref q_sortOf) (v_first) (v_second) (v_degree) (v_colours) (v_signBy) (v_own) lines size atF place sort value fault faultPlace lastFault lastPlace (.ref q_sF) (.ref q_kept) undoable' hasImage (v_power) (v_table) (v_marks) (v_row) rowOf' areSums isSieved (v_lastOf) blocks (v_inBlock) (v_atQuotient) (v_small) drawn, aI Y q_number 8 number, aI Y q_sortOf 24 sortOf, aI Y q_kept 1554 kept', aI Y q_sF 74 sF'] ∧ Q r thrown' undoable' rowOf' kept' sF') := by
  refine gM_of (own := RX11) (by decide +kernel) rfl (Nat.le_of_ble_eq_true rfl) rfl (fun E C hR => ?_)
  unfold wX11_set at h
  refine g_aload_n C dX11_set_0 0 rfl ?_
  refine g_iconst (v := 0) C dX11_set_1 rfl ?_
  refine g_put C inX11 tyX11 tyX11_ok nmX11 0 rfl rfl 0 (by decide) wF_X11_89 rfl rfl rfl (Nat.le_of_ble_eq_true rfl) (ws' := [oX11 h0 0 (v_tape) taped (.ref q_number) (v_isTold) (v_name) (.ref q_sortOf) (v_first) (v_second) (v_degree) (v_colours) (v_signBy) (v_own) lines size atF place sort value fault faultPlace lastFault lastPlace (.ref q_sF) (.ref q_kept) undoable hasImage (v_power) (v_table) (v_marks) (v_row) rowOf areSums isSieved (v_lastOf) blocks (v_inBlock) (v_atQuotient) (v_small) drawn, aI Y q_number 8 number, aI Y q_sortOf 24 sortOf, aI Y q_kept 1554 kept, aI Y q_sF 74 sF]) rfl dX11_set_2 ?_
  refine g_aload_n C dX11_set_5 0 rfl ?_
  refine g_iload_n C dX11_set_6 1 rfl ?_
  obtain ⟨P_1, hP, h⟩ := h
  refine g_callV (As := [.int a1]) (rest := []) C (mX11_isOwn l D Y h0 0 v_tape taped q_number v_isTold v_name q_sortOf v_first v_second v_degree v_colours v_signBy v_own lines size atF place sort value fault faultPlace lastFault lastPlace (.ref q_sF) (.ref q_kept) undoable hasImage v_power v_table v_marks v_row rowOf areSums isSieved v_lastOf blocks v_inBlock v_atQuotient v_small drawn number sortOf a1 P_1 hP) dX11_set_7 rfl wM_X11_244 wI_X11_isOwn wV_X11_isOwn wN_X11 wC_X11_isOwn (n := 1) (by decide +kernel) rfl (q0 := 0) rfl rfl ⟨Nat.le_of_ble_eq_true rfl, Nat.le_of_ble_eq_true rfl⟩ ⟨Nat.le_of_ble_eq_true rfl, Nat.le_of_ble_eq_true rfl⟩ (Nat.le_of_ble_eq_true rfl) [0, 1, 2] [3, 4] rfl rfl rfl (fun v wc hv => ?_)
  obtain ⟨rF_1, rfl, rfl, hq⟩ := hv
  replace h := h rF_1 hq
  refine gG.perm (ws' := [oX11 h0 0 (v_tape) taped (.ref q_number) (v_isTold) (v_name) (.ref q_sortOf) (v_first) (v_second) (v_degree) (v_colours) (v_signBy) (v_own) lines size atF place sort value fault faultPlace lastFault lastPlace (.ref q_sF) (.ref q_kept) undoable hasImage (v_power) (v_table) (v_marks) (v_row) rowOf areSums isSieved (v_lastOf) blocks (v_inBlock) (v_atQuotient) (v_small) drawn, aI Y q_number 8 number, aI Y q_sortOf 24 sortOf, aI Y q_kept 1554 kept, aI Y q_sF 74 sF]) [2, 3, 4, 0, 1] rfl rfl ?_
  refine g_if_eq (tgt := 50) C dX11_set_10 (by decide) (fun c_1 => ?_) (fun c_1 => ?_)
  · replace h := h.1 c_1
    refine g_iconst (v := 0) C dX11_set_50 rfl ?_
    exact g_zret C hR (by decide) (Nat.le_of_ble_eq_true rfl) (Nat.le_of_ble_eq_true rfl) dX11_set_51 ⟨0, 0, undoable, rowOf, kept, sF, rfl, rfl, h⟩
  · replace h := h.2 c_1
    refine g_iload_n C dX11_set_13 2 rfl ?_
    refine g_iconst (v := 1) C dX11_set_14 rfl ?_
    refine g_bipush (v := 6) C dX11_set_15 rfl ?_
    obtain ⟨P_2, hP, h⟩ := h
    refine g_callS (As := [.int a2, .int 1, .int 6]) (rest := []) C (mX11_within l D Y a2 1 6 P_2 hP) dX11_set_17 rfl wM_X11_247 wS_X11_within wN_X11 wC_X11_within (n := 3) (by decide +kernel) rfl ⟨Nat.le_of_ble_eq_true rfl, Nat.le_of_ble_eq_true rfl⟩ ⟨Nat.le_of_ble_eq_true rfl, Nat.le_of_ble_eq_true rfl⟩ (Nat.le_of_ble_eq_true rfl) [] [0, 1, 2, 3, 4] rfl rfl rfl (fun v wc hv => ?_)
    obtain ⟨rF_2, rfl, rfl, hq⟩ := hv
    replace h := h rF_2 hq
    refine gG.eqw (ws' := [oX11 h0 0 (v_tape) taped (.ref q_number) (v_isTold) (v_name) (.ref q_sortOf) (v_first) (v_second) (v_degree) (v_colours) (v_signBy) (v_own) lines size atF place sort value fault faultPlace lastFault lastPlace (.ref q_sF) (.ref q_kept) undoable hasImage (v_power) (v_table) (v_marks) (v_row) rowOf areSums isSieved (v_lastOf) blocks (v_inBlock) (v_atQuotient) (v_small) drawn, aI Y q_number 8 number, aI Y q_sortOf 24 sortOf, aI Y q_kept 1554 kept, aI Y q_sF 74 sF]) rfl ?_
    refine g_if_eq (tgt := 50) C dX11_set_20 (by decide) (fun c_2 => ?_) (fun c_2 => ?_)
    · replace h := h.1 c_2
      refine g_iconst (v := 0) C dX11_set_50 rfl ?_
      exact g_zret C hR (by decide) (Nat.le_of_ble_eq_true rfl) (Nat.le_of_ble_eq_true rfl) dX11_set_51 ⟨0, 0, undoable, rowOf, kept, sF, rfl, rfl, h⟩
    · replace h := h.2 c_2
      refine g_iload_n C dX11_set_23 3 rfl ?_
      refine g_sipush (v := (-999)) C dX11_set_24 rfl ?_
      refine g_sipush (v := 999) C dX11_set_27 rfl ?_
      obtain ⟨P_3, hP, h⟩ := h
      refine g_callS (As := [.int a3, .int (-999), .int 999]) (rest := []) C (mX11_within l D Y a3 (-999) 999 P_3 hP) dX11_set_30 rfl wM_X11_247 wS_X11_within wN_X11 wC_X11_within (n := 3) (by decide +kernel) rfl ⟨Nat.le_of_ble_eq_true rfl, Nat.le_of_ble_eq_true rfl⟩ ⟨Nat.le_of_ble_eq_true rfl, Nat.le_of_ble_eq_true rfl⟩ (Nat.le_of_ble_eq_true rfl) [] [0, 1, 2, 3, 4] rfl rfl rfl (fun v wc hv => ?_)
      obtain ⟨rF_3, rfl, rfl, hq⟩ := hv
      replace h := h rF_3 hq
      refine gG.eqw (ws' := [oX11 h0 0 (v_tape) taped (.ref q_number) (v_isTold) (v_name) (.ref q_sortOf) (v_first) (v_second) (v_degree) (v_colours) (v_signBy) (v_own) lines size atF place sort value fault faultPlace lastFault lastPlace (.ref q_sF) (.ref q_kept) undoable hasImage (v_power) (v_table) (v_marks) (v_row) rowOf areSums isSieved (v_lastOf) blocks (v_inBlock) (v_atQuotient) (v_small) drawn, aI Y q_number 8 number, aI Y q_sortOf 24 sortOf, aI Y q_kept 1554 kept, aI Y q_sF 74 sF]) rfl ?_
      refine g_if_eq (tgt := 50) C dX11_set_33 (by decide) (fun c_3 => ?_) (fun c_3 => ?_)
      · replace h := h.1 c_3
        refine g_iconst (v := 0) C dX11_set_50 rfl ?_
        exact g_zret C hR (by decide) (Nat.le_of_ble_eq_true rfl) (Nat.le_of_ble_eq_true rfl) dX11_set_51 ⟨0, 0, undoable, rowOf, kept, sF, rfl, rfl, h⟩
      · replace h := h.2 c_3
        refine g_iload C dX11_set_36 4 rfl ?_
        refine g_sipush (v := (-999)) C dX11_set_38 rfl ?_
        refine g_sipush (v := 999) C dX11_set_41 rfl ?_
        obtain ⟨P_4, hP, h⟩ := h
        refine g_callS (As := [.int a4, .int (-999), .int 999]) (rest := []) C (mX11_within l D Y a4 (-999) 999 P_4 hP) dX11_set_44 rfl wM_X11_247 wS_X11_within wN_X11 wC_X11_within (n := 3) (by decide +kernel) rfl ⟨Nat.le_of_ble_eq_true rfl, Nat.le_of_ble_eq_true rfl⟩ ⟨Nat.le_of_ble_eq_true rfl, Nat.le_of_ble_eq_true rfl⟩ (Nat.le_of_ble_eq_true rfl) [] [0, 1, 2, 3, 4] rfl rfl rfl (fun v wc hv => ?_)
        obtain ⟨rF_4, rfl, rfl, hq⟩ := hv
        replace h := h rF_4 hq
        refine gG.eqw (ws' := [oX11 h0 0 (v_tape) taped (.ref q_number) (v_isTold) (v_name) (.ref q_sortOf) (v_first) (v_second) (v_degree) (v_colours) (v_signBy) (v_own) lines size atF place sort value fault faultPlace lastFault lastPlace (.ref q_sF) (.ref q_kept) undoable hasImage (v_power) (v_table) (v_marks) (v_row) rowOf areSums isSieved (v_lastOf) blocks (v_inBlock) (v_atQuotient) (v_small) drawn, aI Y q_number 8 number, aI Y q_sortOf 24 sortOf, aI Y q_kept 1554 kept, aI Y q_sF 74 sF]) rfl ?_
        refine g_if_ne (tgt := 52) C dX11_set_47 (by decide) (fun c_4 => ?_) (fun c_4 => ?_)
        · replace h := h.1 c_4
          refine g_aload_n C dX11_set_52 0 rfl ?_
          obtain ⟨P_5, hP, h⟩ := h
          refine g_callV (As := []) (rest := []) C (mX11_remembers l D Y h0 0 v_tape taped (.ref q_number) v_isTold v_name (.ref q_sortOf) v_first v_second v_degree v_colours v_signBy v_own lines size atF place sort value fault faultPlace lastFault lastPlace q_sF q_kept undoable hasImage v_power v_table v_marks v_row rowOf areSums isSieved v_lastOf blocks v_inBlock v_atQuotient v_small drawn kept sF P_5 hP) dX11_set_53 rfl wM_X11_251 wI_X11_remembers wV_X11_remembers wN_X11 wC_X11_remembers (n := 0) (by decide +kernel) rfl (q0 := 0) rfl rfl ⟨Nat.le_of_ble_eq_true rfl, Nat.le_of_ble_eq_true rfl⟩ ⟨Nat.le_of_ble_eq_true rfl, Nat.le_of_ble_eq_true rfl⟩ (Nat.le_of_ble_eq_true rfl) [0, 3, 4] [1, 2] rfl rfl rfl (fun v wc hv => ?_)
          obtain ⟨undoable_1, rowOf_1, kept_1, rfl, rfl, hq⟩ := hv
          replace h := h undoable_1 rowOf_1 kept_1 hq
          refine gG.perm (ws' := [oX11 h0 0 (v_tape) taped (.ref q_number) (v_isTold) (v_name) (.ref q_sortOf) (v_first) (v_second) (v_degree) (v_colours) (v_signBy) (v_own) lines size atF place sort value fault faultPlace lastFault lastPlace (.ref q_sF) (.ref q_kept) undoable_1 hasImage (v_power) (v_table) (v_marks) (v_row) rowOf_1 areSums isSieved (v_lastOf) blocks (v_inBlock) (v_atQuotient) (v_small) drawn, aI Y q_number 8 number, aI Y q_sortOf 24 sortOf, aI Y q_kept 1554 kept_1, aI Y q_sF 74 sF]) [2, 0, 1, 3, 4] rfl rfl ?_
          refine g_aload_n C dX11_set_56 0 rfl ?_
          refine g_get C inX11 0 rfl rfl 23 (by decide) wF_X11_48 rfl dX11_set_57 ?_
          refine g_iconst (v := 2) C dX11_set_60 rfl ?_
          refine g_bipush (v := 12) C dX11_set_61 rfl ?_
          refine g_iload_n C dX11_set_63 1 rfl ?_
          refine g_bipush (v := 6) C dX11_set_64 rfl ?_
          refine g_isub C dX11_set_66 ?_
          refine g_imul C dX11_set_67 ?_
          refine g_iadd C dX11_set_68 ?_
          refine g_iconst (v := 2) C dX11_set_69 rfl ?_
          refine g_iload_n C dX11_set_70 2 rfl ?_
          refine g_imul C dX11_set_71 ?_
          refine g_iadd C dX11_set_72 ?_
          refine g_iconst (v := 2) C dX11_set_73 rfl ?_
          refine g_isub C dX11_set_74 ?_
          refine g_iload_n C dX11_set_75 3 rfl ?_
          obtain ⟨hc_1, h⟩ := h
          refine g_iast C 4 rfl hc_1 dX11_set_76 (fun sF_1 esF_1 => gG.eqw (ws' := [oX11 h0 0 (v_tape) taped (.ref q_number) (v_isTold) (v_name) (.ref q_sortOf) (v_first) (v_second) (v_degree) (v_colours) (v_signBy) (v_own) lines size atF place sort value fault faultPlace lastFault lastPlace (.ref q_sF) (.ref q_kept) undoable_1 hasImage (v_power) (v_table) (v_marks) (v_row) rowOf_1 areSums isSieved (v_lastOf) blocks (v_inBlock) (v_atQuotient) (v_small) drawn, aI Y q_number 8 number, aI Y q_sortOf 24 sortOf, aI Y q_kept 1554 kept_1, aI Y q_sF 74 sF_1]) rfl ?_)
          replace h := h sF_1 esF_1
          refine g_aload_n C dX11_set_77 0 rfl ?_
          refine g_get C inX11 0 rfl rfl 23 (by decide) wF_X11_48 rfl dX11_set_78 ?_
          refine g_iconst (v := 2) C dX11_set_81 rfl ?_
          refine g_bipush (v := 12) C dX11_set_82 rfl ?_
          refine g_iload_n C dX11_set_84 1 rfl ?_
          refine g_bipush (v := 6) C dX11_set_85 rfl ?_
          refine g_isub C dX11_set_87 ?_
          refine g_imul C dX11_set_88 ?_
          refine g_iadd C dX11_set_89 ?_
          refine g_iconst (v := 2) C dX11_set_90 rfl ?_
          refine g_iload_n C dX11_set_91 2 rfl ?_
          refine g_imul C dX11_set_92 ?_
          refine g_iadd C dX11_set_93 ?_
          refine g_iconst (v := 1) C dX11_set_94 rfl ?_
          refine g_isub C dX11_set_95 ?_
          refine g_iload C dX11_set_96 4 rfl ?_
          obtain ⟨hc_2, h⟩ := h
          refine g_iast C 4 rfl hc_2 dX11_set_98 (fun sF_2 esF_2 => gG.eqw (ws' := [oX11 h0 0 (v_tape) taped (.ref q_number) (v_isTold) (v_name) (.ref q_sortOf) (v_first) (v_second) (v_degree) (v_colours) (v_signBy) (v_own) lines size atF place sort value fault faultPlace lastFault lastPlace (.ref q_sF) (.ref q_kept) undoable_1 hasImage (v_power) (v_table) (v_marks) (v_row) rowOf_1 areSums isSieved (v_lastOf) blocks (v_inBlock) (v_atQuotient) (v_small) drawn, aI Y q_number 8 number, aI Y q_sortOf 24 sortOf, aI Y q_kept 1554 kept_1, aI Y q_sF 74 sF_2]) rfl ?_)
          replace h := h sF_2 esF_2
          refine g_iconst (v := 1) C dX11_set_99 rfl ?_
          exact g_zret C hR (by decide) (Nat.le_of_ble_eq_true rfl) (Nat.le_of_ble_eq_true rfl) dX11_set_100 ⟨1, 0, undoable_1, rowOf_1, kept_1, sF_2, rfl, rfl, h⟩
        · replace h := h.2 c_4
          refine g_iconst (v := 0) C dX11_set_50 rfl ?_
          exact g_zret C hR (by decide) (Nat.le_of_ble_eq_true rfl) (Nat.le_of_ble_eq_true rfl) dX11_set_51 ⟨0, 0, undoable, rowOf, kept, sF, rfl, rfl, h⟩
theorem dX11_rest_0 : decode cX11_rest 0 = .ok (.lload_n 1, 1) := by decide +kernel
theorem dX11_rest_1 : decode cX11_rest 1 = .ok (.aload_n 0, 1) := by decide +kernel
theorem dX11_rest_2 : decode cX11_rest 2 = .ok (.getfield 48, 3) := by decide +kernel
theorem dX11_rest_5 : decode cX11_rest 5 = .ok (.iconst 1, 1) := by decide +kernel
theorem dX11_rest_6 : decode cX11_rest 6 = .ok (.iaload, 1) := by decide +kernel
theorem dX11_rest_7 : decode cX11_rest 7 = .ok (.i2l, 1) := by decide +kernel
theorem dX11_rest_8 : decode cX11_rest 8 = .ok (.lrem, 1) := by decide +kernel
theorem dX11_rest_9 : decode cX11_rest 9 = .ok (.lstore_n 3, 1) := by decide +kernel
theorem dX11_rest_10 : decode cX11_rest 10 = .ok (.lload_n 3, 1) := by decide +kernel
theorem dX11_rest_11 : decode cX11_rest 11 = .ok (.lconst 0, 1) := by decide +kernel
theorem dX11_rest_12 : decode cX11_rest 12 = .ok (.lcmp, 1) := by decide +kernel
theorem dX11_rest_13 : decode cX11_rest 13 = .ok (.ifCond .ge 15, 3) := by decide +kernel
theorem dX11_rest_16 : decode cX11_rest 16 = .ok (.lload_n 3, 1) := by decide +kernel
theorem dX11_rest_17 : decode cX11_rest 17 = .ok (.aload_n 0, 1) := by decide +kernel
theorem dX11_rest_18 : decode cX11_rest 18 = .ok (.getfield 48, 3) := by decide +kernel
theorem dX11_rest_21 : decode cX11_rest 21 = .ok (.iconst 1, 1) := by decide +kernel
theorem dX11_rest_22 : decode cX11_rest 22 = .ok (.iaload, 1) := by decide +kernel
theorem dX11_rest_23 : decode cX11_rest 23 = .ok (.i2l, 1) := by decide +kernel
theorem dX11_rest_24 : decode cX11_rest 24 = .ok (.ladd, 1) := by decide +kernel
theorem dX11_rest_25 : decode cX11_rest 25 = .ok (.goto 4, 3) := by decide +kernel
theorem dX11_rest_28 : decode cX11_rest 28 = .ok (.lload_n 3, 1) := by decide +kernel
theorem dX11_rest_29 : decode cX11_rest 29 = .ok (.lreturn, 1) := by decide +kernel
/-- QuotientSumsModel.rest(J)J -/
def wX11_rest (thrown : Int32) (taped : Int32) (lines : Int32) (size : Int32) (atF : Int32) (place : Int32) (sort : Int32) (value : Int32) (fault : Int32) (faultPlace : Int32) (lastFault : Int32) (lastPlace : Int32) (undoable : Int32) (hasImage : Int32) (rowOf : Int32) (areSums : Int32) (isSieved : Int32) (blocks : Int32) (drawn : Int32) (sF : Nat → Int32) (a1 : Int64) (Q : (Int64) → Prop) : Prop :=
  (¬ ((sF 1).toInt64) = 0 ∧ ∀ x3_1 : Int64, x3_1 = a1 - a1 / ((sF 1).toInt64) * ((sF 1).toInt64) → ((0 ≤ (lg_cmp x3_1 0) → (Q x3_1)) ∧ (¬ 0 ≤ (lg_cmp x3_1 0) → (Q (x3_1 + ((sF 1).toInt64))))))
set_option maxHeartbeats 4000000 in
set_option maxRecDepth 100000 in
theorem mX11_rest (l : Launch) (D : va_G) (Y : Nat → ClassId) (h0 : Nat) (thrown : Int32) (v_tape : Value) (taped : Int32) (v_number : Value) (v_isTold : Value) (v_name : Value) (v_sortOf : Value) (v_first : Value) (v_second : Value) (v_degree : Value) (v_colours : Value) (v_signBy : Value) (v_own : Value) (lines : Int32) (size : Int32) (atF : Int32) (place : Int32) (sort : Int32) (value : Int32) (fault : Int32) (faultPlace : Int32) (lastFault : Int32) (lastPlace : Int32) (q_sF : Nat) (v_kept : Value) (undoable : Int32) (hasImage : Int32) (v_power : Value) (v_table : Value) (v_marks : Value) (v_row : Value) (rowOf : Int32) (areSums : Int32) (isSieved : Int32) (v_lastOf : Value) (blocks : Int32) (v_inBlock : Value) (v_atQuotient : Value) (v_small : Value) (drawn : Int32) (sF : Nat → Int32) (a1 : Int64) (Q : (Int64) → Prop) (h : wX11_rest thrown taped lines size atF place sort value fault faultPlace lastFault lastPlace undoable hasImage rowOf areSums isSieved blocks drawn sF a1 Q) : gM l D Y yX11_rest cX11_rest 5 (some .long) 0 0 0 0 [.ref h0, .long a1] [oX11 h0 thrown (v_tape) taped (v_number) (v_isTold) (v_name) (v_sortOf) (v_first) (v_second) (v_degree) (v_colours) (v_signBy) (v_own) lines size atF place sort value fault faultPlace lastFault lastPlace (.ref q_sF) (v_kept) undoable hasImage (v_power) (v_table) (v_marks) (v_row) rowOf areSums isSieved (v_lastOf) blocks (v_inBlock) (v_atQuotient) (v_small) drawn, aI Y q_sF 74 sF] (fun v w => ∃ r : Int64, v = some (.long r) ∧ w = [oX11 h0 thrown (v_tape) taped (v_number) (v_isTold) (v_name) (v_sortOf) (v_first) (v_second) (v_degree) (v_colours) (v_signBy) (v_own) lines size atF place sort value fault faultPlace lastFault lastPlace (.ref q_sF) (v_kept) undoable hasImage (v_power) (v_table) (v_marks) (v_row) rowOf areSums isSieved (v_lastOf) blocks (v_inBlock) (v_atQuotient) (v_small) drawn, aI Y q_sF 74 sF] ∧ Q r) := by
  refine gM_of (own := RX11) (by decide +kernel) rfl (Nat.le_of_ble_eq_true rfl) rfl (fun E C hR => ?_)
  unfold wX11_rest at h
  refine g_lload_n C dX11_rest_0 1 rfl ?_
  refine g_aload_n C dX11_rest_1 0 rfl ?_
  refine g_get C inX11 0 rfl rfl 23 (by decide) wF_X11_48 rfl dX11_rest_2 ?_
  refine g_iconst (v := 1) C dX11_rest_5 rfl ?_
  refine g_iald C 1 rfl (by unfold vp_in; decide) dX11_rest_6 ?_
  refine g_i2l C dX11_rest_7 ?_
  obtain ⟨hc_1, h⟩ := h
  refine g_lrem C dX11_rest_8 hc_1 ?_
  refine g_topl (fun x3_1 ex3_1 => ?_)
  replace h := h x3_1 ex3_1
  refine g_lstore_n (lv' := [(3, .long x3_1), (0, .ref h0), (1, .long a1)]) C dX11_rest_9 (by decide) rfl ?_
  refine g_lload_n C dX11_rest_10 0 rfl ?_
  refine g_lconst (v := 0) C dX11_rest_11 rfl ?_
  refine g_lcmp C dX11_rest_12 ?_
  refine g_if_ge (tgt := 28) C dX11_rest_13 (by decide) (fun c_1 => ?_) (fun c_1 => ?_)
  · replace h := h.1 c_1
    refine g_lload_n C dX11_rest_28 0 rfl ?_
    exact g_lret C hR (Nat.le_of_ble_eq_true rfl) (Nat.le_of_ble_eq_true rfl) dX11_rest_29 ⟨x3_1, rfl, rfl, h⟩
  · replace h := h.2 c_1
    refine g_lload_n C dX11_rest_16 0 rfl ?_
    refine g_aload_n C dX11_rest_17 1 rfl ?_
    refine g_get C inX11 0 rfl rfl 23 (by decide) wF_X11_48 rfl dX11_rest_18 ?_
    refine g_iconst (v := 1) C dX11_rest_21 rfl ?_
    refine g_iald C 1 rfl (by unfold vp_in; decide) dX11_rest_22 ?_
    refine g_i2l C dX11_rest_23 ?_
    refine g_ladd C dX11_rest_24 ?_
    refine g_goto (tgt := 29) C dX11_rest_25 (by decide) ?_
    exact g_lret C hR (Nat.le_of_ble_eq_true rfl) (Nat.le_of_ble_eq_true rfl) dX11_rest_29 ⟨x3_1 + ((sF 1).toInt64), rfl, rfl, h⟩
theorem dX11_known_0 : decode cX11_known 0 = .ok (.iload_n 1, 1) := by decide +kernel
theorem dX11_known_1 : decode cX11_known 1 = .ok (.tableswitch 78 0 4 #[35, 37, 44, 57, 73], 35) := by decide +kernel
theorem dX11_known_36 : decode cX11_known 36 = .ok (.lconst 1, 1) := by decide +kernel
theorem dX11_known_37 : decode cX11_known 37 = .ok (.lreturn, 1) := by decide +kernel
theorem dX11_known_38 : decode cX11_known 38 = .ok (.aload_n 0, 1) := by decide +kernel
theorem dX11_known_39 : decode cX11_known 39 = .ok (.getfield 54, 3) := by decide +kernel
theorem dX11_known_42 : decode cX11_known 42 = .ok (.iload_n 2, 1) := by decide +kernel
theorem dX11_known_43 : decode cX11_known 43 = .ok (.laload, 1) := by decide +kernel
theorem dX11_known_44 : decode cX11_known 44 = .ok (.lreturn, 1) := by decide +kernel
theorem dX11_known_45 : decode cX11_known 45 = .ok (.iload_n 2, 1) := by decide +kernel
theorem dX11_known_46 : decode cX11_known 46 = .ok (.iconst 1, 1) := by decide +kernel
theorem dX11_known_47 : decode cX11_known 47 = .ok (.if_icmp .ne 9, 3) := by decide +kernel
theorem dX11_known_50 : decode cX11_known 50 = .ok (.ldc2_w 254, 3) := by decide +kernel
theorem dX11_known_53 : decode cX11_known 53 = .ok (.goto 4, 3) := by decide +kernel
theorem dX11_known_56 : decode cX11_known 56 = .ok (.lconst 0, 1) := by decide +kernel
theorem dX11_known_57 : decode cX11_known 57 = .ok (.lreturn, 1) := by decide +kernel
theorem dX11_known_58 : decode cX11_known 58 = .ok (.aload_n 0, 1) := by decide +kernel
theorem dX11_known_59 : decode cX11_known 59 = .ok (.getfield 54, 3) := by decide +kernel
theorem dX11_known_62 : decode cX11_known 62 = .ok (.iload_n 2, 1) := by decide +kernel
theorem dX11_known_63 : decode cX11_known 63 = .ok (.laload, 1) := by decide +kernel
theorem dX11_known_64 : decode cX11_known 64 = .ok (.aload_n 0, 1) := by decide +kernel
theorem dX11_known_65 : decode cX11_known 65 = .ok (.getfield 54, 3) := by decide +kernel
theorem dX11_known_68 : decode cX11_known 68 = .ok (.iload_n 2, 1) := by decide +kernel
theorem dX11_known_69 : decode cX11_known 69 = .ok (.iconst 1, 1) := by decide +kernel
theorem dX11_known_70 : decode cX11_known 70 = .ok (.isub, 1) := by decide +kernel
theorem dX11_known_71 : decode cX11_known 71 = .ok (.laload, 1) := by decide +kernel
theorem dX11_known_72 : decode cX11_known 72 = .ok (.lsub, 1) := by decide +kernel
theorem dX11_known_73 : decode cX11_known 73 = .ok (.lreturn, 1) := by decide +kernel
theorem dX11_known_74 : decode cX11_known 74 = .ok (.iload_n 2, 1) := by decide +kernel
theorem dX11_known_75 : decode cX11_known 75 = .ok (.i2l, 1) := by decide +kernel
theorem dX11_known_76 : decode cX11_known 76 = .ok (.lconst 1, 1) := by decide +kernel
theorem dX11_known_77 : decode cX11_known 77 = .ok (.ladd, 1) := by decide +kernel
theorem dX11_known_78 : decode cX11_known 78 = .ok (.lreturn, 1) := by decide +kernel
theorem dX11_known_79 : decode cX11_known 79 = .ok (.aload_n 0, 1) := by decide +kernel
theorem dX11_known_80 : decode cX11_known 80 = .ok (.getfield 58, 3) := by decide +kernel
theorem dX11_known_83 : decode cX11_known 83 = .ok (.bipush 18, 2) := by decide +kernel
theorem dX11_known_85 : decode cX11_known 85 = .ok (.iload_n 1, 1) := by decide +kernel
theorem dX11_known_86 : decode cX11_known 86 = .ok (.imul, 1) := by decide +kernel
theorem dX11_known_87 : decode cX11_known 87 = .ok (.iload_n 2, 1) := by decide +kernel
theorem dX11_known_88 : decode cX11_known 88 = .ok (.iadd, 1) := by decide +kernel
theorem dX11_known_89 : decode cX11_known 89 = .ok (.iconst 1, 1) := by decide +kernel
theorem dX11_known_90 : decode cX11_known 90 = .ok (.isub, 1) := by decide +kernel
theorem dX11_known_91 : decode cX11_known 91 = .ok (.laload, 1) := by decide +kernel
theorem dX11_known_92 : decode cX11_known 92 = .ok (.aload_n 0, 1) := by decide +kernel
theorem dX11_known_93 : decode cX11_known 93 = .ok (.getfield 54, 3) := by decide +kernel
theorem dX11_known_96 : decode cX11_known 96 = .ok (.iload_n 2, 1) := by decide +kernel
theorem dX11_known_97 : decode cX11_known 97 = .ok (.laload, 1) := by decide +kernel
theorem dX11_known_98 : decode cX11_known 98 = .ok (.ladd, 1) := by decide +kernel
theorem dX11_known_99 : decode cX11_known 99 = .ok (.lreturn, 1) := by decide +kernel
/-- QuotientSumsModel.known(II)J -/
def wX11_known (thrown : Int32) (taped : Int32) (lines : Int32) (size : Int32) (atF : Int32) (place : Int32) (sort : Int32) (value : Int32) (fault : Int32) (faultPlace : Int32) (lastFault : Int32) (lastPlace : Int32) (undoable : Int32) (hasImage : Int32) (rowOf : Int32) (areSums : Int32) (isSieved : Int32) (blocks : Int32) (drawn : Int32) (power : Nat → Int64) (table : Nat → Int64) (a1 : Int32) (a2 : Int32) (Q : (Int64) → Prop) : Prop :=
  ((a1 = 0 → (Q 1)) ∧ (¬ a1 = 0 → ((a1 = 1 → (vp_in a2 18 ∧ (Q (power a2.toNatClampNeg)))) ∧ (¬ a1 = 1 → ((a1 = 2 → ((¬ a2 = 1 → (Q 0)) ∧ (a2 = 1 → (Q (-1))))) ∧ (¬ a1 = 2 → ((a1 = 3 → (vp_in a2 18 ∧ vp_in (a2 - 1) 18 ∧ (Q ((power a2.toNatClampNeg) - (power (a2 - 1).toNatClampNeg))))) ∧ (¬ a1 = 3 → ((a1 = 4 → (Q ((a2.toInt64) + 1))) ∧ (¬ a1 = 4 → (vp_in (((18 * a1) + a2) - 1) 216 ∧ vp_in a2 18 ∧ ∀ t_1 : Int64, t_1 = (table (((18 * a1) + a2) - 1).toNatClampNeg) + (power a2.toNatClampNeg) → (Q t_1))))))))))))
set_option maxHeartbeats 4000000 in
set_option maxRecDepth 100000 in
theorem mX11_known (l : Launch) (D : va_G) (Y : Nat → ClassId) (h0 : Nat) (thrown : Int32) (v_tape : Value) (taped : Int32) (v_number : Value) (v_isTold : Value) (v_name : Value) (v_sortOf : Value) (v_first : Value) (v_second : Value) (v_degree : Value) (v_colours : Value) (v_signBy : Value) (v_own : Value) (lines : Int32) (size : Int32) (atF : Int32) (place : Int32) (sort : Int32) (value : Int32) (fault : Int32) (faultPlace : Int32) (lastFault : Int32) (lastPlace : Int32) (v_sF : Value) (v_kept : Value) (undoable : Int32) (hasImage : Int32) (q_power : Nat) (q_table : Nat) (v_marks : Value) (v_row : Value) (rowOf : Int32) (areSums : Int32) (isSieved : Int32) (v_lastOf : Value) (blocks : Int32) (v_inBlock : Value) (v_atQuotient : Value) (v_small : Value) (drawn : Int32) (power : Nat → Int64) (table : Nat → Int64) (a1 : Int32) (a2 : Int32) (Q : (Int64) → Prop) (h : wX11_known thrown taped lines size atF place sort value fault faultPlace lastFault lastPlace undoable hasImage rowOf areSums isSieved blocks drawn power table a1 a2 Q) : gM l D Y yX11_known cX11_known 3 (some .long) 0 0 0 0 [.ref h0, .int a1, .int a2] [oX11 h0 thrown (v_tape) taped (v_number) (v_isTold) (v_name) (v_sortOf) (v_first) (v_second) (v_degree) (v_colours) (v_signBy) (v_own) lines size atF place sort value fault faultPlace lastFault lastPlace (v_sF) (v_kept) undoable hasImage (.ref q_power) (.ref q_table) (v_marks) (v_row) rowOf areSums isSieved (v_lastOf) blocks (v_inBlock) (v_atQuotient) (v_small) drawn, aJ Y q_power 18 power, aJ Y q_table 216 table] (fun v w => ∃ r : Int64, v = some (.long r) ∧ w = [oX11 h0 thrown (v_tape) taped (v_number) (v_isTold) (v_name) (v_sortOf) (v_first) (v_second) (v_degree) (v_colours) (v_signBy) (v_own) lines size atF place sort value fault faultPlace lastFault lastPlace (v_sF) (v_kept) undoable hasImage (.ref q_power) (.ref q_table) (v_marks) (v_row) rowOf areSums isSieved (v_lastOf) blocks (v_inBlock) (v_atQuotient) (v_small) drawn, aJ Y q_power 18 power, aJ Y q_table 216 table] ∧ Q r) := by
  refine gM_of (own := RX11) (by decide +kernel) rfl (Nat.le_of_ble_eq_true rfl) rfl (fun E C hR => ?_)
  unfold wX11_known at h
  refine g_iload_n C dX11_known_0 1 rfl ?_
  by_cases c_1 : a1 = 0
  · replace h := h.1 c_1
    refine g_tabI (v := 0) (tgt := 36) C dX11_known_1 c_1 (by decide) (by decide) rfl (by decide) ?_
    refine g_lconst (v := 1) C dX11_known_36 rfl ?_
    exact g_lret C hR (Nat.le_of_ble_eq_true rfl) (Nat.le_of_ble_eq_true rfl) dX11_known_37 ⟨1, rfl, rfl, h⟩
  · replace h := h.2 c_1
    by_cases c_2 : a1 = 1
    · replace h := h.1 c_2
      refine g_tabI (v := 1) (tgt := 38) C dX11_known_1 c_2 (by decide) (by decide) rfl (by decide) ?_
      refine g_aload_n C dX11_known_38 0 rfl ?_
      refine g_get C inX11 0 rfl rfl 27 (by decide) wF_X11_54 rfl dX11_known_39 ?_
      refine g_iload_n C dX11_known_42 2 rfl ?_
      obtain ⟨hc_1, h⟩ := h
      refine g_lald C 1 rfl hc_1 dX11_known_43 ?_
      exact g_lret C hR (Nat.le_of_ble_eq_true rfl) (Nat.le_of_ble_eq_true rfl) dX11_known_44 ⟨power a2.toNatClampNeg, rfl, rfl, h⟩
    · replace h := h.2 c_2
      by_cases c_3 : a1 = 2
      · replace h := h.1 c_3
        refine g_tabI (v := 2) (tgt := 45) C dX11_known_1 c_3 (by decide) (by decide) rfl (by decide) ?_
        refine g_iload_n C dX11_known_45 2 rfl ?_
        refine g_iconst (v := 1) C dX11_known_46 rfl ?_
        refine g_icmp_ne (tgt := 56) C dX11_known_47 (by decide) (fun c_4 => ?_) (fun c_4 => ?_)
        · replace h := h.1 c_4
          refine g_lconst (v := 0) C dX11_known_56 rfl ?_
          exact g_lret C hR (Nat.le_of_ble_eq_true rfl) (Nat.le_of_ble_eq_true rfl) dX11_known_57 ⟨0, rfl, rfl, h⟩
        · replace h := h.2 c_4
          refine g_ldc2 C dX11_known_50 wQ_X11_254 ?_
          refine g_goto (tgt := 57) C dX11_known_53 (by decide) ?_
          exact g_lret C hR (Nat.le_of_ble_eq_true rfl) (Nat.le_of_ble_eq_true rfl) dX11_known_57 ⟨(-1), rfl, rfl, h⟩
      · replace h := h.2 c_3
        by_cases c_5 : a1 = 3
        · replace h := h.1 c_5
          refine g_tabI (v := 3) (tgt := 58) C dX11_known_1 c_5 (by decide) (by decide) rfl (by decide) ?_
          refine g_aload_n C dX11_known_58 0 rfl ?_
          refine g_get C inX11 0 rfl rfl 27 (by decide) wF_X11_54 rfl dX11_known_59 ?_
          refine g_iload_n C dX11_known_62 2 rfl ?_
          obtain ⟨hc_2, h⟩ := h
          refine g_lald C 1 rfl hc_2 dX11_known_63 ?_
          refine g_aload_n C dX11_known_64 0 rfl ?_
          refine g_get C inX11 0 rfl rfl 27 (by decide) wF_X11_54 rfl dX11_known_65 ?_
          refine g_iload_n C dX11_known_68 2 rfl ?_
          refine g_iconst (v := 1) C dX11_known_69 rfl ?_
          refine g_isub C dX11_known_70 ?_
          obtain ⟨hc_3, h⟩ := h
          refine g_lald C 1 rfl hc_3 dX11_known_71 ?_
          refine g_lsub C dX11_known_72 ?_
          exact g_lret C hR (Nat.le_of_ble_eq_true rfl) (Nat.le_of_ble_eq_true rfl) dX11_known_73 ⟨(power a2.toNatClampNeg) - (power (a2 - 1).toNatClampNeg), rfl, rfl, h⟩
        · replace h := h.2 c_5
          by_cases c_6 : a1 = 4
          · replace h := h.1 c_6
            refine g_tabI (v := 4) (tgt := 74) C dX11_known_1 c_6 (by decide) (by decide) rfl (by decide) ?_
            refine g_iload_n C dX11_known_74 2 rfl ?_
            refine g_i2l C dX11_known_75 ?_
            refine g_lconst (v := 1) C dX11_known_76 rfl ?_
            refine g_ladd C dX11_known_77 ?_
            exact g_lret C hR (Nat.le_of_ble_eq_true rfl) (Nat.le_of_ble_eq_true rfl) dX11_known_78 ⟨(a2.toInt64) + 1, rfl, rfl, h⟩
          · replace h := h.2 c_6
            refine g_tabO (tgt := 79) C dX11_known_1 [0, 1, 2, 3, 4] (by decide) (by exact ⟨c_1, c_2, c_3, c_5, c_6, trivial⟩) (by decide) ?_
            refine g_aload_n C dX11_known_79 0 rfl ?_
            refine g_get C inX11 0 rfl rfl 28 (by decide) wF_X11_58 rfl dX11_known_80 ?_
            refine g_bipush (v := 18) C dX11_known_83 rfl ?_
            refine g_iload_n C dX11_known_85 1 rfl ?_
            refine g_imul C dX11_known_86 ?_
            refine g_iload_n C dX11_known_87 2 rfl ?_
            refine g_iadd C dX11_known_88 ?_
            refine g_iconst (v := 1) C dX11_known_89 rfl ?_
            refine g_isub C dX11_known_90 ?_
            obtain ⟨hc_4, h⟩ := h
            refine g_lald C 2 rfl hc_4 dX11_known_91 ?_
            refine g_aload_n C dX11_known_92 0 rfl ?_
            refine g_get C inX11 0 rfl rfl 27 (by decide) wF_X11_54 rfl dX11_known_93 ?_
            refine g_iload_n C dX11_known_96 2 rfl ?_
            obtain ⟨hc_5, h⟩ := h
            refine g_lald C 1 rfl hc_5 dX11_known_97 ?_
            refine g_ladd C dX11_known_98 ?_
            refine g_topl (fun t_1 et_1 => ?_)
            replace h := h t_1 et_1
            exact g_lret C hR (Nat.le_of_ble_eq_true rfl) (Nat.le_of_ble_eq_true rfl) dX11_known_99 ⟨t_1, rfl, rfl, h⟩
theorem dX11_ownAt_0 : decode cX11_ownAt 0 = .ok (.iconst 2, 1) := by decide +kernel
theorem dX11_ownAt_1 : decode cX11_ownAt 1 = .ok (.bipush 12, 2) := by decide +kernel
theorem dX11_ownAt_3 : decode cX11_ownAt 3 = .ok (.iload_n 1, 1) := by decide +kernel
theorem dX11_ownAt_4 : decode cX11_ownAt 4 = .ok (.bipush 6, 2) := by decide +kernel
theorem dX11_ownAt_6 : decode cX11_ownAt 6 = .ok (.isub, 1) := by decide +kernel
theorem dX11_ownAt_7 : decode cX11_ownAt 7 = .ok (.imul, 1) := by decide +kernel
theorem dX11_ownAt_8 : decode cX11_ownAt 8 = .ok (.iadd, 1) := by decide +kernel
theorem dX11_ownAt_9 : decode cX11_ownAt 9 = .ok (.iconst 2, 1) := by decide +kernel
theorem dX11_ownAt_10 : decode cX11_ownAt 10 = .ok (.iload_n 2, 1) := by decide +kernel
theorem dX11_ownAt_11 : decode cX11_ownAt 11 = .ok (.imul, 1) := by decide +kernel
theorem dX11_ownAt_12 : decode cX11_ownAt 12 = .ok (.iadd, 1) := by decide +kernel
theorem dX11_ownAt_13 : decode cX11_ownAt 13 = .ok (.iconst 2, 1) := by decide +kernel
theorem dX11_ownAt_14 : decode cX11_ownAt 14 = .ok (.isub, 1) := by decide +kernel
theorem dX11_ownAt_15 : decode cX11_ownAt 15 = .ok (.istore_n 3, 1) := by decide +kernel
theorem dX11_ownAt_16 : decode cX11_ownAt 16 = .ok (.iload_n 2, 1) := by decide +kernel
theorem dX11_ownAt_17 : decode cX11_ownAt 17 = .ok (.bipush 6, 2) := by decide +kernel
theorem dX11_ownAt_19 : decode cX11_ownAt 19 = .ok (.if_icmp .le 7, 3) := by decide +kernel
theorem dX11_ownAt_22 : decode cX11_ownAt 22 = .ok (.lconst 0, 1) := by decide +kernel
theorem dX11_ownAt_23 : decode cX11_ownAt 23 = .ok (.goto 27, 3) := by decide +kernel
theorem dX11_ownAt_26 : decode cX11_ownAt 26 = .ok (.aload_n 0, 1) := by decide +kernel
theorem dX11_ownAt_27 : decode cX11_ownAt 27 = .ok (.getfield 48, 3) := by decide +kernel
theorem dX11_ownAt_30 : decode cX11_ownAt 30 = .ok (.iload_n 3, 1) := by decide +kernel
theorem dX11_ownAt_31 : decode cX11_ownAt 31 = .ok (.iaload, 1) := by decide +kernel
theorem dX11_ownAt_32 : decode cX11_ownAt 32 = .ok (.i2l, 1) := by decide +kernel
theorem dX11_ownAt_33 : decode cX11_ownAt 33 = .ok (.aload_n 0, 1) := by decide +kernel
theorem dX11_ownAt_34 : decode cX11_ownAt 34 = .ok (.getfield 48, 3) := by decide +kernel
theorem dX11_ownAt_37 : decode cX11_ownAt 37 = .ok (.iload_n 3, 1) := by decide +kernel
theorem dX11_ownAt_38 : decode cX11_ownAt 38 = .ok (.iconst 1, 1) := by decide +kernel
theorem dX11_ownAt_39 : decode cX11_ownAt 39 = .ok (.iadd, 1) := by decide +kernel
theorem dX11_ownAt_40 : decode cX11_ownAt 40 = .ok (.iaload, 1) := by decide +kernel
theorem dX11_ownAt_41 : decode cX11_ownAt 41 = .ok (.i2l, 1) := by decide +kernel
theorem dX11_ownAt_42 : decode cX11_ownAt 42 = .ok (.aload_n 0, 1) := by decide +kernel
theorem dX11_ownAt_43 : decode cX11_ownAt 43 = .ok (.getfield 54, 3) := by decide +kernel
theorem dX11_ownAt_46 : decode cX11_ownAt 46 = .ok (.iconst 1, 1) := by decide +kernel
theorem dX11_ownAt_47 : decode cX11_ownAt 47 = .ok (.laload, 1) := by decide +kernel
theorem dX11_ownAt_48 : decode cX11_ownAt 48 = .ok (.lmul, 1) := by decide +kernel
theorem dX11_ownAt_49 : decode cX11_ownAt 49 = .ok (.ladd, 1) := by decide +kernel
theorem dX11_ownAt_50 : decode cX11_ownAt 50 = .ok (.lreturn, 1) := by decide +kernel
/-- QuotientSumsModel.ownAt(II)J -/
def wX11_ownAt (thrown : Int32) (taped : Int32) (lines : Int32) (size : Int32) (atF : Int32) (place : Int32) (sort : Int32) (value : Int32) (fault : Int32) (faultPlace : Int32) (lastFault : Int32) (lastPlace : Int32) (undoable : Int32) (hasImage : Int32) (rowOf : Int32) (areSums : Int32) (isSieved : Int32) (blocks : Int32) (drawn : Int32) (sF : Nat → Int32) (power : Nat → Int64) (a1 : Int32) (a2 : Int32) (Q : (Int64) → Prop) : Prop :=
  (∀ x3_1 : Int32, x3_1 = ((2 + (12 * (a1 - 6))) + (2 * a2)) - 2 → ((a2 ≤ 6 → (vp_in x3_1 74 ∧ vp_in (x3_1 + 1) 74 ∧ ∀ t_1 : Int64, t_1 = ((sF x3_1.toNatClampNeg).toInt64) + (((sF (x3_1 + 1).toNatClampNeg).toInt64) * (power 1)) → (Q t_1))) ∧ (¬ a2 ≤ 6 → (Q 0))))
set_option maxHeartbeats 4000000 in
set_option maxRecDepth 100000 in
theorem mX11_ownAt (l : Launch) (D : va_G) (Y : Nat → ClassId) (h0 : Nat) (thrown : Int32) (v_tape : Value) (taped : Int32) (v_number : Value) (v_isTold : Value) (v_name : Value) (v_sortOf : Value) (v_first : Value) (v_second : Value) (v_degree : Value) (v_colours : Value) (v_signBy : Value) (v_own : Value) (lines : Int32) (size : Int32) (atF : Int32) (place : Int32) (sort : Int32) (value : Int32) (fault : Int32) (faultPlace : Int32) (lastFault : Int32) (lastPlace : Int32) (q_sF : Nat) (v_kept : Value) (undoable : Int32) (hasImage : Int32) (q_power : Nat) (v_table : Value) (v_marks : Value) (v_row : Value) (rowOf : Int32) (areSums : Int32) (isSieved : Int32) (v_lastOf : Value) (blocks : Int32) (v_inBlock : Value) (v_atQuotient : Value) (v_small : Value) (drawn : Int32) (sF : Nat → Int32) (power : Nat → Int64) (a1 : Int32) (a2 : Int32) (Q : (Int64) → Prop) (h : wX11_ownAt thrown taped lines size atF place sort value fault faultPlace lastFault lastPlace undoable hasImage rowOf areSums isSieved blocks drawn sF power a1 a2 Q) : gM l D Y yX11_ownAt cX11_ownAt 4 (some .long) 0 0 0 0 [.ref h0, .int a1, .int a2] [oX11 h0 thrown (v_tape) taped (v_number) (v_isTold) (v_name) (v_sortOf) (v_first) (v_second) (v_degree) (v_colours) (v_signBy) (v_own) lines size atF place sort value fault faultPlace lastFault lastPlace (.ref q_sF) (v_kept) undoable hasImage (.ref q_power) (v_table) (v_marks) (v_row) rowOf areSums isSieved (v_lastOf) blocks (v_inBlock) (v_atQuotient) (v_small) drawn, aI Y q_sF 74 sF, aJ Y q_power 18 power] (fun v w => ∃ r : Int64, v = some (.long r) ∧ w = [oX11 h0 thrown (v_tape) taped (v_number) (v_isTold) (v_name) (v_sortOf) (v_first) (v_second) (v_degree) (v_colours) (v_signBy) (v_own) lines size atF place sort value fault faultPlace lastFault lastPlace (.ref q_sF) (v_kept) undoable hasImage (.ref q_power) (v_table) (v_marks) (v_row) rowOf areSums isSieved (v_lastOf) blocks (v_inBlock) (v_atQuotient) (v_small) drawn, aI Y q_sF 74 sF, aJ Y q_power 18 power] ∧ Q r) := by
  refine gM_of (own := RX11) (by decide +kernel) rfl (Nat.le_of_ble_eq_true rfl) rfl (fun E C hR => ?_)
  unfold wX11_ownAt at h
  refine g_iconst (v := 2) C dX11_ownAt_0 rfl ?_
  refine g_bipush (v := 12) C dX11_ownAt_1 rfl ?_
  refine g_iload_n C dX11_ownAt_3 1 rfl ?_
  refine g_bipush (v := 6) C dX11_ownAt_4 rfl ?_
  refine g_isub C dX11_ownAt_6 ?_
  refine g_imul C dX11_ownAt_7 ?_
  refine g_iadd C dX11_ownAt_8 ?_
  refine g_iconst (v := 2) C dX11_ownAt_9 rfl ?_
  refine g_iload_n C dX11_ownAt_10 2 rfl ?_
  refine g_imul C dX11_ownAt_11 ?_
  refine g_iadd C dX11_ownAt_12 ?_
  refine g_iconst (v := 2) C dX11_ownAt_13 rfl ?_
  refine g_isub C dX11_ownAt_14 ?_
  refine g_topi (fun x3_1 ex3_1 => ?_)
  replace h := h x3_1 ex3_1
  refine g_istore_n (lv' := [(3, .int x3_1), (0, .ref h0), (1, .int a1), (2, .int a2)]) C dX11_ownAt_15 (by decide) rfl ?_
  refine g_iload_n C dX11_ownAt_16 3 rfl ?_
  refine g_bipush (v := 6) C dX11_ownAt_17 rfl ?_
  refine g_icmp_le (tgt := 26) C dX11_ownAt_19 (by decide) (fun c_1 => ?_) (fun c_1 => ?_)
  · replace h := h.1 c_1
    refine g_aload_n C dX11_ownAt_26 1 rfl ?_
    refine g_get C inX11 0 rfl rfl 23 (by decide) wF_X11_48 rfl dX11_ownAt_27 ?_
    refine g_iload_n C dX11_ownAt_30 0 rfl ?_
    obtain ⟨hc_1, h⟩ := h
    refine g_iald C 1 rfl hc_1 dX11_ownAt_31 ?_
    refine g_i2l C dX11_ownAt_32 ?_
    refine g_aload_n C dX11_ownAt_33 1 rfl ?_
    refine g_get C inX11 0 rfl rfl 23 (by decide) wF_X11_48 rfl dX11_ownAt_34 ?_
    refine g_iload_n C dX11_ownAt_37 0 rfl ?_
    refine g_iconst (v := 1) C dX11_ownAt_38 rfl ?_
    refine g_iadd C dX11_ownAt_39 ?_
    obtain ⟨hc_2, h⟩ := h
    refine g_iald C 1 rfl hc_2 dX11_ownAt_40 ?_
    refine g_i2l C dX11_ownAt_41 ?_
    refine g_aload_n C dX11_ownAt_42 1 rfl ?_
    refine g_get C inX11 0 rfl rfl 27 (by decide) wF_X11_54 rfl dX11_ownAt_43 ?_
    refine g_iconst (v := 1) C dX11_ownAt_46 rfl ?_
    refine g_lald C 2 rfl (by unfold vp_in; decide) dX11_ownAt_47 ?_
    refine g_lmul C dX11_ownAt_48 ?_
    refine g_ladd C dX11_ownAt_49 ?_
    refine g_topl (fun t_1 et_1 => ?_)
    replace h := h t_1 et_1
    exact g_lret C hR (Nat.le_of_ble_eq_true rfl) (Nat.le_of_ble_eq_true rfl) dX11_ownAt_50 ⟨t_1, rfl, rfl, h⟩
  · replace h := h.2 c_1
    refine g_lconst (v := 0) C dX11_ownAt_22 rfl ?_
    refine g_goto (tgt := 50) C dX11_ownAt_23 (by decide) ?_
    exact g_lret C hR (Nat.le_of_ble_eq_true rfl) (Nat.le_of_ble_eq_true rfl) dX11_ownAt_50 ⟨0, rfl, rfl, h⟩
theorem dX11_together_0 : decode cX11_together 0 = .ok (.lconst 0, 1) := by decide +kernel
theorem dX11_together_1 : decode cX11_together 1 = .ok (.lstore 4, 2) := by decide +kernel
theorem dX11_together_3 : decode cX11_together 3 = .ok (.iconst 0, 1) := by decide +kernel
theorem dX11_together_4 : decode cX11_together 4 = .ok (.istore 6, 2) := by decide +kernel
theorem dX11_together_6 : decode cX11_together 6 = .ok (.iload 6, 2) := by decide +kernel
theorem dX11_together_8 : decode cX11_together 8 = .ok (.iload_n 3, 1) := by decide +kernel
theorem dX11_together_9 : decode cX11_together 9 = .ok (.if_icmp .gt 49, 3) := by decide +kernel
theorem dX11_together_12 : decode cX11_together 12 = .ok (.lload 4, 2) := by decide +kernel
theorem dX11_together_14 : decode cX11_together 14 = .ok (.aload_n 0, 1) := by decide +kernel
theorem dX11_together_15 : decode cX11_together 15 = .ok (.getfield 58, 3) := by decide +kernel
theorem dX11_together_18 : decode cX11_together 18 = .ok (.bipush 18, 2) := by decide +kernel
theorem dX11_together_20 : decode cX11_together 20 = .ok (.iload_n 1, 1) := by decide +kernel
theorem dX11_together_21 : decode cX11_together 21 = .ok (.imul, 1) := by decide +kernel
theorem dX11_together_22 : decode cX11_together 22 = .ok (.iload 6, 2) := by decide +kernel
theorem dX11_together_24 : decode cX11_together 24 = .ok (.iadd, 1) := by decide +kernel
theorem dX11_together_25 : decode cX11_together 25 = .ok (.laload, 1) := by decide +kernel
theorem dX11_together_26 : decode cX11_together 26 = .ok (.aload_n 0, 1) := by decide +kernel
theorem dX11_together_27 : decode cX11_together 27 = .ok (.getfield 58, 3) := by decide +kernel
theorem dX11_together_30 : decode cX11_together 30 = .ok (.bipush 18, 2) := by decide +kernel
theorem dX11_together_32 : decode cX11_together 32 = .ok (.iload_n 2, 1) := by decide +kernel
theorem dX11_together_33 : decode cX11_together 33 = .ok (.imul, 1) := by decide +kernel
theorem dX11_together_34 : decode cX11_together 34 = .ok (.iload_n 3, 1) := by decide +kernel
theorem dX11_together_35 : decode cX11_together 35 = .ok (.iadd, 1) := by decide +kernel
theorem dX11_together_36 : decode cX11_together 36 = .ok (.iload 6, 2) := by decide +kernel
theorem dX11_together_38 : decode cX11_together 38 = .ok (.isub, 1) := by decide +kernel
theorem dX11_together_39 : decode cX11_together 39 = .ok (.laload, 1) := by decide +kernel
theorem dX11_together_40 : decode cX11_together 40 = .ok (.lmul, 1) := by decide +kernel
theorem dX11_together_41 : decode cX11_together 41 = .ok (.aload_n 0, 1) := by decide +kernel
theorem dX11_together_42 : decode cX11_together 42 = .ok (.getfield 48, 3) := by decide +kernel
theorem dX11_together_45 : decode cX11_together 45 = .ok (.iconst 1, 1) := by decide +kernel
theorem dX11_together_46 : decode cX11_together 46 = .ok (.iaload, 1) := by decide +kernel
theorem dX11_together_47 : decode cX11_together 47 = .ok (.i2l, 1) := by decide +kernel
theorem dX11_together_48 : decode cX11_together 48 = .ok (.lrem, 1) := by decide +kernel
theorem dX11_together_49 : decode cX11_together 49 = .ok (.ladd, 1) := by decide +kernel
theorem dX11_together_50 : decode cX11_together 50 = .ok (.lstore 4, 2) := by decide +kernel
theorem dX11_together_52 : decode cX11_together 52 = .ok (.iinc 6 1, 3) := by decide +kernel
theorem dX11_together_55 : decode cX11_together 55 = .ok (.goto (-49), 3) := by decide +kernel
theorem dX11_together_58 : decode cX11_together 58 = .ok (.lload 4, 2) := by decide +kernel
theorem dX11_together_60 : decode cX11_together 60 = .ok (.lreturn, 1) := by decide +kernel
/-- QuotientSumsModel.together(III)J -/
def wX11_together (thrown : Int32) (taped : Int32) (lines : Int32) (size : Int32) (atF : Int32) (place : Int32) (sort : Int32) (value : Int32) (fault : Int32) (faultPlace : Int32) (lastFault : Int32) (lastPlace : Int32) (undoable : Int32) (hasImage : Int32) (rowOf : Int32) (areSums : Int32) (isSieved : Int32) (blocks : Int32) (drawn : Int32) (table : Nat → Int64) (sF : Nat → Int32) (a1 : Int32) (a2 : Int32) (a3 : Int32) (Q : (Int64) → Prop) : Prop :=
  (∃ (Inv_1 : (Int64) → (Int32) → Prop) (Mea_1 : (Int64) → (Int32) → Nat), Inv_1 0 0 ∧ ∀ (x4_1 : Int64) (x6_1 : Int32), Inv_1 x4_1 x6_1 → ((a3 < x6_1 → (Q x4_1)) ∧ (¬ a3 < x6_1 → (vp_in ((18 * a1) + x6_1) 216 ∧ vp_in (((18 * a2) + a3) - x6_1) 216 ∧ ∀ t_1 : Int64, t_1 = (table ((18 * a1) + x6_1).toNatClampNeg) * (table (((18 * a2) + a3) - x6_1).toNatClampNeg) → ¬ ((sF 1).toInt64) = 0 ∧ ∀ x4_2 : Int64, x4_2 = x4_1 + (t_1 - t_1 / ((sF 1).toInt64) * ((sF 1).toInt64)) → (Inv_1 x4_2 (x6_1 + 1) ∧ Mea_1 x4_2 (x6_1 + 1) < Mea_1 x4_1 x6_1)))))
set_option maxHeartbeats 4000000 in
set_option maxRecDepth 100000 in
theorem mX11_together (l : Launch) (D : va_G) (Y : Nat → ClassId) (h0 : Nat) (thrown : Int32) (v_tape : Value) (taped : Int32) (v_number : Value) (v_isTold : Value) (v_name : Value) (v_sortOf : Value) (v_first : Value) (v_second : Value) (v_degree : Value) (v_colours : Value) (v_signBy : Value) (v_own : Value) (lines : Int32) (size : Int32) (atF : Int32) (place : Int32) (sort : Int32) (value : Int32) (fault : Int32) (faultPlace : Int32) (lastFault : Int32) (lastPlace : Int32) (q_sF : Nat) (v_kept : Value) (undoable : Int32) (hasImage : Int32) (v_power : Value) (q_table : Nat) (v_marks : Value) (v_row : Value) (rowOf : Int32) (areSums : Int32) (isSieved : Int32) (v_lastOf : Value) (blocks : Int32) (v_inBlock : Value) (v_atQuotient : Value) (v_small : Value) (drawn : Int32) (table : Nat → Int64) (sF : Nat → Int32) (a1 : Int32) (a2 : Int32) (a3 : Int32) (Q : (Int64) → Prop) (h : wX11_together thrown taped lines size atF place sort value fault faultPlace lastFault lastPlace undoable hasImage rowOf areSums isSieved blocks drawn table sF a1 a2 a3 Q) : gM l D Y yX11_together cX11_together 7 (some .long) 0 0 0 0 [.ref h0, .int a1, .int a2, .int a3] [oX11 h0 thrown (v_tape) taped (v_number) (v_isTold) (v_name) (v_sortOf) (v_first) (v_second) (v_degree) (v_colours) (v_signBy) (v_own) lines size atF place sort value fault faultPlace lastFault lastPlace (.ref q_sF) (v_kept) undoable hasImage (v_power) (.ref q_table) (v_marks) (v_row) rowOf areSums isSieved (v_lastOf) blocks (v_inBlock) (v_atQuotient) (v_small) drawn, aJ Y q_table 216 table, aI Y q_sF 74 sF] (fun v w => ∃ r : Int64, v = some (.long r) ∧ w = [oX11 h0 thrown (v_tape) taped (v_number) (v_isTold) (v_name) (v_sortOf) (v_first) (v_second) (v_degree) (v_colours) (v_signBy) (v_own) lines size atF place sort value fault faultPlace lastFault lastPlace (.ref q_sF) (v_kept) undoable hasImage (v_power) (.ref q_table) (v_marks) (v_row) rowOf areSums isSieved (v_lastOf) blocks (v_inBlock) (v_atQuotient) (v_small) drawn, aJ Y q_table 216 table, aI Y q_sF 74 sF] ∧ Q r) := by
  refine gM_of (own := RX11) (by decide +kernel) rfl (Nat.le_of_ble_eq_true rfl) rfl (fun E C hR => ?_)
  unfold wX11_together at h
  refine g_lconst (v := 0) C dX11_together_0 rfl ?_
  refine g_lstore (lv' := [(4, .long 0), (0, .ref h0), (1, .int a1), (2, .int a2), (3, .int a3)]) C dX11_together_1 (by decide) rfl ?_
  refine g_iconst (v := 0) C dX11_together_3 rfl ?_
  refine g_istore (lv' := [(6, .int 0), (4, .long 0), (0, .ref h0), (1, .int a1), (2, .int a2), (3, .int a3)]) C dX11_together_4 (by decide) rfl ?_
  obtain ⟨Inv_1, Mea_1, hI1, hB1⟩ := h
  have key_1 : ∀ (n : Nat) (x4_1 : Int64) (x6_1 : Int32) , Mea_1 x4_1 x6_1 < n → Inv_1 x4_1 x6_1 → gG E 0 0 [oX11 h0 thrown (v_tape) taped (v_number) (v_isTold) (v_name) (v_sortOf) (v_first) (v_second) (v_degree) (v_colours) (v_signBy) (v_own) lines size atF place sort value fault faultPlace lastFault lastPlace (.ref q_sF) (v_kept) undoable hasImage (v_power) (.ref q_table) (v_marks) (v_row) rowOf areSums isSieved (v_lastOf) blocks (v_inBlock) (v_atQuotient) (v_small) drawn, aJ Y q_table 216 table, aI Y q_sF 74 sF] [(0, .ref h0), (1, .int a1), (2, .int a2), (3, .int a3), (4, .long x4_1), (6, .int x6_1)] [] 6 := by
    intro n
    induction n with
    | zero => exact fun _ _ hm => absurd hm (Nat.not_lt_zero _)
    | succ n ih1 =>
      intro x4_1 x6_1  hm1 hI
      have h := hB1 x4_1 x6_1 hI
      refine g_iload C dX11_together_6 5 rfl ?_
      refine g_iload_n C dX11_together_8 3 rfl ?_
      refine g_icmp_gt (tgt := 58) C dX11_together_9 (by decide) (fun c_1 => ?_) (fun c_1 => ?_)
      · replace h := h.1 c_1
        refine g_lload C dX11_together_58 4 rfl ?_
        exact g_lret C hR (Nat.le_of_ble_eq_true rfl) (Nat.le_of_ble_eq_true rfl) dX11_together_60 ⟨x4_1, rfl, rfl, h⟩
      · replace h := h.2 c_1
        refine g_lload C dX11_together_12 4 rfl ?_
        refine g_aload_n C dX11_together_14 0 rfl ?_
        refine g_get C inX11 0 rfl rfl 28 (by decide) wF_X11_58 rfl dX11_together_15 ?_
        refine g_bipush (v := 18) C dX11_together_18 rfl ?_
        refine g_iload_n C dX11_together_20 1 rfl ?_
        refine g_imul C dX11_together_21 ?_
        refine g_iload C dX11_together_22 5 rfl ?_
        refine g_iadd C dX11_together_24 ?_
        obtain ⟨hc_1, h⟩ := h
        refine g_lald C 1 rfl hc_1 dX11_together_25 ?_
        refine g_aload_n C dX11_together_26 0 rfl ?_
        refine g_get C inX11 0 rfl rfl 28 (by decide) wF_X11_58 rfl dX11_together_27 ?_
        refine g_bipush (v := 18) C dX11_together_30 rfl ?_
        refine g_iload_n C dX11_together_32 2 rfl ?_
        refine g_imul C dX11_together_33 ?_
        refine g_iload_n C dX11_together_34 3 rfl ?_
        refine g_iadd C dX11_together_35 ?_
        refine g_iload C dX11_together_36 5 rfl ?_
        refine g_isub C dX11_together_38 ?_
        obtain ⟨hc_2, h⟩ := h
        refine g_lald C 1 rfl hc_2 dX11_together_39 ?_
        refine g_lmul C dX11_together_40 ?_
        refine g_topl (fun t_1 et_1 => ?_)
        replace h := h t_1 et_1
        refine g_aload_n C dX11_together_41 0 rfl ?_
        refine g_get C inX11 0 rfl rfl 23 (by decide) wF_X11_48 rfl dX11_together_42 ?_
        refine g_iconst (v := 1) C dX11_together_45 rfl ?_
        refine g_iald C 2 rfl (by unfold vp_in; decide) dX11_together_46 ?_
        refine g_i2l C dX11_together_47 ?_
        obtain ⟨hc_3, h⟩ := h
        refine g_lrem C dX11_together_48 hc_3 ?_
        refine g_ladd C dX11_together_49 ?_
        refine g_topl (fun x4_2 ex4_2 => ?_)
        replace h := h x4_2 ex4_2
        refine g_lstore (lv' := [(4, .long x4_2), (0, .ref h0), (1, .int a1), (2, .int a2), (3, .int a3), (6, .int x6_1)]) C dX11_together_50 (by decide) rfl ?_
        refine g_iinc (v := x6_1 + 1) (lv' := [(6, .int (x6_1 + 1)), (4, .long x4_2), (0, .ref h0), (1, .int a1), (2, .int a2), (3, .int a3)]) C dX11_together_52 5 rfl rfl (by decide) rfl ?_
        refine g_goto (tgt := 6) C dX11_together_55 (by decide) ?_
        refine gG.locals (lv' := [(0, .ref h0), (1, .int a1), (2, .int a2), (3, .int a3), (4, .long x4_2), (6, .int (x6_1 + 1))]) [2, 3, 4, 5, 1, 0] rfl ?_
        exact ih1 x4_2 (x6_1 + 1) (Nat.lt_of_lt_of_le h.2 (Nat.le_of_lt_succ hm1)) h.1
  refine gG.locals (lv' := [(0, .ref h0), (1, .int a1), (2, .int a2), (3, .int a3), (4, .long 0), (6, .int 0)]) [2, 3, 4, 5, 1, 0] rfl ?_
  exact key_1 (Mea_1 0 0 + 1) 0 0 (Nat.lt_succ_self _) hI1
theorem dX11_over_0 : decode cX11_over 0 = .ok (.lconst 0, 1) := by decide +kernel
theorem dX11_over_1 : decode cX11_over 1 = .ok (.lstore 4, 2) := by decide +kernel
theorem dX11_over_3 : decode cX11_over 3 = .ok (.iconst 0, 1) := by decide +kernel
theorem dX11_over_4 : decode cX11_over 4 = .ok (.istore 6, 2) := by decide +kernel
theorem dX11_over_6 : decode cX11_over 6 = .ok (.iload 6, 2) := by decide +kernel
theorem dX11_over_8 : decode cX11_over 8 = .ok (.iload_n 3, 1) := by decide +kernel
theorem dX11_over_9 : decode cX11_over 9 = .ok (.if_icmp .ge 49, 3) := by decide +kernel
theorem dX11_over_12 : decode cX11_over 12 = .ok (.lload 4, 2) := by decide +kernel
theorem dX11_over_14 : decode cX11_over 14 = .ok (.aload_n 0, 1) := by decide +kernel
theorem dX11_over_15 : decode cX11_over 15 = .ok (.getfield 58, 3) := by decide +kernel
theorem dX11_over_18 : decode cX11_over 18 = .ok (.bipush 18, 2) := by decide +kernel
theorem dX11_over_20 : decode cX11_over 20 = .ok (.iload_n 1, 1) := by decide +kernel
theorem dX11_over_21 : decode cX11_over 21 = .ok (.imul, 1) := by decide +kernel
theorem dX11_over_22 : decode cX11_over 22 = .ok (.iload 6, 2) := by decide +kernel
theorem dX11_over_24 : decode cX11_over 24 = .ok (.iadd, 1) := by decide +kernel
theorem dX11_over_25 : decode cX11_over 25 = .ok (.laload, 1) := by decide +kernel
theorem dX11_over_26 : decode cX11_over 26 = .ok (.aload_n 0, 1) := by decide +kernel
theorem dX11_over_27 : decode cX11_over 27 = .ok (.getfield 58, 3) := by decide +kernel
theorem dX11_over_30 : decode cX11_over 30 = .ok (.bipush 18, 2) := by decide +kernel
theorem dX11_over_32 : decode cX11_over 32 = .ok (.iload_n 2, 1) := by decide +kernel
theorem dX11_over_33 : decode cX11_over 33 = .ok (.imul, 1) := by decide +kernel
theorem dX11_over_34 : decode cX11_over 34 = .ok (.iload_n 3, 1) := by decide +kernel
theorem dX11_over_35 : decode cX11_over 35 = .ok (.iadd, 1) := by decide +kernel
theorem dX11_over_36 : decode cX11_over 36 = .ok (.iload 6, 2) := by decide +kernel
theorem dX11_over_38 : decode cX11_over 38 = .ok (.isub, 1) := by decide +kernel
theorem dX11_over_39 : decode cX11_over 39 = .ok (.laload, 1) := by decide +kernel
theorem dX11_over_40 : decode cX11_over 40 = .ok (.lmul, 1) := by decide +kernel
theorem dX11_over_41 : decode cX11_over 41 = .ok (.aload_n 0, 1) := by decide +kernel
theorem dX11_over_42 : decode cX11_over 42 = .ok (.getfield 48, 3) := by decide +kernel
theorem dX11_over_45 : decode cX11_over 45 = .ok (.iconst 1, 1) := by decide +kernel
theorem dX11_over_46 : decode cX11_over 46 = .ok (.iaload, 1) := by decide +kernel
theorem dX11_over_47 : decode cX11_over 47 = .ok (.i2l, 1) := by decide +kernel
theorem dX11_over_48 : decode cX11_over 48 = .ok (.lrem, 1) := by decide +kernel
theorem dX11_over_49 : decode cX11_over 49 = .ok (.ladd, 1) := by decide +kernel
theorem dX11_over_50 : decode cX11_over 50 = .ok (.lstore 4, 2) := by decide +kernel
theorem dX11_over_52 : decode cX11_over 52 = .ok (.iinc 6 1, 3) := by decide +kernel
theorem dX11_over_55 : decode cX11_over 55 = .ok (.goto (-49), 3) := by decide +kernel
theorem dX11_over_58 : decode cX11_over 58 = .ok (.lload 4, 2) := by decide +kernel
theorem dX11_over_60 : decode cX11_over 60 = .ok (.lneg, 1) := by decide +kernel
theorem dX11_over_61 : decode cX11_over 61 = .ok (.lreturn, 1) := by decide +kernel
/-- QuotientSumsModel.over(III)J -/
def wX11_over (thrown : Int32) (taped : Int32) (lines : Int32) (size : Int32) (atF : Int32) (place : Int32) (sort : Int32) (value : Int32) (fault : Int32) (faultPlace : Int32) (lastFault : Int32) (lastPlace : Int32) (undoable : Int32) (hasImage : Int32) (rowOf : Int32) (areSums : Int32) (isSieved : Int32) (blocks : Int32) (drawn : Int32) (table : Nat → Int64) (sF : Nat → Int32) (a1 : Int32) (a2 : Int32) (a3 : Int32) (Q : (Int64) → Prop) : Prop :=
  (∃ (Inv_1 : (Int64) → (Int32) → Prop) (Mea_1 : (Int64) → (Int32) → Nat), Inv_1 0 0 ∧ ∀ (x4_1 : Int64) (x6_1 : Int32), Inv_1 x4_1 x6_1 → ((a3 ≤ x6_1 → (Q (-x4_1))) ∧ (¬ a3 ≤ x6_1 → (vp_in ((18 * a1) + x6_1) 216 ∧ vp_in (((18 * a2) + a3) - x6_1) 216 ∧ ∀ t_1 : Int64, t_1 = (table ((18 * a1) + x6_1).toNatClampNeg) * (table (((18 * a2) + a3) - x6_1).toNatClampNeg) → ¬ ((sF 1).toInt64) = 0 ∧ ∀ x4_2 : Int64, x4_2 = x4_1 + (t_1 - t_1 / ((sF 1).toInt64) * ((sF 1).toInt64)) → (Inv_1 x4_2 (x6_1 + 1) ∧ Mea_1 x4_2 (x6_1 + 1) < Mea_1 x4_1 x6_1)))))
set_option maxHeartbeats 4000000 in
set_option maxRecDepth 100000 in
theorem mX11_over (l : Launch) (D : va_G) (Y : Nat → ClassId) (h0 : Nat) (thrown : Int32) (v_tape : Value) (taped : Int32) (v_number : Value) (v_isTold : Value) (v_name : Value) (v_sortOf : Value) (v_first : Value) (v_second : Value) (v_degree : Value) (v_colours : Value) (v_signBy : Value) (v_own : Value) (lines : Int32) (size : Int32) (atF : Int32) (place : Int32) (sort : Int32) (value : Int32) (fault : Int32) (faultPlace : Int32) (lastFault : Int32) (lastPlace : Int32) (q_sF : Nat) (v_kept : Value) (undoable : Int32) (hasImage : Int32) (v_power : Value) (q_table : Nat) (v_marks : Value) (v_row : Value) (rowOf : Int32) (areSums : Int32) (isSieved : Int32) (v_lastOf : Value) (blocks : Int32) (v_inBlock : Value) (v_atQuotient : Value) (v_small : Value) (drawn : Int32) (table : Nat → Int64) (sF : Nat → Int32) (a1 : Int32) (a2 : Int32) (a3 : Int32) (Q : (Int64) → Prop) (h : wX11_over thrown taped lines size atF place sort value fault faultPlace lastFault lastPlace undoable hasImage rowOf areSums isSieved blocks drawn table sF a1 a2 a3 Q) : gM l D Y yX11_over cX11_over 7 (some .long) 0 0 0 0 [.ref h0, .int a1, .int a2, .int a3] [oX11 h0 thrown (v_tape) taped (v_number) (v_isTold) (v_name) (v_sortOf) (v_first) (v_second) (v_degree) (v_colours) (v_signBy) (v_own) lines size atF place sort value fault faultPlace lastFault lastPlace (.ref q_sF) (v_kept) undoable hasImage (v_power) (.ref q_table) (v_marks) (v_row) rowOf areSums isSieved (v_lastOf) blocks (v_inBlock) (v_atQuotient) (v_small) drawn, aJ Y q_table 216 table, aI Y q_sF 74 sF] (fun v w => ∃ r : Int64, v = some (.long r) ∧ w = [oX11 h0 thrown (v_tape) taped (v_number) (v_isTold) (v_name) (v_sortOf) (v_first) (v_second) (v_degree) (v_colours) (v_signBy) (v_own) lines size atF place sort value fault faultPlace lastFault lastPlace (.ref q_sF) (v_kept) undoable hasImage (v_power) (.ref q_table) (v_marks) (v_row) rowOf areSums isSieved (v_lastOf) blocks (v_inBlock) (v_atQuotient) (v_small) drawn, aJ Y q_table 216 table, aI Y q_sF 74 sF] ∧ Q r) := by
  refine gM_of (own := RX11) (by decide +kernel) rfl (Nat.le_of_ble_eq_true rfl) rfl (fun E C hR => ?_)
  unfold wX11_over at h
  refine g_lconst (v := 0) C dX11_over_0 rfl ?_
  refine g_lstore (lv' := [(4, .long 0), (0, .ref h0), (1, .int a1), (2, .int a2), (3, .int a3)]) C dX11_over_1 (by decide) rfl ?_
  refine g_iconst (v := 0) C dX11_over_3 rfl ?_
  refine g_istore (lv' := [(6, .int 0), (4, .long 0), (0, .ref h0), (1, .int a1), (2, .int a2), (3, .int a3)]) C dX11_over_4 (by decide) rfl ?_
  obtain ⟨Inv_1, Mea_1, hI1, hB1⟩ := h
  have key_1 : ∀ (n : Nat) (x4_1 : Int64) (x6_1 : Int32) , Mea_1 x4_1 x6_1 < n → Inv_1 x4_1 x6_1 → gG E 0 0 [oX11 h0 thrown (v_tape) taped (v_number) (v_isTold) (v_name) (v_sortOf) (v_first) (v_second) (v_degree) (v_colours) (v_signBy) (v_own) lines size atF place sort value fault faultPlace lastFault lastPlace (.ref q_sF) (v_kept) undoable hasImage (v_power) (.ref q_table) (v_marks) (v_row) rowOf areSums isSieved (v_lastOf) blocks (v_inBlock) (v_atQuotient) (v_small) drawn, aJ Y q_table 216 table, aI Y q_sF 74 sF] [(0, .ref h0), (1, .int a1), (2, .int a2), (3, .int a3), (4, .long x4_1), (6, .int x6_1)] [] 6 := by
    intro n
    induction n with
    | zero => exact fun _ _ hm => absurd hm (Nat.not_lt_zero _)
    | succ n ih1 =>
      intro x4_1 x6_1  hm1 hI
      have h := hB1 x4_1 x6_1 hI
      refine g_iload C dX11_over_6 5 rfl ?_
      refine g_iload_n C dX11_over_8 3 rfl ?_
      refine g_icmp_ge (tgt := 58) C dX11_over_9 (by decide) (fun c_1 => ?_) (fun c_1 => ?_)
      · replace h := h.1 c_1
        refine g_lload C dX11_over_58 4 rfl ?_
        refine g_lneg C dX11_over_60 ?_
        exact g_lret C hR (Nat.le_of_ble_eq_true rfl) (Nat.le_of_ble_eq_true rfl) dX11_over_61 ⟨-x4_1, rfl, rfl, h⟩
      · replace h := h.2 c_1
        refine g_lload C dX11_over_12 4 rfl ?_
        refine g_aload_n C dX11_over_14 0 rfl ?_
        refine g_get C inX11 0 rfl rfl 28 (by decide) wF_X11_58 rfl dX11_over_15 ?_
        refine g_bipush (v := 18) C dX11_over_18 rfl ?_
        refine g_iload_n C dX11_over_20 1 rfl ?_
        refine g_imul C dX11_over_21 ?_
        refine g_iload C dX11_over_22 5 rfl ?_
        refine g_iadd C dX11_over_24 ?_
        obtain ⟨hc_1, h⟩ := h
        refine g_lald C 1 rfl hc_1 dX11_over_25 ?_
        refine g_aload_n C dX11_over_26 0 rfl ?_
        refine g_get C inX11 0 rfl rfl 28 (by decide) wF_X11_58 rfl dX11_over_27 ?_
        refine g_bipush (v := 18) C dX11_over_30 rfl ?_
        refine g_iload_n C dX11_over_32 2 rfl ?_
        refine g_imul C dX11_over_33 ?_
        refine g_iload_n C dX11_over_34 3 rfl ?_
        refine g_iadd C dX11_over_35 ?_
        refine g_iload C dX11_over_36 5 rfl ?_
        refine g_isub C dX11_over_38 ?_
        obtain ⟨hc_2, h⟩ := h
        refine g_lald C 1 rfl hc_2 dX11_over_39 ?_
        refine g_lmul C dX11_over_40 ?_
        refine g_topl (fun t_1 et_1 => ?_)
        replace h := h t_1 et_1
        refine g_aload_n C dX11_over_41 0 rfl ?_
        refine g_get C inX11 0 rfl rfl 23 (by decide) wF_X11_48 rfl dX11_over_42 ?_
        refine g_iconst (v := 1) C dX11_over_45 rfl ?_
        refine g_iald C 2 rfl (by unfold vp_in; decide) dX11_over_46 ?_
        refine g_i2l C dX11_over_47 ?_
        obtain ⟨hc_3, h⟩ := h
        refine g_lrem C dX11_over_48 hc_3 ?_
        refine g_ladd C dX11_over_49 ?_
        refine g_topl (fun x4_2 ex4_2 => ?_)
        replace h := h x4_2 ex4_2
        refine g_lstore (lv' := [(4, .long x4_2), (0, .ref h0), (1, .int a1), (2, .int a2), (3, .int a3), (6, .int x6_1)]) C dX11_over_50 (by decide) rfl ?_
        refine g_iinc (v := x6_1 + 1) (lv' := [(6, .int (x6_1 + 1)), (4, .long x4_2), (0, .ref h0), (1, .int a1), (2, .int a2), (3, .int a3)]) C dX11_over_52 5 rfl rfl (by decide) rfl ?_
        refine g_goto (tgt := 6) C dX11_over_55 (by decide) ?_
        refine gG.locals (lv' := [(0, .ref h0), (1, .int a1), (2, .int a2), (3, .int a3), (4, .long x4_2), (6, .int (x6_1 + 1))]) [2, 3, 4, 5, 1, 0] rfl ?_
        exact ih1 x4_2 (x6_1 + 1) (Nat.lt_of_lt_of_le h.2 (Nat.le_of_lt_succ hm1)) h.1
  refine gG.locals (lv' := [(0, .ref h0), (1, .int a1), (2, .int a2), (3, .int a3), (4, .long 0), (6, .int 0)]) [2, 3, 4, 5, 1, 0] rfl ?_
  exact key_1 (Mea_1 0 0 + 1) 0 0 (Nat.lt_succ_self _) hI1
theorem dX11_sign_0 : decode cX11_sign 0 = .ok (.iload_n 0, 1) := by decide +kernel
theorem dX11_sign_1 : decode cX11_sign 1 = .ok (.iload_n 2, 1) := by decide +kernel
theorem dX11_sign_2 : decode cX11_sign 2 = .ok (.irem, 1) := by decide +kernel
theorem dX11_sign_3 : decode cX11_sign 3 = .ok (.istore_n 3, 1) := by decide +kernel
theorem dX11_sign_4 : decode cX11_sign 4 = .ok (.iload_n 3, 1) := by decide +kernel
theorem dX11_sign_5 : decode cX11_sign 5 = .ok (.iconst 1, 1) := by decide +kernel
theorem dX11_sign_6 : decode cX11_sign 6 = .ok (.if_icmp .ne 5, 3) := by decide +kernel
theorem dX11_sign_9 : decode cX11_sign 9 = .ok (.iconst 1, 1) := by decide +kernel
theorem dX11_sign_10 : decode cX11_sign 10 = .ok (.ireturn, 1) := by decide +kernel
theorem dX11_sign_11 : decode cX11_sign 11 = .ok (.iload_n 3, 1) := by decide +kernel
theorem dX11_sign_12 : decode cX11_sign 12 = .ok (.iload_n 2, 1) := by decide +kernel
theorem dX11_sign_13 : decode cX11_sign 13 = .ok (.iconst 1, 1) := by decide +kernel
theorem dX11_sign_14 : decode cX11_sign 14 = .ok (.isub, 1) := by decide +kernel
theorem dX11_sign_15 : decode cX11_sign 15 = .ok (.if_icmp .eq 5, 3) := by decide +kernel
theorem dX11_sign_18 : decode cX11_sign 18 = .ok (.iconst 0, 1) := by decide +kernel
theorem dX11_sign_19 : decode cX11_sign 19 = .ok (.ireturn, 1) := by decide +kernel
theorem dX11_sign_20 : decode cX11_sign 20 = .ok (.iload_n 1, 1) := by decide +kernel
theorem dX11_sign_21 : decode cX11_sign 21 = .ok (.iconst 2, 1) := by decide +kernel
theorem dX11_sign_22 : decode cX11_sign 22 = .ok (.irem, 1) := by decide +kernel
theorem dX11_sign_23 : decode cX11_sign 23 = .ok (.iconst 1, 1) := by decide +kernel
theorem dX11_sign_24 : decode cX11_sign 24 = .ok (.if_icmp .ne 7, 3) := by decide +kernel
theorem dX11_sign_27 : decode cX11_sign 27 = .ok (.iconst (-1), 1) := by decide +kernel
theorem dX11_sign_28 : decode cX11_sign 28 = .ok (.goto 4, 3) := by decide +kernel
theorem dX11_sign_31 : decode cX11_sign 31 = .ok (.iconst 1, 1) := by decide +kernel
theorem dX11_sign_32 : decode cX11_sign 32 = .ok (.ireturn, 1) := by decide +kernel
/-- QuotientSumsModel.sign(III)I -/
def wX11_sign  (a1 : Int32) (a2 : Int32) (a3 : Int32) (Q : (Int32) → Prop) : Prop :=
  (¬ a3 = 0 ∧ ∀ x3_1 : Int32, x3_1 = a1 - a1 / a3 * a3 → ((¬ x3_1 = 1 → ((x3_1 = (a3 - 1) → ((¬ (a2 - a2 / 2 * 2) = 1 → (Q 1)) ∧ ((a2 - a2 / 2 * 2) = 1 → (Q (-1))))) ∧ (¬ x3_1 = (a3 - 1) → (Q 0)))) ∧ (x3_1 = 1 → (Q 1))))
set_option maxHeartbeats 4000000 in
set_option maxRecDepth 100000 in
theorem mX11_sign (l : Launch) (D : va_G) (Y : Nat → ClassId)   (a1 : Int32) (a2 : Int32) (a3 : Int32) (Q : (Int32) → Prop) (h : wX11_sign a1 a2 a3 Q) : gM l D Y yX11_sign cX11_sign 4 (some .int) 0 0 0 0 [.int a1, .int a2, .int a3] [] (fun v w => ∃ r : Int32, v = some (.int r) ∧ w = [] ∧ Q r) := by
  refine gM_of (own := RX11) (by decide +kernel) rfl (Nat.le_of_ble_eq_true rfl) rfl (fun E C hR => ?_)
  unfold wX11_sign at h
  refine g_iload_n C dX11_sign_0 0 rfl ?_
  refine g_iload_n C dX11_sign_1 2 rfl ?_
  obtain ⟨hc_1, h⟩ := h
  refine g_irem C dX11_sign_2 hc_1 ?_
  refine g_topi (fun x3_1 ex3_1 => ?_)
  replace h := h x3_1 ex3_1
  refine g_istore_n (lv' := [(3, .int x3_1), (0, .int a1), (1, .int a2), (2, .int a3)]) C dX11_sign_3 (by decide) rfl ?_
  refine g_iload_n C dX11_sign_4 0 rfl ?_
  refine g_iconst (v := 1) C dX11_sign_5 rfl ?_
  refine g_icmp_ne (tgt := 11) C dX11_sign_6 (by decide) (fun c_1 => ?_) (fun c_1 => ?_)
  · replace h := h.1 c_1
    refine g_iload_n C dX11_sign_11 0 rfl ?_
    refine g_iload_n C dX11_sign_12 3 rfl ?_
    refine g_iconst (v := 1) C dX11_sign_13 rfl ?_
    refine g_isub C dX11_sign_14 ?_
    refine g_icmp_eq (tgt := 20) C dX11_sign_15 (by decide) (fun c_2 => ?_) (fun c_2 => ?_)
    · replace h := h.1 c_2
      refine g_iload_n C dX11_sign_20 2 rfl ?_
      refine g_iconst (v := 2) C dX11_sign_21 rfl ?_
      refine g_irem C dX11_sign_22 (by decide) ?_
      refine g_iconst (v := 1) C dX11_sign_23 rfl ?_
      refine g_icmp_ne (tgt := 31) C dX11_sign_24 (by decide) (fun c_3 => ?_) (fun c_3 => ?_)
      · replace h := h.1 c_3
        refine g_iconst (v := 1) C dX11_sign_31 rfl ?_
        exact g_iret C hR (Nat.le_of_ble_eq_true rfl) (Nat.le_of_ble_eq_true rfl) dX11_sign_32 ⟨1, rfl, rfl, h⟩
      · replace h := h.2 c_3
        refine g_iconst (v := (-1)) C dX11_sign_27 rfl ?_
        refine g_goto (tgt := 32) C dX11_sign_28 (by decide) ?_
        exact g_iret C hR (Nat.le_of_ble_eq_true rfl) (Nat.le_of_ble_eq_true rfl) dX11_sign_32 ⟨(-1), rfl, rfl, h⟩
    · replace h := h.2 c_2
      refine g_iconst (v := 0) C dX11_sign_18 rfl ?_
      exact g_iret C hR (Nat.le_of_ble_eq_true rfl) (Nat.le_of_ble_eq_true rfl) dX11_sign_19 ⟨0, rfl, rfl, h⟩
  · replace h := h.2 c_1
    refine g_iconst (v := 1) C dX11_sign_9 rfl ?_
    exact g_iret C hR (Nat.le_of_ble_eq_true rfl) (Nat.le_of_ble_eq_true rfl) dX11_sign_10 ⟨1, rfl, rfl, h⟩
theorem dX11_laysPowers_0 : decode cX11_laysPowers 0 = .ok (.aload_n 0, 1) := by decide +kernel
theorem dX11_laysPowers_1 : decode cX11_laysPowers 1 = .ok (.getfield 54, 3) := by decide +kernel
theorem dX11_laysPowers_4 : decode cX11_laysPowers 4 = .ok (.iconst 0, 1) := by decide +kernel
theorem dX11_laysPowers_5 : decode cX11_laysPowers 5 = .ok (.lconst 1, 1) := by decide +kernel
theorem dX11_laysPowers_6 : decode cX11_laysPowers 6 = .ok (.lastore, 1) := by decide +kernel
theorem dX11_laysPowers_7 : decode cX11_laysPowers 7 = .ok (.iconst 1, 1) := by decide +kernel
theorem dX11_laysPowers_8 : decode cX11_laysPowers 8 = .ok (.istore 4, 2) := by decide +kernel
theorem dX11_laysPowers_10 : decode cX11_laysPowers 10 = .ok (.iload 4, 2) := by decide +kernel
theorem dX11_laysPowers_12 : decode cX11_laysPowers 12 = .ok (.iload_n 2, 1) := by decide +kernel
theorem dX11_laysPowers_13 : decode cX11_laysPowers 13 = .ok (.if_icmp .gt 32, 3) := by decide +kernel
theorem dX11_laysPowers_16 : decode cX11_laysPowers 16 = .ok (.aload_n 0, 1) := by decide +kernel
theorem dX11_laysPowers_17 : decode cX11_laysPowers 17 = .ok (.getfield 54, 3) := by decide +kernel
theorem dX11_laysPowers_20 : decode cX11_laysPowers 20 = .ok (.iload 4, 2) := by decide +kernel
theorem dX11_laysPowers_22 : decode cX11_laysPowers 22 = .ok (.aload_n 0, 1) := by decide +kernel
theorem dX11_laysPowers_23 : decode cX11_laysPowers 23 = .ok (.aload_n 0, 1) := by decide +kernel
theorem dX11_laysPowers_24 : decode cX11_laysPowers 24 = .ok (.getfield 54, 3) := by decide +kernel
theorem dX11_laysPowers_27 : decode cX11_laysPowers 27 = .ok (.iload 4, 2) := by decide +kernel
theorem dX11_laysPowers_29 : decode cX11_laysPowers 29 = .ok (.iconst 1, 1) := by decide +kernel
theorem dX11_laysPowers_30 : decode cX11_laysPowers 30 = .ok (.isub, 1) := by decide +kernel
theorem dX11_laysPowers_31 : decode cX11_laysPowers 31 = .ok (.laload, 1) := by decide +kernel
theorem dX11_laysPowers_32 : decode cX11_laysPowers 32 = .ok (.iload_n 1, 1) := by decide +kernel
theorem dX11_laysPowers_33 : decode cX11_laysPowers 33 = .ok (.i2l, 1) := by decide +kernel
theorem dX11_laysPowers_34 : decode cX11_laysPowers 34 = .ok (.lmul, 1) := by decide +kernel
theorem dX11_laysPowers_35 : decode cX11_laysPowers 35 = .ok (.invokevirtual 256, 3) := by decide +kernel
theorem dX11_laysPowers_38 : decode cX11_laysPowers 38 = .ok (.lastore, 1) := by decide +kernel
theorem dX11_laysPowers_39 : decode cX11_laysPowers 39 = .ok (.iinc 4 1, 3) := by decide +kernel
theorem dX11_laysPowers_42 : decode cX11_laysPowers 42 = .ok (.goto (-32), 3) := by decide +kernel
theorem dX11_laysPowers_45 : decode cX11_laysPowers 45 = .ok (.iconst 0, 1) := by decide +kernel
theorem dX11_laysPowers_46 : decode cX11_laysPowers 46 = .ok (.istore 4, 2) := by decide +kernel
theorem dX11_laysPowers_48 : decode cX11_laysPowers 48 = .ok (.iload 4, 2) := by decide +kernel
theorem dX11_laysPowers_50 : decode cX11_laysPowers 50 = .ok (.iload_n 3, 1) := by decide +kernel
theorem dX11_laysPowers_51 : decode cX11_laysPowers 51 = .ok (.if_icmp .gt 244, 3) := by decide +kernel
theorem dX11_laysPowers_54 : decode cX11_laysPowers 54 = .ok (.aload_n 0, 1) := by decide +kernel
theorem dX11_laysPowers_55 : decode cX11_laysPowers 55 = .ok (.getfield 58, 3) := by decide +kernel
theorem dX11_laysPowers_58 : decode cX11_laysPowers 58 = .ok (.bipush 18, 2) := by decide +kernel
theorem dX11_laysPowers_60 : decode cX11_laysPowers 60 = .ok (.iload 4, 2) := by decide +kernel
theorem dX11_laysPowers_62 : decode cX11_laysPowers 62 = .ok (.imul, 1) := by decide +kernel
theorem dX11_laysPowers_63 : decode cX11_laysPowers 63 = .ok (.lconst 1, 1) := by decide +kernel
theorem dX11_laysPowers_64 : decode cX11_laysPowers 64 = .ok (.lastore, 1) := by decide +kernel
theorem dX11_laysPowers_65 : decode cX11_laysPowers 65 = .ok (.iconst 1, 1) := by decide +kernel
theorem dX11_laysPowers_66 : decode cX11_laysPowers 66 = .ok (.istore 5, 2) := by decide +kernel
theorem dX11_laysPowers_68 : decode cX11_laysPowers 68 = .ok (.iload 5, 2) := by decide +kernel
theorem dX11_laysPowers_70 : decode cX11_laysPowers 70 = .ok (.iload_n 2, 1) := by decide +kernel
theorem dX11_laysPowers_71 : decode cX11_laysPowers 71 = .ok (.if_icmp .gt 218, 3) := by decide +kernel
theorem dX11_laysPowers_74 : decode cX11_laysPowers 74 = .ok (.aload_n 0, 1) := by decide +kernel
theorem dX11_laysPowers_75 : decode cX11_laysPowers 75 = .ok (.getfield 23, 3) := by decide +kernel
theorem dX11_laysPowers_78 : decode cX11_laysPowers 78 = .ok (.iload 4, 2) := by decide +kernel
theorem dX11_laysPowers_80 : decode cX11_laysPowers 80 = .ok (.iaload, 1) := by decide +kernel
theorem dX11_laysPowers_81 : decode cX11_laysPowers 81 = .ok (.tableswitch 148 0 4 #[35, 48, 61, 86, 106], 35) := by decide +kernel
theorem dX11_laysPowers_116 : decode cX11_laysPowers 116 = .ok (.aload_n 0, 1) := by decide +kernel
theorem dX11_laysPowers_117 : decode cX11_laysPowers 117 = .ok (.iload 4, 2) := by decide +kernel
theorem dX11_laysPowers_119 : decode cX11_laysPowers 119 = .ok (.iload 5, 2) := by decide +kernel
theorem dX11_laysPowers_121 : decode cX11_laysPowers 121 = .ok (.invokevirtual 260, 3) := by decide +kernel
theorem dX11_laysPowers_124 : decode cX11_laysPowers 124 = .ok (.lstore 6, 2) := by decide +kernel
theorem dX11_laysPowers_126 : decode cX11_laysPowers 126 = .ok (.goto 138, 3) := by decide +kernel
theorem dX11_laysPowers_129 : decode cX11_laysPowers 129 = .ok (.aload_n 0, 1) := by decide +kernel
theorem dX11_laysPowers_130 : decode cX11_laysPowers 130 = .ok (.iload 4, 2) := by decide +kernel
theorem dX11_laysPowers_132 : decode cX11_laysPowers 132 = .ok (.iload 5, 2) := by decide +kernel
theorem dX11_laysPowers_134 : decode cX11_laysPowers 134 = .ok (.invokevirtual 264, 3) := by decide +kernel
theorem dX11_laysPowers_137 : decode cX11_laysPowers 137 = .ok (.lstore 6, 2) := by decide +kernel
theorem dX11_laysPowers_139 : decode cX11_laysPowers 139 = .ok (.goto 125, 3) := by decide +kernel
theorem dX11_laysPowers_142 : decode cX11_laysPowers 142 = .ok (.aload_n 0, 1) := by decide +kernel
theorem dX11_laysPowers_143 : decode cX11_laysPowers 143 = .ok (.aload_n 0, 1) := by decide +kernel
theorem dX11_laysPowers_144 : decode cX11_laysPowers 144 = .ok (.getfield 26, 3) := by decide +kernel
theorem dX11_laysPowers_147 : decode cX11_laysPowers 147 = .ok (.iload 4, 2) := by decide +kernel
theorem dX11_laysPowers_149 : decode cX11_laysPowers 149 = .ok (.iaload, 1) := by decide +kernel
theorem dX11_laysPowers_150 : decode cX11_laysPowers 150 = .ok (.aload_n 0, 1) := by decide +kernel
theorem dX11_laysPowers_151 : decode cX11_laysPowers 151 = .ok (.getfield 29, 3) := by decide +kernel
theorem dX11_laysPowers_154 : decode cX11_laysPowers 154 = .ok (.iload 4, 2) := by decide +kernel
theorem dX11_laysPowers_156 : decode cX11_laysPowers 156 = .ok (.iaload, 1) := by decide +kernel
theorem dX11_laysPowers_157 : decode cX11_laysPowers 157 = .ok (.iload 5, 2) := by decide +kernel
theorem dX11_laysPowers_159 : decode cX11_laysPowers 159 = .ok (.invokevirtual 267, 3) := by decide +kernel
theorem dX11_laysPowers_162 : decode cX11_laysPowers 162 = .ok (.lstore 6, 2) := by decide +kernel
theorem dX11_laysPowers_164 : decode cX11_laysPowers 164 = .ok (.goto 100, 3) := by decide +kernel
theorem dX11_laysPowers_167 : decode cX11_laysPowers 167 = .ok (.aload_n 0, 1) := by decide +kernel
theorem dX11_laysPowers_168 : decode cX11_laysPowers 168 = .ok (.iload 4, 2) := by decide +kernel
theorem dX11_laysPowers_170 : decode cX11_laysPowers 170 = .ok (.aload_n 0, 1) := by decide +kernel
theorem dX11_laysPowers_171 : decode cX11_laysPowers 171 = .ok (.getfield 26, 3) := by decide +kernel
theorem dX11_laysPowers_174 : decode cX11_laysPowers 174 = .ok (.iload 4, 2) := by decide +kernel
theorem dX11_laysPowers_176 : decode cX11_laysPowers 176 = .ok (.iaload, 1) := by decide +kernel
theorem dX11_laysPowers_177 : decode cX11_laysPowers 177 = .ok (.iload 5, 2) := by decide +kernel
theorem dX11_laysPowers_179 : decode cX11_laysPowers 179 = .ok (.invokevirtual 271, 3) := by decide +kernel
theorem dX11_laysPowers_182 : decode cX11_laysPowers 182 = .ok (.lstore 6, 2) := by decide +kernel
theorem dX11_laysPowers_184 : decode cX11_laysPowers 184 = .ok (.goto 80, 3) := by decide +kernel
theorem dX11_laysPowers_187 : decode cX11_laysPowers 187 = .ok (.aload_n 0, 1) := by decide +kernel
theorem dX11_laysPowers_188 : decode cX11_laysPowers 188 = .ok (.getfield 58, 3) := by decide +kernel
theorem dX11_laysPowers_191 : decode cX11_laysPowers 191 = .ok (.bipush 18, 2) := by decide +kernel
theorem dX11_laysPowers_193 : decode cX11_laysPowers 193 = .ok (.aload_n 0, 1) := by decide +kernel
theorem dX11_laysPowers_194 : decode cX11_laysPowers 194 = .ok (.getfield 26, 3) := by decide +kernel
theorem dX11_laysPowers_197 : decode cX11_laysPowers 197 = .ok (.iload 4, 2) := by decide +kernel
theorem dX11_laysPowers_199 : decode cX11_laysPowers 199 = .ok (.iaload, 1) := by decide +kernel
theorem dX11_laysPowers_200 : decode cX11_laysPowers 200 = .ok (.imul, 1) := by decide +kernel
theorem dX11_laysPowers_201 : decode cX11_laysPowers 201 = .ok (.iload 5, 2) := by decide +kernel
theorem dX11_laysPowers_203 : decode cX11_laysPowers 203 = .ok (.iadd, 1) := by decide +kernel
theorem dX11_laysPowers_204 : decode cX11_laysPowers 204 = .ok (.laload, 1) := by decide +kernel
theorem dX11_laysPowers_205 : decode cX11_laysPowers 205 = .ok (.aload_n 0, 1) := by decide +kernel
theorem dX11_laysPowers_206 : decode cX11_laysPowers 206 = .ok (.getfield 58, 3) := by decide +kernel
theorem dX11_laysPowers_209 : decode cX11_laysPowers 209 = .ok (.bipush 18, 2) := by decide +kernel
theorem dX11_laysPowers_211 : decode cX11_laysPowers 211 = .ok (.aload_n 0, 1) := by decide +kernel
theorem dX11_laysPowers_212 : decode cX11_laysPowers 212 = .ok (.getfield 29, 3) := by decide +kernel
theorem dX11_laysPowers_215 : decode cX11_laysPowers 215 = .ok (.iload 4, 2) := by decide +kernel
theorem dX11_laysPowers_217 : decode cX11_laysPowers 217 = .ok (.iaload, 1) := by decide +kernel
theorem dX11_laysPowers_218 : decode cX11_laysPowers 218 = .ok (.imul, 1) := by decide +kernel
theorem dX11_laysPowers_219 : decode cX11_laysPowers 219 = .ok (.iload 5, 2) := by decide +kernel
theorem dX11_laysPowers_221 : decode cX11_laysPowers 221 = .ok (.iadd, 1) := by decide +kernel
theorem dX11_laysPowers_222 : decode cX11_laysPowers 222 = .ok (.laload, 1) := by decide +kernel
theorem dX11_laysPowers_223 : decode cX11_laysPowers 223 = .ok (.lmul, 1) := by decide +kernel
theorem dX11_laysPowers_224 : decode cX11_laysPowers 224 = .ok (.lstore 6, 2) := by decide +kernel
theorem dX11_laysPowers_226 : decode cX11_laysPowers 226 = .ok (.goto 38, 3) := by decide +kernel
theorem dX11_laysPowers_229 : decode cX11_laysPowers 229 = .ok (.aload_n 0, 1) := by decide +kernel
theorem dX11_laysPowers_230 : decode cX11_laysPowers 230 = .ok (.getfield 58, 3) := by decide +kernel
theorem dX11_laysPowers_233 : decode cX11_laysPowers 233 = .ok (.bipush 18, 2) := by decide +kernel
theorem dX11_laysPowers_235 : decode cX11_laysPowers 235 = .ok (.aload_n 0, 1) := by decide +kernel
theorem dX11_laysPowers_236 : decode cX11_laysPowers 236 = .ok (.getfield 26, 3) := by decide +kernel
theorem dX11_laysPowers_239 : decode cX11_laysPowers 239 = .ok (.iload 4, 2) := by decide +kernel
theorem dX11_laysPowers_241 : decode cX11_laysPowers 241 = .ok (.iaload, 1) := by decide +kernel
theorem dX11_laysPowers_242 : decode cX11_laysPowers 242 = .ok (.imul, 1) := by decide +kernel
theorem dX11_laysPowers_243 : decode cX11_laysPowers 243 = .ok (.iload 5, 2) := by decide +kernel
theorem dX11_laysPowers_245 : decode cX11_laysPowers 245 = .ok (.iadd, 1) := by decide +kernel
theorem dX11_laysPowers_246 : decode cX11_laysPowers 246 = .ok (.laload, 1) := by decide +kernel
theorem dX11_laysPowers_247 : decode cX11_laysPowers 247 = .ok (.iload_n 1, 1) := by decide +kernel
theorem dX11_laysPowers_248 : decode cX11_laysPowers 248 = .ok (.iload 5, 2) := by decide +kernel
theorem dX11_laysPowers_250 : decode cX11_laysPowers 250 = .ok (.aload_n 0, 1) := by decide +kernel
theorem dX11_laysPowers_251 : decode cX11_laysPowers 251 = .ok (.getfield 38, 3) := by decide +kernel
theorem dX11_laysPowers_254 : decode cX11_laysPowers 254 = .ok (.iload 4, 2) := by decide +kernel
theorem dX11_laysPowers_256 : decode cX11_laysPowers 256 = .ok (.iaload, 1) := by decide +kernel
theorem dX11_laysPowers_257 : decode cX11_laysPowers 257 = .ok (.invokestatic 274, 3) := by decide +kernel
theorem dX11_laysPowers_260 : decode cX11_laysPowers 260 = .ok (.i2l, 1) := by decide +kernel
theorem dX11_laysPowers_261 : decode cX11_laysPowers 261 = .ok (.lmul, 1) := by decide +kernel
theorem dX11_laysPowers_262 : decode cX11_laysPowers 262 = .ok (.lstore 6, 2) := by decide +kernel
theorem dX11_laysPowers_264 : decode cX11_laysPowers 264 = .ok (.aload_n 0, 1) := by decide +kernel
theorem dX11_laysPowers_265 : decode cX11_laysPowers 265 = .ok (.getfield 58, 3) := by decide +kernel
theorem dX11_laysPowers_268 : decode cX11_laysPowers 268 = .ok (.bipush 18, 2) := by decide +kernel
theorem dX11_laysPowers_270 : decode cX11_laysPowers 270 = .ok (.iload 4, 2) := by decide +kernel
theorem dX11_laysPowers_272 : decode cX11_laysPowers 272 = .ok (.imul, 1) := by decide +kernel
theorem dX11_laysPowers_273 : decode cX11_laysPowers 273 = .ok (.iload 5, 2) := by decide +kernel
theorem dX11_laysPowers_275 : decode cX11_laysPowers 275 = .ok (.iadd, 1) := by decide +kernel
theorem dX11_laysPowers_276 : decode cX11_laysPowers 276 = .ok (.aload_n 0, 1) := by decide +kernel
theorem dX11_laysPowers_277 : decode cX11_laysPowers 277 = .ok (.lload 6, 2) := by decide +kernel
theorem dX11_laysPowers_279 : decode cX11_laysPowers 279 = .ok (.invokevirtual 256, 3) := by decide +kernel
theorem dX11_laysPowers_282 : decode cX11_laysPowers 282 = .ok (.lastore, 1) := by decide +kernel
theorem dX11_laysPowers_283 : decode cX11_laysPowers 283 = .ok (.iinc 5 1, 3) := by decide +kernel
theorem dX11_laysPowers_286 : decode cX11_laysPowers 286 = .ok (.goto (-218), 3) := by decide +kernel
theorem dX11_laysPowers_289 : decode cX11_laysPowers 289 = .ok (.iinc 4 1, 3) := by decide +kernel
theorem dX11_laysPowers_292 : decode cX11_laysPowers 292 = .ok (.goto (-244), 3) := by decide +kernel
theorem dX11_laysPowers_295 : decode cX11_laysPowers 295 = .ok (.return_, 1) := by decide +kernel
/-- QuotientSumsModel.laysPowers(III)V -/
def wX11_laysPowers (thrown : Int32) (taped : Int32) (lines : Int32) (size : Int32) (atF : Int32) (place : Int32) (sort : Int32) (value : Int32) (fault : Int32) (faultPlace : Int32) (lastFault : Int32) (lastPlace : Int32) (undoable : Int32) (hasImage : Int32) (rowOf : Int32) (areSums : Int32) (isSieved : Int32) (blocks : Int32) (drawn : Int32) (power : Nat → Int64) (table : Nat → Int64) (sortOf : Nat → Int32) (sF : Nat → Int32) (first : Nat → Int32) (second : Nat → Int32) (signBy : Nat → Int32) (a1 : Int32) (a2 : Int32) (a3 : Int32) (Q : (Nat → Int64) → (Nat → Int64) → Prop) : Prop :=
  (∀ power_1 : Nat → Int64, power_1 = vp_updL power 0 1 → (∃ (Inv_1 : (Nat → Int64) → (Int32) → Prop) (Mea_1 : (Nat → Int64) → (Int32) → Nat), Inv_1 power_1 1 ∧ ∀ (power_2 : Nat → Int64) (x4_1 : Int32), Inv_1 power_2 x4_1 → ((a2 < x4_1 → (∃ (Inv_2 : (Nat → Int64) → (Int32) → Prop) (Mea_2 : (Nat → Int64) → (Int32) → Nat), Inv_2 table 0 ∧ ∀ (table_1 : Nat → Int64) (x4_2 : Int32), Inv_2 table_1 x4_2 → ((a3 < x4_2 → (Q power_2 table_1)) ∧ (¬ a3 < x4_2 → (vp_in (18 * x4_2) 216 ∧ ∀ table_2 : Nat → Int64, table_2 = vp_updL table_1 (18 * x4_2).toNatClampNeg 1 → (∃ (Inv_3 : (Nat → Int64) → (Int32) → Prop) (Mea_3 : (Nat → Int64) → (Int32) → Nat), Inv_3 table_2 1 ∧ ∀ (table_3 : Nat → Int64) (x5_1 : Int32), Inv_3 table_3 x5_1 → ((a2 < x5_1 → (Inv_2 table_3 (x4_2 + 1) ∧ Mea_2 table_3 (x4_2 + 1) < Mea_2 table_1 x4_2)) ∧ (¬ a2 < x5_1 → (vp_in x4_2 24 ∧ (((sortOf x4_2.toNatClampNeg) = 0 → (∃ (P_1 : (Int64) → Prop), wX11_known thrown taped lines size atF place sort value fault faultPlace lastFault lastPlace undoable hasImage rowOf areSums isSieved blocks drawn power_2 table_3 x4_2 x5_1 P_1 ∧ ∀ (rF_1 : Int64), P_1 rF_1 → ∃ (P_2 : (Int64) → Prop), wX11_rest thrown taped lines size atF place sort value fault faultPlace lastFault lastPlace undoable hasImage rowOf areSums isSieved blocks drawn sF rF_1 P_2 ∧ ∀ (rF_2 : Int64), P_2 rF_2 → vp_in ((18 * x4_2) + x5_1) 216 ∧ ∀ table_4 : Nat → Int64, table_4 = vp_updL table_3 ((18 * x4_2) + x5_1).toNatClampNeg rF_2 → (Inv_3 table_4 (x5_1 + 1) ∧ Mea_3 table_4 (x5_1 + 1) < Mea_3 table_3 x5_1))) ∧ (¬ (sortOf x4_2.toNatClampNeg) = 0 → (((sortOf x4_2.toNatClampNeg) = 1 → (∃ (P_3 : (Int64) → Prop), wX11_ownAt thrown taped lines size atF place sort value fault faultPlace lastFault lastPlace undoable hasImage rowOf areSums isSieved blocks drawn sF power_2 x4_2 x5_1 P_3 ∧ ∀ (rF_3 : Int64), P_3 rF_3 → ∃ (P_4 : (Int64) → Prop), wX11_rest thrown taped lines size atF place sort value fault faultPlace lastFault lastPlace undoable hasImage rowOf areSums isSieved blocks drawn sF rF_3 P_4 ∧ ∀ (rF_4 : Int64), P_4 rF_4 → vp_in ((18 * x4_2) + x5_1) 216 ∧ ∀ table_5 : Nat → Int64, table_5 = vp_updL table_3 ((18 * x4_2) + x5_1).toNatClampNeg rF_4 → (Inv_3 table_5 (x5_1 + 1) ∧ Mea_3 table_5 (x5_1 + 1) < Mea_3 table_3 x5_1))) ∧ (¬ (sortOf x4_2.toNatClampNeg) = 1 → (((sortOf x4_2.toNatClampNeg) = 2 → (∃ (P_5 : (Int64) → Prop), wX11_together thrown taped lines size atF place sort value fault faultPlace lastFault lastPlace undoable hasImage rowOf areSums isSieved blocks drawn table_3 sF (first x4_2.toNatClampNeg) (second x4_2.toNatClampNeg) x5_1 P_5 ∧ ∀ (rF_5 : Int64), P_5 rF_5 → ∃ (P_6 : (Int64) → Prop), wX11_rest thrown taped lines size atF place sort value fault faultPlace lastFault lastPlace undoable hasImage rowOf areSums isSieved blocks drawn sF rF_5 P_6 ∧ ∀ (rF_6 : Int64), P_6 rF_6 → vp_in ((18 * x4_2) + x5_1) 216 ∧ ∀ table_6 : Nat → Int64, table_6 = vp_updL table_3 ((18 * x4_2) + x5_1).toNatClampNeg rF_6 → (Inv_3 table_6 (x5_1 + 1) ∧ Mea_3 table_6 (x5_1 + 1) < Mea_3 table_3 x5_1))) ∧ (¬ (sortOf x4_2.toNatClampNeg) = 2 → (((sortOf x4_2.toNatClampNeg) = 3 → (∃ (P_7 : (Int64) → Prop), wX11_over thrown taped lines size atF place sort value fault faultPlace lastFault lastPlace undoable hasImage rowOf areSums isSieved blocks drawn table_3 sF x4_2 (first x4_2.toNatClampNeg) x5_1 P_7 ∧ ∀ (rF_7 : Int64), P_7 rF_7 → ∃ (P_8 : (Int64) → Prop), wX11_rest thrown taped lines size atF place sort value fault faultPlace lastFault lastPlace undoable hasImage rowOf areSums isSieved blocks drawn sF rF_7 P_8 ∧ ∀ (rF_8 : Int64), P_8 rF_8 → vp_in ((18 * x4_2) + x5_1) 216 ∧ ∀ table_7 : Nat → Int64, table_7 = vp_updL table_3 ((18 * x4_2) + x5_1).toNatClampNeg rF_8 → (Inv_3 table_7 (x5_1 + 1) ∧ Mea_3 table_7 (x5_1 + 1) < Mea_3 table_3 x5_1))) ∧ (¬ (sortOf x4_2.toNatClampNeg) = 3 → (((sortOf x4_2.toNatClampNeg) = 4 → (vp_in ((18 * (first x4_2.toNatClampNeg)) + x5_1) 216 ∧ vp_in ((18 * (second x4_2.toNatClampNeg)) + x5_1) 216 ∧ ∀ t_1 : Int64, t_1 = (table_3 ((18 * (first x4_2.toNatClampNeg)) + x5_1).toNatClampNeg) * (table_3 ((18 * (second x4_2.toNatClampNeg)) + x5_1).toNatClampNeg) → ∃ (P_9 : (Int64) → Prop), wX11_rest thrown taped lines size atF place sort value fault faultPlace lastFault lastPlace undoable hasImage rowOf areSums isSieved blocks drawn sF t_1 P_9 ∧ ∀ (rF_9 : Int64), P_9 rF_9 → vp_in ((18 * x4_2) + x5_1) 216 ∧ ∀ table_8 : Nat → Int64, table_8 = vp_updL table_3 ((18 * x4_2) + x5_1).toNatClampNeg rF_9 → (Inv_3 table_8 (x5_1 + 1) ∧ Mea_3 table_8 (x5_1 + 1) < Mea_3 table_3 x5_1))) ∧ (¬ (sortOf x4_2.toNatClampNeg) = 4 → (vp_in ((18 * (first x4_2.toNatClampNeg)) + x5_1) 216 ∧ ∃ (P_10 : (Int32) → Prop), wX11_sign a1 x5_1 (signBy x4_2.toNatClampNeg) P_10 ∧ ∀ (rF_10 : Int32), P_10 rF_10 → ∀ t_2 : Int64, t_2 = (table_3 ((18 * (first x4_2.toNatClampNeg)) + x5_1).toNatClampNeg) * (rF_10.toInt64) → ∃ (P_11 : (Int64) → Prop), wX11_rest thrown taped lines size atF place sort value fault faultPlace lastFault lastPlace undoable hasImage rowOf areSums isSieved blocks drawn sF t_2 P_11 ∧ ∀ (rF_11 : Int64), P_11 rF_11 → vp_in ((18 * x4_2) + x5_1) 216 ∧ ∀ table_9 : Nat → Int64, table_9 = vp_updL table_3 ((18 * x4_2) + x5_1).toNatClampNeg rF_11 → (Inv_3 table_9 (x5_1 + 1) ∧ Mea_3 table_9 (x5_1 + 1) < Mea_3 table_3 x5_1))))))))))))))))))))) ∧ (¬ a2 < x4_1 → (vp_in (x4_1 - 1) 18 ∧ ∃ (P_12 : (Int64) → Prop), wX11_rest thrown taped lines size atF place sort value fault faultPlace lastFault lastPlace undoable hasImage rowOf areSums isSieved blocks drawn sF ((power_2 (x4_1 - 1).toNatClampNeg) * (a1.toInt64)) P_12 ∧ ∀ (rF_12 : Int64), P_12 rF_12 → vp_in x4_1 18 ∧ ∀ power_3 : Nat → Int64, power_3 = vp_updL power_2 x4_1.toNatClampNeg rF_12 → (Inv_1 power_3 (x4_1 + 1) ∧ Mea_1 power_3 (x4_1 + 1) < Mea_1 power_2 x4_1))))))
set_option maxHeartbeats 4000000 in
set_option maxRecDepth 100000 in
theorem mX11_laysPowers (l : Launch) (D : va_G) (Y : Nat → ClassId) (h0 : Nat) (thrown : Int32) (v_tape : Value) (taped : Int32) (v_number : Value) (v_isTold : Value) (v_name : Value) (q_sortOf : Nat) (q_first : Nat) (q_second : Nat) (v_degree : Value) (v_colours : Value) (q_signBy : Nat) (v_own : Value) (lines : Int32) (size : Int32) (atF : Int32) (place : Int32) (sort : Int32) (value : Int32) (fault : Int32) (faultPlace : Int32) (lastFault : Int32) (lastPlace : Int32) (q_sF : Nat) (v_kept : Value) (undoable : Int32) (hasImage : Int32) (q_power : Nat) (q_table : Nat) (v_marks : Value) (v_row : Value) (rowOf : Int32) (areSums : Int32) (isSieved : Int32) (v_lastOf : Value) (blocks : Int32) (v_inBlock : Value) (v_atQuotient : Value) (v_small : Value) (drawn : Int32) (power : Nat → Int64) (table : Nat → Int64) (sortOf : Nat → Int32) (sF : Nat → Int32) (first : Nat → Int32) (second : Nat → Int32) (signBy : Nat → Int32) (a1 : Int32) (a2 : Int32) (a3 : Int32) (Q : (Nat → Int64) → (Nat → Int64) → Prop) (h : wX11_laysPowers thrown taped lines size atF place sort value fault faultPlace lastFault lastPlace undoable hasImage rowOf areSums isSieved blocks drawn power table sortOf sF first second signBy a1 a2 a3 Q) : gM l D Y yX11_laysPowers cX11_laysPowers 8 none 1 26 0 0 [.ref h0, .int a1, .int a2, .int a3] [oX11 h0 thrown (v_tape) taped (v_number) (v_isTold) (v_name) (.ref q_sortOf) (.ref q_first) (.ref q_second) (v_degree) (v_colours) (.ref q_signBy) (v_own) lines size atF place sort value fault faultPlace lastFault lastPlace (.ref q_sF) (v_kept) undoable hasImage (.ref q_power) (.ref q_table) (v_marks) (v_row) rowOf areSums isSieved (v_lastOf) blocks (v_inBlock) (v_atQuotient) (v_small) drawn, aJ Y q_power 18 power, aJ Y q_table 216 table, aI Y q_sortOf 24 sortOf, aI Y q_sF 74 sF, aI Y q_first 24 first, aI Y q_second 24 second, aI Y q_signBy 24 signBy] (fun v w => ∃ power' : Nat → Int64, ∃ table' : Nat → Int64, v = none ∧ w = [oX11 h0 thrown (v_tape) taped (v_number) (v_isTold) (v_name) (.ref q_sortOf) (.ref q_first) (.ref q_second) (v_degree) (v_colours) (.ref q_signBy) (v_own) lines size atF place sort value fault faultPlace lastFault lastPlace (.ref q_sF) (v_kept) undoable hasImage (.ref q_power) (.ref q_table) (v_marks) (v_row) rowOf areSums isSieved (v_lastOf) blocks (v_inBlock) (v_atQuotient) (v_small) drawn, aJ Y q_power 18 power', aJ Y q_table 216 table', aI Y q_sortOf 24 sortOf, aI Y q_sF 74 sF, aI Y q_first 24 first, aI Y q_second 24 second, aI Y q_signBy 24 signBy] ∧ Q power' table') := by
  refine gM_of (own := RX11) (by decide +kernel) rfl (Nat.le_of_ble_eq_true rfl) rfl (fun E C hR => ?_)
  unfold wX11_laysPowers at h
  refine g_aload_n C dX11_laysPowers_0 0 rfl ?_
  refine g_get C inX11 0 rfl rfl 27 (by decide) wF_X11_54 rfl dX11_laysPowers_1 ?_
  refine g_iconst (v := 0) C dX11_laysPowers_4 rfl ?_
  refine g_lconst (v := 1) C dX11_laysPowers_5 rfl ?_
  refine g_last C 1 rfl (by unfold vp_in; decide) dX11_laysPowers_6 (fun power_1 epower_1 => gG.eqw (ws' := [oX11 h0 thrown (v_tape) taped (v_number) (v_isTold) (v_name) (.ref q_sortOf) (.ref q_first) (.ref q_second) (v_degree) (v_colours) (.ref q_signBy) (v_own) lines size atF place sort value fault faultPlace lastFault lastPlace (.ref q_sF) (v_kept) undoable hasImage (.ref q_power) (.ref q_table) (v_marks) (v_row) rowOf areSums isSieved (v_lastOf) blocks (v_inBlock) (v_atQuotient) (v_small) drawn, aJ Y q_power 18 power_1, aJ Y q_table 216 table, aI Y q_sortOf 24 sortOf, aI Y q_sF 74 sF, aI Y q_first 24 first, aI Y q_second 24 second, aI Y q_signBy 24 signBy]) rfl ?_)
  replace h := h power_1 epower_1
  refine g_iconst (v := 1) C dX11_laysPowers_7 rfl ?_
  refine g_istore (lv' := [(4, .int 1), (0, .ref h0), (1, .int a1), (2, .int a2), (3, .int a3)]) C dX11_laysPowers_8 (by decide) rfl ?_
  obtain ⟨Inv_1, Mea_1, hI1, hB1⟩ := h
  have key_1 : ∀ (n : Nat) (power_2 : Nat → Int64) (x4_1 : Int32) , Mea_1 power_2 x4_1 < n → Inv_1 power_2 x4_1 → gG E 0 0 [oX11 h0 thrown (v_tape) taped (v_number) (v_isTold) (v_name) (.ref q_sortOf) (.ref q_first) (.ref q_second) (v_degree) (v_colours) (.ref q_signBy) (v_own) lines size atF place sort value fault faultPlace lastFault lastPlace (.ref q_sF) (v_kept) undoable hasImage (.ref q_power) (.ref q_table) (v_marks) (v_row) rowOf areSums isSieved (v_lastOf) blocks (v_inBlock) (v_atQuotient) (v_small) drawn, aJ Y q_power 18 power_2, aJ Y q_table 216 table, aI Y q_sortOf 24 sortOf, aI Y q_sF 74 sF, aI Y q_first 24 first, aI Y q_second 24 second, aI Y q_signBy 24 signBy] [(0, .ref h0), (1, .int a1), (2, .int a2), (3, .int a3), (4, .int x4_1)] [] 10 := by
    intro n
    induction n with
    | zero => exact fun _ _ hm => absurd hm (Nat.not_lt_zero _)
    | succ n ih1 =>
      intro power_2 x4_1  hm1 hI
      have h := hB1 power_2 x4_1 hI
      refine g_iload C dX11_laysPowers_10 4 rfl ?_
      refine g_iload_n C dX11_laysPowers_12 2 rfl ?_
      refine g_icmp_gt (tgt := 45) C dX11_laysPowers_13 (by decide) (fun c_1 => ?_) (fun c_1 => ?_)
      · replace h := h.1 c_1
        refine g_iconst (v := 0) C dX11_laysPowers_45 rfl ?_
        refine g_istore (lv' := [(4, .int 0), (0, .ref h0), (1, .int a1), (2, .int a2), (3, .int a3)]) C dX11_laysPowers_46 (by decide) rfl ?_
        obtain ⟨Inv_2, Mea_2, hI2, hB2⟩ := h
        have key_2 : ∀ (n : Nat) (table_1 : Nat → Int64) (x4_2 : Int32) , Mea_2 table_1 x4_2 < n → Inv_2 table_1 x4_2 → gG E 0 0 [oX11 h0 thrown (v_tape) taped (v_number) (v_isTold) (v_name) (.ref q_sortOf) (.ref q_first) (.ref q_second) (v_degree) (v_colours) (.ref q_signBy) (v_own) lines size atF place sort value fault faultPlace lastFault lastPlace (.ref q_sF) (v_kept) undoable hasImage (.ref q_power) (.ref q_table) (v_marks) (v_row) rowOf areSums isSieved (v_lastOf) blocks (v_inBlock) (v_atQuotient) (v_small) drawn, aJ Y q_power 18 power_2, aJ Y q_table 216 table_1, aI Y q_sortOf 24 sortOf, aI Y q_sF 74 sF, aI Y q_first 24 first, aI Y q_second 24 second, aI Y q_signBy 24 signBy] [(0, .ref h0), (1, .int a1), (2, .int a2), (3, .int a3), (4, .int x4_2)] [] 48 := by
          intro n
          induction n with
          | zero => exact fun _ _ hm => absurd hm (Nat.not_lt_zero _)
          | succ n ih2 =>
            intro table_1 x4_2  hm2 hI
            have h := hB2 table_1 x4_2 hI
            refine g_iload C dX11_laysPowers_48 4 rfl ?_
            refine g_iload_n C dX11_laysPowers_50 3 rfl ?_
            refine g_icmp_gt (tgt := 295) C dX11_laysPowers_51 (by decide) (fun c_2 => ?_) (fun c_2 => ?_)
            · replace h := h.1 c_2
              exact g_vret C hR (Nat.le_of_ble_eq_true rfl) (Nat.le_of_ble_eq_true rfl) dX11_laysPowers_295 ⟨power_2, table_1, rfl, rfl, h⟩
            · replace h := h.2 c_2
              refine g_aload_n C dX11_laysPowers_54 0 rfl ?_
              refine g_get C inX11 0 rfl rfl 28 (by decide) wF_X11_58 rfl dX11_laysPowers_55 ?_
              refine g_bipush (v := 18) C dX11_laysPowers_58 rfl ?_
              refine g_iload C dX11_laysPowers_60 4 rfl ?_
              refine g_imul C dX11_laysPowers_62 ?_
              refine g_lconst (v := 1) C dX11_laysPowers_63 rfl ?_
              obtain ⟨hc_1, h⟩ := h
              refine g_last C 2 rfl hc_1 dX11_laysPowers_64 (fun table_2 etable_2 => gG.eqw (ws' := [oX11 h0 thrown (v_tape) taped (v_number) (v_isTold) (v_name) (.ref q_sortOf) (.ref q_first) (.ref q_second) (v_degree) (v_colours) (.ref q_signBy) (v_own) lines size atF place sort value fault faultPlace lastFault lastPlace (.ref q_sF) (v_kept) undoable hasImage (.ref q_power) (.ref q_table) (v_marks) (v_row) rowOf areSums isSieved (v_lastOf) blocks (v_inBlock) (v_atQuotient) (v_small) drawn, aJ Y q_power 18 power_2, aJ Y q_table 216 table_2, aI Y q_sortOf 24 sortOf, aI Y q_sF 74 sF, aI Y q_first 24 first, aI Y q_second 24 second, aI Y q_signBy 24 signBy]) rfl ?_)
              replace h := h table_2 etable_2
              refine g_iconst (v := 1) C dX11_laysPowers_65 rfl ?_
              refine g_istore (lv' := [(5, .int 1), (0, .ref h0), (1, .int a1), (2, .int a2), (3, .int a3), (4, .int x4_2)]) C dX11_laysPowers_66 (by decide) rfl ?_
              obtain ⟨Inv_3, Mea_3, hI3, hB3⟩ := h
              have key_3 : ∀ (n : Nat) (table_3 : Nat → Int64) (x5_1 : Int32) , Mea_3 table_3 x5_1 < n → Inv_3 table_3 x5_1 → gG E 0 0 [oX11 h0 thrown (v_tape) taped (v_number) (v_isTold) (v_name) (.ref q_sortOf) (.ref q_first) (.ref q_second) (v_degree) (v_colours) (.ref q_signBy) (v_own) lines size atF place sort value fault faultPlace lastFault lastPlace (.ref q_sF) (v_kept) undoable hasImage (.ref q_power) (.ref q_table) (v_marks) (v_row) rowOf areSums isSieved (v_lastOf) blocks (v_inBlock) (v_atQuotient) (v_small) drawn, aJ Y q_power 18 power_2, aJ Y q_table 216 table_3, aI Y q_sortOf 24 sortOf, aI Y q_sF 74 sF, aI Y q_first 24 first, aI Y q_second 24 second, aI Y q_signBy 24 signBy] [(0, .ref h0), (1, .int a1), (2, .int a2), (3, .int a3), (4, .int x4_2), (5, .int x5_1)] [] 68 := by
                intro n
                induction n with
                | zero => exact fun _ _ hm => absurd hm (Nat.not_lt_zero _)
                | succ n ih3 =>
                  intro table_3 x5_1  hm3 hI
                  have h := hB3 table_3 x5_1 hI
                  refine g_iload C dX11_laysPowers_68 5 rfl ?_
                  refine g_iload_n C dX11_laysPowers_70 2 rfl ?_
                  refine g_icmp_gt (tgt := 289) C dX11_laysPowers_71 (by decide) (fun c_3 => ?_) (fun c_3 => ?_)
                  · replace h := h.1 c_3
                    refine g_iinc (v := x4_2 + 1) (lv' := [(4, .int (x4_2 + 1)), (0, .ref h0), (1, .int a1), (2, .int a2), (3, .int a3), (5, .int x5_1)]) C dX11_laysPowers_289 4 rfl rfl (by decide) rfl ?_
                    refine g_goto (tgt := 48) C dX11_laysPowers_292 (by decide) ?_
                    refine gG.locals (lv' := [(0, .ref h0), (1, .int a1), (2, .int a2), (3, .int a3), (4, .int (x4_2 + 1))]) [1, 2, 3, 4, 0] rfl ?_
                    exact ih2 table_3 (x4_2 + 1) (Nat.lt_of_lt_of_le h.2 (Nat.le_of_lt_succ hm2)) h.1
                  · replace h := h.2 c_3
                    refine g_aload_n C dX11_laysPowers_74 0 rfl ?_
                    refine g_get C inX11 0 rfl rfl 6 (by decide) wF_X11_23 rfl dX11_laysPowers_75 ?_
                    refine g_iload C dX11_laysPowers_78 4 rfl ?_
                    obtain ⟨hc_2, h⟩ := h
                    refine g_iald C 3 rfl hc_2 dX11_laysPowers_80 ?_
                    by_cases c_4 : (sortOf x4_2.toNatClampNeg) = 0
                    · replace h := h.1 c_4
                      refine g_tabI (v := 0) (tgt := 116) C dX11_laysPowers_81 c_4 (by decide) (by decide) rfl (by decide) ?_
                      refine g_aload_n C dX11_laysPowers_116 0 rfl ?_
                      refine g_iload C dX11_laysPowers_117 4 rfl ?_
                      refine g_iload C dX11_laysPowers_119 5 rfl ?_
                      obtain ⟨P_1, hP, h⟩ := h
                      refine g_callV (As := [.int x4_2, .int x5_1]) (rest := []) C (mX11_known l D Y h0 thrown v_tape taped v_number v_isTold v_name (.ref q_sortOf) (.ref q_first) (.ref q_second) v_degree v_colours (.ref q_signBy) v_own lines size atF place sort value fault faultPlace lastFault lastPlace (.ref q_sF) v_kept undoable hasImage q_power q_table v_marks v_row rowOf areSums isSieved v_lastOf blocks v_inBlock v_atQuotient v_small drawn power_2 table_3 x4_2 x5_1 P_1 hP) dX11_laysPowers_121 rfl wM_X11_260 wI_X11_known wV_X11_known wN_X11 wC_X11_known (n := 2) (by decide +kernel) rfl (q0 := 0) rfl rfl ⟨Nat.le_of_ble_eq_true rfl, Nat.le_of_ble_eq_true rfl⟩ ⟨Nat.le_of_ble_eq_true rfl, Nat.le_of_ble_eq_true rfl⟩ (Nat.le_of_ble_eq_true rfl) [0, 1, 2] [3, 4, 5, 6, 7] rfl rfl rfl (fun v wc hv => ?_)
                      obtain ⟨rF_1, rfl, rfl, hq⟩ := hv
                      replace h := h rF_1 hq
                      refine gG.perm (ws' := [oX11 h0 thrown (v_tape) taped (v_number) (v_isTold) (v_name) (.ref q_sortOf) (.ref q_first) (.ref q_second) (v_degree) (v_colours) (.ref q_signBy) (v_own) lines size atF place sort value fault faultPlace lastFault lastPlace (.ref q_sF) (v_kept) undoable hasImage (.ref q_power) (.ref q_table) (v_marks) (v_row) rowOf areSums isSieved (v_lastOf) blocks (v_inBlock) (v_atQuotient) (v_small) drawn, aJ Y q_power 18 power_2, aJ Y q_table 216 table_3, aI Y q_sortOf 24 sortOf, aI Y q_sF 74 sF, aI Y q_first 24 first, aI Y q_second 24 second, aI Y q_signBy 24 signBy]) [5, 6, 7, 0, 1, 2, 3, 4] rfl rfl ?_
                      refine g_lstore (lv' := [(6, .long rF_1), (0, .ref h0), (1, .int a1), (2, .int a2), (3, .int a3), (4, .int x4_2), (5, .int x5_1)]) C dX11_laysPowers_124 (by decide) rfl ?_
                      refine g_goto (tgt := 264) C dX11_laysPowers_126 (by decide) ?_
                      refine g_aload_n C dX11_laysPowers_264 1 rfl ?_
                      refine g_get C inX11 0 rfl rfl 28 (by decide) wF_X11_58 rfl dX11_laysPowers_265 ?_
                      refine g_bipush (v := 18) C dX11_laysPowers_268 rfl ?_
                      refine g_iload C dX11_laysPowers_270 5 rfl ?_
                      refine g_imul C dX11_laysPowers_272 ?_
                      refine g_iload C dX11_laysPowers_273 6 rfl ?_
                      refine g_iadd C dX11_laysPowers_275 ?_
                      refine g_aload_n C dX11_laysPowers_276 1 rfl ?_
                      refine g_lload C dX11_laysPowers_277 0 rfl ?_
                      obtain ⟨P_2, hP, h⟩ := h
                      refine g_callV (As := [.long rF_1]) (rest := [.int ((18 * x4_2) + x5_1), .ref q_table]) C (mX11_rest l D Y h0 thrown v_tape taped v_number v_isTold v_name (.ref q_sortOf) (.ref q_first) (.ref q_second) v_degree v_colours (.ref q_signBy) v_own lines size atF place sort value fault faultPlace lastFault lastPlace q_sF v_kept undoable hasImage (.ref q_power) (.ref q_table) v_marks v_row rowOf areSums isSieved v_lastOf blocks v_inBlock v_atQuotient v_small drawn sF rF_1 P_2 hP) dX11_laysPowers_279 rfl wM_X11_256 wI_X11_rest wV_X11_rest wN_X11 wC_X11_rest (n := 1) (by decide +kernel) rfl (q0 := 0) rfl rfl ⟨Nat.le_of_ble_eq_true rfl, Nat.le_of_ble_eq_true rfl⟩ ⟨Nat.le_of_ble_eq_true rfl, Nat.le_of_ble_eq_true rfl⟩ (Nat.le_of_ble_eq_true rfl) [0, 4] [1, 2, 3, 5, 6, 7] rfl rfl rfl (fun v wc hv => ?_)
                      obtain ⟨rF_2, rfl, rfl, hq⟩ := hv
                      replace h := h rF_2 hq
                      refine gG.perm (ws' := [oX11 h0 thrown (v_tape) taped (v_number) (v_isTold) (v_name) (.ref q_sortOf) (.ref q_first) (.ref q_second) (v_degree) (v_colours) (.ref q_signBy) (v_own) lines size atF place sort value fault faultPlace lastFault lastPlace (.ref q_sF) (v_kept) undoable hasImage (.ref q_power) (.ref q_table) (v_marks) (v_row) rowOf areSums isSieved (v_lastOf) blocks (v_inBlock) (v_atQuotient) (v_small) drawn, aJ Y q_power 18 power_2, aJ Y q_table 216 table_3, aI Y q_sortOf 24 sortOf, aI Y q_sF 74 sF, aI Y q_first 24 first, aI Y q_second 24 second, aI Y q_signBy 24 signBy]) [6, 0, 1, 2, 7, 3, 4, 5] rfl rfl ?_
                      obtain ⟨hc_3, h⟩ := h
                      refine g_last C 2 rfl hc_3 dX11_laysPowers_282 (fun table_4 etable_4 => gG.eqw (ws' := [oX11 h0 thrown (v_tape) taped (v_number) (v_isTold) (v_name) (.ref q_sortOf) (.ref q_first) (.ref q_second) (v_degree) (v_colours) (.ref q_signBy) (v_own) lines size atF place sort value fault faultPlace lastFault lastPlace (.ref q_sF) (v_kept) undoable hasImage (.ref q_power) (.ref q_table) (v_marks) (v_row) rowOf areSums isSieved (v_lastOf) blocks (v_inBlock) (v_atQuotient) (v_small) drawn, aJ Y q_power 18 power_2, aJ Y q_table 216 table_4, aI Y q_sortOf 24 sortOf, aI Y q_sF 74 sF, aI Y q_first 24 first, aI Y q_second 24 second, aI Y q_signBy 24 signBy]) rfl ?_)
                      replace h := h table_4 etable_4
                      refine g_iinc (v := x5_1 + 1) (lv' := [(5, .int (x5_1 + 1)), (6, .long rF_1), (0, .ref h0), (1, .int a1), (2, .int a2), (3, .int a3), (4, .int x4_2)]) C dX11_laysPowers_283 6 rfl rfl (by decide) rfl ?_
                      refine g_goto (tgt := 68) C dX11_laysPowers_286 (by decide) ?_
                      refine gG.locals (lv' := [(0, .ref h0), (1, .int a1), (2, .int a2), (3, .int a3), (4, .int x4_2), (5, .int (x5_1 + 1))]) [2, 3, 4, 5, 6, 0] rfl ?_
                      exact ih3 table_4 (x5_1 + 1) (Nat.lt_of_lt_of_le h.2 (Nat.le_of_lt_succ hm3)) h.1
                    · replace h := h.2 c_4
                      by_cases c_5 : (sortOf x4_2.toNatClampNeg) = 1
                      · replace h := h.1 c_5
                        refine g_tabI (v := 1) (tgt := 129) C dX11_laysPowers_81 c_5 (by decide) (by decide) rfl (by decide) ?_
                        refine g_aload_n C dX11_laysPowers_129 0 rfl ?_
                        refine g_iload C dX11_laysPowers_130 4 rfl ?_
                        refine g_iload C dX11_laysPowers_132 5 rfl ?_
                        obtain ⟨P_3, hP, h⟩ := h
                        refine g_callV (As := [.int x4_2, .int x5_1]) (rest := []) C (mX11_ownAt l D Y h0 thrown v_tape taped v_number v_isTold v_name (.ref q_sortOf) (.ref q_first) (.ref q_second) v_degree v_colours (.ref q_signBy) v_own lines size atF place sort value fault faultPlace lastFault lastPlace q_sF v_kept undoable hasImage q_power (.ref q_table) v_marks v_row rowOf areSums isSieved v_lastOf blocks v_inBlock v_atQuotient v_small drawn sF power_2 x4_2 x5_1 P_3 hP) dX11_laysPowers_134 rfl wM_X11_264 wI_X11_ownAt wV_X11_ownAt wN_X11 wC_X11_ownAt (n := 2) (by decide +kernel) rfl (q0 := 0) rfl rfl ⟨Nat.le_of_ble_eq_true rfl, Nat.le_of_ble_eq_true rfl⟩ ⟨Nat.le_of_ble_eq_true rfl, Nat.le_of_ble_eq_true rfl⟩ (Nat.le_of_ble_eq_true rfl) [0, 4, 1] [2, 3, 5, 6, 7] rfl rfl rfl (fun v wc hv => ?_)
                        obtain ⟨rF_3, rfl, rfl, hq⟩ := hv
                        replace h := h rF_3 hq
                        refine gG.perm (ws' := [oX11 h0 thrown (v_tape) taped (v_number) (v_isTold) (v_name) (.ref q_sortOf) (.ref q_first) (.ref q_second) (v_degree) (v_colours) (.ref q_signBy) (v_own) lines size atF place sort value fault faultPlace lastFault lastPlace (.ref q_sF) (v_kept) undoable hasImage (.ref q_power) (.ref q_table) (v_marks) (v_row) rowOf areSums isSieved (v_lastOf) blocks (v_inBlock) (v_atQuotient) (v_small) drawn, aJ Y q_power 18 power_2, aJ Y q_table 216 table_3, aI Y q_sortOf 24 sortOf, aI Y q_sF 74 sF, aI Y q_first 24 first, aI Y q_second 24 second, aI Y q_signBy 24 signBy]) [5, 7, 0, 1, 6, 2, 3, 4] rfl rfl ?_
                        refine g_lstore (lv' := [(6, .long rF_3), (0, .ref h0), (1, .int a1), (2, .int a2), (3, .int a3), (4, .int x4_2), (5, .int x5_1)]) C dX11_laysPowers_137 (by decide) rfl ?_
                        refine g_goto (tgt := 264) C dX11_laysPowers_139 (by decide) ?_
                        refine g_aload_n C dX11_laysPowers_264 1 rfl ?_
                        refine g_get C inX11 0 rfl rfl 28 (by decide) wF_X11_58 rfl dX11_laysPowers_265 ?_
                        refine g_bipush (v := 18) C dX11_laysPowers_268 rfl ?_
                        refine g_iload C dX11_laysPowers_270 5 rfl ?_
                        refine g_imul C dX11_laysPowers_272 ?_
                        refine g_iload C dX11_laysPowers_273 6 rfl ?_
                        refine g_iadd C dX11_laysPowers_275 ?_
                        refine g_aload_n C dX11_laysPowers_276 1 rfl ?_
                        refine g_lload C dX11_laysPowers_277 0 rfl ?_
                        obtain ⟨P_4, hP, h⟩ := h
                        refine g_callV (As := [.long rF_3]) (rest := [.int ((18 * x4_2) + x5_1), .ref q_table]) C (mX11_rest l D Y h0 thrown v_tape taped v_number v_isTold v_name (.ref q_sortOf) (.ref q_first) (.ref q_second) v_degree v_colours (.ref q_signBy) v_own lines size atF place sort value fault faultPlace lastFault lastPlace q_sF v_kept undoable hasImage (.ref q_power) (.ref q_table) v_marks v_row rowOf areSums isSieved v_lastOf blocks v_inBlock v_atQuotient v_small drawn sF rF_3 P_4 hP) dX11_laysPowers_279 rfl wM_X11_256 wI_X11_rest wV_X11_rest wN_X11 wC_X11_rest (n := 1) (by decide +kernel) rfl (q0 := 0) rfl rfl ⟨Nat.le_of_ble_eq_true rfl, Nat.le_of_ble_eq_true rfl⟩ ⟨Nat.le_of_ble_eq_true rfl, Nat.le_of_ble_eq_true rfl⟩ (Nat.le_of_ble_eq_true rfl) [0, 4] [1, 2, 3, 5, 6, 7] rfl rfl rfl (fun v wc hv => ?_)
                        obtain ⟨rF_4, rfl, rfl, hq⟩ := hv
                        replace h := h rF_4 hq
                        refine gG.perm (ws' := [oX11 h0 thrown (v_tape) taped (v_number) (v_isTold) (v_name) (.ref q_sortOf) (.ref q_first) (.ref q_second) (v_degree) (v_colours) (.ref q_signBy) (v_own) lines size atF place sort value fault faultPlace lastFault lastPlace (.ref q_sF) (v_kept) undoable hasImage (.ref q_power) (.ref q_table) (v_marks) (v_row) rowOf areSums isSieved (v_lastOf) blocks (v_inBlock) (v_atQuotient) (v_small) drawn, aJ Y q_power 18 power_2, aJ Y q_table 216 table_3, aI Y q_sortOf 24 sortOf, aI Y q_sF 74 sF, aI Y q_first 24 first, aI Y q_second 24 second, aI Y q_signBy 24 signBy]) [6, 0, 1, 2, 7, 3, 4, 5] rfl rfl ?_
                        obtain ⟨hc_4, h⟩ := h
                        refine g_last C 2 rfl hc_4 dX11_laysPowers_282 (fun table_5 etable_5 => gG.eqw (ws' := [oX11 h0 thrown (v_tape) taped (v_number) (v_isTold) (v_name) (.ref q_sortOf) (.ref q_first) (.ref q_second) (v_degree) (v_colours) (.ref q_signBy) (v_own) lines size atF place sort value fault faultPlace lastFault lastPlace (.ref q_sF) (v_kept) undoable hasImage (.ref q_power) (.ref q_table) (v_marks) (v_row) rowOf areSums isSieved (v_lastOf) blocks (v_inBlock) (v_atQuotient) (v_small) drawn, aJ Y q_power 18 power_2, aJ Y q_table 216 table_5, aI Y q_sortOf 24 sortOf, aI Y q_sF 74 sF, aI Y q_first 24 first, aI Y q_second 24 second, aI Y q_signBy 24 signBy]) rfl ?_)
                        replace h := h table_5 etable_5
                        refine g_iinc (v := x5_1 + 1) (lv' := [(5, .int (x5_1 + 1)), (6, .long rF_3), (0, .ref h0), (1, .int a1), (2, .int a2), (3, .int a3), (4, .int x4_2)]) C dX11_laysPowers_283 6 rfl rfl (by decide) rfl ?_
                        refine g_goto (tgt := 68) C dX11_laysPowers_286 (by decide) ?_
                        refine gG.locals (lv' := [(0, .ref h0), (1, .int a1), (2, .int a2), (3, .int a3), (4, .int x4_2), (5, .int (x5_1 + 1))]) [2, 3, 4, 5, 6, 0] rfl ?_
                        exact ih3 table_5 (x5_1 + 1) (Nat.lt_of_lt_of_le h.2 (Nat.le_of_lt_succ hm3)) h.1
                      · replace h := h.2 c_5
                        by_cases c_6 : (sortOf x4_2.toNatClampNeg) = 2
                        · replace h := h.1 c_6
                          refine g_tabI (v := 2) (tgt := 142) C dX11_laysPowers_81 c_6 (by decide) (by decide) rfl (by decide) ?_
                          refine g_aload_n C dX11_laysPowers_142 0 rfl ?_
                          refine g_aload_n C dX11_laysPowers_143 0 rfl ?_
                          refine g_get C inX11 0 rfl rfl 7 (by decide) wF_X11_26 rfl dX11_laysPowers_144 ?_
                          refine g_iload C dX11_laysPowers_147 4 rfl ?_
                          refine g_iald C 5 rfl hc_2 dX11_laysPowers_149 ?_
                          refine g_aload_n C dX11_laysPowers_150 0 rfl ?_
                          refine g_get C inX11 0 rfl rfl 8 (by decide) wF_X11_29 rfl dX11_laysPowers_151 ?_
                          refine g_iload C dX11_laysPowers_154 4 rfl ?_
                          refine g_iald C 6 rfl hc_2 dX11_laysPowers_156 ?_
                          refine g_iload C dX11_laysPowers_157 5 rfl ?_
                          obtain ⟨P_5, hP, h⟩ := h
                          refine g_callV (As := [.int (first x4_2.toNatClampNeg), .int (second x4_2.toNatClampNeg), .int x5_1]) (rest := []) C (mX11_together l D Y h0 thrown v_tape taped v_number v_isTold v_name (.ref q_sortOf) (.ref q_first) (.ref q_second) v_degree v_colours (.ref q_signBy) v_own lines size atF place sort value fault faultPlace lastFault lastPlace q_sF v_kept undoable hasImage (.ref q_power) q_table v_marks v_row rowOf areSums isSieved v_lastOf blocks v_inBlock v_atQuotient v_small drawn table_3 sF (first x4_2.toNatClampNeg) (second x4_2.toNatClampNeg) x5_1 P_5 hP) dX11_laysPowers_159 rfl wM_X11_267 wI_X11_together wV_X11_together wN_X11 wC_X11_together (n := 3) (by decide +kernel) rfl (q0 := 0) rfl rfl ⟨Nat.le_of_ble_eq_true rfl, Nat.le_of_ble_eq_true rfl⟩ ⟨Nat.le_of_ble_eq_true rfl, Nat.le_of_ble_eq_true rfl⟩ (Nat.le_of_ble_eq_true rfl) [0, 2, 4] [1, 3, 5, 6, 7] rfl rfl rfl (fun v wc hv => ?_)
                          obtain ⟨rF_5, rfl, rfl, hq⟩ := hv
                          replace h := h rF_5 hq
                          refine gG.perm (ws' := [oX11 h0 thrown (v_tape) taped (v_number) (v_isTold) (v_name) (.ref q_sortOf) (.ref q_first) (.ref q_second) (v_degree) (v_colours) (.ref q_signBy) (v_own) lines size atF place sort value fault faultPlace lastFault lastPlace (.ref q_sF) (v_kept) undoable hasImage (.ref q_power) (.ref q_table) (v_marks) (v_row) rowOf areSums isSieved (v_lastOf) blocks (v_inBlock) (v_atQuotient) (v_small) drawn, aJ Y q_power 18 power_2, aJ Y q_table 216 table_3, aI Y q_sortOf 24 sortOf, aI Y q_sF 74 sF, aI Y q_first 24 first, aI Y q_second 24 second, aI Y q_signBy 24 signBy]) [5, 0, 6, 1, 7, 2, 3, 4] rfl rfl ?_
                          refine g_lstore (lv' := [(6, .long rF_5), (0, .ref h0), (1, .int a1), (2, .int a2), (3, .int a3), (4, .int x4_2), (5, .int x5_1)]) C dX11_laysPowers_162 (by decide) rfl ?_
                          refine g_goto (tgt := 264) C dX11_laysPowers_164 (by decide) ?_
                          refine g_aload_n C dX11_laysPowers_264 1 rfl ?_
                          refine g_get C inX11 0 rfl rfl 28 (by decide) wF_X11_58 rfl dX11_laysPowers_265 ?_
                          refine g_bipush (v := 18) C dX11_laysPowers_268 rfl ?_
                          refine g_iload C dX11_laysPowers_270 5 rfl ?_
                          refine g_imul C dX11_laysPowers_272 ?_
                          refine g_iload C dX11_laysPowers_273 6 rfl ?_
                          refine g_iadd C dX11_laysPowers_275 ?_
                          refine g_aload_n C dX11_laysPowers_276 1 rfl ?_
                          refine g_lload C dX11_laysPowers_277 0 rfl ?_
                          obtain ⟨P_6, hP, h⟩ := h
                          refine g_callV (As := [.long rF_5]) (rest := [.int ((18 * x4_2) + x5_1), .ref q_table]) C (mX11_rest l D Y h0 thrown v_tape taped v_number v_isTold v_name (.ref q_sortOf) (.ref q_first) (.ref q_second) v_degree v_colours (.ref q_signBy) v_own lines size atF place sort value fault faultPlace lastFault lastPlace q_sF v_kept undoable hasImage (.ref q_power) (.ref q_table) v_marks v_row rowOf areSums isSieved v_lastOf blocks v_inBlock v_atQuotient v_small drawn sF rF_5 P_6 hP) dX11_laysPowers_279 rfl wM_X11_256 wI_X11_rest wV_X11_rest wN_X11 wC_X11_rest (n := 1) (by decide +kernel) rfl (q0 := 0) rfl rfl ⟨Nat.le_of_ble_eq_true rfl, Nat.le_of_ble_eq_true rfl⟩ ⟨Nat.le_of_ble_eq_true rfl, Nat.le_of_ble_eq_true rfl⟩ (Nat.le_of_ble_eq_true rfl) [0, 4] [1, 2, 3, 5, 6, 7] rfl rfl rfl (fun v wc hv => ?_)
                          obtain ⟨rF_6, rfl, rfl, hq⟩ := hv
                          replace h := h rF_6 hq
                          refine gG.perm (ws' := [oX11 h0 thrown (v_tape) taped (v_number) (v_isTold) (v_name) (.ref q_sortOf) (.ref q_first) (.ref q_second) (v_degree) (v_colours) (.ref q_signBy) (v_own) lines size atF place sort value fault faultPlace lastFault lastPlace (.ref q_sF) (v_kept) undoable hasImage (.ref q_power) (.ref q_table) (v_marks) (v_row) rowOf areSums isSieved (v_lastOf) blocks (v_inBlock) (v_atQuotient) (v_small) drawn, aJ Y q_power 18 power_2, aJ Y q_table 216 table_3, aI Y q_sortOf 24 sortOf, aI Y q_sF 74 sF, aI Y q_first 24 first, aI Y q_second 24 second, aI Y q_signBy 24 signBy]) [6, 0, 1, 2, 7, 3, 4, 5] rfl rfl ?_
                          obtain ⟨hc_5, h⟩ := h
                          refine g_last C 2 rfl hc_5 dX11_laysPowers_282 (fun table_6 etable_6 => gG.eqw (ws' := [oX11 h0 thrown (v_tape) taped (v_number) (v_isTold) (v_name) (.ref q_sortOf) (.ref q_first) (.ref q_second) (v_degree) (v_colours) (.ref q_signBy) (v_own) lines size atF place sort value fault faultPlace lastFault lastPlace (.ref q_sF) (v_kept) undoable hasImage (.ref q_power) (.ref q_table) (v_marks) (v_row) rowOf areSums isSieved (v_lastOf) blocks (v_inBlock) (v_atQuotient) (v_small) drawn, aJ Y q_power 18 power_2, aJ Y q_table 216 table_6, aI Y q_sortOf 24 sortOf, aI Y q_sF 74 sF, aI Y q_first 24 first, aI Y q_second 24 second, aI Y q_signBy 24 signBy]) rfl ?_)
                          replace h := h table_6 etable_6
                          refine g_iinc (v := x5_1 + 1) (lv' := [(5, .int (x5_1 + 1)), (6, .long rF_5), (0, .ref h0), (1, .int a1), (2, .int a2), (3, .int a3), (4, .int x4_2)]) C dX11_laysPowers_283 6 rfl rfl (by decide) rfl ?_
                          refine g_goto (tgt := 68) C dX11_laysPowers_286 (by decide) ?_
                          refine gG.locals (lv' := [(0, .ref h0), (1, .int a1), (2, .int a2), (3, .int a3), (4, .int x4_2), (5, .int (x5_1 + 1))]) [2, 3, 4, 5, 6, 0] rfl ?_
                          exact ih3 table_6 (x5_1 + 1) (Nat.lt_of_lt_of_le h.2 (Nat.le_of_lt_succ hm3)) h.1
                        · replace h := h.2 c_6
                          by_cases c_7 : (sortOf x4_2.toNatClampNeg) = 3
                          · replace h := h.1 c_7
                            refine g_tabI (v := 3) (tgt := 167) C dX11_laysPowers_81 c_7 (by decide) (by decide) rfl (by decide) ?_
                            refine g_aload_n C dX11_laysPowers_167 0 rfl ?_
                            refine g_iload C dX11_laysPowers_168 4 rfl ?_
                            refine g_aload_n C dX11_laysPowers_170 0 rfl ?_
                            refine g_get C inX11 0 rfl rfl 7 (by decide) wF_X11_26 rfl dX11_laysPowers_171 ?_
                            refine g_iload C dX11_laysPowers_174 4 rfl ?_
                            refine g_iald C 5 rfl hc_2 dX11_laysPowers_176 ?_
                            refine g_iload C dX11_laysPowers_177 5 rfl ?_
                            obtain ⟨P_7, hP, h⟩ := h
                            refine g_callV (As := [.int x4_2, .int (first x4_2.toNatClampNeg), .int x5_1]) (rest := []) C (mX11_over l D Y h0 thrown v_tape taped v_number v_isTold v_name (.ref q_sortOf) (.ref q_first) (.ref q_second) v_degree v_colours (.ref q_signBy) v_own lines size atF place sort value fault faultPlace lastFault lastPlace q_sF v_kept undoable hasImage (.ref q_power) q_table v_marks v_row rowOf areSums isSieved v_lastOf blocks v_inBlock v_atQuotient v_small drawn table_3 sF x4_2 (first x4_2.toNatClampNeg) x5_1 P_7 hP) dX11_laysPowers_179 rfl wM_X11_271 wI_X11_over wV_X11_over wN_X11 wC_X11_over (n := 3) (by decide +kernel) rfl (q0 := 0) rfl rfl ⟨Nat.le_of_ble_eq_true rfl, Nat.le_of_ble_eq_true rfl⟩ ⟨Nat.le_of_ble_eq_true rfl, Nat.le_of_ble_eq_true rfl⟩ (Nat.le_of_ble_eq_true rfl) [0, 2, 4] [1, 3, 5, 6, 7] rfl rfl rfl (fun v wc hv => ?_)
                            obtain ⟨rF_7, rfl, rfl, hq⟩ := hv
                            replace h := h rF_7 hq
                            refine gG.perm (ws' := [oX11 h0 thrown (v_tape) taped (v_number) (v_isTold) (v_name) (.ref q_sortOf) (.ref q_first) (.ref q_second) (v_degree) (v_colours) (.ref q_signBy) (v_own) lines size atF place sort value fault faultPlace lastFault lastPlace (.ref q_sF) (v_kept) undoable hasImage (.ref q_power) (.ref q_table) (v_marks) (v_row) rowOf areSums isSieved (v_lastOf) blocks (v_inBlock) (v_atQuotient) (v_small) drawn, aJ Y q_power 18 power_2, aJ Y q_table 216 table_3, aI Y q_sortOf 24 sortOf, aI Y q_sF 74 sF, aI Y q_first 24 first, aI Y q_second 24 second, aI Y q_signBy 24 signBy]) [5, 0, 6, 1, 7, 2, 3, 4] rfl rfl ?_
                            refine g_lstore (lv' := [(6, .long rF_7), (0, .ref h0), (1, .int a1), (2, .int a2), (3, .int a3), (4, .int x4_2), (5, .int x5_1)]) C dX11_laysPowers_182 (by decide) rfl ?_
                            refine g_goto (tgt := 264) C dX11_laysPowers_184 (by decide) ?_
                            refine g_aload_n C dX11_laysPowers_264 1 rfl ?_
                            refine g_get C inX11 0 rfl rfl 28 (by decide) wF_X11_58 rfl dX11_laysPowers_265 ?_
                            refine g_bipush (v := 18) C dX11_laysPowers_268 rfl ?_
                            refine g_iload C dX11_laysPowers_270 5 rfl ?_
                            refine g_imul C dX11_laysPowers_272 ?_
                            refine g_iload C dX11_laysPowers_273 6 rfl ?_
                            refine g_iadd C dX11_laysPowers_275 ?_
                            refine g_aload_n C dX11_laysPowers_276 1 rfl ?_
                            refine g_lload C dX11_laysPowers_277 0 rfl ?_
                            obtain ⟨P_8, hP, h⟩ := h
                            refine g_callV (As := [.long rF_7]) (rest := [.int ((18 * x4_2) + x5_1), .ref q_table]) C (mX11_rest l D Y h0 thrown v_tape taped v_number v_isTold v_name (.ref q_sortOf) (.ref q_first) (.ref q_second) v_degree v_colours (.ref q_signBy) v_own lines size atF place sort value fault faultPlace lastFault lastPlace q_sF v_kept undoable hasImage (.ref q_power) (.ref q_table) v_marks v_row rowOf areSums isSieved v_lastOf blocks v_inBlock v_atQuotient v_small drawn sF rF_7 P_8 hP) dX11_laysPowers_279 rfl wM_X11_256 wI_X11_rest wV_X11_rest wN_X11 wC_X11_rest (n := 1) (by decide +kernel) rfl (q0 := 0) rfl rfl ⟨Nat.le_of_ble_eq_true rfl, Nat.le_of_ble_eq_true rfl⟩ ⟨Nat.le_of_ble_eq_true rfl, Nat.le_of_ble_eq_true rfl⟩ (Nat.le_of_ble_eq_true rfl) [0, 4] [1, 2, 3, 5, 6, 7] rfl rfl rfl (fun v wc hv => ?_)
                            obtain ⟨rF_8, rfl, rfl, hq⟩ := hv
                            replace h := h rF_8 hq
                            refine gG.perm (ws' := [oX11 h0 thrown (v_tape) taped (v_number) (v_isTold) (v_name) (.ref q_sortOf) (.ref q_first) (.ref q_second) (v_degree) (v_colours) (.ref q_signBy) (v_own) lines size atF place sort value fault faultPlace lastFault lastPlace (.ref q_sF) (v_kept) undoable hasImage (.ref q_power) (.ref q_table) (v_marks) (v_row) rowOf areSums isSieved (v_lastOf) blocks (v_inBlock) (v_atQuotient) (v_small) drawn, aJ Y q_power 18 power_2, aJ Y q_table 216 table_3, aI Y q_sortOf 24 sortOf, aI Y q_sF 74 sF, aI Y q_first 24 first, aI Y q_second 24 second, aI Y q_signBy 24 signBy]) [6, 0, 1, 2, 7, 3, 4, 5] rfl rfl ?_
                            obtain ⟨hc_6, h⟩ := h
                            refine g_last C 2 rfl hc_6 dX11_laysPowers_282 (fun table_7 etable_7 => gG.eqw (ws' := [oX11 h0 thrown (v_tape) taped (v_number) (v_isTold) (v_name) (.ref q_sortOf) (.ref q_first) (.ref q_second) (v_degree) (v_colours) (.ref q_signBy) (v_own) lines size atF place sort value fault faultPlace lastFault lastPlace (.ref q_sF) (v_kept) undoable hasImage (.ref q_power) (.ref q_table) (v_marks) (v_row) rowOf areSums isSieved (v_lastOf) blocks (v_inBlock) (v_atQuotient) (v_small) drawn, aJ Y q_power 18 power_2, aJ Y q_table 216 table_7, aI Y q_sortOf 24 sortOf, aI Y q_sF 74 sF, aI Y q_first 24 first, aI Y q_second 24 second, aI Y q_signBy 24 signBy]) rfl ?_)
                            replace h := h table_7 etable_7
                            refine g_iinc (v := x5_1 + 1) (lv' := [(5, .int (x5_1 + 1)), (6, .long rF_7), (0, .ref h0), (1, .int a1), (2, .int a2), (3, .int a3), (4, .int x4_2)]) C dX11_laysPowers_283 6 rfl rfl (by decide) rfl ?_
                            refine g_goto (tgt := 68) C dX11_laysPowers_286 (by decide) ?_
                            refine gG.locals (lv' := [(0, .ref h0), (1, .int a1), (2, .int a2), (3, .int a3), (4, .int x4_2), (5, .int (x5_1 + 1))]) [2, 3, 4, 5, 6, 0] rfl ?_
                            exact ih3 table_7 (x5_1 + 1) (Nat.lt_of_lt_of_le h.2 (Nat.le_of_lt_succ hm3)) h.1
                          · replace h := h.2 c_7
                            by_cases c_8 : (sortOf x4_2.toNatClampNeg) = 4
                            · replace h := h.1 c_8
                              refine g_tabI (v := 4) (tgt := 187) C dX11_laysPowers_81 c_8 (by decide) (by decide) rfl (by decide) ?_
                              refine g_aload_n C dX11_laysPowers_187 0 rfl ?_
                              refine g_get C inX11 0 rfl rfl 28 (by decide) wF_X11_58 rfl dX11_laysPowers_188 ?_
                              refine g_bipush (v := 18) C dX11_laysPowers_191 rfl ?_
                              refine g_aload_n C dX11_laysPowers_193 0 rfl ?_
                              refine g_get C inX11 0 rfl rfl 7 (by decide) wF_X11_26 rfl dX11_laysPowers_194 ?_
                              refine g_iload C dX11_laysPowers_197 4 rfl ?_
                              refine g_iald C 5 rfl hc_2 dX11_laysPowers_199 ?_
                              refine g_imul C dX11_laysPowers_200 ?_
                              refine g_iload C dX11_laysPowers_201 5 rfl ?_
                              refine g_iadd C dX11_laysPowers_203 ?_
                              obtain ⟨hc_7, h⟩ := h
                              refine g_lald C 2 rfl hc_7 dX11_laysPowers_204 ?_
                              refine g_aload_n C dX11_laysPowers_205 0 rfl ?_
                              refine g_get C inX11 0 rfl rfl 28 (by decide) wF_X11_58 rfl dX11_laysPowers_206 ?_
                              refine g_bipush (v := 18) C dX11_laysPowers_209 rfl ?_
                              refine g_aload_n C dX11_laysPowers_211 0 rfl ?_
                              refine g_get C inX11 0 rfl rfl 8 (by decide) wF_X11_29 rfl dX11_laysPowers_212 ?_
                              refine g_iload C dX11_laysPowers_215 4 rfl ?_
                              refine g_iald C 6 rfl hc_2 dX11_laysPowers_217 ?_
                              refine g_imul C dX11_laysPowers_218 ?_
                              refine g_iload C dX11_laysPowers_219 5 rfl ?_
                              refine g_iadd C dX11_laysPowers_221 ?_
                              obtain ⟨hc_8, h⟩ := h
                              refine g_lald C 2 rfl hc_8 dX11_laysPowers_222 ?_
                              refine g_lmul C dX11_laysPowers_223 ?_
                              refine g_topl (fun t_1 et_1 => ?_)
                              replace h := h t_1 et_1
                              refine g_lstore (lv' := [(6, .long t_1), (0, .ref h0), (1, .int a1), (2, .int a2), (3, .int a3), (4, .int x4_2), (5, .int x5_1)]) C dX11_laysPowers_224 (by decide) rfl ?_
                              refine g_goto (tgt := 264) C dX11_laysPowers_226 (by decide) ?_
                              refine g_aload_n C dX11_laysPowers_264 1 rfl ?_
                              refine g_get C inX11 0 rfl rfl 28 (by decide) wF_X11_58 rfl dX11_laysPowers_265 ?_
                              refine g_bipush (v := 18) C dX11_laysPowers_268 rfl ?_
                              refine g_iload C dX11_laysPowers_270 5 rfl ?_
                              refine g_imul C dX11_laysPowers_272 ?_
                              refine g_iload C dX11_laysPowers_273 6 rfl ?_
                              refine g_iadd C dX11_laysPowers_275 ?_
                              refine g_aload_n C dX11_laysPowers_276 1 rfl ?_
                              refine g_lload C dX11_laysPowers_277 0 rfl ?_
                              obtain ⟨P_9, hP, h⟩ := h
                              refine g_callV (As := [.long t_1]) (rest := [.int ((18 * x4_2) + x5_1), .ref q_table]) C (mX11_rest l D Y h0 thrown v_tape taped v_number v_isTold v_name (.ref q_sortOf) (.ref q_first) (.ref q_second) v_degree v_colours (.ref q_signBy) v_own lines size atF place sort value fault faultPlace lastFault lastPlace q_sF v_kept undoable hasImage (.ref q_power) (.ref q_table) v_marks v_row rowOf areSums isSieved v_lastOf blocks v_inBlock v_atQuotient v_small drawn sF t_1 P_9 hP) dX11_laysPowers_279 rfl wM_X11_256 wI_X11_rest wV_X11_rest wN_X11 wC_X11_rest (n := 1) (by decide +kernel) rfl (q0 := 0) rfl rfl ⟨Nat.le_of_ble_eq_true rfl, Nat.le_of_ble_eq_true rfl⟩ ⟨Nat.le_of_ble_eq_true rfl, Nat.le_of_ble_eq_true rfl⟩ (Nat.le_of_ble_eq_true rfl) [0, 4] [1, 2, 3, 5, 6, 7] rfl rfl rfl (fun v wc hv => ?_)
                              obtain ⟨rF_9, rfl, rfl, hq⟩ := hv
                              replace h := h rF_9 hq
                              refine gG.perm (ws' := [oX11 h0 thrown (v_tape) taped (v_number) (v_isTold) (v_name) (.ref q_sortOf) (.ref q_first) (.ref q_second) (v_degree) (v_colours) (.ref q_signBy) (v_own) lines size atF place sort value fault faultPlace lastFault lastPlace (.ref q_sF) (v_kept) undoable hasImage (.ref q_power) (.ref q_table) (v_marks) (v_row) rowOf areSums isSieved (v_lastOf) blocks (v_inBlock) (v_atQuotient) (v_small) drawn, aJ Y q_power 18 power_2, aJ Y q_table 216 table_3, aI Y q_sortOf 24 sortOf, aI Y q_sF 74 sF, aI Y q_first 24 first, aI Y q_second 24 second, aI Y q_signBy 24 signBy]) [6, 0, 1, 2, 7, 3, 4, 5] rfl rfl ?_
                              obtain ⟨hc_9, h⟩ := h
                              refine g_last C 2 rfl hc_9 dX11_laysPowers_282 (fun table_8 etable_8 => gG.eqw (ws' := [oX11 h0 thrown (v_tape) taped (v_number) (v_isTold) (v_name) (.ref q_sortOf) (.ref q_first) (.ref q_second) (v_degree) (v_colours) (.ref q_signBy) (v_own) lines size atF place sort value fault faultPlace lastFault lastPlace (.ref q_sF) (v_kept) undoable hasImage (.ref q_power) (.ref q_table) (v_marks) (v_row) rowOf areSums isSieved (v_lastOf) blocks (v_inBlock) (v_atQuotient) (v_small) drawn, aJ Y q_power 18 power_2, aJ Y q_table 216 table_8, aI Y q_sortOf 24 sortOf, aI Y q_sF 74 sF, aI Y q_first 24 first, aI Y q_second 24 second, aI Y q_signBy 24 signBy]) rfl ?_)
                              replace h := h table_8 etable_8
                              refine g_iinc (v := x5_1 + 1) (lv' := [(5, .int (x5_1 + 1)), (6, .long t_1), (0, .ref h0), (1, .int a1), (2, .int a2), (3, .int a3), (4, .int x4_2)]) C dX11_laysPowers_283 6 rfl rfl (by decide) rfl ?_
                              refine g_goto (tgt := 68) C dX11_laysPowers_286 (by decide) ?_
                              refine gG.locals (lv' := [(0, .ref h0), (1, .int a1), (2, .int a2), (3, .int a3), (4, .int x4_2), (5, .int (x5_1 + 1))]) [2, 3, 4, 5, 6, 0] rfl ?_
                              exact ih3 table_8 (x5_1 + 1) (Nat.lt_of_lt_of_le h.2 (Nat.le_of_lt_succ hm3)) h.1
                            · replace h := h.2 c_8
                              refine g_tabO (tgt := 229) C dX11_laysPowers_81 [0, 1, 2, 3, 4] (by decide) (by exact ⟨c_4, c_5, c_6, c_7, c_8, trivial⟩) (by decide) ?_
                              refine g_aload_n C dX11_laysPowers_229 0 rfl ?_
                              refine g_get C inX11 0 rfl rfl 28 (by decide) wF_X11_58 rfl dX11_laysPowers_230 ?_
                              refine g_bipush (v := 18) C dX11_laysPowers_233 rfl ?_
                              refine g_aload_n C dX11_laysPowers_235 0 rfl ?_
                              refine g_get C inX11 0 rfl rfl 7 (by decide) wF_X11_26 rfl dX11_laysPowers_236 ?_
                              refine g_iload C dX11_laysPowers_239 4 rfl ?_
                              refine g_iald C 5 rfl hc_2 dX11_laysPowers_241 ?_
                              refine g_imul C dX11_laysPowers_242 ?_
                              refine g_iload C dX11_laysPowers_243 5 rfl ?_
                              refine g_iadd C dX11_laysPowers_245 ?_
                              obtain ⟨hc_10, h⟩ := h
                              refine g_lald C 2 rfl hc_10 dX11_laysPowers_246 ?_
                              refine g_iload_n C dX11_laysPowers_247 1 rfl ?_
                              refine g_iload C dX11_laysPowers_248 5 rfl ?_
                              refine g_aload_n C dX11_laysPowers_250 0 rfl ?_
                              refine g_get C inX11 0 rfl rfl 11 (by decide) wF_X11_38 rfl dX11_laysPowers_251 ?_
                              refine g_iload C dX11_laysPowers_254 4 rfl ?_
                              refine g_iald C 7 rfl hc_2 dX11_laysPowers_256 ?_
                              obtain ⟨P_10, hP, h⟩ := h
                              refine g_callS (As := [.int a1, .int x5_1, .int (signBy x4_2.toNatClampNeg)]) (rest := [.long (table_3 ((18 * (first x4_2.toNatClampNeg)) + x5_1).toNatClampNeg)]) C (mX11_sign l D Y a1 x5_1 (signBy x4_2.toNatClampNeg) P_10 hP) dX11_laysPowers_257 rfl wM_X11_274 wS_X11_sign wN_X11 wC_X11_sign (n := 3) (by decide +kernel) rfl ⟨Nat.le_of_ble_eq_true rfl, Nat.le_of_ble_eq_true rfl⟩ ⟨Nat.le_of_ble_eq_true rfl, Nat.le_of_ble_eq_true rfl⟩ (Nat.le_of_ble_eq_true rfl) [] [0, 1, 2, 3, 4, 5, 6, 7] rfl rfl rfl (fun v wc hv => ?_)
                              obtain ⟨rF_10, rfl, rfl, hq⟩ := hv
                              replace h := h rF_10 hq
                              refine gG.eqw (ws' := [oX11 h0 thrown (v_tape) taped (v_number) (v_isTold) (v_name) (.ref q_sortOf) (.ref q_first) (.ref q_second) (v_degree) (v_colours) (.ref q_signBy) (v_own) lines size atF place sort value fault faultPlace lastFault lastPlace (.ref q_sF) (v_kept) undoable hasImage (.ref q_power) (.ref q_table) (v_marks) (v_row) rowOf areSums isSieved (v_lastOf) blocks (v_inBlock) (v_atQuotient) (v_small) drawn, aJ Y q_power 18 power_2, aJ Y q_table 216 table_3, aI Y q_sortOf 24 sortOf, aI Y q_sF 74 sF, aI Y q_first 24 first, aI Y q_second 24 second, aI Y q_signBy 24 signBy]) rfl ?_
                              refine g_i2l C dX11_laysPowers_260 ?_
                              refine g_lmul C dX11_laysPowers_261 ?_
                              refine g_topl (fun t_2 et_2 => ?_)
                              replace h := h t_2 et_2
                              refine g_lstore (lv' := [(6, .long t_2), (0, .ref h0), (1, .int a1), (2, .int a2), (3, .int a3), (4, .int x4_2), (5, .int x5_1)]) C dX11_laysPowers_262 (by decide) rfl ?_
                              refine g_aload_n C dX11_laysPowers_264 1 rfl ?_
                              refine g_get C inX11 0 rfl rfl 28 (by decide) wF_X11_58 rfl dX11_laysPowers_265 ?_
                              refine g_bipush (v := 18) C dX11_laysPowers_268 rfl ?_
                              refine g_iload C dX11_laysPowers_270 5 rfl ?_
                              refine g_imul C dX11_laysPowers_272 ?_
                              refine g_iload C dX11_laysPowers_273 6 rfl ?_
                              refine g_iadd C dX11_laysPowers_275 ?_
                              refine g_aload_n C dX11_laysPowers_276 1 rfl ?_
                              refine g_lload C dX11_laysPowers_277 0 rfl ?_
                              obtain ⟨P_11, hP, h⟩ := h
                              refine g_callV (As := [.long t_2]) (rest := [.int ((18 * x4_2) + x5_1), .ref q_table]) C (mX11_rest l D Y h0 thrown v_tape taped v_number v_isTold v_name (.ref q_sortOf) (.ref q_first) (.ref q_second) v_degree v_colours (.ref q_signBy) v_own lines size atF place sort value fault faultPlace lastFault lastPlace q_sF v_kept undoable hasImage (.ref q_power) (.ref q_table) v_marks v_row rowOf areSums isSieved v_lastOf blocks v_inBlock v_atQuotient v_small drawn sF t_2 P_11 hP) dX11_laysPowers_279 rfl wM_X11_256 wI_X11_rest wV_X11_rest wN_X11 wC_X11_rest (n := 1) (by decide +kernel) rfl (q0 := 0) rfl rfl ⟨Nat.le_of_ble_eq_true rfl, Nat.le_of_ble_eq_true rfl⟩ ⟨Nat.le_of_ble_eq_true rfl, Nat.le_of_ble_eq_true rfl⟩ (Nat.le_of_ble_eq_true rfl) [0, 4] [1, 2, 3, 5, 6, 7] rfl rfl rfl (fun v wc hv => ?_)
                              obtain ⟨rF_11, rfl, rfl, hq⟩ := hv
                              replace h := h rF_11 hq
                              refine gG.perm (ws' := [oX11 h0 thrown (v_tape) taped (v_number) (v_isTold) (v_name) (.ref q_sortOf) (.ref q_first) (.ref q_second) (v_degree) (v_colours) (.ref q_signBy) (v_own) lines size atF place sort value fault faultPlace lastFault lastPlace (.ref q_sF) (v_kept) undoable hasImage (.ref q_power) (.ref q_table) (v_marks) (v_row) rowOf areSums isSieved (v_lastOf) blocks (v_inBlock) (v_atQuotient) (v_small) drawn, aJ Y q_power 18 power_2, aJ Y q_table 216 table_3, aI Y q_sortOf 24 sortOf, aI Y q_sF 74 sF, aI Y q_first 24 first, aI Y q_second 24 second, aI Y q_signBy 24 signBy]) [6, 0, 1, 2, 7, 3, 4, 5] rfl rfl ?_
                              obtain ⟨hc_11, h⟩ := h
                              refine g_last C 2 rfl hc_11 dX11_laysPowers_282 (fun table_9 etable_9 => gG.eqw (ws' := [oX11 h0 thrown (v_tape) taped (v_number) (v_isTold) (v_name) (.ref q_sortOf) (.ref q_first) (.ref q_second) (v_degree) (v_colours) (.ref q_signBy) (v_own) lines size atF place sort value fault faultPlace lastFault lastPlace (.ref q_sF) (v_kept) undoable hasImage (.ref q_power) (.ref q_table) (v_marks) (v_row) rowOf areSums isSieved (v_lastOf) blocks (v_inBlock) (v_atQuotient) (v_small) drawn, aJ Y q_power 18 power_2, aJ Y q_table 216 table_9, aI Y q_sortOf 24 sortOf, aI Y q_sF 74 sF, aI Y q_first 24 first, aI Y q_second 24 second, aI Y q_signBy 24 signBy]) rfl ?_)
                              replace h := h table_9 etable_9
                              refine g_iinc (v := x5_1 + 1) (lv' := [(5, .int (x5_1 + 1)), (6, .long t_2), (0, .ref h0), (1, .int a1), (2, .int a2), (3, .int a3), (4, .int x4_2)]) C dX11_laysPowers_283 6 rfl rfl (by decide) rfl ?_
                              refine g_goto (tgt := 68) C dX11_laysPowers_286 (by decide) ?_
                              refine gG.locals (lv' := [(0, .ref h0), (1, .int a1), (2, .int a2), (3, .int a3), (4, .int x4_2), (5, .int (x5_1 + 1))]) [2, 3, 4, 5, 6, 0] rfl ?_
                              exact ih3 table_9 (x5_1 + 1) (Nat.lt_of_lt_of_le h.2 (Nat.le_of_lt_succ hm3)) h.1
              refine gG.locals (lv' := [(0, .ref h0), (1, .int a1), (2, .int a2), (3, .int a3), (4, .int x4_2), (5, .int 1)]) [1, 2, 3, 4, 5, 0] rfl ?_
              exact key_3 (Mea_3 table_2 1 + 1) table_2 1 (Nat.lt_succ_self _) hI3
        refine gG.locals (lv' := [(0, .ref h0), (1, .int a1), (2, .int a2), (3, .int a3), (4, .int 0)]) [1, 2, 3, 4, 0] rfl ?_
        exact key_2 (Mea_2 table 0 + 1) table 0 (Nat.lt_succ_self _) hI2
      · replace h := h.2 c_1
        refine g_aload_n C dX11_laysPowers_16 0 rfl ?_
        refine g_get C inX11 0 rfl rfl 27 (by decide) wF_X11_54 rfl dX11_laysPowers_17 ?_
        refine g_iload C dX11_laysPowers_20 4 rfl ?_
        refine g_aload_n C dX11_laysPowers_22 0 rfl ?_
        refine g_aload_n C dX11_laysPowers_23 0 rfl ?_
        refine g_get C inX11 0 rfl rfl 27 (by decide) wF_X11_54 rfl dX11_laysPowers_24 ?_
        refine g_iload C dX11_laysPowers_27 4 rfl ?_
        refine g_iconst (v := 1) C dX11_laysPowers_29 rfl ?_
        refine g_isub C dX11_laysPowers_30 ?_
        obtain ⟨hc_12, h⟩ := h
        refine g_lald C 1 rfl hc_12 dX11_laysPowers_31 ?_
        refine g_iload_n C dX11_laysPowers_32 1 rfl ?_
        refine g_i2l C dX11_laysPowers_33 ?_
        refine g_lmul C dX11_laysPowers_34 ?_
        obtain ⟨P_12, hP, h⟩ := h
        refine g_callV (As := [.long ((power_2 (x4_1 - 1).toNatClampNeg) * (a1.toInt64))]) (rest := [.int x4_1, .ref q_power]) C (mX11_rest l D Y h0 thrown v_tape taped v_number v_isTold v_name (.ref q_sortOf) (.ref q_first) (.ref q_second) v_degree v_colours (.ref q_signBy) v_own lines size atF place sort value fault faultPlace lastFault lastPlace q_sF v_kept undoable hasImage (.ref q_power) (.ref q_table) v_marks v_row rowOf areSums isSieved v_lastOf blocks v_inBlock v_atQuotient v_small drawn sF ((power_2 (x4_1 - 1).toNatClampNeg) * (a1.toInt64)) P_12 hP) dX11_laysPowers_35 rfl wM_X11_256 wI_X11_rest wV_X11_rest wN_X11 wC_X11_rest (n := 1) (by decide +kernel) rfl (q0 := 0) rfl rfl ⟨Nat.le_of_ble_eq_true rfl, Nat.le_of_ble_eq_true rfl⟩ ⟨Nat.le_of_ble_eq_true rfl, Nat.le_of_ble_eq_true rfl⟩ (Nat.le_of_ble_eq_true rfl) [0, 4] [1, 2, 3, 5, 6, 7] rfl rfl rfl (fun v wc hv => ?_)
        obtain ⟨rF_12, rfl, rfl, hq⟩ := hv
        replace h := h rF_12 hq
        refine gG.perm (ws' := [oX11 h0 thrown (v_tape) taped (v_number) (v_isTold) (v_name) (.ref q_sortOf) (.ref q_first) (.ref q_second) (v_degree) (v_colours) (.ref q_signBy) (v_own) lines size atF place sort value fault faultPlace lastFault lastPlace (.ref q_sF) (v_kept) undoable hasImage (.ref q_power) (.ref q_table) (v_marks) (v_row) rowOf areSums isSieved (v_lastOf) blocks (v_inBlock) (v_atQuotient) (v_small) drawn, aJ Y q_power 18 power_2, aJ Y q_table 216 table, aI Y q_sortOf 24 sortOf, aI Y q_sF 74 sF, aI Y q_first 24 first, aI Y q_second 24 second, aI Y q_signBy 24 signBy]) [6, 0, 1, 2, 7, 3, 4, 5] rfl rfl ?_
        obtain ⟨hc_13, h⟩ := h
        refine g_last C 1 rfl hc_13 dX11_laysPowers_38 (fun power_3 epower_3 => gG.eqw (ws' := [oX11 h0 thrown (v_tape) taped (v_number) (v_isTold) (v_name) (.ref q_sortOf) (.ref q_first) (.ref q_second) (v_degree) (v_colours) (.ref q_signBy) (v_own) lines size atF place sort value fault faultPlace lastFault lastPlace (.ref q_sF) (v_kept) undoable hasImage (.ref q_power) (.ref q_table) (v_marks) (v_row) rowOf areSums isSieved (v_lastOf) blocks (v_inBlock) (v_atQuotient) (v_small) drawn, aJ Y q_power 18 power_3, aJ Y q_table 216 table, aI Y q_sortOf 24 sortOf, aI Y q_sF 74 sF, aI Y q_first 24 first, aI Y q_second 24 second, aI Y q_signBy 24 signBy]) rfl ?_)
        replace h := h power_3 epower_3
        refine g_iinc (v := x4_1 + 1) (lv' := [(4, .int (x4_1 + 1)), (0, .ref h0), (1, .int a1), (2, .int a2), (3, .int a3)]) C dX11_laysPowers_39 4 rfl rfl (by decide) rfl ?_
        refine g_goto (tgt := 10) C dX11_laysPowers_42 (by decide) ?_
        refine gG.locals (lv' := [(0, .ref h0), (1, .int a1), (2, .int a2), (3, .int a3), (4, .int (x4_1 + 1))]) [1, 2, 3, 4, 0] rfl ?_
        exact ih1 power_3 (x4_1 + 1) (Nat.lt_of_lt_of_le h.2 (Nat.le_of_lt_succ hm1)) h.1
  refine gG.locals (lv' := [(0, .ref h0), (1, .int a1), (2, .int a2), (3, .int a3), (4, .int 1)]) [1, 2, 3, 4, 0] rfl ?_
  exact key_1 (Mea_1 power_1 1 + 1) power_1 1 (Nat.lt_succ_self _) hI1
theorem dX11_atPower_0 : decode cX11_atPower 0 = .ok (.aload_n 0, 1) := by decide +kernel
theorem dX11_atPower_1 : decode cX11_atPower 1 = .ok (.iconst 0, 1) := by decide +kernel
theorem dX11_atPower_2 : decode cX11_atPower 2 = .ok (.putfield 89, 3) := by decide +kernel
theorem dX11_atPower_5 : decode cX11_atPower 5 = .ok (.aload_n 0, 1) := by decide +kernel
theorem dX11_atPower_6 : decode cX11_atPower 6 = .ok (.iload_n 1, 1) := by decide +kernel
theorem dX11_atPower_7 : decode cX11_atPower 7 = .ok (.invokevirtual 241, 3) := by decide +kernel
theorem dX11_atPower_10 : decode cX11_atPower 10 = .ok (.ifCond .eq 24, 3) := by decide +kernel
theorem dX11_atPower_13 : decode cX11_atPower 13 = .ok (.iload_n 2, 1) := by decide +kernel
theorem dX11_atPower_14 : decode cX11_atPower 14 = .ok (.iconst 2, 1) := by decide +kernel
theorem dX11_atPower_15 : decode cX11_atPower 15 = .ok (.ldc_w 277, 3) := by decide +kernel
theorem dX11_atPower_18 : decode cX11_atPower 18 = .ok (.invokestatic 247, 3) := by decide +kernel
theorem dX11_atPower_21 : decode cX11_atPower 21 = .ok (.ifCond .eq 13, 3) := by decide +kernel
theorem dX11_atPower_24 : decode cX11_atPower 24 = .ok (.iload_n 3, 1) := by decide +kernel
theorem dX11_atPower_25 : decode cX11_atPower 25 = .ok (.iconst 0, 1) := by decide +kernel
theorem dX11_atPower_26 : decode cX11_atPower 26 = .ok (.bipush 17, 2) := by decide +kernel
theorem dX11_atPower_28 : decode cX11_atPower 28 = .ok (.invokestatic 247, 3) := by decide +kernel
theorem dX11_atPower_31 : decode cX11_atPower 31 = .ok (.ifCond .ne 5, 3) := by decide +kernel
theorem dX11_atPower_34 : decode cX11_atPower 34 = .ok (.iconst (-1), 1) := by decide +kernel
theorem dX11_atPower_35 : decode cX11_atPower 35 = .ok (.ireturn, 1) := by decide +kernel
theorem dX11_atPower_36 : decode cX11_atPower 36 = .ok (.aload_n 0, 1) := by decide +kernel
theorem dX11_atPower_37 : decode cX11_atPower 37 = .ok (.iload_n 2, 1) := by decide +kernel
theorem dX11_atPower_38 : decode cX11_atPower 38 = .ok (.iload_n 3, 1) := by decide +kernel
theorem dX11_atPower_39 : decode cX11_atPower 39 = .ok (.iload_n 1, 1) := by decide +kernel
theorem dX11_atPower_40 : decode cX11_atPower 40 = .ok (.invokevirtual 278, 3) := by decide +kernel
theorem dX11_atPower_43 : decode cX11_atPower 43 = .ok (.aload_n 0, 1) := by decide +kernel
theorem dX11_atPower_44 : decode cX11_atPower 44 = .ok (.aload_n 0, 1) := by decide +kernel
theorem dX11_atPower_45 : decode cX11_atPower 45 = .ok (.getfield 58, 3) := by decide +kernel
theorem dX11_atPower_48 : decode cX11_atPower 48 = .ok (.bipush 18, 2) := by decide +kernel
theorem dX11_atPower_50 : decode cX11_atPower 50 = .ok (.iload_n 1, 1) := by decide +kernel
theorem dX11_atPower_51 : decode cX11_atPower 51 = .ok (.imul, 1) := by decide +kernel
theorem dX11_atPower_52 : decode cX11_atPower 52 = .ok (.iload_n 3, 1) := by decide +kernel
theorem dX11_atPower_53 : decode cX11_atPower 53 = .ok (.iadd, 1) := by decide +kernel
theorem dX11_atPower_54 : decode cX11_atPower 54 = .ok (.laload, 1) := by decide +kernel
theorem dX11_atPower_55 : decode cX11_atPower 55 = .ok (.invokevirtual 256, 3) := by decide +kernel
theorem dX11_atPower_58 : decode cX11_atPower 58 = .ok (.l2i, 1) := by decide +kernel
theorem dX11_atPower_59 : decode cX11_atPower 59 = .ok (.ireturn, 1) := by decide +kernel
/-- QuotientSumsModel.atPower(III)I -/
def wX11_atPower (thrown : Int32) (taped : Int32) (lines : Int32) (size : Int32) (atF : Int32) (place : Int32) (sort : Int32) (value : Int32) (fault : Int32) (faultPlace : Int32) (lastFault : Int32) (lastPlace : Int32) (undoable : Int32) (hasImage : Int32) (rowOf : Int32) (areSums : Int32) (isSieved : Int32) (blocks : Int32) (drawn : Int32) (number : Nat → Int32) (power : Nat → Int64) (table : Nat → Int64) (sortOf : Nat → Int32) (sF : Nat → Int32) (first : Nat → Int32) (second : Nat → Int32) (signBy : Nat → Int32) (a1 : Int32) (a2 : Int32) (a3 : Int32) (Q : (Int32) → (Int32) → (Nat → Int64) → (Nat → Int64) → Prop) : Prop :=
  (∃ (P_1 : (Int32) → Prop), wX11_isFunction 0 taped lines size atF place sort value fault faultPlace lastFault lastPlace undoable hasImage rowOf areSums isSieved blocks drawn number a1 P_1 ∧ ∀ (rF_1 : Int32), P_1 rF_1 → ((rF_1 = 0 → (Q (-1) 0 power table)) ∧ (¬ rF_1 = 0 → (∃ (P_2 : (Int32) → Prop), wX11_within a2 2 200003 P_2 ∧ ∀ (rF_2 : Int32), P_2 rF_2 → ((rF_2 = 0 → (Q (-1) 0 power table)) ∧ (¬ rF_2 = 0 → (∃ (P_3 : (Int32) → Prop), wX11_within a3 0 17 P_3 ∧ ∀ (rF_3 : Int32), P_3 rF_3 → ((¬ rF_3 = 0 → (∃ (P_4 : (Nat → Int64) → (Nat → Int64) → Prop), wX11_laysPowers 0 taped lines size atF place sort value fault faultPlace lastFault lastPlace undoable hasImage rowOf areSums isSieved blocks drawn power table sortOf sF first second signBy a2 a3 a1 P_4 ∧ ∀ (power_1 : Nat → Int64) (table_1 : Nat → Int64), P_4 power_1 table_1 → vp_in ((18 * a1) + a3) 216 ∧ ∃ (P_5 : (Int64) → Prop), wX11_rest 0 taped lines size atF place sort value fault faultPlace lastFault lastPlace undoable hasImage rowOf areSums isSieved blocks drawn sF (table_1 ((18 * a1) + a3).toNatClampNeg) P_5 ∧ ∀ (rF_4 : Int64), P_5 rF_4 → (Q (rF_4.toInt32) 0 power_1 table_1))) ∧ (rF_3 = 0 → (Q (-1) 0 power table))))))))))
set_option maxHeartbeats 4000000 in
set_option maxRecDepth 100000 in
theorem mX11_atPower (l : Launch) (D : va_G) (Y : Nat → ClassId) (h0 : Nat) (thrown : Int32) (v_tape : Value) (taped : Int32) (q_number : Nat) (v_isTold : Value) (v_name : Value) (q_sortOf : Nat) (q_first : Nat) (q_second : Nat) (v_degree : Value) (v_colours : Value) (q_signBy : Nat) (v_own : Value) (lines : Int32) (size : Int32) (atF : Int32) (place : Int32) (sort : Int32) (value : Int32) (fault : Int32) (faultPlace : Int32) (lastFault : Int32) (lastPlace : Int32) (q_sF : Nat) (v_kept : Value) (undoable : Int32) (hasImage : Int32) (q_power : Nat) (q_table : Nat) (v_marks : Value) (v_row : Value) (rowOf : Int32) (areSums : Int32) (isSieved : Int32) (v_lastOf : Value) (blocks : Int32) (v_inBlock : Value) (v_atQuotient : Value) (v_small : Value) (drawn : Int32) (number : Nat → Int32) (power : Nat → Int64) (table : Nat → Int64) (sortOf : Nat → Int32) (sF : Nat → Int32) (first : Nat → Int32) (second : Nat → Int32) (signBy : Nat → Int32) (a1 : Int32) (a2 : Int32) (a3 : Int32) (Q : (Int32) → (Int32) → (Nat → Int64) → (Nat → Int64) → Prop) (h : wX11_atPower thrown taped lines size atF place sort value fault faultPlace lastFault lastPlace undoable hasImage rowOf areSums isSieved blocks drawn number power table sortOf sF first second signBy a1 a2 a3 Q) : gM l D Y yX11_atPower cX11_atPower 4 (some .int) 2 53 0 0 [.ref h0, .int a1, .int a2, .int a3] [oX11 h0 thrown (v_tape) taped (.ref q_number) (v_isTold) (v_name) (.ref q_sortOf) (.ref q_first) (.ref q_second) (v_degree) (v_colours) (.ref q_signBy) (v_own) lines size atF place sort value fault faultPlace lastFault lastPlace (.ref q_sF) (v_kept) undoable hasImage (.ref q_power) (.ref q_table) (v_marks) (v_row) rowOf areSums isSieved (v_lastOf) blocks (v_inBlock) (v_atQuotient) (v_small) drawn, aI Y q_number 8 number, aJ Y q_power 18 power, aJ Y q_table 216 table, aI Y q_sortOf 24 sortOf, aI Y q_sF 74 sF, aI Y q_first 24 first, aI Y q_second 24 second, aI Y q_signBy 24 signBy] (fun v w => ∃ r : Int32, ∃ thrown' : Int32, ∃ power' : Nat → Int64, ∃ table' : Nat → Int64, v = some (.int r) ∧ w = [oX11 h0 thrown' (v_tape) taped (.ref q_number) (v_isTold) (v_name) (.ref q_sortOf) (.ref q_first) (.ref q_second) (v_degree) (v_colours) (.ref q_signBy) (v_own) lines size atF place sort value fault faultPlace lastFault lastPlace (.ref q_sF) (v_kept) undoable hasImage (.ref q_power) (.ref q_table) (v_marks) (v_row) rowOf areSums isSieved (v_lastOf) blocks (v_inBlock) (v_atQuotient) (v_small) drawn, aI Y q_number 8 number, aJ Y q_power 18 power', aJ Y q_table 216 table', aI Y q_sortOf 24 sortOf, aI Y q_sF 74 sF, aI Y q_first 24 first, aI Y q_second 24 second, aI Y q_signBy 24 signBy] ∧ Q r thrown' power' table') := by
  refine gM_of (own := RX11) (by decide +kernel) rfl (Nat.le_of_ble_eq_true rfl) rfl (fun E C hR => ?_)
  unfold wX11_atPower at h
  refine g_aload_n C dX11_atPower_0 0 rfl ?_
  refine g_iconst (v := 0) C dX11_atPower_1 rfl ?_
  refine g_put C inX11 tyX11 tyX11_ok nmX11 0 rfl rfl 0 (by decide) wF_X11_89 rfl rfl rfl (Nat.le_of_ble_eq_true rfl) (ws' := [oX11 h0 0 (v_tape) taped (.ref q_number) (v_isTold) (v_name) (.ref q_sortOf) (.ref q_first) (.ref q_second) (v_degree) (v_colours) (.ref q_signBy) (v_own) lines size atF place sort value fault faultPlace lastFault lastPlace (.ref q_sF) (v_kept) undoable hasImage (.ref q_power) (.ref q_table) (v_marks) (v_row) rowOf areSums isSieved (v_lastOf) blocks (v_inBlock) (v_atQuotient) (v_small) drawn, aI Y q_number 8 number, aJ Y q_power 18 power, aJ Y q_table 216 table, aI Y q_sortOf 24 sortOf, aI Y q_sF 74 sF, aI Y q_first 24 first, aI Y q_second 24 second, aI Y q_signBy 24 signBy]) rfl dX11_atPower_2 ?_
  refine g_aload_n C dX11_atPower_5 0 rfl ?_
  refine g_iload_n C dX11_atPower_6 1 rfl ?_
  obtain ⟨P_1, hP, h⟩ := h
  refine g_callV (As := [.int a1]) (rest := []) C (mX11_isFunction l D Y h0 0 v_tape taped q_number v_isTold v_name (.ref q_sortOf) (.ref q_first) (.ref q_second) v_degree v_colours (.ref q_signBy) v_own lines size atF place sort value fault faultPlace lastFault lastPlace (.ref q_sF) v_kept undoable hasImage (.ref q_power) (.ref q_table) v_marks v_row rowOf areSums isSieved v_lastOf blocks v_inBlock v_atQuotient v_small drawn number a1 P_1 hP) dX11_atPower_7 rfl wM_X11_241 wI_X11_isFunction wV_X11_isFunction wN_X11 wC_X11_isFunction (n := 1) (by decide +kernel) rfl (q0 := 0) rfl rfl ⟨Nat.le_of_ble_eq_true rfl, Nat.le_of_ble_eq_true rfl⟩ ⟨Nat.le_of_ble_eq_true rfl, Nat.le_of_ble_eq_true rfl⟩ (Nat.le_of_ble_eq_true rfl) [0, 1] [2, 3, 4, 5, 6, 7, 8] rfl rfl rfl (fun v wc hv => ?_)
  obtain ⟨rF_1, rfl, rfl, hq⟩ := hv
  replace h := h rF_1 hq
  refine gG.perm (ws' := [oX11 h0 0 (v_tape) taped (.ref q_number) (v_isTold) (v_name) (.ref q_sortOf) (.ref q_first) (.ref q_second) (v_degree) (v_colours) (.ref q_signBy) (v_own) lines size atF place sort value fault faultPlace lastFault lastPlace (.ref q_sF) (v_kept) undoable hasImage (.ref q_power) (.ref q_table) (v_marks) (v_row) rowOf areSums isSieved (v_lastOf) blocks (v_inBlock) (v_atQuotient) (v_small) drawn, aI Y q_number 8 number, aJ Y q_power 18 power, aJ Y q_table 216 table, aI Y q_sortOf 24 sortOf, aI Y q_sF 74 sF, aI Y q_first 24 first, aI Y q_second 24 second, aI Y q_signBy 24 signBy]) [7, 8, 0, 1, 2, 3, 4, 5, 6] rfl rfl ?_
  refine g_if_eq (tgt := 34) C dX11_atPower_10 (by decide) (fun c_1 => ?_) (fun c_1 => ?_)
  · replace h := h.1 c_1
    refine g_iconst (v := (-1)) C dX11_atPower_34 rfl ?_
    exact g_iret C hR (Nat.le_of_ble_eq_true rfl) (Nat.le_of_ble_eq_true rfl) dX11_atPower_35 ⟨(-1), 0, power, table, rfl, rfl, h⟩
  · replace h := h.2 c_1
    refine g_iload_n C dX11_atPower_13 2 rfl ?_
    refine g_iconst (v := 2) C dX11_atPower_14 rfl ?_
    refine g_ldcw C dX11_atPower_15 wK_X11_277 ?_
    obtain ⟨P_2, hP, h⟩ := h
    refine g_callS (As := [.int a2, .int 2, .int 200003]) (rest := []) C (mX11_within l D Y a2 2 200003 P_2 hP) dX11_atPower_18 rfl wM_X11_247 wS_X11_within wN_X11 wC_X11_within (n := 3) (by decide +kernel) rfl ⟨Nat.le_of_ble_eq_true rfl, Nat.le_of_ble_eq_true rfl⟩ ⟨Nat.le_of_ble_eq_true rfl, Nat.le_of_ble_eq_true rfl⟩ (Nat.le_of_ble_eq_true rfl) [] [0, 1, 2, 3, 4, 5, 6, 7, 8] rfl rfl rfl (fun v wc hv => ?_)
    obtain ⟨rF_2, rfl, rfl, hq⟩ := hv
    replace h := h rF_2 hq
    refine gG.eqw (ws' := [oX11 h0 0 (v_tape) taped (.ref q_number) (v_isTold) (v_name) (.ref q_sortOf) (.ref q_first) (.ref q_second) (v_degree) (v_colours) (.ref q_signBy) (v_own) lines size atF place sort value fault faultPlace lastFault lastPlace (.ref q_sF) (v_kept) undoable hasImage (.ref q_power) (.ref q_table) (v_marks) (v_row) rowOf areSums isSieved (v_lastOf) blocks (v_inBlock) (v_atQuotient) (v_small) drawn, aI Y q_number 8 number, aJ Y q_power 18 power, aJ Y q_table 216 table, aI Y q_sortOf 24 sortOf, aI Y q_sF 74 sF, aI Y q_first 24 first, aI Y q_second 24 second, aI Y q_signBy 24 signBy]) rfl ?_
    refine g_if_eq (tgt := 34) C dX11_atPower_21 (by decide) (fun c_2 => ?_) (fun c_2 => ?_)
    · replace h := h.1 c_2
      refine g_iconst (v := (-1)) C dX11_atPower_34 rfl ?_
      exact g_iret C hR (Nat.le_of_ble_eq_true rfl) (Nat.le_of_ble_eq_true rfl) dX11_atPower_35 ⟨(-1), 0, power, table, rfl, rfl, h⟩
    · replace h := h.2 c_2
      refine g_iload_n C dX11_atPower_24 3 rfl ?_
      refine g_iconst (v := 0) C dX11_atPower_25 rfl ?_
      refine g_bipush (v := 17) C dX11_atPower_26 rfl ?_
      obtain ⟨P_3, hP, h⟩ := h
      refine g_callS (As := [.int a3, .int 0, .int 17]) (rest := []) C (mX11_within l D Y a3 0 17 P_3 hP) dX11_atPower_28 rfl wM_X11_247 wS_X11_within wN_X11 wC_X11_within (n := 3) (by decide +kernel) rfl ⟨Nat.le_of_ble_eq_true rfl, Nat.le_of_ble_eq_true rfl⟩ ⟨Nat.le_of_ble_eq_true rfl, Nat.le_of_ble_eq_true rfl⟩ (Nat.le_of_ble_eq_true rfl) [] [0, 1, 2, 3, 4, 5, 6, 7, 8] rfl rfl rfl (fun v wc hv => ?_)
      obtain ⟨rF_3, rfl, rfl, hq⟩ := hv
      replace h := h rF_3 hq
      refine gG.eqw (ws' := [oX11 h0 0 (v_tape) taped (.ref q_number) (v_isTold) (v_name) (.ref q_sortOf) (.ref q_first) (.ref q_second) (v_degree) (v_colours) (.ref q_signBy) (v_own) lines size atF place sort value fault faultPlace lastFault lastPlace (.ref q_sF) (v_kept) undoable hasImage (.ref q_power) (.ref q_table) (v_marks) (v_row) rowOf areSums isSieved (v_lastOf) blocks (v_inBlock) (v_atQuotient) (v_small) drawn, aI Y q_number 8 number, aJ Y q_power 18 power, aJ Y q_table 216 table, aI Y q_sortOf 24 sortOf, aI Y q_sF 74 sF, aI Y q_first 24 first, aI Y q_second 24 second, aI Y q_signBy 24 signBy]) rfl ?_
      refine g_if_ne (tgt := 36) C dX11_atPower_31 (by decide) (fun c_3 => ?_) (fun c_3 => ?_)
      · replace h := h.1 c_3
        refine g_aload_n C dX11_atPower_36 0 rfl ?_
        refine g_iload_n C dX11_atPower_37 2 rfl ?_
        refine g_iload_n C dX11_atPower_38 3 rfl ?_
        refine g_iload_n C dX11_atPower_39 1 rfl ?_
        obtain ⟨P_4, hP, h⟩ := h
        refine g_callV (As := [.int a2, .int a3, .int a1]) (rest := []) C (mX11_laysPowers l D Y h0 0 v_tape taped (.ref q_number) v_isTold v_name q_sortOf q_first q_second v_degree v_colours q_signBy v_own lines size atF place sort value fault faultPlace lastFault lastPlace q_sF v_kept undoable hasImage q_power q_table v_marks v_row rowOf areSums isSieved v_lastOf blocks v_inBlock v_atQuotient v_small drawn power table sortOf sF first second signBy a2 a3 a1 P_4 hP) dX11_atPower_40 rfl wM_X11_278 wI_X11_laysPowers wV_X11_laysPowers wN_X11 wC_X11_laysPowers (n := 3) (by decide +kernel) rfl (q0 := 0) rfl rfl ⟨Nat.le_of_ble_eq_true rfl, Nat.le_of_ble_eq_true rfl⟩ ⟨Nat.le_of_ble_eq_true rfl, Nat.le_of_ble_eq_true rfl⟩ (Nat.le_of_ble_eq_true rfl) [0, 2, 3, 4, 5, 6, 7, 8] [1] rfl rfl rfl (fun v wc hv => ?_)
        obtain ⟨power_1, table_1, rfl, rfl, hq⟩ := hv
        replace h := h power_1 table_1 hq
        refine gG.perm (ws' := [oX11 h0 0 (v_tape) taped (.ref q_number) (v_isTold) (v_name) (.ref q_sortOf) (.ref q_first) (.ref q_second) (v_degree) (v_colours) (.ref q_signBy) (v_own) lines size atF place sort value fault faultPlace lastFault lastPlace (.ref q_sF) (v_kept) undoable hasImage (.ref q_power) (.ref q_table) (v_marks) (v_row) rowOf areSums isSieved (v_lastOf) blocks (v_inBlock) (v_atQuotient) (v_small) drawn, aI Y q_number 8 number, aJ Y q_power 18 power_1, aJ Y q_table 216 table_1, aI Y q_sortOf 24 sortOf, aI Y q_sF 74 sF, aI Y q_first 24 first, aI Y q_second 24 second, aI Y q_signBy 24 signBy]) [1, 0, 2, 3, 4, 5, 6, 7, 8] rfl rfl ?_
        refine g_aload_n C dX11_atPower_43 0 rfl ?_
        refine g_aload_n C dX11_atPower_44 0 rfl ?_
        refine g_get C inX11 0 rfl rfl 28 (by decide) wF_X11_58 rfl dX11_atPower_45 ?_
        refine g_bipush (v := 18) C dX11_atPower_48 rfl ?_
        refine g_iload_n C dX11_atPower_50 1 rfl ?_
        refine g_imul C dX11_atPower_51 ?_
        refine g_iload_n C dX11_atPower_52 3 rfl ?_
        refine g_iadd C dX11_atPower_53 ?_
        obtain ⟨hc_1, h⟩ := h
        refine g_lald C 3 rfl hc_1 dX11_atPower_54 ?_
        obtain ⟨P_5, hP, h⟩ := h
        refine g_callV (As := [.long (table_1 ((18 * a1) + a3).toNatClampNeg)]) (rest := []) C (mX11_rest l D Y h0 0 v_tape taped (.ref q_number) v_isTold v_name (.ref q_sortOf) (.ref q_first) (.ref q_second) v_degree v_colours (.ref q_signBy) v_own lines size atF place sort value fault faultPlace lastFault lastPlace q_sF v_kept undoable hasImage (.ref q_power) (.ref q_table) v_marks v_row rowOf areSums isSieved v_lastOf blocks v_inBlock v_atQuotient v_small drawn sF (table_1 ((18 * a1) + a3).toNatClampNeg) P_5 hP) dX11_atPower_55 rfl wM_X11_256 wI_X11_rest wV_X11_rest wN_X11 wC_X11_rest (n := 1) (by decide +kernel) rfl (q0 := 0) rfl rfl ⟨Nat.le_of_ble_eq_true rfl, Nat.le_of_ble_eq_true rfl⟩ ⟨Nat.le_of_ble_eq_true rfl, Nat.le_of_ble_eq_true rfl⟩ (Nat.le_of_ble_eq_true rfl) [0, 5] [1, 2, 3, 4, 6, 7, 8] rfl rfl rfl (fun v wc hv => ?_)
        obtain ⟨rF_4, rfl, rfl, hq⟩ := hv
        replace h := h rF_4 hq
        refine gG.perm (ws' := [oX11 h0 0 (v_tape) taped (.ref q_number) (v_isTold) (v_name) (.ref q_sortOf) (.ref q_first) (.ref q_second) (v_degree) (v_colours) (.ref q_signBy) (v_own) lines size atF place sort value fault faultPlace lastFault lastPlace (.ref q_sF) (v_kept) undoable hasImage (.ref q_power) (.ref q_table) (v_marks) (v_row) rowOf areSums isSieved (v_lastOf) blocks (v_inBlock) (v_atQuotient) (v_small) drawn, aI Y q_number 8 number, aJ Y q_power 18 power_1, aJ Y q_table 216 table_1, aI Y q_sortOf 24 sortOf, aI Y q_sF 74 sF, aI Y q_first 24 first, aI Y q_second 24 second, aI Y q_signBy 24 signBy]) [7, 0, 1, 2, 3, 8, 4, 5, 6] rfl rfl ?_
        refine g_l2i C dX11_atPower_58 ?_
        exact g_iret C hR (Nat.le_of_ble_eq_true rfl) (Nat.le_of_ble_eq_true rfl) dX11_atPower_59 ⟨rF_4.toInt32, 0, power_1, table_1, rfl, rfl, h⟩
      · replace h := h.2 c_3
        refine g_iconst (v := (-1)) C dX11_atPower_34 rfl ?_
        exact g_iret C hR (Nat.le_of_ble_eq_true rfl) (Nat.le_of_ble_eq_true rfl) dX11_atPower_35 ⟨(-1), 0, power, table, rfl, rfl, h⟩
theorem dX11_valueAt_0 : decode cX11_valueAt 0 = .ok (.lconst 1, 1) := by decide +kernel
theorem dX11_valueAt_1 : decode cX11_valueAt 1 = .ok (.lstore_n 3, 1) := by decide +kernel
theorem dX11_valueAt_2 : decode cX11_valueAt 2 = .ok (.iload_n 2, 1) := by decide +kernel
theorem dX11_valueAt_3 : decode cX11_valueAt 3 = .ok (.istore 5, 2) := by decide +kernel
theorem dX11_valueAt_5 : decode cX11_valueAt 5 = .ok (.iconst 2, 1) := by decide +kernel
theorem dX11_valueAt_6 : decode cX11_valueAt 6 = .ok (.istore 6, 2) := by decide +kernel
theorem dX11_valueAt_8 : decode cX11_valueAt 8 = .ok (.iload 6, 2) := by decide +kernel
theorem dX11_valueAt_10 : decode cX11_valueAt 10 = .ok (.iload 6, 2) := by decide +kernel
theorem dX11_valueAt_12 : decode cX11_valueAt 12 = .ok (.imul, 1) := by decide +kernel
theorem dX11_valueAt_13 : decode cX11_valueAt 13 = .ok (.iload 5, 2) := by decide +kernel
theorem dX11_valueAt_15 : decode cX11_valueAt 15 = .ok (.if_icmp .gt 73, 3) := by decide +kernel
theorem dX11_valueAt_18 : decode cX11_valueAt 18 = .ok (.iconst 0, 1) := by decide +kernel
theorem dX11_valueAt_19 : decode cX11_valueAt 19 = .ok (.istore 7, 2) := by decide +kernel
theorem dX11_valueAt_21 : decode cX11_valueAt 21 = .ok (.iload 5, 2) := by decide +kernel
theorem dX11_valueAt_23 : decode cX11_valueAt 23 = .ok (.iload 6, 2) := by decide +kernel
theorem dX11_valueAt_25 : decode cX11_valueAt 25 = .ok (.irem, 1) := by decide +kernel
theorem dX11_valueAt_26 : decode cX11_valueAt 26 = .ok (.ifCond .ne 16, 3) := by decide +kernel
theorem dX11_valueAt_29 : decode cX11_valueAt 29 = .ok (.iload 5, 2) := by decide +kernel
theorem dX11_valueAt_31 : decode cX11_valueAt 31 = .ok (.iload 6, 2) := by decide +kernel
theorem dX11_valueAt_33 : decode cX11_valueAt 33 = .ok (.idiv, 1) := by decide +kernel
theorem dX11_valueAt_34 : decode cX11_valueAt 34 = .ok (.istore 5, 2) := by decide +kernel
theorem dX11_valueAt_36 : decode cX11_valueAt 36 = .ok (.iinc 7 1, 3) := by decide +kernel
theorem dX11_valueAt_39 : decode cX11_valueAt 39 = .ok (.goto (-18), 3) := by decide +kernel
theorem dX11_valueAt_42 : decode cX11_valueAt 42 = .ok (.iload 7, 2) := by decide +kernel
theorem dX11_valueAt_44 : decode cX11_valueAt 44 = .ok (.ifCond .ne 6, 3) := by decide +kernel
theorem dX11_valueAt_47 : decode cX11_valueAt 47 = .ok (.goto 35, 3) := by decide +kernel
theorem dX11_valueAt_50 : decode cX11_valueAt 50 = .ok (.aload_n 0, 1) := by decide +kernel
theorem dX11_valueAt_51 : decode cX11_valueAt 51 = .ok (.iload 6, 2) := by decide +kernel
theorem dX11_valueAt_53 : decode cX11_valueAt 53 = .ok (.iload 7, 2) := by decide +kernel
theorem dX11_valueAt_55 : decode cX11_valueAt 55 = .ok (.iload_n 1, 1) := by decide +kernel
theorem dX11_valueAt_56 : decode cX11_valueAt 56 = .ok (.invokevirtual 278, 3) := by decide +kernel
theorem dX11_valueAt_59 : decode cX11_valueAt 59 = .ok (.lload_n 3, 1) := by decide +kernel
theorem dX11_valueAt_60 : decode cX11_valueAt 60 = .ok (.aload_n 0, 1) := by decide +kernel
theorem dX11_valueAt_61 : decode cX11_valueAt 61 = .ok (.getfield 58, 3) := by decide +kernel
theorem dX11_valueAt_64 : decode cX11_valueAt 64 = .ok (.bipush 18, 2) := by decide +kernel
theorem dX11_valueAt_66 : decode cX11_valueAt 66 = .ok (.iload_n 1, 1) := by decide +kernel
theorem dX11_valueAt_67 : decode cX11_valueAt 67 = .ok (.imul, 1) := by decide +kernel
theorem dX11_valueAt_68 : decode cX11_valueAt 68 = .ok (.iload 7, 2) := by decide +kernel
theorem dX11_valueAt_70 : decode cX11_valueAt 70 = .ok (.iadd, 1) := by decide +kernel
theorem dX11_valueAt_71 : decode cX11_valueAt 71 = .ok (.laload, 1) := by decide +kernel
theorem dX11_valueAt_72 : decode cX11_valueAt 72 = .ok (.lmul, 1) := by decide +kernel
theorem dX11_valueAt_73 : decode cX11_valueAt 73 = .ok (.aload_n 0, 1) := by decide +kernel
theorem dX11_valueAt_74 : decode cX11_valueAt 74 = .ok (.getfield 48, 3) := by decide +kernel
theorem dX11_valueAt_77 : decode cX11_valueAt 77 = .ok (.iconst 1, 1) := by decide +kernel
theorem dX11_valueAt_78 : decode cX11_valueAt 78 = .ok (.iaload, 1) := by decide +kernel
theorem dX11_valueAt_79 : decode cX11_valueAt 79 = .ok (.i2l, 1) := by decide +kernel
theorem dX11_valueAt_80 : decode cX11_valueAt 80 = .ok (.lrem, 1) := by decide +kernel
theorem dX11_valueAt_81 : decode cX11_valueAt 81 = .ok (.lstore_n 3, 1) := by decide +kernel
theorem dX11_valueAt_82 : decode cX11_valueAt 82 = .ok (.iinc 6 1, 3) := by decide +kernel
theorem dX11_valueAt_85 : decode cX11_valueAt 85 = .ok (.goto (-77), 3) := by decide +kernel
theorem dX11_valueAt_88 : decode cX11_valueAt 88 = .ok (.iload 5, 2) := by decide +kernel
theorem dX11_valueAt_90 : decode cX11_valueAt 90 = .ok (.iconst 1, 1) := by decide +kernel
theorem dX11_valueAt_91 : decode cX11_valueAt 91 = .ok (.if_icmp .le 33, 3) := by decide +kernel
theorem dX11_valueAt_94 : decode cX11_valueAt 94 = .ok (.aload_n 0, 1) := by decide +kernel
theorem dX11_valueAt_95 : decode cX11_valueAt 95 = .ok (.iload 5, 2) := by decide +kernel
theorem dX11_valueAt_97 : decode cX11_valueAt 97 = .ok (.iconst 1, 1) := by decide +kernel
theorem dX11_valueAt_98 : decode cX11_valueAt 98 = .ok (.iload_n 1, 1) := by decide +kernel
theorem dX11_valueAt_99 : decode cX11_valueAt 99 = .ok (.invokevirtual 278, 3) := by decide +kernel
theorem dX11_valueAt_102 : decode cX11_valueAt 102 = .ok (.lload_n 3, 1) := by decide +kernel
theorem dX11_valueAt_103 : decode cX11_valueAt 103 = .ok (.aload_n 0, 1) := by decide +kernel
theorem dX11_valueAt_104 : decode cX11_valueAt 104 = .ok (.getfield 58, 3) := by decide +kernel
theorem dX11_valueAt_107 : decode cX11_valueAt 107 = .ok (.bipush 18, 2) := by decide +kernel
theorem dX11_valueAt_109 : decode cX11_valueAt 109 = .ok (.iload_n 1, 1) := by decide +kernel
theorem dX11_valueAt_110 : decode cX11_valueAt 110 = .ok (.imul, 1) := by decide +kernel
theorem dX11_valueAt_111 : decode cX11_valueAt 111 = .ok (.iconst 1, 1) := by decide +kernel
theorem dX11_valueAt_112 : decode cX11_valueAt 112 = .ok (.iadd, 1) := by decide +kernel
theorem dX11_valueAt_113 : decode cX11_valueAt 113 = .ok (.laload, 1) := by decide +kernel
theorem dX11_valueAt_114 : decode cX11_valueAt 114 = .ok (.lmul, 1) := by decide +kernel
theorem dX11_valueAt_115 : decode cX11_valueAt 115 = .ok (.aload_n 0, 1) := by decide +kernel
theorem dX11_valueAt_116 : decode cX11_valueAt 116 = .ok (.getfield 48, 3) := by decide +kernel
theorem dX11_valueAt_119 : decode cX11_valueAt 119 = .ok (.iconst 1, 1) := by decide +kernel
theorem dX11_valueAt_120 : decode cX11_valueAt 120 = .ok (.iaload, 1) := by decide +kernel
theorem dX11_valueAt_121 : decode cX11_valueAt 121 = .ok (.i2l, 1) := by decide +kernel
theorem dX11_valueAt_122 : decode cX11_valueAt 122 = .ok (.lrem, 1) := by decide +kernel
theorem dX11_valueAt_123 : decode cX11_valueAt 123 = .ok (.lstore_n 3, 1) := by decide +kernel
theorem dX11_valueAt_124 : decode cX11_valueAt 124 = .ok (.lload_n 3, 1) := by decide +kernel
theorem dX11_valueAt_125 : decode cX11_valueAt 125 = .ok (.lreturn, 1) := by decide +kernel
/-- QuotientSumsModel.valueAt(II)J -/
def wX11_valueAt (thrown : Int32) (taped : Int32) (lines : Int32) (size : Int32) (atF : Int32) (place : Int32) (sort : Int32) (value : Int32) (fault : Int32) (faultPlace : Int32) (lastFault : Int32) (lastPlace : Int32) (undoable : Int32) (hasImage : Int32) (rowOf : Int32) (areSums : Int32) (isSieved : Int32) (blocks : Int32) (drawn : Int32) (power : Nat → Int64) (table : Nat → Int64) (sortOf : Nat → Int32) (sF : Nat → Int32) (first : Nat → Int32) (second : Nat → Int32) (signBy : Nat → Int32) (a1 : Int32) (a2 : Int32) (Q : (Int64) → (Nat → Int64) → (Nat → Int64) → Prop) : Prop :=
  (∃ (Inv_1 : (Nat → Int64) → (Nat → Int64) → (Int64) → (Int32) → (Int32) → Prop) (Mea_1 : (Nat → Int64) → (Nat → Int64) → (Int64) → (Int32) → (Int32) → Nat), Inv_1 power table 1 a2 2 ∧ ∀ (power_1 : Nat → Int64) (table_1 : Nat → Int64) (x3_1 : Int64) (x5_1 : Int32) (x6_1 : Int32), Inv_1 power_1 table_1 x3_1 x5_1 x6_1 → ((x5_1 < (x6_1 * x6_1) → ((x5_1 ≤ 1 → (Q x3_1 power_1 table_1)) ∧ (¬ x5_1 ≤ 1 → (∃ (P_1 : (Nat → Int64) → (Nat → Int64) → Prop), wX11_laysPowers thrown taped lines size atF place sort value fault faultPlace lastFault lastPlace undoable hasImage rowOf areSums isSieved blocks drawn power_1 table_1 sortOf sF first second signBy x5_1 1 a1 P_1 ∧ ∀ (power_2 : Nat → Int64) (table_2 : Nat → Int64), P_1 power_2 table_2 → vp_in ((18 * a1) + 1) 216 ∧ ¬ ((sF 1).toInt64) = 0 ∧ ∀ t_1 : Int64, t_1 = (x3_1 * (table_2 ((18 * a1) + 1).toNatClampNeg)) - (x3_1 * (table_2 ((18 * a1) + 1).toNatClampNeg)) / ((sF 1).toInt64) * ((sF 1).toInt64) → (Q t_1 power_2 table_2))))) ∧ (¬ x5_1 < (x6_1 * x6_1) → (∃ (Inv_2 : (Int32) → (Int32) → Prop) (Mea_2 : (Int32) → (Int32) → Nat), Inv_2 x5_1 0 ∧ ∀ (x5_2 : Int32) (x7_1 : Int32), Inv_2 x5_2 x7_1 → (¬ x6_1 = 0 ∧ ((¬ (x5_2 - x5_2 / x6_1 * x6_1) = 0 → ((¬ x7_1 = 0 → (∃ (P_2 : (Nat → Int64) → (Nat → Int64) → Prop), wX11_laysPowers thrown taped lines size atF place sort value fault faultPlace lastFault lastPlace undoable hasImage rowOf areSums isSieved blocks drawn power_1 table_1 sortOf sF first second signBy x6_1 x7_1 a1 P_2 ∧ ∀ (power_3 : Nat → Int64) (table_3 : Nat → Int64), P_2 power_3 table_3 → vp_in ((18 * a1) + x7_1) 216 ∧ ¬ ((sF 1).toInt64) = 0 ∧ ∀ t_2 : Int64, t_2 = (x3_1 * (table_3 ((18 * a1) + x7_1).toNatClampNeg)) - (x3_1 * (table_3 ((18 * a1) + x7_1).toNatClampNeg)) / ((sF 1).toInt64) * ((sF 1).toInt64) → (Inv_1 power_3 table_3 t_2 x5_2 (x6_1 + 1) ∧ Mea_1 power_3 table_3 t_2 x5_2 (x6_1 + 1) < Mea_1 power_1 table_1 x3_1 x5_1 x6_1))) ∧ (x7_1 = 0 → (Inv_1 power_1 table_1 x3_1 x5_2 (x6_1 + 1) ∧ Mea_1 power_1 table_1 x3_1 x5_2 (x6_1 + 1) < Mea_1 power_1 table_1 x3_1 x5_1 x6_1)))) ∧ ((x5_2 - x5_2 / x6_1 * x6_1) = 0 → (∀ x5_3 : Int32, x5_3 = x5_2 / x6_1 → (Inv_2 x5_3 (x7_1 + 1) ∧ Mea_2 x5_3 (x7_1 + 1) < Mea_2 x5_2 x7_1)))))))))
set_option maxHeartbeats 4000000 in
set_option maxRecDepth 100000 in
theorem mX11_valueAt (l : Launch) (D : va_G) (Y : Nat → ClassId) (h0 : Nat) (thrown : Int32) (v_tape : Value) (taped : Int32) (v_number : Value) (v_isTold : Value) (v_name : Value) (q_sortOf : Nat) (q_first : Nat) (q_second : Nat) (v_degree : Value) (v_colours : Value) (q_signBy : Nat) (v_own : Value) (lines : Int32) (size : Int32) (atF : Int32) (place : Int32) (sort : Int32) (value : Int32) (fault : Int32) (faultPlace : Int32) (lastFault : Int32) (lastPlace : Int32) (q_sF : Nat) (v_kept : Value) (undoable : Int32) (hasImage : Int32) (q_power : Nat) (q_table : Nat) (v_marks : Value) (v_row : Value) (rowOf : Int32) (areSums : Int32) (isSieved : Int32) (v_lastOf : Value) (blocks : Int32) (v_inBlock : Value) (v_atQuotient : Value) (v_small : Value) (drawn : Int32) (power : Nat → Int64) (table : Nat → Int64) (sortOf : Nat → Int32) (sF : Nat → Int32) (first : Nat → Int32) (second : Nat → Int32) (signBy : Nat → Int32) (a1 : Int32) (a2 : Int32) (Q : (Int64) → (Nat → Int64) → (Nat → Int64) → Prop) (h : wX11_valueAt thrown taped lines size atF place sort value fault faultPlace lastFault lastPlace undoable hasImage rowOf areSums isSieved blocks drawn power table sortOf sF first second signBy a1 a2 Q) : gM l D Y yX11_valueAt cX11_valueAt 8 (some .long) 2 53 0 0 [.ref h0, .int a1, .int a2] [oX11 h0 thrown (v_tape) taped (v_number) (v_isTold) (v_name) (.ref q_sortOf) (.ref q_first) (.ref q_second) (v_degree) (v_colours) (.ref q_signBy) (v_own) lines size atF place sort value fault faultPlace lastFault lastPlace (.ref q_sF) (v_kept) undoable hasImage (.ref q_power) (.ref q_table) (v_marks) (v_row) rowOf areSums isSieved (v_lastOf) blocks (v_inBlock) (v_atQuotient) (v_small) drawn, aJ Y q_power 18 power, aJ Y q_table 216 table, aI Y q_sortOf 24 sortOf, aI Y q_sF 74 sF, aI Y q_first 24 first, aI Y q_second 24 second, aI Y q_signBy 24 signBy] (fun v w => ∃ r : Int64, ∃ power' : Nat → Int64, ∃ table' : Nat → Int64, v = some (.long r) ∧ w = [oX11 h0 thrown (v_tape) taped (v_number) (v_isTold) (v_name) (.ref q_sortOf) (.ref q_first) (.ref q_second) (v_degree) (v_colours) (.ref q_signBy) (v_own) lines size atF place sort value fault faultPlace lastFault lastPlace (.ref q_sF) (v_kept) undoable hasImage (.ref q_power) (.ref q_table) (v_marks) (v_row) rowOf areSums isSieved (v_lastOf) blocks (v_inBlock) (v_atQuotient) (v_small) drawn, aJ Y q_power 18 power', aJ Y q_table 216 table', aI Y q_sortOf 24 sortOf, aI Y q_sF 74 sF, aI Y q_first 24 first, aI Y q_second 24 second, aI Y q_signBy 24 signBy] ∧ Q r power' table') := by
  refine gM_of (own := RX11) (by decide +kernel) rfl (Nat.le_of_ble_eq_true rfl) rfl (fun E C hR => ?_)
  unfold wX11_valueAt at h
  refine g_lconst (v := 1) C dX11_valueAt_0 rfl ?_
  refine g_lstore_n (lv' := [(3, .long 1), (0, .ref h0), (1, .int a1), (2, .int a2)]) C dX11_valueAt_1 (by decide) rfl ?_
  refine g_iload_n C dX11_valueAt_2 3 rfl ?_
  refine g_istore (lv' := [(5, .int a2), (3, .long 1), (0, .ref h0), (1, .int a1), (2, .int a2)]) C dX11_valueAt_3 (by decide) rfl ?_
  refine g_iconst (v := 2) C dX11_valueAt_5 rfl ?_
  refine g_istore (lv' := [(6, .int 2), (5, .int a2), (3, .long 1), (0, .ref h0), (1, .int a1), (2, .int a2)]) C dX11_valueAt_6 (by decide) rfl ?_
  obtain ⟨Inv_1, Mea_1, hI1, hB1⟩ := h
  have key_1 : ∀ (n : Nat) (power_1 : Nat → Int64) (table_1 : Nat → Int64) (x3_1 : Int64) (x5_1 : Int32) (x6_1 : Int32) , Mea_1 power_1 table_1 x3_1 x5_1 x6_1 < n → Inv_1 power_1 table_1 x3_1 x5_1 x6_1 → gG E 0 0 [oX11 h0 thrown (v_tape) taped (v_number) (v_isTold) (v_name) (.ref q_sortOf) (.ref q_first) (.ref q_second) (v_degree) (v_colours) (.ref q_signBy) (v_own) lines size atF place sort value fault faultPlace lastFault lastPlace (.ref q_sF) (v_kept) undoable hasImage (.ref q_power) (.ref q_table) (v_marks) (v_row) rowOf areSums isSieved (v_lastOf) blocks (v_inBlock) (v_atQuotient) (v_small) drawn, aJ Y q_power 18 power_1, aJ Y q_table 216 table_1, aI Y q_sortOf 24 sortOf, aI Y q_sF 74 sF, aI Y q_first 24 first, aI Y q_second 24 second, aI Y q_signBy 24 signBy] [(0, .ref h0), (1, .int a1), (3, .long x3_1), (5, .int x5_1), (6, .int x6_1)] [] 8 := by
    intro n
    induction n with
    | zero => exact fun _ _ _ _ _ hm => absurd hm (Nat.not_lt_zero _)
    | succ n ih1 =>
      intro power_1 table_1 x3_1 x5_1 x6_1  hm1 hI
      have h := hB1 power_1 table_1 x3_1 x5_1 x6_1 hI
      refine g_iload C dX11_valueAt_8 4 rfl ?_
      refine g_iload C dX11_valueAt_10 4 rfl ?_
      refine g_imul C dX11_valueAt_12 ?_
      refine g_iload C dX11_valueAt_13 3 rfl ?_
      refine g_icmp_gt (tgt := 88) C dX11_valueAt_15 (by decide) (fun c_1 => ?_) (fun c_1 => ?_)
      · replace h := h.1 c_1
        refine g_iload C dX11_valueAt_88 3 rfl ?_
        refine g_iconst (v := 1) C dX11_valueAt_90 rfl ?_
        refine g_icmp_le (tgt := 124) C dX11_valueAt_91 (by decide) (fun c_2 => ?_) (fun c_2 => ?_)
        · replace h := h.1 c_2
          refine g_lload_n C dX11_valueAt_124 2 rfl ?_
          exact g_lret C hR (Nat.le_of_ble_eq_true rfl) (Nat.le_of_ble_eq_true rfl) dX11_valueAt_125 ⟨x3_1, power_1, table_1, rfl, rfl, h⟩
        · replace h := h.2 c_2
          refine g_aload_n C dX11_valueAt_94 0 rfl ?_
          refine g_iload C dX11_valueAt_95 3 rfl ?_
          refine g_iconst (v := 1) C dX11_valueAt_97 rfl ?_
          refine g_iload_n C dX11_valueAt_98 1 rfl ?_
          obtain ⟨P_1, hP, h⟩ := h
          refine g_callV (As := [.int x5_1, .int 1, .int a1]) (rest := []) C (mX11_laysPowers l D Y h0 thrown v_tape taped v_number v_isTold v_name q_sortOf q_first q_second v_degree v_colours q_signBy v_own lines size atF place sort value fault faultPlace lastFault lastPlace q_sF v_kept undoable hasImage q_power q_table v_marks v_row rowOf areSums isSieved v_lastOf blocks v_inBlock v_atQuotient v_small drawn power_1 table_1 sortOf sF first second signBy x5_1 1 a1 P_1 hP) dX11_valueAt_99 rfl wM_X11_278 wI_X11_laysPowers wV_X11_laysPowers wN_X11 wC_X11_laysPowers (n := 3) (by decide +kernel) rfl (q0 := 0) rfl rfl ⟨Nat.le_of_ble_eq_true rfl, Nat.le_of_ble_eq_true rfl⟩ ⟨Nat.le_of_ble_eq_true rfl, Nat.le_of_ble_eq_true rfl⟩ (Nat.le_of_ble_eq_true rfl) [0, 1, 2, 3, 4, 5, 6, 7] [] rfl rfl rfl (fun v wc hv => ?_)
          obtain ⟨power_2, table_2, rfl, rfl, hq⟩ := hv
          replace h := h power_2 table_2 hq
          refine gG.eqw (ws' := [oX11 h0 thrown (v_tape) taped (v_number) (v_isTold) (v_name) (.ref q_sortOf) (.ref q_first) (.ref q_second) (v_degree) (v_colours) (.ref q_signBy) (v_own) lines size atF place sort value fault faultPlace lastFault lastPlace (.ref q_sF) (v_kept) undoable hasImage (.ref q_power) (.ref q_table) (v_marks) (v_row) rowOf areSums isSieved (v_lastOf) blocks (v_inBlock) (v_atQuotient) (v_small) drawn, aJ Y q_power 18 power_2, aJ Y q_table 216 table_2, aI Y q_sortOf 24 sortOf, aI Y q_sF 74 sF, aI Y q_first 24 first, aI Y q_second 24 second, aI Y q_signBy 24 signBy]) rfl ?_
          refine g_lload_n C dX11_valueAt_102 2 rfl ?_
          refine g_aload_n C dX11_valueAt_103 0 rfl ?_
          refine g_get C inX11 0 rfl rfl 28 (by decide) wF_X11_58 rfl dX11_valueAt_104 ?_
          refine g_bipush (v := 18) C dX11_valueAt_107 rfl ?_
          refine g_iload_n C dX11_valueAt_109 1 rfl ?_
          refine g_imul C dX11_valueAt_110 ?_
          refine g_iconst (v := 1) C dX11_valueAt_111 rfl ?_
          refine g_iadd C dX11_valueAt_112 ?_
          obtain ⟨hc_1, h⟩ := h
          refine g_lald C 2 rfl hc_1 dX11_valueAt_113 ?_
          refine g_lmul C dX11_valueAt_114 ?_
          refine g_aload_n C dX11_valueAt_115 0 rfl ?_
          refine g_get C inX11 0 rfl rfl 23 (by decide) wF_X11_48 rfl dX11_valueAt_116 ?_
          refine g_iconst (v := 1) C dX11_valueAt_119 rfl ?_
          refine g_iald C 4 rfl (by unfold vp_in; decide) dX11_valueAt_120 ?_
          refine g_i2l C dX11_valueAt_121 ?_
          obtain ⟨hc_2, h⟩ := h
          refine g_lrem C dX11_valueAt_122 hc_2 ?_
          refine g_topl (fun t_1 et_1 => ?_)
          replace h := h t_1 et_1
          refine g_lstore_n (lv' := [(3, .long t_1), (0, .ref h0), (1, .int a1), (5, .int x5_1), (6, .int x6_1)]) C dX11_valueAt_123 (by decide) rfl ?_
          refine g_lload_n C dX11_valueAt_124 0 rfl ?_
          exact g_lret C hR (Nat.le_of_ble_eq_true rfl) (Nat.le_of_ble_eq_true rfl) dX11_valueAt_125 ⟨t_1, power_2, table_2, rfl, rfl, h⟩
      · replace h := h.2 c_1
        refine g_iconst (v := 0) C dX11_valueAt_18 rfl ?_
        refine g_istore (lv' := [(7, .int 0), (0, .ref h0), (1, .int a1), (3, .long x3_1), (5, .int x5_1), (6, .int x6_1)]) C dX11_valueAt_19 (by decide) rfl ?_
        obtain ⟨Inv_2, Mea_2, hI2, hB2⟩ := h
        have key_2 : ∀ (n : Nat) (x5_2 : Int32) (x7_1 : Int32) , Mea_2 x5_2 x7_1 < n → Inv_2 x5_2 x7_1 → gG E 0 0 [oX11 h0 thrown (v_tape) taped (v_number) (v_isTold) (v_name) (.ref q_sortOf) (.ref q_first) (.ref q_second) (v_degree) (v_colours) (.ref q_signBy) (v_own) lines size atF place sort value fault faultPlace lastFault lastPlace (.ref q_sF) (v_kept) undoable hasImage (.ref q_power) (.ref q_table) (v_marks) (v_row) rowOf areSums isSieved (v_lastOf) blocks (v_inBlock) (v_atQuotient) (v_small) drawn, aJ Y q_power 18 power_1, aJ Y q_table 216 table_1, aI Y q_sortOf 24 sortOf, aI Y q_sF 74 sF, aI Y q_first 24 first, aI Y q_second 24 second, aI Y q_signBy 24 signBy] [(0, .ref h0), (1, .int a1), (3, .long x3_1), (5, .int x5_2), (6, .int x6_1), (7, .int x7_1)] [] 21 := by
          intro n
          induction n with
          | zero => exact fun _ _ hm => absurd hm (Nat.not_lt_zero _)
          | succ n ih2 =>
            intro x5_2 x7_1  hm2 hI
            have h := hB2 x5_2 x7_1 hI
            refine g_iload C dX11_valueAt_21 3 rfl ?_
            refine g_iload C dX11_valueAt_23 4 rfl ?_
            obtain ⟨hc_3, h⟩ := h
            refine g_irem C dX11_valueAt_25 hc_3 ?_
            refine g_if_ne (tgt := 42) C dX11_valueAt_26 (by decide) (fun c_3 => ?_) (fun c_3 => ?_)
            · replace h := h.1 c_3
              refine g_iload C dX11_valueAt_42 5 rfl ?_
              refine g_if_ne (tgt := 50) C dX11_valueAt_44 (by decide) (fun c_4 => ?_) (fun c_4 => ?_)
              · replace h := h.1 c_4
                refine g_aload_n C dX11_valueAt_50 0 rfl ?_
                refine g_iload C dX11_valueAt_51 4 rfl ?_
                refine g_iload C dX11_valueAt_53 5 rfl ?_
                refine g_iload_n C dX11_valueAt_55 1 rfl ?_
                obtain ⟨P_2, hP, h⟩ := h
                refine g_callV (As := [.int x6_1, .int x7_1, .int a1]) (rest := []) C (mX11_laysPowers l D Y h0 thrown v_tape taped v_number v_isTold v_name q_sortOf q_first q_second v_degree v_colours q_signBy v_own lines size atF place sort value fault faultPlace lastFault lastPlace q_sF v_kept undoable hasImage q_power q_table v_marks v_row rowOf areSums isSieved v_lastOf blocks v_inBlock v_atQuotient v_small drawn power_1 table_1 sortOf sF first second signBy x6_1 x7_1 a1 P_2 hP) dX11_valueAt_56 rfl wM_X11_278 wI_X11_laysPowers wV_X11_laysPowers wN_X11 wC_X11_laysPowers (n := 3) (by decide +kernel) rfl (q0 := 0) rfl rfl ⟨Nat.le_of_ble_eq_true rfl, Nat.le_of_ble_eq_true rfl⟩ ⟨Nat.le_of_ble_eq_true rfl, Nat.le_of_ble_eq_true rfl⟩ (Nat.le_of_ble_eq_true rfl) [0, 1, 2, 3, 4, 5, 6, 7] [] rfl rfl rfl (fun v wc hv => ?_)
                obtain ⟨power_3, table_3, rfl, rfl, hq⟩ := hv
                replace h := h power_3 table_3 hq
                refine gG.eqw (ws' := [oX11 h0 thrown (v_tape) taped (v_number) (v_isTold) (v_name) (.ref q_sortOf) (.ref q_first) (.ref q_second) (v_degree) (v_colours) (.ref q_signBy) (v_own) lines size atF place sort value fault faultPlace lastFault lastPlace (.ref q_sF) (v_kept) undoable hasImage (.ref q_power) (.ref q_table) (v_marks) (v_row) rowOf areSums isSieved (v_lastOf) blocks (v_inBlock) (v_atQuotient) (v_small) drawn, aJ Y q_power 18 power_3, aJ Y q_table 216 table_3, aI Y q_sortOf 24 sortOf, aI Y q_sF 74 sF, aI Y q_first 24 first, aI Y q_second 24 second, aI Y q_signBy 24 signBy]) rfl ?_
                refine g_lload_n C dX11_valueAt_59 2 rfl ?_
                refine g_aload_n C dX11_valueAt_60 0 rfl ?_
                refine g_get C inX11 0 rfl rfl 28 (by decide) wF_X11_58 rfl dX11_valueAt_61 ?_
                refine g_bipush (v := 18) C dX11_valueAt_64 rfl ?_
                refine g_iload_n C dX11_valueAt_66 1 rfl ?_
                refine g_imul C dX11_valueAt_67 ?_
                refine g_iload C dX11_valueAt_68 5 rfl ?_
                refine g_iadd C dX11_valueAt_70 ?_
                obtain ⟨hc_4, h⟩ := h
                refine g_lald C 2 rfl hc_4 dX11_valueAt_71 ?_
                refine g_lmul C dX11_valueAt_72 ?_
                refine g_aload_n C dX11_valueAt_73 0 rfl ?_
                refine g_get C inX11 0 rfl rfl 23 (by decide) wF_X11_48 rfl dX11_valueAt_74 ?_
                refine g_iconst (v := 1) C dX11_valueAt_77 rfl ?_
                refine g_iald C 4 rfl (by unfold vp_in; decide) dX11_valueAt_78 ?_
                refine g_i2l C dX11_valueAt_79 ?_
                obtain ⟨hc_5, h⟩ := h
                refine g_lrem C dX11_valueAt_80 hc_5 ?_
                refine g_topl (fun t_2 et_2 => ?_)
                replace h := h t_2 et_2
                refine g_lstore_n (lv' := [(3, .long t_2), (0, .ref h0), (1, .int a1), (5, .int x5_2), (6, .int x6_1), (7, .int x7_1)]) C dX11_valueAt_81 (by decide) rfl ?_
                refine g_iinc (v := x6_1 + 1) (lv' := [(6, .int (x6_1 + 1)), (3, .long t_2), (0, .ref h0), (1, .int a1), (5, .int x5_2), (7, .int x7_1)]) C dX11_valueAt_82 4 rfl rfl (by decide) rfl ?_
                refine g_goto (tgt := 8) C dX11_valueAt_85 (by decide) ?_
                refine gG.locals (lv' := [(0, .ref h0), (1, .int a1), (3, .long t_2), (5, .int x5_2), (6, .int (x6_1 + 1))]) [2, 3, 1, 4, 0] rfl ?_
                exact ih1 power_3 table_3 t_2 x5_2 (x6_1 + 1) (Nat.lt_of_lt_of_le h.2 (Nat.le_of_lt_succ hm1)) h.1
              · replace h := h.2 c_4
                refine g_goto (tgt := 82) C dX11_valueAt_47 (by decide) ?_
                refine g_iinc (v := x6_1 + 1) (lv' := [(6, .int (x6_1 + 1)), (0, .ref h0), (1, .int a1), (3, .long x3_1), (5, .int x5_2), (7, .int x7_1)]) C dX11_valueAt_82 4 rfl rfl (by decide) rfl ?_
                refine g_goto (tgt := 8) C dX11_valueAt_85 (by decide) ?_
                refine gG.locals (lv' := [(0, .ref h0), (1, .int a1), (3, .long x3_1), (5, .int x5_2), (6, .int (x6_1 + 1))]) [1, 2, 3, 4, 0] rfl ?_
                exact ih1 power_1 table_1 x3_1 x5_2 (x6_1 + 1) (Nat.lt_of_lt_of_le h.2 (Nat.le_of_lt_succ hm1)) h.1
            · replace h := h.2 c_3
              refine g_iload C dX11_valueAt_29 3 rfl ?_
              refine g_iload C dX11_valueAt_31 4 rfl ?_
              refine g_idiv C dX11_valueAt_33 hc_3 ?_
              refine g_topi (fun x5_3 ex5_3 => ?_)
              replace h := h x5_3 ex5_3
              refine g_istore (lv' := [(5, .int x5_3), (0, .ref h0), (1, .int a1), (3, .long x3_1), (6, .int x6_1), (7, .int x7_1)]) C dX11_valueAt_34 (by decide) rfl ?_
              refine g_iinc (v := x7_1 + 1) (lv' := [(7, .int (x7_1 + 1)), (5, .int x5_3), (0, .ref h0), (1, .int a1), (3, .long x3_1), (6, .int x6_1)]) C dX11_valueAt_36 5 rfl rfl (by decide) rfl ?_
              refine g_goto (tgt := 21) C dX11_valueAt_39 (by decide) ?_
              refine gG.locals (lv' := [(0, .ref h0), (1, .int a1), (3, .long x3_1), (5, .int x5_3), (6, .int x6_1), (7, .int (x7_1 + 1))]) [2, 3, 4, 1, 5, 0] rfl ?_
              exact ih2 x5_3 (x7_1 + 1) (Nat.lt_of_lt_of_le h.2 (Nat.le_of_lt_succ hm2)) h.1
        refine gG.locals (lv' := [(0, .ref h0), (1, .int a1), (3, .long x3_1), (5, .int x5_1), (6, .int x6_1), (7, .int 0)]) [1, 2, 3, 4, 5, 0] rfl ?_
        exact key_2 (Mea_2 x5_1 0 + 1) x5_1 0 (Nat.lt_succ_self _) hI2
  refine gG.locals (lv' := [(0, .ref h0), (1, .int a1), (3, .long 1), (5, .int a2), (6, .int 2)]) [3, 4, 2, 1, 0] rfl ?_
  exact key_1 (Mea_1 power table 1 a2 2 + 1) power table 1 a2 2 (Nat.lt_succ_self _) hI1
theorem dX11_value_0 : decode cX11_value 0 = .ok (.aload_n 0, 1) := by decide +kernel
theorem dX11_value_1 : decode cX11_value 1 = .ok (.iconst 0, 1) := by decide +kernel
theorem dX11_value_2 : decode cX11_value 2 = .ok (.putfield 89, 3) := by decide +kernel
theorem dX11_value_5 : decode cX11_value 5 = .ok (.aload_n 0, 1) := by decide +kernel
theorem dX11_value_6 : decode cX11_value 6 = .ok (.iload_n 1, 1) := by decide +kernel
theorem dX11_value_7 : decode cX11_value 7 = .ok (.invokevirtual 241, 3) := by decide +kernel
theorem dX11_value_10 : decode cX11_value 10 = .ok (.ifCond .eq 22, 3) := by decide +kernel
theorem dX11_value_13 : decode cX11_value 13 = .ok (.aload_n 0, 1) := by decide +kernel
theorem dX11_value_14 : decode cX11_value 14 = .ok (.iload_n 2, 1) := by decide +kernel
theorem dX11_value_15 : decode cX11_value 15 = .ok (.iconst 1, 1) := by decide +kernel
theorem dX11_value_16 : decode cX11_value 16 = .ok (.invokevirtual 282, 3) := by decide +kernel
theorem dX11_value_19 : decode cX11_value 19 = .ok (.ifCond .eq 13, 3) := by decide +kernel
theorem dX11_value_22 : decode cX11_value 22 = .ok (.aload_n 0, 1) := by decide +kernel
theorem dX11_value_23 : decode cX11_value 23 = .ok (.iload_n 1, 1) := by decide +kernel
theorem dX11_value_24 : decode cX11_value 24 = .ok (.iload_n 2, 1) := by decide +kernel
theorem dX11_value_25 : decode cX11_value 25 = .ok (.invokevirtual 286, 3) := by decide +kernel
theorem dX11_value_28 : decode cX11_value 28 = .ok (.l2i, 1) := by decide +kernel
theorem dX11_value_29 : decode cX11_value 29 = .ok (.goto 4, 3) := by decide +kernel
theorem dX11_value_32 : decode cX11_value 32 = .ok (.iconst (-1), 1) := by decide +kernel
theorem dX11_value_33 : decode cX11_value 33 = .ok (.ireturn, 1) := by decide +kernel
/-- QuotientSumsModel.value(II)I -/
def wX11_value (thrown : Int32) (taped : Int32) (lines : Int32) (size : Int32) (atF : Int32) (place : Int32) (sort : Int32) (value : Int32) (fault : Int32) (faultPlace : Int32) (lastFault : Int32) (lastPlace : Int32) (undoable : Int32) (hasImage : Int32) (rowOf : Int32) (areSums : Int32) (isSieved : Int32) (blocks : Int32) (drawn : Int32) (number : Nat → Int32) (sF : Nat → Int32) (power : Nat → Int64) (table : Nat → Int64) (sortOf : Nat → Int32) (first : Nat → Int32) (second : Nat → Int32) (signBy : Nat → Int32) (a1 : Int32) (a2 : Int32) (Q : (Int32) → (Int32) → (Nat → Int64) → (Nat → Int64) → Prop) : Prop :=
  (∃ (P_1 : (Int32) → Prop), wX11_isFunction 0 taped lines size atF place sort value fault faultPlace lastFault lastPlace undoable hasImage rowOf areSums isSieved blocks drawn number a1 P_1 ∧ ∀ (rF_1 : Int32), P_1 rF_1 → ((rF_1 = 0 → (Q (-1) 0 power table)) ∧ (¬ rF_1 = 0 → (∃ (P_2 : (Int32) → Prop), wX11_isIn 0 taped lines size atF place sort value fault faultPlace lastFault lastPlace undoable hasImage rowOf areSums isSieved blocks drawn sF a2 1 P_2 ∧ ∀ (rF_2 : Int32), P_2 rF_2 → ((rF_2 = 0 → (Q (-1) 0 power table)) ∧ (¬ rF_2 = 0 → (∃ (P_3 : (Int64) → (Nat → Int64) → (Nat → Int64) → Prop), wX11_valueAt 0 taped lines size atF place sort value fault faultPlace lastFault lastPlace undoable hasImage rowOf areSums isSieved blocks drawn power table sortOf sF first second signBy a1 a2 P_3 ∧ ∀ (rF_3 : Int64) (power_1 : Nat → Int64) (table_1 : Nat → Int64), P_3 rF_3 power_1 table_1 → (Q (rF_3.toInt32) 0 power_1 table_1))))))))
set_option maxHeartbeats 4000000 in
set_option maxRecDepth 100000 in
theorem mX11_value (l : Launch) (D : va_G) (Y : Nat → ClassId) (h0 : Nat) (thrown : Int32) (v_tape : Value) (taped : Int32) (q_number : Nat) (v_isTold : Value) (v_name : Value) (q_sortOf : Nat) (q_first : Nat) (q_second : Nat) (v_degree : Value) (v_colours : Value) (q_signBy : Nat) (v_own : Value) (lines : Int32) (size : Int32) (atF : Int32) (place : Int32) (sort : Int32) (value : Int32) (fault : Int32) (faultPlace : Int32) (lastFault : Int32) (lastPlace : Int32) (q_sF : Nat) (v_kept : Value) (undoable : Int32) (hasImage : Int32) (q_power : Nat) (q_table : Nat) (v_marks : Value) (v_row : Value) (rowOf : Int32) (areSums : Int32) (isSieved : Int32) (v_lastOf : Value) (blocks : Int32) (v_inBlock : Value) (v_atQuotient : Value) (v_small : Value) (drawn : Int32) (number : Nat → Int32) (sF : Nat → Int32) (power : Nat → Int64) (table : Nat → Int64) (sortOf : Nat → Int32) (first : Nat → Int32) (second : Nat → Int32) (signBy : Nat → Int32) (a1 : Int32) (a2 : Int32) (Q : (Int32) → (Int32) → (Nat → Int64) → (Nat → Int64) → Prop) (h : wX11_value thrown taped lines size atF place sort value fault faultPlace lastFault lastPlace undoable hasImage rowOf areSums isSieved blocks drawn number sF power table sortOf first second signBy a1 a2 Q) : gM l D Y yX11_value cX11_value 3 (some .int) 3 80 0 0 [.ref h0, .int a1, .int a2] [oX11 h0 thrown (v_tape) taped (.ref q_number) (v_isTold) (v_name) (.ref q_sortOf) (.ref q_first) (.ref q_second) (v_degree) (v_colours) (.ref q_signBy) (v_own) lines size atF place sort value fault faultPlace lastFault lastPlace (.ref q_sF) (v_kept) undoable hasImage (.ref q_power) (.ref q_table) (v_marks) (v_row) rowOf areSums isSieved (v_lastOf) blocks (v_inBlock) (v_atQuotient) (v_small) drawn, aI Y q_number 8 number, aI Y q_sF 74 sF, aJ Y q_power 18 power, aJ Y q_table 216 table, aI Y q_sortOf 24 sortOf, aI Y q_first 24 first, aI Y q_second 24 second, aI Y q_signBy 24 signBy] (fun v w => ∃ r : Int32, ∃ thrown' : Int32, ∃ power' : Nat → Int64, ∃ table' : Nat → Int64, v = some (.int r) ∧ w = [oX11 h0 thrown' (v_tape) taped (.ref q_number) (v_isTold) (v_name) (.ref q_sortOf) (.ref q_first) (.ref q_second) (v_degree) (v_colours) (.ref q_signBy) (v_own) lines size atF place sort value fault faultPlace lastFault lastPlace (.ref q_sF) (v_kept) undoable hasImage (.ref q_power) (.ref q_table) (v_marks) (v_row) rowOf areSums isSieved (v_lastOf) blocks (v_inBlock) (v_atQuotient) (v_small) drawn, aI Y q_number 8 number, aI Y q_sF 74 sF, aJ Y q_power 18 power', aJ Y q_table 216 table', aI Y q_sortOf 24 sortOf, aI Y q_first 24 first, aI Y q_second 24 second, aI Y q_signBy 24 signBy] ∧ Q r thrown' power' table') := by
  refine gM_of (own := RX11) (by decide +kernel) rfl (Nat.le_of_ble_eq_true rfl) rfl (fun E C hR => ?_)
  unfold wX11_value at h
  refine g_aload_n C dX11_value_0 0 rfl ?_
  refine g_iconst (v := 0) C dX11_value_1 rfl ?_
  refine g_put C inX11 tyX11 tyX11_ok nmX11 0 rfl rfl 0 (by decide) wF_X11_89 rfl rfl rfl (Nat.le_of_ble_eq_true rfl) (ws' := [oX11 h0 0 (v_tape) taped (.ref q_number) (v_isTold) (v_name) (.ref q_sortOf) (.ref q_first) (.ref q_second) (v_degree) (v_colours) (.ref q_signBy) (v_own) lines size atF place sort value fault faultPlace lastFault lastPlace (.ref q_sF) (v_kept) undoable hasImage (.ref q_power) (.ref q_table) (v_marks) (v_row) rowOf areSums isSieved (v_lastOf) blocks (v_inBlock) (v_atQuotient) (v_small) drawn, aI Y q_number 8 number, aI Y q_sF 74 sF, aJ Y q_power 18 power, aJ Y q_table 216 table, aI Y q_sortOf 24 sortOf, aI Y q_first 24 first, aI Y q_second 24 second, aI Y q_signBy 24 signBy]) rfl dX11_value_2 ?_
  refine g_aload_n C dX11_value_5 0 rfl ?_
  refine g_iload_n C dX11_value_6 1 rfl ?_
  obtain ⟨P_1, hP, h⟩ := h
  refine g_callV (As := [.int a1]) (rest := []) C (mX11_isFunction l D Y h0 0 v_tape taped q_number v_isTold v_name (.ref q_sortOf) (.ref q_first) (.ref q_second) v_degree v_colours (.ref q_signBy) v_own lines size atF place sort value fault faultPlace lastFault lastPlace (.ref q_sF) v_kept undoable hasImage (.ref q_power) (.ref q_table) v_marks v_row rowOf areSums isSieved v_lastOf blocks v_inBlock v_atQuotient v_small drawn number a1 P_1 hP) dX11_value_7 rfl wM_X11_241 wI_X11_isFunction wV_X11_isFunction wN_X11 wC_X11_isFunction (n := 1) (by decide +kernel) rfl (q0 := 0) rfl rfl ⟨Nat.le_of_ble_eq_true rfl, Nat.le_of_ble_eq_true rfl⟩ ⟨Nat.le_of_ble_eq_true rfl, Nat.le_of_ble_eq_true rfl⟩ (Nat.le_of_ble_eq_true rfl) [0, 1] [2, 3, 4, 5, 6, 7, 8] rfl rfl rfl (fun v wc hv => ?_)
  obtain ⟨rF_1, rfl, rfl, hq⟩ := hv
  replace h := h rF_1 hq
  refine gG.perm (ws' := [oX11 h0 0 (v_tape) taped (.ref q_number) (v_isTold) (v_name) (.ref q_sortOf) (.ref q_first) (.ref q_second) (v_degree) (v_colours) (.ref q_signBy) (v_own) lines size atF place sort value fault faultPlace lastFault lastPlace (.ref q_sF) (v_kept) undoable hasImage (.ref q_power) (.ref q_table) (v_marks) (v_row) rowOf areSums isSieved (v_lastOf) blocks (v_inBlock) (v_atQuotient) (v_small) drawn, aI Y q_number 8 number, aI Y q_sF 74 sF, aJ Y q_power 18 power, aJ Y q_table 216 table, aI Y q_sortOf 24 sortOf, aI Y q_first 24 first, aI Y q_second 24 second, aI Y q_signBy 24 signBy]) [7, 8, 0, 1, 2, 3, 4, 5, 6] rfl rfl ?_
  refine g_if_eq (tgt := 32) C dX11_value_10 (by decide) (fun c_1 => ?_) (fun c_1 => ?_)
  · replace h := h.1 c_1
    refine g_iconst (v := (-1)) C dX11_value_32 rfl ?_
    exact g_iret C hR (Nat.le_of_ble_eq_true rfl) (Nat.le_of_ble_eq_true rfl) dX11_value_33 ⟨(-1), 0, power, table, rfl, rfl, h⟩
  · replace h := h.2 c_1
    refine g_aload_n C dX11_value_13 0 rfl ?_
    refine g_iload_n C dX11_value_14 2 rfl ?_
    refine g_iconst (v := 1) C dX11_value_15 rfl ?_
    obtain ⟨P_2, hP, h⟩ := h
    refine g_callV (As := [.int a2, .int 1]) (rest := []) C (mX11_isIn l D Y h0 0 v_tape taped (.ref q_number) v_isTold v_name (.ref q_sortOf) (.ref q_first) (.ref q_second) v_degree v_colours (.ref q_signBy) v_own lines size atF place sort value fault faultPlace lastFault lastPlace q_sF v_kept undoable hasImage (.ref q_power) (.ref q_table) v_marks v_row rowOf areSums isSieved v_lastOf blocks v_inBlock v_atQuotient v_small drawn sF a2 1 P_2 hP) dX11_value_16 rfl wM_X11_282 wI_X11_isIn wV_X11_isIn wN_X11 wC_X11_isIn (n := 2) (by decide +kernel) rfl (q0 := 0) rfl rfl ⟨Nat.le_of_ble_eq_true rfl, Nat.le_of_ble_eq_true rfl⟩ ⟨Nat.le_of_ble_eq_true rfl, Nat.le_of_ble_eq_true rfl⟩ (Nat.le_of_ble_eq_true rfl) [0, 2] [1, 3, 4, 5, 6, 7, 8] rfl rfl rfl (fun v wc hv => ?_)
    obtain ⟨rF_2, rfl, rfl, hq⟩ := hv
    replace h := h rF_2 hq
    refine gG.perm (ws' := [oX11 h0 0 (v_tape) taped (.ref q_number) (v_isTold) (v_name) (.ref q_sortOf) (.ref q_first) (.ref q_second) (v_degree) (v_colours) (.ref q_signBy) (v_own) lines size atF place sort value fault faultPlace lastFault lastPlace (.ref q_sF) (v_kept) undoable hasImage (.ref q_power) (.ref q_table) (v_marks) (v_row) rowOf areSums isSieved (v_lastOf) blocks (v_inBlock) (v_atQuotient) (v_small) drawn, aI Y q_number 8 number, aI Y q_sF 74 sF, aJ Y q_power 18 power, aJ Y q_table 216 table, aI Y q_sortOf 24 sortOf, aI Y q_first 24 first, aI Y q_second 24 second, aI Y q_signBy 24 signBy]) [7, 0, 8, 1, 2, 3, 4, 5, 6] rfl rfl ?_
    refine g_if_eq (tgt := 32) C dX11_value_19 (by decide) (fun c_2 => ?_) (fun c_2 => ?_)
    · replace h := h.1 c_2
      refine g_iconst (v := (-1)) C dX11_value_32 rfl ?_
      exact g_iret C hR (Nat.le_of_ble_eq_true rfl) (Nat.le_of_ble_eq_true rfl) dX11_value_33 ⟨(-1), 0, power, table, rfl, rfl, h⟩
    · replace h := h.2 c_2
      refine g_aload_n C dX11_value_22 0 rfl ?_
      refine g_iload_n C dX11_value_23 1 rfl ?_
      refine g_iload_n C dX11_value_24 2 rfl ?_
      obtain ⟨P_3, hP, h⟩ := h
      refine g_callV (As := [.int a1, .int a2]) (rest := []) C (mX11_valueAt l D Y h0 0 v_tape taped (.ref q_number) v_isTold v_name q_sortOf q_first q_second v_degree v_colours q_signBy v_own lines size atF place sort value fault faultPlace lastFault lastPlace q_sF v_kept undoable hasImage q_power q_table v_marks v_row rowOf areSums isSieved v_lastOf blocks v_inBlock v_atQuotient v_small drawn power table sortOf sF first second signBy a1 a2 P_3 hP) dX11_value_25 rfl wM_X11_286 wI_X11_valueAt wV_X11_valueAt wN_X11 wC_X11_valueAt (n := 2) (by decide +kernel) rfl (q0 := 0) rfl rfl ⟨Nat.le_of_ble_eq_true rfl, Nat.le_of_ble_eq_true rfl⟩ ⟨Nat.le_of_ble_eq_true rfl, Nat.le_of_ble_eq_true rfl⟩ (Nat.le_of_ble_eq_true rfl) [0, 3, 4, 5, 2, 6, 7, 8] [1] rfl rfl rfl (fun v wc hv => ?_)
      obtain ⟨rF_3, power_1, table_1, rfl, rfl, hq⟩ := hv
      replace h := h rF_3 power_1 table_1 hq
      refine gG.perm (ws' := [oX11 h0 0 (v_tape) taped (.ref q_number) (v_isTold) (v_name) (.ref q_sortOf) (.ref q_first) (.ref q_second) (v_degree) (v_colours) (.ref q_signBy) (v_own) lines size atF place sort value fault faultPlace lastFault lastPlace (.ref q_sF) (v_kept) undoable hasImage (.ref q_power) (.ref q_table) (v_marks) (v_row) rowOf areSums isSieved (v_lastOf) blocks (v_inBlock) (v_atQuotient) (v_small) drawn, aI Y q_number 8 number, aI Y q_sF 74 sF, aJ Y q_power 18 power_1, aJ Y q_table 216 table_1, aI Y q_sortOf 24 sortOf, aI Y q_first 24 first, aI Y q_second 24 second, aI Y q_signBy 24 signBy]) [1, 0, 5, 2, 3, 4, 6, 7, 8] rfl rfl ?_
      refine g_l2i C dX11_value_28 ?_
      refine g_goto (tgt := 33) C dX11_value_29 (by decide) ?_
      exact g_iret C hR (Nat.le_of_ble_eq_true rfl) (Nat.le_of_ble_eq_true rfl) dX11_value_33 ⟨rF_3.toInt32, 0, power_1, table_1, rfl, rfl, h⟩
theorem dX11_powerIn_0 : decode cX11_powerIn 0 = .ok (.iconst 0, 1) := by decide +kernel
theorem dX11_powerIn_1 : decode cX11_powerIn 1 = .ok (.istore_n 2, 1) := by decide +kernel
theorem dX11_powerIn_2 : decode cX11_powerIn 2 = .ok (.iload_n 0, 1) := by decide +kernel
theorem dX11_powerIn_3 : decode cX11_powerIn 3 = .ok (.istore_n 3, 1) := by decide +kernel
theorem dX11_powerIn_4 : decode cX11_powerIn 4 = .ok (.iload_n 3, 1) := by decide +kernel
theorem dX11_powerIn_5 : decode cX11_powerIn 5 = .ok (.iload_n 1, 1) := by decide +kernel
theorem dX11_powerIn_6 : decode cX11_powerIn 6 = .ok (.irem, 1) := by decide +kernel
theorem dX11_powerIn_7 : decode cX11_powerIn 7 = .ok (.ifCond .ne 13, 3) := by decide +kernel
theorem dX11_powerIn_10 : decode cX11_powerIn 10 = .ok (.iload_n 3, 1) := by decide +kernel
theorem dX11_powerIn_11 : decode cX11_powerIn 11 = .ok (.iload_n 1, 1) := by decide +kernel
theorem dX11_powerIn_12 : decode cX11_powerIn 12 = .ok (.idiv, 1) := by decide +kernel
theorem dX11_powerIn_13 : decode cX11_powerIn 13 = .ok (.istore_n 3, 1) := by decide +kernel
theorem dX11_powerIn_14 : decode cX11_powerIn 14 = .ok (.iinc 2 1, 3) := by decide +kernel
theorem dX11_powerIn_17 : decode cX11_powerIn 17 = .ok (.goto (-13), 3) := by decide +kernel
theorem dX11_powerIn_20 : decode cX11_powerIn 20 = .ok (.iload_n 2, 1) := by decide +kernel
theorem dX11_powerIn_21 : decode cX11_powerIn 21 = .ok (.ireturn, 1) := by decide +kernel
/-- QuotientSumsModel.powerIn(II)I -/
def wX11_powerIn  (a1 : Int32) (a2 : Int32) (Q : (Int32) → Prop) : Prop :=
  (∃ (Inv_1 : (Int32) → (Int32) → Prop) (Mea_1 : (Int32) → (Int32) → Nat), Inv_1 0 a1 ∧ ∀ (x2_1 : Int32) (x3_1 : Int32), Inv_1 x2_1 x3_1 → (¬ a2 = 0 ∧ ((¬ (x3_1 - x3_1 / a2 * a2) = 0 → (Q x2_1)) ∧ ((x3_1 - x3_1 / a2 * a2) = 0 → (∀ x3_2 : Int32, x3_2 = x3_1 / a2 → (Inv_1 (x2_1 + 1) x3_2 ∧ Mea_1 (x2_1 + 1) x3_2 < Mea_1 x2_1 x3_1))))))
set_option maxHeartbeats 4000000 in
set_option maxRecDepth 100000 in
theorem mX11_powerIn (l : Launch) (D : va_G) (Y : Nat → ClassId)   (a1 : Int32) (a2 : Int32) (Q : (Int32) → Prop) (h : wX11_powerIn a1 a2 Q) : gM l D Y yX11_powerIn cX11_powerIn 4 (some .int) 0 0 0 0 [.int a1, .int a2] [] (fun v w => ∃ r : Int32, v = some (.int r) ∧ w = [] ∧ Q r) := by
  refine gM_of (own := RX11) (by decide +kernel) rfl (Nat.le_of_ble_eq_true rfl) rfl (fun E C hR => ?_)
  unfold wX11_powerIn at h
  refine g_iconst (v := 0) C dX11_powerIn_0 rfl ?_
  refine g_istore_n (lv' := [(2, .int 0), (0, .int a1), (1, .int a2)]) C dX11_powerIn_1 (by decide) rfl ?_
  refine g_iload_n C dX11_powerIn_2 1 rfl ?_
  refine g_istore_n (lv' := [(3, .int a1), (2, .int 0), (0, .int a1), (1, .int a2)]) C dX11_powerIn_3 (by decide) rfl ?_
  obtain ⟨Inv_1, Mea_1, hI1, hB1⟩ := h
  have key_1 : ∀ (n : Nat) (x2_1 : Int32) (x3_1 : Int32) , Mea_1 x2_1 x3_1 < n → Inv_1 x2_1 x3_1 → gG E 0 0 [] [(1, .int a2), (2, .int x2_1), (3, .int x3_1)] [] 4 := by
    intro n
    induction n with
    | zero => exact fun _ _ hm => absurd hm (Nat.not_lt_zero _)
    | succ n ih1 =>
      intro x2_1 x3_1  hm1 hI
      have h := hB1 x2_1 x3_1 hI
      refine g_iload_n C dX11_powerIn_4 2 rfl ?_
      refine g_iload_n C dX11_powerIn_5 0 rfl ?_
      obtain ⟨hc_1, h⟩ := h
      refine g_irem C dX11_powerIn_6 hc_1 ?_
      refine g_if_ne (tgt := 20) C dX11_powerIn_7 (by decide) (fun c_1 => ?_) (fun c_1 => ?_)
      · replace h := h.1 c_1
        refine g_iload_n C dX11_powerIn_20 1 rfl ?_
        exact g_iret C hR (Nat.le_of_ble_eq_true rfl) (Nat.le_of_ble_eq_true rfl) dX11_powerIn_21 ⟨x2_1, rfl, rfl, h⟩
      · replace h := h.2 c_1
        refine g_iload_n C dX11_powerIn_10 2 rfl ?_
        refine g_iload_n C dX11_powerIn_11 0 rfl ?_
        refine g_idiv C dX11_powerIn_12 hc_1 ?_
        refine g_topi (fun x3_2 ex3_2 => ?_)
        replace h := h x3_2 ex3_2
        refine g_istore_n (lv' := [(3, .int x3_2), (1, .int a2), (2, .int x2_1)]) C dX11_powerIn_13 (by decide) rfl ?_
        refine g_iinc (v := x2_1 + 1) (lv' := [(2, .int (x2_1 + 1)), (3, .int x3_2), (1, .int a2)]) C dX11_powerIn_14 2 rfl rfl (by decide) rfl ?_
        refine g_goto (tgt := 4) C dX11_powerIn_17 (by decide) ?_
        refine gG.locals (lv' := [(1, .int a2), (2, .int (x2_1 + 1)), (3, .int x3_2)]) [2, 0, 1] rfl ?_
        exact ih1 (x2_1 + 1) x3_2 (Nat.lt_of_lt_of_le h.2 (Nat.le_of_lt_succ hm1)) h.1
  refine gG.locals (lv' := [(1, .int a2), (2, .int 0), (3, .int a1)]) [3, 1, 0] rfl ?_
  exact key_1 (Mea_1 0 a1 + 1) 0 a1 (Nat.lt_succ_self _) hI1
theorem dX11_mostPower_0 : decode cX11_mostPower 0 = .ok (.iconst 0, 1) := by decide +kernel
theorem dX11_mostPower_1 : decode cX11_mostPower 1 = .ok (.istore_n 2, 1) := by decide +kernel
theorem dX11_mostPower_2 : decode cX11_mostPower 2 = .ok (.iload_n 1, 1) := by decide +kernel
theorem dX11_mostPower_3 : decode cX11_mostPower 3 = .ok (.istore_n 3, 1) := by decide +kernel
theorem dX11_mostPower_4 : decode cX11_mostPower 4 = .ok (.iload_n 3, 1) := by decide +kernel
theorem dX11_mostPower_5 : decode cX11_mostPower 5 = .ok (.iload_n 0, 1) := by decide +kernel
theorem dX11_mostPower_6 : decode cX11_mostPower 6 = .ok (.if_icmp .lt 13, 3) := by decide +kernel
theorem dX11_mostPower_9 : decode cX11_mostPower 9 = .ok (.iload_n 3, 1) := by decide +kernel
theorem dX11_mostPower_10 : decode cX11_mostPower 10 = .ok (.iload_n 0, 1) := by decide +kernel
theorem dX11_mostPower_11 : decode cX11_mostPower 11 = .ok (.idiv, 1) := by decide +kernel
theorem dX11_mostPower_12 : decode cX11_mostPower 12 = .ok (.istore_n 3, 1) := by decide +kernel
theorem dX11_mostPower_13 : decode cX11_mostPower 13 = .ok (.iinc 2 1, 3) := by decide +kernel
theorem dX11_mostPower_16 : decode cX11_mostPower 16 = .ok (.goto (-12), 3) := by decide +kernel
theorem dX11_mostPower_19 : decode cX11_mostPower 19 = .ok (.iload_n 2, 1) := by decide +kernel
theorem dX11_mostPower_20 : decode cX11_mostPower 20 = .ok (.ireturn, 1) := by decide +kernel
/-- QuotientSumsModel.mostPower(II)I -/
def wX11_mostPower  (a1 : Int32) (a2 : Int32) (Q : (Int32) → Prop) : Prop :=
  (∃ (Inv_1 : (Int32) → (Int32) → Prop) (Mea_1 : (Int32) → (Int32) → Nat), Inv_1 0 a2 ∧ ∀ (x2_1 : Int32) (x3_1 : Int32), Inv_1 x2_1 x3_1 → ((x3_1 < a1 → (Q x2_1)) ∧ (¬ x3_1 < a1 → (¬ a1 = 0 ∧ ∀ x3_2 : Int32, x3_2 = x3_1 / a1 → (Inv_1 (x2_1 + 1) x3_2 ∧ Mea_1 (x2_1 + 1) x3_2 < Mea_1 x2_1 x3_1)))))
set_option maxHeartbeats 4000000 in
set_option maxRecDepth 100000 in
theorem mX11_mostPower (l : Launch) (D : va_G) (Y : Nat → ClassId)   (a1 : Int32) (a2 : Int32) (Q : (Int32) → Prop) (h : wX11_mostPower a1 a2 Q) : gM l D Y yX11_mostPower cX11_mostPower 4 (some .int) 0 0 0 0 [.int a1, .int a2] [] (fun v w => ∃ r : Int32, v = some (.int r) ∧ w = [] ∧ Q r) := by
  refine gM_of (own := RX11) (by decide +kernel) rfl (Nat.le_of_ble_eq_true rfl) rfl (fun E C hR => ?_)
  unfold wX11_mostPower at h
  refine g_iconst (v := 0) C dX11_mostPower_0 rfl ?_
  refine g_istore_n (lv' := [(2, .int 0), (0, .int a1), (1, .int a2)]) C dX11_mostPower_1 (by decide) rfl ?_
  refine g_iload_n C dX11_mostPower_2 2 rfl ?_
  refine g_istore_n (lv' := [(3, .int a2), (2, .int 0), (0, .int a1), (1, .int a2)]) C dX11_mostPower_3 (by decide) rfl ?_
  obtain ⟨Inv_1, Mea_1, hI1, hB1⟩ := h
  have key_1 : ∀ (n : Nat) (x2_1 : Int32) (x3_1 : Int32) , Mea_1 x2_1 x3_1 < n → Inv_1 x2_1 x3_1 → gG E 0 0 [] [(0, .int a1), (2, .int x2_1), (3, .int x3_1)] [] 4 := by
    intro n
    induction n with
    | zero => exact fun _ _ hm => absurd hm (Nat.not_lt_zero _)
    | succ n ih1 =>
      intro x2_1 x3_1  hm1 hI
      have h := hB1 x2_1 x3_1 hI
      refine g_iload_n C dX11_mostPower_4 2 rfl ?_
      refine g_iload_n C dX11_mostPower_5 0 rfl ?_
      refine g_icmp_lt (tgt := 19) C dX11_mostPower_6 (by decide) (fun c_1 => ?_) (fun c_1 => ?_)
      · replace h := h.1 c_1
        refine g_iload_n C dX11_mostPower_19 1 rfl ?_
        exact g_iret C hR (Nat.le_of_ble_eq_true rfl) (Nat.le_of_ble_eq_true rfl) dX11_mostPower_20 ⟨x2_1, rfl, rfl, h⟩
      · replace h := h.2 c_1
        refine g_iload_n C dX11_mostPower_9 2 rfl ?_
        refine g_iload_n C dX11_mostPower_10 0 rfl ?_
        obtain ⟨hc_1, h⟩ := h
        refine g_idiv C dX11_mostPower_11 hc_1 ?_
        refine g_topi (fun x3_2 ex3_2 => ?_)
        replace h := h x3_2 ex3_2
        refine g_istore_n (lv' := [(3, .int x3_2), (0, .int a1), (2, .int x2_1)]) C dX11_mostPower_12 (by decide) rfl ?_
        refine g_iinc (v := x2_1 + 1) (lv' := [(2, .int (x2_1 + 1)), (3, .int x3_2), (0, .int a1)]) C dX11_mostPower_13 2 rfl rfl (by decide) rfl ?_
        refine g_goto (tgt := 4) C dX11_mostPower_16 (by decide) ?_
        refine gG.locals (lv' := [(0, .int a1), (2, .int (x2_1 + 1)), (3, .int x3_2)]) [2, 0, 1] rfl ?_
        exact ih1 (x2_1 + 1) x3_2 (Nat.lt_of_lt_of_le h.2 (Nat.le_of_lt_succ hm1)) h.1
  refine gG.locals (lv' := [(0, .int a1), (2, .int 0), (3, .int a2)]) [2, 1, 0] rfl ?_
  exact key_1 (Mea_1 0 a2 + 1) 0 a2 (Nat.lt_succ_self _) hI1
theorem dX11_laysValues_0 : decode cX11_laysValues 0 = .ok (.aload_n 0, 1) := by decide +kernel
theorem dX11_laysValues_1 : decode cX11_laysValues 1 = .ok (.getfield 295, 3) := by decide +kernel
theorem dX11_laysValues_4 : decode cX11_laysValues 4 = .ok (.iload_n 1, 1) := by decide +kernel
theorem dX11_laysValues_5 : decode cX11_laysValues 5 = .ok (.if_icmp .ne 11, 3) := by decide +kernel
theorem dX11_laysValues_8 : decode cX11_laysValues 8 = .ok (.aload_n 0, 1) := by decide +kernel
theorem dX11_laysValues_9 : decode cX11_laysValues 9 = .ok (.getfield 298, 3) := by decide +kernel
theorem dX11_laysValues_12 : decode cX11_laysValues 12 = .ok (.ifCond .ne 4, 3) := by decide +kernel
theorem dX11_laysValues_15 : decode cX11_laysValues 15 = .ok (.return_, 1) := by decide +kernel
theorem dX11_laysValues_16 : decode cX11_laysValues 16 = .ok (.aload_n 0, 1) := by decide +kernel
theorem dX11_laysValues_17 : decode cX11_laysValues 17 = .ok (.iload_n 1, 1) := by decide +kernel
theorem dX11_laysValues_18 : decode cX11_laysValues 18 = .ok (.putfield 295, 3) := by decide +kernel
theorem dX11_laysValues_21 : decode cX11_laysValues 21 = .ok (.aload_n 0, 1) := by decide +kernel
theorem dX11_laysValues_22 : decode cX11_laysValues 22 = .ok (.iconst 0, 1) := by decide +kernel
theorem dX11_laysValues_23 : decode cX11_laysValues 23 = .ok (.putfield 298, 3) := by decide +kernel
theorem dX11_laysValues_26 : decode cX11_laysValues 26 = .ok (.aload_n 0, 1) := by decide +kernel
theorem dX11_laysValues_27 : decode cX11_laysValues 27 = .ok (.getfield 48, 3) := by decide +kernel
theorem dX11_laysValues_30 : decode cX11_laysValues 30 = .ok (.iconst 0, 1) := by decide +kernel
theorem dX11_laysValues_31 : decode cX11_laysValues 31 = .ok (.iaload, 1) := by decide +kernel
theorem dX11_laysValues_32 : decode cX11_laysValues 32 = .ok (.istore_n 2, 1) := by decide +kernel
theorem dX11_laysValues_33 : decode cX11_laysValues 33 = .ok (.iconst 0, 1) := by decide +kernel
theorem dX11_laysValues_34 : decode cX11_laysValues 34 = .ok (.istore_n 3, 1) := by decide +kernel
theorem dX11_laysValues_35 : decode cX11_laysValues 35 = .ok (.iload_n 3, 1) := by decide +kernel
theorem dX11_laysValues_36 : decode cX11_laysValues 36 = .ok (.iload_n 2, 1) := by decide +kernel
theorem dX11_laysValues_37 : decode cX11_laysValues 37 = .ok (.if_icmp .gt 16, 3) := by decide +kernel
theorem dX11_laysValues_40 : decode cX11_laysValues 40 = .ok (.aload_n 0, 1) := by decide +kernel
theorem dX11_laysValues_41 : decode cX11_laysValues 41 = .ok (.getfield 65, 3) := by decide +kernel
theorem dX11_laysValues_44 : decode cX11_laysValues 44 = .ok (.iload_n 3, 1) := by decide +kernel
theorem dX11_laysValues_45 : decode cX11_laysValues 45 = .ok (.iconst 1, 1) := by decide +kernel
theorem dX11_laysValues_46 : decode cX11_laysValues 46 = .ok (.iastore, 1) := by decide +kernel
theorem dX11_laysValues_47 : decode cX11_laysValues 47 = .ok (.iinc 3 1, 3) := by decide +kernel
theorem dX11_laysValues_50 : decode cX11_laysValues 50 = .ok (.goto (-15), 3) := by decide +kernel
theorem dX11_laysValues_53 : decode cX11_laysValues 53 = .ok (.iconst 2, 1) := by decide +kernel
theorem dX11_laysValues_54 : decode cX11_laysValues 54 = .ok (.istore_n 3, 1) := by decide +kernel
theorem dX11_laysValues_55 : decode cX11_laysValues 55 = .ok (.iload_n 3, 1) := by decide +kernel
theorem dX11_laysValues_56 : decode cX11_laysValues 56 = .ok (.iload_n 2, 1) := by decide +kernel
theorem dX11_laysValues_57 : decode cX11_laysValues 57 = .ok (.if_icmp .gt 90, 3) := by decide +kernel
theorem dX11_laysValues_60 : decode cX11_laysValues 60 = .ok (.aload_n 0, 1) := by decide +kernel
theorem dX11_laysValues_61 : decode cX11_laysValues 61 = .ok (.iload_n 3, 1) := by decide +kernel
theorem dX11_laysValues_62 : decode cX11_laysValues 62 = .ok (.invokevirtual 292, 3) := by decide +kernel
theorem dX11_laysValues_65 : decode cX11_laysValues 65 = .ok (.ifCond .ne 6, 3) := by decide +kernel
theorem dX11_laysValues_68 : decode cX11_laysValues 68 = .ok (.goto 73, 3) := by decide +kernel
theorem dX11_laysValues_71 : decode cX11_laysValues 71 = .ok (.aload_n 0, 1) := by decide +kernel
theorem dX11_laysValues_72 : decode cX11_laysValues 72 = .ok (.iload_n 3, 1) := by decide +kernel
theorem dX11_laysValues_73 : decode cX11_laysValues 73 = .ok (.iload_n 3, 1) := by decide +kernel
theorem dX11_laysValues_74 : decode cX11_laysValues 74 = .ok (.iload_n 2, 1) := by decide +kernel
theorem dX11_laysValues_75 : decode cX11_laysValues 75 = .ok (.invokestatic 301, 3) := by decide +kernel
theorem dX11_laysValues_78 : decode cX11_laysValues 78 = .ok (.iload_n 1, 1) := by decide +kernel
theorem dX11_laysValues_79 : decode cX11_laysValues 79 = .ok (.invokevirtual 278, 3) := by decide +kernel
theorem dX11_laysValues_82 : decode cX11_laysValues 82 = .ok (.iload_n 3, 1) := by decide +kernel
theorem dX11_laysValues_83 : decode cX11_laysValues 83 = .ok (.istore 4, 2) := by decide +kernel
theorem dX11_laysValues_85 : decode cX11_laysValues 85 = .ok (.iload 4, 2) := by decide +kernel
theorem dX11_laysValues_87 : decode cX11_laysValues 87 = .ok (.iload_n 2, 1) := by decide +kernel
theorem dX11_laysValues_88 : decode cX11_laysValues 88 = .ok (.if_icmp .gt 53, 3) := by decide +kernel
theorem dX11_laysValues_91 : decode cX11_laysValues 91 = .ok (.aload_n 0, 1) := by decide +kernel
theorem dX11_laysValues_92 : decode cX11_laysValues 92 = .ok (.getfield 65, 3) := by decide +kernel
theorem dX11_laysValues_95 : decode cX11_laysValues 95 = .ok (.iload 4, 2) := by decide +kernel
theorem dX11_laysValues_97 : decode cX11_laysValues 97 = .ok (.aload_n 0, 1) := by decide +kernel
theorem dX11_laysValues_98 : decode cX11_laysValues 98 = .ok (.getfield 65, 3) := by decide +kernel
theorem dX11_laysValues_101 : decode cX11_laysValues 101 = .ok (.iload 4, 2) := by decide +kernel
theorem dX11_laysValues_103 : decode cX11_laysValues 103 = .ok (.iaload, 1) := by decide +kernel
theorem dX11_laysValues_104 : decode cX11_laysValues 104 = .ok (.i2l, 1) := by decide +kernel
theorem dX11_laysValues_105 : decode cX11_laysValues 105 = .ok (.aload_n 0, 1) := by decide +kernel
theorem dX11_laysValues_106 : decode cX11_laysValues 106 = .ok (.getfield 58, 3) := by decide +kernel
theorem dX11_laysValues_109 : decode cX11_laysValues 109 = .ok (.bipush 18, 2) := by decide +kernel
theorem dX11_laysValues_111 : decode cX11_laysValues 111 = .ok (.iload_n 1, 1) := by decide +kernel
theorem dX11_laysValues_112 : decode cX11_laysValues 112 = .ok (.imul, 1) := by decide +kernel
theorem dX11_laysValues_113 : decode cX11_laysValues 113 = .ok (.iload 4, 2) := by decide +kernel
theorem dX11_laysValues_115 : decode cX11_laysValues 115 = .ok (.iload_n 3, 1) := by decide +kernel
theorem dX11_laysValues_116 : decode cX11_laysValues 116 = .ok (.invokestatic 305, 3) := by decide +kernel
theorem dX11_laysValues_119 : decode cX11_laysValues 119 = .ok (.iadd, 1) := by decide +kernel
theorem dX11_laysValues_120 : decode cX11_laysValues 120 = .ok (.laload, 1) := by decide +kernel
theorem dX11_laysValues_121 : decode cX11_laysValues 121 = .ok (.lmul, 1) := by decide +kernel
theorem dX11_laysValues_122 : decode cX11_laysValues 122 = .ok (.aload_n 0, 1) := by decide +kernel
theorem dX11_laysValues_123 : decode cX11_laysValues 123 = .ok (.getfield 48, 3) := by decide +kernel
theorem dX11_laysValues_126 : decode cX11_laysValues 126 = .ok (.iconst 1, 1) := by decide +kernel
theorem dX11_laysValues_127 : decode cX11_laysValues 127 = .ok (.iaload, 1) := by decide +kernel
theorem dX11_laysValues_128 : decode cX11_laysValues 128 = .ok (.i2l, 1) := by decide +kernel
theorem dX11_laysValues_129 : decode cX11_laysValues 129 = .ok (.lrem, 1) := by decide +kernel
theorem dX11_laysValues_130 : decode cX11_laysValues 130 = .ok (.l2i, 1) := by decide +kernel
theorem dX11_laysValues_131 : decode cX11_laysValues 131 = .ok (.iastore, 1) := by decide +kernel
theorem dX11_laysValues_132 : decode cX11_laysValues 132 = .ok (.iload 4, 2) := by decide +kernel
theorem dX11_laysValues_134 : decode cX11_laysValues 134 = .ok (.iload_n 3, 1) := by decide +kernel
theorem dX11_laysValues_135 : decode cX11_laysValues 135 = .ok (.iadd, 1) := by decide +kernel
theorem dX11_laysValues_136 : decode cX11_laysValues 136 = .ok (.istore 4, 2) := by decide +kernel
theorem dX11_laysValues_138 : decode cX11_laysValues 138 = .ok (.goto (-53), 3) := by decide +kernel
theorem dX11_laysValues_141 : decode cX11_laysValues 141 = .ok (.iinc 3 1, 3) := by decide +kernel
theorem dX11_laysValues_144 : decode cX11_laysValues 144 = .ok (.goto (-89), 3) := by decide +kernel
theorem dX11_laysValues_147 : decode cX11_laysValues 147 = .ok (.aload_n 0, 1) := by decide +kernel
theorem dX11_laysValues_148 : decode cX11_laysValues 148 = .ok (.getfield 65, 3) := by decide +kernel
theorem dX11_laysValues_151 : decode cX11_laysValues 151 = .ok (.iconst 0, 1) := by decide +kernel
theorem dX11_laysValues_152 : decode cX11_laysValues 152 = .ok (.iconst 0, 1) := by decide +kernel
theorem dX11_laysValues_153 : decode cX11_laysValues 153 = .ok (.iastore, 1) := by decide +kernel
theorem dX11_laysValues_154 : decode cX11_laysValues 154 = .ok (.return_, 1) := by decide +kernel
/-- QuotientSumsModel.laysValues(I)V -/
def wX11_laysValues (thrown : Int32) (taped : Int32) (lines : Int32) (size : Int32) (atF : Int32) (place : Int32) (sort : Int32) (value : Int32) (fault : Int32) (faultPlace : Int32) (lastFault : Int32) (lastPlace : Int32) (undoable : Int32) (hasImage : Int32) (rowOf : Int32) (areSums : Int32) (isSieved : Int32) (blocks : Int32) (drawn : Int32) (sF : Nat → Int32) (row : Nat → Int32) (marks : Nat → Int32) (power : Nat → Int64) (table : Nat → Int64) (sortOf : Nat → Int32) (first : Nat → Int32) (second : Nat → Int32) (signBy : Nat → Int32) (a1 : Int32) (Q : (Int32) → (Int32) → (Nat → Int32) → (Nat → Int64) → (Nat → Int64) → Prop) : Prop :=
  (∃ (J_1 : Prop), ((¬ rowOf = a1 → (J_1)) ∧ (rowOf = a1 → ((¬ areSums = 0 → (J_1)) ∧ (areSums = 0 → (Q rowOf areSums row power table))))) ∧ (J_1 → (∀ x2_1 : Int32, x2_1 = sF 0 → (∃ (Inv_1 : (Nat → Int32) → (Int32) → Prop) (Mea_1 : (Nat → Int32) → (Int32) → Nat), Inv_1 row 0 ∧ ∀ (row_1 : Nat → Int32) (x3_1 : Int32), Inv_1 row_1 x3_1 → ((x2_1 < x3_1 → (∃ (Inv_2 : (Nat → Int64) → (Nat → Int32) → (Nat → Int64) → (Int32) → Prop) (Mea_2 : (Nat → Int64) → (Nat → Int32) → (Nat → Int64) → (Int32) → Nat), Inv_2 power row_1 table 2 ∧ ∀ (power_1 : Nat → Int64) (row_2 : Nat → Int32) (table_1 : Nat → Int64) (x3_2 : Int32), Inv_2 power_1 row_2 table_1 x3_2 → ((x2_1 < x3_2 → (∀ row_3 : Nat → Int32, row_3 = upd row_2 0 0 → (Q a1 0 row_3 power_1 table_1))) ∧ (¬ x2_1 < x3_2 → (∃ (P_1 : (Int32) → Prop), wX11_isPrime thrown taped lines size atF place sort value fault faultPlace lastFault lastPlace undoable hasImage a1 0 isSieved blocks drawn marks x3_2 P_1 ∧ ∀ (rF_1 : Int32), P_1 rF_1 → ((¬ rF_1 = 0 → (∃ (P_2 : (Int32) → Prop), wX11_mostPower x3_2 x2_1 P_2 ∧ ∀ (rF_2 : Int32), P_2 rF_2 → ∃ (P_3 : (Nat → Int64) → (Nat → Int64) → Prop), wX11_laysPowers thrown taped lines size atF place sort value fault faultPlace lastFault lastPlace undoable hasImage a1 0 isSieved blocks drawn power_1 table_1 sortOf sF first second signBy x3_2 rF_2 a1 P_3 ∧ ∀ (power_2 : Nat → Int64) (table_2 : Nat → Int64), P_3 power_2 table_2 → (∃ (Inv_3 : (Nat → Int32) → (Int32) → Prop) (Mea_3 : (Nat → Int32) → (Int32) → Nat), Inv_3 row_2 x3_2 ∧ ∀ (row_4 : Nat → Int32) (x4_1 : Int32), Inv_3 row_4 x4_1 → ((x2_1 < x4_1 → (Inv_2 power_2 row_4 table_2 (x3_2 + 1) ∧ Mea_2 power_2 row_4 table_2 (x3_2 + 1) < Mea_2 power_1 row_2 table_1 x3_2)) ∧ (¬ x2_1 < x4_1 → (vp_in x4_1 200001 ∧ ∃ (P_4 : (Int32) → Prop), wX11_powerIn x4_1 x3_2 P_4 ∧ ∀ (rF_3 : Int32), P_4 rF_3 → vp_in ((18 * a1) + rF_3) 216 ∧ ∀ t_1 : Int64, t_1 = ((row_4 x4_1.toNatClampNeg).toInt64) * (table_2 ((18 * a1) + rF_3).toNatClampNeg) → ¬ ((sF 1).toInt64) = 0 ∧ ∀ e_1 : Int32, e_1 = (t_1 - t_1 / ((sF 1).toInt64) * ((sF 1).toInt64)).toInt32 → vp_in x4_1 200001 ∧ ∀ row_5 : Nat → Int32, row_5 = upd row_4 x4_1.toNatClampNeg e_1 → ∀ x4_2 : Int32, x4_2 = x4_1 + x3_2 → (Inv_3 row_5 x4_2 ∧ Mea_3 row_5 x4_2 < Mea_3 row_4 x4_1))))))) ∧ (rF_1 = 0 → (Inv_2 power_1 row_2 table_1 (x3_2 + 1) ∧ Mea_2 power_1 row_2 table_1 (x3_2 + 1) < Mea_2 power_1 row_2 table_1 x3_2)))))))) ∧ (¬ x2_1 < x3_1 → (vp_in x3_1 200001 ∧ ∀ row_6 : Nat → Int32, row_6 = upd row_1 x3_1.toNatClampNeg 1 → (Inv_1 row_6 (x3_1 + 1) ∧ Mea_1 row_6 (x3_1 + 1) < Mea_1 row_1 x3_1))))))))
set_option maxHeartbeats 4000000 in
set_option maxRecDepth 100000 in
theorem mX11_laysValues (l : Launch) (D : va_G) (Y : Nat → ClassId) (h0 : Nat) (thrown : Int32) (v_tape : Value) (taped : Int32) (v_number : Value) (v_isTold : Value) (v_name : Value) (q_sortOf : Nat) (q_first : Nat) (q_second : Nat) (v_degree : Value) (v_colours : Value) (q_signBy : Nat) (v_own : Value) (lines : Int32) (size : Int32) (atF : Int32) (place : Int32) (sort : Int32) (value : Int32) (fault : Int32) (faultPlace : Int32) (lastFault : Int32) (lastPlace : Int32) (q_sF : Nat) (v_kept : Value) (undoable : Int32) (hasImage : Int32) (q_power : Nat) (q_table : Nat) (q_marks : Nat) (q_row : Nat) (rowOf : Int32) (areSums : Int32) (isSieved : Int32) (v_lastOf : Value) (blocks : Int32) (v_inBlock : Value) (v_atQuotient : Value) (v_small : Value) (drawn : Int32) (sF : Nat → Int32) (row : Nat → Int32) (marks : Nat → Int32) (power : Nat → Int64) (table : Nat → Int64) (sortOf : Nat → Int32) (first : Nat → Int32) (second : Nat → Int32) (signBy : Nat → Int32) (a1 : Int32) (Q : (Int32) → (Int32) → (Nat → Int32) → (Nat → Int64) → (Nat → Int64) → Prop) (h : wX11_laysValues thrown taped lines size atF place sort value fault faultPlace lastFault lastPlace undoable hasImage rowOf areSums isSieved blocks drawn sF row marks power table sortOf first second signBy a1 Q) : gM l D Y yX11_laysValues cX11_laysValues 5 none 2 53 0 0 [.ref h0, .int a1] [oX11 h0 thrown (v_tape) taped (v_number) (v_isTold) (v_name) (.ref q_sortOf) (.ref q_first) (.ref q_second) (v_degree) (v_colours) (.ref q_signBy) (v_own) lines size atF place sort value fault faultPlace lastFault lastPlace (.ref q_sF) (v_kept) undoable hasImage (.ref q_power) (.ref q_table) (.ref q_marks) (.ref q_row) rowOf areSums isSieved (v_lastOf) blocks (v_inBlock) (v_atQuotient) (v_small) drawn, aI Y q_sF 74 sF, aI Y q_row 200001 row, aI Y q_marks 6251 marks, aJ Y q_power 18 power, aJ Y q_table 216 table, aI Y q_sortOf 24 sortOf, aI Y q_first 24 first, aI Y q_second 24 second, aI Y q_signBy 24 signBy] (fun v w => ∃ rowOf' : Int32, ∃ areSums' : Int32, ∃ row' : Nat → Int32, ∃ power' : Nat → Int64, ∃ table' : Nat → Int64, v = none ∧ w = [oX11 h0 thrown (v_tape) taped (v_number) (v_isTold) (v_name) (.ref q_sortOf) (.ref q_first) (.ref q_second) (v_degree) (v_colours) (.ref q_signBy) (v_own) lines size atF place sort value fault faultPlace lastFault lastPlace (.ref q_sF) (v_kept) undoable hasImage (.ref q_power) (.ref q_table) (.ref q_marks) (.ref q_row) rowOf' areSums' isSieved (v_lastOf) blocks (v_inBlock) (v_atQuotient) (v_small) drawn, aI Y q_sF 74 sF, aI Y q_row 200001 row', aI Y q_marks 6251 marks, aJ Y q_power 18 power', aJ Y q_table 216 table', aI Y q_sortOf 24 sortOf, aI Y q_first 24 first, aI Y q_second 24 second, aI Y q_signBy 24 signBy] ∧ Q rowOf' areSums' row' power' table') := by
  refine gM_of (own := RX11) (by decide +kernel) rfl (Nat.le_of_ble_eq_true rfl) rfl (fun E C hR => ?_)
  unfold wX11_laysValues at h
  refine g_aload_n C dX11_laysValues_0 0 rfl ?_
  refine g_get C inX11 0 rfl rfl 31 (by decide) wF_X11_295 rfl dX11_laysValues_1 ?_
  refine g_iload_n C dX11_laysValues_4 1 rfl ?_
  obtain ⟨J_1, hA, hB_J_1⟩ := h
  have key_1 : J_1 → gG E 0 0 [oX11 h0 thrown (v_tape) taped (v_number) (v_isTold) (v_name) (.ref q_sortOf) (.ref q_first) (.ref q_second) (v_degree) (v_colours) (.ref q_signBy) (v_own) lines size atF place sort value fault faultPlace lastFault lastPlace (.ref q_sF) (v_kept) undoable hasImage (.ref q_power) (.ref q_table) (.ref q_marks) (.ref q_row) rowOf areSums isSieved (v_lastOf) blocks (v_inBlock) (v_atQuotient) (v_small) drawn, aI Y q_sF 74 sF, aI Y q_row 200001 row, aI Y q_marks 6251 marks, aJ Y q_power 18 power, aJ Y q_table 216 table, aI Y q_sortOf 24 sortOf, aI Y q_first 24 first, aI Y q_second 24 second, aI Y q_signBy 24 signBy] [(0, .ref h0), (1, .int a1)] [] 16 := by
    intro  hJ
    have h := hB_J_1  hJ
    refine g_aload_n C dX11_laysValues_16 0 rfl ?_
    refine g_iload_n C dX11_laysValues_17 1 rfl ?_
    refine g_put C inX11 tyX11 tyX11_ok nmX11 0 rfl rfl 31 (by decide) wF_X11_295 rfl rfl rfl (Nat.le_of_ble_eq_true rfl) (ws' := [oX11 h0 thrown (v_tape) taped (v_number) (v_isTold) (v_name) (.ref q_sortOf) (.ref q_first) (.ref q_second) (v_degree) (v_colours) (.ref q_signBy) (v_own) lines size atF place sort value fault faultPlace lastFault lastPlace (.ref q_sF) (v_kept) undoable hasImage (.ref q_power) (.ref q_table) (.ref q_marks) (.ref q_row) a1 areSums isSieved (v_lastOf) blocks (v_inBlock) (v_atQuotient) (v_small) drawn, aI Y q_sF 74 sF, aI Y q_row 200001 row, aI Y q_marks 6251 marks, aJ Y q_power 18 power, aJ Y q_table 216 table, aI Y q_sortOf 24 sortOf, aI Y q_first 24 first, aI Y q_second 24 second, aI Y q_signBy 24 signBy]) rfl dX11_laysValues_18 ?_
    refine g_aload_n C dX11_laysValues_21 0 rfl ?_
    refine g_iconst (v := 0) C dX11_laysValues_22 rfl ?_
    refine g_put C inX11 tyX11 tyX11_ok nmX11 0 rfl rfl 32 (by decide) wF_X11_298 rfl rfl rfl (Nat.le_of_ble_eq_true rfl) (ws' := [oX11 h0 thrown (v_tape) taped (v_number) (v_isTold) (v_name) (.ref q_sortOf) (.ref q_first) (.ref q_second) (v_degree) (v_colours) (.ref q_signBy) (v_own) lines size atF place sort value fault faultPlace lastFault lastPlace (.ref q_sF) (v_kept) undoable hasImage (.ref q_power) (.ref q_table) (.ref q_marks) (.ref q_row) a1 0 isSieved (v_lastOf) blocks (v_inBlock) (v_atQuotient) (v_small) drawn, aI Y q_sF 74 sF, aI Y q_row 200001 row, aI Y q_marks 6251 marks, aJ Y q_power 18 power, aJ Y q_table 216 table, aI Y q_sortOf 24 sortOf, aI Y q_first 24 first, aI Y q_second 24 second, aI Y q_signBy 24 signBy]) rfl dX11_laysValues_23 ?_
    refine g_aload_n C dX11_laysValues_26 0 rfl ?_
    refine g_get C inX11 0 rfl rfl 23 (by decide) wF_X11_48 rfl dX11_laysValues_27 ?_
    refine g_iconst (v := 0) C dX11_laysValues_30 rfl ?_
    refine g_iald C 1 rfl (by unfold vp_in; decide) dX11_laysValues_31 ?_
    refine g_topi (fun x2_1 ex2_1 => ?_)
    replace h := h x2_1 ex2_1
    refine g_istore_n (lv' := [(2, .int x2_1), (0, .ref h0), (1, .int a1)]) C dX11_laysValues_32 (by decide) rfl ?_
    refine g_iconst (v := 0) C dX11_laysValues_33 rfl ?_
    refine g_istore_n (lv' := [(3, .int 0), (2, .int x2_1), (0, .ref h0), (1, .int a1)]) C dX11_laysValues_34 (by decide) rfl ?_
    obtain ⟨Inv_1, Mea_1, hI2, hB2⟩ := h
    have key_2 : ∀ (n : Nat) (row_1 : Nat → Int32) (x3_1 : Int32) , Mea_1 row_1 x3_1 < n → Inv_1 row_1 x3_1 → gG E 0 0 [oX11 h0 thrown (v_tape) taped (v_number) (v_isTold) (v_name) (.ref q_sortOf) (.ref q_first) (.ref q_second) (v_degree) (v_colours) (.ref q_signBy) (v_own) lines size atF place sort value fault faultPlace lastFault lastPlace (.ref q_sF) (v_kept) undoable hasImage (.ref q_power) (.ref q_table) (.ref q_marks) (.ref q_row) a1 0 isSieved (v_lastOf) blocks (v_inBlock) (v_atQuotient) (v_small) drawn, aI Y q_sF 74 sF, aI Y q_row 200001 row_1, aI Y q_marks 6251 marks, aJ Y q_power 18 power, aJ Y q_table 216 table, aI Y q_sortOf 24 sortOf, aI Y q_first 24 first, aI Y q_second 24 second, aI Y q_signBy 24 signBy] [(0, .ref h0), (1, .int a1), (2, .int x2_1), (3, .int x3_1)] [] 35 := by
      intro n
      induction n with
      | zero => exact fun _ _ hm => absurd hm (Nat.not_lt_zero _)
      | succ n ih2 =>
        intro row_1 x3_1  hm2 hI
        have h := hB2 row_1 x3_1 hI
        refine g_iload_n C dX11_laysValues_35 3 rfl ?_
        refine g_iload_n C dX11_laysValues_36 2 rfl ?_
        refine g_icmp_gt (tgt := 53) C dX11_laysValues_37 (by decide) (fun c_1 => ?_) (fun c_1 => ?_)
        · replace h := h.1 c_1
          refine g_iconst (v := 2) C dX11_laysValues_53 rfl ?_
          refine g_istore_n (lv' := [(3, .int 2), (0, .ref h0), (1, .int a1), (2, .int x2_1)]) C dX11_laysValues_54 (by decide) rfl ?_
          obtain ⟨Inv_2, Mea_2, hI3, hB3⟩ := h
          have key_3 : ∀ (n : Nat) (power_1 : Nat → Int64) (row_2 : Nat → Int32) (table_1 : Nat → Int64) (x3_2 : Int32) , Mea_2 power_1 row_2 table_1 x3_2 < n → Inv_2 power_1 row_2 table_1 x3_2 → gG E 0 0 [oX11 h0 thrown (v_tape) taped (v_number) (v_isTold) (v_name) (.ref q_sortOf) (.ref q_first) (.ref q_second) (v_degree) (v_colours) (.ref q_signBy) (v_own) lines size atF place sort value fault faultPlace lastFault lastPlace (.ref q_sF) (v_kept) undoable hasImage (.ref q_power) (.ref q_table) (.ref q_marks) (.ref q_row) a1 0 isSieved (v_lastOf) blocks (v_inBlock) (v_atQuotient) (v_small) drawn, aI Y q_sF 74 sF, aI Y q_row 200001 row_2, aI Y q_marks 6251 marks, aJ Y q_power 18 power_1, aJ Y q_table 216 table_1, aI Y q_sortOf 24 sortOf, aI Y q_first 24 first, aI Y q_second 24 second, aI Y q_signBy 24 signBy] [(0, .ref h0), (1, .int a1), (2, .int x2_1), (3, .int x3_2)] [] 55 := by
            intro n
            induction n with
            | zero => exact fun _ _ _ _ hm => absurd hm (Nat.not_lt_zero _)
            | succ n ih3 =>
              intro power_1 row_2 table_1 x3_2  hm3 hI
              have h := hB3 power_1 row_2 table_1 x3_2 hI
              refine g_iload_n C dX11_laysValues_55 3 rfl ?_
              refine g_iload_n C dX11_laysValues_56 2 rfl ?_
              refine g_icmp_gt (tgt := 147) C dX11_laysValues_57 (by decide) (fun c_2 => ?_) (fun c_2 => ?_)
              · replace h := h.1 c_2
                refine g_aload_n C dX11_laysValues_147 0 rfl ?_
                refine g_get C inX11 0 rfl rfl 30 (by decide) wF_X11_65 rfl dX11_laysValues_148 ?_
                refine g_iconst (v := 0) C dX11_laysValues_151 rfl ?_
                refine g_iconst (v := 0) C dX11_laysValues_152 rfl ?_
                refine g_iast C 2 rfl (by unfold vp_in; decide) dX11_laysValues_153 (fun row_3 erow_3 => gG.eqw (ws' := [oX11 h0 thrown (v_tape) taped (v_number) (v_isTold) (v_name) (.ref q_sortOf) (.ref q_first) (.ref q_second) (v_degree) (v_colours) (.ref q_signBy) (v_own) lines size atF place sort value fault faultPlace lastFault lastPlace (.ref q_sF) (v_kept) undoable hasImage (.ref q_power) (.ref q_table) (.ref q_marks) (.ref q_row) a1 0 isSieved (v_lastOf) blocks (v_inBlock) (v_atQuotient) (v_small) drawn, aI Y q_sF 74 sF, aI Y q_row 200001 row_3, aI Y q_marks 6251 marks, aJ Y q_power 18 power_1, aJ Y q_table 216 table_1, aI Y q_sortOf 24 sortOf, aI Y q_first 24 first, aI Y q_second 24 second, aI Y q_signBy 24 signBy]) rfl ?_)
                replace h := h row_3 erow_3
                exact g_vret C hR (Nat.le_of_ble_eq_true rfl) (Nat.le_of_ble_eq_true rfl) dX11_laysValues_154 ⟨a1, 0, row_3, power_1, table_1, rfl, rfl, h⟩
              · replace h := h.2 c_2
                refine g_aload_n C dX11_laysValues_60 0 rfl ?_
                refine g_iload_n C dX11_laysValues_61 3 rfl ?_
                obtain ⟨P_1, hP, h⟩ := h
                refine g_callV (As := [.int x3_2]) (rest := []) C (mX11_isPrime l D Y h0 thrown v_tape taped v_number v_isTold v_name (.ref q_sortOf) (.ref q_first) (.ref q_second) v_degree v_colours (.ref q_signBy) v_own lines size atF place sort value fault faultPlace lastFault lastPlace (.ref q_sF) v_kept undoable hasImage (.ref q_power) (.ref q_table) q_marks (.ref q_row) a1 0 isSieved v_lastOf blocks v_inBlock v_atQuotient v_small drawn marks x3_2 P_1 hP) dX11_laysValues_62 rfl wM_X11_292 wI_X11_isPrime wV_X11_isPrime wN_X11 wC_X11_isPrime (n := 1) (by decide +kernel) rfl (q0 := 0) rfl rfl ⟨Nat.le_of_ble_eq_true rfl, Nat.le_of_ble_eq_true rfl⟩ ⟨Nat.le_of_ble_eq_true rfl, Nat.le_of_ble_eq_true rfl⟩ (Nat.le_of_ble_eq_true rfl) [0, 3] [1, 2, 4, 5, 6, 7, 8, 9] rfl rfl rfl (fun v wc hv => ?_)
                obtain ⟨rF_1, rfl, rfl, hq⟩ := hv
                replace h := h rF_1 hq
                refine gG.perm (ws' := [oX11 h0 thrown (v_tape) taped (v_number) (v_isTold) (v_name) (.ref q_sortOf) (.ref q_first) (.ref q_second) (v_degree) (v_colours) (.ref q_signBy) (v_own) lines size atF place sort value fault faultPlace lastFault lastPlace (.ref q_sF) (v_kept) undoable hasImage (.ref q_power) (.ref q_table) (.ref q_marks) (.ref q_row) a1 0 isSieved (v_lastOf) blocks (v_inBlock) (v_atQuotient) (v_small) drawn, aI Y q_sF 74 sF, aI Y q_row 200001 row_2, aI Y q_marks 6251 marks, aJ Y q_power 18 power_1, aJ Y q_table 216 table_1, aI Y q_sortOf 24 sortOf, aI Y q_first 24 first, aI Y q_second 24 second, aI Y q_signBy 24 signBy]) [8, 0, 1, 9, 2, 3, 4, 5, 6, 7] rfl rfl ?_
                refine g_if_ne (tgt := 71) C dX11_laysValues_65 (by decide) (fun c_3 => ?_) (fun c_3 => ?_)
                · replace h := h.1 c_3
                  refine g_aload_n C dX11_laysValues_71 0 rfl ?_
                  refine g_iload_n C dX11_laysValues_72 3 rfl ?_
                  refine g_iload_n C dX11_laysValues_73 3 rfl ?_
                  refine g_iload_n C dX11_laysValues_74 2 rfl ?_
                  obtain ⟨P_2, hP, h⟩ := h
                  refine g_callS (As := [.int x3_2, .int x2_1]) (rest := [.int x3_2, .ref h0]) C (mX11_mostPower l D Y x3_2 x2_1 P_2 hP) dX11_laysValues_75 rfl wM_X11_301 wS_X11_mostPower wN_X11 wC_X11_mostPower (n := 2) (by decide +kernel) rfl ⟨Nat.le_of_ble_eq_true rfl, Nat.le_of_ble_eq_true rfl⟩ ⟨Nat.le_of_ble_eq_true rfl, Nat.le_of_ble_eq_true rfl⟩ (Nat.le_of_ble_eq_true rfl) [] [0, 1, 2, 3, 4, 5, 6, 7, 8, 9] rfl rfl rfl (fun v wc hv => ?_)
                  obtain ⟨rF_2, rfl, rfl, hq⟩ := hv
                  replace h := h rF_2 hq
                  refine gG.eqw (ws' := [oX11 h0 thrown (v_tape) taped (v_number) (v_isTold) (v_name) (.ref q_sortOf) (.ref q_first) (.ref q_second) (v_degree) (v_colours) (.ref q_signBy) (v_own) lines size atF place sort value fault faultPlace lastFault lastPlace (.ref q_sF) (v_kept) undoable hasImage (.ref q_power) (.ref q_table) (.ref q_marks) (.ref q_row) a1 0 isSieved (v_lastOf) blocks (v_inBlock) (v_atQuotient) (v_small) drawn, aI Y q_sF 74 sF, aI Y q_row 200001 row_2, aI Y q_marks 6251 marks, aJ Y q_power 18 power_1, aJ Y q_table 216 table_1, aI Y q_sortOf 24 sortOf, aI Y q_first 24 first, aI Y q_second 24 second, aI Y q_signBy 24 signBy]) rfl ?_
                  refine g_iload_n C dX11_laysValues_78 1 rfl ?_
                  obtain ⟨P_3, hP, h⟩ := h
                  refine g_callV (As := [.int x3_2, .int rF_2, .int a1]) (rest := []) C (mX11_laysPowers l D Y h0 thrown v_tape taped v_number v_isTold v_name q_sortOf q_first q_second v_degree v_colours q_signBy v_own lines size atF place sort value fault faultPlace lastFault lastPlace q_sF v_kept undoable hasImage q_power q_table (.ref q_marks) (.ref q_row) a1 0 isSieved v_lastOf blocks v_inBlock v_atQuotient v_small drawn power_1 table_1 sortOf sF first second signBy x3_2 rF_2 a1 P_3 hP) dX11_laysValues_79 rfl wM_X11_278 wI_X11_laysPowers wV_X11_laysPowers wN_X11 wC_X11_laysPowers (n := 3) (by decide +kernel) rfl (q0 := 0) rfl rfl ⟨Nat.le_of_ble_eq_true rfl, Nat.le_of_ble_eq_true rfl⟩ ⟨Nat.le_of_ble_eq_true rfl, Nat.le_of_ble_eq_true rfl⟩ (Nat.le_of_ble_eq_true rfl) [0, 4, 5, 6, 1, 7, 8, 9] [2, 3] rfl rfl rfl (fun v wc hv => ?_)
                  obtain ⟨power_2, table_2, rfl, rfl, hq⟩ := hv
                  replace h := h power_2 table_2 hq
                  refine gG.perm (ws' := [oX11 h0 thrown (v_tape) taped (v_number) (v_isTold) (v_name) (.ref q_sortOf) (.ref q_first) (.ref q_second) (v_degree) (v_colours) (.ref q_signBy) (v_own) lines size atF place sort value fault faultPlace lastFault lastPlace (.ref q_sF) (v_kept) undoable hasImage (.ref q_power) (.ref q_table) (.ref q_marks) (.ref q_row) a1 0 isSieved (v_lastOf) blocks (v_inBlock) (v_atQuotient) (v_small) drawn, aI Y q_sF 74 sF, aI Y q_row 200001 row_2, aI Y q_marks 6251 marks, aJ Y q_power 18 power_2, aJ Y q_table 216 table_2, aI Y q_sortOf 24 sortOf, aI Y q_first 24 first, aI Y q_second 24 second, aI Y q_signBy 24 signBy]) [2, 6, 0, 1, 3, 4, 5, 7, 8, 9] rfl rfl ?_
                  refine g_iload_n C dX11_laysValues_82 3 rfl ?_
                  refine g_istore (lv' := [(4, .int x3_2), (0, .ref h0), (1, .int a1), (2, .int x2_1), (3, .int x3_2)]) C dX11_laysValues_83 (by decide) rfl ?_
                  obtain ⟨Inv_3, Mea_3, hI4, hB4⟩ := h
                  have key_4 : ∀ (n : Nat) (row_4 : Nat → Int32) (x4_1 : Int32) , Mea_3 row_4 x4_1 < n → Inv_3 row_4 x4_1 → gG E 0 0 [oX11 h0 thrown (v_tape) taped (v_number) (v_isTold) (v_name) (.ref q_sortOf) (.ref q_first) (.ref q_second) (v_degree) (v_colours) (.ref q_signBy) (v_own) lines size atF place sort value fault faultPlace lastFault lastPlace (.ref q_sF) (v_kept) undoable hasImage (.ref q_power) (.ref q_table) (.ref q_marks) (.ref q_row) a1 0 isSieved (v_lastOf) blocks (v_inBlock) (v_atQuotient) (v_small) drawn, aI Y q_sF 74 sF, aI Y q_row 200001 row_4, aI Y q_marks 6251 marks, aJ Y q_power 18 power_2, aJ Y q_table 216 table_2, aI Y q_sortOf 24 sortOf, aI Y q_first 24 first, aI Y q_second 24 second, aI Y q_signBy 24 signBy] [(0, .ref h0), (1, .int a1), (2, .int x2_1), (3, .int x3_2), (4, .int x4_1)] [] 85 := by
                    intro n
                    induction n with
                    | zero => exact fun _ _ hm => absurd hm (Nat.not_lt_zero _)
                    | succ n ih4 =>
                      intro row_4 x4_1  hm4 hI
                      have h := hB4 row_4 x4_1 hI
                      refine g_iload C dX11_laysValues_85 4 rfl ?_
                      refine g_iload_n C dX11_laysValues_87 2 rfl ?_
                      refine g_icmp_gt (tgt := 141) C dX11_laysValues_88 (by decide) (fun c_4 => ?_) (fun c_4 => ?_)
                      · replace h := h.1 c_4
                        refine g_iinc (v := x3_2 + 1) (lv' := [(3, .int (x3_2 + 1)), (0, .ref h0), (1, .int a1), (2, .int x2_1), (4, .int x4_1)]) C dX11_laysValues_141 3 rfl rfl (by decide) rfl ?_
                        refine g_goto (tgt := 55) C dX11_laysValues_144 (by decide) ?_
                        refine gG.locals (lv' := [(0, .ref h0), (1, .int a1), (2, .int x2_1), (3, .int (x3_2 + 1))]) [1, 2, 3, 0] rfl ?_
                        exact ih3 power_2 row_4 table_2 (x3_2 + 1) (Nat.lt_of_lt_of_le h.2 (Nat.le_of_lt_succ hm3)) h.1
                      · replace h := h.2 c_4
                        refine g_aload_n C dX11_laysValues_91 0 rfl ?_
                        refine g_get C inX11 0 rfl rfl 30 (by decide) wF_X11_65 rfl dX11_laysValues_92 ?_
                        refine g_iload C dX11_laysValues_95 4 rfl ?_
                        refine g_aload_n C dX11_laysValues_97 0 rfl ?_
                        refine g_get C inX11 0 rfl rfl 30 (by decide) wF_X11_65 rfl dX11_laysValues_98 ?_
                        refine g_iload C dX11_laysValues_101 4 rfl ?_
                        obtain ⟨hc_1, h⟩ := h
                        refine g_iald C 2 rfl hc_1 dX11_laysValues_103 ?_
                        refine g_i2l C dX11_laysValues_104 ?_
                        refine g_aload_n C dX11_laysValues_105 0 rfl ?_
                        refine g_get C inX11 0 rfl rfl 28 (by decide) wF_X11_58 rfl dX11_laysValues_106 ?_
                        refine g_bipush (v := 18) C dX11_laysValues_109 rfl ?_
                        refine g_iload_n C dX11_laysValues_111 1 rfl ?_
                        refine g_imul C dX11_laysValues_112 ?_
                        refine g_iload C dX11_laysValues_113 4 rfl ?_
                        refine g_iload_n C dX11_laysValues_115 3 rfl ?_
                        obtain ⟨P_4, hP, h⟩ := h
                        refine g_callS (As := [.int x4_1, .int x3_2]) (rest := [.int (18 * a1), .ref q_table, .long ((row_4 x4_1.toNatClampNeg).toInt64), .int x4_1, .ref q_row]) C (mX11_powerIn l D Y x4_1 x3_2 P_4 hP) dX11_laysValues_116 rfl wM_X11_305 wS_X11_powerIn wN_X11 wC_X11_powerIn (n := 2) (by decide +kernel) rfl ⟨Nat.le_of_ble_eq_true rfl, Nat.le_of_ble_eq_true rfl⟩ ⟨Nat.le_of_ble_eq_true rfl, Nat.le_of_ble_eq_true rfl⟩ (Nat.le_of_ble_eq_true rfl) [] [0, 1, 2, 3, 4, 5, 6, 7, 8, 9] rfl rfl rfl (fun v wc hv => ?_)
                        obtain ⟨rF_3, rfl, rfl, hq⟩ := hv
                        replace h := h rF_3 hq
                        refine gG.eqw (ws' := [oX11 h0 thrown (v_tape) taped (v_number) (v_isTold) (v_name) (.ref q_sortOf) (.ref q_first) (.ref q_second) (v_degree) (v_colours) (.ref q_signBy) (v_own) lines size atF place sort value fault faultPlace lastFault lastPlace (.ref q_sF) (v_kept) undoable hasImage (.ref q_power) (.ref q_table) (.ref q_marks) (.ref q_row) a1 0 isSieved (v_lastOf) blocks (v_inBlock) (v_atQuotient) (v_small) drawn, aI Y q_sF 74 sF, aI Y q_row 200001 row_4, aI Y q_marks 6251 marks, aJ Y q_power 18 power_2, aJ Y q_table 216 table_2, aI Y q_sortOf 24 sortOf, aI Y q_first 24 first, aI Y q_second 24 second, aI Y q_signBy 24 signBy]) rfl ?_
                        refine g_iadd C dX11_laysValues_119 ?_
                        obtain ⟨hc_2, h⟩ := h
                        refine g_lald C 5 rfl hc_2 dX11_laysValues_120 ?_
                        refine g_lmul C dX11_laysValues_121 ?_
                        refine g_topl (fun t_1 et_1 => ?_)
                        replace h := h t_1 et_1
                        refine g_aload_n C dX11_laysValues_122 0 rfl ?_
                        refine g_get C inX11 0 rfl rfl 23 (by decide) wF_X11_48 rfl dX11_laysValues_123 ?_
                        refine g_iconst (v := 1) C dX11_laysValues_126 rfl ?_
                        refine g_iald C 1 rfl (by unfold vp_in; decide) dX11_laysValues_127 ?_
                        refine g_i2l C dX11_laysValues_128 ?_
                        obtain ⟨hc_3, h⟩ := h
                        refine g_lrem C dX11_laysValues_129 hc_3 ?_
                        refine g_l2i C dX11_laysValues_130 ?_
                        refine g_topi (fun e_1 ee_1 => ?_)
                        replace h := h e_1 ee_1
                        obtain ⟨hc_4, h⟩ := h
                        refine g_iast C 2 rfl hc_4 dX11_laysValues_131 (fun row_5 erow_5 => gG.eqw (ws' := [oX11 h0 thrown (v_tape) taped (v_number) (v_isTold) (v_name) (.ref q_sortOf) (.ref q_first) (.ref q_second) (v_degree) (v_colours) (.ref q_signBy) (v_own) lines size atF place sort value fault faultPlace lastFault lastPlace (.ref q_sF) (v_kept) undoable hasImage (.ref q_power) (.ref q_table) (.ref q_marks) (.ref q_row) a1 0 isSieved (v_lastOf) blocks (v_inBlock) (v_atQuotient) (v_small) drawn, aI Y q_sF 74 sF, aI Y q_row 200001 row_5, aI Y q_marks 6251 marks, aJ Y q_power 18 power_2, aJ Y q_table 216 table_2, aI Y q_sortOf 24 sortOf, aI Y q_first 24 first, aI Y q_second 24 second, aI Y q_signBy 24 signBy]) rfl ?_)
                        replace h := h row_5 erow_5
                        refine g_iload C dX11_laysValues_132 4 rfl ?_
                        refine g_iload_n C dX11_laysValues_134 3 rfl ?_
                        refine g_iadd C dX11_laysValues_135 ?_
                        refine g_topi (fun x4_2 ex4_2 => ?_)
                        replace h := h x4_2 ex4_2
                        refine g_istore (lv' := [(4, .int x4_2), (0, .ref h0), (1, .int a1), (2, .int x2_1), (3, .int x3_2)]) C dX11_laysValues_136 (by decide) rfl ?_
                        refine g_goto (tgt := 85) C dX11_laysValues_138 (by decide) ?_
                        refine gG.locals (lv' := [(0, .ref h0), (1, .int a1), (2, .int x2_1), (3, .int x3_2), (4, .int x4_2)]) [1, 2, 3, 4, 0] rfl ?_
                        exact ih4 row_5 x4_2 (Nat.lt_of_lt_of_le h.2 (Nat.le_of_lt_succ hm4)) h.1
                  refine gG.locals (lv' := [(0, .ref h0), (1, .int a1), (2, .int x2_1), (3, .int x3_2), (4, .int x3_2)]) [1, 2, 3, 4, 0] rfl ?_
                  exact key_4 (Mea_3 row_2 x3_2 + 1) row_2 x3_2 (Nat.lt_succ_self _) hI4
                · replace h := h.2 c_3
                  refine g_goto (tgt := 141) C dX11_laysValues_68 (by decide) ?_
                  refine g_iinc (v := x3_2 + 1) (lv' := [(3, .int (x3_2 + 1)), (0, .ref h0), (1, .int a1), (2, .int x2_1)]) C dX11_laysValues_141 3 rfl rfl (by decide) rfl ?_
                  refine g_goto (tgt := 55) C dX11_laysValues_144 (by decide) ?_
                  refine gG.locals (lv' := [(0, .ref h0), (1, .int a1), (2, .int x2_1), (3, .int (x3_2 + 1))]) [1, 2, 3, 0] rfl ?_
                  exact ih3 power_1 row_2 table_1 (x3_2 + 1) (Nat.lt_of_lt_of_le h.2 (Nat.le_of_lt_succ hm3)) h.1
          refine gG.locals (lv' := [(0, .ref h0), (1, .int a1), (2, .int x2_1), (3, .int 2)]) [1, 2, 3, 0] rfl ?_
          exact key_3 (Mea_2 power row_1 table 2 + 1) power row_1 table 2 (Nat.lt_succ_self _) hI3
        · replace h := h.2 c_1
          refine g_aload_n C dX11_laysValues_40 0 rfl ?_
          refine g_get C inX11 0 rfl rfl 30 (by decide) wF_X11_65 rfl dX11_laysValues_41 ?_
          refine g_iload_n C dX11_laysValues_44 3 rfl ?_
          refine g_iconst (v := 1) C dX11_laysValues_45 rfl ?_
          obtain ⟨hc_5, h⟩ := h
          refine g_iast C 2 rfl hc_5 dX11_laysValues_46 (fun row_6 erow_6 => gG.eqw (ws' := [oX11 h0 thrown (v_tape) taped (v_number) (v_isTold) (v_name) (.ref q_sortOf) (.ref q_first) (.ref q_second) (v_degree) (v_colours) (.ref q_signBy) (v_own) lines size atF place sort value fault faultPlace lastFault lastPlace (.ref q_sF) (v_kept) undoable hasImage (.ref q_power) (.ref q_table) (.ref q_marks) (.ref q_row) a1 0 isSieved (v_lastOf) blocks (v_inBlock) (v_atQuotient) (v_small) drawn, aI Y q_sF 74 sF, aI Y q_row 200001 row_6, aI Y q_marks 6251 marks, aJ Y q_power 18 power, aJ Y q_table 216 table, aI Y q_sortOf 24 sortOf, aI Y q_first 24 first, aI Y q_second 24 second, aI Y q_signBy 24 signBy]) rfl ?_)
          replace h := h row_6 erow_6
          refine g_iinc (v := x3_1 + 1) (lv' := [(3, .int (x3_1 + 1)), (0, .ref h0), (1, .int a1), (2, .int x2_1)]) C dX11_laysValues_47 3 rfl rfl (by decide) rfl ?_
          refine g_goto (tgt := 35) C dX11_laysValues_50 (by decide) ?_
          refine gG.locals (lv' := [(0, .ref h0), (1, .int a1), (2, .int x2_1), (3, .int (x3_1 + 1))]) [1, 2, 3, 0] rfl ?_
          exact ih2 row_6 (x3_1 + 1) (Nat.lt_of_lt_of_le h.2 (Nat.le_of_lt_succ hm2)) h.1
    refine gG.locals (lv' := [(0, .ref h0), (1, .int a1), (2, .int x2_1), (3, .int 0)]) [2, 3, 1, 0] rfl ?_
    exact key_2 (Mea_1 row 0 + 1) row 0 (Nat.lt_succ_self _) hI2
  replace h := hA
  refine g_icmp_ne (tgt := 16) C dX11_laysValues_5 (by decide) (fun c_5 => ?_) (fun c_5 => ?_)
  · replace h := h.1 c_5
    exact key_1 h
  · replace h := h.2 c_5
    refine g_aload_n C dX11_laysValues_8 0 rfl ?_
    refine g_get C inX11 0 rfl rfl 32 (by decide) wF_X11_298 rfl dX11_laysValues_9 ?_
    refine g_if_ne (tgt := 16) C dX11_laysValues_12 (by decide) (fun c_6 => ?_) (fun c_6 => ?_)
    · replace h := h.1 c_6
      exact key_1 h
    · replace h := h.2 c_6
      exact g_vret C hR (Nat.le_of_ble_eq_true rfl) (Nat.le_of_ble_eq_true rfl) dX11_laysValues_15 ⟨rowOf, areSums, row, power, table, rfl, rfl, h⟩
theorem dX11_laysSums_0 : decode cX11_laysSums 0 = .ok (.aload_n 0, 1) := by decide +kernel
theorem dX11_laysSums_1 : decode cX11_laysSums 1 = .ok (.getfield 295, 3) := by decide +kernel
theorem dX11_laysSums_4 : decode cX11_laysSums 4 = .ok (.iload_n 1, 1) := by decide +kernel
theorem dX11_laysSums_5 : decode cX11_laysSums 5 = .ok (.if_icmp .ne 11, 3) := by decide +kernel
theorem dX11_laysSums_8 : decode cX11_laysSums 8 = .ok (.aload_n 0, 1) := by decide +kernel
theorem dX11_laysSums_9 : decode cX11_laysSums 9 = .ok (.getfield 298, 3) := by decide +kernel
theorem dX11_laysSums_12 : decode cX11_laysSums 12 = .ok (.ifCond .eq 4, 3) := by decide +kernel
theorem dX11_laysSums_15 : decode cX11_laysSums 15 = .ok (.return_, 1) := by decide +kernel
theorem dX11_laysSums_16 : decode cX11_laysSums 16 = .ok (.aload_n 0, 1) := by decide +kernel
theorem dX11_laysSums_17 : decode cX11_laysSums 17 = .ok (.iload_n 1, 1) := by decide +kernel
theorem dX11_laysSums_18 : decode cX11_laysSums 18 = .ok (.invokevirtual 308, 3) := by decide +kernel
theorem dX11_laysSums_21 : decode cX11_laysSums 21 = .ok (.iconst 1, 1) := by decide +kernel
theorem dX11_laysSums_22 : decode cX11_laysSums 22 = .ok (.istore_n 2, 1) := by decide +kernel
theorem dX11_laysSums_23 : decode cX11_laysSums 23 = .ok (.iload_n 2, 1) := by decide +kernel
theorem dX11_laysSums_24 : decode cX11_laysSums 24 = .ok (.aload_n 0, 1) := by decide +kernel
theorem dX11_laysSums_25 : decode cX11_laysSums 25 = .ok (.getfield 48, 3) := by decide +kernel
theorem dX11_laysSums_28 : decode cX11_laysSums 28 = .ok (.iconst 0, 1) := by decide +kernel
theorem dX11_laysSums_29 : decode cX11_laysSums 29 = .ok (.iaload, 1) := by decide +kernel
theorem dX11_laysSums_30 : decode cX11_laysSums 30 = .ok (.if_icmp .gt 37, 3) := by decide +kernel
theorem dX11_laysSums_33 : decode cX11_laysSums 33 = .ok (.aload_n 0, 1) := by decide +kernel
theorem dX11_laysSums_34 : decode cX11_laysSums 34 = .ok (.getfield 65, 3) := by decide +kernel
theorem dX11_laysSums_37 : decode cX11_laysSums 37 = .ok (.iload_n 2, 1) := by decide +kernel
theorem dX11_laysSums_38 : decode cX11_laysSums 38 = .ok (.aload_n 0, 1) := by decide +kernel
theorem dX11_laysSums_39 : decode cX11_laysSums 39 = .ok (.getfield 65, 3) := by decide +kernel
theorem dX11_laysSums_42 : decode cX11_laysSums 42 = .ok (.iload_n 2, 1) := by decide +kernel
theorem dX11_laysSums_43 : decode cX11_laysSums 43 = .ok (.iaload, 1) := by decide +kernel
theorem dX11_laysSums_44 : decode cX11_laysSums 44 = .ok (.aload_n 0, 1) := by decide +kernel
theorem dX11_laysSums_45 : decode cX11_laysSums 45 = .ok (.getfield 65, 3) := by decide +kernel
theorem dX11_laysSums_48 : decode cX11_laysSums 48 = .ok (.iload_n 2, 1) := by decide +kernel
theorem dX11_laysSums_49 : decode cX11_laysSums 49 = .ok (.iconst 1, 1) := by decide +kernel
theorem dX11_laysSums_50 : decode cX11_laysSums 50 = .ok (.isub, 1) := by decide +kernel
theorem dX11_laysSums_51 : decode cX11_laysSums 51 = .ok (.iaload, 1) := by decide +kernel
theorem dX11_laysSums_52 : decode cX11_laysSums 52 = .ok (.iadd, 1) := by decide +kernel
theorem dX11_laysSums_53 : decode cX11_laysSums 53 = .ok (.aload_n 0, 1) := by decide +kernel
theorem dX11_laysSums_54 : decode cX11_laysSums 54 = .ok (.getfield 48, 3) := by decide +kernel
theorem dX11_laysSums_57 : decode cX11_laysSums 57 = .ok (.iconst 1, 1) := by decide +kernel
theorem dX11_laysSums_58 : decode cX11_laysSums 58 = .ok (.iaload, 1) := by decide +kernel
theorem dX11_laysSums_59 : decode cX11_laysSums 59 = .ok (.irem, 1) := by decide +kernel
theorem dX11_laysSums_60 : decode cX11_laysSums 60 = .ok (.iastore, 1) := by decide +kernel
theorem dX11_laysSums_61 : decode cX11_laysSums 61 = .ok (.iinc 2 1, 3) := by decide +kernel
theorem dX11_laysSums_64 : decode cX11_laysSums 64 = .ok (.goto (-41), 3) := by decide +kernel
theorem dX11_laysSums_67 : decode cX11_laysSums 67 = .ok (.aload_n 0, 1) := by decide +kernel
theorem dX11_laysSums_68 : decode cX11_laysSums 68 = .ok (.iconst 1, 1) := by decide +kernel
theorem dX11_laysSums_69 : decode cX11_laysSums 69 = .ok (.putfield 298, 3) := by decide +kernel
theorem dX11_laysSums_72 : decode cX11_laysSums 72 = .ok (.return_, 1) := by decide +kernel
/-- QuotientSumsModel.laysSums(I)V -/
def wX11_laysSums (thrown : Int32) (taped : Int32) (lines : Int32) (size : Int32) (atF : Int32) (place : Int32) (sort : Int32) (value : Int32) (fault : Int32) (faultPlace : Int32) (lastFault : Int32) (lastPlace : Int32) (undoable : Int32) (hasImage : Int32) (rowOf : Int32) (areSums : Int32) (isSieved : Int32) (blocks : Int32) (drawn : Int32) (sF : Nat → Int32) (row : Nat → Int32) (marks : Nat → Int32) (power : Nat → Int64) (table : Nat → Int64) (sortOf : Nat → Int32) (first : Nat → Int32) (second : Nat → Int32) (signBy : Nat → Int32) (a1 : Int32) (Q : (Int32) → (Int32) → (Nat → Int32) → (Nat → Int64) → (Nat → Int64) → Prop) : Prop :=
  (∃ (J_1 : Prop), ((¬ rowOf = a1 → (J_1)) ∧ (rowOf = a1 → ((areSums = 0 → (J_1)) ∧ (¬ areSums = 0 → (Q rowOf areSums row power table))))) ∧ (J_1 → (∃ (P_1 : (Int32) → (Int32) → (Nat → Int32) → (Nat → Int64) → (Nat → Int64) → Prop), wX11_laysValues thrown taped lines size atF place sort value fault faultPlace lastFault lastPlace undoable hasImage rowOf areSums isSieved blocks drawn sF row marks power table sortOf first second signBy a1 P_1 ∧ ∀ (rowOf_1 : Int32) (areSums_1 : Int32) (row_1 : Nat → Int32) (power_1 : Nat → Int64) (table_1 : Nat → Int64), P_1 rowOf_1 areSums_1 row_1 power_1 table_1 → (∃ (Inv_1 : (Nat → Int32) → (Int32) → Prop) (Mea_1 : (Nat → Int32) → (Int32) → Nat), Inv_1 row_1 1 ∧ ∀ (row_2 : Nat → Int32) (x2_1 : Int32), Inv_1 row_2 x2_1 → (((sF 0) < x2_1 → (Q rowOf_1 1 row_2 power_1 table_1)) ∧ (¬ (sF 0) < x2_1 → (vp_in x2_1 200001 ∧ vp_in (x2_1 - 1) 200001 ∧ ¬ (sF 1) = 0 ∧ ∀ t_1 : Int32, t_1 = ((row_2 x2_1.toNatClampNeg) + (row_2 (x2_1 - 1).toNatClampNeg)) - ((row_2 x2_1.toNatClampNeg) + (row_2 (x2_1 - 1).toNatClampNeg)) / (sF 1) * (sF 1) → ∀ row_3 : Nat → Int32, row_3 = upd row_2 x2_1.toNatClampNeg t_1 → (Inv_1 row_3 (x2_1 + 1) ∧ Mea_1 row_3 (x2_1 + 1) < Mea_1 row_2 x2_1))))))))
set_option maxHeartbeats 4000000 in
set_option maxRecDepth 100000 in
theorem mX11_laysSums (l : Launch) (D : va_G) (Y : Nat → ClassId) (h0 : Nat) (thrown : Int32) (v_tape : Value) (taped : Int32) (v_number : Value) (v_isTold : Value) (v_name : Value) (q_sortOf : Nat) (q_first : Nat) (q_second : Nat) (v_degree : Value) (v_colours : Value) (q_signBy : Nat) (v_own : Value) (lines : Int32) (size : Int32) (atF : Int32) (place : Int32) (sort : Int32) (value : Int32) (fault : Int32) (faultPlace : Int32) (lastFault : Int32) (lastPlace : Int32) (q_sF : Nat) (v_kept : Value) (undoable : Int32) (hasImage : Int32) (q_power : Nat) (q_table : Nat) (q_marks : Nat) (q_row : Nat) (rowOf : Int32) (areSums : Int32) (isSieved : Int32) (v_lastOf : Value) (blocks : Int32) (v_inBlock : Value) (v_atQuotient : Value) (v_small : Value) (drawn : Int32) (sF : Nat → Int32) (row : Nat → Int32) (marks : Nat → Int32) (power : Nat → Int64) (table : Nat → Int64) (sortOf : Nat → Int32) (first : Nat → Int32) (second : Nat → Int32) (signBy : Nat → Int32) (a1 : Int32) (Q : (Int32) → (Int32) → (Nat → Int32) → (Nat → Int64) → (Nat → Int64) → Prop) (h : wX11_laysSums thrown taped lines size atF place sort value fault faultPlace lastFault lastPlace undoable hasImage rowOf areSums isSieved blocks drawn sF row marks power table sortOf first second signBy a1 Q) : gM l D Y yX11_laysSums cX11_laysSums 3 none 3 77 0 0 [.ref h0, .int a1] [oX11 h0 thrown (v_tape) taped (v_number) (v_isTold) (v_name) (.ref q_sortOf) (.ref q_first) (.ref q_second) (v_degree) (v_colours) (.ref q_signBy) (v_own) lines size atF place sort value fault faultPlace lastFault lastPlace (.ref q_sF) (v_kept) undoable hasImage (.ref q_power) (.ref q_table) (.ref q_marks) (.ref q_row) rowOf areSums isSieved (v_lastOf) blocks (v_inBlock) (v_atQuotient) (v_small) drawn, aI Y q_sF 74 sF, aI Y q_row 200001 row, aI Y q_marks 6251 marks, aJ Y q_power 18 power, aJ Y q_table 216 table, aI Y q_sortOf 24 sortOf, aI Y q_first 24 first, aI Y q_second 24 second, aI Y q_signBy 24 signBy] (fun v w => ∃ rowOf' : Int32, ∃ areSums' : Int32, ∃ row' : Nat → Int32, ∃ power' : Nat → Int64, ∃ table' : Nat → Int64, v = none ∧ w = [oX11 h0 thrown (v_tape) taped (v_number) (v_isTold) (v_name) (.ref q_sortOf) (.ref q_first) (.ref q_second) (v_degree) (v_colours) (.ref q_signBy) (v_own) lines size atF place sort value fault faultPlace lastFault lastPlace (.ref q_sF) (v_kept) undoable hasImage (.ref q_power) (.ref q_table) (.ref q_marks) (.ref q_row) rowOf' areSums' isSieved (v_lastOf) blocks (v_inBlock) (v_atQuotient) (v_small) drawn, aI Y q_sF 74 sF, aI Y q_row 200001 row', aI Y q_marks 6251 marks, aJ Y q_power 18 power', aJ Y q_table 216 table', aI Y q_sortOf 24 sortOf, aI Y q_first 24 first, aI Y q_second 24 second, aI Y q_signBy 24 signBy] ∧ Q rowOf' areSums' row' power' table') := by
  refine gM_of (own := RX11) (by decide +kernel) rfl (Nat.le_of_ble_eq_true rfl) rfl (fun E C hR => ?_)
  unfold wX11_laysSums at h
  refine g_aload_n C dX11_laysSums_0 0 rfl ?_
  refine g_get C inX11 0 rfl rfl 31 (by decide) wF_X11_295 rfl dX11_laysSums_1 ?_
  refine g_iload_n C dX11_laysSums_4 1 rfl ?_
  obtain ⟨J_1, hA, hB_J_1⟩ := h
  have key_1 : J_1 → gG E 0 0 [oX11 h0 thrown (v_tape) taped (v_number) (v_isTold) (v_name) (.ref q_sortOf) (.ref q_first) (.ref q_second) (v_degree) (v_colours) (.ref q_signBy) (v_own) lines size atF place sort value fault faultPlace lastFault lastPlace (.ref q_sF) (v_kept) undoable hasImage (.ref q_power) (.ref q_table) (.ref q_marks) (.ref q_row) rowOf areSums isSieved (v_lastOf) blocks (v_inBlock) (v_atQuotient) (v_small) drawn, aI Y q_sF 74 sF, aI Y q_row 200001 row, aI Y q_marks 6251 marks, aJ Y q_power 18 power, aJ Y q_table 216 table, aI Y q_sortOf 24 sortOf, aI Y q_first 24 first, aI Y q_second 24 second, aI Y q_signBy 24 signBy] [(0, .ref h0), (1, .int a1)] [] 16 := by
    intro  hJ
    have h := hB_J_1  hJ
    refine g_aload_n C dX11_laysSums_16 0 rfl ?_
    refine g_iload_n C dX11_laysSums_17 1 rfl ?_
    obtain ⟨P_1, hP, h⟩ := h
    refine g_callV (As := [.int a1]) (rest := []) C (mX11_laysValues l D Y h0 thrown v_tape taped v_number v_isTold v_name q_sortOf q_first q_second v_degree v_colours q_signBy v_own lines size atF place sort value fault faultPlace lastFault lastPlace q_sF v_kept undoable hasImage q_power q_table q_marks q_row rowOf areSums isSieved v_lastOf blocks v_inBlock v_atQuotient v_small drawn sF row marks power table sortOf first second signBy a1 P_1 hP) dX11_laysSums_18 rfl wM_X11_308 wI_X11_laysValues wV_X11_laysValues wN_X11 wC_X11_laysValues (n := 1) (by decide +kernel) rfl (q0 := 0) rfl rfl ⟨Nat.le_of_ble_eq_true rfl, Nat.le_of_ble_eq_true rfl⟩ ⟨Nat.le_of_ble_eq_true rfl, Nat.le_of_ble_eq_true rfl⟩ (Nat.le_of_ble_eq_true rfl) [0, 1, 2, 3, 4, 5, 6, 7, 8, 9] [] rfl rfl rfl (fun v wc hv => ?_)
    obtain ⟨rowOf_1, areSums_1, row_1, power_1, table_1, rfl, rfl, hq⟩ := hv
    replace h := h rowOf_1 areSums_1 row_1 power_1 table_1 hq
    refine gG.eqw (ws' := [oX11 h0 thrown (v_tape) taped (v_number) (v_isTold) (v_name) (.ref q_sortOf) (.ref q_first) (.ref q_second) (v_degree) (v_colours) (.ref q_signBy) (v_own) lines size atF place sort value fault faultPlace lastFault lastPlace (.ref q_sF) (v_kept) undoable hasImage (.ref q_power) (.ref q_table) (.ref q_marks) (.ref q_row) rowOf_1 areSums_1 isSieved (v_lastOf) blocks (v_inBlock) (v_atQuotient) (v_small) drawn, aI Y q_sF 74 sF, aI Y q_row 200001 row_1, aI Y q_marks 6251 marks, aJ Y q_power 18 power_1, aJ Y q_table 216 table_1, aI Y q_sortOf 24 sortOf, aI Y q_first 24 first, aI Y q_second 24 second, aI Y q_signBy 24 signBy]) rfl ?_
    refine g_iconst (v := 1) C dX11_laysSums_21 rfl ?_
    refine g_istore_n (lv' := [(2, .int 1), (0, .ref h0), (1, .int a1)]) C dX11_laysSums_22 (by decide) rfl ?_
    obtain ⟨Inv_1, Mea_1, hI2, hB2⟩ := h
    have key_2 : ∀ (n : Nat) (row_2 : Nat → Int32) (x2_1 : Int32) , Mea_1 row_2 x2_1 < n → Inv_1 row_2 x2_1 → gG E 0 0 [oX11 h0 thrown (v_tape) taped (v_number) (v_isTold) (v_name) (.ref q_sortOf) (.ref q_first) (.ref q_second) (v_degree) (v_colours) (.ref q_signBy) (v_own) lines size atF place sort value fault faultPlace lastFault lastPlace (.ref q_sF) (v_kept) undoable hasImage (.ref q_power) (.ref q_table) (.ref q_marks) (.ref q_row) rowOf_1 areSums_1 isSieved (v_lastOf) blocks (v_inBlock) (v_atQuotient) (v_small) drawn, aI Y q_sF 74 sF, aI Y q_row 200001 row_2, aI Y q_marks 6251 marks, aJ Y q_power 18 power_1, aJ Y q_table 216 table_1, aI Y q_sortOf 24 sortOf, aI Y q_first 24 first, aI Y q_second 24 second, aI Y q_signBy 24 signBy] [(0, .ref h0), (2, .int x2_1)] [] 23 := by
      intro n
      induction n with
      | zero => exact fun _ _ hm => absurd hm (Nat.not_lt_zero _)
      | succ n ih2 =>
        intro row_2 x2_1  hm2 hI
        have h := hB2 row_2 x2_1 hI
        refine g_iload_n C dX11_laysSums_23 1 rfl ?_
        refine g_aload_n C dX11_laysSums_24 0 rfl ?_
        refine g_get C inX11 0 rfl rfl 23 (by decide) wF_X11_48 rfl dX11_laysSums_25 ?_
        refine g_iconst (v := 0) C dX11_laysSums_28 rfl ?_
        refine g_iald C 1 rfl (by unfold vp_in; decide) dX11_laysSums_29 ?_
        refine g_icmp_gt (tgt := 67) C dX11_laysSums_30 (by decide) (fun c_1 => ?_) (fun c_1 => ?_)
        · replace h := h.1 c_1
          refine g_aload_n C dX11_laysSums_67 0 rfl ?_
          refine g_iconst (v := 1) C dX11_laysSums_68 rfl ?_
          refine g_put C inX11 tyX11 tyX11_ok nmX11 0 rfl rfl 32 (by decide) wF_X11_298 rfl rfl rfl (Nat.le_of_ble_eq_true rfl) (ws' := [oX11 h0 thrown (v_tape) taped (v_number) (v_isTold) (v_name) (.ref q_sortOf) (.ref q_first) (.ref q_second) (v_degree) (v_colours) (.ref q_signBy) (v_own) lines size atF place sort value fault faultPlace lastFault lastPlace (.ref q_sF) (v_kept) undoable hasImage (.ref q_power) (.ref q_table) (.ref q_marks) (.ref q_row) rowOf_1 1 isSieved (v_lastOf) blocks (v_inBlock) (v_atQuotient) (v_small) drawn, aI Y q_sF 74 sF, aI Y q_row 200001 row_2, aI Y q_marks 6251 marks, aJ Y q_power 18 power_1, aJ Y q_table 216 table_1, aI Y q_sortOf 24 sortOf, aI Y q_first 24 first, aI Y q_second 24 second, aI Y q_signBy 24 signBy]) rfl dX11_laysSums_69 ?_
          exact g_vret C hR (Nat.le_of_ble_eq_true rfl) (Nat.le_of_ble_eq_true rfl) dX11_laysSums_72 ⟨rowOf_1, 1, row_2, power_1, table_1, rfl, rfl, h⟩
        · replace h := h.2 c_1
          refine g_aload_n C dX11_laysSums_33 0 rfl ?_
          refine g_get C inX11 0 rfl rfl 30 (by decide) wF_X11_65 rfl dX11_laysSums_34 ?_
          refine g_iload_n C dX11_laysSums_37 1 rfl ?_
          refine g_aload_n C dX11_laysSums_38 0 rfl ?_
          refine g_get C inX11 0 rfl rfl 30 (by decide) wF_X11_65 rfl dX11_laysSums_39 ?_
          refine g_iload_n C dX11_laysSums_42 1 rfl ?_
          obtain ⟨hc_1, h⟩ := h
          refine g_iald C 2 rfl hc_1 dX11_laysSums_43 ?_
          refine g_aload_n C dX11_laysSums_44 0 rfl ?_
          refine g_get C inX11 0 rfl rfl 30 (by decide) wF_X11_65 rfl dX11_laysSums_45 ?_
          refine g_iload_n C dX11_laysSums_48 1 rfl ?_
          refine g_iconst (v := 1) C dX11_laysSums_49 rfl ?_
          refine g_isub C dX11_laysSums_50 ?_
          obtain ⟨hc_2, h⟩ := h
          refine g_iald C 2 rfl hc_2 dX11_laysSums_51 ?_
          refine g_iadd C dX11_laysSums_52 ?_
          refine g_aload_n C dX11_laysSums_53 0 rfl ?_
          refine g_get C inX11 0 rfl rfl 23 (by decide) wF_X11_48 rfl dX11_laysSums_54 ?_
          refine g_iconst (v := 1) C dX11_laysSums_57 rfl ?_
          refine g_iald C 1 rfl (by unfold vp_in; decide) dX11_laysSums_58 ?_
          obtain ⟨hc_3, h⟩ := h
          refine g_irem C dX11_laysSums_59 hc_3 ?_
          refine g_topi (fun t_1 et_1 => ?_)
          replace h := h t_1 et_1
          refine g_iast C 2 rfl hc_1 dX11_laysSums_60 (fun row_3 erow_3 => gG.eqw (ws' := [oX11 h0 thrown (v_tape) taped (v_number) (v_isTold) (v_name) (.ref q_sortOf) (.ref q_first) (.ref q_second) (v_degree) (v_colours) (.ref q_signBy) (v_own) lines size atF place sort value fault faultPlace lastFault lastPlace (.ref q_sF) (v_kept) undoable hasImage (.ref q_power) (.ref q_table) (.ref q_marks) (.ref q_row) rowOf_1 areSums_1 isSieved (v_lastOf) blocks (v_inBlock) (v_atQuotient) (v_small) drawn, aI Y q_sF 74 sF, aI Y q_row 200001 row_3, aI Y q_marks 6251 marks, aJ Y q_power 18 power_1, aJ Y q_table 216 table_1, aI Y q_sortOf 24 sortOf, aI Y q_first 24 first, aI Y q_second 24 second, aI Y q_signBy 24 signBy]) rfl ?_)
          replace h := h row_3 erow_3
          refine g_iinc (v := x2_1 + 1) (lv' := [(2, .int (x2_1 + 1)), (0, .ref h0)]) C dX11_laysSums_61 1 rfl rfl (by decide) rfl ?_
          refine g_goto (tgt := 23) C dX11_laysSums_64 (by decide) ?_
          refine gG.locals (lv' := [(0, .ref h0), (2, .int (x2_1 + 1))]) [1, 0] rfl ?_
          exact ih2 row_3 (x2_1 + 1) (Nat.lt_of_lt_of_le h.2 (Nat.le_of_lt_succ hm2)) h.1
    refine gG.locals (lv' := [(0, .ref h0), (2, .int 1)]) [1, 0] rfl ?_
    exact key_2 (Mea_1 row_1 1 + 1) row_1 1 (Nat.lt_succ_self _) hI2
  replace h := hA
  refine g_icmp_ne (tgt := 16) C dX11_laysSums_5 (by decide) (fun c_2 => ?_) (fun c_2 => ?_)
  · replace h := h.1 c_2
    exact key_1 h
  · replace h := h.2 c_2
    refine g_aload_n C dX11_laysSums_8 0 rfl ?_
    refine g_get C inX11 0 rfl rfl 32 (by decide) wF_X11_298 rfl dX11_laysSums_9 ?_
    refine g_if_eq (tgt := 16) C dX11_laysSums_12 (by decide) (fun c_3 => ?_) (fun c_3 => ?_)
    · replace h := h.1 c_3
      exact key_1 h
    · replace h := h.2 c_3
      exact g_vret C hR (Nat.le_of_ble_eq_true rfl) (Nat.le_of_ble_eq_true rfl) dX11_laysSums_15 ⟨rowOf, areSums, row, power, table, rfl, rfl, h⟩
theorem dX11_sum_0 : decode cX11_sum 0 = .ok (.aload_n 0, 1) := by decide +kernel
theorem dX11_sum_1 : decode cX11_sum 1 = .ok (.iconst 0, 1) := by decide +kernel
theorem dX11_sum_2 : decode cX11_sum 2 = .ok (.putfield 89, 3) := by decide +kernel
theorem dX11_sum_5 : decode cX11_sum 5 = .ok (.aload_n 0, 1) := by decide +kernel
theorem dX11_sum_6 : decode cX11_sum 6 = .ok (.iload_n 1, 1) := by decide +kernel
theorem dX11_sum_7 : decode cX11_sum 7 = .ok (.invokevirtual 241, 3) := by decide +kernel
theorem dX11_sum_10 : decode cX11_sum 10 = .ok (.ifCond .eq 12, 3) := by decide +kernel
theorem dX11_sum_13 : decode cX11_sum 13 = .ok (.aload_n 0, 1) := by decide +kernel
theorem dX11_sum_14 : decode cX11_sum 14 = .ok (.iload_n 2, 1) := by decide +kernel
theorem dX11_sum_15 : decode cX11_sum 15 = .ok (.iconst 0, 1) := by decide +kernel
theorem dX11_sum_16 : decode cX11_sum 16 = .ok (.invokevirtual 282, 3) := by decide +kernel
theorem dX11_sum_19 : decode cX11_sum 19 = .ok (.ifCond .ne 5, 3) := by decide +kernel
theorem dX11_sum_22 : decode cX11_sum 22 = .ok (.iconst (-1), 1) := by decide +kernel
theorem dX11_sum_23 : decode cX11_sum 23 = .ok (.ireturn, 1) := by decide +kernel
theorem dX11_sum_24 : decode cX11_sum 24 = .ok (.aload_n 0, 1) := by decide +kernel
theorem dX11_sum_25 : decode cX11_sum 25 = .ok (.iload_n 1, 1) := by decide +kernel
theorem dX11_sum_26 : decode cX11_sum 26 = .ok (.invokevirtual 311, 3) := by decide +kernel
theorem dX11_sum_29 : decode cX11_sum 29 = .ok (.aload_n 0, 1) := by decide +kernel
theorem dX11_sum_30 : decode cX11_sum 30 = .ok (.getfield 65, 3) := by decide +kernel
theorem dX11_sum_33 : decode cX11_sum 33 = .ok (.iload_n 2, 1) := by decide +kernel
theorem dX11_sum_34 : decode cX11_sum 34 = .ok (.iaload, 1) := by decide +kernel
theorem dX11_sum_35 : decode cX11_sum 35 = .ok (.ireturn, 1) := by decide +kernel
/-- QuotientSumsModel.sum(II)I -/
def wX11_sum (thrown : Int32) (taped : Int32) (lines : Int32) (size : Int32) (atF : Int32) (place : Int32) (sort : Int32) (value : Int32) (fault : Int32) (faultPlace : Int32) (lastFault : Int32) (lastPlace : Int32) (undoable : Int32) (hasImage : Int32) (rowOf : Int32) (areSums : Int32) (isSieved : Int32) (blocks : Int32) (drawn : Int32) (number : Nat → Int32) (sF : Nat → Int32) (row : Nat → Int32) (marks : Nat → Int32) (power : Nat → Int64) (table : Nat → Int64) (sortOf : Nat → Int32) (first : Nat → Int32) (second : Nat → Int32) (signBy : Nat → Int32) (a1 : Int32) (a2 : Int32) (Q : (Int32) → (Int32) → (Int32) → (Int32) → (Nat → Int32) → (Nat → Int64) → (Nat → Int64) → Prop) : Prop :=
  (∃ (P_1 : (Int32) → Prop), wX11_isFunction 0 taped lines size atF place sort value fault faultPlace lastFault lastPlace undoable hasImage rowOf areSums isSieved blocks drawn number a1 P_1 ∧ ∀ (rF_1 : Int32), P_1 rF_1 → ((rF_1 = 0 → (Q (-1) 0 rowOf areSums row power table)) ∧ (¬ rF_1 = 0 → (∃ (P_2 : (Int32) → Prop), wX11_isIn 0 taped lines size atF place sort value fault faultPlace lastFault lastPlace undoable hasImage rowOf areSums isSieved blocks drawn sF a2 0 P_2 ∧ ∀ (rF_2 : Int32), P_2 rF_2 → ((¬ rF_2 = 0 → (∃ (P_3 : (Int32) → (Int32) → (Nat → Int32) → (Nat → Int64) → (Nat → Int64) → Prop), wX11_laysSums 0 taped lines size atF place sort value fault faultPlace lastFault lastPlace undoable hasImage rowOf areSums isSieved blocks drawn sF row marks power table sortOf first second signBy a1 P_3 ∧ ∀ (rowOf_1 : Int32) (areSums_1 : Int32) (row_1 : Nat → Int32) (power_1 : Nat → Int64) (table_1 : Nat → Int64), P_3 rowOf_1 areSums_1 row_1 power_1 table_1 → vp_in a2 200001 ∧ (Q (row_1 a2.toNatClampNeg) 0 rowOf_1 areSums_1 row_1 power_1 table_1))) ∧ (rF_2 = 0 → (Q (-1) 0 rowOf areSums row power table)))))))
set_option maxHeartbeats 4000000 in
set_option maxRecDepth 100000 in
theorem mX11_sum (l : Launch) (D : va_G) (Y : Nat → ClassId) (h0 : Nat) (thrown : Int32) (v_tape : Value) (taped : Int32) (q_number : Nat) (v_isTold : Value) (v_name : Value) (q_sortOf : Nat) (q_first : Nat) (q_second : Nat) (v_degree : Value) (v_colours : Value) (q_signBy : Nat) (v_own : Value) (lines : Int32) (size : Int32) (atF : Int32) (place : Int32) (sort : Int32) (value : Int32) (fault : Int32) (faultPlace : Int32) (lastFault : Int32) (lastPlace : Int32) (q_sF : Nat) (v_kept : Value) (undoable : Int32) (hasImage : Int32) (q_power : Nat) (q_table : Nat) (q_marks : Nat) (q_row : Nat) (rowOf : Int32) (areSums : Int32) (isSieved : Int32) (v_lastOf : Value) (blocks : Int32) (v_inBlock : Value) (v_atQuotient : Value) (v_small : Value) (drawn : Int32) (number : Nat → Int32) (sF : Nat → Int32) (row : Nat → Int32) (marks : Nat → Int32) (power : Nat → Int64) (table : Nat → Int64) (sortOf : Nat → Int32) (first : Nat → Int32) (second : Nat → Int32) (signBy : Nat → Int32) (a1 : Int32) (a2 : Int32) (Q : (Int32) → (Int32) → (Int32) → (Int32) → (Nat → Int32) → (Nat → Int64) → (Nat → Int64) → Prop) (h : wX11_sum thrown taped lines size atF place sort value fault faultPlace lastFault lastPlace undoable hasImage rowOf areSums isSieved blocks drawn number sF row marks power table sortOf first second signBy a1 a2 Q) : gM l D Y yX11_sum cX11_sum 3 (some .int) 4 99 0 0 [.ref h0, .int a1, .int a2] [oX11 h0 thrown (v_tape) taped (.ref q_number) (v_isTold) (v_name) (.ref q_sortOf) (.ref q_first) (.ref q_second) (v_degree) (v_colours) (.ref q_signBy) (v_own) lines size atF place sort value fault faultPlace lastFault lastPlace (.ref q_sF) (v_kept) undoable hasImage (.ref q_power) (.ref q_table) (.ref q_marks) (.ref q_row) rowOf areSums isSieved (v_lastOf) blocks (v_inBlock) (v_atQuotient) (v_small) drawn, aI Y q_number 8 number, aI Y q_sF 74 sF, aI Y q_row 200001 row, aI Y q_marks 6251 marks, aJ Y q_power 18 power, aJ Y q_table 216 table, aI Y q_sortOf 24 sortOf, aI Y q_first 24 first, aI Y q_second 24 second, aI Y q_signBy 24 signBy] (fun v w => ∃ r : Int32, ∃ thrown' : Int32, ∃ rowOf' : Int32, ∃ areSums' : Int32, ∃ row' : Nat → Int32, ∃ power' : Nat → Int64, ∃ table' : Nat → Int64, v = some (.int r) ∧ w = [oX11 h0 thrown' (v_tape) taped (.ref q_number) (v_isTold) (v_name) (.ref q_sortOf) (.ref q_first) (.ref q_second) (v_degree) (v_colours) (.ref q_signBy) (v_own) lines size atF place sort value fault faultPlace lastFault lastPlace (.ref q_sF) (v_kept) undoable hasImage (.ref q_power) (.ref q_table) (.ref q_marks) (.ref q_row) rowOf' areSums' isSieved (v_lastOf) blocks (v_inBlock) (v_atQuotient) (v_small) drawn, aI Y q_number 8 number, aI Y q_sF 74 sF, aI Y q_row 200001 row', aI Y q_marks 6251 marks, aJ Y q_power 18 power', aJ Y q_table 216 table', aI Y q_sortOf 24 sortOf, aI Y q_first 24 first, aI Y q_second 24 second, aI Y q_signBy 24 signBy] ∧ Q r thrown' rowOf' areSums' row' power' table') := by
  refine gM_of (own := RX11) (by decide +kernel) rfl (Nat.le_of_ble_eq_true rfl) rfl (fun E C hR => ?_)
  unfold wX11_sum at h
  refine g_aload_n C dX11_sum_0 0 rfl ?_
  refine g_iconst (v := 0) C dX11_sum_1 rfl ?_
  refine g_put C inX11 tyX11 tyX11_ok nmX11 0 rfl rfl 0 (by decide) wF_X11_89 rfl rfl rfl (Nat.le_of_ble_eq_true rfl) (ws' := [oX11 h0 0 (v_tape) taped (.ref q_number) (v_isTold) (v_name) (.ref q_sortOf) (.ref q_first) (.ref q_second) (v_degree) (v_colours) (.ref q_signBy) (v_own) lines size atF place sort value fault faultPlace lastFault lastPlace (.ref q_sF) (v_kept) undoable hasImage (.ref q_power) (.ref q_table) (.ref q_marks) (.ref q_row) rowOf areSums isSieved (v_lastOf) blocks (v_inBlock) (v_atQuotient) (v_small) drawn, aI Y q_number 8 number, aI Y q_sF 74 sF, aI Y q_row 200001 row, aI Y q_marks 6251 marks, aJ Y q_power 18 power, aJ Y q_table 216 table, aI Y q_sortOf 24 sortOf, aI Y q_first 24 first, aI Y q_second 24 second, aI Y q_signBy 24 signBy]) rfl dX11_sum_2 ?_
  refine g_aload_n C dX11_sum_5 0 rfl ?_
  refine g_iload_n C dX11_sum_6 1 rfl ?_
  obtain ⟨P_1, hP, h⟩ := h
  refine g_callV (As := [.int a1]) (rest := []) C (mX11_isFunction l D Y h0 0 v_tape taped q_number v_isTold v_name (.ref q_sortOf) (.ref q_first) (.ref q_second) v_degree v_colours (.ref q_signBy) v_own lines size atF place sort value fault faultPlace lastFault lastPlace (.ref q_sF) v_kept undoable hasImage (.ref q_power) (.ref q_table) (.ref q_marks) (.ref q_row) rowOf areSums isSieved v_lastOf blocks v_inBlock v_atQuotient v_small drawn number a1 P_1 hP) dX11_sum_7 rfl wM_X11_241 wI_X11_isFunction wV_X11_isFunction wN_X11 wC_X11_isFunction (n := 1) (by decide +kernel) rfl (q0 := 0) rfl rfl ⟨Nat.le_of_ble_eq_true rfl, Nat.le_of_ble_eq_true rfl⟩ ⟨Nat.le_of_ble_eq_true rfl, Nat.le_of_ble_eq_true rfl⟩ (Nat.le_of_ble_eq_true rfl) [0, 1] [2, 3, 4, 5, 6, 7, 8, 9, 10] rfl rfl rfl (fun v wc hv => ?_)
  obtain ⟨rF_1, rfl, rfl, hq⟩ := hv
  replace h := h rF_1 hq
  refine gG.perm (ws' := [oX11 h0 0 (v_tape) taped (.ref q_number) (v_isTold) (v_name) (.ref q_sortOf) (.ref q_first) (.ref q_second) (v_degree) (v_colours) (.ref q_signBy) (v_own) lines size atF place sort value fault faultPlace lastFault lastPlace (.ref q_sF) (v_kept) undoable hasImage (.ref q_power) (.ref q_table) (.ref q_marks) (.ref q_row) rowOf areSums isSieved (v_lastOf) blocks (v_inBlock) (v_atQuotient) (v_small) drawn, aI Y q_number 8 number, aI Y q_sF 74 sF, aI Y q_row 200001 row, aI Y q_marks 6251 marks, aJ Y q_power 18 power, aJ Y q_table 216 table, aI Y q_sortOf 24 sortOf, aI Y q_first 24 first, aI Y q_second 24 second, aI Y q_signBy 24 signBy]) [9, 10, 0, 1, 2, 3, 4, 5, 6, 7, 8] rfl rfl ?_
  refine g_if_eq (tgt := 22) C dX11_sum_10 (by decide) (fun c_1 => ?_) (fun c_1 => ?_)
  · replace h := h.1 c_1
    refine g_iconst (v := (-1)) C dX11_sum_22 rfl ?_
    exact g_iret C hR (Nat.le_of_ble_eq_true rfl) (Nat.le_of_ble_eq_true rfl) dX11_sum_23 ⟨(-1), 0, rowOf, areSums, row, power, table, rfl, rfl, h⟩
  · replace h := h.2 c_1
    refine g_aload_n C dX11_sum_13 0 rfl ?_
    refine g_iload_n C dX11_sum_14 2 rfl ?_
    refine g_iconst (v := 0) C dX11_sum_15 rfl ?_
    obtain ⟨P_2, hP, h⟩ := h
    refine g_callV (As := [.int a2, .int 0]) (rest := []) C (mX11_isIn l D Y h0 0 v_tape taped (.ref q_number) v_isTold v_name (.ref q_sortOf) (.ref q_first) (.ref q_second) v_degree v_colours (.ref q_signBy) v_own lines size atF place sort value fault faultPlace lastFault lastPlace q_sF v_kept undoable hasImage (.ref q_power) (.ref q_table) (.ref q_marks) (.ref q_row) rowOf areSums isSieved v_lastOf blocks v_inBlock v_atQuotient v_small drawn sF a2 0 P_2 hP) dX11_sum_16 rfl wM_X11_282 wI_X11_isIn wV_X11_isIn wN_X11 wC_X11_isIn (n := 2) (by decide +kernel) rfl (q0 := 0) rfl rfl ⟨Nat.le_of_ble_eq_true rfl, Nat.le_of_ble_eq_true rfl⟩ ⟨Nat.le_of_ble_eq_true rfl, Nat.le_of_ble_eq_true rfl⟩ (Nat.le_of_ble_eq_true rfl) [0, 2] [1, 3, 4, 5, 6, 7, 8, 9, 10] rfl rfl rfl (fun v wc hv => ?_)
    obtain ⟨rF_2, rfl, rfl, hq⟩ := hv
    replace h := h rF_2 hq
    refine gG.perm (ws' := [oX11 h0 0 (v_tape) taped (.ref q_number) (v_isTold) (v_name) (.ref q_sortOf) (.ref q_first) (.ref q_second) (v_degree) (v_colours) (.ref q_signBy) (v_own) lines size atF place sort value fault faultPlace lastFault lastPlace (.ref q_sF) (v_kept) undoable hasImage (.ref q_power) (.ref q_table) (.ref q_marks) (.ref q_row) rowOf areSums isSieved (v_lastOf) blocks (v_inBlock) (v_atQuotient) (v_small) drawn, aI Y q_number 8 number, aI Y q_sF 74 sF, aI Y q_row 200001 row, aI Y q_marks 6251 marks, aJ Y q_power 18 power, aJ Y q_table 216 table, aI Y q_sortOf 24 sortOf, aI Y q_first 24 first, aI Y q_second 24 second, aI Y q_signBy 24 signBy]) [9, 0, 10, 1, 2, 3, 4, 5, 6, 7, 8] rfl rfl ?_
    refine g_if_ne (tgt := 24) C dX11_sum_19 (by decide) (fun c_2 => ?_) (fun c_2 => ?_)
    · replace h := h.1 c_2
      refine g_aload_n C dX11_sum_24 0 rfl ?_
      refine g_iload_n C dX11_sum_25 1 rfl ?_
      obtain ⟨P_3, hP, h⟩ := h
      refine g_callV (As := [.int a1]) (rest := []) C (mX11_laysSums l D Y h0 0 v_tape taped (.ref q_number) v_isTold v_name q_sortOf q_first q_second v_degree v_colours q_signBy v_own lines size atF place sort value fault faultPlace lastFault lastPlace q_sF v_kept undoable hasImage q_power q_table q_marks q_row rowOf areSums isSieved v_lastOf blocks v_inBlock v_atQuotient v_small drawn sF row marks power table sortOf first second signBy a1 P_3 hP) dX11_sum_26 rfl wM_X11_311 wI_X11_laysSums wV_X11_laysSums wN_X11 wC_X11_laysSums (n := 1) (by decide +kernel) rfl (q0 := 0) rfl rfl ⟨Nat.le_of_ble_eq_true rfl, Nat.le_of_ble_eq_true rfl⟩ ⟨Nat.le_of_ble_eq_true rfl, Nat.le_of_ble_eq_true rfl⟩ (Nat.le_of_ble_eq_true rfl) [0, 2, 3, 4, 5, 6, 7, 8, 9, 10] [1] rfl rfl rfl (fun v wc hv => ?_)
      obtain ⟨rowOf_1, areSums_1, row_1, power_1, table_1, rfl, rfl, hq⟩ := hv
      replace h := h rowOf_1 areSums_1 row_1 power_1 table_1 hq
      refine gG.perm (ws' := [oX11 h0 0 (v_tape) taped (.ref q_number) (v_isTold) (v_name) (.ref q_sortOf) (.ref q_first) (.ref q_second) (v_degree) (v_colours) (.ref q_signBy) (v_own) lines size atF place sort value fault faultPlace lastFault lastPlace (.ref q_sF) (v_kept) undoable hasImage (.ref q_power) (.ref q_table) (.ref q_marks) (.ref q_row) rowOf_1 areSums_1 isSieved (v_lastOf) blocks (v_inBlock) (v_atQuotient) (v_small) drawn, aI Y q_number 8 number, aI Y q_sF 74 sF, aI Y q_row 200001 row_1, aI Y q_marks 6251 marks, aJ Y q_power 18 power_1, aJ Y q_table 216 table_1, aI Y q_sortOf 24 sortOf, aI Y q_first 24 first, aI Y q_second 24 second, aI Y q_signBy 24 signBy]) [1, 0, 2, 3, 4, 5, 6, 7, 8, 9, 10] rfl rfl ?_
      refine g_aload_n C dX11_sum_29 0 rfl ?_
      refine g_get C inX11 0 rfl rfl 30 (by decide) wF_X11_65 rfl dX11_sum_30 ?_
      refine g_iload_n C dX11_sum_33 2 rfl ?_
      obtain ⟨hc_1, h⟩ := h
      refine g_iald C 3 rfl hc_1 dX11_sum_34 ?_
      exact g_iret C hR (Nat.le_of_ble_eq_true rfl) (Nat.le_of_ble_eq_true rfl) dX11_sum_35 ⟨row_1 a2.toNatClampNeg, 0, rowOf_1, areSums_1, row_1, power_1, table_1, rfl, rfl, h⟩
    · replace h := h.2 c_2
      refine g_iconst (v := (-1)) C dX11_sum_22 rfl ?_
      exact g_iret C hR (Nat.le_of_ble_eq_true rfl) (Nat.le_of_ble_eq_true rfl) dX11_sum_23 ⟨(-1), 0, rowOf, areSums, row, power, table, rfl, rfl, h⟩
theorem dX11_range_0 : decode cX11_range 0 = .ok (.aload_n 0, 1) := by decide +kernel
theorem dX11_range_1 : decode cX11_range 1 = .ok (.iconst 0, 1) := by decide +kernel
theorem dX11_range_2 : decode cX11_range 2 = .ok (.putfield 89, 3) := by decide +kernel
theorem dX11_range_5 : decode cX11_range 5 = .ok (.aload_n 0, 1) := by decide +kernel
theorem dX11_range_6 : decode cX11_range 6 = .ok (.iload_n 1, 1) := by decide +kernel
theorem dX11_range_7 : decode cX11_range 7 = .ok (.invokevirtual 241, 3) := by decide +kernel
theorem dX11_range_10 : decode cX11_range 10 = .ok (.ifCond .eq 26, 3) := by decide +kernel
theorem dX11_range_13 : decode cX11_range 13 = .ok (.aload_n 0, 1) := by decide +kernel
theorem dX11_range_14 : decode cX11_range 14 = .ok (.iload_n 2, 1) := by decide +kernel
theorem dX11_range_15 : decode cX11_range 15 = .ok (.iconst 1, 1) := by decide +kernel
theorem dX11_range_16 : decode cX11_range 16 = .ok (.invokevirtual 282, 3) := by decide +kernel
theorem dX11_range_19 : decode cX11_range 19 = .ok (.ifCond .eq 17, 3) := by decide +kernel
theorem dX11_range_22 : decode cX11_range 22 = .ok (.aload_n 0, 1) := by decide +kernel
theorem dX11_range_23 : decode cX11_range 23 = .ok (.iload_n 3, 1) := by decide +kernel
theorem dX11_range_24 : decode cX11_range 24 = .ok (.iconst 1, 1) := by decide +kernel
theorem dX11_range_25 : decode cX11_range 25 = .ok (.invokevirtual 282, 3) := by decide +kernel
theorem dX11_range_28 : decode cX11_range 28 = .ok (.ifCond .eq 8, 3) := by decide +kernel
theorem dX11_range_31 : decode cX11_range 31 = .ok (.iload_n 2, 1) := by decide +kernel
theorem dX11_range_32 : decode cX11_range 32 = .ok (.iload_n 3, 1) := by decide +kernel
theorem dX11_range_33 : decode cX11_range 33 = .ok (.if_icmp .le 5, 3) := by decide +kernel
theorem dX11_range_36 : decode cX11_range 36 = .ok (.iconst (-1), 1) := by decide +kernel
theorem dX11_range_37 : decode cX11_range 37 = .ok (.ireturn, 1) := by decide +kernel
theorem dX11_range_38 : decode cX11_range 38 = .ok (.aload_n 0, 1) := by decide +kernel
theorem dX11_range_39 : decode cX11_range 39 = .ok (.iload_n 1, 1) := by decide +kernel
theorem dX11_range_40 : decode cX11_range 40 = .ok (.invokevirtual 311, 3) := by decide +kernel
theorem dX11_range_43 : decode cX11_range 43 = .ok (.aload_n 0, 1) := by decide +kernel
theorem dX11_range_44 : decode cX11_range 44 = .ok (.aload_n 0, 1) := by decide +kernel
theorem dX11_range_45 : decode cX11_range 45 = .ok (.getfield 65, 3) := by decide +kernel
theorem dX11_range_48 : decode cX11_range 48 = .ok (.iload_n 3, 1) := by decide +kernel
theorem dX11_range_49 : decode cX11_range 49 = .ok (.iaload, 1) := by decide +kernel
theorem dX11_range_50 : decode cX11_range 50 = .ok (.aload_n 0, 1) := by decide +kernel
theorem dX11_range_51 : decode cX11_range 51 = .ok (.getfield 65, 3) := by decide +kernel
theorem dX11_range_54 : decode cX11_range 54 = .ok (.iload_n 2, 1) := by decide +kernel
theorem dX11_range_55 : decode cX11_range 55 = .ok (.iconst 1, 1) := by decide +kernel
theorem dX11_range_56 : decode cX11_range 56 = .ok (.isub, 1) := by decide +kernel
theorem dX11_range_57 : decode cX11_range 57 = .ok (.iaload, 1) := by decide +kernel
theorem dX11_range_58 : decode cX11_range 58 = .ok (.isub, 1) := by decide +kernel
theorem dX11_range_59 : decode cX11_range 59 = .ok (.i2l, 1) := by decide +kernel
theorem dX11_range_60 : decode cX11_range 60 = .ok (.invokevirtual 256, 3) := by decide +kernel
theorem dX11_range_63 : decode cX11_range 63 = .ok (.l2i, 1) := by decide +kernel
theorem dX11_range_64 : decode cX11_range 64 = .ok (.ireturn, 1) := by decide +kernel
/-- QuotientSumsModel.range(III)I -/
def wX11_range (thrown : Int32) (taped : Int32) (lines : Int32) (size : Int32) (atF : Int32) (place : Int32) (sort : Int32) (value : Int32) (fault : Int32) (faultPlace : Int32) (lastFault : Int32) (lastPlace : Int32) (undoable : Int32) (hasImage : Int32) (rowOf : Int32) (areSums : Int32) (isSieved : Int32) (blocks : Int32) (drawn : Int32) (number : Nat → Int32) (sF : Nat → Int32) (row : Nat → Int32) (marks : Nat → Int32) (power : Nat → Int64) (table : Nat → Int64) (sortOf : Nat → Int32) (first : Nat → Int32) (second : Nat → Int32) (signBy : Nat → Int32) (a1 : Int32) (a2 : Int32) (a3 : Int32) (Q : (Int32) → (Int32) → (Int32) → (Int32) → (Nat → Int32) → (Nat → Int64) → (Nat → Int64) → Prop) : Prop :=
  (∃ (P_1 : (Int32) → Prop), wX11_isFunction 0 taped lines size atF place sort value fault faultPlace lastFault lastPlace undoable hasImage rowOf areSums isSieved blocks drawn number a1 P_1 ∧ ∀ (rF_1 : Int32), P_1 rF_1 → ((rF_1 = 0 → (Q (-1) 0 rowOf areSums row power table)) ∧ (¬ rF_1 = 0 → (∃ (P_2 : (Int32) → Prop), wX11_isIn 0 taped lines size atF place sort value fault faultPlace lastFault lastPlace undoable hasImage rowOf areSums isSieved blocks drawn sF a2 1 P_2 ∧ ∀ (rF_2 : Int32), P_2 rF_2 → ((rF_2 = 0 → (Q (-1) 0 rowOf areSums row power table)) ∧ (¬ rF_2 = 0 → (∃ (P_3 : (Int32) → Prop), wX11_isIn 0 taped lines size atF place sort value fault faultPlace lastFault lastPlace undoable hasImage rowOf areSums isSieved blocks drawn sF a3 1 P_3 ∧ ∀ (rF_3 : Int32), P_3 rF_3 → ((rF_3 = 0 → (Q (-1) 0 rowOf areSums row power table)) ∧ (¬ rF_3 = 0 → ((a2 ≤ a3 → (∃ (P_4 : (Int32) → (Int32) → (Nat → Int32) → (Nat → Int64) → (Nat → Int64) → Prop), wX11_laysSums 0 taped lines size atF place sort value fault faultPlace lastFault lastPlace undoable hasImage rowOf areSums isSieved blocks drawn sF row marks power table sortOf first second signBy a1 P_4 ∧ ∀ (rowOf_1 : Int32) (areSums_1 : Int32) (row_1 : Nat → Int32) (power_1 : Nat → Int64) (table_1 : Nat → Int64), P_4 rowOf_1 areSums_1 row_1 power_1 table_1 → vp_in a3 200001 ∧ vp_in (a2 - 1) 200001 ∧ ∃ (P_5 : (Int64) → Prop), wX11_rest 0 taped lines size atF place sort value fault faultPlace lastFault lastPlace undoable hasImage rowOf_1 areSums_1 isSieved blocks drawn sF (((row_1 a3.toNatClampNeg) - (row_1 (a2 - 1).toNatClampNeg)).toInt64) P_5 ∧ ∀ (rF_4 : Int64), P_5 rF_4 → (Q (rF_4.toInt32) 0 rowOf_1 areSums_1 row_1 power_1 table_1))) ∧ (¬ a2 ≤ a3 → (Q (-1) 0 rowOf areSums row power table))))))))))))
set_option maxHeartbeats 4000000 in
set_option maxRecDepth 100000 in
theorem mX11_range (l : Launch) (D : va_G) (Y : Nat → ClassId) (h0 : Nat) (thrown : Int32) (v_tape : Value) (taped : Int32) (q_number : Nat) (v_isTold : Value) (v_name : Value) (q_sortOf : Nat) (q_first : Nat) (q_second : Nat) (v_degree : Value) (v_colours : Value) (q_signBy : Nat) (v_own : Value) (lines : Int32) (size : Int32) (atF : Int32) (place : Int32) (sort : Int32) (value : Int32) (fault : Int32) (faultPlace : Int32) (lastFault : Int32) (lastPlace : Int32) (q_sF : Nat) (v_kept : Value) (undoable : Int32) (hasImage : Int32) (q_power : Nat) (q_table : Nat) (q_marks : Nat) (q_row : Nat) (rowOf : Int32) (areSums : Int32) (isSieved : Int32) (v_lastOf : Value) (blocks : Int32) (v_inBlock : Value) (v_atQuotient : Value) (v_small : Value) (drawn : Int32) (number : Nat → Int32) (sF : Nat → Int32) (row : Nat → Int32) (marks : Nat → Int32) (power : Nat → Int64) (table : Nat → Int64) (sortOf : Nat → Int32) (first : Nat → Int32) (second : Nat → Int32) (signBy : Nat → Int32) (a1 : Int32) (a2 : Int32) (a3 : Int32) (Q : (Int32) → (Int32) → (Int32) → (Int32) → (Nat → Int32) → (Nat → Int64) → (Nat → Int64) → Prop) (h : wX11_range thrown taped lines size atF place sort value fault faultPlace lastFault lastPlace undoable hasImage rowOf areSums isSieved blocks drawn number sF row marks power table sortOf first second signBy a1 a2 a3 Q) : gM l D Y yX11_range cX11_range 4 (some .int) 4 99 0 0 [.ref h0, .int a1, .int a2, .int a3] [oX11 h0 thrown (v_tape) taped (.ref q_number) (v_isTold) (v_name) (.ref q_sortOf) (.ref q_first) (.ref q_second) (v_degree) (v_colours) (.ref q_signBy) (v_own) lines size atF place sort value fault faultPlace lastFault lastPlace (.ref q_sF) (v_kept) undoable hasImage (.ref q_power) (.ref q_table) (.ref q_marks) (.ref q_row) rowOf areSums isSieved (v_lastOf) blocks (v_inBlock) (v_atQuotient) (v_small) drawn, aI Y q_number 8 number, aI Y q_sF 74 sF, aI Y q_row 200001 row, aI Y q_marks 6251 marks, aJ Y q_power 18 power, aJ Y q_table 216 table, aI Y q_sortOf 24 sortOf, aI Y q_first 24 first, aI Y q_second 24 second, aI Y q_signBy 24 signBy] (fun v w => ∃ r : Int32, ∃ thrown' : Int32, ∃ rowOf' : Int32, ∃ areSums' : Int32, ∃ row' : Nat → Int32, ∃ power' : Nat → Int64, ∃ table' : Nat → Int64, v = some (.int r) ∧ w = [oX11 h0 thrown' (v_tape) taped (.ref q_number) (v_isTold) (v_name) (.ref q_sortOf) (.ref q_first) (.ref q_second) (v_degree) (v_colours) (.ref q_signBy) (v_own) lines size atF place sort value fault faultPlace lastFault lastPlace (.ref q_sF) (v_kept) undoable hasImage (.ref q_power) (.ref q_table) (.ref q_marks) (.ref q_row) rowOf' areSums' isSieved (v_lastOf) blocks (v_inBlock) (v_atQuotient) (v_small) drawn, aI Y q_number 8 number, aI Y q_sF 74 sF, aI Y q_row 200001 row', aI Y q_marks 6251 marks, aJ Y q_power 18 power', aJ Y q_table 216 table', aI Y q_sortOf 24 sortOf, aI Y q_first 24 first, aI Y q_second 24 second, aI Y q_signBy 24 signBy] ∧ Q r thrown' rowOf' areSums' row' power' table') := by
  refine gM_of (own := RX11) (by decide +kernel) rfl (Nat.le_of_ble_eq_true rfl) rfl (fun E C hR => ?_)
  unfold wX11_range at h
  refine g_aload_n C dX11_range_0 0 rfl ?_
  refine g_iconst (v := 0) C dX11_range_1 rfl ?_
  refine g_put C inX11 tyX11 tyX11_ok nmX11 0 rfl rfl 0 (by decide) wF_X11_89 rfl rfl rfl (Nat.le_of_ble_eq_true rfl) (ws' := [oX11 h0 0 (v_tape) taped (.ref q_number) (v_isTold) (v_name) (.ref q_sortOf) (.ref q_first) (.ref q_second) (v_degree) (v_colours) (.ref q_signBy) (v_own) lines size atF place sort value fault faultPlace lastFault lastPlace (.ref q_sF) (v_kept) undoable hasImage (.ref q_power) (.ref q_table) (.ref q_marks) (.ref q_row) rowOf areSums isSieved (v_lastOf) blocks (v_inBlock) (v_atQuotient) (v_small) drawn, aI Y q_number 8 number, aI Y q_sF 74 sF, aI Y q_row 200001 row, aI Y q_marks 6251 marks, aJ Y q_power 18 power, aJ Y q_table 216 table, aI Y q_sortOf 24 sortOf, aI Y q_first 24 first, aI Y q_second 24 second, aI Y q_signBy 24 signBy]) rfl dX11_range_2 ?_
  refine g_aload_n C dX11_range_5 0 rfl ?_
  refine g_iload_n C dX11_range_6 1 rfl ?_
  obtain ⟨P_1, hP, h⟩ := h
  refine g_callV (As := [.int a1]) (rest := []) C (mX11_isFunction l D Y h0 0 v_tape taped q_number v_isTold v_name (.ref q_sortOf) (.ref q_first) (.ref q_second) v_degree v_colours (.ref q_signBy) v_own lines size atF place sort value fault faultPlace lastFault lastPlace (.ref q_sF) v_kept undoable hasImage (.ref q_power) (.ref q_table) (.ref q_marks) (.ref q_row) rowOf areSums isSieved v_lastOf blocks v_inBlock v_atQuotient v_small drawn number a1 P_1 hP) dX11_range_7 rfl wM_X11_241 wI_X11_isFunction wV_X11_isFunction wN_X11 wC_X11_isFunction (n := 1) (by decide +kernel) rfl (q0 := 0) rfl rfl ⟨Nat.le_of_ble_eq_true rfl, Nat.le_of_ble_eq_true rfl⟩ ⟨Nat.le_of_ble_eq_true rfl, Nat.le_of_ble_eq_true rfl⟩ (Nat.le_of_ble_eq_true rfl) [0, 1] [2, 3, 4, 5, 6, 7, 8, 9, 10] rfl rfl rfl (fun v wc hv => ?_)
  obtain ⟨rF_1, rfl, rfl, hq⟩ := hv
  replace h := h rF_1 hq
  refine gG.perm (ws' := [oX11 h0 0 (v_tape) taped (.ref q_number) (v_isTold) (v_name) (.ref q_sortOf) (.ref q_first) (.ref q_second) (v_degree) (v_colours) (.ref q_signBy) (v_own) lines size atF place sort value fault faultPlace lastFault lastPlace (.ref q_sF) (v_kept) undoable hasImage (.ref q_power) (.ref q_table) (.ref q_marks) (.ref q_row) rowOf areSums isSieved (v_lastOf) blocks (v_inBlock) (v_atQuotient) (v_small) drawn, aI Y q_number 8 number, aI Y q_sF 74 sF, aI Y q_row 200001 row, aI Y q_marks 6251 marks, aJ Y q_power 18 power, aJ Y q_table 216 table, aI Y q_sortOf 24 sortOf, aI Y q_first 24 first, aI Y q_second 24 second, aI Y q_signBy 24 signBy]) [9, 10, 0, 1, 2, 3, 4, 5, 6, 7, 8] rfl rfl ?_
  refine g_if_eq (tgt := 36) C dX11_range_10 (by decide) (fun c_1 => ?_) (fun c_1 => ?_)
  · replace h := h.1 c_1
    refine g_iconst (v := (-1)) C dX11_range_36 rfl ?_
    exact g_iret C hR (Nat.le_of_ble_eq_true rfl) (Nat.le_of_ble_eq_true rfl) dX11_range_37 ⟨(-1), 0, rowOf, areSums, row, power, table, rfl, rfl, h⟩
  · replace h := h.2 c_1
    refine g_aload_n C dX11_range_13 0 rfl ?_
    refine g_iload_n C dX11_range_14 2 rfl ?_
    refine g_iconst (v := 1) C dX11_range_15 rfl ?_
    obtain ⟨P_2, hP, h⟩ := h
    refine g_callV (As := [.int a2, .int 1]) (rest := []) C (mX11_isIn l D Y h0 0 v_tape taped (.ref q_number) v_isTold v_name (.ref q_sortOf) (.ref q_first) (.ref q_second) v_degree v_colours (.ref q_signBy) v_own lines size atF place sort value fault faultPlace lastFault lastPlace q_sF v_kept undoable hasImage (.ref q_power) (.ref q_table) (.ref q_marks) (.ref q_row) rowOf areSums isSieved v_lastOf blocks v_inBlock v_atQuotient v_small drawn sF a2 1 P_2 hP) dX11_range_16 rfl wM_X11_282 wI_X11_isIn wV_X11_isIn wN_X11 wC_X11_isIn (n := 2) (by decide +kernel) rfl (q0 := 0) rfl rfl ⟨Nat.le_of_ble_eq_true rfl, Nat.le_of_ble_eq_true rfl⟩ ⟨Nat.le_of_ble_eq_true rfl, Nat.le_of_ble_eq_true rfl⟩ (Nat.le_of_ble_eq_true rfl) [0, 2] [1, 3, 4, 5, 6, 7, 8, 9, 10] rfl rfl rfl (fun v wc hv => ?_)
    obtain ⟨rF_2, rfl, rfl, hq⟩ := hv
    replace h := h rF_2 hq
    refine gG.perm (ws' := [oX11 h0 0 (v_tape) taped (.ref q_number) (v_isTold) (v_name) (.ref q_sortOf) (.ref q_first) (.ref q_second) (v_degree) (v_colours) (.ref q_signBy) (v_own) lines size atF place sort value fault faultPlace lastFault lastPlace (.ref q_sF) (v_kept) undoable hasImage (.ref q_power) (.ref q_table) (.ref q_marks) (.ref q_row) rowOf areSums isSieved (v_lastOf) blocks (v_inBlock) (v_atQuotient) (v_small) drawn, aI Y q_number 8 number, aI Y q_sF 74 sF, aI Y q_row 200001 row, aI Y q_marks 6251 marks, aJ Y q_power 18 power, aJ Y q_table 216 table, aI Y q_sortOf 24 sortOf, aI Y q_first 24 first, aI Y q_second 24 second, aI Y q_signBy 24 signBy]) [9, 0, 10, 1, 2, 3, 4, 5, 6, 7, 8] rfl rfl ?_
    refine g_if_eq (tgt := 36) C dX11_range_19 (by decide) (fun c_2 => ?_) (fun c_2 => ?_)
    · replace h := h.1 c_2
      refine g_iconst (v := (-1)) C dX11_range_36 rfl ?_
      exact g_iret C hR (Nat.le_of_ble_eq_true rfl) (Nat.le_of_ble_eq_true rfl) dX11_range_37 ⟨(-1), 0, rowOf, areSums, row, power, table, rfl, rfl, h⟩
    · replace h := h.2 c_2
      refine g_aload_n C dX11_range_22 0 rfl ?_
      refine g_iload_n C dX11_range_23 3 rfl ?_
      refine g_iconst (v := 1) C dX11_range_24 rfl ?_
      obtain ⟨P_3, hP, h⟩ := h
      refine g_callV (As := [.int a3, .int 1]) (rest := []) C (mX11_isIn l D Y h0 0 v_tape taped (.ref q_number) v_isTold v_name (.ref q_sortOf) (.ref q_first) (.ref q_second) v_degree v_colours (.ref q_signBy) v_own lines size atF place sort value fault faultPlace lastFault lastPlace q_sF v_kept undoable hasImage (.ref q_power) (.ref q_table) (.ref q_marks) (.ref q_row) rowOf areSums isSieved v_lastOf blocks v_inBlock v_atQuotient v_small drawn sF a3 1 P_3 hP) dX11_range_25 rfl wM_X11_282 wI_X11_isIn wV_X11_isIn wN_X11 wC_X11_isIn (n := 2) (by decide +kernel) rfl (q0 := 0) rfl rfl ⟨Nat.le_of_ble_eq_true rfl, Nat.le_of_ble_eq_true rfl⟩ ⟨Nat.le_of_ble_eq_true rfl, Nat.le_of_ble_eq_true rfl⟩ (Nat.le_of_ble_eq_true rfl) [0, 2] [1, 3, 4, 5, 6, 7, 8, 9, 10] rfl rfl rfl (fun v wc hv => ?_)
      obtain ⟨rF_3, rfl, rfl, hq⟩ := hv
      replace h := h rF_3 hq
      refine gG.perm (ws' := [oX11 h0 0 (v_tape) taped (.ref q_number) (v_isTold) (v_name) (.ref q_sortOf) (.ref q_first) (.ref q_second) (v_degree) (v_colours) (.ref q_signBy) (v_own) lines size atF place sort value fault faultPlace lastFault lastPlace (.ref q_sF) (v_kept) undoable hasImage (.ref q_power) (.ref q_table) (.ref q_marks) (.ref q_row) rowOf areSums isSieved (v_lastOf) blocks (v_inBlock) (v_atQuotient) (v_small) drawn, aI Y q_number 8 number, aI Y q_sF 74 sF, aI Y q_row 200001 row, aI Y q_marks 6251 marks, aJ Y q_power 18 power, aJ Y q_table 216 table, aI Y q_sortOf 24 sortOf, aI Y q_first 24 first, aI Y q_second 24 second, aI Y q_signBy 24 signBy]) [9, 0, 10, 1, 2, 3, 4, 5, 6, 7, 8] rfl rfl ?_
      refine g_if_eq (tgt := 36) C dX11_range_28 (by decide) (fun c_3 => ?_) (fun c_3 => ?_)
      · replace h := h.1 c_3
        refine g_iconst (v := (-1)) C dX11_range_36 rfl ?_
        exact g_iret C hR (Nat.le_of_ble_eq_true rfl) (Nat.le_of_ble_eq_true rfl) dX11_range_37 ⟨(-1), 0, rowOf, areSums, row, power, table, rfl, rfl, h⟩
      · replace h := h.2 c_3
        refine g_iload_n C dX11_range_31 2 rfl ?_
        refine g_iload_n C dX11_range_32 3 rfl ?_
        refine g_icmp_le (tgt := 38) C dX11_range_33 (by decide) (fun c_4 => ?_) (fun c_4 => ?_)
        · replace h := h.1 c_4
          refine g_aload_n C dX11_range_38 0 rfl ?_
          refine g_iload_n C dX11_range_39 1 rfl ?_
          obtain ⟨P_4, hP, h⟩ := h
          refine g_callV (As := [.int a1]) (rest := []) C (mX11_laysSums l D Y h0 0 v_tape taped (.ref q_number) v_isTold v_name q_sortOf q_first q_second v_degree v_colours q_signBy v_own lines size atF place sort value fault faultPlace lastFault lastPlace q_sF v_kept undoable hasImage q_power q_table q_marks q_row rowOf areSums isSieved v_lastOf blocks v_inBlock v_atQuotient v_small drawn sF row marks power table sortOf first second signBy a1 P_4 hP) dX11_range_40 rfl wM_X11_311 wI_X11_laysSums wV_X11_laysSums wN_X11 wC_X11_laysSums (n := 1) (by decide +kernel) rfl (q0 := 0) rfl rfl ⟨Nat.le_of_ble_eq_true rfl, Nat.le_of_ble_eq_true rfl⟩ ⟨Nat.le_of_ble_eq_true rfl, Nat.le_of_ble_eq_true rfl⟩ (Nat.le_of_ble_eq_true rfl) [0, 2, 3, 4, 5, 6, 7, 8, 9, 10] [1] rfl rfl rfl (fun v wc hv => ?_)
          obtain ⟨rowOf_1, areSums_1, row_1, power_1, table_1, rfl, rfl, hq⟩ := hv
          replace h := h rowOf_1 areSums_1 row_1 power_1 table_1 hq
          refine gG.perm (ws' := [oX11 h0 0 (v_tape) taped (.ref q_number) (v_isTold) (v_name) (.ref q_sortOf) (.ref q_first) (.ref q_second) (v_degree) (v_colours) (.ref q_signBy) (v_own) lines size atF place sort value fault faultPlace lastFault lastPlace (.ref q_sF) (v_kept) undoable hasImage (.ref q_power) (.ref q_table) (.ref q_marks) (.ref q_row) rowOf_1 areSums_1 isSieved (v_lastOf) blocks (v_inBlock) (v_atQuotient) (v_small) drawn, aI Y q_number 8 number, aI Y q_sF 74 sF, aI Y q_row 200001 row_1, aI Y q_marks 6251 marks, aJ Y q_power 18 power_1, aJ Y q_table 216 table_1, aI Y q_sortOf 24 sortOf, aI Y q_first 24 first, aI Y q_second 24 second, aI Y q_signBy 24 signBy]) [1, 0, 2, 3, 4, 5, 6, 7, 8, 9, 10] rfl rfl ?_
          refine g_aload_n C dX11_range_43 0 rfl ?_
          refine g_aload_n C dX11_range_44 0 rfl ?_
          refine g_get C inX11 0 rfl rfl 30 (by decide) wF_X11_65 rfl dX11_range_45 ?_
          refine g_iload_n C dX11_range_48 3 rfl ?_
          obtain ⟨hc_1, h⟩ := h
          refine g_iald C 3 rfl hc_1 dX11_range_49 ?_
          refine g_aload_n C dX11_range_50 0 rfl ?_
          refine g_get C inX11 0 rfl rfl 30 (by decide) wF_X11_65 rfl dX11_range_51 ?_
          refine g_iload_n C dX11_range_54 2 rfl ?_
          refine g_iconst (v := 1) C dX11_range_55 rfl ?_
          refine g_isub C dX11_range_56 ?_
          obtain ⟨hc_2, h⟩ := h
          refine g_iald C 3 rfl hc_2 dX11_range_57 ?_
          refine g_isub C dX11_range_58 ?_
          refine g_i2l C dX11_range_59 ?_
          obtain ⟨P_5, hP, h⟩ := h
          refine g_callV (As := [.long (((row_1 a3.toNatClampNeg) - (row_1 (a2 - 1).toNatClampNeg)).toInt64)]) (rest := []) C (mX11_rest l D Y h0 0 v_tape taped (.ref q_number) v_isTold v_name (.ref q_sortOf) (.ref q_first) (.ref q_second) v_degree v_colours (.ref q_signBy) v_own lines size atF place sort value fault faultPlace lastFault lastPlace q_sF v_kept undoable hasImage (.ref q_power) (.ref q_table) (.ref q_marks) (.ref q_row) rowOf_1 areSums_1 isSieved v_lastOf blocks v_inBlock v_atQuotient v_small drawn sF (((row_1 a3.toNatClampNeg) - (row_1 (a2 - 1).toNatClampNeg)).toInt64) P_5 hP) dX11_range_60 rfl wM_X11_256 wI_X11_rest wV_X11_rest wN_X11 wC_X11_rest (n := 1) (by decide +kernel) rfl (q0 := 0) rfl rfl ⟨Nat.le_of_ble_eq_true rfl, Nat.le_of_ble_eq_true rfl⟩ ⟨Nat.le_of_ble_eq_true rfl, Nat.le_of_ble_eq_true rfl⟩ (Nat.le_of_ble_eq_true rfl) [0, 2] [1, 3, 4, 5, 6, 7, 8, 9, 10] rfl rfl rfl (fun v wc hv => ?_)
          obtain ⟨rF_4, rfl, rfl, hq⟩ := hv
          replace h := h rF_4 hq
          refine gG.perm (ws' := [oX11 h0 0 (v_tape) taped (.ref q_number) (v_isTold) (v_name) (.ref q_sortOf) (.ref q_first) (.ref q_second) (v_degree) (v_colours) (.ref q_signBy) (v_own) lines size atF place sort value fault faultPlace lastFault lastPlace (.ref q_sF) (v_kept) undoable hasImage (.ref q_power) (.ref q_table) (.ref q_marks) (.ref q_row) rowOf_1 areSums_1 isSieved (v_lastOf) blocks (v_inBlock) (v_atQuotient) (v_small) drawn, aI Y q_number 8 number, aI Y q_sF 74 sF, aI Y q_row 200001 row_1, aI Y q_marks 6251 marks, aJ Y q_power 18 power_1, aJ Y q_table 216 table_1, aI Y q_sortOf 24 sortOf, aI Y q_first 24 first, aI Y q_second 24 second, aI Y q_signBy 24 signBy]) [9, 0, 10, 1, 2, 3, 4, 5, 6, 7, 8] rfl rfl ?_
          refine g_l2i C dX11_range_63 ?_
          exact g_iret C hR (Nat.le_of_ble_eq_true rfl) (Nat.le_of_ble_eq_true rfl) dX11_range_64 ⟨rF_4.toInt32, 0, rowOf_1, areSums_1, row_1, power_1, table_1, rfl, rfl, h⟩
        · replace h := h.2 c_4
          refine g_iconst (v := (-1)) C dX11_range_36 rfl ?_
          exact g_iret C hR (Nat.le_of_ble_eq_true rfl) (Nat.le_of_ble_eq_true rfl) dX11_range_37 ⟨(-1), 0, rowOf, areSums, row, power, table, rfl, rfl, h⟩
theorem dX11_primes_0 : decode cX11_primes 0 = .ok (.aload_n 0, 1) := by decide +kernel
theorem dX11_primes_1 : decode cX11_primes 1 = .ok (.iconst 0, 1) := by decide +kernel
theorem dX11_primes_2 : decode cX11_primes 2 = .ok (.putfield 89, 3) := by decide +kernel
theorem dX11_primes_5 : decode cX11_primes 5 = .ok (.iload_n 1, 1) := by decide +kernel
theorem dX11_primes_6 : decode cX11_primes 6 = .ok (.iconst 0, 1) := by decide +kernel
theorem dX11_primes_7 : decode cX11_primes 7 = .ok (.iconst 3, 1) := by decide +kernel
theorem dX11_primes_8 : decode cX11_primes 8 = .ok (.invokestatic 247, 3) := by decide +kernel
theorem dX11_primes_11 : decode cX11_primes 11 = .ok (.ifCond .eq 12, 3) := by decide +kernel
theorem dX11_primes_14 : decode cX11_primes 14 = .ok (.aload_n 0, 1) := by decide +kernel
theorem dX11_primes_15 : decode cX11_primes 15 = .ok (.iload_n 2, 1) := by decide +kernel
theorem dX11_primes_16 : decode cX11_primes 16 = .ok (.iconst 0, 1) := by decide +kernel
theorem dX11_primes_17 : decode cX11_primes 17 = .ok (.invokevirtual 282, 3) := by decide +kernel
theorem dX11_primes_20 : decode cX11_primes 20 = .ok (.ifCond .ne 5, 3) := by decide +kernel
theorem dX11_primes_23 : decode cX11_primes 23 = .ok (.iconst (-1), 1) := by decide +kernel
theorem dX11_primes_24 : decode cX11_primes 24 = .ok (.ireturn, 1) := by decide +kernel
theorem dX11_primes_25 : decode cX11_primes 25 = .ok (.lconst 0, 1) := by decide +kernel
theorem dX11_primes_26 : decode cX11_primes 26 = .ok (.lstore_n 3, 1) := by decide +kernel
theorem dX11_primes_27 : decode cX11_primes 27 = .ok (.iconst 2, 1) := by decide +kernel
theorem dX11_primes_28 : decode cX11_primes 28 = .ok (.istore 5, 2) := by decide +kernel
theorem dX11_primes_30 : decode cX11_primes 30 = .ok (.iload 5, 2) := by decide +kernel
theorem dX11_primes_32 : decode cX11_primes 32 = .ok (.iload_n 2, 1) := by decide +kernel
theorem dX11_primes_33 : decode cX11_primes 33 = .ok (.if_icmp .gt 60, 3) := by decide +kernel
theorem dX11_primes_36 : decode cX11_primes 36 = .ok (.aload_n 0, 1) := by decide +kernel
theorem dX11_primes_37 : decode cX11_primes 37 = .ok (.iload 5, 2) := by decide +kernel
theorem dX11_primes_39 : decode cX11_primes 39 = .ok (.invokevirtual 292, 3) := by decide +kernel
theorem dX11_primes_42 : decode cX11_primes 42 = .ok (.ifCond .ne 6, 3) := by decide +kernel
theorem dX11_primes_45 : decode cX11_primes 45 = .ok (.goto 42, 3) := by decide +kernel
theorem dX11_primes_48 : decode cX11_primes 48 = .ok (.lconst 1, 1) := by decide +kernel
theorem dX11_primes_49 : decode cX11_primes 49 = .ok (.lstore 6, 2) := by decide +kernel
theorem dX11_primes_51 : decode cX11_primes 51 = .ok (.iconst 0, 1) := by decide +kernel
theorem dX11_primes_52 : decode cX11_primes 52 = .ok (.istore 8, 2) := by decide +kernel
theorem dX11_primes_54 : decode cX11_primes 54 = .ok (.iload 8, 2) := by decide +kernel
theorem dX11_primes_56 : decode cX11_primes 56 = .ok (.iload_n 1, 1) := by decide +kernel
theorem dX11_primes_57 : decode cX11_primes 57 = .ok (.if_icmp .ge 25, 3) := by decide +kernel
theorem dX11_primes_60 : decode cX11_primes 60 = .ok (.lload 6, 2) := by decide +kernel
theorem dX11_primes_62 : decode cX11_primes 62 = .ok (.iload 5, 2) := by decide +kernel
theorem dX11_primes_64 : decode cX11_primes 64 = .ok (.i2l, 1) := by decide +kernel
theorem dX11_primes_65 : decode cX11_primes 65 = .ok (.lmul, 1) := by decide +kernel
theorem dX11_primes_66 : decode cX11_primes 66 = .ok (.aload_n 0, 1) := by decide +kernel
theorem dX11_primes_67 : decode cX11_primes 67 = .ok (.getfield 48, 3) := by decide +kernel
theorem dX11_primes_70 : decode cX11_primes 70 = .ok (.iconst 1, 1) := by decide +kernel
theorem dX11_primes_71 : decode cX11_primes 71 = .ok (.iaload, 1) := by decide +kernel
theorem dX11_primes_72 : decode cX11_primes 72 = .ok (.i2l, 1) := by decide +kernel
theorem dX11_primes_73 : decode cX11_primes 73 = .ok (.lrem, 1) := by decide +kernel
theorem dX11_primes_74 : decode cX11_primes 74 = .ok (.lstore 6, 2) := by decide +kernel
theorem dX11_primes_76 : decode cX11_primes 76 = .ok (.iinc 8 1, 3) := by decide +kernel
theorem dX11_primes_79 : decode cX11_primes 79 = .ok (.goto (-25), 3) := by decide +kernel
theorem dX11_primes_82 : decode cX11_primes 82 = .ok (.lload_n 3, 1) := by decide +kernel
theorem dX11_primes_83 : decode cX11_primes 83 = .ok (.lload 6, 2) := by decide +kernel
theorem dX11_primes_85 : decode cX11_primes 85 = .ok (.ladd, 1) := by decide +kernel
theorem dX11_primes_86 : decode cX11_primes 86 = .ok (.lstore_n 3, 1) := by decide +kernel
theorem dX11_primes_87 : decode cX11_primes 87 = .ok (.iinc 5 1, 3) := by decide +kernel
theorem dX11_primes_90 : decode cX11_primes 90 = .ok (.goto (-60), 3) := by decide +kernel
theorem dX11_primes_93 : decode cX11_primes 93 = .ok (.aload_n 0, 1) := by decide +kernel
theorem dX11_primes_94 : decode cX11_primes 94 = .ok (.lload_n 3, 1) := by decide +kernel
theorem dX11_primes_95 : decode cX11_primes 95 = .ok (.invokevirtual 256, 3) := by decide +kernel
theorem dX11_primes_98 : decode cX11_primes 98 = .ok (.l2i, 1) := by decide +kernel
theorem dX11_primes_99 : decode cX11_primes 99 = .ok (.ireturn, 1) := by decide +kernel
/-- QuotientSumsModel.primes(II)I -/
def wX11_primes (thrown : Int32) (taped : Int32) (lines : Int32) (size : Int32) (atF : Int32) (place : Int32) (sort : Int32) (value : Int32) (fault : Int32) (faultPlace : Int32) (lastFault : Int32) (lastPlace : Int32) (undoable : Int32) (hasImage : Int32) (rowOf : Int32) (areSums : Int32) (isSieved : Int32) (blocks : Int32) (drawn : Int32) (sF : Nat → Int32) (marks : Nat → Int32) (a1 : Int32) (a2 : Int32) (Q : (Int32) → (Int32) → Prop) : Prop :=
  (∃ (P_1 : (Int32) → Prop), wX11_within a1 0 3 P_1 ∧ ∀ (rF_1 : Int32), P_1 rF_1 → ((rF_1 = 0 → (Q (-1) 0)) ∧ (¬ rF_1 = 0 → (∃ (P_2 : (Int32) → Prop), wX11_isIn 0 taped lines size atF place sort value fault faultPlace lastFault lastPlace undoable hasImage rowOf areSums isSieved blocks drawn sF a2 0 P_2 ∧ ∀ (rF_2 : Int32), P_2 rF_2 → ((¬ rF_2 = 0 → (∃ (Inv_1 : (Int64) → (Int32) → Prop) (Mea_1 : (Int64) → (Int32) → Nat), Inv_1 0 2 ∧ ∀ (x3_1 : Int64) (x5_1 : Int32), Inv_1 x3_1 x5_1 → ((a2 < x5_1 → (∃ (P_3 : (Int64) → Prop), wX11_rest 0 taped lines size atF place sort value fault faultPlace lastFault lastPlace undoable hasImage rowOf areSums isSieved blocks drawn sF x3_1 P_3 ∧ ∀ (rF_3 : Int64), P_3 rF_3 → (Q (rF_3.toInt32) 0))) ∧ (¬ a2 < x5_1 → (∃ (P_4 : (Int32) → Prop), wX11_isPrime 0 taped lines size atF place sort value fault faultPlace lastFault lastPlace undoable hasImage rowOf areSums isSieved blocks drawn marks x5_1 P_4 ∧ ∀ (rF_4 : Int32), P_4 rF_4 → ((¬ rF_4 = 0 → (∃ (Inv_2 : (Int64) → (Int32) → Prop) (Mea_2 : (Int64) → (Int32) → Nat), Inv_2 1 0 ∧ ∀ (x6_1 : Int64) (x8_1 : Int32), Inv_2 x6_1 x8_1 → ((a1 ≤ x8_1 → (∀ x3_2 : Int64, x3_2 = x3_1 + x6_1 → (Inv_1 x3_2 (x5_1 + 1) ∧ Mea_1 x3_2 (x5_1 + 1) < Mea_1 x3_1 x5_1))) ∧ (¬ a1 ≤ x8_1 → (¬ ((sF 1).toInt64) = 0 ∧ ∀ t_1 : Int64, t_1 = (x6_1 * (x5_1.toInt64)) - (x6_1 * (x5_1.toInt64)) / ((sF 1).toInt64) * ((sF 1).toInt64) → (Inv_2 t_1 (x8_1 + 1) ∧ Mea_2 t_1 (x8_1 + 1) < Mea_2 x6_1 x8_1)))))) ∧ (rF_4 = 0 → (Inv_1 x3_1 (x5_1 + 1) ∧ Mea_1 x3_1 (x5_1 + 1) < Mea_1 x3_1 x5_1)))))))) ∧ (rF_2 = 0 → (Q (-1) 0)))))))
set_option maxHeartbeats 4000000 in
set_option maxRecDepth 100000 in
theorem mX11_primes (l : Launch) (D : va_G) (Y : Nat → ClassId) (h0 : Nat) (thrown : Int32) (v_tape : Value) (taped : Int32) (v_number : Value) (v_isTold : Value) (v_name : Value) (v_sortOf : Value) (v_first : Value) (v_second : Value) (v_degree : Value) (v_colours : Value) (v_signBy : Value) (v_own : Value) (lines : Int32) (size : Int32) (atF : Int32) (place : Int32) (sort : Int32) (value : Int32) (fault : Int32) (faultPlace : Int32) (lastFault : Int32) (lastPlace : Int32) (q_sF : Nat) (v_kept : Value) (undoable : Int32) (hasImage : Int32) (v_power : Value) (v_table : Value) (q_marks : Nat) (v_row : Value) (rowOf : Int32) (areSums : Int32) (isSieved : Int32) (v_lastOf : Value) (blocks : Int32) (v_inBlock : Value) (v_atQuotient : Value) (v_small : Value) (drawn : Int32) (sF : Nat → Int32) (marks : Nat → Int32) (a1 : Int32) (a2 : Int32) (Q : (Int32) → (Int32) → Prop) (h : wX11_primes thrown taped lines size atF place sort value fault faultPlace lastFault lastPlace undoable hasImage rowOf areSums isSieved blocks drawn sF marks a1 a2 Q) : gM l D Y yX11_primes cX11_primes 9 (some .int) 1 24 0 0 [.ref h0, .int a1, .int a2] [oX11 h0 thrown (v_tape) taped (v_number) (v_isTold) (v_name) (v_sortOf) (v_first) (v_second) (v_degree) (v_colours) (v_signBy) (v_own) lines size atF place sort value fault faultPlace lastFault lastPlace (.ref q_sF) (v_kept) undoable hasImage (v_power) (v_table) (.ref q_marks) (v_row) rowOf areSums isSieved (v_lastOf) blocks (v_inBlock) (v_atQuotient) (v_small) drawn, aI Y q_sF 74 sF, aI Y q_marks 6251 marks] (fun v w => ∃ r : Int32, ∃ thrown' : Int32, v = some (.int r) ∧ w = [oX11 h0 thrown' (v_tape) taped (v_number) (v_isTold) (v_name) (v_sortOf) (v_first) (v_second) (v_degree) (v_colours) (v_signBy) (v_own) lines size atF place sort value fault faultPlace lastFault lastPlace (.ref q_sF) (v_kept) undoable hasImage (v_power) (v_table) (.ref q_marks) (v_row) rowOf areSums isSieved (v_lastOf) blocks (v_inBlock) (v_atQuotient) (v_small) drawn, aI Y q_sF 74 sF, aI Y q_marks 6251 marks] ∧ Q r thrown') := by
  refine gM_of (own := RX11) (by decide +kernel) rfl (Nat.le_of_ble_eq_true rfl) rfl (fun E C hR => ?_)
  unfold wX11_primes at h
  refine g_aload_n C dX11_primes_0 0 rfl ?_
  refine g_iconst (v := 0) C dX11_primes_1 rfl ?_
  refine g_put C inX11 tyX11 tyX11_ok nmX11 0 rfl rfl 0 (by decide) wF_X11_89 rfl rfl rfl (Nat.le_of_ble_eq_true rfl) (ws' := [oX11 h0 0 (v_tape) taped (v_number) (v_isTold) (v_name) (v_sortOf) (v_first) (v_second) (v_degree) (v_colours) (v_signBy) (v_own) lines size atF place sort value fault faultPlace lastFault lastPlace (.ref q_sF) (v_kept) undoable hasImage (v_power) (v_table) (.ref q_marks) (v_row) rowOf areSums isSieved (v_lastOf) blocks (v_inBlock) (v_atQuotient) (v_small) drawn, aI Y q_sF 74 sF, aI Y q_marks 6251 marks]) rfl dX11_primes_2 ?_
  refine g_iload_n C dX11_primes_5 1 rfl ?_
  refine g_iconst (v := 0) C dX11_primes_6 rfl ?_
  refine g_iconst (v := 3) C dX11_primes_7 rfl ?_
  obtain ⟨P_1, hP, h⟩ := h
  refine g_callS (As := [.int a1, .int 0, .int 3]) (rest := []) C (mX11_within l D Y a1 0 3 P_1 hP) dX11_primes_8 rfl wM_X11_247 wS_X11_within wN_X11 wC_X11_within (n := 3) (by decide +kernel) rfl ⟨Nat.le_of_ble_eq_true rfl, Nat.le_of_ble_eq_true rfl⟩ ⟨Nat.le_of_ble_eq_true rfl, Nat.le_of_ble_eq_true rfl⟩ (Nat.le_of_ble_eq_true rfl) [] [0, 1, 2] rfl rfl rfl (fun v wc hv => ?_)
  obtain ⟨rF_1, rfl, rfl, hq⟩ := hv
  replace h := h rF_1 hq
  refine gG.eqw (ws' := [oX11 h0 0 (v_tape) taped (v_number) (v_isTold) (v_name) (v_sortOf) (v_first) (v_second) (v_degree) (v_colours) (v_signBy) (v_own) lines size atF place sort value fault faultPlace lastFault lastPlace (.ref q_sF) (v_kept) undoable hasImage (v_power) (v_table) (.ref q_marks) (v_row) rowOf areSums isSieved (v_lastOf) blocks (v_inBlock) (v_atQuotient) (v_small) drawn, aI Y q_sF 74 sF, aI Y q_marks 6251 marks]) rfl ?_
  refine g_if_eq (tgt := 23) C dX11_primes_11 (by decide) (fun c_1 => ?_) (fun c_1 => ?_)
  · replace h := h.1 c_1
    refine g_iconst (v := (-1)) C dX11_primes_23 rfl ?_
    exact g_iret C hR (Nat.le_of_ble_eq_true rfl) (Nat.le_of_ble_eq_true rfl) dX11_primes_24 ⟨(-1), 0, rfl, rfl, h⟩
  · replace h := h.2 c_1
    refine g_aload_n C dX11_primes_14 0 rfl ?_
    refine g_iload_n C dX11_primes_15 2 rfl ?_
    refine g_iconst (v := 0) C dX11_primes_16 rfl ?_
    obtain ⟨P_2, hP, h⟩ := h
    refine g_callV (As := [.int a2, .int 0]) (rest := []) C (mX11_isIn l D Y h0 0 v_tape taped v_number v_isTold v_name v_sortOf v_first v_second v_degree v_colours v_signBy v_own lines size atF place sort value fault faultPlace lastFault lastPlace q_sF v_kept undoable hasImage v_power v_table (.ref q_marks) v_row rowOf areSums isSieved v_lastOf blocks v_inBlock v_atQuotient v_small drawn sF a2 0 P_2 hP) dX11_primes_17 rfl wM_X11_282 wI_X11_isIn wV_X11_isIn wN_X11 wC_X11_isIn (n := 2) (by decide +kernel) rfl (q0 := 0) rfl rfl ⟨Nat.le_of_ble_eq_true rfl, Nat.le_of_ble_eq_true rfl⟩ ⟨Nat.le_of_ble_eq_true rfl, Nat.le_of_ble_eq_true rfl⟩ (Nat.le_of_ble_eq_true rfl) [0, 1] [2] rfl rfl rfl (fun v wc hv => ?_)
    obtain ⟨rF_2, rfl, rfl, hq⟩ := hv
    replace h := h rF_2 hq
    refine gG.perm (ws' := [oX11 h0 0 (v_tape) taped (v_number) (v_isTold) (v_name) (v_sortOf) (v_first) (v_second) (v_degree) (v_colours) (v_signBy) (v_own) lines size atF place sort value fault faultPlace lastFault lastPlace (.ref q_sF) (v_kept) undoable hasImage (v_power) (v_table) (.ref q_marks) (v_row) rowOf areSums isSieved (v_lastOf) blocks (v_inBlock) (v_atQuotient) (v_small) drawn, aI Y q_sF 74 sF, aI Y q_marks 6251 marks]) [1, 2, 0] rfl rfl ?_
    refine g_if_ne (tgt := 25) C dX11_primes_20 (by decide) (fun c_2 => ?_) (fun c_2 => ?_)
    · replace h := h.1 c_2
      refine g_lconst (v := 0) C dX11_primes_25 rfl ?_
      refine g_lstore_n (lv' := [(3, .long 0), (0, .ref h0), (1, .int a1), (2, .int a2)]) C dX11_primes_26 (by decide) rfl ?_
      refine g_iconst (v := 2) C dX11_primes_27 rfl ?_
      refine g_istore (lv' := [(5, .int 2), (3, .long 0), (0, .ref h0), (1, .int a1), (2, .int a2)]) C dX11_primes_28 (by decide) rfl ?_
      obtain ⟨Inv_1, Mea_1, hI1, hB1⟩ := h
      have key_1 : ∀ (n : Nat) (x3_1 : Int64) (x5_1 : Int32) , Mea_1 x3_1 x5_1 < n → Inv_1 x3_1 x5_1 → gG E 0 0 [oX11 h0 0 (v_tape) taped (v_number) (v_isTold) (v_name) (v_sortOf) (v_first) (v_second) (v_degree) (v_colours) (v_signBy) (v_own) lines size atF place sort value fault faultPlace lastFault lastPlace (.ref q_sF) (v_kept) undoable hasImage (v_power) (v_table) (.ref q_marks) (v_row) rowOf areSums isSieved (v_lastOf) blocks (v_inBlock) (v_atQuotient) (v_small) drawn, aI Y q_sF 74 sF, aI Y q_marks 6251 marks] [(0, .ref h0), (1, .int a1), (2, .int a2), (3, .long x3_1), (5, .int x5_1)] [] 30 := by
        intro n
        induction n with
        | zero => exact fun _ _ hm => absurd hm (Nat.not_lt_zero _)
        | succ n ih1 =>
          intro x3_1 x5_1  hm1 hI
          have h := hB1 x3_1 x5_1 hI
          refine g_iload C dX11_primes_30 4 rfl ?_
          refine g_iload_n C dX11_primes_32 2 rfl ?_
          refine g_icmp_gt (tgt := 93) C dX11_primes_33 (by decide) (fun c_3 => ?_) (fun c_3 => ?_)
          · replace h := h.1 c_3
            refine g_aload_n C dX11_primes_93 0 rfl ?_
            refine g_lload_n C dX11_primes_94 3 rfl ?_
            obtain ⟨P_3, hP, h⟩ := h
            refine g_callV (As := [.long x3_1]) (rest := []) C (mX11_rest l D Y h0 0 v_tape taped v_number v_isTold v_name v_sortOf v_first v_second v_degree v_colours v_signBy v_own lines size atF place sort value fault faultPlace lastFault lastPlace q_sF v_kept undoable hasImage v_power v_table (.ref q_marks) v_row rowOf areSums isSieved v_lastOf blocks v_inBlock v_atQuotient v_small drawn sF x3_1 P_3 hP) dX11_primes_95 rfl wM_X11_256 wI_X11_rest wV_X11_rest wN_X11 wC_X11_rest (n := 1) (by decide +kernel) rfl (q0 := 0) rfl rfl ⟨Nat.le_of_ble_eq_true rfl, Nat.le_of_ble_eq_true rfl⟩ ⟨Nat.le_of_ble_eq_true rfl, Nat.le_of_ble_eq_true rfl⟩ (Nat.le_of_ble_eq_true rfl) [0, 1] [2] rfl rfl rfl (fun v wc hv => ?_)
            obtain ⟨rF_3, rfl, rfl, hq⟩ := hv
            replace h := h rF_3 hq
            refine gG.perm (ws' := [oX11 h0 0 (v_tape) taped (v_number) (v_isTold) (v_name) (v_sortOf) (v_first) (v_second) (v_degree) (v_colours) (v_signBy) (v_own) lines size atF place sort value fault faultPlace lastFault lastPlace (.ref q_sF) (v_kept) undoable hasImage (v_power) (v_table) (.ref q_marks) (v_row) rowOf areSums isSieved (v_lastOf) blocks (v_inBlock) (v_atQuotient) (v_small) drawn, aI Y q_sF 74 sF, aI Y q_marks 6251 marks]) [1, 2, 0] rfl rfl ?_
            refine g_l2i C dX11_primes_98 ?_
            exact g_iret C hR (Nat.le_of_ble_eq_true rfl) (Nat.le_of_ble_eq_true rfl) dX11_primes_99 ⟨rF_3.toInt32, 0, rfl, rfl, h⟩
          · replace h := h.2 c_3
            refine g_aload_n C dX11_primes_36 0 rfl ?_
            refine g_iload C dX11_primes_37 4 rfl ?_
            obtain ⟨P_4, hP, h⟩ := h
            refine g_callV (As := [.int x5_1]) (rest := []) C (mX11_isPrime l D Y h0 0 v_tape taped v_number v_isTold v_name v_sortOf v_first v_second v_degree v_colours v_signBy v_own lines size atF place sort value fault faultPlace lastFault lastPlace (.ref q_sF) v_kept undoable hasImage v_power v_table q_marks v_row rowOf areSums isSieved v_lastOf blocks v_inBlock v_atQuotient v_small drawn marks x5_1 P_4 hP) dX11_primes_39 rfl wM_X11_292 wI_X11_isPrime wV_X11_isPrime wN_X11 wC_X11_isPrime (n := 1) (by decide +kernel) rfl (q0 := 0) rfl rfl ⟨Nat.le_of_ble_eq_true rfl, Nat.le_of_ble_eq_true rfl⟩ ⟨Nat.le_of_ble_eq_true rfl, Nat.le_of_ble_eq_true rfl⟩ (Nat.le_of_ble_eq_true rfl) [0, 2] [1] rfl rfl rfl (fun v wc hv => ?_)
            obtain ⟨rF_4, rfl, rfl, hq⟩ := hv
            replace h := h rF_4 hq
            refine gG.perm (ws' := [oX11 h0 0 (v_tape) taped (v_number) (v_isTold) (v_name) (v_sortOf) (v_first) (v_second) (v_degree) (v_colours) (v_signBy) (v_own) lines size atF place sort value fault faultPlace lastFault lastPlace (.ref q_sF) (v_kept) undoable hasImage (v_power) (v_table) (.ref q_marks) (v_row) rowOf areSums isSieved (v_lastOf) blocks (v_inBlock) (v_atQuotient) (v_small) drawn, aI Y q_sF 74 sF, aI Y q_marks 6251 marks]) [1, 0, 2] rfl rfl ?_
            refine g_if_ne (tgt := 48) C dX11_primes_42 (by decide) (fun c_4 => ?_) (fun c_4 => ?_)
            · replace h := h.1 c_4
              refine g_lconst (v := 1) C dX11_primes_48 rfl ?_
              refine g_lstore (lv' := [(6, .long 1), (0, .ref h0), (1, .int a1), (2, .int a2), (3, .long x3_1), (5, .int x5_1)]) C dX11_primes_49 (by decide) rfl ?_
              refine g_iconst (v := 0) C dX11_primes_51 rfl ?_
              refine g_istore (lv' := [(8, .int 0), (6, .long 1), (0, .ref h0), (1, .int a1), (2, .int a2), (3, .long x3_1), (5, .int x5_1)]) C dX11_primes_52 (by decide) rfl ?_
              obtain ⟨Inv_2, Mea_2, hI2, hB2⟩ := h
              have key_2 : ∀ (n : Nat) (x6_1 : Int64) (x8_1 : Int32) , Mea_2 x6_1 x8_1 < n → Inv_2 x6_1 x8_1 → gG E 0 0 [oX11 h0 0 (v_tape) taped (v_number) (v_isTold) (v_name) (v_sortOf) (v_first) (v_second) (v_degree) (v_colours) (v_signBy) (v_own) lines size atF place sort value fault faultPlace lastFault lastPlace (.ref q_sF) (v_kept) undoable hasImage (v_power) (v_table) (.ref q_marks) (v_row) rowOf areSums isSieved (v_lastOf) blocks (v_inBlock) (v_atQuotient) (v_small) drawn, aI Y q_sF 74 sF, aI Y q_marks 6251 marks] [(0, .ref h0), (1, .int a1), (2, .int a2), (3, .long x3_1), (5, .int x5_1), (6, .long x6_1), (8, .int x8_1)] [] 54 := by
                intro n
                induction n with
                | zero => exact fun _ _ hm => absurd hm (Nat.not_lt_zero _)
                | succ n ih2 =>
                  intro x6_1 x8_1  hm2 hI
                  have h := hB2 x6_1 x8_1 hI
                  refine g_iload C dX11_primes_54 6 rfl ?_
                  refine g_iload_n C dX11_primes_56 1 rfl ?_
                  refine g_icmp_ge (tgt := 82) C dX11_primes_57 (by decide) (fun c_5 => ?_) (fun c_5 => ?_)
                  · replace h := h.1 c_5
                    refine g_lload_n C dX11_primes_82 3 rfl ?_
                    refine g_lload C dX11_primes_83 5 rfl ?_
                    refine g_ladd C dX11_primes_85 ?_
                    refine g_topl (fun x3_2 ex3_2 => ?_)
                    replace h := h x3_2 ex3_2
                    refine g_lstore_n (lv' := [(3, .long x3_2), (0, .ref h0), (1, .int a1), (2, .int a2), (5, .int x5_1), (6, .long x6_1), (8, .int x8_1)]) C dX11_primes_86 (by decide) rfl ?_
                    refine g_iinc (v := x5_1 + 1) (lv' := [(5, .int (x5_1 + 1)), (3, .long x3_2), (0, .ref h0), (1, .int a1), (2, .int a2), (6, .long x6_1), (8, .int x8_1)]) C dX11_primes_87 4 rfl rfl (by decide) rfl ?_
                    refine g_goto (tgt := 30) C dX11_primes_90 (by decide) ?_
                    refine gG.locals (lv' := [(0, .ref h0), (1, .int a1), (2, .int a2), (3, .long x3_2), (5, .int (x5_1 + 1))]) [2, 3, 4, 1, 0] rfl ?_
                    exact ih1 x3_2 (x5_1 + 1) (Nat.lt_of_lt_of_le h.2 (Nat.le_of_lt_succ hm1)) h.1
                  · replace h := h.2 c_5
                    refine g_lload C dX11_primes_60 5 rfl ?_
                    refine g_iload C dX11_primes_62 4 rfl ?_
                    refine g_i2l C dX11_primes_64 ?_
                    refine g_lmul C dX11_primes_65 ?_
                    refine g_aload_n C dX11_primes_66 0 rfl ?_
                    refine g_get C inX11 0 rfl rfl 23 (by decide) wF_X11_48 rfl dX11_primes_67 ?_
                    refine g_iconst (v := 1) C dX11_primes_70 rfl ?_
                    refine g_iald C 1 rfl (by unfold vp_in; decide) dX11_primes_71 ?_
                    refine g_i2l C dX11_primes_72 ?_
                    obtain ⟨hc_1, h⟩ := h
                    refine g_lrem C dX11_primes_73 hc_1 ?_
                    refine g_topl (fun t_1 et_1 => ?_)
                    replace h := h t_1 et_1
                    refine g_lstore (lv' := [(6, .long t_1), (0, .ref h0), (1, .int a1), (2, .int a2), (3, .long x3_1), (5, .int x5_1), (8, .int x8_1)]) C dX11_primes_74 (by decide) rfl ?_
                    refine g_iinc (v := x8_1 + 1) (lv' := [(8, .int (x8_1 + 1)), (6, .long t_1), (0, .ref h0), (1, .int a1), (2, .int a2), (3, .long x3_1), (5, .int x5_1)]) C dX11_primes_76 6 rfl rfl (by decide) rfl ?_
                    refine g_goto (tgt := 54) C dX11_primes_79 (by decide) ?_
                    refine gG.locals (lv' := [(0, .ref h0), (1, .int a1), (2, .int a2), (3, .long x3_1), (5, .int x5_1), (6, .long t_1), (8, .int (x8_1 + 1))]) [2, 3, 4, 5, 6, 1, 0] rfl ?_
                    exact ih2 t_1 (x8_1 + 1) (Nat.lt_of_lt_of_le h.2 (Nat.le_of_lt_succ hm2)) h.1
              refine gG.locals (lv' := [(0, .ref h0), (1, .int a1), (2, .int a2), (3, .long x3_1), (5, .int x5_1), (6, .long 1), (8, .int 0)]) [2, 3, 4, 5, 6, 1, 0] rfl ?_
              exact key_2 (Mea_2 1 0 + 1) 1 0 (Nat.lt_succ_self _) hI2
            · replace h := h.2 c_4
              refine g_goto (tgt := 87) C dX11_primes_45 (by decide) ?_
              refine g_iinc (v := x5_1 + 1) (lv' := [(5, .int (x5_1 + 1)), (0, .ref h0), (1, .int a1), (2, .int a2), (3, .long x3_1)]) C dX11_primes_87 4 rfl rfl (by decide) rfl ?_
              refine g_goto (tgt := 30) C dX11_primes_90 (by decide) ?_
              refine gG.locals (lv' := [(0, .ref h0), (1, .int a1), (2, .int a2), (3, .long x3_1), (5, .int (x5_1 + 1))]) [1, 2, 3, 4, 0] rfl ?_
              exact ih1 x3_1 (x5_1 + 1) (Nat.lt_of_lt_of_le h.2 (Nat.le_of_lt_succ hm1)) h.1
      refine gG.locals (lv' := [(0, .ref h0), (1, .int a1), (2, .int a2), (3, .long 0), (5, .int 2)]) [2, 3, 4, 1, 0] rfl ?_
      exact key_1 (Mea_1 0 2 + 1) 0 2 (Nat.lt_succ_self _) hI1
    · replace h := h.2 c_2
      refine g_iconst (v := (-1)) C dX11_primes_23 rfl ?_
      exact g_iret C hR (Nat.le_of_ble_eq_true rfl) (Nat.le_of_ble_eq_true rfl) dX11_primes_24 ⟨(-1), 0, rfl, rfl, h⟩
theorem dX11_laysBlocks_0 : decode cX11_laysBlocks 0 = .ok (.aload_n 0, 1) := by decide +kernel
theorem dX11_laysBlocks_1 : decode cX11_laysBlocks 1 = .ok (.iconst 0, 1) := by decide +kernel
theorem dX11_laysBlocks_2 : decode cX11_laysBlocks 2 = .ok (.putfield 314, 3) := by decide +kernel
theorem dX11_laysBlocks_5 : decode cX11_laysBlocks 5 = .ok (.iconst 1, 1) := by decide +kernel
theorem dX11_laysBlocks_6 : decode cX11_laysBlocks 6 = .ok (.istore_n 2, 1) := by decide +kernel
theorem dX11_laysBlocks_7 : decode cX11_laysBlocks 7 = .ok (.iload_n 2, 1) := by decide +kernel
theorem dX11_laysBlocks_8 : decode cX11_laysBlocks 8 = .ok (.iload_n 1, 1) := by decide +kernel
theorem dX11_laysBlocks_9 : decode cX11_laysBlocks 9 = .ok (.if_icmp .gt 42, 3) := by decide +kernel
theorem dX11_laysBlocks_12 : decode cX11_laysBlocks 12 = .ok (.aload_n 0, 1) := by decide +kernel
theorem dX11_laysBlocks_13 : decode cX11_laysBlocks 13 = .ok (.getfield 68, 3) := by decide +kernel
theorem dX11_laysBlocks_16 : decode cX11_laysBlocks 16 = .ok (.aload_n 0, 1) := by decide +kernel
theorem dX11_laysBlocks_17 : decode cX11_laysBlocks 17 = .ok (.getfield 314, 3) := by decide +kernel
theorem dX11_laysBlocks_20 : decode cX11_laysBlocks 20 = .ok (.iload_n 1, 1) := by decide +kernel
theorem dX11_laysBlocks_21 : decode cX11_laysBlocks 21 = .ok (.iload_n 1, 1) := by decide +kernel
theorem dX11_laysBlocks_22 : decode cX11_laysBlocks 22 = .ok (.iload_n 2, 1) := by decide +kernel
theorem dX11_laysBlocks_23 : decode cX11_laysBlocks 23 = .ok (.idiv, 1) := by decide +kernel
theorem dX11_laysBlocks_24 : decode cX11_laysBlocks 24 = .ok (.idiv, 1) := by decide +kernel
theorem dX11_laysBlocks_25 : decode cX11_laysBlocks 25 = .ok (.iastore, 1) := by decide +kernel
theorem dX11_laysBlocks_26 : decode cX11_laysBlocks 26 = .ok (.aload_n 0, 1) := by decide +kernel
theorem dX11_laysBlocks_27 : decode cX11_laysBlocks 27 = .ok (.getfield 68, 3) := by decide +kernel
theorem dX11_laysBlocks_30 : decode cX11_laysBlocks 30 = .ok (.aload_n 0, 1) := by decide +kernel
theorem dX11_laysBlocks_31 : decode cX11_laysBlocks 31 = .ok (.getfield 314, 3) := by decide +kernel
theorem dX11_laysBlocks_34 : decode cX11_laysBlocks 34 = .ok (.iaload, 1) := by decide +kernel
theorem dX11_laysBlocks_35 : decode cX11_laysBlocks 35 = .ok (.iconst 1, 1) := by decide +kernel
theorem dX11_laysBlocks_36 : decode cX11_laysBlocks 36 = .ok (.iadd, 1) := by decide +kernel
theorem dX11_laysBlocks_37 : decode cX11_laysBlocks 37 = .ok (.istore_n 2, 1) := by decide +kernel
theorem dX11_laysBlocks_38 : decode cX11_laysBlocks 38 = .ok (.aload_n 0, 1) := by decide +kernel
theorem dX11_laysBlocks_39 : decode cX11_laysBlocks 39 = .ok (.dup, 1) := by decide +kernel
theorem dX11_laysBlocks_40 : decode cX11_laysBlocks 40 = .ok (.getfield 314, 3) := by decide +kernel
theorem dX11_laysBlocks_43 : decode cX11_laysBlocks 43 = .ok (.iconst 1, 1) := by decide +kernel
theorem dX11_laysBlocks_44 : decode cX11_laysBlocks 44 = .ok (.iadd, 1) := by decide +kernel
theorem dX11_laysBlocks_45 : decode cX11_laysBlocks 45 = .ok (.putfield 314, 3) := by decide +kernel
theorem dX11_laysBlocks_48 : decode cX11_laysBlocks 48 = .ok (.goto (-41), 3) := by decide +kernel
theorem dX11_laysBlocks_51 : decode cX11_laysBlocks 51 = .ok (.return_, 1) := by decide +kernel
/-- QuotientSumsModel.laysBlocks(I)V -/
def wX11_laysBlocks (thrown : Int32) (taped : Int32) (lines : Int32) (size : Int32) (atF : Int32) (place : Int32) (sort : Int32) (value : Int32) (fault : Int32) (faultPlace : Int32) (lastFault : Int32) (lastPlace : Int32) (undoable : Int32) (hasImage : Int32) (rowOf : Int32) (areSums : Int32) (isSieved : Int32) (blocks : Int32) (drawn : Int32) (lastOf : Nat → Int32) (a1 : Int32) (Q : (Int32) → (Nat → Int32) → Prop) : Prop :=
  (∃ (Inv_1 : (Nat → Int32) → (Int32) → (Int32) → Prop) (Mea_1 : (Nat → Int32) → (Int32) → (Int32) → Nat), Inv_1 lastOf 0 1 ∧ ∀ (lastOf_1 : Nat → Int32) (blocks_1 : Int32) (x2_1 : Int32), Inv_1 lastOf_1 blocks_1 x2_1 → ((a1 < x2_1 → (Q blocks_1 lastOf_1)) ∧ (¬ a1 < x2_1 → (¬ x2_1 = 0 ∧ ¬ (a1 / x2_1) = 0 ∧ ∀ e_1 : Int32, e_1 = a1 / (a1 / x2_1) → vp_in blocks_1 900 ∧ ∀ lastOf_2 : Nat → Int32, lastOf_2 = upd lastOf_1 blocks_1.toNatClampNeg e_1 → ∀ x2_2 : Int32, x2_2 = (lastOf_2 blocks_1.toNatClampNeg) + 1 → ∀ blocks_2 : Int32, blocks_2 = blocks_1 + 1 → (Inv_1 lastOf_2 blocks_2 x2_2 ∧ Mea_1 lastOf_2 blocks_2 x2_2 < Mea_1 lastOf_1 blocks_1 x2_1)))))
set_option maxHeartbeats 4000000 in
set_option maxRecDepth 100000 in
theorem mX11_laysBlocks (l : Launch) (D : va_G) (Y : Nat → ClassId) (h0 : Nat) (thrown : Int32) (v_tape : Value) (taped : Int32) (v_number : Value) (v_isTold : Value) (v_name : Value) (v_sortOf : Value) (v_first : Value) (v_second : Value) (v_degree : Value) (v_colours : Value) (v_signBy : Value) (v_own : Value) (lines : Int32) (size : Int32) (atF : Int32) (place : Int32) (sort : Int32) (value : Int32) (fault : Int32) (faultPlace : Int32) (lastFault : Int32) (lastPlace : Int32) (v_sF : Value) (v_kept : Value) (undoable : Int32) (hasImage : Int32) (v_power : Value) (v_table : Value) (v_marks : Value) (v_row : Value) (rowOf : Int32) (areSums : Int32) (isSieved : Int32) (q_lastOf : Nat) (blocks : Int32) (v_inBlock : Value) (v_atQuotient : Value) (v_small : Value) (drawn : Int32) (lastOf : Nat → Int32) (a1 : Int32) (Q : (Int32) → (Nat → Int32) → Prop) (h : wX11_laysBlocks thrown taped lines size atF place sort value fault faultPlace lastFault lastPlace undoable hasImage rowOf areSums isSieved blocks drawn lastOf a1 Q) : gM l D Y yX11_laysBlocks cX11_laysBlocks 3 none 0 0 0 0 [.ref h0, .int a1] [oX11 h0 thrown (v_tape) taped (v_number) (v_isTold) (v_name) (v_sortOf) (v_first) (v_second) (v_degree) (v_colours) (v_signBy) (v_own) lines size atF place sort value fault faultPlace lastFault lastPlace (v_sF) (v_kept) undoable hasImage (v_power) (v_table) (v_marks) (v_row) rowOf areSums isSieved (.ref q_lastOf) blocks (v_inBlock) (v_atQuotient) (v_small) drawn, aI Y q_lastOf 900 lastOf] (fun v w => ∃ blocks' : Int32, ∃ lastOf' : Nat → Int32, v = none ∧ w = [oX11 h0 thrown (v_tape) taped (v_number) (v_isTold) (v_name) (v_sortOf) (v_first) (v_second) (v_degree) (v_colours) (v_signBy) (v_own) lines size atF place sort value fault faultPlace lastFault lastPlace (v_sF) (v_kept) undoable hasImage (v_power) (v_table) (v_marks) (v_row) rowOf areSums isSieved (.ref q_lastOf) blocks' (v_inBlock) (v_atQuotient) (v_small) drawn, aI Y q_lastOf 900 lastOf'] ∧ Q blocks' lastOf') := by
  refine gM_of (own := RX11) (by decide +kernel) rfl (Nat.le_of_ble_eq_true rfl) rfl (fun E C hR => ?_)
  unfold wX11_laysBlocks at h
  refine g_aload_n C dX11_laysBlocks_0 0 rfl ?_
  refine g_iconst (v := 0) C dX11_laysBlocks_1 rfl ?_
  refine g_put C inX11 tyX11 tyX11_ok nmX11 0 rfl rfl 35 (by decide) wF_X11_314 rfl rfl rfl (Nat.le_of_ble_eq_true rfl) (ws' := [oX11 h0 thrown (v_tape) taped (v_number) (v_isTold) (v_name) (v_sortOf) (v_first) (v_second) (v_degree) (v_colours) (v_signBy) (v_own) lines size atF place sort value fault faultPlace lastFault lastPlace (v_sF) (v_kept) undoable hasImage (v_power) (v_table) (v_marks) (v_row) rowOf areSums isSieved (.ref q_lastOf) 0 (v_inBlock) (v_atQuotient) (v_small) drawn, aI Y q_lastOf 900 lastOf]) rfl dX11_laysBlocks_2 ?_
  refine g_iconst (v := 1) C dX11_laysBlocks_5 rfl ?_
  refine g_istore_n (lv' := [(2, .int 1), (0, .ref h0), (1, .int a1)]) C dX11_laysBlocks_6 (by decide) rfl ?_
  obtain ⟨Inv_1, Mea_1, hI1, hB1⟩ := h
  have key_1 : ∀ (n : Nat) (lastOf_1 : Nat → Int32) (blocks_1 : Int32) (x2_1 : Int32) , Mea_1 lastOf_1 blocks_1 x2_1 < n → Inv_1 lastOf_1 blocks_1 x2_1 → gG E 0 0 [oX11 h0 thrown (v_tape) taped (v_number) (v_isTold) (v_name) (v_sortOf) (v_first) (v_second) (v_degree) (v_colours) (v_signBy) (v_own) lines size atF place sort value fault faultPlace lastFault lastPlace (v_sF) (v_kept) undoable hasImage (v_power) (v_table) (v_marks) (v_row) rowOf areSums isSieved (.ref q_lastOf) blocks_1 (v_inBlock) (v_atQuotient) (v_small) drawn, aI Y q_lastOf 900 lastOf_1] [(0, .ref h0), (1, .int a1), (2, .int x2_1)] [] 7 := by
    intro n
    induction n with
    | zero => exact fun _ _ _ hm => absurd hm (Nat.not_lt_zero _)
    | succ n ih1 =>
      intro lastOf_1 blocks_1 x2_1  hm1 hI
      have h := hB1 lastOf_1 blocks_1 x2_1 hI
      refine g_iload_n C dX11_laysBlocks_7 2 rfl ?_
      refine g_iload_n C dX11_laysBlocks_8 1 rfl ?_
      refine g_icmp_gt (tgt := 51) C dX11_laysBlocks_9 (by decide) (fun c_1 => ?_) (fun c_1 => ?_)
      · replace h := h.1 c_1
        exact g_vret C hR (Nat.le_of_ble_eq_true rfl) (Nat.le_of_ble_eq_true rfl) dX11_laysBlocks_51 ⟨blocks_1, lastOf_1, rfl, rfl, h⟩
      · replace h := h.2 c_1
        refine g_aload_n C dX11_laysBlocks_12 0 rfl ?_
        refine g_get C inX11 0 rfl rfl 34 (by decide) wF_X11_68 rfl dX11_laysBlocks_13 ?_
        refine g_aload_n C dX11_laysBlocks_16 0 rfl ?_
        refine g_get C inX11 0 rfl rfl 35 (by decide) wF_X11_314 rfl dX11_laysBlocks_17 ?_
        refine g_iload_n C dX11_laysBlocks_20 1 rfl ?_
        refine g_iload_n C dX11_laysBlocks_21 1 rfl ?_
        refine g_iload_n C dX11_laysBlocks_22 2 rfl ?_
        obtain ⟨hc_1, h⟩ := h
        refine g_idiv C dX11_laysBlocks_23 hc_1 ?_
        obtain ⟨hc_2, h⟩ := h
        refine g_idiv C dX11_laysBlocks_24 hc_2 ?_
        refine g_topi (fun e_1 ee_1 => ?_)
        replace h := h e_1 ee_1
        obtain ⟨hc_3, h⟩ := h
        refine g_iast C 1 rfl hc_3 dX11_laysBlocks_25 (fun lastOf_2 elastOf_2 => gG.eqw (ws' := [oX11 h0 thrown (v_tape) taped (v_number) (v_isTold) (v_name) (v_sortOf) (v_first) (v_second) (v_degree) (v_colours) (v_signBy) (v_own) lines size atF place sort value fault faultPlace lastFault lastPlace (v_sF) (v_kept) undoable hasImage (v_power) (v_table) (v_marks) (v_row) rowOf areSums isSieved (.ref q_lastOf) blocks_1 (v_inBlock) (v_atQuotient) (v_small) drawn, aI Y q_lastOf 900 lastOf_2]) rfl ?_)
        replace h := h lastOf_2 elastOf_2
        refine g_aload_n C dX11_laysBlocks_26 0 rfl ?_
        refine g_get C inX11 0 rfl rfl 34 (by decide) wF_X11_68 rfl dX11_laysBlocks_27 ?_
        refine g_aload_n C dX11_laysBlocks_30 0 rfl ?_
        refine g_get C inX11 0 rfl rfl 35 (by decide) wF_X11_314 rfl dX11_laysBlocks_31 ?_
        refine g_iald C 1 rfl hc_3 dX11_laysBlocks_34 ?_
        refine g_iconst (v := 1) C dX11_laysBlocks_35 rfl ?_
        refine g_iadd C dX11_laysBlocks_36 ?_
        refine g_topi (fun x2_2 ex2_2 => ?_)
        replace h := h x2_2 ex2_2
        refine g_istore_n (lv' := [(2, .int x2_2), (0, .ref h0), (1, .int a1)]) C dX11_laysBlocks_37 (by decide) rfl ?_
        refine g_aload_n C dX11_laysBlocks_38 1 rfl ?_
        refine g_dup C dX11_laysBlocks_39 rfl ?_
        refine g_get C inX11 0 rfl rfl 35 (by decide) wF_X11_314 rfl dX11_laysBlocks_40 ?_
        refine g_iconst (v := 1) C dX11_laysBlocks_43 rfl ?_
        refine g_iadd C dX11_laysBlocks_44 ?_
        refine g_topi (fun blocks_2 eblocks_2 => ?_)
        replace h := h blocks_2 eblocks_2
        refine g_put C inX11 tyX11 tyX11_ok nmX11 0 rfl rfl 35 (by decide) wF_X11_314 rfl rfl rfl (Nat.le_of_ble_eq_true rfl) (ws' := [oX11 h0 thrown (v_tape) taped (v_number) (v_isTold) (v_name) (v_sortOf) (v_first) (v_second) (v_degree) (v_colours) (v_signBy) (v_own) lines size atF place sort value fault faultPlace lastFault lastPlace (v_sF) (v_kept) undoable hasImage (v_power) (v_table) (v_marks) (v_row) rowOf areSums isSieved (.ref q_lastOf) blocks_2 (v_inBlock) (v_atQuotient) (v_small) drawn, aI Y q_lastOf 900 lastOf_2]) rfl dX11_laysBlocks_45 ?_
        refine g_goto (tgt := 7) C dX11_laysBlocks_48 (by decide) ?_
        refine gG.locals (lv' := [(0, .ref h0), (1, .int a1), (2, .int x2_2)]) [1, 2, 0] rfl ?_
        exact ih1 lastOf_2 blocks_2 x2_2 (Nat.lt_of_lt_of_le h.2 (Nat.le_of_lt_succ hm1)) h.1
  refine gG.locals (lv' := [(0, .ref h0), (1, .int a1), (2, .int 1)]) [1, 2, 0] rfl ?_
  exact key_1 (Mea_1 lastOf 0 1 + 1) lastOf 0 1 (Nat.lt_succ_self _) hI1
