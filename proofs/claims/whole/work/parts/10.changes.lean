theorem dX0_forget_0 : decode cX0_forget 0 = .ok (.aload_n 0, 1) := by decide +kernel
theorem dX0_forget_1 : decode cX0_forget 1 = .ok (.iconst 0, 1) := by decide +kernel
theorem dX0_forget_2 : decode cX0_forget 2 = .ok (.putfield 22, 3) := by decide +kernel
theorem dX0_forget_5 : decode cX0_forget 5 = .ok (.return_, 1) := by decide +kernel
/-- QuotientSums$Changes.forget()V -/
def wX0_forget (size : Int32) (top : Int32)  (Q : (Int32) → Prop) : Prop :=
  (Q 0)
set_option maxHeartbeats 4000000 in
set_option maxRecDepth 100000 in
theorem mX0_forget (l : Launch) (D : va_G) (Y : Nat → ClassId) (h0 : Nat) (size : Int32) (top : Int32) (v_kinds : Value) (v_cells : Value) (v_ones : Value) (v_others : Value)  (Q : (Int32) → Prop) (h : wX0_forget size top Q) : gM l D Y yX0_forget cX0_forget 1 none 0 0 0 0 [.ref h0] [oX0 h0 size top (v_kinds) (v_cells) (v_ones) (v_others)] (fun v w => ∃ size' : Int32, v = none ∧ w = [oX0 h0 size' top (v_kinds) (v_cells) (v_ones) (v_others)] ∧ Q size') := by
  refine gM_of (own := RX0) (by decide +kernel) rfl (Nat.le_of_ble_eq_true rfl) rfl (fun E C hR => ?_)
  unfold wX0_forget at h
  refine g_aload_n C dX0_forget_0 0 rfl ?_
  refine g_iconst (v := 0) C dX0_forget_1 rfl ?_
  refine g_put C inX0 tyX0 tyX0_ok nmX0 0 rfl rfl 0 (by decide) wF_X0_22 rfl rfl rfl (Nat.le_of_ble_eq_true rfl) (ws' := [oX0 h0 0 top (v_kinds) (v_cells) (v_ones) (v_others)]) rfl dX0_forget_2 ?_
  exact g_vret C hR (Nat.le_of_ble_eq_true rfl) (Nat.le_of_ble_eq_true rfl) dX0_forget_5 ⟨0, rfl, rfl, h⟩
theorem dX0_push_0 : decode cX0_push 0 = .ok (.aload_n 0, 1) := by decide +kernel
theorem dX0_push_1 : decode cX0_push 1 = .ok (.getfield 9, 3) := by decide +kernel
theorem dX0_push_4 : decode cX0_push 4 = .ok (.aload_n 0, 1) := by decide +kernel
theorem dX0_push_5 : decode cX0_push 5 = .ok (.getfield 26, 3) := by decide +kernel
theorem dX0_push_8 : decode cX0_push 8 = .ok (.iload_n 1, 1) := by decide +kernel
theorem dX0_push_9 : decode cX0_push 9 = .ok (.iastore, 1) := by decide +kernel
theorem dX0_push_10 : decode cX0_push 10 = .ok (.aload_n 0, 1) := by decide +kernel
theorem dX0_push_11 : decode cX0_push 11 = .ok (.getfield 13, 3) := by decide +kernel
theorem dX0_push_14 : decode cX0_push 14 = .ok (.aload_n 0, 1) := by decide +kernel
theorem dX0_push_15 : decode cX0_push 15 = .ok (.getfield 26, 3) := by decide +kernel
theorem dX0_push_18 : decode cX0_push 18 = .ok (.iload_n 2, 1) := by decide +kernel
theorem dX0_push_19 : decode cX0_push 19 = .ok (.iastore, 1) := by decide +kernel
theorem dX0_push_20 : decode cX0_push 20 = .ok (.aload_n 0, 1) := by decide +kernel
theorem dX0_push_21 : decode cX0_push 21 = .ok (.getfield 16, 3) := by decide +kernel
theorem dX0_push_24 : decode cX0_push 24 = .ok (.aload_n 0, 1) := by decide +kernel
theorem dX0_push_25 : decode cX0_push 25 = .ok (.getfield 26, 3) := by decide +kernel
theorem dX0_push_28 : decode cX0_push 28 = .ok (.iload_n 3, 1) := by decide +kernel
theorem dX0_push_29 : decode cX0_push 29 = .ok (.iastore, 1) := by decide +kernel
theorem dX0_push_30 : decode cX0_push 30 = .ok (.aload_n 0, 1) := by decide +kernel
theorem dX0_push_31 : decode cX0_push 31 = .ok (.getfield 19, 3) := by decide +kernel
theorem dX0_push_34 : decode cX0_push 34 = .ok (.aload_n 0, 1) := by decide +kernel
theorem dX0_push_35 : decode cX0_push 35 = .ok (.getfield 26, 3) := by decide +kernel
theorem dX0_push_38 : decode cX0_push 38 = .ok (.iload 4, 2) := by decide +kernel
theorem dX0_push_40 : decode cX0_push 40 = .ok (.iastore, 1) := by decide +kernel
theorem dX0_push_41 : decode cX0_push 41 = .ok (.aload_n 0, 1) := by decide +kernel
theorem dX0_push_42 : decode cX0_push 42 = .ok (.aload_n 0, 1) := by decide +kernel
theorem dX0_push_43 : decode cX0_push 43 = .ok (.getfield 26, 3) := by decide +kernel
theorem dX0_push_46 : decode cX0_push 46 = .ok (.iconst 1, 1) := by decide +kernel
theorem dX0_push_47 : decode cX0_push 47 = .ok (.iadd, 1) := by decide +kernel
theorem dX0_push_48 : decode cX0_push 48 = .ok (.bipush 20, 2) := by decide +kernel
theorem dX0_push_50 : decode cX0_push 50 = .ok (.irem, 1) := by decide +kernel
theorem dX0_push_51 : decode cX0_push 51 = .ok (.putfield 26, 3) := by decide +kernel
theorem dX0_push_54 : decode cX0_push 54 = .ok (.aload_n 0, 1) := by decide +kernel
theorem dX0_push_55 : decode cX0_push 55 = .ok (.aload_n 0, 1) := by decide +kernel
theorem dX0_push_56 : decode cX0_push 56 = .ok (.getfield 22, 3) := by decide +kernel
theorem dX0_push_59 : decode cX0_push 59 = .ok (.iconst 1, 1) := by decide +kernel
theorem dX0_push_60 : decode cX0_push 60 = .ok (.iadd, 1) := by decide +kernel
theorem dX0_push_61 : decode cX0_push 61 = .ok (.bipush 20, 2) := by decide +kernel
theorem dX0_push_63 : decode cX0_push 63 = .ok (.invokestatic 29, 3) := by decide +kernel
theorem dX0_push_66 : decode cX0_push 66 = .ok (.putfield 22, 3) := by decide +kernel
theorem dX0_push_69 : decode cX0_push 69 = .ok (.return_, 1) := by decide +kernel
/-- QuotientSums$Changes.push(IIII)V -/
def wX0_push (size : Int32) (top : Int32) (kinds : Nat → Int32) (cells : Nat → Int32) (ones : Nat → Int32) (others : Nat → Int32) (a1 : Int32) (a2 : Int32) (a3 : Int32) (a4 : Int32) (Q : (Int32) → (Int32) → (Nat → Int32) → (Nat → Int32) → (Nat → Int32) → (Nat → Int32) → Prop) : Prop :=
  (vp_in top 20 ∧ ∀ kinds_1 : Nat → Int32, kinds_1 = upd kinds top.toNatClampNeg a1 → ∀ cells_1 : Nat → Int32, cells_1 = upd cells top.toNatClampNeg a2 → ∀ ones_1 : Nat → Int32, ones_1 = upd ones top.toNatClampNeg a3 → ∀ others_1 : Nat → Int32, others_1 = upd others top.toNatClampNeg a4 → ∀ top_1 : Int32, top_1 = (top + 1) - (top + 1) / 20 * 20 → ∀ m_1 : Int32, m_1 = (if 20 < (size + 1) then 20 else (size + 1)) → (Q m_1 top_1 kinds_1 cells_1 ones_1 others_1))
set_option maxHeartbeats 4000000 in
set_option maxRecDepth 100000 in
theorem mX0_push (l : Launch) (D : va_G) (Y : Nat → ClassId) (h0 : Nat) (size : Int32) (top : Int32) (q_kinds : Nat) (q_cells : Nat) (q_ones : Nat) (q_others : Nat) (kinds : Nat → Int32) (cells : Nat → Int32) (ones : Nat → Int32) (others : Nat → Int32) (a1 : Int32) (a2 : Int32) (a3 : Int32) (a4 : Int32) (Q : (Int32) → (Int32) → (Nat → Int32) → (Nat → Int32) → (Nat → Int32) → (Nat → Int32) → Prop) (h : wX0_push size top kinds cells ones others a1 a2 a3 a4 Q) : gM l D Y yX0_push cX0_push 5 none 1 21 0 0 [.ref h0, .int a1, .int a2, .int a3, .int a4] [oX0 h0 size top (.ref q_kinds) (.ref q_cells) (.ref q_ones) (.ref q_others), aI Y q_kinds 20 kinds, aI Y q_cells 20 cells, aI Y q_ones 20 ones, aI Y q_others 20 others] (fun v w => ∃ size' : Int32, ∃ top' : Int32, ∃ kinds' : Nat → Int32, ∃ cells' : Nat → Int32, ∃ ones' : Nat → Int32, ∃ others' : Nat → Int32, v = none ∧ w = [oX0 h0 size' top' (.ref q_kinds) (.ref q_cells) (.ref q_ones) (.ref q_others), aI Y q_kinds 20 kinds', aI Y q_cells 20 cells', aI Y q_ones 20 ones', aI Y q_others 20 others'] ∧ Q size' top' kinds' cells' ones' others') := by
  refine gM_of (own := RX0) (by decide +kernel) rfl (Nat.le_of_ble_eq_true rfl) rfl (fun E C hR => ?_)
  unfold wX0_push at h
  refine g_aload_n C dX0_push_0 0 rfl ?_
  refine g_get C inX0 0 rfl rfl 2 (by decide) wF_X0_9 rfl dX0_push_1 ?_
  refine g_aload_n C dX0_push_4 0 rfl ?_
  refine g_get C inX0 0 rfl rfl 1 (by decide) wF_X0_26 rfl dX0_push_5 ?_
  refine g_iload_n C dX0_push_8 1 rfl ?_
  obtain ⟨hc_1, h⟩ := h
  refine g_iast C 1 rfl hc_1 dX0_push_9 (fun kinds_1 ekinds_1 => gG.eqw (ws' := [oX0 h0 size top (.ref q_kinds) (.ref q_cells) (.ref q_ones) (.ref q_others), aI Y q_kinds 20 kinds_1, aI Y q_cells 20 cells, aI Y q_ones 20 ones, aI Y q_others 20 others]) rfl ?_)
  replace h := h kinds_1 ekinds_1
  refine g_aload_n C dX0_push_10 0 rfl ?_
  refine g_get C inX0 0 rfl rfl 3 (by decide) wF_X0_13 rfl dX0_push_11 ?_
  refine g_aload_n C dX0_push_14 0 rfl ?_
  refine g_get C inX0 0 rfl rfl 1 (by decide) wF_X0_26 rfl dX0_push_15 ?_
  refine g_iload_n C dX0_push_18 2 rfl ?_
  refine g_iast C 2 rfl hc_1 dX0_push_19 (fun cells_1 ecells_1 => gG.eqw (ws' := [oX0 h0 size top (.ref q_kinds) (.ref q_cells) (.ref q_ones) (.ref q_others), aI Y q_kinds 20 kinds_1, aI Y q_cells 20 cells_1, aI Y q_ones 20 ones, aI Y q_others 20 others]) rfl ?_)
  replace h := h cells_1 ecells_1
  refine g_aload_n C dX0_push_20 0 rfl ?_
  refine g_get C inX0 0 rfl rfl 4 (by decide) wF_X0_16 rfl dX0_push_21 ?_
  refine g_aload_n C dX0_push_24 0 rfl ?_
  refine g_get C inX0 0 rfl rfl 1 (by decide) wF_X0_26 rfl dX0_push_25 ?_
  refine g_iload_n C dX0_push_28 3 rfl ?_
  refine g_iast C 3 rfl hc_1 dX0_push_29 (fun ones_1 eones_1 => gG.eqw (ws' := [oX0 h0 size top (.ref q_kinds) (.ref q_cells) (.ref q_ones) (.ref q_others), aI Y q_kinds 20 kinds_1, aI Y q_cells 20 cells_1, aI Y q_ones 20 ones_1, aI Y q_others 20 others]) rfl ?_)
  replace h := h ones_1 eones_1
  refine g_aload_n C dX0_push_30 0 rfl ?_
  refine g_get C inX0 0 rfl rfl 5 (by decide) wF_X0_19 rfl dX0_push_31 ?_
  refine g_aload_n C dX0_push_34 0 rfl ?_
  refine g_get C inX0 0 rfl rfl 1 (by decide) wF_X0_26 rfl dX0_push_35 ?_
  refine g_iload C dX0_push_38 4 rfl ?_
  refine g_iast C 4 rfl hc_1 dX0_push_40 (fun others_1 eothers_1 => gG.eqw (ws' := [oX0 h0 size top (.ref q_kinds) (.ref q_cells) (.ref q_ones) (.ref q_others), aI Y q_kinds 20 kinds_1, aI Y q_cells 20 cells_1, aI Y q_ones 20 ones_1, aI Y q_others 20 others_1]) rfl ?_)
  replace h := h others_1 eothers_1
  refine g_aload_n C dX0_push_41 0 rfl ?_
  refine g_aload_n C dX0_push_42 0 rfl ?_
  refine g_get C inX0 0 rfl rfl 1 (by decide) wF_X0_26 rfl dX0_push_43 ?_
  refine g_iconst (v := 1) C dX0_push_46 rfl ?_
  refine g_iadd C dX0_push_47 ?_
  refine g_bipush (v := 20) C dX0_push_48 rfl ?_
  refine g_irem C dX0_push_50 (by decide) ?_
  refine g_topi (fun top_1 etop_1 => ?_)
  replace h := h top_1 etop_1
  refine g_put C inX0 tyX0 tyX0_ok nmX0 0 rfl rfl 1 (by decide) wF_X0_26 rfl rfl rfl (Nat.le_of_ble_eq_true rfl) (ws' := [oX0 h0 size top_1 (.ref q_kinds) (.ref q_cells) (.ref q_ones) (.ref q_others), aI Y q_kinds 20 kinds_1, aI Y q_cells 20 cells_1, aI Y q_ones 20 ones_1, aI Y q_others 20 others_1]) rfl dX0_push_51 ?_
  refine g_aload_n C dX0_push_54 0 rfl ?_
  refine g_aload_n C dX0_push_55 0 rfl ?_
  refine g_get C inX0 0 rfl rfl 0 (by decide) wF_X0_22 rfl dX0_push_56 ?_
  refine g_iconst (v := 1) C dX0_push_59 rfl ?_
  refine g_iadd C dX0_push_60 ?_
  refine g_bipush (v := 20) C dX0_push_61 rfl ?_
  refine g_mmin C wM_X0_29 dX0_push_63 ⟨Nat.le_of_ble_eq_true rfl, Nat.le_of_ble_eq_true rfl⟩ ⟨Nat.le_of_ble_eq_true rfl, Nat.le_of_ble_eq_true rfl⟩ ?_
  refine g_topi (fun m_1 em_1 => ?_)
  replace h := h m_1 em_1
  refine g_put C inX0 tyX0 tyX0_ok nmX0 0 rfl rfl 0 (by decide) wF_X0_22 rfl rfl rfl (Nat.le_of_ble_eq_true rfl) (ws' := [oX0 h0 m_1 top_1 (.ref q_kinds) (.ref q_cells) (.ref q_ones) (.ref q_others), aI Y q_kinds 20 kinds_1, aI Y q_cells 20 cells_1, aI Y q_ones 20 ones_1, aI Y q_others 20 others_1]) rfl dX0_push_66 ?_
  exact g_vret C hR (Nat.le_of_ble_eq_true rfl) (Nat.le_of_ble_eq_true rfl) dX0_push_69 ⟨m_1, top_1, kinds_1, cells_1, ones_1, others_1, rfl, rfl, h⟩
theorem dX0_drop_0 : decode cX0_drop 0 = .ok (.aload_n 0, 1) := by decide +kernel
theorem dX0_drop_1 : decode cX0_drop 1 = .ok (.getfield 22, 3) := by decide +kernel
theorem dX0_drop_4 : decode cX0_drop 4 = .ok (.iconst 1, 1) := by decide +kernel
theorem dX0_drop_5 : decode cX0_drop 5 = .ok (.if_icmp .ge 5, 3) := by decide +kernel
theorem dX0_drop_8 : decode cX0_drop 8 = .ok (.iconst 0, 1) := by decide +kernel
theorem dX0_drop_9 : decode cX0_drop 9 = .ok (.ireturn, 1) := by decide +kernel
theorem dX0_drop_10 : decode cX0_drop 10 = .ok (.aload_n 0, 1) := by decide +kernel
theorem dX0_drop_11 : decode cX0_drop 11 = .ok (.dup, 1) := by decide +kernel
theorem dX0_drop_12 : decode cX0_drop 12 = .ok (.getfield 22, 3) := by decide +kernel
theorem dX0_drop_15 : decode cX0_drop 15 = .ok (.iconst 1, 1) := by decide +kernel
theorem dX0_drop_16 : decode cX0_drop 16 = .ok (.isub, 1) := by decide +kernel
theorem dX0_drop_17 : decode cX0_drop 17 = .ok (.putfield 22, 3) := by decide +kernel
theorem dX0_drop_20 : decode cX0_drop 20 = .ok (.aload_n 0, 1) := by decide +kernel
theorem dX0_drop_21 : decode cX0_drop 21 = .ok (.aload_n 0, 1) := by decide +kernel
theorem dX0_drop_22 : decode cX0_drop 22 = .ok (.getfield 26, 3) := by decide +kernel
theorem dX0_drop_25 : decode cX0_drop 25 = .ok (.bipush 20, 2) := by decide +kernel
theorem dX0_drop_27 : decode cX0_drop 27 = .ok (.iadd, 1) := by decide +kernel
theorem dX0_drop_28 : decode cX0_drop 28 = .ok (.iconst 1, 1) := by decide +kernel
theorem dX0_drop_29 : decode cX0_drop 29 = .ok (.isub, 1) := by decide +kernel
theorem dX0_drop_30 : decode cX0_drop 30 = .ok (.bipush 20, 2) := by decide +kernel
theorem dX0_drop_32 : decode cX0_drop 32 = .ok (.irem, 1) := by decide +kernel
theorem dX0_drop_33 : decode cX0_drop 33 = .ok (.putfield 26, 3) := by decide +kernel
theorem dX0_drop_36 : decode cX0_drop 36 = .ok (.iconst 1, 1) := by decide +kernel
theorem dX0_drop_37 : decode cX0_drop 37 = .ok (.ireturn, 1) := by decide +kernel
/-- QuotientSums$Changes.drop()Z -/
def wX0_drop (size : Int32) (top : Int32)  (Q : (Int32) → (Int32) → (Int32) → Prop) : Prop :=
  ((1 ≤ size → (∀ size_1 : Int32, size_1 = size - 1 → ∀ top_1 : Int32, top_1 = ((top + 20) - 1) - ((top + 20) - 1) / 20 * 20 → (Q 1 size_1 top_1))) ∧ (¬ 1 ≤ size → (Q 0 size top)))
set_option maxHeartbeats 4000000 in
set_option maxRecDepth 100000 in
theorem mX0_drop (l : Launch) (D : va_G) (Y : Nat → ClassId) (h0 : Nat) (size : Int32) (top : Int32) (v_kinds : Value) (v_cells : Value) (v_ones : Value) (v_others : Value)  (Q : (Int32) → (Int32) → (Int32) → Prop) (h : wX0_drop size top Q) : gM l D Y yX0_drop cX0_drop 1 (some .boolean) 0 0 0 0 [.ref h0] [oX0 h0 size top (v_kinds) (v_cells) (v_ones) (v_others)] (fun v w => ∃ r : Int32, ∃ size' : Int32, ∃ top' : Int32, v = some (.int r) ∧ w = [oX0 h0 size' top' (v_kinds) (v_cells) (v_ones) (v_others)] ∧ Q r size' top') := by
  refine gM_of (own := RX0) (by decide +kernel) rfl (Nat.le_of_ble_eq_true rfl) rfl (fun E C hR => ?_)
  unfold wX0_drop at h
  refine g_aload_n C dX0_drop_0 0 rfl ?_
  refine g_get C inX0 0 rfl rfl 0 (by decide) wF_X0_22 rfl dX0_drop_1 ?_
  refine g_iconst (v := 1) C dX0_drop_4 rfl ?_
  refine g_icmp_ge (tgt := 10) C dX0_drop_5 (by decide) (fun c_1 => ?_) (fun c_1 => ?_)
  · replace h := h.1 c_1
    refine g_aload_n C dX0_drop_10 0 rfl ?_
    refine g_dup C dX0_drop_11 rfl ?_
    refine g_get C inX0 0 rfl rfl 0 (by decide) wF_X0_22 rfl dX0_drop_12 ?_
    refine g_iconst (v := 1) C dX0_drop_15 rfl ?_
    refine g_isub C dX0_drop_16 ?_
    refine g_topi (fun size_1 esize_1 => ?_)
    replace h := h size_1 esize_1
    refine g_put C inX0 tyX0 tyX0_ok nmX0 0 rfl rfl 0 (by decide) wF_X0_22 rfl rfl rfl (Nat.le_of_ble_eq_true rfl) (ws' := [oX0 h0 size_1 top (v_kinds) (v_cells) (v_ones) (v_others)]) rfl dX0_drop_17 ?_
    refine g_aload_n C dX0_drop_20 0 rfl ?_
    refine g_aload_n C dX0_drop_21 0 rfl ?_
    refine g_get C inX0 0 rfl rfl 1 (by decide) wF_X0_26 rfl dX0_drop_22 ?_
    refine g_bipush (v := 20) C dX0_drop_25 rfl ?_
    refine g_iadd C dX0_drop_27 ?_
    refine g_iconst (v := 1) C dX0_drop_28 rfl ?_
    refine g_isub C dX0_drop_29 ?_
    refine g_bipush (v := 20) C dX0_drop_30 rfl ?_
    refine g_irem C dX0_drop_32 (by decide) ?_
    refine g_topi (fun top_1 etop_1 => ?_)
    replace h := h top_1 etop_1
    refine g_put C inX0 tyX0 tyX0_ok nmX0 0 rfl rfl 1 (by decide) wF_X0_26 rfl rfl rfl (Nat.le_of_ble_eq_true rfl) (ws' := [oX0 h0 size_1 top_1 (v_kinds) (v_cells) (v_ones) (v_others)]) rfl dX0_drop_33 ?_
    refine g_iconst (v := 1) C dX0_drop_36 rfl ?_
    exact g_zret C hR (by decide) (Nat.le_of_ble_eq_true rfl) (Nat.le_of_ble_eq_true rfl) dX0_drop_37 ⟨1, size_1, top_1, rfl, rfl, h⟩
  · replace h := h.2 c_1
    refine g_iconst (v := 0) C dX0_drop_8 rfl ?_
    exact g_zret C hR (by decide) (Nat.le_of_ble_eq_true rfl) (Nat.le_of_ble_eq_true rfl) dX0_drop_9 ⟨0, size, top, rfl, rfl, h⟩
theorem dX0_kindDropped_0 : decode cX0_kindDropped 0 = .ok (.aload_n 0, 1) := by decide +kernel
theorem dX0_kindDropped_1 : decode cX0_kindDropped 1 = .ok (.getfield 9, 3) := by decide +kernel
theorem dX0_kindDropped_4 : decode cX0_kindDropped 4 = .ok (.aload_n 0, 1) := by decide +kernel
theorem dX0_kindDropped_5 : decode cX0_kindDropped 5 = .ok (.getfield 26, 3) := by decide +kernel
theorem dX0_kindDropped_8 : decode cX0_kindDropped 8 = .ok (.iaload, 1) := by decide +kernel
theorem dX0_kindDropped_9 : decode cX0_kindDropped 9 = .ok (.ireturn, 1) := by decide +kernel
/-- QuotientSums$Changes.kindDropped()I -/
def wX0_kindDropped (size : Int32) (top : Int32) (kinds : Nat → Int32)  (Q : (Int32) → Prop) : Prop :=
  (vp_in top 20 ∧ (Q (kinds top.toNatClampNeg)))
set_option maxHeartbeats 4000000 in
set_option maxRecDepth 100000 in
theorem mX0_kindDropped (l : Launch) (D : va_G) (Y : Nat → ClassId) (h0 : Nat) (size : Int32) (top : Int32) (q_kinds : Nat) (v_cells : Value) (v_ones : Value) (v_others : Value) (kinds : Nat → Int32)  (Q : (Int32) → Prop) (h : wX0_kindDropped size top kinds Q) : gM l D Y yX0_kindDropped cX0_kindDropped 1 (some .int) 0 0 0 0 [.ref h0] [oX0 h0 size top (.ref q_kinds) (v_cells) (v_ones) (v_others), aI Y q_kinds 20 kinds] (fun v w => ∃ r : Int32, v = some (.int r) ∧ w = [oX0 h0 size top (.ref q_kinds) (v_cells) (v_ones) (v_others), aI Y q_kinds 20 kinds] ∧ Q r) := by
  refine gM_of (own := RX0) (by decide +kernel) rfl (Nat.le_of_ble_eq_true rfl) rfl (fun E C hR => ?_)
  unfold wX0_kindDropped at h
  refine g_aload_n C dX0_kindDropped_0 0 rfl ?_
  refine g_get C inX0 0 rfl rfl 2 (by decide) wF_X0_9 rfl dX0_kindDropped_1 ?_
  refine g_aload_n C dX0_kindDropped_4 0 rfl ?_
  refine g_get C inX0 0 rfl rfl 1 (by decide) wF_X0_26 rfl dX0_kindDropped_5 ?_
  obtain ⟨hc_1, h⟩ := h
  refine g_iald C 1 rfl hc_1 dX0_kindDropped_8 ?_
  exact g_iret C hR (Nat.le_of_ble_eq_true rfl) (Nat.le_of_ble_eq_true rfl) dX0_kindDropped_9 ⟨kinds top.toNatClampNeg, rfl, rfl, h⟩
theorem dX0_cellDropped_0 : decode cX0_cellDropped 0 = .ok (.aload_n 0, 1) := by decide +kernel
theorem dX0_cellDropped_1 : decode cX0_cellDropped 1 = .ok (.getfield 13, 3) := by decide +kernel
theorem dX0_cellDropped_4 : decode cX0_cellDropped 4 = .ok (.aload_n 0, 1) := by decide +kernel
theorem dX0_cellDropped_5 : decode cX0_cellDropped 5 = .ok (.getfield 26, 3) := by decide +kernel
theorem dX0_cellDropped_8 : decode cX0_cellDropped 8 = .ok (.iaload, 1) := by decide +kernel
theorem dX0_cellDropped_9 : decode cX0_cellDropped 9 = .ok (.ireturn, 1) := by decide +kernel
/-- QuotientSums$Changes.cellDropped()I -/
def wX0_cellDropped (size : Int32) (top : Int32) (cells : Nat → Int32)  (Q : (Int32) → Prop) : Prop :=
  (vp_in top 20 ∧ (Q (cells top.toNatClampNeg)))
set_option maxHeartbeats 4000000 in
set_option maxRecDepth 100000 in
theorem mX0_cellDropped (l : Launch) (D : va_G) (Y : Nat → ClassId) (h0 : Nat) (size : Int32) (top : Int32) (v_kinds : Value) (q_cells : Nat) (v_ones : Value) (v_others : Value) (cells : Nat → Int32)  (Q : (Int32) → Prop) (h : wX0_cellDropped size top cells Q) : gM l D Y yX0_cellDropped cX0_cellDropped 1 (some .int) 0 0 0 0 [.ref h0] [oX0 h0 size top (v_kinds) (.ref q_cells) (v_ones) (v_others), aI Y q_cells 20 cells] (fun v w => ∃ r : Int32, v = some (.int r) ∧ w = [oX0 h0 size top (v_kinds) (.ref q_cells) (v_ones) (v_others), aI Y q_cells 20 cells] ∧ Q r) := by
  refine gM_of (own := RX0) (by decide +kernel) rfl (Nat.le_of_ble_eq_true rfl) rfl (fun E C hR => ?_)
  unfold wX0_cellDropped at h
  refine g_aload_n C dX0_cellDropped_0 0 rfl ?_
  refine g_get C inX0 0 rfl rfl 3 (by decide) wF_X0_13 rfl dX0_cellDropped_1 ?_
  refine g_aload_n C dX0_cellDropped_4 0 rfl ?_
  refine g_get C inX0 0 rfl rfl 1 (by decide) wF_X0_26 rfl dX0_cellDropped_5 ?_
  obtain ⟨hc_1, h⟩ := h
  refine g_iald C 1 rfl hc_1 dX0_cellDropped_8 ?_
  exact g_iret C hR (Nat.le_of_ble_eq_true rfl) (Nat.le_of_ble_eq_true rfl) dX0_cellDropped_9 ⟨cells top.toNatClampNeg, rfl, rfl, h⟩
theorem dX0_firstDropped_0 : decode cX0_firstDropped 0 = .ok (.aload_n 0, 1) := by decide +kernel
theorem dX0_firstDropped_1 : decode cX0_firstDropped 1 = .ok (.getfield 16, 3) := by decide +kernel
theorem dX0_firstDropped_4 : decode cX0_firstDropped 4 = .ok (.aload_n 0, 1) := by decide +kernel
theorem dX0_firstDropped_5 : decode cX0_firstDropped 5 = .ok (.getfield 26, 3) := by decide +kernel
theorem dX0_firstDropped_8 : decode cX0_firstDropped 8 = .ok (.iaload, 1) := by decide +kernel
theorem dX0_firstDropped_9 : decode cX0_firstDropped 9 = .ok (.ireturn, 1) := by decide +kernel
/-- QuotientSums$Changes.firstDropped()I -/
def wX0_firstDropped (size : Int32) (top : Int32) (ones : Nat → Int32)  (Q : (Int32) → Prop) : Prop :=
  (vp_in top 20 ∧ (Q (ones top.toNatClampNeg)))
set_option maxHeartbeats 4000000 in
set_option maxRecDepth 100000 in
theorem mX0_firstDropped (l : Launch) (D : va_G) (Y : Nat → ClassId) (h0 : Nat) (size : Int32) (top : Int32) (v_kinds : Value) (v_cells : Value) (q_ones : Nat) (v_others : Value) (ones : Nat → Int32)  (Q : (Int32) → Prop) (h : wX0_firstDropped size top ones Q) : gM l D Y yX0_firstDropped cX0_firstDropped 1 (some .int) 0 0 0 0 [.ref h0] [oX0 h0 size top (v_kinds) (v_cells) (.ref q_ones) (v_others), aI Y q_ones 20 ones] (fun v w => ∃ r : Int32, v = some (.int r) ∧ w = [oX0 h0 size top (v_kinds) (v_cells) (.ref q_ones) (v_others), aI Y q_ones 20 ones] ∧ Q r) := by
  refine gM_of (own := RX0) (by decide +kernel) rfl (Nat.le_of_ble_eq_true rfl) rfl (fun E C hR => ?_)
  unfold wX0_firstDropped at h
  refine g_aload_n C dX0_firstDropped_0 0 rfl ?_
  refine g_get C inX0 0 rfl rfl 4 (by decide) wF_X0_16 rfl dX0_firstDropped_1 ?_
  refine g_aload_n C dX0_firstDropped_4 0 rfl ?_
  refine g_get C inX0 0 rfl rfl 1 (by decide) wF_X0_26 rfl dX0_firstDropped_5 ?_
  obtain ⟨hc_1, h⟩ := h
  refine g_iald C 1 rfl hc_1 dX0_firstDropped_8 ?_
  exact g_iret C hR (Nat.le_of_ble_eq_true rfl) (Nat.le_of_ble_eq_true rfl) dX0_firstDropped_9 ⟨ones top.toNatClampNeg, rfl, rfl, h⟩
theorem dX0_secondDropped_0 : decode cX0_secondDropped 0 = .ok (.aload_n 0, 1) := by decide +kernel
theorem dX0_secondDropped_1 : decode cX0_secondDropped 1 = .ok (.getfield 19, 3) := by decide +kernel
theorem dX0_secondDropped_4 : decode cX0_secondDropped 4 = .ok (.aload_n 0, 1) := by decide +kernel
theorem dX0_secondDropped_5 : decode cX0_secondDropped 5 = .ok (.getfield 26, 3) := by decide +kernel
theorem dX0_secondDropped_8 : decode cX0_secondDropped 8 = .ok (.iaload, 1) := by decide +kernel
theorem dX0_secondDropped_9 : decode cX0_secondDropped 9 = .ok (.ireturn, 1) := by decide +kernel
/-- QuotientSums$Changes.secondDropped()I -/
def wX0_secondDropped (size : Int32) (top : Int32) (others : Nat → Int32)  (Q : (Int32) → Prop) : Prop :=
  (vp_in top 20 ∧ (Q (others top.toNatClampNeg)))
set_option maxHeartbeats 4000000 in
set_option maxRecDepth 100000 in
theorem mX0_secondDropped (l : Launch) (D : va_G) (Y : Nat → ClassId) (h0 : Nat) (size : Int32) (top : Int32) (v_kinds : Value) (v_cells : Value) (v_ones : Value) (q_others : Nat) (others : Nat → Int32)  (Q : (Int32) → Prop) (h : wX0_secondDropped size top others Q) : gM l D Y yX0_secondDropped cX0_secondDropped 1 (some .int) 0 0 0 0 [.ref h0] [oX0 h0 size top (v_kinds) (v_cells) (v_ones) (.ref q_others), aI Y q_others 20 others] (fun v w => ∃ r : Int32, v = some (.int r) ∧ w = [oX0 h0 size top (v_kinds) (v_cells) (v_ones) (.ref q_others), aI Y q_others 20 others] ∧ Q r) := by
  refine gM_of (own := RX0) (by decide +kernel) rfl (Nat.le_of_ble_eq_true rfl) rfl (fun E C hR => ?_)
  unfold wX0_secondDropped at h
  refine g_aload_n C dX0_secondDropped_0 0 rfl ?_
  refine g_get C inX0 0 rfl rfl 5 (by decide) wF_X0_19 rfl dX0_secondDropped_1 ?_
  refine g_aload_n C dX0_secondDropped_4 0 rfl ?_
  refine g_get C inX0 0 rfl rfl 1 (by decide) wF_X0_26 rfl dX0_secondDropped_5 ?_
  obtain ⟨hc_1, h⟩ := h
  refine g_iald C 1 rfl hc_1 dX0_secondDropped_8 ?_
  exact g_iret C hR (Nat.le_of_ble_eq_true rfl) (Nat.le_of_ble_eq_true rfl) dX0_secondDropped_9 ⟨others top.toNatClampNeg, rfl, rfl, h⟩
