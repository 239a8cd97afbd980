theorem dX1_init_0 : decode cX1_init 0 = .ok (.aload_n 0, 1) := by decide +kernel
theorem dX1_init_1 : decode cX1_init 1 = .ok (.invokespecial 3, 3) := by decide +kernel
theorem dX1_init_4 : decode cX1_init 4 = .ok (.aload_n 0, 1) := by decide +kernel
theorem dX1_init_5 : decode cX1_init 5 = .ok (.sipush 448, 3) := by decide +kernel
theorem dX1_init_8 : decode cX1_init 8 = .ok (.newarray .long, 2) := by decide +kernel
theorem dX1_init_10 : decode cX1_init 10 = .ok (.putfield 11, 3) := by decide +kernel
theorem dX1_init_13 : decode cX1_init 13 = .ok (.aload_n 0, 1) := by decide +kernel
theorem dX1_init_14 : decode cX1_init 14 = .ok (.sipush 448, 3) := by decide +kernel
theorem dX1_init_17 : decode cX1_init 17 = .ok (.newarray .long, 2) := by decide +kernel
theorem dX1_init_19 : decode cX1_init 19 = .ok (.putfield 15, 3) := by decide +kernel
theorem dX1_init_22 : decode cX1_init 22 = .ok (.return_, 1) := by decide +kernel
/-- QuotientSums$Couples.<init>()V -/
def wX1_init   (Q : (Int32) → (Int32) → (Nat → Int64) → (Nat → Int64) → Prop) : Prop :=
  (∀ z_1 : Nat → Int64, z_1 = (fun _ => 0) → ∀ z_2 : Nat → Int64, z_2 = (fun _ => 0) → (Q 0 0 z_1 z_2))
set_option maxHeartbeats 4000000 in
set_option maxRecDepth 100000 in
theorem mX1_init (l : Launch) (D : va_G) (Y : Nat → ClassId) (h0 : Nat)   (Q : (Int32) → (Int32) → (Nat → Int64) → (Nat → Int64) → Prop) (h : wX1_init  Q) : gM l D Y yX1_init cX1_init 1 none 1 20 2 896 [.ref h0] [oX1 h0 (.null) (.null) 0 0] (fun v w => ∃ q_small : Nat, ∃ q_great : Nat, ∃ xF' : Int32, ∃ root' : Int32, ∃ small' : Nat → Int64, ∃ great' : Nat → Int64, v = none ∧ w = [oX1 h0 (.ref q_small) (.ref q_great) xF' root', aJ Y q_small 448 small', aJ Y q_great 448 great'] ∧ Q xF' root' small' great') := by
  refine gM_ofI (own := RX1) (by decide +kernel) rfl rfl (Nat.le_of_ble_eq_true rfl) rfl (fun E C hR hin => ?_)
  unfold wX1_init at h
  refine g_aload_n C dX1_init_0 0 rfl ?_
  refine g_objInit C wM_X1_3 dX1_init_1 (Nat.le_of_ble_eq_true rfl) (Nat.le_of_ble_eq_true rfl) ?_
  refine g_aload_n C dX1_init_4 0 rfl ?_
  refine g_sipush (v := 448) C dX1_init_5 rfl ?_
  refine g_newJ C dX1_init_8 (by decide) rfl (Nat.le_of_ble_eq_true rfl) ⟨Nat.le_of_ble_eq_true rfl, Nat.le_of_ble_eq_true rfl⟩ (fun q_1 z_1 ez_1 => gG.eqw (ws' := [oX1 h0 (.null) (.null) 0 0, aJ Y q_1 448 z_1]) rfl ?_)
  replace h := h z_1 ez_1
  refine g_putF C inX1 tyX1 tyX1_ok nmX1 0 rfl rfl 0 (by decide) wF_X1_11 rfl hin rfl rfl rfl (Nat.le_of_ble_eq_true rfl) (ws' := [oX1 h0 (.ref q_1) (.null) 0 0, aJ Y q_1 448 z_1]) rfl dX1_init_10 ?_
  refine g_aload_n C dX1_init_13 0 rfl ?_
  refine g_sipush (v := 448) C dX1_init_14 rfl ?_
  refine g_newJ C dX1_init_17 (by decide) rfl (Nat.le_of_ble_eq_true rfl) ⟨Nat.le_of_ble_eq_true rfl, Nat.le_of_ble_eq_true rfl⟩ (fun q_2 z_2 ez_2 => gG.eqw (ws' := [oX1 h0 (.ref q_1) (.null) 0 0, aJ Y q_1 448 z_1, aJ Y q_2 448 z_2]) rfl ?_)
  replace h := h z_2 ez_2
  refine g_putF C inX1 tyX1 tyX1_ok nmX1 0 rfl rfl 1 (by decide) wF_X1_15 rfl hin rfl rfl rfl (Nat.le_of_ble_eq_true rfl) (ws' := [oX1 h0 (.ref q_1) (.ref q_2) 0 0, aJ Y q_1 448 z_1, aJ Y q_2 448 z_2]) rfl dX1_init_19 ?_
  exact g_vret C hR (Nat.le_of_ble_eq_true rfl) (Nat.le_of_ble_eq_true rfl) dX1_init_22 ⟨q_1, q_2, 0, 0, z_1, z_2, rfl, rfl, h⟩
theorem dX1_without_0 : decode cX1_without 0 = .ok (.iload_n 1, 1) := by decide +kernel
theorem dX1_without_1 : decode cX1_without 1 = .ok (.aload_n 0, 1) := by decide +kernel
theorem dX1_without_2 : decode cX1_without 2 = .ok (.getfield 27, 3) := by decide +kernel
theorem dX1_without_5 : decode cX1_without 5 = .ok (.if_icmp .gt 19, 3) := by decide +kernel
theorem dX1_without_8 : decode cX1_without 8 = .ok (.iload_n 1, 1) := by decide +kernel
theorem dX1_without_9 : decode cX1_without 9 = .ok (.iconst 1, 1) := by decide +kernel
theorem dX1_without_10 : decode cX1_without 10 = .ok (.if_icmp .ge 7, 3) := by decide +kernel
theorem dX1_without_13 : decode cX1_without 13 = .ok (.lconst 0, 1) := by decide +kernel
theorem dX1_without_14 : decode cX1_without 14 = .ok (.goto 9, 3) := by decide +kernel
theorem dX1_without_17 : decode cX1_without 17 = .ok (.aload_n 0, 1) := by decide +kernel
theorem dX1_without_18 : decode cX1_without 18 = .ok (.getfield 11, 3) := by decide +kernel
theorem dX1_without_21 : decode cX1_without 21 = .ok (.iload_n 1, 1) := by decide +kernel
theorem dX1_without_22 : decode cX1_without 22 = .ok (.laload, 1) := by decide +kernel
theorem dX1_without_23 : decode cX1_without 23 = .ok (.lreturn, 1) := by decide +kernel
theorem dX1_without_24 : decode cX1_without 24 = .ok (.aload_n 0, 1) := by decide +kernel
theorem dX1_without_25 : decode cX1_without 25 = .ok (.getfield 18, 3) := by decide +kernel
theorem dX1_without_28 : decode cX1_without 28 = .ok (.iload_n 1, 1) := by decide +kernel
theorem dX1_without_29 : decode cX1_without 29 = .ok (.idiv, 1) := by decide +kernel
theorem dX1_without_30 : decode cX1_without 30 = .ok (.istore_n 2, 1) := by decide +kernel
theorem dX1_without_31 : decode cX1_without 31 = .ok (.iload_n 2, 1) := by decide +kernel
theorem dX1_without_32 : decode cX1_without 32 = .ok (.iconst 1, 1) := by decide +kernel
theorem dX1_without_33 : decode cX1_without 33 = .ok (.if_icmp .lt 11, 3) := by decide +kernel
theorem dX1_without_36 : decode cX1_without 36 = .ok (.iload_n 2, 1) := by decide +kernel
theorem dX1_without_37 : decode cX1_without 37 = .ok (.aload_n 0, 1) := by decide +kernel
theorem dX1_without_38 : decode cX1_without 38 = .ok (.getfield 27, 3) := by decide +kernel
theorem dX1_without_41 : decode cX1_without 41 = .ok (.if_icmp .le 7, 3) := by decide +kernel
theorem dX1_without_44 : decode cX1_without 44 = .ok (.lconst 0, 1) := by decide +kernel
theorem dX1_without_45 : decode cX1_without 45 = .ok (.goto 9, 3) := by decide +kernel
theorem dX1_without_48 : decode cX1_without 48 = .ok (.aload_n 0, 1) := by decide +kernel
theorem dX1_without_49 : decode cX1_without 49 = .ok (.getfield 15, 3) := by decide +kernel
theorem dX1_without_52 : decode cX1_without 52 = .ok (.iload_n 2, 1) := by decide +kernel
theorem dX1_without_53 : decode cX1_without 53 = .ok (.laload, 1) := by decide +kernel
theorem dX1_without_54 : decode cX1_without 54 = .ok (.lreturn, 1) := by decide +kernel
/-- QuotientSums$Couples.without(I)J -/
def wX1_without (xF : Int32) (root : Int32) (great : Nat → Int64) (small : Nat → Int64) (a1 : Int32) (Q : (Int64) → Prop) : Prop :=
  ((root < a1 → (¬ a1 = 0 ∧ ∀ x2_1 : Int32, x2_1 = xF / a1 → ((x2_1 < 1 → (Q 0)) ∧ (¬ x2_1 < 1 → ((x2_1 ≤ root → (vp_in x2_1 448 ∧ (Q (great x2_1.toNatClampNeg)))) ∧ (¬ x2_1 ≤ root → (Q 0))))))) ∧ (¬ root < a1 → ((1 ≤ a1 → (vp_in a1 448 ∧ (Q (small a1.toNatClampNeg)))) ∧ (¬ 1 ≤ a1 → (Q 0)))))
set_option maxHeartbeats 4000000 in
set_option maxRecDepth 100000 in
theorem mX1_without (l : Launch) (D : va_G) (Y : Nat → ClassId) (h0 : Nat) (q_small : Nat) (q_great : Nat) (xF : Int32) (root : Int32) (great : Nat → Int64) (small : Nat → Int64) (a1 : Int32) (Q : (Int64) → Prop) (h : wX1_without xF root great small a1 Q) : gM l D Y yX1_without cX1_without 3 (some .long) 0 0 0 0 [.ref h0, .int a1] [oX1 h0 (.ref q_small) (.ref q_great) xF root, aJ Y q_great 448 great, aJ Y q_small 448 small] (fun v w => ∃ r : Int64, v = some (.long r) ∧ w = [oX1 h0 (.ref q_small) (.ref q_great) xF root, aJ Y q_great 448 great, aJ Y q_small 448 small] ∧ Q r) := by
  refine gM_of (own := RX1) (by decide +kernel) rfl (Nat.le_of_ble_eq_true rfl) rfl (fun E C hR => ?_)
  unfold wX1_without at h
  refine g_iload_n C dX1_without_0 1 rfl ?_
  refine g_aload_n C dX1_without_1 0 rfl ?_
  refine g_get C inX1 0 rfl rfl 3 (by decide) wF_X1_27 rfl dX1_without_2 ?_
  refine g_icmp_gt (tgt := 24) C dX1_without_5 (by decide) (fun c_1 => ?_) (fun c_1 => ?_)
  · replace h := h.1 c_1
    refine g_aload_n C dX1_without_24 0 rfl ?_
    refine g_get C inX1 0 rfl rfl 2 (by decide) wF_X1_18 rfl dX1_without_25 ?_
    refine g_iload_n C dX1_without_28 1 rfl ?_
    obtain ⟨hc_1, h⟩ := h
    refine g_idiv C dX1_without_29 hc_1 ?_
    refine g_topi (fun x2_1 ex2_1 => ?_)
    replace h := h x2_1 ex2_1
    refine g_istore_n (lv' := [(2, .int x2_1), (0, .ref h0), (1, .int a1)]) C dX1_without_30 (by decide) rfl ?_
    refine g_iload_n C dX1_without_31 0 rfl ?_
    refine g_iconst (v := 1) C dX1_without_32 rfl ?_
    refine g_icmp_lt (tgt := 44) C dX1_without_33 (by decide) (fun c_2 => ?_) (fun c_2 => ?_)
    · replace h := h.1 c_2
      refine g_lconst (v := 0) C dX1_without_44 rfl ?_
      refine g_goto (tgt := 54) C dX1_without_45 (by decide) ?_
      exact g_lret C hR (Nat.le_of_ble_eq_true rfl) (Nat.le_of_ble_eq_true rfl) dX1_without_54 ⟨0, rfl, rfl, h⟩
    · replace h := h.2 c_2
      refine g_iload_n C dX1_without_36 0 rfl ?_
      refine g_aload_n C dX1_without_37 1 rfl ?_
      refine g_get C inX1 0 rfl rfl 3 (by decide) wF_X1_27 rfl dX1_without_38 ?_
      refine g_icmp_le (tgt := 48) C dX1_without_41 (by decide) (fun c_3 => ?_) (fun c_3 => ?_)
      · replace h := h.1 c_3
        refine g_aload_n C dX1_without_48 1 rfl ?_
        refine g_get C inX1 0 rfl rfl 1 (by decide) wF_X1_15 rfl dX1_without_49 ?_
        refine g_iload_n C dX1_without_52 0 rfl ?_
        obtain ⟨hc_2, h⟩ := h
        refine g_lald C 1 rfl hc_2 dX1_without_53 ?_
        exact g_lret C hR (Nat.le_of_ble_eq_true rfl) (Nat.le_of_ble_eq_true rfl) dX1_without_54 ⟨great x2_1.toNatClampNeg, rfl, rfl, h⟩
      · replace h := h.2 c_3
        refine g_lconst (v := 0) C dX1_without_44 rfl ?_
        refine g_goto (tgt := 54) C dX1_without_45 (by decide) ?_
        exact g_lret C hR (Nat.le_of_ble_eq_true rfl) (Nat.le_of_ble_eq_true rfl) dX1_without_54 ⟨0, rfl, rfl, h⟩
  · replace h := h.2 c_1
    refine g_iload_n C dX1_without_8 1 rfl ?_
    refine g_iconst (v := 1) C dX1_without_9 rfl ?_
    refine g_icmp_ge (tgt := 17) C dX1_without_10 (by decide) (fun c_4 => ?_) (fun c_4 => ?_)
    · replace h := h.1 c_4
      refine g_aload_n C dX1_without_17 0 rfl ?_
      refine g_get C inX1 0 rfl rfl 0 (by decide) wF_X1_11 rfl dX1_without_18 ?_
      refine g_iload_n C dX1_without_21 1 rfl ?_
      obtain ⟨hc_3, h⟩ := h
      refine g_lald C 2 rfl hc_3 dX1_without_22 ?_
      exact g_lret C hR (Nat.le_of_ble_eq_true rfl) (Nat.le_of_ble_eq_true rfl) dX1_without_23 ⟨small a1.toNatClampNeg, rfl, rfl, h⟩
    · replace h := h.2 c_4
      refine g_lconst (v := 0) C dX1_without_13 rfl ?_
      refine g_goto (tgt := 23) C dX1_without_14 (by decide) ?_
      exact g_lret C hR (Nat.le_of_ble_eq_true rfl) (Nat.le_of_ble_eq_true rfl) dX1_without_23 ⟨0, rfl, rfl, h⟩
theorem dX1_counted_0 : decode cX1_counted 0 = .ok (.iload_n 1, 1) := by decide +kernel
theorem dX1_counted_1 : decode cX1_counted 1 = .ok (.i2l, 1) := by decide +kernel
theorem dX1_counted_2 : decode cX1_counted 2 = .ok (.iload_n 1, 1) := by decide +kernel
theorem dX1_counted_3 : decode cX1_counted 3 = .ok (.i2l, 1) := by decide +kernel
theorem dX1_counted_4 : decode cX1_counted 4 = .ok (.lmul, 1) := by decide +kernel
theorem dX1_counted_5 : decode cX1_counted 5 = .ok (.lstore_n 2, 1) := by decide +kernel
theorem dX1_counted_6 : decode cX1_counted 6 = .ok (.iconst 2, 1) := by decide +kernel
theorem dX1_counted_7 : decode cX1_counted 7 = .ok (.istore 4, 2) := by decide +kernel
theorem dX1_counted_9 : decode cX1_counted 9 = .ok (.iconst 0, 1) := by decide +kernel
theorem dX1_counted_10 : decode cX1_counted 10 = .ok (.istore 5, 2) := by decide +kernel
theorem dX1_counted_12 : decode cX1_counted 12 = .ok (.iload 4, 2) := by decide +kernel
theorem dX1_counted_14 : decode cX1_counted 14 = .ok (.iload_n 1, 1) := by decide +kernel
theorem dX1_counted_15 : decode cX1_counted 15 = .ok (.if_icmp .gt 49, 3) := by decide +kernel
theorem dX1_counted_18 : decode cX1_counted 18 = .ok (.iload_n 1, 1) := by decide +kernel
theorem dX1_counted_19 : decode cX1_counted 19 = .ok (.iload 4, 2) := by decide +kernel
theorem dX1_counted_21 : decode cX1_counted 21 = .ok (.idiv, 1) := by decide +kernel
theorem dX1_counted_22 : decode cX1_counted 22 = .ok (.istore 6, 2) := by decide +kernel
theorem dX1_counted_24 : decode cX1_counted 24 = .ok (.iload 4, 2) := by decide +kernel
theorem dX1_counted_26 : decode cX1_counted 26 = .ok (.iload_n 1, 1) := by decide +kernel
theorem dX1_counted_27 : decode cX1_counted 27 = .ok (.iload 6, 2) := by decide +kernel
theorem dX1_counted_29 : decode cX1_counted 29 = .ok (.invokestatic 34, 3) := by decide +kernel
theorem dX1_counted_32 : decode cX1_counted 32 = .ok (.invokestatic 38, 3) := by decide +kernel
theorem dX1_counted_35 : decode cX1_counted 35 = .ok (.istore 5, 2) := by decide +kernel
theorem dX1_counted_37 : decode cX1_counted 37 = .ok (.lload_n 2, 1) := by decide +kernel
theorem dX1_counted_38 : decode cX1_counted 38 = .ok (.iload 5, 2) := by decide +kernel
theorem dX1_counted_40 : decode cX1_counted 40 = .ok (.iload 4, 2) := by decide +kernel
theorem dX1_counted_42 : decode cX1_counted 42 = .ok (.isub, 1) := by decide +kernel
theorem dX1_counted_43 : decode cX1_counted 43 = .ok (.iconst 1, 1) := by decide +kernel
theorem dX1_counted_44 : decode cX1_counted 44 = .ok (.iadd, 1) := by decide +kernel
theorem dX1_counted_45 : decode cX1_counted 45 = .ok (.i2l, 1) := by decide +kernel
theorem dX1_counted_46 : decode cX1_counted 46 = .ok (.aload_n 0, 1) := by decide +kernel
theorem dX1_counted_47 : decode cX1_counted 47 = .ok (.iload 6, 2) := by decide +kernel
theorem dX1_counted_49 : decode cX1_counted 49 = .ok (.invokevirtual 43, 3) := by decide +kernel
theorem dX1_counted_52 : decode cX1_counted 52 = .ok (.lmul, 1) := by decide +kernel
theorem dX1_counted_53 : decode cX1_counted 53 = .ok (.lsub, 1) := by decide +kernel
theorem dX1_counted_54 : decode cX1_counted 54 = .ok (.lstore_n 2, 1) := by decide +kernel
theorem dX1_counted_55 : decode cX1_counted 55 = .ok (.iload 5, 2) := by decide +kernel
theorem dX1_counted_57 : decode cX1_counted 57 = .ok (.iconst 1, 1) := by decide +kernel
theorem dX1_counted_58 : decode cX1_counted 58 = .ok (.iadd, 1) := by decide +kernel
theorem dX1_counted_59 : decode cX1_counted 59 = .ok (.istore 4, 2) := by decide +kernel
theorem dX1_counted_61 : decode cX1_counted 61 = .ok (.goto (-49), 3) := by decide +kernel
theorem dX1_counted_64 : decode cX1_counted 64 = .ok (.lload_n 2, 1) := by decide +kernel
theorem dX1_counted_65 : decode cX1_counted 65 = .ok (.lreturn, 1) := by decide +kernel
/-- QuotientSums$Couples.counted(I)J -/
def wX1_counted (xF : Int32) (root : Int32) (great : Nat → Int64) (small : Nat → Int64) (a1 : Int32) (Q : (Int64) → Prop) : Prop :=
  (∀ x2_1 : Int64, x2_1 = (a1.toInt64) * (a1.toInt64) → (∃ (Inv_1 : (Int64) → (Int32) → Prop) (Mea_1 : (Int64) → (Int32) → Nat), Inv_1 x2_1 2 ∧ ∀ (x2_2 : Int64) (x4_1 : Int32), Inv_1 x2_2 x4_1 → ((a1 < x4_1 → (Q x2_2)) ∧ (¬ a1 < x4_1 → (¬ x4_1 = 0 ∧ ∀ x6_1 : Int32, x6_1 = a1 / x4_1 → ∃ (P_1 : (Int32) → Prop), wX10_divided a1 x6_1 P_1 ∧ ∀ (rF_1 : Int32), P_1 rF_1 → ∀ m_1 : Int32, m_1 = (if x4_1 < rF_1 then rF_1 else x4_1) → ∃ (P_2 : (Int64) → Prop), wX1_without xF root great small x6_1 P_2 ∧ ∀ (rF_2 : Int64), P_2 rF_2 → ∀ x2_3 : Int64, x2_3 = x2_2 - ((((m_1 - x4_1) + 1).toInt64) * rF_2) → ∀ x4_2 : Int32, x4_2 = m_1 + 1 → (Inv_1 x2_3 x4_2 ∧ Mea_1 x2_3 x4_2 < Mea_1 x2_2 x4_1))))))
set_option maxHeartbeats 4000000 in
set_option maxRecDepth 100000 in
theorem mX1_counted (l : Launch) (D : va_G) (Y : Nat → ClassId) (h0 : Nat) (q_small : Nat) (q_great : Nat) (xF : Int32) (root : Int32) (great : Nat → Int64) (small : Nat → Int64) (a1 : Int32) (Q : (Int64) → Prop) (h : wX1_counted xF root great small a1 Q) : gM l D Y yX1_counted cX1_counted 7 (some .long) 1 22 0 0 [.ref h0, .int a1] [oX1 h0 (.ref q_small) (.ref q_great) xF root, aJ Y q_great 448 great, aJ Y q_small 448 small] (fun v w => ∃ r : Int64, v = some (.long r) ∧ w = [oX1 h0 (.ref q_small) (.ref q_great) xF root, aJ Y q_great 448 great, aJ Y q_small 448 small] ∧ Q r) := by
  refine gM_of (own := RX1) (by decide +kernel) rfl (Nat.le_of_ble_eq_true rfl) rfl (fun E C hR => ?_)
  unfold wX1_counted at h
  refine g_iload_n C dX1_counted_0 1 rfl ?_
  refine g_i2l C dX1_counted_1 ?_
  refine g_iload_n C dX1_counted_2 1 rfl ?_
  refine g_i2l C dX1_counted_3 ?_
  refine g_lmul C dX1_counted_4 ?_
  refine g_topl (fun x2_1 ex2_1 => ?_)
  replace h := h x2_1 ex2_1
  refine g_lstore_n (lv' := [(2, .long x2_1), (0, .ref h0), (1, .int a1)]) C dX1_counted_5 (by decide) rfl ?_
  refine g_iconst (v := 2) C dX1_counted_6 rfl ?_
  refine g_istore (lv' := [(4, .int 2), (2, .long x2_1), (0, .ref h0), (1, .int a1)]) C dX1_counted_7 (by decide) rfl ?_
  refine g_iconst (v := 0) C dX1_counted_9 rfl ?_
  refine g_istore (lv' := [(5, .int 0), (4, .int 2), (2, .long x2_1), (0, .ref h0), (1, .int a1)]) C dX1_counted_10 (by decide) rfl ?_
  obtain ⟨Inv_1, Mea_1, hI1, hB1⟩ := h
  have key_1 : ∀ (n : Nat) (x2_2 : Int64) (x4_1 : Int32) , Mea_1 x2_2 x4_1 < n → Inv_1 x2_2 x4_1 → gG E 0 0 [oX1 h0 (.ref q_small) (.ref q_great) xF root, aJ Y q_great 448 great, aJ Y q_small 448 small] [(0, .ref h0), (1, .int a1), (2, .long x2_2), (4, .int x4_1)] [] 12 := by
    intro n
    induction n with
    | zero => exact fun _ _ hm => absurd hm (Nat.not_lt_zero _)
    | succ n ih1 =>
      intro x2_2 x4_1  hm1 hI
      have h := hB1 x2_2 x4_1 hI
      refine g_iload C dX1_counted_12 3 rfl ?_
      refine g_iload_n C dX1_counted_14 1 rfl ?_
      refine g_icmp_gt (tgt := 64) C dX1_counted_15 (by decide) (fun c_1 => ?_) (fun c_1 => ?_)
      · replace h := h.1 c_1
        refine g_lload_n C dX1_counted_64 2 rfl ?_
        exact g_lret C hR (Nat.le_of_ble_eq_true rfl) (Nat.le_of_ble_eq_true rfl) dX1_counted_65 ⟨x2_2, rfl, rfl, h⟩
      · replace h := h.2 c_1
        refine g_iload_n C dX1_counted_18 1 rfl ?_
        refine g_iload C dX1_counted_19 3 rfl ?_
        obtain ⟨hc_1, h⟩ := h
        refine g_idiv C dX1_counted_21 hc_1 ?_
        refine g_topi (fun x6_1 ex6_1 => ?_)
        replace h := h x6_1 ex6_1
        refine g_istore (lv' := [(6, .int x6_1), (0, .ref h0), (1, .int a1), (2, .long x2_2), (4, .int x4_1)]) C dX1_counted_22 (by decide) rfl ?_
        refine g_iload C dX1_counted_24 4 rfl ?_
        refine g_iload_n C dX1_counted_26 2 rfl ?_
        refine g_iload C dX1_counted_27 0 rfl ?_
        obtain ⟨P_1, hP, h⟩ := h
        refine g_callSN (As := [.int a1, .int x6_1]) (rest := [.int x4_1]) C (mX10_divided l D Y a1 x6_1 P_1 hP) dX1_counted_29 rfl wNM_X1_34 wS_X10_divided wN_X10 wC_X10_divided (n := 2) (by decide +kernel) rfl ⟨Nat.le_of_ble_eq_true rfl, Nat.le_of_ble_eq_true rfl⟩ ⟨Nat.le_of_ble_eq_true rfl, Nat.le_of_ble_eq_true rfl⟩ (Nat.le_of_ble_eq_true rfl) [] [0, 1, 2] rfl rfl rfl (fun v wc hv => ?_)
        obtain ⟨rF_1, rfl, rfl, hq⟩ := hv
        replace h := h rF_1 hq
        refine gG.eqw (ws' := [oX1 h0 (.ref q_small) (.ref q_great) xF root, aJ Y q_great 448 great, aJ Y q_small 448 small]) rfl ?_
        refine g_mmax C wM_X1_38 dX1_counted_32 ⟨Nat.le_of_ble_eq_true rfl, Nat.le_of_ble_eq_true rfl⟩ ⟨Nat.le_of_ble_eq_true rfl, Nat.le_of_ble_eq_true rfl⟩ ?_
        refine g_topi (fun m_1 em_1 => ?_)
        replace h := h m_1 em_1
        refine g_istore (lv' := [(5, .int m_1), (6, .int x6_1), (0, .ref h0), (1, .int a1), (2, .long x2_2), (4, .int x4_1)]) C dX1_counted_35 (by decide) rfl ?_
        refine g_lload_n C dX1_counted_37 4 rfl ?_
        refine g_iload C dX1_counted_38 0 rfl ?_
        refine g_iload C dX1_counted_40 5 rfl ?_
        refine g_isub C dX1_counted_42 ?_
        refine g_iconst (v := 1) C dX1_counted_43 rfl ?_
        refine g_iadd C dX1_counted_44 ?_
        refine g_i2l C dX1_counted_45 ?_
        refine g_aload_n C dX1_counted_46 2 rfl ?_
        refine g_iload C dX1_counted_47 1 rfl ?_
        obtain ⟨P_2, hP, h⟩ := h
        refine g_callV (As := [.int x6_1]) (rest := [.long (((m_1 - x4_1) + 1).toInt64), .long x2_2]) C (mX1_without l D Y h0 q_small q_great xF root great small x6_1 P_2 hP) dX1_counted_49 rfl wM_X1_43 wI_X1_without wV_X1_without wN_X1 wC_X1_without (n := 1) (by decide +kernel) rfl (q0 := 0) rfl rfl ⟨Nat.le_of_ble_eq_true rfl, Nat.le_of_ble_eq_true rfl⟩ ⟨Nat.le_of_ble_eq_true rfl, Nat.le_of_ble_eq_true rfl⟩ (Nat.le_of_ble_eq_true rfl) [0, 1, 2] [] rfl rfl rfl (fun v wc hv => ?_)
        obtain ⟨rF_2, rfl, rfl, hq⟩ := hv
        replace h := h rF_2 hq
        refine gG.eqw (ws' := [oX1 h0 (.ref q_small) (.ref q_great) xF root, aJ Y q_great 448 great, aJ Y q_small 448 small]) rfl ?_
        refine g_lmul C dX1_counted_52 ?_
        refine g_lsub C dX1_counted_53 ?_
        refine g_topl (fun x2_3 ex2_3 => ?_)
        replace h := h x2_3 ex2_3
        refine g_lstore_n (lv' := [(2, .long x2_3), (5, .int m_1), (6, .int x6_1), (0, .ref h0), (1, .int a1), (4, .int x4_1)]) C dX1_counted_54 (by decide) rfl ?_
        refine g_iload C dX1_counted_55 1 rfl ?_
        refine g_iconst (v := 1) C dX1_counted_57 rfl ?_
        refine g_iadd C dX1_counted_58 ?_
        refine g_topi (fun x4_2 ex4_2 => ?_)
        replace h := h x4_2 ex4_2
        refine g_istore (lv' := [(4, .int x4_2), (2, .long x2_3), (5, .int m_1), (6, .int x6_1), (0, .ref h0), (1, .int a1)]) C dX1_counted_59 (by decide) rfl ?_
        refine g_goto (tgt := 12) C dX1_counted_61 (by decide) ?_
        refine gG.locals (lv' := [(0, .ref h0), (1, .int a1), (2, .long x2_3), (4, .int x4_2)]) [4, 5, 1, 0] rfl ?_
        exact ih1 x2_3 x4_2 (Nat.lt_of_lt_of_le h.2 (Nat.le_of_lt_succ hm1)) h.1
  refine gG.locals (lv' := [(0, .ref h0), (1, .int a1), (2, .long x2_1), (4, .int 2)]) [3, 4, 2, 1] rfl ?_
  exact key_1 (Mea_1 x2_1 2 + 1) x2_1 2 (Nat.lt_succ_self _) hI1
theorem dX1_reach_0 : decode cX1_reach 0 = .ok (.aload_n 0, 1) := by decide +kernel
theorem dX1_reach_1 : decode cX1_reach 1 = .ok (.getfield 18, 3) := by decide +kernel
theorem dX1_reach_4 : decode cX1_reach 4 = .ok (.iload_n 1, 1) := by decide +kernel
theorem dX1_reach_5 : decode cX1_reach 5 = .ok (.if_icmp .eq 13, 3) := by decide +kernel
theorem dX1_reach_8 : decode cX1_reach 8 = .ok (.iload_n 1, 1) := by decide +kernel
theorem dX1_reach_9 : decode cX1_reach 9 = .ok (.ifCond .lt 9, 3) := by decide +kernel
theorem dX1_reach_12 : decode cX1_reach 12 = .ok (.iload_n 1, 1) := by decide +kernel
theorem dX1_reach_13 : decode cX1_reach 13 = .ok (.ldc 22, 2) := by decide +kernel
theorem dX1_reach_15 : decode cX1_reach 15 = .ok (.if_icmp .le 4, 3) := by decide +kernel
theorem dX1_reach_18 : decode cX1_reach 18 = .ok (.return_, 1) := by decide +kernel
theorem dX1_reach_19 : decode cX1_reach 19 = .ok (.aload_n 0, 1) := by decide +kernel
theorem dX1_reach_20 : decode cX1_reach 20 = .ok (.iload_n 1, 1) := by decide +kernel
theorem dX1_reach_21 : decode cX1_reach 21 = .ok (.putfield 18, 3) := by decide +kernel
theorem dX1_reach_24 : decode cX1_reach 24 = .ok (.aload_n 0, 1) := by decide +kernel
theorem dX1_reach_25 : decode cX1_reach 25 = .ok (.iload_n 1, 1) := by decide +kernel
theorem dX1_reach_26 : decode cX1_reach 26 = .ok (.invokestatic 23, 3) := by decide +kernel
theorem dX1_reach_29 : decode cX1_reach 29 = .ok (.putfield 27, 3) := by decide +kernel
theorem dX1_reach_32 : decode cX1_reach 32 = .ok (.iconst 1, 1) := by decide +kernel
theorem dX1_reach_33 : decode cX1_reach 33 = .ok (.istore_n 2, 1) := by decide +kernel
theorem dX1_reach_34 : decode cX1_reach 34 = .ok (.iload_n 2, 1) := by decide +kernel
theorem dX1_reach_35 : decode cX1_reach 35 = .ok (.aload_n 0, 1) := by decide +kernel
theorem dX1_reach_36 : decode cX1_reach 36 = .ok (.getfield 27, 3) := by decide +kernel
theorem dX1_reach_39 : decode cX1_reach 39 = .ok (.if_icmp .gt 20, 3) := by decide +kernel
theorem dX1_reach_42 : decode cX1_reach 42 = .ok (.aload_n 0, 1) := by decide +kernel
theorem dX1_reach_43 : decode cX1_reach 43 = .ok (.getfield 11, 3) := by decide +kernel
theorem dX1_reach_46 : decode cX1_reach 46 = .ok (.iload_n 2, 1) := by decide +kernel
theorem dX1_reach_47 : decode cX1_reach 47 = .ok (.aload_n 0, 1) := by decide +kernel
theorem dX1_reach_48 : decode cX1_reach 48 = .ok (.iload_n 2, 1) := by decide +kernel
theorem dX1_reach_49 : decode cX1_reach 49 = .ok (.invokevirtual 30, 3) := by decide +kernel
theorem dX1_reach_52 : decode cX1_reach 52 = .ok (.lastore, 1) := by decide +kernel
theorem dX1_reach_53 : decode cX1_reach 53 = .ok (.iinc 2 1, 3) := by decide +kernel
theorem dX1_reach_56 : decode cX1_reach 56 = .ok (.goto (-22), 3) := by decide +kernel
theorem dX1_reach_59 : decode cX1_reach 59 = .ok (.aload_n 0, 1) := by decide +kernel
theorem dX1_reach_60 : decode cX1_reach 60 = .ok (.getfield 27, 3) := by decide +kernel
theorem dX1_reach_63 : decode cX1_reach 63 = .ok (.istore_n 2, 1) := by decide +kernel
theorem dX1_reach_64 : decode cX1_reach 64 = .ok (.iload_n 2, 1) := by decide +kernel
theorem dX1_reach_65 : decode cX1_reach 65 = .ok (.iconst 1, 1) := by decide +kernel
theorem dX1_reach_66 : decode cX1_reach 66 = .ok (.if_icmp .lt 25, 3) := by decide +kernel
theorem dX1_reach_69 : decode cX1_reach 69 = .ok (.aload_n 0, 1) := by decide +kernel
theorem dX1_reach_70 : decode cX1_reach 70 = .ok (.getfield 15, 3) := by decide +kernel
theorem dX1_reach_73 : decode cX1_reach 73 = .ok (.iload_n 2, 1) := by decide +kernel
theorem dX1_reach_74 : decode cX1_reach 74 = .ok (.aload_n 0, 1) := by decide +kernel
theorem dX1_reach_75 : decode cX1_reach 75 = .ok (.aload_n 0, 1) := by decide +kernel
theorem dX1_reach_76 : decode cX1_reach 76 = .ok (.getfield 18, 3) := by decide +kernel
theorem dX1_reach_79 : decode cX1_reach 79 = .ok (.iload_n 2, 1) := by decide +kernel
theorem dX1_reach_80 : decode cX1_reach 80 = .ok (.idiv, 1) := by decide +kernel
theorem dX1_reach_81 : decode cX1_reach 81 = .ok (.invokevirtual 30, 3) := by decide +kernel
theorem dX1_reach_84 : decode cX1_reach 84 = .ok (.lastore, 1) := by decide +kernel
theorem dX1_reach_85 : decode cX1_reach 85 = .ok (.iinc 2 (-1), 3) := by decide +kernel
theorem dX1_reach_88 : decode cX1_reach 88 = .ok (.goto (-24), 3) := by decide +kernel
theorem dX1_reach_91 : decode cX1_reach 91 = .ok (.return_, 1) := by decide +kernel
/-- QuotientSums$Couples.reach(I)V -/
def wX1_reach (xF : Int32) (root : Int32) (great : Nat → Int64) (small : Nat → Int64) (a1 : Int32) (Q : (Int32) → (Int32) → (Nat → Int64) → (Nat → Int64) → Prop) : Prop :=
  ((xF = a1 → (Q xF root great small)) ∧ (¬ xF = a1 → ((a1 < 0 → (Q xF root great small)) ∧ (¬ a1 < 0 → ((a1 ≤ 200000 → (∃ (P_1 : (Int32) → Prop), wX10_rootOf a1 P_1 ∧ ∀ (rF_1 : Int32), P_1 rF_1 → (∃ (Inv_1 : (Nat → Int64) → (Int32) → Prop) (Mea_1 : (Nat → Int64) → (Int32) → Nat), Inv_1 small 1 ∧ ∀ (small_1 : Nat → Int64) (x2_1 : Int32), Inv_1 small_1 x2_1 → ((rF_1 < x2_1 → (∃ (Inv_2 : (Nat → Int64) → (Int32) → Prop) (Mea_2 : (Nat → Int64) → (Int32) → Nat), Inv_2 great rF_1 ∧ ∀ (great_1 : Nat → Int64) (x2_2 : Int32), Inv_2 great_1 x2_2 → ((x2_2 < 1 → (Q a1 rF_1 great_1 small_1)) ∧ (¬ x2_2 < 1 → (¬ x2_2 = 0 ∧ ∃ (P_2 : (Int64) → Prop), wX1_counted a1 rF_1 great_1 small_1 (a1 / x2_2) P_2 ∧ ∀ (rF_2 : Int64), P_2 rF_2 → vp_in x2_2 448 ∧ ∀ great_2 : Nat → Int64, great_2 = vp_updL great_1 x2_2.toNatClampNeg rF_2 → (Inv_2 great_2 (x2_2 + (-1)) ∧ Mea_2 great_2 (x2_2 + (-1)) < Mea_2 great_1 x2_2)))))) ∧ (¬ rF_1 < x2_1 → (∃ (P_3 : (Int64) → Prop), wX1_counted a1 rF_1 great small_1 x2_1 P_3 ∧ ∀ (rF_3 : Int64), P_3 rF_3 → vp_in x2_1 448 ∧ ∀ small_2 : Nat → Int64, small_2 = vp_updL small_1 x2_1.toNatClampNeg rF_3 → (Inv_1 small_2 (x2_1 + 1) ∧ Mea_1 small_2 (x2_1 + 1) < Mea_1 small_1 x2_1))))))) ∧ (¬ a1 ≤ 200000 → (Q xF root great small)))))))
set_option maxHeartbeats 4000000 in
set_option maxRecDepth 100000 in
theorem mX1_reach (l : Launch) (D : va_G) (Y : Nat → ClassId) (h0 : Nat) (q_small : Nat) (q_great : Nat) (xF : Int32) (root : Int32) (great : Nat → Int64) (small : Nat → Int64) (a1 : Int32) (Q : (Int32) → (Int32) → (Nat → Int64) → (Nat → Int64) → Prop) (h : wX1_reach xF root great small a1 Q) : gM l D Y yX1_reach cX1_reach 3 none 2 48 0 0 [.ref h0, .int a1] [oX1 h0 (.ref q_small) (.ref q_great) xF root, aJ Y q_great 448 great, aJ Y q_small 448 small] (fun v w => ∃ xF' : Int32, ∃ root' : Int32, ∃ great' : Nat → Int64, ∃ small' : Nat → Int64, v = none ∧ w = [oX1 h0 (.ref q_small) (.ref q_great) xF' root', aJ Y q_great 448 great', aJ Y q_small 448 small'] ∧ Q xF' root' great' small') := by
  refine gM_of (own := RX1) (by decide +kernel) rfl (Nat.le_of_ble_eq_true rfl) rfl (fun E C hR => ?_)
  unfold wX1_reach at h
  refine g_aload_n C dX1_reach_0 0 rfl ?_
  refine g_get C inX1 0 rfl rfl 2 (by decide) wF_X1_18 rfl dX1_reach_1 ?_
  refine g_iload_n C dX1_reach_4 1 rfl ?_
  refine g_icmp_eq (tgt := 18) C dX1_reach_5 (by decide) (fun c_1 => ?_) (fun c_1 => ?_)
  · replace h := h.1 c_1
    exact g_vret C hR (Nat.le_of_ble_eq_true rfl) (Nat.le_of_ble_eq_true rfl) dX1_reach_18 ⟨xF, root, great, small, rfl, rfl, h⟩
  · replace h := h.2 c_1
    refine g_iload_n C dX1_reach_8 1 rfl ?_
    refine g_if_lt (tgt := 18) C dX1_reach_9 (by decide) (fun c_2 => ?_) (fun c_2 => ?_)
    · replace h := h.1 c_2
      exact g_vret C hR (Nat.le_of_ble_eq_true rfl) (Nat.le_of_ble_eq_true rfl) dX1_reach_18 ⟨xF, root, great, small, rfl, rfl, h⟩
    · replace h := h.2 c_2
      refine g_iload_n C dX1_reach_12 1 rfl ?_
      refine g_ldc C dX1_reach_13 wK_X1_22 ?_
      refine g_icmp_le (tgt := 19) C dX1_reach_15 (by decide) (fun c_3 => ?_) (fun c_3 => ?_)
      · replace h := h.1 c_3
        refine g_aload_n C dX1_reach_19 0 rfl ?_
        refine g_iload_n C dX1_reach_20 1 rfl ?_
        refine g_put C inX1 tyX1 tyX1_ok nmX1 0 rfl rfl 2 (by decide) wF_X1_18 rfl rfl rfl (Nat.le_of_ble_eq_true rfl) (ws' := [oX1 h0 (.ref q_small) (.ref q_great) a1 root, aJ Y q_great 448 great, aJ Y q_small 448 small]) rfl dX1_reach_21 ?_
        refine g_aload_n C dX1_reach_24 0 rfl ?_
        refine g_iload_n C dX1_reach_25 1 rfl ?_
        obtain ⟨P_1, hP, h⟩ := h
        refine g_callSN (As := [.int a1]) (rest := [.ref h0]) C (mX10_rootOf l D Y a1 P_1 hP) dX1_reach_26 rfl wNM_X1_23 wS_X10_rootOf wN_X10 wC_X10_rootOf (n := 1) (by decide +kernel) rfl ⟨Nat.le_of_ble_eq_true rfl, Nat.le_of_ble_eq_true rfl⟩ ⟨Nat.le_of_ble_eq_true rfl, Nat.le_of_ble_eq_true rfl⟩ (Nat.le_of_ble_eq_true rfl) [] [0, 1, 2] rfl rfl rfl (fun v wc hv => ?_)
        obtain ⟨rF_1, rfl, rfl, hq⟩ := hv
        replace h := h rF_1 hq
        refine gG.eqw (ws' := [oX1 h0 (.ref q_small) (.ref q_great) a1 root, aJ Y q_great 448 great, aJ Y q_small 448 small]) rfl ?_
        refine g_put C inX1 tyX1 tyX1_ok nmX1 0 rfl rfl 3 (by decide) wF_X1_27 rfl rfl rfl (Nat.le_of_ble_eq_true rfl) (ws' := [oX1 h0 (.ref q_small) (.ref q_great) a1 rF_1, aJ Y q_great 448 great, aJ Y q_small 448 small]) rfl dX1_reach_29 ?_
        refine g_iconst (v := 1) C dX1_reach_32 rfl ?_
        refine g_istore_n (lv' := [(2, .int 1), (0, .ref h0), (1, .int a1)]) C dX1_reach_33 (by decide) rfl ?_
        obtain ⟨Inv_1, Mea_1, hI1, hB1⟩ := h
        have key_1 : ∀ (n : Nat) (small_1 : Nat → Int64) (x2_1 : Int32) , Mea_1 small_1 x2_1 < n → Inv_1 small_1 x2_1 → gG E 0 0 [oX1 h0 (.ref q_small) (.ref q_great) a1 rF_1, aJ Y q_great 448 great, aJ Y q_small 448 small_1] [(0, .ref h0), (2, .int x2_1)] [] 34 := by
          intro n
          induction n with
          | zero => exact fun _ _ hm => absurd hm (Nat.not_lt_zero _)
          | succ n ih1 =>
            intro small_1 x2_1  hm1 hI
            have h := hB1 small_1 x2_1 hI
            refine g_iload_n C dX1_reach_34 1 rfl ?_
            refine g_aload_n C dX1_reach_35 0 rfl ?_
            refine g_get C inX1 0 rfl rfl 3 (by decide) wF_X1_27 rfl dX1_reach_36 ?_
            refine g_icmp_gt (tgt := 59) C dX1_reach_39 (by decide) (fun c_4 => ?_) (fun c_4 => ?_)
            · replace h := h.1 c_4
              refine g_aload_n C dX1_reach_59 0 rfl ?_
              refine g_get C inX1 0 rfl rfl 3 (by decide) wF_X1_27 rfl dX1_reach_60 ?_
              refine g_istore_n (lv' := [(2, .int rF_1), (0, .ref h0)]) C dX1_reach_63 (by decide) rfl ?_
              obtain ⟨Inv_2, Mea_2, hI2, hB2⟩ := h
              have key_2 : ∀ (n : Nat) (great_1 : Nat → Int64) (x2_2 : Int32) , Mea_2 great_1 x2_2 < n → Inv_2 great_1 x2_2 → gG E 0 0 [oX1 h0 (.ref q_small) (.ref q_great) a1 rF_1, aJ Y q_great 448 great_1, aJ Y q_small 448 small_1] [(0, .ref h0), (2, .int x2_2)] [] 64 := by
                intro n
                induction n with
                | zero => exact fun _ _ hm => absurd hm (Nat.not_lt_zero _)
                | succ n ih2 =>
                  intro great_1 x2_2  hm2 hI
                  have h := hB2 great_1 x2_2 hI
                  refine g_iload_n C dX1_reach_64 1 rfl ?_
                  refine g_iconst (v := 1) C dX1_reach_65 rfl ?_
                  refine g_icmp_lt (tgt := 91) C dX1_reach_66 (by decide) (fun c_5 => ?_) (fun c_5 => ?_)
                  · replace h := h.1 c_5
                    exact g_vret C hR (Nat.le_of_ble_eq_true rfl) (Nat.le_of_ble_eq_true rfl) dX1_reach_91 ⟨a1, rF_1, great_1, small_1, rfl, rfl, h⟩
                  · replace h := h.2 c_5
                    refine g_aload_n C dX1_reach_69 0 rfl ?_
                    refine g_get C inX1 0 rfl rfl 1 (by decide) wF_X1_15 rfl dX1_reach_70 ?_
                    refine g_iload_n C dX1_reach_73 1 rfl ?_
                    refine g_aload_n C dX1_reach_74 0 rfl ?_
                    refine g_aload_n C dX1_reach_75 0 rfl ?_
                    refine g_get C inX1 0 rfl rfl 2 (by decide) wF_X1_18 rfl dX1_reach_76 ?_
                    refine g_iload_n C dX1_reach_79 1 rfl ?_
                    obtain ⟨hc_1, h⟩ := h
                    refine g_idiv C dX1_reach_80 hc_1 ?_
                    obtain ⟨P_2, hP, h⟩ := h
                    refine g_callV (As := [.int (a1 / x2_2)]) (rest := [.int x2_2, .ref q_great]) C (mX1_counted l D Y h0 q_small q_great a1 rF_1 great_1 small_1 (a1 / x2_2) P_2 hP) dX1_reach_81 rfl wM_X1_30 wI_X1_counted wV_X1_counted wN_X1 wC_X1_counted (n := 1) (by decide +kernel) rfl (q0 := 0) rfl rfl ⟨Nat.le_of_ble_eq_true rfl, Nat.le_of_ble_eq_true rfl⟩ ⟨Nat.le_of_ble_eq_true rfl, Nat.le_of_ble_eq_true rfl⟩ (Nat.le_of_ble_eq_true rfl) [0, 1, 2] [] rfl rfl rfl (fun v wc hv => ?_)
                    obtain ⟨rF_2, rfl, rfl, hq⟩ := hv
                    replace h := h rF_2 hq
                    refine gG.eqw (ws' := [oX1 h0 (.ref q_small) (.ref q_great) a1 rF_1, aJ Y q_great 448 great_1, aJ Y q_small 448 small_1]) rfl ?_
                    obtain ⟨hc_2, h⟩ := h
                    refine g_last C 1 rfl hc_2 dX1_reach_84 (fun great_2 egreat_2 => gG.eqw (ws' := [oX1 h0 (.ref q_small) (.ref q_great) a1 rF_1, aJ Y q_great 448 great_2, aJ Y q_small 448 small_1]) rfl ?_)
                    replace h := h great_2 egreat_2
                    refine g_iinc (v := x2_2 + (-1)) (lv' := [(2, .int (x2_2 + (-1))), (0, .ref h0)]) C dX1_reach_85 1 rfl rfl (by decide) rfl ?_
                    refine g_goto (tgt := 64) C dX1_reach_88 (by decide) ?_
                    refine gG.locals (lv' := [(0, .ref h0), (2, .int (x2_2 + (-1)))]) [1, 0] rfl ?_
                    exact ih2 great_2 (x2_2 + (-1)) (Nat.lt_of_lt_of_le h.2 (Nat.le_of_lt_succ hm2)) h.1
              refine gG.locals (lv' := [(0, .ref h0), (2, .int rF_1)]) [1, 0] rfl ?_
              exact key_2 (Mea_2 great rF_1 + 1) great rF_1 (Nat.lt_succ_self _) hI2
            · replace h := h.2 c_4
              refine g_aload_n C dX1_reach_42 0 rfl ?_
              refine g_get C inX1 0 rfl rfl 0 (by decide) wF_X1_11 rfl dX1_reach_43 ?_
              refine g_iload_n C dX1_reach_46 1 rfl ?_
              refine g_aload_n C dX1_reach_47 0 rfl ?_
              refine g_iload_n C dX1_reach_48 1 rfl ?_
              obtain ⟨P_3, hP, h⟩ := h
              refine g_callV (As := [.int x2_1]) (rest := [.int x2_1, .ref q_small]) C (mX1_counted l D Y h0 q_small q_great a1 rF_1 great small_1 x2_1 P_3 hP) dX1_reach_49 rfl wM_X1_30 wI_X1_counted wV_X1_counted wN_X1 wC_X1_counted (n := 1) (by decide +kernel) rfl (q0 := 0) rfl rfl ⟨Nat.le_of_ble_eq_true rfl, Nat.le_of_ble_eq_true rfl⟩ ⟨Nat.le_of_ble_eq_true rfl, Nat.le_of_ble_eq_true rfl⟩ (Nat.le_of_ble_eq_true rfl) [0, 1, 2] [] rfl rfl rfl (fun v wc hv => ?_)
              obtain ⟨rF_3, rfl, rfl, hq⟩ := hv
              replace h := h rF_3 hq
              refine gG.eqw (ws' := [oX1 h0 (.ref q_small) (.ref q_great) a1 rF_1, aJ Y q_great 448 great, aJ Y q_small 448 small_1]) rfl ?_
              obtain ⟨hc_3, h⟩ := h
              refine g_last C 2 rfl hc_3 dX1_reach_52 (fun small_2 esmall_2 => gG.eqw (ws' := [oX1 h0 (.ref q_small) (.ref q_great) a1 rF_1, aJ Y q_great 448 great, aJ Y q_small 448 small_2]) rfl ?_)
              replace h := h small_2 esmall_2
              refine g_iinc (v := x2_1 + 1) (lv' := [(2, .int (x2_1 + 1)), (0, .ref h0)]) C dX1_reach_53 1 rfl rfl (by decide) rfl ?_
              refine g_goto (tgt := 34) C dX1_reach_56 (by decide) ?_
              refine gG.locals (lv' := [(0, .ref h0), (2, .int (x2_1 + 1))]) [1, 0] rfl ?_
              exact ih1 small_2 (x2_1 + 1) (Nat.lt_of_lt_of_le h.2 (Nat.le_of_lt_succ hm1)) h.1
        refine gG.locals (lv' := [(0, .ref h0), (2, .int 1)]) [1, 0] rfl ?_
        exact key_1 (Mea_1 small 1 + 1) small 1 (Nat.lt_succ_self _) hI1
      · replace h := h.2 c_3
        exact g_vret C hR (Nat.le_of_ble_eq_true rfl) (Nat.le_of_ble_eq_true rfl) dX1_reach_18 ⟨xF, root, great, small, rfl, rfl, h⟩
theorem dX4_init_0 : decode cX4_init 0 = .ok (.aload_n 0, 1) := by decide +kernel
theorem dX4_init_1 : decode cX4_init 1 = .ok (.invokespecial 3, 3) := by decide +kernel
theorem dX4_init_4 : decode cX4_init 4 = .ok (.aload_n 0, 1) := by decide +kernel
theorem dX4_init_5 : decode cX4_init 5 = .ok (.bipush 18, 2) := by decide +kernel
theorem dX4_init_7 : decode cX4_init 7 = .ok (.newarray .int, 2) := by decide +kernel
theorem dX4_init_9 : decode cX4_init 9 = .ok (.putfield 11, 3) := by decide +kernel
theorem dX4_init_12 : decode cX4_init 12 = .ok (.aload_n 0, 1) := by decide +kernel
theorem dX4_init_13 : decode cX4_init 13 = .ok (.sipush 216, 3) := by decide +kernel
theorem dX4_init_16 : decode cX4_init 16 = .ok (.newarray .int, 2) := by decide +kernel
theorem dX4_init_18 : decode cX4_init 18 = .ok (.putfield 15, 3) := by decide +kernel
theorem dX4_init_21 : decode cX4_init 21 = .ok (.aload_n 0, 1) := by decide +kernel
theorem dX4_init_22 : decode cX4_init 22 = .ok (.getfield 11, 3) := by decide +kernel
theorem dX4_init_25 : decode cX4_init 25 = .ok (.iconst 0, 1) := by decide +kernel
theorem dX4_init_26 : decode cX4_init 26 = .ok (.iconst 1, 1) := by decide +kernel
theorem dX4_init_27 : decode cX4_init 27 = .ok (.iastore, 1) := by decide +kernel
theorem dX4_init_28 : decode cX4_init 28 = .ok (.iconst 0, 1) := by decide +kernel
theorem dX4_init_29 : decode cX4_init 29 = .ok (.istore_n 1, 1) := by decide +kernel
theorem dX4_init_30 : decode cX4_init 30 = .ok (.iload_n 1, 1) := by decide +kernel
theorem dX4_init_31 : decode cX4_init 31 = .ok (.bipush 12, 2) := by decide +kernel
theorem dX4_init_33 : decode cX4_init 33 = .ok (.if_icmp .ge 19, 3) := by decide +kernel
theorem dX4_init_36 : decode cX4_init 36 = .ok (.aload_n 0, 1) := by decide +kernel
theorem dX4_init_37 : decode cX4_init 37 = .ok (.getfield 15, 3) := by decide +kernel
theorem dX4_init_40 : decode cX4_init 40 = .ok (.iload_n 1, 1) := by decide +kernel
theorem dX4_init_41 : decode cX4_init 41 = .ok (.bipush 18, 2) := by decide +kernel
theorem dX4_init_43 : decode cX4_init 43 = .ok (.imul, 1) := by decide +kernel
theorem dX4_init_44 : decode cX4_init 44 = .ok (.iconst 1, 1) := by decide +kernel
theorem dX4_init_45 : decode cX4_init 45 = .ok (.iastore, 1) := by decide +kernel
theorem dX4_init_46 : decode cX4_init 46 = .ok (.iinc 1 1, 3) := by decide +kernel
theorem dX4_init_49 : decode cX4_init 49 = .ok (.goto (-19), 3) := by decide +kernel
theorem dX4_init_52 : decode cX4_init 52 = .ok (.return_, 1) := by decide +kernel
/-- QuotientSums$Powers.<init>()V -/
def wX4_init   (Q : (Nat → Int32) → (Nat → Int32) → Prop) : Prop :=
  (∀ z_1 : Nat → Int32, z_1 = (fun _ => 0) → ∀ z_2 : Nat → Int32, z_2 = (fun _ => 0) → ∀ z_3 : Nat → Int32, z_3 = upd z_1 0 1 → (∃ (Inv_1 : (Nat → Int32) → (Int32) → Prop) (Mea_1 : (Nat → Int32) → (Int32) → Nat), Inv_1 z_2 0 ∧ ∀ (z_4 : Nat → Int32) (x1_1 : Int32), Inv_1 z_4 x1_1 → ((12 ≤ x1_1 → (Q z_3 z_4)) ∧ (¬ 12 ≤ x1_1 → (vp_in (x1_1 * 18) 216 ∧ ∀ z_5 : Nat → Int32, z_5 = upd z_4 (x1_1 * 18).toNatClampNeg 1 → (Inv_1 z_5 (x1_1 + 1) ∧ Mea_1 z_5 (x1_1 + 1) < Mea_1 z_4 x1_1))))))
set_option maxHeartbeats 4000000 in
set_option maxRecDepth 100000 in
theorem mX4_init (l : Launch) (D : va_G) (Y : Nat → ClassId) (h0 : Nat)   (Q : (Nat → Int32) → (Nat → Int32) → Prop) (h : wX4_init  Q) : gM l D Y yX4_init cX4_init 2 none 1 20 2 234 [.ref h0] [oX4 h0 (.null) (.null)] (fun v w => ∃ q_ofPrime : Nat, ∃ q_cells : Nat, ∃ ofPrime' : Nat → Int32, ∃ cells' : Nat → Int32, v = none ∧ w = [oX4 h0 (.ref q_ofPrime) (.ref q_cells), aI Y q_ofPrime 18 ofPrime', aI Y q_cells 216 cells'] ∧ Q ofPrime' cells') := by
  refine gM_ofI (own := RX4) (by decide +kernel) rfl rfl (Nat.le_of_ble_eq_true rfl) rfl (fun E C hR hin => ?_)
  unfold wX4_init at h
  refine g_aload_n C dX4_init_0 0 rfl ?_
  refine g_objInit C wM_X4_3 dX4_init_1 (Nat.le_of_ble_eq_true rfl) (Nat.le_of_ble_eq_true rfl) ?_
  refine g_aload_n C dX4_init_4 0 rfl ?_
  refine g_bipush (v := 18) C dX4_init_5 rfl ?_
  refine g_newI C dX4_init_7 (by decide) rfl (Nat.le_of_ble_eq_true rfl) ⟨Nat.le_of_ble_eq_true rfl, Nat.le_of_ble_eq_true rfl⟩ (fun q_1 z_1 ez_1 => gG.eqw (ws' := [oX4 h0 (.null) (.null), aI Y q_1 18 z_1]) rfl ?_)
  replace h := h z_1 ez_1
  refine g_putF C inX4 tyX4 tyX4_ok nmX4 0 rfl rfl 0 (by decide) wF_X4_11 rfl hin rfl rfl rfl (Nat.le_of_ble_eq_true rfl) (ws' := [oX4 h0 (.ref q_1) (.null), aI Y q_1 18 z_1]) rfl dX4_init_9 ?_
  refine g_aload_n C dX4_init_12 0 rfl ?_
  refine g_sipush (v := 216) C dX4_init_13 rfl ?_
  refine g_newI C dX4_init_16 (by decide) rfl (Nat.le_of_ble_eq_true rfl) ⟨Nat.le_of_ble_eq_true rfl, Nat.le_of_ble_eq_true rfl⟩ (fun q_2 z_2 ez_2 => gG.eqw (ws' := [oX4 h0 (.ref q_1) (.null), aI Y q_1 18 z_1, aI Y q_2 216 z_2]) rfl ?_)
  replace h := h z_2 ez_2
  refine g_putF C inX4 tyX4 tyX4_ok nmX4 0 rfl rfl 1 (by decide) wF_X4_15 rfl hin rfl rfl rfl (Nat.le_of_ble_eq_true rfl) (ws' := [oX4 h0 (.ref q_1) (.ref q_2), aI Y q_1 18 z_1, aI Y q_2 216 z_2]) rfl dX4_init_18 ?_
  refine g_aload_n C dX4_init_21 0 rfl ?_
  refine g_get C inX4 0 rfl rfl 0 (by decide) wF_X4_11 rfl dX4_init_22 ?_
  refine g_iconst (v := 0) C dX4_init_25 rfl ?_
  refine g_iconst (v := 1) C dX4_init_26 rfl ?_
  refine g_iast C 1 rfl (by unfold vp_in; decide) dX4_init_27 (fun z_3 ez_3 => gG.eqw (ws' := [oX4 h0 (.ref q_1) (.ref q_2), aI Y q_1 18 z_3, aI Y q_2 216 z_2]) rfl ?_)
  replace h := h z_3 ez_3
  refine g_iconst (v := 0) C dX4_init_28 rfl ?_
  refine g_istore_n (lv' := [(1, .int 0), (0, .ref h0)]) C dX4_init_29 (by decide) rfl ?_
  obtain ⟨Inv_1, Mea_1, hI1, hB1⟩ := h
  have key_1 : ∀ (n : Nat) (z_4 : Nat → Int32) (x1_1 : Int32) , Mea_1 z_4 x1_1 < n → Inv_1 z_4 x1_1 → gG E (0 + 1 + 1) (0 + 18 + 216) [oX4 h0 (.ref q_1) (.ref q_2), aI Y q_1 18 z_3, aI Y q_2 216 z_4] [(0, .ref h0), (1, .int x1_1)] [] 30 := by
    intro n
    induction n with
    | zero => exact fun _ _ hm => absurd hm (Nat.not_lt_zero _)
    | succ n ih1 =>
      intro z_4 x1_1  hm1 hI
      have h := hB1 z_4 x1_1 hI
      refine g_iload_n C dX4_init_30 1 rfl ?_
      refine g_bipush (v := 12) C dX4_init_31 rfl ?_
      refine g_icmp_ge (tgt := 52) C dX4_init_33 (by decide) (fun c_1 => ?_) (fun c_1 => ?_)
      · replace h := h.1 c_1
        exact g_vret C hR (Nat.le_of_ble_eq_true rfl) (Nat.le_of_ble_eq_true rfl) dX4_init_52 ⟨q_1, q_2, z_3, z_4, rfl, rfl, h⟩
      · replace h := h.2 c_1
        refine g_aload_n C dX4_init_36 0 rfl ?_
        refine g_get C inX4 0 rfl rfl 1 (by decide) wF_X4_15 rfl dX4_init_37 ?_
        refine g_iload_n C dX4_init_40 1 rfl ?_
        refine g_bipush (v := 18) C dX4_init_41 rfl ?_
        refine g_imul C dX4_init_43 ?_
        refine g_iconst (v := 1) C dX4_init_44 rfl ?_
        obtain ⟨hc_1, h⟩ := h
        refine g_iast C 2 rfl hc_1 dX4_init_45 (fun z_5 ez_5 => gG.eqw (ws' := [oX4 h0 (.ref q_1) (.ref q_2), aI Y q_1 18 z_3, aI Y q_2 216 z_5]) rfl ?_)
        replace h := h z_5 ez_5
        refine g_iinc (v := x1_1 + 1) (lv' := [(1, .int (x1_1 + 1)), (0, .ref h0)]) C dX4_init_46 1 rfl rfl (by decide) rfl ?_
        refine g_goto (tgt := 30) C dX4_init_49 (by decide) ?_
        refine gG.locals (lv' := [(0, .ref h0), (1, .int (x1_1 + 1))]) [1, 0] rfl ?_
        exact ih1 z_5 (x1_1 + 1) (Nat.lt_of_lt_of_le h.2 (Nat.le_of_lt_succ hm1)) h.1
  refine gG.locals (lv' := [(0, .ref h0), (1, .int 0)]) [1, 0] rfl ?_
  exact key_1 (Mea_1 z_2 0 + 1) z_2 0 (Nat.lt_succ_self _) hI1
theorem dX4_ownCell_0 : decode cX4_ownCell 0 = .ok (.iload_n 3, 1) := by decide +kernel
theorem dX4_ownCell_1 : decode cX4_ownCell 1 = .ok (.invokestatic 74, 3) := by decide +kernel
theorem dX4_ownCell_4 : decode cX4_ownCell 4 = .ok (.ifCond .ne 5, 3) := by decide +kernel
theorem dX4_ownCell_7 : decode cX4_ownCell 7 = .ok (.lconst 0, 1) := by decide +kernel
theorem dX4_ownCell_8 : decode cX4_ownCell 8 = .ok (.lreturn, 1) := by decide +kernel
theorem dX4_ownCell_9 : decode cX4_ownCell 9 = .ok (.iload_n 1, 1) := by decide +kernel
theorem dX4_ownCell_10 : decode cX4_ownCell 10 = .ok (.iload_n 3, 1) := by decide +kernel
theorem dX4_ownCell_11 : decode cX4_ownCell 11 = .ok (.invokestatic 77, 3) := by decide +kernel
theorem dX4_ownCell_14 : decode cX4_ownCell 14 = .ok (.istore 4, 2) := by decide +kernel
theorem dX4_ownCell_16 : decode cX4_ownCell 16 = .ok (.aload_n 0, 1) := by decide +kernel
theorem dX4_ownCell_17 : decode cX4_ownCell 17 = .ok (.getfield 80, 3) := by decide +kernel
theorem dX4_ownCell_20 : decode cX4_ownCell 20 = .ok (.iload 4, 2) := by decide +kernel
theorem dX4_ownCell_22 : decode cX4_ownCell 22 = .ok (.iaload, 1) := by decide +kernel
theorem dX4_ownCell_23 : decode cX4_ownCell 23 = .ok (.i2l, 1) := by decide +kernel
theorem dX4_ownCell_24 : decode cX4_ownCell 24 = .ok (.aload_n 0, 1) := by decide +kernel
theorem dX4_ownCell_25 : decode cX4_ownCell 25 = .ok (.getfield 80, 3) := by decide +kernel
theorem dX4_ownCell_28 : decode cX4_ownCell 28 = .ok (.iload 4, 2) := by decide +kernel
theorem dX4_ownCell_30 : decode cX4_ownCell 30 = .ok (.iconst 1, 1) := by decide +kernel
theorem dX4_ownCell_31 : decode cX4_ownCell 31 = .ok (.iadd, 1) := by decide +kernel
theorem dX4_ownCell_32 : decode cX4_ownCell 32 = .ok (.iaload, 1) := by decide +kernel
theorem dX4_ownCell_33 : decode cX4_ownCell 33 = .ok (.i2l, 1) := by decide +kernel
theorem dX4_ownCell_34 : decode cX4_ownCell 34 = .ok (.iload_n 2, 1) := by decide +kernel
theorem dX4_ownCell_35 : decode cX4_ownCell 35 = .ok (.i2l, 1) := by decide +kernel
theorem dX4_ownCell_36 : decode cX4_ownCell 36 = .ok (.lmul, 1) := by decide +kernel
theorem dX4_ownCell_37 : decode cX4_ownCell 37 = .ok (.ladd, 1) := by decide +kernel
theorem dX4_ownCell_38 : decode cX4_ownCell 38 = .ok (.lreturn, 1) := by decide +kernel
/-- QuotientSums$Powers.ownCell(LQuotientSums$Plan;III)J -/
def wX4_ownCell (a1_bound : Int32) (a1_modulus : Int32) (a1_seed : Int32) (a1_functions : Int32) (a1_numbers : Nat → Int32) (a2 : Int32) (a3 : Int32) (a4 : Int32) (Q : (Int64) → Prop) : Prop :=
  (∃ (P_1 : (Int32) → Prop), wX10_isOwnPower a4 P_1 ∧ ∀ (rF_1 : Int32), P_1 rF_1 → ((¬ rF_1 = 0 → (∃ (P_2 : (Int32) → Prop), wX3_cell a2 a4 P_2 ∧ ∀ (rF_2 : Int32), P_2 rF_2 → vp_in rF_2 144 ∧ vp_in (rF_2 + 1) 144 ∧ ∀ t_1 : Int64, t_1 = ((a1_numbers rF_2.toNatClampNeg).toInt64) + (((a1_numbers (rF_2 + 1).toNatClampNeg).toInt64) * (a3.toInt64)) → (Q t_1))) ∧ (rF_1 = 0 → (Q 0))))
set_option maxHeartbeats 4000000 in
set_option maxRecDepth 100000 in
theorem mX4_ownCell (l : Launch) (D : va_G) (Y : Nat → ClassId) (q_a1 : Nat) (a1_bound : Int32) (a1_modulus : Int32) (a1_seed : Int32) (a1_functions : Int32) (v_a1_names : Value) (v_a1_kinds : Value) (v_a1_firsts : Value) (v_a1_seconds : Value) (v_a1_degrees : Value) (v_a1_colours : Value) (v_a1_needs : Value) (q_a1_numbers : Nat) (a1_numbers : Nat → Int32) (a2 : Int32) (a3 : Int32) (a4 : Int32) (Q : (Int64) → Prop) (h : wX4_ownCell a1_bound a1_modulus a1_seed a1_functions a1_numbers a2 a3 a4 Q) : gM l D Y yX4_ownCell cX4_ownCell 5 (some .long) 1 21 0 0 [.ref q_a1, .int a2, .int a3, .int a4] [oX3 q_a1 a1_bound a1_modulus a1_seed a1_functions (v_a1_names) (v_a1_kinds) (v_a1_firsts) (v_a1_seconds) (v_a1_degrees) (v_a1_colours) (v_a1_needs) (.ref q_a1_numbers), aI Y q_a1_numbers 144 a1_numbers] (fun v w => ∃ r : Int64, v = some (.long r) ∧ w = [oX3 q_a1 a1_bound a1_modulus a1_seed a1_functions (v_a1_names) (v_a1_kinds) (v_a1_firsts) (v_a1_seconds) (v_a1_degrees) (v_a1_colours) (v_a1_needs) (.ref q_a1_numbers), aI Y q_a1_numbers 144 a1_numbers] ∧ Q r) := by
  refine gM_of (own := RX4) (by decide +kernel) rfl (Nat.le_of_ble_eq_true rfl) rfl (fun E C hR => ?_)
  unfold wX4_ownCell at h
  refine g_iload_n C dX4_ownCell_0 3 rfl ?_
  obtain ⟨P_1, hP, h⟩ := h
  refine g_callSN (As := [.int a4]) (rest := []) C (mX10_isOwnPower l D Y a4 P_1 hP) dX4_ownCell_1 rfl wNM_X4_74 wS_X10_isOwnPower wN_X10 wC_X10_isOwnPower (n := 1) (by decide +kernel) rfl ⟨Nat.le_of_ble_eq_true rfl, Nat.le_of_ble_eq_true rfl⟩ ⟨Nat.le_of_ble_eq_true rfl, Nat.le_of_ble_eq_true rfl⟩ (Nat.le_of_ble_eq_true rfl) [] [0, 1] rfl rfl rfl (fun v wc hv => ?_)
  obtain ⟨rF_1, rfl, rfl, hq⟩ := hv
  replace h := h rF_1 hq
  refine gG.eqw (ws' := [oX3 q_a1 a1_bound a1_modulus a1_seed a1_functions (v_a1_names) (v_a1_kinds) (v_a1_firsts) (v_a1_seconds) (v_a1_degrees) (v_a1_colours) (v_a1_needs) (.ref q_a1_numbers), aI Y q_a1_numbers 144 a1_numbers]) rfl ?_
  refine g_if_ne (tgt := 9) C dX4_ownCell_4 (by decide) (fun c_1 => ?_) (fun c_1 => ?_)
  · replace h := h.1 c_1
    refine g_iload_n C dX4_ownCell_9 1 rfl ?_
    refine g_iload_n C dX4_ownCell_10 3 rfl ?_
    obtain ⟨P_2, hP, h⟩ := h
    refine g_callS (As := [.int a2, .int a4]) (rest := []) C (mX3_cell l D Y a2 a4 P_2 hP) dX4_ownCell_11 rfl wM_X4_77 wS_X3_cell wN_X3 wC_X3_cell (n := 2) (by decide +kernel) rfl ⟨Nat.le_of_ble_eq_true rfl, Nat.le_of_ble_eq_true rfl⟩ ⟨Nat.le_of_ble_eq_true rfl, Nat.le_of_ble_eq_true rfl⟩ (Nat.le_of_ble_eq_true rfl) [] [0, 1] rfl rfl rfl (fun v wc hv => ?_)
    obtain ⟨rF_2, rfl, rfl, hq⟩ := hv
    replace h := h rF_2 hq
    refine gG.eqw (ws' := [oX3 q_a1 a1_bound a1_modulus a1_seed a1_functions (v_a1_names) (v_a1_kinds) (v_a1_firsts) (v_a1_seconds) (v_a1_degrees) (v_a1_colours) (v_a1_needs) (.ref q_a1_numbers), aI Y q_a1_numbers 144 a1_numbers]) rfl ?_
    refine g_istore (lv' := [(4, .int rF_2), (0, .ref q_a1), (1, .int a2), (2, .int a3), (3, .int a4)]) C dX4_ownCell_14 (by decide) rfl ?_
    refine g_aload_n C dX4_ownCell_16 1 rfl ?_
    refine g_get C inX3 0 rfl rfl 11 (by decide) wF_X4_80 rfl dX4_ownCell_17 ?_
    refine g_iload C dX4_ownCell_20 0 rfl ?_
    obtain ⟨hc_1, h⟩ := h
    refine g_iald C 1 rfl hc_1 dX4_ownCell_22 ?_
    refine g_i2l C dX4_ownCell_23 ?_
    refine g_aload_n C dX4_ownCell_24 1 rfl ?_
    refine g_get C inX3 0 rfl rfl 11 (by decide) wF_X4_80 rfl dX4_ownCell_25 ?_
    refine g_iload C dX4_ownCell_28 0 rfl ?_
    refine g_iconst (v := 1) C dX4_ownCell_30 rfl ?_
    refine g_iadd C dX4_ownCell_31 ?_
    obtain ⟨hc_2, h⟩ := h
    refine g_iald C 1 rfl hc_2 dX4_ownCell_32 ?_
    refine g_i2l C dX4_ownCell_33 ?_
    refine g_iload_n C dX4_ownCell_34 3 rfl ?_
    refine g_i2l C dX4_ownCell_35 ?_
    refine g_lmul C dX4_ownCell_36 ?_
    refine g_ladd C dX4_ownCell_37 ?_
    refine g_topl (fun t_1 et_1 => ?_)
    replace h := h t_1 et_1
    exact g_lret C hR (Nat.le_of_ble_eq_true rfl) (Nat.le_of_ble_eq_true rfl) dX4_ownCell_38 ⟨t_1, rfl, rfl, h⟩
  · replace h := h.2 c_1
    refine g_lconst (v := 0) C dX4_ownCell_7 rfl ?_
    exact g_lret C hR (Nat.le_of_ble_eq_true rfl) (Nat.le_of_ble_eq_true rfl) dX4_ownCell_8 ⟨0, rfl, rfl, h⟩
theorem dX4_crossed_0 : decode cX4_crossed 0 = .ok (.lconst 0, 1) := by decide +kernel
theorem dX4_crossed_1 : decode cX4_crossed 1 = .ok (.lstore 5, 2) := by decide +kernel
theorem dX4_crossed_3 : decode cX4_crossed 3 = .ok (.iload_n 3, 1) := by decide +kernel
theorem dX4_crossed_4 : decode cX4_crossed 4 = .ok (.istore 7, 2) := by decide +kernel
theorem dX4_crossed_6 : decode cX4_crossed 6 = .ok (.iload 7, 2) := by decide +kernel
theorem dX4_crossed_8 : decode cX4_crossed 8 = .ok (.iload 4, 2) := by decide +kernel
theorem dX4_crossed_10 : decode cX4_crossed 10 = .ok (.if_icmp .gt 38, 3) := by decide +kernel
theorem dX4_crossed_13 : decode cX4_crossed 13 = .ok (.lload 5, 2) := by decide +kernel
theorem dX4_crossed_15 : decode cX4_crossed 15 = .ok (.aload_n 0, 1) := by decide +kernel
theorem dX4_crossed_16 : decode cX4_crossed 16 = .ok (.getfield 15, 3) := by decide +kernel
theorem dX4_crossed_19 : decode cX4_crossed 19 = .ok (.iload_n 1, 1) := by decide +kernel
theorem dX4_crossed_20 : decode cX4_crossed 20 = .ok (.iload 7, 2) := by decide +kernel
theorem dX4_crossed_22 : decode cX4_crossed 22 = .ok (.iadd, 1) := by decide +kernel
theorem dX4_crossed_23 : decode cX4_crossed 23 = .ok (.iaload, 1) := by decide +kernel
theorem dX4_crossed_24 : decode cX4_crossed 24 = .ok (.i2l, 1) := by decide +kernel
theorem dX4_crossed_25 : decode cX4_crossed 25 = .ok (.aload_n 0, 1) := by decide +kernel
theorem dX4_crossed_26 : decode cX4_crossed 26 = .ok (.getfield 15, 3) := by decide +kernel
theorem dX4_crossed_29 : decode cX4_crossed 29 = .ok (.iload_n 2, 1) := by decide +kernel
theorem dX4_crossed_30 : decode cX4_crossed 30 = .ok (.iload 4, 2) := by decide +kernel
theorem dX4_crossed_32 : decode cX4_crossed 32 = .ok (.iadd, 1) := by decide +kernel
theorem dX4_crossed_33 : decode cX4_crossed 33 = .ok (.iload 7, 2) := by decide +kernel
theorem dX4_crossed_35 : decode cX4_crossed 35 = .ok (.isub, 1) := by decide +kernel
theorem dX4_crossed_36 : decode cX4_crossed 36 = .ok (.iaload, 1) := by decide +kernel
theorem dX4_crossed_37 : decode cX4_crossed 37 = .ok (.i2l, 1) := by decide +kernel
theorem dX4_crossed_38 : decode cX4_crossed 38 = .ok (.lmul, 1) := by decide +kernel
theorem dX4_crossed_39 : decode cX4_crossed 39 = .ok (.ladd, 1) := by decide +kernel
theorem dX4_crossed_40 : decode cX4_crossed 40 = .ok (.lstore 5, 2) := by decide +kernel
theorem dX4_crossed_42 : decode cX4_crossed 42 = .ok (.iinc 7 1, 3) := by decide +kernel
theorem dX4_crossed_45 : decode cX4_crossed 45 = .ok (.goto (-39), 3) := by decide +kernel
theorem dX4_crossed_48 : decode cX4_crossed 48 = .ok (.lload 5, 2) := by decide +kernel
theorem dX4_crossed_50 : decode cX4_crossed 50 = .ok (.lreturn, 1) := by decide +kernel
/-- QuotientSums$Powers.crossed(IIII)J -/
def wX4_crossed (cells : Nat → Int32) (a1 : Int32) (a2 : Int32) (a3 : Int32) (a4 : Int32) (Q : (Int64) → Prop) : Prop :=
  (∃ (Inv_1 : (Int64) → (Int32) → Prop) (Mea_1 : (Int64) → (Int32) → Nat), Inv_1 0 a3 ∧ ∀ (x5_1 : Int64) (x7_1 : Int32), Inv_1 x5_1 x7_1 → ((a4 < x7_1 → (Q x5_1)) ∧ (¬ a4 < x7_1 → (vp_in (a1 + x7_1) 216 ∧ vp_in ((a2 + a4) - x7_1) 216 ∧ ∀ t_1 : Int64, t_1 = ((cells (a1 + x7_1).toNatClampNeg).toInt64) * ((cells ((a2 + a4) - x7_1).toNatClampNeg).toInt64) → ∀ x5_2 : Int64, x5_2 = x5_1 + t_1 → (Inv_1 x5_2 (x7_1 + 1) ∧ Mea_1 x5_2 (x7_1 + 1) < Mea_1 x5_1 x7_1)))))
set_option maxHeartbeats 4000000 in
set_option maxRecDepth 100000 in
theorem mX4_crossed (l : Launch) (D : va_G) (Y : Nat → ClassId) (h0 : Nat) (v_ofPrime : Value) (q_cells : Nat) (cells : Nat → Int32) (a1 : Int32) (a2 : Int32) (a3 : Int32) (a4 : Int32) (Q : (Int64) → Prop) (h : wX4_crossed cells a1 a2 a3 a4 Q) : gM l D Y yX4_crossed cX4_crossed 8 (some .long) 0 0 0 0 [.ref h0, .int a1, .int a2, .int a3, .int a4] [oX4 h0 (v_ofPrime) (.ref q_cells), aI Y q_cells 216 cells] (fun v w => ∃ r : Int64, v = some (.long r) ∧ w = [oX4 h0 (v_ofPrime) (.ref q_cells), aI Y q_cells 216 cells] ∧ Q r) := by
  refine gM_of (own := RX4) (by decide +kernel) rfl (Nat.le_of_ble_eq_true rfl) rfl (fun E C hR => ?_)
  unfold wX4_crossed at h
  refine g_lconst (v := 0) C dX4_crossed_0 rfl ?_
  refine g_lstore (lv' := [(5, .long 0), (0, .ref h0), (1, .int a1), (2, .int a2), (3, .int a3), (4, .int a4)]) C dX4_crossed_1 (by decide) rfl ?_
  refine g_iload_n C dX4_crossed_3 4 rfl ?_
  refine g_istore (lv' := [(7, .int a3), (5, .long 0), (0, .ref h0), (1, .int a1), (2, .int a2), (3, .int a3), (4, .int a4)]) C dX4_crossed_4 (by decide) rfl ?_
  obtain ⟨Inv_1, Mea_1, hI1, hB1⟩ := h
  have key_1 : ∀ (n : Nat) (x5_1 : Int64) (x7_1 : Int32) , Mea_1 x5_1 x7_1 < n → Inv_1 x5_1 x7_1 → gG E 0 0 [oX4 h0 (v_ofPrime) (.ref q_cells), aI Y q_cells 216 cells] [(0, .ref h0), (1, .int a1), (2, .int a2), (4, .int a4), (5, .long x5_1), (7, .int x7_1)] [] 6 := by
    intro n
    induction n with
    | zero => exact fun _ _ hm => absurd hm (Nat.not_lt_zero _)
    | succ n ih1 =>
      intro x5_1 x7_1  hm1 hI
      have h := hB1 x5_1 x7_1 hI
      refine g_iload C dX4_crossed_6 5 rfl ?_
      refine g_iload C dX4_crossed_8 3 rfl ?_
      refine g_icmp_gt (tgt := 48) C dX4_crossed_10 (by decide) (fun c_1 => ?_) (fun c_1 => ?_)
      · replace h := h.1 c_1
        refine g_lload C dX4_crossed_48 4 rfl ?_
        exact g_lret C hR (Nat.le_of_ble_eq_true rfl) (Nat.le_of_ble_eq_true rfl) dX4_crossed_50 ⟨x5_1, rfl, rfl, h⟩
      · replace h := h.2 c_1
        refine g_lload C dX4_crossed_13 4 rfl ?_
        refine g_aload_n C dX4_crossed_15 0 rfl ?_
        refine g_get C inX4 0 rfl rfl 1 (by decide) wF_X4_15 rfl dX4_crossed_16 ?_
        refine g_iload_n C dX4_crossed_19 1 rfl ?_
        refine g_iload C dX4_crossed_20 5 rfl ?_
        refine g_iadd C dX4_crossed_22 ?_
        obtain ⟨hc_1, h⟩ := h
        refine g_iald C 1 rfl hc_1 dX4_crossed_23 ?_
        refine g_i2l C dX4_crossed_24 ?_
        refine g_aload_n C dX4_crossed_25 0 rfl ?_
        refine g_get C inX4 0 rfl rfl 1 (by decide) wF_X4_15 rfl dX4_crossed_26 ?_
        refine g_iload_n C dX4_crossed_29 2 rfl ?_
        refine g_iload C dX4_crossed_30 3 rfl ?_
        refine g_iadd C dX4_crossed_32 ?_
        refine g_iload C dX4_crossed_33 5 rfl ?_
        refine g_isub C dX4_crossed_35 ?_
        obtain ⟨hc_2, h⟩ := h
        refine g_iald C 1 rfl hc_2 dX4_crossed_36 ?_
        refine g_i2l C dX4_crossed_37 ?_
        refine g_lmul C dX4_crossed_38 ?_
        refine g_topl (fun t_1 et_1 => ?_)
        replace h := h t_1 et_1
        refine g_ladd C dX4_crossed_39 ?_
        refine g_topl (fun x5_2 ex5_2 => ?_)
        replace h := h x5_2 ex5_2
        refine g_lstore (lv' := [(5, .long x5_2), (0, .ref h0), (1, .int a1), (2, .int a2), (4, .int a4), (7, .int x7_1)]) C dX4_crossed_40 (by decide) rfl ?_
        refine g_iinc (v := x7_1 + 1) (lv' := [(7, .int (x7_1 + 1)), (5, .long x5_2), (0, .ref h0), (1, .int a1), (2, .int a2), (4, .int a4)]) C dX4_crossed_42 5 rfl rfl (by decide) rfl ?_
        refine g_goto (tgt := 6) C dX4_crossed_45 (by decide) ?_
        refine gG.locals (lv' := [(0, .ref h0), (1, .int a1), (2, .int a2), (4, .int a4), (5, .long x5_2), (7, .int (x7_1 + 1))]) [2, 3, 4, 5, 1, 0] rfl ?_
        exact ih1 x5_2 (x7_1 + 1) (Nat.lt_of_lt_of_le h.2 (Nat.le_of_lt_succ hm1)) h.1
  refine gG.locals (lv' := [(0, .ref h0), (1, .int a1), (2, .int a2), (4, .int a4), (5, .long 0), (7, .int a3)]) [2, 3, 4, 6, 1, 0] rfl ?_
  exact key_1 (Mea_1 0 a3 + 1) 0 a3 (Nat.lt_succ_self _) hI1
theorem dX4_sign_0 : decode cX4_sign 0 = .ok (.iload_n 0, 1) := by decide +kernel
theorem dX4_sign_1 : decode cX4_sign 1 = .ok (.iconst 1, 1) := by decide +kernel
theorem dX4_sign_2 : decode cX4_sign 2 = .ok (.if_icmp .ne 7, 3) := by decide +kernel
theorem dX4_sign_5 : decode cX4_sign 5 = .ok (.iconst 3, 1) := by decide +kernel
theorem dX4_sign_6 : decode cX4_sign 6 = .ok (.goto 4, 3) := by decide +kernel
theorem dX4_sign_9 : decode cX4_sign 9 = .ok (.iconst 4, 1) := by decide +kernel
theorem dX4_sign_10 : decode cX4_sign 10 = .ok (.istore_n 3, 1) := by decide +kernel
theorem dX4_sign_11 : decode cX4_sign 11 = .ok (.iload_n 1, 1) := by decide +kernel
theorem dX4_sign_12 : decode cX4_sign 12 = .ok (.iload_n 3, 1) := by decide +kernel
theorem dX4_sign_13 : decode cX4_sign 13 = .ok (.irem, 1) := by decide +kernel
theorem dX4_sign_14 : decode cX4_sign 14 = .ok (.istore 4, 2) := by decide +kernel
theorem dX4_sign_16 : decode cX4_sign 16 = .ok (.iload 4, 2) := by decide +kernel
theorem dX4_sign_18 : decode cX4_sign 18 = .ok (.iconst 1, 1) := by decide +kernel
theorem dX4_sign_19 : decode cX4_sign 19 = .ok (.if_icmp .ne 5, 3) := by decide +kernel
theorem dX4_sign_22 : decode cX4_sign 22 = .ok (.iconst 1, 1) := by decide +kernel
theorem dX4_sign_23 : decode cX4_sign 23 = .ok (.ireturn, 1) := by decide +kernel
theorem dX4_sign_24 : decode cX4_sign 24 = .ok (.iload 4, 2) := by decide +kernel
theorem dX4_sign_26 : decode cX4_sign 26 = .ok (.iload_n 3, 1) := by decide +kernel
theorem dX4_sign_27 : decode cX4_sign 27 = .ok (.iconst 1, 1) := by decide +kernel
theorem dX4_sign_28 : decode cX4_sign 28 = .ok (.isub, 1) := by decide +kernel
theorem dX4_sign_29 : decode cX4_sign 29 = .ok (.if_icmp .eq 5, 3) := by decide +kernel
theorem dX4_sign_32 : decode cX4_sign 32 = .ok (.iconst 0, 1) := by decide +kernel
theorem dX4_sign_33 : decode cX4_sign 33 = .ok (.ireturn, 1) := by decide +kernel
theorem dX4_sign_34 : decode cX4_sign 34 = .ok (.iload_n 2, 1) := by decide +kernel
theorem dX4_sign_35 : decode cX4_sign 35 = .ok (.iconst 2, 1) := by decide +kernel
theorem dX4_sign_36 : decode cX4_sign 36 = .ok (.irem, 1) := by decide +kernel
theorem dX4_sign_37 : decode cX4_sign 37 = .ok (.ifCond .ne 7, 3) := by decide +kernel
theorem dX4_sign_40 : decode cX4_sign 40 = .ok (.iconst 1, 1) := by decide +kernel
theorem dX4_sign_41 : decode cX4_sign 41 = .ok (.goto 4, 3) := by decide +kernel
theorem dX4_sign_44 : decode cX4_sign 44 = .ok (.iconst (-1), 1) := by decide +kernel
theorem dX4_sign_45 : decode cX4_sign 45 = .ok (.ireturn, 1) := by decide +kernel
/-- QuotientSums$Powers.sign(III)I -/
def wX4_sign  (a1 : Int32) (a2 : Int32) (a3 : Int32) (Q : (Int32) → Prop) : Prop :=
  ((¬ a1 = 1 → (∀ x4_1 : Int32, x4_1 = a2 - a2 / 4 * 4 → ((¬ x4_1 = 1 → ((x4_1 = (4 - 1) → ((¬ (a3 - a3 / 2 * 2) = 0 → (Q (-1))) ∧ ((a3 - a3 / 2 * 2) = 0 → (Q 1)))) ∧ (¬ x4_1 = (4 - 1) → (Q 0)))) ∧ (x4_1 = 1 → (Q 1))))) ∧ (a1 = 1 → (∀ x4_2 : Int32, x4_2 = a2 - a2 / 3 * 3 → ((¬ x4_2 = 1 → ((x4_2 = (3 - 1) → ((¬ (a3 - a3 / 2 * 2) = 0 → (Q (-1))) ∧ ((a3 - a3 / 2 * 2) = 0 → (Q 1)))) ∧ (¬ x4_2 = (3 - 1) → (Q 0)))) ∧ (x4_2 = 1 → (Q 1))))))
set_option maxHeartbeats 4000000 in
set_option maxRecDepth 100000 in
theorem mX4_sign (l : Launch) (D : va_G) (Y : Nat → ClassId)   (a1 : Int32) (a2 : Int32) (a3 : Int32) (Q : (Int32) → Prop) (h : wX4_sign a1 a2 a3 Q) : gM l D Y yX4_sign cX4_sign 5 (some .int) 0 0 0 0 [.int a1, .int a2, .int a3] [] (fun v w => ∃ r : Int32, v = some (.int r) ∧ w = [] ∧ Q r) := by
  refine gM_of (own := RX4) (by decide +kernel) rfl (Nat.le_of_ble_eq_true rfl) rfl (fun E C hR => ?_)
  unfold wX4_sign at h
  refine g_iload_n C dX4_sign_0 0 rfl ?_
  refine g_iconst (v := 1) C dX4_sign_1 rfl ?_
  refine g_icmp_ne (tgt := 9) C dX4_sign_2 (by decide) (fun c_1 => ?_) (fun c_1 => ?_)
  · replace h := h.1 c_1
    refine g_iconst (v := 4) C dX4_sign_9 rfl ?_
    refine g_istore_n (lv' := [(3, .int 4), (0, .int a1), (1, .int a2), (2, .int a3)]) C dX4_sign_10 (by decide) rfl ?_
    refine g_iload_n C dX4_sign_11 2 rfl ?_
    refine g_iload_n C dX4_sign_12 0 rfl ?_
    refine g_irem C dX4_sign_13 (by decide) ?_
    refine g_topi (fun x4_1 ex4_1 => ?_)
    replace h := h x4_1 ex4_1
    refine g_istore (lv' := [(4, .int x4_1), (3, .int 4), (0, .int a1), (1, .int a2), (2, .int a3)]) C dX4_sign_14 (by decide) rfl ?_
    refine g_iload C dX4_sign_16 0 rfl ?_
    refine g_iconst (v := 1) C dX4_sign_18 rfl ?_
    refine g_icmp_ne (tgt := 24) C dX4_sign_19 (by decide) (fun c_2 => ?_) (fun c_2 => ?_)
    · replace h := h.1 c_2
      refine g_iload C dX4_sign_24 0 rfl ?_
      refine g_iload_n C dX4_sign_26 1 rfl ?_
      refine g_iconst (v := 1) C dX4_sign_27 rfl ?_
      refine g_isub C dX4_sign_28 ?_
      refine g_icmp_eq (tgt := 34) C dX4_sign_29 (by decide) (fun c_3 => ?_) (fun c_3 => ?_)
      · replace h := h.1 c_3
        refine g_iload_n C dX4_sign_34 4 rfl ?_
        refine g_iconst (v := 2) C dX4_sign_35 rfl ?_
        refine g_irem C dX4_sign_36 (by decide) ?_
        refine g_if_ne (tgt := 44) C dX4_sign_37 (by decide) (fun c_4 => ?_) (fun c_4 => ?_)
        · replace h := h.1 c_4
          refine g_iconst (v := (-1)) C dX4_sign_44 rfl ?_
          exact g_iret C hR (Nat.le_of_ble_eq_true rfl) (Nat.le_of_ble_eq_true rfl) dX4_sign_45 ⟨(-1), rfl, rfl, h⟩
        · replace h := h.2 c_4
          refine g_iconst (v := 1) C dX4_sign_40 rfl ?_
          refine g_goto (tgt := 45) C dX4_sign_41 (by decide) ?_
          exact g_iret C hR (Nat.le_of_ble_eq_true rfl) (Nat.le_of_ble_eq_true rfl) dX4_sign_45 ⟨1, rfl, rfl, h⟩
      · replace h := h.2 c_3
        refine g_iconst (v := 0) C dX4_sign_32 rfl ?_
        exact g_iret C hR (Nat.le_of_ble_eq_true rfl) (Nat.le_of_ble_eq_true rfl) dX4_sign_33 ⟨0, rfl, rfl, h⟩
    · replace h := h.2 c_2
      refine g_iconst (v := 1) C dX4_sign_22 rfl ?_
      exact g_iret C hR (Nat.le_of_ble_eq_true rfl) (Nat.le_of_ble_eq_true rfl) dX4_sign_23 ⟨1, rfl, rfl, h⟩
  · replace h := h.2 c_1
    refine g_iconst (v := 3) C dX4_sign_5 rfl ?_
    refine g_goto (tgt := 10) C dX4_sign_6 (by decide) ?_
    refine g_istore_n (lv' := [(3, .int 3), (0, .int a1), (1, .int a2), (2, .int a3)]) C dX4_sign_10 (by decide) rfl ?_
    refine g_iload_n C dX4_sign_11 2 rfl ?_
    refine g_iload_n C dX4_sign_12 0 rfl ?_
    refine g_irem C dX4_sign_13 (by decide) ?_
    refine g_topi (fun x4_2 ex4_2 => ?_)
    replace h := h x4_2 ex4_2
    refine g_istore (lv' := [(4, .int x4_2), (3, .int 3), (0, .int a1), (1, .int a2), (2, .int a3)]) C dX4_sign_14 (by decide) rfl ?_
    refine g_iload C dX4_sign_16 0 rfl ?_
    refine g_iconst (v := 1) C dX4_sign_18 rfl ?_
    refine g_icmp_ne (tgt := 24) C dX4_sign_19 (by decide) (fun c_5 => ?_) (fun c_5 => ?_)
    · replace h := h.1 c_5
      refine g_iload C dX4_sign_24 0 rfl ?_
      refine g_iload_n C dX4_sign_26 1 rfl ?_
      refine g_iconst (v := 1) C dX4_sign_27 rfl ?_
      refine g_isub C dX4_sign_28 ?_
      refine g_icmp_eq (tgt := 34) C dX4_sign_29 (by decide) (fun c_6 => ?_) (fun c_6 => ?_)
      · replace h := h.1 c_6
        refine g_iload_n C dX4_sign_34 4 rfl ?_
        refine g_iconst (v := 2) C dX4_sign_35 rfl ?_
        refine g_irem C dX4_sign_36 (by decide) ?_
        refine g_if_ne (tgt := 44) C dX4_sign_37 (by decide) (fun c_7 => ?_) (fun c_7 => ?_)
        · replace h := h.1 c_7
          refine g_iconst (v := (-1)) C dX4_sign_44 rfl ?_
          exact g_iret C hR (Nat.le_of_ble_eq_true rfl) (Nat.le_of_ble_eq_true rfl) dX4_sign_45 ⟨(-1), rfl, rfl, h⟩
        · replace h := h.2 c_7
          refine g_iconst (v := 1) C dX4_sign_40 rfl ?_
          refine g_goto (tgt := 45) C dX4_sign_41 (by decide) ?_
          exact g_iret C hR (Nat.le_of_ble_eq_true rfl) (Nat.le_of_ble_eq_true rfl) dX4_sign_45 ⟨1, rfl, rfl, h⟩
      · replace h := h.2 c_6
        refine g_iconst (v := 0) C dX4_sign_32 rfl ?_
        exact g_iret C hR (Nat.le_of_ble_eq_true rfl) (Nat.le_of_ble_eq_true rfl) dX4_sign_33 ⟨0, rfl, rfl, h⟩
    · replace h := h.2 c_5
      refine g_iconst (v := 1) C dX4_sign_22 rfl ?_
      exact g_iret C hR (Nat.le_of_ble_eq_true rfl) (Nat.le_of_ble_eq_true rfl) dX4_sign_23 ⟨1, rfl, rfl, h⟩
theorem dX4_knownCell_0 : decode cX4_knownCell 0 = .ok (.iload_n 1, 1) := by decide +kernel
theorem dX4_knownCell_1 : decode cX4_knownCell 1 = .ok (.tableswitch 100 1 5 #[35, 43, 56, 73, 78], 35) := by decide +kernel
theorem dX4_knownCell_36 : decode cX4_knownCell 36 = .ok (.aload_n 0, 1) := by decide +kernel
theorem dX4_knownCell_37 : decode cX4_knownCell 37 = .ok (.getfield 11, 3) := by decide +kernel
theorem dX4_knownCell_40 : decode cX4_knownCell 40 = .ok (.iload_n 2, 1) := by decide +kernel
theorem dX4_knownCell_41 : decode cX4_knownCell 41 = .ok (.iaload, 1) := by decide +kernel
theorem dX4_knownCell_42 : decode cX4_knownCell 42 = .ok (.i2l, 1) := by decide +kernel
theorem dX4_knownCell_43 : decode cX4_knownCell 43 = .ok (.lreturn, 1) := by decide +kernel
theorem dX4_knownCell_44 : decode cX4_knownCell 44 = .ok (.iload_n 2, 1) := by decide +kernel
theorem dX4_knownCell_45 : decode cX4_knownCell 45 = .ok (.iconst 1, 1) := by decide +kernel
theorem dX4_knownCell_46 : decode cX4_knownCell 46 = .ok (.if_icmp .ne 9, 3) := by decide +kernel
theorem dX4_knownCell_49 : decode cX4_knownCell 49 = .ok (.ldc2_w 72, 3) := by decide +kernel
theorem dX4_knownCell_52 : decode cX4_knownCell 52 = .ok (.goto 4, 3) := by decide +kernel
theorem dX4_knownCell_55 : decode cX4_knownCell 55 = .ok (.lconst 0, 1) := by decide +kernel
theorem dX4_knownCell_56 : decode cX4_knownCell 56 = .ok (.lreturn, 1) := by decide +kernel
theorem dX4_knownCell_57 : decode cX4_knownCell 57 = .ok (.aload_n 0, 1) := by decide +kernel
theorem dX4_knownCell_58 : decode cX4_knownCell 58 = .ok (.getfield 11, 3) := by decide +kernel
theorem dX4_knownCell_61 : decode cX4_knownCell 61 = .ok (.iload_n 2, 1) := by decide +kernel
theorem dX4_knownCell_62 : decode cX4_knownCell 62 = .ok (.iaload, 1) := by decide +kernel
theorem dX4_knownCell_63 : decode cX4_knownCell 63 = .ok (.aload_n 0, 1) := by decide +kernel
theorem dX4_knownCell_64 : decode cX4_knownCell 64 = .ok (.getfield 11, 3) := by decide +kernel
theorem dX4_knownCell_67 : decode cX4_knownCell 67 = .ok (.iload_n 2, 1) := by decide +kernel
theorem dX4_knownCell_68 : decode cX4_knownCell 68 = .ok (.iconst 1, 1) := by decide +kernel
theorem dX4_knownCell_69 : decode cX4_knownCell 69 = .ok (.isub, 1) := by decide +kernel
theorem dX4_knownCell_70 : decode cX4_knownCell 70 = .ok (.iaload, 1) := by decide +kernel
theorem dX4_knownCell_71 : decode cX4_knownCell 71 = .ok (.isub, 1) := by decide +kernel
theorem dX4_knownCell_72 : decode cX4_knownCell 72 = .ok (.i2l, 1) := by decide +kernel
theorem dX4_knownCell_73 : decode cX4_knownCell 73 = .ok (.lreturn, 1) := by decide +kernel
theorem dX4_knownCell_74 : decode cX4_knownCell 74 = .ok (.iload_n 2, 1) := by decide +kernel
theorem dX4_knownCell_75 : decode cX4_knownCell 75 = .ok (.iconst 1, 1) := by decide +kernel
theorem dX4_knownCell_76 : decode cX4_knownCell 76 = .ok (.iadd, 1) := by decide +kernel
theorem dX4_knownCell_77 : decode cX4_knownCell 77 = .ok (.i2l, 1) := by decide +kernel
theorem dX4_knownCell_78 : decode cX4_knownCell 78 = .ok (.lreturn, 1) := by decide +kernel
theorem dX4_knownCell_79 : decode cX4_knownCell 79 = .ok (.aload_n 0, 1) := by decide +kernel
theorem dX4_knownCell_80 : decode cX4_knownCell 80 = .ok (.getfield 15, 3) := by decide +kernel
theorem dX4_knownCell_83 : decode cX4_knownCell 83 = .ok (.iload_n 1, 1) := by decide +kernel
theorem dX4_knownCell_84 : decode cX4_knownCell 84 = .ok (.bipush 18, 2) := by decide +kernel
theorem dX4_knownCell_86 : decode cX4_knownCell 86 = .ok (.imul, 1) := by decide +kernel
theorem dX4_knownCell_87 : decode cX4_knownCell 87 = .ok (.iload_n 2, 1) := by decide +kernel
theorem dX4_knownCell_88 : decode cX4_knownCell 88 = .ok (.iadd, 1) := by decide +kernel
theorem dX4_knownCell_89 : decode cX4_knownCell 89 = .ok (.iconst 1, 1) := by decide +kernel
theorem dX4_knownCell_90 : decode cX4_knownCell 90 = .ok (.isub, 1) := by decide +kernel
theorem dX4_knownCell_91 : decode cX4_knownCell 91 = .ok (.iaload, 1) := by decide +kernel
theorem dX4_knownCell_92 : decode cX4_knownCell 92 = .ok (.aload_n 0, 1) := by decide +kernel
theorem dX4_knownCell_93 : decode cX4_knownCell 93 = .ok (.getfield 11, 3) := by decide +kernel
theorem dX4_knownCell_96 : decode cX4_knownCell 96 = .ok (.iload_n 2, 1) := by decide +kernel
theorem dX4_knownCell_97 : decode cX4_knownCell 97 = .ok (.iaload, 1) := by decide +kernel
theorem dX4_knownCell_98 : decode cX4_knownCell 98 = .ok (.iadd, 1) := by decide +kernel
theorem dX4_knownCell_99 : decode cX4_knownCell 99 = .ok (.i2l, 1) := by decide +kernel
theorem dX4_knownCell_100 : decode cX4_knownCell 100 = .ok (.lreturn, 1) := by decide +kernel
theorem dX4_knownCell_101 : decode cX4_knownCell 101 = .ok (.lconst 1, 1) := by decide +kernel
theorem dX4_knownCell_102 : decode cX4_knownCell 102 = .ok (.lreturn, 1) := by decide +kernel
/-- QuotientSums$Powers.knownCell(II)J -/
def wX4_knownCell (ofPrime : Nat → Int32) (cells : Nat → Int32) (a1 : Int32) (a2 : Int32) (Q : (Int64) → Prop) : Prop :=
  ((a1 = 1 → (vp_in a2 18 ∧ (Q ((ofPrime a2.toNatClampNeg).toInt64)))) ∧ (¬ a1 = 1 → ((a1 = 2 → ((¬ a2 = 1 → (Q 0)) ∧ (a2 = 1 → (Q (-1))))) ∧ (¬ a1 = 2 → ((a1 = 3 → (vp_in a2 18 ∧ vp_in (a2 - 1) 18 ∧ (Q (((ofPrime a2.toNatClampNeg) - (ofPrime (a2 - 1).toNatClampNeg)).toInt64)))) ∧ (¬ a1 = 3 → ((a1 = 4 → (Q ((a2 + 1).toInt64))) ∧ (¬ a1 = 4 → ((a1 = 5 → (vp_in (((a1 * 18) + a2) - 1) 216 ∧ vp_in a2 18 ∧ ∀ t_1 : Int32, t_1 = (cells (((a1 * 18) + a2) - 1).toNatClampNeg) + (ofPrime a2.toNatClampNeg) → (Q (t_1.toInt64)))) ∧ (¬ a1 = 5 → (Q 1)))))))))))
set_option maxHeartbeats 4000000 in
set_option maxRecDepth 100000 in
theorem mX4_knownCell (l : Launch) (D : va_G) (Y : Nat → ClassId) (h0 : Nat) (q_ofPrime : Nat) (q_cells : Nat) (ofPrime : Nat → Int32) (cells : Nat → Int32) (a1 : Int32) (a2 : Int32) (Q : (Int64) → Prop) (h : wX4_knownCell ofPrime cells a1 a2 Q) : gM l D Y yX4_knownCell cX4_knownCell 3 (some .long) 0 0 0 0 [.ref h0, .int a1, .int a2] [oX4 h0 (.ref q_ofPrime) (.ref q_cells), aI Y q_ofPrime 18 ofPrime, aI Y q_cells 216 cells] (fun v w => ∃ r : Int64, v = some (.long r) ∧ w = [oX4 h0 (.ref q_ofPrime) (.ref q_cells), aI Y q_ofPrime 18 ofPrime, aI Y q_cells 216 cells] ∧ Q r) := by
  refine gM_of (own := RX4) (by decide +kernel) rfl (Nat.le_of_ble_eq_true rfl) rfl (fun E C hR => ?_)
  unfold wX4_knownCell at h
  refine g_iload_n C dX4_knownCell_0 1 rfl ?_
  by_cases c_1 : a1 = 1
  · replace h := h.1 c_1
    refine g_tabI (v := 1) (tgt := 36) C dX4_knownCell_1 c_1 (by decide) (by decide) rfl (by decide) ?_
    refine g_aload_n C dX4_knownCell_36 0 rfl ?_
    refine g_get C inX4 0 rfl rfl 0 (by decide) wF_X4_11 rfl dX4_knownCell_37 ?_
    refine g_iload_n C dX4_knownCell_40 2 rfl ?_
    obtain ⟨hc_1, h⟩ := h
    refine g_iald C 1 rfl hc_1 dX4_knownCell_41 ?_
    refine g_i2l C dX4_knownCell_42 ?_
    exact g_lret C hR (Nat.le_of_ble_eq_true rfl) (Nat.le_of_ble_eq_true rfl) dX4_knownCell_43 ⟨(ofPrime a2.toNatClampNeg).toInt64, rfl, rfl, h⟩
  · replace h := h.2 c_1
    by_cases c_2 : a1 = 2
    · replace h := h.1 c_2
      refine g_tabI (v := 2) (tgt := 44) C dX4_knownCell_1 c_2 (by decide) (by decide) rfl (by decide) ?_
      refine g_iload_n C dX4_knownCell_44 2 rfl ?_
      refine g_iconst (v := 1) C dX4_knownCell_45 rfl ?_
      refine g_icmp_ne (tgt := 55) C dX4_knownCell_46 (by decide) (fun c_3 => ?_) (fun c_3 => ?_)
      · replace h := h.1 c_3
        refine g_lconst (v := 0) C dX4_knownCell_55 rfl ?_
        exact g_lret C hR (Nat.le_of_ble_eq_true rfl) (Nat.le_of_ble_eq_true rfl) dX4_knownCell_56 ⟨0, rfl, rfl, h⟩
      · replace h := h.2 c_3
        refine g_ldc2 C dX4_knownCell_49 wQ_X4_72 ?_
        refine g_goto (tgt := 56) C dX4_knownCell_52 (by decide) ?_
        exact g_lret C hR (Nat.le_of_ble_eq_true rfl) (Nat.le_of_ble_eq_true rfl) dX4_knownCell_56 ⟨(-1), rfl, rfl, h⟩
    · replace h := h.2 c_2
      by_cases c_4 : a1 = 3
      · replace h := h.1 c_4
        refine g_tabI (v := 3) (tgt := 57) C dX4_knownCell_1 c_4 (by decide) (by decide) rfl (by decide) ?_
        refine g_aload_n C dX4_knownCell_57 0 rfl ?_
        refine g_get C inX4 0 rfl rfl 0 (by decide) wF_X4_11 rfl dX4_knownCell_58 ?_
        refine g_iload_n C dX4_knownCell_61 2 rfl ?_
        obtain ⟨hc_2, h⟩ := h
        refine g_iald C 1 rfl hc_2 dX4_knownCell_62 ?_
        refine g_aload_n C dX4_knownCell_63 0 rfl ?_
        refine g_get C inX4 0 rfl rfl 0 (by decide) wF_X4_11 rfl dX4_knownCell_64 ?_
        refine g_iload_n C dX4_knownCell_67 2 rfl ?_
        refine g_iconst (v := 1) C dX4_knownCell_68 rfl ?_
        refine g_isub C dX4_knownCell_69 ?_
        obtain ⟨hc_3, h⟩ := h
        refine g_iald C 1 rfl hc_3 dX4_knownCell_70 ?_
        refine g_isub C dX4_knownCell_71 ?_
        refine g_i2l C dX4_knownCell_72 ?_
        exact g_lret C hR (Nat.le_of_ble_eq_true rfl) (Nat.le_of_ble_eq_true rfl) dX4_knownCell_73 ⟨((ofPrime a2.toNatClampNeg) - (ofPrime (a2 - 1).toNatClampNeg)).toInt64, rfl, rfl, h⟩
      · replace h := h.2 c_4
        by_cases c_5 : a1 = 4
        · replace h := h.1 c_5
          refine g_tabI (v := 4) (tgt := 74) C dX4_knownCell_1 c_5 (by decide) (by decide) rfl (by decide) ?_
          refine g_iload_n C dX4_knownCell_74 2 rfl ?_
          refine g_iconst (v := 1) C dX4_knownCell_75 rfl ?_
          refine g_iadd C dX4_knownCell_76 ?_
          refine g_i2l C dX4_knownCell_77 ?_
          exact g_lret C hR (Nat.le_of_ble_eq_true rfl) (Nat.le_of_ble_eq_true rfl) dX4_knownCell_78 ⟨(a2 + 1).toInt64, rfl, rfl, h⟩
        · replace h := h.2 c_5
          by_cases c_6 : a1 = 5
          · replace h := h.1 c_6
            refine g_tabI (v := 5) (tgt := 79) C dX4_knownCell_1 c_6 (by decide) (by decide) rfl (by decide) ?_
            refine g_aload_n C dX4_knownCell_79 0 rfl ?_
            refine g_get C inX4 0 rfl rfl 1 (by decide) wF_X4_15 rfl dX4_knownCell_80 ?_
            refine g_iload_n C dX4_knownCell_83 1 rfl ?_
            refine g_bipush (v := 18) C dX4_knownCell_84 rfl ?_
            refine g_imul C dX4_knownCell_86 ?_
            refine g_iload_n C dX4_knownCell_87 2 rfl ?_
            refine g_iadd C dX4_knownCell_88 ?_
            refine g_iconst (v := 1) C dX4_knownCell_89 rfl ?_
            refine g_isub C dX4_knownCell_90 ?_
            obtain ⟨hc_4, h⟩ := h
            refine g_iald C 2 rfl hc_4 dX4_knownCell_91 ?_
            refine g_aload_n C dX4_knownCell_92 0 rfl ?_
            refine g_get C inX4 0 rfl rfl 0 (by decide) wF_X4_11 rfl dX4_knownCell_93 ?_
            refine g_iload_n C dX4_knownCell_96 2 rfl ?_
            obtain ⟨hc_5, h⟩ := h
            refine g_iald C 1 rfl hc_5 dX4_knownCell_97 ?_
            refine g_iadd C dX4_knownCell_98 ?_
            refine g_topi (fun t_1 et_1 => ?_)
            replace h := h t_1 et_1
            refine g_i2l C dX4_knownCell_99 ?_
            exact g_lret C hR (Nat.le_of_ble_eq_true rfl) (Nat.le_of_ble_eq_true rfl) dX4_knownCell_100 ⟨t_1.toInt64, rfl, rfl, h⟩
          · replace h := h.2 c_6
            refine g_tabO (tgt := 101) C dX4_knownCell_1 [1, 2, 3, 4, 5] (by decide) (by exact ⟨c_1, c_2, c_4, c_5, c_6, trivial⟩) (by decide) ?_
            refine g_lconst (v := 1) C dX4_knownCell_101 rfl ?_
            exact g_lret C hR (Nat.le_of_ble_eq_true rfl) (Nat.le_of_ble_eq_true rfl) dX4_knownCell_102 ⟨1, rfl, rfl, h⟩
theorem dX4_cellOf_0 : decode cX4_cellOf 0 = .ok (.aload_n 1, 1) := by decide +kernel
theorem dX4_cellOf_1 : decode cX4_cellOf 1 = .ok (.getfield 39, 3) := by decide +kernel
theorem dX4_cellOf_4 : decode cX4_cellOf 4 = .ok (.iload_n 2, 1) := by decide +kernel
theorem dX4_cellOf_5 : decode cX4_cellOf 5 = .ok (.iaload, 1) := by decide +kernel
theorem dX4_cellOf_6 : decode cX4_cellOf 6 = .ok (.iconst 0, 1) := by decide +kernel
theorem dX4_cellOf_7 : decode cX4_cellOf 7 = .ok (.invokestatic 42, 3) := by decide +kernel
theorem dX4_cellOf_10 : decode cX4_cellOf 10 = .ok (.bipush 18, 2) := by decide +kernel
theorem dX4_cellOf_12 : decode cX4_cellOf 12 = .ok (.imul, 1) := by decide +kernel
theorem dX4_cellOf_13 : decode cX4_cellOf 13 = .ok (.istore 5, 2) := by decide +kernel
theorem dX4_cellOf_15 : decode cX4_cellOf 15 = .ok (.aload_n 1, 1) := by decide +kernel
theorem dX4_cellOf_16 : decode cX4_cellOf 16 = .ok (.getfield 48, 3) := by decide +kernel
theorem dX4_cellOf_19 : decode cX4_cellOf 19 = .ok (.iload_n 2, 1) := by decide +kernel
theorem dX4_cellOf_20 : decode cX4_cellOf 20 = .ok (.iaload, 1) := by decide +kernel
theorem dX4_cellOf_21 : decode cX4_cellOf 21 = .ok (.iconst 0, 1) := by decide +kernel
theorem dX4_cellOf_22 : decode cX4_cellOf 22 = .ok (.invokestatic 42, 3) := by decide +kernel
theorem dX4_cellOf_25 : decode cX4_cellOf 25 = .ok (.bipush 18, 2) := by decide +kernel
theorem dX4_cellOf_27 : decode cX4_cellOf 27 = .ok (.imul, 1) := by decide +kernel
theorem dX4_cellOf_28 : decode cX4_cellOf 28 = .ok (.istore 6, 2) := by decide +kernel
theorem dX4_cellOf_30 : decode cX4_cellOf 30 = .ok (.aload_n 1, 1) := by decide +kernel
theorem dX4_cellOf_31 : decode cX4_cellOf 31 = .ok (.getfield 51, 3) := by decide +kernel
theorem dX4_cellOf_34 : decode cX4_cellOf 34 = .ok (.iload_n 2, 1) := by decide +kernel
theorem dX4_cellOf_35 : decode cX4_cellOf 35 = .ok (.iaload, 1) := by decide +kernel
theorem dX4_cellOf_36 : decode cX4_cellOf 36 = .ok (.tableswitch 122 1 5 #[36, 45, 57, 72, 96], 36) := by decide +kernel
theorem dX4_cellOf_72 : decode cX4_cellOf 72 = .ok (.aload_n 1, 1) := by decide +kernel
theorem dX4_cellOf_73 : decode cX4_cellOf 73 = .ok (.iload_n 2, 1) := by decide +kernel
theorem dX4_cellOf_74 : decode cX4_cellOf 74 = .ok (.iload_n 3, 1) := by decide +kernel
theorem dX4_cellOf_75 : decode cX4_cellOf 75 = .ok (.iload 4, 2) := by decide +kernel
theorem dX4_cellOf_77 : decode cX4_cellOf 77 = .ok (.invokestatic 54, 3) := by decide +kernel
theorem dX4_cellOf_80 : decode cX4_cellOf 80 = .ok (.lreturn, 1) := by decide +kernel
theorem dX4_cellOf_81 : decode cX4_cellOf 81 = .ok (.aload_n 0, 1) := by decide +kernel
theorem dX4_cellOf_82 : decode cX4_cellOf 82 = .ok (.iload 5, 2) := by decide +kernel
theorem dX4_cellOf_84 : decode cX4_cellOf 84 = .ok (.iload 6, 2) := by decide +kernel
theorem dX4_cellOf_86 : decode cX4_cellOf 86 = .ok (.iconst 0, 1) := by decide +kernel
theorem dX4_cellOf_87 : decode cX4_cellOf 87 = .ok (.iload 4, 2) := by decide +kernel
theorem dX4_cellOf_89 : decode cX4_cellOf 89 = .ok (.invokevirtual 57, 3) := by decide +kernel
theorem dX4_cellOf_92 : decode cX4_cellOf 92 = .ok (.lreturn, 1) := by decide +kernel
theorem dX4_cellOf_93 : decode cX4_cellOf 93 = .ok (.aload_n 0, 1) := by decide +kernel
theorem dX4_cellOf_94 : decode cX4_cellOf 94 = .ok (.iload 5, 2) := by decide +kernel
theorem dX4_cellOf_96 : decode cX4_cellOf 96 = .ok (.iload_n 2, 1) := by decide +kernel
theorem dX4_cellOf_97 : decode cX4_cellOf 97 = .ok (.bipush 18, 2) := by decide +kernel
theorem dX4_cellOf_99 : decode cX4_cellOf 99 = .ok (.imul, 1) := by decide +kernel
theorem dX4_cellOf_100 : decode cX4_cellOf 100 = .ok (.iconst 1, 1) := by decide +kernel
theorem dX4_cellOf_101 : decode cX4_cellOf 101 = .ok (.iload 4, 2) := by decide +kernel
theorem dX4_cellOf_103 : decode cX4_cellOf 103 = .ok (.invokevirtual 57, 3) := by decide +kernel
theorem dX4_cellOf_106 : decode cX4_cellOf 106 = .ok (.lneg, 1) := by decide +kernel
theorem dX4_cellOf_107 : decode cX4_cellOf 107 = .ok (.lreturn, 1) := by decide +kernel
theorem dX4_cellOf_108 : decode cX4_cellOf 108 = .ok (.aload_n 0, 1) := by decide +kernel
theorem dX4_cellOf_109 : decode cX4_cellOf 109 = .ok (.getfield 15, 3) := by decide +kernel
theorem dX4_cellOf_112 : decode cX4_cellOf 112 = .ok (.iload 5, 2) := by decide +kernel
theorem dX4_cellOf_114 : decode cX4_cellOf 114 = .ok (.iload 4, 2) := by decide +kernel
theorem dX4_cellOf_116 : decode cX4_cellOf 116 = .ok (.iadd, 1) := by decide +kernel
theorem dX4_cellOf_117 : decode cX4_cellOf 117 = .ok (.iaload, 1) := by decide +kernel
theorem dX4_cellOf_118 : decode cX4_cellOf 118 = .ok (.i2l, 1) := by decide +kernel
theorem dX4_cellOf_119 : decode cX4_cellOf 119 = .ok (.aload_n 0, 1) := by decide +kernel
theorem dX4_cellOf_120 : decode cX4_cellOf 120 = .ok (.getfield 15, 3) := by decide +kernel
theorem dX4_cellOf_123 : decode cX4_cellOf 123 = .ok (.iload 6, 2) := by decide +kernel
theorem dX4_cellOf_125 : decode cX4_cellOf 125 = .ok (.iload 4, 2) := by decide +kernel
theorem dX4_cellOf_127 : decode cX4_cellOf 127 = .ok (.iadd, 1) := by decide +kernel
theorem dX4_cellOf_128 : decode cX4_cellOf 128 = .ok (.iaload, 1) := by decide +kernel
theorem dX4_cellOf_129 : decode cX4_cellOf 129 = .ok (.i2l, 1) := by decide +kernel
theorem dX4_cellOf_130 : decode cX4_cellOf 130 = .ok (.lmul, 1) := by decide +kernel
theorem dX4_cellOf_131 : decode cX4_cellOf 131 = .ok (.lreturn, 1) := by decide +kernel
theorem dX4_cellOf_132 : decode cX4_cellOf 132 = .ok (.aload_n 0, 1) := by decide +kernel
theorem dX4_cellOf_133 : decode cX4_cellOf 133 = .ok (.getfield 15, 3) := by decide +kernel
theorem dX4_cellOf_136 : decode cX4_cellOf 136 = .ok (.iload 5, 2) := by decide +kernel
theorem dX4_cellOf_138 : decode cX4_cellOf 138 = .ok (.iload 4, 2) := by decide +kernel
theorem dX4_cellOf_140 : decode cX4_cellOf 140 = .ok (.iadd, 1) := by decide +kernel
theorem dX4_cellOf_141 : decode cX4_cellOf 141 = .ok (.iaload, 1) := by decide +kernel
theorem dX4_cellOf_142 : decode cX4_cellOf 142 = .ok (.i2l, 1) := by decide +kernel
theorem dX4_cellOf_143 : decode cX4_cellOf 143 = .ok (.aload_n 1, 1) := by decide +kernel
theorem dX4_cellOf_144 : decode cX4_cellOf 144 = .ok (.getfield 61, 3) := by decide +kernel
theorem dX4_cellOf_147 : decode cX4_cellOf 147 = .ok (.iload_n 2, 1) := by decide +kernel
theorem dX4_cellOf_148 : decode cX4_cellOf 148 = .ok (.iaload, 1) := by decide +kernel
theorem dX4_cellOf_149 : decode cX4_cellOf 149 = .ok (.iload_n 3, 1) := by decide +kernel
theorem dX4_cellOf_150 : decode cX4_cellOf 150 = .ok (.iload 4, 2) := by decide +kernel
theorem dX4_cellOf_152 : decode cX4_cellOf 152 = .ok (.invokestatic 64, 3) := by decide +kernel
theorem dX4_cellOf_155 : decode cX4_cellOf 155 = .ok (.i2l, 1) := by decide +kernel
theorem dX4_cellOf_156 : decode cX4_cellOf 156 = .ok (.lmul, 1) := by decide +kernel
theorem dX4_cellOf_157 : decode cX4_cellOf 157 = .ok (.lreturn, 1) := by decide +kernel
theorem dX4_cellOf_158 : decode cX4_cellOf 158 = .ok (.aload_n 0, 1) := by decide +kernel
theorem dX4_cellOf_159 : decode cX4_cellOf 159 = .ok (.iload_n 2, 1) := by decide +kernel
theorem dX4_cellOf_160 : decode cX4_cellOf 160 = .ok (.iload 4, 2) := by decide +kernel
theorem dX4_cellOf_162 : decode cX4_cellOf 162 = .ok (.invokevirtual 68, 3) := by decide +kernel
theorem dX4_cellOf_165 : decode cX4_cellOf 165 = .ok (.lreturn, 1) := by decide +kernel
/-- QuotientSums$Powers.cellOf(LQuotientSums$Plan;III)J -/
def wX4_cellOf (a1_bound : Int32) (a1_modulus : Int32) (a1_seed : Int32) (a1_functions : Int32) (a1_firsts : Nat → Int32) (a1_seconds : Nat → Int32) (a1_kinds : Nat → Int32) (a1_numbers : Nat → Int32) (cells : Nat → Int32) (a1_colours : Nat → Int32) (ofPrime : Nat → Int32) (a2 : Int32) (a3 : Int32) (a4 : Int32) (Q : (Int64) → Prop) : Prop :=
  (vp_in a2 12 ∧ ∀ m_1 : Int32, m_1 = (if (a1_firsts a2.toNatClampNeg) < 0 then 0 else (a1_firsts a2.toNatClampNeg)) → ∀ x5_1 : Int32, x5_1 = m_1 * 18 → ∀ m_2 : Int32, m_2 = (if (a1_seconds a2.toNatClampNeg) < 0 then 0 else (a1_seconds a2.toNatClampNeg)) → ∀ x6_1 : Int32, x6_1 = m_2 * 18 → (((a1_kinds a2.toNatClampNeg) = 1 → (∃ (P_1 : (Int64) → Prop), wX4_ownCell a1_bound a1_modulus a1_seed a1_functions a1_numbers a2 a3 a4 P_1 ∧ ∀ (rF_1 : Int64), P_1 rF_1 → (Q rF_1))) ∧ (¬ (a1_kinds a2.toNatClampNeg) = 1 → (((a1_kinds a2.toNatClampNeg) = 2 → (∃ (P_2 : (Int64) → Prop), wX4_crossed cells x5_1 x6_1 0 a4 P_2 ∧ ∀ (rF_2 : Int64), P_2 rF_2 → (Q rF_2))) ∧ (¬ (a1_kinds a2.toNatClampNeg) = 2 → (((a1_kinds a2.toNatClampNeg) = 3 → (∃ (P_3 : (Int64) → Prop), wX4_crossed cells x5_1 (a2 * 18) 1 a4 P_3 ∧ ∀ (rF_3 : Int64), P_3 rF_3 → (Q (-rF_3)))) ∧ (¬ (a1_kinds a2.toNatClampNeg) = 3 → (((a1_kinds a2.toNatClampNeg) = 4 → (vp_in (x5_1 + a4) 216 ∧ vp_in (x6_1 + a4) 216 ∧ ∀ t_1 : Int64, t_1 = ((cells (x5_1 + a4).toNatClampNeg).toInt64) * ((cells (x6_1 + a4).toNatClampNeg).toInt64) → (Q t_1))) ∧ (¬ (a1_kinds a2.toNatClampNeg) = 4 → (((a1_kinds a2.toNatClampNeg) = 5 → (vp_in (x5_1 + a4) 216 ∧ ∃ (P_4 : (Int32) → Prop), wX4_sign (a1_colours a2.toNatClampNeg) a3 a4 P_4 ∧ ∀ (rF_4 : Int32), P_4 rF_4 → (Q (((cells (x5_1 + a4).toNatClampNeg).toInt64) * (rF_4.toInt64))))) ∧ (¬ (a1_kinds a2.toNatClampNeg) = 5 → (∃ (P_5 : (Int64) → Prop), wX4_knownCell ofPrime cells a2 a4 P_5 ∧ ∀ (rF_5 : Int64), P_5 rF_5 → (Q rF_5)))))))))))))
set_option maxHeartbeats 4000000 in
set_option maxRecDepth 100000 in
theorem mX4_cellOf (l : Launch) (D : va_G) (Y : Nat → ClassId) (h0 : Nat) (q_a1 : Nat) (a1_bound : Int32) (a1_modulus : Int32) (a1_seed : Int32) (a1_functions : Int32) (v_a1_names : Value) (q_a1_kinds : Nat) (q_a1_firsts : Nat) (q_a1_seconds : Nat) (v_a1_degrees : Value) (q_a1_colours : Nat) (v_a1_needs : Value) (q_a1_numbers : Nat) (a1_firsts : Nat → Int32) (a1_seconds : Nat → Int32) (a1_kinds : Nat → Int32) (a1_numbers : Nat → Int32) (q_ofPrime : Nat) (q_cells : Nat) (cells : Nat → Int32) (a1_colours : Nat → Int32) (ofPrime : Nat → Int32) (a2 : Int32) (a3 : Int32) (a4 : Int32) (Q : (Int64) → Prop) (h : wX4_cellOf a1_bound a1_modulus a1_seed a1_functions a1_firsts a1_seconds a1_kinds a1_numbers cells a1_colours ofPrime a2 a3 a4 Q) : gM l D Y yX4_cellOf cX4_cellOf 7 (some .long) 2 45 0 0 [.ref h0, .ref q_a1, .int a2, .int a3, .int a4] [oX3 q_a1 a1_bound a1_modulus a1_seed a1_functions (v_a1_names) (.ref q_a1_kinds) (.ref q_a1_firsts) (.ref q_a1_seconds) (v_a1_degrees) (.ref q_a1_colours) (v_a1_needs) (.ref q_a1_numbers), aI Y q_a1_firsts 12 a1_firsts, aI Y q_a1_seconds 12 a1_seconds, aI Y q_a1_kinds 12 a1_kinds, aI Y q_a1_numbers 144 a1_numbers, oX4 h0 (.ref q_ofPrime) (.ref q_cells), aI Y q_cells 216 cells, aI Y q_a1_colours 12 a1_colours, aI Y q_ofPrime 18 ofPrime] (fun v w => ∃ r : Int64, v = some (.long r) ∧ w = [oX3 q_a1 a1_bound a1_modulus a1_seed a1_functions (v_a1_names) (.ref q_a1_kinds) (.ref q_a1_firsts) (.ref q_a1_seconds) (v_a1_degrees) (.ref q_a1_colours) (v_a1_needs) (.ref q_a1_numbers), aI Y q_a1_firsts 12 a1_firsts, aI Y q_a1_seconds 12 a1_seconds, aI Y q_a1_kinds 12 a1_kinds, aI Y q_a1_numbers 144 a1_numbers, oX4 h0 (.ref q_ofPrime) (.ref q_cells), aI Y q_cells 216 cells, aI Y q_a1_colours 12 a1_colours, aI Y q_ofPrime 18 ofPrime] ∧ Q r) := by
  refine gM_of (own := RX4) (by decide +kernel) rfl (Nat.le_of_ble_eq_true rfl) rfl (fun E C hR => ?_)
  unfold wX4_cellOf at h
  refine g_aload_n C dX4_cellOf_0 1 rfl ?_
  refine g_get C inX3 0 rfl rfl 6 (by decide) wF_X4_39 rfl dX4_cellOf_1 ?_
  refine g_iload_n C dX4_cellOf_4 2 rfl ?_
  obtain ⟨hc_1, h⟩ := h
  refine g_iald C 1 rfl hc_1 dX4_cellOf_5 ?_
  refine g_iconst (v := 0) C dX4_cellOf_6 rfl ?_
  refine g_mmax C wM_X4_42 dX4_cellOf_7 ⟨Nat.le_of_ble_eq_true rfl, Nat.le_of_ble_eq_true rfl⟩ ⟨Nat.le_of_ble_eq_true rfl, Nat.le_of_ble_eq_true rfl⟩ ?_
  refine g_topi (fun m_1 em_1 => ?_)
  replace h := h m_1 em_1
  refine g_bipush (v := 18) C dX4_cellOf_10 rfl ?_
  refine g_imul C dX4_cellOf_12 ?_
  refine g_topi (fun x5_1 ex5_1 => ?_)
  replace h := h x5_1 ex5_1
  refine g_istore (lv' := [(5, .int x5_1), (0, .ref h0), (1, .ref q_a1), (2, .int a2), (3, .int a3), (4, .int a4)]) C dX4_cellOf_13 (by decide) rfl ?_
  refine g_aload_n C dX4_cellOf_15 2 rfl ?_
  refine g_get C inX3 0 rfl rfl 7 (by decide) wF_X4_48 rfl dX4_cellOf_16 ?_
  refine g_iload_n C dX4_cellOf_19 3 rfl ?_
  refine g_iald C 2 rfl hc_1 dX4_cellOf_20 ?_
  refine g_iconst (v := 0) C dX4_cellOf_21 rfl ?_
  refine g_mmax C wM_X4_42 dX4_cellOf_22 ⟨Nat.le_of_ble_eq_true rfl, Nat.le_of_ble_eq_true rfl⟩ ⟨Nat.le_of_ble_eq_true rfl, Nat.le_of_ble_eq_true rfl⟩ ?_
  refine g_topi (fun m_2 em_2 => ?_)
  replace h := h m_2 em_2
  refine g_bipush (v := 18) C dX4_cellOf_25 rfl ?_
  refine g_imul C dX4_cellOf_27 ?_
  refine g_topi (fun x6_1 ex6_1 => ?_)
  replace h := h x6_1 ex6_1
  refine g_istore (lv' := [(6, .int x6_1), (5, .int x5_1), (0, .ref h0), (1, .ref q_a1), (2, .int a2), (3, .int a3), (4, .int a4)]) C dX4_cellOf_28 (by decide) rfl ?_
  refine g_aload_n C dX4_cellOf_30 3 rfl ?_
  refine g_get C inX3 0 rfl rfl 5 (by decide) wF_X4_51 rfl dX4_cellOf_31 ?_
  refine g_iload_n C dX4_cellOf_34 4 rfl ?_
  refine g_iald C 3 rfl hc_1 dX4_cellOf_35 ?_
  by_cases c_1 : (a1_kinds a2.toNatClampNeg) = 1
  · replace h := h.1 c_1
    refine g_tabI (v := 1) (tgt := 72) C dX4_cellOf_36 c_1 (by decide) (by decide) rfl (by decide) ?_
    refine g_aload_n C dX4_cellOf_72 3 rfl ?_
    refine g_iload_n C dX4_cellOf_73 4 rfl ?_
    refine g_iload_n C dX4_cellOf_74 5 rfl ?_
    refine g_iload C dX4_cellOf_75 6 rfl ?_
    obtain ⟨P_1, hP, h⟩ := h
    refine g_callS (As := [.ref q_a1, .int a2, .int a3, .int a4]) (rest := []) C (mX4_ownCell l D Y q_a1 a1_bound a1_modulus a1_seed a1_functions v_a1_names (.ref q_a1_kinds) (.ref q_a1_firsts) (.ref q_a1_seconds) v_a1_degrees (.ref q_a1_colours) v_a1_needs q_a1_numbers a1_numbers a2 a3 a4 P_1 hP) dX4_cellOf_77 rfl wM_X4_54 wS_X4_ownCell wN_X4 wC_X4_ownCell (n := 4) (by decide +kernel) rfl ⟨Nat.le_of_ble_eq_true rfl, Nat.le_of_ble_eq_true rfl⟩ ⟨Nat.le_of_ble_eq_true rfl, Nat.le_of_ble_eq_true rfl⟩ (Nat.le_of_ble_eq_true rfl) [0, 4] [1, 2, 3, 5, 6, 7, 8] rfl rfl rfl (fun v wc hv => ?_)
    obtain ⟨rF_1, rfl, rfl, hq⟩ := hv
    replace h := h rF_1 hq
    refine gG.perm (ws' := [oX3 q_a1 a1_bound a1_modulus a1_seed a1_functions (v_a1_names) (.ref q_a1_kinds) (.ref q_a1_firsts) (.ref q_a1_seconds) (v_a1_degrees) (.ref q_a1_colours) (v_a1_needs) (.ref q_a1_numbers), aI Y q_a1_firsts 12 a1_firsts, aI Y q_a1_seconds 12 a1_seconds, aI Y q_a1_kinds 12 a1_kinds, aI Y q_a1_numbers 144 a1_numbers, oX4 h0 (.ref q_ofPrime) (.ref q_cells), aI Y q_cells 216 cells, aI Y q_a1_colours 12 a1_colours, aI Y q_ofPrime 18 ofPrime]) [7, 0, 1, 2, 8, 3, 4, 5, 6] rfl rfl ?_
    exact g_lret C hR (Nat.le_of_ble_eq_true rfl) (Nat.le_of_ble_eq_true rfl) dX4_cellOf_80 ⟨rF_1, rfl, rfl, h⟩
  · replace h := h.2 c_1
    by_cases c_2 : (a1_kinds a2.toNatClampNeg) = 2
    · replace h := h.1 c_2
      refine g_tabI (v := 2) (tgt := 81) C dX4_cellOf_36 c_2 (by decide) (by decide) rfl (by decide) ?_
      refine g_aload_n C dX4_cellOf_81 2 rfl ?_
      refine g_iload C dX4_cellOf_82 1 rfl ?_
      refine g_iload C dX4_cellOf_84 0 rfl ?_
      refine g_iconst (v := 0) C dX4_cellOf_86 rfl ?_
      refine g_iload C dX4_cellOf_87 6 rfl ?_
      obtain ⟨P_2, hP, h⟩ := h
      refine g_callV (As := [.int x5_1, .int x6_1, .int 0, .int a4]) (rest := []) C (mX4_crossed l D Y h0 (.ref q_ofPrime) q_cells cells x5_1 x6_1 0 a4 P_2 hP) dX4_cellOf_89 rfl wM_X4_57 wI_X4_crossed wV_X4_crossed wN_X4 wC_X4_crossed (n := 4) (by decide +kernel) rfl (q0 := 0) rfl rfl ⟨Nat.le_of_ble_eq_true rfl, Nat.le_of_ble_eq_true rfl⟩ ⟨Nat.le_of_ble_eq_true rfl, Nat.le_of_ble_eq_true rfl⟩ (Nat.le_of_ble_eq_true rfl) [5, 6] [0, 1, 2, 3, 4, 7, 8] rfl rfl rfl (fun v wc hv => ?_)
      obtain ⟨rF_2, rfl, rfl, hq⟩ := hv
      replace h := h rF_2 hq
      refine gG.perm (ws' := [oX3 q_a1 a1_bound a1_modulus a1_seed a1_functions (v_a1_names) (.ref q_a1_kinds) (.ref q_a1_firsts) (.ref q_a1_seconds) (v_a1_degrees) (.ref q_a1_colours) (v_a1_needs) (.ref q_a1_numbers), aI Y q_a1_firsts 12 a1_firsts, aI Y q_a1_seconds 12 a1_seconds, aI Y q_a1_kinds 12 a1_kinds, aI Y q_a1_numbers 144 a1_numbers, oX4 h0 (.ref q_ofPrime) (.ref q_cells), aI Y q_cells 216 cells, aI Y q_a1_colours 12 a1_colours, aI Y q_ofPrime 18 ofPrime]) [0, 1, 2, 3, 4, 7, 8, 5, 6] rfl rfl ?_
      exact g_lret C hR (Nat.le_of_ble_eq_true rfl) (Nat.le_of_ble_eq_true rfl) dX4_cellOf_92 ⟨rF_2, rfl, rfl, h⟩
    · replace h := h.2 c_2
      by_cases c_3 : (a1_kinds a2.toNatClampNeg) = 3
      · replace h := h.1 c_3
        refine g_tabI (v := 3) (tgt := 93) C dX4_cellOf_36 c_3 (by decide) (by decide) rfl (by decide) ?_
        refine g_aload_n C dX4_cellOf_93 2 rfl ?_
        refine g_iload C dX4_cellOf_94 1 rfl ?_
        refine g_iload_n C dX4_cellOf_96 4 rfl ?_
        refine g_bipush (v := 18) C dX4_cellOf_97 rfl ?_
        refine g_imul C dX4_cellOf_99 ?_
        refine g_iconst (v := 1) C dX4_cellOf_100 rfl ?_
        refine g_iload C dX4_cellOf_101 6 rfl ?_
        obtain ⟨P_3, hP, h⟩ := h
        refine g_callV (As := [.int x5_1, .int (a2 * 18), .int 1, .int a4]) (rest := []) C (mX4_crossed l D Y h0 (.ref q_ofPrime) q_cells cells x5_1 (a2 * 18) 1 a4 P_3 hP) dX4_cellOf_103 rfl wM_X4_57 wI_X4_crossed wV_X4_crossed wN_X4 wC_X4_crossed (n := 4) (by decide +kernel) rfl (q0 := 0) rfl rfl ⟨Nat.le_of_ble_eq_true rfl, Nat.le_of_ble_eq_true rfl⟩ ⟨Nat.le_of_ble_eq_true rfl, Nat.le_of_ble_eq_true rfl⟩ (Nat.le_of_ble_eq_true rfl) [5, 6] [0, 1, 2, 3, 4, 7, 8] rfl rfl rfl (fun v wc hv => ?_)
        obtain ⟨rF_3, rfl, rfl, hq⟩ := hv
        replace h := h rF_3 hq
        refine gG.perm (ws' := [oX3 q_a1 a1_bound a1_modulus a1_seed a1_functions (v_a1_names) (.ref q_a1_kinds) (.ref q_a1_firsts) (.ref q_a1_seconds) (v_a1_degrees) (.ref q_a1_colours) (v_a1_needs) (.ref q_a1_numbers), aI Y q_a1_firsts 12 a1_firsts, aI Y q_a1_seconds 12 a1_seconds, aI Y q_a1_kinds 12 a1_kinds, aI Y q_a1_numbers 144 a1_numbers, oX4 h0 (.ref q_ofPrime) (.ref q_cells), aI Y q_cells 216 cells, aI Y q_a1_colours 12 a1_colours, aI Y q_ofPrime 18 ofPrime]) [0, 1, 2, 3, 4, 7, 8, 5, 6] rfl rfl ?_
        refine g_lneg C dX4_cellOf_106 ?_
        exact g_lret C hR (Nat.le_of_ble_eq_true rfl) (Nat.le_of_ble_eq_true rfl) dX4_cellOf_107 ⟨-rF_3, rfl, rfl, h⟩
      · replace h := h.2 c_3
        by_cases c_4 : (a1_kinds a2.toNatClampNeg) = 4
        · replace h := h.1 c_4
          refine g_tabI (v := 4) (tgt := 108) C dX4_cellOf_36 c_4 (by decide) (by decide) rfl (by decide) ?_
          refine g_aload_n C dX4_cellOf_108 2 rfl ?_
          refine g_get C inX4 5 rfl rfl 1 (by decide) wF_X4_15 rfl dX4_cellOf_109 ?_
          refine g_iload C dX4_cellOf_112 1 rfl ?_
          refine g_iload C dX4_cellOf_114 6 rfl ?_
          refine g_iadd C dX4_cellOf_116 ?_
          obtain ⟨hc_2, h⟩ := h
          refine g_iald C 6 rfl hc_2 dX4_cellOf_117 ?_
          refine g_i2l C dX4_cellOf_118 ?_
          refine g_aload_n C dX4_cellOf_119 2 rfl ?_
          refine g_get C inX4 5 rfl rfl 1 (by decide) wF_X4_15 rfl dX4_cellOf_120 ?_
          refine g_iload C dX4_cellOf_123 0 rfl ?_
          refine g_iload C dX4_cellOf_125 6 rfl ?_
          refine g_iadd C dX4_cellOf_127 ?_
          obtain ⟨hc_3, h⟩ := h
          refine g_iald C 6 rfl hc_3 dX4_cellOf_128 ?_
          refine g_i2l C dX4_cellOf_129 ?_
          refine g_lmul C dX4_cellOf_130 ?_
          refine g_topl (fun t_1 et_1 => ?_)
          replace h := h t_1 et_1
          exact g_lret C hR (Nat.le_of_ble_eq_true rfl) (Nat.le_of_ble_eq_true rfl) dX4_cellOf_131 ⟨t_1, rfl, rfl, h⟩
        · replace h := h.2 c_4
          by_cases c_5 : (a1_kinds a2.toNatClampNeg) = 5
          · replace h := h.1 c_5
            refine g_tabI (v := 5) (tgt := 132) C dX4_cellOf_36 c_5 (by decide) (by decide) rfl (by decide) ?_
            refine g_aload_n C dX4_cellOf_132 2 rfl ?_
            refine g_get C inX4 5 rfl rfl 1 (by decide) wF_X4_15 rfl dX4_cellOf_133 ?_
            refine g_iload C dX4_cellOf_136 1 rfl ?_
            refine g_iload C dX4_cellOf_138 6 rfl ?_
            refine g_iadd C dX4_cellOf_140 ?_
            obtain ⟨hc_4, h⟩ := h
            refine g_iald C 6 rfl hc_4 dX4_cellOf_141 ?_
            refine g_i2l C dX4_cellOf_142 ?_
            refine g_aload_n C dX4_cellOf_143 3 rfl ?_
            refine g_get C inX3 0 rfl rfl 9 (by decide) wF_X4_61 rfl dX4_cellOf_144 ?_
            refine g_iload_n C dX4_cellOf_147 4 rfl ?_
            refine g_iald C 7 rfl hc_1 dX4_cellOf_148 ?_
            refine g_iload_n C dX4_cellOf_149 5 rfl ?_
            refine g_iload C dX4_cellOf_150 6 rfl ?_
            obtain ⟨P_4, hP, h⟩ := h
            refine g_callS (As := [.int (a1_colours a2.toNatClampNeg), .int a3, .int a4]) (rest := [.long ((cells (x5_1 + a4).toNatClampNeg).toInt64)]) C (mX4_sign l D Y (a1_colours a2.toNatClampNeg) a3 a4 P_4 hP) dX4_cellOf_152 rfl wM_X4_64 wS_X4_sign wN_X4 wC_X4_sign (n := 3) (by decide +kernel) rfl ⟨Nat.le_of_ble_eq_true rfl, Nat.le_of_ble_eq_true rfl⟩ ⟨Nat.le_of_ble_eq_true rfl, Nat.le_of_ble_eq_true rfl⟩ (Nat.le_of_ble_eq_true rfl) [] [0, 1, 2, 3, 4, 5, 6, 7, 8] rfl rfl rfl (fun v wc hv => ?_)
            obtain ⟨rF_4, rfl, rfl, hq⟩ := hv
            replace h := h rF_4 hq
            refine gG.eqw (ws' := [oX3 q_a1 a1_bound a1_modulus a1_seed a1_functions (v_a1_names) (.ref q_a1_kinds) (.ref q_a1_firsts) (.ref q_a1_seconds) (v_a1_degrees) (.ref q_a1_colours) (v_a1_needs) (.ref q_a1_numbers), aI Y q_a1_firsts 12 a1_firsts, aI Y q_a1_seconds 12 a1_seconds, aI Y q_a1_kinds 12 a1_kinds, aI Y q_a1_numbers 144 a1_numbers, oX4 h0 (.ref q_ofPrime) (.ref q_cells), aI Y q_cells 216 cells, aI Y q_a1_colours 12 a1_colours, aI Y q_ofPrime 18 ofPrime]) rfl ?_
            refine g_i2l C dX4_cellOf_155 ?_
            refine g_lmul C dX4_cellOf_156 ?_
            exact g_lret C hR (Nat.le_of_ble_eq_true rfl) (Nat.le_of_ble_eq_true rfl) dX4_cellOf_157 ⟨((cells (x5_1 + a4).toNatClampNeg).toInt64) * (rF_4.toInt64), rfl, rfl, h⟩
          · replace h := h.2 c_5
            refine g_tabO (tgt := 158) C dX4_cellOf_36 [1, 2, 3, 4, 5] (by decide) (by exact ⟨c_1, c_2, c_3, c_4, c_5, trivial⟩) (by decide) ?_
            refine g_aload_n C dX4_cellOf_158 2 rfl ?_
            refine g_iload_n C dX4_cellOf_159 4 rfl ?_
            refine g_iload C dX4_cellOf_160 6 rfl ?_
            obtain ⟨P_5, hP, h⟩ := h
            refine g_callV (As := [.int a2, .int a4]) (rest := []) C (mX4_knownCell l D Y h0 q_ofPrime q_cells ofPrime cells a2 a4 P_5 hP) dX4_cellOf_162 rfl wM_X4_68 wI_X4_knownCell wV_X4_knownCell wN_X4 wC_X4_knownCell (n := 2) (by decide +kernel) rfl (q0 := 0) rfl rfl ⟨Nat.le_of_ble_eq_true rfl, Nat.le_of_ble_eq_true rfl⟩ ⟨Nat.le_of_ble_eq_true rfl, Nat.le_of_ble_eq_true rfl⟩ (Nat.le_of_ble_eq_true rfl) [5, 8, 6] [0, 1, 2, 3, 4, 7] rfl rfl rfl (fun v wc hv => ?_)
            obtain ⟨rF_5, rfl, rfl, hq⟩ := hv
            replace h := h rF_5 hq
            refine gG.perm (ws' := [oX3 q_a1 a1_bound a1_modulus a1_seed a1_functions (v_a1_names) (.ref q_a1_kinds) (.ref q_a1_firsts) (.ref q_a1_seconds) (v_a1_degrees) (.ref q_a1_colours) (v_a1_needs) (.ref q_a1_numbers), aI Y q_a1_firsts 12 a1_firsts, aI Y q_a1_seconds 12 a1_seconds, aI Y q_a1_kinds 12 a1_kinds, aI Y q_a1_numbers 144 a1_numbers, oX4 h0 (.ref q_ofPrime) (.ref q_cells), aI Y q_cells 216 cells, aI Y q_a1_colours 12 a1_colours, aI Y q_ofPrime 18 ofPrime]) [0, 1, 2, 3, 4, 6, 8, 5, 7] rfl rfl ?_
            exact g_lret C hR (Nat.le_of_ble_eq_true rfl) (Nat.le_of_ble_eq_true rfl) dX4_cellOf_165 ⟨rF_5, rfl, rfl, h⟩
theorem dX4_valueAtPower_0 : decode cX4_valueAtPower 0 = .ok (.aload_n 1, 1) := by decide +kernel
theorem dX4_valueAtPower_1 : decode cX4_valueAtPower 1 = .ok (.iload_n 2, 1) := by decide +kernel
theorem dX4_valueAtPower_2 : decode cX4_valueAtPower 2 = .ok (.invokevirtual 28, 3) := by decide +kernel
theorem dX4_valueAtPower_5 : decode cX4_valueAtPower 5 = .ok (.ifCond .eq 15, 3) := by decide +kernel
theorem dX4_valueAtPower_8 : decode cX4_valueAtPower 8 = .ok (.iload 4, 2) := by decide +kernel
theorem dX4_valueAtPower_10 : decode cX4_valueAtPower 10 = .ok (.ifCond .lt 10, 3) := by decide +kernel
theorem dX4_valueAtPower_13 : decode cX4_valueAtPower 13 = .ok (.iload 4, 2) := by decide +kernel
theorem dX4_valueAtPower_15 : decode cX4_valueAtPower 15 = .ok (.bipush 17, 2) := by decide +kernel
theorem dX4_valueAtPower_17 : decode cX4_valueAtPower 17 = .ok (.if_icmp .le 5, 3) := by decide +kernel
theorem dX4_valueAtPower_20 : decode cX4_valueAtPower 20 = .ok (.iconst 0, 1) := by decide +kernel
theorem dX4_valueAtPower_21 : decode cX4_valueAtPower 21 = .ok (.ireturn, 1) := by decide +kernel
theorem dX4_valueAtPower_22 : decode cX4_valueAtPower 22 = .ok (.aload_n 1, 1) := by decide +kernel
theorem dX4_valueAtPower_23 : decode cX4_valueAtPower 23 = .ok (.getfield 32, 3) := by decide +kernel
theorem dX4_valueAtPower_26 : decode cX4_valueAtPower 26 = .ok (.iload_n 2, 1) := by decide +kernel
theorem dX4_valueAtPower_27 : decode cX4_valueAtPower 27 = .ok (.iaload, 1) := by decide +kernel
theorem dX4_valueAtPower_28 : decode cX4_valueAtPower 28 = .ok (.istore 5, 2) := by decide +kernel
theorem dX4_valueAtPower_30 : decode cX4_valueAtPower 30 = .ok (.iconst 1, 1) := by decide +kernel
theorem dX4_valueAtPower_31 : decode cX4_valueAtPower 31 = .ok (.istore 6, 2) := by decide +kernel
theorem dX4_valueAtPower_33 : decode cX4_valueAtPower 33 = .ok (.iload 6, 2) := by decide +kernel
theorem dX4_valueAtPower_35 : decode cX4_valueAtPower 35 = .ok (.iload 4, 2) := by decide +kernel
theorem dX4_valueAtPower_37 : decode cX4_valueAtPower 37 = .ok (.if_icmp .gt 85, 3) := by decide +kernel
theorem dX4_valueAtPower_40 : decode cX4_valueAtPower 40 = .ok (.aload_n 0, 1) := by decide +kernel
theorem dX4_valueAtPower_41 : decode cX4_valueAtPower 41 = .ok (.getfield 11, 3) := by decide +kernel
theorem dX4_valueAtPower_44 : decode cX4_valueAtPower 44 = .ok (.iload 6, 2) := by decide +kernel
theorem dX4_valueAtPower_46 : decode cX4_valueAtPower 46 = .ok (.aload_n 1, 1) := by decide +kernel
theorem dX4_valueAtPower_47 : decode cX4_valueAtPower 47 = .ok (.aload_n 0, 1) := by decide +kernel
theorem dX4_valueAtPower_48 : decode cX4_valueAtPower 48 = .ok (.getfield 11, 3) := by decide +kernel
theorem dX4_valueAtPower_51 : decode cX4_valueAtPower 51 = .ok (.iload 6, 2) := by decide +kernel
theorem dX4_valueAtPower_53 : decode cX4_valueAtPower 53 = .ok (.iconst 1, 1) := by decide +kernel
theorem dX4_valueAtPower_54 : decode cX4_valueAtPower 54 = .ok (.isub, 1) := by decide +kernel
theorem dX4_valueAtPower_55 : decode cX4_valueAtPower 55 = .ok (.iaload, 1) := by decide +kernel
theorem dX4_valueAtPower_56 : decode cX4_valueAtPower 56 = .ok (.i2l, 1) := by decide +kernel
theorem dX4_valueAtPower_57 : decode cX4_valueAtPower 57 = .ok (.iload_n 3, 1) := by decide +kernel
theorem dX4_valueAtPower_58 : decode cX4_valueAtPower 58 = .ok (.i2l, 1) := by decide +kernel
theorem dX4_valueAtPower_59 : decode cX4_valueAtPower 59 = .ok (.lmul, 1) := by decide +kernel
theorem dX4_valueAtPower_60 : decode cX4_valueAtPower 60 = .ok (.invokevirtual 22, 3) := by decide +kernel
theorem dX4_valueAtPower_63 : decode cX4_valueAtPower 63 = .ok (.iastore, 1) := by decide +kernel
theorem dX4_valueAtPower_64 : decode cX4_valueAtPower 64 = .ok (.iconst 0, 1) := by decide +kernel
theorem dX4_valueAtPower_65 : decode cX4_valueAtPower 65 = .ok (.istore 7, 2) := by decide +kernel
theorem dX4_valueAtPower_67 : decode cX4_valueAtPower 67 = .ok (.iload 7, 2) := by decide +kernel
theorem dX4_valueAtPower_69 : decode cX4_valueAtPower 69 = .ok (.iload_n 2, 1) := by decide +kernel
theorem dX4_valueAtPower_70 : decode cX4_valueAtPower 70 = .ok (.if_icmp .gt 46, 3) := by decide +kernel
theorem dX4_valueAtPower_73 : decode cX4_valueAtPower 73 = .ok (.iload 5, 2) := by decide +kernel
theorem dX4_valueAtPower_75 : decode cX4_valueAtPower 75 = .ok (.iload 7, 2) := by decide +kernel
theorem dX4_valueAtPower_77 : decode cX4_valueAtPower 77 = .ok (.ishr, 1) := by decide +kernel
theorem dX4_valueAtPower_78 : decode cX4_valueAtPower 78 = .ok (.iconst 1, 1) := by decide +kernel
theorem dX4_valueAtPower_79 : decode cX4_valueAtPower 79 = .ok (.iand, 1) := by decide +kernel
theorem dX4_valueAtPower_80 : decode cX4_valueAtPower 80 = .ok (.ifCond .eq 30, 3) := by decide +kernel
theorem dX4_valueAtPower_83 : decode cX4_valueAtPower 83 = .ok (.aload_n 0, 1) := by decide +kernel
theorem dX4_valueAtPower_84 : decode cX4_valueAtPower 84 = .ok (.getfield 15, 3) := by decide +kernel
theorem dX4_valueAtPower_87 : decode cX4_valueAtPower 87 = .ok (.iload 7, 2) := by decide +kernel
theorem dX4_valueAtPower_89 : decode cX4_valueAtPower 89 = .ok (.bipush 18, 2) := by decide +kernel
theorem dX4_valueAtPower_91 : decode cX4_valueAtPower 91 = .ok (.imul, 1) := by decide +kernel
theorem dX4_valueAtPower_92 : decode cX4_valueAtPower 92 = .ok (.iload 6, 2) := by decide +kernel
theorem dX4_valueAtPower_94 : decode cX4_valueAtPower 94 = .ok (.iadd, 1) := by decide +kernel
theorem dX4_valueAtPower_95 : decode cX4_valueAtPower 95 = .ok (.aload_n 1, 1) := by decide +kernel
theorem dX4_valueAtPower_96 : decode cX4_valueAtPower 96 = .ok (.aload_n 0, 1) := by decide +kernel
theorem dX4_valueAtPower_97 : decode cX4_valueAtPower 97 = .ok (.aload_n 1, 1) := by decide +kernel
theorem dX4_valueAtPower_98 : decode cX4_valueAtPower 98 = .ok (.iload 7, 2) := by decide +kernel
theorem dX4_valueAtPower_100 : decode cX4_valueAtPower 100 = .ok (.iload_n 3, 1) := by decide +kernel
theorem dX4_valueAtPower_101 : decode cX4_valueAtPower 101 = .ok (.iload 6, 2) := by decide +kernel
theorem dX4_valueAtPower_103 : decode cX4_valueAtPower 103 = .ok (.invokevirtual 35, 3) := by decide +kernel
theorem dX4_valueAtPower_106 : decode cX4_valueAtPower 106 = .ok (.invokevirtual 22, 3) := by decide +kernel
theorem dX4_valueAtPower_109 : decode cX4_valueAtPower 109 = .ok (.iastore, 1) := by decide +kernel
theorem dX4_valueAtPower_110 : decode cX4_valueAtPower 110 = .ok (.iinc 7 1, 3) := by decide +kernel
theorem dX4_valueAtPower_113 : decode cX4_valueAtPower 113 = .ok (.goto (-46), 3) := by decide +kernel
theorem dX4_valueAtPower_116 : decode cX4_valueAtPower 116 = .ok (.iinc 6 1, 3) := by decide +kernel
theorem dX4_valueAtPower_119 : decode cX4_valueAtPower 119 = .ok (.goto (-86), 3) := by decide +kernel
theorem dX4_valueAtPower_122 : decode cX4_valueAtPower 122 = .ok (.aload_n 0, 1) := by decide +kernel
theorem dX4_valueAtPower_123 : decode cX4_valueAtPower 123 = .ok (.getfield 15, 3) := by decide +kernel
theorem dX4_valueAtPower_126 : decode cX4_valueAtPower 126 = .ok (.iload_n 2, 1) := by decide +kernel
theorem dX4_valueAtPower_127 : decode cX4_valueAtPower 127 = .ok (.bipush 18, 2) := by decide +kernel
theorem dX4_valueAtPower_129 : decode cX4_valueAtPower 129 = .ok (.imul, 1) := by decide +kernel
theorem dX4_valueAtPower_130 : decode cX4_valueAtPower 130 = .ok (.iload 4, 2) := by decide +kernel
theorem dX4_valueAtPower_132 : decode cX4_valueAtPower 132 = .ok (.iadd, 1) := by decide +kernel
theorem dX4_valueAtPower_133 : decode cX4_valueAtPower 133 = .ok (.iaload, 1) := by decide +kernel
theorem dX4_valueAtPower_134 : decode cX4_valueAtPower 134 = .ok (.ireturn, 1) := by decide +kernel
/-- QuotientSums$Powers.valueAtPower(LQuotientSums$Plan;III)I -/
def wX4_valueAtPower (a1_bound : Int32) (a1_modulus : Int32) (a1_seed : Int32) (a1_functions : Int32) (a1_needs : Nat → Int32) (cells : Nat → Int32) (ofPrime : Nat → Int32) (a1_firsts : Nat → Int32) (a1_seconds : Nat → Int32) (a1_kinds : Nat → Int32) (a1_numbers : Nat → Int32) (a1_colours : Nat → Int32) (a2 : Int32) (a3 : Int32) (a4 : Int32) (Q : (Int32) → (Nat → Int32) → (Nat → Int32) → Prop) : Prop :=
  (∃ (P_1 : (Int32) → Prop), wX3_has a1_bound a1_modulus a1_seed a1_functions a2 P_1 ∧ ∀ (rF_1 : Int32), P_1 rF_1 → ((rF_1 = 0 → (Q 0 cells ofPrime)) ∧ (¬ rF_1 = 0 → ((a4 < 0 → (Q 0 cells ofPrime)) ∧ (¬ a4 < 0 → ((a4 ≤ 17 → (vp_in a2 12 ∧ ∀ x5_1 : Int32, x5_1 = a1_needs a2.toNatClampNeg → (∃ (Inv_1 : (Nat → Int32) → (Nat → Int32) → (Int32) → Prop) (Mea_1 : (Nat → Int32) → (Nat → Int32) → (Int32) → Nat), Inv_1 cells ofPrime 1 ∧ ∀ (cells_1 : Nat → Int32) (ofPrime_1 : Nat → Int32) (x6_1 : Int32), Inv_1 cells_1 ofPrime_1 x6_1 → ((a4 < x6_1 → (vp_in ((a2 * 18) + a4) 216 ∧ (Q (cells_1 ((a2 * 18) + a4).toNatClampNeg) cells_1 ofPrime_1))) ∧ (¬ a4 < x6_1 → (vp_in (x6_1 - 1) 18 ∧ ∃ (P_2 : (Int32) → Prop), wX3_rest a1_bound a1_modulus a1_seed a1_functions (((ofPrime_1 (x6_1 - 1).toNatClampNeg).toInt64) * (a3.toInt64)) P_2 ∧ ∀ (rF_2 : Int32), P_2 rF_2 → vp_in x6_1 18 ∧ ∀ ofPrime_2 : Nat → Int32, ofPrime_2 = upd ofPrime_1 x6_1.toNatClampNeg rF_2 → (∃ (Inv_2 : (Nat → Int32) → (Int32) → Prop) (Mea_2 : (Nat → Int32) → (Int32) → Nat), Inv_2 cells_1 0 ∧ ∀ (cells_2 : Nat → Int32) (x7_1 : Int32), Inv_2 cells_2 x7_1 → ((a2 < x7_1 → (Inv_1 cells_2 ofPrime_2 (x6_1 + 1) ∧ Mea_1 cells_2 ofPrime_2 (x6_1 + 1) < Mea_1 cells_1 ofPrime_1 x6_1)) ∧ (¬ a2 < x7_1 → ((((x5_1 >>> (x7_1 &&& 31)) &&& 1) = 0 → (Inv_2 cells_2 (x7_1 + 1) ∧ Mea_2 cells_2 (x7_1 + 1) < Mea_2 cells_2 x7_1)) ∧ (¬ ((x5_1 >>> (x7_1 &&& 31)) &&& 1) = 0 → (∃ (P_3 : (Int64) → Prop), wX4_cellOf a1_bound a1_modulus a1_seed a1_functions a1_firsts a1_seconds a1_kinds a1_numbers cells_2 a1_colours ofPrime_2 x7_1 a3 x6_1 P_3 ∧ ∀ (rF_3 : Int64), P_3 rF_3 → ∃ (P_4 : (Int32) → Prop), wX3_rest a1_bound a1_modulus a1_seed a1_functions rF_3 P_4 ∧ ∀ (rF_4 : Int32), P_4 rF_4 → vp_in ((x7_1 * 18) + x6_1) 216 ∧ ∀ cells_3 : Nat → Int32, cells_3 = upd cells_2 ((x7_1 * 18) + x6_1).toNatClampNeg rF_4 → (Inv_2 cells_3 (x7_1 + 1) ∧ Mea_2 cells_3 (x7_1 + 1) < Mea_2 cells_2 x7_1))))))))))))) ∧ (¬ a4 ≤ 17 → (Q 0 cells ofPrime))))))))
set_option maxHeartbeats 4000000 in
set_option maxRecDepth 100000 in
theorem mX4_valueAtPower (l : Launch) (D : va_G) (Y : Nat → ClassId) (h0 : Nat) (q_a1 : Nat) (a1_bound : Int32) (a1_modulus : Int32) (a1_seed : Int32) (a1_functions : Int32) (v_a1_names : Value) (q_a1_kinds : Nat) (q_a1_firsts : Nat) (q_a1_seconds : Nat) (v_a1_degrees : Value) (q_a1_colours : Nat) (q_a1_needs : Nat) (q_a1_numbers : Nat) (a1_needs : Nat → Int32) (q_ofPrime : Nat) (q_cells : Nat) (cells : Nat → Int32) (ofPrime : Nat → Int32) (a1_firsts : Nat → Int32) (a1_seconds : Nat → Int32) (a1_kinds : Nat → Int32) (a1_numbers : Nat → Int32) (a1_colours : Nat → Int32) (a2 : Int32) (a3 : Int32) (a4 : Int32) (Q : (Int32) → (Nat → Int32) → (Nat → Int32) → Prop) (h : wX4_valueAtPower a1_bound a1_modulus a1_seed a1_functions a1_needs cells ofPrime a1_firsts a1_seconds a1_kinds a1_numbers a1_colours a2 a3 a4 Q) : gM l D Y yX4_valueAtPower cX4_valueAtPower 8 (some .int) 3 71 0 0 [.ref h0, .ref q_a1, .int a2, .int a3, .int a4] [oX3 q_a1 a1_bound a1_modulus a1_seed a1_functions (v_a1_names) (.ref q_a1_kinds) (.ref q_a1_firsts) (.ref q_a1_seconds) (v_a1_degrees) (.ref q_a1_colours) (.ref q_a1_needs) (.ref q_a1_numbers), aI Y q_a1_needs 12 a1_needs, oX4 h0 (.ref q_ofPrime) (.ref q_cells), aI Y q_cells 216 cells, aI Y q_ofPrime 18 ofPrime, aI Y q_a1_firsts 12 a1_firsts, aI Y q_a1_seconds 12 a1_seconds, aI Y q_a1_kinds 12 a1_kinds, aI Y q_a1_numbers 144 a1_numbers, aI Y q_a1_colours 12 a1_colours] (fun v w => ∃ r : Int32, ∃ cells' : Nat → Int32, ∃ ofPrime' : Nat → Int32, v = some (.int r) ∧ w = [oX3 q_a1 a1_bound a1_modulus a1_seed a1_functions (v_a1_names) (.ref q_a1_kinds) (.ref q_a1_firsts) (.ref q_a1_seconds) (v_a1_degrees) (.ref q_a1_colours) (.ref q_a1_needs) (.ref q_a1_numbers), aI Y q_a1_needs 12 a1_needs, oX4 h0 (.ref q_ofPrime) (.ref q_cells), aI Y q_cells 216 cells', aI Y q_ofPrime 18 ofPrime', aI Y q_a1_firsts 12 a1_firsts, aI Y q_a1_seconds 12 a1_seconds, aI Y q_a1_kinds 12 a1_kinds, aI Y q_a1_numbers 144 a1_numbers, aI Y q_a1_colours 12 a1_colours] ∧ Q r cells' ofPrime') := by
  refine gM_of (own := RX4) (by decide +kernel) rfl (Nat.le_of_ble_eq_true rfl) rfl (fun E C hR => ?_)
  unfold wX4_valueAtPower at h
  refine g_aload_n C dX4_valueAtPower_0 1 rfl ?_
  refine g_iload_n C dX4_valueAtPower_1 2 rfl ?_
  obtain ⟨P_1, hP, h⟩ := h
  refine g_callV (As := [.int a2]) (rest := []) C (mX3_has l D Y q_a1 a1_bound a1_modulus a1_seed a1_functions v_a1_names (.ref q_a1_kinds) (.ref q_a1_firsts) (.ref q_a1_seconds) v_a1_degrees (.ref q_a1_colours) (.ref q_a1_needs) (.ref q_a1_numbers) a2 P_1 hP) dX4_valueAtPower_2 rfl wM_X4_28 wI_X3_has wV_X3_has wN_X3 wC_X3_has (n := 1) (by decide +kernel) rfl (q0 := 0) rfl rfl ⟨Nat.le_of_ble_eq_true rfl, Nat.le_of_ble_eq_true rfl⟩ ⟨Nat.le_of_ble_eq_true rfl, Nat.le_of_ble_eq_true rfl⟩ (Nat.le_of_ble_eq_true rfl) [0] [1, 2, 3, 4, 5, 6, 7, 8, 9] rfl rfl rfl (fun v wc hv => ?_)
  obtain ⟨rF_1, rfl, rfl, hq⟩ := hv
  replace h := h rF_1 hq
  refine gG.perm (ws' := [oX3 q_a1 a1_bound a1_modulus a1_seed a1_functions (v_a1_names) (.ref q_a1_kinds) (.ref q_a1_firsts) (.ref q_a1_seconds) (v_a1_degrees) (.ref q_a1_colours) (.ref q_a1_needs) (.ref q_a1_numbers), aI Y q_a1_needs 12 a1_needs, oX4 h0 (.ref q_ofPrime) (.ref q_cells), aI Y q_cells 216 cells, aI Y q_ofPrime 18 ofPrime, aI Y q_a1_firsts 12 a1_firsts, aI Y q_a1_seconds 12 a1_seconds, aI Y q_a1_kinds 12 a1_kinds, aI Y q_a1_numbers 144 a1_numbers, aI Y q_a1_colours 12 a1_colours]) [9, 0, 1, 2, 3, 4, 5, 6, 7, 8] rfl rfl ?_
  refine g_if_eq (tgt := 20) C dX4_valueAtPower_5 (by decide) (fun c_1 => ?_) (fun c_1 => ?_)
  · replace h := h.1 c_1
    refine g_iconst (v := 0) C dX4_valueAtPower_20 rfl ?_
    exact g_iret C hR (Nat.le_of_ble_eq_true rfl) (Nat.le_of_ble_eq_true rfl) dX4_valueAtPower_21 ⟨0, cells, ofPrime, rfl, rfl, h⟩
  · replace h := h.2 c_1
    refine g_iload C dX4_valueAtPower_8 4 rfl ?_
    refine g_if_lt (tgt := 20) C dX4_valueAtPower_10 (by decide) (fun c_2 => ?_) (fun c_2 => ?_)
    · replace h := h.1 c_2
      refine g_iconst (v := 0) C dX4_valueAtPower_20 rfl ?_
      exact g_iret C hR (Nat.le_of_ble_eq_true rfl) (Nat.le_of_ble_eq_true rfl) dX4_valueAtPower_21 ⟨0, cells, ofPrime, rfl, rfl, h⟩
    · replace h := h.2 c_2
      refine g_iload C dX4_valueAtPower_13 4 rfl ?_
      refine g_bipush (v := 17) C dX4_valueAtPower_15 rfl ?_
      refine g_icmp_le (tgt := 22) C dX4_valueAtPower_17 (by decide) (fun c_3 => ?_) (fun c_3 => ?_)
      · replace h := h.1 c_3
        refine g_aload_n C dX4_valueAtPower_22 1 rfl ?_
        refine g_get C inX3 0 rfl rfl 10 (by decide) wF_X4_32 rfl dX4_valueAtPower_23 ?_
        refine g_iload_n C dX4_valueAtPower_26 2 rfl ?_
        obtain ⟨hc_1, h⟩ := h
        refine g_iald C 1 rfl hc_1 dX4_valueAtPower_27 ?_
        refine g_topi (fun x5_1 ex5_1 => ?_)
        replace h := h x5_1 ex5_1
        refine g_istore (lv' := [(5, .int x5_1), (0, .ref h0), (1, .ref q_a1), (2, .int a2), (3, .int a3), (4, .int a4)]) C dX4_valueAtPower_28 (by decide) rfl ?_
        refine g_iconst (v := 1) C dX4_valueAtPower_30 rfl ?_
        refine g_istore (lv' := [(6, .int 1), (5, .int x5_1), (0, .ref h0), (1, .ref q_a1), (2, .int a2), (3, .int a3), (4, .int a4)]) C dX4_valueAtPower_31 (by decide) rfl ?_
        obtain ⟨Inv_1, Mea_1, hI1, hB1⟩ := h
        have key_1 : ∀ (n : Nat) (cells_1 : Nat → Int32) (ofPrime_1 : Nat → Int32) (x6_1 : Int32) , Mea_1 cells_1 ofPrime_1 x6_1 < n → Inv_1 cells_1 ofPrime_1 x6_1 → gG E 0 0 [oX3 q_a1 a1_bound a1_modulus a1_seed a1_functions (v_a1_names) (.ref q_a1_kinds) (.ref q_a1_firsts) (.ref q_a1_seconds) (v_a1_degrees) (.ref q_a1_colours) (.ref q_a1_needs) (.ref q_a1_numbers), aI Y q_a1_needs 12 a1_needs, oX4 h0 (.ref q_ofPrime) (.ref q_cells), aI Y q_cells 216 cells_1, aI Y q_ofPrime 18 ofPrime_1, aI Y q_a1_firsts 12 a1_firsts, aI Y q_a1_seconds 12 a1_seconds, aI Y q_a1_kinds 12 a1_kinds, aI Y q_a1_numbers 144 a1_numbers, aI Y q_a1_colours 12 a1_colours] [(0, .ref h0), (1, .ref q_a1), (2, .int a2), (3, .int a3), (4, .int a4), (5, .int x5_1), (6, .int x6_1)] [] 33 := by
          intro n
          induction n with
          | zero => exact fun _ _ _ hm => absurd hm (Nat.not_lt_zero _)
          | succ n ih1 =>
            intro cells_1 ofPrime_1 x6_1  hm1 hI
            have h := hB1 cells_1 ofPrime_1 x6_1 hI
            refine g_iload C dX4_valueAtPower_33 6 rfl ?_
            refine g_iload C dX4_valueAtPower_35 4 rfl ?_
            refine g_icmp_gt (tgt := 122) C dX4_valueAtPower_37 (by decide) (fun c_4 => ?_) (fun c_4 => ?_)
            · replace h := h.1 c_4
              refine g_aload_n C dX4_valueAtPower_122 0 rfl ?_
              refine g_get C inX4 2 rfl rfl 1 (by decide) wF_X4_15 rfl dX4_valueAtPower_123 ?_
              refine g_iload_n C dX4_valueAtPower_126 2 rfl ?_
              refine g_bipush (v := 18) C dX4_valueAtPower_127 rfl ?_
              refine g_imul C dX4_valueAtPower_129 ?_
              refine g_iload C dX4_valueAtPower_130 4 rfl ?_
              refine g_iadd C dX4_valueAtPower_132 ?_
              obtain ⟨hc_2, h⟩ := h
              refine g_iald C 3 rfl hc_2 dX4_valueAtPower_133 ?_
              exact g_iret C hR (Nat.le_of_ble_eq_true rfl) (Nat.le_of_ble_eq_true rfl) dX4_valueAtPower_134 ⟨cells_1 ((a2 * 18) + a4).toNatClampNeg, cells_1, ofPrime_1, rfl, rfl, h⟩
            · replace h := h.2 c_4
              refine g_aload_n C dX4_valueAtPower_40 0 rfl ?_
              refine g_get C inX4 2 rfl rfl 0 (by decide) wF_X4_11 rfl dX4_valueAtPower_41 ?_
              refine g_iload C dX4_valueAtPower_44 6 rfl ?_
              refine g_aload_n C dX4_valueAtPower_46 1 rfl ?_
              refine g_aload_n C dX4_valueAtPower_47 0 rfl ?_
              refine g_get C inX4 2 rfl rfl 0 (by decide) wF_X4_11 rfl dX4_valueAtPower_48 ?_
              refine g_iload C dX4_valueAtPower_51 6 rfl ?_
              refine g_iconst (v := 1) C dX4_valueAtPower_53 rfl ?_
              refine g_isub C dX4_valueAtPower_54 ?_
              obtain ⟨hc_3, h⟩ := h
              refine g_iald C 4 rfl hc_3 dX4_valueAtPower_55 ?_
              refine g_i2l C dX4_valueAtPower_56 ?_
              refine g_iload_n C dX4_valueAtPower_57 3 rfl ?_
              refine g_i2l C dX4_valueAtPower_58 ?_
              refine g_lmul C dX4_valueAtPower_59 ?_
              obtain ⟨P_2, hP, h⟩ := h
              refine g_callV (As := [.long (((ofPrime_1 (x6_1 - 1).toNatClampNeg).toInt64) * (a3.toInt64))]) (rest := [.int x6_1, .ref q_ofPrime]) C (mX3_rest l D Y q_a1 a1_bound a1_modulus a1_seed a1_functions v_a1_names (.ref q_a1_kinds) (.ref q_a1_firsts) (.ref q_a1_seconds) v_a1_degrees (.ref q_a1_colours) (.ref q_a1_needs) (.ref q_a1_numbers) (((ofPrime_1 (x6_1 - 1).toNatClampNeg).toInt64) * (a3.toInt64)) P_2 hP) dX4_valueAtPower_60 rfl wM_X4_22 wI_X3_rest wV_X3_rest wN_X3 wC_X3_rest (n := 1) (by decide +kernel) rfl (q0 := 0) rfl rfl ⟨Nat.le_of_ble_eq_true rfl, Nat.le_of_ble_eq_true rfl⟩ ⟨Nat.le_of_ble_eq_true rfl, Nat.le_of_ble_eq_true rfl⟩ (Nat.le_of_ble_eq_true rfl) [0] [1, 2, 3, 4, 5, 6, 7, 8, 9] rfl rfl rfl (fun v wc hv => ?_)
              obtain ⟨rF_2, rfl, rfl, hq⟩ := hv
              replace h := h rF_2 hq
              refine gG.perm (ws' := [oX3 q_a1 a1_bound a1_modulus a1_seed a1_functions (v_a1_names) (.ref q_a1_kinds) (.ref q_a1_firsts) (.ref q_a1_seconds) (v_a1_degrees) (.ref q_a1_colours) (.ref q_a1_needs) (.ref q_a1_numbers), aI Y q_a1_needs 12 a1_needs, oX4 h0 (.ref q_ofPrime) (.ref q_cells), aI Y q_cells 216 cells_1, aI Y q_ofPrime 18 ofPrime_1, aI Y q_a1_firsts 12 a1_firsts, aI Y q_a1_seconds 12 a1_seconds, aI Y q_a1_kinds 12 a1_kinds, aI Y q_a1_numbers 144 a1_numbers, aI Y q_a1_colours 12 a1_colours]) [9, 0, 1, 2, 3, 4, 5, 6, 7, 8] rfl rfl ?_
              obtain ⟨hc_4, h⟩ := h
              refine g_iast C 4 rfl hc_4 dX4_valueAtPower_63 (fun ofPrime_2 eofPrime_2 => gG.eqw (ws' := [oX3 q_a1 a1_bound a1_modulus a1_seed a1_functions (v_a1_names) (.ref q_a1_kinds) (.ref q_a1_firsts) (.ref q_a1_seconds) (v_a1_degrees) (.ref q_a1_colours) (.ref q_a1_needs) (.ref q_a1_numbers), aI Y q_a1_needs 12 a1_needs, oX4 h0 (.ref q_ofPrime) (.ref q_cells), aI Y q_cells 216 cells_1, aI Y q_ofPrime 18 ofPrime_2, aI Y q_a1_firsts 12 a1_firsts, aI Y q_a1_seconds 12 a1_seconds, aI Y q_a1_kinds 12 a1_kinds, aI Y q_a1_numbers 144 a1_numbers, aI Y q_a1_colours 12 a1_colours]) rfl ?_)
              replace h := h ofPrime_2 eofPrime_2
              refine g_iconst (v := 0) C dX4_valueAtPower_64 rfl ?_
              refine g_istore (lv' := [(7, .int 0), (0, .ref h0), (1, .ref q_a1), (2, .int a2), (3, .int a3), (4, .int a4), (5, .int x5_1), (6, .int x6_1)]) C dX4_valueAtPower_65 (by decide) rfl ?_
              obtain ⟨Inv_2, Mea_2, hI2, hB2⟩ := h
              have key_2 : ∀ (n : Nat) (cells_2 : Nat → Int32) (x7_1 : Int32) , Mea_2 cells_2 x7_1 < n → Inv_2 cells_2 x7_1 → gG E 0 0 [oX3 q_a1 a1_bound a1_modulus a1_seed a1_functions (v_a1_names) (.ref q_a1_kinds) (.ref q_a1_firsts) (.ref q_a1_seconds) (v_a1_degrees) (.ref q_a1_colours) (.ref q_a1_needs) (.ref q_a1_numbers), aI Y q_a1_needs 12 a1_needs, oX4 h0 (.ref q_ofPrime) (.ref q_cells), aI Y q_cells 216 cells_2, aI Y q_ofPrime 18 ofPrime_2, aI Y q_a1_firsts 12 a1_firsts, aI Y q_a1_seconds 12 a1_seconds, aI Y q_a1_kinds 12 a1_kinds, aI Y q_a1_numbers 144 a1_numbers, aI Y q_a1_colours 12 a1_colours] [(0, .ref h0), (1, .ref q_a1), (2, .int a2), (3, .int a3), (4, .int a4), (5, .int x5_1), (6, .int x6_1), (7, .int x7_1)] [] 67 := by
                intro n
                induction n with
                | zero => exact fun _ _ hm => absurd hm (Nat.not_lt_zero _)
                | succ n ih2 =>
                  intro cells_2 x7_1  hm2 hI
                  have h := hB2 cells_2 x7_1 hI
                  refine g_iload C dX4_valueAtPower_67 7 rfl ?_
                  refine g_iload_n C dX4_valueAtPower_69 2 rfl ?_
                  refine g_icmp_gt (tgt := 116) C dX4_valueAtPower_70 (by decide) (fun c_5 => ?_) (fun c_5 => ?_)
                  · replace h := h.1 c_5
                    refine g_iinc (v := x6_1 + 1) (lv' := [(6, .int (x6_1 + 1)), (0, .ref h0), (1, .ref q_a1), (2, .int a2), (3, .int a3), (4, .int a4), (5, .int x5_1), (7, .int x7_1)]) C dX4_valueAtPower_116 6 rfl rfl (by decide) rfl ?_
                    refine g_goto (tgt := 33) C dX4_valueAtPower_119 (by decide) ?_
                    refine gG.locals (lv' := [(0, .ref h0), (1, .ref q_a1), (2, .int a2), (3, .int a3), (4, .int a4), (5, .int x5_1), (6, .int (x6_1 + 1))]) [1, 2, 3, 4, 5, 6, 0] rfl ?_
                    exact ih1 cells_2 ofPrime_2 (x6_1 + 1) (Nat.lt_of_lt_of_le h.2 (Nat.le_of_lt_succ hm1)) h.1
                  · replace h := h.2 c_5
                    refine g_iload C dX4_valueAtPower_73 5 rfl ?_
                    refine g_iload C dX4_valueAtPower_75 7 rfl ?_
                    refine g_ishr C dX4_valueAtPower_77 ?_
                    refine g_iconst (v := 1) C dX4_valueAtPower_78 rfl ?_
                    refine g_iand C dX4_valueAtPower_79 ?_
                    refine g_if_eq (tgt := 110) C dX4_valueAtPower_80 (by decide) (fun c_6 => ?_) (fun c_6 => ?_)
                    · replace h := h.1 c_6
                      refine g_iinc (v := x7_1 + 1) (lv' := [(7, .int (x7_1 + 1)), (0, .ref h0), (1, .ref q_a1), (2, .int a2), (3, .int a3), (4, .int a4), (5, .int x5_1), (6, .int x6_1)]) C dX4_valueAtPower_110 7 rfl rfl (by decide) rfl ?_
                      refine g_goto (tgt := 67) C dX4_valueAtPower_113 (by decide) ?_
                      refine gG.locals (lv' := [(0, .ref h0), (1, .ref q_a1), (2, .int a2), (3, .int a3), (4, .int a4), (5, .int x5_1), (6, .int x6_1), (7, .int (x7_1 + 1))]) [1, 2, 3, 4, 5, 6, 7, 0] rfl ?_
                      exact ih2 cells_2 (x7_1 + 1) (Nat.lt_of_lt_of_le h.2 (Nat.le_of_lt_succ hm2)) h.1
                    · replace h := h.2 c_6
                      refine g_aload_n C dX4_valueAtPower_83 0 rfl ?_
                      refine g_get C inX4 2 rfl rfl 1 (by decide) wF_X4_15 rfl dX4_valueAtPower_84 ?_
                      refine g_iload C dX4_valueAtPower_87 7 rfl ?_
                      refine g_bipush (v := 18) C dX4_valueAtPower_89 rfl ?_
                      refine g_imul C dX4_valueAtPower_91 ?_
                      refine g_iload C dX4_valueAtPower_92 6 rfl ?_
                      refine g_iadd C dX4_valueAtPower_94 ?_
                      refine g_aload_n C dX4_valueAtPower_95 1 rfl ?_
                      refine g_aload_n C dX4_valueAtPower_96 0 rfl ?_
                      refine g_aload_n C dX4_valueAtPower_97 1 rfl ?_
                      refine g_iload C dX4_valueAtPower_98 7 rfl ?_
                      refine g_iload_n C dX4_valueAtPower_100 3 rfl ?_
                      refine g_iload C dX4_valueAtPower_101 6 rfl ?_
                      obtain ⟨P_3, hP, h⟩ := h
                      refine g_callV (As := [.ref q_a1, .int x7_1, .int a3, .int x6_1]) (rest := [.ref q_a1, .int ((x7_1 * 18) + x6_1), .ref q_cells]) C (mX4_cellOf l D Y h0 q_a1 a1_bound a1_modulus a1_seed a1_functions v_a1_names q_a1_kinds q_a1_firsts q_a1_seconds v_a1_degrees q_a1_colours (.ref q_a1_needs) q_a1_numbers a1_firsts a1_seconds a1_kinds a1_numbers q_ofPrime q_cells cells_2 a1_colours ofPrime_2 x7_1 a3 x6_1 P_3 hP) dX4_valueAtPower_103 rfl wM_X4_35 wI_X4_cellOf wV_X4_cellOf wN_X4 wC_X4_cellOf (n := 4) (by decide +kernel) rfl (q0 := 5) rfl rfl ⟨Nat.le_of_ble_eq_true rfl, Nat.le_of_ble_eq_true rfl⟩ ⟨Nat.le_of_ble_eq_true rfl, Nat.le_of_ble_eq_true rfl⟩ (Nat.le_of_ble_eq_true rfl) [0, 5, 6, 7, 8, 2, 3, 9, 4] [1] rfl rfl rfl (fun v wc hv => ?_)
                      obtain ⟨rF_3, rfl, rfl, hq⟩ := hv
                      replace h := h rF_3 hq
                      refine gG.perm (ws' := [oX3 q_a1 a1_bound a1_modulus a1_seed a1_functions (v_a1_names) (.ref q_a1_kinds) (.ref q_a1_firsts) (.ref q_a1_seconds) (v_a1_degrees) (.ref q_a1_colours) (.ref q_a1_needs) (.ref q_a1_numbers), aI Y q_a1_needs 12 a1_needs, oX4 h0 (.ref q_ofPrime) (.ref q_cells), aI Y q_cells 216 cells_2, aI Y q_ofPrime 18 ofPrime_2, aI Y q_a1_firsts 12 a1_firsts, aI Y q_a1_seconds 12 a1_seconds, aI Y q_a1_kinds 12 a1_kinds, aI Y q_a1_numbers 144 a1_numbers, aI Y q_a1_colours 12 a1_colours]) [1, 0, 6, 7, 9, 2, 3, 4, 5, 8] rfl rfl ?_
                      obtain ⟨P_4, hP, h⟩ := h
                      refine g_callV (As := [.long rF_3]) (rest := [.int ((x7_1 * 18) + x6_1), .ref q_cells]) C (mX3_rest l D Y q_a1 a1_bound a1_modulus a1_seed a1_functions v_a1_names (.ref q_a1_kinds) (.ref q_a1_firsts) (.ref q_a1_seconds) v_a1_degrees (.ref q_a1_colours) (.ref q_a1_needs) (.ref q_a1_numbers) rF_3 P_4 hP) dX4_valueAtPower_106 rfl wM_X4_22 wI_X3_rest wV_X3_rest wN_X3 wC_X3_rest (n := 1) (by decide +kernel) rfl (q0 := 0) rfl rfl ⟨Nat.le_of_ble_eq_true rfl, Nat.le_of_ble_eq_true rfl⟩ ⟨Nat.le_of_ble_eq_true rfl, Nat.le_of_ble_eq_true rfl⟩ (Nat.le_of_ble_eq_true rfl) [0] [1, 2, 3, 4, 5, 6, 7, 8, 9] rfl rfl rfl (fun v wc hv => ?_)
                      obtain ⟨rF_4, rfl, rfl, hq⟩ := hv
                      replace h := h rF_4 hq
                      refine gG.perm (ws' := [oX3 q_a1 a1_bound a1_modulus a1_seed a1_functions (v_a1_names) (.ref q_a1_kinds) (.ref q_a1_firsts) (.ref q_a1_seconds) (v_a1_degrees) (.ref q_a1_colours) (.ref q_a1_needs) (.ref q_a1_numbers), aI Y q_a1_needs 12 a1_needs, oX4 h0 (.ref q_ofPrime) (.ref q_cells), aI Y q_cells 216 cells_2, aI Y q_ofPrime 18 ofPrime_2, aI Y q_a1_firsts 12 a1_firsts, aI Y q_a1_seconds 12 a1_seconds, aI Y q_a1_kinds 12 a1_kinds, aI Y q_a1_numbers 144 a1_numbers, aI Y q_a1_colours 12 a1_colours]) [9, 0, 1, 2, 3, 4, 5, 6, 7, 8] rfl rfl ?_
                      obtain ⟨hc_5, h⟩ := h
                      refine g_iast C 3 rfl hc_5 dX4_valueAtPower_109 (fun cells_3 ecells_3 => gG.eqw (ws' := [oX3 q_a1 a1_bound a1_modulus a1_seed a1_functions (v_a1_names) (.ref q_a1_kinds) (.ref q_a1_firsts) (.ref q_a1_seconds) (v_a1_degrees) (.ref q_a1_colours) (.ref q_a1_needs) (.ref q_a1_numbers), aI Y q_a1_needs 12 a1_needs, oX4 h0 (.ref q_ofPrime) (.ref q_cells), aI Y q_cells 216 cells_3, aI Y q_ofPrime 18 ofPrime_2, aI Y q_a1_firsts 12 a1_firsts, aI Y q_a1_seconds 12 a1_seconds, aI Y q_a1_kinds 12 a1_kinds, aI Y q_a1_numbers 144 a1_numbers, aI Y q_a1_colours 12 a1_colours]) rfl ?_)
                      replace h := h cells_3 ecells_3
                      refine g_iinc (v := x7_1 + 1) (lv' := [(7, .int (x7_1 + 1)), (0, .ref h0), (1, .ref q_a1), (2, .int a2), (3, .int a3), (4, .int a4), (5, .int x5_1), (6, .int x6_1)]) C dX4_valueAtPower_110 7 rfl rfl (by decide) rfl ?_
                      refine g_goto (tgt := 67) C dX4_valueAtPower_113 (by decide) ?_
                      refine gG.locals (lv' := [(0, .ref h0), (1, .ref q_a1), (2, .int a2), (3, .int a3), (4, .int a4), (5, .int x5_1), (6, .int x6_1), (7, .int (x7_1 + 1))]) [1, 2, 3, 4, 5, 6, 7, 0] rfl ?_
                      exact ih2 cells_3 (x7_1 + 1) (Nat.lt_of_lt_of_le h.2 (Nat.le_of_lt_succ hm2)) h.1
              refine gG.locals (lv' := [(0, .ref h0), (1, .ref q_a1), (2, .int a2), (3, .int a3), (4, .int a4), (5, .int x5_1), (6, .int x6_1), (7, .int 0)]) [1, 2, 3, 4, 5, 6, 7, 0] rfl ?_
              exact key_2 (Mea_2 cells_1 0 + 1) cells_1 0 (Nat.lt_succ_self _) hI2
        refine gG.locals (lv' := [(0, .ref h0), (1, .ref q_a1), (2, .int a2), (3, .int a3), (4, .int a4), (5, .int x5_1), (6, .int 1)]) [2, 3, 4, 5, 6, 1, 0] rfl ?_
        exact key_1 (Mea_1 cells ofPrime 1 + 1) cells ofPrime 1 (Nat.lt_succ_self _) hI1
      · replace h := h.2 c_3
        refine g_iconst (v := 0) C dX4_valueAtPower_20 rfl ?_
        exact g_iret C hR (Nat.le_of_ble_eq_true rfl) (Nat.le_of_ble_eq_true rfl) dX4_valueAtPower_21 ⟨0, cells, ofPrime, rfl, rfl, h⟩
theorem dX4_valueAt_0 : decode cX4_valueAt 0 = .ok (.lconst 1, 1) := by decide +kernel
theorem dX4_valueAt_1 : decode cX4_valueAt 1 = .ok (.lstore 4, 2) := by decide +kernel
theorem dX4_valueAt_3 : decode cX4_valueAt 3 = .ok (.iload_n 3, 1) := by decide +kernel
theorem dX4_valueAt_4 : decode cX4_valueAt 4 = .ok (.istore 6, 2) := by decide +kernel
theorem dX4_valueAt_6 : decode cX4_valueAt 6 = .ok (.iconst 2, 1) := by decide +kernel
theorem dX4_valueAt_7 : decode cX4_valueAt 7 = .ok (.istore 7, 2) := by decide +kernel
theorem dX4_valueAt_9 : decode cX4_valueAt 9 = .ok (.iload 7, 2) := by decide +kernel
theorem dX4_valueAt_11 : decode cX4_valueAt 11 = .ok (.iload 7, 2) := by decide +kernel
theorem dX4_valueAt_13 : decode cX4_valueAt 13 = .ok (.imul, 1) := by decide +kernel
theorem dX4_valueAt_14 : decode cX4_valueAt 14 = .ok (.iload 6, 2) := by decide +kernel
theorem dX4_valueAt_16 : decode cX4_valueAt 16 = .ok (.if_icmp .gt 66, 3) := by decide +kernel
theorem dX4_valueAt_19 : decode cX4_valueAt 19 = .ok (.iconst 0, 1) := by decide +kernel
theorem dX4_valueAt_20 : decode cX4_valueAt 20 = .ok (.istore 8, 2) := by decide +kernel
theorem dX4_valueAt_22 : decode cX4_valueAt 22 = .ok (.iload 8, 2) := by decide +kernel
theorem dX4_valueAt_24 : decode cX4_valueAt 24 = .ok (.bipush 17, 2) := by decide +kernel
theorem dX4_valueAt_26 : decode cX4_valueAt 26 = .ok (.if_icmp .ge 24, 3) := by decide +kernel
theorem dX4_valueAt_29 : decode cX4_valueAt 29 = .ok (.iload 6, 2) := by decide +kernel
theorem dX4_valueAt_31 : decode cX4_valueAt 31 = .ok (.iload 7, 2) := by decide +kernel
theorem dX4_valueAt_33 : decode cX4_valueAt 33 = .ok (.irem, 1) := by decide +kernel
theorem dX4_valueAt_34 : decode cX4_valueAt 34 = .ok (.ifCond .ne 16, 3) := by decide +kernel
theorem dX4_valueAt_37 : decode cX4_valueAt 37 = .ok (.iload 6, 2) := by decide +kernel
theorem dX4_valueAt_39 : decode cX4_valueAt 39 = .ok (.iload 7, 2) := by decide +kernel
theorem dX4_valueAt_41 : decode cX4_valueAt 41 = .ok (.idiv, 1) := by decide +kernel
theorem dX4_valueAt_42 : decode cX4_valueAt 42 = .ok (.istore 6, 2) := by decide +kernel
theorem dX4_valueAt_44 : decode cX4_valueAt 44 = .ok (.iinc 8 1, 3) := by decide +kernel
theorem dX4_valueAt_47 : decode cX4_valueAt 47 = .ok (.goto (-25), 3) := by decide +kernel
theorem dX4_valueAt_50 : decode cX4_valueAt 50 = .ok (.iload 8, 2) := by decide +kernel
theorem dX4_valueAt_52 : decode cX4_valueAt 52 = .ok (.ifCond .le 24, 3) := by decide +kernel
theorem dX4_valueAt_55 : decode cX4_valueAt 55 = .ok (.aload_n 1, 1) := by decide +kernel
theorem dX4_valueAt_56 : decode cX4_valueAt 56 = .ok (.lload 4, 2) := by decide +kernel
theorem dX4_valueAt_58 : decode cX4_valueAt 58 = .ok (.aload_n 0, 1) := by decide +kernel
theorem dX4_valueAt_59 : decode cX4_valueAt 59 = .ok (.aload_n 1, 1) := by decide +kernel
theorem dX4_valueAt_60 : decode cX4_valueAt 60 = .ok (.iload_n 2, 1) := by decide +kernel
theorem dX4_valueAt_61 : decode cX4_valueAt 61 = .ok (.iload 7, 2) := by decide +kernel
theorem dX4_valueAt_63 : decode cX4_valueAt 63 = .ok (.iload 8, 2) := by decide +kernel
theorem dX4_valueAt_65 : decode cX4_valueAt 65 = .ok (.invokevirtual 18, 3) := by decide +kernel
theorem dX4_valueAt_68 : decode cX4_valueAt 68 = .ok (.i2l, 1) := by decide +kernel
theorem dX4_valueAt_69 : decode cX4_valueAt 69 = .ok (.lmul, 1) := by decide +kernel
theorem dX4_valueAt_70 : decode cX4_valueAt 70 = .ok (.invokevirtual 22, 3) := by decide +kernel
theorem dX4_valueAt_73 : decode cX4_valueAt 73 = .ok (.i2l, 1) := by decide +kernel
theorem dX4_valueAt_74 : decode cX4_valueAt 74 = .ok (.lstore 4, 2) := by decide +kernel
theorem dX4_valueAt_76 : decode cX4_valueAt 76 = .ok (.iinc 7 1, 3) := by decide +kernel
theorem dX4_valueAt_79 : decode cX4_valueAt 79 = .ok (.goto (-70), 3) := by decide +kernel
theorem dX4_valueAt_82 : decode cX4_valueAt 82 = .ok (.iload 6, 2) := by decide +kernel
theorem dX4_valueAt_84 : decode cX4_valueAt 84 = .ok (.iconst 1, 1) := by decide +kernel
theorem dX4_valueAt_85 : decode cX4_valueAt 85 = .ok (.if_icmp .le 23, 3) := by decide +kernel
theorem dX4_valueAt_88 : decode cX4_valueAt 88 = .ok (.aload_n 1, 1) := by decide +kernel
theorem dX4_valueAt_89 : decode cX4_valueAt 89 = .ok (.lload 4, 2) := by decide +kernel
theorem dX4_valueAt_91 : decode cX4_valueAt 91 = .ok (.aload_n 0, 1) := by decide +kernel
theorem dX4_valueAt_92 : decode cX4_valueAt 92 = .ok (.aload_n 1, 1) := by decide +kernel
theorem dX4_valueAt_93 : decode cX4_valueAt 93 = .ok (.iload_n 2, 1) := by decide +kernel
theorem dX4_valueAt_94 : decode cX4_valueAt 94 = .ok (.iload 6, 2) := by decide +kernel
theorem dX4_valueAt_96 : decode cX4_valueAt 96 = .ok (.iconst 1, 1) := by decide +kernel
theorem dX4_valueAt_97 : decode cX4_valueAt 97 = .ok (.invokevirtual 18, 3) := by decide +kernel
theorem dX4_valueAt_100 : decode cX4_valueAt 100 = .ok (.i2l, 1) := by decide +kernel
theorem dX4_valueAt_101 : decode cX4_valueAt 101 = .ok (.lmul, 1) := by decide +kernel
theorem dX4_valueAt_102 : decode cX4_valueAt 102 = .ok (.invokevirtual 22, 3) := by decide +kernel
theorem dX4_valueAt_105 : decode cX4_valueAt 105 = .ok (.goto 6, 3) := by decide +kernel
theorem dX4_valueAt_108 : decode cX4_valueAt 108 = .ok (.lload 4, 2) := by decide +kernel
theorem dX4_valueAt_110 : decode cX4_valueAt 110 = .ok (.l2i, 1) := by decide +kernel
theorem dX4_valueAt_111 : decode cX4_valueAt 111 = .ok (.ireturn, 1) := by decide +kernel
/-- QuotientSums$Powers.valueAt(LQuotientSums$Plan;II)I -/
def wX4_valueAt (a1_bound : Int32) (a1_modulus : Int32) (a1_seed : Int32) (a1_functions : Int32) (a1_needs : Nat → Int32) (cells : Nat → Int32) (ofPrime : Nat → Int32) (a1_firsts : Nat → Int32) (a1_seconds : Nat → Int32) (a1_kinds : Nat → Int32) (a1_numbers : Nat → Int32) (a1_colours : Nat → Int32) (a2 : Int32) (a3 : Int32) (Q : (Int32) → (Nat → Int32) → (Nat → Int32) → Prop) : Prop :=
  (∃ (Inv_1 : (Nat → Int32) → (Nat → Int32) → (Int64) → (Int32) → (Int32) → Prop) (Mea_1 : (Nat → Int32) → (Nat → Int32) → (Int64) → (Int32) → (Int32) → Nat), Inv_1 cells ofPrime 1 a3 2 ∧ ∀ (cells_1 : Nat → Int32) (ofPrime_1 : Nat → Int32) (x4_1 : Int64) (x6_1 : Int32) (x7_1 : Int32), Inv_1 cells_1 ofPrime_1 x4_1 x6_1 x7_1 → ((x6_1 < (x7_1 * x7_1) → ((x6_1 ≤ 1 → (Q (x4_1.toInt32) cells_1 ofPrime_1)) ∧ (¬ x6_1 ≤ 1 → (∃ (P_1 : (Int32) → (Nat → Int32) → (Nat → Int32) → Prop), wX4_valueAtPower a1_bound a1_modulus a1_seed a1_functions a1_needs cells_1 ofPrime_1 a1_firsts a1_seconds a1_kinds a1_numbers a1_colours a2 x6_1 1 P_1 ∧ ∀ (rF_1 : Int32) (cells_2 : Nat → Int32) (ofPrime_2 : Nat → Int32), P_1 rF_1 cells_2 ofPrime_2 → ∃ (P_2 : (Int32) → Prop), wX3_rest a1_bound a1_modulus a1_seed a1_functions (x4_1 * (rF_1.toInt64)) P_2 ∧ ∀ (rF_2 : Int32), P_2 rF_2 → (Q rF_2 cells_2 ofPrime_2))))) ∧ (¬ x6_1 < (x7_1 * x7_1) → (∃ (Inv_2 : (Int32) → (Int32) → Prop) (Mea_2 : (Int32) → (Int32) → Nat), Inv_2 x6_1 0 ∧ ∀ (x6_2 : Int32) (x8_1 : Int32), Inv_2 x6_2 x8_1 → (∃ (J_1 : Prop), ((17 ≤ x8_1 → (J_1)) ∧ (¬ 17 ≤ x8_1 → (¬ x7_1 = 0 ∧ ((¬ (x6_2 - x6_2 / x7_1 * x7_1) = 0 → (J_1)) ∧ ((x6_2 - x6_2 / x7_1 * x7_1) = 0 → (∀ x6_3 : Int32, x6_3 = x6_2 / x7_1 → (Inv_2 x6_3 (x8_1 + 1) ∧ Mea_2 x6_3 (x8_1 + 1) < Mea_2 x6_2 x8_1))))))) ∧ (J_1 → ((x8_1 ≤ 0 → (Inv_1 cells_1 ofPrime_1 x4_1 x6_2 (x7_1 + 1) ∧ Mea_1 cells_1 ofPrime_1 x4_1 x6_2 (x7_1 + 1) < Mea_1 cells_1 ofPrime_1 x4_1 x6_1 x7_1)) ∧ (¬ x8_1 ≤ 0 → (∃ (P_3 : (Int32) → (Nat → Int32) → (Nat → Int32) → Prop), wX4_valueAtPower a1_bound a1_modulus a1_seed a1_functions a1_needs cells_1 ofPrime_1 a1_firsts a1_seconds a1_kinds a1_numbers a1_colours a2 x7_1 x8_1 P_3 ∧ ∀ (rF_3 : Int32) (cells_3 : Nat → Int32) (ofPrime_3 : Nat → Int32), P_3 rF_3 cells_3 ofPrime_3 → ∃ (P_4 : (Int32) → Prop), wX3_rest a1_bound a1_modulus a1_seed a1_functions (x4_1 * (rF_3.toInt64)) P_4 ∧ ∀ (rF_4 : Int32), P_4 rF_4 → ∀ x4_2 : Int64, x4_2 = rF_4.toInt64 → (Inv_1 cells_3 ofPrime_3 x4_2 x6_2 (x7_1 + 1) ∧ Mea_1 cells_3 ofPrime_3 x4_2 x6_2 (x7_1 + 1) < Mea_1 cells_1 ofPrime_1 x4_1 x6_1 x7_1))))))))))
set_option maxHeartbeats 4000000 in
set_option maxRecDepth 100000 in
theorem mX4_valueAt (l : Launch) (D : va_G) (Y : Nat → ClassId) (h0 : Nat) (q_a1 : Nat) (a1_bound : Int32) (a1_modulus : Int32) (a1_seed : Int32) (a1_functions : Int32) (v_a1_names : Value) (q_a1_kinds : Nat) (q_a1_firsts : Nat) (q_a1_seconds : Nat) (v_a1_degrees : Value) (q_a1_colours : Nat) (q_a1_needs : Nat) (q_a1_numbers : Nat) (a1_needs : Nat → Int32) (q_ofPrime : Nat) (q_cells : Nat) (cells : Nat → Int32) (ofPrime : Nat → Int32) (a1_firsts : Nat → Int32) (a1_seconds : Nat → Int32) (a1_kinds : Nat → Int32) (a1_numbers : Nat → Int32) (a1_colours : Nat → Int32) (a2 : Int32) (a3 : Int32) (Q : (Int32) → (Nat → Int32) → (Nat → Int32) → Prop) (h : wX4_valueAt a1_bound a1_modulus a1_seed a1_functions a1_needs cells ofPrime a1_firsts a1_seconds a1_kinds a1_numbers a1_colours a2 a3 Q) : gM l D Y yX4_valueAt cX4_valueAt 9 (some .int) 4 98 0 0 [.ref h0, .ref q_a1, .int a2, .int a3] [oX3 q_a1 a1_bound a1_modulus a1_seed a1_functions (v_a1_names) (.ref q_a1_kinds) (.ref q_a1_firsts) (.ref q_a1_seconds) (v_a1_degrees) (.ref q_a1_colours) (.ref q_a1_needs) (.ref q_a1_numbers), aI Y q_a1_needs 12 a1_needs, oX4 h0 (.ref q_ofPrime) (.ref q_cells), aI Y q_cells 216 cells, aI Y q_ofPrime 18 ofPrime, aI Y q_a1_firsts 12 a1_firsts, aI Y q_a1_seconds 12 a1_seconds, aI Y q_a1_kinds 12 a1_kinds, aI Y q_a1_numbers 144 a1_numbers, aI Y q_a1_colours 12 a1_colours] (fun v w => ∃ r : Int32, ∃ cells' : Nat → Int32, ∃ ofPrime' : Nat → Int32, v = some (.int r) ∧ w = [oX3 q_a1 a1_bound a1_modulus a1_seed a1_functions (v_a1_names) (.ref q_a1_kinds) (.ref q_a1_firsts) (.ref q_a1_seconds) (v_a1_degrees) (.ref q_a1_colours) (.ref q_a1_needs) (.ref q_a1_numbers), aI Y q_a1_needs 12 a1_needs, oX4 h0 (.ref q_ofPrime) (.ref q_cells), aI Y q_cells 216 cells', aI Y q_ofPrime 18 ofPrime', aI Y q_a1_firsts 12 a1_firsts, aI Y q_a1_seconds 12 a1_seconds, aI Y q_a1_kinds 12 a1_kinds, aI Y q_a1_numbers 144 a1_numbers, aI Y q_a1_colours 12 a1_colours] ∧ Q r cells' ofPrime') := by
  refine gM_of (own := RX4) (by decide +kernel) rfl (Nat.le_of_ble_eq_true rfl) rfl (fun E C hR => ?_)
  unfold wX4_valueAt at h
  refine g_lconst (v := 1) C dX4_valueAt_0 rfl ?_
  refine g_lstore (lv' := [(4, .long 1), (0, .ref h0), (1, .ref q_a1), (2, .int a2), (3, .int a3)]) C dX4_valueAt_1 (by decide) rfl ?_
  refine g_iload_n C dX4_valueAt_3 4 rfl ?_
  refine g_istore (lv' := [(6, .int a3), (4, .long 1), (0, .ref h0), (1, .ref q_a1), (2, .int a2), (3, .int a3)]) C dX4_valueAt_4 (by decide) rfl ?_
  refine g_iconst (v := 2) C dX4_valueAt_6 rfl ?_
  refine g_istore (lv' := [(7, .int 2), (6, .int a3), (4, .long 1), (0, .ref h0), (1, .ref q_a1), (2, .int a2), (3, .int a3)]) C dX4_valueAt_7 (by decide) rfl ?_
  obtain ⟨Inv_1, Mea_1, hI1, hB1⟩ := h
  have key_1 : ∀ (n : Nat) (cells_1 : Nat → Int32) (ofPrime_1 : Nat → Int32) (x4_1 : Int64) (x6_1 : Int32) (x7_1 : Int32) , Mea_1 cells_1 ofPrime_1 x4_1 x6_1 x7_1 < n → Inv_1 cells_1 ofPrime_1 x4_1 x6_1 x7_1 → gG E 0 0 [oX3 q_a1 a1_bound a1_modulus a1_seed a1_functions (v_a1_names) (.ref q_a1_kinds) (.ref q_a1_firsts) (.ref q_a1_seconds) (v_a1_degrees) (.ref q_a1_colours) (.ref q_a1_needs) (.ref q_a1_numbers), aI Y q_a1_needs 12 a1_needs, oX4 h0 (.ref q_ofPrime) (.ref q_cells), aI Y q_cells 216 cells_1, aI Y q_ofPrime 18 ofPrime_1, aI Y q_a1_firsts 12 a1_firsts, aI Y q_a1_seconds 12 a1_seconds, aI Y q_a1_kinds 12 a1_kinds, aI Y q_a1_numbers 144 a1_numbers, aI Y q_a1_colours 12 a1_colours] [(0, .ref h0), (1, .ref q_a1), (2, .int a2), (4, .long x4_1), (6, .int x6_1), (7, .int x7_1)] [] 9 := by
    intro n
    induction n with
    | zero => exact fun _ _ _ _ _ hm => absurd hm (Nat.not_lt_zero _)
    | succ n ih1 =>
      intro cells_1 ofPrime_1 x4_1 x6_1 x7_1  hm1 hI
      have h := hB1 cells_1 ofPrime_1 x4_1 x6_1 x7_1 hI
      refine g_iload C dX4_valueAt_9 5 rfl ?_
      refine g_iload C dX4_valueAt_11 5 rfl ?_
      refine g_imul C dX4_valueAt_13 ?_
      refine g_iload C dX4_valueAt_14 4 rfl ?_
      refine g_icmp_gt (tgt := 82) C dX4_valueAt_16 (by decide) (fun c_1 => ?_) (fun c_1 => ?_)
      · replace h := h.1 c_1
        refine g_iload C dX4_valueAt_82 4 rfl ?_
        refine g_iconst (v := 1) C dX4_valueAt_84 rfl ?_
        refine g_icmp_le (tgt := 108) C dX4_valueAt_85 (by decide) (fun c_2 => ?_) (fun c_2 => ?_)
        · replace h := h.1 c_2
          refine g_lload C dX4_valueAt_108 3 rfl ?_
          refine g_l2i C dX4_valueAt_110 ?_
          exact g_iret C hR (Nat.le_of_ble_eq_true rfl) (Nat.le_of_ble_eq_true rfl) dX4_valueAt_111 ⟨x4_1.toInt32, cells_1, ofPrime_1, rfl, rfl, h⟩
        · replace h := h.2 c_2
          refine g_aload_n C dX4_valueAt_88 1 rfl ?_
          refine g_lload C dX4_valueAt_89 3 rfl ?_
          refine g_aload_n C dX4_valueAt_91 0 rfl ?_
          refine g_aload_n C dX4_valueAt_92 1 rfl ?_
          refine g_iload_n C dX4_valueAt_93 2 rfl ?_
          refine g_iload C dX4_valueAt_94 4 rfl ?_
          refine g_iconst (v := 1) C dX4_valueAt_96 rfl ?_
          obtain ⟨P_1, hP, h⟩ := h
          refine g_callV (As := [.ref q_a1, .int a2, .int x6_1, .int 1]) (rest := [.long x4_1, .ref q_a1]) C (mX4_valueAtPower l D Y h0 q_a1 a1_bound a1_modulus a1_seed a1_functions v_a1_names q_a1_kinds q_a1_firsts q_a1_seconds v_a1_degrees q_a1_colours q_a1_needs q_a1_numbers a1_needs q_ofPrime q_cells cells_1 ofPrime_1 a1_firsts a1_seconds a1_kinds a1_numbers a1_colours a2 x6_1 1 P_1 hP) dX4_valueAt_97 rfl wM_X4_18 wI_X4_valueAtPower wV_X4_valueAtPower wN_X4 wC_X4_valueAtPower (n := 4) (by decide +kernel) rfl (q0 := 2) rfl rfl ⟨Nat.le_of_ble_eq_true rfl, Nat.le_of_ble_eq_true rfl⟩ ⟨Nat.le_of_ble_eq_true rfl, Nat.le_of_ble_eq_true rfl⟩ (Nat.le_of_ble_eq_true rfl) [0, 1, 2, 3, 4, 5, 6, 7, 8, 9] [] rfl rfl rfl (fun v wc hv => ?_)
          obtain ⟨rF_1, cells_2, ofPrime_2, rfl, rfl, hq⟩ := hv
          replace h := h rF_1 cells_2 ofPrime_2 hq
          refine gG.eqw (ws' := [oX3 q_a1 a1_bound a1_modulus a1_seed a1_functions (v_a1_names) (.ref q_a1_kinds) (.ref q_a1_firsts) (.ref q_a1_seconds) (v_a1_degrees) (.ref q_a1_colours) (.ref q_a1_needs) (.ref q_a1_numbers), aI Y q_a1_needs 12 a1_needs, oX4 h0 (.ref q_ofPrime) (.ref q_cells), aI Y q_cells 216 cells_2, aI Y q_ofPrime 18 ofPrime_2, aI Y q_a1_firsts 12 a1_firsts, aI Y q_a1_seconds 12 a1_seconds, aI Y q_a1_kinds 12 a1_kinds, aI Y q_a1_numbers 144 a1_numbers, aI Y q_a1_colours 12 a1_colours]) rfl ?_
          refine g_i2l C dX4_valueAt_100 ?_
          refine g_lmul C dX4_valueAt_101 ?_
          obtain ⟨P_2, hP, h⟩ := h
          refine g_callV (As := [.long (x4_1 * (rF_1.toInt64))]) (rest := []) C (mX3_rest l D Y q_a1 a1_bound a1_modulus a1_seed a1_functions v_a1_names (.ref q_a1_kinds) (.ref q_a1_firsts) (.ref q_a1_seconds) v_a1_degrees (.ref q_a1_colours) (.ref q_a1_needs) (.ref q_a1_numbers) (x4_1 * (rF_1.toInt64)) P_2 hP) dX4_valueAt_102 rfl wM_X4_22 wI_X3_rest wV_X3_rest wN_X3 wC_X3_rest (n := 1) (by decide +kernel) rfl (q0 := 0) rfl rfl ⟨Nat.le_of_ble_eq_true rfl, Nat.le_of_ble_eq_true rfl⟩ ⟨Nat.le_of_ble_eq_true rfl, Nat.le_of_ble_eq_true rfl⟩ (Nat.le_of_ble_eq_true rfl) [0] [1, 2, 3, 4, 5, 6, 7, 8, 9] rfl rfl rfl (fun v wc hv => ?_)
          obtain ⟨rF_2, rfl, rfl, hq⟩ := hv
          replace h := h rF_2 hq
          refine gG.perm (ws' := [oX3 q_a1 a1_bound a1_modulus a1_seed a1_functions (v_a1_names) (.ref q_a1_kinds) (.ref q_a1_firsts) (.ref q_a1_seconds) (v_a1_degrees) (.ref q_a1_colours) (.ref q_a1_needs) (.ref q_a1_numbers), aI Y q_a1_needs 12 a1_needs, oX4 h0 (.ref q_ofPrime) (.ref q_cells), aI Y q_cells 216 cells_2, aI Y q_ofPrime 18 ofPrime_2, aI Y q_a1_firsts 12 a1_firsts, aI Y q_a1_seconds 12 a1_seconds, aI Y q_a1_kinds 12 a1_kinds, aI Y q_a1_numbers 144 a1_numbers, aI Y q_a1_colours 12 a1_colours]) [9, 0, 1, 2, 3, 4, 5, 6, 7, 8] rfl rfl ?_
          refine g_goto (tgt := 111) C dX4_valueAt_105 (by decide) ?_
          exact g_iret C hR (Nat.le_of_ble_eq_true rfl) (Nat.le_of_ble_eq_true rfl) dX4_valueAt_111 ⟨rF_2, cells_2, ofPrime_2, rfl, rfl, h⟩
      · replace h := h.2 c_1
        refine g_iconst (v := 0) C dX4_valueAt_19 rfl ?_
        refine g_istore (lv' := [(8, .int 0), (0, .ref h0), (1, .ref q_a1), (2, .int a2), (4, .long x4_1), (6, .int x6_1), (7, .int x7_1)]) C dX4_valueAt_20 (by decide) rfl ?_
        obtain ⟨Inv_2, Mea_2, hI2, hB2⟩ := h
        have key_2 : ∀ (n : Nat) (x6_2 : Int32) (x8_1 : Int32) , Mea_2 x6_2 x8_1 < n → Inv_2 x6_2 x8_1 → gG E 0 0 [oX3 q_a1 a1_bound a1_modulus a1_seed a1_functions (v_a1_names) (.ref q_a1_kinds) (.ref q_a1_firsts) (.ref q_a1_seconds) (v_a1_degrees) (.ref q_a1_colours) (.ref q_a1_needs) (.ref q_a1_numbers), aI Y q_a1_needs 12 a1_needs, oX4 h0 (.ref q_ofPrime) (.ref q_cells), aI Y q_cells 216 cells_1, aI Y q_ofPrime 18 ofPrime_1, aI Y q_a1_firsts 12 a1_firsts, aI Y q_a1_seconds 12 a1_seconds, aI Y q_a1_kinds 12 a1_kinds, aI Y q_a1_numbers 144 a1_numbers, aI Y q_a1_colours 12 a1_colours] [(0, .ref h0), (1, .ref q_a1), (2, .int a2), (4, .long x4_1), (6, .int x6_2), (7, .int x7_1), (8, .int x8_1)] [] 22 := by
          intro n
          induction n with
          | zero => exact fun _ _ hm => absurd hm (Nat.not_lt_zero _)
          | succ n ih2 =>
            intro x6_2 x8_1  hm2 hI
            have h := hB2 x6_2 x8_1 hI
            refine g_iload C dX4_valueAt_22 6 rfl ?_
            refine g_bipush (v := 17) C dX4_valueAt_24 rfl ?_
            obtain ⟨J_1, hA, hB_J_1⟩ := h
            have key_3 : J_1 → gG E 0 0 [oX3 q_a1 a1_bound a1_modulus a1_seed a1_functions (v_a1_names) (.ref q_a1_kinds) (.ref q_a1_firsts) (.ref q_a1_seconds) (v_a1_degrees) (.ref q_a1_colours) (.ref q_a1_needs) (.ref q_a1_numbers), aI Y q_a1_needs 12 a1_needs, oX4 h0 (.ref q_ofPrime) (.ref q_cells), aI Y q_cells 216 cells_1, aI Y q_ofPrime 18 ofPrime_1, aI Y q_a1_firsts 12 a1_firsts, aI Y q_a1_seconds 12 a1_seconds, aI Y q_a1_kinds 12 a1_kinds, aI Y q_a1_numbers 144 a1_numbers, aI Y q_a1_colours 12 a1_colours] [(0, .ref h0), (1, .ref q_a1), (2, .int a2), (4, .long x4_1), (6, .int x6_2), (7, .int x7_1), (8, .int x8_1)] [] 50 := by
              intro  hJ
              have h := hB_J_1  hJ
              refine g_iload C dX4_valueAt_50 6 rfl ?_
              refine g_if_le (tgt := 76) C dX4_valueAt_52 (by decide) (fun c_3 => ?_) (fun c_3 => ?_)
              · replace h := h.1 c_3
                refine g_iinc (v := x7_1 + 1) (lv' := [(7, .int (x7_1 + 1)), (0, .ref h0), (1, .ref q_a1), (2, .int a2), (4, .long x4_1), (6, .int x6_2), (8, .int x8_1)]) C dX4_valueAt_76 5 rfl rfl (by decide) rfl ?_
                refine g_goto (tgt := 9) C dX4_valueAt_79 (by decide) ?_
                refine gG.locals (lv' := [(0, .ref h0), (1, .ref q_a1), (2, .int a2), (4, .long x4_1), (6, .int x6_2), (7, .int (x7_1 + 1))]) [1, 2, 3, 4, 5, 0] rfl ?_
                exact ih1 cells_1 ofPrime_1 x4_1 x6_2 (x7_1 + 1) (Nat.lt_of_lt_of_le h.2 (Nat.le_of_lt_succ hm1)) h.1
              · replace h := h.2 c_3
                refine g_aload_n C dX4_valueAt_55 1 rfl ?_
                refine g_lload C dX4_valueAt_56 3 rfl ?_
                refine g_aload_n C dX4_valueAt_58 0 rfl ?_
                refine g_aload_n C dX4_valueAt_59 1 rfl ?_
                refine g_iload_n C dX4_valueAt_60 2 rfl ?_
                refine g_iload C dX4_valueAt_61 5 rfl ?_
                refine g_iload C dX4_valueAt_63 6 rfl ?_
                obtain ⟨P_3, hP, h⟩ := h
                refine g_callV (As := [.ref q_a1, .int a2, .int x7_1, .int x8_1]) (rest := [.long x4_1, .ref q_a1]) C (mX4_valueAtPower l D Y h0 q_a1 a1_bound a1_modulus a1_seed a1_functions v_a1_names q_a1_kinds q_a1_firsts q_a1_seconds v_a1_degrees q_a1_colours q_a1_needs q_a1_numbers a1_needs q_ofPrime q_cells cells_1 ofPrime_1 a1_firsts a1_seconds a1_kinds a1_numbers a1_colours a2 x7_1 x8_1 P_3 hP) dX4_valueAt_65 rfl wM_X4_18 wI_X4_valueAtPower wV_X4_valueAtPower wN_X4 wC_X4_valueAtPower (n := 4) (by decide +kernel) rfl (q0 := 2) rfl rfl ⟨Nat.le_of_ble_eq_true rfl, Nat.le_of_ble_eq_true rfl⟩ ⟨Nat.le_of_ble_eq_true rfl, Nat.le_of_ble_eq_true rfl⟩ (Nat.le_of_ble_eq_true rfl) [0, 1, 2, 3, 4, 5, 6, 7, 8, 9] [] rfl rfl rfl (fun v wc hv => ?_)
                obtain ⟨rF_3, cells_3, ofPrime_3, rfl, rfl, hq⟩ := hv
                replace h := h rF_3 cells_3 ofPrime_3 hq
                refine gG.eqw (ws' := [oX3 q_a1 a1_bound a1_modulus a1_seed a1_functions (v_a1_names) (.ref q_a1_kinds) (.ref q_a1_firsts) (.ref q_a1_seconds) (v_a1_degrees) (.ref q_a1_colours) (.ref q_a1_needs) (.ref q_a1_numbers), aI Y q_a1_needs 12 a1_needs, oX4 h0 (.ref q_ofPrime) (.ref q_cells), aI Y q_cells 216 cells_3, aI Y q_ofPrime 18 ofPrime_3, aI Y q_a1_firsts 12 a1_firsts, aI Y q_a1_seconds 12 a1_seconds, aI Y q_a1_kinds 12 a1_kinds, aI Y q_a1_numbers 144 a1_numbers, aI Y q_a1_colours 12 a1_colours]) rfl ?_
                refine g_i2l C dX4_valueAt_68 ?_
                refine g_lmul C dX4_valueAt_69 ?_
                obtain ⟨P_4, hP, h⟩ := h
                refine g_callV (As := [.long (x4_1 * (rF_3.toInt64))]) (rest := []) C (mX3_rest l D Y q_a1 a1_bound a1_modulus a1_seed a1_functions v_a1_names (.ref q_a1_kinds) (.ref q_a1_firsts) (.ref q_a1_seconds) v_a1_degrees (.ref q_a1_colours) (.ref q_a1_needs) (.ref q_a1_numbers) (x4_1 * (rF_3.toInt64)) P_4 hP) dX4_valueAt_70 rfl wM_X4_22 wI_X3_rest wV_X3_rest wN_X3 wC_X3_rest (n := 1) (by decide +kernel) rfl (q0 := 0) rfl rfl ⟨Nat.le_of_ble_eq_true rfl, Nat.le_of_ble_eq_true rfl⟩ ⟨Nat.le_of_ble_eq_true rfl, Nat.le_of_ble_eq_true rfl⟩ (Nat.le_of_ble_eq_true rfl) [0] [1, 2, 3, 4, 5, 6, 7, 8, 9] rfl rfl rfl (fun v wc hv => ?_)
                obtain ⟨rF_4, rfl, rfl, hq⟩ := hv
                replace h := h rF_4 hq
                refine gG.perm (ws' := [oX3 q_a1 a1_bound a1_modulus a1_seed a1_functions (v_a1_names) (.ref q_a1_kinds) (.ref q_a1_firsts) (.ref q_a1_seconds) (v_a1_degrees) (.ref q_a1_colours) (.ref q_a1_needs) (.ref q_a1_numbers), aI Y q_a1_needs 12 a1_needs, oX4 h0 (.ref q_ofPrime) (.ref q_cells), aI Y q_cells 216 cells_3, aI Y q_ofPrime 18 ofPrime_3, aI Y q_a1_firsts 12 a1_firsts, aI Y q_a1_seconds 12 a1_seconds, aI Y q_a1_kinds 12 a1_kinds, aI Y q_a1_numbers 144 a1_numbers, aI Y q_a1_colours 12 a1_colours]) [9, 0, 1, 2, 3, 4, 5, 6, 7, 8] rfl rfl ?_
                refine g_i2l C dX4_valueAt_73 ?_
                refine g_topl (fun x4_2 ex4_2 => ?_)
                replace h := h x4_2 ex4_2
                refine g_lstore (lv' := [(4, .long x4_2), (0, .ref h0), (1, .ref q_a1), (2, .int a2), (6, .int x6_2), (7, .int x7_1), (8, .int x8_1)]) C dX4_valueAt_74 (by decide) rfl ?_
                refine g_iinc (v := x7_1 + 1) (lv' := [(7, .int (x7_1 + 1)), (4, .long x4_2), (0, .ref h0), (1, .ref q_a1), (2, .int a2), (6, .int x6_2), (8, .int x8_1)]) C dX4_valueAt_76 5 rfl rfl (by decide) rfl ?_
                refine g_goto (tgt := 9) C dX4_valueAt_79 (by decide) ?_
                refine gG.locals (lv' := [(0, .ref h0), (1, .ref q_a1), (2, .int a2), (4, .long x4_2), (6, .int x6_2), (7, .int (x7_1 + 1))]) [2, 3, 4, 1, 5, 0] rfl ?_
                exact ih1 cells_3 ofPrime_3 x4_2 x6_2 (x7_1 + 1) (Nat.lt_of_lt_of_le h.2 (Nat.le_of_lt_succ hm1)) h.1
            replace h := hA
            refine g_icmp_ge (tgt := 50) C dX4_valueAt_26 (by decide) (fun c_4 => ?_) (fun c_4 => ?_)
            · replace h := h.1 c_4
              exact key_3 h
            · replace h := h.2 c_4
              refine g_iload C dX4_valueAt_29 4 rfl ?_
              refine g_iload C dX4_valueAt_31 5 rfl ?_
              obtain ⟨hc_1, h⟩ := h
              refine g_irem C dX4_valueAt_33 hc_1 ?_
              refine g_if_ne (tgt := 50) C dX4_valueAt_34 (by decide) (fun c_5 => ?_) (fun c_5 => ?_)
              · replace h := h.1 c_5
                exact key_3 h
              · replace h := h.2 c_5
                refine g_iload C dX4_valueAt_37 4 rfl ?_
                refine g_iload C dX4_valueAt_39 5 rfl ?_
                refine g_idiv C dX4_valueAt_41 hc_1 ?_
                refine g_topi (fun x6_3 ex6_3 => ?_)
                replace h := h x6_3 ex6_3
                refine g_istore (lv' := [(6, .int x6_3), (0, .ref h0), (1, .ref q_a1), (2, .int a2), (4, .long x4_1), (7, .int x7_1), (8, .int x8_1)]) C dX4_valueAt_42 (by decide) rfl ?_
                refine g_iinc (v := x8_1 + 1) (lv' := [(8, .int (x8_1 + 1)), (6, .int x6_3), (0, .ref h0), (1, .ref q_a1), (2, .int a2), (4, .long x4_1), (7, .int x7_1)]) C dX4_valueAt_44 6 rfl rfl (by decide) rfl ?_
                refine g_goto (tgt := 22) C dX4_valueAt_47 (by decide) ?_
                refine gG.locals (lv' := [(0, .ref h0), (1, .ref q_a1), (2, .int a2), (4, .long x4_1), (6, .int x6_3), (7, .int x7_1), (8, .int (x8_1 + 1))]) [2, 3, 4, 5, 1, 6, 0] rfl ?_
                exact ih2 x6_3 (x8_1 + 1) (Nat.lt_of_lt_of_le h.2 (Nat.le_of_lt_succ hm2)) h.1
        refine gG.locals (lv' := [(0, .ref h0), (1, .ref q_a1), (2, .int a2), (4, .long x4_1), (6, .int x6_1), (7, .int x7_1), (8, .int 0)]) [1, 2, 3, 4, 5, 6, 0] rfl ?_
        exact key_2 (Mea_2 x6_1 0 + 1) x6_1 0 (Nat.lt_succ_self _) hI2
  refine gG.locals (lv' := [(0, .ref h0), (1, .ref q_a1), (2, .int a2), (4, .long 1), (6, .int a3), (7, .int 2)]) [3, 4, 5, 2, 1, 0] rfl ?_
  exact key_1 (Mea_1 cells ofPrime 1 a3 2 + 1) cells ofPrime 1 a3 2 (Nat.lt_succ_self _) hI1
theorem dX6_init_0 : decode cX6_init 0 = .ok (.aload_n 0, 1) := by decide +kernel
theorem dX6_init_1 : decode cX6_init 1 = .ok (.invokespecial 3, 3) := by decide +kernel
theorem dX6_init_4 : decode cX6_init 4 = .ok (.aload_n 0, 1) := by decide +kernel
theorem dX6_init_5 : decode cX6_init 5 = .ok (.iconst 2, 1) := by decide +kernel
theorem dX6_init_6 : decode cX6_init 6 = .ok (.newarray .int, 2) := by decide +kernel
theorem dX6_init_8 : decode cX6_init 8 = .ok (.putfield 9, 3) := by decide +kernel
theorem dX6_init_11 : decode cX6_init 11 = .ok (.aload_n 0, 1) := by decide +kernel
theorem dX6_init_12 : decode cX6_init 12 = .ok (.iconst (-1), 1) := by decide +kernel
theorem dX6_init_13 : decode cX6_init 13 = .ok (.putfield 15, 3) := by decide +kernel
theorem dX6_init_16 : decode cX6_init 16 = .ok (.return_, 1) := by decide +kernel
/-- QuotientSums$Row.<init>()V -/
def wX6_init   (Q : (Int32) → (Int32) → (Int32) → (Int32) → (Nat → Int32) → Prop) : Prop :=
  (∀ z_1 : Nat → Int32, z_1 = (fun _ => 0) → (Q (-1) 0 0 0 z_1))
set_option maxHeartbeats 4000000 in
set_option maxRecDepth 100000 in
theorem mX6_init (l : Launch) (D : va_G) (Y : Nat → ClassId) (h0 : Nat)   (Q : (Int32) → (Int32) → (Int32) → (Int32) → (Nat → Int32) → Prop) (h : wX6_init  Q) : gM l D Y yX6_init cX6_init 1 none 1 20 1 2 [.ref h0] [oX6 h0 (.null) 0 0 0 0] (fun v w => ∃ q_sums : Nat, ∃ function' : Int32, ∃ modulus' : Int32, ∃ filled' : Int32, ∃ used' : Int32, ∃ sums' : Nat → Int32, v = none ∧ w = [oX6 h0 (.ref q_sums) function' modulus' filled' used', aI Y q_sums 2 sums'] ∧ Q function' modulus' filled' used' sums') := by
  refine gM_ofI (own := RX6) (by decide +kernel) rfl rfl (Nat.le_of_ble_eq_true rfl) rfl (fun E C hR hin => ?_)
  unfold wX6_init at h
  refine g_aload_n C dX6_init_0 0 rfl ?_
  refine g_objInit C wM_X6_3 dX6_init_1 (Nat.le_of_ble_eq_true rfl) (Nat.le_of_ble_eq_true rfl) ?_
  refine g_aload_n C dX6_init_4 0 rfl ?_
  refine g_iconst (v := 2) C dX6_init_5 rfl ?_
  refine g_newI C dX6_init_6 (by decide) rfl (Nat.le_of_ble_eq_true rfl) ⟨Nat.le_of_ble_eq_true rfl, Nat.le_of_ble_eq_true rfl⟩ (fun q_1 z_1 ez_1 => gG.eqw (ws' := [oX6 h0 (.null) 0 0 0 0, aI Y q_1 2 z_1]) rfl ?_)
  replace h := h z_1 ez_1
  refine g_put C inX6 tyX6 tyX6_ok nmX6 0 rfl rfl 0 (by decide) wF_X6_9 rfl rfl rfl (Nat.le_of_ble_eq_true rfl) (ws' := [oX6 h0 (.ref q_1) 0 0 0 0, aI Y q_1 2 z_1]) rfl dX6_init_8 ?_
  refine g_aload_n C dX6_init_11 0 rfl ?_
  refine g_iconst (v := (-1)) C dX6_init_12 rfl ?_
  refine g_put C inX6 tyX6 tyX6_ok nmX6 0 rfl rfl 1 (by decide) wF_X6_15 rfl rfl rfl (Nat.le_of_ble_eq_true rfl) (ws' := [oX6 h0 (.ref q_1) (-1) 0 0 0, aI Y q_1 2 z_1]) rfl dX6_init_13 ?_
  exact g_vret C hR (Nat.le_of_ble_eq_true rfl) (Nat.le_of_ble_eq_true rfl) dX6_init_16 ⟨q_1, (-1), 0, 0, 0, z_1, rfl, rfl, h⟩
theorem dX6_begin_0 : decode cX6_begin 0 = .ok (.aload_n 0, 1) := by decide +kernel
theorem dX6_begin_1 : decode cX6_begin 1 = .ok (.iload_n 1, 1) := by decide +kernel
theorem dX6_begin_2 : decode cX6_begin 2 = .ok (.putfield 15, 3) := by decide +kernel
theorem dX6_begin_5 : decode cX6_begin 5 = .ok (.aload_n 0, 1) := by decide +kernel
theorem dX6_begin_6 : decode cX6_begin 6 = .ok (.iload_n 2, 1) := by decide +kernel
theorem dX6_begin_7 : decode cX6_begin 7 = .ok (.putfield 19, 3) := by decide +kernel
theorem dX6_begin_10 : decode cX6_begin 10 = .ok (.aload_n 0, 1) := by decide +kernel
theorem dX6_begin_11 : decode cX6_begin 11 = .ok (.iconst 1, 1) := by decide +kernel
theorem dX6_begin_12 : decode cX6_begin 12 = .ok (.putfield 22, 3) := by decide +kernel
theorem dX6_begin_15 : decode cX6_begin 15 = .ok (.aload_n 0, 1) := by decide +kernel
theorem dX6_begin_16 : decode cX6_begin 16 = .ok (.getfield 9, 3) := by decide +kernel
theorem dX6_begin_19 : decode cX6_begin 19 = .ok (.iconst 0, 1) := by decide +kernel
theorem dX6_begin_20 : decode cX6_begin 20 = .ok (.iconst 0, 1) := by decide +kernel
theorem dX6_begin_21 : decode cX6_begin 21 = .ok (.iastore, 1) := by decide +kernel
theorem dX6_begin_22 : decode cX6_begin 22 = .ok (.aload_n 0, 1) := by decide +kernel
theorem dX6_begin_23 : decode cX6_begin 23 = .ok (.getfield 9, 3) := by decide +kernel
theorem dX6_begin_26 : decode cX6_begin 26 = .ok (.iconst 1, 1) := by decide +kernel
theorem dX6_begin_27 : decode cX6_begin 27 = .ok (.iconst 1, 1) := by decide +kernel
theorem dX6_begin_28 : decode cX6_begin 28 = .ok (.iastore, 1) := by decide +kernel
theorem dX6_begin_29 : decode cX6_begin 29 = .ok (.return_, 1) := by decide +kernel
/-- QuotientSums$Row.begin(II)V -/
def wX6_begin (function : Int32) (modulus : Int32) (filled : Int32) (used : Int32) (n_sums : Nat) (sums : Nat → Int32) (a1 : Int32) (a2 : Int32) (Q : (Int32) → (Int32) → (Int32) → (Nat → Int32) → Prop) : Prop :=
  (vp_in 0 n_sums ∧ ∀ sums_1 : Nat → Int32, sums_1 = upd sums 0 0 → vp_in 1 n_sums ∧ ∀ sums_2 : Nat → Int32, sums_2 = upd sums_1 1 1 → (Q a1 a2 1 sums_2))
set_option maxHeartbeats 4000000 in
set_option maxRecDepth 100000 in
theorem mX6_begin (l : Launch) (D : va_G) (Y : Nat → ClassId) (h0 : Nat) (q_sums : Nat) (function : Int32) (modulus : Int32) (filled : Int32) (used : Int32) (n_sums : Nat) (sums : Nat → Int32) (a1 : Int32) (a2 : Int32) (Q : (Int32) → (Int32) → (Int32) → (Nat → Int32) → Prop) (h : wX6_begin function modulus filled used n_sums sums a1 a2 Q) : gM l D Y yX6_begin cX6_begin 3 none 0 0 0 0 [.ref h0, .int a1, .int a2] [oX6 h0 (.ref q_sums) function modulus filled used, aI Y q_sums n_sums sums] (fun v w => ∃ function' : Int32, ∃ modulus' : Int32, ∃ filled' : Int32, ∃ sums' : Nat → Int32, v = none ∧ w = [oX6 h0 (.ref q_sums) function' modulus' filled' used, aI Y q_sums n_sums sums'] ∧ Q function' modulus' filled' sums') := by
  refine gM_of (own := RX6) (by decide +kernel) rfl (Nat.le_of_ble_eq_true rfl) rfl (fun E C hR => ?_)
  unfold wX6_begin at h
  refine g_aload_n C dX6_begin_0 0 rfl ?_
  refine g_iload_n C dX6_begin_1 1 rfl ?_
  refine g_put C inX6 tyX6 tyX6_ok nmX6 0 rfl rfl 1 (by decide) wF_X6_15 rfl rfl rfl (Nat.le_of_ble_eq_true rfl) (ws' := [oX6 h0 (.ref q_sums) a1 modulus filled used, aI Y q_sums n_sums sums]) rfl dX6_begin_2 ?_
  refine g_aload_n C dX6_begin_5 0 rfl ?_
  refine g_iload_n C dX6_begin_6 2 rfl ?_
  refine g_put C inX6 tyX6 tyX6_ok nmX6 0 rfl rfl 2 (by decide) wF_X6_19 rfl rfl rfl (Nat.le_of_ble_eq_true rfl) (ws' := [oX6 h0 (.ref q_sums) a1 a2 filled used, aI Y q_sums n_sums sums]) rfl dX6_begin_7 ?_
  refine g_aload_n C dX6_begin_10 0 rfl ?_
  refine g_iconst (v := 1) C dX6_begin_11 rfl ?_
  refine g_put C inX6 tyX6 tyX6_ok nmX6 0 rfl rfl 3 (by decide) wF_X6_22 rfl rfl rfl (Nat.le_of_ble_eq_true rfl) (ws' := [oX6 h0 (.ref q_sums) a1 a2 1 used, aI Y q_sums n_sums sums]) rfl dX6_begin_12 ?_
  refine g_aload_n C dX6_begin_15 0 rfl ?_
  refine g_get C inX6 0 rfl rfl 0 (by decide) wF_X6_9 rfl dX6_begin_16 ?_
  refine g_iconst (v := 0) C dX6_begin_19 rfl ?_
  refine g_iconst (v := 0) C dX6_begin_20 rfl ?_
  obtain ⟨hc_1, h⟩ := h
  refine g_iast C 1 rfl hc_1 dX6_begin_21 (fun sums_1 esums_1 => gG.eqw (ws' := [oX6 h0 (.ref q_sums) a1 a2 1 used, aI Y q_sums n_sums sums_1]) rfl ?_)
  replace h := h sums_1 esums_1
  refine g_aload_n C dX6_begin_22 0 rfl ?_
  refine g_get C inX6 0 rfl rfl 0 (by decide) wF_X6_9 rfl dX6_begin_23 ?_
  refine g_iconst (v := 1) C dX6_begin_26 rfl ?_
  refine g_iconst (v := 1) C dX6_begin_27 rfl ?_
  obtain ⟨hc_2, h⟩ := h
  refine g_iast C 1 rfl hc_2 dX6_begin_28 (fun sums_2 esums_2 => gG.eqw (ws' := [oX6 h0 (.ref q_sums) a1 a2 1 used, aI Y q_sums n_sums sums_2]) rfl ?_)
  replace h := h sums_2 esums_2
  exact g_vret C hR (Nat.le_of_ble_eq_true rfl) (Nat.le_of_ble_eq_true rfl) dX6_begin_29 ⟨a1, a2, 1, sums_2, rfl, rfl, h⟩
set_option maxHeartbeats 4000000 in
set_option maxRecDepth 100000 in
theorem mX6_begin_at (l : Launch) (D : va_G) (Y : Nat → ClassId) (ra : Nat → Nat) (k : Nat) (hk : k < 4) (rs : Nat → Nat) (rf rm rl ru : Nat → Int32) (rn : Nat → Nat) (rv : Nat → Nat → Int32) (a1 : Int32) (a2 : Int32) (Q : (Int32) → (Int32) → (Int32) → (Nat → Int32) → Prop) (h : wX6_begin (rf k) (rm k) (rl k) (ru k) (rn k) (rv k) a1 a2 Q) : gM l D Y yX6_begin cX6_begin 3 none 0 0 0 0 [.ref (ra k), .int a1, .int a2] (rowsW Y ra rs rf rm rl ru rn rv) (fun v w => ∃ function' : Int32, ∃ modulus' : Int32, ∃ filled' : Int32, ∃ sums' : Nat → Int32, v = none ∧ w = rowsW Y ra rs (upd rf k function') (upd rm k modulus') (upd rl k filled') ru rn (va_up rv k sums') ∧ Q function' modulus' filled' sums') := by
  match k, hk with
  | 0, _ => exact gM_frame (mX6_begin l D Y (ra 0) (rs 0) (rf 0) (rm 0) (rl 0) (ru 0) (rn 0) (rv 0) a1 a2 Q h) [0, 1] [2, 3, 4, 5, 6, 7] rfl rfl rfl (fun v wc hv => by obtain ⟨function', modulus', filled', sums', rfl, rfl, hq⟩ := hv; exact ⟨rowsW Y ra rs (upd rf 0 function') (upd rm 0 modulus') (upd rl 0 filled') ru rn (va_up rv 0 sums'), [6, 7, 0, 1, 2, 3, 4, 5], rfl, rfl, function', modulus', filled', sums', rfl, rfl, hq⟩)
  | 1, _ => exact gM_frame (mX6_begin l D Y (ra 1) (rs 1) (rf 1) (rm 1) (rl 1) (ru 1) (rn 1) (rv 1) a1 a2 Q h) [2, 3] [0, 1, 4, 5, 6, 7] rfl rfl rfl (fun v wc hv => by obtain ⟨function', modulus', filled', sums', rfl, rfl, hq⟩ := hv; exact ⟨rowsW Y ra rs (upd rf 1 function') (upd rm 1 modulus') (upd rl 1 filled') ru rn (va_up rv 1 sums'), [0, 1, 6, 7, 2, 3, 4, 5], rfl, rfl, function', modulus', filled', sums', rfl, rfl, hq⟩)
  | 2, _ => exact gM_frame (mX6_begin l D Y (ra 2) (rs 2) (rf 2) (rm 2) (rl 2) (ru 2) (rn 2) (rv 2) a1 a2 Q h) [4, 5] [0, 1, 2, 3, 6, 7] rfl rfl rfl (fun v wc hv => by obtain ⟨function', modulus', filled', sums', rfl, rfl, hq⟩ := hv; exact ⟨rowsW Y ra rs (upd rf 2 function') (upd rm 2 modulus') (upd rl 2 filled') ru rn (va_up rv 2 sums'), [0, 1, 2, 3, 6, 7, 4, 5], rfl, rfl, function', modulus', filled', sums', rfl, rfl, hq⟩)
  | 3, _ => exact gM_frame (mX6_begin l D Y (ra 3) (rs 3) (rf 3) (rm 3) (rl 3) (ru 3) (rn 3) (rv 3) a1 a2 Q h) [6, 7] [0, 1, 2, 3, 4, 5] rfl rfl rfl (fun v wc hv => by obtain ⟨function', modulus', filled', sums', rfl, rfl, hq⟩ := hv; exact ⟨rowsW Y ra rs (upd rf 3 function') (upd rm 3 modulus') (upd rl 3 filled') ru rn (va_up rv 3 sums'), [0, 1, 2, 3, 4, 5, 6, 7], rfl, rfl, function', modulus', filled', sums', rfl, rfl, hq⟩)
  | k + 4, h4 => exact absurd h4 (by omega)
theorem dX6_makeRoom_0 : decode cX6_makeRoom 0 = .ok (.iload_n 1, 1) := by decide +kernel
theorem dX6_makeRoom_1 : decode cX6_makeRoom 1 = .ok (.aload_n 0, 1) := by decide +kernel
theorem dX6_makeRoom_2 : decode cX6_makeRoom 2 = .ok (.getfield 9, 3) := by decide +kernel
theorem dX6_makeRoom_5 : decode cX6_makeRoom 5 = .ok (.arraylength, 1) := by decide +kernel
theorem dX6_makeRoom_6 : decode cX6_makeRoom 6 = .ok (.if_icmp .lt 29, 3) := by decide +kernel
theorem dX6_makeRoom_9 : decode cX6_makeRoom 9 = .ok (.iload_n 1, 1) := by decide +kernel
theorem dX6_makeRoom_10 : decode cX6_makeRoom 10 = .ok (.ldc 25, 2) := by decide +kernel
theorem dX6_makeRoom_12 : decode cX6_makeRoom 12 = .ok (.if_icmp .gt 23, 3) := by decide +kernel
theorem dX6_makeRoom_15 : decode cX6_makeRoom 15 = .ok (.aload_n 0, 1) := by decide +kernel
theorem dX6_makeRoom_16 : decode cX6_makeRoom 16 = .ok (.aload_n 0, 1) := by decide +kernel
theorem dX6_makeRoom_17 : decode cX6_makeRoom 17 = .ok (.getfield 9, 3) := by decide +kernel
theorem dX6_makeRoom_20 : decode cX6_makeRoom 20 = .ok (.aload_n 0, 1) := by decide +kernel
theorem dX6_makeRoom_21 : decode cX6_makeRoom 21 = .ok (.getfield 9, 3) := by decide +kernel
theorem dX6_makeRoom_24 : decode cX6_makeRoom 24 = .ok (.arraylength, 1) := by decide +kernel
theorem dX6_makeRoom_25 : decode cX6_makeRoom 25 = .ok (.iload_n 1, 1) := by decide +kernel
theorem dX6_makeRoom_26 : decode cX6_makeRoom 26 = .ok (.invokestatic 26, 3) := by decide +kernel
theorem dX6_makeRoom_29 : decode cX6_makeRoom 29 = .ok (.invokestatic 30, 3) := by decide +kernel
theorem dX6_makeRoom_32 : decode cX6_makeRoom 32 = .ok (.putfield 9, 3) := by decide +kernel
theorem dX6_makeRoom_35 : decode cX6_makeRoom 35 = .ok (.return_, 1) := by decide +kernel
/-- QuotientSums$Row.makeRoom(I)V -/
def wX6_makeRoom (mc ms : Nat) (function : Int32) (modulus : Int32) (filled : Int32) (used : Int32) (n_sums : Nat) (sums : Nat → Int32) (a1 : Int32) (Q : (Nat) → (Nat → Int32) → Prop) : Prop :=
  ((a1 < (nI n_sums) → (Q n_sums sums)) ∧ (¬ a1 < (nI n_sums) → ((200000 < a1 → (Q n_sums sums)) ∧ (¬ 200000 < a1 → (∃ (P_1 : (Int32) → Prop), wX10_grown (nI n_sums) a1 P_1 ∧ ∀ (rF_1 : Int32), P_1 rF_1 → ∃ (mcF_1 msF_1 : Nat) (P_2 : (Nat) → (Nat → Int32) → Prop), (0 + mcF_1 ≤ mc ∧ 0 + msF_1 ≤ ms) ∧ wJ7_copyOf_59c91 mcF_1 msF_1 n_sums sums rF_1 P_2 ∧ ∀ (nF_1 : Nat) (c_3 : Nat → Int32), P_2 nF_1 c_3 → (Q nF_1 c_3))))))
set_option maxHeartbeats 4000000 in
set_option maxRecDepth 100000 in
theorem mX6_makeRoom (l : Launch) (D : va_G) (Y : Nat → ClassId) (mc ms : Nat) (h0 : Nat) (q_sums : Nat) (function : Int32) (modulus : Int32) (filled : Int32) (used : Int32) (n_sums : Nat) (sums : Nat → Int32) (a1 : Int32) (Q : (Nat) → (Nat → Int32) → Prop) (h : wX6_makeRoom mc ms function modulus filled used n_sums sums a1 Q) : gM l D Y yX6_makeRoom cX6_makeRoom 2 none 2 82 mc ms [.ref h0, .int a1] [oX6 h0 (.ref q_sums) function modulus filled used, aI Y q_sums n_sums sums] (fun v w => ∃ q_sums' : Nat, ∃ n_sums' : Nat, ∃ sums' : Nat → Int32, v = none ∧ w = [oX6 h0 (.ref q_sums') function modulus filled used, aI Y q_sums' n_sums' sums'] ∧ Q n_sums' sums') := by
  refine gM_of (own := RX6) (by decide +kernel) rfl (Nat.le_of_ble_eq_true rfl) rfl (fun E C hR => ?_)
  unfold wX6_makeRoom at h
  refine g_iload_n C dX6_makeRoom_0 1 rfl ?_
  refine g_aload_n C dX6_makeRoom_1 0 rfl ?_
  refine g_get C inX6 0 rfl rfl 0 (by decide) wF_X6_9 rfl dX6_makeRoom_2 ?_
  refine g_alen (v := nI n_sums) C 1 0 rfl rfl rfl dX6_makeRoom_5 ?_
  refine g_icmp_lt (tgt := 35) C dX6_makeRoom_6 (by decide) (fun c_1 => ?_) (fun c_1 => ?_)
  · replace h := h.1 c_1
    exact g_vret C hR (show 0 ≤ mc ∧ 0 ≤ ms from ⟨Nat.zero_le _, Nat.zero_le _⟩).1 (show 0 ≤ mc ∧ 0 ≤ ms from ⟨Nat.zero_le _, Nat.zero_le _⟩).2 dX6_makeRoom_35 ⟨q_sums, n_sums, sums, rfl, rfl, h⟩
  · replace h := h.2 c_1
    refine g_iload_n C dX6_makeRoom_9 1 rfl ?_
    refine g_ldc C dX6_makeRoom_10 wK_X6_25 ?_
    refine g_icmp_gt (tgt := 35) C dX6_makeRoom_12 (by decide) (fun c_2 => ?_) (fun c_2 => ?_)
    · replace h := h.1 c_2
      exact g_vret C hR (show 0 ≤ mc ∧ 0 ≤ ms from ⟨Nat.zero_le _, Nat.zero_le _⟩).1 (show 0 ≤ mc ∧ 0 ≤ ms from ⟨Nat.zero_le _, Nat.zero_le _⟩).2 dX6_makeRoom_35 ⟨q_sums, n_sums, sums, rfl, rfl, h⟩
    · replace h := h.2 c_2
      refine g_aload_n C dX6_makeRoom_15 0 rfl ?_
      refine g_aload_n C dX6_makeRoom_16 0 rfl ?_
      refine g_get C inX6 0 rfl rfl 0 (by decide) wF_X6_9 rfl dX6_makeRoom_17 ?_
      refine g_aload_n C dX6_makeRoom_20 0 rfl ?_
      refine g_get C inX6 0 rfl rfl 0 (by decide) wF_X6_9 rfl dX6_makeRoom_21 ?_
      refine g_alen (v := nI n_sums) C 1 0 rfl rfl rfl dX6_makeRoom_24 ?_
      refine g_iload_n C dX6_makeRoom_25 1 rfl ?_
      obtain ⟨P_1, hP, h⟩ := h
      refine g_callSN (As := [.int (nI n_sums), .int a1]) (rest := [.ref q_sums, .ref h0]) C (mX10_grown l D Y (nI n_sums) a1 P_1 hP) dX6_makeRoom_26 rfl wNM_X6_26 wS_X10_grown wN_X10 wC_X10_grown (n := 2) (by decide +kernel) rfl ⟨Nat.le_of_ble_eq_true rfl, Nat.le_of_ble_eq_true rfl⟩ ⟨Nat.zero_le _, Nat.zero_le _⟩ (Nat.le_of_ble_eq_true rfl) [] [0, 1] rfl rfl rfl (fun v wc hv => ?_)
      obtain ⟨rF_1, rfl, rfl, hq⟩ := hv
      replace h := h rF_1 hq
      refine gG.eqw (ws' := [oX6 h0 (.ref q_sums) function modulus filled used, aI Y q_sums n_sums sums]) rfl ?_
      obtain ⟨mcF_1, msF_1, P_2, hk_1, hP, h⟩ := h
      refine g_callS (As := [.ref q_sums, .int rF_1]) (rest := [.ref h0]) C (mJ7_copyOf_59c91 l D Y mcF_1 msF_1 q_sums n_sums sums rF_1 P_2 hP) dX6_makeRoom_29 rfl wM_X6_30 wS_J7_copyOf_59c91 wN_J7 wC_J7_copyOf_59c91 (n := 2) (by decide +kernel) rfl ⟨Nat.le_of_ble_eq_true rfl, Nat.le_of_ble_eq_true rfl⟩ hk_1 (Nat.le_of_ble_eq_true rfl) [1] [0] rfl rfl rfl (fun v wc hv => ?_)
      obtain ⟨q_1, nF_1, c_3, rfl, rfl, hq⟩ := hv
      replace h := h nF_1 c_3 hq
      refine gG.eqw (ws' := [oX6 h0 (.ref q_sums) function modulus filled used, aI Y q_sums n_sums sums, aI Y q_1 nF_1 c_3]) rfl ?_
      refine g_put C inX6 tyX6 tyX6_ok nmX6 0 rfl rfl 0 (by decide) wF_X6_9 rfl rfl rfl (Nat.le_of_ble_eq_true rfl) (ws' := [oX6 h0 (.ref q_1) function modulus filled used, aI Y q_sums n_sums sums, aI Y q_1 nF_1 c_3]) rfl dX6_makeRoom_32 ?_
      refine gG.perm (ws' := [oX6 h0 (.ref q_1) function modulus filled used, aI Y q_1 nF_1 c_3]) [0, 2] rfl rfl ?_
      exact g_vret C hR (show 0 + mcF_1 ≤ mc ∧ 0 + msF_1 ≤ ms from hk_1).1 (show 0 + mcF_1 ≤ mc ∧ 0 + msF_1 ≤ ms from hk_1).2 dX6_makeRoom_35 ⟨q_1, nF_1, c_3, rfl, rfl, h⟩
set_option maxHeartbeats 4000000 in
set_option maxRecDepth 100000 in
theorem mX6_makeRoom_at (l : Launch) (D : va_G) (Y : Nat → ClassId) (mc ms : Nat) (ra : Nat → Nat) (k : Nat) (hk : k < 4) (rs : Nat → Nat) (rf rm rl ru : Nat → Int32) (rn : Nat → Nat) (rv : Nat → Nat → Int32) (a1 : Int32) (Q : (Nat) → (Nat → Int32) → Prop) (h : wX6_makeRoom mc ms (rf k) (rm k) (rl k) (ru k) (rn k) (rv k) a1 Q) : gM l D Y yX6_makeRoom cX6_makeRoom 2 none 2 82 mc ms [.ref (ra k), .int a1] (rowsW Y ra rs rf rm rl ru rn rv) (fun v w => ∃ q_sums' : Nat, ∃ n_sums' : Nat, ∃ sums' : Nat → Int32, v = none ∧ w = rowsW Y ra (va_up rs k q_sums') rf rm rl ru (va_up rn k n_sums') (va_up rv k sums') ∧ Q n_sums' sums') := by
  match k, hk with
  | 0, _ => exact gM_frame (mX6_makeRoom l D Y mc ms (ra 0) (rs 0) (rf 0) (rm 0) (rl 0) (ru 0) (rn 0) (rv 0) a1 Q h) [0, 1] [2, 3, 4, 5, 6, 7] rfl rfl rfl (fun v wc hv => by obtain ⟨q_sums', n_sums', sums', rfl, rfl, hq⟩ := hv; exact ⟨rowsW Y ra (va_up rs 0 q_sums') rf rm rl ru (va_up rn 0 n_sums') (va_up rv 0 sums'), [6, 7, 0, 1, 2, 3, 4, 5], rfl, rfl, q_sums', n_sums', sums', rfl, rfl, hq⟩)
  | 1, _ => exact gM_frame (mX6_makeRoom l D Y mc ms (ra 1) (rs 1) (rf 1) (rm 1) (rl 1) (ru 1) (rn 1) (rv 1) a1 Q h) [2, 3] [0, 1, 4, 5, 6, 7] rfl rfl rfl (fun v wc hv => by obtain ⟨q_sums', n_sums', sums', rfl, rfl, hq⟩ := hv; exact ⟨rowsW Y ra (va_up rs 1 q_sums') rf rm rl ru (va_up rn 1 n_sums') (va_up rv 1 sums'), [0, 1, 6, 7, 2, 3, 4, 5], rfl, rfl, q_sums', n_sums', sums', rfl, rfl, hq⟩)
  | 2, _ => exact gM_frame (mX6_makeRoom l D Y mc ms (ra 2) (rs 2) (rf 2) (rm 2) (rl 2) (ru 2) (rn 2) (rv 2) a1 Q h) [4, 5] [0, 1, 2, 3, 6, 7] rfl rfl rfl (fun v wc hv => by obtain ⟨q_sums', n_sums', sums', rfl, rfl, hq⟩ := hv; exact ⟨rowsW Y ra (va_up rs 2 q_sums') rf rm rl ru (va_up rn 2 n_sums') (va_up rv 2 sums'), [0, 1, 2, 3, 6, 7, 4, 5], rfl, rfl, q_sums', n_sums', sums', rfl, rfl, hq⟩)
  | 3, _ => exact gM_frame (mX6_makeRoom l D Y mc ms (ra 3) (rs 3) (rf 3) (rm 3) (rl 3) (ru 3) (rn 3) (rv 3) a1 Q h) [6, 7] [0, 1, 2, 3, 4, 5] rfl rfl rfl (fun v wc hv => by obtain ⟨q_sums', n_sums', sums', rfl, rfl, hq⟩ := hv; exact ⟨rowsW Y ra (va_up rs 3 q_sums') rf rm rl ru (va_up rn 3 n_sums') (va_up rv 3 sums'), [0, 1, 2, 3, 4, 5, 6, 7], rfl, rfl, q_sums', n_sums', sums', rfl, rfl, hq⟩)
  | k + 4, h4 => exact absurd h4 (by omega)
theorem dX6_append_0 : decode cX6_append 0 = .ok (.aload_n 0, 1) := by decide +kernel
theorem dX6_append_1 : decode cX6_append 1 = .ok (.getfield 22, 3) := by decide +kernel
theorem dX6_append_4 : decode cX6_append 4 = .ok (.ifCond .lt 66, 3) := by decide +kernel
theorem dX6_append_7 : decode cX6_append 7 = .ok (.aload_n 0, 1) := by decide +kernel
theorem dX6_append_8 : decode cX6_append 8 = .ok (.getfield 22, 3) := by decide +kernel
theorem dX6_append_11 : decode cX6_append 11 = .ok (.iconst 1, 1) := by decide +kernel
theorem dX6_append_12 : decode cX6_append 12 = .ok (.iadd, 1) := by decide +kernel
theorem dX6_append_13 : decode cX6_append 13 = .ok (.aload_n 0, 1) := by decide +kernel
theorem dX6_append_14 : decode cX6_append 14 = .ok (.getfield 9, 3) := by decide +kernel
theorem dX6_append_17 : decode cX6_append 17 = .ok (.arraylength, 1) := by decide +kernel
theorem dX6_append_18 : decode cX6_append 18 = .ok (.if_icmp .ge 52, 3) := by decide +kernel
theorem dX6_append_21 : decode cX6_append 21 = .ok (.aload_n 0, 1) := by decide +kernel
theorem dX6_append_22 : decode cX6_append 22 = .ok (.getfield 9, 3) := by decide +kernel
theorem dX6_append_25 : decode cX6_append 25 = .ok (.aload_n 0, 1) := by decide +kernel
theorem dX6_append_26 : decode cX6_append 26 = .ok (.getfield 22, 3) := by decide +kernel
theorem dX6_append_29 : decode cX6_append 29 = .ok (.iaload, 1) := by decide +kernel
theorem dX6_append_30 : decode cX6_append 30 = .ok (.iload_n 1, 1) := by decide +kernel
theorem dX6_append_31 : decode cX6_append 31 = .ok (.iadd, 1) := by decide +kernel
theorem dX6_append_32 : decode cX6_append 32 = .ok (.istore_n 2, 1) := by decide +kernel
theorem dX6_append_33 : decode cX6_append 33 = .ok (.aload_n 0, 1) := by decide +kernel
theorem dX6_append_34 : decode cX6_append 34 = .ok (.dup, 1) := by decide +kernel
theorem dX6_append_35 : decode cX6_append 35 = .ok (.getfield 22, 3) := by decide +kernel
theorem dX6_append_38 : decode cX6_append 38 = .ok (.iconst 1, 1) := by decide +kernel
theorem dX6_append_39 : decode cX6_append 39 = .ok (.iadd, 1) := by decide +kernel
theorem dX6_append_40 : decode cX6_append 40 = .ok (.putfield 22, 3) := by decide +kernel
theorem dX6_append_43 : decode cX6_append 43 = .ok (.aload_n 0, 1) := by decide +kernel
theorem dX6_append_44 : decode cX6_append 44 = .ok (.getfield 9, 3) := by decide +kernel
theorem dX6_append_47 : decode cX6_append 47 = .ok (.aload_n 0, 1) := by decide +kernel
theorem dX6_append_48 : decode cX6_append 48 = .ok (.getfield 22, 3) := by decide +kernel
theorem dX6_append_51 : decode cX6_append 51 = .ok (.iload_n 2, 1) := by decide +kernel
theorem dX6_append_52 : decode cX6_append 52 = .ok (.aload_n 0, 1) := by decide +kernel
theorem dX6_append_53 : decode cX6_append 53 = .ok (.getfield 19, 3) := by decide +kernel
theorem dX6_append_56 : decode cX6_append 56 = .ok (.if_icmp .lt 12, 3) := by decide +kernel
theorem dX6_append_59 : decode cX6_append 59 = .ok (.iload_n 2, 1) := by decide +kernel
theorem dX6_append_60 : decode cX6_append 60 = .ok (.aload_n 0, 1) := by decide +kernel
theorem dX6_append_61 : decode cX6_append 61 = .ok (.getfield 19, 3) := by decide +kernel
theorem dX6_append_64 : decode cX6_append 64 = .ok (.isub, 1) := by decide +kernel
theorem dX6_append_65 : decode cX6_append 65 = .ok (.goto 4, 3) := by decide +kernel
theorem dX6_append_68 : decode cX6_append 68 = .ok (.iload_n 2, 1) := by decide +kernel
theorem dX6_append_69 : decode cX6_append 69 = .ok (.iastore, 1) := by decide +kernel
theorem dX6_append_70 : decode cX6_append 70 = .ok (.return_, 1) := by decide +kernel
/-- QuotientSums$Row.append(I)V -/
def wX6_append (function : Int32) (modulus : Int32) (filled : Int32) (used : Int32) (n_sums : Nat) (sums : Nat → Int32) (a1 : Int32) (Q : (Int32) → (Nat → Int32) → Prop) : Prop :=
  ((filled < 0 → (Q filled sums)) ∧ (¬ filled < 0 → (((nI n_sums) ≤ (filled + 1) → (Q filled sums)) ∧ (¬ (nI n_sums) ≤ (filled + 1) → (vp_in filled n_sums ∧ ∀ x2_1 : Int32, x2_1 = (sums filled.toNatClampNeg) + a1 → ∀ filled_1 : Int32, filled_1 = filled + 1 → ((x2_1 < modulus → (vp_in filled_1 n_sums ∧ ∀ sums_1 : Nat → Int32, sums_1 = upd sums filled_1.toNatClampNeg x2_1 → (Q filled_1 sums_1))) ∧ (¬ x2_1 < modulus → (∀ e_1 : Int32, e_1 = x2_1 - modulus → vp_in filled_1 n_sums ∧ ∀ sums_2 : Nat → Int32, sums_2 = upd sums filled_1.toNatClampNeg e_1 → (Q filled_1 sums_2)))))))))
set_option maxHeartbeats 4000000 in
set_option maxRecDepth 100000 in
theorem mX6_append (l : Launch) (D : va_G) (Y : Nat → ClassId) (h0 : Nat) (q_sums : Nat) (function : Int32) (modulus : Int32) (filled : Int32) (used : Int32) (n_sums : Nat) (sums : Nat → Int32) (a1 : Int32) (Q : (Int32) → (Nat → Int32) → Prop) (h : wX6_append function modulus filled used n_sums sums a1 Q) : gM l D Y yX6_append cX6_append 3 none 0 0 0 0 [.ref h0, .int a1] [oX6 h0 (.ref q_sums) function modulus filled used, aI Y q_sums n_sums sums] (fun v w => ∃ filled' : Int32, ∃ sums' : Nat → Int32, v = none ∧ w = [oX6 h0 (.ref q_sums) function modulus filled' used, aI Y q_sums n_sums sums'] ∧ Q filled' sums') := by
  refine gM_of (own := RX6) (by decide +kernel) rfl (Nat.le_of_ble_eq_true rfl) rfl (fun E C hR => ?_)
  unfold wX6_append at h
  refine g_aload_n C dX6_append_0 0 rfl ?_
  refine g_get C inX6 0 rfl rfl 3 (by decide) wF_X6_22 rfl dX6_append_1 ?_
  refine g_if_lt (tgt := 70) C dX6_append_4 (by decide) (fun c_1 => ?_) (fun c_1 => ?_)
  · replace h := h.1 c_1
    exact g_vret C hR (Nat.le_of_ble_eq_true rfl) (Nat.le_of_ble_eq_true rfl) dX6_append_70 ⟨filled, sums, rfl, rfl, h⟩
  · replace h := h.2 c_1
    refine g_aload_n C dX6_append_7 0 rfl ?_
    refine g_get C inX6 0 rfl rfl 3 (by decide) wF_X6_22 rfl dX6_append_8 ?_
    refine g_iconst (v := 1) C dX6_append_11 rfl ?_
    refine g_iadd C dX6_append_12 ?_
    refine g_aload_n C dX6_append_13 0 rfl ?_
    refine g_get C inX6 0 rfl rfl 0 (by decide) wF_X6_9 rfl dX6_append_14 ?_
    refine g_alen (v := nI n_sums) C 1 0 rfl rfl rfl dX6_append_17 ?_
    refine g_icmp_ge (tgt := 70) C dX6_append_18 (by decide) (fun c_2 => ?_) (fun c_2 => ?_)
    · replace h := h.1 c_2
      exact g_vret C hR (Nat.le_of_ble_eq_true rfl) (Nat.le_of_ble_eq_true rfl) dX6_append_70 ⟨filled, sums, rfl, rfl, h⟩
    · replace h := h.2 c_2
      refine g_aload_n C dX6_append_21 0 rfl ?_
      refine g_get C inX6 0 rfl rfl 0 (by decide) wF_X6_9 rfl dX6_append_22 ?_
      refine g_aload_n C dX6_append_25 0 rfl ?_
      refine g_get C inX6 0 rfl rfl 3 (by decide) wF_X6_22 rfl dX6_append_26 ?_
      obtain ⟨hc_1, h⟩ := h
      refine g_iald C 1 rfl hc_1 dX6_append_29 ?_
      refine g_iload_n C dX6_append_30 1 rfl ?_
      refine g_iadd C dX6_append_31 ?_
      refine g_topi (fun x2_1 ex2_1 => ?_)
      replace h := h x2_1 ex2_1
      refine g_istore_n (lv' := [(2, .int x2_1), (0, .ref h0), (1, .int a1)]) C dX6_append_32 (by decide) rfl ?_
      refine g_aload_n C dX6_append_33 1 rfl ?_
      refine g_dup C dX6_append_34 rfl ?_
      refine g_get C inX6 0 rfl rfl 3 (by decide) wF_X6_22 rfl dX6_append_35 ?_
      refine g_iconst (v := 1) C dX6_append_38 rfl ?_
      refine g_iadd C dX6_append_39 ?_
      refine g_topi (fun filled_1 efilled_1 => ?_)
      replace h := h filled_1 efilled_1
      refine g_put C inX6 tyX6 tyX6_ok nmX6 0 rfl rfl 3 (by decide) wF_X6_22 rfl rfl rfl (Nat.le_of_ble_eq_true rfl) (ws' := [oX6 h0 (.ref q_sums) function modulus filled_1 used, aI Y q_sums n_sums sums]) rfl dX6_append_40 ?_
      refine g_aload_n C dX6_append_43 1 rfl ?_
      refine g_get C inX6 0 rfl rfl 0 (by decide) wF_X6_9 rfl dX6_append_44 ?_
      refine g_aload_n C dX6_append_47 1 rfl ?_
      refine g_get C inX6 0 rfl rfl 3 (by decide) wF_X6_22 rfl dX6_append_48 ?_
      refine g_iload_n C dX6_append_51 0 rfl ?_
      refine g_aload_n C dX6_append_52 1 rfl ?_
      refine g_get C inX6 0 rfl rfl 2 (by decide) wF_X6_19 rfl dX6_append_53 ?_
      refine g_icmp_lt (tgt := 68) C dX6_append_56 (by decide) (fun c_3 => ?_) (fun c_3 => ?_)
      · replace h := h.1 c_3
        refine g_iload_n C dX6_append_68 0 rfl ?_
        obtain ⟨hc_2, h⟩ := h
        refine g_iast C 1 rfl hc_2 dX6_append_69 (fun sums_1 esums_1 => gG.eqw (ws' := [oX6 h0 (.ref q_sums) function modulus filled_1 used, aI Y q_sums n_sums sums_1]) rfl ?_)
        replace h := h sums_1 esums_1
        exact g_vret C hR (Nat.le_of_ble_eq_true rfl) (Nat.le_of_ble_eq_true rfl) dX6_append_70 ⟨filled_1, sums_1, rfl, rfl, h⟩
      · replace h := h.2 c_3
        refine g_iload_n C dX6_append_59 0 rfl ?_
        refine g_aload_n C dX6_append_60 1 rfl ?_
        refine g_get C inX6 0 rfl rfl 2 (by decide) wF_X6_19 rfl dX6_append_61 ?_
        refine g_isub C dX6_append_64 ?_
        refine g_goto (tgt := 69) C dX6_append_65 (by decide) ?_
        refine g_topi (fun e_1 ee_1 => ?_)
        replace h := h e_1 ee_1
        obtain ⟨hc_3, h⟩ := h
        refine g_iast C 1 rfl hc_3 dX6_append_69 (fun sums_2 esums_2 => gG.eqw (ws' := [oX6 h0 (.ref q_sums) function modulus filled_1 used, aI Y q_sums n_sums sums_2]) rfl ?_)
        replace h := h sums_2 esums_2
        exact g_vret C hR (Nat.le_of_ble_eq_true rfl) (Nat.le_of_ble_eq_true rfl) dX6_append_70 ⟨filled_1, sums_2, rfl, rfl, h⟩
set_option maxHeartbeats 4000000 in
set_option maxRecDepth 100000 in
theorem mX6_append_at (l : Launch) (D : va_G) (Y : Nat → ClassId) (ra : Nat → Nat) (k : Nat) (hk : k < 4) (rs : Nat → Nat) (rf rm rl ru : Nat → Int32) (rn : Nat → Nat) (rv : Nat → Nat → Int32) (a1 : Int32) (Q : (Int32) → (Nat → Int32) → Prop) (h : wX6_append (rf k) (rm k) (rl k) (ru k) (rn k) (rv k) a1 Q) : gM l D Y yX6_append cX6_append 3 none 0 0 0 0 [.ref (ra k), .int a1] (rowsW Y ra rs rf rm rl ru rn rv) (fun v w => ∃ filled' : Int32, ∃ sums' : Nat → Int32, v = none ∧ w = rowsW Y ra rs rf rm (upd rl k filled') ru rn (va_up rv k sums') ∧ Q filled' sums') := by
  match k, hk with
  | 0, _ => exact gM_frame (mX6_append l D Y (ra 0) (rs 0) (rf 0) (rm 0) (rl 0) (ru 0) (rn 0) (rv 0) a1 Q h) [0, 1] [2, 3, 4, 5, 6, 7] rfl rfl rfl (fun v wc hv => by obtain ⟨filled', sums', rfl, rfl, hq⟩ := hv; exact ⟨rowsW Y ra rs rf rm (upd rl 0 filled') ru rn (va_up rv 0 sums'), [6, 7, 0, 1, 2, 3, 4, 5], rfl, rfl, filled', sums', rfl, rfl, hq⟩)
  | 1, _ => exact gM_frame (mX6_append l D Y (ra 1) (rs 1) (rf 1) (rm 1) (rl 1) (ru 1) (rn 1) (rv 1) a1 Q h) [2, 3] [0, 1, 4, 5, 6, 7] rfl rfl rfl (fun v wc hv => by obtain ⟨filled', sums', rfl, rfl, hq⟩ := hv; exact ⟨rowsW Y ra rs rf rm (upd rl 1 filled') ru rn (va_up rv 1 sums'), [0, 1, 6, 7, 2, 3, 4, 5], rfl, rfl, filled', sums', rfl, rfl, hq⟩)
  | 2, _ => exact gM_frame (mX6_append l D Y (ra 2) (rs 2) (rf 2) (rm 2) (rl 2) (ru 2) (rn 2) (rv 2) a1 Q h) [4, 5] [0, 1, 2, 3, 6, 7] rfl rfl rfl (fun v wc hv => by obtain ⟨filled', sums', rfl, rfl, hq⟩ := hv; exact ⟨rowsW Y ra rs rf rm (upd rl 2 filled') ru rn (va_up rv 2 sums'), [0, 1, 2, 3, 6, 7, 4, 5], rfl, rfl, filled', sums', rfl, rfl, hq⟩)
  | 3, _ => exact gM_frame (mX6_append l D Y (ra 3) (rs 3) (rf 3) (rm 3) (rl 3) (ru 3) (rn 3) (rv 3) a1 Q h) [6, 7] [0, 1, 2, 3, 4, 5] rfl rfl rfl (fun v wc hv => by obtain ⟨filled', sums', rfl, rfl, hq⟩ := hv; exact ⟨rowsW Y ra rs rf rm (upd rl 3 filled') ru rn (va_up rv 3 sums'), [0, 1, 2, 3, 4, 5, 6, 7], rfl, rfl, filled', sums', rfl, rfl, hq⟩)
  | k + 4, h4 => exact absurd h4 (by omega)
theorem dX6_appendProduct_0 : decode cX6_appendProduct 0 = .ok (.iload_n 1, 1) := by decide +kernel
theorem dX6_appendProduct_1 : decode cX6_appendProduct 1 = .ok (.iconst 1, 1) := by decide +kernel
theorem dX6_appendProduct_2 : decode cX6_appendProduct 2 = .ok (.if_icmp .lt 32, 3) := by decide +kernel
theorem dX6_appendProduct_5 : decode cX6_appendProduct 5 = .ok (.iload_n 1, 1) := by decide +kernel
theorem dX6_appendProduct_6 : decode cX6_appendProduct 6 = .ok (.aload_n 0, 1) := by decide +kernel
theorem dX6_appendProduct_7 : decode cX6_appendProduct 7 = .ok (.getfield 22, 3) := by decide +kernel
theorem dX6_appendProduct_10 : decode cX6_appendProduct 10 = .ok (.if_icmp .gt 24, 3) := by decide +kernel
theorem dX6_appendProduct_13 : decode cX6_appendProduct 13 = .ok (.iload_n 2, 1) := by decide +kernel
theorem dX6_appendProduct_14 : decode cX6_appendProduct 14 = .ok (.iconst 1, 1) := by decide +kernel
theorem dX6_appendProduct_15 : decode cX6_appendProduct 15 = .ok (.if_icmp .lt 19, 3) := by decide +kernel
theorem dX6_appendProduct_18 : decode cX6_appendProduct 18 = .ok (.iload_n 2, 1) := by decide +kernel
theorem dX6_appendProduct_19 : decode cX6_appendProduct 19 = .ok (.aload_n 0, 1) := by decide +kernel
theorem dX6_appendProduct_20 : decode cX6_appendProduct 20 = .ok (.getfield 22, 3) := by decide +kernel
theorem dX6_appendProduct_23 : decode cX6_appendProduct 23 = .ok (.if_icmp .gt 11, 3) := by decide +kernel
theorem dX6_appendProduct_26 : decode cX6_appendProduct 26 = .ok (.aload_n 0, 1) := by decide +kernel
theorem dX6_appendProduct_27 : decode cX6_appendProduct 27 = .ok (.getfield 19, 3) := by decide +kernel
theorem dX6_appendProduct_30 : decode cX6_appendProduct 30 = .ok (.iconst 2, 1) := by decide +kernel
theorem dX6_appendProduct_31 : decode cX6_appendProduct 31 = .ok (.if_icmp .ge 4, 3) := by decide +kernel
theorem dX6_appendProduct_34 : decode cX6_appendProduct 34 = .ok (.return_, 1) := by decide +kernel
theorem dX6_appendProduct_35 : decode cX6_appendProduct 35 = .ok (.aload_n 0, 1) := by decide +kernel
theorem dX6_appendProduct_36 : decode cX6_appendProduct 36 = .ok (.getfield 9, 3) := by decide +kernel
theorem dX6_appendProduct_39 : decode cX6_appendProduct 39 = .ok (.iload_n 1, 1) := by decide +kernel
theorem dX6_appendProduct_40 : decode cX6_appendProduct 40 = .ok (.iaload, 1) := by decide +kernel
theorem dX6_appendProduct_41 : decode cX6_appendProduct 41 = .ok (.aload_n 0, 1) := by decide +kernel
theorem dX6_appendProduct_42 : decode cX6_appendProduct 42 = .ok (.getfield 9, 3) := by decide +kernel
theorem dX6_appendProduct_45 : decode cX6_appendProduct 45 = .ok (.iload_n 1, 1) := by decide +kernel
theorem dX6_appendProduct_46 : decode cX6_appendProduct 46 = .ok (.iconst 1, 1) := by decide +kernel
theorem dX6_appendProduct_47 : decode cX6_appendProduct 47 = .ok (.isub, 1) := by decide +kernel
theorem dX6_appendProduct_48 : decode cX6_appendProduct 48 = .ok (.iaload, 1) := by decide +kernel
theorem dX6_appendProduct_49 : decode cX6_appendProduct 49 = .ok (.isub, 1) := by decide +kernel
theorem dX6_appendProduct_50 : decode cX6_appendProduct 50 = .ok (.istore_n 3, 1) := by decide +kernel
theorem dX6_appendProduct_51 : decode cX6_appendProduct 51 = .ok (.aload_n 0, 1) := by decide +kernel
theorem dX6_appendProduct_52 : decode cX6_appendProduct 52 = .ok (.getfield 9, 3) := by decide +kernel
theorem dX6_appendProduct_55 : decode cX6_appendProduct 55 = .ok (.iload_n 2, 1) := by decide +kernel
theorem dX6_appendProduct_56 : decode cX6_appendProduct 56 = .ok (.iaload, 1) := by decide +kernel
theorem dX6_appendProduct_57 : decode cX6_appendProduct 57 = .ok (.aload_n 0, 1) := by decide +kernel
theorem dX6_appendProduct_58 : decode cX6_appendProduct 58 = .ok (.getfield 9, 3) := by decide +kernel
theorem dX6_appendProduct_61 : decode cX6_appendProduct 61 = .ok (.iload_n 2, 1) := by decide +kernel
theorem dX6_appendProduct_62 : decode cX6_appendProduct 62 = .ok (.iconst 1, 1) := by decide +kernel
theorem dX6_appendProduct_63 : decode cX6_appendProduct 63 = .ok (.isub, 1) := by decide +kernel
theorem dX6_appendProduct_64 : decode cX6_appendProduct 64 = .ok (.iaload, 1) := by decide +kernel
theorem dX6_appendProduct_65 : decode cX6_appendProduct 65 = .ok (.isub, 1) := by decide +kernel
theorem dX6_appendProduct_66 : decode cX6_appendProduct 66 = .ok (.istore 4, 2) := by decide +kernel
theorem dX6_appendProduct_68 : decode cX6_appendProduct 68 = .ok (.iload_n 3, 1) := by decide +kernel
theorem dX6_appendProduct_69 : decode cX6_appendProduct 69 = .ok (.i2l, 1) := by decide +kernel
theorem dX6_appendProduct_70 : decode cX6_appendProduct 70 = .ok (.iload 4, 2) := by decide +kernel
theorem dX6_appendProduct_72 : decode cX6_appendProduct 72 = .ok (.i2l, 1) := by decide +kernel
theorem dX6_appendProduct_73 : decode cX6_appendProduct 73 = .ok (.lmul, 1) := by decide +kernel
theorem dX6_appendProduct_74 : decode cX6_appendProduct 74 = .ok (.aload_n 0, 1) := by decide +kernel
theorem dX6_appendProduct_75 : decode cX6_appendProduct 75 = .ok (.getfield 19, 3) := by decide +kernel
theorem dX6_appendProduct_78 : decode cX6_appendProduct 78 = .ok (.i2l, 1) := by decide +kernel
theorem dX6_appendProduct_79 : decode cX6_appendProduct 79 = .ok (.lrem, 1) := by decide +kernel
theorem dX6_appendProduct_80 : decode cX6_appendProduct 80 = .ok (.l2i, 1) := by decide +kernel
theorem dX6_appendProduct_81 : decode cX6_appendProduct 81 = .ok (.istore 5, 2) := by decide +kernel
theorem dX6_appendProduct_83 : decode cX6_appendProduct 83 = .ok (.aload_n 0, 1) := by decide +kernel
theorem dX6_appendProduct_84 : decode cX6_appendProduct 84 = .ok (.iload 5, 2) := by decide +kernel
theorem dX6_appendProduct_86 : decode cX6_appendProduct 86 = .ok (.ifCond .ge 13, 3) := by decide +kernel
theorem dX6_appendProduct_89 : decode cX6_appendProduct 89 = .ok (.iload 5, 2) := by decide +kernel
theorem dX6_appendProduct_91 : decode cX6_appendProduct 91 = .ok (.aload_n 0, 1) := by decide +kernel
theorem dX6_appendProduct_92 : decode cX6_appendProduct 92 = .ok (.getfield 19, 3) := by decide +kernel
theorem dX6_appendProduct_95 : decode cX6_appendProduct 95 = .ok (.iadd, 1) := by decide +kernel
theorem dX6_appendProduct_96 : decode cX6_appendProduct 96 = .ok (.goto 5, 3) := by decide +kernel
theorem dX6_appendProduct_99 : decode cX6_appendProduct 99 = .ok (.iload 5, 2) := by decide +kernel
theorem dX6_appendProduct_101 : decode cX6_appendProduct 101 = .ok (.invokevirtual 36, 3) := by decide +kernel
theorem dX6_appendProduct_104 : decode cX6_appendProduct 104 = .ok (.return_, 1) := by decide +kernel
/-- QuotientSums$Row.appendProduct(II)V -/
def wX6_appendProduct (function : Int32) (modulus : Int32) (filled : Int32) (used : Int32) (n_sums : Nat) (sums : Nat → Int32) (a1 : Int32) (a2 : Int32) (Q : (Int32) → (Nat → Int32) → Prop) : Prop :=
  ((a1 < 1 → (Q filled sums)) ∧ (¬ a1 < 1 → ((filled < a1 → (Q filled sums)) ∧ (¬ filled < a1 → ((a2 < 1 → (Q filled sums)) ∧ (¬ a2 < 1 → ((filled < a2 → (Q filled sums)) ∧ (¬ filled < a2 → ((2 ≤ modulus → (vp_in a1 n_sums ∧ vp_in (a1 - 1) n_sums ∧ ∀ x3_1 : Int32, x3_1 = (sums a1.toNatClampNeg) - (sums (a1 - 1).toNatClampNeg) → vp_in a2 n_sums ∧ vp_in (a2 - 1) n_sums ∧ ∀ x4_1 : Int32, x4_1 = (sums a2.toNatClampNeg) - (sums (a2 - 1).toNatClampNeg) → ¬ (modulus.toInt64) = 0 ∧ ∀ t_1 : Int64, t_1 = ((x3_1.toInt64) * (x4_1.toInt64)) - ((x3_1.toInt64) * (x4_1.toInt64)) / (modulus.toInt64) * (modulus.toInt64) → ∀ x5_1 : Int32, x5_1 = t_1.toInt32 → ((0 ≤ x5_1 → (∃ (P_1 : (Int32) → (Nat → Int32) → Prop), wX6_append function modulus filled used n_sums sums x5_1 P_1 ∧ ∀ (filled_1 : Int32) (sums_1 : Nat → Int32), P_1 filled_1 sums_1 → (Q filled_1 sums_1))) ∧ (¬ 0 ≤ x5_1 → (∃ (P_2 : (Int32) → (Nat → Int32) → Prop), wX6_append function modulus filled used n_sums sums (x5_1 + modulus) P_2 ∧ ∀ (filled_2 : Int32) (sums_2 : Nat → Int32), P_2 filled_2 sums_2 → (Q filled_2 sums_2)))))) ∧ (¬ 2 ≤ modulus → (Q filled sums)))))))))))
set_option maxHeartbeats 4000000 in
set_option maxRecDepth 100000 in
theorem mX6_appendProduct (l : Launch) (D : va_G) (Y : Nat → ClassId) (h0 : Nat) (q_sums : Nat) (function : Int32) (modulus : Int32) (filled : Int32) (used : Int32) (n_sums : Nat) (sums : Nat → Int32) (a1 : Int32) (a2 : Int32) (Q : (Int32) → (Nat → Int32) → Prop) (h : wX6_appendProduct function modulus filled used n_sums sums a1 a2 Q) : gM l D Y yX6_appendProduct cX6_appendProduct 6 none 1 22 0 0 [.ref h0, .int a1, .int a2] [oX6 h0 (.ref q_sums) function modulus filled used, aI Y q_sums n_sums sums] (fun v w => ∃ filled' : Int32, ∃ sums' : Nat → Int32, v = none ∧ w = [oX6 h0 (.ref q_sums) function modulus filled' used, aI Y q_sums n_sums sums'] ∧ Q filled' sums') := by
  refine gM_of (own := RX6) (by decide +kernel) rfl (Nat.le_of_ble_eq_true rfl) rfl (fun E C hR => ?_)
  unfold wX6_appendProduct at h
  refine g_iload_n C dX6_appendProduct_0 1 rfl ?_
  refine g_iconst (v := 1) C dX6_appendProduct_1 rfl ?_
  refine g_icmp_lt (tgt := 34) C dX6_appendProduct_2 (by decide) (fun c_1 => ?_) (fun c_1 => ?_)
  · replace h := h.1 c_1
    exact g_vret C hR (Nat.le_of_ble_eq_true rfl) (Nat.le_of_ble_eq_true rfl) dX6_appendProduct_34 ⟨filled, sums, rfl, rfl, h⟩
  · replace h := h.2 c_1
    refine g_iload_n C dX6_appendProduct_5 1 rfl ?_
    refine g_aload_n C dX6_appendProduct_6 0 rfl ?_
    refine g_get C inX6 0 rfl rfl 3 (by decide) wF_X6_22 rfl dX6_appendProduct_7 ?_
    refine g_icmp_gt (tgt := 34) C dX6_appendProduct_10 (by decide) (fun c_2 => ?_) (fun c_2 => ?_)
    · replace h := h.1 c_2
      exact g_vret C hR (Nat.le_of_ble_eq_true rfl) (Nat.le_of_ble_eq_true rfl) dX6_appendProduct_34 ⟨filled, sums, rfl, rfl, h⟩
    · replace h := h.2 c_2
      refine g_iload_n C dX6_appendProduct_13 2 rfl ?_
      refine g_iconst (v := 1) C dX6_appendProduct_14 rfl ?_
      refine g_icmp_lt (tgt := 34) C dX6_appendProduct_15 (by decide) (fun c_3 => ?_) (fun c_3 => ?_)
      · replace h := h.1 c_3
        exact g_vret C hR (Nat.le_of_ble_eq_true rfl) (Nat.le_of_ble_eq_true rfl) dX6_appendProduct_34 ⟨filled, sums, rfl, rfl, h⟩
      · replace h := h.2 c_3
        refine g_iload_n C dX6_appendProduct_18 2 rfl ?_
        refine g_aload_n C dX6_appendProduct_19 0 rfl ?_
        refine g_get C inX6 0 rfl rfl 3 (by decide) wF_X6_22 rfl dX6_appendProduct_20 ?_
        refine g_icmp_gt (tgt := 34) C dX6_appendProduct_23 (by decide) (fun c_4 => ?_) (fun c_4 => ?_)
        · replace h := h.1 c_4
          exact g_vret C hR (Nat.le_of_ble_eq_true rfl) (Nat.le_of_ble_eq_true rfl) dX6_appendProduct_34 ⟨filled, sums, rfl, rfl, h⟩
        · replace h := h.2 c_4
          refine g_aload_n C dX6_appendProduct_26 0 rfl ?_
          refine g_get C inX6 0 rfl rfl 2 (by decide) wF_X6_19 rfl dX6_appendProduct_27 ?_
          refine g_iconst (v := 2) C dX6_appendProduct_30 rfl ?_
          refine g_icmp_ge (tgt := 35) C dX6_appendProduct_31 (by decide) (fun c_5 => ?_) (fun c_5 => ?_)
          · replace h := h.1 c_5
            refine g_aload_n C dX6_appendProduct_35 0 rfl ?_
            refine g_get C inX6 0 rfl rfl 0 (by decide) wF_X6_9 rfl dX6_appendProduct_36 ?_
            refine g_iload_n C dX6_appendProduct_39 1 rfl ?_
            obtain ⟨hc_1, h⟩ := h
            refine g_iald C 1 rfl hc_1 dX6_appendProduct_40 ?_
            refine g_aload_n C dX6_appendProduct_41 0 rfl ?_
            refine g_get C inX6 0 rfl rfl 0 (by decide) wF_X6_9 rfl dX6_appendProduct_42 ?_
            refine g_iload_n C dX6_appendProduct_45 1 rfl ?_
            refine g_iconst (v := 1) C dX6_appendProduct_46 rfl ?_
            refine g_isub C dX6_appendProduct_47 ?_
            obtain ⟨hc_2, h⟩ := h
            refine g_iald C 1 rfl hc_2 dX6_appendProduct_48 ?_
            refine g_isub C dX6_appendProduct_49 ?_
            refine g_topi (fun x3_1 ex3_1 => ?_)
            replace h := h x3_1 ex3_1
            refine g_istore_n (lv' := [(3, .int x3_1), (0, .ref h0), (1, .int a1), (2, .int a2)]) C dX6_appendProduct_50 (by decide) rfl ?_
            refine g_aload_n C dX6_appendProduct_51 1 rfl ?_
            refine g_get C inX6 0 rfl rfl 0 (by decide) wF_X6_9 rfl dX6_appendProduct_52 ?_
            refine g_iload_n C dX6_appendProduct_55 3 rfl ?_
            obtain ⟨hc_3, h⟩ := h
            refine g_iald C 1 rfl hc_3 dX6_appendProduct_56 ?_
            refine g_aload_n C dX6_appendProduct_57 1 rfl ?_
            refine g_get C inX6 0 rfl rfl 0 (by decide) wF_X6_9 rfl dX6_appendProduct_58 ?_
            refine g_iload_n C dX6_appendProduct_61 3 rfl ?_
            refine g_iconst (v := 1) C dX6_appendProduct_62 rfl ?_
            refine g_isub C dX6_appendProduct_63 ?_
            obtain ⟨hc_4, h⟩ := h
            refine g_iald C 1 rfl hc_4 dX6_appendProduct_64 ?_
            refine g_isub C dX6_appendProduct_65 ?_
            refine g_topi (fun x4_1 ex4_1 => ?_)
            replace h := h x4_1 ex4_1
            refine g_istore (lv' := [(4, .int x4_1), (3, .int x3_1), (0, .ref h0), (1, .int a1), (2, .int a2)]) C dX6_appendProduct_66 (by decide) rfl ?_
            refine g_iload_n C dX6_appendProduct_68 1 rfl ?_
            refine g_i2l C dX6_appendProduct_69 ?_
            refine g_iload C dX6_appendProduct_70 0 rfl ?_
            refine g_i2l C dX6_appendProduct_72 ?_
            refine g_lmul C dX6_appendProduct_73 ?_
            refine g_aload_n C dX6_appendProduct_74 2 rfl ?_
            refine g_get C inX6 0 rfl rfl 2 (by decide) wF_X6_19 rfl dX6_appendProduct_75 ?_
            refine g_i2l C dX6_appendProduct_78 ?_
            obtain ⟨hc_5, h⟩ := h
            refine g_lrem C dX6_appendProduct_79 hc_5 ?_
            refine g_topl (fun t_1 et_1 => ?_)
            replace h := h t_1 et_1
            refine g_l2i C dX6_appendProduct_80 ?_
            refine g_topi (fun x5_1 ex5_1 => ?_)
            replace h := h x5_1 ex5_1
            refine g_istore (lv' := [(5, .int x5_1), (4, .int x4_1), (3, .int x3_1), (0, .ref h0), (1, .int a1), (2, .int a2)]) C dX6_appendProduct_81 (by decide) rfl ?_
            refine g_aload_n C dX6_appendProduct_83 3 rfl ?_
            refine g_iload C dX6_appendProduct_84 0 rfl ?_
            refine g_if_ge (tgt := 99) C dX6_appendProduct_86 (by decide) (fun c_6 => ?_) (fun c_6 => ?_)
            · replace h := h.1 c_6
              refine g_iload C dX6_appendProduct_99 0 rfl ?_
              obtain ⟨P_1, hP, h⟩ := h
              refine g_callV (As := [.int x5_1]) (rest := []) C (mX6_append l D Y h0 q_sums function modulus filled used n_sums sums x5_1 P_1 hP) dX6_appendProduct_101 rfl wM_X6_36 wI_X6_append wV_X6_append wN_X6 wC_X6_append (n := 1) (by decide +kernel) rfl (q0 := 0) rfl rfl ⟨Nat.le_of_ble_eq_true rfl, Nat.le_of_ble_eq_true rfl⟩ ⟨Nat.le_of_ble_eq_true rfl, Nat.le_of_ble_eq_true rfl⟩ (Nat.le_of_ble_eq_true rfl) [0, 1] [] rfl rfl rfl (fun v wc hv => ?_)
              obtain ⟨filled_1, sums_1, rfl, rfl, hq⟩ := hv
              replace h := h filled_1 sums_1 hq
              refine gG.eqw (ws' := [oX6 h0 (.ref q_sums) function modulus filled_1 used, aI Y q_sums n_sums sums_1]) rfl ?_
              exact g_vret C hR (Nat.le_of_ble_eq_true rfl) (Nat.le_of_ble_eq_true rfl) dX6_appendProduct_104 ⟨filled_1, sums_1, rfl, rfl, h⟩
            · replace h := h.2 c_6
              refine g_iload C dX6_appendProduct_89 0 rfl ?_
              refine g_aload_n C dX6_appendProduct_91 3 rfl ?_
              refine g_get C inX6 0 rfl rfl 2 (by decide) wF_X6_19 rfl dX6_appendProduct_92 ?_
              refine g_iadd C dX6_appendProduct_95 ?_
              refine g_goto (tgt := 101) C dX6_appendProduct_96 (by decide) ?_
              obtain ⟨P_2, hP, h⟩ := h
              refine g_callV (As := [.int (x5_1 + modulus)]) (rest := []) C (mX6_append l D Y h0 q_sums function modulus filled used n_sums sums (x5_1 + modulus) P_2 hP) dX6_appendProduct_101 rfl wM_X6_36 wI_X6_append wV_X6_append wN_X6 wC_X6_append (n := 1) (by decide +kernel) rfl (q0 := 0) rfl rfl ⟨Nat.le_of_ble_eq_true rfl, Nat.le_of_ble_eq_true rfl⟩ ⟨Nat.le_of_ble_eq_true rfl, Nat.le_of_ble_eq_true rfl⟩ (Nat.le_of_ble_eq_true rfl) [0, 1] [] rfl rfl rfl (fun v wc hv => ?_)
              obtain ⟨filled_2, sums_2, rfl, rfl, hq⟩ := hv
              replace h := h filled_2 sums_2 hq
              refine gG.eqw (ws' := [oX6 h0 (.ref q_sums) function modulus filled_2 used, aI Y q_sums n_sums sums_2]) rfl ?_
              exact g_vret C hR (Nat.le_of_ble_eq_true rfl) (Nat.le_of_ble_eq_true rfl) dX6_appendProduct_104 ⟨filled_2, sums_2, rfl, rfl, h⟩
          · replace h := h.2 c_5
            exact g_vret C hR (Nat.le_of_ble_eq_true rfl) (Nat.le_of_ble_eq_true rfl) dX6_appendProduct_34 ⟨filled, sums, rfl, rfl, h⟩
set_option maxHeartbeats 4000000 in
set_option maxRecDepth 100000 in
theorem mX6_appendProduct_at (l : Launch) (D : va_G) (Y : Nat → ClassId) (ra : Nat → Nat) (k : Nat) (hk : k < 4) (rs : Nat → Nat) (rf rm rl ru : Nat → Int32) (rn : Nat → Nat) (rv : Nat → Nat → Int32) (a1 : Int32) (a2 : Int32) (Q : (Int32) → (Nat → Int32) → Prop) (h : wX6_appendProduct (rf k) (rm k) (rl k) (ru k) (rn k) (rv k) a1 a2 Q) : gM l D Y yX6_appendProduct cX6_appendProduct 6 none 1 22 0 0 [.ref (ra k), .int a1, .int a2] (rowsW Y ra rs rf rm rl ru rn rv) (fun v w => ∃ filled' : Int32, ∃ sums' : Nat → Int32, v = none ∧ w = rowsW Y ra rs rf rm (upd rl k filled') ru rn (va_up rv k sums') ∧ Q filled' sums') := by
  match k, hk with
  | 0, _ => exact gM_frame (mX6_appendProduct l D Y (ra 0) (rs 0) (rf 0) (rm 0) (rl 0) (ru 0) (rn 0) (rv 0) a1 a2 Q h) [0, 1] [2, 3, 4, 5, 6, 7] rfl rfl rfl (fun v wc hv => by obtain ⟨filled', sums', rfl, rfl, hq⟩ := hv; exact ⟨rowsW Y ra rs rf rm (upd rl 0 filled') ru rn (va_up rv 0 sums'), [6, 7, 0, 1, 2, 3, 4, 5], rfl, rfl, filled', sums', rfl, rfl, hq⟩)
  | 1, _ => exact gM_frame (mX6_appendProduct l D Y (ra 1) (rs 1) (rf 1) (rm 1) (rl 1) (ru 1) (rn 1) (rv 1) a1 a2 Q h) [2, 3] [0, 1, 4, 5, 6, 7] rfl rfl rfl (fun v wc hv => by obtain ⟨filled', sums', rfl, rfl, hq⟩ := hv; exact ⟨rowsW Y ra rs rf rm (upd rl 1 filled') ru rn (va_up rv 1 sums'), [0, 1, 6, 7, 2, 3, 4, 5], rfl, rfl, filled', sums', rfl, rfl, hq⟩)
  | 2, _ => exact gM_frame (mX6_appendProduct l D Y (ra 2) (rs 2) (rf 2) (rm 2) (rl 2) (ru 2) (rn 2) (rv 2) a1 a2 Q h) [4, 5] [0, 1, 2, 3, 6, 7] rfl rfl rfl (fun v wc hv => by obtain ⟨filled', sums', rfl, rfl, hq⟩ := hv; exact ⟨rowsW Y ra rs rf rm (upd rl 2 filled') ru rn (va_up rv 2 sums'), [0, 1, 2, 3, 6, 7, 4, 5], rfl, rfl, filled', sums', rfl, rfl, hq⟩)
  | 3, _ => exact gM_frame (mX6_appendProduct l D Y (ra 3) (rs 3) (rf 3) (rm 3) (rl 3) (ru 3) (rn 3) (rv 3) a1 a2 Q h) [6, 7] [0, 1, 2, 3, 4, 5] rfl rfl rfl (fun v wc hv => by obtain ⟨filled', sums', rfl, rfl, hq⟩ := hv; exact ⟨rowsW Y ra rs rf rm (upd rl 3 filled') ru rn (va_up rv 3 sums'), [0, 1, 2, 3, 4, 5, 6, 7], rfl, rfl, filled', sums', rfl, rfl, hq⟩)
  | k + 4, h4 => exact absurd h4 (by omega)
theorem dX6_sumTo_0 : decode cX6_sumTo 0 = .ok (.iload_n 1, 1) := by decide +kernel
theorem dX6_sumTo_1 : decode cX6_sumTo 1 = .ok (.ifCond .lt 20, 3) := by decide +kernel
theorem dX6_sumTo_4 : decode cX6_sumTo 4 = .ok (.iload_n 1, 1) := by decide +kernel
theorem dX6_sumTo_5 : decode cX6_sumTo 5 = .ok (.aload_n 0, 1) := by decide +kernel
theorem dX6_sumTo_6 : decode cX6_sumTo 6 = .ok (.getfield 22, 3) := by decide +kernel
theorem dX6_sumTo_9 : decode cX6_sumTo 9 = .ok (.if_icmp .gt 12, 3) := by decide +kernel
theorem dX6_sumTo_12 : decode cX6_sumTo 12 = .ok (.aload_n 0, 1) := by decide +kernel
theorem dX6_sumTo_13 : decode cX6_sumTo 13 = .ok (.getfield 9, 3) := by decide +kernel
theorem dX6_sumTo_16 : decode cX6_sumTo 16 = .ok (.iload_n 1, 1) := by decide +kernel
theorem dX6_sumTo_17 : decode cX6_sumTo 17 = .ok (.iaload, 1) := by decide +kernel
theorem dX6_sumTo_18 : decode cX6_sumTo 18 = .ok (.goto 4, 3) := by decide +kernel
theorem dX6_sumTo_21 : decode cX6_sumTo 21 = .ok (.iconst 0, 1) := by decide +kernel
theorem dX6_sumTo_22 : decode cX6_sumTo 22 = .ok (.ireturn, 1) := by decide +kernel
/-- QuotientSums$Row.sumTo(I)I -/
def wX6_sumTo (function : Int32) (modulus : Int32) (filled : Int32) (used : Int32) (n_sums : Nat) (sums : Nat → Int32) (a1 : Int32) (Q : (Int32) → Prop) : Prop :=
  ((a1 < 0 → (Q 0)) ∧ (¬ a1 < 0 → ((filled < a1 → (Q 0)) ∧ (¬ filled < a1 → (vp_in a1 n_sums ∧ (Q (sums a1.toNatClampNeg)))))))
set_option maxHeartbeats 4000000 in
set_option maxRecDepth 100000 in
theorem mX6_sumTo (l : Launch) (D : va_G) (Y : Nat → ClassId) (h0 : Nat) (q_sums : Nat) (function : Int32) (modulus : Int32) (filled : Int32) (used : Int32) (n_sums : Nat) (sums : Nat → Int32) (a1 : Int32) (Q : (Int32) → Prop) (h : wX6_sumTo function modulus filled used n_sums sums a1 Q) : gM l D Y yX6_sumTo cX6_sumTo 2 (some .int) 0 0 0 0 [.ref h0, .int a1] [oX6 h0 (.ref q_sums) function modulus filled used, aI Y q_sums n_sums sums] (fun v w => ∃ r : Int32, v = some (.int r) ∧ w = [oX6 h0 (.ref q_sums) function modulus filled used, aI Y q_sums n_sums sums] ∧ Q r) := by
  refine gM_of (own := RX6) (by decide +kernel) rfl (Nat.le_of_ble_eq_true rfl) rfl (fun E C hR => ?_)
  unfold wX6_sumTo at h
  refine g_iload_n C dX6_sumTo_0 1 rfl ?_
  refine g_if_lt (tgt := 21) C dX6_sumTo_1 (by decide) (fun c_1 => ?_) (fun c_1 => ?_)
  · replace h := h.1 c_1
    refine g_iconst (v := 0) C dX6_sumTo_21 rfl ?_
    exact g_iret C hR (Nat.le_of_ble_eq_true rfl) (Nat.le_of_ble_eq_true rfl) dX6_sumTo_22 ⟨0, rfl, rfl, h⟩
  · replace h := h.2 c_1
    refine g_iload_n C dX6_sumTo_4 1 rfl ?_
    refine g_aload_n C dX6_sumTo_5 0 rfl ?_
    refine g_get C inX6 0 rfl rfl 3 (by decide) wF_X6_22 rfl dX6_sumTo_6 ?_
    refine g_icmp_gt (tgt := 21) C dX6_sumTo_9 (by decide) (fun c_2 => ?_) (fun c_2 => ?_)
    · replace h := h.1 c_2
      refine g_iconst (v := 0) C dX6_sumTo_21 rfl ?_
      exact g_iret C hR (Nat.le_of_ble_eq_true rfl) (Nat.le_of_ble_eq_true rfl) dX6_sumTo_22 ⟨0, rfl, rfl, h⟩
    · replace h := h.2 c_2
      refine g_aload_n C dX6_sumTo_12 0 rfl ?_
      refine g_get C inX6 0 rfl rfl 0 (by decide) wF_X6_9 rfl dX6_sumTo_13 ?_
      refine g_iload_n C dX6_sumTo_16 1 rfl ?_
      obtain ⟨hc_1, h⟩ := h
      refine g_iald C 1 rfl hc_1 dX6_sumTo_17 ?_
      refine g_goto (tgt := 22) C dX6_sumTo_18 (by decide) ?_
      exact g_iret C hR (Nat.le_of_ble_eq_true rfl) (Nat.le_of_ble_eq_true rfl) dX6_sumTo_22 ⟨sums a1.toNatClampNeg, rfl, rfl, h⟩
set_option maxHeartbeats 4000000 in
set_option maxRecDepth 100000 in
theorem mX6_sumTo_at (l : Launch) (D : va_G) (Y : Nat → ClassId) (ra : Nat → Nat) (k : Nat) (hk : k < 4) (rs : Nat → Nat) (rf rm rl ru : Nat → Int32) (rn : Nat → Nat) (rv : Nat → Nat → Int32) (a1 : Int32) (Q : (Int32) → Prop) (h : wX6_sumTo (rf k) (rm k) (rl k) (ru k) (rn k) (rv k) a1 Q) : gM l D Y yX6_sumTo cX6_sumTo 2 (some .int) 0 0 0 0 [.ref (ra k), .int a1] (rowsW Y ra rs rf rm rl ru rn rv) (fun v w => ∃ r : Int32, v = some (.int r) ∧ w = rowsW Y ra rs rf rm rl ru rn rv ∧ Q r) := by
  match k, hk with
  | 0, _ => exact gM_frame (mX6_sumTo l D Y (ra 0) (rs 0) (rf 0) (rm 0) (rl 0) (ru 0) (rn 0) (rv 0) a1 Q h) [0, 1] [2, 3, 4, 5, 6, 7] rfl rfl rfl (fun v wc hv => by obtain ⟨r, rfl, rfl, hq⟩ := hv; exact ⟨rowsW Y ra rs rf rm rl ru rn rv, [6, 7, 0, 1, 2, 3, 4, 5], rfl, rfl, r, rfl, rfl, hq⟩)
  | 1, _ => exact gM_frame (mX6_sumTo l D Y (ra 1) (rs 1) (rf 1) (rm 1) (rl 1) (ru 1) (rn 1) (rv 1) a1 Q h) [2, 3] [0, 1, 4, 5, 6, 7] rfl rfl rfl (fun v wc hv => by obtain ⟨r, rfl, rfl, hq⟩ := hv; exact ⟨rowsW Y ra rs rf rm rl ru rn rv, [0, 1, 6, 7, 2, 3, 4, 5], rfl, rfl, r, rfl, rfl, hq⟩)
  | 2, _ => exact gM_frame (mX6_sumTo l D Y (ra 2) (rs 2) (rf 2) (rm 2) (rl 2) (ru 2) (rn 2) (rv 2) a1 Q h) [4, 5] [0, 1, 2, 3, 6, 7] rfl rfl rfl (fun v wc hv => by obtain ⟨r, rfl, rfl, hq⟩ := hv; exact ⟨rowsW Y ra rs rf rm rl ru rn rv, [0, 1, 2, 3, 6, 7, 4, 5], rfl, rfl, r, rfl, rfl, hq⟩)
  | 3, _ => exact gM_frame (mX6_sumTo l D Y (ra 3) (rs 3) (rf 3) (rm 3) (rl 3) (ru 3) (rn 3) (rv 3) a1 Q h) [6, 7] [0, 1, 2, 3, 4, 5] rfl rfl rfl (fun v wc hv => by obtain ⟨r, rfl, rfl, hq⟩ := hv; exact ⟨rowsW Y ra rs rf rm rl ru rn rv, [0, 1, 2, 3, 4, 5, 6, 7], rfl, rfl, r, rfl, rfl, hq⟩)
  | k + 4, h4 => exact absurd h4 (by omega)
theorem dX6_stretch_0 : decode cX6_stretch 0 = .ok (.aload_n 0, 1) := by decide +kernel
theorem dX6_stretch_1 : decode cX6_stretch 1 = .ok (.iload_n 2, 1) := by decide +kernel
theorem dX6_stretch_2 : decode cX6_stretch 2 = .ok (.invokevirtual 40, 3) := by decide +kernel
theorem dX6_stretch_5 : decode cX6_stretch 5 = .ok (.aload_n 0, 1) := by decide +kernel
theorem dX6_stretch_6 : decode cX6_stretch 6 = .ok (.iload_n 1, 1) := by decide +kernel
theorem dX6_stretch_7 : decode cX6_stretch 7 = .ok (.iconst 1, 1) := by decide +kernel
theorem dX6_stretch_8 : decode cX6_stretch 8 = .ok (.isub, 1) := by decide +kernel
theorem dX6_stretch_9 : decode cX6_stretch 9 = .ok (.invokevirtual 40, 3) := by decide +kernel
theorem dX6_stretch_12 : decode cX6_stretch 12 = .ok (.isub, 1) := by decide +kernel
theorem dX6_stretch_13 : decode cX6_stretch 13 = .ok (.istore_n 3, 1) := by decide +kernel
theorem dX6_stretch_14 : decode cX6_stretch 14 = .ok (.iload_n 3, 1) := by decide +kernel
theorem dX6_stretch_15 : decode cX6_stretch 15 = .ok (.ifCond .ge 12, 3) := by decide +kernel
theorem dX6_stretch_18 : decode cX6_stretch 18 = .ok (.iload_n 3, 1) := by decide +kernel
theorem dX6_stretch_19 : decode cX6_stretch 19 = .ok (.aload_n 0, 1) := by decide +kernel
theorem dX6_stretch_20 : decode cX6_stretch 20 = .ok (.getfield 19, 3) := by decide +kernel
theorem dX6_stretch_23 : decode cX6_stretch 23 = .ok (.iadd, 1) := by decide +kernel
theorem dX6_stretch_24 : decode cX6_stretch 24 = .ok (.goto 4, 3) := by decide +kernel
theorem dX6_stretch_27 : decode cX6_stretch 27 = .ok (.iload_n 3, 1) := by decide +kernel
theorem dX6_stretch_28 : decode cX6_stretch 28 = .ok (.ireturn, 1) := by decide +kernel
/-- QuotientSums$Row.stretch(II)I -/
def wX6_stretch (function : Int32) (modulus : Int32) (filled : Int32) (used : Int32) (n_sums : Nat) (sums : Nat → Int32) (a1 : Int32) (a2 : Int32) (Q : (Int32) → Prop) : Prop :=
  (∃ (P_1 : (Int32) → Prop), wX6_sumTo function modulus filled used n_sums sums a2 P_1 ∧ ∀ (rF_1 : Int32), P_1 rF_1 → ∃ (P_2 : (Int32) → Prop), wX6_sumTo function modulus filled used n_sums sums (a1 - 1) P_2 ∧ ∀ (rF_2 : Int32), P_2 rF_2 → ∀ x3_1 : Int32, x3_1 = rF_1 - rF_2 → ((0 ≤ x3_1 → (Q x3_1)) ∧ (¬ 0 ≤ x3_1 → (Q (x3_1 + modulus)))))
set_option maxHeartbeats 4000000 in
set_option maxRecDepth 100000 in
theorem mX6_stretch (l : Launch) (D : va_G) (Y : Nat → ClassId) (h0 : Nat) (q_sums : Nat) (function : Int32) (modulus : Int32) (filled : Int32) (used : Int32) (n_sums : Nat) (sums : Nat → Int32) (a1 : Int32) (a2 : Int32) (Q : (Int32) → Prop) (h : wX6_stretch function modulus filled used n_sums sums a1 a2 Q) : gM l D Y yX6_stretch cX6_stretch 4 (some .int) 1 21 0 0 [.ref h0, .int a1, .int a2] [oX6 h0 (.ref q_sums) function modulus filled used, aI Y q_sums n_sums sums] (fun v w => ∃ r : Int32, v = some (.int r) ∧ w = [oX6 h0 (.ref q_sums) function modulus filled used, aI Y q_sums n_sums sums] ∧ Q r) := by
  refine gM_of (own := RX6) (by decide +kernel) rfl (Nat.le_of_ble_eq_true rfl) rfl (fun E C hR => ?_)
  unfold wX6_stretch at h
  refine g_aload_n C dX6_stretch_0 0 rfl ?_
  refine g_iload_n C dX6_stretch_1 2 rfl ?_
  obtain ⟨P_1, hP, h⟩ := h
  refine g_callV (As := [.int a2]) (rest := []) C (mX6_sumTo l D Y h0 q_sums function modulus filled used n_sums sums a2 P_1 hP) dX6_stretch_2 rfl wM_X6_40 wI_X6_sumTo wV_X6_sumTo wN_X6 wC_X6_sumTo (n := 1) (by decide +kernel) rfl (q0 := 0) rfl rfl ⟨Nat.le_of_ble_eq_true rfl, Nat.le_of_ble_eq_true rfl⟩ ⟨Nat.le_of_ble_eq_true rfl, Nat.le_of_ble_eq_true rfl⟩ (Nat.le_of_ble_eq_true rfl) [0, 1] [] rfl rfl rfl (fun v wc hv => ?_)
  obtain ⟨rF_1, rfl, rfl, hq⟩ := hv
  replace h := h rF_1 hq
  refine gG.eqw (ws' := [oX6 h0 (.ref q_sums) function modulus filled used, aI Y q_sums n_sums sums]) rfl ?_
  refine g_aload_n C dX6_stretch_5 0 rfl ?_
  refine g_iload_n C dX6_stretch_6 1 rfl ?_
  refine g_iconst (v := 1) C dX6_stretch_7 rfl ?_
  refine g_isub C dX6_stretch_8 ?_
  obtain ⟨P_2, hP, h⟩ := h
  refine g_callV (As := [.int (a1 - 1)]) (rest := [.int rF_1]) C (mX6_sumTo l D Y h0 q_sums function modulus filled used n_sums sums (a1 - 1) P_2 hP) dX6_stretch_9 rfl wM_X6_40 wI_X6_sumTo wV_X6_sumTo wN_X6 wC_X6_sumTo (n := 1) (by decide +kernel) rfl (q0 := 0) rfl rfl ⟨Nat.le_of_ble_eq_true rfl, Nat.le_of_ble_eq_true rfl⟩ ⟨Nat.le_of_ble_eq_true rfl, Nat.le_of_ble_eq_true rfl⟩ (Nat.le_of_ble_eq_true rfl) [0, 1] [] rfl rfl rfl (fun v wc hv => ?_)
  obtain ⟨rF_2, rfl, rfl, hq⟩ := hv
  replace h := h rF_2 hq
  refine gG.eqw (ws' := [oX6 h0 (.ref q_sums) function modulus filled used, aI Y q_sums n_sums sums]) rfl ?_
  refine g_isub C dX6_stretch_12 ?_
  refine g_topi (fun x3_1 ex3_1 => ?_)
  replace h := h x3_1 ex3_1
  refine g_istore_n (lv' := [(3, .int x3_1), (0, .ref h0), (1, .int a1), (2, .int a2)]) C dX6_stretch_13 (by decide) rfl ?_
  refine g_iload_n C dX6_stretch_14 0 rfl ?_
  refine g_if_ge (tgt := 27) C dX6_stretch_15 (by decide) (fun c_1 => ?_) (fun c_1 => ?_)
  · replace h := h.1 c_1
    refine g_iload_n C dX6_stretch_27 0 rfl ?_
    exact g_iret C hR (Nat.le_of_ble_eq_true rfl) (Nat.le_of_ble_eq_true rfl) dX6_stretch_28 ⟨x3_1, rfl, rfl, h⟩
  · replace h := h.2 c_1
    refine g_iload_n C dX6_stretch_18 0 rfl ?_
    refine g_aload_n C dX6_stretch_19 1 rfl ?_
    refine g_get C inX6 0 rfl rfl 2 (by decide) wF_X6_19 rfl dX6_stretch_20 ?_
    refine g_iadd C dX6_stretch_23 ?_
    refine g_goto (tgt := 28) C dX6_stretch_24 (by decide) ?_
    exact g_iret C hR (Nat.le_of_ble_eq_true rfl) (Nat.le_of_ble_eq_true rfl) dX6_stretch_28 ⟨x3_1 + modulus, rfl, rfl, h⟩
set_option maxHeartbeats 4000000 in
set_option maxRecDepth 100000 in
theorem mX6_stretch_at (l : Launch) (D : va_G) (Y : Nat → ClassId) (ra : Nat → Nat) (k : Nat) (hk : k < 4) (rs : Nat → Nat) (rf rm rl ru : Nat → Int32) (rn : Nat → Nat) (rv : Nat → Nat → Int32) (a1 : Int32) (a2 : Int32) (Q : (Int32) → Prop) (h : wX6_stretch (rf k) (rm k) (rl k) (ru k) (rn k) (rv k) a1 a2 Q) : gM l D Y yX6_stretch cX6_stretch 4 (some .int) 1 21 0 0 [.ref (ra k), .int a1, .int a2] (rowsW Y ra rs rf rm rl ru rn rv) (fun v w => ∃ r : Int32, v = some (.int r) ∧ w = rowsW Y ra rs rf rm rl ru rn rv ∧ Q r) := by
  match k, hk with
  | 0, _ => exact gM_frame (mX6_stretch l D Y (ra 0) (rs 0) (rf 0) (rm 0) (rl 0) (ru 0) (rn 0) (rv 0) a1 a2 Q h) [0, 1] [2, 3, 4, 5, 6, 7] rfl rfl rfl (fun v wc hv => by obtain ⟨r, rfl, rfl, hq⟩ := hv; exact ⟨rowsW Y ra rs rf rm rl ru rn rv, [6, 7, 0, 1, 2, 3, 4, 5], rfl, rfl, r, rfl, rfl, hq⟩)
  | 1, _ => exact gM_frame (mX6_stretch l D Y (ra 1) (rs 1) (rf 1) (rm 1) (rl 1) (ru 1) (rn 1) (rv 1) a1 a2 Q h) [2, 3] [0, 1, 4, 5, 6, 7] rfl rfl rfl (fun v wc hv => by obtain ⟨r, rfl, rfl, hq⟩ := hv; exact ⟨rowsW Y ra rs rf rm rl ru rn rv, [0, 1, 6, 7, 2, 3, 4, 5], rfl, rfl, r, rfl, rfl, hq⟩)
  | 2, _ => exact gM_frame (mX6_stretch l D Y (ra 2) (rs 2) (rf 2) (rm 2) (rl 2) (ru 2) (rn 2) (rv 2) a1 a2 Q h) [4, 5] [0, 1, 2, 3, 6, 7] rfl rfl rfl (fun v wc hv => by obtain ⟨r, rfl, rfl, hq⟩ := hv; exact ⟨rowsW Y ra rs rf rm rl ru rn rv, [0, 1, 2, 3, 6, 7, 4, 5], rfl, rfl, r, rfl, rfl, hq⟩)
  | 3, _ => exact gM_frame (mX6_stretch l D Y (ra 3) (rs 3) (rf 3) (rm 3) (rl 3) (ru 3) (rn 3) (rv 3) a1 a2 Q h) [6, 7] [0, 1, 2, 3, 4, 5] rfl rfl rfl (fun v wc hv => by obtain ⟨r, rfl, rfl, hq⟩ := hv; exact ⟨rowsW Y ra rs rf rm rl ru rn rv, [0, 1, 2, 3, 4, 5, 6, 7], rfl, rfl, r, rfl, rfl, hq⟩)
  | k + 4, h4 => exact absurd h4 (by omega)
theorem dX6_valueAt_0 : decode cX6_valueAt 0 = .ok (.iload_n 1, 1) := by decide +kernel
theorem dX6_valueAt_1 : decode cX6_valueAt 1 = .ok (.iconst 1, 1) := by decide +kernel
theorem dX6_valueAt_2 : decode cX6_valueAt 2 = .ok (.if_icmp .lt 11, 3) := by decide +kernel
theorem dX6_valueAt_5 : decode cX6_valueAt 5 = .ok (.iload_n 1, 1) := by decide +kernel
theorem dX6_valueAt_6 : decode cX6_valueAt 6 = .ok (.aload_n 0, 1) := by decide +kernel
theorem dX6_valueAt_7 : decode cX6_valueAt 7 = .ok (.getfield 22, 3) := by decide +kernel
theorem dX6_valueAt_10 : decode cX6_valueAt 10 = .ok (.if_icmp .le 5, 3) := by decide +kernel
theorem dX6_valueAt_13 : decode cX6_valueAt 13 = .ok (.iconst 0, 1) := by decide +kernel
theorem dX6_valueAt_14 : decode cX6_valueAt 14 = .ok (.ireturn, 1) := by decide +kernel
theorem dX6_valueAt_15 : decode cX6_valueAt 15 = .ok (.aload_n 0, 1) := by decide +kernel
theorem dX6_valueAt_16 : decode cX6_valueAt 16 = .ok (.getfield 9, 3) := by decide +kernel
theorem dX6_valueAt_19 : decode cX6_valueAt 19 = .ok (.iload_n 1, 1) := by decide +kernel
theorem dX6_valueAt_20 : decode cX6_valueAt 20 = .ok (.iaload, 1) := by decide +kernel
theorem dX6_valueAt_21 : decode cX6_valueAt 21 = .ok (.aload_n 0, 1) := by decide +kernel
theorem dX6_valueAt_22 : decode cX6_valueAt 22 = .ok (.getfield 9, 3) := by decide +kernel
theorem dX6_valueAt_25 : decode cX6_valueAt 25 = .ok (.iload_n 1, 1) := by decide +kernel
theorem dX6_valueAt_26 : decode cX6_valueAt 26 = .ok (.iconst 1, 1) := by decide +kernel
theorem dX6_valueAt_27 : decode cX6_valueAt 27 = .ok (.isub, 1) := by decide +kernel
theorem dX6_valueAt_28 : decode cX6_valueAt 28 = .ok (.iaload, 1) := by decide +kernel
theorem dX6_valueAt_29 : decode cX6_valueAt 29 = .ok (.isub, 1) := by decide +kernel
theorem dX6_valueAt_30 : decode cX6_valueAt 30 = .ok (.istore_n 2, 1) := by decide +kernel
theorem dX6_valueAt_31 : decode cX6_valueAt 31 = .ok (.iload_n 2, 1) := by decide +kernel
theorem dX6_valueAt_32 : decode cX6_valueAt 32 = .ok (.ifCond .ge 12, 3) := by decide +kernel
theorem dX6_valueAt_35 : decode cX6_valueAt 35 = .ok (.iload_n 2, 1) := by decide +kernel
theorem dX6_valueAt_36 : decode cX6_valueAt 36 = .ok (.aload_n 0, 1) := by decide +kernel
theorem dX6_valueAt_37 : decode cX6_valueAt 37 = .ok (.getfield 19, 3) := by decide +kernel
theorem dX6_valueAt_40 : decode cX6_valueAt 40 = .ok (.iadd, 1) := by decide +kernel
theorem dX6_valueAt_41 : decode cX6_valueAt 41 = .ok (.goto 4, 3) := by decide +kernel
theorem dX6_valueAt_44 : decode cX6_valueAt 44 = .ok (.iload_n 2, 1) := by decide +kernel
theorem dX6_valueAt_45 : decode cX6_valueAt 45 = .ok (.ireturn, 1) := by decide +kernel
/-- QuotientSums$Row.valueAt(I)I -/
def wX6_valueAt (function : Int32) (modulus : Int32) (filled : Int32) (used : Int32) (n_sums : Nat) (sums : Nat → Int32) (a1 : Int32) (Q : (Int32) → Prop) : Prop :=
  ((a1 < 1 → (Q 0)) ∧ (¬ a1 < 1 → ((a1 ≤ filled → (vp_in a1 n_sums ∧ vp_in (a1 - 1) n_sums ∧ ∀ x2_1 : Int32, x2_1 = (sums a1.toNatClampNeg) - (sums (a1 - 1).toNatClampNeg) → ((0 ≤ x2_1 → (Q x2_1)) ∧ (¬ 0 ≤ x2_1 → (Q (x2_1 + modulus)))))) ∧ (¬ a1 ≤ filled → (Q 0)))))
set_option maxHeartbeats 4000000 in
set_option maxRecDepth 100000 in
theorem mX6_valueAt (l : Launch) (D : va_G) (Y : Nat → ClassId) (h0 : Nat) (q_sums : Nat) (function : Int32) (modulus : Int32) (filled : Int32) (used : Int32) (n_sums : Nat) (sums : Nat → Int32) (a1 : Int32) (Q : (Int32) → Prop) (h : wX6_valueAt function modulus filled used n_sums sums a1 Q) : gM l D Y yX6_valueAt cX6_valueAt 3 (some .int) 0 0 0 0 [.ref h0, .int a1] [oX6 h0 (.ref q_sums) function modulus filled used, aI Y q_sums n_sums sums] (fun v w => ∃ r : Int32, v = some (.int r) ∧ w = [oX6 h0 (.ref q_sums) function modulus filled used, aI Y q_sums n_sums sums] ∧ Q r) := by
  refine gM_of (own := RX6) (by decide +kernel) rfl (Nat.le_of_ble_eq_true rfl) rfl (fun E C hR => ?_)
  unfold wX6_valueAt at h
  refine g_iload_n C dX6_valueAt_0 1 rfl ?_
  refine g_iconst (v := 1) C dX6_valueAt_1 rfl ?_
  refine g_icmp_lt (tgt := 13) C dX6_valueAt_2 (by decide) (fun c_1 => ?_) (fun c_1 => ?_)
  · replace h := h.1 c_1
    refine g_iconst (v := 0) C dX6_valueAt_13 rfl ?_
    exact g_iret C hR (Nat.le_of_ble_eq_true rfl) (Nat.le_of_ble_eq_true rfl) dX6_valueAt_14 ⟨0, rfl, rfl, h⟩
  · replace h := h.2 c_1
    refine g_iload_n C dX6_valueAt_5 1 rfl ?_
    refine g_aload_n C dX6_valueAt_6 0 rfl ?_
    refine g_get C inX6 0 rfl rfl 3 (by decide) wF_X6_22 rfl dX6_valueAt_7 ?_
    refine g_icmp_le (tgt := 15) C dX6_valueAt_10 (by decide) (fun c_2 => ?_) (fun c_2 => ?_)
    · replace h := h.1 c_2
      refine g_aload_n C dX6_valueAt_15 0 rfl ?_
      refine g_get C inX6 0 rfl rfl 0 (by decide) wF_X6_9 rfl dX6_valueAt_16 ?_
      refine g_iload_n C dX6_valueAt_19 1 rfl ?_
      obtain ⟨hc_1, h⟩ := h
      refine g_iald C 1 rfl hc_1 dX6_valueAt_20 ?_
      refine g_aload_n C dX6_valueAt_21 0 rfl ?_
      refine g_get C inX6 0 rfl rfl 0 (by decide) wF_X6_9 rfl dX6_valueAt_22 ?_
      refine g_iload_n C dX6_valueAt_25 1 rfl ?_
      refine g_iconst (v := 1) C dX6_valueAt_26 rfl ?_
      refine g_isub C dX6_valueAt_27 ?_
      obtain ⟨hc_2, h⟩ := h
      refine g_iald C 1 rfl hc_2 dX6_valueAt_28 ?_
      refine g_isub C dX6_valueAt_29 ?_
      refine g_topi (fun x2_1 ex2_1 => ?_)
      replace h := h x2_1 ex2_1
      refine g_istore_n (lv' := [(2, .int x2_1), (0, .ref h0), (1, .int a1)]) C dX6_valueAt_30 (by decide) rfl ?_
      refine g_iload_n C dX6_valueAt_31 0 rfl ?_
      refine g_if_ge (tgt := 44) C dX6_valueAt_32 (by decide) (fun c_3 => ?_) (fun c_3 => ?_)
      · replace h := h.1 c_3
        refine g_iload_n C dX6_valueAt_44 0 rfl ?_
        exact g_iret C hR (Nat.le_of_ble_eq_true rfl) (Nat.le_of_ble_eq_true rfl) dX6_valueAt_45 ⟨x2_1, rfl, rfl, h⟩
      · replace h := h.2 c_3
        refine g_iload_n C dX6_valueAt_35 0 rfl ?_
        refine g_aload_n C dX6_valueAt_36 1 rfl ?_
        refine g_get C inX6 0 rfl rfl 2 (by decide) wF_X6_19 rfl dX6_valueAt_37 ?_
        refine g_iadd C dX6_valueAt_40 ?_
        refine g_goto (tgt := 45) C dX6_valueAt_41 (by decide) ?_
        exact g_iret C hR (Nat.le_of_ble_eq_true rfl) (Nat.le_of_ble_eq_true rfl) dX6_valueAt_45 ⟨x2_1 + modulus, rfl, rfl, h⟩
    · replace h := h.2 c_2
      refine g_iconst (v := 0) C dX6_valueAt_13 rfl ?_
      exact g_iret C hR (Nat.le_of_ble_eq_true rfl) (Nat.le_of_ble_eq_true rfl) dX6_valueAt_14 ⟨0, rfl, rfl, h⟩
set_option maxHeartbeats 4000000 in
set_option maxRecDepth 100000 in
theorem mX6_valueAt_at (l : Launch) (D : va_G) (Y : Nat → ClassId) (ra : Nat → Nat) (k : Nat) (hk : k < 4) (rs : Nat → Nat) (rf rm rl ru : Nat → Int32) (rn : Nat → Nat) (rv : Nat → Nat → Int32) (a1 : Int32) (Q : (Int32) → Prop) (h : wX6_valueAt (rf k) (rm k) (rl k) (ru k) (rn k) (rv k) a1 Q) : gM l D Y yX6_valueAt cX6_valueAt 3 (some .int) 0 0 0 0 [.ref (ra k), .int a1] (rowsW Y ra rs rf rm rl ru rn rv) (fun v w => ∃ r : Int32, v = some (.int r) ∧ w = rowsW Y ra rs rf rm rl ru rn rv ∧ Q r) := by
  match k, hk with
  | 0, _ => exact gM_frame (mX6_valueAt l D Y (ra 0) (rs 0) (rf 0) (rm 0) (rl 0) (ru 0) (rn 0) (rv 0) a1 Q h) [0, 1] [2, 3, 4, 5, 6, 7] rfl rfl rfl (fun v wc hv => by obtain ⟨r, rfl, rfl, hq⟩ := hv; exact ⟨rowsW Y ra rs rf rm rl ru rn rv, [6, 7, 0, 1, 2, 3, 4, 5], rfl, rfl, r, rfl, rfl, hq⟩)
  | 1, _ => exact gM_frame (mX6_valueAt l D Y (ra 1) (rs 1) (rf 1) (rm 1) (rl 1) (ru 1) (rn 1) (rv 1) a1 Q h) [2, 3] [0, 1, 4, 5, 6, 7] rfl rfl rfl (fun v wc hv => by obtain ⟨r, rfl, rfl, hq⟩ := hv; exact ⟨rowsW Y ra rs rf rm rl ru rn rv, [0, 1, 6, 7, 2, 3, 4, 5], rfl, rfl, r, rfl, rfl, hq⟩)
  | 2, _ => exact gM_frame (mX6_valueAt l D Y (ra 2) (rs 2) (rf 2) (rm 2) (rl 2) (ru 2) (rn 2) (rv 2) a1 Q h) [4, 5] [0, 1, 2, 3, 6, 7] rfl rfl rfl (fun v wc hv => by obtain ⟨r, rfl, rfl, hq⟩ := hv; exact ⟨rowsW Y ra rs rf rm rl ru rn rv, [0, 1, 2, 3, 6, 7, 4, 5], rfl, rfl, r, rfl, rfl, hq⟩)
  | 3, _ => exact gM_frame (mX6_valueAt l D Y (ra 3) (rs 3) (rf 3) (rm 3) (rl 3) (ru 3) (rn 3) (rv 3) a1 Q h) [6, 7] [0, 1, 2, 3, 4, 5] rfl rfl rfl (fun v wc hv => by obtain ⟨r, rfl, rfl, hq⟩ := hv; exact ⟨rowsW Y ra rs rf rm rl ru rn rv, [0, 1, 2, 3, 4, 5, 6, 7], rfl, rfl, r, rfl, rfl, hq⟩)
  | k + 4, h4 => exact absurd h4 (by omega)
theorem dX6_placeOf_0 : decode cX6_placeOf 0 = .ok (.iload_n 2, 1) := by decide +kernel
theorem dX6_placeOf_1 : decode cX6_placeOf 1 = .ok (.istore 4, 2) := by decide +kernel
theorem dX6_placeOf_3 : decode cX6_placeOf 3 = .ok (.iload 4, 2) := by decide +kernel
theorem dX6_placeOf_5 : decode cX6_placeOf 5 = .ok (.iload_n 3, 1) := by decide +kernel
theorem dX6_placeOf_6 : decode cX6_placeOf 6 = .ok (.if_icmp .gt 22, 3) := by decide +kernel
theorem dX6_placeOf_9 : decode cX6_placeOf 9 = .ok (.aload_n 0, 1) := by decide +kernel
theorem dX6_placeOf_10 : decode cX6_placeOf 10 = .ok (.iload 4, 2) := by decide +kernel
theorem dX6_placeOf_12 : decode cX6_placeOf 12 = .ok (.invokevirtual 40, 3) := by decide +kernel
theorem dX6_placeOf_15 : decode cX6_placeOf 15 = .ok (.iload_n 1, 1) := by decide +kernel
theorem dX6_placeOf_16 : decode cX6_placeOf 16 = .ok (.if_icmp .ne 6, 3) := by decide +kernel
theorem dX6_placeOf_19 : decode cX6_placeOf 19 = .ok (.iload 4, 2) := by decide +kernel
theorem dX6_placeOf_21 : decode cX6_placeOf 21 = .ok (.ireturn, 1) := by decide +kernel
theorem dX6_placeOf_22 : decode cX6_placeOf 22 = .ok (.iinc 4 1, 3) := by decide +kernel
theorem dX6_placeOf_25 : decode cX6_placeOf 25 = .ok (.goto (-22), 3) := by decide +kernel
theorem dX6_placeOf_28 : decode cX6_placeOf 28 = .ok (.iconst (-1), 1) := by decide +kernel
theorem dX6_placeOf_29 : decode cX6_placeOf 29 = .ok (.ireturn, 1) := by decide +kernel
/-- QuotientSums$Row.placeOf(III)I -/
def wX6_placeOf (function : Int32) (modulus : Int32) (filled : Int32) (used : Int32) (n_sums : Nat) (sums : Nat → Int32) (a1 : Int32) (a2 : Int32) (a3 : Int32) (Q : (Int32) → Prop) : Prop :=
  (∃ (Inv_1 : (Int32) → Prop) (Mea_1 : (Int32) → Nat), Inv_1 a2 ∧ ∀ (x4_1 : Int32), Inv_1 x4_1 → ((a3 < x4_1 → (Q (-1))) ∧ (¬ a3 < x4_1 → (∃ (P_1 : (Int32) → Prop), wX6_sumTo function modulus filled used n_sums sums x4_1 P_1 ∧ ∀ (rF_1 : Int32), P_1 rF_1 → ((¬ rF_1 = a1 → (Inv_1 (x4_1 + 1) ∧ Mea_1 (x4_1 + 1) < Mea_1 x4_1)) ∧ (rF_1 = a1 → (Q x4_1)))))))
set_option maxHeartbeats 4000000 in
set_option maxRecDepth 100000 in
theorem mX6_placeOf (l : Launch) (D : va_G) (Y : Nat → ClassId) (h0 : Nat) (q_sums : Nat) (function : Int32) (modulus : Int32) (filled : Int32) (used : Int32) (n_sums : Nat) (sums : Nat → Int32) (a1 : Int32) (a2 : Int32) (a3 : Int32) (Q : (Int32) → Prop) (h : wX6_placeOf function modulus filled used n_sums sums a1 a2 a3 Q) : gM l D Y yX6_placeOf cX6_placeOf 5 (some .int) 1 21 0 0 [.ref h0, .int a1, .int a2, .int a3] [oX6 h0 (.ref q_sums) function modulus filled used, aI Y q_sums n_sums sums] (fun v w => ∃ r : Int32, v = some (.int r) ∧ w = [oX6 h0 (.ref q_sums) function modulus filled used, aI Y q_sums n_sums sums] ∧ Q r) := by
  refine gM_of (own := RX6) (by decide +kernel) rfl (Nat.le_of_ble_eq_true rfl) rfl (fun E C hR => ?_)
  unfold wX6_placeOf at h
  refine g_iload_n C dX6_placeOf_0 2 rfl ?_
  refine g_istore (lv' := [(4, .int a2), (0, .ref h0), (1, .int a1), (2, .int a2), (3, .int a3)]) C dX6_placeOf_1 (by decide) rfl ?_
  obtain ⟨Inv_1, Mea_1, hI1, hB1⟩ := h
  have key_1 : ∀ (n : Nat) (x4_1 : Int32) , Mea_1 x4_1 < n → Inv_1 x4_1 → gG E 0 0 [oX6 h0 (.ref q_sums) function modulus filled used, aI Y q_sums n_sums sums] [(0, .ref h0), (1, .int a1), (3, .int a3), (4, .int x4_1)] [] 3 := by
    intro n
    induction n with
    | zero => exact fun _ hm => absurd hm (Nat.not_lt_zero _)
    | succ n ih1 =>
      intro x4_1  hm1 hI
      have h := hB1 x4_1 hI
      refine g_iload C dX6_placeOf_3 3 rfl ?_
      refine g_iload_n C dX6_placeOf_5 2 rfl ?_
      refine g_icmp_gt (tgt := 28) C dX6_placeOf_6 (by decide) (fun c_1 => ?_) (fun c_1 => ?_)
      · replace h := h.1 c_1
        refine g_iconst (v := (-1)) C dX6_placeOf_28 rfl ?_
        exact g_iret C hR (Nat.le_of_ble_eq_true rfl) (Nat.le_of_ble_eq_true rfl) dX6_placeOf_29 ⟨(-1), rfl, rfl, h⟩
      · replace h := h.2 c_1
        refine g_aload_n C dX6_placeOf_9 0 rfl ?_
        refine g_iload C dX6_placeOf_10 3 rfl ?_
        obtain ⟨P_1, hP, h⟩ := h
        refine g_callV (As := [.int x4_1]) (rest := []) C (mX6_sumTo l D Y h0 q_sums function modulus filled used n_sums sums x4_1 P_1 hP) dX6_placeOf_12 rfl wM_X6_40 wI_X6_sumTo wV_X6_sumTo wN_X6 wC_X6_sumTo (n := 1) (by decide +kernel) rfl (q0 := 0) rfl rfl ⟨Nat.le_of_ble_eq_true rfl, Nat.le_of_ble_eq_true rfl⟩ ⟨Nat.le_of_ble_eq_true rfl, Nat.le_of_ble_eq_true rfl⟩ (Nat.le_of_ble_eq_true rfl) [0, 1] [] rfl rfl rfl (fun v wc hv => ?_)
        obtain ⟨rF_1, rfl, rfl, hq⟩ := hv
        replace h := h rF_1 hq
        refine gG.eqw (ws' := [oX6 h0 (.ref q_sums) function modulus filled used, aI Y q_sums n_sums sums]) rfl ?_
        refine g_iload_n C dX6_placeOf_15 1 rfl ?_
        refine g_icmp_ne (tgt := 22) C dX6_placeOf_16 (by decide) (fun c_2 => ?_) (fun c_2 => ?_)
        · replace h := h.1 c_2
          refine g_iinc (v := x4_1 + 1) (lv' := [(4, .int (x4_1 + 1)), (0, .ref h0), (1, .int a1), (3, .int a3)]) C dX6_placeOf_22 3 rfl rfl (by decide) rfl ?_
          refine g_goto (tgt := 3) C dX6_placeOf_25 (by decide) ?_
          refine gG.locals (lv' := [(0, .ref h0), (1, .int a1), (3, .int a3), (4, .int (x4_1 + 1))]) [1, 2, 3, 0] rfl ?_
          exact ih1 (x4_1 + 1) (Nat.lt_of_lt_of_le h.2 (Nat.le_of_lt_succ hm1)) h.1
        · replace h := h.2 c_2
          refine g_iload C dX6_placeOf_19 3 rfl ?_
          exact g_iret C hR (Nat.le_of_ble_eq_true rfl) (Nat.le_of_ble_eq_true rfl) dX6_placeOf_21 ⟨x4_1, rfl, rfl, h⟩
  refine gG.locals (lv' := [(0, .ref h0), (1, .int a1), (3, .int a3), (4, .int a2)]) [1, 2, 4, 0] rfl ?_
  exact key_1 (Mea_1 a2 + 1) a2 (Nat.lt_succ_self _) hI1
set_option maxHeartbeats 4000000 in
set_option maxRecDepth 100000 in
theorem mX6_placeOf_at (l : Launch) (D : va_G) (Y : Nat → ClassId) (ra : Nat → Nat) (k : Nat) (hk : k < 4) (rs : Nat → Nat) (rf rm rl ru : Nat → Int32) (rn : Nat → Nat) (rv : Nat → Nat → Int32) (a1 : Int32) (a2 : Int32) (a3 : Int32) (Q : (Int32) → Prop) (h : wX6_placeOf (rf k) (rm k) (rl k) (ru k) (rn k) (rv k) a1 a2 a3 Q) : gM l D Y yX6_placeOf cX6_placeOf 5 (some .int) 1 21 0 0 [.ref (ra k), .int a1, .int a2, .int a3] (rowsW Y ra rs rf rm rl ru rn rv) (fun v w => ∃ r : Int32, v = some (.int r) ∧ w = rowsW Y ra rs rf rm rl ru rn rv ∧ Q r) := by
  match k, hk with
  | 0, _ => exact gM_frame (mX6_placeOf l D Y (ra 0) (rs 0) (rf 0) (rm 0) (rl 0) (ru 0) (rn 0) (rv 0) a1 a2 a3 Q h) [0, 1] [2, 3, 4, 5, 6, 7] rfl rfl rfl (fun v wc hv => by obtain ⟨r, rfl, rfl, hq⟩ := hv; exact ⟨rowsW Y ra rs rf rm rl ru rn rv, [6, 7, 0, 1, 2, 3, 4, 5], rfl, rfl, r, rfl, rfl, hq⟩)
  | 1, _ => exact gM_frame (mX6_placeOf l D Y (ra 1) (rs 1) (rf 1) (rm 1) (rl 1) (ru 1) (rn 1) (rv 1) a1 a2 a3 Q h) [2, 3] [0, 1, 4, 5, 6, 7] rfl rfl rfl (fun v wc hv => by obtain ⟨r, rfl, rfl, hq⟩ := hv; exact ⟨rowsW Y ra rs rf rm rl ru rn rv, [0, 1, 6, 7, 2, 3, 4, 5], rfl, rfl, r, rfl, rfl, hq⟩)
  | 2, _ => exact gM_frame (mX6_placeOf l D Y (ra 2) (rs 2) (rf 2) (rm 2) (rl 2) (ru 2) (rn 2) (rv 2) a1 a2 a3 Q h) [4, 5] [0, 1, 2, 3, 6, 7] rfl rfl rfl (fun v wc hv => by obtain ⟨r, rfl, rfl, hq⟩ := hv; exact ⟨rowsW Y ra rs rf rm rl ru rn rv, [0, 1, 2, 3, 6, 7, 4, 5], rfl, rfl, r, rfl, rfl, hq⟩)
  | 3, _ => exact gM_frame (mX6_placeOf l D Y (ra 3) (rs 3) (rf 3) (rm 3) (rl 3) (ru 3) (rn 3) (rv 3) a1 a2 a3 Q h) [6, 7] [0, 1, 2, 3, 4, 5] rfl rfl rfl (fun v wc hv => by obtain ⟨r, rfl, rfl, hq⟩ := hv; exact ⟨rowsW Y ra rs rf rm rl ru rn rv, [0, 1, 2, 3, 4, 5, 6, 7], rfl, rfl, r, rfl, rfl, hq⟩)
  | k + 4, h4 => exact absurd h4 (by omega)
theorem dX8_init_0 : decode cX8_init 0 = .ok (.aload_n 0, 1) := by decide +kernel
theorem dX8_init_1 : decode cX8_init 1 = .ok (.invokespecial 3, 3) := by decide +kernel
theorem dX8_init_4 : decode cX8_init 4 = .ok (.aload_n 0, 1) := by decide +kernel
theorem dX8_init_5 : decode cX8_init 5 = .ok (.iconst 2, 1) := by decide +kernel
theorem dX8_init_6 : decode cX8_init 6 = .ok (.newarray .int, 2) := by decide +kernel
theorem dX8_init_8 : decode cX8_init 8 = .ok (.putfield 9, 3) := by decide +kernel
theorem dX8_init_11 : decode cX8_init 11 = .ok (.return_, 1) := by decide +kernel
/-- QuotientSums$Sieve.<init>()V -/
def wX8_init   (Q : (Nat → Int32) → Prop) : Prop :=
  (∀ z_1 : Nat → Int32, z_1 = (fun _ => 0) → (Q z_1))
set_option maxHeartbeats 4000000 in
set_option maxRecDepth 100000 in
theorem mX8_init (l : Launch) (D : va_G) (Y : Nat → ClassId) (h0 : Nat)   (Q : (Nat → Int32) → Prop) (h : wX8_init  Q) : gM l D Y yX8_init cX8_init 1 none 1 20 1 2 [.ref h0] [oX8 h0 (.null)] (fun v w => ∃ q_least : Nat, ∃ least' : Nat → Int32, v = none ∧ w = [oX8 h0 (.ref q_least), aI Y q_least 2 least'] ∧ Q least') := by
  refine gM_ofI (own := RX8) (by decide +kernel) rfl rfl (Nat.le_of_ble_eq_true rfl) rfl (fun E C hR hin => ?_)
  unfold wX8_init at h
  refine g_aload_n C dX8_init_0 0 rfl ?_
  refine g_objInit C wM_X8_3 dX8_init_1 (Nat.le_of_ble_eq_true rfl) (Nat.le_of_ble_eq_true rfl) ?_
  refine g_aload_n C dX8_init_4 0 rfl ?_
  refine g_iconst (v := 2) C dX8_init_5 rfl ?_
  refine g_newI C dX8_init_6 (by decide) rfl (Nat.le_of_ble_eq_true rfl) ⟨Nat.le_of_ble_eq_true rfl, Nat.le_of_ble_eq_true rfl⟩ (fun q_1 z_1 ez_1 => gG.eqw (ws' := [oX8 h0 (.null), aI Y q_1 2 z_1]) rfl ?_)
  replace h := h z_1 ez_1
  refine g_put C inX8 tyX8 tyX8_ok nmX8 0 rfl rfl 0 (by decide) wF_X8_9 rfl rfl rfl (Nat.le_of_ble_eq_true rfl) (ws' := [oX8 h0 (.ref q_1), aI Y q_1 2 z_1]) rfl dX8_init_8 ?_
  exact g_vret C hR (Nat.le_of_ble_eq_true rfl) (Nat.le_of_ble_eq_true rfl) dX8_init_11 ⟨q_1, z_1, rfl, rfl, h⟩
theorem dX7_init_0 : decode cX7_init 0 = .ok (.aload_n 0, 1) := by decide +kernel
theorem dX7_init_1 : decode cX7_init 1 = .ok (.invokespecial 3, 3) := by decide +kernel
theorem dX7_init_4 : decode cX7_init 4 = .ok (.aload_n 0, 1) := by decide +kernel
theorem dX7_init_5 : decode cX7_init 5 = .ok (.new 9, 3) := by decide +kernel
theorem dX7_init_8 : decode cX7_init 8 = .ok (.dup, 1) := by decide +kernel
theorem dX7_init_9 : decode cX7_init 9 = .ok (.invokespecial 11, 3) := by decide +kernel
theorem dX7_init_12 : decode cX7_init 12 = .ok (.putfield 12, 3) := by decide +kernel
theorem dX7_init_15 : decode cX7_init 15 = .ok (.aload_n 0, 1) := by decide +kernel
theorem dX7_init_16 : decode cX7_init 16 = .ok (.new 18, 3) := by decide +kernel
theorem dX7_init_19 : decode cX7_init 19 = .ok (.dup, 1) := by decide +kernel
theorem dX7_init_20 : decode cX7_init 20 = .ok (.invokespecial 20, 3) := by decide +kernel
theorem dX7_init_23 : decode cX7_init 23 = .ok (.putfield 21, 3) := by decide +kernel
theorem dX7_init_26 : decode cX7_init 26 = .ok (.aload_n 0, 1) := by decide +kernel
theorem dX7_init_27 : decode cX7_init 27 = .ok (.iconst 4, 1) := by decide +kernel
theorem dX7_init_28 : decode cX7_init 28 = .ok (.anewarray 25, 3) := by decide +kernel
theorem dX7_init_31 : decode cX7_init 31 = .ok (.putfield 27, 3) := by decide +kernel
theorem dX7_init_34 : decode cX7_init 34 = .ok (.iconst 0, 1) := by decide +kernel
theorem dX7_init_35 : decode cX7_init 35 = .ok (.istore_n 1, 1) := by decide +kernel
theorem dX7_init_36 : decode cX7_init 36 = .ok (.iload_n 1, 1) := by decide +kernel
theorem dX7_init_37 : decode cX7_init 37 = .ok (.iconst 4, 1) := by decide +kernel
theorem dX7_init_38 : decode cX7_init 38 = .ok (.if_icmp .ge 22, 3) := by decide +kernel
theorem dX7_init_41 : decode cX7_init 41 = .ok (.aload_n 0, 1) := by decide +kernel
theorem dX7_init_42 : decode cX7_init 42 = .ok (.getfield 27, 3) := by decide +kernel
theorem dX7_init_45 : decode cX7_init 45 = .ok (.iload_n 1, 1) := by decide +kernel
theorem dX7_init_46 : decode cX7_init 46 = .ok (.new 25, 3) := by decide +kernel
theorem dX7_init_49 : decode cX7_init 49 = .ok (.dup, 1) := by decide +kernel
theorem dX7_init_50 : decode cX7_init 50 = .ok (.invokespecial 31, 3) := by decide +kernel
theorem dX7_init_53 : decode cX7_init 53 = .ok (.aastore, 1) := by decide +kernel
theorem dX7_init_54 : decode cX7_init 54 = .ok (.iinc 1 1, 3) := by decide +kernel
theorem dX7_init_57 : decode cX7_init 57 = .ok (.goto (-21), 3) := by decide +kernel
theorem dX7_init_60 : decode cX7_init 60 = .ok (.return_, 1) := by decide +kernel
/-- QuotientSums$Rows.<init>()V -/
def wX7_init   (Q : (Nat → Int32) → (Nat → Int32) → (Nat → Int32) → (Nat → Int32) → (Nat → Nat) → (Nat → Nat → Int32) → (Int32) → (Nat → Int32) → (Nat → Int32) → (Nat → Int32) → Prop) : Prop :=
  (∃ (P_1 : (Nat → Int32) → Prop), wX8_init  P_1 ∧ ∀ (least_1 : Nat → Int32), P_1 least_1 → ∃ (P_2 : (Nat → Int32) → (Nat → Int32) → Prop), wX4_init  P_2 ∧ ∀ (ofPrime_1 : Nat → Int32) (cells_1 : Nat → Int32), P_2 ofPrime_1 cells_1 → ∃ (P_3 : (Int32) → (Int32) → (Int32) → (Int32) → (Nat → Int32) → Prop), wX6_init  P_3 ∧ ∀ (function_1 : Int32) (modulus_1 : Int32) (filled_1 : Int32) (used_1 : Int32) (sums_1 : Nat → Int32), P_3 function_1 modulus_1 filled_1 used_1 sums_1 → ∃ (P_4 : (Int32) → (Int32) → (Int32) → (Int32) → (Nat → Int32) → Prop), wX6_init  P_4 ∧ ∀ (function_2 : Int32) (modulus_2 : Int32) (filled_2 : Int32) (used_2 : Int32) (sums_2 : Nat → Int32), P_4 function_2 modulus_2 filled_2 used_2 sums_2 → ∃ (P_5 : (Int32) → (Int32) → (Int32) → (Int32) → (Nat → Int32) → Prop), wX6_init  P_5 ∧ ∀ (function_3 : Int32) (modulus_3 : Int32) (filled_3 : Int32) (used_3 : Int32) (sums_3 : Nat → Int32), P_5 function_3 modulus_3 filled_3 used_3 sums_3 → ∃ (P_6 : (Int32) → (Int32) → (Int32) → (Int32) → (Nat → Int32) → Prop), wX6_init  P_6 ∧ ∀ (function_4 : Int32) (modulus_4 : Int32) (filled_4 : Int32) (used_4 : Int32) (sums_4 : Nat → Int32), P_6 function_4 modulus_4 filled_4 used_4 sums_4 → (Q (fun j => if j = 0 then function_1 else if j = 1 then function_2 else if j = 2 then function_3 else function_4) (fun j => if j = 0 then modulus_1 else if j = 1 then modulus_2 else if j = 2 then modulus_3 else modulus_4) (fun j => if j = 0 then filled_1 else if j = 1 then filled_2 else if j = 2 then filled_3 else filled_4) (fun j => if j = 0 then used_1 else if j = 1 then used_2 else if j = 2 then used_3 else used_4) (fun j => if j = 0 then 2 else if j = 1 then 2 else if j = 2 then 2 else 2) (fun j => if j = 0 then sums_1 else if j = 1 then sums_2 else if j = 2 then sums_3 else sums_4) 0 least_1 ofPrime_1 cells_1))
set_option maxHeartbeats 4000000 in
set_option maxRecDepth 100000 in
theorem mX7_init (l : Launch) (D : va_G) (Y : Nat → ClassId) (h0 : Nat)   (Q : (Nat → Int32) → (Nat → Int32) → (Nat → Int32) → (Nat → Int32) → (Nat → Nat) → (Nat → Nat → Int32) → (Int32) → (Nat → Int32) → (Nat → Int32) → (Nat → Int32) → Prop) (h : wX7_init  Q) : gM l D Y yX7_init cX7_init 2 none 2 41 14 271 [.ref h0] [oX7 h0 (.null) (.null) (.null) 0] (fun v w => ∃ ra : Nat → Nat, ∃ rs' : Nat → Nat, ∃ rf' : Nat → Int32, ∃ rm' : Nat → Int32, ∃ rl' : Nat → Int32, ∃ ru' : Nat → Int32, ∃ rn' : Nat → Nat, ∃ rv' : Nat → Nat → Int32, ∃ q_sieve : Nat, ∃ q_powers : Nat, ∃ q_rows : Nat, ∃ turn' : Int32, ∃ q_sieve_least : Nat, ∃ sieve_least' : Nat → Int32, ∃ q_powers_ofPrime : Nat, ∃ q_powers_cells : Nat, ∃ powers_ofPrime' : Nat → Int32, ∃ powers_cells' : Nat → Int32, v = none ∧ w = (rowsW Y ra rs' rf' rm' rl' ru' rn' rv' ++ [oX7 h0 (.ref q_sieve) (.ref q_powers) (.ref q_rows) turn', oX8 q_sieve (.ref q_sieve_least), aI Y q_sieve_least 2 sieve_least', oX4 q_powers (.ref q_powers_ofPrime) (.ref q_powers_cells), aI Y q_powers_ofPrime 18 powers_ofPrime', aI Y q_powers_cells 216 powers_cells', aR Y q_rows 4 (fun j => some (ra j))]) ∧ Q rf' rm' rl' ru' rn' rv' turn' sieve_least' powers_ofPrime' powers_cells') := by
  refine gM_ofI (own := RX7) (by decide +kernel) rfl rfl (Nat.le_of_ble_eq_true rfl) rfl (fun E C hR hin => ?_)
  unfold wX7_init at h
  refine g_aload_n C dX7_init_0 0 rfl ?_
  refine g_objInit C wM_X7_3 dX7_init_1 (Nat.le_of_ble_eq_true rfl) (Nat.le_of_ble_eq_true rfl) ?_
  refine g_aload_n C dX7_init_4 0 rfl ?_
  refine g_new (fs := [.null]) C inX8 tyX8 tyX8_ok wL_X7_9 wT_X8 wN_X8 rfl rfl ⟨Nat.le_of_ble_eq_true rfl, Nat.le_of_ble_eq_true rfl⟩ dX7_init_5 (fun q_1 => gG.eqw (ws' := [oX7 h0 (.null) (.null) (.null) 0, oX8 q_1 (.null)]) rfl ?_)
  refine g_dup C dX7_init_8 rfl ?_
  obtain ⟨P_1, hP, h⟩ := h
  refine g_callIN (As := []) (rest := [.ref q_1, .ref h0]) C (mX8_init l D Y q_1 P_1 hP) dX7_init_9 rfl wNM_X7_11 wI_X8_init wN_X8 wC_X8_init (n := 0) (by decide +kernel) rfl rfl ⟨Nat.le_of_ble_eq_true rfl, Nat.le_of_ble_eq_true rfl⟩ ⟨Nat.le_of_ble_eq_true rfl, Nat.le_of_ble_eq_true rfl⟩ (Nat.le_of_ble_eq_true rfl) [1] [0] rfl rfl rfl (fun v wc hv => ?_)
  obtain ⟨q_least_1, least_1, rfl, rfl, hq⟩ := hv
  replace h := h least_1 hq
  refine gG.eqw (ws' := [oX7 h0 (.null) (.null) (.null) 0, oX8 q_1 (.ref q_least_1), aI Y q_least_1 2 least_1]) rfl ?_
  refine g_putF C inX7 tyX7 tyX7_ok nmX7 0 rfl rfl 0 (by decide) wF_X7_12 rfl hin rfl rfl rfl (Nat.le_of_ble_eq_true rfl) (ws' := [oX7 h0 (.ref q_1) (.null) (.null) 0, oX8 q_1 (.ref q_least_1), aI Y q_least_1 2 least_1]) rfl dX7_init_12 ?_
  refine g_aload_n C dX7_init_15 0 rfl ?_
  refine g_new (fs := [.null, .null]) C inX4 tyX4 tyX4_ok wL_X7_18 wT_X4 wN_X4 rfl rfl ⟨Nat.le_of_ble_eq_true rfl, Nat.le_of_ble_eq_true rfl⟩ dX7_init_16 (fun q_2 => gG.eqw (ws' := [oX7 h0 (.ref q_1) (.null) (.null) 0, oX8 q_1 (.ref q_least_1), aI Y q_least_1 2 least_1, oX4 q_2 (.null) (.null)]) rfl ?_)
  refine g_dup C dX7_init_19 rfl ?_
  obtain ⟨P_2, hP, h⟩ := h
  refine g_callI (As := []) (rest := [.ref q_2, .ref h0]) C (mX4_init l D Y q_2 P_2 hP) dX7_init_20 rfl wM_X7_20 wI_X4_init wN_X4 wC_X4_init (n := 0) (by decide +kernel) rfl rfl ⟨Nat.le_of_ble_eq_true rfl, Nat.le_of_ble_eq_true rfl⟩ ⟨Nat.le_of_ble_eq_true rfl, Nat.le_of_ble_eq_true rfl⟩ (Nat.le_of_ble_eq_true rfl) [3] [0, 1, 2] rfl rfl rfl (fun v wc hv => ?_)
  obtain ⟨q_ofPrime_1, q_cells_1, ofPrime_1, cells_1, rfl, rfl, hq⟩ := hv
  replace h := h ofPrime_1 cells_1 hq
  refine gG.eqw (ws' := [oX7 h0 (.ref q_1) (.null) (.null) 0, oX8 q_1 (.ref q_least_1), aI Y q_least_1 2 least_1, oX4 q_2 (.ref q_ofPrime_1) (.ref q_cells_1), aI Y q_ofPrime_1 18 ofPrime_1, aI Y q_cells_1 216 cells_1]) rfl ?_
  refine g_putF C inX7 tyX7 tyX7_ok nmX7 0 rfl rfl 1 (by decide) wF_X7_21 rfl hin rfl rfl rfl (Nat.le_of_ble_eq_true rfl) (ws' := [oX7 h0 (.ref q_1) (.ref q_2) (.null) 0, oX8 q_1 (.ref q_least_1), aI Y q_least_1 2 least_1, oX4 q_2 (.ref q_ofPrime_1) (.ref q_cells_1), aI Y q_ofPrime_1 18 ofPrime_1, aI Y q_cells_1 216 cells_1]) rfl dX7_init_23 ?_
  refine g_aload_n C dX7_init_26 0 rfl ?_
  refine g_iconst (v := 4) C dX7_init_27 rfl ?_
  refine g_anewR C wL_X7_25 dX7_init_28 (by decide) rfl (Nat.le_of_ble_eq_true rfl) ⟨Nat.le_of_ble_eq_true rfl, Nat.le_of_ble_eq_true rfl⟩ (fun q_3 z_1 ez_1 => gG.eqw (ws' := [oX7 h0 (.ref q_1) (.ref q_2) (.null) 0, oX8 q_1 (.ref q_least_1), aI Y q_least_1 2 least_1, oX4 q_2 (.ref q_ofPrime_1) (.ref q_cells_1), aI Y q_ofPrime_1 18 ofPrime_1, aI Y q_cells_1 216 cells_1, aR Y q_3 4 z_1]) rfl ?_)
  refine g_putF C inX7 tyX7 tyX7_ok nmX7 0 rfl rfl 2 (by decide) wF_X7_27 rfl hin rfl rfl rfl (Nat.le_of_ble_eq_true rfl) (ws' := [oX7 h0 (.ref q_1) (.ref q_2) (.ref q_3) 0, oX8 q_1 (.ref q_least_1), aI Y q_least_1 2 least_1, oX4 q_2 (.ref q_ofPrime_1) (.ref q_cells_1), aI Y q_ofPrime_1 18 ofPrime_1, aI Y q_cells_1 216 cells_1, aR Y q_3 4 z_1]) rfl dX7_init_31 ?_
  refine g_iconst (v := 0) C dX7_init_34 rfl ?_
  refine g_istore_n (lv' := [(1, .int 0), (0, .ref h0)]) C dX7_init_35 (by decide) rfl ?_
  refine g_iload_n C dX7_init_36 0 rfl ?_
  refine g_iconst (v := 4) C dX7_init_37 rfl ?_
  refine g_icmp_ge (tgt := 60) C dX7_init_38 (by decide) (fun c => absurd c (by decide)) (fun _ => ?_)
  refine g_aload_n C dX7_init_41 1 rfl ?_
  refine g_get C inX7 0 rfl rfl 2 (by decide) wF_X7_27 rfl dX7_init_42 ?_
  refine g_iload_n C dX7_init_45 0 rfl ?_
  refine g_new (fs := [.null, .int 0, .int 0, .int 0, .int 0]) C inX6 tyX6 tyX6_ok wL_X7_25 wT_X6 wN_X6 rfl rfl ⟨Nat.le_of_ble_eq_true rfl, Nat.le_of_ble_eq_true rfl⟩ dX7_init_46 (fun q_4 => gG.eqw (ws' := [oX7 h0 (.ref q_1) (.ref q_2) (.ref q_3) 0, oX8 q_1 (.ref q_least_1), aI Y q_least_1 2 least_1, oX4 q_2 (.ref q_ofPrime_1) (.ref q_cells_1), aI Y q_ofPrime_1 18 ofPrime_1, aI Y q_cells_1 216 cells_1, aR Y q_3 4 z_1, oX6 q_4 (.null) 0 0 0 0]) rfl ?_)
  refine g_dup C dX7_init_49 rfl ?_
  obtain ⟨P_3, hP, h⟩ := h
  refine g_callIN (As := []) (rest := [.ref q_4, .int 0, .ref q_3]) C (mX6_init l D Y q_4 P_3 hP) dX7_init_50 rfl wNM_X7_31 wI_X6_init wN_X6 wC_X6_init (n := 0) (by decide +kernel) rfl rfl ⟨Nat.le_of_ble_eq_true rfl, Nat.le_of_ble_eq_true rfl⟩ ⟨Nat.le_of_ble_eq_true rfl, Nat.le_of_ble_eq_true rfl⟩ (Nat.le_of_ble_eq_true rfl) [7] [0, 1, 2, 3, 4, 5, 6] rfl rfl rfl (fun v wc hv => ?_)
  obtain ⟨q_sums_1, function_1, modulus_1, filled_1, used_1, sums_1, rfl, rfl, hq⟩ := hv
  replace h := h function_1 modulus_1 filled_1 used_1 sums_1 hq
  refine gG.eqw (ws' := [oX7 h0 (.ref q_1) (.ref q_2) (.ref q_3) 0, oX8 q_1 (.ref q_least_1), aI Y q_least_1 2 least_1, oX4 q_2 (.ref q_ofPrime_1) (.ref q_cells_1), aI Y q_ofPrime_1 18 ofPrime_1, aI Y q_cells_1 216 cells_1, aR Y q_3 4 z_1, oX6 q_4 (.ref q_sums_1) function_1 modulus_1 filled_1 used_1, aI Y q_sums_1 2 sums_1]) rfl ?_
  refine g_aast C 6 7 rfl rfl (by unfold vp_in; decide) dX7_init_53 (fun z_2 ez_2 => gG.eqw (ws' := [oX7 h0 (.ref q_1) (.ref q_2) (.ref q_3) 0, oX8 q_1 (.ref q_least_1), aI Y q_least_1 2 least_1, oX4 q_2 (.ref q_ofPrime_1) (.ref q_cells_1), aI Y q_ofPrime_1 18 ofPrime_1, aI Y q_cells_1 216 cells_1, aR Y q_3 4 z_2, oX6 q_4 (.ref q_sums_1) function_1 modulus_1 filled_1 used_1, aI Y q_sums_1 2 sums_1]) rfl ?_)
  refine g_iinc (v := 1) (lv' := [(1, .int 1), (0, .ref h0)]) C dX7_init_54 0 rfl rfl (by decide) rfl ?_
  refine g_goto (tgt := 36) C dX7_init_57 (by decide) ?_
  refine g_iload_n C dX7_init_36 0 rfl ?_
  refine g_iconst (v := 4) C dX7_init_37 rfl ?_
  refine g_icmp_ge (tgt := 60) C dX7_init_38 (by decide) (fun c => absurd c (by decide)) (fun _ => ?_)
  refine g_aload_n C dX7_init_41 1 rfl ?_
  refine g_get C inX7 0 rfl rfl 2 (by decide) wF_X7_27 rfl dX7_init_42 ?_
  refine g_iload_n C dX7_init_45 0 rfl ?_
  refine g_new (fs := [.null, .int 0, .int 0, .int 0, .int 0]) C inX6 tyX6 tyX6_ok wL_X7_25 wT_X6 wN_X6 rfl rfl ⟨Nat.le_of_ble_eq_true rfl, Nat.le_of_ble_eq_true rfl⟩ dX7_init_46 (fun q_5 => gG.eqw (ws' := [oX7 h0 (.ref q_1) (.ref q_2) (.ref q_3) 0, oX8 q_1 (.ref q_least_1), aI Y q_least_1 2 least_1, oX4 q_2 (.ref q_ofPrime_1) (.ref q_cells_1), aI Y q_ofPrime_1 18 ofPrime_1, aI Y q_cells_1 216 cells_1, aR Y q_3 4 z_2, oX6 q_4 (.ref q_sums_1) function_1 modulus_1 filled_1 used_1, aI Y q_sums_1 2 sums_1, oX6 q_5 (.null) 0 0 0 0]) rfl ?_)
  refine g_dup C dX7_init_49 rfl ?_
  obtain ⟨P_4, hP, h⟩ := h
  refine g_callIN (As := []) (rest := [.ref q_5, .int 1, .ref q_3]) C (mX6_init l D Y q_5 P_4 hP) dX7_init_50 rfl wNM_X7_31 wI_X6_init wN_X6 wC_X6_init (n := 0) (by decide +kernel) rfl rfl ⟨Nat.le_of_ble_eq_true rfl, Nat.le_of_ble_eq_true rfl⟩ ⟨Nat.le_of_ble_eq_true rfl, Nat.le_of_ble_eq_true rfl⟩ (Nat.le_of_ble_eq_true rfl) [9] [0, 1, 2, 3, 4, 5, 6, 7, 8] rfl rfl rfl (fun v wc hv => ?_)
  obtain ⟨q_sums_2, function_2, modulus_2, filled_2, used_2, sums_2, rfl, rfl, hq⟩ := hv
  replace h := h function_2 modulus_2 filled_2 used_2 sums_2 hq
  refine gG.eqw (ws' := [oX7 h0 (.ref q_1) (.ref q_2) (.ref q_3) 0, oX8 q_1 (.ref q_least_1), aI Y q_least_1 2 least_1, oX4 q_2 (.ref q_ofPrime_1) (.ref q_cells_1), aI Y q_ofPrime_1 18 ofPrime_1, aI Y q_cells_1 216 cells_1, aR Y q_3 4 z_2, oX6 q_4 (.ref q_sums_1) function_1 modulus_1 filled_1 used_1, aI Y q_sums_1 2 sums_1, oX6 q_5 (.ref q_sums_2) function_2 modulus_2 filled_2 used_2, aI Y q_sums_2 2 sums_2]) rfl ?_
  refine g_aast C 6 9 rfl rfl (by unfold vp_in; decide) dX7_init_53 (fun z_3 ez_3 => gG.eqw (ws' := [oX7 h0 (.ref q_1) (.ref q_2) (.ref q_3) 0, oX8 q_1 (.ref q_least_1), aI Y q_least_1 2 least_1, oX4 q_2 (.ref q_ofPrime_1) (.ref q_cells_1), aI Y q_ofPrime_1 18 ofPrime_1, aI Y q_cells_1 216 cells_1, aR Y q_3 4 z_3, oX6 q_4 (.ref q_sums_1) function_1 modulus_1 filled_1 used_1, aI Y q_sums_1 2 sums_1, oX6 q_5 (.ref q_sums_2) function_2 modulus_2 filled_2 used_2, aI Y q_sums_2 2 sums_2]) rfl ?_)
  refine g_iinc (v := 2) (lv' := [(1, .int 2), (0, .ref h0)]) C dX7_init_54 0 rfl rfl (by decide) rfl ?_
  refine g_goto (tgt := 36) C dX7_init_57 (by decide) ?_
  refine g_iload_n C dX7_init_36 0 rfl ?_
  refine g_iconst (v := 4) C dX7_init_37 rfl ?_
  refine g_icmp_ge (tgt := 60) C dX7_init_38 (by decide) (fun c => absurd c (by decide)) (fun _ => ?_)
  refine g_aload_n C dX7_init_41 1 rfl ?_
  refine g_get C inX7 0 rfl rfl 2 (by decide) wF_X7_27 rfl dX7_init_42 ?_
  refine g_iload_n C dX7_init_45 0 rfl ?_
  refine g_new (fs := [.null, .int 0, .int 0, .int 0, .int 0]) C inX6 tyX6 tyX6_ok wL_X7_25 wT_X6 wN_X6 rfl rfl ⟨Nat.le_of_ble_eq_true rfl, Nat.le_of_ble_eq_true rfl⟩ dX7_init_46 (fun q_6 => gG.eqw (ws' := [oX7 h0 (.ref q_1) (.ref q_2) (.ref q_3) 0, oX8 q_1 (.ref q_least_1), aI Y q_least_1 2 least_1, oX4 q_2 (.ref q_ofPrime_1) (.ref q_cells_1), aI Y q_ofPrime_1 18 ofPrime_1, aI Y q_cells_1 216 cells_1, aR Y q_3 4 z_3, oX6 q_4 (.ref q_sums_1) function_1 modulus_1 filled_1 used_1, aI Y q_sums_1 2 sums_1, oX6 q_5 (.ref q_sums_2) function_2 modulus_2 filled_2 used_2, aI Y q_sums_2 2 sums_2, oX6 q_6 (.null) 0 0 0 0]) rfl ?_)
  refine g_dup C dX7_init_49 rfl ?_
  obtain ⟨P_5, hP, h⟩ := h
  refine g_callIN (As := []) (rest := [.ref q_6, .int 2, .ref q_3]) C (mX6_init l D Y q_6 P_5 hP) dX7_init_50 rfl wNM_X7_31 wI_X6_init wN_X6 wC_X6_init (n := 0) (by decide +kernel) rfl rfl ⟨Nat.le_of_ble_eq_true rfl, Nat.le_of_ble_eq_true rfl⟩ ⟨Nat.le_of_ble_eq_true rfl, Nat.le_of_ble_eq_true rfl⟩ (Nat.le_of_ble_eq_true rfl) [11] [0, 1, 2, 3, 4, 5, 6, 7, 8, 9, 10] rfl rfl rfl (fun v wc hv => ?_)
  obtain ⟨q_sums_3, function_3, modulus_3, filled_3, used_3, sums_3, rfl, rfl, hq⟩ := hv
  replace h := h function_3 modulus_3 filled_3 used_3 sums_3 hq
  refine gG.eqw (ws' := [oX7 h0 (.ref q_1) (.ref q_2) (.ref q_3) 0, oX8 q_1 (.ref q_least_1), aI Y q_least_1 2 least_1, oX4 q_2 (.ref q_ofPrime_1) (.ref q_cells_1), aI Y q_ofPrime_1 18 ofPrime_1, aI Y q_cells_1 216 cells_1, aR Y q_3 4 z_3, oX6 q_4 (.ref q_sums_1) function_1 modulus_1 filled_1 used_1, aI Y q_sums_1 2 sums_1, oX6 q_5 (.ref q_sums_2) function_2 modulus_2 filled_2 used_2, aI Y q_sums_2 2 sums_2, oX6 q_6 (.ref q_sums_3) function_3 modulus_3 filled_3 used_3, aI Y q_sums_3 2 sums_3]) rfl ?_
  refine g_aast C 6 11 rfl rfl (by unfold vp_in; decide) dX7_init_53 (fun z_4 ez_4 => gG.eqw (ws' := [oX7 h0 (.ref q_1) (.ref q_2) (.ref q_3) 0, oX8 q_1 (.ref q_least_1), aI Y q_least_1 2 least_1, oX4 q_2 (.ref q_ofPrime_1) (.ref q_cells_1), aI Y q_ofPrime_1 18 ofPrime_1, aI Y q_cells_1 216 cells_1, aR Y q_3 4 z_4, oX6 q_4 (.ref q_sums_1) function_1 modulus_1 filled_1 used_1, aI Y q_sums_1 2 sums_1, oX6 q_5 (.ref q_sums_2) function_2 modulus_2 filled_2 used_2, aI Y q_sums_2 2 sums_2, oX6 q_6 (.ref q_sums_3) function_3 modulus_3 filled_3 used_3, aI Y q_sums_3 2 sums_3]) rfl ?_)
  refine g_iinc (v := 3) (lv' := [(1, .int 3), (0, .ref h0)]) C dX7_init_54 0 rfl rfl (by decide) rfl ?_
  refine g_goto (tgt := 36) C dX7_init_57 (by decide) ?_
  refine g_iload_n C dX7_init_36 0 rfl ?_
  refine g_iconst (v := 4) C dX7_init_37 rfl ?_
  refine g_icmp_ge (tgt := 60) C dX7_init_38 (by decide) (fun c => absurd c (by decide)) (fun _ => ?_)
  refine g_aload_n C dX7_init_41 1 rfl ?_
  refine g_get C inX7 0 rfl rfl 2 (by decide) wF_X7_27 rfl dX7_init_42 ?_
  refine g_iload_n C dX7_init_45 0 rfl ?_
  refine g_new (fs := [.null, .int 0, .int 0, .int 0, .int 0]) C inX6 tyX6 tyX6_ok wL_X7_25 wT_X6 wN_X6 rfl rfl ⟨Nat.le_of_ble_eq_true rfl, Nat.le_of_ble_eq_true rfl⟩ dX7_init_46 (fun q_7 => gG.eqw (ws' := [oX7 h0 (.ref q_1) (.ref q_2) (.ref q_3) 0, oX8 q_1 (.ref q_least_1), aI Y q_least_1 2 least_1, oX4 q_2 (.ref q_ofPrime_1) (.ref q_cells_1), aI Y q_ofPrime_1 18 ofPrime_1, aI Y q_cells_1 216 cells_1, aR Y q_3 4 z_4, oX6 q_4 (.ref q_sums_1) function_1 modulus_1 filled_1 used_1, aI Y q_sums_1 2 sums_1, oX6 q_5 (.ref q_sums_2) function_2 modulus_2 filled_2 used_2, aI Y q_sums_2 2 sums_2, oX6 q_6 (.ref q_sums_3) function_3 modulus_3 filled_3 used_3, aI Y q_sums_3 2 sums_3, oX6 q_7 (.null) 0 0 0 0]) rfl ?_)
  refine g_dup C dX7_init_49 rfl ?_
  obtain ⟨P_6, hP, h⟩ := h
  refine g_callIN (As := []) (rest := [.ref q_7, .int 3, .ref q_3]) C (mX6_init l D Y q_7 P_6 hP) dX7_init_50 rfl wNM_X7_31 wI_X6_init wN_X6 wC_X6_init (n := 0) (by decide +kernel) rfl rfl ⟨Nat.le_of_ble_eq_true rfl, Nat.le_of_ble_eq_true rfl⟩ ⟨Nat.le_of_ble_eq_true rfl, Nat.le_of_ble_eq_true rfl⟩ (Nat.le_of_ble_eq_true rfl) [13] [0, 1, 2, 3, 4, 5, 6, 7, 8, 9, 10, 11, 12] rfl rfl rfl (fun v wc hv => ?_)
  obtain ⟨q_sums_4, function_4, modulus_4, filled_4, used_4, sums_4, rfl, rfl, hq⟩ := hv
  replace h := h function_4 modulus_4 filled_4 used_4 sums_4 hq
  refine gG.eqw (ws' := [oX7 h0 (.ref q_1) (.ref q_2) (.ref q_3) 0, oX8 q_1 (.ref q_least_1), aI Y q_least_1 2 least_1, oX4 q_2 (.ref q_ofPrime_1) (.ref q_cells_1), aI Y q_ofPrime_1 18 ofPrime_1, aI Y q_cells_1 216 cells_1, aR Y q_3 4 z_4, oX6 q_4 (.ref q_sums_1) function_1 modulus_1 filled_1 used_1, aI Y q_sums_1 2 sums_1, oX6 q_5 (.ref q_sums_2) function_2 modulus_2 filled_2 used_2, aI Y q_sums_2 2 sums_2, oX6 q_6 (.ref q_sums_3) function_3 modulus_3 filled_3 used_3, aI Y q_sums_3 2 sums_3, oX6 q_7 (.ref q_sums_4) function_4 modulus_4 filled_4 used_4, aI Y q_sums_4 2 sums_4]) rfl ?_
  refine g_aast C 6 13 rfl rfl (by unfold vp_in; decide) dX7_init_53 (fun z_5 ez_5 => gG.eqw (ws' := [oX7 h0 (.ref q_1) (.ref q_2) (.ref q_3) 0, oX8 q_1 (.ref q_least_1), aI Y q_least_1 2 least_1, oX4 q_2 (.ref q_ofPrime_1) (.ref q_cells_1), aI Y q_ofPrime_1 18 ofPrime_1, aI Y q_cells_1 216 cells_1, aR Y q_3 4 z_5, oX6 q_4 (.ref q_sums_1) function_1 modulus_1 filled_1 used_1, aI Y q_sums_1 2 sums_1, oX6 q_5 (.ref q_sums_2) function_2 modulus_2 filled_2 used_2, aI Y q_sums_2 2 sums_2, oX6 q_6 (.ref q_sums_3) function_3 modulus_3 filled_3 used_3, aI Y q_sums_3 2 sums_3, oX6 q_7 (.ref q_sums_4) function_4 modulus_4 filled_4 used_4, aI Y q_sums_4 2 sums_4]) rfl ?_)
  refine g_iinc (v := 4) (lv' := [(1, .int 4), (0, .ref h0)]) C dX7_init_54 0 rfl rfl (by decide) rfl ?_
  refine g_goto (tgt := 36) C dX7_init_57 (by decide) ?_
  refine g_iload_n C dX7_init_36 0 rfl ?_
  refine g_iconst (v := 4) C dX7_init_37 rfl ?_
  refine g_icmp_ge (tgt := 60) C dX7_init_38 (by decide) (fun _ => ?_) (fun c => absurd (by decide) c)
  refine gG.rowR (q0 := 6) (g := fun j => some ((fun j => if j = 0 then q_4 else if j = 1 then q_5 else if j = 2 then q_6 else q_7) j)) rfl (fun j hj => by subst ez_5 ez_4 ez_3 ez_2 ez_1; match j, hj with | 0, _ => rfl | 1, _ => rfl | 2, _ => rfl | 3, _ => rfl | j + 4, h4 => exact absurd h4 (by omega)) ?_
  refine gG.eqw (ws' := [oX7 h0 (.ref q_1) (.ref q_2) (.ref q_3) 0, oX8 q_1 (.ref q_least_1), aI Y q_least_1 2 least_1, oX4 q_2 (.ref q_ofPrime_1) (.ref q_cells_1), aI Y q_ofPrime_1 18 ofPrime_1, aI Y q_cells_1 216 cells_1, aR Y q_3 4 (fun j => some ((fun j => if j = 0 then q_4 else if j = 1 then q_5 else if j = 2 then q_6 else q_7) j)), oX6 q_4 (.ref q_sums_1) function_1 modulus_1 filled_1 used_1, aI Y q_sums_1 2 sums_1, oX6 q_5 (.ref q_sums_2) function_2 modulus_2 filled_2 used_2, aI Y q_sums_2 2 sums_2, oX6 q_6 (.ref q_sums_3) function_3 modulus_3 filled_3 used_3, aI Y q_sums_3 2 sums_3, oX6 q_7 (.ref q_sums_4) function_4 modulus_4 filled_4 used_4, aI Y q_sums_4 2 sums_4]) rfl ?_
  refine gG.perm (ws' := (rowsW Y (fun j => if j = 0 then q_4 else if j = 1 then q_5 else if j = 2 then q_6 else q_7) (fun j => if j = 0 then q_sums_1 else if j = 1 then q_sums_2 else if j = 2 then q_sums_3 else q_sums_4) (fun j => if j = 0 then function_1 else if j = 1 then function_2 else if j = 2 then function_3 else function_4) (fun j => if j = 0 then modulus_1 else if j = 1 then modulus_2 else if j = 2 then modulus_3 else modulus_4) (fun j => if j = 0 then filled_1 else if j = 1 then filled_2 else if j = 2 then filled_3 else filled_4) (fun j => if j = 0 then used_1 else if j = 1 then used_2 else if j = 2 then used_3 else used_4) (fun j => if j = 0 then 2 else if j = 1 then 2 else if j = 2 then 2 else 2) (fun j => if j = 0 then sums_1 else if j = 1 then sums_2 else if j = 2 then sums_3 else sums_4) ++ [oX7 h0 (.ref q_1) (.ref q_2) (.ref q_3) 0, oX8 q_1 (.ref q_least_1), aI Y q_least_1 2 least_1, oX4 q_2 (.ref q_ofPrime_1) (.ref q_cells_1), aI Y q_ofPrime_1 18 ofPrime_1, aI Y q_cells_1 216 cells_1, aR Y q_3 4 (fun j => some ((fun j => if j = 0 then q_4 else if j = 1 then q_5 else if j = 2 then q_6 else q_7) j))])) [7, 8, 9, 10, 11, 12, 13, 14, 0, 1, 2, 3, 4, 5, 6] rfl rfl ?_
  exact g_vret C hR (Nat.le_of_ble_eq_true rfl) (Nat.le_of_ble_eq_true rfl) dX7_init_60 ⟨(fun j => if j = 0 then q_4 else if j = 1 then q_5 else if j = 2 then q_6 else q_7), (fun j => if j = 0 then q_sums_1 else if j = 1 then q_sums_2 else if j = 2 then q_sums_3 else q_sums_4), (fun j => if j = 0 then function_1 else if j = 1 then function_2 else if j = 2 then function_3 else function_4), (fun j => if j = 0 then modulus_1 else if j = 1 then modulus_2 else if j = 2 then modulus_3 else modulus_4), (fun j => if j = 0 then filled_1 else if j = 1 then filled_2 else if j = 2 then filled_3 else filled_4), (fun j => if j = 0 then used_1 else if j = 1 then used_2 else if j = 2 then used_3 else used_4), (fun j => if j = 0 then 2 else if j = 1 then 2 else if j = 2 then 2 else 2), (fun j => if j = 0 then sums_1 else if j = 1 then sums_2 else if j = 2 then sums_3 else sums_4), q_1, q_2, q_3, 0, q_least_1, least_1, q_ofPrime_1, q_cells_1, ofPrime_1, cells_1, rfl, rfl, h⟩
theorem dX7_forget_0 : decode cX7_forget 0 = .ok (.iconst 0, 1) := by decide +kernel
theorem dX7_forget_1 : decode cX7_forget 1 = .ok (.istore_n 1, 1) := by decide +kernel
theorem dX7_forget_2 : decode cX7_forget 2 = .ok (.iload_n 1, 1) := by decide +kernel
theorem dX7_forget_3 : decode cX7_forget 3 = .ok (.iconst 4, 1) := by decide +kernel
theorem dX7_forget_4 : decode cX7_forget 4 = .ok (.if_icmp .ge 19, 3) := by decide +kernel
theorem dX7_forget_7 : decode cX7_forget 7 = .ok (.aload_n 0, 1) := by decide +kernel
theorem dX7_forget_8 : decode cX7_forget 8 = .ok (.getfield 27, 3) := by decide +kernel
theorem dX7_forget_11 : decode cX7_forget 11 = .ok (.iload_n 1, 1) := by decide +kernel
theorem dX7_forget_12 : decode cX7_forget 12 = .ok (.aaload, 1) := by decide +kernel
theorem dX7_forget_13 : decode cX7_forget 13 = .ok (.iconst (-1), 1) := by decide +kernel
theorem dX7_forget_14 : decode cX7_forget 14 = .ok (.putfield 32, 3) := by decide +kernel
theorem dX7_forget_17 : decode cX7_forget 17 = .ok (.iinc 1 1, 3) := by decide +kernel
theorem dX7_forget_20 : decode cX7_forget 20 = .ok (.goto (-18), 3) := by decide +kernel
theorem dX7_forget_23 : decode cX7_forget 23 = .ok (.return_, 1) := by decide +kernel
/-- QuotientSums$Rows.forget()V -/
def wX7_forget (turn : Int32) (rf : Nat → Int32) (rm : Nat → Int32) (rl : Nat → Int32) (ru : Nat → Int32) (rn : Nat → Nat) (rv : Nat → Nat → Int32)  (Q : (Nat → Int32) → Prop) : Prop :=
  (∀ rf_1 : Nat → Int32, rf_1 = upd rf 0 (-1) → ∀ rf_2 : Nat → Int32, rf_2 = upd rf_1 1 (-1) → ∀ rf_3 : Nat → Int32, rf_3 = upd rf_2 2 (-1) → ∀ rf_4 : Nat → Int32, rf_4 = upd rf_3 3 (-1) → (Q rf_4))
set_option maxHeartbeats 4000000 in
set_option maxRecDepth 100000 in
theorem mX7_forget (l : Launch) (D : va_G) (Y : Nat → ClassId) (h0 : Nat) (ra : Nat → Nat) (v_sieve : Value) (v_powers : Value) (q_rows : Nat) (turn : Int32) (rs : Nat → Nat) (rf : Nat → Int32) (rm : Nat → Int32) (rl : Nat → Int32) (ru : Nat → Int32) (rn : Nat → Nat) (rv : Nat → Nat → Int32)  (Q : (Nat → Int32) → Prop) (h : wX7_forget turn rf rm rl ru rn rv Q) : gM l D Y yX7_forget cX7_forget 2 none 0 0 0 0 [.ref h0] (rowsW Y ra rs rf rm rl ru rn rv ++ [oX7 h0 (v_sieve) (v_powers) (.ref q_rows) turn, aR Y q_rows 4 (fun j => some (ra j))]) (fun v w => ∃ rf' : Nat → Int32, v = none ∧ w = (rowsW Y ra rs rf' rm rl ru rn rv ++ [oX7 h0 (v_sieve) (v_powers) (.ref q_rows) turn, aR Y q_rows 4 (fun j => some (ra j))]) ∧ Q rf') := by
  refine gM_of (own := RX7) (by decide +kernel) rfl (Nat.le_of_ble_eq_true rfl) rfl (fun E C hR => ?_)
  unfold wX7_forget at h
  refine g_iconst (v := 0) C dX7_forget_0 rfl ?_
  refine g_istore_n (lv' := [(1, .int 0), (0, .ref h0)]) C dX7_forget_1 (by decide) rfl ?_
  refine g_iload_n C dX7_forget_2 0 rfl ?_
  refine g_iconst (v := 4) C dX7_forget_3 rfl ?_
  refine g_icmp_ge (tgt := 23) C dX7_forget_4 (by decide) (fun c => absurd c (by decide)) (fun _ => ?_)
  refine g_aload_n C dX7_forget_7 1 rfl ?_
  refine g_get C inX7 8 rfl rfl 2 (by decide) wF_X7_27 rfl dX7_forget_8 ?_
  refine g_iload_n C dX7_forget_11 0 rfl ?_
  refine g_aald C 9 rfl (by unfold vp_in; decide) dX7_forget_12 ?_
  refine g_iconst (v := (-1)) C dX7_forget_13 rfl ?_
  refine g_put C inX6 tyX6 tyX6_ok nmX6 0 rfl rfl 1 (by decide) wF_X7_32 rfl rfl rfl (Nat.le_of_ble_eq_true rfl) (ws' := (rowsW Y ra rs (upd rf 0 (-1)) rm rl ru rn rv ++ [oX7 h0 (v_sieve) (v_powers) (.ref q_rows) turn, aR Y q_rows 4 (fun j => some (ra j))])) rfl dX7_forget_14 ?_
  obtain ⟨rf_1, erf_1⟩ : ∃ z, z = upd rf 0 (-1) := ⟨_, rfl⟩
  refine gG.eqw (ws' := (rowsW Y ra rs rf_1 rm rl ru rn rv ++ [oX7 h0 (v_sieve) (v_powers) (.ref q_rows) turn, aR Y q_rows 4 (fun j => some (ra j))])) (by rw [erf_1]) ?_
  replace h := h rf_1 erf_1
  refine g_iinc (v := 1) (lv' := [(1, .int 1), (0, .ref h0)]) C dX7_forget_17 0 rfl rfl (by decide) rfl ?_
  refine g_goto (tgt := 2) C dX7_forget_20 (by decide) ?_
  refine g_iload_n C dX7_forget_2 0 rfl ?_
  refine g_iconst (v := 4) C dX7_forget_3 rfl ?_
  refine g_icmp_ge (tgt := 23) C dX7_forget_4 (by decide) (fun c => absurd c (by decide)) (fun _ => ?_)
  refine g_aload_n C dX7_forget_7 1 rfl ?_
  refine g_get C inX7 8 rfl rfl 2 (by decide) wF_X7_27 rfl dX7_forget_8 ?_
  refine g_iload_n C dX7_forget_11 0 rfl ?_
  refine g_aald C 9 rfl (by unfold vp_in; decide) dX7_forget_12 ?_
  refine g_iconst (v := (-1)) C dX7_forget_13 rfl ?_
  refine g_put C inX6 tyX6 tyX6_ok nmX6 2 rfl rfl 1 (by decide) wF_X7_32 rfl rfl rfl (Nat.le_of_ble_eq_true rfl) (ws' := (rowsW Y ra rs (upd rf_1 1 (-1)) rm rl ru rn rv ++ [oX7 h0 (v_sieve) (v_powers) (.ref q_rows) turn, aR Y q_rows 4 (fun j => some (ra j))])) rfl dX7_forget_14 ?_
  obtain ⟨rf_2, erf_2⟩ : ∃ z, z = upd rf_1 1 (-1) := ⟨_, rfl⟩
  refine gG.eqw (ws' := (rowsW Y ra rs rf_2 rm rl ru rn rv ++ [oX7 h0 (v_sieve) (v_powers) (.ref q_rows) turn, aR Y q_rows 4 (fun j => some (ra j))])) (by rw [erf_2]) ?_
  replace h := h rf_2 erf_2
  refine g_iinc (v := 2) (lv' := [(1, .int 2), (0, .ref h0)]) C dX7_forget_17 0 rfl rfl (by decide) rfl ?_
  refine g_goto (tgt := 2) C dX7_forget_20 (by decide) ?_
  refine g_iload_n C dX7_forget_2 0 rfl ?_
  refine g_iconst (v := 4) C dX7_forget_3 rfl ?_
  refine g_icmp_ge (tgt := 23) C dX7_forget_4 (by decide) (fun c => absurd c (by decide)) (fun _ => ?_)
  refine g_aload_n C dX7_forget_7 1 rfl ?_
  refine g_get C inX7 8 rfl rfl 2 (by decide) wF_X7_27 rfl dX7_forget_8 ?_
  refine g_iload_n C dX7_forget_11 0 rfl ?_
  refine g_aald C 9 rfl (by unfold vp_in; decide) dX7_forget_12 ?_
  refine g_iconst (v := (-1)) C dX7_forget_13 rfl ?_
  refine g_put C inX6 tyX6 tyX6_ok nmX6 4 rfl rfl 1 (by decide) wF_X7_32 rfl rfl rfl (Nat.le_of_ble_eq_true rfl) (ws' := (rowsW Y ra rs (upd rf_2 2 (-1)) rm rl ru rn rv ++ [oX7 h0 (v_sieve) (v_powers) (.ref q_rows) turn, aR Y q_rows 4 (fun j => some (ra j))])) rfl dX7_forget_14 ?_
  obtain ⟨rf_3, erf_3⟩ : ∃ z, z = upd rf_2 2 (-1) := ⟨_, rfl⟩
  refine gG.eqw (ws' := (rowsW Y ra rs rf_3 rm rl ru rn rv ++ [oX7 h0 (v_sieve) (v_powers) (.ref q_rows) turn, aR Y q_rows 4 (fun j => some (ra j))])) (by rw [erf_3]) ?_
  replace h := h rf_3 erf_3
  refine g_iinc (v := 3) (lv' := [(1, .int 3), (0, .ref h0)]) C dX7_forget_17 0 rfl rfl (by decide) rfl ?_
  refine g_goto (tgt := 2) C dX7_forget_20 (by decide) ?_
  refine g_iload_n C dX7_forget_2 0 rfl ?_
  refine g_iconst (v := 4) C dX7_forget_3 rfl ?_
  refine g_icmp_ge (tgt := 23) C dX7_forget_4 (by decide) (fun c => absurd c (by decide)) (fun _ => ?_)
  refine g_aload_n C dX7_forget_7 1 rfl ?_
  refine g_get C inX7 8 rfl rfl 2 (by decide) wF_X7_27 rfl dX7_forget_8 ?_
  refine g_iload_n C dX7_forget_11 0 rfl ?_
  refine g_aald C 9 rfl (by unfold vp_in; decide) dX7_forget_12 ?_
  refine g_iconst (v := (-1)) C dX7_forget_13 rfl ?_
  refine g_put C inX6 tyX6 tyX6_ok nmX6 6 rfl rfl 1 (by decide) wF_X7_32 rfl rfl rfl (Nat.le_of_ble_eq_true rfl) (ws' := (rowsW Y ra rs (upd rf_3 3 (-1)) rm rl ru rn rv ++ [oX7 h0 (v_sieve) (v_powers) (.ref q_rows) turn, aR Y q_rows 4 (fun j => some (ra j))])) rfl dX7_forget_14 ?_
  obtain ⟨rf_4, erf_4⟩ : ∃ z, z = upd rf_3 3 (-1) := ⟨_, rfl⟩
  refine gG.eqw (ws' := (rowsW Y ra rs rf_4 rm rl ru rn rv ++ [oX7 h0 (v_sieve) (v_powers) (.ref q_rows) turn, aR Y q_rows 4 (fun j => some (ra j))])) (by rw [erf_4]) ?_
  replace h := h rf_4 erf_4
  refine g_iinc (v := 4) (lv' := [(1, .int 4), (0, .ref h0)]) C dX7_forget_17 0 rfl rfl (by decide) rfl ?_
  refine g_goto (tgt := 2) C dX7_forget_20 (by decide) ?_
  refine g_iload_n C dX7_forget_2 0 rfl ?_
  refine g_iconst (v := 4) C dX7_forget_3 rfl ?_
  refine g_icmp_ge (tgt := 23) C dX7_forget_4 (by decide) (fun _ => ?_) (fun c => absurd (by decide) c)
  exact g_vret C hR (Nat.le_of_ble_eq_true rfl) (Nat.le_of_ble_eq_true rfl) dX7_forget_23 ⟨rf_4, rfl, rfl, h⟩
theorem dX7_rowOf_0 : decode cX7_rowOf 0 = .ok (.aload_n 0, 1) := by decide +kernel
theorem dX7_rowOf_1 : decode cX7_rowOf 1 = .ok (.getfield 27, 3) := by decide +kernel
theorem dX7_rowOf_4 : decode cX7_rowOf 4 = .ok (.iconst 0, 1) := by decide +kernel
theorem dX7_rowOf_5 : decode cX7_rowOf 5 = .ok (.aaload, 1) := by decide +kernel
theorem dX7_rowOf_6 : decode cX7_rowOf 6 = .ok (.astore_n 3, 1) := by decide +kernel
theorem dX7_rowOf_7 : decode cX7_rowOf 7 = .ok (.iconst 0, 1) := by decide +kernel
theorem dX7_rowOf_8 : decode cX7_rowOf 8 = .ok (.istore 4, 2) := by decide +kernel
theorem dX7_rowOf_10 : decode cX7_rowOf 10 = .ok (.iload 4, 2) := by decide +kernel
theorem dX7_rowOf_12 : decode cX7_rowOf 12 = .ok (.iconst 4, 1) := by decide +kernel
theorem dX7_rowOf_13 : decode cX7_rowOf 13 = .ok (.if_icmp .ge 54, 3) := by decide +kernel
theorem dX7_rowOf_16 : decode cX7_rowOf 16 = .ok (.aload_n 0, 1) := by decide +kernel
theorem dX7_rowOf_17 : decode cX7_rowOf 17 = .ok (.getfield 27, 3) := by decide +kernel
theorem dX7_rowOf_20 : decode cX7_rowOf 20 = .ok (.iload 4, 2) := by decide +kernel
theorem dX7_rowOf_22 : decode cX7_rowOf 22 = .ok (.aaload, 1) := by decide +kernel
theorem dX7_rowOf_23 : decode cX7_rowOf 23 = .ok (.astore 5, 2) := by decide +kernel
theorem dX7_rowOf_25 : decode cX7_rowOf 25 = .ok (.aload 5, 2) := by decide +kernel
theorem dX7_rowOf_27 : decode cX7_rowOf 27 = .ok (.getfield 32, 3) := by decide +kernel
theorem dX7_rowOf_30 : decode cX7_rowOf 30 = .ok (.iload_n 1, 1) := by decide +kernel
theorem dX7_rowOf_31 : decode cX7_rowOf 31 = .ok (.if_icmp .ne 15, 3) := by decide +kernel
theorem dX7_rowOf_34 : decode cX7_rowOf 34 = .ok (.aload 5, 2) := by decide +kernel
theorem dX7_rowOf_36 : decode cX7_rowOf 36 = .ok (.getfield 65, 3) := by decide +kernel
theorem dX7_rowOf_39 : decode cX7_rowOf 39 = .ok (.iload_n 2, 1) := by decide +kernel
theorem dX7_rowOf_40 : decode cX7_rowOf 40 = .ok (.if_icmp .ne 6, 3) := by decide +kernel
theorem dX7_rowOf_43 : decode cX7_rowOf 43 = .ok (.aload 5, 2) := by decide +kernel
theorem dX7_rowOf_45 : decode cX7_rowOf 45 = .ok (.areturn, 1) := by decide +kernel
theorem dX7_rowOf_46 : decode cX7_rowOf 46 = .ok (.aload 5, 2) := by decide +kernel
theorem dX7_rowOf_48 : decode cX7_rowOf 48 = .ok (.getfield 48, 3) := by decide +kernel
theorem dX7_rowOf_51 : decode cX7_rowOf 51 = .ok (.aload_n 3, 1) := by decide +kernel
theorem dX7_rowOf_52 : decode cX7_rowOf 52 = .ok (.getfield 48, 3) := by decide +kernel
theorem dX7_rowOf_55 : decode cX7_rowOf 55 = .ok (.if_icmp .ge 6, 3) := by decide +kernel
theorem dX7_rowOf_58 : decode cX7_rowOf 58 = .ok (.aload 5, 2) := by decide +kernel
theorem dX7_rowOf_60 : decode cX7_rowOf 60 = .ok (.astore_n 3, 1) := by decide +kernel
theorem dX7_rowOf_61 : decode cX7_rowOf 61 = .ok (.iinc 4 1, 3) := by decide +kernel
theorem dX7_rowOf_64 : decode cX7_rowOf 64 = .ok (.goto (-54), 3) := by decide +kernel
theorem dX7_rowOf_67 : decode cX7_rowOf 67 = .ok (.aload_n 3, 1) := by decide +kernel
theorem dX7_rowOf_68 : decode cX7_rowOf 68 = .ok (.iload_n 1, 1) := by decide +kernel
theorem dX7_rowOf_69 : decode cX7_rowOf 69 = .ok (.iload_n 2, 1) := by decide +kernel
theorem dX7_rowOf_70 : decode cX7_rowOf 70 = .ok (.invokevirtual 66, 3) := by decide +kernel
theorem dX7_rowOf_73 : decode cX7_rowOf 73 = .ok (.aload_n 3, 1) := by decide +kernel
theorem dX7_rowOf_74 : decode cX7_rowOf 74 = .ok (.areturn, 1) := by decide +kernel
/-- QuotientSums$Rows.rowOf(II)LQuotientSums$Row; -/
def wX7_rowOf (turn : Int32) (rf : Nat → Int32) (rm : Nat → Int32) (rl : Nat → Int32) (ru : Nat → Int32) (rn : Nat → Nat) (rv : Nat → Nat → Int32) (a1 : Int32) (a2 : Int32) (Q : (Nat) → (Nat → Int32) → (Nat → Int32) → (Nat → Int32) → (Nat → Nat → Int32) → Prop) : Prop :=
  (∃ (Inv_1 : (Int32) → (Nat) → Prop) (Mea_1 : (Int32) → (Nat) → Nat), Inv_1 0 0 ∧ ∀ (x4_1 : Int32) (k_1 : Nat), Inv_1 x4_1 k_1 → ((4 ≤ x4_1 → (∃ (P_1 : (Int32) → (Int32) → (Int32) → (Nat → Int32) → Prop), wX6_begin (rf k_1) (rm k_1) (rl k_1) (ru k_1) (rn k_1) (rv k_1) a1 a2 P_1 ∧ ∀ (function_1 : Int32) (modulus_1 : Int32) (filled_1 : Int32) (sums_1 : Nat → Int32), P_1 function_1 modulus_1 filled_1 sums_1 → ∀ rf_1 : Nat → Int32, rf_1 = upd rf k_1 function_1 → ∀ rm_1 : Nat → Int32, rm_1 = upd rm k_1 modulus_1 → ∀ rl_1 : Nat → Int32, rl_1 = upd rl k_1 filled_1 → ∀ rv_1 : Nat → Nat → Int32, rv_1 = va_up rv k_1 sums_1 → (Q k_1 rf_1 rm_1 rl_1 rv_1))) ∧ (¬ 4 ≤ x4_1 → (vp_in x4_1 4 ∧ ((¬ (rf (x4_1.toNatClampNeg)) = a1 → (((ru k_1) ≤ (ru (x4_1.toNatClampNeg)) → (Inv_1 (x4_1 + 1) k_1 ∧ Mea_1 (x4_1 + 1) k_1 < Mea_1 x4_1 k_1)) ∧ (¬ (ru k_1) ≤ (ru (x4_1.toNatClampNeg)) → (Inv_1 (x4_1 + 1) (x4_1.toNatClampNeg) ∧ Mea_1 (x4_1 + 1) (x4_1.toNatClampNeg) < Mea_1 x4_1 k_1)))) ∧ ((rf (x4_1.toNatClampNeg)) = a1 → ((¬ (rm (x4_1.toNatClampNeg)) = a2 → (((ru k_1) ≤ (ru (x4_1.toNatClampNeg)) → (Inv_1 (x4_1 + 1) k_1 ∧ Mea_1 (x4_1 + 1) k_1 < Mea_1 x4_1 k_1)) ∧ (¬ (ru k_1) ≤ (ru (x4_1.toNatClampNeg)) → (Inv_1 (x4_1 + 1) (x4_1.toNatClampNeg) ∧ Mea_1 (x4_1 + 1) (x4_1.toNatClampNeg) < Mea_1 x4_1 k_1)))) ∧ ((rm (x4_1.toNatClampNeg)) = a2 → (Q (x4_1.toNatClampNeg) rf rm rl rv)))))))))
set_option maxHeartbeats 4000000 in
set_option maxRecDepth 100000 in
theorem mX7_rowOf (l : Launch) (D : va_G) (Y : Nat → ClassId) (h0 : Nat) (ra : Nat → Nat) (v_sieve : Value) (v_powers : Value) (q_rows : Nat) (turn : Int32) (rs : Nat → Nat) (rf : Nat → Int32) (rm : Nat → Int32) (rl : Nat → Int32) (ru : Nat → Int32) (rn : Nat → Nat) (rv : Nat → Nat → Int32) (a1 : Int32) (a2 : Int32) (Q : (Nat) → (Nat → Int32) → (Nat → Int32) → (Nat → Int32) → (Nat → Nat → Int32) → Prop) (h : wX7_rowOf turn rf rm rl ru rn rv a1 a2 Q) : gM l D Y yX7_rowOf cX7_rowOf 6 (some (.object "QuotientSums$Row")) 1 22 0 0 [.ref h0, .int a1, .int a2] (rowsW Y ra rs rf rm rl ru rn rv ++ [oX7 h0 (v_sieve) (v_powers) (.ref q_rows) turn, aR Y q_rows 4 (fun j => some (ra j))]) (fun v w => ∃ r : Nat, ∃ rf' : Nat → Int32, ∃ rm' : Nat → Int32, ∃ rl' : Nat → Int32, ∃ rv' : Nat → Nat → Int32, v = some (.ref (ra r)) ∧ w = (rowsW Y ra rs rf' rm' rl' ru rn rv' ++ [oX7 h0 (v_sieve) (v_powers) (.ref q_rows) turn, aR Y q_rows 4 (fun j => some (ra j))]) ∧ r < 4 ∧ Q r rf' rm' rl' rv') := by
  refine gM_of (own := RX7) (by decide +kernel) rfl (Nat.le_of_ble_eq_true rfl) rfl (fun E C hR => ?_)
  unfold wX7_rowOf at h
  refine g_aload_n C dX7_rowOf_0 0 rfl ?_
  refine g_get C inX7 8 rfl rfl 2 (by decide) wF_X7_27 rfl dX7_rowOf_1 ?_
  refine g_iconst (v := 0) C dX7_rowOf_4 rfl ?_
  refine g_aald C 9 rfl (by unfold vp_in; decide) dX7_rowOf_5 ?_
  refine g_astore_n (lv' := [(3, .ref (ra 0)), (0, .ref h0), (1, .int a1), (2, .int a2)]) C dX7_rowOf_6 (by decide) rfl ?_
  refine g_iconst (v := 0) C dX7_rowOf_7 rfl ?_
  refine g_istore (lv' := [(4, .int 0), (3, .ref (ra 0)), (0, .ref h0), (1, .int a1), (2, .int a2)]) C dX7_rowOf_8 (by decide) rfl ?_
  obtain ⟨Inv_1, Mea_1, hI1, hB1⟩ := h
  have key_1 : ∀ (n : Nat) (x4_1 : Int32) (k_1 : Nat) , Mea_1 x4_1 k_1 < n → Inv_1 x4_1 k_1 → k_1 < 4 → gG E 0 0 (rowsW Y ra rs rf rm rl ru rn rv ++ [oX7 h0 (v_sieve) (v_powers) (.ref q_rows) turn, aR Y q_rows 4 (fun j => some (ra j))]) [(0, .ref h0), (1, .int a1), (2, .int a2), (3, .ref (ra k_1)), (4, .int x4_1)] [] 10 := by
    intro n
    induction n with
    | zero => exact fun _ _ hm => absurd hm (Nat.not_lt_zero _)
    | succ n ih1 =>
      intro x4_1 k_1  hm1 hI hk_k_1
      have h := hB1 x4_1 k_1 hI
      refine g_iload C dX7_rowOf_10 4 rfl ?_
      refine g_iconst (v := 4) C dX7_rowOf_12 rfl ?_
      refine g_icmp_ge (tgt := 67) C dX7_rowOf_13 (by decide) (fun c_1 => ?_) (fun c_1 => ?_)
      · replace h := h.1 c_1
        refine g_aload_n C dX7_rowOf_67 3 rfl ?_
        refine g_iload_n C dX7_rowOf_68 1 rfl ?_
        refine g_iload_n C dX7_rowOf_69 2 rfl ?_
        obtain ⟨P_1, hP, h⟩ := h
        refine g_callV (As := [.int a1, .int a2]) (rest := []) C (mX6_begin_at l D Y ra k_1 (hk_k_1) rs rf rm rl ru rn rv a1 a2 P_1 hP) dX7_rowOf_70 rfl wM_X7_66 wI_X6_begin wV_X6_begin wN_X6 wC_X6_begin (n := 2) (by decide +kernel) rfl (q0 := (2 * k_1)) (rowsW_obj0 _ _ _ _ _ _ _ _ _ (hk_k_1)) rfl ⟨Nat.le_of_ble_eq_true rfl, Nat.le_of_ble_eq_true rfl⟩ ⟨Nat.le_of_ble_eq_true rfl, Nat.le_of_ble_eq_true rfl⟩ (Nat.le_of_ble_eq_true rfl) [0, 1, 2, 3, 4, 5, 6, 7] [8, 9] rfl rfl rfl (fun v wc hv => ?_)
        obtain ⟨function_1, modulus_1, filled_1, sums_1, rfl, rfl, hq⟩ := hv
        replace h := h function_1 modulus_1 filled_1 sums_1 hq
        obtain ⟨rf_1, erf_1⟩ : ∃ z, z = upd rf k_1 function_1 := ⟨_, rfl⟩
        rw [← erf_1]
        replace h := h rf_1 erf_1
        obtain ⟨rm_1, erm_1⟩ : ∃ z, z = upd rm k_1 modulus_1 := ⟨_, rfl⟩
        rw [← erm_1]
        replace h := h rm_1 erm_1
        obtain ⟨rl_1, erl_1⟩ : ∃ z, z = upd rl k_1 filled_1 := ⟨_, rfl⟩
        rw [← erl_1]
        replace h := h rl_1 erl_1
        obtain ⟨rv_1, erv_1⟩ : ∃ z, z = va_up rv k_1 sums_1 := ⟨_, rfl⟩
        rw [← erv_1]
        replace h := h rv_1 erv_1
        refine gG.perm (ws' := (rowsW Y ra rs rf_1 rm_1 rl_1 ru rn rv_1 ++ [oX7 h0 (v_sieve) (v_powers) (.ref q_rows) turn, aR Y q_rows 4 (fun j => some (ra j))])) [2, 3, 4, 5, 6, 7, 8, 9, 0, 1] rfl rfl ?_
        refine g_aload_n C dX7_rowOf_73 3 rfl ?_
        exact g_aret C hR (by first | exact Or.inl ⟨_, rfl⟩ | exact Or.inr ⟨_, rfl⟩) (Nat.le_of_ble_eq_true rfl) (Nat.le_of_ble_eq_true rfl) dX7_rowOf_74 ⟨k_1, rf_1, rm_1, rl_1, rv_1, rfl, rfl, hk_k_1, h⟩
      · replace h := h.2 c_1
        refine g_aload_n C dX7_rowOf_16 0 rfl ?_
        refine g_get C inX7 8 rfl rfl 2 (by decide) wF_X7_27 rfl dX7_rowOf_17 ?_
        refine g_iload C dX7_rowOf_20 4 rfl ?_
        obtain ⟨hc_1, h⟩ := h
        refine g_aald C 9 rfl hc_1 dX7_rowOf_22 ?_
        refine g_astore (lv' := [(5, .ref (ra (x4_1.toNatClampNeg))), (0, .ref h0), (1, .int a1), (2, .int a2), (3, .ref (ra k_1)), (4, .int x4_1)]) C dX7_rowOf_23 (by decide) rfl ?_
        refine g_aload C dX7_rowOf_25 0 rfl ?_
        refine g_get C inX6 (2 * (x4_1.toNatClampNeg)) (rowsW_obj _ _ _ _ _ _ _ _ _ _ (vp_lt hc_1)) rfl 1 (by decide) wF_X7_32 rfl dX7_rowOf_27 ?_
        refine g_iload_n C dX7_rowOf_30 2 rfl ?_
        refine g_icmp_ne (tgt := 46) C dX7_rowOf_31 (by decide) (fun c_2 => ?_) (fun c_2 => ?_)
        · replace h := h.1 c_2
          refine g_aload C dX7_rowOf_46 0 rfl ?_
          refine g_get C inX6 (2 * (x4_1.toNatClampNeg)) (rowsW_obj _ _ _ _ _ _ _ _ _ _ (vp_lt hc_1)) rfl 4 (by decide) wF_X7_48 rfl dX7_rowOf_48 ?_
          refine g_aload_n C dX7_rowOf_51 4 rfl ?_
          refine g_get C inX6 (2 * k_1) (rowsW_obj _ _ _ _ _ _ _ _ _ _ hk_k_1) rfl 4 (by decide) wF_X7_48 rfl dX7_rowOf_52 ?_
          refine g_icmp_ge (tgt := 61) C dX7_rowOf_55 (by decide) (fun c_3 => ?_) (fun c_3 => ?_)
          · replace h := h.1 c_3
            refine g_iinc (v := x4_1 + 1) (lv' := [(4, .int (x4_1 + 1)), (5, .ref (ra (x4_1.toNatClampNeg))), (0, .ref h0), (1, .int a1), (2, .int a2), (3, .ref (ra k_1))]) C dX7_rowOf_61 5 rfl rfl (by decide) rfl ?_
            refine g_goto (tgt := 10) C dX7_rowOf_64 (by decide) ?_
            refine gG.locals (lv' := [(0, .ref h0), (1, .int a1), (2, .int a2), (3, .ref (ra k_1)), (4, .int (x4_1 + 1))]) [2, 3, 4, 5, 0] rfl ?_
            exact ih1 (x4_1 + 1) k_1 (Nat.lt_of_lt_of_le h.2 (Nat.le_of_lt_succ hm1)) h.1 (hk_k_1)
          · replace h := h.2 c_3
            refine g_aload C dX7_rowOf_58 0 rfl ?_
            refine g_astore_n (lv' := [(3, .ref (ra (x4_1.toNatClampNeg))), (5, .ref (ra (x4_1.toNatClampNeg))), (0, .ref h0), (1, .int a1), (2, .int a2), (4, .int x4_1)]) C dX7_rowOf_60 (by decide) rfl ?_
            refine g_iinc (v := x4_1 + 1) (lv' := [(4, .int (x4_1 + 1)), (3, .ref (ra (x4_1.toNatClampNeg))), (5, .ref (ra (x4_1.toNatClampNeg))), (0, .ref h0), (1, .int a1), (2, .int a2)]) C dX7_rowOf_61 5 rfl rfl (by decide) rfl ?_
            refine g_goto (tgt := 10) C dX7_rowOf_64 (by decide) ?_
            refine gG.locals (lv' := [(0, .ref h0), (1, .int a1), (2, .int a2), (3, .ref (ra (x4_1.toNatClampNeg))), (4, .int (x4_1 + 1))]) [3, 4, 5, 1, 0] rfl ?_
            exact ih1 (x4_1 + 1) (x4_1.toNatClampNeg) (Nat.lt_of_lt_of_le h.2 (Nat.le_of_lt_succ hm1)) h.1 ((vp_lt hc_1))
        · replace h := h.2 c_2
          refine g_aload C dX7_rowOf_34 0 rfl ?_
          refine g_get C inX6 (2 * (x4_1.toNatClampNeg)) (rowsW_obj _ _ _ _ _ _ _ _ _ _ (vp_lt hc_1)) rfl 2 (by decide) wF_X7_65 rfl dX7_rowOf_36 ?_
          refine g_iload_n C dX7_rowOf_39 3 rfl ?_
          refine g_icmp_ne (tgt := 46) C dX7_rowOf_40 (by decide) (fun c_4 => ?_) (fun c_4 => ?_)
          · replace h := h.1 c_4
            refine g_aload C dX7_rowOf_46 0 rfl ?_
            refine g_get C inX6 (2 * (x4_1.toNatClampNeg)) (rowsW_obj _ _ _ _ _ _ _ _ _ _ (vp_lt hc_1)) rfl 4 (by decide) wF_X7_48 rfl dX7_rowOf_48 ?_
            refine g_aload_n C dX7_rowOf_51 4 rfl ?_
            refine g_get C inX6 (2 * k_1) (rowsW_obj _ _ _ _ _ _ _ _ _ _ hk_k_1) rfl 4 (by decide) wF_X7_48 rfl dX7_rowOf_52 ?_
            refine g_icmp_ge (tgt := 61) C dX7_rowOf_55 (by decide) (fun c_5 => ?_) (fun c_5 => ?_)
            · replace h := h.1 c_5
              refine g_iinc (v := x4_1 + 1) (lv' := [(4, .int (x4_1 + 1)), (5, .ref (ra (x4_1.toNatClampNeg))), (0, .ref h0), (1, .int a1), (2, .int a2), (3, .ref (ra k_1))]) C dX7_rowOf_61 5 rfl rfl (by decide) rfl ?_
              refine g_goto (tgt := 10) C dX7_rowOf_64 (by decide) ?_
              refine gG.locals (lv' := [(0, .ref h0), (1, .int a1), (2, .int a2), (3, .ref (ra k_1)), (4, .int (x4_1 + 1))]) [2, 3, 4, 5, 0] rfl ?_
              exact ih1 (x4_1 + 1) k_1 (Nat.lt_of_lt_of_le h.2 (Nat.le_of_lt_succ hm1)) h.1 (hk_k_1)
            · replace h := h.2 c_5
              refine g_aload C dX7_rowOf_58 0 rfl ?_
              refine g_astore_n (lv' := [(3, .ref (ra (x4_1.toNatClampNeg))), (5, .ref (ra (x4_1.toNatClampNeg))), (0, .ref h0), (1, .int a1), (2, .int a2), (4, .int x4_1)]) C dX7_rowOf_60 (by decide) rfl ?_
              refine g_iinc (v := x4_1 + 1) (lv' := [(4, .int (x4_1 + 1)), (3, .ref (ra (x4_1.toNatClampNeg))), (5, .ref (ra (x4_1.toNatClampNeg))), (0, .ref h0), (1, .int a1), (2, .int a2)]) C dX7_rowOf_61 5 rfl rfl (by decide) rfl ?_
              refine g_goto (tgt := 10) C dX7_rowOf_64 (by decide) ?_
              refine gG.locals (lv' := [(0, .ref h0), (1, .int a1), (2, .int a2), (3, .ref (ra (x4_1.toNatClampNeg))), (4, .int (x4_1 + 1))]) [3, 4, 5, 1, 0] rfl ?_
              exact ih1 (x4_1 + 1) (x4_1.toNatClampNeg) (Nat.lt_of_lt_of_le h.2 (Nat.le_of_lt_succ hm1)) h.1 ((vp_lt hc_1))
          · replace h := h.2 c_4
            refine g_aload C dX7_rowOf_43 0 rfl ?_
            exact g_aret C hR (by first | exact Or.inl ⟨_, rfl⟩ | exact Or.inr ⟨_, rfl⟩) (Nat.le_of_ble_eq_true rfl) (Nat.le_of_ble_eq_true rfl) dX7_rowOf_45 ⟨x4_1.toNatClampNeg, rf, rm, rl, rv, rfl, rfl, (vp_lt hc_1), h⟩
  refine gG.locals (lv' := [(0, .ref h0), (1, .int a1), (2, .int a2), (3, .ref (ra 0)), (4, .int 0)]) [2, 3, 4, 1, 0] rfl ?_
  exact key_1 (Mea_1 0 0 + 1) 0 0 (Nat.lt_succ_self _) hI1 (by decide)
theorem dX8_markFrom_0 : decode cX8_markFrom 0 = .ok (.iload_n 1, 1) := by decide +kernel
theorem dX8_markFrom_1 : decode cX8_markFrom 1 = .ok (.istore_n 3, 1) := by decide +kernel
theorem dX8_markFrom_2 : decode cX8_markFrom 2 = .ok (.iload_n 3, 1) := by decide +kernel
theorem dX8_markFrom_3 : decode cX8_markFrom 3 = .ok (.aload_n 0, 1) := by decide +kernel
theorem dX8_markFrom_4 : decode cX8_markFrom 4 = .ok (.getfield 9, 3) := by decide +kernel
theorem dX8_markFrom_7 : decode cX8_markFrom 7 = .ok (.arraylength, 1) := by decide +kernel
theorem dX8_markFrom_8 : decode cX8_markFrom 8 = .ok (.if_icmp .ge 26, 3) := by decide +kernel
theorem dX8_markFrom_11 : decode cX8_markFrom 11 = .ok (.aload_n 0, 1) := by decide +kernel
theorem dX8_markFrom_12 : decode cX8_markFrom 12 = .ok (.getfield 9, 3) := by decide +kernel
theorem dX8_markFrom_15 : decode cX8_markFrom 15 = .ok (.iload_n 3, 1) := by decide +kernel
theorem dX8_markFrom_16 : decode cX8_markFrom 16 = .ok (.iaload, 1) := by decide +kernel
theorem dX8_markFrom_17 : decode cX8_markFrom 17 = .ok (.ifCond .ne 10, 3) := by decide +kernel
theorem dX8_markFrom_20 : decode cX8_markFrom 20 = .ok (.aload_n 0, 1) := by decide +kernel
theorem dX8_markFrom_21 : decode cX8_markFrom 21 = .ok (.getfield 9, 3) := by decide +kernel
theorem dX8_markFrom_24 : decode cX8_markFrom 24 = .ok (.iload_n 3, 1) := by decide +kernel
theorem dX8_markFrom_25 : decode cX8_markFrom 25 = .ok (.iload_n 2, 1) := by decide +kernel
theorem dX8_markFrom_26 : decode cX8_markFrom 26 = .ok (.iastore, 1) := by decide +kernel
theorem dX8_markFrom_27 : decode cX8_markFrom 27 = .ok (.iload_n 3, 1) := by decide +kernel
theorem dX8_markFrom_28 : decode cX8_markFrom 28 = .ok (.iload_n 2, 1) := by decide +kernel
theorem dX8_markFrom_29 : decode cX8_markFrom 29 = .ok (.iadd, 1) := by decide +kernel
theorem dX8_markFrom_30 : decode cX8_markFrom 30 = .ok (.istore_n 3, 1) := by decide +kernel
theorem dX8_markFrom_31 : decode cX8_markFrom 31 = .ok (.goto (-29), 3) := by decide +kernel
theorem dX8_markFrom_34 : decode cX8_markFrom 34 = .ok (.return_, 1) := by decide +kernel
/-- QuotientSums$Sieve.markFrom(II)V -/
def wX8_markFrom (n_least : Nat) (least : Nat → Int32) (a1 : Int32) (a2 : Int32) (Q : (Nat → Int32) → Prop) : Prop :=
  (∃ (Inv_1 : (Nat → Int32) → (Int32) → Prop) (Mea_1 : (Nat → Int32) → (Int32) → Nat), Inv_1 least a1 ∧ ∀ (least_1 : Nat → Int32) (x3_1 : Int32), Inv_1 least_1 x3_1 → (((nI n_least) ≤ x3_1 → (Q least_1)) ∧ (¬ (nI n_least) ≤ x3_1 → (vp_in x3_1 n_least ∧ ((¬ (least_1 x3_1.toNatClampNeg) = 0 → (∀ x3_2 : Int32, x3_2 = x3_1 + a2 → (Inv_1 least_1 x3_2 ∧ Mea_1 least_1 x3_2 < Mea_1 least_1 x3_1))) ∧ ((least_1 x3_1.toNatClampNeg) = 0 → (∀ least_2 : Nat → Int32, least_2 = upd least_1 x3_1.toNatClampNeg a2 → ∀ x3_3 : Int32, x3_3 = x3_1 + a2 → (Inv_1 least_2 x3_3 ∧ Mea_1 least_2 x3_3 < Mea_1 least_1 x3_1))))))))
set_option maxHeartbeats 4000000 in
set_option maxRecDepth 100000 in
theorem mX8_markFrom (l : Launch) (D : va_G) (Y : Nat → ClassId) (h0 : Nat) (q_least : Nat) (n_least : Nat) (least : Nat → Int32) (a1 : Int32) (a2 : Int32) (Q : (Nat → Int32) → Prop) (h : wX8_markFrom n_least least a1 a2 Q) : gM l D Y yX8_markFrom cX8_markFrom 4 none 0 0 0 0 [.ref h0, .int a1, .int a2] [oX8 h0 (.ref q_least), aI Y q_least n_least least] (fun v w => ∃ least' : Nat → Int32, v = none ∧ w = [oX8 h0 (.ref q_least), aI Y q_least n_least least'] ∧ Q least') := by
  refine gM_of (own := RX8) (by decide +kernel) rfl (Nat.le_of_ble_eq_true rfl) rfl (fun E C hR => ?_)
  unfold wX8_markFrom at h
  refine g_iload_n C dX8_markFrom_0 1 rfl ?_
  refine g_istore_n (lv' := [(3, .int a1), (0, .ref h0), (1, .int a1), (2, .int a2)]) C dX8_markFrom_1 (by decide) rfl ?_
  obtain ⟨Inv_1, Mea_1, hI1, hB1⟩ := h
  have key_1 : ∀ (n : Nat) (least_1 : Nat → Int32) (x3_1 : Int32) , Mea_1 least_1 x3_1 < n → Inv_1 least_1 x3_1 → gG E 0 0 [oX8 h0 (.ref q_least), aI Y q_least n_least least_1] [(0, .ref h0), (2, .int a2), (3, .int x3_1)] [] 2 := by
    intro n
    induction n with
    | zero => exact fun _ _ hm => absurd hm (Nat.not_lt_zero _)
    | succ n ih1 =>
      intro least_1 x3_1  hm1 hI
      have h := hB1 least_1 x3_1 hI
      refine g_iload_n C dX8_markFrom_2 2 rfl ?_
      refine g_aload_n C dX8_markFrom_3 0 rfl ?_
      refine g_get C inX8 0 rfl rfl 0 (by decide) wF_X8_9 rfl dX8_markFrom_4 ?_
      refine g_alen (v := nI n_least) C 1 0 rfl rfl rfl dX8_markFrom_7 ?_
      refine g_icmp_ge (tgt := 34) C dX8_markFrom_8 (by decide) (fun c_1 => ?_) (fun c_1 => ?_)
      · replace h := h.1 c_1
        exact g_vret C hR (Nat.le_of_ble_eq_true rfl) (Nat.le_of_ble_eq_true rfl) dX8_markFrom_34 ⟨least_1, rfl, rfl, h⟩
      · replace h := h.2 c_1
        refine g_aload_n C dX8_markFrom_11 0 rfl ?_
        refine g_get C inX8 0 rfl rfl 0 (by decide) wF_X8_9 rfl dX8_markFrom_12 ?_
        refine g_iload_n C dX8_markFrom_15 2 rfl ?_
        obtain ⟨hc_1, h⟩ := h
        refine g_iald C 1 rfl hc_1 dX8_markFrom_16 ?_
        refine g_if_ne (tgt := 27) C dX8_markFrom_17 (by decide) (fun c_2 => ?_) (fun c_2 => ?_)
        · replace h := h.1 c_2
          refine g_iload_n C dX8_markFrom_27 2 rfl ?_
          refine g_iload_n C dX8_markFrom_28 1 rfl ?_
          refine g_iadd C dX8_markFrom_29 ?_
          refine g_topi (fun x3_2 ex3_2 => ?_)
          replace h := h x3_2 ex3_2
          refine g_istore_n (lv' := [(3, .int x3_2), (0, .ref h0), (2, .int a2)]) C dX8_markFrom_30 (by decide) rfl ?_
          refine g_goto (tgt := 2) C dX8_markFrom_31 (by decide) ?_
          refine gG.locals (lv' := [(0, .ref h0), (2, .int a2), (3, .int x3_2)]) [1, 2, 0] rfl ?_
          exact ih1 least_1 x3_2 (Nat.lt_of_lt_of_le h.2 (Nat.le_of_lt_succ hm1)) h.1
        · replace h := h.2 c_2
          refine g_aload_n C dX8_markFrom_20 0 rfl ?_
          refine g_get C inX8 0 rfl rfl 0 (by decide) wF_X8_9 rfl dX8_markFrom_21 ?_
          refine g_iload_n C dX8_markFrom_24 2 rfl ?_
          refine g_iload_n C dX8_markFrom_25 1 rfl ?_
          refine g_iast C 1 rfl hc_1 dX8_markFrom_26 (fun least_2 eleast_2 => gG.eqw (ws' := [oX8 h0 (.ref q_least), aI Y q_least n_least least_2]) rfl ?_)
          replace h := h least_2 eleast_2
          refine g_iload_n C dX8_markFrom_27 2 rfl ?_
          refine g_iload_n C dX8_markFrom_28 1 rfl ?_
          refine g_iadd C dX8_markFrom_29 ?_
          refine g_topi (fun x3_3 ex3_3 => ?_)
          replace h := h x3_3 ex3_3
          refine g_istore_n (lv' := [(3, .int x3_3), (0, .ref h0), (2, .int a2)]) C dX8_markFrom_30 (by decide) rfl ?_
          refine g_goto (tgt := 2) C dX8_markFrom_31 (by decide) ?_
          refine gG.locals (lv' := [(0, .ref h0), (2, .int a2), (3, .int x3_3)]) [1, 2, 0] rfl ?_
          exact ih1 least_2 x3_3 (Nat.lt_of_lt_of_le h.2 (Nat.le_of_lt_succ hm1)) h.1
  refine gG.locals (lv' := [(0, .ref h0), (2, .int a2), (3, .int a1)]) [1, 3, 0] rfl ?_
  exact key_1 (Mea_1 least a1 + 1) least a1 (Nat.lt_succ_self _) hI1
theorem dX8_reach_0 : decode cX8_reach 0 = .ok (.iload_n 1, 1) := by decide +kernel
theorem dX8_reach_1 : decode cX8_reach 1 = .ok (.aload_n 0, 1) := by decide +kernel
theorem dX8_reach_2 : decode cX8_reach 2 = .ok (.getfield 9, 3) := by decide +kernel
theorem dX8_reach_5 : decode cX8_reach 5 = .ok (.arraylength, 1) := by decide +kernel
theorem dX8_reach_6 : decode cX8_reach 6 = .ok (.if_icmp .lt 9, 3) := by decide +kernel
theorem dX8_reach_9 : decode cX8_reach 9 = .ok (.iload_n 1, 1) := by decide +kernel
theorem dX8_reach_10 : decode cX8_reach 10 = .ok (.ldc 15, 2) := by decide +kernel
theorem dX8_reach_12 : decode cX8_reach 12 = .ok (.if_icmp .le 4, 3) := by decide +kernel
theorem dX8_reach_15 : decode cX8_reach 15 = .ok (.return_, 1) := by decide +kernel
theorem dX8_reach_16 : decode cX8_reach 16 = .ok (.aload_n 0, 1) := by decide +kernel
theorem dX8_reach_17 : decode cX8_reach 17 = .ok (.getfield 9, 3) := by decide +kernel
theorem dX8_reach_20 : decode cX8_reach 20 = .ok (.arraylength, 1) := by decide +kernel
theorem dX8_reach_21 : decode cX8_reach 21 = .ok (.iconst 1, 1) := by decide +kernel
theorem dX8_reach_22 : decode cX8_reach 22 = .ok (.isub, 1) := by decide +kernel
theorem dX8_reach_23 : decode cX8_reach 23 = .ok (.istore_n 2, 1) := by decide +kernel
theorem dX8_reach_24 : decode cX8_reach 24 = .ok (.aload_n 0, 1) := by decide +kernel
theorem dX8_reach_25 : decode cX8_reach 25 = .ok (.aload_n 0, 1) := by decide +kernel
theorem dX8_reach_26 : decode cX8_reach 26 = .ok (.getfield 9, 3) := by decide +kernel
theorem dX8_reach_29 : decode cX8_reach 29 = .ok (.aload_n 0, 1) := by decide +kernel
theorem dX8_reach_30 : decode cX8_reach 30 = .ok (.getfield 9, 3) := by decide +kernel
theorem dX8_reach_33 : decode cX8_reach 33 = .ok (.arraylength, 1) := by decide +kernel
theorem dX8_reach_34 : decode cX8_reach 34 = .ok (.iload_n 1, 1) := by decide +kernel
theorem dX8_reach_35 : decode cX8_reach 35 = .ok (.invokestatic 16, 3) := by decide +kernel
theorem dX8_reach_38 : decode cX8_reach 38 = .ok (.invokestatic 20, 3) := by decide +kernel
theorem dX8_reach_41 : decode cX8_reach 41 = .ok (.putfield 9, 3) := by decide +kernel
theorem dX8_reach_44 : decode cX8_reach 44 = .ok (.aload_n 0, 1) := by decide +kernel
theorem dX8_reach_45 : decode cX8_reach 45 = .ok (.getfield 9, 3) := by decide +kernel
theorem dX8_reach_48 : decode cX8_reach 48 = .ok (.arraylength, 1) := by decide +kernel
theorem dX8_reach_49 : decode cX8_reach 49 = .ok (.iconst 1, 1) := by decide +kernel
theorem dX8_reach_50 : decode cX8_reach 50 = .ok (.isub, 1) := by decide +kernel
theorem dX8_reach_51 : decode cX8_reach 51 = .ok (.istore_n 3, 1) := by decide +kernel
theorem dX8_reach_52 : decode cX8_reach 52 = .ok (.iconst 2, 1) := by decide +kernel
theorem dX8_reach_53 : decode cX8_reach 53 = .ok (.istore 4, 2) := by decide +kernel
theorem dX8_reach_55 : decode cX8_reach 55 = .ok (.iload 4, 2) := by decide +kernel
theorem dX8_reach_57 : decode cX8_reach 57 = .ok (.iload 4, 2) := by decide +kernel
theorem dX8_reach_59 : decode cX8_reach 59 = .ok (.imul, 1) := by decide +kernel
theorem dX8_reach_60 : decode cX8_reach 60 = .ok (.iload_n 3, 1) := by decide +kernel
theorem dX8_reach_61 : decode cX8_reach 61 = .ok (.if_icmp .gt 42, 3) := by decide +kernel
theorem dX8_reach_64 : decode cX8_reach 64 = .ok (.aload_n 0, 1) := by decide +kernel
theorem dX8_reach_65 : decode cX8_reach 65 = .ok (.getfield 9, 3) := by decide +kernel
theorem dX8_reach_68 : decode cX8_reach 68 = .ok (.iload 4, 2) := by decide +kernel
theorem dX8_reach_70 : decode cX8_reach 70 = .ok (.iaload, 1) := by decide +kernel
theorem dX8_reach_71 : decode cX8_reach 71 = .ok (.ifCond .ne 26, 3) := by decide +kernel
theorem dX8_reach_74 : decode cX8_reach 74 = .ok (.aload_n 0, 1) := by decide +kernel
theorem dX8_reach_75 : decode cX8_reach 75 = .ok (.iload 4, 2) := by decide +kernel
theorem dX8_reach_77 : decode cX8_reach 77 = .ok (.iload 4, 2) := by decide +kernel
theorem dX8_reach_79 : decode cX8_reach 79 = .ok (.imul, 1) := by decide +kernel
theorem dX8_reach_80 : decode cX8_reach 80 = .ok (.iload_n 2, 1) := by decide +kernel
theorem dX8_reach_81 : decode cX8_reach 81 = .ok (.iload 4, 2) := by decide +kernel
theorem dX8_reach_83 : decode cX8_reach 83 = .ok (.idiv, 1) := by decide +kernel
theorem dX8_reach_84 : decode cX8_reach 84 = .ok (.iconst 1, 1) := by decide +kernel
theorem dX8_reach_85 : decode cX8_reach 85 = .ok (.iadd, 1) := by decide +kernel
theorem dX8_reach_86 : decode cX8_reach 86 = .ok (.iload 4, 2) := by decide +kernel
theorem dX8_reach_88 : decode cX8_reach 88 = .ok (.imul, 1) := by decide +kernel
theorem dX8_reach_89 : decode cX8_reach 89 = .ok (.invokestatic 26, 3) := by decide +kernel
theorem dX8_reach_92 : decode cX8_reach 92 = .ok (.iload 4, 2) := by decide +kernel
theorem dX8_reach_94 : decode cX8_reach 94 = .ok (.invokevirtual 31, 3) := by decide +kernel
theorem dX8_reach_97 : decode cX8_reach 97 = .ok (.iinc 4 1, 3) := by decide +kernel
theorem dX8_reach_100 : decode cX8_reach 100 = .ok (.goto (-45), 3) := by decide +kernel
theorem dX8_reach_103 : decode cX8_reach 103 = .ok (.return_, 1) := by decide +kernel
/-- QuotientSums$Sieve.reach(I)V -/
def wX8_reach (mc ms : Nat) (n_least : Nat) (least : Nat → Int32) (a1 : Int32) (Q : (Nat) → (Nat → Int32) → Prop) : Prop :=
  ((a1 < (nI n_least) → (Q n_least least)) ∧ (¬ a1 < (nI n_least) → ((a1 ≤ 200000 → (∀ x2_1 : Int32, x2_1 = (nI n_least) - 1 → ∃ (P_1 : (Int32) → Prop), wX10_grown (nI n_least) a1 P_1 ∧ ∀ (rF_1 : Int32), P_1 rF_1 → ∃ (mcF_1 msF_1 : Nat) (P_2 : (Nat) → (Nat → Int32) → Prop), (0 + mcF_1 ≤ mc ∧ 0 + msF_1 ≤ ms) ∧ wJ7_copyOf_59c91 mcF_1 msF_1 n_least least rF_1 P_2 ∧ ∀ (nF_1 : Nat) (c_3 : Nat → Int32), P_2 nF_1 c_3 → ∀ x3_1 : Int32, x3_1 = (nI nF_1) - 1 → (∃ (Inv_1 : (Nat → Int32) → (Int32) → Prop) (Mea_1 : (Nat → Int32) → (Int32) → Nat), Inv_1 c_3 2 ∧ ∀ (c_4 : Nat → Int32) (x4_1 : Int32), Inv_1 c_4 x4_1 → ((x3_1 < (x4_1 * x4_1) → (Q nF_1 c_4)) ∧ (¬ x3_1 < (x4_1 * x4_1) → (vp_in x4_1 nF_1 ∧ ((¬ (c_4 x4_1.toNatClampNeg) = 0 → (Inv_1 c_4 (x4_1 + 1) ∧ Mea_1 c_4 (x4_1 + 1) < Mea_1 c_4 x4_1)) ∧ ((c_4 x4_1.toNatClampNeg) = 0 → (¬ x4_1 = 0 ∧ ∀ m_1 : Int32, m_1 = (if (x4_1 * x4_1) < (((x2_1 / x4_1) + 1) * x4_1) then (((x2_1 / x4_1) + 1) * x4_1) else (x4_1 * x4_1)) → ∃ (P_3 : (Nat → Int32) → Prop), wX8_markFrom nF_1 c_4 m_1 x4_1 P_3 ∧ ∀ (least_1 : Nat → Int32), P_3 least_1 → (Inv_1 least_1 (x4_1 + 1) ∧ Mea_1 least_1 (x4_1 + 1) < Mea_1 c_4 x4_1)))))))))) ∧ (¬ a1 ≤ 200000 → (Q n_least least)))))
set_option maxHeartbeats 4000000 in
set_option maxRecDepth 100000 in
theorem mX8_reach (l : Launch) (D : va_G) (Y : Nat → ClassId) (mc ms : Nat) (h0 : Nat) (q_least : Nat) (n_least : Nat) (least : Nat → Int32) (a1 : Int32) (Q : (Nat) → (Nat → Int32) → Prop) (h : wX8_reach mc ms n_least least a1 Q) : gM l D Y yX8_reach cX8_reach 5 none 2 82 mc ms [.ref h0, .int a1] [oX8 h0 (.ref q_least), aI Y q_least n_least least] (fun v w => ∃ q_least' : Nat, ∃ n_least' : Nat, ∃ least' : Nat → Int32, v = none ∧ w = [oX8 h0 (.ref q_least'), aI Y q_least' n_least' least'] ∧ Q n_least' least') := by
  refine gM_of (own := RX8) (by decide +kernel) rfl (Nat.le_of_ble_eq_true rfl) rfl (fun E C hR => ?_)
  unfold wX8_reach at h
  refine g_iload_n C dX8_reach_0 1 rfl ?_
  refine g_aload_n C dX8_reach_1 0 rfl ?_
  refine g_get C inX8 0 rfl rfl 0 (by decide) wF_X8_9 rfl dX8_reach_2 ?_
  refine g_alen (v := nI n_least) C 1 0 rfl rfl rfl dX8_reach_5 ?_
  refine g_icmp_lt (tgt := 15) C dX8_reach_6 (by decide) (fun c_1 => ?_) (fun c_1 => ?_)
  · replace h := h.1 c_1
    exact g_vret C hR (show 0 ≤ mc ∧ 0 ≤ ms from ⟨Nat.zero_le _, Nat.zero_le _⟩).1 (show 0 ≤ mc ∧ 0 ≤ ms from ⟨Nat.zero_le _, Nat.zero_le _⟩).2 dX8_reach_15 ⟨q_least, n_least, least, rfl, rfl, h⟩
  · replace h := h.2 c_1
    refine g_iload_n C dX8_reach_9 1 rfl ?_
    refine g_ldc C dX8_reach_10 wK_X8_15 ?_
    refine g_icmp_le (tgt := 16) C dX8_reach_12 (by decide) (fun c_2 => ?_) (fun c_2 => ?_)
    · replace h := h.1 c_2
      refine g_aload_n C dX8_reach_16 0 rfl ?_
      refine g_get C inX8 0 rfl rfl 0 (by decide) wF_X8_9 rfl dX8_reach_17 ?_
      refine g_alen (v := nI n_least) C 1 0 rfl rfl rfl dX8_reach_20 ?_
      refine g_iconst (v := 1) C dX8_reach_21 rfl ?_
      refine g_isub C dX8_reach_22 ?_
      refine g_topi (fun x2_1 ex2_1 => ?_)
      replace h := h x2_1 ex2_1
      refine g_istore_n (lv' := [(2, .int x2_1), (0, .ref h0), (1, .int a1)]) C dX8_reach_23 (by decide) rfl ?_
      refine g_aload_n C dX8_reach_24 1 rfl ?_
      refine g_aload_n C dX8_reach_25 1 rfl ?_
      refine g_get C inX8 0 rfl rfl 0 (by decide) wF_X8_9 rfl dX8_reach_26 ?_
      refine g_aload_n C dX8_reach_29 1 rfl ?_
      refine g_get C inX8 0 rfl rfl 0 (by decide) wF_X8_9 rfl dX8_reach_30 ?_
      refine g_alen (v := nI n_least) C 1 0 rfl rfl rfl dX8_reach_33 ?_
      refine g_iload_n C dX8_reach_34 2 rfl ?_
      obtain ⟨P_1, hP, h⟩ := h
      refine g_callSN (As := [.int (nI n_least), .int a1]) (rest := [.ref q_least, .ref h0]) C (mX10_grown l D Y (nI n_least) a1 P_1 hP) dX8_reach_35 rfl wNM_X8_16 wS_X10_grown wN_X10 wC_X10_grown (n := 2) (by decide +kernel) rfl ⟨Nat.le_of_ble_eq_true rfl, Nat.le_of_ble_eq_true rfl⟩ ⟨Nat.zero_le _, Nat.zero_le _⟩ (Nat.le_of_ble_eq_true rfl) [] [0, 1] rfl rfl rfl (fun v wc hv => ?_)
      obtain ⟨rF_1, rfl, rfl, hq⟩ := hv
      replace h := h rF_1 hq
      refine gG.eqw (ws' := [oX8 h0 (.ref q_least), aI Y q_least n_least least]) rfl ?_
      obtain ⟨mcF_1, msF_1, P_2, hk_1, hP, h⟩ := h
      refine g_callS (As := [.ref q_least, .int rF_1]) (rest := [.ref h0]) C (mJ7_copyOf_59c91 l D Y mcF_1 msF_1 q_least n_least least rF_1 P_2 hP) dX8_reach_38 rfl wM_X8_20 wS_J7_copyOf_59c91 wN_J7 wC_J7_copyOf_59c91 (n := 2) (by decide +kernel) rfl ⟨Nat.le_of_ble_eq_true rfl, Nat.le_of_ble_eq_true rfl⟩ hk_1 (Nat.le_of_ble_eq_true rfl) [1] [0] rfl rfl rfl (fun v wc hv => ?_)
      obtain ⟨q_1, nF_1, c_3, rfl, rfl, hq⟩ := hv
      replace h := h nF_1 c_3 hq
      refine gG.eqw (ws' := [oX8 h0 (.ref q_least), aI Y q_least n_least least, aI Y q_1 nF_1 c_3]) rfl ?_
      refine g_put C inX8 tyX8 tyX8_ok nmX8 0 rfl rfl 0 (by decide) wF_X8_9 rfl rfl rfl (Nat.le_of_ble_eq_true rfl) (ws' := [oX8 h0 (.ref q_1), aI Y q_least n_least least, aI Y q_1 nF_1 c_3]) rfl dX8_reach_41 ?_
      refine g_aload_n C dX8_reach_44 1 rfl ?_
      refine g_get C inX8 0 rfl rfl 0 (by decide) wF_X8_9 rfl dX8_reach_45 ?_
      refine g_alen (v := nI nF_1) C 2 0 rfl rfl rfl dX8_reach_48 ?_
      refine g_iconst (v := 1) C dX8_reach_49 rfl ?_
      refine g_isub C dX8_reach_50 ?_
      refine g_topi (fun x3_1 ex3_1 => ?_)
      replace h := h x3_1 ex3_1
      refine g_istore_n (lv' := [(3, .int x3_1), (2, .int x2_1), (0, .ref h0), (1, .int a1)]) C dX8_reach_51 (by decide) rfl ?_
      refine g_iconst (v := 2) C dX8_reach_52 rfl ?_
      refine g_istore (lv' := [(4, .int 2), (3, .int x3_1), (2, .int x2_1), (0, .ref h0), (1, .int a1)]) C dX8_reach_53 (by decide) rfl ?_
      obtain ⟨Inv_1, Mea_1, hI1, hB1⟩ := h
      have key_1 : ∀ (n : Nat) (c_4 : Nat → Int32) (x4_1 : Int32) , Mea_1 c_4 x4_1 < n → Inv_1 c_4 x4_1 → gG E (0 + mcF_1) (0 + msF_1) [oX8 h0 (.ref q_1), aI Y q_least n_least least, aI Y q_1 nF_1 c_4] [(0, .ref h0), (2, .int x2_1), (3, .int x3_1), (4, .int x4_1)] [] 55 := by
        intro n
        induction n with
        | zero => exact fun _ _ hm => absurd hm (Nat.not_lt_zero _)
        | succ n ih1 =>
          intro c_4 x4_1  hm1 hI
          have h := hB1 c_4 x4_1 hI
          refine g_iload C dX8_reach_55 3 rfl ?_
          refine g_iload C dX8_reach_57 3 rfl ?_
          refine g_imul C dX8_reach_59 ?_
          refine g_iload_n C dX8_reach_60 2 rfl ?_
          refine g_icmp_gt (tgt := 103) C dX8_reach_61 (by decide) (fun c_5 => ?_) (fun c_5 => ?_)
          · replace h := h.1 c_5
            refine gG.perm (ws' := [oX8 h0 (.ref q_1), aI Y q_1 nF_1 c_4]) [0, 2] rfl rfl ?_
            exact g_vret C hR (show 0 + mcF_1 ≤ mc ∧ 0 + msF_1 ≤ ms from hk_1).1 (show 0 + mcF_1 ≤ mc ∧ 0 + msF_1 ≤ ms from hk_1).2 dX8_reach_103 ⟨q_1, nF_1, c_4, rfl, rfl, h⟩
          · replace h := h.2 c_5
            refine g_aload_n C dX8_reach_64 0 rfl ?_
            refine g_get C inX8 0 rfl rfl 0 (by decide) wF_X8_9 rfl dX8_reach_65 ?_
            refine g_iload C dX8_reach_68 3 rfl ?_
            obtain ⟨hc_1, h⟩ := h
            refine g_iald C 2 rfl hc_1 dX8_reach_70 ?_
            refine g_if_ne (tgt := 97) C dX8_reach_71 (by decide) (fun c_6 => ?_) (fun c_6 => ?_)
            · replace h := h.1 c_6
              refine g_iinc (v := x4_1 + 1) (lv' := [(4, .int (x4_1 + 1)), (0, .ref h0), (2, .int x2_1), (3, .int x3_1)]) C dX8_reach_97 3 rfl rfl (by decide) rfl ?_
              refine g_goto (tgt := 55) C dX8_reach_100 (by decide) ?_
              refine gG.locals (lv' := [(0, .ref h0), (2, .int x2_1), (3, .int x3_1), (4, .int (x4_1 + 1))]) [1, 2, 3, 0] rfl ?_
              exact ih1 c_4 (x4_1 + 1) (Nat.lt_of_lt_of_le h.2 (Nat.le_of_lt_succ hm1)) h.1
            · replace h := h.2 c_6
              refine g_aload_n C dX8_reach_74 0 rfl ?_
              refine g_iload C dX8_reach_75 3 rfl ?_
              refine g_iload C dX8_reach_77 3 rfl ?_
              refine g_imul C dX8_reach_79 ?_
              refine g_iload_n C dX8_reach_80 1 rfl ?_
              refine g_iload C dX8_reach_81 3 rfl ?_
              obtain ⟨hc_2, h⟩ := h
              refine g_idiv C dX8_reach_83 hc_2 ?_
              refine g_iconst (v := 1) C dX8_reach_84 rfl ?_
              refine g_iadd C dX8_reach_85 ?_
              refine g_iload C dX8_reach_86 3 rfl ?_
              refine g_imul C dX8_reach_88 ?_
              refine g_mmax C wM_X8_26 dX8_reach_89 ⟨Nat.le_of_ble_eq_true rfl, Nat.le_of_ble_eq_true rfl⟩ hk_1 ?_
              refine g_topi (fun m_1 em_1 => ?_)
              replace h := h m_1 em_1
              refine g_iload C dX8_reach_92 3 rfl ?_
              obtain ⟨P_3, hP, h⟩ := h
              refine g_callV (As := [.int m_1, .int x4_1]) (rest := []) C (mX8_markFrom l D Y h0 q_1 nF_1 c_4 m_1 x4_1 P_3 hP) dX8_reach_94 rfl wM_X8_31 wI_X8_markFrom wV_X8_markFrom wN_X8 wC_X8_markFrom (n := 2) (by decide +kernel) rfl (q0 := 0) rfl rfl ⟨Nat.le_of_ble_eq_true rfl, Nat.le_of_ble_eq_true rfl⟩ hk_1 (Nat.le_of_ble_eq_true rfl) [0, 2] [1] rfl rfl rfl (fun v wc hv => ?_)
              obtain ⟨least_1, rfl, rfl, hq⟩ := hv
              replace h := h least_1 hq
              refine gG.perm (ws' := [oX8 h0 (.ref q_1), aI Y q_least n_least least, aI Y q_1 nF_1 least_1]) [1, 0, 2] rfl rfl ?_
              refine g_iinc (v := x4_1 + 1) (lv' := [(4, .int (x4_1 + 1)), (0, .ref h0), (2, .int x2_1), (3, .int x3_1)]) C dX8_reach_97 3 rfl rfl (by decide) rfl ?_
              refine g_goto (tgt := 55) C dX8_reach_100 (by decide) ?_
              refine gG.locals (lv' := [(0, .ref h0), (2, .int x2_1), (3, .int x3_1), (4, .int (x4_1 + 1))]) [1, 2, 3, 0] rfl ?_
              exact ih1 least_1 (x4_1 + 1) (Nat.lt_of_lt_of_le h.2 (Nat.le_of_lt_succ hm1)) h.1
      refine gG.locals (lv' := [(0, .ref h0), (2, .int x2_1), (3, .int x3_1), (4, .int 2)]) [3, 2, 1, 0] rfl ?_
      exact key_1 (Mea_1 c_3 2 + 1) c_3 2 (Nat.lt_succ_self _) hI1
    · replace h := h.2 c_2
      exact g_vret C hR (show 0 ≤ mc ∧ 0 ≤ ms from ⟨Nat.zero_le _, Nat.zero_le _⟩).1 (show 0 ≤ mc ∧ 0 ≤ ms from ⟨Nat.zero_le _, Nat.zero_le _⟩).2 dX8_reach_15 ⟨q_least, n_least, least, rfl, rfl, h⟩
theorem dX7_fill_0 : decode cX7_fill 0 = .ok (.aload_n 0, 1) := by decide +kernel
theorem dX7_fill_1 : decode cX7_fill 1 = .ok (.getfield 12, 3) := by decide +kernel
theorem dX7_fill_4 : decode cX7_fill 4 = .ok (.getfield 70, 3) := by decide +kernel
theorem dX7_fill_7 : decode cX7_fill 7 = .ok (.astore 4, 2) := by decide +kernel
theorem dX7_fill_9 : decode cX7_fill 9 = .ok (.iload_n 3, 1) := by decide +kernel
theorem dX7_fill_10 : decode cX7_fill 10 = .ok (.aload_n 2, 1) := by decide +kernel
theorem dX7_fill_11 : decode cX7_fill 11 = .ok (.getfield 74, 3) := by decide +kernel
theorem dX7_fill_14 : decode cX7_fill 14 = .ok (.arraylength, 1) := by decide +kernel
theorem dX7_fill_15 : decode cX7_fill 15 = .ok (.aload 4, 2) := by decide +kernel
theorem dX7_fill_17 : decode cX7_fill 17 = .ok (.arraylength, 1) := by decide +kernel
theorem dX7_fill_18 : decode cX7_fill 18 = .ok (.invokestatic 77, 3) := by decide +kernel
theorem dX7_fill_21 : decode cX7_fill 21 = .ok (.iconst 1, 1) := by decide +kernel
theorem dX7_fill_22 : decode cX7_fill 22 = .ok (.isub, 1) := by decide +kernel
theorem dX7_fill_23 : decode cX7_fill 23 = .ok (.invokestatic 77, 3) := by decide +kernel
theorem dX7_fill_26 : decode cX7_fill 26 = .ok (.istore 5, 2) := by decide +kernel
theorem dX7_fill_28 : decode cX7_fill 28 = .ok (.aload_n 2, 1) := by decide +kernel
theorem dX7_fill_29 : decode cX7_fill 29 = .ok (.getfield 51, 3) := by decide +kernel
theorem dX7_fill_32 : decode cX7_fill 32 = .ok (.iconst 1, 1) := by decide +kernel
theorem dX7_fill_33 : decode cX7_fill 33 = .ok (.iadd, 1) := by decide +kernel
theorem dX7_fill_34 : decode cX7_fill 34 = .ok (.istore 6, 2) := by decide +kernel
theorem dX7_fill_36 : decode cX7_fill 36 = .ok (.iload 6, 2) := by decide +kernel
theorem dX7_fill_38 : decode cX7_fill 38 = .ok (.iload 5, 2) := by decide +kernel
theorem dX7_fill_40 : decode cX7_fill 40 = .ok (.if_icmp .gt 122, 3) := by decide +kernel
theorem dX7_fill_43 : decode cX7_fill 43 = .ok (.aload 4, 2) := by decide +kernel
theorem dX7_fill_45 : decode cX7_fill 45 = .ok (.iload 6, 2) := by decide +kernel
theorem dX7_fill_47 : decode cX7_fill 47 = .ok (.iaload, 1) := by decide +kernel
theorem dX7_fill_48 : decode cX7_fill 48 = .ok (.istore 7, 2) := by decide +kernel
theorem dX7_fill_50 : decode cX7_fill 50 = .ok (.iload 7, 2) := by decide +kernel
theorem dX7_fill_52 : decode cX7_fill 52 = .ok (.iconst 2, 1) := by decide +kernel
theorem dX7_fill_53 : decode cX7_fill 53 = .ok (.if_icmp .ge 25, 3) := by decide +kernel
theorem dX7_fill_56 : decode cX7_fill 56 = .ok (.aload_n 2, 1) := by decide +kernel
theorem dX7_fill_57 : decode cX7_fill 57 = .ok (.aload_n 0, 1) := by decide +kernel
theorem dX7_fill_58 : decode cX7_fill 58 = .ok (.getfield 21, 3) := by decide +kernel
theorem dX7_fill_61 : decode cX7_fill 61 = .ok (.aload_n 1, 1) := by decide +kernel
theorem dX7_fill_62 : decode cX7_fill 62 = .ok (.aload_n 2, 1) := by decide +kernel
theorem dX7_fill_63 : decode cX7_fill 63 = .ok (.getfield 32, 3) := by decide +kernel
theorem dX7_fill_66 : decode cX7_fill 66 = .ok (.iload 6, 2) := by decide +kernel
theorem dX7_fill_68 : decode cX7_fill 68 = .ok (.iconst 1, 1) := by decide +kernel
theorem dX7_fill_69 : decode cX7_fill 69 = .ok (.invokevirtual 83, 3) := by decide +kernel
theorem dX7_fill_72 : decode cX7_fill 72 = .ok (.invokevirtual 87, 3) := by decide +kernel
theorem dX7_fill_75 : decode cX7_fill 75 = .ok (.goto 81, 3) := by decide +kernel
theorem dX7_fill_78 : decode cX7_fill 78 = .ok (.iload 6, 2) := by decide +kernel
theorem dX7_fill_80 : decode cX7_fill 80 = .ok (.iload 7, 2) := by decide +kernel
theorem dX7_fill_82 : decode cX7_fill 82 = .ok (.idiv, 1) := by decide +kernel
theorem dX7_fill_83 : decode cX7_fill 83 = .ok (.istore 8, 2) := by decide +kernel
theorem dX7_fill_85 : decode cX7_fill 85 = .ok (.iconst 1, 1) := by decide +kernel
theorem dX7_fill_86 : decode cX7_fill 86 = .ok (.istore 9, 2) := by decide +kernel
theorem dX7_fill_88 : decode cX7_fill 88 = .ok (.iload 9, 2) := by decide +kernel
theorem dX7_fill_90 : decode cX7_fill 90 = .ok (.bipush 17, 2) := by decide +kernel
theorem dX7_fill_92 : decode cX7_fill 92 = .ok (.if_icmp .ge 24, 3) := by decide +kernel
theorem dX7_fill_95 : decode cX7_fill 95 = .ok (.iload 8, 2) := by decide +kernel
theorem dX7_fill_97 : decode cX7_fill 97 = .ok (.iload 7, 2) := by decide +kernel
theorem dX7_fill_99 : decode cX7_fill 99 = .ok (.irem, 1) := by decide +kernel
theorem dX7_fill_100 : decode cX7_fill 100 = .ok (.ifCond .ne 16, 3) := by decide +kernel
theorem dX7_fill_103 : decode cX7_fill 103 = .ok (.iload 8, 2) := by decide +kernel
theorem dX7_fill_105 : decode cX7_fill 105 = .ok (.iload 7, 2) := by decide +kernel
theorem dX7_fill_107 : decode cX7_fill 107 = .ok (.idiv, 1) := by decide +kernel
theorem dX7_fill_108 : decode cX7_fill 108 = .ok (.istore 8, 2) := by decide +kernel
theorem dX7_fill_110 : decode cX7_fill 110 = .ok (.iinc 9 1, 3) := by decide +kernel
theorem dX7_fill_113 : decode cX7_fill 113 = .ok (.goto (-25), 3) := by decide +kernel
theorem dX7_fill_116 : decode cX7_fill 116 = .ok (.iload 8, 2) := by decide +kernel
theorem dX7_fill_118 : decode cX7_fill 118 = .ok (.iconst 2, 1) := by decide +kernel
theorem dX7_fill_119 : decode cX7_fill 119 = .ok (.if_icmp .ge 26, 3) := by decide +kernel
theorem dX7_fill_122 : decode cX7_fill 122 = .ok (.aload_n 2, 1) := by decide +kernel
theorem dX7_fill_123 : decode cX7_fill 123 = .ok (.aload_n 0, 1) := by decide +kernel
theorem dX7_fill_124 : decode cX7_fill 124 = .ok (.getfield 21, 3) := by decide +kernel
theorem dX7_fill_127 : decode cX7_fill 127 = .ok (.aload_n 1, 1) := by decide +kernel
theorem dX7_fill_128 : decode cX7_fill 128 = .ok (.aload_n 2, 1) := by decide +kernel
theorem dX7_fill_129 : decode cX7_fill 129 = .ok (.getfield 32, 3) := by decide +kernel
theorem dX7_fill_132 : decode cX7_fill 132 = .ok (.iload 7, 2) := by decide +kernel
theorem dX7_fill_134 : decode cX7_fill 134 = .ok (.iload 9, 2) := by decide +kernel
theorem dX7_fill_136 : decode cX7_fill 136 = .ok (.invokevirtual 83, 3) := by decide +kernel
theorem dX7_fill_139 : decode cX7_fill 139 = .ok (.invokevirtual 87, 3) := by decide +kernel
theorem dX7_fill_142 : decode cX7_fill 142 = .ok (.goto 14, 3) := by decide +kernel
theorem dX7_fill_145 : decode cX7_fill 145 = .ok (.aload_n 2, 1) := by decide +kernel
theorem dX7_fill_146 : decode cX7_fill 146 = .ok (.iload 6, 2) := by decide +kernel
theorem dX7_fill_148 : decode cX7_fill 148 = .ok (.iload 8, 2) := by decide +kernel
theorem dX7_fill_150 : decode cX7_fill 150 = .ok (.idiv, 1) := by decide +kernel
theorem dX7_fill_151 : decode cX7_fill 151 = .ok (.iload 8, 2) := by decide +kernel
theorem dX7_fill_153 : decode cX7_fill 153 = .ok (.invokevirtual 90, 3) := by decide +kernel
theorem dX7_fill_156 : decode cX7_fill 156 = .ok (.iinc 6 1, 3) := by decide +kernel
theorem dX7_fill_159 : decode cX7_fill 159 = .ok (.goto (-123), 3) := by decide +kernel
theorem dX7_fill_162 : decode cX7_fill 162 = .ok (.return_, 1) := by decide +kernel
/-- QuotientSums$Rows.fill(LQuotientSums$Plan;LQuotientSums$Row;I)V -/
def wX7_fill (rf : Nat → Int32) (rm : Nat → Int32) (rl : Nat → Int32) (ru : Nat → Int32) (rn : Nat → Nat) (rv : Nat → Nat → Int32) (turn : Int32) (n_sieve_least : Nat) (sieve_least : Nat → Int32) (a1_bound : Int32) (a1_modulus : Int32) (a1_seed : Int32) (a1_functions : Int32) (a1_needs : Nat → Int32) (powers_cells : Nat → Int32) (powers_ofPrime : Nat → Int32) (a1_firsts : Nat → Int32) (a1_seconds : Nat → Int32) (a1_kinds : Nat → Int32) (a1_numbers : Nat → Int32) (a1_colours : Nat → Int32) (ka2 : Nat) (a3 : Int32) (Q : (Nat → Int32) → (Nat → Nat → Int32) → (Nat → Int32) → (Nat → Int32) → Prop) : Prop :=
  (∀ m_1 : Int32, m_1 = (if (nI n_sieve_least) < (nI (rn ka2)) then (nI n_sieve_least) else (nI (rn ka2))) → ∀ m_2 : Int32, m_2 = (if (m_1 - 1) < a3 then (m_1 - 1) else a3) → ∀ x6_1 : Int32, x6_1 = (rl ka2) + 1 → (∃ (Inv_1 : (Nat → Int32) → (Nat → Int32) → (Int32) → (Nat → Int32) → (Nat → Nat → Int32) → Prop) (Mea_1 : (Nat → Int32) → (Nat → Int32) → (Int32) → (Nat → Int32) → (Nat → Nat → Int32) → Nat), Inv_1 powers_cells powers_ofPrime x6_1 rl rv ∧ ∀ (powers_cells_1 : Nat → Int32) (powers_ofPrime_1 : Nat → Int32) (x6_2 : Int32) (rl_1 : Nat → Int32) (rv_1 : Nat → Nat → Int32), Inv_1 powers_cells_1 powers_ofPrime_1 x6_2 rl_1 rv_1 → ((m_2 < x6_2 → (Q rl_1 rv_1 powers_cells_1 powers_ofPrime_1)) ∧ (¬ m_2 < x6_2 → (vp_in x6_2 n_sieve_least ∧ ∀ x7_1 : Int32, x7_1 = sieve_least x6_2.toNatClampNeg → ((2 ≤ x7_1 → (¬ x7_1 = 0 ∧ ∀ x8_1 : Int32, x8_1 = x6_2 / x7_1 → (∃ (Inv_2 : (Int32) → (Int32) → Prop) (Mea_2 : (Int32) → (Int32) → Nat), Inv_2 x8_1 1 ∧ ∀ (x8_2 : Int32) (x9_1 : Int32), Inv_2 x8_2 x9_1 → (∃ (J_1 : Prop), ((17 ≤ x9_1 → (J_1)) ∧ (¬ 17 ≤ x9_1 → (¬ x7_1 = 0 ∧ ((¬ (x8_2 - x8_2 / x7_1 * x7_1) = 0 → (J_1)) ∧ ((x8_2 - x8_2 / x7_1 * x7_1) = 0 → (∀ x8_3 : Int32, x8_3 = x8_2 / x7_1 → (Inv_2 x8_3 (x9_1 + 1) ∧ Mea_2 x8_3 (x9_1 + 1) < Mea_2 x8_2 x9_1))))))) ∧ (J_1 → ((2 ≤ x8_2 → (¬ x8_2 = 0 ∧ ∃ (P_1 : (Int32) → (Nat → Int32) → Prop), wX6_appendProduct (rf ka2) (rm ka2) (rl_1 ka2) (ru ka2) (rn ka2) (rv_1 ka2) (x6_2 / x8_2) x8_2 P_1 ∧ ∀ (filled_1 : Int32) (sums_1 : Nat → Int32), P_1 filled_1 sums_1 → ∀ rl_2 : Nat → Int32, rl_2 = upd rl_1 ka2 filled_1 → ∀ rv_2 : Nat → Nat → Int32, rv_2 = va_up rv_1 ka2 sums_1 → (Inv_1 powers_cells_1 powers_ofPrime_1 (x6_2 + 1) rl_2 rv_2 ∧ Mea_1 powers_cells_1 powers_ofPrime_1 (x6_2 + 1) rl_2 rv_2 < Mea_1 powers_cells_1 powers_ofPrime_1 x6_2 rl_1 rv_1))) ∧ (¬ 2 ≤ x8_2 → (∃ (P_2 : (Int32) → (Nat → Int32) → (Nat → Int32) → Prop), wX4_valueAtPower a1_bound a1_modulus a1_seed a1_functions a1_needs powers_cells_1 powers_ofPrime_1 a1_firsts a1_seconds a1_kinds a1_numbers a1_colours (rf ka2) x7_1 x9_1 P_2 ∧ ∀ (rF_1 : Int32) (cells_1 : Nat → Int32) (ofPrime_1 : Nat → Int32), P_2 rF_1 cells_1 ofPrime_1 → ∃ (P_3 : (Int32) → (Nat → Int32) → Prop), wX6_append (rf ka2) (rm ka2) (rl_1 ka2) (ru ka2) (rn ka2) (rv_1 ka2) rF_1 P_3 ∧ ∀ (filled_2 : Int32) (sums_2 : Nat → Int32), P_3 filled_2 sums_2 → ∀ rl_3 : Nat → Int32, rl_3 = upd rl_1 ka2 filled_2 → ∀ rv_3 : Nat → Nat → Int32, rv_3 = va_up rv_1 ka2 sums_2 → (Inv_1 cells_1 ofPrime_1 (x6_2 + 1) rl_3 rv_3 ∧ Mea_1 cells_1 ofPrime_1 (x6_2 + 1) rl_3 rv_3 < Mea_1 powers_cells_1 powers_ofPrime_1 x6_2 rl_1 rv_1))))))))) ∧ (¬ 2 ≤ x7_1 → (∃ (P_4 : (Int32) → (Nat → Int32) → (Nat → Int32) → Prop), wX4_valueAtPower a1_bound a1_modulus a1_seed a1_functions a1_needs powers_cells_1 powers_ofPrime_1 a1_firsts a1_seconds a1_kinds a1_numbers a1_colours (rf ka2) x6_2 1 P_4 ∧ ∀ (rF_2 : Int32) (cells_2 : Nat → Int32) (ofPrime_2 : Nat → Int32), P_4 rF_2 cells_2 ofPrime_2 → ∃ (P_5 : (Int32) → (Nat → Int32) → Prop), wX6_append (rf ka2) (rm ka2) (rl_1 ka2) (ru ka2) (rn ka2) (rv_1 ka2) rF_2 P_5 ∧ ∀ (filled_3 : Int32) (sums_3 : Nat → Int32), P_5 filled_3 sums_3 → ∀ rl_4 : Nat → Int32, rl_4 = upd rl_1 ka2 filled_3 → ∀ rv_4 : Nat → Nat → Int32, rv_4 = va_up rv_1 ka2 sums_3 → (Inv_1 cells_2 ofPrime_2 (x6_2 + 1) rl_4 rv_4 ∧ Mea_1 cells_2 ofPrime_2 (x6_2 + 1) rl_4 rv_4 < Mea_1 powers_cells_1 powers_ofPrime_1 x6_2 rl_1 rv_1)))))))))
set_option maxHeartbeats 4000000 in
set_option maxRecDepth 100000 in
theorem mX7_fill (l : Launch) (D : va_G) (Y : Nat → ClassId) (h0 : Nat) (ra : Nat → Nat) (q_a1 : Nat) (ka2 : Nat) (hka2 : ka2 < 4) (rs : Nat → Nat) (rf : Nat → Int32) (rm : Nat → Int32) (rl : Nat → Int32) (ru : Nat → Int32) (rn : Nat → Nat) (rv : Nat → Nat → Int32) (q_sieve : Nat) (q_powers : Nat) (v_rows : Value) (turn : Int32) (q_sieve_least : Nat) (n_sieve_least : Nat) (sieve_least : Nat → Int32) (a1_bound : Int32) (a1_modulus : Int32) (a1_seed : Int32) (a1_functions : Int32) (v_a1_names : Value) (q_a1_kinds : Nat) (q_a1_firsts : Nat) (q_a1_seconds : Nat) (v_a1_degrees : Value) (q_a1_colours : Nat) (q_a1_needs : Nat) (q_a1_numbers : Nat) (a1_needs : Nat → Int32) (q_powers_ofPrime : Nat) (q_powers_cells : Nat) (powers_cells : Nat → Int32) (powers_ofPrime : Nat → Int32) (a1_firsts : Nat → Int32) (a1_seconds : Nat → Int32) (a1_kinds : Nat → Int32) (a1_numbers : Nat → Int32) (a1_colours : Nat → Int32) (a3 : Int32) (Q : (Nat → Int32) → (Nat → Nat → Int32) → (Nat → Int32) → (Nat → Int32) → Prop) (h : wX7_fill rf rm rl ru rn rv turn n_sieve_least sieve_least a1_bound a1_modulus a1_seed a1_functions a1_needs powers_cells powers_ofPrime a1_firsts a1_seconds a1_kinds a1_numbers a1_colours ka2 a3 Q) : gM l D Y yX7_fill cX7_fill 10 none 4 98 0 0 [.ref h0, .ref q_a1, .ref (ra ka2), .int a3] (rowsW Y ra rs rf rm rl ru rn rv ++ [oX7 h0 (.ref q_sieve) (.ref q_powers) (v_rows) turn, oX8 q_sieve (.ref q_sieve_least), aI Y q_sieve_least n_sieve_least sieve_least, oX3 q_a1 a1_bound a1_modulus a1_seed a1_functions (v_a1_names) (.ref q_a1_kinds) (.ref q_a1_firsts) (.ref q_a1_seconds) (v_a1_degrees) (.ref q_a1_colours) (.ref q_a1_needs) (.ref q_a1_numbers), aI Y q_a1_needs 12 a1_needs, oX4 q_powers (.ref q_powers_ofPrime) (.ref q_powers_cells), aI Y q_powers_cells 216 powers_cells, aI Y q_powers_ofPrime 18 powers_ofPrime, aI Y q_a1_firsts 12 a1_firsts, aI Y q_a1_seconds 12 a1_seconds, aI Y q_a1_kinds 12 a1_kinds, aI Y q_a1_numbers 144 a1_numbers, aI Y q_a1_colours 12 a1_colours]) (fun v w => ∃ rl' : Nat → Int32, ∃ rv' : Nat → Nat → Int32, ∃ powers_cells' : Nat → Int32, ∃ powers_ofPrime' : Nat → Int32, v = none ∧ w = (rowsW Y ra rs rf rm rl' ru rn rv' ++ [oX7 h0 (.ref q_sieve) (.ref q_powers) (v_rows) turn, oX8 q_sieve (.ref q_sieve_least), aI Y q_sieve_least n_sieve_least sieve_least, oX3 q_a1 a1_bound a1_modulus a1_seed a1_functions (v_a1_names) (.ref q_a1_kinds) (.ref q_a1_firsts) (.ref q_a1_seconds) (v_a1_degrees) (.ref q_a1_colours) (.ref q_a1_needs) (.ref q_a1_numbers), aI Y q_a1_needs 12 a1_needs, oX4 q_powers (.ref q_powers_ofPrime) (.ref q_powers_cells), aI Y q_powers_cells 216 powers_cells', aI Y q_powers_ofPrime 18 powers_ofPrime', aI Y q_a1_firsts 12 a1_firsts, aI Y q_a1_seconds 12 a1_seconds, aI Y q_a1_kinds 12 a1_kinds, aI Y q_a1_numbers 144 a1_numbers, aI Y q_a1_colours 12 a1_colours]) ∧ Q rl' rv' powers_cells' powers_ofPrime') := by
  refine gM_of (own := RX7) (by decide +kernel) rfl (Nat.le_of_ble_eq_true rfl) rfl (fun E C hR => ?_)
  unfold wX7_fill at h
  refine g_aload_n C dX7_fill_0 0 rfl ?_
  refine g_get C inX7 8 rfl rfl 0 (by decide) wF_X7_12 rfl dX7_fill_1 ?_
  refine g_get C inX8 9 rfl rfl 0 (by decide) wF_X7_70 rfl dX7_fill_4 ?_
  refine g_astore (lv' := [(4, .ref q_sieve_least), (0, .ref h0), (1, .ref q_a1), (2, .ref (ra ka2)), (3, .int a3)]) C dX7_fill_7 (by decide) rfl ?_
  refine g_iload_n C dX7_fill_9 4 rfl ?_
  refine g_aload_n C dX7_fill_10 3 rfl ?_
  refine g_get C inX6 (2 * ka2) (rowsW_obj _ _ _ _ _ _ _ _ _ _ hka2) rfl 0 (by decide) wF_X7_74 rfl dX7_fill_11 ?_
  refine g_alen (v := nI (rn ka2)) C (2 * ka2 + 1) 0 (rowsW_arr _ _ _ _ _ _ _ _ _ _ hka2) rfl rfl dX7_fill_14 ?_
  refine g_aload C dX7_fill_15 0 rfl ?_
  refine g_alen (v := nI n_sieve_least) C 10 0 rfl rfl rfl dX7_fill_17 ?_
  refine g_mmin C wM_X7_77 dX7_fill_18 ⟨Nat.le_of_ble_eq_true rfl, Nat.le_of_ble_eq_true rfl⟩ ⟨Nat.le_of_ble_eq_true rfl, Nat.le_of_ble_eq_true rfl⟩ ?_
  refine g_topi (fun m_1 em_1 => ?_)
  replace h := h m_1 em_1
  refine g_iconst (v := 1) C dX7_fill_21 rfl ?_
  refine g_isub C dX7_fill_22 ?_
  refine g_mmin C wM_X7_77 dX7_fill_23 ⟨Nat.le_of_ble_eq_true rfl, Nat.le_of_ble_eq_true rfl⟩ ⟨Nat.le_of_ble_eq_true rfl, Nat.le_of_ble_eq_true rfl⟩ ?_
  refine g_topi (fun m_2 em_2 => ?_)
  replace h := h m_2 em_2
  refine g_istore (lv' := [(5, .int m_2), (4, .ref q_sieve_least), (0, .ref h0), (1, .ref q_a1), (2, .ref (ra ka2)), (3, .int a3)]) C dX7_fill_26 (by decide) rfl ?_
  refine g_aload_n C dX7_fill_28 4 rfl ?_
  refine g_get C inX6 (2 * ka2) (rowsW_obj _ _ _ _ _ _ _ _ _ _ hka2) rfl 3 (by decide) wF_X7_51 rfl dX7_fill_29 ?_
  refine g_iconst (v := 1) C dX7_fill_32 rfl ?_
  refine g_iadd C dX7_fill_33 ?_
  refine g_topi (fun x6_1 ex6_1 => ?_)
  replace h := h x6_1 ex6_1
  refine g_istore (lv' := [(6, .int x6_1), (5, .int m_2), (4, .ref q_sieve_least), (0, .ref h0), (1, .ref q_a1), (2, .ref (ra ka2)), (3, .int a3)]) C dX7_fill_34 (by decide) rfl ?_
  obtain ⟨Inv_1, Mea_1, hI1, hB1⟩ := h
  have key_1 : ∀ (n : Nat) (powers_cells_1 : Nat → Int32) (powers_ofPrime_1 : Nat → Int32) (x6_2 : Int32) (rl_1 : Nat → Int32) (rv_1 : Nat → Nat → Int32) , Mea_1 powers_cells_1 powers_ofPrime_1 x6_2 rl_1 rv_1 < n → Inv_1 powers_cells_1 powers_ofPrime_1 x6_2 rl_1 rv_1 → gG E 0 0 (rowsW Y ra rs rf rm rl_1 ru rn rv_1 ++ [oX7 h0 (.ref q_sieve) (.ref q_powers) (v_rows) turn, oX8 q_sieve (.ref q_sieve_least), aI Y q_sieve_least n_sieve_least sieve_least, oX3 q_a1 a1_bound a1_modulus a1_seed a1_functions (v_a1_names) (.ref q_a1_kinds) (.ref q_a1_firsts) (.ref q_a1_seconds) (v_a1_degrees) (.ref q_a1_colours) (.ref q_a1_needs) (.ref q_a1_numbers), aI Y q_a1_needs 12 a1_needs, oX4 q_powers (.ref q_powers_ofPrime) (.ref q_powers_cells), aI Y q_powers_cells 216 powers_cells_1, aI Y q_powers_ofPrime 18 powers_ofPrime_1, aI Y q_a1_firsts 12 a1_firsts, aI Y q_a1_seconds 12 a1_seconds, aI Y q_a1_kinds 12 a1_kinds, aI Y q_a1_numbers 144 a1_numbers, aI Y q_a1_colours 12 a1_colours]) [(0, .ref h0), (1, .ref q_a1), (2, .ref (ra ka2)), (4, .ref q_sieve_least), (5, .int m_2), (6, .int x6_2)] [] 36 := by
    intro n
    induction n with
    | zero => exact fun _ _ _ _ _ hm => absurd hm (Nat.not_lt_zero _)
    | succ n ih1 =>
      intro powers_cells_1 powers_ofPrime_1 x6_2 rl_1 rv_1  hm1 hI
      have h := hB1 powers_cells_1 powers_ofPrime_1 x6_2 rl_1 rv_1 hI
      refine g_iload C dX7_fill_36 5 rfl ?_
      refine g_iload C dX7_fill_38 4 rfl ?_
      refine g_icmp_gt (tgt := 162) C dX7_fill_40 (by decide) (fun c_1 => ?_) (fun c_1 => ?_)
      · replace h := h.1 c_1
        exact g_vret C hR (Nat.le_of_ble_eq_true rfl) (Nat.le_of_ble_eq_true rfl) dX7_fill_162 ⟨rl_1, rv_1, powers_cells_1, powers_ofPrime_1, rfl, rfl, h⟩
      · replace h := h.2 c_1
        refine g_aload C dX7_fill_43 3 rfl ?_
        refine g_iload C dX7_fill_45 5 rfl ?_
        obtain ⟨hc_1, h⟩ := h
        refine g_iald C 10 rfl hc_1 dX7_fill_47 ?_
        refine g_topi (fun x7_1 ex7_1 => ?_)
        replace h := h x7_1 ex7_1
        refine g_istore (lv' := [(7, .int x7_1), (0, .ref h0), (1, .ref q_a1), (2, .ref (ra ka2)), (4, .ref q_sieve_least), (5, .int m_2), (6, .int x6_2)]) C dX7_fill_48 (by decide) rfl ?_
        refine g_iload C dX7_fill_50 0 rfl ?_
        refine g_iconst (v := 2) C dX7_fill_52 rfl ?_
        refine g_icmp_ge (tgt := 78) C dX7_fill_53 (by decide) (fun c_2 => ?_) (fun c_2 => ?_)
        · replace h := h.1 c_2
          refine g_iload C dX7_fill_78 6 rfl ?_
          refine g_iload C dX7_fill_80 0 rfl ?_
          obtain ⟨hc_2, h⟩ := h
          refine g_idiv C dX7_fill_82 hc_2 ?_
          refine g_topi (fun x8_1 ex8_1 => ?_)
          replace h := h x8_1 ex8_1
          refine g_istore (lv' := [(8, .int x8_1), (7, .int x7_1), (0, .ref h0), (1, .ref q_a1), (2, .ref (ra ka2)), (4, .ref q_sieve_least), (5, .int m_2), (6, .int x6_2)]) C dX7_fill_83 (by decide) rfl ?_
          refine g_iconst (v := 1) C dX7_fill_85 rfl ?_
          refine g_istore (lv' := [(9, .int 1), (8, .int x8_1), (7, .int x7_1), (0, .ref h0), (1, .ref q_a1), (2, .ref (ra ka2)), (4, .ref q_sieve_least), (5, .int m_2), (6, .int x6_2)]) C dX7_fill_86 (by decide) rfl ?_
          obtain ⟨Inv_2, Mea_2, hI2, hB2⟩ := h
          have key_2 : ∀ (n : Nat) (x8_2 : Int32) (x9_1 : Int32) , Mea_2 x8_2 x9_1 < n → Inv_2 x8_2 x9_1 → gG E 0 0 (rowsW Y ra rs rf rm rl_1 ru rn rv_1 ++ [oX7 h0 (.ref q_sieve) (.ref q_powers) (v_rows) turn, oX8 q_sieve (.ref q_sieve_least), aI Y q_sieve_least n_sieve_least sieve_least, oX3 q_a1 a1_bound a1_modulus a1_seed a1_functions (v_a1_names) (.ref q_a1_kinds) (.ref q_a1_firsts) (.ref q_a1_seconds) (v_a1_degrees) (.ref q_a1_colours) (.ref q_a1_needs) (.ref q_a1_numbers), aI Y q_a1_needs 12 a1_needs, oX4 q_powers (.ref q_powers_ofPrime) (.ref q_powers_cells), aI Y q_powers_cells 216 powers_cells_1, aI Y q_powers_ofPrime 18 powers_ofPrime_1, aI Y q_a1_firsts 12 a1_firsts, aI Y q_a1_seconds 12 a1_seconds, aI Y q_a1_kinds 12 a1_kinds, aI Y q_a1_numbers 144 a1_numbers, aI Y q_a1_colours 12 a1_colours]) [(0, .ref h0), (1, .ref q_a1), (2, .ref (ra ka2)), (4, .ref q_sieve_least), (5, .int m_2), (6, .int x6_2), (7, .int x7_1), (8, .int x8_2), (9, .int x9_1)] [] 88 := by
            intro n
            induction n with
            | zero => exact fun _ _ hm => absurd hm (Nat.not_lt_zero _)
            | succ n ih2 =>
              intro x8_2 x9_1  hm2 hI
              have h := hB2 x8_2 x9_1 hI
              refine g_iload C dX7_fill_88 8 rfl ?_
              refine g_bipush (v := 17) C dX7_fill_90 rfl ?_
              obtain ⟨J_1, hA, hB_J_1⟩ := h
              have key_3 : J_1 → gG E 0 0 (rowsW Y ra rs rf rm rl_1 ru rn rv_1 ++ [oX7 h0 (.ref q_sieve) (.ref q_powers) (v_rows) turn, oX8 q_sieve (.ref q_sieve_least), aI Y q_sieve_least n_sieve_least sieve_least, oX3 q_a1 a1_bound a1_modulus a1_seed a1_functions (v_a1_names) (.ref q_a1_kinds) (.ref q_a1_firsts) (.ref q_a1_seconds) (v_a1_degrees) (.ref q_a1_colours) (.ref q_a1_needs) (.ref q_a1_numbers), aI Y q_a1_needs 12 a1_needs, oX4 q_powers (.ref q_powers_ofPrime) (.ref q_powers_cells), aI Y q_powers_cells 216 powers_cells_1, aI Y q_powers_ofPrime 18 powers_ofPrime_1, aI Y q_a1_firsts 12 a1_firsts, aI Y q_a1_seconds 12 a1_seconds, aI Y q_a1_kinds 12 a1_kinds, aI Y q_a1_numbers 144 a1_numbers, aI Y q_a1_colours 12 a1_colours]) [(0, .ref h0), (1, .ref q_a1), (2, .ref (ra ka2)), (4, .ref q_sieve_least), (5, .int m_2), (6, .int x6_2), (7, .int x7_1), (8, .int x8_2), (9, .int x9_1)] [] 116 := by
                intro  hJ
                have h := hB_J_1  hJ
                refine g_iload C dX7_fill_116 7 rfl ?_
                refine g_iconst (v := 2) C dX7_fill_118 rfl ?_
                refine g_icmp_ge (tgt := 145) C dX7_fill_119 (by decide) (fun c_3 => ?_) (fun c_3 => ?_)
                · replace h := h.1 c_3
                  refine g_aload_n C dX7_fill_145 2 rfl ?_
                  refine g_iload C dX7_fill_146 5 rfl ?_
                  refine g_iload C dX7_fill_148 7 rfl ?_
                  obtain ⟨hc_3, h⟩ := h
                  refine g_idiv C dX7_fill_150 hc_3 ?_
                  refine g_iload C dX7_fill_151 7 rfl ?_
                  obtain ⟨P_1, hP, h⟩ := h
                  refine g_callV (As := [.int (x6_2 / x8_2), .int x8_2]) (rest := []) C (mX6_appendProduct_at l D Y ra ka2 (hka2) rs rf rm rl_1 ru rn rv_1 (x6_2 / x8_2) x8_2 P_1 hP) dX7_fill_153 rfl wM_X7_90 wI_X6_appendProduct wV_X6_appendProduct wN_X6 wC_X6_appendProduct (n := 2) (by decide +kernel) rfl (q0 := (2 * ka2)) (rowsW_obj0 _ _ _ _ _ _ _ _ _ (hka2)) rfl ⟨Nat.le_of_ble_eq_true rfl, Nat.le_of_ble_eq_true rfl⟩ ⟨Nat.le_of_ble_eq_true rfl, Nat.le_of_ble_eq_true rfl⟩ (Nat.le_of_ble_eq_true rfl) [0, 1, 2, 3, 4, 5, 6, 7] [8, 9, 10, 11, 12, 13, 14, 15, 16, 17, 18, 19, 20] rfl rfl rfl (fun v wc hv => ?_)
                  obtain ⟨filled_1, sums_1, rfl, rfl, hq⟩ := hv
                  replace h := h filled_1 sums_1 hq
                  obtain ⟨rl_2, erl_2⟩ : ∃ z, z = upd rl_1 ka2 filled_1 := ⟨_, rfl⟩
                  rw [← erl_2]
                  replace h := h rl_2 erl_2
                  obtain ⟨rv_2, erv_2⟩ : ∃ z, z = va_up rv_1 ka2 sums_1 := ⟨_, rfl⟩
                  rw [← erv_2]
                  replace h := h rv_2 erv_2
                  refine gG.perm (ws' := (rowsW Y ra rs rf rm rl_2 ru rn rv_2 ++ [oX7 h0 (.ref q_sieve) (.ref q_powers) (v_rows) turn, oX8 q_sieve (.ref q_sieve_least), aI Y q_sieve_least n_sieve_least sieve_least, oX3 q_a1 a1_bound a1_modulus a1_seed a1_functions (v_a1_names) (.ref q_a1_kinds) (.ref q_a1_firsts) (.ref q_a1_seconds) (v_a1_degrees) (.ref q_a1_colours) (.ref q_a1_needs) (.ref q_a1_numbers), aI Y q_a1_needs 12 a1_needs, oX4 q_powers (.ref q_powers_ofPrime) (.ref q_powers_cells), aI Y q_powers_cells 216 powers_cells_1, aI Y q_powers_ofPrime 18 powers_ofPrime_1, aI Y q_a1_firsts 12 a1_firsts, aI Y q_a1_seconds 12 a1_seconds, aI Y q_a1_kinds 12 a1_kinds, aI Y q_a1_numbers 144 a1_numbers, aI Y q_a1_colours 12 a1_colours])) [13, 14, 15, 16, 17, 18, 19, 20, 0, 1, 2, 3, 4, 5, 6, 7, 8, 9, 10, 11, 12] rfl rfl ?_
                  refine g_iinc (v := x6_2 + 1) (lv' := [(6, .int (x6_2 + 1)), (0, .ref h0), (1, .ref q_a1), (2, .ref (ra ka2)), (4, .ref q_sieve_least), (5, .int m_2), (7, .int x7_1), (8, .int x8_2), (9, .int x9_1)]) C dX7_fill_156 5 rfl rfl (by decide) rfl ?_
                  refine g_goto (tgt := 36) C dX7_fill_159 (by decide) ?_
                  refine gG.locals (lv' := [(0, .ref h0), (1, .ref q_a1), (2, .ref (ra ka2)), (4, .ref q_sieve_least), (5, .int m_2), (6, .int (x6_2 + 1))]) [1, 2, 3, 4, 5, 0] rfl ?_
                  exact ih1 powers_cells_1 powers_ofPrime_1 (x6_2 + 1) rl_2 rv_2 (Nat.lt_of_lt_of_le h.2 (Nat.le_of_lt_succ hm1)) h.1
                · replace h := h.2 c_3
                  refine g_aload_n C dX7_fill_122 2 rfl ?_
                  refine g_aload_n C dX7_fill_123 0 rfl ?_
                  refine g_get C inX7 8 rfl rfl 1 (by decide) wF_X7_21 rfl dX7_fill_124 ?_
                  refine g_aload_n C dX7_fill_127 1 rfl ?_
                  refine g_aload_n C dX7_fill_128 2 rfl ?_
                  refine g_get C inX6 (2 * ka2) (rowsW_obj _ _ _ _ _ _ _ _ _ _ hka2) rfl 1 (by decide) wF_X7_32 rfl dX7_fill_129 ?_
                  refine g_iload C dX7_fill_132 6 rfl ?_
                  refine g_iload C dX7_fill_134 8 rfl ?_
                  obtain ⟨P_2, hP, h⟩ := h
                  refine g_callV (As := [.ref q_a1, .int (rf ka2), .int x7_1, .int x9_1]) (rest := [.ref (ra ka2)]) C (mX4_valueAtPower l D Y q_powers q_a1 a1_bound a1_modulus a1_seed a1_functions v_a1_names q_a1_kinds q_a1_firsts q_a1_seconds v_a1_degrees q_a1_colours q_a1_needs q_a1_numbers a1_needs q_powers_ofPrime q_powers_cells powers_cells_1 powers_ofPrime_1 a1_firsts a1_seconds a1_kinds a1_numbers a1_colours (rf ka2) x7_1 x9_1 P_2 hP) dX7_fill_136 rfl wM_X7_83 wI_X4_valueAtPower wV_X4_valueAtPower wN_X4 wC_X4_valueAtPower (n := 4) (by decide +kernel) rfl (q0 := 2) rfl rfl ⟨Nat.le_of_ble_eq_true rfl, Nat.le_of_ble_eq_true rfl⟩ ⟨Nat.le_of_ble_eq_true rfl, Nat.le_of_ble_eq_true rfl⟩ (Nat.le_of_ble_eq_true rfl) [11, 12, 13, 14, 15, 16, 17, 18, 19, 20] [0, 1, 2, 3, 4, 5, 6, 7, 8, 9, 10] rfl rfl rfl (fun v wc hv => ?_)
                  obtain ⟨rF_1, cells_1, ofPrime_1, rfl, rfl, hq⟩ := hv
                  replace h := h rF_1 cells_1 ofPrime_1 hq
                  refine gG.eqw (ws' := (rowsW Y ra rs rf rm rl_1 ru rn rv_1 ++ [oX7 h0 (.ref q_sieve) (.ref q_powers) (v_rows) turn, oX8 q_sieve (.ref q_sieve_least), aI Y q_sieve_least n_sieve_least sieve_least, oX3 q_a1 a1_bound a1_modulus a1_seed a1_functions (v_a1_names) (.ref q_a1_kinds) (.ref q_a1_firsts) (.ref q_a1_seconds) (v_a1_degrees) (.ref q_a1_colours) (.ref q_a1_needs) (.ref q_a1_numbers), aI Y q_a1_needs 12 a1_needs, oX4 q_powers (.ref q_powers_ofPrime) (.ref q_powers_cells), aI Y q_powers_cells 216 cells_1, aI Y q_powers_ofPrime 18 ofPrime_1, aI Y q_a1_firsts 12 a1_firsts, aI Y q_a1_seconds 12 a1_seconds, aI Y q_a1_kinds 12 a1_kinds, aI Y q_a1_numbers 144 a1_numbers, aI Y q_a1_colours 12 a1_colours])) rfl ?_
                  obtain ⟨P_3, hP, h⟩ := h
                  refine g_callV (As := [.int rF_1]) (rest := []) C (mX6_append_at l D Y ra ka2 (hka2) rs rf rm rl_1 ru rn rv_1 rF_1 P_3 hP) dX7_fill_139 rfl wM_X7_87 wI_X6_append wV_X6_append wN_X6 wC_X6_append (n := 1) (by decide +kernel) rfl (q0 := (2 * ka2)) (rowsW_obj0 _ _ _ _ _ _ _ _ _ (hka2)) rfl ⟨Nat.le_of_ble_eq_true rfl, Nat.le_of_ble_eq_true rfl⟩ ⟨Nat.le_of_ble_eq_true rfl, Nat.le_of_ble_eq_true rfl⟩ (Nat.le_of_ble_eq_true rfl) [0, 1, 2, 3, 4, 5, 6, 7] [8, 9, 10, 11, 12, 13, 14, 15, 16, 17, 18, 19, 20] rfl rfl rfl (fun v wc hv => ?_)
                  obtain ⟨filled_2, sums_2, rfl, rfl, hq⟩ := hv
                  replace h := h filled_2 sums_2 hq
                  obtain ⟨rl_3, erl_3⟩ : ∃ z, z = upd rl_1 ka2 filled_2 := ⟨_, rfl⟩
                  rw [← erl_3]
                  replace h := h rl_3 erl_3
                  obtain ⟨rv_3, erv_3⟩ : ∃ z, z = va_up rv_1 ka2 sums_2 := ⟨_, rfl⟩
                  rw [← erv_3]
                  replace h := h rv_3 erv_3
                  refine gG.perm (ws' := (rowsW Y ra rs rf rm rl_3 ru rn rv_3 ++ [oX7 h0 (.ref q_sieve) (.ref q_powers) (v_rows) turn, oX8 q_sieve (.ref q_sieve_least), aI Y q_sieve_least n_sieve_least sieve_least, oX3 q_a1 a1_bound a1_modulus a1_seed a1_functions (v_a1_names) (.ref q_a1_kinds) (.ref q_a1_firsts) (.ref q_a1_seconds) (v_a1_degrees) (.ref q_a1_colours) (.ref q_a1_needs) (.ref q_a1_numbers), aI Y q_a1_needs 12 a1_needs, oX4 q_powers (.ref q_powers_ofPrime) (.ref q_powers_cells), aI Y q_powers_cells 216 cells_1, aI Y q_powers_ofPrime 18 ofPrime_1, aI Y q_a1_firsts 12 a1_firsts, aI Y q_a1_seconds 12 a1_seconds, aI Y q_a1_kinds 12 a1_kinds, aI Y q_a1_numbers 144 a1_numbers, aI Y q_a1_colours 12 a1_colours])) [13, 14, 15, 16, 17, 18, 19, 20, 0, 1, 2, 3, 4, 5, 6, 7, 8, 9, 10, 11, 12] rfl rfl ?_
                  refine g_goto (tgt := 156) C dX7_fill_142 (by decide) ?_
                  refine g_iinc (v := x6_2 + 1) (lv' := [(6, .int (x6_2 + 1)), (0, .ref h0), (1, .ref q_a1), (2, .ref (ra ka2)), (4, .ref q_sieve_least), (5, .int m_2), (7, .int x7_1), (8, .int x8_2), (9, .int x9_1)]) C dX7_fill_156 5 rfl rfl (by decide) rfl ?_
                  refine g_goto (tgt := 36) C dX7_fill_159 (by decide) ?_
                  refine gG.locals (lv' := [(0, .ref h0), (1, .ref q_a1), (2, .ref (ra ka2)), (4, .ref q_sieve_least), (5, .int m_2), (6, .int (x6_2 + 1))]) [1, 2, 3, 4, 5, 0] rfl ?_
                  exact ih1 cells_1 ofPrime_1 (x6_2 + 1) rl_3 rv_3 (Nat.lt_of_lt_of_le h.2 (Nat.le_of_lt_succ hm1)) h.1
              replace h := hA
              refine g_icmp_ge (tgt := 116) C dX7_fill_92 (by decide) (fun c_4 => ?_) (fun c_4 => ?_)
              · replace h := h.1 c_4
                exact key_3 h
              · replace h := h.2 c_4
                refine g_iload C dX7_fill_95 7 rfl ?_
                refine g_iload C dX7_fill_97 6 rfl ?_
                obtain ⟨hc_4, h⟩ := h
                refine g_irem C dX7_fill_99 hc_4 ?_
                refine g_if_ne (tgt := 116) C dX7_fill_100 (by decide) (fun c_5 => ?_) (fun c_5 => ?_)
                · replace h := h.1 c_5
                  exact key_3 h
                · replace h := h.2 c_5
                  refine g_iload C dX7_fill_103 7 rfl ?_
                  refine g_iload C dX7_fill_105 6 rfl ?_
                  refine g_idiv C dX7_fill_107 hc_4 ?_
                  refine g_topi (fun x8_3 ex8_3 => ?_)
                  replace h := h x8_3 ex8_3
                  refine g_istore (lv' := [(8, .int x8_3), (0, .ref h0), (1, .ref q_a1), (2, .ref (ra ka2)), (4, .ref q_sieve_least), (5, .int m_2), (6, .int x6_2), (7, .int x7_1), (9, .int x9_1)]) C dX7_fill_108 (by decide) rfl ?_
                  refine g_iinc (v := x9_1 + 1) (lv' := [(9, .int (x9_1 + 1)), (8, .int x8_3), (0, .ref h0), (1, .ref q_a1), (2, .ref (ra ka2)), (4, .ref q_sieve_least), (5, .int m_2), (6, .int x6_2), (7, .int x7_1)]) C dX7_fill_110 8 rfl rfl (by decide) rfl ?_
                  refine g_goto (tgt := 88) C dX7_fill_113 (by decide) ?_
                  refine gG.locals (lv' := [(0, .ref h0), (1, .ref q_a1), (2, .ref (ra ka2)), (4, .ref q_sieve_least), (5, .int m_2), (6, .int x6_2), (7, .int x7_1), (8, .int x8_3), (9, .int (x9_1 + 1))]) [2, 3, 4, 5, 6, 7, 8, 1, 0] rfl ?_
                  exact ih2 x8_3 (x9_1 + 1) (Nat.lt_of_lt_of_le h.2 (Nat.le_of_lt_succ hm2)) h.1
          refine gG.locals (lv' := [(0, .ref h0), (1, .ref q_a1), (2, .ref (ra ka2)), (4, .ref q_sieve_least), (5, .int m_2), (6, .int x6_2), (7, .int x7_1), (8, .int x8_1), (9, .int 1)]) [3, 4, 5, 6, 7, 8, 2, 1, 0] rfl ?_
          exact key_2 (Mea_2 x8_1 1 + 1) x8_1 1 (Nat.lt_succ_self _) hI2
        · replace h := h.2 c_2
          refine g_aload_n C dX7_fill_56 3 rfl ?_
          refine g_aload_n C dX7_fill_57 1 rfl ?_
          refine g_get C inX7 8 rfl rfl 1 (by decide) wF_X7_21 rfl dX7_fill_58 ?_
          refine g_aload_n C dX7_fill_61 2 rfl ?_
          refine g_aload_n C dX7_fill_62 3 rfl ?_
          refine g_get C inX6 (2 * ka2) (rowsW_obj _ _ _ _ _ _ _ _ _ _ hka2) rfl 1 (by decide) wF_X7_32 rfl dX7_fill_63 ?_
          refine g_iload C dX7_fill_66 6 rfl ?_
          refine g_iconst (v := 1) C dX7_fill_68 rfl ?_
          obtain ⟨P_4, hP, h⟩ := h
          refine g_callV (As := [.ref q_a1, .int (rf ka2), .int x6_2, .int 1]) (rest := [.ref (ra ka2)]) C (mX4_valueAtPower l D Y q_powers q_a1 a1_bound a1_modulus a1_seed a1_functions v_a1_names q_a1_kinds q_a1_firsts q_a1_seconds v_a1_degrees q_a1_colours q_a1_needs q_a1_numbers a1_needs q_powers_ofPrime q_powers_cells powers_cells_1 powers_ofPrime_1 a1_firsts a1_seconds a1_kinds a1_numbers a1_colours (rf ka2) x6_2 1 P_4 hP) dX7_fill_69 rfl wM_X7_83 wI_X4_valueAtPower wV_X4_valueAtPower wN_X4 wC_X4_valueAtPower (n := 4) (by decide +kernel) rfl (q0 := 2) rfl rfl ⟨Nat.le_of_ble_eq_true rfl, Nat.le_of_ble_eq_true rfl⟩ ⟨Nat.le_of_ble_eq_true rfl, Nat.le_of_ble_eq_true rfl⟩ (Nat.le_of_ble_eq_true rfl) [11, 12, 13, 14, 15, 16, 17, 18, 19, 20] [0, 1, 2, 3, 4, 5, 6, 7, 8, 9, 10] rfl rfl rfl (fun v wc hv => ?_)
          obtain ⟨rF_2, cells_2, ofPrime_2, rfl, rfl, hq⟩ := hv
          replace h := h rF_2 cells_2 ofPrime_2 hq
          refine gG.eqw (ws' := (rowsW Y ra rs rf rm rl_1 ru rn rv_1 ++ [oX7 h0 (.ref q_sieve) (.ref q_powers) (v_rows) turn, oX8 q_sieve (.ref q_sieve_least), aI Y q_sieve_least n_sieve_least sieve_least, oX3 q_a1 a1_bound a1_modulus a1_seed a1_functions (v_a1_names) (.ref q_a1_kinds) (.ref q_a1_firsts) (.ref q_a1_seconds) (v_a1_degrees) (.ref q_a1_colours) (.ref q_a1_needs) (.ref q_a1_numbers), aI Y q_a1_needs 12 a1_needs, oX4 q_powers (.ref q_powers_ofPrime) (.ref q_powers_cells), aI Y q_powers_cells 216 cells_2, aI Y q_powers_ofPrime 18 ofPrime_2, aI Y q_a1_firsts 12 a1_firsts, aI Y q_a1_seconds 12 a1_seconds, aI Y q_a1_kinds 12 a1_kinds, aI Y q_a1_numbers 144 a1_numbers, aI Y q_a1_colours 12 a1_colours])) rfl ?_
          obtain ⟨P_5, hP, h⟩ := h
          refine g_callV (As := [.int rF_2]) (rest := []) C (mX6_append_at l D Y ra ka2 (hka2) rs rf rm rl_1 ru rn rv_1 rF_2 P_5 hP) dX7_fill_72 rfl wM_X7_87 wI_X6_append wV_X6_append wN_X6 wC_X6_append (n := 1) (by decide +kernel) rfl (q0 := (2 * ka2)) (rowsW_obj0 _ _ _ _ _ _ _ _ _ (hka2)) rfl ⟨Nat.le_of_ble_eq_true rfl, Nat.le_of_ble_eq_true rfl⟩ ⟨Nat.le_of_ble_eq_true rfl, Nat.le_of_ble_eq_true rfl⟩ (Nat.le_of_ble_eq_true rfl) [0, 1, 2, 3, 4, 5, 6, 7] [8, 9, 10, 11, 12, 13, 14, 15, 16, 17, 18, 19, 20] rfl rfl rfl (fun v wc hv => ?_)
          obtain ⟨filled_3, sums_3, rfl, rfl, hq⟩ := hv
          replace h := h filled_3 sums_3 hq
          obtain ⟨rl_4, erl_4⟩ : ∃ z, z = upd rl_1 ka2 filled_3 := ⟨_, rfl⟩
          rw [← erl_4]
          replace h := h rl_4 erl_4
          obtain ⟨rv_4, erv_4⟩ : ∃ z, z = va_up rv_1 ka2 sums_3 := ⟨_, rfl⟩
          rw [← erv_4]
          replace h := h rv_4 erv_4
          refine gG.perm (ws' := (rowsW Y ra rs rf rm rl_4 ru rn rv_4 ++ [oX7 h0 (.ref q_sieve) (.ref q_powers) (v_rows) turn, oX8 q_sieve (.ref q_sieve_least), aI Y q_sieve_least n_sieve_least sieve_least, oX3 q_a1 a1_bound a1_modulus a1_seed a1_functions (v_a1_names) (.ref q_a1_kinds) (.ref q_a1_firsts) (.ref q_a1_seconds) (v_a1_degrees) (.ref q_a1_colours) (.ref q_a1_needs) (.ref q_a1_numbers), aI Y q_a1_needs 12 a1_needs, oX4 q_powers (.ref q_powers_ofPrime) (.ref q_powers_cells), aI Y q_powers_cells 216 cells_2, aI Y q_powers_ofPrime 18 ofPrime_2, aI Y q_a1_firsts 12 a1_firsts, aI Y q_a1_seconds 12 a1_seconds, aI Y q_a1_kinds 12 a1_kinds, aI Y q_a1_numbers 144 a1_numbers, aI Y q_a1_colours 12 a1_colours])) [13, 14, 15, 16, 17, 18, 19, 20, 0, 1, 2, 3, 4, 5, 6, 7, 8, 9, 10, 11, 12] rfl rfl ?_
          refine g_goto (tgt := 156) C dX7_fill_75 (by decide) ?_
          refine g_iinc (v := x6_2 + 1) (lv' := [(6, .int (x6_2 + 1)), (7, .int x7_1), (0, .ref h0), (1, .ref q_a1), (2, .ref (ra ka2)), (4, .ref q_sieve_least), (5, .int m_2)]) C dX7_fill_156 6 rfl rfl (by decide) rfl ?_
          refine g_goto (tgt := 36) C dX7_fill_159 (by decide) ?_
          refine gG.locals (lv' := [(0, .ref h0), (1, .ref q_a1), (2, .ref (ra ka2)), (4, .ref q_sieve_least), (5, .int m_2), (6, .int (x6_2 + 1))]) [2, 3, 4, 5, 6, 0] rfl ?_
          exact ih1 cells_2 ofPrime_2 (x6_2 + 1) rl_4 rv_4 (Nat.lt_of_lt_of_le h.2 (Nat.le_of_lt_succ hm1)) h.1
  refine gG.locals (lv' := [(0, .ref h0), (1, .ref q_a1), (2, .ref (ra ka2)), (4, .ref q_sieve_least), (5, .int m_2), (6, .int x6_1)]) [3, 4, 5, 2, 1, 0] rfl ?_
  exact key_1 (Mea_1 powers_cells powers_ofPrime x6_1 rl rv + 1) powers_cells powers_ofPrime x6_1 rl rv (Nat.lt_succ_self _) hI1
theorem dX7_upTo_0 : decode cX7_upTo 0 = .ok (.aload_n 0, 1) := by decide +kernel
theorem dX7_upTo_1 : decode cX7_upTo 1 = .ok (.iload_n 2, 1) := by decide +kernel
theorem dX7_upTo_2 : decode cX7_upTo 2 = .ok (.aload_n 1, 1) := by decide +kernel
theorem dX7_upTo_3 : decode cX7_upTo 3 = .ok (.getfield 36, 3) := by decide +kernel
theorem dX7_upTo_6 : decode cX7_upTo 6 = .ok (.invokevirtual 41, 3) := by decide +kernel
theorem dX7_upTo_9 : decode cX7_upTo 9 = .ok (.astore 4, 2) := by decide +kernel
theorem dX7_upTo_11 : decode cX7_upTo 11 = .ok (.aload_n 0, 1) := by decide +kernel
theorem dX7_upTo_12 : decode cX7_upTo 12 = .ok (.dup, 1) := by decide +kernel
theorem dX7_upTo_13 : decode cX7_upTo 13 = .ok (.getfield 45, 3) := by decide +kernel
theorem dX7_upTo_16 : decode cX7_upTo 16 = .ok (.iconst 1, 1) := by decide +kernel
theorem dX7_upTo_17 : decode cX7_upTo 17 = .ok (.iadd, 1) := by decide +kernel
theorem dX7_upTo_18 : decode cX7_upTo 18 = .ok (.putfield 45, 3) := by decide +kernel
theorem dX7_upTo_21 : decode cX7_upTo 21 = .ok (.aload 4, 2) := by decide +kernel
theorem dX7_upTo_23 : decode cX7_upTo 23 = .ok (.aload_n 0, 1) := by decide +kernel
theorem dX7_upTo_24 : decode cX7_upTo 24 = .ok (.getfield 45, 3) := by decide +kernel
theorem dX7_upTo_27 : decode cX7_upTo 27 = .ok (.putfield 48, 3) := by decide +kernel
theorem dX7_upTo_30 : decode cX7_upTo 30 = .ok (.iload_n 3, 1) := by decide +kernel
theorem dX7_upTo_31 : decode cX7_upTo 31 = .ok (.aload 4, 2) := by decide +kernel
theorem dX7_upTo_33 : decode cX7_upTo 33 = .ok (.getfield 51, 3) := by decide +kernel
theorem dX7_upTo_36 : decode cX7_upTo 36 = .ok (.if_icmp .le 25, 3) := by decide +kernel
theorem dX7_upTo_39 : decode cX7_upTo 39 = .ok (.aload_n 0, 1) := by decide +kernel
theorem dX7_upTo_40 : decode cX7_upTo 40 = .ok (.getfield 12, 3) := by decide +kernel
theorem dX7_upTo_43 : decode cX7_upTo 43 = .ok (.iload_n 3, 1) := by decide +kernel
theorem dX7_upTo_44 : decode cX7_upTo 44 = .ok (.invokevirtual 54, 3) := by decide +kernel
theorem dX7_upTo_47 : decode cX7_upTo 47 = .ok (.aload 4, 2) := by decide +kernel
theorem dX7_upTo_49 : decode cX7_upTo 49 = .ok (.iload_n 3, 1) := by decide +kernel
theorem dX7_upTo_50 : decode cX7_upTo 50 = .ok (.invokevirtual 58, 3) := by decide +kernel
theorem dX7_upTo_53 : decode cX7_upTo 53 = .ok (.aload_n 0, 1) := by decide +kernel
theorem dX7_upTo_54 : decode cX7_upTo 54 = .ok (.aload_n 1, 1) := by decide +kernel
theorem dX7_upTo_55 : decode cX7_upTo 55 = .ok (.aload 4, 2) := by decide +kernel
theorem dX7_upTo_57 : decode cX7_upTo 57 = .ok (.iload_n 3, 1) := by decide +kernel
theorem dX7_upTo_58 : decode cX7_upTo 58 = .ok (.invokevirtual 61, 3) := by decide +kernel
theorem dX7_upTo_61 : decode cX7_upTo 61 = .ok (.aload 4, 2) := by decide +kernel
theorem dX7_upTo_63 : decode cX7_upTo 63 = .ok (.areturn, 1) := by decide +kernel
/-- QuotientSums$Rows.upTo(LQuotientSums$Plan;II)LQuotientSums$Row; -/
def wX7_upTo (mc ms : Nat) (a1_bound : Int32) (a1_modulus : Int32) (a1_seed : Int32) (a1_functions : Int32) (rf : Nat → Int32) (rm : Nat → Int32) (rl : Nat → Int32) (ru : Nat → Int32) (rn : Nat → Nat) (rv : Nat → Nat → Int32) (turn : Int32) (n_sieve_least : Nat) (sieve_least : Nat → Int32) (a1_needs : Nat → Int32) (powers_cells : Nat → Int32) (powers_ofPrime : Nat → Int32) (a1_firsts : Nat → Int32) (a1_seconds : Nat → Int32) (a1_kinds : Nat → Int32) (a1_numbers : Nat → Int32) (a1_colours : Nat → Int32) (a2 : Int32) (a3 : Int32) (Q : (Nat) → (Nat → Int32) → (Nat → Int32) → (Nat → Int32) → (Nat → Int32) → (Nat → Nat) → (Nat → Nat → Int32) → (Int32) → (Nat) → (Nat → Int32) → (Nat → Int32) → (Nat → Int32) → Prop) : Prop :=
  (∃ (P_1 : (Nat) → (Nat → Int32) → (Nat → Int32) → (Nat → Int32) → (Nat → Nat → Int32) → Prop), wX7_rowOf turn rf rm rl ru rn rv a2 a1_modulus P_1 ∧ ∀ (k_1 : Nat) (rf_1 : Nat → Int32) (rm_1 : Nat → Int32) (rl_1 : Nat → Int32) (rv_1 : Nat → Nat → Int32), P_1 k_1 rf_1 rm_1 rl_1 rv_1 → ∀ turn_1 : Int32, turn_1 = turn + 1 → ∀ ru_1 : Nat → Int32, ru_1 = upd ru k_1 turn_1 → ((a3 ≤ (rl_1 k_1) → (Q k_1 rf_1 rm_1 rl_1 ru_1 rn rv_1 turn_1 n_sieve_least sieve_least powers_cells powers_ofPrime)) ∧ (¬ a3 ≤ (rl_1 k_1) → (∃ (mcF_1 msF_1 : Nat) (P_2 : (Nat) → (Nat → Int32) → Prop), (0 + mcF_1 ≤ mc ∧ 0 + msF_1 ≤ ms) ∧ wX8_reach mcF_1 msF_1 n_sieve_least sieve_least a3 P_2 ∧ ∀ (n_least_1 : Nat) (least_1 : Nat → Int32), P_2 n_least_1 least_1 → ∃ (mcF_2 msF_2 : Nat) (P_3 : (Nat) → (Nat → Int32) → Prop), (0 + mcF_1 + mcF_2 ≤ mc ∧ 0 + msF_1 + msF_2 ≤ ms) ∧ wX6_makeRoom mcF_2 msF_2 (rf_1 k_1) (rm_1 k_1) (rl_1 k_1) (ru_1 k_1) (rn k_1) (rv_1 k_1) a3 P_3 ∧ ∀ (n_sums_1 : Nat) (sums_1 : Nat → Int32), P_3 n_sums_1 sums_1 → ∀ rn_1 : Nat → Nat, rn_1 = va_up rn k_1 n_sums_1 → ∀ rv_2 : Nat → Nat → Int32, rv_2 = va_up rv_1 k_1 sums_1 → ∃ (P_4 : (Nat → Int32) → (Nat → Nat → Int32) → (Nat → Int32) → (Nat → Int32) → Prop), wX7_fill rf_1 rm_1 rl_1 ru_1 rn_1 rv_2 turn_1 n_least_1 least_1 a1_bound a1_modulus a1_seed a1_functions a1_needs powers_cells powers_ofPrime a1_firsts a1_seconds a1_kinds a1_numbers a1_colours k_1 a3 P_4 ∧ ∀ (rl_2 : Nat → Int32) (rv_3 : Nat → Nat → Int32) (powers_cells_1 : Nat → Int32) (powers_ofPrime_1 : Nat → Int32), P_4 rl_2 rv_3 powers_cells_1 powers_ofPrime_1 → (Q k_1 rf_1 rm_1 rl_2 ru_1 rn_1 rv_3 turn_1 n_least_1 least_1 powers_cells_1 powers_ofPrime_1)))))
set_option maxHeartbeats 4000000 in
set_option maxRecDepth 100000 in
theorem mX7_upTo (l : Launch) (D : va_G) (Y : Nat → ClassId) (mc ms : Nat) (h0 : Nat) (ra : Nat → Nat) (q_a1 : Nat) (a1_bound : Int32) (a1_modulus : Int32) (a1_seed : Int32) (a1_functions : Int32) (v_a1_names : Value) (q_a1_kinds : Nat) (q_a1_firsts : Nat) (q_a1_seconds : Nat) (v_a1_degrees : Value) (q_a1_colours : Nat) (q_a1_needs : Nat) (q_a1_numbers : Nat) (rs : Nat → Nat) (rf : Nat → Int32) (rm : Nat → Int32) (rl : Nat → Int32) (ru : Nat → Int32) (rn : Nat → Nat) (rv : Nat → Nat → Int32) (q_sieve : Nat) (q_powers : Nat) (q_rows : Nat) (turn : Int32) (q_sieve_least : Nat) (n_sieve_least : Nat) (sieve_least : Nat → Int32) (a1_needs : Nat → Int32) (q_powers_ofPrime : Nat) (q_powers_cells : Nat) (powers_cells : Nat → Int32) (powers_ofPrime : Nat → Int32) (a1_firsts : Nat → Int32) (a1_seconds : Nat → Int32) (a1_kinds : Nat → Int32) (a1_numbers : Nat → Int32) (a1_colours : Nat → Int32) (a2 : Int32) (a3 : Int32) (Q : (Nat) → (Nat → Int32) → (Nat → Int32) → (Nat → Int32) → (Nat → Int32) → (Nat → Nat) → (Nat → Nat → Int32) → (Int32) → (Nat) → (Nat → Int32) → (Nat → Int32) → (Nat → Int32) → Prop) (h : wX7_upTo mc ms a1_bound a1_modulus a1_seed a1_functions rf rm rl ru rn rv turn n_sieve_least sieve_least a1_needs powers_cells powers_ofPrime a1_firsts a1_seconds a1_kinds a1_numbers a1_colours a2 a3 Q) : gM l D Y yX7_upTo cX7_upTo 5 (some (.object "QuotientSums$Row")) 5 127 mc ms [.ref h0, .ref q_a1, .int a2, .int a3] (rowsW Y ra rs rf rm rl ru rn rv ++ [oX3 q_a1 a1_bound a1_modulus a1_seed a1_functions (v_a1_names) (.ref q_a1_kinds) (.ref q_a1_firsts) (.ref q_a1_seconds) (v_a1_degrees) (.ref q_a1_colours) (.ref q_a1_needs) (.ref q_a1_numbers), oX7 h0 (.ref q_sieve) (.ref q_powers) (.ref q_rows) turn, aR Y q_rows 4 (fun j => some (ra j)), oX8 q_sieve (.ref q_sieve_least), aI Y q_sieve_least n_sieve_least sieve_least, aI Y q_a1_needs 12 a1_needs, oX4 q_powers (.ref q_powers_ofPrime) (.ref q_powers_cells), aI Y q_powers_cells 216 powers_cells, aI Y q_powers_ofPrime 18 powers_ofPrime, aI Y q_a1_firsts 12 a1_firsts, aI Y q_a1_seconds 12 a1_seconds, aI Y q_a1_kinds 12 a1_kinds, aI Y q_a1_numbers 144 a1_numbers, aI Y q_a1_colours 12 a1_colours]) (fun v w => ∃ r : Nat, ∃ rs' : Nat → Nat, ∃ rf' : Nat → Int32, ∃ rm' : Nat → Int32, ∃ rl' : Nat → Int32, ∃ ru' : Nat → Int32, ∃ rn' : Nat → Nat, ∃ rv' : Nat → Nat → Int32, ∃ turn' : Int32, ∃ q_sieve_least' : Nat, ∃ n_sieve_least' : Nat, ∃ sieve_least' : Nat → Int32, ∃ powers_cells' : Nat → Int32, ∃ powers_ofPrime' : Nat → Int32, v = some (.ref (ra r)) ∧ w = (rowsW Y ra rs' rf' rm' rl' ru' rn' rv' ++ [oX3 q_a1 a1_bound a1_modulus a1_seed a1_functions (v_a1_names) (.ref q_a1_kinds) (.ref q_a1_firsts) (.ref q_a1_seconds) (v_a1_degrees) (.ref q_a1_colours) (.ref q_a1_needs) (.ref q_a1_numbers), oX7 h0 (.ref q_sieve) (.ref q_powers) (.ref q_rows) turn', aR Y q_rows 4 (fun j => some (ra j)), oX8 q_sieve (.ref q_sieve_least'), aI Y q_sieve_least' n_sieve_least' sieve_least', aI Y q_a1_needs 12 a1_needs, oX4 q_powers (.ref q_powers_ofPrime) (.ref q_powers_cells), aI Y q_powers_cells 216 powers_cells', aI Y q_powers_ofPrime 18 powers_ofPrime', aI Y q_a1_firsts 12 a1_firsts, aI Y q_a1_seconds 12 a1_seconds, aI Y q_a1_kinds 12 a1_kinds, aI Y q_a1_numbers 144 a1_numbers, aI Y q_a1_colours 12 a1_colours]) ∧ r < 4 ∧ Q r rf' rm' rl' ru' rn' rv' turn' n_sieve_least' sieve_least' powers_cells' powers_ofPrime') := by
  refine gM_of (own := RX7) (by decide +kernel) rfl (Nat.le_of_ble_eq_true rfl) rfl (fun E C hR => ?_)
  unfold wX7_upTo at h
  refine g_aload_n C dX7_upTo_0 0 rfl ?_
  refine g_iload_n C dX7_upTo_1 2 rfl ?_
  refine g_aload_n C dX7_upTo_2 1 rfl ?_
  refine g_get C inX3 8 rfl rfl 1 (by decide) wF_X7_36 rfl dX7_upTo_3 ?_
  obtain ⟨P_1, hP, h⟩ := h
  refine g_callV (As := [.int a2, .int a1_modulus]) (rest := []) C (mX7_rowOf l D Y h0 ra (.ref q_sieve) (.ref q_powers) q_rows turn rs rf rm rl ru rn rv a2 a1_modulus P_1 hP) dX7_upTo_6 rfl wM_X7_41 wI_X7_rowOf wV_X7_rowOf wN_X7 wC_X7_rowOf (n := 2) (by decide +kernel) rfl (q0 := 8) rfl rfl ⟨Nat.le_of_ble_eq_true rfl, Nat.le_of_ble_eq_true rfl⟩ ⟨Nat.zero_le _, Nat.zero_le _⟩ (Nat.le_of_ble_eq_true rfl) [0, 1, 2, 3, 4, 5, 6, 7, 9, 10] [8, 11, 12, 13, 14, 15, 16, 17, 18, 19, 20, 21] rfl rfl rfl (fun v wc hv => ?_)
  obtain ⟨k_1, rf_1, rm_1, rl_1, rv_1, rfl, rfl, hkk_1, hq⟩ := hv
  replace h := h k_1 rf_1 rm_1 rl_1 rv_1 hq
  refine gG.perm (ws' := (rowsW Y ra rs rf_1 rm_1 rl_1 ru rn rv_1 ++ [oX3 q_a1 a1_bound a1_modulus a1_seed a1_functions (v_a1_names) (.ref q_a1_kinds) (.ref q_a1_firsts) (.ref q_a1_seconds) (v_a1_degrees) (.ref q_a1_colours) (.ref q_a1_needs) (.ref q_a1_numbers), oX7 h0 (.ref q_sieve) (.ref q_powers) (.ref q_rows) turn, aR Y q_rows 4 (fun j => some (ra j)), oX8 q_sieve (.ref q_sieve_least), aI Y q_sieve_least n_sieve_least sieve_least, aI Y q_a1_needs 12 a1_needs, oX4 q_powers (.ref q_powers_ofPrime) (.ref q_powers_cells), aI Y q_powers_cells 216 powers_cells, aI Y q_powers_ofPrime 18 powers_ofPrime, aI Y q_a1_firsts 12 a1_firsts, aI Y q_a1_seconds 12 a1_seconds, aI Y q_a1_kinds 12 a1_kinds, aI Y q_a1_numbers 144 a1_numbers, aI Y q_a1_colours 12 a1_colours])) [12, 13, 14, 15, 16, 17, 18, 19, 0, 20, 21, 1, 2, 3, 4, 5, 6, 7, 8, 9, 10, 11] rfl rfl ?_
  refine g_astore (lv' := [(4, .ref (ra k_1)), (0, .ref h0), (1, .ref q_a1), (2, .int a2), (3, .int a3)]) C dX7_upTo_9 (by decide) rfl ?_
  refine g_aload_n C dX7_upTo_11 1 rfl ?_
  refine g_dup C dX7_upTo_12 rfl ?_
  refine g_get C inX7 9 rfl rfl 3 (by decide) wF_X7_45 rfl dX7_upTo_13 ?_
  refine g_iconst (v := 1) C dX7_upTo_16 rfl ?_
  refine g_iadd C dX7_upTo_17 ?_
  refine g_topi (fun turn_1 eturn_1 => ?_)
  replace h := h turn_1 eturn_1
  refine g_put C inX7 tyX7 tyX7_ok nmX7 9 rfl rfl 3 (by decide) wF_X7_45 rfl rfl rfl (Nat.le_of_ble_eq_true rfl) (ws' := (rowsW Y ra rs rf_1 rm_1 rl_1 ru rn rv_1 ++ [oX3 q_a1 a1_bound a1_modulus a1_seed a1_functions (v_a1_names) (.ref q_a1_kinds) (.ref q_a1_firsts) (.ref q_a1_seconds) (v_a1_degrees) (.ref q_a1_colours) (.ref q_a1_needs) (.ref q_a1_numbers), oX7 h0 (.ref q_sieve) (.ref q_powers) (.ref q_rows) turn_1, aR Y q_rows 4 (fun j => some (ra j)), oX8 q_sieve (.ref q_sieve_least), aI Y q_sieve_least n_sieve_least sieve_least, aI Y q_a1_needs 12 a1_needs, oX4 q_powers (.ref q_powers_ofPrime) (.ref q_powers_cells), aI Y q_powers_cells 216 powers_cells, aI Y q_powers_ofPrime 18 powers_ofPrime, aI Y q_a1_firsts 12 a1_firsts, aI Y q_a1_seconds 12 a1_seconds, aI Y q_a1_kinds 12 a1_kinds, aI Y q_a1_numbers 144 a1_numbers, aI Y q_a1_colours 12 a1_colours])) rfl dX7_upTo_18 ?_
  refine g_aload C dX7_upTo_21 0 rfl ?_
  refine g_aload_n C dX7_upTo_23 1 rfl ?_
  refine g_get C inX7 9 rfl rfl 3 (by decide) wF_X7_45 rfl dX7_upTo_24 ?_
  refine g_put C inX6 tyX6 tyX6_ok nmX6 (2 * k_1) (rowsW_obj _ _ _ _ _ _ _ _ _ _ hkk_1) rfl 4 (by decide) wF_X7_48 rfl rfl rfl (Nat.le_of_ble_eq_true rfl) (ws' := (rowsW Y ra rs rf_1 rm_1 rl_1 (upd ru k_1 turn_1) rn rv_1 ++ [oX3 q_a1 a1_bound a1_modulus a1_seed a1_functions (v_a1_names) (.ref q_a1_kinds) (.ref q_a1_firsts) (.ref q_a1_seconds) (v_a1_degrees) (.ref q_a1_colours) (.ref q_a1_needs) (.ref q_a1_numbers), oX7 h0 (.ref q_sieve) (.ref q_powers) (.ref q_rows) turn_1, aR Y q_rows 4 (fun j => some (ra j)), oX8 q_sieve (.ref q_sieve_least), aI Y q_sieve_least n_sieve_least sieve_least, aI Y q_a1_needs 12 a1_needs, oX4 q_powers (.ref q_powers_ofPrime) (.ref q_powers_cells), aI Y q_powers_cells 216 powers_cells, aI Y q_powers_ofPrime 18 powers_ofPrime, aI Y q_a1_firsts 12 a1_firsts, aI Y q_a1_seconds 12 a1_seconds, aI Y q_a1_kinds 12 a1_kinds, aI Y q_a1_numbers 144 a1_numbers, aI Y q_a1_colours 12 a1_colours])) (rowsW_set4 _ _ _ _ _ _ _ _ _ _ hkk_1 _) dX7_upTo_27 ?_
  obtain ⟨ru_1, eru_1⟩ : ∃ z, z = upd ru k_1 turn_1 := ⟨_, rfl⟩
  refine gG.eqw (ws' := (rowsW Y ra rs rf_1 rm_1 rl_1 ru_1 rn rv_1 ++ [oX3 q_a1 a1_bound a1_modulus a1_seed a1_functions (v_a1_names) (.ref q_a1_kinds) (.ref q_a1_firsts) (.ref q_a1_seconds) (v_a1_degrees) (.ref q_a1_colours) (.ref q_a1_needs) (.ref q_a1_numbers), oX7 h0 (.ref q_sieve) (.ref q_powers) (.ref q_rows) turn_1, aR Y q_rows 4 (fun j => some (ra j)), oX8 q_sieve (.ref q_sieve_least), aI Y q_sieve_least n_sieve_least sieve_least, aI Y q_a1_needs 12 a1_needs, oX4 q_powers (.ref q_powers_ofPrime) (.ref q_powers_cells), aI Y q_powers_cells 216 powers_cells, aI Y q_powers_ofPrime 18 powers_ofPrime, aI Y q_a1_firsts 12 a1_firsts, aI Y q_a1_seconds 12 a1_seconds, aI Y q_a1_kinds 12 a1_kinds, aI Y q_a1_numbers 144 a1_numbers, aI Y q_a1_colours 12 a1_colours])) (by rw [eru_1]) ?_
  replace h := h ru_1 eru_1
  refine g_iload_n C dX7_upTo_30 4 rfl ?_
  refine g_aload C dX7_upTo_31 0 rfl ?_
  refine g_get C inX6 (2 * k_1) (rowsW_obj _ _ _ _ _ _ _ _ _ _ hkk_1) rfl 3 (by decide) wF_X7_51 rfl dX7_upTo_33 ?_
  refine g_icmp_le (tgt := 61) C dX7_upTo_36 (by decide) (fun c_1 => ?_) (fun c_1 => ?_)
  · replace h := h.1 c_1
    refine g_aload C dX7_upTo_61 0 rfl ?_
    exact g_aret C hR (by first | exact Or.inl ⟨_, rfl⟩ | exact Or.inr ⟨_, rfl⟩) (show 0 ≤ mc ∧ 0 ≤ ms from ⟨Nat.zero_le _, Nat.zero_le _⟩).1 (show 0 ≤ mc ∧ 0 ≤ ms from ⟨Nat.zero_le _, Nat.zero_le _⟩).2 dX7_upTo_63 ⟨k_1, rs, rf_1, rm_1, rl_1, ru_1, rn, rv_1, turn_1, q_sieve_least, n_sieve_least, sieve_least, powers_cells, powers_ofPrime, rfl, rfl, hkk_1, h⟩
  · replace h := h.2 c_1
    refine g_aload_n C dX7_upTo_39 1 rfl ?_
    refine g_get C inX7 9 rfl rfl 0 (by decide) wF_X7_12 rfl dX7_upTo_40 ?_
    refine g_iload_n C dX7_upTo_43 4 rfl ?_
    obtain ⟨mcF_1, msF_1, P_2, hk_1, hP, h⟩ := h
    refine g_callV (As := [.int a3]) (rest := []) C (mX8_reach l D Y mcF_1 msF_1 q_sieve q_sieve_least n_sieve_least sieve_least a3 P_2 hP) dX7_upTo_44 rfl wM_X7_54 wI_X8_reach wV_X8_reach wN_X8 wC_X8_reach (n := 1) (by decide +kernel) rfl (q0 := 0) rfl rfl ⟨Nat.le_of_ble_eq_true rfl, Nat.le_of_ble_eq_true rfl⟩ hk_1 (Nat.le_of_ble_eq_true rfl) [11, 12] [0, 1, 2, 3, 4, 5, 6, 7, 8, 9, 10, 13, 14, 15, 16, 17, 18, 19, 20, 21] rfl rfl rfl (fun v wc hv => ?_)
    obtain ⟨q_least_1, n_least_1, least_1, rfl, rfl, hq⟩ := hv
    replace h := h n_least_1 least_1 hq
    refine gG.perm (ws' := (rowsW Y ra rs rf_1 rm_1 rl_1 ru_1 rn rv_1 ++ [oX3 q_a1 a1_bound a1_modulus a1_seed a1_functions (v_a1_names) (.ref q_a1_kinds) (.ref q_a1_firsts) (.ref q_a1_seconds) (v_a1_degrees) (.ref q_a1_colours) (.ref q_a1_needs) (.ref q_a1_numbers), oX7 h0 (.ref q_sieve) (.ref q_powers) (.ref q_rows) turn_1, aR Y q_rows 4 (fun j => some (ra j)), oX8 q_sieve (.ref q_least_1), aI Y q_least_1 n_least_1 least_1, aI Y q_a1_needs 12 a1_needs, oX4 q_powers (.ref q_powers_ofPrime) (.ref q_powers_cells), aI Y q_powers_cells 216 powers_cells, aI Y q_powers_ofPrime 18 powers_ofPrime, aI Y q_a1_firsts 12 a1_firsts, aI Y q_a1_seconds 12 a1_seconds, aI Y q_a1_kinds 12 a1_kinds, aI Y q_a1_numbers 144 a1_numbers, aI Y q_a1_colours 12 a1_colours])) [0, 1, 2, 3, 4, 5, 6, 7, 8, 9, 10, 20, 21, 11, 12, 13, 14, 15, 16, 17, 18, 19] rfl rfl ?_
    refine g_aload C dX7_upTo_47 0 rfl ?_
    refine g_iload_n C dX7_upTo_49 4 rfl ?_
    obtain ⟨mcF_2, msF_2, P_3, hk_2, hP, h⟩ := h
    refine g_callV (As := [.int a3]) (rest := []) C (mX6_makeRoom_at l D Y mcF_2 msF_2 ra k_1 (hkk_1) rs rf_1 rm_1 rl_1 ru_1 rn rv_1 a3 P_3 hP) dX7_upTo_50 rfl wM_X7_58 wI_X6_makeRoom wV_X6_makeRoom wN_X6 wC_X6_makeRoom (n := 1) (by decide +kernel) rfl (q0 := (2 * k_1)) (rowsW_obj0 _ _ _ _ _ _ _ _ _ (hkk_1)) rfl ⟨Nat.le_of_ble_eq_true rfl, Nat.le_of_ble_eq_true rfl⟩ hk_2 (Nat.le_of_ble_eq_true rfl) [0, 1, 2, 3, 4, 5, 6, 7] [8, 9, 10, 11, 12, 13, 14, 15, 16, 17, 18, 19, 20, 21] rfl rfl rfl (fun v wc hv => ?_)
    obtain ⟨q_sums_1, n_sums_1, sums_1, rfl, rfl, hq⟩ := hv
    replace h := h n_sums_1 sums_1 hq
    obtain ⟨rs_1, ers_1⟩ : ∃ z, z = va_up rs k_1 q_sums_1 := ⟨_, rfl⟩
    rw [← ers_1]
    obtain ⟨rn_1, ern_1⟩ : ∃ z, z = va_up rn k_1 n_sums_1 := ⟨_, rfl⟩
    rw [← ern_1]
    replace h := h rn_1 ern_1
    obtain ⟨rv_2, erv_2⟩ : ∃ z, z = va_up rv_1 k_1 sums_1 := ⟨_, rfl⟩
    rw [← erv_2]
    replace h := h rv_2 erv_2
    refine gG.perm (ws' := (rowsW Y ra rs_1 rf_1 rm_1 rl_1 ru_1 rn_1 rv_2 ++ [oX3 q_a1 a1_bound a1_modulus a1_seed a1_functions (v_a1_names) (.ref q_a1_kinds) (.ref q_a1_firsts) (.ref q_a1_seconds) (v_a1_degrees) (.ref q_a1_colours) (.ref q_a1_needs) (.ref q_a1_numbers), oX7 h0 (.ref q_sieve) (.ref q_powers) (.ref q_rows) turn_1, aR Y q_rows 4 (fun j => some (ra j)), oX8 q_sieve (.ref q_least_1), aI Y q_least_1 n_least_1 least_1, aI Y q_a1_needs 12 a1_needs, oX4 q_powers (.ref q_powers_ofPrime) (.ref q_powers_cells), aI Y q_powers_cells 216 powers_cells, aI Y q_powers_ofPrime 18 powers_ofPrime, aI Y q_a1_firsts 12 a1_firsts, aI Y q_a1_seconds 12 a1_seconds, aI Y q_a1_kinds 12 a1_kinds, aI Y q_a1_numbers 144 a1_numbers, aI Y q_a1_colours 12 a1_colours])) [14, 15, 16, 17, 18, 19, 20, 21, 0, 1, 2, 3, 4, 5, 6, 7, 8, 9, 10, 11, 12, 13] rfl rfl ?_
    refine g_aload_n C dX7_upTo_53 1 rfl ?_
    refine g_aload_n C dX7_upTo_54 2 rfl ?_
    refine g_aload C dX7_upTo_55 0 rfl ?_
    refine g_iload_n C dX7_upTo_57 4 rfl ?_
    obtain ⟨P_4, hP, h⟩ := h
    refine g_callV (As := [.ref q_a1, .ref (ra k_1), .int a3]) (rest := []) C (mX7_fill l D Y h0 ra q_a1 k_1 (hkk_1) rs_1 rf_1 rm_1 rl_1 ru_1 rn_1 rv_2 q_sieve q_powers (.ref q_rows) turn_1 q_least_1 n_least_1 least_1 a1_bound a1_modulus a1_seed a1_functions v_a1_names q_a1_kinds q_a1_firsts q_a1_seconds v_a1_degrees q_a1_colours q_a1_needs q_a1_numbers a1_needs q_powers_ofPrime q_powers_cells powers_cells powers_ofPrime a1_firsts a1_seconds a1_kinds a1_numbers a1_colours a3 P_4 hP) dX7_upTo_58 rfl wM_X7_61 wI_X7_fill wV_X7_fill wN_X7 wC_X7_fill (n := 3) (by decide +kernel) rfl (q0 := 8) rfl rfl ⟨Nat.le_of_ble_eq_true rfl, Nat.le_of_ble_eq_true rfl⟩ hk_2 (Nat.le_of_ble_eq_true rfl) [0, 1, 2, 3, 4, 5, 6, 7, 9, 11, 12, 8, 13, 14, 15, 16, 17, 18, 19, 20, 21] [10] rfl rfl rfl (fun v wc hv => ?_)
    obtain ⟨rl_2, rv_3, powers_cells_1, powers_ofPrime_1, rfl, rfl, hq⟩ := hv
    replace h := h rl_2 rv_3 powers_cells_1 powers_ofPrime_1 hq
    refine gG.perm (ws' := (rowsW Y ra rs_1 rf_1 rm_1 rl_2 ru_1 rn_1 rv_3 ++ [oX3 q_a1 a1_bound a1_modulus a1_seed a1_functions (v_a1_names) (.ref q_a1_kinds) (.ref q_a1_firsts) (.ref q_a1_seconds) (v_a1_degrees) (.ref q_a1_colours) (.ref q_a1_needs) (.ref q_a1_numbers), oX7 h0 (.ref q_sieve) (.ref q_powers) (.ref q_rows) turn_1, aR Y q_rows 4 (fun j => some (ra j)), oX8 q_sieve (.ref q_least_1), aI Y q_least_1 n_least_1 least_1, aI Y q_a1_needs 12 a1_needs, oX4 q_powers (.ref q_powers_ofPrime) (.ref q_powers_cells), aI Y q_powers_cells 216 powers_cells_1, aI Y q_powers_ofPrime 18 powers_ofPrime_1, aI Y q_a1_firsts 12 a1_firsts, aI Y q_a1_seconds 12 a1_seconds, aI Y q_a1_kinds 12 a1_kinds, aI Y q_a1_numbers 144 a1_numbers, aI Y q_a1_colours 12 a1_colours])) [1, 2, 3, 4, 5, 6, 7, 8, 12, 9, 0, 10, 11, 13, 14, 15, 16, 17, 18, 19, 20, 21] rfl rfl ?_
    refine g_aload C dX7_upTo_61 0 rfl ?_
    exact g_aret C hR (by first | exact Or.inl ⟨_, rfl⟩ | exact Or.inr ⟨_, rfl⟩) (show 0 + mcF_1 + mcF_2 ≤ mc ∧ 0 + msF_1 + msF_2 ≤ ms from hk_2).1 (show 0 + mcF_1 + mcF_2 ≤ mc ∧ 0 + msF_1 + msF_2 ≤ ms from hk_2).2 dX7_upTo_63 ⟨k_1, rs_1, rf_1, rm_1, rl_2, ru_1, rn_1, rv_3, turn_1, q_least_1, n_least_1, least_1, powers_cells_1, powers_ofPrime_1, rfl, rfl, hkk_1, h⟩
theorem dX8_leastPrime_0 : decode cX8_leastPrime 0 = .ok (.iload_n 1, 1) := by decide +kernel
theorem dX8_leastPrime_1 : decode cX8_leastPrime 1 = .ok (.ifCond .lt 12, 3) := by decide +kernel
theorem dX8_leastPrime_4 : decode cX8_leastPrime 4 = .ok (.iload_n 1, 1) := by decide +kernel
theorem dX8_leastPrime_5 : decode cX8_leastPrime 5 = .ok (.aload_n 0, 1) := by decide +kernel
theorem dX8_leastPrime_6 : decode cX8_leastPrime 6 = .ok (.getfield 9, 3) := by decide +kernel
theorem dX8_leastPrime_9 : decode cX8_leastPrime 9 = .ok (.arraylength, 1) := by decide +kernel
theorem dX8_leastPrime_10 : decode cX8_leastPrime 10 = .ok (.if_icmp .lt 7, 3) := by decide +kernel
theorem dX8_leastPrime_13 : decode cX8_leastPrime 13 = .ok (.iconst 0, 1) := by decide +kernel
theorem dX8_leastPrime_14 : decode cX8_leastPrime 14 = .ok (.goto 9, 3) := by decide +kernel
theorem dX8_leastPrime_17 : decode cX8_leastPrime 17 = .ok (.aload_n 0, 1) := by decide +kernel
theorem dX8_leastPrime_18 : decode cX8_leastPrime 18 = .ok (.getfield 9, 3) := by decide +kernel
theorem dX8_leastPrime_21 : decode cX8_leastPrime 21 = .ok (.iload_n 1, 1) := by decide +kernel
theorem dX8_leastPrime_22 : decode cX8_leastPrime 22 = .ok (.iaload, 1) := by decide +kernel
theorem dX8_leastPrime_23 : decode cX8_leastPrime 23 = .ok (.istore_n 2, 1) := by decide +kernel
theorem dX8_leastPrime_24 : decode cX8_leastPrime 24 = .ok (.iload_n 2, 1) := by decide +kernel
theorem dX8_leastPrime_25 : decode cX8_leastPrime 25 = .ok (.iconst 1, 1) := by decide +kernel
theorem dX8_leastPrime_26 : decode cX8_leastPrime 26 = .ok (.if_icmp .le 5, 3) := by decide +kernel
theorem dX8_leastPrime_29 : decode cX8_leastPrime 29 = .ok (.iload_n 2, 1) := by decide +kernel
theorem dX8_leastPrime_30 : decode cX8_leastPrime 30 = .ok (.ireturn, 1) := by decide +kernel
theorem dX8_leastPrime_31 : decode cX8_leastPrime 31 = .ok (.iload_n 1, 1) := by decide +kernel
theorem dX8_leastPrime_32 : decode cX8_leastPrime 32 = .ok (.iconst 1, 1) := by decide +kernel
theorem dX8_leastPrime_33 : decode cX8_leastPrime 33 = .ok (.if_icmp .le 7, 3) := by decide +kernel
theorem dX8_leastPrime_36 : decode cX8_leastPrime 36 = .ok (.iload_n 1, 1) := by decide +kernel
theorem dX8_leastPrime_37 : decode cX8_leastPrime 37 = .ok (.goto 4, 3) := by decide +kernel
theorem dX8_leastPrime_40 : decode cX8_leastPrime 40 = .ok (.iconst 2, 1) := by decide +kernel
theorem dX8_leastPrime_41 : decode cX8_leastPrime 41 = .ok (.ireturn, 1) := by decide +kernel
/-- QuotientSums$Sieve.leastPrime(I)I -/
def wX8_leastPrime (n_least : Nat) (least : Nat → Int32) (a1 : Int32) (Q : (Int32) → Prop) : Prop :=
  ((a1 < 0 → ((a1 ≤ 1 → (Q 2)) ∧ (¬ a1 ≤ 1 → (Q a1)))) ∧ (¬ a1 < 0 → ((a1 < (nI n_least) → (vp_in a1 n_least ∧ ∀ x2_1 : Int32, x2_1 = least a1.toNatClampNeg → ((x2_1 ≤ 1 → ((a1 ≤ 1 → (Q 2)) ∧ (¬ a1 ≤ 1 → (Q a1)))) ∧ (¬ x2_1 ≤ 1 → (Q x2_1))))) ∧ (¬ a1 < (nI n_least) → ((a1 ≤ 1 → (Q 2)) ∧ (¬ a1 ≤ 1 → (Q a1)))))))
set_option maxHeartbeats 4000000 in
set_option maxRecDepth 100000 in
theorem mX8_leastPrime (l : Launch) (D : va_G) (Y : Nat → ClassId) (h0 : Nat) (q_least : Nat) (n_least : Nat) (least : Nat → Int32) (a1 : Int32) (Q : (Int32) → Prop) (h : wX8_leastPrime n_least least a1 Q) : gM l D Y yX8_leastPrime cX8_leastPrime 3 (some .int) 0 0 0 0 [.ref h0, .int a1] [oX8 h0 (.ref q_least), aI Y q_least n_least least] (fun v w => ∃ r : Int32, v = some (.int r) ∧ w = [oX8 h0 (.ref q_least), aI Y q_least n_least least] ∧ Q r) := by
  refine gM_of (own := RX8) (by decide +kernel) rfl (Nat.le_of_ble_eq_true rfl) rfl (fun E C hR => ?_)
  unfold wX8_leastPrime at h
  refine g_iload_n C dX8_leastPrime_0 1 rfl ?_
  refine g_if_lt (tgt := 13) C dX8_leastPrime_1 (by decide) (fun c_1 => ?_) (fun c_1 => ?_)
  · replace h := h.1 c_1
    refine g_iconst (v := 0) C dX8_leastPrime_13 rfl ?_
    refine g_goto (tgt := 23) C dX8_leastPrime_14 (by decide) ?_
    refine g_istore_n (lv' := [(2, .int 0), (0, .ref h0), (1, .int a1)]) C dX8_leastPrime_23 (by decide) rfl ?_
    refine g_iload_n C dX8_leastPrime_24 0 rfl ?_
    refine g_iconst (v := 1) C dX8_leastPrime_25 rfl ?_
    refine g_icmp_le (tgt := 31) C dX8_leastPrime_26 (by decide) (fun _ => ?_) (fun c => absurd (by decide) c)
    refine g_iload_n C dX8_leastPrime_31 2 rfl ?_
    refine g_iconst (v := 1) C dX8_leastPrime_32 rfl ?_
    refine g_icmp_le (tgt := 40) C dX8_leastPrime_33 (by decide) (fun c_2 => ?_) (fun c_2 => ?_)
    · replace h := h.1 c_2
      refine g_iconst (v := 2) C dX8_leastPrime_40 rfl ?_
      exact g_iret C hR (Nat.le_of_ble_eq_true rfl) (Nat.le_of_ble_eq_true rfl) dX8_leastPrime_41 ⟨2, rfl, rfl, h⟩
    · replace h := h.2 c_2
      refine g_iload_n C dX8_leastPrime_36 2 rfl ?_
      refine g_goto (tgt := 41) C dX8_leastPrime_37 (by decide) ?_
      exact g_iret C hR (Nat.le_of_ble_eq_true rfl) (Nat.le_of_ble_eq_true rfl) dX8_leastPrime_41 ⟨a1, rfl, rfl, h⟩
  · replace h := h.2 c_1
    refine g_iload_n C dX8_leastPrime_4 1 rfl ?_
    refine g_aload_n C dX8_leastPrime_5 0 rfl ?_
    refine g_get C inX8 0 rfl rfl 0 (by decide) wF_X8_9 rfl dX8_leastPrime_6 ?_
    refine g_alen (v := nI n_least) C 1 0 rfl rfl rfl dX8_leastPrime_9 ?_
    refine g_icmp_lt (tgt := 17) C dX8_leastPrime_10 (by decide) (fun c_3 => ?_) (fun c_3 => ?_)
    · replace h := h.1 c_3
      refine g_aload_n C dX8_leastPrime_17 0 rfl ?_
      refine g_get C inX8 0 rfl rfl 0 (by decide) wF_X8_9 rfl dX8_leastPrime_18 ?_
      refine g_iload_n C dX8_leastPrime_21 1 rfl ?_
      obtain ⟨hc_1, h⟩ := h
      refine g_iald C 1 rfl hc_1 dX8_leastPrime_22 ?_
      refine g_topi (fun x2_1 ex2_1 => ?_)
      replace h := h x2_1 ex2_1
      refine g_istore_n (lv' := [(2, .int x2_1), (0, .ref h0), (1, .int a1)]) C dX8_leastPrime_23 (by decide) rfl ?_
      refine g_iload_n C dX8_leastPrime_24 0 rfl ?_
      refine g_iconst (v := 1) C dX8_leastPrime_25 rfl ?_
      refine g_icmp_le (tgt := 31) C dX8_leastPrime_26 (by decide) (fun c_4 => ?_) (fun c_4 => ?_)
      · replace h := h.1 c_4
        refine g_iload_n C dX8_leastPrime_31 2 rfl ?_
        refine g_iconst (v := 1) C dX8_leastPrime_32 rfl ?_
        refine g_icmp_le (tgt := 40) C dX8_leastPrime_33 (by decide) (fun c_5 => ?_) (fun c_5 => ?_)
        · replace h := h.1 c_5
          refine g_iconst (v := 2) C dX8_leastPrime_40 rfl ?_
          exact g_iret C hR (Nat.le_of_ble_eq_true rfl) (Nat.le_of_ble_eq_true rfl) dX8_leastPrime_41 ⟨2, rfl, rfl, h⟩
        · replace h := h.2 c_5
          refine g_iload_n C dX8_leastPrime_36 2 rfl ?_
          refine g_goto (tgt := 41) C dX8_leastPrime_37 (by decide) ?_
          exact g_iret C hR (Nat.le_of_ble_eq_true rfl) (Nat.le_of_ble_eq_true rfl) dX8_leastPrime_41 ⟨a1, rfl, rfl, h⟩
      · replace h := h.2 c_4
        refine g_iload_n C dX8_leastPrime_29 0 rfl ?_
        exact g_iret C hR (Nat.le_of_ble_eq_true rfl) (Nat.le_of_ble_eq_true rfl) dX8_leastPrime_30 ⟨x2_1, rfl, rfl, h⟩
    · replace h := h.2 c_3
      refine g_iconst (v := 0) C dX8_leastPrime_13 rfl ?_
      refine g_goto (tgt := 23) C dX8_leastPrime_14 (by decide) ?_
      refine g_istore_n (lv' := [(2, .int 0), (0, .ref h0), (1, .int a1)]) C dX8_leastPrime_23 (by decide) rfl ?_
      refine g_iload_n C dX8_leastPrime_24 0 rfl ?_
      refine g_iconst (v := 1) C dX8_leastPrime_25 rfl ?_
      refine g_icmp_le (tgt := 31) C dX8_leastPrime_26 (by decide) (fun _ => ?_) (fun c => absurd (by decide) c)
      refine g_iload_n C dX8_leastPrime_31 2 rfl ?_
      refine g_iconst (v := 1) C dX8_leastPrime_32 rfl ?_
      refine g_icmp_le (tgt := 40) C dX8_leastPrime_33 (by decide) (fun c_6 => ?_) (fun c_6 => ?_)
      · replace h := h.1 c_6
        refine g_iconst (v := 2) C dX8_leastPrime_40 rfl ?_
        exact g_iret C hR (Nat.le_of_ble_eq_true rfl) (Nat.le_of_ble_eq_true rfl) dX8_leastPrime_41 ⟨2, rfl, rfl, h⟩
      · replace h := h.2 c_6
        refine g_iload_n C dX8_leastPrime_36 2 rfl ?_
        refine g_goto (tgt := 41) C dX8_leastPrime_37 (by decide) ?_
        exact g_iret C hR (Nat.le_of_ble_eq_true rfl) (Nat.le_of_ble_eq_true rfl) dX8_leastPrime_41 ⟨a1, rfl, rfl, h⟩
theorem dX8_isSmooth_0 : decode cX8_isSmooth 0 = .ok (.iload_n 1, 1) := by decide +kernel
theorem dX8_isSmooth_1 : decode cX8_isSmooth 1 = .ok (.istore_n 3, 1) := by decide +kernel
theorem dX8_isSmooth_2 : decode cX8_isSmooth 2 = .ok (.iconst 0, 1) := by decide +kernel
theorem dX8_isSmooth_3 : decode cX8_isSmooth 3 = .ok (.istore 4, 2) := by decide +kernel
theorem dX8_isSmooth_5 : decode cX8_isSmooth 5 = .ok (.iload 4, 2) := by decide +kernel
theorem dX8_isSmooth_7 : decode cX8_isSmooth 7 = .ok (.bipush 17, 2) := by decide +kernel
theorem dX8_isSmooth_9 : decode cX8_isSmooth 9 = .ok (.if_icmp .ge 39, 3) := by decide +kernel
theorem dX8_isSmooth_12 : decode cX8_isSmooth 12 = .ok (.iload_n 3, 1) := by decide +kernel
theorem dX8_isSmooth_13 : decode cX8_isSmooth 13 = .ok (.iconst 1, 1) := by decide +kernel
theorem dX8_isSmooth_14 : decode cX8_isSmooth 14 = .ok (.if_icmp .le 34, 3) := by decide +kernel
theorem dX8_isSmooth_17 : decode cX8_isSmooth 17 = .ok (.iload_n 3, 1) := by decide +kernel
theorem dX8_isSmooth_18 : decode cX8_isSmooth 18 = .ok (.iload_n 2, 1) := by decide +kernel
theorem dX8_isSmooth_19 : decode cX8_isSmooth 19 = .ok (.if_icmp .le 29, 3) := by decide +kernel
theorem dX8_isSmooth_22 : decode cX8_isSmooth 22 = .ok (.aload_n 0, 1) := by decide +kernel
theorem dX8_isSmooth_23 : decode cX8_isSmooth 23 = .ok (.iload_n 3, 1) := by decide +kernel
theorem dX8_isSmooth_24 : decode cX8_isSmooth 24 = .ok (.invokevirtual 35, 3) := by decide +kernel
theorem dX8_isSmooth_27 : decode cX8_isSmooth 27 = .ok (.istore 5, 2) := by decide +kernel
theorem dX8_isSmooth_29 : decode cX8_isSmooth 29 = .ok (.iload 5, 2) := by decide +kernel
theorem dX8_isSmooth_31 : decode cX8_isSmooth 31 = .ok (.iload_n 2, 1) := by decide +kernel
theorem dX8_isSmooth_32 : decode cX8_isSmooth 32 = .ok (.if_icmp .le 5, 3) := by decide +kernel
theorem dX8_isSmooth_35 : decode cX8_isSmooth 35 = .ok (.iconst 0, 1) := by decide +kernel
theorem dX8_isSmooth_36 : decode cX8_isSmooth 36 = .ok (.ireturn, 1) := by decide +kernel
theorem dX8_isSmooth_37 : decode cX8_isSmooth 37 = .ok (.iload_n 3, 1) := by decide +kernel
theorem dX8_isSmooth_38 : decode cX8_isSmooth 38 = .ok (.iload 5, 2) := by decide +kernel
theorem dX8_isSmooth_40 : decode cX8_isSmooth 40 = .ok (.idiv, 1) := by decide +kernel
theorem dX8_isSmooth_41 : decode cX8_isSmooth 41 = .ok (.istore_n 3, 1) := by decide +kernel
theorem dX8_isSmooth_42 : decode cX8_isSmooth 42 = .ok (.iinc 4 1, 3) := by decide +kernel
theorem dX8_isSmooth_45 : decode cX8_isSmooth 45 = .ok (.goto (-40), 3) := by decide +kernel
theorem dX8_isSmooth_48 : decode cX8_isSmooth 48 = .ok (.iconst 1, 1) := by decide +kernel
theorem dX8_isSmooth_49 : decode cX8_isSmooth 49 = .ok (.ireturn, 1) := by decide +kernel
/-- QuotientSums$Sieve.isSmooth(II)Z -/
def wX8_isSmooth (n_least : Nat) (least : Nat → Int32) (a1 : Int32) (a2 : Int32) (Q : (Int32) → Prop) : Prop :=
  (∃ (Inv_1 : (Int32) → (Int32) → Prop) (Mea_1 : (Int32) → (Int32) → Nat), Inv_1 a1 0 ∧ ∀ (x3_1 : Int32) (x4_1 : Int32), Inv_1 x3_1 x4_1 → ((17 ≤ x4_1 → (Q 1)) ∧ (¬ 17 ≤ x4_1 → ((x3_1 ≤ 1 → (Q 1)) ∧ (¬ x3_1 ≤ 1 → ((x3_1 ≤ a2 → (Q 1)) ∧ (¬ x3_1 ≤ a2 → (∃ (P_1 : (Int32) → Prop), wX8_leastPrime n_least least x3_1 P_1 ∧ ∀ (rF_1 : Int32), P_1 rF_1 → ((rF_1 ≤ a2 → (¬ rF_1 = 0 ∧ ∀ x3_2 : Int32, x3_2 = x3_1 / rF_1 → (Inv_1 x3_2 (x4_1 + 1) ∧ Mea_1 x3_2 (x4_1 + 1) < Mea_1 x3_1 x4_1))) ∧ (¬ rF_1 ≤ a2 → (Q 0)))))))))))
set_option maxHeartbeats 4000000 in
set_option maxRecDepth 100000 in
theorem mX8_isSmooth (l : Launch) (D : va_G) (Y : Nat → ClassId) (h0 : Nat) (q_least : Nat) (n_least : Nat) (least : Nat → Int32) (a1 : Int32) (a2 : Int32) (Q : (Int32) → Prop) (h : wX8_isSmooth n_least least a1 a2 Q) : gM l D Y yX8_isSmooth cX8_isSmooth 6 (some .boolean) 1 22 0 0 [.ref h0, .int a1, .int a2] [oX8 h0 (.ref q_least), aI Y q_least n_least least] (fun v w => ∃ r : Int32, v = some (.int r) ∧ w = [oX8 h0 (.ref q_least), aI Y q_least n_least least] ∧ Q r) := by
  refine gM_of (own := RX8) (by decide +kernel) rfl (Nat.le_of_ble_eq_true rfl) rfl (fun E C hR => ?_)
  unfold wX8_isSmooth at h
  refine g_iload_n C dX8_isSmooth_0 1 rfl ?_
  refine g_istore_n (lv' := [(3, .int a1), (0, .ref h0), (1, .int a1), (2, .int a2)]) C dX8_isSmooth_1 (by decide) rfl ?_
  refine g_iconst (v := 0) C dX8_isSmooth_2 rfl ?_
  refine g_istore (lv' := [(4, .int 0), (3, .int a1), (0, .ref h0), (1, .int a1), (2, .int a2)]) C dX8_isSmooth_3 (by decide) rfl ?_
  obtain ⟨Inv_1, Mea_1, hI1, hB1⟩ := h
  have key_1 : ∀ (n : Nat) (x3_1 : Int32) (x4_1 : Int32) , Mea_1 x3_1 x4_1 < n → Inv_1 x3_1 x4_1 → gG E 0 0 [oX8 h0 (.ref q_least), aI Y q_least n_least least] [(0, .ref h0), (2, .int a2), (3, .int x3_1), (4, .int x4_1)] [] 5 := by
    intro n
    induction n with
    | zero => exact fun _ _ hm => absurd hm (Nat.not_lt_zero _)
    | succ n ih1 =>
      intro x3_1 x4_1  hm1 hI
      have h := hB1 x3_1 x4_1 hI
      refine g_iload C dX8_isSmooth_5 3 rfl ?_
      refine g_bipush (v := 17) C dX8_isSmooth_7 rfl ?_
      refine g_icmp_ge (tgt := 48) C dX8_isSmooth_9 (by decide) (fun c_1 => ?_) (fun c_1 => ?_)
      · replace h := h.1 c_1
        refine g_iconst (v := 1) C dX8_isSmooth_48 rfl ?_
        exact g_zret C hR (by decide) (Nat.le_of_ble_eq_true rfl) (Nat.le_of_ble_eq_true rfl) dX8_isSmooth_49 ⟨1, rfl, rfl, h⟩
      · replace h := h.2 c_1
        refine g_iload_n C dX8_isSmooth_12 2 rfl ?_
        refine g_iconst (v := 1) C dX8_isSmooth_13 rfl ?_
        refine g_icmp_le (tgt := 48) C dX8_isSmooth_14 (by decide) (fun c_2 => ?_) (fun c_2 => ?_)
        · replace h := h.1 c_2
          refine g_iconst (v := 1) C dX8_isSmooth_48 rfl ?_
          exact g_zret C hR (by decide) (Nat.le_of_ble_eq_true rfl) (Nat.le_of_ble_eq_true rfl) dX8_isSmooth_49 ⟨1, rfl, rfl, h⟩
        · replace h := h.2 c_2
          refine g_iload_n C dX8_isSmooth_17 2 rfl ?_
          refine g_iload_n C dX8_isSmooth_18 1 rfl ?_
          refine g_icmp_le (tgt := 48) C dX8_isSmooth_19 (by decide) (fun c_3 => ?_) (fun c_3 => ?_)
          · replace h := h.1 c_3
            refine g_iconst (v := 1) C dX8_isSmooth_48 rfl ?_
            exact g_zret C hR (by decide) (Nat.le_of_ble_eq_true rfl) (Nat.le_of_ble_eq_true rfl) dX8_isSmooth_49 ⟨1, rfl, rfl, h⟩
          · replace h := h.2 c_3
            refine g_aload_n C dX8_isSmooth_22 0 rfl ?_
            refine g_iload_n C dX8_isSmooth_23 2 rfl ?_
            obtain ⟨P_1, hP, h⟩ := h
            refine g_callV (As := [.int x3_1]) (rest := []) C (mX8_leastPrime l D Y h0 q_least n_least least x3_1 P_1 hP) dX8_isSmooth_24 rfl wM_X8_35 wI_X8_leastPrime wV_X8_leastPrime wN_X8 wC_X8_leastPrime (n := 1) (by decide +kernel) rfl (q0 := 0) rfl rfl ⟨Nat.le_of_ble_eq_true rfl, Nat.le_of_ble_eq_true rfl⟩ ⟨Nat.le_of_ble_eq_true rfl, Nat.le_of_ble_eq_true rfl⟩ (Nat.le_of_ble_eq_true rfl) [0, 1] [] rfl rfl rfl (fun v wc hv => ?_)
            obtain ⟨rF_1, rfl, rfl, hq⟩ := hv
            replace h := h rF_1 hq
            refine gG.eqw (ws' := [oX8 h0 (.ref q_least), aI Y q_least n_least least]) rfl ?_
            refine g_istore (lv' := [(5, .int rF_1), (0, .ref h0), (2, .int a2), (3, .int x3_1), (4, .int x4_1)]) C dX8_isSmooth_27 (by decide) rfl ?_
            refine g_iload C dX8_isSmooth_29 0 rfl ?_
            refine g_iload_n C dX8_isSmooth_31 2 rfl ?_
            refine g_icmp_le (tgt := 37) C dX8_isSmooth_32 (by decide) (fun c_4 => ?_) (fun c_4 => ?_)
            · replace h := h.1 c_4
              refine g_iload_n C dX8_isSmooth_37 3 rfl ?_
              refine g_iload C dX8_isSmooth_38 0 rfl ?_
              obtain ⟨hc_1, h⟩ := h
              refine g_idiv C dX8_isSmooth_40 hc_1 ?_
              refine g_topi (fun x3_2 ex3_2 => ?_)
              replace h := h x3_2 ex3_2
              refine g_istore_n (lv' := [(3, .int x3_2), (5, .int rF_1), (0, .ref h0), (2, .int a2), (4, .int x4_1)]) C dX8_isSmooth_41 (by decide) rfl ?_
              refine g_iinc (v := x4_1 + 1) (lv' := [(4, .int (x4_1 + 1)), (3, .int x3_2), (5, .int rF_1), (0, .ref h0), (2, .int a2)]) C dX8_isSmooth_42 4 rfl rfl (by decide) rfl ?_
              refine g_goto (tgt := 5) C dX8_isSmooth_45 (by decide) ?_
              refine gG.locals (lv' := [(0, .ref h0), (2, .int a2), (3, .int x3_2), (4, .int (x4_1 + 1))]) [3, 4, 1, 0] rfl ?_
              exact ih1 x3_2 (x4_1 + 1) (Nat.lt_of_lt_of_le h.2 (Nat.le_of_lt_succ hm1)) h.1
            · replace h := h.2 c_4
              refine g_iconst (v := 0) C dX8_isSmooth_35 rfl ?_
              exact g_zret C hR (by decide) (Nat.le_of_ble_eq_true rfl) (Nat.le_of_ble_eq_true rfl) dX8_isSmooth_36 ⟨0, rfl, rfl, h⟩
  refine gG.locals (lv' := [(0, .ref h0), (2, .int a2), (3, .int a1), (4, .int 0)]) [2, 4, 1, 0] rfl ?_
  exact key_1 (Mea_1 a1 0 + 1) a1 0 (Nat.lt_succ_self _) hI1
theorem dX8_exponent_0 : decode cX8_exponent 0 = .ok (.aload_n 0, 1) := by decide +kernel
theorem dX8_exponent_1 : decode cX8_exponent 1 = .ok (.iload_n 1, 1) := by decide +kernel
theorem dX8_exponent_2 : decode cX8_exponent 2 = .ok (.invokevirtual 35, 3) := by decide +kernel
theorem dX8_exponent_5 : decode cX8_exponent 5 = .ok (.istore_n 2, 1) := by decide +kernel
theorem dX8_exponent_6 : decode cX8_exponent 6 = .ok (.iload_n 1, 1) := by decide +kernel
theorem dX8_exponent_7 : decode cX8_exponent 7 = .ok (.istore_n 3, 1) := by decide +kernel
theorem dX8_exponent_8 : decode cX8_exponent 8 = .ok (.iconst 0, 1) := by decide +kernel
theorem dX8_exponent_9 : decode cX8_exponent 9 = .ok (.istore 4, 2) := by decide +kernel
theorem dX8_exponent_11 : decode cX8_exponent 11 = .ok (.iload 4, 2) := by decide +kernel
theorem dX8_exponent_13 : decode cX8_exponent 13 = .ok (.bipush 17, 2) := by decide +kernel
theorem dX8_exponent_15 : decode cX8_exponent 15 = .ok (.if_icmp .ge 19, 3) := by decide +kernel
theorem dX8_exponent_18 : decode cX8_exponent 18 = .ok (.iload_n 3, 1) := by decide +kernel
theorem dX8_exponent_19 : decode cX8_exponent 19 = .ok (.iload_n 2, 1) := by decide +kernel
theorem dX8_exponent_20 : decode cX8_exponent 20 = .ok (.irem, 1) := by decide +kernel
theorem dX8_exponent_21 : decode cX8_exponent 21 = .ok (.ifCond .ne 13, 3) := by decide +kernel
theorem dX8_exponent_24 : decode cX8_exponent 24 = .ok (.iload_n 3, 1) := by decide +kernel
theorem dX8_exponent_25 : decode cX8_exponent 25 = .ok (.iload_n 2, 1) := by decide +kernel
theorem dX8_exponent_26 : decode cX8_exponent 26 = .ok (.idiv, 1) := by decide +kernel
theorem dX8_exponent_27 : decode cX8_exponent 27 = .ok (.istore_n 3, 1) := by decide +kernel
theorem dX8_exponent_28 : decode cX8_exponent 28 = .ok (.iinc 4 1, 3) := by decide +kernel
theorem dX8_exponent_31 : decode cX8_exponent 31 = .ok (.goto (-20), 3) := by decide +kernel
theorem dX8_exponent_34 : decode cX8_exponent 34 = .ok (.iload_n 3, 1) := by decide +kernel
theorem dX8_exponent_35 : decode cX8_exponent 35 = .ok (.iconst 1, 1) := by decide +kernel
theorem dX8_exponent_36 : decode cX8_exponent 36 = .ok (.if_icmp .ne 8, 3) := by decide +kernel
theorem dX8_exponent_39 : decode cX8_exponent 39 = .ok (.iload 4, 2) := by decide +kernel
theorem dX8_exponent_41 : decode cX8_exponent 41 = .ok (.goto 4, 3) := by decide +kernel
theorem dX8_exponent_44 : decode cX8_exponent 44 = .ok (.iconst 0, 1) := by decide +kernel
theorem dX8_exponent_45 : decode cX8_exponent 45 = .ok (.ireturn, 1) := by decide +kernel
/-- QuotientSums$Sieve.exponent(I)I -/
def wX8_exponent (n_least : Nat) (least : Nat → Int32) (a1 : Int32) (Q : (Int32) → Prop) : Prop :=
  (∃ (P_1 : (Int32) → Prop), wX8_leastPrime n_least least a1 P_1 ∧ ∀ (rF_1 : Int32), P_1 rF_1 → (∃ (Inv_1 : (Int32) → (Int32) → Prop) (Mea_1 : (Int32) → (Int32) → Nat), Inv_1 a1 0 ∧ ∀ (x3_1 : Int32) (x4_1 : Int32), Inv_1 x3_1 x4_1 → ((17 ≤ x4_1 → ((¬ x3_1 = 1 → (Q 0)) ∧ (x3_1 = 1 → (Q x4_1)))) ∧ (¬ 17 ≤ x4_1 → (¬ rF_1 = 0 ∧ ((¬ (x3_1 - x3_1 / rF_1 * rF_1) = 0 → ((¬ x3_1 = 1 → (Q 0)) ∧ (x3_1 = 1 → (Q x4_1)))) ∧ ((x3_1 - x3_1 / rF_1 * rF_1) = 0 → (∀ x3_2 : Int32, x3_2 = x3_1 / rF_1 → (Inv_1 x3_2 (x4_1 + 1) ∧ Mea_1 x3_2 (x4_1 + 1) < Mea_1 x3_1 x4_1)))))))))
set_option maxHeartbeats 4000000 in
set_option maxRecDepth 100000 in
theorem mX8_exponent (l : Launch) (D : va_G) (Y : Nat → ClassId) (h0 : Nat) (q_least : Nat) (n_least : Nat) (least : Nat → Int32) (a1 : Int32) (Q : (Int32) → Prop) (h : wX8_exponent n_least least a1 Q) : gM l D Y yX8_exponent cX8_exponent 5 (some .int) 1 22 0 0 [.ref h0, .int a1] [oX8 h0 (.ref q_least), aI Y q_least n_least least] (fun v w => ∃ r : Int32, v = some (.int r) ∧ w = [oX8 h0 (.ref q_least), aI Y q_least n_least least] ∧ Q r) := by
  refine gM_of (own := RX8) (by decide +kernel) rfl (Nat.le_of_ble_eq_true rfl) rfl (fun E C hR => ?_)
  unfold wX8_exponent at h
  refine g_aload_n C dX8_exponent_0 0 rfl ?_
  refine g_iload_n C dX8_exponent_1 1 rfl ?_
  obtain ⟨P_1, hP, h⟩ := h
  refine g_callV (As := [.int a1]) (rest := []) C (mX8_leastPrime l D Y h0 q_least n_least least a1 P_1 hP) dX8_exponent_2 rfl wM_X8_35 wI_X8_leastPrime wV_X8_leastPrime wN_X8 wC_X8_leastPrime (n := 1) (by decide +kernel) rfl (q0 := 0) rfl rfl ⟨Nat.le_of_ble_eq_true rfl, Nat.le_of_ble_eq_true rfl⟩ ⟨Nat.le_of_ble_eq_true rfl, Nat.le_of_ble_eq_true rfl⟩ (Nat.le_of_ble_eq_true rfl) [0, 1] [] rfl rfl rfl (fun v wc hv => ?_)
  obtain ⟨rF_1, rfl, rfl, hq⟩ := hv
  replace h := h rF_1 hq
  refine gG.eqw (ws' := [oX8 h0 (.ref q_least), aI Y q_least n_least least]) rfl ?_
  refine g_istore_n (lv' := [(2, .int rF_1), (0, .ref h0), (1, .int a1)]) C dX8_exponent_5 (by decide) rfl ?_
  refine g_iload_n C dX8_exponent_6 2 rfl ?_
  refine g_istore_n (lv' := [(3, .int a1), (2, .int rF_1), (0, .ref h0), (1, .int a1)]) C dX8_exponent_7 (by decide) rfl ?_
  refine g_iconst (v := 0) C dX8_exponent_8 rfl ?_
  refine g_istore (lv' := [(4, .int 0), (3, .int a1), (2, .int rF_1), (0, .ref h0), (1, .int a1)]) C dX8_exponent_9 (by decide) rfl ?_
  obtain ⟨Inv_1, Mea_1, hI1, hB1⟩ := h
  have key_1 : ∀ (n : Nat) (x3_1 : Int32) (x4_1 : Int32) , Mea_1 x3_1 x4_1 < n → Inv_1 x3_1 x4_1 → gG E 0 0 [oX8 h0 (.ref q_least), aI Y q_least n_least least] [(2, .int rF_1), (3, .int x3_1), (4, .int x4_1)] [] 11 := by
    intro n
    induction n with
    | zero => exact fun _ _ hm => absurd hm (Nat.not_lt_zero _)
    | succ n ih1 =>
      intro x3_1 x4_1  hm1 hI
      have h := hB1 x3_1 x4_1 hI
      refine g_iload C dX8_exponent_11 2 rfl ?_
      refine g_bipush (v := 17) C dX8_exponent_13 rfl ?_
      refine g_icmp_ge (tgt := 34) C dX8_exponent_15 (by decide) (fun c_1 => ?_) (fun c_1 => ?_)
      · replace h := h.1 c_1
        refine g_iload_n C dX8_exponent_34 1 rfl ?_
        refine g_iconst (v := 1) C dX8_exponent_35 rfl ?_
        refine g_icmp_ne (tgt := 44) C dX8_exponent_36 (by decide) (fun c_2 => ?_) (fun c_2 => ?_)
        · replace h := h.1 c_2
          refine g_iconst (v := 0) C dX8_exponent_44 rfl ?_
          exact g_iret C hR (Nat.le_of_ble_eq_true rfl) (Nat.le_of_ble_eq_true rfl) dX8_exponent_45 ⟨0, rfl, rfl, h⟩
        · replace h := h.2 c_2
          refine g_iload C dX8_exponent_39 2 rfl ?_
          refine g_goto (tgt := 45) C dX8_exponent_41 (by decide) ?_
          exact g_iret C hR (Nat.le_of_ble_eq_true rfl) (Nat.le_of_ble_eq_true rfl) dX8_exponent_45 ⟨x4_1, rfl, rfl, h⟩
      · replace h := h.2 c_1
        refine g_iload_n C dX8_exponent_18 1 rfl ?_
        refine g_iload_n C dX8_exponent_19 0 rfl ?_
        obtain ⟨hc_1, h⟩ := h
        refine g_irem C dX8_exponent_20 hc_1 ?_
        refine g_if_ne (tgt := 34) C dX8_exponent_21 (by decide) (fun c_3 => ?_) (fun c_3 => ?_)
        · replace h := h.1 c_3
          refine g_iload_n C dX8_exponent_34 1 rfl ?_
          refine g_iconst (v := 1) C dX8_exponent_35 rfl ?_
          refine g_icmp_ne (tgt := 44) C dX8_exponent_36 (by decide) (fun c_4 => ?_) (fun c_4 => ?_)
          · replace h := h.1 c_4
            refine g_iconst (v := 0) C dX8_exponent_44 rfl ?_
            exact g_iret C hR (Nat.le_of_ble_eq_true rfl) (Nat.le_of_ble_eq_true rfl) dX8_exponent_45 ⟨0, rfl, rfl, h⟩
          · replace h := h.2 c_4
            refine g_iload C dX8_exponent_39 2 rfl ?_
            refine g_goto (tgt := 45) C dX8_exponent_41 (by decide) ?_
            exact g_iret C hR (Nat.le_of_ble_eq_true rfl) (Nat.le_of_ble_eq_true rfl) dX8_exponent_45 ⟨x4_1, rfl, rfl, h⟩
        · replace h := h.2 c_3
          refine g_iload_n C dX8_exponent_24 1 rfl ?_
          refine g_iload_n C dX8_exponent_25 0 rfl ?_
          refine g_idiv C dX8_exponent_26 hc_1 ?_
          refine g_topi (fun x3_2 ex3_2 => ?_)
          replace h := h x3_2 ex3_2
          refine g_istore_n (lv' := [(3, .int x3_2), (2, .int rF_1), (4, .int x4_1)]) C dX8_exponent_27 (by decide) rfl ?_
          refine g_iinc (v := x4_1 + 1) (lv' := [(4, .int (x4_1 + 1)), (3, .int x3_2), (2, .int rF_1)]) C dX8_exponent_28 2 rfl rfl (by decide) rfl ?_
          refine g_goto (tgt := 11) C dX8_exponent_31 (by decide) ?_
          refine gG.locals (lv' := [(2, .int rF_1), (3, .int x3_2), (4, .int (x4_1 + 1))]) [2, 1, 0] rfl ?_
          exact ih1 x3_2 (x4_1 + 1) (Nat.lt_of_lt_of_le h.2 (Nat.le_of_lt_succ hm1)) h.1
  refine gG.locals (lv' := [(2, .int rF_1), (3, .int a1), (4, .int 0)]) [2, 1, 0] rfl ?_
  exact key_1 (Mea_1 a1 0 + 1) a1 0 (Nat.lt_succ_self _) hI1
