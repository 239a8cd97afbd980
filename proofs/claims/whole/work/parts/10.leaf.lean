theorem dX10_divided_0 : decode cX10_divided 0 = .ok (.iload_n 1, 1) := by decide +kernel
theorem dX10_divided_1 : decode cX10_divided 1 = .ok (.iconst 1, 1) := by decide +kernel
theorem dX10_divided_2 : decode cX10_divided 2 = .ok (.if_icmp .ge 7, 3) := by decide +kernel
theorem dX10_divided_5 : decode cX10_divided 5 = .ok (.iconst 0, 1) := by decide +kernel
theorem dX10_divided_6 : decode cX10_divided 6 = .ok (.goto 6, 3) := by decide +kernel
theorem dX10_divided_9 : decode cX10_divided 9 = .ok (.iload_n 0, 1) := by decide +kernel
theorem dX10_divided_10 : decode cX10_divided 10 = .ok (.iload_n 1, 1) := by decide +kernel
theorem dX10_divided_11 : decode cX10_divided 11 = .ok (.idiv, 1) := by decide +kernel
theorem dX10_divided_12 : decode cX10_divided 12 = .ok (.ireturn, 1) := by decide +kernel
/-- QuotientSums.divided(II)I -/
def wX10_divided  (a1 : Int32) (a2 : Int32) (Q : (Int32) → Prop) : Prop :=
  ((1 ≤ a2 → (¬ a2 = 0 ∧ (Q (a1 / a2)))) ∧ (¬ 1 ≤ a2 → (Q 0)))
set_option maxHeartbeats 4000000 in
set_option maxRecDepth 100000 in
theorem mX10_divided (l : Launch) (D : va_G) (Y : Nat → ClassId)   (a1 : Int32) (a2 : Int32) (Q : (Int32) → Prop) (h : wX10_divided a1 a2 Q) : gM l D Y yX10_divided cX10_divided 2 (some .int) 0 0 0 0 [.int a1, .int a2] [] (fun v w => ∃ r : Int32, v = some (.int r) ∧ w = [] ∧ Q r) := by
  refine gM_of (own := RX10) (by decide +kernel) rfl (Nat.le_of_ble_eq_true rfl) rfl (fun E C hR => ?_)
  unfold wX10_divided at h
  refine g_iload_n C dX10_divided_0 1 rfl ?_
  refine g_iconst (v := 1) C dX10_divided_1 rfl ?_
  refine g_icmp_ge (tgt := 9) C dX10_divided_2 (by decide) (fun c_1 => ?_) (fun c_1 => ?_)
  · replace h := h.1 c_1
    refine g_iload_n C dX10_divided_9 0 rfl ?_
    refine g_iload_n C dX10_divided_10 1 rfl ?_
    obtain ⟨hc_1, h⟩ := h
    refine g_idiv C dX10_divided_11 hc_1 ?_
    exact g_iret C hR (Nat.le_of_ble_eq_true rfl) (Nat.le_of_ble_eq_true rfl) dX10_divided_12 ⟨a1 / a2, rfl, rfl, h⟩
  · replace h := h.2 c_1
    refine g_iconst (v := 0) C dX10_divided_5 rfl ?_
    refine g_goto (tgt := 12) C dX10_divided_6 (by decide) ?_
    exact g_iret C hR (Nat.le_of_ble_eq_true rfl) (Nat.le_of_ble_eq_true rfl) dX10_divided_12 ⟨0, rfl, rfl, h⟩
theorem dX10_rootOf_0 : decode cX10_rootOf 0 = .ok (.iconst 0, 1) := by decide +kernel
theorem dX10_rootOf_1 : decode cX10_rootOf 1 = .ok (.istore_n 1, 1) := by decide +kernel
theorem dX10_rootOf_2 : decode cX10_rootOf 2 = .ok (.sipush 256, 3) := by decide +kernel
theorem dX10_rootOf_5 : decode cX10_rootOf 5 = .ok (.istore_n 2, 1) := by decide +kernel
theorem dX10_rootOf_6 : decode cX10_rootOf 6 = .ok (.iload_n 2, 1) := by decide +kernel
theorem dX10_rootOf_7 : decode cX10_rootOf 7 = .ok (.ifCond .le 23, 3) := by decide +kernel
theorem dX10_rootOf_10 : decode cX10_rootOf 10 = .ok (.iload_n 1, 1) := by decide +kernel
theorem dX10_rootOf_11 : decode cX10_rootOf 11 = .ok (.iload_n 2, 1) := by decide +kernel
theorem dX10_rootOf_12 : decode cX10_rootOf 12 = .ok (.iadd, 1) := by decide +kernel
theorem dX10_rootOf_13 : decode cX10_rootOf 13 = .ok (.istore_n 3, 1) := by decide +kernel
theorem dX10_rootOf_14 : decode cX10_rootOf 14 = .ok (.iload_n 3, 1) := by decide +kernel
theorem dX10_rootOf_15 : decode cX10_rootOf 15 = .ok (.iload_n 3, 1) := by decide +kernel
theorem dX10_rootOf_16 : decode cX10_rootOf 16 = .ok (.imul, 1) := by decide +kernel
theorem dX10_rootOf_17 : decode cX10_rootOf 17 = .ok (.iload_n 0, 1) := by decide +kernel
theorem dX10_rootOf_18 : decode cX10_rootOf 18 = .ok (.if_icmp .gt 5, 3) := by decide +kernel
theorem dX10_rootOf_21 : decode cX10_rootOf 21 = .ok (.iload_n 3, 1) := by decide +kernel
theorem dX10_rootOf_22 : decode cX10_rootOf 22 = .ok (.istore_n 1, 1) := by decide +kernel
theorem dX10_rootOf_23 : decode cX10_rootOf 23 = .ok (.iload_n 2, 1) := by decide +kernel
theorem dX10_rootOf_24 : decode cX10_rootOf 24 = .ok (.iconst 2, 1) := by decide +kernel
theorem dX10_rootOf_25 : decode cX10_rootOf 25 = .ok (.idiv, 1) := by decide +kernel
theorem dX10_rootOf_26 : decode cX10_rootOf 26 = .ok (.istore_n 2, 1) := by decide +kernel
theorem dX10_rootOf_27 : decode cX10_rootOf 27 = .ok (.goto (-21), 3) := by decide +kernel
theorem dX10_rootOf_30 : decode cX10_rootOf 30 = .ok (.iload_n 1, 1) := by decide +kernel
theorem dX10_rootOf_31 : decode cX10_rootOf 31 = .ok (.ireturn, 1) := by decide +kernel
/-- QuotientSums.rootOf(I)I -/
def wX10_rootOf  (a1 : Int32) (Q : (Int32) → Prop) : Prop :=
  (∃ (Inv_1 : (Int32) → (Int32) → Prop) (Mea_1 : (Int32) → (Int32) → Nat), Inv_1 0 256 ∧ ∀ (x1_1 : Int32) (x2_1 : Int32), Inv_1 x1_1 x2_1 → ((x2_1 ≤ 0 → (Q x1_1)) ∧ (¬ x2_1 ≤ 0 → (∀ x3_1 : Int32, x3_1 = x1_1 + x2_1 → ((a1 < (x3_1 * x3_1) → (∀ x2_2 : Int32, x2_2 = x2_1 / 2 → (Inv_1 x1_1 x2_2 ∧ Mea_1 x1_1 x2_2 < Mea_1 x1_1 x2_1))) ∧ (¬ a1 < (x3_1 * x3_1) → (∀ x2_3 : Int32, x2_3 = x2_1 / 2 → (Inv_1 x3_1 x2_3 ∧ Mea_1 x3_1 x2_3 < Mea_1 x1_1 x2_1))))))))
set_option maxHeartbeats 4000000 in
set_option maxRecDepth 100000 in
theorem mX10_rootOf (l : Launch) (D : va_G) (Y : Nat → ClassId)   (a1 : Int32) (Q : (Int32) → Prop) (h : wX10_rootOf a1 Q) : gM l D Y yX10_rootOf cX10_rootOf 4 (some .int) 0 0 0 0 [.int a1] [] (fun v w => ∃ r : Int32, v = some (.int r) ∧ w = [] ∧ Q r) := by
  refine gM_of (own := RX10) (by decide +kernel) rfl (Nat.le_of_ble_eq_true rfl) rfl (fun E C hR => ?_)
  unfold wX10_rootOf at h
  refine g_iconst (v := 0) C dX10_rootOf_0 rfl ?_
  refine g_istore_n (lv' := [(1, .int 0), (0, .int a1)]) C dX10_rootOf_1 (by decide) rfl ?_
  refine g_sipush (v := 256) C dX10_rootOf_2 rfl ?_
  refine g_istore_n (lv' := [(2, .int 256), (1, .int 0), (0, .int a1)]) C dX10_rootOf_5 (by decide) rfl ?_
  obtain ⟨Inv_1, Mea_1, hI1, hB1⟩ := h
  have key_1 : ∀ (n : Nat) (x1_1 : Int32) (x2_1 : Int32) , Mea_1 x1_1 x2_1 < n → Inv_1 x1_1 x2_1 → gG E 0 0 [] [(0, .int a1), (1, .int x1_1), (2, .int x2_1)] [] 6 := by
    intro n
    induction n with
    | zero => exact fun _ _ hm => absurd hm (Nat.not_lt_zero _)
    | succ n ih1 =>
      intro x1_1 x2_1  hm1 hI
      have h := hB1 x1_1 x2_1 hI
      refine g_iload_n C dX10_rootOf_6 2 rfl ?_
      refine g_if_le (tgt := 30) C dX10_rootOf_7 (by decide) (fun c_1 => ?_) (fun c_1 => ?_)
      · replace h := h.1 c_1
        refine g_iload_n C dX10_rootOf_30 1 rfl ?_
        exact g_iret C hR (Nat.le_of_ble_eq_true rfl) (Nat.le_of_ble_eq_true rfl) dX10_rootOf_31 ⟨x1_1, rfl, rfl, h⟩
      · replace h := h.2 c_1
        refine g_iload_n C dX10_rootOf_10 1 rfl ?_
        refine g_iload_n C dX10_rootOf_11 2 rfl ?_
        refine g_iadd C dX10_rootOf_12 ?_
        refine g_topi (fun x3_1 ex3_1 => ?_)
        replace h := h x3_1 ex3_1
        refine g_istore_n (lv' := [(3, .int x3_1), (0, .int a1), (1, .int x1_1), (2, .int x2_1)]) C dX10_rootOf_13 (by decide) rfl ?_
        refine g_iload_n C dX10_rootOf_14 0 rfl ?_
        refine g_iload_n C dX10_rootOf_15 0 rfl ?_
        refine g_imul C dX10_rootOf_16 ?_
        refine g_iload_n C dX10_rootOf_17 1 rfl ?_
        refine g_icmp_gt (tgt := 23) C dX10_rootOf_18 (by decide) (fun c_2 => ?_) (fun c_2 => ?_)
        · replace h := h.1 c_2
          refine g_iload_n C dX10_rootOf_23 3 rfl ?_
          refine g_iconst (v := 2) C dX10_rootOf_24 rfl ?_
          refine g_idiv C dX10_rootOf_25 (by decide) ?_
          refine g_topi (fun x2_2 ex2_2 => ?_)
          replace h := h x2_2 ex2_2
          refine g_istore_n (lv' := [(2, .int x2_2), (3, .int x3_1), (0, .int a1), (1, .int x1_1)]) C dX10_rootOf_26 (by decide) rfl ?_
          refine g_goto (tgt := 6) C dX10_rootOf_27 (by decide) ?_
          refine gG.locals (lv' := [(0, .int a1), (1, .int x1_1), (2, .int x2_2)]) [2, 3, 0] rfl ?_
          exact ih1 x1_1 x2_2 (Nat.lt_of_lt_of_le h.2 (Nat.le_of_lt_succ hm1)) h.1
        · replace h := h.2 c_2
          refine g_iload_n C dX10_rootOf_21 0 rfl ?_
          refine g_istore_n (lv' := [(1, .int x3_1), (3, .int x3_1), (0, .int a1), (2, .int x2_1)]) C dX10_rootOf_22 (by decide) rfl ?_
          refine g_iload_n C dX10_rootOf_23 3 rfl ?_
          refine g_iconst (v := 2) C dX10_rootOf_24 rfl ?_
          refine g_idiv C dX10_rootOf_25 (by decide) ?_
          refine g_topi (fun x2_3 ex2_3 => ?_)
          replace h := h x2_3 ex2_3
          refine g_istore_n (lv' := [(2, .int x2_3), (1, .int x3_1), (3, .int x3_1), (0, .int a1)]) C dX10_rootOf_26 (by decide) rfl ?_
          refine g_goto (tgt := 6) C dX10_rootOf_27 (by decide) ?_
          refine gG.locals (lv' := [(0, .int a1), (1, .int x3_1), (2, .int x2_3)]) [3, 1, 0] rfl ?_
          exact ih1 x3_1 x2_3 (Nat.lt_of_lt_of_le h.2 (Nat.le_of_lt_succ hm1)) h.1
  refine gG.locals (lv' := [(0, .int a1), (1, .int 0), (2, .int 256)]) [2, 1, 0] rfl ?_
  exact key_1 (Mea_1 0 256 + 1) 0 256 (Nat.lt_succ_self _) hI1
theorem dX10_isPrime_0 : decode cX10_isPrime 0 = .ok (.iconst 2, 1) := by decide +kernel
theorem dX10_isPrime_1 : decode cX10_isPrime 1 = .ok (.istore_n 1, 1) := by decide +kernel
theorem dX10_isPrime_2 : decode cX10_isPrime 2 = .ok (.iload_n 1, 1) := by decide +kernel
theorem dX10_isPrime_3 : decode cX10_isPrime 3 = .ok (.iload_n 1, 1) := by decide +kernel
theorem dX10_isPrime_4 : decode cX10_isPrime 4 = .ok (.imul, 1) := by decide +kernel
theorem dX10_isPrime_5 : decode cX10_isPrime 5 = .ok (.iload_n 0, 1) := by decide +kernel
theorem dX10_isPrime_6 : decode cX10_isPrime 6 = .ok (.if_icmp .gt 17, 3) := by decide +kernel
theorem dX10_isPrime_9 : decode cX10_isPrime 9 = .ok (.iload_n 0, 1) := by decide +kernel
theorem dX10_isPrime_10 : decode cX10_isPrime 10 = .ok (.iload_n 1, 1) := by decide +kernel
theorem dX10_isPrime_11 : decode cX10_isPrime 11 = .ok (.irem, 1) := by decide +kernel
theorem dX10_isPrime_12 : decode cX10_isPrime 12 = .ok (.ifCond .ne 5, 3) := by decide +kernel
theorem dX10_isPrime_15 : decode cX10_isPrime 15 = .ok (.iconst 0, 1) := by decide +kernel
theorem dX10_isPrime_16 : decode cX10_isPrime 16 = .ok (.ireturn, 1) := by decide +kernel
theorem dX10_isPrime_17 : decode cX10_isPrime 17 = .ok (.iinc 1 1, 3) := by decide +kernel
theorem dX10_isPrime_20 : decode cX10_isPrime 20 = .ok (.goto (-18), 3) := by decide +kernel
theorem dX10_isPrime_23 : decode cX10_isPrime 23 = .ok (.iload_n 0, 1) := by decide +kernel
theorem dX10_isPrime_24 : decode cX10_isPrime 24 = .ok (.iconst 2, 1) := by decide +kernel
theorem dX10_isPrime_25 : decode cX10_isPrime 25 = .ok (.if_icmp .lt 7, 3) := by decide +kernel
theorem dX10_isPrime_28 : decode cX10_isPrime 28 = .ok (.iconst 1, 1) := by decide +kernel
theorem dX10_isPrime_29 : decode cX10_isPrime 29 = .ok (.goto 4, 3) := by decide +kernel
theorem dX10_isPrime_32 : decode cX10_isPrime 32 = .ok (.iconst 0, 1) := by decide +kernel
theorem dX10_isPrime_33 : decode cX10_isPrime 33 = .ok (.ireturn, 1) := by decide +kernel
/-- QuotientSums.isPrime(I)Z -/
def wX10_isPrime  (a1 : Int32) (Q : (Int32) → Prop) : Prop :=
  (∃ (Inv_1 : (Int32) → Prop) (Mea_1 : (Int32) → Nat), Inv_1 2 ∧ ∀ (x1_1 : Int32), Inv_1 x1_1 → ((a1 < (x1_1 * x1_1) → ((a1 < 2 → (Q 0)) ∧ (¬ a1 < 2 → (Q 1)))) ∧ (¬ a1 < (x1_1 * x1_1) → (¬ x1_1 = 0 ∧ ((¬ (a1 - a1 / x1_1 * x1_1) = 0 → (Inv_1 (x1_1 + 1) ∧ Mea_1 (x1_1 + 1) < Mea_1 x1_1)) ∧ ((a1 - a1 / x1_1 * x1_1) = 0 → (Q 0)))))))
set_option maxHeartbeats 4000000 in
set_option maxRecDepth 100000 in
theorem mX10_isPrime (l : Launch) (D : va_G) (Y : Nat → ClassId)   (a1 : Int32) (Q : (Int32) → Prop) (h : wX10_isPrime a1 Q) : gM l D Y yX10_isPrime cX10_isPrime 2 (some .boolean) 0 0 0 0 [.int a1] [] (fun v w => ∃ r : Int32, v = some (.int r) ∧ w = [] ∧ Q r) := by
  refine gM_of (own := RX10) (by decide +kernel) rfl (Nat.le_of_ble_eq_true rfl) rfl (fun E C hR => ?_)
  unfold wX10_isPrime at h
  refine g_iconst (v := 2) C dX10_isPrime_0 rfl ?_
  refine g_istore_n (lv' := [(1, .int 2), (0, .int a1)]) C dX10_isPrime_1 (by decide) rfl ?_
  obtain ⟨Inv_1, Mea_1, hI1, hB1⟩ := h
  have key_1 : ∀ (n : Nat) (x1_1 : Int32) , Mea_1 x1_1 < n → Inv_1 x1_1 → gG E 0 0 [] [(0, .int a1), (1, .int x1_1)] [] 2 := by
    intro n
    induction n with
    | zero => exact fun _ hm => absurd hm (Nat.not_lt_zero _)
    | succ n ih1 =>
      intro x1_1  hm1 hI
      have h := hB1 x1_1 hI
      refine g_iload_n C dX10_isPrime_2 1 rfl ?_
      refine g_iload_n C dX10_isPrime_3 1 rfl ?_
      refine g_imul C dX10_isPrime_4 ?_
      refine g_iload_n C dX10_isPrime_5 0 rfl ?_
      refine g_icmp_gt (tgt := 23) C dX10_isPrime_6 (by decide) (fun c_1 => ?_) (fun c_1 => ?_)
      · replace h := h.1 c_1
        refine g_iload_n C dX10_isPrime_23 0 rfl ?_
        refine g_iconst (v := 2) C dX10_isPrime_24 rfl ?_
        refine g_icmp_lt (tgt := 32) C dX10_isPrime_25 (by decide) (fun c_2 => ?_) (fun c_2 => ?_)
        · replace h := h.1 c_2
          refine g_iconst (v := 0) C dX10_isPrime_32 rfl ?_
          exact g_zret C hR (by decide) (Nat.le_of_ble_eq_true rfl) (Nat.le_of_ble_eq_true rfl) dX10_isPrime_33 ⟨0, rfl, rfl, h⟩
        · replace h := h.2 c_2
          refine g_iconst (v := 1) C dX10_isPrime_28 rfl ?_
          refine g_goto (tgt := 33) C dX10_isPrime_29 (by decide) ?_
          exact g_zret C hR (by decide) (Nat.le_of_ble_eq_true rfl) (Nat.le_of_ble_eq_true rfl) dX10_isPrime_33 ⟨1, rfl, rfl, h⟩
      · replace h := h.2 c_1
        refine g_iload_n C dX10_isPrime_9 0 rfl ?_
        refine g_iload_n C dX10_isPrime_10 1 rfl ?_
        obtain ⟨hc_1, h⟩ := h
        refine g_irem C dX10_isPrime_11 hc_1 ?_
        refine g_if_ne (tgt := 17) C dX10_isPrime_12 (by decide) (fun c_3 => ?_) (fun c_3 => ?_)
        · replace h := h.1 c_3
          refine g_iinc (v := x1_1 + 1) (lv' := [(1, .int (x1_1 + 1)), (0, .int a1)]) C dX10_isPrime_17 1 rfl rfl (by decide) rfl ?_
          refine g_goto (tgt := 2) C dX10_isPrime_20 (by decide) ?_
          refine gG.locals (lv' := [(0, .int a1), (1, .int (x1_1 + 1))]) [1, 0] rfl ?_
          exact ih1 (x1_1 + 1) (Nat.lt_of_lt_of_le h.2 (Nat.le_of_lt_succ hm1)) h.1
        · replace h := h.2 c_3
          refine g_iconst (v := 0) C dX10_isPrime_15 rfl ?_
          exact g_zret C hR (by decide) (Nat.le_of_ble_eq_true rfl) (Nat.le_of_ble_eq_true rfl) dX10_isPrime_16 ⟨0, rfl, rfl, h⟩
  refine gG.locals (lv' := [(0, .int a1), (1, .int 2)]) [1, 0] rfl ?_
  exact key_1 (Mea_1 2 + 1) 2 (Nat.lt_succ_self _) hI1
theorem dX10_signOf_0 : decode cX10_signOf 0 = .ok (.iconst 1, 1) := by decide +kernel
theorem dX10_signOf_1 : decode cX10_signOf 1 = .ok (.istore_n 1, 1) := by decide +kernel
theorem dX10_signOf_2 : decode cX10_signOf 2 = .ok (.iload_n 0, 1) := by decide +kernel
theorem dX10_signOf_3 : decode cX10_signOf 3 = .ok (.istore_n 2, 1) := by decide +kernel
theorem dX10_signOf_4 : decode cX10_signOf 4 = .ok (.iconst 2, 1) := by decide +kernel
theorem dX10_signOf_5 : decode cX10_signOf 5 = .ok (.istore_n 3, 1) := by decide +kernel
theorem dX10_signOf_6 : decode cX10_signOf 6 = .ok (.iload_n 3, 1) := by decide +kernel
theorem dX10_signOf_7 : decode cX10_signOf 7 = .ok (.iload_n 3, 1) := by decide +kernel
theorem dX10_signOf_8 : decode cX10_signOf 8 = .ok (.imul, 1) := by decide +kernel
theorem dX10_signOf_9 : decode cX10_signOf 9 = .ok (.iload_n 2, 1) := by decide +kernel
theorem dX10_signOf_10 : decode cX10_signOf 10 = .ok (.if_icmp .gt 30, 3) := by decide +kernel
theorem dX10_signOf_13 : decode cX10_signOf 13 = .ok (.iload_n 2, 1) := by decide +kernel
theorem dX10_signOf_14 : decode cX10_signOf 14 = .ok (.iload_n 3, 1) := by decide +kernel
theorem dX10_signOf_15 : decode cX10_signOf 15 = .ok (.irem, 1) := by decide +kernel
theorem dX10_signOf_16 : decode cX10_signOf 16 = .ok (.ifCond .ne 18, 3) := by decide +kernel
theorem dX10_signOf_19 : decode cX10_signOf 19 = .ok (.iload_n 2, 1) := by decide +kernel
theorem dX10_signOf_20 : decode cX10_signOf 20 = .ok (.iload_n 3, 1) := by decide +kernel
theorem dX10_signOf_21 : decode cX10_signOf 21 = .ok (.idiv, 1) := by decide +kernel
theorem dX10_signOf_22 : decode cX10_signOf 22 = .ok (.istore_n 2, 1) := by decide +kernel
theorem dX10_signOf_23 : decode cX10_signOf 23 = .ok (.iload_n 1, 1) := by decide +kernel
theorem dX10_signOf_24 : decode cX10_signOf 24 = .ok (.ineg, 1) := by decide +kernel
theorem dX10_signOf_25 : decode cX10_signOf 25 = .ok (.istore_n 1, 1) := by decide +kernel
theorem dX10_signOf_26 : decode cX10_signOf 26 = .ok (.iload_n 2, 1) := by decide +kernel
theorem dX10_signOf_27 : decode cX10_signOf 27 = .ok (.iload_n 3, 1) := by decide +kernel
theorem dX10_signOf_28 : decode cX10_signOf 28 = .ok (.irem, 1) := by decide +kernel
theorem dX10_signOf_29 : decode cX10_signOf 29 = .ok (.ifCond .ne 5, 3) := by decide +kernel
theorem dX10_signOf_32 : decode cX10_signOf 32 = .ok (.iconst 0, 1) := by decide +kernel
theorem dX10_signOf_33 : decode cX10_signOf 33 = .ok (.ireturn, 1) := by decide +kernel
theorem dX10_signOf_34 : decode cX10_signOf 34 = .ok (.iinc 3 1, 3) := by decide +kernel
theorem dX10_signOf_37 : decode cX10_signOf 37 = .ok (.goto (-31), 3) := by decide +kernel
theorem dX10_signOf_40 : decode cX10_signOf 40 = .ok (.iload_n 2, 1) := by decide +kernel
theorem dX10_signOf_41 : decode cX10_signOf 41 = .ok (.iconst 1, 1) := by decide +kernel
theorem dX10_signOf_42 : decode cX10_signOf 42 = .ok (.if_icmp .le 8, 3) := by decide +kernel
theorem dX10_signOf_45 : decode cX10_signOf 45 = .ok (.iload_n 1, 1) := by decide +kernel
theorem dX10_signOf_46 : decode cX10_signOf 46 = .ok (.ineg, 1) := by decide +kernel
theorem dX10_signOf_47 : decode cX10_signOf 47 = .ok (.goto 4, 3) := by decide +kernel
theorem dX10_signOf_50 : decode cX10_signOf 50 = .ok (.iload_n 1, 1) := by decide +kernel
theorem dX10_signOf_51 : decode cX10_signOf 51 = .ok (.ireturn, 1) := by decide +kernel
/-- QuotientSums.signOf(I)I -/
def wX10_signOf  (a1 : Int32) (Q : (Int32) → Prop) : Prop :=
  (∃ (Inv_1 : (Int32) → (Int32) → (Int32) → Prop) (Mea_1 : (Int32) → (Int32) → (Int32) → Nat), Inv_1 1 a1 2 ∧ ∀ (x1_1 : Int32) (x2_1 : Int32) (x3_1 : Int32), Inv_1 x1_1 x2_1 x3_1 → ((x2_1 < (x3_1 * x3_1) → ((x2_1 ≤ 1 → (Q x1_1)) ∧ (¬ x2_1 ≤ 1 → (Q (-x1_1))))) ∧ (¬ x2_1 < (x3_1 * x3_1) → (¬ x3_1 = 0 ∧ ((¬ (x2_1 - x2_1 / x3_1 * x3_1) = 0 → (Inv_1 x1_1 x2_1 (x3_1 + 1) ∧ Mea_1 x1_1 x2_1 (x3_1 + 1) < Mea_1 x1_1 x2_1 x3_1)) ∧ ((x2_1 - x2_1 / x3_1 * x3_1) = 0 → (∀ x2_2 : Int32, x2_2 = x2_1 / x3_1 → ∀ x1_2 : Int32, x1_2 = -x1_1 → ((¬ (x2_2 - x2_2 / x3_1 * x3_1) = 0 → (Inv_1 x1_2 x2_2 (x3_1 + 1) ∧ Mea_1 x1_2 x2_2 (x3_1 + 1) < Mea_1 x1_1 x2_1 x3_1)) ∧ ((x2_2 - x2_2 / x3_1 * x3_1) = 0 → (Q 0))))))))))
set_option maxHeartbeats 4000000 in
set_option maxRecDepth 100000 in
theorem mX10_signOf (l : Launch) (D : va_G) (Y : Nat → ClassId)   (a1 : Int32) (Q : (Int32) → Prop) (h : wX10_signOf a1 Q) : gM l D Y yX10_signOf cX10_signOf 4 (some .int) 0 0 0 0 [.int a1] [] (fun v w => ∃ r : Int32, v = some (.int r) ∧ w = [] ∧ Q r) := by
  refine gM_of (own := RX10) (by decide +kernel) rfl (Nat.le_of_ble_eq_true rfl) rfl (fun E C hR => ?_)
  unfold wX10_signOf at h
  refine g_iconst (v := 1) C dX10_signOf_0 rfl ?_
  refine g_istore_n (lv' := [(1, .int 1), (0, .int a1)]) C dX10_signOf_1 (by decide) rfl ?_
  refine g_iload_n C dX10_signOf_2 1 rfl ?_
  refine g_istore_n (lv' := [(2, .int a1), (1, .int 1), (0, .int a1)]) C dX10_signOf_3 (by decide) rfl ?_
  refine g_iconst (v := 2) C dX10_signOf_4 rfl ?_
  refine g_istore_n (lv' := [(3, .int 2), (2, .int a1), (1, .int 1), (0, .int a1)]) C dX10_signOf_5 (by decide) rfl ?_
  obtain ⟨Inv_1, Mea_1, hI1, hB1⟩ := h
  have key_1 : ∀ (n : Nat) (x1_1 : Int32) (x2_1 : Int32) (x3_1 : Int32) , Mea_1 x1_1 x2_1 x3_1 < n → Inv_1 x1_1 x2_1 x3_1 → gG E 0 0 [] [(1, .int x1_1), (2, .int x2_1), (3, .int x3_1)] [] 6 := by
    intro n
    induction n with
    | zero => exact fun _ _ _ hm => absurd hm (Nat.not_lt_zero _)
    | succ n ih1 =>
      intro x1_1 x2_1 x3_1  hm1 hI
      have h := hB1 x1_1 x2_1 x3_1 hI
      refine g_iload_n C dX10_signOf_6 2 rfl ?_
      refine g_iload_n C dX10_signOf_7 2 rfl ?_
      refine g_imul C dX10_signOf_8 ?_
      refine g_iload_n C dX10_signOf_9 1 rfl ?_
      refine g_icmp_gt (tgt := 40) C dX10_signOf_10 (by decide) (fun c_1 => ?_) (fun c_1 => ?_)
      · replace h := h.1 c_1
        refine g_iload_n C dX10_signOf_40 1 rfl ?_
        refine g_iconst (v := 1) C dX10_signOf_41 rfl ?_
        refine g_icmp_le (tgt := 50) C dX10_signOf_42 (by decide) (fun c_2 => ?_) (fun c_2 => ?_)
        · replace h := h.1 c_2
          refine g_iload_n C dX10_signOf_50 0 rfl ?_
          exact g_iret C hR (Nat.le_of_ble_eq_true rfl) (Nat.le_of_ble_eq_true rfl) dX10_signOf_51 ⟨x1_1, rfl, rfl, h⟩
        · replace h := h.2 c_2
          refine g_iload_n C dX10_signOf_45 0 rfl ?_
          refine g_ineg C dX10_signOf_46 ?_
          refine g_goto (tgt := 51) C dX10_signOf_47 (by decide) ?_
          exact g_iret C hR (Nat.le_of_ble_eq_true rfl) (Nat.le_of_ble_eq_true rfl) dX10_signOf_51 ⟨-x1_1, rfl, rfl, h⟩
      · replace h := h.2 c_1
        refine g_iload_n C dX10_signOf_13 1 rfl ?_
        refine g_iload_n C dX10_signOf_14 2 rfl ?_
        obtain ⟨hc_1, h⟩ := h
        refine g_irem C dX10_signOf_15 hc_1 ?_
        refine g_if_ne (tgt := 34) C dX10_signOf_16 (by decide) (fun c_3 => ?_) (fun c_3 => ?_)
        · replace h := h.1 c_3
          refine g_iinc (v := x3_1 + 1) (lv' := [(3, .int (x3_1 + 1)), (1, .int x1_1), (2, .int x2_1)]) C dX10_signOf_34 2 rfl rfl (by decide) rfl ?_
          refine g_goto (tgt := 6) C dX10_signOf_37 (by decide) ?_
          refine gG.locals (lv' := [(1, .int x1_1), (2, .int x2_1), (3, .int (x3_1 + 1))]) [1, 2, 0] rfl ?_
          exact ih1 x1_1 x2_1 (x3_1 + 1) (Nat.lt_of_lt_of_le h.2 (Nat.le_of_lt_succ hm1)) h.1
        · replace h := h.2 c_3
          refine g_iload_n C dX10_signOf_19 1 rfl ?_
          refine g_iload_n C dX10_signOf_20 2 rfl ?_
          refine g_idiv C dX10_signOf_21 hc_1 ?_
          refine g_topi (fun x2_2 ex2_2 => ?_)
          replace h := h x2_2 ex2_2
          refine g_istore_n (lv' := [(2, .int x2_2), (1, .int x1_1), (3, .int x3_1)]) C dX10_signOf_22 (by decide) rfl ?_
          refine g_iload_n C dX10_signOf_23 1 rfl ?_
          refine g_ineg C dX10_signOf_24 ?_
          refine g_topi (fun x1_2 ex1_2 => ?_)
          replace h := h x1_2 ex1_2
          refine g_istore_n (lv' := [(1, .int x1_2), (2, .int x2_2), (3, .int x3_1)]) C dX10_signOf_25 (by decide) rfl ?_
          refine g_iload_n C dX10_signOf_26 1 rfl ?_
          refine g_iload_n C dX10_signOf_27 2 rfl ?_
          refine g_irem C dX10_signOf_28 hc_1 ?_
          refine g_if_ne (tgt := 34) C dX10_signOf_29 (by decide) (fun c_4 => ?_) (fun c_4 => ?_)
          · replace h := h.1 c_4
            refine g_iinc (v := x3_1 + 1) (lv' := [(3, .int (x3_1 + 1)), (1, .int x1_2), (2, .int x2_2)]) C dX10_signOf_34 2 rfl rfl (by decide) rfl ?_
            refine g_goto (tgt := 6) C dX10_signOf_37 (by decide) ?_
            refine gG.locals (lv' := [(1, .int x1_2), (2, .int x2_2), (3, .int (x3_1 + 1))]) [1, 2, 0] rfl ?_
            exact ih1 x1_2 x2_2 (x3_1 + 1) (Nat.lt_of_lt_of_le h.2 (Nat.le_of_lt_succ hm1)) h.1
          · replace h := h.2 c_4
            refine g_iconst (v := 0) C dX10_signOf_32 rfl ?_
            exact g_iret C hR (Nat.le_of_ble_eq_true rfl) (Nat.le_of_ble_eq_true rfl) dX10_signOf_33 ⟨0, rfl, rfl, h⟩
  refine gG.locals (lv' := [(1, .int 1), (2, .int a1), (3, .int 2)]) [2, 1, 0] rfl ?_
  exact key_1 (Mea_1 1 a1 2 + 1) 1 a1 2 (Nat.lt_succ_self _) hI1
theorem dX10_grown_0 : decode cX10_grown 0 = .ok (.iload_n 1, 1) := by decide +kernel
theorem dX10_grown_1 : decode cX10_grown 1 = .ok (.iconst 1, 1) := by decide +kernel
theorem dX10_grown_2 : decode cX10_grown 2 = .ok (.iadd, 1) := by decide +kernel
theorem dX10_grown_3 : decode cX10_grown 3 = .ok (.iconst 2, 1) := by decide +kernel
theorem dX10_grown_4 : decode cX10_grown 4 = .ok (.iload_n 0, 1) := by decide +kernel
theorem dX10_grown_5 : decode cX10_grown 5 = .ok (.imul, 1) := by decide +kernel
theorem dX10_grown_6 : decode cX10_grown 6 = .ok (.ldc_w 328, 3) := by decide +kernel
theorem dX10_grown_9 : decode cX10_grown 9 = .ok (.invokestatic 252, 3) := by decide +kernel
theorem dX10_grown_12 : decode cX10_grown 12 = .ok (.invokestatic 225, 3) := by decide +kernel
theorem dX10_grown_15 : decode cX10_grown 15 = .ok (.ireturn, 1) := by decide +kernel
/-- QuotientSums.grown(II)I -/
def wX10_grown  (a1 : Int32) (a2 : Int32) (Q : (Int32) → Prop) : Prop :=
  (∀ m_1 : Int32, m_1 = (if (200001 : Int32) < (2 * a1) then 200001 else (2 * a1)) → ∀ m_2 : Int32, m_2 = (if (a2 + 1) < m_1 then m_1 else (a2 + 1)) → (Q m_2))
set_option maxHeartbeats 4000000 in
set_option maxRecDepth 100000 in
theorem mX10_grown (l : Launch) (D : va_G) (Y : Nat → ClassId)   (a1 : Int32) (a2 : Int32) (Q : (Int32) → Prop) (h : wX10_grown a1 a2 Q) : gM l D Y yX10_grown cX10_grown 2 (some .int) 1 21 0 0 [.int a1, .int a2] [] (fun v w => ∃ r : Int32, v = some (.int r) ∧ w = [] ∧ Q r) := by
  refine gM_of (own := RX10) (by decide +kernel) rfl (Nat.le_of_ble_eq_true rfl) rfl (fun E C hR => ?_)
  unfold wX10_grown at h
  refine g_iload_n C dX10_grown_0 1 rfl ?_
  refine g_iconst (v := 1) C dX10_grown_1 rfl ?_
  refine g_iadd C dX10_grown_2 ?_
  refine g_iconst (v := 2) C dX10_grown_3 rfl ?_
  refine g_iload_n C dX10_grown_4 0 rfl ?_
  refine g_imul C dX10_grown_5 ?_
  refine g_ldcw C dX10_grown_6 wK_X10_328 ?_
  refine g_mmin C wM_X10_252 dX10_grown_9 ⟨Nat.le_of_ble_eq_true rfl, Nat.le_of_ble_eq_true rfl⟩ ⟨Nat.le_of_ble_eq_true rfl, Nat.le_of_ble_eq_true rfl⟩ ?_
  refine g_topi (fun m_1 em_1 => ?_)
  replace h := h m_1 em_1
  refine g_mmax C wM_X10_225 dX10_grown_12 ⟨Nat.le_of_ble_eq_true rfl, Nat.le_of_ble_eq_true rfl⟩ ⟨Nat.le_of_ble_eq_true rfl, Nat.le_of_ble_eq_true rfl⟩ ?_
  refine g_topi (fun m_2 em_2 => ?_)
  replace h := h m_2 em_2
  exact g_iret C hR (Nat.le_of_ble_eq_true rfl) (Nat.le_of_ble_eq_true rfl) dX10_grown_15 ⟨m_2, rfl, rfl, h⟩
theorem dX10_isOwnPower_0 : decode cX10_isOwnPower 0 = .ok (.iload_n 0, 1) := by decide +kernel
theorem dX10_isOwnPower_1 : decode cX10_isOwnPower 1 = .ok (.iconst 1, 1) := by decide +kernel
theorem dX10_isOwnPower_2 : decode cX10_isOwnPower 2 = .ok (.if_icmp .lt 13, 3) := by decide +kernel
theorem dX10_isOwnPower_5 : decode cX10_isOwnPower 5 = .ok (.iload_n 0, 1) := by decide +kernel
theorem dX10_isOwnPower_6 : decode cX10_isOwnPower 6 = .ok (.bipush 6, 2) := by decide +kernel
theorem dX10_isOwnPower_8 : decode cX10_isOwnPower 8 = .ok (.if_icmp .gt 7, 3) := by decide +kernel
theorem dX10_isOwnPower_11 : decode cX10_isOwnPower 11 = .ok (.iconst 1, 1) := by decide +kernel
theorem dX10_isOwnPower_12 : decode cX10_isOwnPower 12 = .ok (.goto 4, 3) := by decide +kernel
theorem dX10_isOwnPower_15 : decode cX10_isOwnPower 15 = .ok (.iconst 0, 1) := by decide +kernel
theorem dX10_isOwnPower_16 : decode cX10_isOwnPower 16 = .ok (.ireturn, 1) := by decide +kernel
/-- QuotientSums.isOwnPower(I)Z -/
def wX10_isOwnPower  (a1 : Int32) (Q : (Int32) → Prop) : Prop :=
  ((a1 < 1 → (Q 0)) ∧ (¬ a1 < 1 → ((6 < a1 → (Q 0)) ∧ (¬ 6 < a1 → (Q 1)))))
set_option maxHeartbeats 4000000 in
set_option maxRecDepth 100000 in
theorem mX10_isOwnPower (l : Launch) (D : va_G) (Y : Nat → ClassId)   (a1 : Int32) (Q : (Int32) → Prop) (h : wX10_isOwnPower a1 Q) : gM l D Y yX10_isOwnPower cX10_isOwnPower 1 (some .boolean) 0 0 0 0 [.int a1] [] (fun v w => ∃ r : Int32, v = some (.int r) ∧ w = [] ∧ Q r) := by
  refine gM_of (own := RX10) (by decide +kernel) rfl (Nat.le_of_ble_eq_true rfl) rfl (fun E C hR => ?_)
  unfold wX10_isOwnPower at h
  refine g_iload_n C dX10_isOwnPower_0 0 rfl ?_
  refine g_iconst (v := 1) C dX10_isOwnPower_1 rfl ?_
  refine g_icmp_lt (tgt := 15) C dX10_isOwnPower_2 (by decide) (fun c_1 => ?_) (fun c_1 => ?_)
  · replace h := h.1 c_1
    refine g_iconst (v := 0) C dX10_isOwnPower_15 rfl ?_
    exact g_zret C hR (by decide) (Nat.le_of_ble_eq_true rfl) (Nat.le_of_ble_eq_true rfl) dX10_isOwnPower_16 ⟨0, rfl, rfl, h⟩
  · replace h := h.2 c_1
    refine g_iload_n C dX10_isOwnPower_5 0 rfl ?_
    refine g_bipush (v := 6) C dX10_isOwnPower_6 rfl ?_
    refine g_icmp_gt (tgt := 15) C dX10_isOwnPower_8 (by decide) (fun c_2 => ?_) (fun c_2 => ?_)
    · replace h := h.1 c_2
      refine g_iconst (v := 0) C dX10_isOwnPower_15 rfl ?_
      exact g_zret C hR (by decide) (Nat.le_of_ble_eq_true rfl) (Nat.le_of_ble_eq_true rfl) dX10_isOwnPower_16 ⟨0, rfl, rfl, h⟩
    · replace h := h.2 c_2
      refine g_iconst (v := 1) C dX10_isOwnPower_11 rfl ?_
      refine g_goto (tgt := 16) C dX10_isOwnPower_12 (by decide) ?_
      exact g_zret C hR (by decide) (Nat.le_of_ble_eq_true rfl) (Nat.le_of_ble_eq_true rfl) dX10_isOwnPower_16 ⟨1, rfl, rfl, h⟩
theorem dX10_isTellable_0 : decode cX10_isTellable 0 = .ok (.iload_n 0, 1) := by decide +kernel
theorem dX10_isTellable_1 : decode cX10_isTellable 1 = .ok (.sipush (-999), 3) := by decide +kernel
theorem dX10_isTellable_4 : decode cX10_isTellable 4 = .ok (.if_icmp .lt 14, 3) := by decide +kernel
theorem dX10_isTellable_7 : decode cX10_isTellable 7 = .ok (.iload_n 0, 1) := by decide +kernel
theorem dX10_isTellable_8 : decode cX10_isTellable 8 = .ok (.sipush 999, 3) := by decide +kernel
theorem dX10_isTellable_11 : decode cX10_isTellable 11 = .ok (.if_icmp .gt 7, 3) := by decide +kernel
theorem dX10_isTellable_14 : decode cX10_isTellable 14 = .ok (.iconst 1, 1) := by decide +kernel
theorem dX10_isTellable_15 : decode cX10_isTellable 15 = .ok (.goto 4, 3) := by decide +kernel
theorem dX10_isTellable_18 : decode cX10_isTellable 18 = .ok (.iconst 0, 1) := by decide +kernel
theorem dX10_isTellable_19 : decode cX10_isTellable 19 = .ok (.ireturn, 1) := by decide +kernel
/-- QuotientSums.isTellable(I)Z -/
def wX10_isTellable  (a1 : Int32) (Q : (Int32) → Prop) : Prop :=
  ((a1 < (-999) → (Q 0)) ∧ (¬ a1 < (-999) → ((999 < a1 → (Q 0)) ∧ (¬ 999 < a1 → (Q 1)))))
set_option maxHeartbeats 4000000 in
set_option maxRecDepth 100000 in
theorem mX10_isTellable (l : Launch) (D : va_G) (Y : Nat → ClassId)   (a1 : Int32) (Q : (Int32) → Prop) (h : wX10_isTellable a1 Q) : gM l D Y yX10_isTellable cX10_isTellable 1 (some .boolean) 0 0 0 0 [.int a1] [] (fun v w => ∃ r : Int32, v = some (.int r) ∧ w = [] ∧ Q r) := by
  refine gM_of (own := RX10) (by decide +kernel) rfl (Nat.le_of_ble_eq_true rfl) rfl (fun E C hR => ?_)
  unfold wX10_isTellable at h
  refine g_iload_n C dX10_isTellable_0 0 rfl ?_
  refine g_sipush (v := (-999)) C dX10_isTellable_1 rfl ?_
  refine g_icmp_lt (tgt := 18) C dX10_isTellable_4 (by decide) (fun c_1 => ?_) (fun c_1 => ?_)
  · replace h := h.1 c_1
    refine g_iconst (v := 0) C dX10_isTellable_18 rfl ?_
    exact g_zret C hR (by decide) (Nat.le_of_ble_eq_true rfl) (Nat.le_of_ble_eq_true rfl) dX10_isTellable_19 ⟨0, rfl, rfl, h⟩
  · replace h := h.2 c_1
    refine g_iload_n C dX10_isTellable_7 0 rfl ?_
    refine g_sipush (v := 999) C dX10_isTellable_8 rfl ?_
    refine g_icmp_gt (tgt := 18) C dX10_isTellable_11 (by decide) (fun c_2 => ?_) (fun c_2 => ?_)
    · replace h := h.1 c_2
      refine g_iconst (v := 0) C dX10_isTellable_18 rfl ?_
      exact g_zret C hR (by decide) (Nat.le_of_ble_eq_true rfl) (Nat.le_of_ble_eq_true rfl) dX10_isTellable_19 ⟨0, rfl, rfl, h⟩
    · replace h := h.2 c_2
      refine g_iconst (v := 1) C dX10_isTellable_14 rfl ?_
      refine g_goto (tgt := 19) C dX10_isTellable_15 (by decide) ?_
      exact g_zret C hR (by decide) (Nat.le_of_ble_eq_true rfl) (Nat.le_of_ble_eq_true rfl) dX10_isTellable_19 ⟨1, rfl, rfl, h⟩
theorem dX10_drawAfter_0 : decode cX10_drawAfter 0 = .ok (.lload_n 0, 1) := by decide +kernel
theorem dX10_drawAfter_1 : decode cX10_drawAfter 1 = .ok (.ldc2_w 284, 3) := by decide +kernel
theorem dX10_drawAfter_4 : decode cX10_drawAfter 4 = .ok (.lmul, 1) := by decide +kernel
theorem dX10_drawAfter_5 : decode cX10_drawAfter 5 = .ok (.ldc2_w 286, 3) := by decide +kernel
theorem dX10_drawAfter_8 : decode cX10_drawAfter 8 = .ok (.ladd, 1) := by decide +kernel
theorem dX10_drawAfter_9 : decode cX10_drawAfter 9 = .ok (.ldc2_w 288, 3) := by decide +kernel
theorem dX10_drawAfter_12 : decode cX10_drawAfter 12 = .ok (.land, 1) := by decide +kernel
theorem dX10_drawAfter_13 : decode cX10_drawAfter 13 = .ok (.lreturn, 1) := by decide +kernel
/-- QuotientSums.drawAfter(J)J -/
def wX10_drawAfter  (a1 : Int64) (Q : (Int64) → Prop) : Prop :=
  (Q (((a1 * 1103515245) + 12345) &&& 2147483647))
set_option maxHeartbeats 4000000 in
set_option maxRecDepth 100000 in
theorem mX10_drawAfter (l : Launch) (D : va_G) (Y : Nat → ClassId)   (a1 : Int64) (Q : (Int64) → Prop) (h : wX10_drawAfter a1 Q) : gM l D Y yX10_drawAfter cX10_drawAfter 2 (some .long) 0 0 0 0 [.long a1] [] (fun v w => ∃ r : Int64, v = some (.long r) ∧ w = [] ∧ Q r) := by
  refine gM_of (own := RX10) (by decide +kernel) rfl (Nat.le_of_ble_eq_true rfl) rfl (fun E C hR => ?_)
  unfold wX10_drawAfter at h
  refine g_lload_n C dX10_drawAfter_0 0 rfl ?_
  refine g_ldc2 C dX10_drawAfter_1 wQ_X10_284 ?_
  refine g_lmul C dX10_drawAfter_4 ?_
  refine g_ldc2 C dX10_drawAfter_5 wQ_X10_286 ?_
  refine g_ladd C dX10_drawAfter_8 ?_
  refine g_ldc2 C dX10_drawAfter_9 wQ_X10_288 ?_
  refine g_land C dX10_drawAfter_12 ?_
  exact g_lret C hR (Nat.le_of_ble_eq_true rfl) (Nat.le_of_ble_eq_true rfl) dX10_drawAfter_13 ⟨((a1 * 1103515245) + 12345) &&& 2147483647, rfl, rfl, h⟩
theorem dJ7_fill_53178_0 : decode cJ7_fill_53178 0 = .ok (.iconst 0, 1) := by decide +kernel
theorem dJ7_fill_53178_1 : decode cJ7_fill_53178 1 = .ok (.istore_n 2, 1) := by decide +kernel
theorem dJ7_fill_53178_2 : decode cJ7_fill_53178 2 = .ok (.aload_n 0, 1) := by decide +kernel
theorem dJ7_fill_53178_3 : decode cJ7_fill_53178 3 = .ok (.arraylength, 1) := by decide +kernel
theorem dJ7_fill_53178_4 : decode cJ7_fill_53178 4 = .ok (.istore_n 3, 1) := by decide +kernel
theorem dJ7_fill_53178_5 : decode cJ7_fill_53178 5 = .ok (.iload_n 2, 1) := by decide +kernel
theorem dJ7_fill_53178_6 : decode cJ7_fill_53178 6 = .ok (.iload_n 3, 1) := by decide +kernel
theorem dJ7_fill_53178_7 : decode cJ7_fill_53178 7 = .ok (.if_icmp .ge 13, 3) := by decide +kernel
theorem dJ7_fill_53178_10 : decode cJ7_fill_53178 10 = .ok (.aload_n 0, 1) := by decide +kernel
theorem dJ7_fill_53178_11 : decode cJ7_fill_53178 11 = .ok (.iload_n 2, 1) := by decide +kernel
theorem dJ7_fill_53178_12 : decode cJ7_fill_53178 12 = .ok (.iload_n 1, 1) := by decide +kernel
theorem dJ7_fill_53178_13 : decode cJ7_fill_53178 13 = .ok (.iastore, 1) := by decide +kernel
theorem dJ7_fill_53178_14 : decode cJ7_fill_53178 14 = .ok (.iinc 2 1, 3) := by decide +kernel
theorem dJ7_fill_53178_17 : decode cJ7_fill_53178 17 = .ok (.goto (-12), 3) := by decide +kernel
theorem dJ7_fill_53178_20 : decode cJ7_fill_53178 20 = .ok (.return_, 1) := by decide +kernel
/-- java/util/Arrays.fill([II)V -/
def wJ7_fill_53178 (n_a1 : Nat) (a1 : Nat → Int32) (a2 : Int32) (Q : (Nat → Int32) → Prop) : Prop :=
  (∀ x3_1 : Int32, x3_1 = nI n_a1 → (∃ (Inv_1 : (Nat → Int32) → (Int32) → Prop) (Mea_1 : (Nat → Int32) → (Int32) → Nat), Inv_1 a1 0 ∧ ∀ (a1_1 : Nat → Int32) (x2_1 : Int32), Inv_1 a1_1 x2_1 → ((x3_1 ≤ x2_1 → (Q a1_1)) ∧ (¬ x3_1 ≤ x2_1 → (vp_in x2_1 n_a1 ∧ ∀ a1_2 : Nat → Int32, a1_2 = upd a1_1 x2_1.toNatClampNeg a2 → (Inv_1 a1_2 (x2_1 + 1) ∧ Mea_1 a1_2 (x2_1 + 1) < Mea_1 a1_1 x2_1))))))
set_option maxHeartbeats 4000000 in
set_option maxRecDepth 100000 in
theorem mJ7_fill_53178 (l : Launch) (D : va_G) (Y : Nat → ClassId) (q_a1 : Nat) (n_a1 : Nat) (a1 : Nat → Int32) (a2 : Int32) (Q : (Nat → Int32) → Prop) (h : wJ7_fill_53178 n_a1 a1 a2 Q) : gM l D Y yJ7_fill_53178 cJ7_fill_53178 4 none 0 0 0 0 [.ref q_a1, .int a2] [aI Y q_a1 n_a1 a1] (fun v w => ∃ a1' : Nat → Int32, v = none ∧ w = [aI Y q_a1 n_a1 a1'] ∧ Q a1') := by
  refine gM_of (own := RJ7) (by decide +kernel) rfl (Nat.le_of_ble_eq_true rfl) rfl (fun E C hR => ?_)
  unfold wJ7_fill_53178 at h
  refine g_iconst (v := 0) C dJ7_fill_53178_0 rfl ?_
  refine g_istore_n (lv' := [(2, .int 0), (0, .ref q_a1), (1, .int a2)]) C dJ7_fill_53178_1 (by decide) rfl ?_
  refine g_aload_n C dJ7_fill_53178_2 1 rfl ?_
  refine g_alen (v := nI n_a1) C 0 0 rfl rfl rfl dJ7_fill_53178_3 ?_
  refine g_topi (fun x3_1 ex3_1 => ?_)
  replace h := h x3_1 ex3_1
  refine g_istore_n (lv' := [(3, .int x3_1), (2, .int 0), (0, .ref q_a1), (1, .int a2)]) C dJ7_fill_53178_4 (by decide) rfl ?_
  obtain ⟨Inv_1, Mea_1, hI1, hB1⟩ := h
  have key_1 : ∀ (n : Nat) (a1_1 : Nat → Int32) (x2_1 : Int32) , Mea_1 a1_1 x2_1 < n → Inv_1 a1_1 x2_1 → gG E 0 0 [aI Y q_a1 n_a1 a1_1] [(0, .ref q_a1), (1, .int a2), (2, .int x2_1), (3, .int x3_1)] [] 5 := by
    intro n
    induction n with
    | zero => exact fun _ _ hm => absurd hm (Nat.not_lt_zero _)
    | succ n ih1 =>
      intro a1_1 x2_1  hm1 hI
      have h := hB1 a1_1 x2_1 hI
      refine g_iload_n C dJ7_fill_53178_5 2 rfl ?_
      refine g_iload_n C dJ7_fill_53178_6 3 rfl ?_
      refine g_icmp_ge (tgt := 20) C dJ7_fill_53178_7 (by decide) (fun c_1 => ?_) (fun c_1 => ?_)
      · replace h := h.1 c_1
        exact g_vret C hR (Nat.le_of_ble_eq_true rfl) (Nat.le_of_ble_eq_true rfl) dJ7_fill_53178_20 ⟨a1_1, rfl, rfl, h⟩
      · replace h := h.2 c_1
        refine g_aload_n C dJ7_fill_53178_10 0 rfl ?_
        refine g_iload_n C dJ7_fill_53178_11 2 rfl ?_
        refine g_iload_n C dJ7_fill_53178_12 1 rfl ?_
        obtain ⟨hc_1, h⟩ := h
        refine g_iast C 0 rfl hc_1 dJ7_fill_53178_13 (fun a1_2 ea1_2 => gG.eqw (ws' := [aI Y q_a1 n_a1 a1_2]) rfl ?_)
        replace h := h a1_2 ea1_2
        refine g_iinc (v := x2_1 + 1) (lv' := [(2, .int (x2_1 + 1)), (0, .ref q_a1), (1, .int a2), (3, .int x3_1)]) C dJ7_fill_53178_14 2 rfl rfl (by decide) rfl ?_
        refine g_goto (tgt := 5) C dJ7_fill_53178_17 (by decide) ?_
        refine gG.locals (lv' := [(0, .ref q_a1), (1, .int a2), (2, .int (x2_1 + 1)), (3, .int x3_1)]) [1, 2, 0, 3] rfl ?_
        exact ih1 a1_2 (x2_1 + 1) (Nat.lt_of_lt_of_le h.2 (Nat.le_of_lt_succ hm1)) h.1
  refine gG.locals (lv' := [(0, .ref q_a1), (1, .int a2), (2, .int 0), (3, .int x3_1)]) [2, 3, 1, 0] rfl ?_
  exact key_1 (Mea_1 a1 0 + 1) a1 0 (Nat.lt_succ_self _) hI1
theorem dJ7_copyOf_59c91_0 : decode cJ7_copyOf_59c91 0 = .ok (.iload_n 1, 1) := by decide +kernel
theorem dJ7_copyOf_59c91_1 : decode cJ7_copyOf_59c91 1 = .ok (.aload_n 0, 1) := by decide +kernel
theorem dJ7_copyOf_59c91_2 : decode cJ7_copyOf_59c91 2 = .ok (.arraylength, 1) := by decide +kernel
theorem dJ7_copyOf_59c91_3 : decode cJ7_copyOf_59c91 3 = .ok (.if_icmp .ne 11, 3) := by decide +kernel
theorem dJ7_copyOf_59c91_6 : decode cJ7_copyOf_59c91 6 = .ok (.aload_n 0, 1) := by decide +kernel
theorem dJ7_copyOf_59c91_7 : decode cJ7_copyOf_59c91 7 = .ok (.invokevirtual 316, 3) := by decide +kernel
theorem dJ7_copyOf_59c91_10 : decode cJ7_copyOf_59c91 10 = .ok (.checkcast 317, 3) := by decide +kernel
theorem dJ7_copyOf_59c91_13 : decode cJ7_copyOf_59c91 13 = .ok (.areturn, 1) := by decide +kernel
theorem dJ7_copyOf_59c91_14 : decode cJ7_copyOf_59c91 14 = .ok (.iload_n 1, 1) := by decide +kernel
theorem dJ7_copyOf_59c91_15 : decode cJ7_copyOf_59c91 15 = .ok (.newarray .int, 2) := by decide +kernel
theorem dJ7_copyOf_59c91_17 : decode cJ7_copyOf_59c91 17 = .ok (.astore_n 2, 1) := by decide +kernel
theorem dJ7_copyOf_59c91_18 : decode cJ7_copyOf_59c91 18 = .ok (.aload_n 0, 1) := by decide +kernel
theorem dJ7_copyOf_59c91_19 : decode cJ7_copyOf_59c91 19 = .ok (.iconst 0, 1) := by decide +kernel
theorem dJ7_copyOf_59c91_20 : decode cJ7_copyOf_59c91 20 = .ok (.aload_n 2, 1) := by decide +kernel
theorem dJ7_copyOf_59c91_21 : decode cJ7_copyOf_59c91 21 = .ok (.iconst 0, 1) := by decide +kernel
theorem dJ7_copyOf_59c91_22 : decode cJ7_copyOf_59c91 22 = .ok (.aload_n 0, 1) := by decide +kernel
theorem dJ7_copyOf_59c91_23 : decode cJ7_copyOf_59c91 23 = .ok (.arraylength, 1) := by decide +kernel
theorem dJ7_copyOf_59c91_24 : decode cJ7_copyOf_59c91 24 = .ok (.iload_n 1, 1) := by decide +kernel
theorem dJ7_copyOf_59c91_25 : decode cJ7_copyOf_59c91 25 = .ok (.invokestatic 304, 3) := by decide +kernel
theorem dJ7_copyOf_59c91_28 : decode cJ7_copyOf_59c91 28 = .ok (.invokestatic 150, 3) := by decide +kernel
theorem dJ7_copyOf_59c91_31 : decode cJ7_copyOf_59c91 31 = .ok (.aload_n 2, 1) := by decide +kernel
theorem dJ7_copyOf_59c91_32 : decode cJ7_copyOf_59c91 32 = .ok (.areturn, 1) := by decide +kernel
/-- java/util/Arrays.copyOf([II)[I -/
def wJ7_copyOf_59c91 (mc ms : Nat) (n_a1 : Nat) (a1 : Nat → Int32) (a2 : Int32) (Q : (Nat) → (Nat → Int32) → Prop) : Prop :=
  ((¬ a2 = (nI n_a1) → (¬ a2 < 0 ∧ a2.toNatClampNeg * 8 ≤ 536870912 ∧ (0 + 1 ≤ mc ∧ 0 + a2.toNatClampNeg ≤ ms) ∧ ∀ z_1 : Nat → Int32, z_1 = (fun _ => 0) → ∀ m_1 : Int32, m_1 = (if a2 < (nI n_a1) then a2 else (nI n_a1)) → ¬ m_1 < 0 ∧ (0 : Int32).toNatClampNeg + m_1.toNatClampNeg ≤ n_a1 ∧ (0 : Int32).toNatClampNeg + m_1.toNatClampNeg ≤ a2.toNatClampNeg ∧ ∀ z_2 : Nat → Int32, z_2 = va_cpy a1 z_1 0 0 (m_1.toNatClampNeg) → (Q (a2.toNatClampNeg) z_2))) ∧ (a2 = (nI n_a1) → False))
set_option maxHeartbeats 4000000 in
set_option maxRecDepth 100000 in
theorem mJ7_copyOf_59c91 (l : Launch) (D : va_G) (Y : Nat → ClassId) (mc ms : Nat) (q_a1 : Nat) (n_a1 : Nat) (a1 : Nat → Int32) (a2 : Int32) (Q : (Nat) → (Nat → Int32) → Prop) (h : wJ7_copyOf_59c91 mc ms n_a1 a1 a2 Q) : gM l D Y yJ7_copyOf_59c91 cJ7_copyOf_59c91 3 (some (.array .int)) 1 60 mc ms [.ref q_a1, .int a2] [aI Y q_a1 n_a1 a1] (fun v w => ∃ q_ret : Nat, ∃ n_ret : Nat, ∃ c_ret : Nat → Int32, v = some (.ref q_ret) ∧ w = [aI Y q_a1 n_a1 a1, aI Y q_ret n_ret c_ret] ∧ Q n_ret c_ret) := by
  refine gM_of (own := RJ7) (by decide +kernel) rfl (Nat.le_of_ble_eq_true rfl) rfl (fun E C hR => ?_)
  unfold wJ7_copyOf_59c91 at h
  refine g_iload_n C dJ7_copyOf_59c91_0 1 rfl ?_
  refine g_aload_n C dJ7_copyOf_59c91_1 0 rfl ?_
  refine g_alen (v := nI n_a1) C 0 0 rfl rfl rfl dJ7_copyOf_59c91_2 ?_
  refine g_icmp_ne (tgt := 14) C dJ7_copyOf_59c91_3 (by decide) (fun c_1 => ?_) (fun c_1 => ?_)
  · replace h := h.1 c_1
    refine g_iload_n C dJ7_copyOf_59c91_14 1 rfl ?_
    obtain ⟨hc_1, h⟩ := h
    obtain ⟨hc_2, h⟩ := h
    obtain ⟨hc_3, h⟩ := h
    refine g_newI C dJ7_copyOf_59c91_15 hc_1 rfl hc_2 hc_3 (fun q_1 z_1 ez_1 => gG.eqw (ws' := [aI Y q_a1 n_a1 a1, aI Y q_1 (a2.toNatClampNeg) z_1]) rfl ?_)
    replace h := h z_1 ez_1
    refine g_astore_n (lv' := [(2, .ref q_1), (0, .ref q_a1), (1, .int a2)]) C dJ7_copyOf_59c91_17 (by decide) rfl ?_
    refine g_aload_n C dJ7_copyOf_59c91_18 1 rfl ?_
    refine g_iconst (v := 0) C dJ7_copyOf_59c91_19 rfl ?_
    refine g_aload_n C dJ7_copyOf_59c91_20 0 rfl ?_
    refine g_iconst (v := 0) C dJ7_copyOf_59c91_21 rfl ?_
    refine g_aload_n C dJ7_copyOf_59c91_22 1 rfl ?_
    refine g_alen (v := nI n_a1) C 0 0 rfl rfl rfl dJ7_copyOf_59c91_23 ?_
    refine g_iload_n C dJ7_copyOf_59c91_24 2 rfl ?_
    refine g_mmin C wM_J7_304 dJ7_copyOf_59c91_25 ⟨Nat.le_of_ble_eq_true rfl, Nat.le_of_ble_eq_true rfl⟩ hc_3 ?_
    refine g_topi (fun m_1 em_1 => ?_)
    replace h := h m_1 em_1
    obtain ⟨hc_4, h⟩ := h
    obtain ⟨hc_5, h⟩ := h
    obtain ⟨hc_6, h⟩ := h
    refine g_copyI C wM_J7_150 dJ7_copyOf_59c91_28 0 1 rfl rfl (by decide) (by decide) hc_4 hc_5 hc_6 ⟨Nat.le_of_ble_eq_true rfl, Nat.le_of_ble_eq_true rfl⟩ (fun z_2 ez_2 => gG.eqw (ws' := [aI Y q_a1 n_a1 a1, aI Y q_1 (a2.toNatClampNeg) z_2]) rfl ?_)
    replace h := h z_2 ez_2
    refine g_aload_n C dJ7_copyOf_59c91_31 0 rfl ?_
    exact g_aret C hR (by first | exact Or.inl ⟨_, rfl⟩ | exact Or.inr ⟨_, rfl⟩) (show 0 + 1 ≤ mc ∧ 0 + a2.toNatClampNeg ≤ ms from hc_3).1 (show 0 + 1 ≤ mc ∧ 0 + a2.toNatClampNeg ≤ ms from hc_3).2 dJ7_copyOf_59c91_32 ⟨q_1, a2.toNatClampNeg, z_2, rfl, rfl, h⟩
  · replace h := h.2 c_1
    exact h.elim
theorem dX0_init_0 : decode cX0_init 0 = .ok (.aload_n 0, 1) := by decide +kernel
theorem dX0_init_1 : decode cX0_init 1 = .ok (.invokespecial 1, 3) := by decide +kernel
theorem dX0_init_4 : decode cX0_init 4 = .ok (.aload_n 0, 1) := by decide +kernel
theorem dX0_init_5 : decode cX0_init 5 = .ok (.bipush 20, 2) := by decide +kernel
theorem dX0_init_7 : decode cX0_init 7 = .ok (.newarray .int, 2) := by decide +kernel
theorem dX0_init_9 : decode cX0_init 9 = .ok (.putfield 9, 3) := by decide +kernel
theorem dX0_init_12 : decode cX0_init 12 = .ok (.aload_n 0, 1) := by decide +kernel
theorem dX0_init_13 : decode cX0_init 13 = .ok (.bipush 20, 2) := by decide +kernel
theorem dX0_init_15 : decode cX0_init 15 = .ok (.newarray .int, 2) := by decide +kernel
theorem dX0_init_17 : decode cX0_init 17 = .ok (.putfield 13, 3) := by decide +kernel
theorem dX0_init_20 : decode cX0_init 20 = .ok (.aload_n 0, 1) := by decide +kernel
theorem dX0_init_21 : decode cX0_init 21 = .ok (.bipush 20, 2) := by decide +kernel
theorem dX0_init_23 : decode cX0_init 23 = .ok (.newarray .int, 2) := by decide +kernel
theorem dX0_init_25 : decode cX0_init 25 = .ok (.putfield 16, 3) := by decide +kernel
theorem dX0_init_28 : decode cX0_init 28 = .ok (.aload_n 0, 1) := by decide +kernel
theorem dX0_init_29 : decode cX0_init 29 = .ok (.bipush 20, 2) := by decide +kernel
theorem dX0_init_31 : decode cX0_init 31 = .ok (.newarray .int, 2) := by decide +kernel
theorem dX0_init_33 : decode cX0_init 33 = .ok (.putfield 19, 3) := by decide +kernel
theorem dX0_init_36 : decode cX0_init 36 = .ok (.return_, 1) := by decide +kernel
/-- QuotientSums$Changes.<init>()V -/
def wX0_init   (Q : (Int32) → (Int32) → (Nat → Int32) → (Nat → Int32) → (Nat → Int32) → (Nat → Int32) → Prop) : Prop :=
  (∀ z_1 : Nat → Int32, z_1 = (fun _ => 0) → ∀ z_2 : Nat → Int32, z_2 = (fun _ => 0) → ∀ z_3 : Nat → Int32, z_3 = (fun _ => 0) → ∀ z_4 : Nat → Int32, z_4 = (fun _ => 0) → (Q 0 0 z_1 z_2 z_3 z_4))
set_option maxHeartbeats 4000000 in
set_option maxRecDepth 100000 in
theorem mX0_init (l : Launch) (D : va_G) (Y : Nat → ClassId) (h0 : Nat)   (Q : (Int32) → (Int32) → (Nat → Int32) → (Nat → Int32) → (Nat → Int32) → (Nat → Int32) → Prop) (h : wX0_init  Q) : gM l D Y yX0_init cX0_init 1 none 1 20 4 80 [.ref h0] [oX0 h0 0 0 (.null) (.null) (.null) (.null)] (fun v w => ∃ size' : Int32, ∃ top' : Int32, ∃ q_kinds : Nat, ∃ q_cells : Nat, ∃ q_ones : Nat, ∃ q_others : Nat, ∃ kinds' : Nat → Int32, ∃ cells' : Nat → Int32, ∃ ones' : Nat → Int32, ∃ others' : Nat → Int32, v = none ∧ w = [oX0 h0 size' top' (.ref q_kinds) (.ref q_cells) (.ref q_ones) (.ref q_others), aI Y q_kinds 20 kinds', aI Y q_cells 20 cells', aI Y q_ones 20 ones', aI Y q_others 20 others'] ∧ Q size' top' kinds' cells' ones' others') := by
  refine gM_ofI (own := RX0) (by decide +kernel) rfl rfl (Nat.le_of_ble_eq_true rfl) rfl (fun E C hR hin => ?_)
  unfold wX0_init at h
  refine g_aload_n C dX0_init_0 0 rfl ?_
  refine g_objInit C wM_X0_1 dX0_init_1 (Nat.le_of_ble_eq_true rfl) (Nat.le_of_ble_eq_true rfl) ?_
  refine g_aload_n C dX0_init_4 0 rfl ?_
  refine g_bipush (v := 20) C dX0_init_5 rfl ?_
  refine g_newI C dX0_init_7 (by decide) rfl (Nat.le_of_ble_eq_true rfl) ⟨Nat.le_of_ble_eq_true rfl, Nat.le_of_ble_eq_true rfl⟩ (fun q_1 z_1 ez_1 => gG.eqw (ws' := [oX0 h0 0 0 (.null) (.null) (.null) (.null), aI Y q_1 20 z_1]) rfl ?_)
  replace h := h z_1 ez_1
  refine g_putF C inX0 tyX0 tyX0_ok nmX0 0 rfl rfl 2 (by decide) wF_X0_9 rfl hin rfl rfl rfl (Nat.le_of_ble_eq_true rfl) (ws' := [oX0 h0 0 0 (.ref q_1) (.null) (.null) (.null), aI Y q_1 20 z_1]) rfl dX0_init_9 ?_
  refine g_aload_n C dX0_init_12 0 rfl ?_
  refine g_bipush (v := 20) C dX0_init_13 rfl ?_
  refine g_newI C dX0_init_15 (by decide) rfl (Nat.le_of_ble_eq_true rfl) ⟨Nat.le_of_ble_eq_true rfl, Nat.le_of_ble_eq_true rfl⟩ (fun q_2 z_2 ez_2 => gG.eqw (ws' := [oX0 h0 0 0 (.ref q_1) (.null) (.null) (.null), aI Y q_1 20 z_1, aI Y q_2 20 z_2]) rfl ?_)
  replace h := h z_2 ez_2
  refine g_putF C inX0 tyX0 tyX0_ok nmX0 0 rfl rfl 3 (by decide) wF_X0_13 rfl hin rfl rfl rfl (Nat.le_of_ble_eq_true rfl) (ws' := [oX0 h0 0 0 (.ref q_1) (.ref q_2) (.null) (.null), aI Y q_1 20 z_1, aI Y q_2 20 z_2]) rfl dX0_init_17 ?_
  refine g_aload_n C dX0_init_20 0 rfl ?_
  refine g_bipush (v := 20) C dX0_init_21 rfl ?_
  refine g_newI C dX0_init_23 (by decide) rfl (Nat.le_of_ble_eq_true rfl) ⟨Nat.le_of_ble_eq_true rfl, Nat.le_of_ble_eq_true rfl⟩ (fun q_3 z_3 ez_3 => gG.eqw (ws' := [oX0 h0 0 0 (.ref q_1) (.ref q_2) (.null) (.null), aI Y q_1 20 z_1, aI Y q_2 20 z_2, aI Y q_3 20 z_3]) rfl ?_)
  replace h := h z_3 ez_3
  refine g_putF C inX0 tyX0 tyX0_ok nmX0 0 rfl rfl 4 (by decide) wF_X0_16 rfl hin rfl rfl rfl (Nat.le_of_ble_eq_true rfl) (ws' := [oX0 h0 0 0 (.ref q_1) (.ref q_2) (.ref q_3) (.null), aI Y q_1 20 z_1, aI Y q_2 20 z_2, aI Y q_3 20 z_3]) rfl dX0_init_25 ?_
  refine g_aload_n C dX0_init_28 0 rfl ?_
  refine g_bipush (v := 20) C dX0_init_29 rfl ?_
  refine g_newI C dX0_init_31 (by decide) rfl (Nat.le_of_ble_eq_true rfl) ⟨Nat.le_of_ble_eq_true rfl, Nat.le_of_ble_eq_true rfl⟩ (fun q_4 z_4 ez_4 => gG.eqw (ws' := [oX0 h0 0 0 (.ref q_1) (.ref q_2) (.ref q_3) (.null), aI Y q_1 20 z_1, aI Y q_2 20 z_2, aI Y q_3 20 z_3, aI Y q_4 20 z_4]) rfl ?_)
  replace h := h z_4 ez_4
  refine g_putF C inX0 tyX0 tyX0_ok nmX0 0 rfl rfl 5 (by decide) wF_X0_19 rfl hin rfl rfl rfl (Nat.le_of_ble_eq_true rfl) (ws' := [oX0 h0 0 0 (.ref q_1) (.ref q_2) (.ref q_3) (.ref q_4), aI Y q_1 20 z_1, aI Y q_2 20 z_2, aI Y q_3 20 z_3, aI Y q_4 20 z_4]) rfl dX0_init_33 ?_
  exact g_vret C hR (Nat.le_of_ble_eq_true rfl) (Nat.le_of_ble_eq_true rfl) dX0_init_36 ⟨0, 0, q_1, q_2, q_3, q_4, z_1, z_2, z_3, z_4, rfl, rfl, h⟩
theorem dX0_forget_0 : decode cX0_forget 0 = .ok (.aload_n 0, 1) := by decide +kernel
theorem dX0_forget_1 : decode cX0_forget 1 = .ok (.iconst 0, 1) := by decide +kernel
theorem dX0_forget_2 : decode cX0_forget 2 = .ok (.putfield 22, 3) := by decide +kernel
theorem dX0_forget_5 : decode cX0_forget 5 = .ok (.return_, 1) := by decide +kernel
/-- QuotientSums$Changes.forget()V -/
def wX0_forget (size : Int32) (top : Int32)  (Q : (Int32) → Prop) : Prop :=
  (Q 0)
set_option maxHeartbeats 4000000 in
set_option maxRecDepth 100000 in
theorem mX0_forget (l : Launch) (D : va_G) (Y : Nat → ClassId) (h0 : Nat) (size : Int32) (top : Int32) (v_kinds : Value) (v_cells : Value) (v_ones : Value) (v_others : Value)  (Q : (Int32) → Prop) (h : wX0_forget size top Q) : gM l D Y yX0_forget cX0_forget 1 none 0 0 0 0 [.ref h0] [oX0 h0 size top (v_kinds) (v_cells) (v_ones) (v_others)] (fun v w => ∃ size' : Int32, v = none ∧ w = [oX0 h0 size' top (v_kinds) (v_cells) (v_ones) (v_others)] ∧ Q size') := by
  refine gM_of (own := RX0) (by decide +kernel) rfl (Nat.le_of_ble_eq_true rfl) rfl (fun E C hR => ?_)
  unfold wX0_forget at h
  refine g_aload_n C dX0_forget_0 0 rfl ?_
  refine g_iconst (v := 0) C dX0_forget_1 rfl ?_
  refine g_put C inX0 tyX0 tyX0_ok nmX0 0 rfl rfl 0 (by decide) wF_X0_22 rfl rfl rfl (Nat.le_of_ble_eq_true rfl) (ws' := [oX0 h0 0 top (v_kinds) (v_cells) (v_ones) (v_others)]) rfl dX0_forget_2 ?_
  exact g_vret C hR (Nat.le_of_ble_eq_true rfl) (Nat.le_of_ble_eq_true rfl) dX0_forget_5 ⟨0, rfl, rfl, h⟩
theorem dX0_push_0 : decode cX0_push 0 = .ok (.aload_n 0, 1) := by decide +kernel
theorem dX0_push_1 : decode cX0_push 1 = .ok (.getfield 9, 3) := by decide +kernel
theorem dX0_push_4 : decode cX0_push 4 = .ok (.aload_n 0, 1) := by decide +kernel
theorem dX0_push_5 : decode cX0_push 5 = .ok (.getfield 26, 3) := by decide +kernel
theorem dX0_push_8 : decode cX0_push 8 = .ok (.iload_n 1, 1) := by decide +kernel
theorem dX0_push_9 : decode cX0_push 9 = .ok (.iastore, 1) := by decide +kernel
theorem dX0_push_10 : decode cX0_push 10 = .ok (.aload_n 0, 1) := by decide +kernel
theorem dX0_push_11 : decode cX0_push 11 = .ok (.getfield 13, 3) := by decide +kernel
theorem dX0_push_14 : decode cX0_push 14 = .ok (.aload_n 0, 1) := by decide +kernel
theorem dX0_push_15 : decode cX0_push 15 = .ok (.getfield 26, 3) := by decide +kernel
theorem dX0_push_18 : decode cX0_push 18 = .ok (.iload_n 2, 1) := by decide +kernel
theorem dX0_push_19 : decode cX0_push 19 = .ok (.iastore, 1) := by decide +kernel
theorem dX0_push_20 : decode cX0_push 20 = .ok (.aload_n 0, 1) := by decide +kernel
theorem dX0_push_21 : decode cX0_push 21 = .ok (.getfield 16, 3) := by decide +kernel
theorem dX0_push_24 : decode cX0_push 24 = .ok (.aload_n 0, 1) := by decide +kernel
theorem dX0_push_25 : decode cX0_push 25 = .ok (.getfield 26, 3) := by decide +kernel
theorem dX0_push_28 : decode cX0_push 28 = .ok (.iload_n 3, 1) := by decide +kernel
theorem dX0_push_29 : decode cX0_push 29 = .ok (.iastore, 1) := by decide +kernel
theorem dX0_push_30 : decode cX0_push 30 = .ok (.aload_n 0, 1) := by decide +kernel
theorem dX0_push_31 : decode cX0_push 31 = .ok (.getfield 19, 3) := by decide +kernel
theorem dX0_push_34 : decode cX0_push 34 = .ok (.aload_n 0, 1) := by decide +kernel
theorem dX0_push_35 : decode cX0_push 35 = .ok (.getfield 26, 3) := by decide +kernel
theorem dX0_push_38 : decode cX0_push 38 = .ok (.iload 4, 2) := by decide +kernel
theorem dX0_push_40 : decode cX0_push 40 = .ok (.iastore, 1) := by decide +kernel
theorem dX0_push_41 : decode cX0_push 41 = .ok (.aload_n 0, 1) := by decide +kernel
theorem dX0_push_42 : decode cX0_push 42 = .ok (.aload_n 0, 1) := by decide +kernel
theorem dX0_push_43 : decode cX0_push 43 = .ok (.getfield 26, 3) := by decide +kernel
theorem dX0_push_46 : decode cX0_push 46 = .ok (.iconst 1, 1) := by decide +kernel
theorem dX0_push_47 : decode cX0_push 47 = .ok (.iadd, 1) := by decide +kernel
theorem dX0_push_48 : decode cX0_push 48 = .ok (.bipush 20, 2) := by decide +kernel
theorem dX0_push_50 : decode cX0_push 50 = .ok (.irem, 1) := by decide +kernel
theorem dX0_push_51 : decode cX0_push 51 = .ok (.putfield 26, 3) := by decide +kernel
theorem dX0_push_54 : decode cX0_push 54 = .ok (.aload_n 0, 1) := by decide +kernel
theorem dX0_push_55 : decode cX0_push 55 = .ok (.aload_n 0, 1) := by decide +kernel
theorem dX0_push_56 : decode cX0_push 56 = .ok (.getfield 22, 3) := by decide +kernel
theorem dX0_push_59 : decode cX0_push 59 = .ok (.iconst 1, 1) := by decide +kernel
theorem dX0_push_60 : decode cX0_push 60 = .ok (.iadd, 1) := by decide +kernel
theorem dX0_push_61 : decode cX0_push 61 = .ok (.bipush 20, 2) := by decide +kernel
theorem dX0_push_63 : decode cX0_push 63 = .ok (.invokestatic 29, 3) := by decide +kernel
theorem dX0_push_66 : decode cX0_push 66 = .ok (.putfield 22, 3) := by decide +kernel
theorem dX0_push_69 : decode cX0_push 69 = .ok (.return_, 1) := by decide +kernel
/-- QuotientSums$Changes.push(IIII)V -/
def wX0_push (size : Int32) (top : Int32) (kinds : Nat → Int32) (cells : Nat → Int32) (ones : Nat → Int32) (others : Nat → Int32) (a1 : Int32) (a2 : Int32) (a3 : Int32) (a4 : Int32) (Q : (Int32) → (Int32) → (Nat → Int32) → (Nat → Int32) → (Nat → Int32) → (Nat → Int32) → Prop) : Prop :=
  (vp_in top 20 ∧ ∀ kinds_1 : Nat → Int32, kinds_1 = upd kinds top.toNatClampNeg a1 → ∀ cells_1 : Nat → Int32, cells_1 = upd cells top.toNatClampNeg a2 → ∀ ones_1 : Nat → Int32, ones_1 = upd ones top.toNatClampNeg a3 → ∀ others_1 : Nat → Int32, others_1 = upd others top.toNatClampNeg a4 → ∀ top_1 : Int32, top_1 = (top + 1) - (top + 1) / 20 * 20 → ∀ m_1 : Int32, m_1 = (if (20 : Int32) < (size + 1) then 20 else (size + 1)) → (Q m_1 top_1 kinds_1 cells_1 ones_1 others_1))
set_option maxHeartbeats 4000000 in
set_option maxRecDepth 100000 in
theorem mX0_push (l : Launch) (D : va_G) (Y : Nat → ClassId) (h0 : Nat) (size : Int32) (top : Int32) (q_kinds : Nat) (q_cells : Nat) (q_ones : Nat) (q_others : Nat) (kinds : Nat → Int32) (cells : Nat → Int32) (ones : Nat → Int32) (others : Nat → Int32) (a1 : Int32) (a2 : Int32) (a3 : Int32) (a4 : Int32) (Q : (Int32) → (Int32) → (Nat → Int32) → (Nat → Int32) → (Nat → Int32) → (Nat → Int32) → Prop) (h : wX0_push size top kinds cells ones others a1 a2 a3 a4 Q) : gM l D Y yX0_push cX0_push 5 none 1 21 0 0 [.ref h0, .int a1, .int a2, .int a3, .int a4] [oX0 h0 size top (.ref q_kinds) (.ref q_cells) (.ref q_ones) (.ref q_others), aI Y q_kinds 20 kinds, aI Y q_cells 20 cells, aI Y q_ones 20 ones, aI Y q_others 20 others] (fun v w => ∃ size' : Int32, ∃ top' : Int32, ∃ kinds' : Nat → Int32, ∃ cells' : Nat → Int32, ∃ ones' : Nat → Int32, ∃ others' : Nat → Int32, v = none ∧ w = [oX0 h0 size' top' (.ref q_kinds) (.ref q_cells) (.ref q_ones) (.ref q_others), aI Y q_kinds 20 kinds', aI Y q_cells 20 cells', aI Y q_ones 20 ones', aI Y q_others 20 others'] ∧ Q size' top' kinds' cells' ones' others') := by
  refine gM_of (own := RX0) (by decide +kernel) rfl (Nat.le_of_ble_eq_true rfl) rfl (fun E C hR => ?_)
  unfold wX0_push at h
  refine g_aload_n C dX0_push_0 0 rfl ?_
  refine g_get C inX0 0 rfl rfl 2 (by decide) wF_X0_9 rfl dX0_push_1 ?_
  refine g_aload_n C dX0_push_4 0 rfl ?_
  refine g_get C inX0 0 rfl rfl 1 (by decide) wF_X0_26 rfl dX0_push_5 ?_
  refine g_iload_n C dX0_push_8 1 rfl ?_
  obtain ⟨hc_1, h⟩ := h
  refine g_iast C 1 rfl hc_1 dX0_push_9 (fun kinds_1 ekinds_1 => gG.eqw (ws' := [oX0 h0 size top (.ref q_kinds) (.ref q_cells) (.ref q_ones) (.ref q_others), aI Y q_kinds 20 kinds_1, aI Y q_cells 20 cells, aI Y q_ones 20 ones, aI Y q_others 20 others]) rfl ?_)
  replace h := h kinds_1 ekinds_1
  refine g_aload_n C dX0_push_10 0 rfl ?_
  refine g_get C inX0 0 rfl rfl 3 (by decide) wF_X0_13 rfl dX0_push_11 ?_
  refine g_aload_n C dX0_push_14 0 rfl ?_
  refine g_get C inX0 0 rfl rfl 1 (by decide) wF_X0_26 rfl dX0_push_15 ?_
  refine g_iload_n C dX0_push_18 2 rfl ?_
  refine g_iast C 2 rfl hc_1 dX0_push_19 (fun cells_1 ecells_1 => gG.eqw (ws' := [oX0 h0 size top (.ref q_kinds) (.ref q_cells) (.ref q_ones) (.ref q_others), aI Y q_kinds 20 kinds_1, aI Y q_cells 20 cells_1, aI Y q_ones 20 ones, aI Y q_others 20 others]) rfl ?_)
  replace h := h cells_1 ecells_1
  refine g_aload_n C dX0_push_20 0 rfl ?_
  refine g_get C inX0 0 rfl rfl 4 (by decide) wF_X0_16 rfl dX0_push_21 ?_
  refine g_aload_n C dX0_push_24 0 rfl ?_
  refine g_get C inX0 0 rfl rfl 1 (by decide) wF_X0_26 rfl dX0_push_25 ?_
  refine g_iload_n C dX0_push_28 3 rfl ?_
  refine g_iast C 3 rfl hc_1 dX0_push_29 (fun ones_1 eones_1 => gG.eqw (ws' := [oX0 h0 size top (.ref q_kinds) (.ref q_cells) (.ref q_ones) (.ref q_others), aI Y q_kinds 20 kinds_1, aI Y q_cells 20 cells_1, aI Y q_ones 20 ones_1, aI Y q_others 20 others]) rfl ?_)
  replace h := h ones_1 eones_1
  refine g_aload_n C dX0_push_30 0 rfl ?_
  refine g_get C inX0 0 rfl rfl 5 (by decide) wF_X0_19 rfl dX0_push_31 ?_
  refine g_aload_n C dX0_push_34 0 rfl ?_
  refine g_get C inX0 0 rfl rfl 1 (by decide) wF_X0_26 rfl dX0_push_35 ?_
  refine g_iload C dX0_push_38 4 rfl ?_
  refine g_iast C 4 rfl hc_1 dX0_push_40 (fun others_1 eothers_1 => gG.eqw (ws' := [oX0 h0 size top (.ref q_kinds) (.ref q_cells) (.ref q_ones) (.ref q_others), aI Y q_kinds 20 kinds_1, aI Y q_cells 20 cells_1, aI Y q_ones 20 ones_1, aI Y q_others 20 others_1]) rfl ?_)
  replace h := h others_1 eothers_1
  refine g_aload_n C dX0_push_41 0 rfl ?_
  refine g_aload_n C dX0_push_42 0 rfl ?_
  refine g_get C inX0 0 rfl rfl 1 (by decide) wF_X0_26 rfl dX0_push_43 ?_
  refine g_iconst (v := 1) C dX0_push_46 rfl ?_
  refine g_iadd C dX0_push_47 ?_
  refine g_bipush (v := 20) C dX0_push_48 rfl ?_
  refine g_irem C dX0_push_50 (by decide) ?_
  refine g_topi (fun top_1 etop_1 => ?_)
  replace h := h top_1 etop_1
  refine g_put C inX0 tyX0 tyX0_ok nmX0 0 rfl rfl 1 (by decide) wF_X0_26 rfl rfl rfl (Nat.le_of_ble_eq_true rfl) (ws' := [oX0 h0 size top_1 (.ref q_kinds) (.ref q_cells) (.ref q_ones) (.ref q_others), aI Y q_kinds 20 kinds_1, aI Y q_cells 20 cells_1, aI Y q_ones 20 ones_1, aI Y q_others 20 others_1]) rfl dX0_push_51 ?_
  refine g_aload_n C dX0_push_54 0 rfl ?_
  refine g_aload_n C dX0_push_55 0 rfl ?_
  refine g_get C inX0 0 rfl rfl 0 (by decide) wF_X0_22 rfl dX0_push_56 ?_
  refine g_iconst (v := 1) C dX0_push_59 rfl ?_
  refine g_iadd C dX0_push_60 ?_
  refine g_bipush (v := 20) C dX0_push_61 rfl ?_
  refine g_mmin C wM_X0_29 dX0_push_63 ⟨Nat.le_of_ble_eq_true rfl, Nat.le_of_ble_eq_true rfl⟩ ⟨Nat.le_of_ble_eq_true rfl, Nat.le_of_ble_eq_true rfl⟩ ?_
  refine g_topi (fun m_1 em_1 => ?_)
  replace h := h m_1 em_1
  refine g_put C inX0 tyX0 tyX0_ok nmX0 0 rfl rfl 0 (by decide) wF_X0_22 rfl rfl rfl (Nat.le_of_ble_eq_true rfl) (ws' := [oX0 h0 m_1 top_1 (.ref q_kinds) (.ref q_cells) (.ref q_ones) (.ref q_others), aI Y q_kinds 20 kinds_1, aI Y q_cells 20 cells_1, aI Y q_ones 20 ones_1, aI Y q_others 20 others_1]) rfl dX0_push_66 ?_
  exact g_vret C hR (Nat.le_of_ble_eq_true rfl) (Nat.le_of_ble_eq_true rfl) dX0_push_69 ⟨m_1, top_1, kinds_1, cells_1, ones_1, others_1, rfl, rfl, h⟩
theorem dX0_drop_0 : decode cX0_drop 0 = .ok (.aload_n 0, 1) := by decide +kernel
theorem dX0_drop_1 : decode cX0_drop 1 = .ok (.getfield 22, 3) := by decide +kernel
theorem dX0_drop_4 : decode cX0_drop 4 = .ok (.iconst 1, 1) := by decide +kernel
theorem dX0_drop_5 : decode cX0_drop 5 = .ok (.if_icmp .ge 5, 3) := by decide +kernel
theorem dX0_drop_8 : decode cX0_drop 8 = .ok (.iconst 0, 1) := by decide +kernel
theorem dX0_drop_9 : decode cX0_drop 9 = .ok (.ireturn, 1) := by decide +kernel
theorem dX0_drop_10 : decode cX0_drop 10 = .ok (.aload_n 0, 1) := by decide +kernel
theorem dX0_drop_11 : decode cX0_drop 11 = .ok (.dup, 1) := by decide +kernel
theorem dX0_drop_12 : decode cX0_drop 12 = .ok (.getfield 22, 3) := by decide +kernel
theorem dX0_drop_15 : decode cX0_drop 15 = .ok (.iconst 1, 1) := by decide +kernel
theorem dX0_drop_16 : decode cX0_drop 16 = .ok (.isub, 1) := by decide +kernel
theorem dX0_drop_17 : decode cX0_drop 17 = .ok (.putfield 22, 3) := by decide +kernel
theorem dX0_drop_20 : decode cX0_drop 20 = .ok (.aload_n 0, 1) := by decide +kernel
theorem dX0_drop_21 : decode cX0_drop 21 = .ok (.aload_n 0, 1) := by decide +kernel
theorem dX0_drop_22 : decode cX0_drop 22 = .ok (.getfield 26, 3) := by decide +kernel
theorem dX0_drop_25 : decode cX0_drop 25 = .ok (.bipush 20, 2) := by decide +kernel
theorem dX0_drop_27 : decode cX0_drop 27 = .ok (.iadd, 1) := by decide +kernel
theorem dX0_drop_28 : decode cX0_drop 28 = .ok (.iconst 1, 1) := by decide +kernel
theorem dX0_drop_29 : decode cX0_drop 29 = .ok (.isub, 1) := by decide +kernel
theorem dX0_drop_30 : decode cX0_drop 30 = .ok (.bipush 20, 2) := by decide +kernel
theorem dX0_drop_32 : decode cX0_drop 32 = .ok (.irem, 1) := by decide +kernel
theorem dX0_drop_33 : decode cX0_drop 33 = .ok (.putfield 26, 3) := by decide +kernel
theorem dX0_drop_36 : decode cX0_drop 36 = .ok (.iconst 1, 1) := by decide +kernel
theorem dX0_drop_37 : decode cX0_drop 37 = .ok (.ireturn, 1) := by decide +kernel
/-- QuotientSums$Changes.drop()Z -/
def wX0_drop (size : Int32) (top : Int32)  (Q : (Int32) → (Int32) → (Int32) → Prop) : Prop :=
  ((1 ≤ size → (∀ size_1 : Int32, size_1 = size - 1 → ∀ top_1 : Int32, top_1 = ((top + 20) - 1) - ((top + 20) - 1) / 20 * 20 → (Q 1 size_1 top_1))) ∧ (¬ 1 ≤ size → (Q 0 size top)))
set_option maxHeartbeats 4000000 in
set_option maxRecDepth 100000 in
theorem mX0_drop (l : Launch) (D : va_G) (Y : Nat → ClassId) (h0 : Nat) (size : Int32) (top : Int32) (v_kinds : Value) (v_cells : Value) (v_ones : Value) (v_others : Value)  (Q : (Int32) → (Int32) → (Int32) → Prop) (h : wX0_drop size top Q) : gM l D Y yX0_drop cX0_drop 1 (some .boolean) 0 0 0 0 [.ref h0] [oX0 h0 size top (v_kinds) (v_cells) (v_ones) (v_others)] (fun v w => ∃ r : Int32, ∃ size' : Int32, ∃ top' : Int32, v = some (.int r) ∧ w = [oX0 h0 size' top' (v_kinds) (v_cells) (v_ones) (v_others)] ∧ Q r size' top') := by
  refine gM_of (own := RX0) (by decide +kernel) rfl (Nat.le_of_ble_eq_true rfl) rfl (fun E C hR => ?_)
  unfold wX0_drop at h
  refine g_aload_n C dX0_drop_0 0 rfl ?_
  refine g_get C inX0 0 rfl rfl 0 (by decide) wF_X0_22 rfl dX0_drop_1 ?_
  refine g_iconst (v := 1) C dX0_drop_4 rfl ?_
  refine g_icmp_ge (tgt := 10) C dX0_drop_5 (by decide) (fun c_1 => ?_) (fun c_1 => ?_)
  · replace h := h.1 c_1
    refine g_aload_n C dX0_drop_10 0 rfl ?_
    refine g_dup C dX0_drop_11 rfl ?_
    refine g_get C inX0 0 rfl rfl 0 (by decide) wF_X0_22 rfl dX0_drop_12 ?_
    refine g_iconst (v := 1) C dX0_drop_15 rfl ?_
    refine g_isub C dX0_drop_16 ?_
    refine g_topi (fun size_1 esize_1 => ?_)
    replace h := h size_1 esize_1
    refine g_put C inX0 tyX0 tyX0_ok nmX0 0 rfl rfl 0 (by decide) wF_X0_22 rfl rfl rfl (Nat.le_of_ble_eq_true rfl) (ws' := [oX0 h0 size_1 top (v_kinds) (v_cells) (v_ones) (v_others)]) rfl dX0_drop_17 ?_
    refine g_aload_n C dX0_drop_20 0 rfl ?_
    refine g_aload_n C dX0_drop_21 0 rfl ?_
    refine g_get C inX0 0 rfl rfl 1 (by decide) wF_X0_26 rfl dX0_drop_22 ?_
    refine g_bipush (v := 20) C dX0_drop_25 rfl ?_
    refine g_iadd C dX0_drop_27 ?_
    refine g_iconst (v := 1) C dX0_drop_28 rfl ?_
    refine g_isub C dX0_drop_29 ?_
    refine g_bipush (v := 20) C dX0_drop_30 rfl ?_
    refine g_irem C dX0_drop_32 (by decide) ?_
    refine g_topi (fun top_1 etop_1 => ?_)
    replace h := h top_1 etop_1
    refine g_put C inX0 tyX0 tyX0_ok nmX0 0 rfl rfl 1 (by decide) wF_X0_26 rfl rfl rfl (Nat.le_of_ble_eq_true rfl) (ws' := [oX0 h0 size_1 top_1 (v_kinds) (v_cells) (v_ones) (v_others)]) rfl dX0_drop_33 ?_
    refine g_iconst (v := 1) C dX0_drop_36 rfl ?_
    exact g_zret C hR (by decide) (Nat.le_of_ble_eq_true rfl) (Nat.le_of_ble_eq_true rfl) dX0_drop_37 ⟨1, size_1, top_1, rfl, rfl, h⟩
  · replace h := h.2 c_1
    refine g_iconst (v := 0) C dX0_drop_8 rfl ?_
    exact g_zret C hR (by decide) (Nat.le_of_ble_eq_true rfl) (Nat.le_of_ble_eq_true rfl) dX0_drop_9 ⟨0, size, top, rfl, rfl, h⟩
theorem dX0_kindDropped_0 : decode cX0_kindDropped 0 = .ok (.aload_n 0, 1) := by decide +kernel
theorem dX0_kindDropped_1 : decode cX0_kindDropped 1 = .ok (.getfield 9, 3) := by decide +kernel
theorem dX0_kindDropped_4 : decode cX0_kindDropped 4 = .ok (.aload_n 0, 1) := by decide +kernel
theorem dX0_kindDropped_5 : decode cX0_kindDropped 5 = .ok (.getfield 26, 3) := by decide +kernel
theorem dX0_kindDropped_8 : decode cX0_kindDropped 8 = .ok (.iaload, 1) := by decide +kernel
theorem dX0_kindDropped_9 : decode cX0_kindDropped 9 = .ok (.ireturn, 1) := by decide +kernel
/-- QuotientSums$Changes.kindDropped()I -/
def wX0_kindDropped (size : Int32) (top : Int32) (kinds : Nat → Int32)  (Q : (Int32) → Prop) : Prop :=
  (vp_in top 20 ∧ (Q (kinds top.toNatClampNeg)))
set_option maxHeartbeats 4000000 in
set_option maxRecDepth 100000 in
theorem mX0_kindDropped (l : Launch) (D : va_G) (Y : Nat → ClassId) (h0 : Nat) (size : Int32) (top : Int32) (q_kinds : Nat) (v_cells : Value) (v_ones : Value) (v_others : Value) (kinds : Nat → Int32)  (Q : (Int32) → Prop) (h : wX0_kindDropped size top kinds Q) : gM l D Y yX0_kindDropped cX0_kindDropped 1 (some .int) 0 0 0 0 [.ref h0] [oX0 h0 size top (.ref q_kinds) (v_cells) (v_ones) (v_others), aI Y q_kinds 20 kinds] (fun v w => ∃ r : Int32, v = some (.int r) ∧ w = [oX0 h0 size top (.ref q_kinds) (v_cells) (v_ones) (v_others), aI Y q_kinds 20 kinds] ∧ Q r) := by
  refine gM_of (own := RX0) (by decide +kernel) rfl (Nat.le_of_ble_eq_true rfl) rfl (fun E C hR => ?_)
  unfold wX0_kindDropped at h
  refine g_aload_n C dX0_kindDropped_0 0 rfl ?_
  refine g_get C inX0 0 rfl rfl 2 (by decide) wF_X0_9 rfl dX0_kindDropped_1 ?_
  refine g_aload_n C dX0_kindDropped_4 0 rfl ?_
  refine g_get C inX0 0 rfl rfl 1 (by decide) wF_X0_26 rfl dX0_kindDropped_5 ?_
  obtain ⟨hc_1, h⟩ := h
  refine g_iald C 1 rfl hc_1 dX0_kindDropped_8 ?_
  exact g_iret C hR (Nat.le_of_ble_eq_true rfl) (Nat.le_of_ble_eq_true rfl) dX0_kindDropped_9 ⟨kinds top.toNatClampNeg, rfl, rfl, h⟩
theorem dX0_cellDropped_0 : decode cX0_cellDropped 0 = .ok (.aload_n 0, 1) := by decide +kernel
theorem dX0_cellDropped_1 : decode cX0_cellDropped 1 = .ok (.getfield 13, 3) := by decide +kernel
theorem dX0_cellDropped_4 : decode cX0_cellDropped 4 = .ok (.aload_n 0, 1) := by decide +kernel
theorem dX0_cellDropped_5 : decode cX0_cellDropped 5 = .ok (.getfield 26, 3) := by decide +kernel
theorem dX0_cellDropped_8 : decode cX0_cellDropped 8 = .ok (.iaload, 1) := by decide +kernel
theorem dX0_cellDropped_9 : decode cX0_cellDropped 9 = .ok (.ireturn, 1) := by decide +kernel
/-- QuotientSums$Changes.cellDropped()I -/
def wX0_cellDropped (size : Int32) (top : Int32) (cells : Nat → Int32)  (Q : (Int32) → Prop) : Prop :=
  (vp_in top 20 ∧ (Q (cells top.toNatClampNeg)))
set_option maxHeartbeats 4000000 in
set_option maxRecDepth 100000 in
theorem mX0_cellDropped (l : Launch) (D : va_G) (Y : Nat → ClassId) (h0 : Nat) (size : Int32) (top : Int32) (v_kinds : Value) (q_cells : Nat) (v_ones : Value) (v_others : Value) (cells : Nat → Int32)  (Q : (Int32) → Prop) (h : wX0_cellDropped size top cells Q) : gM l D Y yX0_cellDropped cX0_cellDropped 1 (some .int) 0 0 0 0 [.ref h0] [oX0 h0 size top (v_kinds) (.ref q_cells) (v_ones) (v_others), aI Y q_cells 20 cells] (fun v w => ∃ r : Int32, v = some (.int r) ∧ w = [oX0 h0 size top (v_kinds) (.ref q_cells) (v_ones) (v_others), aI Y q_cells 20 cells] ∧ Q r) := by
  refine gM_of (own := RX0) (by decide +kernel) rfl (Nat.le_of_ble_eq_true rfl) rfl (fun E C hR => ?_)
  unfold wX0_cellDropped at h
  refine g_aload_n C dX0_cellDropped_0 0 rfl ?_
  refine g_get C inX0 0 rfl rfl 3 (by decide) wF_X0_13 rfl dX0_cellDropped_1 ?_
  refine g_aload_n C dX0_cellDropped_4 0 rfl ?_
  refine g_get C inX0 0 rfl rfl 1 (by decide) wF_X0_26 rfl dX0_cellDropped_5 ?_
  obtain ⟨hc_1, h⟩ := h
  refine g_iald C 1 rfl hc_1 dX0_cellDropped_8 ?_
  exact g_iret C hR (Nat.le_of_ble_eq_true rfl) (Nat.le_of_ble_eq_true rfl) dX0_cellDropped_9 ⟨cells top.toNatClampNeg, rfl, rfl, h⟩
theorem dX0_firstDropped_0 : decode cX0_firstDropped 0 = .ok (.aload_n 0, 1) := by decide +kernel
theorem dX0_firstDropped_1 : decode cX0_firstDropped 1 = .ok (.getfield 16, 3) := by decide +kernel
theorem dX0_firstDropped_4 : decode cX0_firstDropped 4 = .ok (.aload_n 0, 1) := by decide +kernel
theorem dX0_firstDropped_5 : decode cX0_firstDropped 5 = .ok (.getfield 26, 3) := by decide +kernel
theorem dX0_firstDropped_8 : decode cX0_firstDropped 8 = .ok (.iaload, 1) := by decide +kernel
theorem dX0_firstDropped_9 : decode cX0_firstDropped 9 = .ok (.ireturn, 1) := by decide +kernel
/-- QuotientSums$Changes.firstDropped()I -/
def wX0_firstDropped (size : Int32) (top : Int32) (ones : Nat → Int32)  (Q : (Int32) → Prop) : Prop :=
  (vp_in top 20 ∧ (Q (ones top.toNatClampNeg)))
set_option maxHeartbeats 4000000 in
set_option maxRecDepth 100000 in
theorem mX0_firstDropped (l : Launch) (D : va_G) (Y : Nat → ClassId) (h0 : Nat) (size : Int32) (top : Int32) (v_kinds : Value) (v_cells : Value) (q_ones : Nat) (v_others : Value) (ones : Nat → Int32)  (Q : (Int32) → Prop) (h : wX0_firstDropped size top ones Q) : gM l D Y yX0_firstDropped cX0_firstDropped 1 (some .int) 0 0 0 0 [.ref h0] [oX0 h0 size top (v_kinds) (v_cells) (.ref q_ones) (v_others), aI Y q_ones 20 ones] (fun v w => ∃ r : Int32, v = some (.int r) ∧ w = [oX0 h0 size top (v_kinds) (v_cells) (.ref q_ones) (v_others), aI Y q_ones 20 ones] ∧ Q r) := by
  refine gM_of (own := RX0) (by decide +kernel) rfl (Nat.le_of_ble_eq_true rfl) rfl (fun E C hR => ?_)
  unfold wX0_firstDropped at h
  refine g_aload_n C dX0_firstDropped_0 0 rfl ?_
  refine g_get C inX0 0 rfl rfl 4 (by decide) wF_X0_16 rfl dX0_firstDropped_1 ?_
  refine g_aload_n C dX0_firstDropped_4 0 rfl ?_
  refine g_get C inX0 0 rfl rfl 1 (by decide) wF_X0_26 rfl dX0_firstDropped_5 ?_
  obtain ⟨hc_1, h⟩ := h
  refine g_iald C 1 rfl hc_1 dX0_firstDropped_8 ?_
  exact g_iret C hR (Nat.le_of_ble_eq_true rfl) (Nat.le_of_ble_eq_true rfl) dX0_firstDropped_9 ⟨ones top.toNatClampNeg, rfl, rfl, h⟩
theorem dX0_secondDropped_0 : decode cX0_secondDropped 0 = .ok (.aload_n 0, 1) := by decide +kernel
theorem dX0_secondDropped_1 : decode cX0_secondDropped 1 = .ok (.getfield 19, 3) := by decide +kernel
theorem dX0_secondDropped_4 : decode cX0_secondDropped 4 = .ok (.aload_n 0, 1) := by decide +kernel
theorem dX0_secondDropped_5 : decode cX0_secondDropped 5 = .ok (.getfield 26, 3) := by decide +kernel
theorem dX0_secondDropped_8 : decode cX0_secondDropped 8 = .ok (.iaload, 1) := by decide +kernel
theorem dX0_secondDropped_9 : decode cX0_secondDropped 9 = .ok (.ireturn, 1) := by decide +kernel
/-- QuotientSums$Changes.secondDropped()I -/
def wX0_secondDropped (size : Int32) (top : Int32) (others : Nat → Int32)  (Q : (Int32) → Prop) : Prop :=
  (vp_in top 20 ∧ (Q (others top.toNatClampNeg)))
set_option maxHeartbeats 4000000 in
set_option maxRecDepth 100000 in
theorem mX0_secondDropped (l : Launch) (D : va_G) (Y : Nat → ClassId) (h0 : Nat) (size : Int32) (top : Int32) (v_kinds : Value) (v_cells : Value) (v_ones : Value) (q_others : Nat) (others : Nat → Int32)  (Q : (Int32) → Prop) (h : wX0_secondDropped size top others Q) : gM l D Y yX0_secondDropped cX0_secondDropped 1 (some .int) 0 0 0 0 [.ref h0] [oX0 h0 size top (v_kinds) (v_cells) (v_ones) (.ref q_others), aI Y q_others 20 others] (fun v w => ∃ r : Int32, v = some (.int r) ∧ w = [oX0 h0 size top (v_kinds) (v_cells) (v_ones) (.ref q_others), aI Y q_others 20 others] ∧ Q r) := by
  refine gM_of (own := RX0) (by decide +kernel) rfl (Nat.le_of_ble_eq_true rfl) rfl (fun E C hR => ?_)
  unfold wX0_secondDropped at h
  refine g_aload_n C dX0_secondDropped_0 0 rfl ?_
  refine g_get C inX0 0 rfl rfl 5 (by decide) wF_X0_19 rfl dX0_secondDropped_1 ?_
  refine g_aload_n C dX0_secondDropped_4 0 rfl ?_
  refine g_get C inX0 0 rfl rfl 1 (by decide) wF_X0_26 rfl dX0_secondDropped_5 ?_
  obtain ⟨hc_1, h⟩ := h
  refine g_iald C 1 rfl hc_1 dX0_secondDropped_8 ?_
  exact g_iret C hR (Nat.le_of_ble_eq_true rfl) (Nat.le_of_ble_eq_true rfl) dX0_secondDropped_9 ⟨others top.toNatClampNeg, rfl, rfl, h⟩
theorem dX2_init_0 : decode cX2_init 0 = .ok (.aload_n 0, 1) := by decide +kernel
theorem dX2_init_1 : decode cX2_init 1 = .ok (.invokespecial 3, 3) := by decide +kernel
theorem dX2_init_4 : decode cX2_init 4 = .ok (.aload_n 0, 1) := by decide +kernel
theorem dX2_init_5 : decode cX2_init 5 = .ok (.sipush 144, 3) := by decide +kernel
theorem dX2_init_8 : decode cX2_init 8 = .ok (.newarray .int, 2) := by decide +kernel
theorem dX2_init_10 : decode cX2_init 10 = .ok (.putfield 9, 3) := by decide +kernel
theorem dX2_init_13 : decode cX2_init 13 = .ok (.return_, 1) := by decide +kernel
/-- QuotientSums$Image.<init>()V -/
def wX2_init   (Q : (Int32) → (Int32) → (Int32) → (Nat → Int32) → Prop) : Prop :=
  (∀ z_1 : Nat → Int32, z_1 = (fun _ => 0) → (Q 0 0 0 z_1))
set_option maxHeartbeats 4000000 in
set_option maxRecDepth 100000 in
theorem mX2_init (l : Launch) (D : va_G) (Y : Nat → ClassId) (h0 : Nat)   (Q : (Int32) → (Int32) → (Int32) → (Nat → Int32) → Prop) (h : wX2_init  Q) : gM l D Y yX2_init cX2_init 1 none 1 20 1 144 [.ref h0] [oX2 h0 0 0 0 (.null)] (fun v w => ∃ kept' : Int32, ∃ bound' : Int32, ∃ modulus' : Int32, ∃ q_numbers : Nat, ∃ numbers' : Nat → Int32, v = none ∧ w = [oX2 h0 kept' bound' modulus' (.ref q_numbers), aI Y q_numbers 144 numbers'] ∧ Q kept' bound' modulus' numbers') := by
  refine gM_ofI (own := RX2) (by decide +kernel) rfl rfl (Nat.le_of_ble_eq_true rfl) rfl (fun E C hR hin => ?_)
  unfold wX2_init at h
  refine g_aload_n C dX2_init_0 0 rfl ?_
  refine g_objInit C wM_X2_3 dX2_init_1 (Nat.le_of_ble_eq_true rfl) (Nat.le_of_ble_eq_true rfl) ?_
  refine g_aload_n C dX2_init_4 0 rfl ?_
  refine g_sipush (v := 144) C dX2_init_5 rfl ?_
  refine g_newI C dX2_init_8 (by decide) rfl (Nat.le_of_ble_eq_true rfl) ⟨Nat.le_of_ble_eq_true rfl, Nat.le_of_ble_eq_true rfl⟩ (fun q_1 z_1 ez_1 => gG.eqw (ws' := [oX2 h0 0 0 0 (.null), aI Y q_1 144 z_1]) rfl ?_)
  replace h := h z_1 ez_1
  refine g_putF C inX2 tyX2 tyX2_ok nmX2 0 rfl rfl 3 (by decide) wF_X2_9 rfl hin rfl rfl rfl (Nat.le_of_ble_eq_true rfl) (ws' := [oX2 h0 0 0 0 (.ref q_1), aI Y q_1 144 z_1]) rfl dX2_init_10 ?_
  exact g_vret C hR (Nat.le_of_ble_eq_true rfl) (Nat.le_of_ble_eq_true rfl) dX2_init_13 ⟨0, 0, 0, q_1, z_1, rfl, rfl, h⟩
theorem dX2_take_0 : decode cX2_take 0 = .ok (.aload_n 0, 1) := by decide +kernel
theorem dX2_take_1 : decode cX2_take 1 = .ok (.iconst 1, 1) := by decide +kernel
theorem dX2_take_2 : decode cX2_take 2 = .ok (.putfield 15, 3) := by decide +kernel
theorem dX2_take_5 : decode cX2_take 5 = .ok (.aload_n 0, 1) := by decide +kernel
theorem dX2_take_6 : decode cX2_take 6 = .ok (.aload_n 1, 1) := by decide +kernel
theorem dX2_take_7 : decode cX2_take 7 = .ok (.getfield 19, 3) := by decide +kernel
theorem dX2_take_10 : decode cX2_take 10 = .ok (.putfield 25, 3) := by decide +kernel
theorem dX2_take_13 : decode cX2_take 13 = .ok (.aload_n 0, 1) := by decide +kernel
theorem dX2_take_14 : decode cX2_take 14 = .ok (.aload_n 1, 1) := by decide +kernel
theorem dX2_take_15 : decode cX2_take 15 = .ok (.getfield 26, 3) := by decide +kernel
theorem dX2_take_18 : decode cX2_take 18 = .ok (.putfield 29, 3) := by decide +kernel
theorem dX2_take_21 : decode cX2_take 21 = .ok (.aload_n 1, 1) := by decide +kernel
theorem dX2_take_22 : decode cX2_take 22 = .ok (.getfield 30, 3) := by decide +kernel
theorem dX2_take_25 : decode cX2_take 25 = .ok (.iconst 0, 1) := by decide +kernel
theorem dX2_take_26 : decode cX2_take 26 = .ok (.aload_n 0, 1) := by decide +kernel
theorem dX2_take_27 : decode cX2_take 27 = .ok (.getfield 9, 3) := by decide +kernel
theorem dX2_take_30 : decode cX2_take 30 = .ok (.iconst 0, 1) := by decide +kernel
theorem dX2_take_31 : decode cX2_take 31 = .ok (.aload_n 0, 1) := by decide +kernel
theorem dX2_take_32 : decode cX2_take 32 = .ok (.getfield 9, 3) := by decide +kernel
theorem dX2_take_35 : decode cX2_take 35 = .ok (.arraylength, 1) := by decide +kernel
theorem dX2_take_36 : decode cX2_take 36 = .ok (.invokestatic 31, 3) := by decide +kernel
theorem dX2_take_39 : decode cX2_take 39 = .ok (.return_, 1) := by decide +kernel
/-- QuotientSums$Image.take(LQuotientSums$Plan;)V -/
def wX2_take (kept : Int32) (bound : Int32) (modulus : Int32) (a1_bound : Int32) (a1_modulus : Int32) (a1_seed : Int32) (a1_functions : Int32) (numbers : Nat → Int32) (a1_numbers : Nat → Int32)  (Q : (Int32) → (Int32) → (Int32) → (Nat → Int32) → Prop) : Prop :=
  (∀ numbers_1 : Nat → Int32, numbers_1 = va_cpy a1_numbers numbers 0 0 144 → (Q 1 a1_bound a1_modulus numbers_1))
set_option maxHeartbeats 4000000 in
set_option maxRecDepth 100000 in
theorem mX2_take (l : Launch) (D : va_G) (Y : Nat → ClassId) (h0 : Nat) (q_a1 : Nat) (kept : Int32) (bound : Int32) (modulus : Int32) (q_numbers : Nat) (a1_bound : Int32) (a1_modulus : Int32) (a1_seed : Int32) (a1_functions : Int32) (v_a1_names : Value) (v_a1_kinds : Value) (v_a1_firsts : Value) (v_a1_seconds : Value) (v_a1_degrees : Value) (v_a1_colours : Value) (v_a1_needs : Value) (q_a1_numbers : Nat) (numbers : Nat → Int32) (a1_numbers : Nat → Int32)  (Q : (Int32) → (Int32) → (Int32) → (Nat → Int32) → Prop) (h : wX2_take kept bound modulus a1_bound a1_modulus a1_seed a1_functions numbers a1_numbers Q) : gM l D Y yX2_take cX2_take 2 none 1 60 0 0 [.ref h0, .ref q_a1] [oX2 h0 kept bound modulus (.ref q_numbers), oX3 q_a1 a1_bound a1_modulus a1_seed a1_functions (v_a1_names) (v_a1_kinds) (v_a1_firsts) (v_a1_seconds) (v_a1_degrees) (v_a1_colours) (v_a1_needs) (.ref q_a1_numbers), aI Y q_numbers 144 numbers, aI Y q_a1_numbers 144 a1_numbers] (fun v w => ∃ kept' : Int32, ∃ bound' : Int32, ∃ modulus' : Int32, ∃ numbers' : Nat → Int32, v = none ∧ w = [oX2 h0 kept' bound' modulus' (.ref q_numbers), oX3 q_a1 a1_bound a1_modulus a1_seed a1_functions (v_a1_names) (v_a1_kinds) (v_a1_firsts) (v_a1_seconds) (v_a1_degrees) (v_a1_colours) (v_a1_needs) (.ref q_a1_numbers), aI Y q_numbers 144 numbers', aI Y q_a1_numbers 144 a1_numbers] ∧ Q kept' bound' modulus' numbers') := by
  refine gM_of (own := RX2) (by decide +kernel) rfl (Nat.le_of_ble_eq_true rfl) rfl (fun E C hR => ?_)
  unfold wX2_take at h
  refine g_aload_n C dX2_take_0 0 rfl ?_
  refine g_iconst (v := 1) C dX2_take_1 rfl ?_
  refine g_put C inX2 tyX2 tyX2_ok nmX2 0 rfl rfl 0 (by decide) wF_X2_15 rfl rfl rfl (Nat.le_of_ble_eq_true rfl) (ws' := [oX2 h0 1 bound modulus (.ref q_numbers), oX3 q_a1 a1_bound a1_modulus a1_seed a1_functions (v_a1_names) (v_a1_kinds) (v_a1_firsts) (v_a1_seconds) (v_a1_degrees) (v_a1_colours) (v_a1_needs) (.ref q_a1_numbers), aI Y q_numbers 144 numbers, aI Y q_a1_numbers 144 a1_numbers]) rfl dX2_take_2 ?_
  refine g_aload_n C dX2_take_5 0 rfl ?_
  refine g_aload_n C dX2_take_6 1 rfl ?_
  refine g_get C inX3 1 rfl rfl 0 (by decide) wF_X2_19 rfl dX2_take_7 ?_
  refine g_put C inX2 tyX2 tyX2_ok nmX2 0 rfl rfl 1 (by decide) wF_X2_25 rfl rfl rfl (Nat.le_of_ble_eq_true rfl) (ws' := [oX2 h0 1 a1_bound modulus (.ref q_numbers), oX3 q_a1 a1_bound a1_modulus a1_seed a1_functions (v_a1_names) (v_a1_kinds) (v_a1_firsts) (v_a1_seconds) (v_a1_degrees) (v_a1_colours) (v_a1_needs) (.ref q_a1_numbers), aI Y q_numbers 144 numbers, aI Y q_a1_numbers 144 a1_numbers]) rfl dX2_take_10 ?_
  refine g_aload_n C dX2_take_13 0 rfl ?_
  refine g_aload_n C dX2_take_14 1 rfl ?_
  refine g_get C inX3 1 rfl rfl 1 (by decide) wF_X2_26 rfl dX2_take_15 ?_
  refine g_put C inX2 tyX2 tyX2_ok nmX2 0 rfl rfl 2 (by decide) wF_X2_29 rfl rfl rfl (Nat.le_of_ble_eq_true rfl) (ws' := [oX2 h0 1 a1_bound a1_modulus (.ref q_numbers), oX3 q_a1 a1_bound a1_modulus a1_seed a1_functions (v_a1_names) (v_a1_kinds) (v_a1_firsts) (v_a1_seconds) (v_a1_degrees) (v_a1_colours) (v_a1_needs) (.ref q_a1_numbers), aI Y q_numbers 144 numbers, aI Y q_a1_numbers 144 a1_numbers]) rfl dX2_take_18 ?_
  refine g_aload_n C dX2_take_21 1 rfl ?_
  refine g_get C inX3 1 rfl rfl 11 (by decide) wF_X2_30 rfl dX2_take_22 ?_
  refine g_iconst (v := 0) C dX2_take_25 rfl ?_
  refine g_aload_n C dX2_take_26 0 rfl ?_
  refine g_get C inX2 0 rfl rfl 3 (by decide) wF_X2_9 rfl dX2_take_27 ?_
  refine g_iconst (v := 0) C dX2_take_30 rfl ?_
  refine g_aload_n C dX2_take_31 0 rfl ?_
  refine g_get C inX2 0 rfl rfl 3 (by decide) wF_X2_9 rfl dX2_take_32 ?_
  refine g_alen (v := 144) C 2 0 rfl rfl rfl dX2_take_35 ?_
  refine g_copyI C wM_X2_31 dX2_take_36 3 2 rfl rfl (by decide) (by decide) (by decide) (by decide) (by decide) ⟨Nat.le_of_ble_eq_true rfl, Nat.le_of_ble_eq_true rfl⟩ (fun numbers_1 enumbers_1 => gG.eqw (ws' := [oX2 h0 1 a1_bound a1_modulus (.ref q_numbers), oX3 q_a1 a1_bound a1_modulus a1_seed a1_functions (v_a1_names) (v_a1_kinds) (v_a1_firsts) (v_a1_seconds) (v_a1_degrees) (v_a1_colours) (v_a1_needs) (.ref q_a1_numbers), aI Y q_numbers 144 numbers_1, aI Y q_a1_numbers 144 a1_numbers]) rfl ?_)
  replace h := h numbers_1 enumbers_1
  exact g_vret C hR (Nat.le_of_ble_eq_true rfl) (Nat.le_of_ble_eq_true rfl) dX2_take_39 ⟨1, a1_bound, a1_modulus, numbers_1, rfl, rfl, h⟩
theorem dX2_give_0 : decode cX2_give 0 = .ok (.aload_n 1, 1) := by decide +kernel
theorem dX2_give_1 : decode cX2_give 1 = .ok (.aload_n 0, 1) := by decide +kernel
theorem dX2_give_2 : decode cX2_give 2 = .ok (.getfield 25, 3) := by decide +kernel
theorem dX2_give_5 : decode cX2_give 5 = .ok (.putfield 19, 3) := by decide +kernel
theorem dX2_give_8 : decode cX2_give 8 = .ok (.aload_n 1, 1) := by decide +kernel
theorem dX2_give_9 : decode cX2_give 9 = .ok (.aload_n 0, 1) := by decide +kernel
theorem dX2_give_10 : decode cX2_give 10 = .ok (.getfield 29, 3) := by decide +kernel
theorem dX2_give_13 : decode cX2_give 13 = .ok (.putfield 26, 3) := by decide +kernel
theorem dX2_give_16 : decode cX2_give 16 = .ok (.aload_n 0, 1) := by decide +kernel
theorem dX2_give_17 : decode cX2_give 17 = .ok (.getfield 9, 3) := by decide +kernel
theorem dX2_give_20 : decode cX2_give 20 = .ok (.iconst 0, 1) := by decide +kernel
theorem dX2_give_21 : decode cX2_give 21 = .ok (.aload_n 1, 1) := by decide +kernel
theorem dX2_give_22 : decode cX2_give 22 = .ok (.getfield 30, 3) := by decide +kernel
theorem dX2_give_25 : decode cX2_give 25 = .ok (.iconst 0, 1) := by decide +kernel
theorem dX2_give_26 : decode cX2_give 26 = .ok (.aload_n 0, 1) := by decide +kernel
theorem dX2_give_27 : decode cX2_give 27 = .ok (.getfield 9, 3) := by decide +kernel
theorem dX2_give_30 : decode cX2_give 30 = .ok (.arraylength, 1) := by decide +kernel
theorem dX2_give_31 : decode cX2_give 31 = .ok (.invokestatic 31, 3) := by decide +kernel
theorem dX2_give_34 : decode cX2_give 34 = .ok (.return_, 1) := by decide +kernel
/-- QuotientSums$Image.give(LQuotientSums$Plan;)V -/
def wX2_give (kept : Int32) (bound : Int32) (modulus : Int32) (a1_bound : Int32) (a1_modulus : Int32) (a1_seed : Int32) (a1_functions : Int32) (numbers : Nat → Int32) (a1_numbers : Nat → Int32)  (Q : (Int32) → (Int32) → (Nat → Int32) → Prop) : Prop :=
  (∀ a1_numbers_1 : Nat → Int32, a1_numbers_1 = va_cpy numbers a1_numbers 0 0 144 → (Q bound modulus a1_numbers_1))
set_option maxHeartbeats 4000000 in
set_option maxRecDepth 100000 in
theorem mX2_give (l : Launch) (D : va_G) (Y : Nat → ClassId) (h0 : Nat) (q_a1 : Nat) (kept : Int32) (bound : Int32) (modulus : Int32) (q_numbers : Nat) (a1_bound : Int32) (a1_modulus : Int32) (a1_seed : Int32) (a1_functions : Int32) (v_a1_names : Value) (v_a1_kinds : Value) (v_a1_firsts : Value) (v_a1_seconds : Value) (v_a1_degrees : Value) (v_a1_colours : Value) (v_a1_needs : Value) (q_a1_numbers : Nat) (numbers : Nat → Int32) (a1_numbers : Nat → Int32)  (Q : (Int32) → (Int32) → (Nat → Int32) → Prop) (h : wX2_give kept bound modulus a1_bound a1_modulus a1_seed a1_functions numbers a1_numbers Q) : gM l D Y yX2_give cX2_give 2 none 1 60 0 0 [.ref h0, .ref q_a1] [oX2 h0 kept bound modulus (.ref q_numbers), oX3 q_a1 a1_bound a1_modulus a1_seed a1_functions (v_a1_names) (v_a1_kinds) (v_a1_firsts) (v_a1_seconds) (v_a1_degrees) (v_a1_colours) (v_a1_needs) (.ref q_a1_numbers), aI Y q_numbers 144 numbers, aI Y q_a1_numbers 144 a1_numbers] (fun v w => ∃ a1_bound' : Int32, ∃ a1_modulus' : Int32, ∃ a1_numbers' : Nat → Int32, v = none ∧ w = [oX2 h0 kept bound modulus (.ref q_numbers), oX3 q_a1 a1_bound' a1_modulus' a1_seed a1_functions (v_a1_names) (v_a1_kinds) (v_a1_firsts) (v_a1_seconds) (v_a1_degrees) (v_a1_colours) (v_a1_needs) (.ref q_a1_numbers), aI Y q_numbers 144 numbers, aI Y q_a1_numbers 144 a1_numbers'] ∧ Q a1_bound' a1_modulus' a1_numbers') := by
  refine gM_of (own := RX2) (by decide +kernel) rfl (Nat.le_of_ble_eq_true rfl) rfl (fun E C hR => ?_)
  unfold wX2_give at h
  refine g_aload_n C dX2_give_0 1 rfl ?_
  refine g_aload_n C dX2_give_1 0 rfl ?_
  refine g_get C inX2 0 rfl rfl 1 (by decide) wF_X2_25 rfl dX2_give_2 ?_
  refine g_put C inX3 tyX3 tyX3_ok nmX3 1 rfl rfl 0 (by decide) wF_X2_19 rfl rfl rfl (Nat.le_of_ble_eq_true rfl) (ws' := [oX2 h0 kept bound modulus (.ref q_numbers), oX3 q_a1 bound a1_modulus a1_seed a1_functions (v_a1_names) (v_a1_kinds) (v_a1_firsts) (v_a1_seconds) (v_a1_degrees) (v_a1_colours) (v_a1_needs) (.ref q_a1_numbers), aI Y q_numbers 144 numbers, aI Y q_a1_numbers 144 a1_numbers]) rfl dX2_give_5 ?_
  refine g_aload_n C dX2_give_8 1 rfl ?_
  refine g_aload_n C dX2_give_9 0 rfl ?_
  refine g_get C inX2 0 rfl rfl 2 (by decide) wF_X2_29 rfl dX2_give_10 ?_
  refine g_put C inX3 tyX3 tyX3_ok nmX3 1 rfl rfl 1 (by decide) wF_X2_26 rfl rfl rfl (Nat.le_of_ble_eq_true rfl) (ws' := [oX2 h0 kept bound modulus (.ref q_numbers), oX3 q_a1 bound modulus a1_seed a1_functions (v_a1_names) (v_a1_kinds) (v_a1_firsts) (v_a1_seconds) (v_a1_degrees) (v_a1_colours) (v_a1_needs) (.ref q_a1_numbers), aI Y q_numbers 144 numbers, aI Y q_a1_numbers 144 a1_numbers]) rfl dX2_give_13 ?_
  refine g_aload_n C dX2_give_16 0 rfl ?_
  refine g_get C inX2 0 rfl rfl 3 (by decide) wF_X2_9 rfl dX2_give_17 ?_
  refine g_iconst (v := 0) C dX2_give_20 rfl ?_
  refine g_aload_n C dX2_give_21 1 rfl ?_
  refine g_get C inX3 1 rfl rfl 11 (by decide) wF_X2_30 rfl dX2_give_22 ?_
  refine g_iconst (v := 0) C dX2_give_25 rfl ?_
  refine g_aload_n C dX2_give_26 0 rfl ?_
  refine g_get C inX2 0 rfl rfl 3 (by decide) wF_X2_9 rfl dX2_give_27 ?_
  refine g_alen (v := 144) C 2 0 rfl rfl rfl dX2_give_30 ?_
  refine g_copyI C wM_X2_31 dX2_give_31 2 3 rfl rfl (by decide) (by decide) (by decide) (by decide) (by decide) ⟨Nat.le_of_ble_eq_true rfl, Nat.le_of_ble_eq_true rfl⟩ (fun a1_numbers_1 ea1_numbers_1 => gG.eqw (ws' := [oX2 h0 kept bound modulus (.ref q_numbers), oX3 q_a1 bound modulus a1_seed a1_functions (v_a1_names) (v_a1_kinds) (v_a1_firsts) (v_a1_seconds) (v_a1_degrees) (v_a1_colours) (v_a1_needs) (.ref q_a1_numbers), aI Y q_numbers 144 numbers, aI Y q_a1_numbers 144 a1_numbers_1]) rfl ?_)
  replace h := h a1_numbers_1 ea1_numbers_1
  exact g_vret C hR (Nat.le_of_ble_eq_true rfl) (Nat.le_of_ble_eq_true rfl) dX2_give_34 ⟨bound, modulus, a1_numbers_1, rfl, rfl, h⟩
theorem dX3_knownName_0 : decode cX3_knownName 0 = .ok (.iconst 0, 1) := by decide +kernel
theorem dX3_knownName_1 : decode cX3_knownName 1 = .ok (.istore_n 1, 1) := by decide +kernel
theorem dX3_knownName_2 : decode cX3_knownName 2 = .ok (.iconst 0, 1) := by decide +kernel
theorem dX3_knownName_3 : decode cX3_knownName 3 = .ok (.istore_n 2, 1) := by decide +kernel
theorem dX3_knownName_4 : decode cX3_knownName 4 = .ok (.iload_n 2, 1) := by decide +kernel
theorem dX3_knownName_5 : decode cX3_knownName 5 = .ok (.bipush 6, 2) := by decide +kernel
theorem dX3_knownName_7 : decode cX3_knownName 7 = .ok (.if_icmp .ge 43, 3) := by decide +kernel
theorem dX3_knownName_10 : decode cX3_knownName 10 = .ok (.ldc 70, 2) := by decide +kernel
theorem dX3_knownName_12 : decode cX3_knownName 12 = .ok (.iload_n 0, 1) := by decide +kernel
theorem dX3_knownName_13 : decode cX3_knownName 13 = .ok (.bipush 6, 2) := by decide +kernel
theorem dX3_knownName_15 : decode cX3_knownName 15 = .ok (.imul, 1) := by decide +kernel
theorem dX3_knownName_16 : decode cX3_knownName 16 = .ok (.iload_n 2, 1) := by decide +kernel
theorem dX3_knownName_17 : decode cX3_knownName 17 = .ok (.iadd, 1) := by decide +kernel
theorem dX3_knownName_18 : decode cX3_knownName 18 = .ok (.invokevirtual 72, 3) := by decide +kernel
theorem dX3_knownName_21 : decode cX3_knownName 21 = .ok (.istore_n 3, 1) := by decide +kernel
theorem dX3_knownName_22 : decode cX3_knownName 22 = .ok (.iload_n 1, 1) := by decide +kernel
theorem dX3_knownName_23 : decode cX3_knownName 23 = .ok (.bipush 32, 2) := by decide +kernel
theorem dX3_knownName_25 : decode cX3_knownName 25 = .ok (.imul, 1) := by decide +kernel
theorem dX3_knownName_26 : decode cX3_knownName 26 = .ok (.iload_n 3, 1) := by decide +kernel
theorem dX3_knownName_27 : decode cX3_knownName 27 = .ok (.bipush 32, 2) := by decide +kernel
theorem dX3_knownName_29 : decode cX3_knownName 29 = .ok (.if_icmp .ne 7, 3) := by decide +kernel
theorem dX3_knownName_32 : decode cX3_knownName 32 = .ok (.iconst 0, 1) := by decide +kernel
theorem dX3_knownName_33 : decode cX3_knownName 33 = .ok (.goto 9, 3) := by decide +kernel
theorem dX3_knownName_36 : decode cX3_knownName 36 = .ok (.iload_n 3, 1) := by decide +kernel
theorem dX3_knownName_37 : decode cX3_knownName 37 = .ok (.bipush 97, 2) := by decide +kernel
theorem dX3_knownName_39 : decode cX3_knownName 39 = .ok (.isub, 1) := by decide +kernel
theorem dX3_knownName_40 : decode cX3_knownName 40 = .ok (.iconst 1, 1) := by decide +kernel
theorem dX3_knownName_41 : decode cX3_knownName 41 = .ok (.iadd, 1) := by decide +kernel
theorem dX3_knownName_42 : decode cX3_knownName 42 = .ok (.iadd, 1) := by decide +kernel
theorem dX3_knownName_43 : decode cX3_knownName 43 = .ok (.istore_n 1, 1) := by decide +kernel
theorem dX3_knownName_44 : decode cX3_knownName 44 = .ok (.iinc 2 1, 3) := by decide +kernel
theorem dX3_knownName_47 : decode cX3_knownName 47 = .ok (.goto (-43), 3) := by decide +kernel
theorem dX3_knownName_50 : decode cX3_knownName 50 = .ok (.iload_n 1, 1) := by decide +kernel
theorem dX3_knownName_51 : decode cX3_knownName 51 = .ok (.ireturn, 1) := by decide +kernel
/-- QuotientSums$Plan.knownName(I)I -/
def wX3_knownName  (a1 : Int32) (Q : (Int32) → Prop) : Prop :=
  (∃ (Inv_1 : (Int32) → (Int32) → Prop) (Mea_1 : (Int32) → (Int32) → Nat), Inv_1 0 0 ∧ ∀ (x1_1 : Int32) (x2_1 : Int32), Inv_1 x1_1 x2_1 → ((6 ≤ x2_1 → (Q x1_1)) ∧ (¬ 6 ≤ x2_1 → (vp_in ((a1 * 6) + x2_1) 36 ∧ ∀ x3_1 : Int32, x3_1 = gCh 0 ((a1 * 6) + x2_1).toNatClampNeg → ((¬ x3_1 = 32 → (∀ x1_2 : Int32, x1_2 = (x1_1 * 32) + ((x3_1 - 97) + 1) → (Inv_1 x1_2 (x2_1 + 1) ∧ Mea_1 x1_2 (x2_1 + 1) < Mea_1 x1_1 x2_1))) ∧ (x3_1 = 32 → (∀ x1_3 : Int32, x1_3 = (x1_1 * 32) + 0 → (Inv_1 x1_3 (x2_1 + 1) ∧ Mea_1 x1_3 (x2_1 + 1) < Mea_1 x1_1 x2_1))))))))
set_option maxHeartbeats 4000000 in
set_option maxRecDepth 100000 in
theorem mX3_knownName (l : Launch) (D : va_G) (Y : Nat → ClassId)   (a1 : Int32) (Q : (Int32) → Prop) (h : wX3_knownName a1 Q) : gM l D Y yX3_knownName cX3_knownName 4 (some .int) 4 85 0 0 [.int a1] [] (fun v w => ∃ r : Int32, v = some (.int r) ∧ w = [] ∧ Q r) := by
  refine gM_of (own := RX3) (by decide +kernel) rfl (Nat.le_of_ble_eq_true rfl) rfl (fun E C hR => ?_)
  unfold wX3_knownName at h
  refine g_iconst (v := 0) C dX3_knownName_0 rfl ?_
  refine g_istore_n (lv' := [(1, .int 0), (0, .int a1)]) C dX3_knownName_1 (by decide) rfl ?_
  refine g_iconst (v := 0) C dX3_knownName_2 rfl ?_
  refine g_istore_n (lv' := [(2, .int 0), (1, .int 0), (0, .int a1)]) C dX3_knownName_3 (by decide) rfl ?_
  obtain ⟨Inv_1, Mea_1, hI1, hB1⟩ := h
  have key_1 : ∀ (n : Nat) (x1_1 : Int32) (x2_1 : Int32) , Mea_1 x1_1 x2_1 < n → Inv_1 x1_1 x2_1 → gG E 0 0 [] [(0, .int a1), (1, .int x1_1), (2, .int x2_1)] [] 4 := by
    intro n
    induction n with
    | zero => exact fun _ _ hm => absurd hm (Nat.not_lt_zero _)
    | succ n ih1 =>
      intro x1_1 x2_1  hm1 hI
      have h := hB1 x1_1 x2_1 hI
      refine g_iload_n C dX3_knownName_4 2 rfl ?_
      refine g_bipush (v := 6) C dX3_knownName_5 rfl ?_
      refine g_icmp_ge (tgt := 50) C dX3_knownName_7 (by decide) (fun c_1 => ?_) (fun c_1 => ?_)
      · replace h := h.1 c_1
        refine g_iload_n C dX3_knownName_50 1 rfl ?_
        exact g_iret C hR (Nat.le_of_ble_eq_true rfl) (Nat.le_of_ble_eq_true rfl) dX3_knownName_51 ⟨x1_1, rfl, rfl, h⟩
      · replace h := h.2 c_1
        refine g_ldcStr C (fun U hz => hz.1) dX3_knownName_10 ?_
        refine g_iload_n C dX3_knownName_12 0 rfl ?_
        refine g_bipush (v := 6) C dX3_knownName_13 rfl ?_
        refine g_imul C dX3_knownName_15 ?_
        refine g_iload_n C dX3_knownName_16 2 rfl ?_
        refine g_iadd C dX3_knownName_17 ?_
        obtain ⟨hc_1, h⟩ := h
        refine g_charAt C 0 (by decide) wM_X3_72 dX3_knownName_18 hc_1 ⟨Nat.le_of_ble_eq_true rfl, Nat.le_of_ble_eq_true rfl⟩ ⟨Nat.le_of_ble_eq_true rfl, Nat.le_of_ble_eq_true rfl⟩ (Nat.le_of_ble_eq_true rfl) ?_
        refine g_topi (fun x3_1 ex3_1 => ?_)
        replace h := h x3_1 ex3_1
        refine g_istore_n (lv' := [(3, .int x3_1), (0, .int a1), (1, .int x1_1), (2, .int x2_1)]) C dX3_knownName_21 (by decide) rfl ?_
        refine g_iload_n C dX3_knownName_22 2 rfl ?_
        refine g_bipush (v := 32) C dX3_knownName_23 rfl ?_
        refine g_imul C dX3_knownName_25 ?_
        refine g_iload_n C dX3_knownName_26 0 rfl ?_
        refine g_bipush (v := 32) C dX3_knownName_27 rfl ?_
        refine g_icmp_ne (tgt := 36) C dX3_knownName_29 (by decide) (fun c_2 => ?_) (fun c_2 => ?_)
        · replace h := h.1 c_2
          refine g_iload_n C dX3_knownName_36 0 rfl ?_
          refine g_bipush (v := 97) C dX3_knownName_37 rfl ?_
          refine g_isub C dX3_knownName_39 ?_
          refine g_iconst (v := 1) C dX3_knownName_40 rfl ?_
          refine g_iadd C dX3_knownName_41 ?_
          refine g_iadd C dX3_knownName_42 ?_
          refine g_topi (fun x1_2 ex1_2 => ?_)
          replace h := h x1_2 ex1_2
          refine g_istore_n (lv' := [(1, .int x1_2), (3, .int x3_1), (0, .int a1), (2, .int x2_1)]) C dX3_knownName_43 (by decide) rfl ?_
          refine g_iinc (v := x2_1 + 1) (lv' := [(2, .int (x2_1 + 1)), (1, .int x1_2), (3, .int x3_1), (0, .int a1)]) C dX3_knownName_44 3 rfl rfl (by decide) rfl ?_
          refine g_goto (tgt := 4) C dX3_knownName_47 (by decide) ?_
          refine gG.locals (lv' := [(0, .int a1), (1, .int x1_2), (2, .int (x2_1 + 1))]) [3, 1, 0] rfl ?_
          exact ih1 x1_2 (x2_1 + 1) (Nat.lt_of_lt_of_le h.2 (Nat.le_of_lt_succ hm1)) h.1
        · replace h := h.2 c_2
          refine g_iconst (v := 0) C dX3_knownName_32 rfl ?_
          refine g_goto (tgt := 42) C dX3_knownName_33 (by decide) ?_
          refine g_iadd C dX3_knownName_42 ?_
          refine g_topi (fun x1_3 ex1_3 => ?_)
          replace h := h x1_3 ex1_3
          refine g_istore_n (lv' := [(1, .int x1_3), (3, .int x3_1), (0, .int a1), (2, .int x2_1)]) C dX3_knownName_43 (by decide) rfl ?_
          refine g_iinc (v := x2_1 + 1) (lv' := [(2, .int (x2_1 + 1)), (1, .int x1_3), (3, .int x3_1), (0, .int a1)]) C dX3_knownName_44 3 rfl rfl (by decide) rfl ?_
          refine g_goto (tgt := 4) C dX3_knownName_47 (by decide) ?_
          refine gG.locals (lv' := [(0, .int a1), (1, .int x1_3), (2, .int (x2_1 + 1))]) [3, 1, 0] rfl ?_
          exact ih1 x1_3 (x2_1 + 1) (Nat.lt_of_lt_of_le h.2 (Nat.le_of_lt_succ hm1)) h.1
  refine gG.locals (lv' := [(0, .int a1), (1, .int 0), (2, .int 0)]) [2, 1, 0] rfl ?_
  exact key_1 (Mea_1 0 0 + 1) 0 0 (Nat.lt_succ_self _) hI1
theorem dX3_isFilled_0 : decode cX3_isFilled 0 = .ok (.aload_n 0, 1) := by decide +kernel
theorem dX3_isFilled_1 : decode cX3_isFilled 1 = .ok (.getfield 50, 3) := by decide +kernel
theorem dX3_isFilled_4 : decode cX3_isFilled 4 = .ok (.bipush 12, 2) := by decide +kernel
theorem dX3_isFilled_6 : decode cX3_isFilled 6 = .ok (.if_icmp .lt 7, 3) := by decide +kernel
theorem dX3_isFilled_9 : decode cX3_isFilled 9 = .ok (.iconst 1, 1) := by decide +kernel
theorem dX3_isFilled_10 : decode cX3_isFilled 10 = .ok (.goto 4, 3) := by decide +kernel
theorem dX3_isFilled_13 : decode cX3_isFilled 13 = .ok (.iconst 0, 1) := by decide +kernel
theorem dX3_isFilled_14 : decode cX3_isFilled 14 = .ok (.ireturn, 1) := by decide +kernel
/-- QuotientSums$Plan.isFilled()Z -/
def wX3_isFilled (bound : Int32) (modulus : Int32) (seed : Int32) (functions : Int32)  (Q : (Int32) → Prop) : Prop :=
  ((functions < 12 → (Q 0)) ∧ (¬ functions < 12 → (Q 1)))
set_option maxHeartbeats 4000000 in
set_option maxRecDepth 100000 in
theorem mX3_isFilled (l : Launch) (D : va_G) (Y : Nat → ClassId) (h0 : Nat) (bound : Int32) (modulus : Int32) (seed : Int32) (functions : Int32) (v_names : Value) (v_kinds : Value) (v_firsts : Value) (v_seconds : Value) (v_degrees : Value) (v_colours : Value) (v_needs : Value) (v_numbers : Value)  (Q : (Int32) → Prop) (h : wX3_isFilled bound modulus seed functions Q) : gM l D Y yX3_isFilled cX3_isFilled 1 (some .boolean) 0 0 0 0 [.ref h0] [oX3 h0 bound modulus seed functions (v_names) (v_kinds) (v_firsts) (v_seconds) (v_degrees) (v_colours) (v_needs) (v_numbers)] (fun v w => ∃ r : Int32, v = some (.int r) ∧ w = [oX3 h0 bound modulus seed functions (v_names) (v_kinds) (v_firsts) (v_seconds) (v_degrees) (v_colours) (v_needs) (v_numbers)] ∧ Q r) := by
  refine gM_of (own := RX3) (by decide +kernel) rfl (Nat.le_of_ble_eq_true rfl) rfl (fun E C hR => ?_)
  unfold wX3_isFilled at h
  refine g_aload_n C dX3_isFilled_0 0 rfl ?_
  refine g_get C inX3 0 rfl rfl 3 (by decide) wF_X3_50 rfl dX3_isFilled_1 ?_
  refine g_bipush (v := 12) C dX3_isFilled_4 rfl ?_
  refine g_icmp_lt (tgt := 13) C dX3_isFilled_6 (by decide) (fun c_1 => ?_) (fun c_1 => ?_)
  · replace h := h.1 c_1
    refine g_iconst (v := 0) C dX3_isFilled_13 rfl ?_
    exact g_zret C hR (by decide) (Nat.le_of_ble_eq_true rfl) (Nat.le_of_ble_eq_true rfl) dX3_isFilled_14 ⟨0, rfl, rfl, h⟩
  · replace h := h.2 c_1
    refine g_iconst (v := 1) C dX3_isFilled_9 rfl ?_
    refine g_goto (tgt := 14) C dX3_isFilled_10 (by decide) ?_
    exact g_zret C hR (by decide) (Nat.le_of_ble_eq_true rfl) (Nat.le_of_ble_eq_true rfl) dX3_isFilled_14 ⟨1, rfl, rfl, h⟩
theorem dX3_has_0 : decode cX3_has 0 = .ok (.iload_n 1, 1) := by decide +kernel
theorem dX3_has_1 : decode cX3_has 1 = .ok (.ifCond .lt 15, 3) := by decide +kernel
theorem dX3_has_4 : decode cX3_has 4 = .ok (.iload_n 1, 1) := by decide +kernel
theorem dX3_has_5 : decode cX3_has 5 = .ok (.aload_n 0, 1) := by decide +kernel
theorem dX3_has_6 : decode cX3_has 6 = .ok (.getfield 50, 3) := by decide +kernel
theorem dX3_has_9 : decode cX3_has 9 = .ok (.if_icmp .ge 7, 3) := by decide +kernel
theorem dX3_has_12 : decode cX3_has 12 = .ok (.iconst 1, 1) := by decide +kernel
theorem dX3_has_13 : decode cX3_has 13 = .ok (.goto 4, 3) := by decide +kernel
theorem dX3_has_16 : decode cX3_has 16 = .ok (.iconst 0, 1) := by decide +kernel
theorem dX3_has_17 : decode cX3_has 17 = .ok (.ireturn, 1) := by decide +kernel
/-- QuotientSums$Plan.has(I)Z -/
def wX3_has (bound : Int32) (modulus : Int32) (seed : Int32) (functions : Int32) (a1 : Int32) (Q : (Int32) → Prop) : Prop :=
  ((a1 < 0 → (Q 0)) ∧ (¬ a1 < 0 → ((functions ≤ a1 → (Q 0)) ∧ (¬ functions ≤ a1 → (Q 1)))))
set_option maxHeartbeats 4000000 in
set_option maxRecDepth 100000 in
theorem mX3_has (l : Launch) (D : va_G) (Y : Nat → ClassId) (h0 : Nat) (bound : Int32) (modulus : Int32) (seed : Int32) (functions : Int32) (v_names : Value) (v_kinds : Value) (v_firsts : Value) (v_seconds : Value) (v_degrees : Value) (v_colours : Value) (v_needs : Value) (v_numbers : Value) (a1 : Int32) (Q : (Int32) → Prop) (h : wX3_has bound modulus seed functions a1 Q) : gM l D Y yX3_has cX3_has 2 (some .boolean) 0 0 0 0 [.ref h0, .int a1] [oX3 h0 bound modulus seed functions (v_names) (v_kinds) (v_firsts) (v_seconds) (v_degrees) (v_colours) (v_needs) (v_numbers)] (fun v w => ∃ r : Int32, v = some (.int r) ∧ w = [oX3 h0 bound modulus seed functions (v_names) (v_kinds) (v_firsts) (v_seconds) (v_degrees) (v_colours) (v_needs) (v_numbers)] ∧ Q r) := by
  refine gM_of (own := RX3) (by decide +kernel) rfl (Nat.le_of_ble_eq_true rfl) rfl (fun E C hR => ?_)
  unfold wX3_has at h
  refine g_iload_n C dX3_has_0 1 rfl ?_
  refine g_if_lt (tgt := 16) C dX3_has_1 (by decide) (fun c_1 => ?_) (fun c_1 => ?_)
  · replace h := h.1 c_1
    refine g_iconst (v := 0) C dX3_has_16 rfl ?_
    exact g_zret C hR (by decide) (Nat.le_of_ble_eq_true rfl) (Nat.le_of_ble_eq_true rfl) dX3_has_17 ⟨0, rfl, rfl, h⟩
  · replace h := h.2 c_1
    refine g_iload_n C dX3_has_4 1 rfl ?_
    refine g_aload_n C dX3_has_5 0 rfl ?_
    refine g_get C inX3 0 rfl rfl 3 (by decide) wF_X3_50 rfl dX3_has_6 ?_
    refine g_icmp_ge (tgt := 16) C dX3_has_9 (by decide) (fun c_2 => ?_) (fun c_2 => ?_)
    · replace h := h.1 c_2
      refine g_iconst (v := 0) C dX3_has_16 rfl ?_
      exact g_zret C hR (by decide) (Nat.le_of_ble_eq_true rfl) (Nat.le_of_ble_eq_true rfl) dX3_has_17 ⟨0, rfl, rfl, h⟩
    · replace h := h.2 c_2
      refine g_iconst (v := 1) C dX3_has_12 rfl ?_
      refine g_goto (tgt := 17) C dX3_has_13 (by decide) ?_
      exact g_zret C hR (by decide) (Nat.le_of_ble_eq_true rfl) (Nat.le_of_ble_eq_true rfl) dX3_has_17 ⟨1, rfl, rfl, h⟩
theorem dX3_add_0 : decode cX3_add 0 = .ok (.aload_n 0, 1) := by decide +kernel
theorem dX3_add_1 : decode cX3_add 1 = .ok (.invokevirtual 82, 3) := by decide +kernel
theorem dX3_add_4 : decode cX3_add 4 = .ok (.ifCond .eq 10, 3) := by decide +kernel
theorem dX3_add_7 : decode cX3_add 7 = .ok (.aload_n 0, 1) := by decide +kernel
theorem dX3_add_8 : decode cX3_add 8 = .ok (.getfield 50, 3) := by decide +kernel
theorem dX3_add_11 : decode cX3_add 11 = .ok (.iconst 1, 1) := by decide +kernel
theorem dX3_add_12 : decode cX3_add 12 = .ok (.isub, 1) := by decide +kernel
theorem dX3_add_13 : decode cX3_add 13 = .ok (.ireturn, 1) := by decide +kernel
theorem dX3_add_14 : decode cX3_add 14 = .ok (.aload_n 0, 1) := by decide +kernel
theorem dX3_add_15 : decode cX3_add 15 = .ok (.getfield 50, 3) := by decide +kernel
theorem dX3_add_18 : decode cX3_add 18 = .ok (.istore 5, 2) := by decide +kernel
theorem dX3_add_20 : decode cX3_add 20 = .ok (.aload_n 0, 1) := by decide +kernel
theorem dX3_add_21 : decode cX3_add 21 = .ok (.dup, 1) := by decide +kernel
theorem dX3_add_22 : decode cX3_add 22 = .ok (.getfield 50, 3) := by decide +kernel
theorem dX3_add_25 : decode cX3_add 25 = .ok (.iconst 1, 1) := by decide +kernel
theorem dX3_add_26 : decode cX3_add 26 = .ok (.iadd, 1) := by decide +kernel
theorem dX3_add_27 : decode cX3_add 27 = .ok (.putfield 50, 3) := by decide +kernel
theorem dX3_add_30 : decode cX3_add 30 = .ok (.aload_n 0, 1) := by decide +kernel
theorem dX3_add_31 : decode cX3_add 31 = .ok (.getfield 9, 3) := by decide +kernel
theorem dX3_add_34 : decode cX3_add 34 = .ok (.iload 5, 2) := by decide +kernel
theorem dX3_add_36 : decode cX3_add 36 = .ok (.iload_n 1, 1) := by decide +kernel
theorem dX3_add_37 : decode cX3_add 37 = .ok (.iastore, 1) := by decide +kernel
theorem dX3_add_38 : decode cX3_add 38 = .ok (.aload_n 0, 1) := by decide +kernel
theorem dX3_add_39 : decode cX3_add 39 = .ok (.getfield 15, 3) := by decide +kernel
theorem dX3_add_42 : decode cX3_add 42 = .ok (.iload 5, 2) := by decide +kernel
theorem dX3_add_44 : decode cX3_add 44 = .ok (.iload_n 2, 1) := by decide +kernel
theorem dX3_add_45 : decode cX3_add 45 = .ok (.iastore, 1) := by decide +kernel
theorem dX3_add_46 : decode cX3_add 46 = .ok (.aload_n 0, 1) := by decide +kernel
theorem dX3_add_47 : decode cX3_add 47 = .ok (.getfield 18, 3) := by decide +kernel
theorem dX3_add_50 : decode cX3_add 50 = .ok (.iload 5, 2) := by decide +kernel
theorem dX3_add_52 : decode cX3_add 52 = .ok (.iload_n 3, 1) := by decide +kernel
theorem dX3_add_53 : decode cX3_add 53 = .ok (.iastore, 1) := by decide +kernel
theorem dX3_add_54 : decode cX3_add 54 = .ok (.aload_n 0, 1) := by decide +kernel
theorem dX3_add_55 : decode cX3_add 55 = .ok (.getfield 21, 3) := by decide +kernel
theorem dX3_add_58 : decode cX3_add 58 = .ok (.iload 5, 2) := by decide +kernel
theorem dX3_add_60 : decode cX3_add 60 = .ok (.iload 4, 2) := by decide +kernel
theorem dX3_add_62 : decode cX3_add 62 = .ok (.iastore, 1) := by decide +kernel
theorem dX3_add_63 : decode cX3_add 63 = .ok (.aload_n 0, 1) := by decide +kernel
theorem dX3_add_64 : decode cX3_add 64 = .ok (.getfield 24, 3) := by decide +kernel
theorem dX3_add_67 : decode cX3_add 67 = .ok (.iload 5, 2) := by decide +kernel
theorem dX3_add_69 : decode cX3_add 69 = .ok (.iconst 0, 1) := by decide +kernel
theorem dX3_add_70 : decode cX3_add 70 = .ok (.iastore, 1) := by decide +kernel
theorem dX3_add_71 : decode cX3_add 71 = .ok (.aload_n 0, 1) := by decide +kernel
theorem dX3_add_72 : decode cX3_add 72 = .ok (.getfield 27, 3) := by decide +kernel
theorem dX3_add_75 : decode cX3_add 75 = .ok (.iload 5, 2) := by decide +kernel
theorem dX3_add_77 : decode cX3_add 77 = .ok (.iconst 0, 1) := by decide +kernel
theorem dX3_add_78 : decode cX3_add 78 = .ok (.iastore, 1) := by decide +kernel
theorem dX3_add_79 : decode cX3_add 79 = .ok (.aload_n 0, 1) := by decide +kernel
theorem dX3_add_80 : decode cX3_add 80 = .ok (.getfield 30, 3) := by decide +kernel
theorem dX3_add_83 : decode cX3_add 83 = .ok (.iload 5, 2) := by decide +kernel
theorem dX3_add_85 : decode cX3_add 85 = .ok (.iconst 1, 1) := by decide +kernel
theorem dX3_add_86 : decode cX3_add 86 = .ok (.iload 5, 2) := by decide +kernel
theorem dX3_add_88 : decode cX3_add 88 = .ok (.ishl, 1) := by decide +kernel
theorem dX3_add_89 : decode cX3_add 89 = .ok (.aload_n 0, 1) := by decide +kernel
theorem dX3_add_90 : decode cX3_add 90 = .ok (.iload_n 3, 1) := by decide +kernel
theorem dX3_add_91 : decode cX3_add 91 = .ok (.invokevirtual 78, 3) := by decide +kernel
theorem dX3_add_94 : decode cX3_add 94 = .ok (.ifCond .eq 12, 3) := by decide +kernel
theorem dX3_add_97 : decode cX3_add 97 = .ok (.aload_n 0, 1) := by decide +kernel
theorem dX3_add_98 : decode cX3_add 98 = .ok (.getfield 30, 3) := by decide +kernel
theorem dX3_add_101 : decode cX3_add 101 = .ok (.iload_n 3, 1) := by decide +kernel
theorem dX3_add_102 : decode cX3_add 102 = .ok (.iaload, 1) := by decide +kernel
theorem dX3_add_103 : decode cX3_add 103 = .ok (.goto 4, 3) := by decide +kernel
theorem dX3_add_106 : decode cX3_add 106 = .ok (.iconst 0, 1) := by decide +kernel
theorem dX3_add_107 : decode cX3_add 107 = .ok (.ior, 1) := by decide +kernel
theorem dX3_add_108 : decode cX3_add 108 = .ok (.aload_n 0, 1) := by decide +kernel
theorem dX3_add_109 : decode cX3_add 109 = .ok (.iload 4, 2) := by decide +kernel
theorem dX3_add_111 : decode cX3_add 111 = .ok (.invokevirtual 78, 3) := by decide +kernel
theorem dX3_add_114 : decode cX3_add 114 = .ok (.ifCond .eq 13, 3) := by decide +kernel
theorem dX3_add_117 : decode cX3_add 117 = .ok (.aload_n 0, 1) := by decide +kernel
theorem dX3_add_118 : decode cX3_add 118 = .ok (.getfield 30, 3) := by decide +kernel
theorem dX3_add_121 : decode cX3_add 121 = .ok (.iload 4, 2) := by decide +kernel
theorem dX3_add_123 : decode cX3_add 123 = .ok (.iaload, 1) := by decide +kernel
theorem dX3_add_124 : decode cX3_add 124 = .ok (.goto 4, 3) := by decide +kernel
theorem dX3_add_127 : decode cX3_add 127 = .ok (.iconst 0, 1) := by decide +kernel
theorem dX3_add_128 : decode cX3_add 128 = .ok (.ior, 1) := by decide +kernel
theorem dX3_add_129 : decode cX3_add 129 = .ok (.iastore, 1) := by decide +kernel
theorem dX3_add_130 : decode cX3_add 130 = .ok (.iload 5, 2) := by decide +kernel
theorem dX3_add_132 : decode cX3_add 132 = .ok (.ireturn, 1) := by decide +kernel
/-- QuotientSums$Plan.add(IIII)I -/
def wX3_add (bound : Int32) (modulus : Int32) (seed : Int32) (functions : Int32) (names : Nat → Int32) (kinds : Nat → Int32) (firsts : Nat → Int32) (seconds : Nat → Int32) (degrees : Nat → Int32) (colours : Nat → Int32) (needs : Nat → Int32) (a1 : Int32) (a2 : Int32) (a3 : Int32) (a4 : Int32) (Q : (Int32) → (Int32) → (Nat → Int32) → (Nat → Int32) → (Nat → Int32) → (Nat → Int32) → (Nat → Int32) → (Nat → Int32) → (Nat → Int32) → Prop) : Prop :=
  (∃ (P_1 : (Int32) → Prop), wX3_isFilled bound modulus seed functions P_1 ∧ ∀ (rF_1 : Int32), P_1 rF_1 → ((rF_1 = 0 → (∀ functions_1 : Int32, functions_1 = functions + 1 → vp_in functions 12 ∧ ∀ names_1 : Nat → Int32, names_1 = upd names functions.toNatClampNeg a1 → ∀ kinds_1 : Nat → Int32, kinds_1 = upd kinds functions.toNatClampNeg a2 → ∀ firsts_1 : Nat → Int32, firsts_1 = upd firsts functions.toNatClampNeg a3 → ∀ seconds_1 : Nat → Int32, seconds_1 = upd seconds functions.toNatClampNeg a4 → ∀ degrees_1 : Nat → Int32, degrees_1 = upd degrees functions.toNatClampNeg 0 → ∀ colours_1 : Nat → Int32, colours_1 = upd colours functions.toNatClampNeg 0 → ∃ (P_2 : (Int32) → Prop), wX3_has bound modulus seed functions_1 a3 P_2 ∧ ∀ (rF_2 : Int32), P_2 rF_2 → ((rF_2 = 0 → (∃ (P_3 : (Int32) → Prop), wX3_has bound modulus seed functions_1 a4 P_3 ∧ ∀ (rF_3 : Int32), P_3 rF_3 → ((rF_3 = 0 → (∀ e_1 : Int32, e_1 = ((1 <<< (functions &&& 31)) ||| 0) ||| 0 → vp_in functions 12 ∧ ∀ needs_1 : Nat → Int32, needs_1 = upd needs functions.toNatClampNeg e_1 → (Q functions functions_1 names_1 kinds_1 firsts_1 seconds_1 degrees_1 colours_1 needs_1))) ∧ (¬ rF_3 = 0 → (vp_in a4 12 ∧ ∀ e_2 : Int32, e_2 = ((1 <<< (functions &&& 31)) ||| 0) ||| (needs a4.toNatClampNeg) → vp_in functions 12 ∧ ∀ needs_2 : Nat → Int32, needs_2 = upd needs functions.toNatClampNeg e_2 → (Q functions functions_1 names_1 kinds_1 firsts_1 seconds_1 degrees_1 colours_1 needs_2)))))) ∧ (¬ rF_2 = 0 → (vp_in a3 12 ∧ ∃ (P_4 : (Int32) → Prop), wX3_has bound modulus seed functions_1 a4 P_4 ∧ ∀ (rF_4 : Int32), P_4 rF_4 → ((rF_4 = 0 → (∀ e_3 : Int32, e_3 = ((1 <<< (functions &&& 31)) ||| (needs a3.toNatClampNeg)) ||| 0 → vp_in functions 12 ∧ ∀ needs_3 : Nat → Int32, needs_3 = upd needs functions.toNatClampNeg e_3 → (Q functions functions_1 names_1 kinds_1 firsts_1 seconds_1 degrees_1 colours_1 needs_3))) ∧ (¬ rF_4 = 0 → (vp_in a4 12 ∧ ∀ t_1 : Int32, t_1 = ((1 <<< (functions &&& 31)) ||| (needs a3.toNatClampNeg)) ||| (needs a4.toNatClampNeg) → vp_in functions 12 ∧ ∀ needs_4 : Nat → Int32, needs_4 = upd needs functions.toNatClampNeg t_1 → (Q functions functions_1 names_1 kinds_1 firsts_1 seconds_1 degrees_1 colours_1 needs_4))))))))) ∧ (¬ rF_1 = 0 → (Q (functions - 1) functions names kinds firsts seconds degrees colours needs))))
set_option maxHeartbeats 4000000 in
set_option maxRecDepth 100000 in
theorem mX3_add (l : Launch) (D : va_G) (Y : Nat → ClassId) (h0 : Nat) (bound : Int32) (modulus : Int32) (seed : Int32) (functions : Int32) (q_names : Nat) (q_kinds : Nat) (q_firsts : Nat) (q_seconds : Nat) (q_degrees : Nat) (q_colours : Nat) (q_needs : Nat) (v_numbers : Value) (names : Nat → Int32) (kinds : Nat → Int32) (firsts : Nat → Int32) (seconds : Nat → Int32) (degrees : Nat → Int32) (colours : Nat → Int32) (needs : Nat → Int32) (a1 : Int32) (a2 : Int32) (a3 : Int32) (a4 : Int32) (Q : (Int32) → (Int32) → (Nat → Int32) → (Nat → Int32) → (Nat → Int32) → (Nat → Int32) → (Nat → Int32) → (Nat → Int32) → (Nat → Int32) → Prop) (h : wX3_add bound modulus seed functions names kinds firsts seconds degrees colours needs a1 a2 a3 a4 Q) : gM l D Y yX3_add cX3_add 6 (some .int) 1 21 0 0 [.ref h0, .int a1, .int a2, .int a3, .int a4] [oX3 h0 bound modulus seed functions (.ref q_names) (.ref q_kinds) (.ref q_firsts) (.ref q_seconds) (.ref q_degrees) (.ref q_colours) (.ref q_needs) (v_numbers), aI Y q_names 12 names, aI Y q_kinds 12 kinds, aI Y q_firsts 12 firsts, aI Y q_seconds 12 seconds, aI Y q_degrees 12 degrees, aI Y q_colours 12 colours, aI Y q_needs 12 needs] (fun v w => ∃ r : Int32, ∃ functions' : Int32, ∃ names' : Nat → Int32, ∃ kinds' : Nat → Int32, ∃ firsts' : Nat → Int32, ∃ seconds' : Nat → Int32, ∃ degrees' : Nat → Int32, ∃ colours' : Nat → Int32, ∃ needs' : Nat → Int32, v = some (.int r) ∧ w = [oX3 h0 bound modulus seed functions' (.ref q_names) (.ref q_kinds) (.ref q_firsts) (.ref q_seconds) (.ref q_degrees) (.ref q_colours) (.ref q_needs) (v_numbers), aI Y q_names 12 names', aI Y q_kinds 12 kinds', aI Y q_firsts 12 firsts', aI Y q_seconds 12 seconds', aI Y q_degrees 12 degrees', aI Y q_colours 12 colours', aI Y q_needs 12 needs'] ∧ Q r functions' names' kinds' firsts' seconds' degrees' colours' needs') := by
  refine gM_of (own := RX3) (by decide +kernel) rfl (Nat.le_of_ble_eq_true rfl) rfl (fun E C hR => ?_)
  unfold wX3_add at h
  refine g_aload_n C dX3_add_0 0 rfl ?_
  obtain ⟨P_1, hP, h⟩ := h
  refine g_callV (As := []) (rest := []) C (mX3_isFilled l D Y h0 bound modulus seed functions (.ref q_names) (.ref q_kinds) (.ref q_firsts) (.ref q_seconds) (.ref q_degrees) (.ref q_colours) (.ref q_needs) v_numbers P_1 hP) dX3_add_1 rfl wM_X3_82 wI_X3_isFilled wV_X3_isFilled wN_X3 wC_X3_isFilled (n := 0) (by decide +kernel) rfl (q0 := 0) rfl rfl ⟨Nat.le_of_ble_eq_true rfl, Nat.le_of_ble_eq_true rfl⟩ ⟨Nat.le_of_ble_eq_true rfl, Nat.le_of_ble_eq_true rfl⟩ (Nat.le_of_ble_eq_true rfl) [0] [1, 2, 3, 4, 5, 6, 7] rfl rfl rfl (fun v wc hv => ?_)
  obtain ⟨rF_1, rfl, rfl, hq⟩ := hv
  replace h := h rF_1 hq
  refine gG.perm (ws' := [oX3 h0 bound modulus seed functions (.ref q_names) (.ref q_kinds) (.ref q_firsts) (.ref q_seconds) (.ref q_degrees) (.ref q_colours) (.ref q_needs) (v_numbers), aI Y q_names 12 names, aI Y q_kinds 12 kinds, aI Y q_firsts 12 firsts, aI Y q_seconds 12 seconds, aI Y q_degrees 12 degrees, aI Y q_colours 12 colours, aI Y q_needs 12 needs]) [7, 0, 1, 2, 3, 4, 5, 6] rfl rfl ?_
  refine g_if_eq (tgt := 14) C dX3_add_4 (by decide) (fun c_1 => ?_) (fun c_1 => ?_)
  · replace h := h.1 c_1
    refine g_aload_n C dX3_add_14 0 rfl ?_
    refine g_get C inX3 0 rfl rfl 3 (by decide) wF_X3_50 rfl dX3_add_15 ?_
    refine g_istore (lv' := [(5, .int functions), (0, .ref h0), (1, .int a1), (2, .int a2), (3, .int a3), (4, .int a4)]) C dX3_add_18 (by decide) rfl ?_
    refine g_aload_n C dX3_add_20 1 rfl ?_
    refine g_dup C dX3_add_21 rfl ?_
    refine g_get C inX3 0 rfl rfl 3 (by decide) wF_X3_50 rfl dX3_add_22 ?_
    refine g_iconst (v := 1) C dX3_add_25 rfl ?_
    refine g_iadd C dX3_add_26 ?_
    refine g_topi (fun functions_1 efunctions_1 => ?_)
    replace h := h functions_1 efunctions_1
    refine g_put C inX3 tyX3 tyX3_ok nmX3 0 rfl rfl 3 (by decide) wF_X3_50 rfl rfl rfl (Nat.le_of_ble_eq_true rfl) (ws' := [oX3 h0 bound modulus seed functions_1 (.ref q_names) (.ref q_kinds) (.ref q_firsts) (.ref q_seconds) (.ref q_degrees) (.ref q_colours) (.ref q_needs) (v_numbers), aI Y q_names 12 names, aI Y q_kinds 12 kinds, aI Y q_firsts 12 firsts, aI Y q_seconds 12 seconds, aI Y q_degrees 12 degrees, aI Y q_colours 12 colours, aI Y q_needs 12 needs]) rfl dX3_add_27 ?_
    refine g_aload_n C dX3_add_30 1 rfl ?_
    refine g_get C inX3 0 rfl rfl 4 (by decide) wF_X3_9 rfl dX3_add_31 ?_
    refine g_iload C dX3_add_34 0 rfl ?_
    refine g_iload_n C dX3_add_36 2 rfl ?_
    obtain ⟨hc_1, h⟩ := h
    refine g_iast C 1 rfl hc_1 dX3_add_37 (fun names_1 enames_1 => gG.eqw (ws' := [oX3 h0 bound modulus seed functions_1 (.ref q_names) (.ref q_kinds) (.ref q_firsts) (.ref q_seconds) (.ref q_degrees) (.ref q_colours) (.ref q_needs) (v_numbers), aI Y q_names 12 names_1, aI Y q_kinds 12 kinds, aI Y q_firsts 12 firsts, aI Y q_seconds 12 seconds, aI Y q_degrees 12 degrees, aI Y q_colours 12 colours, aI Y q_needs 12 needs]) rfl ?_)
    replace h := h names_1 enames_1
    refine g_aload_n C dX3_add_38 1 rfl ?_
    refine g_get C inX3 0 rfl rfl 5 (by decide) wF_X3_15 rfl dX3_add_39 ?_
    refine g_iload C dX3_add_42 0 rfl ?_
    refine g_iload_n C dX3_add_44 3 rfl ?_
    refine g_iast C 2 rfl hc_1 dX3_add_45 (fun kinds_1 ekinds_1 => gG.eqw (ws' := [oX3 h0 bound modulus seed functions_1 (.ref q_names) (.ref q_kinds) (.ref q_firsts) (.ref q_seconds) (.ref q_degrees) (.ref q_colours) (.ref q_needs) (v_numbers), aI Y q_names 12 names_1, aI Y q_kinds 12 kinds_1, aI Y q_firsts 12 firsts, aI Y q_seconds 12 seconds, aI Y q_degrees 12 degrees, aI Y q_colours 12 colours, aI Y q_needs 12 needs]) rfl ?_)
    replace h := h kinds_1 ekinds_1
    refine g_aload_n C dX3_add_46 1 rfl ?_
    refine g_get C inX3 0 rfl rfl 6 (by decide) wF_X3_18 rfl dX3_add_47 ?_
    refine g_iload C dX3_add_50 0 rfl ?_
    refine g_iload_n C dX3_add_52 4 rfl ?_
    refine g_iast C 3 rfl hc_1 dX3_add_53 (fun firsts_1 efirsts_1 => gG.eqw (ws' := [oX3 h0 bound modulus seed functions_1 (.ref q_names) (.ref q_kinds) (.ref q_firsts) (.ref q_seconds) (.ref q_degrees) (.ref q_colours) (.ref q_needs) (v_numbers), aI Y q_names 12 names_1, aI Y q_kinds 12 kinds_1, aI Y q_firsts 12 firsts_1, aI Y q_seconds 12 seconds, aI Y q_degrees 12 degrees, aI Y q_colours 12 colours, aI Y q_needs 12 needs]) rfl ?_)
    replace h := h firsts_1 efirsts_1
    refine g_aload_n C dX3_add_54 1 rfl ?_
    refine g_get C inX3 0 rfl rfl 7 (by decide) wF_X3_21 rfl dX3_add_55 ?_
    refine g_iload C dX3_add_58 0 rfl ?_
    refine g_iload C dX3_add_60 5 rfl ?_
    refine g_iast C 4 rfl hc_1 dX3_add_62 (fun seconds_1 eseconds_1 => gG.eqw (ws' := [oX3 h0 bound modulus seed functions_1 (.ref q_names) (.ref q_kinds) (.ref q_firsts) (.ref q_seconds) (.ref q_degrees) (.ref q_colours) (.ref q_needs) (v_numbers), aI Y q_names 12 names_1, aI Y q_kinds 12 kinds_1, aI Y q_firsts 12 firsts_1, aI Y q_seconds 12 seconds_1, aI Y q_degrees 12 degrees, aI Y q_colours 12 colours, aI Y q_needs 12 needs]) rfl ?_)
    replace h := h seconds_1 eseconds_1
    refine g_aload_n C dX3_add_63 1 rfl ?_
    refine g_get C inX3 0 rfl rfl 8 (by decide) wF_X3_24 rfl dX3_add_64 ?_
    refine g_iload C dX3_add_67 0 rfl ?_
    refine g_iconst (v := 0) C dX3_add_69 rfl ?_
    refine g_iast C 5 rfl hc_1 dX3_add_70 (fun degrees_1 edegrees_1 => gG.eqw (ws' := [oX3 h0 bound modulus seed functions_1 (.ref q_names) (.ref q_kinds) (.ref q_firsts) (.ref q_seconds) (.ref q_degrees) (.ref q_colours) (.ref q_needs) (v_numbers), aI Y q_names 12 names_1, aI Y q_kinds 12 kinds_1, aI Y q_firsts 12 firsts_1, aI Y q_seconds 12 seconds_1, aI Y q_degrees 12 degrees_1, aI Y q_colours 12 colours, aI Y q_needs 12 needs]) rfl ?_)
    replace h := h degrees_1 edegrees_1
    refine g_aload_n C dX3_add_71 1 rfl ?_
    refine g_get C inX3 0 rfl rfl 9 (by decide) wF_X3_27 rfl dX3_add_72 ?_
    refine g_iload C dX3_add_75 0 rfl ?_
    refine g_iconst (v := 0) C dX3_add_77 rfl ?_
    refine g_iast C 6 rfl hc_1 dX3_add_78 (fun colours_1 ecolours_1 => gG.eqw (ws' := [oX3 h0 bound modulus seed functions_1 (.ref q_names) (.ref q_kinds) (.ref q_firsts) (.ref q_seconds) (.ref q_degrees) (.ref q_colours) (.ref q_needs) (v_numbers), aI Y q_names 12 names_1, aI Y q_kinds 12 kinds_1, aI Y q_firsts 12 firsts_1, aI Y q_seconds 12 seconds_1, aI Y q_degrees 12 degrees_1, aI Y q_colours 12 colours_1, aI Y q_needs 12 needs]) rfl ?_)
    replace h := h colours_1 ecolours_1
    refine g_aload_n C dX3_add_79 1 rfl ?_
    refine g_get C inX3 0 rfl rfl 10 (by decide) wF_X3_30 rfl dX3_add_80 ?_
    refine g_iload C dX3_add_83 0 rfl ?_
    refine g_iconst (v := 1) C dX3_add_85 rfl ?_
    refine g_iload C dX3_add_86 0 rfl ?_
    refine g_ishl C dX3_add_88 ?_
    refine g_aload_n C dX3_add_89 1 rfl ?_
    refine g_iload_n C dX3_add_90 4 rfl ?_
    obtain ⟨P_2, hP, h⟩ := h
    refine g_callV (As := [.int a3]) (rest := [.int (1 <<< (functions &&& 31)), .int functions, .ref q_needs]) C (mX3_has l D Y h0 bound modulus seed functions_1 (.ref q_names) (.ref q_kinds) (.ref q_firsts) (.ref q_seconds) (.ref q_degrees) (.ref q_colours) (.ref q_needs) v_numbers a3 P_2 hP) dX3_add_91 rfl wM_X3_78 wI_X3_has wV_X3_has wN_X3 wC_X3_has (n := 1) (by decide +kernel) rfl (q0 := 0) rfl rfl ⟨Nat.le_of_ble_eq_true rfl, Nat.le_of_ble_eq_true rfl⟩ ⟨Nat.le_of_ble_eq_true rfl, Nat.le_of_ble_eq_true rfl⟩ (Nat.le_of_ble_eq_true rfl) [0] [1, 2, 3, 4, 5, 6, 7] rfl rfl rfl (fun v wc hv => ?_)
    obtain ⟨rF_2, rfl, rfl, hq⟩ := hv
    replace h := h rF_2 hq
    refine gG.perm (ws' := [oX3 h0 bound modulus seed functions_1 (.ref q_names) (.ref q_kinds) (.ref q_firsts) (.ref q_seconds) (.ref q_degrees) (.ref q_colours) (.ref q_needs) (v_numbers), aI Y q_names 12 names_1, aI Y q_kinds 12 kinds_1, aI Y q_firsts 12 firsts_1, aI Y q_seconds 12 seconds_1, aI Y q_degrees 12 degrees_1, aI Y q_colours 12 colours_1, aI Y q_needs 12 needs]) [7, 0, 1, 2, 3, 4, 5, 6] rfl rfl ?_
    refine g_if_eq (tgt := 106) C dX3_add_94 (by decide) (fun c_2 => ?_) (fun c_2 => ?_)
    · replace h := h.1 c_2
      refine g_iconst (v := 0) C dX3_add_106 rfl ?_
      refine g_ior C dX3_add_107 ?_
      refine g_aload_n C dX3_add_108 1 rfl ?_
      refine g_iload C dX3_add_109 5 rfl ?_
      obtain ⟨P_3, hP, h⟩ := h
      refine g_callV (As := [.int a4]) (rest := [.int ((1 <<< (functions &&& 31)) ||| 0), .int functions, .ref q_needs]) C (mX3_has l D Y h0 bound modulus seed functions_1 (.ref q_names) (.ref q_kinds) (.ref q_firsts) (.ref q_seconds) (.ref q_degrees) (.ref q_colours) (.ref q_needs) v_numbers a4 P_3 hP) dX3_add_111 rfl wM_X3_78 wI_X3_has wV_X3_has wN_X3 wC_X3_has (n := 1) (by decide +kernel) rfl (q0 := 0) rfl rfl ⟨Nat.le_of_ble_eq_true rfl, Nat.le_of_ble_eq_true rfl⟩ ⟨Nat.le_of_ble_eq_true rfl, Nat.le_of_ble_eq_true rfl⟩ (Nat.le_of_ble_eq_true rfl) [0] [1, 2, 3, 4, 5, 6, 7] rfl rfl rfl (fun v wc hv => ?_)
      obtain ⟨rF_3, rfl, rfl, hq⟩ := hv
      replace h := h rF_3 hq
      refine gG.perm (ws' := [oX3 h0 bound modulus seed functions_1 (.ref q_names) (.ref q_kinds) (.ref q_firsts) (.ref q_seconds) (.ref q_degrees) (.ref q_colours) (.ref q_needs) (v_numbers), aI Y q_names 12 names_1, aI Y q_kinds 12 kinds_1, aI Y q_firsts 12 firsts_1, aI Y q_seconds 12 seconds_1, aI Y q_degrees 12 degrees_1, aI Y q_colours 12 colours_1, aI Y q_needs 12 needs]) [7, 0, 1, 2, 3, 4, 5, 6] rfl rfl ?_
      refine g_if_eq (tgt := 127) C dX3_add_114 (by decide) (fun c_3 => ?_) (fun c_3 => ?_)
      · replace h := h.1 c_3
        refine g_iconst (v := 0) C dX3_add_127 rfl ?_
        refine g_ior C dX3_add_128 ?_
        refine g_topi (fun e_1 ee_1 => ?_)
        replace h := h e_1 ee_1
        obtain ⟨hc_2, h⟩ := h
        refine g_iast C 7 rfl hc_2 dX3_add_129 (fun needs_1 eneeds_1 => gG.eqw (ws' := [oX3 h0 bound modulus seed functions_1 (.ref q_names) (.ref q_kinds) (.ref q_firsts) (.ref q_seconds) (.ref q_degrees) (.ref q_colours) (.ref q_needs) (v_numbers), aI Y q_names 12 names_1, aI Y q_kinds 12 kinds_1, aI Y q_firsts 12 firsts_1, aI Y q_seconds 12 seconds_1, aI Y q_degrees 12 degrees_1, aI Y q_colours 12 colours_1, aI Y q_needs 12 needs_1]) rfl ?_)
        replace h := h needs_1 eneeds_1
        refine g_iload C dX3_add_130 0 rfl ?_
        exact g_iret C hR (Nat.le_of_ble_eq_true rfl) (Nat.le_of_ble_eq_true rfl) dX3_add_132 ⟨functions, functions_1, names_1, kinds_1, firsts_1, seconds_1, degrees_1, colours_1, needs_1, rfl, rfl, h⟩
      · replace h := h.2 c_3
        refine g_aload_n C dX3_add_117 1 rfl ?_
        refine g_get C inX3 0 rfl rfl 10 (by decide) wF_X3_30 rfl dX3_add_118 ?_
        refine g_iload C dX3_add_121 5 rfl ?_
        obtain ⟨hc_3, h⟩ := h
        refine g_iald C 7 rfl hc_3 dX3_add_123 ?_
        refine g_goto (tgt := 128) C dX3_add_124 (by decide) ?_
        refine g_ior C dX3_add_128 ?_
        refine g_topi (fun e_2 ee_2 => ?_)
        replace h := h e_2 ee_2
        obtain ⟨hc_4, h⟩ := h
        refine g_iast C 7 rfl hc_4 dX3_add_129 (fun needs_2 eneeds_2 => gG.eqw (ws' := [oX3 h0 bound modulus seed functions_1 (.ref q_names) (.ref q_kinds) (.ref q_firsts) (.ref q_seconds) (.ref q_degrees) (.ref q_colours) (.ref q_needs) (v_numbers), aI Y q_names 12 names_1, aI Y q_kinds 12 kinds_1, aI Y q_firsts 12 firsts_1, aI Y q_seconds 12 seconds_1, aI Y q_degrees 12 degrees_1, aI Y q_colours 12 colours_1, aI Y q_needs 12 needs_2]) rfl ?_)
        replace h := h needs_2 eneeds_2
        refine g_iload C dX3_add_130 0 rfl ?_
        exact g_iret C hR (Nat.le_of_ble_eq_true rfl) (Nat.le_of_ble_eq_true rfl) dX3_add_132 ⟨functions, functions_1, names_1, kinds_1, firsts_1, seconds_1, degrees_1, colours_1, needs_2, rfl, rfl, h⟩
    · replace h := h.2 c_2
      refine g_aload_n C dX3_add_97 1 rfl ?_
      refine g_get C inX3 0 rfl rfl 10 (by decide) wF_X3_30 rfl dX3_add_98 ?_
      refine g_iload_n C dX3_add_101 4 rfl ?_
      obtain ⟨hc_5, h⟩ := h
      refine g_iald C 7 rfl hc_5 dX3_add_102 ?_
      refine g_goto (tgt := 107) C dX3_add_103 (by decide) ?_
      refine g_ior C dX3_add_107 ?_
      refine g_aload_n C dX3_add_108 1 rfl ?_
      refine g_iload C dX3_add_109 5 rfl ?_
      obtain ⟨P_4, hP, h⟩ := h
      refine g_callV (As := [.int a4]) (rest := [.int ((1 <<< (functions &&& 31)) ||| (needs a3.toNatClampNeg)), .int functions, .ref q_needs]) C (mX3_has l D Y h0 bound modulus seed functions_1 (.ref q_names) (.ref q_kinds) (.ref q_firsts) (.ref q_seconds) (.ref q_degrees) (.ref q_colours) (.ref q_needs) v_numbers a4 P_4 hP) dX3_add_111 rfl wM_X3_78 wI_X3_has wV_X3_has wN_X3 wC_X3_has (n := 1) (by decide +kernel) rfl (q0 := 0) rfl rfl ⟨Nat.le_of_ble_eq_true rfl, Nat.le_of_ble_eq_true rfl⟩ ⟨Nat.le_of_ble_eq_true rfl, Nat.le_of_ble_eq_true rfl⟩ (Nat.le_of_ble_eq_true rfl) [0] [1, 2, 3, 4, 5, 6, 7] rfl rfl rfl (fun v wc hv => ?_)
      obtain ⟨rF_4, rfl, rfl, hq⟩ := hv
      replace h := h rF_4 hq
      refine gG.perm (ws' := [oX3 h0 bound modulus seed functions_1 (.ref q_names) (.ref q_kinds) (.ref q_firsts) (.ref q_seconds) (.ref q_degrees) (.ref q_colours) (.ref q_needs) (v_numbers), aI Y q_names 12 names_1, aI Y q_kinds 12 kinds_1, aI Y q_firsts 12 firsts_1, aI Y q_seconds 12 seconds_1, aI Y q_degrees 12 degrees_1, aI Y q_colours 12 colours_1, aI Y q_needs 12 needs]) [7, 0, 1, 2, 3, 4, 5, 6] rfl rfl ?_
      refine g_if_eq (tgt := 127) C dX3_add_114 (by decide) (fun c_4 => ?_) (fun c_4 => ?_)
      · replace h := h.1 c_4
        refine g_iconst (v := 0) C dX3_add_127 rfl ?_
        refine g_ior C dX3_add_128 ?_
        refine g_topi (fun e_3 ee_3 => ?_)
        replace h := h e_3 ee_3
        obtain ⟨hc_6, h⟩ := h
        refine g_iast C 7 rfl hc_6 dX3_add_129 (fun needs_3 eneeds_3 => gG.eqw (ws' := [oX3 h0 bound modulus seed functions_1 (.ref q_names) (.ref q_kinds) (.ref q_firsts) (.ref q_seconds) (.ref q_degrees) (.ref q_colours) (.ref q_needs) (v_numbers), aI Y q_names 12 names_1, aI Y q_kinds 12 kinds_1, aI Y q_firsts 12 firsts_1, aI Y q_seconds 12 seconds_1, aI Y q_degrees 12 degrees_1, aI Y q_colours 12 colours_1, aI Y q_needs 12 needs_3]) rfl ?_)
        replace h := h needs_3 eneeds_3
        refine g_iload C dX3_add_130 0 rfl ?_
        exact g_iret C hR (Nat.le_of_ble_eq_true rfl) (Nat.le_of_ble_eq_true rfl) dX3_add_132 ⟨functions, functions_1, names_1, kinds_1, firsts_1, seconds_1, degrees_1, colours_1, needs_3, rfl, rfl, h⟩
      · replace h := h.2 c_4
        refine g_aload_n C dX3_add_117 1 rfl ?_
        refine g_get C inX3 0 rfl rfl 10 (by decide) wF_X3_30 rfl dX3_add_118 ?_
        refine g_iload C dX3_add_121 5 rfl ?_
        obtain ⟨hc_7, h⟩ := h
        refine g_iald C 7 rfl hc_7 dX3_add_123 ?_
        refine g_goto (tgt := 128) C dX3_add_124 (by decide) ?_
        refine g_ior C dX3_add_128 ?_
        refine g_topi (fun t_1 et_1 => ?_)
        replace h := h t_1 et_1
        obtain ⟨hc_8, h⟩ := h
        refine g_iast C 7 rfl hc_8 dX3_add_129 (fun needs_4 eneeds_4 => gG.eqw (ws' := [oX3 h0 bound modulus seed functions_1 (.ref q_names) (.ref q_kinds) (.ref q_firsts) (.ref q_seconds) (.ref q_degrees) (.ref q_colours) (.ref q_needs) (v_numbers), aI Y q_names 12 names_1, aI Y q_kinds 12 kinds_1, aI Y q_firsts 12 firsts_1, aI Y q_seconds 12 seconds_1, aI Y q_degrees 12 degrees_1, aI Y q_colours 12 colours_1, aI Y q_needs 12 needs_4]) rfl ?_)
        replace h := h needs_4 eneeds_4
        refine g_iload C dX3_add_130 0 rfl ?_
        exact g_iret C hR (Nat.le_of_ble_eq_true rfl) (Nat.le_of_ble_eq_true rfl) dX3_add_132 ⟨functions, functions_1, names_1, kinds_1, firsts_1, seconds_1, degrees_1, colours_1, needs_4, rfl, rfl, h⟩
  · replace h := h.2 c_1
    refine g_aload_n C dX3_add_7 0 rfl ?_
    refine g_get C inX3 0 rfl rfl 3 (by decide) wF_X3_50 rfl dX3_add_8 ?_
    refine g_iconst (v := 1) C dX3_add_11 rfl ?_
    refine g_isub C dX3_add_12 ?_
    exact g_iret C hR (Nat.le_of_ble_eq_true rfl) (Nat.le_of_ble_eq_true rfl) dX3_add_13 ⟨functions - 1, functions, names, kinds, firsts, seconds, degrees, colours, needs, rfl, rfl, h⟩
theorem dX3_reset_0 : decode cX3_reset 0 = .ok (.aload_n 0, 1) := by decide +kernel
theorem dX3_reset_1 : decode cX3_reset 1 = .ok (.sipush 1000, 3) := by decide +kernel
theorem dX3_reset_4 : decode cX3_reset 4 = .ok (.putfield 39, 3) := by decide +kernel
theorem dX3_reset_7 : decode cX3_reset 7 = .ok (.aload_n 0, 1) := by decide +kernel
theorem dX3_reset_8 : decode cX3_reset 8 = .ok (.ldc 43, 2) := by decide +kernel
theorem dX3_reset_10 : decode cX3_reset 10 = .ok (.putfield 44, 3) := by decide +kernel
theorem dX3_reset_13 : decode cX3_reset 13 = .ok (.aload_n 0, 1) := by decide +kernel
theorem dX3_reset_14 : decode cX3_reset 14 = .ok (.iconst 0, 1) := by decide +kernel
theorem dX3_reset_15 : decode cX3_reset 15 = .ok (.putfield 47, 3) := by decide +kernel
theorem dX3_reset_18 : decode cX3_reset 18 = .ok (.aload_n 0, 1) := by decide +kernel
theorem dX3_reset_19 : decode cX3_reset 19 = .ok (.iconst 0, 1) := by decide +kernel
theorem dX3_reset_20 : decode cX3_reset 20 = .ok (.putfield 50, 3) := by decide +kernel
theorem dX3_reset_23 : decode cX3_reset 23 = .ok (.aload_n 0, 1) := by decide +kernel
theorem dX3_reset_24 : decode cX3_reset 24 = .ok (.getfield 33, 3) := by decide +kernel
theorem dX3_reset_27 : decode cX3_reset 27 = .ok (.iconst 0, 1) := by decide +kernel
theorem dX3_reset_28 : decode cX3_reset 28 = .ok (.invokestatic 53, 3) := by decide +kernel
theorem dX3_reset_31 : decode cX3_reset 31 = .ok (.iconst 0, 1) := by decide +kernel
theorem dX3_reset_32 : decode cX3_reset 32 = .ok (.istore_n 1, 1) := by decide +kernel
theorem dX3_reset_33 : decode cX3_reset 33 = .ok (.iload_n 1, 1) := by decide +kernel
theorem dX3_reset_34 : decode cX3_reset 34 = .ok (.bipush 6, 2) := by decide +kernel
theorem dX3_reset_36 : decode cX3_reset 36 = .ok (.if_icmp .ge 34, 3) := by decide +kernel
theorem dX3_reset_39 : decode cX3_reset 39 = .ok (.aload_n 0, 1) := by decide +kernel
theorem dX3_reset_40 : decode cX3_reset 40 = .ok (.iload_n 1, 1) := by decide +kernel
theorem dX3_reset_41 : decode cX3_reset 41 = .ok (.invokestatic 59, 3) := by decide +kernel
theorem dX3_reset_44 : decode cX3_reset 44 = .ok (.iconst 0, 1) := by decide +kernel
theorem dX3_reset_45 : decode cX3_reset 45 = .ok (.bipush (-2), 2) := by decide +kernel
theorem dX3_reset_47 : decode cX3_reset 47 = .ok (.bipush (-2), 2) := by decide +kernel
theorem dX3_reset_49 : decode cX3_reset 49 = .ok (.invokevirtual 63, 3) := by decide +kernel
theorem dX3_reset_52 : decode cX3_reset 52 = .ok (.pop, 1) := by decide +kernel
theorem dX3_reset_53 : decode cX3_reset 53 = .ok (.aload_n 0, 1) := by decide +kernel
theorem dX3_reset_54 : decode cX3_reset 54 = .ok (.getfield 24, 3) := by decide +kernel
theorem dX3_reset_57 : decode cX3_reset 57 = .ok (.iload_n 1, 1) := by decide +kernel
theorem dX3_reset_58 : decode cX3_reset 58 = .ok (.getstatic 67, 3) := by decide +kernel
theorem dX3_reset_61 : decode cX3_reset 61 = .ok (.iload_n 1, 1) := by decide +kernel
theorem dX3_reset_62 : decode cX3_reset 62 = .ok (.iaload, 1) := by decide +kernel
theorem dX3_reset_63 : decode cX3_reset 63 = .ok (.iastore, 1) := by decide +kernel
theorem dX3_reset_64 : decode cX3_reset 64 = .ok (.iinc 1 1, 3) := by decide +kernel
theorem dX3_reset_67 : decode cX3_reset 67 = .ok (.goto (-34), 3) := by decide +kernel
theorem dX3_reset_70 : decode cX3_reset 70 = .ok (.return_, 1) := by decide +kernel
/-- QuotientSums$Plan.reset()V -/
def wX3_reset (bound : Int32) (modulus : Int32) (seed : Int32) (functions : Int32) (numbers : Nat → Int32) (names : Nat → Int32) (kinds : Nat → Int32) (firsts : Nat → Int32) (seconds : Nat → Int32) (degrees : Nat → Int32) (colours : Nat → Int32) (needs : Nat → Int32)  (Q : (Int32) → (Int32) → (Int32) → (Int32) → (Nat → Int32) → (Nat → Int32) → (Nat → Int32) → (Nat → Int32) → (Nat → Int32) → (Nat → Int32) → (Nat → Int32) → (Nat → Int32) → Prop) : Prop :=
  (∃ (P_1 : (Nat → Int32) → Prop), wJ7_fill_53178 144 numbers 0 P_1 ∧ ∀ (a1_1 : Nat → Int32), P_1 a1_1 → (∃ (Inv_1 : (Nat → Int32) → (Nat → Int32) → (Nat → Int32) → (Nat → Int32) → (Nat → Int32) → (Nat → Int32) → (Nat → Int32) → (Int32) → (Int32) → Prop) (Mea_1 : (Nat → Int32) → (Nat → Int32) → (Nat → Int32) → (Nat → Int32) → (Nat → Int32) → (Nat → Int32) → (Nat → Int32) → (Int32) → (Int32) → Nat), Inv_1 colours degrees firsts kinds names needs seconds 0 0 ∧ ∀ (colours_1 : Nat → Int32) (degrees_1 : Nat → Int32) (firsts_1 : Nat → Int32) (kinds_1 : Nat → Int32) (names_1 : Nat → Int32) (needs_1 : Nat → Int32) (seconds_1 : Nat → Int32) (functions_1 : Int32) (x1_1 : Int32), Inv_1 colours_1 degrees_1 firsts_1 kinds_1 names_1 needs_1 seconds_1 functions_1 x1_1 → ((6 ≤ x1_1 → (Q 1000 1000003 0 functions_1 a1_1 names_1 kinds_1 firsts_1 seconds_1 degrees_1 colours_1 needs_1)) ∧ (¬ 6 ≤ x1_1 → (∃ (P_2 : (Int32) → Prop), wX3_knownName x1_1 P_2 ∧ ∀ (rF_1 : Int32), P_2 rF_1 → ∃ (P_3 : (Int32) → (Int32) → (Nat → Int32) → (Nat → Int32) → (Nat → Int32) → (Nat → Int32) → (Nat → Int32) → (Nat → Int32) → (Nat → Int32) → Prop), wX3_add 1000 1000003 0 functions_1 names_1 kinds_1 firsts_1 seconds_1 degrees_1 colours_1 needs_1 rF_1 0 (-2) (-2) P_3 ∧ ∀ (rF_2 : Int32) (functions_2 : Int32) (names_2 : Nat → Int32) (kinds_2 : Nat → Int32) (firsts_2 : Nat → Int32) (seconds_2 : Nat → Int32) (degrees_2 : Nat → Int32) (colours_2 : Nat → Int32) (needs_2 : Nat → Int32), P_3 rF_2 functions_2 names_2 kinds_2 firsts_2 seconds_2 degrees_2 colours_2 needs_2 → vp_in x1_1 6 ∧ ∀ e_1 : Int32, e_1 = gDeg x1_1.toNatClampNeg → vp_in x1_1 12 ∧ ∀ degrees_3 : Nat → Int32, degrees_3 = upd degrees_2 x1_1.toNatClampNeg e_1 → (Inv_1 colours_2 degrees_3 firsts_2 kinds_2 names_2 needs_2 seconds_2 functions_2 (x1_1 + 1) ∧ Mea_1 colours_2 degrees_3 firsts_2 kinds_2 names_2 needs_2 seconds_2 functions_2 (x1_1 + 1) < Mea_1 colours_1 degrees_1 firsts_1 kinds_1 names_1 needs_1 seconds_1 functions_1 x1_1))))))
set_option maxHeartbeats 4000000 in
set_option maxRecDepth 100000 in
theorem mX3_reset (l : Launch) (D : va_G) (Y : Nat → ClassId) (h0 : Nat) (bound : Int32) (modulus : Int32) (seed : Int32) (functions : Int32) (q_names : Nat) (q_kinds : Nat) (q_firsts : Nat) (q_seconds : Nat) (q_degrees : Nat) (q_colours : Nat) (q_needs : Nat) (q_numbers : Nat) (numbers : Nat → Int32) (names : Nat → Int32) (kinds : Nat → Int32) (firsts : Nat → Int32) (seconds : Nat → Int32) (degrees : Nat → Int32) (colours : Nat → Int32) (needs : Nat → Int32)  (Q : (Int32) → (Int32) → (Int32) → (Int32) → (Nat → Int32) → (Nat → Int32) → (Nat → Int32) → (Nat → Int32) → (Nat → Int32) → (Nat → Int32) → (Nat → Int32) → (Nat → Int32) → Prop) (h : wX3_reset bound modulus seed functions numbers names kinds firsts seconds degrees colours needs Q) : gM l D Y yX3_reset cX3_reset 2 none 5 108 0 0 [.ref h0] [oX3 h0 bound modulus seed functions (.ref q_names) (.ref q_kinds) (.ref q_firsts) (.ref q_seconds) (.ref q_degrees) (.ref q_colours) (.ref q_needs) (.ref q_numbers), aI Y q_numbers 144 numbers, aI Y q_names 12 names, aI Y q_kinds 12 kinds, aI Y q_firsts 12 firsts, aI Y q_seconds 12 seconds, aI Y q_degrees 12 degrees, aI Y q_colours 12 colours, aI Y q_needs 12 needs] (fun v w => ∃ bound' : Int32, ∃ modulus' : Int32, ∃ seed' : Int32, ∃ functions' : Int32, ∃ numbers' : Nat → Int32, ∃ names' : Nat → Int32, ∃ kinds' : Nat → Int32, ∃ firsts' : Nat → Int32, ∃ seconds' : Nat → Int32, ∃ degrees' : Nat → Int32, ∃ colours' : Nat → Int32, ∃ needs' : Nat → Int32, v = none ∧ w = [oX3 h0 bound' modulus' seed' functions' (.ref q_names) (.ref q_kinds) (.ref q_firsts) (.ref q_seconds) (.ref q_degrees) (.ref q_colours) (.ref q_needs) (.ref q_numbers), aI Y q_numbers 144 numbers', aI Y q_names 12 names', aI Y q_kinds 12 kinds', aI Y q_firsts 12 firsts', aI Y q_seconds 12 seconds', aI Y q_degrees 12 degrees', aI Y q_colours 12 colours', aI Y q_needs 12 needs'] ∧ Q bound' modulus' seed' functions' numbers' names' kinds' firsts' seconds' degrees' colours' needs') := by
  refine gM_of (own := RX3) (by decide +kernel) rfl (Nat.le_of_ble_eq_true rfl) rfl (fun E C hR => ?_)
  unfold wX3_reset at h
  refine g_aload_n C dX3_reset_0 0 rfl ?_
  refine g_sipush (v := 1000) C dX3_reset_1 rfl ?_
  refine g_put C inX3 tyX3 tyX3_ok nmX3 0 rfl rfl 0 (by decide) wF_X3_39 rfl rfl rfl (Nat.le_of_ble_eq_true rfl) (ws' := [oX3 h0 1000 modulus seed functions (.ref q_names) (.ref q_kinds) (.ref q_firsts) (.ref q_seconds) (.ref q_degrees) (.ref q_colours) (.ref q_needs) (.ref q_numbers), aI Y q_numbers 144 numbers, aI Y q_names 12 names, aI Y q_kinds 12 kinds, aI Y q_firsts 12 firsts, aI Y q_seconds 12 seconds, aI Y q_degrees 12 degrees, aI Y q_colours 12 colours, aI Y q_needs 12 needs]) rfl dX3_reset_4 ?_
  refine g_aload_n C dX3_reset_7 0 rfl ?_
  refine g_ldc C dX3_reset_8 wK_X3_43 ?_
  refine g_put C inX3 tyX3 tyX3_ok nmX3 0 rfl rfl 1 (by decide) wF_X3_44 rfl rfl rfl (Nat.le_of_ble_eq_true rfl) (ws' := [oX3 h0 1000 1000003 seed functions (.ref q_names) (.ref q_kinds) (.ref q_firsts) (.ref q_seconds) (.ref q_degrees) (.ref q_colours) (.ref q_needs) (.ref q_numbers), aI Y q_numbers 144 numbers, aI Y q_names 12 names, aI Y q_kinds 12 kinds, aI Y q_firsts 12 firsts, aI Y q_seconds 12 seconds, aI Y q_degrees 12 degrees, aI Y q_colours 12 colours, aI Y q_needs 12 needs]) rfl dX3_reset_10 ?_
  refine g_aload_n C dX3_reset_13 0 rfl ?_
  refine g_iconst (v := 0) C dX3_reset_14 rfl ?_
  refine g_put C inX3 tyX3 tyX3_ok nmX3 0 rfl rfl 2 (by decide) wF_X3_47 rfl rfl rfl (Nat.le_of_ble_eq_true rfl) (ws' := [oX3 h0 1000 1000003 0 functions (.ref q_names) (.ref q_kinds) (.ref q_firsts) (.ref q_seconds) (.ref q_degrees) (.ref q_colours) (.ref q_needs) (.ref q_numbers), aI Y q_numbers 144 numbers, aI Y q_names 12 names, aI Y q_kinds 12 kinds, aI Y q_firsts 12 firsts, aI Y q_seconds 12 seconds, aI Y q_degrees 12 degrees, aI Y q_colours 12 colours, aI Y q_needs 12 needs]) rfl dX3_reset_15 ?_
  refine g_aload_n C dX3_reset_18 0 rfl ?_
  refine g_iconst (v := 0) C dX3_reset_19 rfl ?_
  refine g_put C inX3 tyX3 tyX3_ok nmX3 0 rfl rfl 3 (by decide) wF_X3_50 rfl rfl rfl (Nat.le_of_ble_eq_true rfl) (ws' := [oX3 h0 1000 1000003 0 0 (.ref q_names) (.ref q_kinds) (.ref q_firsts) (.ref q_seconds) (.ref q_degrees) (.ref q_colours) (.ref q_needs) (.ref q_numbers), aI Y q_numbers 144 numbers, aI Y q_names 12 names, aI Y q_kinds 12 kinds, aI Y q_firsts 12 firsts, aI Y q_seconds 12 seconds, aI Y q_degrees 12 degrees, aI Y q_colours 12 colours, aI Y q_needs 12 needs]) rfl dX3_reset_20 ?_
  refine g_aload_n C dX3_reset_23 0 rfl ?_
  refine g_get C inX3 0 rfl rfl 11 (by decide) wF_X3_33 rfl dX3_reset_24 ?_
  refine g_iconst (v := 0) C dX3_reset_27 rfl ?_
  obtain ⟨P_1, hP, h⟩ := h
  refine g_callS (As := [.ref q_numbers, .int 0]) (rest := []) C (mJ7_fill_53178 l D Y q_numbers 144 numbers 0 P_1 hP) dX3_reset_28 rfl wM_X3_53 wS_J7_fill_53178 wN_J7 wC_J7_fill_53178 (n := 2) (by decide +kernel) rfl ⟨Nat.le_of_ble_eq_true rfl, Nat.le_of_ble_eq_true rfl⟩ ⟨Nat.le_of_ble_eq_true rfl, Nat.le_of_ble_eq_true rfl⟩ (Nat.le_of_ble_eq_true rfl) [1] [0, 2, 3, 4, 5, 6, 7, 8] rfl rfl rfl (fun v wc hv => ?_)
  obtain ⟨a1_1, rfl, rfl, hq⟩ := hv
  replace h := h a1_1 hq
  refine gG.perm (ws' := [oX3 h0 1000 1000003 0 0 (.ref q_names) (.ref q_kinds) (.ref q_firsts) (.ref q_seconds) (.ref q_degrees) (.ref q_colours) (.ref q_needs) (.ref q_numbers), aI Y q_numbers 144 a1_1, aI Y q_names 12 names, aI Y q_kinds 12 kinds, aI Y q_firsts 12 firsts, aI Y q_seconds 12 seconds, aI Y q_degrees 12 degrees, aI Y q_colours 12 colours, aI Y q_needs 12 needs]) [0, 8, 1, 2, 3, 4, 5, 6, 7] rfl rfl ?_
  refine g_iconst (v := 0) C dX3_reset_31 rfl ?_
  refine g_istore_n (lv' := [(1, .int 0), (0, .ref h0)]) C dX3_reset_32 (by decide) rfl ?_
  obtain ⟨Inv_1, Mea_1, hI1, hB1⟩ := h
  have key_1 : ∀ (n : Nat) (colours_1 : Nat → Int32) (degrees_1 : Nat → Int32) (firsts_1 : Nat → Int32) (kinds_1 : Nat → Int32) (names_1 : Nat → Int32) (needs_1 : Nat → Int32) (seconds_1 : Nat → Int32) (functions_1 : Int32) (x1_1 : Int32) , Mea_1 colours_1 degrees_1 firsts_1 kinds_1 names_1 needs_1 seconds_1 functions_1 x1_1 < n → Inv_1 colours_1 degrees_1 firsts_1 kinds_1 names_1 needs_1 seconds_1 functions_1 x1_1 → gG E 0 0 [oX3 h0 1000 1000003 0 functions_1 (.ref q_names) (.ref q_kinds) (.ref q_firsts) (.ref q_seconds) (.ref q_degrees) (.ref q_colours) (.ref q_needs) (.ref q_numbers), aI Y q_numbers 144 a1_1, aI Y q_names 12 names_1, aI Y q_kinds 12 kinds_1, aI Y q_firsts 12 firsts_1, aI Y q_seconds 12 seconds_1, aI Y q_degrees 12 degrees_1, aI Y q_colours 12 colours_1, aI Y q_needs 12 needs_1] [(0, .ref h0), (1, .int x1_1)] [] 33 := by
    intro n
    induction n with
    | zero => exact fun _ _ _ _ _ _ _ _ _ hm => absurd hm (Nat.not_lt_zero _)
    | succ n ih1 =>
      intro colours_1 degrees_1 firsts_1 kinds_1 names_1 needs_1 seconds_1 functions_1 x1_1  hm1 hI
      have h := hB1 colours_1 degrees_1 firsts_1 kinds_1 names_1 needs_1 seconds_1 functions_1 x1_1 hI
      refine g_iload_n C dX3_reset_33 1 rfl ?_
      refine g_bipush (v := 6) C dX3_reset_34 rfl ?_
      refine g_icmp_ge (tgt := 70) C dX3_reset_36 (by decide) (fun c_1 => ?_) (fun c_1 => ?_)
      · replace h := h.1 c_1
        exact g_vret C hR (Nat.le_of_ble_eq_true rfl) (Nat.le_of_ble_eq_true rfl) dX3_reset_70 ⟨1000, 1000003, 0, functions_1, a1_1, names_1, kinds_1, firsts_1, seconds_1, degrees_1, colours_1, needs_1, rfl, rfl, h⟩
      · replace h := h.2 c_1
        refine g_aload_n C dX3_reset_39 0 rfl ?_
        refine g_iload_n C dX3_reset_40 1 rfl ?_
        obtain ⟨P_2, hP, h⟩ := h
        refine g_callS (As := [.int x1_1]) (rest := [.ref h0]) C (mX3_knownName l D Y x1_1 P_2 hP) dX3_reset_41 rfl wM_X3_59 wS_X3_knownName wN_X3 wC_X3_knownName (n := 1) (by decide +kernel) rfl ⟨Nat.le_of_ble_eq_true rfl, Nat.le_of_ble_eq_true rfl⟩ ⟨Nat.le_of_ble_eq_true rfl, Nat.le_of_ble_eq_true rfl⟩ (Nat.le_of_ble_eq_true rfl) [] [0, 1, 2, 3, 4, 5, 6, 7, 8] rfl rfl rfl (fun v wc hv => ?_)
        obtain ⟨rF_1, rfl, rfl, hq⟩ := hv
        replace h := h rF_1 hq
        refine gG.eqw (ws' := [oX3 h0 1000 1000003 0 functions_1 (.ref q_names) (.ref q_kinds) (.ref q_firsts) (.ref q_seconds) (.ref q_degrees) (.ref q_colours) (.ref q_needs) (.ref q_numbers), aI Y q_numbers 144 a1_1, aI Y q_names 12 names_1, aI Y q_kinds 12 kinds_1, aI Y q_firsts 12 firsts_1, aI Y q_seconds 12 seconds_1, aI Y q_degrees 12 degrees_1, aI Y q_colours 12 colours_1, aI Y q_needs 12 needs_1]) rfl ?_
        refine g_iconst (v := 0) C dX3_reset_44 rfl ?_
        refine g_bipush (v := (-2)) C dX3_reset_45 rfl ?_
        refine g_bipush (v := (-2)) C dX3_reset_47 rfl ?_
        obtain ⟨P_3, hP, h⟩ := h
        refine g_callV (As := [.int rF_1, .int 0, .int (-2), .int (-2)]) (rest := []) C (mX3_add l D Y h0 1000 1000003 0 functions_1 q_names q_kinds q_firsts q_seconds q_degrees q_colours q_needs (.ref q_numbers) names_1 kinds_1 firsts_1 seconds_1 degrees_1 colours_1 needs_1 rF_1 0 (-2) (-2) P_3 hP) dX3_reset_49 rfl wM_X3_63 wI_X3_add wV_X3_add wN_X3 wC_X3_add (n := 4) (by decide +kernel) rfl (q0 := 0) rfl rfl ⟨Nat.le_of_ble_eq_true rfl, Nat.le_of_ble_eq_true rfl⟩ ⟨Nat.le_of_ble_eq_true rfl, Nat.le_of_ble_eq_true rfl⟩ (Nat.le_of_ble_eq_true rfl) [0, 2, 3, 4, 5, 6, 7, 8] [1] rfl rfl rfl (fun v wc hv => ?_)
        obtain ⟨rF_2, functions_2, names_2, kinds_2, firsts_2, seconds_2, degrees_2, colours_2, needs_2, rfl, rfl, hq⟩ := hv
        replace h := h rF_2 functions_2 names_2 kinds_2 firsts_2 seconds_2 degrees_2 colours_2 needs_2 hq
        refine gG.perm (ws' := [oX3 h0 1000 1000003 0 functions_2 (.ref q_names) (.ref q_kinds) (.ref q_firsts) (.ref q_seconds) (.ref q_degrees) (.ref q_colours) (.ref q_needs) (.ref q_numbers), aI Y q_numbers 144 a1_1, aI Y q_names 12 names_2, aI Y q_kinds 12 kinds_2, aI Y q_firsts 12 firsts_2, aI Y q_seconds 12 seconds_2, aI Y q_degrees 12 degrees_2, aI Y q_colours 12 colours_2, aI Y q_needs 12 needs_2]) [1, 0, 2, 3, 4, 5, 6, 7, 8] rfl rfl ?_
        refine g_pop C dX3_reset_52 rfl ?_
        refine g_aload_n C dX3_reset_53 0 rfl ?_
        refine g_get C inX3 0 rfl rfl 8 (by decide) wF_X3_24 rfl dX3_reset_54 ?_
        refine g_iload_n C dX3_reset_57 1 rfl ?_
        refine g_degrees C wNF_X3_67 dX3_reset_58 ?_
        refine g_iload_n C dX3_reset_61 1 rfl ?_
        obtain ⟨hc_1, h⟩ := h
        refine g_degAt C hc_1 dX3_reset_62 ?_
        refine g_topi (fun e_1 ee_1 => ?_)
        replace h := h e_1 ee_1
        obtain ⟨hc_2, h⟩ := h
        refine g_iast C 6 rfl hc_2 dX3_reset_63 (fun degrees_3 edegrees_3 => gG.eqw (ws' := [oX3 h0 1000 1000003 0 functions_2 (.ref q_names) (.ref q_kinds) (.ref q_firsts) (.ref q_seconds) (.ref q_degrees) (.ref q_colours) (.ref q_needs) (.ref q_numbers), aI Y q_numbers 144 a1_1, aI Y q_names 12 names_2, aI Y q_kinds 12 kinds_2, aI Y q_firsts 12 firsts_2, aI Y q_seconds 12 seconds_2, aI Y q_degrees 12 degrees_3, aI Y q_colours 12 colours_2, aI Y q_needs 12 needs_2]) rfl ?_)
        replace h := h degrees_3 edegrees_3
        refine g_iinc (v := x1_1 + 1) (lv' := [(1, .int (x1_1 + 1)), (0, .ref h0)]) C dX3_reset_64 1 rfl rfl (by decide) rfl ?_
        refine g_goto (tgt := 33) C dX3_reset_67 (by decide) ?_
        refine gG.locals (lv' := [(0, .ref h0), (1, .int (x1_1 + 1))]) [1, 0] rfl ?_
        exact ih1 colours_2 degrees_3 firsts_2 kinds_2 names_2 needs_2 seconds_2 functions_2 (x1_1 + 1) (Nat.lt_of_lt_of_le h.2 (Nat.le_of_lt_succ hm1)) h.1
  refine gG.locals (lv' := [(0, .ref h0), (1, .int 0)]) [1, 0] rfl ?_
  exact key_1 (Mea_1 colours degrees firsts kinds names needs seconds 0 0 + 1) colours degrees firsts kinds names needs seconds 0 0 (Nat.lt_succ_self _) hI1
theorem dX3_init_0 : decode cX3_init 0 = .ok (.aload_n 0, 1) := by decide +kernel
theorem dX3_init_1 : decode cX3_init 1 = .ok (.invokespecial 3, 3) := by decide +kernel
theorem dX3_init_4 : decode cX3_init 4 = .ok (.aload_n 0, 1) := by decide +kernel
theorem dX3_init_5 : decode cX3_init 5 = .ok (.bipush 12, 2) := by decide +kernel
theorem dX3_init_7 : decode cX3_init 7 = .ok (.newarray .int, 2) := by decide +kernel
theorem dX3_init_9 : decode cX3_init 9 = .ok (.putfield 9, 3) := by decide +kernel
theorem dX3_init_12 : decode cX3_init 12 = .ok (.aload_n 0, 1) := by decide +kernel
theorem dX3_init_13 : decode cX3_init 13 = .ok (.bipush 12, 2) := by decide +kernel
theorem dX3_init_15 : decode cX3_init 15 = .ok (.newarray .int, 2) := by decide +kernel
theorem dX3_init_17 : decode cX3_init 17 = .ok (.putfield 15, 3) := by decide +kernel
theorem dX3_init_20 : decode cX3_init 20 = .ok (.aload_n 0, 1) := by decide +kernel
theorem dX3_init_21 : decode cX3_init 21 = .ok (.bipush 12, 2) := by decide +kernel
theorem dX3_init_23 : decode cX3_init 23 = .ok (.newarray .int, 2) := by decide +kernel
theorem dX3_init_25 : decode cX3_init 25 = .ok (.putfield 18, 3) := by decide +kernel
theorem dX3_init_28 : decode cX3_init 28 = .ok (.aload_n 0, 1) := by decide +kernel
theorem dX3_init_29 : decode cX3_init 29 = .ok (.bipush 12, 2) := by decide +kernel
theorem dX3_init_31 : decode cX3_init 31 = .ok (.newarray .int, 2) := by decide +kernel
theorem dX3_init_33 : decode cX3_init 33 = .ok (.putfield 21, 3) := by decide +kernel
theorem dX3_init_36 : decode cX3_init 36 = .ok (.aload_n 0, 1) := by decide +kernel
theorem dX3_init_37 : decode cX3_init 37 = .ok (.bipush 12, 2) := by decide +kernel
theorem dX3_init_39 : decode cX3_init 39 = .ok (.newarray .int, 2) := by decide +kernel
theorem dX3_init_41 : decode cX3_init 41 = .ok (.putfield 24, 3) := by decide +kernel
theorem dX3_init_44 : decode cX3_init 44 = .ok (.aload_n 0, 1) := by decide +kernel
theorem dX3_init_45 : decode cX3_init 45 = .ok (.bipush 12, 2) := by decide +kernel
theorem dX3_init_47 : decode cX3_init 47 = .ok (.newarray .int, 2) := by decide +kernel
theorem dX3_init_49 : decode cX3_init 49 = .ok (.putfield 27, 3) := by decide +kernel
theorem dX3_init_52 : decode cX3_init 52 = .ok (.aload_n 0, 1) := by decide +kernel
theorem dX3_init_53 : decode cX3_init 53 = .ok (.bipush 12, 2) := by decide +kernel
theorem dX3_init_55 : decode cX3_init 55 = .ok (.newarray .int, 2) := by decide +kernel
theorem dX3_init_57 : decode cX3_init 57 = .ok (.putfield 30, 3) := by decide +kernel
theorem dX3_init_60 : decode cX3_init 60 = .ok (.aload_n 0, 1) := by decide +kernel
theorem dX3_init_61 : decode cX3_init 61 = .ok (.sipush 144, 3) := by decide +kernel
theorem dX3_init_64 : decode cX3_init 64 = .ok (.newarray .int, 2) := by decide +kernel
theorem dX3_init_66 : decode cX3_init 66 = .ok (.putfield 33, 3) := by decide +kernel
theorem dX3_init_69 : decode cX3_init 69 = .ok (.aload_n 0, 1) := by decide +kernel
theorem dX3_init_70 : decode cX3_init 70 = .ok (.invokevirtual 36, 3) := by decide +kernel
theorem dX3_init_73 : decode cX3_init 73 = .ok (.return_, 1) := by decide +kernel
/-- QuotientSums$Plan.<init>()V -/
def wX3_init   (Q : (Int32) → (Int32) → (Int32) → (Int32) → (Nat → Int32) → (Nat → Int32) → (Nat → Int32) → (Nat → Int32) → (Nat → Int32) → (Nat → Int32) → (Nat → Int32) → (Nat → Int32) → Prop) : Prop :=
  (∀ z_1 : Nat → Int32, z_1 = (fun _ => 0) → ∀ z_2 : Nat → Int32, z_2 = (fun _ => 0) → ∀ z_3 : Nat → Int32, z_3 = (fun _ => 0) → ∀ z_4 : Nat → Int32, z_4 = (fun _ => 0) → ∀ z_5 : Nat → Int32, z_5 = (fun _ => 0) → ∀ z_6 : Nat → Int32, z_6 = (fun _ => 0) → ∀ z_7 : Nat → Int32, z_7 = (fun _ => 0) → ∀ z_8 : Nat → Int32, z_8 = (fun _ => 0) → ∃ (P_1 : (Int32) → (Int32) → (Int32) → (Int32) → (Nat → Int32) → (Nat → Int32) → (Nat → Int32) → (Nat → Int32) → (Nat → Int32) → (Nat → Int32) → (Nat → Int32) → (Nat → Int32) → Prop), wX3_reset 0 0 0 0 z_8 z_1 z_2 z_3 z_4 z_5 z_6 z_7 P_1 ∧ ∀ (bound_1 : Int32) (modulus_1 : Int32) (seed_1 : Int32) (functions_1 : Int32) (numbers_1 : Nat → Int32) (names_1 : Nat → Int32) (kinds_1 : Nat → Int32) (firsts_1 : Nat → Int32) (seconds_1 : Nat → Int32) (degrees_1 : Nat → Int32) (colours_1 : Nat → Int32) (needs_1 : Nat → Int32), P_1 bound_1 modulus_1 seed_1 functions_1 numbers_1 names_1 kinds_1 firsts_1 seconds_1 degrees_1 colours_1 needs_1 → (Q bound_1 modulus_1 seed_1 functions_1 names_1 kinds_1 firsts_1 seconds_1 degrees_1 colours_1 needs_1 numbers_1))
set_option maxHeartbeats 4000000 in
set_option maxRecDepth 100000 in
theorem mX3_init (l : Launch) (D : va_G) (Y : Nat → ClassId) (h0 : Nat)   (Q : (Int32) → (Int32) → (Int32) → (Int32) → (Nat → Int32) → (Nat → Int32) → (Nat → Int32) → (Nat → Int32) → (Nat → Int32) → (Nat → Int32) → (Nat → Int32) → (Nat → Int32) → Prop) (h : wX3_init  Q) : gM l D Y yX3_init cX3_init 1 none 6 129 8 228 [.ref h0] [oX3 h0 0 0 0 0 (.null) (.null) (.null) (.null) (.null) (.null) (.null) (.null)] (fun v w => ∃ bound' : Int32, ∃ modulus' : Int32, ∃ seed' : Int32, ∃ functions' : Int32, ∃ q_names : Nat, ∃ q_kinds : Nat, ∃ q_firsts : Nat, ∃ q_seconds : Nat, ∃ q_degrees : Nat, ∃ q_colours : Nat, ∃ q_needs : Nat, ∃ q_numbers : Nat, ∃ names' : Nat → Int32, ∃ kinds' : Nat → Int32, ∃ firsts' : Nat → Int32, ∃ seconds' : Nat → Int32, ∃ degrees' : Nat → Int32, ∃ colours' : Nat → Int32, ∃ needs' : Nat → Int32, ∃ numbers' : Nat → Int32, v = none ∧ w = [oX3 h0 bound' modulus' seed' functions' (.ref q_names) (.ref q_kinds) (.ref q_firsts) (.ref q_seconds) (.ref q_degrees) (.ref q_colours) (.ref q_needs) (.ref q_numbers), aI Y q_names 12 names', aI Y q_kinds 12 kinds', aI Y q_firsts 12 firsts', aI Y q_seconds 12 seconds', aI Y q_degrees 12 degrees', aI Y q_colours 12 colours', aI Y q_needs 12 needs', aI Y q_numbers 144 numbers'] ∧ Q bound' modulus' seed' functions' names' kinds' firsts' seconds' degrees' colours' needs' numbers') := by
  refine gM_ofI (own := RX3) (by decide +kernel) rfl rfl (Nat.le_of_ble_eq_true rfl) rfl (fun E C hR hin => ?_)
  unfold wX3_init at h
  refine g_aload_n C dX3_init_0 0 rfl ?_
  refine g_objInit C wM_X3_3 dX3_init_1 (Nat.le_of_ble_eq_true rfl) (Nat.le_of_ble_eq_true rfl) ?_
  refine g_aload_n C dX3_init_4 0 rfl ?_
  refine g_bipush (v := 12) C dX3_init_5 rfl ?_
  refine g_newI C dX3_init_7 (by decide) rfl (Nat.le_of_ble_eq_true rfl) ⟨Nat.le_of_ble_eq_true rfl, Nat.le_of_ble_eq_true rfl⟩ (fun q_1 z_1 ez_1 => gG.eqw (ws' := [oX3 h0 0 0 0 0 (.null) (.null) (.null) (.null) (.null) (.null) (.null) (.null), aI Y q_1 12 z_1]) rfl ?_)
  replace h := h z_1 ez_1
  refine g_putF C inX3 tyX3 tyX3_ok nmX3 0 rfl rfl 4 (by decide) wF_X3_9 rfl hin rfl rfl rfl (Nat.le_of_ble_eq_true rfl) (ws' := [oX3 h0 0 0 0 0 (.ref q_1) (.null) (.null) (.null) (.null) (.null) (.null) (.null), aI Y q_1 12 z_1]) rfl dX3_init_9 ?_
  refine g_aload_n C dX3_init_12 0 rfl ?_
  refine g_bipush (v := 12) C dX3_init_13 rfl ?_
  refine g_newI C dX3_init_15 (by decide) rfl (Nat.le_of_ble_eq_true rfl) ⟨Nat.le_of_ble_eq_true rfl, Nat.le_of_ble_eq_true rfl⟩ (fun q_2 z_2 ez_2 => gG.eqw (ws' := [oX3 h0 0 0 0 0 (.ref q_1) (.null) (.null) (.null) (.null) (.null) (.null) (.null), aI Y q_1 12 z_1, aI Y q_2 12 z_2]) rfl ?_)
  replace h := h z_2 ez_2
  refine g_putF C inX3 tyX3 tyX3_ok nmX3 0 rfl rfl 5 (by decide) wF_X3_15 rfl hin rfl rfl rfl (Nat.le_of_ble_eq_true rfl) (ws' := [oX3 h0 0 0 0 0 (.ref q_1) (.ref q_2) (.null) (.null) (.null) (.null) (.null) (.null), aI Y q_1 12 z_1, aI Y q_2 12 z_2]) rfl dX3_init_17 ?_
  refine g_aload_n C dX3_init_20 0 rfl ?_
  refine g_bipush (v := 12) C dX3_init_21 rfl ?_
  refine g_newI C dX3_init_23 (by decide) rfl (Nat.le_of_ble_eq_true rfl) ⟨Nat.le_of_ble_eq_true rfl, Nat.le_of_ble_eq_true rfl⟩ (fun q_3 z_3 ez_3 => gG.eqw (ws' := [oX3 h0 0 0 0 0 (.ref q_1) (.ref q_2) (.null) (.null) (.null) (.null) (.null) (.null), aI Y q_1 12 z_1, aI Y q_2 12 z_2, aI Y q_3 12 z_3]) rfl ?_)
  replace h := h z_3 ez_3
  refine g_putF C inX3 tyX3 tyX3_ok nmX3 0 rfl rfl 6 (by decide) wF_X3_18 rfl hin rfl rfl rfl (Nat.le_of_ble_eq_true rfl) (ws' := [oX3 h0 0 0 0 0 (.ref q_1) (.ref q_2) (.ref q_3) (.null) (.null) (.null) (.null) (.null), aI Y q_1 12 z_1, aI Y q_2 12 z_2, aI Y q_3 12 z_3]) rfl dX3_init_25 ?_
  refine g_aload_n C dX3_init_28 0 rfl ?_
  refine g_bipush (v := 12) C dX3_init_29 rfl ?_
  refine g_newI C dX3_init_31 (by decide) rfl (Nat.le_of_ble_eq_true rfl) ⟨Nat.le_of_ble_eq_true rfl, Nat.le_of_ble_eq_true rfl⟩ (fun q_4 z_4 ez_4 => gG.eqw (ws' := [oX3 h0 0 0 0 0 (.ref q_1) (.ref q_2) (.ref q_3) (.null) (.null) (.null) (.null) (.null), aI Y q_1 12 z_1, aI Y q_2 12 z_2, aI Y q_3 12 z_3, aI Y q_4 12 z_4]) rfl ?_)
  replace h := h z_4 ez_4
  refine g_putF C inX3 tyX3 tyX3_ok nmX3 0 rfl rfl 7 (by decide) wF_X3_21 rfl hin rfl rfl rfl (Nat.le_of_ble_eq_true rfl) (ws' := [oX3 h0 0 0 0 0 (.ref q_1) (.ref q_2) (.ref q_3) (.ref q_4) (.null) (.null) (.null) (.null), aI Y q_1 12 z_1, aI Y q_2 12 z_2, aI Y q_3 12 z_3, aI Y q_4 12 z_4]) rfl dX3_init_33 ?_
  refine g_aload_n C dX3_init_36 0 rfl ?_
  refine g_bipush (v := 12) C dX3_init_37 rfl ?_
  refine g_newI C dX3_init_39 (by decide) rfl (Nat.le_of_ble_eq_true rfl) ⟨Nat.le_of_ble_eq_true rfl, Nat.le_of_ble_eq_true rfl⟩ (fun q_5 z_5 ez_5 => gG.eqw (ws' := [oX3 h0 0 0 0 0 (.ref q_1) (.ref q_2) (.ref q_3) (.ref q_4) (.null) (.null) (.null) (.null), aI Y q_1 12 z_1, aI Y q_2 12 z_2, aI Y q_3 12 z_3, aI Y q_4 12 z_4, aI Y q_5 12 z_5]) rfl ?_)
  replace h := h z_5 ez_5
  refine g_putF C inX3 tyX3 tyX3_ok nmX3 0 rfl rfl 8 (by decide) wF_X3_24 rfl hin rfl rfl rfl (Nat.le_of_ble_eq_true rfl) (ws' := [oX3 h0 0 0 0 0 (.ref q_1) (.ref q_2) (.ref q_3) (.ref q_4) (.ref q_5) (.null) (.null) (.null), aI Y q_1 12 z_1, aI Y q_2 12 z_2, aI Y q_3 12 z_3, aI Y q_4 12 z_4, aI Y q_5 12 z_5]) rfl dX3_init_41 ?_
  refine g_aload_n C dX3_init_44 0 rfl ?_
  refine g_bipush (v := 12) C dX3_init_45 rfl ?_
  refine g_newI C dX3_init_47 (by decide) rfl (Nat.le_of_ble_eq_true rfl) ⟨Nat.le_of_ble_eq_true rfl, Nat.le_of_ble_eq_true rfl⟩ (fun q_6 z_6 ez_6 => gG.eqw (ws' := [oX3 h0 0 0 0 0 (.ref q_1) (.ref q_2) (.ref q_3) (.ref q_4) (.ref q_5) (.null) (.null) (.null), aI Y q_1 12 z_1, aI Y q_2 12 z_2, aI Y q_3 12 z_3, aI Y q_4 12 z_4, aI Y q_5 12 z_5, aI Y q_6 12 z_6]) rfl ?_)
  replace h := h z_6 ez_6
  refine g_putF C inX3 tyX3 tyX3_ok nmX3 0 rfl rfl 9 (by decide) wF_X3_27 rfl hin rfl rfl rfl (Nat.le_of_ble_eq_true rfl) (ws' := [oX3 h0 0 0 0 0 (.ref q_1) (.ref q_2) (.ref q_3) (.ref q_4) (.ref q_5) (.ref q_6) (.null) (.null), aI Y q_1 12 z_1, aI Y q_2 12 z_2, aI Y q_3 12 z_3, aI Y q_4 12 z_4, aI Y q_5 12 z_5, aI Y q_6 12 z_6]) rfl dX3_init_49 ?_
  refine g_aload_n C dX3_init_52 0 rfl ?_
  refine g_bipush (v := 12) C dX3_init_53 rfl ?_
  refine g_newI C dX3_init_55 (by decide) rfl (Nat.le_of_ble_eq_true rfl) ⟨Nat.le_of_ble_eq_true rfl, Nat.le_of_ble_eq_true rfl⟩ (fun q_7 z_7 ez_7 => gG.eqw (ws' := [oX3 h0 0 0 0 0 (.ref q_1) (.ref q_2) (.ref q_3) (.ref q_4) (.ref q_5) (.ref q_6) (.null) (.null), aI Y q_1 12 z_1, aI Y q_2 12 z_2, aI Y q_3 12 z_3, aI Y q_4 12 z_4, aI Y q_5 12 z_5, aI Y q_6 12 z_6, aI Y q_7 12 z_7]) rfl ?_)
  replace h := h z_7 ez_7
  refine g_putF C inX3 tyX3 tyX3_ok nmX3 0 rfl rfl 10 (by decide) wF_X3_30 rfl hin rfl rfl rfl (Nat.le_of_ble_eq_true rfl) (ws' := [oX3 h0 0 0 0 0 (.ref q_1) (.ref q_2) (.ref q_3) (.ref q_4) (.ref q_5) (.ref q_6) (.ref q_7) (.null), aI Y q_1 12 z_1, aI Y q_2 12 z_2, aI Y q_3 12 z_3, aI Y q_4 12 z_4, aI Y q_5 12 z_5, aI Y q_6 12 z_6, aI Y q_7 12 z_7]) rfl dX3_init_57 ?_
  refine g_aload_n C dX3_init_60 0 rfl ?_
  refine g_sipush (v := 144) C dX3_init_61 rfl ?_
  refine g_newI C dX3_init_64 (by decide) rfl (Nat.le_of_ble_eq_true rfl) ⟨Nat.le_of_ble_eq_true rfl, Nat.le_of_ble_eq_true rfl⟩ (fun q_8 z_8 ez_8 => gG.eqw (ws' := [oX3 h0 0 0 0 0 (.ref q_1) (.ref q_2) (.ref q_3) (.ref q_4) (.ref q_5) (.ref q_6) (.ref q_7) (.null), aI Y q_1 12 z_1, aI Y q_2 12 z_2, aI Y q_3 12 z_3, aI Y q_4 12 z_4, aI Y q_5 12 z_5, aI Y q_6 12 z_6, aI Y q_7 12 z_7, aI Y q_8 144 z_8]) rfl ?_)
  replace h := h z_8 ez_8
  refine g_putF C inX3 tyX3 tyX3_ok nmX3 0 rfl rfl 11 (by decide) wF_X3_33 rfl hin rfl rfl rfl (Nat.le_of_ble_eq_true rfl) (ws' := [oX3 h0 0 0 0 0 (.ref q_1) (.ref q_2) (.ref q_3) (.ref q_4) (.ref q_5) (.ref q_6) (.ref q_7) (.ref q_8), aI Y q_1 12 z_1, aI Y q_2 12 z_2, aI Y q_3 12 z_3, aI Y q_4 12 z_4, aI Y q_5 12 z_5, aI Y q_6 12 z_6, aI Y q_7 12 z_7, aI Y q_8 144 z_8]) rfl dX3_init_66 ?_
  refine g_aload_n C dX3_init_69 0 rfl ?_
  obtain ⟨P_1, hP, h⟩ := h
  refine g_callV (As := []) (rest := []) C (mX3_reset l D Y h0 0 0 0 0 q_1 q_2 q_3 q_4 q_5 q_6 q_7 q_8 z_8 z_1 z_2 z_3 z_4 z_5 z_6 z_7 P_1 hP) dX3_init_70 rfl wM_X3_36 wI_X3_reset wV_X3_reset wN_X3 wC_X3_reset (n := 0) (by decide +kernel) rfl (q0 := 0) rfl rfl ⟨Nat.le_of_ble_eq_true rfl, Nat.le_of_ble_eq_true rfl⟩ ⟨Nat.le_of_ble_eq_true rfl, Nat.le_of_ble_eq_true rfl⟩ (Nat.le_of_ble_eq_true rfl) [0, 8, 1, 2, 3, 4, 5, 6, 7] [] rfl rfl rfl (fun v wc hv => ?_)
  obtain ⟨bound_1, modulus_1, seed_1, functions_1, numbers_1, names_1, kinds_1, firsts_1, seconds_1, degrees_1, colours_1, needs_1, rfl, rfl, hq⟩ := hv
  replace h := h bound_1 modulus_1 seed_1 functions_1 numbers_1 names_1 kinds_1 firsts_1 seconds_1 degrees_1 colours_1 needs_1 hq
  refine gG.perm (ws' := [oX3 h0 bound_1 modulus_1 seed_1 functions_1 (.ref q_1) (.ref q_2) (.ref q_3) (.ref q_4) (.ref q_5) (.ref q_6) (.ref q_7) (.ref q_8), aI Y q_1 12 names_1, aI Y q_2 12 kinds_1, aI Y q_3 12 firsts_1, aI Y q_4 12 seconds_1, aI Y q_5 12 degrees_1, aI Y q_6 12 colours_1, aI Y q_7 12 needs_1, aI Y q_8 144 numbers_1]) [0, 2, 3, 4, 5, 6, 7, 8, 1] rfl rfl ?_
  exact g_vret C hR (Nat.le_of_ble_eq_true rfl) (Nat.le_of_ble_eq_true rfl) dX3_init_73 ⟨bound_1, modulus_1, seed_1, functions_1, q_1, q_2, q_3, q_4, q_5, q_6, q_7, q_8, names_1, kinds_1, firsts_1, seconds_1, degrees_1, colours_1, needs_1, numbers_1, rfl, rfl, h⟩
theorem dX3_cell_0 : decode cX3_cell 0 = .ok (.iload_n 0, 1) := by decide +kernel
theorem dX3_cell_1 : decode cX3_cell 1 = .ok (.bipush 6, 2) := by decide +kernel
theorem dX3_cell_3 : decode cX3_cell 3 = .ok (.imul, 1) := by decide +kernel
theorem dX3_cell_4 : decode cX3_cell 4 = .ok (.iload_n 1, 1) := by decide +kernel
theorem dX3_cell_5 : decode cX3_cell 5 = .ok (.iadd, 1) := by decide +kernel
theorem dX3_cell_6 : decode cX3_cell 6 = .ok (.iconst 1, 1) := by decide +kernel
theorem dX3_cell_7 : decode cX3_cell 7 = .ok (.isub, 1) := by decide +kernel
theorem dX3_cell_8 : decode cX3_cell 8 = .ok (.iconst 2, 1) := by decide +kernel
theorem dX3_cell_9 : decode cX3_cell 9 = .ok (.imul, 1) := by decide +kernel
theorem dX3_cell_10 : decode cX3_cell 10 = .ok (.ireturn, 1) := by decide +kernel
/-- QuotientSums$Plan.cell(II)I -/
def wX3_cell  (a1 : Int32) (a2 : Int32) (Q : (Int32) → Prop) : Prop :=
  (Q ((((a1 * 6) + a2) - 1) * 2))
set_option maxHeartbeats 4000000 in
set_option maxRecDepth 100000 in
theorem mX3_cell (l : Launch) (D : va_G) (Y : Nat → ClassId)   (a1 : Int32) (a2 : Int32) (Q : (Int32) → Prop) (h : wX3_cell a1 a2 Q) : gM l D Y yX3_cell cX3_cell 2 (some .int) 0 0 0 0 [.int a1, .int a2] [] (fun v w => ∃ r : Int32, v = some (.int r) ∧ w = [] ∧ Q r) := by
  refine gM_of (own := RX3) (by decide +kernel) rfl (Nat.le_of_ble_eq_true rfl) rfl (fun E C hR => ?_)
  unfold wX3_cell at h
  refine g_iload_n C dX3_cell_0 0 rfl ?_
  refine g_bipush (v := 6) C dX3_cell_1 rfl ?_
  refine g_imul C dX3_cell_3 ?_
  refine g_iload_n C dX3_cell_4 1 rfl ?_
  refine g_iadd C dX3_cell_5 ?_
  refine g_iconst (v := 1) C dX3_cell_6 rfl ?_
  refine g_isub C dX3_cell_7 ?_
  refine g_iconst (v := 2) C dX3_cell_8 rfl ?_
  refine g_imul C dX3_cell_9 ?_
  exact g_iret C hR (Nat.le_of_ble_eq_true rfl) (Nat.le_of_ble_eq_true rfl) dX3_cell_10 ⟨(((a1 * 6) + a2) - 1) * 2, rfl, rfl, h⟩
theorem dX3_isOwn_0 : decode cX3_isOwn 0 = .ok (.aload_n 0, 1) := by decide +kernel
theorem dX3_isOwn_1 : decode cX3_isOwn 1 = .ok (.iload_n 1, 1) := by decide +kernel
theorem dX3_isOwn_2 : decode cX3_isOwn 2 = .ok (.invokevirtual 78, 3) := by decide +kernel
theorem dX3_isOwn_5 : decode cX3_isOwn 5 = .ok (.ifCond .eq 17, 3) := by decide +kernel
theorem dX3_isOwn_8 : decode cX3_isOwn 8 = .ok (.aload_n 0, 1) := by decide +kernel
theorem dX3_isOwn_9 : decode cX3_isOwn 9 = .ok (.getfield 15, 3) := by decide +kernel
theorem dX3_isOwn_12 : decode cX3_isOwn 12 = .ok (.iload_n 1, 1) := by decide +kernel
theorem dX3_isOwn_13 : decode cX3_isOwn 13 = .ok (.iaload, 1) := by decide +kernel
theorem dX3_isOwn_14 : decode cX3_isOwn 14 = .ok (.iconst 1, 1) := by decide +kernel
theorem dX3_isOwn_15 : decode cX3_isOwn 15 = .ok (.if_icmp .ne 7, 3) := by decide +kernel
theorem dX3_isOwn_18 : decode cX3_isOwn 18 = .ok (.iconst 1, 1) := by decide +kernel
theorem dX3_isOwn_19 : decode cX3_isOwn 19 = .ok (.goto 4, 3) := by decide +kernel
theorem dX3_isOwn_22 : decode cX3_isOwn 22 = .ok (.iconst 0, 1) := by decide +kernel
theorem dX3_isOwn_23 : decode cX3_isOwn 23 = .ok (.ireturn, 1) := by decide +kernel
/-- QuotientSums$Plan.isOwn(I)Z -/
def wX3_isOwn (bound : Int32) (modulus : Int32) (seed : Int32) (functions : Int32) (kinds : Nat → Int32) (a1 : Int32) (Q : (Int32) → Prop) : Prop :=
  (∃ (P_1 : (Int32) → Prop), wX3_has bound modulus seed functions a1 P_1 ∧ ∀ (rF_1 : Int32), P_1 rF_1 → ((rF_1 = 0 → (Q 0)) ∧ (¬ rF_1 = 0 → (vp_in a1 12 ∧ ((¬ (kinds a1.toNatClampNeg) = 1 → (Q 0)) ∧ ((kinds a1.toNatClampNeg) = 1 → (Q 1)))))))
set_option maxHeartbeats 4000000 in
set_option maxRecDepth 100000 in
theorem mX3_isOwn (l : Launch) (D : va_G) (Y : Nat → ClassId) (h0 : Nat) (bound : Int32) (modulus : Int32) (seed : Int32) (functions : Int32) (v_names : Value) (q_kinds : Nat) (v_firsts : Value) (v_seconds : Value) (v_degrees : Value) (v_colours : Value) (v_needs : Value) (v_numbers : Value) (kinds : Nat → Int32) (a1 : Int32) (Q : (Int32) → Prop) (h : wX3_isOwn bound modulus seed functions kinds a1 Q) : gM l D Y yX3_isOwn cX3_isOwn 2 (some .boolean) 1 21 0 0 [.ref h0, .int a1] [oX3 h0 bound modulus seed functions (v_names) (.ref q_kinds) (v_firsts) (v_seconds) (v_degrees) (v_colours) (v_needs) (v_numbers), aI Y q_kinds 12 kinds] (fun v w => ∃ r : Int32, v = some (.int r) ∧ w = [oX3 h0 bound modulus seed functions (v_names) (.ref q_kinds) (v_firsts) (v_seconds) (v_degrees) (v_colours) (v_needs) (v_numbers), aI Y q_kinds 12 kinds] ∧ Q r) := by
  refine gM_of (own := RX3) (by decide +kernel) rfl (Nat.le_of_ble_eq_true rfl) rfl (fun E C hR => ?_)
  unfold wX3_isOwn at h
  refine g_aload_n C dX3_isOwn_0 0 rfl ?_
  refine g_iload_n C dX3_isOwn_1 1 rfl ?_
  obtain ⟨P_1, hP, h⟩ := h
  refine g_callV (As := [.int a1]) (rest := []) C (mX3_has l D Y h0 bound modulus seed functions v_names (.ref q_kinds) v_firsts v_seconds v_degrees v_colours v_needs v_numbers a1 P_1 hP) dX3_isOwn_2 rfl wM_X3_78 wI_X3_has wV_X3_has wN_X3 wC_X3_has (n := 1) (by decide +kernel) rfl (q0 := 0) rfl rfl ⟨Nat.le_of_ble_eq_true rfl, Nat.le_of_ble_eq_true rfl⟩ ⟨Nat.le_of_ble_eq_true rfl, Nat.le_of_ble_eq_true rfl⟩ (Nat.le_of_ble_eq_true rfl) [0] [1] rfl rfl rfl (fun v wc hv => ?_)
  obtain ⟨rF_1, rfl, rfl, hq⟩ := hv
  replace h := h rF_1 hq
  refine gG.perm (ws' := [oX3 h0 bound modulus seed functions (v_names) (.ref q_kinds) (v_firsts) (v_seconds) (v_degrees) (v_colours) (v_needs) (v_numbers), aI Y q_kinds 12 kinds]) [1, 0] rfl rfl ?_
  refine g_if_eq (tgt := 22) C dX3_isOwn_5 (by decide) (fun c_1 => ?_) (fun c_1 => ?_)
  · replace h := h.1 c_1
    refine g_iconst (v := 0) C dX3_isOwn_22 rfl ?_
    exact g_zret C hR (by decide) (Nat.le_of_ble_eq_true rfl) (Nat.le_of_ble_eq_true rfl) dX3_isOwn_23 ⟨0, rfl, rfl, h⟩
  · replace h := h.2 c_1
    refine g_aload_n C dX3_isOwn_8 0 rfl ?_
    refine g_get C inX3 0 rfl rfl 5 (by decide) wF_X3_15 rfl dX3_isOwn_9 ?_
    refine g_iload_n C dX3_isOwn_12 1 rfl ?_
    obtain ⟨hc_1, h⟩ := h
    refine g_iald C 1 rfl hc_1 dX3_isOwn_13 ?_
    refine g_iconst (v := 1) C dX3_isOwn_14 rfl ?_
    refine g_icmp_ne (tgt := 22) C dX3_isOwn_15 (by decide) (fun c_2 => ?_) (fun c_2 => ?_)
    · replace h := h.1 c_2
      refine g_iconst (v := 0) C dX3_isOwn_22 rfl ?_
      exact g_zret C hR (by decide) (Nat.le_of_ble_eq_true rfl) (Nat.le_of_ble_eq_true rfl) dX3_isOwn_23 ⟨0, rfl, rfl, h⟩
    · replace h := h.2 c_2
      refine g_iconst (v := 1) C dX3_isOwn_18 rfl ?_
      refine g_goto (tgt := 23) C dX3_isOwn_19 (by decide) ?_
      exact g_zret C hR (by decide) (Nat.le_of_ble_eq_true rfl) (Nat.le_of_ble_eq_true rfl) dX3_isOwn_23 ⟨1, rfl, rfl, h⟩
theorem dX3_find_0 : decode cX3_find 0 = .ok (.iconst 0, 1) := by decide +kernel
theorem dX3_find_1 : decode cX3_find 1 = .ok (.istore_n 2, 1) := by decide +kernel
theorem dX3_find_2 : decode cX3_find 2 = .ok (.iload_n 2, 1) := by decide +kernel
theorem dX3_find_3 : decode cX3_find 3 = .ok (.aload_n 0, 1) := by decide +kernel
theorem dX3_find_4 : decode cX3_find 4 = .ok (.getfield 50, 3) := by decide +kernel
theorem dX3_find_7 : decode cX3_find 7 = .ok (.if_icmp .ge 21, 3) := by decide +kernel
theorem dX3_find_10 : decode cX3_find 10 = .ok (.aload_n 0, 1) := by decide +kernel
theorem dX3_find_11 : decode cX3_find 11 = .ok (.getfield 9, 3) := by decide +kernel
theorem dX3_find_14 : decode cX3_find 14 = .ok (.iload_n 2, 1) := by decide +kernel
theorem dX3_find_15 : decode cX3_find 15 = .ok (.iaload, 1) := by decide +kernel
theorem dX3_find_16 : decode cX3_find 16 = .ok (.iload_n 1, 1) := by decide +kernel
theorem dX3_find_17 : decode cX3_find 17 = .ok (.if_icmp .ne 5, 3) := by decide +kernel
theorem dX3_find_20 : decode cX3_find 20 = .ok (.iload_n 2, 1) := by decide +kernel
theorem dX3_find_21 : decode cX3_find 21 = .ok (.ireturn, 1) := by decide +kernel
theorem dX3_find_22 : decode cX3_find 22 = .ok (.iinc 2 1, 3) := by decide +kernel
theorem dX3_find_25 : decode cX3_find 25 = .ok (.goto (-23), 3) := by decide +kernel
theorem dX3_find_28 : decode cX3_find 28 = .ok (.iconst (-1), 1) := by decide +kernel
theorem dX3_find_29 : decode cX3_find 29 = .ok (.ireturn, 1) := by decide +kernel
/-- QuotientSums$Plan.find(I)I -/
def wX3_find (bound : Int32) (modulus : Int32) (seed : Int32) (functions : Int32) (names : Nat → Int32) (a1 : Int32) (Q : (Int32) → Prop) : Prop :=
  (∃ (Inv_1 : (Int32) → Prop) (Mea_1 : (Int32) → Nat), Inv_1 0 ∧ ∀ (x2_1 : Int32), Inv_1 x2_1 → ((functions ≤ x2_1 → (Q (-1))) ∧ (¬ functions ≤ x2_1 → (vp_in x2_1 12 ∧ ((¬ (names x2_1.toNatClampNeg) = a1 → (Inv_1 (x2_1 + 1) ∧ Mea_1 (x2_1 + 1) < Mea_1 x2_1)) ∧ ((names x2_1.toNatClampNeg) = a1 → (Q x2_1)))))))
set_option maxHeartbeats 4000000 in
set_option maxRecDepth 100000 in
theorem mX3_find (l : Launch) (D : va_G) (Y : Nat → ClassId) (h0 : Nat) (bound : Int32) (modulus : Int32) (seed : Int32) (functions : Int32) (q_names : Nat) (v_kinds : Value) (v_firsts : Value) (v_seconds : Value) (v_degrees : Value) (v_colours : Value) (v_needs : Value) (v_numbers : Value) (names : Nat → Int32) (a1 : Int32) (Q : (Int32) → Prop) (h : wX3_find bound modulus seed functions names a1 Q) : gM l D Y yX3_find cX3_find 3 (some .int) 0 0 0 0 [.ref h0, .int a1] [oX3 h0 bound modulus seed functions (.ref q_names) (v_kinds) (v_firsts) (v_seconds) (v_degrees) (v_colours) (v_needs) (v_numbers), aI Y q_names 12 names] (fun v w => ∃ r : Int32, v = some (.int r) ∧ w = [oX3 h0 bound modulus seed functions (.ref q_names) (v_kinds) (v_firsts) (v_seconds) (v_degrees) (v_colours) (v_needs) (v_numbers), aI Y q_names 12 names] ∧ Q r) := by
  refine gM_of (own := RX3) (by decide +kernel) rfl (Nat.le_of_ble_eq_true rfl) rfl (fun E C hR => ?_)
  unfold wX3_find at h
  refine g_iconst (v := 0) C dX3_find_0 rfl ?_
  refine g_istore_n (lv' := [(2, .int 0), (0, .ref h0), (1, .int a1)]) C dX3_find_1 (by decide) rfl ?_
  obtain ⟨Inv_1, Mea_1, hI1, hB1⟩ := h
  have key_1 : ∀ (n : Nat) (x2_1 : Int32) , Mea_1 x2_1 < n → Inv_1 x2_1 → gG E 0 0 [oX3 h0 bound modulus seed functions (.ref q_names) (v_kinds) (v_firsts) (v_seconds) (v_degrees) (v_colours) (v_needs) (v_numbers), aI Y q_names 12 names] [(0, .ref h0), (1, .int a1), (2, .int x2_1)] [] 2 := by
    intro n
    induction n with
    | zero => exact fun _ hm => absurd hm (Nat.not_lt_zero _)
    | succ n ih1 =>
      intro x2_1  hm1 hI
      have h := hB1 x2_1 hI
      refine g_iload_n C dX3_find_2 2 rfl ?_
      refine g_aload_n C dX3_find_3 0 rfl ?_
      refine g_get C inX3 0 rfl rfl 3 (by decide) wF_X3_50 rfl dX3_find_4 ?_
      refine g_icmp_ge (tgt := 28) C dX3_find_7 (by decide) (fun c_1 => ?_) (fun c_1 => ?_)
      · replace h := h.1 c_1
        refine g_iconst (v := (-1)) C dX3_find_28 rfl ?_
        exact g_iret C hR (Nat.le_of_ble_eq_true rfl) (Nat.le_of_ble_eq_true rfl) dX3_find_29 ⟨(-1), rfl, rfl, h⟩
      · replace h := h.2 c_1
        refine g_aload_n C dX3_find_10 0 rfl ?_
        refine g_get C inX3 0 rfl rfl 4 (by decide) wF_X3_9 rfl dX3_find_11 ?_
        refine g_iload_n C dX3_find_14 2 rfl ?_
        obtain ⟨hc_1, h⟩ := h
        refine g_iald C 1 rfl hc_1 dX3_find_15 ?_
        refine g_iload_n C dX3_find_16 1 rfl ?_
        refine g_icmp_ne (tgt := 22) C dX3_find_17 (by decide) (fun c_2 => ?_) (fun c_2 => ?_)
        · replace h := h.1 c_2
          refine g_iinc (v := x2_1 + 1) (lv' := [(2, .int (x2_1 + 1)), (0, .ref h0), (1, .int a1)]) C dX3_find_22 2 rfl rfl (by decide) rfl ?_
          refine g_goto (tgt := 2) C dX3_find_25 (by decide) ?_
          refine gG.locals (lv' := [(0, .ref h0), (1, .int a1), (2, .int (x2_1 + 1))]) [1, 2, 0] rfl ?_
          exact ih1 (x2_1 + 1) (Nat.lt_of_lt_of_le h.2 (Nat.le_of_lt_succ hm1)) h.1
        · replace h := h.2 c_2
          refine g_iload_n C dX3_find_20 2 rfl ?_
          exact g_iret C hR (Nat.le_of_ble_eq_true rfl) (Nat.le_of_ble_eq_true rfl) dX3_find_21 ⟨x2_1, rfl, rfl, h⟩
  refine gG.locals (lv' := [(0, .ref h0), (1, .int a1), (2, .int 0)]) [1, 2, 0] rfl ?_
  exact key_1 (Mea_1 0 + 1) 0 (Nat.lt_succ_self _) hI1
theorem dX3_ownFunctions_0 : decode cX3_ownFunctions 0 = .ok (.iconst 0, 1) := by decide +kernel
theorem dX3_ownFunctions_1 : decode cX3_ownFunctions 1 = .ok (.istore_n 1, 1) := by decide +kernel
theorem dX3_ownFunctions_2 : decode cX3_ownFunctions 2 = .ok (.iconst 0, 1) := by decide +kernel
theorem dX3_ownFunctions_3 : decode cX3_ownFunctions 3 = .ok (.istore_n 2, 1) := by decide +kernel
theorem dX3_ownFunctions_4 : decode cX3_ownFunctions 4 = .ok (.iload_n 2, 1) := by decide +kernel
theorem dX3_ownFunctions_5 : decode cX3_ownFunctions 5 = .ok (.aload_n 0, 1) := by decide +kernel
theorem dX3_ownFunctions_6 : decode cX3_ownFunctions 6 = .ok (.getfield 50, 3) := by decide +kernel
theorem dX3_ownFunctions_9 : decode cX3_ownFunctions 9 = .ok (.if_icmp .ge 22, 3) := by decide +kernel
theorem dX3_ownFunctions_12 : decode cX3_ownFunctions 12 = .ok (.aload_n 0, 1) := by decide +kernel
theorem dX3_ownFunctions_13 : decode cX3_ownFunctions 13 = .ok (.getfield 15, 3) := by decide +kernel
theorem dX3_ownFunctions_16 : decode cX3_ownFunctions 16 = .ok (.iload_n 2, 1) := by decide +kernel
theorem dX3_ownFunctions_17 : decode cX3_ownFunctions 17 = .ok (.iaload, 1) := by decide +kernel
theorem dX3_ownFunctions_18 : decode cX3_ownFunctions 18 = .ok (.iconst 1, 1) := by decide +kernel
theorem dX3_ownFunctions_19 : decode cX3_ownFunctions 19 = .ok (.if_icmp .ne 6, 3) := by decide +kernel
theorem dX3_ownFunctions_22 : decode cX3_ownFunctions 22 = .ok (.iinc 1 1, 3) := by decide +kernel
theorem dX3_ownFunctions_25 : decode cX3_ownFunctions 25 = .ok (.iinc 2 1, 3) := by decide +kernel
theorem dX3_ownFunctions_28 : decode cX3_ownFunctions 28 = .ok (.goto (-24), 3) := by decide +kernel
theorem dX3_ownFunctions_31 : decode cX3_ownFunctions 31 = .ok (.iload_n 1, 1) := by decide +kernel
theorem dX3_ownFunctions_32 : decode cX3_ownFunctions 32 = .ok (.ireturn, 1) := by decide +kernel
/-- QuotientSums$Plan.ownFunctions()I -/
def wX3_ownFunctions (bound : Int32) (modulus : Int32) (seed : Int32) (functions : Int32) (kinds : Nat → Int32)  (Q : (Int32) → Prop) : Prop :=
  (∃ (Inv_1 : (Int32) → (Int32) → Prop) (Mea_1 : (Int32) → (Int32) → Nat), Inv_1 0 0 ∧ ∀ (x1_1 : Int32) (x2_1 : Int32), Inv_1 x1_1 x2_1 → ((functions ≤ x2_1 → (Q x1_1)) ∧ (¬ functions ≤ x2_1 → (vp_in x2_1 12 ∧ ((¬ (kinds x2_1.toNatClampNeg) = 1 → (Inv_1 x1_1 (x2_1 + 1) ∧ Mea_1 x1_1 (x2_1 + 1) < Mea_1 x1_1 x2_1)) ∧ ((kinds x2_1.toNatClampNeg) = 1 → (Inv_1 (x1_1 + 1) (x2_1 + 1) ∧ Mea_1 (x1_1 + 1) (x2_1 + 1) < Mea_1 x1_1 x2_1)))))))
set_option maxHeartbeats 4000000 in
set_option maxRecDepth 100000 in
theorem mX3_ownFunctions (l : Launch) (D : va_G) (Y : Nat → ClassId) (h0 : Nat) (bound : Int32) (modulus : Int32) (seed : Int32) (functions : Int32) (v_names : Value) (q_kinds : Nat) (v_firsts : Value) (v_seconds : Value) (v_degrees : Value) (v_colours : Value) (v_needs : Value) (v_numbers : Value) (kinds : Nat → Int32)  (Q : (Int32) → Prop) (h : wX3_ownFunctions bound modulus seed functions kinds Q) : gM l D Y yX3_ownFunctions cX3_ownFunctions 3 (some .int) 0 0 0 0 [.ref h0] [oX3 h0 bound modulus seed functions (v_names) (.ref q_kinds) (v_firsts) (v_seconds) (v_degrees) (v_colours) (v_needs) (v_numbers), aI Y q_kinds 12 kinds] (fun v w => ∃ r : Int32, v = some (.int r) ∧ w = [oX3 h0 bound modulus seed functions (v_names) (.ref q_kinds) (v_firsts) (v_seconds) (v_degrees) (v_colours) (v_needs) (v_numbers), aI Y q_kinds 12 kinds] ∧ Q r) := by
  refine gM_of (own := RX3) (by decide +kernel) rfl (Nat.le_of_ble_eq_true rfl) rfl (fun E C hR => ?_)
  unfold wX3_ownFunctions at h
  refine g_iconst (v := 0) C dX3_ownFunctions_0 rfl ?_
  refine g_istore_n (lv' := [(1, .int 0), (0, .ref h0)]) C dX3_ownFunctions_1 (by decide) rfl ?_
  refine g_iconst (v := 0) C dX3_ownFunctions_2 rfl ?_
  refine g_istore_n (lv' := [(2, .int 0), (1, .int 0), (0, .ref h0)]) C dX3_ownFunctions_3 (by decide) rfl ?_
  obtain ⟨Inv_1, Mea_1, hI1, hB1⟩ := h
  have key_1 : ∀ (n : Nat) (x1_1 : Int32) (x2_1 : Int32) , Mea_1 x1_1 x2_1 < n → Inv_1 x1_1 x2_1 → gG E 0 0 [oX3 h0 bound modulus seed functions (v_names) (.ref q_kinds) (v_firsts) (v_seconds) (v_degrees) (v_colours) (v_needs) (v_numbers), aI Y q_kinds 12 kinds] [(0, .ref h0), (1, .int x1_1), (2, .int x2_1)] [] 4 := by
    intro n
    induction n with
    | zero => exact fun _ _ hm => absurd hm (Nat.not_lt_zero _)
    | succ n ih1 =>
      intro x1_1 x2_1  hm1 hI
      have h := hB1 x1_1 x2_1 hI
      refine g_iload_n C dX3_ownFunctions_4 2 rfl ?_
      refine g_aload_n C dX3_ownFunctions_5 0 rfl ?_
      refine g_get C inX3 0 rfl rfl 3 (by decide) wF_X3_50 rfl dX3_ownFunctions_6 ?_
      refine g_icmp_ge (tgt := 31) C dX3_ownFunctions_9 (by decide) (fun c_1 => ?_) (fun c_1 => ?_)
      · replace h := h.1 c_1
        refine g_iload_n C dX3_ownFunctions_31 1 rfl ?_
        exact g_iret C hR (Nat.le_of_ble_eq_true rfl) (Nat.le_of_ble_eq_true rfl) dX3_ownFunctions_32 ⟨x1_1, rfl, rfl, h⟩
      · replace h := h.2 c_1
        refine g_aload_n C dX3_ownFunctions_12 0 rfl ?_
        refine g_get C inX3 0 rfl rfl 5 (by decide) wF_X3_15 rfl dX3_ownFunctions_13 ?_
        refine g_iload_n C dX3_ownFunctions_16 2 rfl ?_
        obtain ⟨hc_1, h⟩ := h
        refine g_iald C 1 rfl hc_1 dX3_ownFunctions_17 ?_
        refine g_iconst (v := 1) C dX3_ownFunctions_18 rfl ?_
        refine g_icmp_ne (tgt := 25) C dX3_ownFunctions_19 (by decide) (fun c_2 => ?_) (fun c_2 => ?_)
        · replace h := h.1 c_2
          refine g_iinc (v := x2_1 + 1) (lv' := [(2, .int (x2_1 + 1)), (0, .ref h0), (1, .int x1_1)]) C dX3_ownFunctions_25 2 rfl rfl (by decide) rfl ?_
          refine g_goto (tgt := 4) C dX3_ownFunctions_28 (by decide) ?_
          refine gG.locals (lv' := [(0, .ref h0), (1, .int x1_1), (2, .int (x2_1 + 1))]) [1, 2, 0] rfl ?_
          exact ih1 x1_1 (x2_1 + 1) (Nat.lt_of_lt_of_le h.2 (Nat.le_of_lt_succ hm1)) h.1
        · replace h := h.2 c_2
          refine g_iinc (v := x1_1 + 1) (lv' := [(1, .int (x1_1 + 1)), (0, .ref h0), (2, .int x2_1)]) C dX3_ownFunctions_22 1 rfl rfl (by decide) rfl ?_
          refine g_iinc (v := x2_1 + 1) (lv' := [(2, .int (x2_1 + 1)), (1, .int (x1_1 + 1)), (0, .ref h0)]) C dX3_ownFunctions_25 2 rfl rfl (by decide) rfl ?_
          refine g_goto (tgt := 4) C dX3_ownFunctions_28 (by decide) ?_
          refine gG.locals (lv' := [(0, .ref h0), (1, .int (x1_1 + 1)), (2, .int (x2_1 + 1))]) [2, 1, 0] rfl ?_
          exact ih1 (x1_1 + 1) (x2_1 + 1) (Nat.lt_of_lt_of_le h.2 (Nat.le_of_lt_succ hm1)) h.1
  refine gG.locals (lv' := [(0, .ref h0), (1, .int 0), (2, .int 0)]) [2, 1, 0] rfl ?_
  exact key_1 (Mea_1 0 0 + 1) 0 0 (Nat.lt_succ_self _) hI1
theorem dX3_rest_0 : decode cX3_rest 0 = .ok (.aload_n 0, 1) := by decide +kernel
theorem dX3_rest_1 : decode cX3_rest 1 = .ok (.getfield 44, 3) := by decide +kernel
theorem dX3_rest_4 : decode cX3_rest 4 = .ok (.iconst 2, 1) := by decide +kernel
theorem dX3_rest_5 : decode cX3_rest 5 = .ok (.if_icmp .ge 5, 3) := by decide +kernel
theorem dX3_rest_8 : decode cX3_rest 8 = .ok (.iconst 0, 1) := by decide +kernel
theorem dX3_rest_9 : decode cX3_rest 9 = .ok (.ireturn, 1) := by decide +kernel
theorem dX3_rest_10 : decode cX3_rest 10 = .ok (.lload_n 1, 1) := by decide +kernel
theorem dX3_rest_11 : decode cX3_rest 11 = .ok (.aload_n 0, 1) := by decide +kernel
theorem dX3_rest_12 : decode cX3_rest 12 = .ok (.getfield 44, 3) := by decide +kernel
theorem dX3_rest_15 : decode cX3_rest 15 = .ok (.i2l, 1) := by decide +kernel
theorem dX3_rest_16 : decode cX3_rest 16 = .ok (.lrem, 1) := by decide +kernel
theorem dX3_rest_17 : decode cX3_rest 17 = .ok (.l2i, 1) := by decide +kernel
theorem dX3_rest_18 : decode cX3_rest 18 = .ok (.istore_n 3, 1) := by decide +kernel
theorem dX3_rest_19 : decode cX3_rest 19 = .ok (.iload_n 3, 1) := by decide +kernel
theorem dX3_rest_20 : decode cX3_rest 20 = .ok (.ifCond .ge 12, 3) := by decide +kernel
theorem dX3_rest_23 : decode cX3_rest 23 = .ok (.iload_n 3, 1) := by decide +kernel
theorem dX3_rest_24 : decode cX3_rest 24 = .ok (.aload_n 0, 1) := by decide +kernel
theorem dX3_rest_25 : decode cX3_rest 25 = .ok (.getfield 44, 3) := by decide +kernel
theorem dX3_rest_28 : decode cX3_rest 28 = .ok (.iadd, 1) := by decide +kernel
theorem dX3_rest_29 : decode cX3_rest 29 = .ok (.goto 4, 3) := by decide +kernel
theorem dX3_rest_32 : decode cX3_rest 32 = .ok (.iload_n 3, 1) := by decide +kernel
theorem dX3_rest_33 : decode cX3_rest 33 = .ok (.ireturn, 1) := by decide +kernel
/-- QuotientSums$Plan.rest(J)I -/
def wX3_rest (bound : Int32) (modulus : Int32) (seed : Int32) (functions : Int32) (a1 : Int64) (Q : (Int32) → Prop) : Prop :=
  ((2 ≤ modulus → (¬ (modulus.toInt64) = 0 ∧ ∀ x3_1 : Int32, x3_1 = (a1 - a1 / (modulus.toInt64) * (modulus.toInt64)).toInt32 → ((0 ≤ x3_1 → (Q x3_1)) ∧ (¬ 0 ≤ x3_1 → (Q (x3_1 + modulus)))))) ∧ (¬ 2 ≤ modulus → (Q 0)))
set_option maxHeartbeats 4000000 in
set_option maxRecDepth 100000 in
theorem mX3_rest (l : Launch) (D : va_G) (Y : Nat → ClassId) (h0 : Nat) (bound : Int32) (modulus : Int32) (seed : Int32) (functions : Int32) (v_names : Value) (v_kinds : Value) (v_firsts : Value) (v_seconds : Value) (v_degrees : Value) (v_colours : Value) (v_needs : Value) (v_numbers : Value) (a1 : Int64) (Q : (Int32) → Prop) (h : wX3_rest bound modulus seed functions a1 Q) : gM l D Y yX3_rest cX3_rest 4 (some .int) 0 0 0 0 [.ref h0, .long a1] [oX3 h0 bound modulus seed functions (v_names) (v_kinds) (v_firsts) (v_seconds) (v_degrees) (v_colours) (v_needs) (v_numbers)] (fun v w => ∃ r : Int32, v = some (.int r) ∧ w = [oX3 h0 bound modulus seed functions (v_names) (v_kinds) (v_firsts) (v_seconds) (v_degrees) (v_colours) (v_needs) (v_numbers)] ∧ Q r) := by
  refine gM_of (own := RX3) (by decide +kernel) rfl (Nat.le_of_ble_eq_true rfl) rfl (fun E C hR => ?_)
  unfold wX3_rest at h
  refine g_aload_n C dX3_rest_0 0 rfl ?_
  refine g_get C inX3 0 rfl rfl 1 (by decide) wF_X3_44 rfl dX3_rest_1 ?_
  refine g_iconst (v := 2) C dX3_rest_4 rfl ?_
  refine g_icmp_ge (tgt := 10) C dX3_rest_5 (by decide) (fun c_1 => ?_) (fun c_1 => ?_)
  · replace h := h.1 c_1
    refine g_lload_n C dX3_rest_10 1 rfl ?_
    refine g_aload_n C dX3_rest_11 0 rfl ?_
    refine g_get C inX3 0 rfl rfl 1 (by decide) wF_X3_44 rfl dX3_rest_12 ?_
    refine g_i2l C dX3_rest_15 ?_
    obtain ⟨hc_1, h⟩ := h
    refine g_lrem C dX3_rest_16 hc_1 ?_
    refine g_l2i C dX3_rest_17 ?_
    refine g_topi (fun x3_1 ex3_1 => ?_)
    replace h := h x3_1 ex3_1
    refine g_istore_n (lv' := [(3, .int x3_1), (0, .ref h0), (1, .long a1)]) C dX3_rest_18 (by decide) rfl ?_
    refine g_iload_n C dX3_rest_19 0 rfl ?_
    refine g_if_ge (tgt := 32) C dX3_rest_20 (by decide) (fun c_2 => ?_) (fun c_2 => ?_)
    · replace h := h.1 c_2
      refine g_iload_n C dX3_rest_32 0 rfl ?_
      exact g_iret C hR (Nat.le_of_ble_eq_true rfl) (Nat.le_of_ble_eq_true rfl) dX3_rest_33 ⟨x3_1, rfl, rfl, h⟩
    · replace h := h.2 c_2
      refine g_iload_n C dX3_rest_23 0 rfl ?_
      refine g_aload_n C dX3_rest_24 1 rfl ?_
      refine g_get C inX3 0 rfl rfl 1 (by decide) wF_X3_44 rfl dX3_rest_25 ?_
      refine g_iadd C dX3_rest_28 ?_
      refine g_goto (tgt := 33) C dX3_rest_29 (by decide) ?_
      exact g_iret C hR (Nat.le_of_ble_eq_true rfl) (Nat.le_of_ble_eq_true rfl) dX3_rest_33 ⟨x3_1 + modulus, rfl, rfl, h⟩
  · replace h := h.2 c_1
    refine g_iconst (v := 0) C dX3_rest_8 rfl ?_
    exact g_iret C hR (Nat.le_of_ble_eq_true rfl) (Nat.le_of_ble_eq_true rfl) dX3_rest_9 ⟨0, rfl, rfl, h⟩
theorem dX9_init_0 : decode cX9_init 0 = .ok (.aload_n 0, 1) := by decide +kernel
theorem dX9_init_1 : decode cX9_init 1 = .ok (.invokespecial 3, 3) := by decide +kernel
theorem dX9_init_4 : decode cX9_init 4 = .ok (.aload_n 0, 1) := by decide +kernel
theorem dX9_init_5 : decode cX9_init 5 = .ok (.sipush 700, 3) := by decide +kernel
theorem dX9_init_8 : decode cX9_init 8 = .ok (.newarray .int, 2) := by decide +kernel
theorem dX9_init_10 : decode cX9_init 10 = .ok (.putfield 11, 3) := by decide +kernel
theorem dX9_init_13 : decode cX9_init 13 = .ok (.aload_n 0, 1) := by decide +kernel
theorem dX9_init_14 : decode cX9_init 14 = .ok (.sipush 701, 3) := by decide +kernel
theorem dX9_init_17 : decode cX9_init 17 = .ok (.newarray .int, 2) := by decide +kernel
theorem dX9_init_19 : decode cX9_init 19 = .ok (.putfield 15, 3) := by decide +kernel
theorem dX9_init_22 : decode cX9_init 22 = .ok (.aload_n 0, 1) := by decide +kernel
theorem dX9_init_23 : decode cX9_init 23 = .ok (.sipush 701, 3) := by decide +kernel
theorem dX9_init_26 : decode cX9_init 26 = .ok (.newarray .int, 2) := by decide +kernel
theorem dX9_init_28 : decode cX9_init 28 = .ok (.putfield 18, 3) := by decide +kernel
theorem dX9_init_31 : decode cX9_init 31 = .ok (.aload_n 0, 1) := by decide +kernel
theorem dX9_init_32 : decode cX9_init 32 = .ok (.sipush 701, 3) := by decide +kernel
theorem dX9_init_35 : decode cX9_init 35 = .ok (.newarray .int, 2) := by decide +kernel
theorem dX9_init_37 : decode cX9_init 37 = .ok (.putfield 21, 3) := by decide +kernel
theorem dX9_init_40 : decode cX9_init 40 = .ok (.return_, 1) := by decide +kernel
/-- QuotientSums$Tape.<init>()V -/
def wX9_init   (Q : (Int32) → (Int32) → (Int32) → (Int32) → (Nat → Int32) → (Nat → Int32) → (Nat → Int32) → (Nat → Int32) → Prop) : Prop :=
  (∀ z_1 : Nat → Int32, z_1 = (fun _ => 0) → ∀ z_2 : Nat → Int32, z_2 = (fun _ => 0) → ∀ z_3 : Nat → Int32, z_3 = (fun _ => 0) → ∀ z_4 : Nat → Int32, z_4 = (fun _ => 0) → (Q 0 0 0 0 z_1 z_2 z_3 z_4))
set_option maxHeartbeats 4000000 in
set_option maxRecDepth 100000 in
theorem mX9_init (l : Launch) (D : va_G) (Y : Nat → ClassId) (h0 : Nat)   (Q : (Int32) → (Int32) → (Int32) → (Int32) → (Nat → Int32) → (Nat → Int32) → (Nat → Int32) → (Nat → Int32) → Prop) (h : wX9_init  Q) : gM l D Y yX9_init cX9_init 1 none 1 20 4 2803 [.ref h0] [oX9 h0 0 (.null) (.null) (.null) (.null) 0 0 0] (fun v w => ∃ fed' : Int32, ∃ q_bytes : Nat, ∃ q_sorts : Nat, ∃ q_starts : Nat, ∃ q_contents : Nat, ∃ length' : Int32, ∃ tokens' : Int32, ∃ atF' : Int32, ∃ bytes' : Nat → Int32, ∃ sorts' : Nat → Int32, ∃ starts' : Nat → Int32, ∃ contents' : Nat → Int32, v = none ∧ w = [oX9 h0 fed' (.ref q_bytes) (.ref q_sorts) (.ref q_starts) (.ref q_contents) length' tokens' atF', aI Y q_bytes 700 bytes', aI Y q_sorts 701 sorts', aI Y q_starts 701 starts', aI Y q_contents 701 contents'] ∧ Q fed' length' tokens' atF' bytes' sorts' starts' contents') := by
  refine gM_ofI (own := RX9) (by decide +kernel) rfl rfl (Nat.le_of_ble_eq_true rfl) rfl (fun E C hR hin => ?_)
  unfold wX9_init at h
  refine g_aload_n C dX9_init_0 0 rfl ?_
  refine g_objInit C wM_X9_3 dX9_init_1 (Nat.le_of_ble_eq_true rfl) (Nat.le_of_ble_eq_true rfl) ?_
  refine g_aload_n C dX9_init_4 0 rfl ?_
  refine g_sipush (v := 700) C dX9_init_5 rfl ?_
  refine g_newI C dX9_init_8 (by decide) rfl (Nat.le_of_ble_eq_true rfl) ⟨Nat.le_of_ble_eq_true rfl, Nat.le_of_ble_eq_true rfl⟩ (fun q_1 z_1 ez_1 => gG.eqw (ws' := [oX9 h0 0 (.null) (.null) (.null) (.null) 0 0 0, aI Y q_1 700 z_1]) rfl ?_)
  replace h := h z_1 ez_1
  refine g_putF C inX9 tyX9 tyX9_ok nmX9 0 rfl rfl 1 (by decide) wF_X9_11 rfl hin rfl rfl rfl (Nat.le_of_ble_eq_true rfl) (ws' := [oX9 h0 0 (.ref q_1) (.null) (.null) (.null) 0 0 0, aI Y q_1 700 z_1]) rfl dX9_init_10 ?_
  refine g_aload_n C dX9_init_13 0 rfl ?_
  refine g_sipush (v := 701) C dX9_init_14 rfl ?_
  refine g_newI C dX9_init_17 (by decide) rfl (Nat.le_of_ble_eq_true rfl) ⟨Nat.le_of_ble_eq_true rfl, Nat.le_of_ble_eq_true rfl⟩ (fun q_2 z_2 ez_2 => gG.eqw (ws' := [oX9 h0 0 (.ref q_1) (.null) (.null) (.null) 0 0 0, aI Y q_1 700 z_1, aI Y q_2 701 z_2]) rfl ?_)
  replace h := h z_2 ez_2
  refine g_putF C inX9 tyX9 tyX9_ok nmX9 0 rfl rfl 2 (by decide) wF_X9_15 rfl hin rfl rfl rfl (Nat.le_of_ble_eq_true rfl) (ws' := [oX9 h0 0 (.ref q_1) (.ref q_2) (.null) (.null) 0 0 0, aI Y q_1 700 z_1, aI Y q_2 701 z_2]) rfl dX9_init_19 ?_
  refine g_aload_n C dX9_init_22 0 rfl ?_
  refine g_sipush (v := 701) C dX9_init_23 rfl ?_
  refine g_newI C dX9_init_26 (by decide) rfl (Nat.le_of_ble_eq_true rfl) ⟨Nat.le_of_ble_eq_true rfl, Nat.le_of_ble_eq_true rfl⟩ (fun q_3 z_3 ez_3 => gG.eqw (ws' := [oX9 h0 0 (.ref q_1) (.ref q_2) (.null) (.null) 0 0 0, aI Y q_1 700 z_1, aI Y q_2 701 z_2, aI Y q_3 701 z_3]) rfl ?_)
  replace h := h z_3 ez_3
  refine g_putF C inX9 tyX9 tyX9_ok nmX9 0 rfl rfl 3 (by decide) wF_X9_18 rfl hin rfl rfl rfl (Nat.le_of_ble_eq_true rfl) (ws' := [oX9 h0 0 (.ref q_1) (.ref q_2) (.ref q_3) (.null) 0 0 0, aI Y q_1 700 z_1, aI Y q_2 701 z_2, aI Y q_3 701 z_3]) rfl dX9_init_28 ?_
  refine g_aload_n C dX9_init_31 0 rfl ?_
  refine g_sipush (v := 701) C dX9_init_32 rfl ?_
  refine g_newI C dX9_init_35 (by decide) rfl (Nat.le_of_ble_eq_true rfl) ⟨Nat.le_of_ble_eq_true rfl, Nat.le_of_ble_eq_true rfl⟩ (fun q_4 z_4 ez_4 => gG.eqw (ws' := [oX9 h0 0 (.ref q_1) (.ref q_2) (.ref q_3) (.null) 0 0 0, aI Y q_1 700 z_1, aI Y q_2 701 z_2, aI Y q_3 701 z_3, aI Y q_4 701 z_4]) rfl ?_)
  replace h := h z_4 ez_4
  refine g_putF C inX9 tyX9 tyX9_ok nmX9 0 rfl rfl 4 (by decide) wF_X9_21 rfl hin rfl rfl rfl (Nat.le_of_ble_eq_true rfl) (ws' := [oX9 h0 0 (.ref q_1) (.ref q_2) (.ref q_3) (.ref q_4) 0 0 0, aI Y q_1 700 z_1, aI Y q_2 701 z_2, aI Y q_3 701 z_3, aI Y q_4 701 z_4]) rfl dX9_init_37 ?_
  exact g_vret C hR (Nat.le_of_ble_eq_true rfl) (Nat.le_of_ble_eq_true rfl) dX9_init_40 ⟨0, q_1, q_2, q_3, q_4, 0, 0, 0, z_1, z_2, z_3, z_4, rfl, rfl, h⟩
theorem dX9_here_0 : decode cX9_here 0 = .ok (.aload_n 0, 1) := by decide +kernel
theorem dX9_here_1 : decode cX9_here 1 = .ok (.getfield 43, 3) := by decide +kernel
theorem dX9_here_4 : decode cX9_here 4 = .ok (.aload_n 0, 1) := by decide +kernel
theorem dX9_here_5 : decode cX9_here 5 = .ok (.getfield 31, 3) := by decide +kernel
theorem dX9_here_8 : decode cX9_here 8 = .ok (.if_icmp .ge 15, 3) := by decide +kernel
theorem dX9_here_11 : decode cX9_here 11 = .ok (.aload_n 0, 1) := by decide +kernel
theorem dX9_here_12 : decode cX9_here 12 = .ok (.getfield 11, 3) := by decide +kernel
theorem dX9_here_15 : decode cX9_here 15 = .ok (.aload_n 0, 1) := by decide +kernel
theorem dX9_here_16 : decode cX9_here 16 = .ok (.getfield 43, 3) := by decide +kernel
theorem dX9_here_19 : decode cX9_here 19 = .ok (.iaload, 1) := by decide +kernel
theorem dX9_here_20 : decode cX9_here 20 = .ok (.goto 4, 3) := by decide +kernel
theorem dX9_here_23 : decode cX9_here 23 = .ok (.iconst 0, 1) := by decide +kernel
theorem dX9_here_24 : decode cX9_here 24 = .ok (.ireturn, 1) := by decide +kernel
/-- QuotientSums$Tape.here()I -/
def wX9_here (fed : Int32) (length : Int32) (tokens : Int32) (atF : Int32) (bytes : Nat → Int32)  (Q : (Int32) → Prop) : Prop :=
  ((length ≤ atF → (Q 0)) ∧ (¬ length ≤ atF → (vp_in atF 700 ∧ (Q (bytes atF.toNatClampNeg)))))
set_option maxHeartbeats 4000000 in
set_option maxRecDepth 100000 in
theorem mX9_here (l : Launch) (D : va_G) (Y : Nat → ClassId) (h0 : Nat) (fed : Int32) (q_bytes : Nat) (v_sorts : Value) (v_starts : Value) (v_contents : Value) (length : Int32) (tokens : Int32) (atF : Int32) (bytes : Nat → Int32)  (Q : (Int32) → Prop) (h : wX9_here fed length tokens atF bytes Q) : gM l D Y yX9_here cX9_here 1 (some .int) 0 0 0 0 [.ref h0] [oX9 h0 fed (.ref q_bytes) (v_sorts) (v_starts) (v_contents) length tokens atF, aI Y q_bytes 700 bytes] (fun v w => ∃ r : Int32, v = some (.int r) ∧ w = [oX9 h0 fed (.ref q_bytes) (v_sorts) (v_starts) (v_contents) length tokens atF, aI Y q_bytes 700 bytes] ∧ Q r) := by
  refine gM_of (own := RX9) (by decide +kernel) rfl (Nat.le_of_ble_eq_true rfl) rfl (fun E C hR => ?_)
  unfold wX9_here at h
  refine g_aload_n C dX9_here_0 0 rfl ?_
  refine g_get C inX9 0 rfl rfl 7 (by decide) wF_X9_43 rfl dX9_here_1 ?_
  refine g_aload_n C dX9_here_4 0 rfl ?_
  refine g_get C inX9 0 rfl rfl 5 (by decide) wF_X9_31 rfl dX9_here_5 ?_
  refine g_icmp_ge (tgt := 23) C dX9_here_8 (by decide) (fun c_1 => ?_) (fun c_1 => ?_)
  · replace h := h.1 c_1
    refine g_iconst (v := 0) C dX9_here_23 rfl ?_
    exact g_iret C hR (Nat.le_of_ble_eq_true rfl) (Nat.le_of_ble_eq_true rfl) dX9_here_24 ⟨0, rfl, rfl, h⟩
  · replace h := h.2 c_1
    refine g_aload_n C dX9_here_11 0 rfl ?_
    refine g_get C inX9 0 rfl rfl 1 (by decide) wF_X9_11 rfl dX9_here_12 ?_
    refine g_aload_n C dX9_here_15 0 rfl ?_
    refine g_get C inX9 0 rfl rfl 7 (by decide) wF_X9_43 rfl dX9_here_16 ?_
    obtain ⟨hc_1, h⟩ := h
    refine g_iald C 1 rfl hc_1 dX9_here_19 ?_
    refine g_goto (tgt := 24) C dX9_here_20 (by decide) ?_
    exact g_iret C hR (Nat.le_of_ble_eq_true rfl) (Nat.le_of_ble_eq_true rfl) dX9_here_24 ⟨bytes atF.toNatClampNeg, rfl, rfl, h⟩
theorem dX9_isBlank_0 : decode cX9_isBlank 0 = .ok (.aload_n 0, 1) := by decide +kernel
theorem dX9_isBlank_1 : decode cX9_isBlank 1 = .ok (.invokevirtual 71, 3) := by decide +kernel
theorem dX9_isBlank_4 : decode cX9_isBlank 4 = .ok (.bipush 10, 2) := by decide +kernel
theorem dX9_isBlank_6 : decode cX9_isBlank 6 = .ok (.if_icmp .eq 12, 3) := by decide +kernel
theorem dX9_isBlank_9 : decode cX9_isBlank 9 = .ok (.aload_n 0, 1) := by decide +kernel
theorem dX9_isBlank_10 : decode cX9_isBlank 10 = .ok (.invokevirtual 71, 3) := by decide +kernel
theorem dX9_isBlank_13 : decode cX9_isBlank 13 = .ok (.bipush 32, 2) := by decide +kernel
theorem dX9_isBlank_15 : decode cX9_isBlank 15 = .ok (.if_icmp .ne 7, 3) := by decide +kernel
theorem dX9_isBlank_18 : decode cX9_isBlank 18 = .ok (.iconst 1, 1) := by decide +kernel
theorem dX9_isBlank_19 : decode cX9_isBlank 19 = .ok (.goto 4, 3) := by decide +kernel
theorem dX9_isBlank_22 : decode cX9_isBlank 22 = .ok (.iconst 0, 1) := by decide +kernel
theorem dX9_isBlank_23 : decode cX9_isBlank 23 = .ok (.ireturn, 1) := by decide +kernel
/-- QuotientSums$Tape.isBlank()Z -/
def wX9_isBlank (fed : Int32) (length : Int32) (tokens : Int32) (atF : Int32) (bytes : Nat → Int32)  (Q : (Int32) → Prop) : Prop :=
  (∃ (P_1 : (Int32) → Prop), wX9_here fed length tokens atF bytes P_1 ∧ ∀ (rF_1 : Int32), P_1 rF_1 → ((rF_1 = 10 → (Q 1)) ∧ (¬ rF_1 = 10 → (∃ (P_2 : (Int32) → Prop), wX9_here fed length tokens atF bytes P_2 ∧ ∀ (rF_2 : Int32), P_2 rF_2 → ((¬ rF_2 = 32 → (Q 0)) ∧ (rF_2 = 32 → (Q 1)))))))
set_option maxHeartbeats 4000000 in
set_option maxRecDepth 100000 in
theorem mX9_isBlank (l : Launch) (D : va_G) (Y : Nat → ClassId) (h0 : Nat) (fed : Int32) (q_bytes : Nat) (v_sorts : Value) (v_starts : Value) (v_contents : Value) (length : Int32) (tokens : Int32) (atF : Int32) (bytes : Nat → Int32)  (Q : (Int32) → Prop) (h : wX9_isBlank fed length tokens atF bytes Q) : gM l D Y yX9_isBlank cX9_isBlank 1 (some .boolean) 1 20 0 0 [.ref h0] [oX9 h0 fed (.ref q_bytes) (v_sorts) (v_starts) (v_contents) length tokens atF, aI Y q_bytes 700 bytes] (fun v w => ∃ r : Int32, v = some (.int r) ∧ w = [oX9 h0 fed (.ref q_bytes) (v_sorts) (v_starts) (v_contents) length tokens atF, aI Y q_bytes 700 bytes] ∧ Q r) := by
  refine gM_of (own := RX9) (by decide +kernel) rfl (Nat.le_of_ble_eq_true rfl) rfl (fun E C hR => ?_)
  unfold wX9_isBlank at h
  refine g_aload_n C dX9_isBlank_0 0 rfl ?_
  obtain ⟨P_1, hP, h⟩ := h
  refine g_callV (As := []) (rest := []) C (mX9_here l D Y h0 fed q_bytes v_sorts v_starts v_contents length tokens atF bytes P_1 hP) dX9_isBlank_1 rfl wM_X9_71 wI_X9_here wV_X9_here wN_X9 wC_X9_here (n := 0) (by decide +kernel) rfl (q0 := 0) rfl rfl ⟨Nat.le_of_ble_eq_true rfl, Nat.le_of_ble_eq_true rfl⟩ ⟨Nat.le_of_ble_eq_true rfl, Nat.le_of_ble_eq_true rfl⟩ (Nat.le_of_ble_eq_true rfl) [0, 1] [] rfl rfl rfl (fun v wc hv => ?_)
  obtain ⟨rF_1, rfl, rfl, hq⟩ := hv
  replace h := h rF_1 hq
  refine gG.eqw (ws' := [oX9 h0 fed (.ref q_bytes) (v_sorts) (v_starts) (v_contents) length tokens atF, aI Y q_bytes 700 bytes]) rfl ?_
  refine g_bipush (v := 10) C dX9_isBlank_4 rfl ?_
  refine g_icmp_eq (tgt := 18) C dX9_isBlank_6 (by decide) (fun c_1 => ?_) (fun c_1 => ?_)
  · replace h := h.1 c_1
    refine g_iconst (v := 1) C dX9_isBlank_18 rfl ?_
    refine g_goto (tgt := 23) C dX9_isBlank_19 (by decide) ?_
    exact g_zret C hR (by decide) (Nat.le_of_ble_eq_true rfl) (Nat.le_of_ble_eq_true rfl) dX9_isBlank_23 ⟨1, rfl, rfl, h⟩
  · replace h := h.2 c_1
    refine g_aload_n C dX9_isBlank_9 0 rfl ?_
    obtain ⟨P_2, hP, h⟩ := h
    refine g_callV (As := []) (rest := []) C (mX9_here l D Y h0 fed q_bytes v_sorts v_starts v_contents length tokens atF bytes P_2 hP) dX9_isBlank_10 rfl wM_X9_71 wI_X9_here wV_X9_here wN_X9 wC_X9_here (n := 0) (by decide +kernel) rfl (q0 := 0) rfl rfl ⟨Nat.le_of_ble_eq_true rfl, Nat.le_of_ble_eq_true rfl⟩ ⟨Nat.le_of_ble_eq_true rfl, Nat.le_of_ble_eq_true rfl⟩ (Nat.le_of_ble_eq_true rfl) [0, 1] [] rfl rfl rfl (fun v wc hv => ?_)
    obtain ⟨rF_2, rfl, rfl, hq⟩ := hv
    replace h := h rF_2 hq
    refine gG.eqw (ws' := [oX9 h0 fed (.ref q_bytes) (v_sorts) (v_starts) (v_contents) length tokens atF, aI Y q_bytes 700 bytes]) rfl ?_
    refine g_bipush (v := 32) C dX9_isBlank_13 rfl ?_
    refine g_icmp_ne (tgt := 22) C dX9_isBlank_15 (by decide) (fun c_2 => ?_) (fun c_2 => ?_)
    · replace h := h.1 c_2
      refine g_iconst (v := 0) C dX9_isBlank_22 rfl ?_
      exact g_zret C hR (by decide) (Nat.le_of_ble_eq_true rfl) (Nat.le_of_ble_eq_true rfl) dX9_isBlank_23 ⟨0, rfl, rfl, h⟩
    · replace h := h.2 c_2
      refine g_iconst (v := 1) C dX9_isBlank_18 rfl ?_
      refine g_goto (tgt := 23) C dX9_isBlank_19 (by decide) ?_
      exact g_zret C hR (by decide) (Nat.le_of_ble_eq_true rfl) (Nat.le_of_ble_eq_true rfl) dX9_isBlank_23 ⟨1, rfl, rfl, h⟩
theorem dX9_isLetter_0 : decode cX9_isLetter 0 = .ok (.aload_n 0, 1) := by decide +kernel
theorem dX9_isLetter_1 : decode cX9_isLetter 1 = .ok (.invokevirtual 71, 3) := by decide +kernel
theorem dX9_isLetter_4 : decode cX9_isLetter 4 = .ok (.bipush 97, 2) := by decide +kernel
theorem dX9_isLetter_6 : decode cX9_isLetter 6 = .ok (.if_icmp .lt 16, 3) := by decide +kernel
theorem dX9_isLetter_9 : decode cX9_isLetter 9 = .ok (.aload_n 0, 1) := by decide +kernel
theorem dX9_isLetter_10 : decode cX9_isLetter 10 = .ok (.invokevirtual 71, 3) := by decide +kernel
theorem dX9_isLetter_13 : decode cX9_isLetter 13 = .ok (.bipush 122, 2) := by decide +kernel
theorem dX9_isLetter_15 : decode cX9_isLetter 15 = .ok (.if_icmp .gt 7, 3) := by decide +kernel
theorem dX9_isLetter_18 : decode cX9_isLetter 18 = .ok (.iconst 1, 1) := by decide +kernel
theorem dX9_isLetter_19 : decode cX9_isLetter 19 = .ok (.goto 4, 3) := by decide +kernel
theorem dX9_isLetter_22 : decode cX9_isLetter 22 = .ok (.iconst 0, 1) := by decide +kernel
theorem dX9_isLetter_23 : decode cX9_isLetter 23 = .ok (.ireturn, 1) := by decide +kernel
/-- QuotientSums$Tape.isLetter()Z -/
def wX9_isLetter (fed : Int32) (length : Int32) (tokens : Int32) (atF : Int32) (bytes : Nat → Int32)  (Q : (Int32) → Prop) : Prop :=
  (∃ (P_1 : (Int32) → Prop), wX9_here fed length tokens atF bytes P_1 ∧ ∀ (rF_1 : Int32), P_1 rF_1 → ((rF_1 < 97 → (Q 0)) ∧ (¬ rF_1 < 97 → (∃ (P_2 : (Int32) → Prop), wX9_here fed length tokens atF bytes P_2 ∧ ∀ (rF_2 : Int32), P_2 rF_2 → ((122 < rF_2 → (Q 0)) ∧ (¬ 122 < rF_2 → (Q 1)))))))
set_option maxHeartbeats 4000000 in
set_option maxRecDepth 100000 in
theorem mX9_isLetter (l : Launch) (D : va_G) (Y : Nat → ClassId) (h0 : Nat) (fed : Int32) (q_bytes : Nat) (v_sorts : Value) (v_starts : Value) (v_contents : Value) (length : Int32) (tokens : Int32) (atF : Int32) (bytes : Nat → Int32)  (Q : (Int32) → Prop) (h : wX9_isLetter fed length tokens atF bytes Q) : gM l D Y yX9_isLetter cX9_isLetter 1 (some .boolean) 1 20 0 0 [.ref h0] [oX9 h0 fed (.ref q_bytes) (v_sorts) (v_starts) (v_contents) length tokens atF, aI Y q_bytes 700 bytes] (fun v w => ∃ r : Int32, v = some (.int r) ∧ w = [oX9 h0 fed (.ref q_bytes) (v_sorts) (v_starts) (v_contents) length tokens atF, aI Y q_bytes 700 bytes] ∧ Q r) := by
  refine gM_of (own := RX9) (by decide +kernel) rfl (Nat.le_of_ble_eq_true rfl) rfl (fun E C hR => ?_)
  unfold wX9_isLetter at h
  refine g_aload_n C dX9_isLetter_0 0 rfl ?_
  obtain ⟨P_1, hP, h⟩ := h
  refine g_callV (As := []) (rest := []) C (mX9_here l D Y h0 fed q_bytes v_sorts v_starts v_contents length tokens atF bytes P_1 hP) dX9_isLetter_1 rfl wM_X9_71 wI_X9_here wV_X9_here wN_X9 wC_X9_here (n := 0) (by decide +kernel) rfl (q0 := 0) rfl rfl ⟨Nat.le_of_ble_eq_true rfl, Nat.le_of_ble_eq_true rfl⟩ ⟨Nat.le_of_ble_eq_true rfl, Nat.le_of_ble_eq_true rfl⟩ (Nat.le_of_ble_eq_true rfl) [0, 1] [] rfl rfl rfl (fun v wc hv => ?_)
  obtain ⟨rF_1, rfl, rfl, hq⟩ := hv
  replace h := h rF_1 hq
  refine gG.eqw (ws' := [oX9 h0 fed (.ref q_bytes) (v_sorts) (v_starts) (v_contents) length tokens atF, aI Y q_bytes 700 bytes]) rfl ?_
  refine g_bipush (v := 97) C dX9_isLetter_4 rfl ?_
  refine g_icmp_lt (tgt := 22) C dX9_isLetter_6 (by decide) (fun c_1 => ?_) (fun c_1 => ?_)
  · replace h := h.1 c_1
    refine g_iconst (v := 0) C dX9_isLetter_22 rfl ?_
    exact g_zret C hR (by decide) (Nat.le_of_ble_eq_true rfl) (Nat.le_of_ble_eq_true rfl) dX9_isLetter_23 ⟨0, rfl, rfl, h⟩
  · replace h := h.2 c_1
    refine g_aload_n C dX9_isLetter_9 0 rfl ?_
    obtain ⟨P_2, hP, h⟩ := h
    refine g_callV (As := []) (rest := []) C (mX9_here l D Y h0 fed q_bytes v_sorts v_starts v_contents length tokens atF bytes P_2 hP) dX9_isLetter_10 rfl wM_X9_71 wI_X9_here wV_X9_here wN_X9 wC_X9_here (n := 0) (by decide +kernel) rfl (q0 := 0) rfl rfl ⟨Nat.le_of_ble_eq_true rfl, Nat.le_of_ble_eq_true rfl⟩ ⟨Nat.le_of_ble_eq_true rfl, Nat.le_of_ble_eq_true rfl⟩ (Nat.le_of_ble_eq_true rfl) [0, 1] [] rfl rfl rfl (fun v wc hv => ?_)
    obtain ⟨rF_2, rfl, rfl, hq⟩ := hv
    replace h := h rF_2 hq
    refine gG.eqw (ws' := [oX9 h0 fed (.ref q_bytes) (v_sorts) (v_starts) (v_contents) length tokens atF, aI Y q_bytes 700 bytes]) rfl ?_
    refine g_bipush (v := 122) C dX9_isLetter_13 rfl ?_
    refine g_icmp_gt (tgt := 22) C dX9_isLetter_15 (by decide) (fun c_2 => ?_) (fun c_2 => ?_)
    · replace h := h.1 c_2
      refine g_iconst (v := 0) C dX9_isLetter_22 rfl ?_
      exact g_zret C hR (by decide) (Nat.le_of_ble_eq_true rfl) (Nat.le_of_ble_eq_true rfl) dX9_isLetter_23 ⟨0, rfl, rfl, h⟩
    · replace h := h.2 c_2
      refine g_iconst (v := 1) C dX9_isLetter_18 rfl ?_
      refine g_goto (tgt := 23) C dX9_isLetter_19 (by decide) ?_
      exact g_zret C hR (by decide) (Nat.le_of_ble_eq_true rfl) (Nat.le_of_ble_eq_true rfl) dX9_isLetter_23 ⟨1, rfl, rfl, h⟩
theorem dX9_spells_0 : decode cX9_spells 0 = .ok (.aload_n 0, 1) := by decide +kernel
theorem dX9_spells_1 : decode cX9_spells 1 = .ok (.getfield 43, 3) := by decide +kernel
theorem dX9_spells_4 : decode cX9_spells 4 = .ok (.iload_n 2, 1) := by decide +kernel
theorem dX9_spells_5 : decode cX9_spells 5 = .ok (.isub, 1) := by decide +kernel
theorem dX9_spells_6 : decode cX9_spells 6 = .ok (.bipush 7, 2) := by decide +kernel
theorem dX9_spells_8 : decode cX9_spells 8 = .ok (.if_icmp .gt 15, 3) := by decide +kernel
theorem dX9_spells_11 : decode cX9_spells 11 = .ok (.iload_n 1, 1) := by decide +kernel
theorem dX9_spells_12 : decode cX9_spells 12 = .ok (.bipush 7, 2) := by decide +kernel
theorem dX9_spells_14 : decode cX9_spells 14 = .ok (.iadd, 1) := by decide +kernel
theorem dX9_spells_15 : decode cX9_spells 15 = .ok (.ldc 83, 2) := by decide +kernel
theorem dX9_spells_17 : decode cX9_spells 17 = .ok (.invokevirtual 85, 3) := by decide +kernel
theorem dX9_spells_20 : decode cX9_spells 20 = .ok (.if_icmp .le 5, 3) := by decide +kernel
theorem dX9_spells_23 : decode cX9_spells 23 = .ok (.iconst 0, 1) := by decide +kernel
theorem dX9_spells_24 : decode cX9_spells 24 = .ok (.ireturn, 1) := by decide +kernel
theorem dX9_spells_25 : decode cX9_spells 25 = .ok (.iconst 0, 1) := by decide +kernel
theorem dX9_spells_26 : decode cX9_spells 26 = .ok (.istore_n 3, 1) := by decide +kernel
theorem dX9_spells_27 : decode cX9_spells 27 = .ok (.iload_n 3, 1) := by decide +kernel
theorem dX9_spells_28 : decode cX9_spells 28 = .ok (.bipush 7, 2) := by decide +kernel
theorem dX9_spells_30 : decode cX9_spells 30 = .ok (.if_icmp .ge 49, 3) := by decide +kernel
theorem dX9_spells_33 : decode cX9_spells 33 = .ok (.iload_n 2, 1) := by decide +kernel
theorem dX9_spells_34 : decode cX9_spells 34 = .ok (.iload_n 3, 1) := by decide +kernel
theorem dX9_spells_35 : decode cX9_spells 35 = .ok (.iadd, 1) := by decide +kernel
theorem dX9_spells_36 : decode cX9_spells 36 = .ok (.aload_n 0, 1) := by decide +kernel
theorem dX9_spells_37 : decode cX9_spells 37 = .ok (.getfield 43, 3) := by decide +kernel
theorem dX9_spells_40 : decode cX9_spells 40 = .ok (.if_icmp .ge 14, 3) := by decide +kernel
theorem dX9_spells_43 : decode cX9_spells 43 = .ok (.aload_n 0, 1) := by decide +kernel
theorem dX9_spells_44 : decode cX9_spells 44 = .ok (.getfield 11, 3) := by decide +kernel
theorem dX9_spells_47 : decode cX9_spells 47 = .ok (.iload_n 2, 1) := by decide +kernel
theorem dX9_spells_48 : decode cX9_spells 48 = .ok (.iload_n 3, 1) := by decide +kernel
theorem dX9_spells_49 : decode cX9_spells 49 = .ok (.iadd, 1) := by decide +kernel
theorem dX9_spells_50 : decode cX9_spells 50 = .ok (.iaload, 1) := by decide +kernel
theorem dX9_spells_51 : decode cX9_spells 51 = .ok (.goto 5, 3) := by decide +kernel
theorem dX9_spells_54 : decode cX9_spells 54 = .ok (.bipush 32, 2) := by decide +kernel
theorem dX9_spells_56 : decode cX9_spells 56 = .ok (.istore 4, 2) := by decide +kernel
theorem dX9_spells_58 : decode cX9_spells 58 = .ok (.ldc 83, 2) := by decide +kernel
theorem dX9_spells_60 : decode cX9_spells 60 = .ok (.iload_n 1, 1) := by decide +kernel
theorem dX9_spells_61 : decode cX9_spells 61 = .ok (.iload_n 3, 1) := by decide +kernel
theorem dX9_spells_62 : decode cX9_spells 62 = .ok (.iadd, 1) := by decide +kernel
theorem dX9_spells_63 : decode cX9_spells 63 = .ok (.invokevirtual 89, 3) := by decide +kernel
theorem dX9_spells_66 : decode cX9_spells 66 = .ok (.iload 4, 2) := by decide +kernel
theorem dX9_spells_68 : decode cX9_spells 68 = .ok (.if_icmp .eq 5, 3) := by decide +kernel
theorem dX9_spells_71 : decode cX9_spells 71 = .ok (.iconst 0, 1) := by decide +kernel
theorem dX9_spells_72 : decode cX9_spells 72 = .ok (.ireturn, 1) := by decide +kernel
theorem dX9_spells_73 : decode cX9_spells 73 = .ok (.iinc 3 1, 3) := by decide +kernel
theorem dX9_spells_76 : decode cX9_spells 76 = .ok (.goto (-49), 3) := by decide +kernel
theorem dX9_spells_79 : decode cX9_spells 79 = .ok (.iconst 1, 1) := by decide +kernel
theorem dX9_spells_80 : decode cX9_spells 80 = .ok (.ireturn, 1) := by decide +kernel
/-- QuotientSums$Tape.spells(II)Z -/
def wX9_spells (fed : Int32) (length : Int32) (tokens : Int32) (atF : Int32) (bytes : Nat → Int32) (a1 : Int32) (a2 : Int32) (Q : (Int32) → Prop) : Prop :=
  ((7 < (atF - a2) → (Q 0)) ∧ (¬ 7 < (atF - a2) → (((a1 + 7) ≤ 63 → (∃ (Inv_1 : (Int32) → Prop) (Mea_1 : (Int32) → Nat), Inv_1 0 ∧ ∀ (x3_1 : Int32), Inv_1 x3_1 → ((7 ≤ x3_1 → (Q 1)) ∧ (¬ 7 ≤ x3_1 → ((atF ≤ (a2 + x3_1) → (vp_in (a1 + x3_1) 63 ∧ (((gCh 1 (a1 + x3_1).toNatClampNeg) = 32 → (Inv_1 (x3_1 + 1) ∧ Mea_1 (x3_1 + 1) < Mea_1 x3_1)) ∧ (¬ (gCh 1 (a1 + x3_1).toNatClampNeg) = 32 → (Q 0))))) ∧ (¬ atF ≤ (a2 + x3_1) → (vp_in (a2 + x3_1) 700 ∧ ∀ x4_1 : Int32, x4_1 = bytes (a2 + x3_1).toNatClampNeg → vp_in (a1 + x3_1) 63 ∧ (((gCh 1 (a1 + x3_1).toNatClampNeg) = x4_1 → (Inv_1 (x3_1 + 1) ∧ Mea_1 (x3_1 + 1) < Mea_1 x3_1)) ∧ (¬ (gCh 1 (a1 + x3_1).toNatClampNeg) = x4_1 → (Q 0)))))))))) ∧ (¬ (a1 + 7) ≤ 63 → (Q 0)))))
set_option maxHeartbeats 4000000 in
set_option maxRecDepth 100000 in
theorem mX9_spells (l : Launch) (D : va_G) (Y : Nat → ClassId) (h0 : Nat) (fed : Int32) (q_bytes : Nat) (v_sorts : Value) (v_starts : Value) (v_contents : Value) (length : Int32) (tokens : Int32) (atF : Int32) (bytes : Nat → Int32) (a1 : Int32) (a2 : Int32) (Q : (Int32) → Prop) (h : wX9_spells fed length tokens atF bytes a1 a2 Q) : gM l D Y yX9_spells cX9_spells 5 (some .boolean) 4 85 0 0 [.ref h0, .int a1, .int a2] [oX9 h0 fed (.ref q_bytes) (v_sorts) (v_starts) (v_contents) length tokens atF, aI Y q_bytes 700 bytes] (fun v w => ∃ r : Int32, v = some (.int r) ∧ w = [oX9 h0 fed (.ref q_bytes) (v_sorts) (v_starts) (v_contents) length tokens atF, aI Y q_bytes 700 bytes] ∧ Q r) := by
  refine gM_of (own := RX9) (by decide +kernel) rfl (Nat.le_of_ble_eq_true rfl) rfl (fun E C hR => ?_)
  unfold wX9_spells at h
  refine g_aload_n C dX9_spells_0 0 rfl ?_
  refine g_get C inX9 0 rfl rfl 7 (by decide) wF_X9_43 rfl dX9_spells_1 ?_
  refine g_iload_n C dX9_spells_4 2 rfl ?_
  refine g_isub C dX9_spells_5 ?_
  refine g_bipush (v := 7) C dX9_spells_6 rfl ?_
  refine g_icmp_gt (tgt := 23) C dX9_spells_8 (by decide) (fun c_1 => ?_) (fun c_1 => ?_)
  · replace h := h.1 c_1
    refine g_iconst (v := 0) C dX9_spells_23 rfl ?_
    exact g_zret C hR (by decide) (Nat.le_of_ble_eq_true rfl) (Nat.le_of_ble_eq_true rfl) dX9_spells_24 ⟨0, rfl, rfl, h⟩
  · replace h := h.2 c_1
    refine g_iload_n C dX9_spells_11 1 rfl ?_
    refine g_bipush (v := 7) C dX9_spells_12 rfl ?_
    refine g_iadd C dX9_spells_14 ?_
    refine g_ldcStr C (fun U hz => hz.2.1) dX9_spells_15 ?_
    refine g_strLength C 1 (by decide) wM_X9_85 dX9_spells_17 ⟨Nat.le_of_ble_eq_true rfl, Nat.le_of_ble_eq_true rfl⟩ ⟨Nat.le_of_ble_eq_true rfl, Nat.le_of_ble_eq_true rfl⟩ (Nat.le_of_ble_eq_true rfl) ?_
    refine g_icmp_le (tgt := 25) C dX9_spells_20 (by decide) (fun c_2 => ?_) (fun c_2 => ?_)
    · replace h := h.1 c_2
      refine g_iconst (v := 0) C dX9_spells_25 rfl ?_
      refine g_istore_n (lv' := [(3, .int 0), (0, .ref h0), (1, .int a1), (2, .int a2)]) C dX9_spells_26 (by decide) rfl ?_
      obtain ⟨Inv_1, Mea_1, hI1, hB1⟩ := h
      have key_1 : ∀ (n : Nat) (x3_1 : Int32) , Mea_1 x3_1 < n → Inv_1 x3_1 → gG E 0 0 [oX9 h0 fed (.ref q_bytes) (v_sorts) (v_starts) (v_contents) length tokens atF, aI Y q_bytes 700 bytes] [(0, .ref h0), (1, .int a1), (2, .int a2), (3, .int x3_1)] [] 27 := by
        intro n
        induction n with
        | zero => exact fun _ hm => absurd hm (Nat.not_lt_zero _)
        | succ n ih1 =>
          intro x3_1  hm1 hI
          have h := hB1 x3_1 hI
          refine g_iload_n C dX9_spells_27 3 rfl ?_
          refine g_bipush (v := 7) C dX9_spells_28 rfl ?_
          refine g_icmp_ge (tgt := 79) C dX9_spells_30 (by decide) (fun c_3 => ?_) (fun c_3 => ?_)
          · replace h := h.1 c_3
            refine g_iconst (v := 1) C dX9_spells_79 rfl ?_
            exact g_zret C hR (by decide) (Nat.le_of_ble_eq_true rfl) (Nat.le_of_ble_eq_true rfl) dX9_spells_80 ⟨1, rfl, rfl, h⟩
          · replace h := h.2 c_3
            refine g_iload_n C dX9_spells_33 2 rfl ?_
            refine g_iload_n C dX9_spells_34 3 rfl ?_
            refine g_iadd C dX9_spells_35 ?_
            refine g_aload_n C dX9_spells_36 0 rfl ?_
            refine g_get C inX9 0 rfl rfl 7 (by decide) wF_X9_43 rfl dX9_spells_37 ?_
            refine g_icmp_ge (tgt := 54) C dX9_spells_40 (by decide) (fun c_4 => ?_) (fun c_4 => ?_)
            · replace h := h.1 c_4
              refine g_bipush (v := 32) C dX9_spells_54 rfl ?_
              refine g_istore (lv' := [(4, .int 32), (0, .ref h0), (1, .int a1), (2, .int a2), (3, .int x3_1)]) C dX9_spells_56 (by decide) rfl ?_
              refine g_ldcStr C (fun U hz => hz.2.1) dX9_spells_58 ?_
              refine g_iload_n C dX9_spells_60 2 rfl ?_
              refine g_iload_n C dX9_spells_61 4 rfl ?_
              refine g_iadd C dX9_spells_62 ?_
              obtain ⟨hc_1, h⟩ := h
              refine g_charAt C 1 (by decide) wM_X9_89 dX9_spells_63 hc_1 ⟨Nat.le_of_ble_eq_true rfl, Nat.le_of_ble_eq_true rfl⟩ ⟨Nat.le_of_ble_eq_true rfl, Nat.le_of_ble_eq_true rfl⟩ (Nat.le_of_ble_eq_true rfl) ?_
              refine g_iload C dX9_spells_66 0 rfl ?_
              refine g_icmp_eq (tgt := 73) C dX9_spells_68 (by decide) (fun c_5 => ?_) (fun c_5 => ?_)
              · replace h := h.1 c_5
                refine g_iinc (v := x3_1 + 1) (lv' := [(3, .int (x3_1 + 1)), (4, .int 32), (0, .ref h0), (1, .int a1), (2, .int a2)]) C dX9_spells_73 4 rfl rfl (by decide) rfl ?_
                refine g_goto (tgt := 27) C dX9_spells_76 (by decide) ?_
                refine gG.locals (lv' := [(0, .ref h0), (1, .int a1), (2, .int a2), (3, .int (x3_1 + 1))]) [2, 3, 4, 0] rfl ?_
                exact ih1 (x3_1 + 1) (Nat.lt_of_lt_of_le h.2 (Nat.le_of_lt_succ hm1)) h.1
              · replace h := h.2 c_5
                refine g_iconst (v := 0) C dX9_spells_71 rfl ?_
                exact g_zret C hR (by decide) (Nat.le_of_ble_eq_true rfl) (Nat.le_of_ble_eq_true rfl) dX9_spells_72 ⟨0, rfl, rfl, h⟩
            · replace h := h.2 c_4
              refine g_aload_n C dX9_spells_43 0 rfl ?_
              refine g_get C inX9 0 rfl rfl 1 (by decide) wF_X9_11 rfl dX9_spells_44 ?_
              refine g_iload_n C dX9_spells_47 2 rfl ?_
              refine g_iload_n C dX9_spells_48 3 rfl ?_
              refine g_iadd C dX9_spells_49 ?_
              obtain ⟨hc_2, h⟩ := h
              refine g_iald C 1 rfl hc_2 dX9_spells_50 ?_
              refine g_goto (tgt := 56) C dX9_spells_51 (by decide) ?_
              refine g_topi (fun x4_1 ex4_1 => ?_)
              replace h := h x4_1 ex4_1
              refine g_istore (lv' := [(4, .int x4_1), (0, .ref h0), (1, .int a1), (2, .int a2), (3, .int x3_1)]) C dX9_spells_56 (by decide) rfl ?_
              refine g_ldcStr C (fun U hz => hz.2.1) dX9_spells_58 ?_
              refine g_iload_n C dX9_spells_60 2 rfl ?_
              refine g_iload_n C dX9_spells_61 4 rfl ?_
              refine g_iadd C dX9_spells_62 ?_
              obtain ⟨hc_3, h⟩ := h
              refine g_charAt C 1 (by decide) wM_X9_89 dX9_spells_63 hc_3 ⟨Nat.le_of_ble_eq_true rfl, Nat.le_of_ble_eq_true rfl⟩ ⟨Nat.le_of_ble_eq_true rfl, Nat.le_of_ble_eq_true rfl⟩ (Nat.le_of_ble_eq_true rfl) ?_
              refine g_iload C dX9_spells_66 0 rfl ?_
              refine g_icmp_eq (tgt := 73) C dX9_spells_68 (by decide) (fun c_6 => ?_) (fun c_6 => ?_)
              · replace h := h.1 c_6
                refine g_iinc (v := x3_1 + 1) (lv' := [(3, .int (x3_1 + 1)), (4, .int x4_1), (0, .ref h0), (1, .int a1), (2, .int a2)]) C dX9_spells_73 4 rfl rfl (by decide) rfl ?_
                refine g_goto (tgt := 27) C dX9_spells_76 (by decide) ?_
                refine gG.locals (lv' := [(0, .ref h0), (1, .int a1), (2, .int a2), (3, .int (x3_1 + 1))]) [2, 3, 4, 0] rfl ?_
                exact ih1 (x3_1 + 1) (Nat.lt_of_lt_of_le h.2 (Nat.le_of_lt_succ hm1)) h.1
              · replace h := h.2 c_6
                refine g_iconst (v := 0) C dX9_spells_71 rfl ?_
                exact g_zret C hR (by decide) (Nat.le_of_ble_eq_true rfl) (Nat.le_of_ble_eq_true rfl) dX9_spells_72 ⟨0, rfl, rfl, h⟩
      refine gG.locals (lv' := [(0, .ref h0), (1, .int a1), (2, .int a2), (3, .int 0)]) [1, 2, 3, 0] rfl ?_
      exact key_1 (Mea_1 0 + 1) 0 (Nat.lt_succ_self _) hI1
    · replace h := h.2 c_2
      refine g_iconst (v := 0) C dX9_spells_23 rfl ?_
      exact g_zret C hR (by decide) (Nat.le_of_ble_eq_true rfl) (Nat.le_of_ble_eq_true rfl) dX9_spells_24 ⟨0, rfl, rfl, h⟩
theorem dX9_languageWord_0 : decode cX9_languageWord 0 = .ok (.bipush 10, 2) := by decide +kernel
theorem dX9_languageWord_2 : decode cX9_languageWord 2 = .ok (.istore_n 2, 1) := by decide +kernel
theorem dX9_languageWord_3 : decode cX9_languageWord 3 = .ok (.iload_n 2, 1) := by decide +kernel
theorem dX9_languageWord_4 : decode cX9_languageWord 4 = .ok (.bipush 18, 2) := by decide +kernel
theorem dX9_languageWord_6 : decode cX9_languageWord 6 = .ok (.if_icmp .gt 26, 3) := by decide +kernel
theorem dX9_languageWord_9 : decode cX9_languageWord 9 = .ok (.aload_n 0, 1) := by decide +kernel
theorem dX9_languageWord_10 : decode cX9_languageWord 10 = .ok (.iload_n 2, 1) := by decide +kernel
theorem dX9_languageWord_11 : decode cX9_languageWord 11 = .ok (.bipush 10, 2) := by decide +kernel
theorem dX9_languageWord_13 : decode cX9_languageWord 13 = .ok (.isub, 1) := by decide +kernel
theorem dX9_languageWord_14 : decode cX9_languageWord 14 = .ok (.bipush 7, 2) := by decide +kernel
theorem dX9_languageWord_16 : decode cX9_languageWord 16 = .ok (.imul, 1) := by decide +kernel
theorem dX9_languageWord_17 : decode cX9_languageWord 17 = .ok (.iload_n 1, 1) := by decide +kernel
theorem dX9_languageWord_18 : decode cX9_languageWord 18 = .ok (.invokevirtual 79, 3) := by decide +kernel
theorem dX9_languageWord_21 : decode cX9_languageWord 21 = .ok (.ifCond .eq 5, 3) := by decide +kernel
theorem dX9_languageWord_24 : decode cX9_languageWord 24 = .ok (.iload_n 2, 1) := by decide +kernel
theorem dX9_languageWord_25 : decode cX9_languageWord 25 = .ok (.ireturn, 1) := by decide +kernel
theorem dX9_languageWord_26 : decode cX9_languageWord 26 = .ok (.iinc 2 1, 3) := by decide +kernel
theorem dX9_languageWord_29 : decode cX9_languageWord 29 = .ok (.goto (-26), 3) := by decide +kernel
theorem dX9_languageWord_32 : decode cX9_languageWord 32 = .ok (.iconst (-1), 1) := by decide +kernel
theorem dX9_languageWord_33 : decode cX9_languageWord 33 = .ok (.ireturn, 1) := by decide +kernel
/-- QuotientSums$Tape.languageWord(I)I -/
def wX9_languageWord (fed : Int32) (length : Int32) (tokens : Int32) (atF : Int32) (bytes : Nat → Int32) (a1 : Int32) (Q : (Int32) → Prop) : Prop :=
  (∃ (Inv_1 : (Int32) → Prop) (Mea_1 : (Int32) → Nat), Inv_1 10 ∧ ∀ (x2_1 : Int32), Inv_1 x2_1 → ((18 < x2_1 → (Q (-1))) ∧ (¬ 18 < x2_1 → (∃ (P_1 : (Int32) → Prop), wX9_spells fed length tokens atF bytes ((x2_1 - 10) * 7) a1 P_1 ∧ ∀ (rF_1 : Int32), P_1 rF_1 → ((rF_1 = 0 → (Inv_1 (x2_1 + 1) ∧ Mea_1 (x2_1 + 1) < Mea_1 x2_1)) ∧ (¬ rF_1 = 0 → (Q x2_1)))))))
set_option maxHeartbeats 4000000 in
set_option maxRecDepth 100000 in
theorem mX9_languageWord (l : Launch) (D : va_G) (Y : Nat → ClassId) (h0 : Nat) (fed : Int32) (q_bytes : Nat) (v_sorts : Value) (v_starts : Value) (v_contents : Value) (length : Int32) (tokens : Int32) (atF : Int32) (bytes : Nat → Int32) (a1 : Int32) (Q : (Int32) → Prop) (h : wX9_languageWord fed length tokens atF bytes a1 Q) : gM l D Y yX9_languageWord cX9_languageWord 3 (some .int) 5 109 0 0 [.ref h0, .int a1] [oX9 h0 fed (.ref q_bytes) (v_sorts) (v_starts) (v_contents) length tokens atF, aI Y q_bytes 700 bytes] (fun v w => ∃ r : Int32, v = some (.int r) ∧ w = [oX9 h0 fed (.ref q_bytes) (v_sorts) (v_starts) (v_contents) length tokens atF, aI Y q_bytes 700 bytes] ∧ Q r) := by
  refine gM_of (own := RX9) (by decide +kernel) rfl (Nat.le_of_ble_eq_true rfl) rfl (fun E C hR => ?_)
  unfold wX9_languageWord at h
  refine g_bipush (v := 10) C dX9_languageWord_0 rfl ?_
  refine g_istore_n (lv' := [(2, .int 10), (0, .ref h0), (1, .int a1)]) C dX9_languageWord_2 (by decide) rfl ?_
  obtain ⟨Inv_1, Mea_1, hI1, hB1⟩ := h
  have key_1 : ∀ (n : Nat) (x2_1 : Int32) , Mea_1 x2_1 < n → Inv_1 x2_1 → gG E 0 0 [oX9 h0 fed (.ref q_bytes) (v_sorts) (v_starts) (v_contents) length tokens atF, aI Y q_bytes 700 bytes] [(0, .ref h0), (1, .int a1), (2, .int x2_1)] [] 3 := by
    intro n
    induction n with
    | zero => exact fun _ hm => absurd hm (Nat.not_lt_zero _)
    | succ n ih1 =>
      intro x2_1  hm1 hI
      have h := hB1 x2_1 hI
      refine g_iload_n C dX9_languageWord_3 2 rfl ?_
      refine g_bipush (v := 18) C dX9_languageWord_4 rfl ?_
      refine g_icmp_gt (tgt := 32) C dX9_languageWord_6 (by decide) (fun c_1 => ?_) (fun c_1 => ?_)
      · replace h := h.1 c_1
        refine g_iconst (v := (-1)) C dX9_languageWord_32 rfl ?_
        exact g_iret C hR (Nat.le_of_ble_eq_true rfl) (Nat.le_of_ble_eq_true rfl) dX9_languageWord_33 ⟨(-1), rfl, rfl, h⟩
      · replace h := h.2 c_1
        refine g_aload_n C dX9_languageWord_9 0 rfl ?_
        refine g_iload_n C dX9_languageWord_10 2 rfl ?_
        refine g_bipush (v := 10) C dX9_languageWord_11 rfl ?_
        refine g_isub C dX9_languageWord_13 ?_
        refine g_bipush (v := 7) C dX9_languageWord_14 rfl ?_
        refine g_imul C dX9_languageWord_16 ?_
        refine g_iload_n C dX9_languageWord_17 1 rfl ?_
        obtain ⟨P_1, hP, h⟩ := h
        refine g_callV (As := [.int ((x2_1 - 10) * 7), .int a1]) (rest := []) C (mX9_spells l D Y h0 fed q_bytes v_sorts v_starts v_contents length tokens atF bytes ((x2_1 - 10) * 7) a1 P_1 hP) dX9_languageWord_18 rfl wM_X9_79 wI_X9_spells wV_X9_spells wN_X9 wC_X9_spells (n := 2) (by decide +kernel) rfl (q0 := 0) rfl rfl ⟨Nat.le_of_ble_eq_true rfl, Nat.le_of_ble_eq_true rfl⟩ ⟨Nat.le_of_ble_eq_true rfl, Nat.le_of_ble_eq_true rfl⟩ (Nat.le_of_ble_eq_true rfl) [0, 1] [] rfl rfl rfl (fun v wc hv => ?_)
        obtain ⟨rF_1, rfl, rfl, hq⟩ := hv
        replace h := h rF_1 hq
        refine gG.eqw (ws' := [oX9 h0 fed (.ref q_bytes) (v_sorts) (v_starts) (v_contents) length tokens atF, aI Y q_bytes 700 bytes]) rfl ?_
        refine g_if_eq (tgt := 26) C dX9_languageWord_21 (by decide) (fun c_2 => ?_) (fun c_2 => ?_)
        · replace h := h.1 c_2
          refine g_iinc (v := x2_1 + 1) (lv' := [(2, .int (x2_1 + 1)), (0, .ref h0), (1, .int a1)]) C dX9_languageWord_26 2 rfl rfl (by decide) rfl ?_
          refine g_goto (tgt := 3) C dX9_languageWord_29 (by decide) ?_
          refine gG.locals (lv' := [(0, .ref h0), (1, .int a1), (2, .int (x2_1 + 1))]) [1, 2, 0] rfl ?_
          exact ih1 (x2_1 + 1) (Nat.lt_of_lt_of_le h.2 (Nat.le_of_lt_succ hm1)) h.1
        · replace h := h.2 c_2
          refine g_iload_n C dX9_languageWord_24 2 rfl ?_
          exact g_iret C hR (Nat.le_of_ble_eq_true rfl) (Nat.le_of_ble_eq_true rfl) dX9_languageWord_25 ⟨x2_1, rfl, rfl, h⟩
  refine gG.locals (lv' := [(0, .ref h0), (1, .int a1), (2, .int 10)]) [1, 2, 0] rfl ?_
  exact key_1 (Mea_1 10 + 1) 10 (Nat.lt_succ_self _) hI1
theorem dX9_put_0 : decode cX9_put 0 = .ok (.aload_n 0, 1) := by decide +kernel
theorem dX9_put_1 : decode cX9_put 1 = .ok (.getfield 28, 3) := by decide +kernel
theorem dX9_put_4 : decode cX9_put 4 = .ok (.sipush 700, 3) := by decide +kernel
theorem dX9_put_7 : decode cX9_put 7 = .ok (.if_icmp .ge 43, 3) := by decide +kernel
theorem dX9_put_10 : decode cX9_put 10 = .ok (.aload_n 0, 1) := by decide +kernel
theorem dX9_put_11 : decode cX9_put 11 = .ok (.getfield 15, 3) := by decide +kernel
theorem dX9_put_14 : decode cX9_put 14 = .ok (.aload_n 0, 1) := by decide +kernel
theorem dX9_put_15 : decode cX9_put 15 = .ok (.getfield 28, 3) := by decide +kernel
theorem dX9_put_18 : decode cX9_put 18 = .ok (.iload_n 1, 1) := by decide +kernel
theorem dX9_put_19 : decode cX9_put 19 = .ok (.iastore, 1) := by decide +kernel
theorem dX9_put_20 : decode cX9_put 20 = .ok (.aload_n 0, 1) := by decide +kernel
theorem dX9_put_21 : decode cX9_put 21 = .ok (.getfield 18, 3) := by decide +kernel
theorem dX9_put_24 : decode cX9_put 24 = .ok (.aload_n 0, 1) := by decide +kernel
theorem dX9_put_25 : decode cX9_put 25 = .ok (.getfield 28, 3) := by decide +kernel
theorem dX9_put_28 : decode cX9_put 28 = .ok (.iload_n 2, 1) := by decide +kernel
theorem dX9_put_29 : decode cX9_put 29 = .ok (.iastore, 1) := by decide +kernel
theorem dX9_put_30 : decode cX9_put 30 = .ok (.aload_n 0, 1) := by decide +kernel
theorem dX9_put_31 : decode cX9_put 31 = .ok (.getfield 21, 3) := by decide +kernel
theorem dX9_put_34 : decode cX9_put 34 = .ok (.aload_n 0, 1) := by decide +kernel
theorem dX9_put_35 : decode cX9_put 35 = .ok (.getfield 28, 3) := by decide +kernel
theorem dX9_put_38 : decode cX9_put 38 = .ok (.iload_n 3, 1) := by decide +kernel
theorem dX9_put_39 : decode cX9_put 39 = .ok (.iastore, 1) := by decide +kernel
theorem dX9_put_40 : decode cX9_put 40 = .ok (.aload_n 0, 1) := by decide +kernel
theorem dX9_put_41 : decode cX9_put 41 = .ok (.dup, 1) := by decide +kernel
theorem dX9_put_42 : decode cX9_put 42 = .ok (.getfield 28, 3) := by decide +kernel
theorem dX9_put_45 : decode cX9_put 45 = .ok (.iconst 1, 1) := by decide +kernel
theorem dX9_put_46 : decode cX9_put 46 = .ok (.iadd, 1) := by decide +kernel
theorem dX9_put_47 : decode cX9_put 47 = .ok (.putfield 28, 3) := by decide +kernel
theorem dX9_put_50 : decode cX9_put 50 = .ok (.return_, 1) := by decide +kernel
/-- QuotientSums$Tape.put(III)V -/
def wX9_put (fed : Int32) (length : Int32) (tokens : Int32) (atF : Int32) (sorts : Nat → Int32) (starts : Nat → Int32) (contents : Nat → Int32) (a1 : Int32) (a2 : Int32) (a3 : Int32) (Q : (Int32) → (Nat → Int32) → (Nat → Int32) → (Nat → Int32) → Prop) : Prop :=
  ((700 ≤ tokens → (Q tokens sorts starts contents)) ∧ (¬ 700 ≤ tokens → (vp_in tokens 701 ∧ ∀ sorts_1 : Nat → Int32, sorts_1 = upd sorts tokens.toNatClampNeg a1 → ∀ starts_1 : Nat → Int32, starts_1 = upd starts tokens.toNatClampNeg a2 → ∀ contents_1 : Nat → Int32, contents_1 = upd contents tokens.toNatClampNeg a3 → ∀ tokens_1 : Int32, tokens_1 = tokens + 1 → (Q tokens_1 sorts_1 starts_1 contents_1))))
set_option maxHeartbeats 4000000 in
set_option maxRecDepth 100000 in
theorem mX9_put (l : Launch) (D : va_G) (Y : Nat → ClassId) (h0 : Nat) (fed : Int32) (v_bytes : Value) (q_sorts : Nat) (q_starts : Nat) (q_contents : Nat) (length : Int32) (tokens : Int32) (atF : Int32) (sorts : Nat → Int32) (starts : Nat → Int32) (contents : Nat → Int32) (a1 : Int32) (a2 : Int32) (a3 : Int32) (Q : (Int32) → (Nat → Int32) → (Nat → Int32) → (Nat → Int32) → Prop) (h : wX9_put fed length tokens atF sorts starts contents a1 a2 a3 Q) : gM l D Y yX9_put cX9_put 4 none 0 0 0 0 [.ref h0, .int a1, .int a2, .int a3] [oX9 h0 fed (v_bytes) (.ref q_sorts) (.ref q_starts) (.ref q_contents) length tokens atF, aI Y q_sorts 701 sorts, aI Y q_starts 701 starts, aI Y q_contents 701 contents] (fun v w => ∃ tokens' : Int32, ∃ sorts' : Nat → Int32, ∃ starts' : Nat → Int32, ∃ contents' : Nat → Int32, v = none ∧ w = [oX9 h0 fed (v_bytes) (.ref q_sorts) (.ref q_starts) (.ref q_contents) length tokens' atF, aI Y q_sorts 701 sorts', aI Y q_starts 701 starts', aI Y q_contents 701 contents'] ∧ Q tokens' sorts' starts' contents') := by
  refine gM_of (own := RX9) (by decide +kernel) rfl (Nat.le_of_ble_eq_true rfl) rfl (fun E C hR => ?_)
  unfold wX9_put at h
  refine g_aload_n C dX9_put_0 0 rfl ?_
  refine g_get C inX9 0 rfl rfl 6 (by decide) wF_X9_28 rfl dX9_put_1 ?_
  refine g_sipush (v := 700) C dX9_put_4 rfl ?_
  refine g_icmp_ge (tgt := 50) C dX9_put_7 (by decide) (fun c_1 => ?_) (fun c_1 => ?_)
  · replace h := h.1 c_1
    exact g_vret C hR (Nat.le_of_ble_eq_true rfl) (Nat.le_of_ble_eq_true rfl) dX9_put_50 ⟨tokens, sorts, starts, contents, rfl, rfl, h⟩
  · replace h := h.2 c_1
    refine g_aload_n C dX9_put_10 0 rfl ?_
    refine g_get C inX9 0 rfl rfl 2 (by decide) wF_X9_15 rfl dX9_put_11 ?_
    refine g_aload_n C dX9_put_14 0 rfl ?_
    refine g_get C inX9 0 rfl rfl 6 (by decide) wF_X9_28 rfl dX9_put_15 ?_
    refine g_iload_n C dX9_put_18 1 rfl ?_
    obtain ⟨hc_1, h⟩ := h
    refine g_iast C 1 rfl hc_1 dX9_put_19 (fun sorts_1 esorts_1 => gG.eqw (ws' := [oX9 h0 fed (v_bytes) (.ref q_sorts) (.ref q_starts) (.ref q_contents) length tokens atF, aI Y q_sorts 701 sorts_1, aI Y q_starts 701 starts, aI Y q_contents 701 contents]) rfl ?_)
    replace h := h sorts_1 esorts_1
    refine g_aload_n C dX9_put_20 0 rfl ?_
    refine g_get C inX9 0 rfl rfl 3 (by decide) wF_X9_18 rfl dX9_put_21 ?_
    refine g_aload_n C dX9_put_24 0 rfl ?_
    refine g_get C inX9 0 rfl rfl 6 (by decide) wF_X9_28 rfl dX9_put_25 ?_
    refine g_iload_n C dX9_put_28 2 rfl ?_
    refine g_iast C 2 rfl hc_1 dX9_put_29 (fun starts_1 estarts_1 => gG.eqw (ws' := [oX9 h0 fed (v_bytes) (.ref q_sorts) (.ref q_starts) (.ref q_contents) length tokens atF, aI Y q_sorts 701 sorts_1, aI Y q_starts 701 starts_1, aI Y q_contents 701 contents]) rfl ?_)
    replace h := h starts_1 estarts_1
    refine g_aload_n C dX9_put_30 0 rfl ?_
    refine g_get C inX9 0 rfl rfl 4 (by decide) wF_X9_21 rfl dX9_put_31 ?_
    refine g_aload_n C dX9_put_34 0 rfl ?_
    refine g_get C inX9 0 rfl rfl 6 (by decide) wF_X9_28 rfl dX9_put_35 ?_
    refine g_iload_n C dX9_put_38 3 rfl ?_
    refine g_iast C 3 rfl hc_1 dX9_put_39 (fun contents_1 econtents_1 => gG.eqw (ws' := [oX9 h0 fed (v_bytes) (.ref q_sorts) (.ref q_starts) (.ref q_contents) length tokens atF, aI Y q_sorts 701 sorts_1, aI Y q_starts 701 starts_1, aI Y q_contents 701 contents_1]) rfl ?_)
    replace h := h contents_1 econtents_1
    refine g_aload_n C dX9_put_40 0 rfl ?_
    refine g_dup C dX9_put_41 rfl ?_
    refine g_get C inX9 0 rfl rfl 6 (by decide) wF_X9_28 rfl dX9_put_42 ?_
    refine g_iconst (v := 1) C dX9_put_45 rfl ?_
    refine g_iadd C dX9_put_46 ?_
    refine g_topi (fun tokens_1 etokens_1 => ?_)
    replace h := h tokens_1 etokens_1
    refine g_put C inX9 tyX9 tyX9_ok nmX9 0 rfl rfl 6 (by decide) wF_X9_28 rfl rfl rfl (Nat.le_of_ble_eq_true rfl) (ws' := [oX9 h0 fed (v_bytes) (.ref q_sorts) (.ref q_starts) (.ref q_contents) length tokens_1 atF, aI Y q_sorts 701 sorts_1, aI Y q_starts 701 starts_1, aI Y q_contents 701 contents_1]) rfl dX9_put_47 ?_
    exact g_vret C hR (Nat.le_of_ble_eq_true rfl) (Nat.le_of_ble_eq_true rfl) dX9_put_50 ⟨tokens_1, sorts_1, starts_1, contents_1, rfl, rfl, h⟩
theorem dX9_cutWord_0 : decode cX9_cutWord 0 = .ok (.iconst 0, 1) := by decide +kernel
theorem dX9_cutWord_1 : decode cX9_cutWord 1 = .ok (.istore_n 2, 1) := by decide +kernel
theorem dX9_cutWord_2 : decode cX9_cutWord 2 = .ok (.aload_n 0, 1) := by decide +kernel
theorem dX9_cutWord_3 : decode cX9_cutWord 3 = .ok (.getfield 43, 3) := by decide +kernel
theorem dX9_cutWord_6 : decode cX9_cutWord 6 = .ok (.aload_n 0, 1) := by decide +kernel
theorem dX9_cutWord_7 : decode cX9_cutWord 7 = .ok (.getfield 31, 3) := by decide +kernel
theorem dX9_cutWord_10 : decode cX9_cutWord 10 = .ok (.if_icmp .ge 57, 3) := by decide +kernel
theorem dX9_cutWord_13 : decode cX9_cutWord 13 = .ok (.aload_n 0, 1) := by decide +kernel
theorem dX9_cutWord_14 : decode cX9_cutWord 14 = .ok (.invokevirtual 50, 3) := by decide +kernel
theorem dX9_cutWord_17 : decode cX9_cutWord 17 = .ok (.ifCond .eq 50, 3) := by decide +kernel
theorem dX9_cutWord_20 : decode cX9_cutWord 20 = .ok (.aload_n 0, 1) := by decide +kernel
theorem dX9_cutWord_21 : decode cX9_cutWord 21 = .ok (.getfield 43, 3) := by decide +kernel
theorem dX9_cutWord_24 : decode cX9_cutWord 24 = .ok (.iload_n 1, 1) := by decide +kernel
theorem dX9_cutWord_25 : decode cX9_cutWord 25 = .ok (.isub, 1) := by decide +kernel
theorem dX9_cutWord_26 : decode cX9_cutWord 26 = .ok (.bipush 6, 2) := by decide +kernel
theorem dX9_cutWord_28 : decode cX9_cutWord 28 = .ok (.if_icmp .ge 26, 3) := by decide +kernel
theorem dX9_cutWord_31 : decode cX9_cutWord 31 = .ok (.iload_n 2, 1) := by decide +kernel
theorem dX9_cutWord_32 : decode cX9_cutWord 32 = .ok (.aload_n 0, 1) := by decide +kernel
theorem dX9_cutWord_33 : decode cX9_cutWord 33 = .ok (.invokevirtual 71, 3) := by decide +kernel
theorem dX9_cutWord_36 : decode cX9_cutWord 36 = .ok (.bipush 97, 2) := by decide +kernel
theorem dX9_cutWord_38 : decode cX9_cutWord 38 = .ok (.isub, 1) := by decide +kernel
theorem dX9_cutWord_39 : decode cX9_cutWord 39 = .ok (.iconst 1, 1) := by decide +kernel
theorem dX9_cutWord_40 : decode cX9_cutWord 40 = .ok (.iadd, 1) := by decide +kernel
theorem dX9_cutWord_41 : decode cX9_cutWord 41 = .ok (.iconst 5, 1) := by decide +kernel
theorem dX9_cutWord_42 : decode cX9_cutWord 42 = .ok (.iconst 5, 1) := by decide +kernel
theorem dX9_cutWord_43 : decode cX9_cutWord 43 = .ok (.aload_n 0, 1) := by decide +kernel
theorem dX9_cutWord_44 : decode cX9_cutWord 44 = .ok (.getfield 43, 3) := by decide +kernel
theorem dX9_cutWord_47 : decode cX9_cutWord 47 = .ok (.iload_n 1, 1) := by decide +kernel
theorem dX9_cutWord_48 : decode cX9_cutWord 48 = .ok (.isub, 1) := by decide +kernel
theorem dX9_cutWord_49 : decode cX9_cutWord 49 = .ok (.isub, 1) := by decide +kernel
theorem dX9_cutWord_50 : decode cX9_cutWord 50 = .ok (.imul, 1) := by decide +kernel
theorem dX9_cutWord_51 : decode cX9_cutWord 51 = .ok (.ishl, 1) := by decide +kernel
theorem dX9_cutWord_52 : decode cX9_cutWord 52 = .ok (.ior, 1) := by decide +kernel
theorem dX9_cutWord_53 : decode cX9_cutWord 53 = .ok (.istore_n 2, 1) := by decide +kernel
theorem dX9_cutWord_54 : decode cX9_cutWord 54 = .ok (.aload_n 0, 1) := by decide +kernel
theorem dX9_cutWord_55 : decode cX9_cutWord 55 = .ok (.dup, 1) := by decide +kernel
theorem dX9_cutWord_56 : decode cX9_cutWord 56 = .ok (.getfield 43, 3) := by decide +kernel
theorem dX9_cutWord_59 : decode cX9_cutWord 59 = .ok (.iconst 1, 1) := by decide +kernel
theorem dX9_cutWord_60 : decode cX9_cutWord 60 = .ok (.iadd, 1) := by decide +kernel
theorem dX9_cutWord_61 : decode cX9_cutWord 61 = .ok (.putfield 43, 3) := by decide +kernel
theorem dX9_cutWord_64 : decode cX9_cutWord 64 = .ok (.goto (-62), 3) := by decide +kernel
theorem dX9_cutWord_67 : decode cX9_cutWord 67 = .ok (.aload_n 0, 1) := by decide +kernel
theorem dX9_cutWord_68 : decode cX9_cutWord 68 = .ok (.iload_n 1, 1) := by decide +kernel
theorem dX9_cutWord_69 : decode cX9_cutWord 69 = .ok (.invokevirtual 75, 3) := by decide +kernel
theorem dX9_cutWord_72 : decode cX9_cutWord 72 = .ok (.istore_n 3, 1) := by decide +kernel
theorem dX9_cutWord_73 : decode cX9_cutWord 73 = .ok (.iload_n 3, 1) := by decide +kernel
theorem dX9_cutWord_74 : decode cX9_cutWord 74 = .ok (.iconst (-1), 1) := by decide +kernel
theorem dX9_cutWord_75 : decode cX9_cutWord 75 = .ok (.if_icmp .eq 13, 3) := by decide +kernel
theorem dX9_cutWord_78 : decode cX9_cutWord 78 = .ok (.aload_n 0, 1) := by decide +kernel
theorem dX9_cutWord_79 : decode cX9_cutWord 79 = .ok (.iload_n 3, 1) := by decide +kernel
theorem dX9_cutWord_80 : decode cX9_cutWord 80 = .ok (.iload_n 1, 1) := by decide +kernel
theorem dX9_cutWord_81 : decode cX9_cutWord 81 = .ok (.iconst 0, 1) := by decide +kernel
theorem dX9_cutWord_82 : decode cX9_cutWord 82 = .ok (.invokevirtual 64, 3) := by decide +kernel
theorem dX9_cutWord_85 : decode cX9_cutWord 85 = .ok (.goto 25, 3) := by decide +kernel
theorem dX9_cutWord_88 : decode cX9_cutWord 88 = .ok (.aload_n 0, 1) := by decide +kernel
theorem dX9_cutWord_89 : decode cX9_cutWord 89 = .ok (.aload_n 0, 1) := by decide +kernel
theorem dX9_cutWord_90 : decode cX9_cutWord 90 = .ok (.getfield 43, 3) := by decide +kernel
theorem dX9_cutWord_93 : decode cX9_cutWord 93 = .ok (.iload_n 1, 1) := by decide +kernel
theorem dX9_cutWord_94 : decode cX9_cutWord 94 = .ok (.isub, 1) := by decide +kernel
theorem dX9_cutWord_95 : decode cX9_cutWord 95 = .ok (.bipush 6, 2) := by decide +kernel
theorem dX9_cutWord_97 : decode cX9_cutWord 97 = .ok (.if_icmp .gt 7, 3) := by decide +kernel
theorem dX9_cutWord_100 : decode cX9_cutWord 100 = .ok (.iconst 4, 1) := by decide +kernel
theorem dX9_cutWord_101 : decode cX9_cutWord 101 = .ok (.goto 4, 3) := by decide +kernel
theorem dX9_cutWord_104 : decode cX9_cutWord 104 = .ok (.iconst 5, 1) := by decide +kernel
theorem dX9_cutWord_105 : decode cX9_cutWord 105 = .ok (.iload_n 1, 1) := by decide +kernel
theorem dX9_cutWord_106 : decode cX9_cutWord 106 = .ok (.iload_n 2, 1) := by decide +kernel
theorem dX9_cutWord_107 : decode cX9_cutWord 107 = .ok (.invokevirtual 64, 3) := by decide +kernel
theorem dX9_cutWord_110 : decode cX9_cutWord 110 = .ok (.return_, 1) := by decide +kernel
/-- QuotientSums$Tape.cutWord(I)V -/
def wX9_cutWord (fed : Int32) (length : Int32) (tokens : Int32) (atF : Int32) (bytes : Nat → Int32) (sorts : Nat → Int32) (starts : Nat → Int32) (contents : Nat → Int32) (a1 : Int32) (Q : (Int32) → (Int32) → (Nat → Int32) → (Nat → Int32) → (Nat → Int32) → Prop) : Prop :=
  (∃ (Inv_1 : (Int32) → (Int32) → Prop) (Mea_1 : (Int32) → (Int32) → Nat), Inv_1 atF 0 ∧ ∀ (atF_1 : Int32) (x2_1 : Int32), Inv_1 atF_1 x2_1 → (∃ (J_1 : Prop), ((length ≤ atF_1 → (J_1)) ∧ (¬ length ≤ atF_1 → (∃ (P_5 : (Int32) → Prop), wX9_isLetter fed length tokens atF_1 bytes P_5 ∧ ∀ (rF_2 : Int32), P_5 rF_2 → ((rF_2 = 0 → (J_1)) ∧ (¬ rF_2 = 0 → ((6 ≤ (atF_1 - a1) → (∀ atF_2 : Int32, atF_2 = atF_1 + 1 → (Inv_1 atF_2 x2_1 ∧ Mea_1 atF_2 x2_1 < Mea_1 atF_1 x2_1))) ∧ (¬ 6 ≤ (atF_1 - a1) → (∃ (P_6 : (Int32) → Prop), wX9_here fed length tokens atF_1 bytes P_6 ∧ ∀ (rF_3 : Int32), P_6 rF_3 → ∀ x2_2 : Int32, x2_2 = x2_1 ||| (((rF_3 - 97) + 1) <<< ((5 * (5 - (atF_1 - a1))) &&& 31)) → ∀ atF_3 : Int32, atF_3 = atF_1 + 1 → (Inv_1 atF_3 x2_2 ∧ Mea_1 atF_3 x2_2 < Mea_1 atF_1 x2_1))))))))) ∧ (J_1 → (∃ (P_1 : (Int32) → Prop), wX9_languageWord fed length tokens atF_1 bytes a1 P_1 ∧ ∀ (rF_1 : Int32), P_1 rF_1 → ((rF_1 = (-1) → ((6 < (atF_1 - a1) → (∃ (P_2 : (Int32) → (Nat → Int32) → (Nat → Int32) → (Nat → Int32) → Prop), wX9_put fed length tokens atF_1 sorts starts contents 5 a1 x2_1 P_2 ∧ ∀ (tokens_1 : Int32) (sorts_1 : Nat → Int32) (starts_1 : Nat → Int32) (contents_1 : Nat → Int32), P_2 tokens_1 sorts_1 starts_1 contents_1 → (Q tokens_1 atF_1 sorts_1 starts_1 contents_1))) ∧ (¬ 6 < (atF_1 - a1) → (∃ (P_3 : (Int32) → (Nat → Int32) → (Nat → Int32) → (Nat → Int32) → Prop), wX9_put fed length tokens atF_1 sorts starts contents 4 a1 x2_1 P_3 ∧ ∀ (tokens_2 : Int32) (sorts_2 : Nat → Int32) (starts_2 : Nat → Int32) (contents_2 : Nat → Int32), P_3 tokens_2 sorts_2 starts_2 contents_2 → (Q tokens_2 atF_1 sorts_2 starts_2 contents_2))))) ∧ (¬ rF_1 = (-1) → (∃ (P_4 : (Int32) → (Nat → Int32) → (Nat → Int32) → (Nat → Int32) → Prop), wX9_put fed length tokens atF_1 sorts starts contents rF_1 a1 0 P_4 ∧ ∀ (tokens_3 : Int32) (sorts_3 : Nat → Int32) (starts_3 : Nat → Int32) (contents_3 : Nat → Int32), P_4 tokens_3 sorts_3 starts_3 contents_3 → (Q tokens_3 atF_1 sorts_3 starts_3 contents_3))))))))
set_option maxHeartbeats 4000000 in
set_option maxRecDepth 100000 in
theorem mX9_cutWord (l : Launch) (D : va_G) (Y : Nat → ClassId) (h0 : Nat) (fed : Int32) (q_bytes : Nat) (q_sorts : Nat) (q_starts : Nat) (q_contents : Nat) (length : Int32) (tokens : Int32) (atF : Int32) (bytes : Nat → Int32) (sorts : Nat → Int32) (starts : Nat → Int32) (contents : Nat → Int32) (a1 : Int32) (Q : (Int32) → (Int32) → (Nat → Int32) → (Nat → Int32) → (Nat → Int32) → Prop) (h : wX9_cutWord fed length tokens atF bytes sorts starts contents a1 Q) : gM l D Y yX9_cutWord cX9_cutWord 4 none 6 131 0 0 [.ref h0, .int a1] [oX9 h0 fed (.ref q_bytes) (.ref q_sorts) (.ref q_starts) (.ref q_contents) length tokens atF, aI Y q_bytes 700 bytes, aI Y q_sorts 701 sorts, aI Y q_starts 701 starts, aI Y q_contents 701 contents] (fun v w => ∃ tokens' : Int32, ∃ atF' : Int32, ∃ sorts' : Nat → Int32, ∃ starts' : Nat → Int32, ∃ contents' : Nat → Int32, v = none ∧ w = [oX9 h0 fed (.ref q_bytes) (.ref q_sorts) (.ref q_starts) (.ref q_contents) length tokens' atF', aI Y q_bytes 700 bytes, aI Y q_sorts 701 sorts', aI Y q_starts 701 starts', aI Y q_contents 701 contents'] ∧ Q tokens' atF' sorts' starts' contents') := by
  refine gM_of (own := RX9) (by decide +kernel) rfl (Nat.le_of_ble_eq_true rfl) rfl (fun E C hR => ?_)
  unfold wX9_cutWord at h
  refine g_iconst (v := 0) C dX9_cutWord_0 rfl ?_
  refine g_istore_n (lv' := [(2, .int 0), (0, .ref h0), (1, .int a1)]) C dX9_cutWord_1 (by decide) rfl ?_
  obtain ⟨Inv_1, Mea_1, hI1, hB1⟩ := h
  have key_1 : ∀ (n : Nat) (atF_1 : Int32) (x2_1 : Int32) , Mea_1 atF_1 x2_1 < n → Inv_1 atF_1 x2_1 → gG E 0 0 [oX9 h0 fed (.ref q_bytes) (.ref q_sorts) (.ref q_starts) (.ref q_contents) length tokens atF_1, aI Y q_bytes 700 bytes, aI Y q_sorts 701 sorts, aI Y q_starts 701 starts, aI Y q_contents 701 contents] [(0, .ref h0), (1, .int a1), (2, .int x2_1)] [] 2 := by
    intro n
    induction n with
    | zero => exact fun _ _ hm => absurd hm (Nat.not_lt_zero _)
    | succ n ih1 =>
      intro atF_1 x2_1  hm1 hI
      have h := hB1 atF_1 x2_1 hI
      refine g_aload_n C dX9_cutWord_2 0 rfl ?_
      refine g_get C inX9 0 rfl rfl 7 (by decide) wF_X9_43 rfl dX9_cutWord_3 ?_
      refine g_aload_n C dX9_cutWord_6 0 rfl ?_
      refine g_get C inX9 0 rfl rfl 5 (by decide) wF_X9_31 rfl dX9_cutWord_7 ?_
      obtain ⟨J_1, hA, hB_J_1⟩ := h
      have key_2 : J_1 → gG E 0 0 [oX9 h0 fed (.ref q_bytes) (.ref q_sorts) (.ref q_starts) (.ref q_contents) length tokens atF_1, aI Y q_bytes 700 bytes, aI Y q_sorts 701 sorts, aI Y q_starts 701 starts, aI Y q_contents 701 contents] [(0, .ref h0), (1, .int a1), (2, .int x2_1)] [] 67 := by
        intro  hJ
        have h := hB_J_1  hJ
        refine g_aload_n C dX9_cutWord_67 0 rfl ?_
        refine g_iload_n C dX9_cutWord_68 1 rfl ?_
        obtain ⟨P_1, hP, h⟩ := h
        refine g_callV (As := [.int a1]) (rest := []) C (mX9_languageWord l D Y h0 fed q_bytes (.ref q_sorts) (.ref q_starts) (.ref q_contents) length tokens atF_1 bytes a1 P_1 hP) dX9_cutWord_69 rfl wM_X9_75 wI_X9_languageWord wV_X9_languageWord wN_X9 wC_X9_languageWord (n := 1) (by decide +kernel) rfl (q0 := 0) rfl rfl ⟨Nat.le_of_ble_eq_true rfl, Nat.le_of_ble_eq_true rfl⟩ ⟨Nat.le_of_ble_eq_true rfl, Nat.le_of_ble_eq_true rfl⟩ (Nat.le_of_ble_eq_true rfl) [0, 1] [2, 3, 4] rfl rfl rfl (fun v wc hv => ?_)
        obtain ⟨rF_1, rfl, rfl, hq⟩ := hv
        replace h := h rF_1 hq
        refine gG.perm (ws' := [oX9 h0 fed (.ref q_bytes) (.ref q_sorts) (.ref q_starts) (.ref q_contents) length tokens atF_1, aI Y q_bytes 700 bytes, aI Y q_sorts 701 sorts, aI Y q_starts 701 starts, aI Y q_contents 701 contents]) [3, 4, 0, 1, 2] rfl rfl ?_
        refine g_istore_n (lv' := [(3, .int rF_1), (0, .ref h0), (1, .int a1), (2, .int x2_1)]) C dX9_cutWord_72 (by decide) rfl ?_
        refine g_iload_n C dX9_cutWord_73 0 rfl ?_
        refine g_iconst (v := (-1)) C dX9_cutWord_74 rfl ?_
        refine g_icmp_eq (tgt := 88) C dX9_cutWord_75 (by decide) (fun c_1 => ?_) (fun c_1 => ?_)
        · replace h := h.1 c_1
          refine g_aload_n C dX9_cutWord_88 1 rfl ?_
          refine g_aload_n C dX9_cutWord_89 1 rfl ?_
          refine g_get C inX9 0 rfl rfl 7 (by decide) wF_X9_43 rfl dX9_cutWord_90 ?_
          refine g_iload_n C dX9_cutWord_93 2 rfl ?_
          refine g_isub C dX9_cutWord_94 ?_
          refine g_bipush (v := 6) C dX9_cutWord_95 rfl ?_
          refine g_icmp_gt (tgt := 104) C dX9_cutWord_97 (by decide) (fun c_2 => ?_) (fun c_2 => ?_)
          · replace h := h.1 c_2
            refine g_iconst (v := 5) C dX9_cutWord_104 rfl ?_
            refine g_iload_n C dX9_cutWord_105 2 rfl ?_
            refine g_iload_n C dX9_cutWord_106 3 rfl ?_
            obtain ⟨P_2, hP, h⟩ := h
            refine g_callV (As := [.int 5, .int a1, .int x2_1]) (rest := []) C (mX9_put l D Y h0 fed (.ref q_bytes) q_sorts q_starts q_contents length tokens atF_1 sorts starts contents 5 a1 x2_1 P_2 hP) dX9_cutWord_107 rfl wM_X9_64 wI_X9_put wV_X9_put wN_X9 wC_X9_put (n := 3) (by decide +kernel) rfl (q0 := 0) rfl rfl ⟨Nat.le_of_ble_eq_true rfl, Nat.le_of_ble_eq_true rfl⟩ ⟨Nat.le_of_ble_eq_true rfl, Nat.le_of_ble_eq_true rfl⟩ (Nat.le_of_ble_eq_true rfl) [0, 2, 3, 4] [1] rfl rfl rfl (fun v wc hv => ?_)
            obtain ⟨tokens_1, sorts_1, starts_1, contents_1, rfl, rfl, hq⟩ := hv
            replace h := h tokens_1 sorts_1 starts_1 contents_1 hq
            refine gG.perm (ws' := [oX9 h0 fed (.ref q_bytes) (.ref q_sorts) (.ref q_starts) (.ref q_contents) length tokens_1 atF_1, aI Y q_bytes 700 bytes, aI Y q_sorts 701 sorts_1, aI Y q_starts 701 starts_1, aI Y q_contents 701 contents_1]) [1, 0, 2, 3, 4] rfl rfl ?_
            exact g_vret C hR (Nat.le_of_ble_eq_true rfl) (Nat.le_of_ble_eq_true rfl) dX9_cutWord_110 ⟨tokens_1, atF_1, sorts_1, starts_1, contents_1, rfl, rfl, h⟩
          · replace h := h.2 c_2
            refine g_iconst (v := 4) C dX9_cutWord_100 rfl ?_
            refine g_goto (tgt := 105) C dX9_cutWord_101 (by decide) ?_
            refine g_iload_n C dX9_cutWord_105 2 rfl ?_
            refine g_iload_n C dX9_cutWord_106 3 rfl ?_
            obtain ⟨P_3, hP, h⟩ := h
            refine g_callV (As := [.int 4, .int a1, .int x2_1]) (rest := []) C (mX9_put l D Y h0 fed (.ref q_bytes) q_sorts q_starts q_contents length tokens atF_1 sorts starts contents 4 a1 x2_1 P_3 hP) dX9_cutWord_107 rfl wM_X9_64 wI_X9_put wV_X9_put wN_X9 wC_X9_put (n := 3) (by decide +kernel) rfl (q0 := 0) rfl rfl ⟨Nat.le_of_ble_eq_true rfl, Nat.le_of_ble_eq_true rfl⟩ ⟨Nat.le_of_ble_eq_true rfl, Nat.le_of_ble_eq_true rfl⟩ (Nat.le_of_ble_eq_true rfl) [0, 2, 3, 4] [1] rfl rfl rfl (fun v wc hv => ?_)
            obtain ⟨tokens_2, sorts_2, starts_2, contents_2, rfl, rfl, hq⟩ := hv
            replace h := h tokens_2 sorts_2 starts_2 contents_2 hq
            refine gG.perm (ws' := [oX9 h0 fed (.ref q_bytes) (.ref q_sorts) (.ref q_starts) (.ref q_contents) length tokens_2 atF_1, aI Y q_bytes 700 bytes, aI Y q_sorts 701 sorts_2, aI Y q_starts 701 starts_2, aI Y q_contents 701 contents_2]) [1, 0, 2, 3, 4] rfl rfl ?_
            exact g_vret C hR (Nat.le_of_ble_eq_true rfl) (Nat.le_of_ble_eq_true rfl) dX9_cutWord_110 ⟨tokens_2, atF_1, sorts_2, starts_2, contents_2, rfl, rfl, h⟩
        · replace h := h.2 c_1
          refine g_aload_n C dX9_cutWord_78 1 rfl ?_
          refine g_iload_n C dX9_cutWord_79 0 rfl ?_
          refine g_iload_n C dX9_cutWord_80 2 rfl ?_
          refine g_iconst (v := 0) C dX9_cutWord_81 rfl ?_
          obtain ⟨P_4, hP, h⟩ := h
          refine g_callV (As := [.int rF_1, .int a1, .int 0]) (rest := []) C (mX9_put l D Y h0 fed (.ref q_bytes) q_sorts q_starts q_contents length tokens atF_1 sorts starts contents rF_1 a1 0 P_4 hP) dX9_cutWord_82 rfl wM_X9_64 wI_X9_put wV_X9_put wN_X9 wC_X9_put (n := 3) (by decide +kernel) rfl (q0 := 0) rfl rfl ⟨Nat.le_of_ble_eq_true rfl, Nat.le_of_ble_eq_true rfl⟩ ⟨Nat.le_of_ble_eq_true rfl, Nat.le_of_ble_eq_true rfl⟩ (Nat.le_of_ble_eq_true rfl) [0, 2, 3, 4] [1] rfl rfl rfl (fun v wc hv => ?_)
          obtain ⟨tokens_3, sorts_3, starts_3, contents_3, rfl, rfl, hq⟩ := hv
          replace h := h tokens_3 sorts_3 starts_3 contents_3 hq
          refine gG.perm (ws' := [oX9 h0 fed (.ref q_bytes) (.ref q_sorts) (.ref q_starts) (.ref q_contents) length tokens_3 atF_1, aI Y q_bytes 700 bytes, aI Y q_sorts 701 sorts_3, aI Y q_starts 701 starts_3, aI Y q_contents 701 contents_3]) [1, 0, 2, 3, 4] rfl rfl ?_
          refine g_goto (tgt := 110) C dX9_cutWord_85 (by decide) ?_
          exact g_vret C hR (Nat.le_of_ble_eq_true rfl) (Nat.le_of_ble_eq_true rfl) dX9_cutWord_110 ⟨tokens_3, atF_1, sorts_3, starts_3, contents_3, rfl, rfl, h⟩
      replace h := hA
      refine g_icmp_ge (tgt := 67) C dX9_cutWord_10 (by decide) (fun c_3 => ?_) (fun c_3 => ?_)
      · replace h := h.1 c_3
        exact key_2 h
      · replace h := h.2 c_3
        refine g_aload_n C dX9_cutWord_13 0 rfl ?_
        obtain ⟨P_5, hP, h⟩ := h
        refine g_callV (As := []) (rest := []) C (mX9_isLetter l D Y h0 fed q_bytes (.ref q_sorts) (.ref q_starts) (.ref q_contents) length tokens atF_1 bytes P_5 hP) dX9_cutWord_14 rfl wM_X9_50 wI_X9_isLetter wV_X9_isLetter wN_X9 wC_X9_isLetter (n := 0) (by decide +kernel) rfl (q0 := 0) rfl rfl ⟨Nat.le_of_ble_eq_true rfl, Nat.le_of_ble_eq_true rfl⟩ ⟨Nat.le_of_ble_eq_true rfl, Nat.le_of_ble_eq_true rfl⟩ (Nat.le_of_ble_eq_true rfl) [0, 1] [2, 3, 4] rfl rfl rfl (fun v wc hv => ?_)
        obtain ⟨rF_2, rfl, rfl, hq⟩ := hv
        replace h := h rF_2 hq
        refine gG.perm (ws' := [oX9 h0 fed (.ref q_bytes) (.ref q_sorts) (.ref q_starts) (.ref q_contents) length tokens atF_1, aI Y q_bytes 700 bytes, aI Y q_sorts 701 sorts, aI Y q_starts 701 starts, aI Y q_contents 701 contents]) [3, 4, 0, 1, 2] rfl rfl ?_
        refine g_if_eq (tgt := 67) C dX9_cutWord_17 (by decide) (fun c_4 => ?_) (fun c_4 => ?_)
        · replace h := h.1 c_4
          exact key_2 h
        · replace h := h.2 c_4
          refine g_aload_n C dX9_cutWord_20 0 rfl ?_
          refine g_get C inX9 0 rfl rfl 7 (by decide) wF_X9_43 rfl dX9_cutWord_21 ?_
          refine g_iload_n C dX9_cutWord_24 1 rfl ?_
          refine g_isub C dX9_cutWord_25 ?_
          refine g_bipush (v := 6) C dX9_cutWord_26 rfl ?_
          refine g_icmp_ge (tgt := 54) C dX9_cutWord_28 (by decide) (fun c_5 => ?_) (fun c_5 => ?_)
          · replace h := h.1 c_5
            refine g_aload_n C dX9_cutWord_54 0 rfl ?_
            refine g_dup C dX9_cutWord_55 rfl ?_
            refine g_get C inX9 0 rfl rfl 7 (by decide) wF_X9_43 rfl dX9_cutWord_56 ?_
            refine g_iconst (v := 1) C dX9_cutWord_59 rfl ?_
            refine g_iadd C dX9_cutWord_60 ?_
            refine g_topi (fun atF_2 eatF_2 => ?_)
            replace h := h atF_2 eatF_2
            refine g_put C inX9 tyX9 tyX9_ok nmX9 0 rfl rfl 7 (by decide) wF_X9_43 rfl rfl rfl (Nat.le_of_ble_eq_true rfl) (ws' := [oX9 h0 fed (.ref q_bytes) (.ref q_sorts) (.ref q_starts) (.ref q_contents) length tokens atF_2, aI Y q_bytes 700 bytes, aI Y q_sorts 701 sorts, aI Y q_starts 701 starts, aI Y q_contents 701 contents]) rfl dX9_cutWord_61 ?_
            refine g_goto (tgt := 2) C dX9_cutWord_64 (by decide) ?_
            exact ih1 atF_2 x2_1 (Nat.lt_of_lt_of_le h.2 (Nat.le_of_lt_succ hm1)) h.1
          · replace h := h.2 c_5
            refine g_iload_n C dX9_cutWord_31 2 rfl ?_
            refine g_aload_n C dX9_cutWord_32 0 rfl ?_
            obtain ⟨P_6, hP, h⟩ := h
            refine g_callV (As := []) (rest := [.int x2_1]) C (mX9_here l D Y h0 fed q_bytes (.ref q_sorts) (.ref q_starts) (.ref q_contents) length tokens atF_1 bytes P_6 hP) dX9_cutWord_33 rfl wM_X9_71 wI_X9_here wV_X9_here wN_X9 wC_X9_here (n := 0) (by decide +kernel) rfl (q0 := 0) rfl rfl ⟨Nat.le_of_ble_eq_true rfl, Nat.le_of_ble_eq_true rfl⟩ ⟨Nat.le_of_ble_eq_true rfl, Nat.le_of_ble_eq_true rfl⟩ (Nat.le_of_ble_eq_true rfl) [0, 1] [2, 3, 4] rfl rfl rfl (fun v wc hv => ?_)
            obtain ⟨rF_3, rfl, rfl, hq⟩ := hv
            replace h := h rF_3 hq
            refine gG.perm (ws' := [oX9 h0 fed (.ref q_bytes) (.ref q_sorts) (.ref q_starts) (.ref q_contents) length tokens atF_1, aI Y q_bytes 700 bytes, aI Y q_sorts 701 sorts, aI Y q_starts 701 starts, aI Y q_contents 701 contents]) [3, 4, 0, 1, 2] rfl rfl ?_
            refine g_bipush (v := 97) C dX9_cutWord_36 rfl ?_
            refine g_isub C dX9_cutWord_38 ?_
            refine g_iconst (v := 1) C dX9_cutWord_39 rfl ?_
            refine g_iadd C dX9_cutWord_40 ?_
            refine g_iconst (v := 5) C dX9_cutWord_41 rfl ?_
            refine g_iconst (v := 5) C dX9_cutWord_42 rfl ?_
            refine g_aload_n C dX9_cutWord_43 0 rfl ?_
            refine g_get C inX9 0 rfl rfl 7 (by decide) wF_X9_43 rfl dX9_cutWord_44 ?_
            refine g_iload_n C dX9_cutWord_47 1 rfl ?_
            refine g_isub C dX9_cutWord_48 ?_
            refine g_isub C dX9_cutWord_49 ?_
            refine g_imul C dX9_cutWord_50 ?_
            refine g_ishl C dX9_cutWord_51 ?_
            refine g_ior C dX9_cutWord_52 ?_
            refine g_topi (fun x2_2 ex2_2 => ?_)
            replace h := h x2_2 ex2_2
            refine g_istore_n (lv' := [(2, .int x2_2), (0, .ref h0), (1, .int a1)]) C dX9_cutWord_53 (by decide) rfl ?_
            refine g_aload_n C dX9_cutWord_54 1 rfl ?_
            refine g_dup C dX9_cutWord_55 rfl ?_
            refine g_get C inX9 0 rfl rfl 7 (by decide) wF_X9_43 rfl dX9_cutWord_56 ?_
            refine g_iconst (v := 1) C dX9_cutWord_59 rfl ?_
            refine g_iadd C dX9_cutWord_60 ?_
            refine g_topi (fun atF_3 eatF_3 => ?_)
            replace h := h atF_3 eatF_3
            refine g_put C inX9 tyX9 tyX9_ok nmX9 0 rfl rfl 7 (by decide) wF_X9_43 rfl rfl rfl (Nat.le_of_ble_eq_true rfl) (ws' := [oX9 h0 fed (.ref q_bytes) (.ref q_sorts) (.ref q_starts) (.ref q_contents) length tokens atF_3, aI Y q_bytes 700 bytes, aI Y q_sorts 701 sorts, aI Y q_starts 701 starts, aI Y q_contents 701 contents]) rfl dX9_cutWord_61 ?_
            refine g_goto (tgt := 2) C dX9_cutWord_64 (by decide) ?_
            refine gG.locals (lv' := [(0, .ref h0), (1, .int a1), (2, .int x2_2)]) [1, 2, 0] rfl ?_
            exact ih1 atF_3 x2_2 (Nat.lt_of_lt_of_le h.2 (Nat.le_of_lt_succ hm1)) h.1
  refine gG.locals (lv' := [(0, .ref h0), (1, .int a1), (2, .int 0)]) [1, 2, 0] rfl ?_
  exact key_1 (Mea_1 atF 0 + 1) atF 0 (Nat.lt_succ_self _) hI1
theorem dX9_isDigit_0 : decode cX9_isDigit 0 = .ok (.aload_n 0, 1) := by decide +kernel
theorem dX9_isDigit_1 : decode cX9_isDigit 1 = .ok (.invokevirtual 71, 3) := by decide +kernel
theorem dX9_isDigit_4 : decode cX9_isDigit 4 = .ok (.bipush 48, 2) := by decide +kernel
theorem dX9_isDigit_6 : decode cX9_isDigit 6 = .ok (.if_icmp .lt 16, 3) := by decide +kernel
theorem dX9_isDigit_9 : decode cX9_isDigit 9 = .ok (.aload_n 0, 1) := by decide +kernel
theorem dX9_isDigit_10 : decode cX9_isDigit 10 = .ok (.invokevirtual 71, 3) := by decide +kernel
theorem dX9_isDigit_13 : decode cX9_isDigit 13 = .ok (.bipush 57, 2) := by decide +kernel
theorem dX9_isDigit_15 : decode cX9_isDigit 15 = .ok (.if_icmp .gt 7, 3) := by decide +kernel
theorem dX9_isDigit_18 : decode cX9_isDigit 18 = .ok (.iconst 1, 1) := by decide +kernel
theorem dX9_isDigit_19 : decode cX9_isDigit 19 = .ok (.goto 4, 3) := by decide +kernel
theorem dX9_isDigit_22 : decode cX9_isDigit 22 = .ok (.iconst 0, 1) := by decide +kernel
theorem dX9_isDigit_23 : decode cX9_isDigit 23 = .ok (.ireturn, 1) := by decide +kernel
/-- QuotientSums$Tape.isDigit()Z -/
def wX9_isDigit (fed : Int32) (length : Int32) (tokens : Int32) (atF : Int32) (bytes : Nat → Int32)  (Q : (Int32) → Prop) : Prop :=
  (∃ (P_1 : (Int32) → Prop), wX9_here fed length tokens atF bytes P_1 ∧ ∀ (rF_1 : Int32), P_1 rF_1 → ((rF_1 < 48 → (Q 0)) ∧ (¬ rF_1 < 48 → (∃ (P_2 : (Int32) → Prop), wX9_here fed length tokens atF bytes P_2 ∧ ∀ (rF_2 : Int32), P_2 rF_2 → ((57 < rF_2 → (Q 0)) ∧ (¬ 57 < rF_2 → (Q 1)))))))
set_option maxHeartbeats 4000000 in
set_option maxRecDepth 100000 in
theorem mX9_isDigit (l : Launch) (D : va_G) (Y : Nat → ClassId) (h0 : Nat) (fed : Int32) (q_bytes : Nat) (v_sorts : Value) (v_starts : Value) (v_contents : Value) (length : Int32) (tokens : Int32) (atF : Int32) (bytes : Nat → Int32)  (Q : (Int32) → Prop) (h : wX9_isDigit fed length tokens atF bytes Q) : gM l D Y yX9_isDigit cX9_isDigit 1 (some .boolean) 1 20 0 0 [.ref h0] [oX9 h0 fed (.ref q_bytes) (v_sorts) (v_starts) (v_contents) length tokens atF, aI Y q_bytes 700 bytes] (fun v w => ∃ r : Int32, v = some (.int r) ∧ w = [oX9 h0 fed (.ref q_bytes) (v_sorts) (v_starts) (v_contents) length tokens atF, aI Y q_bytes 700 bytes] ∧ Q r) := by
  refine gM_of (own := RX9) (by decide +kernel) rfl (Nat.le_of_ble_eq_true rfl) rfl (fun E C hR => ?_)
  unfold wX9_isDigit at h
  refine g_aload_n C dX9_isDigit_0 0 rfl ?_
  obtain ⟨P_1, hP, h⟩ := h
  refine g_callV (As := []) (rest := []) C (mX9_here l D Y h0 fed q_bytes v_sorts v_starts v_contents length tokens atF bytes P_1 hP) dX9_isDigit_1 rfl wM_X9_71 wI_X9_here wV_X9_here wN_X9 wC_X9_here (n := 0) (by decide +kernel) rfl (q0 := 0) rfl rfl ⟨Nat.le_of_ble_eq_true rfl, Nat.le_of_ble_eq_true rfl⟩ ⟨Nat.le_of_ble_eq_true rfl, Nat.le_of_ble_eq_true rfl⟩ (Nat.le_of_ble_eq_true rfl) [0, 1] [] rfl rfl rfl (fun v wc hv => ?_)
  obtain ⟨rF_1, rfl, rfl, hq⟩ := hv
  replace h := h rF_1 hq
  refine gG.eqw (ws' := [oX9 h0 fed (.ref q_bytes) (v_sorts) (v_starts) (v_contents) length tokens atF, aI Y q_bytes 700 bytes]) rfl ?_
  refine g_bipush (v := 48) C dX9_isDigit_4 rfl ?_
  refine g_icmp_lt (tgt := 22) C dX9_isDigit_6 (by decide) (fun c_1 => ?_) (fun c_1 => ?_)
  · replace h := h.1 c_1
    refine g_iconst (v := 0) C dX9_isDigit_22 rfl ?_
    exact g_zret C hR (by decide) (Nat.le_of_ble_eq_true rfl) (Nat.le_of_ble_eq_true rfl) dX9_isDigit_23 ⟨0, rfl, rfl, h⟩
  · replace h := h.2 c_1
    refine g_aload_n C dX9_isDigit_9 0 rfl ?_
    obtain ⟨P_2, hP, h⟩ := h
    refine g_callV (As := []) (rest := []) C (mX9_here l D Y h0 fed q_bytes v_sorts v_starts v_contents length tokens atF bytes P_2 hP) dX9_isDigit_10 rfl wM_X9_71 wI_X9_here wV_X9_here wN_X9 wC_X9_here (n := 0) (by decide +kernel) rfl (q0 := 0) rfl rfl ⟨Nat.le_of_ble_eq_true rfl, Nat.le_of_ble_eq_true rfl⟩ ⟨Nat.le_of_ble_eq_true rfl, Nat.le_of_ble_eq_true rfl⟩ (Nat.le_of_ble_eq_true rfl) [0, 1] [] rfl rfl rfl (fun v wc hv => ?_)
    obtain ⟨rF_2, rfl, rfl, hq⟩ := hv
    replace h := h rF_2 hq
    refine gG.eqw (ws' := [oX9 h0 fed (.ref q_bytes) (v_sorts) (v_starts) (v_contents) length tokens atF, aI Y q_bytes 700 bytes]) rfl ?_
    refine g_bipush (v := 57) C dX9_isDigit_13 rfl ?_
    refine g_icmp_gt (tgt := 22) C dX9_isDigit_15 (by decide) (fun c_2 => ?_) (fun c_2 => ?_)
    · replace h := h.1 c_2
      refine g_iconst (v := 0) C dX9_isDigit_22 rfl ?_
      exact g_zret C hR (by decide) (Nat.le_of_ble_eq_true rfl) (Nat.le_of_ble_eq_true rfl) dX9_isDigit_23 ⟨0, rfl, rfl, h⟩
    · replace h := h.2 c_2
      refine g_iconst (v := 1) C dX9_isDigit_18 rfl ?_
      refine g_goto (tgt := 23) C dX9_isDigit_19 (by decide) ?_
      exact g_zret C hR (by decide) (Nat.le_of_ble_eq_true rfl) (Nat.le_of_ble_eq_true rfl) dX9_isDigit_23 ⟨1, rfl, rfl, h⟩
theorem dX9_cutDigits_0 : decode cX9_cutDigits 0 = .ok (.iconst 0, 1) := by decide +kernel
theorem dX9_cutDigits_1 : decode cX9_cutDigits 1 = .ok (.istore_n 1, 1) := by decide +kernel
theorem dX9_cutDigits_2 : decode cX9_cutDigits 2 = .ok (.aload_n 0, 1) := by decide +kernel
theorem dX9_cutDigits_3 : decode cX9_cutDigits 3 = .ok (.getfield 43, 3) := by decide +kernel
theorem dX9_cutDigits_6 : decode cX9_cutDigits 6 = .ok (.aload_n 0, 1) := by decide +kernel
theorem dX9_cutDigits_7 : decode cX9_cutDigits 7 = .ok (.getfield 31, 3) := by decide +kernel
theorem dX9_cutDigits_10 : decode cX9_cutDigits 10 = .ok (.if_icmp .ge 41, 3) := by decide +kernel
theorem dX9_cutDigits_13 : decode cX9_cutDigits 13 = .ok (.aload_n 0, 1) := by decide +kernel
theorem dX9_cutDigits_14 : decode cX9_cutDigits 14 = .ok (.invokevirtual 57, 3) := by decide +kernel
theorem dX9_cutDigits_17 : decode cX9_cutDigits 17 = .ok (.ifCond .eq 34, 3) := by decide +kernel
theorem dX9_cutDigits_20 : decode cX9_cutDigits 20 = .ok (.ldc 74, 2) := by decide +kernel
theorem dX9_cutDigits_22 : decode cX9_cutDigits 22 = .ok (.iload_n 1, 1) := by decide +kernel
theorem dX9_cutDigits_23 : decode cX9_cutDigits 23 = .ok (.bipush 10, 2) := by decide +kernel
theorem dX9_cutDigits_25 : decode cX9_cutDigits 25 = .ok (.imul, 1) := by decide +kernel
theorem dX9_cutDigits_26 : decode cX9_cutDigits 26 = .ok (.aload_n 0, 1) := by decide +kernel
theorem dX9_cutDigits_27 : decode cX9_cutDigits 27 = .ok (.invokevirtual 71, 3) := by decide +kernel
theorem dX9_cutDigits_30 : decode cX9_cutDigits 30 = .ok (.iadd, 1) := by decide +kernel
theorem dX9_cutDigits_31 : decode cX9_cutDigits 31 = .ok (.bipush 48, 2) := by decide +kernel
theorem dX9_cutDigits_33 : decode cX9_cutDigits 33 = .ok (.isub, 1) := by decide +kernel
theorem dX9_cutDigits_34 : decode cX9_cutDigits 34 = .ok (.invokestatic 34, 3) := by decide +kernel
theorem dX9_cutDigits_37 : decode cX9_cutDigits 37 = .ok (.istore_n 1, 1) := by decide +kernel
theorem dX9_cutDigits_38 : decode cX9_cutDigits 38 = .ok (.aload_n 0, 1) := by decide +kernel
theorem dX9_cutDigits_39 : decode cX9_cutDigits 39 = .ok (.dup, 1) := by decide +kernel
theorem dX9_cutDigits_40 : decode cX9_cutDigits 40 = .ok (.getfield 43, 3) := by decide +kernel
theorem dX9_cutDigits_43 : decode cX9_cutDigits 43 = .ok (.iconst 1, 1) := by decide +kernel
theorem dX9_cutDigits_44 : decode cX9_cutDigits 44 = .ok (.iadd, 1) := by decide +kernel
theorem dX9_cutDigits_45 : decode cX9_cutDigits 45 = .ok (.putfield 43, 3) := by decide +kernel
theorem dX9_cutDigits_48 : decode cX9_cutDigits 48 = .ok (.goto (-46), 3) := by decide +kernel
theorem dX9_cutDigits_51 : decode cX9_cutDigits 51 = .ok (.iload_n 1, 1) := by decide +kernel
theorem dX9_cutDigits_52 : decode cX9_cutDigits 52 = .ok (.ireturn, 1) := by decide +kernel
/-- QuotientSums$Tape.cutDigits()I -/
def wX9_cutDigits (fed : Int32) (length : Int32) (tokens : Int32) (atF : Int32) (bytes : Nat → Int32)  (Q : (Int32) → (Int32) → Prop) : Prop :=
  (∃ (Inv_1 : (Int32) → (Int32) → Prop) (Mea_1 : (Int32) → (Int32) → Nat), Inv_1 atF 0 ∧ ∀ (atF_1 : Int32) (x1_1 : Int32), Inv_1 atF_1 x1_1 → ((length ≤ atF_1 → (Q x1_1 atF_1)) ∧ (¬ length ≤ atF_1 → (∃ (P_1 : (Int32) → Prop), wX9_isDigit fed length tokens atF_1 bytes P_1 ∧ ∀ (rF_1 : Int32), P_1 rF_1 → ((rF_1 = 0 → (Q x1_1 atF_1)) ∧ (¬ rF_1 = 0 → (∃ (P_2 : (Int32) → Prop), wX9_here fed length tokens atF_1 bytes P_2 ∧ ∀ (rF_2 : Int32), P_2 rF_2 → ∀ m_1 : Int32, m_1 = (if (((x1_1 * 10) + rF_2) - 48) < 100000000 then (((x1_1 * 10) + rF_2) - 48) else 100000000) → ∀ atF_2 : Int32, atF_2 = atF_1 + 1 → (Inv_1 atF_2 m_1 ∧ Mea_1 atF_2 m_1 < Mea_1 atF_1 x1_1))))))))
set_option maxHeartbeats 4000000 in
set_option maxRecDepth 100000 in
theorem mX9_cutDigits (l : Launch) (D : va_G) (Y : Nat → ClassId) (h0 : Nat) (fed : Int32) (q_bytes : Nat) (v_sorts : Value) (v_starts : Value) (v_contents : Value) (length : Int32) (tokens : Int32) (atF : Int32) (bytes : Nat → Int32)  (Q : (Int32) → (Int32) → Prop) (h : wX9_cutDigits fed length tokens atF bytes Q) : gM l D Y yX9_cutDigits cX9_cutDigits 2 (some .int) 2 40 0 0 [.ref h0] [oX9 h0 fed (.ref q_bytes) (v_sorts) (v_starts) (v_contents) length tokens atF, aI Y q_bytes 700 bytes] (fun v w => ∃ r : Int32, ∃ atF' : Int32, v = some (.int r) ∧ w = [oX9 h0 fed (.ref q_bytes) (v_sorts) (v_starts) (v_contents) length tokens atF', aI Y q_bytes 700 bytes] ∧ Q r atF') := by
  refine gM_of (own := RX9) (by decide +kernel) rfl (Nat.le_of_ble_eq_true rfl) rfl (fun E C hR => ?_)
  unfold wX9_cutDigits at h
  refine g_iconst (v := 0) C dX9_cutDigits_0 rfl ?_
  refine g_istore_n (lv' := [(1, .int 0), (0, .ref h0)]) C dX9_cutDigits_1 (by decide) rfl ?_
  obtain ⟨Inv_1, Mea_1, hI1, hB1⟩ := h
  have key_1 : ∀ (n : Nat) (atF_1 : Int32) (x1_1 : Int32) , Mea_1 atF_1 x1_1 < n → Inv_1 atF_1 x1_1 → gG E 0 0 [oX9 h0 fed (.ref q_bytes) (v_sorts) (v_starts) (v_contents) length tokens atF_1, aI Y q_bytes 700 bytes] [(0, .ref h0), (1, .int x1_1)] [] 2 := by
    intro n
    induction n with
    | zero => exact fun _ _ hm => absurd hm (Nat.not_lt_zero _)
    | succ n ih1 =>
      intro atF_1 x1_1  hm1 hI
      have h := hB1 atF_1 x1_1 hI
      refine g_aload_n C dX9_cutDigits_2 0 rfl ?_
      refine g_get C inX9 0 rfl rfl 7 (by decide) wF_X9_43 rfl dX9_cutDigits_3 ?_
      refine g_aload_n C dX9_cutDigits_6 0 rfl ?_
      refine g_get C inX9 0 rfl rfl 5 (by decide) wF_X9_31 rfl dX9_cutDigits_7 ?_
      refine g_icmp_ge (tgt := 51) C dX9_cutDigits_10 (by decide) (fun c_1 => ?_) (fun c_1 => ?_)
      · replace h := h.1 c_1
        refine g_iload_n C dX9_cutDigits_51 1 rfl ?_
        exact g_iret C hR (Nat.le_of_ble_eq_true rfl) (Nat.le_of_ble_eq_true rfl) dX9_cutDigits_52 ⟨x1_1, atF_1, rfl, rfl, h⟩
      · replace h := h.2 c_1
        refine g_aload_n C dX9_cutDigits_13 0 rfl ?_
        obtain ⟨P_1, hP, h⟩ := h
        refine g_callV (As := []) (rest := []) C (mX9_isDigit l D Y h0 fed q_bytes v_sorts v_starts v_contents length tokens atF_1 bytes P_1 hP) dX9_cutDigits_14 rfl wM_X9_57 wI_X9_isDigit wV_X9_isDigit wN_X9 wC_X9_isDigit (n := 0) (by decide +kernel) rfl (q0 := 0) rfl rfl ⟨Nat.le_of_ble_eq_true rfl, Nat.le_of_ble_eq_true rfl⟩ ⟨Nat.le_of_ble_eq_true rfl, Nat.le_of_ble_eq_true rfl⟩ (Nat.le_of_ble_eq_true rfl) [0, 1] [] rfl rfl rfl (fun v wc hv => ?_)
        obtain ⟨rF_1, rfl, rfl, hq⟩ := hv
        replace h := h rF_1 hq
        refine gG.eqw (ws' := [oX9 h0 fed (.ref q_bytes) (v_sorts) (v_starts) (v_contents) length tokens atF_1, aI Y q_bytes 700 bytes]) rfl ?_
        refine g_if_eq (tgt := 51) C dX9_cutDigits_17 (by decide) (fun c_2 => ?_) (fun c_2 => ?_)
        · replace h := h.1 c_2
          refine g_iload_n C dX9_cutDigits_51 1 rfl ?_
          exact g_iret C hR (Nat.le_of_ble_eq_true rfl) (Nat.le_of_ble_eq_true rfl) dX9_cutDigits_52 ⟨x1_1, atF_1, rfl, rfl, h⟩
        · replace h := h.2 c_2
          refine g_ldc C dX9_cutDigits_20 wK_X9_74 ?_
          refine g_iload_n C dX9_cutDigits_22 1 rfl ?_
          refine g_bipush (v := 10) C dX9_cutDigits_23 rfl ?_
          refine g_imul C dX9_cutDigits_25 ?_
          refine g_aload_n C dX9_cutDigits_26 0 rfl ?_
          obtain ⟨P_2, hP, h⟩ := h
          refine g_callV (As := []) (rest := [.int (x1_1 * 10), .int 100000000]) C (mX9_here l D Y h0 fed q_bytes v_sorts v_starts v_contents length tokens atF_1 bytes P_2 hP) dX9_cutDigits_27 rfl wM_X9_71 wI_X9_here wV_X9_here wN_X9 wC_X9_here (n := 0) (by decide +kernel) rfl (q0 := 0) rfl rfl ⟨Nat.le_of_ble_eq_true rfl, Nat.le_of_ble_eq_true rfl⟩ ⟨Nat.le_of_ble_eq_true rfl, Nat.le_of_ble_eq_true rfl⟩ (Nat.le_of_ble_eq_true rfl) [0, 1] [] rfl rfl rfl (fun v wc hv => ?_)
          obtain ⟨rF_2, rfl, rfl, hq⟩ := hv
          replace h := h rF_2 hq
          refine gG.eqw (ws' := [oX9 h0 fed (.ref q_bytes) (v_sorts) (v_starts) (v_contents) length tokens atF_1, aI Y q_bytes 700 bytes]) rfl ?_
          refine g_iadd C dX9_cutDigits_30 ?_
          refine g_bipush (v := 48) C dX9_cutDigits_31 rfl ?_
          refine g_isub C dX9_cutDigits_33 ?_
          refine g_mmin C wM_X9_34 dX9_cutDigits_34 ⟨Nat.le_of_ble_eq_true rfl, Nat.le_of_ble_eq_true rfl⟩ ⟨Nat.le_of_ble_eq_true rfl, Nat.le_of_ble_eq_true rfl⟩ ?_
          refine g_topi (fun m_1 em_1 => ?_)
          replace h := h m_1 em_1
          refine g_istore_n (lv' := [(1, .int m_1), (0, .ref h0)]) C dX9_cutDigits_37 (by decide) rfl ?_
          refine g_aload_n C dX9_cutDigits_38 1 rfl ?_
          refine g_dup C dX9_cutDigits_39 rfl ?_
          refine g_get C inX9 0 rfl rfl 7 (by decide) wF_X9_43 rfl dX9_cutDigits_40 ?_
          refine g_iconst (v := 1) C dX9_cutDigits_43 rfl ?_
          refine g_iadd C dX9_cutDigits_44 ?_
          refine g_topi (fun atF_2 eatF_2 => ?_)
          replace h := h atF_2 eatF_2
          refine g_put C inX9 tyX9 tyX9_ok nmX9 0 rfl rfl 7 (by decide) wF_X9_43 rfl rfl rfl (Nat.le_of_ble_eq_true rfl) (ws' := [oX9 h0 fed (.ref q_bytes) (v_sorts) (v_starts) (v_contents) length tokens atF_2, aI Y q_bytes 700 bytes]) rfl dX9_cutDigits_45 ?_
          refine g_goto (tgt := 2) C dX9_cutDigits_48 (by decide) ?_
          refine gG.locals (lv' := [(0, .ref h0), (1, .int m_1)]) [1, 0] rfl ?_
          exact ih1 atF_2 m_1 (Nat.lt_of_lt_of_le h.2 (Nat.le_of_lt_succ hm1)) h.1
  refine gG.locals (lv' := [(0, .ref h0), (1, .int 0)]) [1, 0] rfl ?_
  exact key_1 (Mea_1 atF 0 + 1) atF 0 (Nat.lt_succ_self _) hI1
theorem dX9_cutSign_0 : decode cX9_cutSign 0 = .ok (.aload_n 0, 1) := by decide +kernel
theorem dX9_cutSign_1 : decode cX9_cutSign 1 = .ok (.invokevirtual 71, 3) := by decide +kernel
theorem dX9_cutSign_4 : decode cX9_cutSign 4 = .ok (.istore_n 2, 1) := by decide +kernel
theorem dX9_cutSign_5 : decode cX9_cutSign 5 = .ok (.aload_n 0, 1) := by decide +kernel
theorem dX9_cutSign_6 : decode cX9_cutSign 6 = .ok (.dup, 1) := by decide +kernel
theorem dX9_cutSign_7 : decode cX9_cutSign 7 = .ok (.getfield 43, 3) := by decide +kernel
theorem dX9_cutSign_10 : decode cX9_cutSign 10 = .ok (.iconst 1, 1) := by decide +kernel
theorem dX9_cutSign_11 : decode cX9_cutSign 11 = .ok (.iadd, 1) := by decide +kernel
theorem dX9_cutSign_12 : decode cX9_cutSign 12 = .ok (.putfield 43, 3) := by decide +kernel
theorem dX9_cutSign_15 : decode cX9_cutSign 15 = .ok (.iload_n 2, 1) := by decide +kernel
theorem dX9_cutSign_16 : decode cX9_cutSign 16 = .ok (.bipush 59, 2) := by decide +kernel
theorem dX9_cutSign_18 : decode cX9_cutSign 18 = .ok (.if_icmp .ne 13, 3) := by decide +kernel
theorem dX9_cutSign_21 : decode cX9_cutSign 21 = .ok (.aload_n 0, 1) := by decide +kernel
theorem dX9_cutSign_22 : decode cX9_cutSign 22 = .ok (.iconst 1, 1) := by decide +kernel
theorem dX9_cutSign_23 : decode cX9_cutSign 23 = .ok (.iload_n 1, 1) := by decide +kernel
theorem dX9_cutSign_24 : decode cX9_cutSign 24 = .ok (.iconst 0, 1) := by decide +kernel
theorem dX9_cutSign_25 : decode cX9_cutSign 25 = .ok (.invokevirtual 64, 3) := by decide +kernel
theorem dX9_cutSign_28 : decode cX9_cutSign 28 = .ok (.goto 37, 3) := by decide +kernel
theorem dX9_cutSign_31 : decode cX9_cutSign 31 = .ok (.iload_n 2, 1) := by decide +kernel
theorem dX9_cutSign_32 : decode cX9_cutSign 32 = .ok (.bipush 45, 2) := by decide +kernel
theorem dX9_cutSign_34 : decode cX9_cutSign 34 = .ok (.if_icmp .ne 24, 3) := by decide +kernel
theorem dX9_cutSign_37 : decode cX9_cutSign 37 = .ok (.aload_n 0, 1) := by decide +kernel
theorem dX9_cutSign_38 : decode cX9_cutSign 38 = .ok (.invokevirtual 57, 3) := by decide +kernel
theorem dX9_cutSign_41 : decode cX9_cutSign 41 = .ok (.ifCond .eq 17, 3) := by decide +kernel
theorem dX9_cutSign_44 : decode cX9_cutSign 44 = .ok (.aload_n 0, 1) := by decide +kernel
theorem dX9_cutSign_45 : decode cX9_cutSign 45 = .ok (.iconst 3, 1) := by decide +kernel
theorem dX9_cutSign_46 : decode cX9_cutSign 46 = .ok (.iload_n 1, 1) := by decide +kernel
theorem dX9_cutSign_47 : decode cX9_cutSign 47 = .ok (.aload_n 0, 1) := by decide +kernel
theorem dX9_cutSign_48 : decode cX9_cutSign 48 = .ok (.invokevirtual 60, 3) := by decide +kernel
theorem dX9_cutSign_51 : decode cX9_cutSign 51 = .ok (.ineg, 1) := by decide +kernel
theorem dX9_cutSign_52 : decode cX9_cutSign 52 = .ok (.invokevirtual 64, 3) := by decide +kernel
theorem dX9_cutSign_55 : decode cX9_cutSign 55 = .ok (.goto 10, 3) := by decide +kernel
theorem dX9_cutSign_58 : decode cX9_cutSign 58 = .ok (.aload_n 0, 1) := by decide +kernel
theorem dX9_cutSign_59 : decode cX9_cutSign 59 = .ok (.iconst 5, 1) := by decide +kernel
theorem dX9_cutSign_60 : decode cX9_cutSign 60 = .ok (.iload_n 1, 1) := by decide +kernel
theorem dX9_cutSign_61 : decode cX9_cutSign 61 = .ok (.iconst 0, 1) := by decide +kernel
theorem dX9_cutSign_62 : decode cX9_cutSign 62 = .ok (.invokevirtual 64, 3) := by decide +kernel
theorem dX9_cutSign_65 : decode cX9_cutSign 65 = .ok (.return_, 1) := by decide +kernel
/-- QuotientSums$Tape.cutSign(I)V -/
def wX9_cutSign (fed : Int32) (length : Int32) (tokens : Int32) (atF : Int32) (bytes : Nat → Int32) (sorts : Nat → Int32) (starts : Nat → Int32) (contents : Nat → Int32) (a1 : Int32) (Q : (Int32) → (Int32) → (Nat → Int32) → (Nat → Int32) → (Nat → Int32) → Prop) : Prop :=
  (∃ (P_1 : (Int32) → Prop), wX9_here fed length tokens atF bytes P_1 ∧ ∀ (rF_1 : Int32), P_1 rF_1 → ∀ atF_1 : Int32, atF_1 = atF + 1 → ((¬ rF_1 = 59 → ((¬ rF_1 = 45 → (∃ (P_2 : (Int32) → (Nat → Int32) → (Nat → Int32) → (Nat → Int32) → Prop), wX9_put fed length tokens atF_1 sorts starts contents 5 a1 0 P_2 ∧ ∀ (tokens_1 : Int32) (sorts_1 : Nat → Int32) (starts_1 : Nat → Int32) (contents_1 : Nat → Int32), P_2 tokens_1 sorts_1 starts_1 contents_1 → (Q tokens_1 atF_1 sorts_1 starts_1 contents_1))) ∧ (rF_1 = 45 → (∃ (P_3 : (Int32) → Prop), wX9_isDigit fed length tokens atF_1 bytes P_3 ∧ ∀ (rF_2 : Int32), P_3 rF_2 → ((rF_2 = 0 → (∃ (P_4 : (Int32) → (Nat → Int32) → (Nat → Int32) → (Nat → Int32) → Prop), wX9_put fed length tokens atF_1 sorts starts contents 5 a1 0 P_4 ∧ ∀ (tokens_2 : Int32) (sorts_2 : Nat → Int32) (starts_2 : Nat → Int32) (contents_2 : Nat → Int32), P_4 tokens_2 sorts_2 starts_2 contents_2 → (Q tokens_2 atF_1 sorts_2 starts_2 contents_2))) ∧ (¬ rF_2 = 0 → (∃ (P_5 : (Int32) → (Int32) → Prop), wX9_cutDigits fed length tokens atF_1 bytes P_5 ∧ ∀ (rF_3 : Int32) (atF_2 : Int32), P_5 rF_3 atF_2 → ∃ (P_6 : (Int32) → (Nat → Int32) → (Nat → Int32) → (Nat → Int32) → Prop), wX9_put fed length tokens atF_2 sorts starts contents 3 a1 (-rF_3) P_6 ∧ ∀ (tokens_3 : Int32) (sorts_3 : Nat → Int32) (starts_3 : Nat → Int32) (contents_3 : Nat → Int32), P_6 tokens_3 sorts_3 starts_3 contents_3 → (Q tokens_3 atF_2 sorts_3 starts_3 contents_3)))))))) ∧ (rF_1 = 59 → (∃ (P_7 : (Int32) → (Nat → Int32) → (Nat → Int32) → (Nat → Int32) → Prop), wX9_put fed length tokens atF_1 sorts starts contents 1 a1 0 P_7 ∧ ∀ (tokens_4 : Int32) (sorts_4 : Nat → Int32) (starts_4 : Nat → Int32) (contents_4 : Nat → Int32), P_7 tokens_4 sorts_4 starts_4 contents_4 → (Q tokens_4 atF_1 sorts_4 starts_4 contents_4)))))
set_option maxHeartbeats 4000000 in
set_option maxRecDepth 100000 in
theorem mX9_cutSign (l : Launch) (D : va_G) (Y : Nat → ClassId) (h0 : Nat) (fed : Int32) (q_bytes : Nat) (q_sorts : Nat) (q_starts : Nat) (q_contents : Nat) (length : Int32) (tokens : Int32) (atF : Int32) (bytes : Nat → Int32) (sorts : Nat → Int32) (starts : Nat → Int32) (contents : Nat → Int32) (a1 : Int32) (Q : (Int32) → (Int32) → (Nat → Int32) → (Nat → Int32) → (Nat → Int32) → Prop) (h : wX9_cutSign fed length tokens atF bytes sorts starts contents a1 Q) : gM l D Y yX9_cutSign cX9_cutSign 3 none 3 61 0 0 [.ref h0, .int a1] [oX9 h0 fed (.ref q_bytes) (.ref q_sorts) (.ref q_starts) (.ref q_contents) length tokens atF, aI Y q_bytes 700 bytes, aI Y q_sorts 701 sorts, aI Y q_starts 701 starts, aI Y q_contents 701 contents] (fun v w => ∃ tokens' : Int32, ∃ atF' : Int32, ∃ sorts' : Nat → Int32, ∃ starts' : Nat → Int32, ∃ contents' : Nat → Int32, v = none ∧ w = [oX9 h0 fed (.ref q_bytes) (.ref q_sorts) (.ref q_starts) (.ref q_contents) length tokens' atF', aI Y q_bytes 700 bytes, aI Y q_sorts 701 sorts', aI Y q_starts 701 starts', aI Y q_contents 701 contents'] ∧ Q tokens' atF' sorts' starts' contents') := by
  refine gM_of (own := RX9) (by decide +kernel) rfl (Nat.le_of_ble_eq_true rfl) rfl (fun E C hR => ?_)
  unfold wX9_cutSign at h
  refine g_aload_n C dX9_cutSign_0 0 rfl ?_
  obtain ⟨P_1, hP, h⟩ := h
  refine g_callV (As := []) (rest := []) C (mX9_here l D Y h0 fed q_bytes (.ref q_sorts) (.ref q_starts) (.ref q_contents) length tokens atF bytes P_1 hP) dX9_cutSign_1 rfl wM_X9_71 wI_X9_here wV_X9_here wN_X9 wC_X9_here (n := 0) (by decide +kernel) rfl (q0 := 0) rfl rfl ⟨Nat.le_of_ble_eq_true rfl, Nat.le_of_ble_eq_true rfl⟩ ⟨Nat.le_of_ble_eq_true rfl, Nat.le_of_ble_eq_true rfl⟩ (Nat.le_of_ble_eq_true rfl) [0, 1] [2, 3, 4] rfl rfl rfl (fun v wc hv => ?_)
  obtain ⟨rF_1, rfl, rfl, hq⟩ := hv
  replace h := h rF_1 hq
  refine gG.perm (ws' := [oX9 h0 fed (.ref q_bytes) (.ref q_sorts) (.ref q_starts) (.ref q_contents) length tokens atF, aI Y q_bytes 700 bytes, aI Y q_sorts 701 sorts, aI Y q_starts 701 starts, aI Y q_contents 701 contents]) [3, 4, 0, 1, 2] rfl rfl ?_
  refine g_istore_n (lv' := [(2, .int rF_1), (0, .ref h0), (1, .int a1)]) C dX9_cutSign_4 (by decide) rfl ?_
  refine g_aload_n C dX9_cutSign_5 1 rfl ?_
  refine g_dup C dX9_cutSign_6 rfl ?_
  refine g_get C inX9 0 rfl rfl 7 (by decide) wF_X9_43 rfl dX9_cutSign_7 ?_
  refine g_iconst (v := 1) C dX9_cutSign_10 rfl ?_
  refine g_iadd C dX9_cutSign_11 ?_
  refine g_topi (fun atF_1 eatF_1 => ?_)
  replace h := h atF_1 eatF_1
  refine g_put C inX9 tyX9 tyX9_ok nmX9 0 rfl rfl 7 (by decide) wF_X9_43 rfl rfl rfl (Nat.le_of_ble_eq_true rfl) (ws' := [oX9 h0 fed (.ref q_bytes) (.ref q_sorts) (.ref q_starts) (.ref q_contents) length tokens atF_1, aI Y q_bytes 700 bytes, aI Y q_sorts 701 sorts, aI Y q_starts 701 starts, aI Y q_contents 701 contents]) rfl dX9_cutSign_12 ?_
  refine g_iload_n C dX9_cutSign_15 0 rfl ?_
  refine g_bipush (v := 59) C dX9_cutSign_16 rfl ?_
  refine g_icmp_ne (tgt := 31) C dX9_cutSign_18 (by decide) (fun c_1 => ?_) (fun c_1 => ?_)
  · replace h := h.1 c_1
    refine g_iload_n C dX9_cutSign_31 0 rfl ?_
    refine g_bipush (v := 45) C dX9_cutSign_32 rfl ?_
    refine g_icmp_ne (tgt := 58) C dX9_cutSign_34 (by decide) (fun c_2 => ?_) (fun c_2 => ?_)
    · replace h := h.1 c_2
      refine g_aload_n C dX9_cutSign_58 1 rfl ?_
      refine g_iconst (v := 5) C dX9_cutSign_59 rfl ?_
      refine g_iload_n C dX9_cutSign_60 2 rfl ?_
      refine g_iconst (v := 0) C dX9_cutSign_61 rfl ?_
      obtain ⟨P_2, hP, h⟩ := h
      refine g_callV (As := [.int 5, .int a1, .int 0]) (rest := []) C (mX9_put l D Y h0 fed (.ref q_bytes) q_sorts q_starts q_contents length tokens atF_1 sorts starts contents 5 a1 0 P_2 hP) dX9_cutSign_62 rfl wM_X9_64 wI_X9_put wV_X9_put wN_X9 wC_X9_put (n := 3) (by decide +kernel) rfl (q0 := 0) rfl rfl ⟨Nat.le_of_ble_eq_true rfl, Nat.le_of_ble_eq_true rfl⟩ ⟨Nat.le_of_ble_eq_true rfl, Nat.le_of_ble_eq_true rfl⟩ (Nat.le_of_ble_eq_true rfl) [0, 2, 3, 4] [1] rfl rfl rfl (fun v wc hv => ?_)
      obtain ⟨tokens_1, sorts_1, starts_1, contents_1, rfl, rfl, hq⟩ := hv
      replace h := h tokens_1 sorts_1 starts_1 contents_1 hq
      refine gG.perm (ws' := [oX9 h0 fed (.ref q_bytes) (.ref q_sorts) (.ref q_starts) (.ref q_contents) length tokens_1 atF_1, aI Y q_bytes 700 bytes, aI Y q_sorts 701 sorts_1, aI Y q_starts 701 starts_1, aI Y q_contents 701 contents_1]) [1, 0, 2, 3, 4] rfl rfl ?_
      exact g_vret C hR (Nat.le_of_ble_eq_true rfl) (Nat.le_of_ble_eq_true rfl) dX9_cutSign_65 ⟨tokens_1, atF_1, sorts_1, starts_1, contents_1, rfl, rfl, h⟩
    · replace h := h.2 c_2
      refine g_aload_n C dX9_cutSign_37 1 rfl ?_
      obtain ⟨P_3, hP, h⟩ := h
      refine g_callV (As := []) (rest := []) C (mX9_isDigit l D Y h0 fed q_bytes (.ref q_sorts) (.ref q_starts) (.ref q_contents) length tokens atF_1 bytes P_3 hP) dX9_cutSign_38 rfl wM_X9_57 wI_X9_isDigit wV_X9_isDigit wN_X9 wC_X9_isDigit (n := 0) (by decide +kernel) rfl (q0 := 0) rfl rfl ⟨Nat.le_of_ble_eq_true rfl, Nat.le_of_ble_eq_true rfl⟩ ⟨Nat.le_of_ble_eq_true rfl, Nat.le_of_ble_eq_true rfl⟩ (Nat.le_of_ble_eq_true rfl) [0, 1] [2, 3, 4] rfl rfl rfl (fun v wc hv => ?_)
      obtain ⟨rF_2, rfl, rfl, hq⟩ := hv
      replace h := h rF_2 hq
      refine gG.perm (ws' := [oX9 h0 fed (.ref q_bytes) (.ref q_sorts) (.ref q_starts) (.ref q_contents) length tokens atF_1, aI Y q_bytes 700 bytes, aI Y q_sorts 701 sorts, aI Y q_starts 701 starts, aI Y q_contents 701 contents]) [3, 4, 0, 1, 2] rfl rfl ?_
      refine g_if_eq (tgt := 58) C dX9_cutSign_41 (by decide) (fun c_3 => ?_) (fun c_3 => ?_)
      · replace h := h.1 c_3
        refine g_aload_n C dX9_cutSign_58 1 rfl ?_
        refine g_iconst (v := 5) C dX9_cutSign_59 rfl ?_
        refine g_iload_n C dX9_cutSign_60 2 rfl ?_
        refine g_iconst (v := 0) C dX9_cutSign_61 rfl ?_
        obtain ⟨P_4, hP, h⟩ := h
        refine g_callV (As := [.int 5, .int a1, .int 0]) (rest := []) C (mX9_put l D Y h0 fed (.ref q_bytes) q_sorts q_starts q_contents length tokens atF_1 sorts starts contents 5 a1 0 P_4 hP) dX9_cutSign_62 rfl wM_X9_64 wI_X9_put wV_X9_put wN_X9 wC_X9_put (n := 3) (by decide +kernel) rfl (q0 := 0) rfl rfl ⟨Nat.le_of_ble_eq_true rfl, Nat.le_of_ble_eq_true rfl⟩ ⟨Nat.le_of_ble_eq_true rfl, Nat.le_of_ble_eq_true rfl⟩ (Nat.le_of_ble_eq_true rfl) [0, 2, 3, 4] [1] rfl rfl rfl (fun v wc hv => ?_)
        obtain ⟨tokens_2, sorts_2, starts_2, contents_2, rfl, rfl, hq⟩ := hv
        replace h := h tokens_2 sorts_2 starts_2 contents_2 hq
        refine gG.perm (ws' := [oX9 h0 fed (.ref q_bytes) (.ref q_sorts) (.ref q_starts) (.ref q_contents) length tokens_2 atF_1, aI Y q_bytes 700 bytes, aI Y q_sorts 701 sorts_2, aI Y q_starts 701 starts_2, aI Y q_contents 701 contents_2]) [1, 0, 2, 3, 4] rfl rfl ?_
        exact g_vret C hR (Nat.le_of_ble_eq_true rfl) (Nat.le_of_ble_eq_true rfl) dX9_cutSign_65 ⟨tokens_2, atF_1, sorts_2, starts_2, contents_2, rfl, rfl, h⟩
      · replace h := h.2 c_3
        refine g_aload_n C dX9_cutSign_44 1 rfl ?_
        refine g_iconst (v := 3) C dX9_cutSign_45 rfl ?_
        refine g_iload_n C dX9_cutSign_46 2 rfl ?_
        refine g_aload_n C dX9_cutSign_47 1 rfl ?_
        obtain ⟨P_5, hP, h⟩ := h
        refine g_callV (As := []) (rest := [.int a1, .int 3, .ref h0]) C (mX9_cutDigits l D Y h0 fed q_bytes (.ref q_sorts) (.ref q_starts) (.ref q_contents) length tokens atF_1 bytes P_5 hP) dX9_cutSign_48 rfl wM_X9_60 wI_X9_cutDigits wV_X9_cutDigits wN_X9 wC_X9_cutDigits (n := 0) (by decide +kernel) rfl (q0 := 0) rfl rfl ⟨Nat.le_of_ble_eq_true rfl, Nat.le_of_ble_eq_true rfl⟩ ⟨Nat.le_of_ble_eq_true rfl, Nat.le_of_ble_eq_true rfl⟩ (Nat.le_of_ble_eq_true rfl) [0, 1] [2, 3, 4] rfl rfl rfl (fun v wc hv => ?_)
        obtain ⟨rF_3, atF_2, rfl, rfl, hq⟩ := hv
        replace h := h rF_3 atF_2 hq
        refine gG.perm (ws' := [oX9 h0 fed (.ref q_bytes) (.ref q_sorts) (.ref q_starts) (.ref q_contents) length tokens atF_2, aI Y q_bytes 700 bytes, aI Y q_sorts 701 sorts, aI Y q_starts 701 starts, aI Y q_contents 701 contents]) [3, 4, 0, 1, 2] rfl rfl ?_
        refine g_ineg C dX9_cutSign_51 ?_
        obtain ⟨P_6, hP, h⟩ := h
        refine g_callV (As := [.int 3, .int a1, .int (-rF_3)]) (rest := []) C (mX9_put l D Y h0 fed (.ref q_bytes) q_sorts q_starts q_contents length tokens atF_2 sorts starts contents 3 a1 (-rF_3) P_6 hP) dX9_cutSign_52 rfl wM_X9_64 wI_X9_put wV_X9_put wN_X9 wC_X9_put (n := 3) (by decide +kernel) rfl (q0 := 0) rfl rfl ⟨Nat.le_of_ble_eq_true rfl, Nat.le_of_ble_eq_true rfl⟩ ⟨Nat.le_of_ble_eq_true rfl, Nat.le_of_ble_eq_true rfl⟩ (Nat.le_of_ble_eq_true rfl) [0, 2, 3, 4] [1] rfl rfl rfl (fun v wc hv => ?_)
        obtain ⟨tokens_3, sorts_3, starts_3, contents_3, rfl, rfl, hq⟩ := hv
        replace h := h tokens_3 sorts_3 starts_3 contents_3 hq
        refine gG.perm (ws' := [oX9 h0 fed (.ref q_bytes) (.ref q_sorts) (.ref q_starts) (.ref q_contents) length tokens_3 atF_2, aI Y q_bytes 700 bytes, aI Y q_sorts 701 sorts_3, aI Y q_starts 701 starts_3, aI Y q_contents 701 contents_3]) [1, 0, 2, 3, 4] rfl rfl ?_
        refine g_goto (tgt := 65) C dX9_cutSign_55 (by decide) ?_
        exact g_vret C hR (Nat.le_of_ble_eq_true rfl) (Nat.le_of_ble_eq_true rfl) dX9_cutSign_65 ⟨tokens_3, atF_2, sorts_3, starts_3, contents_3, rfl, rfl, h⟩
  · replace h := h.2 c_1
    refine g_aload_n C dX9_cutSign_21 1 rfl ?_
    refine g_iconst (v := 1) C dX9_cutSign_22 rfl ?_
    refine g_iload_n C dX9_cutSign_23 2 rfl ?_
    refine g_iconst (v := 0) C dX9_cutSign_24 rfl ?_
    obtain ⟨P_7, hP, h⟩ := h
    refine g_callV (As := [.int 1, .int a1, .int 0]) (rest := []) C (mX9_put l D Y h0 fed (.ref q_bytes) q_sorts q_starts q_contents length tokens atF_1 sorts starts contents 1 a1 0 P_7 hP) dX9_cutSign_25 rfl wM_X9_64 wI_X9_put wV_X9_put wN_X9 wC_X9_put (n := 3) (by decide +kernel) rfl (q0 := 0) rfl rfl ⟨Nat.le_of_ble_eq_true rfl, Nat.le_of_ble_eq_true rfl⟩ ⟨Nat.le_of_ble_eq_true rfl, Nat.le_of_ble_eq_true rfl⟩ (Nat.le_of_ble_eq_true rfl) [0, 2, 3, 4] [1] rfl rfl rfl (fun v wc hv => ?_)
    obtain ⟨tokens_4, sorts_4, starts_4, contents_4, rfl, rfl, hq⟩ := hv
    replace h := h tokens_4 sorts_4 starts_4 contents_4 hq
    refine gG.perm (ws' := [oX9 h0 fed (.ref q_bytes) (.ref q_sorts) (.ref q_starts) (.ref q_contents) length tokens_4 atF_1, aI Y q_bytes 700 bytes, aI Y q_sorts 701 sorts_4, aI Y q_starts 701 starts_4, aI Y q_contents 701 contents_4]) [1, 0, 2, 3, 4] rfl rfl ?_
    refine g_goto (tgt := 65) C dX9_cutSign_28 (by decide) ?_
    exact g_vret C hR (Nat.le_of_ble_eq_true rfl) (Nat.le_of_ble_eq_true rfl) dX9_cutSign_65 ⟨tokens_4, atF_1, sorts_4, starts_4, contents_4, rfl, rfl, h⟩
theorem dX9_cut_0 : decode cX9_cut 0 = .ok (.aload_n 0, 1) := by decide +kernel
theorem dX9_cut_1 : decode cX9_cut 1 = .ok (.iconst 0, 1) := by decide +kernel
theorem dX9_cut_2 : decode cX9_cut 2 = .ok (.iload_n 1, 1) := by decide +kernel
theorem dX9_cut_3 : decode cX9_cut 3 = .ok (.aload_n 0, 1) := by decide +kernel
theorem dX9_cut_4 : decode cX9_cut 4 = .ok (.getfield 24, 3) := by decide +kernel
theorem dX9_cut_7 : decode cX9_cut 7 = .ok (.invokestatic 34, 3) := by decide +kernel
theorem dX9_cut_10 : decode cX9_cut 10 = .ok (.invokestatic 40, 3) := by decide +kernel
theorem dX9_cut_13 : decode cX9_cut 13 = .ok (.putfield 31, 3) := by decide +kernel
theorem dX9_cut_16 : decode cX9_cut 16 = .ok (.aload_n 0, 1) := by decide +kernel
theorem dX9_cut_17 : decode cX9_cut 17 = .ok (.iconst 0, 1) := by decide +kernel
theorem dX9_cut_18 : decode cX9_cut 18 = .ok (.putfield 24, 3) := by decide +kernel
theorem dX9_cut_21 : decode cX9_cut 21 = .ok (.aload_n 0, 1) := by decide +kernel
theorem dX9_cut_22 : decode cX9_cut 22 = .ok (.iconst 0, 1) := by decide +kernel
theorem dX9_cut_23 : decode cX9_cut 23 = .ok (.putfield 28, 3) := by decide +kernel
theorem dX9_cut_26 : decode cX9_cut 26 = .ok (.aload_n 0, 1) := by decide +kernel
theorem dX9_cut_27 : decode cX9_cut 27 = .ok (.iconst 0, 1) := by decide +kernel
theorem dX9_cut_28 : decode cX9_cut 28 = .ok (.putfield 43, 3) := by decide +kernel
theorem dX9_cut_31 : decode cX9_cut 31 = .ok (.iconst 0, 1) := by decide +kernel
theorem dX9_cut_32 : decode cX9_cut 32 = .ok (.istore_n 2, 1) := by decide +kernel
theorem dX9_cut_33 : decode cX9_cut 33 = .ok (.iload_n 2, 1) := by decide +kernel
theorem dX9_cut_34 : decode cX9_cut 34 = .ok (.sipush 700, 3) := by decide +kernel
theorem dX9_cut_37 : decode cX9_cut 37 = .ok (.if_icmp .ge 85, 3) := by decide +kernel
theorem dX9_cut_40 : decode cX9_cut 40 = .ok (.aload_n 0, 1) := by decide +kernel
theorem dX9_cut_41 : decode cX9_cut 41 = .ok (.getfield 43, 3) := by decide +kernel
theorem dX9_cut_44 : decode cX9_cut 44 = .ok (.aload_n 0, 1) := by decide +kernel
theorem dX9_cut_45 : decode cX9_cut 45 = .ok (.getfield 31, 3) := by decide +kernel
theorem dX9_cut_48 : decode cX9_cut 48 = .ok (.if_icmp .ge 74, 3) := by decide +kernel
theorem dX9_cut_51 : decode cX9_cut 51 = .ok (.aload_n 0, 1) := by decide +kernel
theorem dX9_cut_52 : decode cX9_cut 52 = .ok (.getfield 43, 3) := by decide +kernel
theorem dX9_cut_55 : decode cX9_cut 55 = .ok (.istore_n 3, 1) := by decide +kernel
theorem dX9_cut_56 : decode cX9_cut 56 = .ok (.aload_n 0, 1) := by decide +kernel
theorem dX9_cut_57 : decode cX9_cut 57 = .ok (.invokevirtual 46, 3) := by decide +kernel
theorem dX9_cut_60 : decode cX9_cut 60 = .ok (.ifCond .eq 16, 3) := by decide +kernel
theorem dX9_cut_63 : decode cX9_cut 63 = .ok (.aload_n 0, 1) := by decide +kernel
theorem dX9_cut_64 : decode cX9_cut 64 = .ok (.dup, 1) := by decide +kernel
theorem dX9_cut_65 : decode cX9_cut 65 = .ok (.getfield 43, 3) := by decide +kernel
theorem dX9_cut_68 : decode cX9_cut 68 = .ok (.iconst 1, 1) := by decide +kernel
theorem dX9_cut_69 : decode cX9_cut 69 = .ok (.iadd, 1) := by decide +kernel
theorem dX9_cut_70 : decode cX9_cut 70 = .ok (.putfield 43, 3) := by decide +kernel
theorem dX9_cut_73 : decode cX9_cut 73 = .ok (.goto 43, 3) := by decide +kernel
theorem dX9_cut_76 : decode cX9_cut 76 = .ok (.aload_n 0, 1) := by decide +kernel
theorem dX9_cut_77 : decode cX9_cut 77 = .ok (.invokevirtual 50, 3) := by decide +kernel
theorem dX9_cut_80 : decode cX9_cut 80 = .ok (.ifCond .eq 11, 3) := by decide +kernel
theorem dX9_cut_83 : decode cX9_cut 83 = .ok (.aload_n 0, 1) := by decide +kernel
theorem dX9_cut_84 : decode cX9_cut 84 = .ok (.iload_n 3, 1) := by decide +kernel
theorem dX9_cut_85 : decode cX9_cut 85 = .ok (.invokevirtual 53, 3) := by decide +kernel
theorem dX9_cut_88 : decode cX9_cut 88 = .ok (.goto 28, 3) := by decide +kernel
theorem dX9_cut_91 : decode cX9_cut 91 = .ok (.aload_n 0, 1) := by decide +kernel
theorem dX9_cut_92 : decode cX9_cut 92 = .ok (.invokevirtual 57, 3) := by decide +kernel
theorem dX9_cut_95 : decode cX9_cut 95 = .ok (.ifCond .eq 16, 3) := by decide +kernel
theorem dX9_cut_98 : decode cX9_cut 98 = .ok (.aload_n 0, 1) := by decide +kernel
theorem dX9_cut_99 : decode cX9_cut 99 = .ok (.iconst 2, 1) := by decide +kernel
theorem dX9_cut_100 : decode cX9_cut 100 = .ok (.iload_n 3, 1) := by decide +kernel
theorem dX9_cut_101 : decode cX9_cut 101 = .ok (.aload_n 0, 1) := by decide +kernel
theorem dX9_cut_102 : decode cX9_cut 102 = .ok (.invokevirtual 60, 3) := by decide +kernel
theorem dX9_cut_105 : decode cX9_cut 105 = .ok (.invokevirtual 64, 3) := by decide +kernel
theorem dX9_cut_108 : decode cX9_cut 108 = .ok (.goto 8, 3) := by decide +kernel
theorem dX9_cut_111 : decode cX9_cut 111 = .ok (.aload_n 0, 1) := by decide +kernel
theorem dX9_cut_112 : decode cX9_cut 112 = .ok (.iload_n 3, 1) := by decide +kernel
theorem dX9_cut_113 : decode cX9_cut 113 = .ok (.invokevirtual 68, 3) := by decide +kernel
theorem dX9_cut_116 : decode cX9_cut 116 = .ok (.iinc 2 1, 3) := by decide +kernel
theorem dX9_cut_119 : decode cX9_cut 119 = .ok (.goto (-86), 3) := by decide +kernel
theorem dX9_cut_122 : decode cX9_cut 122 = .ok (.return_, 1) := by decide +kernel
/-- QuotientSums$Tape.cut(I)V -/
def wX9_cut (fed : Int32) (length : Int32) (tokens : Int32) (atF : Int32) (bytes : Nat → Int32) (sorts : Nat → Int32) (starts : Nat → Int32) (contents : Nat → Int32) (a1 : Int32) (Q : (Int32) → (Int32) → (Int32) → (Int32) → (Nat → Int32) → (Nat → Int32) → (Nat → Int32) → Prop) : Prop :=
  (∀ m_1 : Int32, m_1 = (if fed < a1 then fed else a1) → ∀ m_2 : Int32, m_2 = (if (0 : Int32) < m_1 then m_1 else 0) → (∃ (Inv_1 : (Nat → Int32) → (Nat → Int32) → (Nat → Int32) → (Int32) → (Int32) → (Int32) → Prop) (Mea_1 : (Nat → Int32) → (Nat → Int32) → (Nat → Int32) → (Int32) → (Int32) → (Int32) → Nat), Inv_1 contents sorts starts 0 0 0 ∧ ∀ (contents_1 : Nat → Int32) (sorts_1 : Nat → Int32) (starts_1 : Nat → Int32) (tokens_1 : Int32) (atF_1 : Int32) (x2_1 : Int32), Inv_1 contents_1 sorts_1 starts_1 tokens_1 atF_1 x2_1 → ((700 ≤ x2_1 → (Q 0 m_2 tokens_1 atF_1 sorts_1 starts_1 contents_1)) ∧ (¬ 700 ≤ x2_1 → ((m_2 ≤ atF_1 → (Q 0 m_2 tokens_1 atF_1 sorts_1 starts_1 contents_1)) ∧ (¬ m_2 ≤ atF_1 → (∃ (P_1 : (Int32) → Prop), wX9_isBlank 0 m_2 tokens_1 atF_1 bytes P_1 ∧ ∀ (rF_1 : Int32), P_1 rF_1 → ((rF_1 = 0 → (∃ (P_2 : (Int32) → Prop), wX9_isLetter 0 m_2 tokens_1 atF_1 bytes P_2 ∧ ∀ (rF_2 : Int32), P_2 rF_2 → ((rF_2 = 0 → (∃ (P_3 : (Int32) → Prop), wX9_isDigit 0 m_2 tokens_1 atF_1 bytes P_3 ∧ ∀ (rF_3 : Int32), P_3 rF_3 → ((rF_3 = 0 → (∃ (P_4 : (Int32) → (Int32) → (Nat → Int32) → (Nat → Int32) → (Nat → Int32) → Prop), wX9_cutSign 0 m_2 tokens_1 atF_1 bytes sorts_1 starts_1 contents_1 atF_1 P_4 ∧ ∀ (tokens_2 : Int32) (atF_2 : Int32) (sorts_2 : Nat → Int32) (starts_2 : Nat → Int32) (contents_2 : Nat → Int32), P_4 tokens_2 atF_2 sorts_2 starts_2 contents_2 → (Inv_1 contents_2 sorts_2 starts_2 tokens_2 atF_2 (x2_1 + 1) ∧ Mea_1 contents_2 sorts_2 starts_2 tokens_2 atF_2 (x2_1 + 1) < Mea_1 contents_1 sorts_1 starts_1 tokens_1 atF_1 x2_1))) ∧ (¬ rF_3 = 0 → (∃ (P_5 : (Int32) → (Int32) → Prop), wX9_cutDigits 0 m_2 tokens_1 atF_1 bytes P_5 ∧ ∀ (rF_4 : Int32) (atF_3 : Int32), P_5 rF_4 atF_3 → ∃ (P_6 : (Int32) → (Nat → Int32) → (Nat → Int32) → (Nat → Int32) → Prop), wX9_put 0 m_2 tokens_1 atF_3 sorts_1 starts_1 contents_1 2 atF_1 rF_4 P_6 ∧ ∀ (tokens_3 : Int32) (sorts_3 : Nat → Int32) (starts_3 : Nat → Int32) (contents_3 : Nat → Int32), P_6 tokens_3 sorts_3 starts_3 contents_3 → (Inv_1 contents_3 sorts_3 starts_3 tokens_3 atF_3 (x2_1 + 1) ∧ Mea_1 contents_3 sorts_3 starts_3 tokens_3 atF_3 (x2_1 + 1) < Mea_1 contents_1 sorts_1 starts_1 tokens_1 atF_1 x2_1)))))) ∧ (¬ rF_2 = 0 → (∃ (P_7 : (Int32) → (Int32) → (Nat → Int32) → (Nat → Int32) → (Nat → Int32) → Prop), wX9_cutWord 0 m_2 tokens_1 atF_1 bytes sorts_1 starts_1 contents_1 atF_1 P_7 ∧ ∀ (tokens_4 : Int32) (atF_4 : Int32) (sorts_4 : Nat → Int32) (starts_4 : Nat → Int32) (contents_4 : Nat → Int32), P_7 tokens_4 atF_4 sorts_4 starts_4 contents_4 → (Inv_1 contents_4 sorts_4 starts_4 tokens_4 atF_4 (x2_1 + 1) ∧ Mea_1 contents_4 sorts_4 starts_4 tokens_4 atF_4 (x2_1 + 1) < Mea_1 contents_1 sorts_1 starts_1 tokens_1 atF_1 x2_1)))))) ∧ (¬ rF_1 = 0 → (∀ atF_5 : Int32, atF_5 = atF_1 + 1 → (Inv_1 contents_1 sorts_1 starts_1 tokens_1 atF_5 (x2_1 + 1) ∧ Mea_1 contents_1 sorts_1 starts_1 tokens_1 atF_5 (x2_1 + 1) < Mea_1 contents_1 sorts_1 starts_1 tokens_1 atF_1 x2_1)))))))))))
set_option maxHeartbeats 4000000 in
set_option maxRecDepth 100000 in
theorem mX9_cut (l : Launch) (D : va_G) (Y : Nat → ClassId) (h0 : Nat) (fed : Int32) (q_bytes : Nat) (q_sorts : Nat) (q_starts : Nat) (q_contents : Nat) (length : Int32) (tokens : Int32) (atF : Int32) (bytes : Nat → Int32) (sorts : Nat → Int32) (starts : Nat → Int32) (contents : Nat → Int32) (a1 : Int32) (Q : (Int32) → (Int32) → (Int32) → (Int32) → (Nat → Int32) → (Nat → Int32) → (Nat → Int32) → Prop) (h : wX9_cut fed length tokens atF bytes sorts starts contents a1 Q) : gM l D Y yX9_cut cX9_cut 4 none 7 154 0 0 [.ref h0, .int a1] [oX9 h0 fed (.ref q_bytes) (.ref q_sorts) (.ref q_starts) (.ref q_contents) length tokens atF, aI Y q_bytes 700 bytes, aI Y q_sorts 701 sorts, aI Y q_starts 701 starts, aI Y q_contents 701 contents] (fun v w => ∃ fed' : Int32, ∃ length' : Int32, ∃ tokens' : Int32, ∃ atF' : Int32, ∃ sorts' : Nat → Int32, ∃ starts' : Nat → Int32, ∃ contents' : Nat → Int32, v = none ∧ w = [oX9 h0 fed' (.ref q_bytes) (.ref q_sorts) (.ref q_starts) (.ref q_contents) length' tokens' atF', aI Y q_bytes 700 bytes, aI Y q_sorts 701 sorts', aI Y q_starts 701 starts', aI Y q_contents 701 contents'] ∧ Q fed' length' tokens' atF' sorts' starts' contents') := by
  refine gM_of (own := RX9) (by decide +kernel) rfl (Nat.le_of_ble_eq_true rfl) rfl (fun E C hR => ?_)
  unfold wX9_cut at h
  refine g_aload_n C dX9_cut_0 0 rfl ?_
  refine g_iconst (v := 0) C dX9_cut_1 rfl ?_
  refine g_iload_n C dX9_cut_2 1 rfl ?_
  refine g_aload_n C dX9_cut_3 0 rfl ?_
  refine g_get C inX9 0 rfl rfl 0 (by decide) wF_X9_24 rfl dX9_cut_4 ?_
  refine g_mmin C wM_X9_34 dX9_cut_7 ⟨Nat.le_of_ble_eq_true rfl, Nat.le_of_ble_eq_true rfl⟩ ⟨Nat.le_of_ble_eq_true rfl, Nat.le_of_ble_eq_true rfl⟩ ?_
  refine g_topi (fun m_1 em_1 => ?_)
  replace h := h m_1 em_1
  refine g_mmax C wM_X9_40 dX9_cut_10 ⟨Nat.le_of_ble_eq_true rfl, Nat.le_of_ble_eq_true rfl⟩ ⟨Nat.le_of_ble_eq_true rfl, Nat.le_of_ble_eq_true rfl⟩ ?_
  refine g_topi (fun m_2 em_2 => ?_)
  replace h := h m_2 em_2
  refine g_put C inX9 tyX9 tyX9_ok nmX9 0 rfl rfl 5 (by decide) wF_X9_31 rfl rfl rfl (Nat.le_of_ble_eq_true rfl) (ws' := [oX9 h0 fed (.ref q_bytes) (.ref q_sorts) (.ref q_starts) (.ref q_contents) m_2 tokens atF, aI Y q_bytes 700 bytes, aI Y q_sorts 701 sorts, aI Y q_starts 701 starts, aI Y q_contents 701 contents]) rfl dX9_cut_13 ?_
  refine g_aload_n C dX9_cut_16 0 rfl ?_
  refine g_iconst (v := 0) C dX9_cut_17 rfl ?_
  refine g_put C inX9 tyX9 tyX9_ok nmX9 0 rfl rfl 0 (by decide) wF_X9_24 rfl rfl rfl (Nat.le_of_ble_eq_true rfl) (ws' := [oX9 h0 0 (.ref q_bytes) (.ref q_sorts) (.ref q_starts) (.ref q_contents) m_2 tokens atF, aI Y q_bytes 700 bytes, aI Y q_sorts 701 sorts, aI Y q_starts 701 starts, aI Y q_contents 701 contents]) rfl dX9_cut_18 ?_
  refine g_aload_n C dX9_cut_21 0 rfl ?_
  refine g_iconst (v := 0) C dX9_cut_22 rfl ?_
  refine g_put C inX9 tyX9 tyX9_ok nmX9 0 rfl rfl 6 (by decide) wF_X9_28 rfl rfl rfl (Nat.le_of_ble_eq_true rfl) (ws' := [oX9 h0 0 (.ref q_bytes) (.ref q_sorts) (.ref q_starts) (.ref q_contents) m_2 0 atF, aI Y q_bytes 700 bytes, aI Y q_sorts 701 sorts, aI Y q_starts 701 starts, aI Y q_contents 701 contents]) rfl dX9_cut_23 ?_
  refine g_aload_n C dX9_cut_26 0 rfl ?_
  refine g_iconst (v := 0) C dX9_cut_27 rfl ?_
  refine g_put C inX9 tyX9 tyX9_ok nmX9 0 rfl rfl 7 (by decide) wF_X9_43 rfl rfl rfl (Nat.le_of_ble_eq_true rfl) (ws' := [oX9 h0 0 (.ref q_bytes) (.ref q_sorts) (.ref q_starts) (.ref q_contents) m_2 0 0, aI Y q_bytes 700 bytes, aI Y q_sorts 701 sorts, aI Y q_starts 701 starts, aI Y q_contents 701 contents]) rfl dX9_cut_28 ?_
  refine g_iconst (v := 0) C dX9_cut_31 rfl ?_
  refine g_istore_n (lv' := [(2, .int 0), (0, .ref h0), (1, .int a1)]) C dX9_cut_32 (by decide) rfl ?_
  obtain ⟨Inv_1, Mea_1, hI1, hB1⟩ := h
  have key_1 : ∀ (n : Nat) (contents_1 : Nat → Int32) (sorts_1 : Nat → Int32) (starts_1 : Nat → Int32) (tokens_1 : Int32) (atF_1 : Int32) (x2_1 : Int32) , Mea_1 contents_1 sorts_1 starts_1 tokens_1 atF_1 x2_1 < n → Inv_1 contents_1 sorts_1 starts_1 tokens_1 atF_1 x2_1 → gG E 0 0 [oX9 h0 0 (.ref q_bytes) (.ref q_sorts) (.ref q_starts) (.ref q_contents) m_2 tokens_1 atF_1, aI Y q_bytes 700 bytes, aI Y q_sorts 701 sorts_1, aI Y q_starts 701 starts_1, aI Y q_contents 701 contents_1] [(0, .ref h0), (2, .int x2_1)] [] 33 := by
    intro n
    induction n with
    | zero => exact fun _ _ _ _ _ _ hm => absurd hm (Nat.not_lt_zero _)
    | succ n ih1 =>
      intro contents_1 sorts_1 starts_1 tokens_1 atF_1 x2_1  hm1 hI
      have h := hB1 contents_1 sorts_1 starts_1 tokens_1 atF_1 x2_1 hI
      refine g_iload_n C dX9_cut_33 1 rfl ?_
      refine g_sipush (v := 700) C dX9_cut_34 rfl ?_
      refine g_icmp_ge (tgt := 122) C dX9_cut_37 (by decide) (fun c_1 => ?_) (fun c_1 => ?_)
      · replace h := h.1 c_1
        exact g_vret C hR (Nat.le_of_ble_eq_true rfl) (Nat.le_of_ble_eq_true rfl) dX9_cut_122 ⟨0, m_2, tokens_1, atF_1, sorts_1, starts_1, contents_1, rfl, rfl, h⟩
      · replace h := h.2 c_1
        refine g_aload_n C dX9_cut_40 0 rfl ?_
        refine g_get C inX9 0 rfl rfl 7 (by decide) wF_X9_43 rfl dX9_cut_41 ?_
        refine g_aload_n C dX9_cut_44 0 rfl ?_
        refine g_get C inX9 0 rfl rfl 5 (by decide) wF_X9_31 rfl dX9_cut_45 ?_
        refine g_icmp_ge (tgt := 122) C dX9_cut_48 (by decide) (fun c_2 => ?_) (fun c_2 => ?_)
        · replace h := h.1 c_2
          exact g_vret C hR (Nat.le_of_ble_eq_true rfl) (Nat.le_of_ble_eq_true rfl) dX9_cut_122 ⟨0, m_2, tokens_1, atF_1, sorts_1, starts_1, contents_1, rfl, rfl, h⟩
        · replace h := h.2 c_2
          refine g_aload_n C dX9_cut_51 0 rfl ?_
          refine g_get C inX9 0 rfl rfl 7 (by decide) wF_X9_43 rfl dX9_cut_52 ?_
          refine g_istore_n (lv' := [(3, .int atF_1), (0, .ref h0), (2, .int x2_1)]) C dX9_cut_55 (by decide) rfl ?_
          refine g_aload_n C dX9_cut_56 1 rfl ?_
          obtain ⟨P_1, hP, h⟩ := h
          refine g_callV (As := []) (rest := []) C (mX9_isBlank l D Y h0 0 q_bytes (.ref q_sorts) (.ref q_starts) (.ref q_contents) m_2 tokens_1 atF_1 bytes P_1 hP) dX9_cut_57 rfl wM_X9_46 wI_X9_isBlank wV_X9_isBlank wN_X9 wC_X9_isBlank (n := 0) (by decide +kernel) rfl (q0 := 0) rfl rfl ⟨Nat.le_of_ble_eq_true rfl, Nat.le_of_ble_eq_true rfl⟩ ⟨Nat.le_of_ble_eq_true rfl, Nat.le_of_ble_eq_true rfl⟩ (Nat.le_of_ble_eq_true rfl) [0, 1] [2, 3, 4] rfl rfl rfl (fun v wc hv => ?_)
          obtain ⟨rF_1, rfl, rfl, hq⟩ := hv
          replace h := h rF_1 hq
          refine gG.perm (ws' := [oX9 h0 0 (.ref q_bytes) (.ref q_sorts) (.ref q_starts) (.ref q_contents) m_2 tokens_1 atF_1, aI Y q_bytes 700 bytes, aI Y q_sorts 701 sorts_1, aI Y q_starts 701 starts_1, aI Y q_contents 701 contents_1]) [3, 4, 0, 1, 2] rfl rfl ?_
          refine g_if_eq (tgt := 76) C dX9_cut_60 (by decide) (fun c_3 => ?_) (fun c_3 => ?_)
          · replace h := h.1 c_3
            refine g_aload_n C dX9_cut_76 1 rfl ?_
            obtain ⟨P_2, hP, h⟩ := h
            refine g_callV (As := []) (rest := []) C (mX9_isLetter l D Y h0 0 q_bytes (.ref q_sorts) (.ref q_starts) (.ref q_contents) m_2 tokens_1 atF_1 bytes P_2 hP) dX9_cut_77 rfl wM_X9_50 wI_X9_isLetter wV_X9_isLetter wN_X9 wC_X9_isLetter (n := 0) (by decide +kernel) rfl (q0 := 0) rfl rfl ⟨Nat.le_of_ble_eq_true rfl, Nat.le_of_ble_eq_true rfl⟩ ⟨Nat.le_of_ble_eq_true rfl, Nat.le_of_ble_eq_true rfl⟩ (Nat.le_of_ble_eq_true rfl) [0, 1] [2, 3, 4] rfl rfl rfl (fun v wc hv => ?_)
            obtain ⟨rF_2, rfl, rfl, hq⟩ := hv
            replace h := h rF_2 hq
            refine gG.perm (ws' := [oX9 h0 0 (.ref q_bytes) (.ref q_sorts) (.ref q_starts) (.ref q_contents) m_2 tokens_1 atF_1, aI Y q_bytes 700 bytes, aI Y q_sorts 701 sorts_1, aI Y q_starts 701 starts_1, aI Y q_contents 701 contents_1]) [3, 4, 0, 1, 2] rfl rfl ?_
            refine g_if_eq (tgt := 91) C dX9_cut_80 (by decide) (fun c_4 => ?_) (fun c_4 => ?_)
            · replace h := h.1 c_4
              refine g_aload_n C dX9_cut_91 1 rfl ?_
              obtain ⟨P_3, hP, h⟩ := h
              refine g_callV (As := []) (rest := []) C (mX9_isDigit l D Y h0 0 q_bytes (.ref q_sorts) (.ref q_starts) (.ref q_contents) m_2 tokens_1 atF_1 bytes P_3 hP) dX9_cut_92 rfl wM_X9_57 wI_X9_isDigit wV_X9_isDigit wN_X9 wC_X9_isDigit (n := 0) (by decide +kernel) rfl (q0 := 0) rfl rfl ⟨Nat.le_of_ble_eq_true rfl, Nat.le_of_ble_eq_true rfl⟩ ⟨Nat.le_of_ble_eq_true rfl, Nat.le_of_ble_eq_true rfl⟩ (Nat.le_of_ble_eq_true rfl) [0, 1] [2, 3, 4] rfl rfl rfl (fun v wc hv => ?_)
              obtain ⟨rF_3, rfl, rfl, hq⟩ := hv
              replace h := h rF_3 hq
              refine gG.perm (ws' := [oX9 h0 0 (.ref q_bytes) (.ref q_sorts) (.ref q_starts) (.ref q_contents) m_2 tokens_1 atF_1, aI Y q_bytes 700 bytes, aI Y q_sorts 701 sorts_1, aI Y q_starts 701 starts_1, aI Y q_contents 701 contents_1]) [3, 4, 0, 1, 2] rfl rfl ?_
              refine g_if_eq (tgt := 111) C dX9_cut_95 (by decide) (fun c_5 => ?_) (fun c_5 => ?_)
              · replace h := h.1 c_5
                refine g_aload_n C dX9_cut_111 1 rfl ?_
                refine g_iload_n C dX9_cut_112 0 rfl ?_
                obtain ⟨P_4, hP, h⟩ := h
                refine g_callV (As := [.int atF_1]) (rest := []) C (mX9_cutSign l D Y h0 0 q_bytes q_sorts q_starts q_contents m_2 tokens_1 atF_1 bytes sorts_1 starts_1 contents_1 atF_1 P_4 hP) dX9_cut_113 rfl wM_X9_68 wI_X9_cutSign wV_X9_cutSign wN_X9 wC_X9_cutSign (n := 1) (by decide +kernel) rfl (q0 := 0) rfl rfl ⟨Nat.le_of_ble_eq_true rfl, Nat.le_of_ble_eq_true rfl⟩ ⟨Nat.le_of_ble_eq_true rfl, Nat.le_of_ble_eq_true rfl⟩ (Nat.le_of_ble_eq_true rfl) [0, 1, 2, 3, 4] [] rfl rfl rfl (fun v wc hv => ?_)
                obtain ⟨tokens_2, atF_2, sorts_2, starts_2, contents_2, rfl, rfl, hq⟩ := hv
                replace h := h tokens_2 atF_2 sorts_2 starts_2 contents_2 hq
                refine gG.eqw (ws' := [oX9 h0 0 (.ref q_bytes) (.ref q_sorts) (.ref q_starts) (.ref q_contents) m_2 tokens_2 atF_2, aI Y q_bytes 700 bytes, aI Y q_sorts 701 sorts_2, aI Y q_starts 701 starts_2, aI Y q_contents 701 contents_2]) rfl ?_
                refine g_iinc (v := x2_1 + 1) (lv' := [(2, .int (x2_1 + 1)), (3, .int atF_1), (0, .ref h0)]) C dX9_cut_116 2 rfl rfl (by decide) rfl ?_
                refine g_goto (tgt := 33) C dX9_cut_119 (by decide) ?_
                refine gG.locals (lv' := [(0, .ref h0), (2, .int (x2_1 + 1))]) [2, 0] rfl ?_
                exact ih1 contents_2 sorts_2 starts_2 tokens_2 atF_2 (x2_1 + 1) (Nat.lt_of_lt_of_le h.2 (Nat.le_of_lt_succ hm1)) h.1
              · replace h := h.2 c_5
                refine g_aload_n C dX9_cut_98 1 rfl ?_
                refine g_iconst (v := 2) C dX9_cut_99 rfl ?_
                refine g_iload_n C dX9_cut_100 0 rfl ?_
                refine g_aload_n C dX9_cut_101 1 rfl ?_
                obtain ⟨P_5, hP, h⟩ := h
                refine g_callV (As := []) (rest := [.int atF_1, .int 2, .ref h0]) C (mX9_cutDigits l D Y h0 0 q_bytes (.ref q_sorts) (.ref q_starts) (.ref q_contents) m_2 tokens_1 atF_1 bytes P_5 hP) dX9_cut_102 rfl wM_X9_60 wI_X9_cutDigits wV_X9_cutDigits wN_X9 wC_X9_cutDigits (n := 0) (by decide +kernel) rfl (q0 := 0) rfl rfl ⟨Nat.le_of_ble_eq_true rfl, Nat.le_of_ble_eq_true rfl⟩ ⟨Nat.le_of_ble_eq_true rfl, Nat.le_of_ble_eq_true rfl⟩ (Nat.le_of_ble_eq_true rfl) [0, 1] [2, 3, 4] rfl rfl rfl (fun v wc hv => ?_)
                obtain ⟨rF_4, atF_3, rfl, rfl, hq⟩ := hv
                replace h := h rF_4 atF_3 hq
                refine gG.perm (ws' := [oX9 h0 0 (.ref q_bytes) (.ref q_sorts) (.ref q_starts) (.ref q_contents) m_2 tokens_1 atF_3, aI Y q_bytes 700 bytes, aI Y q_sorts 701 sorts_1, aI Y q_starts 701 starts_1, aI Y q_contents 701 contents_1]) [3, 4, 0, 1, 2] rfl rfl ?_
                obtain ⟨P_6, hP, h⟩ := h
                refine g_callV (As := [.int 2, .int atF_1, .int rF_4]) (rest := []) C (mX9_put l D Y h0 0 (.ref q_bytes) q_sorts q_starts q_contents m_2 tokens_1 atF_3 sorts_1 starts_1 contents_1 2 atF_1 rF_4 P_6 hP) dX9_cut_105 rfl wM_X9_64 wI_X9_put wV_X9_put wN_X9 wC_X9_put (n := 3) (by decide +kernel) rfl (q0 := 0) rfl rfl ⟨Nat.le_of_ble_eq_true rfl, Nat.le_of_ble_eq_true rfl⟩ ⟨Nat.le_of_ble_eq_true rfl, Nat.le_of_ble_eq_true rfl⟩ (Nat.le_of_ble_eq_true rfl) [0, 2, 3, 4] [1] rfl rfl rfl (fun v wc hv => ?_)
                obtain ⟨tokens_3, sorts_3, starts_3, contents_3, rfl, rfl, hq⟩ := hv
                replace h := h tokens_3 sorts_3 starts_3 contents_3 hq
                refine gG.perm (ws' := [oX9 h0 0 (.ref q_bytes) (.ref q_sorts) (.ref q_starts) (.ref q_contents) m_2 tokens_3 atF_3, aI Y q_bytes 700 bytes, aI Y q_sorts 701 sorts_3, aI Y q_starts 701 starts_3, aI Y q_contents 701 contents_3]) [1, 0, 2, 3, 4] rfl rfl ?_
                refine g_goto (tgt := 116) C dX9_cut_108 (by decide) ?_
                refine g_iinc (v := x2_1 + 1) (lv' := [(2, .int (x2_1 + 1)), (3, .int atF_1), (0, .ref h0)]) C dX9_cut_116 2 rfl rfl (by decide) rfl ?_
                refine g_goto (tgt := 33) C dX9_cut_119 (by decide) ?_
                refine gG.locals (lv' := [(0, .ref h0), (2, .int (x2_1 + 1))]) [2, 0] rfl ?_
                exact ih1 contents_3 sorts_3 starts_3 tokens_3 atF_3 (x2_1 + 1) (Nat.lt_of_lt_of_le h.2 (Nat.le_of_lt_succ hm1)) h.1
            · replace h := h.2 c_4
              refine g_aload_n C dX9_cut_83 1 rfl ?_
              refine g_iload_n C dX9_cut_84 0 rfl ?_
              obtain ⟨P_7, hP, h⟩ := h
              refine g_callV (As := [.int atF_1]) (rest := []) C (mX9_cutWord l D Y h0 0 q_bytes q_sorts q_starts q_contents m_2 tokens_1 atF_1 bytes sorts_1 starts_1 contents_1 atF_1 P_7 hP) dX9_cut_85 rfl wM_X9_53 wI_X9_cutWord wV_X9_cutWord wN_X9 wC_X9_cutWord (n := 1) (by decide +kernel) rfl (q0 := 0) rfl rfl ⟨Nat.le_of_ble_eq_true rfl, Nat.le_of_ble_eq_true rfl⟩ ⟨Nat.le_of_ble_eq_true rfl, Nat.le_of_ble_eq_true rfl⟩ (Nat.le_of_ble_eq_true rfl) [0, 1, 2, 3, 4] [] rfl rfl rfl (fun v wc hv => ?_)
              obtain ⟨tokens_4, atF_4, sorts_4, starts_4, contents_4, rfl, rfl, hq⟩ := hv
              replace h := h tokens_4 atF_4 sorts_4 starts_4 contents_4 hq
              refine gG.eqw (ws' := [oX9 h0 0 (.ref q_bytes) (.ref q_sorts) (.ref q_starts) (.ref q_contents) m_2 tokens_4 atF_4, aI Y q_bytes 700 bytes, aI Y q_sorts 701 sorts_4, aI Y q_starts 701 starts_4, aI Y q_contents 701 contents_4]) rfl ?_
              refine g_goto (tgt := 116) C dX9_cut_88 (by decide) ?_
              refine g_iinc (v := x2_1 + 1) (lv' := [(2, .int (x2_1 + 1)), (3, .int atF_1), (0, .ref h0)]) C dX9_cut_116 2 rfl rfl (by decide) rfl ?_
              refine g_goto (tgt := 33) C dX9_cut_119 (by decide) ?_
              refine gG.locals (lv' := [(0, .ref h0), (2, .int (x2_1 + 1))]) [2, 0] rfl ?_
              exact ih1 contents_4 sorts_4 starts_4 tokens_4 atF_4 (x2_1 + 1) (Nat.lt_of_lt_of_le h.2 (Nat.le_of_lt_succ hm1)) h.1
          · replace h := h.2 c_3
            refine g_aload_n C dX9_cut_63 1 rfl ?_
            refine g_dup C dX9_cut_64 rfl ?_
            refine g_get C inX9 0 rfl rfl 7 (by decide) wF_X9_43 rfl dX9_cut_65 ?_
            refine g_iconst (v := 1) C dX9_cut_68 rfl ?_
            refine g_iadd C dX9_cut_69 ?_
            refine g_topi (fun atF_5 eatF_5 => ?_)
            replace h := h atF_5 eatF_5
            refine g_put C inX9 tyX9 tyX9_ok nmX9 0 rfl rfl 7 (by decide) wF_X9_43 rfl rfl rfl (Nat.le_of_ble_eq_true rfl) (ws' := [oX9 h0 0 (.ref q_bytes) (.ref q_sorts) (.ref q_starts) (.ref q_contents) m_2 tokens_1 atF_5, aI Y q_bytes 700 bytes, aI Y q_sorts 701 sorts_1, aI Y q_starts 701 starts_1, aI Y q_contents 701 contents_1]) rfl dX9_cut_70 ?_
            refine g_goto (tgt := 116) C dX9_cut_73 (by decide) ?_
            refine g_iinc (v := x2_1 + 1) (lv' := [(2, .int (x2_1 + 1)), (3, .int atF_1), (0, .ref h0)]) C dX9_cut_116 2 rfl rfl (by decide) rfl ?_
            refine g_goto (tgt := 33) C dX9_cut_119 (by decide) ?_
            refine gG.locals (lv' := [(0, .ref h0), (2, .int (x2_1 + 1))]) [2, 0] rfl ?_
            exact ih1 contents_1 sorts_1 starts_1 tokens_1 atF_5 (x2_1 + 1) (Nat.lt_of_lt_of_le h.2 (Nat.le_of_lt_succ hm1)) h.1
  refine gG.locals (lv' := [(0, .ref h0), (2, .int 0)]) [1, 0] rfl ?_
  exact key_1 (Mea_1 contents sorts starts 0 0 0 + 1) contents sorts starts 0 0 0 (Nat.lt_succ_self _) hI1
theorem dX9_sortOf_0 : decode cX9_sortOf 0 = .ok (.iload_n 1, 1) := by decide +kernel
theorem dX9_sortOf_1 : decode cX9_sortOf 1 = .ok (.ifCond .lt 20, 3) := by decide +kernel
theorem dX9_sortOf_4 : decode cX9_sortOf 4 = .ok (.iload_n 1, 1) := by decide +kernel
theorem dX9_sortOf_5 : decode cX9_sortOf 5 = .ok (.aload_n 0, 1) := by decide +kernel
theorem dX9_sortOf_6 : decode cX9_sortOf 6 = .ok (.getfield 28, 3) := by decide +kernel
theorem dX9_sortOf_9 : decode cX9_sortOf 9 = .ok (.if_icmp .ge 12, 3) := by decide +kernel
theorem dX9_sortOf_12 : decode cX9_sortOf 12 = .ok (.aload_n 0, 1) := by decide +kernel
theorem dX9_sortOf_13 : decode cX9_sortOf 13 = .ok (.getfield 15, 3) := by decide +kernel
theorem dX9_sortOf_16 : decode cX9_sortOf 16 = .ok (.iload_n 1, 1) := by decide +kernel
theorem dX9_sortOf_17 : decode cX9_sortOf 17 = .ok (.iaload, 1) := by decide +kernel
theorem dX9_sortOf_18 : decode cX9_sortOf 18 = .ok (.goto 4, 3) := by decide +kernel
theorem dX9_sortOf_21 : decode cX9_sortOf 21 = .ok (.iconst 0, 1) := by decide +kernel
theorem dX9_sortOf_22 : decode cX9_sortOf 22 = .ok (.ireturn, 1) := by decide +kernel
/-- QuotientSums$Tape.sortOf(I)I -/
def wX9_sortOf (fed : Int32) (length : Int32) (tokens : Int32) (atF : Int32) (sorts : Nat → Int32) (a1 : Int32) (Q : (Int32) → Prop) : Prop :=
  ((a1 < 0 → (Q 0)) ∧ (¬ a1 < 0 → ((tokens ≤ a1 → (Q 0)) ∧ (¬ tokens ≤ a1 → (vp_in a1 701 ∧ (Q (sorts a1.toNatClampNeg)))))))
set_option maxHeartbeats 4000000 in
set_option maxRecDepth 100000 in
theorem mX9_sortOf (l : Launch) (D : va_G) (Y : Nat → ClassId) (h0 : Nat) (fed : Int32) (v_bytes : Value) (q_sorts : Nat) (v_starts : Value) (v_contents : Value) (length : Int32) (tokens : Int32) (atF : Int32) (sorts : Nat → Int32) (a1 : Int32) (Q : (Int32) → Prop) (h : wX9_sortOf fed length tokens atF sorts a1 Q) : gM l D Y yX9_sortOf cX9_sortOf 2 (some .int) 0 0 0 0 [.ref h0, .int a1] [oX9 h0 fed (v_bytes) (.ref q_sorts) (v_starts) (v_contents) length tokens atF, aI Y q_sorts 701 sorts] (fun v w => ∃ r : Int32, v = some (.int r) ∧ w = [oX9 h0 fed (v_bytes) (.ref q_sorts) (v_starts) (v_contents) length tokens atF, aI Y q_sorts 701 sorts] ∧ Q r) := by
  refine gM_of (own := RX9) (by decide +kernel) rfl (Nat.le_of_ble_eq_true rfl) rfl (fun E C hR => ?_)
  unfold wX9_sortOf at h
  refine g_iload_n C dX9_sortOf_0 1 rfl ?_
  refine g_if_lt (tgt := 21) C dX9_sortOf_1 (by decide) (fun c_1 => ?_) (fun c_1 => ?_)
  · replace h := h.1 c_1
    refine g_iconst (v := 0) C dX9_sortOf_21 rfl ?_
    exact g_iret C hR (Nat.le_of_ble_eq_true rfl) (Nat.le_of_ble_eq_true rfl) dX9_sortOf_22 ⟨0, rfl, rfl, h⟩
  · replace h := h.2 c_1
    refine g_iload_n C dX9_sortOf_4 1 rfl ?_
    refine g_aload_n C dX9_sortOf_5 0 rfl ?_
    refine g_get C inX9 0 rfl rfl 6 (by decide) wF_X9_28 rfl dX9_sortOf_6 ?_
    refine g_icmp_ge (tgt := 21) C dX9_sortOf_9 (by decide) (fun c_2 => ?_) (fun c_2 => ?_)
    · replace h := h.1 c_2
      refine g_iconst (v := 0) C dX9_sortOf_21 rfl ?_
      exact g_iret C hR (Nat.le_of_ble_eq_true rfl) (Nat.le_of_ble_eq_true rfl) dX9_sortOf_22 ⟨0, rfl, rfl, h⟩
    · replace h := h.2 c_2
      refine g_aload_n C dX9_sortOf_12 0 rfl ?_
      refine g_get C inX9 0 rfl rfl 2 (by decide) wF_X9_15 rfl dX9_sortOf_13 ?_
      refine g_iload_n C dX9_sortOf_16 1 rfl ?_
      obtain ⟨hc_1, h⟩ := h
      refine g_iald C 1 rfl hc_1 dX9_sortOf_17 ?_
      refine g_goto (tgt := 22) C dX9_sortOf_18 (by decide) ?_
      exact g_iret C hR (Nat.le_of_ble_eq_true rfl) (Nat.le_of_ble_eq_true rfl) dX9_sortOf_22 ⟨sorts a1.toNatClampNeg, rfl, rfl, h⟩
theorem dX9_startOf_0 : decode cX9_startOf 0 = .ok (.iload_n 1, 1) := by decide +kernel
theorem dX9_startOf_1 : decode cX9_startOf 1 = .ok (.ifCond .lt 20, 3) := by decide +kernel
theorem dX9_startOf_4 : decode cX9_startOf 4 = .ok (.iload_n 1, 1) := by decide +kernel
theorem dX9_startOf_5 : decode cX9_startOf 5 = .ok (.aload_n 0, 1) := by decide +kernel
theorem dX9_startOf_6 : decode cX9_startOf 6 = .ok (.getfield 28, 3) := by decide +kernel
theorem dX9_startOf_9 : decode cX9_startOf 9 = .ok (.if_icmp .ge 12, 3) := by decide +kernel
theorem dX9_startOf_12 : decode cX9_startOf 12 = .ok (.aload_n 0, 1) := by decide +kernel
theorem dX9_startOf_13 : decode cX9_startOf 13 = .ok (.getfield 18, 3) := by decide +kernel
theorem dX9_startOf_16 : decode cX9_startOf 16 = .ok (.iload_n 1, 1) := by decide +kernel
theorem dX9_startOf_17 : decode cX9_startOf 17 = .ok (.iaload, 1) := by decide +kernel
theorem dX9_startOf_18 : decode cX9_startOf 18 = .ok (.goto 7, 3) := by decide +kernel
theorem dX9_startOf_21 : decode cX9_startOf 21 = .ok (.aload_n 0, 1) := by decide +kernel
theorem dX9_startOf_22 : decode cX9_startOf 22 = .ok (.getfield 31, 3) := by decide +kernel
theorem dX9_startOf_25 : decode cX9_startOf 25 = .ok (.ireturn, 1) := by decide +kernel
/-- QuotientSums$Tape.startOf(I)I -/
def wX9_startOf (fed : Int32) (length : Int32) (tokens : Int32) (atF : Int32) (starts : Nat → Int32) (a1 : Int32) (Q : (Int32) → Prop) : Prop :=
  ((a1 < 0 → (Q length)) ∧ (¬ a1 < 0 → ((tokens ≤ a1 → (Q length)) ∧ (¬ tokens ≤ a1 → (vp_in a1 701 ∧ (Q (starts a1.toNatClampNeg)))))))
set_option maxHeartbeats 4000000 in
set_option maxRecDepth 100000 in
theorem mX9_startOf (l : Launch) (D : va_G) (Y : Nat → ClassId) (h0 : Nat) (fed : Int32) (v_bytes : Value) (v_sorts : Value) (q_starts : Nat) (v_contents : Value) (length : Int32) (tokens : Int32) (atF : Int32) (starts : Nat → Int32) (a1 : Int32) (Q : (Int32) → Prop) (h : wX9_startOf fed length tokens atF starts a1 Q) : gM l D Y yX9_startOf cX9_startOf 2 (some .int) 0 0 0 0 [.ref h0, .int a1] [oX9 h0 fed (v_bytes) (v_sorts) (.ref q_starts) (v_contents) length tokens atF, aI Y q_starts 701 starts] (fun v w => ∃ r : Int32, v = some (.int r) ∧ w = [oX9 h0 fed (v_bytes) (v_sorts) (.ref q_starts) (v_contents) length tokens atF, aI Y q_starts 701 starts] ∧ Q r) := by
  refine gM_of (own := RX9) (by decide +kernel) rfl (Nat.le_of_ble_eq_true rfl) rfl (fun E C hR => ?_)
  unfold wX9_startOf at h
  refine g_iload_n C dX9_startOf_0 1 rfl ?_
  refine g_if_lt (tgt := 21) C dX9_startOf_1 (by decide) (fun c_1 => ?_) (fun c_1 => ?_)
  · replace h := h.1 c_1
    refine g_aload_n C dX9_startOf_21 0 rfl ?_
    refine g_get C inX9 0 rfl rfl 5 (by decide) wF_X9_31 rfl dX9_startOf_22 ?_
    exact g_iret C hR (Nat.le_of_ble_eq_true rfl) (Nat.le_of_ble_eq_true rfl) dX9_startOf_25 ⟨length, rfl, rfl, h⟩
  · replace h := h.2 c_1
    refine g_iload_n C dX9_startOf_4 1 rfl ?_
    refine g_aload_n C dX9_startOf_5 0 rfl ?_
    refine g_get C inX9 0 rfl rfl 6 (by decide) wF_X9_28 rfl dX9_startOf_6 ?_
    refine g_icmp_ge (tgt := 21) C dX9_startOf_9 (by decide) (fun c_2 => ?_) (fun c_2 => ?_)
    · replace h := h.1 c_2
      refine g_aload_n C dX9_startOf_21 0 rfl ?_
      refine g_get C inX9 0 rfl rfl 5 (by decide) wF_X9_31 rfl dX9_startOf_22 ?_
      exact g_iret C hR (Nat.le_of_ble_eq_true rfl) (Nat.le_of_ble_eq_true rfl) dX9_startOf_25 ⟨length, rfl, rfl, h⟩
    · replace h := h.2 c_2
      refine g_aload_n C dX9_startOf_12 0 rfl ?_
      refine g_get C inX9 0 rfl rfl 3 (by decide) wF_X9_18 rfl dX9_startOf_13 ?_
      refine g_iload_n C dX9_startOf_16 1 rfl ?_
      obtain ⟨hc_1, h⟩ := h
      refine g_iald C 1 rfl hc_1 dX9_startOf_17 ?_
      refine g_goto (tgt := 25) C dX9_startOf_18 (by decide) ?_
      exact g_iret C hR (Nat.le_of_ble_eq_true rfl) (Nat.le_of_ble_eq_true rfl) dX9_startOf_25 ⟨starts a1.toNatClampNeg, rfl, rfl, h⟩
theorem dX9_contentOf_0 : decode cX9_contentOf 0 = .ok (.iload_n 1, 1) := by decide +kernel
theorem dX9_contentOf_1 : decode cX9_contentOf 1 = .ok (.ifCond .lt 20, 3) := by decide +kernel
theorem dX9_contentOf_4 : decode cX9_contentOf 4 = .ok (.iload_n 1, 1) := by decide +kernel
theorem dX9_contentOf_5 : decode cX9_contentOf 5 = .ok (.aload_n 0, 1) := by decide +kernel
theorem dX9_contentOf_6 : decode cX9_contentOf 6 = .ok (.getfield 28, 3) := by decide +kernel
theorem dX9_contentOf_9 : decode cX9_contentOf 9 = .ok (.if_icmp .ge 12, 3) := by decide +kernel
theorem dX9_contentOf_12 : decode cX9_contentOf 12 = .ok (.aload_n 0, 1) := by decide +kernel
theorem dX9_contentOf_13 : decode cX9_contentOf 13 = .ok (.getfield 21, 3) := by decide +kernel
theorem dX9_contentOf_16 : decode cX9_contentOf 16 = .ok (.iload_n 1, 1) := by decide +kernel
theorem dX9_contentOf_17 : decode cX9_contentOf 17 = .ok (.iaload, 1) := by decide +kernel
theorem dX9_contentOf_18 : decode cX9_contentOf 18 = .ok (.goto 4, 3) := by decide +kernel
theorem dX9_contentOf_21 : decode cX9_contentOf 21 = .ok (.iconst 0, 1) := by decide +kernel
theorem dX9_contentOf_22 : decode cX9_contentOf 22 = .ok (.ireturn, 1) := by decide +kernel
/-- QuotientSums$Tape.contentOf(I)I -/
def wX9_contentOf (fed : Int32) (length : Int32) (tokens : Int32) (atF : Int32) (contents : Nat → Int32) (a1 : Int32) (Q : (Int32) → Prop) : Prop :=
  ((a1 < 0 → (Q 0)) ∧ (¬ a1 < 0 → ((tokens ≤ a1 → (Q 0)) ∧ (¬ tokens ≤ a1 → (vp_in a1 701 ∧ (Q (contents a1.toNatClampNeg)))))))
set_option maxHeartbeats 4000000 in
set_option maxRecDepth 100000 in
theorem mX9_contentOf (l : Launch) (D : va_G) (Y : Nat → ClassId) (h0 : Nat) (fed : Int32) (v_bytes : Value) (v_sorts : Value) (v_starts : Value) (q_contents : Nat) (length : Int32) (tokens : Int32) (atF : Int32) (contents : Nat → Int32) (a1 : Int32) (Q : (Int32) → Prop) (h : wX9_contentOf fed length tokens atF contents a1 Q) : gM l D Y yX9_contentOf cX9_contentOf 2 (some .int) 0 0 0 0 [.ref h0, .int a1] [oX9 h0 fed (v_bytes) (v_sorts) (v_starts) (.ref q_contents) length tokens atF, aI Y q_contents 701 contents] (fun v w => ∃ r : Int32, v = some (.int r) ∧ w = [oX9 h0 fed (v_bytes) (v_sorts) (v_starts) (.ref q_contents) length tokens atF, aI Y q_contents 701 contents] ∧ Q r) := by
  refine gM_of (own := RX9) (by decide +kernel) rfl (Nat.le_of_ble_eq_true rfl) rfl (fun E C hR => ?_)
  unfold wX9_contentOf at h
  refine g_iload_n C dX9_contentOf_0 1 rfl ?_
  refine g_if_lt (tgt := 21) C dX9_contentOf_1 (by decide) (fun c_1 => ?_) (fun c_1 => ?_)
  · replace h := h.1 c_1
    refine g_iconst (v := 0) C dX9_contentOf_21 rfl ?_
    exact g_iret C hR (Nat.le_of_ble_eq_true rfl) (Nat.le_of_ble_eq_true rfl) dX9_contentOf_22 ⟨0, rfl, rfl, h⟩
  · replace h := h.2 c_1
    refine g_iload_n C dX9_contentOf_4 1 rfl ?_
    refine g_aload_n C dX9_contentOf_5 0 rfl ?_
    refine g_get C inX9 0 rfl rfl 6 (by decide) wF_X9_28 rfl dX9_contentOf_6 ?_
    refine g_icmp_ge (tgt := 21) C dX9_contentOf_9 (by decide) (fun c_2 => ?_) (fun c_2 => ?_)
    · replace h := h.1 c_2
      refine g_iconst (v := 0) C dX9_contentOf_21 rfl ?_
      exact g_iret C hR (Nat.le_of_ble_eq_true rfl) (Nat.le_of_ble_eq_true rfl) dX9_contentOf_22 ⟨0, rfl, rfl, h⟩
    · replace h := h.2 c_2
      refine g_aload_n C dX9_contentOf_12 0 rfl ?_
      refine g_get C inX9 0 rfl rfl 4 (by decide) wF_X9_21 rfl dX9_contentOf_13 ?_
      refine g_iload_n C dX9_contentOf_16 1 rfl ?_
      obtain ⟨hc_1, h⟩ := h
      refine g_iald C 1 rfl hc_1 dX9_contentOf_17 ?_
      refine g_goto (tgt := 22) C dX9_contentOf_18 (by decide) ?_
      exact g_iret C hR (Nat.le_of_ble_eq_true rfl) (Nat.le_of_ble_eq_true rfl) dX9_contentOf_22 ⟨contents a1.toNatClampNeg, rfl, rfl, h⟩
theorem dX9_hasRoom_0 : decode cX9_hasRoom 0 = .ok (.aload_n 0, 1) := by decide +kernel
theorem dX9_hasRoom_1 : decode cX9_hasRoom 1 = .ok (.getfield 24, 3) := by decide +kernel
theorem dX9_hasRoom_4 : decode cX9_hasRoom 4 = .ok (.bipush 20, 2) := by decide +kernel
theorem dX9_hasRoom_6 : decode cX9_hasRoom 6 = .ok (.iadd, 1) := by decide +kernel
theorem dX9_hasRoom_7 : decode cX9_hasRoom 7 = .ok (.sipush 700, 3) := by decide +kernel
theorem dX9_hasRoom_10 : decode cX9_hasRoom 10 = .ok (.if_icmp .gt 7, 3) := by decide +kernel
theorem dX9_hasRoom_13 : decode cX9_hasRoom 13 = .ok (.iconst 1, 1) := by decide +kernel
theorem dX9_hasRoom_14 : decode cX9_hasRoom 14 = .ok (.goto 4, 3) := by decide +kernel
theorem dX9_hasRoom_17 : decode cX9_hasRoom 17 = .ok (.iconst 0, 1) := by decide +kernel
theorem dX9_hasRoom_18 : decode cX9_hasRoom 18 = .ok (.ireturn, 1) := by decide +kernel
/-- QuotientSums$Tape.hasRoom()Z -/
def wX9_hasRoom (fed : Int32) (length : Int32) (tokens : Int32) (atF : Int32)  (Q : (Int32) → Prop) : Prop :=
  ((700 < (fed + 20) → (Q 0)) ∧ (¬ 700 < (fed + 20) → (Q 1)))
set_option maxHeartbeats 4000000 in
set_option maxRecDepth 100000 in
theorem mX9_hasRoom (l : Launch) (D : va_G) (Y : Nat → ClassId) (h0 : Nat) (fed : Int32) (v_bytes : Value) (v_sorts : Value) (v_starts : Value) (v_contents : Value) (length : Int32) (tokens : Int32) (atF : Int32)  (Q : (Int32) → Prop) (h : wX9_hasRoom fed length tokens atF Q) : gM l D Y yX9_hasRoom cX9_hasRoom 1 (some .boolean) 0 0 0 0 [.ref h0] [oX9 h0 fed (v_bytes) (v_sorts) (v_starts) (v_contents) length tokens atF] (fun v w => ∃ r : Int32, v = some (.int r) ∧ w = [oX9 h0 fed (v_bytes) (v_sorts) (v_starts) (v_contents) length tokens atF] ∧ Q r) := by
  refine gM_of (own := RX9) (by decide +kernel) rfl (Nat.le_of_ble_eq_true rfl) rfl (fun E C hR => ?_)
  unfold wX9_hasRoom at h
  refine g_aload_n C dX9_hasRoom_0 0 rfl ?_
  refine g_get C inX9 0 rfl rfl 0 (by decide) wF_X9_24 rfl dX9_hasRoom_1 ?_
  refine g_bipush (v := 20) C dX9_hasRoom_4 rfl ?_
  refine g_iadd C dX9_hasRoom_6 ?_
  refine g_sipush (v := 700) C dX9_hasRoom_7 rfl ?_
  refine g_icmp_gt (tgt := 17) C dX9_hasRoom_10 (by decide) (fun c_1 => ?_) (fun c_1 => ?_)
  · replace h := h.1 c_1
    refine g_iconst (v := 0) C dX9_hasRoom_17 rfl ?_
    exact g_zret C hR (by decide) (Nat.le_of_ble_eq_true rfl) (Nat.le_of_ble_eq_true rfl) dX9_hasRoom_18 ⟨0, rfl, rfl, h⟩
  · replace h := h.2 c_1
    refine g_iconst (v := 1) C dX9_hasRoom_13 rfl ?_
    refine g_goto (tgt := 18) C dX9_hasRoom_14 (by decide) ?_
    exact g_zret C hR (by decide) (Nat.le_of_ble_eq_true rfl) (Nat.le_of_ble_eq_true rfl) dX9_hasRoom_18 ⟨1, rfl, rfl, h⟩
theorem dX9_append_0 : decode cX9_append 0 = .ok (.bipush 24, 2) := by decide +kernel
theorem dX9_append_2 : decode cX9_append 2 = .ok (.istore_n 2, 1) := by decide +kernel
theorem dX9_append_3 : decode cX9_append 3 = .ok (.iload_n 2, 1) := by decide +kernel
theorem dX9_append_4 : decode cX9_append 4 = .ok (.ifCond .lt 45, 3) := by decide +kernel
theorem dX9_append_7 : decode cX9_append 7 = .ok (.aload_n 0, 1) := by decide +kernel
theorem dX9_append_8 : decode cX9_append 8 = .ok (.getfield 24, 3) := by decide +kernel
theorem dX9_append_11 : decode cX9_append 11 = .ok (.sipush 700, 3) := by decide +kernel
theorem dX9_append_14 : decode cX9_append 14 = .ok (.if_icmp .ge 35, 3) := by decide +kernel
theorem dX9_append_17 : decode cX9_append 17 = .ok (.aload_n 0, 1) := by decide +kernel
theorem dX9_append_18 : decode cX9_append 18 = .ok (.getfield 11, 3) := by decide +kernel
theorem dX9_append_21 : decode cX9_append 21 = .ok (.aload_n 0, 1) := by decide +kernel
theorem dX9_append_22 : decode cX9_append 22 = .ok (.getfield 24, 3) := by decide +kernel
theorem dX9_append_25 : decode cX9_append 25 = .ok (.iload_n 1, 1) := by decide +kernel
theorem dX9_append_26 : decode cX9_append 26 = .ok (.iload_n 2, 1) := by decide +kernel
theorem dX9_append_27 : decode cX9_append 27 = .ok (.iushr, 1) := by decide +kernel
theorem dX9_append_28 : decode cX9_append 28 = .ok (.sipush 255, 3) := by decide +kernel
theorem dX9_append_31 : decode cX9_append 31 = .ok (.iand, 1) := by decide +kernel
theorem dX9_append_32 : decode cX9_append 32 = .ok (.iastore, 1) := by decide +kernel
theorem dX9_append_33 : decode cX9_append 33 = .ok (.aload_n 0, 1) := by decide +kernel
theorem dX9_append_34 : decode cX9_append 34 = .ok (.dup, 1) := by decide +kernel
theorem dX9_append_35 : decode cX9_append 35 = .ok (.getfield 24, 3) := by decide +kernel
theorem dX9_append_38 : decode cX9_append 38 = .ok (.iconst 1, 1) := by decide +kernel
theorem dX9_append_39 : decode cX9_append 39 = .ok (.iadd, 1) := by decide +kernel
theorem dX9_append_40 : decode cX9_append 40 = .ok (.putfield 24, 3) := by decide +kernel
theorem dX9_append_43 : decode cX9_append 43 = .ok (.iinc 2 (-8), 3) := by decide +kernel
theorem dX9_append_46 : decode cX9_append 46 = .ok (.goto (-43), 3) := by decide +kernel
theorem dX9_append_49 : decode cX9_append 49 = .ok (.return_, 1) := by decide +kernel
/-- QuotientSums$Tape.append(I)V -/
def wX9_append (fed : Int32) (length : Int32) (tokens : Int32) (atF : Int32) (bytes : Nat → Int32) (a1 : Int32) (Q : (Int32) → (Nat → Int32) → Prop) : Prop :=
  (∃ (Inv_1 : (Nat → Int32) → (Int32) → (Int32) → Prop) (Mea_1 : (Nat → Int32) → (Int32) → (Int32) → Nat), Inv_1 bytes fed 24 ∧ ∀ (bytes_1 : Nat → Int32) (fed_1 : Int32) (x2_1 : Int32), Inv_1 bytes_1 fed_1 x2_1 → ((x2_1 < 0 → (Q fed_1 bytes_1)) ∧ (¬ x2_1 < 0 → ((700 ≤ fed_1 → (Q fed_1 bytes_1)) ∧ (¬ 700 ≤ fed_1 → (∀ t_1 : Int32, t_1 = ((a1.toUInt32 >>> (x2_1.toUInt32 &&& Int32.toUInt32 31)).toInt32) &&& 255 → vp_in fed_1 700 ∧ ∀ bytes_2 : Nat → Int32, bytes_2 = upd bytes_1 fed_1.toNatClampNeg t_1 → ∀ fed_2 : Int32, fed_2 = fed_1 + 1 → (Inv_1 bytes_2 fed_2 (x2_1 + (-8)) ∧ Mea_1 bytes_2 fed_2 (x2_1 + (-8)) < Mea_1 bytes_1 fed_1 x2_1)))))))
set_option maxHeartbeats 4000000 in
set_option maxRecDepth 100000 in
theorem mX9_append (l : Launch) (D : va_G) (Y : Nat → ClassId) (h0 : Nat) (fed : Int32) (q_bytes : Nat) (v_sorts : Value) (v_starts : Value) (v_contents : Value) (length : Int32) (tokens : Int32) (atF : Int32) (bytes : Nat → Int32) (a1 : Int32) (Q : (Int32) → (Nat → Int32) → Prop) (h : wX9_append fed length tokens atF bytes a1 Q) : gM l D Y yX9_append cX9_append 3 none 0 0 0 0 [.ref h0, .int a1] [oX9 h0 fed (.ref q_bytes) (v_sorts) (v_starts) (v_contents) length tokens atF, aI Y q_bytes 700 bytes] (fun v w => ∃ fed' : Int32, ∃ bytes' : Nat → Int32, v = none ∧ w = [oX9 h0 fed' (.ref q_bytes) (v_sorts) (v_starts) (v_contents) length tokens atF, aI Y q_bytes 700 bytes'] ∧ Q fed' bytes') := by
  refine gM_of (own := RX9) (by decide +kernel) rfl (Nat.le_of_ble_eq_true rfl) rfl (fun E C hR => ?_)
  unfold wX9_append at h
  refine g_bipush (v := 24) C dX9_append_0 rfl ?_
  refine g_istore_n (lv' := [(2, .int 24), (0, .ref h0), (1, .int a1)]) C dX9_append_2 (by decide) rfl ?_
  obtain ⟨Inv_1, Mea_1, hI1, hB1⟩ := h
  have key_1 : ∀ (n : Nat) (bytes_1 : Nat → Int32) (fed_1 : Int32) (x2_1 : Int32) , Mea_1 bytes_1 fed_1 x2_1 < n → Inv_1 bytes_1 fed_1 x2_1 → gG E 0 0 [oX9 h0 fed_1 (.ref q_bytes) (v_sorts) (v_starts) (v_contents) length tokens atF, aI Y q_bytes 700 bytes_1] [(0, .ref h0), (1, .int a1), (2, .int x2_1)] [] 3 := by
    intro n
    induction n with
    | zero => exact fun _ _ _ hm => absurd hm (Nat.not_lt_zero _)
    | succ n ih1 =>
      intro bytes_1 fed_1 x2_1  hm1 hI
      have h := hB1 bytes_1 fed_1 x2_1 hI
      refine g_iload_n C dX9_append_3 2 rfl ?_
      refine g_if_lt (tgt := 49) C dX9_append_4 (by decide) (fun c_1 => ?_) (fun c_1 => ?_)
      · replace h := h.1 c_1
        exact g_vret C hR (Nat.le_of_ble_eq_true rfl) (Nat.le_of_ble_eq_true rfl) dX9_append_49 ⟨fed_1, bytes_1, rfl, rfl, h⟩
      · replace h := h.2 c_1
        refine g_aload_n C dX9_append_7 0 rfl ?_
        refine g_get C inX9 0 rfl rfl 0 (by decide) wF_X9_24 rfl dX9_append_8 ?_
        refine g_sipush (v := 700) C dX9_append_11 rfl ?_
        refine g_icmp_ge (tgt := 49) C dX9_append_14 (by decide) (fun c_2 => ?_) (fun c_2 => ?_)
        · replace h := h.1 c_2
          exact g_vret C hR (Nat.le_of_ble_eq_true rfl) (Nat.le_of_ble_eq_true rfl) dX9_append_49 ⟨fed_1, bytes_1, rfl, rfl, h⟩
        · replace h := h.2 c_2
          refine g_aload_n C dX9_append_17 0 rfl ?_
          refine g_get C inX9 0 rfl rfl 1 (by decide) wF_X9_11 rfl dX9_append_18 ?_
          refine g_aload_n C dX9_append_21 0 rfl ?_
          refine g_get C inX9 0 rfl rfl 0 (by decide) wF_X9_24 rfl dX9_append_22 ?_
          refine g_iload_n C dX9_append_25 1 rfl ?_
          refine g_iload_n C dX9_append_26 2 rfl ?_
          refine g_iushr C dX9_append_27 ?_
          refine g_sipush (v := 255) C dX9_append_28 rfl ?_
          refine g_iand C dX9_append_31 ?_
          refine g_topi (fun t_1 et_1 => ?_)
          replace h := h t_1 et_1
          obtain ⟨hc_1, h⟩ := h
          refine g_iast C 1 rfl hc_1 dX9_append_32 (fun bytes_2 ebytes_2 => gG.eqw (ws' := [oX9 h0 fed_1 (.ref q_bytes) (v_sorts) (v_starts) (v_contents) length tokens atF, aI Y q_bytes 700 bytes_2]) rfl ?_)
          replace h := h bytes_2 ebytes_2
          refine g_aload_n C dX9_append_33 0 rfl ?_
          refine g_dup C dX9_append_34 rfl ?_
          refine g_get C inX9 0 rfl rfl 0 (by decide) wF_X9_24 rfl dX9_append_35 ?_
          refine g_iconst (v := 1) C dX9_append_38 rfl ?_
          refine g_iadd C dX9_append_39 ?_
          refine g_topi (fun fed_2 efed_2 => ?_)
          replace h := h fed_2 efed_2
          refine g_put C inX9 tyX9 tyX9_ok nmX9 0 rfl rfl 0 (by decide) wF_X9_24 rfl rfl rfl (Nat.le_of_ble_eq_true rfl) (ws' := [oX9 h0 fed_2 (.ref q_bytes) (v_sorts) (v_starts) (v_contents) length tokens atF, aI Y q_bytes 700 bytes_2]) rfl dX9_append_40 ?_
          refine g_iinc (v := x2_1 + (-8)) (lv' := [(2, .int (x2_1 + (-8))), (0, .ref h0), (1, .int a1)]) C dX9_append_43 2 rfl rfl (by decide) rfl ?_
          refine g_goto (tgt := 3) C dX9_append_46 (by decide) ?_
          refine gG.locals (lv' := [(0, .ref h0), (1, .int a1), (2, .int (x2_1 + (-8)))]) [1, 2, 0] rfl ?_
          exact ih1 bytes_2 fed_2 (x2_1 + (-8)) (Nat.lt_of_lt_of_le h.2 (Nat.le_of_lt_succ hm1)) h.1
  refine gG.locals (lv' := [(0, .ref h0), (1, .int a1), (2, .int 24)]) [1, 2, 0] rfl ?_
  exact key_1 (Mea_1 bytes fed 24 + 1) bytes fed 24 (Nat.lt_succ_self _) hI1
