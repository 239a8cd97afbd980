theorem dJ3_checkIndex_8e157_0 : decode cJ3_checkIndex_8e157 0 = .ok (.iload_n 0, 1) := by decide +kernel
theorem dJ3_checkIndex_8e157_1 : decode cJ3_checkIndex_8e157 1 = .ok (.ifCond .lt 8, 3) := by decide +kernel
theorem dJ3_checkIndex_8e157_4 : decode cJ3_checkIndex_8e157 4 = .ok (.iload_n 0, 1) := by decide +kernel
theorem dJ3_checkIndex_8e157_5 : decode cJ3_checkIndex_8e157 5 = .ok (.iload_n 1, 1) := by decide +kernel
theorem dJ3_checkIndex_8e157_6 : decode cJ3_checkIndex_8e157 6 = .ok (.if_icmp .lt 10, 3) := by decide +kernel
theorem dJ3_checkIndex_8e157_9 : decode cJ3_checkIndex_8e157 9 = .ok (.aload_n 2, 1) := by decide +kernel
theorem dJ3_checkIndex_8e157_10 : decode cJ3_checkIndex_8e157 10 = .ok (.iload_n 0, 1) := by decide +kernel
theorem dJ3_checkIndex_8e157_11 : decode cJ3_checkIndex_8e157 11 = .ok (.iload_n 1, 1) := by decide +kernel
theorem dJ3_checkIndex_8e157_12 : decode cJ3_checkIndex_8e157 12 = .ok (.invokestatic 95, 3) := by decide +kernel
theorem dJ3_checkIndex_8e157_15 : decode cJ3_checkIndex_8e157 15 = .ok (.athrow, 1) := by decide +kernel
theorem dJ3_checkIndex_8e157_16 : decode cJ3_checkIndex_8e157 16 = .ok (.iload_n 0, 1) := by decide +kernel
theorem dJ3_checkIndex_8e157_17 : decode cJ3_checkIndex_8e157 17 = .ok (.ireturn, 1) := by decide +kernel
theorem dJ0_checkIndex_df160_0 : decode cJ0_checkIndex_df160 0 = .ok (.iload_n 0, 1) := by decide +kernel
theorem dJ0_checkIndex_df160_1 : decode cJ0_checkIndex_df160 1 = .ok (.iload_n 1, 1) := by decide +kernel
theorem dJ0_checkIndex_df160_2 : decode cJ0_checkIndex_df160 2 = .ok (.getstatic 1053, 3) := by decide +kernel
theorem dJ0_checkIndex_df160_5 : decode cJ0_checkIndex_df160 5 = .ok (.invokestatic 1059, 3) := by decide +kernel
theorem dJ0_checkIndex_df160_8 : decode cJ0_checkIndex_df160 8 = .ok (.pop, 1) := by decide +kernel
theorem dJ0_checkIndex_df160_9 : decode cJ0_checkIndex_df160 9 = .ok (.return_, 1) := by decide +kernel
theorem dJ1_charAt_3b067_0 : decode cJ1_charAt_3b067 0 = .ok (.iload_n 1, 1) := by decide +kernel
theorem dJ1_charAt_3b067_1 : decode cJ1_charAt_3b067 1 = .ok (.aload_n 0, 1) := by decide +kernel
theorem dJ1_charAt_3b067_2 : decode cJ1_charAt_3b067 2 = .ok (.arraylength, 1) := by decide +kernel
theorem dJ1_charAt_3b067_3 : decode cJ1_charAt_3b067 3 = .ok (.invokestatic 9, 3) := by decide +kernel
theorem dJ1_charAt_3b067_6 : decode cJ1_charAt_3b067 6 = .ok (.aload_n 0, 1) := by decide +kernel
theorem dJ1_charAt_3b067_7 : decode cJ1_charAt_3b067 7 = .ok (.iload_n 1, 1) := by decide +kernel
theorem dJ1_charAt_3b067_8 : decode cJ1_charAt_3b067 8 = .ok (.baload, 1) := by decide +kernel
theorem dJ1_charAt_3b067_9 : decode cJ1_charAt_3b067 9 = .ok (.sipush 255, 3) := by decide +kernel
theorem dJ1_charAt_3b067_12 : decode cJ1_charAt_3b067 12 = .ok (.iand, 1) := by decide +kernel
theorem dJ1_charAt_3b067_13 : decode cJ1_charAt_3b067 13 = .ok (.i2c, 1) := by decide +kernel
theorem dJ1_charAt_3b067_14 : decode cJ1_charAt_3b067 14 = .ok (.ireturn, 1) := by decide +kernel
theorem dJ0_isLatin1_aae02_0 : decode cJ0_isLatin1_aae02 0 = .ok (.getstatic 38, 3) := by decide +kernel
theorem dJ0_isLatin1_aae02_3 : decode cJ0_isLatin1_aae02 3 = .ok (.ifCond .eq 14, 3) := by decide +kernel
theorem dJ0_isLatin1_aae02_6 : decode cJ0_isLatin1_aae02 6 = .ok (.aload_n 0, 1) := by decide +kernel
theorem dJ0_isLatin1_aae02_7 : decode cJ0_isLatin1_aae02 7 = .ok (.getfield 15, 3) := by decide +kernel
theorem dJ0_isLatin1_aae02_10 : decode cJ0_isLatin1_aae02 10 = .ok (.ifCond .ne 7, 3) := by decide +kernel
theorem dJ0_isLatin1_aae02_13 : decode cJ0_isLatin1_aae02 13 = .ok (.iconst 1, 1) := by decide +kernel
theorem dJ0_isLatin1_aae02_14 : decode cJ0_isLatin1_aae02 14 = .ok (.goto 4, 3) := by decide +kernel
theorem dJ0_isLatin1_aae02_17 : decode cJ0_isLatin1_aae02 17 = .ok (.iconst 0, 1) := by decide +kernel
theorem dJ0_isLatin1_aae02_18 : decode cJ0_isLatin1_aae02 18 = .ok (.ireturn, 1) := by decide +kernel
theorem dJ0_coder_7d493_0 : decode cJ0_coder_7d493 0 = .ok (.getstatic 38, 3) := by decide +kernel
theorem dJ0_coder_7d493_3 : decode cJ0_coder_7d493 3 = .ok (.ifCond .eq 10, 3) := by decide +kernel
theorem dJ0_coder_7d493_6 : decode cJ0_coder_7d493 6 = .ok (.aload_n 0, 1) := by decide +kernel
theorem dJ0_coder_7d493_7 : decode cJ0_coder_7d493 7 = .ok (.getfield 15, 3) := by decide +kernel
theorem dJ0_coder_7d493_10 : decode cJ0_coder_7d493 10 = .ok (.goto 4, 3) := by decide +kernel
theorem dJ0_coder_7d493_13 : decode cJ0_coder_7d493 13 = .ok (.iconst 1, 1) := by decide +kernel
theorem dJ0_coder_7d493_14 : decode cJ0_coder_7d493 14 = .ok (.ireturn, 1) := by decide +kernel
theorem dJ0_length_8abf5_0 : decode cJ0_length_8abf5 0 = .ok (.aload_n 0, 1) := by decide +kernel
theorem dJ0_length_8abf5_1 : decode cJ0_length_8abf5 1 = .ok (.getfield 9, 3) := by decide +kernel
theorem dJ0_length_8abf5_4 : decode cJ0_length_8abf5 4 = .ok (.arraylength, 1) := by decide +kernel
theorem dJ0_length_8abf5_5 : decode cJ0_length_8abf5 5 = .ok (.aload_n 0, 1) := by decide +kernel
theorem dJ0_length_8abf5_6 : decode cJ0_length_8abf5 6 = .ok (.invokevirtual 335, 3) := by decide +kernel
theorem dJ0_length_8abf5_9 : decode cJ0_length_8abf5 9 = .ok (.ishr, 1) := by decide +kernel
theorem dJ0_length_8abf5_10 : decode cJ0_length_8abf5 10 = .ok (.ireturn, 1) := by decide +kernel
theorem dJ0_charAt_5068e_0 : decode cJ0_charAt_5068e 0 = .ok (.aload_n 0, 1) := by decide +kernel
theorem dJ0_charAt_5068e_1 : decode cJ0_charAt_5068e 1 = .ok (.invokevirtual 492, 3) := by decide +kernel
theorem dJ0_charAt_5068e_4 : decode cJ0_charAt_5068e 4 = .ok (.ifCond .eq 12, 3) := by decide +kernel
theorem dJ0_charAt_5068e_7 : decode cJ0_charAt_5068e 7 = .ok (.aload_n 0, 1) := by decide +kernel
theorem dJ0_charAt_5068e_8 : decode cJ0_charAt_5068e 8 = .ok (.getfield 9, 3) := by decide +kernel
theorem dJ0_charAt_5068e_11 : decode cJ0_charAt_5068e 11 = .ok (.iload_n 1, 1) := by decide +kernel
theorem dJ0_charAt_5068e_12 : decode cJ0_charAt_5068e 12 = .ok (.invokestatic 495, 3) := by decide +kernel
theorem dJ0_charAt_5068e_15 : decode cJ0_charAt_5068e 15 = .ok (.ireturn, 1) := by decide +kernel
theorem dJ0_charAt_5068e_16 : decode cJ0_charAt_5068e 16 = .ok (.aload_n 0, 1) := by decide +kernel
theorem dJ0_charAt_5068e_17 : decode cJ0_charAt_5068e 17 = .ok (.getfield 9, 3) := by decide +kernel
theorem dJ0_charAt_5068e_20 : decode cJ0_charAt_5068e 20 = .ok (.iload_n 1, 1) := by decide +kernel
theorem dJ0_charAt_5068e_21 : decode cJ0_charAt_5068e 21 = .ok (.invokestatic 498, 3) := by decide +kernel
theorem dJ0_charAt_5068e_24 : decode cJ0_charAt_5068e 24 = .ok (.ireturn, 1) := by decide +kernel

set_option maxHeartbeats 4000000 in
theorem sJ3_checkIndex (l : Launch) (D : va_G) (Y : Nat → ClassId) (i n : Int32) (r : Option Nat) (h1 : ¬ i < 0) (h2 : i < n) : gM l D Y yJ3_checkIndex_8e157 cJ3_checkIndex_8e157 3 (some .int) 0 0 0 0 [.int i, .int n, va_rf r] [] (fun v w => v = some (.int i) ∧ w = []) := by
  cases r with
  | none =>
    refine gM_of (own := RJ3) (lv := [(0, .int i), (1, .int n), (2, .null)]) (by decide +kernel) rfl (Nat.le_of_ble_eq_true rfl) rfl (fun E C hR => ?_)
    refine g_iload_n C dJ3_checkIndex_8e157_0 0 rfl ?_
    refine g_if_lt (tgt := 9) C dJ3_checkIndex_8e157_1 (by decide) (fun c => absurd c h1) (fun _ => ?_)
    refine g_iload_n C dJ3_checkIndex_8e157_4 0 rfl ?_
    refine g_iload_n C dJ3_checkIndex_8e157_5 1 rfl ?_
    refine g_icmp_lt (tgt := 16) C dJ3_checkIndex_8e157_6 (by decide) (fun _ => ?_) (fun c => absurd h2 c)
    refine g_iload_n C dJ3_checkIndex_8e157_16 0 rfl ?_
    exact g_iret C hR (Nat.le_refl _) (Nat.le_refl _) dJ3_checkIndex_8e157_17 ⟨rfl, rfl⟩
  | some t =>
    refine gM_of (own := RJ3) (lv := [(0, .int i), (1, .int n), (2, .ref t)]) (by decide +kernel) rfl (Nat.le_of_ble_eq_true rfl) rfl (fun E C hR => ?_)
    refine g_iload_n C dJ3_checkIndex_8e157_0 0 rfl ?_
    refine g_if_lt (tgt := 9) C dJ3_checkIndex_8e157_1 (by decide) (fun c => absurd c h1) (fun _ => ?_)
    refine g_iload_n C dJ3_checkIndex_8e157_4 0 rfl ?_
    refine g_iload_n C dJ3_checkIndex_8e157_5 1 rfl ?_
    refine g_icmp_lt (tgt := 16) C dJ3_checkIndex_8e157_6 (by decide) (fun _ => ?_) (fun c => absurd h2 c)
    refine g_iload_n C dJ3_checkIndex_8e157_16 0 rfl ?_
    exact g_iret C hR (Nat.le_refl _) (Nat.le_refl _) dJ3_checkIndex_8e157_17 ⟨rfl, rfl⟩
set_option maxHeartbeats 4000000 in
theorem sJ0_checkIndex (l : Launch) (D : va_G) (Y : Nat → ClassId) (i n : Int32) (h1 : ¬ i < 0) (h2 : i < n) : gM l D Y yJ0_checkIndex_df160 cJ0_checkIndex_df160 2 none 1 22 0 0 [.int i, .int n] [] (fun v w => v = none ∧ w = []) := by
  refine gM_of (own := RJ0) (by decide +kernel) rfl (Nat.le_of_ble_eq_true rfl) rfl (fun E C hR => ?_)
  refine g_iload_n C dJ0_checkIndex_df160_0 0 rfl ?_
  refine g_iload_n C dJ0_checkIndex_df160_1 1 rfl ?_
  refine g_sioobe C wF_J0_1053 dJ0_checkIndex_df160_2 (fun r => ?_)
  refine g_callS (As := [.int i, .int n, va_rf r]) (rest := []) C (sJ3_checkIndex l D Y i n r h1 h2) dJ0_checkIndex_df160_5 rfl wM_J0_1059 wS_J3_checkIndex_8e157 wN_J3 wC_J3_checkIndex_8e157 (n := 3) (by decide +kernel) rfl ⟨Nat.le_of_ble_eq_true rfl, Nat.le_of_ble_eq_true rfl⟩ ⟨Nat.le_of_ble_eq_true rfl, Nat.le_of_ble_eq_true rfl⟩ (Nat.le_of_ble_eq_true rfl) [] [] rfl rfl rfl (fun v wc hv => ?_)
  obtain ⟨rfl, rfl⟩ := hv
  refine g_pop C dJ0_checkIndex_df160_8 rfl ?_
  exact g_vret C hR (Nat.le_refl _) (Nat.le_refl _) dJ0_checkIndex_df160_9 ⟨rfl, rfl⟩
/-- what charAt answers -/
def gCh (j k : Nat) : Int32 := ((((gByt.getD j []).getD k 0) &&& 255).toUInt32 % 65536).toInt32
theorem vp_in_ge {i : Int32} {n : Nat} (h : vp_in i n) : ¬ i < 0 := fun c => h (Or.inl c)
theorem vp_in_lt {i : Int32} {n : Nat} (hn : n < 2 ^ 31) (h : vp_in i n) : i < nI n := by
  obtain ⟨j, hj, rfl⟩ := nI_of (vp_in_ge h)
  have h2 := vp_lt h
  rw [nI_clamp hj] at h2
  exact nI_lt h2 hn
theorem gLen_small : ∀ j, j < 6 → gLen.getD j 0 < 2 ^ 31 := by decide +kernel
theorem gCh_char : ∀ j, j < 6 → ∀ k, k < 64 → narrow .char (.int (gCh j k)) = .int (gCh j k) := by decide +kernel
theorem gLen_64 : ∀ j, j < 6 → gLen.getD j 0 ≤ 64 := by decide +kernel
theorem gCh_nar {j : Nat} {i : Int32} (hj : j < 6) (hin : vp_in i (gLen.getD j 0)) : narrow .char (.int (gCh j i.toNatClampNeg)) = .int (gCh j i.toNatClampNeg) := gCh_char j hj _ (Nat.lt_of_lt_of_le (vp_lt hin) (gLen_64 j hj))
set_option maxHeartbeats 4000000 in
theorem sJ1_charAt (l : Launch) (D : va_G) (Y : Nat → ClassId) (j : Nat) (hj : j < 6) (i : Int32) (hin : vp_in i (gLen.getD j 0)) : gM l D Y yJ1_charAt_3b067 cJ1_charAt_3b067 2 (some .char) 2 43 0 0 [.ref (Y (20 + j)), .int i] [] (fun v w => v = some (.int (gCh j i.toNatClampNeg)) ∧ w = []) := by
  refine gM_of (own := RJ1) (by decide +kernel) rfl (Nat.le_of_ble_eq_true rfl) rfl (fun E C hR => ?_)
  refine g_iload_n C dJ1_charAt_3b067_0 1 rfl ?_
  refine g_aload_n C dJ1_charAt_3b067_1 0 rfl ?_
  refine g_strLen C hj dJ1_charAt_3b067_2 ?_
  refine g_callS (As := [.int i, .int (nI (gLen.getD j 0))]) (rest := []) C (sJ0_checkIndex l D Y i (nI (gLen.getD j 0)) (vp_in_ge hin) (vp_in_lt (gLen_small j hj) hin)) dJ1_charAt_3b067_3 rfl wM_J1_9 wS_J0_checkIndex_df160 wN_J0 wC_J0_checkIndex_df160 (n := 2) (by decide +kernel) rfl ⟨Nat.le_of_ble_eq_true rfl, Nat.le_of_ble_eq_true rfl⟩ ⟨Nat.le_of_ble_eq_true rfl, Nat.le_of_ble_eq_true rfl⟩ (Nat.le_of_ble_eq_true rfl) [] [] rfl rfl rfl (fun v wc hv => ?_)
  obtain ⟨rfl, rfl⟩ := hv
  refine g_aload_n C dJ1_charAt_3b067_6 0 rfl ?_
  refine g_iload_n C dJ1_charAt_3b067_7 1 rfl ?_
  refine g_strByte C hj hin dJ1_charAt_3b067_8 ?_
  refine g_sipush (v := 255) C dJ1_charAt_3b067_9 rfl ?_
  refine g_iand C dJ1_charAt_3b067_12 ?_
  refine g_i2c C dJ1_charAt_3b067_13 ?_
  exact g_nret C hR (gCh_nar hj hin) (Nat.le_refl _) (Nat.le_refl _) dJ1_charAt_3b067_14 ⟨rfl, rfl⟩
set_option maxHeartbeats 4000000 in
theorem sJ0_isLatin1 (l : Launch) (D : va_G) (Y : Nat → ClassId) (j : Nat) (hj : j < 6) : gM l D Y yJ0_isLatin1_aae02 cJ0_isLatin1_aae02 1 (some .boolean) 0 0 0 0 [.ref (Y (10 + j))] [] (fun v w => v = some (.int 1) ∧ w = []) := by
  refine gM_of (own := RJ0) (by decide +kernel) rfl (Nat.le_of_ble_eq_true rfl) rfl (fun E C hR => ?_)
  refine g_compact C wF_J0_38 dJ0_isLatin1_aae02_0 ?_
  refine g_if_eq (tgt := 17) C dJ0_isLatin1_aae02_3 (by decide) (fun c => absurd c (by decide)) (fun _ => ?_)
  refine g_aload_n C dJ0_isLatin1_aae02_6 0 rfl ?_
  refine g_strCoder C hj wF_J0_15 dJ0_isLatin1_aae02_7 ?_
  refine g_if_ne (tgt := 17) C dJ0_isLatin1_aae02_10 (by decide) (fun c => absurd rfl c) (fun _ => ?_)
  refine g_iconst (v := 1) C dJ0_isLatin1_aae02_13 rfl ?_
  refine g_goto (tgt := 18) C dJ0_isLatin1_aae02_14 (by decide) ?_
  exact g_zret C hR (by decide) (Nat.le_refl _) (Nat.le_refl _) dJ0_isLatin1_aae02_18 ⟨rfl, rfl⟩
set_option maxHeartbeats 4000000 in
theorem sJ0_coder (l : Launch) (D : va_G) (Y : Nat → ClassId) (j : Nat) (hj : j < 6) : gM l D Y yJ0_coder_7d493 cJ0_coder_7d493 1 (some .byte) 0 0 0 0 [.ref (Y (10 + j))] [] (fun v w => v = some (.int 0) ∧ w = []) := by
  refine gM_of (own := RJ0) (by decide +kernel) rfl (Nat.le_of_ble_eq_true rfl) rfl (fun E C hR => ?_)
  refine g_compact C wF_J0_38 dJ0_coder_7d493_0 ?_
  refine g_if_eq (tgt := 13) C dJ0_coder_7d493_3 (by decide) (fun c => absurd c (by decide)) (fun _ => ?_)
  refine g_aload_n C dJ0_coder_7d493_6 0 rfl ?_
  refine g_strCoder C hj wF_J0_15 dJ0_coder_7d493_7 ?_
  refine g_goto (tgt := 14) C dJ0_coder_7d493_10 (by decide) ?_
  exact g_nret C hR (by decide) (Nat.le_refl _) (Nat.le_refl _) dJ0_coder_7d493_14 ⟨rfl, rfl⟩
theorem g_shr0 : ∀ j, j < 6 → nI (gLen.getD j 0) >>> ((0 : Int32) &&& 31) = nI (gLen.getD j 0) := by decide +kernel
set_option maxHeartbeats 4000000 in
theorem sJ0_length (l : Launch) (D : va_G) (Y : Nat → ClassId) (j : Nat) (hj : j < 6) : gM l D Y yJ0_length_8abf5 cJ0_length_8abf5 1 (some .int) 1 20 0 0 [.ref (Y (10 + j))] [] (fun v w => v = some (.int (nI (gLen.getD j 0))) ∧ w = []) := by
  refine gM_of (own := RJ0) (by decide +kernel) rfl (Nat.le_of_ble_eq_true rfl) rfl (fun E C hR => ?_)
  refine g_aload_n C dJ0_length_8abf5_0 0 rfl ?_
  refine g_strVal C hj wF_J0_9 dJ0_length_8abf5_1 ?_
  refine g_strLen C hj dJ0_length_8abf5_4 ?_
  refine g_aload_n C dJ0_length_8abf5_5 0 rfl ?_
  refine g_callVK (As := []) (rest := [.int (nI (gLen.getD j 0))]) C hj rfl (sJ0_coder l D Y j hj) dJ0_length_8abf5_6 rfl wM_J0_335 wI_J0_coder_7d493 wV_J0_coder_7d493 wN_J0 wC_J0_coder_7d493 (n := 0) (by decide +kernel) rfl ⟨Nat.le_of_ble_eq_true rfl, Nat.le_of_ble_eq_true rfl⟩ ⟨Nat.le_of_ble_eq_true rfl, Nat.le_of_ble_eq_true rfl⟩ (Nat.le_of_ble_eq_true rfl) (fun v w h => h.2) (fun v hv => ?_)
  obtain ⟨rfl, -⟩ := hv
  refine g_ishr C dJ0_length_8abf5_9 ?_
  rw [g_shr0 j hj]
  exact g_iret C hR (Nat.le_refl _) (Nat.le_refl _) dJ0_length_8abf5_10 ⟨rfl, rfl⟩
set_option maxHeartbeats 4000000 in
theorem sJ0_charAt (l : Launch) (D : va_G) (Y : Nat → ClassId) (j : Nat) (hj : j < 6) (i : Int32) (hin : vp_in i (gLen.getD j 0)) : gM l D Y yJ0_charAt_5068e cJ0_charAt_5068e 2 (some .char) 3 64 0 0 [.ref (Y (10 + j)), .int i] [] (fun v w => v = some (.int (gCh j i.toNatClampNeg)) ∧ w = []) := by
  refine gM_of (own := RJ0) (by decide +kernel) rfl (Nat.le_of_ble_eq_true rfl) rfl (fun E C hR => ?_)
  refine g_aload_n C dJ0_charAt_5068e_0 0 rfl ?_
  refine g_callVK (As := []) (rest := []) C hj rfl (sJ0_isLatin1 l D Y j hj) dJ0_charAt_5068e_1 rfl wM_J0_492 wI_J0_isLatin1_aae02 wV_J0_isLatin1_aae02 wN_J0 wC_J0_isLatin1_aae02 (n := 0) (by decide +kernel) rfl ⟨Nat.le_of_ble_eq_true rfl, Nat.le_of_ble_eq_true rfl⟩ ⟨Nat.le_of_ble_eq_true rfl, Nat.le_of_ble_eq_true rfl⟩ (Nat.le_of_ble_eq_true rfl) (fun v w h => h.2) (fun v hv => ?_)
  obtain ⟨rfl, -⟩ := hv
  refine g_if_eq (tgt := 16) C dJ0_charAt_5068e_4 (by decide) (fun c => absurd c (by decide)) (fun _ => ?_)
  refine g_aload_n C dJ0_charAt_5068e_7 0 rfl ?_
  refine g_strVal C hj wF_J0_9 dJ0_charAt_5068e_8 ?_
  refine g_iload_n C dJ0_charAt_5068e_11 1 rfl ?_
  refine g_callS (As := [.ref (Y (20 + j)), .int i]) (rest := []) C (sJ1_charAt l D Y j hj i hin) dJ0_charAt_5068e_12 rfl wM_J0_495 wS_J1_charAt_3b067 wN_J1 wC_J1_charAt_3b067 (n := 2) (by decide +kernel) rfl ⟨Nat.le_of_ble_eq_true rfl, Nat.le_of_ble_eq_true rfl⟩ ⟨Nat.le_of_ble_eq_true rfl, Nat.le_of_ble_eq_true rfl⟩ (Nat.le_of_ble_eq_true rfl) [] [] rfl rfl rfl (fun v wc hv => ?_)
  obtain ⟨rfl, rfl⟩ := hv
  exact g_nret C hR (gCh_nar hj hin) (Nat.le_refl _) (Nat.le_refl _) dJ0_charAt_5068e_15 ⟨rfl, rfl⟩
/-- charAt and length, as one step of the caller -/
theorem g_charAt {E : gE} {l : Launch} {D : va_G} {Y : Nat → ClassId} {cc : ByteArray} {own : String} {R : Room} {nL : Nat} {cells slots : Nat} {ws : va_W} {lv : List (Nat × Value)} {rest : List Value} {pc : Nat} (C : gOK E l D Y cc own R nL) {idx : Nat} {i : Int32} (j : Nat) (hj : j < 6) (w1 : Cond.methodLink own idx yJ0_charAt_5068e ∈ gWs) (hd : decode cc pc = .ok (.invokevirtual idx, 3)) (hin : vp_in i (gLen.getD j 0)) (hr1 : 4 ≤ R.frames ∧ 85 ≤ R.locals) (hr2 : cells ≤ R.cells ∧ slots ≤ R.slots) (hrest : (rest.map fun v => v.category).sum ≤ 8) (h : gG E cells slots ws lv (.int (gCh j i.toNatClampNeg) :: rest) (pc + 3)) : gG E cells slots ws lv (.int i :: .ref (Y (10 + j)) :: rest) pc :=
  g_callVK (As := [.int i]) (rest := rest) C hj rfl (sJ0_charAt l D Y j hj i hin) hd rfl w1 wI_J0_charAt_5068e wV_J0_charAt_5068e wN_J0 wC_J0_charAt_5068e (n := 1) (by decide +kernel) rfl hr1 hr2 hrest (fun v w h => h.2) (fun v hv => by obtain ⟨rfl, -⟩ := hv; exact h)
theorem g_strLength {E : gE} {l : Launch} {D : va_G} {Y : Nat → ClassId} {cc : ByteArray} {own : String} {R : Room} {nL : Nat} {cells slots : Nat} {ws : va_W} {lv : List (Nat × Value)} {rest : List Value} {pc : Nat} (C : gOK E l D Y cc own R nL) {idx : Nat} (j : Nat) (hj : j < 6) (w1 : Cond.methodLink own idx yJ0_length_8abf5 ∈ gWs) (hd : decode cc pc = .ok (.invokevirtual idx, 3)) (hr1 : 2 ≤ R.frames ∧ 40 ≤ R.locals) (hr2 : cells ≤ R.cells ∧ slots ≤ R.slots) (hrest : (rest.map fun v => v.category).sum ≤ 8) (h : gG E cells slots ws lv (.int (nI (gLen.getD j 0)) :: rest) (pc + 3)) : gG E cells slots ws lv (.ref (Y (10 + j)) :: rest) pc :=
  g_callVK (As := []) (rest := rest) C hj rfl (sJ0_length l D Y j hj) hd rfl w1 wI_J0_length_8abf5 wV_J0_length_8abf5 wN_J0 wC_J0_length_8abf5 (n := 0) (by decide +kernel) rfl hr1 hr2 hrest (fun v w h => h.2) (fun v hv => by obtain ⟨rfl, -⟩ := hv; exact h)

