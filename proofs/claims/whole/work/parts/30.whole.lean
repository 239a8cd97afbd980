theorem lw_t0 {w : Cond} (h : w ∈ k2_sels lw_privs) : w ∈ lw_tbl := List.mem_append_left _ h
theorem lw_t1 {w : Cond} (h : w ∈ tables_1_1) : w ∈ lw_tbl := List.mem_append_right _ (List.mem_append_left _ h)
theorem lw_t2 {w : Cond} (h : w ∈ tables_1_2) : w ∈ lw_tbl := List.mem_append_right _ (List.mem_append_right _ (List.mem_append_left _ h))
theorem lw_t3 {w : Cond} (h : w ∈ tables_1_3) : w ∈ lw_tbl := List.mem_append_right _ (List.mem_append_right _ (List.mem_append_right _ (List.mem_append_left _ h)))
theorem lw_t4 {w : Cond} (h : w ∈ tables_1_4) : w ∈ lw_tbl := List.mem_append_right _ (List.mem_append_right _ (List.mem_append_right _ (List.mem_append_right _ (List.mem_append_left _ h))))
theorem lw_t5 {w : Cond} (h : w ∈ tables_1_5) : w ∈ lw_tbl := List.mem_append_right _ (List.mem_append_right _ (List.mem_append_right _ (List.mem_append_right _ (List.mem_append_right _ (List.mem_append_left _ h)))))
theorem lw_t6 {w : Cond} (h : w ∈ tables_1_6) : w ∈ lw_tbl := List.mem_append_right _ (List.mem_append_right _ (List.mem_append_right _ (List.mem_append_right _ (List.mem_append_right _ (List.mem_append_right _ (List.mem_append_left _ h))))))
theorem lw_t7 {w : Cond} (h : w ∈ tables_1_7) : w ∈ lw_tbl := List.mem_append_right _ (List.mem_append_right _ (List.mem_append_right _ (List.mem_append_right _ (List.mem_append_right _ (List.mem_append_right _ (List.mem_append_right _ h))))))
def lwTm (i : Nat) : Term := [Term.string "QuotientSums$Plan" 70, Term.string "QuotientSums$Tape" 83, Term.string "QuotientSums" 103, Term.string "QuotientSums" 126, Term.string "QuotientSumsModel" 205, Term.string "QuotientSumsModel" 131].getD i (.int 0)
abbrev lwF : List Cond := flatC (Jvm.Cond.and given_1 narrow_1)
theorem lwS1 : ∀ i, i < 6 → Cond.exactly (lwTm i) "java/lang/String" ∈ lwF := by decide +kernel
theorem lwS2 : ∀ i, i < 6 → Cond.eq (.field (lwTm i) "java/lang/String" "coder" "B") (.int 0) ∈ lwF := by decide +kernel
theorem lwS3 : ∀ i, i < 6 → Cond.arrayOf (.field (lwTm i) "java/lang/String" "value" "[B") .byte ∈ lwF := by decide +kernel
theorem lwS4 : ∀ i, i < 6 → Cond.eq (.length (.field (lwTm i) "java/lang/String" "value" "[B")) (.int (Int32.ofNat (gLen.getD i 0))) ∈ lwF := by decide +kernel
theorem lwS5_0 : (List.range 36).map (fun j => Cond.eq (.elem (.field (lwTm 0) "java/lang/String" "value" "[B") (.int (Int32.ofNat j))) (.int ((gByt.getD 0 []).getD j 0))) = (lwF.drop 50).take 36 := by decide +kernel
theorem lwS5_1 : (List.range 63).map (fun j => Cond.eq (.elem (.field (lwTm 1) "java/lang/String" "value" "[B") (.int (Int32.ofNat j))) (.int ((gByt.getD 1 []).getD j 0))) = (lwF.drop 90).take 63 := by decide +kernel
theorem lwS5_2 : (List.range 16).map (fun j => Cond.eq (.elem (.field (lwTm 2) "java/lang/String" "value" "[B") (.int (Int32.ofNat j))) (.int ((gByt.getD 2 []).getD j 0))) = (lwF.drop 158).take 16 := by decide +kernel
theorem lwS5_3 : (List.range 12).map (fun j => Cond.eq (.elem (.field (lwTm 3) "java/lang/String" "value" "[B") (.int (Int32.ofNat j))) (.int ((gByt.getD 3 []).getD j 0))) = (lwF.drop 180).take 12 := by decide +kernel
theorem lwS5_4 : (List.range 24).map (fun j => Cond.eq (.elem (.field (lwTm 4) "java/lang/String" "value" "[B") (.int (Int32.ofNat j))) (.int ((gByt.getD 4 []).getD j 0))) = (lwF.drop 199).take 24 := by decide +kernel
theorem lwS5_5 : (List.range 49).map (fun j => Cond.eq (.elem (.field (lwTm 5) "java/lang/String" "value" "[B") (.int (Int32.ofNat j))) (.int ((gByt.getD 5 []).getD j 0))) = (lwF.drop 231).take 49 := by decide +kernel
theorem lw_of {f : Nat → Cond} {n p j : Nat} (h : (List.range n).map f = (lwF.drop p).take n) (hj : j < n) : f j ∈ lwF := by
  have h1 : f j ∈ (List.range n).map f := List.mem_map_of_mem (List.mem_range.mpr hj)
  rw [h] at h1
  exact List.mem_of_mem_drop (List.mem_of_mem_take h1)
theorem lwS5 : ∀ i, i < 6 → ∀ j, j < gLen.getD i 0 → Cond.eq (.elem (.field (lwTm i) "java/lang/String" "value" "[B") (.int (Int32.ofNat j))) (.int ((gByt.getD i []).getD j 0)) ∈ lwF := by
  intro i hi j hj
  match i, hi with
  | 0, _ => exact lw_of lwS5_0 hj
  | 1, _ => exact lw_of lwS5_1 hj
  | 2, _ => exact lw_of lwS5_2 hj
  | 3, _ => exact lw_of lwS5_3 hj
  | 4, _ => exact lw_of lwS5_4 hj
  | 5, _ => exact lw_of lwS5_5 hj
  | k + 6, h6 => exact absurd h6 (by omega)
theorem lwS6 : ∀ i, i < 6 → ∀ j, j < 6 → i < j → Cond.not (Cond.eq (lwTm i) (lwTm j)) ∈ lwF := by decide +kernel
theorem lwD1 : Cond.arrayOf (.static "QuotientSums" "KNOWN_DEGREES" "[I") .int ∈ lwF := by decide +kernel
theorem lwD2 : Cond.eq (.length (.static "QuotientSums" "KNOWN_DEGREES" "[I")) (.int 6) ∈ lwF := by decide +kernel
theorem lwD3 : ∀ j, j < 6 → Cond.eq (.elem (.static "QuotientSums" "KNOWN_DEGREES" "[I") (.int (Int32.ofNat j))) (.int (gDeg j)) ∈ lwF := by decide +kernel
theorem lwC1 : Cond.eq (.static "java/lang/String" "COMPACT_STRINGS" "Z") (.int 1) ∈ lwF := by decide +kernel
theorem lwC2 : Cond.isRef (.static "jdk/internal/util/Preconditions" "SIOOBE_FORMATTER" "Ljava/util/function/BiFunction;") ∈ lwF := by decide +kernel
theorem lwC3 : Cond.not (.castable "java/util/NoSuchElementException" "java/lang/IndexOutOfBoundsException") ∈ lwF := by decide +kernel
theorem lwC4 : Cond.isRef (.static Bundle.tN "UNASSIGNED_STACK" Bundle.steD) ∈ lwF := by decide +kernel
theorem lwC5 : Cond.isRef (.static Bundle.tN "SUPPRESSED_SENTINEL" Bundle.listD) ∈ lwF := by decide +kernel
set_option maxHeartbeats 8000000 in
set_option maxRecDepth 100000 in
theorem whole_start {p : Program} {e : Env} {s : State} {m : MethodId} {below : List Frame} {meth : Method} {c : Code} (l : Launch) (hflags : l.flags = flags0) {b L : Nat} {xs : Nat → Int32} (hL : L ≤ 3072) (C0 : lw_At p s m meth c b L xs) : W p l e room_1 s m #[Value.ref b] below meth c s.heap [] 0 0 (lw_Z below #[Value.ref b] s) (entryFrame m ([Value.ref b] : List Value).toArray 7) := by
  obtain ⟨hx, hb, hr, hml, hown, hts, hX, hbl, hlocks, hgv⟩ := id C0
  have htsG : ∀ w ∈ gWs, w.before #[Value.ref b] s = true := fun w hw => hts w (List.mem_filter.mp hw).1
  have hs : ∀ w ∈ lwF, w.before #[Value.ref b] s = true := flat_of_before _ hgv
  have hA0 : ∀ a : Nat, a < s.heap.size → ¬ (fun q : Nat => s.heap.size ≤ q) a := fun a h => Nat.not_le.mpr h
  obtain ⟨c0, i0, hk0⟩ := u_known (C := RX0) (T := TX0) (N := 6) (n := 6) htsG inX0 (htsG _ wT_X0)
  obtain ⟨c1, i1, hk1⟩ := u_known (C := RX1) (T := TX1) (N := 4) (n := 4) htsG inX1 (htsG _ wT_X1)
  obtain ⟨c2, i2, hk2⟩ := u_known (C := RX2) (T := TX2) (N := 4) (n := 4) htsG inX2 (htsG _ wT_X2)
  obtain ⟨c3, i3, hk3⟩ := u_known (C := RX3) (T := TX3) (N := 12) (n := 12) htsG inX3 (htsG _ wT_X3)
  obtain ⟨c4, i4, hk4⟩ := u_known (C := RX4) (T := TX4) (N := 2) (n := 2) htsG inX4 (htsG _ wT_X4)
  obtain ⟨c5, i5, hk5⟩ := u_known (C := RX5) (T := TX5) (N := 7) (n := 7) htsG inX5 (htsG _ wT_X5)
  obtain ⟨c6, i6, hk6⟩ := u_known (C := RX6) (T := TX6) (N := 5) (n := 5) htsG inX6 (htsG _ wT_X6)
  obtain ⟨c7, i7, hk7⟩ := u_known (C := RX7) (T := TX7) (N := 4) (n := 4) htsG inX7 (htsG _ wT_X7)
  obtain ⟨c8, i8, hk8⟩ := u_known (C := RX8) (T := TX8) (N := 1) (n := 1) htsG inX8 (htsG _ wT_X8)
  obtain ⟨c9, i9, hk9⟩ := u_known (C := RX9) (T := TX9) (N := 8) (n := 8) htsG inX9 (htsG _ wT_X9)
  obtain ⟨c10, i10, hk10⟩ := u_known (C := RX10) (T := TX10) (N := 6) (n := 6) htsG inX10 (htsG _ wT_X10)
  obtain ⟨c11, i11, hk11⟩ := u_known (C := RX11) (T := TX11) (N := 40) (n := 40) htsG inX11 (htsG _ wT_X11)
  obtain ⟨dC, dI, hKc⟩ : ∃ (dC : Nat → ClassId) (dI : Nat → Nat → Nat), ∀ (k : Nat) (q : vw_C), vwCl[k]? = some q → u_Kn s q.1 q.2.1 q.2.2 (dC k) (dI k) := by
    refine ⟨fun k => [c0, c1, c2, c3, c4, c5, c6, c7, c8, c9, c10, c11].getD k 0, fun k => [i0, i1, i2, i3, i4, i5, i6, i7, i8, i9, i10, i11].getD k (fun _ => 0), ?_⟩
    intro k q hq
    match k, hq with
    | 0, hq => cases hq; exact hk0
    | 1, hq => cases hq; exact hk1
    | 2, hq => cases hq; exact hk2
    | 3, hq => cases hq; exact hk3
    | 4, hq => cases hq; exact hk4
    | 5, hq => cases hq; exact hk5
    | 6, hq => cases hq; exact hk6
    | 7, hq => cases hq; exact hk7
    | 8, hq => cases hq; exact hk8
    | 9, hq => cases hq; exact hk9
    | 10, hq => cases hq; exact hk10
    | 11, hq => cases hq; exact hk11
    | k + 12, hq => simp [vwCl] at hq
  obtain ⟨kI, kkI, cpI, xI1, xI2, xI3⟩ := Cond.arrayClass_spec (type := .int) (show (Cond.arrayClass .int).holds #[Value.ref b] s none s [] = true from htsG _ wA_int)
  obtain ⟨kJ, kkJ, cpJ, xJ1, xJ2, xJ3⟩ := Cond.arrayClass_spec (type := .long) (show (Cond.arrayClass .long).holds #[Value.ref b] s none s [] = true from htsG _ wA_long)
  obtain ⟨kZ, kkZ, cpZ, xZ1, xZ2, xZ3⟩ := Cond.arrayClass_spec (type := .boolean) (show (Cond.arrayClass .boolean).holds #[Value.ref b] s none s [] = true from htsG _ wA_boolean)
  have hAO : va_AO RX6 s := va_AO.of (hts (Cond.arrayOver (.object RX6)) (lw_t2 (List.mem_of_getElem? (i := 73) rfl)))
  obtain ⟨cpR, kR, kkR, xR1, -, xR2, xR3, xR4⟩ := Cond.arrayOver_spec (show (Cond.arrayOver (.object RX6)).holds #[] s none s [] = true from hAO)
  obtain ⟨adK, adV, hSt, hSe⟩ := vk_Sof (args := #[Value.ref b]) (s := s) (N := 6) (tm := lwTm) (len := gLen) (byt := gByt) (A := fun q : Nat => s.heap.size ≤ q) (by decide +kernel) (fun i hi => hs _ (lwS1 i hi)) (fun i hi => hs _ (lwS2 i hi)) (fun i hi => hs _ (lwS3 i hi)) (fun i hi => hs _ (lwS4 i hi)) (fun i hi j hj => hs _ (lwS5 i hi j hj)) (fun i j hi hj hne => by
    rcases Nat.lt_or_gt_of_ne hne with h1 | h1
    · exact Or.inl (hs _ (lwS6 i hi j hj h1))
    · exact Or.inr (hs _ (lwS6 j hj i hi h1))) hA0
  obtain ⟨tD, hDe, hDt⟩ := va_Tof (args := #[Value.ref b]) (s := s) (tm := .static "QuotientSums" "KNOWN_DEGREES" "[I") (ty := .int) (N := 6) (f := fun j => .int (gDeg j)) (A := fun q : Nat => s.heap.size ≤ q) (by decide) (hs _ lwD1) (va_eqt (hs _ lwD2)) (fun j hj => va_eqt (hs _ (lwD3 j hj))) hA0
  obtain ⟨Y, hY⟩ : ∃ Y : Nat → ClassId, Y = fun n => if n = 0 then kI else if n = 1 then kJ else if n = 2 then kZ else if n = 3 then kR else if n < 20 then adK (n - 10) else if n < 30 then adV (n - 20) else tD := ⟨_, rfl⟩
  have hYK : ∀ i, i < 6 → Y (10 + i) = adK i := fun i hi => by
    rw [hY]
    simp only [show ¬ 10 + i = 0 by omega, show ¬ 10 + i = 1 by omega, show ¬ 10 + i = 2 by omega, show ¬ 10 + i = 3 by omega, show 10 + i < 20 by omega, if_true, if_false, Nat.add_sub_cancel_left]
  have hYV : ∀ i, i < 6 → Y (20 + i) = adV i := fun i hi => by
    rw [hY]
    simp only [show ¬ 20 + i = 0 by omega, show ¬ 20 + i = 1 by omega, show ¬ 20 + i = 2 by omega, show ¬ 20 + i = 3 by omega, show ¬ 20 + i < 20 by omega, show 20 + i < 30 by omega, if_true, if_false, Nat.add_sub_cancel_left]
  have hY0 : Y 0 = kI := by rw [hY]; rfl
  have hY1 : Y 1 = kJ := by rw [hY]; rfl
  have hY2 : Y 2 = kZ := by rw [hY]; rfl
  have hY3 : Y 3 = kR := by rw [hY]; rfl
  have hY30 : Y 30 = tD := by rw [hY]; rfl
  have hR0 : vk_R RX3 70 "one   id    mu    phi   tau   sigma " (Y 10) s := by
    have e1 : Y 10 = adK 0 := hYK 0 (by decide)
    rw [e1]
    exact vk_R.of (hts (Cond.stringRef "QuotientSums$Plan" 70 "one   id    mu    phi   tau   sigma ") (lw_t1 (List.mem_of_getElem? (i := 50) rfl))) (hSe 0 (by decide))
  have hR1 : vk_R RX9 83 "bound  modulusseed   own    at     times  over   point  twist  " (Y 11) s := by
    have e1 : Y 11 = adK 1 := hYK 1 (by decide)
    rw [e1]
    exact vk_R.of (hts (Cond.stringRef "QuotientSums$Tape" 83 "bound  modulusseed   own    at     times  over   point  twist  ") (lw_t2 (List.mem_of_getElem? (i := 207) rfl))) (hSe 1 (by decide))
  have hR2 : vk_R RX10 103 "no such function" (Y 12) s := by
    have e1 : Y 12 = adK 2 := hYK 2 (by decide)
    rw [e1]
    exact vk_R.of (hts (Cond.stringRef "QuotientSums" 103 "no such function") (lw_t5 (List.mem_of_getElem? (i := 63) rfl))) (hSe 2 (by decide))
  have hR3 : vk_R RX10 126 "no such what" (Y 13) s := by
    have e1 : Y 13 = adK 3 := hYK 3 (by decide)
    rw [e1]
    exact vk_R.of (hts (Cond.stringRef "QuotientSums" 126 "no such what") (lw_t5 (List.mem_of_getElem? (i := 98) rfl))) (hSe 3 (by decide))
  have hR4 : vk_R RX11 205 "one id mu phi tau sigma " (Y 14) s := by
    have e1 : Y 14 = adK 4 := hYK 4 (by decide)
    rw [e1]
    exact vk_R.of (hts (Cond.stringRef "QuotientSumsModel" 205 "one id mu phi tau sigma ") (lw_t5 (List.mem_of_getElem? (i := 124) rfl))) (hSe 4 (by decide))
  have hR5 : vk_R RX11 131 "bound modulus seed own at times over point twist " (Y 15) s := by
    have e1 : Y 15 = adK 5 := hYK 5 (by decide)
    rw [e1]
    exact vk_R.of (hts (Cond.stringRef "QuotientSumsModel" 131 "bound modulus seed own at times over point twist ") (lw_t6 (List.mem_of_getElem? (i := 64) rfl))) (hSe 5 (by decide))
  have hK : va_K (dC, dI) vwCl (gTys Y) s := by
    refine ⟨hKc, fun k q hq => ?_⟩
    match k, hq with
    | 0, hq => cases hq; rw [hY0]; exact ⟨fun n z => ⟨fun k h => (by cases h), kkI, xI2, cpI, xI3⟩, xI1⟩
    | 1, hq => cases hq; rw [hY1]; exact ⟨fun n z => ⟨fun k h => (by cases h), kkJ, xJ2, cpJ, xJ3⟩, xJ1⟩
    | 2, hq => cases hq; rw [hY2]; exact ⟨fun n z => ⟨fun k h => (by cases h), kkZ, xZ2, cpZ, xZ3⟩, xZ1⟩
    | 3, hq => cases hq; rw [hY3]; exact ⟨fun n z => ⟨fun k h => (by cases h), kkR, xR2, cpR, xR3⟩, kkR, cpR, xR2, xR3, xR1, xR4⟩
    | k + 4, hq => simp [gTys] at hq
  have hZ : gZ Y (fun q : Nat => s.heap.size ≤ q) s s.heap := by
    refine ⟨fun w hw => va_Nw.of (gIsN_on (List.mem_filter.mp hw).2) (hts w (List.mem_filter.mp hw).1), ⟨fun i hi => ?_, fun i j hi hj he => ?_⟩, ⟨hR0, hR1, hR2, hR3, hR4, hR5⟩, ?_, ?_, ?_, ?_, hAO, va_Nc.of (hs _ lwC3), ?_, ?_⟩
    · dsimp only; rw [hYK i hi, hYV i hi]; exact hSt.1 i hi
    · dsimp only at he; rw [hYK i hi, hYK j hj] at he; exact hSt.2 i j hi hj he
    · rw [hY30]; exact va_Zof (hts (Cond.laysStatic "QuotientSums" "KNOWN_DEGREES" "[I") (lw_t1 (List.mem_of_getElem? (i := 104) rfl))) (hts (Cond.initialized "QuotientSums") (lw_t1 (List.mem_of_getElem? (i := 1) rfl))) hDe hA0
    · rw [hY30]; exact hDt
    · exact va_Zof (hts (Cond.laysStatic "java/lang/String" "COMPACT_STRINGS" "Z") (lw_t1 (List.mem_of_getElem? (i := 60) rfl))) (hts (Cond.initialized "java/lang/String") (lw_t1 (List.mem_of_getElem? (i := 4) rfl))) (va_eqt (hs _ lwC1)) hA0
    · exact va_Zqof (hts (Cond.laysStatic "jdk/internal/util/Preconditions" "SIOOBE_FORMATTER" "Ljava/util/function/BiFunction;") (lw_t1 (List.mem_of_getElem? (i := 68) rfl))) (hts (Cond.initialized "jdk/internal/util/Preconditions") (lw_t1 (List.mem_of_getElem? (i := 6) rfl))) (hs _ lwC2) hA0
    · exact vx_Zqof (hts (Cond.laysStatic Bundle.tN "UNASSIGNED_STACK" Bundle.steD) (lw_t5 (List.mem_of_getElem? (i := 50) rfl))) (hts (Cond.initialized Bundle.tN) (lw_t1 (List.mem_of_getElem? (i := 19) rfl))) (hs _ lwC4) hA0
    · exact vx_Zqof (hts (Cond.laysStatic Bundle.tN "SUPPRESSED_SENTINEL" Bundle.listD) (lw_t5 (List.mem_of_getElem? (i := 52) rfl))) (hts (Cond.initialized Bundle.tN) (lw_t1 (List.mem_of_getElem? (i := 19) rfl))) (hs _ lwC5) hA0
  have hstk : l.stackTraces = false := by unfold Launch.stackTraces; rw [hflags]; decide +kernel
  have hP : va_P (dC, dI) vwCl [] s.heap := fun k q h => by simp at h
  have hD : va_D (fun q : Nat => s.heap.size ≤ q) [] := ⟨fun i j p q h => by simp at h, fun k q h => by simp at h⟩
  rw [lg_entry_eq]
  exact mL_law l hstk (dC, dI) Y b L xs (p, l, e, room_1, s, m, #[Value.ref b], below, meth, c, 7, (fun q : Nat => s.heap.size ≤ q), (dC, dI), lw_Z below #[Value.ref b] s) ⟨rfl, rfl, rfl, rfl, hx, hb, hml, hown, htsG, hK, fun q h => h, hZ, hlocks, rfl⟩ ⟨hX, hbl, Nat.not_le.mpr hbl⟩ ⟨⟨b, rfl, rfl⟩, hr, rfl, fun q h => h⟩ (law_pure L hL xs) s.heap [] _ hP hD va_S.rf (lv_entry [Value.ref b] (Nat.le_of_ble_eq_true rfl))
-- ===== YOUR PART ENDS =====
set_option maxHeartbeats 4000000 in
theorem lw_walk (l : Launch) (hflags : l.flags = flags0) (b : Addr) (xs : List Int32) : MetFree l x (headSpec (Jvm.Cond.code x code maxLocals ret :: tables_1) room_1) (lw_P b xs) (fun _ _ _ _ _ => True) lw_Q := by
  refine MetFree.of_bodyS (code := code) (maxLocals := maxLocals) (ret := ret) (by decide) ?_ ?_
  · intro args s m h hn
    obtain ⟨meth, c, h1, h2, h3, h4, h5, h6, -, -⟩ := Cond.code_spec hn (atoms_spec (ws := Jvm.Cond.code x code maxLocals ret :: tables_1) h _ List.mem_cons_self)
    exact ⟨meth, c, h1, h2, h3, h4, h5, h6⟩
  · intro p e s m args below meth c s₁ B hml0 hP _
    obtain ⟨rfl, hx, hbd, hgv⟩ := hP
    obtain ⟨scr, harrAt, hlist, hof, hsmall⟩ := hx
    obtain ⟨hcb, hkn, -, -⟩ := State.arrayAt?_spec harrAt
    have hown : s.vm.findClass R_law = some m.cls := findClass_of_methodNamed B.named
    have hts0 : ∀ c ∈ (Jvm.Cond.code x code maxLocals ret :: tables_1), c.before #[Value.ref b] s = true := atoms_spec (ws := Jvm.Cond.code x code maxLocals ret :: tables_1) B.pre
    have hts : ∀ w ∈ lw_tbl, w.before #[Value.ref b] s = true := k2_hts_sels lw_privs (fun w hw => hts0 w (List.mem_cons_of_mem _ hw)) lw_privs_ok
    have hml : c.maxLocals = 7 := B.maxLocals_eq (hts0 _ List.mem_cons_self)
    have X₀ : Stand p l e room_1 s m #[Value.ref b] below meth c s₁ [] 0 0 := Stand.of_body B
    have hh0 : s₁.heap = s.heap := by rw [B.state]; rfl
    have hsz : scr.slots.size = xs.length := by rw [← Array.length_toList, hlist, List.length_map]
    have hval : ∀ j : Nat, j < xs.length → scr.slots[j]? = some (.int (xs.getD j 0)) := fun j hj => by
      rw [← Array.getElem?_toList, hlist]
      simp [hj]
    have hbl : b < s.heap.size := (Array.getElem?_eq_some_iff.mp hcb).1
    have hX : va_X b xs.length (fun j => xs.getD j 0) s s.heap := ⟨scr, hcb, hof, hkn, hsz, hval⟩
    have K : W p l e room_1 s m #[Value.ref b] below meth c s₁.heap [] 0 0 (lw_Z below #[Value.ref b] s) (entryFrame m ([Value.ref b] : List Value).toArray 7) := by
      rw [hh0]
      exact whole_start l hflags hbd ⟨B.exec, B.bytes, B.returns, hml, hown, hts, hX, hbl, B.notSynchronized, hgv⟩
    obtain ⟨t, a1, o, b1, b2, b3⟩ := K s₁ rfl X₀
    exact ⟨t, o, a1, b1, b2, b3⟩
theorem lw_pre_spec {args : Array Value} {s : State} (h : (Jvm.Cond.and given_1 narrow_1).before args s = true) (hr : rest_1_c.before args s = true) : ∃ (b : Addr) (xs : List Int32), lw_P b xs args s := by
  have hs := flat_of_before _ h
  have hq := flat_of_before _ hr
  have hc : (Cond.count 1).before args s = true := hs _ (by decide +kernel)
  have harr : (Cond.arrayOf (.arg 0) .int).before args s = true := hs _ (by decide +kernel)
  have hle : (Cond.le (.length (.arg 0)) (.int 3072)).before args s = true := hs _ (by decide +kernel)
  have hlen : (Cond.isInt (.length (.arg 0))).before args s = true := hq _ (by decide +kernel)
  have hall : (Cond.all (.arg 0) (.isInt (.elem (.arg 0) (.index 0)))).before args s = true := hq _ (by decide +kernel)
  obtain ⟨b, xs, hb, hx⟩ := State.ints_of_pre rfl harr hlen hall
  have hsm : xs.length < 2 ^ 31 := hx.choose_spec.2.2.2
  have hev : (Term.length (.arg 0)).eval args s none [] s = some (.int xs.length.toInt32) := hx.length_eval hb
  have hv := Cond.le_ints hev (show (Term.int 3072).eval args s none [] s = some (.int 3072) from rfl)
  have hd : xs.length.toInt32 ≤ 3072 := by
    simpa [Cond.before, Cond.holds, hv] using hle
  have hN : xs.length ≤ 3072 := (Int32.ofNat_le_ofNat hsm (by decide)).mp (show Int32.ofNat xs.length ≤ Int32.ofNat 3072 from hd)
  exact ⟨b, xs, Cond.one_arg hc (show args[0]? = some (.ref b) from hb), hx, hN, h⟩
theorem lw_comes (l : Launch) (hflags : l.flags = flags0) : Comes l x (Jvm.Cond.code x code maxLocals ret :: tables_1) room_1 (fun tb e args s => Calls_1 tb e args s ∧ rest_1 tb e args s ∧ Pre_1 tb e args s)
    (fun _ _ args s o t => lw_Q args s o t) := by
  intro p e ha hc hk s m args below hf hfit hheap happ hpre
  obtain ⟨b, xs, hP⟩ := lw_pre_spec hpre.2.2 hpre.2.1
  obtain ⟨k, o, h1, h2, h3, hQ⟩ := lw_walk l hflags b xs p e ha hc hk s m args below hf ((Spec.applies_iff_loose hf).mp happ).1 hP trivial
  exact ⟨k, o, h1, h2, h3, hQ⟩
theorem lw_frame {s t : State} {o : Outcome} {args : Array Value} (h : Framed s o t [] 601024 7293034) :
    Framed s o t (fieldLocs frame_1_writes args s ++ arrayLocs frame_1_arrays args s ++ staticLocs frame_1_statics s) 601024 7293034 := h
theorem lw_limb (L : Cond) (hL : ∀ (args : Array Value) (s t : State), L.after args s (.returned (some (.int 1))) t = true) :
    ArmFor flags0 classFile x code maxLocals ret World_1 tables_1 room_1 Calls_1 rest_1 Pre_1
      (fun tb e a s o t => postC L tb e a s o t ∧ Framed s o t (fieldLocs frame_1_writes a s ++ arrayLocs frame_1_arrays a s ++ staticLocs frame_1_statics s) 601024 7293034) := by
  intro l hflags _ _ p e ha hc hk s m args below hf hfit hheap happ hpre
  obtain ⟨k, o, h1, h2, h3, rfl, hF⟩ := lw_comes l hflags p e ha hc hk s m args below hf hfit hheap happ hpre
  exact ⟨k, _, h1, h2, h3, hL args s _, lw_frame hF⟩
theorem i_vc : Claimed_1_1 ∧ Claimed_1_2 := ⟨lw_limb limb_1_1 (fun args s t => by simp [limb_1_1, Cond.after, Cond.holds, Cond.value]), lw_limb limb_1_2 (fun args s t => Cond.after_iff.mpr (by
  first | (rw [show limb_1_2 = Cond.eq .result (.int 1) from rfl, Cond.eq_ints (x := 1) (y := 1) rfl rfl]; simp; done) | (simp [limb_1_2, Cond.value, Term.eval]; done)))⟩

