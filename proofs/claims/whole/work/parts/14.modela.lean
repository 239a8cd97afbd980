theorem dX11_reads_0 : decode cX11_reads 0 = .ok (.aload_n 0, 1) := by decide +kernel
theorem dX11_reads_1 : decode cX11_reads 1 = .ok (.getfield 13, 3) := by decide +kernel
theorem dX11_reads_4 : decode cX11_reads 4 = .ok (.iconst 4, 1) := by decide +kernel
theorem dX11_reads_5 : decode cX11_reads 5 = .ok (.iload_n 1, 1) := by decide +kernel
theorem dX11_reads_6 : decode cX11_reads 6 = .ok (.iadd, 1) := by decide +kernel
theorem dX11_reads_7 : decode cX11_reads 7 = .ok (.iload_n 2, 1) := by decide +kernel
theorem dX11_reads_8 : decode cX11_reads 8 = .ok (.iastore, 1) := by decide +kernel
theorem dX11_reads_9 : decode cX11_reads 9 = .ok (.return_, 1) := by decide +kernel
/-- QuotientSumsModel.reads(II)V -/
def wX11_reads (thrown : Int32) (taped : Int32) (lines : Int32) (size : Int32) (atF : Int32) (place : Int32) (sort : Int32) (value : Int32) (fault : Int32) (faultPlace : Int32) (lastFault : Int32) (lastPlace : Int32) (undoable : Int32) (hasImage : Int32) (rowOf : Int32) (areSums : Int32) (isSieved : Int32) (blocks : Int32) (drawn : Int32) (number : Nat → Int32) (a1 : Int32) (a2 : Int32) (Q : (Nat → Int32) → Prop) : Prop :=
  (vp_in (4 + a1) 8 ∧ ∀ number_1 : Nat → Int32, number_1 = upd number (4 + a1).toNatClampNeg a2 → (Q number_1))
set_option maxHeartbeats 4000000 in
set_option maxRecDepth 100000 in
theorem mX11_reads (l : Launch) (D : va_G) (Y : Nat → ClassId) (h0 : Nat) (thrown : Int32) (v_tape : Value) (taped : Int32) (q_number : Nat) (v_isTold : Value) (v_name : Value) (v_sortOf : Value) (v_first : Value) (v_second : Value) (v_degree : Value) (v_colours : Value) (v_signBy : Value) (v_own : Value) (lines : Int32) (size : Int32) (atF : Int32) (place : Int32) (sort : Int32) (value : Int32) (fault : Int32) (faultPlace : Int32) (lastFault : Int32) (lastPlace : Int32) (v_sF : Value) (v_kept : Value) (undoable : Int32) (hasImage : Int32) (v_power : Value) (v_table : Value) (v_marks : Value) (v_row : Value) (rowOf : Int32) (areSums : Int32) (isSieved : Int32) (v_lastOf : Value) (blocks : Int32) (v_inBlock : Value) (v_atQuotient : Value) (v_small : Value) (drawn : Int32) (number : Nat → Int32) (a1 : Int32) (a2 : Int32) (Q : (Nat → Int32) → Prop) (h : wX11_reads thrown taped lines size atF place sort value fault faultPlace lastFault lastPlace undoable hasImage rowOf areSums isSieved blocks drawn number a1 a2 Q) : gM l D Y yX11_reads cX11_reads 3 none 0 0 0 0 [.ref h0, .int a1, .int a2] [oX11 h0 thrown (v_tape) taped (.ref q_number) (v_isTold) (v_name) (v_sortOf) (v_first) (v_second) (v_degree) (v_colours) (v_signBy) (v_own) lines size atF place sort value fault faultPlace lastFault lastPlace (v_sF) (v_kept) undoable hasImage (v_power) (v_table) (v_marks) (v_row) rowOf areSums isSieved (v_lastOf) blocks (v_inBlock) (v_atQuotient) (v_small) drawn, aI Y q_number 8 number] (fun v w => ∃ number' : Nat → Int32, v = none ∧ w = [oX11 h0 thrown (v_tape) taped (.ref q_number) (v_isTold) (v_name) (v_sortOf) (v_first) (v_second) (v_degree) (v_colours) (v_signBy) (v_own) lines size atF place sort value fault faultPlace lastFault lastPlace (v_sF) (v_kept) undoable hasImage (v_power) (v_table) (v_marks) (v_row) rowOf areSums isSieved (v_lastOf) blocks (v_inBlock) (v_atQuotient) (v_small) drawn, aI Y q_number 8 number'] ∧ Q number') := by
  refine gM_of (own := RX11) (by decide +kernel) rfl (Nat.le_of_ble_eq_true rfl) rfl (fun E C hR => ?_)
  unfold wX11_reads at h
  refine g_aload_n C dX11_reads_0 0 rfl ?_
  refine g_get C inX11 0 rfl rfl 3 (by decide) wF_X11_13 rfl dX11_reads_1 ?_
  refine g_iconst (v := 4) C dX11_reads_4 rfl ?_
  refine g_iload_n C dX11_reads_5 1 rfl ?_
  refine g_iadd C dX11_reads_6 ?_
  refine g_iload_n C dX11_reads_7 2 rfl ?_
  obtain ⟨hc_1, h⟩ := h
  refine g_iast C 1 rfl hc_1 dX11_reads_8 (fun number_1 enumber_1 => gG.eqw (ws' := [oX11 h0 thrown (v_tape) taped (.ref q_number) (v_isTold) (v_name) (v_sortOf) (v_first) (v_second) (v_degree) (v_colours) (v_signBy) (v_own) lines size atF place sort value fault faultPlace lastFault lastPlace (v_sF) (v_kept) undoable hasImage (v_power) (v_table) (v_marks) (v_row) rowOf areSums isSieved (v_lastOf) blocks (v_inBlock) (v_atQuotient) (v_small) drawn, aI Y q_number 8 number_1]) rfl ?_)
  replace h := h number_1 enumber_1
  exact g_vret C hR (Nat.le_of_ble_eq_true rfl) (Nat.le_of_ble_eq_true rfl) dX11_reads_9 ⟨number_1, rfl, rfl, h⟩
theorem dX11_reading_0 : decode cX11_reading 0 = .ok (.aload_n 0, 1) := by decide +kernel
theorem dX11_reading_1 : decode cX11_reading 1 = .ok (.getfield 13, 3) := by decide +kernel
theorem dX11_reading_4 : decode cX11_reading 4 = .ok (.iconst 4, 1) := by decide +kernel
theorem dX11_reading_5 : decode cX11_reading 5 = .ok (.iload_n 1, 1) := by decide +kernel
theorem dX11_reading_6 : decode cX11_reading 6 = .ok (.iadd, 1) := by decide +kernel
theorem dX11_reading_7 : decode cX11_reading 7 = .ok (.iaload, 1) := by decide +kernel
theorem dX11_reading_8 : decode cX11_reading 8 = .ok (.ireturn, 1) := by decide +kernel
/-- QuotientSumsModel.reading(I)I -/
def wX11_reading (thrown : Int32) (taped : Int32) (lines : Int32) (size : Int32) (atF : Int32) (place : Int32) (sort : Int32) (value : Int32) (fault : Int32) (faultPlace : Int32) (lastFault : Int32) (lastPlace : Int32) (undoable : Int32) (hasImage : Int32) (rowOf : Int32) (areSums : Int32) (isSieved : Int32) (blocks : Int32) (drawn : Int32) (number : Nat → Int32) (a1 : Int32) (Q : (Int32) → Prop) : Prop :=
  (vp_in (4 + a1) 8 ∧ (Q (number (4 + a1).toNatClampNeg)))
set_option maxHeartbeats 4000000 in
set_option maxRecDepth 100000 in
theorem mX11_reading (l : Launch) (D : va_G) (Y : Nat → ClassId) (h0 : Nat) (thrown : Int32) (v_tape : Value) (taped : Int32) (q_number : Nat) (v_isTold : Value) (v_name : Value) (v_sortOf : Value) (v_first : Value) (v_second : Value) (v_degree : Value) (v_colours : Value) (v_signBy : Value) (v_own : Value) (lines : Int32) (size : Int32) (atF : Int32) (place : Int32) (sort : Int32) (value : Int32) (fault : Int32) (faultPlace : Int32) (lastFault : Int32) (lastPlace : Int32) (v_sF : Value) (v_kept : Value) (undoable : Int32) (hasImage : Int32) (v_power : Value) (v_table : Value) (v_marks : Value) (v_row : Value) (rowOf : Int32) (areSums : Int32) (isSieved : Int32) (v_lastOf : Value) (blocks : Int32) (v_inBlock : Value) (v_atQuotient : Value) (v_small : Value) (drawn : Int32) (number : Nat → Int32) (a1 : Int32) (Q : (Int32) → Prop) (h : wX11_reading thrown taped lines size atF place sort value fault faultPlace lastFault lastPlace undoable hasImage rowOf areSums isSieved blocks drawn number a1 Q) : gM l D Y yX11_reading cX11_reading 2 (some .int) 0 0 0 0 [.ref h0, .int a1] [oX11 h0 thrown (v_tape) taped (.ref q_number) (v_isTold) (v_name) (v_sortOf) (v_first) (v_second) (v_degree) (v_colours) (v_signBy) (v_own) lines size atF place sort value fault faultPlace lastFault lastPlace (v_sF) (v_kept) undoable hasImage (v_power) (v_table) (v_marks) (v_row) rowOf areSums isSieved (v_lastOf) blocks (v_inBlock) (v_atQuotient) (v_small) drawn, aI Y q_number 8 number] (fun v w => ∃ r : Int32, v = some (.int r) ∧ w = [oX11 h0 thrown (v_tape) taped (.ref q_number) (v_isTold) (v_name) (v_sortOf) (v_first) (v_second) (v_degree) (v_colours) (v_signBy) (v_own) lines size atF place sort value fault faultPlace lastFault lastPlace (v_sF) (v_kept) undoable hasImage (v_power) (v_table) (v_marks) (v_row) rowOf areSums isSieved (v_lastOf) blocks (v_inBlock) (v_atQuotient) (v_small) drawn, aI Y q_number 8 number] ∧ Q r) := by
  refine gM_of (own := RX11) (by decide +kernel) rfl (Nat.le_of_ble_eq_true rfl) rfl (fun E C hR => ?_)
  unfold wX11_reading at h
  refine g_aload_n C dX11_reading_0 0 rfl ?_
  refine g_get C inX11 0 rfl rfl 3 (by decide) wF_X11_13 rfl dX11_reading_1 ?_
  refine g_iconst (v := 4) C dX11_reading_4 rfl ?_
  refine g_iload_n C dX11_reading_5 1 rfl ?_
  refine g_iadd C dX11_reading_6 ?_
  obtain ⟨hc_1, h⟩ := h
  refine g_iald C 1 rfl hc_1 dX11_reading_7 ?_
  exact g_iret C hR (Nat.le_of_ble_eq_true rfl) (Nat.le_of_ble_eq_true rfl) dX11_reading_8 ⟨number (4 + a1).toNatClampNeg, rfl, rfl, h⟩
theorem dX11_takeText_0 : decode cX11_takeText 0 = .ok (.iconst 0, 1) := by decide +kernel
theorem dX11_takeText_1 : decode cX11_takeText 1 = .ok (.istore_n 1, 1) := by decide +kernel
theorem dX11_takeText_2 : decode cX11_takeText 2 = .ok (.iload_n 1, 1) := by decide +kernel
theorem dX11_takeText_3 : decode cX11_takeText 3 = .ok (.iconst 4, 1) := by decide +kernel
theorem dX11_takeText_4 : decode cX11_takeText 4 = .ok (.if_icmp .ge 20, 3) := by decide +kernel
theorem dX11_takeText_7 : decode cX11_takeText 7 = .ok (.aload_n 0, 1) := by decide +kernel
theorem dX11_takeText_8 : decode cX11_takeText 8 = .ok (.getfield 13, 3) := by decide +kernel
theorem dX11_takeText_11 : decode cX11_takeText 11 = .ok (.iload_n 1, 1) := by decide +kernel
theorem dX11_takeText_12 : decode cX11_takeText 12 = .ok (.aload_n 0, 1) := by decide +kernel
theorem dX11_takeText_13 : decode cX11_takeText 13 = .ok (.iload_n 1, 1) := by decide +kernel
theorem dX11_takeText_14 : decode cX11_takeText 14 = .ok (.invokevirtual 166, 3) := by decide +kernel
theorem dX11_takeText_17 : decode cX11_takeText 17 = .ok (.iastore, 1) := by decide +kernel
theorem dX11_takeText_18 : decode cX11_takeText 18 = .ok (.iinc 1 1, 3) := by decide +kernel
theorem dX11_takeText_21 : decode cX11_takeText 21 = .ok (.goto (-19), 3) := by decide +kernel
theorem dX11_takeText_24 : decode cX11_takeText 24 = .ok (.iconst 0, 1) := by decide +kernel
theorem dX11_takeText_25 : decode cX11_takeText 25 = .ok (.istore_n 1, 1) := by decide +kernel
theorem dX11_takeText_26 : decode cX11_takeText 26 = .ok (.iload_n 1, 1) := by decide +kernel
theorem dX11_takeText_27 : decode cX11_takeText 27 = .ok (.bipush 12, 2) := by decide +kernel
theorem dX11_takeText_29 : decode cX11_takeText 29 = .ok (.if_icmp .ge 114, 3) := by decide +kernel
theorem dX11_takeText_32 : decode cX11_takeText 32 = .ok (.aload_n 0, 1) := by decide +kernel
theorem dX11_takeText_33 : decode cX11_takeText 33 = .ok (.getfield 20, 3) := by decide +kernel
theorem dX11_takeText_36 : decode cX11_takeText 36 = .ok (.iload_n 1, 1) := by decide +kernel
theorem dX11_takeText_37 : decode cX11_takeText 37 = .ok (.aload_n 0, 1) := by decide +kernel
theorem dX11_takeText_38 : decode cX11_takeText 38 = .ok (.getfield 20, 3) := by decide +kernel
theorem dX11_takeText_41 : decode cX11_takeText 41 = .ok (.bipush 12, 2) := by decide +kernel
theorem dX11_takeText_43 : decode cX11_takeText 43 = .ok (.iload_n 1, 1) := by decide +kernel
theorem dX11_takeText_44 : decode cX11_takeText 44 = .ok (.iadd, 1) := by decide +kernel
theorem dX11_takeText_45 : decode cX11_takeText 45 = .ok (.iaload, 1) := by decide +kernel
theorem dX11_takeText_46 : decode cX11_takeText 46 = .ok (.iastore, 1) := by decide +kernel
theorem dX11_takeText_47 : decode cX11_takeText 47 = .ok (.aload_n 0, 1) := by decide +kernel
theorem dX11_takeText_48 : decode cX11_takeText 48 = .ok (.getfield 23, 3) := by decide +kernel
theorem dX11_takeText_51 : decode cX11_takeText 51 = .ok (.iload_n 1, 1) := by decide +kernel
theorem dX11_takeText_52 : decode cX11_takeText 52 = .ok (.aload_n 0, 1) := by decide +kernel
theorem dX11_takeText_53 : decode cX11_takeText 53 = .ok (.getfield 23, 3) := by decide +kernel
theorem dX11_takeText_56 : decode cX11_takeText 56 = .ok (.bipush 12, 2) := by decide +kernel
theorem dX11_takeText_58 : decode cX11_takeText 58 = .ok (.iload_n 1, 1) := by decide +kernel
theorem dX11_takeText_59 : decode cX11_takeText 59 = .ok (.iadd, 1) := by decide +kernel
theorem dX11_takeText_60 : decode cX11_takeText 60 = .ok (.iaload, 1) := by decide +kernel
theorem dX11_takeText_61 : decode cX11_takeText 61 = .ok (.iastore, 1) := by decide +kernel
theorem dX11_takeText_62 : decode cX11_takeText 62 = .ok (.aload_n 0, 1) := by decide +kernel
theorem dX11_takeText_63 : decode cX11_takeText 63 = .ok (.getfield 26, 3) := by decide +kernel
theorem dX11_takeText_66 : decode cX11_takeText 66 = .ok (.iload_n 1, 1) := by decide +kernel
theorem dX11_takeText_67 : decode cX11_takeText 67 = .ok (.aload_n 0, 1) := by decide +kernel
theorem dX11_takeText_68 : decode cX11_takeText 68 = .ok (.getfield 26, 3) := by decide +kernel
theorem dX11_takeText_71 : decode cX11_takeText 71 = .ok (.bipush 12, 2) := by decide +kernel
theorem dX11_takeText_73 : decode cX11_takeText 73 = .ok (.iload_n 1, 1) := by decide +kernel
theorem dX11_takeText_74 : decode cX11_takeText 74 = .ok (.iadd, 1) := by decide +kernel
theorem dX11_takeText_75 : decode cX11_takeText 75 = .ok (.iaload, 1) := by decide +kernel
theorem dX11_takeText_76 : decode cX11_takeText 76 = .ok (.iastore, 1) := by decide +kernel
theorem dX11_takeText_77 : decode cX11_takeText 77 = .ok (.aload_n 0, 1) := by decide +kernel
theorem dX11_takeText_78 : decode cX11_takeText 78 = .ok (.getfield 29, 3) := by decide +kernel
theorem dX11_takeText_81 : decode cX11_takeText 81 = .ok (.iload_n 1, 1) := by decide +kernel
theorem dX11_takeText_82 : decode cX11_takeText 82 = .ok (.aload_n 0, 1) := by decide +kernel
theorem dX11_takeText_83 : decode cX11_takeText 83 = .ok (.getfield 29, 3) := by decide +kernel
theorem dX11_takeText_86 : decode cX11_takeText 86 = .ok (.bipush 12, 2) := by decide +kernel
theorem dX11_takeText_88 : decode cX11_takeText 88 = .ok (.iload_n 1, 1) := by decide +kernel
theorem dX11_takeText_89 : decode cX11_takeText 89 = .ok (.iadd, 1) := by decide +kernel
theorem dX11_takeText_90 : decode cX11_takeText 90 = .ok (.iaload, 1) := by decide +kernel
theorem dX11_takeText_91 : decode cX11_takeText 91 = .ok (.iastore, 1) := by decide +kernel
theorem dX11_takeText_92 : decode cX11_takeText 92 = .ok (.aload_n 0, 1) := by decide +kernel
theorem dX11_takeText_93 : decode cX11_takeText 93 = .ok (.getfield 32, 3) := by decide +kernel
theorem dX11_takeText_96 : decode cX11_takeText 96 = .ok (.iload_n 1, 1) := by decide +kernel
theorem dX11_takeText_97 : decode cX11_takeText 97 = .ok (.aload_n 0, 1) := by decide +kernel
theorem dX11_takeText_98 : decode cX11_takeText 98 = .ok (.getfield 32, 3) := by decide +kernel
theorem dX11_takeText_101 : decode cX11_takeText 101 = .ok (.bipush 12, 2) := by decide +kernel
theorem dX11_takeText_103 : decode cX11_takeText 103 = .ok (.iload_n 1, 1) := by decide +kernel
theorem dX11_takeText_104 : decode cX11_takeText 104 = .ok (.iadd, 1) := by decide +kernel
theorem dX11_takeText_105 : decode cX11_takeText 105 = .ok (.iaload, 1) := by decide +kernel
theorem dX11_takeText_106 : decode cX11_takeText 106 = .ok (.iastore, 1) := by decide +kernel
theorem dX11_takeText_107 : decode cX11_takeText 107 = .ok (.aload_n 0, 1) := by decide +kernel
theorem dX11_takeText_108 : decode cX11_takeText 108 = .ok (.getfield 35, 3) := by decide +kernel
theorem dX11_takeText_111 : decode cX11_takeText 111 = .ok (.iload_n 1, 1) := by decide +kernel
theorem dX11_takeText_112 : decode cX11_takeText 112 = .ok (.aload_n 0, 1) := by decide +kernel
theorem dX11_takeText_113 : decode cX11_takeText 113 = .ok (.getfield 35, 3) := by decide +kernel
theorem dX11_takeText_116 : decode cX11_takeText 116 = .ok (.bipush 12, 2) := by decide +kernel
theorem dX11_takeText_118 : decode cX11_takeText 118 = .ok (.iload_n 1, 1) := by decide +kernel
theorem dX11_takeText_119 : decode cX11_takeText 119 = .ok (.iadd, 1) := by decide +kernel
theorem dX11_takeText_120 : decode cX11_takeText 120 = .ok (.iaload, 1) := by decide +kernel
theorem dX11_takeText_121 : decode cX11_takeText 121 = .ok (.iastore, 1) := by decide +kernel
theorem dX11_takeText_122 : decode cX11_takeText 122 = .ok (.aload_n 0, 1) := by decide +kernel
theorem dX11_takeText_123 : decode cX11_takeText 123 = .ok (.getfield 38, 3) := by decide +kernel
theorem dX11_takeText_126 : decode cX11_takeText 126 = .ok (.iload_n 1, 1) := by decide +kernel
theorem dX11_takeText_127 : decode cX11_takeText 127 = .ok (.aload_n 0, 1) := by decide +kernel
theorem dX11_takeText_128 : decode cX11_takeText 128 = .ok (.getfield 38, 3) := by decide +kernel
theorem dX11_takeText_131 : decode cX11_takeText 131 = .ok (.bipush 12, 2) := by decide +kernel
theorem dX11_takeText_133 : decode cX11_takeText 133 = .ok (.iload_n 1, 1) := by decide +kernel
theorem dX11_takeText_134 : decode cX11_takeText 134 = .ok (.iadd, 1) := by decide +kernel
theorem dX11_takeText_135 : decode cX11_takeText 135 = .ok (.iaload, 1) := by decide +kernel
theorem dX11_takeText_136 : decode cX11_takeText 136 = .ok (.iastore, 1) := by decide +kernel
theorem dX11_takeText_137 : decode cX11_takeText 137 = .ok (.iinc 1 1, 3) := by decide +kernel
theorem dX11_takeText_140 : decode cX11_takeText 140 = .ok (.goto (-114), 3) := by decide +kernel
theorem dX11_takeText_143 : decode cX11_takeText 143 = .ok (.iconst 0, 1) := by decide +kernel
theorem dX11_takeText_144 : decode cX11_takeText 144 = .ok (.istore_n 1, 1) := by decide +kernel
theorem dX11_takeText_145 : decode cX11_takeText 145 = .ok (.iload_n 1, 1) := by decide +kernel
theorem dX11_takeText_146 : decode cX11_takeText 146 = .ok (.sipush 144, 3) := by decide +kernel
theorem dX11_takeText_149 : decode cX11_takeText 149 = .ok (.if_icmp .ge 25, 3) := by decide +kernel
theorem dX11_takeText_152 : decode cX11_takeText 152 = .ok (.aload_n 0, 1) := by decide +kernel
theorem dX11_takeText_153 : decode cX11_takeText 153 = .ok (.getfield 41, 3) := by decide +kernel
theorem dX11_takeText_156 : decode cX11_takeText 156 = .ok (.iload_n 1, 1) := by decide +kernel
theorem dX11_takeText_157 : decode cX11_takeText 157 = .ok (.aload_n 0, 1) := by decide +kernel
theorem dX11_takeText_158 : decode cX11_takeText 158 = .ok (.getfield 41, 3) := by decide +kernel
theorem dX11_takeText_161 : decode cX11_takeText 161 = .ok (.sipush 144, 3) := by decide +kernel
theorem dX11_takeText_164 : decode cX11_takeText 164 = .ok (.iload_n 1, 1) := by decide +kernel
theorem dX11_takeText_165 : decode cX11_takeText 165 = .ok (.iadd, 1) := by decide +kernel
theorem dX11_takeText_166 : decode cX11_takeText 166 = .ok (.iaload, 1) := by decide +kernel
theorem dX11_takeText_167 : decode cX11_takeText 167 = .ok (.iastore, 1) := by decide +kernel
theorem dX11_takeText_168 : decode cX11_takeText 168 = .ok (.iinc 1 1, 3) := by decide +kernel
theorem dX11_takeText_171 : decode cX11_takeText 171 = .ok (.goto (-26), 3) := by decide +kernel
theorem dX11_takeText_174 : decode cX11_takeText 174 = .ok (.return_, 1) := by decide +kernel
/-- QuotientSumsModel.takeText()V -/
def wX11_takeText (thrown : Int32) (taped : Int32) (lines : Int32) (size : Int32) (atF : Int32) (place : Int32) (sort : Int32) (value : Int32) (fault : Int32) (faultPlace : Int32) (lastFault : Int32) (lastPlace : Int32) (undoable : Int32) (hasImage : Int32) (rowOf : Int32) (areSums : Int32) (isSieved : Int32) (blocks : Int32) (drawn : Int32) (number : Nat → Int32) (name : Nat → Int32) (sortOf : Nat → Int32) (first : Nat → Int32) (second : Nat → Int32) (degree : Nat → Int32) (colours : Nat → Int32) (signBy : Nat → Int32) (own : Nat → Int32)  (Q : (Nat → Int32) → (Nat → Int32) → (Nat → Int32) → (Nat → Int32) → (Nat → Int32) → (Nat → Int32) → (Nat → Int32) → (Nat → Int32) → (Nat → Int32) → Prop) : Prop :=
  (∃ (Inv_1 : (Nat → Int32) → (Int32) → Prop) (Mea_1 : (Nat → Int32) → (Int32) → Nat), Inv_1 number 0 ∧ ∀ (number_1 : Nat → Int32) (x1_1 : Int32), Inv_1 number_1 x1_1 → ((4 ≤ x1_1 → (∃ (Inv_2 : (Nat → Int32) → (Nat → Int32) → (Nat → Int32) → (Nat → Int32) → (Nat → Int32) → (Nat → Int32) → (Nat → Int32) → (Int32) → Prop) (Mea_2 : (Nat → Int32) → (Nat → Int32) → (Nat → Int32) → (Nat → Int32) → (Nat → Int32) → (Nat → Int32) → (Nat → Int32) → (Int32) → Nat), Inv_2 colours degree first name second signBy sortOf 0 ∧ ∀ (colours_1 : Nat → Int32) (degree_1 : Nat → Int32) (first_1 : Nat → Int32) (name_1 : Nat → Int32) (second_1 : Nat → Int32) (signBy_1 : Nat → Int32) (sortOf_1 : Nat → Int32) (x1_2 : Int32), Inv_2 colours_1 degree_1 first_1 name_1 second_1 signBy_1 sortOf_1 x1_2 → ((12 ≤ x1_2 → (∃ (Inv_3 : (Nat → Int32) → (Int32) → Prop) (Mea_3 : (Nat → Int32) → (Int32) → Nat), Inv_3 own 0 ∧ ∀ (own_1 : Nat → Int32) (x1_3 : Int32), Inv_3 own_1 x1_3 → ((144 ≤ x1_3 → (Q number_1 name_1 sortOf_1 first_1 second_1 degree_1 colours_1 signBy_1 own_1)) ∧ (¬ 144 ≤ x1_3 → (vp_in (144 + x1_3) 288 ∧ ∀ e_1 : Int32, e_1 = own_1 (144 + x1_3).toNatClampNeg → vp_in x1_3 288 ∧ ∀ own_2 : Nat → Int32, own_2 = upd own_1 x1_3.toNatClampNeg e_1 → (Inv_3 own_2 (x1_3 + 1) ∧ Mea_3 own_2 (x1_3 + 1) < Mea_3 own_1 x1_3)))))) ∧ (¬ 12 ≤ x1_2 → (vp_in (12 + x1_2) 24 ∧ ∀ e_2 : Int32, e_2 = name_1 (12 + x1_2).toNatClampNeg → vp_in x1_2 24 ∧ ∀ name_2 : Nat → Int32, name_2 = upd name_1 x1_2.toNatClampNeg e_2 → ∀ e_3 : Int32, e_3 = sortOf_1 (12 + x1_2).toNatClampNeg → ∀ sortOf_2 : Nat → Int32, sortOf_2 = upd sortOf_1 x1_2.toNatClampNeg e_3 → ∀ e_4 : Int32, e_4 = first_1 (12 + x1_2).toNatClampNeg → ∀ first_2 : Nat → Int32, first_2 = upd first_1 x1_2.toNatClampNeg e_4 → ∀ e_5 : Int32, e_5 = second_1 (12 + x1_2).toNatClampNeg → ∀ second_2 : Nat → Int32, second_2 = upd second_1 x1_2.toNatClampNeg e_5 → ∀ e_6 : Int32, e_6 = degree_1 (12 + x1_2).toNatClampNeg → ∀ degree_2 : Nat → Int32, degree_2 = upd degree_1 x1_2.toNatClampNeg e_6 → ∀ e_7 : Int32, e_7 = colours_1 (12 + x1_2).toNatClampNeg → ∀ colours_2 : Nat → Int32, colours_2 = upd colours_1 x1_2.toNatClampNeg e_7 → ∀ e_8 : Int32, e_8 = signBy_1 (12 + x1_2).toNatClampNeg → ∀ signBy_2 : Nat → Int32, signBy_2 = upd signBy_1 x1_2.toNatClampNeg e_8 → (Inv_2 colours_2 degree_2 first_2 name_2 second_2 signBy_2 sortOf_2 (x1_2 + 1) ∧ Mea_2 colours_2 degree_2 first_2 name_2 second_2 signBy_2 sortOf_2 (x1_2 + 1) < Mea_2 colours_1 degree_1 first_1 name_1 second_1 signBy_1 sortOf_1 x1_2)))))) ∧ (¬ 4 ≤ x1_1 → (∃ (P_1 : (Int32) → Prop), wX11_reading thrown taped lines size atF place sort value fault faultPlace lastFault lastPlace undoable hasImage rowOf areSums isSieved blocks drawn number_1 x1_1 P_1 ∧ ∀ (rF_1 : Int32), P_1 rF_1 → vp_in x1_1 8 ∧ ∀ number_2 : Nat → Int32, number_2 = upd number_1 x1_1.toNatClampNeg rF_1 → (Inv_1 number_2 (x1_1 + 1) ∧ Mea_1 number_2 (x1_1 + 1) < Mea_1 number_1 x1_1)))))
set_option maxHeartbeats 4000000 in
set_option maxRecDepth 100000 in
theorem mX11_takeText (l : Launch) (D : va_G) (Y : Nat → ClassId) (h0 : Nat) (thrown : Int32) (v_tape : Value) (taped : Int32) (q_number : Nat) (v_isTold : Value) (q_name : Nat) (q_sortOf : Nat) (q_first : Nat) (q_second : Nat) (q_degree : Nat) (q_colours : Nat) (q_signBy : Nat) (q_own : Nat) (lines : Int32) (size : Int32) (atF : Int32) (place : Int32) (sort : Int32) (value : Int32) (fault : Int32) (faultPlace : Int32) (lastFault : Int32) (lastPlace : Int32) (v_sF : Value) (v_kept : Value) (undoable : Int32) (hasImage : Int32) (v_power : Value) (v_table : Value) (v_marks : Value) (v_row : Value) (rowOf : Int32) (areSums : Int32) (isSieved : Int32) (v_lastOf : Value) (blocks : Int32) (v_inBlock : Value) (v_atQuotient : Value) (v_small : Value) (drawn : Int32) (number : Nat → Int32) (name : Nat → Int32) (sortOf : Nat → Int32) (first : Nat → Int32) (second : Nat → Int32) (degree : Nat → Int32) (colours : Nat → Int32) (signBy : Nat → Int32) (own : Nat → Int32)  (Q : (Nat → Int32) → (Nat → Int32) → (Nat → Int32) → (Nat → Int32) → (Nat → Int32) → (Nat → Int32) → (Nat → Int32) → (Nat → Int32) → (Nat → Int32) → Prop) (h : wX11_takeText thrown taped lines size atF place sort value fault faultPlace lastFault lastPlace undoable hasImage rowOf areSums isSieved blocks drawn number name sortOf first second degree colours signBy own Q) : gM l D Y yX11_takeText cX11_takeText 2 none 1 21 0 0 [.ref h0] [oX11 h0 thrown (v_tape) taped (.ref q_number) (v_isTold) (.ref q_name) (.ref q_sortOf) (.ref q_first) (.ref q_second) (.ref q_degree) (.ref q_colours) (.ref q_signBy) (.ref q_own) lines size atF place sort value fault faultPlace lastFault lastPlace (v_sF) (v_kept) undoable hasImage (v_power) (v_table) (v_marks) (v_row) rowOf areSums isSieved (v_lastOf) blocks (v_inBlock) (v_atQuotient) (v_small) drawn, aI Y q_number 8 number, aI Y q_name 24 name, aI Y q_sortOf 24 sortOf, aI Y q_first 24 first, aI Y q_second 24 second, aI Y q_degree 24 degree, aI Y q_colours 24 colours, aI Y q_signBy 24 signBy, aI Y q_own 288 own] (fun v w => ∃ number' : Nat → Int32, ∃ name' : Nat → Int32, ∃ sortOf' : Nat → Int32, ∃ first' : Nat → Int32, ∃ second' : Nat → Int32, ∃ degree' : Nat → Int32, ∃ colours' : Nat → Int32, ∃ signBy' : Nat → Int32, ∃ own' : Nat → Int32, v = none ∧ w = [oX11 h0 thrown (v_tape) taped (.ref q_number) (v_isTold) (.ref q_name) (.ref q_sortOf) (.ref q_first) (.ref q_second) (.ref q_degree) (.ref q_colours) (.ref q_signBy) (.ref q_own) lines size atF place sort value fault faultPlace lastFault lastPlace (v_sF) (v_kept) undoable hasImage (v_power) (v_table) (v_marks) (v_row) rowOf areSums isSieved (v_lastOf) blocks (v_inBlock) (v_atQuotient) (v_small) drawn, aI Y q_number 8 number', aI Y q_name 24 name', aI Y q_sortOf 24 sortOf', aI Y q_first 24 first', aI Y q_second 24 second', aI Y q_degree 24 degree', aI Y q_colours 24 colours', aI Y q_signBy 24 signBy', aI Y q_own 288 own'] ∧ Q number' name' sortOf' first' second' degree' colours' signBy' own') := by
  refine gM_of (own := RX11) (by decide +kernel) rfl (Nat.le_of_ble_eq_true rfl) rfl (fun E C hR => ?_)
  unfold wX11_takeText at h
  refine g_iconst (v := 0) C dX11_takeText_0 rfl ?_
  refine g_istore_n (lv' := [(1, .int 0), (0, .ref h0)]) C dX11_takeText_1 (by decide) rfl ?_
  obtain ⟨Inv_1, Mea_1, hI1, hB1⟩ := h
  have key_1 : ∀ (n : Nat) (number_1 : Nat → Int32) (x1_1 : Int32) , Mea_1 number_1 x1_1 < n → Inv_1 number_1 x1_1 → gG E 0 0 [oX11 h0 thrown (v_tape) taped (.ref q_number) (v_isTold) (.ref q_name) (.ref q_sortOf) (.ref q_first) (.ref q_second) (.ref q_degree) (.ref q_colours) (.ref q_signBy) (.ref q_own) lines size atF place sort value fault faultPlace lastFault lastPlace (v_sF) (v_kept) undoable hasImage (v_power) (v_table) (v_marks) (v_row) rowOf areSums isSieved (v_lastOf) blocks (v_inBlock) (v_atQuotient) (v_small) drawn, aI Y q_number 8 number_1, aI Y q_name 24 name, aI Y q_sortOf 24 sortOf, aI Y q_first 24 first, aI Y q_second 24 second, aI Y q_degree 24 degree, aI Y q_colours 24 colours, aI Y q_signBy 24 signBy, aI Y q_own 288 own] [(0, .ref h0), (1, .int x1_1)] [] 2 := by
    intro n
    induction n with
    | zero => exact fun _ _ hm => absurd hm (Nat.not_lt_zero _)
    | succ n ih1 =>
      intro number_1 x1_1  hm1 hI
      have h := hB1 number_1 x1_1 hI
      refine g_iload_n C dX11_takeText_2 1 rfl ?_
      refine g_iconst (v := 4) C dX11_takeText_3 rfl ?_
      refine g_icmp_ge (tgt := 24) C dX11_takeText_4 (by decide) (fun c_1 => ?_) (fun c_1 => ?_)
      · replace h := h.1 c_1
        refine g_iconst (v := 0) C dX11_takeText_24 rfl ?_
        refine g_istore_n (lv' := [(1, .int 0), (0, .ref h0)]) C dX11_takeText_25 (by decide) rfl ?_
        obtain ⟨Inv_2, Mea_2, hI2, hB2⟩ := h
        have key_2 : ∀ (n : Nat) (colours_1 : Nat → Int32) (degree_1 : Nat → Int32) (first_1 : Nat → Int32) (name_1 : Nat → Int32) (second_1 : Nat → Int32) (signBy_1 : Nat → Int32) (sortOf_1 : Nat → Int32) (x1_2 : Int32) , Mea_2 colours_1 degree_1 first_1 name_1 second_1 signBy_1 sortOf_1 x1_2 < n → Inv_2 colours_1 degree_1 first_1 name_1 second_1 signBy_1 sortOf_1 x1_2 → gG E 0 0 [oX11 h0 thrown (v_tape) taped (.ref q_number) (v_isTold) (.ref q_name) (.ref q_sortOf) (.ref q_first) (.ref q_second) (.ref q_degree) (.ref q_colours) (.ref q_signBy) (.ref q_own) lines size atF place sort value fault faultPlace lastFault lastPlace (v_sF) (v_kept) undoable hasImage (v_power) (v_table) (v_marks) (v_row) rowOf areSums isSieved (v_lastOf) blocks (v_inBlock) (v_atQuotient) (v_small) drawn, aI Y q_number 8 number_1, aI Y q_name 24 name_1, aI Y q_sortOf 24 sortOf_1, aI Y q_first 24 first_1, aI Y q_second 24 second_1, aI Y q_degree 24 degree_1, aI Y q_colours 24 colours_1, aI Y q_signBy 24 signBy_1, aI Y q_own 288 own] [(0, .ref h0), (1, .int x1_2)] [] 26 := by
          intro n
          induction n with
          | zero => exact fun _ _ _ _ _ _ _ _ hm => absurd hm (Nat.not_lt_zero _)
          | succ n ih2 =>
            intro colours_1 degree_1 first_1 name_1 second_1 signBy_1 sortOf_1 x1_2  hm2 hI
            have h := hB2 colours_1 degree_1 first_1 name_1 second_1 signBy_1 sortOf_1 x1_2 hI
            refine g_iload_n C dX11_takeText_26 1 rfl ?_
            refine g_bipush (v := 12) C dX11_takeText_27 rfl ?_
            refine g_icmp_ge (tgt := 143) C dX11_takeText_29 (by decide) (fun c_2 => ?_) (fun c_2 => ?_)
            · replace h := h.1 c_2
              refine g_iconst (v := 0) C dX11_takeText_143 rfl ?_
              refine g_istore_n (lv' := [(1, .int 0), (0, .ref h0)]) C dX11_takeText_144 (by decide) rfl ?_
              obtain ⟨Inv_3, Mea_3, hI3, hB3⟩ := h
              have key_3 : ∀ (n : Nat) (own_1 : Nat → Int32) (x1_3 : Int32) , Mea_3 own_1 x1_3 < n → Inv_3 own_1 x1_3 → gG E 0 0 [oX11 h0 thrown (v_tape) taped (.ref q_number) (v_isTold) (.ref q_name) (.ref q_sortOf) (.ref q_first) (.ref q_second) (.ref q_degree) (.ref q_colours) (.ref q_signBy) (.ref q_own) lines size atF place sort value fault faultPlace lastFault lastPlace (v_sF) (v_kept) undoable hasImage (v_power) (v_table) (v_marks) (v_row) rowOf areSums isSieved (v_lastOf) blocks (v_inBlock) (v_atQuotient) (v_small) drawn, aI Y q_number 8 number_1, aI Y q_name 24 name_1, aI Y q_sortOf 24 sortOf_1, aI Y q_first 24 first_1, aI Y q_second 24 second_1, aI Y q_degree 24 degree_1, aI Y q_colours 24 colours_1, aI Y q_signBy 24 signBy_1, aI Y q_own 288 own_1] [(0, .ref h0), (1, .int x1_3)] [] 145 := by
                intro n
                induction n with
                | zero => exact fun _ _ hm => absurd hm (Nat.not_lt_zero _)
                | succ n ih3 =>
                  intro own_1 x1_3  hm3 hI
                  have h := hB3 own_1 x1_3 hI
                  refine g_iload_n C dX11_takeText_145 1 rfl ?_
                  refine g_sipush (v := 144) C dX11_takeText_146 rfl ?_
                  refine g_icmp_ge (tgt := 174) C dX11_takeText_149 (by decide) (fun c_3 => ?_) (fun c_3 => ?_)
                  · replace h := h.1 c_3
                    exact g_vret C hR (Nat.le_of_ble_eq_true rfl) (Nat.le_of_ble_eq_true rfl) dX11_takeText_174 ⟨number_1, name_1, sortOf_1, first_1, second_1, degree_1, colours_1, signBy_1, own_1, rfl, rfl, h⟩
                  · replace h := h.2 c_3
                    refine g_aload_n C dX11_takeText_152 0 rfl ?_
                    refine g_get C inX11 0 rfl rfl 12 (by decide) wF_X11_41 rfl dX11_takeText_153 ?_
                    refine g_iload_n C dX11_takeText_156 1 rfl ?_
                    refine g_aload_n C dX11_takeText_157 0 rfl ?_
                    refine g_get C inX11 0 rfl rfl 12 (by decide) wF_X11_41 rfl dX11_takeText_158 ?_
                    refine g_sipush (v := 144) C dX11_takeText_161 rfl ?_
                    refine g_iload_n C dX11_takeText_164 1 rfl ?_
                    refine g_iadd C dX11_takeText_165 ?_
                    obtain ⟨hc_1, h⟩ := h
                    refine g_iald C 9 rfl hc_1 dX11_takeText_166 ?_
                    refine g_topi (fun e_1 ee_1 => ?_)
                    replace h := h e_1 ee_1
                    obtain ⟨hc_2, h⟩ := h
                    refine g_iast C 9 rfl hc_2 dX11_takeText_167 (fun own_2 eown_2 => gG.eqw (ws' := [oX11 h0 thrown (v_tape) taped (.ref q_number) (v_isTold) (.ref q_name) (.ref q_sortOf) (.ref q_first) (.ref q_second) (.ref q_degree) (.ref q_colours) (.ref q_signBy) (.ref q_own) lines size atF place sort value fault faultPlace lastFault lastPlace (v_sF) (v_kept) undoable hasImage (v_power) (v_table) (v_marks) (v_row) rowOf areSums isSieved (v_lastOf) blocks (v_inBlock) (v_atQuotient) (v_small) drawn, aI Y q_number 8 number_1, aI Y q_name 24 name_1, aI Y q_sortOf 24 sortOf_1, aI Y q_first 24 first_1, aI Y q_second 24 second_1, aI Y q_degree 24 degree_1, aI Y q_colours 24 colours_1, aI Y q_signBy 24 signBy_1, aI Y q_own 288 own_2]) rfl ?_)
                    replace h := h own_2 eown_2
                    refine g_iinc (v := x1_3 + 1) (lv' := [(1, .int (x1_3 + 1)), (0, .ref h0)]) C dX11_takeText_168 1 rfl rfl (by decide) rfl ?_
                    refine g_goto (tgt := 145) C dX11_takeText_171 (by decide) ?_
                    refine gG.locals (lv' := [(0, .ref h0), (1, .int (x1_3 + 1))]) [1, 0] rfl ?_
                    exact ih3 own_2 (x1_3 + 1) (Nat.lt_of_lt_of_le h.2 (Nat.le_of_lt_succ hm3)) h.1
              refine gG.locals (lv' := [(0, .ref h0), (1, .int 0)]) [1, 0] rfl ?_
              exact key_3 (Mea_3 own 0 + 1) own 0 (Nat.lt_succ_self _) hI3
            · replace h := h.2 c_2
              refine g_aload_n C dX11_takeText_32 0 rfl ?_
              refine g_get C inX11 0 rfl rfl 5 (by decide) wF_X11_20 rfl dX11_takeText_33 ?_
              refine g_iload_n C dX11_takeText_36 1 rfl ?_
              refine g_aload_n C dX11_takeText_37 0 rfl ?_
              refine g_get C inX11 0 rfl rfl 5 (by decide) wF_X11_20 rfl dX11_takeText_38 ?_
              refine g_bipush (v := 12) C dX11_takeText_41 rfl ?_
              refine g_iload_n C dX11_takeText_43 1 rfl ?_
              refine g_iadd C dX11_takeText_44 ?_
              obtain ⟨hc_3, h⟩ := h
              refine g_iald C 2 rfl hc_3 dX11_takeText_45 ?_
              refine g_topi (fun e_2 ee_2 => ?_)
              replace h := h e_2 ee_2
              obtain ⟨hc_4, h⟩ := h
              refine g_iast C 2 rfl hc_4 dX11_takeText_46 (fun name_2 ename_2 => gG.eqw (ws' := [oX11 h0 thrown (v_tape) taped (.ref q_number) (v_isTold) (.ref q_name) (.ref q_sortOf) (.ref q_first) (.ref q_second) (.ref q_degree) (.ref q_colours) (.ref q_signBy) (.ref q_own) lines size atF place sort value fault faultPlace lastFault lastPlace (v_sF) (v_kept) undoable hasImage (v_power) (v_table) (v_marks) (v_row) rowOf areSums isSieved (v_lastOf) blocks (v_inBlock) (v_atQuotient) (v_small) drawn, aI Y q_number 8 number_1, aI Y q_name 24 name_2, aI Y q_sortOf 24 sortOf_1, aI Y q_first 24 first_1, aI Y q_second 24 second_1, aI Y q_degree 24 degree_1, aI Y q_colours 24 colours_1, aI Y q_signBy 24 signBy_1, aI Y q_own 288 own]) rfl ?_)
              replace h := h name_2 ename_2
              refine g_aload_n C dX11_takeText_47 0 rfl ?_
              refine g_get C inX11 0 rfl rfl 6 (by decide) wF_X11_23 rfl dX11_takeText_48 ?_
              refine g_iload_n C dX11_takeText_51 1 rfl ?_
              refine g_aload_n C dX11_takeText_52 0 rfl ?_
              refine g_get C inX11 0 rfl rfl 6 (by decide) wF_X11_23 rfl dX11_takeText_53 ?_
              refine g_bipush (v := 12) C dX11_takeText_56 rfl ?_
              refine g_iload_n C dX11_takeText_58 1 rfl ?_
              refine g_iadd C dX11_takeText_59 ?_
              refine g_iald C 3 rfl hc_3 dX11_takeText_60 ?_
              refine g_topi (fun e_3 ee_3 => ?_)
              replace h := h e_3 ee_3
              refine g_iast C 3 rfl hc_4 dX11_takeText_61 (fun sortOf_2 esortOf_2 => gG.eqw (ws' := [oX11 h0 thrown (v_tape) taped (.ref q_number) (v_isTold) (.ref q_name) (.ref q_sortOf) (.ref q_first) (.ref q_second) (.ref q_degree) (.ref q_colours) (.ref q_signBy) (.ref q_own) lines size atF place sort value fault faultPlace lastFault lastPlace (v_sF) (v_kept) undoable hasImage (v_power) (v_table) (v_marks) (v_row) rowOf areSums isSieved (v_lastOf) blocks (v_inBlock) (v_atQuotient) (v_small) drawn, aI Y q_number 8 number_1, aI Y q_name 24 name_2, aI Y q_sortOf 24 sortOf_2, aI Y q_first 24 first_1, aI Y q_second 24 second_1, aI Y q_degree 24 degree_1, aI Y q_colours 24 colours_1, aI Y q_signBy 24 signBy_1, aI Y q_own 288 own]) rfl ?_)
              replace h := h sortOf_2 esortOf_2
              refine g_aload_n C dX11_takeText_62 0 rfl ?_
              refine g_get C inX11 0 rfl rfl 7 (by decide) wF_X11_26 rfl dX11_takeText_63 ?_
              refine g_iload_n C dX11_takeText_66 1 rfl ?_
              refine g_aload_n C dX11_takeText_67 0 rfl ?_
              refine g_get C inX11 0 rfl rfl 7 (by decide) wF_X11_26 rfl dX11_takeText_68 ?_
              refine g_bipush (v := 12) C dX11_takeText_71 rfl ?_
              refine g_iload_n C dX11_takeText_73 1 rfl ?_
              refine g_iadd C dX11_takeText_74 ?_
              refine g_iald C 4 rfl hc_3 dX11_takeText_75 ?_
              refine g_topi (fun e_4 ee_4 => ?_)
              replace h := h e_4 ee_4
              refine g_iast C 4 rfl hc_4 dX11_takeText_76 (fun first_2 efirst_2 => gG.eqw (ws' := [oX11 h0 thrown (v_tape) taped (.ref q_number) (v_isTold) (.ref q_name) (.ref q_sortOf) (.ref q_first) (.ref q_second) (.ref q_degree) (.ref q_colours) (.ref q_signBy) (.ref q_own) lines size atF place sort value fault faultPlace lastFault lastPlace (v_sF) (v_kept) undoable hasImage (v_power) (v_table) (v_marks) (v_row) rowOf areSums isSieved (v_lastOf) blocks (v_inBlock) (v_atQuotient) (v_small) drawn, aI Y q_number 8 number_1, aI Y q_name 24 name_2, aI Y q_sortOf 24 sortOf_2, aI Y q_first 24 first_2, aI Y q_second 24 second_1, aI Y q_degree 24 degree_1, aI Y q_colours 24 colours_1, aI Y q_signBy 24 signBy_1, aI Y q_own 288 own]) rfl ?_)
              replace h := h first_2 efirst_2
              refine g_aload_n C dX11_takeText_77 0 rfl ?_
              refine g_get C inX11 0 rfl rfl 8 (by decide) wF_X11_29 rfl dX11_takeText_78 ?_
              refine g_iload_n C dX11_takeText_81 1 rfl ?_
              refine g_aload_n C dX11_takeText_82 0 rfl ?_
              refine g_get C inX11 0 rfl rfl 8 (by decide) wF_X11_29 rfl dX11_takeText_83 ?_
              refine g_bipush (v := 12) C dX11_takeText_86 rfl ?_
              refine g_iload_n C dX11_takeText_88 1 rfl ?_
              refine g_iadd C dX11_takeText_89 ?_
              refine g_iald C 5 rfl hc_3 dX11_takeText_90 ?_
              refine g_topi (fun e_5 ee_5 => ?_)
              replace h := h e_5 ee_5
              refine g_iast C 5 rfl hc_4 dX11_takeText_91 (fun second_2 esecond_2 => gG.eqw (ws' := [oX11 h0 thrown (v_tape) taped (.ref q_number) (v_isTold) (.ref q_name) (.ref q_sortOf) (.ref q_first) (.ref q_second) (.ref q_degree) (.ref q_colours) (.ref q_signBy) (.ref q_own) lines size atF place sort value fault faultPlace lastFault lastPlace (v_sF) (v_kept) undoable hasImage (v_power) (v_table) (v_marks) (v_row) rowOf areSums isSieved (v_lastOf) blocks (v_inBlock) (v_atQuotient) (v_small) drawn, aI Y q_number 8 number_1, aI Y q_name 24 name_2, aI Y q_sortOf 24 sortOf_2, aI Y q_first 24 first_2, aI Y q_second 24 second_2, aI Y q_degree 24 degree_1, aI Y q_colours 24 colours_1, aI Y q_signBy 24 signBy_1, aI Y q_own 288 own]) rfl ?_)
              replace h := h second_2 esecond_2
              refine g_aload_n C dX11_takeText_92 0 rfl ?_
              refine g_get C inX11 0 rfl rfl 9 (by decide) wF_X11_32 rfl dX11_takeText_93 ?_
              refine g_iload_n C dX11_takeText_96 1 rfl ?_
              refine g_aload_n C dX11_takeText_97 0 rfl ?_
              refine g_get C inX11 0 rfl rfl 9 (by decide) wF_X11_32 rfl dX11_takeText_98 ?_
              refine g_bipush (v := 12) C dX11_takeText_101 rfl ?_
              refine g_iload_n C dX11_takeText_103 1 rfl ?_
              refine g_iadd C dX11_takeText_104 ?_
              refine g_iald C 6 rfl hc_3 dX11_takeText_105 ?_
              refine g_topi (fun e_6 ee_6 => ?_)
              replace h := h e_6 ee_6
              refine g_iast C 6 rfl hc_4 dX11_takeText_106 (fun degree_2 edegree_2 => gG.eqw (ws' := [oX11 h0 thrown (v_tape) taped (.ref q_number) (v_isTold) (.ref q_name) (.ref q_sortOf) (.ref q_first) (.ref q_second) (.ref q_degree) (.ref q_colours) (.ref q_signBy) (.ref q_own) lines size atF place sort value fault faultPlace lastFault lastPlace (v_sF) (v_kept) undoable hasImage (v_power) (v_table) (v_marks) (v_row) rowOf areSums isSieved (v_lastOf) blocks (v_inBlock) (v_atQuotient) (v_small) drawn, aI Y q_number 8 number_1, aI Y q_name 24 name_2, aI Y q_sortOf 24 sortOf_2, aI Y q_first 24 first_2, aI Y q_second 24 second_2, aI Y q_degree 24 degree_2, aI Y q_colours 24 colours_1, aI Y q_signBy 24 signBy_1, aI Y q_own 288 own]) rfl ?_)
              replace h := h degree_2 edegree_2
              refine g_aload_n C dX11_takeText_107 0 rfl ?_
              refine g_get C inX11 0 rfl rfl 10 (by decide) wF_X11_35 rfl dX11_takeText_108 ?_
              refine g_iload_n C dX11_takeText_111 1 rfl ?_
              refine g_aload_n C dX11_takeText_112 0 rfl ?_
              refine g_get C inX11 0 rfl rfl 10 (by decide) wF_X11_35 rfl dX11_takeText_113 ?_
              refine g_bipush (v := 12) C dX11_takeText_116 rfl ?_
              refine g_iload_n C dX11_takeText_118 1 rfl ?_
              refine g_iadd C dX11_takeText_119 ?_
              refine g_iald C 7 rfl hc_3 dX11_takeText_120 ?_
              refine g_topi (fun e_7 ee_7 => ?_)
              replace h := h e_7 ee_7
              refine g_iast C 7 rfl hc_4 dX11_takeText_121 (fun colours_2 ecolours_2 => gG.eqw (ws' := [oX11 h0 thrown (v_tape) taped (.ref q_number) (v_isTold) (.ref q_name) (.ref q_sortOf) (.ref q_first) (.ref q_second) (.ref q_degree) (.ref q_colours) (.ref q_signBy) (.ref q_own) lines size atF place sort value fault faultPlace lastFault lastPlace (v_sF) (v_kept) undoable hasImage (v_power) (v_table) (v_marks) (v_row) rowOf areSums isSieved (v_lastOf) blocks (v_inBlock) (v_atQuotient) (v_small) drawn, aI Y q_number 8 number_1, aI Y q_name 24 name_2, aI Y q_sortOf 24 sortOf_2, aI Y q_first 24 first_2, aI Y q_second 24 second_2, aI Y q_degree 24 degree_2, aI Y q_colours 24 colours_2, aI Y q_signBy 24 signBy_1, aI Y q_own 288 own]) rfl ?_)
              replace h := h colours_2 ecolours_2
              refine g_aload_n C dX11_takeText_122 0 rfl ?_
              refine g_get C inX11 0 rfl rfl 11 (by decide) wF_X11_38 rfl dX11_takeText_123 ?_
              refine g_iload_n C dX11_takeText_126 1 rfl ?_
              refine g_aload_n C dX11_takeText_127 0 rfl ?_
              refine g_get C inX11 0 rfl rfl 11 (by decide) wF_X11_38 rfl dX11_takeText_128 ?_
              refine g_bipush (v := 12) C dX11_takeText_131 rfl ?_
              refine g_iload_n C dX11_takeText_133 1 rfl ?_
              refine g_iadd C dX11_takeText_134 ?_
              refine g_iald C 8 rfl hc_3 dX11_takeText_135 ?_
              refine g_topi (fun e_8 ee_8 => ?_)
              replace h := h e_8 ee_8
              refine g_iast C 8 rfl hc_4 dX11_takeText_136 (fun signBy_2 esignBy_2 => gG.eqw (ws' := [oX11 h0 thrown (v_tape) taped (.ref q_number) (v_isTold) (.ref q_name) (.ref q_sortOf) (.ref q_first) (.ref q_second) (.ref q_degree) (.ref q_colours) (.ref q_signBy) (.ref q_own) lines size atF place sort value fault faultPlace lastFault lastPlace (v_sF) (v_kept) undoable hasImage (v_power) (v_table) (v_marks) (v_row) rowOf areSums isSieved (v_lastOf) blocks (v_inBlock) (v_atQuotient) (v_small) drawn, aI Y q_number 8 number_1, aI Y q_name 24 name_2, aI Y q_sortOf 24 sortOf_2, aI Y q_first 24 first_2, aI Y q_second 24 second_2, aI Y q_degree 24 degree_2, aI Y q_colours 24 colours_2, aI Y q_signBy 24 signBy_2, aI Y q_own 288 own]) rfl ?_)
              replace h := h signBy_2 esignBy_2
              refine g_iinc (v := x1_2 + 1) (lv' := [(1, .int (x1_2 + 1)), (0, .ref h0)]) C dX11_takeText_137 1 rfl rfl (by decide) rfl ?_
              refine g_goto (tgt := 26) C dX11_takeText_140 (by decide) ?_
              refine gG.locals (lv' := [(0, .ref h0), (1, .int (x1_2 + 1))]) [1, 0] rfl ?_
              exact ih2 colours_2 degree_2 first_2 name_2 second_2 signBy_2 sortOf_2 (x1_2 + 1) (Nat.lt_of_lt_of_le h.2 (Nat.le_of_lt_succ hm2)) h.1
        refine gG.locals (lv' := [(0, .ref h0), (1, .int 0)]) [1, 0] rfl ?_
        exact key_2 (Mea_2 colours degree first name second signBy sortOf 0 + 1) colours degree first name second signBy sortOf 0 (Nat.lt_succ_self _) hI2
      · replace h := h.2 c_1
        refine g_aload_n C dX11_takeText_7 0 rfl ?_
        refine g_get C inX11 0 rfl rfl 3 (by decide) wF_X11_13 rfl dX11_takeText_8 ?_
        refine g_iload_n C dX11_takeText_11 1 rfl ?_
        refine g_aload_n C dX11_takeText_12 0 rfl ?_
        refine g_iload_n C dX11_takeText_13 1 rfl ?_
        obtain ⟨P_1, hP, h⟩ := h
        refine g_callV (As := [.int x1_1]) (rest := [.int x1_1, .ref q_number]) C (mX11_reading l D Y h0 thrown v_tape taped q_number v_isTold (.ref q_name) (.ref q_sortOf) (.ref q_first) (.ref q_second) (.ref q_degree) (.ref q_colours) (.ref q_signBy) (.ref q_own) lines size atF place sort value fault faultPlace lastFault lastPlace v_sF v_kept undoable hasImage v_power v_table v_marks v_row rowOf areSums isSieved v_lastOf blocks v_inBlock v_atQuotient v_small drawn number_1 x1_1 P_1 hP) dX11_takeText_14 rfl wM_X11_166 wI_X11_reading wV_X11_reading wN_X11 wC_X11_reading (n := 1) (by decide +kernel) rfl (q0 := 0) rfl rfl ⟨Nat.le_of_ble_eq_true rfl, Nat.le_of_ble_eq_true rfl⟩ ⟨Nat.le_of_ble_eq_true rfl, Nat.le_of_ble_eq_true rfl⟩ (Nat.le_of_ble_eq_true rfl) [0, 1] [2, 3, 4, 5, 6, 7, 8, 9] rfl rfl rfl (fun v wc hv => ?_)
        obtain ⟨rF_1, rfl, rfl, hq⟩ := hv
        replace h := h rF_1 hq
        refine gG.perm (ws' := [oX11 h0 thrown (v_tape) taped (.ref q_number) (v_isTold) (.ref q_name) (.ref q_sortOf) (.ref q_first) (.ref q_second) (.ref q_degree) (.ref q_colours) (.ref q_signBy) (.ref q_own) lines size atF place sort value fault faultPlace lastFault lastPlace (v_sF) (v_kept) undoable hasImage (v_power) (v_table) (v_marks) (v_row) rowOf areSums isSieved (v_lastOf) blocks (v_inBlock) (v_atQuotient) (v_small) drawn, aI Y q_number 8 number_1, aI Y q_name 24 name, aI Y q_sortOf 24 sortOf, aI Y q_first 24 first, aI Y q_second 24 second, aI Y q_degree 24 degree, aI Y q_colours 24 colours, aI Y q_signBy 24 signBy, aI Y q_own 288 own]) [8, 9, 0, 1, 2, 3, 4, 5, 6, 7] rfl rfl ?_
        obtain ⟨hc_5, h⟩ := h
        refine g_iast C 1 rfl hc_5 dX11_takeText_17 (fun number_2 enumber_2 => gG.eqw (ws' := [oX11 h0 thrown (v_tape) taped (.ref q_number) (v_isTold) (.ref q_name) (.ref q_sortOf) (.ref q_first) (.ref q_second) (.ref q_degree) (.ref q_colours) (.ref q_signBy) (.ref q_own) lines size atF place sort value fault faultPlace lastFault lastPlace (v_sF) (v_kept) undoable hasImage (v_power) (v_table) (v_marks) (v_row) rowOf areSums isSieved (v_lastOf) blocks (v_inBlock) (v_atQuotient) (v_small) drawn, aI Y q_number 8 number_2, aI Y q_name 24 name, aI Y q_sortOf 24 sortOf, aI Y q_first 24 first, aI Y q_second 24 second, aI Y q_degree 24 degree, aI Y q_colours 24 colours, aI Y q_signBy 24 signBy, aI Y q_own 288 own]) rfl ?_)
        replace h := h number_2 enumber_2
        refine g_iinc (v := x1_1 + 1) (lv' := [(1, .int (x1_1 + 1)), (0, .ref h0)]) C dX11_takeText_18 1 rfl rfl (by decide) rfl ?_
        refine g_goto (tgt := 2) C dX11_takeText_21 (by decide) ?_
        refine gG.locals (lv' := [(0, .ref h0), (1, .int (x1_1 + 1))]) [1, 0] rfl ?_
        exact ih1 number_2 (x1_1 + 1) (Nat.lt_of_lt_of_le h.2 (Nat.le_of_lt_succ hm1)) h.1
  refine gG.locals (lv' := [(0, .ref h0), (1, .int 0)]) [1, 0] rfl ?_
  exact key_1 (Mea_1 number 0 + 1) number 0 (Nat.lt_succ_self _) hI1
theorem dX11_isPrime_0 : decode cX11_isPrime 0 = .ok (.aload_n 0, 1) := by decide +kernel
theorem dX11_isPrime_1 : decode cX11_isPrime 1 = .ok (.getfield 61, 3) := by decide +kernel
theorem dX11_isPrime_4 : decode cX11_isPrime 4 = .ok (.iload_n 1, 1) := by decide +kernel
theorem dX11_isPrime_5 : decode cX11_isPrime 5 = .ok (.iconst 5, 1) := by decide +kernel
theorem dX11_isPrime_6 : decode cX11_isPrime 6 = .ok (.ishr, 1) := by decide +kernel
theorem dX11_isPrime_7 : decode cX11_isPrime 7 = .ok (.iaload, 1) := by decide +kernel
theorem dX11_isPrime_8 : decode cX11_isPrime 8 = .ok (.iload_n 1, 1) := by decide +kernel
theorem dX11_isPrime_9 : decode cX11_isPrime 9 = .ok (.bipush 31, 2) := by decide +kernel
theorem dX11_isPrime_11 : decode cX11_isPrime 11 = .ok (.iand, 1) := by decide +kernel
theorem dX11_isPrime_12 : decode cX11_isPrime 12 = .ok (.ishr, 1) := by decide +kernel
theorem dX11_isPrime_13 : decode cX11_isPrime 13 = .ok (.iconst 1, 1) := by decide +kernel
theorem dX11_isPrime_14 : decode cX11_isPrime 14 = .ok (.iand, 1) := by decide +kernel
theorem dX11_isPrime_15 : decode cX11_isPrime 15 = .ok (.ifCond .ne 7, 3) := by decide +kernel
theorem dX11_isPrime_18 : decode cX11_isPrime 18 = .ok (.iconst 1, 1) := by decide +kernel
theorem dX11_isPrime_19 : decode cX11_isPrime 19 = .ok (.goto 4, 3) := by decide +kernel
theorem dX11_isPrime_22 : decode cX11_isPrime 22 = .ok (.iconst 0, 1) := by decide +kernel
theorem dX11_isPrime_23 : decode cX11_isPrime 23 = .ok (.ireturn, 1) := by decide +kernel
/-- QuotientSumsModel.isPrime(I)Z -/
def wX11_isPrime (thrown : Int32) (taped : Int32) (lines : Int32) (size : Int32) (atF : Int32) (place : Int32) (sort : Int32) (value : Int32) (fault : Int32) (faultPlace : Int32) (lastFault : Int32) (lastPlace : Int32) (undoable : Int32) (hasImage : Int32) (rowOf : Int32) (areSums : Int32) (isSieved : Int32) (blocks : Int32) (drawn : Int32) (marks : Nat → Int32) (a1 : Int32) (Q : (Int32) → Prop) : Prop :=
  (vp_in (a1 >>> (5 &&& 31)) 6251 ∧ ∀ t_1 : Int32, t_1 = ((marks (a1 >>> (5 &&& 31)).toNatClampNeg) >>> ((a1 &&& 31) &&& 31)) &&& 1 → ((¬ t_1 = 0 → (Q 0)) ∧ (t_1 = 0 → (Q 1))))
set_option maxHeartbeats 4000000 in
set_option maxRecDepth 100000 in
theorem mX11_isPrime (l : Launch) (D : va_G) (Y : Nat → ClassId) (h0 : Nat) (thrown : Int32) (v_tape : Value) (taped : Int32) (v_number : Value) (v_isTold : Value) (v_name : Value) (v_sortOf : Value) (v_first : Value) (v_second : Value) (v_degree : Value) (v_colours : Value) (v_signBy : Value) (v_own : Value) (lines : Int32) (size : Int32) (atF : Int32) (place : Int32) (sort : Int32) (value : Int32) (fault : Int32) (faultPlace : Int32) (lastFault : Int32) (lastPlace : Int32) (v_sF : Value) (v_kept : Value) (undoable : Int32) (hasImage : Int32) (v_power : Value) (v_table : Value) (q_marks : Nat) (v_row : Value) (rowOf : Int32) (areSums : Int32) (isSieved : Int32) (v_lastOf : Value) (blocks : Int32) (v_inBlock : Value) (v_atQuotient : Value) (v_small : Value) (drawn : Int32) (marks : Nat → Int32) (a1 : Int32) (Q : (Int32) → Prop) (h : wX11_isPrime thrown taped lines size atF place sort value fault faultPlace lastFault lastPlace undoable hasImage rowOf areSums isSieved blocks drawn marks a1 Q) : gM l D Y yX11_isPrime cX11_isPrime 2 (some .boolean) 0 0 0 0 [.ref h0, .int a1] [oX11 h0 thrown (v_tape) taped (v_number) (v_isTold) (v_name) (v_sortOf) (v_first) (v_second) (v_degree) (v_colours) (v_signBy) (v_own) lines size atF place sort value fault faultPlace lastFault lastPlace (v_sF) (v_kept) undoable hasImage (v_power) (v_table) (.ref q_marks) (v_row) rowOf areSums isSieved (v_lastOf) blocks (v_inBlock) (v_atQuotient) (v_small) drawn, aI Y q_marks 6251 marks] (fun v w => ∃ r : Int32, v = some (.int r) ∧ w = [oX11 h0 thrown (v_tape) taped (v_number) (v_isTold) (v_name) (v_sortOf) (v_first) (v_second) (v_degree) (v_colours) (v_signBy) (v_own) lines size atF place sort value fault faultPlace lastFault lastPlace (v_sF) (v_kept) undoable hasImage (v_power) (v_table) (.ref q_marks) (v_row) rowOf areSums isSieved (v_lastOf) blocks (v_inBlock) (v_atQuotient) (v_small) drawn, aI Y q_marks 6251 marks] ∧ Q r) := by
  refine gM_of (own := RX11) (by decide +kernel) rfl (Nat.le_of_ble_eq_true rfl) rfl (fun E C hR => ?_)
  unfold wX11_isPrime at h
  refine g_aload_n C dX11_isPrime_0 0 rfl ?_
  refine g_get C inX11 0 rfl rfl 29 (by decide) wF_X11_61 rfl dX11_isPrime_1 ?_
  refine g_iload_n C dX11_isPrime_4 1 rfl ?_
  refine g_iconst (v := 5) C dX11_isPrime_5 rfl ?_
  refine g_ishr C dX11_isPrime_6 ?_
  obtain ⟨hc_1, h⟩ := h
  refine g_iald C 1 rfl hc_1 dX11_isPrime_7 ?_
  refine g_iload_n C dX11_isPrime_8 1 rfl ?_
  refine g_bipush (v := 31) C dX11_isPrime_9 rfl ?_
  refine g_iand C dX11_isPrime_11 ?_
  refine g_ishr C dX11_isPrime_12 ?_
  refine g_iconst (v := 1) C dX11_isPrime_13 rfl ?_
  refine g_iand C dX11_isPrime_14 ?_
  refine g_topi (fun t_1 et_1 => ?_)
  replace h := h t_1 et_1
  refine g_if_ne (tgt := 22) C dX11_isPrime_15 (by decide) (fun c_1 => ?_) (fun c_1 => ?_)
  · replace h := h.1 c_1
    refine g_iconst (v := 0) C dX11_isPrime_22 rfl ?_
    exact g_zret C hR (by decide) (Nat.le_of_ble_eq_true rfl) (Nat.le_of_ble_eq_true rfl) dX11_isPrime_23 ⟨0, rfl, rfl, h⟩
  · replace h := h.2 c_1
    refine g_iconst (v := 1) C dX11_isPrime_18 rfl ?_
    refine g_goto (tgt := 23) C dX11_isPrime_19 (by decide) ?_
    exact g_zret C hR (by decide) (Nat.le_of_ble_eq_true rfl) (Nat.le_of_ble_eq_true rfl) dX11_isPrime_23 ⟨1, rfl, rfl, h⟩
theorem dX11_sieves_0 : decode cX11_sieves 0 = .ok (.aload_n 0, 1) := by decide +kernel
theorem dX11_sieves_1 : decode cX11_sieves 1 = .ok (.getfield 289, 3) := by decide +kernel
theorem dX11_sieves_4 : decode cX11_sieves 4 = .ok (.ifCond .eq 4, 3) := by decide +kernel
theorem dX11_sieves_7 : decode cX11_sieves 7 = .ok (.return_, 1) := by decide +kernel
theorem dX11_sieves_8 : decode cX11_sieves 8 = .ok (.aload_n 0, 1) := by decide +kernel
theorem dX11_sieves_9 : decode cX11_sieves 9 = .ok (.iconst 1, 1) := by decide +kernel
theorem dX11_sieves_10 : decode cX11_sieves 10 = .ok (.putfield 289, 3) := by decide +kernel
theorem dX11_sieves_13 : decode cX11_sieves 13 = .ok (.aload_n 0, 1) := by decide +kernel
theorem dX11_sieves_14 : decode cX11_sieves 14 = .ok (.getfield 61, 3) := by decide +kernel
theorem dX11_sieves_17 : decode cX11_sieves 17 = .ok (.iconst 0, 1) := by decide +kernel
theorem dX11_sieves_18 : decode cX11_sieves 18 = .ok (.dup2, 1) := by decide +kernel
theorem dX11_sieves_19 : decode cX11_sieves 19 = .ok (.iaload, 1) := by decide +kernel
theorem dX11_sieves_20 : decode cX11_sieves 20 = .ok (.iconst 3, 1) := by decide +kernel
theorem dX11_sieves_21 : decode cX11_sieves 21 = .ok (.ior, 1) := by decide +kernel
theorem dX11_sieves_22 : decode cX11_sieves 22 = .ok (.iastore, 1) := by decide +kernel
theorem dX11_sieves_23 : decode cX11_sieves 23 = .ok (.iconst 2, 1) := by decide +kernel
theorem dX11_sieves_24 : decode cX11_sieves 24 = .ok (.istore_n 1, 1) := by decide +kernel
theorem dX11_sieves_25 : decode cX11_sieves 25 = .ok (.iload_n 1, 1) := by decide +kernel
theorem dX11_sieves_26 : decode cX11_sieves 26 = .ok (.iload_n 1, 1) := by decide +kernel
theorem dX11_sieves_27 : decode cX11_sieves 27 = .ok (.imul, 1) := by decide +kernel
theorem dX11_sieves_28 : decode cX11_sieves 28 = .ok (.ldc 189, 2) := by decide +kernel
theorem dX11_sieves_30 : decode cX11_sieves 30 = .ok (.if_icmp .gt 54, 3) := by decide +kernel
theorem dX11_sieves_33 : decode cX11_sieves 33 = .ok (.aload_n 0, 1) := by decide +kernel
theorem dX11_sieves_34 : decode cX11_sieves 34 = .ok (.iload_n 1, 1) := by decide +kernel
theorem dX11_sieves_35 : decode cX11_sieves 35 = .ok (.invokevirtual 292, 3) := by decide +kernel
theorem dX11_sieves_38 : decode cX11_sieves 38 = .ok (.ifCond .ne 6, 3) := by decide +kernel
theorem dX11_sieves_41 : decode cX11_sieves 41 = .ok (.goto 37, 3) := by decide +kernel
theorem dX11_sieves_44 : decode cX11_sieves 44 = .ok (.iload_n 1, 1) := by decide +kernel
theorem dX11_sieves_45 : decode cX11_sieves 45 = .ok (.iload_n 1, 1) := by decide +kernel
theorem dX11_sieves_46 : decode cX11_sieves 46 = .ok (.imul, 1) := by decide +kernel
theorem dX11_sieves_47 : decode cX11_sieves 47 = .ok (.istore_n 2, 1) := by decide +kernel
theorem dX11_sieves_48 : decode cX11_sieves 48 = .ok (.iload_n 2, 1) := by decide +kernel
theorem dX11_sieves_49 : decode cX11_sieves 49 = .ok (.ldc 189, 2) := by decide +kernel
theorem dX11_sieves_51 : decode cX11_sieves 51 = .ok (.if_icmp .gt 27, 3) := by decide +kernel
theorem dX11_sieves_54 : decode cX11_sieves 54 = .ok (.aload_n 0, 1) := by decide +kernel
theorem dX11_sieves_55 : decode cX11_sieves 55 = .ok (.getfield 61, 3) := by decide +kernel
theorem dX11_sieves_58 : decode cX11_sieves 58 = .ok (.iload_n 2, 1) := by decide +kernel
theorem dX11_sieves_59 : decode cX11_sieves 59 = .ok (.iconst 5, 1) := by decide +kernel
theorem dX11_sieves_60 : decode cX11_sieves 60 = .ok (.ishr, 1) := by decide +kernel
theorem dX11_sieves_61 : decode cX11_sieves 61 = .ok (.dup2, 1) := by decide +kernel
theorem dX11_sieves_62 : decode cX11_sieves 62 = .ok (.iaload, 1) := by decide +kernel
theorem dX11_sieves_63 : decode cX11_sieves 63 = .ok (.iconst 1, 1) := by decide +kernel
theorem dX11_sieves_64 : decode cX11_sieves 64 = .ok (.iload_n 2, 1) := by decide +kernel
theorem dX11_sieves_65 : decode cX11_sieves 65 = .ok (.bipush 31, 2) := by decide +kernel
theorem dX11_sieves_67 : decode cX11_sieves 67 = .ok (.iand, 1) := by decide +kernel
theorem dX11_sieves_68 : decode cX11_sieves 68 = .ok (.ishl, 1) := by decide +kernel
theorem dX11_sieves_69 : decode cX11_sieves 69 = .ok (.ior, 1) := by decide +kernel
theorem dX11_sieves_70 : decode cX11_sieves 70 = .ok (.iastore, 1) := by decide +kernel
theorem dX11_sieves_71 : decode cX11_sieves 71 = .ok (.iload_n 2, 1) := by decide +kernel
theorem dX11_sieves_72 : decode cX11_sieves 72 = .ok (.iload_n 1, 1) := by decide +kernel
theorem dX11_sieves_73 : decode cX11_sieves 73 = .ok (.iadd, 1) := by decide +kernel
theorem dX11_sieves_74 : decode cX11_sieves 74 = .ok (.istore_n 2, 1) := by decide +kernel
theorem dX11_sieves_75 : decode cX11_sieves 75 = .ok (.goto (-27), 3) := by decide +kernel
theorem dX11_sieves_78 : decode cX11_sieves 78 = .ok (.iinc 1 1, 3) := by decide +kernel
theorem dX11_sieves_81 : decode cX11_sieves 81 = .ok (.goto (-56), 3) := by decide +kernel
theorem dX11_sieves_84 : decode cX11_sieves 84 = .ok (.return_, 1) := by decide +kernel
/-- QuotientSumsModel.sieves()V -/
def wX11_sieves (thrown : Int32) (taped : Int32) (lines : Int32) (size : Int32) (atF : Int32) (place : Int32) (sort : Int32) (value : Int32) (fault : Int32) (faultPlace : Int32) (lastFault : Int32) (lastPlace : Int32) (undoable : Int32) (hasImage : Int32) (rowOf : Int32) (areSums : Int32) (isSieved : Int32) (blocks : Int32) (drawn : Int32) (marks : Nat → Int32)  (Q : (Int32) → (Nat → Int32) → Prop) : Prop :=
  ((isSieved = 0 → (∀ e_1 : Int32, e_1 = (marks 0) ||| 3 → ∀ marks_1 : Nat → Int32, marks_1 = upd marks 0 e_1 → (∃ (Inv_1 : (Nat → Int32) → (Int32) → Prop) (Mea_1 : (Nat → Int32) → (Int32) → Nat), Inv_1 marks_1 2 ∧ ∀ (marks_2 : Nat → Int32) (x1_1 : Int32), Inv_1 marks_2 x1_1 → ((200000 < (x1_1 * x1_1) → (Q 1 marks_2)) ∧ (¬ 200000 < (x1_1 * x1_1) → (∃ (P_1 : (Int32) → Prop), wX11_isPrime thrown taped lines size atF place sort value fault faultPlace lastFault lastPlace undoable hasImage rowOf areSums 1 blocks drawn marks_2 x1_1 P_1 ∧ ∀ (rF_1 : Int32), P_1 rF_1 → ((¬ rF_1 = 0 → (∀ x2_1 : Int32, x2_1 = x1_1 * x1_1 → (∃ (Inv_2 : (Nat → Int32) → (Int32) → Prop) (Mea_2 : (Nat → Int32) → (Int32) → Nat), Inv_2 marks_2 x2_1 ∧ ∀ (marks_3 : Nat → Int32) (x2_2 : Int32), Inv_2 marks_3 x2_2 → ((200000 < x2_2 → (Inv_1 marks_3 (x1_1 + 1) ∧ Mea_1 marks_3 (x1_1 + 1) < Mea_1 marks_2 x1_1)) ∧ (¬ 200000 < x2_2 → (vp_in (x2_2 >>> (5 &&& 31)) 6251 ∧ ∀ t_1 : Int32, t_1 = (marks_3 (x2_2 >>> (5 &&& 31)).toNatClampNeg) ||| (1 <<< ((x2_2 &&& 31) &&& 31)) → ∀ marks_4 : Nat → Int32, marks_4 = upd marks_3 (x2_2 >>> (5 &&& 31)).toNatClampNeg t_1 → ∀ x2_3 : Int32, x2_3 = x2_2 + x1_1 → (Inv_2 marks_4 x2_3 ∧ Mea_2 marks_4 x2_3 < Mea_2 marks_3 x2_2))))))) ∧ (rF_1 = 0 → (Inv_1 marks_2 (x1_1 + 1) ∧ Mea_1 marks_2 (x1_1 + 1) < Mea_1 marks_2 x1_1))))))))) ∧ (¬ isSieved = 0 → (Q isSieved marks)))
set_option maxHeartbeats 4000000 in
set_option maxRecDepth 100000 in
theorem mX11_sieves (l : Launch) (D : va_G) (Y : Nat → ClassId) (h0 : Nat) (thrown : Int32) (v_tape : Value) (taped : Int32) (v_number : Value) (v_isTold : Value) (v_name : Value) (v_sortOf : Value) (v_first : Value) (v_second : Value) (v_degree : Value) (v_colours : Value) (v_signBy : Value) (v_own : Value) (lines : Int32) (size : Int32) (atF : Int32) (place : Int32) (sort : Int32) (value : Int32) (fault : Int32) (faultPlace : Int32) (lastFault : Int32) (lastPlace : Int32) (v_sF : Value) (v_kept : Value) (undoable : Int32) (hasImage : Int32) (v_power : Value) (v_table : Value) (q_marks : Nat) (v_row : Value) (rowOf : Int32) (areSums : Int32) (isSieved : Int32) (v_lastOf : Value) (blocks : Int32) (v_inBlock : Value) (v_atQuotient : Value) (v_small : Value) (drawn : Int32) (marks : Nat → Int32)  (Q : (Int32) → (Nat → Int32) → Prop) (h : wX11_sieves thrown taped lines size atF place sort value fault faultPlace lastFault lastPlace undoable hasImage rowOf areSums isSieved blocks drawn marks Q) : gM l D Y yX11_sieves cX11_sieves 3 none 1 21 0 0 [.ref h0] [oX11 h0 thrown (v_tape) taped (v_number) (v_isTold) (v_name) (v_sortOf) (v_first) (v_second) (v_degree) (v_colours) (v_signBy) (v_own) lines size atF place sort value fault faultPlace lastFault lastPlace (v_sF) (v_kept) undoable hasImage (v_power) (v_table) (.ref q_marks) (v_row) rowOf areSums isSieved (v_lastOf) blocks (v_inBlock) (v_atQuotient) (v_small) drawn, aI Y q_marks 6251 marks] (fun v w => ∃ isSieved' : Int32, ∃ marks' : Nat → Int32, v = none ∧ w = [oX11 h0 thrown (v_tape) taped (v_number) (v_isTold) (v_name) (v_sortOf) (v_first) (v_second) (v_degree) (v_colours) (v_signBy) (v_own) lines size atF place sort value fault faultPlace lastFault lastPlace (v_sF) (v_kept) undoable hasImage (v_power) (v_table) (.ref q_marks) (v_row) rowOf areSums isSieved' (v_lastOf) blocks (v_inBlock) (v_atQuotient) (v_small) drawn, aI Y q_marks 6251 marks'] ∧ Q isSieved' marks') := by
  refine gM_of (own := RX11) (by decide +kernel) rfl (Nat.le_of_ble_eq_true rfl) rfl (fun E C hR => ?_)
  unfold wX11_sieves at h
  refine g_aload_n C dX11_sieves_0 0 rfl ?_
  refine g_get C inX11 0 rfl rfl 33 (by decide) wF_X11_289 rfl dX11_sieves_1 ?_
  refine g_if_eq (tgt := 8) C dX11_sieves_4 (by decide) (fun c_1 => ?_) (fun c_1 => ?_)
  · replace h := h.1 c_1
    refine g_aload_n C dX11_sieves_8 0 rfl ?_
    refine g_iconst (v := 1) C dX11_sieves_9 rfl ?_
    refine g_put C inX11 tyX11 tyX11_ok nmX11 0 rfl rfl 33 (by decide) wF_X11_289 rfl rfl rfl (Nat.le_of_ble_eq_true rfl) (ws' := [oX11 h0 thrown (v_tape) taped (v_number) (v_isTold) (v_name) (v_sortOf) (v_first) (v_second) (v_degree) (v_colours) (v_signBy) (v_own) lines size atF place sort value fault faultPlace lastFault lastPlace (v_sF) (v_kept) undoable hasImage (v_power) (v_table) (.ref q_marks) (v_row) rowOf areSums 1 (v_lastOf) blocks (v_inBlock) (v_atQuotient) (v_small) drawn, aI Y q_marks 6251 marks]) rfl dX11_sieves_10 ?_
    refine g_aload_n C dX11_sieves_13 0 rfl ?_
    refine g_get C inX11 0 rfl rfl 29 (by decide) wF_X11_61 rfl dX11_sieves_14 ?_
    refine g_iconst (v := 0) C dX11_sieves_17 rfl ?_
    refine g_dup2 C dX11_sieves_18 rfl rfl ?_
    refine g_iald C 1 rfl (by unfold vp_in; decide) dX11_sieves_19 ?_
    refine g_iconst (v := 3) C dX11_sieves_20 rfl ?_
    refine g_ior C dX11_sieves_21 ?_
    refine g_topi (fun e_1 ee_1 => ?_)
    replace h := h e_1 ee_1
    refine g_iast C 1 rfl (by unfold vp_in; decide) dX11_sieves_22 (fun marks_1 emarks_1 => gG.eqw (ws' := [oX11 h0 thrown (v_tape) taped (v_number) (v_isTold) (v_name) (v_sortOf) (v_first) (v_second) (v_degree) (v_colours) (v_signBy) (v_own) lines size atF place sort value fault faultPlace lastFault lastPlace (v_sF) (v_kept) undoable hasImage (v_power) (v_table) (.ref q_marks) (v_row) rowOf areSums 1 (v_lastOf) blocks (v_inBlock) (v_atQuotient) (v_small) drawn, aI Y q_marks 6251 marks_1]) rfl ?_)
    replace h := h marks_1 emarks_1
    refine g_iconst (v := 2) C dX11_sieves_23 rfl ?_
    refine g_istore_n (lv' := [(1, .int 2), (0, .ref h0)]) C dX11_sieves_24 (by decide) rfl ?_
    obtain ⟨Inv_1, Mea_1, hI1, hB1⟩ := h
    have key_1 : ∀ (n : Nat) (marks_2 : Nat → Int32) (x1_1 : Int32) , Mea_1 marks_2 x1_1 < n → Inv_1 marks_2 x1_1 → gG E 0 0 [oX11 h0 thrown (v_tape) taped (v_number) (v_isTold) (v_name) (v_sortOf) (v_first) (v_second) (v_degree) (v_colours) (v_signBy) (v_own) lines size atF place sort value fault faultPlace lastFault lastPlace (v_sF) (v_kept) undoable hasImage (v_power) (v_table) (.ref q_marks) (v_row) rowOf areSums 1 (v_lastOf) blocks (v_inBlock) (v_atQuotient) (v_small) drawn, aI Y q_marks 6251 marks_2] [(0, .ref h0), (1, .int x1_1)] [] 25 := by
      intro n
      induction n with
      | zero => exact fun _ _ hm => absurd hm (Nat.not_lt_zero _)
      | succ n ih1 =>
        intro marks_2 x1_1  hm1 hI
        have h := hB1 marks_2 x1_1 hI
        refine g_iload_n C dX11_sieves_25 1 rfl ?_
        refine g_iload_n C dX11_sieves_26 1 rfl ?_
        refine g_imul C dX11_sieves_27 ?_
        refine g_ldc C dX11_sieves_28 wK_X11_189 ?_
        refine g_icmp_gt (tgt := 84) C dX11_sieves_30 (by decide) (fun c_2 => ?_) (fun c_2 => ?_)
        · replace h := h.1 c_2
          exact g_vret C hR (Nat.le_of_ble_eq_true rfl) (Nat.le_of_ble_eq_true rfl) dX11_sieves_84 ⟨1, marks_2, rfl, rfl, h⟩
        · replace h := h.2 c_2
          refine g_aload_n C dX11_sieves_33 0 rfl ?_
          refine g_iload_n C dX11_sieves_34 1 rfl ?_
          obtain ⟨P_1, hP, h⟩ := h
          refine g_callV (As := [.int x1_1]) (rest := []) C (mX11_isPrime l D Y h0 thrown v_tape taped v_number v_isTold v_name v_sortOf v_first v_second v_degree v_colours v_signBy v_own lines size atF place sort value fault faultPlace lastFault lastPlace v_sF v_kept undoable hasImage v_power v_table q_marks v_row rowOf areSums 1 v_lastOf blocks v_inBlock v_atQuotient v_small drawn marks_2 x1_1 P_1 hP) dX11_sieves_35 rfl wM_X11_292 wI_X11_isPrime wV_X11_isPrime wN_X11 wC_X11_isPrime (n := 1) (by decide +kernel) rfl (q0 := 0) rfl rfl ⟨Nat.le_of_ble_eq_true rfl, Nat.le_of_ble_eq_true rfl⟩ ⟨Nat.le_of_ble_eq_true rfl, Nat.le_of_ble_eq_true rfl⟩ (Nat.le_of_ble_eq_true rfl) [0, 1] [] rfl rfl rfl (fun v wc hv => ?_)
          obtain ⟨rF_1, rfl, rfl, hq⟩ := hv
          replace h := h rF_1 hq
          refine gG.eqw (ws' := [oX11 h0 thrown (v_tape) taped (v_number) (v_isTold) (v_name) (v_sortOf) (v_first) (v_second) (v_degree) (v_colours) (v_signBy) (v_own) lines size atF place sort value fault faultPlace lastFault lastPlace (v_sF) (v_kept) undoable hasImage (v_power) (v_table) (.ref q_marks) (v_row) rowOf areSums 1 (v_lastOf) blocks (v_inBlock) (v_atQuotient) (v_small) drawn, aI Y q_marks 6251 marks_2]) rfl ?_
          refine g_if_ne (tgt := 44) C dX11_sieves_38 (by decide) (fun c_3 => ?_) (fun c_3 => ?_)
          · replace h := h.1 c_3
            refine g_iload_n C dX11_sieves_44 1 rfl ?_
            refine g_iload_n C dX11_sieves_45 1 rfl ?_
            refine g_imul C dX11_sieves_46 ?_
            refine g_topi (fun x2_1 ex2_1 => ?_)
            replace h := h x2_1 ex2_1
            refine g_istore_n (lv' := [(2, .int x2_1), (0, .ref h0), (1, .int x1_1)]) C dX11_sieves_47 (by decide) rfl ?_
            obtain ⟨Inv_2, Mea_2, hI2, hB2⟩ := h
            have key_2 : ∀ (n : Nat) (marks_3 : Nat → Int32) (x2_2 : Int32) , Mea_2 marks_3 x2_2 < n → Inv_2 marks_3 x2_2 → gG E 0 0 [oX11 h0 thrown (v_tape) taped (v_number) (v_isTold) (v_name) (v_sortOf) (v_first) (v_second) (v_degree) (v_colours) (v_signBy) (v_own) lines size atF place sort value fault faultPlace lastFault lastPlace (v_sF) (v_kept) undoable hasImage (v_power) (v_table) (.ref q_marks) (v_row) rowOf areSums 1 (v_lastOf) blocks (v_inBlock) (v_atQuotient) (v_small) drawn, aI Y q_marks 6251 marks_3] [(0, .ref h0), (1, .int x1_1), (2, .int x2_2)] [] 48 := by
              intro n
              induction n with
              | zero => exact fun _ _ hm => absurd hm (Nat.not_lt_zero _)
              | succ n ih2 =>
                intro marks_3 x2_2  hm2 hI
                have h := hB2 marks_3 x2_2 hI
                refine g_iload_n C dX11_sieves_48 2 rfl ?_
                refine g_ldc C dX11_sieves_49 wK_X11_189 ?_
                refine g_icmp_gt (tgt := 78) C dX11_sieves_51 (by decide) (fun c_4 => ?_) (fun c_4 => ?_)
                · replace h := h.1 c_4
                  refine g_iinc (v := x1_1 + 1) (lv' := [(1, .int (x1_1 + 1)), (0, .ref h0), (2, .int x2_2)]) C dX11_sieves_78 1 rfl rfl (by decide) rfl ?_
                  refine g_goto (tgt := 25) C dX11_sieves_81 (by decide) ?_
                  refine gG.locals (lv' := [(0, .ref h0), (1, .int (x1_1 + 1))]) [1, 0] rfl ?_
                  exact ih1 marks_3 (x1_1 + 1) (Nat.lt_of_lt_of_le h.2 (Nat.le_of_lt_succ hm1)) h.1
                · replace h := h.2 c_4
                  refine g_aload_n C dX11_sieves_54 0 rfl ?_
                  refine g_get C inX11 0 rfl rfl 29 (by decide) wF_X11_61 rfl dX11_sieves_55 ?_
                  refine g_iload_n C dX11_sieves_58 2 rfl ?_
                  refine g_iconst (v := 5) C dX11_sieves_59 rfl ?_
                  refine g_ishr C dX11_sieves_60 ?_
                  refine g_dup2 C dX11_sieves_61 rfl rfl ?_
                  obtain ⟨hc_1, h⟩ := h
                  refine g_iald C 1 rfl hc_1 dX11_sieves_62 ?_
                  refine g_iconst (v := 1) C dX11_sieves_63 rfl ?_
                  refine g_iload_n C dX11_sieves_64 2 rfl ?_
                  refine g_bipush (v := 31) C dX11_sieves_65 rfl ?_
                  refine g_iand C dX11_sieves_67 ?_
                  refine g_ishl C dX11_sieves_68 ?_
                  refine g_ior C dX11_sieves_69 ?_
                  refine g_topi (fun t_1 et_1 => ?_)
                  replace h := h t_1 et_1
                  refine g_iast C 1 rfl hc_1 dX11_sieves_70 (fun marks_4 emarks_4 => gG.eqw (ws' := [oX11 h0 thrown (v_tape) taped (v_number) (v_isTold) (v_name) (v_sortOf) (v_first) (v_second) (v_degree) (v_colours) (v_signBy) (v_own) lines size atF place sort value fault faultPlace lastFault lastPlace (v_sF) (v_kept) undoable hasImage (v_power) (v_table) (.ref q_marks) (v_row) rowOf areSums 1 (v_lastOf) blocks (v_inBlock) (v_atQuotient) (v_small) drawn, aI Y q_marks 6251 marks_4]) rfl ?_)
                  replace h := h marks_4 emarks_4
                  refine g_iload_n C dX11_sieves_71 2 rfl ?_
                  refine g_iload_n C dX11_sieves_72 1 rfl ?_
                  refine g_iadd C dX11_sieves_73 ?_
                  refine g_topi (fun x2_3 ex2_3 => ?_)
                  replace h := h x2_3 ex2_3
                  refine g_istore_n (lv' := [(2, .int x2_3), (0, .ref h0), (1, .int x1_1)]) C dX11_sieves_74 (by decide) rfl ?_
                  refine g_goto (tgt := 48) C dX11_sieves_75 (by decide) ?_
                  refine gG.locals (lv' := [(0, .ref h0), (1, .int x1_1), (2, .int x2_3)]) [1, 2, 0] rfl ?_
                  exact ih2 marks_4 x2_3 (Nat.lt_of_lt_of_le h.2 (Nat.le_of_lt_succ hm2)) h.1
            refine gG.locals (lv' := [(0, .ref h0), (1, .int x1_1), (2, .int x2_1)]) [1, 2, 0] rfl ?_
            exact key_2 (Mea_2 marks_2 x2_1 + 1) marks_2 x2_1 (Nat.lt_succ_self _) hI2
          · replace h := h.2 c_3
            refine g_goto (tgt := 78) C dX11_sieves_41 (by decide) ?_
            refine g_iinc (v := x1_1 + 1) (lv' := [(1, .int (x1_1 + 1)), (0, .ref h0)]) C dX11_sieves_78 1 rfl rfl (by decide) rfl ?_
            refine g_goto (tgt := 25) C dX11_sieves_81 (by decide) ?_
            refine gG.locals (lv' := [(0, .ref h0), (1, .int (x1_1 + 1))]) [1, 0] rfl ?_
            exact ih1 marks_2 (x1_1 + 1) (Nat.lt_of_lt_of_le h.2 (Nat.le_of_lt_succ hm1)) h.1
    refine gG.locals (lv' := [(0, .ref h0), (1, .int 2)]) [1, 0] rfl ?_
    exact key_1 (Mea_1 marks_1 2 + 1) marks_1 2 (Nat.lt_succ_self _) hI1
  · replace h := h.2 c_1
    exact g_vret C hR (Nat.le_of_ble_eq_true rfl) (Nat.le_of_ble_eq_true rfl) dX11_sieves_7 ⟨isSieved, marks, rfl, rfl, h⟩
theorem dX11_forgets_0 : decode cX11_forgets 0 = .ok (.aload_n 0, 1) := by decide +kernel
theorem dX11_forgets_1 : decode cX11_forgets 1 = .ok (.iconst (-1), 1) := by decide +kernel
theorem dX11_forgets_2 : decode cX11_forgets 2 = .ok (.putfield 295, 3) := by decide +kernel
theorem dX11_forgets_5 : decode cX11_forgets 5 = .ok (.return_, 1) := by decide +kernel
/-- QuotientSumsModel.forgets()V -/
def wX11_forgets (thrown : Int32) (taped : Int32) (lines : Int32) (size : Int32) (atF : Int32) (place : Int32) (sort : Int32) (value : Int32) (fault : Int32) (faultPlace : Int32) (lastFault : Int32) (lastPlace : Int32) (undoable : Int32) (hasImage : Int32) (rowOf : Int32) (areSums : Int32) (isSieved : Int32) (blocks : Int32) (drawn : Int32)  (Q : (Int32) → Prop) : Prop :=
  (Q (-1))
set_option maxHeartbeats 4000000 in
set_option maxRecDepth 100000 in
theorem mX11_forgets (l : Launch) (D : va_G) (Y : Nat → ClassId) (h0 : Nat) (thrown : Int32) (v_tape : Value) (taped : Int32) (v_number : Value) (v_isTold : Value) (v_name : Value) (v_sortOf : Value) (v_first : Value) (v_second : Value) (v_degree : Value) (v_colours : Value) (v_signBy : Value) (v_own : Value) (lines : Int32) (size : Int32) (atF : Int32) (place : Int32) (sort : Int32) (value : Int32) (fault : Int32) (faultPlace : Int32) (lastFault : Int32) (lastPlace : Int32) (v_sF : Value) (v_kept : Value) (undoable : Int32) (hasImage : Int32) (v_power : Value) (v_table : Value) (v_marks : Value) (v_row : Value) (rowOf : Int32) (areSums : Int32) (isSieved : Int32) (v_lastOf : Value) (blocks : Int32) (v_inBlock : Value) (v_atQuotient : Value) (v_small : Value) (drawn : Int32)  (Q : (Int32) → Prop) (h : wX11_forgets thrown taped lines size atF place sort value fault faultPlace lastFault lastPlace undoable hasImage rowOf areSums isSieved blocks drawn Q) : gM l D Y yX11_forgets cX11_forgets 1 none 0 0 0 0 [.ref h0] [oX11 h0 thrown (v_tape) taped (v_number) (v_isTold) (v_name) (v_sortOf) (v_first) (v_second) (v_degree) (v_colours) (v_signBy) (v_own) lines size atF place sort value fault faultPlace lastFault lastPlace (v_sF) (v_kept) undoable hasImage (v_power) (v_table) (v_marks) (v_row) rowOf areSums isSieved (v_lastOf) blocks (v_inBlock) (v_atQuotient) (v_small) drawn] (fun v w => ∃ rowOf' : Int32, v = none ∧ w = [oX11 h0 thrown (v_tape) taped (v_number) (v_isTold) (v_name) (v_sortOf) (v_first) (v_second) (v_degree) (v_colours) (v_signBy) (v_own) lines size atF place sort value fault faultPlace lastFault lastPlace (v_sF) (v_kept) undoable hasImage (v_power) (v_table) (v_marks) (v_row) rowOf' areSums isSieved (v_lastOf) blocks (v_inBlock) (v_atQuotient) (v_small) drawn] ∧ Q rowOf') := by
  refine gM_of (own := RX11) (by decide +kernel) rfl (Nat.le_of_ble_eq_true rfl) rfl (fun E C hR => ?_)
  unfold wX11_forgets at h
  refine g_aload_n C dX11_forgets_0 0 rfl ?_
  refine g_iconst (v := (-1)) C dX11_forgets_1 rfl ?_
  refine g_put C inX11 tyX11 tyX11_ok nmX11 0 rfl rfl 31 (by decide) wF_X11_295 rfl rfl rfl (Nat.le_of_ble_eq_true rfl) (ws' := [oX11 h0 thrown (v_tape) taped (v_number) (v_isTold) (v_name) (v_sortOf) (v_first) (v_second) (v_degree) (v_colours) (v_signBy) (v_own) lines size atF place sort value fault faultPlace lastFault lastPlace (v_sF) (v_kept) undoable hasImage (v_power) (v_table) (v_marks) (v_row) (-1) areSums isSieved (v_lastOf) blocks (v_inBlock) (v_atQuotient) (v_small) drawn]) rfl dX11_forgets_2 ?_
  exact g_vret C hR (Nat.le_of_ble_eq_true rfl) (Nat.le_of_ble_eq_true rfl) dX11_forgets_5 ⟨(-1), rfl, rfl, h⟩
theorem dX11_begins_0 : decode cX11_begins 0 = .ok (.aload_n 0, 1) := by decide +kernel
theorem dX11_begins_1 : decode cX11_begins 1 = .ok (.getfield 48, 3) := by decide +kernel
theorem dX11_begins_4 : decode cX11_begins 4 = .ok (.iconst 0, 1) := by decide +kernel
theorem dX11_begins_5 : decode cX11_begins 5 = .ok (.aload_n 0, 1) := by decide +kernel
theorem dX11_begins_6 : decode cX11_begins 6 = .ok (.getfield 13, 3) := by decide +kernel
theorem dX11_begins_9 : decode cX11_begins 9 = .ok (.iconst 0, 1) := by decide +kernel
theorem dX11_begins_10 : decode cX11_begins 10 = .ok (.iaload, 1) := by decide +kernel
theorem dX11_begins_11 : decode cX11_begins 11 = .ok (.iastore, 1) := by decide +kernel
theorem dX11_begins_12 : decode cX11_begins 12 = .ok (.aload_n 0, 1) := by decide +kernel
theorem dX11_begins_13 : decode cX11_begins 13 = .ok (.getfield 48, 3) := by decide +kernel
theorem dX11_begins_16 : decode cX11_begins 16 = .ok (.iconst 1, 1) := by decide +kernel
theorem dX11_begins_17 : decode cX11_begins 17 = .ok (.aload_n 0, 1) := by decide +kernel
theorem dX11_begins_18 : decode cX11_begins 18 = .ok (.getfield 13, 3) := by decide +kernel
theorem dX11_begins_21 : decode cX11_begins 21 = .ok (.iconst 1, 1) := by decide +kernel
theorem dX11_begins_22 : decode cX11_begins 22 = .ok (.iaload, 1) := by decide +kernel
theorem dX11_begins_23 : decode cX11_begins 23 = .ok (.iastore, 1) := by decide +kernel
theorem dX11_begins_24 : decode cX11_begins 24 = .ok (.iconst 0, 1) := by decide +kernel
theorem dX11_begins_25 : decode cX11_begins 25 = .ok (.istore_n 1, 1) := by decide +kernel
theorem dX11_begins_26 : decode cX11_begins 26 = .ok (.iload_n 1, 1) := by decide +kernel
theorem dX11_begins_27 : decode cX11_begins 27 = .ok (.bipush 72, 2) := by decide +kernel
theorem dX11_begins_29 : decode cX11_begins 29 = .ok (.if_icmp .ge 26, 3) := by decide +kernel
theorem dX11_begins_32 : decode cX11_begins 32 = .ok (.aload_n 0, 1) := by decide +kernel
theorem dX11_begins_33 : decode cX11_begins 33 = .ok (.getfield 48, 3) := by decide +kernel
theorem dX11_begins_36 : decode cX11_begins 36 = .ok (.iconst 2, 1) := by decide +kernel
theorem dX11_begins_37 : decode cX11_begins 37 = .ok (.iload_n 1, 1) := by decide +kernel
theorem dX11_begins_38 : decode cX11_begins 38 = .ok (.iadd, 1) := by decide +kernel
theorem dX11_begins_39 : decode cX11_begins 39 = .ok (.aload_n 0, 1) := by decide +kernel
theorem dX11_begins_40 : decode cX11_begins 40 = .ok (.getfield 41, 3) := by decide +kernel
theorem dX11_begins_43 : decode cX11_begins 43 = .ok (.bipush 72, 2) := by decide +kernel
theorem dX11_begins_45 : decode cX11_begins 45 = .ok (.iload_n 1, 1) := by decide +kernel
theorem dX11_begins_46 : decode cX11_begins 46 = .ok (.iadd, 1) := by decide +kernel
theorem dX11_begins_47 : decode cX11_begins 47 = .ok (.iaload, 1) := by decide +kernel
theorem dX11_begins_48 : decode cX11_begins 48 = .ok (.iastore, 1) := by decide +kernel
theorem dX11_begins_49 : decode cX11_begins 49 = .ok (.iinc 1 1, 3) := by decide +kernel
theorem dX11_begins_52 : decode cX11_begins 52 = .ok (.goto (-26), 3) := by decide +kernel
theorem dX11_begins_55 : decode cX11_begins 55 = .ok (.aload_n 0, 1) := by decide +kernel
theorem dX11_begins_56 : decode cX11_begins 56 = .ok (.invokevirtual 229, 3) := by decide +kernel
theorem dX11_begins_59 : decode cX11_begins 59 = .ok (.aload_n 0, 1) := by decide +kernel
theorem dX11_begins_60 : decode cX11_begins 60 = .ok (.invokevirtual 232, 3) := by decide +kernel
theorem dX11_begins_63 : decode cX11_begins 63 = .ok (.return_, 1) := by decide +kernel
/-- QuotientSumsModel.begins()V -/
def wX11_begins (thrown : Int32) (taped : Int32) (lines : Int32) (size : Int32) (atF : Int32) (place : Int32) (sort : Int32) (value : Int32) (fault : Int32) (faultPlace : Int32) (lastFault : Int32) (lastPlace : Int32) (undoable : Int32) (hasImage : Int32) (rowOf : Int32) (areSums : Int32) (isSieved : Int32) (blocks : Int32) (drawn : Int32) (number : Nat → Int32) (sF : Nat → Int32) (own : Nat → Int32) (marks : Nat → Int32)  (Q : (Int32) → (Int32) → (Nat → Int32) → (Nat → Int32) → Prop) : Prop :=
  (∀ e_1 : Int32, e_1 = number 0 → ∀ sF_1 : Nat → Int32, sF_1 = upd sF 0 e_1 → ∀ e_2 : Int32, e_2 = number 1 → ∀ sF_2 : Nat → Int32, sF_2 = upd sF_1 1 e_2 → (∃ (Inv_1 : (Nat → Int32) → (Int32) → Prop) (Mea_1 : (Nat → Int32) → (Int32) → Nat), Inv_1 sF_2 0 ∧ ∀ (sF_3 : Nat → Int32) (x1_1 : Int32), Inv_1 sF_3 x1_1 → ((72 ≤ x1_1 → (∃ (P_1 : (Int32) → (Nat → Int32) → Prop), wX11_sieves thrown taped lines size atF place sort value fault faultPlace lastFault lastPlace undoable hasImage rowOf areSums isSieved blocks drawn marks P_1 ∧ ∀ (isSieved_1 : Int32) (marks_1 : Nat → Int32), P_1 isSieved_1 marks_1 → ∃ (P_2 : (Int32) → Prop), wX11_forgets thrown taped lines size atF place sort value fault faultPlace lastFault lastPlace undoable hasImage rowOf areSums isSieved_1 blocks drawn P_2 ∧ ∀ (rowOf_1 : Int32), P_2 rowOf_1 → (Q rowOf_1 isSieved_1 sF_3 marks_1))) ∧ (¬ 72 ≤ x1_1 → (vp_in (72 + x1_1) 288 ∧ ∀ e_3 : Int32, e_3 = own (72 + x1_1).toNatClampNeg → vp_in (2 + x1_1) 74 ∧ ∀ sF_4 : Nat → Int32, sF_4 = upd sF_3 (2 + x1_1).toNatClampNeg e_3 → (Inv_1 sF_4 (x1_1 + 1) ∧ Mea_1 sF_4 (x1_1 + 1) < Mea_1 sF_3 x1_1))))))
set_option maxHeartbeats 4000000 in
set_option maxRecDepth 100000 in
theorem mX11_begins (l : Launch) (D : va_G) (Y : Nat → ClassId) (h0 : Nat) (thrown : Int32) (v_tape : Value) (taped : Int32) (q_number : Nat) (v_isTold : Value) (v_name : Value) (v_sortOf : Value) (v_first : Value) (v_second : Value) (v_degree : Value) (v_colours : Value) (v_signBy : Value) (q_own : Nat) (lines : Int32) (size : Int32) (atF : Int32) (place : Int32) (sort : Int32) (value : Int32) (fault : Int32) (faultPlace : Int32) (lastFault : Int32) (lastPlace : Int32) (q_sF : Nat) (v_kept : Value) (undoable : Int32) (hasImage : Int32) (v_power : Value) (v_table : Value) (q_marks : Nat) (v_row : Value) (rowOf : Int32) (areSums : Int32) (isSieved : Int32) (v_lastOf : Value) (blocks : Int32) (v_inBlock : Value) (v_atQuotient : Value) (v_small : Value) (drawn : Int32) (number : Nat → Int32) (sF : Nat → Int32) (own : Nat → Int32) (marks : Nat → Int32)  (Q : (Int32) → (Int32) → (Nat → Int32) → (Nat → Int32) → Prop) (h : wX11_begins thrown taped lines size atF place sort value fault faultPlace lastFault lastPlace undoable hasImage rowOf areSums isSieved blocks drawn number sF own marks Q) : gM l D Y yX11_begins cX11_begins 2 none 2 43 0 0 [.ref h0] [oX11 h0 thrown (v_tape) taped (.ref q_number) (v_isTold) (v_name) (v_sortOf) (v_first) (v_second) (v_degree) (v_colours) (v_signBy) (.ref q_own) lines size atF place sort value fault faultPlace lastFault lastPlace (.ref q_sF) (v_kept) undoable hasImage (v_power) (v_table) (.ref q_marks) (v_row) rowOf areSums isSieved (v_lastOf) blocks (v_inBlock) (v_atQuotient) (v_small) drawn, aI Y q_number 8 number, aI Y q_sF 74 sF, aI Y q_own 288 own, aI Y q_marks 6251 marks] (fun v w => ∃ rowOf' : Int32, ∃ isSieved' : Int32, ∃ sF' : Nat → Int32, ∃ marks' : Nat → Int32, v = none ∧ w = [oX11 h0 thrown (v_tape) taped (.ref q_number) (v_isTold) (v_name) (v_sortOf) (v_first) (v_second) (v_degree) (v_colours) (v_signBy) (.ref q_own) lines size atF place sort value fault faultPlace lastFault lastPlace (.ref q_sF) (v_kept) undoable hasImage (v_power) (v_table) (.ref q_marks) (v_row) rowOf' areSums isSieved' (v_lastOf) blocks (v_inBlock) (v_atQuotient) (v_small) drawn, aI Y q_number 8 number, aI Y q_sF 74 sF', aI Y q_own 288 own, aI Y q_marks 6251 marks'] ∧ Q rowOf' isSieved' sF' marks') := by
  refine gM_of (own := RX11) (by decide +kernel) rfl (Nat.le_of_ble_eq_true rfl) rfl (fun E C hR => ?_)
  unfold wX11_begins at h
  refine g_aload_n C dX11_begins_0 0 rfl ?_
  refine g_get C inX11 0 rfl rfl 23 (by decide) wF_X11_48 rfl dX11_begins_1 ?_
  refine g_iconst (v := 0) C dX11_begins_4 rfl ?_
  refine g_aload_n C dX11_begins_5 0 rfl ?_
  refine g_get C inX11 0 rfl rfl 3 (by decide) wF_X11_13 rfl dX11_begins_6 ?_
  refine g_iconst (v := 0) C dX11_begins_9 rfl ?_
  refine g_iald C 1 rfl (by unfold vp_in; decide) dX11_begins_10 ?_
  refine g_topi (fun e_1 ee_1 => ?_)
  replace h := h e_1 ee_1
  refine g_iast C 2 rfl (by unfold vp_in; decide) dX11_begins_11 (fun sF_1 esF_1 => gG.eqw (ws' := [oX11 h0 thrown (v_tape) taped (.ref q_number) (v_isTold) (v_name) (v_sortOf) (v_first) (v_second) (v_degree) (v_colours) (v_signBy) (.ref q_own) lines size atF place sort value fault faultPlace lastFault lastPlace (.ref q_sF) (v_kept) undoable hasImage (v_power) (v_table) (.ref q_marks) (v_row) rowOf areSums isSieved (v_lastOf) blocks (v_inBlock) (v_atQuotient) (v_small) drawn, aI Y q_number 8 number, aI Y q_sF 74 sF_1, aI Y q_own 288 own, aI Y q_marks 6251 marks]) rfl ?_)
  replace h := h sF_1 esF_1
  refine g_aload_n C dX11_begins_12 0 rfl ?_
  refine g_get C inX11 0 rfl rfl 23 (by decide) wF_X11_48 rfl dX11_begins_13 ?_
  refine g_iconst (v := 1) C dX11_begins_16 rfl ?_
  refine g_aload_n C dX11_begins_17 0 rfl ?_
  refine g_get C inX11 0 rfl rfl 3 (by decide) wF_X11_13 rfl dX11_begins_18 ?_
  refine g_iconst (v := 1) C dX11_begins_21 rfl ?_
  refine g_iald C 1 rfl (by unfold vp_in; decide) dX11_begins_22 ?_
  refine g_topi (fun e_2 ee_2 => ?_)
  replace h := h e_2 ee_2
  refine g_iast C 2 rfl (by unfold vp_in; decide) dX11_begins_23 (fun sF_2 esF_2 => gG.eqw (ws' := [oX11 h0 thrown (v_tape) taped (.ref q_number) (v_isTold) (v_name) (v_sortOf) (v_first) (v_second) (v_degree) (v_colours) (v_signBy) (.ref q_own) lines size atF place sort value fault faultPlace lastFault lastPlace (.ref q_sF) (v_kept) undoable hasImage (v_power) (v_table) (.ref q_marks) (v_row) rowOf areSums isSieved (v_lastOf) blocks (v_inBlock) (v_atQuotient) (v_small) drawn, aI Y q_number 8 number, aI Y q_sF 74 sF_2, aI Y q_own 288 own, aI Y q_marks 6251 marks]) rfl ?_)
  replace h := h sF_2 esF_2
  refine g_iconst (v := 0) C dX11_begins_24 rfl ?_
  refine g_istore_n (lv' := [(1, .int 0), (0, .ref h0)]) C dX11_begins_25 (by decide) rfl ?_
  obtain ⟨Inv_1, Mea_1, hI1, hB1⟩ := h
  have key_1 : ∀ (n : Nat) (sF_3 : Nat → Int32) (x1_1 : Int32) , Mea_1 sF_3 x1_1 < n → Inv_1 sF_3 x1_1 → gG E 0 0 [oX11 h0 thrown (v_tape) taped (.ref q_number) (v_isTold) (v_name) (v_sortOf) (v_first) (v_second) (v_degree) (v_colours) (v_signBy) (.ref q_own) lines size atF place sort value fault faultPlace lastFault lastPlace (.ref q_sF) (v_kept) undoable hasImage (v_power) (v_table) (.ref q_marks) (v_row) rowOf areSums isSieved (v_lastOf) blocks (v_inBlock) (v_atQuotient) (v_small) drawn, aI Y q_number 8 number, aI Y q_sF 74 sF_3, aI Y q_own 288 own, aI Y q_marks 6251 marks] [(0, .ref h0), (1, .int x1_1)] [] 26 := by
    intro n
    induction n with
    | zero => exact fun _ _ hm => absurd hm (Nat.not_lt_zero _)
    | succ n ih1 =>
      intro sF_3 x1_1  hm1 hI
      have h := hB1 sF_3 x1_1 hI
      refine g_iload_n C dX11_begins_26 1 rfl ?_
      refine g_bipush (v := 72) C dX11_begins_27 rfl ?_
      refine g_icmp_ge (tgt := 55) C dX11_begins_29 (by decide) (fun c_1 => ?_) (fun c_1 => ?_)
      · replace h := h.1 c_1
        refine g_aload_n C dX11_begins_55 0 rfl ?_
        obtain ⟨P_1, hP, h⟩ := h
        refine g_callV (As := []) (rest := []) C (mX11_sieves l D Y h0 thrown v_tape taped (.ref q_number) v_isTold v_name v_sortOf v_first v_second v_degree v_colours v_signBy (.ref q_own) lines size atF place sort value fault faultPlace lastFault lastPlace (.ref q_sF) v_kept undoable hasImage v_power v_table q_marks v_row rowOf areSums isSieved v_lastOf blocks v_inBlock v_atQuotient v_small drawn marks P_1 hP) dX11_begins_56 rfl wM_X11_229 wI_X11_sieves wV_X11_sieves wN_X11 wC_X11_sieves (n := 0) (by decide +kernel) rfl (q0 := 0) rfl rfl ⟨Nat.le_of_ble_eq_true rfl, Nat.le_of_ble_eq_true rfl⟩ ⟨Nat.le_of_ble_eq_true rfl, Nat.le_of_ble_eq_true rfl⟩ (Nat.le_of_ble_eq_true rfl) [0, 4] [1, 2, 3] rfl rfl rfl (fun v wc hv => ?_)
        obtain ⟨isSieved_1, marks_1, rfl, rfl, hq⟩ := hv
        replace h := h isSieved_1 marks_1 hq
        refine gG.perm (ws' := [oX11 h0 thrown (v_tape) taped (.ref q_number) (v_isTold) (v_name) (v_sortOf) (v_first) (v_second) (v_degree) (v_colours) (v_signBy) (.ref q_own) lines size atF place sort value fault faultPlace lastFault lastPlace (.ref q_sF) (v_kept) undoable hasImage (v_power) (v_table) (.ref q_marks) (v_row) rowOf areSums isSieved_1 (v_lastOf) blocks (v_inBlock) (v_atQuotient) (v_small) drawn, aI Y q_number 8 number, aI Y q_sF 74 sF_3, aI Y q_own 288 own, aI Y q_marks 6251 marks_1]) [3, 0, 1, 2, 4] rfl rfl ?_
        refine g_aload_n C dX11_begins_59 0 rfl ?_
        obtain ⟨P_2, hP, h⟩ := h
        refine g_callV (As := []) (rest := []) C (mX11_forgets l D Y h0 thrown v_tape taped (.ref q_number) v_isTold v_name v_sortOf v_first v_second v_degree v_colours v_signBy (.ref q_own) lines size atF place sort value fault faultPlace lastFault lastPlace (.ref q_sF) v_kept undoable hasImage v_power v_table (.ref q_marks) v_row rowOf areSums isSieved_1 v_lastOf blocks v_inBlock v_atQuotient v_small drawn P_2 hP) dX11_begins_60 rfl wM_X11_232 wI_X11_forgets wV_X11_forgets wN_X11 wC_X11_forgets (n := 0) (by decide +kernel) rfl (q0 := 0) rfl rfl ⟨Nat.le_of_ble_eq_true rfl, Nat.le_of_ble_eq_true rfl⟩ ⟨Nat.le_of_ble_eq_true rfl, Nat.le_of_ble_eq_true rfl⟩ (Nat.le_of_ble_eq_true rfl) [0] [1, 2, 3, 4] rfl rfl rfl (fun v wc hv => ?_)
        obtain ⟨rowOf_1, rfl, rfl, hq⟩ := hv
        replace h := h rowOf_1 hq
        refine gG.perm (ws' := [oX11 h0 thrown (v_tape) taped (.ref q_number) (v_isTold) (v_name) (v_sortOf) (v_first) (v_second) (v_degree) (v_colours) (v_signBy) (.ref q_own) lines size atF place sort value fault faultPlace lastFault lastPlace (.ref q_sF) (v_kept) undoable hasImage (v_power) (v_table) (.ref q_marks) (v_row) rowOf_1 areSums isSieved_1 (v_lastOf) blocks (v_inBlock) (v_atQuotient) (v_small) drawn, aI Y q_number 8 number, aI Y q_sF 74 sF_3, aI Y q_own 288 own, aI Y q_marks 6251 marks_1]) [4, 0, 1, 2, 3] rfl rfl ?_
        exact g_vret C hR (Nat.le_of_ble_eq_true rfl) (Nat.le_of_ble_eq_true rfl) dX11_begins_63 ⟨rowOf_1, isSieved_1, sF_3, marks_1, rfl, rfl, h⟩
      · replace h := h.2 c_1
        refine g_aload_n C dX11_begins_32 0 rfl ?_
        refine g_get C inX11 0 rfl rfl 23 (by decide) wF_X11_48 rfl dX11_begins_33 ?_
        refine g_iconst (v := 2) C dX11_begins_36 rfl ?_
        refine g_iload_n C dX11_begins_37 1 rfl ?_
        refine g_iadd C dX11_begins_38 ?_
        refine g_aload_n C dX11_begins_39 0 rfl ?_
        refine g_get C inX11 0 rfl rfl 12 (by decide) wF_X11_41 rfl dX11_begins_40 ?_
        refine g_bipush (v := 72) C dX11_begins_43 rfl ?_
        refine g_iload_n C dX11_begins_45 1 rfl ?_
        refine g_iadd C dX11_begins_46 ?_
        obtain ⟨hc_1, h⟩ := h
        refine g_iald C 3 rfl hc_1 dX11_begins_47 ?_
        refine g_topi (fun e_3 ee_3 => ?_)
        replace h := h e_3 ee_3
        obtain ⟨hc_2, h⟩ := h
        refine g_iast C 2 rfl hc_2 dX11_begins_48 (fun sF_4 esF_4 => gG.eqw (ws' := [oX11 h0 thrown (v_tape) taped (.ref q_number) (v_isTold) (v_name) (v_sortOf) (v_first) (v_second) (v_degree) (v_colours) (v_signBy) (.ref q_own) lines size atF place sort value fault faultPlace lastFault lastPlace (.ref q_sF) (v_kept) undoable hasImage (v_power) (v_table) (.ref q_marks) (v_row) rowOf areSums isSieved (v_lastOf) blocks (v_inBlock) (v_atQuotient) (v_small) drawn, aI Y q_number 8 number, aI Y q_sF 74 sF_4, aI Y q_own 288 own, aI Y q_marks 6251 marks]) rfl ?_)
        replace h := h sF_4 esF_4
        refine g_iinc (v := x1_1 + 1) (lv' := [(1, .int (x1_1 + 1)), (0, .ref h0)]) C dX11_begins_49 1 rfl rfl (by decide) rfl ?_
        refine g_goto (tgt := 26) C dX11_begins_52 (by decide) ?_
        refine gG.locals (lv' := [(0, .ref h0), (1, .int (x1_1 + 1))]) [1, 0] rfl ?_
        exact ih1 sF_4 (x1_1 + 1) (Nat.lt_of_lt_of_le h.2 (Nat.le_of_lt_succ hm1)) h.1
  refine gG.locals (lv' := [(0, .ref h0), (1, .int 0)]) [1, 0] rfl ?_
  exact key_1 (Mea_1 sF_2 0 + 1) sF_2 0 (Nat.lt_succ_self _) hI1
theorem dX11_thrown_0 : decode cX11_thrown 0 = .ok (.aload_n 0, 1) := by decide +kernel
theorem dX11_thrown_1 : decode cX11_thrown 1 = .ok (.getfield 89, 3) := by decide +kernel
theorem dX11_thrown_4 : decode cX11_thrown 4 = .ok (.ireturn, 1) := by decide +kernel
/-- QuotientSumsModel.thrown()I -/
def wX11_thrown (thrown : Int32) (taped : Int32) (lines : Int32) (size : Int32) (atF : Int32) (place : Int32) (sort : Int32) (value : Int32) (fault : Int32) (faultPlace : Int32) (lastFault : Int32) (lastPlace : Int32) (undoable : Int32) (hasImage : Int32) (rowOf : Int32) (areSums : Int32) (isSieved : Int32) (blocks : Int32) (drawn : Int32)  (Q : (Int32) → Prop) : Prop :=
  (Q thrown)
set_option maxHeartbeats 4000000 in
set_option maxRecDepth 100000 in
theorem mX11_thrown (l : Launch) (D : va_G) (Y : Nat → ClassId) (h0 : Nat) (thrown : Int32) (v_tape : Value) (taped : Int32) (v_number : Value) (v_isTold : Value) (v_name : Value) (v_sortOf : Value) (v_first : Value) (v_second : Value) (v_degree : Value) (v_colours : Value) (v_signBy : Value) (v_own : Value) (lines : Int32) (size : Int32) (atF : Int32) (place : Int32) (sort : Int32) (value : Int32) (fault : Int32) (faultPlace : Int32) (lastFault : Int32) (lastPlace : Int32) (v_sF : Value) (v_kept : Value) (undoable : Int32) (hasImage : Int32) (v_power : Value) (v_table : Value) (v_marks : Value) (v_row : Value) (rowOf : Int32) (areSums : Int32) (isSieved : Int32) (v_lastOf : Value) (blocks : Int32) (v_inBlock : Value) (v_atQuotient : Value) (v_small : Value) (drawn : Int32)  (Q : (Int32) → Prop) (h : wX11_thrown thrown taped lines size atF place sort value fault faultPlace lastFault lastPlace undoable hasImage rowOf areSums isSieved blocks drawn Q) : gM l D Y yX11_thrown cX11_thrown 1 (some .int) 0 0 0 0 [.ref h0] [oX11 h0 thrown (v_tape) taped (v_number) (v_isTold) (v_name) (v_sortOf) (v_first) (v_second) (v_degree) (v_colours) (v_signBy) (v_own) lines size atF place sort value fault faultPlace lastFault lastPlace (v_sF) (v_kept) undoable hasImage (v_power) (v_table) (v_marks) (v_row) rowOf areSums isSieved (v_lastOf) blocks (v_inBlock) (v_atQuotient) (v_small) drawn] (fun v w => ∃ r : Int32, v = some (.int r) ∧ w = [oX11 h0 thrown (v_tape) taped (v_number) (v_isTold) (v_name) (v_sortOf) (v_first) (v_second) (v_degree) (v_colours) (v_signBy) (v_own) lines size atF place sort value fault faultPlace lastFault lastPlace (v_sF) (v_kept) undoable hasImage (v_power) (v_table) (v_marks) (v_row) rowOf areSums isSieved (v_lastOf) blocks (v_inBlock) (v_atQuotient) (v_small) drawn] ∧ Q r) := by
  refine gM_of (own := RX11) (by decide +kernel) rfl (Nat.le_of_ble_eq_true rfl) rfl (fun E C hR => ?_)
  unfold wX11_thrown at h
  refine g_aload_n C dX11_thrown_0 0 rfl ?_
  refine g_get C inX11 0 rfl rfl 0 (by decide) wF_X11_89 rfl dX11_thrown_1 ?_
  exact g_iret C hR (Nat.le_of_ble_eq_true rfl) (Nat.le_of_ble_eq_true rfl) dX11_thrown_4 ⟨thrown, rfl, rfl, h⟩
theorem dX11_feed_0 : decode cX11_feed 0 = .ok (.aload_n 0, 1) := by decide +kernel
theorem dX11_feed_1 : decode cX11_feed 1 = .ok (.iconst 0, 1) := by decide +kernel
theorem dX11_feed_2 : decode cX11_feed 2 = .ok (.putfield 89, 3) := by decide +kernel
theorem dX11_feed_5 : decode cX11_feed 5 = .ok (.aload_n 0, 1) := by decide +kernel
theorem dX11_feed_6 : decode cX11_feed 6 = .ok (.getfield 92, 3) := by decide +kernel
theorem dX11_feed_9 : decode cX11_feed 9 = .ok (.sipush 680, 3) := by decide +kernel
theorem dX11_feed_12 : decode cX11_feed 12 = .ok (.if_icmp .le 5, 3) := by decide +kernel
theorem dX11_feed_15 : decode cX11_feed 15 = .ok (.iconst (-1), 1) := by decide +kernel
theorem dX11_feed_16 : decode cX11_feed 16 = .ok (.ireturn, 1) := by decide +kernel
theorem dX11_feed_17 : decode cX11_feed 17 = .ok (.iconst 0, 1) := by decide +kernel
theorem dX11_feed_18 : decode cX11_feed 18 = .ok (.istore 6, 2) := by decide +kernel
theorem dX11_feed_20 : decode cX11_feed 20 = .ok (.iload 6, 2) := by decide +kernel
theorem dX11_feed_22 : decode cX11_feed 22 = .ok (.bipush 20, 2) := by decide +kernel
theorem dX11_feed_24 : decode cX11_feed 24 = .ok (.if_icmp .ge 86, 3) := by decide +kernel
theorem dX11_feed_27 : decode cX11_feed 27 = .ok (.iload 6, 2) := by decide +kernel
theorem dX11_feed_29 : decode cX11_feed 29 = .ok (.iconst 4, 1) := by decide +kernel
theorem dX11_feed_30 : decode cX11_feed 30 = .ok (.if_icmp .ge 7, 3) := by decide +kernel
theorem dX11_feed_33 : decode cX11_feed 33 = .ok (.iload_n 1, 1) := by decide +kernel
theorem dX11_feed_34 : decode cX11_feed 34 = .ok (.goto 39, 3) := by decide +kernel
theorem dX11_feed_37 : decode cX11_feed 37 = .ok (.iload 6, 2) := by decide +kernel
theorem dX11_feed_39 : decode cX11_feed 39 = .ok (.bipush 8, 2) := by decide +kernel
theorem dX11_feed_41 : decode cX11_feed 41 = .ok (.if_icmp .ge 7, 3) := by decide +kernel
theorem dX11_feed_44 : decode cX11_feed 44 = .ok (.iload_n 2, 1) := by decide +kernel
theorem dX11_feed_45 : decode cX11_feed 45 = .ok (.goto 28, 3) := by decide +kernel
theorem dX11_feed_48 : decode cX11_feed 48 = .ok (.iload 6, 2) := by decide +kernel
theorem dX11_feed_50 : decode cX11_feed 50 = .ok (.bipush 12, 2) := by decide +kernel
theorem dX11_feed_52 : decode cX11_feed 52 = .ok (.if_icmp .ge 7, 3) := by decide +kernel
theorem dX11_feed_55 : decode cX11_feed 55 = .ok (.iload_n 3, 1) := by decide +kernel
theorem dX11_feed_56 : decode cX11_feed 56 = .ok (.goto 17, 3) := by decide +kernel
theorem dX11_feed_59 : decode cX11_feed 59 = .ok (.iload 6, 2) := by decide +kernel
theorem dX11_feed_61 : decode cX11_feed 61 = .ok (.bipush 16, 2) := by decide +kernel
theorem dX11_feed_63 : decode cX11_feed 63 = .ok (.if_icmp .ge 8, 3) := by decide +kernel
theorem dX11_feed_66 : decode cX11_feed 66 = .ok (.iload 4, 2) := by decide +kernel
theorem dX11_feed_68 : decode cX11_feed 68 = .ok (.goto 5, 3) := by decide +kernel
theorem dX11_feed_71 : decode cX11_feed 71 = .ok (.iload 5, 2) := by decide +kernel
theorem dX11_feed_73 : decode cX11_feed 73 = .ok (.istore 7, 2) := by decide +kernel
theorem dX11_feed_75 : decode cX11_feed 75 = .ok (.aload_n 0, 1) := by decide +kernel
theorem dX11_feed_76 : decode cX11_feed 76 = .ok (.getfield 7, 3) := by decide +kernel
theorem dX11_feed_79 : decode cX11_feed 79 = .ok (.aload_n 0, 1) := by decide +kernel
theorem dX11_feed_80 : decode cX11_feed 80 = .ok (.getfield 92, 3) := by decide +kernel
theorem dX11_feed_83 : decode cX11_feed 83 = .ok (.iload 6, 2) := by decide +kernel
theorem dX11_feed_85 : decode cX11_feed 85 = .ok (.iadd, 1) := by decide +kernel
theorem dX11_feed_86 : decode cX11_feed 86 = .ok (.iload 7, 2) := by decide +kernel
theorem dX11_feed_88 : decode cX11_feed 88 = .ok (.bipush 24, 2) := by decide +kernel
theorem dX11_feed_90 : decode cX11_feed 90 = .ok (.bipush 8, 2) := by decide +kernel
theorem dX11_feed_92 : decode cX11_feed 92 = .ok (.iload 6, 2) := by decide +kernel
theorem dX11_feed_94 : decode cX11_feed 94 = .ok (.iconst 4, 1) := by decide +kernel
theorem dX11_feed_95 : decode cX11_feed 95 = .ok (.irem, 1) := by decide +kernel
theorem dX11_feed_96 : decode cX11_feed 96 = .ok (.imul, 1) := by decide +kernel
theorem dX11_feed_97 : decode cX11_feed 97 = .ok (.isub, 1) := by decide +kernel
theorem dX11_feed_98 : decode cX11_feed 98 = .ok (.ishr, 1) := by decide +kernel
theorem dX11_feed_99 : decode cX11_feed 99 = .ok (.sipush 255, 3) := by decide +kernel
theorem dX11_feed_102 : decode cX11_feed 102 = .ok (.iand, 1) := by decide +kernel
theorem dX11_feed_103 : decode cX11_feed 103 = .ok (.iastore, 1) := by decide +kernel
theorem dX11_feed_104 : decode cX11_feed 104 = .ok (.iinc 6 1, 3) := by decide +kernel
theorem dX11_feed_107 : decode cX11_feed 107 = .ok (.goto (-87), 3) := by decide +kernel
theorem dX11_feed_110 : decode cX11_feed 110 = .ok (.aload_n 0, 1) := by decide +kernel
theorem dX11_feed_111 : decode cX11_feed 111 = .ok (.dup, 1) := by decide +kernel
theorem dX11_feed_112 : decode cX11_feed 112 = .ok (.getfield 92, 3) := by decide +kernel
theorem dX11_feed_115 : decode cX11_feed 115 = .ok (.bipush 20, 2) := by decide +kernel
theorem dX11_feed_117 : decode cX11_feed 117 = .ok (.iadd, 1) := by decide +kernel
theorem dX11_feed_118 : decode cX11_feed 118 = .ok (.putfield 92, 3) := by decide +kernel
theorem dX11_feed_121 : decode cX11_feed 121 = .ok (.aload_n 0, 1) := by decide +kernel
theorem dX11_feed_122 : decode cX11_feed 122 = .ok (.getfield 92, 3) := by decide +kernel
theorem dX11_feed_125 : decode cX11_feed 125 = .ok (.ireturn, 1) := by decide +kernel
/-- QuotientSumsModel.feed(IIIII)I -/
def wX11_feed (thrown : Int32) (taped : Int32) (lines : Int32) (size : Int32) (atF : Int32) (place : Int32) (sort : Int32) (value : Int32) (fault : Int32) (faultPlace : Int32) (lastFault : Int32) (lastPlace : Int32) (undoable : Int32) (hasImage : Int32) (rowOf : Int32) (areSums : Int32) (isSieved : Int32) (blocks : Int32) (drawn : Int32) (tape : Nat → Int32) (a1 : Int32) (a2 : Int32) (a3 : Int32) (a4 : Int32) (a5 : Int32) (Q : (Int32) → (Int32) → (Int32) → (Nat → Int32) → Prop) : Prop :=
  ((taped ≤ 680 → (∃ (Inv_1 : (Nat → Int32) → (Int32) → Prop) (Mea_1 : (Nat → Int32) → (Int32) → Nat), Inv_1 tape 0 ∧ ∀ (tape_1 : Nat → Int32) (x6_1 : Int32), Inv_1 tape_1 x6_1 → ((20 ≤ x6_1 → (∀ taped_1 : Int32, taped_1 = taped + 20 → (Q taped_1 0 taped_1 tape_1))) ∧ (¬ 20 ≤ x6_1 → ((4 ≤ x6_1 → ((8 ≤ x6_1 → ((12 ≤ x6_1 → ((16 ≤ x6_1 → (∀ e_1 : Int32, e_1 = (a5 >>> ((24 - (8 * (x6_1 - x6_1 / 4 * 4))) &&& 31)) &&& 255 → vp_in (taped + x6_1) 700 ∧ ∀ tape_2 : Nat → Int32, tape_2 = upd tape_1 (taped + x6_1).toNatClampNeg e_1 → (Inv_1 tape_2 (x6_1 + 1) ∧ Mea_1 tape_2 (x6_1 + 1) < Mea_1 tape_1 x6_1))) ∧ (¬ 16 ≤ x6_1 → (∀ e_2 : Int32, e_2 = (a4 >>> ((24 - (8 * (x6_1 - x6_1 / 4 * 4))) &&& 31)) &&& 255 → vp_in (taped + x6_1) 700 ∧ ∀ tape_3 : Nat → Int32, tape_3 = upd tape_1 (taped + x6_1).toNatClampNeg e_2 → (Inv_1 tape_3 (x6_1 + 1) ∧ Mea_1 tape_3 (x6_1 + 1) < Mea_1 tape_1 x6_1))))) ∧ (¬ 12 ≤ x6_1 → (∀ e_3 : Int32, e_3 = (a3 >>> ((24 - (8 * (x6_1 - x6_1 / 4 * 4))) &&& 31)) &&& 255 → vp_in (taped + x6_1) 700 ∧ ∀ tape_4 : Nat → Int32, tape_4 = upd tape_1 (taped + x6_1).toNatClampNeg e_3 → (Inv_1 tape_4 (x6_1 + 1) ∧ Mea_1 tape_4 (x6_1 + 1) < Mea_1 tape_1 x6_1))))) ∧ (¬ 8 ≤ x6_1 → (∀ e_4 : Int32, e_4 = (a2 >>> ((24 - (8 * (x6_1 - x6_1 / 4 * 4))) &&& 31)) &&& 255 → vp_in (taped + x6_1) 700 ∧ ∀ tape_5 : Nat → Int32, tape_5 = upd tape_1 (taped + x6_1).toNatClampNeg e_4 → (Inv_1 tape_5 (x6_1 + 1) ∧ Mea_1 tape_5 (x6_1 + 1) < Mea_1 tape_1 x6_1))))) ∧ (¬ 4 ≤ x6_1 → (∀ e_5 : Int32, e_5 = (a1 >>> ((24 - (8 * (x6_1 - x6_1 / 4 * 4))) &&& 31)) &&& 255 → vp_in (taped + x6_1) 700 ∧ ∀ tape_6 : Nat → Int32, tape_6 = upd tape_1 (taped + x6_1).toNatClampNeg e_5 → (Inv_1 tape_6 (x6_1 + 1) ∧ Mea_1 tape_6 (x6_1 + 1) < Mea_1 tape_1 x6_1)))))))) ∧ (¬ taped ≤ 680 → (Q (-1) 0 taped tape)))
set_option maxHeartbeats 4000000 in
set_option maxRecDepth 100000 in
theorem mX11_feed (l : Launch) (D : va_G) (Y : Nat → ClassId) (h0 : Nat) (thrown : Int32) (q_tape : Nat) (taped : Int32) (v_number : Value) (v_isTold : Value) (v_name : Value) (v_sortOf : Value) (v_first : Value) (v_second : Value) (v_degree : Value) (v_colours : Value) (v_signBy : Value) (v_own : Value) (lines : Int32) (size : Int32) (atF : Int32) (place : Int32) (sort : Int32) (value : Int32) (fault : Int32) (faultPlace : Int32) (lastFault : Int32) (lastPlace : Int32) (v_sF : Value) (v_kept : Value) (undoable : Int32) (hasImage : Int32) (v_power : Value) (v_table : Value) (v_marks : Value) (v_row : Value) (rowOf : Int32) (areSums : Int32) (isSieved : Int32) (v_lastOf : Value) (blocks : Int32) (v_inBlock : Value) (v_atQuotient : Value) (v_small : Value) (drawn : Int32) (tape : Nat → Int32) (a1 : Int32) (a2 : Int32) (a3 : Int32) (a4 : Int32) (a5 : Int32) (Q : (Int32) → (Int32) → (Int32) → (Nat → Int32) → Prop) (h : wX11_feed thrown taped lines size atF place sort value fault faultPlace lastFault lastPlace undoable hasImage rowOf areSums isSieved blocks drawn tape a1 a2 a3 a4 a5 Q) : gM l D Y yX11_feed cX11_feed 8 (some .int) 0 0 0 0 [.ref h0, .int a1, .int a2, .int a3, .int a4, .int a5] [oX11 h0 thrown (.ref q_tape) taped (v_number) (v_isTold) (v_name) (v_sortOf) (v_first) (v_second) (v_degree) (v_colours) (v_signBy) (v_own) lines size atF place sort value fault faultPlace lastFault lastPlace (v_sF) (v_kept) undoable hasImage (v_power) (v_table) (v_marks) (v_row) rowOf areSums isSieved (v_lastOf) blocks (v_inBlock) (v_atQuotient) (v_small) drawn, aI Y q_tape 700 tape] (fun v w => ∃ r : Int32, ∃ thrown' : Int32, ∃ taped' : Int32, ∃ tape' : Nat → Int32, v = some (.int r) ∧ w = [oX11 h0 thrown' (.ref q_tape) taped' (v_number) (v_isTold) (v_name) (v_sortOf) (v_first) (v_second) (v_degree) (v_colours) (v_signBy) (v_own) lines size atF place sort value fault faultPlace lastFault lastPlace (v_sF) (v_kept) undoable hasImage (v_power) (v_table) (v_marks) (v_row) rowOf areSums isSieved (v_lastOf) blocks (v_inBlock) (v_atQuotient) (v_small) drawn, aI Y q_tape 700 tape'] ∧ Q r thrown' taped' tape') := by
  refine gM_of (own := RX11) (by decide +kernel) rfl (Nat.le_of_ble_eq_true rfl) rfl (fun E C hR => ?_)
  unfold wX11_feed at h
  refine g_aload_n C dX11_feed_0 0 rfl ?_
  refine g_iconst (v := 0) C dX11_feed_1 rfl ?_
  refine g_put C inX11 tyX11 tyX11_ok nmX11 0 rfl rfl 0 (by decide) wF_X11_89 rfl rfl rfl (Nat.le_of_ble_eq_true rfl) (ws' := [oX11 h0 0 (.ref q_tape) taped (v_number) (v_isTold) (v_name) (v_sortOf) (v_first) (v_second) (v_degree) (v_colours) (v_signBy) (v_own) lines size atF place sort value fault faultPlace lastFault lastPlace (v_sF) (v_kept) undoable hasImage (v_power) (v_table) (v_marks) (v_row) rowOf areSums isSieved (v_lastOf) blocks (v_inBlock) (v_atQuotient) (v_small) drawn, aI Y q_tape 700 tape]) rfl dX11_feed_2 ?_
  refine g_aload_n C dX11_feed_5 0 rfl ?_
  refine g_get C inX11 0 rfl rfl 2 (by decide) wF_X11_92 rfl dX11_feed_6 ?_
  refine g_sipush (v := 680) C dX11_feed_9 rfl ?_
  refine g_icmp_le (tgt := 17) C dX11_feed_12 (by decide) (fun c_1 => ?_) (fun c_1 => ?_)
  · replace h := h.1 c_1
    refine g_iconst (v := 0) C dX11_feed_17 rfl ?_
    refine g_istore (lv' := [(6, .int 0), (0, .ref h0), (1, .int a1), (2, .int a2), (3, .int a3), (4, .int a4), (5, .int a5)]) C dX11_feed_18 (by decide) rfl ?_
    obtain ⟨Inv_1, Mea_1, hI1, hB1⟩ := h
    have key_1 : ∀ (n : Nat) (tape_1 : Nat → Int32) (x6_1 : Int32) , Mea_1 tape_1 x6_1 < n → Inv_1 tape_1 x6_1 → gG E 0 0 [oX11 h0 0 (.ref q_tape) taped (v_number) (v_isTold) (v_name) (v_sortOf) (v_first) (v_second) (v_degree) (v_colours) (v_signBy) (v_own) lines size atF place sort value fault faultPlace lastFault lastPlace (v_sF) (v_kept) undoable hasImage (v_power) (v_table) (v_marks) (v_row) rowOf areSums isSieved (v_lastOf) blocks (v_inBlock) (v_atQuotient) (v_small) drawn, aI Y q_tape 700 tape_1] [(0, .ref h0), (1, .int a1), (2, .int a2), (3, .int a3), (4, .int a4), (5, .int a5), (6, .int x6_1)] [] 20 := by
      intro n
      induction n with
      | zero => exact fun _ _ hm => absurd hm (Nat.not_lt_zero _)
      | succ n ih1 =>
        intro tape_1 x6_1  hm1 hI
        have h := hB1 tape_1 x6_1 hI
        refine g_iload C dX11_feed_20 6 rfl ?_
        refine g_bipush (v := 20) C dX11_feed_22 rfl ?_
        refine g_icmp_ge (tgt := 110) C dX11_feed_24 (by decide) (fun c_2 => ?_) (fun c_2 => ?_)
        · replace h := h.1 c_2
          refine g_aload_n C dX11_feed_110 0 rfl ?_
          refine g_dup C dX11_feed_111 rfl ?_
          refine g_get C inX11 0 rfl rfl 2 (by decide) wF_X11_92 rfl dX11_feed_112 ?_
          refine g_bipush (v := 20) C dX11_feed_115 rfl ?_
          refine g_iadd C dX11_feed_117 ?_
          refine g_topi (fun taped_1 etaped_1 => ?_)
          replace h := h taped_1 etaped_1
          refine g_put C inX11 tyX11 tyX11_ok nmX11 0 rfl rfl 2 (by decide) wF_X11_92 rfl rfl rfl (Nat.le_of_ble_eq_true rfl) (ws' := [oX11 h0 0 (.ref q_tape) taped_1 (v_number) (v_isTold) (v_name) (v_sortOf) (v_first) (v_second) (v_degree) (v_colours) (v_signBy) (v_own) lines size atF place sort value fault faultPlace lastFault lastPlace (v_sF) (v_kept) undoable hasImage (v_power) (v_table) (v_marks) (v_row) rowOf areSums isSieved (v_lastOf) blocks (v_inBlock) (v_atQuotient) (v_small) drawn, aI Y q_tape 700 tape_1]) rfl dX11_feed_118 ?_
          refine g_aload_n C dX11_feed_121 0 rfl ?_
          refine g_get C inX11 0 rfl rfl 2 (by decide) wF_X11_92 rfl dX11_feed_122 ?_
          exact g_iret C hR (Nat.le_of_ble_eq_true rfl) (Nat.le_of_ble_eq_true rfl) dX11_feed_125 ⟨taped_1, 0, taped_1, tape_1, rfl, rfl, h⟩
        · replace h := h.2 c_2
          refine g_iload C dX11_feed_27 6 rfl ?_
          refine g_iconst (v := 4) C dX11_feed_29 rfl ?_
          refine g_icmp_ge (tgt := 37) C dX11_feed_30 (by decide) (fun c_3 => ?_) (fun c_3 => ?_)
          · replace h := h.1 c_3
            refine g_iload C dX11_feed_37 6 rfl ?_
            refine g_bipush (v := 8) C dX11_feed_39 rfl ?_
            refine g_icmp_ge (tgt := 48) C dX11_feed_41 (by decide) (fun c_4 => ?_) (fun c_4 => ?_)
            · replace h := h.1 c_4
              refine g_iload C dX11_feed_48 6 rfl ?_
              refine g_bipush (v := 12) C dX11_feed_50 rfl ?_
              refine g_icmp_ge (tgt := 59) C dX11_feed_52 (by decide) (fun c_5 => ?_) (fun c_5 => ?_)
              · replace h := h.1 c_5
                refine g_iload C dX11_feed_59 6 rfl ?_
                refine g_bipush (v := 16) C dX11_feed_61 rfl ?_
                refine g_icmp_ge (tgt := 71) C dX11_feed_63 (by decide) (fun c_6 => ?_) (fun c_6 => ?_)
                · replace h := h.1 c_6
                  refine g_iload C dX11_feed_71 5 rfl ?_
                  refine g_istore (lv' := [(7, .int a5), (0, .ref h0), (1, .int a1), (2, .int a2), (3, .int a3), (4, .int a4), (5, .int a5), (6, .int x6_1)]) C dX11_feed_73 (by decide) rfl ?_
                  refine g_aload_n C dX11_feed_75 1 rfl ?_
                  refine g_get C inX11 0 rfl rfl 1 (by decide) wF_X11_7 rfl dX11_feed_76 ?_
                  refine g_aload_n C dX11_feed_79 1 rfl ?_
                  refine g_get C inX11 0 rfl rfl 2 (by decide) wF_X11_92 rfl dX11_feed_80 ?_
                  refine g_iload C dX11_feed_83 7 rfl ?_
                  refine g_iadd C dX11_feed_85 ?_
                  refine g_iload C dX11_feed_86 0 rfl ?_
                  refine g_bipush (v := 24) C dX11_feed_88 rfl ?_
                  refine g_bipush (v := 8) C dX11_feed_90 rfl ?_
                  refine g_iload C dX11_feed_92 7 rfl ?_
                  refine g_iconst (v := 4) C dX11_feed_94 rfl ?_
                  refine g_irem C dX11_feed_95 (by decide) ?_
                  refine g_imul C dX11_feed_96 ?_
                  refine g_isub C dX11_feed_97 ?_
                  refine g_ishr C dX11_feed_98 ?_
                  refine g_sipush (v := 255) C dX11_feed_99 rfl ?_
                  refine g_iand C dX11_feed_102 ?_
                  refine g_topi (fun e_1 ee_1 => ?_)
                  replace h := h e_1 ee_1
                  obtain ⟨hc_1, h⟩ := h
                  refine g_iast C 1 rfl hc_1 dX11_feed_103 (fun tape_2 etape_2 => gG.eqw (ws' := [oX11 h0 0 (.ref q_tape) taped (v_number) (v_isTold) (v_name) (v_sortOf) (v_first) (v_second) (v_degree) (v_colours) (v_signBy) (v_own) lines size atF place sort value fault faultPlace lastFault lastPlace (v_sF) (v_kept) undoable hasImage (v_power) (v_table) (v_marks) (v_row) rowOf areSums isSieved (v_lastOf) blocks (v_inBlock) (v_atQuotient) (v_small) drawn, aI Y q_tape 700 tape_2]) rfl ?_)
                  replace h := h tape_2 etape_2
                  refine g_iinc (v := x6_1 + 1) (lv' := [(6, .int (x6_1 + 1)), (7, .int a5), (0, .ref h0), (1, .int a1), (2, .int a2), (3, .int a3), (4, .int a4), (5, .int a5)]) C dX11_feed_104 7 rfl rfl (by decide) rfl ?_
                  refine g_goto (tgt := 20) C dX11_feed_107 (by decide) ?_
                  refine gG.locals (lv' := [(0, .ref h0), (1, .int a1), (2, .int a2), (3, .int a3), (4, .int a4), (5, .int a5), (6, .int (x6_1 + 1))]) [2, 3, 4, 5, 6, 7, 0] rfl ?_
                  exact ih1 tape_2 (x6_1 + 1) (Nat.lt_of_lt_of_le h.2 (Nat.le_of_lt_succ hm1)) h.1
                · replace h := h.2 c_6
                  refine g_iload C dX11_feed_66 4 rfl ?_
                  refine g_goto (tgt := 73) C dX11_feed_68 (by decide) ?_
                  refine g_istore (lv' := [(7, .int a4), (0, .ref h0), (1, .int a1), (2, .int a2), (3, .int a3), (4, .int a4), (5, .int a5), (6, .int x6_1)]) C dX11_feed_73 (by decide) rfl ?_
                  refine g_aload_n C dX11_feed_75 1 rfl ?_
                  refine g_get C inX11 0 rfl rfl 1 (by decide) wF_X11_7 rfl dX11_feed_76 ?_
                  refine g_aload_n C dX11_feed_79 1 rfl ?_
                  refine g_get C inX11 0 rfl rfl 2 (by decide) wF_X11_92 rfl dX11_feed_80 ?_
                  refine g_iload C dX11_feed_83 7 rfl ?_
                  refine g_iadd C dX11_feed_85 ?_
                  refine g_iload C dX11_feed_86 0 rfl ?_
                  refine g_bipush (v := 24) C dX11_feed_88 rfl ?_
                  refine g_bipush (v := 8) C dX11_feed_90 rfl ?_
                  refine g_iload C dX11_feed_92 7 rfl ?_
                  refine g_iconst (v := 4) C dX11_feed_94 rfl ?_
                  refine g_irem C dX11_feed_95 (by decide) ?_
                  refine g_imul C dX11_feed_96 ?_
                  refine g_isub C dX11_feed_97 ?_
                  refine g_ishr C dX11_feed_98 ?_
                  refine g_sipush (v := 255) C dX11_feed_99 rfl ?_
                  refine g_iand C dX11_feed_102 ?_
                  refine g_topi (fun e_2 ee_2 => ?_)
                  replace h := h e_2 ee_2
                  obtain ⟨hc_2, h⟩ := h
                  refine g_iast C 1 rfl hc_2 dX11_feed_103 (fun tape_3 etape_3 => gG.eqw (ws' := [oX11 h0 0 (.ref q_tape) taped (v_number) (v_isTold) (v_name) (v_sortOf) (v_first) (v_second) (v_degree) (v_colours) (v_signBy) (v_own) lines size atF place sort value fault faultPlace lastFault lastPlace (v_sF) (v_kept) undoable hasImage (v_power) (v_table) (v_marks) (v_row) rowOf areSums isSieved (v_lastOf) blocks (v_inBlock) (v_atQuotient) (v_small) drawn, aI Y q_tape 700 tape_3]) rfl ?_)
                  replace h := h tape_3 etape_3
                  refine g_iinc (v := x6_1 + 1) (lv' := [(6, .int (x6_1 + 1)), (7, .int a4), (0, .ref h0), (1, .int a1), (2, .int a2), (3, .int a3), (4, .int a4), (5, .int a5)]) C dX11_feed_104 7 rfl rfl (by decide) rfl ?_
                  refine g_goto (tgt := 20) C dX11_feed_107 (by decide) ?_
                  refine gG.locals (lv' := [(0, .ref h0), (1, .int a1), (2, .int a2), (3, .int a3), (4, .int a4), (5, .int a5), (6, .int (x6_1 + 1))]) [2, 3, 4, 5, 6, 7, 0] rfl ?_
                  exact ih1 tape_3 (x6_1 + 1) (Nat.lt_of_lt_of_le h.2 (Nat.le_of_lt_succ hm1)) h.1
              · replace h := h.2 c_5
                refine g_iload_n C dX11_feed_55 3 rfl ?_
                refine g_goto (tgt := 73) C dX11_feed_56 (by decide) ?_
                refine g_istore (lv' := [(7, .int a3), (0, .ref h0), (1, .int a1), (2, .int a2), (3, .int a3), (4, .int a4), (5, .int a5), (6, .int x6_1)]) C dX11_feed_73 (by decide) rfl ?_
                refine g_aload_n C dX11_feed_75 1 rfl ?_
                refine g_get C inX11 0 rfl rfl 1 (by decide) wF_X11_7 rfl dX11_feed_76 ?_
                refine g_aload_n C dX11_feed_79 1 rfl ?_
                refine g_get C inX11 0 rfl rfl 2 (by decide) wF_X11_92 rfl dX11_feed_80 ?_
                refine g_iload C dX11_feed_83 7 rfl ?_
                refine g_iadd C dX11_feed_85 ?_
                refine g_iload C dX11_feed_86 0 rfl ?_
                refine g_bipush (v := 24) C dX11_feed_88 rfl ?_
                refine g_bipush (v := 8) C dX11_feed_90 rfl ?_
                refine g_iload C dX11_feed_92 7 rfl ?_
                refine g_iconst (v := 4) C dX11_feed_94 rfl ?_
                refine g_irem C dX11_feed_95 (by decide) ?_
                refine g_imul C dX11_feed_96 ?_
                refine g_isub C dX11_feed_97 ?_
                refine g_ishr C dX11_feed_98 ?_
                refine g_sipush (v := 255) C dX11_feed_99 rfl ?_
                refine g_iand C dX11_feed_102 ?_
                refine g_topi (fun e_3 ee_3 => ?_)
                replace h := h e_3 ee_3
                obtain ⟨hc_3, h⟩ := h
                refine g_iast C 1 rfl hc_3 dX11_feed_103 (fun tape_4 etape_4 => gG.eqw (ws' := [oX11 h0 0 (.ref q_tape) taped (v_number) (v_isTold) (v_name) (v_sortOf) (v_first) (v_second) (v_degree) (v_colours) (v_signBy) (v_own) lines size atF place sort value fault faultPlace lastFault lastPlace (v_sF) (v_kept) undoable hasImage (v_power) (v_table) (v_marks) (v_row) rowOf areSums isSieved (v_lastOf) blocks (v_inBlock) (v_atQuotient) (v_small) drawn, aI Y q_tape 700 tape_4]) rfl ?_)
                replace h := h tape_4 etape_4
                refine g_iinc (v := x6_1 + 1) (lv' := [(6, .int (x6_1 + 1)), (7, .int a3), (0, .ref h0), (1, .int a1), (2, .int a2), (3, .int a3), (4, .int a4), (5, .int a5)]) C dX11_feed_104 7 rfl rfl (by decide) rfl ?_
                refine g_goto (tgt := 20) C dX11_feed_107 (by decide) ?_
                refine gG.locals (lv' := [(0, .ref h0), (1, .int a1), (2, .int a2), (3, .int a3), (4, .int a4), (5, .int a5), (6, .int (x6_1 + 1))]) [2, 3, 4, 5, 6, 7, 0] rfl ?_
                exact ih1 tape_4 (x6_1 + 1) (Nat.lt_of_lt_of_le h.2 (Nat.le_of_lt_succ hm1)) h.1
            · replace h := h.2 c_4
              refine g_iload_n C dX11_feed_44 2 rfl ?_
              refine g_goto (tgt := 73) C dX11_feed_45 (by decide) ?_
              refine g_istore (lv' := [(7, .int a2), (0, .ref h0), (1, .int a1), (2, .int a2), (3, .int a3), (4, .int a4), (5, .int a5), (6, .int x6_1)]) C dX11_feed_73 (by decide) rfl ?_
              refine g_aload_n C dX11_feed_75 1 rfl ?_
              refine g_get C inX11 0 rfl rfl 1 (by decide) wF_X11_7 rfl dX11_feed_76 ?_
              refine g_aload_n C dX11_feed_79 1 rfl ?_
              refine g_get C inX11 0 rfl rfl 2 (by decide) wF_X11_92 rfl dX11_feed_80 ?_
              refine g_iload C dX11_feed_83 7 rfl ?_
              refine g_iadd C dX11_feed_85 ?_
              refine g_iload C dX11_feed_86 0 rfl ?_
              refine g_bipush (v := 24) C dX11_feed_88 rfl ?_
              refine g_bipush (v := 8) C dX11_feed_90 rfl ?_
              refine g_iload C dX11_feed_92 7 rfl ?_
              refine g_iconst (v := 4) C dX11_feed_94 rfl ?_
              refine g_irem C dX11_feed_95 (by decide) ?_
              refine g_imul C dX11_feed_96 ?_
              refine g_isub C dX11_feed_97 ?_
              refine g_ishr C dX11_feed_98 ?_
              refine g_sipush (v := 255) C dX11_feed_99 rfl ?_
              refine g_iand C dX11_feed_102 ?_
              refine g_topi (fun e_4 ee_4 => ?_)
              replace h := h e_4 ee_4
              obtain ⟨hc_4, h⟩ := h
              refine g_iast C 1 rfl hc_4 dX11_feed_103 (fun tape_5 etape_5 => gG.eqw (ws' := [oX11 h0 0 (.ref q_tape) taped (v_number) (v_isTold) (v_name) (v_sortOf) (v_first) (v_second) (v_degree) (v_colours) (v_signBy) (v_own) lines size atF place sort value fault faultPlace lastFault lastPlace (v_sF) (v_kept) undoable hasImage (v_power) (v_table) (v_marks) (v_row) rowOf areSums isSieved (v_lastOf) blocks (v_inBlock) (v_atQuotient) (v_small) drawn, aI Y q_tape 700 tape_5]) rfl ?_)
              replace h := h tape_5 etape_5
              refine g_iinc (v := x6_1 + 1) (lv' := [(6, .int (x6_1 + 1)), (7, .int a2), (0, .ref h0), (1, .int a1), (2, .int a2), (3, .int a3), (4, .int a4), (5, .int a5)]) C dX11_feed_104 7 rfl rfl (by decide) rfl ?_
              refine g_goto (tgt := 20) C dX11_feed_107 (by decide) ?_
              refine gG.locals (lv' := [(0, .ref h0), (1, .int a1), (2, .int a2), (3, .int a3), (4, .int a4), (5, .int a5), (6, .int (x6_1 + 1))]) [2, 3, 4, 5, 6, 7, 0] rfl ?_
              exact ih1 tape_5 (x6_1 + 1) (Nat.lt_of_lt_of_le h.2 (Nat.le_of_lt_succ hm1)) h.1
          · replace h := h.2 c_3
            refine g_iload_n C dX11_feed_33 1 rfl ?_
            refine g_goto (tgt := 73) C dX11_feed_34 (by decide) ?_
            refine g_istore (lv' := [(7, .int a1), (0, .ref h0), (1, .int a1), (2, .int a2), (3, .int a3), (4, .int a4), (5, .int a5), (6, .int x6_1)]) C dX11_feed_73 (by decide) rfl ?_
            refine g_aload_n C dX11_feed_75 1 rfl ?_
            refine g_get C inX11 0 rfl rfl 1 (by decide) wF_X11_7 rfl dX11_feed_76 ?_
            refine g_aload_n C dX11_feed_79 1 rfl ?_
            refine g_get C inX11 0 rfl rfl 2 (by decide) wF_X11_92 rfl dX11_feed_80 ?_
            refine g_iload C dX11_feed_83 7 rfl ?_
            refine g_iadd C dX11_feed_85 ?_
            refine g_iload C dX11_feed_86 0 rfl ?_
            refine g_bipush (v := 24) C dX11_feed_88 rfl ?_
            refine g_bipush (v := 8) C dX11_feed_90 rfl ?_
            refine g_iload C dX11_feed_92 7 rfl ?_
            refine g_iconst (v := 4) C dX11_feed_94 rfl ?_
            refine g_irem C dX11_feed_95 (by decide) ?_
            refine g_imul C dX11_feed_96 ?_
            refine g_isub C dX11_feed_97 ?_
            refine g_ishr C dX11_feed_98 ?_
            refine g_sipush (v := 255) C dX11_feed_99 rfl ?_
            refine g_iand C dX11_feed_102 ?_
            refine g_topi (fun e_5 ee_5 => ?_)
            replace h := h e_5 ee_5
            obtain ⟨hc_5, h⟩ := h
            refine g_iast C 1 rfl hc_5 dX11_feed_103 (fun tape_6 etape_6 => gG.eqw (ws' := [oX11 h0 0 (.ref q_tape) taped (v_number) (v_isTold) (v_name) (v_sortOf) (v_first) (v_second) (v_degree) (v_colours) (v_signBy) (v_own) lines size atF place sort value fault faultPlace lastFault lastPlace (v_sF) (v_kept) undoable hasImage (v_power) (v_table) (v_marks) (v_row) rowOf areSums isSieved (v_lastOf) blocks (v_inBlock) (v_atQuotient) (v_small) drawn, aI Y q_tape 700 tape_6]) rfl ?_)
            replace h := h tape_6 etape_6
            refine g_iinc (v := x6_1 + 1) (lv' := [(6, .int (x6_1 + 1)), (7, .int a1), (0, .ref h0), (1, .int a1), (2, .int a2), (3, .int a3), (4, .int a4), (5, .int a5)]) C dX11_feed_104 7 rfl rfl (by decide) rfl ?_
            refine g_goto (tgt := 20) C dX11_feed_107 (by decide) ?_
            refine gG.locals (lv' := [(0, .ref h0), (1, .int a1), (2, .int a2), (3, .int a3), (4, .int a4), (5, .int a5), (6, .int (x6_1 + 1))]) [2, 3, 4, 5, 6, 7, 0] rfl ?_
            exact ih1 tape_6 (x6_1 + 1) (Nat.lt_of_lt_of_le h.2 (Nat.le_of_lt_succ hm1)) h.1
    refine gG.locals (lv' := [(0, .ref h0), (1, .int a1), (2, .int a2), (3, .int a3), (4, .int a4), (5, .int a5), (6, .int 0)]) [1, 2, 3, 4, 5, 6, 0] rfl ?_
    exact key_1 (Mea_1 tape 0 + 1) tape 0 (Nat.lt_succ_self _) hI1
  · replace h := h.2 c_1
    refine g_iconst (v := (-1)) C dX11_feed_15 rfl ?_
    exact g_iret C hR (Nat.le_of_ble_eq_true rfl) (Nat.le_of_ble_eq_true rfl) dX11_feed_16 ⟨(-1), 0, taped, tape, rfl, rfl, h⟩
theorem dX11_here_0 : decode cX11_here 0 = .ok (.aload_n 0, 1) := by decide +kernel
theorem dX11_here_1 : decode cX11_here 1 = .ok (.getfield 95, 3) := by decide +kernel
theorem dX11_here_4 : decode cX11_here 4 = .ok (.aload_n 0, 1) := by decide +kernel
theorem dX11_here_5 : decode cX11_here 5 = .ok (.getfield 98, 3) := by decide +kernel
theorem dX11_here_8 : decode cX11_here 8 = .ok (.if_icmp .ge 15, 3) := by decide +kernel
theorem dX11_here_11 : decode cX11_here 11 = .ok (.aload_n 0, 1) := by decide +kernel
theorem dX11_here_12 : decode cX11_here 12 = .ok (.getfield 7, 3) := by decide +kernel
theorem dX11_here_15 : decode cX11_here 15 = .ok (.aload_n 0, 1) := by decide +kernel
theorem dX11_here_16 : decode cX11_here 16 = .ok (.getfield 95, 3) := by decide +kernel
theorem dX11_here_19 : decode cX11_here 19 = .ok (.iaload, 1) := by decide +kernel
theorem dX11_here_20 : decode cX11_here 20 = .ok (.goto 4, 3) := by decide +kernel
theorem dX11_here_23 : decode cX11_here 23 = .ok (.iconst (-1), 1) := by decide +kernel
theorem dX11_here_24 : decode cX11_here 24 = .ok (.ireturn, 1) := by decide +kernel
/-- QuotientSumsModel.here()I -/
def wX11_here (thrown : Int32) (taped : Int32) (lines : Int32) (size : Int32) (atF : Int32) (place : Int32) (sort : Int32) (value : Int32) (fault : Int32) (faultPlace : Int32) (lastFault : Int32) (lastPlace : Int32) (undoable : Int32) (hasImage : Int32) (rowOf : Int32) (areSums : Int32) (isSieved : Int32) (blocks : Int32) (drawn : Int32) (tape : Nat → Int32)  (Q : (Int32) → Prop) : Prop :=
  ((size ≤ atF → (Q (-1))) ∧ (¬ size ≤ atF → (vp_in atF 700 ∧ (Q (tape atF.toNatClampNeg)))))
set_option maxHeartbeats 4000000 in
set_option maxRecDepth 100000 in
theorem mX11_here (l : Launch) (D : va_G) (Y : Nat → ClassId) (h0 : Nat) (thrown : Int32) (q_tape : Nat) (taped : Int32) (v_number : Value) (v_isTold : Value) (v_name : Value) (v_sortOf : Value) (v_first : Value) (v_second : Value) (v_degree : Value) (v_colours : Value) (v_signBy : Value) (v_own : Value) (lines : Int32) (size : Int32) (atF : Int32) (place : Int32) (sort : Int32) (value : Int32) (fault : Int32) (faultPlace : Int32) (lastFault : Int32) (lastPlace : Int32) (v_sF : Value) (v_kept : Value) (undoable : Int32) (hasImage : Int32) (v_power : Value) (v_table : Value) (v_marks : Value) (v_row : Value) (rowOf : Int32) (areSums : Int32) (isSieved : Int32) (v_lastOf : Value) (blocks : Int32) (v_inBlock : Value) (v_atQuotient : Value) (v_small : Value) (drawn : Int32) (tape : Nat → Int32)  (Q : (Int32) → Prop) (h : wX11_here thrown taped lines size atF place sort value fault faultPlace lastFault lastPlace undoable hasImage rowOf areSums isSieved blocks drawn tape Q) : gM l D Y yX11_here cX11_here 1 (some .int) 0 0 0 0 [.ref h0] [oX11 h0 thrown (.ref q_tape) taped (v_number) (v_isTold) (v_name) (v_sortOf) (v_first) (v_second) (v_degree) (v_colours) (v_signBy) (v_own) lines size atF place sort value fault faultPlace lastFault lastPlace (v_sF) (v_kept) undoable hasImage (v_power) (v_table) (v_marks) (v_row) rowOf areSums isSieved (v_lastOf) blocks (v_inBlock) (v_atQuotient) (v_small) drawn, aI Y q_tape 700 tape] (fun v w => ∃ r : Int32, v = some (.int r) ∧ w = [oX11 h0 thrown (.ref q_tape) taped (v_number) (v_isTold) (v_name) (v_sortOf) (v_first) (v_second) (v_degree) (v_colours) (v_signBy) (v_own) lines size atF place sort value fault faultPlace lastFault lastPlace (v_sF) (v_kept) undoable hasImage (v_power) (v_table) (v_marks) (v_row) rowOf areSums isSieved (v_lastOf) blocks (v_inBlock) (v_atQuotient) (v_small) drawn, aI Y q_tape 700 tape] ∧ Q r) := by
  refine gM_of (own := RX11) (by decide +kernel) rfl (Nat.le_of_ble_eq_true rfl) rfl (fun E C hR => ?_)
  unfold wX11_here at h
  refine g_aload_n C dX11_here_0 0 rfl ?_
  refine g_get C inX11 0 rfl rfl 15 (by decide) wF_X11_95 rfl dX11_here_1 ?_
  refine g_aload_n C dX11_here_4 0 rfl ?_
  refine g_get C inX11 0 rfl rfl 14 (by decide) wF_X11_98 rfl dX11_here_5 ?_
  refine g_icmp_ge (tgt := 23) C dX11_here_8 (by decide) (fun c_1 => ?_) (fun c_1 => ?_)
  · replace h := h.1 c_1
    refine g_iconst (v := (-1)) C dX11_here_23 rfl ?_
    exact g_iret C hR (Nat.le_of_ble_eq_true rfl) (Nat.le_of_ble_eq_true rfl) dX11_here_24 ⟨(-1), rfl, rfl, h⟩
  · replace h := h.2 c_1
    refine g_aload_n C dX11_here_11 0 rfl ?_
    refine g_get C inX11 0 rfl rfl 1 (by decide) wF_X11_7 rfl dX11_here_12 ?_
    refine g_aload_n C dX11_here_15 0 rfl ?_
    refine g_get C inX11 0 rfl rfl 15 (by decide) wF_X11_95 rfl dX11_here_16 ?_
    obtain ⟨hc_1, h⟩ := h
    refine g_iald C 1 rfl hc_1 dX11_here_19 ?_
    refine g_goto (tgt := 24) C dX11_here_20 (by decide) ?_
    exact g_iret C hR (Nat.le_of_ble_eq_true rfl) (Nat.le_of_ble_eq_true rfl) dX11_here_24 ⟨tape atF.toNatClampNeg, rfl, rfl, h⟩
theorem dX11_isSmall_0 : decode cX11_isSmall 0 = .ok (.iload_n 0, 1) := by decide +kernel
theorem dX11_isSmall_1 : decode cX11_isSmall 1 = .ok (.bipush 97, 2) := by decide +kernel
theorem dX11_isSmall_3 : decode cX11_isSmall 3 = .ok (.if_icmp .lt 13, 3) := by decide +kernel
theorem dX11_isSmall_6 : decode cX11_isSmall 6 = .ok (.iload_n 0, 1) := by decide +kernel
theorem dX11_isSmall_7 : decode cX11_isSmall 7 = .ok (.bipush 122, 2) := by decide +kernel
theorem dX11_isSmall_9 : decode cX11_isSmall 9 = .ok (.if_icmp .gt 7, 3) := by decide +kernel
theorem dX11_isSmall_12 : decode cX11_isSmall 12 = .ok (.iconst 1, 1) := by decide +kernel
theorem dX11_isSmall_13 : decode cX11_isSmall 13 = .ok (.goto 4, 3) := by decide +kernel
theorem dX11_isSmall_16 : decode cX11_isSmall 16 = .ok (.iconst 0, 1) := by decide +kernel
theorem dX11_isSmall_17 : decode cX11_isSmall 17 = .ok (.ireturn, 1) := by decide +kernel
/-- QuotientSumsModel.isSmall(I)Z -/
def wX11_isSmall  (a1 : Int32) (Q : (Int32) → Prop) : Prop :=
  ((a1 < 97 → (Q 0)) ∧ (¬ a1 < 97 → ((122 < a1 → (Q 0)) ∧ (¬ 122 < a1 → (Q 1)))))
set_option maxHeartbeats 4000000 in
set_option maxRecDepth 100000 in
theorem mX11_isSmall (l : Launch) (D : va_G) (Y : Nat → ClassId)   (a1 : Int32) (Q : (Int32) → Prop) (h : wX11_isSmall a1 Q) : gM l D Y yX11_isSmall cX11_isSmall 1 (some .boolean) 0 0 0 0 [.int a1] [] (fun v w => ∃ r : Int32, v = some (.int r) ∧ w = [] ∧ Q r) := by
  refine gM_of (own := RX11) (by decide +kernel) rfl (Nat.le_of_ble_eq_true rfl) rfl (fun E C hR => ?_)
  unfold wX11_isSmall at h
  refine g_iload_n C dX11_isSmall_0 0 rfl ?_
  refine g_bipush (v := 97) C dX11_isSmall_1 rfl ?_
  refine g_icmp_lt (tgt := 16) C dX11_isSmall_3 (by decide) (fun c_1 => ?_) (fun c_1 => ?_)
  · replace h := h.1 c_1
    refine g_iconst (v := 0) C dX11_isSmall_16 rfl ?_
    exact g_zret C hR (by decide) (Nat.le_of_ble_eq_true rfl) (Nat.le_of_ble_eq_true rfl) dX11_isSmall_17 ⟨0, rfl, rfl, h⟩
  · replace h := h.2 c_1
    refine g_iload_n C dX11_isSmall_6 0 rfl ?_
    refine g_bipush (v := 122) C dX11_isSmall_7 rfl ?_
    refine g_icmp_gt (tgt := 16) C dX11_isSmall_9 (by decide) (fun c_2 => ?_) (fun c_2 => ?_)
    · replace h := h.1 c_2
      refine g_iconst (v := 0) C dX11_isSmall_16 rfl ?_
      exact g_zret C hR (by decide) (Nat.le_of_ble_eq_true rfl) (Nat.le_of_ble_eq_true rfl) dX11_isSmall_17 ⟨0, rfl, rfl, h⟩
    · replace h := h.2 c_2
      refine g_iconst (v := 1) C dX11_isSmall_12 rfl ?_
      refine g_goto (tgt := 17) C dX11_isSmall_13 (by decide) ?_
      exact g_zret C hR (by decide) (Nat.le_of_ble_eq_true rfl) (Nat.le_of_ble_eq_true rfl) dX11_isSmall_17 ⟨1, rfl, rfl, h⟩
theorem dX11_isDigit_0 : decode cX11_isDigit 0 = .ok (.iload_n 0, 1) := by decide +kernel
theorem dX11_isDigit_1 : decode cX11_isDigit 1 = .ok (.bipush 48, 2) := by decide +kernel
theorem dX11_isDigit_3 : decode cX11_isDigit 3 = .ok (.if_icmp .lt 13, 3) := by decide +kernel
theorem dX11_isDigit_6 : decode cX11_isDigit 6 = .ok (.iload_n 0, 1) := by decide +kernel
theorem dX11_isDigit_7 : decode cX11_isDigit 7 = .ok (.bipush 57, 2) := by decide +kernel
theorem dX11_isDigit_9 : decode cX11_isDigit 9 = .ok (.if_icmp .gt 7, 3) := by decide +kernel
theorem dX11_isDigit_12 : decode cX11_isDigit 12 = .ok (.iconst 1, 1) := by decide +kernel
theorem dX11_isDigit_13 : decode cX11_isDigit 13 = .ok (.goto 4, 3) := by decide +kernel
theorem dX11_isDigit_16 : decode cX11_isDigit 16 = .ok (.iconst 0, 1) := by decide +kernel
theorem dX11_isDigit_17 : decode cX11_isDigit 17 = .ok (.ireturn, 1) := by decide +kernel
/-- QuotientSumsModel.isDigit(I)Z -/
def wX11_isDigit  (a1 : Int32) (Q : (Int32) → Prop) : Prop :=
  ((a1 < 48 → (Q 0)) ∧ (¬ a1 < 48 → ((57 < a1 → (Q 0)) ∧ (¬ 57 < a1 → (Q 1)))))
set_option maxHeartbeats 4000000 in
set_option maxRecDepth 100000 in
theorem mX11_isDigit (l : Launch) (D : va_G) (Y : Nat → ClassId)   (a1 : Int32) (Q : (Int32) → Prop) (h : wX11_isDigit a1 Q) : gM l D Y yX11_isDigit cX11_isDigit 1 (some .boolean) 0 0 0 0 [.int a1] [] (fun v w => ∃ r : Int32, v = some (.int r) ∧ w = [] ∧ Q r) := by
  refine gM_of (own := RX11) (by decide +kernel) rfl (Nat.le_of_ble_eq_true rfl) rfl (fun E C hR => ?_)
  unfold wX11_isDigit at h
  refine g_iload_n C dX11_isDigit_0 0 rfl ?_
  refine g_bipush (v := 48) C dX11_isDigit_1 rfl ?_
  refine g_icmp_lt (tgt := 16) C dX11_isDigit_3 (by decide) (fun c_1 => ?_) (fun c_1 => ?_)
  · replace h := h.1 c_1
    refine g_iconst (v := 0) C dX11_isDigit_16 rfl ?_
    exact g_zret C hR (by decide) (Nat.le_of_ble_eq_true rfl) (Nat.le_of_ble_eq_true rfl) dX11_isDigit_17 ⟨0, rfl, rfl, h⟩
  · replace h := h.2 c_1
    refine g_iload_n C dX11_isDigit_6 0 rfl ?_
    refine g_bipush (v := 57) C dX11_isDigit_7 rfl ?_
    refine g_icmp_gt (tgt := 16) C dX11_isDigit_9 (by decide) (fun c_2 => ?_) (fun c_2 => ?_)
    · replace h := h.1 c_2
      refine g_iconst (v := 0) C dX11_isDigit_16 rfl ?_
      exact g_zret C hR (by decide) (Nat.le_of_ble_eq_true rfl) (Nat.le_of_ble_eq_true rfl) dX11_isDigit_17 ⟨0, rfl, rfl, h⟩
    · replace h := h.2 c_2
      refine g_iconst (v := 1) C dX11_isDigit_12 rfl ?_
      refine g_goto (tgt := 17) C dX11_isDigit_13 (by decide) ?_
      exact g_zret C hR (by decide) (Nat.le_of_ble_eq_true rfl) (Nat.le_of_ble_eq_true rfl) dX11_isDigit_17 ⟨1, rfl, rfl, h⟩
theorem dX11_nameHere_0 : decode cX11_nameHere 0 = .ok (.aload_n 0, 1) := by decide +kernel
theorem dX11_nameHere_1 : decode cX11_nameHere 1 = .ok (.iconst 0, 1) := by decide +kernel
theorem dX11_nameHere_2 : decode cX11_nameHere 2 = .ok (.putfield 118, 3) := by decide +kernel
theorem dX11_nameHere_5 : decode cX11_nameHere 5 = .ok (.iconst 0, 1) := by decide +kernel
theorem dX11_nameHere_6 : decode cX11_nameHere 6 = .ok (.istore_n 1, 1) := by decide +kernel
theorem dX11_nameHere_7 : decode cX11_nameHere 7 = .ok (.iload_n 1, 1) := by decide +kernel
theorem dX11_nameHere_8 : decode cX11_nameHere 8 = .ok (.bipush 6, 2) := by decide +kernel
theorem dX11_nameHere_10 : decode cX11_nameHere 10 = .ok (.if_icmp .ge 53, 3) := by decide +kernel
theorem dX11_nameHere_13 : decode cX11_nameHere 13 = .ok (.aload_n 0, 1) := by decide +kernel
theorem dX11_nameHere_14 : decode cX11_nameHere 14 = .ok (.aload_n 0, 1) := by decide +kernel
theorem dX11_nameHere_15 : decode cX11_nameHere 15 = .ok (.getfield 118, 3) := by decide +kernel
theorem dX11_nameHere_18 : decode cX11_nameHere 18 = .ok (.iconst 5, 1) := by decide +kernel
theorem dX11_nameHere_19 : decode cX11_nameHere 19 = .ok (.ishl, 1) := by decide +kernel
theorem dX11_nameHere_20 : decode cX11_nameHere 20 = .ok (.aload_n 0, 1) := by decide +kernel
theorem dX11_nameHere_21 : decode cX11_nameHere 21 = .ok (.getfield 105, 3) := by decide +kernel
theorem dX11_nameHere_24 : decode cX11_nameHere 24 = .ok (.iload_n 1, 1) := by decide +kernel
theorem dX11_nameHere_25 : decode cX11_nameHere 25 = .ok (.iadd, 1) := by decide +kernel
theorem dX11_nameHere_26 : decode cX11_nameHere 26 = .ok (.aload_n 0, 1) := by decide +kernel
theorem dX11_nameHere_27 : decode cX11_nameHere 27 = .ok (.getfield 95, 3) := by decide +kernel
theorem dX11_nameHere_30 : decode cX11_nameHere 30 = .ok (.if_icmp .ge 22, 3) := by decide +kernel
theorem dX11_nameHere_33 : decode cX11_nameHere 33 = .ok (.aload_n 0, 1) := by decide +kernel
theorem dX11_nameHere_34 : decode cX11_nameHere 34 = .ok (.getfield 7, 3) := by decide +kernel
theorem dX11_nameHere_37 : decode cX11_nameHere 37 = .ok (.aload_n 0, 1) := by decide +kernel
theorem dX11_nameHere_38 : decode cX11_nameHere 38 = .ok (.getfield 105, 3) := by decide +kernel
theorem dX11_nameHere_41 : decode cX11_nameHere 41 = .ok (.iload_n 1, 1) := by decide +kernel
theorem dX11_nameHere_42 : decode cX11_nameHere 42 = .ok (.iadd, 1) := by decide +kernel
theorem dX11_nameHere_43 : decode cX11_nameHere 43 = .ok (.iaload, 1) := by decide +kernel
theorem dX11_nameHere_44 : decode cX11_nameHere 44 = .ok (.bipush 97, 2) := by decide +kernel
theorem dX11_nameHere_46 : decode cX11_nameHere 46 = .ok (.isub, 1) := by decide +kernel
theorem dX11_nameHere_47 : decode cX11_nameHere 47 = .ok (.iconst 1, 1) := by decide +kernel
theorem dX11_nameHere_48 : decode cX11_nameHere 48 = .ok (.iadd, 1) := by decide +kernel
theorem dX11_nameHere_49 : decode cX11_nameHere 49 = .ok (.goto 4, 3) := by decide +kernel
theorem dX11_nameHere_52 : decode cX11_nameHere 52 = .ok (.iconst 0, 1) := by decide +kernel
theorem dX11_nameHere_53 : decode cX11_nameHere 53 = .ok (.ior, 1) := by decide +kernel
theorem dX11_nameHere_54 : decode cX11_nameHere 54 = .ok (.putfield 118, 3) := by decide +kernel
theorem dX11_nameHere_57 : decode cX11_nameHere 57 = .ok (.iinc 1 1, 3) := by decide +kernel
theorem dX11_nameHere_60 : decode cX11_nameHere 60 = .ok (.goto (-53), 3) := by decide +kernel
theorem dX11_nameHere_63 : decode cX11_nameHere 63 = .ok (.return_, 1) := by decide +kernel
/-- QuotientSumsModel.nameHere()V -/
def wX11_nameHere (thrown : Int32) (taped : Int32) (lines : Int32) (size : Int32) (atF : Int32) (place : Int32) (sort : Int32) (value : Int32) (fault : Int32) (faultPlace : Int32) (lastFault : Int32) (lastPlace : Int32) (undoable : Int32) (hasImage : Int32) (rowOf : Int32) (areSums : Int32) (isSieved : Int32) (blocks : Int32) (drawn : Int32) (tape : Nat → Int32)  (Q : (Int32) → Prop) : Prop :=
  (∃ (Inv_1 : (Int32) → (Int32) → Prop) (Mea_1 : (Int32) → (Int32) → Nat), Inv_1 0 0 ∧ ∀ (value_1 : Int32) (x1_1 : Int32), Inv_1 value_1 x1_1 → ((6 ≤ x1_1 → (Q value_1)) ∧ (¬ 6 ≤ x1_1 → ((atF ≤ (place + x1_1) → (∀ value_2 : Int32, value_2 = (value_1 <<< (5 &&& 31)) ||| 0 → (Inv_1 value_2 (x1_1 + 1) ∧ Mea_1 value_2 (x1_1 + 1) < Mea_1 value_1 x1_1))) ∧ (¬ atF ≤ (place + x1_1) → (vp_in (place + x1_1) 700 ∧ ∀ t_1 : Int32, t_1 = (value_1 <<< (5 &&& 31)) ||| (((tape (place + x1_1).toNatClampNeg) - 97) + 1) → (Inv_1 t_1 (x1_1 + 1) ∧ Mea_1 t_1 (x1_1 + 1) < Mea_1 value_1 x1_1)))))))
set_option maxHeartbeats 4000000 in
set_option maxRecDepth 100000 in
theorem mX11_nameHere (l : Launch) (D : va_G) (Y : Nat → ClassId) (h0 : Nat) (thrown : Int32) (q_tape : Nat) (taped : Int32) (v_number : Value) (v_isTold : Value) (v_name : Value) (v_sortOf : Value) (v_first : Value) (v_second : Value) (v_degree : Value) (v_colours : Value) (v_signBy : Value) (v_own : Value) (lines : Int32) (size : Int32) (atF : Int32) (place : Int32) (sort : Int32) (value : Int32) (fault : Int32) (faultPlace : Int32) (lastFault : Int32) (lastPlace : Int32) (v_sF : Value) (v_kept : Value) (undoable : Int32) (hasImage : Int32) (v_power : Value) (v_table : Value) (v_marks : Value) (v_row : Value) (rowOf : Int32) (areSums : Int32) (isSieved : Int32) (v_lastOf : Value) (blocks : Int32) (v_inBlock : Value) (v_atQuotient : Value) (v_small : Value) (drawn : Int32) (tape : Nat → Int32)  (Q : (Int32) → Prop) (h : wX11_nameHere thrown taped lines size atF place sort value fault faultPlace lastFault lastPlace undoable hasImage rowOf areSums isSieved blocks drawn tape Q) : gM l D Y yX11_nameHere cX11_nameHere 2 none 0 0 0 0 [.ref h0] [oX11 h0 thrown (.ref q_tape) taped (v_number) (v_isTold) (v_name) (v_sortOf) (v_first) (v_second) (v_degree) (v_colours) (v_signBy) (v_own) lines size atF place sort value fault faultPlace lastFault lastPlace (v_sF) (v_kept) undoable hasImage (v_power) (v_table) (v_marks) (v_row) rowOf areSums isSieved (v_lastOf) blocks (v_inBlock) (v_atQuotient) (v_small) drawn, aI Y q_tape 700 tape] (fun v w => ∃ value' : Int32, v = none ∧ w = [oX11 h0 thrown (.ref q_tape) taped (v_number) (v_isTold) (v_name) (v_sortOf) (v_first) (v_second) (v_degree) (v_colours) (v_signBy) (v_own) lines size atF place sort value' fault faultPlace lastFault lastPlace (v_sF) (v_kept) undoable hasImage (v_power) (v_table) (v_marks) (v_row) rowOf areSums isSieved (v_lastOf) blocks (v_inBlock) (v_atQuotient) (v_small) drawn, aI Y q_tape 700 tape] ∧ Q value') := by
  refine gM_of (own := RX11) (by decide +kernel) rfl (Nat.le_of_ble_eq_true rfl) rfl (fun E C hR => ?_)
  unfold wX11_nameHere at h
  refine g_aload_n C dX11_nameHere_0 0 rfl ?_
  refine g_iconst (v := 0) C dX11_nameHere_1 rfl ?_
  refine g_put C inX11 tyX11 tyX11_ok nmX11 0 rfl rfl 18 (by decide) wF_X11_118 rfl rfl rfl (Nat.le_of_ble_eq_true rfl) (ws' := [oX11 h0 thrown (.ref q_tape) taped (v_number) (v_isTold) (v_name) (v_sortOf) (v_first) (v_second) (v_degree) (v_colours) (v_signBy) (v_own) lines size atF place sort 0 fault faultPlace lastFault lastPlace (v_sF) (v_kept) undoable hasImage (v_power) (v_table) (v_marks) (v_row) rowOf areSums isSieved (v_lastOf) blocks (v_inBlock) (v_atQuotient) (v_small) drawn, aI Y q_tape 700 tape]) rfl dX11_nameHere_2 ?_
  refine g_iconst (v := 0) C dX11_nameHere_5 rfl ?_
  refine g_istore_n (lv' := [(1, .int 0), (0, .ref h0)]) C dX11_nameHere_6 (by decide) rfl ?_
  obtain ⟨Inv_1, Mea_1, hI1, hB1⟩ := h
  have key_1 : ∀ (n : Nat) (value_1 : Int32) (x1_1 : Int32) , Mea_1 value_1 x1_1 < n → Inv_1 value_1 x1_1 → gG E 0 0 [oX11 h0 thrown (.ref q_tape) taped (v_number) (v_isTold) (v_name) (v_sortOf) (v_first) (v_second) (v_degree) (v_colours) (v_signBy) (v_own) lines size atF place sort value_1 fault faultPlace lastFault lastPlace (v_sF) (v_kept) undoable hasImage (v_power) (v_table) (v_marks) (v_row) rowOf areSums isSieved (v_lastOf) blocks (v_inBlock) (v_atQuotient) (v_small) drawn, aI Y q_tape 700 tape] [(0, .ref h0), (1, .int x1_1)] [] 7 := by
    intro n
    induction n with
    | zero => exact fun _ _ hm => absurd hm (Nat.not_lt_zero _)
    | succ n ih1 =>
      intro value_1 x1_1  hm1 hI
      have h := hB1 value_1 x1_1 hI
      refine g_iload_n C dX11_nameHere_7 1 rfl ?_
      refine g_bipush (v := 6) C dX11_nameHere_8 rfl ?_
      refine g_icmp_ge (tgt := 63) C dX11_nameHere_10 (by decide) (fun c_1 => ?_) (fun c_1 => ?_)
      · replace h := h.1 c_1
        exact g_vret C hR (Nat.le_of_ble_eq_true rfl) (Nat.le_of_ble_eq_true rfl) dX11_nameHere_63 ⟨value_1, rfl, rfl, h⟩
      · replace h := h.2 c_1
        refine g_aload_n C dX11_nameHere_13 0 rfl ?_
        refine g_aload_n C dX11_nameHere_14 0 rfl ?_
        refine g_get C inX11 0 rfl rfl 18 (by decide) wF_X11_118 rfl dX11_nameHere_15 ?_
        refine g_iconst (v := 5) C dX11_nameHere_18 rfl ?_
        refine g_ishl C dX11_nameHere_19 ?_
        refine g_aload_n C dX11_nameHere_20 0 rfl ?_
        refine g_get C inX11 0 rfl rfl 16 (by decide) wF_X11_105 rfl dX11_nameHere_21 ?_
        refine g_iload_n C dX11_nameHere_24 1 rfl ?_
        refine g_iadd C dX11_nameHere_25 ?_
        refine g_aload_n C dX11_nameHere_26 0 rfl ?_
        refine g_get C inX11 0 rfl rfl 15 (by decide) wF_X11_95 rfl dX11_nameHere_27 ?_
        refine g_icmp_ge (tgt := 52) C dX11_nameHere_30 (by decide) (fun c_2 => ?_) (fun c_2 => ?_)
        · replace h := h.1 c_2
          refine g_iconst (v := 0) C dX11_nameHere_52 rfl ?_
          refine g_ior C dX11_nameHere_53 ?_
          refine g_topi (fun value_2 evalue_2 => ?_)
          replace h := h value_2 evalue_2
          refine g_put C inX11 tyX11 tyX11_ok nmX11 0 rfl rfl 18 (by decide) wF_X11_118 rfl rfl rfl (Nat.le_of_ble_eq_true rfl) (ws' := [oX11 h0 thrown (.ref q_tape) taped (v_number) (v_isTold) (v_name) (v_sortOf) (v_first) (v_second) (v_degree) (v_colours) (v_signBy) (v_own) lines size atF place sort value_2 fault faultPlace lastFault lastPlace (v_sF) (v_kept) undoable hasImage (v_power) (v_table) (v_marks) (v_row) rowOf areSums isSieved (v_lastOf) blocks (v_inBlock) (v_atQuotient) (v_small) drawn, aI Y q_tape 700 tape]) rfl dX11_nameHere_54 ?_
          refine g_iinc (v := x1_1 + 1) (lv' := [(1, .int (x1_1 + 1)), (0, .ref h0)]) C dX11_nameHere_57 1 rfl rfl (by decide) rfl ?_
          refine g_goto (tgt := 7) C dX11_nameHere_60 (by decide) ?_
          refine gG.locals (lv' := [(0, .ref h0), (1, .int (x1_1 + 1))]) [1, 0] rfl ?_
          exact ih1 value_2 (x1_1 + 1) (Nat.lt_of_lt_of_le h.2 (Nat.le_of_lt_succ hm1)) h.1
        · replace h := h.2 c_2
          refine g_aload_n C dX11_nameHere_33 0 rfl ?_
          refine g_get C inX11 0 rfl rfl 1 (by decide) wF_X11_7 rfl dX11_nameHere_34 ?_
          refine g_aload_n C dX11_nameHere_37 0 rfl ?_
          refine g_get C inX11 0 rfl rfl 16 (by decide) wF_X11_105 rfl dX11_nameHere_38 ?_
          refine g_iload_n C dX11_nameHere_41 1 rfl ?_
          refine g_iadd C dX11_nameHere_42 ?_
          obtain ⟨hc_1, h⟩ := h
          refine g_iald C 1 rfl hc_1 dX11_nameHere_43 ?_
          refine g_bipush (v := 97) C dX11_nameHere_44 rfl ?_
          refine g_isub C dX11_nameHere_46 ?_
          refine g_iconst (v := 1) C dX11_nameHere_47 rfl ?_
          refine g_iadd C dX11_nameHere_48 ?_
          refine g_goto (tgt := 53) C dX11_nameHere_49 (by decide) ?_
          refine g_ior C dX11_nameHere_53 ?_
          refine g_topi (fun t_1 et_1 => ?_)
          replace h := h t_1 et_1
          refine g_put C inX11 tyX11 tyX11_ok nmX11 0 rfl rfl 18 (by decide) wF_X11_118 rfl rfl rfl (Nat.le_of_ble_eq_true rfl) (ws' := [oX11 h0 thrown (.ref q_tape) taped (v_number) (v_isTold) (v_name) (v_sortOf) (v_first) (v_second) (v_degree) (v_colours) (v_signBy) (v_own) lines size atF place sort t_1 fault faultPlace lastFault lastPlace (v_sF) (v_kept) undoable hasImage (v_power) (v_table) (v_marks) (v_row) rowOf areSums isSieved (v_lastOf) blocks (v_inBlock) (v_atQuotient) (v_small) drawn, aI Y q_tape 700 tape]) rfl dX11_nameHere_54 ?_
          refine g_iinc (v := x1_1 + 1) (lv' := [(1, .int (x1_1 + 1)), (0, .ref h0)]) C dX11_nameHere_57 1 rfl rfl (by decide) rfl ?_
          refine g_goto (tgt := 7) C dX11_nameHere_60 (by decide) ?_
          refine gG.locals (lv' := [(0, .ref h0), (1, .int (x1_1 + 1))]) [1, 0] rfl ?_
          exact ih1 t_1 (x1_1 + 1) (Nat.lt_of_lt_of_le h.2 (Nat.le_of_lt_succ hm1)) h.1
  refine gG.locals (lv' := [(0, .ref h0), (1, .int 0)]) [1, 0] rfl ?_
  exact key_1 (Mea_1 0 0 + 1) 0 0 (Nat.lt_succ_self _) hI1
theorem dX11_digits_0 : decode cX11_digits 0 = .ok (.aload_n 0, 1) := by decide +kernel
theorem dX11_digits_1 : decode cX11_digits 1 = .ok (.iconst 0, 1) := by decide +kernel
theorem dX11_digits_2 : decode cX11_digits 2 = .ok (.putfield 118, 3) := by decide +kernel
theorem dX11_digits_5 : decode cX11_digits 5 = .ok (.aload_n 0, 1) := by decide +kernel
theorem dX11_digits_6 : decode cX11_digits 6 = .ok (.invokevirtual 101, 3) := by decide +kernel
theorem dX11_digits_9 : decode cX11_digits 9 = .ok (.invokestatic 124, 3) := by decide +kernel
theorem dX11_digits_12 : decode cX11_digits 12 = .ok (.ifCond .eq 51, 3) := by decide +kernel
theorem dX11_digits_15 : decode cX11_digits 15 = .ok (.aload_n 0, 1) := by decide +kernel
theorem dX11_digits_16 : decode cX11_digits 16 = .ok (.aload_n 0, 1) := by decide +kernel
theorem dX11_digits_17 : decode cX11_digits 17 = .ok (.getfield 118, 3) := by decide +kernel
theorem dX11_digits_20 : decode cX11_digits 20 = .ok (.ldc 130, 2) := by decide +kernel
theorem dX11_digits_22 : decode cX11_digits 22 = .ok (.if_icmp .le 10, 3) := by decide +kernel
theorem dX11_digits_25 : decode cX11_digits 25 = .ok (.aload_n 0, 1) := by decide +kernel
theorem dX11_digits_26 : decode cX11_digits 26 = .ok (.getfield 118, 3) := by decide +kernel
theorem dX11_digits_29 : decode cX11_digits 29 = .ok (.goto 18, 3) := by decide +kernel
theorem dX11_digits_32 : decode cX11_digits 32 = .ok (.bipush 10, 2) := by decide +kernel
theorem dX11_digits_34 : decode cX11_digits 34 = .ok (.aload_n 0, 1) := by decide +kernel
theorem dX11_digits_35 : decode cX11_digits 35 = .ok (.getfield 118, 3) := by decide +kernel
theorem dX11_digits_38 : decode cX11_digits 38 = .ok (.imul, 1) := by decide +kernel
theorem dX11_digits_39 : decode cX11_digits 39 = .ok (.aload_n 0, 1) := by decide +kernel
theorem dX11_digits_40 : decode cX11_digits 40 = .ok (.invokevirtual 101, 3) := by decide +kernel
theorem dX11_digits_43 : decode cX11_digits 43 = .ok (.iadd, 1) := by decide +kernel
theorem dX11_digits_44 : decode cX11_digits 44 = .ok (.bipush 48, 2) := by decide +kernel
theorem dX11_digits_46 : decode cX11_digits 46 = .ok (.isub, 1) := by decide +kernel
theorem dX11_digits_47 : decode cX11_digits 47 = .ok (.putfield 118, 3) := by decide +kernel
theorem dX11_digits_50 : decode cX11_digits 50 = .ok (.aload_n 0, 1) := by decide +kernel
theorem dX11_digits_51 : decode cX11_digits 51 = .ok (.dup, 1) := by decide +kernel
theorem dX11_digits_52 : decode cX11_digits 52 = .ok (.getfield 95, 3) := by decide +kernel
theorem dX11_digits_55 : decode cX11_digits 55 = .ok (.iconst 1, 1) := by decide +kernel
theorem dX11_digits_56 : decode cX11_digits 56 = .ok (.iadd, 1) := by decide +kernel
theorem dX11_digits_57 : decode cX11_digits 57 = .ok (.putfield 95, 3) := by decide +kernel
theorem dX11_digits_60 : decode cX11_digits 60 = .ok (.goto (-55), 3) := by decide +kernel
theorem dX11_digits_63 : decode cX11_digits 63 = .ok (.return_, 1) := by decide +kernel
/-- QuotientSumsModel.digits()V -/
def wX11_digits (thrown : Int32) (taped : Int32) (lines : Int32) (size : Int32) (atF : Int32) (place : Int32) (sort : Int32) (value : Int32) (fault : Int32) (faultPlace : Int32) (lastFault : Int32) (lastPlace : Int32) (undoable : Int32) (hasImage : Int32) (rowOf : Int32) (areSums : Int32) (isSieved : Int32) (blocks : Int32) (drawn : Int32) (tape : Nat → Int32)  (Q : (Int32) → (Int32) → Prop) : Prop :=
  (∃ (Inv_1 : (Int32) → (Int32) → Prop) (Mea_1 : (Int32) → (Int32) → Nat), Inv_1 atF 0 ∧ ∀ (atF_1 : Int32) (value_1 : Int32), Inv_1 atF_1 value_1 → (∃ (P_1 : (Int32) → Prop), wX11_here thrown taped lines size atF_1 place sort value_1 fault faultPlace lastFault lastPlace undoable hasImage rowOf areSums isSieved blocks drawn tape P_1 ∧ ∀ (rF_1 : Int32), P_1 rF_1 → ∃ (P_2 : (Int32) → Prop), wX11_isDigit rF_1 P_2 ∧ ∀ (rF_2 : Int32), P_2 rF_2 → ((rF_2 = 0 → (Q atF_1 value_1)) ∧ (¬ rF_2 = 0 → ((value_1 ≤ 9999999 → (∃ (P_3 : (Int32) → Prop), wX11_here thrown taped lines size atF_1 place sort value_1 fault faultPlace lastFault lastPlace undoable hasImage rowOf areSums isSieved blocks drawn tape P_3 ∧ ∀ (rF_3 : Int32), P_3 rF_3 → ∀ value_2 : Int32, value_2 = ((10 * value_1) + rF_3) - 48 → ∀ atF_2 : Int32, atF_2 = atF_1 + 1 → (Inv_1 atF_2 value_2 ∧ Mea_1 atF_2 value_2 < Mea_1 atF_1 value_1))) ∧ (¬ value_1 ≤ 9999999 → (∀ atF_3 : Int32, atF_3 = atF_1 + 1 → (Inv_1 atF_3 value_1 ∧ Mea_1 atF_3 value_1 < Mea_1 atF_1 value_1))))))))
set_option maxHeartbeats 4000000 in
set_option maxRecDepth 100000 in
theorem mX11_digits (l : Launch) (D : va_G) (Y : Nat → ClassId) (h0 : Nat) (thrown : Int32) (q_tape : Nat) (taped : Int32) (v_number : Value) (v_isTold : Value) (v_name : Value) (v_sortOf : Value) (v_first : Value) (v_second : Value) (v_degree : Value) (v_colours : Value) (v_signBy : Value) (v_own : Value) (lines : Int32) (size : Int32) (atF : Int32) (place : Int32) (sort : Int32) (value : Int32) (fault : Int32) (faultPlace : Int32) (lastFault : Int32) (lastPlace : Int32) (v_sF : Value) (v_kept : Value) (undoable : Int32) (hasImage : Int32) (v_power : Value) (v_table : Value) (v_marks : Value) (v_row : Value) (rowOf : Int32) (areSums : Int32) (isSieved : Int32) (v_lastOf : Value) (blocks : Int32) (v_inBlock : Value) (v_atQuotient : Value) (v_small : Value) (drawn : Int32) (tape : Nat → Int32)  (Q : (Int32) → (Int32) → Prop) (h : wX11_digits thrown taped lines size atF place sort value fault faultPlace lastFault lastPlace undoable hasImage rowOf areSums isSieved blocks drawn tape Q) : gM l D Y yX11_digits cX11_digits 1 none 1 20 0 0 [.ref h0] [oX11 h0 thrown (.ref q_tape) taped (v_number) (v_isTold) (v_name) (v_sortOf) (v_first) (v_second) (v_degree) (v_colours) (v_signBy) (v_own) lines size atF place sort value fault faultPlace lastFault lastPlace (v_sF) (v_kept) undoable hasImage (v_power) (v_table) (v_marks) (v_row) rowOf areSums isSieved (v_lastOf) blocks (v_inBlock) (v_atQuotient) (v_small) drawn, aI Y q_tape 700 tape] (fun v w => ∃ atF' : Int32, ∃ value' : Int32, v = none ∧ w = [oX11 h0 thrown (.ref q_tape) taped (v_number) (v_isTold) (v_name) (v_sortOf) (v_first) (v_second) (v_degree) (v_colours) (v_signBy) (v_own) lines size atF' place sort value' fault faultPlace lastFault lastPlace (v_sF) (v_kept) undoable hasImage (v_power) (v_table) (v_marks) (v_row) rowOf areSums isSieved (v_lastOf) blocks (v_inBlock) (v_atQuotient) (v_small) drawn, aI Y q_tape 700 tape] ∧ Q atF' value') := by
  refine gM_of (own := RX11) (by decide +kernel) rfl (Nat.le_of_ble_eq_true rfl) rfl (fun E C hR => ?_)
  unfold wX11_digits at h
  refine g_aload_n C dX11_digits_0 0 rfl ?_
  refine g_iconst (v := 0) C dX11_digits_1 rfl ?_
  refine g_put C inX11 tyX11 tyX11_ok nmX11 0 rfl rfl 18 (by decide) wF_X11_118 rfl rfl rfl (Nat.le_of_ble_eq_true rfl) (ws' := [oX11 h0 thrown (.ref q_tape) taped (v_number) (v_isTold) (v_name) (v_sortOf) (v_first) (v_second) (v_degree) (v_colours) (v_signBy) (v_own) lines size atF place sort 0 fault faultPlace lastFault lastPlace (v_sF) (v_kept) undoable hasImage (v_power) (v_table) (v_marks) (v_row) rowOf areSums isSieved (v_lastOf) blocks (v_inBlock) (v_atQuotient) (v_small) drawn, aI Y q_tape 700 tape]) rfl dX11_digits_2 ?_
  obtain ⟨Inv_1, Mea_1, hI1, hB1⟩ := h
  have key_1 : ∀ (n : Nat) (atF_1 : Int32) (value_1 : Int32) , Mea_1 atF_1 value_1 < n → Inv_1 atF_1 value_1 → gG E 0 0 [oX11 h0 thrown (.ref q_tape) taped (v_number) (v_isTold) (v_name) (v_sortOf) (v_first) (v_second) (v_degree) (v_colours) (v_signBy) (v_own) lines size atF_1 place sort value_1 fault faultPlace lastFault lastPlace (v_sF) (v_kept) undoable hasImage (v_power) (v_table) (v_marks) (v_row) rowOf areSums isSieved (v_lastOf) blocks (v_inBlock) (v_atQuotient) (v_small) drawn, aI Y q_tape 700 tape] [(0, .ref h0)] [] 5 := by
    intro n
    induction n with
    | zero => exact fun _ _ hm => absurd hm (Nat.not_lt_zero _)
    | succ n ih1 =>
      intro atF_1 value_1  hm1 hI
      have h := hB1 atF_1 value_1 hI
      refine g_aload_n C dX11_digits_5 0 rfl ?_
      obtain ⟨P_1, hP, h⟩ := h
      refine g_callV (As := []) (rest := []) C (mX11_here l D Y h0 thrown q_tape taped v_number v_isTold v_name v_sortOf v_first v_second v_degree v_colours v_signBy v_own lines size atF_1 place sort value_1 fault faultPlace lastFault lastPlace v_sF v_kept undoable hasImage v_power v_table v_marks v_row rowOf areSums isSieved v_lastOf blocks v_inBlock v_atQuotient v_small drawn tape P_1 hP) dX11_digits_6 rfl wM_X11_101 wI_X11_here wV_X11_here wN_X11 wC_X11_here (n := 0) (by decide +kernel) rfl (q0 := 0) rfl rfl ⟨Nat.le_of_ble_eq_true rfl, Nat.le_of_ble_eq_true rfl⟩ ⟨Nat.le_of_ble_eq_true rfl, Nat.le_of_ble_eq_true rfl⟩ (Nat.le_of_ble_eq_true rfl) [0, 1] [] rfl rfl rfl (fun v wc hv => ?_)
      obtain ⟨rF_1, rfl, rfl, hq⟩ := hv
      replace h := h rF_1 hq
      refine gG.eqw (ws' := [oX11 h0 thrown (.ref q_tape) taped (v_number) (v_isTold) (v_name) (v_sortOf) (v_first) (v_second) (v_degree) (v_colours) (v_signBy) (v_own) lines size atF_1 place sort value_1 fault faultPlace lastFault lastPlace (v_sF) (v_kept) undoable hasImage (v_power) (v_table) (v_marks) (v_row) rowOf areSums isSieved (v_lastOf) blocks (v_inBlock) (v_atQuotient) (v_small) drawn, aI Y q_tape 700 tape]) rfl ?_
      obtain ⟨P_2, hP, h⟩ := h
      refine g_callS (As := [.int rF_1]) (rest := []) C (mX11_isDigit l D Y rF_1 P_2 hP) dX11_digits_9 rfl wM_X11_124 wS_X11_isDigit wN_X11 wC_X11_isDigit (n := 1) (by decide +kernel) rfl ⟨Nat.le_of_ble_eq_true rfl, Nat.le_of_ble_eq_true rfl⟩ ⟨Nat.le_of_ble_eq_true rfl, Nat.le_of_ble_eq_true rfl⟩ (Nat.le_of_ble_eq_true rfl) [] [0, 1] rfl rfl rfl (fun v wc hv => ?_)
      obtain ⟨rF_2, rfl, rfl, hq⟩ := hv
      replace h := h rF_2 hq
      refine gG.eqw (ws' := [oX11 h0 thrown (.ref q_tape) taped (v_number) (v_isTold) (v_name) (v_sortOf) (v_first) (v_second) (v_degree) (v_colours) (v_signBy) (v_own) lines size atF_1 place sort value_1 fault faultPlace lastFault lastPlace (v_sF) (v_kept) undoable hasImage (v_power) (v_table) (v_marks) (v_row) rowOf areSums isSieved (v_lastOf) blocks (v_inBlock) (v_atQuotient) (v_small) drawn, aI Y q_tape 700 tape]) rfl ?_
      refine g_if_eq (tgt := 63) C dX11_digits_12 (by decide) (fun c_1 => ?_) (fun c_1 => ?_)
      · replace h := h.1 c_1
        exact g_vret C hR (Nat.le_of_ble_eq_true rfl) (Nat.le_of_ble_eq_true rfl) dX11_digits_63 ⟨atF_1, value_1, rfl, rfl, h⟩
      · replace h := h.2 c_1
        refine g_aload_n C dX11_digits_15 0 rfl ?_
        refine g_aload_n C dX11_digits_16 0 rfl ?_
        refine g_get C inX11 0 rfl rfl 18 (by decide) wF_X11_118 rfl dX11_digits_17 ?_
        refine g_ldc C dX11_digits_20 wK_X11_130 ?_
        refine g_icmp_le (tgt := 32) C dX11_digits_22 (by decide) (fun c_2 => ?_) (fun c_2 => ?_)
        · replace h := h.1 c_2
          refine g_bipush (v := 10) C dX11_digits_32 rfl ?_
          refine g_aload_n C dX11_digits_34 0 rfl ?_
          refine g_get C inX11 0 rfl rfl 18 (by decide) wF_X11_118 rfl dX11_digits_35 ?_
          refine g_imul C dX11_digits_38 ?_
          refine g_aload_n C dX11_digits_39 0 rfl ?_
          obtain ⟨P_3, hP, h⟩ := h
          refine g_callV (As := []) (rest := [.int (10 * value_1), .ref h0]) C (mX11_here l D Y h0 thrown q_tape taped v_number v_isTold v_name v_sortOf v_first v_second v_degree v_colours v_signBy v_own lines size atF_1 place sort value_1 fault faultPlace lastFault lastPlace v_sF v_kept undoable hasImage v_power v_table v_marks v_row rowOf areSums isSieved v_lastOf blocks v_inBlock v_atQuotient v_small drawn tape P_3 hP) dX11_digits_40 rfl wM_X11_101 wI_X11_here wV_X11_here wN_X11 wC_X11_here (n := 0) (by decide +kernel) rfl (q0 := 0) rfl rfl ⟨Nat.le_of_ble_eq_true rfl, Nat.le_of_ble_eq_true rfl⟩ ⟨Nat.le_of_ble_eq_true rfl, Nat.le_of_ble_eq_true rfl⟩ (Nat.le_of_ble_eq_true rfl) [0, 1] [] rfl rfl rfl (fun v wc hv => ?_)
          obtain ⟨rF_3, rfl, rfl, hq⟩ := hv
          replace h := h rF_3 hq
          refine gG.eqw (ws' := [oX11 h0 thrown (.ref q_tape) taped (v_number) (v_isTold) (v_name) (v_sortOf) (v_first) (v_second) (v_degree) (v_colours) (v_signBy) (v_own) lines size atF_1 place sort value_1 fault faultPlace lastFault lastPlace (v_sF) (v_kept) undoable hasImage (v_power) (v_table) (v_marks) (v_row) rowOf areSums isSieved (v_lastOf) blocks (v_inBlock) (v_atQuotient) (v_small) drawn, aI Y q_tape 700 tape]) rfl ?_
          refine g_iadd C dX11_digits_43 ?_
          refine g_bipush (v := 48) C dX11_digits_44 rfl ?_
          refine g_isub C dX11_digits_46 ?_
          refine g_topi (fun value_2 evalue_2 => ?_)
          replace h := h value_2 evalue_2
          refine g_put C inX11 tyX11 tyX11_ok nmX11 0 rfl rfl 18 (by decide) wF_X11_118 rfl rfl rfl (Nat.le_of_ble_eq_true rfl) (ws' := [oX11 h0 thrown (.ref q_tape) taped (v_number) (v_isTold) (v_name) (v_sortOf) (v_first) (v_second) (v_degree) (v_colours) (v_signBy) (v_own) lines size atF_1 place sort value_2 fault faultPlace lastFault lastPlace (v_sF) (v_kept) undoable hasImage (v_power) (v_table) (v_marks) (v_row) rowOf areSums isSieved (v_lastOf) blocks (v_inBlock) (v_atQuotient) (v_small) drawn, aI Y q_tape 700 tape]) rfl dX11_digits_47 ?_
          refine g_aload_n C dX11_digits_50 0 rfl ?_
          refine g_dup C dX11_digits_51 rfl ?_
          refine g_get C inX11 0 rfl rfl 15 (by decide) wF_X11_95 rfl dX11_digits_52 ?_
          refine g_iconst (v := 1) C dX11_digits_55 rfl ?_
          refine g_iadd C dX11_digits_56 ?_
          refine g_topi (fun atF_2 eatF_2 => ?_)
          replace h := h atF_2 eatF_2
          refine g_put C inX11 tyX11 tyX11_ok nmX11 0 rfl rfl 15 (by decide) wF_X11_95 rfl rfl rfl (Nat.le_of_ble_eq_true rfl) (ws' := [oX11 h0 thrown (.ref q_tape) taped (v_number) (v_isTold) (v_name) (v_sortOf) (v_first) (v_second) (v_degree) (v_colours) (v_signBy) (v_own) lines size atF_2 place sort value_2 fault faultPlace lastFault lastPlace (v_sF) (v_kept) undoable hasImage (v_power) (v_table) (v_marks) (v_row) rowOf areSums isSieved (v_lastOf) blocks (v_inBlock) (v_atQuotient) (v_small) drawn, aI Y q_tape 700 tape]) rfl dX11_digits_57 ?_
          refine g_goto (tgt := 5) C dX11_digits_60 (by decide) ?_
          exact ih1 atF_2 value_2 (Nat.lt_of_lt_of_le h.2 (Nat.le_of_lt_succ hm1)) h.1
        · replace h := h.2 c_2
          refine g_aload_n C dX11_digits_25 0 rfl ?_
          refine g_get C inX11 0 rfl rfl 18 (by decide) wF_X11_118 rfl dX11_digits_26 ?_
          refine g_goto (tgt := 47) C dX11_digits_29 (by decide) ?_
          refine g_put C inX11 tyX11 tyX11_ok nmX11 0 rfl rfl 18 (by decide) wF_X11_118 rfl rfl rfl (Nat.le_of_ble_eq_true rfl) (ws' := [oX11 h0 thrown (.ref q_tape) taped (v_number) (v_isTold) (v_name) (v_sortOf) (v_first) (v_second) (v_degree) (v_colours) (v_signBy) (v_own) lines size atF_1 place sort value_1 fault faultPlace lastFault lastPlace (v_sF) (v_kept) undoable hasImage (v_power) (v_table) (v_marks) (v_row) rowOf areSums isSieved (v_lastOf) blocks (v_inBlock) (v_atQuotient) (v_small) drawn, aI Y q_tape 700 tape]) rfl dX11_digits_47 ?_
          refine g_aload_n C dX11_digits_50 0 rfl ?_
          refine g_dup C dX11_digits_51 rfl ?_
          refine g_get C inX11 0 rfl rfl 15 (by decide) wF_X11_95 rfl dX11_digits_52 ?_
          refine g_iconst (v := 1) C dX11_digits_55 rfl ?_
          refine g_iadd C dX11_digits_56 ?_
          refine g_topi (fun atF_3 eatF_3 => ?_)
          replace h := h atF_3 eatF_3
          refine g_put C inX11 tyX11 tyX11_ok nmX11 0 rfl rfl 15 (by decide) wF_X11_95 rfl rfl rfl (Nat.le_of_ble_eq_true rfl) (ws' := [oX11 h0 thrown (.ref q_tape) taped (v_number) (v_isTold) (v_name) (v_sortOf) (v_first) (v_second) (v_degree) (v_colours) (v_signBy) (v_own) lines size atF_3 place sort value_1 fault faultPlace lastFault lastPlace (v_sF) (v_kept) undoable hasImage (v_power) (v_table) (v_marks) (v_row) rowOf areSums isSieved (v_lastOf) blocks (v_inBlock) (v_atQuotient) (v_small) drawn, aI Y q_tape 700 tape]) rfl dX11_digits_57 ?_
          refine g_goto (tgt := 5) C dX11_digits_60 (by decide) ?_
          exact ih1 atF_3 value_1 (Nat.lt_of_lt_of_le h.2 (Nat.le_of_lt_succ hm1)) h.1
  exact key_1 (Mea_1 atF 0 + 1) atF 0 (Nat.lt_succ_self _) hI1
theorem dX11_wrong_0 : decode cX11_wrong 0 = .ok (.aload_n 0, 1) := by decide +kernel
theorem dX11_wrong_1 : decode cX11_wrong 1 = .ok (.getfield 142, 3) := by decide +kernel
theorem dX11_wrong_4 : decode cX11_wrong 4 = .ok (.ifCond .eq 4, 3) := by decide +kernel
theorem dX11_wrong_7 : decode cX11_wrong 7 = .ok (.return_, 1) := by decide +kernel
theorem dX11_wrong_8 : decode cX11_wrong 8 = .ok (.aload_n 0, 1) := by decide +kernel
theorem dX11_wrong_9 : decode cX11_wrong 9 = .ok (.iload_n 1, 1) := by decide +kernel
theorem dX11_wrong_10 : decode cX11_wrong 10 = .ok (.putfield 142, 3) := by decide +kernel
theorem dX11_wrong_13 : decode cX11_wrong 13 = .ok (.aload_n 0, 1) := by decide +kernel
theorem dX11_wrong_14 : decode cX11_wrong 14 = .ok (.aload_n 0, 1) := by decide +kernel
theorem dX11_wrong_15 : decode cX11_wrong 15 = .ok (.getfield 105, 3) := by decide +kernel
theorem dX11_wrong_18 : decode cX11_wrong 18 = .ok (.putfield 145, 3) := by decide +kernel
theorem dX11_wrong_21 : decode cX11_wrong 21 = .ok (.return_, 1) := by decide +kernel
/-- QuotientSumsModel.wrong(I)V -/
def wX11_wrong (thrown : Int32) (taped : Int32) (lines : Int32) (size : Int32) (atF : Int32) (place : Int32) (sort : Int32) (value : Int32) (fault : Int32) (faultPlace : Int32) (lastFault : Int32) (lastPlace : Int32) (undoable : Int32) (hasImage : Int32) (rowOf : Int32) (areSums : Int32) (isSieved : Int32) (blocks : Int32) (drawn : Int32) (a1 : Int32) (Q : (Int32) → (Int32) → Prop) : Prop :=
  ((fault = 0 → (Q a1 place)) ∧ (¬ fault = 0 → (Q fault faultPlace)))
set_option maxHeartbeats 4000000 in
set_option maxRecDepth 100000 in
theorem mX11_wrong (l : Launch) (D : va_G) (Y : Nat → ClassId) (h0 : Nat) (thrown : Int32) (v_tape : Value) (taped : Int32) (v_number : Value) (v_isTold : Value) (v_name : Value) (v_sortOf : Value) (v_first : Value) (v_second : Value) (v_degree : Value) (v_colours : Value) (v_signBy : Value) (v_own : Value) (lines : Int32) (size : Int32) (atF : Int32) (place : Int32) (sort : Int32) (value : Int32) (fault : Int32) (faultPlace : Int32) (lastFault : Int32) (lastPlace : Int32) (v_sF : Value) (v_kept : Value) (undoable : Int32) (hasImage : Int32) (v_power : Value) (v_table : Value) (v_marks : Value) (v_row : Value) (rowOf : Int32) (areSums : Int32) (isSieved : Int32) (v_lastOf : Value) (blocks : Int32) (v_inBlock : Value) (v_atQuotient : Value) (v_small : Value) (drawn : Int32) (a1 : Int32) (Q : (Int32) → (Int32) → Prop) (h : wX11_wrong thrown taped lines size atF place sort value fault faultPlace lastFault lastPlace undoable hasImage rowOf areSums isSieved blocks drawn a1 Q) : gM l D Y yX11_wrong cX11_wrong 2 none 0 0 0 0 [.ref h0, .int a1] [oX11 h0 thrown (v_tape) taped (v_number) (v_isTold) (v_name) (v_sortOf) (v_first) (v_second) (v_degree) (v_colours) (v_signBy) (v_own) lines size atF place sort value fault faultPlace lastFault lastPlace (v_sF) (v_kept) undoable hasImage (v_power) (v_table) (v_marks) (v_row) rowOf areSums isSieved (v_lastOf) blocks (v_inBlock) (v_atQuotient) (v_small) drawn] (fun v w => ∃ fault' : Int32, ∃ faultPlace' : Int32, v = none ∧ w = [oX11 h0 thrown (v_tape) taped (v_number) (v_isTold) (v_name) (v_sortOf) (v_first) (v_second) (v_degree) (v_colours) (v_signBy) (v_own) lines size atF place sort value fault' faultPlace' lastFault lastPlace (v_sF) (v_kept) undoable hasImage (v_power) (v_table) (v_marks) (v_row) rowOf areSums isSieved (v_lastOf) blocks (v_inBlock) (v_atQuotient) (v_small) drawn] ∧ Q fault' faultPlace') := by
  refine gM_of (own := RX11) (by decide +kernel) rfl (Nat.le_of_ble_eq_true rfl) rfl (fun E C hR => ?_)
  unfold wX11_wrong at h
  refine g_aload_n C dX11_wrong_0 0 rfl ?_
  refine g_get C inX11 0 rfl rfl 19 (by decide) wF_X11_142 rfl dX11_wrong_1 ?_
  refine g_if_eq (tgt := 8) C dX11_wrong_4 (by decide) (fun c_1 => ?_) (fun c_1 => ?_)
  · replace h := h.1 c_1
    refine g_aload_n C dX11_wrong_8 0 rfl ?_
    refine g_iload_n C dX11_wrong_9 1 rfl ?_
    refine g_put C inX11 tyX11 tyX11_ok nmX11 0 rfl rfl 19 (by decide) wF_X11_142 rfl rfl rfl (Nat.le_of_ble_eq_true rfl) (ws' := [oX11 h0 thrown (v_tape) taped (v_number) (v_isTold) (v_name) (v_sortOf) (v_first) (v_second) (v_degree) (v_colours) (v_signBy) (v_own) lines size atF place sort value a1 faultPlace lastFault lastPlace (v_sF) (v_kept) undoable hasImage (v_power) (v_table) (v_marks) (v_row) rowOf areSums isSieved (v_lastOf) blocks (v_inBlock) (v_atQuotient) (v_small) drawn]) rfl dX11_wrong_10 ?_
    refine g_aload_n C dX11_wrong_13 0 rfl ?_
    refine g_aload_n C dX11_wrong_14 0 rfl ?_
    refine g_get C inX11 0 rfl rfl 16 (by decide) wF_X11_105 rfl dX11_wrong_15 ?_
    refine g_put C inX11 tyX11 tyX11_ok nmX11 0 rfl rfl 20 (by decide) wF_X11_145 rfl rfl rfl (Nat.le_of_ble_eq_true rfl) (ws' := [oX11 h0 thrown (v_tape) taped (v_number) (v_isTold) (v_name) (v_sortOf) (v_first) (v_second) (v_degree) (v_colours) (v_signBy) (v_own) lines size atF place sort value a1 place lastFault lastPlace (v_sF) (v_kept) undoable hasImage (v_power) (v_table) (v_marks) (v_row) rowOf areSums isSieved (v_lastOf) blocks (v_inBlock) (v_atQuotient) (v_small) drawn]) rfl dX11_wrong_18 ?_
    exact g_vret C hR (Nat.le_of_ble_eq_true rfl) (Nat.le_of_ble_eq_true rfl) dX11_wrong_21 ⟨a1, place, rfl, rfl, h⟩
  · replace h := h.2 c_1
    exact g_vret C hR (Nat.le_of_ble_eq_true rfl) (Nat.le_of_ble_eq_true rfl) dX11_wrong_7 ⟨fault, faultPlace, rfl, rfl, h⟩
theorem dX11_namedAt_0 : decode cX11_namedAt 0 = .ok (.iconst 0, 1) := by decide +kernel
theorem dX11_namedAt_1 : decode cX11_namedAt 1 = .ok (.istore 4, 2) := by decide +kernel
theorem dX11_namedAt_3 : decode cX11_namedAt 3 = .ok (.iload 4, 2) := by decide +kernel
theorem dX11_namedAt_5 : decode cX11_namedAt 5 = .ok (.iload_n 2, 1) := by decide +kernel
theorem dX11_namedAt_6 : decode cX11_namedAt 6 = .ok (.if_icmp .ge 25, 3) := by decide +kernel
theorem dX11_namedAt_9 : decode cX11_namedAt 9 = .ok (.aload_n 0, 1) := by decide +kernel
theorem dX11_namedAt_10 : decode cX11_namedAt 10 = .ok (.getfield 20, 3) := by decide +kernel
theorem dX11_namedAt_13 : decode cX11_namedAt 13 = .ok (.iload_n 1, 1) := by decide +kernel
theorem dX11_namedAt_14 : decode cX11_namedAt 14 = .ok (.iload 4, 2) := by decide +kernel
theorem dX11_namedAt_16 : decode cX11_namedAt 16 = .ok (.iadd, 1) := by decide +kernel
theorem dX11_namedAt_17 : decode cX11_namedAt 17 = .ok (.iaload, 1) := by decide +kernel
theorem dX11_namedAt_18 : decode cX11_namedAt 18 = .ok (.iload_n 3, 1) := by decide +kernel
theorem dX11_namedAt_19 : decode cX11_namedAt 19 = .ok (.if_icmp .ne 6, 3) := by decide +kernel
theorem dX11_namedAt_22 : decode cX11_namedAt 22 = .ok (.iload 4, 2) := by decide +kernel
theorem dX11_namedAt_24 : decode cX11_namedAt 24 = .ok (.ireturn, 1) := by decide +kernel
theorem dX11_namedAt_25 : decode cX11_namedAt 25 = .ok (.iinc 4 1, 3) := by decide +kernel
theorem dX11_namedAt_28 : decode cX11_namedAt 28 = .ok (.goto (-25), 3) := by decide +kernel
theorem dX11_namedAt_31 : decode cX11_namedAt 31 = .ok (.iconst (-1), 1) := by decide +kernel
theorem dX11_namedAt_32 : decode cX11_namedAt 32 = .ok (.ireturn, 1) := by decide +kernel
/-- QuotientSumsModel.namedAt(III)I -/
def wX11_namedAt (thrown : Int32) (taped : Int32) (lines : Int32) (size : Int32) (atF : Int32) (place : Int32) (sort : Int32) (value : Int32) (fault : Int32) (faultPlace : Int32) (lastFault : Int32) (lastPlace : Int32) (undoable : Int32) (hasImage : Int32) (rowOf : Int32) (areSums : Int32) (isSieved : Int32) (blocks : Int32) (drawn : Int32) (name : Nat → Int32) (a1 : Int32) (a2 : Int32) (a3 : Int32) (Q : (Int32) → Prop) : Prop :=
  (∃ (Inv_1 : (Int32) → Prop) (Mea_1 : (Int32) → Nat), Inv_1 0 ∧ ∀ (x4_1 : Int32), Inv_1 x4_1 → ((a2 ≤ x4_1 → (Q (-1))) ∧ (¬ a2 ≤ x4_1 → (vp_in (a1 + x4_1) 24 ∧ ((¬ (name (a1 + x4_1).toNatClampNeg) = a3 → (Inv_1 (x4_1 + 1) ∧ Mea_1 (x4_1 + 1) < Mea_1 x4_1)) ∧ ((name (a1 + x4_1).toNatClampNeg) = a3 → (Q x4_1)))))))
set_option maxHeartbeats 4000000 in
set_option maxRecDepth 100000 in
theorem mX11_namedAt (l : Launch) (D : va_G) (Y : Nat → ClassId) (h0 : Nat) (thrown : Int32) (v_tape : Value) (taped : Int32) (v_number : Value) (v_isTold : Value) (q_name : Nat) (v_sortOf : Value) (v_first : Value) (v_second : Value) (v_degree : Value) (v_colours : Value) (v_signBy : Value) (v_own : Value) (lines : Int32) (size : Int32) (atF : Int32) (place : Int32) (sort : Int32) (value : Int32) (fault : Int32) (faultPlace : Int32) (lastFault : Int32) (lastPlace : Int32) (v_sF : Value) (v_kept : Value) (undoable : Int32) (hasImage : Int32) (v_power : Value) (v_table : Value) (v_marks : Value) (v_row : Value) (rowOf : Int32) (areSums : Int32) (isSieved : Int32) (v_lastOf : Value) (blocks : Int32) (v_inBlock : Value) (v_atQuotient : Value) (v_small : Value) (drawn : Int32) (name : Nat → Int32) (a1 : Int32) (a2 : Int32) (a3 : Int32) (Q : (Int32) → Prop) (h : wX11_namedAt thrown taped lines size atF place sort value fault faultPlace lastFault lastPlace undoable hasImage rowOf areSums isSieved blocks drawn name a1 a2 a3 Q) : gM l D Y yX11_namedAt cX11_namedAt 5 (some .int) 0 0 0 0 [.ref h0, .int a1, .int a2, .int a3] [oX11 h0 thrown (v_tape) taped (v_number) (v_isTold) (.ref q_name) (v_sortOf) (v_first) (v_second) (v_degree) (v_colours) (v_signBy) (v_own) lines size atF place sort value fault faultPlace lastFault lastPlace (v_sF) (v_kept) undoable hasImage (v_power) (v_table) (v_marks) (v_row) rowOf areSums isSieved (v_lastOf) blocks (v_inBlock) (v_atQuotient) (v_small) drawn, aI Y q_name 24 name] (fun v w => ∃ r : Int32, v = some (.int r) ∧ w = [oX11 h0 thrown (v_tape) taped (v_number) (v_isTold) (.ref q_name) (v_sortOf) (v_first) (v_second) (v_degree) (v_colours) (v_signBy) (v_own) lines size atF place sort value fault faultPlace lastFault lastPlace (v_sF) (v_kept) undoable hasImage (v_power) (v_table) (v_marks) (v_row) rowOf areSums isSieved (v_lastOf) blocks (v_inBlock) (v_atQuotient) (v_small) drawn, aI Y q_name 24 name] ∧ Q r) := by
  refine gM_of (own := RX11) (by decide +kernel) rfl (Nat.le_of_ble_eq_true rfl) rfl (fun E C hR => ?_)
  unfold wX11_namedAt at h
  refine g_iconst (v := 0) C dX11_namedAt_0 rfl ?_
  refine g_istore (lv' := [(4, .int 0), (0, .ref h0), (1, .int a1), (2, .int a2), (3, .int a3)]) C dX11_namedAt_1 (by decide) rfl ?_
  obtain ⟨Inv_1, Mea_1, hI1, hB1⟩ := h
  have key_1 : ∀ (n : Nat) (x4_1 : Int32) , Mea_1 x4_1 < n → Inv_1 x4_1 → gG E 0 0 [oX11 h0 thrown (v_tape) taped (v_number) (v_isTold) (.ref q_name) (v_sortOf) (v_first) (v_second) (v_degree) (v_colours) (v_signBy) (v_own) lines size atF place sort value fault faultPlace lastFault lastPlace (v_sF) (v_kept) undoable hasImage (v_power) (v_table) (v_marks) (v_row) rowOf areSums isSieved (v_lastOf) blocks (v_inBlock) (v_atQuotient) (v_small) drawn, aI Y q_name 24 name] [(0, .ref h0), (1, .int a1), (2, .int a2), (3, .int a3), (4, .int x4_1)] [] 3 := by
    intro n
    induction n with
    | zero => exact fun _ hm => absurd hm (Nat.not_lt_zero _)
    | succ n ih1 =>
      intro x4_1  hm1 hI
      have h := hB1 x4_1 hI
      refine g_iload C dX11_namedAt_3 4 rfl ?_
      refine g_iload_n C dX11_namedAt_5 2 rfl ?_
      refine g_icmp_ge (tgt := 31) C dX11_namedAt_6 (by decide) (fun c_1 => ?_) (fun c_1 => ?_)
      · replace h := h.1 c_1
        refine g_iconst (v := (-1)) C dX11_namedAt_31 rfl ?_
        exact g_iret C hR (Nat.le_of_ble_eq_true rfl) (Nat.le_of_ble_eq_true rfl) dX11_namedAt_32 ⟨(-1), rfl, rfl, h⟩
      · replace h := h.2 c_1
        refine g_aload_n C dX11_namedAt_9 0 rfl ?_
        refine g_get C inX11 0 rfl rfl 5 (by decide) wF_X11_20 rfl dX11_namedAt_10 ?_
        refine g_iload_n C dX11_namedAt_13 1 rfl ?_
        refine g_iload C dX11_namedAt_14 4 rfl ?_
        refine g_iadd C dX11_namedAt_16 ?_
        obtain ⟨hc_1, h⟩ := h
        refine g_iald C 1 rfl hc_1 dX11_namedAt_17 ?_
        refine g_iload_n C dX11_namedAt_18 3 rfl ?_
        refine g_icmp_ne (tgt := 25) C dX11_namedAt_19 (by decide) (fun c_2 => ?_) (fun c_2 => ?_)
        · replace h := h.1 c_2
          refine g_iinc (v := x4_1 + 1) (lv' := [(4, .int (x4_1 + 1)), (0, .ref h0), (1, .int a1), (2, .int a2), (3, .int a3)]) C dX11_namedAt_25 4 rfl rfl (by decide) rfl ?_
          refine g_goto (tgt := 3) C dX11_namedAt_28 (by decide) ?_
          refine gG.locals (lv' := [(0, .ref h0), (1, .int a1), (2, .int a2), (3, .int a3), (4, .int (x4_1 + 1))]) [1, 2, 3, 4, 0] rfl ?_
          exact ih1 (x4_1 + 1) (Nat.lt_of_lt_of_le h.2 (Nat.le_of_lt_succ hm1)) h.1
        · replace h := h.2 c_2
          refine g_iload C dX11_namedAt_22 4 rfl ?_
          exact g_iret C hR (Nat.le_of_ble_eq_true rfl) (Nat.le_of_ble_eq_true rfl) dX11_namedAt_24 ⟨x4_1, rfl, rfl, h⟩
  refine gG.locals (lv' := [(0, .ref h0), (1, .int a1), (2, .int a2), (3, .int a3), (4, .int 0)]) [1, 2, 3, 4, 0] rfl ?_
  exact key_1 (Mea_1 0 + 1) 0 (Nat.lt_succ_self _) hI1
theorem dX11_functionsRead_0 : decode cX11_functionsRead 0 = .ok (.bipush 6, 2) := by decide +kernel
theorem dX11_functionsRead_2 : decode cX11_functionsRead 2 = .ok (.aload_n 0, 1) := by decide +kernel
theorem dX11_functionsRead_3 : decode cX11_functionsRead 3 = .ok (.iconst 3, 1) := by decide +kernel
theorem dX11_functionsRead_4 : decode cX11_functionsRead 4 = .ok (.invokevirtual 166, 3) := by decide +kernel
theorem dX11_functionsRead_7 : decode cX11_functionsRead 7 = .ok (.iadd, 1) := by decide +kernel
theorem dX11_functionsRead_8 : decode cX11_functionsRead 8 = .ok (.ireturn, 1) := by decide +kernel
/-- QuotientSumsModel.functionsRead()I -/
def wX11_functionsRead (thrown : Int32) (taped : Int32) (lines : Int32) (size : Int32) (atF : Int32) (place : Int32) (sort : Int32) (value : Int32) (fault : Int32) (faultPlace : Int32) (lastFault : Int32) (lastPlace : Int32) (undoable : Int32) (hasImage : Int32) (rowOf : Int32) (areSums : Int32) (isSieved : Int32) (blocks : Int32) (drawn : Int32) (number : Nat → Int32)  (Q : (Int32) → Prop) : Prop :=
  (∃ (P_1 : (Int32) → Prop), wX11_reading thrown taped lines size atF place sort value fault faultPlace lastFault lastPlace undoable hasImage rowOf areSums isSieved blocks drawn number 3 P_1 ∧ ∀ (rF_1 : Int32), P_1 rF_1 → (Q (6 + rF_1)))
set_option maxHeartbeats 4000000 in
set_option maxRecDepth 100000 in
theorem mX11_functionsRead (l : Launch) (D : va_G) (Y : Nat → ClassId) (h0 : Nat) (thrown : Int32) (v_tape : Value) (taped : Int32) (q_number : Nat) (v_isTold : Value) (v_name : Value) (v_sortOf : Value) (v_first : Value) (v_second : Value) (v_degree : Value) (v_colours : Value) (v_signBy : Value) (v_own : Value) (lines : Int32) (size : Int32) (atF : Int32) (place : Int32) (sort : Int32) (value : Int32) (fault : Int32) (faultPlace : Int32) (lastFault : Int32) (lastPlace : Int32) (v_sF : Value) (v_kept : Value) (undoable : Int32) (hasImage : Int32) (v_power : Value) (v_table : Value) (v_marks : Value) (v_row : Value) (rowOf : Int32) (areSums : Int32) (isSieved : Int32) (v_lastOf : Value) (blocks : Int32) (v_inBlock : Value) (v_atQuotient : Value) (v_small : Value) (drawn : Int32) (number : Nat → Int32)  (Q : (Int32) → Prop) (h : wX11_functionsRead thrown taped lines size atF place sort value fault faultPlace lastFault lastPlace undoable hasImage rowOf areSums isSieved blocks drawn number Q) : gM l D Y yX11_functionsRead cX11_functionsRead 1 (some .int) 1 21 0 0 [.ref h0] [oX11 h0 thrown (v_tape) taped (.ref q_number) (v_isTold) (v_name) (v_sortOf) (v_first) (v_second) (v_degree) (v_colours) (v_signBy) (v_own) lines size atF place sort value fault faultPlace lastFault lastPlace (v_sF) (v_kept) undoable hasImage (v_power) (v_table) (v_marks) (v_row) rowOf areSums isSieved (v_lastOf) blocks (v_inBlock) (v_atQuotient) (v_small) drawn, aI Y q_number 8 number] (fun v w => ∃ r : Int32, v = some (.int r) ∧ w = [oX11 h0 thrown (v_tape) taped (.ref q_number) (v_isTold) (v_name) (v_sortOf) (v_first) (v_second) (v_degree) (v_colours) (v_signBy) (v_own) lines size atF place sort value fault faultPlace lastFault lastPlace (v_sF) (v_kept) undoable hasImage (v_power) (v_table) (v_marks) (v_row) rowOf areSums isSieved (v_lastOf) blocks (v_inBlock) (v_atQuotient) (v_small) drawn, aI Y q_number 8 number] ∧ Q r) := by
  refine gM_of (own := RX11) (by decide +kernel) rfl (Nat.le_of_ble_eq_true rfl) rfl (fun E C hR => ?_)
  unfold wX11_functionsRead at h
  refine g_bipush (v := 6) C dX11_functionsRead_0 rfl ?_
  refine g_aload_n C dX11_functionsRead_2 0 rfl ?_
  refine g_iconst (v := 3) C dX11_functionsRead_3 rfl ?_
  obtain ⟨P_1, hP, h⟩ := h
  refine g_callV (As := [.int 3]) (rest := [.int 6]) C (mX11_reading l D Y h0 thrown v_tape taped q_number v_isTold v_name v_sortOf v_first v_second v_degree v_colours v_signBy v_own lines size atF place sort value fault faultPlace lastFault lastPlace v_sF v_kept undoable hasImage v_power v_table v_marks v_row rowOf areSums isSieved v_lastOf blocks v_inBlock v_atQuotient v_small drawn number 3 P_1 hP) dX11_functionsRead_4 rfl wM_X11_166 wI_X11_reading wV_X11_reading wN_X11 wC_X11_reading (n := 1) (by decide +kernel) rfl (q0 := 0) rfl rfl ⟨Nat.le_of_ble_eq_true rfl, Nat.le_of_ble_eq_true rfl⟩ ⟨Nat.le_of_ble_eq_true rfl, Nat.le_of_ble_eq_true rfl⟩ (Nat.le_of_ble_eq_true rfl) [0, 1] [] rfl rfl rfl (fun v wc hv => ?_)
  obtain ⟨rF_1, rfl, rfl, hq⟩ := hv
  replace h := h rF_1 hq
  refine gG.eqw (ws' := [oX11 h0 thrown (v_tape) taped (.ref q_number) (v_isTold) (v_name) (v_sortOf) (v_first) (v_second) (v_degree) (v_colours) (v_signBy) (v_own) lines size atF place sort value fault faultPlace lastFault lastPlace (v_sF) (v_kept) undoable hasImage (v_power) (v_table) (v_marks) (v_row) rowOf areSums isSieved (v_lastOf) blocks (v_inBlock) (v_atQuotient) (v_small) drawn, aI Y q_number 8 number]) rfl ?_
  refine g_iadd C dX11_functionsRead_7 ?_
  exact g_iret C hR (Nat.le_of_ble_eq_true rfl) (Nat.le_of_ble_eq_true rfl) dX11_functionsRead_8 ⟨6 + rF_1, rfl, rfl, h⟩
theorem dX11_functionHere_0 : decode cX11_functionHere 0 = .ok (.aload_n 0, 1) := by decide +kernel
theorem dX11_functionHere_1 : decode cX11_functionHere 1 = .ok (.getfield 142, 3) := by decide +kernel
theorem dX11_functionHere_4 : decode cX11_functionHere 4 = .ok (.ifCond .eq 5, 3) := by decide +kernel
theorem dX11_functionHere_7 : decode cX11_functionHere 7 = .ok (.iconst 0, 1) := by decide +kernel
theorem dX11_functionHere_8 : decode cX11_functionHere 8 = .ok (.ireturn, 1) := by decide +kernel
theorem dX11_functionHere_9 : decode cX11_functionHere 9 = .ok (.aload_n 0, 1) := by decide +kernel
theorem dX11_functionHere_10 : decode cX11_functionHere 10 = .ok (.getfield 108, 3) := by decide +kernel
theorem dX11_functionHere_13 : decode cX11_functionHere 13 = .ok (.iconst 1, 1) := by decide +kernel
theorem dX11_functionHere_14 : decode cX11_functionHere 14 = .ok (.if_icmp .eq 8, 3) := by decide +kernel
theorem dX11_functionHere_17 : decode cX11_functionHere 17 = .ok (.aload_n 0, 1) := by decide +kernel
theorem dX11_functionHere_18 : decode cX11_functionHere 18 = .ok (.iconst 1, 1) := by decide +kernel
theorem dX11_functionHere_19 : decode cX11_functionHere 19 = .ok (.invokevirtual 151, 3) := by decide +kernel
theorem dX11_functionHere_22 : decode cX11_functionHere 22 = .ok (.aload_n 0, 1) := by decide +kernel
theorem dX11_functionHere_23 : decode cX11_functionHere 23 = .ok (.getfield 142, 3) := by decide +kernel
theorem dX11_functionHere_26 : decode cX11_functionHere 26 = .ok (.ifCond .ne 20, 3) := by decide +kernel
theorem dX11_functionHere_29 : decode cX11_functionHere 29 = .ok (.aload_n 0, 1) := by decide +kernel
theorem dX11_functionHere_30 : decode cX11_functionHere 30 = .ok (.bipush 12, 2) := by decide +kernel
theorem dX11_functionHere_32 : decode cX11_functionHere 32 = .ok (.aload_n 0, 1) := by decide +kernel
theorem dX11_functionHere_33 : decode cX11_functionHere 33 = .ok (.invokevirtual 170, 3) := by decide +kernel
theorem dX11_functionHere_36 : decode cX11_functionHere 36 = .ok (.aload_n 0, 1) := by decide +kernel
theorem dX11_functionHere_37 : decode cX11_functionHere 37 = .ok (.getfield 118, 3) := by decide +kernel
theorem dX11_functionHere_40 : decode cX11_functionHere 40 = .ok (.invokevirtual 173, 3) := by decide +kernel
theorem dX11_functionHere_43 : decode cX11_functionHere 43 = .ok (.goto 4, 3) := by decide +kernel
theorem dX11_functionHere_46 : decode cX11_functionHere 46 = .ok (.iconst 0, 1) := by decide +kernel
theorem dX11_functionHere_47 : decode cX11_functionHere 47 = .ok (.istore_n 1, 1) := by decide +kernel
theorem dX11_functionHere_48 : decode cX11_functionHere 48 = .ok (.iload_n 1, 1) := by decide +kernel
theorem dX11_functionHere_49 : decode cX11_functionHere 49 = .ok (.iconst (-1), 1) := by decide +kernel
theorem dX11_functionHere_50 : decode cX11_functionHere 50 = .ok (.if_icmp .ne 8, 3) := by decide +kernel
theorem dX11_functionHere_53 : decode cX11_functionHere 53 = .ok (.aload_n 0, 1) := by decide +kernel
theorem dX11_functionHere_54 : decode cX11_functionHere 54 = .ok (.iconst 4, 1) := by decide +kernel
theorem dX11_functionHere_55 : decode cX11_functionHere 55 = .ok (.invokevirtual 151, 3) := by decide +kernel
theorem dX11_functionHere_58 : decode cX11_functionHere 58 = .ok (.aload_n 0, 1) := by decide +kernel
theorem dX11_functionHere_59 : decode cX11_functionHere 59 = .ok (.getfield 142, 3) := by decide +kernel
theorem dX11_functionHere_62 : decode cX11_functionHere 62 = .ok (.ifCond .ne 7, 3) := by decide +kernel
theorem dX11_functionHere_65 : decode cX11_functionHere 65 = .ok (.iload_n 1, 1) := by decide +kernel
theorem dX11_functionHere_66 : decode cX11_functionHere 66 = .ok (.goto 4, 3) := by decide +kernel
theorem dX11_functionHere_69 : decode cX11_functionHere 69 = .ok (.iconst 0, 1) := by decide +kernel
theorem dX11_functionHere_70 : decode cX11_functionHere 70 = .ok (.ireturn, 1) := by decide +kernel
/-- QuotientSumsModel.functionHere()I -/
def wX11_functionHere (thrown : Int32) (taped : Int32) (lines : Int32) (size : Int32) (atF : Int32) (place : Int32) (sort : Int32) (value : Int32) (fault : Int32) (faultPlace : Int32) (lastFault : Int32) (lastPlace : Int32) (undoable : Int32) (hasImage : Int32) (rowOf : Int32) (areSums : Int32) (isSieved : Int32) (blocks : Int32) (drawn : Int32) (number : Nat → Int32) (name : Nat → Int32)  (Q : (Int32) → (Int32) → (Int32) → Prop) : Prop :=
  ((fault = 0 → (∃ (J_1 : (Int32) → (Int32) → Prop), ((sort = 1 → (J_1 fault faultPlace)) ∧ (¬ sort = 1 → (∃ (P_4 : (Int32) → (Int32) → Prop), wX11_wrong thrown taped lines size atF place sort value fault faultPlace lastFault lastPlace undoable hasImage rowOf areSums isSieved blocks drawn 1 P_4 ∧ ∀ (fault_3 : Int32) (faultPlace_3 : Int32), P_4 fault_3 faultPlace_3 → (J_1 fault_3 faultPlace_3)))) ∧ (∀ (fault_1 : Int32) (faultPlace_1 : Int32), J_1 fault_1 faultPlace_1 → ((¬ fault_1 = 0 → ((¬ fault_1 = 0 → (Q 0 fault_1 faultPlace_1)) ∧ (fault_1 = 0 → (Q 0 fault_1 faultPlace_1)))) ∧ (fault_1 = 0 → (∃ (P_1 : (Int32) → Prop), wX11_functionsRead thrown taped lines size atF place sort value fault_1 faultPlace_1 lastFault lastPlace undoable hasImage rowOf areSums isSieved blocks drawn number P_1 ∧ ∀ (rF_1 : Int32), P_1 rF_1 → ∃ (P_2 : (Int32) → Prop), wX11_namedAt thrown taped lines size atF place sort value fault_1 faultPlace_1 lastFault lastPlace undoable hasImage rowOf areSums isSieved blocks drawn name 12 rF_1 value P_2 ∧ ∀ (rF_2 : Int32), P_2 rF_2 → ((¬ rF_2 = (-1) → ((¬ fault_1 = 0 → (Q 0 fault_1 faultPlace_1)) ∧ (fault_1 = 0 → (Q rF_2 fault_1 faultPlace_1)))) ∧ (rF_2 = (-1) → (∃ (P_3 : (Int32) → (Int32) → Prop), wX11_wrong thrown taped lines size atF place sort value fault_1 faultPlace_1 lastFault lastPlace undoable hasImage rowOf areSums isSieved blocks drawn 4 P_3 ∧ ∀ (fault_2 : Int32) (faultPlace_2 : Int32), P_3 fault_2 faultPlace_2 → ((¬ fault_2 = 0 → (Q 0 fault_2 faultPlace_2)) ∧ (fault_2 = 0 → (Q rF_2 fault_2 faultPlace_2)))))))))))) ∧ (¬ fault = 0 → (Q 0 fault faultPlace)))
set_option maxHeartbeats 4000000 in
set_option maxRecDepth 100000 in
theorem mX11_functionHere (l : Launch) (D : va_G) (Y : Nat → ClassId) (h0 : Nat) (thrown : Int32) (v_tape : Value) (taped : Int32) (q_number : Nat) (v_isTold : Value) (q_name : Nat) (v_sortOf : Value) (v_first : Value) (v_second : Value) (v_degree : Value) (v_colours : Value) (v_signBy : Value) (v_own : Value) (lines : Int32) (size : Int32) (atF : Int32) (place : Int32) (sort : Int32) (value : Int32) (fault : Int32) (faultPlace : Int32) (lastFault : Int32) (lastPlace : Int32) (v_sF : Value) (v_kept : Value) (undoable : Int32) (hasImage : Int32) (v_power : Value) (v_table : Value) (v_marks : Value) (v_row : Value) (rowOf : Int32) (areSums : Int32) (isSieved : Int32) (v_lastOf : Value) (blocks : Int32) (v_inBlock : Value) (v_atQuotient : Value) (v_small : Value) (drawn : Int32) (number : Nat → Int32) (name : Nat → Int32)  (Q : (Int32) → (Int32) → (Int32) → Prop) (h : wX11_functionHere thrown taped lines size atF place sort value fault faultPlace lastFault lastPlace undoable hasImage rowOf areSums isSieved blocks drawn number name Q) : gM l D Y yX11_functionHere cX11_functionHere 2 (some .int) 2 41 0 0 [.ref h0] [oX11 h0 thrown (v_tape) taped (.ref q_number) (v_isTold) (.ref q_name) (v_sortOf) (v_first) (v_second) (v_degree) (v_colours) (v_signBy) (v_own) lines size atF place sort value fault faultPlace lastFault lastPlace (v_sF) (v_kept) undoable hasImage (v_power) (v_table) (v_marks) (v_row) rowOf areSums isSieved (v_lastOf) blocks (v_inBlock) (v_atQuotient) (v_small) drawn, aI Y q_number 8 number, aI Y q_name 24 name] (fun v w => ∃ r : Int32, ∃ fault' : Int32, ∃ faultPlace' : Int32, v = some (.int r) ∧ w = [oX11 h0 thrown (v_tape) taped (.ref q_number) (v_isTold) (.ref q_name) (v_sortOf) (v_first) (v_second) (v_degree) (v_colours) (v_signBy) (v_own) lines size atF place sort value fault' faultPlace' lastFault lastPlace (v_sF) (v_kept) undoable hasImage (v_power) (v_table) (v_marks) (v_row) rowOf areSums isSieved (v_lastOf) blocks (v_inBlock) (v_atQuotient) (v_small) drawn, aI Y q_number 8 number, aI Y q_name 24 name] ∧ Q r fault' faultPlace') := by
  refine gM_of (own := RX11) (by decide +kernel) rfl (Nat.le_of_ble_eq_true rfl) rfl (fun E C hR => ?_)
  unfold wX11_functionHere at h
  refine g_aload_n C dX11_functionHere_0 0 rfl ?_
  refine g_get C inX11 0 rfl rfl 19 (by decide) wF_X11_142 rfl dX11_functionHere_1 ?_
  refine g_if_eq (tgt := 9) C dX11_functionHere_4 (by decide) (fun c_1 => ?_) (fun c_1 => ?_)
  · replace h := h.1 c_1
    refine g_aload_n C dX11_functionHere_9 0 rfl ?_
    refine g_get C inX11 0 rfl rfl 17 (by decide) wF_X11_108 rfl dX11_functionHere_10 ?_
    refine g_iconst (v := 1) C dX11_functionHere_13 rfl ?_
    obtain ⟨J_1, hA, hB_J_1⟩ := h
    have key_1 : ∀ (fault_1 : Int32) (faultPlace_1 : Int32), J_1 fault_1 faultPlace_1 → gG E 0 0 [oX11 h0 thrown (v_tape) taped (.ref q_number) (v_isTold) (.ref q_name) (v_sortOf) (v_first) (v_second) (v_degree) (v_colours) (v_signBy) (v_own) lines size atF place sort value fault_1 faultPlace_1 lastFault lastPlace (v_sF) (v_kept) undoable hasImage (v_power) (v_table) (v_marks) (v_row) rowOf areSums isSieved (v_lastOf) blocks (v_inBlock) (v_atQuotient) (v_small) drawn, aI Y q_number 8 number, aI Y q_name 24 name] [(0, .ref h0)] [] 22 := by
      intro fault_1 faultPlace_1 hJ
      have h := hB_J_1 fault_1 faultPlace_1 hJ
      refine g_aload_n C dX11_functionHere_22 0 rfl ?_
      refine g_get C inX11 0 rfl rfl 19 (by decide) wF_X11_142 rfl dX11_functionHere_23 ?_
      refine g_if_ne (tgt := 46) C dX11_functionHere_26 (by decide) (fun c_2 => ?_) (fun c_2 => ?_)
      · replace h := h.1 c_2
        refine g_iconst (v := 0) C dX11_functionHere_46 rfl ?_
        refine g_istore_n (lv' := [(1, .int 0), (0, .ref h0)]) C dX11_functionHere_47 (by decide) rfl ?_
        refine g_iload_n C dX11_functionHere_48 0 rfl ?_
        refine g_iconst (v := (-1)) C dX11_functionHere_49 rfl ?_
        refine g_icmp_ne (tgt := 58) C dX11_functionHere_50 (by decide) (fun _ => ?_) (fun c => absurd c (by decide))
        refine g_aload_n C dX11_functionHere_58 1 rfl ?_
        refine g_get C inX11 0 rfl rfl 19 (by decide) wF_X11_142 rfl dX11_functionHere_59 ?_
        refine g_if_ne (tgt := 69) C dX11_functionHere_62 (by decide) (fun c_3 => ?_) (fun c_3 => ?_)
        · replace h := h.1 c_3
          refine g_iconst (v := 0) C dX11_functionHere_69 rfl ?_
          exact g_iret C hR (Nat.le_of_ble_eq_true rfl) (Nat.le_of_ble_eq_true rfl) dX11_functionHere_70 ⟨0, fault_1, faultPlace_1, rfl, rfl, h⟩
        · replace h := h.2 c_3
          refine g_iload_n C dX11_functionHere_65 0 rfl ?_
          refine g_goto (tgt := 70) C dX11_functionHere_66 (by decide) ?_
          exact g_iret C hR (Nat.le_of_ble_eq_true rfl) (Nat.le_of_ble_eq_true rfl) dX11_functionHere_70 ⟨0, fault_1, faultPlace_1, rfl, rfl, h⟩
      · replace h := h.2 c_2
        refine g_aload_n C dX11_functionHere_29 0 rfl ?_
        refine g_bipush (v := 12) C dX11_functionHere_30 rfl ?_
        refine g_aload_n C dX11_functionHere_32 0 rfl ?_
        obtain ⟨P_1, hP, h⟩ := h
        refine g_callV (As := []) (rest := [.int 12, .ref h0]) C (mX11_functionsRead l D Y h0 thrown v_tape taped q_number v_isTold (.ref q_name) v_sortOf v_first v_second v_degree v_colours v_signBy v_own lines size atF place sort value fault_1 faultPlace_1 lastFault lastPlace v_sF v_kept undoable hasImage v_power v_table v_marks v_row rowOf areSums isSieved v_lastOf blocks v_inBlock v_atQuotient v_small drawn number P_1 hP) dX11_functionHere_33 rfl wM_X11_170 wI_X11_functionsRead wV_X11_functionsRead wN_X11 wC_X11_functionsRead (n := 0) (by decide +kernel) rfl (q0 := 0) rfl rfl ⟨Nat.le_of_ble_eq_true rfl, Nat.le_of_ble_eq_true rfl⟩ ⟨Nat.le_of_ble_eq_true rfl, Nat.le_of_ble_eq_true rfl⟩ (Nat.le_of_ble_eq_true rfl) [0, 1] [2] rfl rfl rfl (fun v wc hv => ?_)
        obtain ⟨rF_1, rfl, rfl, hq⟩ := hv
        replace h := h rF_1 hq
        refine gG.perm (ws' := [oX11 h0 thrown (v_tape) taped (.ref q_number) (v_isTold) (.ref q_name) (v_sortOf) (v_first) (v_second) (v_degree) (v_colours) (v_signBy) (v_own) lines size atF place sort value fault_1 faultPlace_1 lastFault lastPlace (v_sF) (v_kept) undoable hasImage (v_power) (v_table) (v_marks) (v_row) rowOf areSums isSieved (v_lastOf) blocks (v_inBlock) (v_atQuotient) (v_small) drawn, aI Y q_number 8 number, aI Y q_name 24 name]) [1, 2, 0] rfl rfl ?_
        refine g_aload_n C dX11_functionHere_36 0 rfl ?_
        refine g_get C inX11 0 rfl rfl 18 (by decide) wF_X11_118 rfl dX11_functionHere_37 ?_
        obtain ⟨P_2, hP, h⟩ := h
        refine g_callV (As := [.int 12, .int rF_1, .int value]) (rest := []) C (mX11_namedAt l D Y h0 thrown v_tape taped (.ref q_number) v_isTold q_name v_sortOf v_first v_second v_degree v_colours v_signBy v_own lines size atF place sort value fault_1 faultPlace_1 lastFault lastPlace v_sF v_kept undoable hasImage v_power v_table v_marks v_row rowOf areSums isSieved v_lastOf blocks v_inBlock v_atQuotient v_small drawn name 12 rF_1 value P_2 hP) dX11_functionHere_40 rfl wM_X11_173 wI_X11_namedAt wV_X11_namedAt wN_X11 wC_X11_namedAt (n := 3) (by decide +kernel) rfl (q0 := 0) rfl rfl ⟨Nat.le_of_ble_eq_true rfl, Nat.le_of_ble_eq_true rfl⟩ ⟨Nat.le_of_ble_eq_true rfl, Nat.le_of_ble_eq_true rfl⟩ (Nat.le_of_ble_eq_true rfl) [0, 2] [1] rfl rfl rfl (fun v wc hv => ?_)
        obtain ⟨rF_2, rfl, rfl, hq⟩ := hv
        replace h := h rF_2 hq
        refine gG.perm (ws' := [oX11 h0 thrown (v_tape) taped (.ref q_number) (v_isTold) (.ref q_name) (v_sortOf) (v_first) (v_second) (v_degree) (v_colours) (v_signBy) (v_own) lines size atF place sort value fault_1 faultPlace_1 lastFault lastPlace (v_sF) (v_kept) undoable hasImage (v_power) (v_table) (v_marks) (v_row) rowOf areSums isSieved (v_lastOf) blocks (v_inBlock) (v_atQuotient) (v_small) drawn, aI Y q_number 8 number, aI Y q_name 24 name]) [1, 0, 2] rfl rfl ?_
        refine g_goto (tgt := 47) C dX11_functionHere_43 (by decide) ?_
        refine g_istore_n (lv' := [(1, .int rF_2), (0, .ref h0)]) C dX11_functionHere_47 (by decide) rfl ?_
        refine g_iload_n C dX11_functionHere_48 0 rfl ?_
        refine g_iconst (v := (-1)) C dX11_functionHere_49 rfl ?_
        refine g_icmp_ne (tgt := 58) C dX11_functionHere_50 (by decide) (fun c_4 => ?_) (fun c_4 => ?_)
        · replace h := h.1 c_4
          refine g_aload_n C dX11_functionHere_58 1 rfl ?_
          refine g_get C inX11 0 rfl rfl 19 (by decide) wF_X11_142 rfl dX11_functionHere_59 ?_
          refine g_if_ne (tgt := 69) C dX11_functionHere_62 (by decide) (fun c_5 => ?_) (fun c_5 => ?_)
          · replace h := h.1 c_5
            refine g_iconst (v := 0) C dX11_functionHere_69 rfl ?_
            exact g_iret C hR (Nat.le_of_ble_eq_true rfl) (Nat.le_of_ble_eq_true rfl) dX11_functionHere_70 ⟨0, fault_1, faultPlace_1, rfl, rfl, h⟩
          · replace h := h.2 c_5
            refine g_iload_n C dX11_functionHere_65 0 rfl ?_
            refine g_goto (tgt := 70) C dX11_functionHere_66 (by decide) ?_
            exact g_iret C hR (Nat.le_of_ble_eq_true rfl) (Nat.le_of_ble_eq_true rfl) dX11_functionHere_70 ⟨rF_2, fault_1, faultPlace_1, rfl, rfl, h⟩
        · replace h := h.2 c_4
          refine g_aload_n C dX11_functionHere_53 1 rfl ?_
          refine g_iconst (v := 4) C dX11_functionHere_54 rfl ?_
          obtain ⟨P_3, hP, h⟩ := h
          refine g_callV (As := [.int 4]) (rest := []) C (mX11_wrong l D Y h0 thrown v_tape taped (.ref q_number) v_isTold (.ref q_name) v_sortOf v_first v_second v_degree v_colours v_signBy v_own lines size atF place sort value fault_1 faultPlace_1 lastFault lastPlace v_sF v_kept undoable hasImage v_power v_table v_marks v_row rowOf areSums isSieved v_lastOf blocks v_inBlock v_atQuotient v_small drawn 4 P_3 hP) dX11_functionHere_55 rfl wM_X11_151 wI_X11_wrong wV_X11_wrong wN_X11 wC_X11_wrong (n := 1) (by decide +kernel) rfl (q0 := 0) rfl rfl ⟨Nat.le_of_ble_eq_true rfl, Nat.le_of_ble_eq_true rfl⟩ ⟨Nat.le_of_ble_eq_true rfl, Nat.le_of_ble_eq_true rfl⟩ (Nat.le_of_ble_eq_true rfl) [0] [1, 2] rfl rfl rfl (fun v wc hv => ?_)
          obtain ⟨fault_2, faultPlace_2, rfl, rfl, hq⟩ := hv
          replace h := h fault_2 faultPlace_2 hq
          refine gG.perm (ws' := [oX11 h0 thrown (v_tape) taped (.ref q_number) (v_isTold) (.ref q_name) (v_sortOf) (v_first) (v_second) (v_degree) (v_colours) (v_signBy) (v_own) lines size atF place sort value fault_2 faultPlace_2 lastFault lastPlace (v_sF) (v_kept) undoable hasImage (v_power) (v_table) (v_marks) (v_row) rowOf areSums isSieved (v_lastOf) blocks (v_inBlock) (v_atQuotient) (v_small) drawn, aI Y q_number 8 number, aI Y q_name 24 name]) [2, 0, 1] rfl rfl ?_
          refine g_aload_n C dX11_functionHere_58 1 rfl ?_
          refine g_get C inX11 0 rfl rfl 19 (by decide) wF_X11_142 rfl dX11_functionHere_59 ?_
          refine g_if_ne (tgt := 69) C dX11_functionHere_62 (by decide) (fun c_6 => ?_) (fun c_6 => ?_)
          · replace h := h.1 c_6
            refine g_iconst (v := 0) C dX11_functionHere_69 rfl ?_
            exact g_iret C hR (Nat.le_of_ble_eq_true rfl) (Nat.le_of_ble_eq_true rfl) dX11_functionHere_70 ⟨0, fault_2, faultPlace_2, rfl, rfl, h⟩
          · replace h := h.2 c_6
            refine g_iload_n C dX11_functionHere_65 0 rfl ?_
            refine g_goto (tgt := 70) C dX11_functionHere_66 (by decide) ?_
            exact g_iret C hR (Nat.le_of_ble_eq_true rfl) (Nat.le_of_ble_eq_true rfl) dX11_functionHere_70 ⟨rF_2, fault_2, faultPlace_2, rfl, rfl, h⟩
    replace h := hA
    refine g_icmp_eq (tgt := 22) C dX11_functionHere_14 (by decide) (fun c_7 => ?_) (fun c_7 => ?_)
    · replace h := h.1 c_7
      exact key_1 fault faultPlace h
    · replace h := h.2 c_7
      refine g_aload_n C dX11_functionHere_17 0 rfl ?_
      refine g_iconst (v := 1) C dX11_functionHere_18 rfl ?_
      obtain ⟨P_4, hP, h⟩ := h
      refine g_callV (As := [.int 1]) (rest := []) C (mX11_wrong l D Y h0 thrown v_tape taped (.ref q_number) v_isTold (.ref q_name) v_sortOf v_first v_second v_degree v_colours v_signBy v_own lines size atF place sort value fault faultPlace lastFault lastPlace v_sF v_kept undoable hasImage v_power v_table v_marks v_row rowOf areSums isSieved v_lastOf blocks v_inBlock v_atQuotient v_small drawn 1 P_4 hP) dX11_functionHere_19 rfl wM_X11_151 wI_X11_wrong wV_X11_wrong wN_X11 wC_X11_wrong (n := 1) (by decide +kernel) rfl (q0 := 0) rfl rfl ⟨Nat.le_of_ble_eq_true rfl, Nat.le_of_ble_eq_true rfl⟩ ⟨Nat.le_of_ble_eq_true rfl, Nat.le_of_ble_eq_true rfl⟩ (Nat.le_of_ble_eq_true rfl) [0] [1, 2] rfl rfl rfl (fun v wc hv => ?_)
      obtain ⟨fault_3, faultPlace_3, rfl, rfl, hq⟩ := hv
      replace h := h fault_3 faultPlace_3 hq
      refine gG.perm (ws' := [oX11 h0 thrown (v_tape) taped (.ref q_number) (v_isTold) (.ref q_name) (v_sortOf) (v_first) (v_second) (v_degree) (v_colours) (v_signBy) (v_own) lines size atF place sort value fault_3 faultPlace_3 lastFault lastPlace (v_sF) (v_kept) undoable hasImage (v_power) (v_table) (v_marks) (v_row) rowOf areSums isSieved (v_lastOf) blocks (v_inBlock) (v_atQuotient) (v_small) drawn, aI Y q_number 8 number, aI Y q_name 24 name]) [2, 0, 1] rfl rfl ?_
      exact key_1 fault_3 faultPlace_3 h
  · replace h := h.2 c_1
    refine g_iconst (v := 0) C dX11_functionHere_7 rfl ?_
    exact g_iret C hR (Nat.le_of_ble_eq_true rfl) (Nat.le_of_ble_eq_true rfl) dX11_functionHere_8 ⟨0, fault, faultPlace, rfl, rfl, h⟩
theorem dX11_fault_0 : decode cX11_fault 0 = .ok (.aload_n 0, 1) := by decide +kernel
theorem dX11_fault_1 : decode cX11_fault 1 = .ok (.iconst 0, 1) := by decide +kernel
theorem dX11_fault_2 : decode cX11_fault 2 = .ok (.putfield 89, 3) := by decide +kernel
theorem dX11_fault_5 : decode cX11_fault 5 = .ok (.iload_n 1, 1) := by decide +kernel
theorem dX11_fault_6 : decode cX11_fault 6 = .ok (.ifCond .ne 10, 3) := by decide +kernel
theorem dX11_fault_9 : decode cX11_fault 9 = .ok (.aload_n 0, 1) := by decide +kernel
theorem dX11_fault_10 : decode cX11_fault 10 = .ok (.getfield 216, 3) := by decide +kernel
theorem dX11_fault_13 : decode cX11_fault 13 = .ok (.goto 16, 3) := by decide +kernel
theorem dX11_fault_16 : decode cX11_fault 16 = .ok (.iload_n 1, 1) := by decide +kernel
theorem dX11_fault_17 : decode cX11_fault 17 = .ok (.iconst 1, 1) := by decide +kernel
theorem dX11_fault_18 : decode cX11_fault 18 = .ok (.if_icmp .ne 10, 3) := by decide +kernel
theorem dX11_fault_21 : decode cX11_fault 21 = .ok (.aload_n 0, 1) := by decide +kernel
theorem dX11_fault_22 : decode cX11_fault 22 = .ok (.getfield 44, 3) := by decide +kernel
theorem dX11_fault_25 : decode cX11_fault 25 = .ok (.goto 4, 3) := by decide +kernel
theorem dX11_fault_28 : decode cX11_fault 28 = .ok (.iconst (-1), 1) := by decide +kernel
theorem dX11_fault_29 : decode cX11_fault 29 = .ok (.ireturn, 1) := by decide +kernel
/-- QuotientSumsModel.fault(I)I -/
def wX11_fault (thrown : Int32) (taped : Int32) (lines : Int32) (size : Int32) (atF : Int32) (place : Int32) (sort : Int32) (value : Int32) (fault : Int32) (faultPlace : Int32) (lastFault : Int32) (lastPlace : Int32) (undoable : Int32) (hasImage : Int32) (rowOf : Int32) (areSums : Int32) (isSieved : Int32) (blocks : Int32) (drawn : Int32) (a1 : Int32) (Q : (Int32) → (Int32) → Prop) : Prop :=
  ((¬ a1 = 0 → ((¬ a1 = 1 → (Q (-1) 0)) ∧ (a1 = 1 → (Q lastPlace 0)))) ∧ (a1 = 0 → (Q lastFault 0)))
set_option maxHeartbeats 4000000 in
set_option maxRecDepth 100000 in
theorem mX11_fault (l : Launch) (D : va_G) (Y : Nat → ClassId) (h0 : Nat) (thrown : Int32) (v_tape : Value) (taped : Int32) (v_number : Value) (v_isTold : Value) (v_name : Value) (v_sortOf : Value) (v_first : Value) (v_second : Value) (v_degree : Value) (v_colours : Value) (v_signBy : Value) (v_own : Value) (lines : Int32) (size : Int32) (atF : Int32) (place : Int32) (sort : Int32) (value : Int32) (fault : Int32) (faultPlace : Int32) (lastFault : Int32) (lastPlace : Int32) (v_sF : Value) (v_kept : Value) (undoable : Int32) (hasImage : Int32) (v_power : Value) (v_table : Value) (v_marks : Value) (v_row : Value) (rowOf : Int32) (areSums : Int32) (isSieved : Int32) (v_lastOf : Value) (blocks : Int32) (v_inBlock : Value) (v_atQuotient : Value) (v_small : Value) (drawn : Int32) (a1 : Int32) (Q : (Int32) → (Int32) → Prop) (h : wX11_fault thrown taped lines size atF place sort value fault faultPlace lastFault lastPlace undoable hasImage rowOf areSums isSieved blocks drawn a1 Q) : gM l D Y yX11_fault cX11_fault 2 (some .int) 0 0 0 0 [.ref h0, .int a1] [oX11 h0 thrown (v_tape) taped (v_number) (v_isTold) (v_name) (v_sortOf) (v_first) (v_second) (v_degree) (v_colours) (v_signBy) (v_own) lines size atF place sort value fault faultPlace lastFault lastPlace (v_sF) (v_kept) undoable hasImage (v_power) (v_table) (v_marks) (v_row) rowOf areSums isSieved (v_lastOf) blocks (v_inBlock) (v_atQuotient) (v_small) drawn] (fun v w => ∃ r : Int32, ∃ thrown' : Int32, v = some (.int r) ∧ w = [oX11 h0 thrown' (v_tape) taped (v_number) (v_isTold) (v_name) (v_sortOf) (v_first) (v_second) (v_degree) (v_colours) (v_signBy) (v_own) lines size atF place sort value fault faultPlace lastFault lastPlace (v_sF) (v_kept) undoable hasImage (v_power) (v_table) (v_marks) (v_row) rowOf areSums isSieved (v_lastOf) blocks (v_inBlock) (v_atQuotient) (v_small) drawn] ∧ Q r thrown') := by
  refine gM_of (own := RX11) (by decide +kernel) rfl (Nat.le_of_ble_eq_true rfl) rfl (fun E C hR => ?_)
  unfold wX11_fault at h
  refine g_aload_n C dX11_fault_0 0 rfl ?_
  refine g_iconst (v := 0) C dX11_fault_1 rfl ?_
  refine g_put C inX11 tyX11 tyX11_ok nmX11 0 rfl rfl 0 (by decide) wF_X11_89 rfl rfl rfl (Nat.le_of_ble_eq_true rfl) (ws' := [oX11 h0 0 (v_tape) taped (v_number) (v_isTold) (v_name) (v_sortOf) (v_first) (v_second) (v_degree) (v_colours) (v_signBy) (v_own) lines size atF place sort value fault faultPlace lastFault lastPlace (v_sF) (v_kept) undoable hasImage (v_power) (v_table) (v_marks) (v_row) rowOf areSums isSieved (v_lastOf) blocks (v_inBlock) (v_atQuotient) (v_small) drawn]) rfl dX11_fault_2 ?_
  refine g_iload_n C dX11_fault_5 1 rfl ?_
  refine g_if_ne (tgt := 16) C dX11_fault_6 (by decide) (fun c_1 => ?_) (fun c_1 => ?_)
  · replace h := h.1 c_1
    refine g_iload_n C dX11_fault_16 1 rfl ?_
    refine g_iconst (v := 1) C dX11_fault_17 rfl ?_
    refine g_icmp_ne (tgt := 28) C dX11_fault_18 (by decide) (fun c_2 => ?_) (fun c_2 => ?_)
    · replace h := h.1 c_2
      refine g_iconst (v := (-1)) C dX11_fault_28 rfl ?_
      exact g_iret C hR (Nat.le_of_ble_eq_true rfl) (Nat.le_of_ble_eq_true rfl) dX11_fault_29 ⟨(-1), 0, rfl, rfl, h⟩
    · replace h := h.2 c_2
      refine g_aload_n C dX11_fault_21 0 rfl ?_
      refine g_get C inX11 0 rfl rfl 22 (by decide) wF_X11_44 rfl dX11_fault_22 ?_
      refine g_goto (tgt := 29) C dX11_fault_25 (by decide) ?_
      exact g_iret C hR (Nat.le_of_ble_eq_true rfl) (Nat.le_of_ble_eq_true rfl) dX11_fault_29 ⟨lastPlace, 0, rfl, rfl, h⟩
  · replace h := h.2 c_1
    refine g_aload_n C dX11_fault_9 0 rfl ?_
    refine g_get C inX11 0 rfl rfl 21 (by decide) wF_X11_216 rfl dX11_fault_10 ?_
    refine g_goto (tgt := 29) C dX11_fault_13 (by decide) ?_
    exact g_iret C hR (Nat.le_of_ble_eq_true rfl) (Nat.le_of_ble_eq_true rfl) dX11_fault_29 ⟨lastFault, 0, rfl, rfl, h⟩
theorem dX11_functions_0 : decode cX11_functions 0 = .ok (.bipush 6, 2) := by decide +kernel
theorem dX11_functions_2 : decode cX11_functions 2 = .ok (.aload_n 0, 1) := by decide +kernel
theorem dX11_functions_3 : decode cX11_functions 3 = .ok (.getfield 13, 3) := by decide +kernel
theorem dX11_functions_6 : decode cX11_functions 6 = .ok (.iconst 3, 1) := by decide +kernel
theorem dX11_functions_7 : decode cX11_functions 7 = .ok (.iaload, 1) := by decide +kernel
theorem dX11_functions_8 : decode cX11_functions 8 = .ok (.iadd, 1) := by decide +kernel
theorem dX11_functions_9 : decode cX11_functions 9 = .ok (.ireturn, 1) := by decide +kernel
/-- QuotientSumsModel.functions()I -/
def wX11_functions (thrown : Int32) (taped : Int32) (lines : Int32) (size : Int32) (atF : Int32) (place : Int32) (sort : Int32) (value : Int32) (fault : Int32) (faultPlace : Int32) (lastFault : Int32) (lastPlace : Int32) (undoable : Int32) (hasImage : Int32) (rowOf : Int32) (areSums : Int32) (isSieved : Int32) (blocks : Int32) (drawn : Int32) (number : Nat → Int32)  (Q : (Int32) → Prop) : Prop :=
  (Q (6 + (number 3)))
set_option maxHeartbeats 4000000 in
set_option maxRecDepth 100000 in
theorem mX11_functions (l : Launch) (D : va_G) (Y : Nat → ClassId) (h0 : Nat) (thrown : Int32) (v_tape : Value) (taped : Int32) (q_number : Nat) (v_isTold : Value) (v_name : Value) (v_sortOf : Value) (v_first : Value) (v_second : Value) (v_degree : Value) (v_colours : Value) (v_signBy : Value) (v_own : Value) (lines : Int32) (size : Int32) (atF : Int32) (place : Int32) (sort : Int32) (value : Int32) (fault : Int32) (faultPlace : Int32) (lastFault : Int32) (lastPlace : Int32) (v_sF : Value) (v_kept : Value) (undoable : Int32) (hasImage : Int32) (v_power : Value) (v_table : Value) (v_marks : Value) (v_row : Value) (rowOf : Int32) (areSums : Int32) (isSieved : Int32) (v_lastOf : Value) (blocks : Int32) (v_inBlock : Value) (v_atQuotient : Value) (v_small : Value) (drawn : Int32) (number : Nat → Int32)  (Q : (Int32) → Prop) (h : wX11_functions thrown taped lines size atF place sort value fault faultPlace lastFault lastPlace undoable hasImage rowOf areSums isSieved blocks drawn number Q) : gM l D Y yX11_functions cX11_functions 1 (some .int) 0 0 0 0 [.ref h0] [oX11 h0 thrown (v_tape) taped (.ref q_number) (v_isTold) (v_name) (v_sortOf) (v_first) (v_second) (v_degree) (v_colours) (v_signBy) (v_own) lines size atF place sort value fault faultPlace lastFault lastPlace (v_sF) (v_kept) undoable hasImage (v_power) (v_table) (v_marks) (v_row) rowOf areSums isSieved (v_lastOf) blocks (v_inBlock) (v_atQuotient) (v_small) drawn, aI Y q_number 8 number] (fun v w => ∃ r : Int32, v = some (.int r) ∧ w = [oX11 h0 thrown (v_tape) taped (.ref q_number) (v_isTold) (v_name) (v_sortOf) (v_first) (v_second) (v_degree) (v_colours) (v_signBy) (v_own) lines size atF place sort value fault faultPlace lastFault lastPlace (v_sF) (v_kept) undoable hasImage (v_power) (v_table) (v_marks) (v_row) rowOf areSums isSieved (v_lastOf) blocks (v_inBlock) (v_atQuotient) (v_small) drawn, aI Y q_number 8 number] ∧ Q r) := by
  refine gM_of (own := RX11) (by decide +kernel) rfl (Nat.le_of_ble_eq_true rfl) rfl (fun E C hR => ?_)
  unfold wX11_functions at h
  refine g_bipush (v := 6) C dX11_functions_0 rfl ?_
  refine g_aload_n C dX11_functions_2 0 rfl ?_
  refine g_get C inX11 0 rfl rfl 3 (by decide) wF_X11_13 rfl dX11_functions_3 ?_
  refine g_iconst (v := 3) C dX11_functions_6 rfl ?_
  refine g_iald C 1 rfl (by unfold vp_in; decide) dX11_functions_7 ?_
  refine g_iadd C dX11_functions_8 ?_
  exact g_iret C hR (Nat.le_of_ble_eq_true rfl) (Nat.le_of_ble_eq_true rfl) dX11_functions_9 ⟨6 + (number 3), rfl, rfl, h⟩
theorem dX11_named_0 : decode cX11_named 0 = .ok (.aload_n 0, 1) := by decide +kernel
theorem dX11_named_1 : decode cX11_named 1 = .ok (.iconst 0, 1) := by decide +kernel
theorem dX11_named_2 : decode cX11_named 2 = .ok (.putfield 89, 3) := by decide +kernel
theorem dX11_named_5 : decode cX11_named 5 = .ok (.aload_n 0, 1) := by decide +kernel
theorem dX11_named_6 : decode cX11_named 6 = .ok (.iconst 0, 1) := by decide +kernel
theorem dX11_named_7 : decode cX11_named 7 = .ok (.aload_n 0, 1) := by decide +kernel
theorem dX11_named_8 : decode cX11_named 8 = .ok (.invokevirtual 226, 3) := by decide +kernel
theorem dX11_named_11 : decode cX11_named 11 = .ok (.iload_n 1, 1) := by decide +kernel
theorem dX11_named_12 : decode cX11_named 12 = .ok (.invokevirtual 173, 3) := by decide +kernel
theorem dX11_named_15 : decode cX11_named 15 = .ok (.ireturn, 1) := by decide +kernel
/-- QuotientSumsModel.named(I)I -/
def wX11_named (thrown : Int32) (taped : Int32) (lines : Int32) (size : Int32) (atF : Int32) (place : Int32) (sort : Int32) (value : Int32) (fault : Int32) (faultPlace : Int32) (lastFault : Int32) (lastPlace : Int32) (undoable : Int32) (hasImage : Int32) (rowOf : Int32) (areSums : Int32) (isSieved : Int32) (blocks : Int32) (drawn : Int32) (number : Nat → Int32) (name : Nat → Int32) (a1 : Int32) (Q : (Int32) → (Int32) → Prop) : Prop :=
  (∃ (P_1 : (Int32) → Prop), wX11_functions 0 taped lines size atF place sort value fault faultPlace lastFault lastPlace undoable hasImage rowOf areSums isSieved blocks drawn number P_1 ∧ ∀ (rF_1 : Int32), P_1 rF_1 → ∃ (P_2 : (Int32) → Prop), wX11_namedAt 0 taped lines size atF place sort value fault faultPlace lastFault lastPlace undoable hasImage rowOf areSums isSieved blocks drawn name 0 rF_1 a1 P_2 ∧ ∀ (rF_2 : Int32), P_2 rF_2 → (Q rF_2 0))
set_option maxHeartbeats 4000000 in
set_option maxRecDepth 100000 in
theorem mX11_named (l : Launch) (D : va_G) (Y : Nat → ClassId) (h0 : Nat) (thrown : Int32) (v_tape : Value) (taped : Int32) (q_number : Nat) (v_isTold : Value) (q_name : Nat) (v_sortOf : Value) (v_first : Value) (v_second : Value) (v_degree : Value) (v_colours : Value) (v_signBy : Value) (v_own : Value) (lines : Int32) (size : Int32) (atF : Int32) (place : Int32) (sort : Int32) (value : Int32) (fault : Int32) (faultPlace : Int32) (lastFault : Int32) (lastPlace : Int32) (v_sF : Value) (v_kept : Value) (undoable : Int32) (hasImage : Int32) (v_power : Value) (v_table : Value) (v_marks : Value) (v_row : Value) (rowOf : Int32) (areSums : Int32) (isSieved : Int32) (v_lastOf : Value) (blocks : Int32) (v_inBlock : Value) (v_atQuotient : Value) (v_small : Value) (drawn : Int32) (number : Nat → Int32) (name : Nat → Int32) (a1 : Int32) (Q : (Int32) → (Int32) → Prop) (h : wX11_named thrown taped lines size atF place sort value fault faultPlace lastFault lastPlace undoable hasImage rowOf areSums isSieved blocks drawn number name a1 Q) : gM l D Y yX11_named cX11_named 2 (some .int) 1 24 0 0 [.ref h0, .int a1] [oX11 h0 thrown (v_tape) taped (.ref q_number) (v_isTold) (.ref q_name) (v_sortOf) (v_first) (v_second) (v_degree) (v_colours) (v_signBy) (v_own) lines size atF place sort value fault faultPlace lastFault lastPlace (v_sF) (v_kept) undoable hasImage (v_power) (v_table) (v_marks) (v_row) rowOf areSums isSieved (v_lastOf) blocks (v_inBlock) (v_atQuotient) (v_small) drawn, aI Y q_number 8 number, aI Y q_name 24 name] (fun v w => ∃ r : Int32, ∃ thrown' : Int32, v = some (.int r) ∧ w = [oX11 h0 thrown' (v_tape) taped (.ref q_number) (v_isTold) (.ref q_name) (v_sortOf) (v_first) (v_second) (v_degree) (v_colours) (v_signBy) (v_own) lines size atF place sort value fault faultPlace lastFault lastPlace (v_sF) (v_kept) undoable hasImage (v_power) (v_table) (v_marks) (v_row) rowOf areSums isSieved (v_lastOf) blocks (v_inBlock) (v_atQuotient) (v_small) drawn, aI Y q_number 8 number, aI Y q_name 24 name] ∧ Q r thrown') := by
  refine gM_of (own := RX11) (by decide +kernel) rfl (Nat.le_of_ble_eq_true rfl) rfl (fun E C hR => ?_)
  unfold wX11_named at h
  refine g_aload_n C dX11_named_0 0 rfl ?_
  refine g_iconst (v := 0) C dX11_named_1 rfl ?_
  refine g_put C inX11 tyX11 tyX11_ok nmX11 0 rfl rfl 0 (by decide) wF_X11_89 rfl rfl rfl (Nat.le_of_ble_eq_true rfl) (ws' := [oX11 h0 0 (v_tape) taped (.ref q_number) (v_isTold) (.ref q_name) (v_sortOf) (v_first) (v_second) (v_degree) (v_colours) (v_signBy) (v_own) lines size atF place sort value fault faultPlace lastFault lastPlace (v_sF) (v_kept) undoable hasImage (v_power) (v_table) (v_marks) (v_row) rowOf areSums isSieved (v_lastOf) blocks (v_inBlock) (v_atQuotient) (v_small) drawn, aI Y q_number 8 number, aI Y q_name 24 name]) rfl dX11_named_2 ?_
  refine g_aload_n C dX11_named_5 0 rfl ?_
  refine g_iconst (v := 0) C dX11_named_6 rfl ?_
  refine g_aload_n C dX11_named_7 0 rfl ?_
  obtain ⟨P_1, hP, h⟩ := h
  refine g_callV (As := []) (rest := [.int 0, .ref h0]) C (mX11_functions l D Y h0 0 v_tape taped q_number v_isTold (.ref q_name) v_sortOf v_first v_second v_degree v_colours v_signBy v_own lines size atF place sort value fault faultPlace lastFault lastPlace v_sF v_kept undoable hasImage v_power v_table v_marks v_row rowOf areSums isSieved v_lastOf blocks v_inBlock v_atQuotient v_small drawn number P_1 hP) dX11_named_8 rfl wM_X11_226 wI_X11_functions wV_X11_functions wN_X11 wC_X11_functions (n := 0) (by decide +kernel) rfl (q0 := 0) rfl rfl ⟨Nat.le_of_ble_eq_true rfl, Nat.le_of_ble_eq_true rfl⟩ ⟨Nat.le_of_ble_eq_true rfl, Nat.le_of_ble_eq_true rfl⟩ (Nat.le_of_ble_eq_true rfl) [0, 1] [2] rfl rfl rfl (fun v wc hv => ?_)
  obtain ⟨rF_1, rfl, rfl, hq⟩ := hv
  replace h := h rF_1 hq
  refine gG.perm (ws' := [oX11 h0 0 (v_tape) taped (.ref q_number) (v_isTold) (.ref q_name) (v_sortOf) (v_first) (v_second) (v_degree) (v_colours) (v_signBy) (v_own) lines size atF place sort value fault faultPlace lastFault lastPlace (v_sF) (v_kept) undoable hasImage (v_power) (v_table) (v_marks) (v_row) rowOf areSums isSieved (v_lastOf) blocks (v_inBlock) (v_atQuotient) (v_small) drawn, aI Y q_number 8 number, aI Y q_name 24 name]) [1, 2, 0] rfl rfl ?_
  refine g_iload_n C dX11_named_11 1 rfl ?_
  obtain ⟨P_2, hP, h⟩ := h
  refine g_callV (As := [.int 0, .int rF_1, .int a1]) (rest := []) C (mX11_namedAt l D Y h0 0 v_tape taped (.ref q_number) v_isTold q_name v_sortOf v_first v_second v_degree v_colours v_signBy v_own lines size atF place sort value fault faultPlace lastFault lastPlace v_sF v_kept undoable hasImage v_power v_table v_marks v_row rowOf areSums isSieved v_lastOf blocks v_inBlock v_atQuotient v_small drawn name 0 rF_1 a1 P_2 hP) dX11_named_12 rfl wM_X11_173 wI_X11_namedAt wV_X11_namedAt wN_X11 wC_X11_namedAt (n := 3) (by decide +kernel) rfl (q0 := 0) rfl rfl ⟨Nat.le_of_ble_eq_true rfl, Nat.le_of_ble_eq_true rfl⟩ ⟨Nat.le_of_ble_eq_true rfl, Nat.le_of_ble_eq_true rfl⟩ (Nat.le_of_ble_eq_true rfl) [0, 2] [1] rfl rfl rfl (fun v wc hv => ?_)
  obtain ⟨rF_2, rfl, rfl, hq⟩ := hv
  replace h := h rF_2 hq
  refine gG.perm (ws' := [oX11 h0 0 (v_tape) taped (.ref q_number) (v_isTold) (.ref q_name) (v_sortOf) (v_first) (v_second) (v_degree) (v_colours) (v_signBy) (v_own) lines size atF place sort value fault faultPlace lastFault lastPlace (v_sF) (v_kept) undoable hasImage (v_power) (v_table) (v_marks) (v_row) rowOf areSums isSieved (v_lastOf) blocks (v_inBlock) (v_atQuotient) (v_small) drawn, aI Y q_number 8 number, aI Y q_name 24 name]) [1, 0, 2] rfl rfl ?_
  exact g_iret C hR (Nat.le_of_ble_eq_true rfl) (Nat.le_of_ble_eq_true rfl) dX11_named_15 ⟨rF_2, 0, rfl, rfl, h⟩
theorem dX11_lays_0 : decode cX11_lays 0 = .ok (.iconst 0, 1) := by decide +kernel
theorem dX11_lays_1 : decode cX11_lays 1 = .ok (.istore_n 2, 1) := by decide +kernel
theorem dX11_lays_2 : decode cX11_lays 2 = .ok (.iload_n 2, 1) := by decide +kernel
theorem dX11_lays_3 : decode cX11_lays 3 = .ok (.bipush 74, 2) := by decide +kernel
theorem dX11_lays_5 : decode cX11_lays 5 = .ok (.if_icmp .ge 26, 3) := by decide +kernel
theorem dX11_lays_8 : decode cX11_lays 8 = .ok (.aload_n 0, 1) := by decide +kernel
theorem dX11_lays_9 : decode cX11_lays 9 = .ok (.getfield 51, 3) := by decide +kernel
theorem dX11_lays_12 : decode cX11_lays 12 = .ok (.bipush 74, 2) := by decide +kernel
theorem dX11_lays_14 : decode cX11_lays 14 = .ok (.iload_n 1, 1) := by decide +kernel
theorem dX11_lays_15 : decode cX11_lays 15 = .ok (.imul, 1) := by decide +kernel
theorem dX11_lays_16 : decode cX11_lays 16 = .ok (.iload_n 2, 1) := by decide +kernel
theorem dX11_lays_17 : decode cX11_lays 17 = .ok (.iadd, 1) := by decide +kernel
theorem dX11_lays_18 : decode cX11_lays 18 = .ok (.aload_n 0, 1) := by decide +kernel
theorem dX11_lays_19 : decode cX11_lays 19 = .ok (.getfield 48, 3) := by decide +kernel
theorem dX11_lays_22 : decode cX11_lays 22 = .ok (.iload_n 2, 1) := by decide +kernel
theorem dX11_lays_23 : decode cX11_lays 23 = .ok (.iaload, 1) := by decide +kernel
theorem dX11_lays_24 : decode cX11_lays 24 = .ok (.iastore, 1) := by decide +kernel
theorem dX11_lays_25 : decode cX11_lays 25 = .ok (.iinc 2 1, 3) := by decide +kernel
theorem dX11_lays_28 : decode cX11_lays 28 = .ok (.goto (-26), 3) := by decide +kernel
theorem dX11_lays_31 : decode cX11_lays 31 = .ok (.return_, 1) := by decide +kernel
/-- QuotientSumsModel.lays(I)V -/
def wX11_lays (thrown : Int32) (taped : Int32) (lines : Int32) (size : Int32) (atF : Int32) (place : Int32) (sort : Int32) (value : Int32) (fault : Int32) (faultPlace : Int32) (lastFault : Int32) (lastPlace : Int32) (undoable : Int32) (hasImage : Int32) (rowOf : Int32) (areSums : Int32) (isSieved : Int32) (blocks : Int32) (drawn : Int32) (sF : Nat → Int32) (kept : Nat → Int32) (a1 : Int32) (Q : (Nat → Int32) → Prop) : Prop :=
  (∃ (Inv_1 : (Nat → Int32) → (Int32) → Prop) (Mea_1 : (Nat → Int32) → (Int32) → Nat), Inv_1 kept 0 ∧ ∀ (kept_1 : Nat → Int32) (x2_1 : Int32), Inv_1 kept_1 x2_1 → ((74 ≤ x2_1 → (Q kept_1)) ∧ (¬ 74 ≤ x2_1 → (vp_in x2_1 74 ∧ ∀ e_1 : Int32, e_1 = sF x2_1.toNatClampNeg → vp_in ((74 * a1) + x2_1) 1554 ∧ ∀ kept_2 : Nat → Int32, kept_2 = upd kept_1 ((74 * a1) + x2_1).toNatClampNeg e_1 → (Inv_1 kept_2 (x2_1 + 1) ∧ Mea_1 kept_2 (x2_1 + 1) < Mea_1 kept_1 x2_1)))))
set_option maxHeartbeats 4000000 in
set_option maxRecDepth 100000 in
theorem mX11_lays (l : Launch) (D : va_G) (Y : Nat → ClassId) (h0 : Nat) (thrown : Int32) (v_tape : Value) (taped : Int32) (v_number : Value) (v_isTold : Value) (v_name : Value) (v_sortOf : Value) (v_first : Value) (v_second : Value) (v_degree : Value) (v_colours : Value) (v_signBy : Value) (v_own : Value) (lines : Int32) (size : Int32) (atF : Int32) (place : Int32) (sort : Int32) (value : Int32) (fault : Int32) (faultPlace : Int32) (lastFault : Int32) (lastPlace : Int32) (q_sF : Nat) (q_kept : Nat) (undoable : Int32) (hasImage : Int32) (v_power : Value) (v_table : Value) (v_marks : Value) (v_row : Value) (rowOf : Int32) (areSums : Int32) (isSieved : Int32) (v_lastOf : Value) (blocks : Int32) (v_inBlock : Value) (v_atQuotient : Value) (v_small : Value) (drawn : Int32) (sF : Nat → Int32) (kept : Nat → Int32) (a1 : Int32) (Q : (Nat → Int32) → Prop) (h : wX11_lays thrown taped lines size atF place sort value fault faultPlace lastFault lastPlace undoable hasImage rowOf areSums isSieved blocks drawn sF kept a1 Q) : gM l D Y yX11_lays cX11_lays 3 none 0 0 0 0 [.ref h0, .int a1] [oX11 h0 thrown (v_tape) taped (v_number) (v_isTold) (v_name) (v_sortOf) (v_first) (v_second) (v_degree) (v_colours) (v_signBy) (v_own) lines size atF place sort value fault faultPlace lastFault lastPlace (.ref q_sF) (.ref q_kept) undoable hasImage (v_power) (v_table) (v_marks) (v_row) rowOf areSums isSieved (v_lastOf) blocks (v_inBlock) (v_atQuotient) (v_small) drawn, aI Y q_sF 74 sF, aI Y q_kept 1554 kept] (fun v w => ∃ kept' : Nat → Int32, v = none ∧ w = [oX11 h0 thrown (v_tape) taped (v_number) (v_isTold) (v_name) (v_sortOf) (v_first) (v_second) (v_degree) (v_colours) (v_signBy) (v_own) lines size atF place sort value fault faultPlace lastFault lastPlace (.ref q_sF) (.ref q_kept) undoable hasImage (v_power) (v_table) (v_marks) (v_row) rowOf areSums isSieved (v_lastOf) blocks (v_inBlock) (v_atQuotient) (v_small) drawn, aI Y q_sF 74 sF, aI Y q_kept 1554 kept'] ∧ Q kept') := by
  refine gM_of (own := RX11) (by decide +kernel) rfl (Nat.le_of_ble_eq_true rfl) rfl (fun E C hR => ?_)
  unfold wX11_lays at h
  refine g_iconst (v := 0) C dX11_lays_0 rfl ?_
  refine g_istore_n (lv' := [(2, .int 0), (0, .ref h0), (1, .int a1)]) C dX11_lays_1 (by decide) rfl ?_
  obtain ⟨Inv_1, Mea_1, hI1, hB1⟩ := h
  have key_1 : ∀ (n : Nat) (kept_1 : Nat → Int32) (x2_1 : Int32) , Mea_1 kept_1 x2_1 < n → Inv_1 kept_1 x2_1 → gG E 0 0 [oX11 h0 thrown (v_tape) taped (v_number) (v_isTold) (v_name) (v_sortOf) (v_first) (v_second) (v_degree) (v_colours) (v_signBy) (v_own) lines size atF place sort value fault faultPlace lastFault lastPlace (.ref q_sF) (.ref q_kept) undoable hasImage (v_power) (v_table) (v_marks) (v_row) rowOf areSums isSieved (v_lastOf) blocks (v_inBlock) (v_atQuotient) (v_small) drawn, aI Y q_sF 74 sF, aI Y q_kept 1554 kept_1] [(0, .ref h0), (1, .int a1), (2, .int x2_1)] [] 2 := by
    intro n
    induction n with
    | zero => exact fun _ _ hm => absurd hm (Nat.not_lt_zero _)
    | succ n ih1 =>
      intro kept_1 x2_1  hm1 hI
      have h := hB1 kept_1 x2_1 hI
      refine g_iload_n C dX11_lays_2 2 rfl ?_
      refine g_bipush (v := 74) C dX11_lays_3 rfl ?_
      refine g_icmp_ge (tgt := 31) C dX11_lays_5 (by decide) (fun c_1 => ?_) (fun c_1 => ?_)
      · replace h := h.1 c_1
        exact g_vret C hR (Nat.le_of_ble_eq_true rfl) (Nat.le_of_ble_eq_true rfl) dX11_lays_31 ⟨kept_1, rfl, rfl, h⟩
      · replace h := h.2 c_1
        refine g_aload_n C dX11_lays_8 0 rfl ?_
        refine g_get C inX11 0 rfl rfl 24 (by decide) wF_X11_51 rfl dX11_lays_9 ?_
        refine g_bipush (v := 74) C dX11_lays_12 rfl ?_
        refine g_iload_n C dX11_lays_14 1 rfl ?_
        refine g_imul C dX11_lays_15 ?_
        refine g_iload_n C dX11_lays_16 2 rfl ?_
        refine g_iadd C dX11_lays_17 ?_
        refine g_aload_n C dX11_lays_18 0 rfl ?_
        refine g_get C inX11 0 rfl rfl 23 (by decide) wF_X11_48 rfl dX11_lays_19 ?_
        refine g_iload_n C dX11_lays_22 2 rfl ?_
        obtain ⟨hc_1, h⟩ := h
        refine g_iald C 1 rfl hc_1 dX11_lays_23 ?_
        refine g_topi (fun e_1 ee_1 => ?_)
        replace h := h e_1 ee_1
        obtain ⟨hc_2, h⟩ := h
        refine g_iast C 2 rfl hc_2 dX11_lays_24 (fun kept_2 ekept_2 => gG.eqw (ws' := [oX11 h0 thrown (v_tape) taped (v_number) (v_isTold) (v_name) (v_sortOf) (v_first) (v_second) (v_degree) (v_colours) (v_signBy) (v_own) lines size atF place sort value fault faultPlace lastFault lastPlace (.ref q_sF) (.ref q_kept) undoable hasImage (v_power) (v_table) (v_marks) (v_row) rowOf areSums isSieved (v_lastOf) blocks (v_inBlock) (v_atQuotient) (v_small) drawn, aI Y q_sF 74 sF, aI Y q_kept 1554 kept_2]) rfl ?_)
        replace h := h kept_2 ekept_2
        refine g_iinc (v := x2_1 + 1) (lv' := [(2, .int (x2_1 + 1)), (0, .ref h0), (1, .int a1)]) C dX11_lays_25 2 rfl rfl (by decide) rfl ?_
        refine g_goto (tgt := 2) C dX11_lays_28 (by decide) ?_
        refine gG.locals (lv' := [(0, .ref h0), (1, .int a1), (2, .int (x2_1 + 1))]) [1, 2, 0] rfl ?_
        exact ih1 kept_2 (x2_1 + 1) (Nat.lt_of_lt_of_le h.2 (Nat.le_of_lt_succ hm1)) h.1
  refine gG.locals (lv' := [(0, .ref h0), (1, .int a1), (2, .int 0)]) [1, 2, 0] rfl ?_
  exact key_1 (Mea_1 kept 0 + 1) kept 0 (Nat.lt_succ_self _) hI1
theorem dX11_laysBack_0 : decode cX11_laysBack 0 = .ok (.iconst 0, 1) := by decide +kernel
theorem dX11_laysBack_1 : decode cX11_laysBack 1 = .ok (.istore_n 2, 1) := by decide +kernel
theorem dX11_laysBack_2 : decode cX11_laysBack 2 = .ok (.iload_n 2, 1) := by decide +kernel
theorem dX11_laysBack_3 : decode cX11_laysBack 3 = .ok (.bipush 74, 2) := by decide +kernel
theorem dX11_laysBack_5 : decode cX11_laysBack 5 = .ok (.if_icmp .ge 26, 3) := by decide +kernel
theorem dX11_laysBack_8 : decode cX11_laysBack 8 = .ok (.aload_n 0, 1) := by decide +kernel
theorem dX11_laysBack_9 : decode cX11_laysBack 9 = .ok (.getfield 48, 3) := by decide +kernel
theorem dX11_laysBack_12 : decode cX11_laysBack 12 = .ok (.iload_n 2, 1) := by decide +kernel
theorem dX11_laysBack_13 : decode cX11_laysBack 13 = .ok (.aload_n 0, 1) := by decide +kernel
theorem dX11_laysBack_14 : decode cX11_laysBack 14 = .ok (.getfield 51, 3) := by decide +kernel
theorem dX11_laysBack_17 : decode cX11_laysBack 17 = .ok (.bipush 74, 2) := by decide +kernel
theorem dX11_laysBack_19 : decode cX11_laysBack 19 = .ok (.iload_n 1, 1) := by decide +kernel
theorem dX11_laysBack_20 : decode cX11_laysBack 20 = .ok (.imul, 1) := by decide +kernel
theorem dX11_laysBack_21 : decode cX11_laysBack 21 = .ok (.iload_n 2, 1) := by decide +kernel
theorem dX11_laysBack_22 : decode cX11_laysBack 22 = .ok (.iadd, 1) := by decide +kernel
theorem dX11_laysBack_23 : decode cX11_laysBack 23 = .ok (.iaload, 1) := by decide +kernel
theorem dX11_laysBack_24 : decode cX11_laysBack 24 = .ok (.iastore, 1) := by decide +kernel
theorem dX11_laysBack_25 : decode cX11_laysBack 25 = .ok (.iinc 2 1, 3) := by decide +kernel
theorem dX11_laysBack_28 : decode cX11_laysBack 28 = .ok (.goto (-26), 3) := by decide +kernel
theorem dX11_laysBack_31 : decode cX11_laysBack 31 = .ok (.aload_n 0, 1) := by decide +kernel
theorem dX11_laysBack_32 : decode cX11_laysBack 32 = .ok (.invokevirtual 232, 3) := by decide +kernel
theorem dX11_laysBack_35 : decode cX11_laysBack 35 = .ok (.return_, 1) := by decide +kernel
/-- QuotientSumsModel.laysBack(I)V -/
def wX11_laysBack (thrown : Int32) (taped : Int32) (lines : Int32) (size : Int32) (atF : Int32) (place : Int32) (sort : Int32) (value : Int32) (fault : Int32) (faultPlace : Int32) (lastFault : Int32) (lastPlace : Int32) (undoable : Int32) (hasImage : Int32) (rowOf : Int32) (areSums : Int32) (isSieved : Int32) (blocks : Int32) (drawn : Int32) (kept : Nat → Int32) (sF : Nat → Int32) (a1 : Int32) (Q : (Int32) → (Nat → Int32) → Prop) : Prop :=
  (∃ (Inv_1 : (Nat → Int32) → (Int32) → Prop) (Mea_1 : (Nat → Int32) → (Int32) → Nat), Inv_1 sF 0 ∧ ∀ (sF_1 : Nat → Int32) (x2_1 : Int32), Inv_1 sF_1 x2_1 → ((74 ≤ x2_1 → (∃ (P_1 : (Int32) → Prop), wX11_forgets thrown taped lines size atF place sort value fault faultPlace lastFault lastPlace undoable hasImage rowOf areSums isSieved blocks drawn P_1 ∧ ∀ (rowOf_1 : Int32), P_1 rowOf_1 → (Q rowOf_1 sF_1))) ∧ (¬ 74 ≤ x2_1 → (vp_in ((74 * a1) + x2_1) 1554 ∧ ∀ e_1 : Int32, e_1 = kept ((74 * a1) + x2_1).toNatClampNeg → vp_in x2_1 74 ∧ ∀ sF_2 : Nat → Int32, sF_2 = upd sF_1 x2_1.toNatClampNeg e_1 → (Inv_1 sF_2 (x2_1 + 1) ∧ Mea_1 sF_2 (x2_1 + 1) < Mea_1 sF_1 x2_1)))))
set_option maxHeartbeats 4000000 in
set_option maxRecDepth 100000 in
theorem mX11_laysBack (l : Launch) (D : va_G) (Y : Nat → ClassId) (h0 : Nat) (thrown : Int32) (v_tape : Value) (taped : Int32) (v_number : Value) (v_isTold : Value) (v_name : Value) (v_sortOf : Value) (v_first : Value) (v_second : Value) (v_degree : Value) (v_colours : Value) (v_signBy : Value) (v_own : Value) (lines : Int32) (size : Int32) (atF : Int32) (place : Int32) (sort : Int32) (value : Int32) (fault : Int32) (faultPlace : Int32) (lastFault : Int32) (lastPlace : Int32) (q_sF : Nat) (q_kept : Nat) (undoable : Int32) (hasImage : Int32) (v_power : Value) (v_table : Value) (v_marks : Value) (v_row : Value) (rowOf : Int32) (areSums : Int32) (isSieved : Int32) (v_lastOf : Value) (blocks : Int32) (v_inBlock : Value) (v_atQuotient : Value) (v_small : Value) (drawn : Int32) (kept : Nat → Int32) (sF : Nat → Int32) (a1 : Int32) (Q : (Int32) → (Nat → Int32) → Prop) (h : wX11_laysBack thrown taped lines size atF place sort value fault faultPlace lastFault lastPlace undoable hasImage rowOf areSums isSieved blocks drawn kept sF a1 Q) : gM l D Y yX11_laysBack cX11_laysBack 3 none 1 20 0 0 [.ref h0, .int a1] [oX11 h0 thrown (v_tape) taped (v_number) (v_isTold) (v_name) (v_sortOf) (v_first) (v_second) (v_degree) (v_colours) (v_signBy) (v_own) lines size atF place sort value fault faultPlace lastFault lastPlace (.ref q_sF) (.ref q_kept) undoable hasImage (v_power) (v_table) (v_marks) (v_row) rowOf areSums isSieved (v_lastOf) blocks (v_inBlock) (v_atQuotient) (v_small) drawn, aI Y q_kept 1554 kept, aI Y q_sF 74 sF] (fun v w => ∃ rowOf' : Int32, ∃ sF' : Nat → Int32, v = none ∧ w = [oX11 h0 thrown (v_tape) taped (v_number) (v_isTold) (v_name) (v_sortOf) (v_first) (v_second) (v_degree) (v_colours) (v_signBy) (v_own) lines size atF place sort value fault faultPlace lastFault lastPlace (.ref q_sF) (.ref q_kept) undoable hasImage (v_power) (v_table) (v_marks) (v_row) rowOf' areSums isSieved (v_lastOf) blocks (v_inBlock) (v_atQuotient) (v_small) drawn, aI Y q_kept 1554 kept, aI Y q_sF 74 sF'] ∧ Q rowOf' sF') := by
  refine gM_of (own := RX11) (by decide +kernel) rfl (Nat.le_of_ble_eq_true rfl) rfl (fun E C hR => ?_)
  unfold wX11_laysBack at h
  refine g_iconst (v := 0) C dX11_laysBack_0 rfl ?_
  refine g_istore_n (lv' := [(2, .int 0), (0, .ref h0), (1, .int a1)]) C dX11_laysBack_1 (by decide) rfl ?_
  obtain ⟨Inv_1, Mea_1, hI1, hB1⟩ := h
  have key_1 : ∀ (n : Nat) (sF_1 : Nat → Int32) (x2_1 : Int32) , Mea_1 sF_1 x2_1 < n → Inv_1 sF_1 x2_1 → gG E 0 0 [oX11 h0 thrown (v_tape) taped (v_number) (v_isTold) (v_name) (v_sortOf) (v_first) (v_second) (v_degree) (v_colours) (v_signBy) (v_own) lines size atF place sort value fault faultPlace lastFault lastPlace (.ref q_sF) (.ref q_kept) undoable hasImage (v_power) (v_table) (v_marks) (v_row) rowOf areSums isSieved (v_lastOf) blocks (v_inBlock) (v_atQuotient) (v_small) drawn, aI Y q_kept 1554 kept, aI Y q_sF 74 sF_1] [(0, .ref h0), (1, .int a1), (2, .int x2_1)] [] 2 := by
    intro n
    induction n with
    | zero => exact fun _ _ hm => absurd hm (Nat.not_lt_zero _)
    | succ n ih1 =>
      intro sF_1 x2_1  hm1 hI
      have h := hB1 sF_1 x2_1 hI
      refine g_iload_n C dX11_laysBack_2 2 rfl ?_
      refine g_bipush (v := 74) C dX11_laysBack_3 rfl ?_
      refine g_icmp_ge (tgt := 31) C dX11_laysBack_5 (by decide) (fun c_1 => ?_) (fun c_1 => ?_)
      · replace h := h.1 c_1
        refine g_aload_n C dX11_laysBack_31 0 rfl ?_
        obtain ⟨P_1, hP, h⟩ := h
        refine g_callV (As := []) (rest := []) C (mX11_forgets l D Y h0 thrown v_tape taped v_number v_isTold v_name v_sortOf v_first v_second v_degree v_colours v_signBy v_own lines size atF place sort value fault faultPlace lastFault lastPlace (.ref q_sF) (.ref q_kept) undoable hasImage v_power v_table v_marks v_row rowOf areSums isSieved v_lastOf blocks v_inBlock v_atQuotient v_small drawn P_1 hP) dX11_laysBack_32 rfl wM_X11_232 wI_X11_forgets wV_X11_forgets wN_X11 wC_X11_forgets (n := 0) (by decide +kernel) rfl (q0 := 0) rfl rfl ⟨Nat.le_of_ble_eq_true rfl, Nat.le_of_ble_eq_true rfl⟩ ⟨Nat.le_of_ble_eq_true rfl, Nat.le_of_ble_eq_true rfl⟩ (Nat.le_of_ble_eq_true rfl) [0] [1, 2] rfl rfl rfl (fun v wc hv => ?_)
        obtain ⟨rowOf_1, rfl, rfl, hq⟩ := hv
        replace h := h rowOf_1 hq
        refine gG.perm (ws' := [oX11 h0 thrown (v_tape) taped (v_number) (v_isTold) (v_name) (v_sortOf) (v_first) (v_second) (v_degree) (v_colours) (v_signBy) (v_own) lines size atF place sort value fault faultPlace lastFault lastPlace (.ref q_sF) (.ref q_kept) undoable hasImage (v_power) (v_table) (v_marks) (v_row) rowOf_1 areSums isSieved (v_lastOf) blocks (v_inBlock) (v_atQuotient) (v_small) drawn, aI Y q_kept 1554 kept, aI Y q_sF 74 sF_1]) [2, 0, 1] rfl rfl ?_
        exact g_vret C hR (Nat.le_of_ble_eq_true rfl) (Nat.le_of_ble_eq_true rfl) dX11_laysBack_35 ⟨rowOf_1, sF_1, rfl, rfl, h⟩
      · replace h := h.2 c_1
        refine g_aload_n C dX11_laysBack_8 0 rfl ?_
        refine g_get C inX11 0 rfl rfl 23 (by decide) wF_X11_48 rfl dX11_laysBack_9 ?_
        refine g_iload_n C dX11_laysBack_12 2 rfl ?_
        refine g_aload_n C dX11_laysBack_13 0 rfl ?_
        refine g_get C inX11 0 rfl rfl 24 (by decide) wF_X11_51 rfl dX11_laysBack_14 ?_
        refine g_bipush (v := 74) C dX11_laysBack_17 rfl ?_
        refine g_iload_n C dX11_laysBack_19 1 rfl ?_
        refine g_imul C dX11_laysBack_20 ?_
        refine g_iload_n C dX11_laysBack_21 2 rfl ?_
        refine g_iadd C dX11_laysBack_22 ?_
        obtain ⟨hc_1, h⟩ := h
        refine g_iald C 1 rfl hc_1 dX11_laysBack_23 ?_
        refine g_topi (fun e_1 ee_1 => ?_)
        replace h := h e_1 ee_1
        obtain ⟨hc_2, h⟩ := h
        refine g_iast C 2 rfl hc_2 dX11_laysBack_24 (fun sF_2 esF_2 => gG.eqw (ws' := [oX11 h0 thrown (v_tape) taped (v_number) (v_isTold) (v_name) (v_sortOf) (v_first) (v_second) (v_degree) (v_colours) (v_signBy) (v_own) lines size atF place sort value fault faultPlace lastFault lastPlace (.ref q_sF) (.ref q_kept) undoable hasImage (v_power) (v_table) (v_marks) (v_row) rowOf areSums isSieved (v_lastOf) blocks (v_inBlock) (v_atQuotient) (v_small) drawn, aI Y q_kept 1554 kept, aI Y q_sF 74 sF_2]) rfl ?_)
        replace h := h sF_2 esF_2
        refine g_iinc (v := x2_1 + 1) (lv' := [(2, .int (x2_1 + 1)), (0, .ref h0), (1, .int a1)]) C dX11_laysBack_25 2 rfl rfl (by decide) rfl ?_
        refine g_goto (tgt := 2) C dX11_laysBack_28 (by decide) ?_
        refine gG.locals (lv' := [(0, .ref h0), (1, .int a1), (2, .int (x2_1 + 1))]) [1, 2, 0] rfl ?_
        exact ih1 sF_2 (x2_1 + 1) (Nat.lt_of_lt_of_le h.2 (Nat.le_of_lt_succ hm1)) h.1
  refine gG.locals (lv' := [(0, .ref h0), (1, .int a1), (2, .int 0)]) [1, 2, 0] rfl ?_
  exact key_1 (Mea_1 sF 0 + 1) sF 0 (Nat.lt_succ_self _) hI1
theorem dX11_remembers_0 : decode cX11_remembers 0 = .ok (.aload_n 0, 1) := by decide +kernel
theorem dX11_remembers_1 : decode cX11_remembers 1 = .ok (.getfield 219, 3) := by decide +kernel
theorem dX11_remembers_4 : decode cX11_remembers 4 = .ok (.bipush 20, 2) := by decide +kernel
theorem dX11_remembers_6 : decode cX11_remembers 6 = .ok (.if_icmp .ne 43, 3) := by decide +kernel
theorem dX11_remembers_9 : decode cX11_remembers 9 = .ok (.iconst 0, 1) := by decide +kernel
theorem dX11_remembers_10 : decode cX11_remembers 10 = .ok (.istore_n 1, 1) := by decide +kernel
theorem dX11_remembers_11 : decode cX11_remembers 11 = .ok (.iload_n 1, 1) := by decide +kernel
theorem dX11_remembers_12 : decode cX11_remembers 12 = .ok (.sipush 1406, 3) := by decide +kernel
theorem dX11_remembers_15 : decode cX11_remembers 15 = .ok (.if_icmp .ge 24, 3) := by decide +kernel
theorem dX11_remembers_18 : decode cX11_remembers 18 = .ok (.aload_n 0, 1) := by decide +kernel
theorem dX11_remembers_19 : decode cX11_remembers 19 = .ok (.getfield 51, 3) := by decide +kernel
theorem dX11_remembers_22 : decode cX11_remembers 22 = .ok (.iload_n 1, 1) := by decide +kernel
theorem dX11_remembers_23 : decode cX11_remembers 23 = .ok (.aload_n 0, 1) := by decide +kernel
theorem dX11_remembers_24 : decode cX11_remembers 24 = .ok (.getfield 51, 3) := by decide +kernel
theorem dX11_remembers_27 : decode cX11_remembers 27 = .ok (.bipush 74, 2) := by decide +kernel
theorem dX11_remembers_29 : decode cX11_remembers 29 = .ok (.iload_n 1, 1) := by decide +kernel
theorem dX11_remembers_30 : decode cX11_remembers 30 = .ok (.iadd, 1) := by decide +kernel
theorem dX11_remembers_31 : decode cX11_remembers 31 = .ok (.iaload, 1) := by decide +kernel
theorem dX11_remembers_32 : decode cX11_remembers 32 = .ok (.iastore, 1) := by decide +kernel
theorem dX11_remembers_33 : decode cX11_remembers 33 = .ok (.iinc 1 1, 3) := by decide +kernel
theorem dX11_remembers_36 : decode cX11_remembers 36 = .ok (.goto (-25), 3) := by decide +kernel
theorem dX11_remembers_39 : decode cX11_remembers 39 = .ok (.aload_n 0, 1) := by decide +kernel
theorem dX11_remembers_40 : decode cX11_remembers 40 = .ok (.dup, 1) := by decide +kernel
theorem dX11_remembers_41 : decode cX11_remembers 41 = .ok (.getfield 219, 3) := by decide +kernel
theorem dX11_remembers_44 : decode cX11_remembers 44 = .ok (.iconst 1, 1) := by decide +kernel
theorem dX11_remembers_45 : decode cX11_remembers 45 = .ok (.isub, 1) := by decide +kernel
theorem dX11_remembers_46 : decode cX11_remembers 46 = .ok (.putfield 219, 3) := by decide +kernel
theorem dX11_remembers_49 : decode cX11_remembers 49 = .ok (.aload_n 0, 1) := by decide +kernel
theorem dX11_remembers_50 : decode cX11_remembers 50 = .ok (.aload_n 0, 1) := by decide +kernel
theorem dX11_remembers_51 : decode cX11_remembers 51 = .ok (.getfield 219, 3) := by decide +kernel
theorem dX11_remembers_54 : decode cX11_remembers 54 = .ok (.invokevirtual 235, 3) := by decide +kernel
theorem dX11_remembers_57 : decode cX11_remembers 57 = .ok (.aload_n 0, 1) := by decide +kernel
theorem dX11_remembers_58 : decode cX11_remembers 58 = .ok (.dup, 1) := by decide +kernel
theorem dX11_remembers_59 : decode cX11_remembers 59 = .ok (.getfield 219, 3) := by decide +kernel
theorem dX11_remembers_62 : decode cX11_remembers 62 = .ok (.iconst 1, 1) := by decide +kernel
theorem dX11_remembers_63 : decode cX11_remembers 63 = .ok (.iadd, 1) := by decide +kernel
theorem dX11_remembers_64 : decode cX11_remembers 64 = .ok (.putfield 219, 3) := by decide +kernel
theorem dX11_remembers_67 : decode cX11_remembers 67 = .ok (.aload_n 0, 1) := by decide +kernel
theorem dX11_remembers_68 : decode cX11_remembers 68 = .ok (.invokevirtual 232, 3) := by decide +kernel
theorem dX11_remembers_71 : decode cX11_remembers 71 = .ok (.return_, 1) := by decide +kernel
/-- QuotientSumsModel.remembers()V -/
def wX11_remembers (thrown : Int32) (taped : Int32) (lines : Int32) (size : Int32) (atF : Int32) (place : Int32) (sort : Int32) (value : Int32) (fault : Int32) (faultPlace : Int32) (lastFault : Int32) (lastPlace : Int32) (undoable : Int32) (hasImage : Int32) (rowOf : Int32) (areSums : Int32) (isSieved : Int32) (blocks : Int32) (drawn : Int32) (kept : Nat → Int32) (sF : Nat → Int32)  (Q : (Int32) → (Int32) → (Nat → Int32) → Prop) : Prop :=
  (∃ (J_1 : (Nat → Int32) → (Int32) → Prop), ((¬ undoable = 20 → (J_1 kept undoable)) ∧ (undoable = 20 → (∃ (Inv_1 : (Nat → Int32) → (Int32) → Prop) (Mea_1 : (Nat → Int32) → (Int32) → Nat), Inv_1 kept 0 ∧ ∀ (kept_3 : Nat → Int32) (x1_1 : Int32), Inv_1 kept_3 x1_1 → ((1406 ≤ x1_1 → (∀ undoable_3 : Int32, undoable_3 = undoable - 1 → (J_1 kept_3 undoable_3))) ∧ (¬ 1406 ≤ x1_1 → (vp_in (74 + x1_1) 1554 ∧ ∀ e_1 : Int32, e_1 = kept_3 (74 + x1_1).toNatClampNeg → vp_in x1_1 1554 ∧ ∀ kept_4 : Nat → Int32, kept_4 = upd kept_3 x1_1.toNatClampNeg e_1 → (Inv_1 kept_4 (x1_1 + 1) ∧ Mea_1 kept_4 (x1_1 + 1) < Mea_1 kept_3 x1_1))))))) ∧ (∀ (kept_1 : Nat → Int32) (undoable_1 : Int32), J_1 kept_1 undoable_1 → (∃ (P_1 : (Nat → Int32) → Prop), wX11_lays thrown taped lines size atF place sort value fault faultPlace lastFault lastPlace undoable_1 hasImage rowOf areSums isSieved blocks drawn sF kept_1 undoable_1 P_1 ∧ ∀ (kept_2 : Nat → Int32), P_1 kept_2 → ∀ undoable_2 : Int32, undoable_2 = undoable_1 + 1 → ∃ (P_2 : (Int32) → Prop), wX11_forgets thrown taped lines size atF place sort value fault faultPlace lastFault lastPlace undoable_2 hasImage rowOf areSums isSieved blocks drawn P_2 ∧ ∀ (rowOf_1 : Int32), P_2 rowOf_1 → (Q undoable_2 rowOf_1 kept_2))))
set_option maxHeartbeats 4000000 in
set_option maxRecDepth 100000 in
theorem mX11_remembers (l : Launch) (D : va_G) (Y : Nat → ClassId) (h0 : Nat) (thrown : Int32) (v_tape : Value) (taped : Int32) (v_number : Value) (v_isTold : Value) (v_name : Value) (v_sortOf : Value) (v_first : Value) (v_second : Value) (v_degree : Value) (v_colours : Value) (v_signBy : Value) (v_own : Value) (lines : Int32) (size : Int32) (atF : Int32) (place : Int32) (sort : Int32) (value : Int32) (fault : Int32) (faultPlace : Int32) (lastFault : Int32) (lastPlace : Int32) (q_sF : Nat) (q_kept : Nat) (undoable : Int32) (hasImage : Int32) (v_power : Value) (v_table : Value) (v_marks : Value) (v_row : Value) (rowOf : Int32) (areSums : Int32) (isSieved : Int32) (v_lastOf : Value) (blocks : Int32) (v_inBlock : Value) (v_atQuotient : Value) (v_small : Value) (drawn : Int32) (kept : Nat → Int32) (sF : Nat → Int32)  (Q : (Int32) → (Int32) → (Nat → Int32) → Prop) (h : wX11_remembers thrown taped lines size atF place sort value fault faultPlace lastFault lastPlace undoable hasImage rowOf areSums isSieved blocks drawn kept sF Q) : gM l D Y yX11_remembers cX11_remembers 2 none 1 22 0 0 [.ref h0] [oX11 h0 thrown (v_tape) taped (v_number) (v_isTold) (v_name) (v_sortOf) (v_first) (v_second) (v_degree) (v_colours) (v_signBy) (v_own) lines size atF place sort value fault faultPlace lastFault lastPlace (.ref q_sF) (.ref q_kept) undoable hasImage (v_power) (v_table) (v_marks) (v_row) rowOf areSums isSieved (v_lastOf) blocks (v_inBlock) (v_atQuotient) (v_small) drawn, aI Y q_kept 1554 kept, aI Y q_sF 74 sF] (fun v w => ∃ undoable' : Int32, ∃ rowOf' : Int32, ∃ kept' : Nat → Int32, v = none ∧ w = [oX11 h0 thrown (v_tape) taped (v_number) (v_isTold) (v_name) (v_sortOf) (v_first) (v_second) (v_degree) (v_colours) (v_signBy) (v_own) lines size atF place sort value fault faultPlace lastFault lastPlace (.ref q_sF) (.ref q_kept) undoable' hasImage (v_power) (v_table) (v_marks) (v_row) rowOf' areSums isSieved (v_lastOf) blocks (v_inBlock) (v_atQuotient) (v_small) drawn, aI Y q_kept 1554 kept', aI Y q_sF 74 sF] ∧ Q undoable' rowOf' kept') := by
  refine gM_of (own := RX11) (by decide +kernel) rfl (Nat.le_of_ble_eq_true rfl) rfl (fun E C hR => ?_)
  unfold wX11_remembers at h
  refine g_aload_n C dX11_remembers_0 0 rfl ?_
  refine g_get C inX11 0 rfl rfl 25 (by decide) wF_X11_219 rfl dX11_remembers_1 ?_
  refine g_bipush (v := 20) C dX11_remembers_4 rfl ?_
  obtain ⟨J_1, hA, hB_J_1⟩ := h
  have key_1 : ∀ (kept_1 : Nat → Int32) (undoable_1 : Int32), J_1 kept_1 undoable_1 → gG E 0 0 [oX11 h0 thrown (v_tape) taped (v_number) (v_isTold) (v_name) (v_sortOf) (v_first) (v_second) (v_degree) (v_colours) (v_signBy) (v_own) lines size atF place sort value fault faultPlace lastFault lastPlace (.ref q_sF) (.ref q_kept) undoable_1 hasImage (v_power) (v_table) (v_marks) (v_row) rowOf areSums isSieved (v_lastOf) blocks (v_inBlock) (v_atQuotient) (v_small) drawn, aI Y q_kept 1554 kept_1, aI Y q_sF 74 sF] [(0, .ref h0)] [] 49 := by
    intro kept_1 undoable_1 hJ
    have h := hB_J_1 kept_1 undoable_1 hJ
    refine g_aload_n C dX11_remembers_49 0 rfl ?_
    refine g_aload_n C dX11_remembers_50 0 rfl ?_
    refine g_get C inX11 0 rfl rfl 25 (by decide) wF_X11_219 rfl dX11_remembers_51 ?_
    obtain ⟨P_1, hP, h⟩ := h
    refine g_callV (As := [.int undoable_1]) (rest := []) C (mX11_lays l D Y h0 thrown v_tape taped v_number v_isTold v_name v_sortOf v_first v_second v_degree v_colours v_signBy v_own lines size atF place sort value fault faultPlace lastFault lastPlace q_sF q_kept undoable_1 hasImage v_power v_table v_marks v_row rowOf areSums isSieved v_lastOf blocks v_inBlock v_atQuotient v_small drawn sF kept_1 undoable_1 P_1 hP) dX11_remembers_54 rfl wM_X11_235 wI_X11_lays wV_X11_lays wN_X11 wC_X11_lays (n := 1) (by decide +kernel) rfl (q0 := 0) rfl rfl ⟨Nat.le_of_ble_eq_true rfl, Nat.le_of_ble_eq_true rfl⟩ ⟨Nat.le_of_ble_eq_true rfl, Nat.le_of_ble_eq_true rfl⟩ (Nat.le_of_ble_eq_true rfl) [0, 2, 1] [] rfl rfl rfl (fun v wc hv => ?_)
    obtain ⟨kept_2, rfl, rfl, hq⟩ := hv
    replace h := h kept_2 hq
    refine gG.perm (ws' := [oX11 h0 thrown (v_tape) taped (v_number) (v_isTold) (v_name) (v_sortOf) (v_first) (v_second) (v_degree) (v_colours) (v_signBy) (v_own) lines size atF place sort value fault faultPlace lastFault lastPlace (.ref q_sF) (.ref q_kept) undoable_1 hasImage (v_power) (v_table) (v_marks) (v_row) rowOf areSums isSieved (v_lastOf) blocks (v_inBlock) (v_atQuotient) (v_small) drawn, aI Y q_kept 1554 kept_2, aI Y q_sF 74 sF]) [0, 2, 1] rfl rfl ?_
    refine g_aload_n C dX11_remembers_57 0 rfl ?_
    refine g_dup C dX11_remembers_58 rfl ?_
    refine g_get C inX11 0 rfl rfl 25 (by decide) wF_X11_219 rfl dX11_remembers_59 ?_
    refine g_iconst (v := 1) C dX11_remembers_62 rfl ?_
    refine g_iadd C dX11_remembers_63 ?_
    refine g_topi (fun undoable_2 eundoable_2 => ?_)
    replace h := h undoable_2 eundoable_2
    refine g_put C inX11 tyX11 tyX11_ok nmX11 0 rfl rfl 25 (by decide) wF_X11_219 rfl rfl rfl (Nat.le_of_ble_eq_true rfl) (ws' := [oX11 h0 thrown (v_tape) taped (v_number) (v_isTold) (v_name) (v_sortOf) (v_first) (v_second) (v_degree) (v_colours) (v_signBy) (v_own) lines size atF place sort value fault faultPlace lastFault lastPlace (.ref q_sF) (.ref q_kept) undoable_2 hasImage (v_power) (v_table) (v_marks) (v_row) rowOf areSums isSieved (v_lastOf) blocks (v_inBlock) (v_atQuotient) (v_small) drawn, aI Y q_kept 1554 kept_2, aI Y q_sF 74 sF]) rfl dX11_remembers_64 ?_
    refine g_aload_n C dX11_remembers_67 0 rfl ?_
    obtain ⟨P_2, hP, h⟩ := h
    refine g_callV (As := []) (rest := []) C (mX11_forgets l D Y h0 thrown v_tape taped v_number v_isTold v_name v_sortOf v_first v_second v_degree v_colours v_signBy v_own lines size atF place sort value fault faultPlace lastFault lastPlace (.ref q_sF) (.ref q_kept) undoable_2 hasImage v_power v_table v_marks v_row rowOf areSums isSieved v_lastOf blocks v_inBlock v_atQuotient v_small drawn P_2 hP) dX11_remembers_68 rfl wM_X11_232 wI_X11_forgets wV_X11_forgets wN_X11 wC_X11_forgets (n := 0) (by decide +kernel) rfl (q0 := 0) rfl rfl ⟨Nat.le_of_ble_eq_true rfl, Nat.le_of_ble_eq_true rfl⟩ ⟨Nat.le_of_ble_eq_true rfl, Nat.le_of_ble_eq_true rfl⟩ (Nat.le_of_ble_eq_true rfl) [0] [1, 2] rfl rfl rfl (fun v wc hv => ?_)
    obtain ⟨rowOf_1, rfl, rfl, hq⟩ := hv
    replace h := h rowOf_1 hq
    refine gG.perm (ws' := [oX11 h0 thrown (v_tape) taped (v_number) (v_isTold) (v_name) (v_sortOf) (v_first) (v_second) (v_degree) (v_colours) (v_signBy) (v_own) lines size atF place sort value fault faultPlace lastFault lastPlace (.ref q_sF) (.ref q_kept) undoable_2 hasImage (v_power) (v_table) (v_marks) (v_row) rowOf_1 areSums isSieved (v_lastOf) blocks (v_inBlock) (v_atQuotient) (v_small) drawn, aI Y q_kept 1554 kept_2, aI Y q_sF 74 sF]) [2, 0, 1] rfl rfl ?_
    exact g_vret C hR (Nat.le_of_ble_eq_true rfl) (Nat.le_of_ble_eq_true rfl) dX11_remembers_71 ⟨undoable_2, rowOf_1, kept_2, rfl, rfl, h⟩
  replace h := hA
  refine g_icmp_ne (tgt := 49) C dX11_remembers_6 (by decide) (fun c_1 => ?_) (fun c_1 => ?_)
  · replace h := h.1 c_1
    exact key_1 kept undoable h
  · replace h := h.2 c_1
    refine g_iconst (v := 0) C dX11_remembers_9 rfl ?_
    refine g_istore_n (lv' := [(1, .int 0), (0, .ref h0)]) C dX11_remembers_10 (by decide) rfl ?_
    obtain ⟨Inv_1, Mea_1, hI2, hB2⟩ := h
    have key_2 : ∀ (n : Nat) (kept_3 : Nat → Int32) (x1_1 : Int32) , Mea_1 kept_3 x1_1 < n → Inv_1 kept_3 x1_1 → gG E 0 0 [oX11 h0 thrown (v_tape) taped (v_number) (v_isTold) (v_name) (v_sortOf) (v_first) (v_second) (v_degree) (v_colours) (v_signBy) (v_own) lines size atF place sort value fault faultPlace lastFault lastPlace (.ref q_sF) (.ref q_kept) undoable hasImage (v_power) (v_table) (v_marks) (v_row) rowOf areSums isSieved (v_lastOf) blocks (v_inBlock) (v_atQuotient) (v_small) drawn, aI Y q_kept 1554 kept_3, aI Y q_sF 74 sF] [(0, .ref h0), (1, .int x1_1)] [] 11 := by
      intro n
      induction n with
      | zero => exact fun _ _ hm => absurd hm (Nat.not_lt_zero _)
      | succ n ih2 =>
        intro kept_3 x1_1  hm2 hI
        have h := hB2 kept_3 x1_1 hI
        refine g_iload_n C dX11_remembers_11 1 rfl ?_
        refine g_sipush (v := 1406) C dX11_remembers_12 rfl ?_
        refine g_icmp_ge (tgt := 39) C dX11_remembers_15 (by decide) (fun c_2 => ?_) (fun c_2 => ?_)
        · replace h := h.1 c_2
          refine g_aload_n C dX11_remembers_39 0 rfl ?_
          refine g_dup C dX11_remembers_40 rfl ?_
          refine g_get C inX11 0 rfl rfl 25 (by decide) wF_X11_219 rfl dX11_remembers_41 ?_
          refine g_iconst (v := 1) C dX11_remembers_44 rfl ?_
          refine g_isub C dX11_remembers_45 ?_
          refine g_topi (fun undoable_3 eundoable_3 => ?_)
          replace h := h undoable_3 eundoable_3
          refine g_put C inX11 tyX11 tyX11_ok nmX11 0 rfl rfl 25 (by decide) wF_X11_219 rfl rfl rfl (Nat.le_of_ble_eq_true rfl) (ws' := [oX11 h0 thrown (v_tape) taped (v_number) (v_isTold) (v_name) (v_sortOf) (v_first) (v_second) (v_degree) (v_colours) (v_signBy) (v_own) lines size atF place sort value fault faultPlace lastFault lastPlace (.ref q_sF) (.ref q_kept) undoable_3 hasImage (v_power) (v_table) (v_marks) (v_row) rowOf areSums isSieved (v_lastOf) blocks (v_inBlock) (v_atQuotient) (v_small) drawn, aI Y q_kept 1554 kept_3, aI Y q_sF 74 sF]) rfl dX11_remembers_46 ?_
          refine gG.locals (lv' := [(0, .ref h0)]) [0] rfl ?_
          exact key_1 kept_3 undoable_3 h
        · replace h := h.2 c_2
          refine g_aload_n C dX11_remembers_18 0 rfl ?_
          refine g_get C inX11 0 rfl rfl 24 (by decide) wF_X11_51 rfl dX11_remembers_19 ?_
          refine g_iload_n C dX11_remembers_22 1 rfl ?_
          refine g_aload_n C dX11_remembers_23 0 rfl ?_
          refine g_get C inX11 0 rfl rfl 24 (by decide) wF_X11_51 rfl dX11_remembers_24 ?_
          refine g_bipush (v := 74) C dX11_remembers_27 rfl ?_
          refine g_iload_n C dX11_remembers_29 1 rfl ?_
          refine g_iadd C dX11_remembers_30 ?_
          obtain ⟨hc_1, h⟩ := h
          refine g_iald C 1 rfl hc_1 dX11_remembers_31 ?_
          refine g_topi (fun e_1 ee_1 => ?_)
          replace h := h e_1 ee_1
          obtain ⟨hc_2, h⟩ := h
          refine g_iast C 1 rfl hc_2 dX11_remembers_32 (fun kept_4 ekept_4 => gG.eqw (ws' := [oX11 h0 thrown (v_tape) taped (v_number) (v_isTold) (v_name) (v_sortOf) (v_first) (v_second) (v_degree) (v_colours) (v_signBy) (v_own) lines size atF place sort value fault faultPlace lastFault lastPlace (.ref q_sF) (.ref q_kept) undoable hasImage (v_power) (v_table) (v_marks) (v_row) rowOf areSums isSieved (v_lastOf) blocks (v_inBlock) (v_atQuotient) (v_small) drawn, aI Y q_kept 1554 kept_4, aI Y q_sF 74 sF]) rfl ?_)
          replace h := h kept_4 ekept_4
          refine g_iinc (v := x1_1 + 1) (lv' := [(1, .int (x1_1 + 1)), (0, .ref h0)]) C dX11_remembers_33 1 rfl rfl (by decide) rfl ?_
          refine g_goto (tgt := 11) C dX11_remembers_36 (by decide) ?_
          refine gG.locals (lv' := [(0, .ref h0), (1, .int (x1_1 + 1))]) [1, 0] rfl ?_
          exact ih2 kept_4 (x1_1 + 1) (Nat.lt_of_lt_of_le h.2 (Nat.le_of_lt_succ hm2)) h.1
    refine gG.locals (lv' := [(0, .ref h0), (1, .int 0)]) [1, 0] rfl ?_
    exact key_2 (Mea_1 kept 0 + 1) kept 0 (Nat.lt_succ_self _) hI2
theorem dX11_undo_0 : decode cX11_undo 0 = .ok (.aload_n 0, 1) := by decide +kernel
theorem dX11_undo_1 : decode cX11_undo 1 = .ok (.iconst 0, 1) := by decide +kernel
theorem dX11_undo_2 : decode cX11_undo 2 = .ok (.putfield 89, 3) := by decide +kernel
theorem dX11_undo_5 : decode cX11_undo 5 = .ok (.aload_n 0, 1) := by decide +kernel
theorem dX11_undo_6 : decode cX11_undo 6 = .ok (.getfield 219, 3) := by decide +kernel
theorem dX11_undo_9 : decode cX11_undo 9 = .ok (.ifCond .ne 5, 3) := by decide +kernel
theorem dX11_undo_12 : decode cX11_undo 12 = .ok (.iconst (-1), 1) := by decide +kernel
theorem dX11_undo_13 : decode cX11_undo 13 = .ok (.ireturn, 1) := by decide +kernel
theorem dX11_undo_14 : decode cX11_undo 14 = .ok (.aload_n 0, 1) := by decide +kernel
theorem dX11_undo_15 : decode cX11_undo 15 = .ok (.dup, 1) := by decide +kernel
theorem dX11_undo_16 : decode cX11_undo 16 = .ok (.getfield 219, 3) := by decide +kernel
theorem dX11_undo_19 : decode cX11_undo 19 = .ok (.iconst 1, 1) := by decide +kernel
theorem dX11_undo_20 : decode cX11_undo 20 = .ok (.isub, 1) := by decide +kernel
theorem dX11_undo_21 : decode cX11_undo 21 = .ok (.putfield 219, 3) := by decide +kernel
theorem dX11_undo_24 : decode cX11_undo 24 = .ok (.aload_n 0, 1) := by decide +kernel
theorem dX11_undo_25 : decode cX11_undo 25 = .ok (.aload_n 0, 1) := by decide +kernel
theorem dX11_undo_26 : decode cX11_undo 26 = .ok (.getfield 219, 3) := by decide +kernel
theorem dX11_undo_29 : decode cX11_undo 29 = .ok (.invokevirtual 238, 3) := by decide +kernel
theorem dX11_undo_32 : decode cX11_undo 32 = .ok (.aload_n 0, 1) := by decide +kernel
theorem dX11_undo_33 : decode cX11_undo 33 = .ok (.getfield 219, 3) := by decide +kernel
theorem dX11_undo_36 : decode cX11_undo 36 = .ok (.ireturn, 1) := by decide +kernel
/-- QuotientSumsModel.undo()I -/
def wX11_undo (thrown : Int32) (taped : Int32) (lines : Int32) (size : Int32) (atF : Int32) (place : Int32) (sort : Int32) (value : Int32) (fault : Int32) (faultPlace : Int32) (lastFault : Int32) (lastPlace : Int32) (undoable : Int32) (hasImage : Int32) (rowOf : Int32) (areSums : Int32) (isSieved : Int32) (blocks : Int32) (drawn : Int32) (kept : Nat → Int32) (sF : Nat → Int32)  (Q : (Int32) → (Int32) → (Int32) → (Int32) → (Nat → Int32) → Prop) : Prop :=
  ((¬ undoable = 0 → (∀ undoable_1 : Int32, undoable_1 = undoable - 1 → ∃ (P_1 : (Int32) → (Nat → Int32) → Prop), wX11_laysBack 0 taped lines size atF place sort value fault faultPlace lastFault lastPlace undoable_1 hasImage rowOf areSums isSieved blocks drawn kept sF undoable_1 P_1 ∧ ∀ (rowOf_1 : Int32) (sF_1 : Nat → Int32), P_1 rowOf_1 sF_1 → (Q undoable_1 0 undoable_1 rowOf_1 sF_1))) ∧ (undoable = 0 → (Q (-1) 0 undoable rowOf sF)))
set_option maxHeartbeats 4000000 in
set_option maxRecDepth 100000 in
theorem mX11_undo (l : Launch) (D : va_G) (Y : Nat → ClassId) (h0 : Nat) (thrown : Int32) (v_tape : Value) (taped : Int32) (v_number : Value) (v_isTold : Value) (v_name : Value) (v_sortOf : Value) (v_first : Value) (v_second : Value) (v_degree : Value) (v_colours : Value) (v_signBy : Value) (v_own : Value) (lines : Int32) (size : Int32) (atF : Int32) (place : Int32) (sort : Int32) (value : Int32) (fault : Int32) (faultPlace : Int32) (lastFault : Int32) (lastPlace : Int32) (q_sF : Nat) (q_kept : Nat) (undoable : Int32) (hasImage : Int32) (v_power : Value) (v_table : Value) (v_marks : Value) (v_row : Value) (rowOf : Int32) (areSums : Int32) (isSieved : Int32) (v_lastOf : Value) (blocks : Int32) (v_inBlock : Value) (v_atQuotient : Value) (v_small : Value) (drawn : Int32) (kept : Nat → Int32) (sF : Nat → Int32)  (Q : (Int32) → (Int32) → (Int32) → (Int32) → (Nat → Int32) → Prop) (h : wX11_undo thrown taped lines size atF place sort value fault faultPlace lastFault lastPlace undoable hasImage rowOf areSums isSieved blocks drawn kept sF Q) : gM l D Y yX11_undo cX11_undo 1 (some .int) 2 42 0 0 [.ref h0] [oX11 h0 thrown (v_tape) taped (v_number) (v_isTold) (v_name) (v_sortOf) (v_first) (v_second) (v_degree) (v_colours) (v_signBy) (v_own) lines size atF place sort value fault faultPlace lastFault lastPlace (.ref q_sF) (.ref q_kept) undoable hasImage (v_power) (v_table) (v_marks) (v_row) rowOf areSums isSieved (v_lastOf) blocks (v_inBlock) (v_atQuotient) (v_small) drawn, aI Y q_kept 1554 kept, aI Y q_sF 74 sF] (fun v w => ∃ r : Int32, ∃ thrown' : Int32, ∃ undoable' : Int32, ∃ rowOf' : Int32, ∃ sF' : Nat → Int32, v = some (.int r) ∧ w = [oX11 h0 thrown' (v_tape) taped (v_number) (v_isTold) (v_name) (v_sortOf) (v_first) (v_second) (v_degree) (v_colours) (v_signBy) (v_own) lines size atF place sort value fault faultPlace lastFault lastPlace (.ref q_sF) (.ref q_kept) undoable' hasImage (v_power) (v_table) (v_marks) (v_row) rowOf' areSums isSieved (v_lastOf) blocks (v_inBlock) (v_atQuotient) (v_small) drawn, aI Y q_kept 1554 kept, aI Y q_sF 74 sF'] ∧ Q r thrown' undoable' rowOf' sF') := by
  refine gM_of (own := RX11) (by decide +kernel) rfl (Nat.le_of_ble_eq_true rfl) rfl (fun E C hR => ?_)
  unfold wX11_undo at h
  refine g_aload_n C dX11_undo_0 0 rfl ?_
  refine g_iconst (v := 0) C dX11_undo_1 rfl ?_
  refine g_put C inX11 tyX11 tyX11_ok nmX11 0 rfl rfl 0 (by decide) wF_X11_89 rfl rfl rfl (Nat.le_of_ble_eq_true rfl) (ws' := [oX11 h0 0 (v_tape) taped (v_number) (v_isTold) (v_name) (v_sortOf) (v_first) (v_second) (v_degree) (v_colours) (v_signBy) (v_own) lines size atF place sort value fault faultPlace lastFault lastPlace (.ref q_sF) (.ref q_kept) undoable hasImage (v_power) (v_table) (v_marks) (v_row) rowOf areSums isSieved (v_lastOf) blocks (v_inBlock) (v_atQuotient) (v_small) drawn, aI Y q_kept 1554 kept, aI Y q_sF 74 sF]) rfl dX11_undo_2 ?_
  refine g_aload_n C dX11_undo_5 0 rfl ?_
  refine g_get C inX11 0 rfl rfl 25 (by decide) wF_X11_219 rfl dX11_undo_6 ?_
  refine g_if_ne (tgt := 14) C dX11_undo_9 (by decide) (fun c_1 => ?_) (fun c_1 => ?_)
  · replace h := h.1 c_1
    refine g_aload_n C dX11_undo_14 0 rfl ?_
    refine g_dup C dX11_undo_15 rfl ?_
    refine g_get C inX11 0 rfl rfl 25 (by decide) wF_X11_219 rfl dX11_undo_16 ?_
    refine g_iconst (v := 1) C dX11_undo_19 rfl ?_
    refine g_isub C dX11_undo_20 ?_
    refine g_topi (fun undoable_1 eundoable_1 => ?_)
    replace h := h undoable_1 eundoable_1
    refine g_put C inX11 tyX11 tyX11_ok nmX11 0 rfl rfl 25 (by decide) wF_X11_219 rfl rfl rfl (Nat.le_of_ble_eq_true rfl) (ws' := [oX11 h0 0 (v_tape) taped (v_number) (v_isTold) (v_name) (v_sortOf) (v_first) (v_second) (v_degree) (v_colours) (v_signBy) (v_own) lines size atF place sort value fault faultPlace lastFault lastPlace (.ref q_sF) (.ref q_kept) undoable_1 hasImage (v_power) (v_table) (v_marks) (v_row) rowOf areSums isSieved (v_lastOf) blocks (v_inBlock) (v_atQuotient) (v_small) drawn, aI Y q_kept 1554 kept, aI Y q_sF 74 sF]) rfl dX11_undo_21 ?_
    refine g_aload_n C dX11_undo_24 0 rfl ?_
    refine g_aload_n C dX11_undo_25 0 rfl ?_
    refine g_get C inX11 0 rfl rfl 25 (by decide) wF_X11_219 rfl dX11_undo_26 ?_
    obtain ⟨P_1, hP, h⟩ := h
    refine g_callV (As := [.int undoable_1]) (rest := []) C (mX11_laysBack l D Y h0 0 v_tape taped v_number v_isTold v_name v_sortOf v_first v_second v_degree v_colours v_signBy v_own lines size atF place sort value fault faultPlace lastFault lastPlace q_sF q_kept undoable_1 hasImage v_power v_table v_marks v_row rowOf areSums isSieved v_lastOf blocks v_inBlock v_atQuotient v_small drawn kept sF undoable_1 P_1 hP) dX11_undo_29 rfl wM_X11_238 wI_X11_laysBack wV_X11_laysBack wN_X11 wC_X11_laysBack (n := 1) (by decide +kernel) rfl (q0 := 0) rfl rfl ⟨Nat.le_of_ble_eq_true rfl, Nat.le_of_ble_eq_true rfl⟩ ⟨Nat.le_of_ble_eq_true rfl, Nat.le_of_ble_eq_true rfl⟩ (Nat.le_of_ble_eq_true rfl) [0, 1, 2] [] rfl rfl rfl (fun v wc hv => ?_)
    obtain ⟨rowOf_1, sF_1, rfl, rfl, hq⟩ := hv
    replace h := h rowOf_1 sF_1 hq
    refine gG.eqw (ws' := [oX11 h0 0 (v_tape) taped (v_number) (v_isTold) (v_name) (v_sortOf) (v_first) (v_second) (v_degree) (v_colours) (v_signBy) (v_own) lines size atF place sort value fault faultPlace lastFault lastPlace (.ref q_sF) (.ref q_kept) undoable_1 hasImage (v_power) (v_table) (v_marks) (v_row) rowOf_1 areSums isSieved (v_lastOf) blocks (v_inBlock) (v_atQuotient) (v_small) drawn, aI Y q_kept 1554 kept, aI Y q_sF 74 sF_1]) rfl ?_
    refine g_aload_n C dX11_undo_32 0 rfl ?_
    refine g_get C inX11 0 rfl rfl 25 (by decide) wF_X11_219 rfl dX11_undo_33 ?_
    exact g_iret C hR (Nat.le_of_ble_eq_true rfl) (Nat.le_of_ble_eq_true rfl) dX11_undo_36 ⟨undoable_1, 0, undoable_1, rowOf_1, sF_1, rfl, rfl, h⟩
  · replace h := h.2 c_1
    refine g_iconst (v := (-1)) C dX11_undo_12 rfl ?_
    exact g_iret C hR (Nat.le_of_ble_eq_true rfl) (Nat.le_of_ble_eq_true rfl) dX11_undo_13 ⟨(-1), 0, undoable, rowOf, sF, rfl, rfl, h⟩
theorem dX11_keep_0 : decode cX11_keep 0 = .ok (.aload_n 0, 1) := by decide +kernel
theorem dX11_keep_1 : decode cX11_keep 1 = .ok (.iconst 0, 1) := by decide +kernel
theorem dX11_keep_2 : decode cX11_keep 2 = .ok (.putfield 89, 3) := by decide +kernel
theorem dX11_keep_5 : decode cX11_keep 5 = .ok (.aload_n 0, 1) := by decide +kernel
theorem dX11_keep_6 : decode cX11_keep 6 = .ok (.bipush 20, 2) := by decide +kernel
theorem dX11_keep_8 : decode cX11_keep 8 = .ok (.invokevirtual 235, 3) := by decide +kernel
theorem dX11_keep_11 : decode cX11_keep 11 = .ok (.aload_n 0, 1) := by decide +kernel
theorem dX11_keep_12 : decode cX11_keep 12 = .ok (.iconst 1, 1) := by decide +kernel
theorem dX11_keep_13 : decode cX11_keep 13 = .ok (.putfield 222, 3) := by decide +kernel
theorem dX11_keep_16 : decode cX11_keep 16 = .ok (.aload_n 0, 1) := by decide +kernel
theorem dX11_keep_17 : decode cX11_keep 17 = .ok (.getfield 48, 3) := by decide +kernel
theorem dX11_keep_20 : decode cX11_keep 20 = .ok (.iconst 0, 1) := by decide +kernel
theorem dX11_keep_21 : decode cX11_keep 21 = .ok (.iaload, 1) := by decide +kernel
theorem dX11_keep_22 : decode cX11_keep 22 = .ok (.ireturn, 1) := by decide +kernel
/-- QuotientSumsModel.keep()I -/
def wX11_keep (thrown : Int32) (taped : Int32) (lines : Int32) (size : Int32) (atF : Int32) (place : Int32) (sort : Int32) (value : Int32) (fault : Int32) (faultPlace : Int32) (lastFault : Int32) (lastPlace : Int32) (undoable : Int32) (hasImage : Int32) (rowOf : Int32) (areSums : Int32) (isSieved : Int32) (blocks : Int32) (drawn : Int32) (sF : Nat → Int32) (kept : Nat → Int32)  (Q : (Int32) → (Int32) → (Int32) → (Nat → Int32) → Prop) : Prop :=
  (∃ (P_1 : (Nat → Int32) → Prop), wX11_lays 0 taped lines size atF place sort value fault faultPlace lastFault lastPlace undoable hasImage rowOf areSums isSieved blocks drawn sF kept 20 P_1 ∧ ∀ (kept_1 : Nat → Int32), P_1 kept_1 → (Q (sF 0) 0 1 kept_1))
set_option maxHeartbeats 4000000 in
set_option maxRecDepth 100000 in
theorem mX11_keep (l : Launch) (D : va_G) (Y : Nat → ClassId) (h0 : Nat) (thrown : Int32) (v_tape : Value) (taped : Int32) (v_number : Value) (v_isTold : Value) (v_name : Value) (v_sortOf : Value) (v_first : Value) (v_second : Value) (v_degree : Value) (v_colours : Value) (v_signBy : Value) (v_own : Value) (lines : Int32) (size : Int32) (atF : Int32) (place : Int32) (sort : Int32) (value : Int32) (fault : Int32) (faultPlace : Int32) (lastFault : Int32) (lastPlace : Int32) (q_sF : Nat) (q_kept : Nat) (undoable : Int32) (hasImage : Int32) (v_power : Value) (v_table : Value) (v_marks : Value) (v_row : Value) (rowOf : Int32) (areSums : Int32) (isSieved : Int32) (v_lastOf : Value) (blocks : Int32) (v_inBlock : Value) (v_atQuotient : Value) (v_small : Value) (drawn : Int32) (sF : Nat → Int32) (kept : Nat → Int32)  (Q : (Int32) → (Int32) → (Int32) → (Nat → Int32) → Prop) (h : wX11_keep thrown taped lines size atF place sort value fault faultPlace lastFault lastPlace undoable hasImage rowOf areSums isSieved blocks drawn sF kept Q) : gM l D Y yX11_keep cX11_keep 1 (some .int) 1 22 0 0 [.ref h0] [oX11 h0 thrown (v_tape) taped (v_number) (v_isTold) (v_name) (v_sortOf) (v_first) (v_second) (v_degree) (v_colours) (v_signBy) (v_own) lines size atF place sort value fault faultPlace lastFault lastPlace (.ref q_sF) (.ref q_kept) undoable hasImage (v_power) (v_table) (v_marks) (v_row) rowOf areSums isSieved (v_lastOf) blocks (v_inBlock) (v_atQuotient) (v_small) drawn, aI Y q_sF 74 sF, aI Y q_kept 1554 kept] (fun v w => ∃ r : Int32, ∃ thrown' : Int32, ∃ hasImage' : Int32, ∃ kept' : Nat → Int32, v = some (.int r) ∧ w = [oX11 h0 thrown' (v_tape) taped (v_number) (v_isTold) (v_name) (v_sortOf) (v_first) (v_second) (v_degree) (v_colours) (v_signBy) (v_own) lines size atF place sort value fault faultPlace lastFault lastPlace (.ref q_sF) (.ref q_kept) undoable hasImage' (v_power) (v_table) (v_marks) (v_row) rowOf areSums isSieved (v_lastOf) blocks (v_inBlock) (v_atQuotient) (v_small) drawn, aI Y q_sF 74 sF, aI Y q_kept 1554 kept'] ∧ Q r thrown' hasImage' kept') := by
  refine gM_of (own := RX11) (by decide +kernel) rfl (Nat.le_of_ble_eq_true rfl) rfl (fun E C hR => ?_)
  unfold wX11_keep at h
  refine g_aload_n C dX11_keep_0 0 rfl ?_
  refine g_iconst (v := 0) C dX11_keep_1 rfl ?_
  refine g_put C inX11 tyX11 tyX11_ok nmX11 0 rfl rfl 0 (by decide) wF_X11_89 rfl rfl rfl (Nat.le_of_ble_eq_true rfl) (ws' := [oX11 h0 0 (v_tape) taped (v_number) (v_isTold) (v_name) (v_sortOf) (v_first) (v_second) (v_degree) (v_colours) (v_signBy) (v_own) lines size atF place sort value fault faultPlace lastFault lastPlace (.ref q_sF) (.ref q_kept) undoable hasImage (v_power) (v_table) (v_marks) (v_row) rowOf areSums isSieved (v_lastOf) blocks (v_inBlock) (v_atQuotient) (v_small) drawn, aI Y q_sF 74 sF, aI Y q_kept 1554 kept]) rfl dX11_keep_2 ?_
  refine g_aload_n C dX11_keep_5 0 rfl ?_
  refine g_bipush (v := 20) C dX11_keep_6 rfl ?_
  obtain ⟨P_1, hP, h⟩ := h
  refine g_callV (As := [.int 20]) (rest := []) C (mX11_lays l D Y h0 0 v_tape taped v_number v_isTold v_name v_sortOf v_first v_second v_degree v_colours v_signBy v_own lines size atF place sort value fault faultPlace lastFault lastPlace q_sF q_kept undoable hasImage v_power v_table v_marks v_row rowOf areSums isSieved v_lastOf blocks v_inBlock v_atQuotient v_small drawn sF kept 20 P_1 hP) dX11_keep_8 rfl wM_X11_235 wI_X11_lays wV_X11_lays wN_X11 wC_X11_lays (n := 1) (by decide +kernel) rfl (q0 := 0) rfl rfl ⟨Nat.le_of_ble_eq_true rfl, Nat.le_of_ble_eq_true rfl⟩ ⟨Nat.le_of_ble_eq_true rfl, Nat.le_of_ble_eq_true rfl⟩ (Nat.le_of_ble_eq_true rfl) [0, 1, 2] [] rfl rfl rfl (fun v wc hv => ?_)
  obtain ⟨kept_1, rfl, rfl, hq⟩ := hv
  replace h := h kept_1 hq
  refine gG.eqw (ws' := [oX11 h0 0 (v_tape) taped (v_number) (v_isTold) (v_name) (v_sortOf) (v_first) (v_second) (v_degree) (v_colours) (v_signBy) (v_own) lines size atF place sort value fault faultPlace lastFault lastPlace (.ref q_sF) (.ref q_kept) undoable hasImage (v_power) (v_table) (v_marks) (v_row) rowOf areSums isSieved (v_lastOf) blocks (v_inBlock) (v_atQuotient) (v_small) drawn, aI Y q_sF 74 sF, aI Y q_kept 1554 kept_1]) rfl ?_
  refine g_aload_n C dX11_keep_11 0 rfl ?_
  refine g_iconst (v := 1) C dX11_keep_12 rfl ?_
  refine g_put C inX11 tyX11 tyX11_ok nmX11 0 rfl rfl 26 (by decide) wF_X11_222 rfl rfl rfl (Nat.le_of_ble_eq_true rfl) (ws' := [oX11 h0 0 (v_tape) taped (v_number) (v_isTold) (v_name) (v_sortOf) (v_first) (v_second) (v_degree) (v_colours) (v_signBy) (v_own) lines size atF place sort value fault faultPlace lastFault lastPlace (.ref q_sF) (.ref q_kept) undoable 1 (v_power) (v_table) (v_marks) (v_row) rowOf areSums isSieved (v_lastOf) blocks (v_inBlock) (v_atQuotient) (v_small) drawn, aI Y q_sF 74 sF, aI Y q_kept 1554 kept_1]) rfl dX11_keep_13 ?_
  refine g_aload_n C dX11_keep_16 0 rfl ?_
  refine g_get C inX11 0 rfl rfl 23 (by decide) wF_X11_48 rfl dX11_keep_17 ?_
  refine g_iconst (v := 0) C dX11_keep_20 rfl ?_
  refine g_iald C 1 rfl (by unfold vp_in; decide) dX11_keep_21 ?_
  exact g_iret C hR (Nat.le_of_ble_eq_true rfl) (Nat.le_of_ble_eq_true rfl) dX11_keep_22 ⟨sF 0, 0, 1, kept_1, rfl, rfl, h⟩
theorem dX11_back_0 : decode cX11_back 0 = .ok (.aload_n 0, 1) := by decide +kernel
theorem dX11_back_1 : decode cX11_back 1 = .ok (.iconst 0, 1) := by decide +kernel
theorem dX11_back_2 : decode cX11_back 2 = .ok (.putfield 89, 3) := by decide +kernel
theorem dX11_back_5 : decode cX11_back 5 = .ok (.aload_n 0, 1) := by decide +kernel
theorem dX11_back_6 : decode cX11_back 6 = .ok (.getfield 222, 3) := by decide +kernel
theorem dX11_back_9 : decode cX11_back 9 = .ok (.ifCond .ne 5, 3) := by decide +kernel
theorem dX11_back_12 : decode cX11_back 12 = .ok (.iconst (-1), 1) := by decide +kernel
theorem dX11_back_13 : decode cX11_back 13 = .ok (.ireturn, 1) := by decide +kernel
theorem dX11_back_14 : decode cX11_back 14 = .ok (.aload_n 0, 1) := by decide +kernel
theorem dX11_back_15 : decode cX11_back 15 = .ok (.bipush 20, 2) := by decide +kernel
theorem dX11_back_17 : decode cX11_back 17 = .ok (.invokevirtual 238, 3) := by decide +kernel
theorem dX11_back_20 : decode cX11_back 20 = .ok (.aload_n 0, 1) := by decide +kernel
theorem dX11_back_21 : decode cX11_back 21 = .ok (.iconst 0, 1) := by decide +kernel
theorem dX11_back_22 : decode cX11_back 22 = .ok (.putfield 219, 3) := by decide +kernel
theorem dX11_back_25 : decode cX11_back 25 = .ok (.aload_n 0, 1) := by decide +kernel
theorem dX11_back_26 : decode cX11_back 26 = .ok (.getfield 48, 3) := by decide +kernel
theorem dX11_back_29 : decode cX11_back 29 = .ok (.iconst 0, 1) := by decide +kernel
theorem dX11_back_30 : decode cX11_back 30 = .ok (.iaload, 1) := by decide +kernel
theorem dX11_back_31 : decode cX11_back 31 = .ok (.ireturn, 1) := by decide +kernel
/-- QuotientSumsModel.back()I -/
def wX11_back (thrown : Int32) (taped : Int32) (lines : Int32) (size : Int32) (atF : Int32) (place : Int32) (sort : Int32) (value : Int32) (fault : Int32) (faultPlace : Int32) (lastFault : Int32) (lastPlace : Int32) (undoable : Int32) (hasImage : Int32) (rowOf : Int32) (areSums : Int32) (isSieved : Int32) (blocks : Int32) (drawn : Int32) (kept : Nat → Int32) (sF : Nat → Int32)  (Q : (Int32) → (Int32) → (Int32) → (Int32) → (Nat → Int32) → Prop) : Prop :=
  ((¬ hasImage = 0 → (∃ (P_1 : (Int32) → (Nat → Int32) → Prop), wX11_laysBack 0 taped lines size atF place sort value fault faultPlace lastFault lastPlace undoable hasImage rowOf areSums isSieved blocks drawn kept sF 20 P_1 ∧ ∀ (rowOf_1 : Int32) (sF_1 : Nat → Int32), P_1 rowOf_1 sF_1 → (Q (sF_1 0) 0 0 rowOf_1 sF_1))) ∧ (hasImage = 0 → (Q (-1) 0 undoable rowOf sF)))
set_option maxHeartbeats 4000000 in
set_option maxRecDepth 100000 in
theorem mX11_back (l : Launch) (D : va_G) (Y : Nat → ClassId) (h0 : Nat) (thrown : Int32) (v_tape : Value) (taped : Int32) (v_number : Value) (v_isTold : Value) (v_name : Value) (v_sortOf : Value) (v_first : Value) (v_second : Value) (v_degree : Value) (v_colours : Value) (v_signBy : Value) (v_own : Value) (lines : Int32) (size : Int32) (atF : Int32) (place : Int32) (sort : Int32) (value : Int32) (fault : Int32) (faultPlace : Int32) (lastFault : Int32) (lastPlace : Int32) (q_sF : Nat) (q_kept : Nat) (undoable : Int32) (hasImage : Int32) (v_power : Value) (v_table : Value) (v_marks : Value) (v_row : Value) (rowOf : Int32) (areSums : Int32) (isSieved : Int32) (v_lastOf : Value) (blocks : Int32) (v_inBlock : Value) (v_atQuotient : Value) (v_small : Value) (drawn : Int32) (kept : Nat → Int32) (sF : Nat → Int32)  (Q : (Int32) → (Int32) → (Int32) → (Int32) → (Nat → Int32) → Prop) (h : wX11_back thrown taped lines size atF place sort value fault faultPlace lastFault lastPlace undoable hasImage rowOf areSums isSieved blocks drawn kept sF Q) : gM l D Y yX11_back cX11_back 1 (some .int) 2 42 0 0 [.ref h0] [oX11 h0 thrown (v_tape) taped (v_number) (v_isTold) (v_name) (v_sortOf) (v_first) (v_second) (v_degree) (v_colours) (v_signBy) (v_own) lines size atF place sort value fault faultPlace lastFault lastPlace (.ref q_sF) (.ref q_kept) undoable hasImage (v_power) (v_table) (v_marks) (v_row) rowOf areSums isSieved (v_lastOf) blocks (v_inBlock) (v_atQuotient) (v_small) drawn, aI Y q_kept 1554 kept, aI Y q_sF 74 sF] (fun v w => ∃ r : Int32, ∃ thrown' : Int32, ∃ undoable' : Int32, ∃ rowOf' : Int32, ∃ sF' : Nat → Int32, v = some (.int r) ∧ w = [oX11 h0 thrown' (v_tape) taped (v_number) (v_isTold) (v_name) (v_sortOf) (v_first) (v_second) (v_degree) (v_colours) (v_signBy) (v_own) lines size atF place sort value fault faultPlace lastFault lastPlace (.ref q_sF) (.ref q_kept) undoable' hasImage (v_power) (v_table) (v_marks) (v_row) rowOf' areSums isSieved (v_lastOf) blocks (v_inBlock) (v_atQuotient) (v_small) drawn, aI Y q_kept 1554 kept, aI Y q_sF 74 sF'] ∧ Q r thrown' undoable' rowOf' sF') := by
  refine gM_of (own := RX11) (by decide +kernel) rfl (Nat.le_of_ble_eq_true rfl) rfl (fun E C hR => ?_)
  unfold wX11_back at h
  refine g_aload_n C dX11_back_0 0 rfl ?_
  refine g_iconst (v := 0) C dX11_back_1 rfl ?_
  refine g_put C inX11 tyX11 tyX11_ok nmX11 0 rfl rfl 0 (by decide) wF_X11_89 rfl rfl rfl (Nat.le_of_ble_eq_true rfl) (ws' := [oX11 h0 0 (v_tape) taped (v_number) (v_isTold) (v_name) (v_sortOf) (v_first) (v_second) (v_degree) (v_colours) (v_signBy) (v_own) lines size atF place sort value fault faultPlace lastFault lastPlace (.ref q_sF) (.ref q_kept) undoable hasImage (v_power) (v_table) (v_marks) (v_row) rowOf areSums isSieved (v_lastOf) blocks (v_inBlock) (v_atQuotient) (v_small) drawn, aI Y q_kept 1554 kept, aI Y q_sF 74 sF]) rfl dX11_back_2 ?_
  refine g_aload_n C dX11_back_5 0 rfl ?_
  refine g_get C inX11 0 rfl rfl 26 (by decide) wF_X11_222 rfl dX11_back_6 ?_
  refine g_if_ne (tgt := 14) C dX11_back_9 (by decide) (fun c_1 => ?_) (fun c_1 => ?_)
  · replace h := h.1 c_1
    refine g_aload_n C dX11_back_14 0 rfl ?_
    refine g_bipush (v := 20) C dX11_back_15 rfl ?_
    obtain ⟨P_1, hP, h⟩ := h
    refine g_callV (As := [.int 20]) (rest := []) C (mX11_laysBack l D Y h0 0 v_tape taped v_number v_isTold v_name v_sortOf v_first v_second v_degree v_colours v_signBy v_own lines size atF place sort value fault faultPlace lastFault lastPlace q_sF q_kept undoable hasImage v_power v_table v_marks v_row rowOf areSums isSieved v_lastOf blocks v_inBlock v_atQuotient v_small drawn kept sF 20 P_1 hP) dX11_back_17 rfl wM_X11_238 wI_X11_laysBack wV_X11_laysBack wN_X11 wC_X11_laysBack (n := 1) (by decide +kernel) rfl (q0 := 0) rfl rfl ⟨Nat.le_of_ble_eq_true rfl, Nat.le_of_ble_eq_true rfl⟩ ⟨Nat.le_of_ble_eq_true rfl, Nat.le_of_ble_eq_true rfl⟩ (Nat.le_of_ble_eq_true rfl) [0, 1, 2] [] rfl rfl rfl (fun v wc hv => ?_)
    obtain ⟨rowOf_1, sF_1, rfl, rfl, hq⟩ := hv
    replace h := h rowOf_1 sF_1 hq
    refine gG.eqw (ws' := [oX11 h0 0 (v_tape) taped (v_number) (v_isTold) (v_name) (v_sortOf) (v_first) (v_second) (v_degree) (v_colours) (v_signBy) (v_own) lines size atF place sort value fault faultPlace lastFault lastPlace (.ref q_sF) (.ref q_kept) undoable hasImage (v_power) (v_table) (v_marks) (v_row) rowOf_1 areSums isSieved (v_lastOf) blocks (v_inBlock) (v_atQuotient) (v_small) drawn, aI Y q_kept 1554 kept, aI Y q_sF 74 sF_1]) rfl ?_
    refine g_aload_n C dX11_back_20 0 rfl ?_
    refine g_iconst (v := 0) C dX11_back_21 rfl ?_
    refine g_put C inX11 tyX11 tyX11_ok nmX11 0 rfl rfl 25 (by decide) wF_X11_219 rfl rfl rfl (Nat.le_of_ble_eq_true rfl) (ws' := [oX11 h0 0 (v_tape) taped (v_number) (v_isTold) (v_name) (v_sortOf) (v_first) (v_second) (v_degree) (v_colours) (v_signBy) (v_own) lines size atF place sort value fault faultPlace lastFault lastPlace (.ref q_sF) (.ref q_kept) 0 hasImage (v_power) (v_table) (v_marks) (v_row) rowOf_1 areSums isSieved (v_lastOf) blocks (v_inBlock) (v_atQuotient) (v_small) drawn, aI Y q_kept 1554 kept, aI Y q_sF 74 sF_1]) rfl dX11_back_22 ?_
    refine g_aload_n C dX11_back_25 0 rfl ?_
    refine g_get C inX11 0 rfl rfl 23 (by decide) wF_X11_48 rfl dX11_back_26 ?_
    refine g_iconst (v := 0) C dX11_back_29 rfl ?_
    refine g_iald C 2 rfl (by unfold vp_in; decide) dX11_back_30 ?_
    exact g_iret C hR (Nat.le_of_ble_eq_true rfl) (Nat.le_of_ble_eq_true rfl) dX11_back_31 ⟨sF_1 0, 0, 0, rowOf_1, sF_1, rfl, rfl, h⟩
  · replace h := h.2 c_1
    refine g_iconst (v := (-1)) C dX11_back_12 rfl ?_
    exact g_iret C hR (Nat.le_of_ble_eq_true rfl) (Nat.le_of_ble_eq_true rfl) dX11_back_13 ⟨(-1), 0, undoable, rowOf, sF, rfl, rfl, h⟩
theorem dX11_isFunction_0 : decode cX11_isFunction 0 = .ok (.iload_n 1, 1) := by decide +kernel
theorem dX11_isFunction_1 : decode cX11_isFunction 1 = .ok (.ifCond .lt 15, 3) := by decide +kernel
theorem dX11_isFunction_4 : decode cX11_isFunction 4 = .ok (.iload_n 1, 1) := by decide +kernel
theorem dX11_isFunction_5 : decode cX11_isFunction 5 = .ok (.aload_n 0, 1) := by decide +kernel
theorem dX11_isFunction_6 : decode cX11_isFunction 6 = .ok (.invokevirtual 226, 3) := by decide +kernel
theorem dX11_isFunction_9 : decode cX11_isFunction 9 = .ok (.if_icmp .ge 7, 3) := by decide +kernel
theorem dX11_isFunction_12 : decode cX11_isFunction 12 = .ok (.iconst 1, 1) := by decide +kernel
theorem dX11_isFunction_13 : decode cX11_isFunction 13 = .ok (.goto 4, 3) := by decide +kernel
theorem dX11_isFunction_16 : decode cX11_isFunction 16 = .ok (.iconst 0, 1) := by decide +kernel
theorem dX11_isFunction_17 : decode cX11_isFunction 17 = .ok (.ireturn, 1) := by decide +kernel
/-- QuotientSumsModel.isFunction(I)Z -/
def wX11_isFunction (thrown : Int32) (taped : Int32) (lines : Int32) (size : Int32) (atF : Int32) (place : Int32) (sort : Int32) (value : Int32) (fault : Int32) (faultPlace : Int32) (lastFault : Int32) (lastPlace : Int32) (undoable : Int32) (hasImage : Int32) (rowOf : Int32) (areSums : Int32) (isSieved : Int32) (blocks : Int32) (drawn : Int32) (number : Nat → Int32) (a1 : Int32) (Q : (Int32) → Prop) : Prop :=
  ((a1 < 0 → (Q 0)) ∧ (¬ a1 < 0 → (∃ (P_1 : (Int32) → Prop), wX11_functions thrown taped lines size atF place sort value fault faultPlace lastFault lastPlace undoable hasImage rowOf areSums isSieved blocks drawn number P_1 ∧ ∀ (rF_1 : Int32), P_1 rF_1 → ((rF_1 ≤ a1 → (Q 0)) ∧ (¬ rF_1 ≤ a1 → (Q 1))))))
set_option maxHeartbeats 4000000 in
set_option maxRecDepth 100000 in
theorem mX11_isFunction (l : Launch) (D : va_G) (Y : Nat → ClassId) (h0 : Nat) (thrown : Int32) (v_tape : Value) (taped : Int32) (q_number : Nat) (v_isTold : Value) (v_name : Value) (v_sortOf : Value) (v_first : Value) (v_second : Value) (v_degree : Value) (v_colours : Value) (v_signBy : Value) (v_own : Value) (lines : Int32) (size : Int32) (atF : Int32) (place : Int32) (sort : Int32) (value : Int32) (fault : Int32) (faultPlace : Int32) (lastFault : Int32) (lastPlace : Int32) (v_sF : Value) (v_kept : Value) (undoable : Int32) (hasImage : Int32) (v_power : Value) (v_table : Value) (v_marks : Value) (v_row : Value) (rowOf : Int32) (areSums : Int32) (isSieved : Int32) (v_lastOf : Value) (blocks : Int32) (v_inBlock : Value) (v_atQuotient : Value) (v_small : Value) (drawn : Int32) (number : Nat → Int32) (a1 : Int32) (Q : (Int32) → Prop) (h : wX11_isFunction thrown taped lines size atF place sort value fault faultPlace lastFault lastPlace undoable hasImage rowOf areSums isSieved blocks drawn number a1 Q) : gM l D Y yX11_isFunction cX11_isFunction 2 (some .boolean) 1 20 0 0 [.ref h0, .int a1] [oX11 h0 thrown (v_tape) taped (.ref q_number) (v_isTold) (v_name) (v_sortOf) (v_first) (v_second) (v_degree) (v_colours) (v_signBy) (v_own) lines size atF place sort value fault faultPlace lastFault lastPlace (v_sF) (v_kept) undoable hasImage (v_power) (v_table) (v_marks) (v_row) rowOf areSums isSieved (v_lastOf) blocks (v_inBlock) (v_atQuotient) (v_small) drawn, aI Y q_number 8 number] (fun v w => ∃ r : Int32, v = some (.int r) ∧ w = [oX11 h0 thrown (v_tape) taped (.ref q_number) (v_isTold) (v_name) (v_sortOf) (v_first) (v_second) (v_degree) (v_colours) (v_signBy) (v_own) lines size atF place sort value fault faultPlace lastFault lastPlace (v_sF) (v_kept) undoable hasImage (v_power) (v_table) (v_marks) (v_row) rowOf areSums isSieved (v_lastOf) blocks (v_inBlock) (v_atQuotient) (v_small) drawn, aI Y q_number 8 number] ∧ Q r) := by
  refine gM_of (own := RX11) (by decide +kernel) rfl (Nat.le_of_ble_eq_true rfl) rfl (fun E C hR => ?_)
  unfold wX11_isFunction at h
  refine g_iload_n C dX11_isFunction_0 1 rfl ?_
  refine g_if_lt (tgt := 16) C dX11_isFunction_1 (by decide) (fun c_1 => ?_) (fun c_1 => ?_)
  · replace h := h.1 c_1
    refine g_iconst (v := 0) C dX11_isFunction_16 rfl ?_
    exact g_zret C hR (by decide) (Nat.le_of_ble_eq_true rfl) (Nat.le_of_ble_eq_true rfl) dX11_isFunction_17 ⟨0, rfl, rfl, h⟩
  · replace h := h.2 c_1
    refine g_iload_n C dX11_isFunction_4 1 rfl ?_
    refine g_aload_n C dX11_isFunction_5 0 rfl ?_
    obtain ⟨P_1, hP, h⟩ := h
    refine g_callV (As := []) (rest := [.int a1]) C (mX11_functions l D Y h0 thrown v_tape taped q_number v_isTold v_name v_sortOf v_first v_second v_degree v_colours v_signBy v_own lines size atF place sort value fault faultPlace lastFault lastPlace v_sF v_kept undoable hasImage v_power v_table v_marks v_row rowOf areSums isSieved v_lastOf blocks v_inBlock v_atQuotient v_small drawn number P_1 hP) dX11_isFunction_6 rfl wM_X11_226 wI_X11_functions wV_X11_functions wN_X11 wC_X11_functions (n := 0) (by decide +kernel) rfl (q0 := 0) rfl rfl ⟨Nat.le_of_ble_eq_true rfl, Nat.le_of_ble_eq_true rfl⟩ ⟨Nat.le_of_ble_eq_true rfl, Nat.le_of_ble_eq_true rfl⟩ (Nat.le_of_ble_eq_true rfl) [0, 1] [] rfl rfl rfl (fun v wc hv => ?_)
    obtain ⟨rF_1, rfl, rfl, hq⟩ := hv
    replace h := h rF_1 hq
    refine gG.eqw (ws' := [oX11 h0 thrown (v_tape) taped (.ref q_number) (v_isTold) (v_name) (v_sortOf) (v_first) (v_second) (v_degree) (v_colours) (v_signBy) (v_own) lines size atF place sort value fault faultPlace lastFault lastPlace (v_sF) (v_kept) undoable hasImage (v_power) (v_table) (v_marks) (v_row) rowOf areSums isSieved (v_lastOf) blocks (v_inBlock) (v_atQuotient) (v_small) drawn, aI Y q_number 8 number]) rfl ?_
    refine g_icmp_ge (tgt := 16) C dX11_isFunction_9 (by decide) (fun c_2 => ?_) (fun c_2 => ?_)
    · replace h := h.1 c_2
      refine g_iconst (v := 0) C dX11_isFunction_16 rfl ?_
      exact g_zret C hR (by decide) (Nat.le_of_ble_eq_true rfl) (Nat.le_of_ble_eq_true rfl) dX11_isFunction_17 ⟨0, rfl, rfl, h⟩
    · replace h := h.2 c_2
      refine g_iconst (v := 1) C dX11_isFunction_12 rfl ?_
      refine g_goto (tgt := 17) C dX11_isFunction_13 (by decide) ?_
      exact g_zret C hR (by decide) (Nat.le_of_ble_eq_true rfl) (Nat.le_of_ble_eq_true rfl) dX11_isFunction_17 ⟨1, rfl, rfl, h⟩
theorem dX11_within_0 : decode cX11_within 0 = .ok (.iload_n 0, 1) := by decide +kernel
theorem dX11_within_1 : decode cX11_within 1 = .ok (.iload_n 1, 1) := by decide +kernel
theorem dX11_within_2 : decode cX11_within 2 = .ok (.if_icmp .lt 12, 3) := by decide +kernel
theorem dX11_within_5 : decode cX11_within 5 = .ok (.iload_n 0, 1) := by decide +kernel
theorem dX11_within_6 : decode cX11_within 6 = .ok (.iload_n 2, 1) := by decide +kernel
theorem dX11_within_7 : decode cX11_within 7 = .ok (.if_icmp .gt 7, 3) := by decide +kernel
theorem dX11_within_10 : decode cX11_within 10 = .ok (.iconst 1, 1) := by decide +kernel
theorem dX11_within_11 : decode cX11_within 11 = .ok (.goto 4, 3) := by decide +kernel
theorem dX11_within_14 : decode cX11_within 14 = .ok (.iconst 0, 1) := by decide +kernel
theorem dX11_within_15 : decode cX11_within 15 = .ok (.ireturn, 1) := by decide +kernel
/-- QuotientSumsModel.within(III)Z -/
def wX11_within  (a1 : Int32) (a2 : Int32) (a3 : Int32) (Q : (Int32) → Prop) : Prop :=
  ((a1 < a2 → (Q 0)) ∧ (¬ a1 < a2 → ((a3 < a1 → (Q 0)) ∧ (¬ a3 < a1 → (Q 1)))))
set_option maxHeartbeats 4000000 in
set_option maxRecDepth 100000 in
theorem mX11_within (l : Launch) (D : va_G) (Y : Nat → ClassId)   (a1 : Int32) (a2 : Int32) (a3 : Int32) (Q : (Int32) → Prop) (h : wX11_within a1 a2 a3 Q) : gM l D Y yX11_within cX11_within 3 (some .boolean) 0 0 0 0 [.int a1, .int a2, .int a3] [] (fun v w => ∃ r : Int32, v = some (.int r) ∧ w = [] ∧ Q r) := by
  refine gM_of (own := RX11) (by decide +kernel) rfl (Nat.le_of_ble_eq_true rfl) rfl (fun E C hR => ?_)
  unfold wX11_within at h
  refine g_iload_n C dX11_within_0 0 rfl ?_
  refine g_iload_n C dX11_within_1 1 rfl ?_
  refine g_icmp_lt (tgt := 14) C dX11_within_2 (by decide) (fun c_1 => ?_) (fun c_1 => ?_)
  · replace h := h.1 c_1
    refine g_iconst (v := 0) C dX11_within_14 rfl ?_
    exact g_zret C hR (by decide) (Nat.le_of_ble_eq_true rfl) (Nat.le_of_ble_eq_true rfl) dX11_within_15 ⟨0, rfl, rfl, h⟩
  · replace h := h.2 c_1
    refine g_iload_n C dX11_within_5 0 rfl ?_
    refine g_iload_n C dX11_within_6 2 rfl ?_
    refine g_icmp_gt (tgt := 14) C dX11_within_7 (by decide) (fun c_2 => ?_) (fun c_2 => ?_)
    · replace h := h.1 c_2
      refine g_iconst (v := 0) C dX11_within_14 rfl ?_
      exact g_zret C hR (by decide) (Nat.le_of_ble_eq_true rfl) (Nat.le_of_ble_eq_true rfl) dX11_within_15 ⟨0, rfl, rfl, h⟩
    · replace h := h.2 c_2
      refine g_iconst (v := 1) C dX11_within_10 rfl ?_
      refine g_goto (tgt := 15) C dX11_within_11 (by decide) ?_
      exact g_zret C hR (by decide) (Nat.le_of_ble_eq_true rfl) (Nat.le_of_ble_eq_true rfl) dX11_within_15 ⟨1, rfl, rfl, h⟩
theorem dX11_isIn_0 : decode cX11_isIn 0 = .ok (.iload_n 1, 1) := by decide +kernel
theorem dX11_isIn_1 : decode cX11_isIn 1 = .ok (.iload_n 2, 1) := by decide +kernel
theorem dX11_isIn_2 : decode cX11_isIn 2 = .ok (.if_icmp .lt 17, 3) := by decide +kernel
theorem dX11_isIn_5 : decode cX11_isIn 5 = .ok (.iload_n 1, 1) := by decide +kernel
theorem dX11_isIn_6 : decode cX11_isIn 6 = .ok (.aload_n 0, 1) := by decide +kernel
theorem dX11_isIn_7 : decode cX11_isIn 7 = .ok (.getfield 48, 3) := by decide +kernel
theorem dX11_isIn_10 : decode cX11_isIn 10 = .ok (.iconst 0, 1) := by decide +kernel
theorem dX11_isIn_11 : decode cX11_isIn 11 = .ok (.iaload, 1) := by decide +kernel
theorem dX11_isIn_12 : decode cX11_isIn 12 = .ok (.if_icmp .gt 7, 3) := by decide +kernel
theorem dX11_isIn_15 : decode cX11_isIn 15 = .ok (.iconst 1, 1) := by decide +kernel
theorem dX11_isIn_16 : decode cX11_isIn 16 = .ok (.goto 4, 3) := by decide +kernel
theorem dX11_isIn_19 : decode cX11_isIn 19 = .ok (.iconst 0, 1) := by decide +kernel
theorem dX11_isIn_20 : decode cX11_isIn 20 = .ok (.ireturn, 1) := by decide +kernel
/-- QuotientSumsModel.isIn(II)Z -/
def wX11_isIn (thrown : Int32) (taped : Int32) (lines : Int32) (size : Int32) (atF : Int32) (place : Int32) (sort : Int32) (value : Int32) (fault : Int32) (faultPlace : Int32) (lastFault : Int32) (lastPlace : Int32) (undoable : Int32) (hasImage : Int32) (rowOf : Int32) (areSums : Int32) (isSieved : Int32) (blocks : Int32) (drawn : Int32) (sF : Nat → Int32) (a1 : Int32) (a2 : Int32) (Q : (Int32) → Prop) : Prop :=
  ((a1 < a2 → (Q 0)) ∧ (¬ a1 < a2 → (((sF 0) < a1 → (Q 0)) ∧ (¬ (sF 0) < a1 → (Q 1)))))
set_option maxHeartbeats 4000000 in
set_option maxRecDepth 100000 in
theorem mX11_isIn (l : Launch) (D : va_G) (Y : Nat → ClassId) (h0 : Nat) (thrown : Int32) (v_tape : Value) (taped : Int32) (v_number : Value) (v_isTold : Value) (v_name : Value) (v_sortOf : Value) (v_first : Value) (v_second : Value) (v_degree : Value) (v_colours : Value) (v_signBy : Value) (v_own : Value) (lines : Int32) (size : Int32) (atF : Int32) (place : Int32) (sort : Int32) (value : Int32) (fault : Int32) (faultPlace : Int32) (lastFault : Int32) (lastPlace : Int32) (q_sF : Nat) (v_kept : Value) (undoable : Int32) (hasImage : Int32) (v_power : Value) (v_table : Value) (v_marks : Value) (v_row : Value) (rowOf : Int32) (areSums : Int32) (isSieved : Int32) (v_lastOf : Value) (blocks : Int32) (v_inBlock : Value) (v_atQuotient : Value) (v_small : Value) (drawn : Int32) (sF : Nat → Int32) (a1 : Int32) (a2 : Int32) (Q : (Int32) → Prop) (h : wX11_isIn thrown taped lines size atF place sort value fault faultPlace lastFault lastPlace undoable hasImage rowOf areSums isSieved blocks drawn sF a1 a2 Q) : gM l D Y yX11_isIn cX11_isIn 3 (some .boolean) 0 0 0 0 [.ref h0, .int a1, .int a2] [oX11 h0 thrown (v_tape) taped (v_number) (v_isTold) (v_name) (v_sortOf) (v_first) (v_second) (v_degree) (v_colours) (v_signBy) (v_own) lines size atF place sort value fault faultPlace lastFault lastPlace (.ref q_sF) (v_kept) undoable hasImage (v_power) (v_table) (v_marks) (v_row) rowOf areSums isSieved (v_lastOf) blocks (v_inBlock) (v_atQuotient) (v_small) drawn, aI Y q_sF 74 sF] (fun v w => ∃ r : Int32, v = some (.int r) ∧ w = [oX11 h0 thrown (v_tape) taped (v_number) (v_isTold) (v_name) (v_sortOf) (v_first) (v_second) (v_degree) (v_colours) (v_signBy) (v_own) lines size atF place sort value fault faultPlace lastFault lastPlace (.ref q_sF) (v_kept) undoable hasImage (v_power) (v_table) (v_marks) (v_row) rowOf areSums isSieved (v_lastOf) blocks (v_inBlock) (v_atQuotient) (v_small) drawn, aI Y q_sF 74 sF] ∧ Q r) := by
  refine gM_of (own := RX11) (by decide +kernel) rfl (Nat.le_of_ble_eq_true rfl) rfl (fun E C hR => ?_)
  unfold wX11_isIn at h
  refine g_iload_n C dX11_isIn_0 1 rfl ?_
  refine g_iload_n C dX11_isIn_1 2 rfl ?_
  refine g_icmp_lt (tgt := 19) C dX11_isIn_2 (by decide) (fun c_1 => ?_) (fun c_1 => ?_)
  · replace h := h.1 c_1
    refine g_iconst (v := 0) C dX11_isIn_19 rfl ?_
    exact g_zret C hR (by decide) (Nat.le_of_ble_eq_true rfl) (Nat.le_of_ble_eq_true rfl) dX11_isIn_20 ⟨0, rfl, rfl, h⟩
  · replace h := h.2 c_1
    refine g_iload_n C dX11_isIn_5 1 rfl ?_
    refine g_aload_n C dX11_isIn_6 0 rfl ?_
    refine g_get C inX11 0 rfl rfl 23 (by decide) wF_X11_48 rfl dX11_isIn_7 ?_
    refine g_iconst (v := 0) C dX11_isIn_10 rfl ?_
    refine g_iald C 1 rfl (by unfold vp_in; decide) dX11_isIn_11 ?_
    refine g_icmp_gt (tgt := 19) C dX11_isIn_12 (by decide) (fun c_2 => ?_) (fun c_2 => ?_)
    · replace h := h.1 c_2
      refine g_iconst (v := 0) C dX11_isIn_19 rfl ?_
      exact g_zret C hR (by decide) (Nat.le_of_ble_eq_true rfl) (Nat.le_of_ble_eq_true rfl) dX11_isIn_20 ⟨0, rfl, rfl, h⟩
    · replace h := h.2 c_2
      refine g_iconst (v := 1) C dX11_isIn_15 rfl ?_
      refine g_goto (tgt := 20) C dX11_isIn_16 (by decide) ?_
      exact g_zret C hR (by decide) (Nat.le_of_ble_eq_true rfl) (Nat.le_of_ble_eq_true rfl) dX11_isIn_20 ⟨1, rfl, rfl, h⟩
theorem dX11_function_0 : decode cX11_function 0 = .ok (.aload_n 0, 1) := by decide +kernel
theorem dX11_function_1 : decode cX11_function 1 = .ok (.iconst 0, 1) := by decide +kernel
theorem dX11_function_2 : decode cX11_function 2 = .ok (.putfield 89, 3) := by decide +kernel
theorem dX11_function_5 : decode cX11_function 5 = .ok (.aload_n 0, 1) := by decide +kernel
theorem dX11_function_6 : decode cX11_function 6 = .ok (.iload_n 1, 1) := by decide +kernel
theorem dX11_function_7 : decode cX11_function 7 = .ok (.invokevirtual 241, 3) := by decide +kernel
theorem dX11_function_10 : decode cX11_function 10 = .ok (.ifCond .ne 10, 3) := by decide +kernel
theorem dX11_function_13 : decode cX11_function 13 = .ok (.aload_n 0, 1) := by decide +kernel
theorem dX11_function_14 : decode cX11_function 14 = .ok (.iconst 1, 1) := by decide +kernel
theorem dX11_function_15 : decode cX11_function 15 = .ok (.putfield 89, 3) := by decide +kernel
theorem dX11_function_18 : decode cX11_function 18 = .ok (.iconst 0, 1) := by decide +kernel
theorem dX11_function_19 : decode cX11_function 19 = .ok (.ireturn, 1) := by decide +kernel
theorem dX11_function_20 : decode cX11_function 20 = .ok (.iload_n 2, 1) := by decide +kernel
theorem dX11_function_21 : decode cX11_function 21 = .ok (.tableswitch 70 0 4 #[35, 42, 49, 56, 63], 35) := by decide +kernel
theorem dX11_function_56 : decode cX11_function 56 = .ok (.aload_n 0, 1) := by decide +kernel
theorem dX11_function_57 : decode cX11_function 57 = .ok (.getfield 23, 3) := by decide +kernel
theorem dX11_function_60 : decode cX11_function 60 = .ok (.iload_n 1, 1) := by decide +kernel
theorem dX11_function_61 : decode cX11_function 61 = .ok (.iaload, 1) := by decide +kernel
theorem dX11_function_62 : decode cX11_function 62 = .ok (.ireturn, 1) := by decide +kernel
theorem dX11_function_63 : decode cX11_function 63 = .ok (.aload_n 0, 1) := by decide +kernel
theorem dX11_function_64 : decode cX11_function 64 = .ok (.getfield 26, 3) := by decide +kernel
theorem dX11_function_67 : decode cX11_function 67 = .ok (.iload_n 1, 1) := by decide +kernel
theorem dX11_function_68 : decode cX11_function 68 = .ok (.iaload, 1) := by decide +kernel
theorem dX11_function_69 : decode cX11_function 69 = .ok (.ireturn, 1) := by decide +kernel
theorem dX11_function_70 : decode cX11_function 70 = .ok (.aload_n 0, 1) := by decide +kernel
theorem dX11_function_71 : decode cX11_function 71 = .ok (.getfield 29, 3) := by decide +kernel
theorem dX11_function_74 : decode cX11_function 74 = .ok (.iload_n 1, 1) := by decide +kernel
theorem dX11_function_75 : decode cX11_function 75 = .ok (.iaload, 1) := by decide +kernel
theorem dX11_function_76 : decode cX11_function 76 = .ok (.ireturn, 1) := by decide +kernel
theorem dX11_function_77 : decode cX11_function 77 = .ok (.aload_n 0, 1) := by decide +kernel
theorem dX11_function_78 : decode cX11_function 78 = .ok (.getfield 32, 3) := by decide +kernel
theorem dX11_function_81 : decode cX11_function 81 = .ok (.iload_n 1, 1) := by decide +kernel
theorem dX11_function_82 : decode cX11_function 82 = .ok (.iaload, 1) := by decide +kernel
theorem dX11_function_83 : decode cX11_function 83 = .ok (.ireturn, 1) := by decide +kernel
theorem dX11_function_84 : decode cX11_function 84 = .ok (.aload_n 0, 1) := by decide +kernel
theorem dX11_function_85 : decode cX11_function 85 = .ok (.getfield 35, 3) := by decide +kernel
theorem dX11_function_88 : decode cX11_function 88 = .ok (.iload_n 1, 1) := by decide +kernel
theorem dX11_function_89 : decode cX11_function 89 = .ok (.iaload, 1) := by decide +kernel
theorem dX11_function_90 : decode cX11_function 90 = .ok (.ireturn, 1) := by decide +kernel
theorem dX11_function_91 : decode cX11_function 91 = .ok (.aload_n 0, 1) := by decide +kernel
theorem dX11_function_92 : decode cX11_function 92 = .ok (.iconst 2, 1) := by decide +kernel
theorem dX11_function_93 : decode cX11_function 93 = .ok (.putfield 89, 3) := by decide +kernel
theorem dX11_function_96 : decode cX11_function 96 = .ok (.iconst 0, 1) := by decide +kernel
theorem dX11_function_97 : decode cX11_function 97 = .ok (.ireturn, 1) := by decide +kernel
/-- QuotientSumsModel.function(II)I -/
def wX11_function (thrown : Int32) (taped : Int32) (lines : Int32) (size : Int32) (atF : Int32) (place : Int32) (sort : Int32) (value : Int32) (fault : Int32) (faultPlace : Int32) (lastFault : Int32) (lastPlace : Int32) (undoable : Int32) (hasImage : Int32) (rowOf : Int32) (areSums : Int32) (isSieved : Int32) (blocks : Int32) (drawn : Int32) (number : Nat → Int32) (sortOf : Nat → Int32) (first : Nat → Int32) (second : Nat → Int32) (degree : Nat → Int32) (colours : Nat → Int32) (a1 : Int32) (a2 : Int32) (Q : (Int32) → (Int32) → Prop) : Prop :=
  (∃ (P_1 : (Int32) → Prop), wX11_isFunction 0 taped lines size atF place sort value fault faultPlace lastFault lastPlace undoable hasImage rowOf areSums isSieved blocks drawn number a1 P_1 ∧ ∀ (rF_1 : Int32), P_1 rF_1 → ((¬ rF_1 = 0 → ((a2 = 0 → (vp_in a1 24 ∧ (Q (sortOf a1.toNatClampNeg) 0))) ∧ (¬ a2 = 0 → ((a2 = 1 → (vp_in a1 24 ∧ (Q (first a1.toNatClampNeg) 0))) ∧ (¬ a2 = 1 → ((a2 = 2 → (vp_in a1 24 ∧ (Q (second a1.toNatClampNeg) 0))) ∧ (¬ a2 = 2 → ((a2 = 3 → (vp_in a1 24 ∧ (Q (degree a1.toNatClampNeg) 0))) ∧ (¬ a2 = 3 → ((a2 = 4 → (vp_in a1 24 ∧ (Q (colours a1.toNatClampNeg) 0))) ∧ (¬ a2 = 4 → (Q 0 2)))))))))))) ∧ (rF_1 = 0 → (Q 0 1))))
set_option maxHeartbeats 4000000 in
set_option maxRecDepth 100000 in
theorem mX11_function (l : Launch) (D : va_G) (Y : Nat → ClassId) (h0 : Nat) (thrown : Int32) (v_tape : Value) (taped : Int32) (q_number : Nat) (v_isTold : Value) (v_name : Value) (q_sortOf : Nat) (q_first : Nat) (q_second : Nat) (q_degree : Nat) (q_colours : Nat) (v_signBy : Value) (v_own : Value) (lines : Int32) (size : Int32) (atF : Int32) (place : Int32) (sort : Int32) (value : Int32) (fault : Int32) (faultPlace : Int32) (lastFault : Int32) (lastPlace : Int32) (v_sF : Value) (v_kept : Value) (undoable : Int32) (hasImage : Int32) (v_power : Value) (v_table : Value) (v_marks : Value) (v_row : Value) (rowOf : Int32) (areSums : Int32) (isSieved : Int32) (v_lastOf : Value) (blocks : Int32) (v_inBlock : Value) (v_atQuotient : Value) (v_small : Value) (drawn : Int32) (number : Nat → Int32) (sortOf : Nat → Int32) (first : Nat → Int32) (second : Nat → Int32) (degree : Nat → Int32) (colours : Nat → Int32) (a1 : Int32) (a2 : Int32) (Q : (Int32) → (Int32) → Prop) (h : wX11_function thrown taped lines size atF place sort value fault faultPlace lastFault lastPlace undoable hasImage rowOf areSums isSieved blocks drawn number sortOf first second degree colours a1 a2 Q) : gM l D Y yX11_function cX11_function 3 (some .int) 2 41 0 0 [.ref h0, .int a1, .int a2] [oX11 h0 thrown (v_tape) taped (.ref q_number) (v_isTold) (v_name) (.ref q_sortOf) (.ref q_first) (.ref q_second) (.ref q_degree) (.ref q_colours) (v_signBy) (v_own) lines size atF place sort value fault faultPlace lastFault lastPlace (v_sF) (v_kept) undoable hasImage (v_power) (v_table) (v_marks) (v_row) rowOf areSums isSieved (v_lastOf) blocks (v_inBlock) (v_atQuotient) (v_small) drawn, aI Y q_number 8 number, aI Y q_sortOf 24 sortOf, aI Y q_first 24 first, aI Y q_second 24 second, aI Y q_degree 24 degree, aI Y q_colours 24 colours] (fun v w => ∃ r : Int32, ∃ thrown' : Int32, v = some (.int r) ∧ w = [oX11 h0 thrown' (v_tape) taped (.ref q_number) (v_isTold) (v_name) (.ref q_sortOf) (.ref q_first) (.ref q_second) (.ref q_degree) (.ref q_colours) (v_signBy) (v_own) lines size atF place sort value fault faultPlace lastFault lastPlace (v_sF) (v_kept) undoable hasImage (v_power) (v_table) (v_marks) (v_row) rowOf areSums isSieved (v_lastOf) blocks (v_inBlock) (v_atQuotient) (v_small) drawn, aI Y q_number 8 number, aI Y q_sortOf 24 sortOf, aI Y q_first 24 first, aI Y q_second 24 second, aI Y q_degree 24 degree, aI Y q_colours 24 colours] ∧ Q r thrown') := by
  refine gM_of (own := RX11) (by decide +kernel) rfl (Nat.le_of_ble_eq_true rfl) rfl (fun E C hR => ?_)
  unfold wX11_function at h
  refine g_aload_n C dX11_function_0 0 rfl ?_
  refine g_iconst (v := 0) C dX11_function_1 rfl ?_
  refine g_put C inX11 tyX11 tyX11_ok nmX11 0 rfl rfl 0 (by decide) wF_X11_89 rfl rfl rfl (Nat.le_of_ble_eq_true rfl) (ws' := [oX11 h0 0 (v_tape) taped (.ref q_number) (v_isTold) (v_name) (.ref q_sortOf) (.ref q_first) (.ref q_second) (.ref q_degree) (.ref q_colours) (v_signBy) (v_own) lines size atF place sort value fault faultPlace lastFault lastPlace (v_sF) (v_kept) undoable hasImage (v_power) (v_table) (v_marks) (v_row) rowOf areSums isSieved (v_lastOf) blocks (v_inBlock) (v_atQuotient) (v_small) drawn, aI Y q_number 8 number, aI Y q_sortOf 24 sortOf, aI Y q_first 24 first, aI Y q_second 24 second, aI Y q_degree 24 degree, aI Y q_colours 24 colours]) rfl dX11_function_2 ?_
  refine g_aload_n C dX11_function_5 0 rfl ?_
  refine g_iload_n C dX11_function_6 1 rfl ?_
  obtain ⟨P_1, hP, h⟩ := h
  refine g_callV (As := [.int a1]) (rest := []) C (mX11_isFunction l D Y h0 0 v_tape taped q_number v_isTold v_name (.ref q_sortOf) (.ref q_first) (.ref q_second) (.ref q_degree) (.ref q_colours) v_signBy v_own lines size atF place sort value fault faultPlace lastFault lastPlace v_sF v_kept undoable hasImage v_power v_table v_marks v_row rowOf areSums isSieved v_lastOf blocks v_inBlock v_atQuotient v_small drawn number a1 P_1 hP) dX11_function_7 rfl wM_X11_241 wI_X11_isFunction wV_X11_isFunction wN_X11 wC_X11_isFunction (n := 1) (by decide +kernel) rfl (q0 := 0) rfl rfl ⟨Nat.le_of_ble_eq_true rfl, Nat.le_of_ble_eq_true rfl⟩ ⟨Nat.le_of_ble_eq_true rfl, Nat.le_of_ble_eq_true rfl⟩ (Nat.le_of_ble_eq_true rfl) [0, 1] [2, 3, 4, 5, 6] rfl rfl rfl (fun v wc hv => ?_)
  obtain ⟨rF_1, rfl, rfl, hq⟩ := hv
  replace h := h rF_1 hq
  refine gG.perm (ws' := [oX11 h0 0 (v_tape) taped (.ref q_number) (v_isTold) (v_name) (.ref q_sortOf) (.ref q_first) (.ref q_second) (.ref q_degree) (.ref q_colours) (v_signBy) (v_own) lines size atF place sort value fault faultPlace lastFault lastPlace (v_sF) (v_kept) undoable hasImage (v_power) (v_table) (v_marks) (v_row) rowOf areSums isSieved (v_lastOf) blocks (v_inBlock) (v_atQuotient) (v_small) drawn, aI Y q_number 8 number, aI Y q_sortOf 24 sortOf, aI Y q_first 24 first, aI Y q_second 24 second, aI Y q_degree 24 degree, aI Y q_colours 24 colours]) [5, 6, 0, 1, 2, 3, 4] rfl rfl ?_
  refine g_if_ne (tgt := 20) C dX11_function_10 (by decide) (fun c_1 => ?_) (fun c_1 => ?_)
  · replace h := h.1 c_1
    refine g_iload_n C dX11_function_20 2 rfl ?_
    by_cases c_2 : a2 = 0
    · replace h := h.1 c_2
      refine g_tabI (v := 0) (tgt := 56) C dX11_function_21 c_2 (by decide) (by decide) rfl (by decide) ?_
      refine g_aload_n C dX11_function_56 0 rfl ?_
      refine g_get C inX11 0 rfl rfl 6 (by decide) wF_X11_23 rfl dX11_function_57 ?_
      refine g_iload_n C dX11_function_60 1 rfl ?_
      obtain ⟨hc_1, h⟩ := h
      refine g_iald C 2 rfl hc_1 dX11_function_61 ?_
      exact g_iret C hR (Nat.le_of_ble_eq_true rfl) (Nat.le_of_ble_eq_true rfl) dX11_function_62 ⟨sortOf a1.toNatClampNeg, 0, rfl, rfl, h⟩
    · replace h := h.2 c_2
      by_cases c_3 : a2 = 1
      · replace h := h.1 c_3
        refine g_tabI (v := 1) (tgt := 63) C dX11_function_21 c_3 (by decide) (by decide) rfl (by decide) ?_
        refine g_aload_n C dX11_function_63 0 rfl ?_
        refine g_get C inX11 0 rfl rfl 7 (by decide) wF_X11_26 rfl dX11_function_64 ?_
        refine g_iload_n C dX11_function_67 1 rfl ?_
        obtain ⟨hc_2, h⟩ := h
        refine g_iald C 3 rfl hc_2 dX11_function_68 ?_
        exact g_iret C hR (Nat.le_of_ble_eq_true rfl) (Nat.le_of_ble_eq_true rfl) dX11_function_69 ⟨first a1.toNatClampNeg, 0, rfl, rfl, h⟩
      · replace h := h.2 c_3
        by_cases c_4 : a2 = 2
        · replace h := h.1 c_4
          refine g_tabI (v := 2) (tgt := 70) C dX11_function_21 c_4 (by decide) (by decide) rfl (by decide) ?_
          refine g_aload_n C dX11_function_70 0 rfl ?_
          refine g_get C inX11 0 rfl rfl 8 (by decide) wF_X11_29 rfl dX11_function_71 ?_
          refine g_iload_n C dX11_function_74 1 rfl ?_
          obtain ⟨hc_3, h⟩ := h
          refine g_iald C 4 rfl hc_3 dX11_function_75 ?_
          exact g_iret C hR (Nat.le_of_ble_eq_true rfl) (Nat.le_of_ble_eq_true rfl) dX11_function_76 ⟨second a1.toNatClampNeg, 0, rfl, rfl, h⟩
        · replace h := h.2 c_4
          by_cases c_5 : a2 = 3
          · replace h := h.1 c_5
            refine g_tabI (v := 3) (tgt := 77) C dX11_function_21 c_5 (by decide) (by decide) rfl (by decide) ?_
            refine g_aload_n C dX11_function_77 0 rfl ?_
            refine g_get C inX11 0 rfl rfl 9 (by decide) wF_X11_32 rfl dX11_function_78 ?_
            refine g_iload_n C dX11_function_81 1 rfl ?_
            obtain ⟨hc_4, h⟩ := h
            refine g_iald C 5 rfl hc_4 dX11_function_82 ?_
            exact g_iret C hR (Nat.le_of_ble_eq_true rfl) (Nat.le_of_ble_eq_true rfl) dX11_function_83 ⟨degree a1.toNatClampNeg, 0, rfl, rfl, h⟩
          · replace h := h.2 c_5
            by_cases c_6 : a2 = 4
            · replace h := h.1 c_6
              refine g_tabI (v := 4) (tgt := 84) C dX11_function_21 c_6 (by decide) (by decide) rfl (by decide) ?_
              refine g_aload_n C dX11_function_84 0 rfl ?_
              refine g_get C inX11 0 rfl rfl 10 (by decide) wF_X11_35 rfl dX11_function_85 ?_
              refine g_iload_n C dX11_function_88 1 rfl ?_
              obtain ⟨hc_5, h⟩ := h
              refine g_iald C 6 rfl hc_5 dX11_function_89 ?_
              exact g_iret C hR (Nat.le_of_ble_eq_true rfl) (Nat.le_of_ble_eq_true rfl) dX11_function_90 ⟨colours a1.toNatClampNeg, 0, rfl, rfl, h⟩
            · replace h := h.2 c_6
              refine g_tabO (tgt := 91) C dX11_function_21 [0, 1, 2, 3, 4] (by decide) (by exact ⟨c_2, c_3, c_4, c_5, c_6, trivial⟩) (by decide) ?_
              refine g_aload_n C dX11_function_91 0 rfl ?_
              refine g_iconst (v := 2) C dX11_function_92 rfl ?_
              refine g_put C inX11 tyX11 tyX11_ok nmX11 0 rfl rfl 0 (by decide) wF_X11_89 rfl rfl rfl (Nat.le_of_ble_eq_true rfl) (ws' := [oX11 h0 2 (v_tape) taped (.ref q_number) (v_isTold) (v_name) (.ref q_sortOf) (.ref q_first) (.ref q_second) (.ref q_degree) (.ref q_colours) (v_signBy) (v_own) lines size atF place sort value fault faultPlace lastFault lastPlace (v_sF) (v_kept) undoable hasImage (v_power) (v_table) (v_marks) (v_row) rowOf areSums isSieved (v_lastOf) blocks (v_inBlock) (v_atQuotient) (v_small) drawn, aI Y q_number 8 number, aI Y q_sortOf 24 sortOf, aI Y q_first 24 first, aI Y q_second 24 second, aI Y q_degree 24 degree, aI Y q_colours 24 colours]) rfl dX11_function_93 ?_
              refine g_iconst (v := 0) C dX11_function_96 rfl ?_
              exact g_iret C hR (Nat.le_of_ble_eq_true rfl) (Nat.le_of_ble_eq_true rfl) dX11_function_97 ⟨0, 2, rfl, rfl, h⟩
  · replace h := h.2 c_1
    refine g_aload_n C dX11_function_13 0 rfl ?_
    refine g_iconst (v := 1) C dX11_function_14 rfl ?_
    refine g_put C inX11 tyX11 tyX11_ok nmX11 0 rfl rfl 0 (by decide) wF_X11_89 rfl rfl rfl (Nat.le_of_ble_eq_true rfl) (ws' := [oX11 h0 1 (v_tape) taped (.ref q_number) (v_isTold) (v_name) (.ref q_sortOf) (.ref q_first) (.ref q_second) (.ref q_degree) (.ref q_colours) (v_signBy) (v_own) lines size atF place sort value fault faultPlace lastFault lastPlace (v_sF) (v_kept) undoable hasImage (v_power) (v_table) (v_marks) (v_row) rowOf areSums isSieved (v_lastOf) blocks (v_inBlock) (v_atQuotient) (v_small) drawn, aI Y q_number 8 number, aI Y q_sortOf 24 sortOf, aI Y q_first 24 first, aI Y q_second 24 second, aI Y q_degree 24 degree, aI Y q_colours 24 colours]) rfl dX11_function_15 ?_
    refine g_iconst (v := 0) C dX11_function_18 rfl ?_
    exact g_iret C hR (Nat.le_of_ble_eq_true rfl) (Nat.le_of_ble_eq_true rfl) dX11_function_19 ⟨0, 1, rfl, rfl, h⟩
theorem dX11_isOwn_0 : decode cX11_isOwn 0 = .ok (.aload_n 0, 1) := by decide +kernel
theorem dX11_isOwn_1 : decode cX11_isOwn 1 = .ok (.iload_n 1, 1) := by decide +kernel
theorem dX11_isOwn_2 : decode cX11_isOwn 2 = .ok (.invokevirtual 241, 3) := by decide +kernel
theorem dX11_isOwn_5 : decode cX11_isOwn 5 = .ok (.ifCond .eq 17, 3) := by decide +kernel
theorem dX11_isOwn_8 : decode cX11_isOwn 8 = .ok (.aload_n 0, 1) := by decide +kernel
theorem dX11_isOwn_9 : decode cX11_isOwn 9 = .ok (.getfield 23, 3) := by decide +kernel
theorem dX11_isOwn_12 : decode cX11_isOwn 12 = .ok (.iload_n 1, 1) := by decide +kernel
theorem dX11_isOwn_13 : decode cX11_isOwn 13 = .ok (.iaload, 1) := by decide +kernel
theorem dX11_isOwn_14 : decode cX11_isOwn 14 = .ok (.iconst 1, 1) := by decide +kernel
theorem dX11_isOwn_15 : decode cX11_isOwn 15 = .ok (.if_icmp .ne 7, 3) := by decide +kernel
theorem dX11_isOwn_18 : decode cX11_isOwn 18 = .ok (.iconst 1, 1) := by decide +kernel
theorem dX11_isOwn_19 : decode cX11_isOwn 19 = .ok (.goto 4, 3) := by decide +kernel
theorem dX11_isOwn_22 : decode cX11_isOwn 22 = .ok (.iconst 0, 1) := by decide +kernel
theorem dX11_isOwn_23 : decode cX11_isOwn 23 = .ok (.ireturn, 1) := by decide +kernel
/-- QuotientSumsModel.isOwn(I)Z -/
def wX11_isOwn (thrown : Int32) (taped : Int32) (lines : Int32) (size : Int32) (atF : Int32) (place : Int32) (sort : Int32) (value : Int32) (fault : Int32) (faultPlace : Int32) (lastFault : Int32) (lastPlace : Int32) (undoable : Int32) (hasImage : Int32) (rowOf : Int32) (areSums : Int32) (isSieved : Int32) (blocks : Int32) (drawn : Int32) (number : Nat → Int32) (sortOf : Nat → Int32) (a1 : Int32) (Q : (Int32) → Prop) : Prop :=
  (∃ (P_1 : (Int32) → Prop), wX11_isFunction thrown taped lines size atF place sort value fault faultPlace lastFault lastPlace undoable hasImage rowOf areSums isSieved blocks drawn number a1 P_1 ∧ ∀ (rF_1 : Int32), P_1 rF_1 → ((rF_1 = 0 → (Q 0)) ∧ (¬ rF_1 = 0 → (vp_in a1 24 ∧ ((¬ (sortOf a1.toNatClampNeg) = 1 → (Q 0)) ∧ ((sortOf a1.toNatClampNeg) = 1 → (Q 1)))))))
set_option maxHeartbeats 4000000 in
set_option maxRecDepth 100000 in
theorem mX11_isOwn (l : Launch) (D : va_G) (Y : Nat → ClassId) (h0 : Nat) (thrown : Int32) (v_tape : Value) (taped : Int32) (q_number : Nat) (v_isTold : Value) (v_name : Value) (q_sortOf : Nat) (v_first : Value) (v_second : Value) (v_degree : Value) (v_colours : Value) (v_signBy : Value) (v_own : Value) (lines : Int32) (size : Int32) (atF : Int32) (place : Int32) (sort : Int32) (value : Int32) (fault : Int32) (faultPlace : Int32) (lastFault : Int32) (lastPlace : Int32) (v_sF : Value) (v_kept : Value) (undoable : Int32) (hasImage : Int32) (v_power : Value) (v_table : Value) (v_marks : Value) (v_row : Value) (rowOf : Int32) (areSums : Int32) (isSieved : Int32) (v_lastOf : Value) (blocks : Int32) (v_inBlock : Value) (v_atQuotient : Value) (v_small : Value) (drawn : Int32) (number : Nat → Int32) (sortOf : Nat → Int32) (a1 : Int32) (Q : (Int32) → Prop) (h : wX11_isOwn thrown taped lines size atF place sort value fault faultPlace lastFault lastPlace undoable hasImage rowOf areSums isSieved blocks drawn number sortOf a1 Q) : gM l D Y yX11_isOwn cX11_isOwn 2 (some .boolean) 2 41 0 0 [.ref h0, .int a1] [oX11 h0 thrown (v_tape) taped (.ref q_number) (v_isTold) (v_name) (.ref q_sortOf) (v_first) (v_second) (v_degree) (v_colours) (v_signBy) (v_own) lines size atF place sort value fault faultPlace lastFault lastPlace (v_sF) (v_kept) undoable hasImage (v_power) (v_table) (v_marks) (v_row) rowOf areSums isSieved (v_lastOf) blocks (v_inBlock) (v_atQuotient) (v_small) drawn, aI Y q_number 8 number, aI Y q_sortOf 24 sortOf] (fun v w => ∃ r : Int32, v = some (.int r) ∧ w = [oX11 h0 thrown (v_tape) taped (.ref q_number) (v_isTold) (v_name) (.ref q_sortOf) (v_first) (v_second) (v_degree) (v_colours) (v_signBy) (v_own) lines size atF place sort value fault faultPlace lastFault lastPlace (v_sF) (v_kept) undoable hasImage (v_power) (v_table) (v_marks) (v_row) rowOf areSums isSieved (v_lastOf) blocks (v_inBlock) (v_atQuotient) (v_small) drawn, aI Y q_number 8 number, aI Y q_sortOf 24 sortOf] ∧ Q r) := by
  refine gM_of (own := RX11) (by decide +kernel) rfl (Nat.le_of_ble_eq_true rfl) rfl (fun E C hR => ?_)
  unfold wX11_isOwn at h
  refine g_aload_n C dX11_isOwn_0 0 rfl ?_
  refine g_iload_n C dX11_isOwn_1 1 rfl ?_
  obtain ⟨P_1, hP, h⟩ := h
  refine g_callV (As := [.int a1]) (rest := []) C (mX11_isFunction l D Y h0 thrown v_tape taped q_number v_isTold v_name (.ref q_sortOf) v_first v_second v_degree v_colours v_signBy v_own lines size atF place sort value fault faultPlace lastFault lastPlace v_sF v_kept undoable hasImage v_power v_table v_marks v_row rowOf areSums isSieved v_lastOf blocks v_inBlock v_atQuotient v_small drawn number a1 P_1 hP) dX11_isOwn_2 rfl wM_X11_241 wI_X11_isFunction wV_X11_isFunction wN_X11 wC_X11_isFunction (n := 1) (by decide +kernel) rfl (q0 := 0) rfl rfl ⟨Nat.le_of_ble_eq_true rfl, Nat.le_of_ble_eq_true rfl⟩ ⟨Nat.le_of_ble_eq_true rfl, Nat.le_of_ble_eq_true rfl⟩ (Nat.le_of_ble_eq_true rfl) [0, 1] [2] rfl rfl rfl (fun v wc hv => ?_)
  obtain ⟨rF_1, rfl, rfl, hq⟩ := hv
  replace h := h rF_1 hq
  refine gG.perm (ws' := [oX11 h0 thrown (v_tape) taped (.ref q_number) (v_isTold) (v_name) (.ref q_sortOf) (v_first) (v_second) (v_degree) (v_colours) (v_signBy) (v_own) lines size atF place sort value fault faultPlace lastFault lastPlace (v_sF) (v_kept) undoable hasImage (v_power) (v_table) (v_marks) (v_row) rowOf areSums isSieved (v_lastOf) blocks (v_inBlock) (v_atQuotient) (v_small) drawn, aI Y q_number 8 number, aI Y q_sortOf 24 sortOf]) [1, 2, 0] rfl rfl ?_
  refine g_if_eq (tgt := 22) C dX11_isOwn_5 (by decide) (fun c_1 => ?_) (fun c_1 => ?_)
  · replace h := h.1 c_1
    refine g_iconst (v := 0) C dX11_isOwn_22 rfl ?_
    exact g_zret C hR (by decide) (Nat.le_of_ble_eq_true rfl) (Nat.le_of_ble_eq_true rfl) dX11_isOwn_23 ⟨0, rfl, rfl, h⟩
  · replace h := h.2 c_1
    refine g_aload_n C dX11_isOwn_8 0 rfl ?_
    refine g_get C inX11 0 rfl rfl 6 (by decide) wF_X11_23 rfl dX11_isOwn_9 ?_
    refine g_iload_n C dX11_isOwn_12 1 rfl ?_
    obtain ⟨hc_1, h⟩ := h
    refine g_iald C 2 rfl hc_1 dX11_isOwn_13 ?_
    refine g_iconst (v := 1) C dX11_isOwn_14 rfl ?_
    refine g_icmp_ne (tgt := 22) C dX11_isOwn_15 (by decide) (fun c_2 => ?_) (fun c_2 => ?_)
    · replace h := h.1 c_2
      refine g_iconst (v := 0) C dX11_isOwn_22 rfl ?_
      exact g_zret C hR (by decide) (Nat.le_of_ble_eq_true rfl) (Nat.le_of_ble_eq_true rfl) dX11_isOwn_23 ⟨0, rfl, rfl, h⟩
    · replace h := h.2 c_2
      refine g_iconst (v := 1) C dX11_isOwn_18 rfl ?_
      refine g_goto (tgt := 23) C dX11_isOwn_19 (by decide) ?_
      exact g_zret C hR (by decide) (Nat.le_of_ble_eq_true rfl) (Nat.le_of_ble_eq_true rfl) dX11_isOwn_23 ⟨1, rfl, rfl, h⟩
theorem dX11_told_0 : decode cX11_told 0 = .ok (.aload_n 0, 1) := by decide +kernel
theorem dX11_told_1 : decode cX11_told 1 = .ok (.iconst 0, 1) := by decide +kernel
theorem dX11_told_2 : decode cX11_told 2 = .ok (.putfield 89, 3) := by decide +kernel
theorem dX11_told_5 : decode cX11_told 5 = .ok (.aload_n 0, 1) := by decide +kernel
theorem dX11_told_6 : decode cX11_told 6 = .ok (.iload_n 1, 1) := by decide +kernel
theorem dX11_told_7 : decode cX11_told 7 = .ok (.invokevirtual 244, 3) := by decide +kernel
theorem dX11_told_10 : decode cX11_told 10 = .ok (.ifCond .eq 44, 3) := by decide +kernel
theorem dX11_told_13 : decode cX11_told 13 = .ok (.iload_n 2, 1) := by decide +kernel
theorem dX11_told_14 : decode cX11_told 14 = .ok (.iconst 1, 1) := by decide +kernel
theorem dX11_told_15 : decode cX11_told 15 = .ok (.bipush 6, 2) := by decide +kernel
theorem dX11_told_17 : decode cX11_told 17 = .ok (.invokestatic 247, 3) := by decide +kernel
theorem dX11_told_20 : decode cX11_told 20 = .ok (.ifCond .eq 34, 3) := by decide +kernel
theorem dX11_told_23 : decode cX11_told 23 = .ok (.aload_n 0, 1) := by decide +kernel
theorem dX11_told_24 : decode cX11_told 24 = .ok (.getfield 48, 3) := by decide +kernel
theorem dX11_told_27 : decode cX11_told 27 = .ok (.iconst 2, 1) := by decide +kernel
theorem dX11_told_28 : decode cX11_told 28 = .ok (.bipush 12, 2) := by decide +kernel
theorem dX11_told_30 : decode cX11_told 30 = .ok (.iload_n 1, 1) := by decide +kernel
theorem dX11_told_31 : decode cX11_told 31 = .ok (.bipush 6, 2) := by decide +kernel
theorem dX11_told_33 : decode cX11_told 33 = .ok (.isub, 1) := by decide +kernel
theorem dX11_told_34 : decode cX11_told 34 = .ok (.imul, 1) := by decide +kernel
theorem dX11_told_35 : decode cX11_told 35 = .ok (.iadd, 1) := by decide +kernel
theorem dX11_told_36 : decode cX11_told 36 = .ok (.iconst 2, 1) := by decide +kernel
theorem dX11_told_37 : decode cX11_told 37 = .ok (.iload_n 2, 1) := by decide +kernel
theorem dX11_told_38 : decode cX11_told 38 = .ok (.imul, 1) := by decide +kernel
theorem dX11_told_39 : decode cX11_told 39 = .ok (.iadd, 1) := by decide +kernel
theorem dX11_told_40 : decode cX11_told 40 = .ok (.iload_n 3, 1) := by decide +kernel
theorem dX11_told_41 : decode cX11_told 41 = .ok (.ifCond .eq 7, 3) := by decide +kernel
theorem dX11_told_44 : decode cX11_told 44 = .ok (.iconst 1, 1) := by decide +kernel
theorem dX11_told_45 : decode cX11_told 45 = .ok (.goto 4, 3) := by decide +kernel
theorem dX11_told_48 : decode cX11_told 48 = .ok (.iconst 2, 1) := by decide +kernel
theorem dX11_told_49 : decode cX11_told 49 = .ok (.isub, 1) := by decide +kernel
theorem dX11_told_50 : decode cX11_told 50 = .ok (.iaload, 1) := by decide +kernel
theorem dX11_told_51 : decode cX11_told 51 = .ok (.goto 6, 3) := by decide +kernel
theorem dX11_told_54 : decode cX11_told 54 = .ok (.sipush (-1000), 3) := by decide +kernel
theorem dX11_told_57 : decode cX11_told 57 = .ok (.ireturn, 1) := by decide +kernel
/-- QuotientSumsModel.told(IIZ)I -/
def wX11_told (thrown : Int32) (taped : Int32) (lines : Int32) (size : Int32) (atF : Int32) (place : Int32) (sort : Int32) (value : Int32) (fault : Int32) (faultPlace : Int32) (lastFault : Int32) (lastPlace : Int32) (undoable : Int32) (hasImage : Int32) (rowOf : Int32) (areSums : Int32) (isSieved : Int32) (blocks : Int32) (drawn : Int32) (number : Nat → Int32) (sortOf : Nat → Int32) (sF : Nat → Int32) (a1 : Int32) (a2 : Int32) (a3 : Int32) (Q : (Int32) → (Int32) → Prop) : Prop :=
  (∃ (P_1 : (Int32) → Prop), wX11_isOwn 0 taped lines size atF place sort value fault faultPlace lastFault lastPlace undoable hasImage rowOf areSums isSieved blocks drawn number sortOf a1 P_1 ∧ ∀ (rF_1 : Int32), P_1 rF_1 → ((rF_1 = 0 → (Q (-1000) 0)) ∧ (¬ rF_1 = 0 → (∃ (P_2 : (Int32) → Prop), wX11_within a2 1 6 P_2 ∧ ∀ (rF_2 : Int32), P_2 rF_2 → ((rF_2 = 0 → (Q (-1000) 0)) ∧ (¬ rF_2 = 0 → ((a3 = 0 → (vp_in (((2 + (12 * (a1 - 6))) + (2 * a2)) - 2) 74 ∧ (Q (sF (((2 + (12 * (a1 - 6))) + (2 * a2)) - 2).toNatClampNeg) 0))) ∧ (¬ a3 = 0 → (vp_in (((2 + (12 * (a1 - 6))) + (2 * a2)) - 1) 74 ∧ (Q (sF (((2 + (12 * (a1 - 6))) + (2 * a2)) - 1).toNatClampNeg) 0))))))))))
set_option maxHeartbeats 4000000 in
set_option maxRecDepth 100000 in
theorem mX11_told (l : Launch) (D : va_G) (Y : Nat → ClassId) (h0 : Nat) (thrown : Int32) (v_tape : Value) (taped : Int32) (q_number : Nat) (v_isTold : Value) (v_name : Value) (q_sortOf : Nat) (v_first : Value) (v_second : Value) (v_degree : Value) (v_colours : Value) (v_signBy : Value) (v_own : Value) (lines : Int32) (size : Int32) (atF : Int32) (place : Int32) (sort : Int32) (value : Int32) (fault : Int32) (faultPlace : Int32) (lastFault : Int32) (lastPlace : Int32) (q_sF : Nat) (v_kept : Value) (undoable : Int32) (hasImage : Int32) (v_power : Value) (v_table : Value) (v_marks : Value) (v_row : Value) (rowOf : Int32) (areSums : Int32) (isSieved : Int32) (v_lastOf : Value) (blocks : Int32) (v_inBlock : Value) (v_atQuotient : Value) (v_small : Value) (drawn : Int32) (number : Nat → Int32) (sortOf : Nat → Int32) (sF : Nat → Int32) (a1 : Int32) (a2 : Int32) (a3 : Int32) (Q : (Int32) → (Int32) → Prop) (h : wX11_told thrown taped lines size atF place sort value fault faultPlace lastFault lastPlace undoable hasImage rowOf areSums isSieved blocks drawn number sortOf sF a1 a2 a3 Q) : gM l D Y yX11_told cX11_told 4 (some .int) 3 62 0 0 [.ref h0, .int a1, .int a2, .int a3] [oX11 h0 thrown (v_tape) taped (.ref q_number) (v_isTold) (v_name) (.ref q_sortOf) (v_first) (v_second) (v_degree) (v_colours) (v_signBy) (v_own) lines size atF place sort value fault faultPlace lastFault lastPlace (.ref q_sF) (v_kept) undoable hasImage (v_power) (v_table) (v_marks) (v_row) rowOf areSums isSieved (v_lastOf) blocks (v_inBlock) (v_atQuotient) (v_small) drawn, aI Y q_number 8 number, aI Y q_sortOf 24 sortOf, aI Y q_sF 74 sF] (fun v w => ∃ r : Int32, ∃ thrown' : Int32, v = some (.int r) ∧ w = [oX11 h0 thrown' (v_tape) taped (.ref q_number) (v_isTold) (v_name) (.ref q_sortOf) (v_first) (v_second) (v_degree) (v_colours) (v_signBy) (v_own) lines size atF place sort value fault faultPlace lastFault lastPlace (.ref q_sF) (v_kept) undoable hasImage (v_power) (v_table) (v_marks) (v_row) rowOf areSums isSieved (v_lastOf) blocks (v_inBlock) (v_atQuotient) (v_small) drawn, aI Y q_number 8 number, aI Y q_sortOf 24 sortOf, aI Y q_sF 74 sF] ∧ Q r thrown') := by
  refine gM_of (own := RX11) (by decide +kernel) rfl (Nat.le_of_ble_eq_true rfl) rfl (fun E C hR => ?_)
  unfold wX11_told at h
  refine g_aload_n C dX11_told_0 0 rfl ?_
  refine g_iconst (v := 0) C dX11_told_1 rfl ?_
  refine g_put C inX11 tyX11 tyX11_ok nmX11 0 rfl rfl 0 (by decide) wF_X11_89 rfl rfl rfl (Nat.le_of_ble_eq_true rfl) (ws' := [oX11 h0 0 (v_tape) taped (.ref q_number) (v_isTold) (v_name) (.ref q_sortOf) (v_first) (v_second) (v_degree) (v_colours) (v_signBy) (v_own) lines size atF place sort value fault faultPlace lastFault lastPlace (.ref q_sF) (v_kept) undoable hasImage (v_power) (v_table) (v_marks) (v_row) rowOf areSums isSieved (v_lastOf) blocks (v_inBlock) (v_atQuotient) (v_small) drawn, aI Y q_number 8 number, aI Y q_sortOf 24 sortOf, aI Y q_sF 74 sF]) rfl dX11_told_2 ?_
  refine g_aload_n C dX11_told_5 0 rfl ?_
  refine g_iload_n C dX11_told_6 1 rfl ?_
  obtain ⟨P_1, hP, h⟩ := h
  refine g_callV (As := [.int a1]) (rest := []) C (mX11_isOwn l D Y h0 0 v_tape taped q_number v_isTold v_name q_sortOf v_first v_second v_degree v_colours v_signBy v_own lines size atF place sort value fault faultPlace lastFault lastPlace (.ref q_sF) v_kept undoable hasImage v_power v_table v_marks v_row rowOf areSums isSieved v_lastOf blocks v_inBlock v_atQuotient v_small drawn number sortOf a1 P_1 hP) dX11_told_7 rfl wM_X11_244 wI_X11_isOwn wV_X11_isOwn wN_X11 wC_X11_isOwn (n := 1) (by decide +kernel) rfl (q0 := 0) rfl rfl ⟨Nat.le_of_ble_eq_true rfl, Nat.le_of_ble_eq_true rfl⟩ ⟨Nat.le_of_ble_eq_true rfl, Nat.le_of_ble_eq_true rfl⟩ (Nat.le_of_ble_eq_true rfl) [0, 1, 2] [3] rfl rfl rfl (fun v wc hv => ?_)
  obtain ⟨rF_1, rfl, rfl, hq⟩ := hv
  replace h := h rF_1 hq
  refine gG.perm (ws' := [oX11 h0 0 (v_tape) taped (.ref q_number) (v_isTold) (v_name) (.ref q_sortOf) (v_first) (v_second) (v_degree) (v_colours) (v_signBy) (v_own) lines size atF place sort value fault faultPlace lastFault lastPlace (.ref q_sF) (v_kept) undoable hasImage (v_power) (v_table) (v_marks) (v_row) rowOf areSums isSieved (v_lastOf) blocks (v_inBlock) (v_atQuotient) (v_small) drawn, aI Y q_number 8 number, aI Y q_sortOf 24 sortOf, aI Y q_sF 74 sF]) [1, 2, 3, 0] rfl rfl ?_
  refine g_if_eq (tgt := 54) C dX11_told_10 (by decide) (fun c_1 => ?_) (fun c_1 => ?_)
  · replace h := h.1 c_1
    refine g_sipush (v := (-1000)) C dX11_told_54 rfl ?_
    exact g_iret C hR (Nat.le_of_ble_eq_true rfl) (Nat.le_of_ble_eq_true rfl) dX11_told_57 ⟨(-1000), 0, rfl, rfl, h⟩
  · replace h := h.2 c_1
    refine g_iload_n C dX11_told_13 2 rfl ?_
    refine g_iconst (v := 1) C dX11_told_14 rfl ?_
    refine g_bipush (v := 6) C dX11_told_15 rfl ?_
    obtain ⟨P_2, hP, h⟩ := h
    refine g_callS (As := [.int a2, .int 1, .int 6]) (rest := []) C (mX11_within l D Y a2 1 6 P_2 hP) dX11_told_17 rfl wM_X11_247 wS_X11_within wN_X11 wC_X11_within (n := 3) (by decide +kernel) rfl ⟨Nat.le_of_ble_eq_true rfl, Nat.le_of_ble_eq_true rfl⟩ ⟨Nat.le_of_ble_eq_true rfl, Nat.le_of_ble_eq_true rfl⟩ (Nat.le_of_ble_eq_true rfl) [] [0, 1, 2, 3] rfl rfl rfl (fun v wc hv => ?_)
    obtain ⟨rF_2, rfl, rfl, hq⟩ := hv
    replace h := h rF_2 hq
    refine gG.eqw (ws' := [oX11 h0 0 (v_tape) taped (.ref q_number) (v_isTold) (v_name) (.ref q_sortOf) (v_first) (v_second) (v_degree) (v_colours) (v_signBy) (v_own) lines size atF place sort value fault faultPlace lastFault lastPlace (.ref q_sF) (v_kept) undoable hasImage (v_power) (v_table) (v_marks) (v_row) rowOf areSums isSieved (v_lastOf) blocks (v_inBlock) (v_atQuotient) (v_small) drawn, aI Y q_number 8 number, aI Y q_sortOf 24 sortOf, aI Y q_sF 74 sF]) rfl ?_
    refine g_if_eq (tgt := 54) C dX11_told_20 (by decide) (fun c_2 => ?_) (fun c_2 => ?_)
    · replace h := h.1 c_2
      refine g_sipush (v := (-1000)) C dX11_told_54 rfl ?_
      exact g_iret C hR (Nat.le_of_ble_eq_true rfl) (Nat.le_of_ble_eq_true rfl) dX11_told_57 ⟨(-1000), 0, rfl, rfl, h⟩
    · replace h := h.2 c_2
      refine g_aload_n C dX11_told_23 0 rfl ?_
      refine g_get C inX11 0 rfl rfl 23 (by decide) wF_X11_48 rfl dX11_told_24 ?_
      refine g_iconst (v := 2) C dX11_told_27 rfl ?_
      refine g_bipush (v := 12) C dX11_told_28 rfl ?_
      refine g_iload_n C dX11_told_30 1 rfl ?_
      refine g_bipush (v := 6) C dX11_told_31 rfl ?_
      refine g_isub C dX11_told_33 ?_
      refine g_imul C dX11_told_34 ?_
      refine g_iadd C dX11_told_35 ?_
      refine g_iconst (v := 2) C dX11_told_36 rfl ?_
      refine g_iload_n C dX11_told_37 2 rfl ?_
      refine g_imul C dX11_told_38 ?_
      refine g_iadd C dX11_told_39 ?_
      refine g_iload_n C dX11_told_40 3 rfl ?_
      refine g_if_eq (tgt := 48) C dX11_told_41 (by decide) (fun c_3 => ?_) (fun c_3 => ?_)
      · replace h := h.1 c_3
        refine g_iconst (v := 2) C dX11_told_48 rfl ?_
        refine g_isub C dX11_told_49 ?_
        obtain ⟨hc_1, h⟩ := h
        refine g_iald C 3 rfl hc_1 dX11_told_50 ?_
        refine g_goto (tgt := 57) C dX11_told_51 (by decide) ?_
        exact g_iret C hR (Nat.le_of_ble_eq_true rfl) (Nat.le_of_ble_eq_true rfl) dX11_told_57 ⟨sF (((2 + (12 * (a1 - 6))) + (2 * a2)) - 2).toNatClampNeg, 0, rfl, rfl, h⟩
      · replace h := h.2 c_3
        refine g_iconst (v := 1) C dX11_told_44 rfl ?_
        refine g_goto (tgt := 49) C dX11_told_45 (by decide) ?_
        refine g_isub C dX11_told_49 ?_
        obtain ⟨hc_2, h⟩ := h
        refine g_iald C 3 rfl hc_2 dX11_told_50 ?_
        refine g_goto (tgt := 57) C dX11_told_51 (by decide) ?_
        exact g_iret C hR (Nat.le_of_ble_eq_true rfl) (Nat.le_of_ble_eq_true rfl) dX11_told_57 ⟨sF (((2 + (12 * (a1 - 6))) + (2 * a2)) - 1).toNatClampNeg, 0, rfl, rfl, h⟩
theorem dX11_bound_0 : decode cX11_bound 0 = .ok (.aload_n 0, 1) := by decide +kernel
theorem dX11_bound_1 : decode cX11_bound 1 = .ok (.iconst 0, 1) := by decide +kernel
theorem dX11_bound_2 : decode cX11_bound 2 = .ok (.putfield 89, 3) := by decide +kernel
theorem dX11_bound_5 : decode cX11_bound 5 = .ok (.iload_n 1, 1) := by decide +kernel
theorem dX11_bound_6 : decode cX11_bound 6 = .ok (.iconst 1, 1) := by decide +kernel
theorem dX11_bound_7 : decode cX11_bound 7 = .ok (.ldc 189, 2) := by decide +kernel
theorem dX11_bound_9 : decode cX11_bound 9 = .ok (.invokestatic 247, 3) := by decide +kernel
theorem dX11_bound_12 : decode cX11_bound 12 = .ok (.ifCond .ne 5, 3) := by decide +kernel
theorem dX11_bound_15 : decode cX11_bound 15 = .ok (.iconst (-1), 1) := by decide +kernel
theorem dX11_bound_16 : decode cX11_bound 16 = .ok (.ireturn, 1) := by decide +kernel
theorem dX11_bound_17 : decode cX11_bound 17 = .ok (.aload_n 0, 1) := by decide +kernel
theorem dX11_bound_18 : decode cX11_bound 18 = .ok (.getfield 48, 3) := by decide +kernel
theorem dX11_bound_21 : decode cX11_bound 21 = .ok (.iconst 0, 1) := by decide +kernel
theorem dX11_bound_22 : decode cX11_bound 22 = .ok (.iaload, 1) := by decide +kernel
theorem dX11_bound_23 : decode cX11_bound 23 = .ok (.istore_n 2, 1) := by decide +kernel
theorem dX11_bound_24 : decode cX11_bound 24 = .ok (.aload_n 0, 1) := by decide +kernel
theorem dX11_bound_25 : decode cX11_bound 25 = .ok (.invokevirtual 251, 3) := by decide +kernel
theorem dX11_bound_28 : decode cX11_bound 28 = .ok (.aload_n 0, 1) := by decide +kernel
theorem dX11_bound_29 : decode cX11_bound 29 = .ok (.getfield 48, 3) := by decide +kernel
theorem dX11_bound_32 : decode cX11_bound 32 = .ok (.iconst 0, 1) := by decide +kernel
theorem dX11_bound_33 : decode cX11_bound 33 = .ok (.iload_n 1, 1) := by decide +kernel
theorem dX11_bound_34 : decode cX11_bound 34 = .ok (.iastore, 1) := by decide +kernel
theorem dX11_bound_35 : decode cX11_bound 35 = .ok (.iload_n 2, 1) := by decide +kernel
theorem dX11_bound_36 : decode cX11_bound 36 = .ok (.ireturn, 1) := by decide +kernel
/-- QuotientSumsModel.bound(I)I -/
def wX11_bound (thrown : Int32) (taped : Int32) (lines : Int32) (size : Int32) (atF : Int32) (place : Int32) (sort : Int32) (value : Int32) (fault : Int32) (faultPlace : Int32) (lastFault : Int32) (lastPlace : Int32) (undoable : Int32) (hasImage : Int32) (rowOf : Int32) (areSums : Int32) (isSieved : Int32) (blocks : Int32) (drawn : Int32) (sF : Nat → Int32) (kept : Nat → Int32) (a1 : Int32) (Q : (Int32) → (Int32) → (Int32) → (Int32) → (Nat → Int32) → (Nat → Int32) → Prop) : Prop :=
  (∃ (P_1 : (Int32) → Prop), wX11_within a1 1 200000 P_1 ∧ ∀ (rF_1 : Int32), P_1 rF_1 → ((¬ rF_1 = 0 → (∀ x2_1 : Int32, x2_1 = sF 0 → ∃ (P_2 : (Int32) → (Int32) → (Nat → Int32) → Prop), wX11_remembers 0 taped lines size atF place sort value fault faultPlace lastFault lastPlace undoable hasImage rowOf areSums isSieved blocks drawn kept sF P_2 ∧ ∀ (undoable_1 : Int32) (rowOf_1 : Int32) (kept_1 : Nat → Int32), P_2 undoable_1 rowOf_1 kept_1 → ∀ sF_1 : Nat → Int32, sF_1 = upd sF 0 a1 → (Q x2_1 0 undoable_1 rowOf_1 sF_1 kept_1))) ∧ (rF_1 = 0 → (Q (-1) 0 undoable rowOf sF kept))))
set_option maxHeartbeats 4000000 in
set_option maxRecDepth 100000 in
theorem mX11_bound (l : Launch) (D : va_G) (Y : Nat → ClassId) (h0 : Nat) (thrown : Int32) (v_tape : Value) (taped : Int32) (v_number : Value) (v_isTold : Value) (v_name : Value) (v_sortOf : Value) (v_first : Value) (v_second : Value) (v_degree : Value) (v_colours : Value) (v_signBy : Value) (v_own : Value) (lines : Int32) (size : Int32) (atF : Int32) (place : Int32) (sort : Int32) (value : Int32) (fault : Int32) (faultPlace : Int32) (lastFault : Int32) (lastPlace : Int32) (q_sF : Nat) (q_kept : Nat) (undoable : Int32) (hasImage : Int32) (v_power : Value) (v_table : Value) (v_marks : Value) (v_row : Value) (rowOf : Int32) (areSums : Int32) (isSieved : Int32) (v_lastOf : Value) (blocks : Int32) (v_inBlock : Value) (v_atQuotient : Value) (v_small : Value) (drawn : Int32) (sF : Nat → Int32) (kept : Nat → Int32) (a1 : Int32) (Q : (Int32) → (Int32) → (Int32) → (Int32) → (Nat → Int32) → (Nat → Int32) → Prop) (h : wX11_bound thrown taped lines size atF place sort value fault faultPlace lastFault lastPlace undoable hasImage rowOf areSums isSieved blocks drawn sF kept a1 Q) : gM l D Y yX11_bound cX11_bound 3 (some .int) 2 43 0 0 [.ref h0, .int a1] [oX11 h0 thrown (v_tape) taped (v_number) (v_isTold) (v_name) (v_sortOf) (v_first) (v_second) (v_degree) (v_colours) (v_signBy) (v_own) lines size atF place sort value fault faultPlace lastFault lastPlace (.ref q_sF) (.ref q_kept) undoable hasImage (v_power) (v_table) (v_marks) (v_row) rowOf areSums isSieved (v_lastOf) blocks (v_inBlock) (v_atQuotient) (v_small) drawn, aI Y q_sF 74 sF, aI Y q_kept 1554 kept] (fun v w => ∃ r : Int32, ∃ thrown' : Int32, ∃ undoable' : Int32, ∃ rowOf' : Int32, ∃ sF' : Nat → Int32, ∃ kept' : Nat → Int32, v = some (.int r) ∧ w = [oX11 h0 thrown' (v_tape) taped (v_number) (v_isTold) (v_name) (v_sortOf) (v_first) (v_second) (v_degree) (v_colours) (v_signBy) (v_own) lines size atF place sort value fault faultPlace lastFault lastPlace (.ref q_sF) (.ref q_kept) undoable' hasImage (v_power) (v_table) (v_marks) (v_row) rowOf' areSums isSieved (v_lastOf) blocks (v_inBlock) (v_atQuotient) (v_small) drawn, aI Y q_sF 74 sF', aI Y q_kept 1554 kept'] ∧ Q r thrown' undoable' rowOf' sF' kept') := by
  refine gM_of (own := RX11) (by decide +kernel) rfl (Nat.le_of_ble_eq_true rfl) rfl (fun E C hR => ?_)
  unfold wX11_bound at h
  refine g_aload_n C dX11_bound_0 0 rfl ?_
  refine g_iconst (v := 0) C dX11_bound_1 rfl ?_
  refine g_put C inX11 tyX11 tyX11_ok nmX11 0 rfl rfl 0 (by decide) wF_X11_89 rfl rfl rfl (Nat.le_of_ble_eq_true rfl) (ws' := [oX11 h0 0 (v_tape) taped (v_number) (v_isTold) (v_name) (v_sortOf) (v_first) (v_second) (v_degree) (v_colours) (v_signBy) (v_own) lines size atF place sort value fault faultPlace lastFault lastPlace (.ref q_sF) (.ref q_kept) undoable hasImage (v_power) (v_table) (v_marks) (v_row) rowOf areSums isSieved (v_lastOf) blocks (v_inBlock) (v_atQuotient) (v_small) drawn, aI Y q_sF 74 sF, aI Y q_kept 1554 kept]) rfl dX11_bound_2 ?_
  refine g_iload_n C dX11_bound_5 1 rfl ?_
  refine g_iconst (v := 1) C dX11_bound_6 rfl ?_
  refine g_ldc C dX11_bound_7 wK_X11_189 ?_
  obtain ⟨P_1, hP, h⟩ := h
  refine g_callS (As := [.int a1, .int 1, .int 200000]) (rest := []) C (mX11_within l D Y a1 1 200000 P_1 hP) dX11_bound_9 rfl wM_X11_247 wS_X11_within wN_X11 wC_X11_within (n := 3) (by decide +kernel) rfl ⟨Nat.le_of_ble_eq_true rfl, Nat.le_of_ble_eq_true rfl⟩ ⟨Nat.le_of_ble_eq_true rfl, Nat.le_of_ble_eq_true rfl⟩ (Nat.le_of_ble_eq_true rfl) [] [0, 1, 2] rfl rfl rfl (fun v wc hv => ?_)
  obtain ⟨rF_1, rfl, rfl, hq⟩ := hv
  replace h := h rF_1 hq
  refine gG.eqw (ws' := [oX11 h0 0 (v_tape) taped (v_number) (v_isTold) (v_name) (v_sortOf) (v_first) (v_second) (v_degree) (v_colours) (v_signBy) (v_own) lines size atF place sort value fault faultPlace lastFault lastPlace (.ref q_sF) (.ref q_kept) undoable hasImage (v_power) (v_table) (v_marks) (v_row) rowOf areSums isSieved (v_lastOf) blocks (v_inBlock) (v_atQuotient) (v_small) drawn, aI Y q_sF 74 sF, aI Y q_kept 1554 kept]) rfl ?_
  refine g_if_ne (tgt := 17) C dX11_bound_12 (by decide) (fun c_1 => ?_) (fun c_1 => ?_)
  · replace h := h.1 c_1
    refine g_aload_n C dX11_bound_17 0 rfl ?_
    refine g_get C inX11 0 rfl rfl 23 (by decide) wF_X11_48 rfl dX11_bound_18 ?_
    refine g_iconst (v := 0) C dX11_bound_21 rfl ?_
    refine g_iald C 1 rfl (by unfold vp_in; decide) dX11_bound_22 ?_
    refine g_topi (fun x2_1 ex2_1 => ?_)
    replace h := h x2_1 ex2_1
    refine g_istore_n (lv' := [(2, .int x2_1), (0, .ref h0), (1, .int a1)]) C dX11_bound_23 (by decide) rfl ?_
    refine g_aload_n C dX11_bound_24 1 rfl ?_
    obtain ⟨P_2, hP, h⟩ := h
    refine g_callV (As := []) (rest := []) C (mX11_remembers l D Y h0 0 v_tape taped v_number v_isTold v_name v_sortOf v_first v_second v_degree v_colours v_signBy v_own lines size atF place sort value fault faultPlace lastFault lastPlace q_sF q_kept undoable hasImage v_power v_table v_marks v_row rowOf areSums isSieved v_lastOf blocks v_inBlock v_atQuotient v_small drawn kept sF P_2 hP) dX11_bound_25 rfl wM_X11_251 wI_X11_remembers wV_X11_remembers wN_X11 wC_X11_remembers (n := 0) (by decide +kernel) rfl (q0 := 0) rfl rfl ⟨Nat.le_of_ble_eq_true rfl, Nat.le_of_ble_eq_true rfl⟩ ⟨Nat.le_of_ble_eq_true rfl, Nat.le_of_ble_eq_true rfl⟩ (Nat.le_of_ble_eq_true rfl) [0, 2, 1] [] rfl rfl rfl (fun v wc hv => ?_)
    obtain ⟨undoable_1, rowOf_1, kept_1, rfl, rfl, hq⟩ := hv
    replace h := h undoable_1 rowOf_1 kept_1 hq
    refine gG.perm (ws' := [oX11 h0 0 (v_tape) taped (v_number) (v_isTold) (v_name) (v_sortOf) (v_first) (v_second) (v_degree) (v_colours) (v_signBy) (v_own) lines size atF place sort value fault faultPlace lastFault lastPlace (.ref q_sF) (.ref q_kept) undoable_1 hasImage (v_power) (v_table) (v_marks) (v_row) rowOf_1 areSums isSieved (v_lastOf) blocks (v_inBlock) (v_atQuotient) (v_small) drawn, aI Y q_sF 74 sF, aI Y q_kept 1554 kept_1]) [0, 2, 1] rfl rfl ?_
    refine g_aload_n C dX11_bound_28 1 rfl ?_
    refine g_get C inX11 0 rfl rfl 23 (by decide) wF_X11_48 rfl dX11_bound_29 ?_
    refine g_iconst (v := 0) C dX11_bound_32 rfl ?_
    refine g_iload_n C dX11_bound_33 2 rfl ?_
    refine g_iast C 1 rfl (by unfold vp_in; decide) dX11_bound_34 (fun sF_1 esF_1 => gG.eqw (ws' := [oX11 h0 0 (v_tape) taped (v_number) (v_isTold) (v_name) (v_sortOf) (v_first) (v_second) (v_degree) (v_colours) (v_signBy) (v_own) lines size atF place sort value fault faultPlace lastFault lastPlace (.ref q_sF) (.ref q_kept) undoable_1 hasImage (v_power) (v_table) (v_marks) (v_row) rowOf_1 areSums isSieved (v_lastOf) blocks (v_inBlock) (v_atQuotient) (v_small) drawn, aI Y q_sF 74 sF_1, aI Y q_kept 1554 kept_1]) rfl ?_)
    replace h := h sF_1 esF_1
    refine g_iload_n C dX11_bound_35 0 rfl ?_
    exact g_iret C hR (Nat.le_of_ble_eq_true rfl) (Nat.le_of_ble_eq_true rfl) dX11_bound_36 ⟨x2_1, 0, undoable_1, rowOf_1, sF_1, kept_1, rfl, rfl, h⟩
  · replace h := h.2 c_1
    refine g_iconst (v := (-1)) C dX11_bound_15 rfl ?_
    exact g_iret C hR (Nat.le_of_ble_eq_true rfl) (Nat.le_of_ble_eq_true rfl) dX11_bound_16 ⟨(-1), 0, undoable, rowOf, sF, kept, rfl, rfl, h⟩
theorem dX11_modulus_0 : decode cX11_modulus 0 = .ok (.aload_n 0, 1) := by decide +kernel
theorem dX11_modulus_1 : decode cX11_modulus 1 = .ok (.iconst 0, 1) := by decide +kernel
theorem dX11_modulus_2 : decode cX11_modulus 2 = .ok (.putfield 89, 3) := by decide +kernel
theorem dX11_modulus_5 : decode cX11_modulus 5 = .ok (.iload_n 1, 1) := by decide +kernel
theorem dX11_modulus_6 : decode cX11_modulus 6 = .ok (.iconst 2, 1) := by decide +kernel
theorem dX11_modulus_7 : decode cX11_modulus 7 = .ok (.ldc 194, 2) := by decide +kernel
theorem dX11_modulus_9 : decode cX11_modulus 9 = .ok (.invokestatic 247, 3) := by decide +kernel
theorem dX11_modulus_12 : decode cX11_modulus 12 = .ok (.ifCond .ne 5, 3) := by decide +kernel
theorem dX11_modulus_15 : decode cX11_modulus 15 = .ok (.iconst (-1), 1) := by decide +kernel
theorem dX11_modulus_16 : decode cX11_modulus 16 = .ok (.ireturn, 1) := by decide +kernel
theorem dX11_modulus_17 : decode cX11_modulus 17 = .ok (.aload_n 0, 1) := by decide +kernel
theorem dX11_modulus_18 : decode cX11_modulus 18 = .ok (.getfield 48, 3) := by decide +kernel
theorem dX11_modulus_21 : decode cX11_modulus 21 = .ok (.iconst 1, 1) := by decide +kernel
theorem dX11_modulus_22 : decode cX11_modulus 22 = .ok (.iaload, 1) := by decide +kernel
theorem dX11_modulus_23 : decode cX11_modulus 23 = .ok (.istore_n 2, 1) := by decide +kernel
theorem dX11_modulus_24 : decode cX11_modulus 24 = .ok (.aload_n 0, 1) := by decide +kernel
theorem dX11_modulus_25 : decode cX11_modulus 25 = .ok (.invokevirtual 251, 3) := by decide +kernel
theorem dX11_modulus_28 : decode cX11_modulus 28 = .ok (.aload_n 0, 1) := by decide +kernel
theorem dX11_modulus_29 : decode cX11_modulus 29 = .ok (.getfield 48, 3) := by decide +kernel
theorem dX11_modulus_32 : decode cX11_modulus 32 = .ok (.iconst 1, 1) := by decide +kernel
theorem dX11_modulus_33 : decode cX11_modulus 33 = .ok (.iload_n 1, 1) := by decide +kernel
theorem dX11_modulus_34 : decode cX11_modulus 34 = .ok (.iastore, 1) := by decide +kernel
theorem dX11_modulus_35 : decode cX11_modulus 35 = .ok (.iload_n 2, 1) := by decide +kernel
theorem dX11_modulus_36 : decode cX11_modulus 36 = .ok (.ireturn, 1) := by decide +kernel
/-- QuotientSumsModel.modulus(I)I -/
def wX11_modulus (thrown : Int32) (taped : Int32) (lines : Int32) (size : Int32) (atF : Int32) (place : Int32) (sort : Int32) (value : Int32) (fault : Int32) (faultPlace : Int32) (lastFault : Int32) (lastPlace : Int32) (undoable : Int32) (hasImage : Int32) (rowOf : Int32) (areSums : Int32) (isSieved : Int32) (blocks : Int32) (drawn : Int32) (sF : Nat → Int32) (kept : Nat → Int32) (a1 : Int32) (Q : (Int32) → (Int32) → (Int32) → (Int32) → (Nat → Int32) → (Nat → Int32) → Prop) : Prop :=
  (∃ (P_1 : (Int32) → Prop), wX11_within a1 2 1000003 P_1 ∧ ∀ (rF_1 : Int32), P_1 rF_1 → ((¬ rF_1 = 0 → (∀ x2_1 : Int32, x2_1 = sF 1 → ∃ (P_2 : (Int32) → (Int32) → (Nat → Int32) → Prop), wX11_remembers 0 taped lines size atF place sort value fault faultPlace lastFault lastPlace undoable hasImage rowOf areSums isSieved blocks drawn kept sF P_2 ∧ ∀ (undoable_1 : Int32) (rowOf_1 : Int32) (kept_1 : Nat → Int32), P_2 undoable_1 rowOf_1 kept_1 → ∀ sF_1 : Nat → Int32, sF_1 = upd sF 1 a1 → (Q x2_1 0 undoable_1 rowOf_1 sF_1 kept_1))) ∧ (rF_1 = 0 → (Q (-1) 0 undoable rowOf sF kept))))
set_option maxHeartbeats 4000000 in
set_option maxRecDepth 100000 in
theorem mX11_modulus (l : Launch) (D : va_G) (Y : Nat → ClassId) (h0 : Nat) (thrown : Int32) (v_tape : Value) (taped : Int32) (v_number : Value) (v_isTold : Value) (v_name : Value) (v_sortOf : Value) (v_first : Value) (v_second : Value) (v_degree : Value) (v_colours : Value) (v_signBy : Value) (v_own : Value) (lines : Int32) (size : Int32) (atF : Int32) (place : Int32) (sort : Int32) (value : Int32) (fault : Int32) (faultPlace : Int32) (lastFault : Int32) (lastPlace : Int32) (q_sF : Nat) (q_kept : Nat) (undoable : Int32) (hasImage : Int32) (v_power : Value) (v_table : Value) (v_marks : Value) (v_row : Value) (rowOf : Int32) (areSums : Int32) (isSieved : Int32) (v_lastOf : Value) (blocks : Int32) (v_inBlock : Value) (v_atQuotient : Value) (v_small : Value) (drawn : Int32) (sF : Nat → Int32) (kept : Nat → Int32) (a1 : Int32) (Q : (Int32) → (Int32) → (Int32) → (Int32) → (Nat → Int32) → (Nat → Int32) → Prop) (h : wX11_modulus thrown taped lines size atF place sort value fault faultPlace lastFault lastPlace undoable hasImage rowOf areSums isSieved blocks drawn sF kept a1 Q) : gM l D Y yX11_modulus cX11_modulus 3 (some .int) 2 43 0 0 [.ref h0, .int a1] [oX11 h0 thrown (v_tape) taped (v_number) (v_isTold) (v_name) (v_sortOf) (v_first) (v_second) (v_degree) (v_colours) (v_signBy) (v_own) lines size atF place sort value fault faultPlace lastFault lastPlace (.ref q_sF) (.ref q_kept) undoable hasImage (v_power) (v_table) (v_marks) (v_row) rowOf areSums isSieved (v_lastOf) blocks (v_inBlock) (v_atQuotient) (v_small) drawn, aI Y q_sF 74 sF, aI Y q_kept 1554 kept] (fun v w => ∃ r : Int32, ∃ thrown' : Int32, ∃ undoable' : Int32, ∃ rowOf' : Int32, ∃ sF' : Nat → Int32, ∃ kept' : Nat → Int32, v = some (.int r) ∧ w = [oX11 h0 thrown' (v_tape) taped (v_number) (v_isTold) (v_name) (v_sortOf) (v_first) (v_second) (v_degree) (v_colours) (v_signBy) (v_own) lines size atF place sort value fault faultPlace lastFault lastPlace (.ref q_sF) (.ref q_kept) undoable' hasImage (v_power) (v_table) (v_marks) (v_row) rowOf' areSums isSieved (v_lastOf) blocks (v_inBlock) (v_atQuotient) (v_small) drawn, aI Y q_sF 74 sF', aI Y q_kept 1554 kept'] ∧ Q r thrown' undoable' rowOf' sF' kept') := by
  refine gM_of (own := RX11) (by decide +kernel) rfl (Nat.le_of_ble_eq_true rfl) rfl (fun E C hR => ?_)
  unfold wX11_modulus at h
  refine g_aload_n C dX11_modulus_0 0 rfl ?_
  refine g_iconst (v := 0) C dX11_modulus_1 rfl ?_
  refine g_put C inX11 tyX11 tyX11_ok nmX11 0 rfl rfl 0 (by decide) wF_X11_89 rfl rfl rfl (Nat.le_of_ble_eq_true rfl) (ws' := [oX11 h0 0 (v_tape) taped (v_number) (v_isTold) (v_name) (v_sortOf) (v_first) (v_second) (v_degree) (v_colours) (v_signBy) (v_own) lines size atF place sort value fault faultPlace lastFault lastPlace (.ref q_sF) (.ref q_kept) undoable hasImage (v_power) (v_table) (v_marks) (v_row) rowOf areSums isSieved (v_lastOf) blocks (v_inBlock) (v_atQuotient) (v_small) drawn, aI Y q_sF 74 sF, aI Y q_kept 1554 kept]) rfl dX11_modulus_2 ?_
  refine g_iload_n C dX11_modulus_5 1 rfl ?_
  refine g_iconst (v := 2) C dX11_modulus_6 rfl ?_
  refine g_ldc C dX11_modulus_7 wK_X11_194 ?_
  obtain ⟨P_1, hP, h⟩ := h
  refine g_callS (As := [.int a1, .int 2, .int 1000003]) (rest := []) C (mX11_within l D Y a1 2 1000003 P_1 hP) dX11_modulus_9 rfl wM_X11_247 wS_X11_within wN_X11 wC_X11_within (n := 3) (by decide +kernel) rfl ⟨Nat.le_of_ble_eq_true rfl, Nat.le_of_ble_eq_true rfl⟩ ⟨Nat.le_of_ble_eq_true rfl, Nat.le_of_ble_eq_true rfl⟩ (Nat.le_of_ble_eq_true rfl) [] [0, 1, 2] rfl rfl rfl (fun v wc hv => ?_)
  obtain ⟨rF_1, rfl, rfl, hq⟩ := hv
  replace h := h rF_1 hq
  refine gG.eqw (ws' := [oX11 h0 0 (v_tape) taped (v_number) (v_isTold) (v_name) (v_sortOf) (v_first) (v_second) (v_degree) (v_colours) (v_signBy) (v_own) lines size atF place sort value fault faultPlace lastFault lastPlace (.ref q_sF) (.ref q_kept) undoable hasImage (v_power) (v_table) (v_marks) (v_row) rowOf areSums isSieved (v_lastOf) blocks (v_inBlock) (v_atQuotient) (v_small) drawn, aI Y q_sF 74 sF, aI Y q_kept 1554 kept]) rfl ?_
  refine g_if_ne (tgt := 17) C dX11_modulus_12 (by decide) (fun c_1 => ?_) (fun c_1 => ?_)
  · replace h := h.1 c_1
    refine g_aload_n C dX11_modulus_17 0 rfl ?_
    refine g_get C inX11 0 rfl rfl 23 (by decide) wF_X11_48 rfl dX11_modulus_18 ?_
    refine g_iconst (v := 1) C dX11_modulus_21 rfl ?_
    refine g_iald C 1 rfl (by unfold vp_in; decide) dX11_modulus_22 ?_
    refine g_topi (fun x2_1 ex2_1 => ?_)
    replace h := h x2_1 ex2_1
    refine g_istore_n (lv' := [(2, .int x2_1), (0, .ref h0), (1, .int a1)]) C dX11_modulus_23 (by decide) rfl ?_
    refine g_aload_n C dX11_modulus_24 1 rfl ?_
    obtain ⟨P_2, hP, h⟩ := h
    refine g_callV (As := []) (rest := []) C (mX11_remembers l D Y h0 0 v_tape taped v_number v_isTold v_name v_sortOf v_first v_second v_degree v_colours v_signBy v_own lines size atF place sort value fault faultPlace lastFault lastPlace q_sF q_kept undoable hasImage v_power v_table v_marks v_row rowOf areSums isSieved v_lastOf blocks v_inBlock v_atQuotient v_small drawn kept sF P_2 hP) dX11_modulus_25 rfl wM_X11_251 wI_X11_remembers wV_X11_remembers wN_X11 wC_X11_remembers (n := 0) (by decide +kernel) rfl (q0 := 0) rfl rfl ⟨Nat.le_of_ble_eq_true rfl, Nat.le_of_ble_eq_true rfl⟩ ⟨Nat.le_of_ble_eq_true rfl, Nat.le_of_ble_eq_true rfl⟩ (Nat.le_of_ble_eq_true rfl) [0, 2, 1] [] rfl rfl rfl (fun v wc hv => ?_)
    obtain ⟨undoable_1, rowOf_1, kept_1, rfl, rfl, hq⟩ := hv
    replace h := h undoable_1 rowOf_1 kept_1 hq
    refine gG.perm (ws' := [oX11 h0 0 (v_tape) taped (v_number) (v_isTold) (v_name) (v_sortOf) (v_first) (v_second) (v_degree) (v_colours) (v_signBy) (v_own) lines size atF place sort value fault faultPlace lastFault lastPlace (.ref q_sF) (.ref q_kept) undoable_1 hasImage (v_power) (v_table) (v_marks) (v_row) rowOf_1 areSums isSieved (v_lastOf) blocks (v_inBlock) (v_atQuotient) (v_small) drawn, aI Y q_sF 74 sF, aI Y q_kept 1554 kept_1]) [0, 2, 1] rfl rfl ?_
    refine g_aload_n C dX11_modulus_28 1 rfl ?_
    refine g_get C inX11 0 rfl rfl 23 (by decide) wF_X11_48 rfl dX11_modulus_29 ?_
    refine g_iconst (v := 1) C dX11_modulus_32 rfl ?_
    refine g_iload_n C dX11_modulus_33 2 rfl ?_
    refine g_iast C 1 rfl (by unfold vp_in; decide) dX11_modulus_34 (fun sF_1 esF_1 => gG.eqw (ws' := [oX11 h0 0 (v_tape) taped (v_number) (v_isTold) (v_name) (v_sortOf) (v_first) (v_second) (v_degree) (v_colours) (v_signBy) (v_own) lines size atF place sort value fault faultPlace lastFault lastPlace (.ref q_sF) (.ref q_kept) undoable_1 hasImage (v_power) (v_table) (v_marks) (v_row) rowOf_1 areSums isSieved (v_lastOf) blocks (v_inBlock) (v_atQuotient) (v_small) drawn, aI Y q_sF 74 sF_1, aI Y q_kept 1554 kept_1]) rfl ?_)
    replace h := h sF_1 esF_1
    refine g_iload_n C dX11_modulus_35 0 rfl ?_
    exact g_iret C hR (Nat.le_of_ble_eq_true rfl) (Nat.le_of_ble_eq_true rfl) dX11_modulus_36 ⟨x2_1, 0, undoable_1, rowOf_1, sF_1, kept_1, rfl, rfl, h⟩
  · replace h := h.2 c_1
    refine g_iconst (v := (-1)) C dX11_modulus_15 rfl ?_
    exact g_iret C hR (Nat.le_of_ble_eq_true rfl) (Nat.le_of_ble_eq_true rfl) dX11_modulus_16 ⟨(-1), 0, undoable, rowOf, sF, kept, rfl, rfl, h⟩
theorem dX11_set_0 : decode cX11_set 0 = .ok (.aload_n 0, 1) := by decide +kernel
theorem dX11_set_1 : decode cX11_set 1 = .ok (.iconst 0, 1) := by decide +kernel
theorem dX11_set_2 : decode cX11_set 2 = .ok (.putfield 89, 3) := by decide +kernel
theorem dX11_set_5 : decode cX11_set 5 = .ok (.aload_n 0, 1) := by decide +kernel
theorem dX11_set_6 : decode cX11_set 6 = .ok (.iload_n 1, 1) := by decide +kernel
theorem dX11_set_7 : decode cX11_set 7 = .ok (.invokevirtual 244, 3) := by decide +kernel
theorem dX11_set_10 : decode cX11_set 10 = .ok (.ifCond .eq 40, 3) := by decide +kernel
theorem dX11_set_13 : decode cX11_set 13 = .ok (.iload_n 2, 1) := by decide +kernel
theorem dX11_set_14 : decode cX11_set 14 = .ok (.iconst 1, 1) := by decide +kernel
theorem dX11_set_15 : decode cX11_set 15 = .ok (.bipush 6, 2) := by decide +kernel
theorem dX11_set_17 : decode cX11_set 17 = .ok (.invokestatic 247, 3) := by decide +kernel
theorem dX11_set_20 : decode cX11_set 20 = .ok (.ifCond .eq 30, 3) := by decide +kernel
theorem dX11_set_23 : decode cX11_set 23 = .ok (.iload_n 3, 1) := by decide +kernel
theorem dX11_set_24 : decode cX11_set 24 = .ok (.sipush (-999), 3) := by decide +kernel
theorem dX11_set_27 : decode cX11_set 27 = .ok (.sipush 999, 3) := by decide +kernel
theorem dX11_set_30 : decode cX11_set 30 = .ok (.invokestatic 247, 3) := by decide +kernel
theorem dX11_set_33 : decode cX11_set 33 = .ok (.ifCond .eq 17, 3) := by decide +kernel
theorem dX11_set_36 : decode cX11_set 36 = .ok (.iload 4, 2) := by decide +kernel
theorem dX11_set_38 : decode cX11_set 38 = .ok (.sipush (-999), 3) := by decide +kernel
theorem dX11_set_41 : decode cX11_set 41 = .ok (.sipush 999, 3) := by decide +kernel
theorem dX11_set_44 : decode cX11_set 44 = .ok (.invokestatic 247, 3) := by decide +kernel
theorem dX11_set_47 : decode cX11_set 47 = .ok (.ifCond .ne 5, 3) := by decide +kernel
theorem dX11_set_50 : decode cX11_set 50 = .ok (.iconst 0, 1) := by decide +kernel
theorem dX11_set_51 : decode cX11_set 51 = .ok (.ireturn, 1) := by decide +kernel
theorem dX11_set_52 : decode cX11_set 52 = .ok (.aload_n 0, 1) := by decide +kernel
theorem dX11_set_53 : decode cX11_set 53 = .ok (.invokevirtual 251, 3) := by decide +kernel
theorem dX11_set_56 : decode cX11_set 56 = .ok (.aload_n 0, 1) := by decide +kernel
theorem dX11_set_57 : decode cX11_set 57 = .ok (.getfield 48, 3) := by decide +kernel
theorem dX11_set_60 : decode cX11_set 60 = .ok (.iconst 2, 1) := by decide +kernel
theorem dX11_set_61 : decode cX11_set 61 = .ok (.bipush 12, 2) := by decide +kernel
theorem dX11_set_63 : decode cX11_set 63 = .ok (.iload_n 1, 1) := by decide +kernel
theorem dX11_set_64 : decode cX11_set 64 = .ok (.bipush 6, 2) := by decide +kernel
theorem dX11_set_66 : decode cX11_set 66 = .ok (.isub, 1) := by decide +kernel
theorem dX11_set_67 : decode cX11_set 67 = .ok (.imul, 1) := by decide +kernel
theorem dX11_set_68 : decode cX11_set 68 = .ok (.iadd, 1) := by decide +kernel
theorem dX11_set_69 : decode cX11_set 69 = .ok (.iconst 2, 1) := by decide +kernel
theorem dX11_set_70 : decode cX11_set 70 = .ok (.iload_n 2, 1) := by decide +kernel
theorem dX11_set_71 : decode cX11_set 71 = .ok (.imul, 1) := by decide +kernel
theorem dX11_set_72 : decode cX11_set 72 = .ok (.iadd, 1) := by decide +kernel
theorem dX11_set_73 : decode cX11_set 73 = .ok (.iconst 2, 1) := by decide +kernel
theorem dX11_set_74 : decode cX11_set 74 = .ok (.isub, 1) := by decide +kernel
theorem dX11_set_75 : decode cX11_set 75 = .ok (.iload_n 3, 1) := by decide +kernel
theorem dX11_set_76 : decode cX11_set 76 = .ok (.iastore, 1) := by decide +kernel
theorem dX11_set_77 : decode cX11_set 77 = .ok (.aload_n 0, 1) := by decide +kernel
theorem dX11_set_78 : decode cX11_set 78 = .ok (.getfield 48, 3) := by decide +kernel
theorem dX11_set_81 : decode cX11_set 81 = .ok (.iconst 2, 1) := by decide +kernel
theorem dX11_set_82 : decode cX11_set 82 = .ok (.bipush 12, 2) := by decide +kernel
theorem dX11_set_84 : decode cX11_set 84 = .ok (.iload_n 1, 1) := by decide +kernel
theorem dX11_set_85 : decode cX11_set 85 = .ok (.bipush 6, 2) := by decide +kernel
theorem dX11_set_87 : decode cX11_set 87 = .ok (.isub, 1) := by decide +kernel
theorem dX11_set_88 : decode cX11_set 88 = .ok (.imul, 1) := by decide +kernel
theorem dX11_set_89 : decode cX11_set 89 = .ok (.iadd, 1) := by decide +kernel
theorem dX11_set_90 : decode cX11_set 90 = .ok (.iconst 2, 1) := by decide +kernel
theorem dX11_set_91 : decode cX11_set 91 = .ok (.iload_n 2, 1) := by decide +kernel
theorem dX11_set_92 : decode cX11_set 92 = .ok (.imul, 1) := by decide +kernel
theorem dX11_set_93 : decode cX11_set 93 = .ok (.iadd, 1) := by decide +kernel
theorem dX11_set_94 : decode cX11_set 94 = .ok (.iconst 1, 1) := by decide +kernel
theorem dX11_set_95 : decode cX11_set 95 = .ok (.isub, 1) := by decide +kernel
theorem dX11_set_96 : decode cX11_set 96 = .ok (.iload 4, 2) := by decide +kernel
theorem dX11_set_98 : decode cX11_set 98 = .ok (.iastore, 1) := by decide +kernel
theorem dX11_set_99 : decode cX11_set 99 = .ok (.iconst 1, 1) := by decide +kernel
theorem dX11_set_100 : decode cX11_set 100 = .ok (.ireturn, 1) := by decide +kernel
/-- QuotientSumsModel.set(IIII)Z -/
def wX11_set (thrown : Int32) (taped : Int32) (lines : Int32) (size : Int32) (atF : Int32) (place : Int32) (sort : Int32) (value : Int32) (fault : Int32) (faultPlace : Int32) (lastFault : Int32) (lastPlace : Int32) (undoable : Int32) (hasImage : Int32) (rowOf : Int32) (areSums : Int32) (isSieved : Int32) (blocks : Int32) (drawn : Int32) (number : Nat → Int32) (sortOf : Nat → Int32) (kept : Nat → Int32) (sF : Nat → Int32) (a1 : Int32) (a2 : Int32) (a3 : Int32) (a4 : Int32) (Q : (Int32) → (Int32) → (Int32) → (Int32) → (Nat → Int32) → (Nat → Int32) → Prop) : Prop :=
  (∃ (P_1 : (Int32) → Prop), wX11_isOwn 0 taped lines size atF place sort value fault faultPlace lastFault lastPlace undoable hasImage rowOf areSums isSieved blocks drawn number sortOf a1 P_1 ∧ ∀ (rF_1 : Int32), P_1 rF_1 → ((rF_1 = 0 → (Q 0 0 undoable rowOf kept sF)) ∧ (¬ rF_1 = 0 → (∃ (P_2 : (Int32) → Prop), wX11_within a2 1 6 P_2 ∧ ∀ (rF_2 : Int32), P_2 rF_2 → ((rF_2 = 0 → (Q 0 0 undoable rowOf kept sF)) ∧ (¬ rF_2 = 0 → (∃ (P_3 : (Int32) → Prop), wX11_within a3 (-999) 999 P_3 ∧ ∀ (rF_3 : Int32), P_3 rF_3 → ((rF_3 = 0 → (Q 0 0 undoable rowOf kept sF)) ∧ (¬ rF_3 = 0 → (∃ (P_4 : (Int32) → Prop), wX11_within a4 (-999) 999 P_4 ∧ ∀ (rF_4 : Int32), P_4 rF_4 → ((¬ rF_4 = 0 → (∃ (P_5 : (Int32) → (Int32) → (Nat → Int32) → Prop), wX11_remembers 0 taped lines size atF place sort value fault faultPlace lastFault lastPlace undoable hasImage rowOf areSums isSieved blocks drawn kept sF P_5 ∧ ∀ (undoable_1 : Int32) (rowOf_1 : Int32) (kept_1 : Nat → Int32), P_5 undoable_1 rowOf_1 kept_1 → vp_in (((2 + (12 * (a1 - 6))) + (2 * a2)) - 2) 74 ∧ ∀ sF_1 : Nat → Int32, sF_1 = upd sF (((2 + (12 * (a1 - 6))) + (2 * a2)) - 2).toNatClampNeg a3 → vp_in (((2 + (12 * (a1 - 6))) + (2 * a2)) - 1) 74 ∧ ∀ sF_2 : Nat → Int32, sF_2 = upd sF_1 (((2 + (12 * (a1 - 6))) + (2 * a2)) - 1).toNatClampNeg a4 → (Q 1 0 undoable_1 rowOf_1 kept_1 sF_2))) ∧ (rF_4 = 0 → (Q 0 0 undoable rowOf kept sF)))))))))))))
set_option maxHeartbeats 4000000 in
set_option maxRecDepth 100000 in
theorem mX11_set (l : Launch) (D : va_G) (Y : Nat → ClassId) (h0 : Nat) (thrown : Int32) (v_tape : Value) (taped : Int32) (q_number : Nat) (v_isTold : Value) (v_name : Value) (q_sortOf : Nat) (v_first : Value) (v_second : Value) (v_degree : Value) (v_colours : Value) (v_signBy : Value) (v_own : Value) (lines : Int32) (size : Int32) (atF : Int32) (place : Int32) (sort : Int32) (value : Int32) (fault : Int32) (faultPlace : Int32) (lastFault : Int32) (lastPlace : Int32) (q_sF : Nat) (q_kept : Nat) (undoable : Int32) (hasImage : Int32) (v_power : Value) (v_table : Value) (v_marks : Value) (v_row : Value) (rowOf : Int32) (areSums : Int32) (isSieved : Int32) (v_lastOf : Value) (blocks : Int32) (v_inBlock : Value) (v_atQuotient : Value) (v_small : Value) (drawn : Int32) (number : Nat → Int32) (sortOf : Nat → Int32) (kept : Nat → Int32) (sF : Nat → Int32) (a1 : Int32) (a2 : Int32) (a3 : Int32) (a4 : Int32) (Q : (Int32) → (Int32) → (Int32) → (Int32) → (Nat → Int32) → (Nat → Int32) → Prop) (h : wX11_set thrown taped lines size atF place sort value fault faultPlace lastFault lastPlace undoable hasImage rowOf areSums isSieved blocks drawn number sortOf kept sF a1 a2 a3 a4 Q) : gM l D Y yX11_set cX11_set 5 (some .boolean) 3 62 0 0 [.ref h0, .int a1, .int a2, .int a3, .int a4] [oX11 h0 thrown (v_tape) taped (.ref q_number) (v_isTold) (v_name) (.ref q_sortOf) (v_first) (v_second) (v_degree) (v_colours) (v_signBy) (v_own) lines size atF place sort value fault faultPlace lastFault lastPlace (.ref q_sF) (.ref q_kept) undoable hasImage (v_power) (v_table) (v_marks) (v_row) rowOf areSums isSieved (v_lastOf) blocks (v_inBlock) (v_atQuotient) (v_small) drawn, aI Y q_number 8 number, aI Y q_sortOf 24 sortOf, aI Y q_kept 1554 kept, aI Y q_sF 74 sF] (fun v w => ∃ r : Int32, ∃ thrown' : Int32, ∃ undoable' : Int32, ∃ rowOf' : Int32, ∃ kept' : Nat → Int32, ∃ sF' : Nat → Int32, v = some (.int r) ∧ w = [oX11 h0 thrown' (v_tape) taped (.ref q_number) (v_isTold) (v_name) (.ref q_sortOf) (v_first) (v_second) (v_degree) (v_colours) (v_signBy) (v_own) lines size atF place sort value fault faultPlace lastFault lastPlace (.ref q_sF) (.ref q_kept) undoable' hasImage (v_power) (v_table) (v_marks) (v_row) rowOf' areSums isSieved (v_lastOf) blocks (v_inBlock) (v_atQuotient) (v_small) drawn, aI Y q_number 8 number, aI Y q_sortOf 24 sortOf, aI Y q_kept 1554 kept', aI Y q_sF 74 sF'] ∧ Q r thrown' undoable' rowOf' kept' sF') := by
  refine gM_of (own := RX11) (by decide +kernel) rfl (Nat.le_of_ble_eq_true rfl) rfl (fun E C hR => ?_)
  unfold wX11_set at h
  refine g_aload_n C dX11_set_0 0 rfl ?_
  refine g_iconst (v := 0) C dX11_set_1 rfl ?_
  refine g_put C inX11 tyX11 tyX11_ok nmX11 0 rfl rfl 0 (by decide) wF_X11_89 rfl rfl rfl (Nat.le_of_ble_eq_true rfl) (ws' := [oX11 h0 0 (v_tape) taped (.ref q_number) (v_isTold) (v_name) (.ref q_sortOf) (v_first) (v_second) (v_degree) (v_colours) (v_signBy) (v_own) lines size atF place sort value fault faultPlace lastFault lastPlace (.ref q_sF) (.ref q_kept) undoable hasImage (v_power) (v_table) (v_marks) (v_row) rowOf areSums isSieved (v_lastOf) blocks (v_inBlock) (v_atQuotient) (v_small) drawn, aI Y q_number 8 number, aI Y q_sortOf 24 sortOf, aI Y q_kept 1554 kept, aI Y q_sF 74 sF]) rfl dX11_set_2 ?_
  refine g_aload_n C dX11_set_5 0 rfl ?_
  refine g_iload_n C dX11_set_6 1 rfl ?_
  obtain ⟨P_1, hP, h⟩ := h
  refine g_callV (As := [.int a1]) (rest := []) C (mX11_isOwn l D Y h0 0 v_tape taped q_number v_isTold v_name q_sortOf v_first v_second v_degree v_colours v_signBy v_own lines size atF place sort value fault faultPlace lastFault lastPlace (.ref q_sF) (.ref q_kept) undoable hasImage v_power v_table v_marks v_row rowOf areSums isSieved v_lastOf blocks v_inBlock v_atQuotient v_small drawn number sortOf a1 P_1 hP) dX11_set_7 rfl wM_X11_244 wI_X11_isOwn wV_X11_isOwn wN_X11 wC_X11_isOwn (n := 1) (by decide +kernel) rfl (q0 := 0) rfl rfl ⟨Nat.le_of_ble_eq_true rfl, Nat.le_of_ble_eq_true rfl⟩ ⟨Nat.le_of_ble_eq_true rfl, Nat.le_of_ble_eq_true rfl⟩ (Nat.le_of_ble_eq_true rfl) [0, 1, 2] [3, 4] rfl rfl rfl (fun v wc hv => ?_)
  obtain ⟨rF_1, rfl, rfl, hq⟩ := hv
  replace h := h rF_1 hq
  refine gG.perm (ws' := [oX11 h0 0 (v_tape) taped (.ref q_number) (v_isTold) (v_name) (.ref q_sortOf) (v_first) (v_second) (v_degree) (v_colours) (v_signBy) (v_own) lines size atF place sort value fault faultPlace lastFault lastPlace (.ref q_sF) (.ref q_kept) undoable hasImage (v_power) (v_table) (v_marks) (v_row) rowOf areSums isSieved (v_lastOf) blocks (v_inBlock) (v_atQuotient) (v_small) drawn, aI Y q_number 8 number, aI Y q_sortOf 24 sortOf, aI Y q_kept 1554 kept, aI Y q_sF 74 sF]) [2, 3, 4, 0, 1] rfl rfl ?_
  refine g_if_eq (tgt := 50) C dX11_set_10 (by decide) (fun c_1 => ?_) (fun c_1 => ?_)
  · replace h := h.1 c_1
    refine g_iconst (v := 0) C dX11_set_50 rfl ?_
    exact g_zret C hR (by decide) (Nat.le_of_ble_eq_true rfl) (Nat.le_of_ble_eq_true rfl) dX11_set_51 ⟨0, 0, undoable, rowOf, kept, sF, rfl, rfl, h⟩
  · replace h := h.2 c_1
    refine g_iload_n C dX11_set_13 2 rfl ?_
    refine g_iconst (v := 1) C dX11_set_14 rfl ?_
    refine g_bipush (v := 6) C dX11_set_15 rfl ?_
    obtain ⟨P_2, hP, h⟩ := h
    refine g_callS (As := [.int a2, .int 1, .int 6]) (rest := []) C (mX11_within l D Y a2 1 6 P_2 hP) dX11_set_17 rfl wM_X11_247 wS_X11_within wN_X11 wC_X11_within (n := 3) (by decide +kernel) rfl ⟨Nat.le_of_ble_eq_true rfl, Nat.le_of_ble_eq_true rfl⟩ ⟨Nat.le_of_ble_eq_true rfl, Nat.le_of_ble_eq_true rfl⟩ (Nat.le_of_ble_eq_true rfl) [] [0, 1, 2, 3, 4] rfl rfl rfl (fun v wc hv => ?_)
    obtain ⟨rF_2, rfl, rfl, hq⟩ := hv
    replace h := h rF_2 hq
    refine gG.eqw (ws' := [oX11 h0 0 (v_tape) taped (.ref q_number) (v_isTold) (v_name) (.ref q_sortOf) (v_first) (v_second) (v_degree) (v_colours) (v_signBy) (v_own) lines size atF place sort value fault faultPlace lastFault lastPlace (.ref q_sF) (.ref q_kept) undoable hasImage (v_power) (v_table) (v_marks) (v_row) rowOf areSums isSieved (v_lastOf) blocks (v_inBlock) (v_atQuotient) (v_small) drawn, aI Y q_number 8 number, aI Y q_sortOf 24 sortOf, aI Y q_kept 1554 kept, aI Y q_sF 74 sF]) rfl ?_
    refine g_if_eq (tgt := 50) C dX11_set_20 (by decide) (fun c_2 => ?_) (fun c_2 => ?_)
    · replace h := h.1 c_2
      refine g_iconst (v := 0) C dX11_set_50 rfl ?_
      exact g_zret C hR (by decide) (Nat.le_of_ble_eq_true rfl) (Nat.le_of_ble_eq_true rfl) dX11_set_51 ⟨0, 0, undoable, rowOf, kept, sF, rfl, rfl, h⟩
    · replace h := h.2 c_2
      refine g_iload_n C dX11_set_23 3 rfl ?_
      refine g_sipush (v := (-999)) C dX11_set_24 rfl ?_
      refine g_sipush (v := 999) C dX11_set_27 rfl ?_
      obtain ⟨P_3, hP, h⟩ := h
      refine g_callS (As := [.int a3, .int (-999), .int 999]) (rest := []) C (mX11_within l D Y a3 (-999) 999 P_3 hP) dX11_set_30 rfl wM_X11_247 wS_X11_within wN_X11 wC_X11_within (n := 3) (by decide +kernel) rfl ⟨Nat.le_of_ble_eq_true rfl, Nat.le_of_ble_eq_true rfl⟩ ⟨Nat.le_of_ble_eq_true rfl, Nat.le_of_ble_eq_true rfl⟩ (Nat.le_of_ble_eq_true rfl) [] [0, 1, 2, 3, 4] rfl rfl rfl (fun v wc hv => ?_)
      obtain ⟨rF_3, rfl, rfl, hq⟩ := hv
      replace h := h rF_3 hq
      refine gG.eqw (ws' := [oX11 h0 0 (v_tape) taped (.ref q_number) (v_isTold) (v_name) (.ref q_sortOf) (v_first) (v_second) (v_degree) (v_colours) (v_signBy) (v_own) lines size atF place sort value fault faultPlace lastFault lastPlace (.ref q_sF) (.ref q_kept) undoable hasImage (v_power) (v_table) (v_marks) (v_row) rowOf areSums isSieved (v_lastOf) blocks (v_inBlock) (v_atQuotient) (v_small) drawn, aI Y q_number 8 number, aI Y q_sortOf 24 sortOf, aI Y q_kept 1554 kept, aI Y q_sF 74 sF]) rfl ?_
      refine g_if_eq (tgt := 50) C dX11_set_33 (by decide) (fun c_3 => ?_) (fun c_3 => ?_)
      · replace h := h.1 c_3
        refine g_iconst (v := 0) C dX11_set_50 rfl ?_
        exact g_zret C hR (by decide) (Nat.le_of_ble_eq_true rfl) (Nat.le_of_ble_eq_true rfl) dX11_set_51 ⟨0, 0, undoable, rowOf, kept, sF, rfl, rfl, h⟩
      · replace h := h.2 c_3
        refine g_iload C dX11_set_36 4 rfl ?_
        refine g_sipush (v := (-999)) C dX11_set_38 rfl ?_
        refine g_sipush (v := 999) C dX11_set_41 rfl ?_
        obtain ⟨P_4, hP, h⟩ := h
        refine g_callS (As := [.int a4, .int (-999), .int 999]) (rest := []) C (mX11_within l D Y a4 (-999) 999 P_4 hP) dX11_set_44 rfl wM_X11_247 wS_X11_within wN_X11 wC_X11_within (n := 3) (by decide +kernel) rfl ⟨Nat.le_of_ble_eq_true rfl, Nat.le_of_ble_eq_true rfl⟩ ⟨Nat.le_of_ble_eq_true rfl, Nat.le_of_ble_eq_true rfl⟩ (Nat.le_of_ble_eq_true rfl) [] [0, 1, 2, 3, 4] rfl rfl rfl (fun v wc hv => ?_)
        obtain ⟨rF_4, rfl, rfl, hq⟩ := hv
        replace h := h rF_4 hq
        refine gG.eqw (ws' := [oX11 h0 0 (v_tape) taped (.ref q_number) (v_isTold) (v_name) (.ref q_sortOf) (v_first) (v_second) (v_degree) (v_colours) (v_signBy) (v_own) lines size atF place sort value fault faultPlace lastFault lastPlace (.ref q_sF) (.ref q_kept) undoable hasImage (v_power) (v_table) (v_marks) (v_row) rowOf areSums isSieved (v_lastOf) blocks (v_inBlock) (v_atQuotient) (v_small) drawn, aI Y q_number 8 number, aI Y q_sortOf 24 sortOf, aI Y q_kept 1554 kept, aI Y q_sF 74 sF]) rfl ?_
        refine g_if_ne (tgt := 52) C dX11_set_47 (by decide) (fun c_4 => ?_) (fun c_4 => ?_)
        · replace h := h.1 c_4
          refine g_aload_n C dX11_set_52 0 rfl ?_
          obtain ⟨P_5, hP, h⟩ := h
          refine g_callV (As := []) (rest := []) C (mX11_remembers l D Y h0 0 v_tape taped (.ref q_number) v_isTold v_name (.ref q_sortOf) v_first v_second v_degree v_colours v_signBy v_own lines size atF place sort value fault faultPlace lastFault lastPlace q_sF q_kept undoable hasImage v_power v_table v_marks v_row rowOf areSums isSieved v_lastOf blocks v_inBlock v_atQuotient v_small drawn kept sF P_5 hP) dX11_set_53 rfl wM_X11_251 wI_X11_remembers wV_X11_remembers wN_X11 wC_X11_remembers (n := 0) (by decide +kernel) rfl (q0 := 0) rfl rfl ⟨Nat.le_of_ble_eq_true rfl, Nat.le_of_ble_eq_true rfl⟩ ⟨Nat.le_of_ble_eq_true rfl, Nat.le_of_ble_eq_true rfl⟩ (Nat.le_of_ble_eq_true rfl) [0, 3, 4] [1, 2] rfl rfl rfl (fun v wc hv => ?_)
          obtain ⟨undoable_1, rowOf_1, kept_1, rfl, rfl, hq⟩ := hv
          replace h := h undoable_1 rowOf_1 kept_1 hq
          refine gG.perm (ws' := [oX11 h0 0 (v_tape) taped (.ref q_number) (v_isTold) (v_name) (.ref q_sortOf) (v_first) (v_second) (v_degree) (v_colours) (v_signBy) (v_own) lines size atF place sort value fault faultPlace lastFault lastPlace (.ref q_sF) (.ref q_kept) undoable_1 hasImage (v_power) (v_table) (v_marks) (v_row) rowOf_1 areSums isSieved (v_lastOf) blocks (v_inBlock) (v_atQuotient) (v_small) drawn, aI Y q_number 8 number, aI Y q_sortOf 24 sortOf, aI Y q_kept 1554 kept_1, aI Y q_sF 74 sF]) [2, 0, 1, 3, 4] rfl rfl ?_
          refine g_aload_n C dX11_set_56 0 rfl ?_
          refine g_get C inX11 0 rfl rfl 23 (by decide) wF_X11_48 rfl dX11_set_57 ?_
          refine g_iconst (v := 2) C dX11_set_60 rfl ?_
          refine g_bipush (v := 12) C dX11_set_61 rfl ?_
          refine g_iload_n C dX11_set_63 1 rfl ?_
          refine g_bipush (v := 6) C dX11_set_64 rfl ?_
          refine g_isub C dX11_set_66 ?_
          refine g_imul C dX11_set_67 ?_
          refine g_iadd C dX11_set_68 ?_
          refine g_iconst (v := 2) C dX11_set_69 rfl ?_
          refine g_iload_n C dX11_set_70 2 rfl ?_
          refine g_imul C dX11_set_71 ?_
          refine g_iadd C dX11_set_72 ?_
          refine g_iconst (v := 2) C dX11_set_73 rfl ?_
          refine g_isub C dX11_set_74 ?_
          refine g_iload_n C dX11_set_75 3 rfl ?_
          obtain ⟨hc_1, h⟩ := h
          refine g_iast C 4 rfl hc_1 dX11_set_76 (fun sF_1 esF_1 => gG.eqw (ws' := [oX11 h0 0 (v_tape) taped (.ref q_number) (v_isTold) (v_name) (.ref q_sortOf) (v_first) (v_second) (v_degree) (v_colours) (v_signBy) (v_own) lines size atF place sort value fault faultPlace lastFault lastPlace (.ref q_sF) (.ref q_kept) undoable_1 hasImage (v_power) (v_table) (v_marks) (v_row) rowOf_1 areSums isSieved (v_lastOf) blocks (v_inBlock) (v_atQuotient) (v_small) drawn, aI Y q_number 8 number, aI Y q_sortOf 24 sortOf, aI Y q_kept 1554 kept_1, aI Y q_sF 74 sF_1]) rfl ?_)
          replace h := h sF_1 esF_1
          refine g_aload_n C dX11_set_77 0 rfl ?_
          refine g_get C inX11 0 rfl rfl 23 (by decide) wF_X11_48 rfl dX11_set_78 ?_
          refine g_iconst (v := 2) C dX11_set_81 rfl ?_
          refine g_bipush (v := 12) C dX11_set_82 rfl ?_
          refine g_iload_n C dX11_set_84 1 rfl ?_
          refine g_bipush (v := 6) C dX11_set_85 rfl ?_
          refine g_isub C dX11_set_87 ?_
          refine g_imul C dX11_set_88 ?_
          refine g_iadd C dX11_set_89 ?_
          refine g_iconst (v := 2) C dX11_set_90 rfl ?_
          refine g_iload_n C dX11_set_91 2 rfl ?_
          refine g_imul C dX11_set_92 ?_
          refine g_iadd C dX11_set_93 ?_
          refine g_iconst (v := 1) C dX11_set_94 rfl ?_
          refine g_isub C dX11_set_95 ?_
          refine g_iload C dX11_set_96 4 rfl ?_
          obtain ⟨hc_2, h⟩ := h
          refine g_iast C 4 rfl hc_2 dX11_set_98 (fun sF_2 esF_2 => gG.eqw (ws' := [oX11 h0 0 (v_tape) taped (.ref q_number) (v_isTold) (v_name) (.ref q_sortOf) (v_first) (v_second) (v_degree) (v_colours) (v_signBy) (v_own) lines size atF place sort value fault faultPlace lastFault lastPlace (.ref q_sF) (.ref q_kept) undoable_1 hasImage (v_power) (v_table) (v_marks) (v_row) rowOf_1 areSums isSieved (v_lastOf) blocks (v_inBlock) (v_atQuotient) (v_small) drawn, aI Y q_number 8 number, aI Y q_sortOf 24 sortOf, aI Y q_kept 1554 kept_1, aI Y q_sF 74 sF_2]) rfl ?_)
          replace h := h sF_2 esF_2
          refine g_iconst (v := 1) C dX11_set_99 rfl ?_
          exact g_zret C hR (by decide) (Nat.le_of_ble_eq_true rfl) (Nat.le_of_ble_eq_true rfl) dX11_set_100 ⟨1, 0, undoable_1, rowOf_1, kept_1, sF_2, rfl, rfl, h⟩
        · replace h := h.2 c_4
          refine g_iconst (v := 0) C dX11_set_50 rfl ?_
          exact g_zret C hR (by decide) (Nat.le_of_ble_eq_true rfl) (Nat.le_of_ble_eq_true rfl) dX11_set_51 ⟨0, 0, undoable, rowOf, kept, sF, rfl, rfl, h⟩
theorem dX11_rest_0 : decode cX11_rest 0 = .ok (.lload_n 1, 1) := by decide +kernel
theorem dX11_rest_1 : decode cX11_rest 1 = .ok (.aload_n 0, 1) := by decide +kernel
theorem dX11_rest_2 : decode cX11_rest 2 = .ok (.getfield 48, 3) := by decide +kernel
theorem dX11_rest_5 : decode cX11_rest 5 = .ok (.iconst 1, 1) := by decide +kernel
theorem dX11_rest_6 : decode cX11_rest 6 = .ok (.iaload, 1) := by decide +kernel
theorem dX11_rest_7 : decode cX11_rest 7 = .ok (.i2l, 1) := by decide +kernel
theorem dX11_rest_8 : decode cX11_rest 8 = .ok (.lrem, 1) := by decide +kernel
theorem dX11_rest_9 : decode cX11_rest 9 = .ok (.lstore_n 3, 1) := by decide +kernel
theorem dX11_rest_10 : decode cX11_rest 10 = .ok (.lload_n 3, 1) := by decide +kernel
theorem dX11_rest_11 : decode cX11_rest 11 = .ok (.lconst 0, 1) := by decide +kernel
theorem dX11_rest_12 : decode cX11_rest 12 = .ok (.lcmp, 1) := by decide +kernel
theorem dX11_rest_13 : decode cX11_rest 13 = .ok (.ifCond .ge 15, 3) := by decide +kernel
theorem dX11_rest_16 : decode cX11_rest 16 = .ok (.lload_n 3, 1) := by decide +kernel
theorem dX11_rest_17 : decode cX11_rest 17 = .ok (.aload_n 0, 1) := by decide +kernel
theorem dX11_rest_18 : decode cX11_rest 18 = .ok (.getfield 48, 3) := by decide +kernel
theorem dX11_rest_21 : decode cX11_rest 21 = .ok (.iconst 1, 1) := by decide +kernel
theorem dX11_rest_22 : decode cX11_rest 22 = .ok (.iaload, 1) := by decide +kernel
theorem dX11_rest_23 : decode cX11_rest 23 = .ok (.i2l, 1) := by decide +kernel
theorem dX11_rest_24 : decode cX11_rest 24 = .ok (.ladd, 1) := by decide +kernel
theorem dX11_rest_25 : decode cX11_rest 25 = .ok (.goto 4, 3) := by decide +kernel
theorem dX11_rest_28 : decode cX11_rest 28 = .ok (.lload_n 3, 1) := by decide +kernel
theorem dX11_rest_29 : decode cX11_rest 29 = .ok (.lreturn, 1) := by decide +kernel
/-- QuotientSumsModel.rest(J)J -/
def wX11_rest (thrown : Int32) (taped : Int32) (lines : Int32) (size : Int32) (atF : Int32) (place : Int32) (sort : Int32) (value : Int32) (fault : Int32) (faultPlace : Int32) (lastFault : Int32) (lastPlace : Int32) (undoable : Int32) (hasImage : Int32) (rowOf : Int32) (areSums : Int32) (isSieved : Int32) (blocks : Int32) (drawn : Int32) (sF : Nat → Int32) (a1 : Int64) (Q : (Int64) → Prop) : Prop :=
  (¬ ((sF 1).toInt64) = 0 ∧ ∀ x3_1 : Int64, x3_1 = a1 - a1 / ((sF 1).toInt64) * ((sF 1).toInt64) → ((0 ≤ (lg_cmp x3_1 0) → (Q x3_1)) ∧ (¬ 0 ≤ (lg_cmp x3_1 0) → (Q (x3_1 + ((sF 1).toInt64))))))
set_option maxHeartbeats 4000000 in
set_option maxRecDepth 100000 in
theorem mX11_rest (l : Launch) (D : va_G) (Y : Nat → ClassId) (h0 : Nat) (thrown : Int32) (v_tape : Value) (taped : Int32) (v_number : Value) (v_isTold : Value) (v_name : Value) (v_sortOf : Value) (v_first : Value) (v_second : Value) (v_degree : Value) (v_colours : Value) (v_signBy : Value) (v_own : Value) (lines : Int32) (size : Int32) (atF : Int32) (place : Int32) (sort : Int32) (value : Int32) (fault : Int32) (faultPlace : Int32) (lastFault : Int32) (lastPlace : Int32) (q_sF : Nat) (v_kept : Value) (undoable : Int32) (hasImage : Int32) (v_power : Value) (v_table : Value) (v_marks : Value) (v_row : Value) (rowOf : Int32) (areSums : Int32) (isSieved : Int32) (v_lastOf : Value) (blocks : Int32) (v_inBlock : Value) (v_atQuotient : Value) (v_small : Value) (drawn : Int32) (sF : Nat → Int32) (a1 : Int64) (Q : (Int64) → Prop) (h : wX11_rest thrown taped lines size atF place sort value fault faultPlace lastFault lastPlace undoable hasImage rowOf areSums isSieved blocks drawn sF a1 Q) : gM l D Y yX11_rest cX11_rest 5 (some .long) 0 0 0 0 [.ref h0, .long a1] [oX11 h0 thrown (v_tape) taped (v_number) (v_isTold) (v_name) (v_sortOf) (v_first) (v_second) (v_degree) (v_colours) (v_signBy) (v_own) lines size atF place sort value fault faultPlace lastFault lastPlace (.ref q_sF) (v_kept) undoable hasImage (v_power) (v_table) (v_marks) (v_row) rowOf areSums isSieved (v_lastOf) blocks (v_inBlock) (v_atQuotient) (v_small) drawn, aI Y q_sF 74 sF] (fun v w => ∃ r : Int64, v = some (.long r) ∧ w = [oX11 h0 thrown (v_tape) taped (v_number) (v_isTold) (v_name) (v_sortOf) (v_first) (v_second) (v_degree) (v_colours) (v_signBy) (v_own) lines size atF place sort value fault faultPlace lastFault lastPlace (.ref q_sF) (v_kept) undoable hasImage (v_power) (v_table) (v_marks) (v_row) rowOf areSums isSieved (v_lastOf) blocks (v_inBlock) (v_atQuotient) (v_small) drawn, aI Y q_sF 74 sF] ∧ Q r) := by
  refine gM_of (own := RX11) (by decide +kernel) rfl (Nat.le_of_ble_eq_true rfl) rfl (fun E C hR => ?_)
  unfold wX11_rest at h
  refine g_lload_n C dX11_rest_0 1 rfl ?_
  refine g_aload_n C dX11_rest_1 0 rfl ?_
  refine g_get C inX11 0 rfl rfl 23 (by decide) wF_X11_48 rfl dX11_rest_2 ?_
  refine g_iconst (v := 1) C dX11_rest_5 rfl ?_
  refine g_iald C 1 rfl (by unfold vp_in; decide) dX11_rest_6 ?_
  refine g_i2l C dX11_rest_7 ?_
  obtain ⟨hc_1, h⟩ := h
  refine g_lrem C dX11_rest_8 hc_1 ?_
  refine g_topl (fun x3_1 ex3_1 => ?_)
  replace h := h x3_1 ex3_1
  refine g_lstore_n (lv' := [(3, .long x3_1), (0, .ref h0), (1, .long a1)]) C dX11_rest_9 (by decide) rfl ?_
  refine g_lload_n C dX11_rest_10 0 rfl ?_
  refine g_lconst (v := 0) C dX11_rest_11 rfl ?_
  refine g_lcmp C dX11_rest_12 ?_
  refine g_if_ge (tgt := 28) C dX11_rest_13 (by decide) (fun c_1 => ?_) (fun c_1 => ?_)
  · replace h := h.1 c_1
    refine g_lload_n C dX11_rest_28 0 rfl ?_
    exact g_lret C hR (Nat.le_of_ble_eq_true rfl) (Nat.le_of_ble_eq_true rfl) dX11_rest_29 ⟨x3_1, rfl, rfl, h⟩
  · replace h := h.2 c_1
    refine g_lload_n C dX11_rest_16 0 rfl ?_
    refine g_aload_n C dX11_rest_17 1 rfl ?_
    refine g_get C inX11 0 rfl rfl 23 (by decide) wF_X11_48 rfl dX11_rest_18 ?_
    refine g_iconst (v := 1) C dX11_rest_21 rfl ?_
    refine g_iald C 1 rfl (by unfold vp_in; decide) dX11_rest_22 ?_
    refine g_i2l C dX11_rest_23 ?_
    refine g_ladd C dX11_rest_24 ?_
    refine g_goto (tgt := 29) C dX11_rest_25 (by decide) ?_
    exact g_lret C hR (Nat.le_of_ble_eq_true rfl) (Nat.le_of_ble_eq_true rfl) dX11_rest_29 ⟨x3_1 + ((sF 1).toInt64), rfl, rfl, h⟩
