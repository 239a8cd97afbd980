def R_law : String := "QuotientSumsLaw"
def lw_P (b : Addr) (xs : List Int32) (args : Array Value) (s : State) : Prop := args = #[.ref b] ∧ s.IntsAt b xs ∧ xs.length ≤ 3072 ∧ (Jvm.Cond.and given_1 narrow_1).before args s = true
def lw_Q (_ : Array Value) (s : State) (o : Outcome) (t : State) : Prop := o = .returned (some (.int 1)) ∧ Framed s o t [] 601024 7293034
def lw_Z (below : List Frame) (a : Array Value) (s : State) : State → Prop := fun t => ∃ o, t.status = .running ∧ Ended t below o ∧ lw_Q a s o t
/-- the law's own end, with 1 on the stack, nothing written that was there before, its room as the claim has it -/
theorem lw_ret {p : Program} {l : Launch} {e : Env} {s : State} {m : MethodId} {below : List Frame} {meth : Method} {c : Code} {b : Nat} (hx : p.tables.exec = Jvm.exec) (hb : c.code = code) (hr : meth.sig.returnType = ret) (hlocks : meth.locks = false) {pc : Nat} {H : Heap} {ls : Array Slot} (hdg : decode code pc = .ok (.ireturn, 1)) : W p l e room_1 s m #[Value.ref b] below meth c H [] 601024 7293034 (lw_Z below #[Value.ref b] s) (F0 m pc ls [.int 1]) := by
  intro T hT X
  obtain ⟨fs, hret, hrun, hended, hW, hframe⟩ := X.leave (v := some (.int 1)) (hlocks := hlocks) (fun h => by rw [hr] at h; cases h)
  have hmeth' : T.vm.method? m = some meth := X.method'
  refine ⟨T.setFrames fs, ?_, .returned (some (.int 1)), hrun, hended, rfl, ⟨_, rfl⟩, hW, hframe⟩
  jvm_step X.here [X.here.top, hx, hb, hdg, hmeth', hr, ret, narrow_b1]
  (try refine ⟨rfl, ?_⟩); (try refine ⟨rfl, ?_⟩)
  first | (intro acts; rw [hret _ acts rfl rfl rfl]) | rw [hret _ _ rfl rfl rfl]
  exact Steps.refl _
/-- what holds at the law's entry: the machine, the code, the tables' words (any of lw_tbl by 'hts w (by decide +kernel)'), the script of L ints xs at the cell b, what the Statement gives of the start (any of its parts by flat_of_before) -/
def lw_At (p : Program) (s : State) (m : MethodId) (meth : Method) (c : Code) (b L : Nat) (xs : Nat → Int32) : Prop :=
  p.tables.exec = Jvm.exec ∧ c.code = code ∧ meth.sig.returnType = ret ∧ c.maxLocals = 7 ∧ s.vm.findClass R_law = some m.cls ∧ (∀ w ∈ lw_tbl, w.before #[Value.ref b] s = true) ∧ va_X b L xs s s.heap ∧ b < s.heap.size ∧ meth.locks = false ∧ (Jvm.Cond.and given_1 narrow_1).before #[Value.ref b] s = true

def gScr (E : gE) (b L : Nat) (xs : Nat → Int32) : Prop := match E with
  | (p, l, e, R, s, m, args, below, meth, c, nL, A, D, Q) => va_X b L xs s s.heap ∧ b < s.heap.size ∧ ¬ A b
def gLawQ (E : gE) : Prop := match E with
  | (p, l, e, R, s, m, args, below, meth, c, nL, A, D, Q) => (∃ b : Nat, args = #[Value.ref b] ∧ Q = lw_Z below #[Value.ref b] s) ∧ meth.sig.returnType = ret ∧ R = room_1 ∧ (∀ q, A q → s.heap.size ≤ q)
theorem g_sld {E : gE} {l : Launch} {D : va_G} {Y : Nat → ClassId} {cc : ByteArray} {own : String} {R : Room} {nL : Nat} {cells slots : Nat} {ws : va_W} {lv : List (Nat × Value)} {rest : List Value} {pc : Nat} (C : gOK E l D Y cc own R nL) {b L : Nat} {xs : Nat → Int32} (hs : gScr E b L xs) {i : Int32} (hin : vp_in i L) (hd : decode cc pc = .ok (.iaload, 1)) (h : gG E cells slots ws lv (.int (xs i.toNatClampNeg) :: rest) (pc + 1)) : gG E cells slots ws lv (.int i :: .ref b :: rest) pc := by
  obtain ⟨p, l, e, R, s, m, args, below, meth, c, nL, A, D, Q⟩ := E
  obtain ⟨rfl, rfl, rfl, rfl, hx, hb, hml, hown, hts, hK, hA, hZ, hlocks, -⟩ := C
  exact fun H locs ls hP hD hS hl => va_sld hx hb hs.1 hs.2.1 hs.2.2 hS hin hd (h H locs ls hP hD hS hl)
theorem g_slen {E : gE} {l : Launch} {D : va_G} {Y : Nat → ClassId} {cc : ByteArray} {own : String} {R : Room} {nL : Nat} {cells slots : Nat} {ws : va_W} {lv : List (Nat × Value)} {rest : List Value} {pc : Nat} (C : gOK E l D Y cc own R nL) {b L : Nat} {xs : Nat → Int32} (hs : gScr E b L xs) (hd : decode cc pc = .ok (.arraylength, 1)) (h : gG E cells slots ws lv (.int (nI L) :: rest) (pc + 1)) : gG E cells slots ws lv (.ref b :: rest) pc := by
  obtain ⟨p, l, e, R, s, m, args, below, meth, c, nL, A, D, Q⟩ := E
  obtain ⟨rfl, rfl, rfl, rfl, hx, hb, hml, hown, hts, hK, hA, hZ, hlocks, -⟩ := C
  exact fun H locs ls hP hD hS hl => va_slen hx hb hs.1 hs.2.1 hs.2.2 hS hd (h H locs ls hP hD hS hl)
theorem g_lawRet {E : gE} {l : Launch} {D : va_G} {Y : Nat → ClassId} {cc : ByteArray} {own : String} {R : Room} {nL : Nat} {cells slots : Nat} {ws : va_W} {lv : List (Nat × Value)} {pc : Nat} (C : gOK E l D Y cc own R nL) (hQ : gLawQ E) (h1 : cells ≤ 601024) (h2 : slots ≤ 7293034) (hd : decode cc pc = .ok (.ireturn, 1)) (hcc : cc = code) : gG E cells slots ws lv [.int 1] pc := by
  obtain ⟨p, l, e, R, s, m, args, below, meth, c, nL, A, D, Q⟩ := E
  obtain ⟨rfl, rfl, rfl, rfl, hx, hb, hml, hown, hts, hK, hA, hZ, hlocks, -⟩ := C
  obtain ⟨⟨b, rfl, rfl⟩, hr, rfl, hA2⟩ := hQ
  subst hcc
  exact fun H locs ls hP hD hS hl => W.widen h1 h2 (va_forget (fun q hq => hA2 _ (hS.2.2 q hq)) (lw_ret hx hb hr hlocks hd))
theorem app_at (W1 W2 : va_W) (i : Nat) (p : Nat × va_E) (h : (W2 ++ W1)[i]? = some p) : ∃ j, (W1 ++ W2)[j]? = some p ∧ (i < W2.length → j = W1.length + i) ∧ (W2.length ≤ i → j = i - W2.length ∧ j < W1.length) := by
  by_cases hi : i < W2.length
  · rw [List.getElem?_append_left hi] at h
    refine ⟨W1.length + i, ?_, fun _ => rfl, fun z => by omega⟩
    rw [List.getElem?_append_right (by omega), Nat.add_sub_cancel_left]
    exact h
  · rw [List.getElem?_append_right (by omega)] at h
    have := (List.getElem?_eq_some_iff.mp h).1
    exact ⟨i - W2.length, by rw [List.getElem?_append_left this]; exact h, fun z => by omega, fun _ => ⟨rfl, this⟩⟩
theorem gG.swap {E : gE} {cells slots : Nat} {W1 W2 : va_W} {lv : List (Nat × Value)} {st : List Value} {pc : Nat} (h : gG E cells slots (W2 ++ W1) lv st pc) : gG E cells slots (W1 ++ W2) lv st pc := by
  obtain ⟨p, l, e, R, s, m, args, below, meth, c, nL, A, D, Q⟩ := E
  intro H locs ls hP hD hS hl
  refine h H locs ls (fun k q hk => ?_) ⟨fun i j x y hi hj hxy => ?_, fun k q hk => ?_⟩ hS hl
  · obtain ⟨j, h1, -⟩ := app_at W1 W2 k q hk
    exact hP j q h1
  · obtain ⟨a, h1, h2, h3⟩ := app_at W1 W2 i x hi
    obtain ⟨b, h4, h5, h6⟩ := app_at W1 W2 j y hj
    have := hD.1 a b x y h1 h4 hxy
    rcases Nat.lt_or_ge i W2.length with z1 | z1 <;> rcases Nat.lt_or_ge j W2.length with z2 | z2
    · have := h2 z1; have := h5 z2; omega
    · have := h2 z1; have := h6 z2; omega
    · have := h3 z1; have := h5 z2; omega
    · have := h3 z1; have := h6 z2; omega
  · obtain ⟨j, h1, -⟩ := app_at W1 W2 k q hk
    exact hD.2 j q h1
theorem app_C (B Rw : va_W) : (List.range B.length).map (fun i => (B ++ Rw)[i]?) = B.map some := by
  apply List.ext_getElem?
  intro i
  rw [List.getElem?_map, List.getElem?_map]
  by_cases hi : i < B.length
  · rw [List.getElem?_range hi, Option.map_some, List.getElem?_append_left hi, List.getElem?_eq_getElem hi, Option.map_some]
  · rw [List.getElem?_eq_none (by simpa using hi), List.getElem?_eq_none (by simpa using hi)]; rfl
theorem app_R (B Rw : va_W) : ((List.range Rw.length).map (fun j => B.length + j)).filterMap (fun i => (B ++ Rw)[i]?) = Rw := by
  rw [List.filterMap_map]
  have : ((fun i => (B ++ Rw)[i]?) ∘ fun j => B.length + j) = fun j => Rw[j]? := funext fun j => by
    show (B ++ Rw)[B.length + j]? = _
    rw [List.getElem?_append_right (by omega), Nat.add_sub_cancel_left]
  rw [this]
  exact g_range Rw
theorem app_A (B Rw : va_W) : ((List.range Rw.length).map (fun j => B.length + j)).all (fun i => Nat.blt i (B ++ Rw).length) = true := by
  refine List.all_eq_true.mpr (fun i hi => ?_)
  obtain ⟨j, hj, rfl⟩ := List.mem_map.mp hi
  refine Nat.ble_eq_true_of_le ?_
  have := List.mem_range.mp hj
  rw [List.length_append]
  omega
theorem g_nd {l : List Nat} (h : l.Nodup) : va_nd l = true := by
  induction l with
  | nil => rfl
  | cons a l ih => rw [List.nodup_cons] at h; simp only [va_nd, Bool.and_eq_true, decide_eq_true_eq]; exact ⟨h.1, ih h.2⟩
theorem app_P (B Rw : va_W) : gPart (List.range B.length) ((List.range Rw.length).map (fun j => B.length + j)) = true := by
  simp only [gPart, Bool.and_eq_true, List.all_eq_true, Bool.not_eq_true', List.contains_eq_mem, decide_eq_false_iff_not]
  refine ⟨⟨g_nd_range _, g_nd ?_⟩, fun i hi => ?_⟩
  · have key : ∀ (n b : Nat), ((List.range n).map (fun j => b + j)).Nodup := by
      intro n b
      induction n with
      | zero => exact List.nodup_nil
      | succ n ih =>
        rw [List.range_succ, List.map_append, List.nodup_append]
        refine ⟨ih, by simp, fun x hx y hy => ?_⟩
        obtain ⟨j, hj, rfl⟩ := List.mem_map.mp hx
        have := List.mem_range.mp hj
        simp at hy
        omega
    exact key _ _
  · obtain ⟨j, hj, rfl⟩ := List.mem_map.mp hi
    rw [List.mem_range]; omega
theorem g_callVL {E : gE} {l : Launch} {D : va_G} {Y : Nat → ClassId} {cc : ByteArray} {own : String} {R : Room} {nL : Nat} {cells slots : Nat} {lv : List (Nat × Value)} {rest : List Value} {pc : Nat} (C : gOK E l D Y cc own R nL) {y : MethodName} {bytes : ByteArray} {maxL : Nat} {ret : Option FieldType} {fr lo mc ms idx n : Nat} {As : List Value} {B Rw : va_W} {P : Option Value → va_W → Prop} {st : List Value} {b ci q0 : Nat} {fs : List Value} {T : u_T} {N : Nat} (hM : gM l D Y y bytes maxL ret fr lo mc ms (.ref b :: As) B P) (hd : decode cc pc = .ok (.invokevirtual idx, 3)) (hst : st = As.reverse ++ .ref b :: rest) (w1 : Cond.methodLink own idx y ∈ gWs) (w2 : Cond.instanceMethod y ∈ gWs) (w3 : Cond.selects y.cls y y ∈ gWs) (w4 : Cond.initialized y.cls ∈ gWs) (w5 : Cond.code y bytes maxL ret ∈ gWs) (hy : gY y n = true) (hn : As.length = n) (he : B[q0]? = some (b, .inr (ci, fs))) (hc : vwCl[ci]? = some (y.cls, T, N)) (hr1 : fr + 1 ≤ R.frames ∧ 8 + (maxL + 11) + lo ≤ R.locals) (hr2 : cells + mc ≤ R.cells ∧ slots + ms ≤ R.slots) (hrest : (rest.map fun v => v.category).sum ≤ 8)
    (k : ∀ (v : Option Value) (w' : va_W), P v w' → gG E (cells + mc) (slots + ms) (Rw ++ w') lv (v.toList ++ rest) (pc + 3)) : gG E cells slots (B ++ Rw) lv st pc :=
  g_callV C hM hd hst w1 w2 w3 w4 w5 hy hn he hc hr1 hr2 hrest _ _ (app_C B Rw) (app_A B Rw) (app_P B Rw) (fun v w' hv => by rw [app_R]; exact k v w' hv)
theorem g_callSHL {E : gE} {l : Launch} {D : va_G} {Y : Nat → ClassId} {cc : ByteArray} {own : String} {R : Room} {nL : Nat} {cells slots : Nat} {lv : List (Nat × Value)} {rest : List Value} {pc : Nat} (C : gOK E l D Y cc own R nL) {y : MethodName} {bytes : ByteArray} {maxL : Nat} {ret : Option FieldType} {fr lo mc ms idx n : Nat} {As : List Value} {B Rw : va_W} {P : Option Value → va_W → Prop} {st : List Value} {hh : List (Nat × Nat × Nat × Nat)} (hM : gMH l D Y y bytes maxL ret hh fr lo mc ms As B P) (hd : decode cc pc = .ok (.invokestatic idx, 3)) (hst : st = As.reverse ++ rest) (w1 : Cond.methodLink own idx y ∈ gWs) (w2 : Cond.static y ∈ gWs) (w4 : Cond.initialized y.cls ∈ gWs) (w5 : Cond.codeWith y bytes maxL ret hh ∈ gWs) (hy : gY y n = true) (hn : As.length = n) (hr1 : fr + 1 ≤ R.frames ∧ 8 + (maxL + 11) + lo ≤ R.locals) (hr2 : cells + mc ≤ R.cells ∧ slots + ms ≤ R.slots) (hrest : (rest.map fun v => v.category).sum ≤ 8)
    (k : ∀ (v : Option Value) (w' : va_W), P v w' → gG E (cells + mc) (slots + ms) (Rw ++ w') lv (v.toList ++ rest) (pc + 3)) : gG E cells slots (B ++ Rw) lv st pc :=
  g_callSH C hM hd hst w1 w2 w4 w5 hy hn hr1 hr2 hrest _ _ (app_C B Rw) (app_A B Rw) (app_P B Rw) (fun v w' hv => by rw [app_R]; exact k v w' hv)
set_option maxHeartbeats 4000000 in
set_option maxRecDepth 100000 in
theorem cLf (l : Launch) (hstk : l.stackTraces = false) (D : va_G) (Y : Nat → ClassId) (q_a1 q_a4 : Nat) (ra : Nat → Nat) (rs : Nat → Nat) (rf : Nat → Int32) (rm : Nat → Int32) (rl : Nat → Int32) (ru : Nat → Int32) (rn : Nat → Nat) (rv : Nat → Nat → Int32) (q_now : Nat) (q_reader : Nat) (q_changes : Nat) (q_image : Nat) (q_rows : Nat) (q_couples : Nat) (now_bound : Int32) (now_modulus : Int32) (now_seed : Int32) (now_functions : Int32) (q_now_names : Nat) (q_now_kinds : Nat) (q_now_firsts : Nat) (q_now_seconds : Nat) (q_now_degrees : Nat) (q_now_colours : Nat) (q_now_needs : Nat) (q_now_numbers : Nat) (now_names : Nat → Int32) (now_kinds : Nat → Int32) (now_firsts : Nat → Int32) (now_seconds : Nat → Int32) (now_degrees : Nat → Int32) (now_colours : Nat → Int32) (now_needs : Nat → Int32) (now_numbers : Nat → Int32) (q_reader_tape : Nat) (reader_lines : Int32) (reader_faulty : Int32) (reader_place : Int32) (q_reader_plan : Nat) (reader_token : Int32) (reader_toldOnce : Int32) (reader_tape_fed : Int32) (q_reader_tape_bytes : Nat) (q_reader_tape_sorts : Nat) (q_reader_tape_starts : Nat) (q_reader_tape_contents : Nat) (reader_tape_length : Int32) (reader_tape_tokens : Int32) (reader_tape_at : Int32) (reader_tape_bytes : Nat → Int32) (reader_tape_sorts : Nat → Int32) (reader_tape_starts : Nat → Int32) (reader_tape_contents : Nat → Int32) (reader_plan_bound : Int32) (reader_plan_modulus : Int32) (reader_plan_seed : Int32) (reader_plan_functions : Int32) (q_reader_plan_names : Nat) (q_reader_plan_kinds : Nat) (q_reader_plan_firsts : Nat) (q_reader_plan_seconds : Nat) (q_reader_plan_degrees : Nat) (q_reader_plan_colours : Nat) (q_reader_plan_needs : Nat) (q_reader_plan_numbers : Nat) (reader_plan_names : Nat → Int32) (reader_plan_kinds : Nat → Int32) (reader_plan_firsts : Nat → Int32) (reader_plan_seconds : Nat → Int32) (reader_plan_degrees : Nat → Int32) (reader_plan_colours : Nat → Int32) (reader_plan_needs : Nat → Int32) (reader_plan_numbers : Nat → Int32) (changes_size : Int32) (changes_top : Int32) (q_changes_kinds : Nat) (q_changes_cells : Nat) (q_changes_ones : Nat) (q_changes_others : Nat) (changes_kinds : Nat → Int32) (changes_cells : Nat → Int32) (changes_ones : Nat → Int32) (changes_others : Nat → Int32) (image_kept : Int32) (image_bound : Int32) (image_modulus : Int32) (q_image_numbers : Nat) (image_numbers : Nat → Int32) (q_rows_sieve : Nat) (q_rows_powers : Nat) (q_rows_rows : Nat) (rows_turn : Int32) (q_rows_sieve_least : Nat) (rows_sieve_least : Nat → Int32) (q_rows_powers_ofPrime : Nat) (q_rows_powers_cells : Nat) (rows_powers_ofPrime : Nat → Int32) (rows_powers_cells : Nat → Int32) (q_couples_small : Nat) (q_couples_great : Nat) (couples_x : Int32) (couples_root : Int32) (couples_small : Nat → Int64) (couples_great : Nat → Int64) (n_rows_sieve_least : Nat) (out : Nat → Int64) (a2 a3 : Int32) (Q : Int32 → (Nat → Int64) → Prop) (h : wL_function now_bound now_modulus now_seed now_functions now_kinds now_firsts now_seconds now_degrees now_colours out a2 a3 Q) : gMH l D Y yL_function cL_function 5 (some .int) [(0, 10, 13, 13), (0, 10, 17, 15)] 7 140 1 6 [.ref q_a1, .int a2, .int a3, .ref q_a4] ([aJ Y q_a4 1 out] ++ cW Y q_a1 ra rs rf rm rl ru rn rv q_now q_reader q_changes q_image q_rows q_couples now_bound now_modulus now_seed now_functions q_now_names q_now_kinds q_now_firsts q_now_seconds q_now_degrees q_now_colours q_now_needs q_now_numbers now_names now_kinds now_firsts now_seconds now_degrees now_colours now_needs now_numbers q_reader_tape reader_lines reader_faulty reader_place q_reader_plan reader_token reader_toldOnce reader_tape_fed q_reader_tape_bytes q_reader_tape_sorts q_reader_tape_starts q_reader_tape_contents reader_tape_length reader_tape_tokens reader_tape_at reader_tape_bytes reader_tape_sorts reader_tape_starts reader_tape_contents reader_plan_bound reader_plan_modulus reader_plan_seed reader_plan_functions q_reader_plan_names q_reader_plan_kinds q_reader_plan_firsts q_reader_plan_seconds q_reader_plan_degrees q_reader_plan_colours q_reader_plan_needs q_reader_plan_numbers reader_plan_names reader_plan_kinds reader_plan_firsts reader_plan_seconds reader_plan_degrees reader_plan_colours reader_plan_needs reader_plan_numbers changes_size changes_top q_changes_kinds q_changes_cells q_changes_ones q_changes_others changes_kinds changes_cells changes_ones changes_others image_kept image_bound image_modulus q_image_numbers image_numbers q_rows_sieve q_rows_powers q_rows_rows rows_turn q_rows_sieve_least rows_sieve_least q_rows_powers_ofPrime q_rows_powers_cells rows_powers_ofPrime rows_powers_cells q_couples_small q_couples_great couples_x couples_root couples_small couples_great n_rows_sieve_least) (fun v w => ∃ (r : Int32) (out' : Nat → Int64), v = some (.int r) ∧ w = [aJ Y q_a4 1 out'] ++ cW Y q_a1 ra rs rf rm rl ru rn rv q_now q_reader q_changes q_image q_rows q_couples now_bound now_modulus now_seed now_functions q_now_names q_now_kinds q_now_firsts q_now_seconds q_now_degrees q_now_colours q_now_needs q_now_numbers now_names now_kinds now_firsts now_seconds now_degrees now_colours now_needs now_numbers q_reader_tape reader_lines reader_faulty reader_place q_reader_plan reader_token reader_toldOnce reader_tape_fed q_reader_tape_bytes q_reader_tape_sorts q_reader_tape_starts q_reader_tape_contents reader_tape_length reader_tape_tokens reader_tape_at reader_tape_bytes reader_tape_sorts reader_tape_starts reader_tape_contents reader_plan_bound reader_plan_modulus reader_plan_seed reader_plan_functions q_reader_plan_names q_reader_plan_kinds q_reader_plan_firsts q_reader_plan_seconds q_reader_plan_degrees q_reader_plan_colours q_reader_plan_needs q_reader_plan_numbers reader_plan_names reader_plan_kinds reader_plan_firsts reader_plan_seconds reader_plan_degrees reader_plan_colours reader_plan_needs reader_plan_numbers changes_size changes_top q_changes_kinds q_changes_cells q_changes_ones q_changes_others changes_kinds changes_cells changes_ones changes_others image_kept image_bound image_modulus q_image_numbers image_numbers q_rows_sieve q_rows_powers q_rows_rows rows_turn q_rows_sieve_least rows_sieve_least q_rows_powers_ofPrime q_rows_powers_cells rows_powers_ofPrime rows_powers_cells q_couples_small q_couples_great couples_x couples_root couples_small couples_great n_rows_sieve_least ∧ Q r out') :=
  gMH_frame2 (mL_function l hstk D Y q_a1 q_a4 q_now (.ref q_reader) (.ref q_changes) (.ref q_image) (.ref q_rows) (.ref q_couples) now_bound now_modulus now_seed now_functions (.ref q_now_names) q_now_kinds q_now_firsts q_now_seconds q_now_degrees q_now_colours (.ref q_now_needs) (.ref q_now_numbers) now_kinds now_firsts now_seconds now_degrees now_colours out a2 a3 Q h) [9, 10, 12, 13, 14, 15, 16, 0] [1, 2, 3, 4, 5, 6, 7, 8, 11, 17, 18, 19, 20, 21, 22, 23, 24, 25, 26, 27, 28, 29, 30, 31, 32, 33, 34, 35, 36, 37, 38, 39, 40, 41, 42, 43, 44, 45, 46, 47, 48, 49, 50] (n := 51) rfl rfl (by decide +kernel) (fun v wc hv => by
    obtain ⟨r, out', rfl, rfl, hq⟩ := hv; exact ⟨rfl, r, out', rfl, rfl, hq⟩)
