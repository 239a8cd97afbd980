def gXC (D : va_G) (Y : Nat → ClassId) (ws : va_W) (sz : Nat) (X : String → va_W → Prop) : String → State → State → Prop := fun E st t =>
  ∃ ws' : va_W, X E ws' ∧ va_P D vwCl ws' t.heap ∧ va_K D vwCl (gTys Y) t ∧ va_D (va_A ws sz) ws' ∧ va_F (va_A ws sz) st t
def gMX (l : Launch) (D : va_G) (Y : Nat → ClassId) (y : MethodName) (cc : ByteArray) (nL : Nat) (ret : Option FieldType) (fr lo mc ms : Nat) (as : List Value) (ws : va_W) (P : Option Value → va_W → Prop) (X : String → va_W → Prop) : Prop :=
  ∀ sz : Nat, vx_Met l y (Cond.code y cc nL ret :: gWs) { frames := fr, cells := mc, slots := ms, locals := lo } (gPre D Y as ws sz) (gQ D Y ws sz P) (gXC D Y ws sz X) mc ms (va_A ws sz)
def gRetX (E : gE) (D : va_G) (Y : Nat → ClassId) (mc ms : Nat) (ws0 : va_W) (P : Option Value → va_W → Prop) (X : String → va_W → Prop) (ret : Option FieldType) (tb : List ExceptionTableEntry) : Prop :=
  match E with
  | (p, l', e, R', s, m, args, below, meth, c, nL', A, D', Q) => Q = vx_MQ below (gQ D Y ws0 s.heap.size P) (gXC D Y ws0 s.heap.size X) args s mc ms (va_A ws0 s.heap.size) ∧ A = va_A ws0 s.heap.size ∧ meth.sig.returnType = ret ∧ c.exceptionTable.toList = tb
theorem gMX_of {l : Launch} {D : va_G} {Y : Nat → ClassId} {y : MethodName} {cc : ByteArray} {nL : Nat} {ret : Option FieldType} {fr lo mc ms : Nat} {as : List Value} {ws : va_W} {P : Option Value → va_W → Prop} {X : String → va_W → Prop} {own : String} {lv : List (Nat × Value)}
    (hy : plainName y.cls = true) (ho : y.cls = own) (hlen : (lg_sl as).length ≤ nL) (hlv : lv_args 0 as = lv)
    (h : ∀ E : gE, gOK E l D Y cc own { frames := fr, cells := mc, slots := ms, locals := lo } nL → gRetX E D Y mc ms ws P X ret [] → gG E 0 0 ws lv [] 0) : gMX l D Y y cc nL ret fr lo mc ms as ws P X := by
  intro sz
  refine vx_ofW (cc := cc) (maxL := nL) (ret := ret) hy rfl ?_
  intro p e s m args below meth c s₁ B hml htb hv
  obtain ⟨rfl, hsz, hP, hK, hD0, hZ⟩ := hv
  subst hsz
  have hts := atoms_spec (ws := Cond.code y cc nL ret :: gWs) B.pre
  have hown : s.vm.findClass own = some m.cls := by rw [← ho]; exact findClass_of_methodNamed B.named
  have hD := hD0.self (sz := s.heap.size)
  have key := h (p, l, e, (headSpec (Cond.code y cc nL ret :: gWs) { frames := fr, cells := mc, slots := ms, locals := lo }).room, s, m, as.toArray, below, meth, c, nL, va_A ws s.heap.size, D, vx_MQ below (gQ D Y ws s.heap.size P) (gXC D Y ws s.heap.size X) as.toArray s mc ms (va_A ws s.heap.size))
    ⟨rfl, rfl, rfl, rfl, B.exec, B.bytes, hml, hown, fun w hw => hts w (List.mem_cons_of_mem _ hw), hK, fun q hq => Or.inr hq, hZ, B.notSynchronized, rfl⟩ ⟨rfl, rfl, B.returns, List.eq_nil_iff_forall_not_mem.mpr htb⟩
  subst hlv
  rw [lg_entry_eq]
  exact key s.heap [] _ hP hD va_S.rf (lv_entry as hlen)
/-- the same for a method with handlers -/
def gMH (l : Launch) (D : va_G) (Y : Nat → ClassId) (y : MethodName) (cc : ByteArray) (nL : Nat) (ret : Option FieldType) (hh : List (Nat × Nat × Nat × Nat)) (fr lo mc ms : Nat) (as : List Value) (ws : va_W) (P : Option Value → va_W → Prop) : Prop :=
  ∀ sz : Nat, vx_Met l y (Cond.codeWith y cc nL ret hh :: gWs) { frames := fr, cells := mc, slots := ms, locals := lo } (gPre D Y as ws sz) (gQ D Y ws sz P) (gXC D Y ws sz (fun _ _ => False)) mc ms (va_A ws sz)
theorem gMH_of {l : Launch} {D : va_G} {Y : Nat → ClassId} {y : MethodName} {cc : ByteArray} {nL : Nat} {ret : Option FieldType} {hh : List (Nat × Nat × Nat × Nat)} {fr lo mc ms : Nat} {as : List Value} {ws : va_W} {P : Option Value → va_W → Prop} {own : String} {lv : List (Nat × Value)}
    (hy : plainName y.cls = true) (ho : y.cls = own) (hlen : (lg_sl as).length ≤ nL) (hlv : lv_args 0 as = lv)
    (h : ∀ E : gE, gOK E l D Y cc own { frames := fr, cells := mc, slots := ms, locals := lo } nL → gRetX E D Y mc ms ws P (fun _ _ => False) ret (tableOf hh) → gG E 0 0 ws lv [] 0) : gMH l D Y y cc nL ret hh fr lo mc ms as ws P := by
  intro sz
  refine vx_ofWH (cc := cc) (maxL := nL) (ret := ret) (hh := hh) hy rfl ?_
  intro p e s m args below meth c s₁ B hml hv
  obtain ⟨rfl, hsz, hP, hK, hD0, hZ⟩ := hv
  subst hsz
  have hts := atoms_spec (ws := Cond.codeWith y cc nL ret hh :: gWs) B.pre
  have hown : s.vm.findClass own = some m.cls := by rw [← ho]; exact findClass_of_methodNamed B.named
  have hD := hD0.self (sz := s.heap.size)
  have key := h (p, l, e, (headSpec (Cond.codeWith y cc nL ret hh :: gWs) { frames := fr, cells := mc, slots := ms, locals := lo }).room, s, m, as.toArray, below, meth, c, nL, va_A ws s.heap.size, D, vx_MQ below (gQ D Y ws s.heap.size P) (gXC D Y ws s.heap.size (fun _ _ => False)) as.toArray s mc ms (va_A ws s.heap.size))
    ⟨rfl, rfl, rfl, rfl, B.exec, B.bytes, hml, hown, fun w hw => hts w (List.mem_cons_of_mem _ hw), hK, fun q hq => Or.inr hq, hZ, B.notSynchronized, rfl⟩ ⟨rfl, rfl, B.returns, vx_table (x := y) B (hts _ List.mem_cons_self)⟩
  subst hlv
  rw [lg_entry_eq]
  exact key s.heap [] _ hP hD va_S.rf (lv_entry as hlen)
theorem g_iretX {E : gE} {l : Launch} {D : va_G} {Y : Nat → ClassId} {cc : ByteArray} {own : String} {R : Room} {nL : Nat} {cells slots : Nat} {ws : va_W} {lv : List (Nat × Value)} {pc : Nat} (C : gOK E l D Y cc own R nL) {mc ms : Nat} {ws0 : va_W} {P : Option Value → va_W → Prop} {X : String → va_W → Prop} {tb : List ExceptionTableEntry} {v : Int32} (hR : gRetX E D Y mc ms ws0 P X (some .int) tb) (h1 : cells ≤ mc) (h2 : slots ≤ ms) (hd : decode cc pc = .ok (.ireturn, 1)) (hp : P (some (.int v)) ws) : gG E cells slots ws lv [.int v] pc := by
  obtain ⟨p, l, e, R, s, m, args, below, meth, c, nL, A, D, Q⟩ := E
  obtain ⟨rfl, rfl, rfl, rfl, hx, hb, hml, hown, hts, hK, hA, hZ, hlocks, -⟩ := C
  obtain ⟨rfl, rfl, hr, -⟩ := hR
  exact fun H locs ls hP hD hS hl => W.widen h1 h2 (vx_ret (W.iret hx hb hr (fun t ht hW => ⟨⟨_, ws, rfl, hp, by rw [ht]; exact hP, va_K.moved hW.alike hK, hD⟩, hS.F ht⟩) hS.2.2 hd (hlocks := hlocks)))
theorem gIsN_on {w : Cond} (h : gIsN w = true) : w.onTables = true := by
  cases w <;> first | rfl | (simp [gIsN] at h)
theorem g_throwS {E : gE} {l : Launch} {D : va_G} {Y : Nat → ClassId} {cc : ByteArray} {own : String} {R : Room} {nL : Nat} {cells slots : Nat} {ws : va_W} {lv : List (Nat × Value)} {rest : List Value} {pc : Nat} {mc ms : Nat} {ws0 : va_W} {P : Option Value → va_W → Prop} {X : String → va_W → Prop} {ret : Option FieldType} (C : gOK E l D Y cc own R nL) {cls text : String} {ik is ic sa : Nat} (hR : gRetX E D Y mc ms ws0 P X ret []) (hstk : l.stackTraces = false) (hcls : Bundle.fit cls = true) (w1 : Cond.classLink own ik cls ∈ gWs) (w2 : Cond.initialized cls ∈ gWs) (hstr : ∀ U : State, gSR Y U → vk_R own is text sa U) (hat : ∀ w ∈ vx_atS own ic cls ["java/lang/RuntimeException", "java/lang/Exception"], w ∈ gWs ∨ w ∈ gN) (hgood : ∀ w ∈ Cond.classLink own ik cls :: Cond.initialized cls :: vx_atS own ic cls ["java/lang/RuntimeException", "java/lang/Exception"], vx_ot w = true)
    (d0 : decode cc pc = .ok (.new ik, 3)) (d3 : decode cc (pc + 3) = .ok (.dup, 1)) (d4 : decode cc (pc + 4) = .ok (.ldc is, 2)) (d6 : decode cc (pc + 6) = .ok (.invokespecial ic, 3)) (d9 : decode cc (pc + 9) = .ok (.athrow, 1)) (hr : 5 < R.frames ∧ (rest.map fun v => v.category).sum + 82 ≤ R.locals) (hr2 : cells + 1 ≤ R.cells ∧ slots + 6 ≤ R.slots) (hc : cells + 1 ≤ mc ∧ slots + 6 ≤ ms) (hp : X cls ws) : gG E cells slots ws lv rest pc := by
  obtain ⟨p, l, e, R, s, m, args, below, meth, c, nL, A, D, Q⟩ := E
  obtain ⟨rfl, rfl, rfl, rfl, hx, hb, hml, hown, hts, hK, hA, hZ, hlocks, -⟩ := C
  obtain ⟨rfl, rfl, -, htb⟩ := hR
  intro H locs ls hP hD hS hl
  refine vx_throwS (names := ["java/lang/RuntimeException", "java/lang/Exception"]) hx hb hstk hown hcls (by decide +kernel) (hts _ w1) (hts _ w2) (hstr s hZ.2.2.1) (fun w hw => ?_) hgood hZ.2.2.2.2.2.2.2.2.2.1 hZ.2.2.2.2.2.2.2.2.2.2 hS (by rw [hml]; exact hl.1) d0 d3 d4 d6 d9 (by rw [htb]; exact fun x hx => absurd hx List.not_mem_nil) hr.1 hr.2 hr2.1 hr2.2 hlocks (fun t hvm hsz hsame => ?_) hS.2.2 hc.1 hc.2
  · rcases hat w hw with h1 | h1
    · exact hts _ h1
    · exact va_Nw.use (gIsN_on (List.mem_filter.mp h1).2) (hZ.1 _ h1)
  · refine ⟨ws, hp, fun k q hk => (hP k q hk).kept (hsame q.1 (hP k q hk).lt), va_K.moved hvm hK, hD, Nat.le_trans hS.1 hsz, fun q h1 h2 => ?_⟩
    rw [hsame q (Nat.lt_of_lt_of_le h1 hS.1)]
    exact hS.2.1 q h1 h2
theorem g_names {L : List Cond} (h : L.all (fun w => decide (w ∈ lw_tbl) && (goodWord w || gIsN w)) = true) : ∀ w ∈ L, w ∈ gWs ∨ w ∈ gN := by
  intro w hw
  have h1 := List.all_eq_true.mp h w hw
  rw [Bool.and_eq_true, Bool.or_eq_true] at h1
  rcases h1.2 with h2 | h2
  · exact Or.inl (gWs_in (of_decide_eq_true h1.1) h2)
  · exact Or.inr (List.mem_filter.mpr ⟨of_decide_eq_true h1.1, h2⟩)
theorem fat105 : ∀ w ∈ vx_atS RX10 105 "java/lang/IndexOutOfBoundsException" ["java/lang/RuntimeException", "java/lang/Exception"], w ∈ gWs ∨ w ∈ gN := g_names (by decide +kernel)
theorem fot105 : ∀ w ∈ Cond.classLink RX10 101 "java/lang/IndexOutOfBoundsException" :: Cond.initialized "java/lang/IndexOutOfBoundsException" :: vx_atS RX10 105 "java/lang/IndexOutOfBoundsException" ["java/lang/RuntimeException", "java/lang/Exception"], vx_ot w = true := List.all_eq_true.mp (by decide +kernel)
theorem wN_IO : Cond.initialized "java/lang/IndexOutOfBoundsException" ∈ gWs := gWs_t1 (List.mem_of_getElem? (i := 22) rfl) rfl
theorem wN_NS : Cond.initialized "java/util/NoSuchElementException" ∈ gWs := gWs_t1 (List.mem_of_getElem? (i := 23) rfl) rfl

def vnX : String := "java/util/NoSuchElementException"
def vnR : String := "java/lang/RuntimeException"
abbrev vnB : ByteArray := prog_30_method_4_code
theorem vnB_0 : decode vnB 0 = .ok (.aload_n 0, 1) := by decide +kernel
theorem vnB_1 : decode vnB 1 = .ok (.aload_n 1, 1) := by decide +kernel
theorem vnB_2 : decode vnB 2 = .ok (.invokespecial 13, 3) := by decide +kernel
theorem vnB_5 : decode vnB 5 = .ok (.return_, 1) := by decide +kernel
/-- what is asked of the tables for it -/
def vn_atoms : List Cond := Bundle.throwableAtoms ++ Bundle.throwableSAtoms ++ Bundle.passSAtoms vnX vnR 13 vnB ++ Bundle.chainSAtoms vnR ["java/lang/Exception"] ++
  [.methodLink RX10 128 (Bundle.initS vnX), .instantiable vnX 6, .castable vnX vnX, .selects vnX Bundle.tFill0 Bundle.tFill0, .selects vnX Bundle.tFill Bundle.tFill,
   .lays vnX Bundle.tN "cause" "Ljava/lang/Throwable;", .lays vnX Bundle.tN "stackTrace" Bundle.steD, .lays vnX Bundle.tN "suppressedExceptions" Bundle.listD, .lays vnX Bundle.tN "detailMessage" "Ljava/lang/String;",
   .isRef (.static Bundle.tN "UNASSIGNED_STACK" Bundle.steD), .isRef (.static Bundle.tN "SUPPRESSED_SENTINEL" Bundle.listD),
   .fieldLink Bundle.tN 198 Bundle.tN "backtrace" "Ljava/lang/Object;", .lays Bundle.tN Bundle.tN "backtrace" "Ljava/lang/Object;", .lays vnX Bundle.tN "backtrace" "Ljava/lang/Object;"]
set_option maxHeartbeats 4000000 in
theorem vn_ctor {p : Program} {l : Launch} {e : Env} {R : Room} {s : State} {m₀ : MethodId} {args : Array Value} {below : List Frame} {meth : Method} {c : Code} {W : State} {locs : List Loc} {cells slots : Nat} (X : Stand p l e R s m₀ args below meth c W locs cells slots) (hexec : p.tables.exec = Jvm.exec) (htr : e.platform.stackTraces = false)
    (hown : s.vm.findClass RX10 = some m₀.cls) (h : ∀ a ∈ vn_atoms, a.before args s = true) (hlocs : ∀ x ∈ locs, ∀ cell, s.heap[x.base]? = some cell → cell.vm.isStatics = false)
    {a : Addr} {cX : ClassId} {kX : Class} (hfoundX : s.vm.findClass vnX = some cX) (hkX : s.vm.classes[cX]? = some kX) (hcell : W.heap[a]? = some (freshCell cX kX)) (hnew : s.heap.size ≤ a)
    {msg : Value} (hmsg : msg.isRef = true)
    {g : JFrame} (hg : g.method = m₀) (hsize : g.locals.size = c.maxLocals) (hlocked : g.locked = none) (hentered : g.entered = []) {rest : List Value} (hstack : g.stack = msg :: .ref a :: .ref a :: rest)
    (hd6 : decode c.code g.pc = .ok (.invokespecial 128, 3)) (hd9 : decode c.code (g.pc + 3) = .ok (.athrow, 1)) (hout : ∀ x ∈ c.exceptionTable.toList, covers x (g.pc + 3) = false)
    (hRframes : 5 < R.frames) (hRlocals : 2 * g.monitorRoom + ((Value.ref a :: rest).map fun v => v.category).sum + 81 ≤ R.locals) (hlocks : meth.locks = false) :
    ∃ U : State, Steps p.tables e below (W.setTop g) U ∧ U.status = .running ∧ Ended U below (.threw a) ∧ s.WarmedH U.vm ∧ s.sameButNew ({ U with vm := s.vm } : State) locs cells slots ∧
      ∃ ce : Cell, U.heap[a]? = some ce ∧ ce.vm = .none ∧ s.vm.findClass vnX = some ce.cls := by
  have howns : e.platform.frameOwnsMonitors = true := by rw [X.admits.platform]
  have hfin : e.platform.finalization = false := by rw [X.admits.platform]
  have hpl : e.platform.magicAccessors = ({} : Platform).magicAccessors := by rw [X.admits.platform]
  have a' : ∀ x, x ∈ vn_atoms → x.holds args s none s [] = true := fun x hx => h x hx
  obtain ⟨T, Z0, L, -, Y⟩ := ThrowableC.of_atoms (args := args) howns hfin hpl (fun x hx => h x (by simp [vn_atoms, hx]))
  obtain ⟨Z, M, LZ, LM, hnZ⟩ := Init0T.ofS_atoms (args := args) hpl L Y (fun x hx => h x (by simp [vn_atoms, hx]))
  obtain ⟨P1, L1, hP1m, hP1s⟩ := PassC.ofS_atoms (args := args) (s := s) hpl (X := vnX) (Y := vnR) (by decide +kernel) (by decide +kernel) vnB_0 vnB_1 vnB_2 vnB_5 (fun x hx => h x (by simp [vn_atoms, hx]))
  obtain ⟨P2, Ps, hlen, L2, hL, hP2m, hsup2, hpass2⟩ := Bundle.chainS (args := args) hpl hnZ ["java/lang/Exception"] vnR (by decide +kernel) (by decide +kernel) (fun x hx => h x (by simp [vn_atoms, hx]))
  have hlink1 : P1.sup = P2.m := Option.some.inj (hP1s.symm.trans hP2m)
  have hfound : s.vm.findClass vnX = some P1.m.cls := findClass_of_methodNamed hP1m
  cases Option.some.inj (hfoundX.symm.trans hfound)
  obtain ⟨c1, kX', hc1, hk, hord, -, -, hn6⟩ := Cond.instantiable_spec (a' (.instantiable vnX 6) (by simp [vn_atoms]))
  cases Option.some.inj (hc1.symm.trans hfound)
  cases Option.some.inj (hkX.symm.trans hk)
  have hsel0 : selectMethod e.platform s.vm P1.m.cls T.fill0 = .method T.fill0 := by
    obtain ⟨c2, r2, m2, q1, q2, q3, q4, -⟩ := Cond.selects_spec (a' (.selects vnX Bundle.tFill0 Bundle.tFill0) (by simp [vn_atoms]))
    cases Option.some.inj (q1.symm.trans hfound)
    cases Option.some.inj (q2.symm.trans (State.methodFound?_of_named Y.fill0 (by decide)))
    cases Option.some.inj (q3.symm.trans Y.fill0)
    rw [Launch.admits_selectMethod X.admits]; exact q4
  have hselF : selectMethod e.platform s.vm P1.m.cls T.fill = .method T.fill := by
    obtain ⟨c2, r2, m2, q1, q2, q3, q4, -⟩ := Cond.selects_spec (a' (.selects vnX Bundle.tFill Bundle.tFill) (by simp [vn_atoms]))
    cases Option.some.inj (q1.symm.trans hfound)
    cases Option.some.inj (q2.symm.trans (State.methodFound?_of_named Y.fill (by decide)))
    cases Option.some.inj (q3.symm.trans Y.fill)
    rw [Launch.admits_selectMethod X.admits]; exact q4
  obtain ⟨cellS0, hcS0, hiss⟩ := Y.statics
  obtain ⟨u0, hu0⟩ := Cond.staticRefV Y.unassigned L.unassignedStatic L.statics hcS0 hiss (a' (.isRef (.static Bundle.tN "UNASSIGNED_STACK" Bundle.steD)) (by simp [vn_atoms]))
  obtain ⟨sen, hsen⟩ := Cond.staticRefV Y.sentinel L.sentinelStatic L.statics hcS0 hiss (a' (.isRef (.static Bundle.tN "SUPPRESSED_SENTINEL" Bundle.listD)) (by simp [vn_atoms]))
  obtain ⟨ci198, i198, fB, hk198, hg198, ha198, hsB, -, hnB, htB, hffB⟩ := Cond.ownField (t := .object "java/lang/Object") Y.found L.cls (by decide +kernel) (a' (.fieldLink Bundle.tN 198 Bundle.tN "backtrace" "Ljava/lang/Object;") (by simp [vn_atoms])) (a' (.lays Bundle.tN Bundle.tN "backtrace" "Ljava/lang/Object;") (by simp [vn_atoms])) e.platform hpl
  obtain ⟨cellS, hcS', heS, -, hkeep⟩ := X.same.2.2.2.2.2 T.aS cellS0 hcS0
  have hcellS : W.heap[T.aS]? = some cellS := hcS'
  have hout' : ∀ i, (⟨T.aS, i⟩ : Loc) ∉ locs := fun i hmem => by
    have := hlocs _ hmem cellS0 hcS0
    rw [hiss] at this; cases this
  have hknownS : cellS.vm ≠ .unknown := by
    rw [heS]; intro hu
    rw [show cellS0.vm = .unknown from hu] at hiss
    cases hiss
  have hneS : T.aS ≠ a := Nat.ne_of_lt (Nat.lt_of_lt_of_le (Array.getElem?_eq_some_iff.mp hcS0).1 hnew)
  obtain ⟨iM, hffM⟩ := Y.msg
  obtain ⟨tyC, dC, hdC, hdnC⟩ := Cond.laysAt hfound hk Y.cause (a' (.lays vnX Bundle.tN "cause" "Ljava/lang/Throwable;") (by simp [vn_atoms]))
  obtain ⟨tyS, dS, hdS, hdnS⟩ := Cond.laysAt hfound hk Y.stack (a' (.lays vnX Bundle.tN "stackTrace" Bundle.steD) (by simp [vn_atoms]))
  obtain ⟨tyP, dP, hdP, hdnP⟩ := Cond.laysAt hfound hk Y.supp (a' (.lays vnX Bundle.tN "suppressedExceptions" Bundle.listD) (by simp [vn_atoms]))
  obtain ⟨tyM, dM, hdM, hdnM⟩ := Cond.laysAt hfound hk hffM (a' (.lays vnX Bundle.tN "detailMessage" "Ljava/lang/String;") (by simp [vn_atoms]))
  obtain ⟨tyB, dB, hdB, hdnB⟩ := Cond.laysAt hfound hk hffB (a' (.lays vnX Bundle.tN "backtrace" "Ljava/lang/Object;") (by simp [vn_atoms]))
  have bC := Cond.laysApart hdB hdC hdnB hdnC (by rw [hnB, Y.causeName]; decide)
  have bS := Cond.laysApart hdB hdS hdnB hdnS (by rw [hnB, Y.stackName]; decide)
  have bP := Cond.laysApart hdB hdP hdnB hdnP (by rw [hnB, Y.suppName]; decide)
  have hskip : SkipFacts T e.platform s (fun u => u) u0 ((preparedCellV T.toThrowableT (freshCell P1.m.cls kX) a u0 sen).withEntry W.cur) :=
    ⟨{ ci198 := ci198, i198 := i198, fBack := fB }, ⟨hk198, hg198, ha198, hsB⟩, by
      have := fresh_default (c := P1.m.cls) tyB
      rw [htB] at this
      simpa [preparedCellV, Cell.setSlot, Cell.withEntry, Array.getElem?_setIfInBounds, bC, bS, bP, bC.symm, bS.symm, bP.symm, defaultValue] using this, fun _ _ => rfl⟩
  obtain ⟨tm, methC, cdC, kC, vm₁, hnC, -, -, -, -, -, -, -, hW₁, st1⟩ := Steps.initColdS (tb := p.tables) (e := e) (below := below) (s := s) (U := W) X.here hexec X.warmed hpl hown (t := Bundle.initS vnX) rfl rfl (by decide +kernel)
    (a' (.methodLink RX10 128 (Bundle.initS vnX)) (by simp [vn_atoms])) (h (.instanceMethod (Bundle.initS vnX)) (by simp [vn_atoms, Bundle.passSAtoms])) (bytes := vnB) (maxL := 2) (h (.code (Bundle.initS vnX) vnB 2 none) (by simp [vn_atoms, Bundle.passSAtoms]))
    (f := g) hg (a := a) (msg := msg) (rest := .ref a :: rest) hstack hd6
  cases Option.some.inj (hnC.symm.trans hP1m)
  have X₁ := X.noted hW₁
  obtain ⟨vm₂, X₂, st2⟩ := X₁.ctorMessageOffV hexec (g := { g with stack := .ref a :: rest }) hg hsize T L Z LZ M LM (P1 :: P2 :: Ps)
    (fun P hP => by
      rcases List.mem_cons.mp hP with rfl | hP
      · exact L1
      · rcases List.mem_cons.mp hP with rfl | hP
        · exact L2
        · exact hL P hP) ⟨hlink1, hsup2, hpass2⟩ (u0 := u0) (sen := sen) (self := a) hmsg (cell := freshCell P1.m.cls kX) (cellS := cellS)
    hcell (fun _ => by simp) (by simp) rfl rfl hsel0 hselF hcellS hneS hknownS (by rw [hkeep _ (hout' _)]; exact hu0) (by rw [hkeep _ (hout' _)]; exact hsen)
    (Takes.of_laid hk hord tyC (by rw [Y.causeType]; rfl)) (Takes.of_laid hk hord tyS (by rw [Y.stackType]; exact fits_refV_array _ u0)) (Takes.of_laid hk hord tyP (by rw [Y.suppType]; exact fits_refV_object _ sen))
    (Takes.of_laid hk hord tyM (by rw [Y.msgType]; exact fits_refV_object _ ⟨msg, hmsg⟩)) Y.objLocals hskip htr [] hd6
    (by simp only [List.length_cons, hlen, List.length_nil]; omega) (by simp only [List.length_cons, hlen, List.length_nil]; exact hRlocals)
  obtain ⟨hwalk, hrun, hended, hWU, hsame⟩ := X₂.athrowLeaves hexec (g := { g with stack := .ref a :: rest, pc := g.pc + 3 }) hg hlocked hentered hout (a := a) (rest := rest) rfl hd9
  have hlt : a < ((W.setVm vm₁).setVm vm₂).heap.size := (Array.getElem?_eq_some_iff.mp hcell).1
  have hU := heapAt_setCell_self (s := (W.setVm vm₁).setVm vm₂) (plainBareV T.toThrowableT (freshCell P1.m.cls kX) a u0 sen msg) hlt
  refine ⟨_, st1 _ (fun acts => ?_), hrun, hended, hWU, hsame.weaken (fun y hy hlt' => ?_) (Nat.le_refl _) (Nat.le_refl _), _, hU, rfl, hfound⟩
  · rw [doInvoke_state]
    exact st2 _ hwalk
  · rcases List.mem_append.mp hy with h1 | h1
    · exact h1
    · exfalso
      have hb : y.base = a := by
        simp only [List.mem_cons, List.not_mem_nil, or_false] at h1
        rcases h1 with rfl | rfl | rfl | rfl | rfl <;> rfl
      rw [hb] at hlt'
      exact Nat.not_lt.mpr hnew hlt'

theorem vn_list : ∀ w ∈ vn_atoms.filter vx_no, (w ∈ gWs ∨ w ∈ gN) ∧ vx_ot w = true := by
  have h1 : ∀ w ∈ vn_atoms.filter vx_no, w ∈ gWs ∨ w ∈ gN := g_names (by decide +kernel)
  have h2 : (vn_atoms.filter vx_no).all vx_ot = true := by decide +kernel
  exact fun w hw => ⟨h1 w hw, List.all_eq_true.mp h2 w hw⟩
set_option maxHeartbeats 4000000 in
/-- the same for NoSuchElementException, whose constructor links its parent's by the entry 13 -/
theorem g_throwN {E : gE} {l : Launch} {D : va_G} {Y : Nat → ClassId} {cc : ByteArray} {own : String} {R : Room} {nL : Nat} {cells slots : Nat} {ws : va_W} {lv : List (Nat × Value)} {rest : List Value} {pc : Nat} {mc ms : Nat} {ws0 : va_W} {P : Option Value → va_W → Prop} {X : String → va_W → Prop} {ret : Option FieldType} (C : gOK E l D Y cc own R nL) {text : String} {is sa : Nat} (hR : gRetX E D Y mc ms ws0 P X ret []) (hstk : l.stackTraces = false) (ho : own = RX10) (hstr : ∀ U : State, gSR Y U → vk_R own is text sa U)
    (d0 : decode cc pc = .ok (.new 124, 3)) (d3 : decode cc (pc + 3) = .ok (.dup, 1)) (d4 : decode cc (pc + 4) = .ok (.ldc is, 2)) (d6 : decode cc (pc + 6) = .ok (.invokespecial 128, 3)) (d9 : decode cc (pc + 9) = .ok (.athrow, 1)) (hr : 5 < R.frames ∧ (rest.map fun v => v.category).sum + 82 ≤ R.locals) (hr2 : cells + 1 ≤ R.cells ∧ slots + 6 ≤ R.slots) (hc : cells + 1 ≤ mc ∧ slots + 6 ≤ ms) (hp : X "java/util/NoSuchElementException" ws) : gG E cells slots ws lv rest pc := by
  obtain ⟨p, l, e, R, s, m, args, below, meth, c, nL, A, D, Q⟩ := E
  obtain ⟨rfl, rfl, rfl, rfl, hx, hb, hml, hown, hts, hK, hA, hZ, hlocks, -⟩ := C
  obtain ⟨rfl, rfl, -, htb⟩ := hR
  subst ho
  intro H locs ls hP hD hS hl T hT X1
  have htr : e.platform.stackTraces = false := (show e.platform.stackTraces = l.stackTraces by rw [X1.admits.platform]).trans hstk
  have Y1 := vx_rebase X1 (R' := { frames := R.frames, locals := R.locals, cells := 1, slots := 6 }) (Nat.le_refl _) (Nat.le_refl _) hr2.1 hr2.2
  obtain ⟨s', hA'⟩ : ∃ z, z = (T.setVm s.vm).setFrames (.invoking m args :: below) := ⟨_, rfl⟩
  rw [← hA'] at Y1
  have hvm : s'.vm = s.vm := by rw [hA']; rfl
  have hhp : s'.heap = H := by rw [hA']; exact hT
  have hW0 : s.WarmedH s'.vm := by rw [hvm]; exact State.WarmedH.refl s
  have hU' := vx_Zq.moved hW0.alike (hZ.2.2.2.2.2.2.2.2.2.1.kept hS.2.1)
  have hN' := vx_Zq.moved hW0.alike (hZ.2.2.2.2.2.2.2.2.2.2.kept hS.2.1)
  rw [← hhp] at hU' hN'
  have hw4 : ∀ w ∈ vn_atoms, w.before args s' = true := by
    intro w hw
    by_cases e1 : w = .isRef (.static Bundle.tN "UNASSIGNED_STACK" Bundle.steD)
    · rw [e1]; exact vx_isRefq hU'.1
    by_cases e2 : w = .isRef (.static Bundle.tN "SUPPRESSED_SENTINEL" Bundle.listD)
    · rw [e2]; exact vx_isRefq hN'.1
    by_cases e3 : w = .laysStatic Bundle.tN "UNASSIGNED_STACK" Bundle.steD
    · rw [e3]; exact hU'.2.word
    by_cases e4 : w = .laysStatic Bundle.tN "SUPPRESSED_SENTINEL" Bundle.listD
    · rw [e4]; exact hN'.2.word
    obtain ⟨g1, g2⟩ := vn_list w (List.mem_filter.mpr ⟨hw, by simp [vx_no, e1, e2, e3, e4]⟩)
    refine vx_ot_at (args := args) hW0 hvm.symm g2 ?_
    rcases g1 with g1 | g1
    · exact hts _ g1
    · exact va_Nw.use (gIsN_on (List.mem_filter.mp g1).2) (hZ.1 _ g1)
  have hk' : (Cond.classLink RX10 124 vnX).before args s' = true := vx_ot_at hW0 hvm.symm (by decide +kernel) (hts _ wL_X10_124)
  have hini' : (Cond.initialized vnX).before args s' = true := vx_ot_at hW0 hvm.symm (by decide +kernel) (hts _ wN_NS)
  have hown' : s'.vm.findClass RX10 = some m.cls := by rw [hvm]; exact hown
  have hins : (Cond.instantiable vnX 6).before args s' = true := hw4 _ (by simp [vn_atoms])
  obtain ⟨vm₁, cX, kX, hfX, hkX, -, -, X₁, st1⟩ := Y1.newCold hx (own := RX10) (C := vnX) (index := 124) (n := 6) hown' hk' hins hini'
    (g := F0 m pc ls rest) rfl (by rw [hb]; exact d0) (Nat.le_refl _) (Nat.le_refl _)
  generalize hT1 : (T.setVm vm₁).pushCell { cls := cX, slots := kX.instanceTypes.map defaultValue, vm := .none } = T1 at X₁ st1
  have hcat : (Value.ref T.heap.size).category = 1 := rfl
  have hcellA : T1.heap[T.heap.size]? = some (freshCell cX kX) := by rw [← hT1]; exact State.heap_pushCell_size _ _
  have d3' : decode c.code (pc + 3) = .ok (.dup, 1) := by rw [hb]; exact d3
  have d4' : decode c.code (pc + 4) = .ok (.ldc is, 2) := by rw [hb]; exact d4
  have hstr' : vk_R RX10 is text sa s' := vk_R.warm hW0 (hstr s hZ.2.2.1)
  obtain ⟨U, hsteps, hrun, hend, hW, hsame, ce, hce, hcv, hcl0⟩ := vn_ctor X₁ hx htr hown' hw4 (fun x hx => nomatch hx) hfX hkX hcellA (by rw [hhp, hT]; exact Nat.le_refl _) (msg := .ref sa) rfl
    (g := { method := m, pc := pc + 6, locals := ls, stack := .ref sa :: .ref T.heap.size :: .ref T.heap.size :: rest, locked := none }) rfl (by rw [hml]; exact hl.1) rfl rfl (rest := rest) rfl
    (by rw [hb]; exact d6) (by rw [hb]; exact d9) (by rw [htb]; exact fun x hx => absurd hx List.not_mem_nil) hr.1 (by simp only [List.map_cons, List.sum_cons, hcat]; have := hr.2; show 2 * 0 + _ + _ ≤ _; omega) hlocks
  obtain ⟨f1, f2⟩ := vx_frame hsame
  rw [hhp] at f1 f2
  have hWs : s.WarmedH U.vm := State.WarmedH.trans hW0 hW
  have hcl : s.vm.findClass vnX = some ce.cls := by rw [hvm] at hcl0; exact hcl0
  have hall : s.sameButNew ({ U with vm := s.vm } : State) locs mc ms := by
    subst hA'
    obtain ⟨e1, e2⟩ := hsame
    rw [State.setFrames_setFrames] at e1
    have h2 : (T.setVm s.vm).sameButNew ({ U with vm := s.vm } : State) [] (0 + 1) (0 + 6) := ⟨e1, e2⟩
    have h3 := X1.same.trans h2
    rw [List.append_nil] at h3
    exact h3.mono hc.1 hc.2
  have hsm : ∀ q : Nat, q < H.size → U.heap[q]? = H[q]? := fun q hq => f2 q hq (fun z hz => nomatch hz)
  refine ⟨U, ?_, .threw T.heap.size, hrun, hend, Or.inr ⟨T.heap.size, rfl, "java/util/NoSuchElementException", ce, locs, ⟨ws, hp, fun k q hk => (hP k q hk).kept (hsm q.1 (hP k q hk).lt), va_K.moved hWs.alike hK, hD, Nat.le_trans hS.1 f1, fun q h1 h2 => ?_⟩, hce, hcv, hcl, hWs, hall, hS.2.2⟩⟩
  · refine st1 _ ?_
    show Steps p.tables e below (T1.setTop { method := m, pc := pc + 3, locals := ls, stack := .ref T.heap.size :: rest, locked := none }) _
    jvm_step X₁.here [X₁.here.top, hx, d3', Value.category]
    exact X₁.ldcString hx (own := RX10) (text := text) (index := is) (a := sa) hown' hstr'.1 hstr'.2
      (g := { method := m, pc := pc + 4, locals := ls, stack := .ref T.heap.size :: .ref T.heap.size :: rest, locked := none }) rfl d4' _ hsteps
  · rw [hsm q (Nat.lt_of_lt_of_le h1 hS.1)]
    exact hS.2.1 q h1 h2
theorem wCW_L_function : Cond.codeWith yL_function cL_function 5 (some .int) [(0, 10, 13, 13), (0, 10, 17, 15)] ∈ gWs := gWs_t5 (List.mem_of_getElem? (i := 16) rfl) rfl
theorem wCs_IO : Cond.castable "java/lang/IndexOutOfBoundsException" "java/lang/IndexOutOfBoundsException" ∈ gN := gN_t5 (List.mem_of_getElem? (i := 25) rfl) rfl
theorem wCs_NS : Cond.castable "java/util/NoSuchElementException" "java/util/NoSuchElementException" ∈ gN := gN_t5 (List.mem_of_getElem? (i := 91) rfl) rfl
def gT (E : gE) (cells slots : Nat) (ws : va_W) (lv : List (Nat × Value)) (st : List Value) (pc : Nat) (cls : String) (q : Nat) : Prop :=
  match E with
  | (p, l, e, R, s, m, args, below, meth, c, nL, A, D, Q) => ∀ (H : Heap) (locs : List Loc) (ls : Array Slot), va_P D vwCl ws H → va_D A ws → va_S A s.heap H locs → lv_has ls nL lv → (∃ ce : Cell, H[q]? = some ce ∧ ce.vm = .none ∧ s.vm.findClass cls = some ce.cls) → vx_W p l e R s m args below meth c H locs cells slots Q (F0 m pc ls st) q
theorem g_catch {E : gE} {l : Launch} {D : va_G} {Y : Nat → ClassId} {cc : ByteArray} {own : String} {R : Room} {nL : Nat} {cells slots : Nat} {ws : va_W} {lv : List (Nat × Value)} {rest : List Value} {pc : Nat} (C : gOK E l D Y cc own R nL) {mc ms : Nat} {ws0 : va_W} {P : Option Value → va_W → Prop} {X : String → va_W → Prop} {ret : Option FieldType} {tb : List ExceptionTableEntry} {cls name : String} {q : Nat} (hR : gRetX E D Y mc ms ws0 P X ret tb) (pre : List ExceptionTableEntry) (x : ExceptionTableEntry) (suf : List ExceptionTableEntry) (hsplit : tb = pre ++ x :: suf)
    (hpass : ∀ z ∈ pre, z.catchType ≠ 0 ∧ ∃ nm : String, Cond.classLink own z.catchType nm ∈ gWs ∧ ∀ (A : Nat → Prop) (U : State) (H : Heap), gZ Y A U H → va_Nc cls nm U) (hx0 : covers x pc = true) (h0 : x.catchType ≠ 0) (hlink : Cond.classLink own x.catchType name ∈ gWs) (hcast : Cond.castable cls name ∈ gN) (h : gG E cells slots ws lv [.ref q] x.handlerPc) : gT E cells slots ws lv rest pc cls q := by
  obtain ⟨p, l, e, R, s, m, args, below, meth, c, nL, A, D, Q⟩ := E
  obtain ⟨rfl, rfl, rfl, rfl, hx, hb, hml, hown, hts, hK, hA, hZ, hlocks, -⟩ := C
  obtain ⟨rfl, rfl, -, htb⟩ := hR
  intro H locs ls hP hD hS hl hce
  obtain ⟨ce, z1, z2, z3⟩ := hce
  exact vx_catch (name := name) hown pre x suf (htb.trans hsplit) (fun z hz => Or.inr ⟨(hpass z hz).1, by obtain ⟨nm, g1, g2⟩ := (hpass z hz).2; exact ⟨nm, hts _ g1, g2 _ _ _ hZ⟩⟩) hx0 h0 (hts _ hlink) (va_Nw.use rfl (hZ.1 _ hcast)) z1 z2 z3 (h H locs ls hP hD hS hl)
theorem g_callVX {E : gE} {l : Launch} {D : va_G} {Y : Nat → ClassId} {cc : ByteArray} {own : String} {R : Room} {nL : Nat} {cells slots : Nat} {ws : va_W} {lv : List (Nat × Value)} {rest : List Value} {pc : Nat} (C : gOK E l D Y cc own R nL) {y : MethodName} {bytes : ByteArray} {maxL : Nat} {ret : Option FieldType} {fr lo mc ms idx n : Nat} {As : List Value} {wc : va_W} {P : Option Value → va_W → Prop} {X : String → va_W → Prop} {st : List Value} {b ci q0 : Nat} {fs : List Value} {T : u_T} {N : Nat} (hM : gMX l D Y y bytes maxL ret fr lo mc ms (.ref b :: As) wc P X) (hd : decode cc pc = .ok (.invokevirtual idx, 3)) (hst : st = As.reverse ++ .ref b :: rest) (w1 : Cond.methodLink own idx y ∈ gWs) (w2 : Cond.instanceMethod y ∈ gWs) (w3 : Cond.selects y.cls y y ∈ gWs) (w4 : Cond.initialized y.cls ∈ gWs) (w5 : Cond.code y bytes maxL ret ∈ gWs) (hy : gY y n = true) (hn : As.length = n) (he : wc[q0]? = some (b, .inr (ci, fs))) (hc : vwCl[ci]? = some (y.cls, T, N)) (hr1 : fr + 1 ≤ R.frames ∧ 8 + (maxL + 11) + lo ≤ R.locals) (hr2 : cells + mc ≤ R.cells ∧ slots + ms ≤ R.slots) (hrest : (rest.map fun v => v.category).sum ≤ 8) (isC isR : List Nat) (hC : isC.map (fun i => ws[i]?) = wc.map some) (hR : isR.all (fun i => Nat.blt i ws.length) = true) (hpart : gPart isC isR = true)
    (k : ∀ (v : Option Value) (wc' : va_W), P v wc' → gG E (cells + mc) (slots + ms) (isR.filterMap (fun i => ws[i]?) ++ wc') lv (v.toList ++ rest) (pc + 3))
    (kx : ∀ (cls : String) (wc' : va_W) (q : Nat), X cls wc' → gT E (cells + mc) (slots + ms) (isR.filterMap (fun i => ws[i]?) ++ wc') lv rest pc cls q) : gG E cells slots ws lv st pc := by
  obtain ⟨p, l, e, R, s, m, args, below, meth, c, nL, A, D, Q⟩ := E
  obtain ⟨rfl, rfl, rfl, rfl, hx, hb, hml, hown, hts, hK, hA, hZ, hlocks, -⟩ := C
  intro H locs ls hP hD hS hl
  simp only [gPart, Bool.and_eq_true, List.all_eq_true, Bool.not_eq_true', List.contains_eq_mem, decide_eq_false_iff_not] at hpart
  obtain ⟨⟨hnC, hnR⟩, hdis⟩ := hpart
  have hPc := hP.sub isC (g_pick isC wc hC)
  have hDc := (hD.sub isC hnC hC).weaken (B := fun _ => True) (fun _ _ _ _ => trivial)
  have hFc := va_free (wc := wc) hD hS hA isC hC
  have hZc : ∀ U : State, U.heap = H → s.WarmedH U.vm → gZ Y (va_A wc H.size) U U.heap := fun U hU hW => by rw [hU]; exact (gZ.kept (gZ.warm hW hZ) (fun q h1 h2 => hS.2.1 q h1 h2)).narrow hFc
  have hrun := vx_runV (p := p) (e := e) (below := below) (meth := meth) (Ts := gWs) (nL := nL) (rest := rest) (C := y.cls) (locs := locs) (g := F0 m pc ls st) ⟨hx, hb, hml, hown, hts⟩ (hM H.size) ⟨callB_of n hts (gWs_good w5) rfl rfl rfl (hts _ w4) (hts _ w1) (gY_of hy) hr1, hts _ w2, hts _ w3⟩ ⟨gPre_blind, va_recv hK hPc hc he, fun U hU hW => ⟨rfl, by rw [hU], by rw [hU]; exact hPc, va_K.moved hW.alike hK, hDc, hZc U hU hW⟩⟩ rfl hn hl.1 hst (lv_room hrest) hd hr2
  intro T hT X1
  have fin : ∀ (T' t st₀ : State) (L : List Loc) (ws' : va_W), st₀.heap = H → T'.heap = t.heap → va_P D vwCl ws' t.heap → va_D (va_A wc H.size) ws' → va_F (va_A wc H.size) st₀ t → (∀ q ∈ L, va_A wc H.size q.base) → va_P D vwCl (isR.filterMap (fun i => ws[i]?) ++ ws') T'.heap ∧ va_D A (isR.filterMap (fun i => ws[i]?) ++ ws') ∧ va_S A s.heap T'.heap (locs ++ L) := by
    intro T' t st₀ L ws' h0 e1 hP1 hD1 hF hL
    obtain ⟨hz, hk⟩ := hF
    rw [h0] at hz hk
    rw [← e1] at hP1 hz hk
    obtain ⟨hPj, hDj⟩ := va_join hP hD isC isR hC (g_rest ws isR hR) hnR hdis hk hFc hP1 hD1
    refine ⟨hPj, hDj, Nat.le_trans hS.1 hz, fun q h1 h2 => ?_, fun q hq => ?_⟩
    · rw [hk q (Nat.lt_of_lt_of_le h1 hS.1) (fun z => h2 (hFc q z))]
      exact hS.2.1 q h1 h2
    · rcases List.mem_append.mp hq with h | h
      · exact hS.2.2 q h
      · exact hFc _ (hL q h)
  rcases hrun T hT X1 with ⟨v, st₀, t, T', L, h0, X', hL, e1, e2, ⟨⟨v', ws', hv, hp, hP1, hK1, hD1⟩, hF⟩, go⟩ | ⟨q, st₀, t, T', L, cls, ce, h0, X', hL, e1, e2, ⟨ws', hp, hP1, hK1, hD1, hF⟩, z1, z2, z3, go⟩
  · cases hv
    obtain ⟨f1, f2, f3⟩ := fin T' t st₀ L ws' h0 e1 hP1 hD1 hF hL
    obtain ⟨t2, a1, b1⟩ := k v ws' hp T'.heap (locs ++ L) ls f1 f2 f3 hl T' rfl X'
    exact ⟨t2, go t2 a1, b1⟩
  · obtain ⟨f1, f2, f3⟩ := fin T' t st₀ L ws' h0 e1 hP1 hD1 hF hL
    obtain ⟨t2, a1, b1⟩ := kx cls ws' q hp T'.heap (locs ++ L) ls f1 f2 f3 hl ⟨ce, by rw [e1]; exact z1, z2, z3⟩ T' rfl X'
    exact ⟨t2, go.trans a1, b1⟩
/-- a static call of a method with handlers that always returns -/
theorem g_callSH {E : gE} {l : Launch} {D : va_G} {Y : Nat → ClassId} {cc : ByteArray} {own : String} {R : Room} {nL : Nat} {cells slots : Nat} {ws : va_W} {lv : List (Nat × Value)} {rest : List Value} {pc : Nat} (C : gOK E l D Y cc own R nL) {y : MethodName} {bytes : ByteArray} {maxL : Nat} {ret : Option FieldType} {hh : List (Nat × Nat × Nat × Nat)} {fr lo mc ms idx n : Nat} {As : List Value} {wc : va_W} {P : Option Value → va_W → Prop} {st : List Value} (hM : gMH l D Y y bytes maxL ret hh fr lo mc ms As wc P) (hd : decode cc pc = .ok (.invokestatic idx, 3)) (hst : st = As.reverse ++ rest) (w1 : Cond.methodLink own idx y ∈ gWs) (w2 : Cond.static y ∈ gWs) (w4 : Cond.initialized y.cls ∈ gWs) (w5 : Cond.codeWith y bytes maxL ret hh ∈ gWs) (hy : gY y n = true) (hn : As.length = n) (hr1 : fr + 1 ≤ R.frames ∧ 8 + (maxL + 11) + lo ≤ R.locals) (hr2 : cells + mc ≤ R.cells ∧ slots + ms ≤ R.slots) (hrest : (rest.map fun v => v.category).sum ≤ 8) (isC isR : List Nat) (hC : isC.map (fun i => ws[i]?) = wc.map some) (hR : isR.all (fun i => Nat.blt i ws.length) = true) (hpart : gPart isC isR = true)
    (k : ∀ (v : Option Value) (wc' : va_W), P v wc' → gG E (cells + mc) (slots + ms) (isR.filterMap (fun i => ws[i]?) ++ wc') lv (v.toList ++ rest) (pc + 3)) : gG E cells slots ws lv st pc := by
  refine g_run C isC isR hC (g_rest ws isR hR) hpart ?_ k
  obtain ⟨p, l, e, R, s, m, args, below, meth, c, nL, A, D, Q⟩ := E
  obtain ⟨rfl, rfl, rfl, rfl, hx, hb, hml, hown, hts, hK, hA, hZ, hlocks, -⟩ := C
  intro H locs ls hP hD hZc hl
  refine ⟨As.toArray, ?_⟩
  have hrun := vx_runSX (p := p) (e := e) (below := below) (meth := meth) (Ts := gWs) (nL := nL) (rest := rest) (locs := locs) (hh := hh) (g := F0 m pc ls st) (cells := cells) (slots := slots) (H := H) ⟨hx, hb, hml, hown, hts⟩ (hM H.size) ⟨⟨rfl, rfl, hr1.1, hr1.2, pay_in hts (gWs_good w5), List.mem_cons_self⟩, hts _ w5, hts _ w4, ⟨(gY_of hy).1, (gY_of hy).2.1⟩, (fun sig hsig => by have h2 := (gY_of hy).2.2; rw [hsig] at h2; exact (Option.some.inj h2).symm), hts _ w1, hts _ w2⟩ ⟨gPre_blind, fun U hU hW => ⟨rfl, by rw [hU], by rw [hU]; exact hP, va_K.moved hW.alike hK, hD, hZc U hU hW⟩⟩ rfl hn hl.1 hst (lv_room hrest) hd hr2
  intro T hT X1
  rcases hrun T hT X1 with h1 | ⟨q, st₀, t, T', L, cls, ce, h0, X', hL, e1, e2, ⟨ws', hp, -⟩, -⟩
  · exact h1
  · exact hp.elim
theorem dX10_function_0 : decode cX10_function 0 = .ok (.aload_n 0, 1) := by decide +kernel
theorem dX10_function_1 : decode cX10_function 1 = .ok (.getfield 10, 3) := by decide +kernel
theorem dX10_function_4 : decode cX10_function 4 = .ok (.iload_n 1, 1) := by decide +kernel
theorem dX10_function_5 : decode cX10_function 5 = .ok (.invokevirtual 98, 3) := by decide +kernel
theorem dX10_function_8 : decode cX10_function 8 = .ok (.ifCond .ne 13, 3) := by decide +kernel
theorem dX10_function_11 : decode cX10_function 11 = .ok (.new 101, 3) := by decide +kernel
theorem dX10_function_14 : decode cX10_function 14 = .ok (.dup, 1) := by decide +kernel
theorem dX10_function_15 : decode cX10_function 15 = .ok (.ldc 103, 2) := by decide +kernel
theorem dX10_function_17 : decode cX10_function 17 = .ok (.invokespecial 105, 3) := by decide +kernel
theorem dX10_function_20 : decode cX10_function 20 = .ok (.athrow, 1) := by decide +kernel
theorem dX10_function_21 : decode cX10_function 21 = .ok (.iload_n 2, 1) := by decide +kernel
theorem dX10_function_22 : decode cX10_function 22 = .ok (.tableswitch 84 0 4 #[34, 44, 54, 64, 74], 34) := by decide +kernel
theorem dX10_function_56 : decode cX10_function 56 = .ok (.aload_n 0, 1) := by decide +kernel
theorem dX10_function_57 : decode cX10_function 57 = .ok (.getfield 10, 3) := by decide +kernel
theorem dX10_function_60 : decode cX10_function 60 = .ok (.getfield 108, 3) := by decide +kernel
theorem dX10_function_63 : decode cX10_function 63 = .ok (.iload_n 1, 1) := by decide +kernel
theorem dX10_function_64 : decode cX10_function 64 = .ok (.iaload, 1) := by decide +kernel
theorem dX10_function_65 : decode cX10_function 65 = .ok (.ireturn, 1) := by decide +kernel
theorem dX10_function_66 : decode cX10_function 66 = .ok (.aload_n 0, 1) := by decide +kernel
theorem dX10_function_67 : decode cX10_function 67 = .ok (.getfield 10, 3) := by decide +kernel
theorem dX10_function_70 : decode cX10_function 70 = .ok (.getfield 112, 3) := by decide +kernel
theorem dX10_function_73 : decode cX10_function 73 = .ok (.iload_n 1, 1) := by decide +kernel
theorem dX10_function_74 : decode cX10_function 74 = .ok (.iaload, 1) := by decide +kernel
theorem dX10_function_75 : decode cX10_function 75 = .ok (.ireturn, 1) := by decide +kernel
theorem dX10_function_76 : decode cX10_function 76 = .ok (.aload_n 0, 1) := by decide +kernel
theorem dX10_function_77 : decode cX10_function 77 = .ok (.getfield 10, 3) := by decide +kernel
theorem dX10_function_80 : decode cX10_function 80 = .ok (.getfield 115, 3) := by decide +kernel
theorem dX10_function_83 : decode cX10_function 83 = .ok (.iload_n 1, 1) := by decide +kernel
theorem dX10_function_84 : decode cX10_function 84 = .ok (.iaload, 1) := by decide +kernel
theorem dX10_function_85 : decode cX10_function 85 = .ok (.ireturn, 1) := by decide +kernel
theorem dX10_function_86 : decode cX10_function 86 = .ok (.aload_n 0, 1) := by decide +kernel
theorem dX10_function_87 : decode cX10_function 87 = .ok (.getfield 10, 3) := by decide +kernel
theorem dX10_function_90 : decode cX10_function 90 = .ok (.getfield 118, 3) := by decide +kernel
theorem dX10_function_93 : decode cX10_function 93 = .ok (.iload_n 1, 1) := by decide +kernel
theorem dX10_function_94 : decode cX10_function 94 = .ok (.iaload, 1) := by decide +kernel
theorem dX10_function_95 : decode cX10_function 95 = .ok (.ireturn, 1) := by decide +kernel
theorem dX10_function_96 : decode cX10_function 96 = .ok (.aload_n 0, 1) := by decide +kernel
theorem dX10_function_97 : decode cX10_function 97 = .ok (.getfield 10, 3) := by decide +kernel
theorem dX10_function_100 : decode cX10_function 100 = .ok (.getfield 121, 3) := by decide +kernel
theorem dX10_function_103 : decode cX10_function 103 = .ok (.iload_n 1, 1) := by decide +kernel
theorem dX10_function_104 : decode cX10_function 104 = .ok (.iaload, 1) := by decide +kernel
theorem dX10_function_105 : decode cX10_function 105 = .ok (.ireturn, 1) := by decide +kernel
theorem dX10_function_106 : decode cX10_function 106 = .ok (.new 124, 3) := by decide +kernel
theorem dX10_function_109 : decode cX10_function 109 = .ok (.dup, 1) := by decide +kernel
theorem dX10_function_110 : decode cX10_function 110 = .ok (.ldc 126, 2) := by decide +kernel
theorem dX10_function_112 : decode cX10_function 112 = .ok (.invokespecial 128, 3) := by decide +kernel
theorem dX10_function_115 : decode cX10_function 115 = .ok (.athrow, 1) := by decide +kernel
theorem dL_function_0 : decode cL_function 0 = .ok (.aload_n 3, 1) := by decide +kernel
theorem dL_function_1 : decode cL_function 1 = .ok (.iconst 0, 1) := by decide +kernel
theorem dL_function_2 : decode cL_function 2 = .ok (.aload_n 0, 1) := by decide +kernel
theorem dL_function_3 : decode cL_function 3 = .ok (.iload_n 1, 1) := by decide +kernel
theorem dL_function_4 : decode cL_function 4 = .ok (.iload_n 2, 1) := by decide +kernel
theorem dL_function_5 : decode cL_function 5 = .ok (.invokevirtual 7, 3) := by decide +kernel
theorem dL_function_8 : decode cL_function 8 = .ok (.i2l, 1) := by decide +kernel
theorem dL_function_9 : decode cL_function 9 = .ok (.lastore, 1) := by decide +kernel
theorem dL_function_10 : decode cL_function 10 = .ok (.goto 11, 3) := by decide +kernel
theorem dL_function_13 : decode cL_function 13 = .ok (.astore 4, 2) := by decide +kernel
theorem dL_function_15 : decode cL_function 15 = .ok (.iconst 1, 1) := by decide +kernel
theorem dL_function_16 : decode cL_function 16 = .ok (.ireturn, 1) := by decide +kernel
theorem dL_function_17 : decode cL_function 17 = .ok (.astore 4, 2) := by decide +kernel
theorem dL_function_19 : decode cL_function 19 = .ok (.iconst 2, 1) := by decide +kernel
theorem dL_function_20 : decode cL_function 20 = .ok (.ireturn, 1) := by decide +kernel
theorem dL_function_21 : decode cL_function 21 = .ok (.iconst 0, 1) := by decide +kernel
theorem dL_function_22 : decode cL_function 22 = .ok (.ireturn, 1) := by decide +kernel
/-- QuotientSums.function(II)I -/
def wX10_function (now_bound : Int32) (now_modulus : Int32) (now_seed : Int32) (now_functions : Int32) (now_kinds : Nat → Int32) (now_firsts : Nat → Int32) (now_seconds : Nat → Int32) (now_degrees : Nat → Int32) (now_colours : Nat → Int32) (a1 : Int32) (a2 : Int32) (Q : (Int32) → Prop) (XI XN : Prop) : Prop :=
  (∃ (P_1 : (Int32) → Prop), wX3_has now_bound now_modulus now_seed now_functions a1 P_1 ∧ ∀ (rF_1 : Int32), P_1 rF_1 → ((¬ rF_1 = 0 → ((a2 = 0 → (vp_in a1 12 ∧ (Q (now_kinds a1.toNatClampNeg)))) ∧ (¬ a2 = 0 → ((a2 = 1 → (vp_in a1 12 ∧ (Q (now_firsts a1.toNatClampNeg)))) ∧ (¬ a2 = 1 → ((a2 = 2 → (vp_in a1 12 ∧ (Q (now_seconds a1.toNatClampNeg)))) ∧ (¬ a2 = 2 → ((a2 = 3 → (vp_in a1 12 ∧ (Q (now_degrees a1.toNatClampNeg)))) ∧ (¬ a2 = 3 → ((a2 = 4 → (vp_in a1 12 ∧ (Q (now_colours a1.toNatClampNeg)))) ∧ (¬ a2 = 4 → XN))))))))))) ∧ (rF_1 = 0 → XI)))
set_option maxHeartbeats 4000000 in
set_option maxRecDepth 100000 in
theorem mX10_function (l : Launch) (hstk : l.stackTraces = false) (D : va_G) (Y : Nat → ClassId) (h0 : Nat) (q_now : Nat) (v_reader : Value) (v_changes : Value) (v_image : Value) (v_rows : Value) (v_couples : Value) (now_bound : Int32) (now_modulus : Int32) (now_seed : Int32) (now_functions : Int32) (v_now_names : Value) (q_now_kinds : Nat) (q_now_firsts : Nat) (q_now_seconds : Nat) (q_now_degrees : Nat) (q_now_colours : Nat) (v_now_needs : Value) (v_now_numbers : Value) (now_kinds : Nat → Int32) (now_firsts : Nat → Int32) (now_seconds : Nat → Int32) (now_degrees : Nat → Int32) (now_colours : Nat → Int32) (a1 : Int32) (a2 : Int32) (Q : (Int32) → Prop) (XI XN : Prop) (h : wX10_function now_bound now_modulus now_seed now_functions now_kinds now_firsts now_seconds now_degrees now_colours a1 a2 Q XI XN) : gMX l D Y yX10_function cX10_function 3 (some .int) 6 110 1 6 [.ref h0, .int a1, .int a2] [oX10 h0 (.ref q_now) (v_reader) (v_changes) (v_image) (v_rows) (v_couples), oX3 q_now now_bound now_modulus now_seed now_functions (v_now_names) (.ref q_now_kinds) (.ref q_now_firsts) (.ref q_now_seconds) (.ref q_now_degrees) (.ref q_now_colours) (v_now_needs) (v_now_numbers), aI Y q_now_kinds 12 now_kinds, aI Y q_now_firsts 12 now_firsts, aI Y q_now_seconds 12 now_seconds, aI Y q_now_degrees 12 now_degrees, aI Y q_now_colours 12 now_colours] (fun v w => ∃ r : Int32, v = some (.int r) ∧ w = [oX10 h0 (.ref q_now) (v_reader) (v_changes) (v_image) (v_rows) (v_couples), oX3 q_now now_bound now_modulus now_seed now_functions (v_now_names) (.ref q_now_kinds) (.ref q_now_firsts) (.ref q_now_seconds) (.ref q_now_degrees) (.ref q_now_colours) (v_now_needs) (v_now_numbers), aI Y q_now_kinds 12 now_kinds, aI Y q_now_firsts 12 now_firsts, aI Y q_now_seconds 12 now_seconds, aI Y q_now_degrees 12 now_degrees, aI Y q_now_colours 12 now_colours] ∧ Q r) (fun E w => (E = "java/lang/IndexOutOfBoundsException" ∧ w = [oX10 h0 (.ref q_now) (v_reader) (v_changes) (v_image) (v_rows) (v_couples), oX3 q_now now_bound now_modulus now_seed now_functions (v_now_names) (.ref q_now_kinds) (.ref q_now_firsts) (.ref q_now_seconds) (.ref q_now_degrees) (.ref q_now_colours) (v_now_needs) (v_now_numbers), aI Y q_now_kinds 12 now_kinds, aI Y q_now_firsts 12 now_firsts, aI Y q_now_seconds 12 now_seconds, aI Y q_now_degrees 12 now_degrees, aI Y q_now_colours 12 now_colours] ∧ XI) ∨ (E = "java/util/NoSuchElementException" ∧ w = [oX10 h0 (.ref q_now) (v_reader) (v_changes) (v_image) (v_rows) (v_couples), oX3 q_now now_bound now_modulus now_seed now_functions (v_now_names) (.ref q_now_kinds) (.ref q_now_firsts) (.ref q_now_seconds) (.ref q_now_degrees) (.ref q_now_colours) (v_now_needs) (v_now_numbers), aI Y q_now_kinds 12 now_kinds, aI Y q_now_firsts 12 now_firsts, aI Y q_now_seconds 12 now_seconds, aI Y q_now_degrees 12 now_degrees, aI Y q_now_colours 12 now_colours] ∧ XN)) := by
  refine gMX_of (own := RX10) (by decide +kernel) rfl (Nat.le_of_ble_eq_true rfl) rfl (fun E C hR => ?_)
  unfold wX10_function at h
  refine g_aload_n C dX10_function_0 0 rfl ?_
  refine g_get C inX10 0 rfl rfl 0 (by decide) wF_X10_10 rfl dX10_function_1 ?_
  refine g_iload_n C dX10_function_4 1 rfl ?_
  obtain ⟨P_1, hP, h⟩ := h
  refine g_callV (As := [.int a1]) (rest := []) C (mX3_has l D Y q_now now_bound now_modulus now_seed now_functions v_now_names (.ref q_now_kinds) (.ref q_now_firsts) (.ref q_now_seconds) (.ref q_now_degrees) (.ref q_now_colours) v_now_needs v_now_numbers a1 P_1 hP) dX10_function_5 rfl wM_X10_98 wI_X3_has wV_X3_has wN_X3 wC_X3_has (n := 1) (by decide +kernel) rfl (q0 := 0) rfl rfl ⟨Nat.le_of_ble_eq_true rfl, Nat.le_of_ble_eq_true rfl⟩ ⟨Nat.le_of_ble_eq_true rfl, Nat.le_of_ble_eq_true rfl⟩ (Nat.le_of_ble_eq_true rfl) [1] [0, 2, 3, 4, 5, 6] rfl rfl rfl (fun v wc hv => ?_)
  obtain ⟨rF_1, rfl, rfl, hq⟩ := hv
  replace h := h rF_1 hq
  refine gG.perm (ws' := [oX10 h0 (.ref q_now) (v_reader) (v_changes) (v_image) (v_rows) (v_couples), oX3 q_now now_bound now_modulus now_seed now_functions (v_now_names) (.ref q_now_kinds) (.ref q_now_firsts) (.ref q_now_seconds) (.ref q_now_degrees) (.ref q_now_colours) (v_now_needs) (v_now_numbers), aI Y q_now_kinds 12 now_kinds, aI Y q_now_firsts 12 now_firsts, aI Y q_now_seconds 12 now_seconds, aI Y q_now_degrees 12 now_degrees, aI Y q_now_colours 12 now_colours]) [0, 6, 1, 2, 3, 4, 5] rfl rfl ?_
  refine g_if_ne (tgt := 21) C dX10_function_8 (by decide) (fun c_1 => ?_) (fun c_1 => ?_)
  · replace h := h.1 c_1
    refine g_iload_n C dX10_function_21 2 rfl ?_
    by_cases c_2 : a2 = 0
    · replace h := h.1 c_2
      refine g_tabI (v := 0) (tgt := 56) C dX10_function_22 c_2 (by decide) (by decide) rfl (by decide) ?_
      refine g_aload_n C dX10_function_56 0 rfl ?_
      refine g_get C inX10 0 rfl rfl 0 (by decide) wF_X10_10 rfl dX10_function_57 ?_
      refine g_get C inX3 1 rfl rfl 5 (by decide) wF_X10_108 rfl dX10_function_60 ?_
      refine g_iload_n C dX10_function_63 1 rfl ?_
      obtain ⟨hc_1, h⟩ := h
      refine g_iald C 2 rfl hc_1 dX10_function_64 ?_
      exact g_iretX C hR (Nat.le_of_ble_eq_true rfl) (Nat.le_of_ble_eq_true rfl) dX10_function_65 ⟨now_kinds a1.toNatClampNeg, rfl, rfl, h⟩
    · replace h := h.2 c_2
      by_cases c_3 : a2 = 1
      · replace h := h.1 c_3
        refine g_tabI (v := 1) (tgt := 66) C dX10_function_22 c_3 (by decide) (by decide) rfl (by decide) ?_
        refine g_aload_n C dX10_function_66 0 rfl ?_
        refine g_get C inX10 0 rfl rfl 0 (by decide) wF_X10_10 rfl dX10_function_67 ?_
        refine g_get C inX3 1 rfl rfl 6 (by decide) wF_X10_112 rfl dX10_function_70 ?_
        refine g_iload_n C dX10_function_73 1 rfl ?_
        obtain ⟨hc_2, h⟩ := h
        refine g_iald C 3 rfl hc_2 dX10_function_74 ?_
        exact g_iretX C hR (Nat.le_of_ble_eq_true rfl) (Nat.le_of_ble_eq_true rfl) dX10_function_75 ⟨now_firsts a1.toNatClampNeg, rfl, rfl, h⟩
      · replace h := h.2 c_3
        by_cases c_4 : a2 = 2
        · replace h := h.1 c_4
          refine g_tabI (v := 2) (tgt := 76) C dX10_function_22 c_4 (by decide) (by decide) rfl (by decide) ?_
          refine g_aload_n C dX10_function_76 0 rfl ?_
          refine g_get C inX10 0 rfl rfl 0 (by decide) wF_X10_10 rfl dX10_function_77 ?_
          refine g_get C inX3 1 rfl rfl 7 (by decide) wF_X10_115 rfl dX10_function_80 ?_
          refine g_iload_n C dX10_function_83 1 rfl ?_
          obtain ⟨hc_3, h⟩ := h
          refine g_iald C 4 rfl hc_3 dX10_function_84 ?_
          exact g_iretX C hR (Nat.le_of_ble_eq_true rfl) (Nat.le_of_ble_eq_true rfl) dX10_function_85 ⟨now_seconds a1.toNatClampNeg, rfl, rfl, h⟩
        · replace h := h.2 c_4
          by_cases c_5 : a2 = 3
          · replace h := h.1 c_5
            refine g_tabI (v := 3) (tgt := 86) C dX10_function_22 c_5 (by decide) (by decide) rfl (by decide) ?_
            refine g_aload_n C dX10_function_86 0 rfl ?_
            refine g_get C inX10 0 rfl rfl 0 (by decide) wF_X10_10 rfl dX10_function_87 ?_
            refine g_get C inX3 1 rfl rfl 8 (by decide) wF_X10_118 rfl dX10_function_90 ?_
            refine g_iload_n C dX10_function_93 1 rfl ?_
            obtain ⟨hc_4, h⟩ := h
            refine g_iald C 5 rfl hc_4 dX10_function_94 ?_
            exact g_iretX C hR (Nat.le_of_ble_eq_true rfl) (Nat.le_of_ble_eq_true rfl) dX10_function_95 ⟨now_degrees a1.toNatClampNeg, rfl, rfl, h⟩
          · replace h := h.2 c_5
            by_cases c_6 : a2 = 4
            · replace h := h.1 c_6
              refine g_tabI (v := 4) (tgt := 96) C dX10_function_22 c_6 (by decide) (by decide) rfl (by decide) ?_
              refine g_aload_n C dX10_function_96 0 rfl ?_
              refine g_get C inX10 0 rfl rfl 0 (by decide) wF_X10_10 rfl dX10_function_97 ?_
              refine g_get C inX3 1 rfl rfl 9 (by decide) wF_X10_121 rfl dX10_function_100 ?_
              refine g_iload_n C dX10_function_103 1 rfl ?_
              obtain ⟨hc_5, h⟩ := h
              refine g_iald C 6 rfl hc_5 dX10_function_104 ?_
              exact g_iretX C hR (Nat.le_of_ble_eq_true rfl) (Nat.le_of_ble_eq_true rfl) dX10_function_105 ⟨now_colours a1.toNatClampNeg, rfl, rfl, h⟩
            · replace h := h.2 c_6
              refine g_tabO (tgt := 106) C dX10_function_22 [0, 1, 2, 3, 4] (by decide) (by exact ⟨c_2, c_3, c_4, c_5, c_6, trivial⟩) (by decide) ?_
              exact g_throwN C hR hstk rfl (fun U hz => hz.2.2.2.1) dX10_function_106 dX10_function_109 dX10_function_110 dX10_function_112 dX10_function_115 ⟨Nat.le_of_ble_eq_true rfl, Nat.le_of_ble_eq_true rfl⟩ ⟨Nat.le_of_ble_eq_true rfl, Nat.le_of_ble_eq_true rfl⟩ ⟨Nat.le_of_ble_eq_true rfl, Nat.le_of_ble_eq_true rfl⟩ (Or.inr ⟨rfl, rfl, h⟩)
  · replace h := h.2 c_1
    exact g_throwS C hR hstk (by decide +kernel) wL_X10_101 wN_IO (fun U hz => hz.2.2.1) fat105 fot105 dX10_function_11 dX10_function_14 dX10_function_15 dX10_function_17 dX10_function_20 ⟨Nat.le_of_ble_eq_true rfl, Nat.le_of_ble_eq_true rfl⟩ ⟨Nat.le_of_ble_eq_true rfl, Nat.le_of_ble_eq_true rfl⟩ ⟨Nat.le_of_ble_eq_true rfl, Nat.le_of_ble_eq_true rfl⟩ (Or.inl ⟨rfl, rfl, h⟩)
/-- the law's own function: 0 and the answer in out, 1: IndexOutOfBoundsException, 2: NoSuchElementException -/
def wL_function (now_bound : Int32) (now_modulus : Int32) (now_seed : Int32) (now_functions : Int32) (now_kinds : Nat → Int32) (now_firsts : Nat → Int32) (now_seconds : Nat → Int32) (now_degrees : Nat → Int32) (now_colours : Nat → Int32) (out : Nat → Int64) (a2 a3 : Int32) (Q : Int32 → (Nat → Int64) → Prop) : Prop :=
  wX10_function now_bound now_modulus now_seed now_functions now_kinds now_firsts now_seconds now_degrees now_colours a2 a3 (fun r => Q 0 (vp_updL out 0 r.toInt64)) (Q 1 out) (Q 2 out)
set_option maxHeartbeats 4000000 in
set_option maxRecDepth 100000 in
theorem mL_function (l : Launch) (hstk : l.stackTraces = false) (D : va_G) (Y : Nat → ClassId) (q_a1 q_a4 : Nat) (q_now : Nat) (v_reader : Value) (v_changes : Value) (v_image : Value) (v_rows : Value) (v_couples : Value) (now_bound : Int32) (now_modulus : Int32) (now_seed : Int32) (now_functions : Int32) (v_now_names : Value) (q_now_kinds : Nat) (q_now_firsts : Nat) (q_now_seconds : Nat) (q_now_degrees : Nat) (q_now_colours : Nat) (v_now_needs : Value) (v_now_numbers : Value) (now_kinds : Nat → Int32) (now_firsts : Nat → Int32) (now_seconds : Nat → Int32) (now_degrees : Nat → Int32) (now_colours : Nat → Int32) (out : Nat → Int64) (a2 a3 : Int32) (Q : Int32 → (Nat → Int64) → Prop) (h : wL_function now_bound now_modulus now_seed now_functions now_kinds now_firsts now_seconds now_degrees now_colours out a2 a3 Q) : gMH l D Y yL_function cL_function 5 (some .int) [(0, 10, 13, 13), (0, 10, 17, 15)] 7 140 1 6 [.ref q_a1, .int a2, .int a3, .ref q_a4] [oX10 q_a1 (.ref q_now) (v_reader) (v_changes) (v_image) (v_rows) (v_couples), oX3 q_now now_bound now_modulus now_seed now_functions (v_now_names) (.ref q_now_kinds) (.ref q_now_firsts) (.ref q_now_seconds) (.ref q_now_degrees) (.ref q_now_colours) (v_now_needs) (v_now_numbers), aI Y q_now_kinds 12 now_kinds, aI Y q_now_firsts 12 now_firsts, aI Y q_now_seconds 12 now_seconds, aI Y q_now_degrees 12 now_degrees, aI Y q_now_colours 12 now_colours, aJ Y q_a4 1 out] (fun v w => ∃ (r : Int32) (out' : Nat → Int64), v = some (.int r) ∧ w = [oX10 q_a1 (.ref q_now) (v_reader) (v_changes) (v_image) (v_rows) (v_couples), oX3 q_now now_bound now_modulus now_seed now_functions (v_now_names) (.ref q_now_kinds) (.ref q_now_firsts) (.ref q_now_seconds) (.ref q_now_degrees) (.ref q_now_colours) (v_now_needs) (v_now_numbers), aI Y q_now_kinds 12 now_kinds, aI Y q_now_firsts 12 now_firsts, aI Y q_now_seconds 12 now_seconds, aI Y q_now_degrees 12 now_degrees, aI Y q_now_colours 12 now_colours, aJ Y q_a4 1 out'] ∧ Q r out') := by
  refine gMH_of (own := RL) (by decide +kernel) rfl (Nat.le_of_ble_eq_true rfl) rfl (fun E C hR => ?_)
  unfold wL_function at h
  refine g_aload_n C dL_function_0 3 rfl ?_
  refine g_iconst (v := 0) C dL_function_1 rfl ?_
  refine g_aload_n C dL_function_2 0 rfl ?_
  refine g_iload_n C dL_function_3 1 rfl ?_
  refine g_iload_n C dL_function_4 2 rfl ?_
  refine g_callVX (As := [.int a2, .int a3]) (rest := [.int 0, .ref q_a4]) C (mX10_function l hstk D Y q_a1 q_now v_reader v_changes v_image v_rows v_couples now_bound now_modulus now_seed now_functions v_now_names q_now_kinds q_now_firsts q_now_seconds q_now_degrees q_now_colours v_now_needs v_now_numbers now_kinds now_firsts now_seconds now_degrees now_colours a2 a3 _ _ _ h) dL_function_5 rfl wM_L_7 wI_X10_function wV_X10_function wN_X10 wC_X10_function (n := 2) (by decide +kernel) rfl (q0 := 0) rfl rfl ⟨Nat.le_of_ble_eq_true rfl, Nat.le_of_ble_eq_true rfl⟩ ⟨Nat.le_of_ble_eq_true rfl, Nat.le_of_ble_eq_true rfl⟩ (Nat.le_of_ble_eq_true rfl) [0, 1, 2, 3, 4, 5, 6] [7] rfl rfl rfl (fun v wc hv => ?_) (fun cls wc q hq => ?_)
  · obtain ⟨r, rfl, rfl, hq⟩ := hv
    refine gG.perm (ws' := [oX10 q_a1 (.ref q_now) (v_reader) (v_changes) (v_image) (v_rows) (v_couples), oX3 q_now now_bound now_modulus now_seed now_functions (v_now_names) (.ref q_now_kinds) (.ref q_now_firsts) (.ref q_now_seconds) (.ref q_now_degrees) (.ref q_now_colours) (v_now_needs) (v_now_numbers), aI Y q_now_kinds 12 now_kinds, aI Y q_now_firsts 12 now_firsts, aI Y q_now_seconds 12 now_seconds, aI Y q_now_degrees 12 now_degrees, aI Y q_now_colours 12 now_colours, aJ Y q_a4 1 out]) [1, 2, 3, 4, 5, 6, 7, 0] rfl rfl ?_
    refine g_i2l C dL_function_8 ?_
    refine g_last C 7 rfl (by unfold vp_in; decide) dL_function_9 (fun z ez => gG.eqw (ws' := [oX10 q_a1 (.ref q_now) (v_reader) (v_changes) (v_image) (v_rows) (v_couples), oX3 q_now now_bound now_modulus now_seed now_functions (v_now_names) (.ref q_now_kinds) (.ref q_now_firsts) (.ref q_now_seconds) (.ref q_now_degrees) (.ref q_now_colours) (v_now_needs) (v_now_numbers), aI Y q_now_kinds 12 now_kinds, aI Y q_now_firsts 12 now_firsts, aI Y q_now_seconds 12 now_seconds, aI Y q_now_degrees 12 now_degrees, aI Y q_now_colours 12 now_colours, aJ Y q_a4 1 z]) rfl ?_)
    refine g_goto (tgt := 21) C dL_function_10 (by decide) ?_
    refine g_iconst (v := 0) C dL_function_21 rfl ?_
    exact g_iretX C hR (Nat.le_of_ble_eq_true rfl) (Nat.le_of_ble_eq_true rfl) dL_function_22 ⟨0, z, rfl, rfl, by rw [ez]; exact hq⟩
  · rcases hq with ⟨rfl, rfl, hq⟩ | ⟨rfl, rfl, hq⟩
    · refine g_catch (name := "java/lang/IndexOutOfBoundsException") C hR [] _ _ rfl (fun z hz => absurd hz List.not_mem_nil) rfl (by decide) wL_L_13 wCs_IO ?_
      refine gG.perm (ws' := [oX10 q_a1 (.ref q_now) (v_reader) (v_changes) (v_image) (v_rows) (v_couples), oX3 q_now now_bound now_modulus now_seed now_functions (v_now_names) (.ref q_now_kinds) (.ref q_now_firsts) (.ref q_now_seconds) (.ref q_now_degrees) (.ref q_now_colours) (v_now_needs) (v_now_numbers), aI Y q_now_kinds 12 now_kinds, aI Y q_now_firsts 12 now_firsts, aI Y q_now_seconds 12 now_seconds, aI Y q_now_degrees 12 now_degrees, aI Y q_now_colours 12 now_colours, aJ Y q_a4 1 out]) [1, 2, 3, 4, 5, 6, 7, 0] rfl rfl ?_
      refine g_astore (lv' := [(4, .ref q), (0, .ref q_a1), (1, .int a2), (2, .int a3), (3, .ref q_a4)]) C dL_function_13 (by decide) rfl ?_
      refine g_iconst (v := 1) C dL_function_15 rfl ?_
      exact g_iretX C hR (Nat.le_of_ble_eq_true rfl) (Nat.le_of_ble_eq_true rfl) dL_function_16 ⟨1, out, rfl, rfl, hq⟩
    · refine g_catch (name := "java/util/NoSuchElementException") C hR [_] _ _ rfl (fun z hz => by
        obtain rfl := List.mem_singleton.mp hz
        exact ⟨by decide, "java/lang/IndexOutOfBoundsException", wL_L_13, fun A U H hZ => hZ.2.2.2.2.2.2.2.2.1⟩) rfl (by decide) wL_L_15 wCs_NS ?_
      refine gG.perm (ws' := [oX10 q_a1 (.ref q_now) (v_reader) (v_changes) (v_image) (v_rows) (v_couples), oX3 q_now now_bound now_modulus now_seed now_functions (v_now_names) (.ref q_now_kinds) (.ref q_now_firsts) (.ref q_now_seconds) (.ref q_now_degrees) (.ref q_now_colours) (v_now_needs) (v_now_numbers), aI Y q_now_kinds 12 now_kinds, aI Y q_now_firsts 12 now_firsts, aI Y q_now_seconds 12 now_seconds, aI Y q_now_degrees 12 now_degrees, aI Y q_now_colours 12 now_colours, aJ Y q_a4 1 out]) [1, 2, 3, 4, 5, 6, 7, 0] rfl rfl ?_
      refine g_astore (lv' := [(4, .ref q), (0, .ref q_a1), (1, .int a2), (2, .int a3), (3, .ref q_a4)]) C dL_function_17 (by decide) rfl ?_
      refine g_iconst (v := 2) C dL_function_19 rfl ?_
      exact g_iretX C hR (Nat.le_of_ble_eq_true rfl) (Nat.le_of_ble_eq_true rfl) dL_function_20 ⟨2, out, rfl, rfl, hq⟩
