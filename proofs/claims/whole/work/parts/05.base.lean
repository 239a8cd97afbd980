/-- the fixed things of one method's run: program, launch, env, room, start, method, args, frames below, method, code, number of locals, what may change, classes, end -/
abbrev gE : Type := Program × Launch × Env × Room × State × MethodId × Array Value × List Frame × Method × Code × Nat × (Nat → Prop) × va_G × (State → Prop)
def gTys (Y : Nat → ClassId) : List (ClassId × FieldType) := [(Y 0, .int), (Y 1, .long), (Y 2, .boolean), (Y 3, .object RX6)]
theorem gN_warm {s U : State} (hW : s.WarmedH U.vm) (h : ∀ w ∈ gN, va_Nw w s) : ∀ w ∈ gN, va_Nw w U := by
  intro w hw
  have h1 := h w hw
  have h2 := (List.mem_filter.mp hw).2
  cases w <;> first | exact va_Nw.warmF hW h1 | exact va_Nw.warmM hW h1 | exact va_Nw.warmD hW h1 | exact va_Nw.warmC hW h1 | (simp [gIsN] at h2)
theorem gN_same {s U : State} (hv : s.vm = U.vm) (h : ∀ w ∈ gN, va_Nw w s) : ∀ w ∈ gN, va_Nw w U := by
  intro w hw
  have h1 := h w hw
  have h2 := (List.mem_filter.mp hw).2
  cases w <;> first | exact va_Nw.same rfl hv h1 | (simp [gIsN] at h2)
/-- what stands beside the worlds: links between nest mates, the String constants, the statics that are read -/
def gByt : List (List Int32) := [[111, 110, 101, 32, 32, 32, 105, 100, 32, 32, 32, 32, 109, 117, 32, 32, 32, 32, 112, 104, 105, 32, 32, 32, 116, 97, 117, 32, 32, 32, 115, 105, 103, 109, 97, 32], [98, 111, 117, 110, 100, 32, 32, 109, 111, 100, 117, 108, 117, 115, 115, 101, 101, 100, 32, 32, 32, 111, 119, 110, 32, 32, 32, 32, 97, 116, 32, 32, 32, 32, 32, 116, 105, 109, 101, 115, 32, 32, 111, 118, 101, 114, 32, 32, 32, 112, 111, 105, 110, 116, 32, 32, 116, 119, 105, 115, 116, 32, 32], [110, 111, 32, 115, 117, 99, 104, 32, 102, 117, 110, 99, 116, 105, 111, 110], [110, 111, 32, 115, 117, 99, 104, 32, 119, 104, 97, 116], [111, 110, 101, 32, 105, 100, 32, 109, 117, 32, 112, 104, 105, 32, 116, 97, 117, 32, 115, 105, 103, 109, 97, 32], [98, 111, 117, 110, 100, 32, 109, 111, 100, 117, 108, 117, 115, 32, 115, 101, 101, 100, 32, 111, 119, 110, 32, 97, 116, 32, 116, 105, 109, 101, 115, 32, 111, 118, 101, 114, 32, 112, 111, 105, 110, 116, 32, 116, 119, 105, 115, 116, 32]]
def gLen : List Nat := [36, 63, 16, 12, 24, 49]
def gDeg (j : Nat) : Int32 := [0, 1, 0, 1, 0, 1].getD j 0
def gSR (Y : Nat → ClassId) (U : State) : Prop := vk_R RX3 70 "one   id    mu    phi   tau   sigma " (Y 10) U ∧ vk_R RX9 83 "bound  modulusseed   own    at     times  over   point  twist  " (Y 11) U ∧ vk_R RX10 103 "no such function" (Y 12) U ∧ vk_R RX10 126 "no such what" (Y 13) U ∧ vk_R RX11 205 "one id mu phi tau sigma " (Y 14) U ∧ vk_R RX11 131 "bound modulus seed own at times over point twist " (Y 15) U
def gZ (Y : Nat → ClassId) (A : Nat → Prop) (U : State) (H : Heap) : Prop := (∀ w ∈ gN, va_Nw w U) ∧ vk_S 6 gLen gByt (fun i => Y (10 + i)) (fun i => Y (20 + i)) A U H ∧ gSR Y U ∧ va_Z "QuotientSums" "KNOWN_DEGREES" "[I" (.ref (Y 30)) A U H ∧ va_T .int (Y 30) 6 (fun j => .int (gDeg j)) A U H ∧ va_Z "java/lang/String" "COMPACT_STRINGS" "Z" (.int 1) A U H ∧ va_Zq "jdk/internal/util/Preconditions" "SIOOBE_FORMATTER" "Ljava/util/function/BiFunction;" A U H ∧ va_AO RX6 U ∧ va_Nc "java/util/NoSuchElementException" "java/lang/IndexOutOfBoundsException" U ∧ vx_Zq Bundle.tN "UNASSIGNED_STACK" Bundle.steD A U H ∧ vx_Zq Bundle.tN "SUPPRESSED_SENTINEL" Bundle.listD A U H
theorem gSR.warm {Y : Nat → ClassId} {s U : State} (hW : s.WarmedH U.vm) (h : gSR Y s) : gSR Y U := by
  obtain ⟨h0, h1, h2, h3, h4, h5⟩ := h
  exact ⟨vk_R.warm hW h0, vk_R.warm hW h1, vk_R.warm hW h2, vk_R.warm hW h3, vk_R.warm hW h4, vk_R.warm hW h5⟩
theorem gSR.same {Y : Nat → ClassId} {s U : State} (hv : U.vm = s.vm) (h : gSR Y s) : gSR Y U := by
  obtain ⟨h0, h1, h2, h3, h4, h5⟩ := h
  exact ⟨vk_R.same hv h0, vk_R.same hv h1, vk_R.same hv h2, vk_R.same hv h3, vk_R.same hv h4, vk_R.same hv h5⟩
theorem gZ.warm {Y : Nat → ClassId} {A : Nat → Prop} {s U : State} {H : Heap} (hW : s.WarmedH U.vm) (h : gZ Y A s H) : gZ Y A U H :=
  ⟨gN_warm hW h.1, h.2.1.moved hW.alike, h.2.2.1.warm hW, h.2.2.2.1.moved hW.alike, h.2.2.2.2.1.moved hW.alike, h.2.2.2.2.2.1.moved hW.alike, h.2.2.2.2.2.2.1.moved hW.alike, va_AO.moved hW.alike h.2.2.2.2.2.2.2.1, va_Nc.moved hW.alike h.2.2.2.2.2.2.2.2.1, h.2.2.2.2.2.2.2.2.2.1.moved hW.alike, h.2.2.2.2.2.2.2.2.2.2.moved hW.alike⟩
theorem gZ.same {Y : Nat → ClassId} {A : Nat → Prop} {s U : State} {H : Heap} (hv : s.vm = U.vm) (h : gZ Y A s H) : gZ Y A U H := by
  have ha : s.vm.Alike U.vm := hv ▸ Vm.Alike.refl s.vm
  exact ⟨gN_same hv h.1, h.2.1.moved ha, h.2.2.1.same hv.symm, h.2.2.2.1.moved ha, h.2.2.2.2.1.moved ha, h.2.2.2.2.2.1.moved ha, h.2.2.2.2.2.2.1.moved ha, va_AO.moved ha h.2.2.2.2.2.2.2.1, va_Nc.moved ha h.2.2.2.2.2.2.2.2.1, h.2.2.2.2.2.2.2.2.2.1.moved ha, h.2.2.2.2.2.2.2.2.2.2.moved ha⟩
theorem gZ.narrow {Y : Nat → ClassId} {A B : Nat → Prop} {s : State} {H : Heap} (h : gZ Y A s H) (hAB : ∀ q, B q → A q) : gZ Y B s H :=
  ⟨h.1, h.2.1.narrow hAB, h.2.2.1, h.2.2.2.1.narrow hAB, h.2.2.2.2.1.narrow hAB, h.2.2.2.2.2.1.narrow hAB, h.2.2.2.2.2.2.1.narrow hAB, h.2.2.2.2.2.2.2.1, h.2.2.2.2.2.2.2.2.1, h.2.2.2.2.2.2.2.2.2.1.narrow hAB, h.2.2.2.2.2.2.2.2.2.2.narrow hAB⟩
theorem gZ.kept {Y : Nat → ClassId} {A : Nat → Prop} {s : State} {H H1 : Heap} (h : gZ Y A s H) (hq : ∀ a : Nat, a < H.size → ¬ A a → H1[a]? = H[a]?) : gZ Y A s H1 :=
  ⟨h.1, h.2.1.kept hq, h.2.2.1, h.2.2.2.1.kept hq, h.2.2.2.2.1.kept hq, h.2.2.2.2.2.1.kept hq, h.2.2.2.2.2.2.1.kept hq, h.2.2.2.2.2.2.2.1, h.2.2.2.2.2.2.2.2.1, h.2.2.2.2.2.2.2.2.2.1.kept hq, h.2.2.2.2.2.2.2.2.2.2.kept hq⟩
def gG (E : gE) (cells slots : Nat) (ws : va_W) (lv : List (Nat × Value)) (st : List Value) (pc : Nat) : Prop :=
  match E with
  | (p, l, e, R, s, m, args, below, meth, c, nL, A, D, Q) => ∀ (H : Heap) (locs : List Loc) (ls : Array Slot), va_P D vwCl ws H → va_D A ws → va_S A s.heap H locs → lv_has ls nL lv → W p l e R s m args below meth c H locs cells slots Q (F0 m pc ls st)
def gOK (E : gE) (l : Launch) (D : va_G) (Y : Nat → ClassId) (cc : ByteArray) (own : String) (R : Room) (nL : Nat) : Prop :=
  match E with
  | (p, l', e, R', s, m, args, below, meth, c, nL', A, D', Q) => l' = l ∧ D' = D ∧ R' = R ∧ nL' = nL ∧ p.tables.exec = Jvm.exec ∧ c.code = cc ∧ c.maxLocals = nL ∧ s.vm.findClass own = some m.cls ∧ (∀ w ∈ gWs, w.before args s = true) ∧ va_K D vwCl (gTys Y) s ∧ (∀ q, s.heap.size ≤ q → A q) ∧ gZ Y A s s.heap ∧ meth.locks = false ∧ (own = own)
def gPre (D : va_G) (Y : Nat → ClassId) (as : List Value) (ws : va_W) (sz : Nat) : Array Value → State → Prop :=
  va_Pc as (fun U => U.heap.size = sz ∧ va_P D vwCl ws U.heap ∧ va_K D vwCl (gTys Y) U ∧ va_D (fun _ => True) ws ∧ gZ Y (va_A ws sz) U U.heap)
def gQ (D : va_G) (Y : Nat → ClassId) (ws : va_W) (sz : Nat) (P : Option Value → va_W → Prop) : Array Value → State → Outcome → State → Prop := fun _ st oc t =>
  (∃ (v : Option Value) (ws' : va_W), oc = .returned v ∧ P v ws' ∧ va_P D vwCl ws' t.heap ∧ va_K D vwCl (gTys Y) t ∧ va_D (va_A ws sz) ws') ∧ va_F (va_A ws sz) st t
/-- a method's contract: called with 'as' over the cells ws it returns, P of its answer and of the cells behind it -/
def gM (l : Launch) (D : va_G) (Y : Nat → ClassId) (y : MethodName) (cc : ByteArray) (nL : Nat) (ret : Option FieldType) (fr lo mc ms : Nat) (as : List Value) (ws : va_W) (P : Option Value → va_W → Prop) : Prop :=
  ∀ sz : Nat, Met l y (Cond.code y cc nL ret :: gWs) { frames := fr, cells := mc, slots := ms, locals := lo } (gPre D Y as ws sz) (gQ D Y ws sz P) mc ms (va_A ws sz)
def gRet (E : gE) (D : va_G) (Y : Nat → ClassId) (mc ms : Nat) (ws0 : va_W) (P : Option Value → va_W → Prop) (ret : Option FieldType) : Prop :=
  match E with
  | (p, l', e, R', s, m, args, below, meth, c, nL', A, D', Q) => Q = MQ below (gQ D Y ws0 s.heap.size P) args s mc ms (va_A ws0 s.heap.size) ∧ A = va_A ws0 s.heap.size ∧ meth.sig.returnType = ret
theorem gM_of {l : Launch} {D : va_G} {Y : Nat → ClassId} {y : MethodName} {cc : ByteArray} {nL : Nat} {ret : Option FieldType} {fr lo mc ms : Nat} {as : List Value} {ws : va_W} {P : Option Value → va_W → Prop} {own : String} {lv : List (Nat × Value)}
    (hy : plainName y.cls = true) (ho : y.cls = own) (hlen : (lg_sl as).length ≤ nL) (hlv : lv_args 0 as = lv)
    (h : ∀ E : gE, gOK E l D Y cc own { frames := fr, cells := mc, slots := ms, locals := lo } nL → gRet E D Y mc ms ws P ret → gG E 0 0 ws lv [] 0) : gM l D Y y cc nL ret fr lo mc ms as ws P := by
  intro sz
  refine Met.ofW (cc := cc) (maxL := nL) (ret := ret) hy rfl ?_
  intro p e s m args below meth c s₁ B hml hv
  obtain ⟨rfl, hsz, hP, hK, hD0, hZ⟩ := hv
  subst hsz
  have hts := atoms_spec (ws := Cond.code y cc nL ret :: gWs) B.pre
  have hown : s.vm.findClass own = some m.cls := by rw [← ho]; exact findClass_of_methodNamed B.named
  have hD := hD0.self (sz := s.heap.size)
  have key := h (p, l, e, (headSpec (Cond.code y cc nL ret :: gWs) { frames := fr, cells := mc, slots := ms, locals := lo }).room, s, m, as.toArray, below, meth, c, nL, va_A ws s.heap.size, D, MQ below (gQ D Y ws s.heap.size P) as.toArray s mc ms (va_A ws s.heap.size))
    ⟨rfl, rfl, rfl, rfl, B.exec, B.bytes, hml, hown, fun w hw => hts w (List.mem_cons_of_mem _ hw), hK, fun q hq => Or.inr hq, hZ, B.notSynchronized, rfl⟩ ⟨rfl, rfl, B.returns⟩
  subst hlv
  rw [lg_entry_eq]
  exact key s.heap [] _ hP hD va_S.rf (lv_entry as hlen)
theorem gG.widen {E : gE} {cells slots k n : Nat} {ws : va_W} {lv : List (Nat × Value)} {st : List Value} {pc : Nat} (h1 : cells ≤ k) (h2 : slots ≤ n) (h : gG E k n ws lv st pc) : gG E cells slots ws lv st pc := by
  obtain ⟨p, l, e, R, s, m, args, below, meth, c, nL, A, D, Q⟩ := E
  exact fun H locs ls hP hD hS hl => W.widen h1 h2 (h H locs ls hP hD hS hl)
theorem gG.locals {E : gE} {cells slots : Nat} {ws : va_W} {lv lv' : List (Nat × Value)} {st : List Value} {pc : Nat} (ks : List Nat) (h1 : lv_pick lv ks = lv') (h : gG E cells slots ws lv' st pc) : gG E cells slots ws lv st pc := by
  obtain ⟨p, l, e, R, s, m, args, below, meth, c, nL, A, D, Q⟩ := E
  exact fun H locs ls hP hD hS hl => h H locs ls hP hD hS (lv_sub hl ks h1)
theorem g_pick {α : Type} {f : Nat → Option α} : ∀ (is : List Nat) (w : List α), is.map f = w.map some → is.filterMap f = w
  | [], [], _ => rfl
  | [], _ :: _, h => by simp at h
  | _ :: _, [], h => by simp at h
  | i :: is, x :: w, h => by
    simp only [List.map_cons, List.cons.injEq] at h
    rw [List.filterMap_cons, h.1]
    exact congrArg (x :: ·) (g_pick is w h.2)
theorem gG.perm {E : gE} {cells slots : Nat} {ws ws' : va_W} {lv : List (Nat × Value)} {st : List Value} {pc : Nat} (is : List Nat) (hn : va_nd is = true) (hs : is.map (fun i => ws[i]?) = ws'.map some) (h : gG E cells slots ws' lv st pc) : gG E cells slots ws lv st pc := by
  obtain ⟨p, l, e, R, s, m, args, below, meth, c, nL, A, D, Q⟩ := E
  exact fun H locs ls hP hD hS hl => h H locs ls (hP.sub is (g_pick is ws' hs)) (hD.sub is hn hs) hS hl

theorem g_iconst {E : gE} {l : Launch} {D : va_G} {Y : Nat → ClassId} {cc : ByteArray} {own : String} {R : Room} {nL : Nat} {cells slots : Nat} {ws : va_W} {lv : List (Nat × Value)} {rest : List Value} {pc : Nat} (C : gOK E l D Y cc own R nL) {n : Int} {v : Int32} (hd : decode cc pc = .ok (.iconst n, 1)) (hv : Int32.ofInt n = v) (h : gG E cells slots ws lv (.int v :: rest) (pc + 1)) : gG E cells slots ws lv (rest) pc := by
  obtain ⟨p, l, e, R, s, m, args, below, meth, c, nL, A, D, Q⟩ := E
  obtain ⟨rfl, rfl, rfl, rfl, hx, hb, hml, hown, hts, hK, hA, hZ, hlocks, -⟩ := C
  exact fun H locs ls hP hD hS hl => lv_iconst hx hb hd hv (h H locs ls hP hD hS hl)
theorem g_bipush {E : gE} {l : Launch} {D : va_G} {Y : Nat → ClassId} {cc : ByteArray} {own : String} {R : Room} {nL : Nat} {cells slots : Nat} {ws : va_W} {lv : List (Nat × Value)} {rest : List Value} {pc : Nat} (C : gOK E l D Y cc own R nL) {n : Int} {v : Int32} (hd : decode cc pc = .ok (.bipush n, 2)) (hv : (Int8.ofInt n).toInt32 = v) (h : gG E cells slots ws lv (.int v :: rest) (pc + 2)) : gG E cells slots ws lv (rest) pc := by
  obtain ⟨p, l, e, R, s, m, args, below, meth, c, nL, A, D, Q⟩ := E
  obtain ⟨rfl, rfl, rfl, rfl, hx, hb, hml, hown, hts, hK, hA, hZ, hlocks, -⟩ := C
  exact fun H locs ls hP hD hS hl => lv_bipush hx hb hd hv (h H locs ls hP hD hS hl)
theorem g_sipush {E : gE} {l : Launch} {D : va_G} {Y : Nat → ClassId} {cc : ByteArray} {own : String} {R : Room} {nL : Nat} {cells slots : Nat} {ws : va_W} {lv : List (Nat × Value)} {rest : List Value} {pc : Nat} (C : gOK E l D Y cc own R nL) {n : Int} {v : Int32} (hd : decode cc pc = .ok (.sipush n, 3)) (hv : (Int16.ofInt n).toInt32 = v) (h : gG E cells slots ws lv (.int v :: rest) (pc + 3)) : gG E cells slots ws lv (rest) pc := by
  obtain ⟨p, l, e, R, s, m, args, below, meth, c, nL, A, D, Q⟩ := E
  obtain ⟨rfl, rfl, rfl, rfl, hx, hb, hml, hown, hts, hK, hA, hZ, hlocks, -⟩ := C
  exact fun H locs ls hP hD hS hl => lv_sipush hx hb hd hv (h H locs ls hP hD hS hl)
theorem g_lconst {E : gE} {l : Launch} {D : va_G} {Y : Nat → ClassId} {cc : ByteArray} {own : String} {R : Room} {nL : Nat} {cells slots : Nat} {ws : va_W} {lv : List (Nat × Value)} {rest : List Value} {pc : Nat} (C : gOK E l D Y cc own R nL) {n : Fin 2} {v : Int64} (hd : decode cc pc = .ok (.lconst n, 1)) (hv : Int64.ofNat (n : Nat) = v) (h : gG E cells slots ws lv (.long v :: rest) (pc + 1)) : gG E cells slots ws lv (rest) pc := by
  obtain ⟨p, l, e, R, s, m, args, below, meth, c, nL, A, D, Q⟩ := E
  obtain ⟨rfl, rfl, rfl, rfl, hx, hb, hml, hown, hts, hK, hA, hZ, hlocks, -⟩ := C
  exact fun H locs ls hP hD hS hl => lv_lconst hx hb hd hv (h H locs ls hP hD hS hl)
theorem g_ldc {E : gE} {l : Launch} {D : va_G} {Y : Nat → ClassId} {cc : ByteArray} {own : String} {R : Room} {nL : Nat} {cells slots : Nat} {ws : va_W} {lv : List (Nat × Value)} {rest : List Value} {pc : Nat} (C : gOK E l D Y cc own R nL) {idx : Nat} {v : Int32} (hd : decode cc pc = .ok (.ldc idx, 2)) (hw : Cond.constant own idx v ∈ gWs) (h : gG E cells slots ws lv (.int v :: rest) (pc + 2)) : gG E cells slots ws lv (rest) pc := by
  obtain ⟨p, l, e, R, s, m, args, below, meth, c, nL, A, D, Q⟩ := E
  obtain ⟨rfl, rfl, rfl, rfl, hx, hb, hml, hown, hts, hK, hA, hZ, hlocks, -⟩ := C
  exact fun H locs ls hP hD hS hl => lv_ldc hx hb hown (hts _ hw) hd (h H locs ls hP hD hS hl)
theorem g_ldcw {E : gE} {l : Launch} {D : va_G} {Y : Nat → ClassId} {cc : ByteArray} {own : String} {R : Room} {nL : Nat} {cells slots : Nat} {ws : va_W} {lv : List (Nat × Value)} {rest : List Value} {pc : Nat} (C : gOK E l D Y cc own R nL) {idx : Nat} {v : Int32} (hd : decode cc pc = .ok (.ldc_w idx, 3)) (hw : Cond.constant own idx v ∈ gWs) (h : gG E cells slots ws lv (.int v :: rest) (pc + 3)) : gG E cells slots ws lv (rest) pc := by
  obtain ⟨p, l, e, R, s, m, args, below, meth, c, nL, A, D, Q⟩ := E
  obtain ⟨rfl, rfl, rfl, rfl, hx, hb, hml, hown, hts, hK, hA, hZ, hlocks, -⟩ := C
  exact fun H locs ls hP hD hS hl => lv_ldcw hx hb hown (hts _ hw) hd (h H locs ls hP hD hS hl)
theorem g_ldc2 {E : gE} {l : Launch} {D : va_G} {Y : Nat → ClassId} {cc : ByteArray} {own : String} {R : Room} {nL : Nat} {cells slots : Nat} {ws : va_W} {lv : List (Nat × Value)} {rest : List Value} {pc : Nat} (C : gOK E l D Y cc own R nL) {idx : Nat} {v : Int64} (hd : decode cc pc = .ok (.ldc2_w idx, 3)) (hw : Cond.constantLong own idx v ∈ gWs) (h : gG E cells slots ws lv (.long v :: rest) (pc + 3)) : gG E cells slots ws lv (rest) pc := by
  obtain ⟨p, l, e, R, s, m, args, below, meth, c, nL, A, D, Q⟩ := E
  obtain ⟨rfl, rfl, rfl, rfl, hx, hb, hml, hown, hts, hK, hA, hZ, hlocks, -⟩ := C
  exact fun H locs ls hP hD hS hl => lv_ldc2 hx hb hown (hts _ hw) hd (h H locs ls hP hD hS hl)
theorem g_iload_n {E : gE} {l : Launch} {D : va_G} {Y : Nat → ClassId} {cc : ByteArray} {own : String} {R : Room} {nL : Nat} {cells slots : Nat} {ws : va_W} {lv : List (Nat × Value)} {rest : List Value} {pc : Nat} (C : gOK E l D Y cc own R nL) {i : Fin 4} {x : Int32} (hd : decode cc pc = .ok (.iload_n i, 1)) (k : Nat) (hk : lv[k]? = some ((i : Nat), .int x)) (h : gG E cells slots ws lv (.int x :: rest) (pc + 1)) : gG E cells slots ws lv (rest) pc := by
  obtain ⟨p, l, e, R, s, m, args, below, meth, c, nL, A, D, Q⟩ := E
  obtain ⟨rfl, rfl, rfl, rfl, hx, hb, hml, hown, hts, hK, hA, hZ, hlocks, -⟩ := C
  exact fun H locs ls hP hD hS hl => lv_iload_n hx hb hd rfl (lv_at hl k hk) (h H locs ls hP hD hS hl)
theorem g_iload {E : gE} {l : Launch} {D : va_G} {Y : Nat → ClassId} {cc : ByteArray} {own : String} {R : Room} {nL : Nat} {cells slots : Nat} {ws : va_W} {lv : List (Nat × Value)} {rest : List Value} {pc : Nat} (C : gOK E l D Y cc own R nL) {i : Nat} {x : Int32} (hd : decode cc pc = .ok (.iload i, 2)) (k : Nat) (hk : lv[k]? = some (i, .int x)) (h : gG E cells slots ws lv (.int x :: rest) (pc + 2)) : gG E cells slots ws lv (rest) pc := by
  obtain ⟨p, l, e, R, s, m, args, below, meth, c, nL, A, D, Q⟩ := E
  obtain ⟨rfl, rfl, rfl, rfl, hx, hb, hml, hown, hts, hK, hA, hZ, hlocks, -⟩ := C
  exact fun H locs ls hP hD hS hl => lv_iload hx hb hd (lv_at hl k hk) (h H locs ls hP hD hS hl)
theorem g_istore_n {E : gE} {l : Launch} {D : va_G} {Y : Nat → ClassId} {cc : ByteArray} {own : String} {R : Room} {nL : Nat} {cells slots : Nat} {ws : va_W} {lv : List (Nat × Value)} {rest : List Value} {pc : Nat} (C : gOK E l D Y cc own R nL) {i : Fin 4} {x : Int32} {lv' : List (Nat × Value)} (hd : decode cc pc = .ok (.istore_n i, 1)) (hn : (i : Nat) < nL) (hl : ((i : Nat), Value.int x) :: lv.filter (fun q => !(q.1 == (i : Nat)) && !(q.1 + 1 == (i : Nat) && q.2.category == 2)) = lv') (h : gG E cells slots ws lv' rest (pc + 1)) : gG E cells slots ws lv (.int x :: rest) pc := by
  obtain ⟨p, l, e, R, s, m, args, below, meth, c, nL, A, D, Q⟩ := E
  obtain ⟨rfl, rfl, rfl, rfl, hx, hb, hml, hown, hts, hK, hA, hZ, hlocks, -⟩ := C
  exact fun H locs ls hP hD hS hl0 => lv_istore_n hx hb hd rfl hl0 hn hl (fun ls' hl' => h H locs ls' hP hD hS hl')
theorem g_istore {E : gE} {l : Launch} {D : va_G} {Y : Nat → ClassId} {cc : ByteArray} {own : String} {R : Room} {nL : Nat} {cells slots : Nat} {ws : va_W} {lv : List (Nat × Value)} {rest : List Value} {pc : Nat} (C : gOK E l D Y cc own R nL) {i : Nat} {x : Int32} {lv' : List (Nat × Value)} (hd : decode cc pc = .ok (.istore i, 2)) (hn : i < nL) (hl : (i, Value.int x) :: lv.filter (fun q => !(q.1 == i) && !(q.1 + 1 == i && q.2.category == 2)) = lv') (h : gG E cells slots ws lv' rest (pc + 2)) : gG E cells slots ws lv (.int x :: rest) pc := by
  obtain ⟨p, l, e, R, s, m, args, below, meth, c, nL, A, D, Q⟩ := E
  obtain ⟨rfl, rfl, rfl, rfl, hx, hb, hml, hown, hts, hK, hA, hZ, hlocks, -⟩ := C
  exact fun H locs ls hP hD hS hl0 => lv_istore hx hb hd hl0 hn hl (fun ls' hl' => h H locs ls' hP hD hS hl')
theorem g_lload_n {E : gE} {l : Launch} {D : va_G} {Y : Nat → ClassId} {cc : ByteArray} {own : String} {R : Room} {nL : Nat} {cells slots : Nat} {ws : va_W} {lv : List (Nat × Value)} {rest : List Value} {pc : Nat} (C : gOK E l D Y cc own R nL) {i : Fin 4} {x : Int64} (hd : decode cc pc = .ok (.lload_n i, 1)) (k : Nat) (hk : lv[k]? = some ((i : Nat), .long x)) (h : gG E cells slots ws lv (.long x :: rest) (pc + 1)) : gG E cells slots ws lv (rest) pc := by
  obtain ⟨p, l, e, R, s, m, args, below, meth, c, nL, A, D, Q⟩ := E
  obtain ⟨rfl, rfl, rfl, rfl, hx, hb, hml, hown, hts, hK, hA, hZ, hlocks, -⟩ := C
  exact fun H locs ls hP hD hS hl => lv_lload_n hx hb hd rfl (lv_at hl k hk) (h H locs ls hP hD hS hl)
theorem g_lload {E : gE} {l : Launch} {D : va_G} {Y : Nat → ClassId} {cc : ByteArray} {own : String} {R : Room} {nL : Nat} {cells slots : Nat} {ws : va_W} {lv : List (Nat × Value)} {rest : List Value} {pc : Nat} (C : gOK E l D Y cc own R nL) {i : Nat} {x : Int64} (hd : decode cc pc = .ok (.lload i, 2)) (k : Nat) (hk : lv[k]? = some (i, .long x)) (h : gG E cells slots ws lv (.long x :: rest) (pc + 2)) : gG E cells slots ws lv (rest) pc := by
  obtain ⟨p, l, e, R, s, m, args, below, meth, c, nL, A, D, Q⟩ := E
  obtain ⟨rfl, rfl, rfl, rfl, hx, hb, hml, hown, hts, hK, hA, hZ, hlocks, -⟩ := C
  exact fun H locs ls hP hD hS hl => lv_lload hx hb hd (lv_at hl k hk) (h H locs ls hP hD hS hl)
theorem g_lstore_n {E : gE} {l : Launch} {D : va_G} {Y : Nat → ClassId} {cc : ByteArray} {own : String} {R : Room} {nL : Nat} {cells slots : Nat} {ws : va_W} {lv : List (Nat × Value)} {rest : List Value} {pc : Nat} (C : gOK E l D Y cc own R nL) {i : Fin 4} {x : Int64} {lv' : List (Nat × Value)} (hd : decode cc pc = .ok (.lstore_n i, 1)) (hn : (i : Nat) + 1 < nL) (hl : ((i : Nat), Value.long x) :: lv.filter (fun q => !(q.1 == (i : Nat)) && (!(q.1 == (i : Nat) + 1) && !(q.1 + 1 == (i : Nat) && q.2.category == 2))) = lv') (h : gG E cells slots ws lv' rest (pc + 1)) : gG E cells slots ws lv (.long x :: rest) pc := by
  obtain ⟨p, l, e, R, s, m, args, below, meth, c, nL, A, D, Q⟩ := E
  obtain ⟨rfl, rfl, rfl, rfl, hx, hb, hml, hown, hts, hK, hA, hZ, hlocks, -⟩ := C
  exact fun H locs ls hP hD hS hl0 => lv_lstore_n hx hb hd rfl hl0 hn hl (fun ls' hl' => h H locs ls' hP hD hS hl')
theorem g_lstore {E : gE} {l : Launch} {D : va_G} {Y : Nat → ClassId} {cc : ByteArray} {own : String} {R : Room} {nL : Nat} {cells slots : Nat} {ws : va_W} {lv : List (Nat × Value)} {rest : List Value} {pc : Nat} (C : gOK E l D Y cc own R nL) {i : Nat} {x : Int64} {lv' : List (Nat × Value)} (hd : decode cc pc = .ok (.lstore i, 2)) (hn : i + 1 < nL) (hl : (i, Value.long x) :: lv.filter (fun q => !(q.1 == i) && (!(q.1 == i + 1) && !(q.1 + 1 == i && q.2.category == 2))) = lv') (h : gG E cells slots ws lv' rest (pc + 2)) : gG E cells slots ws lv (.long x :: rest) pc := by
  obtain ⟨p, l, e, R, s, m, args, below, meth, c, nL, A, D, Q⟩ := E
  obtain ⟨rfl, rfl, rfl, rfl, hx, hb, hml, hown, hts, hK, hA, hZ, hlocks, -⟩ := C
  exact fun H locs ls hP hD hS hl0 => lv_lstore hx hb hd hl0 hn hl (fun ls' hl' => h H locs ls' hP hD hS hl')
theorem g_aload_n {E : gE} {l : Launch} {D : va_G} {Y : Nat → ClassId} {cc : ByteArray} {own : String} {R : Room} {nL : Nat} {cells slots : Nat} {ws : va_W} {lv : List (Nat × Value)} {rest : List Value} {pc : Nat} (C : gOK E l D Y cc own R nL) {i : Fin 4} {x : Nat} (hd : decode cc pc = .ok (.aload_n i, 1)) (k : Nat) (hk : lv[k]? = some ((i : Nat), .ref x)) (h : gG E cells slots ws lv (.ref x :: rest) (pc + 1)) : gG E cells slots ws lv (rest) pc := by
  obtain ⟨p, l, e, R, s, m, args, below, meth, c, nL, A, D, Q⟩ := E
  obtain ⟨rfl, rfl, rfl, rfl, hx, hb, hml, hown, hts, hK, hA, hZ, hlocks, -⟩ := C
  exact fun H locs ls hP hD hS hl => lv_aload_n hx hb hd rfl (lv_at hl k hk) (h H locs ls hP hD hS hl)
theorem g_aload {E : gE} {l : Launch} {D : va_G} {Y : Nat → ClassId} {cc : ByteArray} {own : String} {R : Room} {nL : Nat} {cells slots : Nat} {ws : va_W} {lv : List (Nat × Value)} {rest : List Value} {pc : Nat} (C : gOK E l D Y cc own R nL) {i : Nat} {x : Nat} (hd : decode cc pc = .ok (.aload i, 2)) (k : Nat) (hk : lv[k]? = some (i, .ref x)) (h : gG E cells slots ws lv (.ref x :: rest) (pc + 2)) : gG E cells slots ws lv (rest) pc := by
  obtain ⟨p, l, e, R, s, m, args, below, meth, c, nL, A, D, Q⟩ := E
  obtain ⟨rfl, rfl, rfl, rfl, hx, hb, hml, hown, hts, hK, hA, hZ, hlocks, -⟩ := C
  exact fun H locs ls hP hD hS hl => lv_aload hx hb hd (lv_at hl k hk) (h H locs ls hP hD hS hl)
theorem g_astore_n {E : gE} {l : Launch} {D : va_G} {Y : Nat → ClassId} {cc : ByteArray} {own : String} {R : Room} {nL : Nat} {cells slots : Nat} {ws : va_W} {lv : List (Nat × Value)} {rest : List Value} {pc : Nat} (C : gOK E l D Y cc own R nL) {i : Fin 4} {x : Nat} {lv' : List (Nat × Value)} (hd : decode cc pc = .ok (.astore_n i, 1)) (hn : (i : Nat) < nL) (hl : ((i : Nat), Value.ref x) :: lv.filter (fun q => !(q.1 == (i : Nat)) && !(q.1 + 1 == (i : Nat) && q.2.category == 2)) = lv') (h : gG E cells slots ws lv' rest (pc + 1)) : gG E cells slots ws lv (.ref x :: rest) pc := by
  obtain ⟨p, l, e, R, s, m, args, below, meth, c, nL, A, D, Q⟩ := E
  obtain ⟨rfl, rfl, rfl, rfl, hx, hb, hml, hown, hts, hK, hA, hZ, hlocks, -⟩ := C
  exact fun H locs ls hP hD hS hl0 => lv_astore_n hx hb hd rfl hl0 hn hl (fun ls' hl' => h H locs ls' hP hD hS hl')
theorem g_astore {E : gE} {l : Launch} {D : va_G} {Y : Nat → ClassId} {cc : ByteArray} {own : String} {R : Room} {nL : Nat} {cells slots : Nat} {ws : va_W} {lv : List (Nat × Value)} {rest : List Value} {pc : Nat} (C : gOK E l D Y cc own R nL) {i : Nat} {x : Nat} {lv' : List (Nat × Value)} (hd : decode cc pc = .ok (.astore i, 2)) (hn : i < nL) (hl : (i, Value.ref x) :: lv.filter (fun q => !(q.1 == i) && !(q.1 + 1 == i && q.2.category == 2)) = lv') (h : gG E cells slots ws lv' rest (pc + 2)) : gG E cells slots ws lv (.ref x :: rest) pc := by
  obtain ⟨p, l, e, R, s, m, args, below, meth, c, nL, A, D, Q⟩ := E
  obtain ⟨rfl, rfl, rfl, rfl, hx, hb, hml, hown, hts, hK, hA, hZ, hlocks, -⟩ := C
  exact fun H locs ls hP hD hS hl0 => lv_astore hx hb hd hl0 hn hl (fun ls' hl' => h H locs ls' hP hD hS hl')
theorem g_iinc {E : gE} {l : Launch} {D : va_G} {Y : Nat → ClassId} {cc : ByteArray} {own : String} {R : Room} {nL : Nat} {cells slots : Nat} {ws : va_W} {lv : List (Nat × Value)} {rest : List Value} {pc : Nat} (C : gOK E l D Y cc own R nL) {i : Nat} {n : Int} {x v : Int32} {lv' : List (Nat × Value)} (hd : decode cc pc = .ok (.iinc i n, 3)) (k : Nat) (hk : lv[k]? = some (i, .int x)) (hv : x + Int32.ofInt n = v) (hn : i < nL) (hl : (i, Value.int v) :: lv.filter (fun q => !(q.1 == i) && !(q.1 + 1 == i && q.2.category == 2)) = lv') (h : gG E cells slots ws lv' rest (pc + 3)) : gG E cells slots ws lv rest pc := by
  obtain ⟨p, l, e, R, s, m, args, below, meth, c, nL, A, D, Q⟩ := E
  obtain ⟨rfl, rfl, rfl, rfl, hx, hb, hml, hown, hts, hK, hA, hZ, hlocks, -⟩ := C
  exact fun H locs ls hP hD hS hl0 => lv_iinc hx hb hd hl0 hk hv hn hl (fun ls' hl' => h H locs ls' hP hD hS hl')
theorem g_iadd {E : gE} {l : Launch} {D : va_G} {Y : Nat → ClassId} {cc : ByteArray} {own : String} {R : Room} {nL : Nat} {cells slots : Nat} {ws : va_W} {lv : List (Nat × Value)} {rest : List Value} {pc : Nat} (C : gOK E l D Y cc own R nL) {x y : Int32} (hd : decode cc pc = .ok (.iadd, 1)) (h : gG E cells slots ws lv (.int (x + y) :: rest) (pc + 1)) : gG E cells slots ws lv (.int y :: .int x :: rest) pc := by
  obtain ⟨p, l, e, R, s, m, args, below, meth, c, nL, A, D, Q⟩ := E
  obtain ⟨rfl, rfl, rfl, rfl, hx, hb, hml, hown, hts, hK, hA, hZ, hlocks, -⟩ := C
  exact fun H locs ls hP hD hS hl => lv_iadd hx hb hd (h H locs ls hP hD hS hl)
theorem g_isub {E : gE} {l : Launch} {D : va_G} {Y : Nat → ClassId} {cc : ByteArray} {own : String} {R : Room} {nL : Nat} {cells slots : Nat} {ws : va_W} {lv : List (Nat × Value)} {rest : List Value} {pc : Nat} (C : gOK E l D Y cc own R nL) {x y : Int32} (hd : decode cc pc = .ok (.isub, 1)) (h : gG E cells slots ws lv (.int (x - y) :: rest) (pc + 1)) : gG E cells slots ws lv (.int y :: .int x :: rest) pc := by
  obtain ⟨p, l, e, R, s, m, args, below, meth, c, nL, A, D, Q⟩ := E
  obtain ⟨rfl, rfl, rfl, rfl, hx, hb, hml, hown, hts, hK, hA, hZ, hlocks, -⟩ := C
  exact fun H locs ls hP hD hS hl => lv_isub hx hb hd (h H locs ls hP hD hS hl)
theorem g_imul {E : gE} {l : Launch} {D : va_G} {Y : Nat → ClassId} {cc : ByteArray} {own : String} {R : Room} {nL : Nat} {cells slots : Nat} {ws : va_W} {lv : List (Nat × Value)} {rest : List Value} {pc : Nat} (C : gOK E l D Y cc own R nL) {x y : Int32} (hd : decode cc pc = .ok (.imul, 1)) (h : gG E cells slots ws lv (.int (x * y) :: rest) (pc + 1)) : gG E cells slots ws lv (.int y :: .int x :: rest) pc := by
  obtain ⟨p, l, e, R, s, m, args, below, meth, c, nL, A, D, Q⟩ := E
  obtain ⟨rfl, rfl, rfl, rfl, hx, hb, hml, hown, hts, hK, hA, hZ, hlocks, -⟩ := C
  exact fun H locs ls hP hD hS hl => lv_imul hx hb hd (h H locs ls hP hD hS hl)
theorem g_iand {E : gE} {l : Launch} {D : va_G} {Y : Nat → ClassId} {cc : ByteArray} {own : String} {R : Room} {nL : Nat} {cells slots : Nat} {ws : va_W} {lv : List (Nat × Value)} {rest : List Value} {pc : Nat} (C : gOK E l D Y cc own R nL) {x y : Int32} (hd : decode cc pc = .ok (.iand, 1)) (h : gG E cells slots ws lv (.int (x &&& y) :: rest) (pc + 1)) : gG E cells slots ws lv (.int y :: .int x :: rest) pc := by
  obtain ⟨p, l, e, R, s, m, args, below, meth, c, nL, A, D, Q⟩ := E
  obtain ⟨rfl, rfl, rfl, rfl, hx, hb, hml, hown, hts, hK, hA, hZ, hlocks, -⟩ := C
  exact fun H locs ls hP hD hS hl => lv_iand hx hb hd (h H locs ls hP hD hS hl)
theorem g_ior {E : gE} {l : Launch} {D : va_G} {Y : Nat → ClassId} {cc : ByteArray} {own : String} {R : Room} {nL : Nat} {cells slots : Nat} {ws : va_W} {lv : List (Nat × Value)} {rest : List Value} {pc : Nat} (C : gOK E l D Y cc own R nL) {x y : Int32} (hd : decode cc pc = .ok (.ior, 1)) (h : gG E cells slots ws lv (.int (x ||| y) :: rest) (pc + 1)) : gG E cells slots ws lv (.int y :: .int x :: rest) pc := by
  obtain ⟨p, l, e, R, s, m, args, below, meth, c, nL, A, D, Q⟩ := E
  obtain ⟨rfl, rfl, rfl, rfl, hx, hb, hml, hown, hts, hK, hA, hZ, hlocks, -⟩ := C
  exact fun H locs ls hP hD hS hl => lv_ior hx hb hd (h H locs ls hP hD hS hl)
theorem g_ishl {E : gE} {l : Launch} {D : va_G} {Y : Nat → ClassId} {cc : ByteArray} {own : String} {R : Room} {nL : Nat} {cells slots : Nat} {ws : va_W} {lv : List (Nat × Value)} {rest : List Value} {pc : Nat} (C : gOK E l D Y cc own R nL) {x y : Int32} (hd : decode cc pc = .ok (.ishl, 1)) (h : gG E cells slots ws lv (.int (x <<< (y &&& 31)) :: rest) (pc + 1)) : gG E cells slots ws lv (.int y :: .int x :: rest) pc := by
  obtain ⟨p, l, e, R, s, m, args, below, meth, c, nL, A, D, Q⟩ := E
  obtain ⟨rfl, rfl, rfl, rfl, hx, hb, hml, hown, hts, hK, hA, hZ, hlocks, -⟩ := C
  exact fun H locs ls hP hD hS hl => lv_ishl hx hb hd (h H locs ls hP hD hS hl)
theorem g_ishr {E : gE} {l : Launch} {D : va_G} {Y : Nat → ClassId} {cc : ByteArray} {own : String} {R : Room} {nL : Nat} {cells slots : Nat} {ws : va_W} {lv : List (Nat × Value)} {rest : List Value} {pc : Nat} (C : gOK E l D Y cc own R nL) {x y : Int32} (hd : decode cc pc = .ok (.ishr, 1)) (h : gG E cells slots ws lv (.int (x >>> (y &&& 31)) :: rest) (pc + 1)) : gG E cells slots ws lv (.int y :: .int x :: rest) pc := by
  obtain ⟨p, l, e, R, s, m, args, below, meth, c, nL, A, D, Q⟩ := E
  obtain ⟨rfl, rfl, rfl, rfl, hx, hb, hml, hown, hts, hK, hA, hZ, hlocks, -⟩ := C
  exact fun H locs ls hP hD hS hl => lv_ishr hx hb hd (h H locs ls hP hD hS hl)
theorem g_idiv {E : gE} {l : Launch} {D : va_G} {Y : Nat → ClassId} {cc : ByteArray} {own : String} {R : Room} {nL : Nat} {cells slots : Nat} {ws : va_W} {lv : List (Nat × Value)} {rest : List Value} {pc : Nat} (C : gOK E l D Y cc own R nL) {x y : Int32} (hd : decode cc pc = .ok (.idiv, 1)) (hne : ¬ y = 0) (h : gG E cells slots ws lv (.int (x / y) :: rest) (pc + 1)) : gG E cells slots ws lv (.int y :: .int x :: rest) pc := by
  obtain ⟨p, l, e, R, s, m, args, below, meth, c, nL, A, D, Q⟩ := E
  obtain ⟨rfl, rfl, rfl, rfl, hx, hb, hml, hown, hts, hK, hA, hZ, hlocks, -⟩ := C
  exact fun H locs ls hP hD hS hl => lv_idiv hx hb hd hne (h H locs ls hP hD hS hl)
theorem g_irem {E : gE} {l : Launch} {D : va_G} {Y : Nat → ClassId} {cc : ByteArray} {own : String} {R : Room} {nL : Nat} {cells slots : Nat} {ws : va_W} {lv : List (Nat × Value)} {rest : List Value} {pc : Nat} (C : gOK E l D Y cc own R nL) {x y : Int32} (hd : decode cc pc = .ok (.irem, 1)) (hne : ¬ y = 0) (h : gG E cells slots ws lv (.int (x - x / y * y) :: rest) (pc + 1)) : gG E cells slots ws lv (.int y :: .int x :: rest) pc := by
  obtain ⟨p, l, e, R, s, m, args, below, meth, c, nL, A, D, Q⟩ := E
  obtain ⟨rfl, rfl, rfl, rfl, hx, hb, hml, hown, hts, hK, hA, hZ, hlocks, -⟩ := C
  exact fun H locs ls hP hD hS hl => lv_irem hx hb hd hne (h H locs ls hP hD hS hl)
theorem g_ladd {E : gE} {l : Launch} {D : va_G} {Y : Nat → ClassId} {cc : ByteArray} {own : String} {R : Room} {nL : Nat} {cells slots : Nat} {ws : va_W} {lv : List (Nat × Value)} {rest : List Value} {pc : Nat} (C : gOK E l D Y cc own R nL) {x y : Int64} (hd : decode cc pc = .ok (.ladd, 1)) (h : gG E cells slots ws lv (.long (x + y) :: rest) (pc + 1)) : gG E cells slots ws lv (.long y :: .long x :: rest) pc := by
  obtain ⟨p, l, e, R, s, m, args, below, meth, c, nL, A, D, Q⟩ := E
  obtain ⟨rfl, rfl, rfl, rfl, hx, hb, hml, hown, hts, hK, hA, hZ, hlocks, -⟩ := C
  exact fun H locs ls hP hD hS hl => lv_ladd hx hb hd (h H locs ls hP hD hS hl)
theorem g_lsub {E : gE} {l : Launch} {D : va_G} {Y : Nat → ClassId} {cc : ByteArray} {own : String} {R : Room} {nL : Nat} {cells slots : Nat} {ws : va_W} {lv : List (Nat × Value)} {rest : List Value} {pc : Nat} (C : gOK E l D Y cc own R nL) {x y : Int64} (hd : decode cc pc = .ok (.lsub, 1)) (h : gG E cells slots ws lv (.long (x - y) :: rest) (pc + 1)) : gG E cells slots ws lv (.long y :: .long x :: rest) pc := by
  obtain ⟨p, l, e, R, s, m, args, below, meth, c, nL, A, D, Q⟩ := E
  obtain ⟨rfl, rfl, rfl, rfl, hx, hb, hml, hown, hts, hK, hA, hZ, hlocks, -⟩ := C
  exact fun H locs ls hP hD hS hl => lv_lsub hx hb hd (h H locs ls hP hD hS hl)
theorem g_lmul {E : gE} {l : Launch} {D : va_G} {Y : Nat → ClassId} {cc : ByteArray} {own : String} {R : Room} {nL : Nat} {cells slots : Nat} {ws : va_W} {lv : List (Nat × Value)} {rest : List Value} {pc : Nat} (C : gOK E l D Y cc own R nL) {x y : Int64} (hd : decode cc pc = .ok (.lmul, 1)) (h : gG E cells slots ws lv (.long (x * y) :: rest) (pc + 1)) : gG E cells slots ws lv (.long y :: .long x :: rest) pc := by
  obtain ⟨p, l, e, R, s, m, args, below, meth, c, nL, A, D, Q⟩ := E
  obtain ⟨rfl, rfl, rfl, rfl, hx, hb, hml, hown, hts, hK, hA, hZ, hlocks, -⟩ := C
  exact fun H locs ls hP hD hS hl => lv_lmul hx hb hd (h H locs ls hP hD hS hl)
theorem g_land {E : gE} {l : Launch} {D : va_G} {Y : Nat → ClassId} {cc : ByteArray} {own : String} {R : Room} {nL : Nat} {cells slots : Nat} {ws : va_W} {lv : List (Nat × Value)} {rest : List Value} {pc : Nat} (C : gOK E l D Y cc own R nL) {x y : Int64} (hd : decode cc pc = .ok (.land, 1)) (h : gG E cells slots ws lv (.long (x &&& y) :: rest) (pc + 1)) : gG E cells slots ws lv (.long y :: .long x :: rest) pc := by
  obtain ⟨p, l, e, R, s, m, args, below, meth, c, nL, A, D, Q⟩ := E
  obtain ⟨rfl, rfl, rfl, rfl, hx, hb, hml, hown, hts, hK, hA, hZ, hlocks, -⟩ := C
  exact fun H locs ls hP hD hS hl => lv_land hx hb hd (h H locs ls hP hD hS hl)
theorem g_ldiv {E : gE} {l : Launch} {D : va_G} {Y : Nat → ClassId} {cc : ByteArray} {own : String} {R : Room} {nL : Nat} {cells slots : Nat} {ws : va_W} {lv : List (Nat × Value)} {rest : List Value} {pc : Nat} (C : gOK E l D Y cc own R nL) {x y : Int64} (hd : decode cc pc = .ok (.ldiv, 1)) (hne : ¬ y = 0) (h : gG E cells slots ws lv (.long (x / y) :: rest) (pc + 1)) : gG E cells slots ws lv (.long y :: .long x :: rest) pc := by
  obtain ⟨p, l, e, R, s, m, args, below, meth, c, nL, A, D, Q⟩ := E
  obtain ⟨rfl, rfl, rfl, rfl, hx, hb, hml, hown, hts, hK, hA, hZ, hlocks, -⟩ := C
  exact fun H locs ls hP hD hS hl => lv_ldiv hx hb hd hne (h H locs ls hP hD hS hl)
theorem g_lrem {E : gE} {l : Launch} {D : va_G} {Y : Nat → ClassId} {cc : ByteArray} {own : String} {R : Room} {nL : Nat} {cells slots : Nat} {ws : va_W} {lv : List (Nat × Value)} {rest : List Value} {pc : Nat} (C : gOK E l D Y cc own R nL) {x y : Int64} (hd : decode cc pc = .ok (.lrem, 1)) (hne : ¬ y = 0) (h : gG E cells slots ws lv (.long (x - x / y * y) :: rest) (pc + 1)) : gG E cells slots ws lv (.long y :: .long x :: rest) pc := by
  obtain ⟨p, l, e, R, s, m, args, below, meth, c, nL, A, D, Q⟩ := E
  obtain ⟨rfl, rfl, rfl, rfl, hx, hb, hml, hown, hts, hK, hA, hZ, hlocks, -⟩ := C
  exact fun H locs ls hP hD hS hl => lv_lrem hx hb hd hne (h H locs ls hP hD hS hl)
theorem g_ineg {E : gE} {l : Launch} {D : va_G} {Y : Nat → ClassId} {cc : ByteArray} {own : String} {R : Room} {nL : Nat} {cells slots : Nat} {ws : va_W} {lv : List (Nat × Value)} {rest : List Value} {pc : Nat} (C : gOK E l D Y cc own R nL) {x : Int32} (hd : decode cc pc = .ok (.ineg, 1)) (h : gG E cells slots ws lv (.int (-x) :: rest) (pc + 1)) : gG E cells slots ws lv (.int x :: rest) pc := by
  obtain ⟨p, l, e, R, s, m, args, below, meth, c, nL, A, D, Q⟩ := E
  obtain ⟨rfl, rfl, rfl, rfl, hx, hb, hml, hown, hts, hK, hA, hZ, hlocks, -⟩ := C
  exact fun H locs ls hP hD hS hl => lv_ineg hx hb hd (h H locs ls hP hD hS hl)
theorem g_lneg {E : gE} {l : Launch} {D : va_G} {Y : Nat → ClassId} {cc : ByteArray} {own : String} {R : Room} {nL : Nat} {cells slots : Nat} {ws : va_W} {lv : List (Nat × Value)} {rest : List Value} {pc : Nat} (C : gOK E l D Y cc own R nL) {x : Int64} (hd : decode cc pc = .ok (.lneg, 1)) (h : gG E cells slots ws lv (.long (-x) :: rest) (pc + 1)) : gG E cells slots ws lv (.long x :: rest) pc := by
  obtain ⟨p, l, e, R, s, m, args, below, meth, c, nL, A, D, Q⟩ := E
  obtain ⟨rfl, rfl, rfl, rfl, hx, hb, hml, hown, hts, hK, hA, hZ, hlocks, -⟩ := C
  exact fun H locs ls hP hD hS hl => lv_lneg hx hb hd (h H locs ls hP hD hS hl)
theorem g_iushr {E : gE} {l : Launch} {D : va_G} {Y : Nat → ClassId} {cc : ByteArray} {own : String} {R : Room} {nL : Nat} {cells slots : Nat} {ws : va_W} {lv : List (Nat × Value)} {rest : List Value} {pc : Nat} (C : gOK E l D Y cc own R nL) {x y : Int32} (hd : decode cc pc = .ok (.iushr, 1)) (h : gG E cells slots ws lv (.int ((x.toUInt32 >>> (y.toUInt32 &&& Int32.toUInt32 31)).toInt32) :: rest) (pc + 1)) : gG E cells slots ws lv (.int y :: .int x :: rest) pc := by
  obtain ⟨p, l, e, R, s, m, args, below, meth, c, nL, A, D, Q⟩ := E
  obtain ⟨rfl, rfl, rfl, rfl, hx, hb, hml, hown, hts, hK, hA, hZ, hlocks, -⟩ := C
  exact fun H locs ls hP hD hS hl => lv_iushr hx hb hd rfl (h H locs ls hP hD hS hl)
theorem g_i2l {E : gE} {l : Launch} {D : va_G} {Y : Nat → ClassId} {cc : ByteArray} {own : String} {R : Room} {nL : Nat} {cells slots : Nat} {ws : va_W} {lv : List (Nat × Value)} {rest : List Value} {pc : Nat} (C : gOK E l D Y cc own R nL) {x : Int32} (hd : decode cc pc = .ok (.i2l, 1)) (h : gG E cells slots ws lv (.long x.toInt64 :: rest) (pc + 1)) : gG E cells slots ws lv (.int x :: rest) pc := by
  obtain ⟨p, l, e, R, s, m, args, below, meth, c, nL, A, D, Q⟩ := E
  obtain ⟨rfl, rfl, rfl, rfl, hx, hb, hml, hown, hts, hK, hA, hZ, hlocks, -⟩ := C
  exact fun H locs ls hP hD hS hl => lv_i2l hx hb hd rfl (h H locs ls hP hD hS hl)
theorem g_l2i {E : gE} {l : Launch} {D : va_G} {Y : Nat → ClassId} {cc : ByteArray} {own : String} {R : Room} {nL : Nat} {cells slots : Nat} {ws : va_W} {lv : List (Nat × Value)} {rest : List Value} {pc : Nat} (C : gOK E l D Y cc own R nL) {x : Int64} (hd : decode cc pc = .ok (.l2i, 1)) (h : gG E cells slots ws lv (.int x.toInt32 :: rest) (pc + 1)) : gG E cells slots ws lv (.long x :: rest) pc := by
  obtain ⟨p, l, e, R, s, m, args, below, meth, c, nL, A, D, Q⟩ := E
  obtain ⟨rfl, rfl, rfl, rfl, hx, hb, hml, hown, hts, hK, hA, hZ, hlocks, -⟩ := C
  exact fun H locs ls hP hD hS hl => lv_l2i hx hb hd rfl (h H locs ls hP hD hS hl)
theorem g_i2c {E : gE} {l : Launch} {D : va_G} {Y : Nat → ClassId} {cc : ByteArray} {own : String} {R : Room} {nL : Nat} {cells slots : Nat} {ws : va_W} {lv : List (Nat × Value)} {rest : List Value} {pc : Nat} (C : gOK E l D Y cc own R nL) {x : Int32} (hd : decode cc pc = .ok (.i2c, 1)) (h : gG E cells slots ws lv (.int ((x.toUInt32 % 65536).toInt32) :: rest) (pc + 1)) : gG E cells slots ws lv (.int x :: rest) pc := by
  obtain ⟨p, l, e, R, s, m, args, below, meth, c, nL, A, D, Q⟩ := E
  obtain ⟨rfl, rfl, rfl, rfl, hx, hb, hml, hown, hts, hK, hA, hZ, hlocks, -⟩ := C
  exact fun H locs ls hP hD hS hl => lv_i2c hx hb hd rfl (h H locs ls hP hD hS hl)
theorem g_lcmp {E : gE} {l : Launch} {D : va_G} {Y : Nat → ClassId} {cc : ByteArray} {own : String} {R : Room} {nL : Nat} {cells slots : Nat} {ws : va_W} {lv : List (Nat × Value)} {rest : List Value} {pc : Nat} (C : gOK E l D Y cc own R nL) {x y : Int64} (hd : decode cc pc = .ok (.lcmp, 1)) (h : gG E cells slots ws lv (.int (lg_cmp x y) :: rest) (pc + 1)) : gG E cells slots ws lv (.long y :: .long x :: rest) pc := by
  obtain ⟨p, l, e, R, s, m, args, below, meth, c, nL, A, D, Q⟩ := E
  obtain ⟨rfl, rfl, rfl, rfl, hx, hb, hml, hown, hts, hK, hA, hZ, hlocks, -⟩ := C
  exact fun H locs ls hP hD hS hl => W.lcmp hx hb hd (h H locs ls hP hD hS hl)
theorem g_dup {E : gE} {l : Launch} {D : va_G} {Y : Nat → ClassId} {cc : ByteArray} {own : String} {R : Room} {nL : Nat} {cells slots : Nat} {ws : va_W} {lv : List (Nat × Value)} {rest : List Value} {pc : Nat} (C : gOK E l D Y cc own R nL) {va : Value} (hd : decode cc pc = .ok (.dup, 1)) (hc : va.category = 1) (h : gG E cells slots ws lv (va :: va :: rest) (pc + 1)) : gG E cells slots ws lv (va :: rest) pc := by
  obtain ⟨p, l, e, R, s, m, args, below, meth, c, nL, A, D, Q⟩ := E
  obtain ⟨rfl, rfl, rfl, rfl, hx, hb, hml, hown, hts, hK, hA, hZ, hlocks, -⟩ := C
  exact fun H locs ls hP hD hS hl => lv_dup hx hb hd hc (h H locs ls hP hD hS hl)
theorem g_dup2 {E : gE} {l : Launch} {D : va_G} {Y : Nat → ClassId} {cc : ByteArray} {own : String} {R : Room} {nL : Nat} {cells slots : Nat} {ws : va_W} {lv : List (Nat × Value)} {rest : List Value} {pc : Nat} (C : gOK E l D Y cc own R nL) {va vb : Value} (hd : decode cc pc = .ok (.dup2, 1)) (hc : va.category = 1) (hc2 : vb.category = 1) (h : gG E cells slots ws lv (va :: vb :: va :: vb :: rest) (pc + 1)) : gG E cells slots ws lv (va :: vb :: rest) pc := by
  obtain ⟨p, l, e, R, s, m, args, below, meth, c, nL, A, D, Q⟩ := E
  obtain ⟨rfl, rfl, rfl, rfl, hx, hb, hml, hown, hts, hK, hA, hZ, hlocks, -⟩ := C
  exact fun H locs ls hP hD hS hl => lv_dup2_11 hx hb hd hc hc2 (h H locs ls hP hD hS hl)
theorem g_pop {E : gE} {l : Launch} {D : va_G} {Y : Nat → ClassId} {cc : ByteArray} {own : String} {R : Room} {nL : Nat} {cells slots : Nat} {ws : va_W} {lv : List (Nat × Value)} {rest : List Value} {pc : Nat} (C : gOK E l D Y cc own R nL) {va : Value} (hd : decode cc pc = .ok (.pop, 1)) (hc : va.category = 1) (h : gG E cells slots ws lv (rest) (pc + 1)) : gG E cells slots ws lv (va :: rest) pc := by
  obtain ⟨p, l, e, R, s, m, args, below, meth, c, nL, A, D, Q⟩ := E
  obtain ⟨rfl, rfl, rfl, rfl, hx, hb, hml, hown, hts, hK, hA, hZ, hlocks, -⟩ := C
  exact fun H locs ls hP hD hS hl => lv_pop hx hb hd hc (h H locs ls hP hD hS hl)
theorem g_goto {E : gE} {l : Launch} {D : va_G} {Y : Nat → ClassId} {cc : ByteArray} {own : String} {R : Room} {nL : Nat} {cells slots : Nat} {ws : va_W} {lv : List (Nat × Value)} {rest : List Value} {pc : Nat} (C : gOK E l D Y cc own R nL) {off : Int} {tgt : Nat} (hd : decode cc pc = .ok (.goto off, 3)) (ht : (pc : Int) + off = (tgt : Int)) (h : gG E cells slots ws lv (rest) (tgt)) : gG E cells slots ws lv (rest) pc := by
  obtain ⟨p, l, e, R, s, m, args, below, meth, c, nL, A, D, Q⟩ := E
  obtain ⟨rfl, rfl, rfl, rfl, hx, hb, hml, hown, hts, hK, hA, hZ, hlocks, -⟩ := C
  exact fun H locs ls hP hD hS hl => lv_goto hx hb hd ht (h H locs ls hP hD hS hl)
theorem g_if_eq {E : gE} {l : Launch} {D : va_G} {Y : Nat → ClassId} {cc : ByteArray} {own : String} {R : Room} {nL : Nat} {cells slots : Nat} {ws : va_W} {lv : List (Nat × Value)} {rest : List Value} {pc : Nat} (C : gOK E l D Y cc own R nL) {x : Int32} {off : Int} {tgt : Nat} (hd : decode cc pc = .ok (.ifCond .eq off, 3)) (ht : (pc : Int) + off = (tgt : Int)) (kt : x = 0 → gG E cells slots ws lv rest tgt) (kf : ¬ x = 0 → gG E cells slots ws lv rest (pc + 3)) : gG E cells slots ws lv (.int x :: rest) pc := by
  obtain ⟨p, l, e, R, s, m, args, below, meth, c, nL, A, D, Q⟩ := E
  obtain ⟨rfl, rfl, rfl, rfl, hx, hb, hml, hown, hts, hK, hA, hZ, hlocks, -⟩ := C
  exact fun H locs ls hP hD hS hl => lv_if_eq hx hb hd ht (fun z => kt z H locs ls hP hD hS hl) (fun z => kf z H locs ls hP hD hS hl)
theorem g_icmp_eq {E : gE} {l : Launch} {D : va_G} {Y : Nat → ClassId} {cc : ByteArray} {own : String} {R : Room} {nL : Nat} {cells slots : Nat} {ws : va_W} {lv : List (Nat × Value)} {rest : List Value} {pc : Nat} (C : gOK E l D Y cc own R nL) {x y : Int32} {off : Int} {tgt : Nat} (hd : decode cc pc = .ok (.if_icmp .eq off, 3)) (ht : (pc : Int) + off = (tgt : Int)) (kt : x = y → gG E cells slots ws lv rest tgt) (kf : ¬ x = y → gG E cells slots ws lv rest (pc + 3)) : gG E cells slots ws lv (.int y :: .int x :: rest) pc := by
  obtain ⟨p, l, e, R, s, m, args, below, meth, c, nL, A, D, Q⟩ := E
  obtain ⟨rfl, rfl, rfl, rfl, hx, hb, hml, hown, hts, hK, hA, hZ, hlocks, -⟩ := C
  exact fun H locs ls hP hD hS hl => lv_icmp_eq hx hb hd ht (fun z => kt z H locs ls hP hD hS hl) (fun z => kf z H locs ls hP hD hS hl)
theorem g_if_ne {E : gE} {l : Launch} {D : va_G} {Y : Nat → ClassId} {cc : ByteArray} {own : String} {R : Room} {nL : Nat} {cells slots : Nat} {ws : va_W} {lv : List (Nat × Value)} {rest : List Value} {pc : Nat} (C : gOK E l D Y cc own R nL) {x : Int32} {off : Int} {tgt : Nat} (hd : decode cc pc = .ok (.ifCond .ne off, 3)) (ht : (pc : Int) + off = (tgt : Int)) (kt : ¬ x = 0 → gG E cells slots ws lv rest tgt) (kf : x = 0 → gG E cells slots ws lv rest (pc + 3)) : gG E cells slots ws lv (.int x :: rest) pc := by
  obtain ⟨p, l, e, R, s, m, args, below, meth, c, nL, A, D, Q⟩ := E
  obtain ⟨rfl, rfl, rfl, rfl, hx, hb, hml, hown, hts, hK, hA, hZ, hlocks, -⟩ := C
  exact fun H locs ls hP hD hS hl => lv_if_ne hx hb hd ht (fun z => kt z H locs ls hP hD hS hl) (fun z => kf z H locs ls hP hD hS hl)
theorem g_icmp_ne {E : gE} {l : Launch} {D : va_G} {Y : Nat → ClassId} {cc : ByteArray} {own : String} {R : Room} {nL : Nat} {cells slots : Nat} {ws : va_W} {lv : List (Nat × Value)} {rest : List Value} {pc : Nat} (C : gOK E l D Y cc own R nL) {x y : Int32} {off : Int} {tgt : Nat} (hd : decode cc pc = .ok (.if_icmp .ne off, 3)) (ht : (pc : Int) + off = (tgt : Int)) (kt : ¬ x = y → gG E cells slots ws lv rest tgt) (kf : x = y → gG E cells slots ws lv rest (pc + 3)) : gG E cells slots ws lv (.int y :: .int x :: rest) pc := by
  obtain ⟨p, l, e, R, s, m, args, below, meth, c, nL, A, D, Q⟩ := E
  obtain ⟨rfl, rfl, rfl, rfl, hx, hb, hml, hown, hts, hK, hA, hZ, hlocks, -⟩ := C
  exact fun H locs ls hP hD hS hl => lv_icmp_ne hx hb hd ht (fun z => kt z H locs ls hP hD hS hl) (fun z => kf z H locs ls hP hD hS hl)
theorem g_if_lt {E : gE} {l : Launch} {D : va_G} {Y : Nat → ClassId} {cc : ByteArray} {own : String} {R : Room} {nL : Nat} {cells slots : Nat} {ws : va_W} {lv : List (Nat × Value)} {rest : List Value} {pc : Nat} (C : gOK E l D Y cc own R nL) {x : Int32} {off : Int} {tgt : Nat} (hd : decode cc pc = .ok (.ifCond .lt off, 3)) (ht : (pc : Int) + off = (tgt : Int)) (kt : x < 0 → gG E cells slots ws lv rest tgt) (kf : ¬ x < 0 → gG E cells slots ws lv rest (pc + 3)) : gG E cells slots ws lv (.int x :: rest) pc := by
  obtain ⟨p, l, e, R, s, m, args, below, meth, c, nL, A, D, Q⟩ := E
  obtain ⟨rfl, rfl, rfl, rfl, hx, hb, hml, hown, hts, hK, hA, hZ, hlocks, -⟩ := C
  exact fun H locs ls hP hD hS hl => lv_if_lt hx hb hd ht (fun z => kt z H locs ls hP hD hS hl) (fun z => kf z H locs ls hP hD hS hl)
theorem g_icmp_lt {E : gE} {l : Launch} {D : va_G} {Y : Nat → ClassId} {cc : ByteArray} {own : String} {R : Room} {nL : Nat} {cells slots : Nat} {ws : va_W} {lv : List (Nat × Value)} {rest : List Value} {pc : Nat} (C : gOK E l D Y cc own R nL) {x y : Int32} {off : Int} {tgt : Nat} (hd : decode cc pc = .ok (.if_icmp .lt off, 3)) (ht : (pc : Int) + off = (tgt : Int)) (kt : x < y → gG E cells slots ws lv rest tgt) (kf : ¬ x < y → gG E cells slots ws lv rest (pc + 3)) : gG E cells slots ws lv (.int y :: .int x :: rest) pc := by
  obtain ⟨p, l, e, R, s, m, args, below, meth, c, nL, A, D, Q⟩ := E
  obtain ⟨rfl, rfl, rfl, rfl, hx, hb, hml, hown, hts, hK, hA, hZ, hlocks, -⟩ := C
  exact fun H locs ls hP hD hS hl => lv_icmp_lt hx hb hd ht (fun z => kt z H locs ls hP hD hS hl) (fun z => kf z H locs ls hP hD hS hl)
theorem g_if_ge {E : gE} {l : Launch} {D : va_G} {Y : Nat → ClassId} {cc : ByteArray} {own : String} {R : Room} {nL : Nat} {cells slots : Nat} {ws : va_W} {lv : List (Nat × Value)} {rest : List Value} {pc : Nat} (C : gOK E l D Y cc own R nL) {x : Int32} {off : Int} {tgt : Nat} (hd : decode cc pc = .ok (.ifCond .ge off, 3)) (ht : (pc : Int) + off = (tgt : Int)) (kt : 0 ≤ x → gG E cells slots ws lv rest tgt) (kf : ¬ 0 ≤ x → gG E cells slots ws lv rest (pc + 3)) : gG E cells slots ws lv (.int x :: rest) pc := by
  obtain ⟨p, l, e, R, s, m, args, below, meth, c, nL, A, D, Q⟩ := E
  obtain ⟨rfl, rfl, rfl, rfl, hx, hb, hml, hown, hts, hK, hA, hZ, hlocks, -⟩ := C
  exact fun H locs ls hP hD hS hl => lv_if_ge hx hb hd ht (fun z => kt z H locs ls hP hD hS hl) (fun z => kf z H locs ls hP hD hS hl)
theorem g_icmp_ge {E : gE} {l : Launch} {D : va_G} {Y : Nat → ClassId} {cc : ByteArray} {own : String} {R : Room} {nL : Nat} {cells slots : Nat} {ws : va_W} {lv : List (Nat × Value)} {rest : List Value} {pc : Nat} (C : gOK E l D Y cc own R nL) {x y : Int32} {off : Int} {tgt : Nat} (hd : decode cc pc = .ok (.if_icmp .ge off, 3)) (ht : (pc : Int) + off = (tgt : Int)) (kt : y ≤ x → gG E cells slots ws lv rest tgt) (kf : ¬ y ≤ x → gG E cells slots ws lv rest (pc + 3)) : gG E cells slots ws lv (.int y :: .int x :: rest) pc := by
  obtain ⟨p, l, e, R, s, m, args, below, meth, c, nL, A, D, Q⟩ := E
  obtain ⟨rfl, rfl, rfl, rfl, hx, hb, hml, hown, hts, hK, hA, hZ, hlocks, -⟩ := C
  exact fun H locs ls hP hD hS hl => lv_icmp_ge hx hb hd ht (fun z => kt z H locs ls hP hD hS hl) (fun z => kf z H locs ls hP hD hS hl)
theorem g_if_gt {E : gE} {l : Launch} {D : va_G} {Y : Nat → ClassId} {cc : ByteArray} {own : String} {R : Room} {nL : Nat} {cells slots : Nat} {ws : va_W} {lv : List (Nat × Value)} {rest : List Value} {pc : Nat} (C : gOK E l D Y cc own R nL) {x : Int32} {off : Int} {tgt : Nat} (hd : decode cc pc = .ok (.ifCond .gt off, 3)) (ht : (pc : Int) + off = (tgt : Int)) (kt : 0 < x → gG E cells slots ws lv rest tgt) (kf : ¬ 0 < x → gG E cells slots ws lv rest (pc + 3)) : gG E cells slots ws lv (.int x :: rest) pc := by
  obtain ⟨p, l, e, R, s, m, args, below, meth, c, nL, A, D, Q⟩ := E
  obtain ⟨rfl, rfl, rfl, rfl, hx, hb, hml, hown, hts, hK, hA, hZ, hlocks, -⟩ := C
  exact fun H locs ls hP hD hS hl => lv_if_gt hx hb hd ht (fun z => kt z H locs ls hP hD hS hl) (fun z => kf z H locs ls hP hD hS hl)
theorem g_icmp_gt {E : gE} {l : Launch} {D : va_G} {Y : Nat → ClassId} {cc : ByteArray} {own : String} {R : Room} {nL : Nat} {cells slots : Nat} {ws : va_W} {lv : List (Nat × Value)} {rest : List Value} {pc : Nat} (C : gOK E l D Y cc own R nL) {x y : Int32} {off : Int} {tgt : Nat} (hd : decode cc pc = .ok (.if_icmp .gt off, 3)) (ht : (pc : Int) + off = (tgt : Int)) (kt : y < x → gG E cells slots ws lv rest tgt) (kf : ¬ y < x → gG E cells slots ws lv rest (pc + 3)) : gG E cells slots ws lv (.int y :: .int x :: rest) pc := by
  obtain ⟨p, l, e, R, s, m, args, below, meth, c, nL, A, D, Q⟩ := E
  obtain ⟨rfl, rfl, rfl, rfl, hx, hb, hml, hown, hts, hK, hA, hZ, hlocks, -⟩ := C
  exact fun H locs ls hP hD hS hl => lv_icmp_gt hx hb hd ht (fun z => kt z H locs ls hP hD hS hl) (fun z => kf z H locs ls hP hD hS hl)
theorem g_if_le {E : gE} {l : Launch} {D : va_G} {Y : Nat → ClassId} {cc : ByteArray} {own : String} {R : Room} {nL : Nat} {cells slots : Nat} {ws : va_W} {lv : List (Nat × Value)} {rest : List Value} {pc : Nat} (C : gOK E l D Y cc own R nL) {x : Int32} {off : Int} {tgt : Nat} (hd : decode cc pc = .ok (.ifCond .le off, 3)) (ht : (pc : Int) + off = (tgt : Int)) (kt : x ≤ 0 → gG E cells slots ws lv rest tgt) (kf : ¬ x ≤ 0 → gG E cells slots ws lv rest (pc + 3)) : gG E cells slots ws lv (.int x :: rest) pc := by
  obtain ⟨p, l, e, R, s, m, args, below, meth, c, nL, A, D, Q⟩ := E
  obtain ⟨rfl, rfl, rfl, rfl, hx, hb, hml, hown, hts, hK, hA, hZ, hlocks, -⟩ := C
  exact fun H locs ls hP hD hS hl => lv_if_le hx hb hd ht (fun z => kt z H locs ls hP hD hS hl) (fun z => kf z H locs ls hP hD hS hl)
theorem g_icmp_le {E : gE} {l : Launch} {D : va_G} {Y : Nat → ClassId} {cc : ByteArray} {own : String} {R : Room} {nL : Nat} {cells slots : Nat} {ws : va_W} {lv : List (Nat × Value)} {rest : List Value} {pc : Nat} (C : gOK E l D Y cc own R nL) {x y : Int32} {off : Int} {tgt : Nat} (hd : decode cc pc = .ok (.if_icmp .le off, 3)) (ht : (pc : Int) + off = (tgt : Int)) (kt : x ≤ y → gG E cells slots ws lv rest tgt) (kf : ¬ x ≤ y → gG E cells slots ws lv rest (pc + 3)) : gG E cells slots ws lv (.int y :: .int x :: rest) pc := by
  obtain ⟨p, l, e, R, s, m, args, below, meth, c, nL, A, D, Q⟩ := E
  obtain ⟨rfl, rfl, rfl, rfl, hx, hb, hml, hown, hts, hK, hA, hZ, hlocks, -⟩ := C
  exact fun H locs ls hP hD hS hl => lv_icmp_le hx hb hd ht (fun z => kt z H locs ls hP hD hS hl) (fun z => kf z H locs ls hP hD hS hl)
theorem g_get {E : gE} {l : Launch} {D : va_G} {Y : Nat → ClassId} {cc : ByteArray} {own : String} {R : Room} {nL : Nat} {cells slots : Nat} {ws : va_W} {lv : List (Nat × Value)} {rest : List Value} {pc : Nat} (C0 : gOK E l D Y cc own R nL) {C : String} {T : u_T} {N ci idx a0 : Nat} (hin : ∀ w ∈ u_ws C T N, w ∈ gWs) (q0 : Nat) {fs : List Value} (he : ws[q0]? = some (a0, .inr (ci, fs))) (hc : vwCl[ci]? = some (C, T, N)) (k : Nat) (hk : k < N) (hw : Cond.fieldLink own idx (T k).1 (T k).2.1 (T k).2.2.1 ∈ gWs) {v : Value} (hv : fs[k]? = some v) (hd : decode cc pc = .ok (.getfield idx, 3)) (h : gG E cells slots ws lv (v :: rest) (pc + 3)) : gG E cells slots ws lv (.ref a0 :: rest) pc := by
  obtain ⟨p, l, e, R, s, m, args, below, meth, c, nL, A, D, Q⟩ := E
  obtain ⟨rfl, rfl, rfl, rfl, hx, hb, hml, hown, hts, hK, hA, hZ, hlocks, -⟩ := C0
  exact fun H locs ls hP hD hS hl => va_get (C := C) (T := T) (N := N) hx hb hts hin hown hK hP q0 he hc k hk (hts _ hw) (fun _ h9 => h9) hv hd (h H locs ls hP hD hS hl)
theorem g_put {E : gE} {l : Launch} {D : va_G} {Y : Nat → ClassId} {cc : ByteArray} {own : String} {R : Room} {nL : Nat} {cells slots : Nat} {ws : va_W} {lv : List (Nat × Value)} {rest : List Value} {pc : Nat} (C0 : gOK E l D Y cc own R nL) {C : String} {T : u_T} {N ci idx a0 : Nat} (hin : ∀ w ∈ u_ws C T N, w ∈ gWs) (ty0 : Nat → FieldType) (hty : ∀ k, k < N → parseFieldDescriptor (T k).2.2.1 = some (ty0 k)) (hnm : ∀ a, a < N → ∀ b, b < N → a ≠ b → (T a).2.1 ≠ (T b).2.1) (q0 : Nat) {fs : List Value} (he : ws[q0]? = some (a0, .inr (ci, fs))) (hc : vwCl[ci]? = some (C, T, N)) (k : Nat) (hk : k < N) (hw : Cond.fieldLink own idx (T k).1 (T k).2.1 (T k).2.2.1 ∈ gWs) (hfin : (T k).2.2.2 = false) {v : Value} (hn : narrow (ty0 k) v = v) (hfit : fits (ty0 k) v = true) (hl : k < fs.length) {ws' : va_W} (hset : ws.set q0 (a0, .inr (ci, fs.set k v)) = ws') (hd : decode cc pc = .ok (.putfield idx, 3)) (h : gG E cells slots ws' lv rest (pc + 3)) : gG E cells slots ws lv (v :: .ref a0 :: rest) pc := by
  obtain ⟨p, l, e, R, s, m, args, below, meth, c, nL, A, D, Q⟩ := E
  obtain ⟨rfl, rfl, rfl, rfl, hx, hb, hml, hown, hts, hK, hA, hZ, hlocks, -⟩ := C0
  subst hset
  exact fun H locs ls hP hD hS hl0 => va_put (C := C) (T := T) (N := N) hx hb hts hin ty0 hty hnm hown hK hP hD hS q0 he hc k hk (hts _ hw) (fun _ h9 => h9) hfin (hty k hk) hn hfit hl hd (fun H1 locs1 hP1 hD1 hS1 => h H1 locs1 ls hP1 hD1 hS1 hl0)
def gInit (E : gE) : Prop := match E with
  | (_, _, _, _, _, _, _, _, meth, _) => meth.name = "<init>"
theorem g_putF {E : gE} {l : Launch} {D : va_G} {Y : Nat → ClassId} {cc : ByteArray} {own : String} {R : Room} {nL : Nat} {cells slots : Nat} {ws : va_W} {lv : List (Nat × Value)} {rest : List Value} {pc : Nat} (C0 : gOK E l D Y cc own R nL) {C : String} {T : u_T} {N ci idx a0 : Nat} (hin : ∀ w ∈ u_ws C T N, w ∈ gWs) (ty0 : Nat → FieldType) (hty : ∀ k, k < N → parseFieldDescriptor (T k).2.2.1 = some (ty0 k)) (hnm : ∀ a, a < N → ∀ b, b < N → a ≠ b → (T a).2.1 ≠ (T b).2.1) (q0 : Nat) {fs : List Value} (he : ws[q0]? = some (a0, .inr (ci, fs))) (hc : vwCl[ci]? = some (C, T, N)) (k : Nat) (hk : k < N) (hw : Cond.fieldLink own idx (T k).1 (T k).2.1 (T k).2.2.1 ∈ gWs) (hfin : (T k).2.2.2 = true) (hin2 : gInit E) (hdecl : (T k).1 = own) {v : Value} (hn : narrow (ty0 k) v = v) (hfit : fits (ty0 k) v = true) (hl : k < fs.length) {ws' : va_W} (hset : ws.set q0 (a0, .inr (ci, fs.set k v)) = ws') (hd : decode cc pc = .ok (.putfield idx, 3)) (h : gG E cells slots ws' lv rest (pc + 3)) : gG E cells slots ws lv (v :: .ref a0 :: rest) pc := by
  obtain ⟨p, l, e, R, s, m, args, below, meth, c, nL, A, D, Q⟩ := E
  obtain ⟨rfl, rfl, rfl, rfl, hx, hb, hml, hown, hts, hK, hA, hZ, hlocks, -⟩ := C0
  subst hset
  exact fun H locs ls hP hD hS hl0 => va_putF (C := C) (T := T) (N := N) hx hb hts hin ty0 hty hnm hown hK hP hD hS q0 he hc k hk (hts _ hw) (fun _ h9 => h9) hfin (by exact hin2) hdecl (hty k hk) hn hfit hl hd (fun H1 locs1 hP1 hD1 hS1 => h H1 locs1 ls hP1 hD1 hS1 hl0)
theorem g_iald {E : gE} {l : Launch} {D : va_G} {Y : Nat → ClassId} {cc : ByteArray} {own : String} {R : Room} {nL : Nat} {cells slots : Nat} {ws : va_W} {lv : List (Nat × Value)} {rest : List Value} {pc : Nat} (C : gOK E l D Y cc own R nL) {a0 n : Nat} {f : Nat → Int32} (q0 : Nat) (he : ws[q0]? = some (a0, .inl (Y 0, n, .inl f))) {i : Int32} (hin : vp_in i n) (hd : decode cc pc = .ok (.iaload, 1)) (h : gG E cells slots ws lv (.int (f i.toNatClampNeg) :: rest) (pc + 1)) : gG E cells slots ws lv (.int i :: .ref a0 :: rest) pc := by
  obtain ⟨p, l, e, R, s, m, args, below, meth, c, nL, A, D, Q⟩ := E
  obtain ⟨rfl, rfl, rfl, rfl, hx, hb, hml, hown, hts, hK, hA, hZ, hlocks, -⟩ := C
  exact fun H locs ls hP hD hS hl => va_iald hx hb hK hP q0 0 he rfl hin hd (h H locs ls hP hD hS hl)
theorem g_lald {E : gE} {l : Launch} {D : va_G} {Y : Nat → ClassId} {cc : ByteArray} {own : String} {R : Room} {nL : Nat} {cells slots : Nat} {ws : va_W} {lv : List (Nat × Value)} {rest : List Value} {pc : Nat} (C : gOK E l D Y cc own R nL) {a0 n : Nat} {f : Nat → Int64} (q0 : Nat) (he : ws[q0]? = some (a0, .inl (Y 1, n, .inr (.inl f)))) {i : Int32} (hin : vp_in i n) (hd : decode cc pc = .ok (.laload, 1)) (h : gG E cells slots ws lv (.long (f i.toNatClampNeg) :: rest) (pc + 1)) : gG E cells slots ws lv (.int i :: .ref a0 :: rest) pc := by
  obtain ⟨p, l, e, R, s, m, args, below, meth, c, nL, A, D, Q⟩ := E
  obtain ⟨rfl, rfl, rfl, rfl, hx, hb, hml, hown, hts, hK, hA, hZ, hlocks, -⟩ := C
  exact fun H locs ls hP hD hS hl => va_lald hx hb hK hP q0 1 he rfl hin hd (h H locs ls hP hD hS hl)
theorem g_zald {E : gE} {l : Launch} {D : va_G} {Y : Nat → ClassId} {cc : ByteArray} {own : String} {R : Room} {nL : Nat} {cells slots : Nat} {ws : va_W} {lv : List (Nat × Value)} {rest : List Value} {pc : Nat} (C : gOK E l D Y cc own R nL) {a0 n : Nat} {f : Nat → Int32} (q0 : Nat) (he : ws[q0]? = some (a0, .inl (Y 2, n, .inl f))) {i : Int32} (hin : vp_in i n) (hd : decode cc pc = .ok (.baload, 1)) (h : gG E cells slots ws lv (.int (f i.toNatClampNeg) :: rest) (pc + 1)) : gG E cells slots ws lv (.int i :: .ref a0 :: rest) pc := by
  obtain ⟨p, l, e, R, s, m, args, below, meth, c, nL, A, D, Q⟩ := E
  obtain ⟨rfl, rfl, rfl, rfl, hx, hb, hml, hown, hts, hK, hA, hZ, hlocks, -⟩ := C
  exact fun H locs ls hP hD hS hl => va_zald hx hb hK hP q0 2 he rfl hin hd (h H locs ls hP hD hS hl)
theorem g_iast {E : gE} {l : Launch} {D : va_G} {Y : Nat → ClassId} {cc : ByteArray} {own : String} {R : Room} {nL : Nat} {cells slots : Nat} {ws : va_W} {lv : List (Nat × Value)} {rest : List Value} {pc : Nat} (C : gOK E l D Y cc own R nL) {a0 n : Nat} {f : Nat → Int32} (q0 : Nat) (he : ws[q0]? = some (a0, .inl (Y 0, n, .inl f))) {i : Int32} {x : Int32} (hin : vp_in i n) (hd : decode cc pc = .ok (.iastore, 1)) (h : ∀ g : Nat → Int32, g = upd f i.toNatClampNeg x → gG E cells slots (ws.set q0 (a0, .inl (Y 0, n, .inl g))) lv rest (pc + 1)) : gG E cells slots ws lv (.int x :: .int i :: .ref a0 :: rest) pc := by
  obtain ⟨p, l, e, R, s, m, args, below, meth, c, nL, A, D, Q⟩ := E
  obtain ⟨rfl, rfl, rfl, rfl, hx, hb, hml, hown, hts, hK, hA, hZ, hlocks, -⟩ := C
  exact fun H locs ls hP hD hS hl => va_iast hx hb hK hP hD hS q0 0 he rfl hin hd (fun H1 locs1 hP1 hD1 hS1 => h _ rfl H1 locs1 ls hP1 hD1 hS1 hl)
theorem g_last {E : gE} {l : Launch} {D : va_G} {Y : Nat → ClassId} {cc : ByteArray} {own : String} {R : Room} {nL : Nat} {cells slots : Nat} {ws : va_W} {lv : List (Nat × Value)} {rest : List Value} {pc : Nat} (C : gOK E l D Y cc own R nL) {a0 n : Nat} {f : Nat → Int64} (q0 : Nat) (he : ws[q0]? = some (a0, .inl (Y 1, n, .inr (.inl f)))) {i : Int32} {x : Int64} (hin : vp_in i n) (hd : decode cc pc = .ok (.lastore, 1)) (h : ∀ g : Nat → Int64, g = vp_updL f i.toNatClampNeg x → gG E cells slots (ws.set q0 (a0, .inl (Y 1, n, .inr (.inl g)))) lv rest (pc + 1)) : gG E cells slots ws lv (.long x :: .int i :: .ref a0 :: rest) pc := by
  obtain ⟨p, l, e, R, s, m, args, below, meth, c, nL, A, D, Q⟩ := E
  obtain ⟨rfl, rfl, rfl, rfl, hx, hb, hml, hown, hts, hK, hA, hZ, hlocks, -⟩ := C
  exact fun H locs ls hP hD hS hl => va_last hx hb hK hP hD hS q0 1 he rfl hin hd (fun H1 locs1 hP1 hD1 hS1 => h _ rfl H1 locs1 ls hP1 hD1 hS1 hl)
theorem g_zast {E : gE} {l : Launch} {D : va_G} {Y : Nat → ClassId} {cc : ByteArray} {own : String} {R : Room} {nL : Nat} {cells slots : Nat} {ws : va_W} {lv : List (Nat × Value)} {rest : List Value} {pc : Nat} (C : gOK E l D Y cc own R nL) {a0 n : Nat} {f : Nat → Int32} (q0 : Nat) (he : ws[q0]? = some (a0, .inl (Y 2, n, .inl f))) {i : Int32} {x : Int32} (hin : vp_in i n) (hd : decode cc pc = .ok (.bastore, 1)) (h : ∀ g : Nat → Int32, g = upd f i.toNatClampNeg (vp_nar .boolean x) → gG E cells slots (ws.set q0 (a0, .inl (Y 2, n, .inl g))) lv rest (pc + 1)) : gG E cells slots ws lv (.int x :: .int i :: .ref a0 :: rest) pc := by
  obtain ⟨p, l, e, R, s, m, args, below, meth, c, nL, A, D, Q⟩ := E
  obtain ⟨rfl, rfl, rfl, rfl, hx, hb, hml, hown, hts, hK, hA, hZ, hlocks, -⟩ := C
  exact fun H locs ls hP hD hS hl => va_zast hx hb hK hP hD hS q0 2 he rfl hin hd (fun H1 locs1 hP1 hD1 hS1 => h _ rfl H1 locs1 ls hP1 hD1 hS1 hl)
theorem g_alen {E : gE} {l : Launch} {D : va_G} {Y : Nat → ClassId} {cc : ByteArray} {own : String} {R : Room} {nL : Nat} {cells slots : Nat} {ws : va_W} {lv : List (Nat × Value)} {rest : List Value} {pc : Nat} (C : gOK E l D Y cc own R nL) {a0 : Nat} {cA : ClassId} {x : vp_A} (q0 t0 : Nat) (he : ws[q0]? = some (a0, .inl (cA, x))) {ty : FieldType} (ht : (gTys Y)[t0]? = some (cA, ty)) {v : Int32} (hv : Int32.ofNat x.1 = v) (hd : decode cc pc = .ok (.arraylength, 1)) (h : gG E cells slots ws lv (.int v :: rest) (pc + 1)) : gG E cells slots ws lv (.ref a0 :: rest) pc := by
  obtain ⟨p, l, e, R, s, m, args, below, meth, c, nL, A, D, Q⟩ := E
  obtain ⟨rfl, rfl, rfl, rfl, hx, hb, hml, hown, hts, hK, hA, hZ, hlocks, -⟩ := C
  exact fun H locs ls hP hD hS hl => va_alen hx hb hK hP q0 t0 he ht hv hd (h H locs ls hP hD hS hl)
theorem g_iret {E : gE} {l : Launch} {D : va_G} {Y : Nat → ClassId} {cc : ByteArray} {own : String} {R : Room} {nL : Nat} {cells slots : Nat} {ws : va_W} {lv : List (Nat × Value)} {pc : Nat} (C : gOK E l D Y cc own R nL) {mc ms : Nat} {ws0 : va_W} {P : Option Value → va_W → Prop} {v : Int32} (hR : gRet E D Y mc ms ws0 P (some .int)) (h1 : cells ≤ mc) (h2 : slots ≤ ms) (hd : decode cc pc = .ok (.ireturn, 1)) (hp : P (some (.int v)) ws) : gG E cells slots ws lv [.int v] pc := by
  obtain ⟨p, l, e, R, s, m, args, below, meth, c, nL, A, D, Q⟩ := E
  obtain ⟨rfl, rfl, rfl, rfl, hx, hb, hml, hown, hts, hK, hA, hZ, hlocks, -⟩ := C
  obtain ⟨rfl, rfl, hr⟩ := hR
  exact fun H locs ls hP hD hS hl => W.widen h1 h2 (W.iret hx hb hr (fun t ht hW => ⟨⟨_, ws, rfl, hp, by rw [ht]; exact hP, va_K.moved hW.alike hK, hD⟩, hS.F ht⟩) hS.2.2 hd (hlocks := hlocks))
theorem g_lret {E : gE} {l : Launch} {D : va_G} {Y : Nat → ClassId} {cc : ByteArray} {own : String} {R : Room} {nL : Nat} {cells slots : Nat} {ws : va_W} {lv : List (Nat × Value)} {pc : Nat} (C : gOK E l D Y cc own R nL) {mc ms : Nat} {ws0 : va_W} {P : Option Value → va_W → Prop} {v : Int64} (hR : gRet E D Y mc ms ws0 P (some .long)) (h1 : cells ≤ mc) (h2 : slots ≤ ms) (hd : decode cc pc = .ok (.lreturn, 1)) (hp : P (some (.long v)) ws) : gG E cells slots ws lv [.long v] pc := by
  obtain ⟨p, l, e, R, s, m, args, below, meth, c, nL, A, D, Q⟩ := E
  obtain ⟨rfl, rfl, rfl, rfl, hx, hb, hml, hown, hts, hK, hA, hZ, hlocks, -⟩ := C
  obtain ⟨rfl, rfl, hr⟩ := hR
  exact fun H locs ls hP hD hS hl => W.widen h1 h2 (W.lret hx hb hr (fun t ht hW => ⟨⟨_, ws, rfl, hp, by rw [ht]; exact hP, va_K.moved hW.alike hK, hD⟩, hS.F ht⟩) hS.2.2 hd (hlocks := hlocks))
theorem g_vret {E : gE} {l : Launch} {D : va_G} {Y : Nat → ClassId} {cc : ByteArray} {own : String} {R : Room} {nL : Nat} {cells slots : Nat} {ws : va_W} {lv : List (Nat × Value)} {pc : Nat} (C : gOK E l D Y cc own R nL) {mc ms : Nat} {ws0 : va_W} {P : Option Value → va_W → Prop} (hR : gRet E D Y mc ms ws0 P none) (h1 : cells ≤ mc) (h2 : slots ≤ ms) (hd : decode cc pc = .ok (.return_, 1)) (hp : P none ws) : gG E cells slots ws lv [] pc := by
  obtain ⟨p, l, e, R, s, m, args, below, meth, c, nL, A, D, Q⟩ := E
  obtain ⟨rfl, rfl, rfl, rfl, hx, hb, hml, hown, hts, hK, hA, hZ, hlocks, -⟩ := C
  obtain ⟨rfl, rfl, hr⟩ := hR
  exact fun H locs ls hP hD hS hl => W.widen h1 h2 (W.vret hx hb hr (fun t ht hW => ⟨⟨_, ws, rfl, hp, by rw [ht]; exact hP, va_K.moved hW.alike hK, hD⟩, hS.F ht⟩) hS.2.2 hd (hlocks := hlocks))
theorem g_zret {E : gE} {l : Launch} {D : va_G} {Y : Nat → ClassId} {cc : ByteArray} {own : String} {R : Room} {nL : Nat} {cells slots : Nat} {ws : va_W} {lv : List (Nat × Value)} {pc : Nat} (C : gOK E l D Y cc own R nL) {mc ms : Nat} {ws0 : va_W} {P : Option Value → va_W → Prop} {v : Int32} (hR : gRet E D Y mc ms ws0 P (some .boolean)) (hz : v = 0 ∨ v = 1) (h1 : cells ≤ mc) (h2 : slots ≤ ms) (hd : decode cc pc = .ok (.ireturn, 1)) (hp : P (some (.int v)) ws) : gG E cells slots ws lv [.int v] pc := by
  obtain ⟨p, l, e, R, s, m, args, below, meth, c, nL, A, D, Q⟩ := E
  obtain ⟨rfl, rfl, rfl, rfl, hx, hb, hml, hown, hts, hK, hA, hZ, hlocks, -⟩ := C
  obtain ⟨rfl, rfl, hr⟩ := hR
  exact fun H locs ls hP hD hS hl => W.widen h1 h2 (W.zret hx hb hr (by rcases hz with rfl | rfl <;> rfl) (fun t ht hW => ⟨⟨_, ws, rfl, hp, by rw [ht]; exact hP, va_K.moved hW.alike hK, hD⟩, hS.F ht⟩) hS.2.2 hd (hlocks := hlocks))
theorem gPre_blind {D : va_G} {Y : Nat → ClassId} {as : List Value} {ws : va_W} {sz : Nat} : FrameBlind (gPre D Y as ws sz) := by
  intro a U g mk q
  obtain ⟨q0, q1, qP, qK, qD, qZ⟩ := q
  exact ⟨q0, q1, qP, va_K.moved (u := U) (U := U.calling g mk a) (Vm.Alike.refl U.vm) qK, qD, gZ.same (s := U) (U := U.calling g mk a) rfl qZ⟩
def gPart (isC isR : List Nat) : Bool := va_nd isC && va_nd isR && isR.all (fun i => !isC.contains i)
/-- a method that can be called: its words, its name -/
def gY (y : MethodName) (n : Nat) : Bool := (y.cls != "java/lang/invoke/MethodHandle") && (y.cls != "java/lang/invoke/VarHandle") && (parseMethodDescriptor y.desc).map (fun d => d.parameters.length) == some n
theorem gY_of {y : MethodName} {n : Nat} (h : gY y n = true) : y.cls ≠ "java/lang/invoke/MethodHandle" ∧ y.cls ≠ "java/lang/invoke/VarHandle" ∧ (parseMethodDescriptor y.desc).map (fun d => d.parameters.length) = some n := by
  simp only [gY, Bool.and_eq_true, bne_iff_ne, beq_iff_eq] at h
  exact ⟨h.1.1, h.1.2, h.2⟩
theorem gWs_good {w : Cond} (h : w ∈ gWs) : GoodIn gWs (w :: gWs) := by
  intro x hx
  have hx' : x ∈ gWs := by
    rcases List.mem_cons.mp hx with rfl | h1
    · exact h
    · exact h1
  exact ⟨hx', good_of_word (List.mem_filter.mp hx').2⟩

theorem g_rest (ws : va_W) : ∀ isR : List Nat, isR.all (fun i => Nat.blt i ws.length) = true → isR.map (fun i => ws[i]?) = (isR.filterMap (fun i => ws[i]?)).map some
  | [], _ => rfl
  | i :: is, h => by
    rw [List.all_cons, Bool.and_eq_true] at h
    have hi : i < ws.length := Nat.le_of_ble_eq_true h.1
    have he : ws[i]? = some ws[i] := List.getElem?_eq_getElem hi
    rw [List.map_cons, List.filterMap_cons, he, g_rest ws is h.2]
    rfl
def gRunH (E : gE) (Y : Nat → ClassId) (cells slots mc ms : Nat) (wc : va_W) (P : Option Value → va_W → Prop) (lv : List (Nat × Value)) (st rest : List Value) (pc : Nat) : Prop :=
  match E with
  | (p, l, e, R, s, m, args, below, meth, c, nL, A, D, Q) => ∀ (H : Heap) (locs : List Loc) (ls : Array Slot), va_P D vwCl wc H → va_D (fun _ => True) wc → (∀ U : State, U.heap = H → s.WarmedH U.vm → gZ Y (va_A wc H.size) U U.heap) → lv_has ls nL lv → ∃ a, va_Run p l e R s m args below meth c H locs cells slots mc ms (F0 m pc ls st) rest (gQ D Y wc H.size P a) (va_A wc H.size)
theorem g_run {E : gE} {l : Launch} {D : va_G} {Y : Nat → ClassId} {cc : ByteArray} {own : String} {R : Room} {nL : Nat} {cells slots : Nat} {ws : va_W} {lv : List (Nat × Value)} {rest : List Value} {pc : Nat} (C : gOK E l D Y cc own R nL) {mc ms : Nat} {wc wr : va_W} {P : Option Value → va_W → Prop} {st : List Value} (isC isR : List Nat) (hC : isC.map (fun i => ws[i]?) = wc.map some) (hR : isR.map (fun i => ws[i]?) = wr.map some) (hpart : gPart isC isR = true)
    (hr : gRunH E Y cells slots mc ms wc P lv st rest pc)
    (k : ∀ (v : Option Value) (wc' : va_W), P v wc' → gG E (cells + mc) (slots + ms) (wr ++ wc') lv (v.toList ++ rest) (pc + 3)) : gG E cells slots ws lv st pc := by
  obtain ⟨p, l, e, R, s, m, args, below, meth, c, nL, A, D, Q⟩ := E
  obtain ⟨rfl, rfl, rfl, rfl, hx, hb, hml, hown, hts, hK, hA, hZ, hlocks, -⟩ := C
  intro H locs ls hP hD hS hl
  simp only [gPart, Bool.and_eq_true, List.all_eq_true, Bool.not_eq_true', List.contains_eq_mem, decide_eq_false_iff_not] at hpart
  obtain ⟨⟨hnC, hnR⟩, hdis⟩ := hpart
  have hPc := hP.sub isC (g_pick isC wc hC)
  have hDc := hD.sub isC hnC hC
  have hFc := va_free (wc := wc) hD hS hA isC hC
  obtain ⟨a, hrun⟩ := hr H locs ls hPc (hDc.weaken (fun _ _ _ _ => trivial)) (fun U hU hW => by rw [hU]; exact (gZ.kept (gZ.warm hW hZ) (fun q h1 h2 => hS.2.1 q h1 h2)).narrow hFc) hl
  intro T hT X
  obtain ⟨v, st₀, t, T', L, h0, X', hL, e1, e2, ⟨⟨v', ws', hv, hp, hP1, hK1, hD1⟩, hz, hk⟩, st⟩ := hrun T hT X
  cases hv
  rw [h0] at hz hk
  rw [← e1] at hP1 hz hk
  obtain ⟨hPj, hDj⟩ := va_join hP hD isC isR hC hR hnR hdis hk hFc hP1 hD1
  obtain ⟨t2, a1, b1⟩ := k v ws' hp T'.heap (locs ++ L) ls hPj hDj ⟨Nat.le_trans hS.1 hz, fun q h1 h2 => by rw [hk q (Nat.lt_of_lt_of_le h1 hS.1) (fun z => h2 (hFc q z))]; exact hS.2.1 q h1 h2, fun q hq => by
      rcases List.mem_append.mp hq with h | h
      · exact hS.2.2 q h
      · exact hFc _ (hL q h)⟩ hl T' rfl X'
  exact ⟨t2, st t2 a1, b1⟩
theorem g_callV {E : gE} {l : Launch} {D : va_G} {Y : Nat → ClassId} {cc : ByteArray} {own : String} {R : Room} {nL : Nat} {cells slots : Nat} {ws : va_W} {lv : List (Nat × Value)} {rest : List Value} {pc : Nat} (C : gOK E l D Y cc own R nL) {y : MethodName} {bytes : ByteArray} {maxL : Nat} {ret : Option FieldType} {fr lo mc ms idx n : Nat} {As : List Value} {wc : va_W} {P : Option Value → va_W → Prop} {st : List Value} {b ci q0 : Nat} {fs : List Value} {T : u_T} {N : Nat} (hM : gM l D Y y bytes maxL ret fr lo mc ms (.ref b :: As) wc P) (hd : decode cc pc = .ok (.invokevirtual idx, 3)) (hst : st = As.reverse ++ .ref b :: rest) (w1 : Cond.methodLink own idx y ∈ gWs) (w2 : Cond.instanceMethod y ∈ gWs) (w3 : Cond.selects y.cls y y ∈ gWs) (w4 : Cond.initialized y.cls ∈ gWs) (w5 : Cond.code y bytes maxL ret ∈ gWs) (hy : gY y n = true) (hn : As.length = n) (he : wc[q0]? = some (b, .inr (ci, fs))) (hc : vwCl[ci]? = some (y.cls, T, N)) (hr1 : fr + 1 ≤ R.frames ∧ 8 + (maxL + 11) + lo ≤ R.locals) (hr2 : cells + mc ≤ R.cells ∧ slots + ms ≤ R.slots) (hrest : (rest.map fun v => v.category).sum ≤ 8) (isC isR : List Nat) (hC : isC.map (fun i => ws[i]?) = wc.map some) (hR : isR.all (fun i => Nat.blt i ws.length) = true) (hpart : gPart isC isR = true)
    (k : ∀ (v : Option Value) (wc' : va_W), P v wc' → gG E (cells + mc) (slots + ms) (isR.filterMap (fun i => ws[i]?) ++ wc') lv (v.toList ++ rest) (pc + 3)) : gG E cells slots ws lv st pc := by
  refine g_run C isC isR hC (g_rest ws isR hR) hpart ?_ k
  obtain ⟨p, l, e, R, s, m, args, below, meth, c, nL, A, D, Q⟩ := E
  obtain ⟨rfl, rfl, rfl, rfl, hx, hb, hml, hown, hts, hK, hA, hZ, hlocks, -⟩ := C
  intro H locs ls hP hD hZc hl
  exact ⟨_, va_runV (Ts := gWs) (nL := nL) (rest := rest) (C := y.cls) ⟨hx, hb, hml, hown, hts⟩ (hM H.size) ⟨callB_of n hts (gWs_good w5) rfl rfl rfl (hts _ w4) (hts _ w1) (gY_of hy) hr1, hts _ w2, hts _ w3⟩ ⟨gPre_blind, va_recv hK hP hc he, fun U hU hW => ⟨rfl, by rw [hU], by rw [hU]; exact hP, va_K.moved hW.alike hK, hD, hZc U hU hW⟩⟩ rfl hn hl.1 hst (lv_room hrest) hd hr2⟩
theorem g_callS {E : gE} {l : Launch} {D : va_G} {Y : Nat → ClassId} {cc : ByteArray} {own : String} {R : Room} {nL : Nat} {cells slots : Nat} {ws : va_W} {lv : List (Nat × Value)} {rest : List Value} {pc : Nat} (C : gOK E l D Y cc own R nL) {y : MethodName} {bytes : ByteArray} {maxL : Nat} {ret : Option FieldType} {fr lo mc ms idx n : Nat} {As : List Value} {wc : va_W} {P : Option Value → va_W → Prop} {st : List Value} (hM : gM l D Y y bytes maxL ret fr lo mc ms As wc P) (hd : decode cc pc = .ok (.invokestatic idx, 3)) (hst : st = As.reverse ++ rest) (w1 : Cond.methodLink own idx y ∈ gWs) (w2 : Cond.static y ∈ gWs) (w4 : Cond.initialized y.cls ∈ gWs) (w5 : Cond.code y bytes maxL ret ∈ gWs) (hy : gY y n = true) (hn : As.length = n) (hr1 : fr + 1 ≤ R.frames ∧ 8 + (maxL + 11) + lo ≤ R.locals) (hr2 : cells + mc ≤ R.cells ∧ slots + ms ≤ R.slots) (hrest : (rest.map fun v => v.category).sum ≤ 8) (isC isR : List Nat) (hC : isC.map (fun i => ws[i]?) = wc.map some) (hR : isR.all (fun i => Nat.blt i ws.length) = true) (hpart : gPart isC isR = true)
    (k : ∀ (v : Option Value) (wc' : va_W), P v wc' → gG E (cells + mc) (slots + ms) (isR.filterMap (fun i => ws[i]?) ++ wc') lv (v.toList ++ rest) (pc + 3)) : gG E cells slots ws lv st pc := by
  refine g_run C isC isR hC (g_rest ws isR hR) hpart ?_ k
  obtain ⟨p, l, e, R, s, m, args, below, meth, c, nL, A, D, Q⟩ := E
  obtain ⟨rfl, rfl, rfl, rfl, hx, hb, hml, hown, hts, hK, hA, hZ, hlocks, -⟩ := C
  intro H locs ls hP hD hZc hl
  exact ⟨_, va_runS (Ts := gWs) (nL := nL) (rest := rest) ⟨hx, hb, hml, hown, hts⟩ (hM H.size) ⟨callB_of n hts (gWs_good w5) rfl rfl rfl (hts _ w4) (hts _ w1) (gY_of hy) hr1, hts _ w2⟩ ⟨gPre_blind, fun U hU hW => ⟨rfl, by rw [hU], by rw [hU]; exact hP, va_K.moved hW.alike hK, hD, hZc U hU hW⟩⟩ rfl hn hl.1 hst (lv_room hrest) hd hr2⟩
theorem g_callI {E : gE} {l : Launch} {D : va_G} {Y : Nat → ClassId} {cc : ByteArray} {own : String} {R : Room} {nL : Nat} {cells slots : Nat} {ws : va_W} {lv : List (Nat × Value)} {rest : List Value} {pc : Nat} (C : gOK E l D Y cc own R nL) {y : MethodName} {bytes : ByteArray} {maxL : Nat} {fr lo mc ms idx n : Nat} {As : List Value} {wc : va_W} {P : Option Value → va_W → Prop} {st : List Value} {b : Nat} (hM : gM l D Y y bytes maxL none fr lo mc ms (.ref b :: As) wc P) (hd : decode cc pc = .ok (.invokespecial idx, 3)) (hst : st = As.reverse ++ .ref b :: rest) (w1 : Cond.methodLink own idx y ∈ gWs) (w2 : Cond.instanceMethod y ∈ gWs) (w4 : Cond.initialized y.cls ∈ gWs) (w5 : Cond.code y bytes maxL none ∈ gWs) (hy : gY y n = true) (hy1 : y.name = "<init>") (hn : As.length = n) (hr1 : fr + 1 ≤ R.frames ∧ 8 + (maxL + 11) + lo ≤ R.locals) (hr2 : cells + mc ≤ R.cells ∧ slots + ms ≤ R.slots) (hrest : (rest.map fun v => v.category).sum ≤ 8) (isC isR : List Nat) (hC : isC.map (fun i => ws[i]?) = wc.map some) (hR : isR.all (fun i => Nat.blt i ws.length) = true) (hpart : gPart isC isR = true)
    (k : ∀ (v : Option Value) (wc' : va_W), P v wc' → gG E (cells + mc) (slots + ms) (isR.filterMap (fun i => ws[i]?) ++ wc') lv (v.toList ++ rest) (pc + 3)) : gG E cells slots ws lv st pc := by
  refine g_run C isC isR hC (g_rest ws isR hR) hpart ?_ k
  obtain ⟨p, l, e, R, s, m, args, below, meth, c, nL, A, D, Q⟩ := E
  obtain ⟨rfl, rfl, rfl, rfl, hx, hb, hml, hown, hts, hK, hA, hZ, hlocks, -⟩ := C
  intro H locs ls hP hD hZc hl
  exact ⟨_, va_runI (Ts := gWs) (nL := nL) (rest := rest) ⟨hx, hb, hml, hown, hts⟩ (hM H.size) ⟨callB_of n hts (gWs_good w5) rfl rfl rfl (hts _ w4) (hts _ w1) (gY_of hy) hr1, hy1, hts _ w2⟩ ⟨gPre_blind, fun U hU hW => ⟨rfl, by rw [hU], by rw [hU]; exact hP, va_K.moved hW.alike hK, hD, hZc U hU hW⟩⟩ rfl hn hl.1 hst (lv_room hrest) hd hr2⟩
theorem g_callSN {E : gE} {l : Launch} {D : va_G} {Y : Nat → ClassId} {cc : ByteArray} {own : String} {R : Room} {nL : Nat} {cells slots : Nat} {ws : va_W} {lv : List (Nat × Value)} {rest : List Value} {pc : Nat} (C : gOK E l D Y cc own R nL) {y : MethodName} {bytes : ByteArray} {maxL : Nat} {ret : Option FieldType} {fr lo mc ms idx n : Nat} {As : List Value} {wc : va_W} {P : Option Value → va_W → Prop} {st : List Value} {host : String} (hM : gM l D Y y bytes maxL ret fr lo mc ms As wc P) (hd : decode cc pc = .ok (.invokestatic idx, 3)) (hst : st = As.reverse ++ rest) (w1 : Cond.methodLinkNest own idx y host ∈ gN) (w2 : Cond.static y ∈ gWs) (w4 : Cond.initialized y.cls ∈ gWs) (w5 : Cond.code y bytes maxL ret ∈ gWs) (hy : gY y n = true) (hn : As.length = n) (hr1 : fr + 1 ≤ R.frames ∧ 8 + (maxL + 11) + lo ≤ R.locals) (hr2 : cells + mc ≤ R.cells ∧ slots + ms ≤ R.slots) (hrest : (rest.map fun v => v.category).sum ≤ 8) (isC isR : List Nat) (hC : isC.map (fun i => ws[i]?) = wc.map some) (hR : isR.all (fun i => Nat.blt i ws.length) = true) (hpart : gPart isC isR = true)
    (k : ∀ (v : Option Value) (wc' : va_W), P v wc' → gG E (cells + mc) (slots + ms) (isR.filterMap (fun i => ws[i]?) ++ wc') lv (v.toList ++ rest) (pc + 3)) : gG E cells slots ws lv st pc := by
  refine g_run C isC isR hC (g_rest ws isR hR) hpart ?_ k
  obtain ⟨p, l, e, R, s, m, args, below, meth, c, nL, A, D, Q⟩ := E
  obtain ⟨rfl, rfl, rfl, rfl, hx, hb, hml, hown, hts, hK, hA, hZ, hlocks, -⟩ := C
  intro H locs ls hP hD hZc hl
  exact ⟨_, va_runSN (Ts := gWs) (nL := nL) (rest := rest) ⟨hx, hb, hml, hown, hts⟩ (hM H.size) ⟨va_cnB n hts (gWs_good w5) rfl rfl rfl (hZ.1 _ w1) (hts _ w4) (gY_of hy) hr1, hts _ w2, trivial⟩ ⟨gPre_blind, fun U hU hW => ⟨rfl, by rw [hU], by rw [hU]; exact hP, va_K.moved hW.alike hK, hD, hZc U hU hW⟩⟩ rfl hn hl.1 hst (lv_room hrest) hd hr2⟩
theorem g_callIN {E : gE} {l : Launch} {D : va_G} {Y : Nat → ClassId} {cc : ByteArray} {own : String} {R : Room} {nL : Nat} {cells slots : Nat} {ws : va_W} {lv : List (Nat × Value)} {rest : List Value} {pc : Nat} (C : gOK E l D Y cc own R nL) {y : MethodName} {bytes : ByteArray} {maxL : Nat} {fr lo mc ms idx n : Nat} {As : List Value} {wc : va_W} {P : Option Value → va_W → Prop} {st : List Value} {b : Nat} {host : String} (hM : gM l D Y y bytes maxL none fr lo mc ms (.ref b :: As) wc P) (hd : decode cc pc = .ok (.invokespecial idx, 3)) (hst : st = As.reverse ++ .ref b :: rest) (w1 : Cond.methodLinkNest own idx y host ∈ gN) (w2 : Cond.instanceMethod y ∈ gWs) (w4 : Cond.initialized y.cls ∈ gWs) (w5 : Cond.code y bytes maxL none ∈ gWs) (hy : gY y n = true) (hy1 : y.name = "<init>") (hn : As.length = n) (hr1 : fr + 1 ≤ R.frames ∧ 8 + (maxL + 11) + lo ≤ R.locals) (hr2 : cells + mc ≤ R.cells ∧ slots + ms ≤ R.slots) (hrest : (rest.map fun v => v.category).sum ≤ 8) (isC isR : List Nat) (hC : isC.map (fun i => ws[i]?) = wc.map some) (hR : isR.all (fun i => Nat.blt i ws.length) = true) (hpart : gPart isC isR = true)
    (k : ∀ (v : Option Value) (wc' : va_W), P v wc' → gG E (cells + mc) (slots + ms) (isR.filterMap (fun i => ws[i]?) ++ wc') lv (v.toList ++ rest) (pc + 3)) : gG E cells slots ws lv st pc := by
  refine g_run C isC isR hC (g_rest ws isR hR) hpart ?_ k
  obtain ⟨p, l, e, R, s, m, args, below, meth, c, nL, A, D, Q⟩ := E
  obtain ⟨rfl, rfl, rfl, rfl, hx, hb, hml, hown, hts, hK, hA, hZ, hlocks, -⟩ := C
  intro H locs ls hP hD hZc hl
  exact ⟨_, va_runIN (Ts := gWs) (nL := nL) (rest := rest) ⟨hx, hb, hml, hown, hts⟩ (hM H.size) ⟨va_cnB n hts (gWs_good w5) rfl rfl rfl (hZ.1 _ w1) (hts _ w4) (gY_of hy) hr1, hy1, hts _ w2⟩ ⟨gPre_blind, fun U hU hW => ⟨rfl, by rw [hU], by rw [hU]; exact hP, va_K.moved hW.alike hK, hD, hZc U hU hW⟩⟩ rfl hn hl.1 hst (lv_room hrest) hd hr2⟩
abbrev oX0 (a : Nat) (x0 : Int32) (x1 : Int32) (x2 : Value) (x3 : Value) (x4 : Value) (x5 : Value) : Nat × va_E := (a, .inr (0, [.int x0, .int x1, x2, x3, x4, x5]))
abbrev oX1 (a : Nat) (x0 : Value) (x1 : Value) (x2 : Int32) (x3 : Int32) : Nat × va_E := (a, .inr (1, [x0, x1, .int x2, .int x3]))
abbrev oX2 (a : Nat) (x0 : Int32) (x1 : Int32) (x2 : Int32) (x3 : Value) : Nat × va_E := (a, .inr (2, [.int x0, .int x1, .int x2, x3]))
abbrev oX3 (a : Nat) (x0 : Int32) (x1 : Int32) (x2 : Int32) (x3 : Int32) (x4 : Value) (x5 : Value) (x6 : Value) (x7 : Value) (x8 : Value) (x9 : Value) (x10 : Value) (x11 : Value) : Nat × va_E := (a, .inr (3, [.int x0, .int x1, .int x2, .int x3, x4, x5, x6, x7, x8, x9, x10, x11]))
abbrev oX4 (a : Nat) (x0 : Value) (x1 : Value) : Nat × va_E := (a, .inr (4, [x0, x1]))
abbrev oX5 (a : Nat) (x0 : Value) (x1 : Int32) (x2 : Int32) (x3 : Int32) (x4 : Value) (x5 : Int32) (x6 : Int32) : Nat × va_E := (a, .inr (5, [x0, .int x1, .int x2, .int x3, x4, .int x5, .int x6]))
abbrev oX6 (a : Nat) (x0 : Value) (x1 : Int32) (x2 : Int32) (x3 : Int32) (x4 : Int32) : Nat × va_E := (a, .inr (6, [x0, .int x1, .int x2, .int x3, .int x4]))
abbrev oX7 (a : Nat) (x0 : Value) (x1 : Value) (x2 : Value) (x3 : Int32) : Nat × va_E := (a, .inr (7, [x0, x1, x2, .int x3]))
abbrev oX8 (a : Nat) (x0 : Value) : Nat × va_E := (a, .inr (8, [x0]))
abbrev oX9 (a : Nat) (x0 : Int32) (x1 : Value) (x2 : Value) (x3 : Value) (x4 : Value) (x5 : Int32) (x6 : Int32) (x7 : Int32) : Nat × va_E := (a, .inr (9, [.int x0, x1, x2, x3, x4, .int x5, .int x6, .int x7]))
abbrev oX10 (a : Nat) (x0 : Value) (x1 : Value) (x2 : Value) (x3 : Value) (x4 : Value) (x5 : Value) : Nat × va_E := (a, .inr (10, [x0, x1, x2, x3, x4, x5]))
abbrev oX11 (a : Nat) (x0 : Int32) (x1 : Value) (x2 : Int32) (x3 : Value) (x4 : Value) (x5 : Value) (x6 : Value) (x7 : Value) (x8 : Value) (x9 : Value) (x10 : Value) (x11 : Value) (x12 : Value) (x13 : Int32) (x14 : Int32) (x15 : Int32) (x16 : Int32) (x17 : Int32) (x18 : Int32) (x19 : Int32) (x20 : Int32) (x21 : Int32) (x22 : Int32) (x23 : Value) (x24 : Value) (x25 : Int32) (x26 : Int32) (x27 : Value) (x28 : Value) (x29 : Value) (x30 : Value) (x31 : Int32) (x32 : Int32) (x33 : Int32) (x34 : Value) (x35 : Int32) (x36 : Value) (x37 : Value) (x38 : Value) (x39 : Int32) : Nat × va_E := (a, .inr (11, [.int x0, x1, .int x2, x3, x4, x5, x6, x7, x8, x9, x10, x11, x12, .int x13, .int x14, .int x15, .int x16, .int x17, .int x18, .int x19, .int x20, .int x21, .int x22, x23, x24, .int x25, .int x26, x27, x28, x29, x30, .int x31, .int x32, .int x33, x34, .int x35, x36, x37, x38, .int x39]))
abbrev aI (Y : Nat → ClassId) (a n : Nat) (f : Nat → Int32) : Nat × va_E := (a, .inl (Y 0, n, .inl f))
abbrev aJ (Y : Nat → ClassId) (a n : Nat) (f : Nat → Int64) : Nat × va_E := (a, .inl (Y 1, n, .inr (.inl f)))
abbrev aZ (Y : Nat → ClassId) (a n : Nat) (f : Nat → Int32) : Nat × va_E := (a, .inl (Y 2, n, .inl f))
abbrev aR (Y : Nat → ClassId) (a n : Nat) (f : Nat → Option Nat) : Nat × va_E := (a, .inl (Y 3, n, .inr (.inr (.inr (.inr f)))))
theorem gG.eqw {E : gE} {cells slots : Nat} {ws ws' : va_W} {lv : List (Nat × Value)} {st : List Value} {pc : Nat} (hw : ws = ws') (h : gG E cells slots ws' lv st pc) : gG E cells slots ws lv st pc := hw ▸ h
theorem g_topi {E : gE} {cells slots : Nat} {ws : va_W} {lv : List (Nat × Value)} {rest : List Value} {pc : Nat} {x : Int32} (k : ∀ y : Int32, y = x → gG E cells slots ws lv (.int y :: rest) pc) : gG E cells slots ws lv (.int x :: rest) pc := k x rfl
theorem g_topl {E : gE} {cells slots : Nat} {ws : va_W} {lv : List (Nat × Value)} {rest : List Value} {pc : Nat} {x : Int64} (k : ∀ y : Int64, y = x → gG E cells slots ws lv (.long y :: rest) pc) : gG E cells slots ws lv (.long x :: rest) pc := k x rfl
theorem g_objInit {E : gE} {l : Launch} {D : va_G} {Y : Nat → ClassId} {cc : ByteArray} {own : String} {R : Room} {nL : Nat} {cells slots : Nat} {ws : va_W} {lv : List (Nat × Value)} {rest : List Value} {pc : Nat} (C : gOK E l D Y cc own R nL) {idx a0 : Nat} (hw : Cond.methodLink own idx objectInit ∈ gWs) (hd : decode cc pc = .ok (.invokespecial idx, 3)) (hr : 1 ≤ R.frames) (hr2 : (rest.map fun v => v.category).sum + 12 ≤ R.locals) (h : gG E cells slots ws lv rest (pc + 3)) : gG E cells slots ws lv (.ref a0 :: rest) pc := by
  obtain ⟨p, l, e, R, s, m, args, below, meth, c, nL, A, D, Q⟩ := E
  obtain ⟨rfl, rfl, rfl, rfl, hx, hb, hml, hown, hts, hK, hA, hZ, hlocks, -⟩ := C
  exact fun H locs ls hP hD hS hl => W.objInit hx hb hown (hts _ hw) (hts _ wI_O) (hts _ wC_O) rfl (by rw [hml]; exact hl.1) rfl hd hr (by show 2 * (F0 m pc ls _).monitorRoom + _ + 12 ≤ _; exact (Nat.zero_add _).symm ▸ hr2) (h H locs ls hP hD hS hl)
theorem g_mmax {E : gE} {l : Launch} {D : va_G} {Y : Nat → ClassId} {cc : ByteArray} {own : String} {R : Room} {nL : Nat} {cells slots : Nat} {ws : va_W} {lv : List (Nat × Value)} {rest : List Value} {pc : Nat} (C : gOK E l D Y cc own R nL) {idx : Nat} {x y : Int32} (hw : Cond.methodLink own idx Lib.Math.max.name ∈ gWs) (hd : decode cc pc = .ok (.invokestatic idx, 3)) (hr : 1 ≤ R.frames ∧ (rest.map fun v => v.category).sum + 13 ≤ R.locals) (hr2 : cells ≤ R.cells ∧ slots ≤ R.slots) (h : gG E cells slots ws lv (.int (if x < y then y else x) :: rest) (pc + 3)) : gG E cells slots ws lv (.int y :: .int x :: rest) pc := by
  obtain ⟨p, l, e, R, s, m, args, below, meth, c, nL, A, D, Q⟩ := E
  obtain ⟨rfl, rfl, rfl, rfl, hx, hb, hml, hown, hts, hK, hA, hZ, hlocks, -⟩ := C
  exact fun H locs ls hP hD hS hl => va_mmax hx hb (by rw [hml]; exact hl.1.symm) hown (hts _ hw) (hts _ wS_max) (hts _ wN_J9) (hts _ wC_max) hr.1 hr.2 hr2.1 hr2.2 hd (h H locs ls hP hD hS hl)
theorem g_mmin {E : gE} {l : Launch} {D : va_G} {Y : Nat → ClassId} {cc : ByteArray} {own : String} {R : Room} {nL : Nat} {cells slots : Nat} {ws : va_W} {lv : List (Nat × Value)} {rest : List Value} {pc : Nat} (C : gOK E l D Y cc own R nL) {idx : Nat} {x y : Int32} (hw : Cond.methodLink own idx Lib.Math.min.name ∈ gWs) (hd : decode cc pc = .ok (.invokestatic idx, 3)) (hr : 1 ≤ R.frames ∧ (rest.map fun v => v.category).sum + 13 ≤ R.locals) (hr2 : cells ≤ R.cells ∧ slots ≤ R.slots) (h : gG E cells slots ws lv (.int (if y < x then y else x) :: rest) (pc + 3)) : gG E cells slots ws lv (.int y :: .int x :: rest) pc := by
  obtain ⟨p, l, e, R, s, m, args, below, meth, c, nL, A, D, Q⟩ := E
  obtain ⟨rfl, rfl, rfl, rfl, hx, hb, hml, hown, hts, hK, hA, hZ, hlocks, -⟩ := C
  exact fun H locs ls hP hD hS hl => va_mmin hx hb (by rw [hml]; exact hl.1.symm) hown (hts _ hw) (hts _ wS_min) (hts _ wN_J9) (hts _ wC_min) hr.1 hr.2 hr2.1 hr2.2 hd (h H locs ls hP hD hS hl)
theorem g_tabI {E : gE} {l : Launch} {D : va_G} {Y : Nat → ClassId} {cc : ByteArray} {own : String} {R : Room} {nL : Nat} {cells slots : Nat} {ws : va_W} {lv : List (Nat × Value)} {rest : List Value} {pc : Nat} (C : gOK E l D Y cc own R nL) {dflt lo hi off : Int} {offs : Array Int} {len tgt : Nat} {x v : Int32} (hd : decode cc pc = .ok (.tableswitch dflt lo hi offs, len)) (hv : x = v) (h1 : ¬ v.toInt < lo) (h2 : ¬ hi < v.toInt) (ho : offs[(v.toInt - lo).toNat]? = some off) (ht : (pc : Int) + off = (tgt : Int)) (h : gG E cells slots ws lv rest tgt) : gG E cells slots ws lv (.int x :: rest) pc := by
  obtain ⟨p, l, e, R, s, m, args, below, meth, c, nL, A, D, Q⟩ := E
  obtain ⟨rfl, rfl, rfl, rfl, hx, hb, hml, hown, hts, hK, hA, hZ, hlocks, -⟩ := C
  subst hv
  exact fun H locs ls hP hD hS hl => lv_tableIn hx hb hd h1 h2 ho ht (h H locs ls hP hD hS hl)
def gNone (x : Int32) : List Int32 → Prop
  | [] => True
  | v :: vs => ¬ x = v ∧ gNone x vs
theorem gNone_mem {x : Int32} : ∀ {vs : List Int32}, gNone x vs → ∀ v ∈ vs, ¬ x = v
  | [], _, v, hv => absurd hv List.not_mem_nil
  | w :: vs, h, v, hv => by
    rcases List.mem_cons.mp hv with rfl | hv
    · exact h.1
    · exact gNone_mem h.2 v hv
theorem g_tabOut {lo hi : Int} {x : Int32} {vs : List Int32} (hn : gNone x vs) (hc : (List.range (hi - lo + 1).toNat).all (fun k => vs.any (fun v => decide (v.toInt = lo + (k : Int)))) = true) : x.toInt < lo ∨ hi < x.toInt := by
  rcases Int.lt_or_le x.toInt lo with h1 | h1
  · exact Or.inl h1
  · rcases Int.lt_or_le hi x.toInt with h2 | h2
    · exact Or.inr h2
    · exfalso
      have h3 := List.all_eq_true.mp hc (x.toInt - lo).toNat (List.mem_range.mpr (by omega))
      obtain ⟨v, hv, he⟩ := List.any_eq_true.mp h3
      have he : v.toInt = lo + (((x.toInt - lo).toNat : Nat) : Int) := of_decide_eq_true he
      have : x.toInt = v.toInt := by omega
      exact gNone_mem hn v hv (Int32.toInt_inj.mp this)
theorem g_tabO {E : gE} {l : Launch} {D : va_G} {Y : Nat → ClassId} {cc : ByteArray} {own : String} {R : Room} {nL : Nat} {cells slots : Nat} {ws : va_W} {lv : List (Nat × Value)} {rest : List Value} {pc : Nat} (C : gOK E l D Y cc own R nL) {dflt lo hi : Int} {offs : Array Int} {len tgt : Nat} {x : Int32} (hd : decode cc pc = .ok (.tableswitch dflt lo hi offs, len)) (vs : List Int32) (hc : (List.range (hi - lo + 1).toNat).all (fun k => vs.any (fun v => decide (v.toInt = lo + (k : Int)))) = true) (hn : gNone x vs) (ht : (pc : Int) + dflt = (tgt : Int)) (h : gG E cells slots ws lv rest tgt) : gG E cells slots ws lv (.int x :: rest) pc := by
  obtain ⟨p, l, e, R, s, m, args, below, meth, c, nL, A, D, Q⟩ := E
  obtain ⟨rfl, rfl, rfl, rfl, hx, hb, hml, hown, hts, hK, hA, hZ, hlocks, -⟩ := C
  exact fun H locs ls hP hD hS hl => lv_tableOut hx hb hd (g_tabOut hn hc) ht (h H locs ls hP hD hS hl)
theorem gM_ofI {l : Launch} {D : va_G} {Y : Nat → ClassId} {y : MethodName} {cc : ByteArray} {nL : Nat} {ret : Option FieldType} {fr lo mc ms : Nat} {as : List Value} {ws : va_W} {P : Option Value → va_W → Prop} {own : String} {lv : List (Nat × Value)}
    (hy : plainName y.cls = true) (ho : y.cls = own) (hi : y.name = "<init>") (hlen : (lg_sl as).length ≤ nL) (hlv : lv_args 0 as = lv)
    (h : ∀ E : gE, gOK E l D Y cc own { frames := fr, cells := mc, slots := ms, locals := lo } nL → gRet E D Y mc ms ws P ret → gInit E → gG E 0 0 ws lv [] 0) : gM l D Y y cc nL ret fr lo mc ms as ws P := by
  intro sz
  refine Met.ofW (cc := cc) (maxL := nL) (ret := ret) hy rfl ?_
  intro p e s m args below meth c s₁ B hml hv
  obtain ⟨rfl, hsz, hP, hK, hD0, hZ⟩ := hv
  subst hsz
  have hts := atoms_spec (ws := Cond.code y cc nL ret :: gWs) B.pre
  have hown : s.vm.findClass own = some m.cls := by rw [← ho]; exact findClass_of_methodNamed B.named
  have hin : meth.name = "<init>" := (name_of_methodNamed B.named B.method).1.trans hi
  have hD := hD0.self (sz := s.heap.size)
  have key := h (p, l, e, (headSpec (Cond.code y cc nL ret :: gWs) { frames := fr, cells := mc, slots := ms, locals := lo }).room, s, m, as.toArray, below, meth, c, nL, va_A ws s.heap.size, D, MQ below (gQ D Y ws s.heap.size P) as.toArray s mc ms (va_A ws s.heap.size))
    ⟨rfl, rfl, rfl, rfl, B.exec, B.bytes, hml, hown, fun w hw => hts w (List.mem_cons_of_mem _ hw), hK, fun q hq => Or.inr hq, hZ, B.notSynchronized, rfl⟩ ⟨rfl, rfl, B.returns⟩ hin
  subst hlv
  rw [lg_entry_eq]
  exact key s.heap [] _ hP hD va_S.rf (lv_entry as hlen)
theorem g_lookI {E : gE} {l : Launch} {D : va_G} {Y : Nat → ClassId} {cc : ByteArray} {own : String} {R : Room} {nL : Nat} {cells slots : Nat} {ws : va_W} {lv : List (Nat × Value)} {rest : List Value} {pc : Nat} (C : gOK E l D Y cc own R nL) {dflt off : Int} {ps : Array (Int × Int)} {len tgt : Nat} {x v : Int32} (hd : decode cc pc = .ok (.lookupswitch dflt ps, len)) (hv : x = v) (hp : (ps.toList.zip (ps.toList.drop 1)).all (fun (a, next) => a.1 < next.1) = true) (ho : Op.lookupswitch.offset ps.toList dflt v.toInt = off) (ht : (pc : Int) + off = (tgt : Int)) (h : gG E cells slots ws lv rest tgt) : gG E cells slots ws lv (.int x :: rest) pc := by
  obtain ⟨p, l, e, R, s, m, args, below, meth, c, nL, A, D, Q⟩ := E
  obtain ⟨rfl, rfl, rfl, rfl, hx, hb, hml, hown, hts, hK, hA, hZ, hlocks, -⟩ := C
  subst hv
  exact fun H locs ls hP hD hS hl => lv_lookup hx hb hd hp ho ht (h H locs ls hP hD hS hl)
theorem g_lookOut {dflt : Int} {x : Int32} {vs : List Int32} (hn : gNone x vs) : ∀ {ps : List (Int × Int)}, ps.all (fun q => vs.any (fun v => decide (v.toInt = q.1))) = true → Op.lookupswitch.offset ps dflt x.toInt = dflt
  | [], _ => rfl
  | (a, o) :: ps, hc => by
    rw [List.all_cons, Bool.and_eq_true] at hc
    obtain ⟨v, hv, h1⟩ := List.any_eq_true.mp hc.1
    have h1 : v.toInt = a := of_decide_eq_true h1
    have hne : ¬ a = x.toInt := fun h2 => gNone_mem hn v hv (Int32.toInt_inj.mp (h2.symm.trans h1.symm))
    rw [Op.lookupswitch.offset_cons]
    simp [hne, g_lookOut hn hc.2]
theorem g_lookO {E : gE} {l : Launch} {D : va_G} {Y : Nat → ClassId} {cc : ByteArray} {own : String} {R : Room} {nL : Nat} {cells slots : Nat} {ws : va_W} {lv : List (Nat × Value)} {rest : List Value} {pc : Nat} (C : gOK E l D Y cc own R nL) {dflt : Int} {ps : Array (Int × Int)} {len tgt : Nat} {x : Int32} (hd : decode cc pc = .ok (.lookupswitch dflt ps, len)) (vs : List Int32) (hp : (ps.toList.zip (ps.toList.drop 1)).all (fun (a, next) => a.1 < next.1) = true) (hc : ps.toList.all (fun q => vs.any (fun v => decide (v.toInt = q.1))) = true) (hn : gNone x vs) (ht : (pc : Int) + dflt = (tgt : Int)) (h : gG E cells slots ws lv rest tgt) : gG E cells slots ws lv (.int x :: rest) pc := by
  obtain ⟨p, l, e, R, s, m, args, below, meth, c, nL, A, D, Q⟩ := E
  obtain ⟨rfl, rfl, rfl, rfl, hx, hb, hml, hown, hts, hK, hA, hZ, hlocks, -⟩ := C
  exact fun H locs ls hP hD hS hl => lv_lookup hx hb hd hp (g_lookOut hn hc) ht (h H locs ls hP hD hS hl)
theorem g_newI {E : gE} {l : Launch} {D : va_G} {Y : Nat → ClassId} {cc : ByteArray} {own : String} {R : Room} {nL : Nat} {cells slots : Nat} {ws : va_W} {lv : List (Nat × Value)} {rest : List Value} {pc : Nat} (C : gOK E l D Y cc own R nL) {n : Int32} {N : Nat} (hd : decode cc pc = .ok (.newarray .int, 2)) (hn : ¬ n < 0) (hN : n.toNatClampNeg = N) (hb8 : N * 8 ≤ 536870912) (hr : cells + 1 ≤ R.cells ∧ slots + N ≤ R.slots) (h : ∀ (q : Nat) (g : Nat → Int32), g = (fun _ => 0) → gG E (cells + 1) (slots + N) (ws ++ [(q, .inl (Y 0, N, .inl g))]) lv (.ref q :: rest) (pc + 2)) : gG E cells slots ws lv (.int n :: rest) pc := by
  obtain ⟨p, l, e, R, s, m, args, below, meth, c, nL, A, D, Q⟩ := E
  obtain ⟨rfl, rfl, rfl, rfl, hx, hb, hml, hown, hts, hK, hA, hZ, hlocks, -⟩ := C
  intro H locs ls hP hD hS hl
  refine va_newa (atype := .int) (ty := .int) (a0 := (N, .inl (fun _ => 0))) hx hb (hts _ wA_int) rfl hK hP hD hS hA (fun cA => rfl) hn hN (Nat.le_trans (Nat.mul_le_mul_left N (by decide)) hb8) hr.1 hr.2 hd (fun q cA H1 hK1 hP1 hD1 hS1 => ?_)
  have e1 : cA = Y 0 := by
    have h1 := (hK1.2 4 (cA, .int) rfl).2
    have h2 := (hK.2 0 (Y 0, .int) rfl).2
    exact Option.some.inj (Eq.trans (Eq.symm h1) h2)
  subst e1
  exact h q _ rfl H1 locs ls hP1 hD1 hS1 hl
theorem g_newJ {E : gE} {l : Launch} {D : va_G} {Y : Nat → ClassId} {cc : ByteArray} {own : String} {R : Room} {nL : Nat} {cells slots : Nat} {ws : va_W} {lv : List (Nat × Value)} {rest : List Value} {pc : Nat} (C : gOK E l D Y cc own R nL) {n : Int32} {N : Nat} (hd : decode cc pc = .ok (.newarray .long, 2)) (hn : ¬ n < 0) (hN : n.toNatClampNeg = N) (hb8 : N * 8 ≤ 536870912) (hr : cells + 1 ≤ R.cells ∧ slots + N ≤ R.slots) (h : ∀ (q : Nat) (g : Nat → Int64), g = (fun _ => 0) → gG E (cells + 1) (slots + N) (ws ++ [(q, .inl (Y 1, N, .inr (.inl g)))]) lv (.ref q :: rest) (pc + 2)) : gG E cells slots ws lv (.int n :: rest) pc := by
  obtain ⟨p, l, e, R, s, m, args, below, meth, c, nL, A, D, Q⟩ := E
  obtain ⟨rfl, rfl, rfl, rfl, hx, hb, hml, hown, hts, hK, hA, hZ, hlocks, -⟩ := C
  intro H locs ls hP hD hS hl
  refine va_newa (atype := .long) (ty := .long) (a0 := (N, .inr (.inl (fun _ => 0)))) hx hb (hts _ wA_long) rfl hK hP hD hS hA (fun cA => rfl) hn hN (Nat.le_trans (Nat.mul_le_mul_left N (by decide)) hb8) hr.1 hr.2 hd (fun q cA H1 hK1 hP1 hD1 hS1 => ?_)
  have e1 : cA = Y 1 := by
    have h1 := (hK1.2 4 (cA, .long) rfl).2
    have h2 := (hK.2 1 (Y 1, .long) rfl).2
    exact Option.some.inj (Eq.trans (Eq.symm h1) h2)
  subst e1
  exact h q _ rfl H1 locs ls hP1 hD1 hS1 hl
theorem g_newZ {E : gE} {l : Launch} {D : va_G} {Y : Nat → ClassId} {cc : ByteArray} {own : String} {R : Room} {nL : Nat} {cells slots : Nat} {ws : va_W} {lv : List (Nat × Value)} {rest : List Value} {pc : Nat} (C : gOK E l D Y cc own R nL) {n : Int32} {N : Nat} (hd : decode cc pc = .ok (.newarray .boolean, 2)) (hn : ¬ n < 0) (hN : n.toNatClampNeg = N) (hb8 : N * 8 ≤ 536870912) (hr : cells + 1 ≤ R.cells ∧ slots + N ≤ R.slots) (h : ∀ (q : Nat) (g : Nat → Int32), g = (fun _ => 0) → gG E (cells + 1) (slots + N) (ws ++ [(q, .inl (Y 2, N, .inl g))]) lv (.ref q :: rest) (pc + 2)) : gG E cells slots ws lv (.int n :: rest) pc := by
  obtain ⟨p, l, e, R, s, m, args, below, meth, c, nL, A, D, Q⟩ := E
  obtain ⟨rfl, rfl, rfl, rfl, hx, hb, hml, hown, hts, hK, hA, hZ, hlocks, -⟩ := C
  intro H locs ls hP hD hS hl
  refine va_newa (atype := .boolean) (ty := .boolean) (a0 := (N, .inl (fun _ => 0))) hx hb (hts _ wA_boolean) rfl hK hP hD hS hA (fun cA => rfl) hn hN (Nat.le_trans (Nat.mul_le_mul_left N (by decide)) hb8) hr.1 hr.2 hd (fun q cA H1 hK1 hP1 hD1 hS1 => ?_)
  have e1 : cA = Y 2 := by
    have h1 := (hK1.2 4 (cA, .boolean) rfl).2
    have h2 := (hK.2 2 (Y 2, .boolean) rfl).2
    exact Option.some.inj (Eq.trans (Eq.symm h1) h2)
  subst e1
  exact h q _ rfl H1 locs ls hP1 hD1 hS1 hl
theorem g_new {E : gE} {l : Launch} {D : va_G} {Y : Nat → ClassId} {cc : ByteArray} {own : String} {R : Room} {nL : Nat} {cells slots : Nat} {ws : va_W} {lv : List (Nat × Value)} {rest : List Value} {pc : Nat} (C0 : gOK E l D Y cc own R nL) {C : String} {T : u_T} {N ci idx : Nat} (hin : ∀ w ∈ u_ws C T N, w ∈ gWs) (ty0 : Nat → FieldType) (hty : ∀ k, k < N → parseFieldDescriptor (T k).2.2.1 = some (ty0 k)) (hw : Cond.classLink own idx C ∈ gWs) (hw2 : Cond.instantiable C N ∈ gWs) (hw3 : Cond.initialized C ∈ gWs) (hc : vwCl[ci]? = some (C, T, N)) {fs : List Value} (hfs : fs = (List.range N).map (fun j => defaultValue (ty0 j))) (hr : cells + 1 ≤ R.cells ∧ slots + N ≤ R.slots) (hd : decode cc pc = .ok (.new idx, 3)) (h : ∀ q : Nat, gG E (cells + 1) (slots + N) (ws ++ [(q, .inr (ci, fs))]) lv (.ref q :: rest) (pc + 3)) : gG E cells slots ws lv rest pc := by
  obtain ⟨p, l, e, R, s, m, args, below, meth, c, nL, A, D, Q⟩ := E
  obtain ⟨rfl, rfl, rfl, rfl, hx, hb, hml, hown, hts, hK, hA, hZ, hlocks, -⟩ := C0
  exact fun H locs ls hP hD hS hl => va_new (ci := ci) (fs := fs) hx hb hts hin ty0 hty hown (hts _ hw) (hts _ hw2) (hts _ hw3) hK hP hD hS hA hc (fun j hj => by subst hfs; simp [vp_V, hj]) hr.1 hr.2 hd (fun q H1 hP1 hD1 hS1 => h q H1 locs ls hP1 hD1 hS1 hl)
def rowsW (Y : Nat → ClassId) (ra rs : Nat → Nat) (rf rm rl ru : Nat → Int32) (rn : Nat → Nat) (rv : Nat → Nat → Int32) : va_W := [oX6 (ra 0) (.ref (rs 0)) (rf 0) (rm 0) (rl 0) (ru 0), aI Y (rs 0) (rn 0) (rv 0), oX6 (ra 1) (.ref (rs 1)) (rf 1) (rm 1) (rl 1) (ru 1), aI Y (rs 1) (rn 1) (rv 1), oX6 (ra 2) (.ref (rs 2)) (rf 2) (rm 2) (rl 2) (ru 2), aI Y (rs 2) (rn 2) (rv 2), oX6 (ra 3) (.ref (rs 3)) (rf 3) (rm 3) (rl 3) (ru 3), aI Y (rs 3) (rn 3) (rv 3)]
theorem rowsW_obj (Y : Nat → ClassId) (ra rs : Nat → Nat) (rf rm rl ru : Nat → Int32) (rn : Nat → Nat) (rv : Nat → Nat → Int32) (X : va_W) {k : Nat} (hk : k < 4) : (rowsW Y ra rs rf rm rl ru rn rv ++ X)[2 * k]? = some (ra k, .inr (6, [.ref (rs k), .int (rf k), .int (rm k), .int (rl k), .int (ru k)])) := by
  match k, hk with
  | 0, _ => exact rfl
  | 1, _ => exact rfl
  | 2, _ => exact rfl
  | 3, _ => exact rfl
  | k + 4, h => exact absurd h (by omega)
theorem rowsW_obj0 (Y : Nat → ClassId) (ra rs : Nat → Nat) (rf rm rl ru : Nat → Int32) (rn : Nat → Nat) (rv : Nat → Nat → Int32) {k : Nat} (hk : k < 4) : (rowsW Y ra rs rf rm rl ru rn rv)[2 * k]? = some (ra k, .inr (6, [.ref (rs k), .int (rf k), .int (rm k), .int (rl k), .int (ru k)])) := by
  match k, hk with
  | 0, _ => exact rfl
  | 1, _ => exact rfl
  | 2, _ => exact rfl
  | 3, _ => exact rfl
  | k + 4, h => exact absurd h (by omega)
theorem rowsW_arr (Y : Nat → ClassId) (ra rs : Nat → Nat) (rf rm rl ru : Nat → Int32) (rn : Nat → Nat) (rv : Nat → Nat → Int32) (X : va_W) {k : Nat} (hk : k < 4) : (rowsW Y ra rs rf rm rl ru rn rv ++ X)[2 * k + 1]? = some (rs k, .inl (Y 0, rn k, .inl (rv k))) := by
  match k, hk with
  | 0, _ => exact rfl
  | 1, _ => exact rfl
  | 2, _ => exact rfl
  | 3, _ => exact rfl
  | k + 4, h => exact absurd h (by omega)
theorem rowsW_set1 (Y : Nat → ClassId) (ra rs : Nat → Nat) (rf rm rl ru : Nat → Int32) (rn : Nat → Nat) (rv : Nat → Nat → Int32) (X : va_W) {k : Nat} (hk : k < 4) (v : Int32) : (rowsW Y ra rs rf rm rl ru rn rv ++ X).set (2 * k) (ra k, .inr (6, [.ref (rs k), .int (rf k), .int (rm k), .int (rl k), .int (ru k)].set 1 (.int v))) = rowsW Y ra rs (upd rf k v) rm rl ru rn rv ++ X := by
  match k, hk with
  | 0, _ => exact rfl
  | 1, _ => exact rfl
  | 2, _ => exact rfl
  | 3, _ => exact rfl
  | k + 4, h => exact absurd h (by omega)
theorem rowsW_set2 (Y : Nat → ClassId) (ra rs : Nat → Nat) (rf rm rl ru : Nat → Int32) (rn : Nat → Nat) (rv : Nat → Nat → Int32) (X : va_W) {k : Nat} (hk : k < 4) (v : Int32) : (rowsW Y ra rs rf rm rl ru rn rv ++ X).set (2 * k) (ra k, .inr (6, [.ref (rs k), .int (rf k), .int (rm k), .int (rl k), .int (ru k)].set 2 (.int v))) = rowsW Y ra rs rf (upd rm k v) rl ru rn rv ++ X := by
  match k, hk with
  | 0, _ => exact rfl
  | 1, _ => exact rfl
  | 2, _ => exact rfl
  | 3, _ => exact rfl
  | k + 4, h => exact absurd h (by omega)
theorem rowsW_set3 (Y : Nat → ClassId) (ra rs : Nat → Nat) (rf rm rl ru : Nat → Int32) (rn : Nat → Nat) (rv : Nat → Nat → Int32) (X : va_W) {k : Nat} (hk : k < 4) (v : Int32) : (rowsW Y ra rs rf rm rl ru rn rv ++ X).set (2 * k) (ra k, .inr (6, [.ref (rs k), .int (rf k), .int (rm k), .int (rl k), .int (ru k)].set 3 (.int v))) = rowsW Y ra rs rf rm (upd rl k v) ru rn rv ++ X := by
  match k, hk with
  | 0, _ => exact rfl
  | 1, _ => exact rfl
  | 2, _ => exact rfl
  | 3, _ => exact rfl
  | k + 4, h => exact absurd h (by omega)
theorem rowsW_set4 (Y : Nat → ClassId) (ra rs : Nat → Nat) (rf rm rl ru : Nat → Int32) (rn : Nat → Nat) (rv : Nat → Nat → Int32) (X : va_W) {k : Nat} (hk : k < 4) (v : Int32) : (rowsW Y ra rs rf rm rl ru rn rv ++ X).set (2 * k) (ra k, .inr (6, [.ref (rs k), .int (rf k), .int (rm k), .int (rl k), .int (ru k)].set 4 (.int v))) = rowsW Y ra rs rf rm rl (upd ru k v) rn rv ++ X := by
  match k, hk with
  | 0, _ => exact rfl
  | 1, _ => exact rfl
  | 2, _ => exact rfl
  | 3, _ => exact rfl
  | k + 4, h => exact absurd h (by omega)
theorem vp_lt {i : Int32} {n : Nat} (h : vp_in i n) : i.toNatClampNeg < n := Nat.not_le.mp fun q => h (Or.inr q)
theorem g_aald {E : gE} {l : Launch} {D : va_G} {Y : Nat → ClassId} {cc : ByteArray} {own : String} {R : Room} {nL : Nat} {cells slots : Nat} {ws : va_W} {lv : List (Nat × Value)} {rest : List Value} {pc : Nat} (C : gOK E l D Y cc own R nL) {a0 : Nat} {ra : Nat → Nat} (q0 : Nat) (he : ws[q0]? = some (a0, .inl (Y 3, 4, .inr (.inr (.inr (.inr (fun j => some (ra j)))))))) {i : Int32} (hin : vp_in i 4) (hd : decode cc pc = .ok (.aaload, 1)) (h : gG E cells slots ws lv (.ref (ra i.toNatClampNeg) :: rest) (pc + 1)) : gG E cells slots ws lv (.int i :: .ref a0 :: rest) pc := by
  obtain ⟨p, l, e, R, s, m, args, below, meth, c, nL, A, D, Q⟩ := E
  obtain ⟨rfl, rfl, rfl, rfl, hx, hb, hml, hown, hts, hK, hA, hZ, hlocks, -⟩ := C
  exact fun H locs ls hP hD hS hl => va_aldq hx hb hK hP q0 3 he rfl hin hd (h H locs ls hP hD hS hl)
theorem g_aret {E : gE} {l : Launch} {D : va_G} {Y : Nat → ClassId} {cc : ByteArray} {own : String} {R : Room} {nL : Nat} {cells slots : Nat} {ws : va_W} {lv : List (Nat × Value)} {pc : Nat} (C : gOK E l D Y cc own R nL) {mc ms : Nat} {ws0 : va_W} {P : Option Value → va_W → Prop} {a0 : Nat} {rt : FieldType} (hR : gRet E D Y mc ms ws0 P (some rt)) (hrt : (∃ n, rt = .object n) ∨ ∃ t, rt = .array t) (h1 : cells ≤ mc) (h2 : slots ≤ ms) (hd : decode cc pc = .ok (.areturn, 1)) (hp : P (some (.ref a0)) ws) : gG E cells slots ws lv [.ref a0] pc := by
  obtain ⟨p, l, e, R, s, m, args, below, meth, c, nL, A, D, Q⟩ := E
  obtain ⟨rfl, rfl, rfl, rfl, hx, hb, hml, hown, hts, hK, hA, hZ, hlocks, -⟩ := C
  obtain ⟨rfl, rfl, hr⟩ := hR
  exact fun H locs ls hP hD hS hl => W.widen h1 h2 (W.aret hx hb hr hrt (Or.inr ⟨_, rfl⟩) (fun t ht hW => ⟨⟨_, ws, rfl, hp, by rw [ht]; exact hP, va_K.moved hW.alike hK, hD⟩, hS.F ht⟩) hS.2.2 hd (hlocks := hlocks))
theorem g_copyI {E : gE} {l : Launch} {D : va_G} {Y : Nat → ClassId} {cc : ByteArray} {own : String} {R : Room} {nL : Nat} {cells slots : Nat} {ws : va_W} {lv : List (Nat × Value)} {rest : List Value} {pc : Nat} (C : gOK E l D Y cc own R nL) {idx a0 a1 n0 n1 : Nat} {f g : Nat → Int32} (hw : Cond.methodLink own idx arraycopyName ∈ gWs) (hd : decode cc pc = .ok (.invokestatic idx, 3)) (q0 q1 : Nat) (he0 : ws[q0]? = some (a0, .inl (Y 0, n0, .inl f))) (he1 : ws[q1]? = some (a1, .inl (Y 0, n1, .inl g))) {sp dp n : Int32} (h1 : ¬ sp < 0) (h2 : ¬ dp < 0) (h3 : ¬ n < 0) (h4 : sp.toNatClampNeg + n.toNatClampNeg ≤ n0) (h5 : dp.toNatClampNeg + n.toNatClampNeg ≤ n1) (hr : 1 ≤ R.frames ∧ (rest.map fun v => v.category).sum + (nativeFrameWords "java/lang/System" "arraycopy" 5 + 11) ≤ R.locals) (h : ∀ z : Nat → Int32, z = va_cpy f g sp.toNatClampNeg dp.toNatClampNeg n.toNatClampNeg → gG E cells slots (ws.set q1 (a1, .inl (Y 0, n1, .inl z))) lv rest (pc + 3)) : gG E cells slots ws lv (.int n :: .int dp :: .ref a1 :: .int sp :: .ref a0 :: rest) pc := by
  obtain ⟨p, l, e, R, s, m, args, below, meth, c, nL, A, D, Q⟩ := E
  obtain ⟨rfl, rfl, rfl, rfl, hx, hb, hml, hown, hts, hK, hA, hZ, hlocks, -⟩ := C
  exact fun H locs ls hP hD hS hl => va_copyi hx hb (by rw [hml]; exact hl.1.symm) hown (hts _ hw) (hts _ wNat_arraycopy) (hts _ wS_arraycopy) (hts _ wN_J10) hK hP hD hS q0 q1 0 0 he0 he1 rfl rfl rfl h1 h2 h3 h4 h5 (fun _ _ => rfl) hr.1 hr.2 hd (fun H1 locs1 hP1 hD1 hS1 => h _ rfl H1 locs1 ls hP1 hD1 hS1 hl)
theorem gM_frame {l : Launch} {D : va_G} {Y : Nat → ClassId} {y : MethodName} {cc : ByteArray} {nL : Nat} {ret : Option FieldType} {fr lo mc ms : Nat} {as : List Value} {wc ws : va_W} {P P' : Option Value → va_W → Prop} (hM : gM l D Y y cc nL ret fr lo mc ms as wc P) (isC isR : List Nat) (hC : isC.map (fun i => ws[i]?) = wc.map some) (hR : isR.all (fun i => Nat.blt i ws.length) = true) (hpart : gPart isC isR = true)
    (hP' : ∀ (v : Option Value) (wc' : va_W), P v wc' → ∃ (ws' : va_W) (is : List Nat), va_nd is = true ∧ is.map (fun i => (isR.filterMap (fun i => ws[i]?) ++ wc')[i]?) = ws'.map some ∧ P' v ws') : gM l D Y y cc nL ret fr lo mc ms as ws P' := by
  intro sz p e g1 g2 g3 s m args below hf ha hp hk
  obtain ⟨hv, hsz, hPw, hKw, hDw, hZw⟩ := hp
  simp only [gPart, Bool.and_eq_true, List.all_eq_true, Bool.not_eq_true', List.contains_eq_mem, decide_eq_false_iff_not] at hpart
  obtain ⟨⟨hnC, hnR⟩, hdis⟩ := hpart
  subst hsz
  have hD0 := hDw.self (sz := s.heap.size)
  have hsub : ∀ q, va_A wc s.heap.size q → va_A ws s.heap.size q := va_free hD0 (H0 := s.heap) (H := s.heap) (locs := []) va_S.rf (fun q h => Or.inr h) isC hC
  obtain ⟨n, o, a1, a2, a3, ⟨⟨v, wc', ho, hpp, hP1, hK1, hD1⟩, hF⟩, L, hL1, hL2⟩ := hM s.heap.size p e g1 g2 g3 s m args below hf ha ⟨hv, rfl, hPw.sub isC (g_pick isC wc hC), hKw, hDw.sub isC hnC hC, hZw.narrow hsub⟩ trivial
  obtain ⟨ws', is, hn, his, hq⟩ := hP' v wc' hpp
  obtain ⟨hPj, hDj⟩ := va_join hPw hD0 isC isR hC (g_rest ws isR hR) hnR hdis hF.2 hsub hP1 hD1
  exact ⟨n, o, a1, a2, a3, ⟨⟨v, ws', ho, hq, hPj.sub is (g_pick is ws' his), hK1, hDj.sub is hn his⟩, hF.1, fun q z1 z2 => hF.2 q z1 (fun z => z2 (hsub q z))⟩, L, hL1, fun q hq => hsub _ (hL2 q hq)⟩
theorem g_strVal {E : gE} {l : Launch} {D : va_G} {Y : Nat → ClassId} {cc : ByteArray} {own : String} {R : Room} {nL : Nat} {cells slots : Nat} {ws : va_W} {lv : List (Nat × Value)} {rest : List Value} {pc : Nat} (C : gOK E l D Y cc own R nL) {j idx : Nat} (hj : j < 6) (hw : Cond.fieldLink own idx "java/lang/String" "value" "[B" ∈ gWs) (hd : decode cc pc = .ok (.getfield idx, 3)) (h : gG E cells slots ws lv (.ref (Y (20 + j)) :: rest) (pc + 3)) : gG E cells slots ws lv (.ref (Y (10 + j)) :: rest) pc := by
  obtain ⟨p, l, e, R, s, m, args, below, meth, c, nL, A, D, Q⟩ := E
  obtain ⟨rfl, rfl, rfl, rfl, hx, hb, hml, hown, hts, hK, hA, hZ, hlocks, -⟩ := C
  exact fun H locs ls hP hD hS hl => vk_getf hx hb (hZ.2.1.1 j hj).2.2.1 hS hown (hts _ hw) (fun _ h9 => h9) hd (h H locs ls hP hD hS hl)
theorem g_strCoder {E : gE} {l : Launch} {D : va_G} {Y : Nat → ClassId} {cc : ByteArray} {own : String} {R : Room} {nL : Nat} {cells slots : Nat} {ws : va_W} {lv : List (Nat × Value)} {rest : List Value} {pc : Nat} (C : gOK E l D Y cc own R nL) {j idx : Nat} (hj : j < 6) (hw : Cond.fieldLink own idx "java/lang/String" "coder" "B" ∈ gWs) (hd : decode cc pc = .ok (.getfield idx, 3)) (h : gG E cells slots ws lv (.int 0 :: rest) (pc + 3)) : gG E cells slots ws lv (.ref (Y (10 + j)) :: rest) pc := by
  obtain ⟨p, l, e, R, s, m, args, below, meth, c, nL, A, D, Q⟩ := E
  obtain ⟨rfl, rfl, rfl, rfl, hx, hb, hml, hown, hts, hK, hA, hZ, hlocks, -⟩ := C
  exact fun H locs ls hP hD hS hl => vk_getf hx hb (hZ.2.1.1 j hj).2.1 hS hown (hts _ hw) (fun _ h9 => h9) hd (h H locs ls hP hD hS hl)
theorem g_strByte {E : gE} {l : Launch} {D : va_G} {Y : Nat → ClassId} {cc : ByteArray} {own : String} {R : Room} {nL : Nat} {cells slots : Nat} {ws : va_W} {lv : List (Nat × Value)} {rest : List Value} {pc : Nat} (C : gOK E l D Y cc own R nL) {j : Nat} {i : Int32} (hj : j < 6) (hin : vp_in i (gLen.getD j 0)) (hd : decode cc pc = .ok (.baload, 1)) (h : gG E cells slots ws lv (.int ((gByt.getD j []).getD i.toNatClampNeg 0) :: rest) (pc + 1)) : gG E cells slots ws lv (.int i :: .ref (Y (20 + j)) :: rest) pc := by
  obtain ⟨p, l, e, R, s, m, args, below, meth, c, nL, A, D, Q⟩ := E
  obtain ⟨rfl, rfl, rfl, rfl, hx, hb, hml, hown, hts, hK, hA, hZ, hlocks, -⟩ := C
  exact fun H locs ls hP hD hS hl => va_tb hx hb (hZ.2.1.1 j hj).2.2.2 hS hin rfl hd (h H locs ls hP hD hS hl)
theorem g_strLen {E : gE} {l : Launch} {D : va_G} {Y : Nat → ClassId} {cc : ByteArray} {own : String} {R : Room} {nL : Nat} {cells slots : Nat} {ws : va_W} {lv : List (Nat × Value)} {rest : List Value} {pc : Nat} (C : gOK E l D Y cc own R nL) {j : Nat} (hj : j < 6) (hd : decode cc pc = .ok (.arraylength, 1)) (h : gG E cells slots ws lv (.int (nI (gLen.getD j 0)) :: rest) (pc + 1)) : gG E cells slots ws lv (.ref (Y (20 + j)) :: rest) pc := by
  obtain ⟨p, l, e, R, s, m, args, below, meth, c, nL, A, D, Q⟩ := E
  obtain ⟨rfl, rfl, rfl, rfl, hx, hb, hml, hown, hts, hK, hA, hZ, hlocks, -⟩ := C
  exact fun H locs ls hP hD hS hl => va_tlen hx hb (hZ.2.1.1 j hj).2.2.2 hS rfl hd (h H locs ls hP hD hS hl)
theorem g_compact {E : gE} {l : Launch} {D : va_G} {Y : Nat → ClassId} {cc : ByteArray} {own : String} {R : Room} {nL : Nat} {cells slots : Nat} {ws : va_W} {lv : List (Nat × Value)} {rest : List Value} {pc : Nat} (C : gOK E l D Y cc own R nL) {idx : Nat} (hw : Cond.fieldLink own idx "java/lang/String" "COMPACT_STRINGS" "Z" ∈ gWs) (hd : decode cc pc = .ok (.getstatic idx, 3)) (h : gG E cells slots ws lv (.int 1 :: rest) (pc + 3)) : gG E cells slots ws lv rest pc := by
  obtain ⟨p, l, e, R, s, m, args, below, meth, c, nL, A, D, Q⟩ := E
  obtain ⟨rfl, rfl, rfl, rfl, hx, hb, hml, hown, hts, hK, hA, hZ, hlocks, -⟩ := C
  exact fun H locs ls hP hD hS hl => va_gets hx hb hZ.2.2.2.2.2.1 hS hown (hts _ hw) (fun _ h9 => h9) hd (h H locs ls hP hD hS hl)
theorem g_sioobe {E : gE} {l : Launch} {D : va_G} {Y : Nat → ClassId} {cc : ByteArray} {own : String} {R : Room} {nL : Nat} {cells slots : Nat} {ws : va_W} {lv : List (Nat × Value)} {rest : List Value} {pc : Nat} (C : gOK E l D Y cc own R nL) {idx : Nat} (hw : Cond.fieldLink own idx "jdk/internal/util/Preconditions" "SIOOBE_FORMATTER" "Ljava/util/function/BiFunction;" ∈ gWs) (hd : decode cc pc = .ok (.getstatic idx, 3)) (h : ∀ r : Option Nat, gG E cells slots ws lv (va_rf r :: rest) (pc + 3)) : gG E cells slots ws lv rest pc := by
  obtain ⟨p, l, e, R, s, m, args, below, meth, c, nL, A, D, Q⟩ := E
  obtain ⟨rfl, rfl, rfl, rfl, hx, hb, hml, hown, hts, hK, hA, hZ, hlocks, -⟩ := C
  intro H locs ls hP hD hS hl
  rcases hZ.2.2.2.2.2.2.1 with z | ⟨t, z⟩
  · exact va_gets hx hb z hS hown (hts _ hw) (fun _ h9 => h9) hd (h none H locs ls hP hD hS hl)
  · exact va_gets hx hb z hS hown (hts _ hw) (fun _ h9 => h9) hd (h (some t) H locs ls hP hD hS hl)
theorem g_ldcStr {E : gE} {l : Launch} {D : va_G} {Y : Nat → ClassId} {cc : ByteArray} {own : String} {R : Room} {nL : Nat} {cells slots : Nat} {ws : va_W} {lv : List (Nat × Value)} {rest : List Value} {pc : Nat} (C : gOK E l D Y cc own R nL) {idx q : Nat} {tx : String} (hz : ∀ U : State, gSR Y U → vk_R own idx tx q U) (hd : decode cc pc = .ok (.ldc idx, 2)) (h : gG E cells slots ws lv (.ref q :: rest) (pc + 2)) : gG E cells slots ws lv rest pc := by
  obtain ⟨p, l, e, R, s, m, args, below, meth, c, nL, A, D, Q⟩ := E
  obtain ⟨rfl, rfl, rfl, rfl, hx, hb, hml, hown, hts, hK, hA, hZ, hlocks, -⟩ := C
  exact fun H locs ls hP hD hS hl => va_ldcS hx hb hown (hz _ hZ.2.2.1) hd (h H locs ls hP hD hS hl)
theorem g_degrees {E : gE} {l : Launch} {D : va_G} {Y : Nat → ClassId} {cc : ByteArray} {own : String} {R : Room} {nL : Nat} {cells slots : Nat} {ws : va_W} {lv : List (Nat × Value)} {rest : List Value} {pc : Nat} (C : gOK E l D Y cc own R nL) {idx : Nat} (hw : Cond.fieldLinkNest own idx "QuotientSums" "KNOWN_DEGREES" "[I" "QuotientSums" ∈ gN) (hd : decode cc pc = .ok (.getstatic idx, 3)) (h : gG E cells slots ws lv (.ref (Y 30) :: rest) (pc + 3)) : gG E cells slots ws lv rest pc := by
  obtain ⟨p, l, e, R, s, m, args, below, meth, c, nL, A, D, Q⟩ := E
  obtain ⟨rfl, rfl, rfl, rfl, hx, hb, hml, hown, hts, hK, hA, hZ, hlocks, -⟩ := C
  exact fun H locs ls hP hD hS hl => va_getsN hx hb hZ.2.2.2.1 hS hown (va_Nw.use rfl (hZ.1 _ hw)) (fun _ h9 => h9) hd (h H locs ls hP hD hS hl)
theorem g_degAt {E : gE} {l : Launch} {D : va_G} {Y : Nat → ClassId} {cc : ByteArray} {own : String} {R : Room} {nL : Nat} {cells slots : Nat} {ws : va_W} {lv : List (Nat × Value)} {rest : List Value} {pc : Nat} (C : gOK E l D Y cc own R nL) {i : Int32} (hin : vp_in i 6) (hd : decode cc pc = .ok (.iaload, 1)) (h : gG E cells slots ws lv (.int (gDeg i.toNatClampNeg) :: rest) (pc + 1)) : gG E cells slots ws lv (.int i :: .ref (Y 30) :: rest) pc := by
  obtain ⟨p, l, e, R, s, m, args, below, meth, c, nL, A, D, Q⟩ := E
  obtain ⟨rfl, rfl, rfl, rfl, hx, hb, hml, hown, hts, hK, hA, hZ, hlocks, -⟩ := C
  exact fun H locs ls hP hD hS hl => va_ti hx hb hZ.2.2.2.2.1 hS hin rfl hd (h H locs ls hP hD hS hl)
theorem g_nret {E : gE} {l : Launch} {D : va_G} {Y : Nat → ClassId} {cc : ByteArray} {own : String} {R : Room} {nL : Nat} {cells slots : Nat} {ws : va_W} {lv : List (Nat × Value)} {pc : Nat} (C : gOK E l D Y cc own R nL) {mc ms : Nat} {ws0 : va_W} {P : Option Value → va_W → Prop} {v : Int32} {ty : FieldType} (hR : gRet E D Y mc ms ws0 P (some ty)) (hz : narrow ty (.int v) = .int v) (h1 : cells ≤ mc) (h2 : slots ≤ ms) (hd : decode cc pc = .ok (.ireturn, 1)) (hp : P (some (.int v)) ws) : gG E cells slots ws lv [.int v] pc := by
  obtain ⟨p, l, e, R, s, m, args, below, meth, c, nL, A, D, Q⟩ := E
  obtain ⟨rfl, rfl, rfl, rfl, hx, hb, hml, hown, hts, hK, hA, hZ, hlocks, -⟩ := C
  obtain ⟨rfl, rfl, hr⟩ := hR
  exact fun H locs ls hP hD hS hl => W.widen h1 h2 (W.zret hx hb hr hz (fun t ht hW => ⟨⟨_, ws, rfl, hp, by rw [ht]; exact hP, va_K.moved hW.alike hK, hD⟩, hS.F ht⟩) hS.2.2 hd (hlocks := hlocks))
theorem g_range : ∀ ws : va_W, (List.range ws.length).filterMap (fun i => ws[i]?) = ws := fun ws => by
  apply List.ext_getElem?
  intro k
  have h1 : (List.range ws.length).filterMap (fun i => ws[i]?) = ws := by
    apply g_pick
    apply List.ext_getElem?
    intro i
    rw [List.getElem?_map, List.getElem?_map]
    by_cases hi : i < ws.length
    · rw [List.getElem?_range hi]
      simp [hi]
    · rw [List.getElem?_eq_none (by simpa using hi), List.getElem?_eq_none (by simpa using hi)]; rfl
  rw [h1]
theorem g_nd_range : ∀ n : Nat, va_nd (List.range n) = true := fun n => by
  have key : ∀ l : List Nat, l.Nodup → va_nd l = true := fun l => by
    induction l with
    | nil => intro _; rfl
    | cons a l ih => intro h; rw [List.nodup_cons] at h; simp only [va_nd, Bool.and_eq_true, decide_eq_true_eq]; exact ⟨h.1, ih h.2⟩
  exact key _ List.nodup_range
theorem g_part0 (n : Nat) : gPart [] (List.range n) = true := by
  simp [gPart, g_nd_range, va_nd]
theorem g_all0 (ws : va_W) : (List.range ws.length).all (fun i => Nat.blt i ws.length) = true := List.all_eq_true.mpr (fun i hi => Nat.ble_eq_true_of_le (List.mem_range.mp hi))
/-- a method of a String constant, that needs no cell and changes none -/
theorem g_callVK {E : gE} {l : Launch} {D : va_G} {Y : Nat → ClassId} {cc : ByteArray} {own : String} {R : Room} {nL : Nat} {cells slots : Nat} {ws : va_W} {lv : List (Nat × Value)} {rest : List Value} {pc : Nat} (C : gOK E l D Y cc own R nL) {y : MethodName} {bytes : ByteArray} {maxL : Nat} {ret : Option FieldType} {fr lo mc ms idx n : Nat} {As : List Value} {P : Option Value → va_W → Prop} {st : List Value} {j : Nat} (hj : j < 6) (hyc : y.cls = "java/lang/String") (hM : gM l D Y y bytes maxL ret fr lo mc ms (.ref (Y (10 + j)) :: As) [] P) (hd : decode cc pc = .ok (.invokevirtual idx, 3)) (hst : st = As.reverse ++ .ref (Y (10 + j)) :: rest) (w1 : Cond.methodLink own idx y ∈ gWs) (w2 : Cond.instanceMethod y ∈ gWs) (w3 : Cond.selects y.cls y y ∈ gWs) (w4 : Cond.initialized y.cls ∈ gWs) (w5 : Cond.code y bytes maxL ret ∈ gWs) (hy : gY y n = true) (hn : As.length = n) (hr1 : fr + 1 ≤ R.frames ∧ 8 + (maxL + 11) + lo ≤ R.locals) (hr2 : cells + mc ≤ R.cells ∧ slots + ms ≤ R.slots) (hrest : (rest.map fun v => v.category).sum ≤ 8)
    (hp0 : ∀ v w, P v w → w = []) (k : ∀ v : Option Value, P v [] → gG E (cells + mc) (slots + ms) ws lv (v.toList ++ rest) (pc + 3)) : gG E cells slots ws lv st pc := by
  refine g_run (wc := []) C [] (List.range ws.length) rfl (g_rest ws _ (g_all0 ws)) (g_part0 _) ?_ (fun v wc' hv => by
    obtain rfl := hp0 v wc' hv
    rw [List.append_nil, g_range]
    exact k v hv)
  obtain ⟨p, l, e, R, s, m, args, below, meth, c, nL, A, D, Q⟩ := E
  obtain ⟨rfl, rfl, rfl, rfl, hx, hb, hml, hown, hts, hK, hA, hZ, hlocks, -⟩ := C
  intro H locs ls hP hD hZc hl
  obtain ⟨cell, z1, z2, z3⟩ : ∃ cell : Cell, H[Y (10 + j)]? = some cell ∧ cell.vm.isStatics = false ∧ s.vm.findClass "java/lang/String" = some cell.cls := by
    obtain ⟨cell, z1, z2, z3, -⟩ := ((hZc { s with heap := H } rfl (State.WarmedH.refl s)).2.1.1 j hj).1
    exact ⟨cell, z1, z2, z3⟩
  exact ⟨_, va_runV (Ts := gWs) (nL := nL) (rest := rest) (C := y.cls) ⟨hx, hb, hml, hown, hts⟩ (hM H.size) ⟨callB_of n hts (gWs_good w5) rfl rfl rfl (hts _ w4) (hts _ w1) (gY_of hy) hr1, hts _ w2, hts _ w3⟩ ⟨gPre_blind, ⟨cell, z1, z2, by rw [hyc]; exact z3⟩, fun U hU hW => ⟨rfl, by rw [hU], by rw [hU]; exact hP, va_K.moved hW.alike hK, hD, hZc U hU hW⟩⟩ rfl hn hl.1 hst (lv_room hrest) hd hr2⟩
theorem g_anewR {E : gE} {l : Launch} {D : va_G} {Y : Nat → ClassId} {cc : ByteArray} {own : String} {R : Room} {nL : Nat} {cells slots : Nat} {ws : va_W} {lv : List (Nat × Value)} {rest : List Value} {pc : Nat} (C : gOK E l D Y cc own R nL) {idx : Nat} {n : Int32} {N : Nat} (hw : Cond.classLink own idx RX6 ∈ gWs) (hd : decode cc pc = .ok (.anewarray idx, 3)) (hn : ¬ n < 0) (hN : n.toNatClampNeg = N) (hb8 : N * 4 ≤ 536870912) (hr : cells + 1 ≤ R.cells ∧ slots + N ≤ R.slots) (h : ∀ (q : Nat) (g : Nat → Option Nat), g = (fun _ => none) → gG E (cells + 1) (slots + N) (ws ++ [aR Y q N g]) lv (.ref q :: rest) (pc + 3)) : gG E cells slots ws lv (.int n :: rest) pc := by
  obtain ⟨p, l, e, R, s, m, args, below, meth, c, nL, A, D, Q⟩ := E
  obtain ⟨rfl, rfl, rfl, rfl, hx, hb, hml, hown, hts, hK, hA, hZ, hlocks, -⟩ := C
  intro H locs ls hP hD hS hl
  refine va_newq hx hb hown (hts _ hw) hZ.2.2.2.2.2.2.2.1 hK hP hD hS hA hn hN hb8 hr.1 hr.2 hd (fun q cA H1 hK1 hP1 hD1 hS1 => ?_)
  have e1 : cA = Y 3 := by
    obtain ⟨_, _, _, _, _, h1⟩ := (hK1.2 4 (cA, .object RX6) rfl).2
    obtain ⟨_, _, _, _, _, h2⟩ := (hK.2 3 (Y 3, .object RX6) rfl).2
    exact Option.some.inj (Eq.trans (Eq.symm h1) h2)
  subst e1
  exact h q _ rfl H1 locs ls hP1 hD1 hS1 hl
theorem g_aast {E : gE} {l : Launch} {D : va_G} {Y : Nat → ClassId} {cc : ByteArray} {own : String} {R : Room} {nL : Nat} {cells slots : Nat} {ws : va_W} {lv : List (Nat × Value)} {rest : List Value} {pc : Nat} (C : gOK E l D Y cc own R nL) {a0 v n : Nat} {f : Nat → Option Nat} {vs : List Value} (q0 qk : Nat) (he : ws[q0]? = some (aR Y a0 n f)) (hv : ws[qk]? = some (v, .inr (6, vs))) {i : Int32} (hin : vp_in i n) (hd : decode cc pc = .ok (.aastore, 1)) (h : ∀ g : Nat → Option Nat, g = va_up f i.toNatClampNeg (some v) → gG E cells slots (ws.set q0 (aR Y a0 n g)) lv rest (pc + 1)) : gG E cells slots ws lv (.ref v :: .int i :: .ref a0 :: rest) pc := by
  obtain ⟨p, l, e, R, s, m, args, below, meth, c, nL, A, D, Q⟩ := E
  obtain ⟨rfl, rfl, rfl, rfl, hx, hb, hml, hown, hts, hK, hA, hZ, hlocks, -⟩ := C
  exact fun H locs ls hP hD hS hl => va_astq (r := (RX6, TX6, 5)) hx hb hK hP hD hS q0 3 qk 6 he rfl hv rfl hin hd (fun H1 locs1 hP1 hD1 hS1 => h _ rfl H1 locs1 ls hP1 hD1 hS1 hl)
/-- an array of references told by another row that is the same as far as it goes -/
theorem gG.rowR {E : gE} {Y : Nat → ClassId} {cells slots : Nat} {ws : va_W} {lv : List (Nat × Value)} {st : List Value} {pc a0 n q0 : Nat} {f g : Nat → Option Nat} (he : ws[q0]? = some (aR Y a0 n f)) (hfg : ∀ j, j < n → f j = g j) (h : gG E cells slots (ws.set q0 (aR Y a0 n g)) lv st pc) : gG E cells slots ws lv st pc := by
  obtain ⟨p, l, e, R, s, m, args, below, meth, c, nL, A, D, Q⟩ := E
  intro H locs ls hP hD hS hl
  have hcell : ∀ cA : ClassId, vp_cell cA (n, .inr (.inr (.inr (.inr f)))) = vp_cell cA (n, .inr (.inr (.inr (.inr g)))) := by
    intro cA
    have e9 : (fun j : Fin n => va_rf (f j.val)) = (fun j : Fin n => va_rf (g j.val)) := funext fun j => by rw [hfg j.val j.isLt]
    simp only [vp_cell, arrV, e9]
  refine h H locs ls (fun k q hk => ?_) (hD.set he) hS hl
  by_cases hkq : k = q0
  · subst hkq
    rw [List.getElem?_set_self (List.getElem?_eq_some_iff.mp he).1] at hk
    cases hk
    have h1 := hP k _ he
    show H[a0]? = some (vp_cell (Y 3) _)
    rw [← hcell]
    exact h1
  · rw [List.getElem?_set_ne (Ne.symm hkq)] at hk
    exact hP k q hk
