def R_law : String := "QuotientSumsLaw"
def lw_P (b : Addr) (xs : List Int32) (args : Array Value) (s : State) : Prop := args = #[.ref b] ∧ s.IntsAt b xs ∧ xs.length ≤ 3072 ∧ (Jvm.Cond.and given_1 narrow_1).before args s = true
def lw_Q (_ : Array Value) (s : State) (o : Outcome) (t : State) : Prop := o = .returned (some (.int 1)) ∧ Framed s o t [] 601024 7293034
def lw_Z (below : List Frame) (a : Array Value) (s : State) : State → Prop := fun t => ∃ o, t.status = .running ∧ Ended t below o ∧ lw_Q a s o t
/-- the law's own end, with 1 on the stack, nothing written that was there before, its room as the claim has it -/
theorem lw_ret {p : Program} {l : Launch} {e : Env} {s : State} {m : MethodId} {below : List Frame} {meth : Method} {c : Code} {b : Nat} (hx : p.tables.exec = Jvm.exec) (hb : c.code = code) (hr : meth.sig.returnType = ret) (hlocks : meth.locks = false) {pc : Nat} {H : Heap} {ls : Array Slot} (hdg : decode code pc = .ok (.ireturn, 1)) : W p l e room_1 s m #[Value.ref b] below meth c H [] 601024 7293034 (lw_Z below #[Value.ref b] s) (F0 m pc ls [.int 1]) := by
  intro T hT X
  obtain ⟨fs, hret, hrun, hended, hW, hframe⟩ := X.leave (v := some (.int 1)) (hlocks := hlocks) (fun h => by rw [hr] at h; cases h)
  have hmeth' : T.vm.method? m = some meth := X.method'
  refine ⟨T.setFrames fs, ?_, .returned (some (.int 1)), hrun, hended, rfl, ⟨_, rfl⟩, hW, hframe⟩
  jvm_step X.here [X.here.top, hx, hb, hdg, hmeth', hr, ret, narrow_b1]
  (try refine ⟨rfl, ?_⟩); (try refine ⟨rfl, ?_⟩)
  first | (intro acts; rw [hret _ acts rfl rfl rfl]) | rw [hret _ _ rfl rfl rfl]
  exact Steps.refl _
/-- what holds at the law's entry: the machine, the code, the tables' words (any of lw_tbl by 'hts w (by decide +kernel)'), the script of L ints xs at the cell b, what the Statement gives of the start (any of its parts by flat_of_before) -/
def lw_At (p : Program) (s : State) (m : MethodId) (meth : Method) (c : Code) (b L : Nat) (xs : Nat → Int32) : Prop :=
  p.tables.exec = Jvm.exec ∧ c.code = code ∧ meth.sig.returnType = ret ∧ c.maxLocals = 7 ∧ s.vm.findClass R_law = some m.cls ∧ (∀ w ∈ lw_tbl, w.before #[Value.ref b] s = true) ∧ va_X b L xs s s.heap ∧ b < s.heap.size ∧ meth.locks = false ∧ (Jvm.Cond.and given_1 narrow_1).before #[Value.ref b] s = true

def gScr (E : gE) (b L : Nat) (xs : Nat → Int32) : Prop := match E with
  | (p, l, e, R, s, m, args, below, meth, c, nL, A, D, Q) => va_X b L xs s s.heap ∧ b < s.heap.size ∧ ¬ A b
def gLawQ (E : gE) : Prop := match E with
  | (p, l, e, R, s, m, args, below, meth, c, nL, A, D, Q) => (∃ b : Nat, args = #[Value.ref b] ∧ Q = lw_Z below #[Value.ref b] s) ∧ meth.sig.returnType = ret ∧ R = room_1 ∧ (∀ q, A q → s.heap.size ≤ q)
theorem g_sld {E : gE} {l : Launch} {D : va_G} {Y : Nat → ClassId} {cc : ByteArray} {own : String} {R : Room} {nL : Nat} {cells slots : Nat} {ws : va_W} {lv : List (Nat × Value)} {rest : List Value} {pc : Nat} (C : gOK E l D Y cc own R nL) {b L : Nat} {xs : Nat → Int32} (hs : gScr E b L xs) {i : Int32} (hin : vp_in i L) (hd : decode cc pc = .ok (.iaload, 1)) (h : gG E cells slots ws lv (.int (xs i.toNatClampNeg) :: rest) (pc + 1)) : gG E cells slots ws lv (.int i :: .ref b :: rest) pc := by
  obtain ⟨p, l, e, R, s, m, args, below, meth, c, nL, A, D, Q⟩ := E
  obtain ⟨rfl, rfl, rfl, rfl, hx, hb, hml, hown, hts, hK, hA, hZ, hlocks, -⟩ := C
  exact fun H locs ls hP hD hS hl => va_sld hx hb hs.1 hs.2.1 hs.2.2 hS hin hd (h H locs ls hP hD hS hl)
theorem g_slen {E : gE} {l : Launch} {D : va_G} {Y : Nat → ClassId} {cc : ByteArray} {own : String} {R : Room} {nL : Nat} {cells slots : Nat} {ws : va_W} {lv : List (Nat × Value)} {rest : List Value} {pc : Nat} (C : gOK E l D Y cc own R nL) {b L : Nat} {xs : Nat → Int32} (hs : gScr E b L xs) (hd : decode cc pc = .ok (.arraylength, 1)) (h : gG E cells slots ws lv (.int (nI L) :: rest) (pc + 1)) : gG E cells slots ws lv (.ref b :: rest) pc := by
  obtain ⟨p, l, e, R, s, m, args, below, meth, c, nL, A, D, Q⟩ := E
  obtain ⟨rfl, rfl, rfl, rfl, hx, hb, hml, hown, hts, hK, hA, hZ, hlocks, -⟩ := C
  exact fun H locs ls hP hD hS hl => va_slen hx hb hs.1 hs.2.1 hs.2.2 hS hd (h H locs ls hP hD hS hl)
theorem g_lawRet {E : gE} {l : Launch} {D : va_G} {Y : Nat → ClassId} {cc : ByteArray} {own : String} {R : Room} {nL : Nat} {cells slots : Nat} {ws : va_W} {lv : List (Nat × Value)} {pc : Nat} (C : gOK E l D Y cc own R nL) (hQ : gLawQ E) (h1 : cells ≤ 601024) (h2 : slots ≤ 7293034) (hd : decode cc pc = .ok (.ireturn, 1)) (hcc : cc = code) : gG E cells slots ws lv [.int 1] pc := by
  obtain ⟨p, l, e, R, s, m, args, below, meth, c, nL, A, D, Q⟩ := E
  obtain ⟨rfl, rfl, rfl, rfl, hx, hb, hml, hown, hts, hK, hA, hZ, hlocks, -⟩ := C
  obtain ⟨⟨b, rfl, rfl⟩, hr, rfl, hA2⟩ := hQ
  subst hcc
  exact fun H locs ls hP hD hS hl => W.widen h1 h2 (va_forget (fun q hq => hA2 _ (hS.2.2 q hq)) (lw_ret hx hb hr hlocks hd))
