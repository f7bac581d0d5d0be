/-! the words that every method gets; what else is known of the tables -/
def isMv (w : Cond) : Bool := match w with
  | .methodLinkNest .. => true | .castable .. => true | .fieldLinkNest .. => true | .declares .. => true | _ => false
def WSG : List Cond := lw_tbl.filter goodWord
def NG : List Cond := lw_tbl.filter isMv
def ST : List (String × Nat × String) := [(RX4, 37, "all peers have joined"), (RX4, 148, "no such peer"), (RX4, 151, "no such piece"), (RX4, 73, "no such priority"), (RX4, 90, "no such number of rounds"), (RX4, 92, "too many rounds in all")]
def exN (k : Nat) : String := match k with
  | 0 => "java/lang/IllegalStateException" | 1 => "java/lang/IndexOutOfBoundsException" | _ => "java/lang/IllegalArgumentException"
theorem Nw_moved {w : Cond} (hm : isMv w = true) {s U : State} (hW : s.WarmedH U.vm) (h : va_Nw w s) : va_Nw w U := by
  cases w <;> first | (cases hm; done) | exact va_Nw.warmM hW h | exact va_Nw.warmC hW h | exact va_Nw.warmF hW h | exact va_Nw.warmD hW h
theorem isMv_on {w : Cond} (hm : isMv w = true) : w.onTables = true := by
  cases w <;> first | (cases hm; done) | rfl
def TB (E : GE) (base : Nat) (U : State) (H : Heap) : Prop :=
  va_K (E.1, E.2.1) vwCl (tys4 E) U ∧ (∀ w ∈ NG, va_Nw w U) ∧ (∀ x ∈ ST, ∃ a, vk_R x.1 x.2.1 x.2.2 a U) ∧ vx_Zq Bundle.tN "UNASSIGNED_STACK" Bundle.steD (fun q => base ≤ q) U H ∧ vx_Zq Bundle.tN "SUPPRESSED_SENTINEL" Bundle.listD (fun q => base ≤ q) U H ∧ va_AO RX2 U ∧ (va_X (sB E) (sL E) (sX E) U H ∧ sB E < base) ∧ base ≤ H.size
theorem TB.warm {E : GE} {base : Nat} {s U : State} {H : Heap} (hW : s.WarmedH U.vm) (h : TB E base s H) : TB E base U H := by
  obtain ⟨h1, h2, h3, h4, h5, h6, h7, h8⟩ := h
  refine ⟨va_K.moved hW.alike h1, fun w hw => Nw_moved (List.mem_filter.mp hw).2 hW (h2 w hw), fun x hx => ?_, vx_Zq.moved hW.alike h4, vx_Zq.moved hW.alike h5, va_AO.moved hW.alike h6, ⟨va_X.moved hW.alike h7.1, h7.2⟩, h8⟩
  obtain ⟨a, ha⟩ := h3 x hx
  exact ⟨a, vk_R.warm hW ha⟩
theorem TB.same {E : GE} {base : Nat} {u U : State} {H : Heap} (hvm : u.vm = U.vm) (h : TB E base u H) : TB E base U H := by
  obtain ⟨h1, h2, h3, h4, h5, h6, h7, h8⟩ := h
  have hA : u.vm.Alike U.vm := by rw [hvm]; exact Vm.Alike.refl U.vm
  refine ⟨va_K.moved hA h1, fun w hw => (h2 w hw).same (isMv_on (List.mem_filter.mp hw).2) hvm, fun x hx => ?_, vx_Zq.moved hA h4, vx_Zq.moved hA h5, va_AO.moved hA h6, ⟨va_X.moved hA h7.1, h7.2⟩, h8⟩
  obtain ⟨a, ha⟩ := h3 x hx
  exact ⟨a, vk_R.same hvm.symm ha⟩
theorem TB.heap {E : GE} {base : Nat} {s : State} {H0 H : Heap} {locs : List Loc} (h : TB E base s H0) (hS : va_S (fun q : Nat => base ≤ q) H0 H locs) : TB E base s H := by
  obtain ⟨h1, h2, h3, h4, h5, h6, h7, h8⟩ := h
  exact ⟨h1, h2, h3, vx_Zq.kept h4 (fun a h1 h2 => hS.2.1 a h1 h2), vx_Zq.kept h5 (fun a h1 h2 => hS.2.1 a h1 h2), h6, ⟨va_X.kept h7.1 (hS.2.1 _ (Nat.lt_of_lt_of_le h7.2 h8) (Nat.not_le.mpr h7.2)), h7.2⟩, Nat.le_trans h8 hS.1⟩
/-! contracts -/
abbrev A0 (base : Nat) : Nat → Prop := fun q => base ≤ q
def Pst (E : GE) (base : Nat) (M : Mem) (ad : AD) (U : State) : Prop := TB E base U U.heap ∧ Wd E base M ad U.heap
def XCo (E : GE) (base : Nat) (XP : Nat → Mem → AD → Prop) : String → State → State → Prop := vx_X (fun u : Nat × Mem × AD => XP u.1 u.2.1 u.2.2) (fun En u t => En = exN u.1 ∧ Wd E base u.2.1 u.2.2 t.heap) (A0 base)
def QcI (E : GE) (base : Nat) (P : Int32 → Mem → AD → Prop) : Array Value → State → Outcome → State → Prop := va_Qi (fun (r : Int32) (u : Mem × AD) => P r u.1 u.2) (fun u t => Wd E base u.1 u.2 t.heap) (A0 base)
def QcL (E : GE) (base : Nat) (P : Int64 → Mem → AD → Prop) : Array Value → State → Outcome → State → Prop := va_Ql (fun (r : Int64) (u : Mem × AD) => P r u.1 u.2) (fun u t => Wd E base u.1 u.2 t.heap) (A0 base)
def QcV (E : GE) (base : Nat) (P : Mem → AD → Prop) : Array Value → State → Outcome → State → Prop := va_Qv (fun (u : Mem × AD) => P u.1 u.2) (fun u t => Wd E base u.1 u.2 t.heap) (A0 base)
/-- an answer that is a peer, or null -/
def QcQ (E : GE) (base : Nat) (P : Option Nat → Mem → AD → Prop) : Array Value → State → Outcome → State → Prop := va_Qq (fun (r : Option Nat) (u : Mem × AD) => ∃ ro : Option Nat, r = ro.map (u.2 2) ∧ P ro u.1 u.2) (fun u t => Wd E base u.1 u.2 t.heap) (A0 base)
abbrev Con (l : Launch) (y : MethodName) (bytes : ByteArray) (maxL : Nat) (ret : Option FieldType) (rm : Room) (mc ms : Nat) (E : GE) (base : Nat) (av : List Value) (M : Mem) (ad : AD) (Qc : Array Value → State → Outcome → State → Prop) (XP : Nat → Mem → AD → Prop) : Prop :=
  vx_Met l y (.code y bytes maxL ret :: WSG) rm (va_Pc av (Pst E base M ad)) Qc (XCo E base XP) mc ms (A0 base)
abbrev ConW (l : Launch) (y : MethodName) (bytes : ByteArray) (maxL : Nat) (ret : Option FieldType) (hh : List (Nat × Nat × Nat × Nat)) (rm : Room) (mc ms : Nat) (E : GE) (base : Nat) (av : List Value) (M : Mem) (ad : AD) (Qc : Array Value → State → Outcome → State → Prop) (XP : Nat → Mem → AD → Prop) : Prop :=
  vx_Met l y (.codeWith y bytes maxL ret hh :: WSG) rm (va_Pc av (Pst E base M ad)) Qc (XCo E base XP) mc ms (A0 base)
/-- what a method's body knows from its entry on -/
def Ctx (p : Program) (l : Launch) (s : State) (m : MethodId) (meth : Method) (c : Code) (args : Array Value) (y : MethodName) (bytes : ByteArray) (maxL : Nat) (ret : Option FieldType) (E : GE) (base : Nat) : Prop :=
  (p.tables.exec = Jvm.exec ∧ c.code = bytes ∧ c.maxLocals = maxL ∧ s.vm.findClass y.cls = some m.cls ∧ ∀ w ∈ WSG, w.before args s = true) ∧ meth.sig.returnType = ret ∧ meth.locks = false ∧ meth.name = y.name ∧ TB E base s s.heap
theorem con_start {l : Launch} {y : MethodName} {bytes : ByteArray} {maxL : Nat} {ret : Option FieldType} {rm : Room} {mc ms : Nat} {E : GE} {base : Nat} {av : List Value} {M : Mem} {ad : AD} {Qc : Array Value → State → Outcome → State → Prop} {XP : Nat → Mem → AD → Prop}
    (hy : plainName y.cls = true) (hlen : (lg_sl av).length ≤ maxL)
    (body : ∀ (p : Program) (e : Env) (s : State) (m : MethodId) (args : Array Value) (below : List Frame) (meth : Method) (c : Code) (ls : Array Slot) (QQ : State → Prop), vx_MQ below Qc (XCo E base XP) args s mc ms (A0 base) = QQ → Ctx p l s m meth c args y bytes maxL ret E base → (∀ x ∈ c.exceptionTable.toList, False) → Wd E base M ad s.heap → lv_has ls maxL (lv_args 0 av) →
      W p l e rm s m args below meth c s.heap [] 0 0 QQ (F0 m 0 ls [])) : Con l y bytes maxL ret rm mc ms E base av M ad Qc XP := by
  refine vx_ofW (cc := bytes) (maxL := maxL) (ret := ret) hy rfl ?_
  intro p e s m args below meth c s₁ B hml hnx hv
  obtain ⟨rfl, hT, hW⟩ := hv
  have hts := atoms_spec (ws := .code y bytes maxL ret :: WSG) B.pre
  have hl := lv_entry av (n := maxL) hlen
  rw [lg_entry_eq]
  exact body p e s m _ below meth c _ _ rfl ⟨⟨B.exec, B.bytes, hml, findClass_of_methodNamed B.named, fun w h => hts w (List.mem_cons_of_mem _ h)⟩, B.returns, B.notSynchronized, (name_of_methodNamed B.named B.method).1, hT⟩ hnx hW hl
theorem conW_start {l : Launch} {y : MethodName} {bytes : ByteArray} {maxL : Nat} {ret : Option FieldType} {hh : List (Nat × Nat × Nat × Nat)} {rm : Room} {mc ms : Nat} {E : GE} {base : Nat} {av : List Value} {M : Mem} {ad : AD} {Qc : Array Value → State → Outcome → State → Prop} {XP : Nat → Mem → AD → Prop}
    (hy : plainName y.cls = true) (hlen : (lg_sl av).length ≤ maxL)
    (body : ∀ (p : Program) (e : Env) (s : State) (m : MethodId) (args : Array Value) (below : List Frame) (meth : Method) (c : Code) (ls : Array Slot) (QQ : State → Prop), vx_MQ below Qc (XCo E base XP) args s mc ms (A0 base) = QQ → Ctx p l s m meth c args y bytes maxL ret E base → c.exceptionTable.toList = tableOf hh → Wd E base M ad s.heap → lv_has ls maxL (lv_args 0 av) →
      W p l e rm s m args below meth c s.heap [] 0 0 QQ (F0 m 0 ls [])) : ConW l y bytes maxL ret hh rm mc ms E base av M ad Qc XP := by
  refine vx_ofWH (cc := bytes) (maxL := maxL) (ret := ret) (hh := hh) hy rfl ?_
  intro p e s m args below meth c s₁ B hml hv
  obtain ⟨rfl, hT, hW⟩ := hv
  have hts := atoms_spec (ws := .codeWith y bytes maxL ret hh :: WSG) B.pre
  have htab := vx_table (x := y) B (hts _ List.mem_cons_self)
  have hl := lv_entry av (n := maxL) hlen
  rw [lg_entry_eq]
  exact body p e s m _ below meth c _ _ rfl ⟨⟨B.exec, B.bytes, hml, findClass_of_methodNamed B.named, fun w h => hts w (List.mem_cons_of_mem _ h)⟩, B.returns, B.notSynchronized, (name_of_methodNamed B.named B.method).1, hT⟩ htab hW hl
theorem Pst_blind {E : GE} {base : Nat} {av : List Value} {M : Mem} {ad : AD} : FrameBlind (va_Pc av (Pst E base M ad)) := fun a U g mk h => ⟨h.1, TB.same (u := U) rfl h.2.1, h.2.2⟩
section CALLS
variable {p : Program} {l : Launch} {e : Env} {R : Room} {s : State} {m : MethodId} {args : Array Value} {below : List Frame} {meth : Method} {c : Code} {H : Heap} {locs : List Loc} {cells slots : Nat} {Q : State → Prop}
variable {cc bytes : ByteArray} {pc : Nat} {ls : Array Slot} {rest st0 : List Value} {E : GE} {base : Nat} {M : Mem} {ad : AD} {κ i nL maxL mc ms n index : Nat} {own host : String} {y : MethodName} {ret : Option FieldType} {rm : Room} {As : List Value} {Qc : Array Value → State → Outcome → State → Prop} {XP : Nat → Mem → AD → Prop}
theorem Pst_call (hT : TB E base s s.heap) (hS : va_S (fun q : Nat => base ≤ q) s.heap H locs) (hW : Wd E base M ad H) {U : State} (hU : U.heap = H) (hWm : s.WarmedH U.vm) : Pst E base M ad U := by
  subst hU
  exact ⟨(hT.heap hS).warm hWm, hW⟩
theorem pay_code {w0 : Cond} (h0 : goodWord w0 = true) (hin : w0 ∈ WSG) (hts : ∀ w ∈ WSG, w.before args s = true) : ∀ w ∈ w0 :: WSG, ∀ (a' : Array Value) (U : State), s.WarmedH U.vm → w.before a' U = true := fun w hw a' U hWm => by
  rcases List.mem_cons.mp hw with h | h
  · subst h; exact word_at hWm (good_of_word h0) (hts _ hin)
  · exact word_at hWm (good_of_word (List.mem_filter.mp h).2) (hts _ h)
/-- what a call asks of the tables: its link apart -/
def CallY (y : MethodName) (bytes : ByteArray) (maxL : Nat) (ret : Option FieldType) (n : Nat) : Prop := Cond.code y bytes maxL ret ∈ WSG ∧ Cond.initialized y.cls ∈ WSG ∧ y.cls ≠ "java/lang/invoke/MethodHandle" ∧ y.cls ≠ "java/lang/invoke/VarHandle" ∧ (parseMethodDescriptor y.desc).map (fun d => d.parameters.length) = some n
def CallYW (y : MethodName) (bytes : ByteArray) (maxL : Nat) (ret : Option FieldType) (hh : List (Nat × Nat × Nat × Nat)) (n : Nat) : Prop := Cond.codeWith y bytes maxL ret hh ∈ WSG ∧ Cond.initialized y.cls ∈ WSG ∧ y.cls ≠ "java/lang/invoke/MethodHandle" ∧ y.cls ≠ "java/lang/invoke/VarHandle" ∧ (parseMethodDescriptor y.desc).map (fun d => d.parameters.length) = some n
theorem arity {n : Nat} (h : (parseMethodDescriptor y.desc).map (fun d => d.parameters.length) = some n) : ∀ sig, parseMethodDescriptor y.desc = some sig → n = sig.parameters.length := fun sig hs => by
  rw [hs] at h
  exact (Option.some.inj h).symm
theorem callB0 (hts : ∀ w ∈ WSG, w.before args s = true) (hY : CallY y bytes maxL ret n) (hl : Cond.methodLink own index y ∈ WSG) (hrc : rm.cells = mc) (hrs : rm.slots = ms) (hR : rm.frames + 1 ≤ R.frames ∧ 8 + (maxL + 11) + rm.locals ≤ R.locals) : CallB R s args own index y bytes maxL ret (.code y bytes maxL ret :: WSG) rm mc ms n := by
  obtain ⟨h1, h2, h3, h4, h5⟩ := hY
  exact ⟨hrc, hrs, hR.1, hR.2, pay_code rfl h1 hts, List.mem_cons_self, hts _ h1, hts _ h2, ⟨h3, h4⟩, arity h5, hts _ hl⟩
theorem callN0 (hts : ∀ w ∈ WSG, w.before args s = true) (hT : TB E base s s.heap) (hY : CallY y bytes maxL ret n) (hl : Cond.methodLinkNest own index y host ∈ NG) (hrc : rm.cells = mc) (hrs : rm.slots = ms) (hR : rm.frames + 1 ≤ R.frames ∧ 8 + (maxL + 11) + rm.locals ≤ R.locals) : va_CN R s args own index y host bytes maxL ret (.code y bytes maxL ret :: WSG) rm mc ms n := by
  obtain ⟨h1, h2, h3, h4, h5⟩ := hY
  exact ⟨⟨hrc, hrs, hR.1, hR.2, pay_code rfl h1 hts, List.mem_cons_self⟩, hts _ h1, hts _ h2, ⟨h3, h4⟩, arity h5, va_Nw.use rfl (hT.2.1 _ hl)⟩
theorem mRecv (hK : va_K (E.1, E.2.1) vwCl (tys4 E) s) (hW : Wd E base M ad H) (hex : mE M κ i = true) (h6 : κ < 6) {q : vw_C} (hc : vwCl[κ]? = some q) : ∃ cell : Cell, H[ad κ i]? = some cell ∧ cell.vm.isStatics = false ∧ s.vm.findClass q.1 = some cell.cls := by
  have ho := (hW.1 κ i hex).2
  unfold oAt at ho
  rw [if_pos h6] at ho
  obtain ⟨cell, g1, g2, g3, -⟩ := ho
  exact ⟨cell, g1, by rw [g3]; rfl, by rw [g2]; exact (hK.1 κ q hc).2.1⟩
abbrev Run (p : Program) (l : Launch) (e : Env) (R : Room) (s : State) (m : MethodId) (args : Array Value) (below : List Frame) (meth : Method) (c : Code) (H : Heap) (locs : List Loc) (cells slots mc ms : Nat) (pc : Nat) (ls : Array Slot) (st0 rest : List Value) (Qa : State → Outcome → State → Prop) (E : GE) (base : Nat) (XP : Nat → Mem → AD → Prop) : Prop :=
  vx_Run p l e R s m args below meth c H locs cells slots mc ms (F0 m pc ls st0) rest Qa (XCo E base XP) (A0 base)
theorem rn_V (CT : p.tables.exec = Jvm.exec ∧ c.code = cc ∧ c.maxLocals = nL ∧ s.vm.findClass own = some m.cls ∧ ∀ w ∈ WSG, w.before args s = true) (hT : TB E base s s.heap) (hW : Wd E base M ad H) (hS : va_S (fun q : Nat => base ≤ q) s.heap H locs) {nlv : List (Nat × Value)} (hl : lv_has ls nL nlv) (hC : Con l y bytes maxL ret rm mc ms E base (.ref (ad κ i) :: As) M ad Qc XP) (hY : CallY y bytes maxL ret n) (hlk : Cond.methodLink own index y ∈ WSG) (hin : Cond.instanceMethod y ∈ WSG) (hse : Cond.selects y.cls y y ∈ WSG) (hex : mE M κ i = true) (h6 : κ < 6) {q : vw_C} (hcl : vwCl[κ]? = some q) (hq : q.1 = y.cls)
    (hrc : rm.cells = mc) (hrs : rm.slots = ms) (hR : rm.frames + 1 ≤ R.frames ∧ 8 + (maxL + 11) + rm.locals ≤ R.locals) (hn : As.length = n) (hst : st0 = As.reverse ++ .ref (ad κ i) :: rest) (hr8 : (rest.map fun v => v.category).sum ≤ 8) (hdg : decode cc pc = .ok (.invokevirtual index, 3)) (hf : cells + mc ≤ R.cells ∧ slots + ms ≤ R.slots) :
    Run p l e R s m args below meth c H locs cells slots mc ms pc ls st0 rest (Qc (Value.ref (ad κ i) :: As).toArray) E base XP :=
  vx_runV (C := y.cls) (cc := cc) (nL := nL) CT hC ⟨callB0 CT.2.2.2.2 hY hlk hrc hrs hR, CT.2.2.2.2 _ hin, CT.2.2.2.2 _ hse⟩ ⟨Pst_blind, hq ▸ mRecv hT.1 hW hex h6 hcl, fun U hU hWm => ⟨rfl, Pst_call hT hS hW hU hWm⟩⟩ rfl hn hl.1 hst (lv_room hr8) hdg hf
theorem rn_S (CT : p.tables.exec = Jvm.exec ∧ c.code = cc ∧ c.maxLocals = nL ∧ s.vm.findClass own = some m.cls ∧ ∀ w ∈ WSG, w.before args s = true) (hT : TB E base s s.heap) (hW : Wd E base M ad H) (hS : va_S (fun q : Nat => base ≤ q) s.heap H locs) {nlv : List (Nat × Value)} (hl : lv_has ls nL nlv) (hC : Con l y bytes maxL ret rm mc ms E base As M ad Qc XP) (hY : CallY y bytes maxL ret n) (hlk : Cond.methodLink own index y ∈ WSG) (hss : Cond.static y ∈ WSG)
    (hrc : rm.cells = mc) (hrs : rm.slots = ms) (hR : rm.frames + 1 ≤ R.frames ∧ 8 + (maxL + 11) + rm.locals ≤ R.locals) (hn : As.length = n) (hst : st0 = As.reverse ++ rest) (hr8 : (rest.map fun v => v.category).sum ≤ 8) (hdg : decode cc pc = .ok (.invokestatic index, 3)) (hf : cells + mc ≤ R.cells ∧ slots + ms ≤ R.slots) :
    Run p l e R s m args below meth c H locs cells slots mc ms pc ls st0 rest (Qc As.toArray) E base XP :=
  vx_runS (cc := cc) (nL := nL) CT hC ⟨callB0 CT.2.2.2.2 hY hlk hrc hrs hR, CT.2.2.2.2 _ hss⟩ ⟨Pst_blind, fun U hU hWm => ⟨rfl, Pst_call hT hS hW hU hWm⟩⟩ rfl hn hl.1 hst (lv_room hr8) hdg hf
theorem rn_I (CT : p.tables.exec = Jvm.exec ∧ c.code = cc ∧ c.maxLocals = nL ∧ s.vm.findClass own = some m.cls ∧ ∀ w ∈ WSG, w.before args s = true) (hT : TB E base s s.heap) (hW : Wd E base M ad H) (hS : va_S (fun q : Nat => base ≤ q) s.heap H locs) {nlv : List (Nat × Value)} (hl : lv_has ls nL nlv) (hC : Con l y bytes maxL none rm mc ms E base (.ref (ad κ i) :: As) M ad Qc XP) (hY : CallY y bytes maxL none n) (hy1 : y.name = "<init>") (hlk : Cond.methodLink own index y ∈ WSG) (hin : Cond.instanceMethod y ∈ WSG)
    (hrc : rm.cells = mc) (hrs : rm.slots = ms) (hR : rm.frames + 1 ≤ R.frames ∧ 8 + (maxL + 11) + rm.locals ≤ R.locals) (hn : As.length = n) (hst : st0 = As.reverse ++ .ref (ad κ i) :: rest) (hr8 : (rest.map fun v => v.category).sum ≤ 8) (hdg : decode cc pc = .ok (.invokespecial index, 3)) (hf : cells + mc ≤ R.cells ∧ slots + ms ≤ R.slots) :
    Run p l e R s m args below meth c H locs cells slots mc ms pc ls st0 rest (Qc (Value.ref (ad κ i) :: As).toArray) E base XP :=
  vx_runI (cc := cc) (nL := nL) CT hC ⟨callB0 CT.2.2.2.2 hY hlk hrc hrs hR, hy1, CT.2.2.2.2 _ hin⟩ ⟨Pst_blind, fun U hU hWm => ⟨rfl, Pst_call hT hS hW hU hWm⟩⟩ rfl hn hl.1 hst (lv_room hr8) hdg hf
theorem rn_IN (CT : p.tables.exec = Jvm.exec ∧ c.code = cc ∧ c.maxLocals = nL ∧ s.vm.findClass own = some m.cls ∧ ∀ w ∈ WSG, w.before args s = true) (hT : TB E base s s.heap) (hW : Wd E base M ad H) (hS : va_S (fun q : Nat => base ≤ q) s.heap H locs) {nlv : List (Nat × Value)} (hl : lv_has ls nL nlv) (hC : Con l y bytes maxL none rm mc ms E base (.ref (ad κ i) :: As) M ad Qc XP) (hY : CallY y bytes maxL none n) (hlk : Cond.methodLinkNest own index y host ∈ NG) (hy1 : y.name = "<init>") (hin : Cond.instanceMethod y ∈ WSG)
    (hrc : rm.cells = mc) (hrs : rm.slots = ms) (hR : rm.frames + 1 ≤ R.frames ∧ 8 + (maxL + 11) + rm.locals ≤ R.locals) (hn : As.length = n) (hst : st0 = As.reverse ++ .ref (ad κ i) :: rest) (hr8 : (rest.map fun v => v.category).sum ≤ 8) (hdg : decode cc pc = .ok (.invokespecial index, 3)) (hf : cells + mc ≤ R.cells ∧ slots + ms ≤ R.slots) :
    Run p l e R s m args below meth c H locs cells slots mc ms pc ls st0 rest (Qc (Value.ref (ad κ i) :: As).toArray) E base XP :=
  vx_runIN (cc := cc) (nL := nL) CT hC ⟨callN0 CT.2.2.2.2 hT hY hlk hrc hrs hR, hy1, CT.2.2.2.2 _ hin⟩ ⟨Pst_blind, fun U hU hWm => ⟨rfl, Pst_call hT hS hW hU hWm⟩⟩ rfl hn hl.1 hst (lv_room hr8) hdg hf
theorem rn_SN (CT : p.tables.exec = Jvm.exec ∧ c.code = cc ∧ c.maxLocals = nL ∧ s.vm.findClass own = some m.cls ∧ ∀ w ∈ WSG, w.before args s = true) (hT : TB E base s s.heap) (hW : Wd E base M ad H) (hS : va_S (fun q : Nat => base ≤ q) s.heap H locs) {nlv : List (Nat × Value)} (hl : lv_has ls nL nlv) (hC : Con l y bytes maxL ret rm mc ms E base As M ad Qc XP) (hY : CallY y bytes maxL ret n) (hlk : Cond.methodLinkNest own index y host ∈ NG) (hss : Cond.static y ∈ WSG)
    (hrc : rm.cells = mc) (hrs : rm.slots = ms) (hR : rm.frames + 1 ≤ R.frames ∧ 8 + (maxL + 11) + rm.locals ≤ R.locals) (hn : As.length = n) (hst : st0 = As.reverse ++ rest) (hr8 : (rest.map fun v => v.category).sum ≤ 8) (hdg : decode cc pc = .ok (.invokestatic index, 3)) (hf : cells + mc ≤ R.cells ∧ slots + ms ≤ R.slots) :
    Run p l e R s m args below meth c H locs cells slots mc ms pc ls st0 rest (Qc As.toArray) E base XP :=
  vx_runSN (cc := cc) (nL := nL) CT hC ⟨callN0 CT.2.2.2.2 hT hY hlk hrc hrs hR, CT.2.2.2.2 _ hss, trivial⟩ ⟨Pst_blind, fun U hU hWm => ⟨rfl, Pst_call hT hS hW hU hWm⟩⟩ rfl hn hl.1 hst (lv_room hr8) hdg hf
/-- a static method with a table of its own -/
theorem rn_SX {hh : List (Nat × Nat × Nat × Nat)} (CT : p.tables.exec = Jvm.exec ∧ c.code = cc ∧ c.maxLocals = nL ∧ s.vm.findClass own = some m.cls ∧ ∀ w ∈ WSG, w.before args s = true) (hT : TB E base s s.heap) (hW : Wd E base M ad H) (hS : va_S (fun q : Nat => base ≤ q) s.heap H locs) {nlv : List (Nat × Value)} (hl : lv_has ls nL nlv) (hC : ConW l y bytes maxL ret hh rm mc ms E base As M ad Qc XP) (hY : CallYW y bytes maxL ret hh n) (hlk : Cond.methodLink own index y ∈ WSG) (hss : Cond.static y ∈ WSG)
    (hrc : rm.cells = mc) (hrs : rm.slots = ms) (hR : rm.frames + 1 ≤ R.frames ∧ 8 + (maxL + 11) + rm.locals ≤ R.locals) (hn : As.length = n) (hst : st0 = As.reverse ++ rest) (hr8 : (rest.map fun v => v.category).sum ≤ 8) (hdg : decode cc pc = .ok (.invokestatic index, 3)) (hf : cells + mc ≤ R.cells ∧ slots + ms ≤ R.slots) :
    Run p l e R s m args below meth c H locs cells slots mc ms pc ls st0 rest (Qc As.toArray) E base XP := by
  obtain ⟨h1, h2, h3, h4, h5⟩ := hY
  have hts := CT.2.2.2.2
  exact vx_runSX (cc := cc) (nL := nL) CT hC ⟨⟨hrc, hrs, hR.1, hR.2, pay_code rfl h1 hts, List.mem_cons_self⟩, hts _ h1, hts _ h2, ⟨h3, h4⟩, arity h5, hts _ hlk, hts _ hss⟩ ⟨Pst_blind, fun U hU hWm => ⟨rfl, Pst_call hT hS hW hU hWm⟩⟩ rfl hn hl.1 hst (lv_room hr8) hdg hf
end CALLS
