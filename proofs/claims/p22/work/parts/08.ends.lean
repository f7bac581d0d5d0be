/-! behind a call; a method's ends -/
def EXN : List String := ["java/lang/RuntimeException", "java/lang/Exception"]
def noX : Nat → Mem → AD → Prop := fun _ _ _ => False
section ENDS
variable {p : Program} {l : Launch} {e : Env} {R : Room} {s : State} {m : MethodId} {args : Array Value} {below : List Frame} {meth : Method} {c : Code} {H : Heap} {locs : List Loc} {cells slots : Nat} {Q : State → Prop}
variable {cc bytes : ByteArray} {pc : Nat} {ls : Array Slot} {rest st0 : List Value} {E : GE} {base : Nat} {M : Mem} {ad : AD} {mc ms : Nat} {Qc : Array Value → State → Outcome → State → Prop} {XP : Nat → Mem → AD → Prop} {XC : String → State → State → Prop} {a : Array Value}
abbrev KX (p : Program) (l : Launch) (e : Env) (R : Room) (s : State) (m : MethodId) (args : Array Value) (below : List Frame) (meth : Method) (c : Code) (cells slots : Nat) (Q : State → Prop) (g : JFrame) (E : GE) (base : Nat) (XP : Nat → Mem → AD → Prop) : Prop :=
  ∀ (k : Nat) (M1 : Mem) (ad1 : AD) (q9 : Addr) (ce : Cell) (H1 : Heap) (locs1 : List Loc), XP k M1 ad1 → Wd E base M1 ad1 H1 → va_S (fun q : Nat => base ≤ q) s.heap H1 locs1 → H1[q9]? = some ce → ce.vm = .none → s.vm.findClass (exN k) = some ce.cls → vx_W p l e R s m args below meth c H1 locs1 cells slots Q g q9
theorem kx_no {g : JFrame} : KX p l e R s m args below meth c cells slots Q g E base noX := fun _ _ _ _ _ _ _ h => False.elim h
theorem k_I {P : Int32 → Mem → AD → Prop} (hr : Run p l e R s m args below meth c H locs cells slots mc ms pc ls st0 rest (QcI E base P a) E base XP) (hS : va_S (fun q : Nat => base ≤ q) s.heap H locs)
    (kx : KX p l e R s m args below meth c (cells + mc) (slots + ms) Q (F0 m pc ls rest) E base XP)
    (kk : ∀ (r : Int32) (M1 : Mem) (ad1 : AD) (H1 : Heap) (locs1 : List Loc), P r M1 ad1 → Wd E base M1 ad1 H1 → va_S (fun q : Nat => base ≤ q) s.heap H1 locs1 → W p l e R s m args below meth c H1 locs1 (cells + mc) (slots + ms) Q (F0 m (pc + 3) ls (.int r :: rest))) : W p l e R s m args below meth c H locs cells slots Q (F0 m pc ls st0) := by
  refine vx_calli hr hS (fun q _ h => h) (fun q h => h) (fun q _ h => h) (fun En ce q9 u t H1 locs1 ht hvm hx hB hz hk hS1 hce hcv hcl => ?_) (fun r u t H1 locs1 ht hvm hp hB hz hk hS1 => ?_)
  · obtain ⟨rfl, hW1⟩ := hB
    exact kx u.1 u.2.1 u.2.2 q9 ce H1 locs1 hx (by rw [← ht]; exact hW1) hS1 hce hcv hcl
  · exact kk r u.1 u.2 H1 locs1 hp (by rw [← ht]; exact hB) hS1
theorem k_L {P : Int64 → Mem → AD → Prop} (hr : Run p l e R s m args below meth c H locs cells slots mc ms pc ls st0 rest (QcL E base P a) E base XP) (hS : va_S (fun q : Nat => base ≤ q) s.heap H locs)
    (kx : KX p l e R s m args below meth c (cells + mc) (slots + ms) Q (F0 m pc ls rest) E base XP)
    (kk : ∀ (r : Int64) (M1 : Mem) (ad1 : AD) (H1 : Heap) (locs1 : List Loc), P r M1 ad1 → Wd E base M1 ad1 H1 → va_S (fun q : Nat => base ≤ q) s.heap H1 locs1 → W p l e R s m args below meth c H1 locs1 (cells + mc) (slots + ms) Q (F0 m (pc + 3) ls (.long r :: rest))) : W p l e R s m args below meth c H locs cells slots Q (F0 m pc ls st0) := by
  refine vx_calll hr hS (fun q _ h => h) (fun q h => h) (fun q _ h => h) (fun En ce q9 u t H1 locs1 ht hvm hx hB hz hk hS1 hce hcv hcl => ?_) (fun r u t H1 locs1 ht hvm hp hB hz hk hS1 => ?_)
  · obtain ⟨rfl, hW1⟩ := hB
    exact kx u.1 u.2.1 u.2.2 q9 ce H1 locs1 hx (by rw [← ht]; exact hW1) hS1 hce hcv hcl
  · exact kk r u.1 u.2 H1 locs1 hp (by rw [← ht]; exact hB) hS1
theorem k_V {P : Mem → AD → Prop} (hr : Run p l e R s m args below meth c H locs cells slots mc ms pc ls st0 rest (QcV E base P a) E base XP) (hS : va_S (fun q : Nat => base ≤ q) s.heap H locs)
    (kx : KX p l e R s m args below meth c (cells + mc) (slots + ms) Q (F0 m pc ls rest) E base XP)
    (kk : ∀ (M1 : Mem) (ad1 : AD) (H1 : Heap) (locs1 : List Loc), P M1 ad1 → Wd E base M1 ad1 H1 → va_S (fun q : Nat => base ≤ q) s.heap H1 locs1 → W p l e R s m args below meth c H1 locs1 (cells + mc) (slots + ms) Q (F0 m (pc + 3) ls rest)) : W p l e R s m args below meth c H locs cells slots Q (F0 m pc ls st0) := by
  refine vx_callv hr hS (fun q _ h => h) (fun q h => h) (fun q _ h => h) (fun En ce q9 u t H1 locs1 ht hvm hx hB hz hk hS1 hce hcv hcl => ?_) (fun u t H1 locs1 ht hvm hp hB hz hk hS1 => ?_)
  · obtain ⟨rfl, hW1⟩ := hB
    exact kx u.1 u.2.1 u.2.2 q9 ce H1 locs1 hx (by rw [← ht]; exact hW1) hS1 hce hcv hcl
  · exact kk u.1 u.2 H1 locs1 hp (by rw [← ht]; exact hB) hS1
theorem k_Q {P : Option Nat → Mem → AD → Prop} (hr : Run p l e R s m args below meth c H locs cells slots mc ms pc ls st0 rest (QcQ E base P a) E base XP) (hS : va_S (fun q : Nat => base ≤ q) s.heap H locs)
    (kx : KX p l e R s m args below meth c (cells + mc) (slots + ms) Q (F0 m pc ls rest) E base XP)
    (kn : ∀ (M1 : Mem) (ad1 : AD) (H1 : Heap) (locs1 : List Loc), P none M1 ad1 → Wd E base M1 ad1 H1 → va_S (fun q : Nat => base ≤ q) s.heap H1 locs1 → W p l e R s m args below meth c H1 locs1 (cells + mc) (slots + ms) Q (F0 m (pc + 3) ls (.null :: rest)))
    (kk : ∀ (j : Nat) (M1 : Mem) (ad1 : AD) (H1 : Heap) (locs1 : List Loc), P (some j) M1 ad1 → Wd E base M1 ad1 H1 → va_S (fun q : Nat => base ≤ q) s.heap H1 locs1 → W p l e R s m args below meth c H1 locs1 (cells + mc) (slots + ms) Q (F0 m (pc + 3) ls (.ref (ad1 2 j) :: rest))) : W p l e R s m args below meth c H locs cells slots Q (F0 m pc ls st0) := by
  refine vx_callq hr hS (fun q _ h => h) (fun q h => h) (fun q _ h => h) (fun En ce q9 u t H1 locs1 ht hvm hx hB hz hk hS1 hce hcv hcl => ?_) (fun r u t H1 locs1 ht hvm hp hB hz hk hS1 => ?_)
  · obtain ⟨rfl, hW1⟩ := hB
    exact kx u.1 u.2.1 u.2.2 q9 ce H1 locs1 hx (by rw [← ht]; exact hW1) hS1 hce hcv hcl
  · obtain ⟨ro, rfl, hp⟩ := hp
    cases ro with
    | none => exact kn u.1 u.2 H1 locs1 hp (by rw [← ht]; exact hB) hS1
    | some j => exact kk j u.1 u.2 H1 locs1 hp (by rw [← ht]; exact hB) hS1
theorem e_I {P : Int32 → Mem → AD → Prop} {v : Int32} (hx : p.tables.exec = Jvm.exec) (hb : c.code = cc) (hr : meth.sig.returnType = some .int) (hlocks : meth.locks = false) (hW : Wd E base M ad H) (hS : va_S (fun q : Nat => base ≤ q) s.heap H locs) (hc : cells ≤ mc) (hs : slots ≤ ms) (hdg : decode cc pc = .ok (.ireturn, 1)) (hP : P v M ad) :
    W p l e R s m args below meth c H locs cells slots (vx_MQ below (QcI E base P) XC args s mc ms (A0 base)) (F0 m pc ls [.int v]) :=
  W.widen hc hs (vx_ret (W.iret hx hb hr (fun t ht hWm => ⟨⟨v, (M, ad), rfl, hP, by subst ht; exact hW⟩, hS.F ht⟩) hS.2.2 hdg hlocks))
theorem e_Z {P : Int32 → Mem → AD → Prop} {v : Int32} (hx : p.tables.exec = Jvm.exec) (hb : c.code = cc) (hr : meth.sig.returnType = some .boolean) (hlocks : meth.locks = false) (hW : Wd E base M ad H) (hS : va_S (fun q : Nat => base ≤ q) s.heap H locs) (hc : cells ≤ mc) (hs : slots ≤ ms) (hdg : decode cc pc = .ok (.ireturn, 1)) (hz : v = 0 ∨ v = 1) (hP : P v M ad) :
    W p l e R s m args below meth c H locs cells slots (vx_MQ below (QcI E base P) XC args s mc ms (A0 base)) (F0 m pc ls [.int v]) :=
  W.widen hc hs (vx_ret (W.zret hx hb hr (nar_z hz).1 (fun t ht hWm => ⟨⟨v, (M, ad), rfl, hP, by subst ht; exact hW⟩, hS.F ht⟩) hS.2.2 hdg hlocks))
theorem e_L {P : Int64 → Mem → AD → Prop} {v : Int64} (hx : p.tables.exec = Jvm.exec) (hb : c.code = cc) (hr : meth.sig.returnType = some .long) (hlocks : meth.locks = false) (hW : Wd E base M ad H) (hS : va_S (fun q : Nat => base ≤ q) s.heap H locs) (hc : cells ≤ mc) (hs : slots ≤ ms) (hdg : decode cc pc = .ok (.lreturn, 1)) (hP : P v M ad) :
    W p l e R s m args below meth c H locs cells slots (vx_MQ below (QcL E base P) XC args s mc ms (A0 base)) (F0 m pc ls [.long v]) :=
  W.widen hc hs (vx_ret (W.lret hx hb hr (fun t ht hWm => ⟨⟨v, (M, ad), rfl, hP, by subst ht; exact hW⟩, hS.F ht⟩) hS.2.2 hdg hlocks))
theorem e_V {P : Mem → AD → Prop} (hx : p.tables.exec = Jvm.exec) (hb : c.code = cc) (hr : meth.sig.returnType = none) (hlocks : meth.locks = false) (hW : Wd E base M ad H) (hS : va_S (fun q : Nat => base ≤ q) s.heap H locs) (hc : cells ≤ mc) (hs : slots ≤ ms) (hdg : decode cc pc = .ok (.return_, 1)) (hP : P M ad) :
    W p l e R s m args below meth c H locs cells slots (vx_MQ below (QcV E base P) XC args s mc ms (A0 base)) (F0 m pc ls []) :=
  W.widen hc hs (vx_ret (W.vret hx hb hr (fun t ht hWm => ⟨⟨(M, ad), rfl, hP, by subst ht; exact hW⟩, hS.F ht⟩) hS.2.2 hdg hlocks))
theorem e_Qs {P : Option Nat → Mem → AD → Prop} {j : Nat} (hx : p.tables.exec = Jvm.exec) (hb : c.code = cc) (hr : meth.sig.returnType = some (.object RX2)) (hlocks : meth.locks = false) (hW : Wd E base M ad H) (hS : va_S (fun q : Nat => base ≤ q) s.heap H locs) (hc : cells ≤ mc) (hs : slots ≤ ms) (hdg : decode cc pc = .ok (.areturn, 1)) (hP : P (some j) M ad) :
    W p l e R s m args below meth c H locs cells slots (vx_MQ below (QcQ E base P) XC args s mc ms (A0 base)) (F0 m pc ls [.ref (ad 2 j)]) :=
  W.widen hc hs (vx_ret (W.aret hx hb hr (Or.inl ⟨_, rfl⟩) (Or.inr ⟨_, rfl⟩) (fun t ht hWm => ⟨⟨some (ad 2 j), (M, ad), rfl, ⟨some j, rfl, hP⟩, by subst ht; exact hW⟩, hS.F ht⟩) hS.2.2 hdg hlocks))
theorem e_Qn {P : Option Nat → Mem → AD → Prop} (hx : p.tables.exec = Jvm.exec) (hb : c.code = cc) (hr : meth.sig.returnType = some (.object RX2)) (hlocks : meth.locks = false) (hW : Wd E base M ad H) (hS : va_S (fun q : Nat => base ≤ q) s.heap H locs) (hc : cells ≤ mc) (hs : slots ≤ ms) (hdg : decode cc pc = .ok (.areturn, 1)) (hP : P none M ad) :
    W p l e R s m args below meth c H locs cells slots (vx_MQ below (QcQ E base P) XC args s mc ms (A0 base)) (F0 m pc ls [.null]) :=
  W.widen hc hs (vx_ret (W.aret hx hb hr (Or.inl ⟨_, rfl⟩) (Or.inl rfl) (fun t ht hWm => ⟨⟨none, (M, ad), rfl, ⟨none, rfl, hP⟩, by subst ht; exact hW⟩, hS.F ht⟩) hS.2.2 hdg hlocks))
/-- a heap that only grew holds what it held -/
theorem Wd.grow {H1 : Heap} (hW : Wd E base M ad H) (hk : ∀ q : Nat, q < H.size → H1[q]? = H[q]?) : Wd E base M ad H1 :=
  ⟨fun κ i h => ⟨(hW.1 κ i h).1, (hW.1 κ i h).2.kept rfl (hk _ (hW.1 κ i h).2.lt) fun _ => rfl⟩, hW.2.1, hW.2.2⟩
theorem e_throw (k : Nat) {own text : String} {ik is ic : Nat} (hx : p.tables.exec = Jvm.exec) (hb : c.code = cc) (hlt : l.stackTraces = false) (hown : s.vm.findClass own = some m.cls) (hts : ∀ w ∈ WSG, w.before args s = true) (hT : TB E base s s.heap)
    (hst : (own, is, text) ∈ ST) (hk : Cond.classLink own ik (exN k) ∈ WSG) (hini : Cond.initialized (exN k) ∈ WSG) (hat : ∀ w ∈ vx_atS own ic (exN k) EXN, w ∈ WSG ∨ w ∈ NG) (hgood : ∀ w ∈ Cond.classLink own ik (exN k) :: Cond.initialized (exN k) :: vx_atS own ic (exN k) EXN, vx_ot w = true) (hfit : Bundle.fit (exN k) = true)
    (d0 : decode cc pc = .ok (.new ik, 3)) (d3 : decode cc (pc + 3) = .ok (.dup, 1)) (d4 : decode cc (pc + 4) = .ok (.ldc is, 2)) (d6 : decode cc (pc + 6) = .ok (.invokespecial ic, 3)) (d9 : decode cc (pc + 9) = .ok (.athrow, 1))
    (hnx : ∀ x ∈ c.exceptionTable.toList, False) (hRf : 5 < R.frames) (hRl : (rest.map fun v => v.category).sum + 82 ≤ R.locals) (hRc : cells + 1 ≤ R.cells) (hRs : slots + 6 ≤ R.slots) (hlocks : meth.locks = false) (hsize : ls.size = c.maxLocals)
    (hW : Wd E base M ad H) (hS : va_S (fun q : Nat => base ≤ q) s.heap H locs) (hc : cells + 1 ≤ mc) (hs : slots + 6 ≤ ms) (hX : XP k M ad) :
    W p l e R s m args below meth c H locs cells slots (vx_MQ below Qc (XCo E base XP) args s mc ms (A0 base)) (F0 m pc ls rest) := by
  obtain ⟨sa, hsa⟩ := hT.2.2.1 _ hst
  refine vx_throwS (names := EXN) (A := fun q => base ≤ q) hx hb hlt hown hfit (by decide +kernel) (hts _ hk) (hts _ hini) hsa (fun w hw => ?_) hgood hT.2.2.2.1 hT.2.2.2.2.1 hS hsize d0 d3 d4 d6 d9 (fun x hx => (hnx x hx).elim) hRf hRl hRc hRs hlocks (fun t hvm hz hk => ?_) hS.2.2 hc hs
  · rcases hat w hw with h | h
    · exact hts w h
    · exact va_Nw.use (isMv_on (List.mem_filter.mp h).2) (hT.2.1 w h)
  · exact ⟨(k, M, ad), hX, ⟨rfl, hW.grow hk⟩, Nat.le_trans hS.1 hz, fun q h1 h2 => (hk q (Nat.lt_of_lt_of_le h1 hS.1)).trans (hS.2.1 q h1 h2)⟩
/-- thrown by a callee, not caught here -/
theorem kx_out {XP0 : Nat → Mem → AD → Prop} (hnx : ∀ x ∈ c.exceptionTable.toList, False) (hlocks : meth.locks = false) (hc : cells ≤ mc) (hs : slots ≤ ms) (hX : ∀ k M1 ad1, XP0 k M1 ad1 → XP k M1 ad1) :
    KX p l e R s m args below meth c cells slots (vx_MQ below Qc (XCo E base XP) args s mc ms (A0 base)) (F0 m pc ls rest) E base XP0 := fun k M1 ad1 q9 ce H1 locs1 h hW hS h1 h2 h3 =>
  vx_out (fun x hx => (hnx x hx).elim) hlocks h1 h2 h3 (fun t ht hvm => ⟨(k, M1, ad1), hX k M1 ad1 h, ⟨rfl, by rw [ht]; exact hW⟩, hS.F ht⟩) hS.2.2 hc hs
end ENDS
