/-! reads and writes of the memory, as rows -/
theorem mV0 {M : Mem} {ad : AD} {κ i k : Nat} (h : kT κ k = 0) : mV M ad κ i k = .int (mI M κ i k) := by simp only [mV, h]
theorem mV1 {M : Mem} {ad : AD} {κ i k : Nat} (h : kT κ k = 1) : mV M ad κ i k = .long (mL M κ i k) := by simp only [mV, h]
theorem mV2 {M : Mem} {ad : AD} {κ i k : Nat} (n : Nat) (h : kT κ k = n + 2) : mV M ad κ i k = if mF M κ i k = true then .ref (ad (kR κ i k).1 (kR κ i k).2) else .null := by simp only [mV, h]
/-- what is known of a class of ours: its row of vwCl, its words -/
def Cls (κ : Nat) (C : String) (T : u_T) (N : Nat) (Ts : List Cond) : Prop := κ < 6 ∧ vwCl[κ]? = some (C, T, N) ∧ kN κ = N ∧ (∀ w ∈ u_ws C T N, w ∈ Ts) ∧ (∀ a, a < N → ∀ b, b < N → a ≠ b → (T a).2.1 ≠ (T b).2.1) ∧ ∃ ty : Nat → FieldType, ∀ k, k < N → parseFieldDescriptor (T k).2.2.1 = some (ty k)
section ROWS
variable {p : Program} {l : Launch} {e : Env} {R : Room} {s : State} {m : MethodId} {args : Array Value} {below : List Frame} {meth : Method} {c : Code} {H : Heap} {locs : List Loc} {cells slots : Nat} {Q : State → Prop}
variable {cc : ByteArray} {pc : Nat} {ls : Array Slot} {rest : List Value} {E : GE} {base : Nat} {M : Mem} {ad : AD} {κ i : Nat} {tys : List (ClassId × FieldType)} {Ts : List Cond} {own ref C : String} {T : u_T} {N index : Nat}
theorem r_get (hx : p.tables.exec = Jvm.exec) (hb : c.code = cc) (hts : ∀ w ∈ Ts, w.before args s = true) (hown : s.vm.findClass own = some m.cls) (hK : va_K (E.1, E.2.1) vwCl tys s) (hW : Wd E base M ad H) (hC : Cls κ C T N Ts)
    (k : Nat) (hk : k < N) (hlink : (Cond.fieldLink own index ref (T k).2.1 (T k).2.2.1).before args s = true) (hsame : ∀ x, s.fieldFound? (T k).1 (T k).2.1 (T k).2.2.1 = some x → s.fieldFound? ref (T k).2.1 (T k).2.2.1 = some x)
    (hex : mE M κ i = true) (hdg : decode cc pc = .ok (.getfield index, 3))
    (kk : W p l e R s m args below meth c H locs cells slots Q (F0 m (pc + 3) ls (mV M ad κ i k :: rest))) : W p l e R s m args below meth c H locs cells slots Q (F0 m pc ls (.ref (ad κ i) :: rest)) := by
  obtain ⟨h6, hc, hN, hin, -, -⟩ := hC
  have ho := (hW.1 κ i hex).2
  unfold oAt at ho
  rw [if_pos h6] at ho
  obtain ⟨cell, q1, q2, q3, q4⟩ := ho
  obtain ⟨hS, hfc, kC, hkC, hkind⟩ := hK.1 κ _ hc
  obtain ⟨cf, kf, fi, f, hi, hsl⟩ := hS k hk
  refine W.getf hx hb hown hlink (hsame _ hi) (u_facts hfc hkC (u_lays hts hin hk) hi).1 q1 (by rw [q3]; exact fun h => by cases h) (v := mV M ad κ i k) ?_ rfl rfl hdg kk
  rw [hsl]
  exact q4 k (by omega)
theorem r_getI (hx : p.tables.exec = Jvm.exec) (hb : c.code = cc) (hts : ∀ w ∈ Ts, w.before args s = true) (hown : s.vm.findClass own = some m.cls) (hK : va_K (E.1, E.2.1) vwCl tys s) (hW : Wd E base M ad H) (hC : Cls κ C T N Ts)
    (k : Nat) (hk : k < N) (hlink : (Cond.fieldLink own index ref (T k).2.1 (T k).2.2.1).before args s = true) (hsame : ∀ x, s.fieldFound? (T k).1 (T k).2.1 (T k).2.2.1 = some x → s.fieldFound? ref (T k).2.1 (T k).2.2.1 = some x) (ht : kT κ k = 0)
    (hex : mE M κ i = true) (hdg : decode cc pc = .ok (.getfield index, 3))
    (kk : W p l e R s m args below meth c H locs cells slots Q (F0 m (pc + 3) ls (.int (mI M κ i k) :: rest))) : W p l e R s m args below meth c H locs cells slots Q (F0 m pc ls (.ref (ad κ i) :: rest)) :=
  r_get hx hb hts hown hK hW hC k hk hlink hsame hex hdg (by rw [mV0 ht]; exact kk)
theorem r_getL (hx : p.tables.exec = Jvm.exec) (hb : c.code = cc) (hts : ∀ w ∈ Ts, w.before args s = true) (hown : s.vm.findClass own = some m.cls) (hK : va_K (E.1, E.2.1) vwCl tys s) (hW : Wd E base M ad H) (hC : Cls κ C T N Ts)
    (k : Nat) (hk : k < N) (hlink : (Cond.fieldLink own index ref (T k).2.1 (T k).2.2.1).before args s = true) (hsame : ∀ x, s.fieldFound? (T k).1 (T k).2.1 (T k).2.2.1 = some x → s.fieldFound? ref (T k).2.1 (T k).2.2.1 = some x) (ht : kT κ k = 1)
    (hex : mE M κ i = true) (hdg : decode cc pc = .ok (.getfield index, 3))
    (kk : W p l e R s m args below meth c H locs cells slots Q (F0 m (pc + 3) ls (.long (mL M κ i k) :: rest))) : W p l e R s m args below meth c H locs cells slots Q (F0 m pc ls (.ref (ad κ i) :: rest)) :=
  r_get hx hb hts hown hK hW hC k hk hlink hsame hex hdg (by rw [mV1 ht]; exact kk)
theorem r_getR {κ2 i2 : Nat} (hx : p.tables.exec = Jvm.exec) (hb : c.code = cc) (hts : ∀ w ∈ Ts, w.before args s = true) (hown : s.vm.findClass own = some m.cls) (hK : va_K (E.1, E.2.1) vwCl tys s) (hW : Wd E base M ad H) (hC : Cls κ C T N Ts)
    (k : Nat) (hk : k < N) (hlink : (Cond.fieldLink own index ref (T k).2.1 (T k).2.2.1).before args s = true) (hsame : ∀ x, s.fieldFound? (T k).1 (T k).2.1 (T k).2.2.1 = some x → s.fieldFound? ref (T k).2.1 (T k).2.2.1 = some x) (n : Nat) (ht : kT κ k = n + 2) (hr : kR κ i k = (κ2, i2))
    (hex : mE M κ i = true) (hfl : mF M κ i k = true) (hdg : decode cc pc = .ok (.getfield index, 3))
    (kk : W p l e R s m args below meth c H locs cells slots Q (F0 m (pc + 3) ls (.ref (ad κ2 i2) :: rest))) : W p l e R s m args below meth c H locs cells slots Q (F0 m pc ls (.ref (ad κ i) :: rest)) :=
  r_get hx hb hts hown hK hW hC k hk hlink hsame hex hdg (by rw [mV2 n ht, if_pos hfl, hr]; exact kk)
/-- a place of an object is written -/
theorem r_put0 {M1 : Mem} {v : Value} {ty : FieldType} (hx : p.tables.exec = Jvm.exec) (hb : c.code = cc) (hts : ∀ w ∈ Ts, w.before args s = true) (hown : s.vm.findClass own = some m.cls) (hK : va_K (E.1, E.2.1) vwCl tys s) (hW : Wd E base M ad H) (hS0 : va_S (fun q : Nat => base ≤ q) s.heap H locs) (hC : Cls κ C T N Ts)
    (k : Nat) (hk : k < N) (hlink : (Cond.fieldLink own index ref (T k).2.1 (T k).2.2.1).before args s = true) (hsame : ∀ x, s.fieldFound? (T k).1 (T k).2.1 (T k).2.2.1 = some x → s.fieldFound? ref (T k).2.1 (T k).2.2.1 = some x)
    (hfin : (T k).2.2.2 = false) (hd : parseFieldDescriptor (T k).2.2.1 = some ty) (hn : narrow ty v = v) (hfit : fits ty v = true)
    (hex : mE M κ i = true) (hM1 : ∀ H1 : Heap, oAt E M1 ad H1 κ i → (∀ q : Nat, q ≠ ad κ i → H1[q]? = H[q]?) → Wd E base M1 ad H1) (hv : mV M1 ad κ i = updV (mV M ad κ i) k v)
    (hdg : decode cc pc = .ok (.putfield index, 3))
    (kk : ∀ (H1 : Heap) (locs1 : List Loc), Wd E base M1 ad H1 → va_S (fun q : Nat => base ≤ q) s.heap H1 locs1 → W p l e R s m args below meth c H1 locs1 cells slots Q (F0 m (pc + 3) ls rest)) : W p l e R s m args below meth c H locs cells slots Q (F0 m pc ls (v :: .ref (ad κ i) :: rest)) := by
  obtain ⟨h6, hc, hN, hin, hnm, ty0, hty⟩ := hC
  have ho := (hW.1 κ i hex).2
  unfold oAt at ho
  rw [if_pos h6] at ho
  obtain ⟨cell, q1, q2, q3, q4⟩ := ho
  have hap := va_apart (own := own) hts hin ty0 hty hnm hK hc
  obtain ⟨hS, hfc, kC, hkC, hkind⟩ := hK.1 κ _ hc
  obtain ⟨cf, kf, fi, f, hi, hsl⟩ := hS k hk
  have hlay := hts _ (hin _ (u_in_lay hk))
  unfold u_lay at hlay
  rw [if_neg (by rw [hfin]; decide)] at hlay
  have hst := (u_facts hfc hkC (u_lays hts hin hk) hi).1
  have h6' := u_store hfc hkC hkind hlay hi hd hn hfit
  subst hN
  refine W.putK hx hb (f := f) ⟨hown, hlink, ⟨_, _, _, hsame _ hi⟩, hst⟩ (by rw [q2]; exact h6') q1 q3 (by rw [hsl]; exact k2_hasslot (q4 k hk)) rfl rfl hdg fun H' e1 e2 e3 => ?_
  rw [hsl] at e1 ⊢
  refine kk H' _ (hM1 H' ?_ e3) (hS0.put e2 e3 (hW.1 κ i hex).1)
  unfold oAt
  rw [if_pos h6, hv]
  exact ⟨_, e1, q2, q3, t_set q4 hap hk v⟩
/-- .. a final one, in a constructor -/
theorem r_putF0 {M1 : Mem} {v : Value} {ty : FieldType} (hx : p.tables.exec = Jvm.exec) (hb : c.code = cc) (hts : ∀ w ∈ Ts, w.before args s = true) (hown : s.vm.findClass own = some m.cls) (hK : va_K (E.1, E.2.1) vwCl tys s) (hW : Wd E base M ad H) (hS0 : va_S (fun q : Nat => base ≤ q) s.heap H locs) (hC : Cls κ C T N Ts)
    (k : Nat) (hk : k < N) (hlink : (Cond.fieldLink own index ref (T k).2.1 (T k).2.2.1).before args s = true) (hsame : ∀ x, s.fieldFound? (T k).1 (T k).2.1 (T k).2.2.1 = some x → s.fieldFound? ref (T k).2.1 (T k).2.2.1 = some x)
    (hfin : (T k).2.2.2 = true) (hin2 : meth.name = "<init>") (hdecl : (T k).1 = own) (hd : parseFieldDescriptor (T k).2.2.1 = some ty) (hn : narrow ty v = v) (hfit : fits ty v = true)
    (hex : mE M κ i = true) (hM1 : ∀ H1 : Heap, oAt E M1 ad H1 κ i → (∀ q : Nat, q ≠ ad κ i → H1[q]? = H[q]?) → Wd E base M1 ad H1) (hv : mV M1 ad κ i = updV (mV M ad κ i) k v)
    (hdg : decode cc pc = .ok (.putfield index, 3))
    (kk : ∀ (H1 : Heap) (locs1 : List Loc), Wd E base M1 ad H1 → va_S (fun q : Nat => base ≤ q) s.heap H1 locs1 → W p l e R s m args below meth c H1 locs1 cells slots Q (F0 m (pc + 3) ls rest)) : W p l e R s m args below meth c H locs cells slots Q (F0 m pc ls (v :: .ref (ad κ i) :: rest)) := by
  obtain ⟨h6, hc, hN, hin, hnm, ty0, hty⟩ := hC
  have ho := (hW.1 κ i hex).2
  unfold oAt at ho
  rw [if_pos h6] at ho
  obtain ⟨cell, q1, q2, q3, q4⟩ := ho
  have hap := va_apart (own := own) hts hin ty0 hty hnm hK hc
  obtain ⟨hS, hfc, kC, hkC, hkind⟩ := hK.1 κ _ hc
  obtain ⟨cf, kf, fi, f, hi, hsl⟩ := hS k hk
  have hlay := hts _ (hin _ (u_in_lay hk))
  unfold u_lay at hlay
  rw [if_pos hfin] at hlay
  have hst := (u_facts hfc hkC (u_lays hts hin hk) hi).1
  have hcf : m.cls = cf := by
    obtain ⟨_, _, c', _, _, _, -, -, hf', -, -, -, hown2, -⟩ := Cond.laysFinal_spec hlay
    have e1 : c' = cf := by have := hi.symm.trans hf'; simp at this; exact this.1.symm
    rw [hdecl] at hown2
    rw [← e1]; exact Option.some.inj (hown.symm.trans hown2)
  have h6' := u_fits hfc hkC hkind (Or.inr hlay) hi hd hn hfit
  subst hN
  refine W.putFinK hx hb hown hlink (hsame _ hi) hst hcf hin2 (by rw [q2]; exact h6') q1 q3 (by rw [hsl]; exact k2_hasslot (q4 k hk)) rfl rfl hdg fun H' e1 e2 e3 => ?_
  rw [hsl] at e1 ⊢
  refine kk H' _ (hM1 H' ?_ e3) (hS0.put e2 e3 (hW.1 κ i hex).1)
  unfold oAt
  rw [if_pos h6, hv]
  exact ⟨_, e1, q2, q3, t_set q4 hap hk v⟩
end ROWS
