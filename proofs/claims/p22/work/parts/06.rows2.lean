theorem mI_wI (M : Mem) (κ i k a b c : Nat) (v : Int32) : mI (wI M κ i k v) a b c = if a = κ ∧ b = i ∧ c = k then v else mI M a b c := rfl
theorem mL_wL (M : Mem) (κ i k a b c : Nat) (v : Int64) : mL (wL M κ i k v) a b c = if a = κ ∧ b = i ∧ c = k then v else mL M a b c := rfl
theorem mF_wF (M : Mem) (κ i k a b c : Nat) (v : Bool) : mF (wF M κ i k v) a b c = if a = κ ∧ b = i ∧ c = k then v else mF M a b c := rfl
theorem Wd_wI {E : GE} {base : Nat} {M : Mem} {ad : AD} {H H1 : Heap} {κ i k : Nat} {v : Int32} (h : Wd E base M ad H) (he : mE M κ i = true) (ho : oAt E (wI M κ i k v) ad H1 κ i) (oq : ∀ q : Nat, q ≠ ad κ i → H1[q]? = H[q]?) : Wd E base (wI M κ i k v) ad H1 :=
  h.put he (fun _ _ => rfl) (fun a b hc k2 => ⟨by rw [mI_wI]; exact if_neg (fun e => hc ⟨e.1, e.2.1⟩), rfl, rfl⟩) (fun k2 hk => h.2.2 κ i k2 he hk) ho oq
theorem Wd_wL {E : GE} {base : Nat} {M : Mem} {ad : AD} {H H1 : Heap} {κ i k : Nat} {v : Int64} (h : Wd E base M ad H) (he : mE M κ i = true) (ho : oAt E (wL M κ i k v) ad H1 κ i) (oq : ∀ q : Nat, q ≠ ad κ i → H1[q]? = H[q]?) : Wd E base (wL M κ i k v) ad H1 :=
  h.put he (fun _ _ => rfl) (fun a b hc k2 => ⟨rfl, by rw [mL_wL]; exact if_neg (fun e => hc ⟨e.1, e.2.1⟩), rfl⟩) (fun k2 hk => h.2.2 κ i k2 he hk) ho oq
theorem Wd_wF {E : GE} {base : Nat} {M : Mem} {ad : AD} {H H1 : Heap} {κ i k : Nat} {v : Bool} (h : Wd E base M ad H) (he : mE M κ i = true) (ht : v = true → mE M (kR κ i k).1 (kR κ i k).2 = true) (ho : oAt E (wF M κ i k v) ad H1 κ i) (oq : ∀ q : Nat, q ≠ ad κ i → H1[q]? = H[q]?) : Wd E base (wF M κ i k v) ad H1 :=
  h.put he (fun _ _ => rfl) (fun a b hc k2 => ⟨rfl, rfl, by rw [mF_wF]; exact if_neg (fun e => hc ⟨e.1, e.2.1⟩)⟩) (fun k2 hk => by
    rw [mF_wF] at hk
    by_cases hc : k2 = k
    · rw [if_pos ⟨rfl, rfl, hc⟩] at hk; rw [hc]; exact ht hk
    · rw [if_neg (fun e => hc e.2.2)] at hk; exact h.2.2 κ i k2 he hk) ho oq
theorem mV_wI {M : Mem} {ad : AD} {κ i k : Nat} {v : Int32} (ht : kT κ k = 0) : mV (wI M κ i k v) ad κ i = updV (mV M ad κ i) k (.int v) := by
  funext j
  unfold updV
  by_cases hj : j = k
  · rw [if_pos hj, hj, mV0 ht, mI_wI, if_pos ⟨rfl, rfl, rfl⟩]
  · rw [if_neg hj]
    exact mV_same (by rw [mI_wI, if_neg (fun e => hj e.2.2)]) rfl rfl
theorem mV_wL {M : Mem} {ad : AD} {κ i k : Nat} {v : Int64} (ht : kT κ k = 1) : mV (wL M κ i k v) ad κ i = updV (mV M ad κ i) k (.long v) := by
  funext j
  unfold updV
  by_cases hj : j = k
  · rw [if_pos hj, hj, mV1 ht, mL_wL, if_pos ⟨rfl, rfl, rfl⟩]
  · rw [if_neg hj]
    exact mV_same rfl (by rw [mL_wL, if_neg (fun e => hj e.2.2)]) rfl
theorem mV_wFt {M : Mem} {ad : AD} {κ i k κ2 i2 : Nat} (n : Nat) (ht : kT κ k = n + 2) (hr : kR κ i k = (κ2, i2)) : mV (wF M κ i k true) ad κ i = updV (mV M ad κ i) k (.ref (ad κ2 i2)) := by
  funext j
  unfold updV
  by_cases hj : j = k
  · rw [if_pos hj, hj, mV2 n ht, mF_wF]; simp [hr]
  · rw [if_neg hj]
    exact mV_same rfl rfl (by rw [mF_wF, if_neg (fun e => hj e.2.2)])
theorem mV_wFf {M : Mem} {ad : AD} {κ i k : Nat} (n : Nat) (ht : kT κ k = n + 2) : mV (wF M κ i k false) ad κ i = updV (mV M ad κ i) k .null := by
  funext j
  unfold updV
  by_cases hj : j = k
  · rw [if_pos hj, hj, mV2 n ht, mF_wF]; simp
  · rw [if_neg hj]
    exact mV_same rfl rfl (by rw [mF_wF, if_neg (fun e => hj e.2.2)])
theorem nar_z {v : Int32} (h : v = 0 ∨ v = 1) : narrow .boolean (.int v) = .int v ∧ fits .boolean (.int v) = true := by
  rcases h with rfl | rfl <;> exact ⟨by decide +kernel, by decide +kernel⟩
section ROWS2
variable {p : Program} {l : Launch} {e : Env} {R : Room} {s : State} {m : MethodId} {args : Array Value} {below : List Frame} {meth : Method} {c : Code} {H : Heap} {locs : List Loc} {cells slots : Nat} {Q : State → Prop}
variable {cc : ByteArray} {pc : Nat} {ls : Array Slot} {rest : List Value} {E : GE} {base : Nat} {M : Mem} {ad : AD} {κ i : Nat} {tys : List (ClassId × FieldType)} {Ts : List Cond} {own ref C : String} {T : u_T} {N index : Nat}
theorem r_putI {v : Int32} (hx : p.tables.exec = Jvm.exec) (hb : c.code = cc) (hts : ∀ w ∈ Ts, w.before args s = true) (hown : s.vm.findClass own = some m.cls) (hK : va_K (E.1, E.2.1) vwCl tys s) (hW : Wd E base M ad H) (hS0 : va_S (fun q : Nat => base ≤ q) s.heap H locs) (hC : Cls κ C T N Ts)
    (k : Nat) (hk : k < N) (hlink : (Cond.fieldLink own index ref (T k).2.1 (T k).2.2.1).before args s = true) (hsame : ∀ x, s.fieldFound? (T k).1 (T k).2.1 (T k).2.2.1 = some x → s.fieldFound? ref (T k).2.1 (T k).2.2.1 = some x)
    (hfin : (T k).2.2.2 = false) (hd : parseFieldDescriptor (T k).2.2.1 = some .int) (ht : kT κ k = 0) 
    (hex : mE M κ i = true) (hdg : decode cc pc = .ok (.putfield index, 3))
    (kk : ∀ (M1 : Mem) (H1 : Heap) (locs1 : List Loc), M1 = wI M κ i k v → Wd E base M1 ad H1 → va_S (fun q : Nat => base ≤ q) s.heap H1 locs1 → W p l e R s m args below meth c H1 locs1 cells slots Q (F0 m (pc + 3) ls rest)) : W p l e R s m args below meth c H locs cells slots Q (F0 m pc ls (.int v :: .ref (ad κ i) :: rest)) :=
  r_put0 hx hb hts hown hK hW hS0 hC k hk hlink hsame hfin hd rfl rfl hex (fun H1 => Wd_wI hW hex) (mV_wI ht) hdg (fun H1 locs1 h1 h2 => kk _ H1 locs1 rfl h1 h2)
theorem r_putZ {v : Int32} (hx : p.tables.exec = Jvm.exec) (hb : c.code = cc) (hts : ∀ w ∈ Ts, w.before args s = true) (hown : s.vm.findClass own = some m.cls) (hK : va_K (E.1, E.2.1) vwCl tys s) (hW : Wd E base M ad H) (hS0 : va_S (fun q : Nat => base ≤ q) s.heap H locs) (hC : Cls κ C T N Ts)
    (k : Nat) (hk : k < N) (hlink : (Cond.fieldLink own index ref (T k).2.1 (T k).2.2.1).before args s = true) (hsame : ∀ x, s.fieldFound? (T k).1 (T k).2.1 (T k).2.2.1 = some x → s.fieldFound? ref (T k).2.1 (T k).2.2.1 = some x)
    (hfin : (T k).2.2.2 = false) (hd : parseFieldDescriptor (T k).2.2.1 = some .boolean) (ht : kT κ k = 0) (hz : v = 0 ∨ v = 1)
    (hex : mE M κ i = true) (hdg : decode cc pc = .ok (.putfield index, 3))
    (kk : ∀ (M1 : Mem) (H1 : Heap) (locs1 : List Loc), M1 = wI M κ i k v → Wd E base M1 ad H1 → va_S (fun q : Nat => base ≤ q) s.heap H1 locs1 → W p l e R s m args below meth c H1 locs1 cells slots Q (F0 m (pc + 3) ls rest)) : W p l e R s m args below meth c H locs cells slots Q (F0 m pc ls (.int v :: .ref (ad κ i) :: rest)) :=
  r_put0 hx hb hts hown hK hW hS0 hC k hk hlink hsame hfin hd (nar_z hz).1 (nar_z hz).2 hex (fun H1 => Wd_wI hW hex) (mV_wI ht) hdg (fun H1 locs1 h1 h2 => kk _ H1 locs1 rfl h1 h2)
theorem r_putL {v : Int64} (hx : p.tables.exec = Jvm.exec) (hb : c.code = cc) (hts : ∀ w ∈ Ts, w.before args s = true) (hown : s.vm.findClass own = some m.cls) (hK : va_K (E.1, E.2.1) vwCl tys s) (hW : Wd E base M ad H) (hS0 : va_S (fun q : Nat => base ≤ q) s.heap H locs) (hC : Cls κ C T N Ts)
    (k : Nat) (hk : k < N) (hlink : (Cond.fieldLink own index ref (T k).2.1 (T k).2.2.1).before args s = true) (hsame : ∀ x, s.fieldFound? (T k).1 (T k).2.1 (T k).2.2.1 = some x → s.fieldFound? ref (T k).2.1 (T k).2.2.1 = some x)
    (hfin : (T k).2.2.2 = false) (hd : parseFieldDescriptor (T k).2.2.1 = some .long) (ht : kT κ k = 1) 
    (hex : mE M κ i = true) (hdg : decode cc pc = .ok (.putfield index, 3))
    (kk : ∀ (M1 : Mem) (H1 : Heap) (locs1 : List Loc), M1 = wL M κ i k v → Wd E base M1 ad H1 → va_S (fun q : Nat => base ≤ q) s.heap H1 locs1 → W p l e R s m args below meth c H1 locs1 cells slots Q (F0 m (pc + 3) ls rest)) : W p l e R s m args below meth c H locs cells slots Q (F0 m pc ls (.long v :: .ref (ad κ i) :: rest)) :=
  r_put0 hx hb hts hown hK hW hS0 hC k hk hlink hsame hfin hd rfl rfl hex (fun H1 => Wd_wL hW hex) (mV_wL ht) hdg (fun H1 locs1 h1 h2 => kk _ H1 locs1 rfl h1 h2)
theorem r_putR {κ2 i2 : Nat} {ty : FieldType} (hx : p.tables.exec = Jvm.exec) (hb : c.code = cc) (hts : ∀ w ∈ Ts, w.before args s = true) (hown : s.vm.findClass own = some m.cls) (hK : va_K (E.1, E.2.1) vwCl tys s) (hW : Wd E base M ad H) (hS0 : va_S (fun q : Nat => base ≤ q) s.heap H locs) (hC : Cls κ C T N Ts)
    (k : Nat) (hk : k < N) (hlink : (Cond.fieldLink own index ref (T k).2.1 (T k).2.2.1).before args s = true) (hsame : ∀ x, s.fieldFound? (T k).1 (T k).2.1 (T k).2.2.1 = some x → s.fieldFound? ref (T k).2.1 (T k).2.2.1 = some x)
    (hfin : (T k).2.2.2 = false) (hd : parseFieldDescriptor (T k).2.2.1 = some ty) (n : Nat) (ht : kT κ k = n + 2) (hr : kR κ i k = (κ2, i2)) (hn1 : narrow ty (.ref (ad κ2 i2)) = .ref (ad κ2 i2)) (hn2 : fits ty (.ref (ad κ2 i2)) = true) (hex2 : mE M κ2 i2 = true)
    (hex : mE M κ i = true) (hdg : decode cc pc = .ok (.putfield index, 3))
    (kk : ∀ (M1 : Mem) (H1 : Heap) (locs1 : List Loc), M1 = wF M κ i k true → Wd E base M1 ad H1 → va_S (fun q : Nat => base ≤ q) s.heap H1 locs1 → W p l e R s m args below meth c H1 locs1 cells slots Q (F0 m (pc + 3) ls rest)) : W p l e R s m args below meth c H locs cells slots Q (F0 m pc ls (.ref (ad κ2 i2) :: .ref (ad κ i) :: rest)) :=
  r_put0 hx hb hts hown hK hW hS0 hC k hk hlink hsame hfin hd hn1 hn2 hex (fun H1 => Wd_wF hW hex (fun _ => by rw [hr]; exact hex2)) (mV_wFt n ht hr) hdg (fun H1 locs1 h1 h2 => kk _ H1 locs1 rfl h1 h2)
theorem r_putFI {v : Int32} (hx : p.tables.exec = Jvm.exec) (hb : c.code = cc) (hts : ∀ w ∈ Ts, w.before args s = true) (hown : s.vm.findClass own = some m.cls) (hK : va_K (E.1, E.2.1) vwCl tys s) (hW : Wd E base M ad H) (hS0 : va_S (fun q : Nat => base ≤ q) s.heap H locs) (hC : Cls κ C T N Ts)
    (k : Nat) (hk : k < N) (hlink : (Cond.fieldLink own index ref (T k).2.1 (T k).2.2.1).before args s = true) (hsame : ∀ x, s.fieldFound? (T k).1 (T k).2.1 (T k).2.2.1 = some x → s.fieldFound? ref (T k).2.1 (T k).2.2.1 = some x)
    (hfin : (T k).2.2.2 = true) (hin2 : meth.name = "<init>") (hdecl : (T k).1 = own) (hd : parseFieldDescriptor (T k).2.2.1 = some .int) (ht : kT κ k = 0) 
    (hex : mE M κ i = true) (hdg : decode cc pc = .ok (.putfield index, 3))
    (kk : ∀ (M1 : Mem) (H1 : Heap) (locs1 : List Loc), M1 = wI M κ i k v → Wd E base M1 ad H1 → va_S (fun q : Nat => base ≤ q) s.heap H1 locs1 → W p l e R s m args below meth c H1 locs1 cells slots Q (F0 m (pc + 3) ls rest)) : W p l e R s m args below meth c H locs cells slots Q (F0 m pc ls (.int v :: .ref (ad κ i) :: rest)) :=
  r_putF0 hx hb hts hown hK hW hS0 hC k hk hlink hsame hfin hin2 hdecl hd rfl rfl hex (fun H1 => Wd_wI hW hex) (mV_wI ht) hdg (fun H1 locs1 h1 h2 => kk _ H1 locs1 rfl h1 h2)
theorem r_putFZ {v : Int32} (hx : p.tables.exec = Jvm.exec) (hb : c.code = cc) (hts : ∀ w ∈ Ts, w.before args s = true) (hown : s.vm.findClass own = some m.cls) (hK : va_K (E.1, E.2.1) vwCl tys s) (hW : Wd E base M ad H) (hS0 : va_S (fun q : Nat => base ≤ q) s.heap H locs) (hC : Cls κ C T N Ts)
    (k : Nat) (hk : k < N) (hlink : (Cond.fieldLink own index ref (T k).2.1 (T k).2.2.1).before args s = true) (hsame : ∀ x, s.fieldFound? (T k).1 (T k).2.1 (T k).2.2.1 = some x → s.fieldFound? ref (T k).2.1 (T k).2.2.1 = some x)
    (hfin : (T k).2.2.2 = true) (hin2 : meth.name = "<init>") (hdecl : (T k).1 = own) (hd : parseFieldDescriptor (T k).2.2.1 = some .boolean) (ht : kT κ k = 0) (hz : v = 0 ∨ v = 1)
    (hex : mE M κ i = true) (hdg : decode cc pc = .ok (.putfield index, 3))
    (kk : ∀ (M1 : Mem) (H1 : Heap) (locs1 : List Loc), M1 = wI M κ i k v → Wd E base M1 ad H1 → va_S (fun q : Nat => base ≤ q) s.heap H1 locs1 → W p l e R s m args below meth c H1 locs1 cells slots Q (F0 m (pc + 3) ls rest)) : W p l e R s m args below meth c H locs cells slots Q (F0 m pc ls (.int v :: .ref (ad κ i) :: rest)) :=
  r_putF0 hx hb hts hown hK hW hS0 hC k hk hlink hsame hfin hin2 hdecl hd (nar_z hz).1 (nar_z hz).2 hex (fun H1 => Wd_wI hW hex) (mV_wI ht) hdg (fun H1 locs1 h1 h2 => kk _ H1 locs1 rfl h1 h2)
theorem r_putFL {v : Int64} (hx : p.tables.exec = Jvm.exec) (hb : c.code = cc) (hts : ∀ w ∈ Ts, w.before args s = true) (hown : s.vm.findClass own = some m.cls) (hK : va_K (E.1, E.2.1) vwCl tys s) (hW : Wd E base M ad H) (hS0 : va_S (fun q : Nat => base ≤ q) s.heap H locs) (hC : Cls κ C T N Ts)
    (k : Nat) (hk : k < N) (hlink : (Cond.fieldLink own index ref (T k).2.1 (T k).2.2.1).before args s = true) (hsame : ∀ x, s.fieldFound? (T k).1 (T k).2.1 (T k).2.2.1 = some x → s.fieldFound? ref (T k).2.1 (T k).2.2.1 = some x)
    (hfin : (T k).2.2.2 = true) (hin2 : meth.name = "<init>") (hdecl : (T k).1 = own) (hd : parseFieldDescriptor (T k).2.2.1 = some .long) (ht : kT κ k = 1) 
    (hex : mE M κ i = true) (hdg : decode cc pc = .ok (.putfield index, 3))
    (kk : ∀ (M1 : Mem) (H1 : Heap) (locs1 : List Loc), M1 = wL M κ i k v → Wd E base M1 ad H1 → va_S (fun q : Nat => base ≤ q) s.heap H1 locs1 → W p l e R s m args below meth c H1 locs1 cells slots Q (F0 m (pc + 3) ls rest)) : W p l e R s m args below meth c H locs cells slots Q (F0 m pc ls (.long v :: .ref (ad κ i) :: rest)) :=
  r_putF0 hx hb hts hown hK hW hS0 hC k hk hlink hsame hfin hin2 hdecl hd rfl rfl hex (fun H1 => Wd_wL hW hex) (mV_wL ht) hdg (fun H1 locs1 h1 h2 => kk _ H1 locs1 rfl h1 h2)
theorem r_putFR {κ2 i2 : Nat} {ty : FieldType} (hx : p.tables.exec = Jvm.exec) (hb : c.code = cc) (hts : ∀ w ∈ Ts, w.before args s = true) (hown : s.vm.findClass own = some m.cls) (hK : va_K (E.1, E.2.1) vwCl tys s) (hW : Wd E base M ad H) (hS0 : va_S (fun q : Nat => base ≤ q) s.heap H locs) (hC : Cls κ C T N Ts)
    (k : Nat) (hk : k < N) (hlink : (Cond.fieldLink own index ref (T k).2.1 (T k).2.2.1).before args s = true) (hsame : ∀ x, s.fieldFound? (T k).1 (T k).2.1 (T k).2.2.1 = some x → s.fieldFound? ref (T k).2.1 (T k).2.2.1 = some x)
    (hfin : (T k).2.2.2 = true) (hin2 : meth.name = "<init>") (hdecl : (T k).1 = own) (hd : parseFieldDescriptor (T k).2.2.1 = some ty) (n : Nat) (ht : kT κ k = n + 2) (hr : kR κ i k = (κ2, i2)) (hn1 : narrow ty (.ref (ad κ2 i2)) = .ref (ad κ2 i2)) (hn2 : fits ty (.ref (ad κ2 i2)) = true) (hex2 : mE M κ2 i2 = true)
    (hex : mE M κ i = true) (hdg : decode cc pc = .ok (.putfield index, 3))
    (kk : ∀ (M1 : Mem) (H1 : Heap) (locs1 : List Loc), M1 = wF M κ i k true → Wd E base M1 ad H1 → va_S (fun q : Nat => base ≤ q) s.heap H1 locs1 → W p l e R s m args below meth c H1 locs1 cells slots Q (F0 m (pc + 3) ls rest)) : W p l e R s m args below meth c H locs cells slots Q (F0 m pc ls (.ref (ad κ2 i2) :: .ref (ad κ i) :: rest)) :=
  r_putF0 hx hb hts hown hK hW hS0 hC k hk hlink hsame hfin hin2 hdecl hd hn1 hn2 hex (fun H1 => Wd_wF hW hex (fun _ => by rw [hr]; exact hex2)) (mV_wFt n ht hr) hdg (fun H1 locs1 h1 h2 => kk _ H1 locs1 rfl h1 h2)

/-! arrays -/
theorem oAt_arr {E : GE} {M : Mem} {ad : AD} {H : Heap} {κ i : Nat} (h : oAt E M ad H κ i) (h6 : 6 ≤ κ) : H[ad κ i]? = some (arrV (E.2.2.1 (kA κ)) (kLen κ) (mV M ad κ i)) := by
  unfold oAt at h
  rw [if_neg (by omega)] at h
  exact h
def tys4 (E : GE) : List (ClassId × FieldType) := [(E.2.2.1 0, .int), (E.2.2.1 1, .long), (E.2.2.1 2, .int), (E.2.2.1 3, .object RX2)]
theorem r_alen {v : Int32} (hx : p.tables.exec = Jvm.exec) (hb : c.code = cc) (hK : va_K (E.1, E.2.1) vwCl (tys4 E) s) (hW : Wd E base M ad H) (h6 : 6 ≤ κ) (a : Nat) (ha : kA κ = a) (ty : FieldType) (ht : (tys4 E)[a]? = some (E.2.2.1 a, ty)) (hv : Int32.ofNat (kLen κ) = v) (hex : mE M κ i = true) (hdg : decode cc pc = .ok (.arraylength, 1))
    (kk : W p l e R s m args below meth c H locs cells slots Q (F0 m (pc + 1) ls (.int v :: rest))) : W p l e R s m args below meth c H locs cells slots Q (F0 m pc ls (.ref (ad κ i) :: rest)) := by
  have hc := oAt_arr (hW.1 κ i hex).2 h6
  subst ha
  subst hv
  refine W.alen (ty := ty) hx hb hc ((hK.2 _ _ ht).1 _ _) (by rw [arrV_size] <;> rfl) rfl rfl hdg kk

theorem r_iald (hx : p.tables.exec = Jvm.exec) (hb : c.code = cc) (hK : va_K (E.1, E.2.1) vwCl (tys4 E) s) (hW : Wd E base M ad H) (h6 : 6 ≤ κ) (ha : kA κ = 0) (ht : ∀ k, kT κ k = 0) (len : Nat) (hlen : kLen κ = len) {x : Int32} (hin : vp_in x len) (hex : mE M κ i = true) (hdg : decode cc pc = .ok (.iaload, 1))
    (kk : W p l e R s m args below meth c H locs cells slots Q (F0 m (pc + 1) ls (.int (mI M κ i x.toNatClampNeg) :: rest))) : W p l e R s m args below meth c H locs cells slots Q (F0 m pc ls (.int x :: .ref (ad κ i) :: rest)) := by
  have hc := oAt_arr (hW.1 κ i hex).2 h6
  subst hlen
  have hlt : x.toNatClampNeg < kLen κ := Nat.not_le.mp fun q => hin (Or.inr q)
  exact W.iald (v := .int (mI M κ i x.toNatClampNeg)) hx hb hc (by rw [ha]; exact (hK.2 0 _ rfl).1 _ _) (fun q => by cases q) (by show ¬ (x < 0 ∨ (arrV _ _ _).slots.size ≤ _); rw [arrV_size]; exact hin) (by show (arrV _ _ _).slots[_]? = _; rw [arrV_read _ _ hlt, mV0 (ht _)]) rfl rfl hdg kk
theorem r_iast (hx : p.tables.exec = Jvm.exec) (hb : c.code = cc) (hK : va_K (E.1, E.2.1) vwCl (tys4 E) s) (hW : Wd E base M ad H) (hS : va_S (fun q : Nat => base ≤ q) s.heap H locs) (h6 : 6 ≤ κ) (ha : kA κ = 0) (ht : ∀ k, kT κ k = 0) (len : Nat) (hlen : kLen κ = len) {x : Int32} {v : Int32}  (hin : vp_in x len) (hex : mE M κ i = true) (hdg : decode cc pc = .ok (.iastore, 1))
    (kk : ∀ (M1 : Mem) (H1 : Heap) (locs1 : List Loc), M1 = wI M κ i x.toNatClampNeg v → Wd E base M1 ad H1 → va_S (fun q : Nat => base ≤ q) s.heap H1 locs1 → W p l e R s m args below meth c H1 locs1 cells slots Q (F0 m (pc + 1) ls rest)) : W p l e R s m args below meth c H locs cells slots Q (F0 m pc ls (.int v :: .int x :: .ref (ad κ i) :: rest)) := by
  have hc := oAt_arr (hW.1 κ i hex).2 h6
  subst hlen
  refine W.iast hx hb hc (by rw [ha]; exact (hK.2 0 _ rfl).1 _ _) (fun q => by cases q) (by show ¬ (x < 0 ∨ (arrV _ _ _).slots.size ≤ _); rw [arrV_size]; exact hin) rfl rfl hdg fun H1 e1 z oq => ?_
  refine kk _ H1 _ rfl (Wd_wI hW hex ?_ oq) (hS.put z oq (hW.1 κ i hex).1)
  unfold oAt
  rw [if_neg (by omega), mV_wI (ht _), e1, arrV_store]

theorem r_lald (hx : p.tables.exec = Jvm.exec) (hb : c.code = cc) (hK : va_K (E.1, E.2.1) vwCl (tys4 E) s) (hW : Wd E base M ad H) (h6 : 6 ≤ κ) (ha : kA κ = 1) (ht : ∀ k, kT κ k = 1) (len : Nat) (hlen : kLen κ = len) {x : Int32} (hin : vp_in x len) (hex : mE M κ i = true) (hdg : decode cc pc = .ok (.laload, 1))
    (kk : W p l e R s m args below meth c H locs cells slots Q (F0 m (pc + 1) ls (.long (mL M κ i x.toNatClampNeg) :: rest))) : W p l e R s m args below meth c H locs cells slots Q (F0 m pc ls (.int x :: .ref (ad κ i) :: rest)) := by
  have hc := oAt_arr (hW.1 κ i hex).2 h6
  subst hlen
  have hlt : x.toNatClampNeg < kLen κ := Nat.not_le.mp fun q => hin (Or.inr q)
  exact W.lald (v := .long (mL M κ i x.toNatClampNeg)) hx hb hc (by rw [ha]; exact (hK.2 1 _ rfl).1 _ _) (fun q => by cases q) (by show ¬ (x < 0 ∨ (arrV _ _ _).slots.size ≤ _); rw [arrV_size]; exact hin) (by show (arrV _ _ _).slots[_]? = _; rw [arrV_read _ _ hlt, mV1 (ht _)]) rfl rfl hdg kk
theorem r_last (hx : p.tables.exec = Jvm.exec) (hb : c.code = cc) (hK : va_K (E.1, E.2.1) vwCl (tys4 E) s) (hW : Wd E base M ad H) (hS : va_S (fun q : Nat => base ≤ q) s.heap H locs) (h6 : 6 ≤ κ) (ha : kA κ = 1) (ht : ∀ k, kT κ k = 1) (len : Nat) (hlen : kLen κ = len) {x : Int32} {v : Int64}  (hin : vp_in x len) (hex : mE M κ i = true) (hdg : decode cc pc = .ok (.lastore, 1))
    (kk : ∀ (M1 : Mem) (H1 : Heap) (locs1 : List Loc), M1 = wL M κ i x.toNatClampNeg v → Wd E base M1 ad H1 → va_S (fun q : Nat => base ≤ q) s.heap H1 locs1 → W p l e R s m args below meth c H1 locs1 cells slots Q (F0 m (pc + 1) ls rest)) : W p l e R s m args below meth c H locs cells slots Q (F0 m pc ls (.long v :: .int x :: .ref (ad κ i) :: rest)) := by
  have hc := oAt_arr (hW.1 κ i hex).2 h6
  subst hlen
  refine W.last hx hb hc (by rw [ha]; exact (hK.2 1 _ rfl).1 _ _) (fun q => by cases q) (by show ¬ (x < 0 ∨ (arrV _ _ _).slots.size ≤ _); rw [arrV_size]; exact hin) rfl rfl hdg fun H1 e1 z oq => ?_
  refine kk _ H1 _ rfl (Wd_wL hW hex ?_ oq) (hS.put z oq (hW.1 κ i hex).1)
  unfold oAt
  rw [if_neg (by omega), mV_wL (ht _), e1, arrV_store]

theorem r_aald (hx : p.tables.exec = Jvm.exec) (hb : c.code = cc) (hK : va_K (E.1, E.2.1) vwCl (tys4 E) s) (hW : Wd E base M ad H) {x : Int32} (hin : vp_in x 6) (hex : mE M 10 i = true) (hdg : decode cc pc = .ok (.aaload, 1))
    (kt : mF M 10 i x.toNatClampNeg = true → W p l e R s m args below meth c H locs cells slots Q (F0 m (pc + 1) ls (.ref (ad 2 x.toNatClampNeg) :: rest))) (kn : mF M 10 i x.toNatClampNeg = false → W p l e R s m args below meth c H locs cells slots Q (F0 m (pc + 1) ls (.null :: rest))) : W p l e R s m args below meth c H locs cells slots Q (F0 m pc ls (.int x :: .ref (ad 10 i) :: rest)) := by
  have hc := oAt_arr (hW.1 10 i hex).2 (by omega)
  have hlt : x.toNatClampNeg < kLen 10 := Nat.not_le.mp fun q => hin (Or.inr q)
  have hv : mV M ad 10 i x.toNatClampNeg = if mF M 10 i x.toNatClampNeg = true then .ref (ad 2 x.toNatClampNeg) else .null := mV2 2 rfl
  refine W.aald (v := mV M ad 10 i x.toNatClampNeg) (ty := .object RX2) hx hb hc ((hK.2 3 _ rfl).1 _ _) rfl (fun q => by cases q) (by show ¬ (x < 0 ∨ (arrV _ _ _).slots.size ≤ _); rw [arrV_size]; exact hin) (by show (arrV _ _ _).slots[_]? = _; rw [arrV_read _ _ hlt]) rfl rfl hdg ?_
  rw [hv]
  by_cases hf : mF M 10 i x.toNatClampNeg = true
  · rw [if_pos hf]; exact kt hf
  · rw [if_neg hf]; exact kn (by simpa using hf)
theorem r_aast (hx : p.tables.exec = Jvm.exec) (hb : c.code = cc) (hK : va_K (E.1, E.2.1) vwCl (tys4 E) s) (hW : Wd E base M ad H) (hS : va_S (fun q : Nat => base ≤ q) s.heap H locs) {x : Int32} {j : Nat} (hin : vp_in x 6) (hj : j = x.toNatClampNeg) (hex : mE M 10 i = true) (hex2 : mE M 2 j = true) (hdg : decode cc pc = .ok (.aastore, 1))
    (kk : ∀ (M1 : Mem) (H1 : Heap) (locs1 : List Loc), M1 = wF M 10 i x.toNatClampNeg true → Wd E base M1 ad H1 → va_S (fun q : Nat => base ≤ q) s.heap H1 locs1 → W p l e R s m args below meth c H1 locs1 cells slots Q (F0 m (pc + 1) ls rest)) : W p l e R s m args below meth c H locs cells slots Q (F0 m pc ls (.ref (ad 2 j) :: .int x :: .ref (ad 10 i) :: rest)) := by
  have hc := oAt_arr (hW.1 10 i hex).2 (by omega)
  have hlt : x.toNatClampNeg < kLen 10 := Nat.not_le.mp fun q => hin (Or.inr q)
  have h0 : ¬ x < 0 := fun q => hin (Or.inl q)
  have ho := (hW.1 2 j hex2).2
  unfold oAt at ho
  rw [if_pos (by decide)] at ho
  obtain ⟨cellV, g1, g2, g3, -⟩ := ho
  have hcls := (hK.1 2 _ rfl).2
  obtain ⟨kA', comp, k1, k2, k3, -⟩ := (hK.2 3 _ rfl).2
  have hcomp : comp = E.1 2 := Option.some.inj (k3.symm.trans hcls.1)
  subst hcomp
  obtain ⟨kC, hkC, -⟩ := hcls.2
  refine W.aast hx hb hc (fun q h => by cases h) (fun h => by cases h) k1 k2 rfl hkC ⟨h0, by show _ < (arrV _ _ _).slots.size; rw [arrV_size]; exact hlt⟩ g1 (fun q h => by rw [g3] at h; cases h) (by rw [g2]; exact hkC) (by rw [g2]; exact va_assign hcls) rfl rfl hdg fun H1 e1 z oq => ?_
  refine kk _ H1 _ rfl (Wd_wF hW hex (fun _ => by show mE M 2 _ = true; rw [← hj]; exact hex2) ?_ oq) (hS.put z oq (hW.1 10 i hex).1)
  unfold oAt
  rw [if_neg (by decide), mV_wFt (κ2 := 2) (i2 := x.toNatClampNeg) 2 rfl rfl, e1, arrV_store, hj]
theorem r_aastN (hx : p.tables.exec = Jvm.exec) (hb : c.code = cc) (hK : va_K (E.1, E.2.1) vwCl (tys4 E) s) (hW : Wd E base M ad H) (hS : va_S (fun q : Nat => base ≤ q) s.heap H locs) {x : Int32} (hin : vp_in x 6) (hex : mE M 10 i = true) (hdg : decode cc pc = .ok (.aastore, 1))
    (kk : ∀ (M1 : Mem) (H1 : Heap) (locs1 : List Loc), M1 = wF M 10 i x.toNatClampNeg false → Wd E base M1 ad H1 → va_S (fun q : Nat => base ≤ q) s.heap H1 locs1 → W p l e R s m args below meth c H1 locs1 cells slots Q (F0 m (pc + 1) ls rest)) : W p l e R s m args below meth c H locs cells slots Q (F0 m pc ls (.null :: .int x :: .ref (ad 10 i) :: rest)) := by
  have hc := oAt_arr (hW.1 10 i hex).2 (by omega)
  intro T hT X
  subst hT
  have hin' : ¬ (x < 0 ∨ (arrV (E.2.2.1 (kA 10)) (kLen 10) (mV M ad 10 i)).slots.size ≤ x.toNatClampNeg) := by rw [arrV_size]; exact hin
  obtain ⟨X', st⟩ := va_aastN0 X hx hc ((hK.2 3 _ rfl).1 _ _) (fun q => by cases q) hin' (g := F0 m pc ls (.null :: .int x :: .ref (ad 10 i) :: rest)) rfl rfl (by rw [hb]; exact hdg)
  have hlt : ad 10 i < T.heap.size := (Array.getElem?_eq_some_iff.mp hc).1
  obtain ⟨t, a1, b1⟩ := kk (wF M 10 i x.toNatClampNeg false) (T.setCell (ad 10 i) ((arrV (E.2.2.1 (kA 10)) (kLen 10) (mV M ad 10 i)).setSlot x.toNatClampNeg .null)).heap _ rfl (Wd_wF hW hex (fun h => by cases h) (by
    unfold oAt
    rw [if_neg (by decide), mV_wFf 2 rfl, heapAt_setCell_self _ hlt, arrV_store]) (fun q hq => heapAt_setCell_ne _ (Ne.symm hq))) (hS.put (by rw [size_setCell]) (fun q hq => heapAt_setCell_ne _ (Ne.symm hq)) (hW.1 10 i hex).1) _ rfl X'
  exact ⟨t, st t a1, b1⟩
/-! new cells -/
def upA (ad : AD) (κ i q : Nat) : AD := fun a b => if a = κ ∧ b = i then q else ad a b
theorem r_new {dv : Nat → Value} (hx : p.tables.exec = Jvm.exec) (hb : c.code = cc) (hts : ∀ w ∈ Ts, w.before args s = true) (hown : s.vm.findClass own = some m.cls) (hcl : (Cond.classLink own index C).before args s = true) (hinst : (Cond.instantiable C N).before args s = true) (hini : (Cond.initialized C).before args s = true)
    (hK : va_K (E.1, E.2.1) vwCl tys s) (hW : Wd E base M ad H) (hS : va_S (fun q : Nat => base ≤ q) s.heap H locs) (hbase : base ≤ s.heap.size) (hC : Cls κ C T N Ts) (ty : Nat → FieldType) (hty : ∀ k, k < N → parseFieldDescriptor (T k).2.2.1 = some (ty k)) (hdv : ∀ k, k < N → defaultValue (ty k) = (if kT κ k = 0 then .int 0 else if kT κ k = 1 then .long 0 else .null))
    (hcells : cells + 1 ≤ R.cells) (hslots : slots + N ≤ R.slots) (hex : mE M κ i = false) (hdg : decode cc pc = .ok (.new index, 3))
    (kk : ∀ (q : Nat) (M1 : Mem) (ad1 : AD) (H1 : Heap), M1 = wN M κ i → ad1 = upA ad κ i q → Wd E base M1 ad1 H1 → va_S (fun q : Nat => base ≤ q) s.heap H1 locs →
      W p l e R s m args below meth c H1 locs (cells + 1) (slots + N) Q (F0 m (pc + 3) ls (.ref (ad1 κ i) :: rest))) : W p l e R s m args below meth c H locs cells slots Q (F0 m pc ls rest) := by
  obtain ⟨h6, hc, hN, hin, -, -⟩ := hC
  have hKn := hK.1 κ _ hc
  refine W.newcK hx hb hown hcl hinst hini rfl hdg hcells hslots hKn.2.1 rfl fun H1 kC hkC e1 z1 o1 => ?_
  have hA : base ≤ H.size := Nat.le_trans hbase hS.1
  have K := kk H.size (wN M κ i) (upA ad κ i H.size) H1 rfl rfl (hW.new hex rfl hA o1 ?_) ⟨Nat.le_trans hS.1 (by omega), fun x h1 h2 => (o1 x (Nat.lt_of_lt_of_le h1 hS.1)).trans (hS.2.1 x h1 h2), hS.2.2⟩
  · rw [show upA ad κ i H.size κ i = H.size by simp [upA]] at K
    exact K
  · unfold oAt
    rw [if_pos h6]
    simp only [and_self, if_true]
    subst hN
    refine (u_born ty hts hin hKn hkC e1 hty).to fun k hk => ?_
    rw [hdv k hk]
    unfold mV
    have e3 : mF (wN M κ i) κ i k = false := by simp [mF, wN]
    have e4 : mI (wN M κ i) κ i k = 0 := by simp [mI, wN]
    have e5 : mL (wN M κ i) κ i k = 0 := by simp [mL, wN]
    rw [e3, e4, e5]
    generalize kT κ k = z
    rcases z with _ | _ | z <;> simp
theorem r_newa {n : Int32} {a : Nat} (hx : p.tables.exec = Jvm.exec) (hb : c.code = cc) (atype : ArrayType) (harr : (Cond.arrayClass (newarray.typeOf atype)).before args s = true) (hK : va_K (E.1, E.2.1) vwCl (tys4 E) s) (hW : Wd E base M ad H) (hS : va_S (fun q : Nat => base ≤ q) s.heap H locs) (hbase : base ≤ s.heap.size)
    (h6 : 6 ≤ κ) (ha : kA κ = a) (hty : (tys4 E)[a]? = some (E.2.2.1 a, newarray.typeOf atype)) (hnm : va_RA s (E.2.2.1 a) (newarray.typeOf atype) → s.vm.findClass ("[" ++ (newarray.typeOf atype).toString) = some (E.2.2.1 a)) (dv : Value) (hdv : defaultValue (newarray.typeOf atype) = dv) (ht : ∀ k, (kT κ k = 0 ∧ dv = .int 0) ∨ (kT κ k = 1 ∧ dv = .long 0)) (len : Nat) (hlen : kLen κ = len) (hn : ¬ n < 0) (hN : n.toNatClampNeg = len) (hbytes : len * componentBytes (newarray.typeOf atype) ≤ 536870912)
    (hcells : cells + 1 ≤ R.cells) (hslots : slots + len ≤ R.slots) (hex : mE M κ i = false) (hdg : decode cc pc = .ok (.newarray atype, 2))
    (kk : ∀ (q : Nat) (M1 : Mem) (ad1 : AD) (H1 : Heap), M1 = wN M κ i → ad1 = upA ad κ i q → Wd E base M1 ad1 H1 → va_S (fun q : Nat => base ≤ q) s.heap H1 locs →
      W p l e R s m args below meth c H1 locs (cells + 1) (slots + len) Q (F0 m (pc + 2) ls (.ref (ad1 κ i) :: rest))) : W p l e R s m args below meth c H locs cells slots Q (F0 m pc ls (.int n :: rest)) := by
  refine va_newaK hx hb harr rfl hdg rfl hn hN hbytes hcells hslots rfl fun H1 cA e1 z1 o1 hAr hNm => ?_
  have hA : base ≤ H.size := Nat.le_trans hbase hS.1
  have hcA : cA = E.2.2.1 a := Option.some.inj (hNm.symm.trans (hnm (hK.2 a _ hty).2))
  have K := kk H.size (wN M κ i) (upA ad κ i H.size) H1 rfl rfl (hW.new hex rfl hA o1 ?_) ⟨Nat.le_trans hS.1 (by omega), fun x h1 h2 => (o1 x (Nat.lt_of_lt_of_le h1 hS.1)).trans (hS.2.1 x h1 h2), hS.2.2⟩
  · rw [show upA ad κ i H.size κ i = H.size by simp [upA]] at K
    exact K
  · unfold oAt
    rw [if_neg (by omega), ha, hlen]
    simp only [and_self, if_true]
    rw [e1, hcA, hdv]
    congr 2
    funext k
    have e4 : mI (wN M κ i) κ i k = 0 := by simp [mI, wN]
    have e5 : mL (wN M κ i) κ i k = 0 := by simp [mL, wN]
    rcases ht k with ⟨h1, h2⟩ | ⟨h1, h2⟩
    · rw [mV0 h1, e4, h2]
    · rw [mV1 h1, e5, h2]
theorem r_newq {n : Int32} (hx : p.tables.exec = Jvm.exec) (hb : c.code = cc) (hown : s.vm.findClass own = some m.cls) (hclink : (Cond.classLink own index RX2).before args s = true) (hover : va_AO RX2 s) (hK : va_K (E.1, E.2.1) vwCl (tys4 E) s) (hW : Wd E base M ad H) (hS : va_S (fun q : Nat => base ≤ q) s.heap H locs) (hbase : base ≤ s.heap.size)
    (hn : ¬ n < 0) (hN : n.toNatClampNeg = 6) (hcells : cells + 1 ≤ R.cells) (hslots : slots + 6 ≤ R.slots) (hex : mE M 10 i = false) (hdg : decode cc pc = .ok (.anewarray index, 3))
    (kk : ∀ (q : Nat) (M1 : Mem) (ad1 : AD) (H1 : Heap), M1 = wN M 10 i → ad1 = upA ad 10 i q → Wd E base M1 ad1 H1 → va_S (fun q : Nat => base ≤ q) s.heap H1 locs →
      W p l e R s m args below meth c H1 locs (cells + 1) (slots + 6) Q (F0 m (pc + 3) ls (.ref (ad1 10 i) :: rest))) : W p l e R s m args below meth c H locs cells slots Q (F0 m pc ls (.int n :: rest)) := by
  refine W.anew hx hb hown hclink (va_AO.use hover) rfl hdg rfl hn (by rw [hN]; decide) hcells (by rw [hN]; exact hslots) fun cA kA' comp f1 f2 f3 f4 => ?_
  rw [hN]
  generalize hH1 : H.push ({ cls := cA, slots := Array.replicate 6 .null, vm := .none } : Cell) = H1
  have z1 : H1.size = H.size + 1 := by rw [← hH1, Array.size_push]
  have e1 : H1[H.size]? = some (arrV cA 6 (fun _ => .null)) := by rw [← hH1, Array.getElem?_push_size, ← arrV_new]
  have o1 : ∀ q : Nat, q < H.size → H1[q]? = H[q]? := fun q hq => by rw [← hH1, Array.getElem?_push, if_neg (Nat.ne_of_lt hq)]
  have hA : base ≤ H.size := Nat.le_trans hbase hS.1
  obtain ⟨_, _, _, _, _, k4⟩ := (hK.2 3 _ rfl).2
  have hcA : cA = E.2.2.1 3 := Option.some.inj (f1.symm.trans k4)
  have K := kk H.size (wN M 10 i) (upA ad 10 i H.size) H1 rfl rfl (hW.new hex rfl hA o1 ?_) ⟨Nat.le_trans hS.1 (by omega), fun x h1 h2 => (o1 x (Nat.lt_of_lt_of_le h1 hS.1)).trans (hS.2.1 x h1 h2), hS.2.2⟩
  · rw [show upA ad 10 i H.size 10 i = H.size by simp [upA]] at K
    exact K
  · unfold oAt
    rw [if_neg (by decide)]
    simp only [and_self, if_true]
    rw [e1, hcA]
    show some (arrV (E.2.2.1 3) 6 _) = some (arrV (E.2.2.1 3) 6 _)
    congr 2
    funext k
    rw [mV2 2 rfl, show mF (wN M 10 i) 10 i k = false by simp [mF, wN]]
    simp
theorem r_acmp_eq {i1 i2 : Nat} (hx : p.tables.exec = Jvm.exec) (hb : c.code = cc) (hW : Wd E base M ad H) {off : Int} {tgt : Nat} (h1 : mE M κ i1 = true) (h2 : mE M κ i2 = true) (hdg : decode cc pc = .ok (.if_acmp .eq off, 3)) (ht : (pc : Int) + off = (tgt : Int))
    (kt : i1 = i2 → W p l e R s m args below meth c H locs cells slots Q (F0 m tgt ls rest)) (kf : ¬ i1 = i2 → W p l e R s m args below meth c H locs cells slots Q (F0 m (pc + 3) ls rest)) : W p l e R s m args below meth c H locs cells slots Q (F0 m pc ls (.ref (ad κ i2) :: .ref (ad κ i1) :: rest)) :=
  lv_acmp_eq (rx := some (ad κ i1)) (ry := some (ad κ i2)) hx hb hdg ht (fun q => kt (hW.2.1 κ i1 κ i2 h1 h2 (Option.some.inj q)).2) (fun q => kf fun z => q (by rw [z]))
theorem r_acmp_ne {i1 i2 : Nat} (hx : p.tables.exec = Jvm.exec) (hb : c.code = cc) (hW : Wd E base M ad H) {off : Int} {tgt : Nat} (h1 : mE M κ i1 = true) (h2 : mE M κ i2 = true) (hdg : decode cc pc = .ok (.if_acmp .ne off, 3)) (ht : (pc : Int) + off = (tgt : Int))
    (kt : ¬ i1 = i2 → W p l e R s m args below meth c H locs cells slots Q (F0 m tgt ls rest)) (kf : i1 = i2 → W p l e R s m args below meth c H locs cells slots Q (F0 m (pc + 3) ls rest)) : W p l e R s m args below meth c H locs cells slots Q (F0 m pc ls (.ref (ad κ i2) :: .ref (ad κ i1) :: rest)) :=
  lv_acmp_ne (rx := some (ad κ i1)) (ry := some (ad κ i2)) hx hb hdg ht (fun q => kt fun z => q (by rw [z])) (fun q => kf (hW.2.1 κ i1 κ i2 h1 h2 (Option.some.inj q)).2)
end ROWS2
