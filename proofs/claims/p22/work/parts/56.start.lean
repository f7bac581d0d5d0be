theorem flags_traces {l : Launch} (h : l.flags = flags0) : l.stackTraces = false := by
  unfold Launch.stackTraces
  rw [h]
  decide +kernel
theorem arr_known {s : State} {args : Array Value} {ty : FieldType} (h : (Cond.arrayClass ty).before args s = true) (hr : ∀ cA, va_RA s cA ty ↔ s.vm.findClass ("[" ++ ty.toString) = some cA) (hty : ty.isReference = false) : ∃ cA : ClassId, ArrOfT s cA ty ∧ va_RA s cA ty := by
  obtain ⟨cA, kA, comp, h1, h2, h3⟩ := Cond.arrayClass_spec h
  exact ⟨cA, fun n z => ⟨fun k h => (by cases h), kA, h2, comp, h3⟩, (hr cA).mpr h1⟩
theorem tb_start {s : State} {args : Array Value} {b L : Nat} {xs : Nat → Int32} (hts : ∀ w ∈ lw_tbl, w.before args s = true) (hgv : (Jvm.Cond.and given_1 narrow_1).before args s = true) (hX : va_X b L xs s s.heap) (hbl : b < s.heap.size) : ∃ E : GE, sB E = b ∧ sL E = L ∧ sX E = xs ∧ TB E s.heap.size s s.heap := by
  have hs := flat_of_before _ hgv
  have hw : ∀ w ∈ WSG, w.before args s = true := fun w h => hts w (List.mem_filter.mp h).1
  obtain ⟨c0, i0, h0⟩ := u_known (C := RX0) (T := TX0) (N := 4) (n := 4) hw clX0.2.2.2.1 (hw _ (memW (by decide +kernel) (by decide +kernel)))
  obtain ⟨c1, i1, h1⟩ := u_known (C := RX1) (T := TX1) (N := 3) (n := 3) hw clX1.2.2.2.1 (hw _ (memW (by decide +kernel) (by decide +kernel)))
  obtain ⟨c2, i2, h2⟩ := u_known (C := RX2) (T := TX2) (N := 14) (n := 14) hw clX2.2.2.2.1 (hw _ (memW (by decide +kernel) (by decide +kernel)))
  obtain ⟨c3, i3, h3⟩ := u_known (C := RX3) (T := TX3) (N := 3) (n := 3) hw clX3.2.2.2.1 (hw _ (memW (by decide +kernel) (by decide +kernel)))
  obtain ⟨c4, i4, h4⟩ := u_known (C := RX4) (T := TX4) (N := 5) (n := 5) hw clX4.2.2.2.1 (hw _ (memW (by decide +kernel) (by decide +kernel)))
  obtain ⟨a0, a0a, a0b⟩ := arr_known (ty := .int) (hw _ (memW (by decide +kernel) (by decide +kernel))) (fun _ => Iff.rfl) rfl
  obtain ⟨a1, a1a, a1b⟩ := arr_known (ty := .long) (hw _ (memW (by decide +kernel) (by decide +kernel))) (fun _ => Iff.rfl) rfl
  have hao : (Cond.arrayOver (.object RX2)).before args s = true := hts _ (by decide +kernel)
  obtain ⟨comp, a3, k3, f1, -, f3, f4, f5⟩ := Cond.arrayOver_spec hao
  have hcur : s.vm.findClass RX4 = some c4 := h4.2.1
  refine ⟨(fun k => match k with | 0 => c0 | 1 => c1 | 2 => c2 | 3 => c3 | _ => c4, fun k => match k with | 0 => i0 | 1 => i1 | 2 => i2 | 3 => i3 | _ => i4, fun k => match k with | 0 => a0 | 1 => a1 | 2 => a0 | _ => a3, (b, L, xs)), rfl, rfl, rfl, ⟨fun k q hq => ?_, fun k q hq => ?_⟩, fun w hw' => va_Nw.of (isMv_on (List.mem_filter.mp hw').2) (hts w (List.mem_filter.mp hw').1), fun x hx => ?_, ?_, ?_, va_AO.of hao, ⟨hX, hbl⟩, Nat.le_refl _⟩
  · match k, hq with
    | 0, hq => cases hq; exact h0
    | 1, hq => cases hq; exact h1
    | 2, hq => cases hq; exact h2
    | 3, hq => cases hq; exact h3
    | 4, hq => cases hq; exact h4
    | k + 5, hq => simp [vwCl] at hq
  · match k, hq with
    | 0, hq => cases hq; exact ⟨a0a, a0b⟩
    | 1, hq => cases hq; exact ⟨a1a, a1b⟩
    | 2, hq => cases hq; exact ⟨a0a, a0b⟩
    | 3, hq => cases hq; exact ⟨fun N z => ⟨(fun k h => by cases h), k3, f3, comp, f4⟩, k3, comp, f3, f4, f1, f5⟩
    | k + 4, hq => simp [tys4] at hq
  · have hx2 : (Cond.stringRef x.1 x.2.1 x.2.2).before args s = true := by
      revert hx
      simp only [ST, List.mem_cons, List.not_mem_nil, or_false]
      rintro (rfl | rfl | rfl | rfl | rfl | rfl) <;> exact hts _ (by decide +kernel)
    have hx1 : x.1 = RX4 := by
      revert hx
      simp only [ST, List.mem_cons, List.not_mem_nil, or_false]
      rintro (rfl | rfl | rfl | rfl | rfl | rfl) <;> rfl
    obtain ⟨_, _, _, a, -, -, -, -, -, he⟩ := Cond.stringRef_spec (by rw [hx1]; exact hcur) hx2
    exact ⟨a, vk_R.of hx2 he⟩
  · exact vx_Zqof (by first | exact hs _ (by decide +kernel) | exact hts _ (by decide +kernel)) (hw _ (memW (by decide +kernel) (by decide +kernel))) (by first | exact hs _ (by decide +kernel) | exact hts _ (by decide +kernel)) (fun a ha => Nat.not_le.mpr ha)
  · exact vx_Zqof (by first | exact hs _ (by decide +kernel) | exact hts _ (by decide +kernel)) (hw _ (memW (by decide +kernel) (by decide +kernel))) (by first | exact hs _ (by decide +kernel) | exact hts _ (by decide +kernel)) (fun a ha => Nat.not_le.mpr ha)
theorem whole_start {p : Program} {e : Env} {s : State} {m : MethodId} {below : List Frame} {meth : Method} {c : Code} (l : Launch) (hflags : l.flags = flags0) {b L : Nat} {xs : Nat → Int32} (hL : L ≤ 260) (C0 : lw_At p s m meth c b L xs) : W p l e room_1 s m #[Value.ref b] below meth c s.heap [] 0 0 (lw_Z below #[Value.ref b] s) (entryFrame m ([Value.ref b] : List Value).toArray 8) := by
  obtain ⟨hx, hb, hr, hml, hown, hts, hX, hbl, hlocks, hgv⟩ := C0
  obtain ⟨E, rfl, rfl, rfl, hT⟩ := tb_start hts hgv hX hbl
  have hl := lv_entry ([.ref (sB E)]) (n := 8) (Nat.le_of_ble_eq_true rfl)
  rw [lg_entry_eq]
  exact law_walk l (flags_traces hflags) E s.heap.size rfl hx hb hr hml hown (fun w h => hts w (List.mem_filter.mp h).1) hlocks hT M00 (fun _ _ => 0) ⟨fun _ _ h => (by cases h), fun _ _ _ _ h => (by cases h), fun _ _ _ h => (by cases h)⟩ _ _ (fun _ _ h => h) (fun _ _ h => h) (pure_law (sL E) (sX E) hL) _ hl
