/-! what holds at the law's entry -/
theorem av_int {args : Array Value} {s : State} {ty : FieldType} (h : (Cond.arrayClass ty).before args s = true) : ∃ cA : ClassId, ArrOfT s cA ty ∧ s.vm.findClass ("[" ++ ty.toString) = some cA := by
  obtain ⟨cA, kA, comp, h1, h2, h3⟩ := Cond.arrayClass_spec h
  exact ⟨cA, fun n z => ⟨fun k h => (by cases h), kA, h2, comp, h3⟩, h1⟩
theorem av_obj {args : Array Value} {s : State} {C : String} (h : (Cond.arrayOver (.object C)).before args s = true) : ∃ cA : ClassId, ArrOfT s cA (.object C) ∧ va_RA s cA (.object C) := by
  obtain ⟨comp, c, k, h1, h2, h3, h4, h5⟩ := Cond.arrayOver_spec h
  exact ⟨c, fun n z => ⟨fun k h => (by cases h), k, h3, comp, h4⟩, k, comp, h3, h4, h1, h5⟩
theorem mem_lw {i : Nat} {w : Cond} (h : lw_tbl[i]? = some w) : w ∈ lw_tbl := List.mem_of_getElem? h
def dgv : List Cond := flatC (Jvm.Cond.and given_1 narrow_1)
theorem gv_1 : ∀ w, w < 3 → (Cond.arrayOf (.static "DiskDrawer" (dsn w) "[I") .int) ∈ dgv ∧ (Cond.eq (.length (.static "DiskDrawer" (dsn w) "[I")) (.int (Int32.ofNat 10))) ∈ dgv := by decide +kernel
theorem gv_2 : ∀ w, w < 3 → ∀ j, j < 10 → (Cond.eq (.elem (.static "DiskDrawer" (dsn w) "[I") (.int (Int32.ofNat j))) (.int (dcst w j))) ∈ dgv := by decide +kernel
theorem gv_3 : ∀ w, w < 3 → (Cond.laysStatic "DiskDrawer" (dsn w) "[I") ∈ lw_tbl := by decide +kernel
theorem gv_10 : ∀ ci, ci < 6 → (Cond.instantiable (don ci) (dnf ci)) ∈ lw_tbl := by decide +kernel
theorem env0 {args : Array Value} {s : State} {b L : Nat} {xs : Nat → Int32} (hts : ∀ w ∈ lw_tbl, w.before args s = true) (hgv : (Jvm.Cond.and given_1 narrow_1).before args s = true) (hX : va_X b L xs s s.heap) (hbl : b < s.heap.size) :
    ∃ (D : va_G) (ca : Nat → ClassId) (T : Nat → Nat), dAO s ∧ ∀ ad : DKey → Nat, (∀ w, ad (32, w, 0) = T w) → ad (34, 0, 0) = b → dEnv D ad ca .null xs L (fun q => s.heap.size ≤ q) s := by
  have hs : ∀ w ∈ dgv, w.before args s = true := flat_of_before _ hgv
  have hA : ∀ a : Nat, a < s.heap.size → ¬ s.heap.size ≤ a := fun a h => by omega
  have kn : ∀ ci : Nat, ∃ q : ClassId × (Nat → Nat), ci < 6 → u_Kn s (don ci) (dTX ci) (dnf ci) q.1 q.2 := by
    intro ci
    by_cases hci : ci < 6
    · obtain ⟨cC, iS, h⟩ := u_known hts (fun w hw => (dWd_good w (duw hci w hw)).1) (hts _ (gv_10 ci hci))
      exact ⟨(cC, iS), fun _ => h⟩
    · exact ⟨(0, fun _ => 0), fun h => absurd h hci⟩
  obtain ⟨fD, hD⟩ := Classical.axiomOfChoice kn
  obtain ⟨c0, a0, b0⟩ := av_int (hts (.arrayClass .int) (mem_lw (i := 79) (by decide +kernel)))
  obtain ⟨c4, a4, b4⟩ := av_int (hts (.arrayClass .char) (mem_lw (i := 202) (by decide +kernel)))
  have o1 := hts (.arrayOver (.object "DiskDrawer$Disk")) (mem_lw (i := 39) (by decide +kernel))
  have o2 := hts (.arrayOver (.object "DiskDrawer$Read")) (mem_lw (i := 41) (by decide +kernel))
  have o3 := hts (.arrayOver (.object "DiskDrawer$State")) (mem_lw (i := 166) (by decide +kernel))
  obtain ⟨c1, a1, b1⟩ := av_obj o1
  obtain ⟨c2, a2, b2⟩ := av_obj o2
  obtain ⟨c3, a3, b3⟩ := av_obj o3
  have st : ∀ w : Nat, ∃ t : Nat, w < 3 → va_Z "DiskDrawer" (dsn w) "[I" (.ref t) (fun q => s.heap.size ≤ q) s s.heap ∧ va_T .int t 10 (fun j => .int (dcst w j)) (fun q => s.heap.size ≤ q) s s.heap := by
    intro w
    by_cases hw : w < 3
    · obtain ⟨t, ht, hT⟩ := va_Tof (args := args) (f := fun j => .int (dcst w j)) (A := fun q => s.heap.size ≤ q) (by decide) (hs _ (gv_1 w hw).1) (va_eqt (hs _ (gv_1 w hw).2)) (fun j hj => va_eqt (hs _ (gv_2 w hw j hj))) hA
      exact ⟨t, fun _ => ⟨va_Zref (hts _ (gv_3 w hw)) (hts (.initialized "DiskDrawer") (mem_lw (i := 17) (by decide +kernel))) ht hA, hT⟩⟩
    · exact ⟨0, fun h => absurd h hw⟩
  obtain ⟨T, hT⟩ := Classical.axiomOfChoice st
  refine ⟨(fun c => (fD c).1, fun c => (fD c).2), (fun t => match t with | 0 => c0 | 1 => c1 | 2 => c2 | 3 => c3 | _ => c4), T, ⟨va_AO.of o1, va_AO.of o2, va_AO.of o3⟩, fun ad e32 e34 => ⟨⟨fun c q hq => ?_, fun k q hk => ?_⟩, fun w hw => ?_, fun w hw => ?_, ?_, ?_, ?_⟩⟩
  · have hc : c < 6 := (List.getElem?_eq_some_iff.mp hq).1
    cases hq.symm.trans (dcl_at hc)
    exact hD c hc
  · match k, hk with
    | 0, hk => cases hk; exact ⟨a0, b0⟩
    | 1, hk => cases hk; exact ⟨a1, b1⟩
    | 2, hk => cases hk; exact ⟨a2, b2⟩
    | 3, hk => cases hk; exact ⟨a3, b3⟩
    | 4, hk => cases hk; exact ⟨a4, b4⟩
    | k + 5, hk => cases hk
  · have h1 := hts _ (List.mem_filter.mp hw).1
    rcases dNest_cases hw with ⟨_, _, _, _, _, _, rfl⟩ | ⟨_, _, _, _, rfl⟩
    · exact va_Nw.of rfl h1
    · exact va_Nw.of rfl h1
  · rw [e32]
    exact hT w hw
  · rw [e34]; exact hX
  · rw [e34]; exact hbl
  · rw [e34]; exact hA b hbl
