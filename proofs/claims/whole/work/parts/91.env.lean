/-! what holds at the law's entry -/
theorem av_int {args : Array Value} {s : State} {ty : FieldType} (h : (Cond.arrayClass ty).before args s = true) : ∃ cA : ClassId, ArrOfT s cA ty ∧ s.vm.findClass ("[" ++ ty.toString) = some cA := by
  obtain ⟨cA, kA, comp, h1, h2, h3⟩ := Cond.arrayClass_spec h
  exact ⟨cA, fun n z => ⟨fun k h => (by cases h), kA, h2, comp, h3⟩, h1⟩
theorem av_obj {args : Array Value} {s : State} {C : String} (h : (Cond.arrayOver (.object C)).before args s = true) : ∃ cA : ClassId, ArrOfT s cA (.object C) ∧ va_RA s cA (.object C) := by
  obtain ⟨comp, c, k, h1, h2, h3, h4, h5⟩ := Cond.arrayOver_spec h
  exact ⟨c, fun n z => ⟨fun k h => (by cases h), k, h3, comp, h4⟩, k, comp, h3, h4, h1, h5⟩
theorem mem_lw {i : Nat} {w : Cond} (h : lw_tbl[i]? = some w) : w ∈ lw_tbl := List.mem_of_getElem? h
def dbl : List (List Int32) := [[114, 101, 97, 100], [102, 97, 105, 108], [114, 117, 110], [102, 117, 115, 101]]
def dstm (w : Nat) : Term := .string "DiskDrawer$Program" (dsx w)
def dgv : List Cond := flatC (Jvm.Cond.and given_1 narrow_1)
theorem gv_1 : ∀ w, w < 3 → (Cond.arrayOf (.static "DiskDrawer" (dsn w) "[I") .int) ∈ dgv ∧ (Cond.eq (.length (.static "DiskDrawer" (dsn w) "[I")) (.int (Int32.ofNat 10))) ∈ dgv := by decide +kernel
theorem gv_2 : ∀ w, w < 3 → ∀ j, j < 10 → (Cond.eq (.elem (.static "DiskDrawer" (dsn w) "[I") (.int (Int32.ofNat j))) (.int (dcst w j))) ∈ dgv := by decide +kernel
theorem gv_3 : ∀ w, w < 3 → (Cond.laysStatic "DiskDrawer" (dsn w) "[I") ∈ lw_tbl := by decide +kernel
theorem gv_4 : (Cond.eq (.static "java/lang/String" "COMPACT_STRINGS" "Z") (.int 1)) ∈ dgv ∧ (Cond.isRef (.static "jdk/internal/util/Preconditions" "SIOOBE_FORMATTER" "Ljava/util/function/BiFunction;")) ∈ dgv := by decide +kernel
theorem gv_5 : (Cond.laysStatic "java/lang/String" "COMPACT_STRINGS" "Z") ∈ lw_tbl ∧ (Cond.laysStatic "jdk/internal/util/Preconditions" "SIOOBE_FORMATTER" "Ljava/util/function/BiFunction;") ∈ lw_tbl := by decide +kernel
theorem gv_6 : ∀ w, w < 4 → (Cond.exactly (dstm w) "java/lang/String") ∈ dgv ∧ (Cond.eq (.field (dstm w) "java/lang/String" "coder" "B") (.int 0)) ∈ dgv ∧ (Cond.arrayOf (.field (dstm w) "java/lang/String" "value" "[B") .byte) ∈ dgv ∧ (Cond.eq (.length (.field (dstm w) "java/lang/String" "value" "[B")) (.int (Int32.ofNat (([4, 4, 3, 4] : List Nat).getD w 0)))) ∈ dgv := by decide +kernel
theorem gv_7 : ∀ w, w < 4 → ∀ j, j < ([4, 4, 3, 4] : List Nat).getD w 0 → (Cond.eq (.elem (.field (dstm w) "java/lang/String" "value" "[B") (.int (Int32.ofNat j))) (.int ((dbl.getD w []).getD j 0))) ∈ dgv := by decide +kernel
theorem gv_8 : ∀ i, i < 4 → ∀ j, j < 4 → i ≠ j → (Cond.not (Cond.eq (dstm i) (dstm j))) ∈ dgv ∨ (Cond.not (Cond.eq (dstm j) (dstm i))) ∈ dgv := by decide +kernel
theorem gv_9 : ∀ w, w < 4 → (Cond.stringRef "DiskDrawer$Program" (dsx w) (dstx w)) ∈ lw_tbl := by decide +kernel
theorem gv_10 : ∀ ci, ci < 7 → (Cond.instantiable (don ci) (dnf ci)) ∈ lw_tbl := by decide +kernel
theorem env0 {args : Array Value} {s : State} {b L : Nat} {xs : Nat → Int32} (hts : ∀ w ∈ lw_tbl, w.before args s = true) (hgv : (Jvm.Cond.and given_1 narrow_1).before args s = true) (hX : va_X b L xs s s.heap) (hbl : b < s.heap.size) :
    ∃ (D : va_G) (ca : Nat → ClassId) (fm : Value) (T K V : Nat → Nat), dFm fm ∧ dAO s ∧ ∀ ad : DKey → Nat, (∀ w, ad (30, w, 0) = K w) → (∀ w, ad (31, w, 0) = V w) → (∀ w, ad (32, w, 0) = T w) → ad (34, 0, 0) = b → dEnv D ad ca fm xs L (fun q => s.heap.size ≤ q) s := by
  have hs : ∀ w ∈ dgv, w.before args s = true := flat_of_before _ hgv
  have hA : ∀ a : Nat, a < s.heap.size → ¬ s.heap.size ≤ a := fun a h => by omega
  have kn : ∀ ci : Nat, ∃ q : ClassId × (Nat → Nat), ci < 7 → u_Kn s (don ci) (dTX ci) (dnf ci) q.1 q.2 := by
    intro ci
    by_cases hci : ci < 7
    · obtain ⟨cC, iS, h⟩ := u_known hts (fun w hw => (dWd_good w (duw hci w hw)).1) (hts _ (gv_10 ci hci))
      exact ⟨(cC, iS), fun _ => h⟩
    · exact ⟨(0, fun _ => 0), fun h => absurd h hci⟩
  obtain ⟨fD, hD⟩ := Classical.axiomOfChoice kn
  obtain ⟨c0, a0, b0⟩ := av_int (hts (.arrayClass .int) (mem_lw (i := 129) (by decide +kernel)))
  obtain ⟨c4, a4, b4⟩ := av_int (hts (.arrayClass .char) (mem_lw (i := 260) (by decide +kernel)))
  obtain ⟨c5, a5, b5⟩ := av_int (hts (.arrayClass .boolean) (mem_lw (i := 716) (by decide +kernel)))
  have o1 := hts (.arrayOver (.object "DiskDrawer$Disk")) (mem_lw (i := 89) (by decide +kernel))
  have o2 := hts (.arrayOver (.object "DiskDrawer$Read")) (mem_lw (i := 91) (by decide +kernel))
  have o3 := hts (.arrayOver (.object "DiskDrawer$State")) (mem_lw (i := 217) (by decide +kernel))
  obtain ⟨c1, a1, b1⟩ := av_obj o1
  obtain ⟨c2, a2, b2⟩ := av_obj o2
  obtain ⟨c3, a3, b3⟩ := av_obj o3
  have st : ∀ w : Nat, ∃ t : Nat, w < 3 → va_Z "DiskDrawer" (dsn w) "[I" (.ref t) (fun q => s.heap.size ≤ q) s s.heap ∧ va_T .int t 10 (fun j => .int (dcst w j)) (fun q => s.heap.size ≤ q) s s.heap := by
    intro w
    by_cases hw : w < 3
    · obtain ⟨t, ht, hT⟩ := va_Tof (args := args) (f := fun j => .int (dcst w j)) (A := fun q => s.heap.size ≤ q) (by decide) (hs _ (gv_1 w hw).1) (va_eqt (hs _ (gv_1 w hw).2)) (fun j hj => va_eqt (hs _ (gv_2 w hw j hj))) hA
      exact ⟨t, fun _ => ⟨va_Zref (hts _ (gv_3 w hw)) (hts (.initialized "DiskDrawer") (mem_lw (i := 62) (by decide +kernel))) ht hA, hT⟩⟩
    · exact ⟨0, fun h => absurd h hw⟩
  obtain ⟨T, hT⟩ := Classical.axiomOfChoice st
  have hcs := va_Zof (A := fun q => s.heap.size ≤ q) (hts _ gv_5.1) (hts (.initialized "java/lang/String") (mem_lw (i := 70) (by decide +kernel))) (va_eqt (hs _ gv_4.1)) hA
  have hfm : ∃ fm : Value, dFm fm ∧ va_Z "jdk/internal/util/Preconditions" "SIOOBE_FORMATTER" "Ljava/util/function/BiFunction;" fm (fun q => s.heap.size ≤ q) s s.heap := by
    rcases va_Zqof (A := fun q => s.heap.size ≤ q) (hts _ gv_5.2) (hts (.initialized "jdk/internal/util/Preconditions") (mem_lw (i := 72) (by decide +kernel))) (hs _ gv_4.2) hA with h | ⟨t, h⟩
    · exact ⟨_, Or.inl rfl, h⟩
    · exact ⟨_, Or.inr ⟨t, rfl⟩, h⟩
  obtain ⟨fm, hfm1, hfm2⟩ := hfm
  obtain ⟨K, V, hKV, hev⟩ := vk_Sof (args := args) (s := s) (N := 4) (tm := dstm) (len := [4, 4, 3, 4]) (byt := dbl) (A := fun q => s.heap.size ≤ q) (by decide) (fun i hi => hs _ (gv_6 i hi).1) (fun i hi => hs _ (gv_6 i hi).2.1) (fun i hi => hs _ (gv_6 i hi).2.2.1) (fun i hi => hs _ (gv_6 i hi).2.2.2) (fun i hi j hj => hs _ (gv_7 i hi j hj)) (fun i j hi hj hne => by
    rcases gv_8 i hi j hj hne with h | h
    · exact Or.inl (hs _ h)
    · exact Or.inr (hs _ h)) hA
  refine ⟨(fun c => (fD c).1, fun c => (fD c).2), (fun t => match t with | 0 => c0 | 1 => c1 | 2 => c2 | 3 => c3 | 4 => c4 | _ => c5), fm, T, K, V, hfm1, ⟨va_AO.of o1, va_AO.of o2, va_AO.of o3⟩, fun ad e30 e31 e32 e34 => ⟨⟨fun c q hq => ?_, fun k q hk => ?_⟩, fun w hw => ?_, fun w hw => ?_, hcs, hfm2, fun w hw => ?_, ?_, ?_, ?_, ?_⟩⟩
  · have hc : c < 7 := (List.getElem?_eq_some_iff.mp hq).1
    cases hq.symm.trans (dcl_at hc)
    exact hD c hc
  · match k, hk with
    | 0, hk => cases hk; exact ⟨a0, b0⟩
    | 1, hk => cases hk; exact ⟨a1, b1⟩
    | 2, hk => cases hk; exact ⟨a2, b2⟩
    | 3, hk => cases hk; exact ⟨a3, b3⟩
    | 4, hk => cases hk; exact ⟨a4, b4⟩
    | 5, hk => cases hk; exact ⟨a5, b5⟩
    | k + 6, hk => cases hk
  · have h1 := hts _ (List.mem_filter.mp hw).1
    rcases dNest_cases hw with ⟨_, _, _, _, _, _, rfl⟩ | ⟨_, _, _, _, rfl⟩
    · exact va_Nw.of rfl h1
    · exact va_Nw.of rfl h1
  · rw [e32]
    exact hT w hw
  · rw [e30]
    exact vk_R.of (hts _ (gv_9 w hw)) (hev w hw)
  · have f1 : (fun w => ad (30, w, 0)) = K := funext e30
    have f2 : (fun w => ad (31, w, 0)) = V := funext e31
    rw [f1, f2]
    exact hKV
  · rw [e34]; exact hX
  · rw [e34]; exact hbl
  · rw [e34]; exact hA b hbl
