/-! a program and the reference object are made -/
def gProg (ca : Nat → ClassId) (a n0 : Nat) : Nat → Option va_E := fu (fu (fu (fu (fu (fu (fu (fu (f1 a (.inr (5, bls 5))) n0 (.inl (ca 4, 80, .inl (fun _ => 0)))) a (.inr (5, (bls 5).set 0 (.ref n0)))) (n0 + 1) (.inl (ca 0, 16, .inl (fun _ => 0)))) a (.inr (5, ((bls 5).set 0 (.ref n0)).set 2 (.ref (n0 + 1))))) (n0 + 2) (.inl (ca 0, 16, .inl (fun _ => 0)))) a (.inr (5, (((bls 5).set 0 (.ref n0)).set 2 (.ref (n0 + 1))).set 3 (.ref (n0 + 2))))) (n0 + 3) (.inl (ca 0, 16, .inl (fun _ => 0)))) a (.inr (5, ((((bls 5).set 0 (.ref n0)).set 2 (.ref (n0 + 1))).set 3 (.ref (n0 + 2))).set 4 (.ref (n0 + 3))))
def rmProg : Room := { frames := 1, cells := 4, slots := 128, locals := 20 }
theorem c_Prog (l : Launch) {D : va_G} {ad : DKey → Nat} {ca : Nat → ClassId} {fm : Value} {xs : Nat → Int32} {SL z0 a n0 : Nat} : cMet l D ad ca fm xs SL z0 ⟨"DiskDrawer$Program", "<init>", "()V"⟩ prog_4_method_1_code 1 rmProg a n0 4 (.inr (5, bls 5)) (gProg ca a n0) :=
  cMet_of (o := 5) (idx := 3) (by decide) rfl rfl (by decide) (dWd_of (i := 181) (by decide +kernel) rfl) (by decide +kernel) (by decide +kernel) (by decide) (by decide) fun p e s m args below meth c ls C hml hlv hin hr hlk hz hza hB => by
    have hne : a < n0 := hB.lt (a := a) (if_pos rfl)
    have hA : cA a n0 a := Or.inl rfl
    have hS : va_S (cA a n0) s.heap s.heap [] := va_S.rf
    refine lv_aload_n (pc := 4) (k := 0) (i := 0) (x := a) C.1 C.2.1 (by decide +kernel) rfl (lv_at hlv 0 rfl) ?_
    refine lv_bipush (pc := 5) (n := 80) (v := 80) C.1 C.2.1 (by decide +kernel) rfl ?_
    refine b_newa (pc := 7) (atype := .char) (t := 4) (N := 80) C hB hS (Or.inr ⟨rfl, rfl⟩) (dWd_of (i := 202) (by decide +kernel) rfl) (by decide) (by decide) (by decide) (by decide) (by decide) (by decide +kernel) fun H1 hB1 hS1 => ?_
    refine b_putF (pc := 9) (idx := 9) (ci := 5) (k := 0) (a := a) (fs := bls 5) C hB1 hS1 (by decide) (by rw [fu_n _ _ (by omega)]; exact if_pos rfl) rfl hA (by decide) (dWd_of (i := 182) (by decide +kernel) rfl) rfl hin rfl rfl rfl (by decide +kernel) fun H2 locs2 hB2 hS2 => ?_
    refine lv_aload_n (pc := 12) (k := 0) (i := 0) (x := a) C.1 C.2.1 (by decide +kernel) rfl (lv_at hlv 0 rfl) ?_
    refine lv_bipush (pc := 13) (n := 16) (v := 16) C.1 C.2.1 (by decide +kernel) rfl ?_
    refine b_newa (pc := 15) (atype := .int) (t := 0) (N := 16) C hB2 hS2 (Or.inl ⟨rfl, rfl⟩) (dWd_of (i := 79) (by decide +kernel) rfl) (by decide) (by decide) (by decide) (by decide) (by decide) (by decide +kernel) fun H3 hB3 hS3 => ?_
    refine b_putF (pc := 17) (idx := 15) (ci := 5) (k := 2) (a := a) (fs := (bls 5).set 0 (.ref n0)) C hB3 hS3 (by decide) (by rw [fu_n _ _ (by omega), fu_s]) rfl hA (by decide) (dWd_of (i := 184) (by decide +kernel) rfl) rfl hin rfl rfl rfl (by decide +kernel) fun H4 locs4 hB4 hS4 => ?_
    refine lv_aload_n (pc := 20) (k := 0) (i := 0) (x := a) C.1 C.2.1 (by decide +kernel) rfl (lv_at hlv 0 rfl) ?_
    refine lv_bipush (pc := 21) (n := 16) (v := 16) C.1 C.2.1 (by decide +kernel) rfl ?_
    refine b_newa (pc := 23) (atype := .int) (t := 0) (N := 16) C hB4 hS4 (Or.inl ⟨rfl, rfl⟩) (dWd_of (i := 79) (by decide +kernel) rfl) (by decide) (by decide) (by decide) (by decide) (by decide) (by decide +kernel) fun H5 hB5 hS5 => ?_
    refine b_putF (pc := 25) (idx := 19) (ci := 5) (k := 3) (a := a) (fs := ((bls 5).set 0 (.ref n0)).set 2 (.ref (n0 + 1))) C hB5 hS5 (by decide) (by rw [fu_n _ _ (by omega), fu_s]) rfl hA (by decide) (dWd_of (i := 185) (by decide +kernel) rfl) rfl hin rfl rfl rfl (by decide +kernel) fun H6 locs6 hB6 hS6 => ?_
    refine lv_aload_n (pc := 28) (k := 0) (i := 0) (x := a) C.1 C.2.1 (by decide +kernel) rfl (lv_at hlv 0 rfl) ?_
    refine lv_bipush (pc := 29) (n := 16) (v := 16) C.1 C.2.1 (by decide +kernel) rfl ?_
    refine b_newa (pc := 31) (atype := .int) (t := 0) (N := 16) C hB6 hS6 (Or.inl ⟨rfl, rfl⟩) (dWd_of (i := 79) (by decide +kernel) rfl) (by decide) (by decide) (by decide) (by decide) (by decide) (by decide +kernel) fun H7 hB7 hS7 => ?_
    refine b_putF (pc := 33) (idx := 22) (ci := 5) (k := 4) (a := a) (fs := (((bls 5).set 0 (.ref n0)).set 2 (.ref (n0 + 1))).set 3 (.ref (n0 + 2))) C hB7 hS7 (by decide) (by rw [fu_n _ _ (by omega), fu_s]) rfl hA (by decide) (dWd_of (i := 186) (by decide +kernel) rfl) rfl hin rfl rfl rfl (by decide +kernel) fun H8 locs8 hB8 hS8 => ?_
    exact cEnd C hr hlk hB8 hS8 rfl (fun b e h => h) rfl rfl (by decide +kernel)
theorem gProg_0 {ca : Nat → ClassId} {a n0 : Nat} (hne : a < n0) : gProg ca a n0 a = some (.inr (5, ((((bls 5).set 0 (.ref n0)).set 2 (.ref (n0 + 1))).set 3 (.ref (n0 + 2))).set 4 (.ref (n0 + 3)))) := by
  unfold gProg
  rw [fu_s]
theorem gProg_1 {ca : Nat → ClassId} {a n0 : Nat} (hne : a < n0) : gProg ca a n0 n0 = some (.inl (ca 4, 80, .inl (fun _ => 0))) := by
  unfold gProg
  rw [fu_n _ _ (by omega), fu_n _ _ (by omega), fu_n _ _ (by omega), fu_n _ _ (by omega), fu_n _ _ (by omega), fu_n _ _ (by omega), fu_n _ _ (by omega), fu_s]
theorem gProg_2 {ca : Nat → ClassId} {a n0 : Nat} (hne : a < n0) : gProg ca a n0 (n0 + 1) = some (.inl (ca 0, 16, .inl (fun _ => 0))) := by
  unfold gProg
  rw [fu_n _ _ (by omega), fu_n _ _ (by omega), fu_n _ _ (by omega), fu_n _ _ (by omega), fu_n _ _ (by omega), fu_s]
theorem gProg_3 {ca : Nat → ClassId} {a n0 : Nat} (hne : a < n0) : gProg ca a n0 (n0 + 2) = some (.inl (ca 0, 16, .inl (fun _ => 0))) := by
  unfold gProg
  rw [fu_n _ _ (by omega), fu_n _ _ (by omega), fu_n _ _ (by omega), fu_s]
theorem gProg_4 {ca : Nat → ClassId} {a n0 : Nat} (hne : a < n0) : gProg ca a n0 (n0 + 3) = some (.inl (ca 0, 16, .inl (fun _ => 0))) := by
  unfold gProg
  rw [fu_n _ _ (by omega), fu_s]
