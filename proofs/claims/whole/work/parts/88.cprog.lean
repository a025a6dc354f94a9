/-! a program and the reference object are made -/
def gProg (ca : Nat → ClassId) (a n0 : Nat) : Nat → Option va_E := fu (fu (fu (fu (fu (fu (fu (fu (f1 a (.inr (5, bls 5))) n0 (.inl (ca 4, 80, .inl (fun _ => 0)))) a (.inr (5, (bls 5).set 0 (.ref n0)))) (n0 + 1) (.inl (ca 0, 16, .inl (fun _ => 0)))) a (.inr (5, ((bls 5).set 0 (.ref n0)).set 2 (.ref (n0 + 1))))) (n0 + 2) (.inl (ca 0, 16, .inl (fun _ => 0)))) a (.inr (5, (((bls 5).set 0 (.ref n0)).set 2 (.ref (n0 + 1))).set 3 (.ref (n0 + 2))))) (n0 + 3) (.inl (ca 0, 16, .inl (fun _ => 0)))) a (.inr (5, ((((bls 5).set 0 (.ref n0)).set 2 (.ref (n0 + 1))).set 3 (.ref (n0 + 2))).set 4 (.ref (n0 + 3))))
def rmProg : Room := { frames := 1, cells := 4, slots := 128, locals := 20 }
theorem c_Prog (l : Launch) {D : va_G} {ad : DKey → Nat} {ca : Nat → ClassId} {fm : Value} {xs : Nat → Int32} {SL z0 a n0 : Nat} : cMet l D ad ca fm xs SL z0 ⟨"DiskDrawer$Program", "<init>", "()V"⟩ prog_4_method_1_code 1 rmProg a n0 4 (.inr (5, bls 5)) (gProg ca a n0) :=
  cMet_of (o := 5) (idx := 3) (by decide) rfl rfl (by decide) (dWd_of (i := 232) (by decide +kernel) rfl) (by decide +kernel) (by decide +kernel) (by decide) (by decide) fun p e s m args below meth c ls C hml hlv hin hr hlk hz hza hB => by
    have hne : a < n0 := hB.lt (a := a) (if_pos rfl)
    have hA : cA a n0 a := Or.inl rfl
    have hS : va_S (cA a n0) s.heap s.heap [] := va_S.rf
    refine lv_aload_n (pc := 4) (k := 0) (i := 0) (x := a) C.1 C.2.1 (by decide +kernel) rfl (lv_at hlv 0 rfl) ?_
    refine lv_bipush (pc := 5) (n := 80) (v := 80) C.1 C.2.1 (by decide +kernel) rfl ?_
    refine b_newa (pc := 7) (atype := .char) (t := 4) (N := 80) C hB hS (Or.inr (Or.inl ⟨rfl, rfl⟩)) (dWd_of (i := 260) (by decide +kernel) rfl) (by decide) (by decide) (by decide) (by decide) (by decide) (by decide +kernel) fun H1 hB1 hS1 => ?_
    refine b_putF (pc := 9) (idx := 9) (ci := 5) (k := 0) (a := a) (fs := bls 5) C hB1 hS1 (by decide) (by rw [fu_n _ _ (by omega)]; exact if_pos rfl) rfl hA (by decide) (dWd_of (i := 233) (by decide +kernel) rfl) rfl hin rfl rfl rfl (by decide +kernel) fun H2 locs2 hB2 hS2 => ?_
    refine lv_aload_n (pc := 12) (k := 0) (i := 0) (x := a) C.1 C.2.1 (by decide +kernel) rfl (lv_at hlv 0 rfl) ?_
    refine lv_bipush (pc := 13) (n := 16) (v := 16) C.1 C.2.1 (by decide +kernel) rfl ?_
    refine b_newa (pc := 15) (atype := .int) (t := 0) (N := 16) C hB2 hS2 (Or.inl ⟨rfl, rfl⟩) (dWd_of (i := 129) (by decide +kernel) rfl) (by decide) (by decide) (by decide) (by decide) (by decide) (by decide +kernel) fun H3 hB3 hS3 => ?_
    refine b_putF (pc := 17) (idx := 15) (ci := 5) (k := 2) (a := a) (fs := (bls 5).set 0 (.ref n0)) C hB3 hS3 (by decide) (by rw [fu_n _ _ (by omega), fu_s]) rfl hA (by decide) (dWd_of (i := 236) (by decide +kernel) rfl) rfl hin rfl rfl rfl (by decide +kernel) fun H4 locs4 hB4 hS4 => ?_
    refine lv_aload_n (pc := 20) (k := 0) (i := 0) (x := a) C.1 C.2.1 (by decide +kernel) rfl (lv_at hlv 0 rfl) ?_
    refine lv_bipush (pc := 21) (n := 16) (v := 16) C.1 C.2.1 (by decide +kernel) rfl ?_
    refine b_newa (pc := 23) (atype := .int) (t := 0) (N := 16) C hB4 hS4 (Or.inl ⟨rfl, rfl⟩) (dWd_of (i := 129) (by decide +kernel) rfl) (by decide) (by decide) (by decide) (by decide) (by decide) (by decide +kernel) fun H5 hB5 hS5 => ?_
    refine b_putF (pc := 25) (idx := 19) (ci := 5) (k := 3) (a := a) (fs := ((bls 5).set 0 (.ref n0)).set 2 (.ref (n0 + 1))) C hB5 hS5 (by decide) (by rw [fu_n _ _ (by omega), fu_s]) rfl hA (by decide) (dWd_of (i := 238) (by decide +kernel) rfl) rfl hin rfl rfl rfl (by decide +kernel) fun H6 locs6 hB6 hS6 => ?_
    refine lv_aload_n (pc := 28) (k := 0) (i := 0) (x := a) C.1 C.2.1 (by decide +kernel) rfl (lv_at hlv 0 rfl) ?_
    refine lv_bipush (pc := 29) (n := 16) (v := 16) C.1 C.2.1 (by decide +kernel) rfl ?_
    refine b_newa (pc := 31) (atype := .int) (t := 0) (N := 16) C hB6 hS6 (Or.inl ⟨rfl, rfl⟩) (dWd_of (i := 129) (by decide +kernel) rfl) (by decide) (by decide) (by decide) (by decide) (by decide) (by decide +kernel) fun H7 hB7 hS7 => ?_
    refine b_putF (pc := 33) (idx := 22) (ci := 5) (k := 4) (a := a) (fs := (((bls 5).set 0 (.ref n0)).set 2 (.ref (n0 + 1))).set 3 (.ref (n0 + 2))) C hB7 hS7 (by decide) (by rw [fu_n _ _ (by omega), fu_s]) rfl hA (by decide) (dWd_of (i := 240) (by decide +kernel) rfl) rfl hin rfl rfl rfl (by decide +kernel) fun H8 locs8 hB8 hS8 => ?_
    exact cEnd C hr hlk hB8 hS8 rfl (fun b e h => h) rfl rfl (by decide +kernel)
theorem gProg_0 {ca : Nat → ClassId} {a n0 : Nat} (hne : a < n0) : gProg ca a n0 a = some (.inr (5, ((((bls 5).set 0 (.ref n0)).set 2 (.ref (n0 + 1))).set 3 (.ref (n0 + 2))).set 4 (.ref (n0 + 3)))) := by
  unfold gProg
  rw [fu_s]
theorem gProg_1 {ca : Nat → ClassId} {a n0 : Nat} (hne : a < n0) : gProg ca a n0 n0 = some (.inl (ca 4, 80, .inl (fun _ => 0))) := by
  unfold gProg
  rw [fu_n _ _ (by omega), fu_n _ _ (by omega), fu_n _ _ (by omega), fu_n _ _ (by omega), fu_n _ _ (by omega), fu_n _ _ (by omega), fu_n _ _ (by omega), fu_s]
theorem gProg_2 {ca : Nat → ClassId} {a n0 : Nat} (hne : a < n0) : gProg ca a n0 (n0 + 1) = some (.inl (ca 0, 16, .inl (fun _ => 0))) := by
  unfold gProg
  rw [fu_n _ _ (by omega), fu_n _ _ (by omega), fu_n _ _ (by omega), fu_n _ _ (by omega), fu_n _ _ (by omega), fu_s]
theorem gProg_3 {ca : Nat → ClassId} {a n0 : Nat} (hne : a < n0) : gProg ca a n0 (n0 + 2) = some (.inl (ca 0, 16, .inl (fun _ => 0))) := by
  unfold gProg
  rw [fu_n _ _ (by omega), fu_n _ _ (by omega), fu_n _ _ (by omega), fu_s]
theorem gProg_4 {ca : Nat → ClassId} {a n0 : Nat} (hne : a < n0) : gProg ca a n0 (n0 + 3) = some (.inl (ca 0, 16, .inl (fun _ => 0))) := by
  unfold gProg
  rw [fu_n _ _ (by omega), fu_s]
def gMod (ca : Nat → ClassId) (a n0 : Nat) : Nat → Option va_E := fu (fu (fu (fu (fu (fu (fu (fu (fu (fu (fu (fu (fu (fu (fu (fu (fu (fu (fu (fu (fu (fu (f1 a (.inr (6, bls 6))) n0 (.inl (ca 0, 244, .inl (fun _ => 0)))) a (.inr (6, (bls 6).set 0 (.ref n0)))) (n0 + 1) (.inl (ca 0, 244, .inl (fun _ => 0)))) a (.inr (6, ((bls 6).set 0 (.ref n0)).set 1 (.ref (n0 + 1))))) (n0 + 2) (.inl (ca 0, 976, .inl (fun _ => 0)))) a (.inr (6, (((bls 6).set 0 (.ref n0)).set 1 (.ref (n0 + 1))).set 2 (.ref (n0 + 2))))) (n0 + 3) (.inl (ca 0, 244, .inl (fun _ => 0)))) a (.inr (6, ((((bls 6).set 0 (.ref n0)).set 1 (.ref (n0 + 1))).set 2 (.ref (n0 + 2))).set 4 (.ref (n0 + 3))))) (n0 + 4) (.inl (ca 0, 80, .inl (fun _ => 0)))) a (.inr (6, (((((bls 6).set 0 (.ref n0)).set 1 (.ref (n0 + 1))).set 2 (.ref (n0 + 2))).set 4 (.ref (n0 + 3))).set 6 (.ref (n0 + 4))))) (n0 + 5) (.inl (ca 5, 12, .inl (fun _ => 0)))) a (.inr (6, ((((((bls 6).set 0 (.ref n0)).set 1 (.ref (n0 + 1))).set 2 (.ref (n0 + 2))).set 4 (.ref (n0 + 3))).set 6 (.ref (n0 + 4))).set 8 (.ref (n0 + 5))))) n0 (.inl (ca 0, 244, .inl (upd (fun _ => 0) (Int32.toNatClampNeg 0) 6)))) n0 (.inl (ca 0, 244, .inl (upd (upd (fun _ => 0) (Int32.toNatClampNeg 0) 6) (Int32.toNatClampNeg 1) 20)))) n0 (.inl (ca 0, 244, .inl (upd (upd (upd (fun _ => 0) (Int32.toNatClampNeg 0) 6) (Int32.toNatClampNeg 1) 20) (Int32.toNatClampNeg 2) 6)))) n0 (.inl (ca 0, 244, .inl (upd (upd (upd (upd (fun _ => 0) (Int32.toNatClampNeg 0) 6) (Int32.toNatClampNeg 1) 20) (Int32.toNatClampNeg 2) 6) (Int32.toNatClampNeg 3) 4)))) n0 (.inl (ca 0, 244, .inl (upd (upd (upd (upd (upd (fun _ => 0) (Int32.toNatClampNeg 0) 6) (Int32.toNatClampNeg 1) 20) (Int32.toNatClampNeg 2) 6) (Int32.toNatClampNeg 3) 4) (Int32.toNatClampNeg 4) 1)))) n0 (.inl (ca 0, 244, .inl (upd (upd (upd (upd (upd (upd (fun _ => 0) (Int32.toNatClampNeg 0) 6) (Int32.toNatClampNeg 1) 20) (Int32.toNatClampNeg 2) 6) (Int32.toNatClampNeg 3) 4) (Int32.toNatClampNeg 4) 1) (Int32.toNatClampNeg 5) 90)))) n0 (.inl (ca 0, 244, .inl (upd (upd (upd (upd (upd (upd (upd (fun _ => 0) (Int32.toNatClampNeg 0) 6) (Int32.toNatClampNeg 1) 20) (Int32.toNatClampNeg 2) 6) (Int32.toNatClampNeg 3) 4) (Int32.toNatClampNeg 4) 1) (Int32.toNatClampNeg 5) 90) (Int32.toNatClampNeg 6) 10)))) n0 (.inl (ca 0, 244, .inl (upd (upd (upd (upd (upd (upd (upd (upd (fun _ => 0) (Int32.toNatClampNeg 0) 6) (Int32.toNatClampNeg 1) 20) (Int32.toNatClampNeg 2) 6) (Int32.toNatClampNeg 3) 4) (Int32.toNatClampNeg 4) 1) (Int32.toNatClampNeg 5) 90) (Int32.toNatClampNeg 6) 10) (Int32.toNatClampNeg 7) 3)))) n0 (.inl (ca 0, 244, .inl (upd (upd (upd (upd (upd (upd (upd (upd (upd (fun _ => 0) (Int32.toNatClampNeg 0) 6) (Int32.toNatClampNeg 1) 20) (Int32.toNatClampNeg 2) 6) (Int32.toNatClampNeg 3) 4) (Int32.toNatClampNeg 4) 1) (Int32.toNatClampNeg 5) 90) (Int32.toNatClampNeg 6) 10) (Int32.toNatClampNeg 7) 3) (Int32.toNatClampNeg 8) 3)))) n0 (.inl (ca 0, 244, .inl (upd (upd (upd (upd (upd (upd (upd (upd (upd (upd (fun _ => 0) (Int32.toNatClampNeg 0) 6) (Int32.toNatClampNeg 1) 20) (Int32.toNatClampNeg 2) 6) (Int32.toNatClampNeg 3) 4) (Int32.toNatClampNeg 4) 1) (Int32.toNatClampNeg 5) 90) (Int32.toNatClampNeg 6) 10) (Int32.toNatClampNeg 7) 3) (Int32.toNatClampNeg 8) 3) (Int32.toNatClampNeg 9) 40)))
def rmMod : Room := { frames := 1, cells := 6, slots := 1800, locals := 20 }
theorem c_Mod (l : Launch) {D : va_G} {ad : DKey → Nat} {ca : Nat → ClassId} {fm : Value} {xs : Nat → Int32} {SL z0 a n0 : Nat} : cMet l D ad ca fm xs SL z0 ⟨"DiskDrawerModel", "<init>", "()V"⟩ prog_8_method_1_code 1 rmMod a n0 6 (.inr (6, bls 6)) (gMod ca a n0) :=
  cMet_of (o := 6) (idx := 1) (by decide) rfl rfl (by decide) (dWd_of (i := 669) (by decide +kernel) rfl) (by decide +kernel) (by decide +kernel) (by decide) (by decide) fun p e s m args below meth c ls C hml hlv hin hr hlk hz hza hB => by
    have hne : a < n0 := hB.lt (a := a) (if_pos rfl)
    have hA : cA a n0 a := Or.inl rfl
    have hS : va_S (cA a n0) s.heap s.heap [] := va_S.rf
    refine lv_aload_n (pc := 4) (k := 0) (i := 0) (x := a) C.1 C.2.1 (by decide +kernel) rfl (lv_at hlv 0 rfl) ?_
    refine lv_sipush (pc := 5) (n := 244) (v := 244) C.1 C.2.1 (by decide +kernel) rfl ?_
    refine b_newa (pc := 8) (atype := .int) (t := 0) (N := 244) C hB hS (Or.inl ⟨rfl, rfl⟩) (dWd_of (i := 129) (by decide +kernel) rfl) (by decide) (by decide) (by decide) (by decide) (by decide) (by decide +kernel) fun H1 hB1 hS1 => ?_
    refine b_putF (pc := 10) (idx := 7) (ci := 6) (k := 0) (a := a) (fs := bls 6) C hB1 hS1 (by decide) (by rw [fu_n _ _ (by omega)]; exact if_pos rfl) rfl hA (by decide) (dWd_of (i := 670) (by decide +kernel) rfl) rfl hin rfl rfl rfl (by decide +kernel) fun H2 locs2 hB2 hS2 => ?_
    refine lv_aload_n (pc := 13) (k := 0) (i := 0) (x := a) C.1 C.2.1 (by decide +kernel) rfl (lv_at hlv 0 rfl) ?_
    refine lv_sipush (pc := 14) (n := 244) (v := 244) C.1 C.2.1 (by decide +kernel) rfl ?_
    refine b_newa (pc := 17) (atype := .int) (t := 0) (N := 244) C hB2 hS2 (Or.inl ⟨rfl, rfl⟩) (dWd_of (i := 129) (by decide +kernel) rfl) (by decide) (by decide) (by decide) (by decide) (by decide) (by decide +kernel) fun H3 hB3 hS3 => ?_
    refine b_putF (pc := 19) (idx := 13) (ci := 6) (k := 1) (a := a) (fs := (bls 6).set 0 (.ref n0)) C hB3 hS3 (by decide) (by rw [fu_n _ _ (by omega), fu_s]) rfl hA (by decide) (dWd_of (i := 671) (by decide +kernel) rfl) rfl hin rfl rfl rfl (by decide +kernel) fun H4 locs4 hB4 hS4 => ?_
    refine lv_aload_n (pc := 22) (k := 0) (i := 0) (x := a) C.1 C.2.1 (by decide +kernel) rfl (lv_at hlv 0 rfl) ?_
    refine lv_sipush (pc := 23) (n := 976) (v := 976) C.1 C.2.1 (by decide +kernel) rfl ?_
    refine b_newa (pc := 26) (atype := .int) (t := 0) (N := 976) C hB4 hS4 (Or.inl ⟨rfl, rfl⟩) (dWd_of (i := 129) (by decide +kernel) rfl) (by decide) (by decide) (by decide) (by decide) (by decide) (by decide +kernel) fun H5 hB5 hS5 => ?_
    refine b_putF (pc := 28) (idx := 16) (ci := 6) (k := 2) (a := a) (fs := ((bls 6).set 0 (.ref n0)).set 1 (.ref (n0 + 1))) C hB5 hS5 (by decide) (by rw [fu_n _ _ (by omega), fu_s]) rfl hA (by decide) (dWd_of (i := 672) (by decide +kernel) rfl) rfl hin rfl rfl rfl (by decide +kernel) fun H6 locs6 hB6 hS6 => ?_
    refine lv_aload_n (pc := 31) (k := 0) (i := 0) (x := a) C.1 C.2.1 (by decide +kernel) rfl (lv_at hlv 0 rfl) ?_
    refine lv_sipush (pc := 32) (n := 244) (v := 244) C.1 C.2.1 (by decide +kernel) rfl ?_
    refine b_newa (pc := 35) (atype := .int) (t := 0) (N := 244) C hB6 hS6 (Or.inl ⟨rfl, rfl⟩) (dWd_of (i := 129) (by decide +kernel) rfl) (by decide) (by decide) (by decide) (by decide) (by decide) (by decide +kernel) fun H7 hB7 hS7 => ?_
    refine b_putF (pc := 37) (idx := 19) (ci := 6) (k := 4) (a := a) (fs := (((bls 6).set 0 (.ref n0)).set 1 (.ref (n0 + 1))).set 2 (.ref (n0 + 2))) C hB7 hS7 (by decide) (by rw [fu_n _ _ (by omega), fu_s]) rfl hA (by decide) (dWd_of (i := 674) (by decide +kernel) rfl) rfl hin rfl rfl rfl (by decide +kernel) fun H8 locs8 hB8 hS8 => ?_
    refine lv_aload_n (pc := 40) (k := 0) (i := 0) (x := a) C.1 C.2.1 (by decide +kernel) rfl (lv_at hlv 0 rfl) ?_
    refine lv_bipush (pc := 41) (n := 80) (v := 80) C.1 C.2.1 (by decide +kernel) rfl ?_
    refine b_newa (pc := 43) (atype := .int) (t := 0) (N := 80) C hB8 hS8 (Or.inl ⟨rfl, rfl⟩) (dWd_of (i := 129) (by decide +kernel) rfl) (by decide) (by decide) (by decide) (by decide) (by decide) (by decide +kernel) fun H9 hB9 hS9 => ?_
    refine b_putF (pc := 45) (idx := 22) (ci := 6) (k := 6) (a := a) (fs := ((((bls 6).set 0 (.ref n0)).set 1 (.ref (n0 + 1))).set 2 (.ref (n0 + 2))).set 4 (.ref (n0 + 3))) C hB9 hS9 (by decide) (by rw [fu_n _ _ (by omega), fu_s]) rfl hA (by decide) (dWd_of (i := 676) (by decide +kernel) rfl) rfl hin rfl rfl rfl (by decide +kernel) fun H10 locs10 hB10 hS10 => ?_
    refine lv_aload_n (pc := 48) (k := 0) (i := 0) (x := a) C.1 C.2.1 (by decide +kernel) rfl (lv_at hlv 0 rfl) ?_
    refine lv_bipush (pc := 49) (n := 12) (v := 12) C.1 C.2.1 (by decide +kernel) rfl ?_
    refine b_newa (pc := 51) (atype := .boolean) (t := 5) (N := 12) C hB10 hS10 (Or.inr (Or.inr ⟨rfl, rfl⟩)) (dWd_of (i := 716) (by decide +kernel) rfl) (by decide) (by decide) (by decide) (by decide) (by decide) (by decide +kernel) fun H11 hB11 hS11 => ?_
    refine b_putF (pc := 53) (idx := 25) (ci := 6) (k := 8) (a := a) (fs := (((((bls 6).set 0 (.ref n0)).set 1 (.ref (n0 + 1))).set 2 (.ref (n0 + 2))).set 4 (.ref (n0 + 3))).set 6 (.ref (n0 + 4))) C hB11 hS11 (by decide) (by rw [fu_n _ _ (by omega), fu_s]) rfl hA (by decide) (dWd_of (i := 678) (by decide +kernel) rfl) rfl hin rfl rfl rfl (by decide +kernel) fun H12 locs12 hB12 hS12 => ?_
    refine lv_aload_n (pc := 56) (k := 0) (i := 0) (x := a) C.1 C.2.1 (by decide +kernel) rfl (lv_at hlv 0 rfl) ?_
    refine b_get (pc := 57) (idx := 7) (ci := 6) (k := 0) (v := .ref n0) C hB12 (by decide) (by rw [fu_s]) (by decide) (dWd_of (i := 670) (by decide +kernel) rfl) rfl (by decide +kernel) ?_
    refine lv_iconst (pc := 60) (n := 0) (v := 0) C.1 C.2.1 (by decide +kernel) rfl ?_
    refine lv_bipush (pc := 61) (n := 6) (v := 6) C.1 C.2.1 (by decide +kernel) rfl ?_
    refine b_iast (pc := 63) (i := 0) (x := 6) C hB12 hS12 (by rw [fu_n _ _ (by omega), fu_n _ _ (by omega), fu_n _ _ (by omega), fu_n _ _ (by omega), fu_n _ _ (by omega), fu_n _ _ (by omega), fu_n _ _ (by omega), fu_n _ _ (by omega), fu_n _ _ (by omega), fu_n _ _ (by omega), fu_n _ _ (by omega), fu_s]) (Or.inr (by omega)) (i_in (k := 0) (by decide) (by decide)) (by decide +kernel) fun H13 locs13 hB13 hS13 => ?_
    refine lv_aload_n (pc := 64) (k := 0) (i := 0) (x := a) C.1 C.2.1 (by decide +kernel) rfl (lv_at hlv 0 rfl) ?_
    refine b_get (pc := 65) (idx := 7) (ci := 6) (k := 0) (v := .ref n0) C hB13 (by decide) (by rw [fu_n _ _ (by omega), fu_s]) (by decide) (dWd_of (i := 670) (by decide +kernel) rfl) rfl (by decide +kernel) ?_
    refine lv_iconst (pc := 68) (n := 1) (v := 1) C.1 C.2.1 (by decide +kernel) rfl ?_
    refine lv_bipush (pc := 69) (n := 20) (v := 20) C.1 C.2.1 (by decide +kernel) rfl ?_
    refine b_iast (pc := 71) (i := 1) (x := 20) C hB13 hS13 (by rw [fu_s]) (Or.inr (by omega)) (i_in (k := 1) (by decide) (by decide)) (by decide +kernel) fun H14 locs14 hB14 hS14 => ?_
    refine lv_aload_n (pc := 72) (k := 0) (i := 0) (x := a) C.1 C.2.1 (by decide +kernel) rfl (lv_at hlv 0 rfl) ?_
    refine b_get (pc := 73) (idx := 7) (ci := 6) (k := 0) (v := .ref n0) C hB14 (by decide) (by rw [fu_n _ _ (by omega), fu_n _ _ (by omega), fu_s]) (by decide) (dWd_of (i := 670) (by decide +kernel) rfl) rfl (by decide +kernel) ?_
    refine lv_iconst (pc := 76) (n := 2) (v := 2) C.1 C.2.1 (by decide +kernel) rfl ?_
    refine lv_bipush (pc := 77) (n := 6) (v := 6) C.1 C.2.1 (by decide +kernel) rfl ?_
    refine b_iast (pc := 79) (i := 2) (x := 6) C hB14 hS14 (by rw [fu_s]) (Or.inr (by omega)) (i_in (k := 2) (by decide) (by decide)) (by decide +kernel) fun H15 locs15 hB15 hS15 => ?_
    refine lv_aload_n (pc := 80) (k := 0) (i := 0) (x := a) C.1 C.2.1 (by decide +kernel) rfl (lv_at hlv 0 rfl) ?_
    refine b_get (pc := 81) (idx := 7) (ci := 6) (k := 0) (v := .ref n0) C hB15 (by decide) (by rw [fu_n _ _ (by omega), fu_n _ _ (by omega), fu_n _ _ (by omega), fu_s]) (by decide) (dWd_of (i := 670) (by decide +kernel) rfl) rfl (by decide +kernel) ?_
    refine lv_iconst (pc := 84) (n := 3) (v := 3) C.1 C.2.1 (by decide +kernel) rfl ?_
    refine lv_iconst (pc := 85) (n := 4) (v := 4) C.1 C.2.1 (by decide +kernel) rfl ?_
    refine b_iast (pc := 86) (i := 3) (x := 4) C hB15 hS15 (by rw [fu_s]) (Or.inr (by omega)) (i_in (k := 3) (by decide) (by decide)) (by decide +kernel) fun H16 locs16 hB16 hS16 => ?_
    refine lv_aload_n (pc := 87) (k := 0) (i := 0) (x := a) C.1 C.2.1 (by decide +kernel) rfl (lv_at hlv 0 rfl) ?_
    refine b_get (pc := 88) (idx := 7) (ci := 6) (k := 0) (v := .ref n0) C hB16 (by decide) (by rw [fu_n _ _ (by omega), fu_n _ _ (by omega), fu_n _ _ (by omega), fu_n _ _ (by omega), fu_s]) (by decide) (dWd_of (i := 670) (by decide +kernel) rfl) rfl (by decide +kernel) ?_
    refine lv_iconst (pc := 91) (n := 4) (v := 4) C.1 C.2.1 (by decide +kernel) rfl ?_
    refine lv_iconst (pc := 92) (n := 1) (v := 1) C.1 C.2.1 (by decide +kernel) rfl ?_
    refine b_iast (pc := 93) (i := 4) (x := 1) C hB16 hS16 (by rw [fu_s]) (Or.inr (by omega)) (i_in (k := 4) (by decide) (by decide)) (by decide +kernel) fun H17 locs17 hB17 hS17 => ?_
    refine lv_aload_n (pc := 94) (k := 0) (i := 0) (x := a) C.1 C.2.1 (by decide +kernel) rfl (lv_at hlv 0 rfl) ?_
    refine b_get (pc := 95) (idx := 7) (ci := 6) (k := 0) (v := .ref n0) C hB17 (by decide) (by rw [fu_n _ _ (by omega), fu_n _ _ (by omega), fu_n _ _ (by omega), fu_n _ _ (by omega), fu_n _ _ (by omega), fu_s]) (by decide) (dWd_of (i := 670) (by decide +kernel) rfl) rfl (by decide +kernel) ?_
    refine lv_iconst (pc := 98) (n := 5) (v := 5) C.1 C.2.1 (by decide +kernel) rfl ?_
    refine lv_bipush (pc := 99) (n := 90) (v := 90) C.1 C.2.1 (by decide +kernel) rfl ?_
    refine b_iast (pc := 101) (i := 5) (x := 90) C hB17 hS17 (by rw [fu_s]) (Or.inr (by omega)) (i_in (k := 5) (by decide) (by decide)) (by decide +kernel) fun H18 locs18 hB18 hS18 => ?_
    refine lv_aload_n (pc := 102) (k := 0) (i := 0) (x := a) C.1 C.2.1 (by decide +kernel) rfl (lv_at hlv 0 rfl) ?_
    refine b_get (pc := 103) (idx := 7) (ci := 6) (k := 0) (v := .ref n0) C hB18 (by decide) (by rw [fu_n _ _ (by omega), fu_n _ _ (by omega), fu_n _ _ (by omega), fu_n _ _ (by omega), fu_n _ _ (by omega), fu_n _ _ (by omega), fu_s]) (by decide) (dWd_of (i := 670) (by decide +kernel) rfl) rfl (by decide +kernel) ?_
    refine lv_bipush (pc := 106) (n := 6) (v := 6) C.1 C.2.1 (by decide +kernel) rfl ?_
    refine lv_bipush (pc := 108) (n := 10) (v := 10) C.1 C.2.1 (by decide +kernel) rfl ?_
    refine b_iast (pc := 110) (i := 6) (x := 10) C hB18 hS18 (by rw [fu_s]) (Or.inr (by omega)) (i_in (k := 6) (by decide) (by decide)) (by decide +kernel) fun H19 locs19 hB19 hS19 => ?_
    refine lv_aload_n (pc := 111) (k := 0) (i := 0) (x := a) C.1 C.2.1 (by decide +kernel) rfl (lv_at hlv 0 rfl) ?_
    refine b_get (pc := 112) (idx := 7) (ci := 6) (k := 0) (v := .ref n0) C hB19 (by decide) (by rw [fu_n _ _ (by omega), fu_n _ _ (by omega), fu_n _ _ (by omega), fu_n _ _ (by omega), fu_n _ _ (by omega), fu_n _ _ (by omega), fu_n _ _ (by omega), fu_s]) (by decide) (dWd_of (i := 670) (by decide +kernel) rfl) rfl (by decide +kernel) ?_
    refine lv_bipush (pc := 115) (n := 7) (v := 7) C.1 C.2.1 (by decide +kernel) rfl ?_
    refine lv_iconst (pc := 117) (n := 3) (v := 3) C.1 C.2.1 (by decide +kernel) rfl ?_
    refine b_iast (pc := 118) (i := 7) (x := 3) C hB19 hS19 (by rw [fu_s]) (Or.inr (by omega)) (i_in (k := 7) (by decide) (by decide)) (by decide +kernel) fun H20 locs20 hB20 hS20 => ?_
    refine lv_aload_n (pc := 119) (k := 0) (i := 0) (x := a) C.1 C.2.1 (by decide +kernel) rfl (lv_at hlv 0 rfl) ?_
    refine b_get (pc := 120) (idx := 7) (ci := 6) (k := 0) (v := .ref n0) C hB20 (by decide) (by rw [fu_n _ _ (by omega), fu_n _ _ (by omega), fu_n _ _ (by omega), fu_n _ _ (by omega), fu_n _ _ (by omega), fu_n _ _ (by omega), fu_n _ _ (by omega), fu_n _ _ (by omega), fu_s]) (by decide) (dWd_of (i := 670) (by decide +kernel) rfl) rfl (by decide +kernel) ?_
    refine lv_bipush (pc := 123) (n := 8) (v := 8) C.1 C.2.1 (by decide +kernel) rfl ?_
    refine lv_iconst (pc := 125) (n := 3) (v := 3) C.1 C.2.1 (by decide +kernel) rfl ?_
    refine b_iast (pc := 126) (i := 8) (x := 3) C hB20 hS20 (by rw [fu_s]) (Or.inr (by omega)) (i_in (k := 8) (by decide) (by decide)) (by decide +kernel) fun H21 locs21 hB21 hS21 => ?_
    refine lv_aload_n (pc := 127) (k := 0) (i := 0) (x := a) C.1 C.2.1 (by decide +kernel) rfl (lv_at hlv 0 rfl) ?_
    refine b_get (pc := 128) (idx := 7) (ci := 6) (k := 0) (v := .ref n0) C hB21 (by decide) (by rw [fu_n _ _ (by omega), fu_n _ _ (by omega), fu_n _ _ (by omega), fu_n _ _ (by omega), fu_n _ _ (by omega), fu_n _ _ (by omega), fu_n _ _ (by omega), fu_n _ _ (by omega), fu_n _ _ (by omega), fu_s]) (by decide) (dWd_of (i := 670) (by decide +kernel) rfl) rfl (by decide +kernel) ?_
    refine lv_bipush (pc := 131) (n := 9) (v := 9) C.1 C.2.1 (by decide +kernel) rfl ?_
    refine lv_bipush (pc := 133) (n := 40) (v := 40) C.1 C.2.1 (by decide +kernel) rfl ?_
    refine b_iast (pc := 135) (i := 9) (x := 40) C hB21 hS21 (by rw [fu_s]) (Or.inr (by omega)) (i_in (k := 9) (by decide) (by decide)) (by decide +kernel) fun H22 locs22 hB22 hS22 => ?_
    exact cEnd C hr hlk hB22 hS22 rfl (fun b e h => h) rfl rfl (by decide +kernel)
theorem gMod_0 {ca : Nat → ClassId} {a n0 : Nat} (hne : a < n0) : gMod ca a n0 a = some (.inr (6, ((((((bls 6).set 0 (.ref n0)).set 1 (.ref (n0 + 1))).set 2 (.ref (n0 + 2))).set 4 (.ref (n0 + 3))).set 6 (.ref (n0 + 4))).set 8 (.ref (n0 + 5)))) := by
  unfold gMod
  rw [fu_n _ _ (by omega), fu_n _ _ (by omega), fu_n _ _ (by omega), fu_n _ _ (by omega), fu_n _ _ (by omega), fu_n _ _ (by omega), fu_n _ _ (by omega), fu_n _ _ (by omega), fu_n _ _ (by omega), fu_n _ _ (by omega), fu_s]
theorem gMod_1 {ca : Nat → ClassId} {a n0 : Nat} (hne : a < n0) : gMod ca a n0 n0 = some (.inl (ca 0, 244, .inl (upd (upd (upd (upd (upd (upd (upd (upd (upd (upd (fun _ => 0) (Int32.toNatClampNeg 0) 6) (Int32.toNatClampNeg 1) 20) (Int32.toNatClampNeg 2) 6) (Int32.toNatClampNeg 3) 4) (Int32.toNatClampNeg 4) 1) (Int32.toNatClampNeg 5) 90) (Int32.toNatClampNeg 6) 10) (Int32.toNatClampNeg 7) 3) (Int32.toNatClampNeg 8) 3) (Int32.toNatClampNeg 9) 40))) := by
  unfold gMod
  rw [fu_s]
theorem gMod_2 {ca : Nat → ClassId} {a n0 : Nat} (hne : a < n0) : gMod ca a n0 (n0 + 1) = some (.inl (ca 0, 244, .inl (fun _ => 0))) := by
  unfold gMod
  rw [fu_n _ _ (by omega), fu_n _ _ (by omega), fu_n _ _ (by omega), fu_n _ _ (by omega), fu_n _ _ (by omega), fu_n _ _ (by omega), fu_n _ _ (by omega), fu_n _ _ (by omega), fu_n _ _ (by omega), fu_n _ _ (by omega), fu_n _ _ (by omega), fu_n _ _ (by omega), fu_n _ _ (by omega), fu_n _ _ (by omega), fu_n _ _ (by omega), fu_n _ _ (by omega), fu_n _ _ (by omega), fu_n _ _ (by omega), fu_n _ _ (by omega), fu_s]
theorem gMod_3 {ca : Nat → ClassId} {a n0 : Nat} (hne : a < n0) : gMod ca a n0 (n0 + 2) = some (.inl (ca 0, 976, .inl (fun _ => 0))) := by
  unfold gMod
  rw [fu_n _ _ (by omega), fu_n _ _ (by omega), fu_n _ _ (by omega), fu_n _ _ (by omega), fu_n _ _ (by omega), fu_n _ _ (by omega), fu_n _ _ (by omega), fu_n _ _ (by omega), fu_n _ _ (by omega), fu_n _ _ (by omega), fu_n _ _ (by omega), fu_n _ _ (by omega), fu_n _ _ (by omega), fu_n _ _ (by omega), fu_n _ _ (by omega), fu_n _ _ (by omega), fu_n _ _ (by omega), fu_s]
theorem gMod_4 {ca : Nat → ClassId} {a n0 : Nat} (hne : a < n0) : gMod ca a n0 (n0 + 3) = some (.inl (ca 0, 244, .inl (fun _ => 0))) := by
  unfold gMod
  rw [fu_n _ _ (by omega), fu_n _ _ (by omega), fu_n _ _ (by omega), fu_n _ _ (by omega), fu_n _ _ (by omega), fu_n _ _ (by omega), fu_n _ _ (by omega), fu_n _ _ (by omega), fu_n _ _ (by omega), fu_n _ _ (by omega), fu_n _ _ (by omega), fu_n _ _ (by omega), fu_n _ _ (by omega), fu_n _ _ (by omega), fu_n _ _ (by omega), fu_s]
theorem gMod_5 {ca : Nat → ClassId} {a n0 : Nat} (hne : a < n0) : gMod ca a n0 (n0 + 4) = some (.inl (ca 0, 80, .inl (fun _ => 0))) := by
  unfold gMod
  rw [fu_n _ _ (by omega), fu_n _ _ (by omega), fu_n _ _ (by omega), fu_n _ _ (by omega), fu_n _ _ (by omega), fu_n _ _ (by omega), fu_n _ _ (by omega), fu_n _ _ (by omega), fu_n _ _ (by omega), fu_n _ _ (by omega), fu_n _ _ (by omega), fu_n _ _ (by omega), fu_n _ _ (by omega), fu_s]
theorem gMod_6 {ca : Nat → ClassId} {a n0 : Nat} (hne : a < n0) : gMod ca a n0 (n0 + 5) = some (.inl (ca 5, 12, .inl (fun _ => 0))) := by
  unfold gMod
  rw [fu_n _ _ (by omega), fu_n _ _ (by omega), fu_n _ _ (by omega), fu_n _ _ (by omega), fu_n _ _ (by omega), fu_n _ _ (by omega), fu_n _ _ (by omega), fu_n _ _ (by omega), fu_n _ _ (by omega), fu_n _ _ (by omega), fu_n _ _ (by omega), fu_s]
