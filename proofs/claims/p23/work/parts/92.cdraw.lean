/-! the drawer is made -/
theorem mix_n {f g : Nat → Option va_E} {a n b : Nat} (h : ¬ (b = a ∨ n ≤ b)) : mix f g a n b = f b := if_neg h
theorem mix_s {f g : Nat → Option va_E} {a n b : Nat} (h : b = a ∨ n ≤ b) : mix f g a n b = g b := if_pos h
def oDr (n0 : Nat) : List Value := (((((bls 3).set 0 (.ref n0)).set 1 (.ref (n0 + 46))).set 2 (.ref (n0 + 92))).set 3 (.int 0)).set 4 (.ref (n0 + 138)) |>.set 5 (.ref (n0 + 370))
def gD (ca : Nat → ClassId) (a n0 : Nat) : Nat → Option va_E := fun b =>
  if b = a then some (.inr (3, oDr n0))
  else if n0 ≤ b ∧ b < n0 + 46 then gS ca n0 (n0 + 1) 10 12 30 b
  else if n0 + 46 ≤ b ∧ b < n0 + 92 then gS ca (n0 + 46) (n0 + 46 + 1) 10 12 30 b
  else if n0 + 92 ≤ b ∧ b < n0 + 138 then gS ca (n0 + 92) (n0 + 92 + 1) 10 12 30 b
  else if n0 + 138 ≤ b ∧ b < n0 + 370 then gP ca (n0 + 138) (n0 + 138 + 1) 5 b
  else if n0 + 370 ≤ b ∧ b < n0 + 375 then gProg ca (n0 + 370) (n0 + 370 + 1) b
  else none
def rmW : Room := { frames := 4, cells := 375, slots := 2550, locals := 90 }
theorem c_Draw (l : Launch) {D : va_G} {ad : DKey → Nat} {ca : Nat → ClassId} {fm : Value} {xs : Nat → Int32} {SL z0 a n0 : Nat} : cMet l D ad ca fm xs SL z0 ⟨"DiskDrawer", "<init>", "()V"⟩ prog_1_method_1_code 1 rmW a n0 375 (.inr (3, bls 3)) (gD ca a n0) :=
  cMet_of (o := 3) (idx := 3) (by decide) rfl rfl (by decide) (dWd_of (i := 29) (by decide +kernel) rfl) (by decide +kernel) (by decide +kernel) (by decide) (by decide) fun p e s m args below meth c ls C hml hlv hin hr hlk hz hza hB => by
    have hne : a < n0 := hB.lt (a := a) (if_pos rfl)
    have hA0 : ∀ q, cA a n0 q → z0 ≤ q := fun q hq => by
      rcases hq with rfl | hq
      · exact hza
      · omega
    have hA : cA a n0 a := Or.inl rfl
    have hAn : ∀ q, s.heap.size ≤ q → cA a n0 q := fun q hq => Or.inr (by omega)
    have hS : va_S (cA a n0) s.heap s.heap [] := va_S.rf
    refine lv_aload_n (pc := 4) (k := 0) (i := 0) (x := a) C.1 C.2.1 (by decide +kernel) rfl (lv_at hlv 0 rfl) ?_
    refine b_new (pc := 5) (idx := 9) (ci := 0) C hB hS (by decide) (dWd_of (i := 32) (by decide +kernel) rfl) (dWd_of (i := 33) (by decide +kernel) rfl) (dWd_of (i := 18) (by decide +kernel) rfl) (by decide) (by decide) (by decide +kernel) fun H0a hB0a hS0a => ?_
    refine lv_dup (pc := 8) C.1 C.2.1 (by decide +kernel) rfl ?_
    refine b_callI (pc := 9) (idx := 11) (a := n0) (y := ⟨"DiskDrawer$State", "<init>", "()V"⟩) C hml hlv.1 hB0a hS0a hA0 hAn (Or.inr (by omega)) (fu_s _ _ _) (c_State l) rfl (by decide +kernel) (dWd_of (i := 36) (by decide +kernel) rfl) (dWd_of (i := 18) (by decide +kernel) rfl) (dWd_of (i := 34) (by decide +kernel) rfl) (dWd_of (i := 35) (by decide +kernel) rfl) (by decide) (by decide) (by show 2 ≤ 8; decide) (by decide +kernel) fun H0b locs0b hB0b hS0b => ?_
    have hB0c : BW D (n0 + 46) _ H0b := ⟨hB0b.1.trans (by omega), hB0b.2⟩
    refine b_putF (pc := 12) (idx := 12) (ci := 3) (k := 0) (a := a) (fs := bls 3) C hB0c hS0b (by decide) (by rw [mix_n (by omega), fu_n _ _ (by omega)]; exact if_pos rfl) rfl hA (by decide) (dWd_of (i := 203) (by decide +kernel) rfl) rfl hin rfl rfl rfl (by decide +kernel) fun H0d locs0d hB0d hS0d => ?_
    refine lv_aload_n (pc := 15) (k := 0) (i := 0) (x := a) C.1 C.2.1 (by decide +kernel) rfl (lv_at hlv 0 rfl) ?_
    refine b_new (pc := 16) (idx := 9) (ci := 0) C hB0d hS0d (by decide) (dWd_of (i := 32) (by decide +kernel) rfl) (dWd_of (i := 33) (by decide +kernel) rfl) (dWd_of (i := 18) (by decide +kernel) rfl) (by decide) (by decide) (by decide +kernel) fun H1a hB1a hS1a => ?_
    refine lv_dup (pc := 19) C.1 C.2.1 (by decide +kernel) rfl ?_
    refine b_callI (pc := 20) (idx := 11) (a := (n0 + 46)) (y := ⟨"DiskDrawer$State", "<init>", "()V"⟩) C hml hlv.1 hB1a hS1a hA0 hAn (Or.inr (by omega)) (fu_s _ _ _) (c_State l) rfl (by decide +kernel) (dWd_of (i := 36) (by decide +kernel) rfl) (dWd_of (i := 18) (by decide +kernel) rfl) (dWd_of (i := 34) (by decide +kernel) rfl) (dWd_of (i := 35) (by decide +kernel) rfl) (by decide) (by decide) (by show 2 ≤ 8; decide) (by decide +kernel) fun H1b locs1b hB1b hS1b => ?_
    have hB1c : BW D (n0 + 92) _ H1b := ⟨hB1b.1.trans (by omega), hB1b.2⟩
    refine b_putF (pc := 23) (idx := 16) (ci := 3) (k := 1) (a := a) (fs := (bls 3).set 0 (.ref n0)) C hB1c hS1b (by decide) (by rw [mix_n (by omega), fu_n _ _ (by omega)]; exact fu_s _ _ _) rfl hA (by decide) (dWd_of (i := 204) (by decide +kernel) rfl) rfl hin rfl rfl rfl (by decide +kernel) fun H1d locs1d hB1d hS1d => ?_
    refine lv_aload_n (pc := 26) (k := 0) (i := 0) (x := a) C.1 C.2.1 (by decide +kernel) rfl (lv_at hlv 0 rfl) ?_
    refine b_new (pc := 27) (idx := 9) (ci := 0) C hB1d hS1d (by decide) (dWd_of (i := 32) (by decide +kernel) rfl) (dWd_of (i := 33) (by decide +kernel) rfl) (dWd_of (i := 18) (by decide +kernel) rfl) (by decide) (by decide) (by decide +kernel) fun H2a hB2a hS2a => ?_
    refine lv_dup (pc := 30) C.1 C.2.1 (by decide +kernel) rfl ?_
    refine b_callI (pc := 31) (idx := 11) (a := (n0 + 92)) (y := ⟨"DiskDrawer$State", "<init>", "()V"⟩) C hml hlv.1 hB2a hS2a hA0 hAn (Or.inr (by omega)) (fu_s _ _ _) (c_State l) rfl (by decide +kernel) (dWd_of (i := 36) (by decide +kernel) rfl) (dWd_of (i := 18) (by decide +kernel) rfl) (dWd_of (i := 34) (by decide +kernel) rfl) (dWd_of (i := 35) (by decide +kernel) rfl) (by decide) (by decide) (by show 2 ≤ 8; decide) (by decide +kernel) fun H2b locs2b hB2b hS2b => ?_
    have hB2c : BW D (n0 + 138) _ H2b := ⟨hB2b.1.trans (by omega), hB2b.2⟩
    refine b_putF (pc := 34) (idx := 19) (ci := 3) (k := 2) (a := a) (fs := ((bls 3).set 0 (.ref n0)).set 1 (.ref (n0 + 46))) C hB2c hS2b (by decide) (by rw [mix_n (by omega), fu_n _ _ (by omega)]; exact fu_s _ _ _) rfl hA (by decide) (dWd_of (i := 205) (by decide +kernel) rfl) rfl hin rfl rfl rfl (by decide +kernel) fun H2d locs2d hB2d hS2d => ?_
    refine lv_aload_n (pc := 37) (k := 0) (i := 0) (x := a) C.1 C.2.1 (by decide +kernel) rfl (lv_at hlv 0 rfl) ?_
    refine lv_iconst (pc := 38) (n := 0) (v := 0) C.1 C.2.1 (by decide +kernel) rfl ?_
    refine b_putZ (pc := 39) (idx := 22) (ci := 3) (k := 3) (a := a) (fs := (((bls 3).set 0 (.ref n0)).set 1 (.ref (n0 + 46))).set 2 (.ref (n0 + 92))) C hB2d hS2d (by decide) (fu_s _ _ _) rfl hA (by decide) (dWd_of (i := 206) (by decide +kernel) rfl) rfl rfl rfl (by decide +kernel) fun Hz locsz hBz hSz => ?_
    refine lv_aload_n (pc := 42) (k := 0) (i := 0) (x := a) C.1 C.2.1 (by decide +kernel) rfl (lv_at hlv 0 rfl) ?_
    refine b_new (pc := 43) (idx := 26) (ci := 4) C hBz hSz (by decide) (dWd_of (i := 159) (by decide +kernel) rfl) (dWd_of (i := 160) (by decide +kernel) rfl) (dWd_of (i := 21) (by decide +kernel) rfl) (by decide) (by decide) (by decide +kernel) fun H4a hB4a hS4a => ?_
    refine lv_dup (pc := 46) C.1 C.2.1 (by decide +kernel) rfl ?_
    refine b_callI (pc := 47) (idx := 28) (a := (n0 + 138)) (y := ⟨"DiskDrawer$Past", "<init>", "()V"⟩) C hml hlv.1 hB4a hS4a hA0 hAn (Or.inr (by omega)) (fu_s _ _ _) (c_Past l) rfl (by decide +kernel) (dWd_of (i := 163) (by decide +kernel) rfl) (dWd_of (i := 21) (by decide +kernel) rfl) (dWd_of (i := 161) (by decide +kernel) rfl) (dWd_of (i := 162) (by decide +kernel) rfl) (by decide) (by decide) (by show 2 ≤ 8; decide) (by decide +kernel) fun H4b locs4b hB4b hS4b => ?_
    have hB4c : BW D (n0 + 370) _ H4b := ⟨hB4b.1.trans (by omega), hB4b.2⟩
    refine b_putF (pc := 50) (idx := 29) (ci := 3) (k := 4) (a := a) (fs := ((((bls 3).set 0 (.ref n0)).set 1 (.ref (n0 + 46))).set 2 (.ref (n0 + 92))).set 3 (.int 0)) C hB4c hS4b (by decide) (by rw [mix_n (by omega), fu_n _ _ (by omega)]; exact fu_s _ _ _) rfl hA (by decide) (dWd_of (i := 207) (by decide +kernel) rfl) rfl hin rfl rfl rfl (by decide +kernel) fun H4d locs4d hB4d hS4d => ?_
    refine lv_aload_n (pc := 53) (k := 0) (i := 0) (x := a) C.1 C.2.1 (by decide +kernel) rfl (lv_at hlv 0 rfl) ?_
    refine b_new (pc := 54) (idx := 33) (ci := 5) C hB4d hS4d (by decide) (dWd_of (i := 176) (by decide +kernel) rfl) (dWd_of (i := 177) (by decide +kernel) rfl) (dWd_of (i := 22) (by decide +kernel) rfl) (by decide) (by decide) (by decide +kernel) fun H5a hB5a hS5a => ?_
    refine lv_dup (pc := 57) C.1 C.2.1 (by decide +kernel) rfl ?_
    refine b_callN (pc := 58) (idx := 35) (a := (n0 + 370)) (y := ⟨"DiskDrawer$Program", "<init>", "()V"⟩) C hml hlv.1 hB5a hS5a hA0 hAn (Or.inr (by omega)) (fu_s _ _ _) (c_Prog l) rfl (by decide +kernel) (dWd_of (i := 180) (by decide +kernel) rfl) (dWd_of (i := 22) (by decide +kernel) rfl) (List.mem_filter.mpr ⟨List.mem_of_getElem? (i := 178) (by decide +kernel), rfl⟩) (dWd_of (i := 179) (by decide +kernel) rfl) (by decide) (by decide) (by show 2 ≤ 8; decide) (by decide +kernel) fun H5b locs5b hB5b hS5b => ?_
    have hB5c : BW D (n0 + 375) _ H5b := ⟨hB5b.1.trans (by omega), hB5b.2⟩
    refine b_putF (pc := 61) (idx := 36) (ci := 3) (k := 5) (a := a) (fs := (((((bls 3).set 0 (.ref n0)).set 1 (.ref (n0 + 46))).set 2 (.ref (n0 + 92))).set 3 (.int 0)).set 4 (.ref (n0 + 138))) C hB5c hS5b (by decide) (by rw [mix_n (by omega), fu_n _ _ (by omega)]; exact fu_s _ _ _) rfl hA (by decide) (dWd_of (i := 208) (by decide +kernel) rfl) rfl hin rfl rfl rfl (by decide +kernel) fun H5d locs5d hB5d hS5d => ?_
    refine cEnd C hr hlk hB5d hS5d rfl (fun b e h => ?_) rfl rfl (by decide +kernel)
    unfold gD at h
    by_cases z : b = a
    · rw [if_pos z] at h
      rw [z, fu_s]
      exact h
    rw [if_neg z] at h
    rw [fu_n _ _ z]
    by_cases z0 : n0 + 0 ≤ b ∧ b < n0 + 46
    · rw [if_pos (by omega)] at h
      rw [mix_n (by omega), fu_n _ _ (by omega), fu_n _ _ z, mix_n (by omega), fu_n _ _ (by omega), fu_n _ _ z, fu_n _ _ z, mix_n (by omega), fu_n _ _ (by omega), fu_n _ _ z, mix_n (by omega), fu_n _ _ (by omega), fu_n _ _ z, mix_s (by omega)]
      exact h
    rw [if_neg (by omega)] at h
    by_cases z1 : n0 + 46 ≤ b ∧ b < n0 + 92
    · rw [if_pos (by omega)] at h
      rw [mix_n (by omega), fu_n _ _ (by omega), fu_n _ _ z, mix_n (by omega), fu_n _ _ (by omega), fu_n _ _ z, fu_n _ _ z, mix_n (by omega), fu_n _ _ (by omega), fu_n _ _ z, mix_s (by omega)]
      exact h
    rw [if_neg (by omega)] at h
    by_cases z2 : n0 + 92 ≤ b ∧ b < n0 + 138
    · rw [if_pos (by omega)] at h
      rw [mix_n (by omega), fu_n _ _ (by omega), fu_n _ _ z, mix_n (by omega), fu_n _ _ (by omega), fu_n _ _ z, fu_n _ _ z, mix_s (by omega)]
      exact h
    rw [if_neg (by omega)] at h
    by_cases z3 : n0 + 138 ≤ b ∧ b < n0 + 370
    · rw [if_pos (by omega)] at h
      rw [mix_n (by omega), fu_n _ _ (by omega), fu_n _ _ z, mix_s (by omega)]
      exact h
    rw [if_neg (by omega)] at h
    by_cases z4 : n0 + 370 ≤ b ∧ b < n0 + 375
    · rw [if_pos (by omega)] at h
      rw [mix_s (by omega)]
      exact h
    rw [if_neg (by omega)] at h
    cases h
