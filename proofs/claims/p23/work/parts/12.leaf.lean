/-! the class's small methods -/
theorem c_flag (n : Nat) (x : Int32) (h : DH) : dEx (n + 1) 18 [.inl x] h (some (.inl (if x = 0 then 0 else 1)), h) := by
  refine dx_18 ?_
  refine Runs.go 2 rfl trivial ?_
  refine Runs.ifS (fun c => ?_) (fun c => ?_)
  · rw [if_pos c]
    refine Runs.go 1 rfl trivial ?_
    exact Runs.fin rfl trivial
  · rw [if_neg c]
    refine Runs.go 2 rfl trivial ?_
    exact Runs.fin rfl trivial
theorem c_isWithin (n : Nat) (x lo hi : Int32) (h : DH) : dEx (n + 1) 6 [.inl x, .inl lo, .inl hi] h (some (.inl (wi x lo hi)), h) := by
  refine dx_6 ?_
  unfold wi
  refine Runs.go 3 rfl trivial ?_
  refine Runs.ifS (fun c => ?_) (fun c => ?_)
  · rw [if_pos c]
    refine Runs.go 1 rfl trivial ?_
    exact Runs.fin rfl (Or.inl rfl)
  · rw [if_neg c]
    refine Runs.go 3 rfl trivial ?_
    refine Runs.ifS (fun c => ?_) (fun c => ?_)
    · rw [if_pos c]
      refine Runs.go 1 rfl trivial ?_
      exact Runs.fin rfl (Or.inl rfl)
    · rw [if_neg c]
      refine Runs.go 2 rfl trivial ?_
      exact Runs.fin rfl (Or.inr rfl)
theorem c_isDisk (n : Nat) (x : Int32) (h : DH) : dEx (n + 2) 11 [.inl x] h (some (.inl (wi x 0 11)), h) := by
  refine dx_11 ?_
  refine Runs.go 3 rfl trivial ?_
  refine Runs.cal rfl (c_isWithin n _ _ _ h) ?_
  exact Runs.fin rfl (wi_01 _ _ _)
def cpo (h : DH) (κ κ' : DKey) (n : Nat) : DH := (fun q k => if q = κ ∧ k < n then h.1 κ' k else h.1 q k, h.2)
theorem c_diskCopy (n : Nat) (i j i' j' : Nat) (h : DH) (hz : h.1 (4, i', j') 5 = 0 ∨ h.1 (4, i', j') 5 = 1) : dEx (n + 1) 3 [.inr (4, i, j), .inr (4, i', j')] h (none, cpo h (4, i, j) (4, i', j') 7) := by
  refine dx_3 ?_
  refine Runs.go 28 rfl ⟨trivial, (by simpa [up1_1] using hz)⟩ ?_
  refine Runs.fin ?_ trivial
  refine congrArg (fun z => some (True, (none, z))) ?_
  refine Prod.ext ?_ rfl
  funext q k
  simp only [up1_1, cpo]
  by_cases hq : q = (4, i, j)
  · subst hq
    by_cases hk : k < 7
    · have : k = 0 ∨ k = 1 ∨ k = 2 ∨ k = 3 ∨ k = 4 ∨ k = 5 ∨ k = 6 := by omega
      rcases this with rfl | rfl | rfl | rfl | rfl | rfl | rfl <;> simp
    · have : k ≠ 0 ∧ k ≠ 1 ∧ k ≠ 2 ∧ k ≠ 3 ∧ k ≠ 4 ∧ k ≠ 5 ∧ k ≠ 6 := by omega
      simp [this, hk]
  · simp [hq]
theorem c_readCopy (n : Nat) (i j i' j' : Nat) (h : DH) : dEx (n + 1) 4 [.inr (5, i, j), .inr (5, i', j')] h (none, cpo h (5, i, j) (5, i', j') 5) := by
  refine dx_4 ?_
  refine Runs.go 20 rfl trivial ?_
  refine Runs.fin ?_ trivial
  refine congrArg (fun z => some (True, (none, z))) ?_
  refine Prod.ext ?_ rfl
  funext q k
  simp only [up1_1, cpo]
  by_cases hq : q = (5, i, j)
  · subst hq
    by_cases hk : k < 5
    · have : k = 0 ∨ k = 1 ∨ k = 2 ∨ k = 3 ∨ k = 4 := by omega
      rcases this with rfl | rfl | rfl | rfl | rfl <;> simp
    · have : k ≠ 0 ∧ k ≠ 1 ∧ k ≠ 2 ∧ k ≠ 3 ∧ k ≠ 4 := by omega
      simp [this, hk]
  · simp [hq]
def sbH (h : DH) (κ : DKey) : DH := up1 (up1 (up1 h κ 0 0) κ 1 0) κ 3 0
theorem c_standBy (n : Nat) (i j : Nat) (h : DH) : dEx (n + 1) 22 [.inr (4, i, j)] h (none, sbH h (4, i, j)) := by
  refine dx_22 ?_
  refine Runs.go 9 rfl trivial ?_
  exact Runs.fin rfl trivial
theorem c_beginStart (n : Nat) (i j : Nat) (h : DH) (x : Int32) : dEx (n + 1) 41 [.inr (4, i, j), .inl x] h (none, up1 (up1 (up1 h (4, i, j) 0 1) (4, i, j) 1 x) (4, i, j) 4 (h.1 (4, i, j) 4 + 1)) := by
  refine dx_41 ?_
  refine Runs.go 12 rfl trivial ?_
  refine Runs.fin ?_ trivial
  simp only [up1_1]
  rfl
theorem c_spinUp (n : Nat) (i j : Nat) (h : DH) : dEx (n + 1) 34 [.inr (4, i, j)] h (none, up1 (up1 (up1 h (4, i, j) 0 2) (4, i, j) 2 0) (4, i, j) 3 0) := by
  refine dx_34 ?_
  refine Runs.go 9 rfl trivial ?_
  exact Runs.fin rfl trivial
theorem c_failStart (n : Nat) (i j : Nat) (h : DH) : dEx (n + 2) 32 [.inr (4, i, j)] h (none, if h.1 (4, i, j) 2 + 1 < 3 then up1 (up1 (sbH h (4, i, j)) (4, i, j) 5 0) (4, i, j) 2 (h.1 (4, i, j) 2 + 1) else up1 (up1 (up1 (sbH h (4, i, j)) (4, i, j) 5 0) (4, i, j) 2 (h.1 (4, i, j) 2 + 1)) (4, i, j) 0 3) := by
  refine dx_32 ?_
  refine Runs.go 1 rfl trivial ?_
  refine Runs.calv rfl (c_standBy n i j h) ?_
  refine Runs.go 13 rfl ⟨trivial, (Or.inl rfl)⟩ ?_
  have e : (up1 (sbH h (4, i, j)) (4, i, j) 5 0).1 (4, i, j) 2 = h.1 (4, i, j) 2 := by simp [up1_1, sbH]
  rw [e]
  have e2 : (up1 (up1 (sbH h (4, i, j)) (4, i, j) 5 0) (4, i, j) 2 (h.1 (4, i, j) 2 + 1)).1 (4, i, j) 2 = h.1 (4, i, j) 2 + 1 := by simp [up1_1]
  rw [e2]
  refine Runs.ifS (fun c => ?_) (fun c => ?_)
  · rw [if_pos c]
    exact Runs.fin rfl trivial
  · rw [if_neg c]
    refine Runs.go 3 rfl trivial ?_
    exact Runs.fin rfl trivial
theorem c_renew (n : Nat) (i j : Nat) (h : DH) : dEx (n + 2) 21 [.inr (4, i, j)] h (none, up1 (up1 (up1 (sbH h (4, i, j)) (4, i, j) 2 0) (4, i, j) 4 0) (4, i, j) 5 0) := by
  refine dx_21 ?_
  refine Runs.go 1 rfl trivial ?_
  refine Runs.calv rfl (c_standBy n i j h) ?_
  refine Runs.go 9 rfl ⟨trivial, (Or.inl rfl)⟩ ?_
  exact Runs.fin rfl trivial
/-- the current of a disk, by the class -/
def ccur (h : DH) (i j : Nat) : Int32 := if h.1 (4, i, j) 0 = 0 then h.1 (1, i, 0) 4 else if h.1 (4, i, j) 0 = 1 then h.1 (1, i, 0) 1 else if h.1 (4, i, j) 0 = 2 then h.1 (1, i, 0) 2 + (if h.1 (4, i, j) 6 ≤ 0 then 0 else h.1 (1, i, 0) 3) else 0
theorem c_currentOf (n : Nat) (i j : Nat) (h : DH) : dEx (n + 1) 26 [.inr (0, i, 0), .inr (4, i, j)] h (some (.inl (ccur h i j)), h) := by
  refine dx_26 ?_
  refine Runs.go 3 rfl trivial ?_
  unfold ccur
  by_cases c0 : h.1 (4, i, j) 0 = 0
  · rw [if_pos c0, c0]
    refine Runs.go 4 rfl ⟨trivial, (by unfold vp_in; decide)⟩ ?_
    exact Runs.fin rfl trivial
  · rw [if_neg c0]
    by_cases c1 : h.1 (4, i, j) 0 = 1
    · rw [if_pos c1, c1]
      refine Runs.go 4 rfl ⟨trivial, (by unfold vp_in; decide)⟩ ?_
      exact Runs.fin rfl trivial
    · rw [if_neg c1]
      by_cases c2 : h.1 (4, i, j) 0 = 2
      · rw [if_pos c2, c2]
        refine Runs.go 7 rfl ⟨trivial, (by unfold vp_in; decide)⟩ ?_
        refine Runs.ifS (fun c => ?_) (fun c => ?_)
        · rw [if_pos c]
          refine Runs.go 2 rfl trivial ?_
          exact Runs.fin rfl trivial
        · rw [if_neg c]
          refine Runs.go 6 rfl ⟨trivial, (by unfold vp_in; decide)⟩ ?_
          exact Runs.fin rfl trivial
      · rw [if_neg c2]
        have e : dtsw 71 0 [32, 39, 46] (h.1 (4, i, j) 0) = 71 := by
          show (if _ = (0 : Int32) then 32 else if _ = (0 + 1 : Int32) then 39 else if _ = (0 + 1 + 1 : Int32) then 46 else 71) = 71
          rw [if_neg c0, if_neg (show ¬ h.1 (4, i, j) 0 = (0 + 1 : Int32) from c1), if_neg (show ¬ h.1 (4, i, j) 0 = (0 + 1 + 1 : Int32) from c2)]
        rw [e]
        refine Runs.go 1 rfl trivial ?_
        exact Runs.fin rfl trivial
theorem c_currentOfNow (n : Nat) (i : Nat) (h : DH) : dEx (n + 2) 25 [.inr (0, i, 0)] h (some (.inl (sumN (ccur h i) 12)), h) := by
  refine dx_25 ?_
  refine Runs.go 4 rfl trivial ?_
  refine Runs.loop 12 (fun k => (4, [some (.inr (0, i, 0)), some (.inl (sumN (ccur h i) k)), some (.inl (nI k))], [], h)) (fun k hk ih => ?_) ?_
  · refine Runs.go 3 rfl trivial ?_
    refine Runs.ifF (i_ge hk (by decide)) ?_
    refine Runs.go 6 rfl ⟨trivial, (i_in hk (by decide))⟩ ?_
    rw [i_cl (by omega)]
    refine Runs.cal rfl (c_currentOf n i k h) ?_
    refine Runs.go 4 rfl trivial ?_
    rw [nI_1]
    exact ih
  · refine Runs.go 3 rfl trivial ?_
    refine Runs.ifT (Int32.le_refl _) ?_
    refine Runs.go 1 rfl trivial ?_
    exact Runs.fin rfl trivial
