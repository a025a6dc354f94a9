/-! the class: history and snapshot -/
def rr (h : DH) (j : Nat) : Nat := h.2 (8, 0, 0) j
/-- what a copy asks of its source -/
def cpk (h : DH) (i c : Nat) : Prop := h.1 (0, i, 0) 3 = nI c ∧ c ≤ 30 ∧ (∀ j, j < 12 → h.1 (4, i, j) 5 = 0 ∨ h.1 (4, i, j) 5 = 1) ∧ (h.1 (0, i, 0) 10 = 0 ∨ h.1 (0, i, 0) 10 = 1)
theorem c_copy (n i i' : Nat) (h : DH) (hne : i' ≠ i) {c : Nat} (hk : cpk h i' c) : dEx (n + 2) 2 [.inr (0, i, 0), .inr (0, i', 0)] h (none, cfull h i i' c) := c_copyFrom n i i' h hne hk.1 hk.2.1 hk.2.2.1 hk.2.2.2
theorem c_prepare (n : Nat) (h : DH) {a c : Nat} (ha : h.1 (7, 0, 0) 1 = nI a) (ha4 : a ≤ 4) (hne : rr h a ≠ 0) (hk : cpk h 0 c) : dEx (n + 3) 1 [.inr (7, 0, 0), .inr (0, 0, 0)] h (none, cfull h (rr h a) 0 c) := by
  refine dx_1 ?_
  refine Runs.go 6 rfl ⟨trivial, (by rw [ha]; exact i_in (show a < 5 by omega) (by decide))⟩ ?_
  rw [ha, i_cl (show a < 2 ^ 31 by omega)]
  refine Runs.calv rfl (c_copy n (rr h a) 0 h (fun t => hne t.symm) hk) ?_
  exact Runs.fin rfl trivial
theorem c_takeBack0 (n : Nat) (h : DH) (ha : h.1 (7, 0, 0) 1 = 0) : dEx (n + 3) 70 [.inr (7, 0, 0), .inr (0, 0, 0)] h (some (.inl 0), h) := by
  refine dx_70 ?_
  refine Runs.go 3 rfl trivial ?_
  rw [ha]
  refine Runs.ifF (by decide) ?_
  refine Runs.go 1 rfl trivial ?_
  exact Runs.fin rfl (Or.inl rfl)
theorem c_takeBack1 (n : Nat) (h : DH) {b c : Nat} (ha : h.1 (7, 0, 0) 1 = nI (b + 1)) (hb4 : b < 4) (hne : rr h b ≠ 0) (hk : cpk h (rr h b) c) : dEx (n + 3) 70 [.inr (7, 0, 0), .inr (0, 0, 0)] h (some (.inl 1), cfull (up1 h (7, 0, 0) 1 (nI b)) 0 (rr h b) c) := by
  refine dx_70 ?_
  refine Runs.go 3 rfl trivial ?_
  rw [ha]
  refine Runs.ifT ((nIpos (by omega)).mpr (by omega)) ?_
  have e : h.1 (7, 0, 0) 1 - 1 = nI b := by rw [ha, nIm1 (by omega)]; rfl
  have e2 : (up1 h (7, 0, 0) 1 (h.1 (7, 0, 0) 1 - 1)).1 (7, 0, 0) 1 = nI b := by rw [up1_1, if_pos ⟨rfl, rfl⟩, e]
  refine Runs.go 12 rfl ⟨trivial, (by rw [e2]; exact i_in (show b < 5 by omega) (by decide))⟩ ?_
  rw [e2, i_cl (show b < 2 ^ 31 by omega), e]
  refine Runs.calv rfl (c_copy n 0 (rr h b) (up1 h (7, 0, 0) 1 (nI b)) hne (c := c) ?_) ?_
  · obtain ⟨k1, k2, k3, k4⟩ := hk
    refine ⟨?_, k2, fun j hj => ?_, ?_⟩
    · rw [up1_ne _ _ _ (by simp)]; exact k1
    · rw [up1_ne _ _ _ (by simp)]; exact k3 j hj
    · rw [up1_ne _ _ _ (by simp)]; exact k4
  refine Runs.go 1 rfl trivial ?_
  exact Runs.fin rfl (Or.inr rfl)
/-- the oldest one is forgotten -/
def rotk (h : DH) (k : Nat) : DH := (h.1, fun q j => if q = (8, 0, 0) ∧ j < k then h.2 (8, 0, 0) (j + 1) else h.2 q j)
def rotH (h : DH) : DH := up2 (rotk h 4) (8, 0, 0) 4 (rr h 0)
theorem rotk_s (h : DH) (k : Nat) : up2 (rotk h k) (8, 0, 0) k ((rotk h k).2 (8, 0, 0) (k + 1)) = rotk h (k + 1) := by
  refine Prod.ext rfl ?_
  funext q j
  simp only [up2_2, rotk]
  by_cases hq : q = (8, 0, 0)
  · subst hq
    by_cases hj : j = k
    · subst hj
      have : ¬ j + 1 < j := by omega
      simp [this]
    · by_cases hk : j < k
      · rw [if_neg (fun t => hj t.2), if_pos ⟨rfl, hk⟩, if_pos ⟨rfl, by omega⟩]
      · rw [if_neg (fun t => hj t.2), if_neg (fun t => hk t.2), if_neg (fun t => by omega)]
  · simp [hq]
theorem c_forget (n : Nat) (h : DH) : dEx (n + 1) 8 [.inr (7, 0, 0)] h (none, rotH h) := by
  refine dx_8 ?_
  generalize hr : ((none : Option DV), rotH h) = r
  have e0 : h = rotk h 0 := by
    refine Prod.ext rfl ?_
    funext q j
    simp [rotk]
  refine Runs.go 7 rfl ⟨trivial, (by unfold vp_in; decide)⟩ ?_
  have goal : Runs dT_8 (dEx n) (9, [some (.inr (7, 0, 0)), some (.inr (0, rr h 0, 0)), some (.inl (nI 0))], [], rotk h 0) r := by
    refine Runs.loop 4 (fun k => (9, [some (.inr (7, 0, 0)), some (.inr (0, rr h 0, 0)), some (.inl (nI k))], [], rotk h k)) (fun k hk ih => ?_) ?_
    · refine Runs.go 3 rfl trivial ?_
      refine Runs.ifF (i_ge hk (by decide)) ?_
      refine Runs.go 12 rfl ⟨⟨trivial, (by rw [nI_1]; exact i_in (show k + 1 < 5 by omega) (by decide))⟩, (i_in (show k < 5 by omega) (by decide))⟩ ?_
      rw [nI_1, i_cl (show k + 1 < 2 ^ 31 by omega), i_cl (show k < 2 ^ 31 by omega), rotk_s]
      exact ih
    · refine Runs.go 3 rfl trivial ?_
      refine Runs.ifT (Int32.le_refl _) ?_
      refine Runs.go 5 rfl ⟨trivial, (by unfold vp_in; decide)⟩ ?_
      exact Runs.fin (by rw [← hr]; rfl) trivial
  rw [← e0] at goal
  exact goal
def recH (h : DH) (a : Nat) : DH := if a = 4 then rotH h else up1 h (7, 0, 0) 1 (nI (a + 1))
theorem c_recorded (n : Nat) (x : Int32) (h : DH) {a : Nat} (ha : h.1 (7, 0, 0) 1 = nI a) (ha4 : a ≤ 4) : dEx (n + 2) 7 [.inr (7, 0, 0), .inl x] h (some (.inl x), if x < 0 then h else recH h a) := by
  refine dx_7 ?_
  refine Runs.go 2 rfl trivial ?_
  by_cases z : x < 0
  · rw [if_pos z]
    refine Runs.ifF (fun t => absurd z (Int32.not_lt.mpr t)) ?_
    refine Runs.go 1 rfl trivial ?_
    exact Runs.fin rfl trivial
  · rw [if_neg z]
    refine Runs.ifT (Int32.not_lt.mp z) ?_
    refine Runs.go 4 rfl trivial ?_
    rw [ha]
    unfold recH
    by_cases z4 : a = 4
    · rw [if_pos z4]
      subst z4
      refine Runs.ifT (by decide) ?_
      refine Runs.go 1 rfl trivial ?_
      refine Runs.calv rfl (c_forget n h) ?_
      refine Runs.go 1 rfl trivial ?_
      exact Runs.fin rfl trivial
    · rw [if_neg z4]
      refine Runs.ifF (i_ge (show a < 4 by omega) (by decide)) ?_
      refine Runs.go 8 rfl trivial ?_
      refine Runs.fin ?_ trivial
      rw [ha, nI_1]
      rfl
theorem Fr_cfull (h : DH) (i i' c : Nat) : Fr i h (cfull h i i' c) := by
  have F1 : Fr i h (cpo h (1, i, 0) (1, i', 0) 10) := Fr_cpo Fr.rf ⟨by show (1 : Nat) ≤ 5; decide, rfl⟩
  have F3 := (F1.tr (Fr_cpD _ i i' 12)).tr (Fr_cpR _ i i' c)
  unfold cfull
  generalize cpR (cpD (cpo h (1, i, 0) (1, i', 0) 10) i i' 12) i i' c = g at F3 ⊢
  refine F3.tr (fun q hq => ⟨?_, rfl⟩)
  funext k
  have : q ≠ (0, i, 0) := fun e => hq (by rw [e]; exact ⟨by show (0 : Nat) ≤ 5; decide, rfl⟩)
  simp [cpS, this]
theorem c_undo0 (n : Nat) (h : DH) (ha : h.1 (7, 0, 0) 1 = 0) : dEx (n + 4) 69 [.inr (6, 0, 0)] h (some (.inl (-5)), h) := by
  refine dx_69 ?_
  refine Runs.go 4 rfl trivial ?_
  refine Runs.cal rfl (c_takeBack0 n h ha) ?_
  refine Runs.go 1 rfl trivial ?_
  refine Runs.ifT rfl ?_
  refine Runs.go 1 rfl trivial ?_
  exact Runs.fin rfl trivial
def undoH (h : DH) (b c : Nat) : DH := cfull (up1 h (7, 0, 0) 1 (nI b)) 0 (rr h b) c
theorem c_undo1 (n : Nat) (h : DH) {b c : Nat} (ha : h.1 (7, 0, 0) 1 = nI (b + 1)) (hb4 : b < 4) (hne : rr h b ≠ 0) (hk : cpk h (rr h b) c) : dEx (n + 4) 69 [.inr (6, 0, 0)] h (some (.inl (nI b)), undoH h b c) := by
  refine dx_69 ?_
  refine Runs.go 4 rfl trivial ?_
  refine Runs.cal rfl (c_takeBack1 n h ha hb4 hne hk) ?_
  refine Runs.go 1 rfl trivial ?_
  refine Runs.ifF (by decide) ?_
  refine Runs.go 4 rfl trivial ?_
  refine Runs.fin ?_ trivial
  have e : (cfull (up1 h (7, 0, 0) 1 (nI b)) 0 (rr h b) c).1 (7, 0, 0) 1 = nI b := by
    rw [(Fr_cfull _ 0 (rr h b) c).h1 (κ := (7, 0, 0)) (fun t => absurd t.1 (by decide)), up1_1, if_pos ⟨rfl, rfl⟩]
  rw [e]
  rfl
