/-! ticks in a row, on both sides -/
theorem SR.rok {h : DH} {i c : Nat} {s : Nat → Int32} (hs : SR h i c s) : rok h i c := by
  obtain ⟨h1, h2, h3, h4, h5, h6, h7, h8, h9, h10, h11⟩ := hs
  intro k hk
  have a := LC_at (h := h) (i := i) hk
  rw [h5, LM_at hk] at a
  obtain ⟨e, he, hed, _⟩ := h11 _ (LM_mem.mpr ⟨k, hk, rfl⟩)
  exact ⟨e, he, (congrArg dk5 (Option.some.inj a)).symm.trans hed⟩
theorem SR.pkok {h : DH} {i c : Nat} {s : Nat → Int32} (hs : SR h i c s) : pkok h i := ⟨c, hs.2.1, hs.2.2.1, hs.rok⟩
theorem pass_SR {h : DH} {i c : Nat} {s : Nat → Int32} (f : Nat → Int32) (hs : SR h i c s) : ∀ k, (∃ c', SR (pk h i k) i c' (rk s f k).1) ∧ ∀ j, j < 10 → (rk s f k).1 j = s j := by
  intro k
  induction k with
  | zero => exact ⟨⟨c, hs⟩, fun _ _ => rfl⟩
  | succ k ih =>
    obtain ⟨⟨c', h1⟩, h2⟩ := ih
    have e : pk h i (k + 1) = tick (pk h i k) i c' := by
      rw [show pk h i (k + 1) = tick (pk h i k) i ((pk h i k).1 (0, i, 0) 3).toNatClampNeg from rfl, h1.2.1, i_cl (by have := h1.2.2.1; omega)]
    rw [e, show rk s f (k + 1) = tickM (rk s f k).1 (rk s f k).2 from rfl]
    obtain ⟨c2, a1, a2⟩ := tick_SR (rk s f k).2 h1
    exact ⟨⟨c2, a1⟩, fun j hj => (a2 j hj).trans (h2 j hj)⟩
theorem pass_ok {h : DH} {i c : Nat} {s : Nat → Int32} (f : Nat → Int32) (hs : SR h i c s) (k : Nat) : pkok (pk h i k) i := by
  obtain ⟨⟨c', h1⟩, _⟩ := pass_SR f hs k
  exact h1.pkok
/-- the row counts only below 244 -/
theorem SR.row {h : DH} {i c : Nat} {s s' : Nat → Int32} (hs : SR h i c s) (e : ∀ k, k < 244 → s' k = s k) : SR h i c s' := by
  obtain ⟨h1, h2, h3, h4, h5, h6, h7, h8, h9, h10, h11⟩ := hs
  have eL : LM s' c = LM s c := LM_cg (fun k _ hk => e k (by omega))
  refine ⟨h1.m (fun k hk => e k (by omega)), h2, h3, (e 93 (by decide)).trans h4, h5.trans eL.symm, h6, h7, fun d hd => by rw [eL]; exact h8 d hd, ?_, fun d hd => (h10 d hd).cg (fun w _ => e _ (by unfold oD; omega)), fun r hr => ?_⟩
  · unfold NInv
    rw [e 0 (by decide), e 5 (by decide), e 6 (by decide), e 7 (by decide), e 15 (by decide)]
    exact h9
  · rw [eL] at hr
    refine (h11 r hr).cg (fun d hd _ => ?_)
    rw [e _ (by unfold oD; omega)]
    exact ⟨(em_ne _ 3).symm, id⟩
