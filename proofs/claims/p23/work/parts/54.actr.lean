/-! acts, on both sides -/
theorem NInv.num {s : Nat → Int32} (h : NInv s) {w : Nat} (hw : w < 10) {x : Int32} (hx : wip x (dcst 1 w) (dcst 2 w)) : NInv (upd s w x) := by
  obtain ⟨y1, y2, y3, y4, y5⟩ := h
  refine ⟨?_, ?_, ?_, ?_, ?_⟩
  · by_cases z : w = 0
    · subst z
      obtain ⟨k, k1, k2, k3⟩ := wip_nI2 (a := 1) (b := 20) (by decide) (by decide) hx
      exact ⟨k, k1, k2, (upd_s _ _ _).trans k3⟩
    · rw [upd_n _ _ (fun t => z t.symm)]; exact y1
  · by_cases z : w = 5
    · subst z
      obtain ⟨k, k1, k2, k3⟩ := wip_nI2 (a := 10) (b := 500) (by decide) (by decide) hx
      exact ⟨k, k2, (upd_s _ _ _).trans k3⟩
    · rw [upd_n _ _ (fun t => z t.symm)]; exact y2
  · by_cases z : w = 6
    · subst z
      obtain ⟨k, k1, k2, k3⟩ := wip_nI2 (a := 0) (b := 100) (by decide) (by decide) hx
      exact ⟨k, k2, (upd_s _ _ _).trans k3⟩
    · rw [upd_n _ _ (fun t => z t.symm)]; exact y3
  · by_cases z : w = 7
    · subst z
      obtain ⟨k, k1, k2, k3⟩ := wip_nI2 (a := 0) (b := 20) (by decide) (by decide) hx
      exact ⟨k, k2, (upd_s _ _ _).trans k3⟩
    · rw [upd_n _ _ (fun t => z t.symm)]; exact y4
  · rw [upd_n _ _ (by omega)]; exact y5
theorem set_SR {h : DH} {i c : Nat} {s : Nat → Int32} (hs : SR h i c s) {w : Nat} (hw : w < 10) {x : Int32} (hx : wip x (dcst 1 w) (dcst 2 w)) : SR (up1 h (1, i, 0) w x) i c (upd s w x) := by
  obtain ⟨h1, h2, h3, h4, h5, h6, h7, h8, h9, h10, h11⟩ := hs
  have eL : LM (upd s w x) c = LM s c := LM_lo (by omega) x
  refine ⟨⟨fun n hn => ?_, fun k hk hk2 => ?_, fun d hd f hf => ?_⟩, by rw [up1_ne _ _ _ (by simp)]; exact h2, h3, by rw [upd_n _ _ (by omega)]; exact h4, by rw [LC_o (show (1 : Nat) ≠ 5 by decide), eL]; exact h5, h6, h7, fun e he => by rw [up1_ne _ _ _ (by simp), eL]; exact h8 e he, h9.num hw hx, fun e he => (h10 e he).cg (fun w' _ => upd_n _ _ (by unfold oD; omega)), fun r hr => ?_⟩
  · rw [up1_1]
    by_cases z : n = w
    · rw [z, if_pos ⟨rfl, rfl⟩, upd_s]
    · rw [if_neg (fun t => z t.2), upd_n _ _ z]
      exact h1.1 n hn
  · have := ms_lt k
    rw [up1_ne _ _ _ (by simp), upd_n _ _ (by omega)]
    exact h1.2.1 k hk hk2
  · rw [up1_ne _ _ _ (by simp), upd_n _ _ (by unfold oD; omega)]
    exact h1.2.2 d hd f hf
  · rw [eL] at hr
    refine (h11 r hr).cg (fun e _ _ => ?_)
    rw [upd_n _ _ (by unfold oD; omega)]
    exact ⟨(em_ne _ 3).symm, id⟩
/-- the fuse is renewed -/
theorem fuse2_SR {h : DH} {i c : Nat} {s : Nat → Int32} (hs : SR h i c s) : SR (up1 (up1 h (0, i, 0) 10 0) (0, i, 0) 11 0) i c (nf s) := (hs.sc (show 4 ≤ 10 by decide) (by decide) 0 (fun _ => Or.inl rfl)).sc (show 4 ≤ 11 by decide) (by decide) 0 (fun t => absurd t (by decide))
