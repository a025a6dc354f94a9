/-! the reference: ifAtOnce -/
theorem m_ifAtOnce0 (n : Nat) (most w : Int32) (h : DH) (s f : Nat → Int32) (hb : ¬ (wip most 1 12 ∧ wip w 0 2)) : dEx (n + 8) 142 [.inr (14, 0, 0), .inl most, .inl w] (hp h s f) (some (.inl (-2)), hp h s f) := by
  refine dx_142 ?_
  refine Runs.go 3 rfl trivial ?_
  refine Runs.cal rfl (m_in (n + 6) _ _ _ _) ?_
  refine Runs.go 1 rfl trivial ?_
  by_cases z : wip most 1 12
  · rw [wi_1 z]
    refine Runs.ifF (by decide) ?_
    refine Runs.go 3 rfl trivial ?_
    refine Runs.cal rfl (m_in (n + 6) _ _ _ _) ?_
    rw [wi_0 (fun t => hb ⟨z, t⟩)]
    refine Runs.go 1 rfl trivial ?_
    refine Runs.ifT rfl ?_
    refine Runs.go 1 rfl trivial ?_
    exact Runs.fin rfl trivial
  · rw [wi_0 z]
    refine Runs.ifT rfl ?_
    refine Runs.go 1 rfl trivial ?_
    exact Runs.fin rfl trivial
theorem m_ifAtOnce1 (n : Nat) (most w : Int32) (h : DH) (s f : Nat → Int32) (hb1 : wip most 1 12) (hb2 : wip w 0 2) (hk : okC s) {N : Nat} (hN : N ≤ 400) (hw : ¬ w = 0 → N = 100) (hgo : w = 0 → ∀ j, j < N → 0 < (rk (upd s 8 most) f j).1 93) (hst : w = 0 → N = 400 ∨ ¬ 0 < (rk (upd s 8 most) f N).1 93) : dEx (n + 8) 142 [.inr (14, 0, 0), .inl most, .inl w] (hp h s f) (some (.inl (trA (upd s 8 most) f w N)), hp (asd h s) (cp5 (rk (upd s 8 most) f N).1 0 ((asd h s).1 (16, 0, 0)) 244) (rk (upd s 8 most) f N).2) := by
  refine dx_142 ?_
  refine Runs.go 3 rfl trivial ?_
  refine Runs.cal rfl (m_in (n + 6) _ _ _ _) ?_
  refine Runs.go 1 rfl trivial ?_
  rw [wi_1 hb1]
  refine Runs.ifF (by decide) ?_
  refine Runs.go 3 rfl trivial ?_
  refine Runs.cal rfl (m_in (n + 6) _ _ _ _) ?_
  rw [wi_1 hb2]
  refine Runs.go 1 rfl trivial ?_
  refine Runs.ifF (by decide) ?_
  refine Runs.go 3 rfl trivial ?_
  refine Runs.cal rfl (m_tried n most w h s f hk hN hw hgo hst) ?_
  refine Runs.go 1 rfl trivial ?_
  exact Runs.fin rfl trivial
