/-! the class: ifAtOnce -/
theorem c_ifAt0 (n : Nat) (most w : Int32) (h : DH) (hb : ¬ (wip most 1 12 ∧ wip w 0 2)) : dEx (n + 6) 81 [.inr (6, 0, 0), .inl most, .inl w] h (some (.inl (-2)), h) := by
  refine dx_81 ?_
  refine Runs.go 7 rfl ⟨⟨trivial, (by unfold vp_in; decide)⟩, (by unfold vp_in; decide)⟩ ?_
  refine Runs.cal rfl (c_isWithin (n + 4) most 1 12 h) ?_
  refine Runs.go 1 rfl trivial ?_
  by_cases z : wip most 1 12
  · rw [wi_1 z]
    refine Runs.ifF (by decide) ?_
    refine Runs.go 3 rfl trivial ?_
    refine Runs.cal rfl (c_isWithin (n + 4) w 0 2 h) ?_
    rw [wi_0 (fun t => hb ⟨z, t⟩)]
    refine Runs.go 1 rfl trivial ?_
    refine Runs.ifT rfl ?_
    refine Runs.go 1 rfl trivial ?_
    exact Runs.fin rfl trivial
  · rw [wi_0 z]
    refine Runs.ifT rfl ?_
    refine Runs.go 1 rfl trivial ?_
    exact Runs.fin rfl trivial
theorem c_ifAt1 (n : Nat) (most : Int32) (h : DH) {v : Int32} {g : DH} (hb1 : wip most 1 12) (hu : dEx (n + 5) 82 [.inr (6, 0, 0), .inl most, .inl (nI 400)] h (some (.inl v), g)) : dEx (n + 6) 81 [.inr (6, 0, 0), .inl most, .inl 0] h (some (.inl v), g) := by
  refine dx_81 ?_
  refine Runs.go 7 rfl ⟨⟨trivial, (by unfold vp_in; decide)⟩, (by unfold vp_in; decide)⟩ ?_
  refine Runs.cal rfl (c_isWithin (n + 4) most 1 12 h) ?_
  refine Runs.go 1 rfl trivial ?_
  rw [wi_1 hb1]
  refine Runs.ifF (by decide) ?_
  refine Runs.go 3 rfl trivial ?_
  refine Runs.cal rfl (c_isWithin (n + 4) 0 0 2 h) ?_
  rw [wi_1 (show wip 0 0 2 by unfold wip; decide)]
  refine Runs.go 1 rfl trivial ?_
  refine Runs.ifF (by decide) ?_
  refine Runs.go 2 rfl trivial ?_
  refine Runs.ifT rfl ?_
  refine Runs.go 3 rfl trivial ?_
  refine Runs.cal rfl hu ?_
  exact Runs.fin rfl trivial
def trl0 (h : DH) (c : Nat) (most : Int32) : DH := up1 (trl h c most) (0, 1, 0) 9 0
theorem c_ifAt2 (n : Nat) (most w : Int32) (h : DH) {c : Nat} (hk : cpk h 0 c) (hb1 : wip most 1 12) (hb2 : wip w 0 2) (hw : ¬ w = 0) (hok : ∀ j, j < 100 → pkok (pk (trl0 h c most) 1 j) 1) : dEx (n + 6) 81 [.inr (6, 0, 0), .inl most, .inl w] h (some (.inl (if w = 1 then (pk (trl0 h c most) 1 100).1 (0, 1, 0) 9 else if (pk (trl0 h c most) 1 100).1 (0, 1, 0) 10 = 0 then 0 else 1)), pk (trl0 h c most) 1 100) := by
  refine dx_81 ?_
  refine Runs.go 7 rfl ⟨⟨trivial, (by unfold vp_in; decide)⟩, (by unfold vp_in; decide)⟩ ?_
  refine Runs.cal rfl (c_isWithin (n + 4) most 1 12 h) ?_
  refine Runs.go 1 rfl trivial ?_
  rw [wi_1 hb1]
  refine Runs.ifF (by decide) ?_
  refine Runs.go 3 rfl trivial ?_
  refine Runs.cal rfl (c_isWithin (n + 4) w 0 2 h) ?_
  rw [wi_1 hb2]
  refine Runs.go 1 rfl trivial ?_
  refine Runs.ifF (by decide) ?_
  refine Runs.go 2 rfl trivial ?_
  refine Runs.ifF hw ?_
  refine Runs.go 2 rfl trivial ?_
  refine Runs.calv rfl (c_begin (n + 2) most h hk) ?_
  refine Runs.go 6 rfl trivial ?_
  rw [show up1 (trl h c most) (0, 1, 0) 9 0 = trl0 h c most from rfl]
  generalize trl0 h c most = g at *
  generalize hr : ((some (.inl (if w = 1 then (pk g 1 100).1 (0, 1, 0) 9 else if (pk g 1 100).1 (0, 1, 0) 10 = 0 then 0 else 1)) : Option DV), pk g 1 100) = r
  refine Runs.loop 100 (fun k => (59, [some (.inr (6, 0, 0)), some (.inl most), some (.inl w), some (.inl (nI k))], [], pk g 1 k)) (fun k hk2 ih => ?_) ?_
  · refine Runs.go 3 rfl trivial ?_
    refine Runs.ifF (i_ge hk2 (by decide)) ?_
    obtain ⟨c', h1, h2, h3⟩ := hok k hk2
    rw [show pk g 1 (k + 1) = tick (pk g 1 k) 1 ((pk g 1 k).1 (0, 1, 0) 3).toNatClampNeg from rfl, h1, i_cl (show c' < 2 ^ 31 by omega)] at ih
    generalize pk g 1 k = q at h1 h3 ih ⊢
    refine Runs.go 2 rfl trivial ?_
    refine Runs.calv rfl (c_tick (n + 1) 1 q h1 h2 h3) ?_
    refine Runs.go 2 rfl trivial ?_
    rw [nI_1]
    exact ih
  · refine Runs.go 3 rfl trivial ?_
    refine Runs.ifT (Int32.le_refl _) ?_
    generalize pk g 1 100 = q at hr ⊢
    refine Runs.go 3 rfl trivial ?_
    by_cases z : w = 1
    · rw [if_pos z] at hr
      refine Runs.ifT z ?_
      refine Runs.go 4 rfl trivial ?_
      exact Runs.fin (by rw [← hr]; rfl) trivial
    · rw [if_neg z] at hr
      refine Runs.ifF z ?_
      refine Runs.go 3 rfl trivial ?_
      refine Runs.cal rfl (c_flag (n + 4) _ q) ?_
      exact Runs.fin (by rw [← hr]; rfl) trivial
