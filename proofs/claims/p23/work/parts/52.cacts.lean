/-! the class: a read is taken back; ticks pass -/
def drpG (h : DH) (i p : Nat) : DH := up1 h (5, i, h.2 (3, i, 0) p) 3 0
def drpH (h : DH) (i c p : Nat) : DH := up1 (sw (drpG h i p) i c).1 (0, i, 0) 3 (nI (sw (drpG h i p) i c).2)
theorem c_dropRead (n i : Nat) (x : Int32) (h : DH) {c : Nat} (hc : h.1 (0, i, 0) 3 = nI c) (h30 : c ≤ 30) (hk0 : rok h i c) : dEx (n + 2) 13 [.inr (0, i, 0), .inl x] h (match cplc h i c x with | none => (some (.inl (-1)), h) | some p => (some (.inl (nI (sw (drpG h i p) i c).2)), drpH h i c p)) := by
  refine dx_13 ?_
  refine Runs.go 2 rfl trivial ?_
  refine Runs.cal rfl (c_placeOf n i x h hc h30) ?_
  cases hp' : cplc h i c x with
  | none =>
    dsimp only [oI]
    refine Runs.go 3 rfl trivial ?_
    refine Runs.ifF (by decide) ?_
    refine Runs.go 1 rfl trivial ?_
    exact Runs.fin rfl trivial
  | some p =>
    obtain ⟨p1, _, _⟩ := fp_some hp'
    dsimp only [oI]
    refine Runs.go 3 rfl trivial ?_
    refine Runs.ifT (Int32.not_lt.mp (nI_pos (show p < 2 ^ 31 by omega))) ?_
    refine Runs.go 7 rfl ⟨trivial, (i_in (show p < 30 by omega) (by decide))⟩ ?_
    rw [i_cl (show p < 2 ^ 31 by omega)]
    have hc' : (drpG h i p).1 (0, i, 0) 3 = nI c := by unfold drpG; rw [up1_ne _ _ _ (by simp), hc]
    have hk' : rok (drpG h i p) i c := by
      intro k hk
      obtain ⟨d, hd, e⟩ := hk0 k hk
      refine ⟨d, hd, ?_⟩
      unfold drpG
      rw [up1_1, if_neg (fun t => absurd t.2 (by decide))]
      exact e
    refine Runs.calv rfl (c_sweep n i (drpG h i p) hc' h30 hk') ?_
    refine Runs.go 2 rfl trivial ?_
    rw [up1_1, if_pos ⟨rfl, rfl⟩]
    exact Runs.fin rfl trivial
/-- ticks in a row -/
def pk (h : DH) (i : Nat) : Nat → DH
  | 0 => h
  | k + 1 => tick (pk h i k) i ((pk h i k).1 (0, i, 0) 3).toNatClampNeg
def pkok (h : DH) (i : Nat) : Prop := ∃ c, h.1 (0, i, 0) 3 = nI c ∧ c ≤ 30 ∧ rok h i c
theorem c_ticks (n i t : Nat) (ht : t < 2 ^ 31) (x : Int32) (h : DH) (hok : ∀ k, k < t → pkok (pk h i k) i) : Runs dT_28 (dEx (n + 4)) (35, [some (.inr (0, i, 0)), some (.inl (nI t)), some (.inl x), some (.inl (nI 0))], [], h) (some (.inl ((pk h i t).1 (0, i, 0) 5 - x)), pk h i t) := by
  generalize hr : ((some (.inl ((pk h i t).1 (0, i, 0) 5 - x)) : Option DV), pk h i t) = r
  refine Runs.loop t (fun k => (35, [some (.inr (0, i, 0)), some (.inl (nI t)), some (.inl x), some (.inl (nI k))], [], pk h i k)) (fun k hk ih => ?_) ?_
  · refine Runs.go 3 rfl trivial ?_
    refine Runs.ifF (nI_ge hk ht) ?_
    obtain ⟨c, h1, h2, h3⟩ := hok k hk
    rw [show pk h i (k + 1) = tick (pk h i k) i ((pk h i k).1 (0, i, 0) 3).toNatClampNeg from rfl, h1, i_cl (show c < 2 ^ 31 by omega)] at ih
    generalize pk h i k = g at h1 h3 ih ⊢
    refine Runs.go 1 rfl trivial ?_
    refine Runs.calv rfl (c_tick n i g h1 h2 h3) ?_
    refine Runs.go 2 rfl trivial ?_
    rw [nI_1]
    exact ih
  · refine Runs.go 3 rfl trivial ?_
    refine Runs.ifT (Int32.le_refl _) ?_
    refine Runs.go 4 rfl trivial ?_
    exact Runs.fin (by rw [← hr]; rfl) trivial
theorem c_pass0 (n i : Nat) (x : Int32) (h : DH) (hx : ¬ wip x 1 200) : dEx (n + 5) 28 [.inr (0, i, 0), .inl x] h (some (.inl (-2)), h) := by
  refine dx_28 ?_
  refine Runs.go 3 rfl trivial ?_
  refine Runs.cal rfl (c_isWithin (n + 3) _ _ _ h) ?_
  rw [wi_0 hx]
  refine Runs.go 1 rfl trivial ?_
  refine Runs.ifT rfl ?_
  refine Runs.go 1 rfl trivial ?_
  exact Runs.fin rfl trivial
theorem c_pass1 (n i t : Nat) (ht : t < 2 ^ 31) (h : DH) (hx : wip (nI t) 1 200) (hok : h.1 (0, i, 0) 8 + nI t ≤ 99999 → ∀ k, k < t → pkok (pk h i k) i) : dEx (n + 5) 28 [.inr (0, i, 0), .inl (nI t)] h (if h.1 (0, i, 0) 8 + nI t ≤ 99999 then (some (.inl ((pk h i t).1 (0, i, 0) 5 - h.1 (0, i, 0) 5)), pk h i t) else (some (.inl (-3)), h)) := by
  refine dx_28 ?_
  refine Runs.go 3 rfl trivial ?_
  refine Runs.cal rfl (c_isWithin (n + 3) _ _ _ h) ?_
  rw [wi_1 hx]
  refine Runs.go 1 rfl trivial ?_
  refine Runs.ifF (by decide) ?_
  refine Runs.go 6 rfl trivial ?_
  refine Runs.ifS (fun z => ?_) (fun z => ?_)
  · rw [if_pos z]
    refine Runs.go 5 rfl trivial ?_
    exact c_ticks n i t ht _ h (hok z)
  · rw [if_neg z]
    refine Runs.go 1 rfl trivial ?_
    exact Runs.fin rfl trivial
