/-! the class: counts, text -/
theorem mco_num (h : DH) (s : Nat → Int32) (c : Nat) : ∀ j, j < 10 → mco h s c (nI (20 + j)) = s j := by
  intro j hj
  have : j = 0 ∨ j = 1 ∨ j = 2 ∨ j = 3 ∨ j = 4 ∨ j = 5 ∨ j = 6 ∨ j = 7 ∨ j = 8 ∨ j = 9 := by omega
  rcases this with rfl | rfl | rfl | rfl | rfl | rfl | rfl | rfl | rfl | rfl <;> rfl
theorem mco_that (h : DH) (s : Nat → Int32) (c : Nat) : ∀ j, j < 4 → mco h s c (nI (7 + j)) = mthat s (nI j) := by
  intro j hj
  have : j = 0 ∨ j = 1 ∨ j = 2 ∨ j = 3 := by omega
  rcases this with rfl | rfl | rfl | rfl <;> rfl
theorem c_tellCount (n : Nat) (x : Int32) (h : DH) {c : Nat} {s : Nat → Int32} (hs : SR h 0 c s) (h17 : ¬ x = 17) (h18 : ¬ x = 18) : dEx (n + 4) 86 [.inr (0, 0, 0), .inl x] h (some (.inl (mco h s c x)), h) := by
  have rs := fun k h1 h2 => hs.1.2.1 k h1 h2
  refine dx_86 ?_
  refine Runs.go 3 rfl trivial ?_
  refine Runs.cal rfl (c_isWithin (n + 2) _ _ _ h) ?_
  rcases wip_dec x 20 29 with hx | hx
  · rw [wi_1 hx]
    obtain ⟨k, k1, k2, rfl⟩ := wip_nI2 (a := 20) (b := 29) (by decide) (by decide) hx
    have e20 : nI k - 20 = nI (k - 20) := by rw [show (20 : Int32) = nI 20 from rfl, pk_sub k1]
    refine Runs.go 1 rfl trivial ?_
    refine Runs.ifF (by decide) ?_
    refine Runs.go 6 rfl ⟨trivial, (by rw [e20]; exact i_in (show k - 20 < 10 by omega) (by decide))⟩ ?_
    rw [e20, i_cl (show k - 20 < 2 ^ 31 by omega), hs.1.1 (k - 20) (by omega), ← mco_num h s c (k - 20) (by omega), show 20 + (k - 20) = k by omega]
    exact Runs.fin rfl trivial
  rw [wi_0 hx]
  refine Runs.go 1 rfl trivial ?_
  refine Runs.ifT rfl ?_
  refine Runs.go 3 rfl trivial ?_
  refine Runs.cal rfl (c_isWithin (n + 2) _ _ _ h) ?_
  rcases wip_dec x 7 10 with hy | hy
  · rw [wi_1 hy]
    obtain ⟨k, k1, k2, rfl⟩ := wip_nI2 (a := 7) (b := 10) (by decide) (by decide) hy
    have e7 : nI k - 7 = nI (k - 7) := by rw [show (7 : Int32) = nI 7 from rfl, pk_sub k1]
    refine Runs.go 1 rfl trivial ?_
    refine Runs.ifF (by decide) ?_
    refine Runs.go 4 rfl trivial ?_
    rw [e7]
    refine Runs.cal rfl (c_disksThat (n + 1) 0 _ h) ?_
    rw [that_eq hs, ← mco_that h s c (k - 7) (by omega), show 7 + (k - 7) = k by omega]
    exact Runs.fin rfl trivial
  rw [wi_0 hy]
  refine Runs.go 1 rfl trivial ?_
  refine Runs.ifT rfl ?_
  refine Runs.go 2 rfl trivial ?_
  refine Runs.sw1 (fun e => ?_) (fun e0 => ?_)
  · have e : x = 0 := e
    subst e
    rw [show mco h s c 0 = h.1 (0, 0, 0) 8 from (rs 8 (by decide) (by decide)).symm]
    refine Runs.go 2 rfl trivial ?_
    exact Runs.fin rfl trivial
  have e0 : ¬ x = 0 := e0
  refine Runs.sw1 (fun e => ?_) (fun e1 => ?_)
  · have e : x = 1 := e
    subst e
    refine Runs.go 1 rfl trivial ?_
    refine Runs.cal rfl (c_currentOfNow (n + 1) 0 h) ?_
    rw [sumcur hs]
    exact Runs.fin rfl trivial
  have e1 : ¬ x = 1 := e1
  refine Runs.sw1 (fun e => ?_) (fun e2 => ?_)
  · have e : x = 2 := e
    subst e
    rw [show mco h s c 2 = h.1 (0, 0, 0) 9 from (rs 9 (by decide) (by decide)).symm]
    refine Runs.go 2 rfl trivial ?_
    exact Runs.fin rfl trivial
  have e2 : ¬ x = 2 := e2
  refine Runs.sw1 (fun e => ?_) (fun e3 => ?_)
  · have e : x = 3 := e
    subst e
    rw [show mco h s c 3 = h.1 (0, 0, 0) 3 from hs.2.2.2.1.trans hs.2.1.symm]
    refine Runs.go 2 rfl trivial ?_
    exact Runs.fin rfl trivial
  have e3 : ¬ x = 3 := e3
  refine Runs.sw1 (fun e => ?_) (fun e4 => ?_)
  · have e : x = 4 := e
    subst e
    rw [show mco h s c 4 = h.1 (0, 0, 0) 4 from (rs 4 (by decide) (by decide)).symm]
    refine Runs.go 2 rfl trivial ?_
    exact Runs.fin rfl trivial
  have e4 : ¬ x = 4 := e4
  refine Runs.sw1 (fun e => ?_) (fun e5 => ?_)
  · have e : x = 5 := e
    subst e
    rw [show mco h s c 5 = h.1 (0, 0, 0) 5 from (rs 5 (by decide) (by decide)).symm]
    refine Runs.go 2 rfl trivial ?_
    exact Runs.fin rfl trivial
  have e5 : ¬ x = 5 := e5
  refine Runs.sw1 (fun e => ?_) (fun e6 => ?_)
  · have e : x = 6 := e
    subst e
    rw [show mco h s c 6 = h.1 (0, 0, 0) 6 from (rs 6 (by decide) (by decide)).symm]
    refine Runs.go 2 rfl trivial ?_
    exact Runs.fin rfl trivial
  have e6 : ¬ x = 6 := e6
  refine Runs.sw1 (fun e => ?_) (fun e7 => ?_)
  · have e : x = 7 := e
    subst e
    exact absurd (show wip 7 7 10 by unfold wip; decide) hy
  have e7 : ¬ x = 7 := e7
  refine Runs.sw1 (fun e => ?_) (fun e8 => ?_)
  · have e : x = 8 := e
    subst e
    exact absurd (show wip 8 7 10 by unfold wip; decide) hy
  have e8 : ¬ x = 8 := e8
  refine Runs.sw1 (fun e => ?_) (fun e9 => ?_)
  · have e : x = 9 := e
    subst e
    exact absurd (show wip 9 7 10 by unfold wip; decide) hy
  have e9 : ¬ x = 9 := e9
  refine Runs.sw1 (fun e => ?_) (fun e10 => ?_)
  · have e : x = 10 := e
    subst e
    exact absurd (show wip 10 7 10 by unfold wip; decide) hy
  have e10 : ¬ x = 10 := e10
  refine Runs.sw1 (fun e => ?_) (fun e11 => ?_)
  · have e : x = 11 := e
    subst e
    refine Runs.go 2 rfl trivial ?_
    refine Runs.cal rfl (c_flag (n + 2) _ h) ?_
    have e15 : (if h.1 (0, 0, 0) 10 = 0 then 0 else 1) = mco h s c 11 := by
      have r10 : h.1 (0, 0, 0) 10 = s 15 := rs 10 (by decide) (by decide)
      have m15 : mco h s c 11 = s 15 := rfl
      rw [r10, m15]
      rcases hs.2.2.2.2.2.2.2.2.1.2.2.2.2 with z | z
      · rw [z, if_pos rfl]
      · rw [z, if_neg (by decide)]
    rw [e15]
    exact Runs.fin rfl trivial
  have e11 : ¬ x = 11 := e11
  refine Runs.sw1 (fun e => ?_) (fun e12 => ?_)
  · have e : x = 12 := e
    subst e
    rw [show mco h s c 12 = h.1 (0, 0, 0) 11 from (rs 11 (by decide) (by decide)).symm]
    refine Runs.go 2 rfl trivial ?_
    exact Runs.fin rfl trivial
  have e12 : ¬ x = 12 := e12
  refine Runs.sw1 (fun e => ?_) (fun e13 => ?_)
  · have e : x = 13 := e
    subst e
    rw [show mco h s c 13 = h.1 (0, 0, 0) 12 from (rs 12 (by decide) (by decide)).symm]
    refine Runs.go 2 rfl trivial ?_
    exact Runs.fin rfl trivial
  have e13 : ¬ x = 13 := e13
  refine Runs.sw1 (fun e => ?_) (fun e14 => ?_)
  · have e : x = 14 := e
    subst e
    rw [show mco h s c 14 = h.1 (0, 0, 0) 13 from (rs 13 (by decide) (by decide)).symm]
    refine Runs.go 2 rfl trivial ?_
    exact Runs.fin rfl trivial
  have e14 : ¬ x = 14 := e14
  refine Runs.sw1 (fun e => ?_) (fun e15 => ?_)
  · have e : x = 15 := e
    subst e
    rw [show mco h s c 15 = h.1 (0, 0, 0) 14 from (rs 14 (by decide) (by decide)).symm]
    refine Runs.go 2 rfl trivial ?_
    exact Runs.fin rfl trivial
  have e15 : ¬ x = 15 := e15
  refine Runs.sw1 (fun e => ?_) (fun e16 => ?_)
  · have e : x = 16 := e
    subst e
    rw [show mco h s c 16 = h.1 (0, 0, 0) 7 from (rs 7 (by decide) (by decide)).symm]
    refine Runs.go 2 rfl trivial ?_
    exact Runs.fin rfl trivial
  have e16 : ¬ x = 16 := e16
  refine Runs.sw0 ?_
  have em : mco h s c x = -2 := by
    unfold mco
    rw [if_neg e0, if_neg e1, if_neg e2, if_neg e3, if_neg e4, if_neg e5, if_neg e6, if_neg e7, if_neg e8, if_neg e9, if_neg e10, if_neg e11, if_neg e12, if_neg e13, if_neg e14, if_neg e15, if_neg e16, if_neg h17, if_neg h18, if_pos (wi_0 hx)]
  rw [em]
  refine Runs.go 1 rfl trivial ?_
  exact Runs.fin rfl trivial
