/-! bestAtOnce, on both sides -/
def bst (tv : Nat → Option Nat) : Nat → Option (Nat × Nat)
  | 0 => none
  | k + 1 => match tv (k + 1) with
    | none => bst tv k
    | some t => match bst tv k with
      | none => some (k + 1, t)
      | some (m, t0) => if t < t0 then some (k + 1, t) else some (m, t0)
def bI : Option (Nat × Nat) → Int32
  | none => -5
  | some (m, _) => nI m
def bL : Option (Nat × Nat) → Int32
  | none => 0
  | some (_, t) => nI t
def bM : Option (Nat × Nat) → Int32
  | none => nI 400
  | some (_, t) => nI t - 1
theorem bst_n {tv : Nat → Option Nat} {k : Nat} (h : tv (k + 1) = none) : bst tv (k + 1) = bst tv k := by
  show (match tv (k + 1) with
    | none => bst tv k
    | some t => match bst tv k with
      | none => some (k + 1, t)
      | some (m, t0) => if t < t0 then some (k + 1, t) else some (m, t0)) = _
  rw [h]
theorem bst_s {tv : Nat → Option Nat} {k t : Nat} (h : tv (k + 1) = some t) : bst tv (k + 1) = match bst tv k with
      | none => some (k + 1, t)
      | some (m, t0) => if t < t0 then some (k + 1, t) else some (m, t0) := by
  show (match tv (k + 1) with
    | none => bst tv k
    | some t => match bst tv k with
      | none => some (k + 1, t)
      | some (m, t0) => if t < t0 then some (k + 1, t) else some (m, t0)) = _
  rw [h]
theorem bst_le {tv : Nat → Option Nat} (h : ∀ m t, tv m = some t → t ≤ 400) : ∀ k m t, bst tv k = some (m, t) → m ≤ k ∧ t ≤ 400 := by
  intro k
  induction k with
  | zero => intro m t e; cases e
  | succ k ih =>
    intro m t e
    cases ht : tv (k + 1) with
    | none =>
      rw [bst_n ht] at e
      have := ih m t e
      omega
    | some u =>
      rw [bst_s ht] at e
      cases hb : bst tv k with
      | none =>
        rw [hb] at e
        cases e
        exact ⟨Nat.le_refl _, h _ _ ht⟩
      | some q =>
        obtain ⟨m0, t0⟩ := q
        rw [hb] at e
        dsimp only at e
        have hq := ih m0 t0 hb
        by_cases z : u < t0
        · rw [if_pos z] at e
          cases e
          exact ⟨Nat.le_refl _, h _ _ ht⟩
        · rw [if_neg z] at e
          cases e
          omega
theorem bst_0 {tv : Nat → Option Nat} {k m : Nat} (h : bst tv k = some (m, 0)) : ∀ j, bst tv (k + j) = some (m, 0) := by
  intro j
  induction j with
  | zero => exact h
  | succ j ih =>
    rw [show k + (j + 1) = k + j + 1 from rfl]
    cases ht : tv (k + j + 1) with
    | none => rw [bst_n ht]; exact ih
    | some u =>
      rw [bst_s ht, ih]
      exact if_neg (by omega)
theorem wip_12 {m : Nat} (h1 : 1 ≤ m) (h2 : m ≤ 12) : wip (nI m) 1 12 := ⟨nI_nlt h1 (by omega), nI_nlt h2 (by decide)⟩
theorem c_best (n : Nat) (h : DH) {c : Nat} {s f : Nat → Int32} {tv : Nat → Option Nat} (hs : SR h 0 c s) (w : WF h 1) (htv : ∀ m, tv m = tvv (upd s 8 (nI m)) f) : ∃ g, dEx (n + 6) 84 [.inr (6, 0, 0)] h (some (.inl (bI (bst tv 12))), g) ∧ Fr 1 h g ∧ WF g 1 := by
  have tv4 : ∀ m t, tv m = some t → t ≤ 400 := fun m t e => (tvv_some ((htv m).symm.trans e)).1
  have ex : ∃ r, (∃ g, r = ((some (.inl (bI (bst tv 12))) : Option DV), g) ∧ Fr 1 h g ∧ WF g 1) ∧ Runs dT_84 (dEx (n + 5)) (14, [some (.inr (6, 0, 0)), some (.inl (bI (bst tv 0))), some (.inl (bM (bst tv 0))), some (.inl (nI 1)), none], [], h) r := by
    refine Runs.ex 12 (fun r => ∃ g, r = ((some (.inl (bI (bst tv 12))) : Option DV), g) ∧ Fr 1 h g ∧ WF g 1) (fun k A => ∃ (x4 : Option DV) (g : DH), A = (14, [some (.inr (6, 0, 0)), some (.inl (bI (bst tv k))), some (.inl (bM (bst tv k))), some (.inl (nI (k + 1))), x4], [], g) ∧ Fr 1 h g ∧ WF g 1) ?_ ?_ _ ⟨none, h, rfl, Fr.rf, w⟩
    · rintro k A hk ⟨x4, g, rfl, F, wg⟩
      by_cases z : bM (bst tv k) < 0
      · refine Or.inl ⟨(some (.inl (bI (bst tv 12))), g), ⟨g, rfl, F, wg⟩, ?_⟩
        have e12 : bst tv 12 = bst tv k := by
          cases hb : bst tv k with
          | none =>
            rw [hb] at z
            exact absurd z (by decide)
          | some q =>
            obtain ⟨m, t⟩ := q
            rw [hb] at z
            have t4 := (bst_le tv4 k m t hb).2
            have t0 : t = 0 := by
              refine Decidable.byContradiction fun u => ?_
              have z : nI t - 1 < 0 := z
              rw [nIm1 (by omega)] at z
              exact nI_n0 (by omega) z
            subst t0
            have := bst_0 hb (12 - k)
            rw [show k + (12 - k) = 12 by omega] at this
            exact this
        rw [e12]
        refine Runs.go 5 rfl ⟨trivial, (by unfold vp_in; decide)⟩ ?_
        refine Runs.ifF (show ¬ (12 : Int32) < nI (k + 1) from nI_nlt (show k + 1 ≤ 12 by omega) (by decide)) ?_
        refine Runs.go 2 rfl trivial ?_
        refine Runs.ifT z ?_
        refine Runs.go 1 rfl trivial ?_
        exact Runs.fin rfl trivial
      · have hL : ∃ L, L ≤ 400 ∧ bM (bst tv k) = nI L ∧ (∀ m t, bst tv k = some (m, t) → L + 1 = t) ∧ (bst tv k = none → L = 400) := by
          cases hb : bst tv k with
          | none => exact ⟨400, Nat.le_refl _, rfl, fun m t e => (by cases e), fun _ => rfl⟩
          | some q =>
            obtain ⟨m, t⟩ := q
            rw [hb] at z
            have t4 := (bst_le tv4 k m t hb).2
            have t0 : t ≠ 0 := fun u => z (by rw [u]; show (nI 0 - 1 : Int32) < 0; decide)
            exact ⟨t - 1, by omega, nIm1 (by omega), fun m' t' e => (by cases e; omega), fun e => (by cases e)⟩
        obtain ⟨L, hL4, eL, hLs, hLn⟩ := hL
        have hg := hs.fr (F.e5 (show 0 ≠ 1 by decide))
        have hT := trl_SR hg wg (wip_12 (show 1 ≤ k + 1 by omega) (by omega))
        obtain ⟨N, hu⟩ := c_untilR n (nI (k + 1)) g (f := f) hg.cp_ok hT hL4
        rw [← htv] at hu
        have F2 := F.tr (Fr_pk (Fr_trl g c (nI (k + 1))) N)
        have w2 := pk_wf hT N
        generalize pk (trl g c (nI (k + 1))) 1 N = g2 at hu F2 w2
        have run : ∀ (B : DS) (r : DRes), (∀ v : Int32, v = tvL (tv (k + 1)) L → Runs dT_84 (dEx (n + 5)) (34, [some (.inr (6, 0, 0)), some (.inl (bI (bst tv k))), some (.inl (nI L)), some (.inl (nI (k + 1))), x4], [.inl v], g2) r) → Runs dT_84 (dEx (n + 5)) (14, [some (.inr (6, 0, 0)), some (.inl (bI (bst tv k))), some (.inl (bM (bst tv k))), some (.inl (nI (k + 1))), x4], [], g) r := by
          intro B r hr
          rw [eL] at z ⊢
          refine Runs.go 5 rfl ⟨trivial, (by unfold vp_in; decide)⟩ ?_
          refine Runs.ifF (show ¬ (12 : Int32) < nI (k + 1) from nI_nlt (show k + 1 ≤ 12 by omega) (by decide)) ?_
          refine Runs.go 2 rfl trivial ?_
          refine Runs.ifF z ?_
          refine Runs.go 3 rfl trivial ?_
          refine Runs.cal rfl hu ?_
          exact hr _ rfl
        refine Or.inr ?_
        by_cases z5 : tvL (tv (k + 1)) L = -5
        · have eb : bst tv (k + 1) = bst tv k := by
            cases ht : tv (k + 1) with
            | none => exact bst_n ht
            | some t =>
              rw [bst_s ht]
              rw [ht] at z5
              have t4 := tv4 _ _ ht
              have tL : ¬ t ≤ L := fun u => by
                unfold tvL at z5
                dsimp only at z5
                rw [if_pos u] at z5
                exact nI_m5 (by omega) z5
              cases hb : bst tv k with
              | none => exact absurd (hLn hb) (by omega)
              | some q =>
                obtain ⟨m, t0⟩ := q
                have := hLs m t0 hb
                exact if_neg (by omega)
          refine ⟨_, ⟨some (.inl (tvL (tv (k + 1)) L)), g2, rfl, F2, w2⟩, fun r hr => run (14, [], [], g2) r (fun v hv => ?_)⟩
          rw [eb, eL] at hr
          subst hv
          refine Runs.go 4 rfl trivial ?_
          refine Runs.ifT z5 ?_
          refine Runs.go 2 rfl trivial ?_
          rw [nI_1]
          exact hr
        · have ht : ∃ t, tv (k + 1) = some t ∧ t ≤ L := by
            cases ht : tv (k + 1) with
            | none => rw [ht] at z5; exact absurd rfl z5
            | some t =>
              rw [ht] at z5
              refine ⟨t, rfl, Decidable.byContradiction fun u => z5 ?_⟩
              unfold tvL
              dsimp only
              rw [if_neg u]
          obtain ⟨t, ht, tL⟩ := ht
          have ev : tvL (tv (k + 1)) L = nI t := by
            rw [ht]
            unfold tvL
            dsimp only
            rw [if_pos tL]
          have eb : bst tv (k + 1) = some (k + 1, t) := by
            rw [bst_s ht]
            cases hb : bst tv k with
            | none => rfl
            | some q =>
              obtain ⟨m, t0⟩ := q
              have := hLs m t0 hb
              exact if_pos (by omega)
          refine ⟨_, ⟨some (.inl (tvL (tv (k + 1)) L)), g2, rfl, F2, w2⟩, fun r hr => run (14, [], [], g2) r (fun v hv => ?_)⟩
          rw [eb] at hr
          subst hv
          refine Runs.go 4 rfl trivial ?_
          refine Runs.ifF z5 ?_
          refine Runs.go 8 rfl trivial ?_
          rw [nI_1]
          rw [ev] at hr ⊢
          exact hr
    · rintro A ⟨x4, g, rfl, F, wg⟩
      refine ⟨(some (.inl (bI (bst tv 12))), g), ⟨g, rfl, F, wg⟩, ?_⟩
      generalize bI (bst tv 12) = v
      generalize bM (bst tv 12) = v2
      refine Runs.go 5 rfl ⟨trivial, (by unfold vp_in; decide)⟩ ?_
      refine Runs.ifT (show (12 : Int32) < nI (12 + 1) by decide) ?_
      refine Runs.go 1 rfl trivial ?_
      exact Runs.fin rfl trivial
  obtain ⟨r, ⟨g, rfl, F, wg⟩, hrun⟩ := ex
  refine ⟨g, ?_, F, wg⟩
  refine dx_84 ?_
  refine Runs.go 8 rfl ⟨trivial, (by unfold vp_in; decide)⟩ ?_
  exact hrun
