/-! the class's tick, the rest -/
def grB (i : Nat) (k : Nat) (q : DH × Int32) : DH × Int32 := if q.1.1 (4, i, (q.1.1 (5, i, q.1.2 (3, i, 0) k) 1).toNatClampNeg) 0 = 2 then (if q.2 &&& bitOf (q.1.1 (5, i, q.1.2 (3, i, 0) k) 1) = 0 then (if 0 < q.1.1 (5, i, q.1.2 (3, i, 0) k) 3 - 1 then (up1 (up1 q.1 (4, i, (q.1.1 (5, i, q.1.2 (3, i, 0) k) 1).toNatClampNeg) 3 0) (5, i, q.1.2 (3, i, 0) k) 3 (q.1.1 (5, i, q.1.2 (3, i, 0) k) 3 - 1), q.2 ||| bitOf (q.1.1 (5, i, q.1.2 (3, i, 0) k) 1)) else (up1 (up1 (up1 (up1 q.1 (4, i, (q.1.1 (5, i, q.1.2 (3, i, 0) k) 1).toNatClampNeg) 3 0) (5, i, q.1.2 (3, i, 0) k) 3 (q.1.1 (5, i, q.1.2 (3, i, 0) k) 3 - 1)) (0, i, 0) 5 (q.1.1 (0, i, 0) 5 + 1)) (0, i, 0) 7 (q.1.1 (0, i, 0) 7 + (q.1.1 (0, i, 0) 8 + 1 - q.1.1 (5, i, q.1.2 (3, i, 0) k) 4)), q.2 ||| bitOf (q.1.1 (5, i, q.1.2 (3, i, 0) k) 1))) else q) else q
def gr (h : DH) (i : Nat) : Nat → DH × Int32
  | 0 => (h, 0)
  | k + 1 => grB i k (gr h i k)
theorem gr_inv (h : DH) (i : Nat) : ∀ k, (gr h i k).1.1 (0, i, 0) 3 = h.1 (0, i, 0) 3 ∧ (gr h i k).1.2 = h.2 ∧ ∀ j, (gr h i k).1.1 (5, i, j) 1 = h.1 (5, i, j) 1 := by
  intro k
  induction k with
  | zero => exact ⟨rfl, rfl, fun _ => rfl⟩
  | succ k ih =>
    obtain ⟨h1, h2, h3⟩ := ih
    rw [show gr h i (k + 1) = grB i k (gr h i k) from rfl]
    unfold grB
    split
    · split
      · split
        · exact ⟨by simpa [up1_1] using h1, h2, fun j => by simpa [up1_1] using h3 j⟩
        · exact ⟨by simpa [up1_1] using h1, h2, fun j => by simpa [up1_1] using h3 j⟩
      · exact ⟨h1, h2, h3⟩
    · exact ⟨h1, h2, h3⟩
def lob (h : DH) (i : Nat) : Nat → Option DV
  | 0 => none
  | k + 1 => some (.inl (bitOf (h.1 (5, i, h.2 (3, i, 0) k) 1)))
theorem ri_inv (h : DH) (i : Nat) (b : Int32) : ∀ k, (ri h i b k).1 (0, i, 0) = h.1 (0, i, 0) ∧ (ri h i b k).2 = h.2 ∧ ∀ j, (ri h i b k).1 (5, i, j) = h.1 (5, i, j) := by
  intro k
  induction k with
  | zero => exact ⟨rfl, rfl, fun _ => rfl⟩
  | succ k ih =>
    obtain ⟨h1, h2, h3⟩ := ih
    rw [show ri h i b (k + 1) = riB i b k (ri h i b k) from rfl]
    have step : ∀ x, (up1 (ri h i b k) (4, i, k) 3 x).1 (0, i, 0) = h.1 (0, i, 0) ∧ (up1 (ri h i b k) (4, i, k) 3 x).2 = h.2 ∧ ∀ j, (up1 (ri h i b k) (4, i, k) 3 x).1 (5, i, j) = h.1 (5, i, j) := fun x => ⟨by rw [up1_ne _ _ _ (by simp)]; exact h1, h2, fun j => by rw [up1_ne _ _ _ (by simp)]; exact h3 j⟩
    unfold riB
    split
    · split
      · split
        · exact step _
        · split
          · exact step _
          · obtain ⟨s1, s2, s3⟩ := step ((ri h i b k).1 (4, i, k) 3 + 1)
            refine ⟨?_, s2, fun j => ?_⟩
            · unfold sbH
              rw [up1_ne _ _ _ (by simp), up1_ne _ _ _ (by simp), up1_ne _ _ _ (by simp)]
              exact s1
            · unfold sbH
              rw [up1_ne _ _ _ (by simp), up1_ne _ _ _ (by simp), up1_ne _ _ _ (by simp)]
              exact s3 j
      · exact ⟨h1, h2, h3⟩
    · exact ⟨h1, h2, h3⟩
def grAll (h : DH) (i c : Nat) : DH := up1 (sw (ri (gr h i c).1 i (gr h i c).2 12) i c).1 (0, i, 0) 3 (nI (sw (ri (gr h i c).1 i (gr h i c).2 12) i c).2)
theorem c_goOnReading (n i : Nat) (h : DH) {c : Nat} (hc : h.1 (0, i, 0) 3 = nI c) (h30 : c ≤ 30) (hk0 : rok h i c) : dEx (n + 3) 35 [.inr (0, i, 0)] h (none, grAll h i c) := by
  refine dx_35 ?_
  generalize hr : ((none : Option DV), grAll h i c) = r
  refine Runs.go 4 rfl trivial ?_
  refine Runs.loop c (fun k => (4, [some (.inr (0, i, 0)), some (.inl (gr h i k).2), some (.inl (nI k)), lo5 h i k, lob h i k], [], (gr h i k).1)) (fun k hk ih => ?_) ?_
  · refine Runs.go 4 rfl trivial ?_
    obtain ⟨w1, w2, w3⟩ := gr_inv h i k
    obtain ⟨d, hd, hkd⟩ := hk0 k hk
    rw [w1, hc]
    refine Runs.ifF (i_ge hk (by omega)) ?_
    rw [show gr h i (k + 1) = grB i k (gr h i k) from rfl] at ih
    rw [show lo5 h i (k + 1) = some (.inr (5, i, (gr h i k).1.2 (3, i, 0) k)) by rw [w2]; rfl] at ih
    have e5 : (gr h i k).1.1 (5, i, (gr h i k).1.2 (3, i, 0) k) 1 = nI d := by rw [w3, w2]; exact hkd
    rw [show lob h i (k + 1) = some (.inl (bitOf (nI d))) by rw [← hkd]; rfl] at ih
    generalize gr h i k = q at ih e5 ⊢
    obtain ⟨g, b⟩ := q
    unfold grB at ih
    dsimp only at ih e5 ⊢
    rw [e5, i_cl (show d < 2 ^ 31 by omega)] at ih
    refine Runs.go 18 rfl ⟨⟨trivial, (i_in (show k < 30 by omega) (by decide))⟩, (by rw [i_cl (show k < 2 ^ 31 by omega), e5]; exact i_in hd (by decide))⟩ ?_
    rw [i_cl (show k < 2 ^ 31 by omega), e5, i_cl (show d < 2 ^ 31 by omega)]
    refine Runs.ifS (fun z => ?_) (fun z => ?_)
    · rw [if_pos z] at ih
      refine Runs.go 4 rfl trivial ?_
      refine Runs.ifS (fun z2 => ?_) (fun z2 => ?_)
      · rw [if_pos (show b &&& bitOf (nI d) = 0 from z2)] at ih
        refine Runs.go 20 rfl ⟨trivial, (by rw [e5]; exact i_in hd (by decide))⟩ ?_
        rw [e5, i_cl (show d < 2 ^ 31 by omega)]
        rw [show (up1 g (4, i, d) 3 0).1 (5, i, g.2 (3, i, 0) k) 3 = g.1 (5, i, g.2 (3, i, 0) k) 3 by simp [up1_1]]
        rw [show (up1 (up1 g (4, i, d) 3 0) (5, i, g.2 (3, i, 0) k) 3 (g.1 (5, i, g.2 (3, i, 0) k) 3 - 1)).1 (5, i, g.2 (3, i, 0) k) 3 = g.1 (5, i, g.2 (3, i, 0) k) 3 - 1 by simp [up1_1]]
        refine Runs.ifS (fun z3 => ?_) (fun z3 => ?_)
        · rw [if_pos z3] at ih
          refine Runs.go 2 rfl trivial ?_
          rw [nI_1]
          exact ih
        · rw [if_neg z3] at ih
          refine Runs.go 20 rfl trivial ?_
          rw [nI_1]
          simp only [up1_1] at ih ⊢
          simpa [bitOf] using ih
      · rw [if_neg (show ¬ b &&& bitOf (nI d) = 0 from z2)] at ih
        refine Runs.go 2 rfl trivial ?_
        rw [nI_1]
        exact ih
    · rw [if_neg z] at ih
      refine Runs.go 2 rfl trivial ?_
      rw [nI_1]
      exact ih
  · refine Runs.go 4 rfl trivial ?_
    obtain ⟨w1, w2, w3⟩ := gr_inv h i c
    rw [w1, hc]
    refine Runs.ifT (Int32.le_refl _) ?_
    refine Runs.go 2 rfl trivial ?_
    refine Runs.calv rfl (c_restIdle n i _ _) ?_
    obtain ⟨v1, v2, v3⟩ := ri_inv (gr h i c).1 i (gr h i c).2 12
    refine Runs.go 1 rfl trivial ?_
    refine Runs.calv rfl (c_sweep (n + 1) i _ (c := c) (by rw [v1, w1, hc]) h30 (fun k hk => ?_)) ?_
    · obtain ⟨d, hd, hkd⟩ := hk0 k hk
      exact ⟨d, hd, by rw [v3, w3, v2, w2]; exact hkd⟩
    · exact Runs.fin (by rw [← hr]; rfl) trivial
/-- new starts: heap, starting, current -/
def bsB (i : Nat) (f : Int32) (d : Nat) (q : DH × Int32 × Int32) : DH × Int32 × Int32 := if q.1.1 (4, i, d) 0 = 0 ∧ 0 < q.1.1 (4, i, d) 6 ∧ f &&& bitOf (nI d) = 0 ∧ cmay q.1 i q.2.1 q.2.2 ≠ 0 then (up1 (up1 (up1 (up1 q.1 (4, i, d) 0 1) (4, i, d) 1 (q.1.1 (1, i, 0) 0)) (4, i, d) 4 (q.1.1 (4, i, d) 4 + 1)) (0, i, 0) 13 (q.1.1 (0, i, 0) 13 + 1), q.2.1 + 1, q.2.2 + cadd q.1 i) else q
def bs (h : DH) (i : Nat) (f : Int32) : Nat → DH × Int32 × Int32
  | 0 => (h, cthat h i 1, sumN (ccur h i) 12)
  | k + 1 => bsB i f k (bs h i f k)
def lo45 (i : Nat) : Nat → Option DV
  | 0 => none
  | k + 1 => some (.inr (4, i, k))
def low (h : DH) (i : Nat) (f : Int32) : Nat → Option DV
  | 0 => none
  | k + 1 => some (.inl (if (bs h i f k).1.1 (4, i, k) 0 = 0 ∧ 0 < (bs h i f k).1.1 (4, i, k) 6 ∧ f &&& bitOf (nI k) = 0 then 1 else 0))
theorem c_beginStarts (n i : Nat) (f : Int32) (h : DH) : dEx (n + 3) 37 [.inr (0, i, 0), .inl f] h (none, (bs h i f 12).1) := by
  refine dx_37 ?_
  generalize hr : ((none : Option DV), (bs h i f 12).1) = r
  refine Runs.go 1 rfl trivial ?_
  refine Runs.cal rfl (c_currentOfNow n i h) ?_
  refine Runs.go 3 rfl trivial ?_
  refine Runs.cal rfl (c_disksThat n i _ h) ?_
  refine Runs.go 3 rfl trivial ?_
  refine Runs.loop 12 (fun k => (14, [some (.inr (0, i, 0)), some (.inl f), some (.inl (bs h i f k).2.2), some (.inl (bs h i f k).2.1), some (.inl (nI k)), lo45 i k, low h i f k], [], (bs h i f k).1)) (fun k hk ih => ?_) ?_
  · refine Runs.go 3 rfl trivial ?_
    refine Runs.ifF (i_ge hk (by decide)) ?_
    rw [show bs h i f (k + 1) = bsB i f k (bs h i f k) from rfl] at ih
    rw [show low h i f (k + 1) = some (.inl (if (bs h i f k).1.1 (4, i, k) 0 = 0 ∧ 0 < (bs h i f k).1.1 (4, i, k) 6 ∧ f &&& bitOf (nI k) = 0 then 1 else 0)) from rfl] at ih
    generalize bs h i f k = q at ih ⊢
    obtain ⟨g, s, cu⟩ := q
    unfold bsB at ih
    dsimp only at ih ⊢
    refine Runs.go 8 rfl ⟨trivial, (i_in hk (by decide))⟩ ?_
    rw [i_cl (show k < 2 ^ 31 by omega)]
    by_cases w : g.1 (4, i, k) 0 = 0 ∧ 0 < g.1 (4, i, k) 6 ∧ f &&& bitOf (nI k) = 0
    · obtain ⟨w1, w2, w3⟩ := w
      rw [if_pos (show g.1 (4, i, k) 0 = 0 ∧ 0 < g.1 (4, i, k) 6 ∧ f &&& bitOf (nI k) = 0 from ⟨w1, w2, w3⟩)] at ih
      refine Runs.ifT w1 ?_
      refine Runs.go 3 rfl trivial ?_
      refine Runs.ifF (Int32.not_le.mpr w2) ?_
      refine Runs.go 6 rfl trivial ?_
      refine Runs.ifT w3 ?_
      refine Runs.go 5 rfl trivial ?_
      refine Runs.ifF (by decide) ?_
      refine Runs.go 3 rfl trivial ?_
      refine Runs.cal rfl (c_mayStart n i g _ _) ?_
      refine Runs.go 1 rfl trivial ?_
      refine Runs.ifS (fun z => ?_) (fun z => ?_)
      · rw [if_neg (fun t => t.2.2.2 z)] at ih
        refine Runs.go 2 rfl trivial ?_
        rw [nI_1]
        exact ih
      · rw [if_pos ⟨w1, w2, w3, z⟩] at ih
        refine Runs.go 5 rfl ⟨trivial, (by unfold vp_in; decide)⟩ ?_
        refine Runs.calv rfl (c_beginStart (n + 1) i k g _) ?_
        refine Runs.go 9 rfl trivial ?_
        refine Runs.cal rfl (c_added (n + 1) i _) ?_
        refine Runs.go 4 rfl trivial ?_
        rw [nI_1]
        have e : ∀ g1 : DH, g1.1 (1, i, 0) = g.1 (1, i, 0) → cadd g1 i = cadd g i := fun g1 hg => by simp only [cadd, hg]
        rw [e _ (by rw [up1_ne _ _ _ (by simp), up1_ne _ _ _ (by simp), up1_ne _ _ _ (by simp), up1_ne _ _ _ (by simp)])]
        simp only [up1_1] at ih ⊢
        simpa [lo45] using ih
    · rw [if_neg w, if_neg (fun t => w ⟨t.1, t.2.1, t.2.2.1⟩)] at ih
      have rest : Runs dT_37 (dEx (n + 2)) (59, [some (.inr (0, i, 0)), some (.inl f), some (.inl cu), some (.inl s), some (.inl (nI k)), some (.inr (4, i, k)), low h i f k], [], g) r := by
        refine Runs.go 4 rfl trivial ?_
        refine Runs.ifT rfl ?_
        refine Runs.go 2 rfl trivial ?_
        rw [nI_1]
        exact ih
      refine Runs.ifS (fun w1 => ?_) (fun w1 => rest)
      refine Runs.go 3 rfl trivial ?_
      refine Runs.ifS (fun w2 => rest) (fun w2 => ?_)
      refine Runs.go 6 rfl trivial ?_
      refine Runs.ifS (fun w3 => ?_) (fun w3 => rest)
      exact absurd ⟨w1, Int32.not_le.mp w2, w3⟩ w
  · refine Runs.go 3 rfl trivial ?_
    refine Runs.ifT (Int32.le_refl _) ?_
    exact Runs.fin (by rw [← hr]; rfl) trivial
def mx (x y : Int32) : Int32 := if x < y then y else x
/-- the fuse, behind a tick: c is the current -/
def sfB (g : DH) (i : Nat) (c : Int32) : DH := if g.1 (0, i, 0) 10 = 0 then (if g.1 (1, i, 0) 7 < (if c ≤ g.1 (1, i, 0) 5 then 0 else g.1 (0, i, 0) 11 + 1) ∨ g.1 (1, i, 0) 5 + g.1 (1, i, 0) 6 < c then up1 (up1 (up1 (up1 g (0, i, 0) 11 (if c ≤ g.1 (1, i, 0) 5 then 0 else g.1 (0, i, 0) 11 + 1)) (0, i, 0) 10 1) (0, i, 0) 12 (g.1 (0, i, 0) 12 + 1)) (0, i, 0) 11 0 else up1 g (0, i, 0) 11 (if c ≤ g.1 (1, i, 0) 5 then 0 else g.1 (0, i, 0) 11 + 1)) else g
def sfH (h : DH) (i : Nat) : DH := sfB (up1 h (0, i, 0) 9 (mx (h.1 (0, i, 0) 9) (sumN (ccur h i) 12))) i (sumN (ccur h i) 12)
theorem c_strain (n i : Nat) (h : DH) : dEx (n + 3) 42 [.inr (0, i, 0)] h (none, sfH h i) := by
  refine dx_42 ?_
  unfold sfH
  refine Runs.go 1 rfl trivial ?_
  refine Runs.cal rfl (c_currentOfNow n i h) ?_
  generalize sumN (ccur h i) 12 = c
  refine Runs.go 10 rfl trivial ?_
  rw [show (if h.1 (0, i, 0) 9 < c then c else h.1 (0, i, 0) 9) = mx (h.1 (0, i, 0) 9) c from rfl]
  generalize up1 h (0, i, 0) 9 (mx (h.1 (0, i, 0) 9) c) = g
  unfold sfB
  have tail : ∀ x : Int32, x = (if c ≤ g.1 (1, i, 0) 5 then 0 else g.1 (0, i, 0) 11 + 1) → g.1 (0, i, 0) 10 = 0 → Runs dT_42 (dEx (n + 2)) (46, [some (.inr (0, i, 0)), some (.inl c)], [.inl x, .inr (0, i, 0)], g) (none, if g.1 (1, i, 0) 7 < (if c ≤ g.1 (1, i, 0) 5 then 0 else g.1 (0, i, 0) 11 + 1) ∨ g.1 (1, i, 0) 5 + g.1 (1, i, 0) 6 < c then up1 (up1 (up1 (up1 g (0, i, 0) 11 (if c ≤ g.1 (1, i, 0) 5 then 0 else g.1 (0, i, 0) 11 + 1)) (0, i, 0) 10 1) (0, i, 0) 12 (g.1 (0, i, 0) 12 + 1)) (0, i, 0) 11 0 else up1 g (0, i, 0) 11 (if c ≤ g.1 (1, i, 0) 5 then 0 else g.1 (0, i, 0) 11 + 1)) := by
    intro x hx hb
    rw [← hx]
    refine Runs.go 8 rfl ⟨trivial, (by unfold vp_in; decide)⟩ ?_
    have a7 : ∀ j, (up1 g (0, i, 0) 11 x).1 (1, i, 0) j = g.1 (1, i, 0) j := fun j => by rw [up1_ne _ _ _ (by simp)]
    have a11 : (up1 g (0, i, 0) 11 x).1 (0, i, 0) 11 = x := by simp [up1_1]
    have a12 : (up1 (up1 g (0, i, 0) 11 x) (0, i, 0) 10 1).1 (0, i, 0) 12 = g.1 (0, i, 0) 12 := by simp [up1_1]
    have blow : (g.1 (1, i, 0) 7 < x ∨ g.1 (1, i, 0) 5 + g.1 (1, i, 0) 6 < c) → Runs dT_42 (dEx (n + 2)) (81, [some (.inr (0, i, 0)), some (.inl c)], [], up1 g (0, i, 0) 11 x) (none, if g.1 (1, i, 0) 7 < x ∨ g.1 (1, i, 0) 5 + g.1 (1, i, 0) 6 < c then up1 (up1 (up1 (up1 g (0, i, 0) 11 x) (0, i, 0) 10 1) (0, i, 0) 12 (g.1 (0, i, 0) 12 + 1)) (0, i, 0) 11 0 else up1 g (0, i, 0) 11 x) := by
      intro hh
      rw [if_pos hh]
      refine Runs.go 12 rfl ⟨trivial, (Or.inr rfl)⟩ ?_
      rw [a12]
      exact Runs.fin rfl trivial
    rw [a7, a11]
    refine Runs.ifS (fun z => blow (Or.inl z)) (fun z => ?_)
    refine Runs.go 11 rfl ⟨⟨trivial, (by unfold vp_in; decide)⟩, (by unfold vp_in; decide)⟩ ?_
    rw [a7, a7]
    refine Runs.ifS (fun z2 => ?_) (fun z2 => blow (Or.inr (Int32.not_le.mp z2)))
    rw [if_neg (fun t => t.elim (fun t => z t) (fun t => absurd t (Int32.not_lt.mpr z2)))]
    exact Runs.fin rfl trivial
  refine Runs.ifS (fun z => ?_) (fun z => ?_)
  · rw [if_pos z]
    refine Runs.go 7 rfl ⟨trivial, (by unfold vp_in; decide)⟩ ?_
    refine Runs.ifS (fun z2 => ?_) (fun z2 => ?_)
    · refine Runs.go 1 rfl trivial ?_
      exact tail _ (by rw [if_pos (show c ≤ g.1 (1, i, 0) 5 from z2)]) z
    · refine Runs.go 5 rfl trivial ?_
      exact tail _ (by rw [if_neg (show ¬ c ≤ g.1 (1, i, 0) 5 from z2)]) z
  · rw [if_neg z]
    exact Runs.fin rfl trivial
/-- all is cut off -/
def coB (i d : Nat) (g : DH) : DH := if g.1 (4, i, d) 0 = 3 then g else sbH g (4, i, d)
def co (h : DH) (i : Nat) : Nat → DH
  | 0 => h
  | k + 1 => coB i k (co h i k)
def ct (h : DH) (i : Nat) : Nat → DH
  | 0 => h
  | k + 1 => up1 (ct h i k) (5, i, h.2 (3, i, 0) k) 3 ((ct h i k).1 (5, i, h.2 (3, i, 0) k) 2)
theorem co_inv (h : DH) (i : Nat) : ∀ k, (co h i k).1 (0, i, 0) = h.1 (0, i, 0) ∧ (co h i k).2 = h.2 := by
  intro k
  induction k with
  | zero => exact ⟨rfl, rfl⟩
  | succ k ih =>
    rw [show co h i (k + 1) = coB i k (co h i k) from rfl]
    unfold coB
    split
    · exact ih
    · refine ⟨?_, ih.2⟩
      unfold sbH
      rw [up1_ne _ _ _ (by simp), up1_ne _ _ _ (by simp), up1_ne _ _ _ (by simp)]
      exact ih.1
theorem ct_inv (h : DH) (i : Nat) : ∀ k, (ct h i k).1 (0, i, 0) = h.1 (0, i, 0) ∧ (ct h i k).2 = h.2 := by
  intro k
  induction k with
  | zero => exact ⟨rfl, rfl⟩
  | succ k ih => exact ⟨by rw [show ct h i (k + 1) = up1 (ct h i k) _ _ _ from rfl, up1_ne _ _ _ (by simp)]; exact ih.1, ih.2⟩
theorem c_cutOff (n i : Nat) (h : DH) {c : Nat} (hc : h.1 (0, i, 0) 3 = nI c) (h30 : c ≤ 30) : dEx (n + 2) 30 [.inr (0, i, 0)] h (none, ct (co h i 12) i c) := by
  refine dx_30 ?_
  generalize hr : ((none : Option DV), ct (co h i 12) i c) = r
  refine Runs.go 2 rfl trivial ?_
  refine Runs.loop 12 (fun k => (2, [some (.inr (0, i, 0)), some (.inl (nI k))], [], co h i k)) (fun k hk ih => ?_) ?_
  · refine Runs.go 3 rfl trivial ?_
    refine Runs.ifF (i_ge hk (by decide)) ?_
    rw [show co h i (k + 1) = coB i k (co h i k) from rfl] at ih
    generalize co h i k = g at ih ⊢
    unfold coB at ih
    refine Runs.go 7 rfl ⟨trivial, (i_in hk (by decide))⟩ ?_
    rw [i_cl (by omega)]
    refine Runs.ifS (fun z => ?_) (fun z => ?_)
    · rw [if_pos z] at ih
      refine Runs.go 2 rfl trivial ?_
      rw [nI_1]
      exact ih
    · rw [if_neg z] at ih
      refine Runs.go 4 rfl ⟨trivial, (i_in hk (by decide))⟩ ?_
      rw [i_cl (by omega)]
      refine Runs.calv rfl (c_standBy n i k g) ?_
      refine Runs.go 2 rfl trivial ?_
      rw [nI_1]
      exact ih
  · refine Runs.go 3 rfl trivial ?_
    refine Runs.ifT (Int32.le_refl _) ?_
    have hc' : (co h i 12).1 (0, i, 0) 3 = nI c := by rw [(co_inv h i 12).1]; exact hc
    generalize co h i 12 = g at hr hc' ⊢
    refine Runs.go 2 rfl trivial ?_
    refine Runs.loop c (fun k => (38, [some (.inr (0, i, 0)), some (.inl (nI k))], [], ct g i k)) (fun k hk ih => ?_) ?_
    · refine Runs.go 4 rfl trivial ?_
      rw [(ct_inv g i k).1, hc']
      refine Runs.ifF (i_ge hk (by omega)) ?_
      refine Runs.go 12 rfl ⟨⟨trivial, (i_in (show k < 30 by omega) (by decide))⟩, (i_in (show k < 30 by omega) (by decide))⟩ ?_
      rw [i_cl (by omega), nI_1, (ct_inv g i k).2]
      exact ih
    · refine Runs.go 4 rfl trivial ?_
      rw [(ct_inv g i c).1, hc']
      refine Runs.ifT (Int32.le_refl _) ?_
      exact Runs.fin (by rw [← hr]; rfl) trivial
theorem gs_5 (h : DH) (i c k : Nat) : ∀ j, (gs h i c k).1.1 (5, i, j) 1 = h.1 (5, i, j) 1 := by
  intro j
  have hcl : ∀ (g : DH) (d m : Nat), (close g i d m).1 (5, i, j) 1 = g.1 (5, i, j) 1 := by
    intro g d m
    induction m with
    | zero => rfl
    | succ m ih =>
      show (clB (close g i d m) i d m).1 (5, i, j) 1 = g.1 (5, i, j) 1
      unfold clB
      split
      · simpa [up1_1] using ih
      · exact ih
  induction k with
  | zero => rfl
  | succ k ih =>
    rw [show gs h i c (k + 1) = gsB i c k (gs h i c k) from rfl]
    unfold gsB
    split
    · split
      · simpa [up1_1] using ih
      · split
        · simpa [up1_1] using ih
        · dsimp only
          split
          · rw [hcl, failH_o _ (by simp)]
            simpa [up1_1] using ih
          · rw [failH_o _ (by simp)]
            simpa [up1_1] using ih
    · exact ih
/-- a tick -/
def tkH (h : DH) (i c : Nat) : DH := if h.1 (0, i, 0) 10 = 0 then (bs (grAll (gs h i c 12).1 i c) i (gs h i c 12).2 12).1 else ct (co h i 12) i c
def tick (h : DH) (i c : Nat) : DH := sfH (up1 (tkH h i c) (0, i, 0) 8 ((tkH h i c).1 (0, i, 0) 8 + 1)) i
theorem c_tick (n i : Nat) (h : DH) {c : Nat} (hc : h.1 (0, i, 0) 3 = nI c) (h30 : c ≤ 30) (hk0 : rok h i c) : dEx (n + 4) 29 [.inr (0, i, 0)] h (none, tick h i c) := by
  refine dx_29 ?_
  unfold tick
  refine Runs.go 3 rfl trivial ?_
  refine Runs.ifS (fun z => ?_) (fun z => ?_)
  · rw [show tkH h i c = (bs (grAll (gs h i c 12).1 i c) i (gs h i c 12).2 12).1 from if_pos z]
    refine Runs.go 1 rfl trivial ?_
    refine Runs.cal rfl (c_goOnStarting n i h hc h30) ?_
    refine Runs.go 2 rfl trivial ?_
    have hrk : rok (gs h i c 12).1 i c := by
      intro k hk
      obtain ⟨d, hd, hkd⟩ := hk0 k hk
      exact ⟨d, hd, by rw [gs_5, (gs_3 h i c 12).2]; exact hkd⟩
    refine Runs.calv rfl (c_goOnReading n i _ (c := c) (by rw [(gs_3 h i c 12).1, hc]) h30 hrk) ?_
    refine Runs.go 2 rfl trivial ?_
    refine Runs.calv rfl (c_beginStarts n i _ _) ?_
    refine Runs.go 7 rfl trivial ?_
    refine Runs.calv rfl (c_strain n i _) ?_
    exact Runs.fin rfl trivial
  · rw [show tkH h i c = ct (co h i 12) i c from if_neg z]
    refine Runs.go 1 rfl trivial ?_
    refine Runs.calv rfl (c_cutOff (n + 1) i h hc h30) ?_
    refine Runs.go 8 rfl trivial ?_
    refine Runs.calv rfl (c_strain n i _) ?_
    exact Runs.fin rfl trivial
