/-! the class's tick, as it is -/
def bitOf (d : Int32) : Int32 := (1 : Int32) <<< (d &&& 31)
def failH (h : DH) (κ : DKey) : DH := if h.1 κ 2 + 1 < 3 then up1 (up1 (sbH h κ) κ 5 0) κ 2 (h.1 κ 2 + 1) else up1 (up1 (up1 (sbH h κ) κ 5 0) κ 2 (h.1 κ 2 + 1)) κ 0 3
def clB (g : DH) (i d k : Nat) : DH := if g.1 (5, i, g.2 (3, i, 0) k) 1 = nI d then up1 (up1 g (5, i, g.2 (3, i, 0) k) 3 0) (0, i, 0) 6 (g.1 (0, i, 0) 6 + 1) else g
def close (h : DH) (i d : Nat) : Nat → DH
  | 0 => h
  | k + 1 => clB (close h i d k) i d k
theorem close_2 (h : DH) (i d k : Nat) : (close h i d k).2 = h.2 := by
  induction k with
  | zero => rfl
  | succ k ih =>
    show (clB (close h i d k) i d k).2 = h.2
    unfold clB
    split <;> exact ih
theorem close_3 (h : DH) (i d k : Nat) : (close h i d k).1 (0, i, 0) 3 = h.1 (0, i, 0) 3 := by
  induction k with
  | zero => rfl
  | succ k ih =>
    show (clB (close h i d k) i d k).1 (0, i, 0) 3 = h.1 (0, i, 0) 3
    unfold clB
    split
    · simp only [up1_1]
      simpa using ih
    · exact ih
theorem c_lose (n i d : Nat) (h : DH) {c : Nat} (hc : h.1 (0, i, 0) 3 = nI c) (h30 : c ≤ 30) : dEx (n + 1) 33 [.inr (0, i, 0), .inl (nI d)] h (none, close h i d c) := by
  refine dx_33 ?_
  generalize hr : ((none : Option DV), close h i d c) = r
  refine Runs.go 2 rfl trivial ?_
  refine Runs.loop c (fun k => (2, [some (.inr (0, i, 0)), some (.inl (nI d)), some (.inl (nI k))], [], close h i d k)) (fun k hk ih => ?_) ?_
  · refine Runs.go 4 rfl trivial ?_
    rw [close_3, hc]
    refine Runs.ifF (i_ge hk (by omega)) ?_
    refine Runs.go 7 rfl ⟨trivial, (i_in (show k < 30 by omega) (by decide))⟩ ?_
    rw [i_cl (by omega)]
    rw [show close h i d (k + 1) = clB (close h i d k) i d k from rfl] at ih
    unfold clB at ih
    refine Runs.ifS (fun z => ?_) (fun z => ?_)
    · rw [if_pos z] at ih
      refine Runs.go 14 rfl ⟨trivial, (i_in (show k < 30 by omega) (by decide))⟩ ?_
      rw [i_cl (by omega), nI_1]
      exact ih
    · rw [if_neg z] at ih
      refine Runs.go 2 rfl trivial ?_
      rw [nI_1]
      exact ih
  · refine Runs.go 4 rfl trivial ?_
    rw [close_3, hc]
    refine Runs.ifT (Int32.le_refl _) ?_
    exact Runs.fin (by rw [← hr]; rfl) trivial
def gsB (i c d : Nat) (q : DH × Int32) : DH × Int32 := if q.1.1 (4, i, d) 0 = 1 then (if 0 < q.1.1 (4, i, d) 1 - 1 then (up1 q.1 (4, i, d) 1 (q.1.1 (4, i, d) 1 - 1), q.2) else if q.1.1 (4, i, d) 5 = 0 then (up1 (up1 (up1 (up1 q.1 (4, i, d) 1 (q.1.1 (4, i, d) 1 - 1)) (4, i, d) 0 2) (4, i, d) 2 0) (4, i, d) 3 0, q.2) else (if (failH (up1 (up1 q.1 (4, i, d) 1 (q.1.1 (4, i, d) 1 - 1)) (0, i, 0) 14 (q.1.1 (0, i, 0) 14 + 1)) (4, i, d)).1 (4, i, d) 0 = 3 then close (failH (up1 (up1 q.1 (4, i, d) 1 (q.1.1 (4, i, d) 1 - 1)) (0, i, 0) 14 (q.1.1 (0, i, 0) 14 + 1)) (4, i, d)) i d c else failH (up1 (up1 q.1 (4, i, d) 1 (q.1.1 (4, i, d) 1 - 1)) (0, i, 0) 14 (q.1.1 (0, i, 0) 14 + 1)) (4, i, d), q.2 ||| bitOf (nI d))) else q
def gs (h : DH) (i c : Nat) : Nat → DH × Int32
  | 0 => (h, 0)
  | k + 1 => gsB i c k (gs h i c k)
theorem failH_o (h : DH) {κ q : DKey} (hq : q ≠ κ) : (failH h κ).1 q = h.1 q := by
  funext j
  unfold failH
  split <;> simp [up1_1, sbH, hq]
theorem failH_2 (h : DH) (κ : DKey) : (failH h κ).2 = h.2 := by
  unfold failH
  split <;> rfl
theorem gsB_3 (i c d : Nat) (q : DH × Int32) : (gsB i c d q).1.1 (0, i, 0) 3 = q.1.1 (0, i, 0) 3 ∧ (gsB i c d q).1.2 = q.1.2 := by
  unfold gsB
  split
  · split
    · exact ⟨by simp [up1_1], rfl⟩
    · split
      · exact ⟨by simp [up1_1], rfl⟩
      · dsimp only
        split
        · exact ⟨by rw [close_3, failH_o _ (by simp)]; simp [up1_1], by rw [close_2, failH_2]; rfl⟩
        · exact ⟨by rw [failH_o _ (by simp)]; simp [up1_1], by rw [failH_2]; rfl⟩
  · exact ⟨rfl, rfl⟩
theorem gs_3 (h : DH) (i c k : Nat) : (gs h i c k).1.1 (0, i, 0) 3 = h.1 (0, i, 0) 3 ∧ (gs h i c k).1.2 = h.2 := by
  induction k with
  | zero => exact ⟨rfl, rfl⟩
  | succ k ih => exact ⟨(gsB_3 i c k _).1.trans ih.1, (gsB_3 i c k _).2.trans ih.2⟩
def lo3 (i : Nat) : Nat → Option DV
  | 0 => none
  | k + 1 => some (.inr (4, i, k))
theorem c_goOnStarting (n i : Nat) (h : DH) {c : Nat} (hc : h.1 (0, i, 0) 3 = nI c) (h30 : c ≤ 30) : dEx (n + 3) 31 [.inr (0, i, 0)] h (some (.inl (gs h i c 12).2), (gs h i c 12).1) := by
  refine dx_31 ?_
  generalize hr : ((some (.inl (gs h i c 12).2) : Option DV), (gs h i c 12).1) = r
  refine Runs.go 4 rfl trivial ?_
  refine Runs.loop 12 (fun k => (4, [some (.inr (0, i, 0)), some (.inl (gs h i c k).2), some (.inl (nI k)), lo3 i k], [], (gs h i c k).1)) (fun k hk ih => ?_) ?_
  · refine Runs.go 3 rfl trivial ?_
    refine Runs.ifF (i_ge hk (by decide)) ?_
    have hc' := (gs_3 h i c k).1
    rw [hc] at hc'
    rw [show gs h i c (k + 1) = gsB i c k (gs h i c k) from rfl] at ih
    generalize gs h i c k = q at ih hc' ⊢
    obtain ⟨g, b⟩ := q
    unfold gsB at ih
    dsimp only at ih hc' ⊢
    refine Runs.go 9 rfl ⟨trivial, (i_in hk (by decide))⟩ ?_
    rw [i_cl (by omega)]
    refine Runs.ifS (fun z => ?_) (fun z => ?_)
    · rw [if_pos (show g.1 (4, i, k) 0 = 1 from z)] at ih
      refine Runs.go 9 rfl trivial ?_
      rw [show (up1 g (4, i, k) 1 (g.1 (4, i, k) 1 - 1)).1 (4, i, k) 1 = g.1 (4, i, k) 1 - 1 by simp [up1_1]]
      refine Runs.ifS (fun z2 => ?_) (fun z2 => ?_)
      · rw [if_pos z2] at ih
        refine Runs.go 3 rfl trivial ?_
        rw [show (up1 g (4, i, k) 1 (g.1 (4, i, k) 1 - 1)).1 (4, i, k) 1 = g.1 (4, i, k) 1 - 1 by simp [up1_1]]
        refine Runs.ifT z2 ?_
        refine Runs.go 2 rfl trivial ?_
        rw [nI_1]
        exact ih
      · rw [if_neg z2] at ih
        refine Runs.go 3 rfl trivial ?_
        rw [show (up1 g (4, i, k) 1 (g.1 (4, i, k) 1 - 1)).1 (4, i, k) 5 = g.1 (4, i, k) 5 by simp [up1_1]]
        refine Runs.ifS (fun z3 => ?_) (fun z3 => ?_)
        · rw [if_pos z3] at ih
          refine Runs.go 3 rfl trivial ?_
          rw [show (up1 g (4, i, k) 1 (g.1 (4, i, k) 1 - 1)).1 (4, i, k) 1 = g.1 (4, i, k) 1 - 1 by simp [up1_1]]
          refine Runs.ifF z2 ?_
          refine Runs.go 1 rfl trivial ?_
          refine Runs.calv rfl (c_spinUp (n + 1) i k _) ?_
          refine Runs.go 2 rfl trivial ?_
          rw [nI_1]
          exact ih
        · rw [if_neg z3] at ih
          refine Runs.go 13 rfl trivial ?_
          rw [show (up1 g (4, i, k) 1 (g.1 (4, i, k) 1 - 1)).1 (0, i, 0) 14 = g.1 (0, i, 0) 14 by simp [up1_1]]
          generalize hg2 : up1 (up1 g (4, i, k) 1 (g.1 (4, i, k) 1 - 1)) (0, i, 0) 14 (g.1 (0, i, 0) 14 + 1) = g2 at ih ⊢
          have hc2 : g2.1 (0, i, 0) 3 = nI c := by rw [← hg2]; simpa [up1_1] using hc'
          refine Runs.calv rfl (show dEx (n + 2) 32 [.inr (4, i, k)] g2 (none, failH g2 (4, i, k)) from c_failStart n i k g2) ?_
          have hc3 : (failH g2 (4, i, k)).1 (0, i, 0) 3 = nI c := by rw [failH_o _ (by simp)]; exact hc2
          generalize failH g2 (4, i, k) = g3 at ih hc3 ⊢
          refine Runs.go 4 rfl trivial ?_
          refine Runs.ifS (fun z4 => ?_) (fun z4 => ?_)
          · rw [if_pos z4] at ih
            refine Runs.go 2 rfl trivial ?_
            refine Runs.calv rfl (c_lose (n + 1) i k g3 hc3 h30) ?_
            refine Runs.go 3 rfl trivial ?_
            rw [nI_1]
            exact ih
          · rw [if_neg z4] at ih
            refine Runs.go 2 rfl trivial ?_
            rw [nI_1]
            exact ih
    · rw [if_neg (show ¬ g.1 (4, i, k) 0 = 1 from z)] at ih
      refine Runs.go 2 rfl trivial ?_
      rw [nI_1]
      exact ih
  · refine Runs.go 3 rfl trivial ?_
    refine Runs.ifT (Int32.le_refl _) ?_
    refine Runs.go 1 rfl trivial ?_
    exact Runs.fin (by rw [← hr]; rfl) trivial
/-- disks that spin and read nothing -/
def riB (i : Nat) (b : Int32) (d : Nat) (g : DH) : DH := if g.1 (4, i, d) 0 = 2 then (if b &&& bitOf (nI d) = 0 then (if g.1 (1, i, 0) 9 ≤ 0 then up1 g (4, i, d) 3 (g.1 (4, i, d) 3 + 1) else if g.1 (4, i, d) 3 + 1 < g.1 (1, i, 0) 9 then up1 g (4, i, d) 3 (g.1 (4, i, d) 3 + 1) else sbH (up1 g (4, i, d) 3 (g.1 (4, i, d) 3 + 1)) (4, i, d)) else g) else g
def ri (h : DH) (i : Nat) (b : Int32) : Nat → DH
  | 0 => h
  | k + 1 => riB i b k (ri h i b k)
theorem c_restIdle (n i : Nat) (b : Int32) (h : DH) : dEx (n + 2) 36 [.inr (0, i, 0), .inl b] h (none, ri h i b 12) := by
  refine dx_36 ?_
  generalize hr : ((none : Option DV), ri h i b 12) = r
  refine Runs.go 2 rfl trivial ?_
  refine Runs.loop 12 (fun k => (2, [some (.inr (0, i, 0)), some (.inl b), some (.inl (nI k)), lo3 i k], [], ri h i b k)) (fun k hk ih => ?_) ?_
  · refine Runs.go 3 rfl trivial ?_
    refine Runs.ifF (i_ge hk (by decide)) ?_
    rw [show ri h i b (k + 1) = riB i b k (ri h i b k) from rfl] at ih
    generalize ri h i b k = g at ih ⊢
    unfold riB at ih
    refine Runs.go 9 rfl ⟨trivial, (i_in hk (by decide))⟩ ?_
    rw [i_cl (by omega)]
    refine Runs.ifS (fun z => ?_) (fun z => ?_)
    · rw [if_pos z] at ih
      refine Runs.go 6 rfl trivial ?_
      refine Runs.ifS (fun z2 => ?_) (fun z2 => ?_)
      · rw [if_pos (show b &&& bitOf (nI k) = 0 from z2)] at ih
        refine Runs.go 11 rfl ⟨trivial, (by unfold vp_in; decide)⟩ ?_
        rw [show (up1 g (4, i, k) 3 (g.1 (4, i, k) 3 + 1)).1 (1, i, 0) (Int32.toNatClampNeg 9) = g.1 (1, i, 0) 9 by simp [up1_1]]
        refine Runs.ifS (fun z3 => ?_) (fun z3 => ?_)
        · rw [if_pos z3] at ih
          refine Runs.go 2 rfl trivial ?_
          rw [nI_1]
          exact ih
        · rw [if_neg z3] at ih
          refine Runs.go 7 rfl ⟨trivial, (by unfold vp_in; decide)⟩ ?_
          rw [show (up1 g (4, i, k) 3 (g.1 (4, i, k) 3 + 1)).1 (1, i, 0) (Int32.toNatClampNeg 9) = g.1 (1, i, 0) 9 by simp [up1_1], show (up1 g (4, i, k) 3 (g.1 (4, i, k) 3 + 1)).1 (4, i, k) 3 = g.1 (4, i, k) 3 + 1 by simp [up1_1]]
          refine Runs.ifS (fun z4 => ?_) (fun z4 => ?_)
          · rw [if_pos z4] at ih
            refine Runs.go 2 rfl trivial ?_
            rw [nI_1]
            exact ih
          · rw [if_neg z4] at ih
            refine Runs.go 1 rfl trivial ?_
            refine Runs.calv rfl (c_standBy n i k _) ?_
            refine Runs.go 2 rfl trivial ?_
            rw [nI_1]
            exact ih
      · rw [if_neg (show ¬ b &&& bitOf (nI k) = 0 from z2)] at ih
        refine Runs.go 2 rfl trivial ?_
        rw [nI_1]
        exact ih
    · rw [if_neg z] at ih
      refine Runs.go 2 rfl trivial ?_
      rw [nI_1]
      exact ih
  · refine Runs.go 3 rfl trivial ?_
    refine Runs.ifT (Int32.le_refl _) ?_
    exact Runs.fin (by rw [← hr]; rfl) trivial
/-- reads that are over are taken out; the second is how many stay -/
def swB (i p : Nat) (q : DH × Nat) : DH × Nat := if 0 < q.1.1 (5, i, q.1.2 (3, i, 0) p) 3 then (up2 (up2 q.1 (3, i, 0) p (q.1.2 (3, i, 0) q.2)) (3, i, 0) q.2 (q.1.2 (3, i, 0) p), q.2 + 1) else (up1 q.1 (4, i, (q.1.1 (5, i, q.1.2 (3, i, 0) p) 1).toNatClampNeg) 6 (q.1.1 (4, i, (q.1.1 (5, i, q.1.2 (3, i, 0) p) 1).toNatClampNeg) 6 - 1), q.2)
def sw (h : DH) (i : Nat) : Nat → DH × Nat
  | 0 => (h, 0)
  | k + 1 => swB i k (sw h i k)
def rok (h : DH) (i c : Nat) : Prop := ∀ k, k < c → ∃ d, d < 12 ∧ h.1 (5, i, h.2 (3, i, 0) k) 1 = nI d
theorem sw_inv (h : DH) (i : Nat) : ∀ k, (sw h i k).2 ≤ k ∧ (∀ j, (sw h i k).1.1 (5, i, j) = h.1 (5, i, j)) ∧ (sw h i k).1.1 (0, i, 0) = h.1 (0, i, 0) ∧ (∀ p, k ≤ p → (sw h i k).1.2 (3, i, 0) p = h.2 (3, i, 0) p) := by
  intro k
  induction k with
  | zero => exact ⟨Nat.le_refl _, fun _ => rfl, rfl, fun _ _ => rfl⟩
  | succ k ih =>
    obtain ⟨h1, h2, h3, h4⟩ := ih
    rw [show sw h i (k + 1) = swB i k (sw h i k) from rfl]
    unfold swB
    split
    · refine ⟨by show _ + 1 ≤ k + 1; omega, h2, h3, fun p hp => ?_⟩
      show (if _ ∧ p = (sw h i k).2 then _ else if _ ∧ p = k then _ else _) = _
      rw [if_neg (by omega), if_neg (by omega)]
      exact h4 p (by omega)
    · refine ⟨by show _ ≤ k + 1; omega, fun j => ?_, ?_, fun p hp => h4 p (by omega)⟩
      · rw [up1_ne _ _ _ (by simp)]
        exact h2 j
      · rw [up1_ne _ _ _ (by simp)]
        exact h3
def lo5 (h : DH) (i : Nat) : Nat → Option DV
  | 0 => none
  | k + 1 => some (.inr (5, i, h.2 (3, i, 0) k))
theorem c_sweep (n i : Nat) (h : DH) {c : Nat} (hc : h.1 (0, i, 0) 3 = nI c) (h30 : c ≤ 30) (hk0 : rok h i c) : dEx (n + 1) 15 [.inr (0, i, 0)] h (none, up1 (sw h i c).1 (0, i, 0) 3 (nI (sw h i c).2)) := by
  refine dx_15 ?_
  generalize hr : ((none : Option DV), up1 (sw h i c).1 (0, i, 0) 3 (nI (sw h i c).2)) = r
  refine Runs.go 4 rfl trivial ?_
  refine Runs.loop c (fun k => (4, [some (.inr (0, i, 0)), some (.inl (nI (sw h i k).2)), some (.inl (nI k)), lo5 h i k], [], (sw h i k).1)) (fun k hk ih => ?_) ?_
  · refine Runs.go 4 rfl trivial ?_
    obtain ⟨w1, w2, w3, w4⟩ := sw_inv h i k
    obtain ⟨d, hd, hkd⟩ := hk0 k hk
    rw [w3, hc]
    refine Runs.ifF (i_ge hk (by omega)) ?_
    refine Runs.go 8 rfl ⟨trivial, (i_in (show k < 30 by omega) (by decide))⟩ ?_
    rw [i_cl (show k < 2 ^ 31 by omega)]
    have e4 : (sw h i k).1.2 (3, i, 0) k = h.2 (3, i, 0) k := w4 k (Nat.le_refl k)
    rw [show sw h i (k + 1) = swB i k (sw h i k) from rfl] at ih
    unfold swB at ih
    rw [show lo5 h i (k + 1) = some (.inr (5, i, (sw h i k).1.2 (3, i, 0) k)) by rw [e4]; rfl] at ih
    have e5 : (sw h i k).1.1 (5, i, (sw h i k).1.2 (3, i, 0) k) 1 = nI d := by rw [w2, e4]; exact hkd
    generalize sw h i k = q at ih w1 e5 ⊢
    obtain ⟨g, b⟩ := q
    dsimp only at ih w1 e5 ⊢
    by_cases z : 0 < g.1 (5, i, g.2 (3, i, 0) k) 3
    · rw [if_pos z] at ih
      refine Runs.ifF (Int32.not_le.mpr z) ?_
      refine Runs.go 17 rfl ⟨⟨⟨trivial, (i_in (show b < 30 by omega) (by decide))⟩, (⟨i_in (show k < 30 by omega) (by decide), rfl⟩)⟩, (⟨i_in (show b < 30 by omega) (by decide), rfl⟩)⟩ ?_
      rw [i_cl (show k < 2 ^ 31 by omega), i_cl (show b < 2 ^ 31 by omega), nI_1, nI_1]
      exact ih
    · rw [if_neg z] at ih
      refine Runs.ifT (Int32.not_lt.mp z) ?_
      refine Runs.go 12 rfl ⟨trivial, (by rw [e5]; exact i_in hd (by decide))⟩ ?_
      rw [nI_1]
      exact ih
  · refine Runs.go 4 rfl trivial ?_
    obtain ⟨w1, w2, w3, w4⟩ := sw_inv h i c
    rw [w3, hc]
    refine Runs.ifT (Int32.le_refl _) ?_
    refine Runs.go 3 rfl trivial ?_
    exact Runs.fin (by rw [← hr]; rfl) trivial
