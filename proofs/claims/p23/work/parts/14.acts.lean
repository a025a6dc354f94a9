/-! the class's acts on a state, as they are -/
theorem Fr.o {i i' : Nat} {h h' : DH} (a : Fr i h h') (hne : i' ≠ i) (k j : Nat) : h'.1 (k, i', j) = h.1 (k, i', j) := a.h1 (fun z => hne z.2)
theorem Fr.o2 {i i' : Nat} {h h' : DH} (a : Fr i h h') (hne : i' ≠ i) (k j : Nat) : h'.2 (k, i', j) = h.2 (k, i', j) := a.h2 (fun z => hne z.2)
theorem cpo_0 (h : DH) (κ κ' : DKey) : cpo h κ κ' 0 = h := by
  refine Prod.ext ?_ rfl
  funext q k
  simp [cpo]
theorem cpo_succ (h : DH) {κ κ' : DKey} (hne : κ' ≠ κ) (n : Nat) : up1 (cpo h κ κ' n) κ n ((cpo h κ κ' n).1 κ' n) = cpo h κ κ' (n + 1) := by
  refine Prod.ext ?_ rfl
  funext q k
  simp only [up1_1, cpo]
  by_cases hq : q = κ
  · subst hq
    by_cases hk : k = n
    · subst hk
      simp [hne]
    · by_cases hk2 : k < n
      · simp [hk, hk2, show k < n + 1 by omega]
      · simp [hk, hk2, show ¬ k < n + 1 by omega]
  · simp [hq]
theorem Fr_cpo {i : Nat} {h h' : DH} (a : Fr i h h') {κ κ' : DKey} {n : Nat} (hκ : κ.1 ≤ 5 ∧ κ.2.1 = i) : Fr i h (cpo h' κ κ' n) := fun q hq => ⟨by
  have hne : q ≠ κ := fun e => hq (by rw [e]; exact hκ)
  rw [← (a q hq).1]
  funext k
  simp [cpo, hne], (a q hq).2⟩
def cpD (h : DH) (i i' : Nat) : Nat → DH
  | 0 => h
  | k + 1 => cpo (cpD h i i' k) (4, i, k) (4, i', k) 7
def cpR (h : DH) (i i' : Nat) : Nat → DH
  | 0 => h
  | k + 1 => cpo (cpR h i i' k) (5, i, h.2 (3, i, 0) k) (5, i', h.2 (3, i', 0) k) 5
def cpS (h : DH) (κ κ' : DKey) : DH := (fun q k => if q = κ ∧ 3 ≤ k ∧ k < 15 then h.1 κ' k else h.1 q k, h.2)
theorem cpD_2 (h : DH) (i i' k : Nat) : (cpD h i i' k).2 = h.2 := by
  induction k with
  | zero => rfl
  | succ k ih => exact ih
theorem cpR_2 (h : DH) (i i' k : Nat) : (cpR h i i' k).2 = h.2 := by
  induction k with
  | zero => rfl
  | succ k ih => exact ih
theorem Fr_cpD (h : DH) (i i' k : Nat) : Fr i h (cpD h i i' k) := by
  induction k with
  | zero => exact Fr.rf
  | succ k ih => exact Fr_cpo ih ⟨by show (4 : Nat) ≤ 5; decide, rfl⟩
theorem Fr_cpR (h : DH) (i i' k : Nat) : Fr i h (cpR h i i' k) := by
  induction k with
  | zero => exact Fr.rf
  | succ k ih => exact Fr_cpo ih ⟨by show (5 : Nat) ≤ 5; decide, rfl⟩
def cfull (h : DH) (i i' c : Nat) : DH := cpS (cpR (cpD (cpo h (1, i, 0) (1, i', 0) 10) i i' 12) i i' c) (0, i, 0) (0, i', 0)
theorem c_copyFrom (n i i' : Nat) (h : DH) (hne : i' ≠ i) {c : Nat} (hc : h.1 (0, i', 0) 3 = nI c) (h30 : c ≤ 30) (hz : ∀ j, j < 12 → h.1 (4, i', j) 5 = 0 ∨ h.1 (4, i', j) 5 = 1) (hb : h.1 (0, i', 0) 10 = 0 ∨ h.1 (0, i', 0) 10 = 1) : dEx (n + 2) 2 [.inr (0, i, 0), .inr (0, i', 0)] h (none, cfull h i i' c) := by
  refine dx_2 ?_
  generalize hr : (none, cfull h i i' c) = r
  refine Runs.go 2 rfl trivial ?_
  have e0 : h = cpo h (1, i, 0) (1, i', 0) 0 := (cpo_0 _ _ _).symm
  have goal1 : Runs dT_2 (dEx (n + 1)) (2, [some (.inr (0, i, 0)), some (.inr (0, i', 0)), some (.inl (nI 0))], [], cpo h (1, i, 0) (1, i', 0) 0) r := by
    refine Runs.loop 10 (fun k => (2, [some (.inr (0, i, 0)), some (.inr (0, i', 0)), some (.inl (nI k))], [], cpo h (1, i, 0) (1, i', 0) k)) (fun k hk ih => ?_) ?_
    · refine Runs.go 3 rfl trivial ?_
      refine Runs.ifF (i_ge hk (by decide)) ?_
      refine Runs.go 10 rfl ⟨⟨trivial, (i_in hk (by decide))⟩, (i_in hk (by decide))⟩ ?_
      rw [i_cl (by omega), cpo_succ h (by simp [hne]), nI_1]
      exact ih
    · refine Runs.go 3 rfl trivial ?_
      refine Runs.ifT (Int32.le_refl _) ?_
      have F1 : Fr i h (cpo h (1, i, 0) (1, i', 0) 10) := Fr_cpo Fr.rf ⟨by show (1 : Nat) ≤ 5; decide, rfl⟩
      generalize hg1 : cpo h (1, i, 0) (1, i', 0) 10 = g1 at F1 ⊢
      refine Runs.go 2 rfl trivial ?_
      refine Runs.loop 12 (fun k => (28, [some (.inr (0, i, 0)), some (.inr (0, i', 0)), some (.inl (nI k))], [], cpD g1 i i' k)) (fun k hk ih => ?_) ?_
      · refine Runs.go 3 rfl trivial ?_
        refine Runs.ifF (i_ge hk (by decide)) ?_
        refine Runs.go 8 rfl ⟨⟨trivial, (i_in hk (by decide))⟩, (i_in hk (by decide))⟩ ?_
        rw [i_cl (by omega)]
        have F2 := F1.tr (Fr_cpD g1 i i' k)
        refine Runs.calv rfl (c_diskCopy n i k i' k _ (by rw [F2.h1 (fun z => hne z.2)]; exact hz k hk)) ?_
        refine Runs.go 2 rfl trivial ?_
        rw [nI_1]
        exact ih
      · refine Runs.go 3 rfl trivial ?_
        refine Runs.ifT (Int32.le_refl _) ?_
        have F2 := F1.tr (Fr_cpD g1 i i' 12)
        have e2 : (cpD g1 i i' 12).2 = h.2 := by rw [cpD_2, ← hg1]; rfl
        generalize hg2 : cpD g1 i i' 12 = g2 at F2 e2 ⊢
        refine Runs.go 2 rfl trivial ?_
        refine Runs.loop c (fun k => (57, [some (.inr (0, i, 0)), some (.inr (0, i', 0)), some (.inl (nI k))], [], cpR g2 i i' k)) (fun k hk ih => ?_) ?_
        · refine Runs.go 4 rfl trivial ?_
          have F3 := F2.tr (Fr_cpR g2 i i' k)
          rw [F3.o hne 0 0, hc]
          refine Runs.ifF (i_ge hk (by omega)) ?_
          refine Runs.go 8 rfl ⟨⟨trivial, (i_in (show k < 30 by omega) (by decide))⟩, (i_in (show k < 30 by omega) (by decide))⟩ ?_
          rw [i_cl (by omega), cpR_2]
          refine Runs.calv rfl (c_readCopy n i _ i' _ _) ?_
          refine Runs.go 2 rfl trivial ?_
          rw [nI_1]
          exact ih
        · refine Runs.go 4 rfl trivial ?_
          have F3 := F2.tr (Fr_cpR g2 i i' c)
          rw [F3.o hne 0 0, hc]
          refine Runs.ifT (Int32.le_refl _) ?_
          have hb' : (cpR g2 i i' c).1 (0, i', 0) 10 = 0 ∨ (cpR g2 i i' c).1 (0, i', 0) 10 = 1 := by
            rw [F3.o hne 0 0]
            exact hb
          have hr' : r = (none, cpS (cpR g2 i i' c) (0, i, 0) (0, i', 0)) := by rw [← hr, ← hg2, ← hg1]; rfl
          generalize cpR g2 i i' c = g3 at hb' hr' ⊢
          rw [hr']
          refine Runs.go 48 rfl ⟨trivial, (by simpa [up1_1, hne] using hb')⟩ ?_
          refine Runs.fin ?_ trivial
          refine congrArg (fun z => some (True, (none, z))) ?_
          refine Prod.ext ?_ rfl
          funext q k
          simp only [up1_1, cpS]
          by_cases hq : q = (0, i, 0)
          · subst hq
            by_cases hk : 3 ≤ k ∧ k < 15
            · have : k = 3 ∨ k = 4 ∨ k = 5 ∨ k = 6 ∨ k = 7 ∨ k = 8 ∨ k = 9 ∨ k = 10 ∨ k = 11 ∨ k = 12 ∨ k = 13 ∨ k = 14 := by omega
              rcases this with rfl | rfl | rfl | rfl | rfl | rfl | rfl | rfl | rfl | rfl | rfl | rfl <;> simp [hne]
            · have : k ≠ 3 ∧ k ≠ 4 ∧ k ≠ 5 ∧ k ≠ 6 ∧ k ≠ 7 ∧ k ≠ 8 ∧ k ≠ 9 ∧ k ≠ 10 ∧ k ≠ 11 ∧ k ≠ 12 ∧ k ≠ 13 ∧ k ≠ 14 := by omega
              simp [this, hk]
          · simp [hq]
  rw [← e0] at goal1
  exact goal1
/-- set: the answer and the heap -/
theorem c_setNumber (n i : Nat) (y x : Int32) (h : DH) : (¬ wip y 0 9 → dEx (n + 2) 5 [.inr (0, i, 0), .inl y, .inl x] h (some (.inl (-1)), h)) ∧ (∀ w, w < 10 → y = nI w → dEx (n + 2) 5 [.inr (0, i, 0), .inl y, .inl x] h (if wi x (dcst 1 w) (dcst 2 w) = 0 then (some (.inl (-2)), h) else if h.1 (1, i, 0) w = x then (some (.inl (-5)), h) else (some (.inl (h.1 (1, i, 0) w)), up1 h (1, i, 0) w x))) := by
  constructor
  · intro hy
    refine dx_5 ?_
    refine Runs.go 3 rfl trivial ?_
    refine Runs.cal rfl (c_isWithin n _ _ _ h) ?_
    rw [wi_0 hy]
    refine Runs.go 1 rfl trivial ?_
    refine Runs.ifT rfl ?_
    refine Runs.go 1 rfl trivial ?_
    exact Runs.fin rfl trivial
  · rintro w hw rfl
    refine dx_5 ?_
    refine Runs.go 3 rfl trivial ?_
    refine Runs.cal rfl (c_isWithin n _ _ _ h) ?_
    rw [wi_1 (show wip (nI w) 0 9 from ⟨nI_pos (by omega), nI_nlt (show w ≤ 9 by omega) (by decide)⟩)]
    refine Runs.go 1 rfl trivial ?_
    refine Runs.ifF (by decide) ?_
    refine Runs.go 7 rfl ⟨⟨trivial, (i_in hw (by decide))⟩, (i_in hw (by decide))⟩ ?_
    rw [i_cl (show w < 2 ^ 31 by omega)]
    refine Runs.cal rfl (c_isWithin n _ _ _ h) ?_
    refine Runs.go 1 rfl trivial ?_
    refine Runs.ifS (fun z => ?_) (fun z => ?_)
    · rw [if_pos z]
      refine Runs.go 1 rfl trivial ?_
      exact Runs.fin rfl trivial
    · rw [if_neg z]
      refine Runs.go 8 rfl ⟨trivial, (i_in hw (by decide))⟩ ?_
      rw [i_cl (show w < 2 ^ 31 by omega)]
      refine Runs.ifS (fun z => ?_) (fun z => ?_)
      · rw [if_pos z]
        refine Runs.go 1 rfl trivial ?_
        exact Runs.fin rfl trivial
      · rw [if_neg z]
        refine Runs.go 6 rfl ⟨trivial, (i_in hw (by decide))⟩ ?_
        rw [i_cl (show w < 2 ^ 31 by omega)]
        exact Runs.fin rfl trivial
/-- a read is asked for -/
def caddH (h : DH) (i c d : Nat) (t : Int32) : DH := up1 (up1 (up1 (up1 (up1 (up1 (up1 (up1 h (5, i, h.2 (3, i, 0) c) 0 (h.1 (0, i, 0) 4)) (5, i, h.2 (3, i, 0) c) 1 (nI d)) (5, i, h.2 (3, i, 0) c) 2 t) (5, i, h.2 (3, i, 0) c) 3 t) (5, i, h.2 (3, i, 0) c) 4 (h.1 (0, i, 0) 8)) (0, i, 0) 3 (nI (c + 1))) (0, i, 0) 4 (h.1 (0, i, 0) 4 + 1)) (4, i, d) 6 (h.1 (4, i, d) 6 + 1)
theorem c_addRead (n i : Nat) (y t : Int32) (h : DH) {c : Nat} (hc : h.1 (0, i, 0) 3 = nI c) (h30 : c ≤ 30) : (¬ wip y 0 11 → dEx (n + 3) 10 [.inr (0, i, 0), .inl y, .inl t] h (some (.inl (-1)), h)) ∧ (∀ d, d < 12 → y = nI d → dEx (n + 3) 10 [.inr (0, i, 0), .inl y, .inl t] h (if wi t 1 50 = 0 then (some (.inl (-2)), h) else if h.1 (4, i, d) 0 = 3 then (some (.inl (-4)), h) else if c = 30 ∨ 500 ≤ h.1 (0, i, 0) 4 then (some (.inl (-3)), h) else (some (.inl (h.1 (0, i, 0) 4)), caddH h i c d t))) := by
  constructor
  · intro hy
    refine dx_10 ?_
    refine Runs.go 1 rfl trivial ?_
    refine Runs.cal rfl (c_isDisk n _ h) ?_
    rw [wi_0 hy]
    refine Runs.go 1 rfl trivial ?_
    refine Runs.ifT rfl ?_
    refine Runs.go 1 rfl trivial ?_
    exact Runs.fin rfl trivial
  · rintro d hd rfl
    refine dx_10 ?_
    refine Runs.go 1 rfl trivial ?_
    refine Runs.cal rfl (c_isDisk n _ h) ?_
    rw [wi_1 (show wip (nI d) 0 11 from ⟨nI_pos (by omega), nI_nlt (show d ≤ 11 by omega) (by decide)⟩)]
    refine Runs.go 1 rfl trivial ?_
    refine Runs.ifF (by decide) ?_
    refine Runs.go 3 rfl trivial ?_
    refine Runs.cal rfl (c_isWithin (n + 1) _ _ _ h) ?_
    refine Runs.go 1 rfl trivial ?_
    refine Runs.ifS (fun z => ?_) (fun z => ?_)
    · rw [if_pos z]
      refine Runs.go 1 rfl trivial ?_
      exact Runs.fin rfl trivial
    · rw [if_neg z]
      refine Runs.go 7 rfl ⟨trivial, (i_in hd (by decide))⟩ ?_
      rw [i_cl (show d < 2 ^ 31 by omega)]
      refine Runs.ifS (fun z => ?_) (fun z => ?_)
      · rw [if_pos z]
        refine Runs.go 1 rfl trivial ?_
        exact Runs.fin rfl trivial
      · rw [if_neg z]
        refine Runs.go 4 rfl trivial ?_
        rw [hc]
        by_cases h3 : c = 30
        · rw [if_pos (Or.inl h3), h3]
          refine Runs.ifT (by decide) ?_
          refine Runs.go 1 rfl trivial ?_
          exact Runs.fin rfl trivial
        · refine Runs.ifF (i_ge (show c < 30 by omega) (by decide)) ?_
          refine Runs.go 4 rfl trivial ?_
          refine Runs.ifS (fun z => ?_) (fun z => ?_)
          · rw [if_neg (fun q => q.elim h3 (fun q => absurd z (Int32.not_lt.mpr q)))]
            refine Runs.go 46 rfl ⟨⟨trivial, (by rw [hc]; exact i_in (show c < 30 by omega) (by decide))⟩, (i_in hd (by decide))⟩ ?_
            refine Runs.fin ?_ trivial
            refine congrArg some (Prod.ext rfl (Prod.ext ?_ ?_))
            · simp [up1_1, hc, i_cl (show c < 2 ^ 31 by omega)]
            · simp only [up1_1, up1_2, hc, i_cl (show c < 2 ^ 31 by omega), i_cl (show d < 2 ^ 31 by omega)]
              simp [caddH, nI_1, up1_2]
          · rw [if_pos (Or.inr (Int32.not_lt.mp z))]
            refine Runs.go 1 rfl trivial ?_
            exact Runs.fin rfl trivial
/-- a fault is planned -/
def cplans (h : DH) (i : Nat) : Int32 := sumN (fun j => if h.1 (4, i, j) 5 = 0 then 0 else 1) 12
theorem c_planFault (n i : Nat) (y : Int32) (h : DH) : (¬ wip y 0 11 → dEx (n + 3) 17 [.inr (0, i, 0), .inl y] h (some (.inl (-1)), h)) ∧ (∀ d, d < 12 → y = nI d → dEx (n + 3) 17 [.inr (0, i, 0), .inl y] h (if h.1 (4, i, d) 0 = 3 then (some (.inl (-4)), h) else if h.1 (4, i, d) 5 = 0 then (some (.inl (cplans (up1 h (4, i, d) 5 1) i)), up1 h (4, i, d) 5 1) else (some (.inl (-5)), h))) := by
  constructor
  · intro hy
    refine dx_17 ?_
    refine Runs.go 1 rfl trivial ?_
    refine Runs.cal rfl (c_isDisk n _ h) ?_
    rw [wi_0 hy]
    refine Runs.go 1 rfl trivial ?_
    refine Runs.ifT rfl ?_
    refine Runs.go 1 rfl trivial ?_
    exact Runs.fin rfl trivial
  · rintro d hd rfl
    refine dx_17 ?_
    refine Runs.go 1 rfl trivial ?_
    refine Runs.cal rfl (c_isDisk n _ h) ?_
    rw [wi_1 (show wip (nI d) 0 11 from ⟨nI_pos (by omega), nI_nlt (show d ≤ 11 by omega) (by decide)⟩)]
    refine Runs.go 1 rfl trivial ?_
    refine Runs.ifF (by decide) ?_
    refine Runs.go 7 rfl ⟨trivial, (i_in hd (by decide))⟩ ?_
    rw [i_cl (show d < 2 ^ 31 by omega)]
    refine Runs.ifS (fun z => ?_) (fun z => ?_)
    · rw [if_pos z]
      refine Runs.go 1 rfl trivial ?_
      exact Runs.fin rfl trivial
    · rw [if_neg z]
      refine Runs.go 6 rfl ⟨trivial, (i_in hd (by decide))⟩ ?_
      rw [i_cl (show d < 2 ^ 31 by omega)]
      refine Runs.ifS (fun z => ?_) (fun z => ?_)
      · rw [if_pos z]
        generalize hr : ((some (.inl (cplans (up1 h (4, i, d) 5 1) i)) : Option DV), up1 h (4, i, d) 5 1) = r
        refine Runs.go 10 rfl ⟨⟨trivial, i_in hd (by decide)⟩, Or.inr rfl⟩ ?_
        rw [i_cl (show d < 2 ^ 31 by omega)]
        generalize hg : up1 h (4, i, d) 5 1 = g at hr ⊢
        refine Runs.loop 12 (fun k => (54, [some (.inr (0, i, 0)), some (.inl (nI d)), some (.inl (sumN (fun j => if g.1 (4, i, j) 5 = 0 then 0 else 1) k)), some (.inl (nI k))], [], g)) (fun k hk ih => ?_) ?_
        · refine Runs.go 3 rfl trivial ?_
          refine Runs.ifF (i_ge hk (by decide)) ?_
          refine Runs.go 6 rfl ⟨trivial, (i_in hk (by decide))⟩ ?_
          rw [i_cl (show k < 2 ^ 31 by omega)]
          refine Runs.cal rfl (c_flag (n + 1) _ g) ?_
          refine Runs.go 4 rfl trivial ?_
          rw [nI_1]
          exact ih
        · refine Runs.go 3 rfl trivial ?_
          refine Runs.ifT (Int32.le_refl _) ?_
          refine Runs.go 1 rfl trivial ?_
          refine Runs.fin ?_ trivial
          rw [← hr]
          rfl
      · rw [if_neg z]
        refine Runs.go 1 rfl trivial ?_
        exact Runs.fin rfl trivial
/-- a disk is replaced -/
def crpB (g : DH) (i d k : Nat) : DH := if g.1 (5, i, g.2 (3, i, 0) k) 1 = nI d then up1 g (5, i, g.2 (3, i, 0) k) 3 (g.1 (5, i, g.2 (3, i, 0) k) 2) else g
def crp (h : DH) (i d : Nat) : Nat → DH
  | 0 => up1 (up1 (up1 (sbH h (4, i, d)) (4, i, d) 2 0) (4, i, d) 4 0) (4, i, d) 5 0
  | k + 1 => crpB (crp h i d k) i d k
theorem crp_2 (h : DH) (i d k : Nat) : (crp h i d k).2 = h.2 := by
  induction k with
  | zero => rfl
  | succ k ih =>
    show (crpB (crp h i d k) i d k).2 = h.2
    unfold crpB
    split
    · exact ih
    · exact ih
theorem crp_0 (h : DH) (i d k : Nat) : (crp h i d k).1 (0, i, 0) = h.1 (0, i, 0) := by
  induction k with
  | zero =>
    funext j
    simp [crp, sbH, up1_1]
  | succ k ih =>
    show (crpB (crp h i d k) i d k).1 (0, i, 0) = h.1 (0, i, 0)
    unfold crpB
    split
    · rw [up1_ne _ _ _ (by simp)]
      exact ih
    · exact ih
theorem c_replaceDisk (n i : Nat) (y : Int32) (h : DH) {c : Nat} (hc : h.1 (0, i, 0) 3 = nI c) (h30 : c ≤ 30) : (¬ wip y 0 11 → dEx (n + 3) 20 [.inr (0, i, 0), .inl y] h (some (.inl (-1)), h)) ∧ (∀ d, d < 12 → y = nI d → dEx (n + 3) 20 [.inr (0, i, 0), .inl y] h (some (.inl (h.1 (4, i, d) 0)), crp h i d c)) := by
  constructor
  · intro hy
    refine dx_20 ?_
    refine Runs.go 1 rfl trivial ?_
    refine Runs.cal rfl (c_isDisk n _ h) ?_
    rw [wi_0 hy]
    refine Runs.go 1 rfl trivial ?_
    refine Runs.ifT rfl ?_
    refine Runs.go 1 rfl trivial ?_
    exact Runs.fin rfl trivial
  · rintro d hd rfl
    refine dx_20 ?_
    generalize hr : ((some (.inl (h.1 (4, i, d) 0)) : Option DV), crp h i d c) = r
    refine Runs.go 1 rfl trivial ?_
    refine Runs.cal rfl (c_isDisk n _ h) ?_
    rw [wi_1 (show wip (nI d) 0 11 from ⟨nI_pos (by omega), nI_nlt (show d ≤ 11 by omega) (by decide)⟩)]
    refine Runs.go 1 rfl trivial ?_
    refine Runs.ifF (by decide) ?_
    refine Runs.go 10 rfl ⟨⟨trivial, (i_in hd (by decide))⟩, (i_in hd (by decide))⟩ ?_
    rw [i_cl (show d < 2 ^ 31 by omega)]
    refine Runs.calv rfl (c_renew n i d h) ?_
    refine Runs.go 2 rfl trivial ?_
    refine Runs.loop c (fun k => (30, [some (.inr (0, i, 0)), some (.inl (nI d)), some (.inl (h.1 (4, i, d) 0)), some (.inl (nI k))], [], crp h i d k)) (fun k hk ih => ?_) ?_
    · refine Runs.go 4 rfl trivial ?_
      rw [crp_0, hc]
      refine Runs.ifF (i_ge hk (by omega)) ?_
      refine Runs.go 7 rfl ⟨trivial, (i_in (show k < 30 by omega) (by decide))⟩ ?_
      rw [i_cl (by omega)]
      rw [show crp h i d (k + 1) = crpB (crp h i d k) i d k from rfl] at ih
      unfold crpB at ih
      refine Runs.ifS (fun z => ?_) (fun z => ?_)
      · rw [if_pos z] at ih
        refine Runs.go 12 rfl ⟨⟨trivial, (i_in (show k < 30 by omega) (by decide))⟩, (i_in (show k < 30 by omega) (by decide))⟩ ?_
        rw [i_cl (by omega), nI_1]
        exact ih
      · rw [if_neg z] at ih
        refine Runs.go 2 rfl trivial ?_
        rw [nI_1]
        exact ih
    · refine Runs.go 4 rfl trivial ?_
      rw [crp_0, hc]
      refine Runs.ifT (Int32.le_refl _) ?_
      refine Runs.go 1 rfl trivial ?_
      exact Runs.fin (by rw [← hr]; rfl) trivial
theorem c_renewFuse (n i : Nat) (h : DH) : dEx (n + 3) 24 [.inr (0, i, 0)] h (if h.1 (0, i, 0) 10 = 0 then (some (.inl (-5)), h) else (some (.inl (sumN (ccur (up1 h (0, i, 0) 10 0) i) 12)), up1 h (0, i, 0) 10 0)) := by
  refine dx_24 ?_
  refine Runs.go 3 rfl trivial ?_
  refine Runs.ifS (fun z => ?_) (fun z => ?_)
  · rw [if_pos z]
    refine Runs.go 1 rfl trivial ?_
    exact Runs.fin rfl trivial
  · rw [if_neg z]
    refine Runs.go 4 rfl ⟨trivial, (Or.inl rfl)⟩ ?_
    refine Runs.cal rfl (c_currentOfNow n i _) ?_
    exact Runs.fin rfl trivial
