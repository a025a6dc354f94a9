/-! what a tick of state i leaves as it is -/
def Fq (e i : Nat) (κ : DKey) (k : Nat) : Prop := κ.1 ≤ 5 ∧ κ.2.1 = i ∧ κ.1 ≠ 1 ∧ ¬ (κ.1 = 0 ∧ (k = 4 ∨ k = e))
def Ft (e i : Nat) (h h' : DH) : Prop := (∀ κ k, ¬ Fq e i κ k → h'.1 κ k = h.1 κ k) ∧ ∀ κ : DKey, κ ≠ (3, i, 0) → h'.2 κ = h.2 κ
theorem Fq5 (e i p f : Nat) : Fq e i (5, i, p) f := ⟨Nat.le_refl 5, rfl, (by simp), fun t => absurd t.1 (by simp)⟩
theorem Fq4 (e i d f : Nat) : Fq e i (4, i, d) f := ⟨(by show (4 : Nat) ≤ 5; decide), rfl, (by simp), fun t => absurd t.1 (by simp)⟩
theorem Fq0 (e i : Nat) {f : Nat} (hf : f ≠ 4 ∧ f ≠ e) : Fq e i (0, i, 0) f := ⟨(by show (0 : Nat) ≤ 5; decide), rfl, (by simp), fun t => t.2.elim hf.1 hf.2⟩
section FTL
variable {e i : Nat} {h g : DH}
theorem Ft.rf : Ft e i h h := ⟨fun _ _ _ => rfl, fun _ _ => rfl⟩
theorem Ft.tr {h' : DH} (a : Ft e i h g) (b : Ft e i g h') : Ft e i h h' := ⟨fun κ k hq => (b.1 κ k hq).trans (a.1 κ k hq), fun κ hq => (b.2 κ hq).trans (a.2 κ hq)⟩
theorem Ft.u1 (a : Ft e i h g) {κ : DKey} {k : Nat} {x : Int32} (hq : Fq e i κ k) : Ft e i h (up1 g κ k x) := ⟨fun κ' k' hn => by
  rw [up1_1, if_neg (fun t => hn (by rw [t.1, t.2]; exact hq))]
  exact a.1 κ' k' hn, a.2⟩
theorem Ft.a5 (a : Ft e i h g) {p f : Nat} {x : Int32} : Ft e i h (up1 g (5, i, p) f x) := a.u1 (Fq5 e i p f)
theorem Ft.a4 (a : Ft e i h g) {p f : Nat} {x : Int32} : Ft e i h (up1 g (4, i, p) f x) := a.u1 (Fq4 e i p f)
theorem Ft.a0 (a : Ft e i h g) {f : Nat} {x : Int32} (hf : f ≠ 4 ∧ f ≠ e) : Ft e i h (up1 g (0, i, 0) f x) := a.u1 (Fq0 e i hf)
theorem Ft.b (a : Ft e i h g) {k x : Nat} : Ft e i h (up2 g (3, i, 0) k x) := ⟨a.1, fun κ hq => by
  rw [up2_ne _ _ _ hq]
  exact a.2 κ hq⟩
theorem Ft.sb (a : Ft e i h g) {d : Nat} : Ft e i h (sbH g (4, i, d)) := by
  unfold sbH
  exact a.a4.a4.a4
theorem Ft.fail (a : Ft e i h g) {d : Nat} : Ft e i h (failH g (4, i, d)) := by
  unfold failH
  split
  · exact a.sb.a4.a4
  · exact a.sb.a4.a4.a4
theorem Ft.xclose (he : e = 4 ∨ e = 8 ∨ e = 5 ∨ e = 9) (a : Ft e i h g) {d : Nat} : ∀ k, Ft e i h (close g i d k) := by
  intro k
  induction k with
  | zero => exact a
  | succ k ih =>
    rw [show close g i d (k + 1) = clB (close g i d k) i d k from rfl]
    unfold clB
    split
    · exact ih.a5.a0 (by omega)
    · exact ih
theorem Ft.xgs (he : e = 4 ∨ e = 8 ∨ e = 5 ∨ e = 9) (a : Ft e i h g) (c : Nat) : ∀ k, Ft e i h (gs g i c k).1 := by
  intro k
  induction k with
  | zero => exact a
  | succ k ih =>
    rw [show gs g i c (k + 1) = gsB i c k (gs g i c k) from rfl]
    generalize gs g i c k = q at ih ⊢
    have f1 : Ft e i h (failH (up1 (up1 q.1 (4, i, k) 1 (q.1.1 (4, i, k) 1 - 1)) (0, i, 0) 14 (q.1.1 (0, i, 0) 14 + 1)) (4, i, k)) := (ih.a4.a0 (by omega)).fail
    unfold gsB
    by_cases z1 : q.1.1 (4, i, k) 0 = 1
    · rw [if_pos z1]
      by_cases z2 : 0 < q.1.1 (4, i, k) 1 - 1
      · rw [if_pos z2]; exact ih.a4
      · rw [if_neg z2]
        by_cases z3 : q.1.1 (4, i, k) 5 = 0
        · rw [if_pos z3]; exact ih.a4.a4.a4.a4
        · rw [if_neg z3]
          dsimp only
          split
          · exact Ft.xclose he f1 c
          · exact f1
    · rw [if_neg z1]; exact ih
theorem Ft.xri (he : e = 4 ∨ e = 8 ∨ e = 5 ∨ e = 9) (a : Ft e i h g) (b : Int32) : ∀ k, Ft e i h (ri g i b k) := by
  intro k
  induction k with
  | zero => exact a
  | succ k ih =>
    rw [show ri g i b (k + 1) = riB i b k (ri g i b k) from rfl]
    unfold riB
    split
    · split
      · split
        · exact ih.a4
        · split
          · exact ih.a4
          · exact ih.a4.sb
      · exact ih
    · exact ih
theorem Ft.xsw (he : e = 4 ∨ e = 8 ∨ e = 5 ∨ e = 9) (a : Ft e i h g) : ∀ k, Ft e i h (sw g i k).1 := by
  intro k
  induction k with
  | zero => exact a
  | succ k ih =>
    rw [show sw g i (k + 1) = swB i k (sw g i k) from rfl]
    unfold swB
    split
    · exact ih.b.b
    · exact ih.a4
theorem Ft.xgr (he2 : e = 4 ∨ e = 8 ∨ e = 9) (a : Ft e i h g) : ∀ k, Ft e i h (gr g i k).1 := by
  intro k
  induction k with
  | zero => exact a
  | succ k ih =>
    rw [show gr g i (k + 1) = grB i k (gr g i k) from rfl]
    unfold grB
    split
    · split
      · split
        · exact ih.a4.a5
        · exact (ih.a4.a5.a0 (by omega)).a0 (by omega)
      · exact ih
    · exact ih
theorem Ft.xgrAll (he2 : e = 4 ∨ e = 8 ∨ e = 9) (a : Ft e i h g) (c : Nat) : Ft e i h (grAll g i c) := by
  have he : e = 4 ∨ e = 8 ∨ e = 5 ∨ e = 9 := by omega
  unfold grAll
  exact (Ft.xsw he (Ft.xri he (Ft.xgr he2 a c) _ 12) c).a0 (by omega)
theorem Ft.xbs (he : e = 4 ∨ e = 8 ∨ e = 5 ∨ e = 9) (a : Ft e i h g) (f : Int32) : ∀ k, Ft e i h (bs g i f k).1 := by
  intro k
  induction k with
  | zero => exact a
  | succ k ih =>
    rw [show bs g i f (k + 1) = bsB i f k (bs g i f k) from rfl]
    unfold bsB
    split
    · exact ih.a4.a4.a4.a0 (by omega)
    · exact ih
theorem Ft.xco (he : e = 4 ∨ e = 8 ∨ e = 5 ∨ e = 9) (a : Ft e i h g) : ∀ k, Ft e i h (co g i k) := by
  intro k
  induction k with
  | zero => exact a
  | succ k ih =>
    rw [show co g i (k + 1) = coB i k (co g i k) from rfl]
    unfold coB
    split
    · exact ih
    · exact ih.sb
theorem Ft.xct (he : e = 4 ∨ e = 8 ∨ e = 5 ∨ e = 9) (a : Ft e i h g) : ∀ k, Ft e i h (ct g i k) := by
  intro k
  induction k with
  | zero => exact a
  | succ k ih => exact ih.a5
theorem Ft.xsf (he : e = 4 ∨ e = 8 ∨ e = 5 ∨ e = 9) (a : Ft e i h g) (x : Int32) : Ft e i h (sfB g i x) := by
  have q1 : 11 ≠ 4 ∧ 11 ≠ e := by omega
  have q2 : 10 ≠ 4 ∧ 10 ≠ e := by omega
  have q3 : 12 ≠ 4 ∧ 12 ≠ e := by omega
  unfold sfB
  split
  · split
    · split
      · exact (((a.a0 q1).a0 q2).a0 q3).a0 q1
      · exact a.a0 q1
    · split
      · exact (((a.a0 q1).a0 q2).a0 q3).a0 q1
      · exact a.a0 q1
  · exact a
theorem Ft.xtk (he2 : e = 4 ∨ e = 8 ∨ e = 9) (a : Ft e i h g) (c : Nat) : Ft e i h (tkH g i c) := by
  have he : e = 4 ∨ e = 8 ∨ e = 5 ∨ e = 9 := by omega
  unfold tkH
  split
  · exact Ft.xbs he (Ft.xgrAll he2 (Ft.xgs he a c 12) c) _ 12
  · exact Ft.xct he (Ft.xco he a 12) c
theorem Ft.xtick (a : Ft 4 i h g) (c : Nat) : Ft 4 i h (tick g i c) := by
  have t := Ft.xtk (Or.inl rfl) a c
  unfold tick sfH
  exact Ft.xsf (Or.inl rfl) ((t.a0 (by omega)).a0 (by omega)) _
theorem Ft.xpk (a : Ft 4 i h g) : ∀ k, Ft 4 i h (pk g i k) := by
  intro k
  induction k with
  | zero => exact a
  | succ k ih => exact ih.xtick _
theorem Ft.fr (a : Ft e i h g) : Fr i h g := fun κ hκ => ⟨funext fun k => a.1 κ k (fun t => hκ ⟨t.1, t.2.1⟩), a.2 κ (fun e => hκ (by rw [e]; exact ⟨by show (3 : Nat) ≤ 5; decide, rfl⟩))⟩
end FTL
theorem Fq_4 (e i : Nat) : ¬ Fq e i (0, i, 0) 4 := fun t => t.2.2.2 ⟨rfl, Or.inl rfl⟩
theorem Fq_8 (i : Nat) : ¬ Fq 8 i (0, i, 0) 8 := fun t => t.2.2.2 ⟨rfl, Or.inr rfl⟩
theorem tick_8 (h : DH) (i c : Nat) : (tick h i c).1 (0, i, 0) 8 = h.1 (0, i, 0) 8 + 1 := by
  have t := (Ft.xtk (e := 8) (i := i) (Or.inr (Or.inl rfl)) (Ft.rf (h := h)) c).1 (0, i, 0) 8 (Fq_8 i)
  unfold tick sfH
  generalize tkH h i c = g at t ⊢
  have u := (Ft.xsf (e := 8) (i := i) (Or.inr (Or.inl rfl)) (((Ft.rf (h := up1 g (0, i, 0) 8 (g.1 (0, i, 0) 8 + 1)))).a0 (f := 9) (x := mx ((up1 g (0, i, 0) 8 (g.1 (0, i, 0) 8 + 1)).1 (0, i, 0) 9) (sumN (ccur (up1 g (0, i, 0) 8 (g.1 (0, i, 0) 8 + 1)) i) 12)) (by omega)) (sumN (ccur (up1 g (0, i, 0) 8 (g.1 (0, i, 0) 8 + 1)) i) 12)).1 (0, i, 0) 8 (Fq_8 i)
  rw [u, up1_1, if_pos ⟨rfl, rfl⟩, t]
theorem pk_8 (h : DH) (i : Nat) : ∀ k, (pk h i k).1 (0, i, 0) 8 = h.1 (0, i, 0) 8 + nI k := by
  intro k
  induction k with
  | zero => exact (Int32.add_zero _).symm
  | succ k ih =>
    rw [show pk h i (k + 1) = tick (pk h i k) i ((pk h i k).1 (0, i, 0) 3).toNatClampNeg from rfl, tick_8, ih, Int32.add_assoc, nI_1]
theorem Fq_5 (i : Nat) : ¬ Fq 5 i (0, i, 0) 5 := fun t => t.2.2.2 ⟨rfl, Or.inr rfl⟩
theorem gr_5 (h : DH) (i : Nat) : ∀ k, ∃ m, m ≤ k ∧ (gr h i k).1.1 (0, i, 0) 5 = h.1 (0, i, 0) 5 + nI m := by
  intro k
  induction k with
  | zero => exact ⟨0, Nat.le_refl _, (Int32.add_zero _).symm⟩
  | succ k ih =>
    obtain ⟨m, hm, e⟩ := ih
    rw [show gr h i (k + 1) = grB i k (gr h i k) from rfl]
    unfold grB
    split
    · split
      · split
        · refine ⟨m, by omega, ?_⟩
          show (up1 (up1 _ _ _ _) _ _ _).1 _ _ = _
          rw [up1_ne _ _ _ (by simp), up1_ne _ _ _ (by simp)]
          exact e
        · refine ⟨m + 1, by omega, ?_⟩
          show (up1 (up1 (up1 (up1 _ _ _ _) _ _ _) _ _ _) _ _ _).1 _ _ = _
          rw [up1_1, if_neg (fun t => absurd t.2 (by decide)), up1_1, if_pos ⟨rfl, rfl⟩, e, Int32.add_assoc, nI_1]
      · exact ⟨m, by omega, e⟩
    · exact ⟨m, by omega, e⟩
theorem tick_5 (h : DH) (i c : Nat) : ∃ m, m ≤ c ∧ (tick h i c).1 (0, i, 0) 5 = h.1 (0, i, 0) 5 + nI m := by
  have he : 5 = 4 ∨ 5 = 8 ∨ 5 = 5 ∨ 5 = 9 := Or.inr (Or.inr (Or.inl rfl))
  have t : ∃ m, m ≤ c ∧ (tkH h i c).1 (0, i, 0) 5 = h.1 (0, i, 0) 5 + nI m := by
    unfold tkH
    split
    · have t1 := (Ft.xgs (e := 5) (i := i) he (Ft.rf (h := h)) c 12).1 (0, i, 0) 5 (Fq_5 i)
      have t4 := (Ft.xbs (e := 5) (i := i) he (Ft.rf (h := grAll (gs h i c 12).1 i c)) (gs h i c 12).2 12).1 (0, i, 0) 5 (Fq_5 i)
      generalize (gs h i c 12).1 = g at t1 t4 ⊢
      obtain ⟨m, hm, t2⟩ := gr_5 g i c
      refine ⟨m, hm, ?_⟩
      rw [t4]
      unfold grAll
      have t3 := ((Ft.xsw (e := 5) (i := i) he (Ft.xri he (Ft.rf (h := (gr g i c).1)) (gr g i c).2 12) c).a0 (f := 3) (x := nI (sw (ri (gr g i c).1 i (gr g i c).2 12) i c).2) (by omega)).1 (0, i, 0) 5 (Fq_5 i)
      rw [t3, t2, t1]
    · refine ⟨0, by omega, ?_⟩
      rw [nI_0, Int32.add_zero]
      exact (Ft.xct (e := 5) (i := i) he (Ft.xco he (Ft.rf (h := h)) 12) c).1 (0, i, 0) 5 (Fq_5 i)
  obtain ⟨m, hm, t⟩ := t
  refine ⟨m, hm, ?_⟩
  unfold tick sfH
  generalize tkH h i c = g at t ⊢
  have u := (Ft.xsf (e := 5) (i := i) he (((Ft.rf (h := g)).a0 (f := 8) (x := g.1 (0, i, 0) 8 + 1) (by omega)).a0 (f := 9) (x := mx ((up1 g (0, i, 0) 8 (g.1 (0, i, 0) 8 + 1)).1 (0, i, 0) 9) (sumN (ccur (up1 g (0, i, 0) 8 (g.1 (0, i, 0) 8 + 1)) i) 12)) (by omega)) (sumN (ccur (up1 g (0, i, 0) 8 (g.1 (0, i, 0) 8 + 1)) i) 12)).1 (0, i, 0) 5 (Fq_5 i)
  rw [u, t]
theorem Fq_9 (i : Nat) : ¬ Fq 9 i (0, i, 0) 9 := fun t => t.2.2.2 ⟨rfl, Or.inr rfl⟩
theorem ccur_cg {h h' : DH} {i : Nat} (e1 : h'.1 (1, i, 0) = h.1 (1, i, 0)) (e4 : ∀ d, h'.1 (4, i, d) = h.1 (4, i, d)) : ccur h' i = ccur h i := by
  funext j
  unfold ccur
  rw [e1, e4]
theorem sfB_o (g : DH) (i : Nat) (x : Int32) (κ : DKey) (hκ : κ ≠ (0, i, 0)) : (sfB g i x).1 κ = g.1 κ := by
  unfold sfB
  split
  · split
    · split
      · rw [up1_ne _ _ _ hκ, up1_ne _ _ _ hκ, up1_ne _ _ _ hκ, up1_ne _ _ _ hκ]
      · rw [up1_ne _ _ _ hκ]
    · split
      · rw [up1_ne _ _ _ hκ, up1_ne _ _ _ hκ, up1_ne _ _ _ hκ, up1_ne _ _ _ hκ]
      · rw [up1_ne _ _ _ hκ]
  · rfl
theorem tick_9 (h : DH) (i c : Nat) : (tick h i c).1 (0, i, 0) 9 = mx (h.1 (0, i, 0) 9) (sumN (ccur (tick h i c) i) 12) := by
  have t := (Ft.xtk (e := 9) (i := i) (Or.inr (Or.inr rfl)) (Ft.rf (h := h)) c).1 (0, i, 0) 9 (Fq_9 i)
  have ec : ccur (tick h i c) i = ccur (up1 (tkH h i c) (0, i, 0) 8 ((tkH h i c).1 (0, i, 0) 8 + 1)) i := by
    unfold tick sfH
    refine (ccur_cg (sfB_o _ _ _ _ (by simp)) (fun d => sfB_o _ _ _ _ (by simp))).trans (ccur_cg (up1_ne _ _ _ (by simp)) (fun d => up1_ne _ _ _ (by simp)))
  rw [ec]
  unfold tick sfH
  generalize tkH h i c = g at t ⊢
  have u := (Ft.xsf (e := 9) (i := i) (Or.inr (Or.inr (Or.inr rfl))) (Ft.rf (h := up1 (up1 g (0, i, 0) 8 (g.1 (0, i, 0) 8 + 1)) (0, i, 0) 9 (mx ((up1 g (0, i, 0) 8 (g.1 (0, i, 0) 8 + 1)).1 (0, i, 0) 9) (sumN (ccur (up1 g (0, i, 0) 8 (g.1 (0, i, 0) 8 + 1)) i) 12)))) (sumN (ccur (up1 g (0, i, 0) 8 (g.1 (0, i, 0) 8 + 1)) i) 12)).1 (0, i, 0) 9 (Fq_9 i)
  rw [u, up1_1, if_pos ⟨rfl, rfl⟩, up1_1, if_neg (fun t => absurd t.2 (by decide)), t]
/-! a state of the class with all that is known of it -/
def AInv (s : Nat → Int32) : Prop := ∃ a, a ≤ 500 ∧ s 12 = nI a
def TInv (s : Nat → Int32) : Prop := ∃ t, t ≤ 99999 ∧ s 10 = nI t
def VInv (s : Nat → Int32) : Prop := ∀ w, w < 10 → wip (s w) (dcst 1 w) (dcst 2 w)
def XR (h : DH) (i : Nat) (s : Nat → Int32) : Prop := (∃ c, SR h i c s) ∧ HInv s ∧ AInv s ∧ TInv s ∧ VInv s
/-- the rows of the reads of a state are apart -/
def WF (h : DH) (i : Nat) : Prop := pmi h i ∧ ∀ p, p < 30 → h.2 (3, i, 0) p < 30
theorem SR.wf {h : DH} {i c : Nat} {s : Nat → Int32} (hs : SR h i c s) : WF h i := ⟨hs.2.2.2.2.2.1, hs.2.2.2.2.2.2.1⟩
/-- the parts of state j are the same -/
def Eq5 (j : Nat) (h h' : DH) : Prop := ∀ k m, k ≤ 5 → h'.1 (k, j, m) = h.1 (k, j, m) ∧ h'.2 (k, j, m) = h.2 (k, j, m)
theorem Fr.e5 {h h' : DH} {i j : Nat} (F : Fr i h h') (hne : j ≠ i) : Eq5 j h h' := fun k m _ => ⟨F.o hne k m, F.o2 hne k m⟩
theorem SR.fr {h h' : DH} {j c : Nat} {s : Nat → Int32} (hs : SR h j c s) (F : Eq5 j h h') : SR h' j c s := by
  obtain ⟨h1, h2, h3, h4, h5, h6, h7, h8, h9, h10, h11⟩ := hs
  have e0 := (F 0 0 (by decide)).1
  have e1 := (F 1 0 (by decide)).1
  have e4 := fun m => (F 4 m (by decide)).1
  have e5 := fun m => (F 5 m (by decide)).1
  have e3 := (F 3 0 (by decide)).2
  refine ⟨h1.cg e1 (fun k _ _ => by rw [e0]) (fun d _ f _ => by rw [e4]) (fun _ _ => rfl), by rw [e0]; exact h2, h3, h4, ?_, ?_, ?_, fun d hd => by rw [e4]; exact h8 d hd, h9, h10, h11⟩
  · rw [← h5]
    unfold LC
    refine List.map_congr_left (fun k _ => ?_)
    simp only [rdk, e5, e3]
  · unfold pmi
    rw [e3]
    exact h6
  · rw [e3]
    exact h7
theorem XR.fr {h h' : DH} {j : Nat} {s : Nat → Int32} (hs : XR h j s) (F : Eq5 j h h') : XR h' j s := by
  obtain ⟨⟨c, h1⟩, h2⟩ := hs
  exact ⟨⟨c, h1.fr F⟩, h2⟩
theorem WF.fr {h h' : DH} {j : Nat} (hs : WF h j) (F : Eq5 j h h') : WF h' j := by
  unfold WF pmi
  rw [(F 3 0 (by decide)).2]
  exact hs
theorem XR.row {h : DH} {i : Nat} {s s' : Nat → Int32} (hs : XR h i s) (e : ∀ k, k < 244 → s' k = s k) : XR h i s' := by
  obtain ⟨⟨c, h1⟩, h2, h3, h4, h5⟩ := hs
  refine ⟨⟨c, h1.row e⟩, ?_, ?_, ?_, fun w hw => by rw [e w (by omega)]; exact h5 w hw⟩
  · unfold HInv
    rw [e 15 (by decide), e 16 (by decide)]
    exact h2
  · unfold AInv
    rw [e 12 (by decide)]
    exact h3
  · unfold TInv
    rw [e 10 (by decide)]
    exact h4
theorem SR.cp_ok {h : DH} {i c : Nat} {s : Nat → Int32} (hs : SR h i c s) : cpk h i c := by
  obtain ⟨h1, h2, h3, h4, h5, h6, h7, h8, h9, h10, h11⟩ := hs
  refine ⟨h2, h3, fun j hj => ?_, ?_⟩
  · rw [h1.2.2 j hj 5 (by decide)]
    exact (h10 j hj).2.2.2.2.2
  · rw [h1.2.1 10 (by decide) (by decide)]
    exact h9.2.2.2.2
/-! a copy of a state -/
theorem cpo_1 (h : DH) (κ κ' : DKey) (n : Nat) (q : DKey) (k : Nat) : (cpo h κ κ' n).1 q k = if q = κ ∧ k < n then h.1 κ' k else h.1 q k := rfl
theorem cpD_o (h : DH) (i i' : Nat) (q : DKey) (hq : q.1 ≠ 4) : ∀ n, (cpD h i i' n).1 q = h.1 q := by
  intro n
  induction n with
  | zero => rfl
  | succ n ih =>
    funext k
    rw [show cpD h i i' (n + 1) = cpo (cpD h i i' n) (4, i, n) (4, i', n) 7 from rfl, cpo_1, if_neg (fun t => hq (by rw [t.1])), ih]
theorem cpD_at (h : DH) {i i' : Nat} (hne : i' ≠ i) : ∀ n d, d < n → ∀ f, f < 7 → (cpD h i i' n).1 (4, i, d) f = h.1 (4, i', d) f := by
  intro n
  induction n with
  | zero => intro d hd; omega
  | succ n ih =>
    intro d hd f hf
    rw [show cpD h i i' (n + 1) = cpo (cpD h i i' n) (4, i, n) (4, i', n) 7 from rfl, cpo_1]
    by_cases e : d = n
    · subst e
      rw [if_pos ⟨rfl, hf⟩]
      exact congrFun ((Fr_cpD h i i' d).o hne 4 d) f
    · rw [if_neg (fun t => e (by simpa using t.1))]
      exact ih d (by omega) f hf
theorem cpR_o (h : DH) (i i' : Nat) (q : DKey) (hq : q.1 ≠ 5) : ∀ n, (cpR h i i' n).1 q = h.1 q := by
  intro n
  induction n with
  | zero => rfl
  | succ n ih =>
    funext k
    rw [show cpR h i i' (n + 1) = cpo (cpR h i i' n) (5, i, h.2 (3, i, 0) n) (5, i', h.2 (3, i', 0) n) 5 from rfl, cpo_1, if_neg (fun t => hq (by rw [t.1])), ih]
theorem cpR_at (h : DH) {i i' : Nat} (hne : i' ≠ i) (hp : pmi h i) : ∀ n, n ≤ 30 → ∀ k, k < n → ∀ f, f < 5 → (cpR h i i' n).1 (5, i, h.2 (3, i, 0) k) f = h.1 (5, i', h.2 (3, i', 0) k) f := by
  intro n
  induction n with
  | zero => intro _ k hk; omega
  | succ n ih =>
    intro hn k hk f hf
    rw [show cpR h i i' (n + 1) = cpo (cpR h i i' n) (5, i, h.2 (3, i, 0) n) (5, i', h.2 (3, i', 0) n) 5 from rfl, cpo_1]
    by_cases e : k = n
    · subst e
      rw [if_pos ⟨rfl, hf⟩]
      exact congrFun ((Fr_cpR h i i' k).o hne 5 _) f
    · rw [if_neg (fun t => e (hp k n (by omega) (by omega) (by simpa using t.1)))]
      exact ih (by omega) k (by omega) f hf
theorem cpS_1 (h : DH) (κ κ' : DKey) (q : DKey) (k : Nat) : (cpS h κ κ').1 q k = if q = κ ∧ 3 ≤ k ∧ k < 15 then h.1 κ' k else h.1 q k := rfl
theorem SR.copy {h : DH} {i i' c : Nat} {s : Nat → Int32} (hs : SR h i' c s) (hne : i' ≠ i) (hw : WF h i) : SR (cfull h i i' c) i c s := by
  obtain ⟨h1, h2, h3, h4, h5, h6, h7, h8, h9, h10, h11⟩ := hs
  have F := Fr_cfull h i i' c
  have e2 : (cfull h i i' c).2 = h.2 := by
    show (cpR (cpD (cpo h (1, i, 0) (1, i', 0) 10) i i' 12) i i' c).2 = h.2
    rw [cpR_2, cpD_2]
    rfl
  have g1 : ∀ n, n < 10 → (cfull h i i' c).1 (1, i, 0) n = h.1 (1, i', 0) n := by
    intro n hn
    unfold cfull
    rw [cpS_1, if_neg (fun t => by simp at t), cpR_o _ _ _ _ (by simp), cpD_o _ _ _ _ (by simp), cpo_1, if_pos ⟨rfl, hn⟩]
  have g4 : ∀ d, d < 12 → ∀ f, f < 7 → (cfull h i i' c).1 (4, i, d) f = h.1 (4, i', d) f := by
    intro d hd f hf
    unfold cfull
    rw [cpS_1, if_neg (fun t => by simp at t), cpR_o _ _ _ _ (by simp), cpD_at _ hne 12 d hd f hf, cpo_1, if_neg (fun t => by simp at t)]
  have g0 : ∀ k, 3 ≤ k → k < 15 → (cfull h i i' c).1 (0, i, 0) k = h.1 (0, i', 0) k := by
    intro k hk hk2
    unfold cfull
    rw [cpS_1, if_pos ⟨rfl, hk, hk2⟩, cpR_o _ _ _ _ (by simp), cpD_o _ _ _ _ (by simp), cpo_1, if_neg (fun t => by simp at t)]
  have g5 : ∀ k, k < c → ∀ f, f < 5 → (cfull h i i' c).1 (5, i, h.2 (3, i, 0) k) f = h.1 (5, i', h.2 (3, i', 0) k) f := by
    intro k hk f hf
    unfold cfull
    rw [cpS_1, if_neg (fun t => by simp at t)]
    have e3 : (cpD (cpo h (1, i, 0) (1, i', 0) 10) i i' 12).2 = h.2 := by rw [cpD_2]; rfl
    have := cpR_at (cpD (cpo h (1, i, 0) (1, i', 0) 10) i i' 12) hne (by unfold pmi; rw [e3]; exact hw.1) c h3 k hk f hf
    rw [e3] at this
    rw [this, cpD_o _ _ _ _ (by simp), cpo_1, if_neg (fun t => by simp at t)]
  refine ⟨⟨fun n hn => ?_, fun k hk hk2 => ?_, fun d hd f hf => ?_⟩, ?_, h3, h4, ?_, ?_, ?_, fun e he => ?_, h9, h10, h11⟩
  · rw [g1 n hn]; exact h1.1 n hn
  · rw [g0 k (by omega) hk2]; exact h1.2.1 k hk hk2
  · rw [g4 d hd f (by omega)]; exact h1.2.2 d hd f hf
  · rw [g0 3 (by decide) (by decide)]; exact h2
  · rw [← h5]
    unfold LC
    refine List.map_congr_left (fun k hk => ?_)
    have hk := List.mem_range.mp hk
    simp only [rdk]
    rw [e2, g5 k hk 0 (by decide), g5 k hk 1 (by decide), g5 k hk 2 (by decide), g5 k hk 3 (by decide), g5 k hk 4 (by decide)]
  · unfold pmi
    rw [e2]
    exact hw.1
  · rw [e2]
    exact hw.2
  · rw [g4 e he 6 (by decide)]; exact h8 e he
theorem cfull_2 (h : DH) (i i' c : Nat) : (cfull h i i' c).2 = h.2 := by
  show (cpR (cpD (cpo h (1, i, 0) (1, i', 0) 10) i i' 12) i i' c).2 = h.2
  rw [cpR_2, cpD_2]
  rfl
theorem XR.copy {h : DH} {i i' c : Nat} {s : Nat → Int32} (hs : XR h i' s) (hc : SR h i' c s) (hne : i' ≠ i) (hw : WF h i) : XR (cfull h i i' c) i s := ⟨⟨c, hc.copy hne hw⟩, hs.2⟩
