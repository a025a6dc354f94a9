/-! a call on both sides -/
def Step (n mc mm : Nat) (as : List DV) : Prop := ∀ h, RR h → ∃ (v : Int32) (h1 h2 : DH), dEx n mc (.inr (6, 0, 0) :: as) h (some (.inl v), h1) ∧ dEx n mm (.inr (14, 0, 0) :: as) h1 (some (.inl v), h2) ∧ RR h2
theorem RR.go {h : DH} (hs : RR h) : ∃ a c g, cfull h (rr h a) 0 c = g ∧ cpk h 0 c ∧ rr h a ≠ 0 ∧ h.1 (7, 0, 0) 1 = nI a ∧ a ≤ 4 ∧ RR g ∧ HR g a ∧ XR g (rr g a) (g.1 (15, 0, 0)) ∧ SR g 0 c (g.1 (15, 0, 0)) ∧ g.1 (7, 0, 0) 1 = nI a ∧ g.1 (14, 0, 0) 3 = nI a := by
  have hs' := hs
  obtain ⟨⟨⟨c, hc⟩, _⟩, _, _, ⟨a, ha⟩, _⟩ := hs'
  have F := Fr_cfull h (rr h a) 0 c
  have e15 : (cfull h (rr h a) 0 c).1 (15, 0, 0) = h.1 (15, 0, 0) := (F.eo (by simp)).1
  have er : rr (cfull h (rr h a) 0 c) a = rr h a := congrFun (F.eo (κ := (8, 0, 0)) (by simp)).2 a
  obtain ⟨p1, p2, p3, p4⟩ := hs.prep ha hc
  refine ⟨a, c, cfull h (rr h a) 0 c, rfl, hc.cp_ok, by have := (ha.2.2.2.1 a (by have := ha.1; omega)).1; omega, ha.2.1, ha.1, p1, p2, ?_, ?_, p2.2.1, p2.2.2.1⟩
  · rw [e15, er]; exact p3
  · rw [e15]; exact p4
theorem hp_at (g : DH) : hp g (g.1 (15, 0, 0)) (g.1 (20, 0, 0)) = g := hp_id g
theorem Step.err {n mc mm : Nat} {as : List DV} {h g : DH} {a : Nat} {v : Int32} (hc : dEx n mc (.inr (6, 0, 0) :: as) h (some (.inl v), actH g a v)) (hv : v < 0) (hm : dEx n mm (.inr (14, 0, 0) :: as) (hp g (g.1 (15, 0, 0)) (g.1 (20, 0, 0))) (some (.inl v), hp g (g.1 (15, 0, 0)) (g.1 (20, 0, 0)))) (hr : RR g) : ∃ (v : Int32) (h1 h2 : DH), dEx n mc (.inr (6, 0, 0) :: as) h (some (.inl v), h1) ∧ dEx n mm (.inr (14, 0, 0) :: as) h1 (some (.inl v), h2) ∧ RR h2 := by
  unfold actH at hc
  rw [if_pos hv] at hc
  rw [hp_at] at hm
  exact ⟨v, g, g, hc, hm, hr⟩
theorem Step.ok {n mc mm : Nat} {as : List DV} {h g g' : DH} {a : Nat} {v : Int32} {s' f' : Nat → Int32} (hc : dEx n mc (.inr (6, 0, 0) :: as) h (some (.inl v), actH g' a v)) (hv : ¬ v < 0) (hm : dEx n mm (.inr (14, 0, 0) :: as) (hp (recH g' a) (g.1 (15, 0, 0)) (g.1 (20, 0, 0))) (some (.inl v), hp (know (recH g' a) a (g.1 (15, 0, 0))) s' f')) (hr : RR g) (ha : HR g a) (hx : XR g (rr g a) (g.1 (15, 0, 0))) (F : Fr 0 g g') (hn : XR g' 0 s') : ∃ (v : Int32) (h1 h2 : DH), dEx n mc (.inr (6, 0, 0) :: as) h (some (.inl v), h1) ∧ dEx n mm (.inr (14, 0, 0) :: as) h1 (some (.inl v), h2) ∧ RR h2 := by
  unfold actH at hc
  rw [if_neg hv] at hc
  have e15 : (recH g' a).1 (15, 0, 0) = g.1 (15, 0, 0) := by rw [recH_1 _ _ (by simp), (F.eo (by simp)).1]
  have e20 : (recH g' a).1 (20, 0, 0) = g.1 (20, 0, 0) := by rw [recH_1 _ _ (by simp), (F.eo (by simp)).1]
  have := hp_at (recH g' a)
  rw [e15, e20] at this
  rw [this] at hm
  exact ⟨v, recH g' a, _, hc, hm, hr.done ha hx F hn⟩
theorem rec_14 {g g' : DH} {a : Nat} (F : Fr 0 g g') : (recH g' a).1 (14, 0, 0) = g.1 (14, 0, 0) := by rw [recH_1 _ _ (by simp), (F.eo (by simp)).1]
theorem fr_7 {g g' : DH} (F : Fr 0 g g') : g'.1 (7, 0, 0) = g.1 (7, 0, 0) := (F.eo (by simp)).1
theorem frx1 {g g' : DH} (F : Fr 0 g g') {k : Nat} {x : Int32} : Fr 0 g (up1 g' (1, 0, 0) k x) := F.up1 ⟨by show (1 : Nat) ≤ 5; decide, rfl⟩
theorem frx0 {g g' : DH} (F : Fr 0 g g') {k : Nat} {x : Int32} : Fr 0 g (up1 g' (0, 0, 0) k x) := F.up1 ⟨by show (0 : Nat) ≤ 5; decide, rfl⟩
theorem frx4 {g g' : DH} (F : Fr 0 g g') {d k : Nat} {x : Int32} : Fr 0 g (up1 g' (4, 0, d) k x) := F.up1 ⟨by show (4 : Nat) ≤ 5; decide, rfl⟩
theorem frx5 {g g' : DH} (F : Fr 0 g g') {d k : Nat} {x : Int32} : Fr 0 g (up1 g' (5, 0, d) k x) := F.up1 ⟨by show (5 : Nat) ≤ 5; decide, rfl⟩
theorem wip_dec (x a b : Int32) : wip x a b ∨ ¬ wip x a b := by
  unfold wip
  exact Decidable.em _
theorem Fr_drp {g : DH} {c p : Nat} : Fr 0 g (drpH g 0 c p) := (((Ft.xsw (e := 4) (Or.inl rfl) ((Ft.rf (h := g)).a5 (p := g.2 (3, 0, 0) p) (f := 3) (x := 0)) c).a0 (f := 3) (x := nI (sw (drpG g 0 p) 0 c).2) (by decide))).fr
theorem mpl_n0 {s : Nat → Int32} (h : ∀ e, e < 12 → DInv s e) : ¬ mpl s < 0 := by
  obtain ⟨m, hm, e⟩ := sumN_le (f := fun e => s (oD e 4)) (B := 1) 12 (fun e he => by
    rcases (h e he).2.2.2.2.2 with z | z
    · exact ⟨0, by omega, z⟩
    · exact ⟨1, by omega, z⟩)
  unfold mpl
  rw [e]
  exact nI_n0 (by omega)
theorem Fr_crp {g : DH} {d : Nat} : ∀ c, Fr 0 g (crp g 0 d c) := by
  intro c
  induction c with
  | zero =>
    show Fr 0 g (up1 (up1 (up1 (sbH g (4, 0, d)) (4, 0, d) 2 0) (4, 0, d) 4 0) (4, 0, d) 5 0)
    unfold sbH
    exact (frx4 (frx4 (frx4 (frx4 (frx4 (frx4 Fr.rf))))))
  | succ c ih =>
    show Fr 0 g (crpB (crp g 0 d c) 0 d c)
    unfold crpB
    split
    · exact (frx5 ih)
    · exact ih
