/-! a call on both sides -/
def Step (n mc mm : Nat) (as : List DV) : Prop := ∀ h, RR h → ∃ (v : Int32) (h1 h2 : DH), dEx n mc (.inr (6, 0, 0) :: as) h (some (.inl v), h1) ∧ dEx n mm (.inr (14, 0, 0) :: as) h1 (some (.inl v), h2) ∧ RR h2
theorem RR.go {h : DH} (hs : RR h) : ∃ a c g, cfull h (rr h a) 0 c = g ∧ cpk h 0 c ∧ rr h a ≠ 0 ∧ h.1 (7, 0, 0) 1 = nI a ∧ a ≤ 4 ∧ RR g ∧ HR g a ∧ XR g (rr g a) (g.1 (15, 0, 0)) ∧ SR g 0 c (g.1 (15, 0, 0)) ∧ g.1 (7, 0, 0) 1 = nI a ∧ g.1 (14, 0, 0) 3 = nI a := by
  have hs' := hs
  obtain ⟨⟨⟨c, hc⟩, _⟩, _, _, ⟨a, ha⟩, _⟩ := hs'
  have F := Fr_cfull h (rr h a) 0 c
  have e15 : (cfull h (rr h a) 0 c).1 (15, 0, 0) = h.1 (15, 0, 0) := (F.eo (by simp)).1
  have er : rr (cfull h (rr h a) 0 c) a = rr h a := congrFun (F.eo (κ := (8, 0, 0)) (by simp)).2 a
  obtain ⟨p1, p2, p3, p4⟩ := hs.prep ha hc
  refine ⟨a, c, cfull h (rr h a) 0 c, rfl, hc.cp_ok, by have := (ha.2.2.2.1 a (by have := ha.1; omega)).1; omega, ha.2.1, ha.1, p1, p2, ?_, ?_, p2.2.1, p2.2.2.1⟩
  · rw [e15, er]; exact p3
  · rw [e15]; exact p4
theorem hp_at (g : DH) : hp g (g.1 (15, 0, 0)) (g.1 (20, 0, 0)) = g := hp_id g
theorem Step.err {n mc mm : Nat} {as : List DV} {h g : DH} {a : Nat} {v : Int32} (hc : dEx n mc (.inr (6, 0, 0) :: as) h (some (.inl v), actH g a v)) (hv : v < 0) (hm : dEx n mm (.inr (14, 0, 0) :: as) (hp g (g.1 (15, 0, 0)) (g.1 (20, 0, 0))) (some (.inl v), hp g (g.1 (15, 0, 0)) (g.1 (20, 0, 0)))) (hr : RR g) : ∃ (v : Int32) (h1 h2 : DH), dEx n mc (.inr (6, 0, 0) :: as) h (some (.inl v), h1) ∧ dEx n mm (.inr (14, 0, 0) :: as) h1 (some (.inl v), h2) ∧ RR h2 := by
  unfold actH at hc
  rw [if_pos hv] at hc
  rw [hp_at] at hm
  exact ⟨v, g, g, hc, hm, hr⟩
theorem Step.ok {n mc mm : Nat} {as : List DV} {h g g' : DH} {a : Nat} {v : Int32} {s' f' : Nat → Int32} (hc : dEx n mc (.inr (6, 0, 0) :: as) h (some (.inl v), actH g' a v)) (hv : ¬ v < 0) (hm : dEx n mm (.inr (14, 0, 0) :: as) (hp (recH g' a) (g.1 (15, 0, 0)) (g.1 (20, 0, 0))) (some (.inl v), hp (know (recH g' a) a (g.1 (15, 0, 0))) s' f')) (hr : RR g) (ha : HR g a) (hx : XR g (rr g a) (g.1 (15, 0, 0))) (F : Fr 0 g g') (hn : XR g' 0 s') : ∃ (v : Int32) (h1 h2 : DH), dEx n mc (.inr (6, 0, 0) :: as) h (some (.inl v), h1) ∧ dEx n mm (.inr (14, 0, 0) :: as) h1 (some (.inl v), h2) ∧ RR h2 := by
  unfold actH at hc
  rw [if_neg hv] at hc
  have e15 : (recH g' a).1 (15, 0, 0) = g.1 (15, 0, 0) := by rw [recH_1 _ _ (by simp), (F.eo (by simp)).1]
  have e20 : (recH g' a).1 (20, 0, 0) = g.1 (20, 0, 0) := by rw [recH_1 _ _ (by simp), (F.eo (by simp)).1]
  have := hp_at (recH g' a)
  rw [e15, e20] at this
  rw [this] at hm
  exact ⟨v, recH g' a, _, hc, hm, hr.done ha hx F hn⟩
theorem rec_14 {g g' : DH} {a : Nat} (F : Fr 0 g g') : (recH g' a).1 (14, 0, 0) = g.1 (14, 0, 0) := by rw [recH_1 _ _ (by simp), (F.eo (by simp)).1]
theorem fr_7 {g g' : DH} (F : Fr 0 g g') : g'.1 (7, 0, 0) = g.1 (7, 0, 0) := (F.eo (by simp)).1
theorem frx1 {g g' : DH} (F : Fr 0 g g') {k : Nat} {x : Int32} : Fr 0 g (up1 g' (1, 0, 0) k x) := F.up1 ⟨by show (1 : Nat) ≤ 5; decide, rfl⟩
theorem frx0 {g g' : DH} (F : Fr 0 g g') {k : Nat} {x : Int32} : Fr 0 g (up1 g' (0, 0, 0) k x) := F.up1 ⟨by show (0 : Nat) ≤ 5; decide, rfl⟩
theorem frx4 {g g' : DH} (F : Fr 0 g g') {d k : Nat} {x : Int32} : Fr 0 g (up1 g' (4, 0, d) k x) := F.up1 ⟨by show (4 : Nat) ≤ 5; decide, rfl⟩
theorem frx5 {g g' : DH} (F : Fr 0 g g') {d k : Nat} {x : Int32} : Fr 0 g (up1 g' (5, 0, d) k x) := F.up1 ⟨by show (5 : Nat) ≤ 5; decide, rfl⟩
theorem wip_dec (x a b : Int32) : wip x a b ∨ ¬ wip x a b := by
  unfold wip
  exact Decidable.em _
theorem st_set (n : Nat) (y x : Int32) : Step (n + 10) 0 87 [.inl y, .inl x] := by
  intro h hs
  obtain ⟨a, c, g, rfl, hk, hne, ha, ha4, hg, hga, hgx, hgc, g7, g14⟩ := hs.go
  generalize hgg : cfull h (rr h a) 0 c = g at *
  have hs0 := hg.1
  rcases wip_dec y 0 9 with hy | hy
  · obtain ⟨w, hw, rfl⟩ := wip_nI (n := 9) (by decide) hy
    have hw : w < 10 := by omega
    have hop := (c_setNumber (n + 7) 0 (nI w) x g).2 w hw rfl
    have hmm := fun h' (z : h'.1 (14, 0, 0) 3 = nI a) => (m_set (n + 7) (nI w) x h' (g.1 (15, 0, 0)) (g.1 (20, 0, 0)) z ha4).2 w hw rfl
    have e : g.1 (1, 0, 0) w = g.1 (15, 0, 0) w := hgc.1.1 w hw
    by_cases z1 : wi x (dcst 1 w) (dcst 2 w) = 0
    · rw [if_pos z1] at hop
      have hm := hmm g g14
      rw [if_pos z1] at hm
      exact Step.err (c_act_set (n + 3) _ _ h ha ha4 hne hk (by rw [hgg]; exact hop) g7) (by decide) hm hg
    · rw [if_neg z1, e] at hop
      by_cases z2 : g.1 (15, 0, 0) w = x
      · rw [if_pos z2] at hop
        have hm := hmm g g14
        rw [if_neg z1, if_pos z2] at hm
        exact Step.err (c_act_set (n + 3) _ _ h ha ha4 hne hk (by rw [hgg]; exact hop) g7) (by decide) hm hg
      · rw [if_neg z2] at hop
        have F : Fr 0 g (up1 g (1, 0, 0) w x) := (frx1 Fr.rf)
        have hm := hmm (recH (up1 g (1, 0, 0) w x) a) (by rw [rec_14 F]; exact g14)
        rw [if_neg z1, if_neg z2] at hm
        have hx : wip x (dcst 1 w) (dcst 2 w) := by
          rcases wip_dec x (dcst 1 w) (dcst 2 w) with t | t
          · exact t
          · exact absurd (wi_0 t) z1
        exact Step.ok (c_act_set (n + 3) _ _ h ha ha4 hne hk (by rw [hgg]; exact hop) (by rw [fr_7 F]; exact g7)) (hs0.2.2.2.2.n0 hw) hm hg hga hgx F (hs0.set hgc hw hx)
  · have hop := (c_setNumber (n + 7) 0 y x g).1 hy
    have hm := (m_set (n + 7) y x g (g.1 (15, 0, 0)) (g.1 (20, 0, 0)) g14 ha4).1 hy
    exact Step.err (c_act_set (n + 3) _ _ h ha ha4 hne hk (by rw [hgg]; exact hop) g7) (by decide) hm hg
theorem st_read (n : Nat) (y x : Int32) : Step (n + 10) 9 91 [.inl y, .inl x] := by
  intro h hs
  obtain ⟨a, c, g, rfl, hk, hne, ha, ha4, hg, hga, hgx, hgc, g7, g14⟩ := hs.go
  generalize hgg : cfull h (rr h a) 0 c = g at *
  have hs0 := hg.1
  have h30 := hgc.2.2.1
  rcases wip_dec y 0 11 with hy | hy
  · obtain ⟨d, hd, rfl⟩ := wip_nI (n := 11) (by decide) hy
    have hd : d < 12 := by omega
    have hop := (c_addRead (n + 6) 0 (nI d) x g hgc.2.1 h30).2 d hd rfl
    have hmm := fun h' (z : h'.1 (14, 0, 0) 3 = nI a) => (m_read (n + 6) (nI d) x h' (g.1 (15, 0, 0)) (g.1 (20, 0, 0)) z ha4 hgc.2.2.2.1 h30).2 d hd rfl
    have e : g.1 (4, 0, d) 0 = g.1 (15, 0, 0) (oD d 0) := hgc.1.2.2 d hd 0 (by decide)
    have e4 : g.1 (0, 0, 0) 4 = g.1 (15, 0, 0) 12 := hgc.1.2.1 4 (by decide) (by decide)
    obtain ⟨q, q1, q2⟩ := hs0.2.2.1
    have e5 : (500 ≤ g.1 (15, 0, 0) 12) ↔ g.1 (15, 0, 0) 12 = 500 := by
      rw [q2]
      constructor
      · intro t
        by_cases z : q = 500
        · rw [z]; rfl
        · exact absurd t (nI_ge (show q < 500 by omega) (by decide))
      · intro t
        rw [t]
        exact Int32.le_refl _
    by_cases z1 : wi x 1 50 = 0
    · rw [if_pos z1] at hop
      have hm := hmm g g14
      rw [if_pos z1] at hm
      exact Step.err (c_act_read (n + 3) _ _ h ha ha4 hne hk (by rw [hgg]; exact hop) g7) (by decide) hm hg
    · rw [if_neg z1, e] at hop
      by_cases z2 : g.1 (15, 0, 0) (oD d 0) = 3
      · rw [if_pos z2] at hop
        have hm := hmm g g14
        rw [if_neg z1, if_pos z2] at hm
        exact Step.err (c_act_read (n + 3) _ _ h ha ha4 hne hk (by rw [hgg]; exact hop) g7) (by decide) hm hg
      · rw [if_neg z2, e4] at hop
        by_cases z3 : c = 30 ∨ g.1 (15, 0, 0) 12 = 500
        · rw [if_pos (z3.imp id e5.mpr)] at hop
          have hm := hmm g g14
          rw [if_neg z1, if_neg z2, if_pos z3] at hm
          exact Step.err (c_act_read (n + 3) _ _ h ha ha4 hne hk (by rw [hgg]; exact hop) g7) (by decide) hm hg
        · rw [if_neg (fun t => z3 (t.imp id e5.mp))] at hop
          have F : Fr 0 g (caddH g 0 c d x) := (frx4 (frx0 (frx0 (frx5 (frx5 (frx5 (frx5 (frx5 Fr.rf))))))))
          have hm := hmm (recH (caddH g 0 c d x) a) (by rw [rec_14 F]; exact g14)
          rw [if_neg z1, if_neg z2, if_neg z3] at hm
          have hx : wip x 1 50 := by
            rcases wip_dec x 1 50 with t | t
            · exact t
            · exact absurd (wi_0 t) z1
          exact Step.ok (c_act_read (n + 3) _ _ h ha ha4 hne hk (by rw [hgg]; exact hop) (by rw [fr_7 F]; exact g7)) (by rw [q2]; exact nI_n0 (by omega)) hm hg hga hgx F (hs0.read hgc hd (by have : c ≠ 30 := fun t => z3 (Or.inl t); omega) hx z2 (fun t => z3 (Or.inr t)))
  · have hop := (c_addRead (n + 6) 0 y x g hgc.2.1 h30).1 hy
    have hm := (m_read (n + 6) y x g (g.1 (15, 0, 0)) (g.1 (20, 0, 0)) g14 ha4 hgc.2.2.2.1 h30).1 hy
    exact Step.err (c_act_read (n + 3) _ _ h ha ha4 hne hk (by rw [hgg]; exact hop) g7) (by decide) hm hg
theorem Fr_drp {g : DH} {c p : Nat} : Fr 0 g (drpH g 0 c p) := (((Ft.xsw (e := 4) (Or.inl rfl) ((Ft.rf (h := g)).a5 (p := g.2 (3, 0, 0) p) (f := 3) (x := 0)) c).a0 (f := 3) (x := nI (sw (drpG g 0 p) 0 c).2) (by decide))).fr
theorem st_drop (n : Nat) (y : Int32) : Step (n + 10) 12 97 [.inl y] := by
  intro h hs
  obtain ⟨a, c, g, rfl, hk, hne, ha, ha4, hg, hga, hgx, hgc, g7, g14⟩ := hs.go
  generalize hgg : cfull h (rr h a) 0 c = g at *
  have hs0 := hg.1
  have h30 := hgc.2.2.1
  have hop := c_dropRead (n + 7) 0 y g hgc.2.1 h30 hgc.rok
  have hmm := fun h' (z : h'.1 (14, 0, 0) 3 = nI a) => m_drop (n + 7) y h' (g.1 (15, 0, 0)) (g.1 (20, 0, 0)) z ha4 hgc.2.2.2.1 h30
  rw [hgc.plc y] at hop
  cases hp : mplc (g.1 (15, 0, 0)) c y with
  | none =>
    rw [hp] at hop hmm
    exact Step.err (c_act_drop (n + 3) _ h ha ha4 hne hk (by rw [hgg]; exact hop) g7) (by decide) (hmm g g14) hg
  | some p =>
    rw [hp] at hop hmm
    dsimp only at hop hmm
    have hpc := (fp_some hp).1
    have F : Fr 0 g (drpH g 0 c p) := Fr_drp
    rw [(drop_SR hgc hpc).1] at hop
    exact Step.ok (c_act_drop (n + 3) _ h ha ha4 hne hk (by rw [hgg]; exact hop) (by rw [fr_7 F]; exact g7)) (nI_n0 (by omega)) (hmm (recH (drpH g 0 c p) a) (by rw [rec_14 F]; exact g14)) hg hga hgx F (hs0.drop hgc hpc)
theorem mpl_n0 {s : Nat → Int32} (h : ∀ e, e < 12 → DInv s e) : ¬ mpl s < 0 := by
  obtain ⟨m, hm, e⟩ := sumN_le (f := fun e => s (oD e 4)) (B := 1) 12 (fun e he => by
    rcases (h e he).2.2.2.2.2 with z | z
    · exact ⟨0, by omega, z⟩
    · exact ⟨1, by omega, z⟩)
  unfold mpl
  rw [e]
  exact nI_n0 (by omega)
theorem st_fail (n : Nat) (y : Int32) : Step (n + 10) 16 100 [.inl y] := by
  intro h hs
  obtain ⟨a, c, g, rfl, hk, hne, ha, ha4, hg, hga, hgx, hgc, g7, g14⟩ := hs.go
  generalize hgg : cfull h (rr h a) 0 c = g at *
  have hs0 := hg.1
  rcases wip_dec y 0 11 with hy | hy
  · obtain ⟨d, hd, rfl⟩ := wip_nI (n := 11) (by decide) hy
    have hd : d < 12 := by omega
    have hop := (c_planFault (n + 6) 0 (nI d) g).2 d hd rfl
    have hmm := fun h' (z : h'.1 (14, 0, 0) 3 = nI a) => (m_fail (n + 6) (nI d) h' (g.1 (15, 0, 0)) (g.1 (20, 0, 0)) z ha4).2 d hd rfl
    have e : g.1 (4, 0, d) 0 = g.1 (15, 0, 0) (oD d 0) := hgc.1.2.2 d hd 0 (by decide)
    have e5 : g.1 (4, 0, d) 5 = g.1 (15, 0, 0) (oD d 4) := hgc.1.2.2 d hd 5 (by decide)
    have y5 := (hgc.2.2.2.2.2.2.2.2.2.1 d hd).2.2.2.2.2
    rw [e, e5] at hop
    by_cases z1 : g.1 (15, 0, 0) (oD d 0) = 3
    · rw [if_pos z1] at hop
      have hm := hmm g g14
      rw [if_pos z1] at hm
      exact Step.err (c_act_fail (n + 3) _ h ha ha4 hne hk (by rw [hgg]; exact hop) g7) (by decide) hm hg
    · rw [if_neg z1] at hop
      rcases y5 with z2 | z2
      · rw [if_pos z2] at hop
        have F : Fr 0 g (up1 g (4, 0, d) 5 1) := (frx4 Fr.rf)
        have hm := hmm (recH (up1 g (4, 0, d) 5 1) a) (by rw [rec_14 F]; exact g14)
        rw [if_neg z1, if_neg (by rw [z2]; decide)] at hm
        obtain ⟨f1, f2⟩ := fail_SR hgc hd
        rw [f2] at hop
        exact Step.ok (c_act_fail (n + 3) _ h ha ha4 hne hk (by rw [hgg]; exact hop) (by rw [fr_7 F]; exact g7)) (mpl_n0 f1.2.2.2.2.2.2.2.2.2.1) hm hg hga hgx F (hs0.plan hgc hd)
      · rw [if_neg (by rw [z2]; decide)] at hop
        have hm := hmm g g14
        rw [if_neg z1, if_pos z2] at hm
        exact Step.err (c_act_fail (n + 3) _ h ha ha4 hne hk (by rw [hgg]; exact hop) g7) (by decide) hm hg
  · have hop := (c_planFault (n + 6) 0 y g).1 hy
    have hm := (m_fail (n + 6) y g (g.1 (15, 0, 0)) (g.1 (20, 0, 0)) g14 ha4).1 hy
    exact Step.err (c_act_fail (n + 3) _ h ha ha4 hne hk (by rw [hgg]; exact hop) g7) (by decide) hm hg
theorem Fr_crp {g : DH} {d : Nat} : ∀ c, Fr 0 g (crp g 0 d c) := by
  intro c
  induction c with
  | zero =>
    show Fr 0 g (up1 (up1 (up1 (sbH g (4, 0, d)) (4, 0, d) 2 0) (4, 0, d) 4 0) (4, 0, d) 5 0)
    unfold sbH
    exact (frx4 (frx4 (frx4 (frx4 (frx4 (frx4 Fr.rf))))))
  | succ c ih =>
    show Fr 0 g (crpB (crp g 0 d c) 0 d c)
    unfold crpB
    split
    · exact (frx5 ih)
    · exact ih
theorem st_replace (n : Nat) (y : Int32) : Step (n + 10) 19 103 [.inl y] := by
  intro h hs
  obtain ⟨a, c, g, rfl, hk, hne, ha, ha4, hg, hga, hgx, hgc, g7, g14⟩ := hs.go
  generalize hgg : cfull h (rr h a) 0 c = g at *
  have hs0 := hg.1
  have h30 := hgc.2.2.1
  rcases wip_dec y 0 11 with hy | hy
  · obtain ⟨d, hd, rfl⟩ := wip_nI (n := 11) (by decide) hy
    have hd : d < 12 := by omega
    have hop := (c_replaceDisk (n + 6) 0 (nI d) g hgc.2.1 h30).2 d hd rfl
    have e : g.1 (4, 0, d) 0 = g.1 (15, 0, 0) (oD d 0) := hgc.1.2.2 d hd 0 (by decide)
    rw [e] at hop
    have F : Fr 0 g (crp g 0 d c) := Fr_crp c
    have hm := (m_replace (n + 6) (nI d) (recH (crp g 0 d c) a) (g.1 (15, 0, 0)) (g.1 (20, 0, 0)) (by rw [rec_14 F]; exact g14) ha4 hgc.2.2.2.1 h30).2 d hd rfl
    obtain ⟨v, v1, v2⟩ := (hgc.2.2.2.2.2.2.2.2.2.1 d hd).1
    exact Step.ok (c_act_replace (n + 3) _ h ha ha4 hne hk (by rw [hgg]; exact hop) (by rw [fr_7 F]; exact g7)) (by rw [v2]; exact nI_n0 (by omega)) hm hg hga hgx F (hs0.rep hgc hd)
  · have hop := (c_replaceDisk (n + 6) 0 y g hgc.2.1 h30).1 hy
    have hm := (m_replace (n + 6) y g (g.1 (15, 0, 0)) (g.1 (20, 0, 0)) g14 ha4 hgc.2.2.2.1 h30).1 hy
    exact Step.err (c_act_replace (n + 3) _ h ha ha4 hne hk (by rw [hgg]; exact hop) g7) (by decide) hm hg
theorem st_fuse (n : Nat) : Step (n + 10) 23 105 [] := by
  intro h hs
  obtain ⟨a, c, g, rfl, hk, hne, ha, ha4, hg, hga, hgx, hgc, g7, g14⟩ := hs.go
  generalize hgg : cfull h (rr h a) 0 c = g at *
  have hs0 := hg.1
  have h30 := hgc.2.2.1
  have hop := c_renewFuse (n + 6) 0 g
  have e : g.1 (0, 0, 0) 10 = g.1 (15, 0, 0) 15 := hgc.1.2.1 10 (by decide) (by decide)
  rw [e] at hop
  have hmm := fun h' (z : h'.1 (14, 0, 0) 3 = nI a) => m_fuse (n + 4) h' (g.1 (15, 0, 0)) (g.1 (20, 0, 0)) z ha4 hgc.2.2.2.1 h30
  by_cases z1 : g.1 (15, 0, 0) 15 = 0
  · rw [if_pos z1] at hop
    have hm := hmm g g14
    rw [if_pos z1] at hm
    exact Step.err (c_act_fuse (n + 3) h ha ha4 hne hk (by rw [hgg]; exact hop) g7) (by decide) hm hg
  · rw [if_neg z1] at hop
    have F : Fr 0 g (up1 g (0, 0, 0) 10 0) := (frx0 Fr.rf)
    have hm := hmm (recH (up1 g (0, 0, 0) 10 0) a) (by rw [rec_14 F]; exact g14)
    rw [if_neg z1] at hm
    have f1 := (fuse_new hgc hs0.2.1 z1).1
    rw [sumcur f1] at hop
    have xf := hs0.fuse hgc z1
    obtain ⟨k, k1, k2⟩ := mcurN_le xf.2.2.2.2 c
    exact Step.ok (c_act_fuse (n + 3) h ha ha4 hne hk (by rw [hgg]; exact hop) (by rw [fr_7 F]; exact g7)) (by rw [k2]; exact nI_n0 (by omega)) hm hg hga hgx F xf
theorem st_run (n : Nat) (y : Int32) : Step (n + 10) 27 110 [.inl y] := by
  intro h hs
  obtain ⟨a, c, g, rfl, hk, hne, ha, ha4, hg, hga, hgx, hgc, g7, g14⟩ := hs.go
  generalize hgg : cfull h (rr h a) 0 c = g at *
  have hs0 := hg.1
  have h30 := hgc.2.2.1
  have hok : okC (g.1 (15, 0, 0)) := ⟨c, h30, hgc.2.2.2.1⟩
  rcases wip_dec y 1 200 with hy | hy
  · obtain ⟨t, ht1, ht2, rfl⟩ := wip_nI2 (a := 1) (b := 200) (by decide) (by decide) hy
    have hop := c_pass1 (n + 4) 0 t (by omega) g hy (fun _ k _ => pass_ok (g.1 (20, 0, 0)) hgc k)
    have e8 : g.1 (0, 0, 0) 8 = g.1 (15, 0, 0) 10 := hgc.1.2.1 8 (by decide) (by decide)
    rw [e8] at hop
    have hmm := fun h' (z : h'.1 (14, 0, 0) 3 = nI a) => (m_run (n + 2) (nI t) h' (g.1 (15, 0, 0)) (g.1 (20, 0, 0)) z ha4 hok).2 t (by omega) rfl (by rw [wi_1 hy]; decide)
    by_cases z1 : g.1 (15, 0, 0) 10 + nI t ≤ 99999
    · rw [if_pos z1] at hop
      have F : Fr 0 g (pk g 0 t) := (Ft.rf.xpk t).fr
      have hm := hmm (recH (pk g 0 t) a) (by rw [rec_14 F]; exact g14)
      rw [if_pos z1] at hm
      obtain ⟨p1, p2⟩ := pass_n0 (g.1 (20, 0, 0)) hgc (show t ≤ 400 by omega)
      rw [p1] at hop
      exact Step.ok (c_act_run (n + 3) _ h ha ha4 hne hk (by rw [hgg]; exact hop) (by rw [fr_7 F]; exact g7)) p2 hm hg hga hgx F (hs0.pass (g.1 (20, 0, 0)) hgc (by omega) z1)
    · rw [if_neg z1] at hop
      have hm := hmm g g14
      rw [if_neg z1] at hm
      exact Step.err (c_act_run (n + 3) _ h ha ha4 hne hk (by rw [hgg]; exact hop) g7) (by decide) hm hg
  · have hop := c_pass0 (n + 4) 0 y g hy
    have hm := (m_run (n + 2) y g (g.1 (15, 0, 0)) (g.1 (20, 0, 0)) g14 ha4 hok).1 (wi_0 hy)
    exact Step.err (c_act_run (n + 3) _ h ha ha4 hne hk (by rw [hgg]; exact hop) g7) (by decide) hm hg
