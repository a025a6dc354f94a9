/-! a command is done, on both sides -/
def doM (c : Nat × Nat × Nat) (p : (Nat → Int32) × (Nat → Int32)) : Int32 × ((Nat → Int32) × (Nat → Int32)) :=
  if c.1 = 0 then (if p.1 (oD c.2.1 0) = 3 then (-4, p) else if cc p.1 = 30 ∨ p.1 12 = 500 then (-3, p) else (0, (mask p.1 (cc p.1) c.2.1 (nI c.2.2), p.2)))
  else if c.1 = 1 then (if p.1 (oD c.2.1 0) = 3 then (-4, p) else if p.1 (oD c.2.1 4) = 1 then (0, p) else (0, (upd p.1 (oD c.2.1 4) 1, p.2)))
  else if c.1 = 2 then (if p.1 10 + nI c.2.1 ≤ 99999 then (0, rk p.1 p.2 c.2.1) else (-3, p))
  else (if p.1 15 = 1 then (0, (nf p.1, p.2)) else (0, p))
theorem wi_nI {k a b : Nat} (h1 : a ≤ k) (h2 : k ≤ b) (hb : b < 2 ^ 31) : wi (nI k) (nI a) (nI b) = 1 := wi_1 ⟨nI_nlt h1 (by omega), nI_nlt h2 (by omega)⟩
theorem hp_14 (h : DH) (s f : Nat → Int32) (k : Nat) : (hp h s f).1 (14, 0, 0) k = h.1 (14, 0, 0) k := by rw [hp_ne _ _ _ (by decide) (by decide)]
theorem m_does (n : Nat) (c : Nat × Nat × Nat) (h : DH) (s f : Nat → Int32) (hv : cmdV c) (hk : okC s) (h11 : h.1 (14, 0, 0) 11 = nI c.1) (h12 : h.1 (14, 0, 0) 12 = nI c.2.1) (h13 : h.1 (14, 0, 0) 13 = nI c.2.2) : dEx (n + 8) 131 [.inr (14, 0, 0)] (hp h s f) (some (.inl (doM c (s, f)).1), hp h (doM c (s, f)).2.1 (doM c (s, f)).2.2) := by
  obtain ⟨k, x, y⟩ := c
  dsimp only at h11 h12 h13
  have e11 := (hp_14 h s f 11).trans h11
  have e12 := (hp_14 h s f 12).trans h12
  have e13 := (hp_14 h s f 13).trans h13
  have hc := hk.cc.1
  have h30 := hk.cc.2
  have fin66 : ∀ w : Int32, ¬ w = -5 → ∀ x2 : Option DV, Runs dT_131 (dEx (n + 7)) (66, [some (.inr (14, 0, 0)), some (.inl w), x2], [], hp h s f) (some (.inl w), hp h s f) := by
    intro w hw x2
    refine Runs.go 3 rfl trivial ?_
    refine Runs.ifF hw ?_
    refine Runs.go 1 rfl trivial ?_
    exact Runs.fin rfl trivial
  rcases hv with ⟨v0, v1, v2, v3⟩ | ⟨v0, v1⟩ | ⟨v0, v1, v2⟩ | v0
  · dsimp only at v0 v1 v2 v3
    subst v0
    have hf := (m_readFault (n + 4) (nI x) (nI y) h s f hc h30).2 x v1 rfl
    rw [show wi (nI y) 1 50 = 1 from wi_nI (a := 1) (b := 50) v2 v3 (by decide), if_neg (show ¬ (1 : Int32) = 0 by decide)] at hf
    unfold doM
    dsimp only
    rw [if_pos rfl]
    refine dx_131 ?_
    refine Runs.go 3 rfl trivial ?_
    rw [e11]
    refine Runs.ifT rfl ?_
    refine Runs.go 5 rfl trivial ?_
    rw [e12, e13]
    refine Runs.cal rfl hf ?_
    refine Runs.go 3 rfl trivial ?_
    by_cases z1 : s (oD x 0) = 3
    · rw [if_pos z1, if_pos z1]
      refine Runs.go 1 rfl trivial ?_
      refine Runs.ifF (by decide) ?_
      exact fin66 _ (by decide) _
    · rw [if_neg z1, if_neg z1]
      by_cases z2 : cc s = 30 ∨ s 12 = 500
      · rw [if_pos z2, if_pos z2]
        refine Runs.go 1 rfl trivial ?_
        refine Runs.ifF (by decide) ?_
        exact fin66 _ (by decide) _
      · rw [if_neg z2, if_neg z2]
        have c30 : cc s < 30 := by
          have : cc s ≠ 30 := fun t => z2 (Or.inl t)
          omega
        have ha := m_asks (n + 5) x (nI y) h s f hc c30
        refine Runs.go 1 rfl trivial ?_
        refine Runs.ifT (by decide) ?_
        refine Runs.go 3 rfl trivial ?_
        rw [e11]
        refine Runs.ifT rfl ?_
        refine Runs.go 5 rfl trivial ?_
        rw [e12, e13]
        refine Runs.cal rfl ha ?_
        refine Runs.go 3 rfl trivial ?_
        exact Runs.fin rfl trivial
  · dsimp only at v0 v1
    subst v0
    have hf := (m_failFault (n + 4) (nI x) h s f).2 x v1 rfl
    unfold doM
    dsimp only
    rw [if_neg (by decide), if_pos rfl]
    refine dx_131 ?_
    refine Runs.go 3 rfl trivial ?_
    rw [e11]
    refine Runs.ifF (by decide) ?_
    refine Runs.go 4 rfl trivial ?_
    rw [e11]
    refine Runs.ifT rfl ?_
    refine Runs.go 3 rfl trivial ?_
    rw [e12]
    refine Runs.cal rfl hf ?_
    refine Runs.go 2 rfl trivial ?_
    by_cases z1 : s (oD x 0) = 3
    · rw [if_pos z1, if_pos z1]
      refine Runs.go 2 rfl trivial ?_
      refine Runs.ifF (by decide) ?_
      exact fin66 _ (by decide) _
    · rw [if_neg z1, if_neg z1]
      by_cases z2 : s (oD x 4) = 1
      · rw [if_pos z2, if_pos z2]
        refine Runs.go 2 rfl trivial ?_
        refine Runs.ifF (by decide) ?_
        refine Runs.go 3 rfl trivial ?_
        refine Runs.ifT rfl ?_
        refine Runs.go 2 rfl trivial ?_
        exact Runs.fin rfl trivial
      · rw [if_neg z2, if_neg z2]
        have ha := m_plans (n + 5) x h s f v1
        refine Runs.go 2 rfl trivial ?_
        refine Runs.ifT (by decide) ?_
        refine Runs.go 3 rfl trivial ?_
        rw [e11]
        refine Runs.ifF (by decide) ?_
        refine Runs.go 4 rfl trivial ?_
        rw [e11]
        refine Runs.ifT rfl ?_
        refine Runs.go 3 rfl trivial ?_
        rw [e12]
        refine Runs.cal rfl ha ?_
        refine Runs.go 3 rfl trivial ?_
        exact Runs.fin rfl trivial
  · dsimp only at v0 v1 v2
    subst v0
    have hf := m_runFault (n + 5) (nI x) h s f
    rw [show wi (nI x) 1 200 = 1 from wi_nI (a := 1) (b := 200) v1 v2 (by decide), if_neg (show ¬ (1 : Int32) = 0 by decide)] at hf
    unfold doM
    dsimp only
    rw [if_neg (by decide), if_neg (by decide), if_pos rfl]
    refine dx_131 ?_
    refine Runs.go 3 rfl trivial ?_
    rw [e11]
    refine Runs.ifF (by decide) ?_
    refine Runs.go 4 rfl trivial ?_
    rw [e11]
    refine Runs.ifF (by decide) ?_
    refine Runs.go 4 rfl trivial ?_
    rw [e11]
    refine Runs.ifT rfl ?_
    refine Runs.go 3 rfl trivial ?_
    rw [e12]
    refine Runs.cal rfl hf ?_
    refine Runs.go 2 rfl trivial ?_
    by_cases z1 : s 10 + nI x ≤ 99999
    · rw [if_pos z1, if_pos z1]
      have ha := m_runs n x (by omega) h s f hk
      refine Runs.go 2 rfl trivial ?_
      refine Runs.ifT (by decide) ?_
      refine Runs.go 3 rfl trivial ?_
      rw [e11]
      refine Runs.ifF (by decide) ?_
      refine Runs.go 4 rfl trivial ?_
      rw [e11]
      refine Runs.ifF (by decide) ?_
      refine Runs.go 4 rfl trivial ?_
      rw [e11]
      refine Runs.ifT rfl ?_
      refine Runs.go 3 rfl trivial ?_
      rw [e12]
      refine Runs.cal rfl ha ?_
      refine Runs.go 3 rfl trivial ?_
      exact Runs.fin rfl trivial
    · rw [if_neg z1, if_neg z1]
      refine Runs.go 2 rfl trivial ?_
      refine Runs.ifF (by decide) ?_
      exact fin66 _ (by decide) _
  · dsimp only at v0
    subst v0
    unfold doM
    dsimp only
    rw [if_neg (by decide), if_neg (by decide), if_neg (by decide)]
    refine dx_131 ?_
    refine Runs.go 3 rfl trivial ?_
    rw [e11]
    refine Runs.ifF (by decide) ?_
    refine Runs.go 4 rfl trivial ?_
    rw [e11]
    refine Runs.ifF (by decide) ?_
    refine Runs.go 4 rfl trivial ?_
    rw [e11]
    refine Runs.ifF (by decide) ?_
    refine Runs.go 4 rfl trivial ?_
    refine Runs.ifT (by decide) ?_
    refine Runs.go 3 rfl trivial ?_
    rw [e11]
    refine Runs.ifF (by decide) ?_
    refine Runs.go 4 rfl trivial ?_
    rw [e11]
    refine Runs.ifF (by decide) ?_
    refine Runs.go 4 rfl trivial ?_
    rw [e11]
    refine Runs.ifF (by decide) ?_
    refine Runs.go 6 rfl ⟨trivial, (by unfold vp_in; decide)⟩ ?_
    rw [hp_s, tc15]
    by_cases z1 : s 15 = 1
    · have ha := m_newFuse (n + 2) h s f hc h30
      refine Runs.ifT z1 ?_
      rw [if_pos z1]
      refine Runs.go 1 rfl trivial ?_
      refine Runs.cal rfl ha ?_
      refine Runs.go 3 rfl trivial ?_
      exact Runs.fin rfl trivial
    · refine Runs.ifF z1 ?_
      rw [if_neg z1]
      refine Runs.go 3 rfl trivial ?_
      exact Runs.fin rfl trivial
/-- an answer that is an error -/
def isE (v : Int32) : Prop := v < 0 ∧ ¬ v = -5
theorem do_R (n : Nat) (c : Nat × Nat × Nat) (g : DH) (hv : cmdV c) {X Y : Int32} (hX : c.1 < 3 → X = nI c.2.1) (hY : c.1 = 0 → Y = nI c.2.2) (hx : ∃ s, XR g 0 s) : ∃ (v : Int32) (g' : DH), dEx (n + 6) 66 [.inr (6, 0, 0), .inl (nI c.1), .inl X, .inl Y] g (some (.inl v), g') ∧ Fr 0 g g' ∧ WF g' 0 ∧ ∀ s f, XR g 0 s → ((doM c (s, f)).1 = 0 ∧ XR g' 0 (doM c (s, f)).2.1 ∧ ¬ isE v) ∨ ((doM c (s, f)).1 < 0 ∧ isE v) := by
  obtain ⟨s0, hx0⟩ := hx
  obtain ⟨c0, hs0⟩ := hx0.sr
  have hc0 := hs0.2.1
  have h30 := hs0.2.2.1
  have cs : ∀ s, XR g 0 s → SR g 0 c0 s ∧ cc s = c0 := fun s hs => by
    obtain ⟨c1, h1⟩ := hs.sr
    have : c1 = c0 := nI_inj (by have := h1.2.2.1; omega) (by omega) (h1.2.1.symm.trans hc0)
    subst this
    exact ⟨h1, cc_of h1.2.2.2.1 h1.2.2.1⟩
  obtain ⟨k, x, y⟩ := c
  dsimp only at hX hY
  rcases hv with ⟨v0, v1, v2, v3⟩ | ⟨v0, v1⟩ | ⟨v0, v1, v2⟩ | v0
  · dsimp only at v0 v1 v2 v3
    subst v0
    have hX := hX (by decide)
    have hY := hY rfl
    subst hX
    subst hY
    have hop := (c_addRead (n + 2) 0 (nI x) (nI y) g hc0 h30).2 x v1 rfl
    rw [show wi (nI y) 1 50 = 1 from wi_nI (a := 1) (b := 50) v2 v3 (by decide), if_neg (show ¬ (1 : Int32) = 0 by decide)] at hop
    have run : ∀ v g', dEx (n + 5) 10 [.inr (0, 0, 0), .inl (nI x), .inl (nI y)] g (some (.inl v), g') → dEx (n + 6) 66 [.inr (6, 0, 0), .inl (nI 0), .inl (nI x), .inl (nI y)] g (some (.inl v), g') := by
      intro v g' hh
      refine dx_66 ?_
      refine Runs.go 2 rfl trivial ?_
      refine Runs.sw1 (fun _ => ?_) (fun c => absurd rfl c)
      refine Runs.go 4 rfl trivial ?_
      refine Runs.cal rfl hh ?_
      exact Runs.fin rfl trivial
    by_cases z1 : g.1 (4, 0, x) 0 = 3
    · rw [if_pos z1] at hop
      refine ⟨-4, g, run _ _ hop, Fr.rf, hs0.wf, fun s f hs => Or.inr ?_⟩
      obtain ⟨h1, h2⟩ := cs s hs
      have e : g.1 (4, 0, x) 0 = s (oD x 0) := h1.1.2.2 x v1 0 (by decide)
      unfold doM
      dsimp only
      rw [if_pos rfl, if_pos (show s (oD x 0) = 3 from e.symm.trans z1)]
      exact ⟨by dsimp only; decide, by unfold isE; decide⟩
    · rw [if_neg z1] at hop
      by_cases z2 : c0 = 30 ∨ 500 ≤ g.1 (0, 0, 0) 4
      · rw [if_pos z2] at hop
        refine ⟨-3, g, run _ _ hop, Fr.rf, hs0.wf, fun s f hs => Or.inr ?_⟩
        obtain ⟨h1, h2⟩ := cs s hs
        have e : g.1 (4, 0, x) 0 = s (oD x 0) := h1.1.2.2 x v1 0 (by decide)
        have e4 : g.1 (0, 0, 0) 4 = s 12 := h1.1.2.1 4 (by decide) (by decide)
        obtain ⟨q, q1, q2⟩ := hs.2.2.1
        have z2' : cc s = 30 ∨ s 12 = 500 := by
          rcases z2 with z2 | z2
          · exact Or.inl (h2.trans z2)
          · refine Or.inr ?_
            rw [e4, q2] at z2
            rw [q2]
            by_cases zq : q = 500
            · rw [zq]; rfl
            · exact absurd z2 (nI_ge (show q < 500 by omega) (by decide))
        unfold doM
        dsimp only
        rw [if_pos rfl, if_neg (show ¬ s (oD x 0) = 3 from fun t => z1 (e.trans t)), if_pos z2']
        exact ⟨by dsimp only; decide, by unfold isE; decide⟩
      · rw [if_neg z2] at hop
        have F : Fr 0 g (caddH g 0 c0 x (nI y)) := frx4 (frx0 (frx0 (frx5 (frx5 (frx5 (frx5 (frx5 Fr.rf)))))))
        refine ⟨_, _, run _ _ hop, F, hs0.wf, fun s f hs => Or.inl ?_⟩
        obtain ⟨h1, h2⟩ := cs s hs
        have e : g.1 (4, 0, x) 0 = s (oD x 0) := h1.1.2.2 x v1 0 (by decide)
        have e4 : g.1 (0, 0, 0) 4 = s 12 := h1.1.2.1 4 (by decide) (by decide)
        obtain ⟨q, q1, q2⟩ := hs.2.2.1
        have z2' : ¬ (cc s = 30 ∨ s 12 = 500) := fun t => z2 (t.imp (fun u => h2.symm.trans u) (fun u => by rw [e4, u]; exact Int32.le_refl _))
        have z1' : ¬ s (oD x 0) = 3 := fun t => z1 (e.trans t)
        unfold doM
        dsimp only
        rw [if_pos rfl, if_neg z1', if_neg z2', h2]
        refine ⟨rfl, hs.read h1 v1 (by have : c0 ≠ 30 := fun t => z2 (Or.inl t); omega) ⟨nI_nlt v2 (by omega), nI_nlt v3 (by decide)⟩ z1' (fun t => z2' (Or.inr t)), fun u => ?_⟩
        rw [e4, q2] at u
        exact nI_n0 (by omega) u.1
  · dsimp only at v0 v1
    subst v0
    have hX := hX (by decide)
    subst hX
    have hop := (c_planFault (n + 2) 0 (nI x) g).2 x v1 rfl
    have run : ∀ v g', dEx (n + 5) 17 [.inr (0, 0, 0), .inl (nI x)] g (some (.inl v), g') → dEx (n + 6) 66 [.inr (6, 0, 0), .inl (nI 1), .inl (nI x), .inl Y] g (some (.inl v), g') := by
      intro v g' hh
      refine dx_66 ?_
      refine Runs.go 2 rfl trivial ?_
      refine Runs.sw1 (fun c => absurd c (by decide)) (fun _ => ?_)
      refine Runs.sw1 (fun _ => ?_) (fun c => absurd rfl c)
      refine Runs.go 3 rfl trivial ?_
      refine Runs.cal rfl hh ?_
      exact Runs.fin rfl trivial
    by_cases z1 : g.1 (4, 0, x) 0 = 3
    · rw [if_pos z1] at hop
      refine ⟨-4, g, run _ _ hop, Fr.rf, hs0.wf, fun s f hs => Or.inr ?_⟩
      obtain ⟨h1, h2⟩ := cs s hs
      have e : g.1 (4, 0, x) 0 = s (oD x 0) := h1.1.2.2 x v1 0 (by decide)
      unfold doM
      dsimp only
      rw [if_neg (by decide), if_pos rfl, if_pos (show s (oD x 0) = 3 from e.symm.trans z1)]
      exact ⟨by dsimp only; decide, by unfold isE; decide⟩
    · rw [if_neg z1] at hop
      by_cases z2 : g.1 (4, 0, x) 5 = 0
      · rw [if_pos z2] at hop
        refine ⟨_, _, run _ _ hop, frx4 Fr.rf, hs0.wf, fun s f hs => Or.inl ?_⟩
        obtain ⟨h1, h2⟩ := cs s hs
        have e : g.1 (4, 0, x) 0 = s (oD x 0) := h1.1.2.2 x v1 0 (by decide)
        have e5 : g.1 (4, 0, x) 5 = s (oD x 4) := h1.1.2.2 x v1 5 (by decide)
        have z1' : ¬ s (oD x 0) = 3 := fun t => z1 (e.trans t)
        obtain ⟨f1, f2⟩ := fail_SR h1 v1
        unfold doM
        dsimp only
        rw [if_neg (by decide), if_pos rfl, if_neg z1', if_neg (show ¬ s (oD x 4) = 1 by rw [← e5, z2]; decide)]
        refine ⟨rfl, hs.plan h1 v1, fun u => ?_⟩
        rw [f2] at u
        exact mpl_n0 f1.2.2.2.2.2.2.2.2.2.1 u.1
      · rw [if_neg z2] at hop
        refine ⟨-5, g, run _ _ hop, Fr.rf, hs0.wf, fun s f hs => Or.inl ?_⟩
        obtain ⟨h1, h2⟩ := cs s hs
        have e : g.1 (4, 0, x) 0 = s (oD x 0) := h1.1.2.2 x v1 0 (by decide)
        have e5 : g.1 (4, 0, x) 5 = s (oD x 4) := h1.1.2.2 x v1 5 (by decide)
        have z1' : ¬ s (oD x 0) = 3 := fun t => z1 (e.trans t)
        have z5 : s (oD x 4) = 1 := ((h1.2.2.2.2.2.2.2.2.2.1 x v1).2.2.2.2.2).resolve_left (fun t => z2 (e5.trans t))
        unfold doM
        dsimp only
        rw [if_neg (by decide), if_pos rfl, if_neg z1', if_pos z5]
        exact ⟨rfl, hs, fun u => u.2 rfl⟩
  · dsimp only at v0 v1 v2
    subst v0
    have hX := hX (by decide)
    subst hX
    have hop := c_pass1 n 0 x (by omega) g ⟨nI_nlt v1 (by omega), nI_nlt v2 (by decide)⟩ (fun _ k _ => pass_ok s0 hs0 k)
    have run : ∀ v g', dEx (n + 5) 28 [.inr (0, 0, 0), .inl (nI x)] g (some (.inl v), g') → dEx (n + 6) 66 [.inr (6, 0, 0), .inl (nI 2), .inl (nI x), .inl Y] g (some (.inl v), g') := by
      intro v g' hh
      refine dx_66 ?_
      refine Runs.go 2 rfl trivial ?_
      refine Runs.sw1 (fun c => absurd c (by decide)) (fun _ => ?_)
      refine Runs.sw1 (fun c => absurd c (by decide)) (fun _ => ?_)
      refine Runs.sw1 (fun _ => ?_) (fun c => absurd rfl c)
      refine Runs.go 3 rfl trivial ?_
      refine Runs.cal rfl hh ?_
      exact Runs.fin rfl trivial
    by_cases z1 : g.1 (0, 0, 0) 8 + nI x ≤ 99999
    · rw [if_pos z1] at hop
      refine ⟨_, _, run _ _ hop, (Ft.rf.xpk x).fr, pk_wf hs0 x, fun s f hs => Or.inl ?_⟩
      obtain ⟨h1, h2⟩ := cs s hs
      have e8 : g.1 (0, 0, 0) 8 = s 10 := h1.1.2.1 8 (by decide) (by decide)
      rw [e8] at z1
      obtain ⟨p1, p2⟩ := pass_n0 f h1 (show x ≤ 400 by omega)
      unfold doM
      dsimp only
      rw [if_neg (by decide), if_neg (by decide), if_pos rfl, if_pos z1]
      refine ⟨rfl, hs.pass f h1 (by omega) z1, fun u => ?_⟩
      rw [p1] at u
      exact p2 u.1
    · rw [if_neg z1] at hop
      refine ⟨-3, g, run _ _ hop, Fr.rf, hs0.wf, fun s f hs => Or.inr ?_⟩
      obtain ⟨h1, h2⟩ := cs s hs
      have e8 : g.1 (0, 0, 0) 8 = s 10 := h1.1.2.1 8 (by decide) (by decide)
      rw [e8] at z1
      unfold doM
      dsimp only
      rw [if_neg (by decide), if_neg (by decide), if_pos rfl, if_neg z1]
      exact ⟨by dsimp only; decide, by unfold isE; decide⟩
  · dsimp only at v0
    subst v0
    have hop := c_renewFuse (n + 2) 0 g
    have run : ∀ v g', dEx (n + 5) 24 [.inr (0, 0, 0)] g (some (.inl v), g') → dEx (n + 6) 66 [.inr (6, 0, 0), .inl (nI 3), .inl X, .inl Y] g (some (.inl v), g') := by
      intro v g' hh
      refine dx_66 ?_
      refine Runs.go 2 rfl trivial ?_
      refine Runs.sw1 (fun c => absurd c (by decide)) (fun _ => ?_)
      refine Runs.sw1 (fun c => absurd c (by decide)) (fun _ => ?_)
      refine Runs.sw1 (fun c => absurd c (by decide)) (fun _ => ?_)
      refine Runs.sw0 ?_
      refine Runs.go 2 rfl trivial ?_
      refine Runs.cal rfl hh ?_
      exact Runs.fin rfl trivial
    by_cases z1 : g.1 (0, 0, 0) 10 = 0
    · rw [if_pos z1] at hop
      refine ⟨-5, g, run _ _ hop, Fr.rf, hs0.wf, fun s f hs => Or.inl ?_⟩
      obtain ⟨h1, h2⟩ := cs s hs
      have e : g.1 (0, 0, 0) 10 = s 15 := h1.1.2.1 10 (by decide) (by decide)
      unfold doM
      dsimp only
      rw [if_neg (by decide), if_neg (by decide), if_neg (by decide), if_neg (show ¬ s 15 = 1 by rw [← e, z1]; decide)]
      exact ⟨rfl, hs, fun u => u.2 rfl⟩
    · rw [if_neg z1] at hop
      refine ⟨_, _, run _ _ hop, frx0 Fr.rf, hs0.wf, fun s f hs => Or.inl ?_⟩
      obtain ⟨h1, h2⟩ := cs s hs
      have e : g.1 (0, 0, 0) 10 = s 15 := h1.1.2.1 10 (by decide) (by decide)
      rw [e] at z1
      have y5 := (h1.2.2.2.2.2.2.2.2.1.2.2.2.2).resolve_left z1
      have f1 := (fuse_new h1 hs.2.1 z1).1
      have xf := hs.fuse h1 z1
      unfold doM
      dsimp only
      rw [if_neg (by decide), if_neg (by decide), if_neg (by decide), if_pos y5]
      refine ⟨rfl, xf, fun u => ?_⟩
      rw [sumcur f1] at u
      obtain ⟨q, q1, q2⟩ := mcurN_le xf.2.2.2.2 c0
      rw [q2] at u
      exact nI_n0 (by omega) u.1
