/-! perform: a step -/
theorem CF.e5 {p : Nat} {h h' : DH} (F : CF p h h') (j : Nat) : Eq5 j h h' := fun k m hk => ⟨F.1 _ (fun t => by simp at t; omega) (fun t => by simp at t; omega) (fun t => by simp at t; omega) (fun t => by simp at t; omega), by rw [F.2.2.2]⟩
theorem PQ.e5 {h h' : DH} (F : PQ h h') (j : Nat) : Eq5 j h h' := fun k m hk => ⟨F.1 _ (fun t => by simp at t; omega) (fun t => by simp at t; omega) (fun t => by simp at t; omega) (fun t => by simp at t; omega), by rw [F.2.2]⟩
theorem RR.cf {p : Nat} {h h' : DH} (hs : RR h) (F : CF p h h') : RR h' := by
  have o : ∀ κ : DKey, κ ≠ (9, 0, 0) → κ ≠ (11, 0, 0) → κ ≠ (12, 0, 0) → κ ≠ (13, 0, 0) → h'.1 κ = h.1 κ := F.1
  refine hs.of (o _ (by simp) (by simp) (by simp) (by simp)) (o _ (by simp) (by simp) (by simp) (by simp)) (by rw [F.2.2.2]) (F.2.1 1 (by decide) (by decide)) (o _ (by simp) (by simp) (by simp) (by simp)) (fun k _ => by rw [o _ (by simp) (by simp) (by simp) (by simp)]) (o _ (by simp) (by simp) (by simp) (by simp)) (o _ (by simp) (by simp) (by simp) (by simp)) (o _ (by simp) (by simp) (by simp) (by simp)) (fun j _ => F.e5 j) (hs.2.1.fr (F.e5 1)) ?_
  rw [o _ (by simp) (by simp) (by simp) (by simp)]
  exact hs.1.fr (F.e5 0)
theorem RR.pq {h h' : DH} (hs : RR h) (F : PQ h h') (x : XR h 0 (h'.1 (15, 0, 0))) : RR h' := by
  have o : ∀ κ : DKey, κ ≠ (14, 0, 0) → κ ≠ (15, 0, 0) → κ ≠ (16, 0, 0) → κ ≠ (20, 0, 0) → h'.1 κ = h.1 κ := F.1
  exact hs.of (o _ (by simp) (by simp) (by simp) (by simp)) (o _ (by simp) (by simp) (by simp) (by simp)) (by rw [F.2.2]) (by rw [o _ (by simp) (by simp) (by simp) (by simp)]) (o _ (by simp) (by simp) (by simp) (by simp)) (fun k hk => F.2.1 k (by omega)) (o _ (by simp) (by simp) (by simp) (by simp)) (o _ (by simp) (by simp) (by simp) (by simp)) (o _ (by simp) (by simp) (by simp) (by simp)) (fun j _ => F.e5 j) (hs.2.1.fr (F.e5 1)) (x.fr (F.e5 0))
theorem RR.fr0 {g g' : DH} (hs : RR g) (F : Fr 0 g g') (x : XR g' 0 (g.1 (15, 0, 0))) : RR g' := by
  have o := fun (κ : DKey) (hκ : 5 < κ.1) => show g'.1 κ = g.1 κ from (F.eo hκ).1
  refine hs.of (o _ (by simp)) (o _ (by simp)) (F.eo (κ := (8, 0, 0)) (by simp)).2 (by rw [o _ (by simp)]) (o _ (by simp)) (fun k _ => by rw [o _ (by simp)]) (o _ (by simp)) (o _ (by simp)) (o _ (by simp)) (fun j hj => F.e5 (by omega)) (hs.2.1.fr (F.e5 (by decide))) ?_
  rw [o _ (by simp)]
  exact x
theorem st_perf (n : Nat) : Step (n + 10) 46 125 [] := by
  intro h hs
  obtain ⟨t, ht, h91, h147, hch⟩ := hs.2.2.2.2
  have hT : RT h (h.1 (19, 0, 0)) t := ⟨h147, rfl⟩
  have ht10 : ∀ k, k < t → h.1 (10, 0, 0) k = h.1 (19, 0, 0) k := fun k hk => (hch k hk).1
  generalize h.1 (19, 0, 0) = T at hT ht10
  cases hn : (prs T t 16 0).2 with
  | some e =>
    have he := prs_e 16 0 e (Nat.zero_le _) hn
    obtain ⟨h1, c1, F1⟩ := c_perfF (n + 1) h ht h91 ht10 hn (by omega)
    have hT1 : RT h1 T t := ⟨by rw [F1.1 _ (by simp) (by simp) (by simp) (by simp)]; exact hT.1, by rw [F1.1 _ (by simp) (by simp) (by simp) (by simp)]; exact hT.2⟩
    obtain ⟨h2, m1, F2⟩ := m_perfF n h1 ht hT1 hn
    have r1 := hs.cf F1
    refine ⟨_, h1, h2, c1, m1, r1.pq (F2.pg (by decide)).pq ?_⟩
    rw [F2.1 _ (by simp)]
    exact r1.1
  | none =>
    obtain ⟨h1, k1, F1, k5, ke⟩ := c_find (n + 1) h ht h91 ht10
    have k5 := k5 hn
    rw [hn] at k1
    have hs1 := hs.cf F1
    have hT1 : RT h1 T t := ⟨by rw [F1.1 _ (by simp) (by simp) (by simp) (by simp)]; exact hT.1, by rw [F1.1 _ (by simp) (by simp) (by simp) (by simp)]; exact hT.2⟩
    obtain ⟨a, c, g, hgg, hk, hne, ha, ha4, hg, hga, hgx, hgc, g7, g14⟩ := hs1.go
    have F0 := Fr_cfull h1 (rr h1 a) 0 c
    have pr := c_prepare (n + 6) h1 ha ha4 hne hk
    rw [hgg] at F0 pr
    have G := fun (κ : DKey) (hκ : 5 < κ.1) => show g.1 κ = h1.1 κ from (F0.eo hκ).1
    have er : rr g a = rr h1 a := congrFun (F0.eo (κ := (8, 0, 0)) (by simp)).2 a
    have hTg : RT g T t := ⟨by rw [G _ (by simp)]; exact hT1.1, by rw [G _ (by simp)]; exact hT1.2⟩
    have hlen := prs_len T t 16 0
    have hV := prs_V (T := T) (t := t) 16 0 (Nat.zero_le _)
    have okg : okC (g.1 (15, 0, 0)) := ⟨c, hgc.2.2.1, hgc.2.2.2.1⟩
    have mN := fun (hB : DH) (e1 : RT hB T t) (e2 : hB.1 (15, 0, 0) = g.1 (15, 0, 0)) (e3 : hB.1 (20, 0, 0) = g.1 (20, 0, 0)) (e4 : hB.1 (14, 0, 0) 3 = nI a) => m_perfN n hB (g.1 (15, 0, 0)) (g.1 (20, 0, 0)) ht e1 okg e2 e3 e4 ha4 hn
    generalize hcs : (prs T t 16 0).1 = cs at *
    obtain ⟨r, hQ, hrun⟩ := c_perfL (n + 1) g (s0 := g.1 (15, 0, 0)) (cs := cs) g7 ha4 (by rw [er]; exact hne) hg.1 hgx (by rw [G _ (by simp)]; exact k5) hlen (fun j c' e => by
      have := ke j c' e
      unfold entry
      rw [G _ (by simp), G _ (by simp), G _ (by simp)]
      exact this) hV
    have cls : dEx (n + 10) 46 [.inr (6, 0, 0)] h r := by
      refine dx_46 ?_
      refine Runs.go 2 rfl trivial ?_
      refine Runs.cal rfl k1 ?_
      refine Runs.go 4 rfl trivial ?_
      refine Runs.ifT rfl ?_
      refine Runs.go 4 rfl trivial ?_
      refine Runs.calv rfl pr ?_
      refine Runs.go 2 rfl trivial ?_
      exact hrun
    rcases hQ with ⟨g', rfl, F, rel⟩ | ⟨g', c', rfl, F, wg, hsr, rel⟩
    · have G' := fun (κ : DKey) (hκ : 5 < κ.1) (h7 : κ ≠ (7, 0, 0)) => show (recH g' a).1 κ = g.1 κ from (recH_1 _ _ h7).trans (F.eo hκ).1
      obtain ⟨s2, f2, es, _, hok⟩ := mN (recH g' a) ⟨by rw [G' _ (by simp) (by simp)]; exact hTg.1, by rw [G' _ (by simp) (by simp)]; exact hTg.2⟩ (G' _ (by simp) (by simp)) (G' _ (by simp) (by simp)) (by rw [G' _ (by simp) (by simp)]; exact g14)
      obtain ⟨z1, _⟩ := rel _ (g.1 (20, 0, 0)) hg.1
      obtain ⟨z2, x2⟩ := rel s2 f2 (hg.1.row es)
      obtain ⟨h', m1, Q, e15⟩ := hok z1 z2
      have R0 := hg.done (f := f2) hga (hgx.row es) F x2
      refine ⟨_, _, h', cls, m1, R0.pq ⟨fun κ q1 q2 q3 q4 => (Q.1 κ q1 q2 q3 q4).trans (hp_1 _ _ _ q2 q4).symm, fun k hk => (Q.2.1 k hk).trans (hp_14 _ _ _ _).symm, Q.2.2⟩ ?_⟩
      have := R0.1
      rw [hp_s] at this
      rw [e15]
      exact this
    · have Fc := Fr_cfull g' 0 (rr g a) c'
      have xa := hgx.fr (F.e5 (show rr g a ≠ 0 by rw [er]; exact hne))
      have xR : XR (cfull g' 0 (rr g a) c') 0 (g.1 (15, 0, 0)) := xa.copy hsr (by rw [er]; exact hne) wg
      have FF := F.tr Fc
      generalize cfull g' 0 (rr g a) c' = gR at *
      have G' := fun (κ : DKey) (hκ : 5 < κ.1) => show gR.1 κ = g.1 κ from (FF.eo hκ).1
      obtain ⟨s2, f2, es, herr, _⟩ := mN gR ⟨by rw [G' _ (by simp)]; exact hTg.1, by rw [G' _ (by simp)]; exact hTg.2⟩ (G' _ (by simp)) (G' _ (by simp)) (by rw [G' _ (by simp)]; exact g14)
      obtain ⟨h', m1, Q, e15⟩ := herr (rel _ (g.1 (20, 0, 0)) hg.1)
      refine ⟨_, _, h', cls, m1, (hg.fr0 FF xR).pq Q ?_⟩
      rw [e15]
      exact xR.row es
