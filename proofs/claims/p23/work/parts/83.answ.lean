/-! answeredIn, in rows -/
theorem PR.trial {h g : DH} {s : Nat → Int32} {l : List (Nat → Int32)} (hs : PR h s l) (F : Fr 1 h g) (w : WF g 1) : PR g s l := ⟨hs.1.fr (F.e5 (by decide)), w, hs.2.2.cg (F.eo (by simp)).1 (F.eo (by simp)).2 (fun j hj => F.e5 (by omega))⟩
theorem Q2.uniq {A : Int32} {L : List R5} (h : Q2 A L) {r r' : R5} (hr : r ∈ L) (hr' : r' ∈ L) (e : r.1 = r'.1) : r = r' := by
  obtain ⟨i, hi, rfl⟩ := List.getElem_of_mem hr
  obtain ⟨j, hj, rfl⟩ := List.getElem_of_mem hr'
  have hp := List.pairwise_iff_getElem.mp h.1
  rcases Nat.lt_trichotomy i j with u | u | u
  · have := hp i j hi hj u
    rw [e] at this
    exact absurd this (Int32.not_lt.mpr (Int32.le_refl _))
  · subst u; rfl
  · have := hp j i hj hi u
    rw [e] at this
    exact absurd this (Int32.not_lt.mpr (Int32.le_refl _))
theorem pr_n0 {T : Nat} {s : Nat → Int32} {x : Int32} (hq : QI T s) (h : pr s x) : ¬ x < 0 := by
  obtain ⟨r, hr, rfl⟩ := h
  exact (hq.2.2.2.1.2 r hr).1
/-- the same read, later -/
theorem rk_same {h : DH} {i c : Nat} {s : Nat → Int32} (f : Nat → Int32) (hs : SR h i c s) {T : Nat} (hq : QI T s) {k : Nat} (hk : T + k ≤ 110000) {r r' : R5} (hr : r ∈ LM s (cc s)) (hr' : r' ∈ LM (rk s f k).1 (cc (rk s f k).1)) (e : r'.1 = r.1) : k3 r' = k3 r := by
  have := (rk_mono f hs hq k hk).1.subset (List.mem_map_of_mem hr')
  obtain ⟨r0, h0, e0⟩ := List.mem_map.mp this
  have e1 : r0.1 = r'.1 := congrArg (fun q => q.1) e0
  have := hq.2.2.2.1.uniq h0 hr (e1.trans e)
  rw [← e0, this]
theorem rk_van {h : DH} {i c : Nat} {s : Nat → Int32} (f : Nat → Int32) (hs : SR h i c s) {T N d : Nat} (hq : QI T s) (hT : T + (N + 1) ≤ 110000) {r : R5} (hr : r ∈ LM s (cc s)) (hd : dk5 r = nI d) (hd12 : d < 12) (hgo : pr (rk s f N).1 r.1) (hno : ¬ pr (rk s f (N + 1)).1 r.1) (h3 : ¬ (rk s f (N + 1)).1 (oD d 0) = 3) : ans (rk s f N).1 + 1 ≤ ans (rk s f (N + 1)).1 ∧ wtd s + (T + (N + 1)) ≤ wtd (rk s f (N + 1)).1 + ask r := by
  obtain ⟨r', hr', e⟩ := hgo
  have ek := rk_same f hs hq (k := N) (by omega) hr hr' e
  have ed : dk5 r' = dk5 r := congrArg (fun q => q.2.1) ek
  have ea : ask r' = ask r := congrArg (fun q => q.2.2.toNatClampNeg) ek
  obtain ⟨-, -, -, t4, -⟩ := rk_TP f hs hq (k := N) (by omega)
  have m3 := (rk_mono f hs hq N (by omega)).2.2
  rcases t4 r' hr' with u | ⟨e', e1, e2, e3⟩ | ⟨u1, u2⟩
  · obtain ⟨r2, g1, g2⟩ := List.mem_map.mp u
    exact absurd ⟨r2, g1, (congrArg (fun q => q.1) g2).trans e⟩ hno
  · have : e' = d := nI_inj (by omega) (by omega) (e2.symm.trans (ed.trans hd))
    rw [this] at e3
    exact absurd e3 h3
  · rw [ea] at u2
    exact ⟨u1, by omega⟩
theorem c_ansP (n : Nat) (x : Int32) {h : DH} {s : Nat → Int32} {l : List (Nat → Int32)} (f : Nat → Int32) (hs : PR h s l) : (¬ pr s x → dEx (n + 5) 80 [.inr (6, 0, 0), .inl x] h (some (.inl (-1)), h)) ∧ (∀ (r : R5) (d : Nat), r ∈ LM s (cc s) → r.1 = x → dk5 r = nI d → d < 12 → ∃ (v : Int32) (g : DH), dEx (n + 5) 80 [.inr (6, 0, 0), .inl x] h (some (.inl v), g) ∧ PR g s l ∧ ((∃ N, N < 400 ∧ v = nI (N + 1) ∧ pr (rk s f N).1 x ∧ ¬ pr (rk s f (N + 1)).1 x ∧ ¬ (rk s f (N + 1)).1 (oD d 0) = 3) ∨ (v = -5 ∧ (pr (rk s f 400).1 x ∨ (rk s f 400).1 (oD d 0) = 3)))) := by
  obtain ⟨c, hc⟩ := hs.sr
  obtain ⟨T, hq, hT, -⟩ := hs.1.T
  have hk := hc.cp_ok
  constructor
  · intro hn
    exact c_ansIn0 n x h hk.1 hk.2.1 ((hc.plc x).trans ((mplc_none hc.cc).mpr hn))
  · intro r d hr hrx hrd hd12
    have hpr : pr s x := ⟨r, hr, hrx⟩
    cases hp' : mplc s c x with
    | none => exact absurd hpr ((mplc_none hc.cc).mp hp')
    | some p =>
      have eplc : cplc h 0 c x = some p := (hc.plc x).trans hp'
      obtain ⟨hpc, hpm, hpx⟩ := mplc_at hc.cc hp'
      have er : rmk s p = r := hq.2.2.2.1.uniq hpm hr (hpx.trans hrx.symm)
      have hT1 : SR (cfull h 1 0 c) 1 c s := hc.copy (by decide) hs.2.1
      have F0 := Fr_cfull h 1 0 c
      have hd' : (cfull h 1 0 c).1 (5, 0, (cfull h 1 0 c).2 (3, 0, 0) p) 1 = nI d := by
        rw [F0.o2 (show 0 ≠ 1 by decide), F0.o (show 0 ≠ 1 by decide)]
        exact (congrArg (fun r : R5 => r.2.1) (hc.rd hpc)).trans (by rw [er]; exact hrd)
      have pl : ∀ k, cplk (cfull h 1 0 c) k x = none ↔ ¬ pr (rk s f k).1 x := fun k => by rw [cplk_eq f hT1 k x]; exact mplc_none rfl
      have p0 : cplk (cfull h 1 0 c) 0 x ≠ none := fun t => (pl 0).mp t hpr
      obtain ⟨N, hN, hgo, hst⟩ := stopAt (fun j => (pk (cfull h 1 0 c) 1 j).1 (0, 1, 0) 10 = 0 ∧ cplk (cfull h 1 0 c) j x ≠ none) (fun j => Decidable.em _) 400
      have h1 := c_ansIn1 n x h hk eplc hd' hd12 hN (fun j _ => pass_ok f hT1 j) (fun j hj => (hgo j hj).1) (fun j hj => (hgo j hj).2) p0 (hst.imp id (fun t => by
        by_cases z : (pk (cfull h 1 0 c) 1 N).1 (0, 1, 0) 10 = 0
        · exact Or.inr (Decidable.byContradiction fun u => t ⟨z, u⟩)
        · exact Or.inl z))
      have F := Fr_pk F0 N
      have doing : (pk (cfull h 1 0 c) 1 N).1 (4, 1, d) 0 = (rk s f N).1 (oD d 0) := by
        obtain ⟨⟨c', q⟩, _⟩ := pass_SR f hT1 N
        exact q.1.2.2 d hd12 0 (by decide)
      rw [doing] at h1
      refine ⟨_, _, h1, hs.trial F (pk_wf hT1 N), ?_⟩
      by_cases z : cplk (cfull h 1 0 c) N x = none
      · have nz : ¬ pr (rk s f N).1 x := (pl N).mp z
        cases N with
        | zero => exact absurd z p0
        | succ N =>
          by_cases z3 : (rk s f (N + 1)).1 (oD d 0) = 3
          · rw [if_neg (fun t => t.2 z3)]
            refine Or.inr ⟨rfl, Or.inr ?_⟩
            have := rk_brk f hc hq hd12 z3 (400 - (N + 1)) (by omega)
            rw [show N + 1 + (400 - (N + 1)) = 400 by omega] at this
            exact this
          · rw [if_pos ⟨z, z3⟩]
            refine Or.inl ⟨N, by omega, rfl, ?_, nz, z3⟩
            exact Classical.byContradiction fun t => (hgo N (by omega)).2 ((pl N).mpr t)
      · rw [if_neg (fun t => z t.1)]
        refine Or.inr ⟨rfl, Or.inl ?_⟩
        have hy : pr (rk s f N).1 x := Classical.byContradiction fun t => z ((pl N).mpr t)
        rcases hst with u | u
        · rw [← u]; exact hy
        · have hb : ¬ (pk (cfull h 1 0 c) 1 N).1 (0, 1, 0) 10 = 0 := fun t => u ⟨t, z⟩
          rw [(rd_eq f hT1 N).2.1] at hb
          obtain ⟨⟨c', q⟩, _⟩ := pass_SR f hT1 N
          have hb1 := q.2.2.2.2.2.2.2.2.1.2.2.2.2.resolve_left hb
          obtain ⟨b1, b2⟩ := blown_on f hT1 hN hb1
          refine Classical.byContradiction fun t => ?_
          have ec : cc (rk s f 400).1 = cc (rk s f N).1 := cc_cg b1
          have t2 := (mplc_none (s := (rk s f 400).1) (x := x) rfl).mpr t
          rw [ec] at t2
          refine (mplc_none (s := (rk s f N).1) (x := x) rfl).mp ?_ hy
          rw [← t2]
          unfold mplc
          exact fp_congr (fun k _ => by rw [b2 k])
