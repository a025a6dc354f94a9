/-! ifAtOnce, bestAtOnce in rows; isAtOnceSo -/
theorem c_ifP0 (n : Nat) {h : DH} {s : Nat → Int32} {l : List (Nat → Int32)} (f : Nat → Int32) (hs : PR h s l) {m : Nat} (h1 : 1 ≤ m) (h2 : m ≤ 12) : ∃ g, dEx (n + 6) 81 [.inr (6, 0, 0), .inl (nI m), .inl 0] h (some (.inl (oI (-5) (tvv (upd s 8 (nI m)) f))), g) ∧ PR g s l := by
  obtain ⟨c, hc⟩ := hs.sr
  have hb := wip_12 h1 h2
  have hT := trl_SR hc hs.2.1 hb
  obtain ⟨N, hu⟩ := c_untilR n (nI m) h (f := f) hc.cp_ok hT (Nat.le_refl 400)
  have a1 := c_ifAt1 n (nI m) h hb hu
  rw [oI_tvL (fun t ht => (tvv_some ht).1)] at a1
  exact ⟨_, a1, hs.trial (Fr_pk (Fr_trl h c _) N) (pk_wf hT N)⟩
theorem c_ifP12 (n : Nat) {h : DH} {s : Nat → Int32} {l : List (Nat → Int32)} (f : Nat → Int32) (hs : PR h s l) {m : Nat} (h1 : 1 ≤ m) (h2 : m ≤ 12) : (∃ g, dEx (n + 6) 81 [.inr (6, 0, 0), .inl (nI m), .inl 1] h (some (.inl (ho (upd s 8 (nI m)) f 100)), g) ∧ PR g s l) ∧ (∃ g, dEx (n + 6) 81 [.inr (6, 0, 0), .inl (nI m), .inl 2] h (some (.inl ((rk (upd s 8 (nI m)) f 100).1 15)), g) ∧ PR g s l) := by
  obtain ⟨c, hc⟩ := hs.sr
  have hb := wip_12 h1 h2
  have hT := trl_SR hc hs.2.1 hb
  have hT0 : SR (trl0 h c (nI m)) 1 c (upd (upd s 8 (nI m)) 11 0) := hT.sc (show 4 ≤ 9 by decide) (by decide) 0 (fun t => absurd t (by decide))
  have F := Fr_pk (Fr_trl0 h c (nI m)) 100
  have e9 := pk_ho f hT0 100
  have e10 := (rd_eq f hT0 100).2.1
  have E : E11 (upd s 8 (nI m)) (upd (upd s 8 (nI m)) 11 0) := fun j hj => upd_n _ _ hj
  have E1 := (E.xrk f 100).1
  rw [E1 15 (by decide)] at e10
  have y5 : (rk (upd s 8 (nI m)) f 100).1 15 = 0 ∨ (rk (upd s 8 (nI m)) f 100).1 15 = 1 := by
    obtain ⟨⟨c2, q⟩, _⟩ := pass_SR f hT 100
    exact q.2.2.2.2.2.2.2.2.1.2.2.2.2
  constructor
  · have a1 := c_ifAt2 n (nI m) 1 h hc.cp_ok hb (by unfold wip; decide) (by decide) (fun j _ => pass_ok f hT0 j)
    rw [if_pos rfl, e9] at a1
    exact ⟨_, a1, hs.trial F (pk_wf hT0 100)⟩
  · have a1 := c_ifAt2 n (nI m) 2 h hc.cp_ok hb (by unfold wip; decide) (by decide) (fun j _ => pass_ok f hT0 j)
    rw [if_neg (by decide), e10] at a1
    have e : (if (rk (upd s 8 (nI m)) f 100).1 15 = 0 then (0 : Int32) else 1) = (rk (upd s 8 (nI m)) f 100).1 15 := by
      rcases y5 with q | q <;> rw [q] <;> rfl
    rw [e] at a1
    exact ⟨_, a1, hs.trial F (pk_wf hT0 100)⟩
theorem c_bestP (n : Nat) {h : DH} {s : Nat → Int32} {l : List (Nat → Int32)} (f : Nat → Int32) (hs : PR h s l) : ∃ g, dEx (n + 6) 84 [.inr (6, 0, 0)] h (some (.inl (bI (bst (fun m => tvv (upd s 8 (nI m)) f) 12))), g) ∧ PR g s l := by
  obtain ⟨c, hc⟩ := hs.sr
  obtain ⟨g, a1, a2, a3⟩ := c_best n h (f := f) (tv := fun m => tvv (upd s 8 (nI m)) f) hc hs.2.1 (fun _ => rfl)
  exact ⟨g, a1, hs.trial a2 a3⟩
theorem bst_spec (tv : Nat → Option Nat) : ∀ k, (bst tv k = none → ∀ m, 1 ≤ m → m ≤ k → tv m = none) ∧ ∀ m t, bst tv k = some (m, t) → 1 ≤ m ∧ m ≤ k ∧ tv m = some t ∧ (∀ m' t', 1 ≤ m' → m' ≤ k → tv m' = some t' → t ≤ t') ∧ ∀ m' t', 1 ≤ m' → m' < m → tv m' = some t' → t < t' := by
  intro k
  induction k with
  | zero => exact ⟨fun _ m h1 h2 => by omega, fun m t h => by cases h⟩
  | succ k ih =>
    obtain ⟨i1, i2⟩ := ih
    cases hk : tv (k + 1) with
    | none =>
      rw [bst_n hk]
      refine ⟨fun h m h1 h2 => ?_, fun m t h => ?_⟩
      · by_cases z : m = k + 1
        · rw [z]; exact hk
        · exact i1 h m h1 (by omega)
      · obtain ⟨a1, a2, a3, a4, a5⟩ := i2 m t h
        refine ⟨a1, by omega, a3, fun m' t' g1 g2 g3 => ?_, a5⟩
        by_cases z : m' = k + 1
        · rw [z, hk] at g3; cases g3
        · exact a4 m' t' g1 (by omega) g3
    | some t1 =>
      rw [bst_s hk]
      cases hb : bst tv k with
      | none =>
        dsimp only
        refine ⟨fun h => (by cases h), fun m t h => ?_⟩
        cases h
        refine ⟨by omega, Nat.le_refl _, hk, fun m' t' g1 g2 g3 => ?_, fun m' t' g1 g2 g3 => ?_⟩
        · by_cases z : m' = k + 1
          · rw [z, hk] at g3; cases g3; exact Nat.le_refl _
          · rw [i1 hb m' g1 (by omega)] at g3; cases g3
        · rw [i1 hb m' g1 (by omega)] at g3; cases g3
      | some q =>
        obtain ⟨m0, t0⟩ := q
        obtain ⟨a1, a2, a3, a4, a5⟩ := i2 m0 t0 hb
        dsimp only
        by_cases z : t1 < t0
        · rw [if_pos z]
          refine ⟨fun h => (by cases h), fun m t h => ?_⟩
          cases h
          refine ⟨by omega, Nat.le_refl _, hk, fun m' t' g1 g2 g3 => ?_, fun m' t' g1 g2 g3 => ?_⟩
          · by_cases zz : m' = k + 1
            · rw [zz, hk] at g3; cases g3; exact Nat.le_refl _
            · have := a4 m' t' g1 (by omega) g3; omega
          · have := a4 m' t' g1 (by omega) g3; omega
        · rw [if_neg z]
          refine ⟨fun h => (by cases h), fun m t h => ?_⟩
          cases h
          refine ⟨a1, by omega, a3, fun m' t' g1 g2 g3 => ?_, a5⟩
          by_cases zz : m' = k + 1
          · rw [zz, hk] at g3; cases g3; omega
          · exact a4 m' t' g1 (by omega) g3
theorem mx_as (a b c : Int32) : mx (mx a b) c = mx a (if c ≤ b then b else c) := by
  unfold mx
  by_cases h1 : a < b
  · rw [if_pos h1]
    by_cases h2 : b < c
    · rw [if_pos h2, if_neg (Int32.not_le.mpr h2), if_pos (Int32.lt_trans h1 h2)]
    · rw [if_neg h2, if_pos (Int32.not_lt.mp h2), if_pos h1]
  · rw [if_neg h1]
    by_cases h2 : c ≤ b
    · rw [if_pos h2, if_neg h1, if_neg (Int32.not_lt.mpr (Int32.le_trans h2 (Int32.not_lt.mp h1)))]
    · rw [if_neg h2]
theorem rk_peak {h : DH} {i c : Nat} {s : Nat → Int32} (f : Nat → Int32) (hs : SR h i c s) (h0 : ¬ s 11 < 0) : ∀ k, (rk s f k).1 11 = mx (s 11) (ho s f k) := by
  intro k
  induction k with
  | zero =>
    show s 11 = mx (s 11) 0
    unfold mx
    rw [if_neg h0]
  | succ k ih =>
    obtain ⟨⟨c1, h1⟩, _⟩ := pass_SR f hs k
    obtain ⟨⟨c2, h2⟩, _⟩ := pass_SR f hs (k + 1)
    have e1 := h1.1.2.1 9 (by decide) (by decide)
    have e2 := h2.1.2.1 9 (by decide) (by decide)
    rw [show ms 9 = 11 from rfl] at e1 e2
    have e9 : (pk h i (k + 1)).1 (0, i, 0) 9 = mx ((pk h i k).1 (0, i, 0) 9) (sumN (ccur (pk h i (k + 1)) i) 12) := tick_9 _ _ _
    rw [e1, e2, sumcur h2, ih, mx_as] at e9
    rw [e9, show ho s f (k + 1) = (if mcurN (rk s f (k + 1)).1 (cc (rk s f (k + 1)).1) ≤ ho s f k then ho s f k else mcurN (rk s f (k + 1)).1 (cc (rk s f (k + 1)).1)) from rfl, h2.cc]
theorem l_onceSo (n : Nat) {m : Nat} (hm1 : 1 ≤ m) (hm2 : m ≤ 12) {h : DH} {s : Nat → Int32} {l : List (Nat → Int32)} (hs : PR h s l) : ∃ (h' : DH) (l' : List (Nat → Int32)), dEx (n + 7) 93 [.inr (6, 0, 0), .inl (nI m)] h (some (.inl 1), h') ∧ PR h' s l' := by
  let Q : DRes → Prop := fun r => ∃ (h' : DH) (l' : List (Nat → Int32)), r = (some (.inl 1), h') ∧ PR h' s l'
  obtain ⟨T, hq, hT, hT10⟩ := hs.1.T
  obtain ⟨f, hf⟩ : ∃ f : Nat → Int32, f = fun _ => 0 := ⟨_, rfl⟩
  have hqu := hq.set (w := 8) (by decide) (nI m)
  obtain ⟨su, hsu⟩ : ∃ su, su = upd s 8 (nI m) := ⟨_, rfl⟩
  have htv := bst_spec (fun m => tvv (upd s 8 (nI m)) f) 12
  have key : RunsK dT_93 (dEx (n + 6)) (dEnQ dT_93 Q) (0, [some (.inr (6, 0, 0)), some (.inl (nI m)), none, none, none, none, none, none, none, none, none], [], h) := by
    obtain ⟨h1, a1, P1⟩ := c_ifP0 n f hs hm1 hm2
    obtain ⟨h2, a2, P2⟩ := (c_ifP12 n f P1 hm1 hm2).1
    obtain ⟨h3, a3, P3⟩ := (c_ifP12 n f P2 hm1 hm2).2
    obtain ⟨h4, a4, P4⟩ := c_bestP n f P3
    refine RunsK.go 3 rfl trivial ?_
    refine RunsK.cal rfl a1 ?_
    refine RunsK.go 4 rfl trivial ?_
    refine RunsK.cal rfl a2 ?_
    refine RunsK.go 4 rfl trivial ?_
    refine RunsK.cal rfl a3 ?_
    refine RunsK.go 2 rfl trivial ?_
    refine RunsK.cal rfl a4 ?_
    refine RunsK.go 4 rfl trivial ?_
    rw [← hsu] at hqu ⊢
    have e120 : ∀ (b : Int32) (h5 : DH) (l5 : List (Nat → Int32)), PR h5 s l5 → RunsK dT_93 (dEx (n + 6)) (dEnQ dT_93 Q) (120, [some (.inr (6, 0, 0)), some (.inl (nI m)), some (.inl (oI (-5) (tvv su f))), some (.inl (ho su f 100)), some (.inl ((rk su f 100).1 15)), some (.inl b), none, none, none, none, none], [.inl 1], h5) := by
      intro b h5 l5 P5
      obtain ⟨c5, hc5⟩ := P5.sr
      refine RunsK.go 3 rfl trivial ?_
      refine RunsK.cal rfl (c_countP (n + 1) 0 h5 hc5 (by decide) (by decide)) ?_
      rw [show mco h5 s c5 0 = s 10 from rfl, hT10]
      refine RunsK.go 2 rfl trivial ?_
      by_cases z9 : nI T ≤ 99000
      · refine RunsK.ifT z9 ?_
        have hT9 : T ≤ 99000 := (nI_leI (by omega) (by decide)).mp z9
        refine RunsK.go 3 rfl trivial ?_
        obtain ⟨h6, b1, b2, b3, b4⟩ := c_setQ n P5 (w := 8) (by decide) (x := nI m) (wip_12 hm1 hm2)
        refine RunsK.cal rfl b1 ?_
        -- what the number is then, and the history
        obtain ⟨la, P6, hla⟩ : ∃ la, PR h6 su la ∧ ((s 8 = nI m ∧ su = s) ∨ (¬ s 8 = nI m ∧ ∃ l0, la = s :: l0 ∧ l0.length ≤ 3)) := by
          by_cases z : s 8 = nI m
          · have e : su = s := by
              rw [hsu]
              funext k
              unfold upd
              by_cases zk : k = 8
              · rw [if_pos zk, zk, z]
              · rw [if_neg zk]
            refine ⟨l5, ?_, Or.inl ⟨z, e⟩⟩
            rw [e]
            exact b2 z
          · refine ⟨_, ?_, Or.inr ⟨z, l5.take 3, rfl, List.length_take_le _ _⟩⟩
            rw [hsu]
            exact b3 z
        generalize hv7 : (if s 8 = nI m then (-5 : Int32) else s 8) = v7
        have t10 : ∀ k, (rk su f k).1 10 = nI (T + k) := fun k => by
          obtain ⟨c6, hc6⟩ := P6.sr
          rw [(pass_lo f hc6 k).2.1, hqu.1, nI_add]
        obtain ⟨c6, hc6⟩ := P6.sr
        have a500 : ∀ k, k ≤ 400 → ans (rk su f k).1 ≤ 500 := fun k hk => (rk_ans f hc6 hqu (k := k) (by omega)).2
        have e206 : ∀ (x8 : Option DV) (h7 : DH) (lz : List (Nat → Int32)), PR h7 su lz → ((s 8 = nI m ∧ su = s) ∨ (¬ s 8 = nI m ∧ ∃ l0, lz = s :: l0)) → RunsK dT_93 (dEx (n + 6)) (dEnQ dT_93 Q) (206, [some (.inr (6, 0, 0)), some (.inl (nI m)), some (.inl (oI (-5) (tvv su f))), some (.inl (ho su f 100)), some (.inl ((rk su f 100).1 15)), some (.inl b), some (.inl 1), some (.inl v7), x8, none, none], [], h7) := by
          intro x8 h7 lz P7 hlz
          obtain ⟨c7, hc7⟩ := P7.sr
          refine RunsK.go 2 rfl trivial ?_
          refine RunsK.cal rfl (c_countP (n + 1) 2 h7 hc7 (by decide) (by decide)) ?_
          rw [show mco h7 su c7 2 = su 11 from rfl]
          refine RunsK.go 3 rfl trivial ?_
          obtain ⟨h8, v1, v2⟩ := c_runQ n P7 f (t := 100) (by decide) (by decide) (by rw [hqu.1, nI_add]; exact nI_le (show T + 100 ≤ 99999 by omega) (by decide))
          refine RunsK.cal rfl v1 ?_
          obtain ⟨c8, hc8⟩ := v2.sr
          have p100 := a500 100 (by decide)
          have pk11 := rk_peak f hc7 hqu.2.2.2.2.2.2.2.2 100
          refine RunsK.go 3 rfl trivial ?_
          refine RunsK.ifF (by decide) ?_
          refine RunsK.go 2 rfl trivial ?_
          refine RunsK.cal rfl (c_countP (n + 1) 11 h8 hc8 (by decide) (by decide)) ?_
          rw [show mco h8 (rk su f 100).1 c8 11 = (rk su f 100).1 15 from rfl]
          refine RunsK.go 2 rfl trivial ?_
          refine RunsK.ifT rfl ?_
          refine RunsK.go 2 rfl trivial ?_
          refine RunsK.cal rfl (c_countP (n + 1) 2 h8 hc8 (by decide) (by decide)) ?_
          rw [show mco h8 (rk su f 100).1 c8 2 = (rk su f 100).1 11 from rfl, pk11]
          refine RunsK.go 2 rfl trivial ?_
          have e306 : ∀ (q : Nat) (h9 : DH) (l9 : List (Nat → Int32)), q ≤ 4 → PR h9 s l9 → RunsK dT_93 (dEx (n + 6)) (dEnQ dT_93 Q) (306, [some (.inr (6, 0, 0)), some (.inl (nI m)), some (.inl (oI (-5) (tvv su f))), some (.inl (ho su f 100)), some (.inl ((rk su f 100).1 15)), some (.inl b), some (.inl 1), some (.inl v7), some (.inl (su 11)), some (.inl (nI (ans (rk su f 100).1 - ans su))), some (.inl (nI q))], [], h9) := by
            intro q h9 l9 hq4 P9
            refine RunsK.go 2 rfl trivial ?_
            refine RunsK.ifF (nI_n0 (by omega)) ?_
            refine RunsK.go 2 rfl trivial ?_
            exact RunsK.fin rfl (Or.inr rfl) ⟨h9, l9, rfl, P9⟩
          have e270 : RunsK dT_93 (dEx (n + 6)) (dEnQ dT_93 Q) (270, [some (.inr (6, 0, 0)), some (.inl (nI m)), some (.inl (oI (-5) (tvv su f))), some (.inl (ho su f 100)), some (.inl ((rk su f 100).1 15)), some (.inl b), some (.inl 1), some (.inl v7), some (.inl (su 11)), some (.inl (nI (ans (rk su f 100).1 - ans su))), none], [], h8) := by
            refine RunsK.go 4 rfl trivial ?_
            obtain ⟨h9, u1, u2⟩ := c_undoP (n + 2) (show PR h8 (rk su f 100).1 (su :: lz.take 3) from v2)
            refine RunsK.cal rfl u1 ?_
            have hl3 : (lz.take 3).length ≤ 3 := List.length_take_le _ _
            refine RunsK.go 4 rfl trivial ?_
            rcases hlz with ⟨z, e⟩ | ⟨z, l0, rfl⟩
            · rw [if_pos z] at hv7
              refine RunsK.ifT hv7.symm ?_
              refine RunsK.go 5 rfl trivial ?_
              refine RunsK.ifF (by decide) ?_
              rw [e] at u2
              exact e306 _ h9 _ (by omega) u2
            · rw [if_neg z] at hv7
              refine RunsK.ifF (fun t => b4 (by rw [hv7, t]; decide)) ?_
              refine RunsK.go 1 rfl trivial ?_
              obtain ⟨h10, y1, y2⟩ := c_undoP (n + 2) (show PR h9 su (s :: l0.take 2) from u2)
              refine RunsK.cal rfl y1 ?_
              have hl2 : (l0.take 2).length ≤ 2 := List.length_take_le _ _
              refine RunsK.go 3 rfl trivial ?_
              refine RunsK.ifF (by decide) ?_
              exact e306 _ h10 _ (by omega) y2
          by_cases zs : mx (su 11) (ho su f 100) = su 11
          · refine RunsK.ifT zs ?_
            have nle : ¬ su 11 < ho su f 100 := fun t => by
              unfold mx at zs
              rw [if_pos t] at zs
              rw [zs] at t
              exact absurd t (Int32.not_lt.mpr (Int32.le_refl _))
            refine RunsK.go 3 rfl trivial ?_
            refine RunsK.ifF nle ?_
            refine RunsK.go 3 rfl trivial ?_
            refine RunsK.ifF (nI_n0 (by omega)) ?_
            exact e270
          · refine RunsK.ifF zs ?_
            have yle : mx (su 11) (ho su f 100) = ho su f 100 := by
              unfold mx at zs ⊢
              by_cases t : su 11 < ho su f 100
              · rw [if_pos t]
              · rw [if_neg t] at zs; exact absurd rfl zs
            refine RunsK.go 2 rfl trivial ?_
            refine RunsK.cal rfl (c_countP (n + 1) 2 h8 hc8 (by decide) (by decide)) ?_
            rw [show mco h8 (rk su f 100).1 c8 2 = (rk su f 100).1 11 from rfl, pk11]
            refine RunsK.go 2 rfl trivial ?_
            refine RunsK.ifT yle ?_
            refine RunsK.go 2 rfl trivial ?_
            refine RunsK.ifF (nI_n0 (by omega)) ?_
            exact e270
        have e206' : ∀ x8 : Option DV, RunsK dT_93 (dEx (n + 6)) (dEnQ dT_93 Q) (206, [some (.inr (6, 0, 0)), some (.inl (nI m)), some (.inl (oI (-5) (tvv su f))), some (.inl (ho su f 100)), some (.inl ((rk su f 100).1 15)), some (.inl b), some (.inl 1), some (.inl v7), x8, none, none], [], h6) := fun x8 => e206 x8 h6 la P6 (hla.imp id (fun ⟨q, l0, q2, _⟩ => ⟨q, l0, q2⟩))
        refine RunsK.go 4 rfl trivial ?_
        cases htm : tvv su f with
        | none =>
          have e := e206'
          rw [htm] at e
          refine RunsK.ifT (by decide) ?_
          exact e none
        | some t =>
          obtain ⟨t400, t2, t3⟩ := tvv_some htm
          have e := e206'
          have e2 := e206
          rw [htm] at e e2
          dsimp only [oI] at e e2 ⊢
          by_cases z0 : t = 0
          · subst z0
            refine RunsK.ifT (by decide) ?_
            exact e none
          · refine RunsK.ifF (nI_nlt (show 1 ≤ t by omega) (by omega)) ?_
            refine RunsK.go 3 rfl trivial ?_
            by_cases z200 : 200 < t
            · refine RunsK.ifT (nI_lt z200 (by omega)) ?_
              exact e none
            · refine RunsK.ifF (nI_nlt (show t ≤ 200 by omega) (by decide)) ?_
              refine RunsK.go 2 rfl trivial ?_
              refine RunsK.ifF (by decide) ?_
              refine RunsK.go 3 rfl trivial ?_
              by_cases z1 : t = 1
              · subst z1
                refine RunsK.ifT rfl ?_
                refine RunsK.go 6 rfl trivial ?_
                refine RunsK.ifT rfl ?_
                refine RunsK.go 3 rfl trivial ?_
                exact e _
              · have n1 : ¬ nI t = 1 := fun u => z1 (nI_inj (b := 1) (by omega) (by decide) u)
                refine RunsK.ifF n1 ?_
                refine RunsK.go 4 rfl trivial ?_
                rw [show nI t - 1 = nI (t - 1) from nIm1 (by omega)]
                obtain ⟨h7, v1, v2⟩ := c_runQ n P6 f (t := t - 1) (by omega) (by omega) (by rw [hqu.1, nI_add]; exact nI_le (show T + (t - 1) ≤ 99999 by omega) (by decide))
                refine RunsK.cal rfl v1 ?_
                have := a500 (t - 1) (by omega)
                obtain ⟨c7, hc7⟩ := v2.sr
                refine RunsK.go 1 rfl trivial ?_
                refine RunsK.ifF (nI_n0 (by omega)) ?_
                refine RunsK.go 2 rfl trivial ?_
                refine RunsK.cal rfl (c_countP (n + 1) 3 h7 hc7 (by decide) (by decide)) ?_
                rw [show mco h7 (rk su f (t - 1)).1 c7 3 = (rk su f (t - 1)).1 93 from rfl]
                refine RunsK.go 1 rfl trivial ?_
                refine RunsK.ifF (Int32.not_le.mpr (t3 (t - 1) (by omega))) ?_
                refine RunsK.go 6 rfl trivial ?_
                refine RunsK.ifF n1 ?_
                refine RunsK.go 1 rfl trivial ?_
                obtain ⟨h8, u1, u2⟩ := c_undoP (n + 2) (show PR h7 (rk su f (t - 1)).1 (su :: la.take 3) from v2)
                refine RunsK.cal rfl u1 ?_
                refine RunsK.go 1 rfl trivial ?_
                exact e2 _ h8 _ u2 (hla.imp id (fun ⟨q, l0, q2, _⟩ => ⟨q, l0.take 2, by rw [q2]; rfl⟩))
      · refine RunsK.ifF z9 ?_
        refine RunsK.go 1 rfl trivial ?_
        exact RunsK.fin rfl (Or.inr rfl) ⟨h5, l5, rfl, P5⟩
    obtain ⟨htv1, htv2⟩ := htv
    cases hb : bst (fun m => tvv (upd s 8 (nI m)) f) 12 with
    | none =>
      refine RunsK.ifT rfl ?_
      refine RunsK.go 3 rfl trivial ?_
      have := htv1 hb m hm1 hm2
      have this : tvv (upd s 8 (nI m)) f = none := this
      rw [← hsu] at this
      refine RunsK.ifT (by rw [this]; rfl) ?_
      refine RunsK.go 2 rfl trivial ?_
      exact e120 _ h4 l P4
    | some q =>
      obtain ⟨mb, t⟩ := q
      obtain ⟨x1, x2, x3, x4, x5⟩ := htv2 mb t hb
      have x3 : tvv (upd s 8 (nI mb)) f = some t := x3
      have x4 : ∀ m' t', 1 ≤ m' → m' ≤ 12 → tvv (upd s 8 (nI m')) f = some t' → t ≤ t' := x4
      have x5 : ∀ m' t', 1 ≤ m' → m' < mb → tvv (upd s 8 (nI m')) f = some t' → t < t' := x5
      have t400 : t ≤ 400 := (tvv_some x3).1
      rw [show bI (some (mb, t)) = nI mb from rfl]
      refine RunsK.ifF (nI_m5 (by omega)) ?_
      refine RunsK.go 3 rfl trivial ?_
      obtain ⟨h5, a5, P5⟩ := c_ifP0 n f P4 x1 x2
      rw [x3] at a5
      refine RunsK.cal rfl a5 ?_
      rw [show oI (-5) (some t) = nI t from rfl]
      refine RunsK.go 1 rfl trivial ?_
      refine RunsK.ifF (nI_n0 (by omega)) ?_
      refine RunsK.go 3 rfl trivial ?_
      have e115 : ∀ (h6 : DH), PR h6 s l → RunsK dT_93 (dEx (n + 6)) (dEnQ dT_93 Q) (115, [some (.inr (6, 0, 0)), some (.inl (nI m)), some (.inl (oI (-5) (tvv su f))), some (.inl (ho su f 100)), some (.inl ((rk su f 100).1 15)), some (.inl (nI mb)), none, none, none, none, none], [], h6) := by
        intro h6 P6
        refine RunsK.go 2 rfl trivial ?_
        exact e120 _ h6 l P6
      have e76 : ∀ (h6 : DH), PR h6 s l → RunsK dT_93 (dEx (n + 6)) (dEnQ dT_93 Q) (76, [some (.inr (6, 0, 0)), some (.inl (nI m)), some (.inl (oI (-5) (tvv su f))), some (.inl (ho su f 100)), some (.inl ((rk su f 100).1 15)), some (.inl (nI mb)), none, none, none, none, none], [], h6) := by
        intro h6 P6
        refine RunsK.go 3 rfl trivial ?_
        by_cases z1 : mb = 1
        · subst z1
          refine RunsK.ifT rfl ?_
          exact e115 h6 P6
        · refine RunsK.ifF (fun u => z1 (nI_inj (b := 1) (by omega) (by decide) u)) ?_
          refine RunsK.go 5 rfl trivial ?_
          rw [show nI mb - 1 = nI (mb - 1) from nIm1 (by omega)]
          obtain ⟨h7, a7, P7⟩ := c_ifP0 n f P6 (m := mb - 1) (by omega) (by omega)
          refine RunsK.cal rfl a7 ?_
          refine RunsK.go 2 rfl trivial ?_
          cases hp : tvv (upd s 8 (nI (mb - 1))) f with
          | none =>
            refine RunsK.ifT rfl ?_
            exact e115 h7 P7
          | some t' =>
            have t4' : t' ≤ 400 := (tvv_some hp).1
            have lt' := x5 (mb - 1) t' (by omega) (by omega) hp
            refine RunsK.ifF (nI_m5 (show t' < 2 ^ 31 by omega)) ?_
            refine RunsK.go 5 rfl trivial ?_
            rw [show nI mb - 1 = nI (mb - 1) from nIm1 (by omega)]
            obtain ⟨h8, a8, P8⟩ := c_ifP0 n f P7 (m := mb - 1) (by omega) (by omega)
            rw [hp] at a8
            refine RunsK.cal rfl a8 ?_
            refine RunsK.go 3 rfl trivial ?_
            obtain ⟨h9, a9, P9⟩ := c_ifP0 n f P8 x1 x2
            rw [x3] at a9
            refine RunsK.cal rfl a9 ?_
            refine RunsK.go 1 rfl trivial ?_
            refine RunsK.ifF (show ¬ nI t' ≤ nI t from nI_ge lt' (by omega)) ?_
            exact e115 h9 P9
      cases htm : tvv su f with
      | none =>
        rw [htm] at e76
        refine RunsK.ifT rfl ?_
        exact e76 h5 P5
      | some tm =>
        have tm4 : tm ≤ 400 := (tvv_some htm).1
        have le' := x4 m tm hm1 hm2 (by rw [← hsu]; exact htm)
        rw [htm] at e76
        refine RunsK.ifF (nI_m5 (show tm < 2 ^ 31 by omega)) ?_
        refine RunsK.go 3 rfl trivial ?_
        obtain ⟨h6, a6, P6⟩ := c_ifP0 n f P5 x1 x2
        rw [x3] at a6
        refine RunsK.cal rfl a6 ?_
        refine RunsK.go 2 rfl trivial ?_
        refine RunsK.ifF (show ¬ nI tm < nI t from nI_nlt le' (by omega)) ?_
        exact e76 h6 P6
  obtain ⟨r, ⟨h', l', rfl, hP⟩, hrun⟩ := key.ex
  exact ⟨h', l', dx_93 hrun, hP⟩
