/-! the acts, whole: what they answer, what the object is then -/
theorem YR.T {h : DH} {i : Nat} {s : Nat → Int32} (hs : YR h i s) : ∃ T, QI T s ∧ T ≤ 99999 ∧ s 10 = nI T := by
  obtain ⟨hx, T, hq⟩ := hs
  obtain ⟨t, t1, t2⟩ := hx.2.2.2.1
  have : t = T := nI_inj (by omega) (by have := hq.2.1; omega) (t2.symm.trans hq.1)
  exact ⟨T, hq, by omega, hq.1⟩
theorem n5_of_n0 {v : Int32} (h : ¬ v < 0) : ¬ v < -5 := fun t => h (Int32.lt_trans t (by decide))
def GA (n mid : Nat) (as : List DV) (h : DH) : Prop := ∃ (v : Int32) (h' : DH) (s' : Nat → Int32) (l' : List (Nat → Int32)), dEx n mid (.inr (6, 0, 0) :: as) h (some (.inl v), h') ∧ PR h' s' l' ∧ ¬ v < -5
theorem c_setQ (n : Nat) {h : DH} {s : Nat → Int32} {l : List (Nat → Int32)} (hs : PR h s l) {w : Nat} (hw : w < 10) {x : Int32} (hx : wip x (dcst 1 w) (dcst 2 w)) : ∃ h', dEx (n + 6) 0 [.inr (6, 0, 0), .inl (nI w), .inl x] h (some (.inl (if s w = x then -5 else s w)), h') ∧ (s w = x → PR h' s l) ∧ (¬ s w = x → PR h' (upd s w x) ((s :: l).take 4)) ∧ ¬ s w < 0 := by
  obtain ⟨c, g, hgg, hk, hne, ha, ha4, hg, hgx, hgc, g7⟩ := hs.go
  have hop := (c_setNumber (n + 3) 0 (nI w) x g).2 w hw rfl
  have e : g.1 (1, 0, 0) w = s w := hgc.1.1 w hw
  have n0 := hs.1.1.2.2.2.2.n0 hw
  rw [if_neg (by rw [wi_1 hx]; decide), e] at hop
  by_cases z2 : s w = x
  · rw [if_pos z2] at hop ⊢
    have := c_act_set n _ _ h ha ha4 hne hk (by rw [hgg]; exact hop) g7
    exact ⟨_, this, fun _ => hg.err (by decide), fun t => absurd z2 t, n0⟩
  · rw [if_neg z2] at hop ⊢
    have F : Fr 0 g (up1 g (1, 0, 0) w x) := (frx1 Fr.rf)
    obtain ⟨T, hq, -, -⟩ := hg.1.T
    have := c_act_set n _ _ h ha ha4 hne hk (by rw [hgg]; exact hop) (by rw [fr_7 F]; exact g7)
    exact ⟨_, this, fun t => absurd t z2, fun _ => hg.act hgx F ⟨hg.1.1.set hgc hw hx, T, hq.set hw x⟩ n0, n0⟩
theorem c_setP (n : Nat) {h : DH} {s : Nat → Int32} {l : List (Nat → Int32)} (hs : PR h s l) (y x : Int32) : GA (n + 6) 0 [.inl y, .inl x] h := by
  rcases wip_dec y 0 9 with hy | hy
  · obtain ⟨w, hw, rfl⟩ := wip_nI (n := 9) (by decide) hy
    have hw : w < 10 := by omega
    rcases wip_dec x (dcst 1 w) (dcst 2 w) with hx | hx
    · obtain ⟨h', h1, h2, h3, h4⟩ := c_setQ n hs hw hx
      by_cases z : s w = x
      · rw [if_pos z] at h1
        exact ⟨_, _, _, _, h1, h2 z, by decide⟩
      · rw [if_neg z] at h1
        exact ⟨_, _, _, _, h1, h3 z, n5_of_n0 h4⟩
    · obtain ⟨c, g, hgg, hk, hne, ha, ha4, hg, hgx, hgc, g7⟩ := hs.go
      have hop := (c_setNumber (n + 3) 0 (nI w) x g).2 w hw rfl
      rw [if_pos (wi_0 hx)] at hop
      exact ⟨_, _, _, _, c_act_set n _ _ h ha ha4 hne hk (by rw [hgg]; exact hop) g7, hg.err (by decide), by decide⟩
  · obtain ⟨c, g, hgg, hk, hne, ha, ha4, hg, hgx, hgc, g7⟩ := hs.go
    have hop := (c_setNumber (n + 3) 0 y x g).1 hy
    exact ⟨_, _, _, _, c_act_set n _ _ h ha ha4 hne hk (by rw [hgg]; exact hop) g7, hg.err (by decide), by decide⟩
theorem c_readP (n : Nat) {h : DH} {s : Nat → Int32} {l : List (Nat → Int32)} (hs : PR h s l) (y x : Int32) : GA (n + 6) 9 [.inl y, .inl x] h := by
  obtain ⟨c, g, hgg, hk, hne, ha, ha4, hg, hgx, hgc, g7⟩ := hs.go
  have h30 := hgc.2.2.1
  rcases wip_dec y 0 11 with hy | hy
  · obtain ⟨d, hd, rfl⟩ := wip_nI (n := 11) (by decide) hy
    have hd : d < 12 := by omega
    have hop := (c_addRead (n + 2) 0 (nI d) x g hgc.2.1 h30).2 d hd rfl
    have e : g.1 (4, 0, d) 0 = s (oD d 0) := hgc.1.2.2 d hd 0 (by decide)
    have e4 : g.1 (0, 0, 0) 4 = s 12 := hgc.1.2.1 4 (by decide) (by decide)
    obtain ⟨q, q1, q2⟩ := hg.1.1.2.2.1
    by_cases z1 : wi x 1 50 = 0
    · rw [if_pos z1] at hop
      exact ⟨_, _, _, _, c_act_read n _ _ h ha ha4 hne hk (by rw [hgg]; exact hop) g7, hg.err (by decide), by decide⟩
    · rw [if_neg z1, e] at hop
      by_cases z2 : s (oD d 0) = 3
      · rw [if_pos z2] at hop
        exact ⟨_, _, _, _, c_act_read n _ _ h ha ha4 hne hk (by rw [hgg]; exact hop) g7, hg.err (by decide), by decide⟩
      · rw [if_neg z2, e4] at hop
        by_cases z3 : c = 30 ∨ 500 ≤ s 12
        · rw [if_pos z3] at hop
          exact ⟨_, _, _, _, c_act_read n _ _ h ha ha4 hne hk (by rw [hgg]; exact hop) g7, hg.err (by decide), by decide⟩
        · rw [if_neg z3] at hop
          have F : Fr 0 g (caddH g 0 c d x) := (frx4 (frx0 (frx0 (frx5 (frx5 (frx5 (frx5 (frx5 Fr.rf))))))))
          have hx : wip x 1 50 := by
            rcases wip_dec x 1 50 with t | t
            · exact t
            · exact absurd (wi_0 t) z1
          have q5 : q < 500 := by
            refine Decidable.byContradiction fun t => z3 (Or.inr ?_)
            rw [q2]
            exact nI_le (show 500 ≤ q by omega) (by omega)
          have n0 : ¬ s 12 < 0 := by rw [q2]; exact nI_n0 (by omega)
          obtain ⟨T, hq, -, -⟩ := hg.1.T
          have h500 : ¬ s 12 = 500 := fun t => z3 (Or.inr (by rw [t]; exact Int32.le_refl _))
          have hc30 : c < 30 := by have : c ≠ 30 := fun t => z3 (Or.inl t); omega
          exact ⟨_, _, _, _, c_act_read n _ _ h ha ha4 hne hk (by rw [hgg]; exact hop) (by rw [fr_7 F]; exact g7), hg.act hgx F ⟨hg.1.1.read hgc hd hc30 hx z2 h500, T, hq.read hgc.2.2.2.1 hc30 hd ⟨q, q5, q2⟩⟩ n0, n5_of_n0 n0⟩
  · have hop := (c_addRead (n + 2) 0 y x g hgc.2.1 h30).1 hy
    exact ⟨_, _, _, _, c_act_read n _ _ h ha ha4 hne hk (by rw [hgg]; exact hop) g7, hg.err (by decide), by decide⟩
theorem c_dropP (n : Nat) {h : DH} {s : Nat → Int32} {l : List (Nat → Int32)} (hs : PR h s l) (y : Int32) : GA (n + 6) 12 [.inl y] h := by
  obtain ⟨c, g, hgg, hk, hne, ha, ha4, hg, hgx, hgc, g7⟩ := hs.go
  have h30 := hgc.2.2.1
  have hop := c_dropRead (n + 3) 0 y g hgc.2.1 h30 hgc.rok
  rw [hgc.plc y] at hop
  cases hp : mplc s c y with
  | none =>
    rw [hp] at hop
    exact ⟨_, _, _, _, c_act_drop n _ h ha ha4 hne hk (by rw [hgg]; exact hop) g7, hg.err (by decide), by decide⟩
  | some p =>
    rw [hp] at hop
    dsimp only at hop
    have hpc := (fp_some hp).1
    have F : Fr 0 g (drpH g 0 c p) := Fr_drp
    rw [(drop_SR hgc hpc).1] at hop
    obtain ⟨T, hq, -, -⟩ := hg.1.T
    have n0 : ¬ nI (c - 1) < 0 := nI_n0 (by omega)
    exact ⟨_, _, _, _, c_act_drop n _ h ha ha4 hne hk (by rw [hgg]; exact hop) (by rw [fr_7 F]; exact g7), hg.act hgx F ⟨hg.1.1.drop hgc hpc, T, hq.drop hgc.2.2.2.1 h30 hpc⟩ n0, n5_of_n0 n0⟩
theorem c_failP (n : Nat) {h : DH} {s : Nat → Int32} {l : List (Nat → Int32)} (hs : PR h s l) (y : Int32) : GA (n + 6) 16 [.inl y] h := by
  obtain ⟨c, g, hgg, hk, hne, ha, ha4, hg, hgx, hgc, g7⟩ := hs.go
  rcases wip_dec y 0 11 with hy | hy
  · obtain ⟨d, hd, rfl⟩ := wip_nI (n := 11) (by decide) hy
    have hd : d < 12 := by omega
    have hop := (c_planFault (n + 2) 0 (nI d) g).2 d hd rfl
    by_cases z1 : g.1 (4, 0, d) 0 = 3
    · rw [if_pos z1] at hop
      exact ⟨_, _, _, _, c_act_fail n _ h ha ha4 hne hk (by rw [hgg]; exact hop) g7, hg.err (by decide), by decide⟩
    · rw [if_neg z1] at hop
      by_cases z2 : g.1 (4, 0, d) 5 = 0
      · rw [if_pos z2] at hop
        have F : Fr 0 g (up1 g (4, 0, d) 5 1) := (frx4 Fr.rf)
        obtain ⟨f1, f2⟩ := fail_SR hgc hd
        rw [f2] at hop
        have n0 := mpl_n0 f1.2.2.2.2.2.2.2.2.2.1
        obtain ⟨T, hq, -, -⟩ := hg.1.T
        exact ⟨_, _, _, _, c_act_fail n _ h ha ha4 hne hk (by rw [hgg]; exact hop) (by rw [fr_7 F]; exact g7), hg.act hgx F ⟨hg.1.1.plan hgc hd, T, hq.plan hd⟩ n0, n5_of_n0 n0⟩
      · rw [if_neg z2] at hop
        exact ⟨_, _, _, _, c_act_fail n _ h ha ha4 hne hk (by rw [hgg]; exact hop) g7, hg.err (by decide), by decide⟩
  · have hop := (c_planFault (n + 2) 0 y g).1 hy
    exact ⟨_, _, _, _, c_act_fail n _ h ha ha4 hne hk (by rw [hgg]; exact hop) g7, hg.err (by decide), by decide⟩
theorem c_repP (n : Nat) {h : DH} {s : Nat → Int32} {l : List (Nat → Int32)} (hs : PR h s l) (y : Int32) : GA (n + 6) 19 [.inl y] h := by
  obtain ⟨c, g, hgg, hk, hne, ha, ha4, hg, hgx, hgc, g7⟩ := hs.go
  have h30 := hgc.2.2.1
  rcases wip_dec y 0 11 with hy | hy
  · obtain ⟨d, hd, rfl⟩ := wip_nI (n := 11) (by decide) hy
    have hd : d < 12 := by omega
    have hop := (c_replaceDisk (n + 2) 0 (nI d) g hgc.2.1 h30).2 d hd rfl
    have e : g.1 (4, 0, d) 0 = s (oD d 0) := hgc.1.2.2 d hd 0 (by decide)
    rw [e] at hop
    have F : Fr 0 g (crp g 0 d c) := Fr_crp c
    obtain ⟨v, v1, v2⟩ := (hgc.2.2.2.2.2.2.2.2.2.1 d hd).1
    have n0 : ¬ s (oD d 0) < 0 := by rw [v2]; exact nI_n0 (by omega)
    obtain ⟨T, hq, -, -⟩ := hg.1.T
    exact ⟨_, _, _, _, c_act_replace n _ h ha ha4 hne hk (by rw [hgg]; exact hop) (by rw [fr_7 F]; exact g7), hg.act hgx F ⟨hg.1.1.rep hgc hd, T, hq.rep hgc.2.2.2.1 h30 hd⟩ n0, n5_of_n0 n0⟩
  · have hop := (c_replaceDisk (n + 2) 0 y g hgc.2.1 h30).1 hy
    exact ⟨_, _, _, _, c_act_replace n _ h ha ha4 hne hk (by rw [hgg]; exact hop) g7, hg.err (by decide), by decide⟩
theorem c_fuseP (n : Nat) {h : DH} {s : Nat → Int32} {l : List (Nat → Int32)} (hs : PR h s l) : GA (n + 6) 23 [] h := by
  obtain ⟨c, g, hgg, hk, hne, ha, ha4, hg, hgx, hgc, g7⟩ := hs.go
  have hop := c_renewFuse (n + 2) 0 g
  have e : g.1 (0, 0, 0) 10 = s 15 := hgc.1.2.1 10 (by decide) (by decide)
  rw [e] at hop
  by_cases z1 : s 15 = 0
  · rw [if_pos z1] at hop
    exact ⟨_, _, _, _, c_act_fuse n h ha ha4 hne hk (by rw [hgg]; exact hop) g7, hg.err (by decide), by decide⟩
  · rw [if_neg z1] at hop
    have F : Fr 0 g (up1 g (0, 0, 0) 10 0) := (frx0 Fr.rf)
    have f1 := (fuse_new hgc hg.1.1.2.1 z1).1
    rw [sumcur f1] at hop
    have xf := hg.1.1.fuse hgc z1
    obtain ⟨k, k1, k2⟩ := mcurN_le xf.2.2.2.2 c
    have n0 : ¬ mcurN (nf s) c < 0 := by rw [k2]; exact nI_n0 (by omega)
    obtain ⟨T, hq, -, -⟩ := hg.1.T
    exact ⟨_, _, _, _, c_act_fuse n h ha ha4 hne hk (by rw [hgg]; exact hop) (by rw [fr_7 F]; exact g7), hg.act hgx F ⟨xf, T, hq.fuse⟩ n0, n5_of_n0 n0⟩
theorem c_runQ (n : Nat) {h : DH} {s : Nat → Int32} {l : List (Nat → Int32)} (hs : PR h s l) (f : Nat → Int32) {t : Nat} (ht1 : 1 ≤ t) (ht2 : t ≤ 200) (hT : s 10 + nI t ≤ 99999) : ∃ h', dEx (n + 6) 27 [.inr (6, 0, 0), .inl (nI t)] h (some (.inl (nI (ans (rk s f t).1 - ans s))), h') ∧ PR h' (rk s f t).1 ((s :: l).take 4) := by
  obtain ⟨c, g, hgg, hk, hne, ha, ha4, hg, hgx, hgc, g7⟩ := hs.go
  have hy : wip (nI t) 1 200 := ⟨nI_nlt ht1 (by omega), nI_nlt ht2 (by decide)⟩
  have hop := c_pass1 n 0 t (by omega) g hy (fun _ k _ => pass_ok f hgc k)
  have e8 : g.1 (0, 0, 0) 8 = s 10 := hgc.1.2.1 8 (by decide) (by decide)
  rw [e8, if_pos hT] at hop
  have F : Fr 0 g (pk g 0 t) := (Ft.rf.xpk t).fr
  obtain ⟨p1, p2⟩ := pass_n0 f hgc (show t ≤ 400 by omega)
  obtain ⟨T, hq, hT9, -⟩ := hg.1.T
  rw [p1, (rk_ans f hgc hq (k := t) (by omega)).1] at hop
  rw [(rk_ans f hgc hq (k := t) (by omega)).1] at p2
  exact ⟨_, c_act_run n _ h ha ha4 hne hk (by rw [hgg]; exact hop) (by rw [fr_7 F]; exact g7), hg.act hgx F ⟨hg.1.1.pass f hgc (by omega) hT, T + t, rk_Q f hgc hq t (by omega)⟩ p2⟩
theorem c_runP (n : Nat) {h : DH} {s : Nat → Int32} {l : List (Nat → Int32)} (hs : PR h s l) (y : Int32) : GA (n + 6) 27 [.inl y] h := by
  rcases wip_dec y 1 200 with hy | hy
  · obtain ⟨t, ht1, ht2, rfl⟩ := wip_nI2 (a := 1) (b := 200) (by decide) (by decide) hy
    by_cases z1 : s 10 + nI t ≤ 99999
    · obtain ⟨h', h1, h2⟩ := c_runQ n hs (fun _ => 0) ht1 ht2 z1
      have b : ans (rk s (fun _ => 0) t).1 ≤ 500 := by
        obtain ⟨T, hq, -, -⟩ := h2.1.T
        exact hq.a.2
      exact ⟨_, _, _, _, h1, h2, n5_of_n0 (nI_n0 (by omega))⟩
    · obtain ⟨c, g, hgg, hk, hne, ha, ha4, hg, hgx, hgc, g7⟩ := hs.go
      have hop := c_pass1 n 0 t (by omega) g hy (fun _ k _ => pass_ok (fun _ => 0) hgc k)
      have e8 : g.1 (0, 0, 0) 8 = s 10 := hgc.1.2.1 8 (by decide) (by decide)
      rw [e8, if_neg z1] at hop
      exact ⟨_, _, _, _, c_act_run n _ h ha ha4 hne hk (by rw [hgg]; exact hop) g7, hg.err (by decide), by decide⟩
  · obtain ⟨c, g, hgg, hk, hne, ha, ha4, hg, hgx, hgc, g7⟩ := hs.go
    have hop := c_pass0 n 0 y g hy
    exact ⟨_, _, _, _, c_act_run n _ h ha ha4 hne hk (by rw [hgg]; exact hop) g7, hg.err (by decide), by decide⟩
