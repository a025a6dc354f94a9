/-! starts: one disk -/
theorem RB.close {g : DH} {i d c : Nat} {s : Nat → Int32} (hr : RB g i s) {v : Int32} (hv : (close g i d c).1 (0, i, 0) 6 = v) : RB (close g i d c) i (upd s 14 v) := by
  refine (hr.sc (show 4 ≤ 6 by decide) (by decide) v).cg ?_ (fun k h1 h2 => ?_) (fun e _ f hf => ?_) (fun _ _ => rfl)
  · funext j
    rw [close_o _ (by simp) j (by simp), up1_ne _ _ _ (by simp)]
  · by_cases z : k = 6
    · rw [z, hv, up1_1, if_pos ⟨rfl, rfl⟩]
    · rw [close_o _ (by simp) k (by simp [z]), up1_1, if_neg (fun t => z t.2)]
  · rw [close_o _ (by simp) f (by simp), up1_ne _ _ _ (by simp)]
theorem fail_val (s : Nat → Int32) (d : Nat) (hd : d < 12) (x y z : Int32) : ∃ s', mSb (upd (upd (upd (upd s (oD d 1) x) (oD d 4) 0) (oD d 2) z) 19 y) d = s' ∧ s' (oD d 0) = 0 ∧ s' (oD d 1) = 0 ∧ s' (oD d 2) = z ∧ s' (oD d 3) = 0 ∧ s' (oD d 4) = 0 ∧ (∀ e, e ≠ d → ∀ w, w < 6 → s' (oD e w) = s (oD e w)) ∧ (∀ k, k < 19 → s' k = s k) ∧ s' 93 = s 93 ∧ (∀ c, LM s' c = LM s c) := by
  refine ⟨_, rfl, ?_, ?_, ?_, ?_, ?_, fun e he w hw => ?_, fun k hk => ?_, ?_, fun c => ?_⟩
  all_goals unfold mSb
  · rw [upd_n _ _ (by unfold oD; omega), upd_n _ _ (by unfold oD; omega), upd_s]
  · rw [upd_n _ _ (by unfold oD; omega), upd_s]
  · rw [upd_n _ _ (by unfold oD; omega), upd_n _ _ (by unfold oD; omega), upd_n _ _ (by unfold oD; omega), upd_n _ _ (by unfold oD; omega), upd_s]
  · rw [upd_s]
  · rw [upd_n _ _ (by unfold oD; omega), upd_n _ _ (by unfold oD; omega), upd_n _ _ (by unfold oD; omega), upd_n _ _ (by unfold oD; omega), upd_n _ _ (by unfold oD; omega), upd_s]
  · rw [upd_n _ _ (by unfold oD; omega), upd_n _ _ (by unfold oD; omega), upd_n _ _ (by unfold oD; omega), upd_n _ _ (by unfold oD; omega), upd_n _ _ (by unfold oD; omega), upd_n _ _ (by unfold oD; omega), upd_n _ _ (by unfold oD; omega)]
  · rw [upd_n _ _ (by unfold oD; omega), upd_n _ _ (by unfold oD; omega), upd_n _ _ (by unfold oD; omega), upd_n _ _ (by omega), upd_n _ _ (by unfold oD; omega), upd_n _ _ (by unfold oD; omega), upd_n _ _ (by unfold oD; omega)]
  · rw [upd_n _ _ (by unfold oD; omega), upd_n _ _ (by unfold oD; omega), upd_n _ _ (by unfold oD; omega), upd_n _ _ (by omega), upd_n _ _ (by unfold oD; omega), upd_n _ _ (by unfold oD; omega), upd_n _ _ (by unfold oD; omega)]
  · rw [LM_lo (by unfold oD; omega), LM_lo (by unfold oD; omega), LM_lo (by unfold oD; omega), LM_lo (by omega), LM_lo (by unfold oD; omega), LM_lo (by unfold oD; omega), LM_lo (by unfold oD; omega)]
theorem upd_f (f : Nat → Int32) (d : Nat) (v : Int32) : ∀ e, e ≠ d → upd f d v e = f e := fun _ h => upd_n _ _ h
theorem em_ne (x y : Int32) : x = y ∨ x ≠ y := (Decidable.em (x = y))
/-- where neither the reads nor the row of another disk change -/
theorem RG_one {h : DH} {i c d : Nat} {s s' f f' : Nat → Int32} {g g' : DH} {b b' : Int32} {s1 : Nat → Int32} (hd : d < 12) (hg : RG h i c s1 d (g, b) (s, f))
    (r : RB g' i s') (e3 : g'.1 (0, i, 0) 3 = g.1 (0, i, 0) 3) (e2 : g'.2 = g.2) (e93 : s' 93 = s 93) (elm : ∀ c, LM s' c = LM s c) (elc : LC g' i c = LC g i c)
    (em : ∀ e, e < 12 → (b' &&& bitOf (nI e) = 0 ↔ (e < d + 1 → f' e = 0)))
    (e6 : ∀ e, e < 12 → g'.1 (4, i, e) 6 = g.1 (4, i, e) 6) (eD : DInv s' d) (eo : ∀ e, e ≠ d → ∀ w, w < 6 → s' (oD e w) = s (oD e w))
    (ed : (s' (oD d 0) ≠ 3 ∨ s (oD d 0) = 3) ∧ (s' (oD d 0) ≠ 2 → s (oD d 0) ≠ 2)) (ek : ∀ k, k < 19 → s' k = s k) : RG h i c s1 (d + 1) (g', b') (s', f') := by
  obtain ⟨h1, h2, h3, h4, h5, h6, h7, h8, h9, h10, h11, h12⟩ := hg
  dsimp only at h1 h2 h3 h4 h5 h6 h7 h8 h9 h10 h11 h12
  have ecc : cc s' = cc s := cc_cg e93
  refine ⟨r, e3.trans h2, e2.trans h3, h4.of e93, ?_, em, fun q hq hl => ?_, ?_, fun e he => (e6 e he).trans (h9 e he), fun e he => ?_, fun q hq => ?_, fun k hk hk14 => (ek k hk).trans (h12 k hk hk14)⟩
  · dsimp only
    rw [ecc, elm, elc, h5]
  · dsimp only at hq ⊢
    rw [elc] at hq
    obtain ⟨e, q1, q2, q3⟩ := h7 q hq hl
    exact ⟨e, by omega, q2, by rw [eo e (by omega) 0 (by decide), q3]⟩
  · dsimp only
    rw [elc, h8]
  · by_cases z : e = d
    · rw [z]; exact eD
    · exact (h10 e he).cg (eo e z)
  · dsimp only at hq ⊢
    rw [ecc, elm] at hq
    refine (h11 q hq).cg (fun e he _ => ?_)
    by_cases z : e = d
    · rw [z]; exact ed
    · rw [eo e z 0 (by decide)]
      exact ⟨(em_ne _ 3).symm, id⟩
/-- the end of a start -/
theorem RG_end {h : DH} {i c d : Nat} {s1 : Nat → Int32} {g : DH} {b : Int32} {s f : Nat → Int32} (hd : d < 12) (hc : c ≤ 30) (hp : pmi h i) (hg : RG h i c s1 d (g, b) (s, f)) (z : s (oD d 0) = 1) {x : Int32} (hx : x = 0) (hm : ∀ e, e < 12 → (b &&& bitOf (nI e) = 0 ↔ (e < d + 1 → upd f d 0 e = 0))) : RG h i c s1 (d + 1) (if s (oD d 4) = 0 then (up1 (up1 (up1 (up1 g (4, i, d) 1 x) (4, i, d) 0 2) (4, i, d) 2 0) (4, i, d) 3 0, b) else (if (failH (up1 (up1 g (4, i, d) 1 x) (0, i, 0) 14 (g.1 (0, i, 0) 14 + 1)) (4, i, d)).1 (4, i, d) 0 = 3 then close (failH (up1 (up1 g (4, i, d) 1 x) (0, i, 0) 14 (g.1 (0, i, 0) 14 + 1)) (4, i, d)) i d c else failH (up1 (up1 g (4, i, d) 1 x) (0, i, 0) 14 (g.1 (0, i, 0) 14 + 1)) (4, i, d), b ||| bitOf (nI d))) (endM d (upd s (oD d 1) x, upd f d 0)) := by
  have hg' := hg
  obtain ⟨h1, h2, h3, h4, h5, h6, h7, h8, h9, h10, h11, h12⟩ := hg'
  dsimp only at h1 h2 h3 h4 h5 h6 h7 h8 h9 h10 h11 h12
  obtain ⟨⟨v0, v0l, v0e⟩, d1, d2, d3, d4, d5⟩ := h10 d hd
  obtain ⟨q, q2, qe⟩ := d4 (by rw [z]; decide)
  have r2 := h1.2.2 d hd 2 (by decide)
  rw [show mf 2 = 2 from rfl] at r2
  have r14 := h1.2.1 14 (by decide) (by decide)
  rw [show ms 14 = 19 from rfl] at r14
  unfold endM
  dsimp only
  have ea : upd s (oD d 1) x (oD d 4) = s (oD d 4) := upd_n _ _ (by unfold oD; omega)
  by_cases zp : s (oD d 4) = 0
  · rw [if_pos zp, if_pos (ea.trans zp)]
    have rb := (((h1.dk hd (show 1 < 6 by decide) x).dk hd (show 0 < 6 by decide) 2).dk hd (show 2 < 6 by decide) 0).dk hd (show 3 < 6 by decide) 0
    rw [show mf 0 = 0 from rfl, show mf 1 = 1 from rfl, show mf 2 = 2 from rfl, show mf 3 = 3 from rfl] at rb
    refine RG_one hd hg rb (by rw [up1_ne _ _ _ (by simp), up1_ne _ _ _ (by simp), up1_ne _ _ _ (by simp), up1_ne _ _ _ (by simp)]) rfl ?_ (fun c => ?_) ?_ hm (fun e he => ?_) ?_ (fun e he w hw => ?_) ?_ (fun k hk => ?_)
    · rw [upd_n _ _ (by unfold oD; omega), upd_n _ _ (by unfold oD; omega), upd_n _ _ (by unfold oD; omega), upd_n _ _ (by unfold oD; omega)]
    · rw [LM_oD hd (by decide), LM_oD hd (by decide), LM_oD hd (by decide), LM_oD hd (by decide)]
    · rw [LC_40, LC_40, LC_40, LC_40]
    · simp [up1_1]
    · have w0 : upd (upd (upd (upd s (oD d 1) x) (oD d 0) 2) (oD d 2) 0) (oD d 3) 0 (oD d 0) = 2 := by
        rw [upd_n _ _ (by unfold oD; omega), upd_n _ _ (by unfold oD; omega), upd_s]
      refine ⟨⟨2, by decide, w0⟩, fun t => absurd (w0.symm.trans t) (by decide), fun _ => ?_, fun t => absurd w0 t, fun t => ⟨0, by decide, ?_⟩, ?_⟩
      · rw [upd_n _ _ (by unfold oD; omega), upd_n _ _ (by unfold oD; omega), upd_n _ _ (by unfold oD; omega), upd_s, hx]
      · rw [upd_n _ _ (by unfold oD; omega), upd_s]
        rfl
      · rw [upd_n _ _ (by unfold oD; omega), upd_n _ _ (by unfold oD; omega), upd_n _ _ (by unfold oD; omega), upd_n _ _ (by unfold oD; omega)]
        exact d5
    · rw [upd_n _ _ (by unfold oD; omega), upd_n _ _ (by unfold oD; omega), upd_n _ _ (by unfold oD; omega), upd_n _ _ (by unfold oD; omega)]
    · have w0 : upd (upd (upd (upd s (oD d 1) x) (oD d 0) 2) (oD d 2) 0) (oD d 3) 0 (oD d 0) = 2 := by
        rw [upd_n _ _ (by unfold oD; omega), upd_n _ _ (by unfold oD; omega), upd_s]
      rw [w0]
      exact ⟨Or.inl (by decide), fun t => absurd rfl t⟩
    · rw [upd_n _ _ (by unfold oD; omega), upd_n _ _ (by unfold oD; omega), upd_n _ _ (by unfold oD; omega), upd_n _ _ (by unfold oD; omega)]
  · rw [if_neg zp, if_neg (fun t => zp (ea.symm.trans t))]
    have ga : (up1 (up1 g (4, i, d) 1 x) (0, i, 0) 14 (g.1 (0, i, 0) 14 + 1)).1 (4, i, d) 2 = nI q := by
      rw [up1_ne _ _ _ (by simp), up1_1, if_neg (by simp), r2, qe]
    have a2 : upd s (oD d 1) x (oD d 2) + 1 = nI (q + 1) := by rw [upd_n _ _ (by unfold oD; omega), qe, nI_1]
    have a19 : upd s (oD d 1) x 19 + 1 = g.1 (0, i, 0) 14 + 1 := by rw [upd_n _ _ (by unfold oD; omega), r14]
    have rb := h1.fail hd x (g.1 (0, i, 0) 14 + 1) (nI (q + 1))
    rw [a2, a19, failH_eq q2 ga]
    obtain ⟨s', es, k0, k1, k2, k3, k4, ko, kk, k93, klm⟩ := fail_val s d hd x (g.1 (0, i, 0) 14 + 1) (nI (q + 1))
    rw [es] at rb ⊢
    rw [k2]
    have f1 : upd (upd f d 0) d 1 d ≠ 0 := by rw [upd_s]; decide
    have m1 := mask_put hd h6 (f' := upd (upd f d 0) d 1) (fun e he => by rw [upd_n _ _ he, upd_n _ _ he]) f1
    generalize hG : up1 (up1 (sbH (up1 (up1 g (4, i, d) 1 x) (0, i, 0) 14 (g.1 (0, i, 0) 14 + 1)) (4, i, d)) (4, i, d) 5 0) (4, i, d) 2 (nI (q + 1)) = G at rb ⊢
    have G3 : G.1 (0, i, 0) 3 = g.1 (0, i, 0) 3 := by rw [← hG]; simp [up1_1, sbH]
    have G2 : G.2 = g.2 := by rw [← hG]; rfl
    have GL : LC G i c = LC g i c := by
      rw [← hG, LC_40, LC_40]
      unfold sbH
      rw [LC_40, LC_40, LC_40, LC_00, LC_40]
    have G6 : ∀ e, e < 12 → G.1 (4, i, e) 6 = g.1 (4, i, e) 6 := by
      intro e _
      rw [← hG]
      simp [up1_1, sbH]
    have G0 : G.1 (4, i, d) 0 = 0 := by
      rw [← hG]
      simp [up1_1, sbH]
    by_cases zq : q = 2
    · rw [if_pos zq, if_pos (show nI (q + 1) = 3 by rw [zq]; rfl)]
      have rb2 := rb.dk hd (show 0 < 6 by decide) 3
      rw [show mf 0 = 0 from rfl] at rb2
      have g0 : (up1 G (4, i, d) 0 3).1 (4, i, d) 0 = 3 := by simp [up1_1]
      rw [if_pos g0]
      have L2 : LC (up1 G (4, i, d) 0 3) i c = LC g i c := (LC_40 _).trans GL
      have P2 : pmi (up1 G (4, i, d) 0 3) i := by
        intro a b' ha hb hab
        refine hp a b' ha hb ?_
        rw [show (up1 G (4, i, d) 0 3).2 = h.2 from G2.trans h3] at hab
        exact hab
      have w0 : upd s' (oD d 0) 3 (oD d 0) = 3 := upd_s _ _ _
      have wo : ∀ e, e ≠ d → ∀ w, w < 6 → upd s' (oD d 0) 3 (oD e w) = s (oD e w) := fun e he w hw => by rw [upd_n _ _ (by unfold oD; omega), ko e he w hw]
      have w1 : ∀ w, w < 6 → w ≠ 0 → upd s' (oD d 0) 3 (oD d w) = s' (oD d w) := fun w hw hw0 => by rw [upd_n _ _ (by unfold oD; omega)]
      have wk : ∀ k, k < 19 → upd s' (oD d 0) 3 k = s k := fun k hk => by rw [upd_n _ _ (by unfold oD; omega), kk k hk]
      have w93 : upd s' (oD d 0) 3 93 = s 93 := by rw [upd_n _ _ (by unfold oD; omega), k93]
      have wl : LM (upd s' (oD d 0) 3) (cc (upd s' (oD d 0) 3)) = live (LC g i c) := by
        rw [cc_cg w93, LM_oD hd (by decide), klm, h5]
      generalize upd s' (oD d 0) 3 = t at rb2 w0 wo w1 wk w93 wl ⊢
      have q3 : (up1 G (4, i, d) 0 3).1 (0, i, 0) 3 = nI c := by rw [up1_ne _ _ _ (by simp), G3, h2]
      have q2' : (up1 G (4, i, d) 0 3).2 = h.2 := G2.trans h3
      have q6 : ∀ e, e < 12 → (up1 G (4, i, d) 0 3).1 (4, i, e) 6 = h.1 (4, i, e) 6 := fun e he => by
        rw [up1_1, if_neg (fun t => absurd t.2 (by decide)), G6 e he, h9 e he]
      generalize up1 G (4, i, d) 0 3 = G' at rb2 g0 L2 P2 q3 q2' q6 ⊢
      have k93' : okC t := h4.of w93
      obtain ⟨b1, b2, b3⟩ := brkN_LM d 30 t k93' k93'.cc.2
      rw [wl] at b1 b2
      have al : ∀ r ∈ LC g i c, dk5 r = nI d → 0 < lf r := by
        intro r hr hd'
        refine Decidable.byContradiction fun hl => ?_
        obtain ⟨e, e1, e2, _⟩ := h7 r hr hl
        have := nI_inj (by omega) (by omega) (hd'.symm.trans e2)
        omega
      rw [cnt_live _ al] at b2
      have c6 := (close_rd (d := d) P2 c hc).2
      have cL := close_LC (d := d) P2 hc
      rw [L2] at c6 cL
      have c14 := rb2.2.1 6 (by decide) (by decide)
      rw [show ms 6 = 14 from rfl] at c14
      have rb3 := rb2.close (d := d) (c := c) (c6.trans (by rw [c14, ← b2]))
      have lv : live (LC (close G' i d c) i c) = LM (brkN d 30 t) (cc (brkN d 30 t)) := by rw [cL, live_mark, b1]
      refine ⟨rb3.m (fun k hk => ?_), (close_3 _ _ _ _).trans q3, (close_2 _ _ _ _).trans q2', brkN_ok d 30 t k93', lv.symm, m1, fun r hr hl => ?_, ?_, fun e he => ?_, fun e he => ?_, fun r hr => ?_, fun k hk hk14 => ?_⟩
      · by_cases zk : k = 14
        · rw [zk, upd_s]
        · rw [upd_n _ _ zk]
          exact b3 k hk zk
      · dsimp only at hr ⊢
        rw [cL] at hr
        obtain ⟨r0, hr0, rfl⟩ := List.mem_map.mp hr
        by_cases zd : dk5 r0 = nI d
        · refine ⟨d, by omega, ?_, by rw [b3 _ (by unfold oD; omega) (by unfold oD; omega), w0]⟩
          unfold markR
          rw [if_pos zd]
          exact zd
        · have em : markR (nI d) r0 = r0 := by unfold markR; rw [if_neg zd]
          rw [em] at hl ⊢
          obtain ⟨e, e1, e2, e3⟩ := h7 r0 hr0 hl
          refine ⟨e, by omega, e2, ?_⟩
          rw [b3 _ (by unfold oD; omega) (by unfold oD; omega), wo e (by omega) 0 (by decide), e3]
      · dsimp only
        rw [cL, ← h8, List.map_map]
        refine List.map_congr_left (fun r _ => ?_)
        show dk5 (markR (nI d) r) = dk5 r
        unfold markR
        split <;> rfl
      · dsimp only
        rw [close_o _ (by simp) _ (by simp), q6 e he]
      · dsimp only
        have hb : ∀ w, w < 6 → brkN d 30 t (oD e w) = t (oD e w) := fun w hw => b3 _ (by unfold oD; omega) (by unfold oD; omega)
        refine DInv.cg ?_ hb
        by_cases ze : e = d
        · subst ze
          refine ⟨⟨3, by decide, w0⟩, fun u => absurd (w0.symm.trans u) (by decide), fun _ => (w1 1 (by decide) (by decide)).trans k1, fun _ => (w1 3 (by decide) (by decide)).trans k3, fun u => absurd w0 u, Or.inl ((w1 4 (by decide) (by decide)).trans k4)⟩
        · exact (h10 e he).cg (wo e ze)
      · dsimp only at hr ⊢
        rw [b1] at hr
        obtain ⟨hr1, hr2⟩ := List.mem_filter.mp hr
        rw [← h5] at hr1
        refine (h11 r hr1).cg (fun e he hed => ?_)
        have ze : e ≠ d := fun u => by
          rw [u] at hed
          simp [hed] at hr2
        rw [b3 _ (by unfold oD; omega) (by unfold oD; omega), wo e ze 0 (by decide)]
        exact ⟨(em_ne _ 3).symm, id⟩
      · dsimp only
        rw [b3 k (by omega) hk14, wk k hk, h12 k hk hk14]
    · rw [if_neg zq, if_neg (show ¬ G.1 (4, i, d) 0 = 3 by rw [G0]; decide), if_neg (show ¬ nI (q + 1) = 3 from fun t => by rw [show (3 : Int32) = nI 3 from rfl] at t; have := nI_inj (by omega) (by omega) t; omega)]
      refine RG_one hd hg rb G3 G2 k93 klm GL m1 G6 ?_ ko ?_ kk
      · refine ⟨⟨0, by decide, k0⟩, fun t => absurd (k0.symm.trans t) (by decide), fun _ => k1, fun _ => k3, fun _ => ⟨q + 1, by omega, k2⟩, Or.inl k4⟩
      · rw [k0, z]
        exact ⟨Or.inl (by decide), fun _ => by decide⟩
theorem RG_step {h : DH} {i c d : Nat} {s1 : Nat → Int32} {q : DH × Int32} {p : (Nat → Int32) × (Nat → Int32)} (hd : d < 12) (hc : c ≤ 30) (hp : pmi h i) (hg : RG h i c s1 d q p) : RG h i c s1 (d + 1) (gsB i c d q) (stMB d p) := by
  obtain ⟨g, b⟩ := q
  obtain ⟨s, f⟩ := p
  have hg' := hg
  obtain ⟨h1, h2, h3, h4, h5, h6, h7, h8, h9, h10, h11, h12⟩ := hg'
  dsimp only at h1 h2 h3 h4 h5 h6 h7 h8 h9 h10 h11 h12
  obtain ⟨⟨v0, v0l, v0e⟩, d1, d2, d3, d4, d5⟩ := h10 d hd
  have r0 := h1.2.2 d hd 0 (by decide)
  have r1 := h1.2.2 d hd 1 (by decide)
  have r2 := h1.2.2 d hd 2 (by decide)
  have r5 := h1.2.2 d hd 5 (by decide)
  rw [show mf 0 = 0 from rfl] at r0
  rw [show mf 1 = 1 from rfl] at r1
  rw [show mf 2 = 2 from rfl] at r2
  rw [show mf 5 = 4 from rfl] at r5
  have f0 : upd f d 0 d = 0 := upd_s _ _ _
  have m0 := mask_keep hd h6 (upd_f f d 0) f0
  unfold gsB stMB
  dsimp only
  rw [r0, r1, r5]
  by_cases z : s (oD d 0) = 1
  · rw [if_pos z, if_pos z]
    obtain ⟨l, l1, l2, le⟩ := d1 z
    have le1 : s (oD d 1) - 1 = nI (l - 1) := by rw [le, nIm1 l1]
    by_cases zl : l = 1
    · have lz : s (oD d 1) - 1 = 0 := by rw [le1, zl]; rfl
      rw [if_neg (by rw [lz]; decide), if_pos lz]
      exact RG_end hd hc hp hg z lz m0
    · rw [if_pos (by rw [le1]; exact (nIpos (by omega)).mpr (by omega)), if_neg (fun t => by rw [le1] at t; have := nI_inj (by omega) (by omega) (t.trans nI_0.symm); omega), le1]
      have rb := h1.dk hd (show 1 < 6 by decide) (nI (l - 1))
      refine RG_one hd hg rb (by rw [up1_ne _ _ _ (by simp)]) rfl (upd_n _ _ (by unfold oD; omega)) (fun c => LM_oD hd (by decide) _) (LC_40 _) m0 (fun e he => by rw [up1_1, if_neg (fun t => absurd t.2 (by decide))]) ?_ (fun e he w hw => upd_n _ _ (by unfold oD; omega)) ?_ (fun k hk => upd_n _ _ (by unfold oD; omega))
      · have z1 : upd s (oD d 1) (nI (l - 1)) (oD d 0) = s (oD d 0) := upd_n _ _ (by unfold oD; omega)
        refine ⟨⟨v0, v0l, by rw [z1, v0e]⟩, fun _ => ⟨l - 1, by omega, by omega, upd_s _ _ _⟩, fun t => absurd (z1.trans z) t, fun t => ?_, fun t => ?_, ?_⟩
        · rw [upd_n _ _ (by unfold oD; omega)]; exact d3 (by rw [← z1]; exact t)
        · rw [upd_n _ _ (by unfold oD; omega)]; exact d4 (by rw [← z1]; exact t)
        · rw [upd_n _ _ (by unfold oD; omega)]; exact d5
      · have z1 : upd s (oD d 1) (nI (l - 1)) (oD d 0) = s (oD d 0) := upd_n _ _ (by unfold oD; omega)
        rw [z1]
        exact ⟨(em_ne _ 3).symm, id⟩
  · rw [if_neg z, if_neg z]
    exact RG_one hd hg h1 rfl rfl rfl (fun _ => rfl) rfl m0 (fun _ _ => rfl) (h10 d hd) (fun _ _ _ _ => rfl) ⟨(em_ne _ 3).symm, id⟩ (fun _ _ => rfl)
theorem RG_all {h : DH} {i c : Nat} {s f : Nat → Int32} (hc : c ≤ 30) (hp : pmi h i) (h0 : RG h i c s 0 (h, 0) (s, f)) : ∀ d, d ≤ 12 → RG h i c s d (gs h i c d) (stM s f d) := by
  intro d
  induction d with
  | zero => intro _; exact h0
  | succ d ih => intro hd; exact RG_step (by omega) hc hp (ih (by omega))
