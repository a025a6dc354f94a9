/-! forecasts, on both sides -/
theorem coM_R (s : Nat → Int32) (c j : Nat) : ∀ d, d ≤ 12 → coM s c d (oR j 0) = s (oR j 0) := by
  intro d
  induction d with
  | zero => intro _; rfl
  | succ d ih =>
    intro hd
    rw [show coM s c (d + 1) = coMB c d (coM s c d) from rfl]
    have ih := ih (by omega)
    generalize coM s c d = g at ih ⊢
    unfold coMB
    split
    · exact ih
    · rw [ban_o _ _ _ _ (fun k _ => by unfold oR; omega), mSb_on _ _ _ (fun w hw => oR_oD (by omega) hw)]
      exact ih
theorem blown_tick {h : DH} {i c : Nat} {s : Nat → Int32} (f : Nat → Int32) (hs : SR h i c s) (z : s 15 = 1) : (tickM s f).1 15 = 1 ∧ (tickM s f).1 93 = s 93 ∧ ∀ j, (tickM s f).1 (oR j 0) = s (oR j 0) := by
  obtain ⟨a1, a2⟩ := cut_SR hs
  have h93 := hs.2.2.2.1
  have ecc : cc s = c := cc_of h93 hs.2.2.1
  have b15 := a2 15 (by decide)
  have b93 : coM s c 12 93 = s 93 := coM_93 s c 12 (Nat.le_refl _)
  have bR := fun j => coM_R s c j 12 (Nat.le_refl _)
  rw [show (tickM s f).1 = tkM2 (tkM s f).1 from rfl, tkM_p z, ecc]
  dsimp only
  generalize coM s c 12 = g at b15 b93 bR ⊢
  have f15 : ∀ x y w, fuM (upd (upd g 10 x) 11 y) w = upd (upd g 10 x) 11 y := fun x y w => by
    unfold fuM
    rw [if_pos (by rw [upd_n _ _ (by decide), upd_n _ _ (by decide), b15, z])]
  unfold tkM2
  rw [f15]
  refine ⟨?_, ?_, fun j => ?_⟩
  · rw [upd_n _ _ (by decide), upd_n _ _ (by decide), b15, z]
  · rw [upd_n _ _ (by decide), upd_n _ _ (by decide), b93]
  · rw [upd_n _ _ (oR_lt _ _ _ (by decide)), upd_n _ _ (oR_lt _ _ _ (by decide)), bR]
theorem blown_rk {h : DH} {i c : Nat} {s : Nat → Int32} (f : Nat → Int32) (hs : SR h i c s) (z : s 15 = 1) : ∀ k, (rk s f k).1 15 = 1 ∧ (rk s f k).1 93 = s 93 ∧ ∀ j, (rk s f k).1 (oR j 0) = s (oR j 0) := by
  intro k
  induction k with
  | zero => exact ⟨z, rfl, fun _ => rfl⟩
  | succ k ih =>
    obtain ⟨⟨c', h1⟩, _⟩ := pass_SR f hs k
    obtain ⟨i1, i2, i3⟩ := ih
    rw [show rk s f (k + 1) = tickM (rk s f k).1 (rk s f k).2 from rfl]
    obtain ⟨t1, t2, t3⟩ := blown_tick (rk s f k).2 h1 i1
    exact ⟨t1, t2.trans i2, fun j => (t3 j).trans (i3 j)⟩
theorem rk_add (s f : Nat → Int32) (j : Nat) : ∀ m, rk s f (j + m) = rk (rk s f j).1 (rk s f j).2 m := by
  intro m
  induction m with
  | zero => rfl
  | succ m ih =>
    show tickM (rk s f (j + m)).1 (rk s f (j + m)).2 = tickM (rk (rk s f j).1 (rk s f j).2 m).1 (rk (rk s f j).1 (rk s f j).2 m).2
    rw [ih]
/-- blown at j, and later -/
theorem blown_on {h : DH} {i c : Nat} {s : Nat → Int32} (f : Nat → Int32) (hs : SR h i c s) {j k : Nat} (hj : j ≤ k) (z : (rk s f j).1 15 = 1) : (rk s f k).1 93 = (rk s f j).1 93 ∧ ∀ q, (rk s f k).1 (oR q 0) = (rk s f j).1 (oR q 0) := by
  obtain ⟨⟨c', h1⟩, _⟩ := pass_SR f hs j
  have := blown_rk (rk s f j).2 h1 z (k - j)
  rw [← rk_add, show j + (k - j) = k by omega] at this
  exact this.2
theorem rd_eq {g : DH} {i c : Nat} {s : Nat → Int32} (f : Nat → Int32) (hs : SR g i c s) (j : Nat) : (pk g i j).1 (0, i, 0) 3 = (rk s f j).1 93 ∧ (pk g i j).1 (0, i, 0) 10 = (rk s f j).1 15 ∧ ∃ c', c' ≤ 30 ∧ (rk s f j).1 93 = nI c' := by
  obtain ⟨⟨c', h1⟩, _⟩ := pass_SR f hs j
  exact ⟨h1.2.1.trans h1.2.2.2.1.symm, h1.1.2.1 10 (by decide) (by decide), c', h1.2.2.1, h1.2.2.2.1⟩
/-- in how many ticks no read is left, up to 400 -/
def tvv (s f : Nat → Int32) : Option Nat := fp (fun j => decide (¬ 0 < (rk s f j).1 93)) 401
theorem tvv_cg {g : DH} {i c c2 : Nat} {s s2 : Nat → Int32} (f f2 : Nat → Int32) (hs : SR g i c s) (hs2 : SR g i c2 s2) : tvv s f = tvv s2 f2 := fp_congr (fun j _ => by rw [← (rd_eq f hs j).1, ← (rd_eq f2 hs2 j).1])
theorem tvv_some {s f : Nat → Int32} {t : Nat} (h : tvv s f = some t) : t ≤ 400 ∧ ¬ 0 < (rk s f t).1 93 ∧ ∀ j, j < t → 0 < (rk s f j).1 93 := by
  obtain ⟨h1, h2, h3⟩ := fp_some h
  exact ⟨by omega, by simpa using h2, fun j hj => by simpa using h3 j hj⟩
theorem tvv_none {s f : Nat → Int32} (h : tvv s f = none) : ∀ j, j ≤ 400 → 0 < (rk s f j).1 93 := fun j hj => by simpa using fp_none h j (by omega)
def tvL (o : Option Nat) (L : Nat) : Int32 := match o with
  | some t => if t ≤ L then nI t else -5
  | none => -5
theorem c_untilR (n : Nat) (most : Int32) (h : DH) {c L : Nat} {s f : Nat → Int32} (hk : cpk h 0 c) (hs : SR (trl h c most) 1 c s) (hL : L ≤ 400) : ∃ N, dEx (n + 5) 82 [.inr (6, 0, 0), .inl most, .inl (nI L)] h (some (.inl (tvL (tvv s f) L)), pk (trl h c most) 1 N) := by
  obtain ⟨N, hN, hgo, hst⟩ := stopAt (fun j => 0 < (pk (trl h c most) 1 j).1 (0, 1, 0) 3 ∧ (pk (trl h c most) 1 j).1 (0, 1, 0) 10 = 0) (fun j => Decidable.em _) L
  refine ⟨N, ?_⟩
  have hu := c_until n most h hk hL hN (fun j _ => pass_ok f hs j) hgo hst
  have e : (if (pk (trl h c most) 1 N).1 (0, 1, 0) 3 = 0 then nI N else -5) = tvL (tvv s f) L := by
    have pos0 : ∀ j, (0 < (rk s f j).1 93 ↔ ¬ (rk s f j).1 93 = 0) := fun j => by
      obtain ⟨_, _, c', h1, h2⟩ := rd_eq f hs j
      rw [h2, nIpos (by omega)]
      constructor
      · intro t u
        have := nI_inj (by omega) (by decide) (u.trans nI_0.symm)
        omega
      · intro t
        refine Nat.pos_of_ne_zero (fun u => t (by rw [u]; rfl))
    rw [(rd_eq f hs N).1]
    cases ht : tvv s f with
    | none =>
      have := tvv_none ht N (by omega)
      rw [if_neg ((pos0 N).mp this)]
      rfl
    | some t =>
      obtain ⟨t1, t2, t3⟩ := tvv_some ht
      unfold tvL
      dsimp only
      by_cases z : t ≤ L
      · rw [if_pos z]
        have nb : ∀ j, j < t → (rk s f j).1 15 = 0 := fun j hj => by
          obtain ⟨⟨c', h1⟩, _⟩ := pass_SR f hs j
          rcases h1.2.2.2.2.2.2.2.2.1.2.2.2.2 with q | q
          · exact q
          · exact absurd ((blown_on f hs (show j ≤ t by omega) q).1 ▸ t3 j hj) t2
        have eN : N = t := by
          rcases Nat.lt_trichotomy N t with q | q | q
          · rcases hst with u | u
            · omega
            · refine absurd ⟨?_, ?_⟩ u
              · rw [(rd_eq f hs N).1]; exact t3 N q
              · rw [(rd_eq f hs N).2.1]; exact nb N q
          · exact q
          · have := (hgo t q).1
            rw [(rd_eq f hs t).1] at this
            exact absurd this t2
        rw [eN, if_pos (Decidable.byContradiction fun u => t2 ((pos0 t).mpr u))]
      · rw [if_neg z, if_neg ((pos0 N).mp (t3 N (by omega)))]
  rw [e] at hu
  exact hu
theorem tvv_N (s f : Nat → Int32) : ∃ N, N ≤ 400 ∧ (∀ j, j < N → 0 < (rk s f j).1 93) ∧ (N = 400 ∨ ¬ 0 < (rk s f N).1 93) ∧ trA s f 0 N = oI (-5) (tvv s f) := by
  cases ht : tvv s f with
  | some t =>
    obtain ⟨t1, t2, t3⟩ := tvv_some ht
    refine ⟨t, t1, t3, Or.inr t2, ?_⟩
    unfold trA
    rw [if_pos rfl, if_pos (Int32.not_lt.mp t2)]
    rfl
  | none =>
    have t3 := tvv_none ht
    refine ⟨400, Nat.le_refl _, fun j hj => t3 j (by omega), Or.inl rfl, ?_⟩
    unfold trA
    rw [if_pos rfl, if_neg (Int32.not_le.mpr (t3 400 (Nat.le_refl _)))]
    rfl
theorem cp5_asd (h : DH) (s X : Nat → Int32) (k : Nat) (hk : k < 244) : cp5 X 0 ((asd h s).1 (16, 0, 0)) 244 k = s k := by rw [cp5_in hk, asd_16, cp5_in hk]
theorem m_triedR (n : Nat) (most : Int32) (h : DH) (s f : Nat → Int32) (hk : okC s) : ∃ (s2 f2 : Nat → Int32), dEx (n + 7) 143 [.inr (14, 0, 0), .inl most, .inl 0] (hp h s f) (some (.inl (oI (-5) (tvv (upd s 8 most) f))), hp (asd h s) s2 f2) ∧ ∀ k, k < 244 → s2 k = s k := by
  obtain ⟨N, h1, h2, h3, h4⟩ := tvv_N (upd s 8 most) f
  have hm := m_tried n most 0 h s f hk h1 (fun u => absurd rfl u) (fun _ => h2) (fun _ => h3)
  rw [h4] at hm
  exact ⟨_, _, hm, cp5_asd h s _⟩
theorem m_ifR (n : Nat) (most : Int32) (h : DH) (s f : Nat → Int32) (hk : okC s) (hb1 : wip most 1 12) : ∃ (s2 f2 : Nat → Int32), dEx (n + 8) 142 [.inr (14, 0, 0), .inl most, .inl 0] (hp h s f) (some (.inl (oI (-5) (tvv (upd s 8 most) f))), hp (asd h s) s2 f2) ∧ ∀ k, k < 244 → s2 k = s k := by
  obtain ⟨N, h1, h2, h3, h4⟩ := tvv_N (upd s 8 most) f
  have hm := m_ifAtOnce1 n most 0 h s f hb1 (by unfold wip; decide) hk h1 (fun u => absurd rfl u) (fun _ => h2) (fun _ => h3)
  rw [h4] at hm
  exact ⟨_, _, hm, cp5_asd h s _⟩
/-- the trial and the row aside don't count -/
theorem RR.trial {h g : DH} {s2 f2 : Nat → Int32} {G : DH} (hs : RR h) (F : Fr 1 h g) (w : WF g 1) (e : ∀ k, k < 244 → s2 k = h.1 (15, 0, 0) k) (e1 : ∀ κ : DKey, κ ≠ (16, 0, 0) → G.1 κ = g.1 κ) (e2 : G.2 = g.2) : RR (hp G s2 f2) := by
  have G0 := fun (κ : DKey) (hκ : 5 < κ.1) => show g.1 κ = h.1 κ from (F.eo hκ).1
  have o : ∀ κ : DKey, 5 < κ.1 → κ ≠ (15, 0, 0) → κ ≠ (16, 0, 0) → κ ≠ (20, 0, 0) → (hp G s2 f2).1 κ = h.1 κ := fun κ h5 h1 h2 h3 => by rw [hp_1 _ _ _ h1 h3, e1 _ h2, G0 κ h5]
  have E : ∀ j, Eq5 j g (hp G s2 f2) := fun j k m hk => ⟨by rw [hp_1 _ _ _ (fun t => by simp at t; omega) (fun t => by simp at t; omega), e1 _ (fun t => by simp at t; omega)], by show G.2 _ = _; rw [e2]⟩
  refine hs.of (o _ (by simp) (by simp) (by simp) (by simp)) (o _ (by simp) (by simp) (by simp) (by simp)) ?_ (by rw [o _ (by simp) (by simp) (by simp) (by simp)]) (o _ (by simp) (by simp) (by simp) (by simp)) (fun k _ => by rw [o _ (by simp) (by simp) (by simp) (by simp)]) (o _ (by simp) (by simp) (by simp) (by simp)) (o _ (by simp) (by simp) (by simp) (by simp)) (o _ (by simp) (by simp) (by simp) (by simp)) (fun j hj => (F.e5 (by omega)).tr (E j)) (w.fr (E 1)) ?_
  · show G.2 _ = _
    rw [e2]
    exact (F.eo (κ := (8, 0, 0)) (by simp)).2
  · rw [hp_s]
    exact ((hs.1.fr (F.e5 (show 0 ≠ 1 by decide))).fr (E 0)).row e
theorem asd_o (h : DH) (s : Nat → Int32) (κ : DKey) (hκ : κ ≠ (16, 0, 0)) : (asd h s).1 κ = h.1 κ := ub_n _ _ hκ
theorem asd_2 (h : DH) (s : Nat → Int32) : (asd h s).2 = h.2 := rfl
theorem trl_SR {h : DH} {c : Nat} {s : Nat → Int32} {most : Int32} (hs : SR h 0 c s) (w : WF h 1) (hm : wip most 1 12) : SR (trl h c most) 1 c (upd s 8 most) := set_SR (hs.copy (by decide) w) (w := 8) (by decide) hm
theorem Fr_trl (h : DH) (c : Nat) (most : Int32) : Fr 1 h (trl h c most) := (Fr_cfull h 1 0 c).up1 ⟨by show (1 : Nat) ≤ 5; decide, rfl⟩
theorem Fr_pk {h g : DH} (F : Fr 1 h g) (N : Nat) : Fr 1 h (pk g 1 N) := F.tr ((Ft.rf.xpk N).fr)
theorem pk_wf {g : DH} {i c : Nat} {s : Nat → Int32} (hs : SR g i c s) (N : Nat) : WF (pk g i N) i := by
  obtain ⟨⟨c', h1⟩, _⟩ := pass_SR s hs N
  exact h1.wf
theorem oI_tvL {o : Option Nat} (h : ∀ t, o = some t → t ≤ 400) : tvL o 400 = oI (-5) o := by
  cases o with
  | none => rfl
  | some t =>
    unfold tvL
    dsimp only
    rw [if_pos (h t rfl)]
    rfl
theorem pk_ho {g : DH} {c : Nat} {s : Nat → Int32} (f : Nat → Int32) (hs : SR g 1 c (upd s 11 0)) : ∀ k, (pk g 1 k).1 (0, 1, 0) 9 = ho s f k := by
  intro k
  induction k with
  | zero =>
    have := hs.1.2.1 9 (by decide) (by decide)
    rw [show ms 9 = 11 from rfl, upd_s] at this
    exact this
  | succ k ih =>
    obtain ⟨⟨c1, h1⟩, _⟩ := pass_SR f hs k
    obtain ⟨⟨c2, h2⟩, _⟩ := pass_SR f hs (k + 1)
    have E : E11 s (upd s 11 0) := fun j hj => upd_n _ _ hj
    have E1 := (E.xrk f (k + 1)).1
    have ec : cc (rk s f (k + 1)).1 = c2 := E1.xcc.symm.trans (cc_of h2.2.2.2.1 h2.2.2.1)
    have e9 : (pk g 1 (k + 1)).1 (0, 1, 0) 9 = mx ((pk g 1 k).1 (0, 1, 0) 9) (sumN (ccur (pk g 1 (k + 1)) 1) 12) := tick_9 _ _ _
    rw [e9, ih, sumcur h2, E1.cur, show ho s f (k + 1) = (if mcurN (rk s f (k + 1)).1 (cc (rk s f (k + 1)).1) ≤ ho s f k then ho s f k else mcurN (rk s f (k + 1)).1 (cc (rk s f (k + 1)).1)) from rfl, ec]
    unfold mx
    by_cases z : ho s f k < mcurN (rk s f (k + 1)).1 c2
    · rw [if_pos z, if_neg (Int32.not_le.mpr z)]
    · rw [if_neg z, if_pos (Int32.not_lt.mp z)]
theorem Fr_trl0 (h : DH) (c : Nat) (most : Int32) : Fr 1 h (trl0 h c most) := (Fr_trl h c most).up1 ⟨by show (0 : Nat) ≤ 5; decide, rfl⟩
theorem st_ifAt (n : Nat) (most w : Int32) : Step (n + 10) 81 142 [.inl most, .inl w] := by
  intro h hs
  obtain ⟨c, hc⟩ := hs.1.sr
  have hk := hc.cp_ok
  have ok : okC (h.1 (15, 0, 0)) := ⟨c, hc.2.2.1, hc.2.2.2.1⟩
  rcases wip_dec most 1 12 with hb1 | hb1
  · rcases wip_dec w 0 2 with hb2 | hb2
    · have hT := trl_SR hc hs.2.1 hb1
      by_cases hw : w = 0
      · subst hw
        obtain ⟨N, hu⟩ := c_untilR (n + 4) most h (f := h.1 (20, 0, 0)) hk hT (Nat.le_refl 400)
        have h1 := c_ifAt1 (n + 3) most h hb1 hu
        have F := Fr_pk (Fr_trl h c most) N
        have G0 := fun (κ : DKey) (hκ : 5 < κ.1) => show (pk (trl h c most) 1 N).1 κ = h.1 κ from (F.eo hκ).1
        obtain ⟨s2, f2, hm, hq⟩ := m_ifR (n + 2) most (pk (trl h c most) 1 N) (h.1 (15, 0, 0)) (h.1 (20, 0, 0)) ok hb1
        rw [oI_tvL (fun t ht => (tvv_some ht).1)] at h1
        rw [hp_eq (pk (trl h c most) 1 N) (G0 (15, 0, 0) (by simp)) (G0 (20, 0, 0) (by simp))] at hm
        exact ⟨_, _, _, h1, hm, hs.trial F (pk_wf hT N) hq (asd_o _ _) (asd_2 _ _)⟩
      · have hT0 : SR (trl0 h c most) 1 c (upd (upd (h.1 (15, 0, 0)) 8 most) 11 0) := hT.sc (show 4 ≤ 9 by decide) (by decide) 0 (fun t => absurd t (by decide))
        have h1 := c_ifAt2 (n + 3) most w h hk hb1 hb2 hw (fun j _ => pass_ok (h.1 (20, 0, 0)) hT0 j)
        have F := Fr_pk (Fr_trl0 h c most) 100
        have G0 := fun (κ : DKey) (hκ : 5 < κ.1) => show (pk (trl0 h c most) 1 100).1 κ = h.1 κ from (F.eo hκ).1
        have hm := m_ifAtOnce1 (n + 2) most w (pk (trl0 h c most) 1 100) (h.1 (15, 0, 0)) (h.1 (20, 0, 0)) hb1 hb2 ok (N := 100) (by decide) (fun _ => rfl) (fun t => absurd t hw) (fun t => absurd t hw)
        rw [hp_eq (pk (trl0 h c most) 1 100) (G0 (15, 0, 0) (by simp)) (G0 (20, 0, 0) (by simp))] at hm
        have e9 := pk_ho (h.1 (20, 0, 0)) hT0 100
        have e10 := (rd_eq (h.1 (20, 0, 0)) hT0 100).2.1
        have E : E11 (upd (h.1 (15, 0, 0)) 8 most) (upd (upd (h.1 (15, 0, 0)) 8 most) 11 0) := fun j hj => upd_n _ _ hj
        have E1 := (E.xrk (h.1 (20, 0, 0)) 100).1
        rw [E1 15 (by decide)] at e10
        have y5 : (rk (upd (h.1 (15, 0, 0)) 8 most) (h.1 (20, 0, 0)) 100).1 15 = 0 ∨ (rk (upd (h.1 (15, 0, 0)) 8 most) (h.1 (20, 0, 0)) 100).1 15 = 1 := by
          obtain ⟨⟨c2, h2⟩, _⟩ := pass_SR (h.1 (20, 0, 0)) hT0 100
          have := h2.2.2.2.2.2.2.2.2.1.2.2.2.2
          rw [E1 15 (by decide)] at this
          exact this
        rw [e9, e10] at h1
        have e : (if w = 1 then ho (upd (h.1 (15, 0, 0)) 8 most) (h.1 (20, 0, 0)) 100 else if (rk (upd (h.1 (15, 0, 0)) 8 most) (h.1 (20, 0, 0)) 100).1 15 = 0 then 0 else 1) = trA (upd (h.1 (15, 0, 0)) 8 most) (h.1 (20, 0, 0)) w 100 := by
          unfold trA
          rw [if_neg hw]
          by_cases z : w = 1
          · rw [if_pos z, if_pos z]
          · rw [if_neg z, if_neg z]
            rcases y5 with q | q
            · rw [q, if_pos rfl]
            · rw [q, if_neg (by decide)]
        rw [e] at h1
        exact ⟨_, _, _, h1, hm, hs.trial F (pk_wf hT0 100) (cp5_asd _ _ _) (asd_o _ _) (asd_2 _ _)⟩
    · have h1 := c_ifAt0 (n + 3) most w h (fun t => hb2 t.2)
      have h2 := m_ifAtOnce0 (n + 2) most w h (h.1 (15, 0, 0)) (h.1 (20, 0, 0)) (fun t => hb2 t.2)
      rw [hp_at] at h2
      exact ⟨_, h, h, h1, h2, hs⟩
  · have h1 := c_ifAt0 (n + 3) most w h (fun t => hb1 t.1)
    have h2 := m_ifAtOnce0 (n + 2) most w h (h.1 (15, 0, 0)) (h.1 (20, 0, 0)) (fun t => hb1 t.1)
    rw [hp_at] at h2
    exact ⟨_, h, h, h1, h2, hs⟩
theorem cplk_eq {g : DH} {c : Nat} {s : Nat → Int32} (f : Nat → Int32) (hs : SR g 1 c s) (k : Nat) (x : Int32) : cplk g k x = mplc (rk s f k).1 (cc (rk s f k).1) x := by
  obtain ⟨⟨c', h1⟩, _⟩ := pass_SR f hs k
  unfold cplk
  rw [h1.2.1, i_cl (show c' < 2 ^ 31 by have := h1.2.2.1; omega), h1.plc x, cc_of h1.2.2.2.1 h1.2.2.1]
theorem st_ans (n : Nat) (x : Int32) : Step (n + 10) 80 141 [.inl x] := by
  intro h hs
  obtain ⟨c, hc⟩ := hs.1.sr
  have hk := hc.cp_ok
  have ok : okC (h.1 (15, 0, 0)) := ⟨c, hc.2.2.1, hc.2.2.2.1⟩
  have ecc : cc (h.1 (15, 0, 0)) = c := cc_of hc.2.2.2.1 hc.2.2.1
  have eplc := hc.plc x
  cases hp' : mplc (h.1 (15, 0, 0)) c x with
  | none =>
    rw [hp'] at eplc
    have h1 := c_ansIn0 (n + 5) x h hk.1 hk.2.1 eplc
    have h2 := m_answeredIn0 (n + 3) x h (h.1 (15, 0, 0)) (h.1 (20, 0, 0)) ok (by rw [ecc]; exact hp')
    rw [hp_at] at h2
    exact ⟨_, h, h, h1, h2, hs⟩
  | some p =>
    rw [hp'] at eplc
    have hpc := (fp_some hp').1
    have hT : SR (cfull h 1 0 c) 1 c (h.1 (15, 0, 0)) := hc.copy (by decide) hs.2.1
    have F0 := Fr_cfull h 1 0 c
    obtain ⟨d, hd12, _, hd, _⟩ : ∃ d, d < 12 ∧ True ∧ (h.1 (15, 0, 0)) (oR p 1) = nI d ∧ True := by
      obtain ⟨e, he, hed, _⟩ := hc.2.2.2.2.2.2.2.2.2.2 _ (LM_mem.mpr ⟨p, hpc, rfl⟩)
      exact ⟨e, he, trivial, hed, trivial⟩
    have hd' : (cfull h 1 0 c).1 (5, 0, (cfull h 1 0 c).2 (3, 0, 0) p) 1 = nI d := by
      rw [F0.o2 (show 0 ≠ 1 by decide), F0.o (show 0 ≠ 1 by decide)]
      exact (congrArg (fun r : R5 => r.2.1) (hc.rd hpc)).trans hd
    generalize hf : h.1 (20, 0, 0) = f
    have pl := fun k => cplk_eq f hT k x
    have p0 : cplk (cfull h 1 0 c) 0 x ≠ none := by
      rw [pl 0, show (rk (h.1 (15, 0, 0)) f 0).1 = h.1 (15, 0, 0) from rfl, ecc, hp']
      simp
    obtain ⟨N, hN, hgo, hst⟩ := stopAt (fun j => (pk (cfull h 1 0 c) 1 j).1 (0, 1, 0) 10 = 0 ∧ cplk (cfull h 1 0 c) j x ≠ none) (fun j => Decidable.em _) 400
    obtain ⟨N', hN', hgo', hst'⟩ := stopAt (fun j => cplk (cfull h 1 0 c) j x ≠ none) (fun j => Decidable.em _) 400
    have h1 := c_ansIn1 (n + 5) x h hk eplc hd' hd12 hN (fun j _ => pass_ok f hT j) (fun j hj => (hgo j hj).1) (fun j hj => (hgo j hj).2) p0 (hst.imp id (fun t => by
      by_cases z : (pk (cfull h 1 0 c) 1 N).1 (0, 1, 0) 10 = 0
      · exact Or.inr (Decidable.byContradiction fun u => t ⟨z, u⟩)
      · exact Or.inl z))
    have F := Fr_pk F0 N
    have G0 := fun (κ : DKey) (hκ : 5 < κ.1) => show (pk (cfull h 1 0 c) 1 N).1 κ = h.1 κ from (F.eo hκ).1
    have hm := m_answeredIn1 (n + 3) x (pk (cfull h 1 0 c) 1 N) (h.1 (15, 0, 0)) f ok (by rw [ecc]; exact hp') hd hd12 hN' (fun j hj => by rw [← pl j]; exact hgo' j hj) (hst'.imp id (fun t => by rw [← pl N']; exact Decidable.byContradiction t))
    rw [hp_eq (pk (cfull h 1 0 c) 1 N) (G0 (15, 0, 0) (by simp)) ((G0 (20, 0, 0) (by simp)).trans hf)] at hm
    have e : (if cplk (cfull h 1 0 c) N x = none ∧ ¬ (pk (cfull h 1 0 c) 1 N).1 (4, 1, d) 0 = 3 then nI N else -5) = (if mplc (rk (h.1 (15, 0, 0)) f N').1 (cc (rk (h.1 (15, 0, 0)) f N').1) x = none ∧ ¬ (rk (h.1 (15, 0, 0)) f N').1 (oD d 0) = 3 then nI N' else -5) := by
      rw [← pl N']
      have doing : ∀ j, (pk (cfull h 1 0 c) 1 j).1 (4, 1, d) 0 = (rk (h.1 (15, 0, 0)) f j).1 (oD d 0) := fun j => by
        obtain ⟨⟨c', q⟩, _⟩ := pass_SR f hT j
        exact q.1.2.2 d hd12 0 (by decide)
      rw [doing]
      by_cases z : cplk (cfull h 1 0 c) N' x = none
      · have nb : ∀ j, j < N' → (pk (cfull h 1 0 c) 1 j).1 (0, 1, 0) 10 = 0 := fun j hj => by
          obtain ⟨⟨c', q⟩, _⟩ := pass_SR f hT j
          rw [(rd_eq f hT j).2.1]
          rcases q.2.2.2.2.2.2.2.2.1.2.2.2.2 with u | u
          · exact u
          · obtain ⟨b1, b2⟩ := blown_on f hT (show j ≤ N' by omega) u
            refine absurd ?_ (hgo' j hj)
            rw [pl] at z ⊢
            have ec : cc (rk (h.1 (15, 0, 0)) f N').1 = cc (rk (h.1 (15, 0, 0)) f j).1 := cc_cg b1
            rw [ec] at z
            rw [← z]
            unfold mplc
            exact fp_congr (fun k _ => by rw [b2 k])
        have eN : N = N' := by
          rcases Nat.lt_trichotomy N N' with q | q | q
          · rcases hst with u | u
            · omega
            · exact absurd ⟨nb N q, hgo' N q⟩ u
          · exact q
          · exact absurd z (hgo N' q).2
        rw [eN]
      · have e4 : N' = 400 := hst'.resolve_right (fun t => t z)
        have nN : ¬ cplk (cfull h 1 0 c) N x = none := by
          by_cases q : N = N'
          · rw [q]; exact z
          · exact hgo' N (by omega)
        rw [if_neg (fun t => nN t.1), if_neg (fun t => z t.1)]
    rw [e] at h1
    exact ⟨_, _, _, h1, hm, hs.trial F (pk_wf hT N) (cp5_asd _ _ _) (asd_o _ _) (asd_2 _ _)⟩
