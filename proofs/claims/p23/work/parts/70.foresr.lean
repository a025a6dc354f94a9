/-! forecasts, on both sides -/
theorem coM_R (s : Nat → Int32) (c j : Nat) : ∀ d, d ≤ 12 → coM s c d (oR j 0) = s (oR j 0) := by
  intro d
  induction d with
  | zero => intro _; rfl
  | succ d ih =>
    intro hd
    rw [show coM s c (d + 1) = coMB c d (coM s c d) from rfl]
    have ih := ih (by omega)
    generalize coM s c d = g at ih ⊢
    unfold coMB
    split
    · exact ih
    · rw [ban_o _ _ _ _ (fun k _ => by unfold oR; omega), mSb_on _ _ _ (fun w hw => oR_oD (by omega) hw)]
      exact ih
theorem blown_tick {h : DH} {i c : Nat} {s : Nat → Int32} (f : Nat → Int32) (hs : SR h i c s) (z : s 15 = 1) : (tickM s f).1 15 = 1 ∧ (tickM s f).1 93 = s 93 ∧ ∀ j, (tickM s f).1 (oR j 0) = s (oR j 0) := by
  obtain ⟨a1, a2⟩ := cut_SR hs
  have h93 := hs.2.2.2.1
  have ecc : cc s = c := cc_of h93 hs.2.2.1
  have b15 := a2 15 (by decide)
  have b93 : coM s c 12 93 = s 93 := coM_93 s c 12 (Nat.le_refl _)
  have bR := fun j => coM_R s c j 12 (Nat.le_refl _)
  rw [show (tickM s f).1 = tkM2 (tkM s f).1 from rfl, tkM_p z, ecc]
  dsimp only
  generalize coM s c 12 = g at b15 b93 bR ⊢
  have f15 : ∀ x y w, fuM (upd (upd g 10 x) 11 y) w = upd (upd g 10 x) 11 y := fun x y w => by
    unfold fuM
    rw [if_pos (by rw [upd_n _ _ (by decide), upd_n _ _ (by decide), b15, z])]
  unfold tkM2
  rw [f15]
  refine ⟨?_, ?_, fun j => ?_⟩
  · rw [upd_n _ _ (by decide), upd_n _ _ (by decide), b15, z]
  · rw [upd_n _ _ (by decide), upd_n _ _ (by decide), b93]
  · rw [upd_n _ _ (oR_lt _ _ _ (by decide)), upd_n _ _ (oR_lt _ _ _ (by decide)), bR]
theorem blown_rk {h : DH} {i c : Nat} {s : Nat → Int32} (f : Nat → Int32) (hs : SR h i c s) (z : s 15 = 1) : ∀ k, (rk s f k).1 15 = 1 ∧ (rk s f k).1 93 = s 93 ∧ ∀ j, (rk s f k).1 (oR j 0) = s (oR j 0) := by
  intro k
  induction k with
  | zero => exact ⟨z, rfl, fun _ => rfl⟩
  | succ k ih =>
    obtain ⟨⟨c', h1⟩, _⟩ := pass_SR f hs k
    obtain ⟨i1, i2, i3⟩ := ih
    rw [show rk s f (k + 1) = tickM (rk s f k).1 (rk s f k).2 from rfl]
    obtain ⟨t1, t2, t3⟩ := blown_tick (rk s f k).2 h1 i1
    exact ⟨t1, t2.trans i2, fun j => (t3 j).trans (i3 j)⟩
theorem rk_add (s f : Nat → Int32) (j : Nat) : ∀ m, rk s f (j + m) = rk (rk s f j).1 (rk s f j).2 m := by
  intro m
  induction m with
  | zero => rfl
  | succ m ih =>
    show tickM (rk s f (j + m)).1 (rk s f (j + m)).2 = tickM (rk (rk s f j).1 (rk s f j).2 m).1 (rk (rk s f j).1 (rk s f j).2 m).2
    rw [ih]
/-- blown at j, and later -/
theorem blown_on {h : DH} {i c : Nat} {s : Nat → Int32} (f : Nat → Int32) (hs : SR h i c s) {j k : Nat} (hj : j ≤ k) (z : (rk s f j).1 15 = 1) : (rk s f k).1 93 = (rk s f j).1 93 ∧ ∀ q, (rk s f k).1 (oR q 0) = (rk s f j).1 (oR q 0) := by
  obtain ⟨⟨c', h1⟩, _⟩ := pass_SR f hs j
  have := blown_rk (rk s f j).2 h1 z (k - j)
  rw [← rk_add, show j + (k - j) = k by omega] at this
  exact this.2
theorem rd_eq {g : DH} {i c : Nat} {s : Nat → Int32} (f : Nat → Int32) (hs : SR g i c s) (j : Nat) : (pk g i j).1 (0, i, 0) 3 = (rk s f j).1 93 ∧ (pk g i j).1 (0, i, 0) 10 = (rk s f j).1 15 ∧ ∃ c', c' ≤ 30 ∧ (rk s f j).1 93 = nI c' := by
  obtain ⟨⟨c', h1⟩, _⟩ := pass_SR f hs j
  exact ⟨h1.2.1.trans h1.2.2.2.1.symm, h1.1.2.1 10 (by decide) (by decide), c', h1.2.2.1, h1.2.2.2.1⟩
/-- in how many ticks no read is left, up to 400 -/
def tvv (s f : Nat → Int32) : Option Nat := fp (fun j => decide (¬ 0 < (rk s f j).1 93)) 401
theorem tvv_cg {g : DH} {i c c2 : Nat} {s s2 : Nat → Int32} (f f2 : Nat → Int32) (hs : SR g i c s) (hs2 : SR g i c2 s2) : tvv s f = tvv s2 f2 := fp_congr (fun j _ => by rw [← (rd_eq f hs j).1, ← (rd_eq f2 hs2 j).1])
theorem tvv_some {s f : Nat → Int32} {t : Nat} (h : tvv s f = some t) : t ≤ 400 ∧ ¬ 0 < (rk s f t).1 93 ∧ ∀ j, j < t → 0 < (rk s f j).1 93 := by
  obtain ⟨h1, h2, h3⟩ := fp_some h
  exact ⟨by omega, by simpa using h2, fun j hj => by simpa using h3 j hj⟩
theorem tvv_none {s f : Nat → Int32} (h : tvv s f = none) : ∀ j, j ≤ 400 → 0 < (rk s f j).1 93 := fun j hj => by simpa using fp_none h j (by omega)
def tvL (o : Option Nat) (L : Nat) : Int32 := match o with
  | some t => if t ≤ L then nI t else -5
  | none => -5
theorem c_untilR (n : Nat) (most : Int32) (h : DH) {c L : Nat} {s f : Nat → Int32} (hk : cpk h 0 c) (hs : SR (trl h c most) 1 c s) (hL : L ≤ 400) : ∃ N, dEx (n + 5) 82 [.inr (6, 0, 0), .inl most, .inl (nI L)] h (some (.inl (tvL (tvv s f) L)), pk (trl h c most) 1 N) := by
  obtain ⟨N, hN, hgo, hst⟩ := stopAt (fun j => 0 < (pk (trl h c most) 1 j).1 (0, 1, 0) 3 ∧ (pk (trl h c most) 1 j).1 (0, 1, 0) 10 = 0) (fun j => Decidable.em _) L
  refine ⟨N, ?_⟩
  have hu := c_until n most h hk hL hN (fun j _ => pass_ok f hs j) hgo hst
  have e : (if (pk (trl h c most) 1 N).1 (0, 1, 0) 3 = 0 then nI N else -5) = tvL (tvv s f) L := by
    have pos0 : ∀ j, (0 < (rk s f j).1 93 ↔ ¬ (rk s f j).1 93 = 0) := fun j => by
      obtain ⟨_, _, c', h1, h2⟩ := rd_eq f hs j
      rw [h2, nIpos (by omega)]
      constructor
      · intro t u
        have := nI_inj (by omega) (by decide) (u.trans nI_0.symm)
        omega
      · intro t
        refine Nat.pos_of_ne_zero (fun u => t (by rw [u]; rfl))
    rw [(rd_eq f hs N).1]
    cases ht : tvv s f with
    | none =>
      have := tvv_none ht N (by omega)
      rw [if_neg ((pos0 N).mp this)]
      rfl
    | some t =>
      obtain ⟨t1, t2, t3⟩ := tvv_some ht
      unfold tvL
      dsimp only
      by_cases z : t ≤ L
      · rw [if_pos z]
        have nb : ∀ j, j < t → (rk s f j).1 15 = 0 := fun j hj => by
          obtain ⟨⟨c', h1⟩, _⟩ := pass_SR f hs j
          rcases h1.2.2.2.2.2.2.2.2.1.2.2.2.2 with q | q
          · exact q
          · exact absurd ((blown_on f hs (show j ≤ t by omega) q).1 ▸ t3 j hj) t2
        have eN : N = t := by
          rcases Nat.lt_trichotomy N t with q | q | q
          · rcases hst with u | u
            · omega
            · refine absurd ⟨?_, ?_⟩ u
              · rw [(rd_eq f hs N).1]; exact t3 N q
              · rw [(rd_eq f hs N).2.1]; exact nb N q
          · exact q
          · have := (hgo t q).1
            rw [(rd_eq f hs t).1] at this
            exact absurd this t2
        rw [eN, if_pos (Decidable.byContradiction fun u => t2 ((pos0 t).mpr u))]
      · rw [if_neg z, if_neg ((pos0 N).mp (t3 N (by omega)))]
  rw [e] at hu
  exact hu
theorem tvv_N (s f : Nat → Int32) : ∃ N, N ≤ 400 ∧ (∀ j, j < N → 0 < (rk s f j).1 93) ∧ (N = 400 ∨ ¬ 0 < (rk s f N).1 93) ∧ trA s f 0 N = oI (-5) (tvv s f) := by
  cases ht : tvv s f with
  | some t =>
    obtain ⟨t1, t2, t3⟩ := tvv_some ht
    refine ⟨t, t1, t3, Or.inr t2, ?_⟩
    unfold trA
    rw [if_pos rfl, if_pos (Int32.not_lt.mp t2)]
    rfl
  | none =>
    have t3 := tvv_none ht
    refine ⟨400, Nat.le_refl _, fun j hj => t3 j (by omega), Or.inl rfl, ?_⟩
    unfold trA
    rw [if_pos rfl, if_neg (Int32.not_le.mpr (t3 400 (Nat.le_refl _)))]
    rfl
theorem cp5_asd (h : DH) (s X : Nat → Int32) (k : Nat) (hk : k < 244) : cp5 X 0 ((asd h s).1 (16, 0, 0)) 244 k = s k := by rw [cp5_in hk, asd_16, cp5_in hk]
/-- the trial and the row aside don't count -/
theorem RR.trial {h g : DH} {s2 f2 : Nat → Int32} {G : DH} (hs : RR h) (F : Fr 1 h g) (w : WF g 1) (e : ∀ k, k < 244 → s2 k = h.1 (15, 0, 0) k) (e1 : ∀ κ : DKey, κ ≠ (16, 0, 0) → G.1 κ = g.1 κ) (e2 : G.2 = g.2) : RR (hp G s2 f2) := by
  have G0 := fun (κ : DKey) (hκ : 5 < κ.1) => show g.1 κ = h.1 κ from (F.eo hκ).1
  have o : ∀ κ : DKey, 5 < κ.1 → κ ≠ (15, 0, 0) → κ ≠ (16, 0, 0) → κ ≠ (20, 0, 0) → (hp G s2 f2).1 κ = h.1 κ := fun κ h5 h1 h2 h3 => by rw [hp_1 _ _ _ h1 h3, e1 _ h2, G0 κ h5]
  have E : ∀ j, Eq5 j g (hp G s2 f2) := fun j k m hk => ⟨by rw [hp_1 _ _ _ (fun t => by simp at t; omega) (fun t => by simp at t; omega), e1 _ (fun t => by simp at t; omega)], by show G.2 _ = _; rw [e2]⟩
  refine hs.of (o _ (by simp) (by simp) (by simp) (by simp)) (o _ (by simp) (by simp) (by simp) (by simp)) ?_ (by rw [o _ (by simp) (by simp) (by simp) (by simp)]) (o _ (by simp) (by simp) (by simp) (by simp)) (fun k _ => by rw [o _ (by simp) (by simp) (by simp) (by simp)]) (o _ (by simp) (by simp) (by simp) (by simp)) (o _ (by simp) (by simp) (by simp) (by simp)) (o _ (by simp) (by simp) (by simp) (by simp)) (fun j hj => (F.e5 (by omega)).tr (E j)) (w.fr (E 1)) ?_
  · show G.2 _ = _
    rw [e2]
    exact (F.eo (κ := (8, 0, 0)) (by simp)).2
  · rw [hp_s]
    exact ((hs.1.fr (F.e5 (show 0 ≠ 1 by decide))).fr (E 0)).row e
theorem asd_o (h : DH) (s : Nat → Int32) (κ : DKey) (hκ : κ ≠ (16, 0, 0)) : (asd h s).1 κ = h.1 κ := ub_n _ _ hκ
theorem asd_2 (h : DH) (s : Nat → Int32) : (asd h s).2 = h.2 := rfl
theorem trl_SR {h : DH} {c : Nat} {s : Nat → Int32} {most : Int32} (hs : SR h 0 c s) (w : WF h 1) (hm : wip most 1 12) : SR (trl h c most) 1 c (upd s 8 most) := set_SR (hs.copy (by decide) w) (w := 8) (by decide) hm
theorem Fr_trl (h : DH) (c : Nat) (most : Int32) : Fr 1 h (trl h c most) := (Fr_cfull h 1 0 c).up1 ⟨by show (1 : Nat) ≤ 5; decide, rfl⟩
theorem Fr_pk {h g : DH} (F : Fr 1 h g) (N : Nat) : Fr 1 h (pk g 1 N) := F.tr ((Ft.rf.xpk N).fr)
theorem pk_wf {g : DH} {i c : Nat} {s : Nat → Int32} (hs : SR g i c s) (N : Nat) : WF (pk g i N) i := by
  obtain ⟨⟨c', h1⟩, _⟩ := pass_SR s hs N
  exact h1.wf
theorem oI_tvL {o : Option Nat} (h : ∀ t, o = some t → t ≤ 400) : tvL o 400 = oI (-5) o := by
  cases o with
  | none => rfl
  | some t =>
    unfold tvL
    dsimp only
    rw [if_pos (h t rfl)]
    rfl
theorem pk_ho {g : DH} {c : Nat} {s : Nat → Int32} (f : Nat → Int32) (hs : SR g 1 c (upd s 11 0)) : ∀ k, (pk g 1 k).1 (0, 1, 0) 9 = ho s f k := by
  intro k
  induction k with
  | zero =>
    have := hs.1.2.1 9 (by decide) (by decide)
    rw [show ms 9 = 11 from rfl, upd_s] at this
    exact this
  | succ k ih =>
    obtain ⟨⟨c1, h1⟩, _⟩ := pass_SR f hs k
    obtain ⟨⟨c2, h2⟩, _⟩ := pass_SR f hs (k + 1)
    have E : E11 s (upd s 11 0) := fun j hj => upd_n _ _ hj
    have E1 := (E.xrk f (k + 1)).1
    have ec : cc (rk s f (k + 1)).1 = c2 := E1.xcc.symm.trans (cc_of h2.2.2.2.1 h2.2.2.1)
    have e9 : (pk g 1 (k + 1)).1 (0, 1, 0) 9 = mx ((pk g 1 k).1 (0, 1, 0) 9) (sumN (ccur (pk g 1 (k + 1)) 1) 12) := tick_9 _ _ _
    rw [e9, ih, sumcur h2, E1.cur, show ho s f (k + 1) = (if mcurN (rk s f (k + 1)).1 (cc (rk s f (k + 1)).1) ≤ ho s f k then ho s f k else mcurN (rk s f (k + 1)).1 (cc (rk s f (k + 1)).1)) from rfl, ec]
    unfold mx
    by_cases z : ho s f k < mcurN (rk s f (k + 1)).1 c2
    · rw [if_pos z, if_neg (Int32.not_le.mpr z)]
    · rw [if_neg z, if_pos (Int32.not_lt.mp z)]
theorem Fr_trl0 (h : DH) (c : Nat) (most : Int32) : Fr 1 h (trl0 h c most) := (Fr_trl h c most).up1 ⟨by show (0 : Nat) ≤ 5; decide, rfl⟩
theorem cplk_eq {g : DH} {c : Nat} {s : Nat → Int32} (f : Nat → Int32) (hs : SR g 1 c s) (k : Nat) (x : Int32) : cplk g k x = mplc (rk s f k).1 (cc (rk s f k).1) x := by
  obtain ⟨⟨c', h1⟩, _⟩ := pass_SR f hs k
  unfold cplk
  rw [h1.2.1, i_cl (show c' < 2 ^ 31 by have := h1.2.2.1; omega), h1.plc x, cc_of h1.2.2.2.1 h1.2.2.1]
