/-! all is cut off, on both sides -/
theorem ban_o (s : Nat → Int32) (d : Nat) : ∀ c q, (∀ j, j < c → q ≠ oR j 3) → ban s d c q = s q := by
  intro c
  induction c with
  | zero => intro q _; rfl
  | succ c ih =>
    intro q h
    show upd _ _ _ q = _
    rw [upd_n _ _ (h c (by omega))]
    exact ih q (fun j hj => h j (by omega))
theorem ban_at (s : Nat → Int32) (d : Nat) : ∀ c j, j < c → ban s d c (oR j 3) = if s (oR j 1) = nI d then s (oR j 2) else s (oR j 3) := by
  intro c
  induction c with
  | zero => intro j h; omega
  | succ c ih =>
    intro j hj
    show upd _ _ _ _ = _
    by_cases z : j = c
    · subst z
      rw [upd_s, ban_o _ _ _ _ (fun k _ => by unfold oR; omega), ban_o _ _ _ _ (fun k _ => by unfold oR; omega), ban_o _ _ _ _ (fun k _ => by unfold oR; omega)]
    · rw [upd_n _ _ (by unfold oR; omega)]
      exact ih j (by omega)
def rsR (r : R5) : R5 := (r.1, r.2.1, r.2.2.1, r.2.2.1, r.2.2.2.2)
theorem ban_r (s : Nat → Int32) (d c : Nat) {k : Nat} (hk : k < c) : rmk (ban s d c) k = if dk5 (rmk s k) = nI d then rsR (rmk s k) else rmk s k := by
  have e : ∀ w, w < 5 → w ≠ 3 → ban s d c (oR k w) = s (oR k w) := fun w hw h3 => ban_o _ _ _ _ (fun j _ => by unfold oR; omega)
  rw [rmk_eq, e 0 (by decide) (by decide), e 1 (by decide) (by decide), e 2 (by decide) (by decide), e 4 (by decide) (by decide), ban_at _ _ _ _ hk]
  by_cases z : s (oR k 1) = nI d
  · rw [if_pos z, if_pos (show dk5 (rmk s k) = nI d from z)]
    rfl
  · rw [if_neg z, if_neg (show ¬ dk5 (rmk s k) = nI d from z)]
    rfl
theorem rmk_cg {s s' : Nat → Int32} {k : Nat} (h : ∀ j, 94 ≤ j → s' j = s j) : rmk s' k = rmk s k := by
  rw [rmk_eq, rmk_eq, h _ (by unfold oR; omega), h _ (by unfold oR; omega), h _ (by unfold oR; omega), h _ (by unfold oR; omega), h _ (by unfold oR; omega)]
theorem RB.sb {g : DH} {i d : Nat} {s : Nat → Int32} (hr : RB g i s) (hd : d < 12) : RB (sbH g (4, i, d)) i (mSb s d) := ((hr.dk hd (show 0 < 6 by decide) 0).dk hd (show 1 < 6 by decide) 0).dk hd (show 3 < 6 by decide) 0
def CO (h : DH) (i c : Nat) (s : Nat → Int32) (d : Nat) (M : Nat → Int32) : Prop :=
  RB (co h i d) i M ∧ (∀ e, e < 12 → DInv M e) ∧ (∀ e, e < 12 → d ≤ e → M (oD e 0) = s (oD e 0)) ∧ (∀ e, e < 12 → e < d → M (oD e 0) = if s (oD e 0) = 3 then 3 else 0) ∧
  (∀ k, k < 21 → M k = s k) ∧ M 93 = s 93 ∧ ∀ k, k < c → ∀ e, e < 12 → dk5 (rmk s k) = nI e → rmk M k = if e < d then rsR (rmk s k) else rmk s k
theorem wi_12 : ∀ v, v < 4 → (wi (nI v) 1 2 = 0 ↔ v = 0 ∨ v = 3) := by decide
theorem CO_step {h : DH} {i c d : Nat} {s M : Nat → Int32} (hd : d < 12) (hs : SR h i c s) (hg : CO h i c s d M) : CO h i c s (d + 1) (coMB c d M) := by
  obtain ⟨h1, h2, h3, h4, h5, h6, h7, h8, h9, h10, h11⟩ := hs
  obtain ⟨g1, g2, g3, g4, g5, g6, g7⟩ := hg
  have r0 := g1.2.2 d hd 0 (by decide)
  rw [show mf 0 = 0 from rfl] at r0
  have s0 := g3 d hd (Nat.le_refl d)
  obtain ⟨⟨v, hv, hve⟩, d1, d2, d3, d4, d5⟩ := g2 d hd
  have hw := wi_12 v hv
  rw [← hve] at hw
  have rest : s (oD d 0) ≠ 2 → ∀ k, k < c → ∀ e, e < 12 → dk5 (rmk s k) = nI e → rmk M k = if e < d + 1 then rsR (rmk s k) else rmk s k := by
    intro n2 k hk e he hed
    rw [g7 k hk e he hed]
    by_cases ze : e = d
    · subst ze
      rw [if_neg (Nat.lt_irrefl _), if_pos (by omega)]
      obtain ⟨e', he', hed', _, l, t, _, _, _, l4, l5, l6⟩ := h11 _ (LM_mem.mpr ⟨k, hk, rfl⟩)
      have := nI_inj (by omega) (by omega) (hed.symm.trans hed')
      subst this
      have hlt := l6 n2
      subst hlt
      have e3 : (rmk s k).2.2.2.1 = (rmk s k).2.2.1 := l4.trans l5.symm
      have e4 : rsR (rmk s k) = ((rmk s k).1, (rmk s k).2.1, (rmk s k).2.2.1, (rmk s k).2.2.2.1, (rmk s k).2.2.2.2) := by
        unfold rsR
        rw [e3]
      rw [e4]
    · by_cases z : e < d
      · rw [if_pos z, if_pos (by omega)]
      · rw [if_neg z, if_neg (by omega)]
  unfold coMB CO
  rw [show co h i (d + 1) = coB i d (co h i d) from rfl]
  unfold coB
  rw [r0]
  by_cases z : v = 0 ∨ v = 3
  · rw [if_pos (hw.mpr z)]
    rcases z with z | z
    · have z0 : M (oD d 0) = 0 := by rw [hve, z]; rfl
      have n3 : ¬ M (oD d 0) = 3 := by rw [z0]; decide
      rw [if_neg n3]
      have y1 := d2 (by rw [z0]; decide)
      have y3 := d3 (by rw [z0]; decide)
      have same : mSb M d = M := by
        funext k
        unfold mSb
        simp only [upd]
        by_cases k3 : k = oD d 3
        · rw [if_pos k3, k3, y3]
        · rw [if_neg k3]
          by_cases k1 : k = oD d 1
          · rw [if_pos k1, k1, y1]
          · rw [if_neg k1]
            by_cases k0 : k = oD d 0
            · rw [if_pos k0, k0, z0]
            · rw [if_neg k0]
      have rb := g1.sb hd
      rw [same] at rb
      refine ⟨rb, g2, fun e he hde => g3 e he (by omega), fun e he hde => ?_, g5, g6, rest (by rw [← s0, z0]; decide)⟩
      by_cases ze : e = d
      · subst ze
        rw [z0, if_neg (by rw [← s0]; exact n3)]
      · exact g4 e he (by omega)
    · have z0 : M (oD d 0) = 3 := by rw [hve, z]; rfl
      rw [if_pos z0]
      refine ⟨g1, g2, fun e he hde => g3 e he (by omega), fun e he hde => ?_, g5, g6, rest (by rw [← s0, z0]; decide)⟩
      by_cases ze : e = d
      · subst ze
        rw [z0, if_pos (by rw [← s0]; exact z0)]
      · exact g4 e he (by omega)
  · rw [if_neg (fun t => z (hw.mp t))]
    have n3 : ¬ M (oD d 0) = 3 := by
      rw [hve, show (3 : Int32) = nI 3 from rfl]
      intro t
      have := nI_inj (by omega) (by omega) t
      exact z (Or.inr this)
    rw [if_neg n3]
    have lo : ∀ k, k < 94 → ban (mSb M d) d c k = mSb M d k := fun k hk => ban_o _ _ _ _ (fun j _ => by unfold oR; omega)
    have on : ∀ k, (∀ w, w < 6 → k ≠ oD d w) → k < 94 → ban (mSb M d) d c k = M k := fun k hk hk2 => by rw [lo k hk2, mSb_on _ _ _ hk]
    have at' : ∀ w, w < 6 → ban (mSb M d) d c (oD d w) = if w = 0 ∨ w = 1 ∨ w = 3 then 0 else M (oD d w) := fun w hw => by rw [lo _ (by unfold oD; omega), mSb_v]
    refine ⟨(g1.sb hd).m (fun k hk => lo k (by omega)), fun e he => ?_, fun e he hde => ?_, fun e he hde => ?_, fun k hk => ?_, ?_, fun k hk e he hed => ?_⟩
    · by_cases ze : e = d
      · subst ze
        have a0 := at' 0 (by decide)
        rw [if_pos (Or.inl rfl)] at a0
        refine ⟨⟨0, by decide, a0⟩, fun t => absurd (a0.symm.trans t) (by decide), fun _ => (at' 1 (by decide)).trans (if_pos (by decide)), fun _ => (at' 3 (by decide)).trans (if_pos (by decide)), fun _ => ?_, ?_⟩
        · rw [at' 2 (by decide), if_neg (by decide)]
          exact d4 n3
        · rw [at' 4 (by decide), if_neg (by decide)]
          exact d5
      · exact (g2 e he).cg (fun w hw' => on _ (fun w' hw'' => by unfold oD; omega) (by unfold oD; omega))
    · rw [on _ (fun w' hw'' => by unfold oD; omega) (by unfold oD; omega)]
      exact g3 e he (by omega)
    · by_cases ze : e = d
      · subst ze
        rw [at' 0 (by decide), if_pos (Or.inl rfl), if_neg (by rw [← s0]; exact n3)]
      · rw [on _ (fun w' hw'' => by unfold oD; omega) (by unfold oD; omega)]
        exact g4 e he (by omega)
    · rw [on k (fun w' hw'' => by unfold oD; omega) (by omega)]
      exact g5 k hk
    · rw [on 93 (fun w' hw'' => by unfold oD; omega) (by omega)]
      exact g6
    · have eM : rmk (mSb M d) k = rmk M k := rmk_cg (fun j hj => mSb_on _ _ _ (fun w hw' => by unfold oD; omega))
      rw [ban_r _ _ _ hk, eM, g7 k hk e he hed]
      by_cases ze : e = d
      · subst ze
        rw [if_neg (Nat.lt_irrefl _), if_pos hed, if_pos (by omega)]
      · have ned : ¬ nI e = nI d := fun t => ze (nI_inj (by omega) (by omega) t)
        by_cases z2 : e < d
        · rw [if_pos z2, if_neg (show ¬ dk5 (rsR (rmk s k)) = nI d from fun t => ned (hed.symm.trans t)), if_pos (by omega)]
        · rw [if_neg z2, if_neg (show ¬ dk5 (rmk s k) = nI d by rw [hed]; exact ned), if_neg (by omega)]
theorem ct_o (h : DH) (i : Nat) (κ : DKey) (hκ : κ.1 ≠ 5) : ∀ k, (ct h i k).1 κ = h.1 κ := by
  intro k
  induction k with
  | zero => rfl
  | succ k ih =>
    rw [show ct h i (k + 1) = up1 (ct h i k) _ _ _ from rfl, up1_ne _ _ _ (fun e => hκ (by rw [e]))]
    exact ih
theorem ct_r {h : DH} {i : Nat} (hp : pmi h i) : ∀ k, k ≤ 30 → ∀ j, j < 30 → rdk (ct h i k) i j = if j < k then rsR (rdk h i j) else rdk h i j := by
  intro k
  induction k with
  | zero => intro _ j _; rw [if_neg (by omega)]; rfl
  | succ k ih =>
    intro hk j hj
    have c2 := (ct_inv h i k).2
    have ih := ih (by omega)
    have P : pmi (ct h i k) i := fun a b ha hb hab => hp a b ha hb (by rw [c2] at hab; exact hab)
    rw [show ct h i (k + 1) = up1 (ct h i k) (5, i, h.2 (3, i, 0) k) 3 ((ct h i k).1 (5, i, h.2 (3, i, 0) k) 2) from rfl, ← c2]
    by_cases z : j = k
    · subst z
      rw [rdk_me, if_pos (by omega), ih j hj, if_neg (Nat.lt_irrefl _)]
      have : (ct h i j).1 (5, i, (ct h i j).2 (3, i, 0) j) 2 = (rdk h i j).2.2.1 := by
        have := ih j hj
        rw [if_neg (Nat.lt_irrefl _)] at this
        exact congrArg (fun r : R5 => r.2.2.1) this
      rw [this]
      rfl
    · rw [rdk_at 3 _ P (by omega) hj z, ih j hj]
      by_cases z2 : j < k
      · rw [if_pos z2, if_pos (by omega)]
      · rw [if_neg z2, if_neg (by omega)]
theorem co_o (h : DH) (i : Nat) (κ : DKey) (hκ : κ.1 ≠ 4) : ∀ k, (co h i k).1 κ = h.1 κ := by
  intro k
  induction k with
  | zero => rfl
  | succ k ih =>
    rw [show co h i (k + 1) = coB i k (co h i k) from rfl]
    unfold coB
    split
    · exact ih
    · rw [sb_on (fun e => hκ (by rw [e]))]
      exact ih
theorem co_6 (h : DH) (i e : Nat) : ∀ k, (co h i k).1 (4, i, e) 6 = h.1 (4, i, e) 6 := by
  intro k
  induction k with
  | zero => rfl
  | succ k ih =>
    rw [show co h i (k + 1) = coB i k (co h i k) from rfl]
    unfold coB
    split
    · exact ih
    · by_cases z : (4, i, e) = (4, i, k)
      · have zk : e = k := by simpa using z
        subst zk
        rw [sb_v, if_neg (by decide)]
        exact ih
      · rw [sb_on z]
        exact ih
theorem cut_SR {h : DH} {i c : Nat} {s : Nat → Int32} (hs : SR h i c s) : SR (ct (co h i 12) i c) i c (coM s c 12) ∧ ∀ k, k < 21 → coM s c 12 k = s k := by
  have hs' := hs
  obtain ⟨h1, h2, h3, h4, h5, h6, h7, h8, h9, h10, h11⟩ := hs'
  have A : ∀ d, d ≤ 12 → CO h i c s d (coM s c d) := by
    intro d
    induction d with
    | zero => intro _; exact ⟨h1, h10, fun _ _ _ => rfl, fun e _ t => absurd t (by omega), fun _ _ => rfl, rfl, fun k _ e _ _ => by rw [if_neg (by omega)]; rfl⟩
    | succ d ih => intro hd; exact CO_step (by omega) hs (ih (by omega))
  obtain ⟨g1, g2, g3, g4, g5, g6, g7⟩ := A 12 (Nat.le_refl _)
  obtain ⟨v1, v2⟩ := co_inv h i 12
  have v3 := fun κ hκ => co_o h i κ hκ 12
  have v6 := fun e => co_6 h i e 12
  generalize co h i 12 = G at g1 v1 v2 v3 v6 ⊢
  generalize coM s c 12 = M at g1 g2 g3 g4 g5 g6 g7 ⊢
  have PG : pmi G i := fun a b ha hb hab => h6 a b ha hb (by rw [v2] at hab; exact hab)
  obtain ⟨t1, t2⟩ := ct_inv G i c
  have rG : ∀ j, rdk G i j = rdk h i j := fun j => by unfold rdk; rw [v2, v3 _ (show (5 : Nat) ≠ 4 by decide)]
  have eR : ∀ k, k < c → rmk M k = rsR (rmk s k) := by
    intro k hk
    obtain ⟨e, he, hed, _⟩ := h11 _ (LM_mem.mpr ⟨k, hk, rfl⟩)
    rw [g7 k hk e he hed, if_pos he]
  have eS : ∀ k, k < c → rdk h i k = rmk s k := by
    intro k hk
    have a := LC_at (h := h) (i := i) hk
    rw [h5, LM_at hk] at a
    exact (Option.some.inj a).symm
  have mapk : (LM M c).map dk5 = (LM s c).map dk5 := by
    unfold LM
    rw [List.map_map, List.map_map]
    refine List.map_congr_left (fun k hk => ?_)
    show dk5 (rmk M k) = dk5 (rmk s k)
    rw [eR k (List.mem_range.mp hk)]
    rfl
  refine ⟨⟨g1.cg (ct_o G i _ (show (1 : Nat) ≠ 5 by decide) c) (fun k _ _ => by rw [t1]) (fun d _ f _ => by rw [ct_o G i _ (show (4 : Nat) ≠ 5 by decide) c]) (fun _ _ => rfl), by rw [t1, v1, h2], h3, g6.trans h4, ?_, fun a b ha hb hab => PG a b ha hb (by rw [t2] at hab; exact hab), fun p hp => by rw [t2, v2]; exact h7 p hp, fun e he => ?_, ?_, g2, fun r hr => ?_⟩, g5⟩
  · unfold LC LM
    refine List.map_congr_left (fun k hk => ?_)
    have hk := List.mem_range.mp hk
    rw [ct_r PG c h3 k (by omega), if_pos hk, rG, eS k hk, eR k hk]
  · rw [ct_o G i _ (show (4 : Nat) ≠ 5 by decide) c, v6, h8 e he, cntD_map mapk]
  · unfold NInv
    rw [g5 0 (by decide), g5 5 (by decide), g5 6 (by decide), g5 7 (by decide), g5 15 (by decide)]
    exact h9
  · obtain ⟨k, hk, rfl⟩ := LM_mem.mp hr
    obtain ⟨e, he, hed, hd3, l, t, l1, l2, l3, l4, l5, l6⟩ := h11 _ (LM_mem.mpr ⟨k, hk, rfl⟩)
    have w0 : M (oD e 0) = 0 := by rw [g4 e he he, if_neg hd3]
    rw [eR k hk]
    exact ⟨e, he, hed, by rw [w0]; decide, t, t, by omega, Nat.le_refl _, l3, l5, l5, fun _ => rfl⟩
