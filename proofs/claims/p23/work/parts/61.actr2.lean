/-! acts on a state, on both sides: read, drop, fail, replace -/
theorem SR.al {h : DH} {i c : Nat} {s : Nat → Int32} (hs : SR h i c s) : ∀ r ∈ LM s c, 0 < lf r := by
  intro r hr
  obtain ⟨e, _, _, _, l, t, l1, l2, l3, l4, _⟩ := hs.2.2.2.2.2.2.2.2.2.2 r hr
  rw [l4]
  exact (nIpos (by omega)).mpr (by omega)
theorem SR.rd {h : DH} {i c k : Nat} {s : Nat → Int32} (hs : SR h i c s) (hk : k < c) : rdk h i k = rmk s k := by
  have a := LC_at (h := h) (i := i) hk
  rw [hs.2.2.2.2.1, LM_at hk] at a
  exact (Option.some.inj a).symm
theorem SR.plc {h : DH} {i c : Nat} {s : Nat → Int32} (hs : SR h i c s) (x : Int32) : cplc h i c x = mplc s c x := fp_congr (fun k hk => by
  have a := congrArg (fun r : R5 => r.1) (hs.rd hk)
  have a : h.1 (5, i, h.2 (3, i, 0) k) 0 = s (oR k 0) := a
  rw [a])
theorem cpk_r5 {h h' : DH} {i k : Nat} (e2 : h'.2 (3, i, 0) k = h.2 (3, i, 0) k) (e : ∀ f, f < 5 → h'.1 (5, i, h.2 (3, i, 0) k) f = h.1 (5, i, h.2 (3, i, 0) k) f) : rdk h' i k = rdk h i k := by
  simp only [rdk]
  rw [e2, e 0 (by decide), e 1 (by decide), e 2 (by decide), e 3 (by decide), e 4 (by decide)]
/-- a read is asked for -/
theorem LC_add {h : DH} {i c d : Nat} {t : Int32} (hp : pmi h i) (hc : c < 30) : LC (caddH h i c d t) i (c + 1) = LC h i c ++ [(h.1 (0, i, 0) 4, nI d, t, t, h.1 (0, i, 0) 8)] := by
  rw [LC_succ]
  refine congr (congrArg _ (LC_cg (fun k hk => cpk_r5 rfl (fun f hf => ?_)))) ?_
  · have hne : ((5, i, h.2 (3, i, 0) k) : DKey) ≠ (5, i, h.2 (3, i, 0) c) := fun e => by
      have := hp k c (by omega) hc (by simpa using e)
      omega
    unfold caddH
    rw [up1_ne _ _ _ (by simp), up1_ne _ _ _ (by simp), up1_ne _ _ _ (by simp), up1_ne _ _ _ hne, up1_ne _ _ _ hne, up1_ne _ _ _ hne, up1_ne _ _ _ hne, up1_ne _ _ _ hne]
  · refine congrArg (fun r => [r]) ?_
    unfold rdk caddH
    simp [up1_1, up1_2]
theorem LM_succ (s : Nat → Int32) (c : Nat) : LM s (c + 1) = LM s c ++ [rmk s c] := by
  unfold LM
  rw [List.range_succ, List.map_append]
  rfl
theorem mask_lo {s : Nat → Int32} {c d : Nat} {t : Int32} {k : Nat} (hk : k < 93) (h12 : k ≠ 12) : mask s c d t k = s k := by
  unfold mask
  rw [upd_n _ _ h12, upd_n _ _ (by omega), upd_n _ _ (by unfold oR; omega), upd_n _ _ (by unfold oR; omega), upd_n _ _ (by unfold oR; omega), upd_n _ _ (by unfold oR; omega), upd_n _ _ (by unfold oR; omega)]
theorem mask_R (s : Nat → Int32) (c d : Nat) (t : Int32) (k w : Nat) (hw : w < 5) : mask s c d t (oR k w) = if k = c then (if w = 0 then s 12 else if w = 1 then nI d else if w = 2 then t else if w = 3 then t else s 10) else s (oR k w) := by
  unfold mask
  rw [upd_n _ _ (oR_lt _ _ _ (by decide)), upd_n _ _ (oR_lt _ _ _ (by decide))]
  by_cases z : k = c
  · subst z
    rw [if_pos rfl]
    have h5 : w = 0 ∨ w = 1 ∨ w = 2 ∨ w = 3 ∨ w = 4 := by omega
    rcases h5 with rfl | rfl | rfl | rfl | rfl <;> simp [upd, oR]
  · rw [if_neg z]
    have e : ∀ w', w' < 5 → oR k w ≠ oR c w' := fun w' hw' => by unfold oR; omega
    rw [upd_n _ _ (e 4 (by decide)), upd_n _ _ (e 3 (by decide)), upd_n _ _ (e 2 (by decide)), upd_n _ _ (e 1 (by decide)), upd_n _ _ (e 0 (by decide))]
theorem LM_add (s : Nat → Int32) (c d : Nat) (t : Int32) : LM (mask s c d t) (c + 1) = LM s c ++ [(s 12, nI d, t, t, s 10)] := by
  rw [LM_succ]
  refine congr (congrArg _ ?_) ?_
  · unfold LM
    refine List.map_congr_left (fun k hk => ?_)
    have hk := List.mem_range.mp hk
    have hn : k ≠ c := by omega
    rw [rmk_eq, rmk_eq, mask_R _ _ _ _ _ _ (by decide), mask_R _ _ _ _ _ _ (by decide), mask_R _ _ _ _ _ _ (by decide), mask_R _ _ _ _ _ _ (by decide), mask_R _ _ _ _ _ _ (by decide), if_neg hn, if_neg hn, if_neg hn, if_neg hn, if_neg hn]
  · refine congrArg (fun r => [r]) ?_
    rw [rmk_eq, mask_R _ _ _ _ _ _ (by decide), mask_R _ _ _ _ _ _ (by decide), mask_R _ _ _ _ _ _ (by decide), mask_R _ _ _ _ _ _ (by decide), mask_R _ _ _ _ _ _ (by decide)]
    simp
theorem wip150 {t : Int32} (h : wip t 1 50) : ∃ k, 1 ≤ k ∧ k ≤ 50 ∧ t = nI k := wip_nI2 (a := 1) (b := 50) (by decide) (by decide) h
theorem cntD_one (x : Int32) (r : R5) : cntD x [r] = if dk5 r = x then 1 else 0 := by
  rw [cntD_cons]
  rfl
theorem read_add {h : DH} {i c d : Nat} {s : Nat → Int32} {t : Int32} (hs : SR h i c s) (hd : d < 12) (hc : c < 30) (ht : wip t 1 50) (h3 : ¬ s (oD d 0) = 3) : SR (caddH h i c d t) i (c + 1) (mask s c d t) := by
  obtain ⟨h1, h2, h30, h4, h5, h6, h7, h8, h9, h10, h11⟩ := hs
  have r4 := h1.2.1 4 (by decide) (by decide)
  have r4 : h.1 (0, i, 0) 4 = s 12 := r4
  have r8 := h1.2.1 8 (by decide) (by decide)
  have r8 : h.1 (0, i, 0) 8 = s 10 := r8
  have eL := LM_add s c d t
  have e0 : ∀ e w, e < 12 → w < 6 → mask s c d t (oD e w) = s (oD e w) := fun e w he hw => mask_lo (by unfold oD; omega) (by unfold oD; omega)
  refine ⟨?_, ?_, by omega, ?_, ?_, h6, h7, fun e he => ?_, ?_, fun e he => (h10 e he).cg (fun w hw => e0 e w he hw), fun r hr => ?_⟩
  · unfold caddH mask
    rw [r4]
    exact RB.d6 (RB.sc (k := 4) (RB.mh (RB.mh (RB.mh (RB.mh (RB.mh (RB.mh (RB.c3 (RB.rd (RB.rd (RB.rd (RB.rd (RB.rd h1 _ _ _) _ _ _) _ _ _) _ _ _) _ _ _) _) (by unfold oR; omega) _) (by unfold oR; omega) _) (by unfold oR; omega) _) (by unfold oR; omega) _) (by unfold oR; omega) _) (by omega) _) (by decide) (by decide) _) d _
  · unfold caddH
    rw [up1_ne _ _ _ (by simp), up1_1, if_neg (fun u => absurd u.2 (by decide)), up1_1, if_pos ⟨rfl, rfl⟩]
  · unfold mask
    rw [upd_n _ _ (by decide), upd_s]
  · rw [LC_add h6 hc, eL, h5, r4, r8]
  · rw [eL, cntD_app, cntD_one, ← nI_add]
    unfold caddH
    rw [up1_1]
    by_cases z : e = d
    · subst z
      rw [if_pos ⟨rfl, rfl⟩, h8 e he]
      rw [if_pos (show dk5 (s 12, nI e, t, t, s 10) = nI e from rfl)]
      rfl
    · rw [if_neg (fun u => z (by simpa using u.1)), up1_ne _ _ _ (by simp), up1_ne _ _ _ (by simp), up1_ne _ _ _ (by simp), up1_ne _ _ _ (by simp), up1_ne _ _ _ (by simp), up1_ne _ _ _ (by simp), up1_ne _ _ _ (by simp), h8 e he]
      rw [if_neg (show ¬ dk5 (s 12, nI d, t, t, s 10) = nI e from fun u => z (nI_inj (by omega) (by omega) u).symm), nI_0, Int32.add_zero]
  · unfold NInv
    rw [mask_lo (by decide) (by decide), mask_lo (by decide) (by decide), mask_lo (by decide) (by decide), mask_lo (by decide) (by decide), mask_lo (by decide) (by decide)]
    exact h9
  · rw [eL] at hr
    rcases List.mem_append.mp hr with hr | hr
    · refine (h11 r hr).cg (fun e he _ => ?_)
      rw [e0 e 0 he (by decide)]
      exact ⟨(em_ne _ 3).symm, id⟩
    · rw [List.mem_singleton.mp hr]
      obtain ⟨k, k1, k2, rfl⟩ := wip150 ht
      exact ⟨d, hd, rfl, by rw [e0 d 0 hd (by decide)]; exact h3, k, k, k1, Nat.le_refl _, k2, rfl, rfl, fun _ => rfl⟩
/-- a read is taken back -/
theorem live_set : ∀ (L : List R5) (p : Nat) (r : R5), (∀ x ∈ L, 0 < lf x) → p < L.length → ¬ 0 < lf r → live (L.set p r) = L.eraseIdx p := by
  intro L
  induction L with
  | nil => intro p r _ hp; exact absurd hp (by simp)
  | cons a L ih =>
    intro p r ha hp hr
    have hL : live L = L := List.filter_eq_self.mpr (fun x hx => by simpa using ha x (List.mem_cons_of_mem _ hx))
    cases p with
    | zero =>
      show live (r :: L) = L
      rw [live_cons, if_neg hr, hL]
    | succ p =>
      show live (a :: L.set p r) = a :: L.eraseIdx p
      rw [live_cons, if_pos (ha a List.mem_cons_self), ih p r (fun x hx => ha x (List.mem_cons_of_mem _ hx)) (by simpa using hp) hr]
def r50 (r : R5) : R5 := (r.1, r.2.1, r.2.2.1, 0, r.2.2.2.2)
theorem LC_drp {h : DH} {i c p : Nat} (hpm : pmi h i) (hc : c ≤ 30) (hp : p < c) : LC (drpG h i p) i c = (LC h i c).set p (r50 (rdk h i p)) := by
  refine List.ext_getElem? fun k => ?_
  by_cases hk : k < c
  · rw [LC_at hk, List.getElem?_set, LC_len]
    unfold drpG
    by_cases e : p = k
    · subst e
      rw [if_pos rfl, if_pos hk, rdk_me]
      rfl
    · rw [if_neg e, LC_at hk, rdk_at 3 _ hpm (by omega) (by omega) (fun t => e t.symm)]
  · rw [List.getElem?_eq_none (by rw [LC_len]; omega), List.getElem?_eq_none (by rw [List.length_set, LC_len]; omega)]
theorem set_map (L : List R5) (p : Nat) (r : R5) (h : (L[p]?).map dk5 = some (dk5 r)) : (L.set p r).map dk5 = L.map dk5 := by
  refine List.ext_getElem? fun k => ?_
  rw [List.getElem?_map, List.getElem?_map, List.getElem?_set]
  by_cases e : p = k
  · subst e
    rw [if_pos rfl, h]
    by_cases hk : p < L.length
    · rw [if_pos hk]; rfl
    · rw [List.getElem?_eq_none (by omega)] at h
      cases h
  · rw [if_neg e]
theorem drop_SR {h : DH} {i c p : Nat} {s : Nat → Int32} (hs : SR h i c s) (hp : p < c) : (sw (drpG h i p) i c).2 = c - 1 ∧ SR (drpH h i c p) i (c - 1) (mrm s p c) := by
  have hal := hs.al
  have hro := hs.rok
  have hrd := hs.rd hp
  obtain ⟨h1, h2, h30, h4, h5, h6, h7, h8, h9, h10, h11⟩ := hs
  have P : pmi (drpG h i p) i := h6
  have ro : rok (drpG h i p) i c := by
    intro k hk
    obtain ⟨d, hd, e⟩ := hro k hk
    refine ⟨d, hd, ?_⟩
    unfold drpG
    rw [up1_1, if_neg (fun t => absurd t.2 (by decide))]
    exact e
  obtain ⟨x1, x2, x3, x4, x5, x6, x7, x8, x9, x10, x11⟩ := SW_all h30 P ro c (Nat.le_refl c)
  have eS := LC_drp h6 h30 hp
  have eE : live (LC (drpG h i p) i c) = (LM s c).eraseIdx p := by
    rw [eS, h5]
    exact live_set _ _ _ hal (by rw [LM_len]; exact hp) (show ¬ (0 : Int32) < 0 by decide)
  have em : (sw (drpG h i p) i c).2 = c - 1 := by
    have := congrArg List.length x8
    rw [LC_len, eE, List.length_eraseIdx, LM_len, if_pos hp] at this
    exact this
  refine ⟨em, ?_⟩
  have eR := LM_rm hp h30 (s := s)
  have e0 : ∀ e w, e < 12 → w < 6 → mrm s p c (oD e w) = s (oD e w) := fun e w he hw => mrm_lo (by unfold oD; omega)
  have eM : (LC (drpG h i p) i c).map dk5 = (LM s c).map dk5 := by
    rw [eS, h5]
    refine set_map _ _ _ ?_
    rw [LM_at hp, hrd]
    rfl
  unfold drpH
  rw [em] at x8 ⊢
  generalize sw (drpG h i p) i c = Q at x2 x3 x4 x5 x6 x8 x9 x10 x11 ⊢
  obtain ⟨G, m⟩ := Q
  dsimp only at x2 x3 x4 x5 x6 x8 x9 x10 x11 ⊢
  have eG : ∀ κ : DKey, κ.1 ≠ 5 → (drpG h i p).1 κ = h.1 κ := fun κ hκ => by unfold drpG; rw [up1_ne _ _ _ (fun e => hκ (by rw [e]))]
  refine ⟨⟨fun n hn => ?_, fun k hk hk2 => ?_, fun e he f hf => ?_⟩, by rw [up1_1, if_pos ⟨rfl, rfl⟩], by omega, mrm_93 _ _ _, ?_, x9, fun q hq => x11 h7 q hq, fun e he => ?_, ?_, fun e he => (h10 e he).cg (fun w hw => e0 e w he hw), fun r hr => ?_⟩
  · rw [up1_ne _ _ _ (by simp), x3, eG _ (by simp), mrm_lo (by omega)]
    exact h1.1 n hn
  · rw [up1_1, if_neg (fun t => by omega), x4, eG _ (by simp), mrm_lo (by have := ms_lt k; omega)]
    exact h1.2.1 k hk hk2
  · rw [up1_ne _ _ _ (by simp), x5 e f (by omega), eG _ (by simp), mrm_lo (by have := mf_lt hf; unfold oD; omega)]
    exact h1.2.2 e he f hf
  · rw [LC_o (show (0 : Nat) ≠ 5 by decide), x8, eE, eR]
  · rw [up1_ne _ _ _ (by simp), eR]
    have y := x6 e he
    rw [eG _ (by simp), h8 e he, ← cntD_map eM (nI e), cnt_two, eE, ← nI_add] at y
    exact i_canc y
  · unfold NInv
    rw [mrm_lo (by decide), mrm_lo (by decide), mrm_lo (by decide), mrm_lo (by decide), mrm_lo (by decide)]
    exact h9
  · rw [eR] at hr
    refine (h11 r (List.mem_of_mem_eraseIdx hr)).cg (fun e he _ => ?_)
    rw [e0 e 0 he (by decide)]
    exact ⟨(em_ne _ 3).symm, id⟩
/-- a fault is planned -/
theorem fail_SR {h : DH} {i c d : Nat} {s : Nat → Int32} (hs : SR h i c s) (hd : d < 12) : SR (up1 h (4, i, d) 5 1) i c (upd s (oD d 4) 1) ∧ cplans (up1 h (4, i, d) 5 1) i = mpl (upd s (oD d 4) 1) := by
  have hsr : SR (up1 h (4, i, d) 5 1) i c (upd s (oD d 4) 1) := by
    obtain ⟨h1, h2, h30, h4, h5, h6, h7, h8, h9, h10, h11⟩ := hs
    have lo : ∀ k, k < 21 → upd s (oD d 4) 1 k = s k := fun k hk => upd_n _ _ (by unfold oD; omega)
    refine ⟨h1.dk hd (show 5 < 6 by decide) 1, by rw [up1_ne _ _ _ (by simp)]; exact h2, h30, by rw [upd_n _ _ (by unfold oD; omega)]; exact h4, by rw [LC_40, LM_oD hd (by decide), h5], h6, h7, fun e he => ?_, ?_, fun e he => ?_, fun r hr => ?_⟩
    · rw [up1_1, if_neg (fun t => absurd t.2 (by decide)), LM_oD hd (by decide)]
      exact h8 e he
    · unfold NInv
      rw [lo 0 (by decide), lo 5 (by decide), lo 6 (by decide), lo 7 (by decide), lo 15 (by decide)]
      exact h9
    · obtain ⟨y1, y2, y3, y4, y5, y6⟩ := h10 e he
      have k : ∀ w, w < 6 → w ≠ 4 → upd s (oD d 4) 1 (oD e w) = s (oD e w) := fun w hw h4 => upd_n _ _ (oD_ne hw (by decide) (Or.inr h4))
      unfold DInv
      rw [k 0 (by decide) (by decide), k 1 (by decide) (by decide), k 2 (by decide) (by decide), k 3 (by decide) (by decide)]
      refine ⟨y1, y2, y3, y4, y5, ?_⟩
      by_cases z : e = d
      · subst z
        rw [upd_s]
        exact Or.inr rfl
      · rw [upd_n _ _ (oD_ne (by decide) (by decide) (Or.inl z))]
        exact y6
    · rw [LM_oD hd (by decide)] at hr
      refine (h11 r hr).cg (fun e he _ => ?_)
      rw [upd_n _ _ (oD_ne (by decide) (by decide) (Or.inr (by decide)))]
      exact ⟨(em_ne _ 3).symm, id⟩
  refine ⟨hsr, ?_⟩
  obtain ⟨h1, h2, h30, h4, h5, h6, h7, h8, h9, h10, h11⟩ := hsr
  refine sumN_cg 12 (fun e he => ?_)
  rw [h1.2.2 e he 5 (by decide), show mf 5 = 4 from rfl]
  rcases (h10 e he).2.2.2.2.2 with z | z
  · rw [z, if_pos rfl]
  · rw [z, if_neg (by decide)]
/-- a disk is replaced -/
def rsD (x : Int32) (r : R5) : R5 := if dk5 r = x then rsR r else r
theorem crp_o (h : DH) (i d : Nat) (κ : DKey) (hκ : κ.1 ≠ 5) : ∀ k, (crp h i d k).1 κ = (crp h i d 0).1 κ := by
  intro k
  induction k with
  | zero => rfl
  | succ k ih =>
    rw [show crp h i d (k + 1) = crpB (crp h i d k) i d k from rfl]
    unfold crpB
    split
    · rw [up1_ne _ _ _ (fun e => hκ (by rw [e]))]
      exact ih
    · exact ih
theorem crp_r {h : DH} {i d : Nat} (hp : pmi h i) : ∀ k, k ≤ 30 → ∀ j, j < 30 → rdk (crp h i d k) i j = if j < k then rsD (nI d) (rdk h i j) else rdk h i j := by
  intro k
  induction k with
  | zero =>
    intro _ j _
    rw [if_neg (by omega)]
    refine cpk_r5 rfl (fun f _ => ?_)
    show (up1 (up1 (up1 (sbH h (4, i, d)) (4, i, d) 2 0) (4, i, d) 4 0) (4, i, d) 5 0).1 _ f = _
    rw [up1_ne _ _ _ (by simp), up1_ne _ _ _ (by simp), up1_ne _ _ _ (by simp), sb_on (by simp)]
  | succ k ih =>
    intro hk j hj
    have c2 := crp_2 h i d k
    have ih := ih (by omega)
    have P : pmi (crp h i d k) i := fun a b ha hb hab => hp a b ha hb (by rw [c2] at hab; exact hab)
    rw [show crp h i d (k + 1) = crpB (crp h i d k) i d k from rfl]
    have ihk := ih k (by omega)
    rw [if_neg (Nat.lt_irrefl _)] at ihk
    have e1 : (crp h i d k).1 (5, i, (crp h i d k).2 (3, i, 0) k) 1 = dk5 (rdk h i k) := congrArg dk5 ihk
    unfold crpB
    rw [e1]
    by_cases zd : dk5 (rdk h i k) = nI d
    · rw [if_pos zd]
      by_cases z : j = k
      · subst z
        rw [rdk_me, if_pos (by omega), ihk]
        have : (crp h i d j).1 (5, i, (crp h i d j).2 (3, i, 0) j) 2 = (rdk h i j).2.2.1 := congrArg (fun r : R5 => r.2.2.1) ihk
        rw [this]
        unfold rsD
        rw [if_pos zd]
        rfl
      · rw [rdk_at 3 _ P (by omega) hj z, ih j hj]
        by_cases z2 : j < k
        · rw [if_pos z2, if_pos (by omega)]
        · rw [if_neg z2, if_neg (by omega)]
    · rw [if_neg zd, ih j hj]
      by_cases z : j = k
      · subst z
        rw [if_neg (Nat.lt_irrefl _), if_pos (by omega)]
        unfold rsD
        rw [if_neg zd]
      · by_cases z2 : j < k
        · rw [if_pos z2, if_pos (by omega)]
        · rw [if_neg z2, if_neg (by omega)]
theorem mz_at (s : Nat → Int32) (d k : Nat) : mz s d k = if oD d 0 ≤ k ∧ k < oD d 0 + 6 then 0 else s k := rfl
theorem mz_D (s : Nat → Int32) {d e w : Nat} (hw : w < 6) : mz s d (oD e w) = if e = d then 0 else s (oD e w) := by
  rw [mz_at]
  by_cases z : e = d
  · rw [if_pos z, if_pos (by subst z; unfold oD; omega)]
  · rw [if_neg z, if_neg (by unfold oD; omega)]
theorem mz_o (s : Nat → Int32) {d k : Nat} (hd : d < 12) (hk : k < 21 ∨ 93 ≤ k) : mz s d k = s k := by
  rw [mz_at, if_neg (by unfold oD; omega)]
theorem crp_D (h : DH) (i d e f : Nat) (k : Nat) : (crp h i d k).1 (4, i, e) f = if e = d ∧ f < 6 then 0 else h.1 (4, i, e) f := by
  rw [crp_o _ _ _ _ (by simp)]
  show (up1 (up1 (up1 (sbH h (4, i, d)) (4, i, d) 2 0) (4, i, d) 4 0) (4, i, d) 5 0).1 (4, i, e) f = _
  by_cases z : e = d
  · subst z
    simp only [up1_1, sb_v]
    by_cases hf : f < 6
    · have h6 : f = 0 ∨ f = 1 ∨ f = 2 ∨ f = 3 ∨ f = 4 ∨ f = 5 := by omega
      rcases h6 with rfl | rfl | rfl | rfl | rfl | rfl <;> simp
    · have n0 : ¬ f = 0 := by omega
      have n1 : ¬ f = 1 := by omega
      have n2 : ¬ f = 2 := by omega
      have n3 : ¬ f = 3 := by omega
      have n4 : ¬ f = 4 := by omega
      have n5 : ¬ f = 5 := by omega
      simp [hf, n0, n1, n2, n3, n4, n5]
  · have hne : ((4, i, e) : DKey) ≠ (4, i, d) := fun t => z (by simpa using t)
    rw [up1_ne _ _ _ hne, up1_ne _ _ _ hne, up1_ne _ _ _ hne, sb_on hne, if_neg (fun t => z t.1)]
theorem rep_SR {h : DH} {i c d : Nat} {s : Nat → Int32} (hs : SR h i c s) (hd : d < 12) : SR (crp h i d c) i c (ban (mz s d) d c) := by
  have hrd := fun k hk => hs.rd (k := k) hk
  obtain ⟨h1, h2, h30, h4, h5, h6, h7, h8, h9, h10, h11⟩ := hs
  have bo : ∀ k, k < 94 → ban (mz s d) d c k = mz s d k := fun k hk => ban_o _ _ _ _ (fun j _ => by unfold oR; omega)
  have lo : ∀ k, k < 21 → ban (mz s d) d c k = s k := fun k hk => (bo k (by omega)).trans (mz_o s hd (Or.inl hk))
  have bD : ∀ e w, e < 12 → w < 6 → ban (mz s d) d c (oD e w) = if e = d then 0 else s (oD e w) := fun e w he hw => by
    rw [bo _ (by unfold oD; omega), mz_D s hw]
  have br : ∀ k, k < c → rmk (ban (mz s d) d c) k = rsD (nI d) (rmk s k) := fun k hk => by
    rw [ban_r _ _ _ hk, rmk_cg (s := s) (s' := mz s d) (fun j hj => mz_o s hd (Or.inr (by omega)))]
    rfl
  have eL : LM (ban (mz s d) d c) c = (LM s c).map (rsD (nI d)) := by
    unfold LM
    rw [List.map_map]
    refine List.map_congr_left (fun k hk => br k (List.mem_range.mp hk))
  have dkR : ∀ r, dk5 (rsD (nI d) r) = dk5 r := fun r => by
    unfold rsD
    split <;> rfl
  refine ⟨⟨fun n hn => ?_, fun k hk hk2 => ?_, fun e he f hf => ?_⟩, ?_, h30, ?_, ?_, ?_, fun p hp => ?_, fun e he => ?_, ?_, fun e he => ?_, fun r hr => ?_⟩
  · rw [crp_o _ _ _ _ (by simp), lo n (by omega)]
    show (up1 (up1 (up1 (sbH h (4, i, d)) (4, i, d) 2 0) (4, i, d) 4 0) (4, i, d) 5 0).1 _ n = _
    rw [up1_ne _ _ _ (by simp), up1_ne _ _ _ (by simp), up1_ne _ _ _ (by simp), sb_on (by simp)]
    exact h1.1 n hn
  · rw [crp_0, lo _ (ms_lt k).2]
    exact h1.2.1 k hk hk2
  · rw [crp_D, bD e _ he (mf_lt hf)]
    by_cases z : e = d
    · rw [if_pos ⟨z, hf⟩, if_pos z]
    · rw [if_neg (fun t => z t.1), if_neg z]
      exact h1.2.2 e he f hf
  · rw [crp_0]; exact h2
  · rw [bo 93 (by decide), mz_o s hd (Or.inr (by decide))]
    exact h4
  · rw [eL]
    unfold LC LM
    rw [List.map_map]
    refine List.map_congr_left (fun k hk => ?_)
    have hk := List.mem_range.mp hk
    rw [crp_r h6 c h30 k (by omega), if_pos hk, hrd k hk]
    rfl
  · intro a b ha hb hab
    rw [crp_2] at hab
    exact h6 a b ha hb hab
  · rw [crp_2]
    exact h7 p hp
  · rw [crp_D, if_neg (fun t => absurd t.2 (by decide)), h8 e he, eL]
    refine congrArg nI (cntD_map ?_ _)
    rw [List.map_map]
    exact List.map_congr_left (fun r _ => (dkR r).symm)
  · unfold NInv
    rw [lo 0 (by decide), lo 5 (by decide), lo 6 (by decide), lo 7 (by decide), lo 15 (by decide)]
    exact h9
  · unfold DInv
    rw [bD e 0 he (by decide), bD e 1 he (by decide), bD e 2 he (by decide), bD e 3 he (by decide), bD e 4 he (by decide)]
    by_cases z : e = d
    · rw [if_pos z, if_pos z, if_pos z, if_pos z, if_pos z]
      exact ⟨⟨0, by decide, rfl⟩, fun t => absurd t (by decide), fun _ => rfl, fun _ => rfl, fun _ => ⟨0, by decide, rfl⟩, Or.inl rfl⟩
    · rw [if_neg z, if_neg z, if_neg z, if_neg z, if_neg z]
      exact h10 e he
  · rw [eL] at hr
    obtain ⟨r0, hr0, rfl⟩ := List.mem_map.mp hr
    obtain ⟨e, he, hed, h3, l, t, l1, l2, l3, l4, l5, l6⟩ := h11 r0 hr0
    refine ⟨e, he, (dkR r0).trans hed, ?_, ?_⟩
    · rw [bD e 0 he (by decide)]
      by_cases z : e = d
      · rw [if_pos z]; decide
      · rw [if_neg z]; exact h3
    · unfold rsD
      by_cases z : dk5 r0 = nI d
      · rw [if_pos z]
        exact ⟨t, t, by omega, Nat.le_refl _, l3, l5, l5, fun _ => rfl⟩
      · rw [if_neg z]
        have ned : e ≠ d := fun u => z (by rw [hed, u])
        rw [bD e 0 he (by decide), if_neg ned]
        exact ⟨l, t, l1, l2, l3, l4, l5, l6⟩
