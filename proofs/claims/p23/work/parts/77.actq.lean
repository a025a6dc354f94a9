/-! acts keep what the property asks -/
theorem QI.same {T : Nat} {s s' : Nat → Int32} (h : QI T s) (e : ∀ k, 10 ≤ k → k < 21 → k ≠ 15 → k ≠ 16 → k ≠ 17 → s' k = s k) (eD : ∀ d w, d < 12 → w = 0 ∨ w = 2 ∨ w = 5 → s' (oD d w) = s (oD d w)) (eL : ∀ k, 93 ≤ k → s' k = s k) : QI T s' := by
  obtain ⟨q10, qT, q1, q2, q3, q4, q5, q6, q11⟩ := h
  have ecc : cc s' = cc s := cc_cg (eL 93 (by decide))
  have eLL : LM s' (cc s') = LM s (cc s) := by rw [ecc]; exact LM_cg (fun k hk _ => eL k (by omega))
  have f := fun k (h1 : 10 ≤ k) (h2 : k < 15) => e k h1 (by omega) (by omega) (by omega) (by omega)
  refine ⟨(f 10 (by decide) (by decide)).trans q10, qT, q1.cg (fun d hd h3 => Or.inl ⟨(eD d 0 hd (Or.inl rfl)).symm.trans h3, eD d 2 hd (Or.inr (Or.inl rfl))⟩), by rw [f 12 (by decide) (by decide), eLL]; exact q2, by rw [f 10 (by decide) (by decide), eLL]; exact q3, ?_, q5.cg (Nat.le_refl _) (fun d hd h1 => (eD d 0 hd (Or.inl rfl)).symm.trans h1) (fun d hd => Or.inl (eD d 5 hd (Or.inr (Or.inr rfl)))) (e 18 (by decide) (by decide) (by decide) (by decide) (by decide)) (e 19 (by decide) (by decide) (by decide) (by decide) (by decide)), ?_, by rw [f 11 (by decide) (by decide)]; exact q11⟩
  · unfold Q4
    rw [f 12 (by decide) (by decide), f 13 (by decide) (by decide), f 14 (by decide) (by decide), ecc]
    exact q4
  · unfold Q6
    rw [f 13 (by decide) (by decide), e 20 (by decide) (by decide) (by decide) (by decide) (by decide)]
    exact q6
theorem QI.set {T : Nat} {s : Nat → Int32} (h : QI T s) {w : Nat} (hw : w < 10) (x : Int32) : QI T (upd s w x) := h.same (fun k hk _ _ _ _ => upd_n _ _ (by omega)) (fun d w' _ _ => upd_n _ _ (by unfold oD; omega)) (fun k hk => upd_n _ _ (by omega))
theorem QI.plan {T : Nat} {s : Nat → Int32} (h : QI T s) {d : Nat} (hd : d < 12) : QI T (upd s (oD d 4) 1) := h.same (fun k hk _ _ _ _ => upd_n _ _ (by unfold oD; omega)) (fun d' w' _ hw => upd_n _ _ (by unfold oD; omega)) (fun k hk => upd_n _ _ (by unfold oD; omega))
theorem QI.fuse {T : Nat} {s : Nat → Int32} (h : QI T s) : QI T (nf s) := h.same (fun k _ _ h15 h16 _ => by unfold nf; rw [upd_n _ _ h16, upd_n _ _ h15]) (fun d w _ hw => by unfold nf; rw [upd_n _ _ (by unfold oD; omega), upd_n _ _ (by unfold oD; omega)]) (fun k hk => by unfold nf; rw [upd_n _ _ (by omega), upd_n _ _ (by omega)])
theorem QI.read {T c d : Nat} {s : Nat → Int32} {t : Int32} (h : QI T s) (h93 : s 93 = nI c) (hc : c < 30) (hd : d < 12) (h500 : ∃ A, A < 500 ∧ s 12 = nI A) : QI T (mask s c d t) := by
  obtain ⟨q10, qT, q1, q2, q3, q4, q5, q6, q11⟩ := h
  have ecc : cc s = c := cc_of h93 (by omega)
  have e93 : mask s c d t 93 = nI (c + 1) := by
    unfold mask
    rw [upd_n _ _ (by decide), upd_s]
  have e12 : mask s c d t 12 = s 12 + 1 := upd_s _ _ _
  have ecc' : cc (mask s c d t) = c + 1 := cc_of e93 (by omega)
  have lo : ∀ k, k < 93 → k ≠ 12 → mask s c d t k = s k := fun k hk h12 => mask_lo hk h12
  have eD : ∀ e w, e < 12 → w < 6 → mask s c d t (oD e w) = s (oD e w) := fun e w he hw => lo _ (by unfold oD; omega) (by unfold oD; omega)
  have eL : LM (mask s c d t) (cc (mask s c d t)) = LM s c ++ [(s 12, nI d, t, t, s 10)] := by rw [ecc']; exact LM_add s c d t
  rw [ecc] at q2 q3 q4
  obtain ⟨A, hA, h12⟩ := h500
  have hA1 : s 12 < s 12 + 1 := by rw [h12, nI_1]; exact nI_lt (by omega) (by omega)
  refine ⟨(lo 10 (by decide) (by decide)).trans q10, qT, q1.cg (fun e he h3 => Or.inl ⟨(eD e 0 he (by decide)).symm.trans h3, eD e 2 he (by decide)⟩), ?_, ?_, ?_, q5.cg (Nat.le_refl _) (fun e he h1 => (eD e 0 he (by decide)).symm.trans h1) (fun e he => Or.inl (eD e 5 he (by decide))) (lo 18 (by decide) (by decide)) (lo 19 (by decide) (by decide)), ?_, by rw [lo 11 (by decide) (by decide)]; exact q11⟩
  · rw [e12, eL]
    refine ⟨List.pairwise_append.mpr ⟨q2.1, List.pairwise_singleton _ _, fun x hx y hy => ?_⟩, fun r hr => ?_⟩
    · rw [List.mem_singleton.mp hy]
      exact (q2.2 x hx).2
    · rcases List.mem_append.mp hr with hr | hr
      · exact ⟨(q2.2 r hr).1, Int32.lt_trans (q2.2 r hr).2 hA1⟩
      · rw [List.mem_singleton.mp hr]
        exact ⟨by show ¬ s 12 < 0; rw [h12]; exact nI_n0 (by omega), hA1⟩
  · rw [lo 10 (by decide) (by decide), eL]
    intro r hr
    rcases List.mem_append.mp hr with hr | hr
    · exact q3 r hr
    · rw [List.mem_singleton.mp hr]
      exact ⟨by show ¬ s 10 < 0; rw [q10]; exact nI_n0 (by omega), by show ¬ s 10 < s 10; exact Int32.not_lt.mpr (Int32.le_refl _)⟩
  · obtain ⟨a, b, A', w12, w13, w14, wle, wA⟩ := q4
    have eA : A' = A := nI_inj (by omega) (by omega) (w12.symm.trans h12)
    refine ⟨a, b, A' + 1, by rw [e12, w12, nI_1], (lo 13 (by decide) (by decide)).trans w13, (lo 14 (by decide) (by decide)).trans w14, by rw [ecc']; omega, by omega⟩
  · unfold Q6
    rw [lo 13 (by decide) (by decide), lo 20 (by decide) (by decide)]
    exact q6
theorem QI.drop {T c p : Nat} {s : Nat → Int32} (h : QI T s) (h93 : s 93 = nI c) (hc : c ≤ 30) (hp : p < c) : QI T (mrm s p c) := by
  obtain ⟨q10, qT, q1, q2, q3, q4, q5, q6, q11⟩ := h
  have ecc : cc s = c := cc_of h93 (by omega)
  have ecc' : cc (mrm s p c) = c - 1 := cc_of (mrm_93 s p c) (by omega)
  have lo : ∀ k, k < 93 → mrm s p c k = s k := fun k hk => mrm_lo hk
  have eD : ∀ e w, e < 12 → w < 6 → mrm s p c (oD e w) = s (oD e w) := fun e w he hw => lo _ (by unfold oD; omega)
  have sub : (LM (mrm s p c) (cc (mrm s p c))).Sublist (LM s (cc s)) := by
    rw [ecc', ecc, LM_rm hp hc]
    exact List.eraseIdx_sublist _ _
  refine ⟨(lo 10 (by decide)).trans q10, qT, q1.cg (fun e he h3 => Or.inl ⟨(eD e 0 he (by decide)).symm.trans h3, eD e 2 he (by decide)⟩), by rw [lo 12 (by decide)]; exact q2.sub sub, by rw [lo 10 (by decide)]; exact q3.sub (fun r hr => sub.subset hr), ?_, q5.cg (Nat.le_refl _) (fun e he h1 => (eD e 0 he (by decide)).symm.trans h1) (fun e he => Or.inl (eD e 5 he (by decide))) (lo 18 (by decide)) (lo 19 (by decide)), ?_, by rw [lo 11 (by decide)]; exact q11⟩
  · obtain ⟨a, b, A, w12, w13, w14, wle, wA⟩ := q4
    exact ⟨a, b, A, (lo 12 (by decide)).trans w12, (lo 13 (by decide)).trans w13, (lo 14 (by decide)).trans w14, by rw [ecc']; omega, wA⟩
  · unfold Q6
    rw [lo 13 (by decide), lo 20 (by decide)]
    exact q6
theorem QI.rep {T c d : Nat} {s : Nat → Int32} (h : QI T s) (h93 : s 93 = nI c) (hc : c ≤ 30) (hd : d < 12) : QI T (ban (mz s d) d c) := by
  obtain ⟨q10, qT, q1, q2, q3, q4, q5, q6, q11⟩ := h
  have ecc : cc s = c := cc_of h93 (by omega)
  have lo : ∀ k, k < 21 ∨ k = 93 → ban (mz s d) d c k = s k := fun k hk => (ban_lo _ _ _ (by omega)).trans (mz_o s hd (by omega))
  have eD : ∀ e w, e < 12 → w < 6 → ban (mz s d) d c (oD e w) = if e = d then 0 else s (oD e w) := fun e w he hw => (ban_lo _ _ _ (by unfold oD; omega)).trans (mz_D s hw)
  have ecc' : cc (ban (mz s d) d c) = cc s := cc_cg (lo 93 (Or.inr rfl))
  have eL : (LM (ban (mz s d) d c) (cc (ban (mz s d) d c))).map k3 = (LM s (cc s)).map k3 := by
    rw [ecc', ecc, ban_k3]
    exact congrArg (List.map k3) (LM_cg (fun k hk _ => mz_o s hd (Or.inr (by omega))))
  generalize ban (mz s d) d c = s' at lo eD ecc' eL ⊢
  have sub : ((LM s' (cc s')).map k3).Sublist ((LM s (cc s)).map k3) := by rw [eL]; exact List.Sublist.refl _
  have le := fun k (hk : k < 21) => lo k (Or.inl hk)
  have eD0 : ∀ e w, e < 12 → w < 6 → s' (oD e w) ≠ 0 → s' (oD e w) = s (oD e w) := fun e w he hw hne => by
    have := eD e w he hw
    by_cases z : e = d
    · rw [if_pos z] at this; exact absurd this hne
    · rw [if_neg z] at this; exact this
  refine ⟨(le 10 (by decide)).trans q10, qT, q1.cg (fun e he h3 => Or.inl ?_), by rw [le 12 (by decide)]; exact q2.via sub, by rw [le 10 (by decide)]; exact q3.via sub, ?_, q5.cg (Nat.le_refl _) (fun e he h1 => (eD0 e 0 he (by decide) (by rw [h1]; decide)).symm.trans h1) (fun e he => ?_) (le 18 (by decide)) (le 19 (by decide)), ?_, by rw [le 11 (by decide)]; exact q11⟩
  · have := eD0 e 0 he (by decide) (by rw [h3]; decide)
    refine ⟨this.symm.trans h3, ?_⟩
    have e2 := eD e 2 he (by decide)
    by_cases z : e = d
    · have e0 := eD e 0 he (by decide)
      rw [if_pos z, h3] at e0
      exact absurd e0 (by decide)
    · rw [if_neg z] at e2; exact e2
  · unfold Q4
    rw [le 12 (by decide), le 13 (by decide), le 14 (by decide), ecc']
    exact q4
  · by_cases z : s' (oD e 5) = 0
    · exact Or.inr z
    · exact Or.inl (eD0 e 5 he (by decide) z)
  · unfold Q6
    rw [le 13 (by decide), le 20 (by decide)]
    exact q6
/-- ticks in a row -/
theorem rk_Q {h : DH} {i c : Nat} {s : Nat → Int32} (f : Nat → Int32) (hs : SR h i c s) {T : Nat} (hq : QI T s) : ∀ k, T + k ≤ 110000 → QI (T + k) (rk s f k).1 := by
  intro k
  induction k with
  | zero => exact fun _ => hq
  | succ k ih =>
    intro hk
    obtain ⟨⟨c', h1⟩, _⟩ := pass_SR f hs k
    exact (tick_Q (rk s f k).2 h1 (ih (by omega)) (by omega)).1
theorem rk_TP {h : DH} {i c : Nat} {s : Nat → Int32} (f : Nat → Int32) (hs : SR h i c s) {T : Nat} (hq : QI T s) {k : Nat} (hk : T + k < 110000) : TP (T + k) (rk s f k).1 (rk s f (k + 1)).1 := by
  obtain ⟨⟨c', h1⟩, _⟩ := pass_SR f hs k
  exact (tick_Q (rk s f k).2 h1 (rk_Q f hs hq k (by omega)) (by omega)).2
/-- what holds over ticks in a row -/
theorem rk_mono {h : DH} {i c : Nat} {s : Nat → Int32} (f : Nat → Int32) (hs : SR h i c s) {T : Nat} (hq : QI T s) : ∀ k, T + k ≤ 110000 → ((LM (rk s f k).1 (cc (rk s f k).1)).map k3).Sublist ((LM s (cc s)).map k3) ∧ ans s ≤ ans (rk s f k).1 ∧ wtd s ≤ wtd (rk s f k).1 := by
  intro k
  induction k with
  | zero => exact fun _ => ⟨List.Sublist.refl _, Nat.le_refl _, Nat.le_refl _⟩
  | succ k ih =>
    intro hk
    obtain ⟨a1, a2, a3⟩ := ih (by omega)
    obtain ⟨b1, b2, b3, -, -⟩ := rk_TP f hs hq (k := k) (by omega)
    exact ⟨b1.trans a1, by omega, by omega⟩
theorem rk_brk {h : DH} {i c : Nat} {s : Nat → Int32} (f : Nat → Int32) (hs : SR h i c s) {T e : Nat} (hq : QI T s) (he : e < 12) {j : Nat} (h3 : (rk s f j).1 (oD e 0) = 3) : ∀ m, T + (j + m) ≤ 110000 → (rk s f (j + m)).1 (oD e 0) = 3 := by
  intro m
  induction m with
  | zero => exact fun _ => h3
  | succ m ih =>
    intro hm
    exact (rk_TP f hs hq (k := j + m) (by omega)).2.2.2.2 e he (ih (by omega))
theorem rk_ans {h : DH} {i c : Nat} {s : Nat → Int32} (f : Nat → Int32) (hs : SR h i c s) {T : Nat} (hq : QI T s) {k : Nat} (hk : T + k ≤ 110000) : (rk s f k).1 13 - s 13 = nI (ans (rk s f k).1 - ans s) ∧ ans (rk s f k).1 ≤ 500 := by
  obtain ⟨-, m2, -⟩ := rk_mono f hs hq k hk
  obtain ⟨a, W, h1, h2, -⟩ := hq.2.2.2.2.2.2.2.1
  obtain ⟨a', W', h1', h2', -⟩ := (rk_Q f hs hq k hk).2.2.2.2.2.2.2.1
  rw [ans_of h2 h1, ans_of h2' h1'] at m2
  rw [ans_of h2 h1, ans_of h2' h1', h2, h2', pk_sub m2]
  exact ⟨rfl, h1'⟩
theorem QI.a {T : Nat} {s : Nat → Int32} (h : QI T s) : s 13 = nI (ans s) ∧ ans s ≤ 500 := by
  obtain ⟨a, W, h1, h2, -⟩ := h.2.2.2.2.2.2.2.1
  rw [ans_of h2 h1]
  exact ⟨h2, h1⟩
theorem QI.w {T : Nat} {s : Nat → Int32} (h : QI T s) : s 20 = nI (wtd s) ∧ wtd s < 2 ^ 31 := by
  obtain ⟨a, W, h1, h2, h3, h4, h5⟩ := h.2.2.2.2.2.2.2.1.bd (Nat.le_succ_of_le h.2.1)
  rw [wtd_of h3 h5]
  exact ⟨h3, h5⟩
