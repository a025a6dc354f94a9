/-! a tick's starts, on a row: what the property asks -/
theorem cntD_fil (x : Int32) : ∀ L : List R5, (L.filter (fun r => decide (dk5 r ≠ x))).length + cntD x L = L.length := by
  intro L
  induction L with
  | nil => rfl
  | cons a L ih =>
    rw [cntD_cons, List.filter_cons, List.length_cons]
    by_cases z : dk5 a = x
    · rw [if_pos z, if_neg (by simpa using z)]
      omega
    · rw [if_neg z, if_pos (by simpa using z), List.length_cons]
      omega
/-- p' is p but for disk d and the failed starts -/
def dd (d : Nat) (p p' : Nat → Int32) : Prop := ∀ k, (∀ w, w < 6 → k ≠ oD d w) → k ≠ 19 → p' k = p k
theorem dd.lo {d : Nat} {p p' : Nat → Int32} (h : dd d p p') {k : Nat} (hk : k < 21 ∨ 93 ≤ k) (h19 : k ≠ 19) (hd : d < 12) : p' k = p k := h k (fun w hw => by unfold oD; omega) h19
theorem dd.e {d e w : Nat} {p p' : Nat → Int32} (h : dd d p p') (hne : e ≠ d) (hw : w < 6) : p' (oD e w) = p (oD e w) := h _ (fun w' hw' => by unfold oD; omega) (by unfold oD; omega)
theorem dd.xcc {d : Nat} {p p' : Nat → Int32} (h : dd d p p') (hd : d < 12) : cc p' = cc p := cc_cg (h.lo (Or.inr (by decide)) (by decide) hd)
theorem dd.xL {d : Nat} {p p' : Nat → Int32} (h : dd d p p') (hd : d < 12) (c : Nat) : LM p' c = LM p c := LM_cg (fun k hk _ => h.lo (Or.inr (by omega)) (by omega) hd)
theorem dd.rf {d : Nat} {p : Nat → Int32} : dd d p p := fun _ _ _ => rfl
theorem dd.u {d w : Nat} {p p' : Nat → Int32} (h : dd d p p') (hw : w < 6) (x : Int32) : dd d p (upd p' (oD d w) x) := fun k hk h19 => by
  rw [upd_n _ _ (hk w hw)]
  exact h k hk h19
theorem dd.u19 {d : Nat} {p p' : Nat → Int32} (h : dd d p p') (x : Int32) : dd d p (upd p' 19 x) := fun k hk h19 => by
  rw [upd_n _ _ h19]
  exact h k hk h19
theorem dd.sb {d : Nat} {p p' : Nat → Int32} (h : dd d p p') : dd d p (mSb p' d) := ((h.u (by decide) 0).u (by decide) 0).u (by decide) 0
def PA (s : Nat → Int32) (B d : Nat) (p : Nat → Int32) : Prop :=
  okC p ∧ (LM p (cc p)).Sublist (LM s (cc s)) ∧ p 14 = s 14 + nI (cc s - cc p) ∧ cc p ≤ cc s ∧
  (∀ r ∈ LM s (cc s), r ∈ LM p (cc p) ∨ ∃ e, e < d ∧ dk5 r = nI e ∧ p (oD e 0) = 3) ∧
  (∀ k, k < 21 → k ≠ 14 → k ≠ 19 → p k = s k) ∧ Q1 p ∧ Q5 p B ∧ (∀ e, d ≤ e → e < 12 → ∀ w, w < 6 → p (oD e w) = s (oD e w)) ∧ ∀ e, e < 12 → s (oD e 0) = 3 → p (oD e 0) = 3
theorem PA.step {s p p' : Nat → Int32} {B d : Nat} (h : PA s B d p) (hd : d < 12) (h1 : okC p') (h2 : (LM p' (cc p')).Sublist (LM p (cc p))) (h3 : p' 14 = p 14 + nI (cc p - cc p')) (h4 : cc p' ≤ cc p) (h5 : ∀ r ∈ LM p (cc p), r ∈ LM p' (cc p') ∨ (dk5 r = nI d ∧ p' (oD d 0) = 3)) (h6 : ∀ k, k < 21 → k ≠ 14 → k ≠ 19 → p' k = p k) (h7 : Q1 p') (h8 : Q5 p' B) (h9 : ∀ e, e < 12 → e ≠ d → ∀ w, w < 6 → p' (oD e w) = p (oD e w)) (h10 : p (oD d 0) = 3 → p' (oD d 0) = 3) : PA s B (d + 1) p' := by
  obtain ⟨g1, g2, g3, g4, g5, g6, g7, g8, g9, g10⟩ := h
  refine ⟨h1, h2.trans g2, ?_, Nat.le_trans h4 g4, fun r hr => ?_, fun k hk k1 k2 => (h6 k hk k1 k2).trans (g6 k hk k1 k2), h7, h8, fun e he he2 w hw => (h9 e he2 (by omega) w hw).trans (g9 e (by omega) he2 w hw), fun e he h3e => ?_⟩
  · rw [h3, g3, Int32.add_assoc, nI_add]
    congr 2
    omega
  · rcases g5 r hr with q | ⟨e, e1, e2, e3⟩
    · rcases h5 r q with q | ⟨q1, q2⟩
      · exact Or.inl q
      · exact Or.inr ⟨d, by omega, q1, q2⟩
    · exact Or.inr ⟨e, by omega, e2, by rw [h9 e (by omega) (by omega) 0 (by decide)]; exact e3⟩
  · by_cases z : e = d
    · subst z; exact h10 (g10 e he h3e)
    · rw [h9 e he z 0 (by decide)]; exact g10 e he h3e
theorem PA.same {s p p' : Nat → Int32} {B d : Nat} (h : PA s B d p) (hd : d < 12) (hh : dd d p p') (h7 : Q1 p') (h8 : Q5 p' B) (h10 : p (oD d 0) = 3 → p' (oD d 0) = 3) : PA s B (d + 1) p' := by
  have e1 := hh.xcc hd
  have e2 : LM p' (cc p') = LM p (cc p) := by rw [e1, hh.xL hd]
  refine h.step hd (h.1.of (hh.lo (Or.inr (by decide)) (by decide) hd)) (by rw [e2]; exact List.Sublist.refl _) ?_ (by rw [e1]; exact Nat.le_refl _) (fun r hr => Or.inl (by rw [e2]; exact hr)) (fun k hk _ k2 => hh.lo (Or.inl hk) k2 hd) h7 h8 (fun e _ he w hw => hh.e he hw) h10
  rw [hh.lo (Or.inl (by decide)) (by decide) hd, e1, Nat.sub_self, show nI 0 = 0 from rfl, Int32.add_zero]
theorem PA_step {s : Nat → Int32} {B d : Nat} (hd : d < 12) (q : (Nat → Int32) × (Nat → Int32)) (h : PA s B d q.1) : PA s B (d + 1) (stMB d q).1 := by
  obtain ⟨p, f⟩ := q
  unfold stMB
  dsimp only at h ⊢
  have h7 := h.2.2.2.2.2.2.1
  have h8 := h.2.2.2.2.2.2.2.1
  by_cases z : p (oD d 0) = 1
  · rw [if_pos z]
    have n3 : ¬ p (oD d 0) = 3 := by rw [z]; decide
    generalize hx : p (oD d 1) - 1 = x
    have D1 : dd d p (upd p (oD d 1) x) := dd.rf.u (by decide) x
    by_cases z1 : x = 0
    · rw [if_pos z1]
      unfold endM
      dsimp only
      by_cases z4 : upd p (oD d 1) x (oD d 4) = 0
      · rw [if_pos z4]
        dsimp only
        have D2 := ((D1.u (show 0 < 6 by decide) 2).u (show 2 < 6 by decide) 0).u (show 3 < 6 by decide) 0
        have v0 : upd (upd (upd (upd p (oD d 1) x) (oD d 0) 2) (oD d 2) 0) (oD d 3) 0 (oD d 0) = 2 := by rw [upd_n _ _ (by unfold oD; omega), upd_n _ _ (by unfold oD; omega), upd_s]
        have v5 : upd (upd (upd (upd p (oD d 1) x) (oD d 0) 2) (oD d 2) 0) (oD d 3) 0 (oD d 5) = p (oD d 5) := by rw [upd_n _ _ (by unfold oD; omega), upd_n _ _ (by unfold oD; omega), upd_n _ _ (by unfold oD; omega), upd_n _ _ (by unfold oD; omega)]
        have v19 : upd (upd (upd (upd p (oD d 1) x) (oD d 0) 2) (oD d 2) 0) (oD d 3) 0 19 = p 19 := by rw [upd_n _ _ (by unfold oD; omega), upd_n _ _ (by unfold oD; omega), upd_n _ _ (by unfold oD; omega), upd_n _ _ (by unfold oD; omega)]
        generalize upd (upd (upd (upd p (oD d 1) x) (oD d 0) 2) (oD d 2) 0) (oD d 3) 0 = p' at D2 v0 v5 v19 ⊢
        refine h.same hd D2 (h7.cg (fun e he h3 => ?_)) (h8.cg (Nat.le_refl _) (fun e he h1 => ?_) (fun e he => Or.inl ?_) (D2.lo (Or.inl (by decide)) (by decide) hd) v19) (fun t => absurd t n3)
        · by_cases ze : e = d
          · rw [ze, v0] at h3; exact absurd h3 (by decide)
          · rw [D2.e ze (by decide)] at h3
            exact Or.inl ⟨h3, D2.e ze (by decide)⟩
        · by_cases ze : e = d
          · rw [ze, v0] at h1; exact absurd h1 (by decide)
          · rw [D2.e ze (by decide)] at h1; exact h1
        · by_cases ze : e = d
          · rw [ze]; exact v5
          · exact D2.e ze (by decide)
      · rw [if_neg z4]
        dsimp only
        generalize hy : upd p (oD d 1) x (oD d 2) + 1 = y
        generalize hu : upd p (oD d 1) x 19 + 1 = u
        have hu2 : u = p 19 + 1 := by rw [← hu, upd_n _ _ (by unfold oD; omega)]
        have D2 : dd d p (mSb (upd (upd (upd (upd p (oD d 1) x) (oD d 4) 0) (oD d 2) y) 19 u) d) := (((D1.u (show 4 < 6 by decide) 0).u (show 2 < 6 by decide) y).u19 u).sb
        obtain ⟨s', hs', a0, a1, a2, a3, a4, a5, a6, a7, a8⟩ := fail_val p d hd x u y
        have v5 : s' (oD d 5) = p (oD d 5) := by
          rw [← hs', mSb_v, if_neg (by omega), upd_n _ _ (by unfold oD; omega), upd_n _ _ (by unfold oD; omega), upd_n _ _ (by unfold oD; omega), upd_n _ _ (by unfold oD; omega)]
        have v19 : s' 19 = u := by
          rw [← hs', mSb_on _ _ _ (fun w hw => by unfold oD; omega), upd_s]
        rw [hs'] at D2 ⊢
        have h8' : Q5 s' B := h8.fail hd z (by rw [a0]; decide) (fun e _ hne => D2.e hne (by decide)) (fun e _ => by
          by_cases ze : e = d
          · rw [ze]; exact v5
          · exact D2.e ze (by decide)) (D2.lo (Or.inl (by decide)) (by decide) hd) (v19.trans hu2)
        by_cases zb : s' (oD d 2) = 3
        · rw [if_pos zb]
          have D3 : dd d p (upd s' (oD d 0) 3) := D2.u (by decide) 3
          have w0 : upd s' (oD d 0) 3 (oD d 0) = 3 := upd_s _ _ _
          have w2 : upd s' (oD d 0) 3 (oD d 2) = 3 := by rw [upd_n _ _ (by unfold oD; omega)]; exact zb
          have w5 : upd s' (oD d 0) 3 (oD d 5) = p (oD d 5) := by rw [upd_n _ _ (by unfold oD; omega)]; exact v5
          have w19 : upd s' (oD d 0) 3 19 = p 19 + 1 := by rw [upd_n _ _ (by unfold oD; omega)]; exact v19.trans hu2
          generalize upd s' (oD d 0) 3 = g at D3 w0 w2 w5 w19 ⊢
          have kg : okC g := h.1.of (D3.lo (Or.inr (by decide)) (by decide) hd)
          obtain ⟨b1, b2, b3⟩ := brkN_LM d 30 g kg kg.cc.2
          have kb := brkN_ok d 30 g kg
          generalize brkN d 30 g = g' at b1 b2 b3 kb ⊢
          have ec := D3.xcc hd
          have eL := D3.xL hd (cc p)
          rw [ec, eL] at b1 b2
          have l1 : cc g' = (LM g' (cc g')).length := (LM_len _ _).symm
          have l2 := cntD_fil (nI d) (LM p (cc p))
          rw [LM_len, ← b1, ← l1] at l2
          refine h.step hd kb (by rw [b1]; exact List.filter_sublist) ?_ (by omega) (fun r hr => ?_) (fun k hk k1 k2 => (b3 k (by omega) k1).trans (D3.lo (Or.inl hk) k2 hd)) (h7.cg (fun e he h3 => ?_)) (h8.fail hd z ?_ (fun e he hne => ?_) (fun e he => ?_) ?_ ?_) (fun e he hne w hw => ?_) (fun t => absurd t n3)
          · rw [b2, D3.lo (Or.inl (by decide)) (by decide) hd]
            congr 2
            omega
          · by_cases zr : dk5 r = nI d
            · exact Or.inr ⟨zr, by rw [b3 _ (by unfold oD; omega) (by unfold oD; omega)]; exact w0⟩
            · exact Or.inl (by rw [b1]; exact List.mem_filter.mpr ⟨hr, by simpa using zr⟩)
          · rw [b3 _ (by unfold oD; omega) (by unfold oD; omega)] at h3
            rw [b3 _ (by unfold oD; omega) (by unfold oD; omega)]
            by_cases ze : e = d
            · rw [ze]; exact Or.inr w2
            · rw [D3.e ze (by decide)] at h3 ⊢
              exact Or.inl ⟨h3, rfl⟩
          · rw [b3 _ (by unfold oD; omega) (by unfold oD; omega), w0]; decide
          · rw [b3 _ (by unfold oD; omega) (by unfold oD; omega)]; exact D3.e hne (by decide)
          · rw [b3 _ (by unfold oD; omega) (by unfold oD; omega)]
            by_cases ze : e = d
            · rw [ze]; exact w5
            · exact D3.e ze (by decide)
          · rw [b3 _ (by decide) (by decide)]; exact D3.lo (Or.inl (by decide)) (by decide) hd
          · rw [b3 _ (by decide) (by decide)]; exact w19
          · rw [b3 _ (by unfold oD; omega) (by unfold oD; omega)]; exact D3.e hne hw
        · rw [if_neg zb]
          refine h.same hd D2 (h7.cg (fun e he h3 => ?_)) h8' (fun t => absurd t n3)
          by_cases ze : e = d
          · rw [ze, a0] at h3; exact absurd h3 (by decide)
          · rw [D2.e ze (by decide)] at h3
            exact Or.inl ⟨h3, D2.e ze (by decide)⟩
    · rw [if_neg z1]
      have v19 : upd p (oD d 1) x 19 = p 19 := upd_n _ _ (by unfold oD; omega)
      have v0 : ∀ e w, w ≠ 1 → w < 6 → upd p (oD d 1) x (oD e w) = p (oD e w) := fun e w hw hw2 => upd_n _ _ (by unfold oD; omega)
      show PA s B (d + 1) (upd p (oD d 1) x)
      exact h.same hd D1 (h7.cg (fun e he h3 => Or.inl ⟨(v0 e 0 (by decide) (by decide)).symm.trans h3, v0 e 2 (by decide) (by decide)⟩)) (h8.cg (Nat.le_refl _) (fun e he h1 => (v0 e 0 (by decide) (by decide)).symm.trans h1) (fun e he => Or.inl (v0 e 5 (by decide) (by decide))) (D1.lo (Or.inl (by decide)) (by decide) hd) v19) (fun t => absurd t n3)
  · rw [if_neg z]
    exact h.same hd dd.rf h7 h8 id
theorem PA_all {s f : Nat → Int32} {B : Nat} (h1 : okC s) (h7 : Q1 s) (h8 : Q5 s B) : ∀ d, d ≤ 12 → PA s B d (stM s f d).1 := by
  intro d
  induction d with
  | zero => exact fun _ => show PA s B 0 s from ⟨h1, List.Sublist.refl _, by rw [Nat.sub_self]; exact (Int32.add_zero _).symm, Nat.le_refl _, fun r hr => Or.inl hr, fun _ _ _ _ => rfl, h7, h8, fun _ _ _ _ _ => rfl, fun _ _ h => h⟩
  | succ d ih => exact fun hd => PA_step (by omega) _ (ih (by omega))
