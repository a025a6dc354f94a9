/-! the greatest current is never looked at by a tick of the reference -/
def E11 (s s' : Nat → Int32) : Prop := ∀ k, k ≠ 11 → s' k = s k
section E11L
variable {s s' : Nat → Int32}
theorem E11.u (h : E11 s s') {k : Nat} {x y : Int32} (e : y = x) : E11 (upd s k x) (upd s' k y) := fun j hj => by
  by_cases z : j = k
  · rw [z, upd_s, upd_s, e]
  · rw [upd_n _ _ z, upd_n _ _ z]
    exact h j hj
theorem E11.D (h : E11 s s') (d w : Nat) : s' (oD d w) = s (oD d w) := h _ (by unfold oD; omega)
theorem E11.R (h : E11 s s') (k w : Nat) : s' (oR k w) = s (oR k w) := h _ (by unfold oR; omega)
theorem E11.xcc (h : E11 s s') : cc s' = cc s := by
  unfold cc
  rw [h 93 (by decide)]
theorem E11.fst (h : E11 s s') (c : Nat) (x : Int32) : mfst s' c x = mfst s c x := fp_congr (fun k _ => by rw [h.R])
theorem E11.cur (h : E11 s s') (c : Nat) : mcurN s' c = mcurN s c := sumN_cg 12 (fun d _ => by
  unfold mcur
  rw [h.D, h.fst, h 4 (by decide), h 1 (by decide), h 2 (by decide), h 3 (by decide)])
theorem E11.that (h : E11 s s') (x : Int32) : mthat s' x = mthat s x := sumN_cg 12 (fun d _ => by rw [h.D])
theorem E11.sb (h : E11 s s') (d : Nat) : E11 (mSb s d) (mSb s' d) := ((h.u rfl).u rfl).u rfl
theorem E11.xban (h : E11 s s') (d : Nat) : ∀ c, E11 (ban s d c) (ban s' d c) := by
  intro c
  induction c with
  | zero => exact h
  | succ c ih =>
    show E11 (baB (ban s d c) d c) (baB (ban s' d c) d c)
    unfold baB
    exact ih.u (by rw [ih.R, ih.R, ih.R])
theorem E11.rm (h : E11 s s') (p c : Nat) : E11 (mrm s p c) (mrm s' p c) := fun j hj => by
  have g := h.u (k := 93) (x := nI (c - 1)) rfl
  unfold mrm msh
  by_cases z : oR p 0 ≤ j ∧ j < oR (c - 1) 0
  · rw [if_pos z, if_pos z]
    exact g (j + 5) (by unfold oR at z; omega)
  · rw [if_neg z, if_neg z]
    exact g j hj
theorem E11.xco (h : E11 s s') (c : Nat) : ∀ d, E11 (coM s c d) (coM s' c d) := by
  intro d
  induction d with
  | zero => exact h
  | succ d ih =>
    show E11 (coMB c d (coM s c d)) (coMB c d (coM s' c d))
    unfold coMB
    rw [ih.D]
    split
    · exact ih
    · exact (ih.sb d).xban d c
theorem E11.brk (d : Nat) : ∀ (m : Nat) {g g' : Nat → Int32}, E11 g g' → E11 (brkN d m g) (brkN d m g') := by
  intro m
  induction m with
  | zero => intro g g' h; exact h
  | succ m ih =>
    intro g g' h
    unfold brkN
    rw [h.xcc, h.fst]
    split
    · exact h
    · rename_i p e
      have q := (h.rm p (cc g)).u (k := 14) (x := mrm g p (cc g) 14 + 1) (y := mrm g' p (cc g) 14 + 1) (by rw [(h.rm p (cc g)) 14 (by decide)])
      exact ih q
theorem E11.xend (h : E11 s s') (f : Nat → Int32) (d : Nat) : E11 (endM d (s, f)).1 (endM d (s', f)).1 ∧ (endM d (s', f)).2 = (endM d (s, f)).2 := by
  have X : E11 (mSb (upd (upd (upd s (oD d 4) 0) (oD d 2) (s (oD d 2) + 1)) 19 (s 19 + 1)) d) (mSb (upd (upd (upd s' (oD d 4) 0) (oD d 2) (s' (oD d 2) + 1)) 19 (s' 19 + 1)) d) := (((h.u rfl).u (by rw [h.D])).u (by rw [h 19 (by decide)])).sb d
  unfold endM
  dsimp only
  by_cases z : s (oD d 4) = 0
  · rw [if_pos z, if_pos (show s' (oD d 4) = 0 by rw [h.D]; exact z)]
    exact ⟨((h.u rfl).u rfl).u rfl, rfl⟩
  · rw [if_neg z, if_neg (show ¬ s' (oD d 4) = 0 by rw [h.D]; exact z)]
    refine ⟨?_, rfl⟩
    dsimp only
    generalize mSb (upd (upd (upd s (oD d 4) 0) (oD d 2) (s (oD d 2) + 1)) 19 (s 19 + 1)) d = a at X ⊢
    generalize mSb (upd (upd (upd s' (oD d 4) 0) (oD d 2) (s' (oD d 2) + 1)) 19 (s' 19 + 1)) d = b at X ⊢
    by_cases z3 : a (oD d 2) = 3
    · rw [if_pos z3, if_pos (show b (oD d 2) = 3 by rw [X.D]; exact z3)]
      exact E11.brk d 30 (X.u rfl)
    · rw [if_neg z3, if_neg (show ¬ b (oD d 2) = 3 by rw [X.D]; exact z3)]
      exact X
theorem E11.xst (h : E11 s s') (f : Nat → Int32) : ∀ d, E11 (stM s f d).1 (stM s' f d).1 ∧ (stM s' f d).2 = (stM s f d).2 := by
  intro d
  induction d with
  | zero => exact ⟨h, rfl⟩
  | succ d ih =>
    obtain ⟨i1, i2⟩ := ih
    rw [show stM s f (d + 1) = stMB d (stM s f d) from rfl, show stM s' f (d + 1) = stMB d (stM s' f d) from rfl]
    generalize stM s f d = a at i1 i2 ⊢
    generalize stM s' f d = b at i1 i2 ⊢
    obtain ⟨a1, a2⟩ := a
    obtain ⟨b1, b2⟩ := b
    dsimp only at i1 i2
    subst i2
    unfold stMB
    dsimp only
    by_cases z : a1 (oD d 0) = 1
    · rw [if_pos z, if_pos (show b1 (oD d 0) = 1 by rw [i1.D]; exact z)]
      have q := i1.u (k := oD d 1) (x := a1 (oD d 1) - 1) (y := b1 (oD d 1) - 1) (by rw [i1.D])
      by_cases z2 : a1 (oD d 1) - 1 = 0
      · rw [if_pos z2, if_pos (show b1 (oD d 1) - 1 = 0 by rw [i1.D]; exact z2)]
        exact q.xend _ d
      · rw [if_neg z2, if_neg (show ¬ b1 (oD d 1) - 1 = 0 by rw [i1.D]; exact z2)]
        exact ⟨q, rfl⟩
    · rw [if_neg z, if_neg (show ¬ b1 (oD d 0) = 1 by rw [i1.D]; exact z)]
      exact ⟨i1, rfl⟩
theorem E11.xrd (h : E11 s s') : ∀ d, E11 (rdM s d) (rdM s' d) := by
  intro d
  induction d with
  | zero => exact h
  | succ d ih =>
    rw [show rdM s (d + 1) = rdMB d (rdM s d) from rfl, show rdM s' (d + 1) = rdMB d (rdM s' d) from rfl]
    generalize rdM s d = a at ih ⊢
    generalize rdM s' d = b at ih ⊢
    unfold rdMB
    rw [ih.D, ih.xcc, ih.fst]
    by_cases z : a (oD d 0) = 2
    · rw [if_pos z, if_pos z]
      cases mfst a (cc a) (nI d) with
      | none =>
        dsimp only
        rw [ih 9 (by decide), ih.D]
        have q := ih.u (k := oD d 3) (x := a (oD d 3) + 1) rfl
        by_cases z1 : a 9 ≤ 0
        · rw [if_pos z1, if_pos z1]; exact q
        · rw [if_neg z1, if_neg z1]
          by_cases z2 : a (oD d 3) + 1 < a 9
          · rw [if_pos z2, if_pos z2]; exact q
          · rw [if_neg z2, if_neg z2]; exact q.sb d
      | some p =>
        dsimp only
        rw [ih.R]
        have q := (ih.u (k := oD d 3) (x := 0) rfl).u (k := oR p 3) (x := a (oR p 3) - 1) rfl
        by_cases z1 : a (oR p 3) - 1 = 0
        · rw [if_pos z1, if_pos z1]
          refine E11.rm ?_ p (cc a)
          unfold rdM2
          refine (q.u ?_).u ?_
          · rw [q 13 (by decide)]
          · rw [q 20 (by decide), q 10 (by decide), q.R]
        · rw [if_neg z1, if_neg z1]; exact q
    · rw [if_neg z, if_neg z]
      exact ih
theorem E11.xns (h : E11 s s') (f : Nat → Int32) : ∀ d, E11 (nsM s f d) (nsM s' f d) := by
  intro d
  induction d with
  | zero => exact h
  | succ d ih =>
    rw [show nsM s f (d + 1) = nsMB f d (nsM s f d) from rfl, show nsM s' f (d + 1) = nsMB f d (nsM s' f d) from rfl]
    generalize nsM s f d = a at ih ⊢
    generalize nsM s' f d = b at ih ⊢
    have e : (b (oD d 0) = 0 ∧ f d = 0 ∧ mfst b (cc b) (nI d) ≠ none ∧ ¬ b 8 ≤ mthat b 1 ∧ ¬ b 5 < mcurN b (cc b) - b 4 + b 1) ↔ (a (oD d 0) = 0 ∧ f d = 0 ∧ mfst a (cc a) (nI d) ≠ none ∧ ¬ a 8 ≤ mthat a 1 ∧ ¬ a 5 < mcurN a (cc a) - a 4 + a 1) := by
      rw [ih.D, ih.xcc, ih.fst, ih 8 (by decide), ih.that, ih 5 (by decide), ih.cur, ih 4 (by decide), ih 1 (by decide)]
    unfold nsMB
    by_cases z : a (oD d 0) = 0 ∧ f d = 0 ∧ mfst a (cc a) (nI d) ≠ none ∧ ¬ a 8 ≤ mthat a 1 ∧ ¬ a 5 < mcurN a (cc a) - a 4 + a 1
    · rw [if_pos z, if_pos (e.mpr z)]
      exact (((ih.u rfl).u (by rw [ih 0 (by decide)])).u (by rw [ih.D])).u (by rw [ih 18 (by decide)])
    · rw [if_neg z, if_neg (fun t => z (e.mp t))]
      exact ih
theorem E11.xbl (h : E11 s s') : E11 (blM s) (blM s') := by
  unfold blM
  exact ((h.u rfl).u (by rw [h 17 (by decide)])).u rfl
theorem E11.xfu (h : E11 s s') (x : Int32) : E11 (fuM s x) (fuM s' x) := by
  unfold fuM
  rw [h 15 (by decide), h 5 (by decide), h 6 (by decide), h 7 (by decide), h 16 (by decide)]
  split
  · exact h
  · split
    · exact h.xbl
    · split
      · split
        · exact (h.u rfl).xbl
        · exact h.u rfl
      · exact h.u rfl
theorem E11.xtick (h : E11 s s') (f : Nat → Int32) : E11 (tickM s f).1 (tickM s' f).1 ∧ (tickM s' f).2 = (tickM s f).2 := by
  have t : E11 (tkM s f).1 (tkM s' f).1 ∧ (tkM s' f).2 = (tkM s f).2 := by
    by_cases z : s 15 = 1
    · rw [tkM_p z, tkM_p (show s' 15 = 1 by rw [h 15 (by decide)]; exact z)]
      have q := h.xco (cc s) 12
      rw [h.xcc]
      generalize coM s (cc s) 12 = a at q ⊢
      generalize coM s' (cc s) 12 = b at q ⊢
      exact ⟨q, rfl⟩
    · rw [tkM_n z, tkM_n (show ¬ s' 15 = 1 by rw [h 15 (by decide)]; exact z)]
      obtain ⟨i1, i2⟩ := h.xst f 12
      rw [i2]
      have q := (i1.xrd 12).xns (stM s f 12).2 12
      generalize nsM (rdM (stM s f 12).1 12) (stM s f 12).2 12 = a at q ⊢
      generalize nsM (rdM (stM s' f 12).1 12) (stM s f 12).2 12 = b at q ⊢
      generalize (stM s f 12).2 = w
      exact ⟨q, rfl⟩
  refine ⟨?_, t.2⟩
  rw [show (tickM s f).1 = tkM2 (tkM s f).1 from rfl, show (tickM s' f).1 = tkM2 (tkM s' f).1 from rfl]
  have t1 := t.1
  generalize (tkM s f).1 = a at t1 ⊢
  generalize (tkM s' f).1 = b at t1 ⊢
  unfold tkM2
  have q := t1.u (k := 10) (x := a 10 + 1) (y := b 10 + 1) (by rw [t1 10 (by decide)])
  rw [t1.xcc, q.cur]
  refine E11.xfu (fun j hj => ?_) _
  rw [upd_n _ _ hj, upd_n _ _ hj]
  exact q j hj
theorem E11.xrk (h : E11 s s') (f : Nat → Int32) : ∀ k, E11 (rk s f k).1 (rk s' f k).1 ∧ (rk s' f k).2 = (rk s f k).2 := by
  intro k
  induction k with
  | zero => exact ⟨h, rfl⟩
  | succ k ih =>
    rw [show rk s f (k + 1) = tickM (rk s f k).1 (rk s f k).2 from rfl, show rk s' f (k + 1) = tickM (rk s' f k).1 (rk s' f k).2 from rfl, ih.2]
    exact ih.1.xtick _
end E11L
