/-! the object's whole picture: its state, its history (the latest first) -/
def YR (h : DH) (i : Nat) (s : Nat → Int32) : Prop := XR h i s ∧ ∃ T, QI T s
def HX (h : DH) (l : List (Nat → Int32)) : Prop := l.length ≤ 4 ∧ h.1 (7, 0, 0) 1 = nI l.length ∧ (∀ j, j < 5 → 3 ≤ rr h j ∧ rr h j < 8 ∧ WF h (rr h j)) ∧ (∀ j k, j < 5 → k < 5 → rr h j = rr h k → j = k) ∧ ∀ (j : Nat) (r : Nat → Int32), l[j]? = some r → YR h (rr h (l.length - 1 - j)) r
def PR (h : DH) (s : Nat → Int32) (l : List (Nat → Int32)) : Prop := YR h 0 s ∧ WF h 1 ∧ HX h l
theorem YR.fr {h h' : DH} {j : Nat} {s : Nat → Int32} (hs : YR h j s) (F : Eq5 j h h') : YR h' j s := ⟨hs.1.fr F, hs.2⟩
theorem PR.sr {h : DH} {s : Nat → Int32} {l : List (Nat → Int32)} (hs : PR h s l) : ∃ c, SR h 0 c s := hs.1.1.1
theorem get_lt {α : Type} {l : List α} {j : Nat} {r : α} (h : l[j]? = some r) : j < l.length := (List.getElem?_eq_some_iff.mp h).1
theorem HX.cg {h h' : DH} {l : List (Nat → Int32)} (hs : HX h l) (e7 : h'.1 (7, 0, 0) = h.1 (7, 0, 0)) (e8 : h'.2 (8, 0, 0) = h.2 (8, 0, 0)) (F : ∀ j, 3 ≤ j → Eq5 j h h') : HX h' l := by
  obtain ⟨h1, h2, h4, h5, h6⟩ := hs
  have er : ∀ j, rr h' j = rr h j := fun j => congrFun e8 j
  refine ⟨h1, by rw [e7]; exact h2, fun j hj => ?_, fun j k hj hk e => ?_, fun j r hj => ?_⟩
  · rw [er]
    obtain ⟨a1, a2, a3⟩ := h4 j hj
    exact ⟨a1, a2, a3.fr (F _ a1)⟩
  · rw [er, er] at e
    exact h5 j k hj hk e
  · rw [er]
    exact (h6 j r hj).fr (F _ (h4 _ (by omega)).1)
theorem HX.rec {h : DH} {l : List (Nat → Int32)} {s : Nat → Int32} (hs : HX h l) (hx : YR h (rr h l.length) s) : HX (recH h l.length) ((s :: l).take 4) := by
  obtain ⟨h1, h2, h4, h5, h6⟩ := hs
  have F : ∀ j, Eq5 j h (recH h l.length) := fun j => recH_e5 h l.length j
  by_cases z : l.length = 4
  · have el : ((s :: l).take 4).length = 4 := by rw [List.length_take, List.length_cons]; omega
    rw [z] at F hx h2 h6 ⊢
    refine ⟨by omega, ?_, fun j hj => ?_, fun j k hj hk e => ?_, fun j r hj => ?_⟩
    · rw [el]
      exact h2
    · rw [rr_rec4]
      by_cases z4 : j < 4
      · rw [if_pos z4]
        obtain ⟨a1, a2, a3⟩ := h4 (j + 1) (by omega)
        exact ⟨a1, a2, a3.fr (F _)⟩
      · rw [if_neg z4, if_pos (by omega)]
        obtain ⟨a1, a2, a3⟩ := h4 0 (by omega)
        exact ⟨a1, a2, a3.fr (F _)⟩
    · rw [rr_rec4, rr_rec4] at e
      by_cases zj : j < 4
      · rw [if_pos zj] at e
        by_cases zk : k < 4
        · rw [if_pos zk] at e
          have := h5 _ _ (by omega) (by omega) e
          omega
        · rw [if_neg zk, if_pos (by omega)] at e
          have := h5 _ _ (by omega) (by omega) e
          omega
      · rw [if_neg zj, if_pos (by omega)] at e
        by_cases zk : k < 4
        · rw [if_pos zk] at e
          have := h5 _ _ (by omega) (by omega) e
          omega
        · omega
    · have hj4 := get_lt hj
      rw [el] at hj4 ⊢
      rw [rr_rec4, if_pos (by omega)]
      rw [List.getElem?_take, if_pos hj4] at hj
      cases j with
      | zero =>
        rw [List.getElem?_cons_zero] at hj
        cases hj
        exact hx.fr (F _)
      | succ j =>
        rw [List.getElem?_cons_succ] at hj
        rw [show 4 - 1 - (j + 1) + 1 = 4 - 1 - j by omega]
        exact (h6 j r hj).fr (F _)
  · have el : (s :: l).take 4 = s :: l := List.take_of_length_le (by rw [List.length_cons]; omega)
    rw [el]
    refine ⟨by rw [List.length_cons]; omega, ?_, fun j hj => ?_, fun j k hj hk e => ?_, fun j r hj => ?_⟩
    · unfold recH
      rw [if_neg z, up1_1, if_pos ⟨rfl, rfl⟩, List.length_cons]
    · rw [rr_rec h z]
      obtain ⟨a1, a2, a3⟩ := h4 j hj
      exact ⟨a1, a2, a3.fr (F _)⟩
    · rw [rr_rec h z, rr_rec h z] at e
      exact h5 j k hj hk e
    · rw [rr_rec h z, List.length_cons]
      cases j with
      | zero =>
        rw [List.getElem?_cons_zero] at hj
        cases hj
        exact hx.fr (F _)
      | succ j =>
        rw [List.getElem?_cons_succ] at hj
        rw [show l.length + 1 - 1 - (j + 1) = l.length - 1 - j by omega]
        exact (h6 j r hj).fr (F _)
/-- ahead of an act: the state is prepared -/
theorem PR.go {h : DH} {s : Nat → Int32} {l : List (Nat → Int32)} (hs : PR h s l) : ∃ c g, cfull h (rr h l.length) 0 c = g ∧ cpk h 0 c ∧ rr h l.length ≠ 0 ∧ h.1 (7, 0, 0) 1 = nI l.length ∧ l.length ≤ 4 ∧ PR g s l ∧ YR g (rr g l.length) s ∧ SR g 0 c s ∧ g.1 (7, 0, 0) 1 = nI l.length := by
  obtain ⟨x, w, ha⟩ := hs
  obtain ⟨c, hc⟩ := x.1.1
  have hq := ha.2.2.1 l.length (by have := ha.1; omega)
  have F := Fr_cfull h (rr h l.length) 0 c
  have G := fun (κ : DKey) (hκ : 5 < κ.1) => F.eo hκ
  have E : ∀ j, j ≠ rr h l.length → Eq5 j h (cfull h (rr h l.length) 0 c) := fun j hj => F.e5 hj
  have X : YR (cfull h (rr h l.length) 0 c) (rr h l.length) s := ⟨x.1.copy hc (by omega) hq.2.2, x.2⟩
  have er : ∀ j, rr (cfull h (rr h l.length) 0 c) j = rr h j := fun j => congrFun (G (8, 0, 0) (by simp)).2 j
  have W : ∀ j, WF h j → WF (cfull h (rr h l.length) 0 c) j := fun j hj => by
    unfold WF pmi
    rw [cfull_2]
    exact hj
  have HA : HX (cfull h (rr h l.length) 0 c) l := by
    obtain ⟨h1, h2, h4, h5, h6⟩ := ha
    refine ⟨h1, by rw [(G (7, 0, 0) (by simp)).1]; exact h2, fun j hj => ?_, fun j k hj hk e => ?_, fun j r hj => ?_⟩
    · rw [er]
      obtain ⟨a1, a2, a3⟩ := h4 j hj
      exact ⟨a1, a2, W _ a3⟩
    · rw [er, er] at e
      exact h5 j k hj hk e
    · have hl := get_lt hj
      rw [er]
      refine (h6 j r hj).fr (E _ (fun e => ?_))
      have := h5 _ _ (by omega) (by omega) e
      omega
  exact ⟨c, _, rfl, hc.cp_ok, by omega, ha.2.1, ha.1, ⟨x.fr (E 0 (by omega)), W 1 w, HA⟩, by rw [er]; exact X, hc.fr (E 0 (by omega)), HA.2.1⟩
/-- an act is done -/
theorem PR.done {g g' : DH} {s s' : Nat → Int32} {l : List (Nat → Int32)} (hs : PR g s l) (hx : YR g (rr g l.length) s) (F : Fr 0 g g') (hn : YR g' 0 s') : PR (recH g' l.length) s' ((s :: l).take 4) := by
  obtain ⟨x, w, ha⟩ := hs
  have hq := ha.2.2.1
  have G := fun (κ : DKey) (hκ : 5 < κ.1) => F.eo hκ
  have E : ∀ j, j ≠ 0 → Eq5 j g g' := fun j hj => F.e5 hj
  have ha' : HX g' l := ha.cg (G (7, 0, 0) (by simp)).1 (G (8, 0, 0) (by simp)).2 (fun j hj => E j (by omega))
  have er : rr g' l.length = rr g l.length := congrFun (G (8, 0, 0) (by simp)).2 l.length
  have HH := ha'.rec (s := s) (by rw [er]; exact hx.fr (E _ (by have := hq l.length (by have := ha.1; omega); omega)))
  exact ⟨hn.fr (recH_e5 g' l.length 0), (w.fr (E 1 (by decide))).fr (recH_e5 g' l.length 1), HH⟩
theorem PR.act {g g' : DH} {s s' : Nat → Int32} {l : List (Nat → Int32)} {v : Int32} (hs : PR g s l) (hx : YR g (rr g l.length) s) (F : Fr 0 g g') (hn : YR g' 0 s') (hv : ¬ v < 0) : PR (actH g' l.length v) s' ((s :: l).take 4) := by
  unfold actH
  rw [if_neg hv]
  exact hs.done hx F hn
theorem PR.err {g : DH} {s : Nat → Int32} {l : List (Nat → Int32)} {v : Int32} (hs : PR g s l) (hv : v < 0) : PR (actH g l.length v) s l := by
  unfold actH
  rw [if_pos hv]
  exact hs
/-- undo -/
theorem c_undoP (n : Nat) {h : DH} {s r : Nat → Int32} {l : List (Nat → Int32)} (hs : PR h s (r :: l)) : ∃ h', dEx (n + 4) 69 [.inr (6, 0, 0)] h (some (.inl (nI l.length)), h') ∧ PR h' r l := by
  obtain ⟨x, w, h1, h2, h4, h5, h6⟩ := hs
  rw [List.length_cons] at h1 h2 h6
  have hb := h4 l.length (by omega)
  have xb : YR h (rr h l.length) r := h6 0 r rfl
  obtain ⟨c', cb⟩ := xb.1.1
  have hc := c_undo1 n h h2 (by omega) (by omega) cb.cp_ok
  have E0 : ∀ j, Eq5 j h (up1 h (7, 0, 0) 1 (nI l.length)) := fun j k m hk => ⟨up1_ne _ _ _ (fun t => by simp at t; omega), rfl⟩
  have w0 : WF (up1 h (7, 0, 0) 1 (nI l.length)) 0 := by
    obtain ⟨c0, hc0⟩ := x.1.1
    exact hc0.wf.fr (E0 0)
  have xq := (xb.1.fr (E0 _)).copy (cb.fr (E0 _)) (by omega) w0
  have F := Fr_cfull (up1 h (7, 0, 0) 1 (nI l.length)) 0 (rr h l.length) c'
  have ug : undoH h l.length c' = cfull (up1 h (7, 0, 0) 1 (nI l.length)) 0 (rr h l.length) c' := rfl
  rw [ug] at hc
  generalize hg : cfull (up1 h (7, 0, 0) 1 (nI l.length)) 0 (rr h l.length) c' = g at hc F xq
  have g7 : g.1 (7, 0, 0) 1 = nI l.length := by rw [(F.eo (by simp)).1, up1_1, if_pos ⟨rfl, rfl⟩]
  have EE : ∀ j, j ≠ 0 → Eq5 j h g := fun j hj => (E0 j).tr (F.e5 hj)
  have er : ∀ j, rr g j = rr h j := fun j => congrFun (F.eo (κ := (8, 0, 0)) (by simp)).2 j
  refine ⟨g, hc, ⟨xq, xb.2⟩, w.fr (EE 1 (by decide)), by omega, g7, fun j hj => ?_, fun j k hj hk e => ?_, fun j r' hj => ?_⟩
  · rw [er]
    obtain ⟨a1, a2, a3⟩ := h4 j hj
    exact ⟨a1, a2, a3.fr (EE _ (by omega))⟩
  · rw [er, er] at e
    exact h5 j k hj hk e
  · have hl := get_lt hj
    rw [er]
    have a1 := (h4 (l.length - 1 - j) (by omega)).1
    have := h6 (j + 1) r' (by rw [List.getElem?_cons_succ]; exact hj)
    rw [show l.length + 1 - 1 - (j + 1) = l.length - 1 - j by omega] at this
    exact this.fr (EE _ (by omega))
