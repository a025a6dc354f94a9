/-! the whole relation of the class and the reference -/
def bf (h : DH) (j : Nat) : Nat → Int32 := fun k => h.1 (17, 0, 0) (244 * j + k)
def KR (h : DH) : Prop := WF h 2 ∧ ((h.1 (6, 0, 0) 3 = 0 ∧ h.1 (14, 0, 0) 5 = 0) ∨ (h.1 (6, 0, 0) 3 = 1 ∧ h.1 (14, 0, 0) 5 = 1 ∧ XR h 2 (h.1 (18, 0, 0))))
def HR (h : DH) (a : Nat) : Prop := a ≤ 4 ∧ h.1 (7, 0, 0) 1 = nI a ∧ h.1 (14, 0, 0) 3 = nI a ∧ (∀ j, j < 5 → 3 ≤ rr h j ∧ rr h j < 8 ∧ WF h (rr h j)) ∧ (∀ j k, j < 5 → k < 5 → rr h j = rr h k → j = k) ∧ ∀ j, j < a → XR h (rr h j) (bf h j)
def TR (h : DH) (t : Nat) : Prop := t ≤ 80 ∧ h.1 (9, 0, 0) 1 = nI t ∧ h.1 (14, 0, 0) 7 = nI t ∧ ∀ k, k < t → h.1 (10, 0, 0) k = h.1 (19, 0, 0) k ∧ ∃ u, u < 65536 ∧ h.1 (19, 0, 0) k = nI u
def RR (h : DH) : Prop := XR h 0 (h.1 (15, 0, 0)) ∧ WF h 1 ∧ KR h ∧ (∃ a, HR h a) ∧ ∃ t, TR h t
/-- what stands apart from the states is the same -/
def Eo (h h' : DH) (κ : DKey) : Prop := h'.1 κ = h.1 κ ∧ h'.2 κ = h.2 κ
theorem Fr.eo {h h' : DH} {i : Nat} (F : Fr i h h') {κ : DKey} (hκ : 5 < κ.1) : Eo h h' κ := F κ (fun t => absurd t.1 (by omega))
theorem KR.cg {h h' : DH} (hs : KR h) (e6 : h'.1 (6, 0, 0) = h.1 (6, 0, 0)) (e14 : h'.1 (14, 0, 0) 5 = h.1 (14, 0, 0) 5) (e18 : h'.1 (18, 0, 0) = h.1 (18, 0, 0)) (F : Eq5 2 h h') : KR h' := by
  obtain ⟨w, k⟩ := hs
  refine ⟨w.fr F, ?_⟩
  rw [e6, e14, e18]
  rcases k with k | ⟨k1, k2, k3⟩
  · exact Or.inl k
  · exact Or.inr ⟨k1, k2, k3.fr F⟩
theorem HR.cg {h h' : DH} {a : Nat} (hs : HR h a) (e7 : h'.1 (7, 0, 0) = h.1 (7, 0, 0)) (e14 : h'.1 (14, 0, 0) 3 = h.1 (14, 0, 0) 3) (e8 : h'.2 (8, 0, 0) = h.2 (8, 0, 0)) (e17 : h'.1 (17, 0, 0) = h.1 (17, 0, 0)) (F : ∀ j, 3 ≤ j → Eq5 j h h') : HR h' a := by
  obtain ⟨h1, h2, h3, h4, h5, h6⟩ := hs
  have er : ∀ j, rr h' j = rr h j := fun j => congrFun e8 j
  have eb : ∀ j, bf h' j = bf h j := fun j => by unfold bf; rw [e17]
  refine ⟨h1, by rw [e7]; exact h2, by rw [e14]; exact h3, fun j hj => ?_, fun j k hj hk e => ?_, fun j hj => ?_⟩
  · rw [er]
    obtain ⟨a1, a2, a3⟩ := h4 j hj
    exact ⟨a1, a2, a3.fr (F _ a1)⟩
  · rw [er, er] at e
    exact h5 j k hj hk e
  · rw [er, eb]
    exact (h6 j hj).fr (F _ (h4 j (by omega)).1)
theorem TR.cg {h h' : DH} {t : Nat} (hs : TR h t) (e9 : h'.1 (9, 0, 0) 1 = h.1 (9, 0, 0) 1) (e14 : h'.1 (14, 0, 0) 7 = h.1 (14, 0, 0) 7) (e10 : h'.1 (10, 0, 0) = h.1 (10, 0, 0)) (e19 : h'.1 (19, 0, 0) = h.1 (19, 0, 0)) : TR h' t := by
  unfold TR
  rw [e9, e14, e10, e19]
  exact hs
/-- after a change of state 0 or 1 or of the reference's row -/
theorem RR.of {h h' : DH} (hs : RR h) (F6 : h'.1 (6, 0, 0) = h.1 (6, 0, 0)) (F7 : h'.1 (7, 0, 0) = h.1 (7, 0, 0)) (F8 : h'.2 (8, 0, 0) = h.2 (8, 0, 0)) (F9 : h'.1 (9, 0, 0) 1 = h.1 (9, 0, 0) 1) (F10 : h'.1 (10, 0, 0) = h.1 (10, 0, 0)) (F14 : ∀ k, k = 3 ∨ k = 5 ∨ k = 7 → h'.1 (14, 0, 0) k = h.1 (14, 0, 0) k) (F17 : h'.1 (17, 0, 0) = h.1 (17, 0, 0)) (F18 : h'.1 (18, 0, 0) = h.1 (18, 0, 0)) (F19 : h'.1 (19, 0, 0) = h.1 (19, 0, 0)) (F : ∀ j, 2 ≤ j → Eq5 j h h') (w : WF h' 1) (x : XR h' 0 (h'.1 (15, 0, 0))) : RR h' := by
  obtain ⟨h1, h2, h3, ⟨a, h4⟩, t, h5⟩ := hs
  exact ⟨x, w, h3.cg F6 (F14 5 (by decide)) F18 (F 2 (by decide)), ⟨a, h4.cg F7 (F14 3 (by decide)) F8 F17 (fun j hj => F j (by omega))⟩, t, h5.cg F9 (F14 7 (by decide)) F10 F19⟩
/-- an act: the state before is recorded on both sides -/
theorem knA_le {a : Nat} (h : a ≤ 4) : knA a ≤ 4 := by
  unfold knA
  split <;> omega
theorem recH_1 (h : DH) (a : Nat) {κ : DKey} (hκ : κ ≠ (7, 0, 0)) : (recH h a).1 κ = h.1 κ := by
  unfold recH
  split
  · rfl
  · exact up1_ne _ _ _ hκ
theorem recH_2 (h : DH) (a : Nat) {κ : DKey} (hκ : κ ≠ (8, 0, 0)) : (recH h a).2 κ = h.2 κ := by
  unfold recH
  split
  · funext j
    show (if κ = (8, 0, 0) ∧ j = 4 then _ else if κ = (8, 0, 0) ∧ j < 4 then _ else _) = _
    rw [if_neg (fun t => hκ t.1), if_neg (fun t => hκ t.1)]
  · rfl
theorem know_1 (h : DH) (a : Nat) (s : Nat → Int32) {κ : DKey} (h1 : κ ≠ (14, 0, 0)) (h2 : κ ≠ (17, 0, 0)) : (know h a s).1 κ = h.1 κ := by
  unfold know
  rw [up1_ne _ _ _ h1, ub_n _ _ h2]
theorem know_14 (h : DH) (a : Nat) (s : Nat → Int32) {k : Nat} (hk : k ≠ 3) : (know h a s).1 (14, 0, 0) k = h.1 (14, 0, 0) k := by
  unfold know
  rw [up1_1, if_neg (fun t => hk t.2), ub_n _ _ (by simp)]
theorem know_2 (h : DH) (a : Nat) (s : Nat → Int32) : (know h a s).2 = h.2 := rfl
theorem recH_e5 (h : DH) (a j : Nat) : Eq5 j h (recH h a) := fun k m hk => ⟨recH_1 h a (fun e => by simp at e; omega), recH_2 h a (fun e => by simp at e; omega)⟩
theorem know_e5 (h : DH) (a : Nat) (s : Nat → Int32) (j : Nat) : Eq5 j h (know h a s) := fun k m hk => ⟨know_1 h a s (fun e => by simp at e; omega) (fun e => by simp at e; omega), rfl⟩
theorem Eq5.tr {h h' h'' : DH} {j : Nat} (a : Eq5 j h h') (b : Eq5 j h' h'') : Eq5 j h h'' := fun k m hk => ⟨(b k m hk).1.trans (a k m hk).1, (b k m hk).2.trans (a k m hk).2⟩
theorem hp_1 (h : DH) (s f : Nat → Int32) {κ : DKey} (h1 : κ ≠ (15, 0, 0)) (h2 : κ ≠ (20, 0, 0)) : (hp h s f).1 κ = h.1 κ := hp_ne h s f h1 h2
theorem hp_e5 (h : DH) (s f : Nat → Int32) (j : Nat) : Eq5 j h (hp h s f) := fun k m hk => ⟨hp_ne h s f (fun e => by simp at e; omega) (fun e => by simp at e; omega), rfl⟩
theorem rr_rec4 (h : DH) {j : Nat} : rr (recH h 4) j = if j < 4 then rr h (j + 1) else if j = 4 then rr h 0 else rr h j := by
  unfold recH rr
  rw [if_pos rfl]
  show (if ((8, 0, 0) : DKey) = (8, 0, 0) ∧ j = 4 then _ else if ((8, 0, 0) : DKey) = (8, 0, 0) ∧ j < 4 then _ else _) = _
  by_cases z : j = 4
  · rw [if_pos ⟨rfl, z⟩, if_neg (by omega), if_pos z]
    rfl
  · by_cases z2 : j < 4
    · rw [if_neg (fun t => z t.2), if_pos ⟨rfl, z2⟩, if_pos z2]
    · rw [if_neg (fun t => z t.2), if_neg (fun t => z2 t.2), if_neg z2, if_neg z]
theorem rr_rec (h : DH) {a : Nat} (ha : a ≠ 4) (j : Nat) : rr (recH h a) j = rr h j := by
  unfold recH
  rw [if_neg ha]
  rfl
theorem bf_know (h : DH) (a : Nat) (s : Nat → Int32) (j k : Nat) : bf (know h a s) j k = knB (h.1 (17, 0, 0)) a s (244 * j + k) := by
  unfold bf know
  rw [up1_ne _ _ _ (by simp), ub_s]
theorem HR.rec {h : DH} {a : Nat} {s : Nat → Int32} (hs : HR h a) (hx : XR h (rr h a) s) : HR (know (recH h a) a s) (knA a) := by
  obtain ⟨h1, h2, h3, h4, h5, h6⟩ := hs
  have F : ∀ j, Eq5 j h (know (recH h a) a s) := fun j => (recH_e5 h a j).tr (know_e5 _ a s j)
  have e3 : (know (recH h a) a s).1 (14, 0, 0) 3 = nI (knA a) := by
    unfold know
    rw [up1_1, if_pos ⟨rfl, rfl⟩]
  have e7 : (know (recH h a) a s).1 (7, 0, 0) = (recH h a).1 (7, 0, 0) := know_1 _ _ _ (by simp) (by simp)
  have er : ∀ j, rr (know (recH h a) a s) j = rr (recH h a) j := fun j => rfl
  have eb : ∀ j k, bf (know (recH h a) a s) j k = knB (h.1 (17, 0, 0)) a s (244 * j + k) := fun j k => by
    rw [bf_know, recH_1 h a (by simp)]
  by_cases z : a = 4
  · subst z
    refine ⟨by decide, ?_, e3, fun j hj => ?_, fun j k hj hk e => ?_, fun j hj => ?_⟩
    · rw [e7]
      exact h2
    · rw [er, rr_rec4]
      by_cases z4 : j < 4
      · rw [if_pos z4]
        obtain ⟨a1, a2, a3⟩ := h4 (j + 1) (by omega)
        exact ⟨a1, a2, a3.fr (F _)⟩
      · rw [if_neg z4, if_pos (by omega)]
        obtain ⟨a1, a2, a3⟩ := h4 0 (by omega)
        exact ⟨a1, a2, a3.fr (F _)⟩
    · rw [er, er, rr_rec4, rr_rec4] at e
      by_cases zj : j < 4
      · rw [if_pos zj] at e
        by_cases zk : k < 4
        · rw [if_pos zk] at e
          have := h5 _ _ (by omega) (by omega) e
          omega
        · rw [if_neg zk, if_pos (by omega)] at e
          have := h5 _ _ (by omega) (by omega) e
          omega
      · rw [if_neg zj, if_pos (by omega)] at e
        by_cases zk : k < 4
        · rw [if_pos zk] at e
          have := h5 _ _ (by omega) (by omega) e
          omega
        · omega
    · have hj : j < 4 := hj
      rw [er, rr_rec4, if_pos hj]
      have eb4 : ∀ k, k < 244 → bf (know (recH h 4) 4 s) j k = if j = 3 then s k else bf h (j + 1) k := fun k hk => by
        rw [eb]
        unfold knB cp5
        rw [if_pos rfl]
        by_cases z3 : j = 3
        · rw [if_pos (by omega), if_pos z3]
          exact congrArg s (by omega)
        · rw [if_neg (by omega), if_pos (by omega), if_neg z3]
          exact congrArg (h.1 (17, 0, 0)) (by omega)
      by_cases z3 : j = 3
      · subst z3
        exact (hx.fr (F _)).row (fun k hk => by rw [eb4 k hk, if_pos rfl])
      · exact ((h6 (j + 1) (by omega)).fr (F _)).row (fun k hk => by rw [eb4 k hk, if_neg z3])
  · have hk4 : knA a = a + 1 := by unfold knA; rw [if_neg z]
    rw [hk4] at e3 ⊢
    refine ⟨by omega, ?_, e3, fun j hj => ?_, fun j k hj hk e => ?_, fun j hj => ?_⟩
    · rw [e7]
      unfold recH
      rw [if_neg z, up1_1, if_pos ⟨rfl, rfl⟩]
    · rw [er, rr_rec h z]
      obtain ⟨a1, a2, a3⟩ := h4 j hj
      exact ⟨a1, a2, a3.fr (F _)⟩
    · rw [er, er, rr_rec h z, rr_rec h z] at e
      exact h5 j k hj hk e
    · rw [er, rr_rec h z]
      have eb4 : ∀ k, k < 244 → bf (know (recH h a) a s) j k = if j = a then s k else bf h j k := fun k hk => by
        rw [eb]
        unfold knB cp5
        rw [if_neg z]
        by_cases z3 : j = a
        · rw [if_pos (by omega), if_pos z3]
          exact congrArg s (by omega)
        · rw [if_neg (by omega), if_neg z3]
          rfl
      by_cases z3 : j = a
      · subst z3
        exact (hx.fr (F _)).row (fun k hk => by rw [eb4 k hk, if_pos rfl])
      · exact ((h6 j (by omega)).fr (F _)).row (fun k hk => by rw [eb4 k hk, if_neg z3])
/-- the state prepared -/
theorem RR.prep {h : DH} (hs : RR h) {a c : Nat} (ha : HR h a) (hc : SR h 0 c (h.1 (15, 0, 0))) : RR (cfull h (rr h a) 0 c) ∧ HR (cfull h (rr h a) 0 c) a ∧ XR (cfull h (rr h a) 0 c) (rr h a) (h.1 (15, 0, 0)) ∧ SR (cfull h (rr h a) 0 c) 0 c (h.1 (15, 0, 0)) := by
  obtain ⟨x, w, k, ⟨a', ha'⟩, t, ht⟩ := hs
  have hq := ha.2.2.2.1 a (by have := ha.1; omega)
  have F := Fr_cfull h (rr h a) 0 c
  have G := fun (κ : DKey) (hκ : 5 < κ.1) => F.eo hκ
  have E : ∀ j, j ≠ rr h a → Eq5 j h (cfull h (rr h a) 0 c) := fun j hj => F.e5 hj
  have X : XR (cfull h (rr h a) 0 c) (rr h a) (h.1 (15, 0, 0)) := x.copy hc (by omega) hq.2.2
  have er : ∀ j, rr (cfull h (rr h a) 0 c) j = rr h j := fun j => congrFun (G (8, 0, 0) (by simp)).2 j
  have W : ∀ j, WF h j → WF (cfull h (rr h a) 0 c) j := fun j hj => by
    unfold WF pmi
    rw [cfull_2]
    exact hj
  have HA : HR (cfull h (rr h a) 0 c) a := by
    obtain ⟨h1, h2, h3, h4, h5, h6⟩ := ha
    refine ⟨h1, by rw [(G (7, 0, 0) (by simp)).1]; exact h2, by rw [(G (14, 0, 0) (by simp)).1]; exact h3, fun j hj => ?_, fun j k hj hk e => ?_, fun j hj => ?_⟩
    · rw [er]
      obtain ⟨a1, a2, a3⟩ := h4 j hj
      exact ⟨a1, a2, W _ a3⟩
    · rw [er, er] at e
      exact h5 j k hj hk e
    · rw [er, show bf (cfull h (rr h a) 0 c) j = bf h j from by unfold bf; rw [(G (17, 0, 0) (by simp)).1]]
      refine (h6 j hj).fr (E _ (fun e => ?_))
      have := h5 _ _ (by omega) (by omega) e
      omega
  refine ⟨⟨?_, W 1 w, k.cg (G (6, 0, 0) (by simp)).1 (by rw [(G (14, 0, 0) (by simp)).1]) (G (18, 0, 0) (by simp)).1 (E 2 (by omega)), ⟨a, HA⟩, t, ht.cg (by rw [(G (9, 0, 0) (by simp)).1]) (by rw [(G (14, 0, 0) (by simp)).1]) (G (10, 0, 0) (by simp)).1 (G (19, 0, 0) (by simp)).1⟩, HA, X, hc.fr (E 0 (by omega))⟩
  rw [(G (15, 0, 0) (by simp)).1]
  exact x.fr (E 0 (by omega))
/-- an act is done on both sides -/
theorem RR.done {g g' : DH} (hs : RR g) {a : Nat} {s s' f : Nat → Int32} (ha : HR g a) (hx : XR g (rr g a) s) (F : Fr 0 g g') (hn : XR g' 0 s') : RR (hp (know (recH g' a) a s) s' f) := by
  obtain ⟨x, w, k, _, t, ht⟩ := hs
  have hq := ha.2.2.2.1
  have G := fun (κ : DKey) (hκ : 5 < κ.1) => F.eo hκ
  have E : ∀ j, j ≠ 0 → Eq5 j g g' := fun j hj => F.e5 hj
  have ha' : HR g' a := ha.cg (G (7, 0, 0) (by simp)).1 (by rw [(G (14, 0, 0) (by simp)).1]) (G (8, 0, 0) (by simp)).2 (G (17, 0, 0) (by simp)).1 (fun j hj => E j (by omega))
  have er : rr g' a = rr g a := congrFun (G (8, 0, 0) (by simp)).2 a
  have HH := ha'.rec (s := s) (by rw [er]; exact hx.fr (E _ (by have := hq a (by have := ha.1; omega); omega)))
  have EE : ∀ j, Eq5 j g' (hp (know (recH g' a) a s) s' f) := fun j => ((recH_e5 g' a j).tr (know_e5 _ a s j)).tr (hp_e5 _ s' f j)
  have o : ∀ κ : DKey, κ ≠ (15, 0, 0) → κ ≠ (20, 0, 0) → (hp (know (recH g' a) a s) s' f).1 κ = (know (recH g' a) a s).1 κ := fun κ h1 h2 => hp_1 _ _ _ h1 h2
  have o2 : ∀ κ : DKey, κ ≠ (15, 0, 0) → κ ≠ (20, 0, 0) → κ ≠ (14, 0, 0) → κ ≠ (17, 0, 0) → κ ≠ (7, 0, 0) → 5 < κ.1 → (hp (know (recH g' a) a s) s' f).1 κ = g.1 κ := fun κ h1 h2 h3 h4 h5 h6 => by
    rw [o κ h1 h2, know_1 _ _ _ h3 h4, recH_1 _ _ h5, (G κ h6).1]
  have o14 : ∀ j, j ≠ 3 → (hp (know (recH g' a) a s) s' f).1 (14, 0, 0) j = g.1 (14, 0, 0) j := fun j hj => by
    rw [o _ (by simp) (by simp), know_14 _ _ _ hj, recH_1 _ _ (by simp), (G _ (by simp)).1]
  refine ⟨?_, (w.fr (E 1 (by decide))).fr (EE 1), k.cg (o2 _ (by simp) (by simp) (by simp) (by simp) (by simp) (by simp)) (o14 5 (by decide)) (o2 _ (by simp) (by simp) (by simp) (by simp) (by simp) (by simp)) ((E 2 (by decide)).tr (EE 2)), ⟨knA a, HH.cg (o _ (by simp) (by simp)) (by rw [o _ (by simp) (by simp)]) rfl (o _ (by simp) (by simp)) (fun j _ => hp_e5 _ s' f j)⟩, t, ht.cg (by rw [o2 _ (by simp) (by simp) (by simp) (by simp) (by simp) (by simp)]) (o14 7 (by decide)) (o2 _ (by simp) (by simp) (by simp) (by simp) (by simp) (by simp)) (o2 _ (by simp) (by simp) (by simp) (by simp) (by simp) (by simp))⟩
  rw [hp_s]
  exact hn.fr (EE 0)
