/-! the reference: how many could start -/
theorem sumN_01 (f : Nat → Int32) (h : ∀ e, f e = 0 ∨ f e = 1) : ∀ n, ∃ m, m ≤ n ∧ sumN f n = nI m := by
  intro n
  induction n with
  | zero => exact ⟨0, Nat.le_refl _, rfl⟩
  | succ n ih =>
    obtain ⟨m, h1, h2⟩ := ih
    show ∃ m, m ≤ n + 1 ∧ sumN f n + f n = nI m
    rcases h n with z | z
    · exact ⟨m, by omega, by rw [h2, z, Int32.add_zero]⟩
    · exact ⟨m + 1, by omega, by rw [h2, z, nI_1]⟩
theorem mthat_nI (s : Nat → Int32) (x : Int32) : ∃ m, m ≤ 12 ∧ mthat s x = nI m := sumN_01 _ (fun e => by
  by_cases z : s (oD e 0) = x
  · exact Or.inr (if_pos z)
  · exact Or.inl (if_neg z)) 12
def csB (s : Nat → Int32) (st : Int32) (q : Int32 × Int32) : Int32 × Int32 := if s 8 ≤ st + q.2 ∨ s 5 < q.1 - s 4 + s 1 then (q.1 + 0, q.2 + 0) else (q.1 + (s 1 - s 4), q.2 + 1)
def cs (s : Nat → Int32) (st c0 : Int32) : Nat → Int32 × Int32
  | 0 => (c0, 0)
  | k + 1 => csB s st (cs s st c0 k)
def lomay (s : Nat → Int32) (st c0 : Int32) : Nat → Option DV
  | 0 => none
  | k + 1 => some (.inl (if s 8 ≤ st + (cs s st c0 k).2 ∨ s 5 < (cs s st c0 k).1 - s 4 + s 1 then 0 else 1))
theorem m_couldStart (n : Nat) (h : DH) (s f : Nat → Int32) {c m : Nat} (hc : s 93 = nI c) (h30 : c ≤ 30) (hm : mthat s 0 = nI m) (hm12 : m ≤ 12) : dEx (n + 5) 140 [.inr (14, 0, 0)] (hp h s f) (some (.inl (if s 15 = 0 then (cs s (mthat s 1) (mcurN s c) m).2 else 0)), hp h s f) := by
  refine dx_140 ?_
  refine Runs.go 2 rfl trivial ?_
  refine Runs.cal rfl (m_doing (n + 2) 1 h s f) ?_
  refine Runs.go 2 rfl trivial ?_
  refine Runs.cal rfl (m_current n h s f hc h30) ?_
  refine Runs.go 5 rfl trivial ?_
  refine Runs.cal rfl (m_doing (n + 2) 0 h s f) ?_
  rw [hm]
  generalize mthat s 1 = st
  generalize mcurN s c = c0
  refine Runs.go 1 rfl trivial ?_
  by_cases zb : s 15 = 0
  · rw [if_pos zb]
    generalize hr : ((some (.inl (cs s st c0 m).2) : Option DV), hp h s f) = r
    refine Runs.loop m (fun j => (20, [some (.inr (14, 0, 0)), some (.inl st), some (.inl (cs s st c0 j).1), some (.inl (cs s st c0 j).2), some (.inl (nI (m - j))), lomay s st c0 j], [], hp h s f)) (fun j hj ih => ?_) ?_
    · refine Runs.go 2 rfl trivial ?_
      refine Runs.ifF (Int32.not_le.mpr ((nIpos (by omega)).mpr (by omega))) ?_
      refine Runs.go 5 rfl ⟨trivial, (by unfold vp_in; decide)⟩ ?_
      simp only [hp_s, hp_f, hp_o, hp_up, hp_fu, tc0, tc1, tc2, tc3, tc4, tc5, tc6, tc7, tc8, tc9, tc10, tc11, tc12, tc13, tc14, tc15, tc16, tc17, tc18, tc19, tc20, tc93]
      refine Runs.ifT zb ?_
      rw [show cs s st c0 (j + 1) = csB s st (cs s st c0 j) from rfl] at ih
      rw [show lomay s st c0 (j + 1) = some (.inl (if s 8 ≤ st + (cs s st c0 j).2 ∨ s 5 < (cs s st c0 j).1 - s 4 + s 1 then 0 else 1)) from rfl] at ih
      generalize cs s st c0 j = q at ih ⊢
      obtain ⟨nw, k⟩ := q
      unfold csB at ih
      dsimp only at ih ⊢
      have em : nI (m - j) + -1 = nI (m - (j + 1)) := by rw [← Int32.sub_eq_add_neg, nIm1 (by omega)]; rfl
      have no : s 8 ≤ st + k ∨ s 5 < nw - s 4 + s 1 → Runs dT_140 (dEx (n + 4)) (76, [some (.inr (14, 0, 0)), some (.inl st), some (.inl nw), some (.inl k), some (.inl (nI (m - j))), lomay s st c0 j], [], hp h s f) r := by
        intro z
        rw [if_pos z, if_pos z] at ih
        refine Runs.go 5 rfl trivial ?_
        refine Runs.ifT rfl ?_
        refine Runs.go 6 rfl trivial ?_
        refine Runs.ifT rfl ?_
        refine Runs.go 5 rfl trivial ?_
        rw [em]
        exact ih
      refine Runs.go 8 rfl ⟨trivial, (by unfold vp_in; decide)⟩ ?_
      simp only [hp_s, hp_f, hp_o, hp_up, hp_fu, tc0, tc1, tc2, tc3, tc4, tc5, tc6, tc7, tc8, tc9, tc10, tc11, tc12, tc13, tc14, tc15, tc16, tc17, tc18, tc19, tc20, tc93]
      refine Runs.ifS (fun z => no (Or.inl z)) (fun z => ?_)
      refine Runs.go 16 rfl ⟨⟨⟨trivial, (by unfold vp_in; decide)⟩, (by unfold vp_in; decide)⟩, (by unfold vp_in; decide)⟩ ?_
      simp only [hp_s, hp_f, hp_o, hp_up, hp_fu, tc0, tc1, tc2, tc3, tc4, tc5, tc6, tc7, tc8, tc9, tc10, tc11, tc12, tc13, tc14, tc15, tc16, tc17, tc18, tc19, tc20, tc93]
      refine Runs.ifS (fun z2 => no (Or.inr z2)) (fun z2 => ?_)
      have hz : ¬ (s 8 ≤ st + k ∨ s 5 < nw - s 4 + s 1) := fun t => t.elim z z2
      rw [if_neg hz, if_neg hz] at ih
      refine Runs.go 6 rfl trivial ?_
      refine Runs.ifF (by decide) ?_
      refine Runs.go 7 rfl trivial ?_
      refine Runs.ifF (by decide) ?_
      refine Runs.go 14 rfl ⟨⟨trivial, (by unfold vp_in; decide)⟩, (by unfold vp_in; decide)⟩ ?_
      simp only [hp_s, hp_f, hp_o, hp_up, hp_fu, tc0, tc1, tc2, tc3, tc4, tc5, tc6, tc7, tc8, tc9, tc10, tc11, tc12, tc13, tc14, tc15, tc16, tc17, tc18, tc19, tc20, tc93]
      rw [em]
      exact ih
    · refine Runs.go 2 rfl trivial ?_
      refine Runs.ifT (by rw [Nat.sub_self]; decide) ?_
      refine Runs.go 1 rfl trivial ?_
      exact Runs.fin (by rw [← hr]; rfl) trivial
  · rw [if_neg zb]
    refine Runs.go 2 rfl trivial ?_
    refine Runs.ifS (fun z => ?_) (fun z => ?_)
    · refine Runs.go 1 rfl trivial ?_
      exact Runs.fin rfl trivial
    · refine Runs.go 5 rfl ⟨trivial, (by unfold vp_in; decide)⟩ ?_
      simp only [hp_s, hp_f, hp_o, hp_up, hp_fu, tc0, tc1, tc2, tc3, tc4, tc5, tc6, tc7, tc8, tc9, tc10, tc11, tc12, tc13, tc14, tc15, tc16, tc17, tc18, tc19, tc20, tc93]
      refine Runs.ifF zb ?_
      refine Runs.go 1 rfl trivial ?_
      exact Runs.fin rfl trivial
