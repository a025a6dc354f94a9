/-! the reference: tried -/
def ho (s f : Nat → Int32) : Nat → Int32
  | 0 => 0
  | j + 1 => if mcurN (rk s f (j + 1)).1 (cc (rk s f (j + 1)).1) ≤ ho s f j then ho s f j else mcurN (rk s f (j + 1)).1 (cc (rk s f (j + 1)).1)
def trA (s f : Nat → Int32) (w : Int32) (N : Nat) : Int32 := if w = 0 then (if (rk s f N).1 93 ≤ 0 then nI N else -5) else if w = 1 then ho s f N else (rk s f N).1 15
theorem m_tried (n : Nat) (most w : Int32) (h : DH) (s f : Nat → Int32) (hk : okC s) {N : Nat} (hN : N ≤ 400) (hw : ¬ w = 0 → N = 100) (hgo : w = 0 → ∀ j, j < N → 0 < (rk (upd s 8 most) f j).1 93) (hst : w = 0 → N = 400 ∨ ¬ 0 < (rk (upd s 8 most) f N).1 93) : dEx (n + 7) 143 [.inr (14, 0, 0), .inl most, .inl w] (hp h s f) (some (.inl (trA (upd s 8 most) f w N)), hp (asd h s) (cp5 (rk (upd s 8 most) f N).1 0 ((asd h s).1 (16, 0, 0)) 244) (rk (upd s 8 most) f N).2) := by
  refine dx_143 ?_
  refine Runs.go 1 rfl trivial ?_
  refine Runs.calv rfl (m_putAside (n + 5) h s f) ?_
  rw [show ub h (16, 0, 0) (cp5 (h.1 (16, 0, 0)) 0 s 244) = asd h s from rfl]
  generalize asd h s = g
  have hk0 : okC (upd s 8 most) := hk.of (upd_n _ _ (by decide))
  refine Runs.go 9 rfl ⟨trivial, (by unfold vp_in; decide)⟩ ?_
  simp only [hp_s, hp_f, hp_o, hp_up, hp_fu, tc0, tc1, tc2, tc3, tc4, tc5, tc6, tc7, tc8, tc9, tc10, tc11, tc12, tc13, tc14, tc15, tc16, tc17, tc18, tc19, tc20, tc93]
  generalize upd s 8 most = s0 at hk0 hgo hst ⊢
  generalize hr : ((some (.inl (trA s0 f w N)) : Option DV), hp g (cp5 (rk s0 f N).1 0 (g.1 (16, 0, 0)) 244) (rk s0 f N).2) = r
  have fin : Runs dT_143 (dEx (n + 6)) (77, [some (.inr (14, 0, 0)), some (.inl most), some (.inl w), some (.inl (nI N)), some (.inl (ho s0 f N)), none], [], hp g (rk s0 f N).1 (rk s0 f N).2) r := by
    unfold trA at hr
    generalize rk s0 f N = q at hr ⊢
    generalize ho s0 f N = v at hr ⊢
    refine Runs.go 2 rfl trivial ?_
    refine Runs.ifS (fun z => ?_) (fun z => ?_)
    · rw [if_pos z] at hr
      refine Runs.go 5 rfl ⟨trivial, (by unfold vp_in; decide)⟩ ?_
      simp only [hp_s, hp_f, hp_o, hp_up, hp_fu, tc0, tc1, tc2, tc3, tc4, tc5, tc6, tc7, tc8, tc9, tc10, tc11, tc12, tc13, tc14, tc15, tc16, tc17, tc18, tc19, tc20, tc93]
      refine Runs.ifS (fun z2 => ?_) (fun z2 => ?_)
      · rw [if_pos z2] at hr
        refine Runs.go 4 rfl trivial ?_
        refine Runs.calv rfl (m_putBack (n + 5) g _ _) ?_
        refine Runs.go 1 rfl trivial ?_
        exact Runs.fin (by rw [← hr]; rfl) trivial
      · rw [if_neg z2] at hr
        refine Runs.go 4 rfl trivial ?_
        refine Runs.calv rfl (m_putBack (n + 5) g _ _) ?_
        refine Runs.go 1 rfl trivial ?_
        exact Runs.fin (by rw [← hr]; rfl) trivial
    · rw [if_neg z] at hr
      refine Runs.go 3 rfl trivial ?_
      refine Runs.ifS (fun z2 => ?_) (fun z2 => ?_)
      · rw [if_pos z2] at hr
        refine Runs.go 4 rfl trivial ?_
        refine Runs.calv rfl (m_putBack (n + 5) g _ _) ?_
        refine Runs.go 1 rfl trivial ?_
        exact Runs.fin (by rw [← hr]; rfl) trivial
      · rw [if_neg z2] at hr
        refine Runs.go 6 rfl ⟨trivial, (by unfold vp_in; decide)⟩ ?_
        simp only [hp_s, hp_f, hp_o, hp_up, hp_fu, tc0, tc1, tc2, tc3, tc4, tc5, tc6, tc7, tc8, tc9, tc10, tc11, tc12, tc13, tc14, tc15, tc16, tc17, tc18, tc19, tc20, tc93]
        refine Runs.calv rfl (m_putBack (n + 5) g _ _) ?_
        refine Runs.go 1 rfl trivial ?_
        exact Runs.fin (by rw [← hr]; rfl) trivial
  have step : ∀ j, j < 400 → Runs dT_143 (dEx (n + 6)) (17, [some (.inr (14, 0, 0)), some (.inl most), some (.inl w), some (.inl (nI (j + 1))), some (.inl (ho s0 f (j + 1))), none], [], hp g (rk s0 f (j + 1)).1 (rk s0 f (j + 1)).2) r → Runs dT_143 (dEx (n + 6)) (51, [some (.inr (14, 0, 0)), some (.inl most), some (.inl w), some (.inl (nI j)), some (.inl (ho s0 f j)), none], [], hp g (rk s0 f (j + 1)).1 (rk s0 f (j + 1)).2) r := by
    intro j hj ih
    have ok := (rk_ok (f := f) hk0 (j + 1)).cc
    rw [show ho s0 f (j + 1) = if mcurN (rk s0 f (j + 1)).1 (cc (rk s0 f (j + 1)).1) ≤ ho s0 f j then ho s0 f j else mcurN (rk s0 f (j + 1)).1 (cc (rk s0 f (j + 1)).1) from rfl] at ih
    generalize rk s0 f (j + 1) = q at ok ih ⊢
    generalize ho s0 f j = v at ih ⊢
    refine Runs.go 2 rfl trivial ?_
    refine Runs.cal rfl (m_current (n + 2) g _ _ ok.1 ok.2) ?_
    refine Runs.go 2 rfl trivial ?_
    rw [nI_1]
    refine Runs.ifS (fun z => ?_) (fun z => ?_)
    · rw [if_pos z] at ih
      refine Runs.go 3 rfl trivial ?_
      exact ih
    · rw [if_neg z] at ih
      refine Runs.go 1 rfl trivial ?_
      refine Runs.cal rfl (m_current (n + 2) g _ _ ok.1 ok.2) ?_
      refine Runs.go 3 rfl trivial ?_
      exact ih
  refine Runs.loop N (fun j => (17, [some (.inr (14, 0, 0)), some (.inl most), some (.inl w), some (.inl (nI j)), some (.inl (ho s0 f j)), none], [], hp g (rk s0 f j).1 (rk s0 f j).2)) (fun j hj ih => ?_) ?_
  · have st := step j (by omega) ih
    have ok := rk_ok (f := f) hk0 j
    refine Runs.go 2 rfl trivial ?_
    refine Runs.ifS (fun z => ?_) (fun z => ?_)
    · refine Runs.go 3 rfl trivial ?_
      refine Runs.ifF (i_ge (show j < 400 by omega) (by decide)) ?_
      refine Runs.go 5 rfl ⟨trivial, (by unfold vp_in; decide)⟩ ?_
      simp only [hp_s, hp_f, hp_o, hp_up, hp_fu, tc0, tc1, tc2, tc3, tc4, tc5, tc6, tc7, tc8, tc9, tc10, tc11, tc12, tc13, tc14, tc15, tc16, tc17, tc18, tc19, tc20, tc93]
      refine Runs.ifF (Int32.not_le.mpr (hgo z j hj)) ?_
      refine Runs.go 2 rfl trivial ?_
      refine Runs.calv rfl (m_tick n g _ _ ok) ?_
      exact st
    · have hN1 := hw z
      refine Runs.go 3 rfl trivial ?_
      refine Runs.ifF (i_ge (show j < 100 by omega) (by decide)) ?_
      refine Runs.go 1 rfl trivial ?_
      refine Runs.calv rfl (m_tick n g _ _ ok) ?_
      exact st
  · refine Runs.go 2 rfl trivial ?_
    refine Runs.ifS (fun z => ?_) (fun z => ?_)
    · refine Runs.go 3 rfl trivial ?_
      by_cases zN : N = 400
      · refine Runs.ifT (by rw [zN]; decide) ?_
        exact fin
      · refine Runs.ifF (i_ge (show N < 400 by omega) (by decide)) ?_
        refine Runs.go 5 rfl ⟨trivial, (by unfold vp_in; decide)⟩ ?_
        simp only [hp_s, hp_f, hp_o, hp_up, hp_fu, tc0, tc1, tc2, tc3, tc4, tc5, tc6, tc7, tc8, tc9, tc10, tc11, tc12, tc13, tc14, tc15, tc16, tc17, tc18, tc19, tc20, tc93]
        refine Runs.ifT (Int32.not_lt.mp ((hst z).resolve_left zN)) ?_
        exact fin
    · have hN1 := hw z
      refine Runs.go 3 rfl trivial ?_
      refine Runs.ifT (by rw [hN1]; decide) ?_
      exact fin
