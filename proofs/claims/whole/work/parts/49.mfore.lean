/-! the reference: what would be -/
def asd (h : DH) (s : Nat → Int32) : DH := ub h (16, 0, 0) (cp5 (h.1 (16, 0, 0)) 0 s 244)
theorem asd_16 (h : DH) (s : Nat → Int32) : (asd h s).1 (16, 0, 0) = cp5 (h.1 (16, 0, 0)) 0 s 244 := ub_s _ _ _
theorem m_answeredIn0 (n : Nat) (x : Int32) (h : DH) (s f : Nat → Int32) (hk : okC s) (hp' : mplc s (cc s) x = none) : dEx (n + 7) 141 [.inr (14, 0, 0), .inl x] (hp h s f) (some (.inl (-1)), hp h s f) := by
  refine dx_141 ?_
  refine Runs.go 2 rfl trivial ?_
  refine Runs.cal rfl (m_placeOf (n + 4) x h s f hk.cc.1 hk.cc.2) ?_
  rw [hp']
  refine Runs.go 2 rfl trivial ?_
  refine Runs.ifT rfl ?_
  refine Runs.go 1 rfl trivial ?_
  exact Runs.fin rfl trivial
theorem m_answeredIn1 (n : Nat) (x : Int32) (h : DH) (s f : Nat → Int32) (hk : okC s) {p d N : Nat} (hp' : mplc s (cc s) x = some p) (hd : s (oR p 1) = nI d) (hd12 : d < 12) (hN : N ≤ 400) (hgo : ∀ j, j < N → mplc (rk s f j).1 (cc (rk s f j).1) x ≠ none) (hst : N = 400 ∨ mplc (rk s f N).1 (cc (rk s f N).1) x = none) : dEx (n + 7) 141 [.inr (14, 0, 0), .inl x] (hp h s f) (some (.inl (if mplc (rk s f N).1 (cc (rk s f N).1) x = none ∧ ¬ (rk s f N).1 (oD d 0) = 3 then nI N else -5)), hp (asd h s) (cp5 (rk s f N).1 0 ((asd h s).1 (16, 0, 0)) 244) (rk s f N).2) := by
  refine dx_141 ?_
  obtain ⟨c93, c30⟩ := hk.cc
  obtain ⟨p1, _, _⟩ := fp_some hp'
  have p30 : p < 30 := by omega
  refine Runs.go 2 rfl trivial ?_
  refine Runs.cal rfl (m_placeOf (n + 4) x h s f c93 c30) ?_
  rw [hp']
  dsimp only [oI]
  refine Runs.go 2 rfl trivial ?_
  refine Runs.ifF (nI_m5 (by omega)) ?_
  refine Runs.go 1 rfl trivial ?_
  refine Runs.calv rfl (m_putAside (n + 5) h s f) ?_
  rw [show ub h (16, 0, 0) (cp5 (h.1 (16, 0, 0)) 0 s 244) = asd h s from rfl]
  generalize asd h s = g
  refine Runs.go 6 rfl trivial ?_
  refine Runs.cal rfl (m_placeOf (n + 4) x g s f c93 c30) ?_
  rw [hp']
  dsimp only [oI]
  refine Runs.go 1 rfl trivial ?_
  refine Runs.cal rfl (m_ofRead (n + 5) p 1 _) ?_
  generalize hr : ((some (.inl (if mplc (rk s f N).1 (cc (rk s f N).1) x = none ∧ ¬ (rk s f N).1 (oD d 0) = 3 then nI N else -5)) : Option DV), hp g (cp5 (rk s f N).1 0 (g.1 (16, 0, 0)) 244) (rk s f N).2) = r
  refine Runs.go 2 rfl ⟨trivial, oR_in p30 (show 1 < 5 by decide)⟩ ?_
  simp only [hp_s, hp_f, hp_o, hp_up, hp_fu, tc0, tc1, tc2, tc3, tc4, tc5, tc6, tc7, tc8, tc9, tc10, tc11, tc12, tc13, tc14, tc15, tc16, tc17, tc18, tc19, tc20, tc93, oR_cl p30 (show 1 < 5 by decide), hd]
  have fin : Runs dT_141 (dEx (n + 6)) (60, [some (.inr (14, 0, 0)), some (.inl x), some (.inl (nI N)), some (.inl (nI d)), none], [], hp g (rk s f N).1 (rk s f N).2) r := by
    have ok := (rk_ok (f := f) hk N).cc
    generalize rk s f N = q at ok hr ⊢
    obtain ⟨s1, f1⟩ := q
    dsimp only at ok hr ⊢
    refine Runs.go 2 rfl trivial ?_
    refine Runs.cal rfl (m_placeOf (n + 4) x g s1 f1 ok.1 ok.2) ?_
    cases hq : mplc s1 (cc s1) x with
    | some q =>
      obtain ⟨q1, _, _⟩ := fp_some hq
      rw [if_neg (fun t => by rw [hq] at t; exact absurd t.1 (by simp))] at hr
      dsimp only [oI]
      refine Runs.go 2 rfl trivial ?_
      refine Runs.ifF (nI_m5 (by omega)) ?_
      refine Runs.go 3 rfl trivial ?_
      refine Runs.calv rfl (m_putBack (n + 5) g s1 f1) ?_
      refine Runs.go 2 rfl trivial ?_
      refine Runs.ifT rfl ?_
      refine Runs.go 1 rfl trivial ?_
      exact Runs.fin (by rw [← hr]; rfl) trivial
    | none =>
      dsimp only [oI]
      refine Runs.go 2 rfl trivial ?_
      refine Runs.ifT rfl ?_
      refine Runs.go 4 rfl trivial ?_
      refine Runs.cal rfl (m_of (n + 5) d 0 _) ?_
      refine Runs.go 3 rfl ⟨trivial, (oD_in hd12 (by decide))⟩ ?_
      simp only [hp_s, hp_f, hp_o, hp_up, hp_fu, tc0, tc1, tc2, tc3, tc4, tc5, tc6, tc7, tc8, tc9, tc10, tc11, tc12, tc13, tc14, tc15, tc16, tc17, tc18, tc19, tc20, tc93, oD_cl hd12 (show 0 < 6 by decide)]
      refine Runs.ifS (fun z => ?_) (fun z => ?_)
      · rw [if_neg (fun t => t.2 z)] at hr
        refine Runs.go 3 rfl trivial ?_
        refine Runs.calv rfl (m_putBack (n + 5) g s1 f1) ?_
        refine Runs.go 2 rfl trivial ?_
        refine Runs.ifT rfl ?_
        refine Runs.go 1 rfl trivial ?_
        exact Runs.fin (by rw [← hr]; rfl) trivial
      · rw [if_pos ⟨hq, z⟩] at hr
        refine Runs.go 4 rfl trivial ?_
        refine Runs.calv rfl (m_putBack (n + 5) g s1 f1) ?_
        refine Runs.go 2 rfl trivial ?_
        refine Runs.ifF (by decide) ?_
        refine Runs.go 2 rfl trivial ?_
        exact Runs.fin (by rw [← hr]; rfl) trivial
  refine Runs.loop N (fun j => (33, [some (.inr (14, 0, 0)), some (.inl x), some (.inl (nI j)), some (.inl (nI d)), none], [], hp g (rk s f j).1 (rk s f j).2)) (fun j hj ih => ?_) ?_
  · refine Runs.go 3 rfl trivial ?_
    refine Runs.ifF (i_ge (show j < 400 by omega) (by decide)) ?_
    have ok := rk_ok (f := f) hk j
    refine Runs.go 2 rfl trivial ?_
    refine Runs.cal rfl (m_placeOf (n + 4) x g _ _ ok.cc.1 ok.cc.2) ?_
    cases hq : mplc (rk s f j).1 (cc (rk s f j).1) x with
    | none => exact absurd hq (hgo j hj)
    | some q =>
      obtain ⟨q1, _, _⟩ := fp_some hq
      have q30 := ok.cc.2
      dsimp only [oI]
      refine Runs.go 2 rfl trivial ?_
      refine Runs.ifF (nI_m5 (by omega)) ?_
      refine Runs.go 1 rfl trivial ?_
      refine Runs.calv rfl (m_tick n g _ _ ok) ?_
      refine Runs.go 2 rfl trivial ?_
      rw [nI_1]
      exact ih
  · refine Runs.go 3 rfl trivial ?_
    by_cases z : N = 400
    · refine Runs.ifT (by rw [z]; decide) ?_
      exact fin
    · refine Runs.ifF (i_ge (show N < 400 by omega) (by decide)) ?_
      have hq := hst.resolve_left z
      have ok := rk_ok (f := f) hk N
      refine Runs.go 2 rfl trivial ?_
      refine Runs.cal rfl (m_placeOf (n + 4) x g _ _ ok.cc.1 ok.cc.2) ?_
      rw [hq]
      refine Runs.go 2 rfl trivial ?_
      refine Runs.ifT rfl ?_
      exact fin
