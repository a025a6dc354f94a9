/-! the reference: the text's ends, and what is told -/
theorem m_clearText (n : Nat) (h : DH) (s f : Nat → Int32) : dEx (n + 1) 124 [.inr (14, 0, 0)] (hp h s f) (some (.inl (h.1 (14, 0, 0) 7)), hp (up1 h (14, 0, 0) 7 0) s f) := by
  refine dx_124 ?_
  refine Runs.go 7 rfl trivial ?_
  rw [hp_ne _ _ _ (by decide) (by decide), hp_un _ _ _ _ _ (by decide) (by decide)]
  exact Runs.fin rfl trivial
theorem m_type (n : Nat) (x : Int32) (h : DH) (s f : Nat → Int32) {k : Nat} (hk : h.1 (14, 0, 0) 7 = nI k) (hk80 : k ≤ 80) : dEx (n + 1) 123 [.inr (14, 0, 0), .inl x] (hp h s f) (if k = 80 then (some (.inl (-3)), hp h s f) else (some (.inl (nI (k + 1))), hp (up1 (up1 h (19, 0, 0) k x) (14, 0, 0) 7 (nI (k + 1))) s f)) := by
  refine dx_123 ?_
  refine Runs.go 3 rfl trivial ?_
  have g7 : (hp h s f).1 (14, 0, 0) 7 = nI k := by rw [hp_ne _ _ _ (by decide) (by decide), hk]
  rw [g7]
  refine Runs.go 1 rfl trivial ?_
  refine Runs.ifS (fun z => ?_) (fun z => ?_)
  · rw [if_pos (nI_inj (by omega) (by decide) z)]
    refine Runs.go 1 rfl trivial ?_
    exact Runs.fin rfl trivial
  · have nz : ¬ k = 80 := fun t => z (by rw [t]; rfl)
    rw [if_neg nz]
    refine Runs.go 14 rfl ⟨trivial, (by rw [g7]; exact i_in (show k < 80 by omega) (by decide))⟩ ?_
    have g : (hp (up1 h (19, 0, 0) k x) s f).1 (14, 0, 0) 7 = nI k := by rw [hp_ne _ _ _ (by decide) (by decide), up1_ne _ _ _ (by decide), hk]
    rw [g7, i_cl (show k < 2 ^ 31 by omega), hp_un _ _ _ k _ (show ((19, 0, 0) : DKey) ≠ (15, 0, 0) by decide) (by decide), g, nI_1, up1_1, if_pos ⟨rfl, rfl⟩, hp_un _ _ _ _ _ (by decide) (by decide)]
    exact Runs.fin rfl trivial
theorem m_readsOf (n k : Nat) (x : Int32) (h : DH) (s f : Nat → Int32) (hk : k ≤ 30) : dEx (n + 2) 138 [.inr (14, 0, 0), .inl x, .inl (nI k)] (hp h s f) (some (.inl (mahd s x k)), hp h s f) := by
  refine dx_138 ?_
  generalize hr : ((some (.inl (mahd s x k)) : Option DV), hp h s f) = r
  refine Runs.go 4 rfl trivial ?_
  refine Runs.loop k (fun q => (5, [some (.inr (14, 0, 0)), some (.inl x), some (.inl (nI k)), some (.inl (mahd s x q)), some (.inl (nI q))], [], hp h s f)) (fun q hq ih => ?_) ?_
  · refine Runs.go 3 rfl trivial ?_
    refine Runs.ifF (i_ge hq (by omega)) ?_
    refine Runs.go 5 rfl trivial ?_
    refine Runs.cal rfl (m_ofRead n q 1 _) ?_
    refine Runs.go 3 rfl ⟨trivial, (oR_in (show q < 30 by omega) (by decide))⟩ ?_
    simp only [hp_s, hp_f, hp_o, hp_up, hp_fu, tc0, tc1, tc2, tc3, tc4, tc5, tc6, tc7, tc8, tc9, tc10, tc11, tc12, tc13, tc14, tc15, tc16, tc17, tc18, tc19, tc20, tc93, oR_cl (show q < 30 by omega) (show 1 < 5 by decide)]
    rw [show mahd s x (q + 1) = mahd s x q + (if s (oR q 1) = x then 1 else 0) from rfl] at ih
    refine Runs.ifS (fun z => ?_) (fun z => ?_)
    · rw [if_pos z] at ih
      refine Runs.go 6 rfl trivial ?_
      rw [nI_1]
      exact ih
    · rw [if_neg z] at ih
      refine Runs.go 5 rfl trivial ?_
      rw [nI_1]
      exact ih
  · refine Runs.go 3 rfl trivial ?_
    refine Runs.ifT (Int32.le_refl _) ?_
    refine Runs.go 1 rfl trivial ?_
    exact Runs.fin (by rw [← hr]; rfl) trivial
def mtd (s : Nat → Int32) (c d : Nat) (x : Int32) : Int32 := if x = 0 then s (oD d 0) else if x = 1 then mcur s c d else if x = 2 then s (oD d 1) else if x = 3 then s (oD d 2) else if x = 4 then s (oD d 3) else if x = 5 then mahd s (nI d) c else if x = 6 then s (oD d 4) else if x = 7 then s (oD d 5) else -2
theorem m_disk (n : Nat) (y x : Int32) (h : DH) (s f : Nat → Int32) {c : Nat} (hc : s 93 = nI c) (h30 : c ≤ 30) : (¬ wip y 0 11 → dEx (n + 4) 137 [.inr (14, 0, 0), .inl y, .inl x] (hp h s f) (some (.inl (-1)), hp h s f)) ∧ (∀ d, d < 12 → y = nI d → dEx (n + 4) 137 [.inr (14, 0, 0), .inl y, .inl x] (hp h s f) (some (.inl (mtd s c d x)), hp h s f)) := by
  constructor
  · intro hy
    refine dx_137 ?_
    refine Runs.go 1 rfl trivial ?_
    refine Runs.cal rfl (m_isDisk (n + 1) _ _) ?_
    rw [wi_0 hy]
    refine Runs.go 1 rfl trivial ?_
    refine Runs.ifT rfl ?_
    refine Runs.go 1 rfl trivial ?_
    exact Runs.fin rfl trivial
  · rintro d hd rfl
    refine dx_137 ?_
    refine Runs.go 1 rfl trivial ?_
    refine Runs.cal rfl (m_isDisk (n + 1) _ _) ?_
    rw [wi_1 (show wip (nI d) 0 11 from ⟨nI_pos (by omega), nI_nlt (show d ≤ 11 by omega) (by decide)⟩)]
    refine Runs.go 1 rfl trivial ?_
    refine Runs.ifF (by decide) ?_
    refine Runs.go 2 rfl trivial ?_
    unfold mtd
    refine Runs.sw1 (fun e => ?_) (fun e => ?_)
    · rw [if_pos (show x = 0 from e)]
      refine Runs.go 4 rfl trivial ?_
      refine Runs.cal rfl (m_of (n + 2) d 0 _) ?_
      refine Runs.go 1 rfl ⟨trivial, (oD_in hd (by decide))⟩ ?_
      simp only [hp_s, hp_f, hp_o, hp_up, hp_fu, tc0, tc1, tc2, tc3, tc4, tc5, tc6, tc7, tc8, tc9, tc10, tc11, tc12, tc13, tc14, tc15, tc16, tc17, tc18, tc19, tc20, tc93, oD_cl hd (show 0 < 6 by decide)]
      exact Runs.fin rfl trivial
    rw [if_neg (show ¬ x = 0 from e)]
    refine Runs.sw1 (fun e => ?_) (fun e => ?_)
    · rw [if_pos (show x = 1 from e)]
      refine Runs.go 2 rfl trivial ?_
      refine Runs.cal rfl (m_currentOf n d h s f hc h30 hd) ?_
      exact Runs.fin rfl trivial
    rw [if_neg (show ¬ x = 1 from e)]
    refine Runs.sw1 (fun e => ?_) (fun e => ?_)
    · rw [if_pos (show x = 2 from e)]
      refine Runs.go 4 rfl trivial ?_
      refine Runs.cal rfl (m_of (n + 2) d 1 _) ?_
      refine Runs.go 1 rfl ⟨trivial, (oD_in hd (by decide))⟩ ?_
      simp only [hp_s, hp_f, hp_o, hp_up, hp_fu, tc0, tc1, tc2, tc3, tc4, tc5, tc6, tc7, tc8, tc9, tc10, tc11, tc12, tc13, tc14, tc15, tc16, tc17, tc18, tc19, tc20, tc93, oD_cl hd (show 1 < 6 by decide)]
      exact Runs.fin rfl trivial
    rw [if_neg (show ¬ x = 2 from e)]
    refine Runs.sw1 (fun e => ?_) (fun e => ?_)
    · rw [if_pos (show x = 3 from e)]
      refine Runs.go 4 rfl trivial ?_
      refine Runs.cal rfl (m_of (n + 2) d 2 _) ?_
      refine Runs.go 1 rfl ⟨trivial, (oD_in hd (by decide))⟩ ?_
      simp only [hp_s, hp_f, hp_o, hp_up, hp_fu, tc0, tc1, tc2, tc3, tc4, tc5, tc6, tc7, tc8, tc9, tc10, tc11, tc12, tc13, tc14, tc15, tc16, tc17, tc18, tc19, tc20, tc93, oD_cl hd (show 2 < 6 by decide)]
      exact Runs.fin rfl trivial
    rw [if_neg (show ¬ x = 3 from e)]
    refine Runs.sw1 (fun e => ?_) (fun e => ?_)
    · rw [if_pos (show x = 4 from e)]
      refine Runs.go 4 rfl trivial ?_
      refine Runs.cal rfl (m_of (n + 2) d 3 _) ?_
      refine Runs.go 1 rfl ⟨trivial, (oD_in hd (by decide))⟩ ?_
      simp only [hp_s, hp_f, hp_o, hp_up, hp_fu, tc0, tc1, tc2, tc3, tc4, tc5, tc6, tc7, tc8, tc9, tc10, tc11, tc12, tc13, tc14, tc15, tc16, tc17, tc18, tc19, tc20, tc93, oD_cl hd (show 3 < 6 by decide)]
      exact Runs.fin rfl trivial
    rw [if_neg (show ¬ x = 4 from e)]
    refine Runs.sw1 (fun e => ?_) (fun e => ?_)
    · rw [if_pos (show x = 5 from e)]
      refine Runs.go 6 rfl ⟨trivial, (by unfold vp_in; decide)⟩ ?_
      simp only [hp_s, hp_f, hp_o, hp_up, hp_fu, tc0, tc1, tc2, tc3, tc4, tc5, tc6, tc7, tc8, tc9, tc10, tc11, tc12, tc13, tc14, tc15, tc16, tc17, tc18, tc19, tc20, tc93, hc]
      refine Runs.cal rfl (m_readsOf (n + 1) c (nI d) h s f h30) ?_
      exact Runs.fin rfl trivial
    rw [if_neg (show ¬ x = 5 from e)]
    refine Runs.sw1 (fun e => ?_) (fun e => ?_)
    · rw [if_pos (show x = 6 from e)]
      refine Runs.go 4 rfl trivial ?_
      refine Runs.cal rfl (m_of (n + 2) d 4 _) ?_
      refine Runs.go 1 rfl ⟨trivial, (oD_in hd (by decide))⟩ ?_
      simp only [hp_s, hp_f, hp_o, hp_up, hp_fu, tc0, tc1, tc2, tc3, tc4, tc5, tc6, tc7, tc8, tc9, tc10, tc11, tc12, tc13, tc14, tc15, tc16, tc17, tc18, tc19, tc20, tc93, oD_cl hd (show 4 < 6 by decide)]
      exact Runs.fin rfl trivial
    rw [if_neg (show ¬ x = 6 from e)]
    refine Runs.sw1 (fun e => ?_) (fun e => ?_)
    · rw [if_pos (show x = 7 from e)]
      refine Runs.go 4 rfl trivial ?_
      refine Runs.cal rfl (m_of (n + 2) d 5 _) ?_
      refine Runs.go 1 rfl ⟨trivial, (oD_in hd (by decide))⟩ ?_
      simp only [hp_s, hp_f, hp_o, hp_up, hp_fu, tc0, tc1, tc2, tc3, tc4, tc5, tc6, tc7, tc8, tc9, tc10, tc11, tc12, tc13, tc14, tc15, tc16, tc17, tc18, tc19, tc20, tc93, oD_cl hd (show 5 < 6 by decide)]
      exact Runs.fin rfl trivial
    rw [if_neg (show ¬ x = 7 from e)]
    refine Runs.sw0 ?_
    refine Runs.go 1 rfl trivial ?_
    exact Runs.fin rfl trivial
