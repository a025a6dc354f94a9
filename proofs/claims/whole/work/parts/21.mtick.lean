/-! the reference's tick, as it is -/
def cc (s : Nat → Int32) : Nat := (s 93).toNatClampNeg
theorem cc_of {s : Nat → Int32} {c : Nat} (hc : s 93 = nI c) (h30 : c ≤ 30) : cc s = c := by
  unfold cc
  rw [hc, i_cl (by omega)]
def okC (s : Nat → Int32) : Prop := ∃ c, c ≤ 30 ∧ s 93 = nI c
theorem okC.cc {s : Nat → Int32} (h : okC s) : s 93 = nI (cc s) ∧ cc s ≤ 30 := by
  obtain ⟨c, h1, h2⟩ := h
  rw [cc_of h2 h1]
  exact ⟨h2, h1⟩
theorem okC.of {s s' : Nat → Int32} (h : okC s) (e : s' 93 = s 93) : okC s' := by
  obtain ⟨c, h1, h2⟩ := h
  exact ⟨c, h1, e.trans h2⟩
theorem oD_93 (d w : Nat) (hd : d < 12) (hw : w < 6) : (93 : Nat) ≠ oD d w := by unfold oD; omega
theorem oR_93 (k w : Nat) : (93 : Nat) ≠ oR k w := by unfold oR; omega
theorem mSb_93 (s : Nat → Int32) (d : Nat) (hd : d < 12) : mSb s d 93 = s 93 := by
  unfold mSb
  rw [upd_n _ _ (oD_93 d 3 hd (by decide)), upd_n _ _ (oD_93 d 1 hd (by decide)), upd_n _ _ (oD_93 d 0 hd (by decide))]
theorem mrm_93 (s : Nat → Int32) (p c : Nat) : mrm s p c 93 = nI (c - 1) := by
  unfold mrm msh
  rw [if_neg (by unfold oR; omega), upd_s]
theorem nI_m5 {k : Nat} (hk : k < 2 ^ 31) : ¬ nI k = -5 := by
  intro q
  have := nI_pos hk
  rw [q] at this
  exact this (by decide)
theorem vn0 : vp_nar .boolean 0 = 0 := rfl
theorem vn1 : vp_nar .boolean 1 = 1 := rfl
def coMB (c d : Nat) (s : Nat → Int32) : Nat → Int32 := if wi (s (oD d 0)) 1 2 = 0 then s else ban (mSb s d) d c
def coM (s : Nat → Int32) (c : Nat) : Nat → (Nat → Int32)
  | 0 => s
  | d + 1 => coMB c d (coM s c d)
theorem coM_93 (s : Nat → Int32) (c : Nat) : ∀ d, d ≤ 12 → coM s c d 93 = s 93 := by
  intro d
  induction d with
  | zero => intro _; rfl
  | succ d ih =>
    intro hd
    rw [show coM s c (d + 1) = coMB c d (coM s c d) from rfl]
    unfold coMB
    split
    · exact ih (by omega)
    · rw [ban_93, mSb_93 _ _ (by omega)]
      exact ih (by omega)
theorem m_cutOff (n : Nat) (h : DH) (s f : Nat → Int32) {c : Nat} (hc : s 93 = nI c) (h30 : c ≤ 30) : dEx (n + 3) 114 [.inr (14, 0, 0)] (hp h s f) (none, hp h (coM s c 12) f) := by
  refine dx_114 ?_
  generalize hr : ((none : Option DV), hp h (coM s c 12) f) = r
  refine Runs.go 2 rfl trivial ?_
  refine Runs.loop 12 (fun k => (2, [some (.inr (14, 0, 0)), some (.inl (nI k))], [], hp h (coM s c k) f)) (fun k hk ih => ?_) ?_
  · refine Runs.go 3 rfl trivial ?_
    refine Runs.ifF (i_ge hk (by decide)) ?_
    have hg := coM_93 s c k (by omega)
    rw [hc] at hg
    rw [show coM s c (k + 1) = coMB c k (coM s c k) from rfl] at ih
    generalize coM s c k = g at ih hg ⊢
    unfold coMB at ih
    refine Runs.go 4 rfl trivial ?_
    refine Runs.cal rfl (m_of (n + 1) k 0 _) ?_
    refine Runs.go 3 rfl ⟨trivial, (oD_in hk (by decide))⟩ ?_
    simp only [hp_s, hp_f, hp_o, hp_up, hp_fu, tc0, tc1, tc2, tc3, tc4, tc5, tc6, tc7, tc8, tc9, tc10, tc11, tc12, tc13, tc14, tc15, tc16, tc17, tc18, tc19, tc20, tc93, oD_cl hk (show 0 < 6 by decide)]
    refine Runs.cal rfl (m_in (n + 1) _ _ _ _) ?_
    refine Runs.go 1 rfl trivial ?_
    refine Runs.ifS (fun z => ?_) (fun z => ?_)
    · rw [if_pos z] at ih
      refine Runs.go 2 rfl trivial ?_
      rw [nI_1]
      exact ih
    · rw [if_neg z] at ih
      refine Runs.go 2 rfl trivial ?_
      refine Runs.calv rfl (m_standBy n k h g f hk) ?_
      refine Runs.go 2 rfl trivial ?_
      refine Runs.calv rfl (m_beginAnew n k h (mSb g k) f (by rw [mSb_93 _ _ hk]; exact hg) h30) ?_
      refine Runs.go 2 rfl trivial ?_
      rw [nI_1]
      exact ih
  · refine Runs.go 3 rfl trivial ?_
    refine Runs.ifT (Int32.le_refl _) ?_
    exact Runs.fin (by rw [← hr]; rfl) trivial
/-- all reads of a disk are lost -/
def brkN (d : Nat) : Nat → (Nat → Int32) → (Nat → Int32)
  | 0, s => s
  | n + 1, s => match mfst s (cc s) (nI d) with
    | none => s
    | some p => brkN d n (upd (mrm s p (cc s)) 14 (mrm s p (cc s) 14 + 1))
theorem m_breakDisk (n d : Nat) (h : DH) (s f : Nat → Int32) (hk : okC s) (hd : d < 12) : dEx (n + 3) 118 [.inr (14, 0, 0), .inl (nI d)] (hp h s f) (none, hp h (brkN d 30 (upd s (oD d 0) 3)) f) := by
  refine dx_118 ?_
  refine Runs.go 4 rfl trivial ?_
  refine Runs.cal rfl (m_of (n + 1) d 0 _) ?_
  have key : ∀ (m : Nat) (g : Nat → Int32), okC g → cc g ≤ m → Runs dT_118 (dEx (n + 2)) (11, [some (.inr (14, 0, 0)), some (.inl (nI d))], [], hp h g f) (none, hp h (brkN d m g) f) := by
    intro m
    induction m with
    | zero =>
      intro g hg hm
      obtain ⟨g1, g2⟩ := hg.cc
      have hcc : cc g = 0 := by omega
      rw [hcc] at g1
      refine Runs.go 2 rfl trivial ?_
      refine Runs.cal rfl (m_firstOf n _ h g f g1 (by decide)) ?_
      rw [show mfst g 0 (nI d) = none from rfl]
      refine Runs.go 2 rfl trivial ?_
      refine Runs.ifT rfl ?_
      exact Runs.fin rfl trivial
    | succ m ih =>
      intro g hg hm
      obtain ⟨g1, g2⟩ := hg.cc
      unfold brkN
      refine Runs.go 2 rfl trivial ?_
      refine Runs.cal rfl (m_firstOf n _ h g f g1 g2) ?_
      cases hf : mfst g (cc g) (nI d) with
      | none =>
        refine Runs.go 2 rfl trivial ?_
        refine Runs.ifT rfl ?_
        exact Runs.fin rfl trivial
      | some p =>
        have hpc := (fp_some hf).1
        refine Runs.go 2 rfl trivial ?_
        refine Runs.ifF (nI_m5 (show p < 2 ^ 31 by omega)) ?_
        refine Runs.go 3 rfl trivial ?_
        refine Runs.cal rfl (m_firstOf n _ h g f g1 g2) ?_
        rw [hf]
        refine Runs.calv rfl (m_remove n p h g f g1 g2 hpc) ?_
        refine Runs.go 9 rfl ⟨⟨trivial, (by unfold vp_in; decide)⟩, (by unfold vp_in; decide)⟩ ?_
        simp only [hp_s, hp_f, hp_o, hp_up, hp_fu, tc0, tc1, tc2, tc3, tc4, tc5, tc6, tc7, tc8, tc9, tc10, tc11, tc12, tc13, tc14, tc15, tc16, tc17, tc18, tc19, tc20, tc93]
        refine ih _ ⟨cc g - 1, by omega, ?_⟩ ?_
        · rw [upd_n _ _ (by decide), mrm_93]
        · rw [cc_of (c := cc g - 1) (by rw [upd_n _ _ (by decide), mrm_93]) (by omega)]
          omega
  refine Runs.go 2 rfl ⟨trivial, oD_in hd (by decide)⟩ ?_
  simp only [hp_s, hp_f, hp_o, hp_up, hp_fu, tc0, tc1, tc2, tc3, tc4, tc5, tc6, tc7, tc8, tc9, tc10, tc11, tc12, tc13, tc14, tc15, tc16, tc17, tc18, tc19, tc20, tc93, oD_cl hd (show 0 < 6 by decide)]
  have hk2 : okC (upd s (oD d 0) 3) := hk.of (by rw [upd_n _ _ (oD_93 d 0 hd (by decide))])
  exact key 30 _ hk2 hk2.cc.2
def endM (d : Nat) (q : (Nat → Int32) × (Nat → Int32)) : (Nat → Int32) × (Nat → Int32) := if q.1 (oD d 4) = 0 then (upd (upd (upd q.1 (oD d 0) 2) (oD d 2) 0) (oD d 3) 0, q.2) else (if mSb (upd (upd (upd q.1 (oD d 4) 0) (oD d 2) (q.1 (oD d 2) + 1)) 19 (q.1 19 + 1)) d (oD d 2) = 3 then brkN d 30 (upd (mSb (upd (upd (upd q.1 (oD d 4) 0) (oD d 2) (q.1 (oD d 2) + 1)) 19 (q.1 19 + 1)) d) (oD d 0) 3) else mSb (upd (upd (upd q.1 (oD d 4) 0) (oD d 2) (q.1 (oD d 2) + 1)) 19 (q.1 19 + 1)) d, upd q.2 d 1)
theorem brkN_ok (d : Nat) : ∀ (m : Nat) (g : Nat → Int32), okC g → okC (brkN d m g) := by
  intro m
  induction m with
  | zero => intro g hg; exact hg
  | succ m ih =>
    intro g hg
    unfold brkN
    split
    · exact hg
    · obtain ⟨g1, g2⟩ := hg.cc
      exact ih _ ⟨cc g - 1, by omega, by rw [upd_n _ _ (by decide), mrm_93]⟩
theorem endM_ok {d : Nat} (hd : d < 12) {q : (Nat → Int32) × (Nat → Int32)} (hk : okC q.1) : okC (endM d q).1 := by
  have h1 : okC (mSb (upd (upd (upd q.1 (oD d 4) 0) (oD d 2) (q.1 (oD d 2) + 1)) 19 (q.1 19 + 1)) d) := hk.of (by rw [mSb_93 _ _ hd, upd_n _ _ (by decide), upd_n _ _ (oD_93 d 2 hd (by decide)), upd_n _ _ (oD_93 d 4 hd (by decide))])
  unfold endM
  split
  · exact hk.of (by dsimp only; rw [upd_n _ _ (oD_93 d 3 hd (by decide)), upd_n _ _ (oD_93 d 2 hd (by decide)), upd_n _ _ (oD_93 d 0 hd (by decide))])
  · dsimp only
    split
    · exact brkN_ok _ _ _ (h1.of (by rw [upd_n _ _ (oD_93 d 0 hd (by decide))]))
    · exact h1
theorem oD_ne {d w d' w' : Nat} (hw : w < 6) (hw' : w' < 6) (h : d ≠ d' ∨ w ≠ w') : oD d w ≠ oD d' w' := by unfold oD; omega
theorem oD_19 (d w k : Nat) (hk : k < 21) : oD d w ≠ k := by unfold oD; omega
theorem m_endStart (n d : Nat) (h : DH) (s f : Nat → Int32) (hk : okC s) (hd : d < 12) : dEx (n + 4) 117 [.inr (14, 0, 0), .inl (nI d)] (hp h s f) (none, hp h (endM d (s, f)).1 (endM d (s, f)).2) := by
  refine dx_117 ?_
  unfold endM
  refine Runs.go 4 rfl trivial ?_
  refine Runs.cal rfl (m_of (n + 2) d 4 _) ?_
  refine Runs.go 2 rfl ⟨trivial, (oD_in hd (by decide))⟩ ?_
  simp only [hp_s, hp_f, hp_o, hp_up, hp_fu, tc0, tc1, tc2, tc3, tc4, tc5, tc6, tc7, tc8, tc9, tc10, tc11, tc12, tc13, tc14, tc15, tc16, tc17, tc18, tc19, tc20, tc93, oD_cl hd (show 4 < 6 by decide)]
  refine Runs.ifS (fun z => ?_) (fun z => ?_)
  · rw [if_pos z]
    refine Runs.go 4 rfl trivial ?_
    refine Runs.cal rfl (m_of (n + 2) d 0 _) ?_
    refine Runs.go 6 rfl ⟨trivial, (oD_in hd (by decide))⟩ ?_
    refine Runs.cal rfl (m_of (n + 2) d 2 _) ?_
    refine Runs.go 6 rfl ⟨trivial, (oD_in hd (by decide))⟩ ?_
    refine Runs.cal rfl (m_of (n + 2) d 3 _) ?_
    refine Runs.go 2 rfl ⟨trivial, (oD_in hd (by decide))⟩ ?_
    simp only [hp_s, hp_f, hp_o, hp_up, hp_fu, tc0, tc1, tc2, tc3, tc4, tc5, tc6, tc7, tc8, tc9, tc10, tc11, tc12, tc13, tc14, tc15, tc16, tc17, tc18, tc19, tc20, tc93, oD_cl hd (show 0 < 6 by decide), oD_cl hd (show 2 < 6 by decide), oD_cl hd (show 3 < 6 by decide)]
    exact Runs.fin rfl trivial
  · rw [if_neg z]
    refine Runs.go 4 rfl trivial ?_
    refine Runs.cal rfl (m_of (n + 2) d 4 _) ?_
    refine Runs.go 6 rfl ⟨trivial, (oD_in hd (by decide))⟩ ?_
    refine Runs.cal rfl (m_of (n + 2) d 2 _) ?_
    refine Runs.go 20 rfl ⟨⟨⟨⟨⟨trivial, (oD_in hd (by decide))⟩, (oD_in hd (by decide))⟩, (by unfold vp_in; decide)⟩, (by unfold vp_in; decide)⟩, (i_in hd (by decide))⟩ ?_
    simp only [hp_s, hp_f, hp_o, hp_up, hp_fu, tc0, tc1, tc2, tc3, tc4, tc5, tc6, tc7, tc8, tc9, tc10, tc11, tc12, tc13, tc14, tc15, tc16, tc17, tc18, tc19, tc20, tc93, oD_cl hd (show 4 < 6 by decide), oD_cl hd (show 2 < 6 by decide), i_cl (show d < 2 ^ 31 by omega), vn1]
    rw [upd_n s 0 (oD_ne (show 2 < 6 by decide) (show 4 < 6 by decide) (Or.inr (by decide))), upd_n _ _ (oD_19 d 2 19 (by decide)).symm, upd_n _ _ (oD_19 d 4 19 (by decide)).symm]
    have hk3 : okC (upd (upd (upd s (oD d 4) 0) (oD d 2) (s (oD d 2) + 1)) 19 (s 19 + 1)) := hk.of (by rw [upd_n _ _ (by decide), upd_n _ _ (oD_93 d 2 hd (by decide)), upd_n _ _ (oD_93 d 4 hd (by decide))])
    generalize upd (upd (upd s (oD d 4) 0) (oD d 2) (s (oD d 2) + 1)) 19 (s 19 + 1) = s3 at hk3 ⊢
    refine Runs.calv rfl (m_standBy (n + 1) d h s3 (upd f d 1) hd) ?_
    have hk4 : okC (mSb s3 d) := hk3.of (mSb_93 _ _ hd)
    generalize mSb s3 d = s4 at hk4 ⊢
    refine Runs.go 4 rfl trivial ?_
    refine Runs.cal rfl (m_of (n + 2) d 2 _) ?_
    refine Runs.go 3 rfl ⟨trivial, (oD_in hd (by decide))⟩ ?_
    simp only [hp_s, hp_f, hp_o, hp_up, hp_fu, tc0, tc1, tc2, tc3, tc4, tc5, tc6, tc7, tc8, tc9, tc10, tc11, tc12, tc13, tc14, tc15, tc16, tc17, tc18, tc19, tc20, tc93, oD_cl hd (show 2 < 6 by decide)]
    refine Runs.ifS (fun z => ?_) (fun z => ?_)
    · rw [if_pos z]
      refine Runs.go 2 rfl trivial ?_
      refine Runs.calv rfl (m_breakDisk n d h s4 _ hk4 hd) ?_
      exact Runs.fin rfl trivial
    · rw [if_neg z]
      exact Runs.fin rfl trivial
def stMB (d : Nat) (q : (Nat → Int32) × (Nat → Int32)) : (Nat → Int32) × (Nat → Int32) := if q.1 (oD d 0) = 1 then (if q.1 (oD d 1) - 1 = 0 then endM d (upd q.1 (oD d 1) (q.1 (oD d 1) - 1), upd q.2 d 0) else (upd q.1 (oD d 1) (q.1 (oD d 1) - 1), upd q.2 d 0)) else (q.1, upd q.2 d 0)
def stM (s f : Nat → Int32) : Nat → (Nat → Int32) × (Nat → Int32)
  | 0 => (s, f)
  | d + 1 => stMB d (stM s f d)
theorem stMB_ok {d : Nat} (hd : d < 12) {q : (Nat → Int32) × (Nat → Int32)} (hk : okC q.1) : okC (stMB d q).1 := by
  have h1 : okC (upd q.1 (oD d 1) (q.1 (oD d 1) - 1)) := hk.of (by rw [upd_n _ _ (oD_93 d 1 hd (by decide))])
  unfold stMB
  split
  · split
    · exact endM_ok hd h1
    · exact h1
  · exact hk
theorem stM_ok {s f : Nat → Int32} (hk : okC s) : ∀ d, d ≤ 12 → okC (stM s f d).1 := by
  intro d
  induction d with
  | zero => intro _; exact hk
  | succ d ih => intro hd; exact stMB_ok (by omega) (ih (by omega))
theorem m_starts (n : Nat) (h : DH) (s f : Nat → Int32) (hk : okC s) : dEx (n + 5) 116 [.inr (14, 0, 0)] (hp h s f) (none, hp h (stM s f 12).1 (stM s f 12).2) := by
  refine dx_116 ?_
  generalize hr : ((none : Option DV), hp h (stM s f 12).1 (stM s f 12).2) = r
  refine Runs.go 2 rfl trivial ?_
  refine Runs.loop 12 (fun k => (2, [some (.inr (14, 0, 0)), some (.inl (nI k))], [], hp h (stM s f k).1 (stM s f k).2)) (fun k hk2 ih => ?_) ?_
  · refine Runs.go 3 rfl trivial ?_
    refine Runs.ifF (i_ge hk2 (by decide)) ?_
    have hg := stM_ok (f := f) hk k (by omega)
    rw [show stM s f (k + 1) = stMB k (stM s f k) from rfl] at ih
    generalize stM s f k = q at ih hg ⊢
    obtain ⟨s1, f1⟩ := q
    unfold stMB at ih
    dsimp only at ih hg ⊢
    refine Runs.go 9 rfl ⟨trivial, (i_in hk2 (by decide))⟩ ?_
    simp only [hp_s, hp_f, hp_o, hp_up, hp_fu, tc0, tc1, tc2, tc3, tc4, tc5, tc6, tc7, tc8, tc9, tc10, tc11, tc12, tc13, tc14, tc15, tc16, tc17, tc18, tc19, tc20, tc93, i_cl (show k < 2 ^ 31 by omega), vn0]
    refine Runs.cal rfl (m_of (n + 3) k 0 _) ?_
    refine Runs.go 3 rfl ⟨trivial, (oD_in hk2 (by decide))⟩ ?_
    simp only [hp_s, hp_f, hp_o, hp_up, hp_fu, tc0, tc1, tc2, tc3, tc4, tc5, tc6, tc7, tc8, tc9, tc10, tc11, tc12, tc13, tc14, tc15, tc16, tc17, tc18, tc19, tc20, tc93, oD_cl hk2 (show 0 < 6 by decide)]
    refine Runs.ifS (fun z => ?_) (fun z => ?_)
    · rw [if_pos z] at ih
      refine Runs.go 4 rfl trivial ?_
      refine Runs.cal rfl (m_of (n + 3) k 1 _) ?_
      refine Runs.go 9 rfl ⟨⟨trivial, (oD_in hk2 (by decide))⟩, (oD_in hk2 (by decide))⟩ ?_
      simp only [hp_s, hp_f, hp_o, hp_up, hp_fu, tc0, tc1, tc2, tc3, tc4, tc5, tc6, tc7, tc8, tc9, tc10, tc11, tc12, tc13, tc14, tc15, tc16, tc17, tc18, tc19, tc20, tc93, oD_cl hk2 (show 1 < 6 by decide)]
      refine Runs.cal rfl (m_of (n + 3) k 1 _) ?_
      refine Runs.go 2 rfl ⟨trivial, (oD_in hk2 (by decide))⟩ ?_
      simp only [hp_s, hp_f, hp_o, hp_up, hp_fu, tc0, tc1, tc2, tc3, tc4, tc5, tc6, tc7, tc8, tc9, tc10, tc11, tc12, tc13, tc14, tc15, tc16, tc17, tc18, tc19, tc20, tc93, oD_cl hk2 (show 1 < 6 by decide), upd_s]
      refine Runs.ifS (fun z2 => ?_) (fun z2 => ?_)
      · rw [if_pos z2] at ih
        refine Runs.go 2 rfl trivial ?_
        refine Runs.calv rfl (m_endStart n k h _ _ (hg.of (by rw [upd_n _ _ (oD_93 k 1 hk2 (by decide))])) hk2) ?_
        refine Runs.go 2 rfl trivial ?_
        rw [nI_1]
        exact ih
      · rw [if_neg z2] at ih
        refine Runs.go 2 rfl trivial ?_
        rw [nI_1]
        exact ih
    · rw [if_neg z] at ih
      refine Runs.go 2 rfl trivial ?_
      rw [nI_1]
      exact ih
  · refine Runs.go 3 rfl trivial ?_
    refine Runs.ifT (Int32.le_refl _) ?_
    exact Runs.fin (by rw [← hr]; rfl) trivial
def rdM2 (s : Nat → Int32) (p : Nat) : Nat → Int32 := upd (upd s 13 (s 13 + 1)) 20 (s 20 + (s 10 + 1 - s (oR p 4)))
def rdMB (d : Nat) (s : Nat → Int32) : Nat → Int32 := if s (oD d 0) = 2 then (match mfst s (cc s) (nI d) with
  | some p => if s (oR p 3) - 1 = 0 then mrm (rdM2 (upd (upd s (oD d 3) 0) (oR p 3) (s (oR p 3) - 1)) p) p (cc s) else upd (upd s (oD d 3) 0) (oR p 3) (s (oR p 3) - 1)
  | none => if s 9 ≤ 0 then upd s (oD d 3) (s (oD d 3) + 1) else if s (oD d 3) + 1 < s 9 then upd s (oD d 3) (s (oD d 3) + 1) else mSb (upd s (oD d 3) (s (oD d 3) + 1)) d) else s
def rdM (s : Nat → Int32) : Nat → (Nat → Int32)
  | 0 => s
  | d + 1 => rdMB d (rdM s d)
theorem rdMB_ok {d : Nat} (hd : d < 12) {s : Nat → Int32} (hk : okC s) : okC (rdMB d s) := by
  have h1 : ∀ x, okC (upd s (oD d 3) x) := fun x => hk.of (by rw [upd_n _ _ (oD_93 d 3 hd (by decide))])
  unfold rdMB
  split
  · split
    · rename_i p hp
      obtain ⟨g1, g2⟩ := hk.cc
      split
      · exact ⟨cc s - 1, by omega, mrm_93 _ _ _⟩
      · exact (h1 0).of (by rw [upd_n _ _ (oR_93 p 3)])
    · split
      · exact h1 _
      · split
        · exact h1 _
        · exact (h1 _).of (mSb_93 _ _ hd)
  · exact hk
theorem rdM_ok {s : Nat → Int32} (hk : okC s) : ∀ d, d ≤ 12 → okC (rdM s d) := by
  intro d
  induction d with
  | zero => intro _; exact hk
  | succ d ih => intro hd; exact rdMB_ok (by omega) (ih (by omega))
def lom (h : Nat → Option Nat) : Nat → Option DV
  | 0 => none
  | k + 1 => some (.inl (oI (-5) (h k)))
theorem oR_oD {k w d w' : Nat} (hd : d < 12) (hw' : w' < 6) : oR k w ≠ oD d w' := by unfold oR oD; omega
theorem oR_lt (k w m : Nat) (hm : m < 94) : oR k w ≠ m := by unfold oR; omega
theorem m_reads (n : Nat) (h : DH) (s f : Nat → Int32) (hk : okC s) : dEx (n + 3) 119 [.inr (14, 0, 0)] (hp h s f) (none, hp h (rdM s 12) f) := by
  refine dx_119 ?_
  generalize hr : ((none : Option DV), hp h (rdM s 12) f) = r
  refine Runs.go 2 rfl trivial ?_
  refine Runs.loop 12 (fun k => (2, [some (.inr (14, 0, 0)), some (.inl (nI k)), lom (fun j => mfst (rdM s j) (cc (rdM s j)) (nI j)) k], [], hp h (rdM s k) f)) (fun k hk2 ih => ?_) ?_
  · refine Runs.go 3 rfl trivial ?_
    refine Runs.ifF (i_ge hk2 (by decide)) ?_
    obtain ⟨g1, g2⟩ := (rdM_ok hk k (by omega)).cc
    rw [show rdM s (k + 1) = rdMB k (rdM s k) from rfl, show lom (fun j => mfst (rdM s j) (cc (rdM s j)) (nI j)) (k + 1) = some (.inl (oI (-5) (mfst (rdM s k) (cc (rdM s k)) (nI k)))) from rfl] at ih
    generalize rdM s k = g at ih g1 g2 ⊢
    unfold rdMB at ih
    refine Runs.go 2 rfl trivial ?_
    refine Runs.cal rfl (m_firstOf (n + 0) _ h g f g1 g2) ?_
    refine Runs.go 5 rfl trivial ?_
    refine Runs.cal rfl (m_of (n + 1) k 0 _) ?_
    refine Runs.go 3 rfl ⟨trivial, (oD_in hk2 (by decide))⟩ ?_
    simp only [hp_s, hp_f, hp_o, hp_up, hp_fu, tc0, tc1, tc2, tc3, tc4, tc5, tc6, tc7, tc8, tc9, tc10, tc11, tc12, tc13, tc14, tc15, tc16, tc17, tc18, tc19, tc20, tc93, oD_cl hk2 (show 0 < 6 by decide)]
    refine Runs.ifS (fun z => ?_) (fun z => ?_)
    · rw [if_pos z] at ih
      refine Runs.go 3 rfl trivial ?_
      cases hf : mfst g (cc g) (nI k) with
      | some p =>
        rw [hf] at ih
        have hpc := (fp_some hf).1
        have p30 : p < 30 := by omega
        dsimp only at ih
        refine Runs.ifF (nI_m5 (show p < 2 ^ 31 by omega)) ?_
        refine Runs.go 4 rfl trivial ?_
        refine Runs.cal rfl (m_of (n + 1) k 3 _) ?_
        refine Runs.go 6 rfl ⟨trivial, oD_in hk2 (by decide)⟩ ?_
        simp only [hp_s, hp_f, hp_o, hp_up, hp_fu, tc0, tc1, tc2, tc3, tc4, tc5, tc6, tc7, tc8, tc9, tc10, tc11, tc12, tc13, tc14, tc15, tc16, tc17, tc18, tc19, tc20, tc93, oD_cl hk2 (show 3 < 6 by decide)]
        refine Runs.cal rfl (show dEx (n + 2) 96 [.inl (oI (-5) (some p)), .inl 3] _ _ from m_ofRead (n + 1) p 3 _) ?_
        refine Runs.go 9 rfl ⟨⟨trivial, (oR_in p30 (by decide))⟩, (oR_in p30 (by decide))⟩ ?_
        simp only [hp_s, hp_f, hp_o, hp_up, hp_fu, tc0, tc1, tc2, tc3, tc4, tc5, tc6, tc7, tc8, tc9, tc10, tc11, tc12, tc13, tc14, tc15, tc16, tc17, tc18, tc19, tc20, tc93, oR_cl p30 (show 3 < 5 by decide), upd_n g 0 (oR_oD (k := p) (w := 3) hk2 (show 3 < 6 by decide))]
        refine Runs.cal rfl (show dEx (n + 2) 96 [.inl (oI (-5) (some p)), .inl 3] _ _ from m_ofRead (n + 1) p 3 _) ?_
        refine Runs.go 2 rfl ⟨trivial, (oR_in p30 (by decide))⟩ ?_
        simp only [hp_s, hp_f, hp_o, hp_up, hp_fu, tc0, tc1, tc2, tc3, tc4, tc5, tc6, tc7, tc8, tc9, tc10, tc11, tc12, tc13, tc14, tc15, tc16, tc17, tc18, tc19, tc20, tc93, oR_cl p30 (show 3 < 5 by decide), upd_s]
        refine Runs.ifS (fun z2 => ?_) (fun z2 => ?_)
        · rw [if_pos z2] at ih
          generalize hs2 : upd (upd g (oD k 3) 0) (oR p 3) (g (oR p 3) - 1) = g2 at ih ⊢
          refine Runs.go 23 rfl ⟨⟨⟨⟨trivial, (by unfold vp_in; decide)⟩, (by unfold vp_in; decide)⟩, (by unfold vp_in; decide)⟩, (by unfold vp_in; decide)⟩ ?_
          simp only [hp_s, hp_f, hp_o, hp_up, hp_fu, tc0, tc1, tc2, tc3, tc4, tc5, tc6, tc7, tc8, tc9, tc10, tc11, tc12, tc13, tc14, tc15, tc16, tc17, tc18, tc19, tc20, tc93]
          refine Runs.cal rfl (show dEx (n + 2) 96 [.inl (oI (-5) (some p)), .inl 4] _ _ from m_ofRead (n + 1) p 4 _) ?_
          refine Runs.go 6 rfl ⟨⟨trivial, (oR_in p30 (by decide))⟩, (by unfold vp_in; decide)⟩ ?_
          simp only [hp_s, hp_f, hp_o, hp_up, hp_fu, tc0, tc1, tc2, tc3, tc4, tc5, tc6, tc7, tc8, tc9, tc10, tc11, tc12, tc13, tc14, tc15, tc16, tc17, tc18, tc19, tc20, tc93, oR_cl p30 (show 4 < 5 by decide), upd_n g2 (g2 13 + 1) (show (20 : Nat) ≠ 13 by decide), upd_n g2 (g2 13 + 1) (show (10 : Nat) ≠ 13 by decide), upd_n g2 (g2 13 + 1) (oR_lt p 4 13 (by decide))]
          rw [show upd (upd g2 13 (g2 13 + 1)) 20 (g2 20 + (g2 10 + 1 - g2 (oR p 4))) = rdM2 g2 p from rfl]
          have h93 : rdM2 g2 p 93 = nI (cc g) := by
            unfold rdM2
            rw [upd_n _ _ (by decide), upd_n _ _ (by decide), ← hs2, upd_n _ _ (oR_93 p 3), upd_n _ _ (oD_93 k 3 hk2 (by decide))]
            exact g1
          refine Runs.calv rfl (show dEx (n + 2) 99 [.inr (14, 0, 0), .inl (oI (-5) (some p))] _ _ from m_remove n p h (rdM2 g2 p) f h93 (by omega) hpc) ?_
          refine Runs.go 3 rfl trivial ?_
          rw [nI_1]
          exact ih
        · rw [if_neg z2] at ih
          refine Runs.go 2 rfl trivial ?_
          rw [nI_1]
          exact ih
      | none =>
        rw [hf] at ih
        dsimp only at ih
        refine Runs.ifT rfl ?_
        refine Runs.go 4 rfl trivial ?_
        refine Runs.cal rfl (m_of (n + 1) k 0 _) ?_
        refine Runs.go 3 rfl ⟨trivial, (oD_in hk2 (by decide))⟩ ?_
        simp only [hp_s, hp_f, hp_o, hp_up, hp_fu, tc0, tc1, tc2, tc3, tc4, tc5, tc6, tc7, tc8, tc9, tc10, tc11, tc12, tc13, tc14, tc15, tc16, tc17, tc18, tc19, tc20, tc93, oD_cl hk2 (show 0 < 6 by decide)]
        refine Runs.ifT z ?_
        refine Runs.go 4 rfl trivial ?_
        refine Runs.cal rfl (m_of (n + 1) k 3 _) ?_
        refine Runs.go 10 rfl ⟨⟨⟨trivial, (oD_in hk2 (by decide))⟩, (oD_in hk2 (by decide))⟩, (by unfold vp_in; decide)⟩ ?_
        simp only [hp_s, hp_f, hp_o, hp_up, hp_fu, tc0, tc1, tc2, tc3, tc4, tc5, tc6, tc7, tc8, tc9, tc10, tc11, tc12, tc13, tc14, tc15, tc16, tc17, tc18, tc19, tc20, tc93, oD_cl hk2 (show 3 < 6 by decide)]
        rw [upd_n g _ (oD_19 k 3 9 (by decide)).symm]
        refine Runs.ifS (fun z2 => ?_) (fun z2 => ?_)
        · rw [if_pos z2] at ih
          refine Runs.go 2 rfl trivial ?_
          rw [nI_1]
          exact ih
        · rw [if_neg z2] at ih
          refine Runs.go 4 rfl trivial ?_
          refine Runs.cal rfl (m_of (n + 1) k 3 _) ?_
          refine Runs.go 6 rfl ⟨⟨trivial, (oD_in hk2 (by decide))⟩, (by unfold vp_in; decide)⟩ ?_
          simp only [hp_s, hp_f, hp_o, hp_up, hp_fu, tc0, tc1, tc2, tc3, tc4, tc5, tc6, tc7, tc8, tc9, tc10, tc11, tc12, tc13, tc14, tc15, tc16, tc17, tc18, tc19, tc20, tc93, oD_cl hk2 (show 3 < 6 by decide), upd_s]
          rw [upd_n g _ (oD_19 k 3 9 (by decide)).symm]
          refine Runs.ifS (fun z3 => ?_) (fun z3 => ?_)
          · rw [if_pos z3] at ih
            refine Runs.go 2 rfl trivial ?_
            rw [nI_1]
            exact ih
          · rw [if_neg z3] at ih
            refine Runs.go 2 rfl trivial ?_
            refine Runs.calv rfl (m_standBy n k h _ f hk2) ?_
            refine Runs.go 2 rfl trivial ?_
            rw [nI_1]
            exact ih
    · rw [if_neg z] at ih
      refine Runs.go 4 rfl trivial ?_
      refine Runs.cal rfl (m_of (n + 1) k 0 _) ?_
      refine Runs.go 3 rfl ⟨trivial, (oD_in hk2 (by decide))⟩ ?_
      simp only [hp_s, hp_f, hp_o, hp_up, hp_fu, tc0, tc1, tc2, tc3, tc4, tc5, tc6, tc7, tc8, tc9, tc10, tc11, tc12, tc13, tc14, tc15, tc16, tc17, tc18, tc19, tc20, tc93, oD_cl hk2 (show 0 < 6 by decide)]
      refine Runs.ifF z ?_
      refine Runs.go 2 rfl trivial ?_
      rw [nI_1]
      exact ih
  · refine Runs.go 3 rfl trivial ?_
    refine Runs.ifT (Int32.le_refl _) ?_
    exact Runs.fin (by rw [← hr]; rfl) trivial
