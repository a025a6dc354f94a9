/-! the reference's tick, the rest -/
def nsMB (f : Nat → Int32) (d : Nat) (s : Nat → Int32) : Nat → Int32 := if s (oD d 0) = 0 ∧ f d = 0 ∧ mfst s (cc s) (nI d) ≠ none ∧ ¬ s 8 ≤ mthat s 1 ∧ ¬ s 5 < mcurN s (cc s) - s 4 + s 1 then upd (upd (upd (upd s (oD d 0) 1) (oD d 1) (s 0)) (oD d 5) (s (oD d 5) + 1)) 18 (s 18 + 1) else s
def nsM (s f : Nat → Int32) : Nat → (Nat → Int32)
  | 0 => s
  | d + 1 => nsMB f d (nsM s f d)
theorem nsMB_ok {f : Nat → Int32} {d : Nat} (hd : d < 12) {s : Nat → Int32} (hk : okC s) : okC (nsMB f d s) := by
  unfold nsMB
  split
  · exact hk.of (by rw [upd_n _ _ (by decide), upd_n _ _ (oD_93 d 5 hd (by decide)), upd_n _ _ (oD_93 d 1 hd (by decide)), upd_n _ _ (oD_93 d 0 hd (by decide))])
  · exact hk
theorem nsM_ok {s f : Nat → Int32} (hk : okC s) : ∀ d, d ≤ 12 → okC (nsM s f d) := by
  intro d
  induction d with
  | zero => intro _; exact hk
  | succ d ih => intro hd; exact nsMB_ok (by omega) (ih (by omega))
def lonm (h : Nat → Int32) : Nat → Option DV
  | 0 => none
  | k + 1 => some (.inl (h k))
def nsw (s f : Nat → Int32) (d : Nat) : Int32 := if s (oD d 0) = 0 ∧ f d = 0 ∧ mfst s (cc s) (nI d) ≠ none then 1 else 0
theorem m_newStarts (n : Nat) (h : DH) (s f : Nat → Int32) (hk : okC s) : dEx (n + 5) 120 [.inr (14, 0, 0)] (hp h s f) (none, hp h (nsM s f 12) f) := by
  refine dx_120 ?_
  generalize hr : ((none : Option DV), hp h (nsM s f 12) f) = r
  refine Runs.go 2 rfl trivial ?_
  refine Runs.loop 12 (fun k => (2, [some (.inr (14, 0, 0)), some (.inl (nI k)), lonm (fun j => nsw (nsM s f j) f j) k], [], hp h (nsM s f k) f)) (fun k hk2 ih => ?_) ?_
  · refine Runs.go 3 rfl trivial ?_
    refine Runs.ifF (i_ge hk2 (by decide)) ?_
    obtain ⟨g1, g2⟩ := (nsM_ok (f := f) hk k (by omega)).cc
    rw [show nsM s f (k + 1) = nsMB f k (nsM s f k) from rfl, show lonm (fun j => nsw (nsM s f j) f j) (k + 1) = some (.inl (nsw (nsM s f k) f k)) from rfl] at ih
    generalize nsM s f k = g at ih g1 g2 ⊢
    unfold nsMB at ih
    refine Runs.go 4 rfl trivial ?_
    refine Runs.cal rfl (m_of (n + 3) k 0 _) ?_
    refine Runs.go 2 rfl ⟨trivial, (oD_in hk2 (by decide))⟩ ?_
    simp only [hp_s, hp_f, hp_o, hp_up, hp_fu, tc0, tc1, tc2, tc3, tc4, tc5, tc6, tc7, tc8, tc9, tc10, tc11, tc12, tc13, tc14, tc15, tc16, tc17, tc18, tc19, tc20, tc93, oD_cl hk2 (show 0 < 6 by decide)]
    by_cases w : g (oD k 0) = 0 ∧ f k = 0 ∧ mfst g (cc g) (nI k) ≠ none
    · obtain ⟨w1, w2, w3⟩ := w
      rw [show nsw g f k = 1 from if_pos ⟨w1, w2, w3⟩] at ih
      refine Runs.ifT w1 ?_
      refine Runs.go 5 rfl ⟨trivial, (i_in hk2 (by decide))⟩ ?_
      simp only [hp_s, hp_f, hp_o, hp_up, hp_fu, tc0, tc1, tc2, tc3, tc4, tc5, tc6, tc7, tc8, tc9, tc10, tc11, tc12, tc13, tc14, tc15, tc16, tc17, tc18, tc19, tc20, tc93, i_cl (show k < 2 ^ 31 by omega)]
      refine Runs.ifT w2 ?_
      refine Runs.go 2 rfl trivial ?_
      refine Runs.cal rfl (m_firstOf (n + 2) _ h g f g1 g2) ?_
      cases hf : mfst g (cc g) (nI k) with
      | none => exact absurd hf w3
      | some p =>
        have hpc := (fp_some hf).1
        refine Runs.go 2 rfl trivial ?_
        refine Runs.ifF (nI_m5 (show p < 2 ^ 31 by omega)) ?_
        refine Runs.go 5 rfl trivial ?_
        refine Runs.ifF (by decide) ?_
        refine Runs.go 2 rfl trivial ?_
        refine Runs.cal rfl (m_doing (n + 2) _ h g f) ?_
        refine Runs.go 5 rfl ⟨trivial, (by unfold vp_in; decide)⟩ ?_
        simp only [hp_s, hp_f, hp_o, hp_up, hp_fu, tc0, tc1, tc2, tc3, tc4, tc5, tc6, tc7, tc8, tc9, tc10, tc11, tc12, tc13, tc14, tc15, tc16, tc17, tc18, tc19, tc20, tc93]
        refine Runs.ifS (fun z => ?_) (fun z => ?_)
        · rw [if_neg (fun t => t.2.2.2.1 z)] at ih
          refine Runs.go 2 rfl trivial ?_
          rw [nI_1]
          exact ih
        · refine Runs.go 1 rfl trivial ?_
          refine Runs.cal rfl (m_current n h g f g1 g2) ?_
          refine Runs.go 15 rfl ⟨⟨⟨trivial, (by unfold vp_in; decide)⟩, (by unfold vp_in; decide)⟩, (by unfold vp_in; decide)⟩ ?_
          simp only [hp_s, hp_f, hp_o, hp_up, hp_fu, tc0, tc1, tc2, tc3, tc4, tc5, tc6, tc7, tc8, tc9, tc10, tc11, tc12, tc13, tc14, tc15, tc16, tc17, tc18, tc19, tc20, tc93]
          refine Runs.ifS (fun z2 => ?_) (fun z2 => ?_)
          · rw [if_neg (fun t => t.2.2.2.2 z2)] at ih
            refine Runs.go 2 rfl trivial ?_
            rw [nI_1]
            exact ih
          · rw [if_pos ⟨w1, w2, w3, z, z2⟩] at ih
            refine Runs.go 4 rfl trivial ?_
            refine Runs.cal rfl (m_of (n + 3) k 0 _) ?_
            refine Runs.go 6 rfl ⟨trivial, (oD_in hk2 (by decide))⟩ ?_
            simp only [hp_s, hp_f, hp_o, hp_up, hp_fu, tc0, tc1, tc2, tc3, tc4, tc5, tc6, tc7, tc8, tc9, tc10, tc11, tc12, tc13, tc14, tc15, tc16, tc17, tc18, tc19, tc20, tc93, oD_cl hk2 (show 0 < 6 by decide)]
            refine Runs.cal rfl (m_of (n + 3) k 1 _) ?_
            refine Runs.go 9 rfl ⟨⟨trivial, (by unfold vp_in; decide)⟩, (oD_in hk2 (by decide))⟩ ?_
            simp only [hp_s, hp_f, hp_o, hp_up, hp_fu, tc0, tc1, tc2, tc3, tc4, tc5, tc6, tc7, tc8, tc9, tc10, tc11, tc12, tc13, tc14, tc15, tc16, tc17, tc18, tc19, tc20, tc93, oD_cl hk2 (show 1 < 6 by decide)]
            refine Runs.cal rfl (m_of (n + 3) k 5 _) ?_
            refine Runs.go 15 rfl ⟨⟨⟨⟨trivial, (oD_in hk2 (by decide))⟩, (oD_in hk2 (by decide))⟩, (by unfold vp_in; decide)⟩, (by unfold vp_in; decide)⟩ ?_
            simp only [hp_s, hp_f, hp_o, hp_up, hp_fu, tc0, tc1, tc2, tc3, tc4, tc5, tc6, tc7, tc8, tc9, tc10, tc11, tc12, tc13, tc14, tc15, tc16, tc17, tc18, tc19, tc20, tc93, oD_cl hk2 (show 5 < 6 by decide)]
            rw [upd_n g 1 (oD_19 k 0 0 (by decide)).symm]
            rw [upd_n _ (g 0) (oD_ne (d := k) (d' := k) (show 5 < 6 by decide) (show 1 < 6 by decide) (Or.inr (by decide))), upd_n g 1 (oD_ne (d := k) (d' := k) (show 5 < 6 by decide) (show 0 < 6 by decide) (Or.inr (by decide)))]
            rw [upd_n _ (g (oD k 5) + 1) (oD_19 k 5 18 (by decide)).symm, upd_n _ (g 0) (oD_19 k 1 18 (by decide)).symm, upd_n g 1 (oD_19 k 0 18 (by decide)).symm]
            rw [nI_1]
            exact ih
    · rw [show nsw g f k = 0 from if_neg w, if_neg (fun t => w ⟨t.1, t.2.1, t.2.2.1⟩)] at ih
      have rest : Runs dT_120 (dEx (n + 4)) (44, [some (.inr (14, 0, 0)), some (.inl (nI k)), lonm (fun j => nsw (nsM s f j) f j) k], [], hp h g f) r := by
        refine Runs.go 4 rfl trivial ?_
        refine Runs.ifT rfl ?_
        refine Runs.go 2 rfl trivial ?_
        rw [nI_1]
        exact ih
      refine Runs.ifS (fun w1 => ?_) (fun w1 => rest)
      refine Runs.go 5 rfl ⟨trivial, (i_in hk2 (by decide))⟩ ?_
      simp only [hp_s, hp_f, hp_o, hp_up, hp_fu, tc0, tc1, tc2, tc3, tc4, tc5, tc6, tc7, tc8, tc9, tc10, tc11, tc12, tc13, tc14, tc15, tc16, tc17, tc18, tc19, tc20, tc93, i_cl (show k < 2 ^ 31 by omega)]
      refine Runs.ifS (fun w2 => ?_) (fun w2 => rest)
      refine Runs.go 2 rfl trivial ?_
      refine Runs.cal rfl (m_firstOf (n + 2) _ h g f g1 g2) ?_
      cases hf : mfst g (cc g) (nI k) with
      | some p => exact absurd ⟨w1, w2, by rw [hf]; exact fun q => by cases q⟩ w
      | none =>
        refine Runs.go 2 rfl trivial ?_
        refine Runs.ifT rfl ?_
        exact rest
  · refine Runs.go 3 rfl trivial ?_
    refine Runs.ifT (Int32.le_refl _) ?_
    exact Runs.fin (by rw [← hr]; rfl) trivial
def blM (s : Nat → Int32) : Nat → Int32 := upd (upd (upd s 15 1) 17 (s 17 + 1)) 16 0
theorem m_blow (n : Nat) (h : DH) (s f : Nat → Int32) : dEx (n + 1) 122 [.inr (14, 0, 0)] (hp h s f) (none, hp h (blM s) f) := by
  refine dx_122 ?_
  refine Runs.go 18 rfl ⟨⟨⟨⟨trivial, (by unfold vp_in; decide)⟩, (by unfold vp_in; decide)⟩, (by unfold vp_in; decide)⟩, (by unfold vp_in; decide)⟩ ?_
  simp only [hp_s, hp_f, hp_o, hp_up, hp_fu, tc0, tc1, tc2, tc3, tc4, tc5, tc6, tc7, tc8, tc9, tc10, tc11, tc12, tc13, tc14, tc15, tc16, tc17, tc18, tc19, tc20, tc93, upd_n s 1 (show (17 : Nat) ≠ 15 by decide)]
  exact Runs.fin rfl trivial
/-- the fuse, behind a tick: c is the current -/
def fuM (s : Nat → Int32) (c : Int32) : Nat → Int32 := if s 15 = 1 then s else if s 5 + s 6 < c then blM s else if s 5 < c then (if s 7 < s 16 + 1 then blM (upd s 16 (s 16 + 1)) else upd s 16 (s 16 + 1)) else upd s 16 0
def tkM (s f : Nat → Int32) : (Nat → Int32) × (Nat → Int32) := if s 15 = 1 then (coM s (cc s) 12, f) else (nsM (rdM (stM s f 12).1 12) (stM s f 12).2 12, (stM s f 12).2)
def tkM2 (s : Nat → Int32) : Nat → Int32 := fuM (upd (upd s 10 (s 10 + 1)) 11 (mx (s 11) (mcurN (upd s 10 (s 10 + 1)) (cc s)))) (mcurN (upd s 10 (s 10 + 1)) (cc s))
def tickM (s f : Nat → Int32) : (Nat → Int32) × (Nat → Int32) := (tkM2 (tkM s f).1, (tkM s f).2)
theorem tkM_p {s f : Nat → Int32} (z : s 15 = 1) : tkM s f = (coM s (cc s) 12, f) := by unfold tkM; rw [if_pos z]
theorem tkM_n {s f : Nat → Int32} (z : ¬ s 15 = 1) : tkM s f = (nsM (rdM (stM s f 12).1 12) (stM s f 12).2 12, (stM s f 12).2) := by unfold tkM; rw [if_neg z]
theorem tkM_ok {s f : Nat → Int32} (hk : okC s) : okC (tkM s f).1 := by
  by_cases z : s 15 = 1
  · rw [tkM_p z]
    dsimp only
    have e := coM_93 s (cc s) 12 (by decide)
    generalize coM s (cc s) 12 = g at e ⊢
    exact hk.of e
  · rw [tkM_n z]
    dsimp only
    exact nsM_ok (rdM_ok (stM_ok hk 12 (by decide)) 12 (by decide)) 12 (by decide)
theorem fuM_93 (s : Nat → Int32) (c : Int32) : fuM s c 93 = s 93 := by
  unfold fuM blM
  split
  · rfl
  · split
    · rw [upd_n _ _ (by decide), upd_n _ _ (by decide), upd_n _ _ (by decide)]
    · split
      · split
        · rw [upd_n _ _ (by decide), upd_n _ _ (by decide), upd_n _ _ (by decide), upd_n _ _ (by decide)]
        · rw [upd_n _ _ (by decide)]
      · rw [upd_n _ _ (by decide)]
theorem tickM_ok {s f : Nat → Int32} (hk : okC s) : okC (tickM s f).1 := (tkM_ok (f := f) hk).of (by
  show tkM2 _ 93 = _
  unfold tkM2
  rw [fuM_93, upd_n _ _ (by decide), upd_n _ _ (by decide)])
theorem mx_if (a b : Int32) : (if a < b then b else a) = mx a b := rfl
theorem m_tick (n : Nat) (h : DH) (s f : Nat → Int32) (hk : okC s) : dEx (n + 6) 113 [.inr (14, 0, 0)] (hp h s f) (none, hp h (tickM s f).1 (tickM s f).2) := by
  refine dx_113 ?_
  have hg := tkM_ok (f := f) hk
  obtain ⟨g1, g2⟩ := hk.cc
  have tail : ∀ (g f' : Nat → Int32), okC g → ∀ (c : Int32), c = mcurN (upd g 10 (g 10 + 1)) (cc g) → Runs dT_113 (dEx (n + 5)) (45, [some (.inr (14, 0, 0)), none], [.inl c], hp h (upd g 10 (g 10 + 1)) f') (none, hp h (tkM2 g) f') := by
    intro g f' hg c hc
    unfold tkM2
    rw [← hc]
    have e11 : g 11 = upd g 10 (g 10 + 1) 11 := (upd_n _ _ (by decide)).symm
    rw [e11]
    generalize upd g 10 (g 10 + 1) = g0
    have tail2 : ∀ x : Int32, x = mx (g0 11) c → Runs dT_113 (dEx (n + 5)) (74, [some (.inr (14, 0, 0)), some (.inl c)], [.inl x, .inl 11, .inr (15, 0, 0)], hp h g0 f') (none, hp h (fuM (upd g0 11 (mx (g0 11) c)) c) f') := by
      intro x hx
      rw [← hx]
      refine Runs.go 7 rfl ⟨⟨trivial, (by unfold vp_in; decide)⟩, (by unfold vp_in; decide)⟩ ?_
      simp only [hp_s, hp_f, hp_o, hp_up, hp_fu, tc0, tc1, tc2, tc3, tc4, tc5, tc6, tc7, tc8, tc9, tc10, tc11, tc12, tc13, tc14, tc15, tc16, tc17, tc18, tc19, tc20, tc93]
      generalize upd g0 11 x = g1
      unfold fuM
      refine Runs.ifS (fun z => ?_) (fun z => ?_)
      · rw [if_pos z]
        exact Runs.fin rfl trivial
      · rw [if_neg z]
        refine Runs.go 11 rfl ⟨⟨trivial, (by unfold vp_in; decide)⟩, (by unfold vp_in; decide)⟩ ?_
        simp only [hp_s, hp_f, hp_o, hp_up, hp_fu, tc0, tc1, tc2, tc3, tc4, tc5, tc6, tc7, tc8, tc9, tc10, tc11, tc12, tc13, tc14, tc15, tc16, tc17, tc18, tc19, tc20, tc93]
        refine Runs.ifS (fun z2 => ?_) (fun z2 => ?_)
        · rw [if_neg (Int32.not_lt.mpr z2)]
          refine Runs.go 6 rfl ⟨trivial, (by unfold vp_in; decide)⟩ ?_
          simp only [hp_s, hp_f, hp_o, hp_up, hp_fu, tc0, tc1, tc2, tc3, tc4, tc5, tc6, tc7, tc8, tc9, tc10, tc11, tc12, tc13, tc14, tc15, tc16, tc17, tc18, tc19, tc20, tc93]
          refine Runs.ifS (fun z3 => ?_) (fun z3 => ?_)
          · rw [if_neg (Int32.not_lt.mpr z3)]
            refine Runs.go 5 rfl ⟨trivial, (by unfold vp_in; decide)⟩ ?_
            simp only [hp_s, hp_f, hp_o, hp_up, hp_fu, tc0, tc1, tc2, tc3, tc4, tc5, tc6, tc7, tc8, tc9, tc10, tc11, tc12, tc13, tc14, tc15, tc16, tc17, tc18, tc19, tc20, tc93]
            exact Runs.fin rfl trivial
          · rw [if_pos (Int32.not_le.mp z3)]
            refine Runs.go 17 rfl ⟨⟨⟨⟨trivial, (by unfold vp_in; decide)⟩, (by unfold vp_in; decide)⟩, (by unfold vp_in; decide)⟩, (by unfold vp_in; decide)⟩ ?_
            simp only [hp_s, hp_f, hp_o, hp_up, hp_fu, tc0, tc1, tc2, tc3, tc4, tc5, tc6, tc7, tc8, tc9, tc10, tc11, tc12, tc13, tc14, tc15, tc16, tc17, tc18, tc19, tc20, tc93, upd_s, upd_n g1 (g1 16 + 1) (show (7 : Nat) ≠ 16 by decide)]
            refine Runs.ifS (fun z4 => ?_) (fun z4 => ?_)
            · rw [if_neg (Int32.not_lt.mpr z4)]
              exact Runs.fin rfl trivial
            · rw [if_pos (Int32.not_le.mp z4)]
              refine Runs.go 1 rfl trivial ?_
              refine Runs.calv rfl (m_blow (n + 4) h _ f') ?_
              refine Runs.go 1 rfl trivial ?_
              exact Runs.fin rfl trivial
        · rw [if_pos (Int32.not_le.mp z2)]
          refine Runs.go 1 rfl trivial ?_
          refine Runs.calv rfl (m_blow (n + 4) h g1 f') ?_
          refine Runs.go 1 rfl trivial ?_
          exact Runs.fin rfl trivial
    refine Runs.go 10 rfl ⟨trivial, (by unfold vp_in; decide)⟩ ?_
    simp only [hp_s, hp_f, hp_o, hp_up, hp_fu, tc0, tc1, tc2, tc3, tc4, tc5, tc6, tc7, tc8, tc9, tc10, tc11, tc12, tc13, tc14, tc15, tc16, tc17, tc18, tc19, tc20, tc93]
    refine Runs.ifS (fun z => ?_) (fun z => ?_)
    · refine Runs.go 4 rfl ⟨trivial, (by unfold vp_in; decide)⟩ ?_
      simp only [hp_s, hp_f, hp_o, hp_up, hp_fu, tc0, tc1, tc2, tc3, tc4, tc5, tc6, tc7, tc8, tc9, tc10, tc11, tc12, tc13, tc14, tc15, tc16, tc17, tc18, tc19, tc20, tc93]
      exact tail2 _ (by unfold mx; rw [if_neg (Int32.not_lt.mpr z)])
    · refine Runs.go 2 rfl trivial ?_
      exact tail2 _ (by unfold mx; rw [if_pos (Int32.not_le.mp z)])
  refine Runs.go 6 rfl ⟨trivial, (by unfold vp_in; decide)⟩ ?_
  simp only [hp_s, hp_f, hp_o, hp_up, hp_fu, tc0, tc1, tc2, tc3, tc4, tc5, tc6, tc7, tc8, tc9, tc10, tc11, tc12, tc13, tc14, tc15, tc16, tc17, tc18, tc19, tc20, tc93]
  refine Runs.ifS (fun z => ?_) (fun z => ?_)
  · have e : tkM s f = (coM s (cc s) 12, f)  := tkM_p z
    rw [show tickM s f = (tkM2 (tkM s f).1, (tkM s f).2) from rfl]
    rw [e] at hg ⊢
    dsimp only at hg ⊢
    refine Runs.go 1 rfl trivial ?_
    refine Runs.calv rfl (m_cutOff (n + 2) h s f g1 g2) ?_
    refine Runs.go 10 rfl ⟨⟨trivial, (by unfold vp_in; decide)⟩, (by unfold vp_in; decide)⟩ ?_
    simp only [hp_s, hp_f, hp_o, hp_up, hp_fu, tc0, tc1, tc2, tc3, tc4, tc5, tc6, tc7, tc8, tc9, tc10, tc11, tc12, tc13, tc14, tc15, tc16, tc17, tc18, tc19, tc20, tc93]
    obtain ⟨q1, q2⟩ := hg.cc
    refine Runs.cal rfl (m_current (n + 1) h _ f (c := cc (coM s (cc s) 12)) (by rw [upd_n _ _ (by decide)]; exact q1) q2) ?_
    exact tail _ f hg _ rfl
  · have e : tkM s f = (nsM (rdM (stM s f 12).1 12) (stM s f 12).2 12, (stM s f 12).2)  := tkM_n z
    rw [show tickM s f = (tkM2 (tkM s f).1, (tkM s f).2) from rfl]
    rw [e] at hg ⊢
    dsimp only at hg ⊢
    have k1 := stM_ok (f := f) hk 12 (by decide)
    have k2 := rdM_ok k1 12 (by decide)
    refine Runs.go 1 rfl trivial ?_
    refine Runs.calv rfl (m_starts n h s f hk) ?_
    refine Runs.go 1 rfl trivial ?_
    refine Runs.calv rfl (m_reads (n + 2) h _ _ k1) ?_
    refine Runs.go 1 rfl trivial ?_
    refine Runs.calv rfl (m_newStarts n h _ _ k2) ?_
    refine Runs.go 9 rfl ⟨⟨trivial, (by unfold vp_in; decide)⟩, (by unfold vp_in; decide)⟩ ?_
    simp only [hp_s, hp_f, hp_o, hp_up, hp_fu, tc0, tc1, tc2, tc3, tc4, tc5, tc6, tc7, tc8, tc9, tc10, tc11, tc12, tc13, tc14, tc15, tc16, tc17, tc18, tc19, tc20, tc93]
    obtain ⟨q1, q2⟩ := hg.cc
    refine Runs.cal rfl (m_current (n + 1) h _ _ (c := cc (nsM (rdM (stM s f 12).1 12) (stM s f 12).2 12)) (by rw [upd_n _ _ (by decide)]; exact q1) q2) ?_
    exact tail _ _ hg _ rfl
