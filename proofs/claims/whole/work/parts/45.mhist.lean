/-! the reference: aside, snapshot, undo -/
theorem cp5_z (b v : Nat → Int32) (k : Nat) : upd (cp5 b 0 v k) k (v k) = cp5 b 0 v (k + 1) := by
  have e := cp5_s b 0 v k
  rw [Nat.zero_add] at e
  exact e
theorem cp5_in {b v : Nat → Int32} {n k : Nat} (h : k < n) : cp5 b 0 v n k = v k := by
  unfold cp5
  rw [if_pos (by omega)]
  rfl
theorem m_putAside (n : Nat) (h : DH) (s f : Nat → Int32) : dEx (n + 1) 132 [.inr (14, 0, 0)] (hp h s f) (none, hp (ub h (16, 0, 0) (cp5 (h.1 (16, 0, 0)) 0 s 244)) s f) := by
  refine dx_132 ?_
  have e0 : hp h s f = hp (ub h (16, 0, 0) (cp5 (h.1 (16, 0, 0)) 0 s 0)) s f := by rw [cp5_0, ub_id]
  rw [e0]
  generalize h.1 (16, 0, 0) = b
  generalize hr : ((none : Option DV), hp (ub h (16, 0, 0) (cp5 b 0 s 244)) s f) = r
  refine Runs.go 2 rfl trivial ?_
  refine Runs.loop 244 (fun k => (2, [some (.inr (14, 0, 0)), some (.inl (nI k))], [], hp (ub h (16, 0, 0) (cp5 b 0 s k)) s f)) (fun k hk ih => ?_) ?_
  · refine Runs.go 3 rfl trivial ?_
    refine Runs.ifF (i_ge hk (by decide)) ?_
    refine Runs.go 10 rfl ⟨⟨trivial, (i_in hk (by decide))⟩, (i_in hk (by decide))⟩ ?_
    simp only [hp_s, hp_f, hp_o, hp_up, hp_fu, tc0, tc1, tc2, tc3, tc4, tc5, tc6, tc7, tc8, tc9, tc10, tc11, tc12, tc13, tc14, tc15, tc16, tc17, tc18, tc19, tc20, tc93, i_cl (show k < 2 ^ 31 by omega)]
    rw [hp_un _ _ _ _ _ (by decide) (by decide), ub_up, cp5_z, nI_1]
    exact ih
  · refine Runs.go 3 rfl trivial ?_
    refine Runs.ifT (Int32.le_refl _) ?_
    exact Runs.fin (by rw [← hr]; rfl) trivial
theorem m_putBack (n : Nat) (h : DH) (s f : Nat → Int32) : dEx (n + 1) 133 [.inr (14, 0, 0)] (hp h s f) (none, hp h (cp5 s 0 (h.1 (16, 0, 0)) 244) f) := by
  refine dx_133 ?_
  have e0 : hp h s f = hp h (cp5 s 0 (h.1 (16, 0, 0)) 0) f := by rw [cp5_0]
  rw [e0]
  generalize hr : ((none : Option DV), hp h (cp5 s 0 (h.1 (16, 0, 0)) 244) f) = r
  refine Runs.go 2 rfl trivial ?_
  refine Runs.loop 244 (fun k => (2, [some (.inr (14, 0, 0)), some (.inl (nI k))], [], hp h (cp5 s 0 (h.1 (16, 0, 0)) k) f)) (fun k hk ih => ?_) ?_
  · refine Runs.go 3 rfl trivial ?_
    refine Runs.ifF (i_ge hk (by decide)) ?_
    refine Runs.go 10 rfl ⟨⟨trivial, (i_in hk (by decide))⟩, (i_in hk (by decide))⟩ ?_
    simp only [hp_s, hp_f, hp_o, hp_up, hp_fu, tc0, tc1, tc2, tc3, tc4, tc5, tc6, tc7, tc8, tc9, tc10, tc11, tc12, tc13, tc14, tc15, tc16, tc17, tc18, tc19, tc20, tc93, i_cl (show k < 2 ^ 31 by omega)]
    rw [hp_ne _ _ _ (by decide) (by decide), cp5_z, nI_1]
    exact ih
  · refine Runs.go 3 rfl trivial ?_
    refine Runs.ifT (Int32.le_refl _) ?_
    exact Runs.fin (by rw [← hr]; rfl) trivial
def keepH (h : DH) (s : Nat → Int32) : DH := up1 (ub h (18, 0, 0) (cp5 (h.1 (18, 0, 0)) 0 s 244)) (14, 0, 0) 5 1
theorem m_keep (n : Nat) (h : DH) (s f : Nat → Int32) : dEx (n + 1) 135 [.inr (14, 0, 0)] (hp h s f) (some (.inl (s 10)), hp (keepH h s) s f) := by
  refine dx_135 ?_
  have e0 : hp h s f = hp (ub h (18, 0, 0) (cp5 (h.1 (18, 0, 0)) 0 s 0)) s f := by rw [cp5_0, ub_id]
  rw [e0]
  unfold keepH
  generalize h.1 (18, 0, 0) = b
  generalize hr : ((some (.inl (s 10)) : Option DV), hp (up1 (ub h (18, 0, 0) (cp5 b 0 s 244)) (14, 0, 0) 5 1) s f) = r
  refine Runs.go 2 rfl trivial ?_
  refine Runs.loop 244 (fun k => (2, [some (.inr (14, 0, 0)), some (.inl (nI k))], [], hp (ub h (18, 0, 0) (cp5 b 0 s k)) s f)) (fun k hk ih => ?_) ?_
  · refine Runs.go 3 rfl trivial ?_
    refine Runs.ifF (i_ge hk (by decide)) ?_
    refine Runs.go 10 rfl ⟨⟨trivial, (i_in hk (by decide))⟩, (i_in hk (by decide))⟩ ?_
    simp only [hp_s, hp_f, hp_o, hp_up, hp_fu, tc0, tc1, tc2, tc3, tc4, tc5, tc6, tc7, tc8, tc9, tc10, tc11, tc12, tc13, tc14, tc15, tc16, tc17, tc18, tc19, tc20, tc93, i_cl (show k < 2 ^ 31 by omega)]
    rw [hp_un _ _ _ _ _ (by decide) (by decide), ub_up, cp5_z, nI_1]
    exact ih
  · refine Runs.go 3 rfl trivial ?_
    refine Runs.ifT (Int32.le_refl _) ?_
    refine Runs.go 7 rfl ⟨⟨trivial, (Or.inr rfl)⟩, (by unfold vp_in; decide)⟩ ?_
    rw [hp_un _ _ _ _ _ (by decide) (by decide)]
    simp only [hp_s, hp_f, hp_o, hp_up, hp_fu, tc0, tc1, tc2, tc3, tc4, tc5, tc6, tc7, tc8, tc9, tc10, tc11, tc12, tc13, tc14, tc15, tc16, tc17, tc18, tc19, tc20, tc93, vn1]
    exact Runs.fin (by rw [← hr]; rfl) trivial
theorem know_18 (h : DH) (a : Nat) (s : Nat → Int32) : (know h a s).1 (18, 0, 0) = h.1 (18, 0, 0) := by
  unfold know
  rw [up1_ne _ _ _ (by decide), ub_n _ _ (by decide)]
theorem m_restore (n : Nat) (h : DH) (s f : Nat → Int32) {a : Nat} (ha : h.1 (14, 0, 0) 3 = nI a) (ha4 : a ≤ 4) : dEx (n + 2) 136 [.inr (14, 0, 0)] (hp h s f) (if h.1 (14, 0, 0) 5 = 0 then (some (.inl (-5)), hp h s f) else (some (.inl (cp5 s 0 (h.1 (18, 0, 0)) 244 10)), hp (know h a s) (cp5 s 0 (h.1 (18, 0, 0)) 244) f)) := by
  refine dx_136 ?_
  refine Runs.go 2 rfl trivial ?_
  rw [hp_ne _ _ _ (by decide) (by decide)]
  refine Runs.go 1 rfl trivial ?_
  refine Runs.ifS (fun z => ?_) (fun z => ?_)
  · rw [if_pos z]
    refine Runs.go 1 rfl trivial ?_
    exact Runs.fin rfl trivial
  · rw [if_neg z]
    refine Runs.go 1 rfl trivial ?_
    refine Runs.calv rfl (m_know n h s f ha ha4) ?_
    rw [← know_18 h a s]
    generalize know h a s = g
    have e0 : hp g s f = hp g (cp5 s 0 (g.1 (18, 0, 0)) 0) f := by rw [cp5_0]
    rw [e0]
    generalize hr : ((some (.inl (cp5 s 0 (g.1 (18, 0, 0)) 244 10)) : Option DV), hp g (cp5 s 0 (g.1 (18, 0, 0)) 244) f) = r
    refine Runs.go 2 rfl trivial ?_
    refine Runs.loop 244 (fun k => (16, [some (.inr (14, 0, 0)), some (.inl (nI k))], [], hp g (cp5 s 0 (g.1 (18, 0, 0)) k) f)) (fun k hk ih => ?_) ?_
    · refine Runs.go 3 rfl trivial ?_
      refine Runs.ifF (i_ge hk (by decide)) ?_
      refine Runs.go 10 rfl ⟨⟨trivial, (i_in hk (by decide))⟩, (i_in hk (by decide))⟩ ?_
      simp only [hp_s, hp_f, hp_o, hp_up, hp_fu, tc0, tc1, tc2, tc3, tc4, tc5, tc6, tc7, tc8, tc9, tc10, tc11, tc12, tc13, tc14, tc15, tc16, tc17, tc18, tc19, tc20, tc93, i_cl (show k < 2 ^ 31 by omega)]
      rw [hp_ne _ _ _ (by decide) (by decide), cp5_z, nI_1]
      exact ih
    · refine Runs.go 3 rfl trivial ?_
      refine Runs.ifT (Int32.le_refl _) ?_
      refine Runs.go 4 rfl ⟨trivial, (by unfold vp_in; decide)⟩ ?_
      simp only [hp_s, hp_f, hp_o, hp_up, hp_fu, tc0, tc1, tc2, tc3, tc4, tc5, tc6, tc7, tc8, tc9, tc10, tc11, tc12, tc13, tc14, tc15, tc16, tc17, tc18, tc19, tc20, tc93]
      exact Runs.fin (by rw [← hr]; rfl) trivial
theorem m_undo (n : Nat) (h : DH) (s f : Nat → Int32) {a : Nat} (ha : h.1 (14, 0, 0) 3 = nI a) (ha4 : a ≤ 4) : dEx (n + 1) 134 [.inr (14, 0, 0)] (hp h s f) (if a = 0 then (some (.inl (-5)), hp h s f) else (some (.inl (nI (a - 1))), hp (up1 h (14, 0, 0) 3 (nI (a - 1))) (cp5 s 0 (fun k => h.1 (17, 0, 0) (244 * (a - 1) + k)) 244) f)) := by
  refine dx_134 ?_
  refine Runs.go 2 rfl trivial ?_
  rw [hp_ne _ _ _ (by decide) (by decide), ha]
  refine Runs.go 1 rfl trivial ?_
  refine Runs.ifS (fun z => ?_) (fun z => ?_)
  · rw [if_pos (nI_inj (by omega) (by decide) z)]
    refine Runs.go 1 rfl trivial ?_
    exact Runs.fin rfl trivial
  · have az : ¬ a = 0 := fun t => z (by rw [t]; rfl)
    rw [if_neg az]
    refine Runs.go 6 rfl trivial ?_
    rw [hp_ne _ _ _ (by decide) (by decide), ha, nIm1 (by omega), hp_un _ _ _ _ _ (by decide) (by decide)]
    have g3 : (up1 h (14, 0, 0) 3 (nI (a - 1))).1 (14, 0, 0) 3 = nI (a - 1) := by rw [up1_1, if_pos ⟨rfl, rfl⟩]
    have g17 : (up1 h (14, 0, 0) 3 (nI (a - 1))).1 (17, 0, 0) = h.1 (17, 0, 0) := up1_ne _ _ _ (by decide)
    rw [← g17]
    generalize up1 h (14, 0, 0) 3 (nI (a - 1)) = g at g3 ⊢
    generalize hb : a - 1 = b at g3 ⊢
    have e0 : hp g s f = hp g (cp5 s 0 (fun k => g.1 (17, 0, 0) (244 * b + k)) 0) f := by rw [cp5_0]
    rw [e0]
    generalize hr : ((some (.inl (nI b)) : Option DV), hp g (cp5 s 0 (fun k => g.1 (17, 0, 0) (244 * b + k)) 244) f) = r
    refine Runs.go 2 rfl trivial ?_
    refine Runs.loop 244 (fun k => (22, [some (.inr (14, 0, 0)), some (.inl (nI k))], [], hp g (cp5 s 0 (fun k => g.1 (17, 0, 0) (244 * b + k)) k) f)) (fun k hk ih => ?_) ?_
    · refine Runs.go 3 rfl trivial ?_
      refine Runs.ifF (i_ge hk (by decide)) ?_
      have hk3 : ∀ x, (hp g x f).1 (14, 0, 0) 3 = nI b := fun x => by rw [hp_ne _ _ _ (by decide) (by decide), g3]
      have e2 : (244 : Int32) * nI b + nI k = nI (244 * b + k) := by rw [show (244 : Int32) = nI 244 from rfl, pk_mul, nI_add]
      refine Runs.go 15 rfl ⟨⟨trivial, (by rw [hk3, e2]; exact i_in (show 244 * b + k < 976 by omega) (by decide))⟩, (i_in hk (by decide))⟩ ?_
      rw [hk3, e2]
      simp only [hp_s, hp_f, hp_o, hp_up, hp_fu, tc0, tc1, tc2, tc3, tc4, tc5, tc6, tc7, tc8, tc9, tc10, tc11, tc12, tc13, tc14, tc15, tc16, tc17, tc18, tc19, tc20, tc93, i_cl (show k < 2 ^ 31 by omega), i_cl (show 244 * b + k < 2 ^ 31 by omega)]
      rw [hp_ne _ _ _ (by decide) (by decide)]
      have e5 := cp5_z s (fun k => g.1 (17, 0, 0) (244 * b + k)) k
      rw [e5, nI_1]
      exact ih
    · refine Runs.go 3 rfl trivial ?_
      refine Runs.ifT (Int32.le_refl _) ?_
      refine Runs.go 2 rfl trivial ?_
      rw [hp_ne _ _ _ (by decide) (by decide), g3]
      exact Runs.fin (by rw [← hr]; rfl) trivial
