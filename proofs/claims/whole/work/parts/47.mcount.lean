/-! the reference: counts, reads told -/
def mco (h : DH) (s : Nat → Int32) (c : Nat) (x : Int32) : Int32 := if x = 0 then s 10 else if x = 1 then mcurN s c else if x = 2 then s 11 else if x = 3 then s 93 else if x = 4 then s 12 else if x = 5 then s 13 else if x = 6 then s 14 else if x = 7 then mthat s 0 else if x = 8 then mthat s 1 else if x = 9 then mthat s 2 else if x = 10 then mthat s 3 else if x = 11 then s 15 else if x = 12 then s 16 else if x = 13 then s 17 else if x = 14 then s 18 else if x = 15 then s 19 else if x = 16 then s 20 else if x = 17 then h.1 (14, 0, 0) 3 else if x = 18 then h.1 (14, 0, 0) 7 else if wi x 20 29 = 0 then -2 else s (x - 20).toNatClampNeg
theorem wip_nI2 {x : Int32} {a b : Nat} (ha : a < 2 ^ 31) (hb : b < 2 ^ 31) (h : wip x (nI a) (nI b)) : ∃ k, a ≤ k ∧ k ≤ b ∧ x = nI k := by
  have h0 : wip x 0 (nI b) := ⟨fun t => h.1 (Int32.lt_iff_toInt_lt.mpr (by
    have t1 := Int32.lt_iff_toInt_lt.mp t
    have t2 : ¬ nI a < nI 0 := fun u => by have := (nI_ltI ha (by decide)).mp u; omega
    have t3 := Int32.le_iff_toInt_le.mp (Int32.not_lt.mp t2)
    have t4 : (nI 0 : Int32).toInt = (0 : Int32).toInt := rfl
    omega)), h.2⟩
  obtain ⟨k, hk, rfl⟩ := wip_nI hb h0
  exact ⟨k, by
    rcases Nat.lt_or_ge k a with z | z
    · exact absurd (nI_lt z ha) h.1
    · exact z, hk, rfl⟩
theorem m_count (n : Nat) (x : Int32) (h : DH) (s f : Nat → Int32) {c : Nat} (hc : s 93 = nI c) (h30 : c ≤ 30) : dEx (n + 5) 145 [.inr (14, 0, 0), .inl x] (hp h s f) (some (.inl (mco h s c x)), hp h s f) := by
  refine dx_145 ?_
  have q3 : (hp h s f).1 (14, 0, 0) 3 = h.1 (14, 0, 0) 3 := by rw [hp_ne _ _ _ (by decide) (by decide)]
  have q7 : (hp h s f).1 (14, 0, 0) 7 = h.1 (14, 0, 0) 7 := by rw [hp_ne _ _ _ (by decide) (by decide)]
  refine Runs.go 2 rfl trivial ?_
  unfold mco
  refine Runs.sw1 (fun e => ?_) (fun e => ?_)
  · have e : x = 0 := e
    rw [if_pos e]
    refine Runs.go 4 rfl ⟨trivial, (by unfold vp_in; decide)⟩ ?_
    simp only [hp_s, hp_f, hp_o, hp_up, hp_fu, tc0, tc1, tc2, tc3, tc4, tc5, tc6, tc7, tc8, tc9, tc10, tc11, tc12, tc13, tc14, tc15, tc16, tc17, tc18, tc19, tc20, tc93]
    exact Runs.fin rfl trivial
  rw [if_neg (show ¬ x = 0 from e)]
  refine Runs.sw1 (fun e => ?_) (fun e => ?_)
  · have e : x = 1 := e
    rw [if_pos e]
    refine Runs.go 1 rfl trivial ?_
    refine Runs.cal rfl (m_current n h s f hc h30) ?_
    exact Runs.fin rfl trivial
  rw [if_neg (show ¬ x = 1 from e)]
  refine Runs.sw1 (fun e => ?_) (fun e => ?_)
  · have e : x = 2 := e
    rw [if_pos e]
    refine Runs.go 4 rfl ⟨trivial, (by unfold vp_in; decide)⟩ ?_
    simp only [hp_s, hp_f, hp_o, hp_up, hp_fu, tc0, tc1, tc2, tc3, tc4, tc5, tc6, tc7, tc8, tc9, tc10, tc11, tc12, tc13, tc14, tc15, tc16, tc17, tc18, tc19, tc20, tc93]
    exact Runs.fin rfl trivial
  rw [if_neg (show ¬ x = 2 from e)]
  refine Runs.sw1 (fun e => ?_) (fun e => ?_)
  · have e : x = 3 := e
    rw [if_pos e]
    refine Runs.go 4 rfl ⟨trivial, (by unfold vp_in; decide)⟩ ?_
    simp only [hp_s, hp_f, hp_o, hp_up, hp_fu, tc0, tc1, tc2, tc3, tc4, tc5, tc6, tc7, tc8, tc9, tc10, tc11, tc12, tc13, tc14, tc15, tc16, tc17, tc18, tc19, tc20, tc93]
    exact Runs.fin rfl trivial
  rw [if_neg (show ¬ x = 3 from e)]
  refine Runs.sw1 (fun e => ?_) (fun e => ?_)
  · have e : x = 4 := e
    rw [if_pos e]
    subst e
    refine Runs.go 8 rfl ⟨trivial, (by unfold vp_in; decide)⟩ ?_
    rw [hp_s]
    exact Runs.fin rfl trivial
  rw [if_neg (show ¬ x = 4 from e)]
  refine Runs.sw1 (fun e => ?_) (fun e => ?_)
  · have e : x = 5 := e
    rw [if_pos e]
    subst e
    refine Runs.go 8 rfl ⟨trivial, (by unfold vp_in; decide)⟩ ?_
    rw [hp_s]
    exact Runs.fin rfl trivial
  rw [if_neg (show ¬ x = 5 from e)]
  refine Runs.sw1 (fun e => ?_) (fun e => ?_)
  · have e : x = 6 := e
    rw [if_pos e]
    subst e
    refine Runs.go 8 rfl ⟨trivial, (by unfold vp_in; decide)⟩ ?_
    rw [hp_s]
    exact Runs.fin rfl trivial
  rw [if_neg (show ¬ x = 6 from e)]
  refine Runs.sw1 (fun e => ?_) (fun e => ?_)
  · have e : x = 7 := e
    rw [if_pos e]
    subst e
    refine Runs.go 4 rfl trivial ?_
    refine Runs.cal rfl (m_doing (n + 2) _ h s f) ?_
    exact Runs.fin rfl trivial
  rw [if_neg (show ¬ x = 7 from e)]
  refine Runs.sw1 (fun e => ?_) (fun e => ?_)
  · have e : x = 8 := e
    rw [if_pos e]
    subst e
    refine Runs.go 4 rfl trivial ?_
    refine Runs.cal rfl (m_doing (n + 2) _ h s f) ?_
    exact Runs.fin rfl trivial
  rw [if_neg (show ¬ x = 8 from e)]
  refine Runs.sw1 (fun e => ?_) (fun e => ?_)
  · have e : x = 9 := e
    rw [if_pos e]
    subst e
    refine Runs.go 4 rfl trivial ?_
    refine Runs.cal rfl (m_doing (n + 2) _ h s f) ?_
    exact Runs.fin rfl trivial
  rw [if_neg (show ¬ x = 9 from e)]
  refine Runs.sw1 (fun e => ?_) (fun e => ?_)
  · have e : x = 10 := e
    rw [if_pos e]
    subst e
    refine Runs.go 4 rfl trivial ?_
    refine Runs.cal rfl (m_doing (n + 2) _ h s f) ?_
    exact Runs.fin rfl trivial
  rw [if_neg (show ¬ x = 10 from e)]
  refine Runs.sw1 (fun e => ?_) (fun e => ?_)
  · have e : x = 11 := e
    rw [if_pos e]
    subst e
    refine Runs.go 8 rfl ⟨trivial, (by unfold vp_in; decide)⟩ ?_
    rw [hp_s]
    exact Runs.fin rfl trivial
  rw [if_neg (show ¬ x = 11 from e)]
  refine Runs.sw1 (fun e => ?_) (fun e => ?_)
  · have e : x = 12 := e
    rw [if_pos e]
    subst e
    refine Runs.go 8 rfl ⟨trivial, (by unfold vp_in; decide)⟩ ?_
    rw [hp_s]
    exact Runs.fin rfl trivial
  rw [if_neg (show ¬ x = 12 from e)]
  refine Runs.sw1 (fun e => ?_) (fun e => ?_)
  · have e : x = 13 := e
    rw [if_pos e]
    subst e
    refine Runs.go 8 rfl ⟨trivial, (by unfold vp_in; decide)⟩ ?_
    rw [hp_s]
    exact Runs.fin rfl trivial
  rw [if_neg (show ¬ x = 13 from e)]
  refine Runs.sw1 (fun e => ?_) (fun e => ?_)
  · have e : x = 14 := e
    rw [if_pos e]
    subst e
    refine Runs.go 8 rfl ⟨trivial, (by unfold vp_in; decide)⟩ ?_
    rw [hp_s]
    exact Runs.fin rfl trivial
  rw [if_neg (show ¬ x = 14 from e)]
  refine Runs.sw1 (fun e => ?_) (fun e => ?_)
  · have e : x = 15 := e
    rw [if_pos e]
    subst e
    refine Runs.go 8 rfl ⟨trivial, (by unfold vp_in; decide)⟩ ?_
    rw [hp_s]
    exact Runs.fin rfl trivial
  rw [if_neg (show ¬ x = 15 from e)]
  refine Runs.sw1 (fun e => ?_) (fun e => ?_)
  · have e : x = 16 := e
    rw [if_pos e]
    subst e
    refine Runs.go 8 rfl ⟨trivial, (by unfold vp_in; decide)⟩ ?_
    rw [hp_s]
    exact Runs.fin rfl trivial
  rw [if_neg (show ¬ x = 16 from e)]
  refine Runs.sw1 (fun e => ?_) (fun e => ?_)
  · have e : x = 17 := e
    rw [if_pos e]
    refine Runs.go 2 rfl trivial ?_
    rw [q3]
    exact Runs.fin rfl trivial
  rw [if_neg (show ¬ x = 17 from e)]
  refine Runs.sw1 (fun e => ?_) (fun e => ?_)
  · have e : x = 18 := e
    rw [if_pos e]
    refine Runs.go 2 rfl trivial ?_
    rw [q7]
    exact Runs.fin rfl trivial
  rw [if_neg (show ¬ x = 18 from e)]
  refine Runs.sw0 ?_
  refine Runs.go 3 rfl trivial ?_
  refine Runs.cal rfl (m_in (n + 3) _ _ _ _) ?_
  refine Runs.go 1 rfl trivial ?_
  refine Runs.ifS (fun z => ?_) (fun z => ?_)
  · rw [if_pos z]
    refine Runs.go 1 rfl trivial ?_
    exact Runs.fin rfl trivial
  · rw [if_neg z]
    have hw : wip x (nI 20) (nI 29) := (Classical.em _).elim id (fun t => absurd (wi_0 t) z)
    obtain ⟨k, k1, k2, rfl⟩ := wip_nI2 (by decide) (by decide) hw
    have e20 : nI k - 20 = nI (k - 20) := by rw [show (20 : Int32) = nI 20 from rfl, pk_sub k1]
    refine Runs.go 7 rfl ⟨trivial, (by rw [e20]; exact i_in (show k - 20 < 244 by omega) (by decide))⟩ ?_
    rw [hp_s]
    exact Runs.fin rfl trivial
def mtr (s : Nat → Int32) (k : Nat) (x : Int32) : Int32 := if x = 0 then s (oR k 1) else if x = 1 then s (oR k 2) else if x = 2 then s (oR k 3) else if x = 3 then mahd s (s (oR k 1)) k else if x = 4 then s 10 - s (oR k 4) else -2
theorem m_readOf (n : Nat) (y x : Int32) (h : DH) (s f : Nat → Int32) {c : Nat} (hc : s 93 = nI c) (h30 : c ≤ 30) : dEx (n + 3) 139 [.inr (14, 0, 0), .inl y, .inl x] (hp h s f) (some (.inl (match mplc s c y with | some k => mtr s k x | none => -1)), hp h s f) := by
  refine dx_139 ?_
  refine Runs.go 2 rfl trivial ?_
  refine Runs.cal rfl (m_placeOf n y h s f hc h30) ?_
  cases hp' : mplc s c y with
  | none =>
    refine Runs.go 4 rfl trivial ?_
    refine Runs.ifT rfl ?_
    refine Runs.go 1 rfl trivial ?_
    exact Runs.fin rfl trivial
  | some p =>
    obtain ⟨p1, _, _⟩ := fp_some hp'
    have p30 : p < 30 := by omega
    dsimp only [oI]
    refine Runs.go 4 rfl trivial ?_
    refine Runs.ifF (nI_m5 (by omega)) ?_
    refine Runs.go 2 rfl trivial ?_
    unfold mtr
    refine Runs.sw1 (fun e => ?_) (fun e => ?_)
    · have e : x = 0 := e
      subst e
      rw [if_pos rfl]
      refine Runs.go 6 rfl trivial ?_
      refine Runs.cal rfl (m_ofRead (n + 1) p 1 _) ?_
      refine Runs.go 1 rfl ⟨trivial, (oR_in p30 (by decide))⟩ ?_
      simp only [hp_s, hp_f, hp_o, hp_up, hp_fu, tc0, tc1, tc2, tc3, tc4, tc5, tc6, tc7, tc8, tc9, tc10, tc11, tc12, tc13, tc14, tc15, tc16, tc17, tc18, tc19, tc20, tc93, oR_cl p30 (show 1 < 5 by decide)]
      exact Runs.fin rfl trivial
    rw [if_neg (show ¬ x = 0 from e)]
    refine Runs.sw1 (fun e => ?_) (fun e => ?_)
    · have e : x = 1 := e
      subst e
      rw [if_pos rfl]
      refine Runs.go 6 rfl trivial ?_
      refine Runs.cal rfl (m_ofRead (n + 1) p 2 _) ?_
      refine Runs.go 1 rfl ⟨trivial, (oR_in p30 (by decide))⟩ ?_
      simp only [hp_s, hp_f, hp_o, hp_up, hp_fu, tc0, tc1, tc2, tc3, tc4, tc5, tc6, tc7, tc8, tc9, tc10, tc11, tc12, tc13, tc14, tc15, tc16, tc17, tc18, tc19, tc20, tc93, oR_cl p30 (show 2 < 5 by decide)]
      exact Runs.fin rfl trivial
    rw [if_neg (show ¬ x = 1 from e)]
    refine Runs.sw1 (fun e => ?_) (fun e => ?_)
    · have e : x = 2 := e
      subst e
      rw [if_pos rfl]
      refine Runs.go 6 rfl trivial ?_
      refine Runs.cal rfl (m_ofRead (n + 1) p 3 _) ?_
      refine Runs.go 1 rfl ⟨trivial, (oR_in p30 (by decide))⟩ ?_
      simp only [hp_s, hp_f, hp_o, hp_up, hp_fu, tc0, tc1, tc2, tc3, tc4, tc5, tc6, tc7, tc8, tc9, tc10, tc11, tc12, tc13, tc14, tc15, tc16, tc17, tc18, tc19, tc20, tc93, oR_cl p30 (show 3 < 5 by decide)]
      exact Runs.fin rfl trivial
    rw [if_neg (show ¬ x = 2 from e)]
    refine Runs.sw1 (fun e => ?_) (fun e => ?_)
    · have e : x = 3 := e
      rw [if_pos e]
      refine Runs.go 5 rfl trivial ?_
      refine Runs.cal rfl (m_ofRead (n + 1) p 1 _) ?_
      refine Runs.go 2 rfl ⟨trivial, (oR_in p30 (by decide))⟩ ?_
      simp only [hp_s, hp_f, hp_o, hp_up, hp_fu, tc0, tc1, tc2, tc3, tc4, tc5, tc6, tc7, tc8, tc9, tc10, tc11, tc12, tc13, tc14, tc15, tc16, tc17, tc18, tc19, tc20, tc93, oR_cl p30 (show 1 < 5 by decide)]
      refine Runs.cal rfl (m_readsOf n p _ h s f (by omega)) ?_
      exact Runs.fin rfl trivial
    rw [if_neg (show ¬ x = 3 from e)]
    refine Runs.sw1 (fun e => ?_) (fun e => ?_)
    · have e : x = 4 := e
      rw [if_pos e]
      refine Runs.go 8 rfl ⟨trivial, (by unfold vp_in; decide)⟩ ?_
      simp only [hp_s, hp_f, hp_o, hp_up, hp_fu, tc0, tc1, tc2, tc3, tc4, tc5, tc6, tc7, tc8, tc9, tc10, tc11, tc12, tc13, tc14, tc15, tc16, tc17, tc18, tc19, tc20, tc93]
      refine Runs.cal rfl (m_ofRead (n + 1) p 4 _) ?_
      refine Runs.go 2 rfl ⟨trivial, (oR_in p30 (by decide))⟩ ?_
      simp only [hp_s, hp_f, hp_o, hp_up, hp_fu, tc0, tc1, tc2, tc3, tc4, tc5, tc6, tc7, tc8, tc9, tc10, tc11, tc12, tc13, tc14, tc15, tc16, tc17, tc18, tc19, tc20, tc93, oR_cl p30 (show 4 < 5 by decide)]
      exact Runs.fin rfl trivial
    rw [if_neg (show ¬ x = 4 from e)]
    refine Runs.sw0 ?_
    refine Runs.go 1 rfl trivial ?_
    exact Runs.fin rfl trivial
