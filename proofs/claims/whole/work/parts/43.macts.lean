/-! the reference: set, read, drop, fail, replace, fuse, run -/
theorem m_isIn (n : Nat) (v : Int32) (h : DH) : ∀ w, w < 10 → dEx (n + 2) 89 [.inl (nI w), .inl v] h (some (.inl (wi v (dcst 1 w) (dcst 2 w))), h) := by
  intro w hw
  have h10 : w = 0 ∨ w = 1 ∨ w = 2 ∨ w = 3 ∨ w = 4 ∨ w = 5 ∨ w = 6 ∨ w = 7 ∨ w = 8 ∨ w = 9 := by omega
  rcases h10 with rfl | rfl | rfl | rfl | rfl | rfl | rfl | rfl | rfl | rfl
  · refine dx_89 ?_
    refine Runs.go 2 rfl trivial ?_
    refine Runs.sw1 (fun _ => ?_) (fun c => absurd rfl c)
    refine Runs.go 3 rfl trivial ?_
    refine Runs.cal rfl (m_in n _ _ _ h) ?_
    exact Runs.fin rfl (wi_01 _ _ _)
  · refine dx_89 ?_
    refine Runs.go 2 rfl trivial ?_
    refine Runs.sw1 (fun c => absurd c (by decide)) (fun _ => ?_)
    refine Runs.sw1 (fun _ => ?_) (fun c => absurd rfl c)
    refine Runs.go 3 rfl trivial ?_
    refine Runs.cal rfl (m_in n _ _ _ h) ?_
    exact Runs.fin rfl (wi_01 _ _ _)
  · refine dx_89 ?_
    refine Runs.go 2 rfl trivial ?_
    refine Runs.sw1 (fun c => absurd c (by decide)) (fun _ => ?_)
    refine Runs.sw1 (fun c => absurd c (by decide)) (fun _ => ?_)
    refine Runs.sw1 (fun _ => ?_) (fun c => absurd rfl c)
    refine Runs.go 3 rfl trivial ?_
    refine Runs.cal rfl (m_in n _ _ _ h) ?_
    exact Runs.fin rfl (wi_01 _ _ _)
  · refine dx_89 ?_
    refine Runs.go 2 rfl trivial ?_
    refine Runs.sw1 (fun c => absurd c (by decide)) (fun _ => ?_)
    refine Runs.sw1 (fun c => absurd c (by decide)) (fun _ => ?_)
    refine Runs.sw1 (fun c => absurd c (by decide)) (fun _ => ?_)
    refine Runs.sw1 (fun _ => ?_) (fun c => absurd rfl c)
    refine Runs.go 3 rfl trivial ?_
    refine Runs.cal rfl (m_in n _ _ _ h) ?_
    exact Runs.fin rfl (wi_01 _ _ _)
  · refine dx_89 ?_
    refine Runs.go 2 rfl trivial ?_
    refine Runs.sw1 (fun c => absurd c (by decide)) (fun _ => ?_)
    refine Runs.sw1 (fun c => absurd c (by decide)) (fun _ => ?_)
    refine Runs.sw1 (fun c => absurd c (by decide)) (fun _ => ?_)
    refine Runs.sw1 (fun c => absurd c (by decide)) (fun _ => ?_)
    refine Runs.sw1 (fun _ => ?_) (fun c => absurd rfl c)
    refine Runs.go 3 rfl trivial ?_
    refine Runs.cal rfl (m_in n _ _ _ h) ?_
    exact Runs.fin rfl (wi_01 _ _ _)
  · refine dx_89 ?_
    refine Runs.go 2 rfl trivial ?_
    refine Runs.sw1 (fun c => absurd c (by decide)) (fun _ => ?_)
    refine Runs.sw1 (fun c => absurd c (by decide)) (fun _ => ?_)
    refine Runs.sw1 (fun c => absurd c (by decide)) (fun _ => ?_)
    refine Runs.sw1 (fun c => absurd c (by decide)) (fun _ => ?_)
    refine Runs.sw1 (fun c => absurd c (by decide)) (fun _ => ?_)
    refine Runs.sw1 (fun _ => ?_) (fun c => absurd rfl c)
    refine Runs.go 3 rfl trivial ?_
    refine Runs.cal rfl (m_in n _ _ _ h) ?_
    exact Runs.fin rfl (wi_01 _ _ _)
  · refine dx_89 ?_
    refine Runs.go 2 rfl trivial ?_
    refine Runs.sw1 (fun c => absurd c (by decide)) (fun _ => ?_)
    refine Runs.sw1 (fun c => absurd c (by decide)) (fun _ => ?_)
    refine Runs.sw1 (fun c => absurd c (by decide)) (fun _ => ?_)
    refine Runs.sw1 (fun c => absurd c (by decide)) (fun _ => ?_)
    refine Runs.sw1 (fun c => absurd c (by decide)) (fun _ => ?_)
    refine Runs.sw1 (fun c => absurd c (by decide)) (fun _ => ?_)
    refine Runs.sw1 (fun _ => ?_) (fun c => absurd rfl c)
    refine Runs.go 3 rfl trivial ?_
    refine Runs.cal rfl (m_in n _ _ _ h) ?_
    exact Runs.fin rfl (wi_01 _ _ _)
  · refine dx_89 ?_
    refine Runs.go 2 rfl trivial ?_
    refine Runs.sw1 (fun c => absurd c (by decide)) (fun _ => ?_)
    refine Runs.sw1 (fun c => absurd c (by decide)) (fun _ => ?_)
    refine Runs.sw1 (fun c => absurd c (by decide)) (fun _ => ?_)
    refine Runs.sw1 (fun c => absurd c (by decide)) (fun _ => ?_)
    refine Runs.sw1 (fun c => absurd c (by decide)) (fun _ => ?_)
    refine Runs.sw1 (fun c => absurd c (by decide)) (fun _ => ?_)
    refine Runs.sw1 (fun c => absurd c (by decide)) (fun _ => ?_)
    refine Runs.sw1 (fun _ => ?_) (fun c => absurd rfl c)
    refine Runs.go 3 rfl trivial ?_
    refine Runs.cal rfl (m_in n _ _ _ h) ?_
    exact Runs.fin rfl (wi_01 _ _ _)
  · refine dx_89 ?_
    refine Runs.go 2 rfl trivial ?_
    refine Runs.sw1 (fun c => absurd c (by decide)) (fun _ => ?_)
    refine Runs.sw1 (fun c => absurd c (by decide)) (fun _ => ?_)
    refine Runs.sw1 (fun c => absurd c (by decide)) (fun _ => ?_)
    refine Runs.sw1 (fun c => absurd c (by decide)) (fun _ => ?_)
    refine Runs.sw1 (fun c => absurd c (by decide)) (fun _ => ?_)
    refine Runs.sw1 (fun c => absurd c (by decide)) (fun _ => ?_)
    refine Runs.sw1 (fun c => absurd c (by decide)) (fun _ => ?_)
    refine Runs.sw1 (fun c => absurd c (by decide)) (fun _ => ?_)
    refine Runs.sw1 (fun _ => ?_) (fun c => absurd rfl c)
    refine Runs.go 3 rfl trivial ?_
    refine Runs.cal rfl (m_in n _ _ _ h) ?_
    exact Runs.fin rfl (wi_01 _ _ _)
  · refine dx_89 ?_
    refine Runs.go 2 rfl trivial ?_
    refine Runs.sw1 (fun c => absurd c (by decide)) (fun _ => ?_)
    refine Runs.sw1 (fun c => absurd c (by decide)) (fun _ => ?_)
    refine Runs.sw1 (fun c => absurd c (by decide)) (fun _ => ?_)
    refine Runs.sw1 (fun c => absurd c (by decide)) (fun _ => ?_)
    refine Runs.sw1 (fun c => absurd c (by decide)) (fun _ => ?_)
    refine Runs.sw1 (fun c => absurd c (by decide)) (fun _ => ?_)
    refine Runs.sw1 (fun c => absurd c (by decide)) (fun _ => ?_)
    refine Runs.sw1 (fun c => absurd c (by decide)) (fun _ => ?_)
    refine Runs.sw1 (fun c => absurd c (by decide)) (fun _ => ?_)
    refine Runs.sw0 ?_
    refine Runs.go 3 rfl trivial ?_
    refine Runs.cal rfl (m_in n _ _ _ h) ?_
    exact Runs.fin rfl (wi_01 _ _ _)
theorem m_set (n : Nat) (y x : Int32) (h : DH) (s f : Nat → Int32) {a : Nat} (ha : h.1 (14, 0, 0) 3 = nI a) (ha4 : a ≤ 4) : (¬ wip y 0 9 → dEx (n + 3) 87 [.inr (14, 0, 0), .inl y, .inl x] (hp h s f) (some (.inl (-1)), hp h s f)) ∧ (∀ w, w < 10 → y = nI w → dEx (n + 3) 87 [.inr (14, 0, 0), .inl y, .inl x] (hp h s f) (if wi x (dcst 1 w) (dcst 2 w) = 0 then (some (.inl (-2)), hp h s f) else if s w = x then (some (.inl (-5)), hp h s f) else (some (.inl (s w)), hp (know h a s) (upd s w x) f))) := by
  constructor
  · intro hy
    refine dx_87 ?_
    refine Runs.go 3 rfl trivial ?_
    refine Runs.cal rfl (m_in (n + 1) _ _ _ _) ?_
    rw [wi_0 hy]
    refine Runs.go 1 rfl trivial ?_
    refine Runs.ifT rfl ?_
    refine Runs.go 1 rfl trivial ?_
    exact Runs.fin rfl trivial
  · rintro w hw rfl
    refine dx_87 ?_
    refine Runs.go 3 rfl trivial ?_
    refine Runs.cal rfl (m_in (n + 1) _ _ _ _) ?_
    rw [wi_1 (show wip (nI w) 0 9 from ⟨nI_pos (by omega), nI_nlt (show w ≤ 9 by omega) (by decide)⟩)]
    refine Runs.go 1 rfl trivial ?_
    refine Runs.ifF (by decide) ?_
    refine Runs.go 2 rfl trivial ?_
    refine Runs.cal rfl (m_isIn n x _ w hw) ?_
    refine Runs.go 1 rfl trivial ?_
    refine Runs.ifS (fun z => ?_) (fun z => ?_)
    · rw [if_pos z]
      refine Runs.go 1 rfl trivial ?_
      exact Runs.fin rfl trivial
    · rw [if_neg z]
      refine Runs.go 8 rfl ⟨trivial, (i_in (show w < 244 by omega) (by decide))⟩ ?_
      simp only [hp_s, hp_f, hp_o, hp_up, hp_fu, tc0, tc1, tc2, tc3, tc4, tc5, tc6, tc7, tc8, tc9, tc10, tc11, tc12, tc13, tc14, tc15, tc16, tc17, tc18, tc19, tc20, tc93, i_cl (show w < 2 ^ 31 by omega)]
      refine Runs.ifS (fun z2 => ?_) (fun z2 => ?_)
      · rw [if_pos z2]
        refine Runs.go 1 rfl trivial ?_
        exact Runs.fin rfl trivial
      · rw [if_neg z2]
        refine Runs.go 1 rfl trivial ?_
        refine Runs.calv rfl (m_know (n + 1) h s f ha ha4) ?_
        refine Runs.go 6 rfl ⟨trivial, (i_in (show w < 244 by omega) (by decide))⟩ ?_
        simp only [hp_s, hp_f, hp_o, hp_up, hp_fu, tc0, tc1, tc2, tc3, tc4, tc5, tc6, tc7, tc8, tc9, tc10, tc11, tc12, tc13, tc14, tc15, tc16, tc17, tc18, tc19, tc20, tc93, i_cl (show w < 2 ^ 31 by omega)]
        exact Runs.fin rfl trivial
def mask (s : Nat → Int32) (c d : Nat) (t : Int32) : Nat → Int32 := upd (upd (upd (upd (upd (upd (upd s (oR c 0) (s 12)) (oR c 1) (nI d)) (oR c 2) t) (oR c 3) t) (oR c 4) (s 10)) 93 (nI (c + 1))) 12 (s 12 + 1)
theorem m_readFault (n : Nat) (y t : Int32) (h : DH) (s f : Nat → Int32) {c : Nat} (hc : s 93 = nI c) (h30 : c ≤ 30) : (¬ wip y 0 11 → dEx (n + 3) 92 [.inr (14, 0, 0), .inl y, .inl t] (hp h s f) (some (.inl (-1)), hp h s f)) ∧ (∀ d, d < 12 → y = nI d → dEx (n + 3) 92 [.inr (14, 0, 0), .inl y, .inl t] (hp h s f) (some (.inl (if wi t 1 50 = 0 then -2 else if s (oD d 0) = 3 then -4 else if c = 30 ∨ s 12 = 500 then -3 else 0)), hp h s f)) := by
  constructor
  · intro hy
    refine dx_92 ?_
    refine Runs.go 1 rfl trivial ?_
    refine Runs.cal rfl (m_isDisk n _ _) ?_
    rw [wi_0 hy]
    refine Runs.go 1 rfl trivial ?_
    refine Runs.ifT rfl ?_
    refine Runs.go 1 rfl trivial ?_
    exact Runs.fin rfl trivial
  · rintro d hd rfl
    refine dx_92 ?_
    refine Runs.go 1 rfl trivial ?_
    refine Runs.cal rfl (m_isDisk n _ _) ?_
    rw [wi_1 (show wip (nI d) 0 11 from ⟨nI_pos (by omega), nI_nlt (show d ≤ 11 by omega) (by decide)⟩)]
    refine Runs.go 1 rfl trivial ?_
    refine Runs.ifF (by decide) ?_
    refine Runs.go 3 rfl trivial ?_
    refine Runs.cal rfl (m_in (n + 1) _ _ _ _) ?_
    refine Runs.go 1 rfl trivial ?_
    refine Runs.ifS (fun z => ?_) (fun z => ?_)
    · rw [if_pos z]
      refine Runs.go 1 rfl trivial ?_
      exact Runs.fin rfl trivial
    · rw [if_neg z]
      refine Runs.go 4 rfl trivial ?_
      refine Runs.cal rfl (m_of (n + 1) d 0 _) ?_
      refine Runs.go 3 rfl ⟨trivial, (oD_in hd (by decide))⟩ ?_
      simp only [hp_s, hp_f, hp_o, hp_up, hp_fu, tc0, tc1, tc2, tc3, tc4, tc5, tc6, tc7, tc8, tc9, tc10, tc11, tc12, tc13, tc14, tc15, tc16, tc17, tc18, tc19, tc20, tc93, oD_cl hd (show 0 < 6 by decide)]
      refine Runs.ifS (fun z2 => ?_) (fun z2 => ?_)
      · rw [if_pos z2]
        refine Runs.go 2 rfl trivial ?_
        exact Runs.fin rfl trivial
      · rw [if_neg z2]
        refine Runs.go 6 rfl ⟨trivial, (by unfold vp_in; decide)⟩ ?_
        simp only [hp_s, hp_f, hp_o, hp_up, hp_fu, tc0, tc1, tc2, tc3, tc4, tc5, tc6, tc7, tc8, tc9, tc10, tc11, tc12, tc13, tc14, tc15, tc16, tc17, tc18, tc19, tc20, tc93, hc]
        refine Runs.ifS (fun z3 => ?_) (fun z3 => ?_)
        · rw [if_pos (Or.inl (nI_inj (by omega) (by decide) z3))]
          refine Runs.go 2 rfl trivial ?_
          exact Runs.fin rfl trivial
        · have n3 : ¬ c = 30 := fun t => z3 (by rw [t]; rfl)
          refine Runs.go 6 rfl ⟨trivial, (by unfold vp_in; decide)⟩ ?_
          simp only [hp_s, hp_f, hp_o, hp_up, hp_fu, tc0, tc1, tc2, tc3, tc4, tc5, tc6, tc7, tc8, tc9, tc10, tc11, tc12, tc13, tc14, tc15, tc16, tc17, tc18, tc19, tc20, tc93]
          refine Runs.ifS (fun z4 => ?_) (fun z4 => ?_)
          · rw [if_pos (Or.inr z4)]
            refine Runs.go 2 rfl trivial ?_
            exact Runs.fin rfl trivial
          · rw [if_neg (fun t => t.elim n3 z4)]
            refine Runs.go 1 rfl trivial ?_
            exact Runs.fin rfl trivial
theorem m_asks (n d : Nat) (t : Int32) (h : DH) (s f : Nat → Int32) {c : Nat} (hc : s 93 = nI c) (h30 : c < 30) : dEx (n + 2) 95 [.inr (14, 0, 0), .inl (nI d), .inl t] (hp h s f) (some (.inl (s 12)), hp h (mask s c d t) f) := by
  refine dx_95 ?_
  refine Runs.go 9 rfl ⟨trivial, (by unfold vp_in; decide)⟩ ?_
  simp only [hp_s, hp_f, hp_o, hp_up, hp_fu, tc0, tc1, tc2, tc3, tc4, tc5, tc6, tc7, tc8, tc9, tc10, tc11, tc12, tc13, tc14, tc15, tc16, tc17, tc18, tc19, tc20, tc93, hc]
  refine Runs.cal rfl (m_ofRead n c 0 _) ?_
  refine Runs.go 9 rfl ⟨⟨trivial, (by unfold vp_in; decide)⟩, (oR_in h30 (by decide))⟩ ?_
  simp only [hp_s, hp_f, hp_o, hp_up, hp_fu, tc0, tc1, tc2, tc3, tc4, tc5, tc6, tc7, tc8, tc9, tc10, tc11, tc12, tc13, tc14, tc15, tc16, tc17, tc18, tc19, tc20, tc93, oR_cl h30 (show 0 < 5 by decide)]
  refine Runs.cal rfl (m_ofRead n c 1 _) ?_
  refine Runs.go 6 rfl ⟨trivial, (oR_in h30 (by decide))⟩ ?_
  simp only [hp_s, hp_f, hp_o, hp_up, hp_fu, tc0, tc1, tc2, tc3, tc4, tc5, tc6, tc7, tc8, tc9, tc10, tc11, tc12, tc13, tc14, tc15, tc16, tc17, tc18, tc19, tc20, tc93, oR_cl h30 (show 1 < 5 by decide)]
  refine Runs.cal rfl (m_ofRead n c 2 _) ?_
  refine Runs.go 6 rfl ⟨trivial, (oR_in h30 (by decide))⟩ ?_
  simp only [hp_s, hp_f, hp_o, hp_up, hp_fu, tc0, tc1, tc2, tc3, tc4, tc5, tc6, tc7, tc8, tc9, tc10, tc11, tc12, tc13, tc14, tc15, tc16, tc17, tc18, tc19, tc20, tc93, oR_cl h30 (show 2 < 5 by decide)]
  refine Runs.cal rfl (m_ofRead n c 3 _) ?_
  refine Runs.go 6 rfl ⟨trivial, (oR_in h30 (by decide))⟩ ?_
  simp only [hp_s, hp_f, hp_o, hp_up, hp_fu, tc0, tc1, tc2, tc3, tc4, tc5, tc6, tc7, tc8, tc9, tc10, tc11, tc12, tc13, tc14, tc15, tc16, tc17, tc18, tc19, tc20, tc93, oR_cl h30 (show 3 < 5 by decide)]
  refine Runs.cal rfl (m_ofRead n c 4 _) ?_
  refine Runs.go 27 rfl ⟨⟨⟨⟨⟨⟨⟨trivial, (by unfold vp_in; decide)⟩, (oR_in h30 (by decide))⟩, (by unfold vp_in; decide)⟩, (by unfold vp_in; decide)⟩, (by unfold vp_in; decide)⟩, (by unfold vp_in; decide)⟩, (by unfold vp_in; decide)⟩ ?_
  simp only [hp_s, hp_f, hp_o, hp_up, hp_fu, tc0, tc1, tc2, tc3, tc4, tc5, tc6, tc7, tc8, tc9, tc10, tc11, tc12, tc13, tc14, tc15, tc16, tc17, tc18, tc19, tc20, tc93, oR_cl h30 (show 4 < 5 by decide)]
  have o : ∀ q w, q < 94 → q ≠ oR c w := fun q w hq => by unfold oR; omega
  have x10 : upd (upd (upd (upd s (oR c 0) (s 12)) (oR c 1) (nI d)) (oR c 2) t) (oR c 3) t 10 = s 10 := by rw [upd_n _ _ (o 10 3 (by decide)), upd_n _ _ (o 10 2 (by decide)), upd_n _ _ (o 10 1 (by decide)), upd_n _ _ (o 10 0 (by decide))]
  rw [x10]
  have x93 : upd (upd (upd (upd (upd s (oR c 0) (s 12)) (oR c 1) (nI d)) (oR c 2) t) (oR c 3) t) (oR c 4) (s 10) 93 + 1 = nI (c + 1) := by rw [upd_n _ _ (o 93 4 (by decide)), upd_n _ _ (o 93 3 (by decide)), upd_n _ _ (o 93 2 (by decide)), upd_n _ _ (o 93 1 (by decide)), upd_n _ _ (o 93 0 (by decide)), hc, nI_1]
  rw [x93]
  have x12 : upd (upd (upd (upd (upd (upd s (oR c 0) (s 12)) (oR c 1) (nI d)) (oR c 2) t) (oR c 3) t) (oR c 4) (s 10)) 93 (nI (c + 1)) 12 = s 12 := by rw [upd_n _ _ (by decide), upd_n _ _ (o 12 4 (by decide)), upd_n _ _ (o 12 3 (by decide)), upd_n _ _ (o 12 2 (by decide)), upd_n _ _ (o 12 1 (by decide)), upd_n _ _ (o 12 0 (by decide))]
  rw [x12, upd_s, Int32.add_sub_cancel]
  exact Runs.fin rfl trivial
theorem m_read (n : Nat) (y t : Int32) (h : DH) (s f : Nat → Int32) {a c : Nat} (ha : h.1 (14, 0, 0) 3 = nI a) (ha4 : a ≤ 4) (hc : s 93 = nI c) (h30 : c ≤ 30) : (¬ wip y 0 11 → dEx (n + 4) 91 [.inr (14, 0, 0), .inl y, .inl t] (hp h s f) (some (.inl (-1)), hp h s f)) ∧ (∀ d, d < 12 → y = nI d → dEx (n + 4) 91 [.inr (14, 0, 0), .inl y, .inl t] (hp h s f) (if wi t 1 50 = 0 then (some (.inl (-2)), hp h s f) else if s (oD d 0) = 3 then (some (.inl (-4)), hp h s f) else if c = 30 ∨ s 12 = 500 then (some (.inl (-3)), hp h s f) else (some (.inl (s 12)), hp (know h a s) (mask s c d t) f))) := by
  constructor
  · intro hy
    refine dx_91 ?_
    refine Runs.go 3 rfl trivial ?_
    refine Runs.cal rfl ((m_readFault n y t h s f hc h30).1 hy) ?_
    refine Runs.go 3 rfl trivial ?_
    refine Runs.ifF (by decide) ?_
    refine Runs.go 1 rfl trivial ?_
    exact Runs.fin rfl trivial
  · rintro d hd rfl
    refine dx_91 ?_
    refine Runs.go 3 rfl trivial ?_
    refine Runs.cal rfl ((m_readFault n _ t h s f hc h30).2 d hd rfl) ?_
    by_cases z : wi t 1 50 = 0
    · rw [if_pos z, if_pos z]
      refine Runs.go 3 rfl trivial ?_
      refine Runs.ifF (by decide) ?_
      refine Runs.go 1 rfl trivial ?_
      exact Runs.fin rfl trivial
    · rw [if_neg z, if_neg z]
      by_cases z2 : s (oD d 0) = 3
      · rw [if_pos z2, if_pos z2]
        refine Runs.go 3 rfl trivial ?_
        refine Runs.ifF (by decide) ?_
        refine Runs.go 1 rfl trivial ?_
        exact Runs.fin rfl trivial
      · rw [if_neg z2, if_neg z2]
        by_cases z3 : c = 30 ∨ s 12 = 500
        · rw [if_pos z3, if_pos z3]
          refine Runs.go 3 rfl trivial ?_
          refine Runs.ifF (by decide) ?_
          refine Runs.go 1 rfl trivial ?_
          exact Runs.fin rfl trivial
        · rw [if_neg z3, if_neg z3]
          have hlt : c < 30 := by
            rcases Nat.lt_or_ge c 30 with u | u
            · exact u
            · exact absurd (Or.inl (by omega)) z3
          refine Runs.go 3 rfl trivial ?_
          refine Runs.ifT (by decide) ?_
          refine Runs.go 1 rfl trivial ?_
          refine Runs.calv rfl (m_know (n + 2) h s f ha ha4) ?_
          refine Runs.go 3 rfl trivial ?_
          refine Runs.cal rfl (m_asks (n + 1) d t _ s f hc hlt) ?_
          exact Runs.fin rfl trivial
theorem m_drop (n : Nat) (x : Int32) (h : DH) (s f : Nat → Int32) {a c : Nat} (ha : h.1 (14, 0, 0) 3 = nI a) (ha4 : a ≤ 4) (hc : s 93 = nI c) (h30 : c ≤ 30) : dEx (n + 3) 97 [.inr (14, 0, 0), .inl x] (hp h s f) (match mplc s c x with | none => (some (.inl (-1)), hp h s f) | some p => (some (.inl (nI (c - 1))), hp (know h a s) (mrm s p c) f)) := by
  refine dx_97 ?_
  refine Runs.go 2 rfl trivial ?_
  refine Runs.cal rfl (m_placeOf n x h s f hc h30) ?_
  cases hp' : mplc s c x with
  | none =>
    refine Runs.go 4 rfl trivial ?_
    refine Runs.ifT rfl ?_
    refine Runs.go 1 rfl trivial ?_
    exact Runs.fin rfl trivial
  | some p =>
    obtain ⟨p1, _, _⟩ := fp_some hp'
    dsimp only [oI]
    refine Runs.go 4 rfl trivial ?_
    refine Runs.ifF (nI_m5 (by omega)) ?_
    refine Runs.go 1 rfl trivial ?_
    refine Runs.calv rfl (m_know (n + 1) h s f ha ha4) ?_
    refine Runs.go 2 rfl trivial ?_
    refine Runs.calv rfl (m_remove n p _ s f hc h30 p1) ?_
    refine Runs.go 4 rfl ⟨trivial, (by unfold vp_in; decide)⟩ ?_
    simp only [hp_s, hp_f, hp_o, hp_up, hp_fu, tc0, tc1, tc2, tc3, tc4, tc5, tc6, tc7, tc8, tc9, tc10, tc11, tc12, tc13, tc14, tc15, tc16, tc17, tc18, tc19, tc20, tc93, mrm_93]
    exact Runs.fin rfl trivial
theorem m_failFault (n : Nat) (y : Int32) (h : DH) (s f : Nat → Int32) : (¬ wip y 0 11 → dEx (n + 3) 101 [.inr (14, 0, 0), .inl y] (hp h s f) (some (.inl (-1)), hp h s f)) ∧ (∀ d, d < 12 → y = nI d → dEx (n + 3) 101 [.inr (14, 0, 0), .inl y] (hp h s f) (some (.inl (if s (oD d 0) = 3 then -4 else if s (oD d 4) = 1 then -5 else 0)), hp h s f)) := by
  constructor
  · intro hy
    refine dx_101 ?_
    refine Runs.go 1 rfl trivial ?_
    refine Runs.cal rfl (m_isDisk n _ _) ?_
    rw [wi_0 hy]
    refine Runs.go 1 rfl trivial ?_
    refine Runs.ifT rfl ?_
    refine Runs.go 2 rfl trivial ?_
    exact Runs.fin rfl trivial
  · rintro d hd rfl
    refine dx_101 ?_
    refine Runs.go 1 rfl trivial ?_
    refine Runs.cal rfl (m_isDisk n _ _) ?_
    rw [wi_1 (show wip (nI d) 0 11 from ⟨nI_pos (by omega), nI_nlt (show d ≤ 11 by omega) (by decide)⟩)]
    refine Runs.go 1 rfl trivial ?_
    refine Runs.ifF (by decide) ?_
    refine Runs.go 4 rfl trivial ?_
    refine Runs.cal rfl (m_of (n + 1) d 0 _) ?_
    refine Runs.go 3 rfl ⟨trivial, (oD_in hd (by decide))⟩ ?_
    simp only [hp_s, hp_f, hp_o, hp_up, hp_fu, tc0, tc1, tc2, tc3, tc4, tc5, tc6, tc7, tc8, tc9, tc10, tc11, tc12, tc13, tc14, tc15, tc16, tc17, tc18, tc19, tc20, tc93, oD_cl hd (show 0 < 6 by decide)]
    refine Runs.ifS (fun z => ?_) (fun z => ?_)
    · rw [if_pos z]
      refine Runs.go 2 rfl trivial ?_
      exact Runs.fin rfl trivial
    · rw [if_neg z]
      refine Runs.go 4 rfl trivial ?_
      refine Runs.cal rfl (m_of (n + 1) d 4 _) ?_
      refine Runs.go 3 rfl ⟨trivial, (oD_in hd (by decide))⟩ ?_
      simp only [hp_s, hp_f, hp_o, hp_up, hp_fu, tc0, tc1, tc2, tc3, tc4, tc5, tc6, tc7, tc8, tc9, tc10, tc11, tc12, tc13, tc14, tc15, tc16, tc17, tc18, tc19, tc20, tc93, oD_cl hd (show 4 < 6 by decide)]
      refine Runs.ifS (fun z2 => ?_) (fun z2 => ?_)
      · rw [if_pos z2]
        refine Runs.go 2 rfl trivial ?_
        exact Runs.fin rfl trivial
      · rw [if_neg z2]
        refine Runs.go 1 rfl trivial ?_
        exact Runs.fin rfl trivial
def mpl (s : Nat → Int32) : Int32 := sumN (fun e => s (oD e 4)) 12
theorem m_plans (n d : Nat) (h : DH) (s f : Nat → Int32) (hd : d < 12) : dEx (n + 2) 102 [.inr (14, 0, 0), .inl (nI d)] (hp h s f) (some (.inl (mpl (upd s (oD d 4) 1))), hp h (upd s (oD d 4) 1) f) := by
  refine dx_102 ?_
  refine Runs.go 4 rfl trivial ?_
  refine Runs.cal rfl (m_of n d 4 _) ?_
  generalize hr : (some (.inl (mpl (upd s (oD d 4) 1))) : Option DV) = rr
  refine Runs.go 6 rfl ⟨trivial, oD_in hd (show 4 < 6 by decide)⟩ ?_
  simp only [hp_s, hp_f, hp_o, hp_up, hp_fu, tc0, tc1, tc2, tc3, tc4, tc5, tc6, tc7, tc8, tc9, tc10, tc11, tc12, tc13, tc14, tc15, tc16, tc17, tc18, tc19, tc20, tc93, oD_cl hd (show 4 < 6 by decide)]
  generalize hs : upd s (oD d 4) 1 = s1 at hr ⊢
  refine Runs.loop 12 (fun k => (15, [some (.inr (14, 0, 0)), some (.inl (nI d)), some (.inl (sumN (fun e => s1 (oD e 4)) k)), some (.inl (nI k))], [], hp h s1 f)) (fun k hk ih => ?_) ?_
  · refine Runs.go 3 rfl trivial ?_
    refine Runs.ifF (i_ge hk (by decide)) ?_
    refine Runs.go 5 rfl trivial ?_
    refine Runs.cal rfl (m_of n k 4 _) ?_
    refine Runs.go 5 rfl ⟨trivial, (oD_in hk (by decide))⟩ ?_
    simp only [hp_s, hp_f, hp_o, hp_up, hp_fu, tc0, tc1, tc2, tc3, tc4, tc5, tc6, tc7, tc8, tc9, tc10, tc11, tc12, tc13, tc14, tc15, tc16, tc17, tc18, tc19, tc20, tc93, oD_cl hk (show 4 < 6 by decide)]
    rw [nI_1]
    exact ih
  · refine Runs.go 3 rfl trivial ?_
    refine Runs.ifT (Int32.le_refl _) ?_
    refine Runs.go 1 rfl trivial ?_
    exact Runs.fin (by rw [← hr]; rfl) trivial
theorem m_fail (n : Nat) (y : Int32) (h : DH) (s f : Nat → Int32) {a : Nat} (ha : h.1 (14, 0, 0) 3 = nI a) (ha4 : a ≤ 4) : (¬ wip y 0 11 → dEx (n + 4) 100 [.inr (14, 0, 0), .inl y] (hp h s f) (some (.inl (-1)), hp h s f)) ∧ (∀ d, d < 12 → y = nI d → dEx (n + 4) 100 [.inr (14, 0, 0), .inl y] (hp h s f) (if s (oD d 0) = 3 then (some (.inl (-4)), hp h s f) else if s (oD d 4) = 1 then (some (.inl (-5)), hp h s f) else (some (.inl (mpl (upd s (oD d 4) 1))), hp (know h a s) (upd s (oD d 4) 1) f))) := by
  constructor
  · intro hy
    refine dx_100 ?_
    refine Runs.go 2 rfl trivial ?_
    refine Runs.cal rfl ((m_failFault n y h s f).1 hy) ?_
    refine Runs.go 3 rfl trivial ?_
    refine Runs.ifF (by decide) ?_
    refine Runs.go 1 rfl trivial ?_
    exact Runs.fin rfl trivial
  · rintro d hd rfl
    refine dx_100 ?_
    refine Runs.go 2 rfl trivial ?_
    refine Runs.cal rfl ((m_failFault n _ h s f).2 d hd rfl) ?_
    by_cases z2 : s (oD d 0) = 3
    · rw [if_pos z2, if_pos z2]
      refine Runs.go 3 rfl trivial ?_
      refine Runs.ifF (by decide) ?_
      refine Runs.go 1 rfl trivial ?_
      exact Runs.fin rfl trivial
    · rw [if_neg z2, if_neg z2]
      by_cases z3 : s (oD d 4) = 1
      · rw [if_pos z3, if_pos z3]
        refine Runs.go 3 rfl trivial ?_
        refine Runs.ifF (by decide) ?_
        refine Runs.go 1 rfl trivial ?_
        exact Runs.fin rfl trivial
      · rw [if_neg z3, if_neg z3]
        refine Runs.go 3 rfl trivial ?_
        refine Runs.ifT (by decide) ?_
        refine Runs.go 1 rfl trivial ?_
        refine Runs.calv rfl (m_know (n + 2) h s f ha ha4) ?_
        refine Runs.go 2 rfl trivial ?_
        refine Runs.cal rfl (m_plans (n + 1) d _ s f hd) ?_
        exact Runs.fin rfl trivial
