/-! the reference's small methods, over its row s and its marks f of failed starts -/
theorem tc0 : Int32.toNatClampNeg 0 = 0 := by decide
theorem tc1 : Int32.toNatClampNeg 1 = 1 := by decide
theorem tc2 : Int32.toNatClampNeg 2 = 2 := by decide
theorem tc3 : Int32.toNatClampNeg 3 = 3 := by decide
theorem tc4 : Int32.toNatClampNeg 4 = 4 := by decide
theorem tc5 : Int32.toNatClampNeg 5 = 5 := by decide
theorem tc6 : Int32.toNatClampNeg 6 = 6 := by decide
theorem tc7 : Int32.toNatClampNeg 7 = 7 := by decide
theorem tc8 : Int32.toNatClampNeg 8 = 8 := by decide
theorem tc9 : Int32.toNatClampNeg 9 = 9 := by decide
theorem tc10 : Int32.toNatClampNeg 10 = 10 := by decide
theorem tc11 : Int32.toNatClampNeg 11 = 11 := by decide
theorem tc12 : Int32.toNatClampNeg 12 = 12 := by decide
theorem tc13 : Int32.toNatClampNeg 13 = 13 := by decide
theorem tc14 : Int32.toNatClampNeg 14 = 14 := by decide
theorem tc15 : Int32.toNatClampNeg 15 = 15 := by decide
theorem tc16 : Int32.toNatClampNeg 16 = 16 := by decide
theorem tc17 : Int32.toNatClampNeg 17 = 17 := by decide
theorem tc18 : Int32.toNatClampNeg 18 = 18 := by decide
theorem tc19 : Int32.toNatClampNeg 19 = 19 := by decide
theorem tc20 : Int32.toNatClampNeg 20 = 20 := by decide
theorem tc93 : Int32.toNatClampNeg 93 = 93 := by decide
def hp (h : DH) (s f : Nat → Int32) : DH := (fun q => if q = (15, 0, 0) then s else if q = (20, 0, 0) then f else h.1 q, h.2)
theorem hp_s (h : DH) (s f : Nat → Int32) : (hp h s f).1 (15, 0, 0) = s := by simp [hp]
theorem hp_f (h : DH) (s f : Nat → Int32) : (hp h s f).1 (20, 0, 0) = f := by simp [hp]
theorem hp_o (h : DH) (s f : Nat → Int32) : (hp h s f).2 = h.2 := rfl
theorem hp_ne (h : DH) (s f : Nat → Int32) {q : DKey} (h1 : q ≠ (15, 0, 0)) (h2 : q ≠ (20, 0, 0)) : (hp h s f).1 q = h.1 q := by simp [hp, h1, h2]
theorem hp_up (h : DH) (s f : Nat → Int32) (k : Nat) (x : Int32) : up1 (hp h s f) (15, 0, 0) k x = hp h (upd s k x) f := by
  refine Prod.ext ?_ rfl
  funext q j
  by_cases hq : q = (15, 0, 0)
  · subst hq
    simp [up1, hp, upd]
  · simp [up1, hp, hq]
theorem hp_fu (h : DH) (s f : Nat → Int32) (k : Nat) (x : Int32) : up1 (hp h s f) (20, 0, 0) k x = hp h s (upd f k x) := by
  refine Prod.ext ?_ rfl
  funext q j
  by_cases hq : q = (20, 0, 0)
  · subst hq
    simp [up1, hp, upd]
  · simp [up1, hp, hq]
theorem hp_id (h : DH) : hp h (h.1 (15, 0, 0)) (h.1 (20, 0, 0)) = h := by
  refine Prod.ext ?_ rfl
  funext q
  by_cases h1 : q = (15, 0, 0)
  · subst h1; simp [hp]
  · by_cases h2 : q = (20, 0, 0)
    · subst h2; simp [hp]
    · simp [hp, h1, h2]
theorem hp_hp (h : DH) (s f s' f' : Nat → Int32) : hp (hp h s f) s' f' = hp h s' f' := by
  refine Prod.ext ?_ rfl
  funext q
  simp only [hp]
  split
  · rfl
  · split <;> rfl
theorem upd_s (f : Nat → Int32) (k : Nat) (x : Int32) : upd f k x k = x := pk_us
theorem upd_n (f : Nat → Int32) {k j : Nat} (x : Int32) (h : j ≠ k) : upd f k x j = f j := pk_un h
def oD (d w : Nat) : Nat := 21 + 6 * d + w
def oR (k w : Nat) : Nat := 94 + 5 * k + w
theorem oD_cl {d w : Nat} (hd : d < 12) (hw : w < 6) : (nI (oD d w)).toNatClampNeg = oD d w := nI_clamp (by unfold oD; omega)
theorem oD_in {d w : Nat} (hd : d < 12) (hw : w < 6) : vp_in (nI (oD d w)) 244 := vp_in_nI (by unfold oD; omega) (by decide)
theorem oR_cl {k w : Nat} (hk : k < 30) (hw : w < 5) : (nI (oR k w)).toNatClampNeg = oR k w := nI_clamp (by unfold oR; omega)
theorem oR_in {k w : Nat} (hk : k < 30) (hw : w < 5) : vp_in (nI (oR k w)) 244 := vp_in_nI (by unfold oR; omega) (by decide)
theorem m_in (n : Nat) (x lo hi : Int32) (h : DH) : dEx (n + 1) 88 [.inl x, .inl lo, .inl hi] h (some (.inl (wi x lo hi)), h) := by
  refine dx_88 ?_
  unfold wi
  refine Runs.go 3 rfl trivial ?_
  refine Runs.ifS (fun c => ?_) (fun c => ?_)
  · rw [if_pos c]
    refine Runs.go 1 rfl trivial ?_
    exact Runs.fin rfl (Or.inl rfl)
  · rw [if_neg c]
    refine Runs.go 3 rfl trivial ?_
    refine Runs.ifS (fun c => ?_) (fun c => ?_)
    · rw [if_pos c]
      refine Runs.go 1 rfl trivial ?_
      exact Runs.fin rfl (Or.inl rfl)
    · rw [if_neg c]
      refine Runs.go 2 rfl trivial ?_
      exact Runs.fin rfl (Or.inr rfl)
theorem m_isDisk (n : Nat) (x : Int32) (h : DH) : dEx (n + 2) 93 [.inl x] h (some (.inl (wi x 0 11)), h) := by
  refine dx_93 ?_
  refine Runs.go 3 rfl trivial ?_
  refine Runs.cal rfl (m_in n _ _ _ h) ?_
  exact Runs.fin rfl (wi_01 _ _ _)
theorem m_of (n d w : Nat) (h : DH) : dEx (n + 1) 94 [.inl (nI d), .inl (nI w)] h (some (.inl (nI (oD d w))), h) := by
  refine dx_94 ?_
  refine Runs.go 7 rfl trivial ?_
  refine Runs.fin ?_ trivial
  have e : (21 : Int32) + 6 * nI d + nI w = nI (oD d w) := by
    rw [show (21 : Int32) = nI 21 from rfl, show (6 : Int32) = nI 6 from rfl, pk_mul, nI_add, nI_add]
    rfl
  rw [← e]
  rfl
theorem m_ofRead (n k w : Nat) (h : DH) : dEx (n + 1) 96 [.inl (nI k), .inl (nI w)] h (some (.inl (nI (oR k w))), h) := by
  refine dx_96 ?_
  refine Runs.go 7 rfl trivial ?_
  refine Runs.fin ?_ trivial
  have e : (94 : Int32) + 5 * nI k + nI w = nI (oR k w) := by
    rw [show (94 : Int32) = nI 94 from rfl, show (5 : Int32) = nI 5 from rfl, pk_mul, nI_add, nI_add]
    rfl
  rw [← e]
  rfl
def mplc (s : Nat → Int32) (c : Nat) (x : Int32) : Option Nat := fp (fun k => decide (s (oR k 0) = x)) c
def mfst (s : Nat → Int32) (c : Nat) (x : Int32) : Option Nat := fp (fun k => decide (s (oR k 1) = x)) c
theorem m_placeOf (n : Nat) (x : Int32) (h : DH) (s f : Nat → Int32) {c : Nat} (hc : s 93 = nI c) (h30 : c ≤ 30) : dEx (n + 2) 98 [.inr (14, 0, 0), .inl x] (hp h s f) (some (.inl (oI (-5) (mplc s c x))), hp h s f) := by
  refine dx_98 ?_
  refine Runs.go 2 rfl trivial ?_
  refine Runs.loopP c (fun k => (2, [some (.inr (14, 0, 0)), some (.inl x), some (.inl (nI k))], [], hp h s f)) (fun k => ∀ j, j < k → decide (s (oR j 0) = x) = false) (fun j hj => by omega) (fun k hk hq ih => ?_) (fun hq => ?_)
  · refine Runs.go 6 rfl ⟨trivial, (by unfold vp_in; decide)⟩ ?_
    simp only [hp_s, hp_f, hp_o, hp_up, hp_fu, tc0, tc1, tc2, tc3, tc4, tc5, tc6, tc7, tc8, tc9, tc10, tc11, tc12, tc13, tc14, tc15, tc16, tc17, tc18, tc19, tc20, tc93, hc]
    refine Runs.ifF (i_ge hk (by omega)) ?_
    refine Runs.go 4 rfl trivial ?_
    refine Runs.cal rfl (m_ofRead n k 0 _) ?_
    refine Runs.go 3 rfl ⟨trivial, (oR_in (show k < 30 by omega) (by decide))⟩ ?_
    simp only [hp_s, hp_f, hp_o, hp_up, hp_fu, tc0, tc1, tc2, tc3, tc4, tc5, tc6, tc7, tc8, tc9, tc10, tc11, tc12, tc13, tc14, tc15, tc16, tc17, tc18, tc19, tc20, tc93, oR_cl (show k < 30 by omega) (show 0 < 5 by decide)]
    refine Runs.ifS (fun z => ?_) (fun z => ?_)
    · refine Runs.go 1 rfl trivial ?_
      refine Runs.fin ?_ trivial
      rw [show mplc s c x = some k from fp_of hk (by simpa using z) hq]
      rfl
    · refine Runs.go 2 rfl trivial ?_
      rw [nI_1]
      refine ih (fun j hj => ?_)
      rcases Nat.lt_succ_iff_lt_or_eq.mp hj with hj | rfl
      · exact hq j hj
      · simpa using z
  · refine Runs.go 6 rfl ⟨trivial, (by unfold vp_in; decide)⟩ ?_
    simp only [hp_s, hp_f, hp_o, hp_up, hp_fu, tc0, tc1, tc2, tc3, tc4, tc5, tc6, tc7, tc8, tc9, tc10, tc11, tc12, tc13, tc14, tc15, tc16, tc17, tc18, tc19, tc20, tc93, hc]
    refine Runs.ifT (Int32.le_refl _) ?_
    refine Runs.go 1 rfl trivial ?_
    refine Runs.fin ?_ trivial
    rw [show mplc s c x = none from fp_nof hq]
    rfl
theorem m_firstOf (n : Nat) (x : Int32) (h : DH) (s f : Nat → Int32) {c : Nat} (hc : s 93 = nI c) (h30 : c ≤ 30) : dEx (n + 2) 109 [.inr (14, 0, 0), .inl x] (hp h s f) (some (.inl (oI (-5) (mfst s c x))), hp h s f) := by
  refine dx_109 ?_
  refine Runs.go 2 rfl trivial ?_
  refine Runs.loopP c (fun k => (2, [some (.inr (14, 0, 0)), some (.inl x), some (.inl (nI k))], [], hp h s f)) (fun k => ∀ j, j < k → decide (s (oR j 1) = x) = false) (fun j hj => by omega) (fun k hk hq ih => ?_) (fun hq => ?_)
  · refine Runs.go 6 rfl ⟨trivial, (by unfold vp_in; decide)⟩ ?_
    simp only [hp_s, hp_f, hp_o, hp_up, hp_fu, tc0, tc1, tc2, tc3, tc4, tc5, tc6, tc7, tc8, tc9, tc10, tc11, tc12, tc13, tc14, tc15, tc16, tc17, tc18, tc19, tc20, tc93, hc]
    refine Runs.ifF (i_ge hk (by omega)) ?_
    refine Runs.go 4 rfl trivial ?_
    refine Runs.cal rfl (m_ofRead n k 1 _) ?_
    refine Runs.go 3 rfl ⟨trivial, (oR_in (show k < 30 by omega) (by decide))⟩ ?_
    simp only [hp_s, hp_f, hp_o, hp_up, hp_fu, tc0, tc1, tc2, tc3, tc4, tc5, tc6, tc7, tc8, tc9, tc10, tc11, tc12, tc13, tc14, tc15, tc16, tc17, tc18, tc19, tc20, tc93, oR_cl (show k < 30 by omega) (show 1 < 5 by decide)]
    refine Runs.ifS (fun z => ?_) (fun z => ?_)
    · refine Runs.go 1 rfl trivial ?_
      refine Runs.fin ?_ trivial
      rw [show mfst s c x = some k from fp_of hk (by simpa using z) hq]
      rfl
    · refine Runs.go 2 rfl trivial ?_
      rw [nI_1]
      refine ih (fun j hj => ?_)
      rcases Nat.lt_succ_iff_lt_or_eq.mp hj with hj | rfl
      · exact hq j hj
      · simpa using z
  · refine Runs.go 6 rfl ⟨trivial, (by unfold vp_in; decide)⟩ ?_
    simp only [hp_s, hp_f, hp_o, hp_up, hp_fu, tc0, tc1, tc2, tc3, tc4, tc5, tc6, tc7, tc8, tc9, tc10, tc11, tc12, tc13, tc14, tc15, tc16, tc17, tc18, tc19, tc20, tc93, hc]
    refine Runs.ifT (Int32.le_refl _) ?_
    refine Runs.go 1 rfl trivial ?_
    refine Runs.fin ?_ trivial
    rw [show mfst s c x = none from fp_nof hq]
    rfl
/-- a read is taken out: the rows behind it move up -/
def msh (s : Nat → Int32) (a j : Nat) : Nat → Int32 := fun k => if a ≤ k ∧ k < j then s (k + 5) else s k
theorem msh_0 (s : Nat → Int32) (a : Nat) : msh s a a = s := by
  funext k
  unfold msh
  rw [if_neg (by omega)]
theorem msh_s (s : Nat → Int32) {a j : Nat} (h : a ≤ j) : upd (msh s a j) j (msh s a j (j + 5)) = msh s a (j + 1) := by
  funext k
  unfold upd msh
  by_cases hk : k = j
  · subst hk
    rw [if_pos rfl, if_neg (by omega), if_pos (by omega)]
  · rw [if_neg hk]
    by_cases h1 : a ≤ k ∧ k < j
    · rw [if_pos h1, if_pos (by omega)]
    · rw [if_neg h1, if_neg (by omega)]
def mrm (s : Nat → Int32) (p c : Nat) : Nat → Int32 := msh (upd s 93 (nI (c - 1))) (oR p 0) (oR (c - 1) 0)
theorem m_remove (n p : Nat) (h : DH) (s f : Nat → Int32) {c : Nat} (hc : s 93 = nI c) (h30 : c ≤ 30) (hp0 : p < c) : dEx (n + 2) 99 [.inr (14, 0, 0), .inl (nI p)] (hp h s f) (none, hp h (mrm s p c) f) := by
  refine dx_99 ?_
  generalize hr : ((none : Option DV), hp h (mrm s p c) f) = r
  refine Runs.go 10 rfl ⟨⟨trivial, (by unfold vp_in; decide)⟩, (by unfold vp_in; decide)⟩ ?_
  simp only [hp_s, hp_f, hp_o, hp_up, hp_fu, tc0, tc1, tc2, tc3, tc4, tc5, tc6, tc7, tc8, tc9, tc10, tc11, tc12, tc13, tc14, tc15, tc16, tc17, tc18, tc19, tc20, tc93, hc]
  have e1 : nI c - 1 = nI (c - 1) := by rw [show (1 : Int32) = nI 1 from rfl, pk_sub (by omega)]
  rw [e1]
  refine Runs.cal rfl (m_ofRead n p 0 _) ?_
  refine Runs.go 1 rfl trivial ?_
  generalize hs1 : upd s 93 (nI (c - 1)) = s1
  have h93 : ∀ j, msh s1 (oR p 0) j 93 = nI (c - 1) := fun j => by
    unfold msh
    rw [if_neg (by unfold oR; omega), ← hs1, upd_s]
  have st : Runs dT_99 (dEx (n + 1)) (17, [some (.inr (14, 0, 0)), some (.inl (nI p)), some (.inl (nI (oR p 0 + 0)))], [], hp h (msh s1 (oR p 0) (oR p 0 + 0)) f) r := by
    refine Runs.loop (oR (c - 1) 0 - oR p 0) (fun k => (17, [some (.inr (14, 0, 0)), some (.inl (nI p)), some (.inl (nI (oR p 0 + k)))], [], hp h (msh s1 (oR p 0) (oR p 0 + k)) f)) (fun k hk ih => ?_) ?_
    · refine Runs.go 6 rfl ⟨trivial, (by unfold vp_in; decide)⟩ ?_
      simp only [hp_s, hp_f, hp_o, hp_up, hp_fu, tc0, tc1, tc2, tc3, tc4, tc5, tc6, tc7, tc8, tc9, tc10, tc11, tc12, tc13, tc14, tc15, tc16, tc17, tc18, tc19, tc20, tc93, h93]
      refine Runs.cal rfl (m_ofRead n (c - 1) 0 _) ?_
      refine Runs.go 1 rfl trivial ?_
      have hb : oR p 0 + k < oR (c - 1) 0 := by omega
      have hb2 : oR p 0 + k + 5 < 244 := by unfold oR at hb ⊢; omega
      refine Runs.ifF (nI_ge hb (by unfold oR; omega)) ?_
      have e2 : nI (oR p 0 + k) + 5 = nI (oR p 0 + k + 5) := by rw [show (5 : Int32) = nI 5 from rfl, nI_add]
      refine Runs.go 12 rfl ⟨⟨trivial, (by rw [e2]; exact i_in hb2 (by decide))⟩, (i_in (show oR p 0 + k < 244 by omega) (by decide))⟩ ?_
      rw [e2, nI_1]
      simp only [hp_s, hp_f, hp_o, hp_up, hp_fu, tc0, tc1, tc2, tc3, tc4, tc5, tc6, tc7, tc8, tc9, tc10, tc11, tc12, tc13, tc14, tc15, tc16, tc17, tc18, tc19, tc20, tc93, i_cl (show oR p 0 + k < 2 ^ 31 by omega), i_cl (show oR p 0 + k + 5 < 2 ^ 31 by omega), msh_s s1 (show oR p 0 ≤ oR p 0 + k by omega)]
      exact ih
    · refine Runs.go 6 rfl ⟨trivial, (by unfold vp_in; decide)⟩ ?_
      simp only [hp_s, hp_f, hp_o, hp_up, hp_fu, tc0, tc1, tc2, tc3, tc4, tc5, tc6, tc7, tc8, tc9, tc10, tc11, tc12, tc13, tc14, tc15, tc16, tc17, tc18, tc19, tc20, tc93, h93]
      refine Runs.cal rfl (m_ofRead n (c - 1) 0 _) ?_
      refine Runs.go 1 rfl trivial ?_
      rw [show oR p 0 + (oR (c - 1) 0 - oR p 0) = oR (c - 1) 0 by unfold oR; omega]
      refine Runs.ifT (Int32.le_refl _) ?_
      refine Runs.fin ?_ trivial
      rw [← hr, ← hs1]
      rfl
  simp only [Nat.add_zero, msh_0] at st
  exact st
def mahd (s : Nat → Int32) (x : Int32) (k : Nat) : Int32 := sumN (fun j => if s (oR j 1) = x then 1 else 0) k
/-- the reads of a disk begin anew -/
def baB (s : Nat → Int32) (d k : Nat) : Nat → Int32 := upd s (oR k 3) (if s (oR k 1) = nI d then s (oR k 2) else s (oR k 3))
def ban (s : Nat → Int32) (d : Nat) : Nat → (Nat → Int32)
  | 0 => s
  | k + 1 => baB (ban s d k) d k
theorem ban_93 (s : Nat → Int32) (d k : Nat) : ban s d k 93 = s 93 := by
  induction k with
  | zero => rfl
  | succ k ih =>
    show upd _ _ _ 93 = s 93
    rw [upd_n _ _ (by unfold oR; omega)]
    exact ih
theorem m_beginAnew (n d : Nat) (h : DH) (s f : Nat → Int32) {c : Nat} (hc : s 93 = nI c) (h30 : c ≤ 30) : dEx (n + 2) 104 [.inr (14, 0, 0), .inl (nI d)] (hp h s f) (none, hp h (ban s d c) f) := by
  refine dx_104 ?_
  generalize hr : ((none : Option DV), hp h (ban s d c) f) = r
  refine Runs.go 2 rfl trivial ?_
  refine Runs.loop c (fun k => (2, [some (.inr (14, 0, 0)), some (.inl (nI d)), some (.inl (nI k))], [], hp h (ban s d k) f)) (fun k hk ih => ?_) ?_
  · refine Runs.go 6 rfl ⟨trivial, (by unfold vp_in; decide)⟩ ?_
    simp only [hp_s, hp_f, hp_o, hp_up, hp_fu, tc0, tc1, tc2, tc3, tc4, tc5, tc6, tc7, tc8, tc9, tc10, tc11, tc12, tc13, tc14, tc15, tc16, tc17, tc18, tc19, tc20, tc93, ban_93, hc]
    refine Runs.ifF (i_ge hk (by omega)) ?_
    have k30 : k < 30 := by omega
    rw [show ban s d (k + 1) = baB (ban s d k) d k from rfl] at ih
    generalize ban s d k = g at ih ⊢
    unfold baB at ih
    refine Runs.go 4 rfl trivial ?_
    refine Runs.cal rfl (m_ofRead n k 3 _) ?_
    refine Runs.go 4 rfl trivial ?_
    refine Runs.cal rfl (m_ofRead n k 1 _) ?_
    refine Runs.go 3 rfl ⟨trivial, (oR_in k30 (by decide))⟩ ?_
    simp only [hp_s, hp_f, hp_o, hp_up, hp_fu, tc0, tc1, tc2, tc3, tc4, tc5, tc6, tc7, tc8, tc9, tc10, tc11, tc12, tc13, tc14, tc15, tc16, tc17, tc18, tc19, tc20, tc93, oR_cl k30 (show 1 < 5 by decide)]
    refine Runs.ifS (fun z => ?_) (fun z => ?_)
    · rw [if_pos z] at ih
      refine Runs.go 4 rfl trivial ?_
      refine Runs.cal rfl (m_ofRead n k 2 _) ?_
      refine Runs.go 5 rfl ⟨⟨trivial, (oR_in k30 (by decide))⟩, (oR_in k30 (by decide))⟩ ?_
      rw [nI_1]
      simp only [hp_s, hp_f, hp_o, hp_up, hp_fu, tc0, tc1, tc2, tc3, tc4, tc5, tc6, tc7, tc8, tc9, tc10, tc11, tc12, tc13, tc14, tc15, tc16, tc17, tc18, tc19, tc20, tc93, oR_cl k30 (show 2 < 5 by decide), oR_cl k30 (show 3 < 5 by decide)]
      exact ih
    · rw [if_neg z] at ih
      refine Runs.go 4 rfl trivial ?_
      refine Runs.cal rfl (m_ofRead n k 3 _) ?_
      refine Runs.go 4 rfl ⟨⟨trivial, (oR_in k30 (by decide))⟩, (oR_in k30 (by decide))⟩ ?_
      rw [nI_1]
      simp only [hp_s, hp_f, hp_o, hp_up, hp_fu, tc0, tc1, tc2, tc3, tc4, tc5, tc6, tc7, tc8, tc9, tc10, tc11, tc12, tc13, tc14, tc15, tc16, tc17, tc18, tc19, tc20, tc93, oR_cl k30 (show 3 < 5 by decide)]
      exact ih
  · refine Runs.go 6 rfl ⟨trivial, (by unfold vp_in; decide)⟩ ?_
    simp only [hp_s, hp_f, hp_o, hp_up, hp_fu, tc0, tc1, tc2, tc3, tc4, tc5, tc6, tc7, tc8, tc9, tc10, tc11, tc12, tc13, tc14, tc15, tc16, tc17, tc18, tc19, tc20, tc93, ban_93, hc]
    refine Runs.ifT (Int32.le_refl _) ?_
    exact Runs.fin (by rw [← hr]; rfl) trivial
def mcur (s : Nat → Int32) (c d : Nat) : Int32 := if s (oD d 0) = 0 then s 4 else if s (oD d 0) = 1 then s 1 else if s (oD d 0) = 3 then 0 else s 2 + (match mfst s c (nI d) with | none => 0 | some _ => s 3)
theorem m_currentOf (n d : Nat) (h : DH) (s f : Nat → Int32) {c : Nat} (hc : s 93 = nI c) (h30 : c ≤ 30) (hd : d < 12) : dEx (n + 3) 108 [.inr (14, 0, 0), .inl (nI d)] (hp h s f) (some (.inl (mcur s c d)), hp h s f) := by
  refine dx_108 ?_
  refine Runs.go 4 rfl trivial ?_
  refine Runs.cal rfl (m_of (n + 1) d 0 _) ?_
  unfold mcur
  refine Runs.go 4 rfl ⟨trivial, (oD_in hd (by decide))⟩ ?_
  simp only [hp_s, hp_f, hp_o, hp_up, hp_fu, tc0, tc1, tc2, tc3, tc4, tc5, tc6, tc7, tc8, tc9, tc10, tc11, tc12, tc13, tc14, tc15, tc16, tc17, tc18, tc19, tc20, tc93, oD_cl hd (show 0 < 6 by decide)]
  refine Runs.ifS (fun z => ?_) (fun z => ?_)
  · rw [if_pos z]
    refine Runs.go 5 rfl ⟨trivial, (by unfold vp_in; decide)⟩ ?_
    simp only [hp_s, hp_f, hp_o, hp_up, hp_fu, tc0, tc1, tc2, tc3, tc4, tc5, tc6, tc7, tc8, tc9, tc10, tc11, tc12, tc13, tc14, tc15, tc16, tc17, tc18, tc19, tc20, tc93]
    exact Runs.fin rfl trivial
  · rw [if_neg z]
    refine Runs.go 3 rfl trivial ?_
    refine Runs.ifS (fun z1 => ?_) (fun z1 => ?_)
    · rw [if_pos z1]
      refine Runs.go 5 rfl ⟨trivial, (by unfold vp_in; decide)⟩ ?_
      simp only [hp_s, hp_f, hp_o, hp_up, hp_fu, tc0, tc1, tc2, tc3, tc4, tc5, tc6, tc7, tc8, tc9, tc10, tc11, tc12, tc13, tc14, tc15, tc16, tc17, tc18, tc19, tc20, tc93]
      exact Runs.fin rfl trivial
    · rw [if_neg z1]
      refine Runs.go 3 rfl trivial ?_
      refine Runs.ifS (fun z3 => ?_) (fun z3 => ?_)
      · rw [if_pos z3]
        refine Runs.go 2 rfl trivial ?_
        exact Runs.fin rfl trivial
      · rw [if_neg z3]
        refine Runs.go 6 rfl ⟨trivial, (by unfold vp_in; decide)⟩ ?_
        simp only [hp_s, hp_f, hp_o, hp_up, hp_fu, tc0, tc1, tc2, tc3, tc4, tc5, tc6, tc7, tc8, tc9, tc10, tc11, tc12, tc13, tc14, tc15, tc16, tc17, tc18, tc19, tc20, tc93]
        refine Runs.cal rfl (m_firstOf n _ h s f hc h30) ?_
        cases hm : mfst s c (nI d) with
        | none =>
          refine Runs.go 2 rfl trivial ?_
          refine Runs.ifT rfl ?_
          refine Runs.go 3 rfl trivial ?_
          exact Runs.fin rfl trivial
        | some k =>
          have hk := (fp_some hm).1
          refine Runs.go 2 rfl trivial ?_
          refine Runs.ifF (by
            intro q
            have := nI_pos (n := k) (by omega)
            rw [show nI k = -5 from q] at this
            exact this (by decide)) ?_
          refine Runs.go 5 rfl ⟨trivial, (by unfold vp_in; decide)⟩ ?_
          exact Runs.fin (by simp only [hp_s, tc3]; rfl) trivial
def mcurN (s : Nat → Int32) (c : Nat) : Int32 := sumN (mcur s c) 12
theorem m_current (n : Nat) (h : DH) (s f : Nat → Int32) {c : Nat} (hc : s 93 = nI c) (h30 : c ≤ 30) : dEx (n + 4) 107 [.inr (14, 0, 0)] (hp h s f) (some (.inl (mcurN s c)), hp h s f) := by
  refine dx_107 ?_
  refine Runs.go 4 rfl trivial ?_
  refine Runs.loop 12 (fun k => (4, [some (.inr (14, 0, 0)), some (.inl (sumN (mcur s c) k)), some (.inl (nI k))], [], hp h s f)) (fun k hk ih => ?_) ?_
  · refine Runs.go 3 rfl trivial ?_
    refine Runs.ifF (i_ge hk (by decide)) ?_
    refine Runs.go 3 rfl trivial ?_
    refine Runs.cal rfl (m_currentOf n k h s f hc h30 hk) ?_
    refine Runs.go 4 rfl trivial ?_
    rw [nI_1]
    exact ih
  · refine Runs.go 3 rfl trivial ?_
    refine Runs.ifT (Int32.le_refl _) ?_
    refine Runs.go 1 rfl trivial ?_
    exact Runs.fin rfl trivial
def mthat (s : Nat → Int32) (x : Int32) : Int32 := sumN (fun d => if s (oD d 0) = x then 1 else 0) 12
theorem m_doing (n : Nat) (x : Int32) (h : DH) (s f : Nat → Int32) : dEx (n + 2) 121 [.inr (14, 0, 0), .inl x] (hp h s f) (some (.inl (mthat s x)), hp h s f) := by
  refine dx_121 ?_
  refine Runs.go 4 rfl trivial ?_
  refine Runs.loop 12 (fun k => (4, [some (.inr (14, 0, 0)), some (.inl x), some (.inl (sumN (fun d => if s (oD d 0) = x then 1 else 0) k)), some (.inl (nI k))], [], hp h s f)) (fun k hk ih => ?_) ?_
  · refine Runs.go 3 rfl trivial ?_
    refine Runs.ifF (i_ge hk (by decide)) ?_
    rw [show sumN (fun d => if s (oD d 0) = x then 1 else 0) (k + 1) = sumN (fun d => if s (oD d 0) = x then 1 else 0) k + (if s (oD k 0) = x then 1 else 0) from rfl] at ih
    refine Runs.go 5 rfl trivial ?_
    refine Runs.cal rfl (m_of n k 0 _) ?_
    refine Runs.go 3 rfl ⟨trivial, (oD_in hk (by decide))⟩ ?_
    simp only [hp_s, hp_f, hp_o, hp_up, hp_fu, tc0, tc1, tc2, tc3, tc4, tc5, tc6, tc7, tc8, tc9, tc10, tc11, tc12, tc13, tc14, tc15, tc16, tc17, tc18, tc19, tc20, tc93, oD_cl hk (show 0 < 6 by decide)]
    refine Runs.ifS (fun z => ?_) (fun z => ?_)
    · rw [if_pos z] at ih
      refine Runs.go 6 rfl trivial ?_
      rw [nI_1]
      exact ih
    · rw [if_neg z] at ih
      refine Runs.go 5 rfl trivial ?_
      rw [nI_1]
      exact ih
  · refine Runs.go 3 rfl trivial ?_
    refine Runs.ifT (Int32.le_refl _) ?_
    refine Runs.go 1 rfl trivial ?_
    exact Runs.fin rfl trivial
def mSb (s : Nat → Int32) (d : Nat) : Nat → Int32 := upd (upd (upd s (oD d 0) 0) (oD d 1) 0) (oD d 3) 0
theorem m_standBy (n d : Nat) (h : DH) (s f : Nat → Int32) (hd : d < 12) : dEx (n + 2) 115 [.inr (14, 0, 0), .inl (nI d)] (hp h s f) (none, hp h (mSb s d) f) := by
  refine dx_115 ?_
  refine Runs.go 4 rfl trivial ?_
  refine Runs.cal rfl (m_of n d 0 _) ?_
  refine Runs.go 6 rfl ⟨trivial, (oD_in hd (by decide))⟩ ?_
  simp only [hp_s, hp_f, hp_o, hp_up, hp_fu, tc0, tc1, tc2, tc3, tc4, tc5, tc6, tc7, tc8, tc9, tc10, tc11, tc12, tc13, tc14, tc15, tc16, tc17, tc18, tc19, tc20, tc93, oD_cl hd (show 0 < 6 by decide)]
  refine Runs.cal rfl (m_of n d 1 _) ?_
  refine Runs.go 6 rfl ⟨trivial, (oD_in hd (by decide))⟩ ?_
  simp only [hp_s, hp_f, hp_o, hp_up, hp_fu, tc0, tc1, tc2, tc3, tc4, tc5, tc6, tc7, tc8, tc9, tc10, tc11, tc12, tc13, tc14, tc15, tc16, tc17, tc18, tc19, tc20, tc93, oD_cl hd (show 1 < 6 by decide)]
  refine Runs.cal rfl (m_of n d 3 _) ?_
  refine Runs.go 2 rfl ⟨trivial, (oD_in hd (by decide))⟩ ?_
  simp only [hp_s, hp_f, hp_o, hp_up, hp_fu, tc0, tc1, tc2, tc3, tc4, tc5, tc6, tc7, tc8, tc9, tc10, tc11, tc12, tc13, tc14, tc15, tc16, tc17, tc18, tc19, tc20, tc93, oD_cl hd (show 3 < 6 by decide)]
  exact Runs.fin rfl trivial
