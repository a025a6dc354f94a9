/-! the reference's tick, as it is -/
def cc (s : Nat → Int32) : Nat := (s 93).toNatClampNeg
theorem cc_of {s : Nat → Int32} {c : Nat} (hc : s 93 = nI c) (h30 : c ≤ 30) : cc s = c := by
  unfold cc
  rw [hc, i_cl (by omega)]
def okC (s : Nat → Int32) : Prop := ∃ c, c ≤ 30 ∧ s 93 = nI c
theorem okC.cc {s : Nat → Int32} (h : okC s) : s 93 = nI (cc s) ∧ cc s ≤ 30 := by
  obtain ⟨c, h1, h2⟩ := h
  rw [cc_of h2 h1]
  exact ⟨h2, h1⟩
theorem okC.of {s s' : Nat → Int32} (h : okC s) (e : s' 93 = s 93) : okC s' := by
  obtain ⟨c, h1, h2⟩ := h
  exact ⟨c, h1, e.trans h2⟩
theorem oD_93 (d w : Nat) (hd : d < 12) (hw : w < 6) : (93 : Nat) ≠ oD d w := by unfold oD; omega
theorem oR_93 (k w : Nat) : (93 : Nat) ≠ oR k w := by unfold oR; omega
theorem mSb_93 (s : Nat → Int32) (d : Nat) (hd : d < 12) : mSb s d 93 = s 93 := by
  unfold mSb
  rw [upd_n _ _ (oD_93 d 3 hd (by decide)), upd_n _ _ (oD_93 d 1 hd (by decide)), upd_n _ _ (oD_93 d 0 hd (by decide))]
theorem mrm_93 (s : Nat → Int32) (p c : Nat) : mrm s p c 93 = nI (c - 1) := by
  unfold mrm msh
  rw [if_neg (by unfold oR; omega), upd_s]
theorem nI_m5 {k : Nat} (hk : k < 2 ^ 31) : ¬ nI k = -5 := by
  intro q
  have := nI_pos hk
  rw [q] at this
  exact this (by decide)
theorem vn0 : vp_nar .boolean 0 = 0 := rfl
theorem vn1 : vp_nar .boolean 1 = 1 := rfl
def coMB (c d : Nat) (s : Nat → Int32) : Nat → Int32 := if wi (s (oD d 0)) 1 2 = 0 then s else ban (mSb s d) d c
def coM (s : Nat → Int32) (c : Nat) : Nat → (Nat → Int32)
  | 0 => s
  | d + 1 => coMB c d (coM s c d)
theorem coM_93 (s : Nat → Int32) (c : Nat) : ∀ d, d ≤ 12 → coM s c d 93 = s 93 := by
  intro d
  induction d with
  | zero => intro _; rfl
  | succ d ih =>
    intro hd
    rw [show coM s c (d + 1) = coMB c d (coM s c d) from rfl]
    unfold coMB
    split
    · exact ih (by omega)
    · rw [ban_93, mSb_93 _ _ (by omega)]
      exact ih (by omega)
/-- all reads of a disk are lost -/
def brkN (d : Nat) : Nat → (Nat → Int32) → (Nat → Int32)
  | 0, s => s
  | n + 1, s => match mfst s (cc s) (nI d) with
    | none => s
    | some p => brkN d n (upd (mrm s p (cc s)) 14 (mrm s p (cc s) 14 + 1))
def endM (d : Nat) (q : (Nat → Int32) × (Nat → Int32)) : (Nat → Int32) × (Nat → Int32) := if q.1 (oD d 4) = 0 then (upd (upd (upd q.1 (oD d 0) 2) (oD d 2) 0) (oD d 3) 0, q.2) else (if mSb (upd (upd (upd q.1 (oD d 4) 0) (oD d 2) (q.1 (oD d 2) + 1)) 19 (q.1 19 + 1)) d (oD d 2) = 3 then brkN d 30 (upd (mSb (upd (upd (upd q.1 (oD d 4) 0) (oD d 2) (q.1 (oD d 2) + 1)) 19 (q.1 19 + 1)) d) (oD d 0) 3) else mSb (upd (upd (upd q.1 (oD d 4) 0) (oD d 2) (q.1 (oD d 2) + 1)) 19 (q.1 19 + 1)) d, upd q.2 d 1)
theorem brkN_ok (d : Nat) : ∀ (m : Nat) (g : Nat → Int32), okC g → okC (brkN d m g) := by
  intro m
  induction m with
  | zero => intro g hg; exact hg
  | succ m ih =>
    intro g hg
    unfold brkN
    split
    · exact hg
    · obtain ⟨g1, g2⟩ := hg.cc
      exact ih _ ⟨cc g - 1, by omega, by rw [upd_n _ _ (by decide), mrm_93]⟩
theorem endM_ok {d : Nat} (hd : d < 12) {q : (Nat → Int32) × (Nat → Int32)} (hk : okC q.1) : okC (endM d q).1 := by
  have h1 : okC (mSb (upd (upd (upd q.1 (oD d 4) 0) (oD d 2) (q.1 (oD d 2) + 1)) 19 (q.1 19 + 1)) d) := hk.of (by rw [mSb_93 _ _ hd, upd_n _ _ (by decide), upd_n _ _ (oD_93 d 2 hd (by decide)), upd_n _ _ (oD_93 d 4 hd (by decide))])
  unfold endM
  split
  · exact hk.of (by dsimp only; rw [upd_n _ _ (oD_93 d 3 hd (by decide)), upd_n _ _ (oD_93 d 2 hd (by decide)), upd_n _ _ (oD_93 d 0 hd (by decide))])
  · dsimp only
    split
    · exact brkN_ok _ _ _ (h1.of (by rw [upd_n _ _ (oD_93 d 0 hd (by decide))]))
    · exact h1
theorem oD_ne {d w d' w' : Nat} (hw : w < 6) (hw' : w' < 6) (h : d ≠ d' ∨ w ≠ w') : oD d w ≠ oD d' w' := by unfold oD; omega
theorem oD_19 (d w k : Nat) (hk : k < 21) : oD d w ≠ k := by unfold oD; omega
def stMB (d : Nat) (q : (Nat → Int32) × (Nat → Int32)) : (Nat → Int32) × (Nat → Int32) := if q.1 (oD d 0) = 1 then (if q.1 (oD d 1) - 1 = 0 then endM d (upd q.1 (oD d 1) (q.1 (oD d 1) - 1), upd q.2 d 0) else (upd q.1 (oD d 1) (q.1 (oD d 1) - 1), upd q.2 d 0)) else (q.1, upd q.2 d 0)
def stM (s f : Nat → Int32) : Nat → (Nat → Int32) × (Nat → Int32)
  | 0 => (s, f)
  | d + 1 => stMB d (stM s f d)
theorem stMB_ok {d : Nat} (hd : d < 12) {q : (Nat → Int32) × (Nat → Int32)} (hk : okC q.1) : okC (stMB d q).1 := by
  have h1 : okC (upd q.1 (oD d 1) (q.1 (oD d 1) - 1)) := hk.of (by rw [upd_n _ _ (oD_93 d 1 hd (by decide))])
  unfold stMB
  split
  · split
    · exact endM_ok hd h1
    · exact h1
  · exact hk
theorem stM_ok {s f : Nat → Int32} (hk : okC s) : ∀ d, d ≤ 12 → okC (stM s f d).1 := by
  intro d
  induction d with
  | zero => intro _; exact hk
  | succ d ih => intro hd; exact stMB_ok (by omega) (ih (by omega))
def rdM2 (s : Nat → Int32) (p : Nat) : Nat → Int32 := upd (upd s 13 (s 13 + 1)) 20 (s 20 + (s 10 + 1 - s (oR p 4)))
def rdMB (d : Nat) (s : Nat → Int32) : Nat → Int32 := if s (oD d 0) = 2 then (match mfst s (cc s) (nI d) with
  | some p => if s (oR p 3) - 1 = 0 then mrm (rdM2 (upd (upd s (oD d 3) 0) (oR p 3) (s (oR p 3) - 1)) p) p (cc s) else upd (upd s (oD d 3) 0) (oR p 3) (s (oR p 3) - 1)
  | none => if s 9 ≤ 0 then upd s (oD d 3) (s (oD d 3) + 1) else if s (oD d 3) + 1 < s 9 then upd s (oD d 3) (s (oD d 3) + 1) else mSb (upd s (oD d 3) (s (oD d 3) + 1)) d) else s
def rdM (s : Nat → Int32) : Nat → (Nat → Int32)
  | 0 => s
  | d + 1 => rdMB d (rdM s d)
theorem rdMB_ok {d : Nat} (hd : d < 12) {s : Nat → Int32} (hk : okC s) : okC (rdMB d s) := by
  have h1 : ∀ x, okC (upd s (oD d 3) x) := fun x => hk.of (by rw [upd_n _ _ (oD_93 d 3 hd (by decide))])
  unfold rdMB
  split
  · split
    · rename_i p hp
      obtain ⟨g1, g2⟩ := hk.cc
      split
      · exact ⟨cc s - 1, by omega, mrm_93 _ _ _⟩
      · exact (h1 0).of (by rw [upd_n _ _ (oR_93 p 3)])
    · split
      · exact h1 _
      · split
        · exact h1 _
        · exact (h1 _).of (mSb_93 _ _ hd)
  · exact hk
theorem rdM_ok {s : Nat → Int32} (hk : okC s) : ∀ d, d ≤ 12 → okC (rdM s d) := by
  intro d
  induction d with
  | zero => intro _; exact hk
  | succ d ih => intro hd; exact rdMB_ok (by omega) (ih (by omega))
def lom (h : Nat → Option Nat) : Nat → Option DV
  | 0 => none
  | k + 1 => some (.inl (oI (-5) (h k)))
theorem oR_oD {k w d w' : Nat} (hd : d < 12) (hw' : w' < 6) : oR k w ≠ oD d w' := by unfold oR oD; omega
theorem oR_lt (k w m : Nat) (hm : m < 94) : oR k w ≠ m := by unfold oR; omega
