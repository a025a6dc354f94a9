/-! the reference's tick, the rest -/
def nsMB (f : Nat → Int32) (d : Nat) (s : Nat → Int32) : Nat → Int32 := if s (oD d 0) = 0 ∧ f d = 0 ∧ mfst s (cc s) (nI d) ≠ none ∧ ¬ s 8 ≤ mthat s 1 ∧ ¬ s 5 < mcurN s (cc s) - s 4 + s 1 then upd (upd (upd (upd s (oD d 0) 1) (oD d 1) (s 0)) (oD d 5) (s (oD d 5) + 1)) 18 (s 18 + 1) else s
def nsM (s f : Nat → Int32) : Nat → (Nat → Int32)
  | 0 => s
  | d + 1 => nsMB f d (nsM s f d)
theorem nsMB_ok {f : Nat → Int32} {d : Nat} (hd : d < 12) {s : Nat → Int32} (hk : okC s) : okC (nsMB f d s) := by
  unfold nsMB
  split
  · exact hk.of (by rw [upd_n _ _ (by decide), upd_n _ _ (oD_93 d 5 hd (by decide)), upd_n _ _ (oD_93 d 1 hd (by decide)), upd_n _ _ (oD_93 d 0 hd (by decide))])
  · exact hk
theorem nsM_ok {s f : Nat → Int32} (hk : okC s) : ∀ d, d ≤ 12 → okC (nsM s f d) := by
  intro d
  induction d with
  | zero => intro _; exact hk
  | succ d ih => intro hd; exact nsMB_ok (by omega) (ih (by omega))
def lonm (h : Nat → Int32) : Nat → Option DV
  | 0 => none
  | k + 1 => some (.inl (h k))
def nsw (s f : Nat → Int32) (d : Nat) : Int32 := if s (oD d 0) = 0 ∧ f d = 0 ∧ mfst s (cc s) (nI d) ≠ none then 1 else 0
def blM (s : Nat → Int32) : Nat → Int32 := upd (upd (upd s 15 1) 17 (s 17 + 1)) 16 0
/-- the fuse, behind a tick: c is the current -/
def fuM (s : Nat → Int32) (c : Int32) : Nat → Int32 := if s 15 = 1 then s else if s 5 + s 6 < c then blM s else if s 5 < c then (if s 7 < s 16 + 1 then blM (upd s 16 (s 16 + 1)) else upd s 16 (s 16 + 1)) else upd s 16 0
def tkM (s f : Nat → Int32) : (Nat → Int32) × (Nat → Int32) := if s 15 = 1 then (coM s (cc s) 12, f) else (nsM (rdM (stM s f 12).1 12) (stM s f 12).2 12, (stM s f 12).2)
def tkM2 (s : Nat → Int32) : Nat → Int32 := fuM (upd (upd s 10 (s 10 + 1)) 11 (mx (s 11) (mcurN (upd s 10 (s 10 + 1)) (cc s)))) (mcurN (upd s 10 (s 10 + 1)) (cc s))
def tickM (s f : Nat → Int32) : (Nat → Int32) × (Nat → Int32) := (tkM2 (tkM s f).1, (tkM s f).2)
theorem tkM_p {s f : Nat → Int32} (z : s 15 = 1) : tkM s f = (coM s (cc s) 12, f) := by unfold tkM; rw [if_pos z]
theorem tkM_n {s f : Nat → Int32} (z : ¬ s 15 = 1) : tkM s f = (nsM (rdM (stM s f 12).1 12) (stM s f 12).2 12, (stM s f 12).2) := by unfold tkM; rw [if_neg z]
theorem tkM_ok {s f : Nat → Int32} (hk : okC s) : okC (tkM s f).1 := by
  by_cases z : s 15 = 1
  · rw [tkM_p z]
    dsimp only
    have e := coM_93 s (cc s) 12 (by decide)
    generalize coM s (cc s) 12 = g at e ⊢
    exact hk.of e
  · rw [tkM_n z]
    dsimp only
    exact nsM_ok (rdM_ok (stM_ok hk 12 (by decide)) 12 (by decide)) 12 (by decide)
theorem fuM_93 (s : Nat → Int32) (c : Int32) : fuM s c 93 = s 93 := by
  unfold fuM blM
  split
  · rfl
  · split
    · rw [upd_n _ _ (by decide), upd_n _ _ (by decide), upd_n _ _ (by decide)]
    · split
      · split
        · rw [upd_n _ _ (by decide), upd_n _ _ (by decide), upd_n _ _ (by decide), upd_n _ _ (by decide)]
        · rw [upd_n _ _ (by decide)]
      · rw [upd_n _ _ (by decide)]
theorem tickM_ok {s f : Nat → Int32} (hk : okC s) : okC (tickM s f).1 := (tkM_ok (f := f) hk).of (by
  show tkM2 _ 93 = _
  unfold tkM2
  rw [fuM_93, upd_n _ _ (by decide), upd_n _ _ (by decide)])
theorem mx_if (a b : Int32) : (if a < b then b else a) = mx a b := rfl
