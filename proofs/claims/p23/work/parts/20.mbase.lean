/-! the reference's small methods, over its row s and its marks f of failed starts -/
theorem tc0 : Int32.toNatClampNeg 0 = 0 := by decide
theorem tc1 : Int32.toNatClampNeg 1 = 1 := by decide
theorem tc2 : Int32.toNatClampNeg 2 = 2 := by decide
theorem tc3 : Int32.toNatClampNeg 3 = 3 := by decide
theorem tc4 : Int32.toNatClampNeg 4 = 4 := by decide
theorem tc5 : Int32.toNatClampNeg 5 = 5 := by decide
theorem tc6 : Int32.toNatClampNeg 6 = 6 := by decide
theorem tc7 : Int32.toNatClampNeg 7 = 7 := by decide
theorem tc8 : Int32.toNatClampNeg 8 = 8 := by decide
theorem tc9 : Int32.toNatClampNeg 9 = 9 := by decide
theorem tc10 : Int32.toNatClampNeg 10 = 10 := by decide
theorem tc11 : Int32.toNatClampNeg 11 = 11 := by decide
theorem tc12 : Int32.toNatClampNeg 12 = 12 := by decide
theorem tc13 : Int32.toNatClampNeg 13 = 13 := by decide
theorem tc14 : Int32.toNatClampNeg 14 = 14 := by decide
theorem tc15 : Int32.toNatClampNeg 15 = 15 := by decide
theorem tc16 : Int32.toNatClampNeg 16 = 16 := by decide
theorem tc17 : Int32.toNatClampNeg 17 = 17 := by decide
theorem tc18 : Int32.toNatClampNeg 18 = 18 := by decide
theorem tc19 : Int32.toNatClampNeg 19 = 19 := by decide
theorem tc20 : Int32.toNatClampNeg 20 = 20 := by decide
theorem tc93 : Int32.toNatClampNeg 93 = 93 := by decide
def hp (h : DH) (s f : Nat → Int32) : DH := (fun q => if q = (15, 0, 0) then s else if q = (20, 0, 0) then f else h.1 q, h.2)
theorem hp_s (h : DH) (s f : Nat → Int32) : (hp h s f).1 (15, 0, 0) = s := by simp [hp]
theorem hp_f (h : DH) (s f : Nat → Int32) : (hp h s f).1 (20, 0, 0) = f := by simp [hp]
theorem hp_o (h : DH) (s f : Nat → Int32) : (hp h s f).2 = h.2 := rfl
theorem hp_ne (h : DH) (s f : Nat → Int32) {q : DKey} (h1 : q ≠ (15, 0, 0)) (h2 : q ≠ (20, 0, 0)) : (hp h s f).1 q = h.1 q := by simp [hp, h1, h2]
theorem hp_up (h : DH) (s f : Nat → Int32) (k : Nat) (x : Int32) : up1 (hp h s f) (15, 0, 0) k x = hp h (upd s k x) f := by
  refine Prod.ext ?_ rfl
  funext q j
  by_cases hq : q = (15, 0, 0)
  · subst hq
    simp [up1, hp, upd]
  · simp [up1, hp, hq]
theorem hp_fu (h : DH) (s f : Nat → Int32) (k : Nat) (x : Int32) : up1 (hp h s f) (20, 0, 0) k x = hp h s (upd f k x) := by
  refine Prod.ext ?_ rfl
  funext q j
  by_cases hq : q = (20, 0, 0)
  · subst hq
    simp [up1, hp, upd]
  · simp [up1, hp, hq]
theorem hp_id (h : DH) : hp h (h.1 (15, 0, 0)) (h.1 (20, 0, 0)) = h := by
  refine Prod.ext ?_ rfl
  funext q
  by_cases h1 : q = (15, 0, 0)
  · subst h1; simp [hp]
  · by_cases h2 : q = (20, 0, 0)
    · subst h2; simp [hp]
    · simp [hp, h1, h2]
theorem hp_hp (h : DH) (s f s' f' : Nat → Int32) : hp (hp h s f) s' f' = hp h s' f' := by
  refine Prod.ext ?_ rfl
  funext q
  simp only [hp]
  split
  · rfl
  · split <;> rfl
theorem upd_s (f : Nat → Int32) (k : Nat) (x : Int32) : upd f k x k = x := pk_us
theorem upd_n (f : Nat → Int32) {k j : Nat} (x : Int32) (h : j ≠ k) : upd f k x j = f j := pk_un h
def oD (d w : Nat) : Nat := 21 + 6 * d + w
def oR (k w : Nat) : Nat := 94 + 5 * k + w
theorem oD_cl {d w : Nat} (hd : d < 12) (hw : w < 6) : (nI (oD d w)).toNatClampNeg = oD d w := nI_clamp (by unfold oD; omega)
theorem oD_in {d w : Nat} (hd : d < 12) (hw : w < 6) : vp_in (nI (oD d w)) 244 := vp_in_nI (by unfold oD; omega) (by decide)
theorem oR_cl {k w : Nat} (hk : k < 30) (hw : w < 5) : (nI (oR k w)).toNatClampNeg = oR k w := nI_clamp (by unfold oR; omega)
theorem oR_in {k w : Nat} (hk : k < 30) (hw : w < 5) : vp_in (nI (oR k w)) 244 := vp_in_nI (by unfold oR; omega) (by decide)
def mplc (s : Nat → Int32) (c : Nat) (x : Int32) : Option Nat := fp (fun k => decide (s (oR k 0) = x)) c
def mfst (s : Nat → Int32) (c : Nat) (x : Int32) : Option Nat := fp (fun k => decide (s (oR k 1) = x)) c
/-- a read is taken out: the rows behind it move up -/
def msh (s : Nat → Int32) (a j : Nat) : Nat → Int32 := fun k => if a ≤ k ∧ k < j then s (k + 5) else s k
theorem msh_0 (s : Nat → Int32) (a : Nat) : msh s a a = s := by
  funext k
  unfold msh
  rw [if_neg (by omega)]
theorem msh_s (s : Nat → Int32) {a j : Nat} (h : a ≤ j) : upd (msh s a j) j (msh s a j (j + 5)) = msh s a (j + 1) := by
  funext k
  unfold upd msh
  by_cases hk : k = j
  · subst hk
    rw [if_pos rfl, if_neg (by omega), if_pos (by omega)]
  · rw [if_neg hk]
    by_cases h1 : a ≤ k ∧ k < j
    · rw [if_pos h1, if_pos (by omega)]
    · rw [if_neg h1, if_neg (by omega)]
def mrm (s : Nat → Int32) (p c : Nat) : Nat → Int32 := msh (upd s 93 (nI (c - 1))) (oR p 0) (oR (c - 1) 0)
def mahd (s : Nat → Int32) (x : Int32) (k : Nat) : Int32 := sumN (fun j => if s (oR j 1) = x then 1 else 0) k
/-- the reads of a disk begin anew -/
def baB (s : Nat → Int32) (d k : Nat) : Nat → Int32 := upd s (oR k 3) (if s (oR k 1) = nI d then s (oR k 2) else s (oR k 3))
def ban (s : Nat → Int32) (d : Nat) : Nat → (Nat → Int32)
  | 0 => s
  | k + 1 => baB (ban s d k) d k
theorem ban_93 (s : Nat → Int32) (d k : Nat) : ban s d k 93 = s 93 := by
  induction k with
  | zero => rfl
  | succ k ih =>
    show upd _ _ _ 93 = s 93
    rw [upd_n _ _ (by unfold oR; omega)]
    exact ih
def mcur (s : Nat → Int32) (c d : Nat) : Int32 := if s (oD d 0) = 0 then s 4 else if s (oD d 0) = 1 then s 1 else if s (oD d 0) = 3 then 0 else s 2 + (match mfst s c (nI d) with | none => 0 | some _ => s 3)
def mcurN (s : Nat → Int32) (c : Nat) : Int32 := sumN (mcur s c) 12
def mthat (s : Nat → Int32) (x : Int32) : Int32 := sumN (fun d => if s (oD d 0) = x then 1 else 0) 12
def mSb (s : Nat → Int32) (d : Nat) : Nat → Int32 := upd (upd (upd s (oD d 0) 0) (oD d 1) 0) (oD d 3) 0
