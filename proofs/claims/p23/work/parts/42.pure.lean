/-! the reference's history -/
def ub (h : DH) (κ : DKey) (b : Nat → Int32) : DH := (fun q => if q = κ then b else h.1 q, h.2)
theorem ub_s (h : DH) (κ : DKey) (b : Nat → Int32) : (ub h κ b).1 κ = b := by simp [ub]
theorem ub_n (h : DH) {κ q : DKey} (b : Nat → Int32) (hq : q ≠ κ) : (ub h κ b).1 q = h.1 q := by simp [ub, hq]
theorem ub_id (h : DH) (κ : DKey) : ub h κ (h.1 κ) = h := by
  refine Prod.ext ?_ rfl
  funext q
  show (if q = κ then h.1 κ else h.1 q) = h.1 q
  by_cases z : q = κ
  · rw [if_pos z, z]
  · rw [if_neg z]
theorem ub_up (h : DH) (κ : DKey) (b : Nat → Int32) (k : Nat) (x : Int32) : up1 (ub h κ b) κ k x = ub h κ (upd b k x) := by
  refine Prod.ext ?_ rfl
  funext q j
  by_cases hq : q = κ
  · subst hq
    simp [up1, ub, upd]
  · simp [up1, ub, hq]
theorem hp_un (h : DH) (s f : Nat → Int32) {κ : DKey} (k : Nat) (x : Int32) (h1 : κ ≠ (15, 0, 0)) (h2 : κ ≠ (20, 0, 0)) : up1 (hp h s f) κ k x = hp (up1 h κ k x) s f := by
  refine Prod.ext ?_ rfl
  funext q j
  by_cases hq : q = κ
  · subst hq
    simp [up1, hp, h1, h2]
  · simp [up1, hp, hq]
def cp5 (b : Nat → Int32) (a : Nat) (v : Nat → Int32) (n : Nat) : Nat → Int32 := fun k => if a ≤ k ∧ k < a + n then v (k - a) else b k
theorem cp5_0 (b : Nat → Int32) (a : Nat) (v : Nat → Int32) : cp5 b a v 0 = b := by
  funext k
  unfold cp5
  rw [if_neg (by omega)]
theorem cp5_s (b : Nat → Int32) (a : Nat) (v : Nat → Int32) (n : Nat) : upd (cp5 b a v n) (a + n) (v n) = cp5 b a v (n + 1) := by
  funext k
  unfold upd cp5
  by_cases z : k = a + n
  · rw [if_pos z, if_pos (by omega)]
    congr 1
    omega
  · rw [if_neg z]
    by_cases z2 : a ≤ k ∧ k < a + n
    · rw [if_pos z2, if_pos (by omega)]
    · rw [if_neg z2, if_neg (by omega)]
def knB (b : Nat → Int32) (a : Nat) (s : Nat → Int32) : Nat → Int32 := if a = 4 then cp5 (cp5 b 0 (fun k => b (244 + k)) 732) (244 * 3) s 244 else cp5 b (244 * a) s 244
def knA (a : Nat) : Nat := if a = 4 then 4 else a + 1
def know (h : DH) (a : Nat) (s : Nat → Int32) : DH := up1 (ub h (17, 0, 0) (knB (h.1 (17, 0, 0)) a s)) (14, 0, 0) 3 (nI (knA a))
theorem ub_cm (h : DH) (b : Nat → Int32) (x : Int32) : up1 (ub h (17, 0, 0) b) (14, 0, 0) 3 x = ub (up1 h (14, 0, 0) 3 x) (17, 0, 0) b := by
  refine Prod.ext ?_ rfl
  funext q j
  by_cases hq : q = (17, 0, 0)
  · subst hq
    simp [up1, ub]
  · simp [up1, ub, hq]
theorem up1_up1 (h : DH) (κ : DKey) (k : Nat) (x y : Int32) : up1 (up1 h κ k x) κ k y = up1 h κ k y := by
  refine Prod.ext ?_ rfl
  funext q j
  simp only [up1_1]
  by_cases z : q = κ ∧ j = k
  · rw [if_pos z, if_pos z]
  · rw [if_neg z, if_neg z, if_neg z]
theorem ub_ub (h : DH) (κ : DKey) (b b' : Nat → Int32) : ub (ub h κ b) κ b' = ub h κ b' := by
  refine Prod.ext ?_ rfl
  funext q
  simp only [ub]
  split <;> rfl

def mask (s : Nat → Int32) (c d : Nat) (t : Int32) : Nat → Int32 := upd (upd (upd (upd (upd (upd (upd s (oR c 0) (s 12)) (oR c 1) (nI d)) (oR c 2) t) (oR c 3) t) (oR c 4) (s 10)) 93 (nI (c + 1))) 12 (s 12 + 1)
def mpl (s : Nat → Int32) : Int32 := sumN (fun e => s (oD e 4)) 12

/-! the reference: replace, fuse, run -/
def mz (s : Nat → Int32) (d : Nat) : Nat → Int32 := cp5 s (oD d 0) (fun _ => 0) 6
def nf (s : Nat → Int32) : Nat → Int32 := upd (upd s 15 0) 16 0
def rk (s f : Nat → Int32) : Nat → (Nat → Int32) × (Nat → Int32)
  | 0 => (s, f)
  | k + 1 => tickM (rk s f k).1 (rk s f k).2
theorem rk_ok {s f : Nat → Int32} (hk : okC s) : ∀ k, okC (rk s f k).1 := by
  intro k
  induction k with
  | zero => exact hk
  | succ k ih => exact tickM_ok ih

/-! the reference: aside, snapshot, undo -/
theorem cp5_z (b v : Nat → Int32) (k : Nat) : upd (cp5 b 0 v k) k (v k) = cp5 b 0 v (k + 1) := by
  have e := cp5_s b 0 v k
  rw [Nat.zero_add] at e
  exact e
theorem cp5_in {b v : Nat → Int32} {n k : Nat} (h : k < n) : cp5 b 0 v n k = v k := by
  unfold cp5
  rw [if_pos (by omega)]
  rfl
def keepH (h : DH) (s : Nat → Int32) : DH := up1 (ub h (18, 0, 0) (cp5 (h.1 (18, 0, 0)) 0 s 244)) (14, 0, 0) 5 1
theorem know_18 (h : DH) (a : Nat) (s : Nat → Int32) : (know h a s).1 (18, 0, 0) = h.1 (18, 0, 0) := by
  unfold know
  rw [up1_ne _ _ _ (by decide), ub_n _ _ (by decide)]

def mtd (s : Nat → Int32) (c d : Nat) (x : Int32) : Int32 := if x = 0 then s (oD d 0) else if x = 1 then mcur s c d else if x = 2 then s (oD d 1) else if x = 3 then s (oD d 2) else if x = 4 then s (oD d 3) else if x = 5 then mahd s (nI d) c else if x = 6 then s (oD d 4) else if x = 7 then s (oD d 5) else -2

/-! the reference: counts, reads told -/
def mco (h : DH) (s : Nat → Int32) (c : Nat) (x : Int32) : Int32 := if x = 0 then s 10 else if x = 1 then mcurN s c else if x = 2 then s 11 else if x = 3 then s 93 else if x = 4 then s 12 else if x = 5 then s 13 else if x = 6 then s 14 else if x = 7 then mthat s 0 else if x = 8 then mthat s 1 else if x = 9 then mthat s 2 else if x = 10 then mthat s 3 else if x = 11 then s 15 else if x = 12 then s 16 else if x = 13 then s 17 else if x = 14 then s 18 else if x = 15 then s 19 else if x = 16 then s 20 else if x = 17 then h.1 (14, 0, 0) 3 else if x = 18 then h.1 (14, 0, 0) 7 else if wi x 20 29 = 0 then -2 else s (x - 20).toNatClampNeg
theorem wip_nI2 {x : Int32} {a b : Nat} (ha : a < 2 ^ 31) (hb : b < 2 ^ 31) (h : wip x (nI a) (nI b)) : ∃ k, a ≤ k ∧ k ≤ b ∧ x = nI k := by
  have h0 : wip x 0 (nI b) := ⟨fun t => h.1 (Int32.lt_iff_toInt_lt.mpr (by
    have t1 := Int32.lt_iff_toInt_lt.mp t
    have t2 : ¬ nI a < nI 0 := fun u => by have := (nI_ltI ha (by decide)).mp u; omega
    have t3 := Int32.le_iff_toInt_le.mp (Int32.not_lt.mp t2)
    have t4 : (nI 0 : Int32).toInt = (0 : Int32).toInt := rfl
    omega)), h.2⟩
  obtain ⟨k, hk, rfl⟩ := wip_nI hb h0
  exact ⟨k, by
    rcases Nat.lt_or_ge k a with z | z
    · exact absurd (nI_lt z ha) h.1
    · exact z, hk, rfl⟩
def mtr (s : Nat → Int32) (k : Nat) (x : Int32) : Int32 := if x = 0 then s (oR k 1) else if x = 1 then s (oR k 2) else if x = 2 then s (oR k 3) else if x = 3 then mahd s (s (oR k 1)) k else if x = 4 then s 10 - s (oR k 4) else -2

/-! the reference: how many could start -/
theorem sumN_01 (f : Nat → Int32) (h : ∀ e, f e = 0 ∨ f e = 1) : ∀ n, ∃ m, m ≤ n ∧ sumN f n = nI m := by
  intro n
  induction n with
  | zero => exact ⟨0, Nat.le_refl _, rfl⟩
  | succ n ih =>
    obtain ⟨m, h1, h2⟩ := ih
    show ∃ m, m ≤ n + 1 ∧ sumN f n + f n = nI m
    rcases h n with z | z
    · exact ⟨m, by omega, by rw [h2, z, Int32.add_zero]⟩
    · exact ⟨m + 1, by omega, by rw [h2, z, nI_1]⟩
theorem mthat_nI (s : Nat → Int32) (x : Int32) : ∃ m, m ≤ 12 ∧ mthat s x = nI m := sumN_01 _ (fun e => by
  by_cases z : s (oD e 0) = x
  · exact Or.inr (if_pos z)
  · exact Or.inl (if_neg z)) 12
def csB (s : Nat → Int32) (st : Int32) (q : Int32 × Int32) : Int32 × Int32 := if s 8 ≤ st + q.2 ∨ s 5 < q.1 - s 4 + s 1 then (q.1 + 0, q.2 + 0) else (q.1 + (s 1 - s 4), q.2 + 1)
def cs (s : Nat → Int32) (st c0 : Int32) : Nat → Int32 × Int32
  | 0 => (c0, 0)
  | k + 1 => csB s st (cs s st c0 k)
def lomay (s : Nat → Int32) (st c0 : Int32) : Nat → Option DV
  | 0 => none
  | k + 1 => some (.inl (if s 8 ≤ st + (cs s st c0 k).2 ∨ s 5 < (cs s st c0 k).1 - s 4 + s 1 then 0 else 1))

/-! the reference: what would be -/
def asd (h : DH) (s : Nat → Int32) : DH := ub h (16, 0, 0) (cp5 (h.1 (16, 0, 0)) 0 s 244)
theorem asd_16 (h : DH) (s : Nat → Int32) : (asd h s).1 (16, 0, 0) = cp5 (h.1 (16, 0, 0)) 0 s 244 := ub_s _ _ _

/-! the reference: tried -/
def ho (s f : Nat → Int32) : Nat → Int32
  | 0 => 0
  | j + 1 => if mcurN (rk s f (j + 1)).1 (cc (rk s f (j + 1)).1) ≤ ho s f j then ho s f j else mcurN (rk s f (j + 1)).1 (cc (rk s f (j + 1)).1)
def trA (s f : Nat → Int32) (w : Int32) (N : Nat) : Int32 := if w = 0 then (if (rk s f N).1 93 ≤ 0 then nI N else -5) else if w = 1 then ho s f N else (rk s f N).1 15
