/-! pictures of a drawer: AS = numbers, scalars (by the class's places), disks, reads in their order -/
abbrev R5 : Type := Int32 × Int32 × Int32 × Int32 × Int32
abbrev AS : Type := (Nat → Int32) × (Nat → Int32) × (Nat → Nat → Int32) × List R5
def sN (A : AS) (n : Nat) (v : Int32) : AS := (fun k => if k = n then v else A.1 k, A.2)
def sS (A : AS) (k : Nat) (v : Int32) : AS := (A.1, fun j => if j = k then v else A.2.1 j, A.2.2)
def sD (A : AS) (d f : Nat) (v : Int32) : AS := (A.1, A.2.1, fun d' f' => if d' = d ∧ f' = f then v else A.2.2.1 d' f', A.2.2.2)
def sR (A : AS) (l : List R5) : AS := (A.1, A.2.1, A.2.2.1, l)
def rdk (h : DH) (i k : Nat) : R5 := (h.1 (5, i, h.2 (3, i, 0) k) 0, h.1 (5, i, h.2 (3, i, 0) k) 1, h.1 (5, i, h.2 (3, i, 0) k) 2, h.1 (5, i, h.2 (3, i, 0) k) 3, h.1 (5, i, h.2 (3, i, 0) k) 4)
/-- the class's state i -/
def al (h : DH) (i : Nat) : AS := (fun n => if n < 10 then h.1 (1, i, 0) n else 0, fun k => if 4 ≤ k ∧ k < 15 then h.1 (0, i, 0) k else 0, fun d f => if d < 12 ∧ f < 6 then h.1 (4, i, d) f else 0, (List.range (h.1 (0, i, 0) 3).toNatClampNeg).map (rdk h i))
/-- the reference's places of the scalars and of a disk's fields -/
def ms : Nat → Nat
  | 4 => 12 | 5 => 13 | 6 => 14 | 7 => 20 | 8 => 10 | 9 => 11 | 10 => 15 | 11 => 16 | 12 => 17 | 13 => 18 | _ => 19
def mf : Nat → Nat
  | 4 => 5 | 5 => 4 | f => f
def rmk (s : Nat → Int32) (k : Nat) : R5 := (s (94 + 5 * k), s (94 + 5 * k + 1), s (94 + 5 * k + 2), s (94 + 5 * k + 3), s (94 + 5 * k + 4))
/-- the reference's row -/
def be (s : Nat → Int32) : AS := (fun n => if n < 10 then s n else 0, fun k => if 4 ≤ k ∧ k < 15 then s (ms k) else 0, fun d f => if d < 12 ∧ f < 6 then s (21 + 6 * d + mf f) else 0, (List.range (s 93).toNatClampNeg).map (rmk s))
theorem up1_1 (h : DH) (κ : DKey) (k : Nat) (x : Int32) (q : DKey) (j : Nat) : (up1 h κ k x).1 q j = if q = κ ∧ j = k then x else h.1 q j := rfl
theorem up1_2 (h : DH) (κ : DKey) (k : Nat) (x : Int32) : (up1 h κ k x).2 = h.2 := rfl
theorem up2_1 (h : DH) (κ : DKey) (k : Nat) (x : Nat) : (up2 h κ k x).1 = h.1 := rfl
theorem up2_2 (h : DH) (κ : DKey) (k : Nat) (x : Nat) (q : DKey) (j : Nat) : (up2 h κ k x).2 q j = if q = κ ∧ j = k then x else h.2 q j := rfl
/-- h' is h but for state i -/
def Fr (i : Nat) (h h' : DH) : Prop := ∀ κ : DKey, ¬ (κ.1 ≤ 5 ∧ κ.2.1 = i) → h'.1 κ = h.1 κ ∧ h'.2 κ = h.2 κ
theorem Fr.rf {i : Nat} {h : DH} : Fr i h h := fun _ _ => ⟨rfl, rfl⟩
theorem Fr.tr {i : Nat} {h h' h'' : DH} (a : Fr i h h') (b : Fr i h' h'') : Fr i h h'' := fun κ hκ => ⟨(b κ hκ).1.trans (a κ hκ).1, (b κ hκ).2.trans (a κ hκ).2⟩
theorem Fr.up1 {i : Nat} {h h' : DH} (a : Fr i h h') {k : Nat} {x : Int32} {κ : DKey} (hκ : κ.1 ≤ 5 ∧ κ.2.1 = i) : Fr i h (up1 h' κ k x) := fun q hq => ⟨by
  rw [up1_ne h' k x (fun e => hq (by rw [e]; exact hκ))]
  exact (a q hq).1, (a q hq).2⟩
theorem Fr.up2 {i : Nat} {h h' : DH} (a : Fr i h h') {k : Nat} {x : Nat} {κ : DKey} (hκ : κ.1 ≤ 5 ∧ κ.2.1 = i) : Fr i h (up2 h' κ k x) := fun q hq => ⟨(a q hq).1, by
  rw [up2_ne h' k x (fun e => hq (by rw [e]; exact hκ))]
  exact (a q hq).2⟩
theorem Fr.h1 {i : Nat} {h h' : DH} (a : Fr i h h') {κ : DKey} (hκ : ¬ (κ.1 ≤ 5 ∧ κ.2.1 = i)) : h'.1 κ = h.1 κ := (a κ hκ).1
theorem Fr.h2 {i : Nat} {h h' : DH} (a : Fr i h h') {κ : DKey} (hκ : ¬ (κ.1 ≤ 5 ∧ κ.2.1 = i)) : h'.2 κ = h.2 κ := (a κ hκ).2
theorem Fr_al {i j : Nat} {h h' : DH} (a : Fr i h h') (hj : j ≠ i) : al h' j = al h j := by
  have e1 : ∀ k m, h'.1 (k, j, m) = h.1 (k, j, m) := fun k m => a.h1 (fun z => hj z.2)
  have e2 : ∀ k m, h'.2 (k, j, m) = h.2 (k, j, m) := fun k m => a.h2 (fun z => hj z.2)
  have e3 : rdk h' j = rdk h j := by
    funext k
    simp only [rdk, e1, e2]
  simp only [al, e1, e3]
/-! small facts of ints -/
theorem nIlit (n : Nat) : nI n = Int32.ofNat n := rfl
theorem i_ge {k N : Nat} (h : k < N) (hN : N < 2 ^ 31) : ¬ nI N ≤ nI k := nI_ge h hN
theorem i_in {k N : Nat} (h : k < N) (hN : N < 2 ^ 31) : vp_in (nI k) N := vp_in_nI h hN
theorem i_cl {k : Nat} (h : k < 2 ^ 31) : (nI k).toNatClampNeg = k := nI_clamp h
def wi (x lo hi : Int32) : Int32 := if x < lo then 0 else if hi < x then 0 else 1
def wip (x lo hi : Int32) : Prop := ¬ x < lo ∧ ¬ hi < x
theorem wi_1 {x lo hi : Int32} (h : wip x lo hi) : wi x lo hi = 1 := by unfold wi; rw [if_neg h.1, if_neg h.2]
theorem wi_0 {x lo hi : Int32} (h : ¬ wip x lo hi) : wi x lo hi = 0 := by
  unfold wi
  by_cases a : x < lo
  · rw [if_pos a]
  · rw [if_neg a]
    by_cases b : hi < x
    · rw [if_pos b]
    · exact absurd ⟨a, b⟩ h
theorem wi_01 (x lo hi : Int32) : wi x lo hi = 0 ∨ wi x lo hi = 1 := by
  by_cases h : wip x lo hi
  · exact Or.inr (wi_1 h)
  · exact Or.inl (wi_0 h)
def fl (p : Prop) [Decidable p] : Int32 := if p then 1 else 0
/-- a sum in the order of the places -/
def sumN (f : Nat → Int32) : Nat → Int32
  | 0 => 0
  | n + 1 => sumN f n + f n
