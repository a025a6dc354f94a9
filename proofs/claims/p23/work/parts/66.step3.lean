/-! snapshot, and what is told: on both sides -/
theorem hp_eq (g : DH) {s f : Nat → Int32} (h1 : g.1 (15, 0, 0) = s) (h2 : g.1 (20, 0, 0) = f) : hp g s f = g := by
  rw [← h1, ← h2]
  exact hp_id g
theorem mahd_cnt (s : Nat → Int32) (x : Int32) : ∀ c, mahd s x c = nI (cntD x (LM s c)) := by
  intro c
  induction c with
  | zero => rfl
  | succ c ih =>
    have : mahd s x (c + 1) = mahd s x c + (if s (oR c 1) = x then 1 else 0) := rfl
    rw [this, ih, LM_succ, cntD_app, cntD_one, ← nI_add]
    refine congrArg (fun z => nI (cntD x (LM s c)) + z) ?_
    by_cases z : s (oR c 1) = x
    · rw [if_pos z, if_pos (show dk5 (rmk s c) = x from z)]; rfl
    · rw [if_neg z, if_neg (show ¬ dk5 (rmk s c) = x from z)]; rfl
theorem tell_eq {h : DH} {c d : Nat} {s : Nat → Int32} (hs : SR h 0 c s) (hd : d < 12) (x : Int32) : ctellDisk h 0 d x = mtd s c d x := by
  have r := fun f hf => hs.1.2.2 d hd f hf
  have y5 := (hs.2.2.2.2.2.2.2.2.2.1 d hd).2.2.2.2.2
  unfold ctellDisk mtd
  rw [cur_eq hs hd, r 0 (by decide), r 1 (by decide), r 2 (by decide), r 3 (by decide), r 4 (by decide), r 5 (by decide), hs.2.2.2.2.2.2.2.1 d hd, mahd_cnt, show mf 0 = 0 from rfl, show mf 1 = 1 from rfl, show mf 2 = 2 from rfl, show mf 3 = 3 from rfl, show mf 4 = 5 from rfl, show mf 5 = 4 from rfl]
  rcases y5 with z | z
  · rw [z, if_pos rfl]
  · rw [z, if_neg (show ¬ (1 : Int32) = 0 by decide)]
theorem tellr_eq {h : DH} {c k : Nat} {s : Nat → Int32} (hs : SR h 0 c s) (hk : k < c) (x : Int32) : ctellRead h 0 k x = mtr s k x := by
  have r : ∀ j, j < c → (h.1 (5, 0, h.2 (3, 0, 0) j) 0 = s (oR j 0) ∧ h.1 (5, 0, h.2 (3, 0, 0) j) 1 = s (oR j 1) ∧ h.1 (5, 0, h.2 (3, 0, 0) j) 2 = s (oR j 2) ∧ h.1 (5, 0, h.2 (3, 0, 0) j) 3 = s (oR j 3) ∧ h.1 (5, 0, h.2 (3, 0, 0) j) 4 = s (oR j 4)) := fun j hj => by
    have a := hs.rd hj
    exact ⟨congrArg (fun r : R5 => r.1) a, congrArg (fun r : R5 => r.2.1) a, congrArg (fun r : R5 => r.2.2.1) a, congrArg (fun r : R5 => r.2.2.2.1) a, congrArg (fun r : R5 => r.2.2.2.2) a⟩
  have e8 : h.1 (0, 0, 0) 8 = s 10 := hs.1.2.1 8 (by decide) (by decide)
  have ea : cahead h 0 k = mahd s (s (oR k 1)) k := by
    unfold cahead mahd
    refine sumN_cg k (fun j hj => ?_)
    rw [(r j (by omega)).2.1, (r k hk).2.1]
  obtain ⟨r0, r1, r2, r3, r4⟩ := r k hk
  unfold ctellRead mtr
  rw [ea, e8, r1, r2, r3, r4]
theorem i_sub_add (a b c : Int32) : a - b + c = a + (c - b) := by
  rw [Int32.sub_eq_add_neg, Int32.sub_eq_add_neg, Int32.add_assoc, Int32.add_comm (-b) c]
theorem could_eq {h : DH} {c : Nat} {s : Nat → Int32} (hs : SR h 0 c s) (s0 c0 : Int32) : ∀ j, j ≤ 12 → ∃ m, m ≤ j ∧ sumN (fun d => if s (oD d 0) = 0 then 1 else 0) j = nI m ∧ cst h 0 s0 c0 j = cs s s0 c0 m := by
  intro j
  induction j with
  | zero => intro _; exact ⟨0, Nat.le_refl _, rfl, rfl⟩
  | succ j ih =>
    intro hj
    obtain ⟨m, hm, e1, e2⟩ := ih (by omega)
    have r0 : h.1 (4, 0, j) 0 = s (oD j 0) := hs.1.2.2 j (by omega) 0 (by decide)
    have e3 : sumN (fun d => if s (oD d 0) = 0 then (1 : Int32) else 0) (j + 1) = sumN (fun d => if s (oD d 0) = 0 then 1 else 0) j + (if s (oD j 0) = 0 then 1 else 0) := rfl
    rw [show cst h 0 s0 c0 (j + 1) = cstb h 0 s0 j (cst h 0 s0 c0 j) from rfl, e2, e3, e1]
    unfold cstb
    rw [r0]
    by_cases z : s (oD j 0) = 0
    · rw [if_pos z, if_pos z]
      refine ⟨m + 1, by omega, nI_1 m, ?_⟩
      rw [show cs s s0 c0 (m + 1) = csB s s0 (cs s s0 c0 m) from rfl]
      generalize cs s s0 c0 m = q
      have n8 : h.1 (1, 0, 0) 8 = s 8 := hs.1.1 8 (by decide)
      have n5 : h.1 (1, 0, 0) 5 = s 5 := hs.1.1 5 (by decide)
      have na : cadd h 0 = s 1 - s 4 := by
        unfold cadd
        rw [hs.1.1 1 (by decide), hs.1.1 4 (by decide)]
      unfold csB cmay
      rw [n8, n5, na, i_sub_add, Int32.add_zero, Int32.add_zero]
      by_cases z8 : s 8 ≤ s0 + q.2
      · rw [if_pos z8, if_pos rfl, if_pos (Or.inl z8)]
      · rw [if_neg z8]
        by_cases z5 : s 5 < q.1 + (s 1 - s 4)
        · rw [if_pos z5, if_pos rfl, if_pos (Or.inr z5)]
        · rw [if_neg z5, if_neg (show ¬ (1 : Int32) = 0 by decide), if_neg (fun t => t.elim z8 z5)]
    · rw [if_neg z, if_neg z]
      exact ⟨m, by omega, Int32.add_zero _, rfl⟩
