/-! starts: the class's gs beside the reference's stM -/
def markR (x : Int32) (r : R5) : R5 := if dk5 r = x then (r.1, r.2.1, r.2.2.1, 0, r.2.2.2.2) else r
theorem rdk_at {h : DH} {i k : Nat} (f : Nat) (v : Int32) (hp : pmi h i) {j : Nat} (hj : j < 30) (hk : k < 30) (hne : k ≠ j) : rdk (up1 h (5, i, h.2 (3, i, 0) j) f v) i k = rdk h i k := by
  have : (up1 h (5, i, h.2 (3, i, 0) j) f v).1 (5, i, h.2 (3, i, 0) k) = h.1 (5, i, h.2 (3, i, 0) k) := up1_ne _ _ _ (fun e => hne (hp k j hk hj (by simpa using e)))
  simp only [rdk, up1_2, this]
theorem rdk_me {h : DH} {i k : Nat} (v : Int32) : rdk (up1 h (5, i, h.2 (3, i, 0) k) 3 v) i k = ((rdk h i k).1, (rdk h i k).2.1, (rdk h i k).2.2.1, v, (rdk h i k).2.2.2.2) := by
  simp [rdk, up1_1, up1_2]
theorem clB_rd {g : DH} {i d k : Nat} (hp : pmi g i) (hk : k < 30) : (∀ j, j < 30 → j ≠ k → rdk (clB g i d k) i j = rdk g i j) ∧ rdk (clB g i d k) i k = markR (nI d) (rdk g i k) ∧ (clB g i d k).1 (0, i, 0) 6 = g.1 (0, i, 0) 6 + (if dk5 (rdk g i k) = nI d then 1 else 0) := by
  unfold clB
  by_cases z : g.1 (5, i, g.2 (3, i, 0) k) 1 = nI d
  · rw [if_pos z]
    refine ⟨fun j hj hne => ?_, ?_, ?_⟩
    · rw [rdk_o (show (0 : Nat) ≠ 5 by decide), rdk_at 3 0 hp hk hj hne]
    · rw [rdk_o (show (0 : Nat) ≠ 5 by decide), rdk_me]
      unfold markR
      rw [if_pos (show dk5 (rdk g i k) = nI d from z)]
    · rw [if_pos (show dk5 (rdk g i k) = nI d from z)]
      simp [up1_1]
  · rw [if_neg z]
    refine ⟨fun j hj hne => rfl, ?_, ?_⟩
    · unfold markR
      rw [if_neg (show ¬ dk5 (rdk g i k) = nI d from z)]
    · rw [if_neg (show ¬ dk5 (rdk g i k) = nI d from z)]
      simp
theorem close_rd {g : DH} {i d : Nat} (hp : pmi g i) : ∀ k, k ≤ 30 → (∀ j, j < 30 → rdk (close g i d k) i j = if j < k then markR (nI d) (rdk g i j) else rdk g i j) ∧ (close g i d k).1 (0, i, 0) 6 = g.1 (0, i, 0) 6 + nI (cntD (nI d) (LC g i k)) := by
  intro k
  induction k with
  | zero =>
    intro _
    exact ⟨fun j _ => by rw [if_neg (by omega)]; rfl, by show _ = _ + nI 0; rw [nI_0]; simp [close]⟩
  | succ k ih =>
    intro hk
    obtain ⟨h1, h2⟩ := ih (by omega)
    have hp' : pmi (close g i d k) i := fun a b ha hb he => hp a b ha hb (by rw [close_2] at he; exact he)
    obtain ⟨g1, g2, g3⟩ := clB_rd (d := d) hp' (show k < 30 by omega)
    have ek : rdk (close g i d k) i k = rdk g i k := by rw [h1 k (by omega), if_neg (by omega)]
    rw [show close g i d (k + 1) = clB (close g i d k) i d k from rfl]
    refine ⟨fun j hj => ?_, ?_⟩
    · by_cases e : j = k
      · subst e
        rw [g2, ek, if_pos (by omega)]
      · rw [g1 j hj e, h1 j hj]
        by_cases e2 : j < k
        · rw [if_pos e2, if_pos (by omega)]
        · rw [if_neg e2, if_neg (by omega)]
    · rw [g3, h2, ek]
      have e : cntD (nI d) (LC g i (k + 1)) = cntD (nI d) (LC g i k) + (if dk5 (rdk g i k) = nI d then 1 else 0) := by
        unfold cntD LC
        rw [List.range_succ, List.map_append, List.filter_append, List.length_append]
        by_cases z : dk5 (rdk g i k) = nI d <;> simp [z]
      rw [e]
      by_cases z : dk5 (rdk g i k) = nI d
      · rw [if_pos z, if_pos z, ← nI_add, Int32.add_assoc]
        rfl
      · rw [if_neg z, if_neg z]
        simp
theorem close_LC {g : DH} {i d c : Nat} (hp : pmi g i) (hc : c ≤ 30) : LC (close g i d c) i c = (LC g i c).map (markR (nI d)) := by
  unfold LC
  rw [List.map_map]
  refine List.map_congr_left (fun k hk => ?_)
  have hk := List.mem_range.mp hk
  rw [(close_rd hp c hc).1 k (by omega), if_pos hk]
  rfl
theorem live_mark (x : Int32) : ∀ (L : List R5), live (L.map (markR x)) = (live L).filter (fun r => decide (dk5 r ≠ x)) := by
  intro L
  induction L with
  | nil => rfl
  | cons r L ih =>
    unfold live at ih ⊢
    by_cases z : dk5 r = x
    · have e : markR x r = (r.1, r.2.1, r.2.2.1, 0, r.2.2.2.2) := by unfold markR; rw [if_pos z]
      rw [List.map_cons, List.filter_cons, e]
      have : ¬ (0 : Int32) < lf (r.1, r.2.1, r.2.2.1, 0, r.2.2.2.2) := by show ¬ (0 : Int32) < 0; decide
      rw [if_neg (by simpa using this), ih]
      by_cases zl : 0 < lf r
      · rw [List.filter_cons (x := r), if_pos (by simpa using zl), List.filter_cons (x := r), if_neg (by simp [z])]
      · rw [List.filter_cons (x := r), if_neg (by simpa using zl)]
    · have e : markR x r = r := by unfold markR; rw [if_neg z]
      rw [List.map_cons, List.filter_cons, e]
      by_cases zl : 0 < lf r
      · rw [if_pos (by simpa using zl), ih, List.filter_cons (x := r), if_pos (by simpa using zl), List.filter_cons (x := r), if_pos (by simpa using z)]
      · rw [if_neg (by simpa using zl), ih, List.filter_cons (x := r), if_neg (by simpa using zl)]
theorem close_o {g : DH} {i d k : Nat} (q : DKey) (hq : q.1 ≠ 5) (j : Nat) (hj : ¬ (q = (0, i, 0) ∧ j = 6)) : (close g i d k).1 q j = g.1 q j := by
  induction k with
  | zero => rfl
  | succ k ih =>
    rw [show close g i d (k + 1) = clB (close g i d k) i d k from rfl]
    unfold clB
    split
    · rw [up1_1, if_neg hj, up1_ne _ _ _ (fun e => hq (by rw [e]))]
      exact ih
    · exact ih
/-- the reference loses the reads of a disk -/
theorem eraseIdx_ne {x : Int32} : ∀ (L : List R5) (p : Nat) (r : R5), L[p]? = some r → dk5 r = x → (∀ j q, j < p → L[j]? = some q → dk5 q ≠ x) → (L.eraseIdx p).filter (fun r => decide (dk5 r ≠ x)) = L.filter (fun r => decide (dk5 r ≠ x)) ∧ cntD x L = cntD x (L.eraseIdx p) + 1 := by
  intro L
  induction L with
  | nil => intro p r h; simp at h
  | cons a L ih =>
    intro p r hp hx hf
    cases p with
    | zero =>
      simp only [List.getElem?_cons_zero, Option.some.injEq] at hp
      subst hp
      refine ⟨?_, ?_⟩
      · simp [hx]
      · simp [cntD, hx]
    | succ p =>
      simp only [List.getElem?_cons_succ] at hp
      have ha : dk5 a ≠ x := hf 0 a (by omega) rfl
      obtain ⟨z1, z2⟩ := ih p r hp hx (fun j q hj hq => hf (j + 1) q (by omega) hq)
      refine ⟨?_, ?_⟩
      · simp only [List.eraseIdx_cons_succ, List.filter_cons]
        rw [z1]
      · unfold cntD at z2 ⊢
        simp only [List.eraseIdx_cons_succ, List.filter_cons]
        rw [if_neg (by simpa using ha), if_neg (by simpa using ha)]
        exact z2
theorem brkN_LM (d : Nat) : ∀ (m : Nat) (g : Nat → Int32), okC g → cc g ≤ m → LM (brkN d m g) (cc (brkN d m g)) = (LM g (cc g)).filter (fun r => decide (dk5 r ≠ nI d)) ∧ brkN d m g 14 = g 14 + nI (cntD (nI d) (LM g (cc g))) ∧ ∀ k, k < 93 → k ≠ 14 → brkN d m g k = g k := by
  intro m
  induction m with
  | zero =>
    intro g hg hm
    have h0 : cc g = 0 := by omega
    unfold brkN
    rw [h0]
    exact ⟨rfl, by show _ = _ + nI 0; rw [nI_0]; simp, fun _ _ _ => rfl⟩
  | succ m ih =>
    intro g hg hm
    obtain ⟨g1, g2⟩ := hg.cc
    unfold brkN
    cases hf : mfst g (cc g) (nI d) with
    | none =>
      have h0 := mfst_none.mp hf
      dsimp only
      refine ⟨?_, ?_, fun _ _ _ => rfl⟩
      · rw [List.filter_eq_self.mpr (fun r hr => by simpa using hasD_0.mp h0 r hr)]
      · rw [cntD_0.mpr h0, nI_0]
        simp
    | some p =>
      obtain ⟨p1, p2, p3, p4⟩ := mfst_some hf
      dsimp only
      have e93 : (upd (mrm g p (cc g)) 14 (mrm g p (cc g) 14 + 1)) 93 = nI (cc g - 1) := by rw [upd_n _ _ (by decide), mrm_93]
      have ecc := cc_of e93 (by omega)
      obtain ⟨q1, q2, q3⟩ := ih (upd (mrm g p (cc g)) 14 (mrm g p (cc g) 14 + 1)) ⟨cc g - 1, by omega, e93⟩ (by rw [ecc]; omega)
      rw [ecc, LM_lo (by decide), LM_rm p1 g2] at q1 q2
      obtain ⟨z1, z2⟩ := eraseIdx_ne _ p _ p2 p3 p4
      refine ⟨q1.trans z1, ?_, fun k hk hk14 => ?_⟩
      · rw [q2, upd_s, mrm_lo (by decide), z2, ← nI_add, Int32.add_assoc, Int32.add_comm (nI _)]
        rfl
      · rw [q3 k hk hk14, upd_n _ _ hk14, mrm_lo hk]
/-! masks of disks -/
theorem bit_t : ∀ d, d < 12 → ∀ e, e < 12 → (bitOf (nI d) &&& bitOf (nI e) = 0 ↔ d ≠ e) := by decide +kernel
theorem and_or0 (a b c : Int32) : (a ||| b) &&& c = 0 ↔ a &&& c = 0 ∧ b &&& c = 0 := by
  constructor
  · intro h
    have h' : ((a.toBitVec ||| b.toBitVec) &&& c.toBitVec) = 0#32 := by
      have := congrArg Int32.toBitVec h
      simpa using this
    have k : ∀ (x y z : BitVec 32), (x ||| y) &&& z = 0#32 → x &&& z = 0#32 ∧ y &&& z = 0#32 := by
      intro x y z hh
      have hb : ∀ i : Nat, ((x.getLsbD i || y.getLsbD i) && z.getLsbD i) = false := by
        intro i
        have := congrArg (fun w => w.getLsbD i) hh
        simpa using this
      refine ⟨BitVec.eq_of_getLsbD_eq (fun i hi => ?_), BitVec.eq_of_getLsbD_eq (fun i hi => ?_)⟩
      · have := hb i
        simp only [BitVec.getLsbD_and, BitVec.getLsbD_zero]
        revert this
        cases x.getLsbD i <;> cases y.getLsbD i <;> cases z.getLsbD i <;> simp
      · have := hb i
        simp only [BitVec.getLsbD_and, BitVec.getLsbD_zero]
        revert this
        cases x.getLsbD i <;> cases y.getLsbD i <;> cases z.getLsbD i <;> simp
    obtain ⟨k1, k2⟩ := k _ _ _ h'
    exact ⟨Int32.toBitVec_inj.mp (by simpa using k1), Int32.toBitVec_inj.mp (by simpa using k2)⟩
  · rintro ⟨h1, h2⟩
    have h1' : (a.toBitVec &&& c.toBitVec) = 0#32 := by have := congrArg Int32.toBitVec h1; simpa using this
    have h2' : (b.toBitVec &&& c.toBitVec) = 0#32 := by have := congrArg Int32.toBitVec h2; simpa using this
    refine Int32.toBitVec_inj.mp ?_
    show (a.toBitVec ||| b.toBitVec) &&& c.toBitVec = 0#32
    refine BitVec.eq_of_getLsbD_eq (fun i hi => ?_)
    have e1 := congrArg (fun w => w.getLsbD i) h1'
    have e2 := congrArg (fun w => w.getLsbD i) h2'
    simp only [BitVec.getLsbD_and, BitVec.getLsbD_or, BitVec.getLsbD_zero] at e1 e2 ⊢
    revert e1 e2
    cases a.toBitVec.getLsbD i <;> cases b.toBitVec.getLsbD i <;> cases c.toBitVec.getLsbD i <;> simp
