/-! all that is known of a state is kept by the acts -/
theorem XR.lo {h h' : DH} {i c : Nat} {s s' : Nat → Int32} (hs : XR h i s) (hc : SR h' i c s') (e : ∀ k, k < 17 → k ≠ 11 → k ≠ 13 → k ≠ 14 → s' k = s k) : XR h' i s' := by
  obtain ⟨_, h2, h3, h4, h5⟩ := hs
  refine ⟨⟨c, hc⟩, ?_, ?_, ?_, fun w hw => by rw [e w (by omega) (by omega) (by omega) (by omega)]; exact h5 w hw⟩
  · unfold HInv
    rw [e 15 (by decide) (by decide) (by decide) (by decide), e 16 (by decide) (by decide) (by decide) (by decide)]
    exact h2
  · unfold AInv
    rw [e 12 (by decide) (by decide) (by decide) (by decide)]
    exact h3
  · unfold TInv
    rw [e 10 (by decide) (by decide) (by decide) (by decide)]
    exact h4
theorem XR.set {h : DH} {i c : Nat} {s : Nat → Int32} (hs : XR h i s) (hc : SR h i c s) {w : Nat} (hw : w < 10) {x : Int32} (hx : wip x (dcst 1 w) (dcst 2 w)) : XR (up1 h (1, i, 0) w x) i (upd s w x) := by
  obtain ⟨_, h2, h3, h4, h5⟩ := hs
  refine ⟨⟨c, set_SR hc hw hx⟩, ?_, ?_, ?_, fun v hv => ?_⟩
  · unfold HInv
    rw [upd_n _ _ (by omega), upd_n _ _ (by omega)]
    exact h2
  · unfold AInv
    rw [upd_n _ _ (by omega)]
    exact h3
  · unfold TInv
    rw [upd_n _ _ (by omega)]
    exact h4
  · by_cases z : v = w
    · subst z
      rw [upd_s]
      exact hx
    · rw [upd_n _ _ z]
      exact h5 v hv
theorem XR.read {h : DH} {i c d : Nat} {s : Nat → Int32} {t : Int32} (hs : XR h i s) (hc : SR h i c s) (hd : d < 12) (hc30 : c < 30) (ht : wip t 1 50) (h3 : ¬ s (oD d 0) = 3) (h500 : ¬ s 12 = 500) : XR (caddH h i c d t) i (mask s c d t) := by
  obtain ⟨_, h2, ⟨a, ha, e⟩, h4, h5⟩ := hs
  refine ⟨⟨c + 1, read_add hc hd hc30 ht h3⟩, ?_, ⟨a + 1, ?_, ?_⟩, ?_, fun w hw => by rw [mask_lo (by omega) (by omega)]; exact h5 w hw⟩
  · unfold HInv
    rw [mask_lo (by decide) (by decide), mask_lo (by decide) (by decide)]
    exact h2
  · have : a ≠ 500 := fun t => h500 (by rw [e, t]; rfl)
    omega
  · unfold mask
    rw [upd_s, e, nI_1]
  · unfold TInv
    rw [mask_lo (by decide) (by decide)]
    exact h4
theorem XR.drop {h : DH} {i c p : Nat} {s : Nat → Int32} (hs : XR h i s) (hc : SR h i c s) (hp : p < c) : XR (drpH h i c p) i (mrm s p c) := hs.lo (drop_SR hc hp).2 (fun k hk _ _ _ => mrm_lo (by omega))
theorem XR.plan {h : DH} {i c d : Nat} {s : Nat → Int32} (hs : XR h i s) (hc : SR h i c s) (hd : d < 12) : XR (up1 h (4, i, d) 5 1) i (upd s (oD d 4) 1) := hs.lo (fail_SR hc hd).1 (fun k hk _ _ _ => upd_n _ _ (by unfold oD; omega))
theorem XR.rep {h : DH} {i c d : Nat} {s : Nat → Int32} (hs : XR h i s) (hc : SR h i c s) (hd : d < 12) : XR (crp h i d c) i (ban (mz s d) d c) := hs.lo (rep_SR hc hd) (fun k hk _ _ _ => (ban_o _ _ _ _ (fun j _ => by unfold oR; omega)).trans (mz_o s hd (Or.inl (by omega))))
theorem XR.fuse {h : DH} {i c : Nat} {s : Nat → Int32} (hs : XR h i s) (hc : SR h i c s) (z : ¬ s 15 = 0) : XR (up1 h (0, i, 0) 10 0) i (nf s) := by
  obtain ⟨_, h2, h3, h4, h5⟩ := hs
  obtain ⟨f1, f2⟩ := fuse_new hc h2 z
  have e : ∀ k, k < 15 → nf s k = s k := fun k hk => by
    unfold nf
    rw [upd_n _ _ (by omega), upd_n _ _ (by omega)]
  refine ⟨⟨c, f1⟩, f2, ?_, ?_, fun w hw => by rw [e w (by omega)]; exact h5 w hw⟩
  · unfold AInv
    rw [e 12 (by decide)]
    exact h3
  · unfold TInv
    rw [e 10 (by decide)]
    exact h4
theorem pass_H {h : DH} {i c : Nat} {s : Nat → Int32} (f : Nat → Int32) (hs : SR h i c s) (hh : HInv s) : ∀ k, HInv (rk s f k).1 := by
  intro k
  induction k with
  | zero => exact hh
  | succ k ih =>
    obtain ⟨⟨c', h1⟩, _⟩ := pass_SR f hs k
    exact tick_H (rk s f k).2 h1 ih
theorem pass_lo {h : DH} {i c : Nat} {s : Nat → Int32} (f : Nat → Int32) (hs : SR h i c s) (k : Nat) : (rk s f k).1 12 = s 12 ∧ (rk s f k).1 10 = s 10 + nI k ∧ ∀ j, j < 10 → (rk s f k).1 j = s j := by
  obtain ⟨⟨c', h1⟩, h2⟩ := pass_SR f hs k
  refine ⟨?_, ?_, h2⟩
  · have a := h1.1.2.1 4 (by decide) (by decide)
    have b := hs.1.2.1 4 (by decide) (by decide)
    have e := ((Ft.rf (e := 4) (i := i) (h := h)).xpk k).1 (0, i, 0) 4 (Fq_4 4 i)
    exact (a.symm.trans e).trans b
  · have a := h1.1.2.1 8 (by decide) (by decide)
    have b := hs.1.2.1 8 (by decide) (by decide)
    have b : h.1 (0, i, 0) 8 = s 10 := b
    exact a.symm.trans ((pk_8 h i k).trans (by rw [b]))
theorem XR.pass {h : DH} {i c : Nat} {s : Nat → Int32} (f : Nat → Int32) (hs : XR h i s) (hc : SR h i c s) {k : Nat} (hk : k ≤ 400) (ht : s 10 + nI k ≤ 99999) : XR (pk h i k) i (rk s f k).1 := by
  obtain ⟨_, h2, h3, ⟨t, t1, t2⟩, h5⟩ := hs
  obtain ⟨e1, e2, e3⟩ := pass_lo f hc k
  refine ⟨(pass_SR f hc k).1, pass_H f hc h2 k, ?_, ⟨t + k, ?_, ?_⟩, fun w hw => by rw [e3 w hw]; exact h5 w hw⟩
  · unfold AInv
    rw [e1]
    exact h3
  · rw [t2, nI_add] at ht
    refine Decidable.byContradiction fun z => ?_
    exact absurd ht (nI_ge (show 99999 < t + k by omega) (by omega))
  · rw [e2, t2, nI_add]
/-- nothing that is answered by an act is below 0 -/
theorem sumN_le {f : Nat → Int32} {B : Nat} : ∀ n, (∀ e, e < n → ∃ k, k ≤ B ∧ f e = nI k) → ∃ m, m ≤ B * n ∧ sumN f n = nI m := by
  intro n
  induction n with
  | zero => intro _; exact ⟨0, Nat.le_refl _, rfl⟩
  | succ n ih =>
    intro h
    obtain ⟨m, hm, e⟩ := ih (fun e he => h e (by omega))
    obtain ⟨k, hk, e2⟩ := h n (by omega)
    refine ⟨m + k, by rw [Nat.mul_succ]; omega, ?_⟩
    show sumN f n + f n = _
    rw [e, e2, nI_add]
theorem nI_n0 {n : Nat} (h : n < 2 ^ 31) : ¬ nI n < 0 := nI_pos h
theorem VInv.at {s : Nat → Int32} (h : VInv s) : (∃ k, k ≤ 50 ∧ s 1 = nI k) ∧ (∃ k, k ≤ 20 ∧ s 2 = nI k) ∧ (∃ k, k ≤ 20 ∧ s 3 = nI k) ∧ (∃ k, k ≤ 5 ∧ s 4 = nI k) := by
  refine ⟨?_, ?_, ?_, ?_⟩
  · obtain ⟨k, _, k2, k3⟩ := wip_nI2 (a := 1) (b := 50) (by decide) (by decide) (h 1 (by decide))
    exact ⟨k, k2, k3⟩
  · obtain ⟨k, _, k2, k3⟩ := wip_nI2 (a := 0) (b := 20) (by decide) (by decide) (h 2 (by decide))
    exact ⟨k, k2, k3⟩
  · obtain ⟨k, _, k2, k3⟩ := wip_nI2 (a := 0) (b := 20) (by decide) (by decide) (h 3 (by decide))
    exact ⟨k, k2, k3⟩
  · obtain ⟨k, _, k2, k3⟩ := wip_nI2 (a := 0) (b := 5) (by decide) (by decide) (h 4 (by decide))
    exact ⟨k, k2, k3⟩
theorem dcst_lo : ∀ w, w < 10 → ¬ dcst 1 w < 0 := by decide
theorem VInv.n0 {s : Nat → Int32} (h : VInv s) {w : Nat} (hw : w < 10) : ¬ s w < 0 := fun t => (h w hw).1 (Int32.lt_of_lt_of_le t (Int32.not_lt.mp (dcst_lo w hw)))
theorem mcur_le {s : Nat → Int32} (h : VInv s) (c e : Nat) : ∃ k, k ≤ 50 ∧ mcur s c e = nI k := by
  obtain ⟨⟨k1, a1, e1⟩, ⟨k2, a2, e2⟩, ⟨k3, a3, e3⟩, ⟨k4, a4, e4⟩⟩ := h.at
  unfold mcur
  split
  · exact ⟨k4, by omega, e4⟩
  · split
    · exact ⟨k1, a1, e1⟩
    · split
      · exact ⟨0, by omega, rfl⟩
      · split
        · exact ⟨k2, by omega, by rw [e2, Int32.add_zero]⟩
        · exact ⟨k2 + k3, by omega, by rw [e2, e3, nI_add]⟩
theorem mcurN_le {s : Nat → Int32} (h : VInv s) (c : Nat) : ∃ k, k ≤ 600 ∧ mcurN s c = nI k := sumN_le (B := 50) 12 (fun e _ => mcur_le h c e)
theorem pk_5 {h : DH} {i c : Nat} {s : Nat → Int32} (f : Nat → Int32) (hs : SR h i c s) : ∀ k, ∃ m, m ≤ 30 * k ∧ (pk h i k).1 (0, i, 0) 5 = h.1 (0, i, 0) 5 + nI m := by
  intro k
  induction k with
  | zero => exact ⟨0, Nat.le_refl _, (Int32.add_zero _).symm⟩
  | succ k ih =>
    obtain ⟨m, hm, e⟩ := ih
    obtain ⟨c', h1, h2, _⟩ := pass_ok f hs k
    rw [show pk h i (k + 1) = tick (pk h i k) i ((pk h i k).1 (0, i, 0) 3).toNatClampNeg from rfl]
    obtain ⟨m2, hm2, e2⟩ := tick_5 (pk h i k) i ((pk h i k).1 (0, i, 0) 3).toNatClampNeg
    rw [h1, i_cl (show c' < 2 ^ 31 by omega)] at hm2
    exact ⟨m + m2, by omega, by rw [e2, e, Int32.add_assoc, nI_add]⟩
theorem pass_n0 {h : DH} {i c : Nat} {s : Nat → Int32} (f : Nat → Int32) (hs : SR h i c s) {k : Nat} (hk : k ≤ 400) : (pk h i k).1 (0, i, 0) 5 - h.1 (0, i, 0) 5 = (rk s f k).1 13 - s 13 ∧ ¬ (rk s f k).1 13 - s 13 < 0 := by
  obtain ⟨⟨c', h1⟩, _⟩ := pass_SR f hs k
  have a := h1.1.2.1 5 (by decide) (by decide)
  have b := hs.1.2.1 5 (by decide) (by decide)
  have a : (pk h i k).1 (0, i, 0) 5 = (rk s f k).1 13 := a
  have b : h.1 (0, i, 0) 5 = s 13 := b
  refine ⟨by rw [a, b], ?_⟩
  obtain ⟨m, hm, e⟩ := pk_5 f hs k
  rw [← a, e, b, Int32.add_comm, Int32.add_sub_cancel]
  exact nI_n0 (by omega)
