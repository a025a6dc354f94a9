/-! a tick, on both sides -/
theorem SR.sc {h : DH} {i c : Nat} {s : Nat → Int32} (hs : SR h i c s) {k : Nat} (hk : 4 ≤ k) (hk2 : k < 15) (v : Int32) (hv : k = 10 → v = 0 ∨ v = 1) : SR (up1 h (0, i, 0) k v) i c (upd s (ms k) v) := by
  obtain ⟨h1, h2, h3, h4, h5, h6, h7, h8, h9, h10, h11⟩ := hs
  have hm := ms_lt k
  have eL : LM (upd s (ms k) v) c = LM s c := LM_lo (by omega) v
  have eo : ∀ e w, upd s (ms k) v (oD e w) = s (oD e w) := fun e w => upd_n _ _ (by unfold oD; omega)
  refine ⟨h1.sc hk hk2 v, by rw [up1_1, if_neg (fun t => by omega), h2], h3, by rw [upd_n _ _ (by omega), h4], by rw [LC_00, eL, h5], h6, h7, fun e he => by rw [up1_ne _ _ _ (by simp), eL, h8 e he], ?_, fun e he => (h10 e he).cg (fun w _ => eo e w), fun r hr => ?_⟩
  · obtain ⟨y1, y2, y3, y4, y5⟩ := h9
    unfold NInv
    rw [upd_n _ _ (show 0 ≠ ms k by omega), upd_n _ _ (show 5 ≠ ms k by omega), upd_n _ _ (show 6 ≠ ms k by omega), upd_n _ _ (show 7 ≠ ms k by omega)]
    refine ⟨y1, y2, y3, y4, ?_⟩
    by_cases z : ms k = 15
    · rw [z, upd_s]
      exact hv (ms_inj hk hk2 (by decide) (by decide) (z.trans rfl))
    · rw [upd_n _ _ (fun t => z t.symm)]
      exact y5
  · rw [eL] at hr
    refine (h11 r hr).cg (fun e _ _ => ?_)
    rw [eo]
    exact ⟨(em_ne _ 3).symm, id⟩
theorem bl_eq (s : Nat → Int32) (a b : Int32) : upd (upd (upd (upd s 16 a) 15 1) 17 b) 16 0 = upd (upd (upd s 15 1) 17 b) 16 0 := by
  funext k
  simp only [upd]
  by_cases h : k = 16
  · rw [if_pos h, if_pos h]
  · rw [if_neg h, if_neg h, if_neg h]
theorem fuse_SR {g : DH} {i c : Nat} {s : Nat → Int32} (hs : SR g i c s) (x : Int32) : SR (sfB g i x) i c (fuM s x) ∧ ∀ k, k < 10 → fuM s x k = s k := by
  have hs' := hs
  obtain ⟨h1, _, _, _, _, _, _, _, ⟨_, ⟨a5, b5, e5⟩, ⟨a6, b6, e6⟩, ⟨a7, b7, e7⟩, y5⟩, _, _⟩ := hs'
  have r10 := h1.2.1 10 (by decide) (by decide)
  rw [show ms 10 = 15 from rfl] at r10
  have r11 := h1.2.1 11 (by decide) (by decide)
  rw [show ms 11 = 16 from rfl] at r11
  have r12 := h1.2.1 12 (by decide) (by decide)
  rw [show ms 12 = 17 from rfl] at r12
  refine ⟨?_, fun k hk => ?_⟩
  · unfold sfB fuM
    rw [r10, h1.1 5 (by decide), h1.1 6 (by decide), h1.1 7 (by decide), r11]
    rcases y5 with z | z
    · have nz : ¬ s 15 = 1 := by rw [z]; decide
      rw [if_pos z, if_neg nz]
      by_cases zx : s 5 < x
      · have nx : ¬ x ≤ s 5 := Int32.not_le.mpr zx
        rw [if_neg nx, if_pos zx]
        have big : SR (up1 (up1 (up1 (up1 g (0, i, 0) 11 (s 16 + 1)) (0, i, 0) 10 1) (0, i, 0) 12 (g.1 (0, i, 0) 12 + 1)) (0, i, 0) 11 0) i c (upd (upd (upd (upd s 16 (s 16 + 1)) 15 1) 17 (s 17 + 1)) 16 0) := by
          rw [r12]
          exact (((hs.sc (show 4 ≤ 11 by decide) (by decide) (s 16 + 1) (fun t => absurd t (by decide))).sc (show 4 ≤ 10 by decide) (by decide) 1 (fun _ => Or.inr rfl)).sc (show 4 ≤ 12 by decide) (by decide) (s 17 + 1) (fun t => absurd t (by decide))).sc (show 4 ≤ 11 by decide) (by decide) 0 (fun t => absurd t (by decide))
        by_cases zb : s 5 + s 6 < x
        · rw [if_pos (Or.inr zb), if_pos zb]
          unfold blM
          rw [← bl_eq s (s 16 + 1)]
          exact big
        · rw [if_neg zb]
          by_cases z7 : s 7 < s 16 + 1
          · rw [if_pos (Or.inl z7), if_pos z7]
            unfold blM
            rw [upd_n _ _ (show 17 ≠ 16 by decide)]
            exact big
          · rw [if_neg (fun t => t.elim z7 zb), if_neg z7]
            exact hs.sc (show 4 ≤ 11 by decide) (by decide) (s 16 + 1) (fun t => absurd t (by decide))
      · have lx : x ≤ s 5 := Int32.not_lt.mp zx
        have nb : ¬ s 5 + s 6 < x := by
          rw [e5] at lx
          rw [e5, e6, nI_add]
          intro t
          have t1 := Int32.lt_iff_toInt_lt.mp t
          have t2 := Int32.le_iff_toInt_le.mp lx
          have t3 : nI (a5 + a6) < nI a5 := Int32.lt_iff_toInt_lt.mpr (by omega)
          have := (nI_ltI (by omega) (by omega)).mp t3
          omega
        have n7 : ¬ s 7 < 0 := by
          rw [e7, show (0 : Int32) = nI 0 from rfl]
          intro t
          have := (nI_ltI (by omega) (by decide)).mp t
          omega
        rw [if_pos lx, if_neg (fun t => t.elim n7 nb), if_neg nb, if_neg zx]
        exact hs.sc (show 4 ≤ 11 by decide) (by decide) 0 (fun t => absurd t (by decide))
    · rw [if_neg (by rw [z]; decide), if_pos z]
      exact hs
  · unfold fuM blM
    split
    · rfl
    · split
      · rw [upd_n _ _ (by omega), upd_n _ _ (by omega), upd_n _ _ (by omega)]
      · split
        · split
          · rw [upd_n _ _ (by omega), upd_n _ _ (by omega), upd_n _ _ (by omega), upd_n _ _ (by omega)]
          · rw [upd_n _ _ (by omega)]
        · rw [upd_n _ _ (by omega)]
theorem tick_SR {h : DH} {i c : Nat} {s : Nat → Int32} (f : Nat → Int32) (hs : SR h i c s) : ∃ c', SR (tick h i c) i c' (tickM s f).1 ∧ ∀ k, k < 10 → (tickM s f).1 k = s k := by
  have A : ∃ c', SR (tkH h i c) i c' (tkM s f).1 ∧ ∀ k, k < 10 → (tkM s f).1 k = s k := by
    have r10 := hs.1.2.1 10 (by decide) (by decide)
    rw [show ms 10 = 15 from rfl] at r10
    have h93 := hs.2.2.2.1
    have h30 := hs.2.2.1
    have hp := hs.2.2.2.2.2.1
    have y5 := hs.2.2.2.2.2.2.2.2.1.2.2.2.2
    unfold tkH
    rw [r10]
    rcases y5 with z | z
    · have nz : ¬ s 15 = 1 := by rw [z]; decide
      rw [if_pos z, tkM_n nz]
      have rg := RG_all h30 hp (hs.RG (f := f)) 12 (Nat.le_refl _)
      have hm := rg.2.2.2.2.2.1
      obtain ⟨c', s1, k1⟩ := read_SR hs rg
      generalize gs h i c 12 = q at hm s1 ⊢
      generalize stM s f 12 = p at hm s1 k1 ⊢
      obtain ⟨b1, b2, b3, b4⟩ := BS_all (f := p.2) (b := q.2) (fun e he => by
        rw [hm e he]
        exact ⟨fun t => t he, fun t _ => t⟩) s1 12 (Nat.le_refl _)
      generalize bs (grAll q.1 i c) i q.2 12 = y at b1 b2 b3 ⊢
      generalize nsM (rdM p.1 12) p.2 12 = w at b1 b2 b3 b4 ⊢
      exact ⟨c', b1, fun k hk => (b4 k (Or.inl hk)).trans (k1 k (Or.inl hk))⟩
    · rw [if_neg (by rw [z]; decide), tkM_p z]
      obtain ⟨a1, a2⟩ := cut_SR hs
      rw [cc_of h93 h30]
      generalize co h i 12 = y at a1 ⊢
      generalize coM s c 12 = w at a1 a2 ⊢
      exact ⟨c, a1, fun k hk => a2 k (by omega)⟩
  obtain ⟨c', a1, a2⟩ := A
  unfold tick
  rw [show (tickM s f).1 = tkM2 (tkM s f).1 from rfl]
  generalize tkH h i c = g at a1 ⊢
  generalize (tkM s f).1 = t at a1 a2 ⊢
  unfold tkM2 sfH
  have r8 := a1.1.2.1 8 (by decide) (by decide)
  rw [show ms 8 = 10 from rfl] at r8
  have b1 := a1.sc (show 4 ≤ 8 by decide) (by decide) (t 10 + 1) (fun u => absurd u (by decide))
  rw [show ms 8 = 10 from rfl] at b1
  rw [r8, cc_of a1.2.2.2.1 a1.2.2.1]
  have r9 := b1.1.2.1 9 (by decide) (by decide)
  rw [show ms 9 = 11 from rfl, upd_n _ _ (by decide)] at r9
  rw [sumcur b1, r9]
  have b2 := b1.sc (show 4 ≤ 9 by decide) (by decide) (mx (t 11) (mcurN (upd t 10 (t 10 + 1)) c')) (fun u => absurd u (by decide))
  rw [show ms 9 = 11 from rfl] at b2
  obtain ⟨f1, f2⟩ := fuse_SR b2 (mcurN (upd t 10 (t 10 + 1)) c')
  exact ⟨c', f1, fun k hk => by rw [f2 k hk, upd_n _ _ (by omega), upd_n _ _ (by omega), a2 k hk]⟩
