/-! reading: the class's sweep -/
def cdead (x : Int32) (L : List R5) : Nat := cntD x (L.filter (fun r => decide (¬ 0 < lf r)))
theorem cntD_cons (x : Int32) (a : R5) (L : List R5) : cntD x (a :: L) = (if dk5 a = x then 1 else 0) + cntD x L := by
  unfold cntD
  by_cases z : dk5 a = x
  · simp [z, Nat.add_comm]
  · simp [z]
theorem cntD_app (x : Int32) (L M : List R5) : cntD x (L ++ M) = cntD x L + cntD x M := by
  simp [cntD]
theorem live_app (L M : List R5) : live (L ++ M) = live L ++ live M := by simp [live]
theorem dead_app (x : Int32) (L M : List R5) : cdead x (L ++ M) = cdead x L + cdead x M := by
  unfold cdead
  rw [List.filter_append, cntD_app]
theorem cnt_two (x : Int32) : ∀ L : List R5, cntD x L = cntD x (live L) + cdead x L := by
  intro L
  induction L with
  | nil => rfl
  | cons a L ih =>
    unfold cdead at ih ⊢
    rw [live_cons, List.filter_cons]
    by_cases z : 0 < lf a
    · rw [if_pos z, if_neg (by simpa using z), cntD_cons, cntD_cons, ih, Nat.add_assoc]
    · rw [if_neg z, if_pos (by simpa using z), cntD_cons, cntD_cons, ih]
      omega
def SW (h : DH) (i k : Nat) (q : DH × Nat) : Prop :=
  q.2 ≤ k ∧ (∀ j, q.1.1 (5, i, j) = h.1 (5, i, j)) ∧ q.1.1 (1, i, 0) = h.1 (1, i, 0) ∧ q.1.1 (0, i, 0) = h.1 (0, i, 0) ∧ (∀ e f, f ≠ 6 → q.1.1 (4, i, e) f = h.1 (4, i, e) f) ∧
  (∀ e, e < 12 → q.1.1 (4, i, e) 6 + nI (cdead (nI e) (LC h i k)) = h.1 (4, i, e) 6) ∧ (∀ p, k ≤ p → q.1.2 (3, i, 0) p = h.2 (3, i, 0) p) ∧
  LC q.1 i q.2 = live (LC h i k) ∧ pmi q.1 i ∧ (∀ κ, κ ≠ (3, i, 0) → q.1.2 κ = h.2 κ) ∧ ((∀ p, p < 30 → h.2 (3, i, 0) p < 30) → ∀ p, p < 30 → q.1.2 (3, i, 0) p < 30)
theorem up2_s (h : DH) (κ : DKey) (k x : Nat) (p : Nat) : (up2 h κ k x).2 κ p = if p = k then x else h.2 κ p := by
  show (if κ = κ ∧ p = k then x else h.2 κ p) = _
  by_cases z : p = k
  · rw [if_pos ⟨rfl, z⟩, if_pos z]
  · rw [if_neg (fun t => z t.2), if_neg z]
theorem up2_o (h : DH) (κ κ' : DKey) (k x : Nat) (hn : κ' ≠ κ) : (up2 h κ k x).2 κ' = h.2 κ' := by
  funext p
  show (if κ' = κ ∧ p = k then x else h.2 κ' p) = _
  rw [if_neg (fun t => hn t.1)]
theorem SW_step {h : DH} {i k : Nat} {q : DH × Nat} (hk : k < 30) (hk0 : ∃ d, d < 12 ∧ h.1 (5, i, h.2 (3, i, 0) k) 1 = nI d) (hg : SW h i k q) : SW h i (k + 1) (swB i k q) := by
  obtain ⟨g, m⟩ := q
  obtain ⟨g1, g2, g3, g4, g5, g6, g7, g8, g9, g10, g11⟩ := hg
  dsimp only at g1 g2 g3 g4 g5 g6 g7 g8 g9 g10 g11
  obtain ⟨d, hd, hkd⟩ := hk0
  have ek := g7 k (Nat.le_refl k)
  have hr : rdk g i k = rdk h i k := by
    unfold rdk
    rw [ek, g2]
  have e1 : g.1 (5, i, g.2 (3, i, 0) k) 1 = nI d := by rw [← hkd, ek, g2]
  have e3 : g.1 (5, i, g.2 (3, i, 0) k) 3 = lf (rdk h i k) := congrArg lf hr
  have hdk : dk5 (rdk h i k) = nI d := hkd
  unfold swB
  dsimp only
  rw [e1, e3, i_cl (show d < 2 ^ 31 by omega)]
  unfold SW
  rw [LC_succ h i k, live_app]
  by_cases z : 0 < lf (rdk h i k)
  · rw [if_pos z]
    have dz : ∀ e, cdead (nI e) (LC h i k ++ [rdk h i k]) = cdead (nI e) (LC h i k) := by
      intro e
      rw [dead_app]
      unfold cdead
      rw [List.filter_cons, if_neg (by simpa using z)]
      rfl
    have lz : live [rdk h i k] = [rdk h i k] := by rw [live_cons, if_pos z]; rfl
    generalize hG : up2 (up2 g (3, i, 0) k (g.2 (3, i, 0) m)) (3, i, 0) m (g.2 (3, i, 0) k) = G
    have G1 : G.1 = g.1 := by rw [← hG]; rfl
    have Gp : ∀ p, G.2 (3, i, 0) p = if p = m then g.2 (3, i, 0) k else if p = k then g.2 (3, i, 0) m else g.2 (3, i, 0) p := fun p => by
      rw [← hG, up2_s, up2_s]
    refine ⟨by omega, fun j => by rw [G1]; exact g2 j, by rw [G1]; exact g3, by rw [G1]; exact g4, fun e f hf => by rw [G1]; exact g5 e f hf, fun e he => by rw [dz, G1]; exact g6 e he, fun p hp => ?_, ?_, fun a b ha hb hab => ?_, fun κ hκ => ?_, fun h30 p hp => ?_⟩
    · dsimp only
      rw [Gp, if_neg (by omega), if_neg (by omega)]
      exact g7 p (by omega)
    · dsimp only
      rw [LC_succ, lz, ← g8]
      have em : rdk G i m = rdk h i k := by
        rw [← hr]
        unfold rdk
        rw [G1, Gp, if_pos rfl]
      rw [em]
      congr 1
      refine LC_cg (fun j hj => ?_)
      unfold rdk
      rw [G1, Gp, if_neg (by omega), if_neg (by omega)]
    · dsimp only at hab
      rw [Gp, Gp] at hab
      by_cases a1 : a = m
      · by_cases b1 : b = m
        · omega
        · rw [if_pos a1, if_neg b1] at hab
          by_cases b2 : b = k
          · rw [if_pos b2] at hab
            have := g9 k m hk (by omega) hab
            omega
          · rw [if_neg b2] at hab
            have := g9 k b hk hb hab
            omega
      · rw [if_neg a1] at hab
        by_cases a2 : a = k
        · rw [if_pos a2] at hab
          by_cases b1 : b = m
          · rw [if_pos b1] at hab
            have := g9 m k (by omega) hk hab
            omega
          · rw [if_neg b1] at hab
            by_cases b2 : b = k
            · omega
            · rw [if_neg b2] at hab
              have := g9 m b (by omega) hb hab
              omega
        · rw [if_neg a2] at hab
          by_cases b1 : b = m
          · rw [if_pos b1] at hab
            have := g9 a k ha hk hab
            omega
          · rw [if_neg b1] at hab
            by_cases b2 : b = k
            · rw [if_pos b2] at hab
              have := g9 a m ha (by omega) hab
              omega
            · rw [if_neg b2] at hab
              exact g9 a b ha hb hab
    · rw [← hG, up2_o _ _ _ _ _ hκ, up2_o _ _ _ _ _ hκ]
      exact g10 κ hκ
    · dsimp only
      rw [Gp]
      split
      · exact g11 h30 k hk
      · split
        · exact g11 h30 m (by omega)
        · exact g11 h30 p hp
  · rw [if_neg z]
    have dz : ∀ e, e < 12 → cdead (nI e) (LC h i k ++ [rdk h i k]) = cdead (nI e) (LC h i k) + (if e = d then 1 else 0) := by
      intro e he
      rw [dead_app]
      congr 1
      unfold cdead
      rw [List.filter_cons, if_pos (by simpa using z), cntD_cons, hdk]
      by_cases ze : e = d
      · rw [if_pos ze, if_pos (by rw [ze])]
        rfl
      · rw [if_neg ze, if_neg (fun t => ze (nI_inj (by omega) (by omega) t).symm)]
        rfl
    have lz : live [rdk h i k] = [] := by rw [live_cons, if_neg z]; rfl
    refine ⟨by show m ≤ k + 1; omega, fun j => by rw [up1_ne _ _ _ (by simp)]; exact g2 j, by rw [up1_ne _ _ _ (by simp)]; exact g3, by rw [up1_ne _ _ _ (by simp)]; exact g4, fun e f hf => ?_, fun e he => ?_, fun p hp => g7 p (by omega), ?_, g9, g10, g11⟩
    · dsimp only
      rw [up1_1, if_neg (fun t => hf t.2)]
      exact g5 e f hf
    · dsimp only
      rw [dz e he, up1_1]
      by_cases ze : e = d
      · subst ze
        rw [if_pos ⟨rfl, rfl⟩, if_pos rfl, ← g6 e he, ← nI_add, Int32.add_comm (nI _) (nI 1), ← Int32.add_assoc, Int32.sub_eq_add_neg, Int32.add_assoc _ (-1), show ((-1 : Int32) + nI 1) = 0 by decide, Int32.add_zero]
      · rw [if_neg (fun t => ze (by simpa using t.1)), if_neg ze]
        exact g6 e he
    · dsimp only
      rw [lz, List.append_nil, ← g8]
      exact LC_cg (fun j _ => rdk_o (show (4 : Nat) ≠ 5 by decide) _ _)
theorem SW_all {h : DH} {i c : Nat} (hc : c ≤ 30) (hp : pmi h i) (hk0 : rok h i c) : ∀ k, k ≤ c → SW h i k (sw h i k) := by
  intro k
  induction k with
  | zero =>
    intro _
    refine ⟨Nat.le_refl _, fun _ => rfl, rfl, rfl, fun _ _ _ => rfl, fun e _ => ?_, fun _ _ => rfl, rfl, hp, fun _ _ => rfl, fun t => t⟩
    show _ + (0 : Int32) = _
    rw [Int32.add_zero]
    rfl
  | succ k ih => intro hk; exact SW_step (by omega) (hk0 k (by omega)) (ih (by omega))
