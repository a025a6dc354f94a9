/-! the class: what would come -/
theorem stopAt (P : Nat → Prop) (hd : ∀ j, P j ∨ ¬ P j) : ∀ L, ∃ N, N ≤ L ∧ (∀ j, j < N → P j) ∧ (N = L ∨ ¬ P N) := by
  intro L
  induction L with
  | zero => exact ⟨0, Nat.le_refl _, fun j hj => absurd hj (by omega), Or.inl rfl⟩
  | succ L ih =>
    obtain ⟨N, h1, h2, h3⟩ := ih
    rcases hd N with z | z
    · rcases h3 with h3 | h3
      · subst h3
        refine ⟨N + 1, Nat.le_refl _, fun j hj => ?_, Or.inl rfl⟩
        rcases Nat.lt_succ_iff_lt_or_eq.mp hj with q | q
        · exact h2 j q
        · rw [q]; exact z
      · exact absurd z h3
    · exact ⟨N, by omega, h2, Or.inr z⟩
/-- a loop whose states are known by what holds of them -/
theorem Runs.ex {T : DTbl} {C : DC} (N : Nat) (Q : DRes → Prop) (Inv : Nat → DS → Prop) (hb : ∀ k A, k < N → Inv k A → (∃ r, Q r ∧ Runs T C A r) ∨ ∃ B, Inv (k + 1) B ∧ ∀ r, Runs T C B r → Runs T C A r) (he : ∀ A, Inv N A → ∃ r, Q r ∧ Runs T C A r) : ∀ A, Inv 0 A → ∃ r, Q r ∧ Runs T C A r := by
  have key : ∀ k, k ≤ N → ∀ A, Inv (N - k) A → ∃ r, Q r ∧ Runs T C A r := by
    intro k
    induction k with
    | zero => intro _ A hA; exact he A hA
    | succ k ih =>
      intro hk A hA
      rcases hb (N - (k + 1)) A (by omega) hA with h | ⟨B, hB, h⟩
      · exact h
      · rw [show N - (k + 1) + 1 = N - k from by omega] at hB
        obtain ⟨r, hr, hrun⟩ := ih (by omega) B hB
        exact ⟨r, hr, h r hrun⟩
  intro A hA
  exact key N (Nat.le_refl _) A (by rw [Nat.sub_self]; exact hA)
def trl (h : DH) (c : Nat) (most : Int32) : DH := up1 (cfull h 1 0 c) (1, 1, 0) 8 most
theorem c_begin (n : Nat) (most : Int32) (h : DH) {c : Nat} (hk : cpk h 0 c) : dEx (n + 3) 83 [.inr (6, 0, 0), .inl most] h (none, trl h c most) := by
  refine dx_83 ?_
  refine Runs.go 4 rfl trivial ?_
  refine Runs.calv rfl (c_copy n 1 0 h (by decide) hk) ?_
  refine Runs.go 6 rfl ⟨trivial, (by unfold vp_in; decide)⟩ ?_
  exact Runs.fin rfl trivial
theorem c_until (n : Nat) (most : Int32) (h : DH) {c L N : Nat} (hk : cpk h 0 c) (hL : L ≤ 400) (hN : N ≤ L) (hok : ∀ j, j < N → pkok (pk (trl h c most) 1 j) 1) (hgo : ∀ j, j < N → 0 < (pk (trl h c most) 1 j).1 (0, 1, 0) 3 ∧ (pk (trl h c most) 1 j).1 (0, 1, 0) 10 = 0) (hst : N = L ∨ ¬ (0 < (pk (trl h c most) 1 N).1 (0, 1, 0) 3 ∧ (pk (trl h c most) 1 N).1 (0, 1, 0) 10 = 0)) : dEx (n + 5) 82 [.inr (6, 0, 0), .inl most, .inl (nI L)] h (some (.inl (if (pk (trl h c most) 1 N).1 (0, 1, 0) 3 = 0 then nI N else -5)), pk (trl h c most) 1 N) := by
  refine dx_82 ?_
  refine Runs.go 2 rfl trivial ?_
  refine Runs.calv rfl (c_begin (n + 1) most h hk) ?_
  generalize trl h c most = g at *
  refine Runs.go 2 rfl trivial ?_
  generalize hr : ((some (.inl (if (pk g 1 N).1 (0, 1, 0) 3 = 0 then nI N else -5)) : Option DV), pk g 1 N) = r
  have fin : Runs dT_82 (dEx (n + 4)) (45, [some (.inr (6, 0, 0)), some (.inl most), some (.inl (nI L)), some (.inl (nI N))], [], pk g 1 N) r := by
    refine Runs.go 4 rfl trivial ?_
    by_cases z : (pk g 1 N).1 (0, 1, 0) 3 = 0
    · rw [if_pos z] at hr
      refine Runs.ifT z ?_
      refine Runs.go 2 rfl trivial ?_
      exact Runs.fin (by rw [← hr]; rfl) trivial
    · rw [if_neg z] at hr
      refine Runs.ifF z ?_
      refine Runs.go 1 rfl trivial ?_
      exact Runs.fin (by rw [← hr]; rfl) trivial
  refine Runs.loop N (fun k => (7, [some (.inr (6, 0, 0)), some (.inl most), some (.inl (nI L)), some (.inl (nI k))], [], pk g 1 k)) (fun k hk2 ih => ?_) ?_
  · refine Runs.go 3 rfl trivial ?_
    refine Runs.ifF (nI_ge (show k < L by omega) (by omega)) ?_
    obtain ⟨g1, g2⟩ := hgo k hk2
    obtain ⟨c', h1, h2, h3⟩ := hok k hk2
    rw [show pk g 1 (k + 1) = tick (pk g 1 k) 1 ((pk g 1 k).1 (0, 1, 0) 3).toNatClampNeg from rfl, h1, i_cl (show c' < 2 ^ 31 by omega)] at ih
    generalize pk g 1 k = q at g1 g2 h1 h3 ih ⊢
    refine Runs.go 4 rfl trivial ?_
    refine Runs.ifF (fun t => absurd g1 (Int32.not_lt.mpr t)) ?_
    refine Runs.go 4 rfl trivial ?_
    rw [g2]
    refine Runs.ifT rfl ?_
    refine Runs.go 2 rfl trivial ?_
    refine Runs.calv rfl (c_tick n 1 q h1 h2 h3) ?_
    refine Runs.go 2 rfl trivial ?_
    rw [nI_1]
    exact ih
  · refine Runs.go 3 rfl trivial ?_
    by_cases z : N = L
    · refine Runs.ifT (by rw [z]; exact Int32.le_refl _) ?_
      exact fin
    · refine Runs.ifF (nI_ge (show N < L by omega) (by omega)) ?_
      have hq := hst.resolve_left z
      refine Runs.go 4 rfl trivial ?_
      by_cases z1 : 0 < (pk g 1 N).1 (0, 1, 0) 3
      · refine Runs.ifF (fun t => absurd z1 (Int32.not_lt.mpr t)) ?_
        refine Runs.go 4 rfl trivial ?_
        refine Runs.ifF (fun t => hq ⟨z1, t⟩) ?_
        exact fin
      · refine Runs.ifT (Int32.not_lt.mp z1) ?_
        exact fin
theorem c_ansIn0 (n : Nat) (x : Int32) (h : DH) {c : Nat} (hc : h.1 (0, 0, 0) 3 = nI c) (h30 : c ≤ 30) (hp' : cplc h 0 c x = none) : dEx (n + 5) 80 [.inr (6, 0, 0), .inl x] h (some (.inl (-1)), h) := by
  refine dx_80 ?_
  refine Runs.go 3 rfl trivial ?_
  refine Runs.cal rfl (c_placeOf (n + 3) 0 x h hc h30) ?_
  rw [hp']
  refine Runs.go 3 rfl trivial ?_
  refine Runs.ifF (by decide) ?_
  refine Runs.go 1 rfl trivial ?_
  exact Runs.fin rfl trivial
def cplk (g : DH) (k : Nat) (x : Int32) : Option Nat := cplc (pk g 1 k) 1 ((pk g 1 k).1 (0, 1, 0) 3).toNatClampNeg x
theorem c_ansIn1 (n : Nat) (x : Int32) (h : DH) {c p d N : Nat} (hk : cpk h 0 c) (hp' : cplc h 0 c x = some p) (hd : (cfull h 1 0 c).1 (5, 0, (cfull h 1 0 c).2 (3, 0, 0) p) 1 = nI d) (hd12 : d < 12) (hN : N ≤ 400) (hok : ∀ j, j ≤ N → pkok (pk (cfull h 1 0 c) 1 j) 1) (hgo : ∀ j, j < N → (pk (cfull h 1 0 c) 1 j).1 (0, 1, 0) 10 = 0) (hgo2 : ∀ j, j < N → cplk (cfull h 1 0 c) j x ≠ none) (h0 : cplk (cfull h 1 0 c) 0 x ≠ none) (hst : N = 400 ∨ ¬ (pk (cfull h 1 0 c) 1 N).1 (0, 1, 0) 10 = 0 ∨ cplk (cfull h 1 0 c) N x = none) : dEx (n + 5) 80 [.inr (6, 0, 0), .inl x] h (some (.inl (if cplk (cfull h 1 0 c) N x = none ∧ ¬ (pk (cfull h 1 0 c) 1 N).1 (4, 1, d) 0 = 3 then nI N else -5)), pk (cfull h 1 0 c) 1 N) := by
  have p30 : p < 30 := by have := (fp_some hp').1; have := hk.2.1; omega
  refine dx_80 ?_
  refine Runs.go 3 rfl trivial ?_
  refine Runs.cal rfl (c_placeOf (n + 3) 0 x h hk.1 hk.2.1) ?_
  rw [hp']
  refine Runs.go 3 rfl trivial ?_
  rw [show oI (-1) (some p) = nI p from rfl]
  refine Runs.ifT (nI_pos' (by omega)) ?_
  refine Runs.go 4 rfl trivial ?_
  refine Runs.calv rfl (c_copy (n + 2) 1 0 h (by decide) hk) ?_
  generalize cfull h 1 0 c = g at *
  refine Runs.go 13 rfl ⟨⟨trivial, (by exact i_in p30 (by decide))⟩, (by rw [i_cl (show p < 2 ^ 31 by omega), hd]; exact i_in hd12 (by decide))⟩ ?_
  rw [i_cl (show p < 2 ^ 31 by omega), hd, i_cl (show d < 2 ^ 31 by omega)]
  generalize hr : ((some (.inl (if cplk g N x = none ∧ ¬ (pk g 1 N).1 (4, 1, d) 0 = 3 then nI N else -5)) : Option DV), pk g 1 N) = r
  have key : ∀ k, k ≤ N → cplk g k x ≠ none → Runs dT_80 (dEx (n + 4)) (50, [some (.inr (6, 0, 0)), some (.inl x), some (.inl (nI p)), some (.inr (4, 1, d)), some (.inl (nI (k + 1)))], [], pk g 1 k) r := by
    intro k hk2
    have fin : k = N → cplk g N x ≠ none → Runs dT_80 (dEx (n + 4)) (108, [some (.inr (6, 0, 0)), some (.inl x), some (.inl (nI p)), some (.inr (4, 1, d)), some (.inl (nI (k + 1)))], [], pk g 1 k) r := by
      intro e hq
      rw [if_neg (fun t => hq t.1)] at hr
      rw [e]
      refine Runs.go 1 rfl trivial ?_
      exact Runs.fin (by rw [← hr]; rfl) trivial
    induction hm : N - k generalizing k with
    | zero =>
      intro hq
      have e : k = N := by omega
      refine Runs.go 3 rfl trivial ?_
      by_cases z : N = 400
      · refine Runs.ifT (by rw [e, z]; decide) ?_
        exact fin e (by rw [← e]; exact hq)
      · refine Runs.ifF (nI_nlt (show k + 1 ≤ 400 by omega) (by decide)) ?_
        refine Runs.go 4 rfl trivial ?_
        have hb : ¬ (pk g 1 k).1 (0, 1, 0) 10 = 0 := by
          rw [e]
          refine (hst.resolve_left z).resolve_right ?_
          rw [← e]; exact hq
        refine Runs.ifF hb ?_
        exact fin e (by rw [← e]; exact hq)
    | succ m ih =>
      intro hq
      refine Runs.go 3 rfl trivial ?_
      refine Runs.ifF (nI_nlt (show k + 1 ≤ 400 by omega) (by decide)) ?_
      refine Runs.go 4 rfl trivial ?_
      rw [hgo k (by omega)]
      refine Runs.ifT rfl ?_
      obtain ⟨c', h1, h2, h3⟩ := hok k (by omega)
      obtain ⟨c2, u1, u2, u3⟩ := hok (k + 1) (by omega)
      have e1 : pk g 1 (k + 1) = tick (pk g 1 k) 1 c' := by
        rw [show pk g 1 (k + 1) = tick (pk g 1 k) 1 ((pk g 1 k).1 (0, 1, 0) 3).toNatClampNeg from rfl, h1, i_cl (show c' < 2 ^ 31 by omega)]
      refine Runs.go 2 rfl trivial ?_
      refine Runs.calv rfl (c_tick n 1 (pk g 1 k) h1 h2 h3) ?_
      rw [← e1]
      refine Runs.go 3 rfl trivial ?_
      refine Runs.cal rfl (c_placeOf (n + 3) 1 x (pk g 1 (k + 1)) u1 u2) ?_
      have e2 : cplk g (k + 1) x = cplc (pk g 1 (k + 1)) 1 c2 x := by
        unfold cplk
        rw [u1, i_cl (show c2 < 2 ^ 31 by omega)]
      rw [← e2]
      refine Runs.go 1 rfl trivial ?_
      cases hq2 : cplk g (k + 1) x with
      | none =>
        have eN : k + 1 = N := by
          refine Decidable.byContradiction fun t => ?_
          exact hgo2 (k + 1) (by omega) hq2
        refine Runs.ifF (by decide) ?_
        refine Runs.go 4 rfl trivial ?_
        rw [← eN] at hr
        by_cases z3 : (pk g 1 (k + 1)).1 (4, 1, d) 0 = 3
        · rw [if_neg (fun t => t.2 z3)] at hr
          refine Runs.ifT z3 ?_
          refine Runs.go 2 rfl trivial ?_
          exact Runs.fin (by rw [← hr]; rfl) trivial
        · rw [if_pos ⟨hq2, z3⟩] at hr
          refine Runs.ifF z3 ?_
          refine Runs.go 1 rfl trivial ?_
          exact Runs.fin (by rw [← hr]; rfl) trivial
      | some p2 =>
        have p2l : p2 < 30 := by
          rw [e2] at hq2
          have := (fp_some hq2).1
          omega
        rw [show oI (-1) (some p2) = nI p2 from rfl]
        refine Runs.ifT (nI_pos' (by omega)) ?_
        refine Runs.go 2 rfl trivial ?_
        rw [nI_1]
        refine ih (k + 1) (by omega) (fun e hq => ?_) (by omega) (by rw [hq2]; simp)
        rw [if_neg (fun t => hq t.1)] at hr
        rw [e]
        refine Runs.go 1 rfl trivial ?_
        exact Runs.fin (by rw [← hr]; rfl) trivial
  exact key 0 (by omega) h0
