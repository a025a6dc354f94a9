/-! a tick keeps what the property asks; what is gone is answered or lost -/
def ans (s : Nat → Int32) : Nat := (s 13).toNatClampNeg
def wtd (s : Nat → Int32) : Nat := (s 20).toNatClampNeg
def TP (T : Nat) (s s' : Nat → Int32) : Prop :=
  ((LM s' (cc s')).map k3).Sublist ((LM s (cc s)).map k3) ∧ ans s ≤ ans s' ∧ wtd s ≤ wtd s' ∧
  (∀ r ∈ LM s (cc s), k3 r ∈ (LM s' (cc s')).map k3 ∨ (∃ e, e < 12 ∧ dk5 r = nI e ∧ s' (oD e 0) = 3) ∨ (ans s + 1 ≤ ans s' ∧ wtd s + (T + 1) ≤ wtd s' + ask r)) ∧
  ∀ e, e < 12 → s (oD e 0) = 3 → s' (oD e 0) = 3
theorem fin_Q {t : Nat → Int32} {T : Nat} (h10 : t 10 = nI T) (hT : T < 110000) (h1 : Q1 t) (h2 : Q2 (t 12) (LM t (cc t))) (h3 : Q3 (t 10) (LM t (cc t))) (h4 : Q4 t (cc t)) (h5 : Q5 t (12 * T + 12)) (h6 : Q6 t (T + 1)) (h11 : ¬ t 11 < 0) : QI (T + 1) (tkM2 t) ∧ LM (tkM2 t) (cc (tkM2 t)) = LM t (cc t) ∧ (∀ e w, e < 12 → w < 6 → tkM2 t (oD e w) = t (oD e w)) ∧ tkM2 t 13 = t 13 ∧ tkM2 t 20 = t 20 := by
  have kD : ∀ e w, e < 12 → w < 6 → tkM2 t (oD e w) = t (oD e w) := fun e w he hw => tkM2_o t (by unfold oD; omega)
  have ecc : cc (tkM2 t) = cc t := cc_cg (tkM2_o t (by decide))
  have eL : LM (tkM2 t) (cc (tkM2 t)) = LM t (cc t) := by rw [ecc]; exact LM_cg (fun k hk _ => tkM2_o t (by omega))
  have e12 : tkM2 t 12 = t 12 := tkM2_o t (by decide)
  have e13 : tkM2 t 13 = t 13 := tkM2_o t (by decide)
  have e14 : tkM2 t 14 = t 14 := tkM2_o t (by decide)
  have e18 : tkM2 t 18 = t 18 := tkM2_o t (by decide)
  have e19 : tkM2 t 19 = t 19 := tkM2_o t (by decide)
  have e20 : tkM2 t 20 = t 20 := tkM2_o t (by decide)
  have e10 : tkM2 t 10 = nI (T + 1) := by rw [tkM2_10, h10, nI_1]
  refine ⟨⟨e10, by omega, h1.cg (fun e he h => Or.inl ⟨(kD e 0 he (by decide)).symm.trans h, kD e 2 he (by decide)⟩), by rw [e12, eL]; exact h2, ?_, ?_, h5.cg (by omega) (fun e he h => (kD e 0 he (by decide)).symm.trans h) (fun e he => Or.inl (kD e 5 he (by decide))) e18 e19, ?_, ?_⟩, eL, kD, e13, e20⟩
  · rw [e10, eL]
    exact h3.mono (by rw [h10]; exact nI_le (by omega) (by omega))
  · unfold Q4
    rw [e12, e13, e14, ecc]
    exact h4
  · unfold Q6
    rw [e13, e20]
    exact h6
  · obtain ⟨x, hx⟩ := tkM2_11 t
    rw [hx]
    exact mx_n0 h11
theorem Q3.nat {t : Nat → Int32} {T : Nat} {L : List R5} (h : Q3 (t 10) L) (h10 : t 10 = nI T) (hT : T < 200000) : ∀ r ∈ L, ∃ a, a ≤ T ∧ r.2.2.2.2 = nI a := by
  intro r hr
  obtain ⟨h1, h2⟩ := h r hr
  obtain ⟨a, ha, e⟩ := nI_of h1
  refine ⟨a, ?_, e⟩
  rcases Nat.lt_or_ge T a with z | z
  · exact absurd (by rw [h10, e]; exact nI_lt z ha) h2
  · exact z
theorem ans_of {s : Nat → Int32} {a : Nat} (h : s 13 = nI a) (ha : a ≤ 500) : ans s = a := by unfold ans; rw [h, i_cl (by omega)]
theorem wtd_of {s : Nat → Int32} {w : Nat} (h : s 20 = nI w) (hw : w < 2 ^ 31) : wtd s = w := by unfold wtd; rw [h, i_cl hw]
theorem Q6.bd {s : Nat → Int32} {T : Nat} (h : Q6 s T) (hT : T ≤ 110001) : ∃ a W : Nat, a ≤ 500 ∧ s 13 = nI a ∧ s 20 = nI W ∧ W ≤ a * T ∧ W < 2 ^ 31 := by
  obtain ⟨a, W, h1, h2, h3, h4⟩ := h
  have : a * T ≤ 500 * 110001 := Nat.mul_le_mul h1 hT
  exact ⟨a, W, h1, h2, h3, h4, by omega⟩
theorem Q6.up {s : Nat → Int32} {T : Nat} (h : Q6 s T) : Q6 s (T + 1) := by
  obtain ⟨a, W, h1, h2, h3, h4⟩ := h
  exact ⟨a, W, h1, h2, h3, Nat.le_trans h4 (Nat.mul_le_mul (Nat.le_refl _) (by omega))⟩
theorem tick_Q {h : DH} {i c : Nat} {s : Nat → Int32} (f : Nat → Int32) (hs : SR h i c s) {T : Nat} (hq : QI T s) (hT : T < 110000) : QI (T + 1) (tickM s f).1 ∧ TP T s (tickM s f).1 := by
  obtain ⟨q10, qT, q1, q2, q3, q4, q5, q6, q11⟩ := hq
  have h93 := hs.2.2.2.1
  have h30 := hs.2.2.1
  have hp := hs.2.2.2.2.2.1
  have y5 := hs.2.2.2.2.2.2.2.2.1.2.2.2.2
  have hk : okC s := ⟨c, h30, h93⟩
  rw [show (tickM s f).1 = tkM2 (tkM s f).1 from rfl]
  rcases y5 with z | z
  · have nz : ¬ s 15 = 1 := by rw [z]; decide
    rw [tkM_n nz]
    have rg := RG_all h30 hp (hs.RG (f := f)) 12 (Nat.le_refl _)
    obtain ⟨r1, r2, r3, r4, r5⟩ := read_row hs rg
    obtain ⟨a1, a2, a3, a4, a5, a6, a7, a8, -, a10⟩ := PA_all (f := f) hk q1 q5 12 (Nat.le_refl _)
    dsimp only
    generalize stM s f 12 = P at r1 r2 r3 r4 r5 a1 a2 a3 a4 a5 a6 a7 a8 a10 ⊢
    obtain ⟨p, f1⟩ := P
    dsimp only at r1 r2 r3 r4 r5 a1 a2 a3 a4 a5 a6 a7 a8 a10 ⊢
    obtain ⟨d1, d2, d3⟩ := rdM_D p 12 (Nat.le_refl _)
    have p10 : p 10 = nI T := (a6 10 (by decide) (by decide) (by decide)).trans q10
    have q3p : Q3 (p 10) (LM p (cc p)) := by rw [p10, ← q10]; exact q3.sub (fun r hr => a2.subset hr)
    obtain ⟨n, w, n1, n2, n3, n4, n5⟩ := pd_all T (by omega) (LM p (cc p)) (Ud p 12) (q3p.nat p10 (by omega))
    rw [p10, nI_1, n2] at r4
    rw [n1] at r3
    generalize rdM p 12 = M at r1 r2 r3 r4 r5 d1 d2 d3 ⊢
    have m1 : Q1 M := a7.cg (fun e he h3 => by
      rcases d2 e he with u | ⟨u1, u2⟩
      · exact Or.inl ⟨u.symm.trans h3, d1 e 2 he (by decide) (by decide) (by decide) (by decide)⟩
      · rw [u2] at h3; exact absurd h3 (by decide))
    have m5 : Q5 M (12 * T) := a8.cg (Nat.le_refl _) (fun e he h1 => by
      rcases d2 e he with u | ⟨u1, u2⟩
      · exact u.symm.trans h1
      · rw [u2] at h1; exact absurd h1 (by decide)) (fun e he => Or.inl (d1 e 5 he (by decide) (by decide) (by decide) (by decide))) (r5 18 (by decide) (by decide)) d3
    obtain ⟨c1, c2, c3, c4, c5⟩ := PC_all (f := f1) m1 m5 12 (Nat.le_refl _)
    generalize nsM M f1 12 = N at c1 c2 c3 c4 c5 ⊢
    have eN : cc N = cc M := cc_cg (c1 93 (by decide))
    have eLN : LM N (cc N) = LM M (cc M) := by rw [eN]; exact LM_cg (fun k hk _ => c1 k (by omega))
    have kM : ∀ k, k < 13 → 10 ≤ k → N k = s k := fun k hk hk2 => (c2 k (by omega) (by omega)).trans ((r5 k (by omega) (by omega)).trans (a6 k (by omega) (by omega) (by omega)))
    have lenM : cc M = (LM M (cc M)).length := (LM_len _ _).symm
    have lenp : cc p = (LM p (cc p)).length := (LM_len _ _).symm
    have sub3 : ((LM N (cc N)).map k3).Sublist ((LM s (cc s)).map k3) := by
      rw [eLN, r2]
      exact (pd_k3 _ _).trans (a2.map k3)
    obtain ⟨a, b, A, w12, w13, w14, wle, wA⟩ := q4
    obtain ⟨a', W, v1, v2, v3, v4, v5⟩ := q6.bd (by omega)
    have ea : a' = a := nI_inj (by omega) (by omega) (v2.symm.trans w13)
    subst ea
    have len1 : cc M + n = cc p := by rw [lenM, r2, n3, ← lenp]
    have M13 : M 13 = nI (a' + n) := by rw [r3, a6 13 (by decide) (by decide) (by decide), w13, nI_add]
    have M20 : M 20 = nI (W + w) := by rw [r4, a6 20 (by decide) (by decide) (by decide), v3, nI_add]
    have N13 : N 13 = nI (a' + n) := (c2 13 (by decide) (by decide)).trans M13
    have N20 : N 20 = nI (W + w) := (c2 20 (by decide) (by decide)).trans M20
    have hWb : W + w ≤ (a' + n) * (T + 1) := by
      have : a' * T ≤ a' * (T + 1) := Nat.mul_le_mul (Nat.le_refl _) (by omega)
      rw [Nat.add_mul]
      omega
    have hWb2 : (a' + n) * (T + 1) ≤ 500 * 110001 := Nat.mul_le_mul (by omega) (by omega)
    obtain ⟨g1, g2, g3, g4, g5⟩ := fin_Q (t := N) (T := T) ((kM 10 (by decide) (by decide)).trans q10) hT c3 (by rw [kM 12 (by decide) (by decide)]; exact q2.via sub3) (by rw [kM 10 (by decide) (by decide)]; exact q3.via sub3) ⟨a' + n, b + (cc s - cc p), A, (kM 12 (by decide) (by decide)).trans w12, N13, by rw [c2 14 (by decide) (by decide), r5 14 (by decide) (by decide), a3, w14, nI_add], by rw [eN]; omega, wA⟩ c4 ⟨a' + n, W + w, by omega, N13, N20, hWb⟩ (by rw [kM 11 (by decide) (by decide)]; exact q11)
    refine ⟨g1, by rw [g2]; exact sub3, ?_, ?_, fun r hr => ?_, fun e he h3 => ?_⟩
    · rw [ans_of w13 (by omega), ans_of (g4.trans N13) (by omega)]; omega
    · rw [wtd_of v3 v5, wtd_of (g5.trans N20) (by omega)]; omega
    · rw [g2, eLN, r2]
      rcases a5 r hr with u | ⟨e, e1, e2, e3⟩
      · rcases n5 r u with x | ⟨x1, x2⟩
        · exact Or.inl x
        · refine Or.inr (Or.inr ⟨?_, ?_⟩)
          · rw [ans_of w13 (by omega), ans_of (g4.trans N13) (by omega)]; omega
          · rw [wtd_of v3 v5, wtd_of (g5.trans N20) (by omega)]; omega
      · refine Or.inr (Or.inl ⟨e, e1, e2, ?_⟩)
        rw [g3 e 0 e1 (by decide)]
        refine (c5 e e1).mpr ?_
        rcases d2 e e1 with u | ⟨u1, u2⟩
        · exact u.trans e3
        · rw [e3] at u1; exact absurd u1 (by decide)
    · rw [g3 e 0 he (by decide)]
      refine (c5 e he).mpr ?_
      have p3 := a10 e he h3
      rcases d2 e he with u | ⟨u1, u2⟩
      · exact u.trans p3
      · rw [p3] at u1; exact absurd u1 (by decide)
  · rw [tkM_p z]
    dsimp only
    obtain ⟨e1, e2, e3, e4, e5, e6⟩ := PD_all (c := cc s) q1 q5 12 (Nat.le_refl _)
    generalize coM s (cc s) 12 = N at e1 e2 e3 e4 e5 e6 ⊢
    have eN : cc N = cc s := cc_cg e2
    rw [← eN] at e1
    have sub3 : ((LM N (cc N)).map k3).Sublist ((LM s (cc s)).map k3) := by rw [e1, eN]; exact List.Sublist.refl _
    obtain ⟨a, W, v1, v2, v3, v4, v5⟩ := q6.bd (by omega)
    obtain ⟨g1, g2, g3, g4, g5⟩ := fin_Q (t := N) (T := T) ((e3 10 (by decide)).trans q10) hT e4 (by rw [e3 12 (by decide)]; exact q2.via sub3) (by rw [e3 10 (by decide)]; exact q3.via sub3) (by unfold Q4; rw [e3 12 (by decide), e3 13 (by decide), e3 14 (by decide), eN]; exact q4) (e5.cg (by omega) (fun _ _ q => q) (fun _ _ => Or.inl rfl) rfl rfl) (by unfold Q6; rw [e3 13 (by decide), e3 20 (by decide)]; exact q6.up) (by rw [e3 11 (by decide)]; exact q11)
    refine ⟨g1, by rw [g2]; exact sub3, ?_, ?_, fun r hr => Or.inl ?_, fun e he h3 => ?_⟩
    · rw [ans_of v2 v1, ans_of (g4.trans ((e3 13 (by decide)).trans v2)) v1]; exact Nat.le_refl _
    · rw [wtd_of v3 v5, wtd_of (g5.trans ((e3 20 (by decide)).trans v3)) v5]; exact Nat.le_refl _
    · rw [g2, e1, eN]
      exact List.mem_map_of_mem hr
    · rw [g3 e 0 he (by decide)]
      exact (e6 e he).mpr h3
