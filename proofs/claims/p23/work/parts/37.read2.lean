/-! reading: both sides, disk by disk -/
def Ud (s : Nat → Int32) : Nat → (Int32 → Bool)
  | 0 => fun _ => false
  | d + 1 => if s (oD d 0) = 2 then un (Ud s d) (nI d) else Ud s d
theorem Ud_e (s : Nat → Int32) : ∀ d, d ≤ 12 → ∀ e, e < 12 → (Ud s d (nI e) = true ↔ e < d ∧ s (oD e 0) = 2) := by
  intro d
  induction d with
  | zero =>
    intro _ e _
    exact ⟨fun t => absurd (show false = true from t) (by decide), fun t => absurd t.1 (by omega)⟩
  | succ d ih =>
    intro hd e he
    have h1 := ih (by omega) e he
    show (if s (oD d 0) = 2 then un (Ud s d) (nI d) else Ud s d) (nI e) = true ↔ _
    by_cases z : s (oD d 0) = 2
    · rw [if_pos z]
      unfold un
      rw [Bool.or_eq_true, h1, decide_eq_true_iff]
      constructor
      · rintro (t | t)
        · exact ⟨by omega, t.2⟩
        · have := nI_inj (by omega) (by omega) t
          subst this
          exact ⟨by omega, z⟩
      · rintro ⟨t1, t2⟩
        by_cases ze : e = d
        · rw [ze]; exact Or.inr rfl
        · exact Or.inl ⟨by omega, t2⟩
    · rw [if_neg z, h1]
      constructor
      · rintro ⟨t1, t2⟩
        exact ⟨by omega, t2⟩
      · rintro ⟨t1, t2⟩
        by_cases ze : e = d
        · subst ze; exact absurd t2 z
        · exact ⟨by omega, t2⟩
def RD (i : Nat) (s1 : Nat → Int32) (L : List R5) (d : Nat) (G : DH) (M : Nat → Int32) : Prop :=
  (∀ n, n < 10 → G.1 (1, i, 0) n = M n) ∧ (∀ k, 4 ≤ k → k < 15 → k ≠ 5 → k ≠ 7 → G.1 (0, i, 0) k = M (ms k)) ∧
  (∀ e, e < d → e < 12 → ∀ f, f < 6 → G.1 (4, i, e) f = M (oD e (mf f))) ∧
  (∀ e, d ≤ e → e < 12 → (∀ f, f < 6 → f ≠ 3 → G.1 (4, i, e) f = M (oD e (mf f))) ∧ (∀ w, w < 6 → M (oD e w) = s1 (oD e w)) ∧ G.1 (4, i, e) 3 = if s1 (oD e 0) = 2 ∧ hasD (nI e) L = true then 0 else s1 (oD e 3)) ∧
  okC M ∧ LM M (cc M) = pd (Ud s1 d) L ∧ M 13 = s1 13 + nd (Ud s1 d) L ∧ M 20 = s1 20 + wt (s1 10 + 1) (Ud s1 d) L ∧
  (∀ k, k < 19 → k ≠ 13 → M k = s1 k) ∧ (∀ e, e < 12 → DInv M e) ∧ (∀ r ∈ LM M (cc M), RInv M r)
theorem RD_mk {i d : Nat} {s1 : Nat → Int32} {L : List R5} {G G' : DH} {M M' : Nat → Int32} (hd : d < 12) (hg : RD i s1 L d G M)
    (hG : ∀ κ : DKey, κ ≠ (4, i, d) → G'.1 κ = G.1 κ) (hM : ∀ k, k < 93 → (∀ w, w < 6 → k ≠ oD d w) → k ≠ 13 → k ≠ 20 → M' k = M k) (row : ∀ f, f < 6 → G'.1 (4, i, d) f = M' (oD d (mf f)))
    (h1 : okC M') (h2 : LM M' (cc M') = pd (Ud s1 (d + 1)) L) (h3 : M' 13 = s1 13 + nd (Ud s1 (d + 1)) L) (h4 : M' 20 = s1 20 + wt (s1 10 + 1) (Ud s1 (d + 1)) L) (h5 : DInv M' d) (h6 : ∀ r ∈ LM M' (cc M'), RInv M' r) : RD i s1 L (d + 1) G' M' := by
  obtain ⟨g1, g2, g3, g4, g5, g6, g7, g8, g9, g10, g11⟩ := hg
  have hoD : ∀ e w, e ≠ d → e < 12 → w < 6 → M' (oD e w) = M (oD e w) := fun e w he he2 hw => hM _ (by unfold oD; omega) (fun w' hw' => by unfold oD; omega) (by unfold oD; omega) (by unfold oD; omega)
  refine ⟨fun n hn => ?_, fun k hk hk2 hk5 hk7 => ?_, fun e he he2 f hf => ?_, fun e he he2 => ⟨fun f hf hf3 => ?_, fun w hw => ?_, ?_⟩, h1, h2, h3, h4, fun k hk hk13 => ?_, fun e he => ?_, h6⟩
  · rw [hG _ (by simp), hM n (by omega) (fun w hw => by unfold oD; omega) (by omega) (by omega)]
    exact g1 n hn
  · have a1 := ms_lt k
    have a2 : ms k ≠ 13 := fun t => hk5 (ms_inj hk hk2 (by decide) (by decide) (t.trans rfl))
    have a3 : ms k ≠ 20 := fun t => hk7 (ms_inj hk hk2 (by decide) (by decide) (t.trans rfl))
    rw [hG _ (by simp), hM _ (by omega) (fun w hw => by unfold oD; omega) a2 a3]
    exact g2 k hk hk2 hk5 hk7
  · by_cases ze : e = d
    · subst ze
      exact row f hf
    · rw [hG _ (by simp [ze]), hoD e _ ze he2 (mf_lt hf)]
      exact g3 e (by omega) he2 f hf
  · rw [hG _ (by simp; omega), hoD e _ (by omega) he2 (mf_lt hf)]
    exact (g4 e (by omega) he2).1 f hf hf3
  · rw [hoD e _ (by omega) he2 hw]
    exact (g4 e (by omega) he2).2.1 w hw
  · rw [hG _ (by simp; omega)]
    exact (g4 e (by omega) he2).2.2
  · rw [hM k (by omega) (fun w hw => by unfold oD; omega) hk13 (by omega)]
    exact g9 k hk hk13
  · by_cases ze : e = d
    · subst ze
      exact h5
    · exact (g10 e he).cg (fun w hw => hoD e w ze he hw)
theorem sb_v (g : DH) (κ : DKey) (f : Nat) : (sbH g κ).1 κ f = if f = 0 ∨ f = 1 ∨ f = 3 then 0 else g.1 κ f := by
  unfold sbH
  simp only [up1_1]
  by_cases h3 : f = 3
  · simp [h3]
  · by_cases h1 : f = 1
    · simp [h1]
    · by_cases h0 : f = 0
      · simp [h0]
      · simp [h0, h1, h3]
theorem sb_on {g : DH} {κ q : DKey} (h : q ≠ κ) : (sbH g κ).1 q = g.1 q := by
  unfold sbH
  rw [up1_ne _ _ _ h, up1_ne _ _ _ h, up1_ne _ _ _ h]
theorem mSb_v (s : Nat → Int32) (d w : Nat) : mSb s d (oD d w) = if w = 0 ∨ w = 1 ∨ w = 3 then 0 else s (oD d w) := by
  unfold mSb
  by_cases h3 : w = 3
  · subst h3; rw [upd_s]; rfl
  · rw [upd_n _ _ (by unfold oD; omega)]
    by_cases h1 : w = 1
    · subst h1; rw [upd_s]; rfl
    · rw [upd_n _ _ (by unfold oD; omega)]
      by_cases h0 : w = 0
      · subst h0; rw [upd_s]; rfl
      · rw [upd_n _ _ (by unfold oD; omega), if_neg (by omega)]
theorem mSb_on (s : Nat → Int32) (d k : Nat) (h : ∀ w, w < 6 → k ≠ oD d w) : mSb s d k = s k := by
  unfold mSb
  rw [upd_n _ _ (h 3 (by decide)), upd_n _ _ (h 1 (by decide)), upd_n _ _ (h 0 (by decide))]
theorem mf_013 : ∀ f, f < 6 → ((mf f = 0 ∨ mf f = 1 ∨ mf f = 3) ↔ (f = 0 ∨ f = 1 ∨ f = 3)) := by decide
theorem RD_step {h1 : DH} {i d : Nat} {s1 : Nat → Int32} {L : List R5} {G : DH} {M : Nat → Int32} {b : Int32} (hd : d < 12) (hb : b &&& bitOf (nI d) = 0 ↔ ¬ (s1 (oD d 0) = 2 ∧ hasD (nI d) L = true)) (hg : RD i s1 L d G M) : RD i s1 L (d + 1) (riB i b d G) (rdMB d M) := by
  have hg' := hg
  obtain ⟨g1, g2, g3, g4, g5, g6, g7, g8, g9, g10, g11⟩ := hg'
  obtain ⟨q1, q2, q3⟩ := g4 d (Nat.le_refl d) hd
  have r0 := q1 0 (by decide) (by decide)
  rw [show mf 0 = 0 from rfl] at r0
  have s0 := q2 0 (by decide)
  have s3 := q2 3 (by decide)
  obtain ⟨d0, d1, d2, d3, d4, d5⟩ := g10 d hd
  have n9 := g1 9 (by decide)
  unfold riB rdMB
  rw [r0]
  by_cases z : M (oD d 0) = 2
  · rw [if_pos z, if_pos z]
    have z1 : s1 (oD d 0) = 2 := s0.symm.trans z
    have hU : Ud s1 (d + 1) = un (Ud s1 d) (nI d) := if_pos z1
    have hUd : Ud s1 d (nI d) = false := by
      cases hh : Ud s1 d (nI d) with
      | false => rfl
      | true => exact absurd ((Ud_e s1 d (by omega) d hd).mp hh).1 (by omega)
    obtain ⟨u1, u2, u3⟩ := pd_un L (Ud s1 d) (nI d) hUd
    have hH := hasD_pd (nI d) L (Ud s1 d) hUd
    rw [← g6] at u1 u2 u3 hH
    cases hf : mfst M (cc M) (nI d) with
    | none =>
      have h0 := mfst_none.mp hf
      rw [h0] at hH
      obtain ⟨v1, v2, v3⟩ := pd_sg_no h0
      rw [v1] at u1
      rw [v2, Int32.add_zero] at u2
      have u3' : wt (s1 10 + 1) (un (Ud s1 d) (nI d)) L = wt (s1 10 + 1) (Ud s1 d) L := by rw [u3, v3, Int32.add_zero]
      rw [if_pos (hb.mpr (fun t => by rw [← hH] at t; exact absurd t.2 (by decide)))]
      dsimp only
      have q3' : G.1 (4, i, d) 3 = M (oD d 3) := by
        rw [q3, if_neg (fun t => by rw [← hH] at t; exact absurd t.2 (by decide)), s3]
      have nod : ∀ r ∈ LM M (cc M), dk5 r ≠ nI d := hasD_0.mp h0
      have inc : RD i s1 L (d + 1) (up1 G (4, i, d) 3 (G.1 (4, i, d) 3 + 1)) (upd M (oD d 3) (M (oD d 3) + 1)) := by
        have e93 : upd M (oD d 3) (M (oD d 3) + 1) 93 = M 93 := upd_n _ _ (by unfold oD; omega)
        have eL : LM (upd M (oD d 3) (M (oD d 3) + 1)) (cc (upd M (oD d 3) (M (oD d 3) + 1))) = LM M (cc M) := by rw [cc_cg e93, LM_oD hd (by decide)]
        refine RD_mk hd hg (fun κ hκ => up1_ne _ _ _ hκ) (fun k hk hw _ _ => upd_n _ _ (hw 3 (by decide))) (fun f hf => ?_) (g5.of e93) ?_ ?_ ?_ ?_ (fun r hr => ?_)
        · rw [up1_1]
          by_cases ze : f = 3
          · subst ze
            rw [if_pos ⟨rfl, rfl⟩, q3', show mf 3 = 3 from rfl, upd_s]
          · rw [if_neg (fun t => ze t.2), upd_n _ _ (fun t => ze (mf_inj hf (by decide) (by unfold oD at t; show mf f = 3; omega)))]
            exact q1 f hf ze
        · rw [eL, hU, u1]
        · rw [upd_n _ _ (by unfold oD; omega), hU, u2, g7]
        · rw [upd_n _ _ (by unfold oD; omega), hU, u3', g8]
        · have w0 : upd M (oD d 3) (M (oD d 3) + 1) (oD d 0) = 2 := by rw [upd_n _ _ (by unfold oD; omega)]; exact z
          refine ⟨⟨2, by decide, w0⟩, fun t => absurd (w0.symm.trans t) (by decide), fun _ => ?_, fun t => absurd w0 t, fun _ => ?_, ?_⟩
          · rw [upd_n _ _ (by unfold oD; omega)]; exact d2 (by rw [z]; decide)
          · rw [upd_n _ _ (by unfold oD; omega)]; exact d4 (by rw [z]; decide)
          · rw [upd_n _ _ (by unfold oD; omega)]; exact d5
        · rw [eL] at hr
          refine (g11 r hr).cg (fun e he _ => ?_)
          rw [upd_n _ _ (by unfold oD; omega)]
          exact ⟨(em_ne _ 3).symm, id⟩
      rw [n9]
      by_cases z9 : M 9 ≤ 0
      · rw [if_pos z9, if_pos z9]
        exact inc
      · rw [if_neg z9, if_neg z9, q3']
        by_cases z10 : M (oD d 3) + 1 < M 9
        · rw [if_pos z10, if_pos z10, ← q3']
          rw [q3']
          rw [q3'] at inc
          exact inc
        · rw [if_neg z10, if_neg z10]
          rw [← q3']
          have e93 : mSb (upd M (oD d 3) (M (oD d 3) + 1)) d 93 = M 93 := by rw [mSb_on _ _ _ (fun w hw => by unfold oD; omega), upd_n _ _ (by unfold oD; omega)]
          have eL : LM (mSb (upd M (oD d 3) (M (oD d 3) + 1)) d) (cc (mSb (upd M (oD d 3) (M (oD d 3) + 1)) d)) = LM M (cc M) := by rw [cc_cg e93, LM_mSb hd, LM_oD hd (by decide)]
          rw [q3']
          refine RD_mk hd hg (fun κ hκ => by rw [sb_on hκ, up1_ne _ _ _ hκ]) (fun k hk hw _ _ => by rw [mSb_on _ _ _ hw, upd_n _ _ (hw 3 (by decide))]) (fun f hf => ?_) (g5.of e93) ?_ ?_ ?_ ?_ (fun r hr => ?_)
          · rw [sb_v, mSb_v]
            by_cases ze : f = 0 ∨ f = 1 ∨ f = 3
            · rw [if_pos ze, if_pos ((mf_013 f hf).mpr ze)]
            · have ze' : ¬ (mf f = 0 ∨ mf f = 1 ∨ mf f = 3) := fun t => ze ((mf_013 f hf).mp t)
              rw [if_neg ze, if_neg ze', up1_1, if_neg (fun t => ze (Or.inr (Or.inr t.2))), upd_n _ _ (by unfold oD; omega)]
              exact q1 f hf (fun t => ze (Or.inr (Or.inr t)))
          · rw [eL, hU, u1]
          · rw [mSb_on _ _ _ (fun w hw => by unfold oD; omega), upd_n _ _ (by unfold oD; omega), hU, u2, g7]
          · rw [mSb_on _ _ _ (fun w hw => by unfold oD; omega), upd_n _ _ (by unfold oD; omega), hU, u3', g8]
          · obtain ⟨q, hq, hqe⟩ := d4 (by rw [z]; decide)
            have w0 : mSb (upd M (oD d 3) (M (oD d 3) + 1)) d (oD d 0) = 0 := mSb_v _ _ 0
            refine ⟨⟨0, by decide, w0⟩, fun t => absurd (w0.symm.trans t) (by decide), fun _ => mSb_v _ _ 1, fun _ => mSb_v _ _ 3, fun _ => ⟨q, hq, ?_⟩, ?_⟩
            · rw [mSb_v, if_neg (by decide), upd_n _ _ (by unfold oD; omega), hqe]
            · rw [mSb_v, if_neg (by decide), upd_n _ _ (by unfold oD; omega)]; exact d5
          · rw [eL] at hr
            refine (g11 r hr).cg (fun e he hed => ?_)
            have ze : e ≠ d := fun t => nod r hr (by rw [hed, t])
            rw [mSb_on _ _ _ (fun w hw => by unfold oD; omega), upd_n _ _ (by unfold oD; omega)]
            exact ⟨(em_ne _ 3).symm, id⟩
    | some p =>
      obtain ⟨p1, p2, p3, p4⟩ := mfst_some hf
      obtain ⟨c93, c30⟩ := g5.cc
      have hT : hasD (nI d) L = true := by
        rw [← hH]
        cases hh : hasD (nI d) (LM M (cc M)) with
        | true => rfl
        | false => exact absurd ((mfst_none.mpr hh).symm.trans hf) (by simp)
      rw [if_neg (fun t => hb.mp t ⟨z1, hT⟩)]
      dsimp only
      have q3' : G.1 (4, i, d) 3 = 0 := by rw [q3, if_pos ⟨z1, hT⟩]
      have hp30 : p < 30 := by omega
      obtain ⟨e, he, hed, hed3, l, t, l1, l2, l3, l4, l5, l6⟩ := g11 _ (List.mem_of_getElem? p2)
      have ede : e = d := nI_inj (by omega) (by omega) (hed.symm.trans p3)
      subst ede
      have ez : M (oR p 3) = nI l := l4
      obtain ⟨v1, v2, v3⟩ := pd_sg_at _ p _ p2 p3 p4
      rw [v1] at u1
      rw [v2] at u2
      have u3' := (u3 (s1 10 + 1)).trans (by rw [v3])
      have el : lf (rmk M p) - 1 = nI (l - 1) := by rw [l4, nIm1 l1]
      have el' : M (oR p 3) - 1 = nI (l - 1) := el
      have rX : rmk (upd M (oD e 3) 0) p = rmk M p := by
        unfold rmk
        rw [upd_n _ _ (by unfold oD; omega), upd_n _ _ (by unfold oD; omega), upd_n _ _ (by unfold oD; omega), upd_n _ _ (by unfold oD; omega), upd_n _ _ (by unfold oD; omega)]
      have LX : ∀ c, LM (upd (upd M (oD e 3) 0) (oR p 3) (M (oR p 3) - 1)) c = (LM M c).set p (decR (rmk M p)) := by
        intro c
        rw [LM_set (by decide), LM_oD he (by decide)]
        rw [rX]
        rfl
      have Xo : ∀ k, k < 93 → k ≠ oD e 3 → upd (upd M (oD e 3) 0) (oR p 3) (M (oR p 3) - 1) k = M k := fun k hk hk3 => by rw [upd_n _ _ (by unfold oR; omega), upd_n _ _ hk3]
      have X3 : upd (upd M (oD e 3) 0) (oR p 3) (M (oR p 3) - 1) (oD e 3) = 0 := by rw [upd_n _ _ (by unfold oR oD; omega), upd_s]
      have X93 : upd (upd M (oD e 3) 0) (oR p 3) (M (oR p 3) - 1) 93 = M 93 := by rw [upd_n _ _ (by unfold oR; omega), upd_n _ _ (by unfold oD; omega)]
      have X4 : upd (upd M (oD e 3) 0) (oR p 3) (M (oR p 3) - 1) (oR p 4) = (rmk M p).2.2.2.2 := by rw [upd_n _ _ (by unfold oR; omega), upd_n _ _ (by unfold oD oR; omega)]; rfl
      generalize upd (upd M (oD e 3) 0) (oR p 3) (M (oR p 3) - 1) = X at LX Xo X3 X93 X4 ⊢
      have dv : ∀ M' : Nat → Int32, (∀ w, w < 6 → M' (oD e w) = X (oD e w)) → DInv M' e := by
        intro M' hM'
        refine DInv.cg ?_ hM'
        have w0 : X (oD e 0) = 2 := (Xo _ (by unfold oD; omega) (by unfold oD; omega)).trans z
        refine ⟨⟨2, by decide, w0⟩, fun t => absurd (w0.symm.trans t) (by decide), fun _ => ?_, fun t => absurd w0 t, fun _ => ?_, ?_⟩
        · rw [Xo _ (by unfold oD; omega) (by unfold oD; omega)]; exact d2 (by rw [z]; decide)
        · rw [Xo _ (by unfold oD; omega) (by unfold oD; omega)]; exact d4 (by rw [z]; decide)
        · rw [Xo _ (by unfold oD; omega) (by unfold oD; omega)]; exact d5
      have rw' : ∀ M' : Nat → Int32, (∀ w, w < 6 → M' (oD e w) = X (oD e w)) → ∀ f, f < 6 → G.1 (4, i, e) f = M' (oD e (mf f)) := by
        intro M' hM' f hf'
        rw [hM' _ (mf_lt hf')]
        by_cases ze : f = 3
        · subst ze
          rw [q3', show mf 3 = 3 from rfl, X3]
        · rw [Xo _ (by have := mf_lt hf'; unfold oD; omega) (fun t => ze (mf_inj hf' (by decide) (by unfold oD at t; show mf f = 3; omega)))]
          exact q1 f hf' ze
      by_cases zl : l = 1
      · have zz : M (oR p 3) - 1 = 0 := by rw [el', zl]; rfl
        have zz' : lf (rmk M p) - 1 = 0 := zz
        rw [if_pos zz]
        rw [if_pos zz'] at u1 u2 u3'
        have S13 : rdM2 X p 13 = M 13 + 1 := by
          unfold rdM2
          rw [upd_n _ _ (by decide), upd_s, Xo 13 (by decide) (by unfold oD; omega)]
        have S20 : rdM2 X p 20 = M 20 + (s1 10 + 1 - (rmk M p).2.2.2.2) := by
          unfold rdM2
          rw [upd_s, Xo 20 (by decide) (by unfold oD; omega), Xo 10 (by decide) (by unfold oD; omega), X4, g9 10 (by decide) (by decide)]
        have So : ∀ k, k < 93 → k ≠ 13 → k ≠ 20 → rdM2 X p k = X k := fun k _ h1 h2 => by
          unfold rdM2
          rw [upd_n _ _ h2, upd_n _ _ h1]
        have SL : ∀ c, LM (rdM2 X p) c = LM X c := fun c => by
          unfold rdM2
          rw [LM_lo (by decide), LM_lo (by decide)]
        generalize rdM2 X p = S at S13 S20 So SL ⊢
        have e93 : mrm S p (cc M) 93 = nI (cc M - 1) := mrm_93 _ _ _
        have ecc : cc (mrm S p (cc M)) = cc M - 1 := cc_of e93 (by omega)
        have eL : LM (mrm S p (cc M)) (cc (mrm S p (cc M))) = (LM M (cc M)).eraseIdx p := by
          rw [ecc, LM_rm p1 c30, SL, LX, List.eraseIdx_set_eq]
        refine RD_mk he hg (fun _ _ => rfl) (fun k hk hw h1 h2 => by rw [mrm_lo hk, So k hk h1 h2, Xo k hk (hw 3 (by decide))]) (rw' _ (fun w hw => by rw [mrm_lo (by unfold oD; omega), So _ (by unfold oD; omega) (by unfold oD; omega) (by unfold oD; omega)])) ⟨cc M - 1, by omega, e93⟩ ?_ ?_ ?_ (dv _ (fun w hw => by rw [mrm_lo (by unfold oD; omega), So _ (by unfold oD; omega) (by unfold oD; omega) (by unfold oD; omega)])) (fun r hr => ?_)
        · rw [eL, hU, u1]
        · rw [mrm_lo (by decide), S13, hU, u2, g7, Int32.add_assoc]
        · rw [mrm_lo (by decide), S20, hU, u3', g8, Int32.add_assoc]
        · rw [eL] at hr
          refine (g11 r (List.mem_of_mem_eraseIdx hr)).cg (fun e' he' _ => ?_)
          rw [mrm_lo (by unfold oD; omega), So _ (by unfold oD; omega) (by unfold oD; omega) (by unfold oD; omega), Xo _ (by unfold oD; omega) (by unfold oD; omega)]
          exact ⟨(em_ne _ 3).symm, id⟩
      · have zz' : ¬ lf (rmk M p) - 1 = 0 := fun t => by
          rw [el] at t
          have := nI_inj (by omega) (by omega) (t.trans nI_0.symm)
          omega
        have zz : ¬ M (oR p 3) - 1 = 0 := zz'
        rw [if_neg zz]
        rw [if_neg zz'] at u1 u2 u3'
        rw [Int32.add_zero] at u2 u3'
        have eL : LM X (cc X) = (LM M (cc M)).set p (decR (rmk M p)) := by rw [cc_cg X93, LX]
        refine RD_mk he hg (fun _ _ => rfl) (fun k hk hw _ _ => Xo k hk (hw 3 (by decide))) (rw' X (fun _ _ => rfl)) (g5.of X93) ?_ ?_ ?_ (dv X (fun _ _ => rfl)) (fun r hr => ?_)
        · rw [eL, hU, u1]
        · rw [Xo 13 (by decide) (by unfold oD; omega), hU, u2, g7]
        · rw [Xo 20 (by decide) (by unfold oD; omega), hU, u3', g8]
        · rw [eL] at hr
          rcases List.mem_or_eq_of_mem_set hr with hr | hr
          · refine (g11 r hr).cg (fun e' he' _ => ?_)
            rw [Xo _ (by unfold oD; omega) (by unfold oD; omega)]
            exact ⟨(em_ne _ 3).symm, id⟩
          · subst hr
            have w0 : X (oD e 0) = 2 := (Xo _ (by unfold oD; omega) (by unfold oD; omega)).trans z
            exact ⟨e, he, p3, by rw [w0]; decide, l - 1, t, by omega, by omega, l3, el, l5, fun u => absurd w0 u⟩
  · rw [if_neg z, if_neg z]
    have z1 : ¬ s1 (oD d 0) = 2 := fun t => z (s0.trans t)
    have hU : Ud s1 (d + 1) = Ud s1 d := if_neg z1
    refine RD_mk hd hg (fun _ _ => rfl) (fun _ _ _ _ _ => rfl) (fun f hf => ?_) g5 (by rw [hU]; exact g6) (by rw [hU]; exact g7) (by rw [hU]; exact g8) (g10 d hd) g11
    by_cases ze : f = 3
    · subst ze
      rw [q3, if_neg (fun t => z1 t.1), show mf 3 = 3 from rfl, s3]
    · exact q1 f hf ze
