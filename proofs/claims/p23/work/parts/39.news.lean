/-! sums, and new starts, on both sides -/
theorem sumN_cg {f g : Nat → Int32} : ∀ n, (∀ e, e < n → f e = g e) → sumN f n = sumN g n := by
  intro n
  induction n with
  | zero => intro _; rfl
  | succ n ih =>
    intro h
    show sumN f n + f n = sumN g n + g n
    rw [ih (fun e he => h e (by omega)), h n (by omega)]
theorem i_ac (a b x : Int32) : a + b + x = a + x + b := by rw [Int32.add_assoc, Int32.add_comm b x, ← Int32.add_assoc]
theorem sumN_ch {f g : Nat → Int32} {d : Nat} {x : Int32} : ∀ n, d < n → (∀ e, e < n → e ≠ d → f e = g e) → f d = g d + x → sumN f n = sumN g n + x := by
  intro n
  induction n with
  | zero => intro h; omega
  | succ n ih =>
    intro h he hd
    show sumN f n + f n = sumN g n + g n + x
    by_cases z : d = n
    · subst z
      rw [sumN_cg d (fun e h1 => he e (by omega) (by omega)), hd, ← Int32.add_assoc]
    · rw [ih (by omega) (fun e h1 => he e (by omega)) hd, he n (by omega) (fun t => z t.symm), i_ac]
theorem cntD_le (x : Int32) (L : List R5) : cntD x L ≤ L.length := List.length_filter_le _ _
theorem mfst_hi {s s' : Nat → Int32} {c : Nat} (x : Int32) (h : ∀ k, 94 ≤ k → s' k = s k) : mfst s' c x = mfst s c x := fp_congr (fun k _ => by rw [h _ (by unfold oR; omega)])
theorem has_0 {h : DH} {i c : Nat} {s : Nat → Int32} (hs : SR h i c s) {e : Nat} (he : e < 12) : (0 < h.1 (4, i, e) 6 ↔ mfst s c (nI e) ≠ none) := by
  obtain ⟨h1, h2, h3, h4, h5, h6, h7, h8, h9, h10, h11⟩ := hs
  have hl := cntD_le (nI e) (LM s c)
  rw [LM_len] at hl
  rw [h8 e he, nIpos (by omega)]
  constructor
  · intro t u
    have := cntD_0.mpr (mfst_none.mp u)
    omega
  · intro t
    refine Nat.pos_of_ne_zero (fun u => t (mfst_none.mpr (cntD_0.mp u)))
theorem dn4 {s : Nat → Int32} {e : Nat} (h : DInv s e) : s (oD e 0) = 0 ∨ s (oD e 0) = 1 ∨ s (oD e 0) = 2 ∨ s (oD e 0) = 3 := by
  obtain ⟨⟨v, hv, he⟩, _⟩ := h
  rw [he]
  have : ∀ v, v < 4 → (nI v = 0 ∨ nI v = 1 ∨ nI v = 2 ∨ nI v = 3) := by decide
  exact this v hv
theorem cur_eq {h : DH} {i c : Nat} {s : Nat → Int32} (hs : SR h i c s) {e : Nat} (he : e < 12) : ccur h i e = mcur s c e := by
  have h0 := has_0 hs he
  obtain ⟨h1, h2, h3, h4, h5, h6, h7, h8, h9, h10, h11⟩ := hs
  have r0 := h1.2.2 e he 0 (by decide)
  rw [show mf 0 = 0 from rfl] at r0
  unfold ccur mcur
  rw [r0, h1.1 4 (by decide), h1.1 1 (by decide), h1.1 2 (by decide), h1.1 3 (by decide)]
  rcases dn4 (h10 e he) with z | z | z | z
  · rw [if_pos z, if_pos z]
  · have n0 : ¬ s (oD e 0) = 0 := by rw [z]; decide
    rw [if_neg n0, if_neg n0, if_pos z, if_pos z]
  · have n0 : ¬ s (oD e 0) = 0 := by rw [z]; decide
    have n1 : ¬ s (oD e 0) = 1 := by rw [z]; decide
    have n3 : ¬ s (oD e 0) = 3 := by rw [z]; decide
    rw [if_neg n0, if_neg n0, if_neg n1, if_neg n1, if_pos z, if_neg n3]
    cases hf : mfst s c (nI e) with
    | none =>
      rw [if_pos (Int32.not_lt.mp (fun t => h0.mp t hf))]
    | some p =>
      rw [if_neg (Int32.not_le.mpr (h0.mpr (by rw [hf]; simp)))]
  · have n0 : ¬ s (oD e 0) = 0 := by rw [z]; decide
    have n1 : ¬ s (oD e 0) = 1 := by rw [z]; decide
    have n2 : ¬ s (oD e 0) = 2 := by rw [z]; decide
    rw [if_neg n0, if_neg n0, if_neg n1, if_neg n1, if_neg n2, if_pos z]
theorem sumcur {h : DH} {i c : Nat} {s : Nat → Int32} (hs : SR h i c s) : sumN (ccur h i) 12 = mcurN s c := sumN_cg 12 (fun _ he => cur_eq hs he)
theorem that_eq {h : DH} {i c : Nat} {s : Nat → Int32} (hs : SR h i c s) (x : Int32) : cthat h i x = mthat s x := sumN_cg 12 (fun e he => by
  have r0 := hs.1.2.2 e he 0 (by decide)
  rw [show mf 0 = 0 from rfl] at r0
  rw [r0])
theorem BS_step {i c d : Nat} {q : DH × Int32 × Int32} {M f : Nat → Int32} {b : Int32} (hd : d < 12) (hb : b &&& bitOf (nI d) = 0 ↔ f d = 0) (hs : SR q.1 i c M) (e1 : q.2.1 = mthat M 1) (e2 : q.2.2 = mcurN M c) : SR (bsB i b d q).1 i c (nsMB f d M) ∧ (bsB i b d q).2.1 = mthat (nsMB f d M) 1 ∧ (bsB i b d q).2.2 = mcurN (nsMB f d M) c ∧ ∀ k, k < 10 ∨ k = 15 → nsMB f d M k = M k := by
  obtain ⟨g, st, cu⟩ := q
  dsimp only at hs e1 e2
  have h0 := has_0 hs hd
  have hs' := hs
  obtain ⟨h1, h2, h3, h4, h5, h6, h7, h8, h9, h10, h11⟩ := hs'
  have ecc : cc M = c := cc_of h4 h3
  have r0 := h1.2.2 d hd 0 (by decide)
  rw [show mf 0 = 0 from rfl] at r0
  have r4 := h1.2.2 d hd 4 (by decide)
  rw [show mf 4 = 5 from rfl] at r4
  have r13 := h1.2.1 13 (by decide) (by decide)
  rw [show ms 13 = 18 from rfl] at r13
  have ca : cadd g i = M 1 - M 4 := by unfold cadd; rw [h1.1 1 (by decide), h1.1 4 (by decide)]
  have may : cmay g i st cu ≠ 0 ↔ ¬ M 8 ≤ mthat M 1 ∧ ¬ M 5 < mcurN M c - M 4 + M 1 := by
    unfold cmay
    rw [ca, h1.1 8 (by decide), h1.1 5 (by decide), e1, e2, show mcurN M c + (M 1 - M 4) = mcurN M c - M 4 + M 1 by rw [Int32.sub_eq_add_neg, Int32.sub_eq_add_neg, ← Int32.add_assoc, i_ac]]
    by_cases z1 : M 8 ≤ mthat M 1
    · rw [if_pos z1]
      exact ⟨fun t => absurd rfl t, fun t => absurd z1 t.1⟩
    · rw [if_neg z1]
      by_cases z2 : M 5 < mcurN M c - M 4 + M 1
      · rw [if_pos z2]
        exact ⟨fun t => absurd rfl t, fun t => absurd z2 t.2⟩
      · rw [if_neg z2]
        exact ⟨fun _ => ⟨z1, z2⟩, fun _ => by decide⟩
  have cond : (g.1 (4, i, d) 0 = 0 ∧ 0 < g.1 (4, i, d) 6 ∧ b &&& bitOf (nI d) = 0 ∧ cmay g i st cu ≠ 0) ↔ (M (oD d 0) = 0 ∧ f d = 0 ∧ mfst M c (nI d) ≠ none ∧ ¬ M 8 ≤ mthat M 1 ∧ ¬ M 5 < mcurN M c - M 4 + M 1) := by
    rw [r0, h0, hb, may]
    constructor
    · rintro ⟨a, b, c, d, e⟩; exact ⟨a, c, b, d, e⟩
    · rintro ⟨a, c, b, d, e⟩; exact ⟨a, b, c, d, e⟩
  unfold bsB nsMB
  dsimp only
  rw [ecc]
  by_cases z : M (oD d 0) = 0 ∧ f d = 0 ∧ mfst M c (nI d) ≠ none ∧ ¬ M 8 ≤ mthat M 1 ∧ ¬ M 5 < mcurN M c - M 4 + M 1
  · rw [if_pos (cond.mpr z), if_pos z]
    dsimp only
    rw [h1.1 0 (by decide), r4, r13, ca]
    have rb := (((h1.dk hd (show 0 < 6 by decide) 1).dk hd (show 1 < 6 by decide) (M 0)).dk hd (show 4 < 6 by decide) (M (oD d 5) + 1)).sc (show 4 ≤ 13 by decide) (by decide) (M 18 + 1)
    rw [show mf 0 = 0 from rfl, show mf 1 = 1 from rfl, show mf 4 = 5 from rfl, show ms 13 = 18 from rfl] at rb
    have G3 : (up1 (up1 (up1 (up1 g (4, i, d) 0 1) (4, i, d) 1 (M 0)) (4, i, d) 4 (M (oD d 5) + 1)) (0, i, 0) 13 (M 18 + 1)).1 (0, i, 0) 3 = nI c := by simp [up1_1, h2]
    have GL : LC (up1 (up1 (up1 (up1 g (4, i, d) 0 1) (4, i, d) 1 (M 0)) (4, i, d) 4 (M (oD d 5) + 1)) (0, i, 0) 13 (M 18 + 1)) i c = LC g i c := by rw [LC_00, LC_40, LC_40, LC_40]
    have G2 : (up1 (up1 (up1 (up1 g (4, i, d) 0 1) (4, i, d) 1 (M 0)) (4, i, d) 4 (M (oD d 5) + 1)) (0, i, 0) 13 (M 18 + 1)).2 = g.2 := rfl
    have G6 : ∀ e, (up1 (up1 (up1 (up1 g (4, i, d) 0 1) (4, i, d) 1 (M 0)) (4, i, d) 4 (M (oD d 5) + 1)) (0, i, 0) 13 (M 18 + 1)).1 (4, i, e) 6 = g.1 (4, i, e) 6 := fun e => by simp [up1_1]
    have N0 : upd (upd (upd (upd M (oD d 0) 1) (oD d 1) (M 0)) (oD d 5) (M (oD d 5) + 1)) 18 (M 18 + 1) (oD d 0) = 1 := by rw [upd_n _ _ (by unfold oD; omega), upd_n _ _ (by unfold oD; omega), upd_n _ _ (by unfold oD; omega), upd_s]
    have N1 : upd (upd (upd (upd M (oD d 0) 1) (oD d 1) (M 0)) (oD d 5) (M (oD d 5) + 1)) 18 (M 18 + 1) (oD d 1) = M 0 := by rw [upd_n _ _ (by unfold oD; omega), upd_n _ _ (by unfold oD; omega), upd_s]
    have No : ∀ k, k ≠ oD d 0 → k ≠ oD d 1 → k ≠ oD d 5 → k ≠ 18 → upd (upd (upd (upd M (oD d 0) 1) (oD d 1) (M 0)) (oD d 5) (M (oD d 5) + 1)) 18 (M 18 + 1) k = M k := fun k k0 k1 k5 k18 => by rw [upd_n _ _ k18, upd_n _ _ k5, upd_n _ _ k1, upd_n _ _ k0]
    generalize upd (upd (upd (upd M (oD d 0) 1) (oD d 1) (M 0)) (oD d 5) (M (oD d 5) + 1)) 18 (M 18 + 1) = N at rb N0 N1 No ⊢
    generalize up1 (up1 (up1 (up1 g (4, i, d) 0 1) (4, i, d) 1 (M 0)) (4, i, d) 4 (M (oD d 5) + 1)) (0, i, 0) 13 (M 18 + 1) = G at rb G3 GL G2 G6 ⊢
    have Nlo : ∀ k, k < 18 → N k = M k := fun k hk => No k (by unfold oD; omega) (by unfold oD; omega) (by unfold oD; omega) (by omega)
    have Nhi : ∀ k, 93 ≤ k → N k = M k := fun k hk => No k (by unfold oD; omega) (by unfold oD; omega) (by unfold oD; omega) (by omega)
    have Ne : ∀ e, e ≠ d → ∀ w, w < 6 → N (oD e w) = M (oD e w) := fun e he w hw => No _ (by unfold oD; omega) (by unfold oD; omega) (by unfold oD; omega) (by unfold oD; omega)
    have NL : LM N c = LM M c := LM_cg (fun k hk _ => Nhi k (by omega))
    refine ⟨⟨rb, G3, h3, (Nhi 93 (Nat.le_refl _)).trans h4, by rw [GL, NL, h5], fun a b' ha hb' hab => h6 a b' ha hb' (by rw [G2] at hab; exact hab), fun p hp => by rw [G2]; exact h7 p hp, fun e he => by rw [G6, NL]; exact h8 e he, ?_, fun e he => ?_, fun r hr => ?_⟩, ?_, ?_, fun k hk => Nlo k (by omega)⟩
    · obtain ⟨y1, y2, y3, y4, y5⟩ := h9
      unfold NInv
      rw [Nlo 0 (by decide), Nlo 5 (by decide), Nlo 6 (by decide), Nlo 7 (by decide), Nlo 15 (by decide)]
      exact ⟨y1, y2, y3, y4, y5⟩
    · by_cases ze : e = d
      · subst ze
        obtain ⟨d0, d1, d2, d3, d4, d5⟩ := h10 e he
        obtain ⟨⟨a, a1, a2, a3⟩, _⟩ := h9
        refine ⟨⟨1, by decide, N0⟩, fun _ => ⟨a, a1, a2, N1.trans a3⟩, fun t => absurd N0 t, fun _ => ?_, fun _ => ?_, ?_⟩
        · rw [No _ (by unfold oD; omega) (by unfold oD; omega) (by unfold oD; omega) (by unfold oD; omega)]
          exact d3 (by rw [z.1]; decide)
        · rw [No _ (by unfold oD; omega) (by unfold oD; omega) (by unfold oD; omega) (by unfold oD; omega)]
          exact d4 (by rw [z.1]; decide)
        · rw [No _ (by unfold oD; omega) (by unfold oD; omega) (by unfold oD; omega) (by unfold oD; omega)]
          exact d5
      · exact (h10 e he).cg (Ne e ze)
    · rw [NL] at hr
      refine (h11 r hr).cg (fun e he _ => ?_)
      by_cases ze : e = d
      · subst ze
        rw [N0, z.1]
        exact ⟨Or.inl (by decide), fun _ => by decide⟩
      · rw [Ne e ze 0 (by decide)]
        exact ⟨(em_ne _ 3).symm, id⟩
    · rw [e1]
      refine (sumN_ch 12 hd (fun e _ he => by rw [Ne e he 0 (by decide)]) ?_).symm
      rw [N0, z.1, if_pos rfl, if_neg (by decide)]
      decide
    · rw [e2]
      refine (sumN_ch 12 hd (fun e _ he => ?_) ?_).symm
      · unfold mcur
        rw [Ne e he 0 (by decide), Nlo 1 (by decide), Nlo 2 (by decide), Nlo 3 (by decide), Nlo 4 (by decide), mfst_hi (nI e) (fun k hk => Nhi k (by omega))]
      · unfold mcur
        rw [N0, z.1, if_neg (by decide), if_pos rfl, if_pos rfl, Nlo 1 (by decide), Int32.sub_eq_add_neg, ← Int32.add_assoc, i_ac, Int32.add_right_neg, Int32.zero_add]
  · rw [if_neg (fun t => z (cond.mp t)), if_neg z]
    exact ⟨hs, e1, e2, fun _ _ => rfl⟩
theorem BS_all {g : DH} {i c : Nat} {M f : Nat → Int32} {b : Int32} (hb : ∀ e, e < 12 → (b &&& bitOf (nI e) = 0 ↔ f e = 0)) (hs : SR g i c M) : ∀ d, d ≤ 12 → SR (bs g i b d).1 i c (nsM M f d) ∧ (bs g i b d).2.1 = mthat (nsM M f d) 1 ∧ (bs g i b d).2.2 = mcurN (nsM M f d) c ∧ ∀ k, k < 10 ∨ k = 15 → nsM M f d k = M k := by
  intro d
  induction d with
  | zero => intro _; exact ⟨hs, that_eq hs 1, sumcur hs, fun _ _ => rfl⟩
  | succ d ih =>
    intro hd
    obtain ⟨a1, a2, a3, a4⟩ := ih (by omega)
    obtain ⟨b1, b2, b3, b4⟩ := BS_step (f := f) (by omega) (hb d (by omega)) a1 a2 a3
    exact ⟨b1, b2, b3, fun k hk => (b4 k hk).trans (a4 k hk)⟩
