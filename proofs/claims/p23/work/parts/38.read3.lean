/-! reading: both sides -/
theorem cntD_map {L L' : List R5} (h : L.map dk5 = L'.map dk5) (x : Int32) : cntD x L = cntD x L' := by
  have e : ∀ M : List R5, cntD x M = ((M.map dk5).filter (fun y => decide (y = x))).length := by
    intro M
    rw [List.filter_map, List.length_map]
    rfl
  rw [e, e, h]
theorem hasD_map {L L' : List R5} (h : L.map dk5 = L'.map dk5) (x : Int32) : hasD x L = hasD x L' := by
  have e : ∀ M : List R5, hasD x M = (M.map dk5).any (fun y => decide (y = x)) := by
    intro M
    rw [List.any_map]
    rfl
  rw [e, e, h]
theorem ri_6 (h : DH) (i : Nat) (b : Int32) (e : Nat) : ∀ k, (ri h i b k).1 (4, i, e) 6 = h.1 (4, i, e) 6 := by
  intro k
  induction k with
  | zero => rfl
  | succ k ih =>
    rw [show ri h i b (k + 1) = riB i b k (ri h i b k) from rfl]
    have step : ∀ x, (up1 (ri h i b k) (4, i, k) 3 x).1 (4, i, e) 6 = h.1 (4, i, e) 6 := fun x => by
      rw [up1_1, if_neg (fun t => absurd t.2 (by decide))]
      exact ih
    unfold riB
    split
    · split
      · split
        · exact step _
        · split
          · exact step _
          · by_cases z : (4, i, e) = (4, i, k)
            · have zk : e = k := by simpa using z
              subst zk
              rw [sb_v, if_neg (by decide)]
              exact step _
            · rw [sb_on z]
              exact step _
      · exact ih
    · exact ih
theorem i_canc {a b x : Int32} (h : a + x = b + x) : a = b := by
  have := congrArg (fun y => y - x) h
  simpa [Int32.add_sub_cancel] using this
/-- a state of the class is the reference's row -/
def SR (h : DH) (i c : Nat) (s : Nat → Int32) : Prop :=
  RB h i s ∧ h.1 (0, i, 0) 3 = nI c ∧ c ≤ 30 ∧ s 93 = nI c ∧ LC h i c = LM s c ∧ pmi h i ∧ (∀ p, p < 30 → h.2 (3, i, 0) p < 30) ∧
  (∀ e, e < 12 → h.1 (4, i, e) 6 = nI (cntD (nI e) (LM s c))) ∧ NInv s ∧ (∀ e, e < 12 → DInv s e) ∧ (∀ r ∈ LM s c, RInv s r)
theorem SR.RG {h : DH} {i c : Nat} {s f : Nat → Int32} (hs : SR h i c s) : RG h i c s 0 (h, 0) (s, f) := by
  obtain ⟨h1, h2, h3, h4, h5, h6, h7, h8, h9, h10, h11⟩ := hs
  have ecc : cc s = c := cc_of h4 h3
  have al : ∀ r ∈ LM s c, 0 < lf r := by
    intro r hr
    obtain ⟨e, _, _, _, l, t, l1, l2, l3, l4, _⟩ := h11 r hr
    rw [l4]
    exact (nIpos (by omega)).mpr (by omega)
  refine ⟨h1, h2, rfl, ⟨c, h3, h4⟩, ?_, fun e he => ?_, fun r hr hl => ?_, rfl, fun _ _ => rfl, h10, ?_, fun _ _ _ => rfl⟩
  · show LM s (cc s) = live (LC h i c)
    rw [ecc, h5]
    exact (List.filter_eq_self.mpr (fun r hr => by simpa using al r hr)).symm
  · exact ⟨fun _ t => absurd t (by omega), fun _ => by show (0 : Int32) &&& _ = 0; simp⟩
  · dsimp only at hr
    rw [h5] at hr
    exact absurd (al r hr) hl
  · show ∀ r ∈ LM s (cc s), RInv s r
    rw [ecc]
    exact h11
theorem read_SR {h : DH} {i c : Nat} {s : Nat → Int32} {q : DH × Int32} {p : (Nat → Int32) × (Nat → Int32)} (hs : SR h i c s) (hg : RG h i c s 12 q p) : ∃ c', SR (grAll q.1 i c) i c' (rdM p.1 12) ∧ ∀ k, k < 10 ∨ k = 15 → rdM p.1 12 k = s k := by
  obtain ⟨h1, b⟩ := q
  obtain ⟨s1, f1⟩ := p
  obtain ⟨a1, a2, a3, a4, a5, a6, a7, a8, a9, a10, a11, a12⟩ := hg
  dsimp only at a1 a2 a3 a4 a5 a6 a7 a8 a9 a10 a11 a12 ⊢
  obtain ⟨z1, z2, z3, z4, z5, z6, z7, z8, z9, z10, z11⟩ := hs
  have P1 : pmi h1 i := fun a b' ha hb hab => z6 a b' ha hb (by rw [a3] at hab; exact hab)
  have rk : ∀ k, k < c → ∃ d, d < 12 ∧ dk5 (rdk h1 i k) = nI d := by
    intro k hk
    have m1 : ((LC h1 i c).map dk5)[k]? = some (dk5 (rdk h1 i k)) := by rw [List.getElem?_map, LC_at hk]; rfl
    rw [a8, z5] at m1
    have m2 := List.mem_of_getElem? m1
    obtain ⟨r, hr, hre⟩ := List.mem_map.mp m2
    obtain ⟨e, he, hed, _⟩ := z11 r hr
    exact ⟨e, he, by rw [← hre, hed]⟩
  have ro : rok h1 i c := rk
  have sp1 : ∀ e, e < 12 → (sp h1 i (nI e) = true ↔ s1 (oD e 0) = 2) := fun e he => by
    rw [sp_e he, a1.2.2 e he 0 (by decide)]
    rfl
  have hdead : ∀ r ∈ LC h1 i c, ¬ 0 < lf r → sp h1 i (dk5 r) = false := by
    intro r hr hl
    obtain ⟨e, e1, e2, e3⟩ := a7 r hr hl
    cases hh : sp h1 i (dk5 r) with
    | false => rfl
    | true =>
      rw [e2, sp1 e e1, e3] at hh
      exact absurd hh (by decide)
  have hone : ∀ r ∈ LC h1 i c, 0 < lf r → (lf r - 1 = 0 ↔ ¬ 0 < lf r - 1) := by
    intro r hr hl
    have hr' : r ∈ live (LC h1 i c) := List.mem_filter.mpr ⟨hr, by simpa using hl⟩
    rw [← a5] at hr'
    obtain ⟨e, _, _, _, l, t, l1, l2, l3, l4, _⟩ := a11 r hr'
    rw [l4, nIm1 l1, nIpos (by omega)]
    constructor
    · intro u
      have := nI_inj (by omega) (by omega) (u.trans nI_0.symm)
      omega
    · intro u
      rw [show l - 1 = 0 by omega]
      rfl
  have hz : ∀ r ∈ LC h1 i c, sp h1 i (dk5 r) = true → (lf r - 1 = 0 ↔ ¬ 0 < lf r - 1) := by
    intro r hr hsp
    refine hone r hr (Decidable.byContradiction fun hl => ?_)
    rw [hdead r hr hl] at hsp
    exact absurd hsp (by decide)
  obtain ⟨g1, g2, g3, g4, g5, g6, g7, g8, g9, g10⟩ := GR_all z3 P1 ro hz c (Nat.le_refl c)
  obtain ⟨w1, w2, w3⟩ := live_gd (LC h1 i c) (sp h1 i) hdead hone
  have hH : ∀ e, e < 12 → s1 (oD e 0) = 2 → hasD (nI e) (LC h1 i c) = hasD (nI e) (LM s1 (cc s1)) := by
    intro e he h2e
    rw [a5]
    have nd' : ∀ r ∈ LC h1 i c, dk5 r = nI e → 0 < lf r := by
      intro r hr hre
      refine Decidable.byContradiction fun hl => ?_
      have := hdead r hr hl
      rw [hre, (sp1 e he).mpr h2e] at this
      exact absurd this (by decide)
    have := cnt_live _ nd'
    cases ha : hasD (nI e) (LC h1 i c) with
    | false =>
      rw [cntD_0.mpr ha] at this
      exact (cntD_0.mp this).symm
    | true =>
      cases hb : hasD (nI e) (live (LC h1 i c)) with
      | true => rfl
      | false =>
        rw [cntD_0.mpr hb] at this
        rw [cntD_0.mp this.symm] at ha
        exact absurd ha (by decide)
  have eA : ∀ e, e < 12 → ((h1.1 (4, i, e) 0 = 2 ∧ hasD (nI e) (LC h1 i c) = true) ↔ (s1 (oD e 0) = 2 ∧ hasD (nI e) (LM s1 (cc s1)) = true)) := by
    intro e he
    rw [a1.2.2 e he 0 (by decide)]
    show s1 (oD e 0) = 2 ∧ _ ↔ _
    constructor
    · rintro ⟨u, v⟩
      exact ⟨u, by rw [← hH e he u]; exact v⟩
    · rintro ⟨u, v⟩
      exact ⟨u, by rw [hH e he u]; exact v⟩
  have R0 : RD i s1 (LM s1 (cc s1)) 0 (gr h1 i c).1 s1 := by
    obtain ⟨n1, n2, n3⟩ := pd_no (LM s1 (cc s1)) (Ud s1 0) (fun _ _ => rfl)
    refine ⟨fun n hn => by rw [g2]; exact a1.1 n hn, fun k hk hk2 hk5 hk7 => by rw [g3 k hk5 hk7]; exact a1.2.1 k hk hk2, fun e he => absurd he (by omega), fun e _ he => ⟨fun f hf hf3 => by rw [g4 e f hf3]; exact a1.2.2 e he f hf, fun _ _ => rfl, ?_⟩, a4, n1.symm, by rw [n2, Int32.add_zero], by rw [n3, Int32.add_zero], fun _ _ _ => rfl, a10, a11⟩
    rw [g5 e he, a1.2.2 e he 3 (by decide), show mf 3 = 3 from rfl]
    simp only [eA e he]
  have RA : ∀ d, d ≤ 12 → RD i s1 (LM s1 (cc s1)) d (ri (gr h1 i c).1 i (gr h1 i c).2 d) (rdM s1 d) := by
    intro d
    induction d with
    | zero => intro _; exact R0
    | succ d ih =>
      intro hd
      exact RD_step (h1 := h1) (by omega) (by rw [g6 d (by omega), eA d (by omega)]) (ih (by omega))
  obtain ⟨r1, r2, r3, r4, r5, r6, r7, r8, r9, r10, r11⟩ := RA 12 (Nat.le_refl _)
  obtain ⟨v1, v2, v3⟩ := ri_inv (gr h1 i c).1 i (gr h1 i c).2 12
  have v6 := fun e => ri_6 (gr h1 i c).1 i (gr h1 i c).2 e 12
  unfold grAll
  generalize ri (gr h1 i c).1 i (gr h1 i c).2 12 = G at r1 r2 r3 r4 v1 v2 v3 v6 ⊢
  generalize rdM s1 12 = M at r1 r2 r3 r4 r5 r6 r7 r8 r9 r10 r11 ⊢
  have GL : LC G i c = gd (sp h1 i) (LC h1 i c) := by
    rw [← g8]
    refine LC_cg (fun k _ => ?_)
    unfold rdk
    rw [v2, v3]
  have PG : pmi G i := fun a b' ha hb hab => P1 a b' ha hb (by rw [v2, g1] at hab; exact hab)
  have rG : rok G i c := by
    intro k hk
    obtain ⟨d, hd, hdk⟩ := rk k hk
    have m1 : ((LC G i c).map dk5)[k]? = some (dk5 (rdk G i k)) := by rw [List.getElem?_map, LC_at hk]; rfl
    rw [GL, gd_map, List.getElem?_map, LC_at hk] at m1
    exact ⟨d, hd, (Option.some.inj m1).symm.trans hdk⟩
  obtain ⟨x1, x2, x3, x4, x5, x6, x7, x8, x9, x10, x11⟩ := SW_all z3 PG rG c (Nat.le_refl c)
  generalize sw G i c = Q at x1 x2 x3 x4 x5 x6 x7 x8 x9 x10 x11 ⊢
  obtain ⟨G', m⟩ := Q
  dsimp only at x1 x2 x3 x4 x5 x6 x7 x8 x9 x10 x11 ⊢
  have eU : ∀ r ∈ LM s1 (cc s1), sp h1 i (dk5 r) = Ud s1 12 (dk5 r) := by
    intro r hr
    obtain ⟨e, he, hed, _⟩ := a11 r hr
    have u1 := sp1 e he
    have u2 := Ud_e s1 12 (Nat.le_refl _) e he
    rw [hed]
    cases hh : sp h1 i (nI e) with
    | true => exact (u2.mpr ⟨he, u1.mp hh⟩).symm
    | false =>
      cases hh2 : Ud s1 12 (nI e) with
      | false => rfl
      | true => rw [u1.mpr (u2.mp hh2).2] at hh; exact absurd hh (by decide)
  obtain ⟨p1, p2, p3⟩ := pd_cg (LM s1 (cc s1)) _ _ eU
  have eL : LC G' i m = LM M (cc M) := by rw [x8, GL, w1, ← a5, p1, r6]
  have em : cc M = m := by rw [← LM_len M (cc M), ← eL, LC_len]
  obtain ⟨c93, c30⟩ := r5.cc
  rw [em] at c93 c30 eL r11
  have G3L : LC (up1 G' (0, i, 0) 3 (nI m)) i m = LM M m := by rw [LC_o (show (0 : Nat) ≠ 5 by decide), eL]
  refine ⟨m, ⟨⟨fun n hn => ?_, fun k hk hk2 => ?_, fun e he f hf => ?_⟩, by rw [up1_1, if_pos ⟨rfl, rfl⟩], c30, c93, G3L, x9, fun p hp => ?_, fun e he => ?_, ?_, r10, r11⟩, fun k hk => ?_⟩
  · rw [up1_ne _ _ _ (by simp), x3]
    exact r1 n hn
  · rw [up1_1, if_neg (fun t => by omega), x4]
    by_cases k5 : k = 5
    · subst k5
      rw [v1, g9, w2, ← a5, p2, show ms 5 = 13 from rfl, r7, a1.2.1 5 (by decide) (by decide)]
      rfl
    · by_cases k7 : k = 7
      · subst k7
        rw [v1, g10, w3, ← a5, p3, show ms 7 = 20 from rfl, r8, a1.2.1 7 (by decide) (by decide), a1.2.1 8 (by decide) (by decide)]
        rfl
      · exact r2 k hk hk2 k5 k7
  · rw [up1_ne _ _ _ (by simp), x5 e f (by omega)]
    exact r3 e he he f hf
  · exact x11 (fun p hp => by rw [v2, g1, a3]; exact z7 p hp) p hp
  · rw [up1_ne _ _ _ (by simp), ← eL, x8]
    have y := x6 e he
    rw [v6, g4 e 6 (by decide), a9 e he, z8 e he, ← z5, ← cntD_map (a8) (nI e), ← cntD_map (show (LC G i c).map dk5 = (LC h1 i c).map dk5 by rw [GL, gd_map]) (nI e), cnt_two, ← nI_add] at y
    exact (i_canc y)
  · obtain ⟨y1, y2, y3, y4, y5⟩ := z9
    have ek : ∀ k, k < 19 → k ≠ 13 → k ≠ 14 → M k = s k := fun k h1 h2 h3 => (r9 k h1 h2).trans (a12 k h1 h3)
    unfold NInv
    rw [ek 0 (by decide) (by decide) (by decide), ek 5 (by decide) (by decide) (by decide), ek 6 (by decide) (by decide) (by decide), ek 7 (by decide) (by decide) (by decide), ek 15 (by decide) (by decide) (by decide)]
    exact ⟨y1, y2, y3, y4, y5⟩
  · exact (r9 k (by omega) (by omega)).trans (a12 k (by omega) (by omega))
