/-! a tick's reads, new starts and cutting off, on a row -/
theorem read_row {h : DH} {i c : Nat} {s : Nat → Int32} {q : DH × Int32} {p : (Nat → Int32) × (Nat → Int32)} (hs : SR h i c s) (hg : RG h i c s 12 q p) : okC (rdM p.1 12) ∧ LM (rdM p.1 12) (cc (rdM p.1 12)) = pd (Ud p.1 12) (LM p.1 (cc p.1)) ∧ rdM p.1 12 13 = p.1 13 + nd (Ud p.1 12) (LM p.1 (cc p.1)) ∧ rdM p.1 12 20 = p.1 20 + wt (p.1 10 + 1) (Ud p.1 12) (LM p.1 (cc p.1)) ∧ ∀ k, k < 19 → k ≠ 13 → rdM p.1 12 k = p.1 k := by
  obtain ⟨h1, b⟩ := q
  obtain ⟨s1, f1⟩ := p
  obtain ⟨a1, a2, a3, a4, a5, a6, a7, a8, a9, a10, a11, a12⟩ := hg
  dsimp only at a1 a2 a3 a4 a5 a6 a7 a8 a9 a10 a11 a12 ⊢
  obtain ⟨z1, z2, z3, z4, z5, z6, z7, z8, z9, z10, z11⟩ := hs
  have P1 : pmi h1 i := fun a b' ha hb hab => z6 a b' ha hb (by rw [a3] at hab; exact hab)
  have rk : ∀ k, k < c → ∃ d, d < 12 ∧ dk5 (rdk h1 i k) = nI d := by
    intro k hk
    have m1 : ((LC h1 i c).map dk5)[k]? = some (dk5 (rdk h1 i k)) := by rw [List.getElem?_map, LC_at hk]; rfl
    rw [a8, z5] at m1
    have m2 := List.mem_of_getElem? m1
    obtain ⟨r, hr, hre⟩ := List.mem_map.mp m2
    obtain ⟨e, he, hed, _⟩ := z11 r hr
    exact ⟨e, he, by rw [← hre, hed]⟩
  have ro : rok h1 i c := rk
  have sp1 : ∀ e, e < 12 → (sp h1 i (nI e) = true ↔ s1 (oD e 0) = 2) := fun e he => by
    rw [sp_e he, a1.2.2 e he 0 (by decide)]
    rfl
  have hdead : ∀ r ∈ LC h1 i c, ¬ 0 < lf r → sp h1 i (dk5 r) = false := by
    intro r hr hl
    obtain ⟨e, e1, e2, e3⟩ := a7 r hr hl
    cases hh : sp h1 i (dk5 r) with
    | false => rfl
    | true =>
      rw [e2, sp1 e e1, e3] at hh
      exact absurd hh (by decide)
  have hone : ∀ r ∈ LC h1 i c, 0 < lf r → (lf r - 1 = 0 ↔ ¬ 0 < lf r - 1) := by
    intro r hr hl
    have hr' : r ∈ live (LC h1 i c) := List.mem_filter.mpr ⟨hr, by simpa using hl⟩
    rw [← a5] at hr'
    obtain ⟨e, _, _, _, l, t, l1, l2, l3, l4, _⟩ := a11 r hr'
    rw [l4, nIm1 l1, nIpos (by omega)]
    constructor
    · intro u
      have := nI_inj (by omega) (by omega) (u.trans nI_0.symm)
      omega
    · intro u
      rw [show l - 1 = 0 by omega]
      rfl
  have hz : ∀ r ∈ LC h1 i c, sp h1 i (dk5 r) = true → (lf r - 1 = 0 ↔ ¬ 0 < lf r - 1) := by
    intro r hr hsp
    refine hone r hr (Decidable.byContradiction fun hl => ?_)
    rw [hdead r hr hl] at hsp
    exact absurd hsp (by decide)
  obtain ⟨g1, g2, g3, g4, g5, g6, g7, g8, g9, g10⟩ := GR_all z3 P1 ro hz c (Nat.le_refl c)
  obtain ⟨w1, w2, w3⟩ := live_gd (LC h1 i c) (sp h1 i) hdead hone
  have hH : ∀ e, e < 12 → s1 (oD e 0) = 2 → hasD (nI e) (LC h1 i c) = hasD (nI e) (LM s1 (cc s1)) := by
    intro e he h2e
    rw [a5]
    have nd' : ∀ r ∈ LC h1 i c, dk5 r = nI e → 0 < lf r := by
      intro r hr hre
      refine Decidable.byContradiction fun hl => ?_
      have := hdead r hr hl
      rw [hre, (sp1 e he).mpr h2e] at this
      exact absurd this (by decide)
    have := cnt_live _ nd'
    cases ha : hasD (nI e) (LC h1 i c) with
    | false =>
      rw [cntD_0.mpr ha] at this
      exact (cntD_0.mp this).symm
    | true =>
      cases hb : hasD (nI e) (live (LC h1 i c)) with
      | true => rfl
      | false =>
        rw [cntD_0.mpr hb] at this
        rw [cntD_0.mp this.symm] at ha
        exact absurd ha (by decide)
  have eA : ∀ e, e < 12 → ((h1.1 (4, i, e) 0 = 2 ∧ hasD (nI e) (LC h1 i c) = true) ↔ (s1 (oD e 0) = 2 ∧ hasD (nI e) (LM s1 (cc s1)) = true)) := by
    intro e he
    rw [a1.2.2 e he 0 (by decide)]
    show s1 (oD e 0) = 2 ∧ _ ↔ _
    constructor
    · rintro ⟨u, v⟩
      exact ⟨u, by rw [← hH e he u]; exact v⟩
    · rintro ⟨u, v⟩
      exact ⟨u, by rw [hH e he u]; exact v⟩
  have R0 : RD i s1 (LM s1 (cc s1)) 0 (gr h1 i c).1 s1 := by
    obtain ⟨n1, n2, n3⟩ := pd_no (LM s1 (cc s1)) (Ud s1 0) (fun _ _ => rfl)
    refine ⟨fun n hn => by rw [g2]; exact a1.1 n hn, fun k hk hk2 hk5 hk7 => by rw [g3 k hk5 hk7]; exact a1.2.1 k hk hk2, fun e he => absurd he (by omega), fun e _ he => ⟨fun f hf hf3 => by rw [g4 e f hf3]; exact a1.2.2 e he f hf, fun _ _ => rfl, ?_⟩, a4, n1.symm, by rw [n2, Int32.add_zero], by rw [n3, Int32.add_zero], fun _ _ _ => rfl, a10, a11⟩
    rw [g5 e he, a1.2.2 e he 3 (by decide), show mf 3 = 3 from rfl]
    simp only [eA e he]
  have RA : ∀ d, d ≤ 12 → RD i s1 (LM s1 (cc s1)) d (ri (gr h1 i c).1 i (gr h1 i c).2 d) (rdM s1 d) := by
    intro d
    induction d with
    | zero => intro _; exact R0
    | succ d ih =>
      intro hd
      exact RD_step (h1 := h1) (by omega) (by rw [g6 d (by omega), eA d (by omega)]) (ih (by omega))
  obtain ⟨r1, r2, r3, r4, r5, r6, r7, r8, r9, r10, r11⟩ := RA 12 (Nat.le_refl _)
  exact ⟨r5, r6, r7, r8, r9⟩
theorem rdMB_D {d : Nat} (hd : d < 12) (s : Nat → Int32) : (∀ e w, e < 12 → w < 6 → w ≠ 0 → w ≠ 1 → w ≠ 3 → rdMB d s (oD e w) = s (oD e w)) ∧ (∀ e, e < 12 → rdMB d s (oD e 0) = s (oD e 0) ∨ (s (oD e 0) = 2 ∧ rdMB d s (oD e 0) = 0)) ∧ rdMB d s 19 = s 19 := by
  have key : ∀ k, k < 93 → k ≠ 13 → k ≠ 20 → (∀ w, w < 6 → (w = 0 ∨ w = 1 ∨ w = 3) → k ≠ oD d w) → rdMB d s k = s k := by
    intro k hk h13 h20 hw
    have w0 := hw 0 (by decide) (Or.inl rfl)
    have w1 := hw 1 (by decide) (Or.inr (Or.inl rfl))
    have w3 := hw 3 (by decide) (Or.inr (Or.inr rfl))
    unfold rdMB
    by_cases z2 : s (oD d 0) = 2
    · rw [if_pos z2]
      cases hm : mfst s (cc s) (nI d) with
      | some p =>
        dsimp only
        split
        · rw [mrm_lo hk]
          unfold rdM2
          rw [upd_n _ _ h20, upd_n _ _ h13, upd_n _ _ (by unfold oR; omega), upd_n _ _ w3]
        · rw [upd_n _ _ (by unfold oR; omega), upd_n _ _ w3]
      | none =>
        dsimp only
        split
        · rw [upd_n _ _ w3]
        · split
          · rw [upd_n _ _ w3]
          · unfold mSb
            rw [upd_n _ _ w3, upd_n _ _ w1, upd_n _ _ w0, upd_n _ _ w3]
    · rw [if_neg z2]
  refine ⟨fun e w he hw h0 h1 h3 => key _ (by unfold oD; omega) (by unfold oD; omega) (by unfold oD; omega) (fun w' hw' z => by unfold oD; omega), fun e he => ?_, key 19 (by decide) (by decide) (by decide) (fun w _ _ => by unfold oD; omega)⟩
  by_cases ze : e = d
  · subst ze
    unfold rdMB
    have n3 : oD e 0 ≠ oD e 3 := by unfold oD; omega
    by_cases z2 : s (oD e 0) = 2
    · rw [if_pos z2]
      cases hm : mfst s (cc s) (nI e) with
      | some p =>
        dsimp only
        split
        · rw [mrm_lo (by unfold oD; omega)]
          unfold rdM2
          rw [upd_n _ _ (by unfold oD; omega), upd_n _ _ (by unfold oD; omega), upd_n _ _ (by unfold oR oD; omega), upd_n _ _ n3]
          exact Or.inl rfl
        · rw [upd_n _ _ (by unfold oR oD; omega), upd_n _ _ n3]
          exact Or.inl rfl
      | none =>
        dsimp only
        split
        · rw [upd_n _ _ n3]; exact Or.inl rfl
        · split
          · rw [upd_n _ _ n3]; exact Or.inl rfl
          · rw [mSb_v, if_pos (Or.inl rfl)]
            exact Or.inr ⟨z2, rfl⟩
    · rw [if_neg z2]
      exact Or.inl rfl
  · exact Or.inl (key _ (by unfold oD; omega) (by unfold oD; omega) (by unfold oD; omega) (fun w' hw' z => by unfold oD; omega))
theorem rdM_D (s : Nat → Int32) : ∀ d, d ≤ 12 → (∀ e w, e < 12 → w < 6 → w ≠ 0 → w ≠ 1 → w ≠ 3 → rdM s d (oD e w) = s (oD e w)) ∧ (∀ e, e < 12 → rdM s d (oD e 0) = s (oD e 0) ∨ (s (oD e 0) = 2 ∧ rdM s d (oD e 0) = 0)) ∧ rdM s d 19 = s 19 := by
  intro d
  induction d with
  | zero => exact fun _ => ⟨fun _ _ _ _ _ _ _ => rfl, fun _ _ => Or.inl rfl, rfl⟩
  | succ d ih =>
    intro hd
    obtain ⟨a1, a2, a3⟩ := ih (by omega)
    obtain ⟨b1, b2, b3⟩ := rdMB_D (show d < 12 by omega) (rdM s d)
    refine ⟨fun e w he hw h0 h1 h3 => (b1 e w he hw h0 h1 h3).trans (a1 e w he hw h0 h1 h3), fun e he => ?_, b3.trans a3⟩
    show rdMB d (rdM s d) (oD e 0) = _ ∨ _ ∧ rdMB d (rdM s d) (oD e 0) = 0
    rcases b2 e he with q | ⟨q1, q2⟩
    · rw [q]; exact a2 e he
    · rcases a2 e he with u | ⟨u1, u2⟩
      · rw [u] at q1
        exact Or.inr ⟨q1, q2⟩
      · rw [u2] at q1; exact absurd q1 (by decide)
def PC (s : Nat → Int32) (B d : Nat) (p : Nat → Int32) : Prop :=
  (∀ k, 93 ≤ k → p k = s k) ∧ (∀ k, k < 21 → k ≠ 18 → p k = s k) ∧ Q1 p ∧ Q5 p (B + d) ∧ ∀ e, e < 12 → (p (oD e 0) = 3 ↔ s (oD e 0) = 3)
theorem PC_step {s f p : Nat → Int32} {B d : Nat} (hd : d < 12) (h : PC s B d p) : PC s B (d + 1) (nsMB f d p) := by
  obtain ⟨h1, h2, h3, h4, h5⟩ := h
  unfold nsMB
  split
  · rename_i z
    obtain ⟨z0, -⟩ := z
    have k0 : ∀ k, k ≠ oD d 0 → k ≠ oD d 1 → k ≠ oD d 5 → k ≠ 18 → upd (upd (upd (upd p (oD d 0) 1) (oD d 1) (p 0)) (oD d 5) (p (oD d 5) + 1)) 18 (p 18 + 1) k = p k := fun k a b c e => by rw [upd_n _ _ e, upd_n _ _ c, upd_n _ _ b, upd_n _ _ a]
    have v0 : upd (upd (upd (upd p (oD d 0) 1) (oD d 1) (p 0)) (oD d 5) (p (oD d 5) + 1)) 18 (p 18 + 1) (oD d 0) = 1 := by rw [upd_n _ _ (by unfold oD; omega), upd_n _ _ (by unfold oD; omega), upd_n _ _ (by unfold oD; omega), upd_s]
    have v5 : upd (upd (upd (upd p (oD d 0) 1) (oD d 1) (p 0)) (oD d 5) (p (oD d 5) + 1)) 18 (p 18 + 1) (oD d 5) = p (oD d 5) + 1 := by rw [upd_n _ _ (by unfold oD; omega), upd_s]
    have v18 : upd (upd (upd (upd p (oD d 0) 1) (oD d 1) (p 0)) (oD d 5) (p (oD d 5) + 1)) 18 (p 18 + 1) 18 = p 18 + 1 := upd_s _ _ _
    generalize upd (upd (upd (upd p (oD d 0) 1) (oD d 1) (p 0)) (oD d 5) (p (oD d 5) + 1)) 18 (p 18 + 1) = p' at k0 v0 v5 v18 ⊢
    have ke : ∀ e w, e ≠ d → w < 6 → p' (oD e w) = p (oD e w) := fun e w he hw => k0 _ (by unfold oD; omega) (by unfold oD; omega) (by unfold oD; omega) (by unfold oD; omega)
    refine ⟨fun k hk => (k0 k (by unfold oD; omega) (by unfold oD; omega) (by unfold oD; omega) (by omega)).trans (h1 k hk), fun k hk h18 => (k0 k (by unfold oD; omega) (by unfold oD; omega) (by unfold oD; omega) h18).trans (h2 k hk h18), h3.cg (fun e he q => ?_), h4.start hd (by rw [z0]; decide) (fun e _ he => ke e 0 he (by decide)) (fun e _ he => ke e 5 he (by decide)) v5 v18 (k0 19 (by unfold oD; omega) (by unfold oD; omega) (by unfold oD; omega) (by decide)), fun e he => ?_⟩
    · by_cases ze : e = d
      · rw [ze, v0] at q; exact absurd q (by decide)
      · rw [ke e 0 ze (by decide)] at q
        exact Or.inl ⟨q, ke e 2 ze (by decide)⟩
    · rw [← h5 e he]
      by_cases ze : e = d
      · rw [ze, v0, z0]
        exact ⟨fun t => absurd t (by decide), fun t => absurd t (by decide)⟩
      · rw [ke e 0 ze (by decide)]
  · exact ⟨h1, h2, h3, h4.cg (by omega) (fun _ _ q => q) (fun _ _ => Or.inl rfl) rfl rfl, h5⟩
theorem PC_all {s f : Nat → Int32} {B : Nat} (h7 : Q1 s) (h8 : Q5 s B) : ∀ d, d ≤ 12 → PC s B d (nsM s f d) := by
  intro d
  induction d with
  | zero => exact fun _ => show PC s B 0 s from ⟨fun _ _ => rfl, fun _ _ _ => rfl, h7, h8, fun _ _ => Iff.rfl⟩
  | succ d ih => exact fun hd => PC_step (by omega) (ih (by omega))
def PD (s : Nat → Int32) (B c : Nat) (p : Nat → Int32) : Prop :=
  (LM p c).map k3 = (LM s c).map k3 ∧ p 93 = s 93 ∧ (∀ k, k < 21 → p k = s k) ∧ Q1 p ∧ Q5 p B ∧ ∀ e, e < 12 → (p (oD e 0) = 3 ↔ s (oD e 0) = 3)
theorem ban_k3 (s : Nat → Int32) (d c : Nat) : (LM (ban s d c) c).map k3 = (LM s c).map k3 := by
  unfold LM
  rw [List.map_map, List.map_map]
  refine List.map_congr_left (fun k hk => ?_)
  show k3 (rmk (ban s d c) k) = k3 (rmk s k)
  rw [ban_r s d c (List.mem_range.mp hk)]
  split <;> rfl
theorem ban_lo (s : Nat → Int32) (d c : Nat) {k : Nat} (hk : k < 94) : ban s d c k = s k := ban_o s d c k (fun j _ => by unfold oR; omega)
theorem PD_step {s p : Nat → Int32} {B c d : Nat} (hd : d < 12) (h : PD s B c p) : PD s B c (coMB c d p) := by
  unfold coMB
  split
  · exact h
  · rename_i z
    obtain ⟨h1, h2, h3, h4, h5, h6⟩ := h
    have z3 : ¬ p (oD d 0) = 3 := fun t => z (by rw [t]; decide)
    have k0 : ∀ k, k < 94 → (∀ w, w < 6 → k ≠ oD d w) → ban (mSb p d) d c k = p k := fun k hk hw => by rw [ban_lo _ _ _ hk, mSb_on _ _ _ hw]
    have v : ∀ w, w < 6 → ban (mSb p d) d c (oD d w) = if w = 0 ∨ w = 1 ∨ w = 3 then 0 else p (oD d w) := fun w hw => by rw [ban_lo _ _ _ (by unfold oD; omega), mSb_v]
    have e3 := ban_k3 (mSb p d) d c
    rw [LM_mSb hd] at e3
    generalize ban (mSb p d) d c = p' at k0 v e3 ⊢
    have v0 : p' (oD d 0) = 0 := v 0 (by decide)
    have ke : ∀ e w, e < 12 → e ≠ d → w < 6 → p' (oD e w) = p (oD e w) := fun e w he2 he hw => k0 _ (by unfold oD; omega) (fun w' hw' => by unfold oD; omega)
    refine ⟨e3.trans h1, (k0 93 (by decide) (fun w hw => by unfold oD; omega)).trans h2, fun k hk => (k0 k (by omega) (fun w hw => by unfold oD; omega)).trans (h3 k hk), h4.cg (fun e he q => ?_), h5.cg (Nat.le_refl _) (fun e he q => ?_) (fun e he => Or.inl ?_) (k0 18 (by decide) (fun w hw => by unfold oD; omega)) (k0 19 (by decide) (fun w hw => by unfold oD; omega)), fun e he => ?_⟩
    · by_cases ze : e = d
      · rw [ze, v0] at q; exact absurd q (by decide)
      · rw [ke e 0 he ze (by decide)] at q
        exact Or.inl ⟨q, ke e 2 he ze (by decide)⟩
    · by_cases ze : e = d
      · rw [ze, v0] at q; exact absurd q (by decide)
      · rw [ke e 0 he ze (by decide)] at q; exact q
    · by_cases ze : e = d
      · rw [ze]; exact v 5 (by decide)
      · exact ke e 5 he ze (by decide)
    · rw [← h6 e he]
      by_cases ze : e = d
      · rw [ze, v0]
        exact ⟨fun t => absurd t (by decide), fun t => absurd t z3⟩
      · rw [ke e 0 he ze (by decide)]
theorem PD_all {s : Nat → Int32} {B c : Nat} (h7 : Q1 s) (h8 : Q5 s B) : ∀ d, d ≤ 12 → PD s B c (coM s c d) := by
  intro d
  induction d with
  | zero => exact fun _ => show PD s B c s from ⟨rfl, rfl, fun _ _ => rfl, h7, h8, fun _ _ => Iff.rfl⟩
  | succ d ih => exact fun hd => PD_step (by omega) (ih (by omega))
theorem fuM_o (s : Nat → Int32) (x : Int32) {k : Nat} (hk : k ≠ 15 ∧ k ≠ 16 ∧ k ≠ 17) : fuM s x k = s k := by
  unfold fuM blM
  split
  · rfl
  · split
    · rw [upd_n _ _ hk.2.1, upd_n _ _ hk.2.2, upd_n _ _ hk.1]
    · split
      · split
        · rw [upd_n _ _ hk.2.1, upd_n _ _ hk.2.2, upd_n _ _ hk.1, upd_n _ _ hk.2.1]
        · rw [upd_n _ _ hk.2.1]
      · rw [upd_n _ _ hk.2.1]
theorem tkM2_o (t : Nat → Int32) {k : Nat} (hk : k ≠ 10 ∧ k ≠ 11 ∧ k ≠ 15 ∧ k ≠ 16 ∧ k ≠ 17) : tkM2 t k = t k := by
  unfold tkM2
  rw [fuM_o _ _ ⟨hk.2.2.1, hk.2.2.2.1, hk.2.2.2.2⟩, upd_n _ _ hk.2.1, upd_n _ _ hk.1]
theorem tkM2_10 (t : Nat → Int32) : tkM2 t 10 = t 10 + 1 := by
  unfold tkM2
  rw [fuM_o _ _ (by decide), upd_n _ _ (by decide), upd_s]
theorem tkM2_11 (t : Nat → Int32) : ∃ x, tkM2 t 11 = mx (t 11) x := by
  unfold tkM2
  rw [fuM_o _ _ (by decide), upd_s]
  exact ⟨_, rfl⟩
theorem mx_n0 {a b : Int32} (h : ¬ a < 0) : ¬ mx a b < 0 := by
  unfold mx
  split
  · rename_i z
    exact fun t => h (Int32.lt_trans z t)
  · exact h
/-! what is answered in a tick -/
def ask (r : R5) : Nat := r.2.2.2.2.toNatClampNeg
theorem pd_k3 : ∀ (L : List R5) (U : Int32 → Bool), ((pd U L).map k3).Sublist (L.map k3) := by
  intro L
  induction L with
  | nil => exact fun _ => List.Sublist.refl _
  | cons r L ih =>
    intro U
    simp only [pd]
    split
    · split
      · exact (ih _).cons _
      · exact (ih _).cons_cons _
    · exact (ih _).cons_cons _
theorem pd_all (T : Nat) (hT : T < 200000) : ∀ (L : List R5) (U : Int32 → Bool), (∀ r ∈ L, ∃ a, a ≤ T ∧ r.2.2.2.2 = nI a) → ∃ n w, nd U L = nI n ∧ wt (nI (T + 1)) U L = nI w ∧ (pd U L).length + n = L.length ∧ w ≤ n * (T + 1) ∧ ∀ r ∈ L, k3 r ∈ (pd U L).map k3 ∨ (1 ≤ n ∧ T + 1 ≤ w + ask r) := by
  intro L
  induction L with
  | nil => exact fun U _ => ⟨0, 0, rfl, rfl, rfl, Nat.zero_le _, fun r hr => by cases hr⟩
  | cons r L ih =>
    intro U h
    obtain ⟨a, ha, har⟩ := h r List.mem_cons_self
    have hL : ∀ r ∈ L, ∃ a, a ≤ T ∧ r.2.2.2.2 = nI a := fun x hx => h x (List.mem_cons_of_mem _ hx)
    have hk : ask r = a := by unfold ask; rw [har, i_cl (by omega)]
    simp only [pd, nd, wt]
    cases hU : U (dk5 r) with
    | false =>
      obtain ⟨n, w, e1, e2, e3, e4, e5⟩ := ih U hL
      refine ⟨n, w, e1, e2, by simp only [Bool.false_eq_true, if_false, List.length_cons]; omega, e4, fun x hx => ?_⟩
      simp only [Bool.false_eq_true, if_false, List.map_cons]
      rcases List.mem_cons.mp hx with rfl | hx
      · exact Or.inl List.mem_cons_self
      · exact (e5 x hx).imp (fun q => List.mem_cons_of_mem _ q) id
    | true =>
      obtain ⟨n, w, e1, e2, e3, e4, e5⟩ := ih (wo U (dk5 r)) hL
      simp only [if_true]
      by_cases z : lf r - 1 = 0
      · refine ⟨n + 1, (T + 1 - a) + w, ?_, ?_, ?_, ?_, fun x hx => ?_⟩
        · rw [if_pos z, e1, show (1 : Int32) = nI 1 from rfl, nI_add, Nat.add_comm]
        · rw [if_pos z, e2, har, pk_sub (by omega), nI_add]
        · rw [if_pos z, List.length_cons]; omega
        · rw [Nat.succ_mul]; omega
        · rw [if_pos z]
          rcases List.mem_cons.mp hx with rfl | hx
          · exact Or.inr ⟨by omega, by omega⟩
          · exact (e5 x hx).imp id (fun q => ⟨by omega, by omega⟩)
      · refine ⟨n, w, by rw [if_neg z]; exact e1, by rw [if_neg z]; exact e2, by rw [if_neg z, List.length_cons, List.length_cons]; omega, e4, fun x hx => ?_⟩
        rw [if_neg z, List.map_cons]
        rcases List.mem_cons.mp hx with rfl | hx
        · exact Or.inl List.mem_cons_self
        · exact (e5 x hx).imp (fun q => List.mem_cons_of_mem _ q) id
