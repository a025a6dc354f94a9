/-! reading: the class's loop -/
/-- the first read of each disk of U goes on by a tick -/
def gd : (Int32 → Bool) → List R5 → List R5
  | _, [] => []
  | U, r :: rs => if U (dk5 r) then decR r :: gd (wo U (dk5 r)) rs else r :: gd U rs
theorem snoc_c (U : Int32 → Bool) (a x : Int32) (b : Bool) (h : U a = true) : (wo U a x = true ∧ b = false) ↔ (U x = true ∧ (decide (a = x) || b) = false) := by
  unfold wo
  by_cases z : x = a
  · subst z; simp
  · simp [z, Ne.symm z]
theorem snoc_d (U : Int32 → Bool) (a x : Int32) (b : Bool) (h : U a = false) : (U x = true ∧ b = false) ↔ (U x = true ∧ (decide (a = x) || b) = false) := by
  by_cases z : a = x
  · subst z; simp [h]
  · simp [z]
theorem hasD_cons (x : Int32) (a : R5) (L : List R5) : hasD x (a :: L) = (decide (dk5 a = x) || hasD x L) := rfl
theorem hasD_snoc (x : Int32) (a : R5) (L : List R5) : hasD x (L ++ [a]) = (hasD x L || decide (dk5 a = x)) := by
  simp [hasD]
theorem gd_snoc (r : R5) : ∀ (L : List R5) (U : Int32 → Bool), gd U (L ++ [r]) = gd U L ++ [if U (dk5 r) = true ∧ hasD (dk5 r) L = false then decR r else r] ∧ nd U (L ++ [r]) = nd U L + (if U (dk5 r) = true ∧ hasD (dk5 r) L = false then (if lf r - 1 = 0 then 1 else 0) else 0) ∧ ∀ t, wt t U (L ++ [r]) = wt t U L + (if U (dk5 r) = true ∧ hasD (dk5 r) L = false then (if lf r - 1 = 0 then t - r.2.2.2.2 else 0) else 0) := by
  intro L
  induction L with
  | nil =>
    intro U
    have : hasD (dk5 r) [] = false := rfl
    cases hU : U (dk5 r) with
    | true =>
      refine ⟨by simp [gd, hU, this], ?_, fun t => ?_⟩
      · by_cases z : lf r - 1 = 0 <;> simp [nd, hU, this, z]
      · by_cases z : lf r - 1 = 0 <;> simp [wt, hU, this, z]
    | false => exact ⟨by simp [gd, hU], by simp [nd, hU], fun t => by simp [wt, hU]⟩
  | cons a L ih =>
    intro U
    rw [hasD_cons]
    cases hU : U (dk5 a) with
    | true =>
      obtain ⟨h1, h2, h3⟩ := ih (wo U (dk5 a))
      simp only [snoc_c U (dk5 a) (dk5 r) (hasD (dk5 r) L) hU] at h1 h2 h3
      refine ⟨?_, ?_, fun t => ?_⟩
      · simp only [List.cons_append, gd, hU, if_true]
        rw [h1]
      · simp only [List.cons_append, nd, hU, if_true]
        rw [h2]
        by_cases z : lf a - 1 = 0
        · rw [if_pos z, if_pos z, Int32.add_assoc]
        · rw [if_neg z, if_neg z]
      · simp only [List.cons_append, wt, hU, if_true]
        rw [h3 t]
        by_cases z : lf a - 1 = 0
        · rw [if_pos z, if_pos z, Int32.add_assoc]
        · rw [if_neg z, if_neg z]
    | false =>
      obtain ⟨h1, h2, h3⟩ := ih U
      simp only [snoc_d U (dk5 a) (dk5 r) (hasD (dk5 r) L) hU] at h1 h2 h3
      refine ⟨?_, ?_, fun t => ?_⟩
      · simp only [List.cons_append, gd, hU, Bool.false_eq_true, if_false]
        rw [h1]
      · simp only [List.cons_append, nd, hU, Bool.false_eq_true, if_false]
        rw [h2]
      · simp only [List.cons_append, wt, hU, Bool.false_eq_true, if_false]
        rw [h3 t]
theorem gd_map : ∀ (L : List R5) (U : Int32 → Bool), (gd U L).map dk5 = L.map dk5 := by
  intro L
  induction L with
  | nil => intro U; rfl
  | cons a L ih =>
    intro U
    unfold gd
    split
    · rw [List.map_cons, List.map_cons, ih]
      rfl
    · rw [List.map_cons, List.map_cons, ih]
theorem live_cons (a : R5) (L : List R5) : live (a :: L) = if 0 < lf a then a :: live L else live L := by
  unfold live
  rw [List.filter_cons]
  by_cases z : 0 < lf a
  · rw [if_pos z, if_pos (by simpa using z)]
  · rw [if_neg z, if_neg (by simpa using z)]
theorem live_gd : ∀ (L : List R5) (U : Int32 → Bool), (∀ r ∈ L, ¬ 0 < lf r → U (dk5 r) = false) → (∀ r ∈ L, 0 < lf r → (lf r - 1 = 0 ↔ ¬ 0 < lf r - 1)) → live (gd U L) = pd U (live L) ∧ nd U L = nd U (live L) ∧ ∀ t, wt t U L = wt t U (live L) := by
  intro L
  induction L with
  | nil => intro U _ _; exact ⟨rfl, rfl, fun _ => rfl⟩
  | cons a L ih =>
    intro U h1 h2
    have h1' : ∀ r ∈ L, ¬ 0 < lf r → U (dk5 r) = false := fun r hr => h1 r (List.mem_cons_of_mem _ hr)
    have h2' : ∀ r ∈ L, 0 < lf r → (lf r - 1 = 0 ↔ ¬ 0 < lf r - 1) := fun r hr => h2 r (List.mem_cons_of_mem _ hr)
    by_cases zl : 0 < lf a
    · rw [live_cons, if_pos zl]
      cases hU : U (dk5 a) with
      | true =>
        obtain ⟨a1, a2, a3⟩ := ih (wo U (dk5 a)) (fun r hr hl => by unfold wo; rw [h1' r hr hl]; rfl) h2'
        have ez := h2 a List.mem_cons_self zl
        refine ⟨?_, ?_, fun t => ?_⟩
        · simp only [gd, pd, hU, if_true]
          rw [live_cons, a1]
          by_cases z : lf a - 1 = 0
          · rw [if_pos z, if_neg (show ¬ 0 < lf (decR a) from ez.mp z)]
          · rw [if_neg z, if_pos (show 0 < lf (decR a) from Decidable.not_not.mp (fun t => z (ez.mpr t)))]
        · simp only [nd, hU, if_true]
          rw [a2]
        · simp only [wt, hU, if_true]
          rw [a3 t]
      | false =>
        obtain ⟨a1, a2, a3⟩ := ih U h1' h2'
        refine ⟨?_, ?_, fun t => ?_⟩
        · simp only [gd, pd, hU, Bool.false_eq_true, if_false]
          rw [live_cons, if_pos zl, a1]
        · simp only [nd, hU, Bool.false_eq_true, if_false]
          rw [a2]
        · simp only [wt, hU, Bool.false_eq_true, if_false]
          rw [a3 t]
    · have hU := h1 a List.mem_cons_self zl
      obtain ⟨a1, a2, a3⟩ := ih U h1' h2'
      rw [live_cons, if_neg zl]
      refine ⟨?_, ?_, fun t => ?_⟩
      · simp only [gd, hU, Bool.false_eq_true, if_false]
        rw [live_cons, if_neg zl, a1]
      · simp only [nd, hU, Bool.false_eq_true, if_false]
        rw [a2]
      · simp only [wt, hU, Bool.false_eq_true, if_false]
        rw [a3 t]
theorem LC_succ (h : DH) (i k : Nat) : LC h i (k + 1) = LC h i k ++ [rdk h i k] := by
  unfold LC
  rw [List.range_succ, List.map_append]
  rfl
/-- the disks that spin -/
def sp (h : DH) (i : Nat) : Int32 → Bool := fun x => decide (h.1 (4, i, x.toNatClampNeg) 0 = 2)
theorem sp_e {h : DH} {i e : Nat} (he : e < 12) : sp h i (nI e) = true ↔ h.1 (4, i, e) 0 = 2 := by
  unfold sp
  rw [i_cl (by omega)]
  exact decide_eq_true_iff
def GR (h : DH) (i k : Nat) (q : DH × Int32) : Prop :=
  q.1.2 = h.2 ∧ q.1.1 (1, i, 0) = h.1 (1, i, 0) ∧ (∀ j, j ≠ 5 → j ≠ 7 → q.1.1 (0, i, 0) j = h.1 (0, i, 0) j) ∧ (∀ e f, f ≠ 3 → q.1.1 (4, i, e) f = h.1 (4, i, e) f) ∧
  (∀ e, e < 12 → q.1.1 (4, i, e) 3 = if h.1 (4, i, e) 0 = 2 ∧ hasD (nI e) (LC h i k) = true then 0 else h.1 (4, i, e) 3) ∧
  (∀ e, e < 12 → (q.2 &&& bitOf (nI e) = 0 ↔ ¬ (h.1 (4, i, e) 0 = 2 ∧ hasD (nI e) (LC h i k) = true))) ∧
  (∀ j, k ≤ j → j < 30 → rdk q.1 i j = rdk h i j) ∧ LC q.1 i k = gd (sp h i) (LC h i k) ∧
  q.1.1 (0, i, 0) 5 = h.1 (0, i, 0) 5 + nd (sp h i) (LC h i k) ∧ q.1.1 (0, i, 0) 7 = h.1 (0, i, 0) 7 + wt (h.1 (0, i, 0) 8 + 1) (sp h i) (LC h i k)
theorem LC_cg {h h' : DH} {i c : Nat} (e : ∀ k, k < c → rdk h' i k = rdk h i k) : LC h' i c = LC h i c := by
  unfold LC
  exact List.map_congr_left (fun k hk => e k (List.mem_range.mp hk))
theorem GR_step {h : DH} {i k c : Nat} {q : DH × Int32} (hk : k < c) (hc : c ≤ 30) (hp : pmi h i) (hk0 : rok h i c) (hz : ∀ r ∈ LC h i c, sp h i (dk5 r) = true → (lf r - 1 = 0 ↔ ¬ 0 < lf r - 1)) (hg : GR h i k q) : GR h i (k + 1) (grB i k q) := by
  obtain ⟨g, b⟩ := q
  obtain ⟨g1, g2, g3, g4, g5, g6, g7, g8, g9, g10⟩ := hg
  dsimp only at g1 g2 g3 g4 g5 g6 g7 g8 g9 g10
  obtain ⟨d, hd, hkd⟩ := hk0 k hk
  have hr := g7 k (Nat.le_refl k) (by omega)
  have hdk : dk5 (rdk h i k) = nI d := hkd
  have e1 : g.1 (5, i, g.2 (3, i, 0) k) 1 = nI d := by rw [← hkd]; exact congrArg dk5 hr
  have e3 : g.1 (5, i, g.2 (3, i, 0) k) 3 = lf (rdk h i k) := congrArg lf hr
  have e4 : g.1 (5, i, g.2 (3, i, 0) k) 4 = (rdk h i k).2.2.2.2 := congrArg (fun r : R5 => r.2.2.2.2) hr
  have hz' := hz _ (LC_mem.mpr ⟨k, hk, rfl⟩)
  rw [hdk] at hz'
  obtain ⟨s1, s2, s3⟩ := gd_snoc (rdk h i k) (LC h i k) (sp h i)
  rw [hdk] at s1 s2 s3
  have hs := hasD_snoc
  unfold grB
  dsimp only
  rw [e1, i_cl (show d < 2 ^ 31 by omega), g4 d 0 (by decide)]
  have hS : ∀ e, e < 12 → (hasD (nI e) (LC h i (k + 1)) = true ↔ hasD (nI e) (LC h i k) = true ∨ e = d) := by
    intro e he
    rw [LC_succ, hasD_snoc, hdk]
    by_cases z : e = d
    · subst z; simp
    · have : ¬ nI d = nI e := fun t => z (nI_inj (by omega) (by omega) t).symm
      simp [this, z]
  have keep : ¬ (h.1 (4, i, d) 0 = 2 ∧ hasD (nI d) (LC h i k) = false) → GR h i (k + 1) (g, b) := by
    intro hn
    have hn' : ¬ (sp h i (nI d) = true ∧ hasD (nI d) (LC h i k) = false) := by rw [sp_e hd]; exact hn
    rw [if_neg hn'] at s1 s2
    have hq : ∀ e, e < 12 → ((h.1 (4, i, e) 0 = 2 ∧ hasD (nI e) (LC h i (k + 1)) = true) ↔ (h.1 (4, i, e) 0 = 2 ∧ hasD (nI e) (LC h i k) = true)) := by
      intro e he
      rw [hS e he]
      refine ⟨fun t => ⟨t.1, ?_⟩, fun t => ⟨t.1, Or.inl t.2⟩⟩
      rcases t.2 with u | u
      · exact u
      · subst u
        cases hb : hasD (nI e) (LC h i k) with
        | true => rfl
        | false => exact absurd ⟨t.1, hb⟩ hn
    refine ⟨g1, g2, g3, g4, fun e he => ?_, fun e he => ?_, fun j hj hj2 => g7 j (by omega) hj2, ?_, ?_, ?_⟩
    · dsimp only
      rw [g5 e he]
      simp only [hq e he]
    · dsimp only
      rw [g6 e he, hq e he]
    · dsimp only
      rw [LC_succ, LC_succ, g8, s1, hr]
    · dsimp only
      rw [LC_succ, s2, g9, Int32.add_zero]
    · dsimp only
      rw [LC_succ, s3, if_neg hn', g10, Int32.add_zero]
  by_cases zA : h.1 (4, i, d) 0 = 2
  · rw [if_pos zA]
    cases zB : hasD (nI d) (LC h i k) with
    | true =>
      rw [if_neg (fun t => (g6 d hd).mp t ⟨zA, zB⟩)]
      exact keep (fun t => by rw [zB] at t; exact absurd t.2 (by decide))
    | false =>
      rw [if_pos ((g6 d hd).mpr (fun t => by rw [zB] at t; exact absurd t.2 (by decide)))]
      have hq : ∀ e, e < 12 → ((h.1 (4, i, e) 0 = 2 ∧ hasD (nI e) (LC h i (k + 1)) = true) ↔ ((h.1 (4, i, e) 0 = 2 ∧ hasD (nI e) (LC h i k) = true) ∨ e = d)) := by
        intro e he
        rw [hS e he]
        refine ⟨fun t => ?_, fun t => ?_⟩
        · rcases t.2 with u | u
          · exact Or.inl ⟨t.1, u⟩
          · exact Or.inr u
        · rcases t with u | u
          · exact ⟨u.1, Or.inl u.2⟩
          · exact ⟨by rw [u]; exact zA, Or.inr u⟩
      have hy : sp h i (nI d) = true ∧ hasD (nI d) (LC h i k) = false := ⟨(sp_e hd).mpr zA, zB⟩
      rw [if_pos hy] at s1 s2
      rw [e3]
      have hz2 := hz' hy.1
      generalize hX : up1 g (4, i, d) 3 0 = X
      have X2 : X.2 = h.2 := by rw [← hX]; exact g1
      have Xr : ∀ j, rdk X i j = rdk g i j := fun j => by rw [← hX]; exact rdk_o (show (4 : Nat) ≠ 5 by decide) _ _
      have XP : pmi X i := fun a b' ha hb hab => hp a b' ha hb (by rw [X2] at hab; exact hab)
      have X5 : ∀ p, X.1 (5, i, p) = g.1 (5, i, p) := fun p => by rw [← hX, up1_ne _ _ _ (by simp)]
      rw [show g.2 (3, i, 0) k = X.2 (3, i, 0) k by rw [X2, g1]]
      generalize hY : up1 X (5, i, X.2 (3, i, 0) k) 3 (lf (rdk h i k) - 1) = Y
      have Y2 : Y.2 = h.2 := by rw [← hY]; exact X2
      have Yk : rdk Y i k = decR (rdk h i k) := by rw [← hY, rdk_me, Xr, hr]; rfl
      have Yj : ∀ j, j < 30 → j ≠ k → rdk Y i j = rdk g i j := fun j hj hne => by rw [← hY, rdk_at 3 _ XP (by omega) hj hne, Xr]
      have Y1 : Y.1 (1, i, 0) = h.1 (1, i, 0) := by rw [← hY, up1_ne _ _ _ (by simp), ← hX, up1_ne _ _ _ (by simp)]; exact g2
      have Y0 : Y.1 (0, i, 0) = g.1 (0, i, 0) := by rw [← hY, up1_ne _ _ _ (by simp), ← hX, up1_ne _ _ _ (by simp)]
      have Y4 : ∀ e f, f ≠ 3 → Y.1 (4, i, e) f = h.1 (4, i, e) f := fun e f hf => by rw [← hY, up1_ne _ _ _ (by simp), ← hX, up1_1, if_neg (fun t => hf t.2)]; exact g4 e f hf
      have Y43 : ∀ e, e < 12 → Y.1 (4, i, e) 3 = if h.1 (4, i, e) 0 = 2 ∧ hasD (nI e) (LC h i (k + 1)) = true then 0 else h.1 (4, i, e) 3 := fun e he => by
        rw [← hY, up1_ne _ _ _ (by simp), ← hX, up1_1]
        by_cases ze : e = d
        · subst ze
          rw [if_pos ⟨rfl, rfl⟩, if_pos ((hq e he).mpr (Or.inr rfl))]
        · rw [if_neg (fun t => ze (by simpa using t.1)), g5 e he]
          simp only [hq e he, ze, or_false]
      have YL : LC Y i (k + 1) = gd (sp h i) (LC h i (k + 1)) := by
        rw [LC_succ, LC_succ, s1, ← g8, Yk, LC_cg (fun j hj => Yj j (by omega) (by omega))]
      have Yb : ∀ e, e < 12 → ((b ||| bitOf (nI d)) &&& bitOf (nI e) = 0 ↔ ¬ (h.1 (4, i, e) 0 = 2 ∧ hasD (nI e) (LC h i (k + 1)) = true)) := by
        intro e he
        rw [and_or0, g6 e he, bit_t d hd e he, hq e he]
        constructor
        · rintro ⟨t1, t2⟩ (t | t)
          · exact t1 t
          · exact t2 t.symm
        · intro t
          exact ⟨fun u => t (Or.inl u), fun u => t (Or.inr u.symm)⟩
      by_cases zl : 0 < lf (rdk h i k) - 1
      · rw [if_pos zl]
        have zn : ¬ lf (rdk h i k) - 1 = 0 := fun t => hz2.mp t zl
        refine ⟨Y2, Y1, fun j hj hj2 => ?_, Y4, Y43, Yb, fun j hj hj2 => ?_, YL, ?_, ?_⟩
        · dsimp only
          rw [Y0, g3 j hj hj2]
        · dsimp only
          rw [Yj j hj2 (by omega), g7 j (by omega) hj2]
        · dsimp only
          rw [Y0, LC_succ, s2, if_neg zn, g9, Int32.add_zero]
        · dsimp only
          rw [Y0, LC_succ, s3, if_pos hy, if_neg zn, g10, Int32.add_zero]
      · rw [if_neg zl]
        have zn : lf (rdk h i k) - 1 = 0 := hz2.mpr zl
        rw [show g.1 (5, i, X.2 (3, i, 0) k) 4 = (rdk h i k).2.2.2.2 by rw [X2, ← g1]; exact e4]
        generalize hZ : up1 (up1 Y (0, i, 0) 5 (g.1 (0, i, 0) 5 + 1)) (0, i, 0) 7 (g.1 (0, i, 0) 7 + (g.1 (0, i, 0) 8 + 1 - (rdk h i k).2.2.2.2)) = Z
        have Zr : ∀ j, rdk Z i j = rdk Y i j := fun j => by rw [← hZ, rdk_o (show (0 : Nat) ≠ 5 by decide), rdk_o (show (0 : Nat) ≠ 5 by decide)]
        have Zo : ∀ κ : DKey, κ ≠ (0, i, 0) → Z.1 κ = Y.1 κ := fun κ hκ => by rw [← hZ, up1_ne _ _ _ hκ, up1_ne _ _ _ hκ]
        refine ⟨by rw [← hZ]; exact Y2, (Zo _ (by simp)).trans Y1, fun j hj hj2 => ?_, fun e f hf => by rw [Zo _ (by simp)]; exact Y4 e f hf, fun e he => by rw [Zo _ (by simp)]; exact Y43 e he, Yb, fun j hj hj2 => ?_, ?_, ?_, ?_⟩
        · dsimp only
          rw [← hZ, up1_1, if_neg (fun t => hj2 t.2), up1_1, if_neg (fun t => hj t.2), Y0, g3 j hj hj2]
        · dsimp only
          rw [Zr, Yj j hj2 (by omega), g7 j (by omega) hj2]
        · dsimp only
          rw [← YL]
          exact LC_cg (fun j _ => Zr j)
        · dsimp only
          rw [← hZ, up1_1, if_neg (by simp), up1_1, if_pos ⟨rfl, rfl⟩, LC_succ, s2, if_pos zn, g9, Int32.add_assoc]
        · dsimp only
          rw [← hZ, up1_1, if_pos ⟨rfl, rfl⟩, LC_succ, s3, if_pos hy, if_pos zn, g10, g3 8 (by decide) (by decide), Int32.add_assoc]
  · rw [if_neg zA]
    exact keep (fun t => zA t.1)
theorem GR_all {h : DH} {i c : Nat} (hc : c ≤ 30) (hp : pmi h i) (hk0 : rok h i c) (hz : ∀ r ∈ LC h i c, sp h i (dk5 r) = true → (lf r - 1 = 0 ↔ ¬ 0 < lf r - 1)) : ∀ k, k ≤ c → GR h i k (gr h i k) := by
  intro k
  induction k with
  | zero =>
    intro _
    have hn : ∀ x, hasD x (LC h i 0) = false := fun _ => rfl
    refine ⟨rfl, rfl, fun _ _ _ => rfl, fun _ _ _ => rfl, fun e _ => ?_, fun e _ => ?_, fun _ _ _ => rfl, rfl, ?_, ?_⟩
    · rw [if_neg (fun t => by rw [hn] at t; exact absurd t.2 (by decide))]
      rfl
    · refine ⟨fun _ t => by rw [hn] at t; exact absurd t.2 (by decide), fun _ => ?_⟩
      show (0 : Int32) &&& _ = 0
      simp
    · show _ = _ + (0 : Int32)
      rw [Int32.add_zero]
      rfl
    · show _ = _ + (0 : Int32)
      rw [Int32.add_zero]
      rfl
  | succ k ih => intro hk; exact GR_step (by omega) hc hp hk0 hz (ih (by omega))
