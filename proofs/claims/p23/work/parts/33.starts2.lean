/-! invariants of the reference's row, and starts on both sides -/
def DInv (s : Nat → Int32) (e : Nat) : Prop := (∃ v, v < 4 ∧ s (oD e 0) = nI v) ∧ (s (oD e 0) = 1 → ∃ l, 1 ≤ l ∧ l ≤ 20 ∧ s (oD e 1) = nI l) ∧ (s (oD e 0) ≠ 1 → s (oD e 1) = 0) ∧ (s (oD e 0) ≠ 2 → s (oD e 3) = 0) ∧ (s (oD e 0) ≠ 3 → ∃ q, q ≤ 2 ∧ s (oD e 2) = nI q) ∧ (s (oD e 4) = 0 ∨ s (oD e 4) = 1)
def RInv (s : Nat → Int32) (r : R5) : Prop := ∃ e, e < 12 ∧ dk5 r = nI e ∧ s (oD e 0) ≠ 3 ∧ ∃ l t, 1 ≤ l ∧ l ≤ t ∧ t ≤ 50 ∧ lf r = nI l ∧ r.2.2.1 = nI t ∧ (s (oD e 0) ≠ 2 → l = t)
def NInv (s : Nat → Int32) : Prop := (∃ a, 1 ≤ a ∧ a ≤ 20 ∧ s 0 = nI a) ∧ (∃ a, a ≤ 500 ∧ s 5 = nI a) ∧ (∃ a, a ≤ 100 ∧ s 6 = nI a) ∧ (∃ a, a ≤ 20 ∧ s 7 = nI a) ∧ (s 15 = 0 ∨ s 15 = 1)
theorem nI_inj {a b : Nat} (ha : a < 2 ^ 31) (hb : b < 2 ^ 31) (h : nI a = nI b) : a = b := (nI_eq ha hb).mp h
theorem DInv.cg {s s' : Nat → Int32} {e : Nat} (h : DInv s e) (he : ∀ w, w < 6 → s' (oD e w) = s (oD e w)) : DInv s' e := by
  unfold DInv
  rw [he 0 (by decide), he 1 (by decide), he 2 (by decide), he 3 (by decide), he 4 (by decide)]
  exact h
theorem cnt_live {x : Int32} : ∀ (L : List R5), (∀ r ∈ L, dk5 r = x → 0 < lf r) → cntD x (live L) = cntD x L := by
  intro L
  induction L with
  | nil => intro _; rfl
  | cons r L ih =>
    intro h
    have h2 := ih (fun q hq => h q (List.mem_cons_of_mem _ hq))
    unfold live cntD at h2 ⊢
    by_cases z : dk5 r = x
    · have zl := h r List.mem_cons_self z
      rw [List.filter_cons (x := r), if_pos (by simpa using zl), List.filter_cons (x := r), if_pos (by simpa using z), List.filter_cons (x := r), if_pos (by simpa using z), List.length_cons, List.length_cons, h2]
    · by_cases zl : 0 < lf r
      · rw [List.filter_cons (x := r), if_pos (by simpa using zl), List.filter_cons (x := r), if_neg (by simpa using z), List.filter_cons (x := r), if_neg (by simpa using z), h2]
      · rw [List.filter_cons (x := r), if_neg (by simpa using zl), List.filter_cons (x := r), if_neg (by simpa using z), h2]
/-- both sides at disk d of the starts -/
def RG (h : DH) (i c : Nat) (s : Nat → Int32) (d : Nat) (q : DH × Int32) (p : (Nat → Int32) × (Nat → Int32)) : Prop :=
  RB q.1 i p.1 ∧ q.1.1 (0, i, 0) 3 = nI c ∧ q.1.2 = h.2 ∧ okC p.1 ∧ LM p.1 (cc p.1) = live (LC q.1 i c) ∧
  (∀ e, e < 12 → (q.2 &&& bitOf (nI e) = 0 ↔ (e < d → p.2 e = 0))) ∧
  (∀ r ∈ LC q.1 i c, ¬ 0 < lf r → ∃ e, e < d ∧ dk5 r = nI e ∧ p.1 (oD e 0) = 3) ∧
  (LC q.1 i c).map dk5 = (LC h i c).map dk5 ∧ (∀ e, e < 12 → q.1.1 (4, i, e) 6 = h.1 (4, i, e) 6) ∧
  (∀ e, e < 12 → DInv p.1 e) ∧ (∀ r ∈ LM p.1 (cc p.1), RInv p.1 r) ∧ (∀ k, k < 19 → k ≠ 14 → p.1 k = s k)
theorem nIm1 {l : Nat} (h : 1 ≤ l) : nI l - 1 = nI (l - 1) := by rw [show (1 : Int32) = nI 1 from rfl, pk_sub h]
theorem nIpos {l : Nat} (hl : l < 2 ^ 31) : 0 < nI l ↔ 0 < l := by
  rw [show (0 : Int32) = nI 0 from rfl]
  exact nI_ltI (by decide) hl
theorem LC_40 {h : DH} {i c d f : Nat} (v : Int32) : LC (up1 h (4, i, d) f v) i c = LC h i c := LC_o (show (4 : Nat) ≠ 5 by decide) f v
theorem LC_00 {h : DH} {i c f : Nat} (v : Int32) : LC (up1 h (0, i, 0) f v) i c = LC h i c := LC_o (show (0 : Nat) ≠ 5 by decide) f v
theorem LM_oD {s : Nat → Int32} {c d w : Nat} (hd : d < 12) (hw : w < 6) (v : Int32) : LM (upd s (oD d w) v) c = LM s c := LM_lo (by unfold oD; omega) v
theorem cc_cg {s s' : Nat → Int32} (h : s' 93 = s 93) : cc s' = cc s := by unfold cc; rw [h]
theorem RInv.cg {s s' : Nat → Int32} {r : R5} (h : RInv s r) (he : ∀ e, e < 12 → dk5 r = nI e → (s' (oD e 0) ≠ 3 ∨ s (oD e 0) = 3) ∧ (s' (oD e 0) ≠ 2 → s (oD e 0) ≠ 2)) : RInv s' r := by
  obtain ⟨e, h1, h2, h3, l, t, h4, h5, h6, h7, h8, h9⟩ := h
  refine ⟨e, h1, h2, ?_, l, t, h4, h5, h6, h7, h8, fun z => h9 ((he e h1 h2).2 z)⟩
  rcases (he e h1 h2).1 with z | z
  · exact z
  · exact absurd z h3
theorem oD_n {d k : Nat} (w w' : Nat) (h : k = oD d w) (hw : w ≠ w') : ¬ k = oD d w' := by unfold oD at *; omega
theorem oD_9 {d k : Nat} (w : Nat) (h : k = oD d w) : ¬ k = 19 := by unfold oD at *; omega
theorem oD_9' {d k : Nat} (w : Nat) (h : k = 19) : ¬ k = oD d w := by unfold oD at *; omega
/-- the order in which a failed start is written down does not matter -/
theorem fail_ord (s : Nat → Int32) (d : Nat) (x y z : Int32) : upd (upd (upd (upd (upd (upd (upd s (oD d 1) x) 19 y) (oD d 0) 0) (oD d 1) 0) (oD d 3) 0) (oD d 4) 0) (oD d 2) z = mSb (upd (upd (upd (upd s (oD d 1) x) (oD d 4) 0) (oD d 2) z) 19 y) d := by
  funext k
  unfold mSb
  simp only [upd]
  by_cases h0 : k = oD d 0
  · rw [if_neg (oD_n 0 2 h0 (by decide)), if_neg (oD_n 0 4 h0 (by decide)), if_neg (oD_n 0 3 h0 (by decide)), if_neg (oD_n 0 1 h0 (by decide)), if_pos h0, if_neg (oD_n 0 3 h0 (by decide)), if_neg (oD_n 0 1 h0 (by decide)), if_pos h0]
  by_cases h1 : k = oD d 1
  · rw [if_neg (oD_n 1 2 h1 (by decide)), if_neg (oD_n 1 4 h1 (by decide)), if_neg (oD_n 1 3 h1 (by decide)), if_pos h1, if_neg (oD_n 1 3 h1 (by decide)), if_pos h1]
  by_cases h2 : k = oD d 2
  · rw [if_pos h2, if_neg (oD_n 2 3 h2 (by decide)), if_neg h1, if_neg h0, if_neg (oD_9 2 h2), if_pos h2]
  by_cases h3 : k = oD d 3
  · rw [if_neg h2, if_neg (oD_n 3 4 h3 (by decide)), if_pos h3, if_pos h3]
  by_cases h4 : k = oD d 4
  · rw [if_neg h2, if_pos h4, if_neg h3, if_neg h1, if_neg h0, if_neg (oD_9 4 h4), if_neg h2, if_pos h4]
  by_cases h5 : k = 19
  · rw [if_neg h2, if_neg h4, if_neg h3, if_neg h1, if_neg h0, if_pos h5, if_neg h3, if_neg h1, if_neg h0, if_pos h5]
  · rw [if_neg h2, if_neg h4, if_neg h3, if_neg h1, if_neg h0, if_neg h5, if_neg h1, if_neg h3, if_neg h1, if_neg h0, if_neg h5, if_neg h2, if_neg h4]
theorem failH_eq {g : DH} {κ : DKey} {q : Nat} (hq : q ≤ 2) (h2 : g.1 κ 2 = nI q) : failH g κ = if q = 2 then up1 (up1 (up1 (sbH g κ) κ 5 0) κ 2 (nI (q + 1))) κ 0 3 else up1 (up1 (sbH g κ) κ 5 0) κ 2 (nI (q + 1)) := by
  unfold failH
  rw [h2, nI_1]
  by_cases z : q = 2
  · rw [if_pos z, if_neg (by rw [z]; decide)]
  · rw [if_neg z, if_pos]
    rw [show (3 : Int32) = nI 3 from rfl]
    exact nI_lt (by omega) (by decide)
theorem RB.fail {g : DH} {i d : Nat} {s : Nat → Int32} (hr : RB g i s) (hd : d < 12) (x y z : Int32) : RB (up1 (up1 (sbH (up1 (up1 g (4, i, d) 1 x) (0, i, 0) 14 y) (4, i, d)) (4, i, d) 5 0) (4, i, d) 2 z) i (mSb (upd (upd (upd (upd s (oD d 1) x) (oD d 4) 0) (oD d 2) z) 19 y) d) := by
  rw [← fail_ord]
  exact ((((((hr.dk hd (show 1 < 6 by decide) x).sc (show 4 ≤ 14 by decide) (by decide) y).dk hd (show 0 < 6 by decide) 0).dk hd (show 1 < 6 by decide) 0).dk hd (show 3 < 6 by decide) 0).dk hd (show 5 < 6 by decide) 0).dk hd (show 2 < 6 by decide) z
theorem mask_keep {b : Int32} {d : Nat} {f f' : Nat → Int32} (hd : d < 12) (h : ∀ e, e < 12 → (b &&& bitOf (nI e) = 0 ↔ (e < d → f e = 0))) (hf : ∀ e, e ≠ d → f' e = f e) (h0 : f' d = 0) : ∀ e, e < 12 → (b &&& bitOf (nI e) = 0 ↔ (e < d + 1 → f' e = 0)) := by
  intro e he
  rw [h e he]
  by_cases z : e = d
  · subst z
    exact ⟨fun _ _ => h0, fun _ hh => by omega⟩
  · rw [hf e z]
    exact ⟨fun a b => a (by omega), fun a b => a (by omega)⟩
theorem mask_put {b : Int32} {d : Nat} {f f' : Nat → Int32} (hd : d < 12) (h : ∀ e, e < 12 → (b &&& bitOf (nI e) = 0 ↔ (e < d → f e = 0))) (hf : ∀ e, e ≠ d → f' e = f e) (h0 : f' d ≠ 0) : ∀ e, e < 12 → ((b ||| bitOf (nI d)) &&& bitOf (nI e) = 0 ↔ (e < d + 1 → f' e = 0)) := by
  intro e he
  rw [and_or0, h e he, bit_t d hd e he]
  by_cases z : e = d
  · subst z
    exact ⟨fun a => absurd rfl a.2, fun a => absurd (a (by omega)) h0⟩
  · rw [hf e z]
    exact ⟨fun a b => a.1 (by omega), fun a => ⟨fun b => a (by omega), Ne.symm z⟩⟩
