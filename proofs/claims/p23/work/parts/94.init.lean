/-! where everything lies, and the first abstract state -/
def stO (i : Nat) : Nat := if i < 3 then 1 + 46 * i else 141 + 46 * (i - 3)
def off (κ : DKey) : Nat := if κ.1 ≤ 3 then stO κ.2.1 + κ.1 else if κ.1 = 4 then stO κ.2.1 + 4 + κ.2.2 else if κ.1 = 5 then stO κ.2.1 + 16 + κ.2.2 else if κ.1 = 6 then 0 else if κ.1 = 7 then 139 else if κ.1 = 8 then 140 else κ.1 + 362
def decS (i r : Nat) : DKey := if r < 4 then (r, i, 0) else if r < 16 then (4, i, r - 4) else (5, i, r - 16)
def dec (n : Nat) : DKey := if n = 0 then (6, 0, 0) else if n < 139 then decS ((n - 1) / 46) ((n - 1) % 46) else if n = 139 then (7, 0, 0) else if n = 140 then (8, 0, 0) else if n < 371 then decS (3 + (n - 141) / 46) ((n - 141) % 46) else (n - 362, 0, 0)
def adA (z : Nat) (T : Nat → Nat) (b : Nat) (κ : DKey) : Nat := if κ.1 < 14 then z + off κ else if κ.1 = 32 then T κ.2.1 else if κ.1 = 34 then b else 0
theorem adA_35 (z : Nat) (T : Nat → Nat) (b : Nat) : adA z T b (35, 0, 0) = 0 := rfl
theorem adA_36 (z : Nat) (T : Nat → Nat) (b : Nat) : adA z T b (36, 0, 0) = 0 := rfl
theorem okK_lt3 {z : Nat} {T : Nat → Nat} {b k i j : Nat} (h : okK (adA z T b) (k, i, j) = true) : k < 14 ∧ i < 8 ∧ j < 30 ∧ okK (fun _ => 0) (k, i, j) = true := by
  rcases okK_lt h with h1 | h1 | h1
  · have h1 : k < 14 := h1
    have e : okK (fun _ => 0) (k, i, j) = okK (adA z T b) (k, i, j) := by
      match k, h1 with
      | 0, _ => rfl
      | 1, _ => rfl
      | 2, _ => rfl
      | 3, _ => rfl
      | 4, _ => rfl
      | 5, _ => rfl
      | 6, _ => rfl
      | 7, _ => rfl
      | 8, _ => rfl
      | 9, _ => rfl
      | 10, _ => rfl
      | 11, _ => rfl
      | 12, _ => rfl
      | 13, _ => rfl
    refine ⟨h1, ?_, ?_, e.trans h⟩
    · match k, h1, h with
      | 0, _, h => have h' : (decide (i < 8) && decide (j = 0)) = true := h; simp at h'; omega
      | 1, _, h => have h' : (decide (i < 8) && decide (j = 0)) = true := h; simp at h'; omega
      | 2, _, h => have h' : (decide (i < 8) && decide (j = 0)) = true := h; simp at h'; omega
      | 3, _, h => have h' : (decide (i < 8) && decide (j = 0)) = true := h; simp at h'; omega
      | 4, _, h => have h' : (decide (i < 8) && decide (j < 12)) = true := h; simp at h'; omega
      | 5, _, h => have h' : (decide (i < 8) && decide (j < 30)) = true := h; simp at h'; omega
      | 6, _, h => have h' : (true && true && decide (i = 0) && decide (j = 0)) = true := h; simp at h'; omega
      | 7, _, h => have h' : (true && true && decide (i = 0) && decide (j = 0)) = true := h; simp at h'; omega
      | 8, _, h => have h' : (true && true && decide (i = 0) && decide (j = 0)) = true := h; simp at h'; omega
      | 9, _, h => have h' : (true && true && decide (i = 0) && decide (j = 0)) = true := h; simp at h'; omega
      | 10, _, h => have h' : (true && true && decide (i = 0) && decide (j = 0)) = true := h; simp at h'; omega
      | 11, _, h => have h' : (true && true && decide (i = 0) && decide (j = 0)) = true := h; simp at h'; omega
      | 12, _, h => have h' : (true && true && decide (i = 0) && decide (j = 0)) = true := h; simp at h'; omega
      | 13, _, h => have h' : (true && true && decide (i = 0) && decide (j = 0)) = true := h; simp at h'; omega
    · match k, h1, h with
      | 0, _, h => have h' : (decide (i < 8) && decide (j = 0)) = true := h; simp at h'; omega
      | 1, _, h => have h' : (decide (i < 8) && decide (j = 0)) = true := h; simp at h'; omega
      | 2, _, h => have h' : (decide (i < 8) && decide (j = 0)) = true := h; simp at h'; omega
      | 3, _, h => have h' : (decide (i < 8) && decide (j = 0)) = true := h; simp at h'; omega
      | 4, _, h => have h' : (decide (i < 8) && decide (j < 12)) = true := h; simp at h'; omega
      | 5, _, h => have h' : (decide (i < 8) && decide (j < 30)) = true := h; simp at h'; omega
      | 6, _, h => have h' : (true && true && decide (i = 0) && decide (j = 0)) = true := h; simp at h'; omega
      | 7, _, h => have h' : (true && true && decide (i = 0) && decide (j = 0)) = true := h; simp at h'; omega
      | 8, _, h => have h' : (true && true && decide (i = 0) && decide (j = 0)) = true := h; simp at h'; omega
      | 9, _, h => have h' : (true && true && decide (i = 0) && decide (j = 0)) = true := h; simp at h'; omega
      | 10, _, h => have h' : (true && true && decide (i = 0) && decide (j = 0)) = true := h; simp at h'; omega
      | 11, _, h => have h' : (true && true && decide (i = 0) && decide (j = 0)) = true := h; simp at h'; omega
      | 12, _, h => have h' : (true && true && decide (i = 0) && decide (j = 0)) = true := h; simp at h'; omega
      | 13, _, h => have h' : (true && true && decide (i = 0) && decide (j = 0)) = true := h; simp at h'; omega
  · exfalso
    have h1 : k = 35 := h1
    subst h1
    have h' : (decide (adA z T b (35, 0, 0) ≠ 0) && decide (i = 0) && decide (j = 0)) = true := h
    rw [adA_35] at h'
    simp at h'
  · exfalso
    have h1 : k = 36 := h1
    subst h1
    have h' : (decide (adA z T b (36, 0, 0) ≠ 0) && decide (i = 0) && decide (j = 0)) = true := h
    rw [adA_36] at h'
    simp at h'
theorem dec_all : ((List.range 14).all fun k => (List.range 8).all fun i => (List.range 30).all fun j => !okK (fun _ => 0) (k, i, j) || decide (dec (off (k, i, j)) = (k, i, j))) = true := by decide +kernel
theorem dec_off {z : Nat} {T : Nat → Nat} {b : Nat} {κ : DKey} (h : okK (adA z T b) κ = true) : dec (off κ) = κ := by
  obtain ⟨k, i, j⟩ := κ
  obtain ⟨h1, h2, h3, h4⟩ := okK_lt3 h
  have := List.all_eq_true.mp (List.all_eq_true.mp (List.all_eq_true.mp dec_all k (List.mem_range.mpr h1)) i (List.mem_range.mpr h2)) j (List.mem_range.mpr h3)
  rw [h4] at this
  simpa using this
theorem adA_ok {z : Nat} {T : Nat → Nat} {b : Nat} {κ : DKey} (h : okK (adA z T b) κ = true) : adA z T b κ = z + off κ := by
  obtain ⟨k, i, j⟩ := κ
  exact if_pos (okK_lt3 h).1
theorem adA_inj {z : Nat} {T : Nat → Nat} {b : Nat} : dInj (adA z T b) := fun κ κ' h h' e => by
  rw [adA_ok h, adA_ok h'] at e
  rw [← dec_off h, ← dec_off h', Nat.add_left_cancel e]
def num0 : Nat → Int32 := fun q => if q < 10 then dcst 0 q else 0
def h0 (xs : Nat → Int32) (SL : Nat) : DH := (fun κ => if κ.1 = 1 then num0 else if κ.1 = 34 then xs else fun _ => 0, fun κ => if κ.1 = 3 then fun p => p else if κ.1 = 8 then fun j => j + 3 else if κ.1 = 34 then fun _ => SL else fun _ => 0)
theorem arrV_cg {cA : ClassId} {N : Nat} {f g : Nat → Value} (h : ∀ j, j < N → f j = g j) : arrV cA N f = arrV cA N g := by
  unfold arrV
  congr 1
  apply Array.ext
  · simp
  · intro i h1 h2
    simp at h1 h2 ⊢
    exact h i h1
theorem at_i {D : va_G} {a : Nat} {cA : ClassId} {N : Nat} {f g : Nat → Int32} {H : Heap} (h : va_at D dclasses (a, .inl (cA, N, .inl f)) H) (e : ∀ j, j < N → f j = g j) : va_at D dclasses (a, .inl (cA, N, .inl g)) H := by
  have h1 : H[a]? = some (vp_cell cA (N, .inl f)) := h
  show H[a]? = some (vp_cell cA (N, .inl g))
  rw [h1, vp_cell_i, vp_cell_i]
  exact congrArg some (arrV_cg fun j hj => by rw [e j hj])
theorem at_q {D : va_G} {a : Nat} {cA : ClassId} {N : Nat} {f g : Nat → Option Nat} {H : Heap} (h : va_at D dclasses (a, .inl (cA, N, .inr (.inr (.inr (.inr f))))) H) (e : ∀ j, j < N → f j = g j) : va_at D dclasses (a, .inl (cA, N, .inr (.inr (.inr (.inr g))))) H := by
  have h1 : H[a]? = some (vp_cell cA (N, .inr (.inr (.inr (.inr f))))) := h
  show H[a]? = some (vp_cell cA (N, .inr (.inr (.inr (.inr g)))))
  rw [h1, vp_cell_q, vp_cell_q]
  exact congrArg some (arrV_cg fun j hj => by rw [e j hj])
theorem pmi_0 (xs : Nat → Int32) (SL i : Nat) : WF (h0 xs SL) i := ⟨fun k k' _ _ e => e, fun p hp => hp⟩
theorem XR_0 (xs : Nat → Int32) (SL : Nat) : XR (h0 xs SL) 0 (num0) := by
  have ez : ∀ n, 10 ≤ n → num0 n = 0 := fun n hn => if_neg (by omega)
  have eD : ∀ e w, num0 (oD e w) = 0 := fun e w => ez _ (by unfold oD; omega)
  refine ⟨⟨0, ⟨fun n _ => rfl, fun k hk hk2 => ?_, fun d _ f _ => ?_⟩, rfl, by decide, ez 93 (by decide), rfl, (pmi_0 xs SL 0).1, (pmi_0 xs SL 0).2, fun e _ => rfl, ⟨⟨6, by decide, by decide, by show num0 0 = nI 6; decide⟩, ⟨90, by decide, by show num0 5 = nI 90; decide⟩, ⟨10, by decide, by show num0 6 = nI 10; decide⟩, ⟨3, by decide, by show num0 7 = nI 3; decide⟩, Or.inl (ez 15 (by decide))⟩, fun e _ => ?_, fun r hr => by cases hr⟩, ?_, ⟨0, by decide, ez 12 (by decide)⟩, ⟨0, by decide, ez 10 (by decide)⟩, ?_⟩
  · rw [ez _ (ms_lt k).1]; rfl
  · rw [eD]; rfl
  · unfold DInv
    rw [eD, eD, eD, eD, eD]
    exact ⟨⟨0, by decide, rfl⟩, fun q => absurd q (by decide), fun _ => rfl, fun _ => rfl, fun _ => ⟨0, by decide, rfl⟩, Or.inl rfl⟩
  · intro q
    rw [ez 15 (by decide)] at q
    exact absurd q (by decide)
  · have hv : ∀ w, w < 10 → ¬ dcst 0 w < dcst 1 w ∧ ¬ dcst 2 w < dcst 0 w := by decide +kernel
    intro w hw
    have e : num0 w = dcst 0 w := if_pos hw
    rw [e]
    exact hv w hw
theorem QI_0 : QI 0 num0 := by
  have ez : ∀ n, 10 ≤ n → num0 n = 0 := fun n hn => if_neg (by omega)
  have eD : ∀ e w, num0 (oD e w) = 0 := fun e w => ez _ (by unfold oD; omega)
  have ecc : cc num0 = 0 := by unfold cc; rw [ez 93 (by decide)]; rfl
  have eL : LM num0 (cc num0) = [] := by rw [ecc]; rfl
  refine ⟨ez 10 (by decide), by decide, fun e _ h => ?_, ?_, ?_, ⟨0, 0, 0, ez 12 (by decide), ez 13 (by decide), ez 14 (by decide), by rw [ecc]; decide, by decide⟩, ⟨fun _ => 0, 0, 0, fun e _ => eD e 5, by decide, ?_, ez 18 (by decide), ez 19 (by decide), by decide⟩, ⟨0, 0, by decide, ez 13 (by decide), ez 20 (by decide), by decide⟩, ?_⟩
  · rw [eD] at h
    exact absurd h (by decide)
  · rw [eL]
    exact ⟨List.Pairwise.nil, fun r hr => (by cases hr)⟩
  · rw [eL]
    exact fun r hr => (by cases hr)
  · rw [nS_cg (g := fun _ => 0) 12 (fun e _ => by unfold isS; rw [eD, if_neg (by decide)])]
    decide
  · rw [ez 11 (by decide)]
    decide
theorem PR_0 (xs : Nat → Int32) (SL : Nat) : PR (h0 xs SL) num0 [] := by
  refine ⟨⟨XR_0 xs SL, 0, QI_0⟩, pmi_0 xs SL 1, by decide, rfl, fun j hj => ⟨?_, ?_, pmi_0 xs SL _⟩, fun j k _ _ e => ?_, fun j r hj => (by cases hj)⟩
  · show 3 ≤ j + 3
    omega
  · show j + 3 < 8
    omega
  · have e2 : j + 3 = k + 3 := e
    omega
