/-! where everything lies, and the first abstract state -/
def stO (i : Nat) : Nat := if i < 3 then 1 + 46 * i else 141 + 46 * (i - 3)
def off (κ : DKey) : Nat := if κ.1 ≤ 3 then stO κ.2.1 + κ.1 else if κ.1 = 4 then stO κ.2.1 + 4 + κ.2.2 else if κ.1 = 5 then stO κ.2.1 + 16 + κ.2.2 else if κ.1 = 6 then 0 else if κ.1 = 7 then 139 else if κ.1 = 8 then 140 else κ.1 + 362
def decS (i r : Nat) : DKey := if r < 4 then (r, i, 0) else if r < 16 then (4, i, r - 4) else (5, i, r - 16)
def dec (n : Nat) : DKey := if n = 0 then (6, 0, 0) else if n < 139 then decS ((n - 1) / 46) ((n - 1) % 46) else if n = 139 then (7, 0, 0) else if n = 140 then (8, 0, 0) else if n < 371 then decS (3 + (n - 141) / 46) ((n - 141) % 46) else (n - 362, 0, 0)
def adA (z : Nat) (K V T : Nat → Nat) (b : Nat) (κ : DKey) : Nat := if κ.1 < 21 then z + off κ else if κ.1 = 30 then K κ.2.1 else if κ.1 = 31 then V κ.2.1 else if κ.1 = 32 then T κ.2.1 else b
theorem okK_lt3 {k i j : Nat} (h : okK (k, i, j) = true) : k < 21 ∧ i < 8 ∧ j < 30 := by
  have key : ∀ k, okK (k, i, j) = true → k < 21 ∧ i < 8 ∧ j < 30 := by
    intro k h
    match k, h with
    | 0, h => have h' : (decide (i < 8) && decide (j = 0)) = true := h; simp at h'; omega
    | 1, h => have h' : (decide (i < 8) && decide (j = 0)) = true := h; simp at h'; omega
    | 2, h => have h' : (decide (i < 8) && decide (j = 0)) = true := h; simp at h'; omega
    | 3, h => have h' : (decide (i < 8) && decide (j = 0)) = true := h; simp at h'; omega
    | 4, h => have h' : (decide (i < 8) && decide (j < 12)) = true := h; simp at h'; omega
    | 5, h => have h' : (decide (i < 8) && decide (j < 30)) = true := h; simp at h'; omega
    | n + 6, h => have h' : (decide (5 < n + 6) && decide (n + 6 < 21) && decide (i = 0) && decide (j = 0)) = true := h; simp at h'; omega
  exact key k h
theorem dec_all : ((List.range 21).all fun k => (List.range 8).all fun i => (List.range 30).all fun j => !okK (k, i, j) || decide (dec (off (k, i, j)) = (k, i, j))) = true := by decide +kernel
theorem dec_off {κ : DKey} (h : okK κ = true) : dec (off κ) = κ := by
  obtain ⟨k, i, j⟩ := κ
  obtain ⟨h1, h2, h3⟩ := okK_lt3 h
  have := List.all_eq_true.mp (List.all_eq_true.mp (List.all_eq_true.mp dec_all k (List.mem_range.mpr h1)) i (List.mem_range.mpr h2)) j (List.mem_range.mpr h3)
  rw [h] at this
  simpa using this
theorem adA_ok {z : Nat} {K V T : Nat → Nat} {b : Nat} {κ : DKey} (h : okK κ = true) : adA z K V T b κ = z + off κ := by
  obtain ⟨k, i, j⟩ := κ
  exact if_pos (okK_lt3 h).1
theorem adA_inj {z : Nat} {K V T : Nat → Nat} {b : Nat} : dInj (adA z K V T b) := fun κ κ' h h' e => by
  rw [adA_ok h, adA_ok h'] at e
  rw [← dec_off h, ← dec_off h', Nat.add_left_cancel e]
def num0 : Nat → Int32 := fun q => if q < 10 then dcst 0 q else 0
def h0 (xs : Nat → Int32) (SL : Nat) : DH := (fun κ => if κ.1 = 1 ∨ κ.1 = 15 then num0 else if κ.1 = 34 then xs else fun _ => 0, fun κ => if κ.1 = 3 then fun p => p else if κ.1 = 8 then fun j => j + 3 else if κ.1 = 34 then fun _ => SL else fun _ => 0)
theorem num0_ch : ∀ j, (upd (upd (upd (upd (upd (upd (upd (upd (upd (upd (fun _ => 0) (Int32.toNatClampNeg 0) 6) (Int32.toNatClampNeg 1) 20) (Int32.toNatClampNeg 2) 6) (Int32.toNatClampNeg 3) 4) (Int32.toNatClampNeg 4) 1) (Int32.toNatClampNeg 5) 90) (Int32.toNatClampNeg 6) 10) (Int32.toNatClampNeg 7) 3) (Int32.toNatClampNeg 8) 3) (Int32.toNatClampNeg 9) 40) j = num0 j := by
  intro j
  by_cases h : j < 10
  · exact (by decide +kernel : ∀ j, j < 10 → (upd (upd (upd (upd (upd (upd (upd (upd (upd (upd (fun _ => 0) (Int32.toNatClampNeg 0) 6) (Int32.toNatClampNeg 1) 20) (Int32.toNatClampNeg 2) 6) (Int32.toNatClampNeg 3) 4) (Int32.toNatClampNeg 4) 1) (Int32.toNatClampNeg 5) 90) (Int32.toNatClampNeg 6) 10) (Int32.toNatClampNeg 7) 3) (Int32.toNatClampNeg 8) 3) (Int32.toNatClampNeg 9) 40) j = num0 j) j h
  · unfold num0 upd
    rw [if_neg h]
    rw [if_neg (fun q => by have e : Int32.toNatClampNeg 9 = 9 := (by decide); omega)]
    rw [if_neg (fun q => by have e : Int32.toNatClampNeg 8 = 8 := (by decide); omega)]
    rw [if_neg (fun q => by have e : Int32.toNatClampNeg 7 = 7 := (by decide); omega)]
    rw [if_neg (fun q => by have e : Int32.toNatClampNeg 6 = 6 := (by decide); omega)]
    rw [if_neg (fun q => by have e : Int32.toNatClampNeg 5 = 5 := (by decide); omega)]
    rw [if_neg (fun q => by have e : Int32.toNatClampNeg 4 = 4 := (by decide); omega)]
    rw [if_neg (fun q => by have e : Int32.toNatClampNeg 3 = 3 := (by decide); omega)]
    rw [if_neg (fun q => by have e : Int32.toNatClampNeg 2 = 2 := (by decide); omega)]
    rw [if_neg (fun q => by have e : Int32.toNatClampNeg 1 = 1 := (by decide); omega)]
    rw [if_neg (fun q => by have e : Int32.toNatClampNeg 0 = 0 := (by decide); omega)]
theorem arrV_cg {cA : ClassId} {N : Nat} {f g : Nat → Value} (h : ∀ j, j < N → f j = g j) : arrV cA N f = arrV cA N g := by
  unfold arrV
  congr 1
  apply Array.ext
  · simp
  · intro i h1 h2
    simp at h1 h2 ⊢
    exact h i h1
theorem at_i {D : va_G} {a : Nat} {cA : ClassId} {N : Nat} {f g : Nat → Int32} {H : Heap} (h : va_at D dclasses (a, .inl (cA, N, .inl f)) H) (e : ∀ j, j < N → f j = g j) : va_at D dclasses (a, .inl (cA, N, .inl g)) H := by
  have h1 : H[a]? = some (vp_cell cA (N, .inl f)) := h
  show H[a]? = some (vp_cell cA (N, .inl g))
  rw [h1, vp_cell_i, vp_cell_i]
  exact congrArg some (arrV_cg fun j hj => by rw [e j hj])
theorem at_q {D : va_G} {a : Nat} {cA : ClassId} {N : Nat} {f g : Nat → Option Nat} {H : Heap} (h : va_at D dclasses (a, .inl (cA, N, .inr (.inr (.inr (.inr f))))) H) (e : ∀ j, j < N → f j = g j) : va_at D dclasses (a, .inl (cA, N, .inr (.inr (.inr (.inr g))))) H := by
  have h1 : H[a]? = some (vp_cell cA (N, .inr (.inr (.inr (.inr f))))) := h
  show H[a]? = some (vp_cell cA (N, .inr (.inr (.inr (.inr g)))))
  rw [h1, vp_cell_q, vp_cell_q]
  exact congrArg some (arrV_cg fun j hj => by rw [e j hj])
theorem pmi_0 (xs : Nat → Int32) (SL i : Nat) : WF (h0 xs SL) i := ⟨fun k k' _ _ e => e, fun p hp => hp⟩
theorem XR_0 (xs : Nat → Int32) (SL : Nat) : XR (h0 xs SL) 0 ((h0 xs SL).1 (15, 0, 0)) := by
  have ez : ∀ n, 10 ≤ n → (h0 xs SL).1 (15, 0, 0) n = 0 := fun n hn => if_neg (by omega)
  have eD : ∀ e w, (h0 xs SL).1 (15, 0, 0) (oD e w) = 0 := fun e w => ez _ (by unfold oD; omega)
  refine ⟨⟨0, ⟨fun n _ => rfl, fun k hk hk2 => ?_, fun d _ f _ => ?_⟩, rfl, by decide, ez 93 (by decide), rfl, (pmi_0 xs SL 0).1, (pmi_0 xs SL 0).2, fun e _ => rfl, ⟨⟨6, by decide, by decide, by show num0 0 = nI 6; decide⟩, ⟨90, by decide, by show num0 5 = nI 90; decide⟩, ⟨10, by decide, by show num0 6 = nI 10; decide⟩, ⟨3, by decide, by show num0 7 = nI 3; decide⟩, Or.inl (ez 15 (by decide))⟩, fun e _ => ?_, fun r hr => by cases hr⟩, ?_, ⟨0, by decide, ez 12 (by decide)⟩, ⟨0, by decide, ez 10 (by decide)⟩, ?_⟩
  · rw [ez _ (ms_lt k).1]; rfl
  · rw [eD]; rfl
  · unfold DInv
    rw [eD, eD, eD, eD, eD]
    exact ⟨⟨0, by decide, rfl⟩, fun q => absurd q (by decide), fun _ => rfl, fun _ => rfl, fun _ => ⟨0, by decide, rfl⟩, Or.inl rfl⟩
  · intro q
    rw [ez 15 (by decide)] at q
    exact absurd q (by decide)
  · have hv : ∀ w, w < 10 → ¬ dcst 0 w < dcst 1 w ∧ ¬ dcst 2 w < dcst 0 w := by decide +kernel
    intro w hw
    have e : (h0 xs SL).1 (15, 0, 0) w = dcst 0 w := if_pos hw
    rw [e]
    exact hv w hw
theorem RR_0 (xs : Nat → Int32) (SL : Nat) : RR (h0 xs SL) := by
  refine ⟨XR_0 xs SL, pmi_0 xs SL 1, ⟨pmi_0 xs SL 2, Or.inl ⟨rfl, rfl⟩⟩, ⟨0, by decide, rfl, rfl, fun j hj => ⟨?_, ?_, pmi_0 xs SL _⟩, fun j k _ _ e => ?_, fun j hj => absurd hj (by omega)⟩, ⟨0, by decide, rfl, rfl, fun k hk => absurd hk (by omega)⟩⟩
  · show 3 ≤ j + 3
    omega
  · show j + 3 < 8
    omega
  · have e2 : j + 3 = k + 3 := e
    omega
