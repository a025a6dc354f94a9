/-! the abstract heap beside the machine's: which keys are cells, what stands in them, what a method may take as given -/
def okK (ad : DKey → Nat) : DKey → Bool
  | (k, i, j) => match k with
    | 0 => decide (i < 8) && decide (j = 0)
    | 1 => decide (i < 8) && decide (j = 0)
    | 2 => decide (i < 8) && decide (j = 0)
    | 3 => decide (i < 8) && decide (j = 0)
    | 4 => decide (i < 8) && decide (j < 12)
    | 5 => decide (i < 8) && decide (j < 30)
    | 35 => decide (ad (35, 0, 0) ≠ 0) && decide (i = 0) && decide (j = 0)
    | 36 => decide (ad (36, 0, 0) ≠ 0) && decide (i = 0) && decide (j = 0)
    | k => decide (5 < k) && decide (k < 14) && decide (i = 0) && decide (j = 0)
def okV (ad : DKey → Nat) : DV → Bool
  | .inl _ => true
  | .inr (k, i, j) => okK ad (k, i, j) || (decide (j = 0) && ((decide (k = 32) && decide (i < 3)) || (decide (k = 34) && decide (i = 0))))
def dval (ad : DKey → Nat) (fm : Value) : DV → Value
  | .inl x => .int x
  | .inr κ => if κ.1 = 33 then fm else .ref (ad κ)
def dtys (ca : Nat → ClassId) : List (ClassId × FieldType) := [(ca 0, .int), (ca 1, .object "DiskDrawer$Disk"), (ca 2, .object "DiskDrawer$Read"), (ca 3, .object "DiskDrawer$State"), (ca 4, .char)]
def dfields (ad : DKey → Nat) (κ : DKey) (f : Nat → Int32) : List Value := (List.range (dnf (dcls κ.1))).map fun k => match dref κ k with
  | some w => dval ad .null w
  | none => .int (f k)
def dent (ad : DKey → Nat) (ca : Nat → ClassId) (κ : DKey) (f : Nat → Int32) (g : Nat → Nat) : va_E := match darr κ with
  | some (t, n) => if t = 1 ∨ t = 2 ∨ t = 3 then .inl (ca t, n, .inr (.inr (.inr (.inr (fun j => (drk κ (g j) j).map ad))))) else .inl (ca t, n, .inl f)
  | none => .inr (dcls κ.1, dfields ad κ f)
def dSim (D : va_G) (ad : DKey → Nat) (ca : Nat → ClassId) (xs : Nat → Int32) (SL : Nat) (h : DH) (H : Heap) : Prop :=
  (∀ κ, okK ad κ = true → va_at D dclasses (ad κ, dent ad ca κ (h.1 κ) (h.2 κ)) H) ∧ (∀ i j, i < 8 → j < 30 → h.2 (3, i, 0) j < 30) ∧ (∀ j, j < 5 → h.2 (8, 0, 0) j < 8) ∧ h.1 (34, 0, 0) = xs ∧ h.2 (34, 0, 0) 0 = SL
def dInj (ad : DKey → Nat) : Prop := ∀ κ κ', okK ad κ = true → okK ad κ' = true → ad κ = ad κ' → κ = κ'
def dNestW : Cond → Bool
  | .methodLinkNest .. => true
  | .fieldLinkNest .. => true
  | _ => false
def dNest : List Cond := lw_tbl.filter dNestW
def dsn : Nat → String
  | 0 => "AT_FIRST" | 1 => "LOWEST" | _ => "HIGHEST"
def dEnv (D : va_G) (ad : DKey → Nat) (ca : Nat → ClassId) (fm : Value) (xs : Nat → Int32) (SL : Nat) (A : Nat → Prop) (U : State) : Prop :=
  va_K D dclasses (dtys ca) U ∧ (∀ w ∈ dNest, va_Nw w U) ∧
  (∀ w, w < 3 → va_Z "DiskDrawer" (dsn w) "[I" (.ref (ad (32, w, 0))) A U U.heap ∧ va_T .int (ad (32, w, 0)) 10 (fun j => .int (dcst w j)) A U U.heap) ∧
  va_X (ad (34, 0, 0)) SL xs U U.heap ∧ ad (34, 0, 0) < U.heap.size ∧ ¬ A (ad (34, 0, 0))
def dFm (fm : Value) : Prop := fm = .null ∨ ∃ a, fm = .ref a
def dAm (ad : DKey → Nat) : Nat → Prop := fun q => ∃ κ, okK ad κ = true ∧ ad κ = q
section DW
variable {D : va_G} {ad : DKey → Nat} {ca : Nat → ClassId} {fm : Value} {xs : Nat → Int32} {SL : Nat} {A B : Nat → Prop} {u U s : State}
theorem dEnv.to (hal : u.vm.Alike U.vm) (hn : ∀ w ∈ dNest, va_Nw w u → va_Nw w U) (hz : u.heap.size ≤ U.heap.size) (hq : ∀ a : Nat, a < u.heap.size → ¬ A a → U.heap[a]? = u.heap[a]?) (h : dEnv D ad ca fm xs SL A u) : dEnv D ad ca fm xs SL A U := by
  obtain ⟨h1, h2, h3, h8, h9, h10⟩ := h
  exact ⟨va_K.moved hal h1, fun w hw => hn w hw (h2 w hw), fun w hw => ⟨(va_Z.moved hal (h3 w hw).1).kept hq, (va_T.moved hal (h3 w hw).2).kept hq⟩, (va_X.moved hal h8).kept (hq _ h9 h10), Nat.lt_of_lt_of_le h9 hz, h10⟩
theorem dNest_cases {w : Cond} (hw : w ∈ dNest) : (∃ a i b n d h, w = .fieldLinkNest a i b n d h) ∨ ∃ a i x h, w = .methodLinkNest a i x h := by
  have h := (List.mem_filter.mp hw).2
  cases w with
  | fieldLinkNest a i b n d h => exact Or.inl ⟨_, _, _, _, _, _, rfl⟩
  | methodLinkNest a i x h => exact Or.inr ⟨_, _, _, _, rfl⟩
  | _ => exact absurd h (by simp [dNestW])
theorem dEnv.warm (hW : s.WarmedH U.vm) (hz : s.heap.size ≤ U.heap.size) (hq : ∀ a : Nat, a < s.heap.size → ¬ A a → U.heap[a]? = s.heap[a]?) (h : dEnv D ad ca fm xs SL A s) : dEnv D ad ca fm xs SL A U :=
  dEnv.to hW.alike (fun w hw hz => by
    rcases dNest_cases hw with ⟨a, i, b, n, d, h, rfl⟩ | ⟨a, i, x, h, rfl⟩
    · exact va_Nw.warmF hW hz
    · exact va_Nw.warmM hW hz) hz hq h
theorem dEnv.same (hv : U.vm = u.vm) (hh : U.heap = u.heap) (h : dEnv D ad ca fm xs SL A u) : dEnv D ad ca fm xs SL A U :=
  dEnv.to (by rw [hv]; exact Vm.Alike.refl _) (fun w hw hz => by
    rcases dNest_cases hw with ⟨a, i, b, n, d, h, rfl⟩ | ⟨a, i, x, h, rfl⟩
    · exact va_Nw.same rfl hv.symm hz
    · exact va_Nw.same rfl hv.symm hz) (by rw [hh]; exact Nat.le_refl _) (fun a _ _ => by rw [hh]) h
theorem dEnv.narrow (hB : ∀ q, B q → A q) (h : dEnv D ad ca fm xs SL A U) : dEnv D ad ca fm xs SL B U := by
  obtain ⟨h1, h2, h3, h8, h9, h10⟩ := h
  exact ⟨h1, h2, fun w hw => ⟨(h3 w hw).1.narrow hB, (h3 w hw).2.narrow hB⟩, h8, h9, fun z => h10 (hB _ z)⟩
end DW
theorem okK_lt {ad : DKey → Nat} {κ : DKey} (h : okK ad κ = true) : κ.1 < 14 ∨ κ.1 = 35 ∨ κ.1 = 36 := by
  obtain ⟨k, i, j⟩ := κ
  show k < 14 ∨ k = 35 ∨ k = 36
  unfold okK at h
  dsimp only at h
  split at h <;> first | decide | (simp only [Bool.and_eq_true, decide_eq_true_eq] at h; omega)
theorem okK_34 {ad : DKey → Nat} {κ : DKey} (h : okK ad κ = true) : ((34, 0, 0) : DKey) ≠ κ := fun e => by
  have := okK_lt h
  rw [← e] at this
  exact absurd this (by decide)
theorem dval_cat {ad : DKey → Nat} {fm : Value} (hf : dFm fm) (v : DV) : (dval ad fm v).category = 1 := by
  cases v with
  | inl x => rfl
  | inr κ =>
    show (if κ.1 = 33 then fm else Value.ref (ad κ)).category = 1
    by_cases e : κ.1 = 33
    · rw [if_pos e]
      rcases hf with rfl | ⟨a, rfl⟩ <;> rfl
    · rw [if_neg e]
      rfl
theorem dval_ok {ad : DKey → Nat} {fm : Value} {κ : DKey} (h : κ.1 ≠ 33) : dval ad fm (.inr κ) = .ref (ad κ) := by simp [dval, h]
theorem dval_K {ad : DKey → Nat} {fm : Value} {κ : DKey} (h : okK ad κ = true) : dval ad fm (.inr κ) = .ref (ad κ) := dval_ok (by have := okK_lt h; omega)
/-! locals -/
def dlp (ad : DKey → Nat) (fm : Value) : Nat → List (Option DV) → List (Nat × Value)
  | _, [] => []
  | k, none :: L => dlp ad fm (k + 1) L
  | k, some v :: L => (k, dval ad fm v) :: dlp ad fm (k + 1) L
theorem dlp_mem {ad : DKey → Nat} {fm : Value} : ∀ (L : List (Option DV)) (b k : Nat) (v : DV), dget L k = some v → (b + k, dval ad fm v) ∈ dlp ad fm b L := by
  intro L
  induction L with
  | nil => intro b k v h; cases h
  | cons x L ih =>
    intro b k v h
    cases k with
    | zero =>
      cases x with
      | none => cases h
      | some w => cases h; exact List.mem_cons_self
    | succ k =>
      have := ih (b + 1) k v h
      rw [show b + 1 + k = b + (k + 1) from by omega] at this
      cases x with
      | none => exact this
      | some w => exact List.mem_cons_of_mem _ this
theorem dlp_of {ad : DKey → Nat} {fm : Value} : ∀ (L : List (Option DV)) (b : Nat) (q : Nat × Value), q ∈ dlp ad fm b L → ∃ k v, dget L k = some v ∧ q = (b + k, dval ad fm v) := by
  intro L
  induction L with
  | nil => intro b q h; cases h
  | cons x L ih =>
    intro b q h
    cases x with
    | none =>
      obtain ⟨k, v, h1, h2⟩ := ih (b + 1) q h
      exact ⟨k + 1, v, h1, by rw [h2, show b + 1 + k = b + (k + 1) from by omega]⟩
    | some w =>
      rcases List.mem_cons.mp h with h | h
      · exact ⟨0, w, rfl, h⟩
      · obtain ⟨k, v, h1, h2⟩ := ih (b + 1) q h
        exact ⟨k + 1, v, h1, by rw [h2, show b + 1 + k = b + (k + 1) from by omega]⟩
theorem dget_set : ∀ (L : List (Option DV)) (i k : Nat) (v : DV), i < L.length → dget (dset L i v) k = if k = i then some v else dget L k := by
  intro L
  induction L with
  | nil => intro i k v h; cases h
  | cons x L ih =>
    intro i k v h
    cases i with
    | zero => cases k <;> simp [dset, dget]
    | succ i =>
      cases k with
      | zero => simp [dset, dget]
      | succ k => simp only [dset, dget, Nat.add_right_cancel_iff]; exact ih i k v (by simpa using h)
theorem dset_len : ∀ (L : List (Option DV)) (i : Nat) (v : DV), (dset L i v).length = L.length := by
  intro L
  induction L with
  | nil => intro i v; cases i <;> rfl
  | cons x L ih =>
    intro i v
    cases i with
    | zero => rfl
    | succ i => simp [dset, ih]
def dLoc (ad : DKey → Nat) (fm : Value) (L : List (Option DV)) (nL : Nat) (ls : Array Slot) : Prop := lv_has ls nL (dlp ad fm 0 L)
theorem dLoc.get {ad : DKey → Nat} {fm : Value} {L : List (Option DV)} {nL : Nat} {ls : Array Slot} (h : dLoc ad fm L nL ls) {k : Nat} {v : DV} (hk : dget L k = some v) : ls[k]? = some (.val (dval ad fm v)) := by
  have := h.2.2 _ (dlp_mem L 0 k v hk)
  simpa using this
theorem dLoc.put {ad : DKey → Nat} {fm : Value} (hf : dFm fm) {L : List (Option DV)} {nL i : Nat} {v : DV} {ls' : Array Slot} (hi : i < L.length) (h : lv_has ls' nL ((i, dval ad fm v) :: (dlp ad fm 0 L).filter (fun q => !(q.1 == i) && !(q.1 + 1 == i && q.2.category == 2)))) : dLoc ad fm (dset L i v) nL ls' := by
  refine ⟨h.1, h.2.1, fun q hq => ?_⟩
  obtain ⟨k, w, h1, rfl⟩ := dlp_of _ _ _ hq
  rw [dget_set L i k v hi] at h1
  by_cases hk : k = i
  · rw [if_pos hk] at h1
    cases h1
    have := h.2.2 (i, dval ad fm v) List.mem_cons_self
    simpa [hk] using this
  · rw [if_neg hk] at h1
    refine h.2.2 _ (List.mem_cons_of_mem _ (List.mem_filter.mpr ⟨dlp_mem L 0 k w h1, ?_⟩))
    simp [hk, dval_cat hf]
/-! the heap -/
section DHP
variable {D : va_G} {ad : DKey → Nat} {ca : Nat → ClassId} {xs : Nat → Int32} {SL : Nat} {h : DH} {H H1 : Heap} {κ : DKey} {a : Nat}
theorem up1_ne (h : DH) {κ κ' : DKey} (k : Nat) (x : Int32) (hn : κ' ≠ κ) : (up1 h κ k x).1 κ' = h.1 κ' := by
  funext j
  simp [up1, hn]
theorem up1_eq (h : DH) (κ : DKey) (k : Nat) (x : Int32) : (up1 h κ k x).1 κ = upd (h.1 κ) k x := by
  funext j
  simp [up1, upd]
theorem up2_ne (h : DH) {κ κ' : DKey} (k : Nat) (x : Nat) (hn : κ' ≠ κ) : (up2 h κ k x).2 κ' = h.2 κ' := by
  funext j
  simp [up2, hn]
theorem dSim.up1 (hS : dSim D ad ca xs SL h H) (hi : dInj ad) (hκ : okK ad κ = true) {k : Nat} {x : Int32} (hc : va_at D dclasses (ad κ, dent ad ca κ (upd (h.1 κ) k x) (h.2 κ)) H1) (oq : ∀ q : Nat, q ≠ ad κ → H1[q]? = H[q]?) : dSim D ad ca xs SL (up1 h κ k x) H1 := by
  have h34 := okK_34 hκ
  refine ⟨fun κ' h' => ?_, hS.2.1, hS.2.2.1, (up1_ne h k x h34).trans hS.2.2.2.1, hS.2.2.2.2⟩
  by_cases e : κ' = κ
  · subst e
    rw [up1_eq]
    exact hc
  · rw [up1_ne h k x e]
    exact (hS.1 κ' h').kept (oq _ (fun z => e (hi κ' κ h' hκ z)))
theorem dSim.up2 (hS : dSim D ad ca xs SL h H) (hi : dInj ad) (hκ : okK ad κ = true) {k x : Nat} (hr : (κ.1 = 3 ∧ x < 30) ∨ (κ.1 = 8 ∧ x < 8)) (hc : va_at D dclasses (ad κ, dent ad ca κ (h.1 κ) ((up2 h κ k x).2 κ)) H1) (oq : ∀ q : Nat, q ≠ ad κ → H1[q]? = H[q]?) : dSim D ad ca xs SL (up2 h κ k x) H1 := by
  have h34 := okK_34 hκ
  refine ⟨fun κ' h' => ?_, fun i j hi' hj => ?_, fun j hj => ?_, hS.2.2.2.1, by rw [up2_ne h k x h34]; exact hS.2.2.2.2⟩
  · by_cases e : κ' = κ
    · subst e
      exact hc
    · rw [up2_ne h k x e]
      exact (hS.1 κ' h').kept (oq _ (fun z => e (hi κ' κ h' hκ z)))
  · show (if (3, i, 0) = κ ∧ j = k then x else h.2 (3, i, 0) j) < 30
    split
    · rename_i e
      rcases hr with hr | hr
      · exact hr.2
      · rw [← e.1] at hr; exact absurd hr.1 (show ¬ (3 : Nat) = 8 by decide)
    · exact hS.2.1 i j hi' hj
  · show (if (8, 0, 0) = κ ∧ j = k then x else h.2 (8, 0, 0) j) < 8
    split
    · rename_i e
      rcases hr with hr | hr
      · rw [← e.1] at hr; exact absurd hr.1 (by decide)
      · exact hr.2
    · exact hS.2.2.1 j hj
theorem dfields_at {k : Nat} (f : Nat → Int32) (hk : k < dnf (dcls κ.1)) : (dfields ad κ f)[k]? = some (match dref κ k with
  | some w => dval ad .null w
  | none => .int (f k)) := by
  unfold dfields
  rw [List.getElem?_map, List.getElem?_range hk]
  rfl
theorem dfields_set {k : Nat} (f : Nat → Int32) (x : Int32) (hk : k < dnf (dcls κ.1)) (hr : dref κ k = none) : (dfields ad κ f).set k (.int x) = dfields ad κ (upd f k x) := by
  refine List.ext_getElem? fun j => ?_
  by_cases hj : j < dnf (dcls κ.1)
  · rw [List.getElem?_set]
    have hl : (dfields ad κ f).length = dnf (dcls κ.1) := by simp [dfields]
    by_cases e : k = j
    · subst e
      rw [if_pos rfl, if_pos (by rw [hl]; exact hk), dfields_at _ hk, hr]
      simp [upd]
    · rw [if_neg e, dfields_at _ hj, dfields_at _ hj]
      cases dref κ j with
      | some w => rfl
      | none => simp [upd, Ne.symm e]
  · have hl : (dfields ad κ f).length = dnf (dcls κ.1) := by simp [dfields]
    have hl2 : (dfields ad κ (upd f k x)).length = dnf (dcls κ.1) := by simp [dfields]
    rw [List.getElem?_eq_none (by rw [List.length_set, hl]; omega), List.getElem?_eq_none (by rw [hl2]; omega)]
theorem drefT_33 {kd k t m : Nat} (h : drefT kd k = some (t, m)) : t ≠ 33 := by
  unfold drefT at h
  split at h <;> first | (cases h; decide) | cases h
theorem dref_null {fm : Value} {κ : DKey} {k : Nat} {w : DV} (h : dref κ k = some w) : dval ad .null w = dval ad fm w := by
  obtain ⟨kd, i, j⟩ := κ
  unfold dref at h
  dsimp only at h
  split at h
  · cases h
  · rename_i t m e
    have ht := drefT_33 e
    split at h <;> cases h
    · rw [dval_ok ht, dval_ok ht]
    · rfl
    · rw [dval_ok ht, dval_ok ht]
theorem dcls_arr {κ : DKey} (h : dcls κ.1 ≠ 99) : darr κ = none := by
  obtain ⟨k, i, j⟩ := κ
  unfold dcls at h
  split at h <;> first | (rename_i e; subst e; rfl) | rfl | (exact absurd rfl h)
theorem dcl_at {ci : Nat} (h : ci < 6) : dclasses[ci]? = some (don ci, dTX ci, dnf ci) := by
  match ci, h with
  | 0, _ => rfl
  | 1, _ => rfl
  | 2, _ => rfl
  | 3, _ => rfl
  | 4, _ => rfl
  | 5, _ => rfl
end DHP
