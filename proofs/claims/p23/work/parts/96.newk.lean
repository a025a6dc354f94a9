/-! the two methods of the law that make an array: one key more for a while -/
def adW (ad : DKey → Nat) (κ0 : DKey) (a : Nat) : DKey → Nat := fun κ => if κ = κ0 then a else ad κ
def isL (κ0 : DKey) : Prop := κ0 = (35, 0, 0) ∨ κ0 = (36, 0, 0)
theorem isL.ge {κ0 : DKey} (h : isL κ0) : 35 ≤ κ0.1 ∧ κ0.1 ≤ 36 := by rcases h with rfl | rfl <;> decide
theorem adW_n {ad : DKey → Nat} {κ κ0 : DKey} {a : Nat} (hne : κ ≠ κ0) : adW ad κ0 a κ = ad κ := if_neg hne
theorem adW_s {ad : DKey → Nat} {κ0 : DKey} {a : Nat} : adW ad κ0 a κ0 = a := if_pos rfl
theorem okK_lo {ad ad' : DKey → Nat} {k i j : Nat} (h : k < 14) : okK ad (k, i, j) = okK ad' (k, i, j) := by
  match k, h with
  | 0, _ => rfl
  | 1, _ => rfl
  | 2, _ => rfl
  | 3, _ => rfl
  | 4, _ => rfl
  | 5, _ => rfl
  | 6, _ => rfl
  | 7, _ => rfl
  | 8, _ => rfl
  | 9, _ => rfl
  | 10, _ => rfl
  | 11, _ => rfl
  | 12, _ => rfl
  | 13, _ => rfl
theorem okK_35 {ad ad' : DKey → Nat} {i j : Nat} (h : ad (35, 0, 0) = ad' (35, 0, 0)) : okK ad (35, i, j) = okK ad' (35, i, j) := by
  show (decide (ad (35, 0, 0) ≠ 0) && decide (i = 0) && decide (j = 0)) = (decide (ad' (35, 0, 0) ≠ 0) && decide (i = 0) && decide (j = 0))
  rw [h]
theorem okK_36 {ad ad' : DKey → Nat} {i j : Nat} (h : ad (36, 0, 0) = ad' (36, 0, 0)) : okK ad (36, i, j) = okK ad' (36, i, j) := by
  show (decide (ad (36, 0, 0) ≠ 0) && decide (i = 0) && decide (j = 0)) = (decide (ad' (36, 0, 0) ≠ 0) && decide (i = 0) && decide (j = 0))
  rw [h]
theorem okK_ij {ad : DKey → Nat} {k i j : Nat} (h : okK ad (k, i, j) = true) (hk : k = 35 ∨ k = 36) : i = 0 ∧ j = 0 ∧ ad (k, 0, 0) ≠ 0 := by
  rcases hk with rfl | rfl
  · have h' : (decide (ad (35, 0, 0) ≠ 0) && decide (i = 0) && decide (j = 0)) = true := h
    simp only [Bool.and_eq_true, decide_eq_true_eq] at h'
    exact ⟨h'.1.2, h'.2, h'.1.1⟩
  · have h' : (decide (ad (36, 0, 0) ≠ 0) && decide (i = 0) && decide (j = 0)) = true := h
    simp only [Bool.and_eq_true, decide_eq_true_eq] at h'
    exact ⟨h'.1.2, h'.2, h'.1.1⟩
theorem okK_W {ad : DKey → Nat} {κ κ0 : DKey} {a : Nat} (h : okK (adW ad κ0 a) κ = true) : κ = κ0 ∨ (κ ≠ κ0 ∧ okK ad κ = true) := by
  by_cases z : κ = κ0
  · exact Or.inl z
  · refine Or.inr ⟨z, ?_⟩
    obtain ⟨k, i, j⟩ := κ
    rcases okK_lt h with h1 | h1 | h1
    · rw [okK_lo (ad' := adW ad κ0 a) h1]; exact h
    · have h1 : k = 35 := h1
      subst h1
      obtain ⟨rfl, rfl, -⟩ := okK_ij h (Or.inl rfl)
      rw [← okK_35 (adW_n z)]; exact h
    · have h1 : k = 36 := h1
      subst h1
      obtain ⟨rfl, rfl, -⟩ := okK_ij h (Or.inr rfl)
      rw [← okK_36 (adW_n z)]; exact h
theorem okK_W2 {ad : DKey → Nat} {κ κ0 : DKey} {a : Nat} (hL : isL κ0) (h0 : ad κ0 = 0) (h : okK ad κ = true) : κ ≠ κ0 ∧ okK (adW ad κ0 a) κ = true := by
  obtain ⟨k, i, j⟩ := κ
  have hne : (k, i, j) ≠ κ0 := by
    intro e
    subst e
    have hk : k = 35 ∨ k = 36 := by have := hL.ge; dsimp only at this; omega
    obtain ⟨rfl, rfl, h3⟩ := okK_ij h hk
    exact h3 h0
  refine ⟨hne, ?_⟩
  rcases okK_lt h with h1 | h1 | h1
  · rw [okK_lo (ad' := ad) h1]; exact h
  · have h1 : k = 35 := h1
    subst h1
    obtain ⟨rfl, rfl, -⟩ := okK_ij h (Or.inl rfl)
    rw [okK_35 (adW_n hne)]; exact h
  · have h1 : k = 36 := h1
    subst h1
    obtain ⟨rfl, rfl, -⟩ := okK_ij h (Or.inr rfl)
    rw [okK_36 (adW_n hne)]; exact h
theorem okK_W0 {ad : DKey → Nat} {κ0 : DKey} {a : Nat} (hL : isL κ0) (ha : a ≠ 0) : okK (adW ad κ0 a) κ0 = true := by
  rcases hL with rfl | rfl
  · show (decide (adW ad (35, 0, 0) a (35, 0, 0) ≠ 0) && decide (0 = 0) && decide (0 = 0)) = true
    rw [adW_s]
    simp [ha]
  · show (decide (adW ad (36, 0, 0) a (36, 0, 0) ≠ 0) && decide (0 = 0) && decide (0 = 0)) = true
    rw [adW_s]
    simp [ha]
theorem drk_lt {κ w : DKey} {p j : Nat} (h : drk κ p j = some w) : w.1 < 14 := by
  unfold drk at h
  split at h <;> first | (cases h; simp; done) | cases h
theorem dref_lt {κ w : DKey} {k : Nat} (h : dref κ k = some (.inr w)) : w.1 < 14 := by
  obtain ⟨kd, i, j⟩ := κ
  unfold dref at h
  dsimp only at h
  split at h
  · cases h
  · rename_i t m e
    have ht : t < 14 := by
      unfold drefT at e
      split at e <;> first | (cases e; decide) | cases e
    split at h <;> cases h <;> exact ht
theorem ne_L {κ0 w : DKey} (hL : isL κ0) (h : w.1 < 14) : w ≠ κ0 := fun e => by
  have := hL.ge
  rw [← e] at this
  omega
theorem dent_W {ad : DKey → Nat} {ca : Nat → ClassId} {κ κ0 : DKey} {a : Nat} (hL : isL κ0) (f : Nat → Int32) (g : Nat → Nat) : dent (adW ad κ0 a) ca κ f g = dent ad ca κ f g := by
  have h1 : (fun j => (drk κ (g j) j).map (adW ad κ0 a)) = fun j => (drk κ (g j) j).map ad := by
    funext j
    cases h : drk κ (g j) j with
    | none => rfl
    | some w => exact congrArg some (adW_n (ne_L hL (drk_lt h)))
  have h2 : dfields (adW ad κ0 a) κ f = dfields ad κ f := by
    unfold dfields
    refine List.map_congr_left (fun k _ => ?_)
    cases h : dref κ k with
    | none => rfl
    | some w =>
      cases w with
      | inl x => rfl
      | inr w =>
        show (if w.1 = 33 then Value.null else .ref (adW ad κ0 a w)) = if w.1 = 33 then Value.null else .ref (ad w)
        rw [adW_n (ne_L hL (dref_lt h))]
  unfold dent
  rw [h1, h2]
theorem darr_L {κ0 : DKey} (hL : isL κ0) : darr κ0 = some (0, if κ0 = (35, 0, 0) then 4 else 12) := by
  rcases hL with rfl | rfl <;> rfl
section NEW
variable {D : va_G} {ad : DKey → Nat} {ca : Nat → ClassId} {fm : Value} {xs : Nat → Int32} {SL : Nat} {h h' : DH} {H H1 : Heap} {κ0 : DKey} {a N : Nat} {A : Nat → Prop} {U : State}
theorem dSim.lt (hS : dSim D ad ca xs SL h H) {κ : DKey} (hκ : okK ad κ = true) : ad κ < H.size := (do_P hS hκ 0 _ rfl).lt
theorem dSim.new (hS : dSim D ad ca xs SL h H) (hL : isL κ0) (hN : N = if κ0 = (35, 0, 0) then 4 else 12) (ha : H.size = a) (hn : H1[a]? = some (vp_cell (ca 0) (N, .inl (fun _ => 0)))) (o : ∀ q, q < a → H1[q]? = H[q]?) : dSim D (adW ad κ0 a) ca xs SL (ub h κ0 (fun _ => 0)) H1 := by
  have hge := hL.ge
  have b1 : ∀ κ : DKey, κ.1 < 35 → (ub h κ0 (fun _ => 0)).1 κ = h.1 κ := fun κ hκ => ub_n h _ (fun e => by rw [e] at hκ; omega)
  refine ⟨fun κ hκ => ?_, hS.2.1, hS.2.2.1, (b1 _ (by decide)).trans hS.2.2.2.1, hS.2.2.2.2⟩
  rcases okK_W hκ with rfl | ⟨z, hk⟩
  · rw [adW_s, dent_W hL, ub_s, dent_int (darr_L hL) (Or.inl rfl), ← hN]
    exact hn
  · rw [adW_n z, dent_W hL, ub_n h _ z]
    exact (hS.1 κ hk).kept (o _ (by rw [← ha]; exact hS.lt hk))
theorem dSim.drop (hS : dSim D (adW ad κ0 a) ca xs SL h' H) (hL : isL κ0) (h0 : ad κ0 = 0) (e : ∀ κ, κ ≠ κ0 → h'.1 κ = h.1 κ ∧ h'.2 κ = h.2 κ) : dSim D ad ca xs SL h H := by
  have hge := hL.ge
  have ne : ∀ κ : DKey, κ.1 < 35 → κ ≠ κ0 := fun κ hκ e => by rw [e] at hκ; omega
  refine ⟨fun κ hκ => ?_, fun i j hi hj => ?_, fun j hj => ?_, ?_, ?_⟩
  · obtain ⟨z, hk⟩ := okK_W2 (a := a) hL h0 hκ
    have := hS.1 κ hk
    rw [adW_n z, dent_W hL, (e κ z).1, (e κ z).2] at this
    exact this
  · rw [← (e (3, i, 0) (ne _ (show 3 < 35 by decide))).2]; exact hS.2.1 i j hi hj
  · rw [← (e (8, 0, 0) (ne _ (by decide))).2]; exact hS.2.2.1 j hj
  · rw [← (e (34, 0, 0) (ne _ (by decide))).1]; exact hS.2.2.2.1
  · rw [← (e (34, 0, 0) (ne _ (by decide))).2]; exact hS.2.2.2.2
theorem dInj.new (hi : dInj ad) (hlt : ∀ κ, okK ad κ = true → ad κ < a) : dInj (adW ad κ0 a) := by
  intro κ κ' h1 h2 e
  rcases okK_W h1 with rfl | ⟨z, hk⟩
  · rcases okK_W h2 with rfl | ⟨z', hk'⟩
    · rfl
    · rw [adW_s, adW_n z'] at e
      have := hlt κ' hk'
      omega
  · rcases okK_W h2 with rfl | ⟨z', hk'⟩
    · rw [adW_s, adW_n z] at e
      have := hlt κ hk
      omega
    · rw [adW_n z, adW_n z'] at e
      exact hi κ κ' hk hk' e
theorem dEnv.new (hE : dEnv D ad ca fm xs SL A U) (hL : isL κ0) : dEnv D (adW ad κ0 a) ca fm xs SL A U := by
  have hge := hL.ge
  have ne : ∀ κ : DKey, κ.1 < 35 → adW ad κ0 a κ = ad κ := fun κ hκ => adW_n (fun e => by rw [e] at hκ; omega)
  obtain ⟨h1, h2, h3, h8, h9, h10⟩ := hE
  refine ⟨h1, h2, fun w hw => ?_, ?_, ?_, ?_⟩
  · rw [ne (32, w, 0) (show 32 < 35 by decide)]; exact h3 w hw
  · rw [ne (34, 0, 0) (by decide)]; exact h8
  · rw [ne (34, 0, 0) (by decide)]; exact h9
  · rw [ne (34, 0, 0) (by decide)]; exact h10
end NEW
def nSet (ad : DKey → Nat) (n0 : Nat) : Nat → Prop := fun q => dAm ad q ∨ n0 ≤ q
def nPre (D : va_G) (ad : DKey → Nat) (ca : Nat → ClassId) (fm : Value) (xs : Nat → Int32) (SL : Nat) (h : DH) (n0 : Nat) : Array Value → State → Prop := va_Pc [.ref (ad (6, 0, 0))] (fun U => U.heap.size = n0 ∧ dEnv D ad ca fm xs SL (nSet ad n0) U ∧ dAO U ∧ dSim D ad ca xs SL h U.heap)
def nPost (D : va_G) (ad : DKey → Nat) (ca : Nat → ClassId) (xs : Nat → Int32) (SL : Nat) (h : DH) (n0 : Nat) : Array Value → State → Outcome → State → Prop := fun _ st oc t => oc = .returned (some (.int 1)) ∧ dSim D ad ca xs SL h t.heap ∧ va_F (nSet ad n0) st t
def rmN (k : Nat) : Room := { frames := 7, cells := 1, slots := k, locals := 280 }
def nMet (l : Launch) (D : va_G) (ad : DKey → Nat) (ca : Nat → ClassId) (fm : Value) (xs : Nat → Int32) (SL : Nat) (h : DH) (n0 k : Nat) (y : MethodName) (bytes : ByteArray) (maxL : Nat) : Prop := Met l y (Cond.code y bytes maxL (some .boolean) :: dWd) (rmN k) (nPre D ad ca fm xs SL h n0) (nPost D ad ca xs SL h n0) 1 k (nSet ad n0)
theorem nPre_blind {D : va_G} {ad : DKey → Nat} {ca : Nat → ClassId} {fm : Value} {xs : Nat → Int32} {SL n0 : Nat} {h : DH} : FrameBlind (nPre D ad ca fm xs SL h n0) := fun _ U _ _ q => ⟨q.1, q.2.1, dEnv.same (u := U) rfl rfl q.2.2.1, dAO.moved (u := U) (Vm.Alike.refl U.vm) q.2.2.2.1, q.2.2.2.2⟩
section NMET
variable {p : Program} {l : Launch} {e : Env} {R : Room} {s : State} {m : MethodId} {args : Array Value} {below : List Frame} {meth : Method} {c : Code} {H : Heap} {locs : List Loc} {cells slots : Nat} {Q : State → Prop}
variable {cc : ByteArray} {pc : Nat} {ls : Array Slot} {rest : List Value} {Ts : List Cond} {o idx n nL : Nat} {A A0 : Nat → Prop}
variable {D : va_G} {ad : DKey → Nat} {ca : Nat → ClassId} {fm : Value} {xs : Nat → Int32} {SL : Nat} {h : DH}
theorem n_newa (C : Cx p s m args c cc o Ts D ad ca fm xs SL A0) (hz : H.size = n) (hS : va_S A s.heap H locs) {N : Nat} {x : Int32} (hw : Cond.arrayClass .int ∈ dWd) (hx : ¬ x < 0) (hN : x.toNatClampNeg = N) (hN2 : N ≤ 1000) (hcells : cells + 1 ≤ R.cells) (hslots : slots + N ≤ R.slots) (hdg : decode cc pc = .ok (.newarray .int, 2))
    (kk : ∀ H1 : Heap, H1[n]? = some (vp_cell (ca 0) (N, .inl (fun _ => 0))) → (∀ q, q < n → H1[q]? = H[q]?) → va_S A s.heap H1 locs → W p l e R s m args below meth c H1 locs (cells + 1) (slots + N) Q (F0 m (pc + 2) ls (.ref n :: rest))) : W p l e R s m args below meth c H locs cells slots Q (F0 m pc ls (.int x :: rest)) := by
  have hty := C.2.2.2.2.2.1.1.2
  have hb : N * componentBytes (newarray.typeOf .int) ≤ 536870912 := Nat.le_trans (Nat.mul_le_mul_right _ hN2) (by decide)
  refine va_newaK C.1 C.2.1 (C.ok (show Cond.arrayClass (newarray.typeOf .int) ∈ dWd from hw)) rfl hdg rfl hx hN hb hcells hslots hz fun H1 cA e1 z1 o1 hAr hNm => ?_
  have eA : cA = ca 0 := Option.some.inj (hNm.symm.trans (hty 0 (ca 0, .int) rfl).2)
  refine kk H1 ?_ o1 ⟨Nat.le_trans hS.1 (by rw [z1, hz]; omega), fun q h1 h2 => (o1 q (by have := hS.1; rw [hz] at this; omega)).trans (hS.2.1 q h1 h2), hS.2.2⟩
  rw [e1, eA]
  rfl
end NMET
