/-! the class's state i beside the reference's row s -/
def LC (h : DH) (i c : Nat) : List R5 := (List.range c).map (rdk h i)
def LM (s : Nat → Int32) (c : Nat) : List R5 := (List.range c).map (rmk s)
def RB (h : DH) (i : Nat) (s : Nat → Int32) : Prop := (∀ n, n < 10 → h.1 (1, i, 0) n = s n) ∧ (∀ k, 4 ≤ k → k < 15 → h.1 (0, i, 0) k = s (ms k)) ∧ (∀ d, d < 12 → ∀ f, f < 6 → h.1 (4, i, d) f = s (oD d (mf f)))
theorem ms_lt (k : Nat) : 10 ≤ ms k ∧ ms k < 21 := by
  unfold ms
  split <;> decide
theorem ms_inj {k j : Nat} (hk : 4 ≤ k) (hk2 : k < 15) (hj : 4 ≤ j) (hj2 : j < 15) (h : ms k = ms j) : k = j := by
  have : ∀ a, a < 15 → ∀ b, b < 15 → 4 ≤ a → 4 ≤ b → ms a = ms b → a = b := by decide
  exact this k hk2 j hj2 hk hj h
theorem mf_lt {f : Nat} (h : f < 6) : mf f < 6 := by
  have : ∀ a, a < 6 → mf a < 6 := by decide
  exact this f h
theorem mf_inj {f g : Nat} (hf : f < 6) (hg : g < 6) (h : mf f = mf g) : f = g := by
  have : ∀ a, a < 6 → ∀ b, b < 6 → mf a = mf b → a = b := by decide
  exact this f hf g hg h
section RBL
variable {h h' : DH} {i : Nat} {s s' : Nat → Int32}
theorem RB.cg (hr : RB h i s) (e1 : h'.1 (1, i, 0) = h.1 (1, i, 0)) (e0 : ∀ k, 4 ≤ k → k < 15 → h'.1 (0, i, 0) k = h.1 (0, i, 0) k) (e4 : ∀ d, d < 12 → ∀ f, f < 6 → h'.1 (4, i, d) f = h.1 (4, i, d) f) (es : ∀ k, k < 93 → s' k = s k) : RB h' i s' := by
  refine ⟨fun n hn => ?_, fun k h1 h2 => ?_, fun d hd f hf => ?_⟩
  · rw [e1, es n (by omega)]
    exact hr.1 n hn
  · rw [e0 k h1 h2, es _ (by have := ms_lt k; omega)]
    exact hr.2.1 k h1 h2
  · rw [e4 d hd f hf, es _ (by have := mf_lt hf; unfold oD; omega)]
    exact hr.2.2 d hd f hf
theorem RB.m (hr : RB h i s) (es : ∀ k, k < 93 → s' k = s k) : RB h i s' := hr.cg rfl (fun _ _ _ => rfl) (fun _ _ _ _ => rfl) es
theorem RB.sc (hr : RB h i s) {k : Nat} (hk : 4 ≤ k) (hk2 : k < 15) (v : Int32) : RB (up1 h (0, i, 0) k v) i (upd s (ms k) v) := by
  have hm := ms_lt k
  refine ⟨fun n hn => ?_, fun j h1 h2 => ?_, fun d hd f hf => ?_⟩
  · rw [up1_ne _ _ _ (by simp), upd_n _ _ (by omega)]
    exact hr.1 n hn
  · rw [up1_1]
    by_cases e : j = k
    · subst e
      rw [if_pos ⟨rfl, rfl⟩, upd_s]
    · rw [if_neg (fun t => e t.2), upd_n _ _ (fun t => e (ms_inj h1 h2 hk hk2 t))]
      exact hr.2.1 j h1 h2
  · rw [up1_ne _ _ _ (by simp), upd_n _ _ (by have := mf_lt hf; unfold oD; omega)]
    exact hr.2.2 d hd f hf
theorem RB.dk (hr : RB h i s) {d f : Nat} (hd : d < 12) (hf : f < 6) (v : Int32) : RB (up1 h (4, i, d) f v) i (upd s (oD d (mf f)) v) := by
  have hm := mf_lt hf
  refine ⟨fun n hn => ?_, fun j h1 h2 => ?_, fun d' hd' f' hf' => ?_⟩
  · rw [up1_ne _ _ _ (by simp), upd_n _ _ (by unfold oD; omega)]
    exact hr.1 n hn
  · rw [up1_ne _ _ _ (by simp), upd_n _ _ (by have := ms_lt j; unfold oD; omega)]
    exact hr.2.1 j h1 h2
  · rw [up1_1]
    by_cases e : d' = d ∧ f' = f
    · obtain ⟨rfl, rfl⟩ := e
      rw [if_pos ⟨rfl, rfl⟩, upd_s]
    · rw [if_neg (fun t => e ⟨by simpa using t.1, t.2⟩), upd_n]
      · exact hr.2.2 d' hd' f' hf'
      · have hm' := mf_lt hf'
        intro t
        have : d' = d ∧ mf f' = mf f := by unfold oD at t; omega
        exact e ⟨this.1, mf_inj hf' hf this.2⟩
theorem RB.d6 (hr : RB h i s) (d : Nat) (v : Int32) : RB (up1 h (4, i, d) 6 v) i s := hr.cg (up1_ne _ _ _ (by simp)) (fun k _ _ => by rw [up1_ne _ _ _ (by simp)]) (fun d' _ f hf => by rw [up1_1, if_neg (fun t => by omega)]) (fun _ _ => rfl)
theorem RB.rd (hr : RB h i s) (p f : Nat) (v : Int32) : RB (up1 h (5, i, p) f v) i s := hr.cg (up1_ne _ _ _ (by simp)) (fun k _ _ => by rw [up1_ne _ _ _ (by simp)]) (fun d' _ f hf => by rw [up1_ne _ _ _ (by simp)]) (fun _ _ => rfl)
theorem RB.c3 (hr : RB h i s) (v : Int32) : RB (up1 h (0, i, 0) 3 v) i s := hr.cg (up1_ne _ _ _ (by simp)) (fun k hk _ => by rw [up1_1, if_neg (fun t => by omega)]) (fun d' _ f hf => by rw [up1_ne _ _ _ (by simp)]) (fun _ _ => rfl)
theorem RB.u2 (hr : RB h i s) (κ : DKey) (k x : Nat) : RB (up2 h κ k x) i s := hr
theorem RB.mh (hr : RB h i s) {k : Nat} (hk : 93 ≤ k) (v : Int32) : RB h i (upd s k v) := hr.m (fun j hj => upd_n _ _ (by omega))
end RBL
/-- the reads of the class: places are apart -/
def pmi (h : DH) (i : Nat) : Prop := ∀ k k', k < 30 → k' < 30 → h.2 (3, i, 0) k = h.2 (3, i, 0) k' → k = k'
theorem rdk_o {h : DH} {i k : Nat} {κ : DKey} (hκ : κ.1 ≠ 5) (j : Nat) (v : Int32) : rdk (up1 h κ j v) i k = rdk h i k := by
  have : ∀ p, (up1 h κ j v).1 (5, i, p) = h.1 (5, i, p) := fun p => up1_ne _ _ _ (fun e => hκ (by rw [← e]))
  simp only [rdk, this, up1_2]
theorem LC_o {h : DH} {i c : Nat} {κ : DKey} (hκ : κ.1 ≠ 5) (j : Nat) (v : Int32) : LC (up1 h κ j v) i c = LC h i c := by
  unfold LC
  refine List.map_congr_left (fun k _ => rdk_o hκ j v)
theorem LC_at {h : DH} {i c k : Nat} (hk : k < c) : (LC h i c)[k]? = some (rdk h i k) := by
  unfold LC
  rw [List.getElem?_map, List.getElem?_range hk]
  rfl
theorem LM_at {s : Nat → Int32} {c k : Nat} (hk : k < c) : (LM s c)[k]? = some (rmk s k) := by
  unfold LM
  rw [List.getElem?_map, List.getElem?_range hk]
  rfl
theorem LC_len (h : DH) (i c : Nat) : (LC h i c).length = c := by simp [LC]
theorem LM_len (s : Nat → Int32) (c : Nat) : (LM s c).length = c := by simp [LM]
theorem LC_mem {h : DH} {i c : Nat} {r : R5} : r ∈ LC h i c ↔ ∃ k, k < c ∧ rdk h i k = r := by simp [LC]
theorem LM_mem {s : Nat → Int32} {c : Nat} {r : R5} : r ∈ LM s c ↔ ∃ k, k < c ∧ rmk s k = r := by simp [LM]
theorem LM_cg {s s' : Nat → Int32} {c : Nat} (h : ∀ k, 94 ≤ k → k < 94 + 5 * c → s' k = s k) : LM s' c = LM s c := by
  unfold LM
  refine List.map_congr_left (fun k hk => ?_)
  have hk := List.mem_range.mp hk
  unfold rmk
  rw [h _ (by omega) (by omega), h _ (by omega) (by omega), h _ (by omega) (by omega), h _ (by omega) (by omega), h _ (by omega) (by omega)]
theorem LM_lo {s : Nat → Int32} {c k : Nat} (hk : k < 94) (v : Int32) : LM (upd s k v) c = LM s c := LM_cg (fun j hj _ => upd_n _ _ (by omega))
theorem LM_mSb {s : Nat → Int32} {c d : Nat} (hd : d < 12) : LM (mSb s d) c = LM s c := by
  unfold mSb
  rw [LM_lo (by unfold oD; omega), LM_lo (by unfold oD; omega), LM_lo (by unfold oD; omega)]
/-- a read's row in the reference -/
theorem rmk_eq (s : Nat → Int32) (k : Nat) : rmk s k = (s (oR k 0), s (oR k 1), s (oR k 2), s (oR k 3), s (oR k 4)) := rfl
theorem LM_rm {s : Nat → Int32} {p c : Nat} (hp : p < c) (hc : c ≤ 30) : LM (mrm s p c) (c - 1) = (LM s c).eraseIdx p := by
  refine List.ext_getElem? fun k => ?_
  by_cases hk : k < c - 1
  · rw [LM_at hk, List.getElem?_eraseIdx]
    by_cases hkp : k < p
    · rw [if_pos hkp, LM_at (by omega)]
      have e : ∀ w, w < 5 → mrm s p c (oR k w) = s (oR k w) := fun w hw => by
        unfold mrm msh
        rw [if_neg (by unfold oR; omega), upd_n _ _ (by unfold oR; omega)]
      rw [rmk_eq, rmk_eq, e 0 (by decide), e 1 (by decide), e 2 (by decide), e 3 (by decide), e 4 (by decide)]
    · rw [if_neg hkp, LM_at (by omega)]
      have e : ∀ w, w < 5 → mrm s p c (oR k w) = s (oR (k + 1) w) := fun w hw => by
        unfold mrm msh
        rw [if_pos (by unfold oR; omega), upd_n _ _ (by unfold oR; omega)]
        exact congrArg s (by unfold oR; omega)
      rw [rmk_eq, rmk_eq, e 0 (by decide), e 1 (by decide), e 2 (by decide), e 3 (by decide), e 4 (by decide)]
  · rw [List.getElem?_eq_none (by rw [LM_len]; omega), List.getElem?_eq_none (by rw [List.length_eraseIdx, LM_len, if_pos hp]; omega)]
theorem mrm_lo {s : Nat → Int32} {p c k : Nat} (hk : k < 93) : mrm s p c k = s k := by
  unfold mrm msh
  rw [if_neg (by unfold oR; omega), upd_n _ _ (by omega)]
theorem LM_set {s : Nat → Int32} {p c w : Nat} (hw : w < 5) (v : Int32) : LM (upd s (oR p w) v) c = (LM s c).set p (match w with
  | 0 => (v, (rmk s p).2)
  | 1 => ((rmk s p).1, v, (rmk s p).2.2)
  | 2 => ((rmk s p).1, (rmk s p).2.1, v, (rmk s p).2.2.2)
  | 3 => ((rmk s p).1, (rmk s p).2.1, (rmk s p).2.2.1, v, (rmk s p).2.2.2.2)
  | _ => ((rmk s p).1, (rmk s p).2.1, (rmk s p).2.2.1, (rmk s p).2.2.2.1, v)) := by
  refine List.ext_getElem? fun k => ?_
  by_cases hk : k < c
  · rw [LM_at hk, List.getElem?_set, LM_len]
    by_cases e : p = k
    · subst e
      rw [if_pos rfl, if_pos hk]
      have h5 : w = 0 ∨ w = 1 ∨ w = 2 ∨ w = 3 ∨ w = 4 := by omega
      rcases h5 with rfl | rfl | rfl | rfl | rfl <;> simp [rmk_eq, upd, oR]
    · rw [if_neg e, LM_at hk]
      have e1 : ∀ u, u < 5 → upd s (oR p w) v (oR k u) = s (oR k u) := fun u hu => upd_n _ _ (by unfold oR; omega)
      rw [rmk_eq, rmk_eq, e1 0 (by decide), e1 1 (by decide), e1 2 (by decide), e1 3 (by decide), e1 4 (by decide)]
  · rw [List.getElem?_eq_none (by rw [LM_len]; omega), List.getElem?_eq_none (by rw [List.length_set, LM_len]; omega)]
/-- first places and lists -/
theorem mfst_none {s : Nat → Int32} {c : Nat} {x : Int32} : mfst s c x = none ↔ hasD x (LM s c) = false := by
  constructor
  · intro h
    rw [hasD_0]
    intro r hr
    obtain ⟨k, hk, rfl⟩ := LM_mem.mp hr
    have := fp_none h k hk
    simpa [dk5, rmk_eq] using this
  · intro h
    rw [hasD_0] at h
    refine fp_nof (fun j hj => ?_)
    have := h _ (LM_mem.mpr ⟨j, hj, rfl⟩)
    simpa [dk5, rmk_eq] using this
theorem mfst_some {s : Nat → Int32} {c p : Nat} {x : Int32} (h : mfst s c x = some p) : p < c ∧ (LM s c)[p]? = some (rmk s p) ∧ dk5 (rmk s p) = x ∧ ∀ j q, j < p → (LM s c)[j]? = some q → dk5 q ≠ x := by
  obtain ⟨h1, h2, h3⟩ := fp_some h
  refine ⟨h1, LM_at h1, by simpa [dk5, rmk_eq] using h2, fun j q hj hq => ?_⟩
  rw [LM_at (by omega)] at hq
  cases hq
  have := h3 j hj
  simpa [dk5, rmk_eq] using this
