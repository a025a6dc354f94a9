/-! the class: words and commands -/
theorem lml_drop {T : Nat → Int32} {t a k : Nat} {cs : List Int32} {x : Int32} {l : List Int32} (e : cs.drop k = x :: l) : cs.drop (k + 1) = l ∧ cs.getD k 0 = x ∧ k < cs.length := by
  have hk : k < cs.length := by
    refine Decidable.byContradiction fun u => ?_
    rw [List.drop_eq_nil_of_le (by omega)] at e
    cases e
  refine ⟨?_, ?_, hk⟩
  · rw [List.drop_eq_getElem_cons hk] at e
    exact (List.cons.inj e).2
  · rw [List.drop_eq_getElem_cons hk] at e
    rw [List.getD_eq_getElem?_getD, List.getElem?_eq_getElem hk]
    exact (List.cons.inj e).1
theorem c_letters (n w : Nat) (h : DH) {T : Nat → Int32} {t a : Nat} (hc : CT h T t a) (ht : t ≤ 80) (hw : w < 4) : dEx (n + 5) 51 [.inr (9, 0, 0), .inr (30, w, 0)] h (some (.inl (nI (lml T t (wd w) a))), h) := by
  have l4 : (wd w).length ≤ 4 := by
    have : w = 0 ∨ w = 1 ∨ w = 2 ∨ w = 3 := by omega
    rcases this with rfl | rfl | rfl | rfl <;> decide
  have key : ∀ (l : List Int32) (k : Nat), (wd w).drop k = l → k ≤ (wd w).length → Runs dT_51 (dEx (n + 4)) (2, [some (.inr (9, 0, 0)), some (.inr (30, w, 0)), some (.inl (nI k))], [], h) (some (.inl (nI (k + lml T t l (a + k)))), h) := by
    intro l
    induction l with
    | nil =>
      intro k e hk
      have ek : k = (wd w).length := by
        have := congrArg List.length e
        rw [List.length_drop] at this
        simp only [List.length_nil] at this
        omega
      refine Runs.go 2 rfl trivial ?_
      refine Runs.cal rfl (c_strlen (n + 2) h w hw) ?_
      refine Runs.go 1 rfl trivial ?_
      refine Runs.ifT (by rw [ek]; exact Int32.le_refl _) ?_
      refine Runs.go 1 rfl trivial ?_
      exact Runs.fin rfl trivial
    | cons x l ih =>
      intro k e hk
      obtain ⟨e1, e2, e3⟩ := lml_drop (T := T) (t := t) (a := a) e
      have hh := c_isHere (n + 3) k x h hc ht (by omega)
      refine Runs.go 2 rfl trivial ?_
      refine Runs.cal rfl (c_strlen (n + 2) h w hw) ?_
      refine Runs.go 1 rfl trivial ?_
      refine Runs.ifF (nI_ge e3 (by omega)) ?_
      refine Runs.go 4 rfl trivial ?_
      refine Runs.cal rfl (c_charAt n w k h hw e3) ?_
      rw [e2]
      by_cases z : a + k < t ∧ T (a + k) = x
      · rw [if_pos z] at hh
        refine Runs.cal rfl hh ?_
        refine Runs.go 1 rfl trivial ?_
        refine Runs.ifF (by decide) ?_
        refine Runs.go 2 rfl trivial ?_
        rw [nI_1, show lml T t (x :: l) (a + k) = lml T t l (a + k + 1) + 1 from if_pos z, show k + (lml T t l (a + k + 1) + 1) = k + 1 + lml T t l (a + (k + 1)) by rw [Nat.add_assoc a k 1]; omega]
        exact ih (k + 1) e1 (by omega)
      · rw [if_neg z] at hh
        refine Runs.cal rfl hh ?_
        refine Runs.go 1 rfl trivial ?_
        refine Runs.ifT rfl ?_
        refine Runs.go 1 rfl trivial ?_
        rw [show lml T t (x :: l) (a + k) = 0 from if_neg z]
        exact Runs.fin rfl trivial
  refine dx_51 ?_
  refine Runs.go 2 rfl trivial ?_
  have := key (wd w) 0 rfl (Nat.zero_le _)
  rw [Nat.zero_add, Nat.add_zero] at this
  exact this
def lw (T : Nat → Int32) (t a w : Nat) : Nat := lml T t (wd w) a
def ckw (T : Nat → Int32) (t a : Nat) : Nat → Nat
  | 0 => 0
  | j + 1 => if lw T t a (ckw T t a j) < lw T t a (j + 1) then j + 1 else ckw T t a j
theorem ckw_le (T : Nat → Int32) (t a : Nat) : ∀ j, ckw T t a j ≤ j := by
  intro j
  induction j with
  | zero => exact Nat.le_refl _
  | succ j ih =>
    unfold ckw
    split
    · exact Nat.le_refl _
    · omega
theorem lw_le (T : Nat → Int32) (t a : Nat) : ∀ w, w < 4 → lw T t a w ≤ 4 := by
  intro w hw
  have h1 := wd_len T t (wd w) a
  have : w = 0 ∨ w = 1 ∨ w = 2 ∨ w = 3 := by omega
  have l4 : (wd w).length ≤ 4 := by rcases this with rfl | rfl | rfl | rfl <;> decide
  unfold lw
  omega
theorem c_word (n : Nat) (h : DH) {T : Nat → Int32} {t a : Nat} (hc : CT h T t a) (ht : t ≤ 80) : dEx (n + 6) 49 [.inr (9, 0, 0)] h (some (.inl (if lw T t a (ckw T t a 3) = (wd (ckw T t a 3)).length then nI (ckw T t a 3) else -1)), up1 h (9, 0, 0) 6 (nI (a + lw T t a (ckw T t a 3)))) := by
  have lo : ∀ w, w < 4 → dEx (n + 5) 51 [.inr (9, 0, 0), .inr (30, w, 0)] h (some (.inl (nI (lw T t a w))), h) := fun w hw => c_letters n w h hc ht hw
  have wo : ∀ k, k < 4 → dEx (n + 5) 50 [.inl (nI k)] h (some (.inr (30, k, 0)), h) := fun k hk => c_wordOf (n + 4) h k hk
  have ho3 := ckw_le T t a 3
  generalize hr : ((some (.inl (if lw T t a (ckw T t a 3) = (wd (ckw T t a 3)).length then nI (ckw T t a 3) else -1)) : Option DV), up1 h (9, 0, 0) 6 (nI (a + lw T t a (ckw T t a 3)))) = r
  have fin : Runs dT_49 (dEx (n + 5)) (4, [some (.inr (9, 0, 0)), some (.inl (nI (ckw T t a 3))), some (.inl (nI (3 + 1)))], [], h) r := by
    generalize hK : ckw T t a 3 = K at *
    have l4 := lw_le T t a K (by omega)
    refine Runs.go 3 rfl trivial ?_
    refine Runs.ifT (show (3 : Int32) < nI (3 + 1) by decide) ?_
    refine Runs.go 2 rfl trivial ?_
    refine Runs.cal rfl (wo K (by omega)) ?_
    refine Runs.cal rfl (lo K (by omega)) ?_
    refine Runs.go 9 rfl trivial ?_
    rw [hc.2.2.1, nI_add]
    refine Runs.cal rfl (c_wordOf (n + 4) (up1 h (9, 0, 0) 6 (nI (a + lw T t a K))) K (by omega)) ?_
    refine Runs.cal rfl (c_strlen (n + 3) (up1 h (9, 0, 0) 6 (nI (a + lw T t a K))) K (by omega)) ?_
    refine Runs.go 1 rfl trivial ?_
    have wl : (wd K).length ≤ 4 := by
      have : K = 0 ∨ K = 1 ∨ K = 2 ∨ K = 3 := by omega
      rcases this with e | e | e | e <;> rw [e] <;> decide
    by_cases z : lw T t a K = (wd K).length
    · rw [if_pos z] at hr
      refine Runs.ifT (by rw [z]) ?_
      refine Runs.go 2 rfl trivial ?_
      exact Runs.fin (by rw [← hr]; rfl) trivial
    · rw [if_neg z] at hr
      refine Runs.ifF (fun u => z (nI_inj (by omega) (by omega) u)) ?_
      refine Runs.go 1 rfl trivial ?_
      exact Runs.fin (by rw [← hr]; rfl) trivial
  refine dx_49 ?_
  refine Runs.go 4 rfl trivial ?_
  refine Runs.loop 3 (fun j => (4, [some (.inr (9, 0, 0)), some (.inl (nI (ckw T t a j))), some (.inl (nI (j + 1)))], [], h)) (fun j hj ih => ?_) fin
  have cl := ckw_le T t a j
  have l1 := lw_le T t a (j + 1) (by omega)
  have l2 := lw_le T t a (ckw T t a j) (by omega)
  refine Runs.go 3 rfl trivial ?_
  refine Runs.ifF (show ¬ (3 : Int32) < nI (j + 1) from nI_nlt (show j + 1 ≤ 3 by omega) (by decide)) ?_
  refine Runs.go 2 rfl trivial ?_
  refine Runs.cal rfl (wo (j + 1) (by omega)) ?_
  refine Runs.cal rfl (lo (j + 1) (by omega)) ?_
  refine Runs.go 2 rfl trivial ?_
  refine Runs.cal rfl (wo (ckw T t a j) (by omega)) ?_
  refine Runs.cal rfl (lo (ckw T t a j) (by omega)) ?_
  refine Runs.go 1 rfl trivial ?_
  have eu : ckw T t a (j + 1) = if lw T t a (ckw T t a j) < lw T t a (j + 1) then j + 1 else ckw T t a j := rfl
  by_cases z : lw T t a (ckw T t a j) < lw T t a (j + 1)
  · rw [if_pos z] at eu
    rw [eu] at ih
    refine Runs.ifF (nI_ge z (by omega)) ?_
    refine Runs.go 4 rfl trivial ?_
    rw [nI_1]
    exact ih
  · rw [if_neg z] at eu
    rw [eu] at ih
    refine Runs.ifT (Int32.not_lt.mp (nI_nlt (by omega) (by omega))) ?_
    refine Runs.go 2 rfl trivial ?_
    rw [nI_1]
    exact ih
/-- the word that the class finds is that of the reference -/
theorem kw (T : Nat → Int32) (t a : Nat) : lw T t a (ckw T t a 3) = lw T t a (kq T t a) ∧ (lw T t a (kq T t a) = (wd (kq T t a)).length → ckw T t a 3 = kq T t a) ∧ (lw T t a (kq T t a) < (wd (kq T t a)).length → ¬ lw T t a (ckw T t a 3) = (wd (ckw T t a 3)).length) := by
  have l : ∀ c cs b, lml T t (c :: cs) b = if b < t ∧ T b = c then lml T t cs (b + 1) + 1 else 0 := fun _ _ _ => rfl
  have x0 : lw T t a 0 = lml T t [114, 101, 97, 100] a := rfl
  have x1 : lw T t a 1 = lml T t [102, 97, 105, 108] a := rfl
  have x2 : lw T t a 2 = lml T t [114, 117, 110] a := rfl
  have x3 : lw T t a 3 = lml T t [102, 117, 115, 101] a := rfl
  rw [l] at x0 x1 x2 x3
  have c1 : ckw T t a 1 = if lw T t a 0 < lw T t a 1 then 1 else 0 := rfl
  have c2 : ckw T t a 2 = if lw T t a (ckw T t a 1) < lw T t a 2 then 2 else ckw T t a 1 := rfl
  have c3 : ckw T t a 3 = if lw T t a (ckw T t a 2) < lw T t a 3 then 3 else ckw T t a 2 := rfl
  have wl0 : (wd 0).length = 4 := rfl
  have wl1 : (wd 1).length = 4 := rfl
  by_cases hR : a < t ∧ T a = 114
  · have nF : ¬ (a < t ∧ T a = 102) := fun u => absurd (hR.2.symm.trans u.2) (by decide)
    rw [if_pos hR] at x0 x2
    rw [if_neg nF] at x1 x3
    have k1 : ckw T t a 1 = 0 := by rw [c1, x1, if_neg (by omega)]
    rw [k1] at c2
    rw [l] at x0 x2
    by_cases hU : a + 1 < t ∧ T (a + 1) = 117
    · have nE : ¬ (a + 1 < t ∧ T (a + 1) = 101) := fun u => absurd (hU.2.symm.trans u.2) (by decide)
      rw [if_neg nE] at x0
      rw [if_pos hU] at x2
      have k2 : ckw T t a 2 = 2 := by rw [c2, if_pos (by omega)]
      have k3 : ckw T t a 3 = 2 := by rw [c3, k2, x3, if_neg (by omega)]
      have kk : kq T t a = 2 := by unfold kq; rw [if_pos hR, if_pos hU]
      rw [k3, kk]
      exact ⟨rfl, fun _ => rfl, fun u => by omega⟩
    · rw [if_neg hU] at x2
      have k2 : ckw T t a 2 = 0 := by rw [c2, if_neg (by omega)]
      have k3 : ckw T t a 3 = 0 := by rw [c3, k2, x3, if_neg (by omega)]
      have kk : kq T t a = 0 := by unfold kq; rw [if_pos hR, if_neg hU]
      rw [k3, kk]
      exact ⟨rfl, fun _ => rfl, fun u => by omega⟩
  · rw [if_neg hR] at x0 x2
    by_cases hF : a < t ∧ T a = 102
    · rw [if_pos hF] at x1 x3
      have k1 : ckw T t a 1 = 1 := by rw [c1, x0, if_pos (by omega)]
      have k2 : ckw T t a 2 = 1 := by rw [c2, k1, x2, if_neg (by omega)]
      rw [l] at x1 x3
      by_cases hU : a + 1 < t ∧ T (a + 1) = 117
      · have nE : ¬ (a + 1 < t ∧ T (a + 1) = 97) := fun u => absurd (hU.2.symm.trans u.2) (by decide)
        rw [if_neg nE] at x1
        rw [if_pos hU] at x3
        have k3 : ckw T t a 3 = 3 := by rw [c3, k2, if_pos (by omega)]
        have kk : kq T t a = 3 := by unfold kq; rw [if_neg hR, if_pos ⟨hF, hU⟩]
        rw [k3, kk]
        exact ⟨rfl, fun _ => rfl, fun u => by omega⟩
      · rw [if_neg hU] at x3
        have k3 : ckw T t a 3 = 1 := by rw [c3, k2, if_neg (by omega)]
        have kk : kq T t a = 1 := by unfold kq; rw [if_neg hR, if_neg (fun u => hU u.2)]
        rw [k3, kk]
        exact ⟨rfl, fun _ => rfl, fun u => by omega⟩
    · rw [if_neg hF] at x1 x3
      have k1 : ckw T t a 1 = 0 := by rw [c1, x0, x1, if_neg (by omega)]
      have k2 : ckw T t a 2 = 0 := by rw [c2, k1, x0, x2, if_neg (by omega)]
      have k3 : ckw T t a 3 = 0 := by rw [c3, k2, x0, x3, if_neg (by omega)]
      have kk : kq T t a = 1 := by unfold kq; rw [if_neg hR, if_neg (fun u => hF u.1)]
      rw [k3, kk, x0, x1]
      exact ⟨rfl, fun u => by omega, fun _ => by omega⟩
