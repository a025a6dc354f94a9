/-! texts: what is read at a place; the reference's small methods -/
def mt (T : Nat → Int32) (t a : Nat) (x : Int32) : Prop := a < t ∧ T a = x
theorem mt_dec (T : Nat → Int32) (t a : Nat) (x : Int32) : mt T t a x ∨ ¬ mt T t a x := by
  unfold mt
  exact Decidable.em _
/-- the text is of characters -/
def TC (T : Nat → Int32) (t : Nat) : Prop := t ≤ 80 ∧ ∀ k, k < t → ∃ u, u < 65536 ∧ T k = nI u
def dgt (T : Nat → Int32) (t a : Nat) : Option Nat := if a < t ∧ (¬ T a < 48 ∧ ¬ 57 < T a) then some ((T a).toNatClampNeg - 48) else none
theorem dgt_s {T : Nat → Int32} {t a d : Nat} (h : dgt T t a = some d) : a < t ∧ d ≤ 9 ∧ T a = nI (48 + d) ∧ wip (T a) 48 57 := by
  unfold dgt at h
  by_cases z : a < t ∧ (¬ T a < 48 ∧ ¬ 57 < T a)
  · rw [if_pos z] at h
    obtain ⟨k, k1, k2, k3⟩ := wip_nI2 (a := 48) (b := 57) (by decide) (by decide) (show wip (T a) 48 57 from z.2)
    rw [k3, i_cl (by omega)] at h
    have h := Option.some.inj h
    refine ⟨z.1, by omega, by rw [k3]; exact congrArg nI (by omega), z.2⟩
  · rw [if_neg z] at h
    cases h
theorem dgt_n {T : Nat → Int32} {t a : Nat} (h : dgt T t a = none) : ¬ (a < t ∧ wip (T a) 48 57) := by
  intro z
  unfold dgt at h
  rw [if_pos (show a < t ∧ (¬ T a < 48 ∧ ¬ 57 < T a) from z)] at h
  cases h
def numP (T : Nat → Int32) (t hi : Nat) : Nat → Nat → Nat → Nat × Nat
  | 0, v, a => (v, a)
  | n + 1, v, a => match dgt T t a with
    | none => (v, a)
    | some d => if v = 0 ∨ hi < 10 * v + d then (v, a) else numP T t hi n (10 * v + d) (a + 1)
/-- fields of the reference that don't lie in E are the same -/
def PF (lo hi : Nat) (h h' : DH) : Prop := (∀ κ : DKey, κ ≠ (14, 0, 0) → h'.1 κ = h.1 κ) ∧ (∀ k, ¬ (lo ≤ k ∧ k ≤ hi) → h'.1 (14, 0, 0) k = h.1 (14, 0, 0) k) ∧ h'.2 = h.2
theorem PF.rf {lo hi : Nat} {h : DH} : PF lo hi h h := ⟨fun _ _ => rfl, fun _ _ => rfl, rfl⟩
theorem PF.tr {lo hi : Nat} {h h' h'' : DH} (a : PF lo hi h h') (b : PF lo hi h' h'') : PF lo hi h h'' := ⟨fun κ hκ => (b.1 κ hκ).trans (a.1 κ hκ), fun k hk => (b.2.1 k hk).trans (a.2.1 k hk), b.2.2.trans a.2.2⟩
theorem PF.up {lo hi : Nat} {h h' : DH} (a : PF lo hi h h') {k : Nat} {x : Int32} (h1 : lo ≤ k) (h2 : k ≤ hi) : PF lo hi h (up1 h' (14, 0, 0) k x) := ⟨fun κ hκ => (up1_ne _ _ _ hκ).trans (a.1 κ hκ), fun j hj => by
  rw [up1_1, if_neg (fun t => hj (by rw [t.2]; exact ⟨h1, h2⟩))]
  exact a.2.1 j hj, a.2.2⟩
theorem PF.wd {lo hi lo' hi' : Nat} {h h' : DH} (a : PF lo hi h h') (h1 : lo' ≤ lo) (h2 : hi ≤ hi') : PF lo' hi' h h' := ⟨a.1, fun k hk => a.2.1 k (fun t => hk (by omega)), a.2.2⟩
/-- the text of the reference, and where it is read -/
def RT (h : DH) (T : Nat → Int32) (t : Nat) : Prop := h.1 (14, 0, 0) 7 = nI t ∧ h.1 (19, 0, 0) = T
def bI2 (w : Bool) : Int32 := if w = true then 1 else 0
def PA (h : DH) (q : Nat × Bool) : Prop := h.1 (14, 0, 0) 9 = nI q.1 ∧ h.1 (14, 0, 0) 10 = bI2 q.2 ∧ q.1 ≤ 80
theorem RT.pf {h h' : DH} {T : Nat → Int32} {t lo hi : Nat} (a : RT h T t) (F : PF lo hi h h') (hl : 9 ≤ lo) : RT h' T t := ⟨(F.2.1 7 (by omega)).trans a.1, (F.1 _ (by simp)).trans a.2⟩
def sg1 (T : Nat → Int32) (t : Nat) (q : Nat × Bool) (lo hi : Int32) : Nat × Bool := if q.2 = false ∧ q.1 < t ∧ (¬ T q.1 < lo ∧ ¬ hi < T q.1) then (q.1 + 1, false) else (q.1, true)
theorem m_isNext (n : Nat) (x : Int32) (h : DH) {T : Nat → Int32} {t : Nat} {q : Nat × Bool} (hT : RT h T t) (ht : t ≤ 80) (hq : PA h q) : dEx (n + 1) 128 [.inr (14, 0, 0), .inl x] h (some (.inl (if q.2 = false ∧ q.1 < t ∧ T q.1 = x then 1 else 0)), h) := by
  obtain ⟨a, w⟩ := q
  obtain ⟨h9, h10, ha⟩ := hq
  obtain ⟨h7, hT⟩ := hT
  dsimp only at h9 h10 ha ⊢
  by_cases z : w = false ∧ a < t ∧ T a = x
  · rw [if_pos z]
    refine dx_128 ?_
    refine Runs.go 3 rfl trivial ?_
    rw [h10, z.1]
    refine Runs.ifT rfl ?_
    refine Runs.go 5 rfl trivial ?_
    rw [h9, h7]
    refine Runs.ifF (nI_ge z.2.1 (by omega)) ?_
    refine Runs.go 7 rfl ⟨trivial, (by rw [h9]; exact i_in (show a < 80 by omega) (by decide))⟩ ?_
    rw [h9, i_cl (show a < 2 ^ 31 by omega), hT]
    refine Runs.ifT z.2.2 ?_
    refine Runs.go 2 rfl trivial ?_
    exact Runs.fin rfl (Or.inr rfl)
  · rw [if_neg z]
    refine dx_128 ?_
    refine Runs.go 3 rfl trivial ?_
    rw [h10]
    cases w with
    | true =>
      refine Runs.ifF (show ¬ (1 : Int32) = 0 by decide) ?_
      refine Runs.go 1 rfl trivial ?_
      exact Runs.fin rfl (Or.inl rfl)
    | false =>
      refine Runs.ifT rfl ?_
      refine Runs.go 5 rfl trivial ?_
      rw [h9, h7]
      by_cases z1 : a < t
      · refine Runs.ifF (nI_ge z1 (by omega)) ?_
        refine Runs.go 7 rfl ⟨trivial, (by rw [h9]; exact i_in (show a < 80 by omega) (by decide))⟩ ?_
        rw [h9, i_cl (show a < 2 ^ 31 by omega), hT]
        refine Runs.ifF (fun u => z ⟨rfl, z1, u⟩) ?_
        refine Runs.go 1 rfl trivial ?_
        exact Runs.fin rfl (Or.inl rfl)
      · refine Runs.ifT (Int32.not_lt.mp (nI_nlt (by omega) (by omega))) ?_
        refine Runs.go 1 rfl trivial ?_
        exact Runs.fin rfl (Or.inl rfl)
theorem m_sign (n : Nat) (lo hi : Int32) (h : DH) {T : Nat → Int32} {t : Nat} {q : Nat × Bool} (hT : RT h T t) (ht : t ≤ 80) (hq : PA h q) (hlo : (0 : Int32) < lo) : ∃ h', dEx (n + 2) 129 [.inr (14, 0, 0), .inl lo, .inl hi] h (some (.inl (if q.1 < t then T q.1 else 0)), h') ∧ PF 9 10 h h' ∧ PA h' (sg1 T t q lo hi) := by
  obtain ⟨a, w⟩ := q
  obtain ⟨h9, h10, ha⟩ := hq
  obtain ⟨h7, hT⟩ := hT
  dsimp only at h9 h10 ha ⊢
  have e9 : ∀ x, (up1 h (14, 0, 0) 10 x).1 (14, 0, 0) 9 = nI a := fun x => by rw [up1_1, if_neg (fun t => absurd t.2 (by decide)), h9]
  have e10 : ∀ x, (up1 h (14, 0, 0) 10 x).1 (14, 0, 0) 10 = x := fun x => by rw [up1_1, if_pos ⟨rfl, rfl⟩]
  have wrong : ¬ (w = false ∧ a < t ∧ (¬ T a < lo ∧ ¬ hi < T a)) → ∀ c, Runs dT_129 (dEx (n + 1)) (42, [some (.inr (14, 0, 0)), some (.inl lo), some (.inl hi), some (.inl c)], [.inr (14, 0, 0)], h) (some (.inl c), up1 (up1 h (14, 0, 0) 10 1) (14, 0, 0) 9 (nI a)) := by
    intro hn c
    refine Runs.go 9 rfl ⟨trivial, (Or.inr rfl)⟩ ?_
    rw [e9, e10]
    refine Runs.ifF (by decide) ?_
    refine Runs.go 5 rfl trivial ?_
    refine Runs.fin ?_ trivial
    rw [Int32.add_zero]
    rfl
  by_cases z : w = false ∧ a < t ∧ (¬ T a < lo ∧ ¬ hi < T a)
  · refine ⟨up1 (up1 h (14, 0, 0) 10 0) (14, 0, 0) 9 (nI (a + 1)), ?_, (PF.rf.up (by decide) (by decide)).up (by decide) (by decide), ?_⟩
    · refine dx_129 ?_
      refine Runs.go 5 rfl trivial ?_
      rw [h9, h7]
      refine Runs.ifF (nI_ge z.2.1 (by omega)) ?_
      refine Runs.go 11 rfl ⟨trivial, (by rw [h9]; exact i_in (show a < 80 by omega) (by decide))⟩ ?_
      rw [h9, i_cl (show a < 2 ^ 31 by omega), hT, h10, z.1, if_pos z.2.1]
      refine Runs.ifT rfl ?_
      refine Runs.go 3 rfl trivial ?_
      refine Runs.cal rfl (m_in n _ _ _ h) ?_
      rw [wi_1 (show wip (T a) lo hi from z.2.2)]
      refine Runs.go 1 rfl trivial ?_
      refine Runs.ifF (by decide) ?_
      refine Runs.go 8 rfl ⟨trivial, (Or.inl rfl)⟩ ?_
      rw [e9, e10]
      refine Runs.ifT rfl ?_
      refine Runs.go 4 rfl trivial ?_
      refine Runs.fin ?_ trivial
      rw [nI_1]
      rfl
    · unfold sg1
      dsimp only
      rw [if_pos z]
      exact ⟨by rw [up1_1, if_pos ⟨rfl, rfl⟩], by rw [up1_1, if_neg (fun t => absurd t.2 (by decide)), up1_1, if_pos ⟨rfl, rfl⟩]; rfl, by have := z.2.1; show a + 1 ≤ 80; omega⟩
  · refine ⟨up1 (up1 h (14, 0, 0) 10 1) (14, 0, 0) 9 (nI a), ?_, (PF.rf.up (by decide) (by decide)).up (by decide) (by decide), ?_⟩
    · refine dx_129 ?_
      refine Runs.go 5 rfl trivial ?_
      rw [h9, h7]
      by_cases z1 : a < t
      · refine Runs.ifF (nI_ge z1 (by omega)) ?_
        refine Runs.go 11 rfl ⟨trivial, (by rw [h9]; exact i_in (show a < 80 by omega) (by decide))⟩ ?_
        rw [h9, i_cl (show a < 2 ^ 31 by omega), hT, h10, if_pos z1]
        cases w with
        | true =>
          refine Runs.ifF (by decide) ?_
          exact wrong z _
        | false =>
          refine Runs.ifT rfl ?_
          refine Runs.go 3 rfl trivial ?_
          refine Runs.cal rfl (m_in n _ _ _ h) ?_
          rw [wi_0 (show ¬ wip (T a) lo hi from fun u => z ⟨rfl, z1, u⟩)]
          refine Runs.go 1 rfl trivial ?_
          refine Runs.ifT rfl ?_
          exact wrong z _
      · refine Runs.ifT (Int32.not_lt.mp (nI_nlt (by omega) (by omega))) ?_
        refine Runs.go 6 rfl trivial ?_
        rw [h10, if_neg z1]
        cases w with
        | true =>
          refine Runs.ifF (by decide) ?_
          exact wrong z _
        | false =>
          refine Runs.ifT rfl ?_
          refine Runs.go 3 rfl trivial ?_
          refine Runs.cal rfl (m_in n _ _ _ h) ?_
          rw [wi_0 (show ¬ wip 0 lo hi from fun u => u.1 hlo)]
          refine Runs.go 1 rfl trivial ?_
          refine Runs.ifT rfl ?_
          exact wrong z _
    · unfold sg1
      dsimp only
      rw [if_neg z]
      exact ⟨by rw [up1_1, if_pos ⟨rfl, rfl⟩], by rw [up1_1, if_neg (fun t => absurd t.2 (by decide)), up1_1, if_pos ⟨rfl, rfl⟩]; rfl, ha⟩
