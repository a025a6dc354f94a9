/-! the reference: numbers in the text -/
theorem sg_dg (T : Nat → Int32) (t a lo : Nat) (hlo : lo ≤ 1) : sg1 T t (a, false) (nI (48 + lo)) 57 = match dgt T t a with
    | some d => if lo ≤ d then (a + 1, false) else (a, true)
    | none => (a, true) := by
  unfold sg1
  dsimp only
  cases hd : dgt T t a with
  | none =>
    refine if_neg (fun z => dgt_n hd ⟨z.2.1, ?_, z.2.2.2⟩)
    obtain ⟨k, k1, k2, k3⟩ := wip_nI2 (a := 48 + lo) (b := 57) (by omega) (by decide) (show wip (T a) (nI (48 + lo)) 57 from z.2.2)
    rw [k3]
    exact nI_nlt (show 48 ≤ k by omega) (by omega)
  | some d =>
    obtain ⟨d1, d2, d3, d4⟩ := dgt_s hd
    dsimp only
    by_cases z : lo ≤ d
    · rw [if_pos z]
      exact if_pos ⟨rfl, d1, by rw [d3]; exact nI_nlt (by omega) (by omega), d4.2⟩
    · rw [if_neg z]
      exact if_neg (fun u => u.2.2.1 (by rw [d3]; exact nI_lt (by omega) (by omega)))
def nmq (T : Nat → Int32) (t : Nat) (q : Nat × Bool) (lo hi : Nat) : (Nat × Bool) × Nat := if q.2 = true then ((q.1, true), 0) else match dgt T t q.1 with
  | some d => if lo ≤ d then (((numP T t hi 2 d (q.1 + 1)).2, false), (numP T t hi 2 d (q.1 + 1)).1) else ((q.1, true), 0)
  | none => ((q.1, true), 0)
theorem nI_mul (a b : Nat) : nI a * nI b = nI (a * b) := (Int32.ofNat_mul a b).symm
theorem sg_w (T : Nat → Int32) (t a : Nat) (lo hi : Int32) : sg1 T t (a, true) lo hi = (a, true) := if_neg (fun z => absurd (show (true : Bool) = false from z.1) (by decide))
theorem dig_v {T : Nat → Int32} {a d : Nat} (v : Nat) (h : T a = nI (48 + d)) : 10 * nI v + T a - 48 = nI (10 * v + d) := by
  rw [h, show (10 : Int32) = nI 10 from rfl, nI_mul, nI_add, show (48 : Int32) = nI 48 from rfl, pk_sub (by omega)]
  exact congrArg nI (by omega)
theorem numP_0 (T : Nat → Int32) (t hi v a : Nat) : numP T t hi 0 v a = (v, a) := rfl
theorem numP_s (T : Nat → Int32) (t hi n v a : Nat) : numP T t hi (n + 1) v a = match dgt T t a with
    | none => (v, a)
    | some d => if v = 0 ∨ hi < 10 * v + d then (v, a) else numP T t hi n (10 * v + d) (a + 1) := rfl
/-- one turn: where it ends, and where it goes on -/
theorem m_num1 (n lo hi v a : Nat) {h : DH} {T : Nat → Int32} {t : Nat} (hT : RT h T t) (ht : t ≤ 80) (hq : PA h (a, false)) (hv : v ≤ 200) (hhi : hi ≤ 200) (he : dgt T t a = none ∨ v = 0 ∨ ∃ d, dgt T t a = some d ∧ hi < 10 * v + d) : Runs dT_130 (dEx (n + 2)) (14, [some (.inr (14, 0, 0)), some (.inl (nI lo)), some (.inl (nI hi)), some (.inl (nI v))], [], h) (some (.inl (nI v)), h) := by
  obtain ⟨h9, h10, ha⟩ := hq
  obtain ⟨h7, hT⟩ := hT
  dsimp only at h9 h10 ha
  have fin : Runs dT_130 (dEx (n + 2)) (96, [some (.inr (14, 0, 0)), some (.inl (nI lo)), some (.inl (nI hi)), some (.inl (nI v))], [], h) (some (.inl (nI v)), h) := by
    refine Runs.go 1 rfl trivial ?_
    exact Runs.fin rfl trivial
  refine Runs.go 3 rfl trivial ?_
  rw [h10]
  refine Runs.ifT rfl ?_
  refine Runs.go 2 rfl trivial ?_
  by_cases v0 : v = 0
  · refine Runs.ifT (by rw [v0]; decide) ?_
    exact fin
  · refine Runs.ifF (Int32.not_le.mpr ((nIpos (by omega)).mpr (by omega))) ?_
    refine Runs.go 5 rfl trivial ?_
    rw [h9, h7]
    by_cases z1 : a < t
    · refine Runs.ifF (nI_ge z1 (by omega)) ?_
      refine Runs.go 7 rfl ⟨trivial, (by rw [h9]; exact i_in (show a < 80 by omega) (by decide))⟩ ?_
      rw [h9, i_cl (show a < 2 ^ 31 by omega), hT]
      refine Runs.cal rfl (m_in (n + 1) _ _ _ h) ?_
      cases hd : dgt T t a with
      | none =>
        rw [wi_0 (show ¬ wip (T a) 48 57 from fun u => dgt_n hd ⟨z1, u⟩)]
        refine Runs.go 1 rfl trivial ?_
        refine Runs.ifT rfl ?_
        exact fin
      | some d =>
        obtain ⟨d1, d2, d3, d4⟩ := dgt_s hd
        rw [wi_1 d4]
        refine Runs.go 1 rfl trivial ?_
        refine Runs.ifF (by decide) ?_
        refine Runs.go 13 rfl ⟨trivial, (by rw [h9]; exact i_in (show a < 80 by omega) (by decide))⟩ ?_
        rw [h9, i_cl (show a < 2 ^ 31 by omega), hT, dig_v v d3]
        have hlt : hi < 10 * v + d := by
          rcases he with he | he | ⟨d', e1, e2⟩
          · rw [hd] at he; cases he
          · exact absurd he v0
          · rw [hd] at e1; cases e1; exact e2
        refine Runs.ifT (nI_lt hlt (by omega)) ?_
        exact fin
    · refine Runs.ifT (Int32.not_lt.mp (nI_nlt (by omega) (by omega))) ?_
      exact fin
theorem m_num2 (n lo hi v a d : Nat) {h : DH} {T : Nat → Int32} {t : Nat} (hT : RT h T t) (ht : t ≤ 80) (hq : PA h (a, false)) (hv : v ≤ 200) (hhi : hi ≤ 200) (v0 : v ≠ 0) (hd : dgt T t a = some d) (hle : 10 * v + d ≤ hi) : ∃ h', PF 9 10 h h' ∧ PA h' (a + 1, false) ∧ ∀ r, Runs dT_130 (dEx (n + 2)) (14, [some (.inr (14, 0, 0)), some (.inl (nI lo)), some (.inl (nI hi)), some (.inl (nI (10 * v + d)))], [], h') r → Runs dT_130 (dEx (n + 2)) (14, [some (.inr (14, 0, 0)), some (.inl (nI lo)), some (.inl (nI hi)), some (.inl (nI v))], [], h) r := by
  obtain ⟨h', hs, hF, hP⟩ := m_sign n 48 57 h hT ht hq (by decide)
  have es := sg_dg T t a 0 (by decide)
  rw [hd] at es
  dsimp only at es
  rw [if_pos (Nat.zero_le _)] at es
  rw [show sg1 T t (a, false) 48 57 = sg1 T t (a, false) (nI (48 + 0)) 57 from rfl, es] at hP
  obtain ⟨h9, h10, ha⟩ := hq
  obtain ⟨h7, hT⟩ := hT
  dsimp only at h9 h10 ha hs
  obtain ⟨d1, d2, d3, d4⟩ := dgt_s hd
  refine ⟨h', hF, hP, fun r hr => ?_⟩
  refine Runs.go 3 rfl trivial ?_
  rw [h10]
  refine Runs.ifT rfl ?_
  refine Runs.go 2 rfl trivial ?_
  refine Runs.ifF (Int32.not_le.mpr ((nIpos (by omega)).mpr (by omega))) ?_
  refine Runs.go 5 rfl trivial ?_
  rw [h9, h7]
  refine Runs.ifF (nI_ge d1 (by omega)) ?_
  refine Runs.go 7 rfl ⟨trivial, (by rw [h9]; exact i_in (show a < 80 by omega) (by decide))⟩ ?_
  rw [h9, i_cl (show a < 2 ^ 31 by omega), hT]
  refine Runs.cal rfl (m_in (n + 1) _ _ _ h) ?_
  rw [wi_1 d4]
  refine Runs.go 1 rfl trivial ?_
  refine Runs.ifF (by decide) ?_
  refine Runs.go 13 rfl ⟨trivial, (by rw [h9]; exact i_in (show a < 80 by omega) (by decide))⟩ ?_
  rw [h9, i_cl (show a < 2 ^ 31 by omega), hT, dig_v v d3]
  refine Runs.ifF (nI_nlt hle (by omega)) ?_
  refine Runs.go 6 rfl trivial ?_
  refine Runs.cal rfl hs ?_
  rw [if_pos d1]
  refine Runs.go 5 rfl trivial ?_
  rw [dig_v v d3]
  exact hr
theorem m_numL (n lo hi : Nat) {T : Nat → Int32} {t : Nat} (ht : t ≤ 80) (hhi : hi ≤ 200) : ∀ (m v a : Nat) (h : DH), RT h T t → PA h (a, false) → v ≤ 200 → (v = 0 ∨ hi < v * 10 ^ (m + 1)) → ∃ h', PF 9 10 h h' ∧ PA h' ((numP T t hi m v a).2, false) ∧ Runs dT_130 (dEx (n + 2)) (14, [some (.inr (14, 0, 0)), some (.inl (nI lo)), some (.inl (nI hi)), some (.inl (nI v))], [], h) (some (.inl (nI (numP T t hi m v a).1)), h') := by
  intro m
  induction m with
  | zero =>
    intro v a h hT hq hv hb
    rw [numP_0]
    refine ⟨h, PF.rf, hq, m_num1 n lo hi v a hT ht hq hv hhi ?_⟩
    cases hd : dgt T t a with
    | none => exact Or.inl rfl
    | some d =>
      rcases hb with hb | hb
      · exact Or.inr (Or.inl hb)
      · exact Or.inr (Or.inr ⟨d, rfl, by omega⟩)
  | succ m ih =>
    intro v a h hT hq hv hb
    rw [numP_s]
    cases hd : dgt T t a with
    | none =>
      dsimp only
      exact ⟨h, PF.rf, hq, m_num1 n lo hi v a hT ht hq hv hhi (Or.inl hd)⟩
    | some d =>
      dsimp only
      by_cases z : v = 0 ∨ hi < 10 * v + d
      · rw [if_pos z]
        exact ⟨h, PF.rf, hq, m_num1 n lo hi v a hT ht hq hv hhi (z.elim (fun u => Or.inr (Or.inl u)) (fun u => Or.inr (Or.inr ⟨d, hd, u⟩)))⟩
      · rw [if_neg z]
        obtain ⟨h1, F1, P1, k1⟩ := m_num2 n lo hi v a d hT ht hq hv hhi (fun u => z (Or.inl u)) hd (by omega)
        have hb' : hi < (10 * v + d) * 10 ^ (m + 1) := by
          rcases hb with hb | hb
          · exact absurd (Or.inl hb) z
          · have e : v * 10 ^ (m + 1 + 1) = (10 * v) * 10 ^ (m + 1) := by
              rw [Nat.pow_succ 10 (m + 1), Nat.mul_comm 10 v, Nat.mul_assoc, Nat.mul_comm (10 ^ (m + 1)) 10]
            rw [e] at hb
            exact Nat.lt_of_lt_of_le hb (Nat.mul_le_mul_right _ (by omega))
        obtain ⟨h2, F2, P2, k2⟩ := ih (10 * v + d) (a + 1) h1 (hT.pf F1 (by decide)) P1 (by omega) (Or.inr hb')
        exact ⟨h2, F1.tr F2, P2, k1 _ k2⟩
theorem m_number (n lo hi : Nat) (h : DH) {T : Nat → Int32} {t : Nat} {q : Nat × Bool} (hT : RT h T t) (ht : t ≤ 80) (hq : PA h q) (hlo : lo ≤ 1) (hhi : hi ≤ 200) : ∃ (h' : DH) (v : Int32), dEx (n + 3) 130 [.inr (14, 0, 0), .inl (nI lo), .inl (nI hi)] h (some (.inl v), h') ∧ PF 9 10 h h' ∧ PA h' (nmq T t q lo hi).1 ∧ ((nmq T t q lo hi).1.2 = false → v = nI (nmq T t q lo hi).2) := by
  obtain ⟨h1, hs, F1, P1⟩ := m_sign n (nI (48 + lo)) 57 h hT ht hq (by rw [nIpos (by omega)]; omega)
  obtain ⟨a, w⟩ := q
  dsimp only at hs
  have elo : (48 : Int32) + nI lo = nI (48 + lo) := by rw [show (48 : Int32) = nI 48 from rfl, nI_add]
  have start : ∀ r, Runs dT_130 (dEx (n + 2)) (14, [some (.inr (14, 0, 0)), some (.inl (nI lo)), some (.inl (nI hi)), some (.inl ((if a < t then T a else 0) - 48))], [], h1) r → dEx (n + 3) 130 [.inr (14, 0, 0), .inl (nI lo), .inl (nI hi)] h r := by
    intro r hr
    refine dx_130 ?_
    refine Runs.go 5 rfl trivial ?_
    rw [elo]
    refine Runs.cal rfl hs ?_
    refine Runs.go 3 rfl trivial ?_
    exact hr
  have wrong : ∀ v : Int32, h1.1 (14, 0, 0) 10 = 1 → Runs dT_130 (dEx (n + 2)) (14, [some (.inr (14, 0, 0)), some (.inl (nI lo)), some (.inl (nI hi)), some (.inl v)], [], h1) (some (.inl v), h1) := by
    intro v hw
    refine Runs.go 3 rfl trivial ?_
    rw [hw]
    refine Runs.ifF (by decide) ?_
    refine Runs.go 1 rfl trivial ?_
    exact Runs.fin rfl trivial
  cases w with
  | true =>
    rw [sg_w] at P1
    have en : nmq T t (a, true) lo hi = ((a, true), 0) := if_pos rfl
    rw [en]
    exact ⟨h1, _, start _ (wrong _ P1.2.1), F1, P1, fun u => absurd (show (true : Bool) = false from u) (by decide)⟩
  | false =>
    rw [sg_dg T t a lo hlo] at P1
    have en : nmq T t (a, false) lo hi = match dgt T t a with
      | some d => if lo ≤ d then (((numP T t hi 2 d (a + 1)).2, false), (numP T t hi 2 d (a + 1)).1) else ((a, true), 0)
      | none => ((a, true), 0) := if_neg (show ¬ (false : Bool) = true by decide)
    rw [en]
    cases hd : dgt T t a with
    | none =>
      rw [hd] at P1
      exact ⟨h1, _, start _ (wrong _ P1.2.1), F1, P1, fun u => absurd (show (true : Bool) = false from u) (by decide)⟩
    | some d =>
      rw [hd] at P1
      dsimp only at P1 ⊢
      by_cases z : lo ≤ d
      · rw [if_pos z] at P1 ⊢
        obtain ⟨d1, d2, d3, d4⟩ := dgt_s hd
        obtain ⟨h2, F2, P2, k2⟩ := m_numL n lo hi (T := T) ht hhi 2 d (a + 1) h1 (hT.pf F1 (by decide)) P1 (by omega) (by
          by_cases d0 : d = 0
          · exact Or.inl d0
          · exact Or.inr (by show hi < d * 1000; omega))
        refine ⟨h2, _, start _ ?_, F1.tr F2, P2, fun _ => rfl⟩
        rw [if_pos d1, d3, show (48 : Int32) = nI 48 from rfl, pk_sub (by omega), show 48 + d - 48 = d by omega]
        exact k2
      · rw [if_neg z] at P1 ⊢
        exact ⟨h1, _, start _ (wrong _ P1.2.1), F1, P1, fun u => absurd (show (true : Bool) = false from u) (by decide)⟩
