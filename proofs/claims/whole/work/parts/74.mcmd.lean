/-! commands: what stands at a place; the reference reads one -/
def wd : Nat → List Int32
  | 0 => [114, 101, 97, 100]
  | 1 => [102, 97, 105, 108]
  | 2 => [114, 117, 110]
  | _ => [102, 117, 115, 101]
/-- how many letters of a word stand at a -/
def lml (T : Nat → Int32) (t : Nat) : List Int32 → Nat → Nat
  | [], _ => 0
  | c :: cs, a => if a < t ∧ T a = c then lml T t cs (a + 1) + 1 else 0
def kq (T : Nat → Int32) (t a : Nat) : Nat := if a < t ∧ T a = 114 then (if a + 1 < t ∧ T (a + 1) = 117 then 2 else 0) else if (a < t ∧ T a = 102) ∧ (a + 1 < t ∧ T (a + 1) = 117) then 3 else 1
def argP (T : Nat → Int32) (t lo hi a : Nat) : Nat × Option Nat := if a < t ∧ T a = 32 then (match dgt T t (a + 1) with
  | some d => if lo ≤ d then ((numP T t hi 2 d (a + 2)).2, some (numP T t hi 2 d (a + 2)).1) else (a + 1, none)
  | none => (a + 1, none)) else (a, none)
def argsP (T : Nat → Int32) (t k a : Nat) : Nat × Option (Nat × Nat × Nat) := if k = 3 then (a, some (3, 0, 0)) else
  match argP T t (if k = 2 then 1 else 0) (if k = 2 then 200 else 11) a with
  | (b, none) => (b, none)
  | (b, some x) => if k = 0 then (match argP T t 1 50 b with
    | (c, none) => (c, none)
    | (c, some y) => (c, some (0, x, y))) else (b, some (k, x, 0))
/-- the command at a: where it ends and what it is, or where it is wrong -/
def cmdP (T : Nat → Int32) (t a : Nat) : Nat × Option (Nat × Nat × Nat) := if lml T t (wd (kq T t a)) a < (wd (kq T t a)).length then (a + lml T t (wd (kq T t a)) a, none) else argsP T t (kq T t a) (a + lml T t (wd (kq T t a)) a)
def sgl (T : Nat → Int32) (t : Nat) (x : Int32) (q : Nat × Bool) : Nat × Bool := sg1 T t q x x
theorem sgl_t {T : Nat → Int32} {t a : Nat} {x : Int32} (h : a < t ∧ T a = x) : sgl T t x (a, false) = (a + 1, false) := if_pos ⟨rfl, h.1, by rw [h.2]; exact ⟨fun u => Int32.lt_irrefl u, fun u => Int32.lt_irrefl u⟩⟩
theorem sgl_f {T : Nat → Int32} {t a : Nat} {x : Int32} (h : ¬ (a < t ∧ T a = x)) : sgl T t x (a, false) = (a, true) := if_neg (fun u => h ⟨u.2.1, Int32.le_antisymm (Int32.not_lt.mp u.2.2.2) (Int32.not_lt.mp u.2.2.1)⟩)
theorem sgl_w (T : Nat → Int32) (t a : Nat) (x : Int32) : sgl T t x (a, true) = (a, true) := sg_w T t a x x
def sgs (T : Nat → Int32) (t : Nat) : List Int32 → Nat × Bool → Nat × Bool
  | [], q => q
  | c :: cs, q => sgs T t cs (sgl T t c q)
theorem sgs_w (T : Nat → Int32) (t a : Nat) : ∀ cs, sgs T t cs (a, true) = (a, true) := by
  intro cs
  induction cs with
  | nil => rfl
  | cons c cs ih =>
    show sgs T t cs (sgl T t c (a, true)) = _
    rw [sgl_w]
    exact ih
theorem sgs_lml (T : Nat → Int32) (t : Nat) : ∀ cs a, sgs T t cs (a, false) = (a + lml T t cs a, decide (lml T t cs a < cs.length)) := by
  intro cs
  induction cs with
  | nil => intro a; rfl
  | cons c cs ih =>
    intro a
    show sgs T t cs (sgl T t c (a, false)) = _
    by_cases z : a < t ∧ T a = c
    · rw [sgl_t z, ih (a + 1), show lml T t (c :: cs) a = lml T t cs (a + 1) + 1 from if_pos z, List.length_cons]
      refine Prod.ext (by show a + 1 + _ = a + (_ + 1); omega) ?_
      show decide _ = decide _
      simp
    · rw [sgl_f z, sgs_w, show lml T t (c :: cs) a = 0 from if_neg z, List.length_cons]
      simp
/-- an argument -/
theorem nmq_arg (T : Nat → Int32) (t a lo hi : Nat) : (nmq T t (sgl T t 32 (a, false)) lo hi) = match argP T t lo hi a with
    | (b, none) => ((b, true), 0)
    | (b, some x) => ((b, false), x) := by
  unfold argP
  by_cases z : a < t ∧ T a = 32
  · rw [sgl_t z, if_pos z]
    unfold nmq
    rw [if_neg (show ¬ (false : Bool) = true by decide)]
    dsimp only
    cases dgt T t (a + 1) with
    | none => rfl
    | some d =>
      dsimp only
      by_cases zl : lo ≤ d
      · rw [if_pos zl, if_pos zl]
      · rw [if_neg zl, if_neg zl]
  · rw [sgl_f z, if_neg z]
    exact if_pos rfl
theorem nmq_w (T : Nat → Int32) (t a lo hi : Nat) : nmq T t (sgl T t 32 (a, true)) lo hi = ((a, true), 0) := by
  rw [sgl_w]
  exact if_pos rfl
theorem PA.up {h : DH} {q : Nat × Bool} (p : PA h q) {k : Nat} {x : Int32} (h1 : k ≠ 9) (h2 : k ≠ 10) : PA (up1 h (14, 0, 0) k x) q := ⟨by rw [up1_1, if_neg (fun t => h1 t.2.symm)]; exact p.1, by rw [up1_1, if_neg (fun t => h2 t.2.symm)]; exact p.2.1, p.2.2⟩
theorem RT.up {h : DH} {T : Nat → Int32} {t : Nat} (p : RT h T t) {k : Nat} {x : Int32} (h1 : k ≠ 7) : RT (up1 h (14, 0, 0) k x) T t := ⟨by rw [up1_1, if_neg (fun t => h1 t.2.symm)]; exact p.1, by rw [up1_ne _ _ _ (by simp)]; exact p.2⟩
theorem PF.at {lo hi : Nat} {h h' : DH} (F : PF lo hi h h') {k : Nat} (hk : ¬ (lo ≤ k ∧ k ≤ hi)) : h'.1 (14, 0, 0) k = h.1 (14, 0, 0) k := F.2.1 k hk
theorem up_at (h : DH) (k : Nat) (x : Int32) : (up1 h (14, 0, 0) k x).1 (14, 0, 0) k = x := by rw [up1_1, if_pos ⟨rfl, rfl⟩]
theorem up_ne (h : DH) {k j : Nat} (x : Int32) (hj : j ≠ k) : (up1 h (14, 0, 0) k x).1 (14, 0, 0) j = h.1 (14, 0, 0) j := by rw [up1_1, if_neg (fun t => hj t.2)]
theorem m_cmd0 (n : Nat) (h : DH) {T : Nat → Int32} {t a : Nat} (hT : RT h T t) (ht : t ≤ 80) (hq : PA h (a, false)) (hR : a < t ∧ T a = 114) (hU : ¬ (a + 1 < t ∧ T (a + 1) = 117)) : ∃ h', dEx (n + 4) 127 [.inr (14, 0, 0)] h (none, h') ∧ PF 9 13 h h' ∧ PA h' (nmq T t (sgl T t 32 (nmq T t (sgl T t 32 (sgl T t 100 (sgl T t 97 (sgl T t 101 (sgl T t 114 (a, false)))))) 0 11).1) 1 50).1 ∧ h'.1 (14, 0, 0) 11 = 0 ∧ ((nmq T t (sgl T t 32 (sgl T t 100 (sgl T t 97 (sgl T t 101 (sgl T t 114 (a, false)))))) 0 11).1.2 = false → h'.1 (14, 0, 0) 12 = nI (nmq T t (sgl T t 32 (sgl T t 100 (sgl T t 97 (sgl T t 101 (sgl T t 114 (a, false)))))) 0 11).2) ∧ ((nmq T t (sgl T t 32 (nmq T t (sgl T t 32 (sgl T t 100 (sgl T t 97 (sgl T t 101 (sgl T t 114 (a, false)))))) 0 11).1) 1 50).1.2 = false → h'.1 (14, 0, 0) 13 = nI (nmq T t (sgl T t 32 (nmq T t (sgl T t 32 (sgl T t 100 (sgl T t 97 (sgl T t 101 (sgl T t 114 (a, false)))))) 0 11).1) 1 50).2) := by
  have n1 := m_isNext (n + 2) 114 h hT ht hq
  dsimp only at n1
  rw [if_pos ⟨rfl, hR.1, hR.2⟩] at n1
  obtain ⟨h1, s1, F1, P1⟩ := m_sign (n + 1) 114 114 h hT ht hq (by decide)
  have T1 := hT.pf F1 (by decide)
  have P1 : PA h1 (sgl T t 114 (a, false)) := P1
  have n2 := m_isNext (n + 2) 117 h1 T1 ht P1
  rw [sgl_t hR] at n2
  dsimp only at n2
  rw [if_neg (fun u => hU u.2)] at n2
  have Tk := T1.up (k := 11) (x := 0) (by decide)
  have Pk := P1.up (k := 11) (x := 0) (by decide) (by decide)
  have kk := up_at h1 11 0
  have Fk := (F1.wd (lo' := 9) (hi' := 13) (by decide) (by decide)).up (k := 11) (x := 0) (by decide) (by decide)
  generalize ek : up1 h1 (14, 0, 0) 11 0 = hk at Tk Pk kk Fk
  obtain ⟨h2, s2, F2, P2⟩ := m_sign (n + 1) 101 101 hk Tk ht Pk (by decide)
  have T2 := Tk.pf F2 (by decide)
  have P2 : PA h2 (sgl T t 101 (sgl T t 114 (a, false))) := P2
  have k2 := (F2.at (k := 11) (by decide)).trans kk
  have G2 := Fk.tr (F2.wd (lo' := 9) (hi' := 13) (by decide) (by decide))
  obtain ⟨h3, s3, F3, P3⟩ := m_sign (n + 1) 97 97 h2 T2 ht P2 (by decide)
  have T3 := T2.pf F3 (by decide)
  have P3 : PA h3 (sgl T t 97 (sgl T t 101 (sgl T t 114 (a, false)))) := P3
  have k3 := (F3.at (k := 11) (by decide)).trans k2
  have G3 := G2.tr (F3.wd (lo' := 9) (hi' := 13) (by decide) (by decide))
  obtain ⟨h4, s4, F4, P4⟩ := m_sign (n + 1) 100 100 h3 T3 ht P3 (by decide)
  have T4 := T3.pf F4 (by decide)
  have P4 : PA h4 (sgl T t 100 (sgl T t 97 (sgl T t 101 (sgl T t 114 (a, false))))) := P4
  have k4 := (F4.at (k := 11) (by decide)).trans k3
  have G4 := G3.tr (F4.wd (lo' := 9) (hi' := 13) (by decide) (by decide))
  have Tz := (T4.up (k := 12) (x := 0) (by decide)).up (k := 13) (x := 0) (by decide)
  have Pz := (P4.up (k := 12) (x := 0) (by decide) (by decide)).up (k := 13) (x := 0) (by decide) (by decide)
  have kz : (up1 (up1 h4 (14, 0, 0) 12 0) (14, 0, 0) 13 0).1 (14, 0, 0) 11 = 0 := by rw [up_ne _ _ (by decide), up_ne _ _ (by decide), k4]
  have z12 : (up1 (up1 h4 (14, 0, 0) 12 0) (14, 0, 0) 13 0).1 (14, 0, 0) 12 = 0 := by rw [up_ne _ _ (by decide), up_at]
  have z13 : (up1 (up1 h4 (14, 0, 0) 12 0) (14, 0, 0) 13 0).1 (14, 0, 0) 13 = 0 := up_at _ _ _
  have Gz := (G4.up (k := 12) (x := 0) (by decide) (by decide)).up (k := 13) (x := 0) (by decide) (by decide)
  generalize ez : up1 (up1 h4 (14, 0, 0) 12 0) (14, 0, 0) 13 0 = hz at Tz Pz kz z12 z13 Gz
  obtain ⟨h5, s5, F5, P5⟩ := m_sign (n + 1) 32 32 hz Tz ht Pz (by decide)
  have T5 := Tz.pf F5 (by decide)
  have P5 : PA h5 (sgl T t 32 (sgl T t 100 (sgl T t 97 (sgl T t 101 (sgl T t 114 (a, false)))))) := P5
  obtain ⟨h6, v6, s6, F6, P6, V6⟩ := m_number n 0 11 h5 T5 ht P5 (by decide) (by decide)
  have F56 := F5.tr F6
  have k6 := (F56.at (k := 11) (by decide)).trans kz
  have z6 := (F56.at (k := 13) (by decide)).trans z13
  have T6 := Tz.pf F56 (by decide)
  have G6 := Gz.tr (F56.wd (lo' := 9) (hi' := 13) (by decide) (by decide))
  have T7 := T6.up (k := 12) (x := v6) (by decide)
  have P7 := P6.up (k := 12) (x := v6) (by decide) (by decide)
  have k7 : (up1 h6 (14, 0, 0) 12 v6).1 (14, 0, 0) 11 = 0 := by rw [up_ne _ _ (by decide), k6]
  have x7 : (up1 h6 (14, 0, 0) 12 v6).1 (14, 0, 0) 12 = v6 := up_at _ _ _
  have y7 : (up1 h6 (14, 0, 0) 12 v6).1 (14, 0, 0) 13 = 0 := by rw [up_ne _ _ (by decide), z6]
  have G7 := G6.up (k := 12) (x := v6) (by decide) (by decide)
  generalize e7 : up1 h6 (14, 0, 0) 12 v6 = h7 at T7 P7 k7 x7 y7 G7
  obtain ⟨h8, s8, F8, P8⟩ := m_sign (n + 1) 32 32 h7 T7 ht P7 (by decide)
  have T8 := T7.pf F8 (by decide)
  have P8 : PA h8 (sgl T t 32 (nmq T t (sgl T t 32 (sgl T t 100 (sgl T t 97 (sgl T t 101 (sgl T t 114 (a, false)))))) 0 11).1) := P8
  obtain ⟨h9, v9, s9, F9, P9, V9⟩ := m_number n 1 50 h8 T8 ht P8 (by decide) (by decide)
  have F89 := F8.tr F9
  have G9 := G7.tr (F89.wd (lo' := 9) (hi' := 13) (by decide) (by decide))
  refine ⟨up1 h9 (14, 0, 0) 13 v9, ?_, G9.up (by decide) (by decide), P9.up (by decide) (by decide), by rw [up_ne _ _ (by decide), F89.at (by decide), k7], fun u => by rw [up_ne _ _ (by decide), F89.at (by decide), x7]; exact V6 u, fun u => by rw [up_at]; exact V9 u⟩
  refine dx_127 ?_
  refine Runs.go 2 rfl trivial ?_
  refine Runs.cal rfl n1 ?_
  refine Runs.go 3 rfl trivial ?_
  refine Runs.ifF (by decide) ?_
  refine Runs.go 3 rfl trivial ?_
  refine Runs.cal rfl s1 ?_
  refine Runs.go 4 rfl trivial ?_
  refine Runs.cal rfl n2 ?_
  refine Runs.go 4 rfl trivial ?_
  refine Runs.ifF (by decide) ?_
  refine Runs.go 2 rfl trivial ?_
  refine Runs.ifT rfl ?_
  refine Runs.go 5 rfl trivial ?_
  rw [ek]
  refine Runs.ifT rfl ?_
  refine Runs.go 2 rfl trivial ?_
  refine Runs.ifF (by decide) ?_
  refine Runs.go 3 rfl trivial ?_
  refine Runs.cal rfl s2 ?_
  refine Runs.go 5 rfl trivial ?_
  rw [k2]
  refine Runs.ifT rfl ?_
  refine Runs.go 3 rfl trivial ?_
  refine Runs.cal rfl s3 ?_
  refine Runs.go 4 rfl trivial ?_
  refine Runs.cal rfl s4 ?_
  refine Runs.go 12 rfl trivial ?_
  rw [ez, kz]
  refine Runs.ifF (by decide) ?_
  refine Runs.go 3 rfl trivial ?_
  refine Runs.cal rfl s5 ?_
  refine Runs.go 6 rfl trivial ?_
  rw [(F5.at (k := 11) (by decide)).trans kz]
  refine Runs.ifF (by decide) ?_
  refine Runs.go 3 rfl trivial ?_
  refine Runs.cal rfl s6 ?_
  refine Runs.go 4 rfl trivial ?_
  rw [e7, k7]
  refine Runs.ifT rfl ?_
  refine Runs.go 3 rfl trivial ?_
  refine Runs.cal rfl s8 ?_
  refine Runs.go 5 rfl trivial ?_
  refine Runs.cal rfl s9 ?_
  refine Runs.go 1 rfl trivial ?_
  exact Runs.fin rfl trivial
theorem m_cmd1 (n : Nat) (h : DH) {T : Nat → Int32} {t a : Nat} (hT : RT h T t) (ht : t ≤ 80) (hq : PA h (a, false)) (hR : ¬ (a < t ∧ T a = 114)) (hU : ¬ ((a < t ∧ T a = 102) ∧ (a + 1 < t ∧ T (a + 1) = 117))) : ∃ h', dEx (n + 4) 127 [.inr (14, 0, 0)] h (none, h') ∧ PF 9 13 h h' ∧ PA h' (nmq T t (sgl T t 32 (sgl T t 108 (sgl T t 105 (sgl T t 97 (sgl T t 102 (a, false)))))) 0 11).1 ∧ h'.1 (14, 0, 0) 11 = 1 ∧ ((nmq T t (sgl T t 32 (sgl T t 108 (sgl T t 105 (sgl T t 97 (sgl T t 102 (a, false)))))) 0 11).1.2 = false → h'.1 (14, 0, 0) 12 = nI (nmq T t (sgl T t 32 (sgl T t 108 (sgl T t 105 (sgl T t 97 (sgl T t 102 (a, false)))))) 0 11).2) ∧ (h'.1 (14, 0, 0) 13 = nI 0) := by
  have n1 := m_isNext (n + 2) 114 h hT ht hq
  dsimp only at n1
  rw [if_neg (fun u => hR u.2)] at n1
  obtain ⟨h1, s1, F1, P1⟩ := m_sign (n + 1) 102 102 h hT ht hq (by decide)
  have T1 := hT.pf F1 (by decide)
  have P1 : PA h1 (sgl T t 102 (a, false)) := P1
  have n2 := m_isNext (n + 2) 117 h1 T1 ht P1
  have n2 : dEx (n + 3) 128 [.inr (14, 0, 0), .inl 117] h1 (some (.inl 0), h1) := by
    by_cases hF : a < t ∧ T a = 102
    · rw [sgl_t hF] at n2
      dsimp only at n2
      rw [if_neg (fun u => hU ⟨hF, u.2⟩)] at n2
      exact n2
    · rw [sgl_f hF] at n2
      dsimp only at n2
      rw [if_neg (fun u => absurd (show (true : Bool) = false from u.1) (by decide))] at n2
      exact n2
  have Tk := T1.up (k := 11) (x := 1) (by decide)
  have Pk := P1.up (k := 11) (x := 1) (by decide) (by decide)
  have kk := up_at h1 11 1
  have Fk := (F1.wd (lo' := 9) (hi' := 13) (by decide) (by decide)).up (k := 11) (x := 1) (by decide) (by decide)
  generalize ek : up1 h1 (14, 0, 0) 11 1 = hk at Tk Pk kk Fk
  obtain ⟨h2, s2, F2, P2⟩ := m_sign (n + 1) 97 97 hk Tk ht Pk (by decide)
  have T2 := Tk.pf F2 (by decide)
  have P2 : PA h2 (sgl T t 97 (sgl T t 102 (a, false))) := P2
  have k2 := (F2.at (k := 11) (by decide)).trans kk
  have G2 := Fk.tr (F2.wd (lo' := 9) (hi' := 13) (by decide) (by decide))
  obtain ⟨h3, s3, F3, P3⟩ := m_sign (n + 1) 105 105 h2 T2 ht P2 (by decide)
  have T3 := T2.pf F3 (by decide)
  have P3 : PA h3 (sgl T t 105 (sgl T t 97 (sgl T t 102 (a, false)))) := P3
  have k3 := (F3.at (k := 11) (by decide)).trans k2
  have G3 := G2.tr (F3.wd (lo' := 9) (hi' := 13) (by decide) (by decide))
  obtain ⟨h4, s4, F4, P4⟩ := m_sign (n + 1) 108 108 h3 T3 ht P3 (by decide)
  have T4 := T3.pf F4 (by decide)
  have P4 : PA h4 (sgl T t 108 (sgl T t 105 (sgl T t 97 (sgl T t 102 (a, false))))) := P4
  have k4 := (F4.at (k := 11) (by decide)).trans k3
  have G4 := G3.tr (F4.wd (lo' := 9) (hi' := 13) (by decide) (by decide))
  have Tz := (T4.up (k := 12) (x := 0) (by decide)).up (k := 13) (x := 0) (by decide)
  have Pz := (P4.up (k := 12) (x := 0) (by decide) (by decide)).up (k := 13) (x := 0) (by decide) (by decide)
  have kz : (up1 (up1 h4 (14, 0, 0) 12 0) (14, 0, 0) 13 0).1 (14, 0, 0) 11 = 1 := by rw [up_ne _ _ (by decide), up_ne _ _ (by decide), k4]
  have z12 : (up1 (up1 h4 (14, 0, 0) 12 0) (14, 0, 0) 13 0).1 (14, 0, 0) 12 = 0 := by rw [up_ne _ _ (by decide), up_at]
  have z13 : (up1 (up1 h4 (14, 0, 0) 12 0) (14, 0, 0) 13 0).1 (14, 0, 0) 13 = 0 := up_at _ _ _
  have Gz := (G4.up (k := 12) (x := 0) (by decide) (by decide)).up (k := 13) (x := 0) (by decide) (by decide)
  generalize ez : up1 (up1 h4 (14, 0, 0) 12 0) (14, 0, 0) 13 0 = hz at Tz Pz kz z12 z13 Gz
  obtain ⟨h5, s5, F5, P5⟩ := m_sign (n + 1) 32 32 hz Tz ht Pz (by decide)
  have T5 := Tz.pf F5 (by decide)
  have P5 : PA h5 (sgl T t 32 (sgl T t 108 (sgl T t 105 (sgl T t 97 (sgl T t 102 (a, false)))))) := P5
  obtain ⟨h6, v6, s6, F6, P6, V6⟩ := m_number n 0 11 h5 T5 ht P5 (by decide) (by decide)
  have F56 := F5.tr F6
  have k6 := (F56.at (k := 11) (by decide)).trans kz
  have z6 := (F56.at (k := 13) (by decide)).trans z13
  have T6 := Tz.pf F56 (by decide)
  have G6 := Gz.tr (F56.wd (lo' := 9) (hi' := 13) (by decide) (by decide))
  have T7 := T6.up (k := 12) (x := v6) (by decide)
  have P7 := P6.up (k := 12) (x := v6) (by decide) (by decide)
  have k7 : (up1 h6 (14, 0, 0) 12 v6).1 (14, 0, 0) 11 = 1 := by rw [up_ne _ _ (by decide), k6]
  have x7 : (up1 h6 (14, 0, 0) 12 v6).1 (14, 0, 0) 12 = v6 := up_at _ _ _
  have y7 : (up1 h6 (14, 0, 0) 12 v6).1 (14, 0, 0) 13 = 0 := by rw [up_ne _ _ (by decide), z6]
  have G7 := G6.up (k := 12) (x := v6) (by decide) (by decide)
  generalize e7 : up1 h6 (14, 0, 0) 12 v6 = h7 at T7 P7 k7 x7 y7 G7
  refine ⟨h7, ?_, G7, P7, k7, fun u => by rw [x7]; exact V6 u, y7⟩
  refine dx_127 ?_
  refine Runs.go 2 rfl trivial ?_
  refine Runs.cal rfl n1 ?_
  refine Runs.go 3 rfl trivial ?_
  refine Runs.ifT rfl ?_
  refine Runs.go 3 rfl trivial ?_
  refine Runs.cal rfl s1 ?_
  refine Runs.go 3 rfl trivial ?_
  refine Runs.cal rfl n2 ?_
  refine Runs.go 4 rfl trivial ?_
  refine Runs.ifT rfl ?_
  refine Runs.go 2 rfl trivial ?_
  refine Runs.ifT rfl ?_
  refine Runs.go 4 rfl trivial ?_
  rw [ek]
  refine Runs.ifT rfl ?_
  refine Runs.go 2 rfl trivial ?_
  refine Runs.ifT rfl ?_
  refine Runs.go 3 rfl trivial ?_
  refine Runs.cal rfl s2 ?_
  refine Runs.go 4 rfl trivial ?_
  rw [k2]
  refine Runs.ifF (by decide) ?_
  refine Runs.go 4 rfl trivial ?_
  rw [k2]
  refine Runs.ifT rfl ?_
  refine Runs.go 3 rfl trivial ?_
  refine Runs.cal rfl s3 ?_
  refine Runs.go 4 rfl trivial ?_
  refine Runs.cal rfl s4 ?_
  refine Runs.go 12 rfl trivial ?_
  rw [ez, kz]
  refine Runs.ifF (by decide) ?_
  refine Runs.go 3 rfl trivial ?_
  refine Runs.cal rfl s5 ?_
  refine Runs.go 6 rfl trivial ?_
  rw [(F5.at (k := 11) (by decide)).trans kz]
  refine Runs.ifF (by decide) ?_
  refine Runs.go 3 rfl trivial ?_
  refine Runs.cal rfl s6 ?_
  refine Runs.go 4 rfl trivial ?_
  rw [e7, k7]
  refine Runs.ifF (by decide) ?_
  exact Runs.fin rfl trivial
theorem m_cmd2 (n : Nat) (h : DH) {T : Nat → Int32} {t a : Nat} (hT : RT h T t) (ht : t ≤ 80) (hq : PA h (a, false)) (hR : a < t ∧ T a = 114) (hU : a + 1 < t ∧ T (a + 1) = 117) : ∃ h', dEx (n + 4) 127 [.inr (14, 0, 0)] h (none, h') ∧ PF 9 13 h h' ∧ PA h' (nmq T t (sgl T t 32 (sgl T t 110 (sgl T t 117 (sgl T t 114 (a, false))))) 1 200).1 ∧ h'.1 (14, 0, 0) 11 = 2 ∧ ((nmq T t (sgl T t 32 (sgl T t 110 (sgl T t 117 (sgl T t 114 (a, false))))) 1 200).1.2 = false → h'.1 (14, 0, 0) 12 = nI (nmq T t (sgl T t 32 (sgl T t 110 (sgl T t 117 (sgl T t 114 (a, false))))) 1 200).2) ∧ (h'.1 (14, 0, 0) 13 = nI 0) := by
  have n1 := m_isNext (n + 2) 114 h hT ht hq
  dsimp only at n1
  rw [if_pos ⟨rfl, hR.1, hR.2⟩] at n1
  obtain ⟨h1, s1, F1, P1⟩ := m_sign (n + 1) 114 114 h hT ht hq (by decide)
  have T1 := hT.pf F1 (by decide)
  have P1 : PA h1 (sgl T t 114 (a, false)) := P1
  have n2 := m_isNext (n + 2) 117 h1 T1 ht P1
  rw [sgl_t hR] at n2
  dsimp only at n2
  rw [if_pos ⟨rfl, hU⟩] at n2
  have Tk := T1.up (k := 11) (x := 2) (by decide)
  have Pk := P1.up (k := 11) (x := 2) (by decide) (by decide)
  have kk := up_at h1 11 2
  have Fk := (F1.wd (lo' := 9) (hi' := 13) (by decide) (by decide)).up (k := 11) (x := 2) (by decide) (by decide)
  generalize ek : up1 h1 (14, 0, 0) 11 2 = hk at Tk Pk kk Fk
  obtain ⟨h2, s2, F2, P2⟩ := m_sign (n + 1) 117 117 hk Tk ht Pk (by decide)
  have T2 := Tk.pf F2 (by decide)
  have P2 : PA h2 (sgl T t 117 (sgl T t 114 (a, false))) := P2
  have k2 := (F2.at (k := 11) (by decide)).trans kk
  have G2 := Fk.tr (F2.wd (lo' := 9) (hi' := 13) (by decide) (by decide))
  obtain ⟨h3, s3, F3, P3⟩ := m_sign (n + 1) 110 110 h2 T2 ht P2 (by decide)
  have T3 := T2.pf F3 (by decide)
  have P3 : PA h3 (sgl T t 110 (sgl T t 117 (sgl T t 114 (a, false)))) := P3
  have k3 := (F3.at (k := 11) (by decide)).trans k2
  have G3 := G2.tr (F3.wd (lo' := 9) (hi' := 13) (by decide) (by decide))
  have Tz := (T3.up (k := 12) (x := 0) (by decide)).up (k := 13) (x := 0) (by decide)
  have Pz := (P3.up (k := 12) (x := 0) (by decide) (by decide)).up (k := 13) (x := 0) (by decide) (by decide)
  have kz : (up1 (up1 h3 (14, 0, 0) 12 0) (14, 0, 0) 13 0).1 (14, 0, 0) 11 = 2 := by rw [up_ne _ _ (by decide), up_ne _ _ (by decide), k3]
  have z12 : (up1 (up1 h3 (14, 0, 0) 12 0) (14, 0, 0) 13 0).1 (14, 0, 0) 12 = 0 := by rw [up_ne _ _ (by decide), up_at]
  have z13 : (up1 (up1 h3 (14, 0, 0) 12 0) (14, 0, 0) 13 0).1 (14, 0, 0) 13 = 0 := up_at _ _ _
  have Gz := (G3.up (k := 12) (x := 0) (by decide) (by decide)).up (k := 13) (x := 0) (by decide) (by decide)
  generalize ez : up1 (up1 h3 (14, 0, 0) 12 0) (14, 0, 0) 13 0 = hz at Tz Pz kz z12 z13 Gz
  obtain ⟨h5, s5, F5, P5⟩ := m_sign (n + 1) 32 32 hz Tz ht Pz (by decide)
  have T5 := Tz.pf F5 (by decide)
  have P5 : PA h5 (sgl T t 32 (sgl T t 110 (sgl T t 117 (sgl T t 114 (a, false))))) := P5
  obtain ⟨h6, v6, s6, F6, P6, V6⟩ := m_number n 1 200 h5 T5 ht P5 (by decide) (by decide)
  have F56 := F5.tr F6
  have k6 := (F56.at (k := 11) (by decide)).trans kz
  have z6 := (F56.at (k := 13) (by decide)).trans z13
  have T6 := Tz.pf F56 (by decide)
  have G6 := Gz.tr (F56.wd (lo' := 9) (hi' := 13) (by decide) (by decide))
  have T7 := T6.up (k := 12) (x := v6) (by decide)
  have P7 := P6.up (k := 12) (x := v6) (by decide) (by decide)
  have k7 : (up1 h6 (14, 0, 0) 12 v6).1 (14, 0, 0) 11 = 2 := by rw [up_ne _ _ (by decide), k6]
  have x7 : (up1 h6 (14, 0, 0) 12 v6).1 (14, 0, 0) 12 = v6 := up_at _ _ _
  have y7 : (up1 h6 (14, 0, 0) 12 v6).1 (14, 0, 0) 13 = 0 := by rw [up_ne _ _ (by decide), z6]
  have G7 := G6.up (k := 12) (x := v6) (by decide) (by decide)
  generalize e7 : up1 h6 (14, 0, 0) 12 v6 = h7 at T7 P7 k7 x7 y7 G7
  refine ⟨h7, ?_, G7, P7, k7, fun u => by rw [x7]; exact V6 u, y7⟩
  refine dx_127 ?_
  refine Runs.go 2 rfl trivial ?_
  refine Runs.cal rfl n1 ?_
  refine Runs.go 3 rfl trivial ?_
  refine Runs.ifF (by decide) ?_
  refine Runs.go 3 rfl trivial ?_
  refine Runs.cal rfl s1 ?_
  refine Runs.go 4 rfl trivial ?_
  refine Runs.cal rfl n2 ?_
  refine Runs.go 4 rfl trivial ?_
  refine Runs.ifF (by decide) ?_
  refine Runs.go 2 rfl trivial ?_
  refine Runs.ifF (by decide) ?_
  refine Runs.go 5 rfl trivial ?_
  rw [ek]
  refine Runs.ifF (by decide) ?_
  refine Runs.go 3 rfl trivial ?_
  refine Runs.cal rfl s2 ?_
  refine Runs.go 5 rfl trivial ?_
  rw [k2]
  refine Runs.ifF (by decide) ?_
  refine Runs.go 4 rfl trivial ?_
  rw [k2]
  refine Runs.ifF (by decide) ?_
  refine Runs.go 4 rfl trivial ?_
  rw [k2]
  refine Runs.ifT rfl ?_
  refine Runs.go 3 rfl trivial ?_
  refine Runs.cal rfl s3 ?_
  refine Runs.go 12 rfl trivial ?_
  rw [ez, kz]
  refine Runs.ifF (by decide) ?_
  refine Runs.go 3 rfl trivial ?_
  refine Runs.cal rfl s5 ?_
  refine Runs.go 6 rfl trivial ?_
  rw [(F5.at (k := 11) (by decide)).trans kz]
  refine Runs.ifT rfl ?_
  refine Runs.go 3 rfl trivial ?_
  refine Runs.cal rfl s6 ?_
  refine Runs.go 5 rfl trivial ?_
  rw [e7, k7]
  refine Runs.ifF (by decide) ?_
  exact Runs.fin rfl trivial
theorem m_cmd3 (n : Nat) (h : DH) {T : Nat → Int32} {t a : Nat} (hT : RT h T t) (ht : t ≤ 80) (hq : PA h (a, false)) (hR : ¬ (a < t ∧ T a = 114)) (hF : a < t ∧ T a = 102) (hU : a + 1 < t ∧ T (a + 1) = 117) : ∃ h', dEx (n + 4) 127 [.inr (14, 0, 0)] h (none, h') ∧ PF 9 13 h h' ∧ PA h' (sgl T t 101 (sgl T t 115 (sgl T t 117 (sgl T t 102 (a, false))))) ∧ h'.1 (14, 0, 0) 11 = 3 ∧ (h'.1 (14, 0, 0) 12 = nI 0) ∧ (h'.1 (14, 0, 0) 13 = nI 0) := by
  have n1 := m_isNext (n + 2) 114 h hT ht hq
  dsimp only at n1
  rw [if_neg (fun u => hR u.2)] at n1
  obtain ⟨h1, s1, F1, P1⟩ := m_sign (n + 1) 102 102 h hT ht hq (by decide)
  have T1 := hT.pf F1 (by decide)
  have P1 : PA h1 (sgl T t 102 (a, false)) := P1
  have n2 := m_isNext (n + 2) 117 h1 T1 ht P1
  rw [sgl_t hF] at n2
  dsimp only at n2
  rw [if_pos ⟨rfl, hU⟩] at n2
  have Tk := T1.up (k := 11) (x := 3) (by decide)
  have Pk := P1.up (k := 11) (x := 3) (by decide) (by decide)
  have kk := up_at h1 11 3
  have Fk := (F1.wd (lo' := 9) (hi' := 13) (by decide) (by decide)).up (k := 11) (x := 3) (by decide) (by decide)
  generalize ek : up1 h1 (14, 0, 0) 11 3 = hk at Tk Pk kk Fk
  obtain ⟨h2, s2, F2, P2⟩ := m_sign (n + 1) 117 117 hk Tk ht Pk (by decide)
  have T2 := Tk.pf F2 (by decide)
  have P2 : PA h2 (sgl T t 117 (sgl T t 102 (a, false))) := P2
  have k2 := (F2.at (k := 11) (by decide)).trans kk
  have G2 := Fk.tr (F2.wd (lo' := 9) (hi' := 13) (by decide) (by decide))
  obtain ⟨h3, s3, F3, P3⟩ := m_sign (n + 1) 115 115 h2 T2 ht P2 (by decide)
  have T3 := T2.pf F3 (by decide)
  have P3 : PA h3 (sgl T t 115 (sgl T t 117 (sgl T t 102 (a, false)))) := P3
  have k3 := (F3.at (k := 11) (by decide)).trans k2
  have G3 := G2.tr (F3.wd (lo' := 9) (hi' := 13) (by decide) (by decide))
  obtain ⟨h4, s4, F4, P4⟩ := m_sign (n + 1) 101 101 h3 T3 ht P3 (by decide)
  have T4 := T3.pf F4 (by decide)
  have P4 : PA h4 (sgl T t 101 (sgl T t 115 (sgl T t 117 (sgl T t 102 (a, false))))) := P4
  have k4 := (F4.at (k := 11) (by decide)).trans k3
  have G4 := G3.tr (F4.wd (lo' := 9) (hi' := 13) (by decide) (by decide))
  have Tz := (T4.up (k := 12) (x := 0) (by decide)).up (k := 13) (x := 0) (by decide)
  have Pz := (P4.up (k := 12) (x := 0) (by decide) (by decide)).up (k := 13) (x := 0) (by decide) (by decide)
  have kz : (up1 (up1 h4 (14, 0, 0) 12 0) (14, 0, 0) 13 0).1 (14, 0, 0) 11 = 3 := by rw [up_ne _ _ (by decide), up_ne _ _ (by decide), k4]
  have z12 : (up1 (up1 h4 (14, 0, 0) 12 0) (14, 0, 0) 13 0).1 (14, 0, 0) 12 = 0 := by rw [up_ne _ _ (by decide), up_at]
  have z13 : (up1 (up1 h4 (14, 0, 0) 12 0) (14, 0, 0) 13 0).1 (14, 0, 0) 13 = 0 := up_at _ _ _
  have Gz := (G4.up (k := 12) (x := 0) (by decide) (by decide)).up (k := 13) (x := 0) (by decide) (by decide)
  generalize ez : up1 (up1 h4 (14, 0, 0) 12 0) (14, 0, 0) 13 0 = hz at Tz Pz kz z12 z13 Gz
  refine ⟨hz, ?_, Gz, Pz, kz, z12, z13⟩
  refine dx_127 ?_
  refine Runs.go 2 rfl trivial ?_
  refine Runs.cal rfl n1 ?_
  refine Runs.go 3 rfl trivial ?_
  refine Runs.ifT rfl ?_
  refine Runs.go 3 rfl trivial ?_
  refine Runs.cal rfl s1 ?_
  refine Runs.go 3 rfl trivial ?_
  refine Runs.cal rfl n2 ?_
  refine Runs.go 4 rfl trivial ?_
  refine Runs.ifT rfl ?_
  refine Runs.go 2 rfl trivial ?_
  refine Runs.ifF (by decide) ?_
  refine Runs.go 5 rfl trivial ?_
  rw [ek]
  refine Runs.ifF (by decide) ?_
  refine Runs.go 3 rfl trivial ?_
  refine Runs.cal rfl s2 ?_
  refine Runs.go 5 rfl trivial ?_
  rw [k2]
  refine Runs.ifF (by decide) ?_
  refine Runs.go 4 rfl trivial ?_
  rw [k2]
  refine Runs.ifF (by decide) ?_
  refine Runs.go 4 rfl trivial ?_
  rw [k2]
  refine Runs.ifF (by decide) ?_
  refine Runs.go 3 rfl trivial ?_
  refine Runs.cal rfl s3 ?_
  refine Runs.go 4 rfl trivial ?_
  refine Runs.cal rfl s4 ?_
  refine Runs.go 11 rfl trivial ?_
  rw [ez, kz]
  refine Runs.ifT (by decide) ?_
  refine Runs.go 3 rfl trivial ?_
  rw [kz]
  refine Runs.ifF (by decide) ?_
  exact Runs.fin rfl trivial
/-- a command is read -/
def cmdOk (h : DH) (r : Nat × Option (Nat × Nat × Nat)) : Prop := match r with
  | (b, none) => PA h (b, true)
  | (b, some (k, x, y)) => PA h (b, false) ∧ h.1 (14, 0, 0) 11 = nI k ∧ h.1 (14, 0, 0) 12 = nI x ∧ h.1 (14, 0, 0) 13 = nI y
theorem wd_len (T : Nat → Int32) (t : Nat) : ∀ cs a, lml T t cs a ≤ cs.length := by
  intro cs
  induction cs with
  | nil => intro a; exact Nat.le_refl _
  | cons c cs ih =>
    intro a
    unfold lml
    split
    · rw [List.length_cons]; have := ih (a + 1); omega
    · exact Nat.zero_le _
theorem cmd_pure {h' : DH} (T : Nat → Int32) (t a K : Nat) (hk : kq T t a = K) (hK : K < 4) (q : Nat × Bool) (hq : q = sgs T t (wd K) (a, false))
    (h3 : K = 3 → PA h' q ∧ h'.1 (14, 0, 0) 11 = 3 ∧ h'.1 (14, 0, 0) 12 = nI 0 ∧ h'.1 (14, 0, 0) 13 = nI 0)
    (h12 : K = 1 ∨ K = 2 → PA h' (nmq T t (sgl T t 32 q) (if K = 2 then 1 else 0) (if K = 2 then 200 else 11)).1 ∧ h'.1 (14, 0, 0) 11 = nI K ∧ ((nmq T t (sgl T t 32 q) (if K = 2 then 1 else 0) (if K = 2 then 200 else 11)).1.2 = false → h'.1 (14, 0, 0) 12 = nI (nmq T t (sgl T t 32 q) (if K = 2 then 1 else 0) (if K = 2 then 200 else 11)).2) ∧ h'.1 (14, 0, 0) 13 = nI 0)
    (h0 : K = 0 → PA h' (nmq T t (sgl T t 32 (nmq T t (sgl T t 32 q) 0 11).1) 1 50).1 ∧ h'.1 (14, 0, 0) 11 = nI 0 ∧ ((nmq T t (sgl T t 32 q) 0 11).1.2 = false → h'.1 (14, 0, 0) 12 = nI (nmq T t (sgl T t 32 q) 0 11).2) ∧ ((nmq T t (sgl T t 32 (nmq T t (sgl T t 32 q) 0 11).1) 1 50).1.2 = false → h'.1 (14, 0, 0) 13 = nI (nmq T t (sgl T t 32 (nmq T t (sgl T t 32 q) 0 11).1) 1 50).2)) : cmdOk h' (cmdP T t a) := by
  rw [sgs_lml] at hq
  unfold cmdP
  rw [hk]
  by_cases z : lml T t (wd K) a < (wd K).length
  · rw [if_pos z]
    rw [decide_eq_true z] at hq
    subst hq
    show PA h' (a + lml T t (wd K) a, true)
    have hc : K = 3 ∨ (K = 1 ∨ K = 2) ∨ K = 0 := by omega
    rcases hc with c | c | c
    · exact (h3 c).1
    · have := (h12 c).1
      rw [nmq_w] at this
      exact this
    · have := (h0 c).1
      rw [nmq_w, nmq_w] at this
      exact this
  · rw [if_neg z]
    rw [decide_eq_false z] at hq
    subst hq
    generalize a + lml T t (wd K) a = b at *
    unfold argsP
    have hc : K = 3 ∨ (K = 1 ∨ K = 2) ∨ K = 0 := by omega
    rcases hc with c | c | c
    · rw [if_pos c]
      obtain ⟨p1, p2, p3, p4⟩ := h3 c
      exact ⟨p1, p2, p3, p4⟩
    · have c3 : ¬ K = 3 := by omega
      have c0 : ¬ K = 0 := by omega
      rw [if_neg c3]
      obtain ⟨p1, p2, p3, p4⟩ := h12 c
      rw [nmq_arg] at p1 p3
      generalize argP T t (if K = 2 then 1 else 0) (if K = 2 then 200 else 11) b = r at p1 p3 ⊢
      obtain ⟨e, o⟩ := r
      cases o with
      | none => exact p1
      | some x =>
        dsimp only at p1 p3 ⊢
        rw [if_neg c0]
        exact ⟨p1, p2, p3 rfl, p4⟩
    · subst c
      rw [if_neg (by decide)]
      obtain ⟨p1, p2, p3, p4⟩ := h0 rfl
      rw [nmq_arg] at p1 p3 p4
      rw [show (if 0 = 2 then 1 else 0) = 0 from rfl, show (if 0 = 2 then 200 else 11) = 11 from rfl]
      generalize argP T t 0 11 b = r at p1 p3 p4 ⊢
      obtain ⟨e, o⟩ := r
      cases o with
      | none =>
        dsimp only at p1 ⊢
        rw [nmq_w] at p1
        exact p1
      | some x =>
        dsimp only at p1 p3 p4 ⊢
        rw [if_pos rfl]
        rw [nmq_arg] at p1 p4
        generalize argP T t 1 50 e = r2 at p1 p4 ⊢
        obtain ⟨e2, o2⟩ := r2
        cases o2 with
        | none => exact p1
        | some y =>
          dsimp only at p1 p4 ⊢
          exact ⟨p1, p2, p3 rfl, p4 rfl⟩
theorem m_command (n : Nat) (h : DH) {T : Nat → Int32} {t a : Nat} (hT : RT h T t) (ht : t ≤ 80) (hq : PA h (a, false)) : ∃ h', dEx (n + 4) 127 [.inr (14, 0, 0)] h (none, h') ∧ PF 9 13 h h' ∧ cmdOk h' (cmdP T t a) := by
  by_cases hR : a < t ∧ T a = 114
  · by_cases hU : a + 1 < t ∧ T (a + 1) = 117
    · obtain ⟨h', s, F, p1, p2, p3, p4⟩ := m_cmd2 n h hT ht hq hR hU
      have hk : kq T t a = 2 := by unfold kq; rw [if_pos hR, if_pos hU]
      exact ⟨h', s, F, cmd_pure T t a 2 hk (by decide) _ rfl (fun c => absurd c (by decide)) (fun _ => ⟨p1, p2, p3, p4⟩) (fun c => absurd c (by decide))⟩
    · obtain ⟨h', s, F, p1, p2, p3, p4⟩ := m_cmd0 n h hT ht hq hR hU
      have hk : kq T t a = 0 := by unfold kq; rw [if_pos hR, if_neg hU]
      exact ⟨h', s, F, cmd_pure T t a 0 hk (by decide) _ rfl (fun c => absurd c (by decide)) (fun c => absurd c (by decide)) (fun _ => ⟨p1, p2, p3, p4⟩)⟩
  · by_cases hU : (a < t ∧ T a = 102) ∧ (a + 1 < t ∧ T (a + 1) = 117)
    · obtain ⟨h', s, F, p1, p2, p3, p4⟩ := m_cmd3 n h hT ht hq hR hU.1 hU.2
      have hk : kq T t a = 3 := by unfold kq; rw [if_neg hR, if_pos hU]
      exact ⟨h', s, F, cmd_pure T t a 3 hk (by decide) _ rfl (fun _ => ⟨p1, p2, p3, p4⟩) (fun c => absurd c (by decide)) (fun c => absurd c (by decide))⟩
    · obtain ⟨h', s, F, p1, p2, p3, p4⟩ := m_cmd1 n h hT ht hq hR hU
      have hk : kq T t a = 1 := by unfold kq; rw [if_neg hR, if_neg hU]
      exact ⟨h', s, F, cmd_pure T t a 1 hk (by decide) _ rfl (fun c => absurd c (by decide)) (fun _ => ⟨p1, p2, p3, p4⟩) (fun c => absurd c (by decide))⟩
