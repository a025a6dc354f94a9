/-! programs: what a text holds; both sides find its fault -/
def prs (T : Nat → Int32) (t : Nat) : Nat → Nat → List (Nat × Nat × Nat) × Option Nat
  | 0, a => ([], some a)
  | m + 1, a => match (cmdP T t a).2 with
    | none => ([], some (cmdP T t a).1)
    | some c => if (cmdP T t a).1 < t then (if T (cmdP T t a).1 = 59 then (c :: (prs T t m ((cmdP T t a).1 + 1)).1, (prs T t m ((cmdP T t a).1 + 1)).2) else ([c], some (cmdP T t a).1)) else ([c], none)
theorem prs_n {T : Nat → Int32} {t m a : Nat} (h : (cmdP T t a).2 = none) : prs T t (m + 1) a = ([], some (cmdP T t a).1) := by
  show (match (cmdP T t a).2 with
    | none => (([], some (cmdP T t a).1) : List (Nat × Nat × Nat) × Option Nat)
    | some c => if (cmdP T t a).1 < t then (if T (cmdP T t a).1 = 59 then (c :: (prs T t m ((cmdP T t a).1 + 1)).1, (prs T t m ((cmdP T t a).1 + 1)).2) else ([c], some (cmdP T t a).1)) else ([c], none)) = _
  rw [h]
theorem prs_s {T : Nat → Int32} {t m a : Nat} {c : Nat × Nat × Nat} (h : (cmdP T t a).2 = some c) : prs T t (m + 1) a = if (cmdP T t a).1 < t then (if T (cmdP T t a).1 = 59 then (c :: (prs T t m ((cmdP T t a).1 + 1)).1, (prs T t m ((cmdP T t a).1 + 1)).2) else ([c], some (cmdP T t a).1)) else ([c], none) := by
  show (match (cmdP T t a).2 with
    | none => (([], some (cmdP T t a).1) : List (Nat × Nat × Nat) × Option Nat)
    | some c => if (cmdP T t a).1 < t then (if T (cmdP T t a).1 = 59 then (c :: (prs T t m ((cmdP T t a).1 + 1)).1, (prs T t m ((cmdP T t a).1 + 1)).2) else ([c], some (cmdP T t a).1)) else ([c], none)) = _
  rw [h]
theorem prs_len (T : Nat → Int32) (t : Nat) : ∀ m a, (prs T t m a).1.length ≤ m := by
  intro m
  induction m with
  | zero => intro a; exact Nat.le_refl _
  | succ m ih =>
    intro a
    cases hc : (cmdP T t a).2 with
    | none => rw [prs_n hc]; exact Nat.zero_le _
    | some c =>
      rw [prs_s hc]
      split
      · split
        · have := ih ((cmdP T t a).1 + 1)
          show _ + 1 ≤ m + 1
          omega
        · show 1 ≤ m + 1; omega
      · show 1 ≤ m + 1; omega
theorem prs_V {T : Nat → Int32} {t : Nat} : ∀ m a, a ≤ t → ∀ c ∈ (prs T t m a).1, cmdV c := by
  intro m
  induction m with
  | zero => intro a _ c h; cases h
  | succ m ih =>
    intro a ha c h
    have hl := cmdP_le (T := T) ha
    cases hc : (cmdP T t a).2 with
    | none => rw [prs_n hc] at h; cases h
    | some c' =>
      rw [prs_s hc] at h
      have hv := (hl.2.2 c' hc).2
      by_cases z : (cmdP T t a).1 < t
      · rw [if_pos z] at h
        by_cases z2 : T (cmdP T t a).1 = 59
        · rw [if_pos z2] at h
          rcases List.mem_cons.mp h with h | h
          · rw [h]; exact hv
          · exact ih _ (by omega) c h
        · rw [if_neg z2] at h
          rw [List.mem_singleton.mp h]; exact hv
      · rw [if_neg z] at h
        rw [List.mem_singleton.mp h]; exact hv
theorem prs_ne {T : Nat → Int32} {t m a : Nat} (h : (prs T t m a).2 = none) : (prs T t m a).1 ≠ [] := by
  cases m with
  | zero => cases h
  | succ m =>
    cases hc : (cmdP T t a).2 with
    | none => rw [prs_n hc] at h; cases h
    | some c =>
      rw [prs_s hc] at h ⊢
      split
      · split
        · simp
        · simp
      · simp
theorem entry.cf {h h' : DH} {p q : Nat} {c : Nat × Nat × Nat} (e : entry h q c) (F : CF p h h') (hq : q < p) : entry h' q c := by
  obtain ⟨f1, f2, f3⟩ := F.2.2.1 q hq
  unfold entry
  rw [f1, f2, f3]
  exact e
theorem c_findL (n : Nat) {T : Nat → Int32} {t : Nat} (ht : t ≤ 80) : ∀ (m p a : Nat) (h : DH), p + m = 16 → CT h T t a → a ≤ t → h.1 (9, 0, 0) 5 = nI p → ∃ h', Runs dT_47 (dEx (n + 7)) (12, [some (.inr (9, 0, 0)), some (.inl (nI p))], [], h) (some (.inl (oI (-1) (prs T t m a).2)), h') ∧ CF p h h' ∧ ((prs T t m a).2 = none → h'.1 (9, 0, 0) 5 = nI (p + (prs T t m a).1.length)) ∧ ∀ j c, (prs T t m a).1[j]? = some c → entry h' (p + j) c := by
  intro m
  induction m with
  | zero =>
    intro p a h hp hc ha h5
    refine ⟨h, ?_, CF.rf, fun e => (by cases e), fun j c e => (by cases e)⟩
    refine Runs.go 3 rfl trivial ?_
    refine Runs.ifT (show (16 : Int32) ≤ nI p by rw [show p = 16 by omega]; decide) ?_
    refine Runs.go 2 rfl trivial ?_
    rw [hc.2.2.1]
    exact Runs.fin rfl trivial
  | succ m ih =>
    intro p a h hp hc ha h5
    obtain ⟨h1, b, hr, F1, g5, ok6, ok⟩ := c_takeCmd n p h hc ht ha (by omega)
    have hl := cmdP_le (T := T) ha
    have e1 : h1.1 (9, 0, 0) 1 = nI t := (F1.2.1 1 (by decide) (by decide)).trans hc.1
    have e10 : ∀ k, k < t → h1.1 (10, 0, 0) k = T k := fun k hk => by rw [F1.1 _ (by simp) (by simp) (by simp) (by simp)]; exact hc.2.1 k hk
    cases hq : (cmdP T t a).2 with
    | none =>
      rw [prs_n hq]
      rw [hq] at ok
      have ok : b = 0 := ok
      subst ok
      refine ⟨h1, ?_, F1, fun e => (by cases e), fun j c e => (by cases e)⟩
      refine Runs.go 3 rfl trivial ?_
      refine Runs.ifF (i_ge (show p < 16 by omega) (by decide)) ?_
      refine Runs.go 2 rfl trivial ?_
      refine Runs.cal rfl hr ?_
      refine Runs.go 1 rfl trivial ?_
      refine Runs.ifT rfl ?_
      refine Runs.go 2 rfl trivial ?_
      rw [ok6]
      exact Runs.fin rfl trivial
    | some c =>
      rw [prs_s hq]
      rw [hq] at ok
      obtain ⟨ok, oe⟩ : b = 1 ∧ entry h1 p c := ok
      subst ok
      have hl2 := hl.2.1
      generalize hb : (cmdP T t a).1 = b at *
      have F2 : CF p h (up1 h1 (9, 0, 0) 5 (nI (p + 1))) := F1.at6 (Or.inl rfl)
      have oe2 : entry (up1 h1 (9, 0, 0) 5 (nI (p + 1))) p c := by
        unfold entry
        rw [up1_ne _ _ _ (by simp), up1_ne _ _ _ (by simp), up1_ne _ _ _ (by simp)]
        exact oe
      have a5 : (up1 h1 (9, 0, 0) 5 (nI (p + 1))).1 (9, 0, 0) 5 = nI (p + 1) := up_k _ _ _ _
      have a6 : (up1 h1 (9, 0, 0) 5 (nI (p + 1))).1 (9, 0, 0) 6 = nI b := by rw [up1_1, if_neg (fun t => absurd t.2 (by decide))]; exact ok6
      have a1 : (up1 h1 (9, 0, 0) 5 (nI (p + 1))).1 (9, 0, 0) 1 = nI t := by rw [up1_1, if_neg (fun t => absurd t.2 (by decide))]; exact e1
      have a10 : ∀ k, k < t → (up1 h1 (9, 0, 0) 5 (nI (p + 1))).1 (10, 0, 0) k = T k := fun k hk => by rw [up1_ne _ _ _ (by simp)]; exact e10 k hk
      have c2 : CT (up1 h1 (9, 0, 0) 5 (nI (p + 1))) T t b := ⟨a1, a10, a6, by omega⟩
      have run : ∀ r, Runs dT_47 (dEx (n + 7)) ((if (nI b : Int32) < nI t then 54 else 52), [some (.inr (9, 0, 0)), some (.inl (nI p))], [], up1 h1 (9, 0, 0) 5 (nI (p + 1))) r → Runs dT_47 (dEx (n + 7)) (12, [some (.inr (9, 0, 0)), some (.inl (nI p))], [], h) r := by
        intro r hrr
        refine Runs.go 3 rfl trivial ?_
        refine Runs.ifF (i_ge (show p < 16 by omega) (by decide)) ?_
        refine Runs.go 2 rfl trivial ?_
        refine Runs.cal rfl hr ?_
        refine Runs.go 1 rfl trivial ?_
        refine Runs.ifF (by decide) ?_
        refine Runs.go 11 rfl trivial ?_
        rw [g5, h5, nI_1, a6, a1]
        exact hrr
      generalize up1 h1 (9, 0, 0) 5 (nI (p + 1)) = h2 at F2 oe2 a5 a6 a1 a10 c2 run
      by_cases z : b < t
      · rw [if_pos z]
        by_cases z2 : T b = 59
        · rw [if_pos z2]
          have ht3 := (c_take (n + 5) 59 h2 c2 ht).1 ⟨z, z2⟩
          have c3 := c2.at (b := b + 1) (by omega)
          have F3 := F2.at6 (k := 6) (Or.inr rfl) (x := nI (b + 1))
          have oe3 : entry (up1 h2 (9, 0, 0) 6 (nI (b + 1))) p c := by
            unfold entry
            rw [up1_ne _ _ _ (by simp), up1_ne _ _ _ (by simp), up1_ne _ _ _ (by simp)]
            exact oe2
          have g35 : (up1 h2 (9, 0, 0) 6 (nI (b + 1))).1 (9, 0, 0) 5 = nI (p + 1) := by rw [up1_1, if_neg (fun t => absurd t.2 (by decide))]; exact a5
          obtain ⟨h4, k1, k2, k3, k4⟩ := ih (p + 1) (b + 1) (up1 h2 (9, 0, 0) 6 (nI (b + 1))) (by omega) c3 (by omega) g35
          refine ⟨h4, run _ ?_, F3.tr (k2.dn (by omega)), fun e => by rw [k3 e]; exact congrArg nI (by rw [List.length_cons]; omega), fun j c' e => ?_⟩
          · refine Runs.ifT (nI_lt z (by omega)) ?_
            refine Runs.go 2 rfl trivial ?_
            refine Runs.cal rfl ht3 ?_
            refine Runs.go 1 rfl trivial ?_
            refine Runs.ifF (by decide) ?_
            refine Runs.go 2 rfl trivial ?_
            rw [nI_1]
            exact k1
          · cases j with
            | zero =>
              cases e
              exact oe3.cf k2 (by omega)
            | succ j =>
              have := k4 j c' e
              rw [show p + 1 + j = p + (j + 1) by omega] at this
              exact this
        · rw [if_neg z2]
          have ht3 := (c_take (n + 5) 59 h2 c2 ht).2 (fun u => z2 u.2)
          refine ⟨h2, run _ ?_, F2, fun e => (by cases e), fun j c' e => ?_⟩
          · refine Runs.ifT (nI_lt z (by omega)) ?_
            refine Runs.go 2 rfl trivial ?_
            refine Runs.cal rfl ht3 ?_
            refine Runs.go 1 rfl trivial ?_
            refine Runs.ifT rfl ?_
            refine Runs.go 2 rfl trivial ?_
            rw [a6]
            exact Runs.fin rfl trivial
          · cases j with
            | zero => cases e; exact oe2
            | succ j => cases e
      · rw [if_neg z]
        refine ⟨h2, run _ ?_, F2, fun _ => a5, fun j c' e => ?_⟩
        · refine Runs.ifF (nI_nlt (by omega) (by omega)) ?_
          refine Runs.go 1 rfl trivial ?_
          exact Runs.fin rfl trivial
        · cases j with
          | zero => cases e; exact oe2
          | succ j => cases e
theorem c_find (n : Nat) (h : DH) {T : Nat → Int32} {t : Nat} (ht : t ≤ 80) (h1 : h.1 (9, 0, 0) 1 = nI t) (h2 : ∀ k, k < t → h.1 (10, 0, 0) k = T k) : ∃ h', dEx (n + 8) 47 [.inr (9, 0, 0)] h (some (.inl (oI (-1) (prs T t 16 0).2)), h') ∧ CF 0 h h' ∧ ((prs T t 16 0).2 = none → h'.1 (9, 0, 0) 5 = nI (prs T t 16 0).1.length) ∧ ∀ j c, (prs T t 16 0).1[j]? = some c → entry h' j c := by
  have c0 : CT (up1 (up1 h (9, 0, 0) 6 0) (9, 0, 0) 5 0) T t 0 := ⟨by rw [up1_1, if_neg (fun t => absurd t.2 (by decide)), up1_1, if_neg (fun t => absurd t.2 (by decide))]; exact h1, fun k hk => by rw [up1_ne _ _ _ (by simp), up1_ne _ _ _ (by simp)]; exact h2 k hk, by rw [up1_1, if_neg (fun t => absurd t.2 (by decide)), up_k]; rfl, Nat.zero_le _⟩
  obtain ⟨h', k1, k2, k3, k4⟩ := c_findL n (T := T) ht 16 0 0 _ rfl c0 (Nat.zero_le _) (up_k _ _ _ _)
  refine ⟨h', ?_, ((CF.rf.at6 (Or.inr rfl)).at6 (Or.inl rfl)).tr k2, fun e => by rw [k3 e, Nat.zero_add], fun j c e => by have := k4 j c e; rw [Nat.zero_add] at this; exact this⟩
  refine dx_47 ?_
  refine Runs.go 8 rfl trivial ?_
  exact k1
/-- the reference goes through the text -/
theorem cmdP_end {T : Nat → Int32} {t a : Nat} (h : t ≤ a) : cmdP T t a = (a, none) := by
  have nl : ∀ cs : List Int32, lml T t cs a = 0 := fun cs => by
    cases cs with
    | nil => rfl
    | cons c cs => exact if_neg (fun u => by omega)
  have wl : ∀ k, 0 < (wd k).length := fun k => by
    unfold wd
    split <;> decide
  unfold cmdP
  rw [nl, if_pos (wl _)]
  rfl
theorem m_goW (n : Nat) (h h1 : DH) {many : Nat} {x4 : Option DV} {b : Nat} {rc : Prop} (hr : dEx (n + 4) 127 [.inr (14, 0, 0)] h (none, h1)) (hq : PA h1 (b, true)) : Runs dT_126 (dEx (n + 4)) (19, [some (.inr (14, 0, 0)), some (.inl 0), some (.inl (nI many)), some (.inl 1), x4], [], h) (some (.inl (nI (many + 1))), up1 h1 (14, 0, 0) 14 0) := by
  have h10 : (up1 h1 (14, 0, 0) 14 0).1 (14, 0, 0) 10 = 1 := by rw [up_ne _ _ (by decide)]; exact hq.2.1
  refine Runs.go 2 rfl trivial ?_
  refine Runs.ifF (by decide) ?_
  refine Runs.go 1 rfl trivial ?_
  refine Runs.calv rfl hr ?_
  refine Runs.go 3 rfl trivial ?_
  refine Runs.ifT rfl ?_
  refine Runs.go 6 rfl trivial ?_
  rw [h10, nI_1]
  refine Runs.ifF (by decide) ?_
  refine Runs.go 4 rfl trivial ?_
  refine Runs.ifT rfl ?_
  refine Runs.go 2 rfl trivial ?_
  refine Runs.ifT rfl ?_
  refine Runs.go 1 rfl trivial ?_
  exact Runs.fin rfl trivial
theorem m_goF (n : Nat) {T : Nat → Int32} {t : Nat} (ht : t ≤ 80) : ∀ (m a many : Nat) (h : DH) (x4 : Option DV), 80 ≤ a + 5 * m → RT h T t → PA h (a, false) → a ≤ t → ∃ (h' : DH) (v : Int32), Runs dT_126 (dEx (n + 4)) (19, [some (.inr (14, 0, 0)), some (.inl 0), some (.inl (nI many)), some (.inl 1), x4], [], h) (some (.inl v), h') ∧ PF 9 14 h h' ∧ (match (prs T t m a).2 with
    | none => h'.1 (14, 0, 0) 10 = 0
    | some e => h'.1 (14, 0, 0) 10 = 1 ∧ h'.1 (14, 0, 0) 9 = nI e) := by
  have base : ∀ (a many : Nat) (h : DH) (x4 : Option DV) (b : Nat), RT h T t → PA h (a, false) → cmdP T t a = (b, none) → ∃ (h' : DH) (v : Int32), Runs dT_126 (dEx (n + 4)) (19, [some (.inr (14, 0, 0)), some (.inl 0), some (.inl (nI many)), some (.inl 1), x4], [], h) (some (.inl v), h') ∧ PF 9 14 h h' ∧ h'.1 (14, 0, 0) 10 = 1 ∧ h'.1 (14, 0, 0) 9 = nI b := by
    intro a many h x4 b hT hq e
    obtain ⟨h1, hr, F, ok⟩ := m_command n h hT ht hq
    rw [e] at ok
    have ok : PA h1 (b, true) := ok
    exact ⟨up1 h1 (14, 0, 0) 14 0, _, m_goW n h h1 (rc := True) hr ok, (F.wd (by decide) (by decide)).up (by decide) (by decide), by rw [up_ne _ _ (by decide)]; exact ok.2.1, by rw [up_ne _ _ (by decide)]; exact ok.1⟩
  intro m
  induction m with
  | zero =>
    intro a many h x4 h5 hT hq ha
    have e : cmdP T t a = (a, none) := cmdP_end (by omega)
    exact base a many h x4 a hT hq e
  | succ m ih =>
    intro a many h x4 h5 hT hq ha
    have hl := cmdP_le (T := T) ha
    cases hc : (cmdP T t a).2 with
    | none =>
      rw [prs_n hc]
      exact base a many h x4 _ hT hq (Prod.ext rfl hc)
    | some c =>
      obtain ⟨hb4, _⟩ := hl.2.2 c hc
      have hbt := hl.2.1
      rw [prs_s hc]
      obtain ⟨h1, hr, F, ok⟩ := m_command n h hT ht hq
      have eP : cmdP T t a = ((cmdP T t a).1, some c) := Prod.ext rfl hc
      rw [eP] at ok
      generalize (cmdP T t a).1 = b at *
      obtain ⟨k, x, y⟩ := c
      have okP : PA h1 (b, false) := ok.1
      have T2 : RT (up1 h1 (14, 0, 0) 14 0) T t := (hT.pf F (by decide)).up (by decide)
      have P2 : PA (up1 h1 (14, 0, 0) 14 0) (b, false) := okP.up (by decide) (by decide)
      have F2 : PF 9 14 h (up1 h1 (14, 0, 0) 14 0) := (F.wd (by decide) (by decide)).up (by decide) (by decide)
      have f14 := up_at h1 14 0
      have run : ∀ r, Runs dT_126 (dEx (n + 4)) ((if (nI t : Int32) ≤ nI b then 75 else 71), [some (.inr (14, 0, 0)), some (.inl 0), some (.inl (nI (many + 1))), some (.inl 1), x4], [], up1 h1 (14, 0, 0) 14 0) r → Runs dT_126 (dEx (n + 4)) (19, [some (.inr (14, 0, 0)), some (.inl 0), some (.inl (nI many)), some (.inl 1), x4], [], h) r := by
        intro r hrr
        have h10 := P2.2.1
        have h9 := P2.1
        have h7 := T2.1
        refine Runs.go 2 rfl trivial ?_
        refine Runs.ifF (by decide) ?_
        refine Runs.go 1 rfl trivial ?_
        refine Runs.calv rfl hr ?_
        refine Runs.go 3 rfl trivial ?_
        refine Runs.ifT rfl ?_
        refine Runs.go 6 rfl trivial ?_
        rw [h10, nI_1]
        refine Runs.ifT rfl ?_
        refine Runs.go 3 rfl trivial ?_
        rw [f14]
        refine Runs.ifT rfl ?_
        refine Runs.go 5 rfl trivial ?_
        rw [h9, h7]
        exact hrr
      generalize up1 h1 (14, 0, 0) 14 0 = h2 at T2 P2 F2 f14 run
      by_cases z : b < t
      · rw [if_pos z]
        obtain ⟨h3, s3, F3, P3⟩ := m_sign (n + 2) 59 59 h2 T2 ht P2 (by decide)
        have P3 : PA h3 (sgl T t 59 (b, false)) := P3
        by_cases z2 : T b = 59
        · rw [if_pos z2]
          rw [sgl_t ⟨z, z2⟩] at P3
          obtain ⟨h4, v, k1, k2, k3⟩ := ih (b + 1) (many + 1) h3 (some (.inl (if b < t then T b else 0))) (by omega) (T2.pf F3 (by decide)) P3 (by omega)
          refine ⟨h4, v, run _ ?_, (F2.tr (F3.wd (by decide) (by decide))).tr k2, k3⟩
          refine Runs.ifF (nI_ge z (by omega)) ?_
          refine Runs.go 5 rfl trivial ?_
          refine Runs.ifF (by decide) ?_
          refine Runs.go 3 rfl trivial ?_
          refine Runs.cal rfl s3 ?_
          refine Runs.go 4 rfl trivial ?_
          rw [P3.2.1]
          refine Runs.ifT rfl ?_
          refine Runs.go 4 rfl trivial ?_
          exact k1
        · rw [if_neg z2]
          rw [sgl_f (fun u => z2 u.2)] at P3
          refine ⟨h3, nI (many + 1), run _ ?_, F2.tr (F3.wd (by decide) (by decide)), P3.2.1, P3.1⟩
          refine Runs.ifF (nI_ge z (by omega)) ?_
          refine Runs.go 5 rfl trivial ?_
          refine Runs.ifF (by decide) ?_
          refine Runs.go 3 rfl trivial ?_
          refine Runs.cal rfl s3 ?_
          refine Runs.go 4 rfl trivial ?_
          rw [P3.2.1]
          refine Runs.ifF (show ¬ (1 : Int32) = 0 by decide) ?_
          refine Runs.go 3 rfl trivial ?_
          refine Runs.go 2 rfl trivial ?_
          refine Runs.ifT rfl ?_
          refine Runs.go 1 rfl trivial ?_
          exact Runs.fin rfl trivial
      · rw [if_neg z]
        refine ⟨h2, nI (many + 1), run _ ?_, F2, P2.2.1⟩
        refine Runs.ifT (Int32.not_lt.mp (nI_nlt (by omega) (by omega))) ?_
        refine Runs.go 4 rfl trivial ?_
        refine Runs.ifT rfl ?_
        refine Runs.go 2 rfl trivial ?_
        refine Runs.ifT rfl ?_
        refine Runs.go 1 rfl trivial ?_
        exact Runs.fin rfl trivial
