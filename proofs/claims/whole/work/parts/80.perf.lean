/-! perform, on both sides -/
def exM : List (Nat × Nat × Nat) → (Nat → Int32) × (Nat → Int32) → Int32 × ((Nat → Int32) × (Nat → Int32))
  | [], p => (0, p)
  | c :: cs, p => if (doM c p).1 = 0 then exM cs (doM c p).2 else doM c p
theorem exM_app : ∀ (l l' : List (Nat × Nat × Nat)) (p : (Nat → Int32) × (Nat → Int32)), exM (l ++ l') p = if (exM l p).1 = 0 then exM l' (exM l p).2 else exM l p := by
  intro l
  induction l with
  | nil => intro l' p; exact (if_pos rfl).symm
  | cons c l ih =>
    intro l' p
    show (if (doM c p).1 = 0 then exM (l ++ l') (doM c p).2 else doM c p) = _
    by_cases z : (doM c p).1 = 0
    · rw [if_pos z, ih, show exM (c :: l) p = exM l (doM c p).2 from if_pos z]
    · rw [if_neg z, show exM (c :: l) p = doM c p from if_neg z, if_neg z]
theorem exM_one (c : Nat × Nat × Nat) (p : (Nat → Int32) × (Nat → Int32)) : exM [c] p = doM c p := by
  show (if (doM c p).1 = 0 then ((0 : Int32), (doM c p).2) else doM c p) = _
  by_cases z : (doM c p).1 = 0
  · rw [if_pos z, ← z]
  · rw [if_neg z]
theorem doM_ok {c : Nat × Nat × Nat} {s f : Nat → Int32} (hv : cmdV c) (hk : okC s) : okC (doM c (s, f)).2.1 := by
  obtain ⟨k, x, y⟩ := c
  unfold doM
  dsimp only
  rcases hv with ⟨v0, v1, v2, v3⟩ | ⟨v0, v1⟩ | ⟨v0, v1, v2⟩ | v0
  · dsimp only at v0 v1
    rw [if_pos v0]
    by_cases z1 : s (oD x 0) = 3
    · rw [if_pos z1]; exact hk
    · rw [if_neg z1]
      by_cases z2 : cc s = 30 ∨ s 12 = 500
      · rw [if_pos z2]; exact hk
      · rw [if_neg z2]
        have := hk.cc.2
        refine ⟨cc s + 1, ?_, ?_⟩
        · have : cc s ≠ 30 := fun t => z2 (Or.inl t)
          omega
        · show mask s (cc s) x (nI y) 93 = _
          unfold mask
          rw [upd_n _ _ (by decide), upd_s]
  · dsimp only at v0 v1
    subst v0
    rw [if_neg (by decide), if_pos rfl]
    by_cases z1 : s (oD x 0) = 3
    · rw [if_pos z1]; exact hk
    · rw [if_neg z1]
      by_cases z2 : s (oD x 4) = 1
      · rw [if_pos z2]; exact hk
      · rw [if_neg z2]
        exact hk.of (upd_n _ _ (oD_93 x 4 v1 (by decide)))
  · dsimp only at v0
    subst v0
    rw [if_neg (by decide), if_neg (by decide), if_pos rfl]
    by_cases z1 : s 10 + nI x ≤ 99999
    · rw [if_pos z1]; exact rk_ok hk x
    · rw [if_neg z1]; exact hk
  · dsimp only at v0
    subst v0
    rw [if_neg (by decide), if_neg (by decide), if_neg (by decide)]
    by_cases z1 : s 15 = 1
    · rw [if_pos z1]
      refine hk.of ?_
      show nf s 93 = s 93
      unfold nf
      rw [upd_n _ _ (by decide), upd_n _ _ (by decide)]
    · rw [if_neg z1]; exact hk
/-- all but what the reference's row, its flags and its reading of the text are -/
def PG (h h' : DH) : Prop := (∀ κ : DKey, κ ≠ (14, 0, 0) → κ ≠ (15, 0, 0) → κ ≠ (20, 0, 0) → h'.1 κ = h.1 κ) ∧ (∀ k, k < 9 → h'.1 (14, 0, 0) k = h.1 (14, 0, 0) k) ∧ h'.2 = h.2
theorem PG.tr {h h' h'' : DH} (a : PG h h') (b : PG h' h'') : PG h h'' := ⟨fun κ h1 h2 h3 => (b.1 κ h1 h2 h3).trans (a.1 κ h1 h2 h3), fun k hk => (b.2.1 k hk).trans (a.2.1 k hk), b.2.2.trans a.2.2⟩
theorem PF.pg {lo hi : Nat} {h h' : DH} (a : PF lo hi h h') (hl : 9 ≤ lo) : PG h h' := ⟨fun κ h1 _ _ => a.1 κ h1, fun k hk => a.2.1 k (by omega), a.2.2⟩
theorem hp_pg (h : DH) (s f : Nat → Int32) : PG h (hp h s f) := ⟨fun κ _ h2 h3 => hp_1 h s f h2 h3, fun k _ => hp_14 h s f k, rfl⟩
theorem RT.pg {h h' : DH} {T : Nat → Int32} {t : Nat} (a : RT h T t) (F : PG h h') : RT h' T t := ⟨(F.2.1 7 (by decide)).trans a.1, (F.1 _ (by simp) (by simp) (by simp)).trans a.2⟩
theorem m_goT (n : Nat) {T : Nat → Int32} {t : Nat} (ht : t ≤ 80) : ∀ (m a many : Nat) (h : DH) (s f : Nat → Int32) (x4 : Option DV), RT h T t → PA h (a, false) → a ≤ t → okC s → h.1 (15, 0, 0) = s → h.1 (20, 0, 0) = f → (prs T t m a).2 = none → ∃ (h' : DH) (v : Int32), Runs dT_126 (dEx (n + 8)) (19, [some (.inr (14, 0, 0)), some (.inl 1), some (.inl (nI many)), some (.inl 1), x4], [], h) (some (.inl v), h') ∧ PG h h' ∧ h'.1 (15, 0, 0) = (exM (prs T t m a).1 (s, f)).2.1 ∧ h'.1 (20, 0, 0) = (exM (prs T t m a).1 (s, f)).2.2 ∧ h'.1 (14, 0, 0) 14 = (exM (prs T t m a).1 (s, f)).1 ∧ ((exM (prs T t m a).1 (s, f)).1 = 0 → v = nI (many + (prs T t m a).1.length)) := by
  intro m
  induction m with
  | zero => intro a many h s f x4 _ _ _ _ _ _ e; cases e
  | succ m ih =>
    intro a many h s f x4 hT hq ha hk h15 h20 hn
    have hl := cmdP_le (T := T) ha
    cases hc : (cmdP T t a).2 with
    | none => rw [prs_n hc] at hn; cases hn
    | some c =>
      obtain ⟨hb4, hv⟩ := hl.2.2 c hc
      have hbt := hl.2.1
      rw [prs_s hc] at hn ⊢
      obtain ⟨h1, hr, F, ok⟩ := m_command (n + 4) h hT ht hq
      have eP : cmdP T t a = ((cmdP T t a).1, some c) := Prod.ext rfl hc
      rw [eP] at ok
      generalize (cmdP T t a).1 = b at *
      obtain ⟨okP, o11, o12, o13⟩ : PA h1 (b, false) ∧ h1.1 (14, 0, 0) 11 = nI c.1 ∧ h1.1 (14, 0, 0) 12 = nI c.2.1 ∧ h1.1 (14, 0, 0) 13 = nI c.2.2 := ok
      have hd := m_does n c h1 s f hv hk o11 o12 o13
      rw [hp_eq h1 ((F.1 _ (by simp)).trans h15) ((F.1 _ (by simp)).trans h20)] at hd
      have hk2 := doM_ok (f := f) hv hk
      have one := exM_one c (s, f)
      have cons := fun cs => show exM (c :: cs) (s, f) = (if (doM c (s, f)).1 = 0 then exM cs (doM c (s, f)).2 else doM c (s, f)) from rfl
      generalize doM c (s, f) = p at hd hk2 one cons
      obtain ⟨w, s1, f1⟩ := p
      dsimp only at hd hk2 one cons
      have G1 : PG h (hp h1 s1 f1) := (F.pg (by decide)).tr (hp_pg _ _ _)
      have G2 : PG h (up1 (hp h1 s1 f1) (14, 0, 0) 14 w) := ⟨fun κ q1 q2 q3 => (up1_ne _ _ _ q1).trans (G1.1 κ q1 q2 q3), fun k hk => (up_ne _ _ (by omega)).trans (G1.2.1 k hk), G1.2.2⟩
      have T2 := hT.pg G2
      have P2 : PA (up1 (hp h1 s1 f1) (14, 0, 0) 14 w) (b, false) := ⟨by rw [up_ne _ _ (by decide), hp_14]; exact okP.1, by rw [up_ne _ _ (by decide), hp_14]; exact okP.2.1, okP.2.2⟩
      have s15 : (up1 (hp h1 s1 f1) (14, 0, 0) 14 w).1 (15, 0, 0) = s1 := by rw [up1_ne _ _ _ (by simp), hp_s]
      have s20 : (up1 (hp h1 s1 f1) (14, 0, 0) 14 w).1 (20, 0, 0) = f1 := by rw [up1_ne _ _ _ (by simp), hp_f]
      have s14 := up_at (hp h1 s1 f1) 14 w
      have run : ∀ r, Runs dT_126 (dEx (n + 8)) ((if w = 0 then 60 else 75), [some (.inr (14, 0, 0)), some (.inl 1), some (.inl (nI (many + 1))), some (.inl 1), x4], [], up1 (hp h1 s1 f1) (14, 0, 0) 14 w) r → Runs dT_126 (dEx (n + 8)) (19, [some (.inr (14, 0, 0)), some (.inl 1), some (.inl (nI many)), some (.inl 1), x4], [], h) r := by
        intro r hrr
        have h10 := P2.2.1
        refine Runs.go 2 rfl trivial ?_
        refine Runs.ifF (by decide) ?_
        refine Runs.go 1 rfl trivial ?_
        refine Runs.calv rfl hr ?_
        refine Runs.go 3 rfl trivial ?_
        refine Runs.ifF (by decide) ?_
        refine Runs.go 1 rfl trivial ?_
        refine Runs.cal rfl hd ?_
        refine Runs.go 6 rfl trivial ?_
        rw [h10, nI_1]
        refine Runs.ifT rfl ?_
        refine Runs.go 3 rfl trivial ?_
        rw [s14]
        exact hrr
      generalize up1 (hp h1 s1 f1) (14, 0, 0) 14 w = h2 at G2 T2 P2 s15 s20 s14 run
      have stop : Runs dT_126 (dEx (n + 8)) (75, [some (.inr (14, 0, 0)), some (.inl 1), some (.inl (nI (many + 1))), some (.inl 1), x4], [], h2) (some (.inl (nI (many + 1))), h2) := by
        refine Runs.go 4 rfl trivial ?_
        refine Runs.ifT rfl ?_
        refine Runs.go 2 rfl trivial ?_
        refine Runs.ifT rfl ?_
        refine Runs.go 1 rfl trivial ?_
        exact Runs.fin rfl trivial
      by_cases zw : w = 0
      · rw [if_pos zw] at run
        by_cases z : b < t
        · rw [if_pos z] at hn ⊢
          by_cases z2 : T b = 59
          · rw [if_pos z2] at hn ⊢
            dsimp only at hn ⊢
            obtain ⟨h3, s3, F3, P3⟩ := m_sign (n + 6) 59 59 h2 T2 ht P2 (by decide)
            have P3 : PA h3 (sgl T t 59 (b, false)) := P3
            rw [sgl_t ⟨z, z2⟩] at P3
            obtain ⟨h4, v, k1, k2, k3, k4, k5, k6⟩ := ih (b + 1) (many + 1) h3 s1 f1 (some (.inl (if b < t then T b else 0))) (T2.pf F3 (by decide)) P3 (by omega) hk2 ((F3.1 _ (by simp)).trans s15) ((F3.1 _ (by simp)).trans s20) hn
            rw [cons, if_pos zw]
            refine ⟨h4, v, run _ ?_, (G2.tr (F3.pg (by decide))).tr k2, k3, k4, k5, fun e => by rw [k6 e, List.length_cons]; exact congrArg nI (by omega)⟩
            have h9 := P2.1
            have h7 := T2.1
            refine Runs.go 5 rfl trivial ?_
            rw [h9, h7]
            refine Runs.ifF (nI_ge z (by omega)) ?_
            refine Runs.go 5 rfl trivial ?_
            refine Runs.ifF (by decide) ?_
            refine Runs.go 3 rfl trivial ?_
            refine Runs.cal rfl s3 ?_
            refine Runs.go 4 rfl trivial ?_
            rw [P3.2.1]
            refine Runs.ifT rfl ?_
            refine Runs.go 4 rfl trivial ?_
            exact k1
          · rw [if_neg z2] at hn
            cases hn
        · rw [if_neg z] at hn ⊢
          dsimp only
          rw [one]
          refine ⟨h2, nI (many + 1), run _ ?_, G2, s15, s20, s14, fun _ => rfl⟩
          have h9 := P2.1
          have h7 := T2.1
          refine Runs.go 5 rfl trivial ?_
          rw [h9, h7]
          refine Runs.ifT (Int32.not_lt.mp (nI_nlt (by omega) (by omega))) ?_
          exact stop
      · rw [if_neg zw] at run
        have e : ∀ cs, exM (c :: cs) (s, f) = (w, s1, f1) := fun cs => by rw [cons, if_neg zw]
        have fin : ∀ cs, ∃ (h' : DH) (v : Int32), Runs dT_126 (dEx (n + 8)) (19, [some (.inr (14, 0, 0)), some (.inl 1), some (.inl (nI many)), some (.inl 1), x4], [], h) (some (.inl v), h') ∧ PG h h' ∧ h'.1 (15, 0, 0) = (exM (c :: cs) (s, f)).2.1 ∧ h'.1 (20, 0, 0) = (exM (c :: cs) (s, f)).2.2 ∧ h'.1 (14, 0, 0) 14 = (exM (c :: cs) (s, f)).1 ∧ ((exM (c :: cs) (s, f)).1 = 0 → v = nI (many + (c :: cs).length)) := fun cs => by
          rw [e]
          exact ⟨h2, nI (many + 1), run _ stop, G2, s15, s20, s14, fun u => absurd u zw⟩
        by_cases z : b < t
        · rw [if_pos z] at hn ⊢
          by_cases z2 : T b = 59
          · rw [if_pos z2] at hn ⊢
            exact fin _
          · rw [if_neg z2] at hn
            cases hn
        · rw [if_neg z] at hn ⊢
          exact fin []
def goH (h : DH) : DH := up1 (up1 (up1 h (14, 0, 0) 9 0) (14, 0, 0) 10 0) (14, 0, 0) 14 0
theorem goH_F (h : DH) : PF 9 14 h (goH h) ∧ PA (goH h) (0, false) := ⟨((PF.rf.up (by decide) (by decide)).up (by decide) (by decide)).up (by decide) (by decide), by unfold goH; rw [up_ne _ _ (by decide), up_ne _ _ (by decide), up_at]; rfl, by unfold goH; rw [up_ne _ _ (by decide), up_at]; rfl, Nat.zero_le _⟩
theorem m_go0 (n : Nat) (h : DH) {T : Nat → Int32} {t : Nat} (ht : t ≤ 80) (hT : RT h T t) : ∃ (h' : DH) (v : Int32), dEx (n + 9) 126 [.inr (14, 0, 0), .inl 0] h (some (.inl v), h') ∧ PF 9 14 h h' ∧ (match (prs T t 16 0).2 with
    | none => h'.1 (14, 0, 0) 10 = 0
    | some e => h'.1 (14, 0, 0) 10 = 1 ∧ h'.1 (14, 0, 0) 9 = nI e) := by
  obtain ⟨F, P⟩ := goH_F h
  obtain ⟨h', v, k1, k2, k3⟩ := m_goF (n + 4) (T := T) ht 16 0 0 (goH h) none (by omega) (hT.pf F (by decide)) P (Nat.zero_le _)
  refine ⟨h', v, ?_, F.tr k2, k3⟩
  refine dx_126 ?_
  refine Runs.go 13 rfl ⟨trivial, Or.inl rfl⟩ ?_
  exact k1
theorem m_go1 (n : Nat) (h : DH) (s f : Nat → Int32) {T : Nat → Int32} {t : Nat} (ht : t ≤ 80) (hT : RT h T t) (hk : okC s) (h15 : h.1 (15, 0, 0) = s) (h20 : h.1 (20, 0, 0) = f) (hn : (prs T t 16 0).2 = none) : ∃ (h' : DH) (v : Int32), dEx (n + 9) 126 [.inr (14, 0, 0), .inl 1] h (some (.inl v), h') ∧ PG h h' ∧ h'.1 (15, 0, 0) = (exM (prs T t 16 0).1 (s, f)).2.1 ∧ h'.1 (20, 0, 0) = (exM (prs T t 16 0).1 (s, f)).2.2 ∧ h'.1 (14, 0, 0) 14 = (exM (prs T t 16 0).1 (s, f)).1 ∧ ((exM (prs T t 16 0).1 (s, f)).1 = 0 → v = nI (prs T t 16 0).1.length) := by
  obtain ⟨F, P⟩ := goH_F h
  obtain ⟨h', v, k1, k2, k3, k4, k5, k6⟩ := m_goT n (T := T) ht 16 0 0 (goH h) s f none (hT.pf F (by decide)) P (Nat.zero_le _) hk ((F.1 _ (by simp)).trans h15) ((F.1 _ (by simp)).trans h20) hn
  refine ⟨h', v, ?_, (F.pg (by decide)).tr k2, k3, k4, k5, fun e => by rw [k6 e, Nat.zero_add]⟩
  refine dx_126 ?_
  refine Runs.go 13 rfl ⟨trivial, Or.inl rfl⟩ ?_
  exact k1
