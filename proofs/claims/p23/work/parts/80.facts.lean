/-! does and currentOf of the law; facts of a disk -/
theorem l_does (n : Nat) (v : Int32) {h : DH} {s : Nat → Int32} {l : List (Nat → Int32)} (hs : PR h s l) : ∃ (got : Int32) (h' : DH) (s' : Nat → Int32) (l' : List (Nat → Int32)), dEx (n + 7) 90 [.inr (6, 0, 0), .inl v] h (some (.inl got), h') ∧ PR h' s' l' ∧ ¬ got < -5 := by
  let Q : DRes → Prop := fun r => ∃ (got : Int32) (h' : DH) (s' : Nat → Int32) (l' : List (Nat → Int32)), r = (some (.inl got), h') ∧ PR h' s' l' ∧ ¬ got < -5
  have go : ∀ {mid nx : Nat} {as : List DV} {pc : Nat} {L : List (Option DV)} {st : List DV}, GA (n + 6) mid as h → dcall dT_90 (pc, L, st, h) = some (mid, .inr (6, 0, 0) :: as, nx, L, []) → (∀ got h', dfin dT_90 (nx, L, [.inl got], h') = some (True, (some (.inl got), h'))) → RunsK dT_90 (dEx (n + 6)) (dEnQ dT_90 Q) (pc, L, st, h) := by
    rintro mid nx as pc L st ⟨got, h', s', l', a1, a2, a3⟩ hc hf
    exact RunsK.cal hc a1 (RunsK.fin (hf got h') trivial ⟨got, h', s', l', rfl, a2, a3⟩)
  have key : RunsK dT_90 (dEx (n + 6)) (dEnQ dT_90 Q) (0, [some (.inr (6, 0, 0)), some (.inl v), none, none, none], [], h) := by
    refine RunsK.go 4 rfl trivial ?_
    obtain ⟨d, hd, hl⟩ := l_low (n + 5) (v >>> (4 &&& 31)) h (m := 12) (by decide) (by decide)
    refine RunsK.cal rfl hl ?_
    refine RunsK.go 5 rfl trivial ?_
    have cRead : RunsK dT_90 (dEx (n + 6)) (dEnQ dT_90 Q) (76, [some (.inr (6, 0, 0)), some (.inl v), some (.inl (nI d)), none, none], [], h) := by
      refine RunsK.go 7 rfl trivial ?_
      obtain ⟨t, _, ht⟩ := l_low (n + 5) (v >>> (8 &&& 31)) h (m := 50) (by decide) (by decide)
      refine RunsK.cal rfl ht ?_
      refine RunsK.go 1 rfl trivial ?_
      exact go (c_readP n hs _ _) rfl (fun _ _ => rfl)
    have cDrop : RunsK dT_90 (dEx (n + 6)) (dEnQ dT_90 Q) (93, [some (.inr (6, 0, 0)), some (.inl v), some (.inl (nI d)), none, none], [], h) := by
      refine RunsK.go 5 rfl trivial ?_
      obtain ⟨r, _, hr⟩ := l_some n (v >>> (4 &&& 31)) hs
      refine RunsK.cal rfl hr ?_
      exact go (c_dropP n hs _) rfl (fun _ _ => rfl)
    have cFail : RunsK dT_90 (dEx (n + 6)) (dEnQ dT_90 Q) (105, [some (.inr (6, 0, 0)), some (.inl v), some (.inl (nI d)), none, none], [], h) := by
      refine RunsK.go 2 rfl trivial ?_
      exact go (c_failP n hs _) rfl (fun _ _ => rfl)
    have cRepl : RunsK dT_90 (dEx (n + 6)) (dEnQ dT_90 Q) (111, [some (.inr (6, 0, 0)), some (.inl v), some (.inl (nI d)), none, none], [], h) := by
      refine RunsK.go 6 rfl trivial ?_
      refine RunsK.ifS (fun _ => ?_) (fun _ => ?_)
      · refine RunsK.go 2 rfl trivial ?_
        obtain ⟨got, h', s', l', a1, a2, a3⟩ := c_repP n hs (nI d)
        refine RunsK.cal rfl a1 ?_
        refine RunsK.go 1 rfl trivial ?_
        exact RunsK.fin rfl trivial ⟨got, h', s', l', rfl, a2, a3⟩
      · refine RunsK.go 1 rfl trivial ?_
        exact go (c_fuseP n hs) rfl (fun _ _ => rfl)
    have cFuse : RunsK dT_90 (dEx (n + 6)) (dEnQ dT_90 Q) (133, [some (.inr (6, 0, 0)), some (.inl v), some (.inl (nI d)), none, none], [], h) := by
      refine RunsK.go 1 rfl trivial ?_
      exact go (c_fuseP n hs) rfl (fun _ _ => rfl)
    have cSet : RunsK dT_90 (dEx (n + 6)) (dEnQ dT_90 Q) (138, [some (.inr (6, 0, 0)), some (.inl v), some (.inl (nI d)), none, none], [], h) := by
      refine RunsK.go 4 rfl trivial ?_
      obtain ⟨w, _, hw⟩ := l_low (n + 5) (v >>> (4 &&& 31)) h (m := 10) (by decide) (by decide)
      refine RunsK.cal rfl hw ?_
      refine RunsK.go 5 rfl trivial ?_
      obtain ⟨x, _, hx⟩ := l_low (n + 5) (v >>> (8 &&& 31)) h (m := 20) (by decide) (by decide)
      refine RunsK.cal rfl hx ?_
      refine RunsK.go 6 rfl trivial ?_
      have c191 : RunsK dT_90 (dEx (n + 6)) (dEnQ dT_90 Q) (191, [some (.inr (6, 0, 0)), some (.inl v), some (.inl (nI d)), some (.inl (nI w)), some (.inl (nI x))], [.inl (nI w), .inr (6, 0, 0)], h) := by
        refine RunsK.go 6 rfl ⟨trivial, (by decide)⟩ ?_
        exact go (c_setP n hs _ _) rfl (fun _ _ => rfl)
      refine RunsK.ifS (fun _ => ?_) (fun _ => ?_)
      · refine RunsK.go 6 rfl trivial ?_
        exact go (c_setP n hs _ _) rfl (fun _ _ => rfl)
      · refine RunsK.go 3 rfl trivial ?_
        refine RunsK.ifS (fun _ => c191) (fun _ => ?_)
        refine RunsK.go 2 rfl trivial ?_
        refine RunsK.ifS (fun _ => c191) (fun _ => ?_)
        refine RunsK.go 3 rfl trivial ?_
        refine RunsK.ifS (fun _ => c191) (fun _ => ?_)
        refine RunsK.go 3 rfl trivial ?_
        refine RunsK.ifS (fun _ => ?_) (fun _ => ?_)
        · refine RunsK.go 4 rfl ⟨trivial, (by decide)⟩ ?_
          exact go (c_setP n hs _ _) rfl (fun _ _ => rfl)
        · refine RunsK.go 1 rfl trivial ?_
          exact go (c_setP n hs _ _) rfl (fun _ _ => rfl)
    have cRun : RunsK dT_90 (dEx (n + 6)) (dEnQ dT_90 Q) (220, [some (.inr (6, 0, 0)), some (.inl v), some (.inl (nI d)), none, none], [], h) := by
      refine RunsK.go 6 rfl trivial ?_
      obtain ⟨t, _, ht⟩ := l_low (n + 5) (v >>> (4 &&& 31)) h (m := 30) (by decide) (by decide)
      refine RunsK.cal rfl ht ?_
      refine RunsK.go 1 rfl trivial ?_
      exact go (c_runP n hs _) rfl (fun _ _ => rfl)
    refine RunsK.sw1 cRead ?_
    refine RunsK.sw1 cRead ?_
    refine RunsK.sw1 cRead ?_
    refine RunsK.sw1 cRead ?_
    refine RunsK.sw1 cRead ?_
    refine RunsK.sw1 cDrop ?_
    refine RunsK.sw1 cFail ?_
    refine RunsK.sw1 cFail ?_
    refine RunsK.sw1 cRepl ?_
    refine RunsK.sw1 cFuse ?_
    refine RunsK.sw1 cSet ?_
    refine RunsK.sw1 cSet ?_
    exact RunsK.sw0 cRun
  obtain ⟨r, ⟨got, h', s', l', rfl, a2, a3⟩, hr⟩ := key.ex
  exact ⟨got, h', s', l', dx_90 hr, a2, a3⟩
theorem c_diskT (n : Nat) (x : Int32) (h : DH) {c d : Nat} {s : Nat → Int32} (hc : SR h 0 c s) (hd : d < 12) : dEx (n + 4) 73 [.inr (6, 0, 0), .inl (nI d), .inl x] h (some (.inl (mtd s c d x)), h) := by
  have := (c_disk n (nI d) x h).1 d hd rfl
  rw [tell_eq hc hd] at this
  exact this
theorem mahd_c (s : Nat → Int32) (c d : Nat) : mahd s (nI d) c = nI (cntD (nI d) (LM s c)) := mahd_cnt s (nI d) c
theorem l_currentOf (n : Nat) (h : DH) {c d : Nat} {s : Nat → Int32} (hc : SR h 0 c s) (hd : d < 12) : dEx (n + 6) 91 [.inr (6, 0, 0), .inl (nI d)] h (some (.inl (mcur s c d)), h) := by
  refine dx_91 ?_
  have di := hc.2.2.2.2.2.2.2.2.2.1 d hd
  refine Runs.go 3 rfl trivial ?_
  refine Runs.cal rfl (c_diskT (n + 1) 0 h hc hd) ?_
  rw [show mtd s c d 0 = s (oD d 0) from rfl]
  refine Runs.go 3 rfl trivial ?_
  unfold mcur
  by_cases z0 : s (oD d 0) = 0
  · refine Runs.ifT z0 ?_
    rw [if_pos z0]
    refine Runs.go 2 rfl trivial ?_
    refine Runs.cal rfl (c_countP n 24 h hc (by decide) (by decide)) ?_
    rw [show mco h s c 24 = s 4 from rfl]
    refine Runs.go 1 rfl trivial ?_
    exact Runs.fin rfl trivial
  · refine Runs.ifF z0 ?_
    rw [if_neg z0]
    refine Runs.go 3 rfl trivial ?_
    by_cases z1 : s (oD d 0) = 1
    · refine Runs.ifT z1 ?_
      rw [if_pos z1]
      refine Runs.go 2 rfl trivial ?_
      refine Runs.cal rfl (c_countP n 21 h hc (by decide) (by decide)) ?_
      rw [show mco h s c 21 = s 1 from rfl]
      refine Runs.go 1 rfl trivial ?_
      exact Runs.fin rfl trivial
    · refine Runs.ifF z1 ?_
      rw [if_neg z1]
      refine Runs.go 3 rfl trivial ?_
      by_cases z3 : s (oD d 0) = 3
      · refine Runs.ifT z3 ?_
        rw [if_pos z3]
        refine Runs.go 2 rfl trivial ?_
        exact Runs.fin rfl trivial
      · refine Runs.ifF z3 ?_
        rw [if_neg z3]
        refine Runs.go 2 rfl trivial ?_
        refine Runs.cal rfl (c_countP n 22 h hc (by decide) (by decide)) ?_
        rw [show mco h s c 22 = s 2 from rfl]
        refine Runs.go 3 rfl trivial ?_
        refine Runs.cal rfl (c_diskT (n + 1) 5 h hc hd) ?_
        rw [show mtd s c d 5 = mahd s (nI d) c from rfl, mahd_c]
        refine Runs.go 1 rfl trivial ?_
        have hlen := cntD_le (nI d) (LM s c)
        rw [LM_len] at hlen
        have h30 := hc.2.2.1
        cases hm : mfst s c (nI d) with
        | none =>
          rw [cntD_0.mpr (mfst_none.mp hm)]
          refine Runs.ifT (by decide) ?_
          refine Runs.go 2 rfl trivial ?_
          exact Runs.fin rfl trivial
        | some p =>
          have : cntD (nI d) (LM s c) ≠ 0 := fun t => by
            have := mfst_none.mpr (cntD_0.mp t)
            rw [hm] at this
            cases this
          refine Runs.ifF (nI_nle (by omega) (by omega)) ?_
          refine Runs.go 2 rfl trivial ?_
          refine Runs.cal rfl (c_countP n 23 h hc (by decide) (by decide)) ?_
          rw [show mco h s c 23 = s 3 from rfl]
          refine Runs.go 2 rfl trivial ?_
          exact Runs.fin rfl trivial
/-! facts of a disk -/
theorem df_2 {s : Nat → Int32} {d : Nat} (di : DInv s d) (z : ¬ s (oD d 0) = 1) : s (oD d 1) = 0 := di.2.2.1 z
theorem df_1 {s : Nat → Int32} {d : Nat} (di : DInv s d) (z : s (oD d 0) = 1) : ¬ s (oD d 1) ≤ 0 := by
  obtain ⟨l, l1, l2, e⟩ := di.2.1 z
  rw [e]
  exact nI_nle (by omega) (by omega)
theorem df_3 {s : Nat → Int32} {d : Nat} (di : DInv s d) (q1 : Q1 s) (hd : d < 12) : s (oD d 0) = 3 ↔ s (oD d 2) = 3 := by
  constructor
  · exact q1 d hd
  · intro h
    refine Decidable.byContradiction fun z => ?_
    obtain ⟨q, h2, e⟩ := di.2.2.2.2.1 z
    rw [e] at h
    have := nI_inj (b := 3) (by omega) (by decide) h
    omega
theorem df_4 {s : Nat → Int32} {d : Nat} (di : DInv s d) (q1 : Q1 s) (hd : d < 12) : ¬ 3 < s (oD d 2) := by
  by_cases z : s (oD d 0) = 3
  · rw [q1 d hd z]; decide
  · obtain ⟨q, h2, e⟩ := di.2.2.2.2.1 z
    rw [e]
    exact nI_nlt (show q ≤ 3 by omega) (by decide)
theorem df_6 {h : DH} {c d : Nat} {s : Nat → Int32} (hc : SR h 0 c s) (hd : d < 12) (z : s (oD d 0) = 3) : mahd s (nI d) c = 0 := by
  rw [mahd_c]
  have : cntD (nI d) (LM s c) = 0 := by
    rw [cntD_0, hasD_0]
    intro r hr e
    obtain ⟨e', he', h1, h2, -⟩ := hc.2.2.2.2.2.2.2.2.2.2 r hr
    have : e' = d := nI_inj (by omega) (by omega) (h1.symm.trans e)
    subst this
    exact h2 z
  rw [this]
  rfl
theorem sum_cnt : ∀ L : List R5, (∀ r ∈ L, ∃ e, e < 12 ∧ dk5 r = nI e) → nS (fun d => cntD (nI d) L) 12 = L.length := by
  intro L
  induction L with
  | nil => intro _; rfl
  | cons a L ih =>
    intro h
    obtain ⟨e, he, hae⟩ := h a List.mem_cons_self
    have h1 := ih (fun r hr => h r (List.mem_cons_of_mem _ hr))
    have h2 := nS_ch (f := fun d => cntD (nI d) (a :: L)) (g := fun d => cntD (nI d) L) (d := e) 12 he (fun d hd hne => by
      rw [cntD_cons, if_neg (fun t => hne (nI_inj (by omega) (by omega) (t.symm.trans hae))), Nat.zero_add])
    rw [cntD_cons, if_pos hae] at h2
    rw [List.length_cons]
    omega
theorem sum_reads {h : DH} {c : Nat} {s : Nat → Int32} (hc : SR h 0 c s) : sumN (fun d => mahd s (nI d) c) 12 = nI c := by
  rw [sumN_nS 12 (fun d _ => mahd_c s c d), sum_cnt, LM_len]
  intro r hr
  obtain ⟨e, he, h1, -⟩ := hc.2.2.2.2.2.2.2.2.2.2 r hr
  exact ⟨e, he, h1⟩
theorem cs_le (s : Nat → Int32) (st c0 : Int32) : ∀ m, ∃ k, k ≤ m ∧ (cs s st c0 m).2 = nI k := by
  intro m
  induction m with
  | zero => exact ⟨0, Nat.le_refl _, rfl⟩
  | succ m ih =>
    obtain ⟨k, hk, e⟩ := ih
    show ∃ k, k ≤ m + 1 ∧ (csB s st (cs s st c0 m)).2 = nI k
    unfold csB
    split
    · exact ⟨k, by omega, by rw [e]; exact Int32.add_zero _⟩
    · exact ⟨k + 1, by omega, by rw [e]; exact nI_1 k⟩
theorem could_le {h : DH} {c : Nat} {s : Nat → Int32} (hc : SR h 0 c s) : (∃ k m, k ≤ m ∧ m ≤ 12 ∧ cstartable h 0 = nI k ∧ mthat s 0 = nI m) ∧ (¬ s 15 = 0 → cstartable h 0 = 0) := by
  have e10 : h.1 (0, 0, 0) 10 = s 15 := hc.1.2.1 10 (by decide) (by decide)
  unfold cstartable
  rw [e10]
  constructor
  · obtain ⟨m, hm, h1, h2⟩ := could_eq hc (cthat h 0 1) (sumN (ccur h 0) 12) 12 (Nat.le_refl _)
    have h1' : mthat s 0 = nI m := h1
    by_cases z : s 15 = 0
    · rw [if_pos z, h2]
      obtain ⟨k, hk, e⟩ := cs_le s (cthat h 0 1) (sumN (ccur h 0) 12) m
      exact ⟨k, m, hk, hm, e, h1'⟩
    · rw [if_neg z]
      exact ⟨0, m, Nat.zero_le _, hm, rfl, h1'⟩
  · intro z
    rw [if_neg z]
