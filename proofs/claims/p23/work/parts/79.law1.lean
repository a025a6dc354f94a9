/-! runs whose end is only known by what holds of it -/
def dEnQ (T : DTbl) (Q : DRes → Prop) : DS → Prop := fun A => ∃ r, Q r ∧ dEnd T r A
theorem RunsK.ex {T : DTbl} {C : DC} {Q : DRes → Prop} {A : DS} (h : RunsK T C (dEnQ T Q) A) : ∃ r, Q r ∧ Runs T C A r := by
  obtain ⟨n, hn⟩ := h
  induction n generalizing A with
  | zero => exact absurd hn id
  | succ n ih =>
    rcases hn with ⟨P, B, hs, hP, hB⟩ | ⟨mid, as, nx, L, st, v, h1, hc, hm, hB⟩ | ⟨r, hr, he⟩
    · obtain ⟨r, hr, m, hm⟩ := ih hB
      exact ⟨r, hr, m + 1, Or.inl ⟨P, B, hs, hP, hm⟩⟩
    · obtain ⟨r, hr, k, hk⟩ := ih hB
      exact ⟨r, hr, k + 1, Or.inr (Or.inl ⟨mid, as, nx, L, st, v, h1, hc, hm, hk⟩)⟩
    · exact ⟨r, hr, 1, Or.inr (Or.inr he)⟩
theorem RunsK.fin {T : DTbl} {C : DC} {Q : DRes → Prop} {A : DS} {r : DRes} {G : Prop} (h : dfin T A = some (G, r)) (g : G) (q : Q r) : RunsK T C (dEnQ T Q) A := RunsK.stop ⟨r, q, G, h, g⟩
theorem RunsK.ifS {T : DTbl} {C : DC} {K : DS → Prop} {c : Prop} [Decidable c] {a b : Nat} {B : List (Option DV) × List DV × DH} (h1 : c → RunsK T C K (a, B)) (h2 : ¬ c → RunsK T C K (b, B)) : RunsK T C K ((if c then a else b), B) := by
  by_cases hc : c
  · rw [if_pos hc]; exact h1 hc
  · rw [if_neg hc]; exact h2 hc
theorem RunsK.sw1 {T : DTbl} {C : DC} {K : DS → Prop} {d t : Nat} {v x : Int32} {ts : List Nat} {B : List (Option DV) × List DV × DH} (h1 : RunsK T C K (t, B)) (h2 : RunsK T C K (dtsw d (v + 1) ts x, B)) : RunsK T C K (dtsw d v (t :: ts) x, B) := by
  show RunsK T C K ((if x = v then t else dtsw d (v + 1) ts x), B)
  exact RunsK.ifS (fun _ => h1) (fun _ => h2)
theorem RunsK.sw0 {T : DTbl} {C : DC} {K : DS → Prop} {d : Nat} {v x : Int32} {B : List (Option DV) × List DV × DH} (h : RunsK T C K (d, B)) : RunsK T C K (dtsw d v [] x, B) := h
/-! bits (from the kit's starting texts) -/
theorem fa_and (a b : Nat) : nI a &&& nI b = nI (a &&& b) := by
  apply Int32.toBitVec_inj.1
  show BitVec.ofNat 32 a &&& BitVec.ofNat 32 b = BitVec.ofNat 32 (a &&& b)
  apply BitVec.eq_of_getLsbD_eq
  intro i hi
  simp [hi]
theorem fa_mask (n k : Nat) : nI n &&& nI (2 ^ k - 1) = nI (n % 2 ^ k) := by rw [fa_and, Nat.and_two_pow_sub_one_eq_mod]
theorem i_nI (x : Int32) : ∃ n : Nat, x = nI n := ⟨x.toBitVec.toNat, by
  apply Int32.toBitVec_inj.1
  show x.toBitVec = BitVec.ofNat 32 x.toBitVec.toNat
  simp⟩
/-! the law's small methods -/
theorem l_low (n : Nat) (v : Int32) (h : DH) {m : Nat} (h0 : 0 < m) (hm : m < 2 ^ 31) : ∃ k, k < m ∧ dEx (n + 1) 88 [.inl v, .inl (nI m)] h (some (.inl (nI k)), h) := by
  obtain ⟨a, ha⟩ := i_nI v
  have e1 : v &&& 2147483647 = nI (a % 2 ^ 31) := by
    rw [ha]
    exact fa_mask a 31
  have e2 := pk_rem (a := a % 2 ^ 31) (d := m) (Nat.mod_lt _ (by decide)) h0 hm
  refine ⟨a % 2 ^ 31 % m, Nat.mod_lt _ h0, dx_88 ?_⟩
  refine Runs.go 5 rfl ⟨trivial, nI_ne0 h0 hm⟩ ?_
  rw [e1, e2]
  exact Runs.fin rfl trivial
theorem l_cell (n : Nat) (h : DH) {k : Nat} (hk : k < 50) (hS : h.2 (34, 0, 0) 0 < 2 ^ 31) : ∃ v, dEx (n + 1) 87 [.inr (34, 0, 0), .inl (nI k)] h (some (.inl v), h) := by
  by_cases z : k < h.2 (34, 0, 0) 0
  · refine ⟨h.1 (34, 0, 0) k, dx_87 ?_⟩
    refine Runs.go 4 rfl trivial ?_
    refine Runs.ifF (nI_ge z hS) ?_
    refine Runs.go 4 rfl ⟨trivial, i_in z hS⟩ ?_
    rw [i_cl (show k < 2 ^ 31 by omega)]
    exact Runs.fin rfl trivial
  · refine ⟨7919 * (nI k + 3) * (nI k + 11), dx_87 ?_⟩
    refine Runs.go 4 rfl trivial ?_
    refine Runs.ifT (nI_le (by omega) (by omega)) ?_
    refine Runs.go 9 rfl trivial ?_
    exact Runs.fin rfl trivial
theorem c_countP (n : Nat) (x : Int32) (h : DH) {c : Nat} {s : Nat → Int32} (hc : SR h 0 c s) (z : ¬ x = 17) (z2 : ¬ x = 18) : dEx (n + 5) 85 [.inr (6, 0, 0), .inl x] h (some (.inl (mco h s c x)), h) := by
  refine dx_85 ?_
  refine Runs.go 3 rfl trivial ?_
  refine Runs.ifF z ?_
  refine Runs.go 3 rfl trivial ?_
  refine Runs.ifF z2 ?_
  refine Runs.go 3 rfl trivial ?_
  refine Runs.cal rfl (c_tellCount n x h hc z z2) ?_
  exact Runs.fin rfl trivial
theorem mco_3 (h : DH) (s : Nat → Int32) (c : Nat) : mco h s c 3 = s 93 := rfl
theorem mco_4 (h : DH) (s : Nat → Int32) (c : Nat) : mco h s c 4 = s 12 := rfl
/-- what is told of a read -/
def rdO (s : Nat → Int32) (c : Nat) (y x : Int32) : Int32 := match mplc s c y with
  | some k => mtr s k x
  | none => -1
theorem c_readT (n : Nat) (y x : Int32) (h : DH) {c : Nat} {s : Nat → Int32} (hc : SR h 0 c s) : dEx (n + 4) 75 [.inr (6, 0, 0), .inl y, .inl x] h (some (.inl (rdO s c y x)), h) := by
  have := c_readOf n y x h hc.2.1 hc.2.2.1
  rw [hc.plc y] at this
  unfold rdO
  cases hp : mplc s c y with
  | none => rw [hp] at this; exact this
  | some k =>
    rw [hp] at this
    dsimp only at this ⊢
    rw [tellr_eq hc (fp_some hp).1 x] at this
    exact this
def pr (s : Nat → Int32) (x : Int32) : Prop := ∃ r ∈ LM s (cc s), r.1 = x
theorem mplc_none {s : Nat → Int32} {c : Nat} {x : Int32} (hc : cc s = c) : mplc s c x = none ↔ ¬ pr s x := by
  constructor
  · rintro h ⟨r, hr, e⟩
    rw [hc] at hr
    obtain ⟨k, hk, rfl⟩ := LM_mem.mp hr
    have := fp_none h k hk
    simp at this
    exact this e
  · intro h
    refine fp_nof (fun k hk => ?_)
    simp
    intro e
    exact h ⟨rmk s k, by rw [hc]; exact LM_mem.mpr ⟨k, hk, rfl⟩, e⟩
theorem mplc_at {s : Nat → Int32} {c p : Nat} {x : Int32} (hc : cc s = c) (h : mplc s c x = some p) : p < c ∧ rmk s p ∈ LM s (cc s) ∧ (rmk s p).1 = x := by
  obtain ⟨h1, h2, -⟩ := fp_some h
  exact ⟨h1, by rw [hc]; exact LM_mem.mpr ⟨p, h1, rfl⟩, of_decide_eq_true h2⟩
theorem SR.cc {h : DH} {i c : Nat} {s : Nat → Int32} (hs : SR h i c s) : cc s = c := cc_of hs.2.2.2.1 hs.2.2.1
/-- some read that waits or goes on -/
theorem l_some (n : Nat) (v : Int32) {h : DH} {s : Nat → Int32} {l : List (Nat → Int32)} (hs : PR h s l) : ∃ r, (r = -5 ∨ pr s r) ∧ dEx (n + 6) 89 [.inr (6, 0, 0), .inl v] h (some (.inl r), h) := by
  obtain ⟨c, hc⟩ := hs.sr
  obtain ⟨q, q1, q2⟩ := hs.1.1.2.2.1
  let Q : DRes → Prop := fun r => ∃ x, (x = -5 ∨ pr s x) ∧ r = (some (.inl x), h)
  have loop : ∀ m k, q - k = m → k ≤ q → ∀ b : Int32, RunsK dT_89 (dEx (n + 5)) (dEnQ dT_89 Q) (24, [some (.inr (6, 0, 0)), some (.inl v), some (.inl b), some (.inl (nI k))], [], h) := by
    intro m
    induction m with
    | zero =>
      intro k hm hk b
      refine RunsK.go 3 rfl trivial ?_
      refine RunsK.cal rfl (c_countP n 4 h hc (by decide) (by decide)) ?_
      rw [mco_4, q2]
      refine RunsK.go 1 rfl trivial ?_
      refine RunsK.ifT (nI_le (by omega) (by omega)) ?_
      refine RunsK.go 1 rfl trivial ?_
      exact RunsK.fin rfl trivial ⟨_, Or.inl rfl, rfl⟩
    | succ m ih =>
      intro k hm hk b
      refine RunsK.go 3 rfl trivial ?_
      refine RunsK.cal rfl (c_countP n 4 h hc (by decide) (by decide)) ?_
      rw [mco_4, q2]
      refine RunsK.go 1 rfl trivial ?_
      refine RunsK.ifF (nI_ge (by omega) (by omega)) ?_
      refine RunsK.go 2 rfl trivial ?_
      refine RunsK.ifS (fun _ => ?_) (fun _ => ?_)
      · refine RunsK.go 1 rfl trivial ?_
        exact RunsK.fin rfl trivial ⟨_, Or.inl rfl, rfl⟩
      · refine RunsK.go 3 rfl trivial ?_
        refine RunsK.cal rfl (c_readT (n + 1) (nI k) 0 h hc) ?_
        refine RunsK.go 1 rfl trivial ?_
        have next : ∀ b' : Int32, RunsK dT_89 (dEx (n + 5)) (dEnQ dT_89 Q) (55, [some (.inr (6, 0, 0)), some (.inl v), some (.inl b'), some (.inl (nI k))], [], h) := fun b' => by
          refine RunsK.go 2 rfl trivial ?_
          rw [nI_1]
          exact ih (k + 1) (by omega) (by omega) b'
        refine RunsK.ifS (fun _ => next b) (fun z => ?_)
        refine RunsK.go 2 rfl trivial ?_
        refine RunsK.ifS (fun _ => ?_) (fun _ => ?_)
        · refine RunsK.go 1 rfl trivial ?_
          refine RunsK.fin rfl trivial ⟨nI k, Or.inr ?_, rfl⟩
          refine Classical.byContradiction fun hn => z ?_
          unfold rdO
          rw [(mplc_none hc.cc).mpr hn]
          show (-1 : Int32) < 0
          decide
        · refine RunsK.go 1 rfl trivial ?_
          exact next _
  have key : RunsK dT_89 (dEx (n + 5)) (dEnQ dT_89 Q) (0, [some (.inr (6, 0, 0)), some (.inl v), none, none], [], h) := by
    refine RunsK.go 2 rfl trivial ?_
    refine RunsK.cal rfl (c_countP n 3 h hc (by decide) (by decide)) ?_
    rw [mco_3, hc.2.2.2.1]
    have h30 := hc.2.2.1
    refine RunsK.go 1 rfl trivial ?_
    by_cases z : nI c = 0
    · refine RunsK.ifT z ?_
      refine RunsK.go 5 rfl trivial ?_
      exact loop (q - 0) 0 rfl (Nat.zero_le _) _
    · refine RunsK.ifF z ?_
      refine RunsK.go 3 rfl trivial ?_
      refine RunsK.cal rfl (c_countP n 3 h hc (by decide) (by decide)) ?_
      rw [mco_3, hc.2.2.2.1]
      have c0 : 0 < c := Nat.pos_of_ne_zero (fun t => z (by rw [t]; rfl))
      obtain ⟨k, hk, hl⟩ := l_low (n + 4) v h c0 (by omega)
      refine RunsK.cal rfl hl ?_
      refine RunsK.go 3 rfl trivial ?_
      exact loop (q - 0) 0 rfl (Nat.zero_le _) _
  obtain ⟨r, ⟨x, hx, rfl⟩, hr⟩ := key.ex
  exact ⟨x, hx, dx_89 hr⟩
