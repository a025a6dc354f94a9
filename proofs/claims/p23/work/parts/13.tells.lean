/-! loops that may end early, switches, first places -/
theorem Runs.loopP {T : DTbl} {C : DC} {r : DRes} (N : Nat) (S : Nat → DS) (P : Nat → Prop) (h0 : P 0) (hb : ∀ k, k < N → P k → (P (k + 1) → Runs T C (S (k + 1)) r) → Runs T C (S k) r) (he : P N → Runs T C (S N) r) : Runs T C (S 0) r := by
  have key : ∀ k, k ≤ N → P (N - k) → Runs T C (S (N - k)) r := by
    intro k
    induction k with
    | zero => intro _ hp; exact he hp
    | succ k ih =>
      intro hk hp
      refine hb (N - (k + 1)) (by omega) hp (fun hp' => ?_)
      rw [show N - (k + 1) + 1 = N - k from by omega] at hp' ⊢
      exact ih (by omega) hp'
  have := key N (Nat.le_refl N)
  rw [Nat.sub_self] at this
  exact this h0
theorem Runs.sw1 {T : DTbl} {C : DC} {r : DRes} {d t : Nat} {v x : Int32} {ts : List Nat} {B : List (Option DV) × List DV × DH} (h1 : x = v → Runs T C (t, B) r) (h2 : ¬ x = v → Runs T C (dtsw d (v + 1) ts x, B) r) : Runs T C (dtsw d v (t :: ts) x, B) r := by
  show Runs T C ((if x = v then t else dtsw d (v + 1) ts x), B) r
  exact Runs.ifS h1 h2
theorem Runs.sw0 {T : DTbl} {C : DC} {r : DRes} {d : Nat} {v x : Int32} {B : List (Option DV) × List DV × DH} (h : Runs T C (d, B) r) : Runs T C (dtsw d v [] x, B) r := h
/-- the first place below c with p -/
def fp (p : Nat → Bool) : Nat → Option Nat
  | 0 => none
  | n + 1 => match fp p n with
    | some k => some k
    | none => if p n then some n else none
theorem fp_none {p : Nat → Bool} : ∀ {c : Nat}, fp p c = none → ∀ k, k < c → p k = false := by
  intro c
  induction c with
  | zero => intro _ k hk; omega
  | succ n ih =>
    intro h k hk
    simp only [fp] at h
    cases hf : fp p n with
    | some j => rw [hf] at h; cases h
    | none =>
      rw [hf] at h
      cases hp : p n with
      | true => rw [hp] at h; cases h
      | false =>
        rcases Nat.lt_succ_iff_lt_or_eq.mp hk with hk | rfl
        · exact ih hf k hk
        · exact hp
theorem fp_some {p : Nat → Bool} : ∀ {c k : Nat}, fp p c = some k → k < c ∧ p k = true ∧ ∀ j, j < k → p j = false := by
  intro c
  induction c with
  | zero => intro k h; cases h
  | succ n ih =>
    intro k h
    simp only [fp] at h
    cases hf : fp p n with
    | some j =>
      rw [hf] at h
      cases h
      obtain ⟨h1, h2⟩ := ih hf
      exact ⟨by omega, h2⟩
    | none =>
      rw [hf] at h
      cases hp : p n with
      | false => rw [hp] at h; cases h
      | true =>
        rw [hp] at h
        cases h
        exact ⟨by omega, hp, fp_none hf⟩
theorem fp_of {p : Nat → Bool} {c k : Nat} (hk : k < c) (hp : p k = true) (hn : ∀ j, j < k → p j = false) : fp p c = some k := by
  cases hf : fp p c with
  | none => have := fp_none hf k hk; rw [hp] at this; cases this
  | some j =>
    obtain ⟨h1, h2, h3⟩ := fp_some hf
    rcases Nat.lt_trichotomy j k with h | h | h
    · have := hn j h; rw [h2] at this; cases this
    · rw [h]
    · have := h3 k h; rw [hp] at this; cases this
theorem fp_nof {p : Nat → Bool} {c : Nat} (hn : ∀ j, j < c → p j = false) : fp p c = none := by
  cases hf : fp p c with
  | none => rfl
  | some j =>
    obtain ⟨h1, h2, h3⟩ := fp_some hf
    have := hn j h1
    rw [h2] at this
    cases this
theorem fp_congr {p q : Nat → Bool} {c : Nat} (h : ∀ k, k < c → p k = q k) : fp p c = fp q c := by
  cases hf : fp p c with
  | none => exact (fp_nof (fun j hj => by rw [← h j hj]; exact fp_none hf j hj)).symm
  | some k =>
    obtain ⟨h1, h2, h3⟩ := fp_some hf
    exact (fp_of h1 (by rw [← h k h1]; exact h2) (fun j hj => by rw [← h j (by omega)]; exact h3 j hj)).symm
def oI (n : Int32) : Option Nat → Int32
  | some k => nI k
  | none => n
/-! what the class tells of a state -/
def cthat (h : DH) (i : Nat) (x : Int32) : Int32 := sumN (fun j => if h.1 (4, i, j) 0 = x then 1 else 0) 12
theorem c_disksThat (n i : Nat) (x : Int32) (h : DH) : dEx (n + 2) 38 [.inr (0, i, 0), .inl x] h (some (.inl (cthat h i x)), h) := by
  refine dx_38 ?_
  refine Runs.go 4 rfl trivial ?_
  refine Runs.loop 12 (fun k => (4, [some (.inr (0, i, 0)), some (.inl x), some (.inl (sumN (fun j => if h.1 (4, i, j) 0 = x then 1 else 0) k)), some (.inl (nI k))], [], h)) (fun k hk ih => ?_) ?_
  · refine Runs.go 3 rfl trivial ?_
    refine Runs.ifF (i_ge hk (by decide)) ?_
    refine Runs.go 8 rfl ⟨trivial, (i_in hk (by decide))⟩ ?_
    rw [i_cl (by omega)]
    refine Runs.ifS (fun c => ?_) (fun c => ?_)
    · refine Runs.go 2 rfl trivial ?_
      refine Runs.cal rfl (c_flag n _ h) ?_
      refine Runs.go 4 rfl trivial ?_
      rw [nI_1]
      simp only [sumN, if_pos c] at ih
      exact ih
    · refine Runs.go 1 rfl trivial ?_
      refine Runs.cal rfl (c_flag n _ h) ?_
      refine Runs.go 4 rfl trivial ?_
      rw [nI_1]
      simp only [sumN, if_neg c] at ih
      exact ih
  · refine Runs.go 3 rfl trivial ?_
    refine Runs.ifT (Int32.le_refl _) ?_
    refine Runs.go 1 rfl trivial ?_
    exact Runs.fin rfl trivial
def cplc (h : DH) (i c : Nat) (x : Int32) : Option Nat := fp (fun k => decide (h.1 (5, i, h.2 (3, i, 0) k) 0 = x)) c
theorem c_placeOf (n i : Nat) (x : Int32) (h : DH) {c : Nat} (hc : h.1 (0, i, 0) 3 = nI c) (h30 : c ≤ 30) : dEx (n + 1) 14 [.inr (0, i, 0), .inl x] h (some (.inl (oI (-1) (cplc h i c x))), h) := by
  refine dx_14 ?_
  refine Runs.go 2 rfl trivial ?_
  refine Runs.loopP c (fun k => (2, [some (.inr (0, i, 0)), some (.inl x), some (.inl (nI k))], [], h)) (fun k => ∀ j, j < k → decide (h.1 (5, i, h.2 (3, i, 0) j) 0 = x) = false) (fun j hj => by omega) (fun k hk hp ih => ?_) (fun hp => ?_)
  · refine Runs.go 4 rfl trivial ?_
    rw [hc]
    refine Runs.ifF (i_ge hk (by omega)) ?_
    refine Runs.go 7 rfl ⟨trivial, (i_in (show k < 30 by omega) (by decide))⟩ ?_
    rw [i_cl (by omega)]
    refine Runs.ifS (fun z => ?_) (fun z => ?_)
    · refine Runs.go 1 rfl trivial ?_
      refine Runs.fin ?_ trivial
      rw [show cplc h i c x = some k from fp_of hk (by simpa using z) hp]
      rfl
    · refine Runs.go 2 rfl trivial ?_
      rw [nI_1]
      refine ih (fun j hj => ?_)
      rcases Nat.lt_succ_iff_lt_or_eq.mp hj with hj | rfl
      · exact hp j hj
      · simpa using z
  · refine Runs.go 4 rfl trivial ?_
    rw [hc]
    refine Runs.ifT (Int32.le_refl _) ?_
    refine Runs.go 1 rfl trivial ?_
    refine Runs.fin ?_ trivial
    rw [show cplc h i c x = none from fp_nof hp]
    rfl
def cadd (h : DH) (i : Nat) : Int32 := h.1 (1, i, 0) 1 - h.1 (1, i, 0) 4
theorem c_added (n i : Nat) (h : DH) : dEx (n + 1) 40 [.inr (0, i, 0)] h (some (.inl (cadd h i)), h) := by
  refine dx_40 ?_
  refine Runs.go 9 rfl ⟨⟨trivial, (by unfold vp_in; decide)⟩, (by unfold vp_in; decide)⟩ ?_
  exact Runs.fin rfl trivial
def cmay (h : DH) (i : Nat) (s c : Int32) : Int32 := if h.1 (1, i, 0) 8 ≤ s then 0 else if h.1 (1, i, 0) 5 < c + cadd h i then 0 else 1
theorem c_mayStart (n i : Nat) (h : DH) (s c : Int32) : dEx (n + 2) 39 [.inr (0, i, 0), .inl s, .inl c] h (some (.inl (cmay h i s c)), h) := by
  refine dx_39 ?_
  unfold cmay
  refine Runs.go 6 rfl ⟨trivial, (by unfold vp_in; decide)⟩ ?_
  refine Runs.ifS (fun z => ?_) (fun z => ?_)
  · rw [if_pos (show h.1 (1, i, 0) 8 ≤ s from z)]
    refine Runs.go 1 rfl trivial ?_
    exact Runs.fin rfl (Or.inl rfl)
  · rw [if_neg (show ¬ h.1 (1, i, 0) 8 ≤ s from z)]
    refine Runs.go 2 rfl trivial ?_
    refine Runs.cal rfl (c_added n i h) ?_
    refine Runs.go 6 rfl ⟨trivial, (by unfold vp_in; decide)⟩ ?_
    refine Runs.ifS (fun z => ?_) (fun z => ?_)
    · rw [if_pos (show h.1 (1, i, 0) 5 < c + cadd h i from z)]
      refine Runs.go 1 rfl trivial ?_
      exact Runs.fin rfl (Or.inl rfl)
    · rw [if_neg (show ¬ h.1 (1, i, 0) 5 < c + cadd h i from z)]
      refine Runs.go 2 rfl trivial ?_
      exact Runs.fin rfl (Or.inr rfl)
/-- couldStart, disk by disk: how many, and the current -/
def cstb (h : DH) (i : Nat) (s0 : Int32) (j : Nat) (q : Int32 × Int32) : Int32 × Int32 := if h.1 (4, i, j) 0 = 0 then (if cmay h i (s0 + q.2) q.1 = 0 then q else (q.1 + cadd h i, q.2 + 1)) else q
def cst (h : DH) (i : Nat) (s0 c0 : Int32) : Nat → Int32 × Int32
  | 0 => (c0, 0)
  | k + 1 => cstb h i s0 k (cst h i s0 c0 k)
def cstartable (h : DH) (i : Nat) : Int32 := if h.1 (0, i, 0) 10 = 0 then (cst h i (cthat h i 1) (sumN (ccur h i) 12) 12).2 else 0
theorem c_startable (n i : Nat) (h : DH) : dEx (n + 3) 79 [.inr (0, i, 0)] h (some (.inl (cstartable h i)), h) := by
  refine dx_79 ?_
  unfold cstartable
  refine Runs.go 3 rfl trivial ?_
  refine Runs.ifS (fun z => ?_) (fun z => ?_)
  · rw [if_pos z]
    refine Runs.go 1 rfl trivial ?_
    refine Runs.cal rfl (c_currentOfNow (n + 0) i h) ?_
    refine Runs.go 3 rfl trivial ?_
    refine Runs.cal rfl (c_disksThat n i _ h) ?_
    refine Runs.go 5 rfl trivial ?_
    generalize hs0 : cthat h i 1 = s0
    generalize hc0 : sumN (ccur h i) 12 = c0
    refine Runs.loop 12 (fun k => (25, [some (.inr (0, i, 0)), some (.inl (cst h i s0 c0 k).1), some (.inl s0), some (.inl (cst h i s0 c0 k).2), some (.inl (nI k))], [], h)) (fun k hk ih => ?_) ?_
    · refine Runs.go 3 rfl trivial ?_
      refine Runs.ifF (i_ge hk (by decide)) ?_
      refine Runs.go 6 rfl ⟨trivial, (i_in hk (by decide))⟩ ?_
      rw [i_cl (by omega)]
      rw [← nI_1] at ih
      refine Runs.ifS (fun z => ?_) (fun z => ?_)
      · rw [show cst h i s0 c0 (k + 1) = cstb h i s0 k (cst h i s0 c0 k) from rfl] at ih
        unfold cstb at ih
        rw [if_pos z] at ih
        refine Runs.go 5 rfl trivial ?_
        refine Runs.cal rfl (c_mayStart n i h _ _) ?_
        refine Runs.go 1 rfl trivial ?_
        refine Runs.ifS (fun z => ?_) (fun z => ?_)
        · rw [if_pos z] at ih
          refine Runs.go 2 rfl trivial ?_
          exact ih
        · rw [if_neg z] at ih
          refine Runs.go 3 rfl trivial ?_
          refine Runs.cal rfl (c_added (n + 1) i h) ?_
          refine Runs.go 4 rfl trivial ?_
          exact ih
      · rw [show cst h i s0 c0 (k + 1) = cstb h i s0 k (cst h i s0 c0 k) from rfl] at ih
        unfold cstb at ih
        rw [if_neg z] at ih
        refine Runs.go 2 rfl trivial ?_
        exact ih
    · refine Runs.go 3 rfl trivial ?_
      refine Runs.ifT (Int32.le_refl _) ?_
      refine Runs.go 1 rfl trivial ?_
      exact Runs.fin rfl trivial
  · rw [if_neg z]
    refine Runs.go 1 rfl trivial ?_
    exact Runs.fin rfl trivial
def cahead (h : DH) (i k : Nat) : Int32 := sumN (fun j => if h.1 (5, i, h.2 (3, i, 0) j) 1 = h.1 (5, i, h.2 (3, i, 0) k) 1 then 1 else 0) k
theorem c_ahead (n i k : Nat) (h : DH) (hk : k < 30) : dEx (n + 2) 77 [.inr (0, i, 0), .inl (nI k)] h (some (.inl (cahead h i k)), h) := by
  refine dx_77 ?_
  refine Runs.go 4 rfl trivial ?_
  refine Runs.loop k (fun q => (4, [some (.inr (0, i, 0)), some (.inl (nI k)), some (.inl (sumN (fun j => if h.1 (5, i, h.2 (3, i, 0) j) 1 = h.1 (5, i, h.2 (3, i, 0) k) 1 then 1 else 0) q)), some (.inl (nI q))], [], h)) (fun q hq ih => ?_) ?_
  · refine Runs.go 3 rfl trivial ?_
    refine Runs.ifF (i_ge hq (by omega)) ?_
    refine Runs.go 12 rfl ⟨⟨trivial, (i_in (show q < 30 by omega) (by decide))⟩, (i_in hk (by decide))⟩ ?_
    rw [i_cl (show q < 2 ^ 31 by omega), i_cl (show k < 2 ^ 31 by omega)]
    rw [← nI_1] at ih
    refine Runs.ifS (fun c => ?_) (fun c => ?_)
    · simp only [sumN, if_pos c] at ih
      refine Runs.go 2 rfl trivial ?_
      refine Runs.cal rfl (c_flag n _ h) ?_
      refine Runs.go 4 rfl trivial ?_
      exact ih
    · simp only [sumN, if_neg c] at ih
      refine Runs.go 1 rfl trivial ?_
      refine Runs.cal rfl (c_flag n _ h) ?_
      refine Runs.go 4 rfl trivial ?_
      exact ih
  · refine Runs.go 3 rfl trivial ?_
    refine Runs.ifT (Int32.le_refl _) ?_
    refine Runs.go 1 rfl trivial ?_
    exact Runs.fin rfl trivial
def ctellDisk (h : DH) (i d : Nat) (x : Int32) : Int32 := if x = 0 then h.1 (4, i, d) 0 else if x = 1 then ccur h i d else if x = 2 then h.1 (4, i, d) 1 else if x = 3 then h.1 (4, i, d) 2 else if x = 4 then h.1 (4, i, d) 3 else if x = 5 then h.1 (4, i, d) 6 else if x = 6 then (if h.1 (4, i, d) 5 = 0 then 0 else 1) else if x = 7 then h.1 (4, i, d) 4 else -2
theorem wip_nI {x : Int32} {n : Nat} (hn : n < 2 ^ 31) (h : wip x 0 (nI n)) : ∃ k, k ≤ n ∧ x = nI k := by
  obtain ⟨k, hk, rfl⟩ := nI_of h.1
  exact ⟨k, by rcases Nat.lt_or_ge n k with z | z; exact absurd (nI_lt z hk) h.2; exact z, rfl⟩
theorem c_tellDisk (n i : Nat) (y x : Int32) (h : DH) : (∀ d, d < 12 → y = nI d → dEx (n + 3) 74 [.inr (0, i, 0), .inl y, .inl x] h (some (.inl (ctellDisk h i d x)), h)) ∧ (¬ wip y 0 11 → dEx (n + 3) 74 [.inr (0, i, 0), .inl y, .inl x] h (some (.inl (-1)), h)) := by
  constructor
  · rintro d hd rfl
    refine dx_74 ?_
    refine Runs.go 1 rfl trivial ?_
    refine Runs.cal rfl (c_isDisk n _ h) ?_
    rw [wi_1 (show wip (nI d) 0 11 from ⟨nI_pos (by omega), nI_nlt (show d ≤ 11 by omega) (by decide)⟩)]
    refine Runs.go 1 rfl trivial ?_
    refine Runs.ifF (by decide) ?_
    refine Runs.go 7 rfl ⟨trivial, (i_in hd (by decide))⟩ ?_
    rw [i_cl (show d < 2 ^ 31 by omega)]
    unfold ctellDisk
    refine Runs.sw1 (fun c => ?_) (fun c => ?_)
    · subst c
      refine Runs.go 2 rfl trivial ?_
      exact Runs.fin rfl trivial
    rw [if_neg c]
    refine Runs.sw1 (fun c => ?_) (fun c => ?_)
    · subst c
      refine Runs.go 2 rfl trivial ?_
      refine Runs.cal rfl (c_currentOf (n + 1) i d h) ?_
      exact Runs.fin rfl trivial
    rw [if_neg (show ¬ x = 1 from c)]
    refine Runs.sw1 (fun c => ?_) (fun c => ?_)
    · subst c
      refine Runs.go 2 rfl trivial ?_
      exact Runs.fin rfl trivial
    rw [if_neg (show ¬ x = 2 from c)]
    refine Runs.sw1 (fun c => ?_) (fun c => ?_)
    · subst c
      refine Runs.go 2 rfl trivial ?_
      exact Runs.fin rfl trivial
    rw [if_neg (show ¬ x = 3 from c)]
    refine Runs.sw1 (fun c => ?_) (fun c => ?_)
    · subst c
      refine Runs.go 2 rfl trivial ?_
      exact Runs.fin rfl trivial
    rw [if_neg (show ¬ x = 4 from c)]
    refine Runs.sw1 (fun c => ?_) (fun c => ?_)
    · subst c
      refine Runs.go 2 rfl trivial ?_
      exact Runs.fin rfl trivial
    rw [if_neg (show ¬ x = 5 from c)]
    refine Runs.sw1 (fun c => ?_) (fun c => ?_)
    · subst c
      refine Runs.go 2 rfl trivial ?_
      refine Runs.cal rfl (c_flag (n + 1) _ h) ?_
      exact Runs.fin rfl trivial
    rw [if_neg (show ¬ x = 6 from c)]
    refine Runs.sw1 (fun c => ?_) (fun c => ?_)
    · subst c
      refine Runs.go 2 rfl trivial ?_
      exact Runs.fin rfl trivial
    rw [if_neg (show ¬ x = 7 from c)]
    refine Runs.sw0 ?_
    refine Runs.go 1 rfl trivial ?_
    exact Runs.fin rfl trivial
  · intro hy
    refine dx_74 ?_
    refine Runs.go 1 rfl trivial ?_
    refine Runs.cal rfl (c_isDisk n _ h) ?_
    rw [wi_0 hy]
    refine Runs.go 1 rfl trivial ?_
    refine Runs.ifT rfl ?_
    refine Runs.go 1 rfl trivial ?_
    exact Runs.fin rfl trivial
def ctellRead (h : DH) (i k : Nat) (x : Int32) : Int32 := if x = 0 then h.1 (5, i, h.2 (3, i, 0) k) 1 else if x = 1 then h.1 (5, i, h.2 (3, i, 0) k) 2 else if x = 2 then h.1 (5, i, h.2 (3, i, 0) k) 3 else if x = 3 then cahead h i k else if x = 4 then h.1 (0, i, 0) 8 - h.1 (5, i, h.2 (3, i, 0) k) 4 else -2
theorem c_tellRead (n i : Nat) (y x : Int32) (h : DH) {c : Nat} (hc : h.1 (0, i, 0) 3 = nI c) (h30 : c ≤ 30) : dEx (n + 3) 76 [.inr (0, i, 0), .inl y, .inl x] h (some (.inl (match cplc h i c y with | some k => ctellRead h i k x | none => -1)), h) := by
  refine dx_76 ?_
  refine Runs.go 2 rfl trivial ?_
  refine Runs.cal rfl (c_placeOf (n + 1) i y h hc h30) ?_
  cases hp : cplc h i c y with
  | none =>
    refine Runs.go 3 rfl trivial ?_
    refine Runs.ifF (by decide) ?_
    refine Runs.go 1 rfl trivial ?_
    exact Runs.fin rfl trivial
  | some k =>
    have hk : k < 30 := by have := (fp_some hp).1; omega
    refine Runs.go 3 rfl trivial ?_
    rw [show oI (-1) (some k) = nI k from rfl]
    refine Runs.ifT (nI_pos' (by omega)) ?_
    refine Runs.go 7 rfl ⟨trivial, (i_in hk (by decide))⟩ ?_
    show Runs dT_76 (dEx (n + 2)) (dtsw 91 0 [56, 62, 68, 74, 80] x, [some (.inr (0, i, 0)), some (.inl y), some (.inl x), some (.inl (nI k)), some (.inr (5, i, h.2 (3, i, 0) (nI k).toNatClampNeg))], [], h) (some (.inl (ctellRead h i k x)), h)
    rw [i_cl (show k < 2 ^ 31 by omega)]
    unfold ctellRead
    refine Runs.sw1 (fun c => ?_) (fun c => ?_)
    · subst c
      refine Runs.go 2 rfl trivial ?_
      exact Runs.fin rfl trivial
    rw [if_neg c]
    refine Runs.sw1 (fun c => ?_) (fun c => ?_)
    · subst c
      refine Runs.go 2 rfl trivial ?_
      exact Runs.fin rfl trivial
    rw [if_neg (show ¬ x = 1 from c)]
    refine Runs.sw1 (fun c => ?_) (fun c => ?_)
    · subst c
      refine Runs.go 2 rfl trivial ?_
      exact Runs.fin rfl trivial
    rw [if_neg (show ¬ x = 2 from c)]
    refine Runs.sw1 (fun c => ?_) (fun c => ?_)
    · subst c
      refine Runs.go 2 rfl trivial ?_
      refine Runs.cal rfl (c_ahead n i k h hk) ?_
      exact Runs.fin rfl trivial
    rw [if_neg (show ¬ x = 3 from c)]
    refine Runs.sw1 (fun c => ?_) (fun c => ?_)
    · subst c
      refine Runs.go 5 rfl trivial ?_
      exact Runs.fin rfl trivial
    rw [if_neg (show ¬ x = 4 from c)]
    refine Runs.sw0 ?_
    refine Runs.go 1 rfl trivial ?_
    exact Runs.fin rfl trivial
