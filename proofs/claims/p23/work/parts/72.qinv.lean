/-! the property of its own: what its law asks of a row beside what whole's relation gives -/
def nS (g : Nat → Nat) : Nat → Nat
  | 0 => 0
  | n + 1 => nS g n + g n
theorem nS_cg {f g : Nat → Nat} : ∀ n, (∀ e, e < n → f e = g e) → nS f n = nS g n := by
  intro n
  induction n with
  | zero => intro _; rfl
  | succ n ih =>
    intro h
    show nS f n + f n = nS g n + g n
    rw [ih (fun e he => h e (by omega)), h n (by omega)]
theorem nS_le {f g : Nat → Nat} : ∀ n, (∀ e, e < n → f e ≤ g e) → nS f n ≤ nS g n := by
  intro n
  induction n with
  | zero => intro _; exact Nat.le_refl _
  | succ n ih =>
    intro h
    show nS f n + f n ≤ nS g n + g n
    have h1 := ih (fun e he => h e (by omega))
    have h2 := h n (by omega)
    omega
theorem nS_ch {f g : Nat → Nat} {d : Nat} : ∀ n, d < n → (∀ e, e < n → e ≠ d → f e = g e) → nS f n + g d = nS g n + f d := by
  intro n
  induction n with
  | zero => intro h; omega
  | succ n ih =>
    intro hd h
    show nS f n + f n + g d = nS g n + g n + f d
    by_cases z : d = n
    · subst z
      rw [nS_cg d (fun e he => h e (by omega) (by omega))]
      omega
    · have h1 := ih (by omega) (fun e he hne => h e (by omega) hne)
      have h2 := h n (by omega) (fun t => z t.symm)
      omega
theorem sumN_nS {f : Nat → Int32} {g : Nat → Nat} : ∀ n, (∀ e, e < n → f e = nI (g e)) → sumN f n = nI (nS g n) := by
  intro n
  induction n with
  | zero => intro _; rfl
  | succ n ih =>
    intro h
    show sumN f n + f n = nI (nS g n + g n)
    rw [ih (fun e he => h e (by omega)), h n (by omega), nI_add]
def isS (s : Nat → Int32) (e : Nat) : Nat := if s (oD e 0) = 1 then 1 else 0
def Q1 (s : Nat → Int32) : Prop := ∀ e, e < 12 → s (oD e 0) = 3 → s (oD e 2) = 3
/-- the numbers of the reads grow, and none is asked for yet -/
def Q2 (A : Int32) (L : List R5) : Prop := L.Pairwise (fun a b => a.1 < b.1) ∧ ∀ r ∈ L, ¬ r.1 < 0 ∧ r.1 < A
/-- each read was asked for before -/
def Q3 (t : Int32) (L : List R5) : Prop := ∀ r ∈ L, ¬ r.2.2.2.2 < 0 ∧ ¬ t < r.2.2.2.2
def Q4 (s : Nat → Int32) (c : Nat) : Prop := ∃ a b A : Nat, s 12 = nI A ∧ s 13 = nI a ∧ s 14 = nI b ∧ a + b + c ≤ A ∧ A ≤ 500
def Q5 (s : Nat → Int32) (B : Nat) : Prop := ∃ (σ : Nat → Nat) (S F : Nat), (∀ e, e < 12 → s (oD e 5) = nI (σ e)) ∧ nS σ 12 ≤ S ∧ F + nS (isS s) 12 ≤ S ∧ s 18 = nI S ∧ s 19 = nI F ∧ S ≤ B
def Q6 (s : Nat → Int32) (T : Nat) : Prop := ∃ a W : Nat, a ≤ 500 ∧ s 13 = nI a ∧ s 20 = nI W ∧ W ≤ a * T
def QI (T : Nat) (s : Nat → Int32) : Prop := s 10 = nI T ∧ T ≤ 110000 ∧ Q1 s ∧ Q2 (s 12) (LM s (cc s)) ∧ Q3 (s 10) (LM s (cc s)) ∧ Q4 s (cc s) ∧ Q5 s (12 * T) ∧ Q6 s T ∧ ¬ s 11 < 0
theorem Q1.cg {s s' : Nat → Int32} (h : Q1 s) (e : ∀ d, d < 12 → s' (oD d 0) = 3 → (s (oD d 0) = 3 ∧ s' (oD d 2) = s (oD d 2)) ∨ s' (oD d 2) = 3) : Q1 s' := fun d hd h3 => by
  rcases e d hd h3 with ⟨a, b⟩ | a
  · rw [b]; exact h d hd a
  · exact a
theorem Q5.cg {s s' : Nat → Int32} {B B' : Nat} (h : Q5 s B) (hB : B ≤ B') (e0 : ∀ d, d < 12 → s' (oD d 0) = 1 → s (oD d 0) = 1) (e5 : ∀ d, d < 12 → s' (oD d 5) = s (oD d 5) ∨ s' (oD d 5) = 0) (e18 : s' 18 = s 18) (e19 : s' 19 = s 19) : Q5 s' B' := by
  obtain ⟨σ, S, F, h1, h2, h3, h4, h5, h6⟩ := h
  refine ⟨fun d => if s' (oD d 5) = 0 then 0 else σ d, S, F, fun d hd => ?_, Nat.le_trans (nS_le 12 (fun d _ => ?_)) h2, Nat.le_trans (Nat.add_le_add_left (nS_le 12 (fun d hd => ?_)) F) h3, e18.trans h4, e19.trans h5, Nat.le_trans h6 hB⟩
  · show s' (oD d 5) = nI (if s' (oD d 5) = 0 then 0 else σ d)
    by_cases z : s' (oD d 5) = 0
    · rw [if_pos z, z]; rfl
    · rw [if_neg z]
      exact ((e5 d hd).resolve_right z).trans (h1 d hd)
  · split <;> omega
  · unfold isS
    by_cases z : s' (oD d 0) = 1
    · rw [if_pos z, if_pos (e0 d hd z)]
      exact Nat.le_refl _
    · rw [if_neg z]
      omega
/-- a start failed -/
theorem Q5.fail {s s' : Nat → Int32} {B d : Nat} (h : Q5 s B) (hd : d < 12) (z : s (oD d 0) = 1) (z' : ¬ s' (oD d 0) = 1) (e0 : ∀ e, e < 12 → e ≠ d → s' (oD e 0) = s (oD e 0)) (e5 : ∀ e, e < 12 → s' (oD e 5) = s (oD e 5)) (e18 : s' 18 = s 18) (e19 : s' 19 = s 19 + 1) : Q5 s' B := by
  obtain ⟨σ, S, F, h1, h2, h3, h4, h5, h6⟩ := h
  refine ⟨σ, S, F + 1, fun e he => (e5 e he).trans (h1 e he), h2, ?_, e18.trans h4, by rw [e19, h5, nI_1], h6⟩
  have := nS_ch (f := isS s') (g := isS s) (d := d) 12 hd (fun e he hne => by unfold isS; rw [e0 e he hne])
  have a1 : isS s d = 1 := if_pos z
  have a2 : isS s' d = 0 := if_neg z'
  omega
/-- a start begins -/
theorem Q5.start {s s' : Nat → Int32} {B d : Nat} (h : Q5 s B) (hd : d < 12) (z : ¬ s (oD d 0) = 1) (e0 : ∀ e, e < 12 → e ≠ d → s' (oD e 0) = s (oD e 0)) (e5 : ∀ e, e < 12 → e ≠ d → s' (oD e 5) = s (oD e 5)) (e5' : s' (oD d 5) = s (oD d 5) + 1) (e18 : s' 18 = s 18 + 1) (e19 : s' 19 = s 19) : Q5 s' (B + 1) := by
  obtain ⟨σ, S, F, h1, h2, h3, h4, h5, h6⟩ := h
  refine ⟨fun e => if e = d then σ d + 1 else σ e, S + 1, F, fun e he => ?_, ?_, ?_, by rw [e18, h4, nI_1], e19.trans h5, by omega⟩
  · show s' (oD e 5) = nI (if e = d then σ d + 1 else σ e)
    by_cases q : e = d
    · subst q; rw [if_pos rfl, e5', h1 e he, nI_1]
    · rw [if_neg q, e5 e he q]; exact h1 e he
  · have := nS_ch (f := fun e => if e = d then σ d + 1 else σ e) (g := σ) (d := d) 12 hd (fun e _ hne => if_neg hne)
    rw [if_pos rfl] at this
    omega
  · have := nS_ch (f := isS s') (g := isS s) (d := d) 12 hd (fun e he hne => by unfold isS; rw [e0 e he hne])
    have a1 : isS s d = 0 := if_neg z
    have a2 : isS s' d ≤ 1 := by unfold isS; split <;> omega
    omega
theorem Q2.sub {A : Int32} {L L' : List R5} (h : Q2 A L) (hs : L'.Sublist L) : Q2 A L' := ⟨h.1.sublist hs, fun r hr => h.2 r (hs.subset hr)⟩
theorem Q3.sub {t : Int32} {L L' : List R5} (h : Q3 t L) (hs : ∀ r ∈ L', r ∈ L) : Q3 t L' := fun r hr => h r (hs r hr)
/-- number, disk and hour of a read -/
def k3 (r : R5) : Int32 × Int32 × Int32 := (r.1, r.2.1, r.2.2.2.2)
theorem Q2.via {A : Int32} {L L' : List R5} (h : Q2 A L) (hs : (L'.map k3).Sublist (L.map k3)) : Q2 A L' := by
  have h1 : (L.map k3).Pairwise (fun a b => a.1 < b.1) := by
    rw [List.pairwise_map]
    exact h.1
  have h2 := h1.sublist hs
  rw [List.pairwise_map] at h2
  refine ⟨h2, fun r hr => ?_⟩
  have := hs.subset (List.mem_map_of_mem hr)
  obtain ⟨r', hr', e⟩ := List.mem_map.mp this
  have e1 : r'.1 = r.1 := congrArg (fun q => q.1) e
  rw [← e1]
  exact h.2 r' hr'
theorem Q3.via {t : Int32} {L L' : List R5} (h : Q3 t L) (hs : (L'.map k3).Sublist (L.map k3)) : Q3 t L' := fun r hr => by
  have := hs.subset (List.mem_map_of_mem hr)
  obtain ⟨r', hr', e⟩ := List.mem_map.mp this
  have e1 : r'.2.2.2.2 = r.2.2.2.2 := congrArg (fun q => q.2.2) e
  rw [← e1]
  exact h r' hr'
theorem Q3.mono {t t' : Int32} {L : List R5} (h : Q3 t L) (ht : t ≤ t') : Q3 t' L := fun r hr => ⟨(h r hr).1, fun q => (h r hr).2 (Int32.lt_of_le_of_lt ht q)⟩
