/-! reads as lists: what a tick does to them -/
def dk5 (r : R5) : Int32 := r.2.1
def lf (r : R5) : Int32 := r.2.2.2.1
def decR (r : R5) : R5 := (r.1, r.2.1, r.2.2.1, r.2.2.2.1 - 1, r.2.2.2.2)
def live (L : List R5) : List R5 := L.filter (fun r => decide (0 < lf r))
def wo (U : Int32 → Bool) (x : Int32) : Int32 → Bool := fun y => U y && decide (y ≠ x)
/-- the first read of each disk of U goes on by a tick; those that are over go -/
def pd : (Int32 → Bool) → List R5 → List R5
  | _, [] => []
  | U, r :: rs => if U (dk5 r) then (if lf r - 1 = 0 then pd (wo U (dk5 r)) rs else decR r :: pd (wo U (dk5 r)) rs) else r :: pd U rs
/-- how many are over by that -/
def nd : (Int32 → Bool) → List R5 → Int32
  | _, [] => 0
  | U, r :: rs => if U (dk5 r) then (if lf r - 1 = 0 then 1 + nd (wo U (dk5 r)) rs else nd (wo U (dk5 r)) rs) else nd U rs
/-- how long these waited, behind t -/
def wt (t : Int32) : (Int32 → Bool) → List R5 → Int32
  | _, [] => 0
  | U, r :: rs => if U (dk5 r) then (if lf r - 1 = 0 then (t - r.2.2.2.2) + wt t (wo U (dk5 r)) rs else wt t (wo U (dk5 r)) rs) else wt t U rs
def sg (d : Int32) : Int32 → Bool := fun y => decide (y = d)
def un (U : Int32 → Bool) (d : Int32) : Int32 → Bool := fun y => U y || decide (y = d)
theorem pd_no : ∀ (L : List R5) (U : Int32 → Bool), (∀ r ∈ L, U (dk5 r) = false) → pd U L = L ∧ nd U L = 0 ∧ ∀ t, wt t U L = 0 := by
  intro L
  induction L with
  | nil => intro U _; exact ⟨rfl, rfl, fun _ => rfl⟩
  | cons r L ih =>
    intro U h
    have h1 := h r List.mem_cons_self
    obtain ⟨a, b, c⟩ := ih U (fun r hr => h r (List.mem_cons_of_mem _ hr))
    refine ⟨?_, ?_, fun t => ?_⟩
    · simp only [pd, h1]
      simp [a]
    · simp only [nd, h1]
      simpa using b
    · simp only [wt, h1]
      simpa using c t
theorem pd_cg : ∀ (L : List R5) (U V : Int32 → Bool), (∀ r ∈ L, U (dk5 r) = V (dk5 r)) → pd U L = pd V L ∧ nd U L = nd V L ∧ ∀ t, wt t U L = wt t V L := by
  intro L
  induction L with
  | nil => intro U V _; exact ⟨rfl, rfl, fun _ => rfl⟩
  | cons r L ih =>
    intro U V h
    have h1 := h r List.mem_cons_self
    have h2 : ∀ q ∈ L, U (dk5 q) = V (dk5 q) := fun q hq => h q (List.mem_cons_of_mem _ hq)
    obtain ⟨a, b, c⟩ := ih U V h2
    obtain ⟨a', b', c'⟩ := ih (wo U (dk5 r)) (wo V (dk5 r)) (fun q hq => by simp [wo, h2 q hq])
    refine ⟨?_, ?_, fun t => ?_⟩
    · simp only [pd, h1, a, a']
    · simp only [nd, h1, b, b']
    · simp only [wt, h1, c t, c' t]
theorem wo_sg (d : Int32) : wo (sg d) d = fun _ => false := by
  funext y
  simp [wo, sg]
theorem pd_un : ∀ (L : List R5) (U : Int32 → Bool) (d : Int32), U d = false → pd (un U d) L = pd (sg d) (pd U L) ∧ nd (un U d) L = nd U L + nd (sg d) (pd U L) ∧ ∀ t, wt t (un U d) L = wt t U L + wt t (sg d) (pd U L) := by
  intro L
  induction L with
  | nil => intro U d _; exact ⟨rfl, by simp [nd, pd], fun t => by simp [wt, pd]⟩
  | cons r L ih =>
    intro U d hU
    by_cases hd : dk5 r = d
    · have h1 : un U d (dk5 r) = true := by simp [un, hd]
      have h2 : U (dk5 r) = false := by rw [hd]; exact hU
      have h3 : sg d (dk5 r) = true := by simp [sg, hd]
      have h4 : ∀ q ∈ L, wo (un U d) (dk5 r) (dk5 q) = U (dk5 q) := by
        intro q _
        rw [hd]
        by_cases e : dk5 q = d
        · simp [wo, un, e, hU]
        · simp [wo, un, e]
      obtain ⟨a, b, c⟩ := pd_cg L _ _ h4
      obtain ⟨z1, z2, z3⟩ := pd_no (pd U L) (wo (sg d) (dk5 r)) (fun q _ => by rw [hd, wo_sg])
      have e0 : pd U (r :: L) = r :: pd U L := by simp [pd, h2]
      have e1 : nd U (r :: L) = nd U L := by simp [nd, h2]
      have e2 : ∀ t, wt t U (r :: L) = wt t U L := fun t => by simp [wt, h2]
      refine ⟨?_, ?_, fun t => ?_⟩
      · rw [e0]
        simp only [pd, h1, h3, a, z1, if_true]
      · rw [e0, e1]
        simp only [nd, h1, h3, b, z2]
        by_cases z : lf r - 1 = 0
        · simp [z, Int32.add_comm]
        · simp [z]
      · rw [e0, e2]
        simp only [wt, h1, h3, c t, z3 t]
        by_cases z : lf r - 1 = 0
        · simp [z, Int32.add_comm]
        · simp [z]
    · have h3 : sg d (dk5 r) = false := by simp [sg, hd]
      have h3' : sg d (dk5 (decR r)) = false := h3
      have hw : wo (un U d) (dk5 r) = un (wo U (dk5 r)) d := by
        funext y
        by_cases e : y = d
        · subst e
          simp [wo, un, Ne.symm hd]
        · simp [wo, un, e]
      have hwd : wo U (dk5 r) d = false := by simp [wo, hU]
      cases hUr : U (dk5 r) with
      | true =>
        have h1 : un U d (dk5 r) = true := by simp [un, hUr]
        obtain ⟨a, b, c⟩ := ih (wo U (dk5 r)) d hwd
        refine ⟨?_, ?_, fun t => ?_⟩
        · simp only [pd, h1, hUr, hw, a]
          by_cases z : lf r - 1 = 0
          · simp [z]
          · simp [z, pd, h3']
        · simp only [pd, nd, h1, hUr, hw, b]
          by_cases z : lf r - 1 = 0
          · simp [z, Int32.add_assoc]
          · simp [z, nd, h3']
        · simp only [pd, wt, h1, hUr, hw, c t]
          by_cases z : lf r - 1 = 0
          · simp [z, Int32.add_assoc]
          · simp [z, wt, h3']
      | false =>
        have h1 : un U d (dk5 r) = false := by simp [un, hUr, hd]
        obtain ⟨a, b, c⟩ := ih U d hU
        refine ⟨?_, ?_, fun t => ?_⟩
        · simp only [pd, h1, hUr, a]
          simp [pd, h3]
        · simp only [pd, nd, h1, hUr, b]
          simp [nd, h3]
        · simp only [pd, wt, h1, hUr, c t]
          simp [wt, h3]
/-- reads of a disk -/
def hasD (x : Int32) (L : List R5) : Bool := L.any (fun r => decide (dk5 r = x))
def cntD (x : Int32) (L : List R5) : Nat := (L.filter (fun r => decide (dk5 r = x))).length
theorem hasD_pd (x : Int32) : ∀ (L : List R5) (U : Int32 → Bool), U x = false → hasD x (pd U L) = hasD x L := by
  intro L
  induction L with
  | nil => intro U _; rfl
  | cons r L ih =>
    intro U hU
    by_cases hx : dk5 r = x
    · have h2 : U (dk5 r) = false := by rw [hx]; exact hU
      simp only [pd, h2]
      simp [hasD, hx]
    · have h5 : hasD x (r :: L) = hasD x L := by simp [hasD, hx]
      rw [h5]
      cases hUr : U (dk5 r) with
      | true =>
        have := ih (wo U (dk5 r)) (by simp [wo, hU])
        simp only [pd, hUr]
        by_cases z : lf r - 1 = 0
        · simpa [z] using this
        · simp only [z, if_true, if_false]
          have h6 : ∀ M : List R5, hasD x (decR r :: M) = hasD x M := fun M => by
            have : dk5 (decR r) = dk5 r := rfl
            simp [hasD, this, hx]
          rw [h6]
          exact this
      | false =>
        have := ih U hU
        simp only [pd, hUr]
        have h6 : ∀ M : List R5, hasD x (r :: M) = hasD x M := fun M => by simp [hasD, hx]
        simpa [h6] using this
theorem hasD_0 {x : Int32} {L : List R5} : hasD x L = false ↔ ∀ r ∈ L, dk5 r ≠ x := by
  simp [hasD]
theorem cntD_0 {x : Int32} {L : List R5} : cntD x L = 0 ↔ hasD x L = false := by
  rw [hasD_0]
  simp [cntD, List.filter_eq_nil_iff]
/-- one step of the reference: the first read of d -/
theorem pd_sg_no {d : Int32} {L : List R5} (h : hasD d L = false) : pd (sg d) L = L ∧ nd (sg d) L = 0 ∧ ∀ t, wt t (sg d) L = 0 := pd_no L _ (fun r hr => by simpa [sg] using hasD_0.mp h r hr)
theorem pd_sg_at {d : Int32} : ∀ (L : List R5) (p : Nat) (r : R5), L[p]? = some r → dk5 r = d → (∀ j q, j < p → L[j]? = some q → dk5 q ≠ d) →
    pd (sg d) L = (if lf r - 1 = 0 then L.eraseIdx p else L.set p (decR r)) ∧ nd (sg d) L = (if lf r - 1 = 0 then 1 else 0) ∧ ∀ t, wt t (sg d) L = (if lf r - 1 = 0 then t - r.2.2.2.2 else 0) := by
  intro L
  induction L with
  | nil => intro p r h; simp at h
  | cons a L ih =>
    intro p r hp hd hf
    cases p with
    | zero =>
      simp only [List.getElem?_cons_zero, Option.some.injEq] at hp
      subst hp
      have h3 : sg d (dk5 a) = true := by simp [sg, hd]
      obtain ⟨z1, z2, z3⟩ := pd_no L (wo (sg d) (dk5 a)) (fun q _ => by rw [hd, wo_sg])
      refine ⟨?_, ?_, fun t => ?_⟩
      · simp only [pd, h3, z1]
        by_cases z : lf a - 1 = 0 <;> simp [z]
      · simp only [nd, h3, z2]
        by_cases z : lf a - 1 = 0 <;> simp [z]
      · simp only [wt, h3, z3 t]
        by_cases z : lf a - 1 = 0 <;> simp [z]
    | succ p =>
      simp only [List.getElem?_cons_succ] at hp
      have ha : dk5 a ≠ d := hf 0 a (by omega) rfl
      have h3 : sg d (dk5 a) = false := by simp [sg, ha]
      obtain ⟨z1, z2, z3⟩ := ih p r hp hd (fun j q hj hq => hf (j + 1) q (by omega) hq)
      refine ⟨?_, ?_, fun t => ?_⟩
      · simp only [pd, h3, z1]
        by_cases z : lf r - 1 = 0 <;> simp [z]
      · simp only [nd, h3, z2]
        simp
      · simp only [wt, h3, z3 t]
        simp
