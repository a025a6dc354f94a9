/-! an abstract machine for the code: objects named by keys, their ints and their moving references kept in two functions -/
abbrev DKey : Type := Nat × Nat × Nat
abbrev DV : Type := Int32 ⊕ DKey
abbrev DH : Type := (DKey → Nat → Int32) × (DKey → Nat → Nat)
abbrev DOp : Type := Nat × Nat × Nat × Nat × Int32 × List Nat
abbrev DTbl : Type := List (Option DOp)
abbrev DS : Type := Nat × List (Option DV) × List DV × DH
abbrev DRes : Type := Option DV × DH
def up1 (h : DH) (κ : DKey) (k : Nat) (x : Int32) : DH := (fun q j => if q = κ ∧ j = k then x else h.1 q j, h.2)
def up2 (h : DH) (κ : DKey) (k : Nat) (x : Nat) : DH := (h.1, fun q j => if q = κ ∧ j = k then x else h.2 q j)
/-- the class of a kind -/
def dcls : Nat → Nat
  | 0 => 0 | 4 => 1 | 5 => 2 | 6 => 3 | 7 => 4 | 9 => 5 | _ => 99
/-- fields that never change: final references, a String's coder: by kind and place the kind that is named, and how (0: the same number, m + 1: the number m, 99: the int 0) -/
def drefT : Nat → Nat → Option (Nat × Nat)
  | 0, 0 => some (1, 0)
  | 0, 1 => some (2, 0)
  | 0, 2 => some (3, 0)
  | 6, 0 => some (0, 1)
  | 6, 1 => some (0, 2)
  | 6, 2 => some (0, 3)
  | 6, 4 => some (7, 1)
  | 6, 5 => some (9, 1)
  | 7, 0 => some (8, 1)
  | 9, 0 => some (10, 1)
  | 9, 2 => some (11, 1)
  | 9, 3 => some (12, 1)
  | 9, 4 => some (13, 1)
  | _, _ => none
def dref : DKey → Nat → Option DV
  | (kd, i, _), k => match drefT kd k with
    | none => none
    | some (t, m) => match m with
      | 0 => some (.inr (t, i, 0))
      | 99 => some (.inl 0)
      | n + 1 => some (.inr (t, n, 0))
/-- arrays: the kind of their cells (0 int, 1 2 3 objects, 4 char, 5 boolean, 6 int and never written, 7 byte and never written, 8 the script), their length -/
def darr : DKey → Option (Nat × Nat)
  | (1, _, _) => some (0, 10)
  | (2, _, _) => some (1, 12)
  | (3, _, _) => some (2, 30)
  | (8, _, _) => some (3, 5)
  | (10, _, _) => some (4, 80)
  | (11, _, _) => some (0, 16)
  | (12, _, _) => some (0, 16)
  | (13, _, _) => some (0, 16)
  | (32, _, _) => some (6, 10)
  | (34, _, _) => some (8, 0)
  | (35, _, _) => some (0, 4)
  | (36, _, _) => some (0, 12)
  | _ => none
/-- the object that an array of objects holds at j, where p is what moves -/
def drk : DKey → Nat → Nat → Option DKey
  | (2, i, _), _, j => some (4, i, j)
  | (3, i, _), p, _ => some (5, i, p)
  | (8, _, _), p, _ => some (0, p, 0)
  | _, _, _ => none
def dcst (w j : Nat) : Int32 := (([[6, 20, 6, 4, 1, 90, 10, 3, 3, 40], [1, 1, 0, 0, 0, 10, 0, 0, 1, 0], [20, 50, 20, 20, 5, 500, 100, 20, 12, 500]] : List (List Int32)).getD w []).getD j 0
def dget : List (Option DV) → Nat → Option DV
  | [], _ => none
  | x :: _, 0 => x
  | _ :: xs, k + 1 => dget xs k
def dset : List (Option DV) → Nat → DV → List (Option DV)
  | [], _, _ => []
  | _ :: xs, 0, v => some v :: xs
  | x :: xs, k + 1, v => x :: dset xs k v
def dsetK {α : Type} : List (Option DV) → Nat → DV → (List (Option DV) → α) → α
  | [], _, _, f => f []
  | _ :: xs, 0, v, f => f (some v :: xs)
  | x :: xs, k + 1, v, f => dsetK xs k v (fun l => f (x :: l))
theorem dsetK_eq {α : Type} (L : List (Option DV)) : ∀ (a : Nat) (v : DV) (f : List (Option DV) → α), dsetK L a v f = f (dset L a v) := by
  induction L with
  | nil => intro a v f; cases a <;> rfl
  | cons x xs ih =>
    intro a v f
    cases a with
    | zero => rfl
    | succ k => exact ih k v (fun l => f (x :: l))
def dop (T : DTbl) (pc : Nat) : Option DOp := (T.getD pc none)
def dtsw (d : Nat) : Int32 → List Nat → Int32 → Nat
  | _, [], _ => d
  | v, t :: ts, x => if x = v then t else dtsw d (v + 1) ts x
def dgetf (ci k : Nat) (κ : DKey) (h : DH) : Option DV :=
  bif Nat.beq (dcls κ.1) ci then (match dref κ k with | some w => some w | none => some (.inl (h.1 κ k))) else none
def dputf (ci k : Nat) (κ : DKey) : Bool := Nat.beq (dcls κ.1) ci && Nat.blt κ.1 21 && (match dref κ k with | some _ => false | none => true)
/-- one instruction that is no call and no end: what it asks, and what comes -/
def dstep (T : DTbl) : DS → Option (Option Prop × DS)
  | (pc, L, st, h) => match dop T pc with
    | none => none
    | some (c, a, b, nx, v, ts) => match c with
      | 0 => some (none, nx, L, .inl v :: st, h)
      | 1 => match dget L a with
        | some (.inl x) => some (none, nx, L, .inl x :: st, h)
        | _ => none
      | 2 => match dget L a with
        | some (.inr κ) => some (none, nx, L, .inr κ :: st, h)
        | _ => none
      | 3 => match st with
        | .inl x :: st => dsetK L a (.inl x) (fun L => some (none, nx, L, st, h))
        | _ => none
      | 4 => match st with
        | .inr κ :: st => dsetK L a (.inr κ) (fun L => some (none, nx, L, st, h))
        | _ => none
      | 5 => match st with
        | .inr κ :: st => match dgetf a b κ h with
          | some w => some (none, nx, L, w :: st, h)
          | none => none
        | _ => none
      | 6 => match st with
        | .inl x :: .inr κ :: st => bif dputf a b κ then some (none, nx, L, st, up1 h κ b x) else none
        | _ => none
      | 7 => match st with
        | .inl x :: .inr κ :: st => bif dputf a b κ then some (some (x = 0 ∨ x = 1), nx, L, st, up1 h κ b x) else none
        | _ => none
      | 8 => some (none, nx, L, .inr (a, b, 0) :: st, h)
      | 10 => match st with
        | .inl i :: .inr κ :: st => match darr κ with
          | some (0, n) => some (some (vp_in i n), nx, L, .inl (h.1 κ i.toNatClampNeg) :: st, h)
          | some (6, n) => some (some (vp_in i n), nx, L, .inl (dcst κ.2.1 i.toNatClampNeg) :: st, h)
          | some (8, _) => some (some (vp_in i (h.2 κ 0)), nx, L, .inl (h.1 κ i.toNatClampNeg) :: st, h)
          | _ => none
        | _ => none
      | 11 => match st with
        | .inl x :: .inl i :: .inr κ :: st => match darr κ with
          | some (0, n) => some (some (vp_in i n), nx, L, st, up1 h κ i.toNatClampNeg x)
          | _ => none
        | _ => none
      | 12 => match st with
        | .inl i :: .inr κ :: st => match darr κ with
          | some (_, n) => match drk κ (h.2 κ i.toNatClampNeg) i.toNatClampNeg with
            | some w => some (some (vp_in i n), nx, L, .inr w :: st, h)
            | none => none
          | _ => none
        | _ => none
      | 13 => match st with
        | .inr w :: .inl i :: .inr κ :: st => match κ, w with
          | (3, i0, j0), (5, i1, k1) => some (some (vp_in i 30 ∧ i0 = i1), nx, L, st, up2 h (3, i0, j0) i.toNatClampNeg k1)
          | (8, i0, j0), (0, r, _) => some (some (vp_in i 5), nx, L, st, up2 h (8, i0, j0) i.toNatClampNeg r)
          | _, _ => none
        | _ => none
      | 18 => match st with
        | .inr κ :: st => match darr κ with
          | some (8, _) => some (none, nx, L, .inl (nI (h.2 κ 0)) :: st, h)
            | _ => none
        | _ => none
      | 19 => match st with
        | .inl y :: .inl x :: st => some (none, nx, L, .inl (x + y) :: st, h)
        | _ => none
      | 20 => match st with
        | .inl y :: .inl x :: st => some (none, nx, L, .inl (x - y) :: st, h)
        | _ => none
      | 21 => match st with
        | .inl y :: .inl x :: st => some (none, nx, L, .inl (x * y) :: st, h)
        | _ => none
      | 22 => match st with
        | .inl y :: .inl x :: st => some (none, nx, L, .inl (x &&& y) :: st, h)
        | _ => none
      | 23 => match st with
        | .inl y :: .inl x :: st => some (none, nx, L, .inl (x ||| y) :: st, h)
        | _ => none
      | 24 => match st with
        | .inl y :: .inl x :: st => some (none, nx, L, .inl (x <<< (y &&& 31)) :: st, h)
        | _ => none
      | 25 => match dget L a with
        | some (.inl x) => dsetK L a (.inl (x + v)) (fun L => some (none, nx, L, st, h))
        | _ => none
      | 26 => match st with
        | .inl x :: st => match b with
          | 0 => some (none, (if x = 0 then a else nx), L, st, h)
          | 1 => some (none, (if x = 0 then nx else a), L, st, h)
          | 2 => some (none, (if x < 0 then a else nx), L, st, h)
          | 3 => some (none, (if 0 ≤ x then a else nx), L, st, h)
          | 4 => some (none, (if 0 < x then a else nx), L, st, h)
          | _ => some (none, (if x ≤ 0 then a else nx), L, st, h)
        | _ => none
      | 27 => match st with
        | .inl y :: .inl x :: st => match b with
          | 0 => some (none, (if x = y then a else nx), L, st, h)
          | 1 => some (none, (if x = y then nx else a), L, st, h)
          | 2 => some (none, (if x < y then a else nx), L, st, h)
          | 3 => some (none, (if y ≤ x then a else nx), L, st, h)
          | 4 => some (none, (if y < x then a else nx), L, st, h)
          | _ => some (none, (if x ≤ y then a else nx), L, st, h)
        | _ => none
      | 28 => some (none, a, L, st, h)
      | 29 => match st with
        | .inl x :: st => some (none, dtsw a v ts x, L, st, h)
        | _ => none
      | 30 => match st with
        | w :: st => some (none, nx, L, w :: w :: st, h)
        | _ => none
      | 31 => match st with
        | w :: u :: st => some (none, nx, L, w :: u :: w :: u :: st, h)
        | _ => none
      | 45 => match st with
        | .inl y :: .inl x :: st => bif Nat.ble st.length 8 then some (none, nx, L, .inl (if x < y then y else x) :: st, h) else none
        | _ => none
      | 41 => match st with
        | .inl y :: .inl x :: st => some (none, nx, L, .inl (x >>> (y &&& 31)) :: st, h)
        | _ => none
      | 46 => match st with
        | .inl y :: .inl x :: st => some (some (¬ y = 0), nx, L, .inl (x - x / y * y) :: st, h)
        | _ => none
      | _ => none
def dpop : Nat → List DV → List DV → Option (List DV × List DV)
  | 0, st, acc => some (acc, st)
  | n + 1, v :: st, acc => dpop n st (v :: acc)
  | _ + 1, [], _ => none
/-- a call: whom, with what, where it goes on -/
def dcall (T : DTbl) : DS → Option (Nat × List DV × Nat × List (Option DV) × List DV)
  | (pc, L, st, _) => match dop T pc with
    | some (34, mid, n, nx, _, [ci]) => match dpop (n + 1) st [] with
      | some (.inr κ :: as, rest) => bif Nat.beq (dcls κ.1) ci && Nat.ble rest.length 8 then some (mid, .inr κ :: as, nx, L, rest) else none
      | _ => none
    | some (35, mid, n, nx, _, _) => match dpop n st [] with
      | some (as, rest) => bif Nat.ble rest.length 8 then some (mid, as, nx, L, rest) else none
      | _ => none
    | _ => none
/-- an end -/
def dfin (T : DTbl) : DS → Option (Prop × DRes)
  | (pc, _, st, h) => match dop T pc with
    | some (36, _) => match st with
      | [.inl x] => some (True, some (.inl x), h)
      | _ => none
    | some (37, _) => match st with
      | [] => some (True, none, h)
      | _ => none
    | some (42, _) => match st with
      | [.inl x] => some (x = 0 ∨ x = 1, some (.inl x), h)
      | _ => none
    | _ => none
abbrev DC : Type := Nat → List DV → DH → DRes → Prop
def dRunK (T : DTbl) (C : DC) (K : DS → Prop) : Nat → DS → Prop
  | 0, _ => False
  | n + 1, A =>
    (∃ (P : Option Prop) (B : DS), dstep T A = some (P, B) ∧ P.getD True ∧ dRunK T C K n B) ∨
    (∃ (mid : Nat) (as : List DV) (nx : Nat) (L : List (Option DV)) (st : List DV) (v : Option DV) (h1 : DH), dcall T A = some (mid, as, nx, L, st) ∧ C mid as A.2.2.2 (v, h1) ∧ dRunK T C K n (nx, L, v.toList ++ st, h1)) ∨
    K A
/-- a run that comes to K -/
def RunsK (T : DTbl) (C : DC) (K : DS → Prop) (A : DS) : Prop := ∃ n, dRunK T C K n A
def dEnd (T : DTbl) (r : DRes) : DS → Prop := fun A => ∃ G : Prop, dfin T A = some (G, r) ∧ G
/-- a run to the method's end -/
def Runs (T : DTbl) (C : DC) (A : DS) (r : DRes) : Prop := RunsK T C (dEnd T r) A
def dstepN (T : DTbl) : Nat → Prop → DS → Option (Prop × DS)
  | 0, G, A => some (G, A)
  | n + 1, G, A => match dstep T A with
    | some (none, B) => dstepN T n G B
    | some (some P, B) => dstepN T n (G ∧ P) B
    | none => none
theorem RunsK.go {T : DTbl} {C : DC} {K : DS → Prop} (n : Nat) {A B : DS} {G : Prop} (h : dstepN T n True A = some (G, B)) (g : G) (k : RunsK T C K B) : RunsK T C K A := by
  have key : ∀ (n : Nat) (G0 G : Prop) (A B : DS), dstepN T n G0 A = some (G, B) → G → RunsK T C K B → G0 ∧ RunsK T C K A := by
    intro n
    induction n with
    | zero =>
      intro G0 G A B h g k
      simp only [dstepN, Option.some.injEq, Prod.mk.injEq] at h
      obtain ⟨rfl, rfl⟩ := h
      exact ⟨g, k⟩
    | succ n ih =>
      intro G0 G A B h g k
      simp only [dstepN] at h
      cases hs : dstep T A with
      | none => rw [hs] at h; cases h
      | some q =>
        obtain ⟨P, B1⟩ := q
        rw [hs] at h
        cases P with
        | none =>
          obtain ⟨g1, k1⟩ := ih G0 G B1 B h g k
          obtain ⟨N, hN⟩ := k1
          exact ⟨g1, N + 1, Or.inl ⟨none, B1, hs, trivial, hN⟩⟩
        | some P =>
          obtain ⟨g1, k1⟩ := ih (G0 ∧ P) G B1 B h g k
          obtain ⟨N, hN⟩ := k1
          exact ⟨g1.1, N + 1, Or.inl ⟨some P, B1, hs, g1.2, hN⟩⟩
  exact (key n True G A B h g k).2
theorem RunsK.cal {T : DTbl} {C : DC} {K : DS → Prop} {pc : Nat} {L0 L : List (Option DV)} {st0 st : List DV} {h h1 : DH} {mid nx : Nat} {as : List DV} {v : DV} (hc : dcall T (pc, L0, st0, h) = some (mid, as, nx, L, st)) (hm : C mid as h (some v, h1)) (k : RunsK T C K (nx, L, v :: st, h1)) : RunsK T C K (pc, L0, st0, h) := by
  obtain ⟨n, hn⟩ := k
  exact ⟨n + 1, Or.inr (Or.inl ⟨mid, as, nx, L, st, some v, h1, hc, hm, hn⟩)⟩
theorem RunsK.calv {T : DTbl} {C : DC} {K : DS → Prop} {pc : Nat} {L0 L : List (Option DV)} {st0 st : List DV} {h h1 : DH} {mid nx : Nat} {as : List DV} (hc : dcall T (pc, L0, st0, h) = some (mid, as, nx, L, st)) (hm : C mid as h (none, h1)) (k : RunsK T C K (nx, L, st, h1)) : RunsK T C K (pc, L0, st0, h) := by
  obtain ⟨n, hn⟩ := k
  exact ⟨n + 1, Or.inr (Or.inl ⟨mid, as, nx, L, st, none, h1, hc, hm, hn⟩)⟩
theorem RunsK.stop {T : DTbl} {C : DC} {K : DS → Prop} {A : DS} (h : K A) : RunsK T C K A := ⟨1, Or.inr (Or.inr h)⟩
theorem RunsK.ifT {T : DTbl} {C : DC} {K : DS → Prop} {c : Prop} [Decidable c] {a b : Nat} {B : List (Option DV) × List DV × DH} (hc : c) (k : RunsK T C K (a, B)) : RunsK T C K ((if c then a else b), B) := by rw [if_pos hc]; exact k
theorem RunsK.ifF {T : DTbl} {C : DC} {K : DS → Prop} {c : Prop} [Decidable c] {a b : Nat} {B : List (Option DV) × List DV × DH} (hc : ¬ c) (k : RunsK T C K (b, B)) : RunsK T C K ((if c then a else b), B) := by rw [if_neg hc]; exact k
theorem Runs.go {T : DTbl} {C : DC} {r : DRes} (n : Nat) {A B : DS} {G : Prop} (h : dstepN T n True A = some (G, B)) (g : G) (k : Runs T C B r) : Runs T C A r := RunsK.go n h g k
theorem Runs.cal {T : DTbl} {C : DC} {r : DRes} {pc : Nat} {L0 L : List (Option DV)} {st0 st : List DV} {h h1 : DH} {mid nx : Nat} {as : List DV} {v : DV} (hc : dcall T (pc, L0, st0, h) = some (mid, as, nx, L, st)) (hm : C mid as h (some v, h1)) (k : Runs T C (nx, L, v :: st, h1) r) : Runs T C (pc, L0, st0, h) r := RunsK.cal hc hm k
theorem Runs.calv {T : DTbl} {C : DC} {r : DRes} {pc : Nat} {L0 L : List (Option DV)} {st0 st : List DV} {h h1 : DH} {mid nx : Nat} {as : List DV} (hc : dcall T (pc, L0, st0, h) = some (mid, as, nx, L, st)) (hm : C mid as h (none, h1)) (k : Runs T C (nx, L, st, h1) r) : Runs T C (pc, L0, st0, h) r := RunsK.calv hc hm k
theorem Runs.fin {T : DTbl} {C : DC} {r : DRes} {A : DS} {G : Prop} (h : dfin T A = some (G, r)) (g : G) : Runs T C A r := RunsK.stop ⟨G, h, g⟩
theorem Runs.ifT {T : DTbl} {C : DC} {r : DRes} {c : Prop} [Decidable c] {a b : Nat} {B : List (Option DV) × List DV × DH} (hc : c) (k : Runs T C (a, B) r) : Runs T C ((if c then a else b), B) r := by rw [if_pos hc]; exact k
theorem Runs.ifF {T : DTbl} {C : DC} {r : DRes} {c : Prop} [Decidable c] {a b : Nat} {B : List (Option DV) × List DV × DH} (hc : ¬ c) (k : Runs T C (b, B) r) : Runs T C ((if c then a else b), B) r := by rw [if_neg hc]; exact k
theorem Runs.ifS {T : DTbl} {C : DC} {r : DRes} {c : Prop} [Decidable c] {a b : Nat} {B : List (Option DV) × List DV × DH} (h1 : c → Runs T C (a, B) r) (h2 : ¬ c → Runs T C (b, B) r) : Runs T C ((if c then a else b), B) r := by
  by_cases hc : c
  · rw [if_pos hc]; exact h1 hc
  · rw [if_neg hc]; exact h2 hc
/-- a counted loop: state by state -/
theorem Runs.loop {T : DTbl} {C : DC} {r : DRes} (N : Nat) (S : Nat → DS) (hb : ∀ k, k < N → Runs T C (S (k + 1)) r → Runs T C (S k) r) (he : Runs T C (S N) r) : Runs T C (S 0) r := by
  have key : ∀ k, k ≤ N → Runs T C (S (N - k)) r := by
    intro k
    induction k with
    | zero => intro _; exact he
    | succ k ih =>
      intro hk
      refine hb (N - (k + 1)) (by omega) ?_
      rw [show N - (k + 1) + 1 = N - k from by omega]
      exact ih (by omega)
  have := key N (Nat.le_refl N)
  rwa [Nat.sub_self] at this
