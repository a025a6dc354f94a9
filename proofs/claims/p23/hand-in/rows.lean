section
-- ===== PART A: goes FIRST, ahead of the names: the tables' words, and 'selects' of the private methods out of them =====
/-- a private method of a class that the tables say can be made, by its rows of tables_1 -/
def lw_okq (q : MethodName × Nat) : Prop := (q.1.cls ≠ "java/lang/invoke/MethodHandle" ∧ q.1.cls ≠ "java/lang/invoke/VarHandle") ∧ Cond.instantiable q.1.cls q.2 ∈ tables_1 ∧ Cond.privateMethod q.1 ∈ tables_1 ∧ Cond.instanceMethod q.1 ∈ tables_1
theorem lw_p0 : lw_okq (⟨"DiskDrawer$State", "disksThat", "(I)I"⟩, 15) := ⟨⟨by decide +kernel, by decide +kernel⟩, List.mem_of_getElem? (i := 17) (by decide +kernel), List.mem_of_getElem? (i := 228) (by decide +kernel), List.mem_of_getElem? (i := 229) (by decide +kernel)⟩
theorem lw_p1 : lw_okq (⟨"DiskDrawer$State", "currentOf", "(LDiskDrawer$Disk;)I"⟩, 15) := ⟨⟨by decide +kernel, by decide +kernel⟩, List.mem_of_getElem? (i := 17) (by decide +kernel), List.mem_of_getElem? (i := 239) (by decide +kernel), List.mem_of_getElem? (i := 240) (by decide +kernel)⟩
theorem lw_p2 : lw_okq (⟨"DiskDrawer$State", "readsAheadOf", "(I)I"⟩, 15) := ⟨⟨by decide +kernel, by decide +kernel⟩, List.mem_of_getElem? (i := 17) (by decide +kernel), List.mem_of_getElem? (i := 255) (by decide +kernel), List.mem_of_getElem? (i := 256) (by decide +kernel)⟩
theorem lw_p3 : lw_okq (⟨"DiskDrawer$Past", "forgetOldest", "()V"⟩, 2) := ⟨⟨by decide +kernel, by decide +kernel⟩, List.mem_of_getElem? (i := 144) (by decide +kernel), List.mem_of_getElem? (i := 293) (by decide +kernel), List.mem_of_getElem? (i := 294) (by decide +kernel)⟩
theorem lw_p4 : lw_okq (⟨"DiskDrawer$State", "sweepReads", "()V"⟩, 15) := ⟨⟨by decide +kernel, by decide +kernel⟩, List.mem_of_getElem? (i := 17) (by decide +kernel), List.mem_of_getElem? (i := 305) (by decide +kernel), List.mem_of_getElem? (i := 306) (by decide +kernel)⟩
theorem lw_p5 : lw_okq (⟨"DiskDrawer$State", "cutOff", "()V"⟩, 15) := ⟨⟨by decide +kernel, by decide +kernel⟩, List.mem_of_getElem? (i := 17) (by decide +kernel), List.mem_of_getElem? (i := 366) (by decide +kernel), List.mem_of_getElem? (i := 367) (by decide +kernel)⟩
theorem lw_p6 : lw_okq (⟨"DiskDrawer$State", "goOnStarting", "()I"⟩, 15) := ⟨⟨by decide +kernel, by decide +kernel⟩, List.mem_of_getElem? (i := 17) (by decide +kernel), List.mem_of_getElem? (i := 371) (by decide +kernel), List.mem_of_getElem? (i := 372) (by decide +kernel)⟩
theorem lw_p7 : lw_okq (⟨"DiskDrawer$State", "loseReadsOf", "(I)V"⟩, 15) := ⟨⟨by decide +kernel, by decide +kernel⟩, List.mem_of_getElem? (i := 17) (by decide +kernel), List.mem_of_getElem? (i := 379) (by decide +kernel), List.mem_of_getElem? (i := 380) (by decide +kernel)⟩
theorem lw_p8 : lw_okq (⟨"DiskDrawer$State", "goOnReading", "()V"⟩, 15) := ⟨⟨by decide +kernel, by decide +kernel⟩, List.mem_of_getElem? (i := 17) (by decide +kernel), List.mem_of_getElem? (i := 387) (by decide +kernel), List.mem_of_getElem? (i := 388) (by decide +kernel)⟩
theorem lw_p9 : lw_okq (⟨"DiskDrawer$State", "restIdle", "(I)V"⟩, 15) := ⟨⟨by decide +kernel, by decide +kernel⟩, List.mem_of_getElem? (i := 17) (by decide +kernel), List.mem_of_getElem? (i := 391) (by decide +kernel), List.mem_of_getElem? (i := 392) (by decide +kernel)⟩
theorem lw_p10 : lw_okq (⟨"DiskDrawer$State", "beginStarts", "(I)V"⟩, 15) := ⟨⟨by decide +kernel, by decide +kernel⟩, List.mem_of_getElem? (i := 17) (by decide +kernel), List.mem_of_getElem? (i := 395) (by decide +kernel), List.mem_of_getElem? (i := 396) (by decide +kernel)⟩
theorem lw_p11 : lw_okq (⟨"DiskDrawer$State", "mayStart", "(II)Z"⟩, 15) := ⟨⟨by decide +kernel, by decide +kernel⟩, List.mem_of_getElem? (i := 17) (by decide +kernel), List.mem_of_getElem? (i := 399) (by decide +kernel), List.mem_of_getElem? (i := 400) (by decide +kernel)⟩
theorem lw_p12 : lw_okq (⟨"DiskDrawer$State", "currentAddedByStart", "()I"⟩, 15) := ⟨⟨by decide +kernel, by decide +kernel⟩, List.mem_of_getElem? (i := 17) (by decide +kernel), List.mem_of_getElem? (i := 403) (by decide +kernel), List.mem_of_getElem? (i := 404) (by decide +kernel)⟩
theorem lw_p13 : lw_okq (⟨"DiskDrawer$State", "strainFuse", "()V"⟩, 15) := ⟨⟨by decide +kernel, by decide +kernel⟩, List.mem_of_getElem? (i := 17) (by decide +kernel), List.mem_of_getElem? (i := 411) (by decide +kernel), List.mem_of_getElem? (i := 412) (by decide +kernel)⟩
theorem lw_p14 : lw_okq (⟨"DiskDrawer", "ticksUntilAllRead", "(II)I"⟩, 6) := ⟨⟨by decide +kernel, by decide +kernel⟩, List.mem_of_getElem? (i := 9) (by decide +kernel), List.mem_of_getElem? (i := 472) (by decide +kernel), List.mem_of_getElem? (i := 473) (by decide +kernel)⟩
theorem lw_p15 : lw_okq (⟨"DiskDrawer", "beginTrial", "(I)V"⟩, 6) := ⟨⟨by decide +kernel, by decide +kernel⟩, List.mem_of_getElem? (i := 9) (by decide +kernel), List.mem_of_getElem? (i := 476) (by decide +kernel), List.mem_of_getElem? (i := 477) (by decide +kernel)⟩
def lw_privs_1 : List (MethodName × Nat) := [(⟨"DiskDrawer$State", "disksThat", "(I)I"⟩, 15), (⟨"DiskDrawer$State", "currentOf", "(LDiskDrawer$Disk;)I"⟩, 15), (⟨"DiskDrawer$State", "readsAheadOf", "(I)I"⟩, 15), (⟨"DiskDrawer$Past", "forgetOldest", "()V"⟩, 2), (⟨"DiskDrawer$State", "sweepReads", "()V"⟩, 15), (⟨"DiskDrawer$State", "cutOff", "()V"⟩, 15), (⟨"DiskDrawer$State", "goOnStarting", "()I"⟩, 15), (⟨"DiskDrawer$State", "loseReadsOf", "(I)V"⟩, 15), (⟨"DiskDrawer$State", "goOnReading", "()V"⟩, 15), (⟨"DiskDrawer$State", "restIdle", "(I)V"⟩, 15), (⟨"DiskDrawer$State", "beginStarts", "(I)V"⟩, 15), (⟨"DiskDrawer$State", "mayStart", "(II)Z"⟩, 15), (⟨"DiskDrawer$State", "currentAddedByStart", "()I"⟩, 15), (⟨"DiskDrawer$State", "strainFuse", "()V"⟩, 15), (⟨"DiskDrawer", "ticksUntilAllRead", "(II)I"⟩, 6), (⟨"DiskDrawer", "beginTrial", "(I)V"⟩, 6)]
theorem lw_r1 : ∀ q ∈ lw_privs_1, lw_okq q := List.forall_mem_cons.mpr ⟨lw_p0, List.forall_mem_cons.mpr ⟨lw_p1, List.forall_mem_cons.mpr ⟨lw_p2, List.forall_mem_cons.mpr ⟨lw_p3, List.forall_mem_cons.mpr ⟨lw_p4, List.forall_mem_cons.mpr ⟨lw_p5, List.forall_mem_cons.mpr ⟨lw_p6, List.forall_mem_cons.mpr ⟨lw_p7, List.forall_mem_cons.mpr ⟨lw_p8, List.forall_mem_cons.mpr ⟨lw_p9, List.forall_mem_cons.mpr ⟨lw_p10, List.forall_mem_cons.mpr ⟨lw_p11, List.forall_mem_cons.mpr ⟨lw_p12, List.forall_mem_cons.mpr ⟨lw_p13, List.forall_mem_cons.mpr ⟨lw_p14, List.forall_mem_cons.mpr ⟨lw_p15, fun _ h => absurd h List.not_mem_nil⟩⟩⟩⟩⟩⟩⟩⟩⟩⟩⟩⟩⟩⟩⟩⟩
def lw_privs : List (MethodName × Nat) := lw_privs_1
def lw_tbl : List Cond := k2_sels lw_privs ++ tables_1
theorem lw_privs_ok : ∀ q ∈ lw_privs, lw_okq q := lw_r1
end
section
/-! an abstract machine for the code: objects named by keys, their ints and their moving references kept in two functions -/
abbrev DKey : Type := Nat × Nat × Nat
abbrev DV : Type := Int32 ⊕ DKey
abbrev DH : Type := (DKey → Nat → Int32) × (DKey → Nat → Nat)
abbrev DOp : Type := Nat × Nat × Nat × Nat × Int32 × List Nat
abbrev DTbl : Type := List (Option DOp)
abbrev DS : Type := Nat × List (Option DV) × List DV × DH
abbrev DRes : Type := Option DV × DH
def up1 (h : DH) (κ : DKey) (k : Nat) (x : Int32) : DH := (fun q j => if q = κ ∧ j = k then x else h.1 q j, h.2)
def up2 (h : DH) (κ : DKey) (k : Nat) (x : Nat) : DH := (h.1, fun q j => if q = κ ∧ j = k then x else h.2 q j)
/-- the class of a kind -/
def dcls : Nat → Nat
  | 0 => 0 | 4 => 1 | 5 => 2 | 6 => 3 | 7 => 4 | 9 => 5 | _ => 99
/-- fields that never change: final references, a String's coder: by kind and place the kind that is named, and how (0: the same number, m + 1: the number m, 99: the int 0) -/
def drefT : Nat → Nat → Option (Nat × Nat)
  | 0, 0 => some (1, 0)
  | 0, 1 => some (2, 0)
  | 0, 2 => some (3, 0)
  | 6, 0 => some (0, 1)
  | 6, 1 => some (0, 2)
  | 6, 2 => some (0, 3)
  | 6, 4 => some (7, 1)
  | 6, 5 => some (9, 1)
  | 7, 0 => some (8, 1)
  | 9, 0 => some (10, 1)
  | 9, 2 => some (11, 1)
  | 9, 3 => some (12, 1)
  | 9, 4 => some (13, 1)
  | _, _ => none
def dref : DKey → Nat → Option DV
  | (kd, i, _), k => match drefT kd k with
    | none => none
    | some (t, m) => match m with
      | 0 => some (.inr (t, i, 0))
      | 99 => some (.inl 0)
      | n + 1 => some (.inr (t, n, 0))
/-- arrays: the kind of their cells (0 int, 1 2 3 objects, 4 char, 5 boolean, 6 int and never written, 7 byte and never written, 8 the script), their length -/
def darr : DKey → Option (Nat × Nat)
  | (1, _, _) => some (0, 10)
  | (2, _, _) => some (1, 12)
  | (3, _, _) => some (2, 30)
  | (8, _, _) => some (3, 5)
  | (10, _, _) => some (4, 80)
  | (11, _, _) => some (0, 16)
  | (12, _, _) => some (0, 16)
  | (13, _, _) => some (0, 16)
  | (32, _, _) => some (6, 10)
  | (34, _, _) => some (8, 0)
  | (35, _, _) => some (0, 4)
  | (36, _, _) => some (0, 12)
  | _ => none
/-- the object that an array of objects holds at j, where p is what moves -/
def drk : DKey → Nat → Nat → Option DKey
  | (2, i, _), _, j => some (4, i, j)
  | (3, i, _), p, _ => some (5, i, p)
  | (8, _, _), p, _ => some (0, p, 0)
  | _, _, _ => none
def dcst (w j : Nat) : Int32 := (([[6, 20, 6, 4, 1, 90, 10, 3, 3, 40], [1, 1, 0, 0, 0, 10, 0, 0, 1, 0], [20, 50, 20, 20, 5, 500, 100, 20, 12, 500]] : List (List Int32)).getD w []).getD j 0
def dget : List (Option DV) → Nat → Option DV
  | [], _ => none
  | x :: _, 0 => x
  | _ :: xs, k + 1 => dget xs k
def dset : List (Option DV) → Nat → DV → List (Option DV)
  | [], _, _ => []
  | _ :: xs, 0, v => some v :: xs
  | x :: xs, k + 1, v => x :: dset xs k v
def dsetK {α : Type} : List (Option DV) → Nat → DV → (List (Option DV) → α) → α
  | [], _, _, f => f []
  | _ :: xs, 0, v, f => f (some v :: xs)
  | x :: xs, k + 1, v, f => dsetK xs k v (fun l => f (x :: l))
theorem dsetK_eq {α : Type} (L : List (Option DV)) : ∀ (a : Nat) (v : DV) (f : List (Option DV) → α), dsetK L a v f = f (dset L a v) := by
  induction L with
  | nil => intro a v f; cases a <;> rfl
  | cons x xs ih =>
    intro a v f
    cases a with
    | zero => rfl
    | succ k => exact ih k v (fun l => f (x :: l))
def dop (T : DTbl) (pc : Nat) : Option DOp := (T.getD pc none)
def dtsw (d : Nat) : Int32 → List Nat → Int32 → Nat
  | _, [], _ => d
  | v, t :: ts, x => if x = v then t else dtsw d (v + 1) ts x
def dgetf (ci k : Nat) (κ : DKey) (h : DH) : Option DV :=
  bif Nat.beq (dcls κ.1) ci then (match dref κ k with | some w => some w | none => some (.inl (h.1 κ k))) else none
def dputf (ci k : Nat) (κ : DKey) : Bool := Nat.beq (dcls κ.1) ci && Nat.blt κ.1 21 && (match dref κ k with | some _ => false | none => true)
/-- one instruction that is no call and no end: what it asks, and what comes -/
def dstep (T : DTbl) : DS → Option (Option Prop × DS)
  | (pc, L, st, h) => match dop T pc with
    | none => none
    | some (c, a, b, nx, v, ts) => match c with
      | 0 => some (none, nx, L, .inl v :: st, h)
      | 1 => match dget L a with
        | some (.inl x) => some (none, nx, L, .inl x :: st, h)
        | _ => none
      | 2 => match dget L a with
        | some (.inr κ) => some (none, nx, L, .inr κ :: st, h)
        | _ => none
      | 3 => match st with
        | .inl x :: st => dsetK L a (.inl x) (fun L => some (none, nx, L, st, h))
        | _ => none
      | 4 => match st with
        | .inr κ :: st => dsetK L a (.inr κ) (fun L => some (none, nx, L, st, h))
        | _ => none
      | 5 => match st with
        | .inr κ :: st => match dgetf a b κ h with
          | some w => some (none, nx, L, w :: st, h)
          | none => none
        | _ => none
      | 6 => match st with
        | .inl x :: .inr κ :: st => bif dputf a b κ then some (none, nx, L, st, up1 h κ b x) else none
        | _ => none
      | 7 => match st with
        | .inl x :: .inr κ :: st => bif dputf a b κ then some (some (x = 0 ∨ x = 1), nx, L, st, up1 h κ b x) else none
        | _ => none
      | 8 => some (none, nx, L, .inr (a, b, 0) :: st, h)
      | 10 => match st with
        | .inl i :: .inr κ :: st => match darr κ with
          | some (0, n) => some (some (vp_in i n), nx, L, .inl (h.1 κ i.toNatClampNeg) :: st, h)
          | some (6, n) => some (some (vp_in i n), nx, L, .inl (dcst κ.2.1 i.toNatClampNeg) :: st, h)
          | some (8, _) => some (some (vp_in i (h.2 κ 0)), nx, L, .inl (h.1 κ i.toNatClampNeg) :: st, h)
          | _ => none
        | _ => none
      | 11 => match st with
        | .inl x :: .inl i :: .inr κ :: st => match darr κ with
          | some (0, n) => some (some (vp_in i n), nx, L, st, up1 h κ i.toNatClampNeg x)
          | _ => none
        | _ => none
      | 12 => match st with
        | .inl i :: .inr κ :: st => match darr κ with
          | some (_, n) => match drk κ (h.2 κ i.toNatClampNeg) i.toNatClampNeg with
            | some w => some (some (vp_in i n), nx, L, .inr w :: st, h)
            | none => none
          | _ => none
        | _ => none
      | 13 => match st with
        | .inr w :: .inl i :: .inr κ :: st => match κ, w with
          | (3, i0, j0), (5, i1, k1) => some (some (vp_in i 30 ∧ i0 = i1), nx, L, st, up2 h (3, i0, j0) i.toNatClampNeg k1)
          | (8, i0, j0), (0, r, _) => some (some (vp_in i 5), nx, L, st, up2 h (8, i0, j0) i.toNatClampNeg r)
          | _, _ => none
        | _ => none
      | 18 => match st with
        | .inr κ :: st => match darr κ with
          | some (8, _) => some (none, nx, L, .inl (nI (h.2 κ 0)) :: st, h)
            | _ => none
        | _ => none
      | 19 => match st with
        | .inl y :: .inl x :: st => some (none, nx, L, .inl (x + y) :: st, h)
        | _ => none
      | 20 => match st with
        | .inl y :: .inl x :: st => some (none, nx, L, .inl (x - y) :: st, h)
        | _ => none
      | 21 => match st with
        | .inl y :: .inl x :: st => some (none, nx, L, .inl (x * y) :: st, h)
        | _ => none
      | 22 => match st with
        | .inl y :: .inl x :: st => some (none, nx, L, .inl (x &&& y) :: st, h)
        | _ => none
      | 23 => match st with
        | .inl y :: .inl x :: st => some (none, nx, L, .inl (x ||| y) :: st, h)
        | _ => none
      | 24 => match st with
        | .inl y :: .inl x :: st => some (none, nx, L, .inl (x <<< (y &&& 31)) :: st, h)
        | _ => none
      | 25 => match dget L a with
        | some (.inl x) => dsetK L a (.inl (x + v)) (fun L => some (none, nx, L, st, h))
        | _ => none
      | 26 => match st with
        | .inl x :: st => match b with
          | 0 => some (none, (if x = 0 then a else nx), L, st, h)
          | 1 => some (none, (if x = 0 then nx else a), L, st, h)
          | 2 => some (none, (if x < 0 then a else nx), L, st, h)
          | 3 => some (none, (if 0 ≤ x then a else nx), L, st, h)
          | 4 => some (none, (if 0 < x then a else nx), L, st, h)
          | _ => some (none, (if x ≤ 0 then a else nx), L, st, h)
        | _ => none
      | 27 => match st with
        | .inl y :: .inl x :: st => match b with
          | 0 => some (none, (if x = y then a else nx), L, st, h)
          | 1 => some (none, (if x = y then nx else a), L, st, h)
          | 2 => some (none, (if x < y then a else nx), L, st, h)
          | 3 => some (none, (if y ≤ x then a else nx), L, st, h)
          | 4 => some (none, (if y < x then a else nx), L, st, h)
          | _ => some (none, (if x ≤ y then a else nx), L, st, h)
        | _ => none
      | 28 => some (none, a, L, st, h)
      | 29 => match st with
        | .inl x :: st => some (none, dtsw a v ts x, L, st, h)
        | _ => none
      | 30 => match st with
        | w :: st => some (none, nx, L, w :: w :: st, h)
        | _ => none
      | 31 => match st with
        | w :: u :: st => some (none, nx, L, w :: u :: w :: u :: st, h)
        | _ => none
      | 45 => match st with
        | .inl y :: .inl x :: st => bif Nat.ble st.length 8 then some (none, nx, L, .inl (if x < y then y else x) :: st, h) else none
        | _ => none
      | 41 => match st with
        | .inl y :: .inl x :: st => some (none, nx, L, .inl (x >>> (y &&& 31)) :: st, h)
        | _ => none
      | 46 => match st with
        | .inl y :: .inl x :: st => some (some (¬ y = 0), nx, L, .inl (x - x / y * y) :: st, h)
        | _ => none
      | _ => none
def dpop : Nat → List DV → List DV → Option (List DV × List DV)
  | 0, st, acc => some (acc, st)
  | n + 1, v :: st, acc => dpop n st (v :: acc)
  | _ + 1, [], _ => none
/-- a call: whom, with what, where it goes on -/
def dcall (T : DTbl) : DS → Option (Nat × List DV × Nat × List (Option DV) × List DV)
  | (pc, L, st, _) => match dop T pc with
    | some (34, mid, n, nx, _, [ci]) => match dpop (n + 1) st [] with
      | some (.inr κ :: as, rest) => bif Nat.beq (dcls κ.1) ci && Nat.ble rest.length 8 then some (mid, .inr κ :: as, nx, L, rest) else none
      | _ => none
    | some (35, mid, n, nx, _, _) => match dpop n st [] with
      | some (as, rest) => bif Nat.ble rest.length 8 then some (mid, as, nx, L, rest) else none
      | _ => none
    | _ => none
/-- an end -/
def dfin (T : DTbl) : DS → Option (Prop × DRes)
  | (pc, _, st, h) => match dop T pc with
    | some (36, _) => match st with
      | [.inl x] => some (True, some (.inl x), h)
      | _ => none
    | some (37, _) => match st with
      | [] => some (True, none, h)
      | _ => none
    | some (42, _) => match st with
      | [.inl x] => some (x = 0 ∨ x = 1, some (.inl x), h)
      | _ => none
    | _ => none
abbrev DC : Type := Nat → List DV → DH → DRes → Prop
def dRunK (T : DTbl) (C : DC) (K : DS → Prop) : Nat → DS → Prop
  | 0, _ => False
  | n + 1, A =>
    (∃ (P : Option Prop) (B : DS), dstep T A = some (P, B) ∧ P.getD True ∧ dRunK T C K n B) ∨
    (∃ (mid : Nat) (as : List DV) (nx : Nat) (L : List (Option DV)) (st : List DV) (v : Option DV) (h1 : DH), dcall T A = some (mid, as, nx, L, st) ∧ C mid as A.2.2.2 (v, h1) ∧ dRunK T C K n (nx, L, v.toList ++ st, h1)) ∨
    K A
/-- a run that comes to K -/
def RunsK (T : DTbl) (C : DC) (K : DS → Prop) (A : DS) : Prop := ∃ n, dRunK T C K n A
def dEnd (T : DTbl) (r : DRes) : DS → Prop := fun A => ∃ G : Prop, dfin T A = some (G, r) ∧ G
/-- a run to the method's end -/
def Runs (T : DTbl) (C : DC) (A : DS) (r : DRes) : Prop := RunsK T C (dEnd T r) A
def dstepN (T : DTbl) : Nat → Prop → DS → Option (Prop × DS)
  | 0, G, A => some (G, A)
  | n + 1, G, A => match dstep T A with
    | some (none, B) => dstepN T n G B
    | some (some P, B) => dstepN T n (G ∧ P) B
    | none => none
theorem RunsK.go {T : DTbl} {C : DC} {K : DS → Prop} (n : Nat) {A B : DS} {G : Prop} (h : dstepN T n True A = some (G, B)) (g : G) (k : RunsK T C K B) : RunsK T C K A := by
  have key : ∀ (n : Nat) (G0 G : Prop) (A B : DS), dstepN T n G0 A = some (G, B) → G → RunsK T C K B → G0 ∧ RunsK T C K A := by
    intro n
    induction n with
    | zero =>
      intro G0 G A B h g k
      simp only [dstepN, Option.some.injEq, Prod.mk.injEq] at h
      obtain ⟨rfl, rfl⟩ := h
      exact ⟨g, k⟩
    | succ n ih =>
      intro G0 G A B h g k
      simp only [dstepN] at h
      cases hs : dstep T A with
      | none => rw [hs] at h; cases h
      | some q =>
        obtain ⟨P, B1⟩ := q
        rw [hs] at h
        cases P with
        | none =>
          obtain ⟨g1, k1⟩ := ih G0 G B1 B h g k
          obtain ⟨N, hN⟩ := k1
          exact ⟨g1, N + 1, Or.inl ⟨none, B1, hs, trivial, hN⟩⟩
        | some P =>
          obtain ⟨g1, k1⟩ := ih (G0 ∧ P) G B1 B h g k
          obtain ⟨N, hN⟩ := k1
          exact ⟨g1.1, N + 1, Or.inl ⟨some P, B1, hs, g1.2, hN⟩⟩
  exact (key n True G A B h g k).2
theorem RunsK.cal {T : DTbl} {C : DC} {K : DS → Prop} {pc : Nat} {L0 L : List (Option DV)} {st0 st : List DV} {h h1 : DH} {mid nx : Nat} {as : List DV} {v : DV} (hc : dcall T (pc, L0, st0, h) = some (mid, as, nx, L, st)) (hm : C mid as h (some v, h1)) (k : RunsK T C K (nx, L, v :: st, h1)) : RunsK T C K (pc, L0, st0, h) := by
  obtain ⟨n, hn⟩ := k
  exact ⟨n + 1, Or.inr (Or.inl ⟨mid, as, nx, L, st, some v, h1, hc, hm, hn⟩)⟩
theorem RunsK.calv {T : DTbl} {C : DC} {K : DS → Prop} {pc : Nat} {L0 L : List (Option DV)} {st0 st : List DV} {h h1 : DH} {mid nx : Nat} {as : List DV} (hc : dcall T (pc, L0, st0, h) = some (mid, as, nx, L, st)) (hm : C mid as h (none, h1)) (k : RunsK T C K (nx, L, st, h1)) : RunsK T C K (pc, L0, st0, h) := by
  obtain ⟨n, hn⟩ := k
  exact ⟨n + 1, Or.inr (Or.inl ⟨mid, as, nx, L, st, none, h1, hc, hm, hn⟩)⟩
theorem RunsK.stop {T : DTbl} {C : DC} {K : DS → Prop} {A : DS} (h : K A) : RunsK T C K A := ⟨1, Or.inr (Or.inr h)⟩
theorem RunsK.ifT {T : DTbl} {C : DC} {K : DS → Prop} {c : Prop} [Decidable c] {a b : Nat} {B : List (Option DV) × List DV × DH} (hc : c) (k : RunsK T C K (a, B)) : RunsK T C K ((if c then a else b), B) := by rw [if_pos hc]; exact k
theorem RunsK.ifF {T : DTbl} {C : DC} {K : DS → Prop} {c : Prop} [Decidable c] {a b : Nat} {B : List (Option DV) × List DV × DH} (hc : ¬ c) (k : RunsK T C K (b, B)) : RunsK T C K ((if c then a else b), B) := by rw [if_neg hc]; exact k
theorem Runs.go {T : DTbl} {C : DC} {r : DRes} (n : Nat) {A B : DS} {G : Prop} (h : dstepN T n True A = some (G, B)) (g : G) (k : Runs T C B r) : Runs T C A r := RunsK.go n h g k
theorem Runs.cal {T : DTbl} {C : DC} {r : DRes} {pc : Nat} {L0 L : List (Option DV)} {st0 st : List DV} {h h1 : DH} {mid nx : Nat} {as : List DV} {v : DV} (hc : dcall T (pc, L0, st0, h) = some (mid, as, nx, L, st)) (hm : C mid as h (some v, h1)) (k : Runs T C (nx, L, v :: st, h1) r) : Runs T C (pc, L0, st0, h) r := RunsK.cal hc hm k
theorem Runs.calv {T : DTbl} {C : DC} {r : DRes} {pc : Nat} {L0 L : List (Option DV)} {st0 st : List DV} {h h1 : DH} {mid nx : Nat} {as : List DV} (hc : dcall T (pc, L0, st0, h) = some (mid, as, nx, L, st)) (hm : C mid as h (none, h1)) (k : Runs T C (nx, L, st, h1) r) : Runs T C (pc, L0, st0, h) r := RunsK.calv hc hm k
theorem Runs.fin {T : DTbl} {C : DC} {r : DRes} {A : DS} {G : Prop} (h : dfin T A = some (G, r)) (g : G) : Runs T C A r := RunsK.stop ⟨G, h, g⟩
theorem Runs.ifT {T : DTbl} {C : DC} {r : DRes} {c : Prop} [Decidable c] {a b : Nat} {B : List (Option DV) × List DV × DH} (hc : c) (k : Runs T C (a, B) r) : Runs T C ((if c then a else b), B) r := by rw [if_pos hc]; exact k
theorem Runs.ifF {T : DTbl} {C : DC} {r : DRes} {c : Prop} [Decidable c] {a b : Nat} {B : List (Option DV) × List DV × DH} (hc : ¬ c) (k : Runs T C (b, B) r) : Runs T C ((if c then a else b), B) r := by rw [if_neg hc]; exact k
theorem Runs.ifS {T : DTbl} {C : DC} {r : DRes} {c : Prop} [Decidable c] {a b : Nat} {B : List (Option DV) × List DV × DH} (h1 : c → Runs T C (a, B) r) (h2 : ¬ c → Runs T C (b, B) r) : Runs T C ((if c then a else b), B) r := by
  by_cases hc : c
  · rw [if_pos hc]; exact h1 hc
  · rw [if_neg hc]; exact h2 hc
/-- a counted loop: state by state -/
theorem Runs.loop {T : DTbl} {C : DC} {r : DRes} (N : Nat) (S : Nat → DS) (hb : ∀ k, k < N → Runs T C (S (k + 1)) r → Runs T C (S k) r) (he : Runs T C (S N) r) : Runs T C (S 0) r := by
  have key : ∀ k, k ≤ N → Runs T C (S (N - k)) r := by
    intro k
    induction k with
    | zero => intro _; exact he
    | succ k ih =>
      intro hk
      refine hb (N - (k + 1)) (by omega) ?_
      rw [show N - (k + 1) + 1 = N - k from by omega]
      exact ih (by omega)
  have := key N (Nat.le_refl N)
  rwa [Nat.sub_self] at this
end
section
/-! the code of each method as a table of the abstract machine, printed by a program; dms lists the methods: name, bytes, locals, answer, own class, table -/
def dT_0 : DTbl := [some (2, 0, 0, 1, 0, []), some (5, 3, 4, 4, 0, []), none, none, some (2, 0, 0, 5, 0, []), some (5, 3, 0, 8, 0, []), none, none, some (34, 1, 1, 11, 0, [4]), none, none, some (2, 0, 0, 12, 0, []), some (5, 3, 4, 15, 0, []), none, none, some (2, 0, 0, 16, 0, []), some (5, 3, 0, 19, 0, []), none, none, some (1, 1, 0, 20, 0, []), some (1, 2, 0, 21, 0, []), some (34, 5, 2, 24, 0, [0]), none, none, some (34, 7, 1, 27, 0, [4]), none, none, some (36, 0, 0, 28, 0, [])] -- DiskDrawer.set
def dT_1 : DTbl := [some (2, 0, 0, 1, 0, []), some (5, 4, 0, 4, 0, []), none, none, some (2, 0, 0, 5, 0, []), some (5, 4, 1, 8, 0, []), none, none, some (12, 0, 0, 9, 0, []), some (2, 1, 0, 10, 0, []), some (34, 2, 1, 13, 0, [0]), none, none, some (37, 0, 0, 14, 0, [])] -- DiskDrawer$Past.prepare
def dT_2 : DTbl := [some (0, 0, 0, 1, 0, []), some (3, 2, 0, 2, 0, []), some (1, 2, 0, 3, 0, []), some (0, 0, 0, 5, 10, []), none, some (27, 26, 3, 8, 0, []), none, none, some (2, 0, 0, 9, 0, []), some (5, 0, 0, 12, 0, []), none, none, some (1, 2, 0, 13, 0, []), some (2, 1, 0, 14, 0, []), some (5, 0, 0, 17, 0, []), none, none, some (1, 2, 0, 18, 0, []), some (10, 0, 0, 19, 0, []), some (11, 0, 0, 20, 0, []), some (25, 2, 0, 23, 1, []), none, none, some (28, 2, 0, 26, 0, []), none, none, some (0, 0, 0, 27, 0, []), some (3, 2, 0, 28, 0, []), some (1, 2, 0, 29, 0, []), some (0, 0, 0, 31, 12, []), none, some (27, 55, 3, 34, 0, []), none, none, some (2, 0, 0, 35, 0, []), some (5, 0, 1, 38, 0, []), none, none, some (1, 2, 0, 39, 0, []), some (12, 0, 0, 40, 0, []), some (2, 1, 0, 41, 0, []), some (5, 0, 1, 44, 0, []), none, none, some (1, 2, 0, 45, 0, []), some (12, 0, 0, 46, 0, []), some (34, 3, 1, 49, 0, [1]), none, none, some (25, 2, 0, 52, 1, []), none, none, some (28, 28, 0, 55, 0, []), none, none, some (0, 0, 0, 56, 0, []), some (3, 2, 0, 57, 0, []), some (1, 2, 0, 58, 0, []), some (2, 1, 0, 59, 0, []), some (5, 0, 3, 62, 0, []), none, none, some (27, 86, 3, 65, 0, []), none, none, some (2, 0, 0, 66, 0, []), some (5, 0, 2, 69, 0, []), none, none, some (1, 2, 0, 70, 0, []), some (12, 0, 0, 71, 0, []), some (2, 1, 0, 72, 0, []), some (5, 0, 2, 75, 0, []), none, none, some (1, 2, 0, 76, 0, []), some (12, 0, 0, 77, 0, []), some (34, 4, 1, 80, 0, [2]), none, none, some (25, 2, 0, 83, 1, []), none, none, some (28, 57, 0, 86, 0, []), none, none, some (2, 0, 0, 87, 0, []), some (2, 1, 0, 88, 0, []), some (5, 0, 3, 91, 0, []), none, none, some (6, 0, 3, 94, 0, []), none, none, some (2, 0, 0, 95, 0, []), some (2, 1, 0, 96, 0, []), some (5, 0, 4, 99, 0, []), none, none, some (6, 0, 4, 102, 0, []), none, none, some (2, 0, 0, 103, 0, []), some (2, 1, 0, 104, 0, []), some (5, 0, 5, 107, 0, []), none, none, some (6, 0, 5, 110, 0, []), none, none, some (2, 0, 0, 111, 0, []), some (2, 1, 0, 112, 0, []), some (5, 0, 6, 115, 0, []), none, none, some (6, 0, 6, 118, 0, []), none, none, some (2, 0, 0, 119, 0, []), some (2, 1, 0, 120, 0, []), some (5, 0, 7, 123, 0, []), none, none, some (6, 0, 7, 126, 0, []), none, none, some (2, 0, 0, 127, 0, []), some (2, 1, 0, 128, 0, []), some (5, 0, 8, 131, 0, []), none, none, some (6, 0, 8, 134, 0, []), none, none, some (2, 0, 0, 135, 0, []), some (2, 1, 0, 136, 0, []), some (5, 0, 9, 139, 0, []), none, none, some (6, 0, 9, 142, 0, []), none, none, some (2, 0, 0, 143, 0, []), some (2, 1, 0, 144, 0, []), some (5, 0, 10, 147, 0, []), none, none, some (7, 0, 10, 150, 0, []), none, none, some (2, 0, 0, 151, 0, []), some (2, 1, 0, 152, 0, []), some (5, 0, 11, 155, 0, []), none, none, some (6, 0, 11, 158, 0, []), none, none, some (2, 0, 0, 159, 0, []), some (2, 1, 0, 160, 0, []), some (5, 0, 12, 163, 0, []), none, none, some (6, 0, 12, 166, 0, []), none, none, some (2, 0, 0, 167, 0, []), some (2, 1, 0, 168, 0, []), some (5, 0, 13, 171, 0, []), none, none, some (6, 0, 13, 174, 0, []), none, none, some (2, 0, 0, 175, 0, []), some (2, 1, 0, 176, 0, []), some (5, 0, 14, 179, 0, []), none, none, some (6, 0, 14, 182, 0, []), none, none, some (37, 0, 0, 183, 0, [])] -- DiskDrawer$State.copyFrom
def dT_3 : DTbl := [some (2, 0, 0, 1, 0, []), some (2, 1, 0, 2, 0, []), some (5, 1, 0, 5, 0, []), none, none, some (6, 1, 0, 8, 0, []), none, none, some (2, 0, 0, 9, 0, []), some (2, 1, 0, 10, 0, []), some (5, 1, 1, 13, 0, []), none, none, some (6, 1, 1, 16, 0, []), none, none, some (2, 0, 0, 17, 0, []), some (2, 1, 0, 18, 0, []), some (5, 1, 2, 21, 0, []), none, none, some (6, 1, 2, 24, 0, []), none, none, some (2, 0, 0, 25, 0, []), some (2, 1, 0, 26, 0, []), some (5, 1, 3, 29, 0, []), none, none, some (6, 1, 3, 32, 0, []), none, none, some (2, 0, 0, 33, 0, []), some (2, 1, 0, 34, 0, []), some (5, 1, 4, 37, 0, []), none, none, some (6, 1, 4, 40, 0, []), none, none, some (2, 0, 0, 41, 0, []), some (2, 1, 0, 42, 0, []), some (5, 1, 5, 45, 0, []), none, none, some (7, 1, 5, 48, 0, []), none, none, some (2, 0, 0, 49, 0, []), some (2, 1, 0, 50, 0, []), some (5, 1, 6, 53, 0, []), none, none, some (6, 1, 6, 56, 0, []), none, none, some (37, 0, 0, 57, 0, [])] -- DiskDrawer$Disk.copyFrom
def dT_4 : DTbl := [some (2, 0, 0, 1, 0, []), some (2, 1, 0, 2, 0, []), some (5, 2, 0, 5, 0, []), none, none, some (6, 2, 0, 8, 0, []), none, none, some (2, 0, 0, 9, 0, []), some (2, 1, 0, 10, 0, []), some (5, 2, 1, 13, 0, []), none, none, some (6, 2, 1, 16, 0, []), none, none, some (2, 0, 0, 17, 0, []), some (2, 1, 0, 18, 0, []), some (5, 2, 2, 21, 0, []), none, none, some (6, 2, 2, 24, 0, []), none, none, some (2, 0, 0, 25, 0, []), some (2, 1, 0, 26, 0, []), some (5, 2, 3, 29, 0, []), none, none, some (6, 2, 3, 32, 0, []), none, none, some (2, 0, 0, 33, 0, []), some (2, 1, 0, 34, 0, []), some (5, 2, 4, 37, 0, []), none, none, some (6, 2, 4, 40, 0, []), none, none, some (37, 0, 0, 41, 0, [])] -- DiskDrawer$Read.copyFrom
def dT_5 : DTbl := [some (1, 1, 0, 1, 0, []), some (0, 0, 0, 2, 0, []), some (0, 0, 0, 4, 9, []), none, some (35, 6, 3, 7, 0, []), none, none, some (26, 12, 1, 10, 0, []), none, none, some (0, 0, 0, 11, (-1), []), some (36, 0, 0, 12, 0, []), some (1, 2, 0, 13, 0, []), some (8, 32, 1, 16, 0, []), none, none, some (1, 1, 0, 17, 0, []), some (10, 0, 0, 18, 0, []), some (8, 32, 2, 21, 0, []), none, none, some (1, 1, 0, 22, 0, []), some (10, 0, 0, 23, 0, []), some (35, 6, 3, 26, 0, []), none, none, some (26, 32, 1, 29, 0, []), none, none, some (0, 0, 0, 31, (-2), []), none, some (36, 0, 0, 32, 0, []), some (2, 0, 0, 33, 0, []), some (5, 0, 0, 36, 0, []), none, none, some (1, 1, 0, 37, 0, []), some (10, 0, 0, 38, 0, []), some (3, 3, 0, 39, 0, []), some (1, 3, 0, 40, 0, []), some (1, 2, 0, 41, 0, []), some (27, 47, 1, 44, 0, []), none, none, some (0, 0, 0, 46, (-5), []), none, some (36, 0, 0, 47, 0, []), some (2, 0, 0, 48, 0, []), some (5, 0, 0, 51, 0, []), none, none, some (1, 1, 0, 52, 0, []), some (1, 2, 0, 53, 0, []), some (11, 0, 0, 54, 0, []), some (1, 3, 0, 55, 0, []), some (36, 0, 0, 56, 0, [])] -- DiskDrawer$State.setNumber
def dT_6 : DTbl := [some (1, 0, 0, 1, 0, []), some (1, 1, 0, 2, 0, []), some (27, 14, 2, 5, 0, []), none, none, some (1, 0, 0, 6, 0, []), some (1, 2, 0, 7, 0, []), some (27, 14, 4, 10, 0, []), none, none, some (0, 0, 0, 11, 1, []), some (28, 15, 0, 14, 0, []), none, none, some (0, 0, 0, 15, 0, []), some (42, 0, 0, 16, 0, [])] -- DiskDrawer.isWithin
def dT_7 : DTbl := [some (1, 1, 0, 1, 0, []), some (26, 6, 3, 4, 0, []), none, none, some (1, 1, 0, 5, 0, []), some (36, 0, 0, 6, 0, []), some (2, 0, 0, 7, 0, []), some (5, 4, 1, 10, 0, []), none, none, some (0, 0, 0, 11, 4, []), some (27, 27, 3, 14, 0, []), none, none, some (2, 0, 0, 15, 0, []), some (30, 0, 0, 16, 0, []), some (5, 4, 1, 19, 0, []), none, none, some (0, 0, 0, 20, 1, []), some (19, 0, 0, 21, 0, []), some (6, 4, 1, 24, 0, []), none, none, some (28, 31, 0, 27, 0, []), none, none, some (2, 0, 0, 28, 0, []), some (34, 8, 0, 31, 0, [4]), none, none, some (1, 1, 0, 32, 0, []), some (36, 0, 0, 33, 0, [])] -- DiskDrawer$Past.recorded
def dT_8 : DTbl := [some (2, 0, 0, 1, 0, []), some (5, 4, 0, 4, 0, []), none, none, some (0, 0, 0, 5, 0, []), some (12, 0, 0, 6, 0, []), some (4, 1, 0, 7, 0, []), some (0, 0, 0, 8, 0, []), some (3, 2, 0, 9, 0, []), some (1, 2, 0, 10, 0, []), some (0, 0, 0, 11, 4, []), some (27, 34, 3, 14, 0, []), none, none, some (2, 0, 0, 15, 0, []), some (5, 4, 0, 18, 0, []), none, none, some (1, 2, 0, 19, 0, []), some (2, 0, 0, 20, 0, []), some (5, 4, 0, 23, 0, []), none, none, some (1, 2, 0, 24, 0, []), some (0, 0, 0, 25, 1, []), some (19, 0, 0, 26, 0, []), some (12, 0, 0, 27, 0, []), some (13, 0, 0, 28, 0, []), some (25, 2, 0, 31, 1, []), none, none, some (28, 9, 0, 34, 0, []), none, none, some (2, 0, 0, 35, 0, []), some (5, 4, 0, 38, 0, []), none, none, some (0, 0, 0, 39, 4, []), some (2, 1, 0, 40, 0, []), some (13, 0, 0, 41, 0, []), some (37, 0, 0, 42, 0, [])] -- DiskDrawer$Past.forgetOldest
def dT_9 : DTbl := [some (2, 0, 0, 1, 0, []), some (5, 3, 4, 4, 0, []), none, none, some (2, 0, 0, 5, 0, []), some (5, 3, 0, 8, 0, []), none, none, some (34, 1, 1, 11, 0, [4]), none, none, some (2, 0, 0, 12, 0, []), some (5, 3, 4, 15, 0, []), none, none, some (2, 0, 0, 16, 0, []), some (5, 3, 0, 19, 0, []), none, none, some (1, 1, 0, 20, 0, []), some (1, 2, 0, 21, 0, []), some (34, 10, 2, 24, 0, [0]), none, none, some (34, 7, 1, 27, 0, [4]), none, none, some (36, 0, 0, 28, 0, [])] -- DiskDrawer.read
def dT_10 : DTbl := [some (1, 1, 0, 1, 0, []), some (35, 11, 1, 4, 0, []), none, none, some (26, 9, 1, 7, 0, []), none, none, some (0, 0, 0, 8, (-1), []), some (36, 0, 0, 9, 0, []), some (1, 2, 0, 10, 0, []), some (0, 0, 0, 11, 1, []), some (0, 0, 0, 13, 50, []), none, some (35, 6, 3, 16, 0, []), none, none, some (26, 22, 1, 19, 0, []), none, none, some (0, 0, 0, 21, (-2), []), none, some (36, 0, 0, 22, 0, []), some (2, 0, 0, 23, 0, []), some (5, 0, 1, 26, 0, []), none, none, some (1, 1, 0, 27, 0, []), some (12, 0, 0, 28, 0, []), some (5, 1, 0, 31, 0, []), none, none, some (0, 0, 0, 32, 3, []), some (27, 38, 1, 35, 0, []), none, none, some (0, 0, 0, 37, (-4), []), none, some (36, 0, 0, 38, 0, []), some (2, 0, 0, 39, 0, []), some (5, 0, 3, 42, 0, []), none, none, some (0, 0, 0, 44, 30, []), none, some (27, 57, 3, 47, 0, []), none, none, some (2, 0, 0, 48, 0, []), some (5, 0, 4, 51, 0, []), none, none, some (0, 0, 0, 54, 500, []), none, none, some (27, 60, 2, 57, 0, []), none, none, some (0, 0, 0, 59, (-3), []), none, some (36, 0, 0, 60, 0, []), some (2, 0, 0, 61, 0, []), some (5, 0, 2, 64, 0, []), none, none, some (2, 0, 0, 65, 0, []), some (5, 0, 3, 68, 0, []), none, none, some (12, 0, 0, 69, 0, []), some (4, 3, 0, 70, 0, []), some (2, 3, 0, 71, 0, []), some (2, 0, 0, 72, 0, []), some (5, 0, 4, 75, 0, []), none, none, some (6, 2, 0, 78, 0, []), none, none, some (2, 3, 0, 79, 0, []), some (1, 1, 0, 80, 0, []), some (6, 2, 1, 83, 0, []), none, none, some (2, 3, 0, 84, 0, []), some (1, 2, 0, 85, 0, []), some (6, 2, 2, 88, 0, []), none, none, some (2, 3, 0, 89, 0, []), some (1, 2, 0, 90, 0, []), some (6, 2, 3, 93, 0, []), none, none, some (2, 3, 0, 94, 0, []), some (2, 0, 0, 95, 0, []), some (5, 0, 8, 98, 0, []), none, none, some (6, 2, 4, 101, 0, []), none, none, some (2, 0, 0, 102, 0, []), some (30, 0, 0, 103, 0, []), some (5, 0, 3, 106, 0, []), none, none, some (0, 0, 0, 107, 1, []), some (19, 0, 0, 108, 0, []), some (6, 0, 3, 111, 0, []), none, none, some (2, 0, 0, 112, 0, []), some (30, 0, 0, 113, 0, []), some (5, 0, 4, 116, 0, []), none, none, some (0, 0, 0, 117, 1, []), some (19, 0, 0, 118, 0, []), some (6, 0, 4, 121, 0, []), none, none, some (2, 0, 0, 122, 0, []), some (5, 0, 1, 125, 0, []), none, none, some (1, 1, 0, 126, 0, []), some (12, 0, 0, 127, 0, []), some (30, 0, 0, 128, 0, []), some (5, 1, 6, 131, 0, []), none, none, some (0, 0, 0, 132, 1, []), some (19, 0, 0, 133, 0, []), some (6, 1, 6, 136, 0, []), none, none, some (2, 3, 0, 137, 0, []), some (5, 2, 0, 140, 0, []), none, none, some (36, 0, 0, 141, 0, [])] -- DiskDrawer$State.addRead
def dT_11 : DTbl := [some (1, 0, 0, 1, 0, []), some (0, 0, 0, 2, 0, []), some (0, 0, 0, 4, 11, []), none, some (35, 6, 3, 7, 0, []), none, none, some (42, 0, 0, 8, 0, [])] -- DiskDrawer$State.isDisk
def dT_12 : DTbl := [some (2, 0, 0, 1, 0, []), some (5, 3, 4, 4, 0, []), none, none, some (2, 0, 0, 5, 0, []), some (5, 3, 0, 8, 0, []), none, none, some (34, 1, 1, 11, 0, [4]), none, none, some (2, 0, 0, 12, 0, []), some (5, 3, 4, 15, 0, []), none, none, some (2, 0, 0, 16, 0, []), some (5, 3, 0, 19, 0, []), none, none, some (1, 1, 0, 20, 0, []), some (34, 13, 1, 23, 0, [0]), none, none, some (34, 7, 1, 26, 0, [4]), none, none, some (36, 0, 0, 27, 0, [])] -- DiskDrawer.drop
def dT_13 : DTbl := [some (2, 0, 0, 1, 0, []), some (1, 1, 0, 2, 0, []), some (34, 14, 1, 5, 0, [0]), none, none, some (3, 2, 0, 6, 0, []), some (1, 2, 0, 7, 0, []), some (26, 12, 3, 10, 0, []), none, none, some (0, 0, 0, 11, (-1), []), some (36, 0, 0, 12, 0, []), some (2, 0, 0, 13, 0, []), some (5, 0, 2, 16, 0, []), none, none, some (1, 2, 0, 17, 0, []), some (12, 0, 0, 18, 0, []), some (0, 0, 0, 19, 0, []), some (6, 2, 3, 22, 0, []), none, none, some (2, 0, 0, 23, 0, []), some (34, 15, 0, 26, 0, [0]), none, none, some (2, 0, 0, 27, 0, []), some (5, 0, 3, 30, 0, []), none, none, some (36, 0, 0, 31, 0, [])] -- DiskDrawer$State.dropRead
def dT_14 : DTbl := [some (0, 0, 0, 1, 0, []), some (3, 2, 0, 2, 0, []), some (1, 2, 0, 3, 0, []), some (2, 0, 0, 4, 0, []), some (5, 0, 3, 7, 0, []), none, none, some (27, 31, 3, 10, 0, []), none, none, some (2, 0, 0, 11, 0, []), some (5, 0, 2, 14, 0, []), none, none, some (1, 2, 0, 15, 0, []), some (12, 0, 0, 16, 0, []), some (5, 2, 0, 19, 0, []), none, none, some (1, 1, 0, 20, 0, []), some (27, 25, 1, 23, 0, []), none, none, some (1, 2, 0, 24, 0, []), some (36, 0, 0, 25, 0, []), some (25, 2, 0, 28, 1, []), none, none, some (28, 2, 0, 31, 0, []), none, none, some (0, 0, 0, 32, (-1), []), some (36, 0, 0, 33, 0, [])] -- DiskDrawer$State.placeOf
def dT_15 : DTbl := [some (0, 0, 0, 1, 0, []), some (3, 1, 0, 2, 0, []), some (0, 0, 0, 3, 0, []), some (3, 2, 0, 4, 0, []), some (1, 2, 0, 5, 0, []), some (2, 0, 0, 6, 0, []), some (5, 0, 3, 9, 0, []), none, none, some (27, 75, 3, 12, 0, []), none, none, some (2, 0, 0, 13, 0, []), some (5, 0, 2, 16, 0, []), none, none, some (1, 2, 0, 17, 0, []), some (12, 0, 0, 18, 0, []), some (4, 3, 0, 19, 0, []), some (2, 3, 0, 20, 0, []), some (5, 2, 3, 23, 0, []), none, none, some (26, 51, 5, 26, 0, []), none, none, some (2, 0, 0, 27, 0, []), some (5, 0, 2, 30, 0, []), none, none, some (1, 2, 0, 31, 0, []), some (2, 0, 0, 32, 0, []), some (5, 0, 2, 35, 0, []), none, none, some (1, 1, 0, 36, 0, []), some (12, 0, 0, 37, 0, []), some (13, 0, 0, 38, 0, []), some (2, 0, 0, 39, 0, []), some (5, 0, 2, 42, 0, []), none, none, some (1, 1, 0, 43, 0, []), some (2, 3, 0, 44, 0, []), some (13, 0, 0, 45, 0, []), some (25, 1, 0, 48, 1, []), none, none, some (28, 69, 0, 51, 0, []), none, none, some (2, 0, 0, 52, 0, []), some (5, 0, 1, 55, 0, []), none, none, some (2, 3, 0, 56, 0, []), some (5, 2, 1, 59, 0, []), none, none, some (12, 0, 0, 60, 0, []), some (30, 0, 0, 61, 0, []), some (5, 1, 6, 64, 0, []), none, none, some (0, 0, 0, 65, 1, []), some (20, 0, 0, 66, 0, []), some (6, 1, 6, 69, 0, []), none, none, some (25, 2, 0, 72, 1, []), none, none, some (28, 4, 0, 75, 0, []), none, none, some (2, 0, 0, 76, 0, []), some (1, 1, 0, 77, 0, []), some (6, 0, 3, 80, 0, []), none, none, some (37, 0, 0, 81, 0, [])] -- DiskDrawer$State.sweepReads
def dT_16 : DTbl := [some (2, 0, 0, 1, 0, []), some (5, 3, 4, 4, 0, []), none, none, some (2, 0, 0, 5, 0, []), some (5, 3, 0, 8, 0, []), none, none, some (34, 1, 1, 11, 0, [4]), none, none, some (2, 0, 0, 12, 0, []), some (5, 3, 4, 15, 0, []), none, none, some (2, 0, 0, 16, 0, []), some (5, 3, 0, 19, 0, []), none, none, some (1, 1, 0, 20, 0, []), some (34, 17, 1, 23, 0, [0]), none, none, some (34, 7, 1, 26, 0, [4]), none, none, some (36, 0, 0, 27, 0, [])] -- DiskDrawer.fail
def dT_17 : DTbl := [some (1, 1, 0, 1, 0, []), some (35, 11, 1, 4, 0, []), none, none, some (26, 9, 1, 7, 0, []), none, none, some (0, 0, 0, 8, (-1), []), some (36, 0, 0, 9, 0, []), some (2, 0, 0, 10, 0, []), some (5, 0, 1, 13, 0, []), none, none, some (1, 1, 0, 14, 0, []), some (12, 0, 0, 15, 0, []), some (5, 1, 0, 18, 0, []), none, none, some (0, 0, 0, 19, 3, []), some (27, 25, 1, 22, 0, []), none, none, some (0, 0, 0, 24, (-4), []), none, some (36, 0, 0, 25, 0, []), some (2, 0, 0, 26, 0, []), some (5, 0, 1, 29, 0, []), none, none, some (1, 1, 0, 30, 0, []), some (12, 0, 0, 31, 0, []), some (5, 1, 5, 34, 0, []), none, none, some (26, 40, 0, 37, 0, []), none, none, some (0, 0, 0, 39, (-5), []), none, some (36, 0, 0, 40, 0, []), some (2, 0, 0, 41, 0, []), some (5, 0, 1, 44, 0, []), none, none, some (1, 1, 0, 45, 0, []), some (12, 0, 0, 46, 0, []), some (0, 0, 0, 47, 1, []), some (7, 1, 5, 50, 0, []), none, none, some (0, 0, 0, 51, 0, []), some (3, 2, 0, 52, 0, []), some (0, 0, 0, 53, 0, []), some (3, 3, 0, 54, 0, []), some (1, 3, 0, 55, 0, []), some (0, 0, 0, 57, 12, []), none, some (27, 81, 3, 60, 0, []), none, none, some (1, 2, 0, 61, 0, []), some (2, 0, 0, 62, 0, []), some (5, 0, 1, 65, 0, []), none, none, some (1, 3, 0, 66, 0, []), some (12, 0, 0, 67, 0, []), some (5, 1, 5, 70, 0, []), none, none, some (35, 18, 1, 73, 0, []), none, none, some (19, 0, 0, 74, 0, []), some (3, 2, 0, 75, 0, []), some (25, 3, 0, 78, 1, []), none, none, some (28, 54, 0, 81, 0, []), none, none, some (1, 2, 0, 82, 0, []), some (36, 0, 0, 83, 0, [])] -- DiskDrawer$State.planFault
def dT_18 : DTbl := [some (1, 0, 0, 1, 0, []), some (26, 8, 0, 4, 0, []), none, none, some (0, 0, 0, 5, 1, []), some (28, 9, 0, 8, 0, []), none, none, some (0, 0, 0, 9, 0, []), some (36, 0, 0, 10, 0, [])] -- DiskDrawer.flag
def dT_19 : DTbl := [some (2, 0, 0, 1, 0, []), some (5, 3, 4, 4, 0, []), none, none, some (2, 0, 0, 5, 0, []), some (5, 3, 0, 8, 0, []), none, none, some (34, 1, 1, 11, 0, [4]), none, none, some (2, 0, 0, 12, 0, []), some (5, 3, 4, 15, 0, []), none, none, some (2, 0, 0, 16, 0, []), some (5, 3, 0, 19, 0, []), none, none, some (1, 1, 0, 20, 0, []), some (34, 20, 1, 23, 0, [0]), none, none, some (34, 7, 1, 26, 0, [4]), none, none, some (36, 0, 0, 27, 0, [])] -- DiskDrawer.replace
def dT_20 : DTbl := [some (1, 1, 0, 1, 0, []), some (35, 11, 1, 4, 0, []), none, none, some (26, 9, 1, 7, 0, []), none, none, some (0, 0, 0, 8, (-1), []), some (36, 0, 0, 9, 0, []), some (2, 0, 0, 10, 0, []), some (5, 0, 1, 13, 0, []), none, none, some (1, 1, 0, 14, 0, []), some (12, 0, 0, 15, 0, []), some (5, 1, 0, 18, 0, []), none, none, some (3, 2, 0, 19, 0, []), some (2, 0, 0, 20, 0, []), some (5, 0, 1, 23, 0, []), none, none, some (1, 1, 0, 24, 0, []), some (12, 0, 0, 25, 0, []), some (34, 21, 0, 28, 0, [1]), none, none, some (0, 0, 0, 29, 0, []), some (3, 3, 0, 30, 0, []), some (1, 3, 0, 31, 0, []), some (2, 0, 0, 32, 0, []), some (5, 0, 3, 35, 0, []), none, none, some (27, 75, 3, 38, 0, []), none, none, some (2, 0, 0, 39, 0, []), some (5, 0, 2, 42, 0, []), none, none, some (1, 3, 0, 43, 0, []), some (12, 0, 0, 44, 0, []), some (5, 2, 1, 47, 0, []), none, none, some (1, 1, 0, 48, 0, []), some (27, 69, 1, 51, 0, []), none, none, some (2, 0, 0, 52, 0, []), some (5, 0, 2, 55, 0, []), none, none, some (1, 3, 0, 56, 0, []), some (12, 0, 0, 57, 0, []), some (2, 0, 0, 58, 0, []), some (5, 0, 2, 61, 0, []), none, none, some (1, 3, 0, 62, 0, []), some (12, 0, 0, 63, 0, []), some (5, 2, 2, 66, 0, []), none, none, some (6, 2, 3, 69, 0, []), none, none, some (25, 3, 0, 72, 1, []), none, none, some (28, 30, 0, 75, 0, []), none, none, some (1, 2, 0, 76, 0, []), some (36, 0, 0, 77, 0, [])] -- DiskDrawer$State.replaceDisk
def dT_21 : DTbl := [some (2, 0, 0, 1, 0, []), some (34, 22, 0, 4, 0, [1]), none, none, some (2, 0, 0, 5, 0, []), some (0, 0, 0, 6, 0, []), some (6, 1, 2, 9, 0, []), none, none, some (2, 0, 0, 10, 0, []), some (0, 0, 0, 11, 0, []), some (6, 1, 4, 14, 0, []), none, none, some (2, 0, 0, 15, 0, []), some (0, 0, 0, 16, 0, []), some (7, 1, 5, 19, 0, []), none, none, some (37, 0, 0, 20, 0, [])] -- DiskDrawer$Disk.renew
def dT_22 : DTbl := [some (2, 0, 0, 1, 0, []), some (0, 0, 0, 2, 0, []), some (6, 1, 0, 5, 0, []), none, none, some (2, 0, 0, 6, 0, []), some (0, 0, 0, 7, 0, []), some (6, 1, 1, 10, 0, []), none, none, some (2, 0, 0, 11, 0, []), some (0, 0, 0, 12, 0, []), some (6, 1, 3, 15, 0, []), none, none, some (37, 0, 0, 16, 0, [])] -- DiskDrawer$Disk.standBy
def dT_23 : DTbl := [some (2, 0, 0, 1, 0, []), some (5, 3, 4, 4, 0, []), none, none, some (2, 0, 0, 5, 0, []), some (5, 3, 0, 8, 0, []), none, none, some (34, 1, 1, 11, 0, [4]), none, none, some (2, 0, 0, 12, 0, []), some (5, 3, 4, 15, 0, []), none, none, some (2, 0, 0, 16, 0, []), some (5, 3, 0, 19, 0, []), none, none, some (34, 24, 0, 22, 0, [0]), none, none, some (34, 7, 1, 25, 0, [4]), none, none, some (36, 0, 0, 26, 0, [])] -- DiskDrawer.fuse
def dT_24 : DTbl := [some (2, 0, 0, 1, 0, []), some (5, 0, 10, 4, 0, []), none, none, some (26, 10, 1, 7, 0, []), none, none, some (0, 0, 0, 9, (-5), []), none, some (36, 0, 0, 10, 0, []), some (2, 0, 0, 11, 0, []), some (0, 0, 0, 12, 0, []), some (7, 0, 10, 15, 0, []), none, none, some (2, 0, 0, 16, 0, []), some (34, 25, 0, 19, 0, [0]), none, none, some (36, 0, 0, 20, 0, [])] -- DiskDrawer$State.renewFuse
def dT_25 : DTbl := [some (0, 0, 0, 1, 0, []), some (3, 1, 0, 2, 0, []), some (0, 0, 0, 3, 0, []), some (3, 2, 0, 4, 0, []), some (1, 2, 0, 5, 0, []), some (0, 0, 0, 7, 12, []), none, some (27, 29, 3, 10, 0, []), none, none, some (1, 1, 0, 11, 0, []), some (2, 0, 0, 12, 0, []), some (2, 0, 0, 13, 0, []), some (5, 0, 1, 16, 0, []), none, none, some (1, 2, 0, 17, 0, []), some (12, 0, 0, 18, 0, []), some (34, 26, 1, 21, 0, [0]), none, none, some (19, 0, 0, 22, 0, []), some (3, 1, 0, 23, 0, []), some (25, 2, 0, 26, 1, []), none, none, some (28, 4, 0, 29, 0, []), none, none, some (1, 1, 0, 30, 0, []), some (36, 0, 0, 31, 0, [])] -- DiskDrawer$State.currentOfNow
def dT_26 : DTbl := [some (2, 1, 0, 1, 0, []), some (5, 1, 0, 4, 0, []), none, none, some (29, 71, 0, 32, 0, [32, 39, 46]), none, none, none, none, none, none, none, none, none, none, none, none, none, none, none, none, none, none, none, none, none, none, none, none, none, none, none, some (2, 0, 0, 33, 0, []), some (5, 0, 0, 36, 0, []), none, none, some (0, 0, 0, 37, 4, []), some (10, 0, 0, 38, 0, []), some (36, 0, 0, 39, 0, []), some (2, 0, 0, 40, 0, []), some (5, 0, 0, 43, 0, []), none, none, some (0, 0, 0, 44, 1, []), some (10, 0, 0, 45, 0, []), some (36, 0, 0, 46, 0, []), some (2, 0, 0, 47, 0, []), some (5, 0, 0, 50, 0, []), none, none, some (0, 0, 0, 51, 2, []), some (10, 0, 0, 52, 0, []), some (2, 1, 0, 53, 0, []), some (5, 1, 6, 56, 0, []), none, none, some (26, 68, 5, 59, 0, []), none, none, some (2, 0, 0, 60, 0, []), some (5, 0, 0, 63, 0, []), none, none, some (0, 0, 0, 64, 3, []), some (10, 0, 0, 65, 0, []), some (28, 69, 0, 68, 0, []), none, none, some (0, 0, 0, 69, 0, []), some (19, 0, 0, 70, 0, []), some (36, 0, 0, 71, 0, []), some (0, 0, 0, 72, 0, []), some (36, 0, 0, 73, 0, [])] -- DiskDrawer$State.currentOf
def dT_27 : DTbl := [some (2, 0, 0, 1, 0, []), some (5, 3, 4, 4, 0, []), none, none, some (2, 0, 0, 5, 0, []), some (5, 3, 0, 8, 0, []), none, none, some (34, 1, 1, 11, 0, [4]), none, none, some (2, 0, 0, 12, 0, []), some (5, 3, 4, 15, 0, []), none, none, some (2, 0, 0, 16, 0, []), some (5, 3, 0, 19, 0, []), none, none, some (1, 1, 0, 20, 0, []), some (34, 28, 1, 23, 0, [0]), none, none, some (34, 7, 1, 26, 0, [4]), none, none, some (36, 0, 0, 27, 0, [])] -- DiskDrawer.run
def dT_28 : DTbl := [some (1, 1, 0, 1, 0, []), some (0, 0, 0, 2, 1, []), some (0, 0, 0, 5, 200, []), none, none, some (35, 6, 3, 8, 0, []), none, none, some (26, 14, 1, 11, 0, []), none, none, some (0, 0, 0, 13, (-2), []), none, some (36, 0, 0, 14, 0, []), some (2, 0, 0, 15, 0, []), some (5, 0, 8, 18, 0, []), none, none, some (1, 1, 0, 19, 0, []), some (19, 0, 0, 20, 0, []), some (0, 0, 0, 22, 99999, []), none, some (27, 28, 5, 25, 0, []), none, none, some (0, 0, 0, 27, (-3), []), none, some (36, 0, 0, 28, 0, []), some (2, 0, 0, 29, 0, []), some (5, 0, 5, 32, 0, []), none, none, some (3, 2, 0, 33, 0, []), some (0, 0, 0, 34, 0, []), some (3, 3, 0, 35, 0, []), some (1, 3, 0, 36, 0, []), some (1, 1, 0, 37, 0, []), some (27, 50, 3, 40, 0, []), none, none, some (2, 0, 0, 41, 0, []), some (34, 29, 0, 44, 0, [0]), none, none, some (25, 3, 0, 47, 1, []), none, none, some (28, 35, 0, 50, 0, []), none, none, some (2, 0, 0, 51, 0, []), some (5, 0, 5, 54, 0, []), none, none, some (1, 2, 0, 55, 0, []), some (20, 0, 0, 56, 0, []), some (36, 0, 0, 57, 0, [])] -- DiskDrawer$State.pass
def dT_29 : DTbl := [some (2, 0, 0, 1, 0, []), some (5, 0, 10, 4, 0, []), none, none, some (26, 14, 0, 7, 0, []), none, none, some (2, 0, 0, 8, 0, []), some (34, 30, 0, 11, 0, [0]), none, none, some (28, 28, 0, 14, 0, []), none, none, some (2, 0, 0, 15, 0, []), some (34, 31, 0, 18, 0, [0]), none, none, some (3, 1, 0, 19, 0, []), some (2, 0, 0, 20, 0, []), some (34, 35, 0, 23, 0, [0]), none, none, some (2, 0, 0, 24, 0, []), some (1, 1, 0, 25, 0, []), some (34, 37, 1, 28, 0, [0]), none, none, some (2, 0, 0, 29, 0, []), some (30, 0, 0, 30, 0, []), some (5, 0, 8, 33, 0, []), none, none, some (0, 0, 0, 34, 1, []), some (19, 0, 0, 35, 0, []), some (6, 0, 8, 38, 0, []), none, none, some (2, 0, 0, 39, 0, []), some (34, 42, 0, 42, 0, [0]), none, none, some (37, 0, 0, 43, 0, [])] -- DiskDrawer$State.tick
def dT_30 : DTbl := [some (0, 0, 0, 1, 0, []), some (3, 1, 0, 2, 0, []), some (1, 1, 0, 3, 0, []), some (0, 0, 0, 5, 12, []), none, some (27, 36, 3, 8, 0, []), none, none, some (2, 0, 0, 9, 0, []), some (5, 0, 1, 12, 0, []), none, none, some (1, 1, 0, 13, 0, []), some (12, 0, 0, 14, 0, []), some (5, 1, 0, 17, 0, []), none, none, some (0, 0, 0, 18, 3, []), some (27, 30, 0, 21, 0, []), none, none, some (2, 0, 0, 22, 0, []), some (5, 0, 1, 25, 0, []), none, none, some (1, 1, 0, 26, 0, []), some (12, 0, 0, 27, 0, []), some (34, 22, 0, 30, 0, [1]), none, none, some (25, 1, 0, 33, 1, []), none, none, some (28, 2, 0, 36, 0, []), none, none, some (0, 0, 0, 37, 0, []), some (3, 1, 0, 38, 0, []), some (1, 1, 0, 39, 0, []), some (2, 0, 0, 40, 0, []), some (5, 0, 3, 43, 0, []), none, none, some (27, 70, 3, 46, 0, []), none, none, some (2, 0, 0, 47, 0, []), some (5, 0, 2, 50, 0, []), none, none, some (1, 1, 0, 51, 0, []), some (12, 0, 0, 52, 0, []), some (2, 0, 0, 53, 0, []), some (5, 0, 2, 56, 0, []), none, none, some (1, 1, 0, 57, 0, []), some (12, 0, 0, 58, 0, []), some (5, 2, 2, 61, 0, []), none, none, some (6, 2, 3, 64, 0, []), none, none, some (25, 1, 0, 67, 1, []), none, none, some (28, 38, 0, 70, 0, []), none, none, some (37, 0, 0, 71, 0, [])] -- DiskDrawer$State.cutOff
def dT_31 : DTbl := [some (0, 0, 0, 1, 0, []), some (3, 1, 0, 2, 0, []), some (0, 0, 0, 3, 0, []), some (3, 2, 0, 4, 0, []), some (1, 2, 0, 5, 0, []), some (0, 0, 0, 7, 12, []), none, some (27, 102, 3, 10, 0, []), none, none, some (2, 0, 0, 11, 0, []), some (5, 0, 1, 14, 0, []), none, none, some (1, 2, 0, 15, 0, []), some (12, 0, 0, 16, 0, []), some (4, 3, 0, 17, 0, []), some (2, 3, 0, 18, 0, []), some (5, 1, 0, 21, 0, []), none, none, some (0, 0, 0, 22, 1, []), some (27, 96, 1, 25, 0, []), none, none, some (2, 3, 0, 26, 0, []), some (30, 0, 0, 27, 0, []), some (5, 1, 1, 30, 0, []), none, none, some (0, 0, 0, 31, 1, []), some (20, 0, 0, 32, 0, []), some (6, 1, 1, 35, 0, []), none, none, some (2, 3, 0, 36, 0, []), some (5, 1, 1, 39, 0, []), none, none, some (26, 85, 4, 42, 0, []), none, none, some (2, 3, 0, 43, 0, []), some (5, 1, 5, 46, 0, []), none, none, some (26, 85, 0, 49, 0, []), none, none, some (1, 1, 0, 50, 0, []), some (0, 0, 0, 51, 1, []), some (1, 2, 0, 52, 0, []), some (24, 0, 0, 53, 0, []), some (23, 0, 0, 54, 0, []), some (3, 1, 0, 55, 0, []), some (2, 0, 0, 56, 0, []), some (30, 0, 0, 57, 0, []), some (5, 0, 14, 60, 0, []), none, none, some (0, 0, 0, 61, 1, []), some (19, 0, 0, 62, 0, []), some (6, 0, 14, 65, 0, []), none, none, some (2, 3, 0, 66, 0, []), some (34, 32, 0, 69, 0, [1]), none, none, some (2, 3, 0, 70, 0, []), some (5, 1, 0, 73, 0, []), none, none, some (0, 0, 0, 74, 3, []), some (27, 96, 1, 77, 0, []), none, none, some (2, 0, 0, 78, 0, []), some (1, 2, 0, 79, 0, []), some (34, 33, 1, 82, 0, [0]), none, none, some (28, 96, 0, 85, 0, []), none, none, some (2, 3, 0, 86, 0, []), some (5, 1, 1, 89, 0, []), none, none, some (26, 96, 4, 92, 0, []), none, none, some (2, 3, 0, 93, 0, []), some (34, 34, 0, 96, 0, [1]), none, none, some (25, 2, 0, 99, 1, []), none, none, some (28, 4, 0, 102, 0, []), none, none, some (1, 1, 0, 103, 0, []), some (36, 0, 0, 104, 0, [])] -- DiskDrawer$State.goOnStarting
def dT_32 : DTbl := [some (2, 0, 0, 1, 0, []), some (34, 22, 0, 4, 0, [1]), none, none, some (2, 0, 0, 5, 0, []), some (0, 0, 0, 6, 0, []), some (7, 1, 5, 9, 0, []), none, none, some (2, 0, 0, 10, 0, []), some (30, 0, 0, 11, 0, []), some (5, 1, 2, 14, 0, []), none, none, some (0, 0, 0, 15, 1, []), some (19, 0, 0, 16, 0, []), some (6, 1, 2, 19, 0, []), none, none, some (2, 0, 0, 20, 0, []), some (5, 1, 2, 23, 0, []), none, none, some (0, 0, 0, 24, 3, []), some (27, 32, 2, 27, 0, []), none, none, some (2, 0, 0, 28, 0, []), some (0, 0, 0, 29, 3, []), some (6, 1, 0, 32, 0, []), none, none, some (37, 0, 0, 33, 0, [])] -- DiskDrawer$Disk.failStart
def dT_33 : DTbl := [some (0, 0, 0, 1, 0, []), some (3, 2, 0, 2, 0, []), some (1, 2, 0, 3, 0, []), some (2, 0, 0, 4, 0, []), some (5, 0, 3, 7, 0, []), none, none, some (27, 49, 3, 10, 0, []), none, none, some (2, 0, 0, 11, 0, []), some (5, 0, 2, 14, 0, []), none, none, some (1, 2, 0, 15, 0, []), some (12, 0, 0, 16, 0, []), some (5, 2, 1, 19, 0, []), none, none, some (1, 1, 0, 20, 0, []), some (27, 43, 1, 23, 0, []), none, none, some (2, 0, 0, 24, 0, []), some (5, 0, 2, 27, 0, []), none, none, some (1, 2, 0, 28, 0, []), some (12, 0, 0, 29, 0, []), some (0, 0, 0, 30, 0, []), some (6, 2, 3, 33, 0, []), none, none, some (2, 0, 0, 34, 0, []), some (30, 0, 0, 35, 0, []), some (5, 0, 6, 38, 0, []), none, none, some (0, 0, 0, 39, 1, []), some (19, 0, 0, 40, 0, []), some (6, 0, 6, 43, 0, []), none, none, some (25, 2, 0, 46, 1, []), none, none, some (28, 2, 0, 49, 0, []), none, none, some (37, 0, 0, 50, 0, [])] -- DiskDrawer$State.loseReadsOf
def dT_34 : DTbl := [some (2, 0, 0, 1, 0, []), some (0, 0, 0, 2, 2, []), some (6, 1, 0, 5, 0, []), none, none, some (2, 0, 0, 6, 0, []), some (0, 0, 0, 7, 0, []), some (6, 1, 2, 10, 0, []), none, none, some (2, 0, 0, 11, 0, []), some (0, 0, 0, 12, 0, []), some (6, 1, 3, 15, 0, []), none, none, some (37, 0, 0, 16, 0, [])] -- DiskDrawer$Disk.spinUp
def dT_35 : DTbl := [some (0, 0, 0, 1, 0, []), some (3, 1, 0, 2, 0, []), some (0, 0, 0, 3, 0, []), some (3, 2, 0, 4, 0, []), some (1, 2, 0, 5, 0, []), some (2, 0, 0, 6, 0, []), some (5, 0, 3, 9, 0, []), none, none, some (27, 121, 3, 12, 0, []), none, none, some (2, 0, 0, 13, 0, []), some (5, 0, 2, 16, 0, []), none, none, some (1, 2, 0, 17, 0, []), some (12, 0, 0, 18, 0, []), some (4, 3, 0, 19, 0, []), some (0, 0, 0, 20, 1, []), some (2, 3, 0, 21, 0, []), some (5, 2, 1, 24, 0, []), none, none, some (24, 0, 0, 25, 0, []), some (3, 4, 0, 27, 0, []), none, some (2, 0, 0, 28, 0, []), some (5, 0, 1, 31, 0, []), none, none, some (2, 3, 0, 32, 0, []), some (5, 2, 1, 35, 0, []), none, none, some (12, 0, 0, 36, 0, []), some (5, 1, 0, 39, 0, []), none, none, some (0, 0, 0, 40, 2, []), some (27, 115, 1, 43, 0, []), none, none, some (1, 1, 0, 44, 0, []), some (1, 4, 0, 46, 0, []), none, some (22, 0, 0, 47, 0, []), some (26, 115, 1, 50, 0, []), none, none, some (1, 1, 0, 51, 0, []), some (1, 4, 0, 53, 0, []), none, some (23, 0, 0, 54, 0, []), some (3, 1, 0, 55, 0, []), some (2, 0, 0, 56, 0, []), some (5, 0, 1, 59, 0, []), none, none, some (2, 3, 0, 60, 0, []), some (5, 2, 1, 63, 0, []), none, none, some (12, 0, 0, 64, 0, []), some (0, 0, 0, 65, 0, []), some (6, 1, 3, 68, 0, []), none, none, some (2, 3, 0, 69, 0, []), some (30, 0, 0, 70, 0, []), some (5, 2, 3, 73, 0, []), none, none, some (0, 0, 0, 74, 1, []), some (20, 0, 0, 75, 0, []), some (6, 2, 3, 78, 0, []), none, none, some (2, 3, 0, 79, 0, []), some (5, 2, 3, 82, 0, []), none, none, some (26, 115, 4, 85, 0, []), none, none, some (2, 0, 0, 86, 0, []), some (30, 0, 0, 87, 0, []), some (5, 0, 5, 90, 0, []), none, none, some (0, 0, 0, 91, 1, []), some (19, 0, 0, 92, 0, []), some (6, 0, 5, 95, 0, []), none, none, some (2, 0, 0, 96, 0, []), some (30, 0, 0, 97, 0, []), some (5, 0, 7, 100, 0, []), none, none, some (2, 0, 0, 101, 0, []), some (5, 0, 8, 104, 0, []), none, none, some (0, 0, 0, 105, 1, []), some (19, 0, 0, 106, 0, []), some (2, 3, 0, 107, 0, []), some (5, 2, 4, 110, 0, []), none, none, some (20, 0, 0, 111, 0, []), some (19, 0, 0, 112, 0, []), some (6, 0, 7, 115, 0, []), none, none, some (25, 2, 0, 118, 1, []), none, none, some (28, 4, 0, 121, 0, []), none, none, some (2, 0, 0, 122, 0, []), some (1, 1, 0, 123, 0, []), some (34, 36, 1, 126, 0, [0]), none, none, some (2, 0, 0, 127, 0, []), some (34, 15, 0, 130, 0, [0]), none, none, some (37, 0, 0, 131, 0, [])] -- DiskDrawer$State.goOnReading
def dT_36 : DTbl := [some (0, 0, 0, 1, 0, []), some (3, 2, 0, 2, 0, []), some (1, 2, 0, 3, 0, []), some (0, 0, 0, 5, 12, []), none, some (27, 75, 3, 8, 0, []), none, none, some (2, 0, 0, 9, 0, []), some (5, 0, 1, 12, 0, []), none, none, some (1, 2, 0, 13, 0, []), some (12, 0, 0, 14, 0, []), some (4, 3, 0, 15, 0, []), some (2, 3, 0, 16, 0, []), some (5, 1, 0, 19, 0, []), none, none, some (0, 0, 0, 20, 2, []), some (27, 69, 1, 23, 0, []), none, none, some (1, 1, 0, 24, 0, []), some (0, 0, 0, 25, 1, []), some (1, 2, 0, 26, 0, []), some (24, 0, 0, 27, 0, []), some (22, 0, 0, 28, 0, []), some (26, 69, 1, 31, 0, []), none, none, some (2, 3, 0, 32, 0, []), some (30, 0, 0, 33, 0, []), some (5, 1, 3, 36, 0, []), none, none, some (0, 0, 0, 37, 1, []), some (19, 0, 0, 38, 0, []), some (6, 1, 3, 41, 0, []), none, none, some (2, 0, 0, 42, 0, []), some (5, 0, 0, 45, 0, []), none, none, some (0, 0, 0, 47, 9, []), none, some (10, 0, 0, 48, 0, []), some (26, 69, 5, 51, 0, []), none, none, some (2, 3, 0, 52, 0, []), some (5, 1, 3, 55, 0, []), none, none, some (2, 0, 0, 56, 0, []), some (5, 0, 0, 59, 0, []), none, none, some (0, 0, 0, 61, 9, []), none, some (10, 0, 0, 62, 0, []), some (27, 69, 2, 65, 0, []), none, none, some (2, 3, 0, 66, 0, []), some (34, 22, 0, 69, 0, [1]), none, none, some (25, 2, 0, 72, 1, []), none, none, some (28, 2, 0, 75, 0, []), none, none, some (37, 0, 0, 76, 0, [])] -- DiskDrawer$State.restIdle
def dT_37 : DTbl := [some (2, 0, 0, 1, 0, []), some (34, 25, 0, 4, 0, [0]), none, none, some (3, 2, 0, 5, 0, []), some (2, 0, 0, 6, 0, []), some (0, 0, 0, 7, 1, []), some (34, 38, 1, 10, 0, [0]), none, none, some (3, 3, 0, 11, 0, []), some (0, 0, 0, 12, 0, []), some (3, 4, 0, 14, 0, []), none, some (1, 4, 0, 16, 0, []), none, some (0, 0, 0, 18, 12, []), none, some (27, 113, 3, 21, 0, []), none, none, some (2, 0, 0, 22, 0, []), some (5, 0, 1, 25, 0, []), none, none, some (1, 4, 0, 27, 0, []), none, some (12, 0, 0, 28, 0, []), some (4, 5, 0, 30, 0, []), none, some (2, 5, 0, 32, 0, []), none, some (5, 1, 0, 35, 0, []), none, none, some (26, 59, 1, 38, 0, []), none, none, some (2, 5, 0, 40, 0, []), none, some (5, 1, 6, 43, 0, []), none, none, some (26, 59, 5, 46, 0, []), none, none, some (1, 1, 0, 47, 0, []), some (0, 0, 0, 48, 1, []), some (1, 4, 0, 50, 0, []), none, some (24, 0, 0, 51, 0, []), some (22, 0, 0, 52, 0, []), some (26, 59, 1, 55, 0, []), none, none, some (0, 0, 0, 56, 1, []), some (28, 60, 0, 59, 0, []), none, none, some (0, 0, 0, 60, 0, []), some (3, 6, 0, 62, 0, []), none, some (1, 6, 0, 64, 0, []), none, some (26, 107, 0, 67, 0, []), none, none, some (2, 0, 0, 68, 0, []), some (1, 3, 0, 69, 0, []), some (1, 2, 0, 70, 0, []), some (34, 39, 2, 73, 0, [0]), none, none, some (26, 107, 0, 76, 0, []), none, none, some (2, 5, 0, 78, 0, []), none, some (2, 0, 0, 79, 0, []), some (5, 0, 0, 82, 0, []), none, none, some (0, 0, 0, 83, 0, []), some (10, 0, 0, 84, 0, []), some (34, 41, 1, 87, 0, [1]), none, none, some (2, 0, 0, 88, 0, []), some (30, 0, 0, 89, 0, []), some (5, 0, 13, 92, 0, []), none, none, some (0, 0, 0, 93, 1, []), some (19, 0, 0, 94, 0, []), some (6, 0, 13, 97, 0, []), none, none, some (25, 3, 0, 100, 1, []), none, none, some (1, 2, 0, 101, 0, []), some (2, 0, 0, 102, 0, []), some (34, 40, 0, 105, 0, [0]), none, none, some (19, 0, 0, 106, 0, []), some (3, 2, 0, 107, 0, []), some (25, 4, 0, 110, 1, []), none, none, some (28, 14, 0, 113, 0, []), none, none, some (37, 0, 0, 114, 0, [])] -- DiskDrawer$State.beginStarts
def dT_38 : DTbl := [some (0, 0, 0, 1, 0, []), some (3, 2, 0, 2, 0, []), some (0, 0, 0, 3, 0, []), some (3, 3, 0, 4, 0, []), some (1, 3, 0, 5, 0, []), some (0, 0, 0, 7, 12, []), none, some (27, 40, 3, 10, 0, []), none, none, some (1, 2, 0, 11, 0, []), some (2, 0, 0, 12, 0, []), some (5, 0, 1, 15, 0, []), none, none, some (1, 3, 0, 16, 0, []), some (12, 0, 0, 17, 0, []), some (5, 1, 0, 20, 0, []), none, none, some (1, 1, 0, 21, 0, []), some (27, 28, 1, 24, 0, []), none, none, some (0, 0, 0, 25, 1, []), some (28, 29, 0, 28, 0, []), none, none, some (0, 0, 0, 29, 0, []), some (35, 18, 1, 32, 0, []), none, none, some (19, 0, 0, 33, 0, []), some (3, 2, 0, 34, 0, []), some (25, 3, 0, 37, 1, []), none, none, some (28, 4, 0, 40, 0, []), none, none, some (1, 2, 0, 41, 0, []), some (36, 0, 0, 42, 0, [])] -- DiskDrawer$State.disksThat
def dT_39 : DTbl := [some (1, 1, 0, 1, 0, []), some (2, 0, 0, 2, 0, []), some (5, 0, 0, 5, 0, []), none, none, some (0, 0, 0, 7, 8, []), none, some (10, 0, 0, 8, 0, []), some (27, 30, 3, 11, 0, []), none, none, some (1, 2, 0, 12, 0, []), some (2, 0, 0, 13, 0, []), some (34, 40, 0, 16, 0, [0]), none, none, some (19, 0, 0, 17, 0, []), some (2, 0, 0, 18, 0, []), some (5, 0, 0, 21, 0, []), none, none, some (0, 0, 0, 22, 5, []), some (10, 0, 0, 23, 0, []), some (27, 30, 4, 26, 0, []), none, none, some (0, 0, 0, 27, 1, []), some (28, 31, 0, 30, 0, []), none, none, some (0, 0, 0, 31, 0, []), some (42, 0, 0, 32, 0, [])] -- DiskDrawer$State.mayStart
def dT_40 : DTbl := [some (2, 0, 0, 1, 0, []), some (5, 0, 0, 4, 0, []), none, none, some (0, 0, 0, 5, 1, []), some (10, 0, 0, 6, 0, []), some (2, 0, 0, 7, 0, []), some (5, 0, 0, 10, 0, []), none, none, some (0, 0, 0, 11, 4, []), some (10, 0, 0, 12, 0, []), some (20, 0, 0, 13, 0, []), some (36, 0, 0, 14, 0, [])] -- DiskDrawer$State.currentAddedByStart
def dT_41 : DTbl := [some (2, 0, 0, 1, 0, []), some (0, 0, 0, 2, 1, []), some (6, 1, 0, 5, 0, []), none, none, some (2, 0, 0, 6, 0, []), some (1, 1, 0, 7, 0, []), some (6, 1, 1, 10, 0, []), none, none, some (2, 0, 0, 11, 0, []), some (30, 0, 0, 12, 0, []), some (5, 1, 4, 15, 0, []), none, none, some (0, 0, 0, 16, 1, []), some (19, 0, 0, 17, 0, []), some (6, 1, 4, 20, 0, []), none, none, some (37, 0, 0, 21, 0, [])] -- DiskDrawer$Disk.beginStart
def dT_42 : DTbl := [some (2, 0, 0, 1, 0, []), some (34, 25, 0, 4, 0, [0]), none, none, some (3, 1, 0, 5, 0, []), some (2, 0, 0, 6, 0, []), some (2, 0, 0, 7, 0, []), some (5, 0, 9, 10, 0, []), none, none, some (1, 1, 0, 11, 0, []), some (45, 0, 0, 14, 0, []), none, none, some (6, 0, 9, 17, 0, []), none, none, some (2, 0, 0, 18, 0, []), some (5, 0, 10, 21, 0, []), none, none, some (26, 25, 0, 24, 0, []), none, none, some (37, 0, 0, 25, 0, []), some (2, 0, 0, 26, 0, []), some (1, 1, 0, 27, 0, []), some (2, 0, 0, 28, 0, []), some (5, 0, 0, 31, 0, []), none, none, some (0, 0, 0, 32, 5, []), some (10, 0, 0, 33, 0, []), some (27, 45, 5, 36, 0, []), none, none, some (2, 0, 0, 37, 0, []), some (5, 0, 11, 40, 0, []), none, none, some (0, 0, 0, 41, 1, []), some (19, 0, 0, 42, 0, []), some (28, 46, 0, 45, 0, []), none, none, some (0, 0, 0, 46, 0, []), some (6, 0, 11, 49, 0, []), none, none, some (2, 0, 0, 50, 0, []), some (5, 0, 11, 53, 0, []), none, none, some (2, 0, 0, 54, 0, []), some (5, 0, 0, 57, 0, []), none, none, some (0, 0, 0, 59, 7, []), none, some (10, 0, 0, 60, 0, []), some (27, 81, 4, 63, 0, []), none, none, some (1, 1, 0, 64, 0, []), some (2, 0, 0, 65, 0, []), some (5, 0, 0, 68, 0, []), none, none, some (0, 0, 0, 69, 5, []), some (10, 0, 0, 70, 0, []), some (2, 0, 0, 71, 0, []), some (5, 0, 0, 74, 0, []), none, none, some (0, 0, 0, 76, 6, []), none, some (10, 0, 0, 77, 0, []), some (19, 0, 0, 78, 0, []), some (27, 101, 5, 81, 0, []), none, none, some (2, 0, 0, 82, 0, []), some (0, 0, 0, 83, 1, []), some (7, 0, 10, 86, 0, []), none, none, some (2, 0, 0, 87, 0, []), some (30, 0, 0, 88, 0, []), some (5, 0, 12, 91, 0, []), none, none, some (0, 0, 0, 92, 1, []), some (19, 0, 0, 93, 0, []), some (6, 0, 12, 96, 0, []), none, none, some (2, 0, 0, 97, 0, []), some (0, 0, 0, 98, 0, []), some (6, 0, 11, 101, 0, []), none, none, some (37, 0, 0, 102, 0, [])] -- DiskDrawer$State.strainFuse
def dT_69 : DTbl := [some (2, 0, 0, 1, 0, []), some (5, 3, 4, 4, 0, []), none, none, some (2, 0, 0, 5, 0, []), some (5, 3, 0, 8, 0, []), none, none, some (34, 70, 1, 11, 0, [4]), none, none, some (26, 24, 0, 14, 0, []), none, none, some (2, 0, 0, 15, 0, []), some (5, 3, 4, 18, 0, []), none, none, some (5, 4, 1, 21, 0, []), none, none, some (28, 26, 0, 24, 0, []), none, none, some (0, 0, 0, 26, (-5), []), none, some (36, 0, 0, 27, 0, [])] -- DiskDrawer.undo
def dT_70 : DTbl := [some (2, 0, 0, 1, 0, []), some (5, 4, 1, 4, 0, []), none, none, some (26, 9, 4, 7, 0, []), none, none, some (0, 0, 0, 8, 0, []), some (42, 0, 0, 9, 0, []), some (2, 0, 0, 10, 0, []), some (30, 0, 0, 11, 0, []), some (5, 4, 1, 14, 0, []), none, none, some (0, 0, 0, 15, 1, []), some (20, 0, 0, 16, 0, []), some (6, 4, 1, 19, 0, []), none, none, some (2, 1, 0, 20, 0, []), some (2, 0, 0, 21, 0, []), some (5, 4, 0, 24, 0, []), none, none, some (2, 0, 0, 25, 0, []), some (5, 4, 1, 28, 0, []), none, none, some (12, 0, 0, 29, 0, []), some (34, 2, 1, 32, 0, [0]), none, none, some (0, 0, 0, 33, 1, []), some (42, 0, 0, 34, 0, [])] -- DiskDrawer$Past.takeBack
def dT_73 : DTbl := [some (2, 0, 0, 1, 0, []), some (5, 3, 0, 4, 0, []), none, none, some (1, 1, 0, 5, 0, []), some (1, 2, 0, 6, 0, []), some (34, 74, 2, 9, 0, [0]), none, none, some (36, 0, 0, 10, 0, [])] -- DiskDrawer.disk
def dT_74 : DTbl := [some (1, 1, 0, 1, 0, []), some (35, 11, 1, 4, 0, []), none, none, some (26, 9, 1, 7, 0, []), none, none, some (0, 0, 0, 8, (-1), []), some (36, 0, 0, 9, 0, []), some (2, 0, 0, 10, 0, []), some (5, 0, 1, 13, 0, []), none, none, some (1, 1, 0, 14, 0, []), some (12, 0, 0, 15, 0, []), some (4, 3, 0, 16, 0, []), some (1, 2, 0, 17, 0, []), some (29, 108, 0, 64, 0, [64, 69, 75, 80, 85, 90, 95, 103]), none, none, none, none, none, none, none, none, none, none, none, none, none, none, none, none, none, none, none, none, none, none, none, none, none, none, none, none, none, none, none, none, none, none, none, none, none, none, none, none, none, none, none, none, none, none, some (2, 3, 0, 65, 0, []), some (5, 1, 0, 68, 0, []), none, none, some (36, 0, 0, 69, 0, []), some (2, 0, 0, 70, 0, []), some (2, 3, 0, 71, 0, []), some (34, 26, 1, 74, 0, [0]), none, none, some (36, 0, 0, 75, 0, []), some (2, 3, 0, 76, 0, []), some (5, 1, 1, 79, 0, []), none, none, some (36, 0, 0, 80, 0, []), some (2, 3, 0, 81, 0, []), some (5, 1, 2, 84, 0, []), none, none, some (36, 0, 0, 85, 0, []), some (2, 3, 0, 86, 0, []), some (5, 1, 3, 89, 0, []), none, none, some (36, 0, 0, 90, 0, []), some (2, 3, 0, 91, 0, []), some (5, 1, 6, 94, 0, []), none, none, some (36, 0, 0, 95, 0, []), some (2, 3, 0, 96, 0, []), some (5, 1, 5, 99, 0, []), none, none, some (35, 18, 1, 102, 0, []), none, none, some (36, 0, 0, 103, 0, []), some (2, 3, 0, 104, 0, []), some (5, 1, 4, 107, 0, []), none, none, some (36, 0, 0, 108, 0, []), some (0, 0, 0, 110, (-2), []), none, some (36, 0, 0, 111, 0, [])] -- DiskDrawer$State.tellDisk
def dT_75 : DTbl := [some (2, 0, 0, 1, 0, []), some (5, 3, 0, 4, 0, []), none, none, some (1, 1, 0, 5, 0, []), some (1, 2, 0, 6, 0, []), some (34, 76, 2, 9, 0, [0]), none, none, some (36, 0, 0, 10, 0, [])] -- DiskDrawer.readOf
def dT_76 : DTbl := [some (2, 0, 0, 1, 0, []), some (1, 1, 0, 2, 0, []), some (34, 14, 1, 5, 0, [0]), none, none, some (3, 3, 0, 6, 0, []), some (1, 3, 0, 7, 0, []), some (26, 12, 3, 10, 0, []), none, none, some (0, 0, 0, 11, (-1), []), some (36, 0, 0, 12, 0, []), some (2, 0, 0, 13, 0, []), some (5, 0, 2, 16, 0, []), none, none, some (1, 3, 0, 17, 0, []), some (12, 0, 0, 18, 0, []), some (4, 4, 0, 20, 0, []), none, some (1, 2, 0, 21, 0, []), some (29, 91, 0, 56, 0, [56, 62, 68, 74, 80]), none, none, none, none, none, none, none, none, none, none, none, none, none, none, none, none, none, none, none, none, none, none, none, none, none, none, none, none, none, none, none, none, none, none, some (2, 4, 0, 58, 0, []), none, some (5, 2, 1, 61, 0, []), none, none, some (36, 0, 0, 62, 0, []), some (2, 4, 0, 64, 0, []), none, some (5, 2, 2, 67, 0, []), none, none, some (36, 0, 0, 68, 0, []), some (2, 4, 0, 70, 0, []), none, some (5, 2, 3, 73, 0, []), none, none, some (36, 0, 0, 74, 0, []), some (2, 0, 0, 75, 0, []), some (1, 3, 0, 76, 0, []), some (34, 77, 1, 79, 0, [0]), none, none, some (36, 0, 0, 80, 0, []), some (2, 0, 0, 81, 0, []), some (5, 0, 8, 84, 0, []), none, none, some (2, 4, 0, 86, 0, []), none, some (5, 2, 4, 89, 0, []), none, none, some (20, 0, 0, 90, 0, []), some (36, 0, 0, 91, 0, []), some (0, 0, 0, 93, (-2), []), none, some (36, 0, 0, 94, 0, [])] -- DiskDrawer$State.tellRead
def dT_77 : DTbl := [some (0, 0, 0, 1, 0, []), some (3, 2, 0, 2, 0, []), some (0, 0, 0, 3, 0, []), some (3, 3, 0, 4, 0, []), some (1, 3, 0, 5, 0, []), some (1, 1, 0, 6, 0, []), some (27, 47, 3, 9, 0, []), none, none, some (1, 2, 0, 10, 0, []), some (2, 0, 0, 11, 0, []), some (5, 0, 2, 14, 0, []), none, none, some (1, 3, 0, 15, 0, []), some (12, 0, 0, 16, 0, []), some (5, 2, 1, 19, 0, []), none, none, some (2, 0, 0, 20, 0, []), some (5, 0, 2, 23, 0, []), none, none, some (1, 1, 0, 24, 0, []), some (12, 0, 0, 25, 0, []), some (5, 2, 1, 28, 0, []), none, none, some (27, 35, 1, 31, 0, []), none, none, some (0, 0, 0, 32, 1, []), some (28, 36, 0, 35, 0, []), none, none, some (0, 0, 0, 36, 0, []), some (35, 18, 1, 39, 0, []), none, none, some (19, 0, 0, 40, 0, []), some (3, 2, 0, 41, 0, []), some (25, 3, 0, 44, 1, []), none, none, some (28, 4, 0, 47, 0, []), none, none, some (1, 2, 0, 48, 0, []), some (36, 0, 0, 49, 0, [])] -- DiskDrawer$State.readsAheadOf
def dT_78 : DTbl := [some (2, 0, 0, 1, 0, []), some (5, 3, 0, 4, 0, []), none, none, some (34, 79, 0, 7, 0, [0]), none, none, some (36, 0, 0, 8, 0, [])] -- DiskDrawer.couldStart
def dT_79 : DTbl := [some (2, 0, 0, 1, 0, []), some (5, 0, 10, 4, 0, []), none, none, some (26, 9, 0, 7, 0, []), none, none, some (0, 0, 0, 8, 0, []), some (36, 0, 0, 9, 0, []), some (2, 0, 0, 10, 0, []), some (34, 25, 0, 13, 0, [0]), none, none, some (3, 1, 0, 14, 0, []), some (2, 0, 0, 15, 0, []), some (0, 0, 0, 16, 1, []), some (34, 38, 1, 19, 0, [0]), none, none, some (3, 2, 0, 20, 0, []), some (0, 0, 0, 21, 0, []), some (3, 3, 0, 22, 0, []), some (0, 0, 0, 23, 0, []), some (3, 4, 0, 25, 0, []), none, some (1, 4, 0, 27, 0, []), none, some (0, 0, 0, 29, 12, []), none, some (27, 72, 3, 32, 0, []), none, none, some (2, 0, 0, 33, 0, []), some (5, 0, 1, 36, 0, []), none, none, some (1, 4, 0, 38, 0, []), none, some (12, 0, 0, 39, 0, []), some (5, 1, 0, 42, 0, []), none, none, some (26, 66, 1, 45, 0, []), none, none, some (2, 0, 0, 46, 0, []), some (1, 2, 0, 47, 0, []), some (1, 3, 0, 48, 0, []), some (19, 0, 0, 49, 0, []), some (1, 1, 0, 50, 0, []), some (34, 39, 2, 53, 0, [0]), none, none, some (26, 66, 0, 56, 0, []), none, none, some (25, 3, 0, 59, 1, []), none, none, some (1, 1, 0, 60, 0, []), some (2, 0, 0, 61, 0, []), some (34, 40, 0, 64, 0, [0]), none, none, some (19, 0, 0, 65, 0, []), some (3, 1, 0, 66, 0, []), some (25, 4, 0, 69, 1, []), none, none, some (28, 25, 0, 72, 0, []), none, none, some (1, 3, 0, 73, 0, []), some (36, 0, 0, 74, 0, [])] -- DiskDrawer$State.startable
def dT_80 : DTbl := [some (2, 0, 0, 1, 0, []), some (5, 3, 0, 4, 0, []), none, none, some (1, 1, 0, 5, 0, []), some (34, 14, 1, 8, 0, [0]), none, none, some (3, 2, 0, 9, 0, []), some (1, 2, 0, 10, 0, []), some (26, 15, 3, 13, 0, []), none, none, some (0, 0, 0, 14, (-1), []), some (36, 0, 0, 15, 0, []), some (2, 0, 0, 16, 0, []), some (5, 3, 1, 19, 0, []), none, none, some (2, 0, 0, 20, 0, []), some (5, 3, 0, 23, 0, []), none, none, some (34, 2, 1, 26, 0, [0]), none, none, some (2, 0, 0, 27, 0, []), some (5, 3, 1, 30, 0, []), none, none, some (5, 0, 1, 33, 0, []), none, none, some (2, 0, 0, 34, 0, []), some (5, 3, 0, 37, 0, []), none, none, some (5, 0, 2, 40, 0, []), none, none, some (1, 2, 0, 41, 0, []), some (12, 0, 0, 42, 0, []), some (5, 2, 1, 45, 0, []), none, none, some (12, 0, 0, 46, 0, []), some (4, 3, 0, 47, 0, []), some (0, 0, 0, 48, 1, []), some (3, 4, 0, 50, 0, []), none, some (1, 4, 0, 52, 0, []), none, some (0, 0, 0, 55, 400, []), none, none, some (27, 108, 4, 58, 0, []), none, none, some (2, 0, 0, 59, 0, []), some (5, 3, 1, 62, 0, []), none, none, some (5, 0, 10, 65, 0, []), none, none, some (26, 108, 1, 68, 0, []), none, none, some (2, 0, 0, 69, 0, []), some (5, 3, 1, 72, 0, []), none, none, some (34, 29, 0, 75, 0, [0]), none, none, some (2, 0, 0, 76, 0, []), some (5, 3, 1, 79, 0, []), none, none, some (1, 1, 0, 80, 0, []), some (34, 14, 1, 83, 0, [0]), none, none, some (26, 102, 3, 86, 0, []), none, none, some (2, 3, 0, 87, 0, []), some (5, 1, 0, 90, 0, []), none, none, some (0, 0, 0, 91, 3, []), some (27, 99, 1, 94, 0, []), none, none, some (0, 0, 0, 96, (-5), []), none, some (28, 101, 0, 99, 0, []), none, none, some (1, 4, 0, 101, 0, []), none, some (36, 0, 0, 102, 0, []), some (25, 4, 0, 105, 1, []), none, none, some (28, 50, 0, 108, 0, []), none, none, some (0, 0, 0, 110, (-5), []), none, some (36, 0, 0, 111, 0, [])] -- DiskDrawer.answeredIn
def dT_81 : DTbl := [some (1, 1, 0, 1, 0, []), some (8, 32, 1, 4, 0, []), none, none, some (0, 0, 0, 6, 8, []), none, some (10, 0, 0, 7, 0, []), some (8, 32, 2, 10, 0, []), none, none, some (0, 0, 0, 12, 8, []), none, some (10, 0, 0, 13, 0, []), some (35, 6, 3, 16, 0, []), none, none, some (26, 28, 0, 19, 0, []), none, none, some (1, 2, 0, 20, 0, []), some (0, 0, 0, 21, 0, []), some (0, 0, 0, 22, 2, []), some (35, 6, 3, 25, 0, []), none, none, some (26, 31, 1, 28, 0, []), none, none, some (0, 0, 0, 30, (-2), []), none, some (36, 0, 0, 31, 0, []), some (1, 2, 0, 32, 0, []), some (26, 44, 1, 35, 0, []), none, none, some (2, 0, 0, 36, 0, []), some (1, 1, 0, 37, 0, []), some (0, 0, 0, 40, 400, []), none, none, some (34, 82, 2, 43, 0, [3]), none, none, some (36, 0, 0, 44, 0, []), some (2, 0, 0, 45, 0, []), some (1, 1, 0, 46, 0, []), some (34, 83, 1, 49, 0, [3]), none, none, some (2, 0, 0, 50, 0, []), some (5, 3, 1, 53, 0, []), none, none, some (0, 0, 0, 54, 0, []), some (6, 0, 9, 57, 0, []), none, none, some (0, 0, 0, 58, 0, []), some (3, 3, 0, 59, 0, []), some (1, 3, 0, 60, 0, []), some (0, 0, 0, 62, 100, []), none, some (27, 78, 3, 65, 0, []), none, none, some (2, 0, 0, 66, 0, []), some (5, 3, 1, 69, 0, []), none, none, some (34, 29, 0, 72, 0, [0]), none, none, some (25, 3, 0, 75, 1, []), none, none, some (28, 59, 0, 78, 0, []), none, none, some (1, 2, 0, 79, 0, []), some (0, 0, 0, 80, 1, []), some (27, 93, 1, 83, 0, []), none, none, some (2, 0, 0, 84, 0, []), some (5, 3, 1, 87, 0, []), none, none, some (5, 0, 9, 90, 0, []), none, none, some (28, 103, 0, 93, 0, []), none, none, some (2, 0, 0, 94, 0, []), some (5, 3, 1, 97, 0, []), none, none, some (5, 0, 10, 100, 0, []), none, none, some (35, 18, 1, 103, 0, []), none, none, some (36, 0, 0, 104, 0, [])] -- DiskDrawer.ifAtOnce
def dT_82 : DTbl := [some (2, 0, 0, 1, 0, []), some (1, 1, 0, 2, 0, []), some (34, 83, 1, 5, 0, [3]), none, none, some (0, 0, 0, 6, 0, []), some (3, 3, 0, 7, 0, []), some (1, 3, 0, 8, 0, []), some (1, 2, 0, 9, 0, []), some (27, 45, 3, 12, 0, []), none, none, some (2, 0, 0, 13, 0, []), some (5, 3, 1, 16, 0, []), none, none, some (5, 0, 3, 19, 0, []), none, none, some (26, 45, 5, 22, 0, []), none, none, some (2, 0, 0, 23, 0, []), some (5, 3, 1, 26, 0, []), none, none, some (5, 0, 10, 29, 0, []), none, none, some (26, 45, 1, 32, 0, []), none, none, some (2, 0, 0, 33, 0, []), some (5, 3, 1, 36, 0, []), none, none, some (34, 29, 0, 39, 0, [0]), none, none, some (25, 3, 0, 42, 1, []), none, none, some (28, 7, 0, 45, 0, []), none, none, some (2, 0, 0, 46, 0, []), some (5, 3, 1, 49, 0, []), none, none, some (5, 0, 3, 52, 0, []), none, none, some (26, 59, 1, 55, 0, []), none, none, some (1, 3, 0, 56, 0, []), some (28, 61, 0, 59, 0, []), none, none, some (0, 0, 0, 61, (-5), []), none, some (36, 0, 0, 62, 0, [])] -- DiskDrawer.ticksUntilAllRead
def dT_83 : DTbl := [some (2, 0, 0, 1, 0, []), some (5, 3, 1, 4, 0, []), none, none, some (2, 0, 0, 5, 0, []), some (5, 3, 0, 8, 0, []), none, none, some (34, 2, 1, 11, 0, [0]), none, none, some (2, 0, 0, 12, 0, []), some (5, 3, 1, 15, 0, []), none, none, some (5, 0, 0, 18, 0, []), none, none, some (0, 0, 0, 20, 8, []), none, some (1, 1, 0, 21, 0, []), some (11, 0, 0, 22, 0, []), some (37, 0, 0, 23, 0, [])] -- DiskDrawer.beginTrial
def dT_84 : DTbl := [some (0, 0, 0, 2, (-5), []), none, some (3, 1, 0, 3, 0, []), some (0, 0, 0, 6, 400, []), none, none, some (3, 2, 0, 7, 0, []), some (8, 32, 1, 10, 0, []), none, none, some (0, 0, 0, 12, 8, []), none, some (10, 0, 0, 13, 0, []), some (3, 3, 0, 14, 0, []), some (1, 3, 0, 15, 0, []), some (8, 32, 2, 18, 0, []), none, none, some (0, 0, 0, 20, 8, []), none, some (10, 0, 0, 21, 0, []), some (27, 56, 4, 24, 0, []), none, none, some (1, 2, 0, 25, 0, []), some (26, 56, 2, 28, 0, []), none, none, some (2, 0, 0, 29, 0, []), some (1, 3, 0, 30, 0, []), some (1, 2, 0, 31, 0, []), some (34, 82, 2, 34, 0, [3]), none, none, some (3, 4, 0, 36, 0, []), none, some (1, 4, 0, 38, 0, []), none, some (0, 0, 0, 40, (-5), []), none, some (27, 50, 0, 43, 0, []), none, none, some (1, 3, 0, 44, 0, []), some (3, 1, 0, 45, 0, []), some (1, 4, 0, 47, 0, []), none, some (0, 0, 0, 48, 1, []), some (20, 0, 0, 49, 0, []), some (3, 2, 0, 50, 0, []), some (25, 3, 0, 53, 1, []), none, none, some (28, 14, 0, 56, 0, []), none, none, some (1, 1, 0, 57, 0, []), some (36, 0, 0, 58, 0, [])] -- DiskDrawer.bestAtOnce
def dT_85 : DTbl := [some (1, 1, 0, 1, 0, []), some (0, 0, 0, 3, 17, []), none, some (27, 14, 1, 6, 0, []), none, none, some (2, 0, 0, 7, 0, []), some (5, 3, 4, 10, 0, []), none, none, some (5, 4, 1, 13, 0, []), none, none, some (36, 0, 0, 14, 0, []), some (1, 1, 0, 15, 0, []), some (0, 0, 0, 17, 18, []), none, some (27, 28, 1, 20, 0, []), none, none, some (2, 0, 0, 21, 0, []), some (5, 3, 5, 24, 0, []), none, none, some (5, 5, 1, 27, 0, []), none, none, some (36, 0, 0, 28, 0, []), some (2, 0, 0, 29, 0, []), some (5, 3, 0, 32, 0, []), none, none, some (1, 1, 0, 33, 0, []), some (34, 86, 1, 36, 0, [0]), none, none, some (36, 0, 0, 37, 0, [])] -- DiskDrawer.count
def dT_86 : DTbl := [some (1, 1, 0, 1, 0, []), some (0, 0, 0, 3, 20, []), none, some (0, 0, 0, 5, 29, []), none, some (35, 6, 3, 8, 0, []), none, none, some (26, 21, 0, 11, 0, []), none, none, some (2, 0, 0, 12, 0, []), some (5, 0, 0, 15, 0, []), none, none, some (1, 1, 0, 16, 0, []), some (0, 0, 0, 18, 20, []), none, some (20, 0, 0, 19, 0, []), some (10, 0, 0, 20, 0, []), some (36, 0, 0, 21, 0, []), some (1, 1, 0, 22, 0, []), some (0, 0, 0, 24, 7, []), none, some (0, 0, 0, 26, 10, []), none, some (35, 6, 3, 29, 0, []), none, none, some (26, 41, 0, 32, 0, []), none, none, some (2, 0, 0, 33, 0, []), some (1, 1, 0, 34, 0, []), some (0, 0, 0, 36, 7, []), none, some (20, 0, 0, 37, 0, []), some (34, 38, 1, 40, 0, [0]), none, none, some (36, 0, 0, 41, 0, []), some (1, 1, 0, 42, 0, []), some (29, 192, 0, 124, 0, [124, 129, 134, 139, 144, 149, 154, 192, 192, 192, 192, 159, 167, 172, 177, 182, 187]), none, none, none, none, none, none, none, none, none, none, none, none, none, none, none, none, none, none, none, none, none, none, none, none, none, none, none, none, none, none, none, none, none, none, none, none, none, none, none, none, none, none, none, none, none, none, none, none, none, none, none, none, none, none, none, none, none, none, none, none, none, none, none, none, none, none, none, none, none, none, none, none, none, none, none, none, none, none, none, none, none, some (2, 0, 0, 125, 0, []), some (5, 0, 8, 128, 0, []), none, none, some (36, 0, 0, 129, 0, []), some (2, 0, 0, 130, 0, []), some (34, 25, 0, 133, 0, [0]), none, none, some (36, 0, 0, 134, 0, []), some (2, 0, 0, 135, 0, []), some (5, 0, 9, 138, 0, []), none, none, some (36, 0, 0, 139, 0, []), some (2, 0, 0, 140, 0, []), some (5, 0, 3, 143, 0, []), none, none, some (36, 0, 0, 144, 0, []), some (2, 0, 0, 145, 0, []), some (5, 0, 4, 148, 0, []), none, none, some (36, 0, 0, 149, 0, []), some (2, 0, 0, 150, 0, []), some (5, 0, 5, 153, 0, []), none, none, some (36, 0, 0, 154, 0, []), some (2, 0, 0, 155, 0, []), some (5, 0, 6, 158, 0, []), none, none, some (36, 0, 0, 159, 0, []), some (2, 0, 0, 160, 0, []), some (5, 0, 10, 163, 0, []), none, none, some (35, 18, 1, 166, 0, []), none, none, some (36, 0, 0, 167, 0, []), some (2, 0, 0, 168, 0, []), some (5, 0, 11, 171, 0, []), none, none, some (36, 0, 0, 172, 0, []), some (2, 0, 0, 173, 0, []), some (5, 0, 12, 176, 0, []), none, none, some (36, 0, 0, 177, 0, []), some (2, 0, 0, 178, 0, []), some (5, 0, 13, 181, 0, []), none, none, some (36, 0, 0, 182, 0, []), some (2, 0, 0, 183, 0, []), some (5, 0, 14, 186, 0, []), none, none, some (36, 0, 0, 187, 0, []), some (2, 0, 0, 188, 0, []), some (5, 0, 7, 191, 0, []), none, none, some (36, 0, 0, 192, 0, []), some (0, 0, 0, 194, (-2), []), none, some (36, 0, 0, 195, 0, [])] -- DiskDrawer$State.tellCount
def dT_87 : DTbl := [some (1, 1, 0, 1, 0, []), some (2, 0, 0, 2, 0, []), some (18, 0, 0, 3, 0, []), some (27, 12, 3, 6, 0, []), none, none, some (2, 0, 0, 7, 0, []), some (1, 1, 0, 8, 0, []), some (10, 0, 0, 9, 0, []), some (28, 24, 0, 12, 0, []), none, none, some (0, 0, 0, 15, 7919, []), none, none, some (1, 1, 0, 16, 0, []), some (0, 0, 0, 17, 3, []), some (19, 0, 0, 18, 0, []), some (21, 0, 0, 19, 0, []), some (1, 1, 0, 20, 0, []), some (0, 0, 0, 22, 11, []), none, some (19, 0, 0, 23, 0, []), some (21, 0, 0, 24, 0, []), some (36, 0, 0, 25, 0, [])] -- DiskDrawerLaw.cell
def dT_88 : DTbl := [some (1, 0, 0, 1, 0, []), some (0, 0, 0, 3, 2147483647, []), none, some (22, 0, 0, 4, 0, []), some (1, 1, 0, 5, 0, []), some (46, 0, 0, 6, 0, []), some (36, 0, 0, 7, 0, [])] -- DiskDrawerLaw.low
def dT_89 : DTbl := [some (2, 0, 0, 1, 0, []), some (0, 0, 0, 2, 3, []), some (34, 85, 1, 5, 0, [3]), none, none, some (26, 12, 1, 8, 0, []), none, none, some (0, 0, 0, 9, (-1), []), some (28, 21, 0, 12, 0, []), none, none, some (1, 1, 0, 13, 0, []), some (2, 0, 0, 14, 0, []), some (0, 0, 0, 15, 3, []), some (34, 85, 1, 18, 0, [3]), none, none, some (35, 88, 2, 21, 0, []), none, none, some (3, 2, 0, 22, 0, []), some (0, 0, 0, 23, 0, []), some (3, 3, 0, 24, 0, []), some (1, 3, 0, 25, 0, []), some (2, 0, 0, 26, 0, []), some (0, 0, 0, 27, 4, []), some (34, 85, 1, 30, 0, [3]), none, none, some (27, 61, 3, 33, 0, []), none, none, some (1, 2, 0, 34, 0, []), some (26, 61, 2, 37, 0, []), none, none, some (2, 0, 0, 38, 0, []), some (1, 3, 0, 39, 0, []), some (0, 0, 0, 40, 0, []), some (34, 75, 2, 43, 0, [3]), none, none, some (26, 55, 2, 46, 0, []), none, none, some (1, 2, 0, 47, 0, []), some (26, 52, 1, 50, 0, []), none, none, some (1, 3, 0, 51, 0, []), some (36, 0, 0, 52, 0, []), some (25, 2, 0, 55, (-1), []), none, none, some (25, 3, 0, 58, 1, []), none, none, some (28, 24, 0, 61, 0, []), none, none, some (0, 0, 0, 63, (-5), []), none, some (36, 0, 0, 64, 0, [])] -- DiskDrawerLaw.some
def dT_90 : DTbl := [some (1, 1, 0, 1, 0, []), some (0, 0, 0, 2, 4, []), some (41, 0, 0, 3, 0, []), some (0, 0, 0, 5, 12, []), none, some (35, 88, 2, 8, 0, []), none, none, some (3, 2, 0, 9, 0, []), some (1, 1, 0, 10, 0, []), some (0, 0, 0, 12, 15, []), none, some (22, 0, 0, 13, 0, []), some (29, 220, 0, 76, 0, [76, 76, 76, 76, 76, 93, 105, 105, 111, 133, 138, 138]), none, none, none, none, none, none, none, none, none, none, none, none, none, none, none, none, none, none, none, none, none, none, none, none, none, none, none, none, none, none, none, none, none, none, none, none, none, none, none, none, none, none, none, none, none, none, none, none, none, none, none, none, none, none, none, none, none, none, none, none, none, none, some (2, 0, 0, 77, 0, []), some (1, 2, 0, 78, 0, []), some (0, 0, 0, 79, 1, []), some (1, 1, 0, 80, 0, []), some (0, 0, 0, 82, 8, []), none, some (41, 0, 0, 83, 0, []), some (0, 0, 0, 85, 50, []), none, some (35, 88, 2, 88, 0, []), none, none, some (19, 0, 0, 89, 0, []), some (34, 9, 2, 92, 0, [3]), none, none, some (36, 0, 0, 93, 0, []), some (2, 0, 0, 94, 0, []), some (2, 0, 0, 95, 0, []), some (1, 1, 0, 96, 0, []), some (0, 0, 0, 97, 4, []), some (41, 0, 0, 98, 0, []), some (35, 89, 2, 101, 0, []), none, none, some (34, 12, 1, 104, 0, [3]), none, none, some (36, 0, 0, 105, 0, []), some (2, 0, 0, 106, 0, []), some (1, 2, 0, 107, 0, []), some (34, 16, 1, 110, 0, [3]), none, none, some (36, 0, 0, 111, 0, []), some (1, 1, 0, 112, 0, []), some (0, 0, 0, 114, 8, []), none, some (41, 0, 0, 115, 0, []), some (0, 0, 0, 116, 1, []), some (22, 0, 0, 117, 0, []), some (26, 128, 1, 120, 0, []), none, none, some (2, 0, 0, 121, 0, []), some (1, 2, 0, 122, 0, []), some (34, 19, 1, 125, 0, [3]), none, none, some (28, 132, 0, 128, 0, []), none, none, some (2, 0, 0, 129, 0, []), some (34, 23, 0, 132, 0, [3]), none, none, some (36, 0, 0, 133, 0, []), some (2, 0, 0, 134, 0, []), some (34, 23, 0, 137, 0, [3]), none, none, some (36, 0, 0, 138, 0, []), some (1, 1, 0, 139, 0, []), some (0, 0, 0, 140, 4, []), some (41, 0, 0, 141, 0, []), some (0, 0, 0, 143, 10, []), none, some (35, 88, 2, 146, 0, []), none, none, some (3, 3, 0, 147, 0, []), some (1, 1, 0, 148, 0, []), some (0, 0, 0, 150, 8, []), none, some (41, 0, 0, 151, 0, []), some (0, 0, 0, 153, 20, []), none, some (35, 88, 2, 156, 0, []), none, none, some (3, 4, 0, 158, 0, []), none, some (2, 0, 0, 159, 0, []), some (1, 3, 0, 160, 0, []), some (1, 3, 0, 161, 0, []), some (0, 0, 0, 162, 5, []), some (27, 176, 1, 165, 0, []), none, none, some (0, 0, 0, 167, 10, []), none, some (0, 0, 0, 169, 10, []), none, some (1, 4, 0, 171, 0, []), none, some (21, 0, 0, 172, 0, []), some (19, 0, 0, 173, 0, []), some (28, 216, 0, 176, 0, []), none, none, some (1, 3, 0, 177, 0, []), some (0, 0, 0, 179, 8, []), none, some (27, 191, 0, 182, 0, []), none, none, some (1, 3, 0, 183, 0, []), some (26, 191, 0, 186, 0, []), none, none, some (1, 3, 0, 187, 0, []), some (0, 0, 0, 188, 1, []), some (27, 201, 1, 191, 0, []), none, none, some (0, 0, 0, 192, 1, []), some (1, 4, 0, 194, 0, []), none, some (0, 0, 0, 196, 12, []), none, some (46, 0, 0, 197, 0, []), some (19, 0, 0, 198, 0, []), some (28, 216, 0, 201, 0, []), none, none, some (1, 3, 0, 202, 0, []), some (0, 0, 0, 203, 4, []), some (27, 214, 1, 206, 0, []), none, none, some (1, 4, 0, 208, 0, []), none, some (0, 0, 0, 210, 6, []), none, some (46, 0, 0, 211, 0, []), some (28, 216, 0, 214, 0, []), none, none, some (1, 4, 0, 216, 0, []), none, some (34, 0, 2, 219, 0, [3]), none, none, some (36, 0, 0, 220, 0, []), some (2, 0, 0, 221, 0, []), some (0, 0, 0, 222, 1, []), some (1, 1, 0, 223, 0, []), some (0, 0, 0, 224, 4, []), some (41, 0, 0, 225, 0, []), some (0, 0, 0, 227, 30, []), none, some (35, 88, 2, 230, 0, []), none, none, some (19, 0, 0, 231, 0, []), some (34, 27, 1, 234, 0, [3]), none, none, some (36, 0, 0, 235, 0, [])] -- DiskDrawerLaw.does
def dT_91 : DTbl := [some (2, 0, 0, 1, 0, []), some (1, 1, 0, 2, 0, []), some (0, 0, 0, 3, 0, []), some (34, 73, 2, 6, 0, [3]), none, none, some (3, 2, 0, 7, 0, []), some (1, 2, 0, 8, 0, []), some (26, 20, 1, 11, 0, []), none, none, some (2, 0, 0, 12, 0, []), some (0, 0, 0, 14, 24, []), none, some (34, 85, 1, 17, 0, [3]), none, none, some (28, 69, 0, 20, 0, []), none, none, some (1, 2, 0, 21, 0, []), some (0, 0, 0, 22, 1, []), some (27, 34, 1, 25, 0, []), none, none, some (2, 0, 0, 26, 0, []), some (0, 0, 0, 28, 21, []), none, some (34, 85, 1, 31, 0, [3]), none, none, some (28, 69, 0, 34, 0, []), none, none, some (1, 2, 0, 35, 0, []), some (0, 0, 0, 36, 3, []), some (27, 43, 1, 39, 0, []), none, none, some (0, 0, 0, 40, 0, []), some (28, 69, 0, 43, 0, []), none, none, some (2, 0, 0, 44, 0, []), some (0, 0, 0, 46, 22, []), none, some (34, 85, 1, 49, 0, [3]), none, none, some (2, 0, 0, 50, 0, []), some (1, 1, 0, 51, 0, []), some (0, 0, 0, 52, 5, []), some (34, 73, 2, 55, 0, [3]), none, none, some (26, 67, 5, 58, 0, []), none, none, some (2, 0, 0, 59, 0, []), some (0, 0, 0, 61, 23, []), none, some (34, 85, 1, 64, 0, [3]), none, none, some (28, 68, 0, 67, 0, []), none, none, some (0, 0, 0, 68, 0, []), some (19, 0, 0, 69, 0, []), some (36, 0, 0, 70, 0, [])] -- DiskDrawerLaw.currentOf
def dT_92 : DTbl := [some (2, 0, 0, 1, 0, []), some (1, 1, 0, 2, 0, []), some (34, 80, 1, 5, 0, [3]), none, none, some (3, 2, 0, 6, 0, []), some (1, 1, 0, 7, 0, []), some (26, 20, 2, 10, 0, []), none, none, some (2, 0, 0, 11, 0, []), some (0, 0, 0, 12, 0, []), some (34, 85, 1, 15, 0, [3]), none, none, some (0, 0, 0, 17, 99000, []), none, some (27, 35, 5, 20, 0, []), none, none, some (1, 1, 0, 21, 0, []), some (26, 29, 3, 24, 0, []), none, none, some (1, 2, 0, 25, 0, []), some (0, 0, 0, 26, (-1), []), some (27, 33, 1, 29, 0, []), none, none, some (0, 0, 0, 30, 1, []), some (28, 34, 0, 33, 0, []), none, none, some (0, 0, 0, 34, 0, []), some (42, 0, 0, 35, 0, []), some (2, 0, 0, 36, 0, []), some (1, 1, 0, 37, 0, []), some (0, 0, 0, 38, 4, []), some (34, 75, 2, 41, 0, [3]), none, none, some (3, 3, 0, 42, 0, []), some (2, 0, 0, 43, 0, []), some (1, 1, 0, 44, 0, []), some (0, 0, 0, 45, 0, []), some (34, 75, 2, 48, 0, [3]), none, none, some (3, 4, 0, 50, 0, []), none, some (2, 0, 0, 51, 0, []), some (0, 0, 0, 52, 5, []), some (34, 85, 1, 55, 0, [3]), none, none, some (3, 5, 0, 57, 0, []), none, some (2, 0, 0, 58, 0, []), some (0, 0, 0, 60, 16, []), none, some (34, 85, 1, 63, 0, [3]), none, none, some (3, 6, 0, 65, 0, []), none, some (1, 2, 0, 66, 0, []), some (0, 0, 0, 68, (-5), []), none, some (27, 147, 1, 71, 0, []), none, none, some (2, 0, 0, 72, 0, []), some (0, 0, 0, 75, 200, []), none, none, some (34, 27, 1, 78, 0, [3]), none, none, some (2, 0, 0, 79, 0, []), some (0, 0, 0, 82, 200, []), none, none, some (34, 27, 1, 85, 0, [3]), none, none, some (19, 0, 0, 86, 0, []), some (3, 7, 0, 88, 0, []), none, some (2, 0, 0, 89, 0, []), some (1, 1, 0, 90, 0, []), some (0, 0, 0, 91, 0, []), some (34, 75, 2, 94, 0, [3]), none, none, some (26, 108, 3, 97, 0, []), none, none, some (2, 0, 0, 98, 0, []), some (1, 4, 0, 100, 0, []), none, some (0, 0, 0, 101, 0, []), some (34, 73, 2, 104, 0, [3]), none, none, some (0, 0, 0, 105, 3, []), some (27, 112, 1, 108, 0, []), none, none, some (0, 0, 0, 109, 1, []), some (28, 113, 0, 112, 0, []), none, none, some (0, 0, 0, 113, 0, []), some (3, 8, 0, 115, 0, []), none, some (2, 0, 0, 116, 0, []), some (34, 69, 0, 119, 0, [3]), none, none, some (2, 0, 0, 120, 0, []), some (34, 69, 0, 123, 0, [3]), none, none, some (19, 0, 0, 124, 0, []), some (3, 9, 0, 126, 0, []), none, some (1, 8, 0, 128, 0, []), none, some (26, 145, 0, 131, 0, []), none, none, some (1, 9, 0, 133, 0, []), none, some (26, 145, 2, 136, 0, []), none, none, some (1, 7, 0, 138, 0, []), none, some (26, 145, 2, 141, 0, []), none, none, some (0, 0, 0, 142, 1, []), some (28, 146, 0, 145, 0, []), none, none, some (0, 0, 0, 146, 0, []), some (42, 0, 0, 147, 0, []), some (1, 2, 0, 148, 0, []), some (0, 0, 0, 151, 200, []), none, none, some (27, 164, 5, 154, 0, []), none, none, some (2, 0, 0, 155, 0, []), some (0, 0, 0, 158, 200, []), none, none, some (34, 27, 1, 161, 0, [3]), none, none, some (28, 165, 0, 164, 0, []), none, none, some (0, 0, 0, 165, 0, []), some (3, 7, 0, 167, 0, []), none, some (1, 2, 0, 168, 0, []), some (0, 0, 0, 171, 200, []), none, none, some (27, 182, 5, 174, 0, []), none, none, some (1, 2, 0, 175, 0, []), some (0, 0, 0, 178, 200, []), none, none, some (20, 0, 0, 179, 0, []), some (28, 183, 0, 182, 0, []), none, none, some (1, 2, 0, 183, 0, []), some (3, 8, 0, 185, 0, []), none, some (1, 8, 0, 187, 0, []), none, some (0, 0, 0, 188, 1, []), some (27, 202, 0, 191, 0, []), none, none, some (2, 0, 0, 192, 0, []), some (1, 8, 0, 194, 0, []), none, some (0, 0, 0, 195, 1, []), some (20, 0, 0, 196, 0, []), some (34, 27, 1, 199, 0, [3]), none, none, some (26, 206, 2, 202, 0, []), none, none, some (0, 0, 0, 203, 1, []), some (28, 207, 0, 206, 0, []), none, none, some (0, 0, 0, 207, 0, []), some (3, 9, 0, 209, 0, []), none, some (1, 9, 0, 211, 0, []), none, some (26, 273, 0, 214, 0, []), none, none, some (2, 0, 0, 215, 0, []), some (1, 1, 0, 216, 0, []), some (0, 0, 0, 217, 0, []), some (34, 75, 2, 220, 0, [3]), none, none, some (1, 4, 0, 222, 0, []), none, some (27, 273, 1, 225, 0, []), none, none, some (2, 0, 0, 226, 0, []), some (0, 0, 0, 227, 1, []), some (34, 27, 1, 230, 0, [3]), none, none, some (0, 0, 0, 231, 1, []), some (27, 273, 2, 234, 0, []), none, none, some (2, 0, 0, 235, 0, []), some (1, 1, 0, 236, 0, []), some (0, 0, 0, 237, 0, []), some (34, 75, 2, 240, 0, [3]), none, none, some (0, 0, 0, 241, (-1), []), some (27, 273, 1, 244, 0, []), none, none, some (2, 0, 0, 245, 0, []), some (0, 0, 0, 246, 5, []), some (34, 85, 1, 249, 0, [3]), none, none, some (1, 5, 0, 251, 0, []), none, some (27, 273, 5, 254, 0, []), none, none, some (2, 0, 0, 255, 0, []), some (0, 0, 0, 257, 16, []), none, some (34, 85, 1, 260, 0, [3]), none, none, some (1, 6, 0, 262, 0, []), none, some (20, 0, 0, 263, 0, []), some (1, 3, 0, 264, 0, []), some (1, 2, 0, 265, 0, []), some (19, 0, 0, 266, 0, []), some (27, 273, 2, 269, 0, []), none, none, some (0, 0, 0, 270, 1, []), some (28, 274, 0, 273, 0, []), none, none, some (0, 0, 0, 274, 0, []), some (3, 9, 0, 276, 0, []), none, some (2, 0, 0, 277, 0, []), some (34, 69, 0, 280, 0, [3]), none, none, some (3, 10, 0, 282, 0, []), none, some (1, 8, 0, 284, 0, []), none, some (0, 0, 0, 285, 1, []), some (27, 295, 5, 288, 0, []), none, none, some (2, 0, 0, 289, 0, []), some (34, 69, 0, 292, 0, [3]), none, none, some (28, 297, 0, 295, 0, []), none, none, some (1, 10, 0, 297, 0, []), none, some (3, 10, 0, 299, 0, []), none, some (1, 2, 0, 300, 0, []), some (0, 0, 0, 303, 200, []), none, none, some (27, 313, 5, 306, 0, []), none, none, some (2, 0, 0, 307, 0, []), some (34, 69, 0, 310, 0, [3]), none, none, some (28, 315, 0, 313, 0, []), none, none, some (1, 10, 0, 315, 0, []), none, some (3, 10, 0, 317, 0, []), none, some (1, 9, 0, 319, 0, []), none, some (26, 346, 0, 322, 0, []), none, none, some (1, 10, 0, 324, 0, []), none, some (26, 346, 2, 327, 0, []), none, none, some (1, 7, 0, 329, 0, []), none, some (26, 346, 2, 332, 0, []), none, none, some (2, 0, 0, 333, 0, []), some (0, 0, 0, 334, 5, []), some (34, 85, 1, 337, 0, [3]), none, none, some (1, 5, 0, 339, 0, []), none, some (27, 346, 1, 342, 0, []), none, none, some (0, 0, 0, 343, 1, []), some (28, 347, 0, 346, 0, []), none, none, some (0, 0, 0, 347, 0, []), some (42, 0, 0, 348, 0, [])] -- DiskDrawerLaw.isAnswerSo
def dT_93 : DTbl := [some (2, 0, 0, 1, 0, []), some (1, 1, 0, 2, 0, []), some (0, 0, 0, 3, 0, []), some (34, 81, 2, 6, 0, [3]), none, none, some (3, 2, 0, 7, 0, []), some (2, 0, 0, 8, 0, []), some (1, 1, 0, 9, 0, []), some (0, 0, 0, 10, 1, []), some (34, 81, 2, 13, 0, [3]), none, none, some (3, 3, 0, 14, 0, []), some (2, 0, 0, 15, 0, []), some (1, 1, 0, 16, 0, []), some (0, 0, 0, 17, 2, []), some (34, 81, 2, 20, 0, [3]), none, none, some (3, 4, 0, 22, 0, []), none, some (2, 0, 0, 23, 0, []), some (34, 84, 0, 26, 0, [3]), none, none, some (3, 5, 0, 28, 0, []), none, some (1, 5, 0, 30, 0, []), none, some (0, 0, 0, 32, (-5), []), none, some (27, 49, 1, 35, 0, []), none, none, some (1, 2, 0, 36, 0, []), some (0, 0, 0, 38, (-5), []), none, some (27, 45, 1, 41, 0, []), none, none, some (0, 0, 0, 42, 1, []), some (28, 120, 0, 45, 0, []), none, none, some (0, 0, 0, 46, 0, []), some (28, 120, 0, 49, 0, []), none, none, some (2, 0, 0, 50, 0, []), some (1, 5, 0, 52, 0, []), none, some (0, 0, 0, 53, 0, []), some (34, 81, 2, 56, 0, [3]), none, none, some (26, 119, 2, 59, 0, []), none, none, some (1, 2, 0, 60, 0, []), some (0, 0, 0, 62, (-5), []), none, some (27, 76, 0, 65, 0, []), none, none, some (2, 0, 0, 66, 0, []), some (1, 5, 0, 68, 0, []), none, some (0, 0, 0, 69, 0, []), some (34, 81, 2, 72, 0, [3]), none, none, some (1, 2, 0, 73, 0, []), some (27, 119, 4, 76, 0, []), none, none, some (1, 5, 0, 78, 0, []), none, some (0, 0, 0, 79, 1, []), some (27, 115, 0, 82, 0, []), none, none, some (2, 0, 0, 83, 0, []), some (1, 5, 0, 85, 0, []), none, some (0, 0, 0, 86, 1, []), some (20, 0, 0, 87, 0, []), some (0, 0, 0, 88, 0, []), some (34, 81, 2, 91, 0, [3]), none, none, some (0, 0, 0, 93, (-5), []), none, some (27, 115, 0, 96, 0, []), none, none, some (2, 0, 0, 97, 0, []), some (1, 5, 0, 99, 0, []), none, some (0, 0, 0, 100, 1, []), some (20, 0, 0, 101, 0, []), some (0, 0, 0, 102, 0, []), some (34, 81, 2, 105, 0, [3]), none, none, some (2, 0, 0, 106, 0, []), some (1, 5, 0, 108, 0, []), none, some (0, 0, 0, 109, 0, []), some (34, 81, 2, 112, 0, [3]), none, none, some (27, 119, 5, 115, 0, []), none, none, some (0, 0, 0, 116, 1, []), some (28, 120, 0, 119, 0, []), none, none, some (0, 0, 0, 120, 0, []), some (3, 6, 0, 122, 0, []), none, some (2, 0, 0, 123, 0, []), some (0, 0, 0, 124, 0, []), some (34, 85, 1, 127, 0, [3]), none, none, some (0, 0, 0, 129, 99000, []), none, some (27, 135, 5, 132, 0, []), none, none, some (1, 6, 0, 134, 0, []), none, some (42, 0, 0, 135, 0, []), some (2, 0, 0, 136, 0, []), some (0, 0, 0, 138, 8, []), none, some (1, 1, 0, 139, 0, []), some (34, 0, 2, 142, 0, [3]), none, none, some (3, 7, 0, 144, 0, []), none, some (1, 2, 0, 145, 0, []), some (0, 0, 0, 146, 1, []), some (27, 206, 2, 149, 0, []), none, none, some (1, 2, 0, 150, 0, []), some (0, 0, 0, 153, 200, []), none, none, some (27, 206, 4, 156, 0, []), none, none, some (1, 6, 0, 158, 0, []), none, some (26, 188, 0, 161, 0, []), none, none, some (1, 2, 0, 162, 0, []), some (0, 0, 0, 163, 1, []), some (27, 184, 0, 166, 0, []), none, none, some (2, 0, 0, 167, 0, []), some (1, 2, 0, 168, 0, []), some (0, 0, 0, 169, 1, []), some (20, 0, 0, 170, 0, []), some (34, 27, 1, 173, 0, [3]), none, none, some (26, 188, 2, 176, 0, []), none, none, some (2, 0, 0, 177, 0, []), some (0, 0, 0, 178, 3, []), some (34, 85, 1, 181, 0, [3]), none, none, some (26, 188, 5, 184, 0, []), none, none, some (0, 0, 0, 185, 1, []), some (28, 189, 0, 188, 0, []), none, none, some (0, 0, 0, 189, 0, []), some (3, 6, 0, 191, 0, []), none, some (1, 2, 0, 192, 0, []), some (0, 0, 0, 193, 1, []), some (27, 200, 1, 196, 0, []), none, none, some (0, 0, 0, 197, 0, []), some (28, 204, 0, 200, 0, []), none, none, some (2, 0, 0, 201, 0, []), some (34, 69, 0, 204, 0, [3]), none, none, some (3, 8, 0, 206, 0, []), none, some (2, 0, 0, 207, 0, []), some (0, 0, 0, 208, 2, []), some (34, 85, 1, 211, 0, [3]), none, none, some (3, 8, 0, 213, 0, []), none, some (2, 0, 0, 214, 0, []), some (0, 0, 0, 216, 100, []), none, some (34, 27, 1, 219, 0, [3]), none, none, some (3, 9, 0, 221, 0, []), none, some (1, 6, 0, 223, 0, []), none, some (26, 274, 0, 226, 0, []), none, none, some (2, 0, 0, 227, 0, []), some (0, 0, 0, 229, 11, []), none, some (34, 85, 1, 232, 0, [3]), none, none, some (1, 4, 0, 234, 0, []), none, some (27, 274, 1, 237, 0, []), none, none, some (2, 0, 0, 238, 0, []), some (0, 0, 0, 239, 2, []), some (34, 85, 1, 242, 0, [3]), none, none, some (1, 8, 0, 244, 0, []), none, some (27, 256, 1, 247, 0, []), none, none, some (1, 3, 0, 248, 0, []), some (1, 8, 0, 250, 0, []), none, some (27, 274, 4, 253, 0, []), none, none, some (28, 265, 0, 256, 0, []), none, none, some (2, 0, 0, 257, 0, []), some (0, 0, 0, 258, 2, []), some (34, 85, 1, 261, 0, [3]), none, none, some (1, 3, 0, 262, 0, []), some (27, 274, 1, 265, 0, []), none, none, some (1, 9, 0, 267, 0, []), none, some (26, 274, 2, 270, 0, []), none, none, some (0, 0, 0, 271, 1, []), some (28, 275, 0, 274, 0, []), none, none, some (0, 0, 0, 275, 0, []), some (3, 6, 0, 277, 0, []), none, some (2, 0, 0, 278, 0, []), some (34, 69, 0, 281, 0, [3]), none, none, some (3, 10, 0, 283, 0, []), none, some (1, 7, 0, 285, 0, []), none, some (0, 0, 0, 287, (-5), []), none, some (27, 295, 1, 290, 0, []), none, none, some (1, 10, 0, 292, 0, []), none, some (28, 299, 0, 295, 0, []), none, none, some (2, 0, 0, 296, 0, []), some (34, 69, 0, 299, 0, [3]), none, none, some (3, 10, 0, 301, 0, []), none, some (1, 6, 0, 303, 0, []), none, some (26, 315, 0, 306, 0, []), none, none, some (1, 10, 0, 308, 0, []), none, some (26, 315, 2, 311, 0, []), none, none, some (0, 0, 0, 312, 1, []), some (28, 316, 0, 315, 0, []), none, none, some (0, 0, 0, 316, 0, []), some (42, 0, 0, 317, 0, [])] -- DiskDrawerLaw.isAtOnceSo
def dT_law : DTbl := [none, none, none, some (30, 0, 0, 4, 0, []), none, none, none, some (4, 1, 0, 8, 0, []), some (0, 0, 0, 9, 0, []), some (3, 2, 0, 10, 0, []), some (1, 2, 0, 11, 0, []), some (0, 0, 0, 13, 50, []), none, some (27, 113, 3, 16, 0, []), none, none, some (2, 0, 0, 17, 0, []), some (1, 2, 0, 18, 0, []), some (35, 87, 2, 21, 0, []), none, none, some (3, 3, 0, 22, 0, []), some (2, 1, 0, 23, 0, []), some (1, 3, 0, 24, 0, []), some (35, 90, 2, 27, 0, []), none, none, some (3, 4, 0, 29, 0, []), none, some (1, 4, 0, 31, 0, []), none, some (0, 0, 0, 33, (-5), []), none, some (27, 105, 2, 36, 0, []), none, none, some (2, 1, 0, 37, 0, []), none, none, none, some (26, 105, 0, 43, 0, []), none, none, some (1, 2, 0, 44, 0, []), some (0, 0, 0, 45, 3, []), some (46, 0, 0, 46, 0, []), some (0, 0, 0, 47, 1, []), some (27, 57, 1, 50, 0, []), none, none, some (2, 1, 0, 51, 0, []), none, none, none, some (26, 105, 0, 57, 0, []), none, none, some (1, 2, 0, 58, 0, []), some (0, 0, 0, 59, 4, []), some (46, 0, 0, 60, 0, []), some (0, 0, 0, 61, 2, []), some (27, 79, 1, 64, 0, []), none, none, some (2, 1, 0, 65, 0, []), some (2, 1, 0, 66, 0, []), some (1, 3, 0, 67, 0, []), some (0, 0, 0, 69, 6, []), none, some (41, 0, 0, 70, 0, []), some (35, 89, 2, 73, 0, []), none, none, some (35, 92, 2, 76, 0, []), none, none, some (26, 105, 0, 79, 0, []), none, none, some (1, 2, 0, 80, 0, []), some (0, 0, 0, 82, 11, []), none, some (46, 0, 0, 83, 0, []), some (0, 0, 0, 85, 7, []), none, some (27, 107, 1, 88, 0, []), none, none, some (2, 1, 0, 89, 0, []), some (0, 0, 0, 90, 1, []), some (1, 3, 0, 91, 0, []), some (0, 0, 0, 92, 5, []), some (41, 0, 0, 93, 0, []), some (0, 0, 0, 95, 12, []), none, some (35, 88, 2, 98, 0, []), none, none, some (19, 0, 0, 99, 0, []), some (35, 93, 2, 102, 0, []), none, none, some (26, 107, 1, 105, 0, []), none, none, some (0, 0, 0, 106, 0, []), none, some (25, 2, 0, 110, 1, []), none, none, some (28, 10, 0, 113, 0, []), none, none, some (0, 0, 0, 114, 1, []), none]
def dT_disks : DTbl := [none, none, none, none, none, none, none, none, none, none, none, some (0, 0, 0, 12, 1, []), some (3, 5, 0, 14, 0, []), none, some (0, 0, 0, 15, 0, []), some (3, 6, 0, 17, 0, []), none, some (1, 6, 0, 19, 0, []), none, some (0, 0, 0, 21, 12, []), none, some (27, 209, 3, 24, 0, []), none, none, some (2, 0, 0, 25, 0, []), some (1, 6, 0, 27, 0, []), none, some (0, 0, 0, 28, 0, []), some (34, 73, 2, 31, 0, [3]), none, none, some (3, 7, 0, 33, 0, []), none, some (2, 4, 0, 35, 0, []), none, some (1, 7, 0, 37, 0, []), none, some (31, 0, 0, 38, 0, []), some (10, 0, 0, 39, 0, []), some (0, 0, 0, 40, 1, []), some (19, 0, 0, 41, 0, []), some (11, 0, 0, 42, 0, []), some (1, 1, 0, 43, 0, []), some (2, 0, 0, 44, 0, []), some (1, 6, 0, 46, 0, []), none, some (0, 0, 0, 47, 1, []), some (34, 73, 2, 50, 0, [3]), none, none, some (19, 0, 0, 51, 0, []), some (3, 1, 0, 52, 0, []), some (1, 2, 0, 53, 0, []), some (2, 0, 0, 54, 0, []), some (1, 6, 0, 56, 0, []), none, some (0, 0, 0, 57, 5, []), some (34, 73, 2, 60, 0, [3]), none, none, some (19, 0, 0, 61, 0, []), some (3, 2, 0, 62, 0, []), some (1, 3, 0, 63, 0, []), some (2, 0, 0, 64, 0, []), some (1, 6, 0, 66, 0, []), none, some (0, 0, 0, 68, 7, []), none, some (34, 73, 2, 71, 0, [3]), none, none, some (19, 0, 0, 72, 0, []), some (3, 3, 0, 73, 0, []), some (1, 5, 0, 75, 0, []), none, some (26, 200, 0, 78, 0, []), none, none, some (2, 0, 0, 79, 0, []), some (1, 6, 0, 81, 0, []), none, some (0, 0, 0, 82, 1, []), some (34, 73, 2, 85, 0, [3]), none, none, some (2, 0, 0, 86, 0, []), some (1, 6, 0, 88, 0, []), none, some (35, 91, 2, 91, 0, []), none, none, some (27, 200, 1, 94, 0, []), none, none, some (2, 0, 0, 95, 0, []), some (1, 6, 0, 97, 0, []), none, some (0, 0, 0, 98, 2, []), some (34, 73, 2, 101, 0, [3]), none, none, some (26, 108, 5, 104, 0, []), none, none, some (0, 0, 0, 105, 1, []), some (28, 109, 0, 108, 0, []), none, none, some (0, 0, 0, 109, 0, []), some (1, 7, 0, 111, 0, []), none, some (0, 0, 0, 112, 1, []), some (27, 119, 1, 115, 0, []), none, none, some (0, 0, 0, 116, 1, []), some (28, 120, 0, 119, 0, []), none, none, some (0, 0, 0, 120, 0, []), some (27, 200, 1, 123, 0, []), none, none, some (1, 7, 0, 125, 0, []), none, some (0, 0, 0, 126, 3, []), some (27, 133, 1, 129, 0, []), none, none, some (0, 0, 0, 130, 1, []), some (28, 134, 0, 133, 0, []), none, none, some (0, 0, 0, 134, 0, []), some (2, 0, 0, 135, 0, []), some (1, 6, 0, 137, 0, []), none, some (0, 0, 0, 138, 3, []), some (34, 73, 2, 141, 0, [3]), none, none, some (0, 0, 0, 142, 3, []), some (27, 149, 1, 145, 0, []), none, none, some (0, 0, 0, 146, 1, []), some (28, 150, 0, 149, 0, []), none, none, some (0, 0, 0, 150, 0, []), some (27, 200, 1, 153, 0, []), none, none, some (2, 0, 0, 154, 0, []), some (1, 6, 0, 156, 0, []), none, some (0, 0, 0, 157, 3, []), some (34, 73, 2, 160, 0, [3]), none, none, some (0, 0, 0, 161, 3, []), some (27, 200, 4, 164, 0, []), none, none, some (1, 7, 0, 166, 0, []), none, some (0, 0, 0, 167, 2, []), some (27, 180, 0, 170, 0, []), none, none, some (2, 0, 0, 171, 0, []), some (1, 6, 0, 173, 0, []), none, some (0, 0, 0, 174, 4, []), some (34, 73, 2, 177, 0, [3]), none, none, some (26, 200, 1, 180, 0, []), none, none, some (1, 7, 0, 182, 0, []), none, some (0, 0, 0, 183, 3, []), some (27, 196, 1, 186, 0, []), none, none, some (2, 0, 0, 187, 0, []), some (1, 6, 0, 189, 0, []), none, some (0, 0, 0, 190, 5, []), some (34, 73, 2, 193, 0, [3]), none, none, some (26, 200, 1, 196, 0, []), none, none, some (0, 0, 0, 197, 1, []), some (28, 201, 0, 200, 0, []), none, none, some (0, 0, 0, 201, 0, []), some (3, 5, 0, 203, 0, []), none, some (25, 6, 0, 206, 1, []), none, none, some (28, 17, 0, 209, 0, []), none, none, some (0, 0, 0, 211, 7, []), none, some (3, 6, 0, 213, 0, []), none, some (1, 6, 0, 215, 0, []), none, some (0, 0, 0, 217, 11, []), none, some (27, 255, 3, 220, 0, []), none, none, some (1, 5, 0, 222, 0, []), none, some (26, 246, 0, 225, 0, []), none, none, some (2, 0, 0, 226, 0, []), some (1, 6, 0, 228, 0, []), none, some (34, 85, 1, 231, 0, [3]), none, none, some (2, 4, 0, 233, 0, []), none, some (1, 6, 0, 235, 0, []), none, some (0, 0, 0, 237, 7, []), none, some (20, 0, 0, 238, 0, []), some (10, 0, 0, 239, 0, []), some (27, 246, 1, 242, 0, []), none, none, some (0, 0, 0, 243, 1, []), some (28, 247, 0, 246, 0, []), none, none, some (0, 0, 0, 247, 0, []), some (3, 5, 0, 249, 0, []), none, some (25, 6, 0, 252, 1, []), none, none, some (28, 213, 0, 255, 0, []), none, none, some (1, 5, 0, 257, 0, []), none, some (26, 371, 0, 260, 0, []), none, none, some (1, 1, 0, 261, 0, []), some (2, 0, 0, 262, 0, []), some (0, 0, 0, 263, 1, []), some (34, 85, 1, 266, 0, [3]), none, none, some (27, 371, 1, 269, 0, []), none, none, some (1, 2, 0, 270, 0, []), some (2, 0, 0, 271, 0, []), some (0, 0, 0, 272, 3, []), some (34, 85, 1, 275, 0, [3]), none, none, some (27, 371, 1, 278, 0, []), none, none, some (1, 3, 0, 279, 0, []), some (2, 0, 0, 280, 0, []), some (0, 0, 0, 282, 14, []), none, some (34, 85, 1, 285, 0, [3]), none, none, some (27, 371, 4, 288, 0, []), none, none, some (2, 0, 0, 289, 0, []), some (0, 0, 0, 291, 15, []), none, some (34, 85, 1, 294, 0, [3]), none, none, some (2, 0, 0, 295, 0, []), some (0, 0, 0, 297, 14, []), none, some (34, 85, 1, 300, 0, [3]), none, none, some (27, 371, 4, 303, 0, []), none, none, some (2, 0, 0, 304, 0, []), some (0, 0, 0, 305, 5, []), some (34, 85, 1, 308, 0, [3]), none, none, some (2, 0, 0, 309, 0, []), some (0, 0, 0, 311, 6, []), none, some (34, 85, 1, 314, 0, [3]), none, none, some (19, 0, 0, 315, 0, []), some (2, 0, 0, 316, 0, []), some (0, 0, 0, 317, 3, []), some (34, 85, 1, 320, 0, [3]), none, none, some (19, 0, 0, 321, 0, []), some (2, 0, 0, 322, 0, []), some (0, 0, 0, 323, 4, []), some (34, 85, 1, 326, 0, [3]), none, none, some (27, 371, 4, 329, 0, []), none, none, some (2, 0, 0, 330, 0, []), some (0, 0, 0, 332, 11, []), none, some (34, 85, 1, 335, 0, [3]), none, none, some (26, 354, 0, 338, 0, []), none, none, some (2, 0, 0, 339, 0, []), some (0, 0, 0, 341, 12, []), none, some (34, 85, 1, 344, 0, [3]), none, none, some (26, 371, 1, 347, 0, []), none, none, some (2, 0, 0, 348, 0, []), some (34, 78, 0, 351, 0, [3]), none, none, some (26, 371, 1, 354, 0, []), none, none, some (2, 0, 0, 355, 0, []), some (34, 78, 0, 358, 0, [3]), none, none, some (2, 0, 0, 359, 0, []), some (0, 0, 0, 361, 7, []), none, some (34, 85, 1, 364, 0, [3]), none, none, some (27, 371, 4, 367, 0, []), none, none, some (0, 0, 0, 368, 1, []), some (28, 372, 0, 371, 0, []), none, none, some (0, 0, 0, 372, 0, []), some (3, 5, 0, 374, 0, []), none, some (1, 5, 0, 376, 0, []), none, some (42, 0, 0, 377, 0, [])]
def dT_reads : DTbl := [none, none, none, none, none, none, none, some (2, 0, 0, 8, 0, []), some (2, 0, 0, 9, 0, []), some (0, 0, 0, 10, 4, []), some (34, 85, 1, 13, 0, [3]), none, none, some (0, 0, 0, 14, 0, []), some (34, 75, 2, 17, 0, [3]), none, none, some (0, 0, 0, 18, (-1), []), some (27, 25, 1, 21, 0, []), none, none, some (0, 0, 0, 22, 1, []), some (28, 26, 0, 25, 0, []), none, none, some (0, 0, 0, 26, 0, []), some (3, 3, 0, 27, 0, []), some (0, 0, 0, 28, 0, []), some (3, 4, 0, 30, 0, []), none, some (1, 4, 0, 32, 0, []), none, some (2, 0, 0, 33, 0, []), some (0, 0, 0, 34, 4, []), some (34, 85, 1, 37, 0, [3]), none, none, some (27, 147, 3, 40, 0, []), none, none, some (2, 0, 0, 41, 0, []), some (1, 4, 0, 43, 0, []), none, some (0, 0, 0, 44, 0, []), some (34, 75, 2, 47, 0, [3]), none, none, some (3, 5, 0, 49, 0, []), none, some (1, 5, 0, 51, 0, []), none, some (26, 141, 2, 54, 0, []), none, none, some (2, 0, 0, 55, 0, []), some (1, 4, 0, 57, 0, []), none, some (0, 0, 0, 58, 2, []), some (34, 75, 2, 61, 0, [3]), none, none, some (3, 6, 0, 63, 0, []), none, some (25, 1, 0, 66, 1, []), none, none, some (1, 3, 0, 67, 0, []), some (26, 131, 0, 70, 0, []), none, none, some (1, 6, 0, 72, 0, []), none, some (0, 0, 0, 73, 1, []), some (27, 131, 2, 76, 0, []), none, none, some (1, 6, 0, 78, 0, []), none, some (2, 0, 0, 79, 0, []), some (1, 4, 0, 81, 0, []), none, some (0, 0, 0, 82, 1, []), some (34, 75, 2, 85, 0, [3]), none, none, some (27, 131, 4, 88, 0, []), none, none, some (2, 0, 0, 89, 0, []), some (1, 4, 0, 91, 0, []), none, some (0, 0, 0, 92, 3, []), some (34, 75, 2, 95, 0, [3]), none, none, some (2, 2, 0, 96, 0, []), some (1, 5, 0, 98, 0, []), none, some (10, 0, 0, 99, 0, []), some (27, 131, 1, 102, 0, []), none, none, some (2, 0, 0, 103, 0, []), some (1, 4, 0, 105, 0, []), none, some (0, 0, 0, 106, 4, []), some (34, 75, 2, 109, 0, [3]), none, none, some (26, 131, 2, 112, 0, []), none, none, some (2, 0, 0, 113, 0, []), some (1, 4, 0, 115, 0, []), none, some (0, 0, 0, 116, 4, []), some (34, 75, 2, 119, 0, [3]), none, none, some (2, 0, 0, 120, 0, []), some (0, 0, 0, 121, 0, []), some (34, 85, 1, 124, 0, [3]), none, none, some (27, 131, 4, 127, 0, []), none, none, some (0, 0, 0, 128, 1, []), some (28, 132, 0, 131, 0, []), none, none, some (0, 0, 0, 132, 0, []), some (3, 3, 0, 133, 0, []), some (2, 2, 0, 134, 0, []), some (1, 5, 0, 136, 0, []), none, some (31, 0, 0, 137, 0, []), some (10, 0, 0, 138, 0, []), some (0, 0, 0, 139, 1, []), some (19, 0, 0, 140, 0, []), some (11, 0, 0, 141, 0, []), some (25, 4, 0, 144, 1, []), none, none, some (28, 30, 0, 147, 0, []), none, none, some (1, 3, 0, 148, 0, []), some (26, 164, 0, 151, 0, []), none, none, some (1, 1, 0, 152, 0, []), some (2, 0, 0, 153, 0, []), some (0, 0, 0, 154, 3, []), some (34, 85, 1, 157, 0, [3]), none, none, some (27, 164, 1, 160, 0, []), none, none, some (0, 0, 0, 161, 1, []), some (28, 165, 0, 164, 0, []), none, none, some (0, 0, 0, 165, 0, []), some (42, 0, 0, 166, 0, [])]
abbrev DM : Type := MethodName × ByteArray × Nat × Option FieldType × Nat × DTbl
def dM_0 : DM := (⟨"DiskDrawer", "set", "(II)I"⟩, prog_1_method_2_code, 3, some .int, 3, dT_0)
def dM_1 : DM := (⟨"DiskDrawer$Past", "prepare", "(LDiskDrawer$State;)V"⟩, prog_3_method_2_code, 2, none, 4, dT_1)
def dM_2 : DM := (⟨"DiskDrawer$State", "copyFrom", "(LDiskDrawer$State;)V"⟩, prog_6_method_2_code, 3, none, 0, dT_2)
def dM_3 : DM := (⟨"DiskDrawer$Disk", "copyFrom", "(LDiskDrawer$Disk;)V"⟩, prog_2_method_2_code, 2, none, 1, dT_3)
def dM_4 : DM := (⟨"DiskDrawer$Read", "copyFrom", "(LDiskDrawer$Read;)V"⟩, prog_5_method_2_code, 2, none, 2, dT_4)
def dM_5 : DM := (⟨"DiskDrawer$State", "setNumber", "(II)I"⟩, prog_6_method_3_code, 4, some .int, 0, dT_5)
def dM_6 : DM := (⟨"DiskDrawer", "isWithin", "(III)Z"⟩, prog_1_method_26_code, 3, some .boolean, 3, dT_6)
def dM_7 : DM := (⟨"DiskDrawer$Past", "recorded", "(I)I"⟩, prog_3_method_4_code, 2, some .int, 4, dT_7)
def dM_8 : DM := (⟨"DiskDrawer$Past", "forgetOldest", "()V"⟩, prog_3_method_5_code, 3, none, 4, dT_8)
def dM_9 : DM := (⟨"DiskDrawer", "read", "(II)I"⟩, prog_1_method_3_code, 3, some .int, 3, dT_9)
def dM_10 : DM := (⟨"DiskDrawer$State", "addRead", "(II)I"⟩, prog_6_method_4_code, 4, some .int, 0, dT_10)
def dM_11 : DM := (⟨"DiskDrawer$State", "isDisk", "(I)Z"⟩, prog_6_method_25_code, 1, some .boolean, 0, dT_11)
def dM_12 : DM := (⟨"DiskDrawer", "drop", "(I)I"⟩, prog_1_method_4_code, 2, some .int, 3, dT_12)
def dM_13 : DM := (⟨"DiskDrawer$State", "dropRead", "(I)I"⟩, prog_6_method_5_code, 3, some .int, 0, dT_13)
def dM_14 : DM := (⟨"DiskDrawer$State", "placeOf", "(I)I"⟩, prog_6_method_26_code, 3, some .int, 0, dT_14)
def dM_15 : DM := (⟨"DiskDrawer$State", "sweepReads", "()V"⟩, prog_6_method_16_code, 4, none, 0, dT_15)
def dM_16 : DM := (⟨"DiskDrawer", "fail", "(I)I"⟩, prog_1_method_5_code, 2, some .int, 3, dT_16)
def dM_17 : DM := (⟨"DiskDrawer$State", "planFault", "(I)I"⟩, prog_6_method_6_code, 4, some .int, 0, dT_17)
def dM_18 : DM := (⟨"DiskDrawer", "flag", "(Z)I"⟩, prog_1_method_27_code, 1, some .int, 3, dT_18)
def dM_19 : DM := (⟨"DiskDrawer", "replace", "(I)I"⟩, prog_1_method_6_code, 2, some .int, 3, dT_19)
def dM_20 : DM := (⟨"DiskDrawer$State", "replaceDisk", "(I)I"⟩, prog_6_method_7_code, 4, some .int, 0, dT_20)
def dM_21 : DM := (⟨"DiskDrawer$Disk", "renew", "()V"⟩, prog_2_method_7_code, 1, none, 1, dT_21)
def dM_22 : DM := (⟨"DiskDrawer$Disk", "standBy", "()V"⟩, prog_2_method_3_code, 1, none, 1, dT_22)
def dM_23 : DM := (⟨"DiskDrawer", "fuse", "()I"⟩, prog_1_method_7_code, 1, some .int, 3, dT_23)
def dM_24 : DM := (⟨"DiskDrawer$State", "renewFuse", "()I"⟩, prog_6_method_8_code, 1, some .int, 0, dT_24)
def dM_25 : DM := (⟨"DiskDrawer$State", "currentOfNow", "()I"⟩, prog_6_method_21_code, 3, some .int, 0, dT_25)
def dM_26 : DM := (⟨"DiskDrawer$State", "currentOf", "(LDiskDrawer$Disk;)I"⟩, prog_6_method_22_code, 2, some .int, 0, dT_26)
def dM_27 : DM := (⟨"DiskDrawer", "run", "(I)I"⟩, prog_1_method_8_code, 2, some .int, 3, dT_27)
def dM_28 : DM := (⟨"DiskDrawer$State", "pass", "(I)I"⟩, prog_6_method_9_code, 4, some .int, 0, dT_28)
def dM_29 : DM := (⟨"DiskDrawer$State", "tick", "()V"⟩, prog_6_method_10_code, 2, none, 0, dT_29)
def dM_30 : DM := (⟨"DiskDrawer$State", "cutOff", "()V"⟩, prog_6_method_11_code, 2, none, 0, dT_30)
def dM_31 : DM := (⟨"DiskDrawer$State", "goOnStarting", "()I"⟩, prog_6_method_12_code, 4, some .int, 0, dT_31)
def dM_32 : DM := (⟨"DiskDrawer$Disk", "failStart", "()V"⟩, prog_2_method_6_code, 1, none, 1, dT_32)
def dM_33 : DM := (⟨"DiskDrawer$State", "loseReadsOf", "(I)V"⟩, prog_6_method_13_code, 3, none, 0, dT_33)
def dM_34 : DM := (⟨"DiskDrawer$Disk", "spinUp", "()V"⟩, prog_2_method_5_code, 1, none, 1, dT_34)
def dM_35 : DM := (⟨"DiskDrawer$State", "goOnReading", "()V"⟩, prog_6_method_14_code, 5, none, 0, dT_35)
def dM_36 : DM := (⟨"DiskDrawer$State", "restIdle", "(I)V"⟩, prog_6_method_15_code, 4, none, 0, dT_36)
def dM_37 : DM := (⟨"DiskDrawer$State", "beginStarts", "(I)V"⟩, prog_6_method_17_code, 7, none, 0, dT_37)
def dM_38 : DM := (⟨"DiskDrawer$State", "disksThat", "(I)I"⟩, prog_6_method_23_code, 4, some .int, 0, dT_38)
def dM_39 : DM := (⟨"DiskDrawer$State", "mayStart", "(II)Z"⟩, prog_6_method_18_code, 3, some .boolean, 0, dT_39)
def dM_40 : DM := (⟨"DiskDrawer$State", "currentAddedByStart", "()I"⟩, prog_6_method_19_code, 1, some .int, 0, dT_40)
def dM_41 : DM := (⟨"DiskDrawer$Disk", "beginStart", "(I)V"⟩, prog_2_method_4_code, 2, none, 1, dT_41)
def dM_42 : DM := (⟨"DiskDrawer$State", "strainFuse", "()V"⟩, prog_6_method_20_code, 2, none, 0, dT_42)
def dM_69 : DM := (⟨"DiskDrawer", "undo", "()I"⟩, prog_1_method_12_code, 1, some .int, 3, dT_69)
def dM_70 : DM := (⟨"DiskDrawer$Past", "takeBack", "(LDiskDrawer$State;)Z"⟩, prog_3_method_6_code, 2, some .boolean, 4, dT_70)
def dM_73 : DM := (⟨"DiskDrawer", "disk", "(II)I"⟩, prog_1_method_15_code, 3, some .int, 3, dT_73)
def dM_74 : DM := (⟨"DiskDrawer$State", "tellDisk", "(II)I"⟩, prog_6_method_27_code, 4, some .int, 0, dT_74)
def dM_75 : DM := (⟨"DiskDrawer", "readOf", "(II)I"⟩, prog_1_method_16_code, 3, some .int, 3, dT_75)
def dM_76 : DM := (⟨"DiskDrawer$State", "tellRead", "(II)I"⟩, prog_6_method_28_code, 5, some .int, 0, dT_76)
def dM_77 : DM := (⟨"DiskDrawer$State", "readsAheadOf", "(I)I"⟩, prog_6_method_29_code, 4, some .int, 0, dT_77)
def dM_78 : DM := (⟨"DiskDrawer", "couldStart", "()I"⟩, prog_1_method_17_code, 1, some .int, 3, dT_78)
def dM_79 : DM := (⟨"DiskDrawer$State", "startable", "()I"⟩, prog_6_method_24_code, 5, some .int, 0, dT_79)
def dM_80 : DM := (⟨"DiskDrawer", "answeredIn", "(I)I"⟩, prog_1_method_18_code, 5, some .int, 3, dT_80)
def dM_81 : DM := (⟨"DiskDrawer", "ifAtOnce", "(II)I"⟩, prog_1_method_19_code, 4, some .int, 3, dT_81)
def dM_82 : DM := (⟨"DiskDrawer", "ticksUntilAllRead", "(II)I"⟩, prog_1_method_24_code, 4, some .int, 3, dT_82)
def dM_83 : DM := (⟨"DiskDrawer", "beginTrial", "(I)V"⟩, prog_1_method_23_code, 2, none, 3, dT_83)
def dM_84 : DM := (⟨"DiskDrawer", "bestAtOnce", "()I"⟩, prog_1_method_20_code, 5, some .int, 3, dT_84)
def dM_85 : DM := (⟨"DiskDrawer", "count", "(I)I"⟩, prog_1_method_21_code, 2, some .int, 3, dT_85)
def dM_86 : DM := (⟨"DiskDrawer$State", "tellCount", "(I)I"⟩, prog_6_method_30_code, 2, some .int, 0, dT_86)
def dM_87 : DM := (⟨"DiskDrawerLaw", "cell", "([II)I"⟩, method_2_code, 2, some .int, 11, dT_87)
def dM_88 : DM := (⟨"DiskDrawerLaw", "low", "(II)I"⟩, method_3_code, 2, some .int, 11, dT_88)
def dM_89 : DM := (⟨"DiskDrawerLaw", "some", "(LDiskDrawer;I)I"⟩, method_4_code, 4, some .int, 11, dT_89)
def dM_90 : DM := (⟨"DiskDrawerLaw", "does", "(LDiskDrawer;I)I"⟩, method_5_code, 5, some .int, 11, dT_90)
def dM_91 : DM := (⟨"DiskDrawerLaw", "currentOf", "(LDiskDrawer;I)I"⟩, method_6_code, 3, some .int, 11, dT_91)
def dM_92 : DM := (⟨"DiskDrawerLaw", "isAnswerSo", "(LDiskDrawer;I)Z"⟩, method_9_code, 11, some .boolean, 11, dT_92)
def dM_93 : DM := (⟨"DiskDrawerLaw", "isAtOnceSo", "(LDiskDrawer;I)Z"⟩, method_10_code, 11, some .boolean, 11, dT_93)
def dms_0 : List DM := [dM_0, dM_1, dM_2, dM_3, dM_4, dM_5, dM_6, dM_7, dM_8, dM_9, dM_10, dM_11, dM_12, dM_13, dM_14, dM_15, dM_16, dM_17, dM_18, dM_19, dM_20, dM_21, dM_22, dM_23, dM_24]
def dms_1 : List DM := [dM_25, dM_26, dM_27, dM_28, dM_29, dM_30, dM_31, dM_32, dM_33, dM_34, dM_35, dM_36, dM_37, dM_38, dM_39, dM_40, dM_41, dM_42, dM_18, dM_18, dM_18, dM_18, dM_18, dM_18, dM_18]
def dms_2 : List DM := [dM_18, dM_18, dM_18, dM_18, dM_18, dM_18, dM_18, dM_18, dM_18, dM_18, dM_18, dM_18, dM_18, dM_18, dM_18, dM_18, dM_18, dM_18, dM_18, dM_69, dM_70, dM_18, dM_18, dM_73, dM_74]
def dms_3 : List DM := [dM_75, dM_76, dM_77, dM_78, dM_79, dM_80, dM_81, dM_82, dM_83, dM_84, dM_85, dM_86, dM_87, dM_88, dM_89, dM_90, dM_91, dM_92, dM_93]
def dms : List DM := dms_0 ++ (dms_1 ++ (dms_2 ++ (dms_3)))
theorem dms_at_0 : dms[0]? = some dM_0 := rfl
theorem dms_at_1 : dms[1]? = some dM_1 := rfl
theorem dms_at_2 : dms[2]? = some dM_2 := rfl
theorem dms_at_3 : dms[3]? = some dM_3 := rfl
theorem dms_at_4 : dms[4]? = some dM_4 := rfl
theorem dms_at_5 : dms[5]? = some dM_5 := rfl
theorem dms_at_6 : dms[6]? = some dM_6 := rfl
theorem dms_at_7 : dms[7]? = some dM_7 := rfl
theorem dms_at_8 : dms[8]? = some dM_8 := rfl
theorem dms_at_9 : dms[9]? = some dM_9 := rfl
theorem dms_at_10 : dms[10]? = some dM_10 := rfl
theorem dms_at_11 : dms[11]? = some dM_11 := rfl
theorem dms_at_12 : dms[12]? = some dM_12 := rfl
theorem dms_at_13 : dms[13]? = some dM_13 := rfl
theorem dms_at_14 : dms[14]? = some dM_14 := rfl
theorem dms_at_15 : dms[15]? = some dM_15 := rfl
theorem dms_at_16 : dms[16]? = some dM_16 := rfl
theorem dms_at_17 : dms[17]? = some dM_17 := rfl
theorem dms_at_18 : dms[18]? = some dM_18 := rfl
theorem dms_at_19 : dms[19]? = some dM_19 := rfl
theorem dms_at_20 : dms[20]? = some dM_20 := rfl
theorem dms_at_21 : dms[21]? = some dM_21 := rfl
theorem dms_at_22 : dms[22]? = some dM_22 := rfl
theorem dms_at_23 : dms[23]? = some dM_23 := rfl
theorem dms_at_24 : dms[24]? = some dM_24 := rfl
theorem dms_at_25 : dms[25]? = some dM_25 := rfl
theorem dms_at_26 : dms[26]? = some dM_26 := rfl
theorem dms_at_27 : dms[27]? = some dM_27 := rfl
theorem dms_at_28 : dms[28]? = some dM_28 := rfl
theorem dms_at_29 : dms[29]? = some dM_29 := rfl
theorem dms_at_30 : dms[30]? = some dM_30 := rfl
theorem dms_at_31 : dms[31]? = some dM_31 := rfl
theorem dms_at_32 : dms[32]? = some dM_32 := rfl
theorem dms_at_33 : dms[33]? = some dM_33 := rfl
theorem dms_at_34 : dms[34]? = some dM_34 := rfl
theorem dms_at_35 : dms[35]? = some dM_35 := rfl
theorem dms_at_36 : dms[36]? = some dM_36 := rfl
theorem dms_at_37 : dms[37]? = some dM_37 := rfl
theorem dms_at_38 : dms[38]? = some dM_38 := rfl
theorem dms_at_39 : dms[39]? = some dM_39 := rfl
theorem dms_at_40 : dms[40]? = some dM_40 := rfl
theorem dms_at_41 : dms[41]? = some dM_41 := rfl
theorem dms_at_42 : dms[42]? = some dM_42 := rfl
theorem dms_at_69 : dms[69]? = some dM_69 := rfl
theorem dms_at_70 : dms[70]? = some dM_70 := rfl
theorem dms_at_73 : dms[73]? = some dM_73 := rfl
theorem dms_at_74 : dms[74]? = some dM_74 := rfl
theorem dms_at_75 : dms[75]? = some dM_75 := rfl
theorem dms_at_76 : dms[76]? = some dM_76 := rfl
theorem dms_at_77 : dms[77]? = some dM_77 := rfl
theorem dms_at_78 : dms[78]? = some dM_78 := rfl
theorem dms_at_79 : dms[79]? = some dM_79 := rfl
theorem dms_at_80 : dms[80]? = some dM_80 := rfl
theorem dms_at_81 : dms[81]? = some dM_81 := rfl
theorem dms_at_82 : dms[82]? = some dM_82 := rfl
theorem dms_at_83 : dms[83]? = some dM_83 := rfl
theorem dms_at_84 : dms[84]? = some dM_84 := rfl
theorem dms_at_85 : dms[85]? = some dM_85 := rfl
theorem dms_at_86 : dms[86]? = some dM_86 := rfl
theorem dms_at_87 : dms[87]? = some dM_87 := rfl
theorem dms_at_88 : dms[88]? = some dM_88 := rfl
theorem dms_at_89 : dms[89]? = some dM_89 := rfl
theorem dms_at_90 : dms[90]? = some dM_90 := rfl
theorem dms_at_91 : dms[91]? = some dM_91 := rfl
theorem dms_at_92 : dms[92]? = some dM_92 := rfl
theorem dms_at_93 : dms[93]? = some dM_93 := rfl
def dEx : Nat → DC
  | 0, _, _, _, _ => False
  | d + 1, mid, as, h, r => ∃ q : DM, dms[mid]? = some q ∧ as.length ≤ q.2.2.1 ∧ Runs q.2.2.2.2.2 (dEx d) (0, as.map some ++ List.replicate (q.2.2.1 - as.length) none, [], h) r
theorem dx_0 {d : Nat} {v0 v1 v2 : DV} {h : DH} {r : DRes} (k : Runs dT_0 (dEx d) (0, [some v0, some v1, some v2], [], h) r) : dEx (d + 1) 0 [v0, v1, v2] h r := ⟨dM_0, dms_at_0, Nat.le_of_ble_eq_true rfl, k⟩
theorem dx_1 {d : Nat} {v0 v1 : DV} {h : DH} {r : DRes} (k : Runs dT_1 (dEx d) (0, [some v0, some v1], [], h) r) : dEx (d + 1) 1 [v0, v1] h r := ⟨dM_1, dms_at_1, Nat.le_of_ble_eq_true rfl, k⟩
theorem dx_2 {d : Nat} {v0 v1 : DV} {h : DH} {r : DRes} (k : Runs dT_2 (dEx d) (0, [some v0, some v1, none], [], h) r) : dEx (d + 1) 2 [v0, v1] h r := ⟨dM_2, dms_at_2, Nat.le_of_ble_eq_true rfl, k⟩
theorem dx_3 {d : Nat} {v0 v1 : DV} {h : DH} {r : DRes} (k : Runs dT_3 (dEx d) (0, [some v0, some v1], [], h) r) : dEx (d + 1) 3 [v0, v1] h r := ⟨dM_3, dms_at_3, Nat.le_of_ble_eq_true rfl, k⟩
theorem dx_4 {d : Nat} {v0 v1 : DV} {h : DH} {r : DRes} (k : Runs dT_4 (dEx d) (0, [some v0, some v1], [], h) r) : dEx (d + 1) 4 [v0, v1] h r := ⟨dM_4, dms_at_4, Nat.le_of_ble_eq_true rfl, k⟩
theorem dx_5 {d : Nat} {v0 v1 v2 : DV} {h : DH} {r : DRes} (k : Runs dT_5 (dEx d) (0, [some v0, some v1, some v2, none], [], h) r) : dEx (d + 1) 5 [v0, v1, v2] h r := ⟨dM_5, dms_at_5, Nat.le_of_ble_eq_true rfl, k⟩
theorem dx_6 {d : Nat} {v0 v1 v2 : DV} {h : DH} {r : DRes} (k : Runs dT_6 (dEx d) (0, [some v0, some v1, some v2], [], h) r) : dEx (d + 1) 6 [v0, v1, v2] h r := ⟨dM_6, dms_at_6, Nat.le_of_ble_eq_true rfl, k⟩
theorem dx_7 {d : Nat} {v0 v1 : DV} {h : DH} {r : DRes} (k : Runs dT_7 (dEx d) (0, [some v0, some v1], [], h) r) : dEx (d + 1) 7 [v0, v1] h r := ⟨dM_7, dms_at_7, Nat.le_of_ble_eq_true rfl, k⟩
theorem dx_8 {d : Nat} {v0 : DV} {h : DH} {r : DRes} (k : Runs dT_8 (dEx d) (0, [some v0, none, none], [], h) r) : dEx (d + 1) 8 [v0] h r := ⟨dM_8, dms_at_8, Nat.le_of_ble_eq_true rfl, k⟩
theorem dx_9 {d : Nat} {v0 v1 v2 : DV} {h : DH} {r : DRes} (k : Runs dT_9 (dEx d) (0, [some v0, some v1, some v2], [], h) r) : dEx (d + 1) 9 [v0, v1, v2] h r := ⟨dM_9, dms_at_9, Nat.le_of_ble_eq_true rfl, k⟩
theorem dx_10 {d : Nat} {v0 v1 v2 : DV} {h : DH} {r : DRes} (k : Runs dT_10 (dEx d) (0, [some v0, some v1, some v2, none], [], h) r) : dEx (d + 1) 10 [v0, v1, v2] h r := ⟨dM_10, dms_at_10, Nat.le_of_ble_eq_true rfl, k⟩
theorem dx_11 {d : Nat} {v0 : DV} {h : DH} {r : DRes} (k : Runs dT_11 (dEx d) (0, [some v0], [], h) r) : dEx (d + 1) 11 [v0] h r := ⟨dM_11, dms_at_11, Nat.le_of_ble_eq_true rfl, k⟩
theorem dx_12 {d : Nat} {v0 v1 : DV} {h : DH} {r : DRes} (k : Runs dT_12 (dEx d) (0, [some v0, some v1], [], h) r) : dEx (d + 1) 12 [v0, v1] h r := ⟨dM_12, dms_at_12, Nat.le_of_ble_eq_true rfl, k⟩
theorem dx_13 {d : Nat} {v0 v1 : DV} {h : DH} {r : DRes} (k : Runs dT_13 (dEx d) (0, [some v0, some v1, none], [], h) r) : dEx (d + 1) 13 [v0, v1] h r := ⟨dM_13, dms_at_13, Nat.le_of_ble_eq_true rfl, k⟩
theorem dx_14 {d : Nat} {v0 v1 : DV} {h : DH} {r : DRes} (k : Runs dT_14 (dEx d) (0, [some v0, some v1, none], [], h) r) : dEx (d + 1) 14 [v0, v1] h r := ⟨dM_14, dms_at_14, Nat.le_of_ble_eq_true rfl, k⟩
theorem dx_15 {d : Nat} {v0 : DV} {h : DH} {r : DRes} (k : Runs dT_15 (dEx d) (0, [some v0, none, none, none], [], h) r) : dEx (d + 1) 15 [v0] h r := ⟨dM_15, dms_at_15, Nat.le_of_ble_eq_true rfl, k⟩
theorem dx_16 {d : Nat} {v0 v1 : DV} {h : DH} {r : DRes} (k : Runs dT_16 (dEx d) (0, [some v0, some v1], [], h) r) : dEx (d + 1) 16 [v0, v1] h r := ⟨dM_16, dms_at_16, Nat.le_of_ble_eq_true rfl, k⟩
theorem dx_17 {d : Nat} {v0 v1 : DV} {h : DH} {r : DRes} (k : Runs dT_17 (dEx d) (0, [some v0, some v1, none, none], [], h) r) : dEx (d + 1) 17 [v0, v1] h r := ⟨dM_17, dms_at_17, Nat.le_of_ble_eq_true rfl, k⟩
theorem dx_18 {d : Nat} {v0 : DV} {h : DH} {r : DRes} (k : Runs dT_18 (dEx d) (0, [some v0], [], h) r) : dEx (d + 1) 18 [v0] h r := ⟨dM_18, dms_at_18, Nat.le_of_ble_eq_true rfl, k⟩
theorem dx_19 {d : Nat} {v0 v1 : DV} {h : DH} {r : DRes} (k : Runs dT_19 (dEx d) (0, [some v0, some v1], [], h) r) : dEx (d + 1) 19 [v0, v1] h r := ⟨dM_19, dms_at_19, Nat.le_of_ble_eq_true rfl, k⟩
theorem dx_20 {d : Nat} {v0 v1 : DV} {h : DH} {r : DRes} (k : Runs dT_20 (dEx d) (0, [some v0, some v1, none, none], [], h) r) : dEx (d + 1) 20 [v0, v1] h r := ⟨dM_20, dms_at_20, Nat.le_of_ble_eq_true rfl, k⟩
theorem dx_21 {d : Nat} {v0 : DV} {h : DH} {r : DRes} (k : Runs dT_21 (dEx d) (0, [some v0], [], h) r) : dEx (d + 1) 21 [v0] h r := ⟨dM_21, dms_at_21, Nat.le_of_ble_eq_true rfl, k⟩
theorem dx_22 {d : Nat} {v0 : DV} {h : DH} {r : DRes} (k : Runs dT_22 (dEx d) (0, [some v0], [], h) r) : dEx (d + 1) 22 [v0] h r := ⟨dM_22, dms_at_22, Nat.le_of_ble_eq_true rfl, k⟩
theorem dx_23 {d : Nat} {v0 : DV} {h : DH} {r : DRes} (k : Runs dT_23 (dEx d) (0, [some v0], [], h) r) : dEx (d + 1) 23 [v0] h r := ⟨dM_23, dms_at_23, Nat.le_of_ble_eq_true rfl, k⟩
theorem dx_24 {d : Nat} {v0 : DV} {h : DH} {r : DRes} (k : Runs dT_24 (dEx d) (0, [some v0], [], h) r) : dEx (d + 1) 24 [v0] h r := ⟨dM_24, dms_at_24, Nat.le_of_ble_eq_true rfl, k⟩
theorem dx_25 {d : Nat} {v0 : DV} {h : DH} {r : DRes} (k : Runs dT_25 (dEx d) (0, [some v0, none, none], [], h) r) : dEx (d + 1) 25 [v0] h r := ⟨dM_25, dms_at_25, Nat.le_of_ble_eq_true rfl, k⟩
theorem dx_26 {d : Nat} {v0 v1 : DV} {h : DH} {r : DRes} (k : Runs dT_26 (dEx d) (0, [some v0, some v1], [], h) r) : dEx (d + 1) 26 [v0, v1] h r := ⟨dM_26, dms_at_26, Nat.le_of_ble_eq_true rfl, k⟩
theorem dx_27 {d : Nat} {v0 v1 : DV} {h : DH} {r : DRes} (k : Runs dT_27 (dEx d) (0, [some v0, some v1], [], h) r) : dEx (d + 1) 27 [v0, v1] h r := ⟨dM_27, dms_at_27, Nat.le_of_ble_eq_true rfl, k⟩
theorem dx_28 {d : Nat} {v0 v1 : DV} {h : DH} {r : DRes} (k : Runs dT_28 (dEx d) (0, [some v0, some v1, none, none], [], h) r) : dEx (d + 1) 28 [v0, v1] h r := ⟨dM_28, dms_at_28, Nat.le_of_ble_eq_true rfl, k⟩
theorem dx_29 {d : Nat} {v0 : DV} {h : DH} {r : DRes} (k : Runs dT_29 (dEx d) (0, [some v0, none], [], h) r) : dEx (d + 1) 29 [v0] h r := ⟨dM_29, dms_at_29, Nat.le_of_ble_eq_true rfl, k⟩
theorem dx_30 {d : Nat} {v0 : DV} {h : DH} {r : DRes} (k : Runs dT_30 (dEx d) (0, [some v0, none], [], h) r) : dEx (d + 1) 30 [v0] h r := ⟨dM_30, dms_at_30, Nat.le_of_ble_eq_true rfl, k⟩
theorem dx_31 {d : Nat} {v0 : DV} {h : DH} {r : DRes} (k : Runs dT_31 (dEx d) (0, [some v0, none, none, none], [], h) r) : dEx (d + 1) 31 [v0] h r := ⟨dM_31, dms_at_31, Nat.le_of_ble_eq_true rfl, k⟩
theorem dx_32 {d : Nat} {v0 : DV} {h : DH} {r : DRes} (k : Runs dT_32 (dEx d) (0, [some v0], [], h) r) : dEx (d + 1) 32 [v0] h r := ⟨dM_32, dms_at_32, Nat.le_of_ble_eq_true rfl, k⟩
theorem dx_33 {d : Nat} {v0 v1 : DV} {h : DH} {r : DRes} (k : Runs dT_33 (dEx d) (0, [some v0, some v1, none], [], h) r) : dEx (d + 1) 33 [v0, v1] h r := ⟨dM_33, dms_at_33, Nat.le_of_ble_eq_true rfl, k⟩
theorem dx_34 {d : Nat} {v0 : DV} {h : DH} {r : DRes} (k : Runs dT_34 (dEx d) (0, [some v0], [], h) r) : dEx (d + 1) 34 [v0] h r := ⟨dM_34, dms_at_34, Nat.le_of_ble_eq_true rfl, k⟩
theorem dx_35 {d : Nat} {v0 : DV} {h : DH} {r : DRes} (k : Runs dT_35 (dEx d) (0, [some v0, none, none, none, none], [], h) r) : dEx (d + 1) 35 [v0] h r := ⟨dM_35, dms_at_35, Nat.le_of_ble_eq_true rfl, k⟩
theorem dx_36 {d : Nat} {v0 v1 : DV} {h : DH} {r : DRes} (k : Runs dT_36 (dEx d) (0, [some v0, some v1, none, none], [], h) r) : dEx (d + 1) 36 [v0, v1] h r := ⟨dM_36, dms_at_36, Nat.le_of_ble_eq_true rfl, k⟩
theorem dx_37 {d : Nat} {v0 v1 : DV} {h : DH} {r : DRes} (k : Runs dT_37 (dEx d) (0, [some v0, some v1, none, none, none, none, none], [], h) r) : dEx (d + 1) 37 [v0, v1] h r := ⟨dM_37, dms_at_37, Nat.le_of_ble_eq_true rfl, k⟩
theorem dx_38 {d : Nat} {v0 v1 : DV} {h : DH} {r : DRes} (k : Runs dT_38 (dEx d) (0, [some v0, some v1, none, none], [], h) r) : dEx (d + 1) 38 [v0, v1] h r := ⟨dM_38, dms_at_38, Nat.le_of_ble_eq_true rfl, k⟩
theorem dx_39 {d : Nat} {v0 v1 v2 : DV} {h : DH} {r : DRes} (k : Runs dT_39 (dEx d) (0, [some v0, some v1, some v2], [], h) r) : dEx (d + 1) 39 [v0, v1, v2] h r := ⟨dM_39, dms_at_39, Nat.le_of_ble_eq_true rfl, k⟩
theorem dx_40 {d : Nat} {v0 : DV} {h : DH} {r : DRes} (k : Runs dT_40 (dEx d) (0, [some v0], [], h) r) : dEx (d + 1) 40 [v0] h r := ⟨dM_40, dms_at_40, Nat.le_of_ble_eq_true rfl, k⟩
theorem dx_41 {d : Nat} {v0 v1 : DV} {h : DH} {r : DRes} (k : Runs dT_41 (dEx d) (0, [some v0, some v1], [], h) r) : dEx (d + 1) 41 [v0, v1] h r := ⟨dM_41, dms_at_41, Nat.le_of_ble_eq_true rfl, k⟩
theorem dx_42 {d : Nat} {v0 : DV} {h : DH} {r : DRes} (k : Runs dT_42 (dEx d) (0, [some v0, none], [], h) r) : dEx (d + 1) 42 [v0] h r := ⟨dM_42, dms_at_42, Nat.le_of_ble_eq_true rfl, k⟩
theorem dx_69 {d : Nat} {v0 : DV} {h : DH} {r : DRes} (k : Runs dT_69 (dEx d) (0, [some v0], [], h) r) : dEx (d + 1) 69 [v0] h r := ⟨dM_69, dms_at_69, Nat.le_of_ble_eq_true rfl, k⟩
theorem dx_70 {d : Nat} {v0 v1 : DV} {h : DH} {r : DRes} (k : Runs dT_70 (dEx d) (0, [some v0, some v1], [], h) r) : dEx (d + 1) 70 [v0, v1] h r := ⟨dM_70, dms_at_70, Nat.le_of_ble_eq_true rfl, k⟩
theorem dx_73 {d : Nat} {v0 v1 v2 : DV} {h : DH} {r : DRes} (k : Runs dT_73 (dEx d) (0, [some v0, some v1, some v2], [], h) r) : dEx (d + 1) 73 [v0, v1, v2] h r := ⟨dM_73, dms_at_73, Nat.le_of_ble_eq_true rfl, k⟩
theorem dx_74 {d : Nat} {v0 v1 v2 : DV} {h : DH} {r : DRes} (k : Runs dT_74 (dEx d) (0, [some v0, some v1, some v2, none], [], h) r) : dEx (d + 1) 74 [v0, v1, v2] h r := ⟨dM_74, dms_at_74, Nat.le_of_ble_eq_true rfl, k⟩
theorem dx_75 {d : Nat} {v0 v1 v2 : DV} {h : DH} {r : DRes} (k : Runs dT_75 (dEx d) (0, [some v0, some v1, some v2], [], h) r) : dEx (d + 1) 75 [v0, v1, v2] h r := ⟨dM_75, dms_at_75, Nat.le_of_ble_eq_true rfl, k⟩
theorem dx_76 {d : Nat} {v0 v1 v2 : DV} {h : DH} {r : DRes} (k : Runs dT_76 (dEx d) (0, [some v0, some v1, some v2, none, none], [], h) r) : dEx (d + 1) 76 [v0, v1, v2] h r := ⟨dM_76, dms_at_76, Nat.le_of_ble_eq_true rfl, k⟩
theorem dx_77 {d : Nat} {v0 v1 : DV} {h : DH} {r : DRes} (k : Runs dT_77 (dEx d) (0, [some v0, some v1, none, none], [], h) r) : dEx (d + 1) 77 [v0, v1] h r := ⟨dM_77, dms_at_77, Nat.le_of_ble_eq_true rfl, k⟩
theorem dx_78 {d : Nat} {v0 : DV} {h : DH} {r : DRes} (k : Runs dT_78 (dEx d) (0, [some v0], [], h) r) : dEx (d + 1) 78 [v0] h r := ⟨dM_78, dms_at_78, Nat.le_of_ble_eq_true rfl, k⟩
theorem dx_79 {d : Nat} {v0 : DV} {h : DH} {r : DRes} (k : Runs dT_79 (dEx d) (0, [some v0, none, none, none, none], [], h) r) : dEx (d + 1) 79 [v0] h r := ⟨dM_79, dms_at_79, Nat.le_of_ble_eq_true rfl, k⟩
theorem dx_80 {d : Nat} {v0 v1 : DV} {h : DH} {r : DRes} (k : Runs dT_80 (dEx d) (0, [some v0, some v1, none, none, none], [], h) r) : dEx (d + 1) 80 [v0, v1] h r := ⟨dM_80, dms_at_80, Nat.le_of_ble_eq_true rfl, k⟩
theorem dx_81 {d : Nat} {v0 v1 v2 : DV} {h : DH} {r : DRes} (k : Runs dT_81 (dEx d) (0, [some v0, some v1, some v2, none], [], h) r) : dEx (d + 1) 81 [v0, v1, v2] h r := ⟨dM_81, dms_at_81, Nat.le_of_ble_eq_true rfl, k⟩
theorem dx_82 {d : Nat} {v0 v1 v2 : DV} {h : DH} {r : DRes} (k : Runs dT_82 (dEx d) (0, [some v0, some v1, some v2, none], [], h) r) : dEx (d + 1) 82 [v0, v1, v2] h r := ⟨dM_82, dms_at_82, Nat.le_of_ble_eq_true rfl, k⟩
theorem dx_83 {d : Nat} {v0 v1 : DV} {h : DH} {r : DRes} (k : Runs dT_83 (dEx d) (0, [some v0, some v1], [], h) r) : dEx (d + 1) 83 [v0, v1] h r := ⟨dM_83, dms_at_83, Nat.le_of_ble_eq_true rfl, k⟩
theorem dx_84 {d : Nat} {v0 : DV} {h : DH} {r : DRes} (k : Runs dT_84 (dEx d) (0, [some v0, none, none, none, none], [], h) r) : dEx (d + 1) 84 [v0] h r := ⟨dM_84, dms_at_84, Nat.le_of_ble_eq_true rfl, k⟩
theorem dx_85 {d : Nat} {v0 v1 : DV} {h : DH} {r : DRes} (k : Runs dT_85 (dEx d) (0, [some v0, some v1], [], h) r) : dEx (d + 1) 85 [v0, v1] h r := ⟨dM_85, dms_at_85, Nat.le_of_ble_eq_true rfl, k⟩
theorem dx_86 {d : Nat} {v0 v1 : DV} {h : DH} {r : DRes} (k : Runs dT_86 (dEx d) (0, [some v0, some v1], [], h) r) : dEx (d + 1) 86 [v0, v1] h r := ⟨dM_86, dms_at_86, Nat.le_of_ble_eq_true rfl, k⟩
theorem dx_87 {d : Nat} {v0 v1 : DV} {h : DH} {r : DRes} (k : Runs dT_87 (dEx d) (0, [some v0, some v1], [], h) r) : dEx (d + 1) 87 [v0, v1] h r := ⟨dM_87, dms_at_87, Nat.le_of_ble_eq_true rfl, k⟩
theorem dx_88 {d : Nat} {v0 v1 : DV} {h : DH} {r : DRes} (k : Runs dT_88 (dEx d) (0, [some v0, some v1], [], h) r) : dEx (d + 1) 88 [v0, v1] h r := ⟨dM_88, dms_at_88, Nat.le_of_ble_eq_true rfl, k⟩
theorem dx_89 {d : Nat} {v0 v1 : DV} {h : DH} {r : DRes} (k : Runs dT_89 (dEx d) (0, [some v0, some v1, none, none], [], h) r) : dEx (d + 1) 89 [v0, v1] h r := ⟨dM_89, dms_at_89, Nat.le_of_ble_eq_true rfl, k⟩
theorem dx_90 {d : Nat} {v0 v1 : DV} {h : DH} {r : DRes} (k : Runs dT_90 (dEx d) (0, [some v0, some v1, none, none, none], [], h) r) : dEx (d + 1) 90 [v0, v1] h r := ⟨dM_90, dms_at_90, Nat.le_of_ble_eq_true rfl, k⟩
theorem dx_91 {d : Nat} {v0 v1 : DV} {h : DH} {r : DRes} (k : Runs dT_91 (dEx d) (0, [some v0, some v1, none], [], h) r) : dEx (d + 1) 91 [v0, v1] h r := ⟨dM_91, dms_at_91, Nat.le_of_ble_eq_true rfl, k⟩
theorem dx_92 {d : Nat} {v0 v1 : DV} {h : DH} {r : DRes} (k : Runs dT_92 (dEx d) (0, [some v0, some v1, none, none, none, none, none, none, none, none, none], [], h) r) : dEx (d + 1) 92 [v0, v1] h r := ⟨dM_92, dms_at_92, Nat.le_of_ble_eq_true rfl, k⟩
theorem dx_93 {d : Nat} {v0 v1 : DV} {h : DH} {r : DRes} (k : Runs dT_93 (dEx d) (0, [some v0, some v1, none, none, none, none, none, none, none, none, none], [], h) r) : dEx (d + 1) 93 [v0, v1] h r := ⟨dM_93, dms_at_93, Nat.le_of_ble_eq_true rfl, k⟩
end
section
/-! links: what the constant pools name, with the places of the words among lw_tbl -/
def don : Nat → String
  | 0 => "DiskDrawer$State"
  | 1 => "DiskDrawer$Disk"
  | 2 => "DiskDrawer$Read"
  | 3 => "DiskDrawer"
  | 4 => "DiskDrawer$Past"
  | 5 => "DiskDrawer$Program"
  | _ => "DiskDrawerLaw"
def dfl : List (Nat × Nat × Nat × Nat × Nat) := [(0, 9, 0, 0, 107), (0, 17, 0, 1, 109), (0, 23, 0, 2, 111), (0, 36, 0, 3, 113), (0, 43, 0, 4, 115), (0, 46, 0, 5, 116), (0, 49, 0, 6, 117), (0, 52, 0, 7, 118), (0, 55, 0, 8, 119), (0, 58, 0, 9, 120), (0, 61, 0, 10, 122), (0, 65, 0, 11, 124), (0, 68, 0, 12, 125), (0, 71, 0, 13, 126), (0, 74, 0, 14, 127), (0, 91, 1, 0, 50), (0, 94, 2, 0, 86), (0, 97, 2, 1, 88), (0, 100, 2, 2, 91), (0, 101, 2, 3, 93), (0, 104, 2, 4, 95), (0, 107, 1, 6, 63), (0, 115, 1, 5, 61), (0, 152, 1, 1, 53), (0, 164, 1, 3, 57), (0, 193, 1, 2, 55), (0, 196, 1, 4, 59), (1, 9, 1, 0, 49), (1, 15, 1, 1, 52), (1, 18, 1, 2, 54), (1, 21, 1, 3, 56), (1, 24, 1, 4, 58), (1, 27, 1, 5, 60), (1, 31, 1, 6, 62), (2, 7, 2, 0, 85), (2, 13, 2, 1, 87), (2, 16, 2, 2, 90), (2, 19, 2, 3, 92), (2, 22, 2, 4, 94), (3, 12, 3, 0, 203), (3, 16, 3, 1, 204), (3, 29, 3, 4, 207), (3, 36, 3, 5, 208), (3, 75, 5, 1, 183), (3, 110, 4, 1, 170), (3, 131, 0, 1, 110), (3, 135, 0, 2, 112), (3, 139, 2, 1, 89), (3, 144, 0, 10, 123), (3, 150, 1, 0, 51), (3, 172, 0, 9, 121), (3, 182, 0, 0, 108), (3, 185, 0, 3, 114), (4, 11, 4, 0, 168), (4, 18, 4, 1, 169)]
def dcl : List (Nat × Nat × Nat × Nat × Nat × Nat × Nat × Nat × Nat × Nat) := [(0, 32, 3, 1, 0, 289, 290, 291, 19, 292), (0, 40, 4, 1, 0, 293, 294, 295, 20, 296), (0, 77, 6, 3, 2, 240, 241, 0, 17, 242), (0, 87, 11, 1, 1, 301, 302, 0, 18, 303), (0, 108, 14, 1, 0, 266, 267, 268, 18, 269), (0, 112, 15, 0, 0, 320, 322, 4, 18, 323), (0, 118, 18, 1, 2, 247, 248, 0, 17, 249), (0, 122, 21, 0, 0, 340, 341, 342, 19, 343), (0, 125, 25, 0, 0, 250, 251, 252, 18, 253), (0, 130, 29, 0, 0, 377, 378, 379, 18, 380), (0, 133, 30, 0, 0, 381, 383, 5, 18, 384), (0, 136, 31, 0, 0, 386, 388, 6, 18, 389), (0, 139, 35, 0, 0, 402, 404, 8, 18, 405), (0, 142, 37, 1, 0, 410, 412, 10, 18, 413), (0, 146, 42, 0, 0, 426, 428, 13, 18, 429), (0, 149, 22, 0, 0, 385, 345, 346, 19, 347), (0, 155, 32, 0, 0, 390, 391, 392, 19, 393), (0, 158, 33, 1, 0, 394, 396, 7, 18, 397), (0, 161, 34, 0, 0, 398, 399, 400, 19, 401), (0, 167, 36, 1, 0, 406, 408, 9, 18, 409), (0, 170, 38, 1, 0, 243, 245, 0, 18, 246), (0, 173, 39, 2, 0, 414, 416, 11, 18, 417), (0, 177, 41, 1, 0, 422, 423, 424, 19, 425), (0, 180, 40, 0, 0, 418, 420, 12, 18, 421), (0, 189, 26, 1, 0, 254, 256, 1, 18, 257), (0, 197, 77, 1, 0, 270, 272, 2, 18, 273), (1, 34, 22, 0, 0, 344, 345, 346, 19, 347), (3, 40, 1, 1, 0, 281, 282, 283, 21, 284), (3, 44, 5, 2, 0, 360, 361, 362, 18, 363), (3, 48, 7, 1, 0, 304, 305, 306, 21, 307), (3, 52, 10, 2, 0, 297, 298, 299, 18, 300), (3, 55, 13, 1, 0, 316, 317, 318, 18, 319), (3, 58, 17, 1, 0, 328, 329, 330, 18, 331), (3, 61, 20, 1, 0, 336, 337, 338, 18, 339), (3, 64, 24, 0, 0, 352, 353, 354, 18, 355), (3, 68, 28, 1, 0, 372, 373, 374, 18, 375), (3, 106, 70, 1, 0, 473, 474, 475, 21, 476), (3, 113, 2, 1, 0, 466, 286, 287, 18, 288), (3, 119, 74, 2, 0, 440, 441, 442, 18, 443), (3, 122, 76, 2, 0, 262, 263, 264, 18, 265), (3, 125, 79, 0, 0, 451, 452, 453, 18, 454), (3, 128, 14, 1, 0, 465, 267, 268, 18, 269), (3, 147, 29, 0, 0, 467, 378, 379, 18, 380), (3, 161, 6, 3, 1, 486, 241, 0, 17, 242), (3, 165, 82, 2, 0, 487, 489, 14, 17, 490), (3, 168, 83, 1, 0, 491, 493, 15, 17, 494), (3, 175, 18, 1, 1, 495, 248, 0, 17, 249), (3, 179, 86, 1, 0, 236, 237, 238, 18, 239), (4, 22, 2, 1, 0, 285, 286, 287, 18, 288), (4, 26, 8, 0, 0, 308, 310, 3, 21, 311), (11, 8, 85, 1, 0, 232, 233, 234, 17, 235), (11, 14, 88, 2, 1, 225, 226, 0, 16, 227), (11, 20, 75, 2, 0, 258, 259, 260, 17, 261), (11, 23, 9, 2, 0, 277, 278, 279, 17, 280), (11, 26, 89, 2, 1, 229, 230, 0, 16, 231), (11, 30, 12, 1, 0, 312, 313, 314, 17, 315), (11, 33, 16, 1, 0, 324, 325, 326, 17, 327), (11, 36, 19, 1, 0, 332, 333, 334, 17, 335), (11, 39, 23, 0, 0, 348, 349, 350, 17, 351), (11, 43, 0, 2, 0, 356, 357, 358, 17, 359), (11, 46, 27, 1, 0, 368, 369, 370, 17, 371), (11, 49, 73, 2, 0, 436, 437, 438, 17, 439), (11, 52, 91, 2, 1, 444, 445, 0, 16, 446), (11, 55, 78, 0, 0, 447, 448, 449, 17, 450), (11, 58, 80, 1, 0, 461, 462, 463, 17, 464), (11, 62, 69, 0, 0, 469, 470, 471, 17, 472), (11, 65, 81, 2, 0, 480, 481, 482, 17, 483), (11, 68, 84, 0, 0, 496, 497, 498, 17, 499), (11, 72, 87, 2, 1, 222, 223, 0, 16, 224), (11, 76, 90, 2, 1, 274, 275, 0, 16, 276), (11, 86, 92, 2, 1, 458, 459, 0, 16, 460), (11, 90, 93, 2, 1, 477, 478, 0, 16, 479)]
def dTX0 : u_T := fun k => match k with
  | 0 => ("DiskDrawer$State", "numbers", "[I", true)
  | 1 => ("DiskDrawer$State", "disks", "[LDiskDrawer$Disk;", true)
  | 2 => ("DiskDrawer$State", "reads", "[LDiskDrawer$Read;", true)
  | 3 => ("DiskDrawer$State", "readCount", "I", false)
  | 4 => ("DiskDrawer$State", "readsSoFar", "I", false)
  | 5 => ("DiskDrawer$State", "answered", "I", false)
  | 6 => ("DiskDrawer$State", "lost", "I", false)
  | 7 => ("DiskDrawer$State", "waited", "I", false)
  | 8 => ("DiskDrawer$State", "ticks", "I", false)
  | 9 => ("DiskDrawer$State", "peak", "I", false)
  | 10 => ("DiskDrawer$State", "blown", "Z", false)
  | 11 => ("DiskDrawer$State", "hot", "I", false)
  | 12 => ("DiskDrawer$State", "fusesBlown", "I", false)
  | 13 => ("DiskDrawer$State", "starts", "I", false)
  | _ => ("DiskDrawer$State", "failedStarts", "I", false)
def dTY0 : Nat → FieldType := fun k => match k with
  | 0 => .array .int
  | 1 => .array (.object "DiskDrawer$Disk")
  | 2 => .array (.object "DiskDrawer$Read")
  | 3 => .int
  | 4 => .int
  | 5 => .int
  | 6 => .int
  | 7 => .int
  | 8 => .int
  | 9 => .int
  | 10 => .boolean
  | 11 => .int
  | 12 => .int
  | 13 => .int
  | _ => .int
def dTX1 : u_T := fun k => match k with
  | 0 => ("DiskDrawer$Disk", "doing", "I", false)
  | 1 => ("DiskDrawer$Disk", "startLeft", "I", false)
  | 2 => ("DiskDrawer$Disk", "failures", "I", false)
  | 3 => ("DiskDrawer$Disk", "idle", "I", false)
  | 4 => ("DiskDrawer$Disk", "starts", "I", false)
  | 5 => ("DiskDrawer$Disk", "faultPlanned", "Z", false)
  | _ => ("DiskDrawer$Disk", "readCount", "I", false)
def dTY1 : Nat → FieldType := fun k => match k with
  | 0 => .int
  | 1 => .int
  | 2 => .int
  | 3 => .int
  | 4 => .int
  | 5 => .boolean
  | _ => .int
def dTX2 : u_T := fun k => match k with
  | 0 => ("DiskDrawer$Read", "number", "I", false)
  | 1 => ("DiskDrawer$Read", "disk", "I", false)
  | 2 => ("DiskDrawer$Read", "ticks", "I", false)
  | 3 => ("DiskDrawer$Read", "left", "I", false)
  | _ => ("DiskDrawer$Read", "askedAt", "I", false)
def dTY2 : Nat → FieldType := fun k => match k with
  | 0 => .int
  | 1 => .int
  | 2 => .int
  | 3 => .int
  | _ => .int
def dTX3 : u_T := fun k => match k with
  | 0 => ("DiskDrawer", "now", "LDiskDrawer$State;", true)
  | 1 => ("DiskDrawer", "trial", "LDiskDrawer$State;", true)
  | 2 => ("DiskDrawer", "snapshot", "LDiskDrawer$State;", true)
  | 3 => ("DiskDrawer", "hasSnapshot", "Z", false)
  | 4 => ("DiskDrawer", "past", "LDiskDrawer$Past;", true)
  | _ => ("DiskDrawer", "program", "LDiskDrawer$Program;", true)
def dTY3 : Nat → FieldType := fun k => match k with
  | 0 => .object "DiskDrawer$State"
  | 1 => .object "DiskDrawer$State"
  | 2 => .object "DiskDrawer$State"
  | 3 => .boolean
  | 4 => .object "DiskDrawer$Past"
  | _ => .object "DiskDrawer$Program"
def dTX4 : u_T := fun k => match k with
  | 0 => ("DiskDrawer$Past", "rows", "[LDiskDrawer$State;", true)
  | _ => ("DiskDrawer$Past", "size", "I", false)
def dTY4 : Nat → FieldType := fun k => match k with
  | 0 => .array (.object "DiskDrawer$State")
  | _ => .int
def dTX5 : u_T := fun k => match k with
  | 0 => ("DiskDrawer$Program", "text", "[C", true)
  | 1 => ("DiskDrawer$Program", "length", "I", false)
  | 2 => ("DiskDrawer$Program", "kinds", "[I", true)
  | 3 => ("DiskDrawer$Program", "firsts", "[I", true)
  | 4 => ("DiskDrawer$Program", "seconds", "[I", true)
  | 5 => ("DiskDrawer$Program", "commands", "I", false)
  | _ => ("DiskDrawer$Program", "at", "I", false)
def dTY5 : Nat → FieldType := fun k => match k with
  | 0 => .array .char
  | 1 => .int
  | 2 => .array .int
  | 3 => .array .int
  | 4 => .array .int
  | 5 => .int
  | _ => .int
def dclasses : List vw_C := [("DiskDrawer$State", dTX0, 15), ("DiskDrawer$Disk", dTX1, 7), ("DiskDrawer$Read", dTX2, 5), ("DiskDrawer", dTX3, 6), ("DiskDrawer$Past", dTX4, 2), ("DiskDrawer$Program", dTX5, 7)]
def dnf : Nat → Nat
  | 0 => 15
  | 1 => 7
  | 2 => 5
  | 3 => 6
  | 4 => 2
  | 5 => 7
  | _ => 0
def dTX : Nat → u_T
  | 0 => dTX0
  | 1 => dTX1
  | 2 => dTX2
  | 3 => dTX3
  | 4 => dTX4
  | _ => dTX5
def dTY : Nat → Nat → FieldType
  | 0 => dTY0
  | 1 => dTY1
  | 2 => dTY2
  | 3 => dTY3
  | 4 => dTY4
  | _ => dTY5
def dfld (o x : Nat) : Option (Nat × Nat) := (dfl.find? (fun e => Nat.beq e.1 o && Nat.beq e.2.1 x)).map (fun e => (e.2.2.1, e.2.2.2.1))
def dfz (ci k : Nat) : Bool := (Nat.beq ci 0 && Nat.beq k 10) || (Nat.beq ci 1 && Nat.beq k 5) || (Nat.beq ci 3 && Nat.beq k 3)
def dcal (o x : Nat) : Option (Nat × Nat × Nat) := (dcl.find? (fun e => Nat.beq e.1 o && Nat.beq e.2.1 x)).map (fun e => (e.2.2.1, e.2.2.2.1, e.2.2.2.2.1))
def dgst (o x nx : Nat) : Option DOp := match o, x with
  | 3, 155 => some (8, 32, 1, nx, 0, [])
  | 3, 158 => some (8, 32, 2, nx, 0, [])
  | 0, 81 => some (8, 32, 1, nx, 0, [])
  | 0, 84 => some (8, 32, 2, nx, 0, [])
  | _, _ => none
def dldc (o x nx : Nat) : Option DOp := match o, x with
  | 0, 129 => some (0, 0, 0, nx, 99999, [])
  | 11, 7 => some (0, 0, 0, nx, 2147483647, [])
  | 11, 61 => some (0, 0, 0, nx, 99000, [])
  | _, _ => none
def dcnd : Jvm.ClassFile.Cond → Nat
  | .eq => 0 | .ne => 1 | .lt => 2 | .ge => 3 | .gt => 4 | .le => 5
def dtgt (pc : Nat) (off : Int) : Option Nat := if 0 ≤ (pc : Int) + off then some ((pc : Int) + off).toNat else none
def dtgts (pc : Nat) : List Int → Option (List Nat)
  | [] => some []
  | o :: os => match dtgt pc o, dtgts pc os with
    | some t, some ts => some (t :: ts)
    | _, _ => none
/-- an instruction of a method of class o as one of the abstract machine -/
def denc (o : Nat) (rt : Option FieldType) (pc : Nat) (i : Instr) (len : Nat) : Option DOp := match i, len with
  | .iconst n, 1 => some (0, 0, 0, pc + 1, Int32.ofInt n, [])
  | .bipush n, 2 => some (0, 0, 0, pc + 2, (Int8.ofInt n).toInt32, [])
  | .sipush n, 3 => some (0, 0, 0, pc + 3, (Int16.ofInt n).toInt32, [])
  | .ldc x, 2 => dldc o x (pc + 2)
  | .iload_n k, 1 => some (1, k.val, 0, pc + 1, 0, [])
  | .iload k, 2 => some (1, k, 0, pc + 2, 0, [])
  | .aload_n k, 1 => some (2, k.val, 0, pc + 1, 0, [])
  | .aload k, 2 => some (2, k, 0, pc + 2, 0, [])
  | .istore_n k, 1 => some (3, k.val, 0, pc + 1, 0, [])
  | .istore k, 2 => some (3, k, 0, pc + 2, 0, [])
  | .astore_n k, 1 => some (4, k.val, 0, pc + 1, 0, [])
  | .astore k, 2 => some (4, k, 0, pc + 2, 0, [])
  | .getfield x, 3 => match dfld o x with
    | some (ci, k) => some (5, ci, k, pc + 3, 0, [])
    | none => none
  | .putfield x, 3 => match dfld o x with
    | some (ci, k) => bif dfz ci k then some (7, ci, k, pc + 3, 0, []) else some (6, ci, k, pc + 3, 0, [])
    | none => none
  | .getstatic x, 3 => dgst o x (pc + 3)
  | .iaload, 1 => some (10, 0, 0, pc + 1, 0, [])
  | .iastore, 1 => some (11, 0, 0, pc + 1, 0, [])
  | .aaload, 1 => some (12, 0, 0, pc + 1, 0, [])
  | .aastore, 1 => some (13, 0, 0, pc + 1, 0, [])
  | .arraylength, 1 => some (18, 0, 0, pc + 1, 0, [])
  | .iadd, 1 => some (19, 0, 0, pc + 1, 0, [])
  | .isub, 1 => some (20, 0, 0, pc + 1, 0, [])
  | .imul, 1 => some (21, 0, 0, pc + 1, 0, [])
  | .iand, 1 => some (22, 0, 0, pc + 1, 0, [])
  | .ior, 1 => some (23, 0, 0, pc + 1, 0, [])
  | .ishl, 1 => some (24, 0, 0, pc + 1, 0, [])
  | .ishr, 1 => some (41, 0, 0, pc + 1, 0, [])
  | .irem, 1 => some (46, 0, 0, pc + 1, 0, [])
  | .iinc k n, 3 => some (25, k, 0, pc + 3, Int32.ofInt n, [])
  | .ifCond c off, 3 => match dtgt pc off with
    | some t => some (26, t, dcnd c, pc + 3, 0, [])
    | none => none
  | .if_icmp c off, 3 => match dtgt pc off with
    | some t => some (27, t, dcnd c, pc + 3, 0, [])
    | none => none
  | .goto off, 3 => match dtgt pc off with
    | some t => some (28, t, 0, pc + 3, 0, [])
    | none => none
  | .tableswitch d lo hi offs, n => match dtgt pc d, dtgts pc offs.toList with
    | some t, some ts => bif decide (0 ≤ lo) && decide (hi < 1000) && decide ((ts.length : Int) = hi - lo + 1) && decide (offs.size = ts.length) then some (29, t, 0, pc + n, Int32.ofInt lo, ts) else none
    | _, _ => none
  | .dup, 1 => some (30, 0, 0, pc + 1, 0, [])
  | .dup2, 1 => some (31, 0, 0, pc + 1, 0, [])
  | .invokevirtual x, 3 => match dcal o x with
    | some (mid, n, 0) => match dms[mid]? with
      | some q => some (34, mid, n, pc + 3, 0, [q.2.2.2.2.1])
      | none => none
    | _ => none
  | .invokestatic x, 3 => bif Nat.beq o 0 && Nat.beq x 183 then some (45, 0, 0, pc + 3, 0, []) else match dcal o x with
    | some (_, _, 0) => none
    | some (mid, n, _) => some (35, mid, n, pc + 3, 0, [])
    | none => none
  | .ireturn, 1 => match rt with
    | some .int => some (36, 0, 0, pc + 1, 0, [])
    | some .boolean => some (42, 0, 0, pc + 1, 0, [])
    | _ => none
  | .return_, 1 => some (37, 0, 0, pc + 1, 0, [])
  | _, _ => none
def deq (a b : DOp) : Bool := decide (a.1 = b.1) && decide (a.2.1 = b.2.1) && decide (a.2.2.1 = b.2.2.1) && decide (a.2.2.2.1 = b.2.2.2.1) && decide (a.2.2.2.2.1 = b.2.2.2.2.1) && decide (a.2.2.2.2.2 = b.2.2.2.2.2)
theorem deq_eq {a b : DOp} (h : deq a b = true) : a = b := by
  obtain ⟨a1, a2, a3, a4, a5, a6⟩ := a
  obtain ⟨b1, b2, b3, b4, b5, b6⟩ := b
  simp only [deq, Bool.and_eq_true, decide_eq_true_eq] at h
  obtain ⟨⟨⟨⟨⟨h1, h2⟩, h3⟩, h4⟩, h5⟩, h6⟩ := h
  rw [h1, h2, h3, h4, h5, h6]
def dchk (o : Nat) (rt : Option FieldType) (c : ByteArray) (T : DTbl) : Bool := (List.range T.length).all fun pc => match T.getD pc none with
  | none => true
  | some q => match decode c pc with
    | .ok (i, len) => match denc o rt pc i len with
      | some q' => deq q' q
      | none => false
    | .error _ => false
def dchk2 (T : DTbl) (n : Nat) : Bool := T.all fun o => match o with
  | some (3, a, _) => decide (a < n)
  | some (4, a, _) => decide (a < n)
  | some (25, a, _) => decide (a < n)
  | _ => true
def dGood (q : DM) : Prop := plainName q.1.cls = true ∧ (q.2.2.1 ≤ 21 ∧ dchk2 q.2.2.2.2.2 q.2.2.1 = true) ∧ q.1.cls = don q.2.2.2.2.1 ∧ dchk q.2.2.2.2.1 q.2.2.2.1 q.2.1 q.2.2.2.2.2 = true
def dWd : List Cond := lw_tbl.filter goodWord
theorem dWd_of {i : Nat} {w : Cond} (h : lw_tbl[i]? = some w) (g : goodWord w = true) : w ∈ dWd := List.mem_filter.mpr ⟨List.mem_of_getElem? h, g⟩
theorem dWd_good : GoodIn lw_tbl dWd := fun w h => ⟨(List.mem_filter.mp h).1, good_of_word (List.mem_filter.mp h).2⟩
theorem dWd_cons (c : Cond) : GoodIn (c :: dWd) dWd := fun w h => ⟨List.mem_cons_of_mem _ h, good_of_word (List.mem_filter.mp h).2⟩
def dflOK (e : Nat × Nat × Nat × Nat × Nat) : Bool := decide (lw_tbl[e.2.2.2.2]? = some (.fieldLink (don e.1) e.2.1 (dTX e.2.2.1 e.2.2.2.1).1 (dTX e.2.2.1 e.2.2.2.1).2.1 (dTX e.2.2.1 e.2.2.2.1).2.2.1)) && decide (e.2.2.2.1 < dnf e.2.2.1) && decide (e.2.2.1 < 6)
def dclOK (e : Nat × Nat × Nat × Nat × Nat × Nat × Nat × Nat × Nat × Nat) : Bool := match dms[e.2.2.1]? with
  | none => false
  | some q => match e with
    | (o, x, _, n, kd, p0, p1, p2, p3, p4) =>
      decide (q.1.cls ≠ "java/lang/invoke/MethodHandle" ∧ q.1.cls ≠ "java/lang/invoke/VarHandle" ∧ (parseMethodDescriptor q.1.desc).map (fun d => d.parameters.length) = some n) && decide (lw_tbl[p3]? = some (.initialized q.1.cls)) && decide (lw_tbl[p4]? = some (.code q.1 q.2.1 q.2.2.1 q.2.2.2.1)) &&
      (match kd with
      | 0 => decide (lw_tbl[p0]? = some (.methodLink (don o) x q.1)) && decide (lw_tbl[p1]? = some (.instanceMethod q.1)) && decide (lw_tbl[p2]? = some (.selects q.1.cls q.1 q.1))
      | 1 => decide (lw_tbl[p0]? = some (.methodLink (don o) x q.1)) && decide (lw_tbl[p1]? = some (.static q.1))
      | _ => decide (lw_tbl[p0]? = some (.methodLinkNest (don o) x q.1 "DiskDrawer")) && decide (lw_tbl[p1]? = some (.static q.1)))
set_option maxRecDepth 100000 in
theorem dfl_ok : dfl.all dflOK = true := by decide +kernel
end
section
set_option maxRecDepth 100000 in
theorem dce_0 : dclOK (0, 32, 3, 1, 0, 289, 290, 291, 19, 292) = true := by decide +kernel
set_option maxRecDepth 100000 in
theorem dce_1 : dclOK (0, 40, 4, 1, 0, 293, 294, 295, 20, 296) = true := by decide +kernel
set_option maxRecDepth 100000 in
theorem dce_2 : dclOK (0, 77, 6, 3, 2, 240, 241, 0, 17, 242) = true := by decide +kernel
set_option maxRecDepth 100000 in
theorem dce_3 : dclOK (0, 87, 11, 1, 1, 301, 302, 0, 18, 303) = true := by decide +kernel
set_option maxRecDepth 100000 in
theorem dce_4 : dclOK (0, 108, 14, 1, 0, 266, 267, 268, 18, 269) = true := by decide +kernel
set_option maxRecDepth 100000 in
theorem dce_5 : dclOK (0, 112, 15, 0, 0, 320, 322, 4, 18, 323) = true := by decide +kernel
set_option maxRecDepth 100000 in
theorem dce_6 : dclOK (0, 118, 18, 1, 2, 247, 248, 0, 17, 249) = true := by decide +kernel
set_option maxRecDepth 100000 in
theorem dce_7 : dclOK (0, 122, 21, 0, 0, 340, 341, 342, 19, 343) = true := by decide +kernel
set_option maxRecDepth 100000 in
theorem dce_8 : dclOK (0, 125, 25, 0, 0, 250, 251, 252, 18, 253) = true := by decide +kernel
set_option maxRecDepth 100000 in
theorem dce_9 : dclOK (0, 130, 29, 0, 0, 377, 378, 379, 18, 380) = true := by decide +kernel
set_option maxRecDepth 100000 in
theorem dce_10 : dclOK (0, 133, 30, 0, 0, 381, 383, 5, 18, 384) = true := by decide +kernel
set_option maxRecDepth 100000 in
theorem dce_11 : dclOK (0, 136, 31, 0, 0, 386, 388, 6, 18, 389) = true := by decide +kernel
set_option maxRecDepth 100000 in
theorem dce_12 : dclOK (0, 139, 35, 0, 0, 402, 404, 8, 18, 405) = true := by decide +kernel
set_option maxRecDepth 100000 in
theorem dce_13 : dclOK (0, 142, 37, 1, 0, 410, 412, 10, 18, 413) = true := by decide +kernel
set_option maxRecDepth 100000 in
theorem dce_14 : dclOK (0, 146, 42, 0, 0, 426, 428, 13, 18, 429) = true := by decide +kernel
set_option maxRecDepth 100000 in
theorem dce_15 : dclOK (0, 149, 22, 0, 0, 385, 345, 346, 19, 347) = true := by decide +kernel
set_option maxRecDepth 100000 in
theorem dce_16 : dclOK (0, 155, 32, 0, 0, 390, 391, 392, 19, 393) = true := by decide +kernel
set_option maxRecDepth 100000 in
theorem dce_17 : dclOK (0, 158, 33, 1, 0, 394, 396, 7, 18, 397) = true := by decide +kernel
set_option maxRecDepth 100000 in
theorem dce_18 : dclOK (0, 161, 34, 0, 0, 398, 399, 400, 19, 401) = true := by decide +kernel
set_option maxRecDepth 100000 in
theorem dce_19 : dclOK (0, 167, 36, 1, 0, 406, 408, 9, 18, 409) = true := by decide +kernel
set_option maxRecDepth 100000 in
theorem dce_20 : dclOK (0, 170, 38, 1, 0, 243, 245, 0, 18, 246) = true := by decide +kernel
set_option maxRecDepth 100000 in
theorem dce_21 : dclOK (0, 173, 39, 2, 0, 414, 416, 11, 18, 417) = true := by decide +kernel
set_option maxRecDepth 100000 in
theorem dce_22 : dclOK (0, 177, 41, 1, 0, 422, 423, 424, 19, 425) = true := by decide +kernel
set_option maxRecDepth 100000 in
theorem dce_23 : dclOK (0, 180, 40, 0, 0, 418, 420, 12, 18, 421) = true := by decide +kernel
set_option maxRecDepth 100000 in
theorem dce_24 : dclOK (0, 189, 26, 1, 0, 254, 256, 1, 18, 257) = true := by decide +kernel
set_option maxRecDepth 100000 in
theorem dce_25 : dclOK (0, 197, 77, 1, 0, 270, 272, 2, 18, 273) = true := by decide +kernel
set_option maxRecDepth 100000 in
theorem dce_26 : dclOK (1, 34, 22, 0, 0, 344, 345, 346, 19, 347) = true := by decide +kernel
set_option maxRecDepth 100000 in
theorem dce_27 : dclOK (3, 40, 1, 1, 0, 281, 282, 283, 21, 284) = true := by decide +kernel
set_option maxRecDepth 100000 in
theorem dce_28 : dclOK (3, 44, 5, 2, 0, 360, 361, 362, 18, 363) = true := by decide +kernel
set_option maxRecDepth 100000 in
theorem dce_29 : dclOK (3, 48, 7, 1, 0, 304, 305, 306, 21, 307) = true := by decide +kernel
set_option maxRecDepth 100000 in
theorem dce_30 : dclOK (3, 52, 10, 2, 0, 297, 298, 299, 18, 300) = true := by decide +kernel
set_option maxRecDepth 100000 in
theorem dce_31 : dclOK (3, 55, 13, 1, 0, 316, 317, 318, 18, 319) = true := by decide +kernel
set_option maxRecDepth 100000 in
theorem dce_32 : dclOK (3, 58, 17, 1, 0, 328, 329, 330, 18, 331) = true := by decide +kernel
set_option maxRecDepth 100000 in
theorem dce_33 : dclOK (3, 61, 20, 1, 0, 336, 337, 338, 18, 339) = true := by decide +kernel
set_option maxRecDepth 100000 in
theorem dce_34 : dclOK (3, 64, 24, 0, 0, 352, 353, 354, 18, 355) = true := by decide +kernel
set_option maxRecDepth 100000 in
theorem dce_35 : dclOK (3, 68, 28, 1, 0, 372, 373, 374, 18, 375) = true := by decide +kernel
set_option maxRecDepth 100000 in
theorem dce_36 : dclOK (3, 106, 70, 1, 0, 473, 474, 475, 21, 476) = true := by decide +kernel
set_option maxRecDepth 100000 in
theorem dce_37 : dclOK (3, 113, 2, 1, 0, 466, 286, 287, 18, 288) = true := by decide +kernel
set_option maxRecDepth 100000 in
theorem dce_38 : dclOK (3, 119, 74, 2, 0, 440, 441, 442, 18, 443) = true := by decide +kernel
set_option maxRecDepth 100000 in
theorem dce_39 : dclOK (3, 122, 76, 2, 0, 262, 263, 264, 18, 265) = true := by decide +kernel
set_option maxRecDepth 100000 in
theorem dce_40 : dclOK (3, 125, 79, 0, 0, 451, 452, 453, 18, 454) = true := by decide +kernel
set_option maxRecDepth 100000 in
theorem dce_41 : dclOK (3, 128, 14, 1, 0, 465, 267, 268, 18, 269) = true := by decide +kernel
set_option maxRecDepth 100000 in
theorem dce_42 : dclOK (3, 147, 29, 0, 0, 467, 378, 379, 18, 380) = true := by decide +kernel
set_option maxRecDepth 100000 in
theorem dce_43 : dclOK (3, 161, 6, 3, 1, 486, 241, 0, 17, 242) = true := by decide +kernel
set_option maxRecDepth 100000 in
theorem dce_44 : dclOK (3, 165, 82, 2, 0, 487, 489, 14, 17, 490) = true := by decide +kernel
set_option maxRecDepth 100000 in
theorem dce_45 : dclOK (3, 168, 83, 1, 0, 491, 493, 15, 17, 494) = true := by decide +kernel
set_option maxRecDepth 100000 in
theorem dce_46 : dclOK (3, 175, 18, 1, 1, 495, 248, 0, 17, 249) = true := by decide +kernel
set_option maxRecDepth 100000 in
theorem dce_47 : dclOK (3, 179, 86, 1, 0, 236, 237, 238, 18, 239) = true := by decide +kernel
set_option maxRecDepth 100000 in
theorem dce_48 : dclOK (4, 22, 2, 1, 0, 285, 286, 287, 18, 288) = true := by decide +kernel
set_option maxRecDepth 100000 in
theorem dce_49 : dclOK (4, 26, 8, 0, 0, 308, 310, 3, 21, 311) = true := by decide +kernel
set_option maxRecDepth 100000 in
theorem dce_50 : dclOK (11, 8, 85, 1, 0, 232, 233, 234, 17, 235) = true := by decide +kernel
set_option maxRecDepth 100000 in
theorem dce_51 : dclOK (11, 14, 88, 2, 1, 225, 226, 0, 16, 227) = true := by decide +kernel
set_option maxRecDepth 100000 in
theorem dce_52 : dclOK (11, 20, 75, 2, 0, 258, 259, 260, 17, 261) = true := by decide +kernel
set_option maxRecDepth 100000 in
theorem dce_53 : dclOK (11, 23, 9, 2, 0, 277, 278, 279, 17, 280) = true := by decide +kernel
set_option maxRecDepth 100000 in
theorem dce_54 : dclOK (11, 26, 89, 2, 1, 229, 230, 0, 16, 231) = true := by decide +kernel
set_option maxRecDepth 100000 in
theorem dce_55 : dclOK (11, 30, 12, 1, 0, 312, 313, 314, 17, 315) = true := by decide +kernel
set_option maxRecDepth 100000 in
theorem dce_56 : dclOK (11, 33, 16, 1, 0, 324, 325, 326, 17, 327) = true := by decide +kernel
set_option maxRecDepth 100000 in
theorem dce_57 : dclOK (11, 36, 19, 1, 0, 332, 333, 334, 17, 335) = true := by decide +kernel
set_option maxRecDepth 100000 in
theorem dce_58 : dclOK (11, 39, 23, 0, 0, 348, 349, 350, 17, 351) = true := by decide +kernel
set_option maxRecDepth 100000 in
theorem dce_59 : dclOK (11, 43, 0, 2, 0, 356, 357, 358, 17, 359) = true := by decide +kernel
set_option maxRecDepth 100000 in
theorem dce_60 : dclOK (11, 46, 27, 1, 0, 368, 369, 370, 17, 371) = true := by decide +kernel
set_option maxRecDepth 100000 in
theorem dce_61 : dclOK (11, 49, 73, 2, 0, 436, 437, 438, 17, 439) = true := by decide +kernel
set_option maxRecDepth 100000 in
theorem dce_62 : dclOK (11, 52, 91, 2, 1, 444, 445, 0, 16, 446) = true := by decide +kernel
set_option maxRecDepth 100000 in
theorem dce_63 : dclOK (11, 55, 78, 0, 0, 447, 448, 449, 17, 450) = true := by decide +kernel
set_option maxRecDepth 100000 in
theorem dce_64 : dclOK (11, 58, 80, 1, 0, 461, 462, 463, 17, 464) = true := by decide +kernel
set_option maxRecDepth 100000 in
theorem dce_65 : dclOK (11, 62, 69, 0, 0, 469, 470, 471, 17, 472) = true := by decide +kernel
set_option maxRecDepth 100000 in
theorem dce_66 : dclOK (11, 65, 81, 2, 0, 480, 481, 482, 17, 483) = true := by decide +kernel
set_option maxRecDepth 100000 in
theorem dce_67 : dclOK (11, 68, 84, 0, 0, 496, 497, 498, 17, 499) = true := by decide +kernel
set_option maxRecDepth 100000 in
theorem dce_68 : dclOK (11, 72, 87, 2, 1, 222, 223, 0, 16, 224) = true := by decide +kernel
set_option maxRecDepth 100000 in
theorem dce_69 : dclOK (11, 76, 90, 2, 1, 274, 275, 0, 16, 276) = true := by decide +kernel
set_option maxRecDepth 100000 in
theorem dce_70 : dclOK (11, 86, 92, 2, 1, 458, 459, 0, 16, 460) = true := by decide +kernel
set_option maxRecDepth 100000 in
theorem dce_71 : dclOK (11, 90, 93, 2, 1, 477, 478, 0, 16, 479) = true := by decide +kernel
set_option maxRecDepth 100000 in
theorem dcl_ok : ∀ e ∈ dcl, dclOK e = true := List.forall_mem_cons.mpr ⟨dce_0, List.forall_mem_cons.mpr ⟨dce_1, List.forall_mem_cons.mpr ⟨dce_2, List.forall_mem_cons.mpr ⟨dce_3, List.forall_mem_cons.mpr ⟨dce_4, List.forall_mem_cons.mpr ⟨dce_5, List.forall_mem_cons.mpr ⟨dce_6, List.forall_mem_cons.mpr ⟨dce_7, List.forall_mem_cons.mpr ⟨dce_8, List.forall_mem_cons.mpr ⟨dce_9, List.forall_mem_cons.mpr ⟨dce_10, List.forall_mem_cons.mpr ⟨dce_11, List.forall_mem_cons.mpr ⟨dce_12, List.forall_mem_cons.mpr ⟨dce_13, List.forall_mem_cons.mpr ⟨dce_14, List.forall_mem_cons.mpr ⟨dce_15, List.forall_mem_cons.mpr ⟨dce_16, List.forall_mem_cons.mpr ⟨dce_17, List.forall_mem_cons.mpr ⟨dce_18, List.forall_mem_cons.mpr ⟨dce_19, List.forall_mem_cons.mpr ⟨dce_20, List.forall_mem_cons.mpr ⟨dce_21, List.forall_mem_cons.mpr ⟨dce_22, List.forall_mem_cons.mpr ⟨dce_23, List.forall_mem_cons.mpr ⟨dce_24, List.forall_mem_cons.mpr ⟨dce_25, List.forall_mem_cons.mpr ⟨dce_26, List.forall_mem_cons.mpr ⟨dce_27, List.forall_mem_cons.mpr ⟨dce_28, List.forall_mem_cons.mpr ⟨dce_29, List.forall_mem_cons.mpr ⟨dce_30, List.forall_mem_cons.mpr ⟨dce_31, List.forall_mem_cons.mpr ⟨dce_32, List.forall_mem_cons.mpr ⟨dce_33, List.forall_mem_cons.mpr ⟨dce_34, List.forall_mem_cons.mpr ⟨dce_35, List.forall_mem_cons.mpr ⟨dce_36, List.forall_mem_cons.mpr ⟨dce_37, List.forall_mem_cons.mpr ⟨dce_38, List.forall_mem_cons.mpr ⟨dce_39, List.forall_mem_cons.mpr ⟨dce_40, List.forall_mem_cons.mpr ⟨dce_41, List.forall_mem_cons.mpr ⟨dce_42, List.forall_mem_cons.mpr ⟨dce_43, List.forall_mem_cons.mpr ⟨dce_44, List.forall_mem_cons.mpr ⟨dce_45, List.forall_mem_cons.mpr ⟨dce_46, List.forall_mem_cons.mpr ⟨dce_47, List.forall_mem_cons.mpr ⟨dce_48, List.forall_mem_cons.mpr ⟨dce_49, List.forall_mem_cons.mpr ⟨dce_50, List.forall_mem_cons.mpr ⟨dce_51, List.forall_mem_cons.mpr ⟨dce_52, List.forall_mem_cons.mpr ⟨dce_53, List.forall_mem_cons.mpr ⟨dce_54, List.forall_mem_cons.mpr ⟨dce_55, List.forall_mem_cons.mpr ⟨dce_56, List.forall_mem_cons.mpr ⟨dce_57, List.forall_mem_cons.mpr ⟨dce_58, List.forall_mem_cons.mpr ⟨dce_59, List.forall_mem_cons.mpr ⟨dce_60, List.forall_mem_cons.mpr ⟨dce_61, List.forall_mem_cons.mpr ⟨dce_62, List.forall_mem_cons.mpr ⟨dce_63, List.forall_mem_cons.mpr ⟨dce_64, List.forall_mem_cons.mpr ⟨dce_65, List.forall_mem_cons.mpr ⟨dce_66, List.forall_mem_cons.mpr ⟨dce_67, List.forall_mem_cons.mpr ⟨dce_68, List.forall_mem_cons.mpr ⟨dce_69, List.forall_mem_cons.mpr ⟨dce_70, List.forall_mem_cons.mpr ⟨dce_71, fun _ h => absurd h List.not_mem_nil⟩⟩⟩⟩⟩⟩⟩⟩⟩⟩⟩⟩⟩⟩⟩⟩⟩⟩⟩⟩⟩⟩⟩⟩⟩⟩⟩⟩⟩⟩⟩⟩⟩⟩⟩⟩⟩⟩⟩⟩⟩⟩⟩⟩⟩⟩⟩⟩⟩⟩⟩⟩⟩⟩⟩⟩⟩⟩⟩⟩⟩⟩⟩⟩⟩⟩⟩⟩⟩⟩⟩⟩
set_option maxRecDepth 100000 in
theorem dg_0 : dGood dM_0 := ⟨by decide +kernel, ⟨by decide +kernel, by decide +kernel⟩, by decide +kernel, by decide +kernel⟩
set_option maxRecDepth 100000 in
theorem dg_1 : dGood dM_1 := ⟨by decide +kernel, ⟨by decide +kernel, by decide +kernel⟩, by decide +kernel, by decide +kernel⟩
set_option maxRecDepth 100000 in
theorem dg_2 : dGood dM_2 := ⟨by decide +kernel, ⟨by decide +kernel, by decide +kernel⟩, by decide +kernel, by decide +kernel⟩
set_option maxRecDepth 100000 in
theorem dg_3 : dGood dM_3 := ⟨by decide +kernel, ⟨by decide +kernel, by decide +kernel⟩, by decide +kernel, by decide +kernel⟩
set_option maxRecDepth 100000 in
theorem dg_4 : dGood dM_4 := ⟨by decide +kernel, ⟨by decide +kernel, by decide +kernel⟩, by decide +kernel, by decide +kernel⟩
set_option maxRecDepth 100000 in
theorem dg_5 : dGood dM_5 := ⟨by decide +kernel, ⟨by decide +kernel, by decide +kernel⟩, by decide +kernel, by decide +kernel⟩
set_option maxRecDepth 100000 in
theorem dg_6 : dGood dM_6 := ⟨by decide +kernel, ⟨by decide +kernel, by decide +kernel⟩, by decide +kernel, by decide +kernel⟩
set_option maxRecDepth 100000 in
theorem dg_7 : dGood dM_7 := ⟨by decide +kernel, ⟨by decide +kernel, by decide +kernel⟩, by decide +kernel, by decide +kernel⟩
set_option maxRecDepth 100000 in
theorem dg_8 : dGood dM_8 := ⟨by decide +kernel, ⟨by decide +kernel, by decide +kernel⟩, by decide +kernel, by decide +kernel⟩
set_option maxRecDepth 100000 in
theorem dg_9 : dGood dM_9 := ⟨by decide +kernel, ⟨by decide +kernel, by decide +kernel⟩, by decide +kernel, by decide +kernel⟩
set_option maxRecDepth 100000 in
theorem dg_10 : dGood dM_10 := ⟨by decide +kernel, ⟨by decide +kernel, by decide +kernel⟩, by decide +kernel, by decide +kernel⟩
set_option maxRecDepth 100000 in
theorem dg_11 : dGood dM_11 := ⟨by decide +kernel, ⟨by decide +kernel, by decide +kernel⟩, by decide +kernel, by decide +kernel⟩
set_option maxRecDepth 100000 in
theorem dg_12 : dGood dM_12 := ⟨by decide +kernel, ⟨by decide +kernel, by decide +kernel⟩, by decide +kernel, by decide +kernel⟩
set_option maxRecDepth 100000 in
theorem dg_13 : dGood dM_13 := ⟨by decide +kernel, ⟨by decide +kernel, by decide +kernel⟩, by decide +kernel, by decide +kernel⟩
set_option maxRecDepth 100000 in
theorem dg_14 : dGood dM_14 := ⟨by decide +kernel, ⟨by decide +kernel, by decide +kernel⟩, by decide +kernel, by decide +kernel⟩
set_option maxRecDepth 100000 in
theorem dg_15 : dGood dM_15 := ⟨by decide +kernel, ⟨by decide +kernel, by decide +kernel⟩, by decide +kernel, by decide +kernel⟩
set_option maxRecDepth 100000 in
theorem dg_16 : dGood dM_16 := ⟨by decide +kernel, ⟨by decide +kernel, by decide +kernel⟩, by decide +kernel, by decide +kernel⟩
set_option maxRecDepth 100000 in
theorem dg_17 : dGood dM_17 := ⟨by decide +kernel, ⟨by decide +kernel, by decide +kernel⟩, by decide +kernel, by decide +kernel⟩
set_option maxRecDepth 100000 in
theorem dg_18 : dGood dM_18 := ⟨by decide +kernel, ⟨by decide +kernel, by decide +kernel⟩, by decide +kernel, by decide +kernel⟩
set_option maxRecDepth 100000 in
theorem dg_19 : dGood dM_19 := ⟨by decide +kernel, ⟨by decide +kernel, by decide +kernel⟩, by decide +kernel, by decide +kernel⟩
set_option maxRecDepth 100000 in
theorem dg_20 : dGood dM_20 := ⟨by decide +kernel, ⟨by decide +kernel, by decide +kernel⟩, by decide +kernel, by decide +kernel⟩
set_option maxRecDepth 100000 in
theorem dg_21 : dGood dM_21 := ⟨by decide +kernel, ⟨by decide +kernel, by decide +kernel⟩, by decide +kernel, by decide +kernel⟩
set_option maxRecDepth 100000 in
theorem dg_22 : dGood dM_22 := ⟨by decide +kernel, ⟨by decide +kernel, by decide +kernel⟩, by decide +kernel, by decide +kernel⟩
set_option maxRecDepth 100000 in
theorem dg_23 : dGood dM_23 := ⟨by decide +kernel, ⟨by decide +kernel, by decide +kernel⟩, by decide +kernel, by decide +kernel⟩
set_option maxRecDepth 100000 in
theorem dg_24 : dGood dM_24 := ⟨by decide +kernel, ⟨by decide +kernel, by decide +kernel⟩, by decide +kernel, by decide +kernel⟩
set_option maxRecDepth 100000 in
theorem dg_25 : dGood dM_25 := ⟨by decide +kernel, ⟨by decide +kernel, by decide +kernel⟩, by decide +kernel, by decide +kernel⟩
set_option maxRecDepth 100000 in
theorem dg_26 : dGood dM_26 := ⟨by decide +kernel, ⟨by decide +kernel, by decide +kernel⟩, by decide +kernel, by decide +kernel⟩
set_option maxRecDepth 100000 in
theorem dg_27 : dGood dM_27 := ⟨by decide +kernel, ⟨by decide +kernel, by decide +kernel⟩, by decide +kernel, by decide +kernel⟩
set_option maxRecDepth 100000 in
theorem dg_28 : dGood dM_28 := ⟨by decide +kernel, ⟨by decide +kernel, by decide +kernel⟩, by decide +kernel, by decide +kernel⟩
set_option maxRecDepth 100000 in
theorem dg_29 : dGood dM_29 := ⟨by decide +kernel, ⟨by decide +kernel, by decide +kernel⟩, by decide +kernel, by decide +kernel⟩
set_option maxRecDepth 100000 in
theorem dg_30 : dGood dM_30 := ⟨by decide +kernel, ⟨by decide +kernel, by decide +kernel⟩, by decide +kernel, by decide +kernel⟩
set_option maxRecDepth 100000 in
theorem dg_31 : dGood dM_31 := ⟨by decide +kernel, ⟨by decide +kernel, by decide +kernel⟩, by decide +kernel, by decide +kernel⟩
set_option maxRecDepth 100000 in
theorem dg_32 : dGood dM_32 := ⟨by decide +kernel, ⟨by decide +kernel, by decide +kernel⟩, by decide +kernel, by decide +kernel⟩
set_option maxRecDepth 100000 in
theorem dg_33 : dGood dM_33 := ⟨by decide +kernel, ⟨by decide +kernel, by decide +kernel⟩, by decide +kernel, by decide +kernel⟩
set_option maxRecDepth 100000 in
theorem dg_34 : dGood dM_34 := ⟨by decide +kernel, ⟨by decide +kernel, by decide +kernel⟩, by decide +kernel, by decide +kernel⟩
set_option maxRecDepth 100000 in
theorem dg_35 : dGood dM_35 := ⟨by decide +kernel, ⟨by decide +kernel, by decide +kernel⟩, by decide +kernel, by decide +kernel⟩
set_option maxRecDepth 100000 in
theorem dg_36 : dGood dM_36 := ⟨by decide +kernel, ⟨by decide +kernel, by decide +kernel⟩, by decide +kernel, by decide +kernel⟩
set_option maxRecDepth 100000 in
theorem dg_37 : dGood dM_37 := ⟨by decide +kernel, ⟨by decide +kernel, by decide +kernel⟩, by decide +kernel, by decide +kernel⟩
set_option maxRecDepth 100000 in
theorem dg_38 : dGood dM_38 := ⟨by decide +kernel, ⟨by decide +kernel, by decide +kernel⟩, by decide +kernel, by decide +kernel⟩
set_option maxRecDepth 100000 in
theorem dg_39 : dGood dM_39 := ⟨by decide +kernel, ⟨by decide +kernel, by decide +kernel⟩, by decide +kernel, by decide +kernel⟩
set_option maxRecDepth 100000 in
theorem dg_40 : dGood dM_40 := ⟨by decide +kernel, ⟨by decide +kernel, by decide +kernel⟩, by decide +kernel, by decide +kernel⟩
set_option maxRecDepth 100000 in
theorem dg_41 : dGood dM_41 := ⟨by decide +kernel, ⟨by decide +kernel, by decide +kernel⟩, by decide +kernel, by decide +kernel⟩
set_option maxRecDepth 100000 in
theorem dg_42 : dGood dM_42 := ⟨by decide +kernel, ⟨by decide +kernel, by decide +kernel⟩, by decide +kernel, by decide +kernel⟩
set_option maxRecDepth 100000 in
theorem dg_69 : dGood dM_69 := ⟨by decide +kernel, ⟨by decide +kernel, by decide +kernel⟩, by decide +kernel, by decide +kernel⟩
set_option maxRecDepth 100000 in
theorem dg_70 : dGood dM_70 := ⟨by decide +kernel, ⟨by decide +kernel, by decide +kernel⟩, by decide +kernel, by decide +kernel⟩
set_option maxRecDepth 100000 in
theorem dg_73 : dGood dM_73 := ⟨by decide +kernel, ⟨by decide +kernel, by decide +kernel⟩, by decide +kernel, by decide +kernel⟩
set_option maxRecDepth 100000 in
theorem dg_74 : dGood dM_74 := ⟨by decide +kernel, ⟨by decide +kernel, by decide +kernel⟩, by decide +kernel, by decide +kernel⟩
set_option maxRecDepth 100000 in
theorem dg_75 : dGood dM_75 := ⟨by decide +kernel, ⟨by decide +kernel, by decide +kernel⟩, by decide +kernel, by decide +kernel⟩
set_option maxRecDepth 100000 in
theorem dg_76 : dGood dM_76 := ⟨by decide +kernel, ⟨by decide +kernel, by decide +kernel⟩, by decide +kernel, by decide +kernel⟩
set_option maxRecDepth 100000 in
theorem dg_77 : dGood dM_77 := ⟨by decide +kernel, ⟨by decide +kernel, by decide +kernel⟩, by decide +kernel, by decide +kernel⟩
set_option maxRecDepth 100000 in
theorem dg_78 : dGood dM_78 := ⟨by decide +kernel, ⟨by decide +kernel, by decide +kernel⟩, by decide +kernel, by decide +kernel⟩
set_option maxRecDepth 100000 in
theorem dg_79 : dGood dM_79 := ⟨by decide +kernel, ⟨by decide +kernel, by decide +kernel⟩, by decide +kernel, by decide +kernel⟩
set_option maxRecDepth 100000 in
theorem dg_80 : dGood dM_80 := ⟨by decide +kernel, ⟨by decide +kernel, by decide +kernel⟩, by decide +kernel, by decide +kernel⟩
set_option maxRecDepth 100000 in
theorem dg_81 : dGood dM_81 := ⟨by decide +kernel, ⟨by decide +kernel, by decide +kernel⟩, by decide +kernel, by decide +kernel⟩
set_option maxRecDepth 100000 in
theorem dg_82 : dGood dM_82 := ⟨by decide +kernel, ⟨by decide +kernel, by decide +kernel⟩, by decide +kernel, by decide +kernel⟩
set_option maxRecDepth 100000 in
theorem dg_83 : dGood dM_83 := ⟨by decide +kernel, ⟨by decide +kernel, by decide +kernel⟩, by decide +kernel, by decide +kernel⟩
set_option maxRecDepth 100000 in
theorem dg_84 : dGood dM_84 := ⟨by decide +kernel, ⟨by decide +kernel, by decide +kernel⟩, by decide +kernel, by decide +kernel⟩
set_option maxRecDepth 100000 in
theorem dg_85 : dGood dM_85 := ⟨by decide +kernel, ⟨by decide +kernel, by decide +kernel⟩, by decide +kernel, by decide +kernel⟩
set_option maxRecDepth 100000 in
theorem dg_86 : dGood dM_86 := ⟨by decide +kernel, ⟨by decide +kernel, by decide +kernel⟩, by decide +kernel, by decide +kernel⟩
set_option maxRecDepth 100000 in
theorem dg_87 : dGood dM_87 := ⟨by decide +kernel, ⟨by decide +kernel, by decide +kernel⟩, by decide +kernel, by decide +kernel⟩
set_option maxRecDepth 100000 in
theorem dg_88 : dGood dM_88 := ⟨by decide +kernel, ⟨by decide +kernel, by decide +kernel⟩, by decide +kernel, by decide +kernel⟩
set_option maxRecDepth 100000 in
theorem dg_89 : dGood dM_89 := ⟨by decide +kernel, ⟨by decide +kernel, by decide +kernel⟩, by decide +kernel, by decide +kernel⟩
set_option maxRecDepth 100000 in
theorem dg_90 : dGood dM_90 := ⟨by decide +kernel, ⟨by decide +kernel, by decide +kernel⟩, by decide +kernel, by decide +kernel⟩
set_option maxRecDepth 100000 in
theorem dg_91 : dGood dM_91 := ⟨by decide +kernel, ⟨by decide +kernel, by decide +kernel⟩, by decide +kernel, by decide +kernel⟩
set_option maxRecDepth 100000 in
theorem dg_92 : dGood dM_92 := ⟨by decide +kernel, ⟨by decide +kernel, by decide +kernel⟩, by decide +kernel, by decide +kernel⟩
set_option maxRecDepth 100000 in
theorem dg_93 : dGood dM_93 := ⟨by decide +kernel, ⟨by decide +kernel, by decide +kernel⟩, by decide +kernel, by decide +kernel⟩
set_option maxRecDepth 100000 in
theorem dg_law : dchk 11 (some .boolean) code dT_law = true ∧ dchk2 dT_law 5 = true := ⟨by decide +kernel, by decide +kernel⟩
set_option maxRecDepth 100000 in
theorem dg_disks : dchk 11 (some .boolean) method_7_code dT_disks = true ∧ dchk2 dT_disks 8 = true := ⟨by decide +kernel, by decide +kernel⟩
set_option maxRecDepth 100000 in
theorem dg_reads : dchk 11 (some .boolean) method_8_code dT_reads = true ∧ dchk2 dT_reads 7 = true := ⟨by decide +kernel, by decide +kernel⟩
theorem dgs_0 : ∀ q ∈ dms_0, dGood q := List.forall_mem_cons.mpr ⟨dg_0, List.forall_mem_cons.mpr ⟨dg_1, List.forall_mem_cons.mpr ⟨dg_2, List.forall_mem_cons.mpr ⟨dg_3, List.forall_mem_cons.mpr ⟨dg_4, List.forall_mem_cons.mpr ⟨dg_5, List.forall_mem_cons.mpr ⟨dg_6, List.forall_mem_cons.mpr ⟨dg_7, List.forall_mem_cons.mpr ⟨dg_8, List.forall_mem_cons.mpr ⟨dg_9, List.forall_mem_cons.mpr ⟨dg_10, List.forall_mem_cons.mpr ⟨dg_11, List.forall_mem_cons.mpr ⟨dg_12, List.forall_mem_cons.mpr ⟨dg_13, List.forall_mem_cons.mpr ⟨dg_14, List.forall_mem_cons.mpr ⟨dg_15, List.forall_mem_cons.mpr ⟨dg_16, List.forall_mem_cons.mpr ⟨dg_17, List.forall_mem_cons.mpr ⟨dg_18, List.forall_mem_cons.mpr ⟨dg_19, List.forall_mem_cons.mpr ⟨dg_20, List.forall_mem_cons.mpr ⟨dg_21, List.forall_mem_cons.mpr ⟨dg_22, List.forall_mem_cons.mpr ⟨dg_23, List.forall_mem_cons.mpr ⟨dg_24, fun _ h => absurd h List.not_mem_nil⟩⟩⟩⟩⟩⟩⟩⟩⟩⟩⟩⟩⟩⟩⟩⟩⟩⟩⟩⟩⟩⟩⟩⟩⟩
theorem dgs_1 : ∀ q ∈ dms_1, dGood q := List.forall_mem_cons.mpr ⟨dg_25, List.forall_mem_cons.mpr ⟨dg_26, List.forall_mem_cons.mpr ⟨dg_27, List.forall_mem_cons.mpr ⟨dg_28, List.forall_mem_cons.mpr ⟨dg_29, List.forall_mem_cons.mpr ⟨dg_30, List.forall_mem_cons.mpr ⟨dg_31, List.forall_mem_cons.mpr ⟨dg_32, List.forall_mem_cons.mpr ⟨dg_33, List.forall_mem_cons.mpr ⟨dg_34, List.forall_mem_cons.mpr ⟨dg_35, List.forall_mem_cons.mpr ⟨dg_36, List.forall_mem_cons.mpr ⟨dg_37, List.forall_mem_cons.mpr ⟨dg_38, List.forall_mem_cons.mpr ⟨dg_39, List.forall_mem_cons.mpr ⟨dg_40, List.forall_mem_cons.mpr ⟨dg_41, List.forall_mem_cons.mpr ⟨dg_42, List.forall_mem_cons.mpr ⟨dg_18, List.forall_mem_cons.mpr ⟨dg_18, List.forall_mem_cons.mpr ⟨dg_18, List.forall_mem_cons.mpr ⟨dg_18, List.forall_mem_cons.mpr ⟨dg_18, List.forall_mem_cons.mpr ⟨dg_18, List.forall_mem_cons.mpr ⟨dg_18, fun _ h => absurd h List.not_mem_nil⟩⟩⟩⟩⟩⟩⟩⟩⟩⟩⟩⟩⟩⟩⟩⟩⟩⟩⟩⟩⟩⟩⟩⟩⟩
theorem dgs_2 : ∀ q ∈ dms_2, dGood q := List.forall_mem_cons.mpr ⟨dg_18, List.forall_mem_cons.mpr ⟨dg_18, List.forall_mem_cons.mpr ⟨dg_18, List.forall_mem_cons.mpr ⟨dg_18, List.forall_mem_cons.mpr ⟨dg_18, List.forall_mem_cons.mpr ⟨dg_18, List.forall_mem_cons.mpr ⟨dg_18, List.forall_mem_cons.mpr ⟨dg_18, List.forall_mem_cons.mpr ⟨dg_18, List.forall_mem_cons.mpr ⟨dg_18, List.forall_mem_cons.mpr ⟨dg_18, List.forall_mem_cons.mpr ⟨dg_18, List.forall_mem_cons.mpr ⟨dg_18, List.forall_mem_cons.mpr ⟨dg_18, List.forall_mem_cons.mpr ⟨dg_18, List.forall_mem_cons.mpr ⟨dg_18, List.forall_mem_cons.mpr ⟨dg_18, List.forall_mem_cons.mpr ⟨dg_18, List.forall_mem_cons.mpr ⟨dg_18, List.forall_mem_cons.mpr ⟨dg_69, List.forall_mem_cons.mpr ⟨dg_70, List.forall_mem_cons.mpr ⟨dg_18, List.forall_mem_cons.mpr ⟨dg_18, List.forall_mem_cons.mpr ⟨dg_73, List.forall_mem_cons.mpr ⟨dg_74, fun _ h => absurd h List.not_mem_nil⟩⟩⟩⟩⟩⟩⟩⟩⟩⟩⟩⟩⟩⟩⟩⟩⟩⟩⟩⟩⟩⟩⟩⟩⟩
theorem dgs_3 : ∀ q ∈ dms_3, dGood q := List.forall_mem_cons.mpr ⟨dg_75, List.forall_mem_cons.mpr ⟨dg_76, List.forall_mem_cons.mpr ⟨dg_77, List.forall_mem_cons.mpr ⟨dg_78, List.forall_mem_cons.mpr ⟨dg_79, List.forall_mem_cons.mpr ⟨dg_80, List.forall_mem_cons.mpr ⟨dg_81, List.forall_mem_cons.mpr ⟨dg_82, List.forall_mem_cons.mpr ⟨dg_83, List.forall_mem_cons.mpr ⟨dg_84, List.forall_mem_cons.mpr ⟨dg_85, List.forall_mem_cons.mpr ⟨dg_86, List.forall_mem_cons.mpr ⟨dg_87, List.forall_mem_cons.mpr ⟨dg_88, List.forall_mem_cons.mpr ⟨dg_89, List.forall_mem_cons.mpr ⟨dg_90, List.forall_mem_cons.mpr ⟨dg_91, List.forall_mem_cons.mpr ⟨dg_92, List.forall_mem_cons.mpr ⟨dg_93, fun _ h => absurd h List.not_mem_nil⟩⟩⟩⟩⟩⟩⟩⟩⟩⟩⟩⟩⟩⟩⟩⟩⟩⟩⟩
theorem dgs : ∀ q ∈ dms, dGood q := fun q h => (List.mem_append.mp h).elim (dgs_0 q) ((fun q h => (List.mem_append.mp h).elim (dgs_1 q) ((fun q h => (List.mem_append.mp h).elim (dgs_2 q) ((dgs_3) q)) q)) q)
end
section
/-! the abstract heap beside the machine's: which keys are cells, what stands in them, what a method may take as given -/
def okK (ad : DKey → Nat) : DKey → Bool
  | (k, i, j) => match k with
    | 0 => decide (i < 8) && decide (j = 0)
    | 1 => decide (i < 8) && decide (j = 0)
    | 2 => decide (i < 8) && decide (j = 0)
    | 3 => decide (i < 8) && decide (j = 0)
    | 4 => decide (i < 8) && decide (j < 12)
    | 5 => decide (i < 8) && decide (j < 30)
    | 35 => decide (ad (35, 0, 0) ≠ 0) && decide (i = 0) && decide (j = 0)
    | 36 => decide (ad (36, 0, 0) ≠ 0) && decide (i = 0) && decide (j = 0)
    | k => decide (5 < k) && decide (k < 14) && decide (i = 0) && decide (j = 0)
def okV (ad : DKey → Nat) : DV → Bool
  | .inl _ => true
  | .inr (k, i, j) => okK ad (k, i, j) || (decide (j = 0) && ((decide (k = 32) && decide (i < 3)) || (decide (k = 34) && decide (i = 0))))
def dval (ad : DKey → Nat) (fm : Value) : DV → Value
  | .inl x => .int x
  | .inr κ => if κ.1 = 33 then fm else .ref (ad κ)
def dtys (ca : Nat → ClassId) : List (ClassId × FieldType) := [(ca 0, .int), (ca 1, .object "DiskDrawer$Disk"), (ca 2, .object "DiskDrawer$Read"), (ca 3, .object "DiskDrawer$State"), (ca 4, .char)]
def dfields (ad : DKey → Nat) (κ : DKey) (f : Nat → Int32) : List Value := (List.range (dnf (dcls κ.1))).map fun k => match dref κ k with
  | some w => dval ad .null w
  | none => .int (f k)
def dent (ad : DKey → Nat) (ca : Nat → ClassId) (κ : DKey) (f : Nat → Int32) (g : Nat → Nat) : va_E := match darr κ with
  | some (t, n) => if t = 1 ∨ t = 2 ∨ t = 3 then .inl (ca t, n, .inr (.inr (.inr (.inr (fun j => (drk κ (g j) j).map ad))))) else .inl (ca t, n, .inl f)
  | none => .inr (dcls κ.1, dfields ad κ f)
def dSim (D : va_G) (ad : DKey → Nat) (ca : Nat → ClassId) (xs : Nat → Int32) (SL : Nat) (h : DH) (H : Heap) : Prop :=
  (∀ κ, okK ad κ = true → va_at D dclasses (ad κ, dent ad ca κ (h.1 κ) (h.2 κ)) H) ∧ (∀ i j, i < 8 → j < 30 → h.2 (3, i, 0) j < 30) ∧ (∀ j, j < 5 → h.2 (8, 0, 0) j < 8) ∧ h.1 (34, 0, 0) = xs ∧ h.2 (34, 0, 0) 0 = SL
def dInj (ad : DKey → Nat) : Prop := ∀ κ κ', okK ad κ = true → okK ad κ' = true → ad κ = ad κ' → κ = κ'
def dNestW : Cond → Bool
  | .methodLinkNest .. => true
  | .fieldLinkNest .. => true
  | _ => false
def dNest : List Cond := lw_tbl.filter dNestW
def dsn : Nat → String
  | 0 => "AT_FIRST" | 1 => "LOWEST" | _ => "HIGHEST"
def dEnv (D : va_G) (ad : DKey → Nat) (ca : Nat → ClassId) (fm : Value) (xs : Nat → Int32) (SL : Nat) (A : Nat → Prop) (U : State) : Prop :=
  va_K D dclasses (dtys ca) U ∧ (∀ w ∈ dNest, va_Nw w U) ∧
  (∀ w, w < 3 → va_Z "DiskDrawer" (dsn w) "[I" (.ref (ad (32, w, 0))) A U U.heap ∧ va_T .int (ad (32, w, 0)) 10 (fun j => .int (dcst w j)) A U U.heap) ∧
  va_X (ad (34, 0, 0)) SL xs U U.heap ∧ ad (34, 0, 0) < U.heap.size ∧ ¬ A (ad (34, 0, 0))
def dFm (fm : Value) : Prop := fm = .null ∨ ∃ a, fm = .ref a
def dAm (ad : DKey → Nat) : Nat → Prop := fun q => ∃ κ, okK ad κ = true ∧ ad κ = q
section DW
variable {D : va_G} {ad : DKey → Nat} {ca : Nat → ClassId} {fm : Value} {xs : Nat → Int32} {SL : Nat} {A B : Nat → Prop} {u U s : State}
theorem dEnv.to (hal : u.vm.Alike U.vm) (hn : ∀ w ∈ dNest, va_Nw w u → va_Nw w U) (hz : u.heap.size ≤ U.heap.size) (hq : ∀ a : Nat, a < u.heap.size → ¬ A a → U.heap[a]? = u.heap[a]?) (h : dEnv D ad ca fm xs SL A u) : dEnv D ad ca fm xs SL A U := by
  obtain ⟨h1, h2, h3, h8, h9, h10⟩ := h
  exact ⟨va_K.moved hal h1, fun w hw => hn w hw (h2 w hw), fun w hw => ⟨(va_Z.moved hal (h3 w hw).1).kept hq, (va_T.moved hal (h3 w hw).2).kept hq⟩, (va_X.moved hal h8).kept (hq _ h9 h10), Nat.lt_of_lt_of_le h9 hz, h10⟩
theorem dNest_cases {w : Cond} (hw : w ∈ dNest) : (∃ a i b n d h, w = .fieldLinkNest a i b n d h) ∨ ∃ a i x h, w = .methodLinkNest a i x h := by
  have h := (List.mem_filter.mp hw).2
  cases w with
  | fieldLinkNest a i b n d h => exact Or.inl ⟨_, _, _, _, _, _, rfl⟩
  | methodLinkNest a i x h => exact Or.inr ⟨_, _, _, _, rfl⟩
  | _ => exact absurd h (by simp [dNestW])
theorem dEnv.warm (hW : s.WarmedH U.vm) (hz : s.heap.size ≤ U.heap.size) (hq : ∀ a : Nat, a < s.heap.size → ¬ A a → U.heap[a]? = s.heap[a]?) (h : dEnv D ad ca fm xs SL A s) : dEnv D ad ca fm xs SL A U :=
  dEnv.to hW.alike (fun w hw hz => by
    rcases dNest_cases hw with ⟨a, i, b, n, d, h, rfl⟩ | ⟨a, i, x, h, rfl⟩
    · exact va_Nw.warmF hW hz
    · exact va_Nw.warmM hW hz) hz hq h
theorem dEnv.same (hv : U.vm = u.vm) (hh : U.heap = u.heap) (h : dEnv D ad ca fm xs SL A u) : dEnv D ad ca fm xs SL A U :=
  dEnv.to (by rw [hv]; exact Vm.Alike.refl _) (fun w hw hz => by
    rcases dNest_cases hw with ⟨a, i, b, n, d, h, rfl⟩ | ⟨a, i, x, h, rfl⟩
    · exact va_Nw.same rfl hv.symm hz
    · exact va_Nw.same rfl hv.symm hz) (by rw [hh]; exact Nat.le_refl _) (fun a _ _ => by rw [hh]) h
theorem dEnv.narrow (hB : ∀ q, B q → A q) (h : dEnv D ad ca fm xs SL A U) : dEnv D ad ca fm xs SL B U := by
  obtain ⟨h1, h2, h3, h8, h9, h10⟩ := h
  exact ⟨h1, h2, fun w hw => ⟨(h3 w hw).1.narrow hB, (h3 w hw).2.narrow hB⟩, h8, h9, fun z => h10 (hB _ z)⟩
end DW
theorem okK_lt {ad : DKey → Nat} {κ : DKey} (h : okK ad κ = true) : κ.1 < 14 ∨ κ.1 = 35 ∨ κ.1 = 36 := by
  obtain ⟨k, i, j⟩ := κ
  show k < 14 ∨ k = 35 ∨ k = 36
  unfold okK at h
  dsimp only at h
  split at h <;> first | decide | (simp only [Bool.and_eq_true, decide_eq_true_eq] at h; omega)
theorem okK_34 {ad : DKey → Nat} {κ : DKey} (h : okK ad κ = true) : ((34, 0, 0) : DKey) ≠ κ := fun e => by
  have := okK_lt h
  rw [← e] at this
  exact absurd this (by decide)
theorem dval_cat {ad : DKey → Nat} {fm : Value} (hf : dFm fm) (v : DV) : (dval ad fm v).category = 1 := by
  cases v with
  | inl x => rfl
  | inr κ =>
    show (if κ.1 = 33 then fm else Value.ref (ad κ)).category = 1
    by_cases e : κ.1 = 33
    · rw [if_pos e]
      rcases hf with rfl | ⟨a, rfl⟩ <;> rfl
    · rw [if_neg e]
      rfl
theorem dval_ok {ad : DKey → Nat} {fm : Value} {κ : DKey} (h : κ.1 ≠ 33) : dval ad fm (.inr κ) = .ref (ad κ) := by simp [dval, h]
theorem dval_K {ad : DKey → Nat} {fm : Value} {κ : DKey} (h : okK ad κ = true) : dval ad fm (.inr κ) = .ref (ad κ) := dval_ok (by have := okK_lt h; omega)
/-! locals -/
def dlp (ad : DKey → Nat) (fm : Value) : Nat → List (Option DV) → List (Nat × Value)
  | _, [] => []
  | k, none :: L => dlp ad fm (k + 1) L
  | k, some v :: L => (k, dval ad fm v) :: dlp ad fm (k + 1) L
theorem dlp_mem {ad : DKey → Nat} {fm : Value} : ∀ (L : List (Option DV)) (b k : Nat) (v : DV), dget L k = some v → (b + k, dval ad fm v) ∈ dlp ad fm b L := by
  intro L
  induction L with
  | nil => intro b k v h; cases h
  | cons x L ih =>
    intro b k v h
    cases k with
    | zero =>
      cases x with
      | none => cases h
      | some w => cases h; exact List.mem_cons_self
    | succ k =>
      have := ih (b + 1) k v h
      rw [show b + 1 + k = b + (k + 1) from by omega] at this
      cases x with
      | none => exact this
      | some w => exact List.mem_cons_of_mem _ this
theorem dlp_of {ad : DKey → Nat} {fm : Value} : ∀ (L : List (Option DV)) (b : Nat) (q : Nat × Value), q ∈ dlp ad fm b L → ∃ k v, dget L k = some v ∧ q = (b + k, dval ad fm v) := by
  intro L
  induction L with
  | nil => intro b q h; cases h
  | cons x L ih =>
    intro b q h
    cases x with
    | none =>
      obtain ⟨k, v, h1, h2⟩ := ih (b + 1) q h
      exact ⟨k + 1, v, h1, by rw [h2, show b + 1 + k = b + (k + 1) from by omega]⟩
    | some w =>
      rcases List.mem_cons.mp h with h | h
      · exact ⟨0, w, rfl, h⟩
      · obtain ⟨k, v, h1, h2⟩ := ih (b + 1) q h
        exact ⟨k + 1, v, h1, by rw [h2, show b + 1 + k = b + (k + 1) from by omega]⟩
theorem dget_set : ∀ (L : List (Option DV)) (i k : Nat) (v : DV), i < L.length → dget (dset L i v) k = if k = i then some v else dget L k := by
  intro L
  induction L with
  | nil => intro i k v h; cases h
  | cons x L ih =>
    intro i k v h
    cases i with
    | zero => cases k <;> simp [dset, dget]
    | succ i =>
      cases k with
      | zero => simp [dset, dget]
      | succ k => simp only [dset, dget, Nat.add_right_cancel_iff]; exact ih i k v (by simpa using h)
theorem dset_len : ∀ (L : List (Option DV)) (i : Nat) (v : DV), (dset L i v).length = L.length := by
  intro L
  induction L with
  | nil => intro i v; cases i <;> rfl
  | cons x L ih =>
    intro i v
    cases i with
    | zero => rfl
    | succ i => simp [dset, ih]
def dLoc (ad : DKey → Nat) (fm : Value) (L : List (Option DV)) (nL : Nat) (ls : Array Slot) : Prop := lv_has ls nL (dlp ad fm 0 L)
theorem dLoc.get {ad : DKey → Nat} {fm : Value} {L : List (Option DV)} {nL : Nat} {ls : Array Slot} (h : dLoc ad fm L nL ls) {k : Nat} {v : DV} (hk : dget L k = some v) : ls[k]? = some (.val (dval ad fm v)) := by
  have := h.2.2 _ (dlp_mem L 0 k v hk)
  simpa using this
theorem dLoc.put {ad : DKey → Nat} {fm : Value} (hf : dFm fm) {L : List (Option DV)} {nL i : Nat} {v : DV} {ls' : Array Slot} (hi : i < L.length) (h : lv_has ls' nL ((i, dval ad fm v) :: (dlp ad fm 0 L).filter (fun q => !(q.1 == i) && !(q.1 + 1 == i && q.2.category == 2)))) : dLoc ad fm (dset L i v) nL ls' := by
  refine ⟨h.1, h.2.1, fun q hq => ?_⟩
  obtain ⟨k, w, h1, rfl⟩ := dlp_of _ _ _ hq
  rw [dget_set L i k v hi] at h1
  by_cases hk : k = i
  · rw [if_pos hk] at h1
    cases h1
    have := h.2.2 (i, dval ad fm v) List.mem_cons_self
    simpa [hk] using this
  · rw [if_neg hk] at h1
    refine h.2.2 _ (List.mem_cons_of_mem _ (List.mem_filter.mpr ⟨dlp_mem L 0 k w h1, ?_⟩))
    simp [hk, dval_cat hf]
/-! the heap -/
section DHP
variable {D : va_G} {ad : DKey → Nat} {ca : Nat → ClassId} {xs : Nat → Int32} {SL : Nat} {h : DH} {H H1 : Heap} {κ : DKey} {a : Nat}
theorem up1_ne (h : DH) {κ κ' : DKey} (k : Nat) (x : Int32) (hn : κ' ≠ κ) : (up1 h κ k x).1 κ' = h.1 κ' := by
  funext j
  simp [up1, hn]
theorem up1_eq (h : DH) (κ : DKey) (k : Nat) (x : Int32) : (up1 h κ k x).1 κ = upd (h.1 κ) k x := by
  funext j
  simp [up1, upd]
theorem up2_ne (h : DH) {κ κ' : DKey} (k : Nat) (x : Nat) (hn : κ' ≠ κ) : (up2 h κ k x).2 κ' = h.2 κ' := by
  funext j
  simp [up2, hn]
theorem dSim.up1 (hS : dSim D ad ca xs SL h H) (hi : dInj ad) (hκ : okK ad κ = true) {k : Nat} {x : Int32} (hc : va_at D dclasses (ad κ, dent ad ca κ (upd (h.1 κ) k x) (h.2 κ)) H1) (oq : ∀ q : Nat, q ≠ ad κ → H1[q]? = H[q]?) : dSim D ad ca xs SL (up1 h κ k x) H1 := by
  have h34 := okK_34 hκ
  refine ⟨fun κ' h' => ?_, hS.2.1, hS.2.2.1, (up1_ne h k x h34).trans hS.2.2.2.1, hS.2.2.2.2⟩
  by_cases e : κ' = κ
  · subst e
    rw [up1_eq]
    exact hc
  · rw [up1_ne h k x e]
    exact (hS.1 κ' h').kept (oq _ (fun z => e (hi κ' κ h' hκ z)))
theorem dSim.up2 (hS : dSim D ad ca xs SL h H) (hi : dInj ad) (hκ : okK ad κ = true) {k x : Nat} (hr : (κ.1 = 3 ∧ x < 30) ∨ (κ.1 = 8 ∧ x < 8)) (hc : va_at D dclasses (ad κ, dent ad ca κ (h.1 κ) ((up2 h κ k x).2 κ)) H1) (oq : ∀ q : Nat, q ≠ ad κ → H1[q]? = H[q]?) : dSim D ad ca xs SL (up2 h κ k x) H1 := by
  have h34 := okK_34 hκ
  refine ⟨fun κ' h' => ?_, fun i j hi' hj => ?_, fun j hj => ?_, hS.2.2.2.1, by rw [up2_ne h k x h34]; exact hS.2.2.2.2⟩
  · by_cases e : κ' = κ
    · subst e
      exact hc
    · rw [up2_ne h k x e]
      exact (hS.1 κ' h').kept (oq _ (fun z => e (hi κ' κ h' hκ z)))
  · show (if (3, i, 0) = κ ∧ j = k then x else h.2 (3, i, 0) j) < 30
    split
    · rename_i e
      rcases hr with hr | hr
      · exact hr.2
      · rw [← e.1] at hr; exact absurd hr.1 (show ¬ (3 : Nat) = 8 by decide)
    · exact hS.2.1 i j hi' hj
  · show (if (8, 0, 0) = κ ∧ j = k then x else h.2 (8, 0, 0) j) < 8
    split
    · rename_i e
      rcases hr with hr | hr
      · rw [← e.1] at hr; exact absurd hr.1 (by decide)
      · exact hr.2
    · exact hS.2.2.1 j hj
theorem dfields_at {k : Nat} (f : Nat → Int32) (hk : k < dnf (dcls κ.1)) : (dfields ad κ f)[k]? = some (match dref κ k with
  | some w => dval ad .null w
  | none => .int (f k)) := by
  unfold dfields
  rw [List.getElem?_map, List.getElem?_range hk]
  rfl
theorem dfields_set {k : Nat} (f : Nat → Int32) (x : Int32) (hk : k < dnf (dcls κ.1)) (hr : dref κ k = none) : (dfields ad κ f).set k (.int x) = dfields ad κ (upd f k x) := by
  refine List.ext_getElem? fun j => ?_
  by_cases hj : j < dnf (dcls κ.1)
  · rw [List.getElem?_set]
    have hl : (dfields ad κ f).length = dnf (dcls κ.1) := by simp [dfields]
    by_cases e : k = j
    · subst e
      rw [if_pos rfl, if_pos (by rw [hl]; exact hk), dfields_at _ hk, hr]
      simp [upd]
    · rw [if_neg e, dfields_at _ hj, dfields_at _ hj]
      cases dref κ j with
      | some w => rfl
      | none => simp [upd, Ne.symm e]
  · have hl : (dfields ad κ f).length = dnf (dcls κ.1) := by simp [dfields]
    have hl2 : (dfields ad κ (upd f k x)).length = dnf (dcls κ.1) := by simp [dfields]
    rw [List.getElem?_eq_none (by rw [List.length_set, hl]; omega), List.getElem?_eq_none (by rw [hl2]; omega)]
theorem drefT_33 {kd k t m : Nat} (h : drefT kd k = some (t, m)) : t ≠ 33 := by
  unfold drefT at h
  split at h <;> first | (cases h; decide) | cases h
theorem dref_null {fm : Value} {κ : DKey} {k : Nat} {w : DV} (h : dref κ k = some w) : dval ad .null w = dval ad fm w := by
  obtain ⟨kd, i, j⟩ := κ
  unfold dref at h
  dsimp only at h
  split at h
  · cases h
  · rename_i t m e
    have ht := drefT_33 e
    split at h <;> cases h
    · rw [dval_ok ht, dval_ok ht]
    · rfl
    · rw [dval_ok ht, dval_ok ht]
theorem dcls_arr {κ : DKey} (h : dcls κ.1 ≠ 99) : darr κ = none := by
  obtain ⟨k, i, j⟩ := κ
  unfold dcls at h
  split at h <;> first | (rename_i e; subst e; rfl) | rfl | (exact absurd rfl h)
theorem dcl_at {ci : Nat} (h : ci < 6) : dclasses[ci]? = some (don ci, dTX ci, dnf ci) := by
  match ci, h with
  | 0, _ => rfl
  | 1, _ => rfl
  | 2, _ => rfl
  | 3, _ => rfl
  | 4, _ => rfl
  | 5, _ => rfl
end DHP
end
section
/-! the instructions that touch the heap, over the abstract heap -/
theorem duw0 : ∀ w ∈ u_ws (don 0) (dTX 0) (dnf 0), w ∈ lw_tbl ∧ goodWord w = true := by decide +kernel
theorem duw1 : ∀ w ∈ u_ws (don 1) (dTX 1) (dnf 1), w ∈ lw_tbl ∧ goodWord w = true := by decide +kernel
theorem duw2 : ∀ w ∈ u_ws (don 2) (dTX 2) (dnf 2), w ∈ lw_tbl ∧ goodWord w = true := by decide +kernel
theorem duw3 : ∀ w ∈ u_ws (don 3) (dTX 3) (dnf 3), w ∈ lw_tbl ∧ goodWord w = true := by decide +kernel
theorem duw4 : ∀ w ∈ u_ws (don 4) (dTX 4) (dnf 4), w ∈ lw_tbl ∧ goodWord w = true := by decide +kernel
theorem duw5 : ∀ w ∈ u_ws (don 5) (dTX 5) (dnf 5), w ∈ lw_tbl ∧ goodWord w = true := by decide +kernel
theorem duw {ci : Nat} (h : ci < 6) : ∀ w ∈ u_ws (don ci) (dTX ci) (dnf ci), w ∈ dWd := by
  have key : ∀ w ∈ u_ws (don ci) (dTX ci) (dnf ci), w ∈ lw_tbl ∧ goodWord w = true := by
    match ci, h with
    | 0, _ => exact duw0
    | 1, _ => exact duw1
    | 2, _ => exact duw2
    | 3, _ => exact duw3
    | 4, _ => exact duw4
    | 5, _ => exact duw5
  exact fun w hw => List.mem_filter.mpr (key w hw)
theorem dty_ok : ∀ ci, ci < 6 → ∀ k, k < dnf ci → parseFieldDescriptor (dTX ci k).2.2.1 = some (dTY ci k) := by decide +kernel
theorem dnm_ok : ∀ ci, ci < 6 → ∀ a, a < dnf ci → ∀ b, b < dnf ci → a ≠ b → (dTX ci a).2.1 ≠ (dTX ci b).2.1 := by decide +kernel
theorem dfin_ok : ∀ kd, kd < 37 → dcls kd < 6 → ∀ k, k < dnf (dcls kd) → drefT kd k = none → (dTX (dcls kd) k).2.2.2 = false ∧ parseFieldDescriptor (dTX (dcls kd) k).2.2.1 = some (if dfz (dcls kd) k then .boolean else .int) := by decide +kernel
theorem dref_none {κ : DKey} {k : Nat} (h : dref κ k = none) : drefT κ.1 k = none := by
  obtain ⟨kd, i, j⟩ := κ
  unfold dref at h
  dsimp only at h ⊢
  split at h
  · assumption
  · split at h <;> cases h
section DST
variable {p : Program} {l : Launch} {e : Env} {R : Room} {s : State} {m : MethodId} {args : Array Value} {below : List Frame} {meth : Method} {c : Code} {H : Heap} {locs : List Loc} {cells slots : Nat} {Q : State → Prop}
variable {cc : ByteArray} {pc : Nat} {ls : Array Slot} {rest : List Value} {Ts : List Cond} {o idx ci k : Nat} {κ : DKey}
variable {D : va_G} {ad : DKey → Nat} {ca : Nat → ClassId} {fm : Value} {xs : Nat → Int32} {SL : Nat} {A : Nat → Prop} {h : DH}
theorem do_P (hS : dSim D ad ca xs SL h H) (hκ : okK ad κ = true) : va_P D dclasses [(ad κ, dent ad ca κ (h.1 κ) (h.2 κ))] H := by
  intro k q hk
  cases k with
  | zero => cases hk; exact hS.1 κ hκ
  | succ k => cases hk
theorem dent_obj (hc : dcls κ.1 = ci) (hci : ci < 6) (f : Nat → Int32) (g : Nat → Nat) : dent ad ca κ f g = .inr (ci, dfields ad κ f) := by
  unfold dent
  rw [dcls_arr (by omega), hc]
theorem dent_int {n t : Nat} (ha : darr κ = some (t, n)) (ht : t = 0 ∨ t = 4 ∨ t = 5) (f : Nat → Int32) (g : Nat → Nat) : dent ad ca κ f g = .inl (ca t, n, .inl f) := by
  unfold dent
  rw [ha]
  dsimp only
  rw [if_neg (by omega)]
theorem dent_ref {n t : Nat} (ha : darr κ = some (t, n)) (ht : t = 1 ∨ t = 2 ∨ t = 3) (f : Nat → Int32) (g : Nat → Nat) : dent ad ca κ f g = .inl (ca t, n, .inr (.inr (.inr (.inr (fun j => (drk κ (g j) j).map ad))))) := by
  unfold dent
  rw [ha]
  dsimp only
  rw [if_pos ht]
theorem do_get (hx : p.tables.exec = Jvm.exec) (hb : c.code = cc) (hts : ∀ w ∈ Ts, w.before args s = true) (hG : GoodIn Ts dWd) (hown : s.vm.findClass (don o) = some m.cls) (hE : dEnv D ad ca fm xs SL A s) (hS : dSim D ad ca xs SL h H) (hκ : okK ad κ = true) (hc : dcls κ.1 = ci) (hci : ci < 6) (hk : k < dnf ci)
    (hl : (Cond.fieldLink (don o) idx (dTX ci k).1 (dTX ci k).2.1 (dTX ci k).2.2.1) ∈ dWd) {w : DV} (hw : dgetf ci k κ h = some w) (hdg : decode cc pc = .ok (.getfield idx, 3))
    (kk : W p l e R s m args below meth c H locs cells slots Q (F0 m (pc + 3) ls (dval ad fm w :: rest))) : W p l e R s m args below meth c H locs cells slots Q (F0 m pc ls (.ref (ad κ) :: rest)) := by
  have hP := do_P hS hκ
  rw [dent_obj hc hci] at hP
  refine va_get (D := D) (ci := ci) (v := dval ad fm w) (C := don ci) (T := dTX ci) (N := dnf ci) hx hb hts (fun w hw => (hG w (duw hci w hw)).1) hown hE.1 hP 0 rfl (dcl_at hci) k hk (hts _ (hG _ hl).1) (fun _ h9 => h9) ?_ hdg kk
  rw [dfields_at _ (by rw [hc]; exact hk)]
  unfold dgetf at hw
  rw [hc, show Nat.beq ci ci = true from Nat.beq_refl ci] at hw
  dsimp only [cond] at hw
  cases hr : dref κ k with
  | some z =>
    rw [hr] at hw
    cases hw
    rw [← dref_null (fm := fm) hr]
  | none =>
    rw [hr] at hw
    cases hw
    rfl
theorem do_put (hx : p.tables.exec = Jvm.exec) (hb : c.code = cc) (hts : ∀ w ∈ Ts, w.before args s = true) (hG : GoodIn Ts dWd) (hown : s.vm.findClass (don o) = some m.cls) (hE : dEnv D ad ca fm xs SL A s) (hA : ∀ κ, okK ad κ = true → A (ad κ)) (hi : dInj ad) (hS : dSim D ad ca xs SL h H) (hS0 : va_S A s.heap H locs) (hκ : okK ad κ = true) (hc : dputf ci k κ = true) (hci : ci < 6) (hk : k < dnf ci)
    (hl : (Cond.fieldLink (don o) idx (dTX ci k).1 (dTX ci k).2.1 (dTX ci k).2.2.1) ∈ dWd) {x : Int32} (hz : dfz ci k = true → x = 0 ∨ x = 1) (hdg : decode cc pc = .ok (.putfield idx, 3))
    (kk : ∀ (H1 : Heap) (locs1 : List Loc), dSim D ad ca xs SL (up1 h κ k x) H1 → va_S A s.heap H1 locs1 → W p l e R s m args below meth c H1 locs1 cells slots Q (F0 m (pc + 3) ls rest)) : W p l e R s m args below meth c H locs cells slots Q (F0 m pc ls (.int x :: .ref (ad κ) :: rest)) := by
  simp only [dputf, Bool.and_eq_true] at hc
  obtain ⟨⟨hc1, hc2⟩, hc3⟩ := hc
  have hc : dcls κ.1 = ci := Nat.eq_of_beq_eq_true hc1
  have hr : dref κ k = none := by
    cases hr : dref κ k with
    | none => rfl
    | some w => rw [hr] at hc3; cases hc3
  have hP := do_P hS hκ
  rw [dent_obj hc hci] at hP
  have hcl := dcl_at hci
  have hin : ∀ w ∈ u_ws (don ci) (dTX ci) (dnf ci), w ∈ Ts := fun w hw => (hG w (duw hci w hw)).1
  have hfo := dfin_ok κ.1 (by have := okK_lt hκ; omega) (by rw [hc]; exact hci) k (by rw [hc]; exact hk) (dref_none hr)
  rw [hc] at hfo
  obtain ⟨hfin, hd⟩ := hfo
  have hn : narrow (if dfz ci k then FieldType.boolean else FieldType.int) (.int x) = .int x ∧ fits (if dfz ci k then FieldType.boolean else FieldType.int) (.int x) = true := by
    cases hzz : dfz ci k with
    | true => rcases hz hzz with rfl | rfl <;> exact ⟨rfl, rfl⟩
    | false => exact ⟨rfl, rfl⟩
  have hap := va_apart (own := don o) hts hin (dTY ci) (dty_ok ci hci) (dnm_ok ci hci) hE.1 hcl
  obtain ⟨r, h1, cell, q1, q2, q3, q4⟩ := hP 0 _ rfl
  have hr2 : r = (don ci, dTX ci, dnf ci) := Option.some.inj (h1.symm.trans hcl)
  subst hr2
  obtain ⟨hSl, hfc, kC, hkC, hkind⟩ := hE.1.1 ci _ hcl
  obtain ⟨cf, kf, fi, f, hif, hsl⟩ := hSl k hk
  have hlay := hts _ (hin _ (u_in_lay hk))
  unfold u_lay at hlay
  rw [if_neg (by rw [hfin]; decide)] at hlay
  have hst := (u_facts hfc hkC (u_lays hts hin hk) hif).1
  have h6 := u_store hfc hkC hkind hlay hif hd hn.1 hn.2
  have hlen : k < (dfields ad κ (h.1 κ)).length := by simp [dfields, hc, hk]
  refine W.putK hx hb (f := f) ⟨hown, hts _ (hG _ hl).1, ⟨_, _, _, hif⟩, hst⟩ (by rw [q2]; exact h6) q1 q3 (by rw [hsl]; exact k2_hasslot (q4 k hk)) rfl rfl hdg fun H' e1 e2 e3 => ?_
  rw [hsl] at e1 ⊢
  have hat : va_at D dclasses (ad κ, .inr (ci, (dfields ad κ (h.1 κ)).set k (.int x))) H' := ⟨_, hcl, t_OB.to (V := updV (vp_V (dfields ad κ (h.1 κ))) k (.int x)) ⟨_, e1, q2, q3, t_set q4 hap hk (.int x)⟩ (fun j _ => vp_updV_set hlen (.int x) j)⟩
  rw [dfields_set _ _ (by rw [hc]; exact hk) hr, ← dent_obj (ca := ca) hc hci _ (h.2 κ)] at hat
  exact kk H' _ (hS.up1 hi hκ hat e3) (hS0.put e2 e3 (hA κ hκ))
theorem dty_at {t : Nat} (ht : t < 5) : ∃ ty, (dtys ca)[t]? = some (ca t, ty) ∧ ty = (match t with | 0 => .int | 1 => .object "DiskDrawer$Disk" | 2 => .object "DiskDrawer$Read" | 3 => .object "DiskDrawer$State" | _ => .char) := by
  match t, ht with
  | 0, _ => exact ⟨_, rfl, rfl⟩
  | 1, _ => exact ⟨_, rfl, rfl⟩
  | 2, _ => exact ⟨_, rfl, rfl⟩
  | 3, _ => exact ⟨_, rfl, rfl⟩
  | 4, _ => exact ⟨_, rfl, rfl⟩
theorem do_iald (hx : p.tables.exec = Jvm.exec) (hb : c.code = cc) (hE : dEnv D ad ca fm xs SL A s) (hS : dSim D ad ca xs SL h H) (hκ : okK ad κ = true) {n : Nat} (ha : darr κ = some (0, n)) {i : Int32} (hin : vp_in i n) (hdg : decode cc pc = .ok (.iaload, 1))
    (kk : W p l e R s m args below meth c H locs cells slots Q (F0 m (pc + 1) ls (.int (h.1 κ i.toNatClampNeg) :: rest))) : W p l e R s m args below meth c H locs cells slots Q (F0 m pc ls (.int i :: .ref (ad κ) :: rest)) := by
  have hP := do_P hS hκ
  rw [dent_int ha (Or.inl rfl)] at hP
  exact va_iald hx hb hE.1 hP 0 0 rfl rfl hin hdg kk
theorem do_arr {n t : Nat} (ha : darr κ = some (t, n)) (ht : t = 0 ∨ t = 4 ∨ t = 5) (hS : dSim D ad ca xs SL h H) (hκ : okK ad κ = true) : H[ad κ]? = some (arrV (ca t) n (fun j => .int (h.1 κ j))) := by
  have := hS.1 κ hκ
  rw [dent_int ha ht] at this
  exact this
theorem do_iast (hx : p.tables.exec = Jvm.exec) (hb : c.code = cc) (hE : dEnv D ad ca fm xs SL A s) (hA : ∀ κ, okK ad κ = true → A (ad κ)) (hi : dInj ad) (hS : dSim D ad ca xs SL h H) (hS0 : va_S A s.heap H locs) (hκ : okK ad κ = true) {n : Nat} (ha : darr κ = some (0, n)) {i x : Int32} (hin : vp_in i n) (hdg : decode cc pc = .ok (.iastore, 1))
    (kk : ∀ (H1 : Heap) (locs1 : List Loc), dSim D ad ca xs SL (up1 h κ i.toNatClampNeg x) H1 → va_S A s.heap H1 locs1 → W p l e R s m args below meth c H1 locs1 cells slots Q (F0 m (pc + 1) ls rest)) : W p l e R s m args below meth c H locs cells slots Q (F0 m pc ls (.int x :: .int i :: .ref (ad κ) :: rest)) := by
  have hty := (hE.1.2 0 (ca 0, .int) rfl).1
  refine W.iast hx hb (do_arr ha (Or.inl rfl) hS hκ) (hty n (fun j => .int (h.1 κ j))) (fun q => by cases q) (by show ¬ (i < 0 ∨ (arrV _ _ _).slots.size ≤ _); rw [arrV_size]; exact hin) rfl rfl hdg fun H1 e z oq => ?_
  refine kk H1 _ (hS.up1 hi hκ ?_ oq) (hS0.put z oq (hA κ hκ))
  rw [dent_int ha (Or.inl rfl)]
  show H1[ad κ]? = some (vp_cell _ _)
  rw [e, vp_cell_i, arrV_store]
  congr 2
  funext q
  by_cases hq : q = i.toNatClampNeg <;> simp [updV, upd, hq]
theorem darr_ref {κ : DKey} {t n : Nat} (ha : darr κ = some (t, n)) (ht : t = 1 ∨ t = 2 ∨ t = 3) (p j : Nat) : ∃ w, drk κ p j = some w := by
  unfold darr at ha
  split at ha <;> first | (cases ha; exact ⟨_, rfl⟩) | (cases ha; omega) | cases ha
theorem do_aald (hx : p.tables.exec = Jvm.exec) (hb : c.code = cc) (hE : dEnv D ad ca fm xs SL A s) (hS : dSim D ad ca xs SL h H) (hκ : okK ad κ = true) {n t : Nat} (ha : darr κ = some (t, n)) {i : Int32} (hin : vp_in i n) {w : DKey} (hw : drk κ (h.2 κ i.toNatClampNeg) i.toNatClampNeg = some w) (hdg : decode cc pc = .ok (.aaload, 1))
    (kk : okK ad w = true → W p l e R s m args below meth c H locs cells slots Q (F0 m (pc + 1) ls (.ref (ad w) :: rest))) : W p l e R s m args below meth c H locs cells slots Q (F0 m pc ls (.int i :: .ref (ad κ) :: rest)) := by
  have hlt : i.toNatClampNeg < n := Nat.not_le.mp fun q => hin (Or.inr q)
  have hP := do_P hS hκ
  have ht : (t = 1 ∨ t = 2 ∨ t = 3) ∧ okK ad w = true := by
    obtain ⟨kd, i0, j0⟩ := κ
    unfold drk at hw
    split at hw
    · rename_i e
      cases e
      cases ha
      cases hw
      simp only [okK, Bool.and_eq_true, decide_eq_true_eq] at hκ
      exact ⟨by decide, by simp only [okK, Bool.and_eq_true, decide_eq_true_eq]; exact ⟨hκ.1, hlt⟩⟩
    · rename_i e
      cases e
      cases ha
      cases hw
      simp only [okK, Bool.and_eq_true, decide_eq_true_eq] at hκ
      obtain ⟨h1, rfl⟩ := hκ
      exact ⟨by decide, by simp only [okK, Bool.and_eq_true, decide_eq_true_eq]; exact ⟨h1, hS.2.1 _ _ h1 hlt⟩⟩
    · rename_i e
      cases e
      cases ha
      cases hw
      simp only [okK, Bool.and_eq_true, decide_eq_true_eq] at hκ
      obtain ⟨⟨⟨h1, h2⟩, rfl⟩, rfl⟩ := hκ
      exact ⟨by decide, by simp only [okK, Bool.and_eq_true, decide_eq_true_eq]; exact ⟨hS.2.2.1 _ hlt, trivial⟩⟩
    · cases hw
  obtain ⟨ht, hok⟩ := ht
  rw [dent_ref ha ht] at hP
  have hfi : (drk κ (h.2 κ i.toNatClampNeg) i.toNatClampNeg).map ad = some (ad w) := by rw [hw]; rfl
  have key : ∀ C, (dtys ca)[t]? = some (ca t, .object C) → W p l e R s m args below meth c H locs cells slots Q (F0 m pc ls (.int i :: .ref (ad κ) :: rest)) := fun C hC =>
    va_aldq hx hb hE.1 hP 0 t rfl hC hin hdg (by
      rw [hfi]
      exact kk hok)
  rcases ht with rfl | rfl | rfl
  · exact key _ rfl
  · exact key _ rfl
  · exact key _ rfl
theorem do_aast (hx : p.tables.exec = Jvm.exec) (hb : c.code = cc) (hE : dEnv D ad ca fm xs SL A s) (hA : ∀ κ, okK ad κ = true → A (ad κ)) (hi : dInj ad) (hS : dSim D ad ca xs SL h H) (hS0 : va_S A s.heap H locs) (hκ : okK ad κ = true) {n t x : Nat} {w : DKey} (ha : darr κ = some (t, n)) (ht : t = 1 ∨ t = 2 ∨ t = 3) (hC : (dtys ca)[t]? = some (ca t, .object (don ci))) (hci : ci < 6) (hwc : dcls w.1 = ci) (hwk : okK ad w = true) {i : Int32} (hin : vp_in i n) (hd : drk κ x i.toNatClampNeg = some w) (hr : (κ.1 = 3 ∧ x < 30) ∨ (κ.1 = 8 ∧ x < 8)) (hdg : decode cc pc = .ok (.aastore, 1))
    (kk : ∀ (H1 : Heap) (locs1 : List Loc), dSim D ad ca xs SL (up2 h κ i.toNatClampNeg x) H1 → va_S A s.heap H1 locs1 → W p l e R s m args below meth c H1 locs1 cells slots Q (F0 m (pc + 1) ls rest)) : W p l e R s m args below meth c H locs cells slots Q (F0 m pc ls (.ref (ad w) :: .int i :: .ref (ad κ) :: rest)) := by
  have hlt : i.toNatClampNeg < n := Nat.not_le.mp fun q => hin (Or.inr q)
  have h0 : ¬ i < 0 := fun q => hin (Or.inl q)
  have hcell := hS.1 κ hκ
  rw [dent_ref ha ht] at hcell
  have hv := hS.1 w hwk
  rw [dent_obj hwc hci] at hv
  obtain ⟨r', hr', cellV, g1, g2, g3, -⟩ := hv
  have hcls := (hE.1.1 ci _ (dcl_at hci)).2
  obtain ⟨kA, comp, k1, k2, k3, -⟩ := (hE.1.2 t _ hC).2
  have hcomp : comp = D.1 ci := Option.some.inj (k3.symm.trans hcls.1)
  subst hcomp
  obtain ⟨kC, hkC, -⟩ := hcls.2
  refine W.aast hx hb hcell (fun q h => by cases h) (fun h => by cases h) k1 k2 rfl hkC ⟨h0, by show _ < (arrV _ _ _).slots.size; rw [arrV_size]; exact hlt⟩ g1 (fun q h => by rw [g3] at h; cases h) (by rw [g2]; exact hkC) (by rw [g2]; exact va_assign hcls) rfl rfl hdg fun H1 e z oq => ?_
  refine kk H1 _ (hS.up2 hi hκ hr ?_ oq) (hS0.put z oq (hA κ hκ))
  rw [dent_ref ha ht]
  show H1[ad κ]? = some (vp_cell _ _)
  rw [e, vp_cell_q, vp_cell_q, arrV_store]
  congr 2
  funext q
  by_cases hq : q = i.toNatClampNeg
  · subst hq
    simp [updV, up2, va_rf, hd]
  · simp [updV, up2, hq]
theorem do_ret {r : DRes} {a : Array Value} {st0 : List Value} {QQ : Array Value → State → Outcome → State → Prop} (hQ : QQ = fun _ st oc t => oc = .returned (r.1.map (dval ad fm)) ∧ (∀ v, r.1 = some v → okV ad v = true) ∧ dSim D ad ca xs SL r.2 t.heap ∧ va_F (dAm ad) st t)
    (hr : va_Run p l e R s m args below meth c H locs cells slots 0 0 (F0 m pc ls st0) rest (QQ a) (dAm ad)) (hS0 : va_S A s.heap H locs) (hAm : ∀ q, dAm ad q → A q)
    (kk : ∀ (H1 : Heap) (locs1 : List Loc), (∀ v, r.1 = some v → okV ad v = true) → dSim D ad ca xs SL r.2 H1 → va_S A s.heap H1 locs1 → W p l e R s m args below meth c H1 locs1 cells slots Q (F0 m (pc + 3) ls ((r.1.map (dval ad fm)).toList ++ rest))) : W p l e R s m args below meth c H locs cells slots Q (F0 m pc ls st0) := by
  subst hQ
  intro T hT X
  obtain ⟨v, st₀, t, T', L, h0, X', hL, e1, e2, ⟨hv, hok, hsim, hz, hk⟩, st⟩ := hr T hT X
  cases hv
  rw [h0] at hz hk
  obtain ⟨t2, a1, b1⟩ := kk T'.heap (locs ++ L) hok (by rw [e1]; exact hsim)
    ⟨Nat.le_trans hS0.1 (by rw [e1]; exact hz), fun q h1 h2 => by rw [e1, hk q (Nat.lt_of_lt_of_le h1 hS0.1) (fun z => h2 (hAm q z))]; exact hS0.2.1 q h1 h2, fun q hq => by
      rcases List.mem_append.mp hq with h | h
      · exact hS0.2.2 q h
      · exact hAm _ (hL q h)⟩ T' rfl X'
  exact ⟨t2, st t2 a1, b1⟩
end DST
end
section
/-! the abstract machine is sound: what it comes to, the machine comes to -/
variable {ad : DKey → Nat}
theorem dpop_spec : ∀ (n : Nat) (st acc as rest : List DV), dpop n st acc = some (as, rest) → ∃ pre : List DV, as = pre ++ acc ∧ st = pre.reverse ++ rest ∧ pre.length = n := by
  intro n
  induction n with
  | zero =>
    intro st acc as rest h
    simp only [dpop, Option.some.injEq, Prod.mk.injEq] at h
    exact ⟨[], by simp [h.1], by simp [h.2], rfl⟩
  | succ n ih =>
    intro st acc as rest h
    cases st with
    | nil => simp [dpop] at h
    | cons v st =>
      obtain ⟨pre, h1, h2, h3⟩ := ih st (v :: acc) as rest h
      exact ⟨pre ++ [v], by simp [h1], by simp [h2], by simp [h3]⟩
theorem dchk_at {o : Nat} {rt : Option FieldType} {c : ByteArray} {T : DTbl} (h : dchk o rt c T = true) {pc : Nat} {q : DOp} (hq : dop T pc = some q) : ∃ i len, decode c pc = .ok (i, len) ∧ denc o rt pc i len = some q := by
  have hq' : T.getD pc none = some q := hq
  have hl : pc < T.length := by
    rcases Nat.lt_or_ge pc T.length with h | h
    · exact h
    · rw [List.getD_eq_getElem?_getD, List.getElem?_eq_none h] at hq'
      cases hq'
  have h1 := List.all_eq_true.mp h pc (List.mem_range.mpr hl)
  rw [hq'] at h1
  dsimp only at h1
  cases hd : decode c pc with
  | error e => rw [hd] at h1; cases h1
  | ok z =>
    obtain ⟨i, len⟩ := z
    rw [hd] at h1
    dsimp only at h1
    cases he : denc o rt pc i len with
    | none => rw [he] at h1; cases h1
    | some q' =>
      rw [he] at h1
      exact ⟨i, len, rfl, by rw [he, deq_eq h1]⟩
theorem dchk2_at {T : DTbl} {n pc : Nat} (h : dchk2 T n = true) {k a b nx : Nat} {v : Int32} {ts : List Nat} (hq : dop T pc = some (k, a, b, nx, v, ts)) (hk : k = 3 ∨ k = 4 ∨ k = 25) : a < n := by
  have hq' : T.getD pc none = some (k, a, b, nx, v, ts) := hq
  have hm : some (k, a, b, nx, v, ts) ∈ T := by
    rw [List.getD_eq_getElem?_getD] at hq'
    cases hz : T[pc]? with
    | none => rw [hz] at hq'; cases hq'
    | some y =>
      rw [hz] at hq'
      have : y = some (k, a, b, nx, v, ts) := hq'
      rw [← this]
      exact List.mem_of_getElem? hz
  have h1 := List.all_eq_true.mp h _ hm
  rcases hk with rfl | rfl | rfl <;> exact of_decide_eq_true h1
theorem dfld_ok {o x ci k : Nat} (h : dfld o x = some (ci, k)) : ci < 6 ∧ k < dnf ci ∧ Cond.fieldLink (don o) x (dTX ci k).1 (dTX ci k).2.1 (dTX ci k).2.2.1 ∈ dWd := by
  unfold dfld at h
  cases hf : dfl.find? (fun e => Nat.beq e.1 o && Nat.beq e.2.1 x) with
  | none => rw [hf] at h; cases h
  | some e =>
    rw [hf] at h
    have h1 := List.find?_some hf
    have h2 := List.mem_of_find?_eq_some hf
    have h3 := List.all_eq_true.mp dfl_ok e h2
    obtain ⟨e1, e2, e3, e4, e5⟩ := e
    simp only [Option.map_some, Option.some.injEq, Prod.mk.injEq] at h
    obtain ⟨rfl, rfl⟩ := h
    simp only [Bool.and_eq_true] at h1
    have ho : e1 = o := Nat.eq_of_beq_eq_true h1.1
    have hx : e2 = x := Nat.eq_of_beq_eq_true h1.2
    subst ho
    subst hx
    simp only [dflOK, Bool.and_eq_true, decide_eq_true_eq] at h3
    obtain ⟨⟨h3, h4⟩, h5⟩ := h3
    exact ⟨h5, h4, dWd_of h3 rfl⟩
theorem dcal_ok {o x mid n kd : Nat} (h : dcal o x = some (mid, n, kd)) : ∃ q : DM, dms[mid]? = some q ∧ (q.1.cls ≠ "java/lang/invoke/MethodHandle" ∧ q.1.cls ≠ "java/lang/invoke/VarHandle" ∧ (parseMethodDescriptor q.1.desc).map (fun d => d.parameters.length) = some n) ∧ Cond.initialized q.1.cls ∈ dWd ∧ Cond.code q.1 q.2.1 q.2.2.1 q.2.2.2.1 ∈ dWd ∧
    (kd = 0 → Cond.methodLink (don o) x q.1 ∈ dWd ∧ Cond.instanceMethod q.1 ∈ dWd ∧ Cond.selects q.1.cls q.1 q.1 ∈ dWd) ∧ (kd = 1 → Cond.methodLink (don o) x q.1 ∈ dWd ∧ Cond.static q.1 ∈ dWd) ∧ (kd ≠ 0 → kd ≠ 1 → Cond.methodLinkNest (don o) x q.1 "DiskDrawer" ∈ dNest ∧ Cond.static q.1 ∈ dWd) := by
  unfold dcal at h
  cases hf : dcl.find? (fun e => Nat.beq e.1 o && Nat.beq e.2.1 x) with
  | none => rw [hf] at h; cases h
  | some e =>
    rw [hf] at h
    have h1 := List.find?_some hf
    have h2 := List.mem_of_find?_eq_some hf
    have h3 := dcl_ok e h2
    obtain ⟨e1, e2, e3, e4, e5, p0, p1, p2, p3, p4⟩ := e
    simp only [Option.map_some, Option.some.injEq, Prod.mk.injEq] at h
    obtain ⟨rfl, rfl, rfl⟩ := h
    simp only [Bool.and_eq_true] at h1
    have ho : e1 = o := Nat.eq_of_beq_eq_true h1.1
    have hx : e2 = x := Nat.eq_of_beq_eq_true h1.2
    subst ho
    subst hx
    unfold dclOK at h3
    dsimp only at h3
    cases hq : dms[e3]? with
    | none => rw [hq] at h3; cases h3
    | some q =>
      rw [hq] at h3
      dsimp only at h3
      rw [Bool.and_eq_true, Bool.and_eq_true, Bool.and_eq_true] at h3
      obtain ⟨⟨⟨g1, g2⟩, g3⟩, g4⟩ := h3
      refine ⟨q, rfl, of_decide_eq_true g1, dWd_of (of_decide_eq_true g2) rfl, dWd_of (of_decide_eq_true g3) rfl, ?_, ?_, ?_⟩
      · rintro rfl
        simp only [Bool.and_eq_true, decide_eq_true_eq] at g4
        exact ⟨dWd_of g4.1.1 rfl, dWd_of g4.1.2 rfl, dWd_of g4.2 rfl⟩
      · rintro rfl
        simp only [Bool.and_eq_true, decide_eq_true_eq] at g4
        exact ⟨dWd_of g4.1 rfl, dWd_of g4.2 rfl⟩
      · intro z0 z1
        split at g4
        · exact absurd rfl z0
        · exact absurd rfl z1
        · rw [Bool.and_eq_true] at g4
          exact ⟨List.mem_filter.mpr ⟨List.mem_of_getElem? (of_decide_eq_true g4.1), rfl⟩, dWd_of (of_decide_eq_true g4.2) rfl⟩
theorem dno99 : dms.all (fun q => decide (q.2.2.2.2.1 ≠ 99)) = true := by decide +kernel
def drm (d : Nat) : Room := { frames := d, cells := 0, slots := 0, locals := 40 * d }
def dPre (D : va_G) (ad : DKey → Nat) (ca : Nat → ClassId) (fm : Value) (xs : Nat → Int32) (SL : Nat) (as : List DV) (h : DH) : Array Value → State → Prop := va_Pc (as.map (dval ad fm)) (fun U => (∀ v ∈ as, okV ad v = true) ∧ dEnv D ad ca fm xs SL (dAm ad) U ∧ dSim D ad ca xs SL h U.heap)
def dPost (D : va_G) (ad : DKey → Nat) (ca : Nat → ClassId) (fm : Value) (xs : Nat → Int32) (SL : Nat) (r : DRes) : Array Value → State → Outcome → State → Prop := fun _ st oc t => oc = .returned (r.1.map (dval ad fm)) ∧ (∀ v, r.1 = some v → okV ad v = true) ∧ dSim D ad ca xs SL r.2 t.heap ∧ va_F (dAm ad) st t
def dMet (l : Launch) (D : va_G) (ad : DKey → Nat) (ca : Nat → ClassId) (fm : Value) (xs : Nat → Int32) (SL : Nat) (d : Nat) (q : DM) (as : List DV) (h : DH) (r : DRes) : Prop := Met l q.1 (Cond.code q.1 q.2.1 q.2.2.1 q.2.2.2.1 :: dWd) (drm d) (dPre D ad ca fm xs SL as h) (dPost D ad ca fm xs SL r) 0 0 (dAm ad)
theorem dPre_blind {D : va_G} {ad : DKey → Nat} {ca : Nat → ClassId} {fm : Value} {xs : Nat → Int32} {SL : Nat} {as : List DV} {h : DH} : FrameBlind (dPre D ad ca fm xs SL as h) := fun _ U _ _ q => ⟨q.1, q.2.1, dEnv.same (u := U) rfl rfl q.2.2.1, q.2.2.2⟩
section DCAL
variable {p : Program} {l : Launch} {e : Env} {R : Room} {s : State} {m : MethodId} {args : Array Value} {below : List Frame} {meth : Method} {c : Code} {H : Heap} {locs : List Loc} {cells slots : Nat} {Q : State → Prop}
variable {cc : ByteArray} {pc : Nat} {ls : Array Slot} {Ts : List Cond} {o x nL d mid n : Nat}
variable {D : va_G} {ad : DKey → Nat} {ca : Nat → ClassId} {fm : Value} {xs : Nat → Int32} {SL : Nat} {A : Nat → Prop} {h : DH} {r : DRes}
theorem dEnv_at (hE : dEnv D ad ca fm xs SL A s) (hAm : ∀ q, dAm ad q → A q) (hS0 : va_S A s.heap H locs) {U : State} (hU : U.heap = H) (hW : s.WarmedH U.vm) : dEnv D ad ca fm xs SL (dAm ad) U :=
  (dEnv.warm hW (by rw [hU]; exact hS0.1) (fun a h1 h2 => by rw [hU]; exact hS0.2.1 a h1 h2) hE).narrow hAm
theorem dcat_rest (hf : dFm fm) (rest : List DV) (hl : rest.length ≤ 8) : ((rest.map (dval ad fm)).map fun v => v.category).sum ≤ 8 := by
  have : ∀ L : List DV, ((L.map (dval ad fm)).map fun v => v.category).sum = L.length := by
    intro L
    induction L with
    | nil => rfl
    | cons v L ih => simp only [List.map_cons, List.sum_cons, List.length_cons, ih, dval_cat hf]; omega
  rw [this]
  exact hl
theorem dGoodTs (hG : GoodIn Ts dWd) {w : Cond} (hw : w ∈ dWd) : GoodIn Ts (w :: dWd) := fun z hz => by
  rcases List.mem_cons.mp hz with rfl | hz
  · exact hG _ hw
  · exact hG _ hz
theorem do_callv (hx : p.tables.exec = Jvm.exec) (hb : c.code = cc) (hml : c.maxLocals = nL) (hown : s.vm.findClass (don o) = some m.cls) (hts : ∀ w ∈ Ts, w.before args s = true) (hG : GoodIn Ts dWd) (hE : dEnv D ad ca fm xs SL A s) (hAm : ∀ q, dAm ad q → A q) (hf : dFm fm) (hls : ls.size = nL) (hS : dSim D ad ca xs SL h H) (hS0 : va_S A s.heap H locs)
    (hR : d + 1 ≤ R.frames ∧ 40 * d + 40 ≤ R.locals ∧ cells ≤ R.cells ∧ slots ≤ R.slots) {q : DM} {κ : DKey} {as rest st : List DV} (hq : dms[mid]? = some q) (hM : dMet l D ad ca fm xs SL d q (.inr κ :: as) h r) (hc : dcal o x = some (mid, n, 0)) (hp : dpop (n + 1) st [] = some (.inr κ :: as, rest)) (hci : dcls κ.1 = q.2.2.2.2.1) (hlen : rest.length ≤ 8) (hokas : ∀ v ∈ (Sum.inr κ :: as : List DV), okV ad v = true) (hdg : decode cc pc = .ok (.invokevirtual x, 3))
    (kk : ∀ (H1 : Heap) (locs1 : List Loc), (∀ v, r.1 = some v → okV ad v = true) → dSim D ad ca xs SL r.2 H1 → va_S A s.heap H1 locs1 → W p l e R s m args below meth c H1 locs1 cells slots Q (F0 m (pc + 3) ls ((r.1.map (dval ad fm)).toList ++ rest.map (dval ad fm)))) : W p l e R s m args below meth c H locs cells slots Q (F0 m pc ls (st.map (dval ad fm))) := by
  obtain ⟨q', hq', hd, hini, hcode, hv, -, -⟩ := dcal_ok hc
  cases hq.symm.trans hq'
  obtain ⟨hlk, hin, hse⟩ := hv rfl
  have hgood := dgs q (List.mem_of_getElem? hq)
  obtain ⟨-, ⟨hmax, -⟩, hcls, -⟩ := hgood
  obtain ⟨pre, h1, h2, h3⟩ := dpop_spec _ _ _ _ _ hp
  rw [List.append_nil] at h1
  subst h1
  have ok : ∀ {w : Cond}, w ∈ dWd → w.before args s = true := fun hw => hts _ (hG _ hw).1
  have hne : dcls κ.1 ≠ 99 := by
    intro z
    rw [z] at hci
    have := List.all_eq_true.mp dno99 q (List.mem_of_getElem? hq)
    rw [← hci] at this
    exact absurd this (by decide)
  have hκ33 : κ.1 ≠ 33 := fun z => hne (by rw [z]; rfl)
  have hok : okK ad κ = true := by
    have := hokas _ List.mem_cons_self
    obtain ⟨kd, w, j⟩ := κ
    simp only [okV, Bool.or_eq_true] at this
    rcases this with h | h
    · exact h
    · exfalso
      have h31 : kd = 32 ∨ kd = 34 := by
        simp only [Bool.and_eq_true, Bool.or_eq_true, decide_eq_true_eq] at h
        omega
      exact hne (by rcases h31 with rfl | rfl <;> rfl)
  have h7 : dcls κ.1 < 6 := by
    unfold dcls at hne ⊢
    split at hne <;> first | decide | exact absurd rfl hne
  have hrecv : ∃ cell : Cell, H[ad κ]? = some cell ∧ cell.vm.isStatics = false ∧ s.vm.findClass q.1.cls = some cell.cls := by
    have hP := do_P hS hok
    rw [dent_obj rfl h7] at hP
    have := va_recv hE.1 hP (dcl_at h7) (q0 := 0) rfl
    rw [hcls, ← hci]
    exact this
  have hvl : dval ad fm (.inr κ) = .ref (ad κ) := dval_ok hκ33
  refine do_ret (QQ := dPost D ad ca fm xs SL r) rfl (va_runV (As := as.map (dval ad fm)) (rest := rest.map (dval ad fm)) (own := don o) (C := q.1.cls) (b := ad κ) (nL := nL) (n := n) (ws := Cond.code q.1 q.2.1 q.2.2.1 q.2.2.2.1 :: dWd) (rm := drm d) (Qc := dPost D ad ca fm xs SL r) ⟨hx, hb, hml, hown, hts⟩ hM ⟨callB_of (ws' := dWd) n hts (dGoodTs hG hcode) rfl rfl rfl (ok hini) (ok hlk) hd ⟨hR.1, ?_⟩, ok hin, ok hse⟩ ⟨dPre_blind, hrecv, fun U hU hW => ⟨?_, hokas, dEnv_at hE hAm hS0 hU hW, by rw [hU]; exact hS⟩⟩ rfl ?_ hls ?_ ?_ hdg ⟨by omega, by omega⟩) hS0 hAm kk
  · show 8 + (q.2.2.1 + 11) + 40 * d ≤ R.locals
    have := hR.2.1
    omega
  · simp [hvl]
  · have : as.length + 1 = n + 1 := by simpa using h3
    simp; omega
  · show st.map (dval ad fm) = _
    rw [h2]
    simp [hvl]
  · show 2 * 0 + _ ≤ 8
    have := dcat_rest (ad := ad) hf rest hlen
    omega
theorem do_calls (hx : p.tables.exec = Jvm.exec) (hb : c.code = cc) (hml : c.maxLocals = nL) (hown : s.vm.findClass (don o) = some m.cls) (hts : ∀ w ∈ Ts, w.before args s = true) (hG : GoodIn Ts dWd) (hE : dEnv D ad ca fm xs SL A s) (hAm : ∀ q, dAm ad q → A q) (hf : dFm fm) (hls : ls.size = nL) (hS : dSim D ad ca xs SL h H) (hS0 : va_S A s.heap H locs)
    (hR : d + 1 ≤ R.frames ∧ 40 * d + 40 ≤ R.locals ∧ cells ≤ R.cells ∧ slots ≤ R.slots) {q : DM} {kd : Nat} {as rest st : List DV} (hq : dms[mid]? = some q) (hM : dMet l D ad ca fm xs SL d q as h r) (hc : dcal o x = some (mid, n, kd)) (hkd : kd ≠ 0) (hp : dpop n st [] = some (as, rest)) (hlen : rest.length ≤ 8) (hokas : ∀ v ∈ as, okV ad v = true) (hdg : decode cc pc = .ok (.invokestatic x, 3))
    (kk : ∀ (H1 : Heap) (locs1 : List Loc), (∀ v, r.1 = some v → okV ad v = true) → dSim D ad ca xs SL r.2 H1 → va_S A s.heap H1 locs1 → W p l e R s m args below meth c H1 locs1 cells slots Q (F0 m (pc + 3) ls ((r.1.map (dval ad fm)).toList ++ rest.map (dval ad fm)))) : W p l e R s m args below meth c H locs cells slots Q (F0 m pc ls (st.map (dval ad fm))) := by
  obtain ⟨q', hq', hd, hini, hcode, -, hs1, hs2⟩ := dcal_ok hc
  cases hq.symm.trans hq'
  obtain ⟨-, ⟨hmax, -⟩, hcls, -⟩ := dgs q (List.mem_of_getElem? hq)
  obtain ⟨pre, h1, h2, h3⟩ := dpop_spec _ _ _ _ _ hp
  rw [List.append_nil] at h1
  subst h1
  have ok : ∀ {w : Cond}, w ∈ dWd → w.before args s = true := fun hw => hts _ (hG _ hw).1
  have hloc : 8 + (q.2.2.1 + 11) + 40 * d ≤ R.locals := by
    have := hR.2.1
    omega
  have hpre : PreS s H (dPre D ad ca fm xs SL as h) (as.map (dval ad fm)) := ⟨dPre_blind, fun U hU hW => ⟨rfl, hokas, dEnv_at hE hAm hS0 hU hW, by rw [hU]; exact hS⟩⟩
  have hst : st.map (dval ad fm) = (as.map (dval ad fm)).reverse ++ rest.map (dval ad fm) := by
    rw [h2]
    simp
  have hroom : 2 * (F0 m pc ls (st.map (dval ad fm))).monitorRoom + ((rest.map (dval ad fm)).map fun v => v.category).sum ≤ 8 := by
    show 2 * 0 + _ ≤ 8
    have := dcat_rest (ad := ad) hf rest hlen
    omega
  by_cases h1 : kd = 1
  · obtain ⟨hlk, hstt⟩ := hs1 h1
    exact do_ret (QQ := dPost D ad ca fm xs SL r) rfl (va_runS (As := as.map (dval ad fm)) (rest := rest.map (dval ad fm)) (own := don o) (nL := nL) (n := n) (ws := Cond.code q.1 q.2.1 q.2.2.1 q.2.2.2.1 :: dWd) (rm := drm d) (Qc := dPost D ad ca fm xs SL r) ⟨hx, hb, hml, hown, hts⟩ hM ⟨callB_of (ws' := dWd) n hts (dGoodTs hG hcode) rfl rfl rfl (ok hini) (ok hlk) hd ⟨hR.1, hloc⟩, ok hstt⟩ hpre rfl (by simpa using h3) hls hst hroom hdg ⟨by omega, by omega⟩) hS0 hAm kk
  · obtain ⟨hlk, hstt⟩ := hs2 hkd h1
    exact do_ret (QQ := dPost D ad ca fm xs SL r) rfl (va_runSN (As := as.map (dval ad fm)) (rest := rest.map (dval ad fm)) (own := don o) (host := "DiskDrawer") (nL := nL) (n := n) (ws := Cond.code q.1 q.2.1 q.2.2.1 q.2.2.2.1 :: dWd) (rm := drm d) (Qc := dPost D ad ca fm xs SL r) ⟨hx, hb, hml, hown, hts⟩ hM ⟨va_cnB (ws' := dWd) n hts (dGoodTs hG hcode) rfl rfl rfl (hE.2.1 _ hlk) (ok hini) hd ⟨hR.1, hloc⟩, ok hstt, trivial⟩ hpre rfl (by simpa using h3) hls hst hroom hdg ⟨by omega, by omega⟩) hS0 hAm kk
end DCAL
end
section
/-! the whole run of a table -/
variable {ad : DKey → Nat}
theorem dref_okV {κ : DKey} {k : Nat} {w : DV} (hκ : okV ad (.inr κ) = true) (h : dref κ k = some w) : okV ad w = true := by
  obtain ⟨kd, i, j⟩ := κ
  unfold dref at h
  dsimp only at h
  split at h
  · cases h
  · rename_i t m e
    unfold drefT at e
    split at e <;> cases e <;> cases h <;> first | rfl | (simp [okV, okK] at hκ ⊢; omega)
theorem dval_ref {ad : DKey → Nat} {fm : Value} (hf : dFm fm) (κ : DKey) : dval ad fm (.inr κ) = .null ∨ ∃ a, dval ad fm (.inr κ) = .ref a := by
  unfold dval
  dsimp only
  split
  · exact hf
  · exact Or.inr ⟨_, rfl⟩
theorem dtgt_ok {pc t : Nat} {off : Int} (h : dtgt pc off = some t) : (pc : Int) + off = (t : Int) := by
  unfold dtgt at h
  split at h
  · cases h; omega
  · cases h
def dOkL (ad : DKey → Nat) (L : List (Option DV)) : Prop := ∀ k v, dget L k = some v → okV ad v = true
theorem dOkL.set {L : List (Option DV)} (h : dOkL ad L) {i : Nat} {v : DV} (hi : i < L.length) (hv : okV ad v = true) : dOkL ad (dset L i v) := by
  intro k w hk
  rw [dget_set L i k v hi] at hk
  split at hk
  · cases hk; exact hv
  · exact h k w hk
theorem dok_cons {v : DV} {st : List DV} (hv : okV ad v = true) (h : ∀ w ∈ st, okV ad w = true) : ∀ w ∈ v :: st, okV ad w = true := List.forall_mem_cons.mpr ⟨hv, h⟩
theorem dtgts_len {pc : Nat} : ∀ {os : List Int} {ts : List Nat}, dtgts pc os = some ts → os.length = ts.length
  | [], ts, h => by cases h; rfl
  | o :: os, ts, h => by
    simp only [dtgts] at h
    split at h
    · rename_i t ts' e1 e2
      cases h
      simp [dtgts_len e2]
    · cases h
theorem dtgts_at {pc : Nat} : ∀ {os : List Int} {ts : List Nat}, dtgts pc os = some ts → ∀ (j : Nat) (t : Nat), ts[j]? = some t → ∃ off, os[j]? = some off ∧ (pc : Int) + off = (t : Int)
  | [], ts, h, j, t, hj => by cases h; cases hj
  | o :: os, ts, h, j, t, hj => by
    simp only [dtgts] at h
    split at h
    · rename_i t0 ts' e1 e2
      cases h
      cases j with
      | zero => cases hj; exact ⟨o, rfl, dtgt_ok e1⟩
      | succ j => exact dtgts_at e2 j t hj
    · cases h
theorem dtsw_out {d : Nat} {x : Int32} : ∀ (ts : List Nat) (lo : Nat), lo + ts.length < 2000 → (x.toInt < lo ∨ (lo : Int) + ts.length ≤ x.toInt) → dtsw d (Int32.ofNat lo) ts x = d := by
  intro ts
  induction ts with
  | nil => intro lo _ _; rfl
  | cons t ts ih =>
    intro lo hl hx
    simp only [List.length_cons] at hl hx
    have hne : ¬ x = Int32.ofNat lo := by
      intro z
      have : x.toInt = lo := by rw [z]; exact nI_toInt (n := lo) (by omega)
      omega
    show (if x = Int32.ofNat lo then t else dtsw d (Int32.ofNat lo + 1) ts x) = d
    rw [if_neg hne, show Int32.ofNat lo + 1 = Int32.ofNat (lo + 1) from nI_1 lo]
    exact ih (lo + 1) (by omega) (by omega)
theorem dtsw_in {d : Nat} {x : Int32} : ∀ (ts : List Nat) (lo : Nat), lo + ts.length < 2000 → (lo : Int) ≤ x.toInt → x.toInt < (lo : Int) + ts.length → ts[(x.toInt - lo).toNat]? = some (dtsw d (Int32.ofNat lo) ts x) := by
  intro ts
  induction ts with
  | nil => intro lo _ h1 h2; simp at h2; omega
  | cons t ts ih =>
    intro lo hl h1 h2
    simp only [List.length_cons] at hl h2
    show _ = some (if x = Int32.ofNat lo then t else dtsw d (Int32.ofNat lo + 1) ts x)
    by_cases hz : x = Int32.ofNat lo
    · have : x.toInt = lo := by rw [hz]; exact nI_toInt (n := lo) (by omega)
      rw [if_pos hz, this]
      simp
    · have hne : x.toInt ≠ lo := by
        intro z
        refine hz (Int32.toInt_inj.mp (z.trans ?_))
        exact (nI_toInt (n := lo) (by omega)).symm
      rw [if_neg hz, show Int32.ofNat lo + 1 = Int32.ofNat (lo + 1) from nI_1 lo]
      have := ih (lo + 1) (by omega) (by omega) (by omega)
      rw [show (x.toInt - (lo : Int)).toNat = (x.toInt - ((lo + 1 : Nat) : Int)).toNat + 1 from by omega, List.getElem?_cons_succ]
      exact this
theorem dofInt {n : Int} (h0 : 0 ≤ n) : Int32.ofInt n = Int32.ofNat n.toNat := by
  obtain ⟨k, rfl⟩ := Int.eq_ofNat_of_zero_le h0
  rfl
theorem denc_34 {o : Nat} {rt : Option FieldType} {pc len mid n nx ci : Nat} {v : Int32} {i : Instr} (h : denc o rt pc i len = some (34, mid, n, nx, v, [ci])) : ∃ x, (i = .invokevirtual x ∧ len = 3) ∧ nx = pc + 3 ∧ dcal o x = some (mid, n, 0) ∧ ∃ q : DM, dms[mid]? = some q ∧ q.2.2.2.2.1 = ci := by
  unfold denc at h
  split at h
  all_goals first
    | (cases h; done)
    | (split at h
       · rename_i x _ _ _ e
         split at h
         · rename_i q e2
           cases h
           exact ⟨_, ⟨rfl, rfl⟩, rfl, e, q, e2, rfl⟩
         · cases h
       · cases h)
    | (exfalso; unfold dldc at h; split at h <;> cases h)
    | (exfalso; unfold dgst at h; split at h <;> cases h)
    | (exfalso; simp only [cond] at h; repeat' split at h
       all_goals cases h)
    | (exfalso; repeat' split at h
       all_goals first | (cases h; done) | (simp only [cond] at h; split at h <;> cases h))
theorem denc_35 {o : Nat} {rt : Option FieldType} {pc len mid n nx : Nat} {v : Int32} {l : List Nat} {i : Instr} (h : denc o rt pc i len = some (35, mid, n, nx, v, l)) : ∃ x kd, (i = .invokestatic x ∧ len = 3) ∧ nx = pc + 3 ∧ dcal o x = some (mid, n, kd) ∧ kd ≠ 0 := by
  unfold denc at h
  split at h
  all_goals first
    | (cases h; done)
    | (exfalso; unfold dldc at h; split at h <;> cases h)
    | (exfalso; unfold dgst at h; split at h <;> cases h)
    | (rename_i x
       cases hmx : (Nat.beq o 0 && Nat.beq x 183) with
       | true => rw [hmx] at h; cases h
       | false =>
         rw [hmx] at h
         dsimp only [cond] at h
         split at h
         · cases h
         · rename_i hne e
           cases h
           exact ⟨x, _, ⟨rfl, rfl⟩, rfl, e, hne⟩
         · cases h)
    | (exfalso; simp only [cond] at h; repeat' split at h
       all_goals cases h)
    | (exfalso; repeat' split at h
       all_goals first | (cases h; done) | (simp only [cond] at h; split at h <;> cases h))
section DSND
variable {p : Program} {l : Launch} {e : Env} {R : Room} {s : State} {m : MethodId} {args : Array Value} {below : List Frame} {meth : Method} {c : Code} {cells slots : Nat} {Q : State → Prop}
variable {cc : ByteArray} {Ts : List Cond} {o nL d : Nat} {T : DTbl} {rt : Option FieldType}
variable {D : va_G} {ad : DKey → Nat} {ca : Nat → ClassId} {fm : Value} {xs : Nat → Int32} {SL : Nat} {A : Nat → Prop} {K : DS → Prop}
set_option maxHeartbeats 4000000 in
set_option maxRecDepth 10000 in
theorem d_sound (hx : p.tables.exec = Jvm.exec) (hb : c.code = cc) (hml : c.maxLocals = nL) (hown : s.vm.findClass (don o) = some m.cls) (hts : ∀ w ∈ Ts, w.before args s = true) (hG : GoodIn Ts dWd) (hE : dEnv D ad ca fm xs SL A s) (hA : ∀ κ, okK ad κ = true → A (ad κ)) (hi : dInj ad) (hf : dFm fm)
    (hR : d + 1 ≤ R.frames ∧ 40 * d + 40 ≤ R.locals ∧ cells ≤ R.cells ∧ slots ≤ R.slots) (hT : dchk o rt cc T = true) (hT2 : dchk2 T nL = true)
    (hcal : ∀ (mid : Nat) (as : List DV) (h : DH) (r : DRes) (q : DM), dEx d mid as h r → dms[mid]? = some q → dMet l D ad ca fm xs SL d q as h r)
    (hfin : ∀ (pc : Nat) (L : List (Option DV)) (st : List DV) (h : DH) (H : Heap) (locs : List Loc) (ls : Array Slot), K (pc, L, st, h) → L.length = nL → dOkL ad L → (∀ v ∈ st, okV ad v = true) → dLoc ad fm L nL ls → dSim D ad ca xs SL h H → va_S A s.heap H locs → W p l e R s m args below meth c H locs cells slots Q (F0 m pc ls (st.map (dval ad fm)))) :
    ∀ (n pc : Nat) (L : List (Option DV)) (st : List DV) (h : DH), dRunK T (dEx d) K n (pc, L, st, h) → ∀ (H : Heap) (locs : List Loc) (ls : Array Slot), L.length = nL → dOkL ad L → (∀ v ∈ st, okV ad v = true) → dLoc ad fm L nL ls → dSim D ad ca xs SL h H → va_S A s.heap H locs → W p l e R s m args below meth c H locs cells slots Q (F0 m pc ls (st.map (dval ad fm))) := by
  have hAm : ∀ q, dAm ad q → A q := fun q ⟨κ, h1, h2⟩ => h2 ▸ hA κ h1
  intro n
  induction n with
  | zero => intro pc L st h hr; cases hr
  | succ n ih =>
    intro pc L st h hr H locs ls hl1 hl2 hst hls hS hS0
    rcases hr with ⟨P, B, hs, hP, hn⟩ | ⟨mid, as, nx, L', st', v, h1, hc, hm, hn⟩ | hKK
    · cases hop : dop T pc with
      | none => rw [dstep, hop] at hs; cases hs
      | some op =>
      obtain ⟨i, len, hd, he⟩ := dchk_at hT hop
      unfold denc at he
      split at he
      · cases he
        rw [dstep, hop] at hs
        cases hs
        exact lv_iconst hx hb hd rfl (ih _ _ _ _ hn H locs ls hl1 hl2 (dok_cons rfl hst) hls hS hS0)
      · cases he
        rw [dstep, hop] at hs
        cases hs
        exact lv_bipush hx hb hd rfl (ih _ _ _ _ hn H locs ls hl1 hl2 (dok_cons rfl hst) hls hS hS0)
      · cases he
        rw [dstep, hop] at hs
        cases hs
        exact lv_sipush hx hb hd rfl (ih _ _ _ _ hn H locs ls hl1 hl2 (dok_cons rfl hst) hls hS hS0)
      · rename_i x
        unfold dldc at he
        split at he <;> cases he
        · rw [dstep, hop] at hs
          cases hs
          exact lv_ldc hx hb hown (hts _ (hG _ (dWd_of (w := .constant "DiskDrawer$State" 129 99999) (i := 376) (by decide +kernel) rfl)).1) hd (ih _ _ _ _ hn H locs ls hl1 hl2 (dok_cons rfl hst) hls hS hS0)
        · rw [dstep, hop] at hs
          cases hs
          exact lv_ldc hx hb hown (hts _ (hG _ (dWd_of (w := .constant "DiskDrawerLaw" 7 2147483647) (i := 228) (by decide +kernel) rfl)).1) hd (ih _ _ _ _ hn H locs ls hl1 hl2 (dok_cons rfl hst) hls hS hS0)
        · rw [dstep, hop] at hs
          cases hs
          exact lv_ldc hx hb hown (hts _ (hG _ (dWd_of (w := .constant "DiskDrawerLaw" 61 99000) (i := 468) (by decide +kernel) rfl)).1) hd (ih _ _ _ _ hn H locs ls hl1 hl2 (dok_cons rfl hst) hls hS hS0)
      · cases he
        simp only [dstep, hop] at hs
        split at hs
        · rename_i x hg
          cases hs
          exact lv_iload_n hx hb hd rfl (hls.get hg) (ih _ _ _ _ hn H locs ls hl1 hl2 (dok_cons rfl hst) hls hS hS0)
        · cases hs
      · cases he
        simp only [dstep, hop] at hs
        split at hs
        · rename_i x hg
          cases hs
          exact lv_iload hx hb hd (hls.get hg) (ih _ _ _ _ hn H locs ls hl1 hl2 (dok_cons rfl hst) hls hS hS0)
        · cases hs
      · cases he
        simp only [dstep, hop] at hs
        split at hs
        · rename_i κ hg
          cases hs
          have hk := ih _ _ _ _ hn H locs ls hl1 hl2 (dok_cons (hl2 _ _ hg) hst) hls hS hS0
          have hq := hls.get hg
          rw [List.map_cons] at hk
          rcases dval_ref (ad := ad) hf κ with z | ⟨a, z⟩
          · rw [z] at hk hq
            exact lv_aload_nN hx hb hd rfl hq hk
          · rw [z] at hk hq
            exact lv_aload_n hx hb hd rfl hq hk
        · cases hs
      · cases he
        simp only [dstep, hop] at hs
        split at hs
        · rename_i κ hg
          cases hs
          have hk := ih _ _ _ _ hn H locs ls hl1 hl2 (dok_cons (hl2 _ _ hg) hst) hls hS hS0
          have hq := hls.get hg
          rw [List.map_cons] at hk
          rcases dval_ref (ad := ad) hf κ with z | ⟨a, z⟩
          · rw [z] at hk hq
            exact lv_aloadN hx hb hd hq hk
          · rw [z] at hk hq
            exact lv_aload hx hb hd hq hk
        · cases hs
      · cases he
        have ha := dchk2_at hT2 hop (by decide)
        simp only [dstep, hop] at hs
        split at hs
        · rename_i x st
          rw [dsetK_eq] at hs
          cases hs
          exact lv_istore_n hx hb hd rfl hls ha rfl (fun ls' hl' => ih _ _ _ _ hn H locs ls' (by rw [dset_len]; exact hl1) (hl2.set (by omega) rfl) (fun v hv => hst v (List.mem_cons_of_mem _ hv)) (dLoc.put hf (by omega) hl') hS hS0)
        · cases hs
      · cases he
        have ha := dchk2_at hT2 hop (by decide)
        simp only [dstep, hop] at hs
        split at hs
        · rename_i x st
          rw [dsetK_eq] at hs
          cases hs
          exact lv_istore hx hb hd hls ha rfl (fun ls' hl' => ih _ _ _ _ hn H locs ls' (by rw [dset_len]; exact hl1) (hl2.set (by omega) rfl) (fun v hv => hst v (List.mem_cons_of_mem _ hv)) (dLoc.put hf (by omega) hl') hS hS0)
        · cases hs
      · cases he
        have ha := dchk2_at hT2 hop (by decide)
        simp only [dstep, hop] at hs
        split at hs
        · rename_i κ st
          rw [dsetK_eq] at hs
          cases hs
          have hk := fun (ls' : Array Slot) (hl' : lv_has ls' nL _) => ih _ _ _ _ hn H locs ls' (by rw [dset_len]; exact hl1) (hl2.set (by omega) (hst _ List.mem_cons_self)) (fun v hv => hst v (List.mem_cons_of_mem _ hv)) (dLoc.put hf (by omega) hl') hS hS0
          rw [List.map_cons]
          rcases dval_ref (ad := ad) hf κ with z | ⟨a, z⟩
          · rw [z] at hk ⊢
            exact lv_astore_nN hx hb hd rfl hls ha rfl hk
          · rw [z] at hk ⊢
            exact lv_astore_n hx hb hd rfl hls ha rfl hk
        · cases hs
      · cases he
        have ha := dchk2_at hT2 hop (by decide)
        simp only [dstep, hop] at hs
        split at hs
        · rename_i κ st
          rw [dsetK_eq] at hs
          cases hs
          have hk := fun (ls' : Array Slot) (hl' : lv_has ls' nL _) => ih _ _ _ _ hn H locs ls' (by rw [dset_len]; exact hl1) (hl2.set (by omega) (hst _ List.mem_cons_self)) (fun v hv => hst v (List.mem_cons_of_mem _ hv)) (dLoc.put hf (by omega) hl') hS hS0
          rw [List.map_cons]
          rcases dval_ref (ad := ad) hf κ with z | ⟨a, z⟩
          · rw [z] at hk ⊢
            exact lv_astoreN hx hb hd hls ha rfl hk
          · rw [z] at hk ⊢
            exact lv_astore hx hb hd hls ha rfl hk
        · cases hs
      · split at he
        · rename_i x ci k hfl
          cases he
          simp only [dstep, hop] at hs
          split at hs
          · rename_i κ st
            split at hs
            · rename_i w hw
              cases hs
              have hκV := hst _ List.mem_cons_self
              have hst' : ∀ v ∈ st, okV ad v = true := fun v hv => hst v (List.mem_cons_of_mem _ hv)
              have hwV : okV ad w = true := by
                unfold dgetf at hw
                cases hbq : Nat.beq (dcls κ.1) ci with
                | false => rw [hbq] at hw; cases hw
                | true =>
                  rw [hbq] at hw
                  dsimp only [cond] at hw
                  cases hr : dref κ k with
                  | none => rw [hr] at hw; cases hw; rfl
                  | some z => rw [hr] at hw; cases hw; exact dref_okV hκV hr
              have kk := ih _ _ _ _ hn H locs ls hl1 hl2 (dok_cons hwV hst') hls hS hS0
              have hcc : dcls κ.1 = ci := by
                unfold dgetf at hw
                cases hbq : Nat.beq (dcls κ.1) ci with
                | false => rw [hbq] at hw; cases hw
                | true => exact Nat.eq_of_beq_eq_true hbq
              obtain ⟨h7, hkn, hlk⟩ := dfld_ok hfl
              have hκ : okK ad κ = true := by
                obtain ⟨kd, i0, j0⟩ := κ
                simp only [okV, Bool.or_eq_true] at hκV
                rcases hκV with z | z
                · exact z
                · exfalso
                  simp only [Bool.and_eq_true, Bool.or_eq_true, decide_eq_true_eq] at z
                  have : dcls kd = 99 := by
                    rcases z.2 with z | z <;> rw [z.1] <;> rfl
                  dsimp only at hcc
                  omega
              rw [List.map_cons, dval_K hκ]
              exact do_get hx hb hts hG hown hE hS hκ hcc h7 hkn hlk hw hd kk
            · cases hs
          · cases hs
        · cases he
      · split at he
        · rename_i x ci k hfl
          have key : ∀ (y : Int32) (κ : DKey) (st2 : List DV), st = .inl y :: .inr κ :: st2 → dputf ci k κ = true → (dfz ci k = true → y = 0 ∨ y = 1) → dRunK T (dEx d) K n (pc + 3, L, st2, up1 h κ k y) → W p l e R s m args below meth c H locs cells slots Q (F0 m pc ls (st.map (dval ad fm))) := by
            rintro y κ st2 rfl hpf hz hn2
            have hst' : ∀ v ∈ st2, okV ad v = true := fun v hv => hst v (List.mem_cons_of_mem _ (List.mem_cons_of_mem _ hv))
            have hκV := hst _ (List.mem_cons_of_mem _ List.mem_cons_self)
            have h21 : κ.1 < 21 ∧ dcls κ.1 = ci := by
              simp only [dputf, Bool.and_eq_true] at hpf
              exact ⟨Nat.le_of_ble_eq_true hpf.1.2, Nat.eq_of_beq_eq_true hpf.1.1⟩
            have hκ : okK ad κ = true := by
              obtain ⟨kd, i0, j0⟩ := κ
              simp only [okV, Bool.or_eq_true] at hκV
              rcases hκV with z | z
              · exact z
              · exfalso
                simp only [Bool.and_eq_true, Bool.or_eq_true, decide_eq_true_eq] at z
                have := h21.1
                dsimp only at this
                omega
            rw [List.map_cons, List.map_cons, dval_K hκ]
            obtain ⟨h7, hkn, hlk⟩ := dfld_ok hfl
            exact do_put hx hb hts hG hown hE hA hi hS hS0 hκ hpf h7 hkn hlk hz hd (fun H1 locs1 hS1 hS2 => ih _ _ _ _ hn2 H1 locs1 ls hl1 hl2 hst' hls hS1 hS2)
          cases hz : dfz ci k with
          | true =>
            rw [hz] at he
            cases he
            simp only [dstep, hop] at hs
            split at hs
            · rename_i y κ st2
              cases hpf : dputf ci k κ with
              | false => rw [hpf] at hs; cases hs
              | true =>
                rw [hpf] at hs
                cases hs
                exact key y κ st2 rfl hpf (fun _ => hP) hn
            · cases hs
          | false =>
            rw [hz] at he
            cases he
            simp only [dstep, hop] at hs
            split at hs
            · rename_i y κ st2
              cases hpf : dputf ci k κ with
              | false => rw [hpf] at hs; cases hs
              | true =>
                rw [hpf] at hs
                cases hs
                exact key y κ st2 rfl hpf (fun z => by rw [hz] at z; cases z) hn
            · cases hs
        · cases he
      · rename_i x
        unfold dgst at he
        split at he <;> cases he
        · rw [dstep, hop] at hs
          cases hs
          exact va_gets hx hb (hE.2.2.1 1 (by decide)).1 hS0 hown (hts _ (hG _ (dWd_of (w := .fieldLink "DiskDrawer" 155 "DiskDrawer" "LOWEST" "[I") (i := 484) (by decide +kernel) rfl)).1) (fun _ z => z) hd (ih _ _ _ _ hn H locs ls hl1 hl2 (dok_cons rfl hst) hls hS hS0)
        · rw [dstep, hop] at hs
          cases hs
          exact va_gets hx hb (hE.2.2.1 2 (by decide)).1 hS0 hown (hts _ (hG _ (dWd_of (w := .fieldLink "DiskDrawer" 158 "DiskDrawer" "HIGHEST" "[I") (i := 485) (by decide +kernel) rfl)).1) (fun _ z => z) hd (ih _ _ _ _ hn H locs ls hl1 hl2 (dok_cons rfl hst) hls hS hS0)
        · rw [dstep, hop] at hs
          cases hs
          exact va_getsN hx hb (hE.2.2.1 1 (by decide)).1 hS0 hown (va_Nw.use rfl (hE.2.1 (.fieldLinkNest "DiskDrawer$State" 81 "DiskDrawer" "LOWEST" "[I" "DiskDrawer") (List.mem_filter.mpr ⟨List.mem_of_getElem? (i := 364) (by decide +kernel), rfl⟩))) (fun _ z => z) hd (ih _ _ _ _ hn H locs ls hl1 hl2 (dok_cons rfl hst) hls hS hS0)
        · rw [dstep, hop] at hs
          cases hs
          exact va_getsN hx hb (hE.2.2.1 2 (by decide)).1 hS0 hown (va_Nw.use rfl (hE.2.1 (.fieldLinkNest "DiskDrawer$State" 84 "DiskDrawer" "HIGHEST" "[I" "DiskDrawer") (List.mem_filter.mpr ⟨List.mem_of_getElem? (i := 366) (by decide +kernel), rfl⟩))) (fun _ z => z) hd (ih _ _ _ _ hn H locs ls hl1 hl2 (dok_cons rfl hst) hls hS hS0)
      · cases he
        simp only [dstep, hop] at hs
        split at hs
        · rename_i i κ st
          have hκV := hst _ (List.mem_cons_of_mem _ List.mem_cons_self)
          have hst' : ∀ v ∈ st, okV ad v = true := fun v hv => hst v (List.mem_cons_of_mem _ (List.mem_cons_of_mem _ hv))
          rw [List.map_cons, List.map_cons]
          split at hs
          · rename_i nn hda
            cases hs
            have hκ : okK ad κ = true := by
              obtain ⟨kd, i0, j0⟩ := κ
              simp only [okV, Bool.or_eq_true] at hκV
              rcases hκV with z | z
              · exact z
              · exfalso
                simp only [Bool.and_eq_true, Bool.or_eq_true, decide_eq_true_eq] at z
                rcases z.2 with z | z <;> rw [z.1] at hda <;> cases hda
            rw [dval_K hκ]
            exact do_iald hx hb hE hS hκ hda hP hd (ih _ _ _ _ hn H locs ls hl1 hl2 (dok_cons rfl hst') hls hS hS0)
          · rename_i nn hda
            cases hs
            obtain ⟨kd, i0, j0⟩ := κ
            unfold darr at hda
            split at hda <;> cases hda
            rename_i w j0 z
            cases z
            simp [okV, okK] at hκV
            obtain ⟨rfl, hw⟩ := hκV
            rw [dval_ok (show (32 : Nat) ≠ 33 by decide)]
            exact va_ti hx hb (hE.2.2.1 _ hw).2 hS0 hP rfl hd (ih _ _ _ _ hn H locs ls hl1 hl2 (dok_cons rfl hst') hls hS hS0)
          · rename_i nn hda
            cases hs
            obtain ⟨kd, i0, j0⟩ := κ
            unfold darr at hda
            split at hda <;> cases hda
            rename_i w j0 z
            cases z
            simp [okV, okK] at hκV
            obtain ⟨rfl, rfl⟩ := hκV
            rw [dval_ok (by decide)]
            have kk := ih _ _ _ _ hn H locs ls hl1 hl2 (dok_cons rfl hst') hls hS hS0
            have hP' : vp_in i SL := by rw [← hS.2.2.2.2]; exact hP
            rw [List.map_cons] at kk
            rw [hS.2.2.2.1] at kk
            exact va_sld hx hb hE.2.2.2.1 hE.2.2.2.2.1 hE.2.2.2.2.2 hS0 hP' hd kk
          · cases hs
        · cases hs
      · cases he
        simp only [dstep, hop] at hs
        split at hs
        · rename_i x i κ st
          have hκV := hst _ (List.mem_cons_of_mem _ (List.mem_cons_of_mem _ List.mem_cons_self))
          have hst' : ∀ v ∈ st, okV ad v = true := fun v hv => hst v (List.mem_cons_of_mem _ (List.mem_cons_of_mem _ (List.mem_cons_of_mem _ hv)))
          rw [List.map_cons, List.map_cons, List.map_cons]
          split at hs
          · rename_i nn hda
            cases hs
            have hκ : okK ad κ = true := by
              obtain ⟨kd, i0, j0⟩ := κ
              simp only [okV, Bool.or_eq_true] at hκV
              rcases hκV with z | z
              · exact z
              · exfalso
                simp only [Bool.and_eq_true, Bool.or_eq_true, decide_eq_true_eq] at z
                rcases z.2 with z | z <;> rw [z.1] at hda <;> cases hda
            rw [dval_K hκ]
            exact do_iast hx hb hE hA hi hS hS0 hκ hda hP hd (fun H1 locs1 hS1 hS2 => ih _ _ _ _ hn H1 locs1 ls hl1 hl2 hst' hls hS1 hS2)
          · cases hs
        · cases hs
      · cases he
        simp only [dstep, hop] at hs
        split at hs
        · rename_i i κ st
          have hκV := hst _ (List.mem_cons_of_mem _ List.mem_cons_self)
          have hst' : ∀ v ∈ st, okV ad v = true := fun v hv => hst v (List.mem_cons_of_mem _ (List.mem_cons_of_mem _ hv))
          rw [List.map_cons, List.map_cons]
          split at hs
          · rename_i tt nn hda
            split at hs
            · rename_i w hw
              cases hs
              have hκ : okK ad κ = true := by
                obtain ⟨kd, i0, j0⟩ := κ
                simp only [okV, Bool.or_eq_true] at hκV
                rcases hκV with z | z
                · exact z
                · exfalso
                  simp only [Bool.and_eq_true, Bool.or_eq_true, decide_eq_true_eq] at z
                  rcases z.2 with z | z <;> rw [z.1] at hw <;> cases hw
              rw [dval_K hκ]
              refine do_aald hx hb hE hS hκ hda hP hw hd (fun hok => ?_)
              have hwV : okV ad (.inr w) = true := by
                obtain ⟨a1, a2, a3⟩ := w
                simp [okV, hok]
              have kk := ih _ _ _ _ hn H locs ls hl1 hl2 (dok_cons hwV hst') hls hS hS0
              rw [List.map_cons, dval_K hok] at kk
              exact kk
            · cases hs
          · cases hs
        · cases hs
      · cases he
        simp only [dstep, hop] at hs
        split at hs
        · rename_i w i κ st
          have hκV := hst _ (List.mem_cons_of_mem _ (List.mem_cons_of_mem _ List.mem_cons_self))
          have hwV := hst _ List.mem_cons_self
          have hst' : ∀ v ∈ st, okV ad v = true := fun v hv => hst v (List.mem_cons_of_mem _ (List.mem_cons_of_mem _ (List.mem_cons_of_mem _ hv)))
          rw [List.map_cons, List.map_cons, List.map_cons]
          split at hs
          · rename_i i0 j0 i1 k1
            cases hs
            obtain ⟨hP, rfl⟩ := hP
            have hκ : okK ad (3, i0, j0) = true := by simpa [okV, okK] using hκV
            have hwk : okK ad (5, i0, k1) = true := by simpa [okV, okK] using hwV
            rw [dval_K hκ, dval_K hwk]
            have hk30 : k1 < 30 := by
              simp only [okK, Bool.and_eq_true, decide_eq_true_eq] at hwk
              exact hwk.2
            exact do_aast (t := 2) (ci := 2) (n := 30) hx hb hE hA hi hS hS0 hκ rfl (by decide) rfl (by decide) rfl hwk hP rfl (Or.inl ⟨rfl, hk30⟩) hd (fun H1 locs1 hS1 hS2 => ih _ _ _ _ hn H1 locs1 ls hl1 hl2 hst' hls hS1 hS2)
          · rename_i i0 j0 r0 j1
            cases hs
            have hκ : okK ad (8, i0, j0) = true := by simpa [okV, okK] using hκV
            have hwk : okK ad (0, r0, j1) = true := by simpa [okV, okK] using hwV
            rw [dval_K hκ, dval_K hwk]
            have hk8 : r0 < 8 ∧ j1 = 0 := by
              simp only [okK, Bool.and_eq_true, decide_eq_true_eq] at hwk
              exact hwk
            obtain ⟨hk8, rfl⟩ := hk8
            exact do_aast (t := 3) (ci := 0) (n := 5) hx hb hE hA hi hS hS0 hκ rfl (by decide) rfl (by decide) rfl hwk hP rfl (Or.inr ⟨rfl, hk8⟩) hd (fun H1 locs1 hS1 hS2 => ih _ _ _ _ hn H1 locs1 ls hl1 hl2 hst' hls hS1 hS2)
          · cases hs
        · cases hs
      · cases he
        simp only [dstep, hop] at hs
        split at hs
        · rename_i κ st
          have hκV := hst _ List.mem_cons_self
          have hst' : ∀ v ∈ st, okV ad v = true := fun v hv => hst v (List.mem_cons_of_mem _ hv)
          rw [List.map_cons]
          split at hs
          · rename_i nn hda
            cases hs
            obtain ⟨kd, i0, j0⟩ := κ
            unfold darr at hda
            split at hda <;> cases hda
            rename_i w j0 z
            cases z
            simp [okV, okK] at hκV
            obtain ⟨rfl, rfl⟩ := hκV
            rw [dval_ok (by decide)]
            have kk := ih _ _ _ _ hn H locs ls hl1 hl2 (dok_cons rfl hst') hls hS hS0
            rw [List.map_cons] at kk
            rw [hS.2.2.2.2] at kk
            exact va_slen hx hb hE.2.2.2.1 hE.2.2.2.2.1 hE.2.2.2.2.2 hS0 hd kk
          · cases hs
        · cases hs
      · cases he
        simp only [dstep, hop] at hs
        split at hs
        · rename_i y x st
          cases hs
          exact lv_iadd hx hb hd (ih _ _ _ _ hn H locs ls hl1 hl2 (dok_cons rfl (fun v hv => hst v (List.mem_cons_of_mem _ (List.mem_cons_of_mem _ hv)))) hls hS hS0)
        · cases hs
      · cases he
        simp only [dstep, hop] at hs
        split at hs
        · rename_i y x st
          cases hs
          exact lv_isub hx hb hd (ih _ _ _ _ hn H locs ls hl1 hl2 (dok_cons rfl (fun v hv => hst v (List.mem_cons_of_mem _ (List.mem_cons_of_mem _ hv)))) hls hS hS0)
        · cases hs
      · cases he
        simp only [dstep, hop] at hs
        split at hs
        · rename_i y x st
          cases hs
          exact lv_imul hx hb hd (ih _ _ _ _ hn H locs ls hl1 hl2 (dok_cons rfl (fun v hv => hst v (List.mem_cons_of_mem _ (List.mem_cons_of_mem _ hv)))) hls hS hS0)
        · cases hs
      · cases he
        simp only [dstep, hop] at hs
        split at hs
        · rename_i y x st
          cases hs
          exact lv_iand hx hb hd (ih _ _ _ _ hn H locs ls hl1 hl2 (dok_cons rfl (fun v hv => hst v (List.mem_cons_of_mem _ (List.mem_cons_of_mem _ hv)))) hls hS hS0)
        · cases hs
      · cases he
        simp only [dstep, hop] at hs
        split at hs
        · rename_i y x st
          cases hs
          exact lv_ior hx hb hd (ih _ _ _ _ hn H locs ls hl1 hl2 (dok_cons rfl (fun v hv => hst v (List.mem_cons_of_mem _ (List.mem_cons_of_mem _ hv)))) hls hS hS0)
        · cases hs
      · cases he
        simp only [dstep, hop] at hs
        split at hs
        · rename_i y x st
          cases hs
          exact lv_ishl hx hb hd (ih _ _ _ _ hn H locs ls hl1 hl2 (dok_cons rfl (fun v hv => hst v (List.mem_cons_of_mem _ (List.mem_cons_of_mem _ hv)))) hls hS hS0)
        · cases hs
      · cases he
        simp only [dstep, hop] at hs
        split at hs
        · rename_i y x st
          cases hs
          exact lv_ishr hx hb hd (ih _ _ _ _ hn H locs ls hl1 hl2 (dok_cons rfl (fun v hv => hst v (List.mem_cons_of_mem _ (List.mem_cons_of_mem _ hv)))) hls hS hS0)
        · cases hs
      · cases he
        simp only [dstep, hop] at hs
        split at hs
        · rename_i y x st
          cases hs
          exact lv_irem hx hb hd hP (ih _ _ _ _ hn H locs ls hl1 hl2 (dok_cons rfl (fun v hv => hst v (List.mem_cons_of_mem _ (List.mem_cons_of_mem _ hv)))) hls hS hS0)
        · cases hs
      · cases he
        have ha := dchk2_at hT2 hop (by decide)
        simp only [dstep, hop] at hs
        split at hs
        · rename_i x hg
          rw [dsetK_eq] at hs
          cases hs
          obtain ⟨k0, hk0⟩ := List.getElem?_of_mem (dlp_mem (ad := ad) (fm := fm) L 0 _ _ hg)
          rw [Nat.zero_add] at hk0
          exact lv_iinc hx hb hd hls hk0 rfl ha rfl (fun ls' hl' => ih _ _ _ _ hn H locs ls' (by rw [dset_len]; exact hl1) (hl2.set (by omega) rfl) hst (dLoc.put (v := .inl _) hf (by omega) hl') hS hS0)
        · cases hs
      · split at he
        · rename_i cnd off _ t ht
          cases he
          simp only [dstep, hop] at hs
          split at hs
          · rename_i x st
            have hst' : ∀ v ∈ st, okV ad v = true := fun v hv => hst v (List.mem_cons_of_mem _ hv)
            cases cnd <;> (simp only [dcnd] at hs; cases hs)
            · exact lv_if_eq hx hb hd (dtgt_ok ht) (fun z => by rw [if_pos z] at hn; exact ih _ _ _ _ hn H locs ls hl1 hl2 hst' hls hS hS0) (fun z => by rw [if_neg z] at hn; exact ih _ _ _ _ hn H locs ls hl1 hl2 hst' hls hS hS0)
            · exact lv_if_ne hx hb hd (dtgt_ok ht) (fun z => by rw [if_neg z] at hn; exact ih _ _ _ _ hn H locs ls hl1 hl2 hst' hls hS hS0) (fun z => by rw [if_pos z] at hn; exact ih _ _ _ _ hn H locs ls hl1 hl2 hst' hls hS hS0)
            · exact lv_if_lt hx hb hd (dtgt_ok ht) (fun z => by rw [if_pos z] at hn; exact ih _ _ _ _ hn H locs ls hl1 hl2 hst' hls hS hS0) (fun z => by rw [if_neg z] at hn; exact ih _ _ _ _ hn H locs ls hl1 hl2 hst' hls hS hS0)
            · exact lv_if_ge hx hb hd (dtgt_ok ht) (fun z => by rw [if_pos z] at hn; exact ih _ _ _ _ hn H locs ls hl1 hl2 hst' hls hS hS0) (fun z => by rw [if_neg z] at hn; exact ih _ _ _ _ hn H locs ls hl1 hl2 hst' hls hS hS0)
            · exact lv_if_gt hx hb hd (dtgt_ok ht) (fun z => by rw [if_pos z] at hn; exact ih _ _ _ _ hn H locs ls hl1 hl2 hst' hls hS hS0) (fun z => by rw [if_neg z] at hn; exact ih _ _ _ _ hn H locs ls hl1 hl2 hst' hls hS hS0)
            · exact lv_if_le hx hb hd (dtgt_ok ht) (fun z => by rw [if_pos z] at hn; exact ih _ _ _ _ hn H locs ls hl1 hl2 hst' hls hS hS0) (fun z => by rw [if_neg z] at hn; exact ih _ _ _ _ hn H locs ls hl1 hl2 hst' hls hS hS0)
          · cases hs
        · cases he
      · split at he
        · rename_i cnd off _ t ht
          cases he
          simp only [dstep, hop] at hs
          split at hs
          · rename_i y x st
            have hst' : ∀ v ∈ st, okV ad v = true := fun v hv => hst v (List.mem_cons_of_mem _ (List.mem_cons_of_mem _ hv))
            cases cnd <;> (simp only [dcnd] at hs; cases hs)
            · exact lv_icmp_eq hx hb hd (dtgt_ok ht) (fun z => by rw [if_pos z] at hn; exact ih _ _ _ _ hn H locs ls hl1 hl2 hst' hls hS hS0) (fun z => by rw [if_neg z] at hn; exact ih _ _ _ _ hn H locs ls hl1 hl2 hst' hls hS hS0)
            · exact lv_icmp_ne hx hb hd (dtgt_ok ht) (fun z => by rw [if_neg z] at hn; exact ih _ _ _ _ hn H locs ls hl1 hl2 hst' hls hS hS0) (fun z => by rw [if_pos z] at hn; exact ih _ _ _ _ hn H locs ls hl1 hl2 hst' hls hS hS0)
            · exact lv_icmp_lt hx hb hd (dtgt_ok ht) (fun z => by rw [if_pos z] at hn; exact ih _ _ _ _ hn H locs ls hl1 hl2 hst' hls hS hS0) (fun z => by rw [if_neg z] at hn; exact ih _ _ _ _ hn H locs ls hl1 hl2 hst' hls hS hS0)
            · exact lv_icmp_ge hx hb hd (dtgt_ok ht) (fun z => by rw [if_pos z] at hn; exact ih _ _ _ _ hn H locs ls hl1 hl2 hst' hls hS hS0) (fun z => by rw [if_neg z] at hn; exact ih _ _ _ _ hn H locs ls hl1 hl2 hst' hls hS hS0)
            · exact lv_icmp_gt hx hb hd (dtgt_ok ht) (fun z => by rw [if_pos z] at hn; exact ih _ _ _ _ hn H locs ls hl1 hl2 hst' hls hS hS0) (fun z => by rw [if_neg z] at hn; exact ih _ _ _ _ hn H locs ls hl1 hl2 hst' hls hS hS0)
            · exact lv_icmp_le hx hb hd (dtgt_ok ht) (fun z => by rw [if_pos z] at hn; exact ih _ _ _ _ hn H locs ls hl1 hl2 hst' hls hS hS0) (fun z => by rw [if_neg z] at hn; exact ih _ _ _ _ hn H locs ls hl1 hl2 hst' hls hS hS0)
          · cases hs
        · cases he
      · split at he
        · rename_i off t ht
          cases he
          rw [dstep, hop] at hs
          cases hs
          exact lv_goto hx hb hd (dtgt_ok ht) (ih _ _ _ _ hn H locs ls hl1 hl2 hst hls hS hS0)
        · cases he
      · rename_i dd lo hi offs
        split at he
        · rename_i t ts ht hts2
          cases hz : (decide (0 ≤ lo) && decide (hi < 1000) && decide ((ts.length : Int) = hi - lo + 1) && decide (offs.size = ts.length)) with
          | false => rw [hz] at he; cases he
          | true =>
            rw [hz] at he
            cases he
            simp only [Bool.and_eq_true, decide_eq_true_eq] at hz
            obtain ⟨⟨⟨z1, z2⟩, z3⟩, z4⟩ := hz
            simp only [dstep, hop] at hs
            split at hs
            · rename_i x st
              cases hs
              have hst' : ∀ v ∈ st, okV ad v = true := fun v hv => hst v (List.mem_cons_of_mem _ hv)
              have kk := ih _ _ _ _ hn H locs ls hl1 hl2 hst' hls hS hS0
              rw [dofInt z1] at kk
              have hlo : ((lo.toNat : Nat) : Int) = lo := Int.toNat_of_nonneg z1
              by_cases hin : lo ≤ x.toInt ∧ x.toInt ≤ hi
              · have h1 := dtsw_in (d := t) (x := x) ts lo.toNat (by omega) (by omega) (by omega)
                obtain ⟨off, g1, g2⟩ := dtgts_at hts2 _ _ h1
                rw [hlo, Array.getElem?_toList] at g1
                exact lv_tableIn hx hb hd (by omega) (by omega) g1 g2 kk
              · rw [dtsw_out ts lo.toNat (by omega) (by omega)] at kk
                exact lv_tableOut hx hb hd (by omega) (dtgt_ok ht) kk
            · cases hs
        · cases he
      · cases he
        simp only [dstep, hop] at hs
        split at hs
        · rename_i w st
          cases hs
          exact lv_dup hx hb hd (dval_cat hf w) (ih _ _ _ _ hn H locs ls hl1 hl2 (dok_cons (hst _ List.mem_cons_self) hst) hls hS hS0)
        · cases hs
      · cases he
        simp only [dstep, hop] at hs
        split at hs
        · rename_i w u st
          cases hs
          exact lv_dup2_11 hx hb hd (dval_cat hf w) (dval_cat hf u) (ih _ _ _ _ hn H locs ls hl1 hl2 (dok_cons (hst _ List.mem_cons_self) (dok_cons (hst _ (List.mem_cons_of_mem _ List.mem_cons_self)) hst)) hls hS hS0)
        · cases hs
      · split at he
        · split at he
          · cases he
            rw [dstep, hop] at hs
            cases hs
          · cases he
        · cases he
      · rename_i x
        cases hmx : (Nat.beq o 0 && Nat.beq x 183) with
        | true =>
          rw [hmx] at he
          cases he
          simp only [dstep, hop] at hs
          split at hs
          · rename_i y x0 st
            cases hlen : Nat.ble st.length 8 with
            | false => rw [hlen] at hs; cases hs
            | true =>
              rw [hlen] at hs
              cases hs
              simp only [Bool.and_eq_true] at hmx
              have ho : o = 0 := Nat.eq_of_beq_eq_true hmx.1
              have hx183 : x = 183 := Nat.eq_of_beq_eq_true hmx.2
              subst ho
              subst hx183
              have hr8 := dcat_rest (ad := ad) hf st (Nat.le_of_ble_eq_true hlen)
              exact va_mmax hx hb (hml.trans hls.1.symm) hown (hts _ (hG _ (dWd_of (w := .methodLink "DiskDrawer$State" 183 ⟨"java/lang/Math", "max", "(II)I"⟩) (i := 430) (by decide +kernel) rfl)).1) (hts _ (hG _ (dWd_of (w := .static ⟨"java/lang/Math", "max", "(II)I"⟩) (i := 431) (by decide +kernel) rfl)).1) (hts _ (hG _ (dWd_of (w := .initialized "java/lang/Math") (i := 23) (by decide +kernel) rfl)).1) (hts _ (hG _ (dWd_of (w := .code ⟨"java/lang/Math", "max", "(II)I"⟩ prog_9_method_65_code 2 (some .int)) (i := 432) (by decide +kernel) rfl)).1) (by omega) (by omega) hR.2.2.1 hR.2.2.2 hd (ih _ _ _ _ hn H locs ls hl1 hl2 (dok_cons rfl (fun v hv => hst v (List.mem_cons_of_mem _ (List.mem_cons_of_mem _ hv)))) hls hS hS0)
          · cases hs
        | false =>
          rw [hmx] at he
          dsimp only [cond] at he
          split at he
          · cases he
          · cases he
            rw [dstep, hop] at hs
            cases hs
          · cases he
      · split at he <;> cases he <;> (rw [dstep, hop] at hs; cases hs)
      · cases he
        rw [dstep, hop] at hs
        cases hs
      · cases he
    · cases hop : dop T pc with
      | none => rw [dcall, hop] at hc; cases hc
      | some op =>
      obtain ⟨i, len, hd, he⟩ := dchk_at hT hop
      have hnext : ∀ (H1 : Heap) (locs1 : List Loc), (∀ z, v = some z → okV ad z = true) → (∀ z ∈ st', okV ad z = true) → L' = L → dSim D ad ca xs SL h1 H1 → va_S A s.heap H1 locs1 → W p l e R s m args below meth c H1 locs1 cells slots Q (F0 m nx ls ((v.map (dval ad fm)).toList ++ st'.map (dval ad fm))) := by
        rintro H1 locs1 hv hst' rfl hS1 hS2
        have := ih _ _ _ _ hn H1 locs1 ls hl1 hl2 (by
          intro z hz
          rcases List.mem_append.mp hz with hz | hz
          · cases v with
            | none => cases hz
            | some w => simp at hz; subst hz; exact hv _ rfl
          · exact hst' z hz) hls hS1 hS2
        cases v <;> exact this
      simp only [dcall, hop] at hc
      split at hc
      · rename_i mid0 n0 nx0 v0 ci hopq
        split at hc
        · rename_i κ as0 rest hp
          cases hz : (Nat.beq (dcls κ.1) ci && Nat.ble rest.length 8) with
          | false => rw [hz] at hc; cases hc
          | true =>
            rw [hz] at hc
            cases hc
            cases hopq
            simp only [Bool.and_eq_true] at hz
            obtain ⟨x, hix, hxl, hcl, q, hq, hown'⟩ := denc_34 he
            obtain ⟨rfl, rfl⟩ := hix
            subst hxl
            obtain ⟨pre, g1, g2, -⟩ := dpop_spec _ _ _ _ _ hp
            rw [List.append_nil] at g1
            have hmem : ∀ z, z ∈ (Sum.inr κ :: as0 : List DV) ∨ z ∈ st' → okV ad z = true := by
              intro z hz
              refine hst z ?_
              rw [g2, g1.symm]
              rcases hz with hz | hz
              · exact List.mem_append_left _ (List.mem_reverse.mpr hz)
              · exact List.mem_append_right _ hz
            exact do_callv hx hb hml hown hts hG hE hAm hf hls.1 hS hS0 hR hq (hcal _ _ _ _ q hm hq) hcl hp ((Nat.eq_of_beq_eq_true hz.1).trans hown'.symm) (Nat.le_of_ble_eq_true hz.2) (fun z hz => hmem z (Or.inl hz)) hd (fun H1 locs1 hv hS1 hS2 => hnext H1 locs1 hv (fun z hz => hmem z (Or.inr hz)) rfl hS1 hS2)
        · cases hc
      · rename_i mid0 n0 nx0 v0 l0 hopq
        split at hc
        · rename_i as0 rest hp
          cases hz : Nat.ble rest.length 8 with
          | false => rw [hz] at hc; cases hc
          | true =>
            rw [hz] at hc
            cases hc
            cases hopq
            obtain ⟨x, kd, hix, hxl, hcl, hkd⟩ := denc_35 he
            obtain ⟨rfl, rfl⟩ := hix
            subst hxl
            obtain ⟨q, hq, -⟩ := dcal_ok hcl
            obtain ⟨pre, g1, g2, -⟩ := dpop_spec _ _ _ _ _ hp
            rw [List.append_nil] at g1
            have hmem : ∀ z, z ∈ as ∨ z ∈ st' → okV ad z = true := by
              intro z hz
              refine hst z ?_
              rw [g2, g1.symm]
              rcases hz with hz | hz
              · exact List.mem_append_left _ (List.mem_reverse.mpr hz)
              · exact List.mem_append_right _ hz
            exact do_calls hx hb hml hown hts hG hE hAm hf hls.1 hS hS0 hR hq (hcal _ _ _ _ q hm hq) hcl hkd hp (Nat.le_of_ble_eq_true hz) (fun z hz => hmem z (Or.inl hz)) hd (fun H1 locs1 hv hS1 hS2 => hnext H1 locs1 hv (fun z hz => hmem z (Or.inr hz)) rfl hS1 hS2)
        · cases hc
      · cases hc
    · exact hfin pc L st h H locs ls hKK hl1 hl2 hst hls hS hS0
end DSND
end
section
/-! the contract of every method, out of a run of its table -/
variable {ad : DKey → Nat}
theorem dlp_args {ad : DKey → Nat} {fm : Value} (hf : dFm fm) : ∀ (as : List DV) (b n : Nat) (q : Nat × Value), q ∈ dlp ad fm b (as.map some ++ List.replicate n none) → q ∈ lv_args b (as.map (dval ad fm)) := by
  intro as
  induction as with
  | nil =>
    intro b n q h
    exfalso
    induction n generalizing b with
    | zero => cases h
    | succ n ih => exact ih (b + 1) (by simpa [List.replicate_succ, dlp] using h)
  | cons v as ih =>
    intro b n q h
    rcases List.mem_cons.mp h with h | h
    · exact List.mem_cons.mpr (Or.inl h)
    · refine List.mem_cons.mpr (Or.inr ?_)
      show q ∈ lv_args (if (dval ad fm v).category = 2 then b + 2 else b + 1) _
      rw [if_neg (by rw [dval_cat hf]; decide)]
      exact ih (b + 1) n q h
theorem dsl_len {ad : DKey → Nat} {fm : Value} (hf : dFm fm) : ∀ (as : List DV), (lg_sl (as.map (dval ad fm))).length = as.length := by
  intro as
  induction as with
  | nil => rfl
  | cons v as ih =>
    show (List.flatMap _ (_ :: _)).length = _
    rw [List.flatMap_cons, List.length_append, List.length_cons]
    have : (if (dval ad fm v).category = 2 then [Slot.val (dval ad fm v), Slot.second] else [Slot.val (dval ad fm v)]).length = 1 := by
      rw [if_neg (by rw [dval_cat hf]; decide)]
      rfl
    rw [this]
    have ih' : (List.flatMap (fun v : Value => if v.category = 2 then [Slot.val v, Slot.second] else [Slot.val v]) (as.map (dval ad fm))).length = as.length := ih
    rw [ih']
    omega
theorem dOkL_init {as : List DV} {n : Nat} (h : ∀ v ∈ as, okV ad v = true) : dOkL ad (as.map some ++ List.replicate n none) := by
  induction as with
  | nil =>
    intro k v hk
    exfalso
    induction n generalizing k with
    | zero => cases hk
    | succ n ih =>
      cases k with
      | zero => cases hk
      | succ k => exact ih k hk
  | cons a as ih =>
    intro k v hk
    cases k with
    | zero => cases hk; exact h _ List.mem_cons_self
    | succ k => exact ih (fun v hv => h v (List.mem_cons_of_mem _ hv)) k v hk
theorem denc_ret {o : Nat} {rt : Option FieldType} {pc len a b nx k : Nat} {v : Int32} {ts : List Nat} {i : Instr} (h : denc o rt pc i len = some (k, a, b, nx, v, ts)) :
    (k = 36 → i = .ireturn ∧ len = 1 ∧ rt = some .int) ∧ (k = 37 → i = .return_ ∧ len = 1) ∧ (k = 42 → i = .ireturn ∧ len = 1 ∧ rt = some .boolean) := by
  unfold denc at h
  split at h
  all_goals first
    | (cases h; refine ⟨?_, ?_, ?_⟩ <;> intro z <;> first | (cases z; done) | exact ⟨rfl, rfl⟩)
    | (unfold dldc at h; split at h <;> cases h <;> (refine ⟨?_, ?_, ?_⟩ <;> intro z <;> cases z))
    | (unfold dgst at h; split at h <;> cases h <;> (refine ⟨?_, ?_, ?_⟩ <;> intro z <;> cases z))
    | (repeat' split at h
       all_goals first
         | (cases h; refine ⟨?_, ?_, ?_⟩ <;> intro z <;> first | (cases z; done) | exact ⟨rfl, rfl, rfl⟩)
         | (simp only [cond] at h
            repeat' split at h
            all_goals first | (cases h; refine ⟨?_, ?_, ?_⟩ <;> intro z <;> cases z) | cases h)
         | cases h)
    | (simp only [cond] at h
       repeat' split at h
       all_goals first | (cases h; refine ⟨?_, ?_, ?_⟩ <;> intro z <;> cases z) | cases h)
/-- which answers a table gives: nothing only where the method has no answer -/
def drtOK (q : DM) : Bool := q.2.2.2.2.2.all fun o => match o with
  | some (37, _) => decide (q.2.2.2.1 = none)
  | _ => true
theorem dret37 : dms.all drtOK = true := by decide +kernel
theorem dop_mem {T : DTbl} {pc : Nat} {x : DOp} (hq : dop T pc = some x) : some x ∈ T := by
  have hq' : T.getD pc none = some x := hq
  rw [List.getD_eq_getElem?_getD] at hq'
  cases hz : T[pc]? with
  | none => rw [hz] at hq'; cases hq'
  | some y =>
    rw [hz] at hq'
    have : y = some x := hq'
    rw [← this]
    exact List.mem_of_getElem? hz
theorem dret37_at {q : DM} (h : drtOK q = true) {pc : Nat} {x : Nat × Nat × Nat × Int32 × List Nat} (hop : dop q.2.2.2.2.2 pc = some (37, x)) : q.2.2.2.1 = none := by
  have := List.all_eq_true.mp h _ (dop_mem hop)
  exact of_decide_eq_true this
set_option maxHeartbeats 1000000 in
theorem d_met (l : Launch) {D : va_G} {ad : DKey → Nat} {ca : Nat → ClassId} {fm : Value} {xs : Nat → Int32} {SL : Nat} (hi : dInj ad) (hf : dFm fm) : ∀ (d mid : Nat) (as : List DV) (h : DH) (r : DRes) (q : DM), dEx d mid as h r → dms[mid]? = some q → dMet l D ad ca fm xs SL d q as h r := by
  intro d
  induction d with
  | zero => intro mid as h r q hx; cases hx
  | succ d ih =>
    intro mid as h r q hx hq
    obtain ⟨q', hq', hlen, n, hrun⟩ := hx
    cases hq.symm.trans hq'
    obtain ⟨hpn, ⟨hmax, hck2⟩, hcls, hck⟩ := dgs q (List.mem_of_getElem? hq)
    unfold dMet
    refine Met.ofW (cc := q.2.1) (maxL := q.2.2.1) (ret := q.2.2.2.1) hpn rfl ?_
    intro p e s m args below meth c s₁ B hml hv
    obtain ⟨rfl, hok, hE, hS⟩ := hv
    have hx := B.exec
    have hb := B.bytes
    have hr := B.returns
    have hts := atoms_spec (ws := Cond.code q.1 q.2.1 q.2.2.1 q.2.2.2.1 :: dWd) B.pre
    have hown : s.vm.findClass (don q.2.2.2.2.1) = some m.cls := by rw [← hcls]; exact findClass_of_methodNamed B.named
    have hlocks := B.notSynchronized
    have hsl := dsl_len (ad := ad) hf as
    have hl := lv_entry (as.map (dval ad fm)) (n := q.2.2.1) (by rw [hsl]; exact hlen)
    rw [lg_entry_eq]
    generalize (lg_sl (as.map (dval ad fm)) ++ List.replicate (q.2.2.1 - (lg_sl (as.map (dval ad fm))).length) Slot.unset).toArray = ls at hl ⊢
    have hloc : dLoc ad fm (as.map some ++ List.replicate (q.2.2.1 - as.length) none) q.2.2.1 ls := ⟨hl.1, hl.2.1, fun z hz => hl.2.2 z (dlp_args hf as 0 _ z hz)⟩
    have hS0 : va_S (dAm ad) s.heap s.heap [] := va_S.rf
    refine d_sound (A := dAm ad) (Ts := Cond.code q.1 q.2.1 q.2.2.1 q.2.2.2.1 :: dWd) (d := d) (K := dEnd q.2.2.2.2.2 r) hx hb hml hown hts (dWd_cons _) hE (fun κ h => ⟨κ, h, rfl⟩) hi hf ⟨Nat.le_refl _, ?_, Nat.le_refl _, Nat.le_refl _⟩ hck hck2 (fun mid as h r q => ih mid as h r q) ?_ n 0 _ [] h hrun s.heap [] ls (by simp; omega) (dOkL_init hok) (fun _ h => by cases h) hloc hS hS0
    · show 40 * d + 40 ≤ 40 * (d + 1)
      omega
    · intro pc L st h H locs ls hK hLl hLo hst hLc hS hS0
      obtain ⟨G, hg, g⟩ := hK
      cases hop : dop q.2.2.2.2.2 pc with
      | none => simp only [dfin, hop] at hg; cases hg
      | some op =>
      obtain ⟨i, len, hd, he⟩ := dchk_at hck hop
      obtain ⟨k, a, b, nx, v, ts⟩ := op
      obtain ⟨r36, r37, r42⟩ := denc_ret he
      have hF : ∀ t : State, t.heap = H → va_F (dAm ad) s t := fun t ht => hS0.F ht
      simp only [dfin, hop] at hg
      split at hg
      · rename_i z; cases z
        obtain ⟨rfl, rfl, e3⟩ := r36 rfl
        split at hg
        · cases hg
          exact W.iret hx hb (by rw [hr]; exact e3) (fun t ht hW => ⟨rfl, fun v hv => by cases hv; rfl, by rw [ht]; exact hS, hF t ht⟩) hS0.2.2 hd
        · cases hg
      · rename_i z; cases z
        obtain ⟨rfl, rfl⟩ := r37 rfl
        split at hg
        · cases hg
          have hr0 : meth.sig.returnType = none := by
            rw [hr]
            have := List.all_eq_true.mp dret37 q (List.mem_of_getElem? hq)
            exact dret37_at this hop
          exact W.vret hx hb hr0 (fun t ht hW => ⟨rfl, fun v hv => (by cases hv), by rw [ht]; exact hS, hF t ht⟩) hS0.2.2 hd
        · cases hg
      · rename_i z; cases z
        obtain ⟨rfl, rfl, e3⟩ := r42 rfl
        split at hg
        · cases hg
          exact W.zret hx hb (by rw [hr]; exact e3) (by rcases g with rfl | rfl <;> rfl) (fun t ht hW => ⟨rfl, fun v hv => by cases hv; rfl, by rw [ht]; exact hS, hF t ht⟩) hS0.2.2 hd
        · cases hg
      · cases hg
end
section
/-! pictures of a drawer: AS = numbers, scalars (by the class's places), disks, reads in their order -/
abbrev R5 : Type := Int32 × Int32 × Int32 × Int32 × Int32
abbrev AS : Type := (Nat → Int32) × (Nat → Int32) × (Nat → Nat → Int32) × List R5
def sN (A : AS) (n : Nat) (v : Int32) : AS := (fun k => if k = n then v else A.1 k, A.2)
def sS (A : AS) (k : Nat) (v : Int32) : AS := (A.1, fun j => if j = k then v else A.2.1 j, A.2.2)
def sD (A : AS) (d f : Nat) (v : Int32) : AS := (A.1, A.2.1, fun d' f' => if d' = d ∧ f' = f then v else A.2.2.1 d' f', A.2.2.2)
def sR (A : AS) (l : List R5) : AS := (A.1, A.2.1, A.2.2.1, l)
def rdk (h : DH) (i k : Nat) : R5 := (h.1 (5, i, h.2 (3, i, 0) k) 0, h.1 (5, i, h.2 (3, i, 0) k) 1, h.1 (5, i, h.2 (3, i, 0) k) 2, h.1 (5, i, h.2 (3, i, 0) k) 3, h.1 (5, i, h.2 (3, i, 0) k) 4)
/-- the class's state i -/
def al (h : DH) (i : Nat) : AS := (fun n => if n < 10 then h.1 (1, i, 0) n else 0, fun k => if 4 ≤ k ∧ k < 15 then h.1 (0, i, 0) k else 0, fun d f => if d < 12 ∧ f < 6 then h.1 (4, i, d) f else 0, (List.range (h.1 (0, i, 0) 3).toNatClampNeg).map (rdk h i))
/-- the reference's places of the scalars and of a disk's fields -/
def ms : Nat → Nat
  | 4 => 12 | 5 => 13 | 6 => 14 | 7 => 20 | 8 => 10 | 9 => 11 | 10 => 15 | 11 => 16 | 12 => 17 | 13 => 18 | _ => 19
def mf : Nat → Nat
  | 4 => 5 | 5 => 4 | f => f
def rmk (s : Nat → Int32) (k : Nat) : R5 := (s (94 + 5 * k), s (94 + 5 * k + 1), s (94 + 5 * k + 2), s (94 + 5 * k + 3), s (94 + 5 * k + 4))
/-- the reference's row -/
def be (s : Nat → Int32) : AS := (fun n => if n < 10 then s n else 0, fun k => if 4 ≤ k ∧ k < 15 then s (ms k) else 0, fun d f => if d < 12 ∧ f < 6 then s (21 + 6 * d + mf f) else 0, (List.range (s 93).toNatClampNeg).map (rmk s))
theorem up1_1 (h : DH) (κ : DKey) (k : Nat) (x : Int32) (q : DKey) (j : Nat) : (up1 h κ k x).1 q j = if q = κ ∧ j = k then x else h.1 q j := rfl
theorem up1_2 (h : DH) (κ : DKey) (k : Nat) (x : Int32) : (up1 h κ k x).2 = h.2 := rfl
theorem up2_1 (h : DH) (κ : DKey) (k : Nat) (x : Nat) : (up2 h κ k x).1 = h.1 := rfl
theorem up2_2 (h : DH) (κ : DKey) (k : Nat) (x : Nat) (q : DKey) (j : Nat) : (up2 h κ k x).2 q j = if q = κ ∧ j = k then x else h.2 q j := rfl
/-- h' is h but for state i -/
def Fr (i : Nat) (h h' : DH) : Prop := ∀ κ : DKey, ¬ (κ.1 ≤ 5 ∧ κ.2.1 = i) → h'.1 κ = h.1 κ ∧ h'.2 κ = h.2 κ
theorem Fr.rf {i : Nat} {h : DH} : Fr i h h := fun _ _ => ⟨rfl, rfl⟩
theorem Fr.tr {i : Nat} {h h' h'' : DH} (a : Fr i h h') (b : Fr i h' h'') : Fr i h h'' := fun κ hκ => ⟨(b κ hκ).1.trans (a κ hκ).1, (b κ hκ).2.trans (a κ hκ).2⟩
theorem Fr.up1 {i : Nat} {h h' : DH} (a : Fr i h h') {k : Nat} {x : Int32} {κ : DKey} (hκ : κ.1 ≤ 5 ∧ κ.2.1 = i) : Fr i h (up1 h' κ k x) := fun q hq => ⟨by
  rw [up1_ne h' k x (fun e => hq (by rw [e]; exact hκ))]
  exact (a q hq).1, (a q hq).2⟩
theorem Fr.up2 {i : Nat} {h h' : DH} (a : Fr i h h') {k : Nat} {x : Nat} {κ : DKey} (hκ : κ.1 ≤ 5 ∧ κ.2.1 = i) : Fr i h (up2 h' κ k x) := fun q hq => ⟨(a q hq).1, by
  rw [up2_ne h' k x (fun e => hq (by rw [e]; exact hκ))]
  exact (a q hq).2⟩
theorem Fr.h1 {i : Nat} {h h' : DH} (a : Fr i h h') {κ : DKey} (hκ : ¬ (κ.1 ≤ 5 ∧ κ.2.1 = i)) : h'.1 κ = h.1 κ := (a κ hκ).1
theorem Fr.h2 {i : Nat} {h h' : DH} (a : Fr i h h') {κ : DKey} (hκ : ¬ (κ.1 ≤ 5 ∧ κ.2.1 = i)) : h'.2 κ = h.2 κ := (a κ hκ).2
theorem Fr_al {i j : Nat} {h h' : DH} (a : Fr i h h') (hj : j ≠ i) : al h' j = al h j := by
  have e1 : ∀ k m, h'.1 (k, j, m) = h.1 (k, j, m) := fun k m => a.h1 (fun z => hj z.2)
  have e2 : ∀ k m, h'.2 (k, j, m) = h.2 (k, j, m) := fun k m => a.h2 (fun z => hj z.2)
  have e3 : rdk h' j = rdk h j := by
    funext k
    simp only [rdk, e1, e2]
  simp only [al, e1, e3]
/-! small facts of ints -/
theorem nIlit (n : Nat) : nI n = Int32.ofNat n := rfl
theorem i_ge {k N : Nat} (h : k < N) (hN : N < 2 ^ 31) : ¬ nI N ≤ nI k := nI_ge h hN
theorem i_in {k N : Nat} (h : k < N) (hN : N < 2 ^ 31) : vp_in (nI k) N := vp_in_nI h hN
theorem i_cl {k : Nat} (h : k < 2 ^ 31) : (nI k).toNatClampNeg = k := nI_clamp h
def wi (x lo hi : Int32) : Int32 := if x < lo then 0 else if hi < x then 0 else 1
def wip (x lo hi : Int32) : Prop := ¬ x < lo ∧ ¬ hi < x
theorem wi_1 {x lo hi : Int32} (h : wip x lo hi) : wi x lo hi = 1 := by unfold wi; rw [if_neg h.1, if_neg h.2]
theorem wi_0 {x lo hi : Int32} (h : ¬ wip x lo hi) : wi x lo hi = 0 := by
  unfold wi
  by_cases a : x < lo
  · rw [if_pos a]
  · rw [if_neg a]
    by_cases b : hi < x
    · rw [if_pos b]
    · exact absurd ⟨a, b⟩ h
theorem wi_01 (x lo hi : Int32) : wi x lo hi = 0 ∨ wi x lo hi = 1 := by
  by_cases h : wip x lo hi
  · exact Or.inr (wi_1 h)
  · exact Or.inl (wi_0 h)
def fl (p : Prop) [Decidable p] : Int32 := if p then 1 else 0
/-- a sum in the order of the places -/
def sumN (f : Nat → Int32) : Nat → Int32
  | 0 => 0
  | n + 1 => sumN f n + f n
end
section
/-! the class's small methods -/
theorem c_flag (n : Nat) (x : Int32) (h : DH) : dEx (n + 1) 18 [.inl x] h (some (.inl (if x = 0 then 0 else 1)), h) := by
  refine dx_18 ?_
  refine Runs.go 2 rfl trivial ?_
  refine Runs.ifS (fun c => ?_) (fun c => ?_)
  · rw [if_pos c]
    refine Runs.go 1 rfl trivial ?_
    exact Runs.fin rfl trivial
  · rw [if_neg c]
    refine Runs.go 2 rfl trivial ?_
    exact Runs.fin rfl trivial
theorem c_isWithin (n : Nat) (x lo hi : Int32) (h : DH) : dEx (n + 1) 6 [.inl x, .inl lo, .inl hi] h (some (.inl (wi x lo hi)), h) := by
  refine dx_6 ?_
  unfold wi
  refine Runs.go 3 rfl trivial ?_
  refine Runs.ifS (fun c => ?_) (fun c => ?_)
  · rw [if_pos c]
    refine Runs.go 1 rfl trivial ?_
    exact Runs.fin rfl (Or.inl rfl)
  · rw [if_neg c]
    refine Runs.go 3 rfl trivial ?_
    refine Runs.ifS (fun c => ?_) (fun c => ?_)
    · rw [if_pos c]
      refine Runs.go 1 rfl trivial ?_
      exact Runs.fin rfl (Or.inl rfl)
    · rw [if_neg c]
      refine Runs.go 2 rfl trivial ?_
      exact Runs.fin rfl (Or.inr rfl)
theorem c_isDisk (n : Nat) (x : Int32) (h : DH) : dEx (n + 2) 11 [.inl x] h (some (.inl (wi x 0 11)), h) := by
  refine dx_11 ?_
  refine Runs.go 3 rfl trivial ?_
  refine Runs.cal rfl (c_isWithin n _ _ _ h) ?_
  exact Runs.fin rfl (wi_01 _ _ _)
def cpo (h : DH) (κ κ' : DKey) (n : Nat) : DH := (fun q k => if q = κ ∧ k < n then h.1 κ' k else h.1 q k, h.2)
theorem c_diskCopy (n : Nat) (i j i' j' : Nat) (h : DH) (hz : h.1 (4, i', j') 5 = 0 ∨ h.1 (4, i', j') 5 = 1) : dEx (n + 1) 3 [.inr (4, i, j), .inr (4, i', j')] h (none, cpo h (4, i, j) (4, i', j') 7) := by
  refine dx_3 ?_
  refine Runs.go 28 rfl ⟨trivial, (by simpa [up1_1] using hz)⟩ ?_
  refine Runs.fin ?_ trivial
  refine congrArg (fun z => some (True, (none, z))) ?_
  refine Prod.ext ?_ rfl
  funext q k
  simp only [up1_1, cpo]
  by_cases hq : q = (4, i, j)
  · subst hq
    by_cases hk : k < 7
    · have : k = 0 ∨ k = 1 ∨ k = 2 ∨ k = 3 ∨ k = 4 ∨ k = 5 ∨ k = 6 := by omega
      rcases this with rfl | rfl | rfl | rfl | rfl | rfl | rfl <;> simp
    · have : k ≠ 0 ∧ k ≠ 1 ∧ k ≠ 2 ∧ k ≠ 3 ∧ k ≠ 4 ∧ k ≠ 5 ∧ k ≠ 6 := by omega
      simp [this, hk]
  · simp [hq]
theorem c_readCopy (n : Nat) (i j i' j' : Nat) (h : DH) : dEx (n + 1) 4 [.inr (5, i, j), .inr (5, i', j')] h (none, cpo h (5, i, j) (5, i', j') 5) := by
  refine dx_4 ?_
  refine Runs.go 20 rfl trivial ?_
  refine Runs.fin ?_ trivial
  refine congrArg (fun z => some (True, (none, z))) ?_
  refine Prod.ext ?_ rfl
  funext q k
  simp only [up1_1, cpo]
  by_cases hq : q = (5, i, j)
  · subst hq
    by_cases hk : k < 5
    · have : k = 0 ∨ k = 1 ∨ k = 2 ∨ k = 3 ∨ k = 4 := by omega
      rcases this with rfl | rfl | rfl | rfl | rfl <;> simp
    · have : k ≠ 0 ∧ k ≠ 1 ∧ k ≠ 2 ∧ k ≠ 3 ∧ k ≠ 4 := by omega
      simp [this, hk]
  · simp [hq]
def sbH (h : DH) (κ : DKey) : DH := up1 (up1 (up1 h κ 0 0) κ 1 0) κ 3 0
theorem c_standBy (n : Nat) (i j : Nat) (h : DH) : dEx (n + 1) 22 [.inr (4, i, j)] h (none, sbH h (4, i, j)) := by
  refine dx_22 ?_
  refine Runs.go 9 rfl trivial ?_
  exact Runs.fin rfl trivial
theorem c_beginStart (n : Nat) (i j : Nat) (h : DH) (x : Int32) : dEx (n + 1) 41 [.inr (4, i, j), .inl x] h (none, up1 (up1 (up1 h (4, i, j) 0 1) (4, i, j) 1 x) (4, i, j) 4 (h.1 (4, i, j) 4 + 1)) := by
  refine dx_41 ?_
  refine Runs.go 12 rfl trivial ?_
  refine Runs.fin ?_ trivial
  simp only [up1_1]
  rfl
theorem c_spinUp (n : Nat) (i j : Nat) (h : DH) : dEx (n + 1) 34 [.inr (4, i, j)] h (none, up1 (up1 (up1 h (4, i, j) 0 2) (4, i, j) 2 0) (4, i, j) 3 0) := by
  refine dx_34 ?_
  refine Runs.go 9 rfl trivial ?_
  exact Runs.fin rfl trivial
theorem c_failStart (n : Nat) (i j : Nat) (h : DH) : dEx (n + 2) 32 [.inr (4, i, j)] h (none, if h.1 (4, i, j) 2 + 1 < 3 then up1 (up1 (sbH h (4, i, j)) (4, i, j) 5 0) (4, i, j) 2 (h.1 (4, i, j) 2 + 1) else up1 (up1 (up1 (sbH h (4, i, j)) (4, i, j) 5 0) (4, i, j) 2 (h.1 (4, i, j) 2 + 1)) (4, i, j) 0 3) := by
  refine dx_32 ?_
  refine Runs.go 1 rfl trivial ?_
  refine Runs.calv rfl (c_standBy n i j h) ?_
  refine Runs.go 13 rfl ⟨trivial, (Or.inl rfl)⟩ ?_
  have e : (up1 (sbH h (4, i, j)) (4, i, j) 5 0).1 (4, i, j) 2 = h.1 (4, i, j) 2 := by simp [up1_1, sbH]
  rw [e]
  have e2 : (up1 (up1 (sbH h (4, i, j)) (4, i, j) 5 0) (4, i, j) 2 (h.1 (4, i, j) 2 + 1)).1 (4, i, j) 2 = h.1 (4, i, j) 2 + 1 := by simp [up1_1]
  rw [e2]
  refine Runs.ifS (fun c => ?_) (fun c => ?_)
  · rw [if_pos c]
    exact Runs.fin rfl trivial
  · rw [if_neg c]
    refine Runs.go 3 rfl trivial ?_
    exact Runs.fin rfl trivial
theorem c_renew (n : Nat) (i j : Nat) (h : DH) : dEx (n + 2) 21 [.inr (4, i, j)] h (none, up1 (up1 (up1 (sbH h (4, i, j)) (4, i, j) 2 0) (4, i, j) 4 0) (4, i, j) 5 0) := by
  refine dx_21 ?_
  refine Runs.go 1 rfl trivial ?_
  refine Runs.calv rfl (c_standBy n i j h) ?_
  refine Runs.go 9 rfl ⟨trivial, (Or.inl rfl)⟩ ?_
  exact Runs.fin rfl trivial
/-- the current of a disk, by the class -/
def ccur (h : DH) (i j : Nat) : Int32 := if h.1 (4, i, j) 0 = 0 then h.1 (1, i, 0) 4 else if h.1 (4, i, j) 0 = 1 then h.1 (1, i, 0) 1 else if h.1 (4, i, j) 0 = 2 then h.1 (1, i, 0) 2 + (if h.1 (4, i, j) 6 ≤ 0 then 0 else h.1 (1, i, 0) 3) else 0
theorem c_currentOf (n : Nat) (i j : Nat) (h : DH) : dEx (n + 1) 26 [.inr (0, i, 0), .inr (4, i, j)] h (some (.inl (ccur h i j)), h) := by
  refine dx_26 ?_
  refine Runs.go 3 rfl trivial ?_
  unfold ccur
  by_cases c0 : h.1 (4, i, j) 0 = 0
  · rw [if_pos c0, c0]
    refine Runs.go 4 rfl ⟨trivial, (by unfold vp_in; decide)⟩ ?_
    exact Runs.fin rfl trivial
  · rw [if_neg c0]
    by_cases c1 : h.1 (4, i, j) 0 = 1
    · rw [if_pos c1, c1]
      refine Runs.go 4 rfl ⟨trivial, (by unfold vp_in; decide)⟩ ?_
      exact Runs.fin rfl trivial
    · rw [if_neg c1]
      by_cases c2 : h.1 (4, i, j) 0 = 2
      · rw [if_pos c2, c2]
        refine Runs.go 7 rfl ⟨trivial, (by unfold vp_in; decide)⟩ ?_
        refine Runs.ifS (fun c => ?_) (fun c => ?_)
        · rw [if_pos c]
          refine Runs.go 2 rfl trivial ?_
          exact Runs.fin rfl trivial
        · rw [if_neg c]
          refine Runs.go 6 rfl ⟨trivial, (by unfold vp_in; decide)⟩ ?_
          exact Runs.fin rfl trivial
      · rw [if_neg c2]
        have e : dtsw 71 0 [32, 39, 46] (h.1 (4, i, j) 0) = 71 := by
          show (if _ = (0 : Int32) then 32 else if _ = (0 + 1 : Int32) then 39 else if _ = (0 + 1 + 1 : Int32) then 46 else 71) = 71
          rw [if_neg c0, if_neg (show ¬ h.1 (4, i, j) 0 = (0 + 1 : Int32) from c1), if_neg (show ¬ h.1 (4, i, j) 0 = (0 + 1 + 1 : Int32) from c2)]
        rw [e]
        refine Runs.go 1 rfl trivial ?_
        exact Runs.fin rfl trivial
theorem c_currentOfNow (n : Nat) (i : Nat) (h : DH) : dEx (n + 2) 25 [.inr (0, i, 0)] h (some (.inl (sumN (ccur h i) 12)), h) := by
  refine dx_25 ?_
  refine Runs.go 4 rfl trivial ?_
  refine Runs.loop 12 (fun k => (4, [some (.inr (0, i, 0)), some (.inl (sumN (ccur h i) k)), some (.inl (nI k))], [], h)) (fun k hk ih => ?_) ?_
  · refine Runs.go 3 rfl trivial ?_
    refine Runs.ifF (i_ge hk (by decide)) ?_
    refine Runs.go 6 rfl ⟨trivial, (i_in hk (by decide))⟩ ?_
    rw [i_cl (by omega)]
    refine Runs.cal rfl (c_currentOf n i k h) ?_
    refine Runs.go 4 rfl trivial ?_
    rw [nI_1]
    exact ih
  · refine Runs.go 3 rfl trivial ?_
    refine Runs.ifT (Int32.le_refl _) ?_
    refine Runs.go 1 rfl trivial ?_
    exact Runs.fin rfl trivial
end
section
/-! loops that may end early, switches, first places -/
theorem Runs.loopP {T : DTbl} {C : DC} {r : DRes} (N : Nat) (S : Nat → DS) (P : Nat → Prop) (h0 : P 0) (hb : ∀ k, k < N → P k → (P (k + 1) → Runs T C (S (k + 1)) r) → Runs T C (S k) r) (he : P N → Runs T C (S N) r) : Runs T C (S 0) r := by
  have key : ∀ k, k ≤ N → P (N - k) → Runs T C (S (N - k)) r := by
    intro k
    induction k with
    | zero => intro _ hp; exact he hp
    | succ k ih =>
      intro hk hp
      refine hb (N - (k + 1)) (by omega) hp (fun hp' => ?_)
      rw [show N - (k + 1) + 1 = N - k from by omega] at hp' ⊢
      exact ih (by omega) hp'
  have := key N (Nat.le_refl N)
  rw [Nat.sub_self] at this
  exact this h0
theorem Runs.sw1 {T : DTbl} {C : DC} {r : DRes} {d t : Nat} {v x : Int32} {ts : List Nat} {B : List (Option DV) × List DV × DH} (h1 : x = v → Runs T C (t, B) r) (h2 : ¬ x = v → Runs T C (dtsw d (v + 1) ts x, B) r) : Runs T C (dtsw d v (t :: ts) x, B) r := by
  show Runs T C ((if x = v then t else dtsw d (v + 1) ts x), B) r
  exact Runs.ifS h1 h2
theorem Runs.sw0 {T : DTbl} {C : DC} {r : DRes} {d : Nat} {v x : Int32} {B : List (Option DV) × List DV × DH} (h : Runs T C (d, B) r) : Runs T C (dtsw d v [] x, B) r := h
/-- the first place below c with p -/
def fp (p : Nat → Bool) : Nat → Option Nat
  | 0 => none
  | n + 1 => match fp p n with
    | some k => some k
    | none => if p n then some n else none
theorem fp_none {p : Nat → Bool} : ∀ {c : Nat}, fp p c = none → ∀ k, k < c → p k = false := by
  intro c
  induction c with
  | zero => intro _ k hk; omega
  | succ n ih =>
    intro h k hk
    simp only [fp] at h
    cases hf : fp p n with
    | some j => rw [hf] at h; cases h
    | none =>
      rw [hf] at h
      cases hp : p n with
      | true => rw [hp] at h; cases h
      | false =>
        rcases Nat.lt_succ_iff_lt_or_eq.mp hk with hk | rfl
        · exact ih hf k hk
        · exact hp
theorem fp_some {p : Nat → Bool} : ∀ {c k : Nat}, fp p c = some k → k < c ∧ p k = true ∧ ∀ j, j < k → p j = false := by
  intro c
  induction c with
  | zero => intro k h; cases h
  | succ n ih =>
    intro k h
    simp only [fp] at h
    cases hf : fp p n with
    | some j =>
      rw [hf] at h
      cases h
      obtain ⟨h1, h2⟩ := ih hf
      exact ⟨by omega, h2⟩
    | none =>
      rw [hf] at h
      cases hp : p n with
      | false => rw [hp] at h; cases h
      | true =>
        rw [hp] at h
        cases h
        exact ⟨by omega, hp, fp_none hf⟩
theorem fp_of {p : Nat → Bool} {c k : Nat} (hk : k < c) (hp : p k = true) (hn : ∀ j, j < k → p j = false) : fp p c = some k := by
  cases hf : fp p c with
  | none => have := fp_none hf k hk; rw [hp] at this; cases this
  | some j =>
    obtain ⟨h1, h2, h3⟩ := fp_some hf
    rcases Nat.lt_trichotomy j k with h | h | h
    · have := hn j h; rw [h2] at this; cases this
    · rw [h]
    · have := h3 k h; rw [hp] at this; cases this
theorem fp_nof {p : Nat → Bool} {c : Nat} (hn : ∀ j, j < c → p j = false) : fp p c = none := by
  cases hf : fp p c with
  | none => rfl
  | some j =>
    obtain ⟨h1, h2, h3⟩ := fp_some hf
    have := hn j h1
    rw [h2] at this
    cases this
theorem fp_congr {p q : Nat → Bool} {c : Nat} (h : ∀ k, k < c → p k = q k) : fp p c = fp q c := by
  cases hf : fp p c with
  | none => exact (fp_nof (fun j hj => by rw [← h j hj]; exact fp_none hf j hj)).symm
  | some k =>
    obtain ⟨h1, h2, h3⟩ := fp_some hf
    exact (fp_of h1 (by rw [← h k h1]; exact h2) (fun j hj => by rw [← h j (by omega)]; exact h3 j hj)).symm
def oI (n : Int32) : Option Nat → Int32
  | some k => nI k
  | none => n
/-! what the class tells of a state -/
def cthat (h : DH) (i : Nat) (x : Int32) : Int32 := sumN (fun j => if h.1 (4, i, j) 0 = x then 1 else 0) 12
theorem c_disksThat (n i : Nat) (x : Int32) (h : DH) : dEx (n + 2) 38 [.inr (0, i, 0), .inl x] h (some (.inl (cthat h i x)), h) := by
  refine dx_38 ?_
  refine Runs.go 4 rfl trivial ?_
  refine Runs.loop 12 (fun k => (4, [some (.inr (0, i, 0)), some (.inl x), some (.inl (sumN (fun j => if h.1 (4, i, j) 0 = x then 1 else 0) k)), some (.inl (nI k))], [], h)) (fun k hk ih => ?_) ?_
  · refine Runs.go 3 rfl trivial ?_
    refine Runs.ifF (i_ge hk (by decide)) ?_
    refine Runs.go 8 rfl ⟨trivial, (i_in hk (by decide))⟩ ?_
    rw [i_cl (by omega)]
    refine Runs.ifS (fun c => ?_) (fun c => ?_)
    · refine Runs.go 2 rfl trivial ?_
      refine Runs.cal rfl (c_flag n _ h) ?_
      refine Runs.go 4 rfl trivial ?_
      rw [nI_1]
      simp only [sumN, if_pos c] at ih
      exact ih
    · refine Runs.go 1 rfl trivial ?_
      refine Runs.cal rfl (c_flag n _ h) ?_
      refine Runs.go 4 rfl trivial ?_
      rw [nI_1]
      simp only [sumN, if_neg c] at ih
      exact ih
  · refine Runs.go 3 rfl trivial ?_
    refine Runs.ifT (Int32.le_refl _) ?_
    refine Runs.go 1 rfl trivial ?_
    exact Runs.fin rfl trivial
def cplc (h : DH) (i c : Nat) (x : Int32) : Option Nat := fp (fun k => decide (h.1 (5, i, h.2 (3, i, 0) k) 0 = x)) c
theorem c_placeOf (n i : Nat) (x : Int32) (h : DH) {c : Nat} (hc : h.1 (0, i, 0) 3 = nI c) (h30 : c ≤ 30) : dEx (n + 1) 14 [.inr (0, i, 0), .inl x] h (some (.inl (oI (-1) (cplc h i c x))), h) := by
  refine dx_14 ?_
  refine Runs.go 2 rfl trivial ?_
  refine Runs.loopP c (fun k => (2, [some (.inr (0, i, 0)), some (.inl x), some (.inl (nI k))], [], h)) (fun k => ∀ j, j < k → decide (h.1 (5, i, h.2 (3, i, 0) j) 0 = x) = false) (fun j hj => by omega) (fun k hk hp ih => ?_) (fun hp => ?_)
  · refine Runs.go 4 rfl trivial ?_
    rw [hc]
    refine Runs.ifF (i_ge hk (by omega)) ?_
    refine Runs.go 7 rfl ⟨trivial, (i_in (show k < 30 by omega) (by decide))⟩ ?_
    rw [i_cl (by omega)]
    refine Runs.ifS (fun z => ?_) (fun z => ?_)
    · refine Runs.go 1 rfl trivial ?_
      refine Runs.fin ?_ trivial
      rw [show cplc h i c x = some k from fp_of hk (by simpa using z) hp]
      rfl
    · refine Runs.go 2 rfl trivial ?_
      rw [nI_1]
      refine ih (fun j hj => ?_)
      rcases Nat.lt_succ_iff_lt_or_eq.mp hj with hj | rfl
      · exact hp j hj
      · simpa using z
  · refine Runs.go 4 rfl trivial ?_
    rw [hc]
    refine Runs.ifT (Int32.le_refl _) ?_
    refine Runs.go 1 rfl trivial ?_
    refine Runs.fin ?_ trivial
    rw [show cplc h i c x = none from fp_nof hp]
    rfl
def cadd (h : DH) (i : Nat) : Int32 := h.1 (1, i, 0) 1 - h.1 (1, i, 0) 4
theorem c_added (n i : Nat) (h : DH) : dEx (n + 1) 40 [.inr (0, i, 0)] h (some (.inl (cadd h i)), h) := by
  refine dx_40 ?_
  refine Runs.go 9 rfl ⟨⟨trivial, (by unfold vp_in; decide)⟩, (by unfold vp_in; decide)⟩ ?_
  exact Runs.fin rfl trivial
def cmay (h : DH) (i : Nat) (s c : Int32) : Int32 := if h.1 (1, i, 0) 8 ≤ s then 0 else if h.1 (1, i, 0) 5 < c + cadd h i then 0 else 1
theorem c_mayStart (n i : Nat) (h : DH) (s c : Int32) : dEx (n + 2) 39 [.inr (0, i, 0), .inl s, .inl c] h (some (.inl (cmay h i s c)), h) := by
  refine dx_39 ?_
  unfold cmay
  refine Runs.go 6 rfl ⟨trivial, (by unfold vp_in; decide)⟩ ?_
  refine Runs.ifS (fun z => ?_) (fun z => ?_)
  · rw [if_pos (show h.1 (1, i, 0) 8 ≤ s from z)]
    refine Runs.go 1 rfl trivial ?_
    exact Runs.fin rfl (Or.inl rfl)
  · rw [if_neg (show ¬ h.1 (1, i, 0) 8 ≤ s from z)]
    refine Runs.go 2 rfl trivial ?_
    refine Runs.cal rfl (c_added n i h) ?_
    refine Runs.go 6 rfl ⟨trivial, (by unfold vp_in; decide)⟩ ?_
    refine Runs.ifS (fun z => ?_) (fun z => ?_)
    · rw [if_pos (show h.1 (1, i, 0) 5 < c + cadd h i from z)]
      refine Runs.go 1 rfl trivial ?_
      exact Runs.fin rfl (Or.inl rfl)
    · rw [if_neg (show ¬ h.1 (1, i, 0) 5 < c + cadd h i from z)]
      refine Runs.go 2 rfl trivial ?_
      exact Runs.fin rfl (Or.inr rfl)
/-- couldStart, disk by disk: how many, and the current -/
def cstb (h : DH) (i : Nat) (s0 : Int32) (j : Nat) (q : Int32 × Int32) : Int32 × Int32 := if h.1 (4, i, j) 0 = 0 then (if cmay h i (s0 + q.2) q.1 = 0 then q else (q.1 + cadd h i, q.2 + 1)) else q
def cst (h : DH) (i : Nat) (s0 c0 : Int32) : Nat → Int32 × Int32
  | 0 => (c0, 0)
  | k + 1 => cstb h i s0 k (cst h i s0 c0 k)
def cstartable (h : DH) (i : Nat) : Int32 := if h.1 (0, i, 0) 10 = 0 then (cst h i (cthat h i 1) (sumN (ccur h i) 12) 12).2 else 0
theorem c_startable (n i : Nat) (h : DH) : dEx (n + 3) 79 [.inr (0, i, 0)] h (some (.inl (cstartable h i)), h) := by
  refine dx_79 ?_
  unfold cstartable
  refine Runs.go 3 rfl trivial ?_
  refine Runs.ifS (fun z => ?_) (fun z => ?_)
  · rw [if_pos z]
    refine Runs.go 1 rfl trivial ?_
    refine Runs.cal rfl (c_currentOfNow (n + 0) i h) ?_
    refine Runs.go 3 rfl trivial ?_
    refine Runs.cal rfl (c_disksThat n i _ h) ?_
    refine Runs.go 5 rfl trivial ?_
    generalize hs0 : cthat h i 1 = s0
    generalize hc0 : sumN (ccur h i) 12 = c0
    refine Runs.loop 12 (fun k => (25, [some (.inr (0, i, 0)), some (.inl (cst h i s0 c0 k).1), some (.inl s0), some (.inl (cst h i s0 c0 k).2), some (.inl (nI k))], [], h)) (fun k hk ih => ?_) ?_
    · refine Runs.go 3 rfl trivial ?_
      refine Runs.ifF (i_ge hk (by decide)) ?_
      refine Runs.go 6 rfl ⟨trivial, (i_in hk (by decide))⟩ ?_
      rw [i_cl (by omega)]
      rw [← nI_1] at ih
      refine Runs.ifS (fun z => ?_) (fun z => ?_)
      · rw [show cst h i s0 c0 (k + 1) = cstb h i s0 k (cst h i s0 c0 k) from rfl] at ih
        unfold cstb at ih
        rw [if_pos z] at ih
        refine Runs.go 5 rfl trivial ?_
        refine Runs.cal rfl (c_mayStart n i h _ _) ?_
        refine Runs.go 1 rfl trivial ?_
        refine Runs.ifS (fun z => ?_) (fun z => ?_)
        · rw [if_pos z] at ih
          refine Runs.go 2 rfl trivial ?_
          exact ih
        · rw [if_neg z] at ih
          refine Runs.go 3 rfl trivial ?_
          refine Runs.cal rfl (c_added (n + 1) i h) ?_
          refine Runs.go 4 rfl trivial ?_
          exact ih
      · rw [show cst h i s0 c0 (k + 1) = cstb h i s0 k (cst h i s0 c0 k) from rfl] at ih
        unfold cstb at ih
        rw [if_neg z] at ih
        refine Runs.go 2 rfl trivial ?_
        exact ih
    · refine Runs.go 3 rfl trivial ?_
      refine Runs.ifT (Int32.le_refl _) ?_
      refine Runs.go 1 rfl trivial ?_
      exact Runs.fin rfl trivial
  · rw [if_neg z]
    refine Runs.go 1 rfl trivial ?_
    exact Runs.fin rfl trivial
def cahead (h : DH) (i k : Nat) : Int32 := sumN (fun j => if h.1 (5, i, h.2 (3, i, 0) j) 1 = h.1 (5, i, h.2 (3, i, 0) k) 1 then 1 else 0) k
theorem c_ahead (n i k : Nat) (h : DH) (hk : k < 30) : dEx (n + 2) 77 [.inr (0, i, 0), .inl (nI k)] h (some (.inl (cahead h i k)), h) := by
  refine dx_77 ?_
  refine Runs.go 4 rfl trivial ?_
  refine Runs.loop k (fun q => (4, [some (.inr (0, i, 0)), some (.inl (nI k)), some (.inl (sumN (fun j => if h.1 (5, i, h.2 (3, i, 0) j) 1 = h.1 (5, i, h.2 (3, i, 0) k) 1 then 1 else 0) q)), some (.inl (nI q))], [], h)) (fun q hq ih => ?_) ?_
  · refine Runs.go 3 rfl trivial ?_
    refine Runs.ifF (i_ge hq (by omega)) ?_
    refine Runs.go 12 rfl ⟨⟨trivial, (i_in (show q < 30 by omega) (by decide))⟩, (i_in hk (by decide))⟩ ?_
    rw [i_cl (show q < 2 ^ 31 by omega), i_cl (show k < 2 ^ 31 by omega)]
    rw [← nI_1] at ih
    refine Runs.ifS (fun c => ?_) (fun c => ?_)
    · simp only [sumN, if_pos c] at ih
      refine Runs.go 2 rfl trivial ?_
      refine Runs.cal rfl (c_flag n _ h) ?_
      refine Runs.go 4 rfl trivial ?_
      exact ih
    · simp only [sumN, if_neg c] at ih
      refine Runs.go 1 rfl trivial ?_
      refine Runs.cal rfl (c_flag n _ h) ?_
      refine Runs.go 4 rfl trivial ?_
      exact ih
  · refine Runs.go 3 rfl trivial ?_
    refine Runs.ifT (Int32.le_refl _) ?_
    refine Runs.go 1 rfl trivial ?_
    exact Runs.fin rfl trivial
def ctellDisk (h : DH) (i d : Nat) (x : Int32) : Int32 := if x = 0 then h.1 (4, i, d) 0 else if x = 1 then ccur h i d else if x = 2 then h.1 (4, i, d) 1 else if x = 3 then h.1 (4, i, d) 2 else if x = 4 then h.1 (4, i, d) 3 else if x = 5 then h.1 (4, i, d) 6 else if x = 6 then (if h.1 (4, i, d) 5 = 0 then 0 else 1) else if x = 7 then h.1 (4, i, d) 4 else -2
theorem wip_nI {x : Int32} {n : Nat} (hn : n < 2 ^ 31) (h : wip x 0 (nI n)) : ∃ k, k ≤ n ∧ x = nI k := by
  obtain ⟨k, hk, rfl⟩ := nI_of h.1
  exact ⟨k, by rcases Nat.lt_or_ge n k with z | z; exact absurd (nI_lt z hk) h.2; exact z, rfl⟩
theorem c_tellDisk (n i : Nat) (y x : Int32) (h : DH) : (∀ d, d < 12 → y = nI d → dEx (n + 3) 74 [.inr (0, i, 0), .inl y, .inl x] h (some (.inl (ctellDisk h i d x)), h)) ∧ (¬ wip y 0 11 → dEx (n + 3) 74 [.inr (0, i, 0), .inl y, .inl x] h (some (.inl (-1)), h)) := by
  constructor
  · rintro d hd rfl
    refine dx_74 ?_
    refine Runs.go 1 rfl trivial ?_
    refine Runs.cal rfl (c_isDisk n _ h) ?_
    rw [wi_1 (show wip (nI d) 0 11 from ⟨nI_pos (by omega), nI_nlt (show d ≤ 11 by omega) (by decide)⟩)]
    refine Runs.go 1 rfl trivial ?_
    refine Runs.ifF (by decide) ?_
    refine Runs.go 7 rfl ⟨trivial, (i_in hd (by decide))⟩ ?_
    rw [i_cl (show d < 2 ^ 31 by omega)]
    unfold ctellDisk
    refine Runs.sw1 (fun c => ?_) (fun c => ?_)
    · subst c
      refine Runs.go 2 rfl trivial ?_
      exact Runs.fin rfl trivial
    rw [if_neg c]
    refine Runs.sw1 (fun c => ?_) (fun c => ?_)
    · subst c
      refine Runs.go 2 rfl trivial ?_
      refine Runs.cal rfl (c_currentOf (n + 1) i d h) ?_
      exact Runs.fin rfl trivial
    rw [if_neg (show ¬ x = 1 from c)]
    refine Runs.sw1 (fun c => ?_) (fun c => ?_)
    · subst c
      refine Runs.go 2 rfl trivial ?_
      exact Runs.fin rfl trivial
    rw [if_neg (show ¬ x = 2 from c)]
    refine Runs.sw1 (fun c => ?_) (fun c => ?_)
    · subst c
      refine Runs.go 2 rfl trivial ?_
      exact Runs.fin rfl trivial
    rw [if_neg (show ¬ x = 3 from c)]
    refine Runs.sw1 (fun c => ?_) (fun c => ?_)
    · subst c
      refine Runs.go 2 rfl trivial ?_
      exact Runs.fin rfl trivial
    rw [if_neg (show ¬ x = 4 from c)]
    refine Runs.sw1 (fun c => ?_) (fun c => ?_)
    · subst c
      refine Runs.go 2 rfl trivial ?_
      exact Runs.fin rfl trivial
    rw [if_neg (show ¬ x = 5 from c)]
    refine Runs.sw1 (fun c => ?_) (fun c => ?_)
    · subst c
      refine Runs.go 2 rfl trivial ?_
      refine Runs.cal rfl (c_flag (n + 1) _ h) ?_
      exact Runs.fin rfl trivial
    rw [if_neg (show ¬ x = 6 from c)]
    refine Runs.sw1 (fun c => ?_) (fun c => ?_)
    · subst c
      refine Runs.go 2 rfl trivial ?_
      exact Runs.fin rfl trivial
    rw [if_neg (show ¬ x = 7 from c)]
    refine Runs.sw0 ?_
    refine Runs.go 1 rfl trivial ?_
    exact Runs.fin rfl trivial
  · intro hy
    refine dx_74 ?_
    refine Runs.go 1 rfl trivial ?_
    refine Runs.cal rfl (c_isDisk n _ h) ?_
    rw [wi_0 hy]
    refine Runs.go 1 rfl trivial ?_
    refine Runs.ifT rfl ?_
    refine Runs.go 1 rfl trivial ?_
    exact Runs.fin rfl trivial
def ctellRead (h : DH) (i k : Nat) (x : Int32) : Int32 := if x = 0 then h.1 (5, i, h.2 (3, i, 0) k) 1 else if x = 1 then h.1 (5, i, h.2 (3, i, 0) k) 2 else if x = 2 then h.1 (5, i, h.2 (3, i, 0) k) 3 else if x = 3 then cahead h i k else if x = 4 then h.1 (0, i, 0) 8 - h.1 (5, i, h.2 (3, i, 0) k) 4 else -2
theorem c_tellRead (n i : Nat) (y x : Int32) (h : DH) {c : Nat} (hc : h.1 (0, i, 0) 3 = nI c) (h30 : c ≤ 30) : dEx (n + 3) 76 [.inr (0, i, 0), .inl y, .inl x] h (some (.inl (match cplc h i c y with | some k => ctellRead h i k x | none => -1)), h) := by
  refine dx_76 ?_
  refine Runs.go 2 rfl trivial ?_
  refine Runs.cal rfl (c_placeOf (n + 1) i y h hc h30) ?_
  cases hp : cplc h i c y with
  | none =>
    refine Runs.go 3 rfl trivial ?_
    refine Runs.ifF (by decide) ?_
    refine Runs.go 1 rfl trivial ?_
    exact Runs.fin rfl trivial
  | some k =>
    have hk : k < 30 := by have := (fp_some hp).1; omega
    refine Runs.go 3 rfl trivial ?_
    rw [show oI (-1) (some k) = nI k from rfl]
    refine Runs.ifT (nI_pos' (by omega)) ?_
    refine Runs.go 7 rfl ⟨trivial, (i_in hk (by decide))⟩ ?_
    show Runs dT_76 (dEx (n + 2)) (dtsw 91 0 [56, 62, 68, 74, 80] x, [some (.inr (0, i, 0)), some (.inl y), some (.inl x), some (.inl (nI k)), some (.inr (5, i, h.2 (3, i, 0) (nI k).toNatClampNeg))], [], h) (some (.inl (ctellRead h i k x)), h)
    rw [i_cl (show k < 2 ^ 31 by omega)]
    unfold ctellRead
    refine Runs.sw1 (fun c => ?_) (fun c => ?_)
    · subst c
      refine Runs.go 2 rfl trivial ?_
      exact Runs.fin rfl trivial
    rw [if_neg c]
    refine Runs.sw1 (fun c => ?_) (fun c => ?_)
    · subst c
      refine Runs.go 2 rfl trivial ?_
      exact Runs.fin rfl trivial
    rw [if_neg (show ¬ x = 1 from c)]
    refine Runs.sw1 (fun c => ?_) (fun c => ?_)
    · subst c
      refine Runs.go 2 rfl trivial ?_
      exact Runs.fin rfl trivial
    rw [if_neg (show ¬ x = 2 from c)]
    refine Runs.sw1 (fun c => ?_) (fun c => ?_)
    · subst c
      refine Runs.go 2 rfl trivial ?_
      refine Runs.cal rfl (c_ahead n i k h hk) ?_
      exact Runs.fin rfl trivial
    rw [if_neg (show ¬ x = 3 from c)]
    refine Runs.sw1 (fun c => ?_) (fun c => ?_)
    · subst c
      refine Runs.go 5 rfl trivial ?_
      exact Runs.fin rfl trivial
    rw [if_neg (show ¬ x = 4 from c)]
    refine Runs.sw0 ?_
    refine Runs.go 1 rfl trivial ?_
    exact Runs.fin rfl trivial
end
section
/-! the class's acts on a state, as they are -/
theorem Fr.o {i i' : Nat} {h h' : DH} (a : Fr i h h') (hne : i' ≠ i) (k j : Nat) : h'.1 (k, i', j) = h.1 (k, i', j) := a.h1 (fun z => hne z.2)
theorem Fr.o2 {i i' : Nat} {h h' : DH} (a : Fr i h h') (hne : i' ≠ i) (k j : Nat) : h'.2 (k, i', j) = h.2 (k, i', j) := a.h2 (fun z => hne z.2)
theorem cpo_0 (h : DH) (κ κ' : DKey) : cpo h κ κ' 0 = h := by
  refine Prod.ext ?_ rfl
  funext q k
  simp [cpo]
theorem cpo_succ (h : DH) {κ κ' : DKey} (hne : κ' ≠ κ) (n : Nat) : up1 (cpo h κ κ' n) κ n ((cpo h κ κ' n).1 κ' n) = cpo h κ κ' (n + 1) := by
  refine Prod.ext ?_ rfl
  funext q k
  simp only [up1_1, cpo]
  by_cases hq : q = κ
  · subst hq
    by_cases hk : k = n
    · subst hk
      simp [hne]
    · by_cases hk2 : k < n
      · simp [hk, hk2, show k < n + 1 by omega]
      · simp [hk, hk2, show ¬ k < n + 1 by omega]
  · simp [hq]
theorem Fr_cpo {i : Nat} {h h' : DH} (a : Fr i h h') {κ κ' : DKey} {n : Nat} (hκ : κ.1 ≤ 5 ∧ κ.2.1 = i) : Fr i h (cpo h' κ κ' n) := fun q hq => ⟨by
  have hne : q ≠ κ := fun e => hq (by rw [e]; exact hκ)
  rw [← (a q hq).1]
  funext k
  simp [cpo, hne], (a q hq).2⟩
def cpD (h : DH) (i i' : Nat) : Nat → DH
  | 0 => h
  | k + 1 => cpo (cpD h i i' k) (4, i, k) (4, i', k) 7
def cpR (h : DH) (i i' : Nat) : Nat → DH
  | 0 => h
  | k + 1 => cpo (cpR h i i' k) (5, i, h.2 (3, i, 0) k) (5, i', h.2 (3, i', 0) k) 5
def cpS (h : DH) (κ κ' : DKey) : DH := (fun q k => if q = κ ∧ 3 ≤ k ∧ k < 15 then h.1 κ' k else h.1 q k, h.2)
theorem cpD_2 (h : DH) (i i' k : Nat) : (cpD h i i' k).2 = h.2 := by
  induction k with
  | zero => rfl
  | succ k ih => exact ih
theorem cpR_2 (h : DH) (i i' k : Nat) : (cpR h i i' k).2 = h.2 := by
  induction k with
  | zero => rfl
  | succ k ih => exact ih
theorem Fr_cpD (h : DH) (i i' k : Nat) : Fr i h (cpD h i i' k) := by
  induction k with
  | zero => exact Fr.rf
  | succ k ih => exact Fr_cpo ih ⟨by show (4 : Nat) ≤ 5; decide, rfl⟩
theorem Fr_cpR (h : DH) (i i' k : Nat) : Fr i h (cpR h i i' k) := by
  induction k with
  | zero => exact Fr.rf
  | succ k ih => exact Fr_cpo ih ⟨by show (5 : Nat) ≤ 5; decide, rfl⟩
def cfull (h : DH) (i i' c : Nat) : DH := cpS (cpR (cpD (cpo h (1, i, 0) (1, i', 0) 10) i i' 12) i i' c) (0, i, 0) (0, i', 0)
theorem c_copyFrom (n i i' : Nat) (h : DH) (hne : i' ≠ i) {c : Nat} (hc : h.1 (0, i', 0) 3 = nI c) (h30 : c ≤ 30) (hz : ∀ j, j < 12 → h.1 (4, i', j) 5 = 0 ∨ h.1 (4, i', j) 5 = 1) (hb : h.1 (0, i', 0) 10 = 0 ∨ h.1 (0, i', 0) 10 = 1) : dEx (n + 2) 2 [.inr (0, i, 0), .inr (0, i', 0)] h (none, cfull h i i' c) := by
  refine dx_2 ?_
  generalize hr : (none, cfull h i i' c) = r
  refine Runs.go 2 rfl trivial ?_
  have e0 : h = cpo h (1, i, 0) (1, i', 0) 0 := (cpo_0 _ _ _).symm
  have goal1 : Runs dT_2 (dEx (n + 1)) (2, [some (.inr (0, i, 0)), some (.inr (0, i', 0)), some (.inl (nI 0))], [], cpo h (1, i, 0) (1, i', 0) 0) r := by
    refine Runs.loop 10 (fun k => (2, [some (.inr (0, i, 0)), some (.inr (0, i', 0)), some (.inl (nI k))], [], cpo h (1, i, 0) (1, i', 0) k)) (fun k hk ih => ?_) ?_
    · refine Runs.go 3 rfl trivial ?_
      refine Runs.ifF (i_ge hk (by decide)) ?_
      refine Runs.go 10 rfl ⟨⟨trivial, (i_in hk (by decide))⟩, (i_in hk (by decide))⟩ ?_
      rw [i_cl (by omega), cpo_succ h (by simp [hne]), nI_1]
      exact ih
    · refine Runs.go 3 rfl trivial ?_
      refine Runs.ifT (Int32.le_refl _) ?_
      have F1 : Fr i h (cpo h (1, i, 0) (1, i', 0) 10) := Fr_cpo Fr.rf ⟨by show (1 : Nat) ≤ 5; decide, rfl⟩
      generalize hg1 : cpo h (1, i, 0) (1, i', 0) 10 = g1 at F1 ⊢
      refine Runs.go 2 rfl trivial ?_
      refine Runs.loop 12 (fun k => (28, [some (.inr (0, i, 0)), some (.inr (0, i', 0)), some (.inl (nI k))], [], cpD g1 i i' k)) (fun k hk ih => ?_) ?_
      · refine Runs.go 3 rfl trivial ?_
        refine Runs.ifF (i_ge hk (by decide)) ?_
        refine Runs.go 8 rfl ⟨⟨trivial, (i_in hk (by decide))⟩, (i_in hk (by decide))⟩ ?_
        rw [i_cl (by omega)]
        have F2 := F1.tr (Fr_cpD g1 i i' k)
        refine Runs.calv rfl (c_diskCopy n i k i' k _ (by rw [F2.h1 (fun z => hne z.2)]; exact hz k hk)) ?_
        refine Runs.go 2 rfl trivial ?_
        rw [nI_1]
        exact ih
      · refine Runs.go 3 rfl trivial ?_
        refine Runs.ifT (Int32.le_refl _) ?_
        have F2 := F1.tr (Fr_cpD g1 i i' 12)
        have e2 : (cpD g1 i i' 12).2 = h.2 := by rw [cpD_2, ← hg1]; rfl
        generalize hg2 : cpD g1 i i' 12 = g2 at F2 e2 ⊢
        refine Runs.go 2 rfl trivial ?_
        refine Runs.loop c (fun k => (57, [some (.inr (0, i, 0)), some (.inr (0, i', 0)), some (.inl (nI k))], [], cpR g2 i i' k)) (fun k hk ih => ?_) ?_
        · refine Runs.go 4 rfl trivial ?_
          have F3 := F2.tr (Fr_cpR g2 i i' k)
          rw [F3.o hne 0 0, hc]
          refine Runs.ifF (i_ge hk (by omega)) ?_
          refine Runs.go 8 rfl ⟨⟨trivial, (i_in (show k < 30 by omega) (by decide))⟩, (i_in (show k < 30 by omega) (by decide))⟩ ?_
          rw [i_cl (by omega), cpR_2]
          refine Runs.calv rfl (c_readCopy n i _ i' _ _) ?_
          refine Runs.go 2 rfl trivial ?_
          rw [nI_1]
          exact ih
        · refine Runs.go 4 rfl trivial ?_
          have F3 := F2.tr (Fr_cpR g2 i i' c)
          rw [F3.o hne 0 0, hc]
          refine Runs.ifT (Int32.le_refl _) ?_
          have hb' : (cpR g2 i i' c).1 (0, i', 0) 10 = 0 ∨ (cpR g2 i i' c).1 (0, i', 0) 10 = 1 := by
            rw [F3.o hne 0 0]
            exact hb
          have hr' : r = (none, cpS (cpR g2 i i' c) (0, i, 0) (0, i', 0)) := by rw [← hr, ← hg2, ← hg1]; rfl
          generalize cpR g2 i i' c = g3 at hb' hr' ⊢
          rw [hr']
          refine Runs.go 48 rfl ⟨trivial, (by simpa [up1_1, hne] using hb')⟩ ?_
          refine Runs.fin ?_ trivial
          refine congrArg (fun z => some (True, (none, z))) ?_
          refine Prod.ext ?_ rfl
          funext q k
          simp only [up1_1, cpS]
          by_cases hq : q = (0, i, 0)
          · subst hq
            by_cases hk : 3 ≤ k ∧ k < 15
            · have : k = 3 ∨ k = 4 ∨ k = 5 ∨ k = 6 ∨ k = 7 ∨ k = 8 ∨ k = 9 ∨ k = 10 ∨ k = 11 ∨ k = 12 ∨ k = 13 ∨ k = 14 := by omega
              rcases this with rfl | rfl | rfl | rfl | rfl | rfl | rfl | rfl | rfl | rfl | rfl | rfl <;> simp [hne]
            · have : k ≠ 3 ∧ k ≠ 4 ∧ k ≠ 5 ∧ k ≠ 6 ∧ k ≠ 7 ∧ k ≠ 8 ∧ k ≠ 9 ∧ k ≠ 10 ∧ k ≠ 11 ∧ k ≠ 12 ∧ k ≠ 13 ∧ k ≠ 14 := by omega
              simp [this, hk]
          · simp [hq]
  rw [← e0] at goal1
  exact goal1
/-- set: the answer and the heap -/
theorem c_setNumber (n i : Nat) (y x : Int32) (h : DH) : (¬ wip y 0 9 → dEx (n + 2) 5 [.inr (0, i, 0), .inl y, .inl x] h (some (.inl (-1)), h)) ∧ (∀ w, w < 10 → y = nI w → dEx (n + 2) 5 [.inr (0, i, 0), .inl y, .inl x] h (if wi x (dcst 1 w) (dcst 2 w) = 0 then (some (.inl (-2)), h) else if h.1 (1, i, 0) w = x then (some (.inl (-5)), h) else (some (.inl (h.1 (1, i, 0) w)), up1 h (1, i, 0) w x))) := by
  constructor
  · intro hy
    refine dx_5 ?_
    refine Runs.go 3 rfl trivial ?_
    refine Runs.cal rfl (c_isWithin n _ _ _ h) ?_
    rw [wi_0 hy]
    refine Runs.go 1 rfl trivial ?_
    refine Runs.ifT rfl ?_
    refine Runs.go 1 rfl trivial ?_
    exact Runs.fin rfl trivial
  · rintro w hw rfl
    refine dx_5 ?_
    refine Runs.go 3 rfl trivial ?_
    refine Runs.cal rfl (c_isWithin n _ _ _ h) ?_
    rw [wi_1 (show wip (nI w) 0 9 from ⟨nI_pos (by omega), nI_nlt (show w ≤ 9 by omega) (by decide)⟩)]
    refine Runs.go 1 rfl trivial ?_
    refine Runs.ifF (by decide) ?_
    refine Runs.go 7 rfl ⟨⟨trivial, (i_in hw (by decide))⟩, (i_in hw (by decide))⟩ ?_
    rw [i_cl (show w < 2 ^ 31 by omega)]
    refine Runs.cal rfl (c_isWithin n _ _ _ h) ?_
    refine Runs.go 1 rfl trivial ?_
    refine Runs.ifS (fun z => ?_) (fun z => ?_)
    · rw [if_pos z]
      refine Runs.go 1 rfl trivial ?_
      exact Runs.fin rfl trivial
    · rw [if_neg z]
      refine Runs.go 8 rfl ⟨trivial, (i_in hw (by decide))⟩ ?_
      rw [i_cl (show w < 2 ^ 31 by omega)]
      refine Runs.ifS (fun z => ?_) (fun z => ?_)
      · rw [if_pos z]
        refine Runs.go 1 rfl trivial ?_
        exact Runs.fin rfl trivial
      · rw [if_neg z]
        refine Runs.go 6 rfl ⟨trivial, (i_in hw (by decide))⟩ ?_
        rw [i_cl (show w < 2 ^ 31 by omega)]
        exact Runs.fin rfl trivial
/-- a read is asked for -/
def caddH (h : DH) (i c d : Nat) (t : Int32) : DH := up1 (up1 (up1 (up1 (up1 (up1 (up1 (up1 h (5, i, h.2 (3, i, 0) c) 0 (h.1 (0, i, 0) 4)) (5, i, h.2 (3, i, 0) c) 1 (nI d)) (5, i, h.2 (3, i, 0) c) 2 t) (5, i, h.2 (3, i, 0) c) 3 t) (5, i, h.2 (3, i, 0) c) 4 (h.1 (0, i, 0) 8)) (0, i, 0) 3 (nI (c + 1))) (0, i, 0) 4 (h.1 (0, i, 0) 4 + 1)) (4, i, d) 6 (h.1 (4, i, d) 6 + 1)
theorem c_addRead (n i : Nat) (y t : Int32) (h : DH) {c : Nat} (hc : h.1 (0, i, 0) 3 = nI c) (h30 : c ≤ 30) : (¬ wip y 0 11 → dEx (n + 3) 10 [.inr (0, i, 0), .inl y, .inl t] h (some (.inl (-1)), h)) ∧ (∀ d, d < 12 → y = nI d → dEx (n + 3) 10 [.inr (0, i, 0), .inl y, .inl t] h (if wi t 1 50 = 0 then (some (.inl (-2)), h) else if h.1 (4, i, d) 0 = 3 then (some (.inl (-4)), h) else if c = 30 ∨ 500 ≤ h.1 (0, i, 0) 4 then (some (.inl (-3)), h) else (some (.inl (h.1 (0, i, 0) 4)), caddH h i c d t))) := by
  constructor
  · intro hy
    refine dx_10 ?_
    refine Runs.go 1 rfl trivial ?_
    refine Runs.cal rfl (c_isDisk n _ h) ?_
    rw [wi_0 hy]
    refine Runs.go 1 rfl trivial ?_
    refine Runs.ifT rfl ?_
    refine Runs.go 1 rfl trivial ?_
    exact Runs.fin rfl trivial
  · rintro d hd rfl
    refine dx_10 ?_
    refine Runs.go 1 rfl trivial ?_
    refine Runs.cal rfl (c_isDisk n _ h) ?_
    rw [wi_1 (show wip (nI d) 0 11 from ⟨nI_pos (by omega), nI_nlt (show d ≤ 11 by omega) (by decide)⟩)]
    refine Runs.go 1 rfl trivial ?_
    refine Runs.ifF (by decide) ?_
    refine Runs.go 3 rfl trivial ?_
    refine Runs.cal rfl (c_isWithin (n + 1) _ _ _ h) ?_
    refine Runs.go 1 rfl trivial ?_
    refine Runs.ifS (fun z => ?_) (fun z => ?_)
    · rw [if_pos z]
      refine Runs.go 1 rfl trivial ?_
      exact Runs.fin rfl trivial
    · rw [if_neg z]
      refine Runs.go 7 rfl ⟨trivial, (i_in hd (by decide))⟩ ?_
      rw [i_cl (show d < 2 ^ 31 by omega)]
      refine Runs.ifS (fun z => ?_) (fun z => ?_)
      · rw [if_pos z]
        refine Runs.go 1 rfl trivial ?_
        exact Runs.fin rfl trivial
      · rw [if_neg z]
        refine Runs.go 4 rfl trivial ?_
        rw [hc]
        by_cases h3 : c = 30
        · rw [if_pos (Or.inl h3), h3]
          refine Runs.ifT (by decide) ?_
          refine Runs.go 1 rfl trivial ?_
          exact Runs.fin rfl trivial
        · refine Runs.ifF (i_ge (show c < 30 by omega) (by decide)) ?_
          refine Runs.go 4 rfl trivial ?_
          refine Runs.ifS (fun z => ?_) (fun z => ?_)
          · rw [if_neg (fun q => q.elim h3 (fun q => absurd z (Int32.not_lt.mpr q)))]
            refine Runs.go 46 rfl ⟨⟨trivial, (by rw [hc]; exact i_in (show c < 30 by omega) (by decide))⟩, (i_in hd (by decide))⟩ ?_
            refine Runs.fin ?_ trivial
            refine congrArg some (Prod.ext rfl (Prod.ext ?_ ?_))
            · simp [up1_1, hc, i_cl (show c < 2 ^ 31 by omega)]
            · simp only [up1_1, up1_2, hc, i_cl (show c < 2 ^ 31 by omega), i_cl (show d < 2 ^ 31 by omega)]
              simp [caddH, nI_1, up1_2]
          · rw [if_pos (Or.inr (Int32.not_lt.mp z))]
            refine Runs.go 1 rfl trivial ?_
            exact Runs.fin rfl trivial
/-- a fault is planned -/
def cplans (h : DH) (i : Nat) : Int32 := sumN (fun j => if h.1 (4, i, j) 5 = 0 then 0 else 1) 12
theorem c_planFault (n i : Nat) (y : Int32) (h : DH) : (¬ wip y 0 11 → dEx (n + 3) 17 [.inr (0, i, 0), .inl y] h (some (.inl (-1)), h)) ∧ (∀ d, d < 12 → y = nI d → dEx (n + 3) 17 [.inr (0, i, 0), .inl y] h (if h.1 (4, i, d) 0 = 3 then (some (.inl (-4)), h) else if h.1 (4, i, d) 5 = 0 then (some (.inl (cplans (up1 h (4, i, d) 5 1) i)), up1 h (4, i, d) 5 1) else (some (.inl (-5)), h))) := by
  constructor
  · intro hy
    refine dx_17 ?_
    refine Runs.go 1 rfl trivial ?_
    refine Runs.cal rfl (c_isDisk n _ h) ?_
    rw [wi_0 hy]
    refine Runs.go 1 rfl trivial ?_
    refine Runs.ifT rfl ?_
    refine Runs.go 1 rfl trivial ?_
    exact Runs.fin rfl trivial
  · rintro d hd rfl
    refine dx_17 ?_
    refine Runs.go 1 rfl trivial ?_
    refine Runs.cal rfl (c_isDisk n _ h) ?_
    rw [wi_1 (show wip (nI d) 0 11 from ⟨nI_pos (by omega), nI_nlt (show d ≤ 11 by omega) (by decide)⟩)]
    refine Runs.go 1 rfl trivial ?_
    refine Runs.ifF (by decide) ?_
    refine Runs.go 7 rfl ⟨trivial, (i_in hd (by decide))⟩ ?_
    rw [i_cl (show d < 2 ^ 31 by omega)]
    refine Runs.ifS (fun z => ?_) (fun z => ?_)
    · rw [if_pos z]
      refine Runs.go 1 rfl trivial ?_
      exact Runs.fin rfl trivial
    · rw [if_neg z]
      refine Runs.go 6 rfl ⟨trivial, (i_in hd (by decide))⟩ ?_
      rw [i_cl (show d < 2 ^ 31 by omega)]
      refine Runs.ifS (fun z => ?_) (fun z => ?_)
      · rw [if_pos z]
        generalize hr : ((some (.inl (cplans (up1 h (4, i, d) 5 1) i)) : Option DV), up1 h (4, i, d) 5 1) = r
        refine Runs.go 10 rfl ⟨⟨trivial, i_in hd (by decide)⟩, Or.inr rfl⟩ ?_
        rw [i_cl (show d < 2 ^ 31 by omega)]
        generalize hg : up1 h (4, i, d) 5 1 = g at hr ⊢
        refine Runs.loop 12 (fun k => (54, [some (.inr (0, i, 0)), some (.inl (nI d)), some (.inl (sumN (fun j => if g.1 (4, i, j) 5 = 0 then 0 else 1) k)), some (.inl (nI k))], [], g)) (fun k hk ih => ?_) ?_
        · refine Runs.go 3 rfl trivial ?_
          refine Runs.ifF (i_ge hk (by decide)) ?_
          refine Runs.go 6 rfl ⟨trivial, (i_in hk (by decide))⟩ ?_
          rw [i_cl (show k < 2 ^ 31 by omega)]
          refine Runs.cal rfl (c_flag (n + 1) _ g) ?_
          refine Runs.go 4 rfl trivial ?_
          rw [nI_1]
          exact ih
        · refine Runs.go 3 rfl trivial ?_
          refine Runs.ifT (Int32.le_refl _) ?_
          refine Runs.go 1 rfl trivial ?_
          refine Runs.fin ?_ trivial
          rw [← hr]
          rfl
      · rw [if_neg z]
        refine Runs.go 1 rfl trivial ?_
        exact Runs.fin rfl trivial
/-- a disk is replaced -/
def crpB (g : DH) (i d k : Nat) : DH := if g.1 (5, i, g.2 (3, i, 0) k) 1 = nI d then up1 g (5, i, g.2 (3, i, 0) k) 3 (g.1 (5, i, g.2 (3, i, 0) k) 2) else g
def crp (h : DH) (i d : Nat) : Nat → DH
  | 0 => up1 (up1 (up1 (sbH h (4, i, d)) (4, i, d) 2 0) (4, i, d) 4 0) (4, i, d) 5 0
  | k + 1 => crpB (crp h i d k) i d k
theorem crp_2 (h : DH) (i d k : Nat) : (crp h i d k).2 = h.2 := by
  induction k with
  | zero => rfl
  | succ k ih =>
    show (crpB (crp h i d k) i d k).2 = h.2
    unfold crpB
    split
    · exact ih
    · exact ih
theorem crp_0 (h : DH) (i d k : Nat) : (crp h i d k).1 (0, i, 0) = h.1 (0, i, 0) := by
  induction k with
  | zero =>
    funext j
    simp [crp, sbH, up1_1]
  | succ k ih =>
    show (crpB (crp h i d k) i d k).1 (0, i, 0) = h.1 (0, i, 0)
    unfold crpB
    split
    · rw [up1_ne _ _ _ (by simp)]
      exact ih
    · exact ih
theorem c_replaceDisk (n i : Nat) (y : Int32) (h : DH) {c : Nat} (hc : h.1 (0, i, 0) 3 = nI c) (h30 : c ≤ 30) : (¬ wip y 0 11 → dEx (n + 3) 20 [.inr (0, i, 0), .inl y] h (some (.inl (-1)), h)) ∧ (∀ d, d < 12 → y = nI d → dEx (n + 3) 20 [.inr (0, i, 0), .inl y] h (some (.inl (h.1 (4, i, d) 0)), crp h i d c)) := by
  constructor
  · intro hy
    refine dx_20 ?_
    refine Runs.go 1 rfl trivial ?_
    refine Runs.cal rfl (c_isDisk n _ h) ?_
    rw [wi_0 hy]
    refine Runs.go 1 rfl trivial ?_
    refine Runs.ifT rfl ?_
    refine Runs.go 1 rfl trivial ?_
    exact Runs.fin rfl trivial
  · rintro d hd rfl
    refine dx_20 ?_
    generalize hr : ((some (.inl (h.1 (4, i, d) 0)) : Option DV), crp h i d c) = r
    refine Runs.go 1 rfl trivial ?_
    refine Runs.cal rfl (c_isDisk n _ h) ?_
    rw [wi_1 (show wip (nI d) 0 11 from ⟨nI_pos (by omega), nI_nlt (show d ≤ 11 by omega) (by decide)⟩)]
    refine Runs.go 1 rfl trivial ?_
    refine Runs.ifF (by decide) ?_
    refine Runs.go 10 rfl ⟨⟨trivial, (i_in hd (by decide))⟩, (i_in hd (by decide))⟩ ?_
    rw [i_cl (show d < 2 ^ 31 by omega)]
    refine Runs.calv rfl (c_renew n i d h) ?_
    refine Runs.go 2 rfl trivial ?_
    refine Runs.loop c (fun k => (30, [some (.inr (0, i, 0)), some (.inl (nI d)), some (.inl (h.1 (4, i, d) 0)), some (.inl (nI k))], [], crp h i d k)) (fun k hk ih => ?_) ?_
    · refine Runs.go 4 rfl trivial ?_
      rw [crp_0, hc]
      refine Runs.ifF (i_ge hk (by omega)) ?_
      refine Runs.go 7 rfl ⟨trivial, (i_in (show k < 30 by omega) (by decide))⟩ ?_
      rw [i_cl (by omega)]
      rw [show crp h i d (k + 1) = crpB (crp h i d k) i d k from rfl] at ih
      unfold crpB at ih
      refine Runs.ifS (fun z => ?_) (fun z => ?_)
      · rw [if_pos z] at ih
        refine Runs.go 12 rfl ⟨⟨trivial, (i_in (show k < 30 by omega) (by decide))⟩, (i_in (show k < 30 by omega) (by decide))⟩ ?_
        rw [i_cl (by omega), nI_1]
        exact ih
      · rw [if_neg z] at ih
        refine Runs.go 2 rfl trivial ?_
        rw [nI_1]
        exact ih
    · refine Runs.go 4 rfl trivial ?_
      rw [crp_0, hc]
      refine Runs.ifT (Int32.le_refl _) ?_
      refine Runs.go 1 rfl trivial ?_
      exact Runs.fin (by rw [← hr]; rfl) trivial
theorem c_renewFuse (n i : Nat) (h : DH) : dEx (n + 3) 24 [.inr (0, i, 0)] h (if h.1 (0, i, 0) 10 = 0 then (some (.inl (-5)), h) else (some (.inl (sumN (ccur (up1 h (0, i, 0) 10 0) i) 12)), up1 h (0, i, 0) 10 0)) := by
  refine dx_24 ?_
  refine Runs.go 3 rfl trivial ?_
  refine Runs.ifS (fun z => ?_) (fun z => ?_)
  · rw [if_pos z]
    refine Runs.go 1 rfl trivial ?_
    exact Runs.fin rfl trivial
  · rw [if_neg z]
    refine Runs.go 4 rfl ⟨trivial, (Or.inl rfl)⟩ ?_
    refine Runs.cal rfl (c_currentOfNow n i _) ?_
    exact Runs.fin rfl trivial
end
section
/-! the class's tick, as it is -/
def bitOf (d : Int32) : Int32 := (1 : Int32) <<< (d &&& 31)
def failH (h : DH) (κ : DKey) : DH := if h.1 κ 2 + 1 < 3 then up1 (up1 (sbH h κ) κ 5 0) κ 2 (h.1 κ 2 + 1) else up1 (up1 (up1 (sbH h κ) κ 5 0) κ 2 (h.1 κ 2 + 1)) κ 0 3
def clB (g : DH) (i d k : Nat) : DH := if g.1 (5, i, g.2 (3, i, 0) k) 1 = nI d then up1 (up1 g (5, i, g.2 (3, i, 0) k) 3 0) (0, i, 0) 6 (g.1 (0, i, 0) 6 + 1) else g
def close (h : DH) (i d : Nat) : Nat → DH
  | 0 => h
  | k + 1 => clB (close h i d k) i d k
theorem close_2 (h : DH) (i d k : Nat) : (close h i d k).2 = h.2 := by
  induction k with
  | zero => rfl
  | succ k ih =>
    show (clB (close h i d k) i d k).2 = h.2
    unfold clB
    split <;> exact ih
theorem close_3 (h : DH) (i d k : Nat) : (close h i d k).1 (0, i, 0) 3 = h.1 (0, i, 0) 3 := by
  induction k with
  | zero => rfl
  | succ k ih =>
    show (clB (close h i d k) i d k).1 (0, i, 0) 3 = h.1 (0, i, 0) 3
    unfold clB
    split
    · simp only [up1_1]
      simpa using ih
    · exact ih
theorem c_lose (n i d : Nat) (h : DH) {c : Nat} (hc : h.1 (0, i, 0) 3 = nI c) (h30 : c ≤ 30) : dEx (n + 1) 33 [.inr (0, i, 0), .inl (nI d)] h (none, close h i d c) := by
  refine dx_33 ?_
  generalize hr : ((none : Option DV), close h i d c) = r
  refine Runs.go 2 rfl trivial ?_
  refine Runs.loop c (fun k => (2, [some (.inr (0, i, 0)), some (.inl (nI d)), some (.inl (nI k))], [], close h i d k)) (fun k hk ih => ?_) ?_
  · refine Runs.go 4 rfl trivial ?_
    rw [close_3, hc]
    refine Runs.ifF (i_ge hk (by omega)) ?_
    refine Runs.go 7 rfl ⟨trivial, (i_in (show k < 30 by omega) (by decide))⟩ ?_
    rw [i_cl (by omega)]
    rw [show close h i d (k + 1) = clB (close h i d k) i d k from rfl] at ih
    unfold clB at ih
    refine Runs.ifS (fun z => ?_) (fun z => ?_)
    · rw [if_pos z] at ih
      refine Runs.go 14 rfl ⟨trivial, (i_in (show k < 30 by omega) (by decide))⟩ ?_
      rw [i_cl (by omega), nI_1]
      exact ih
    · rw [if_neg z] at ih
      refine Runs.go 2 rfl trivial ?_
      rw [nI_1]
      exact ih
  · refine Runs.go 4 rfl trivial ?_
    rw [close_3, hc]
    refine Runs.ifT (Int32.le_refl _) ?_
    exact Runs.fin (by rw [← hr]; rfl) trivial
def gsB (i c d : Nat) (q : DH × Int32) : DH × Int32 := if q.1.1 (4, i, d) 0 = 1 then (if 0 < q.1.1 (4, i, d) 1 - 1 then (up1 q.1 (4, i, d) 1 (q.1.1 (4, i, d) 1 - 1), q.2) else if q.1.1 (4, i, d) 5 = 0 then (up1 (up1 (up1 (up1 q.1 (4, i, d) 1 (q.1.1 (4, i, d) 1 - 1)) (4, i, d) 0 2) (4, i, d) 2 0) (4, i, d) 3 0, q.2) else (if (failH (up1 (up1 q.1 (4, i, d) 1 (q.1.1 (4, i, d) 1 - 1)) (0, i, 0) 14 (q.1.1 (0, i, 0) 14 + 1)) (4, i, d)).1 (4, i, d) 0 = 3 then close (failH (up1 (up1 q.1 (4, i, d) 1 (q.1.1 (4, i, d) 1 - 1)) (0, i, 0) 14 (q.1.1 (0, i, 0) 14 + 1)) (4, i, d)) i d c else failH (up1 (up1 q.1 (4, i, d) 1 (q.1.1 (4, i, d) 1 - 1)) (0, i, 0) 14 (q.1.1 (0, i, 0) 14 + 1)) (4, i, d), q.2 ||| bitOf (nI d))) else q
def gs (h : DH) (i c : Nat) : Nat → DH × Int32
  | 0 => (h, 0)
  | k + 1 => gsB i c k (gs h i c k)
theorem failH_o (h : DH) {κ q : DKey} (hq : q ≠ κ) : (failH h κ).1 q = h.1 q := by
  funext j
  unfold failH
  split <;> simp [up1_1, sbH, hq]
theorem failH_2 (h : DH) (κ : DKey) : (failH h κ).2 = h.2 := by
  unfold failH
  split <;> rfl
theorem gsB_3 (i c d : Nat) (q : DH × Int32) : (gsB i c d q).1.1 (0, i, 0) 3 = q.1.1 (0, i, 0) 3 ∧ (gsB i c d q).1.2 = q.1.2 := by
  unfold gsB
  split
  · split
    · exact ⟨by simp [up1_1], rfl⟩
    · split
      · exact ⟨by simp [up1_1], rfl⟩
      · dsimp only
        split
        · exact ⟨by rw [close_3, failH_o _ (by simp)]; simp [up1_1], by rw [close_2, failH_2]; rfl⟩
        · exact ⟨by rw [failH_o _ (by simp)]; simp [up1_1], by rw [failH_2]; rfl⟩
  · exact ⟨rfl, rfl⟩
theorem gs_3 (h : DH) (i c k : Nat) : (gs h i c k).1.1 (0, i, 0) 3 = h.1 (0, i, 0) 3 ∧ (gs h i c k).1.2 = h.2 := by
  induction k with
  | zero => exact ⟨rfl, rfl⟩
  | succ k ih => exact ⟨(gsB_3 i c k _).1.trans ih.1, (gsB_3 i c k _).2.trans ih.2⟩
def lo3 (i : Nat) : Nat → Option DV
  | 0 => none
  | k + 1 => some (.inr (4, i, k))
theorem c_goOnStarting (n i : Nat) (h : DH) {c : Nat} (hc : h.1 (0, i, 0) 3 = nI c) (h30 : c ≤ 30) : dEx (n + 3) 31 [.inr (0, i, 0)] h (some (.inl (gs h i c 12).2), (gs h i c 12).1) := by
  refine dx_31 ?_
  generalize hr : ((some (.inl (gs h i c 12).2) : Option DV), (gs h i c 12).1) = r
  refine Runs.go 4 rfl trivial ?_
  refine Runs.loop 12 (fun k => (4, [some (.inr (0, i, 0)), some (.inl (gs h i c k).2), some (.inl (nI k)), lo3 i k], [], (gs h i c k).1)) (fun k hk ih => ?_) ?_
  · refine Runs.go 3 rfl trivial ?_
    refine Runs.ifF (i_ge hk (by decide)) ?_
    have hc' := (gs_3 h i c k).1
    rw [hc] at hc'
    rw [show gs h i c (k + 1) = gsB i c k (gs h i c k) from rfl] at ih
    generalize gs h i c k = q at ih hc' ⊢
    obtain ⟨g, b⟩ := q
    unfold gsB at ih
    dsimp only at ih hc' ⊢
    refine Runs.go 9 rfl ⟨trivial, (i_in hk (by decide))⟩ ?_
    rw [i_cl (by omega)]
    refine Runs.ifS (fun z => ?_) (fun z => ?_)
    · rw [if_pos (show g.1 (4, i, k) 0 = 1 from z)] at ih
      refine Runs.go 9 rfl trivial ?_
      rw [show (up1 g (4, i, k) 1 (g.1 (4, i, k) 1 - 1)).1 (4, i, k) 1 = g.1 (4, i, k) 1 - 1 by simp [up1_1]]
      refine Runs.ifS (fun z2 => ?_) (fun z2 => ?_)
      · rw [if_pos z2] at ih
        refine Runs.go 3 rfl trivial ?_
        rw [show (up1 g (4, i, k) 1 (g.1 (4, i, k) 1 - 1)).1 (4, i, k) 1 = g.1 (4, i, k) 1 - 1 by simp [up1_1]]
        refine Runs.ifT z2 ?_
        refine Runs.go 2 rfl trivial ?_
        rw [nI_1]
        exact ih
      · rw [if_neg z2] at ih
        refine Runs.go 3 rfl trivial ?_
        rw [show (up1 g (4, i, k) 1 (g.1 (4, i, k) 1 - 1)).1 (4, i, k) 5 = g.1 (4, i, k) 5 by simp [up1_1]]
        refine Runs.ifS (fun z3 => ?_) (fun z3 => ?_)
        · rw [if_pos z3] at ih
          refine Runs.go 3 rfl trivial ?_
          rw [show (up1 g (4, i, k) 1 (g.1 (4, i, k) 1 - 1)).1 (4, i, k) 1 = g.1 (4, i, k) 1 - 1 by simp [up1_1]]
          refine Runs.ifF z2 ?_
          refine Runs.go 1 rfl trivial ?_
          refine Runs.calv rfl (c_spinUp (n + 1) i k _) ?_
          refine Runs.go 2 rfl trivial ?_
          rw [nI_1]
          exact ih
        · rw [if_neg z3] at ih
          refine Runs.go 13 rfl trivial ?_
          rw [show (up1 g (4, i, k) 1 (g.1 (4, i, k) 1 - 1)).1 (0, i, 0) 14 = g.1 (0, i, 0) 14 by simp [up1_1]]
          generalize hg2 : up1 (up1 g (4, i, k) 1 (g.1 (4, i, k) 1 - 1)) (0, i, 0) 14 (g.1 (0, i, 0) 14 + 1) = g2 at ih ⊢
          have hc2 : g2.1 (0, i, 0) 3 = nI c := by rw [← hg2]; simpa [up1_1] using hc'
          refine Runs.calv rfl (show dEx (n + 2) 32 [.inr (4, i, k)] g2 (none, failH g2 (4, i, k)) from c_failStart n i k g2) ?_
          have hc3 : (failH g2 (4, i, k)).1 (0, i, 0) 3 = nI c := by rw [failH_o _ (by simp)]; exact hc2
          generalize failH g2 (4, i, k) = g3 at ih hc3 ⊢
          refine Runs.go 4 rfl trivial ?_
          refine Runs.ifS (fun z4 => ?_) (fun z4 => ?_)
          · rw [if_pos z4] at ih
            refine Runs.go 2 rfl trivial ?_
            refine Runs.calv rfl (c_lose (n + 1) i k g3 hc3 h30) ?_
            refine Runs.go 3 rfl trivial ?_
            rw [nI_1]
            exact ih
          · rw [if_neg z4] at ih
            refine Runs.go 2 rfl trivial ?_
            rw [nI_1]
            exact ih
    · rw [if_neg (show ¬ g.1 (4, i, k) 0 = 1 from z)] at ih
      refine Runs.go 2 rfl trivial ?_
      rw [nI_1]
      exact ih
  · refine Runs.go 3 rfl trivial ?_
    refine Runs.ifT (Int32.le_refl _) ?_
    refine Runs.go 1 rfl trivial ?_
    exact Runs.fin (by rw [← hr]; rfl) trivial
/-- disks that spin and read nothing -/
def riB (i : Nat) (b : Int32) (d : Nat) (g : DH) : DH := if g.1 (4, i, d) 0 = 2 then (if b &&& bitOf (nI d) = 0 then (if g.1 (1, i, 0) 9 ≤ 0 then up1 g (4, i, d) 3 (g.1 (4, i, d) 3 + 1) else if g.1 (4, i, d) 3 + 1 < g.1 (1, i, 0) 9 then up1 g (4, i, d) 3 (g.1 (4, i, d) 3 + 1) else sbH (up1 g (4, i, d) 3 (g.1 (4, i, d) 3 + 1)) (4, i, d)) else g) else g
def ri (h : DH) (i : Nat) (b : Int32) : Nat → DH
  | 0 => h
  | k + 1 => riB i b k (ri h i b k)
theorem c_restIdle (n i : Nat) (b : Int32) (h : DH) : dEx (n + 2) 36 [.inr (0, i, 0), .inl b] h (none, ri h i b 12) := by
  refine dx_36 ?_
  generalize hr : ((none : Option DV), ri h i b 12) = r
  refine Runs.go 2 rfl trivial ?_
  refine Runs.loop 12 (fun k => (2, [some (.inr (0, i, 0)), some (.inl b), some (.inl (nI k)), lo3 i k], [], ri h i b k)) (fun k hk ih => ?_) ?_
  · refine Runs.go 3 rfl trivial ?_
    refine Runs.ifF (i_ge hk (by decide)) ?_
    rw [show ri h i b (k + 1) = riB i b k (ri h i b k) from rfl] at ih
    generalize ri h i b k = g at ih ⊢
    unfold riB at ih
    refine Runs.go 9 rfl ⟨trivial, (i_in hk (by decide))⟩ ?_
    rw [i_cl (by omega)]
    refine Runs.ifS (fun z => ?_) (fun z => ?_)
    · rw [if_pos z] at ih
      refine Runs.go 6 rfl trivial ?_
      refine Runs.ifS (fun z2 => ?_) (fun z2 => ?_)
      · rw [if_pos (show b &&& bitOf (nI k) = 0 from z2)] at ih
        refine Runs.go 11 rfl ⟨trivial, (by unfold vp_in; decide)⟩ ?_
        rw [show (up1 g (4, i, k) 3 (g.1 (4, i, k) 3 + 1)).1 (1, i, 0) (Int32.toNatClampNeg 9) = g.1 (1, i, 0) 9 by simp [up1_1]]
        refine Runs.ifS (fun z3 => ?_) (fun z3 => ?_)
        · rw [if_pos z3] at ih
          refine Runs.go 2 rfl trivial ?_
          rw [nI_1]
          exact ih
        · rw [if_neg z3] at ih
          refine Runs.go 7 rfl ⟨trivial, (by unfold vp_in; decide)⟩ ?_
          rw [show (up1 g (4, i, k) 3 (g.1 (4, i, k) 3 + 1)).1 (1, i, 0) (Int32.toNatClampNeg 9) = g.1 (1, i, 0) 9 by simp [up1_1], show (up1 g (4, i, k) 3 (g.1 (4, i, k) 3 + 1)).1 (4, i, k) 3 = g.1 (4, i, k) 3 + 1 by simp [up1_1]]
          refine Runs.ifS (fun z4 => ?_) (fun z4 => ?_)
          · rw [if_pos z4] at ih
            refine Runs.go 2 rfl trivial ?_
            rw [nI_1]
            exact ih
          · rw [if_neg z4] at ih
            refine Runs.go 1 rfl trivial ?_
            refine Runs.calv rfl (c_standBy n i k _) ?_
            refine Runs.go 2 rfl trivial ?_
            rw [nI_1]
            exact ih
      · rw [if_neg (show ¬ b &&& bitOf (nI k) = 0 from z2)] at ih
        refine Runs.go 2 rfl trivial ?_
        rw [nI_1]
        exact ih
    · rw [if_neg z] at ih
      refine Runs.go 2 rfl trivial ?_
      rw [nI_1]
      exact ih
  · refine Runs.go 3 rfl trivial ?_
    refine Runs.ifT (Int32.le_refl _) ?_
    exact Runs.fin (by rw [← hr]; rfl) trivial
/-- reads that are over are taken out; the second is how many stay -/
def swB (i p : Nat) (q : DH × Nat) : DH × Nat := if 0 < q.1.1 (5, i, q.1.2 (3, i, 0) p) 3 then (up2 (up2 q.1 (3, i, 0) p (q.1.2 (3, i, 0) q.2)) (3, i, 0) q.2 (q.1.2 (3, i, 0) p), q.2 + 1) else (up1 q.1 (4, i, (q.1.1 (5, i, q.1.2 (3, i, 0) p) 1).toNatClampNeg) 6 (q.1.1 (4, i, (q.1.1 (5, i, q.1.2 (3, i, 0) p) 1).toNatClampNeg) 6 - 1), q.2)
def sw (h : DH) (i : Nat) : Nat → DH × Nat
  | 0 => (h, 0)
  | k + 1 => swB i k (sw h i k)
def rok (h : DH) (i c : Nat) : Prop := ∀ k, k < c → ∃ d, d < 12 ∧ h.1 (5, i, h.2 (3, i, 0) k) 1 = nI d
theorem sw_inv (h : DH) (i : Nat) : ∀ k, (sw h i k).2 ≤ k ∧ (∀ j, (sw h i k).1.1 (5, i, j) = h.1 (5, i, j)) ∧ (sw h i k).1.1 (0, i, 0) = h.1 (0, i, 0) ∧ (∀ p, k ≤ p → (sw h i k).1.2 (3, i, 0) p = h.2 (3, i, 0) p) := by
  intro k
  induction k with
  | zero => exact ⟨Nat.le_refl _, fun _ => rfl, rfl, fun _ _ => rfl⟩
  | succ k ih =>
    obtain ⟨h1, h2, h3, h4⟩ := ih
    rw [show sw h i (k + 1) = swB i k (sw h i k) from rfl]
    unfold swB
    split
    · refine ⟨by show _ + 1 ≤ k + 1; omega, h2, h3, fun p hp => ?_⟩
      show (if _ ∧ p = (sw h i k).2 then _ else if _ ∧ p = k then _ else _) = _
      rw [if_neg (by omega), if_neg (by omega)]
      exact h4 p (by omega)
    · refine ⟨by show _ ≤ k + 1; omega, fun j => ?_, ?_, fun p hp => h4 p (by omega)⟩
      · rw [up1_ne _ _ _ (by simp)]
        exact h2 j
      · rw [up1_ne _ _ _ (by simp)]
        exact h3
def lo5 (h : DH) (i : Nat) : Nat → Option DV
  | 0 => none
  | k + 1 => some (.inr (5, i, h.2 (3, i, 0) k))
theorem c_sweep (n i : Nat) (h : DH) {c : Nat} (hc : h.1 (0, i, 0) 3 = nI c) (h30 : c ≤ 30) (hk0 : rok h i c) : dEx (n + 1) 15 [.inr (0, i, 0)] h (none, up1 (sw h i c).1 (0, i, 0) 3 (nI (sw h i c).2)) := by
  refine dx_15 ?_
  generalize hr : ((none : Option DV), up1 (sw h i c).1 (0, i, 0) 3 (nI (sw h i c).2)) = r
  refine Runs.go 4 rfl trivial ?_
  refine Runs.loop c (fun k => (4, [some (.inr (0, i, 0)), some (.inl (nI (sw h i k).2)), some (.inl (nI k)), lo5 h i k], [], (sw h i k).1)) (fun k hk ih => ?_) ?_
  · refine Runs.go 4 rfl trivial ?_
    obtain ⟨w1, w2, w3, w4⟩ := sw_inv h i k
    obtain ⟨d, hd, hkd⟩ := hk0 k hk
    rw [w3, hc]
    refine Runs.ifF (i_ge hk (by omega)) ?_
    refine Runs.go 8 rfl ⟨trivial, (i_in (show k < 30 by omega) (by decide))⟩ ?_
    rw [i_cl (show k < 2 ^ 31 by omega)]
    have e4 : (sw h i k).1.2 (3, i, 0) k = h.2 (3, i, 0) k := w4 k (Nat.le_refl k)
    rw [show sw h i (k + 1) = swB i k (sw h i k) from rfl] at ih
    unfold swB at ih
    rw [show lo5 h i (k + 1) = some (.inr (5, i, (sw h i k).1.2 (3, i, 0) k)) by rw [e4]; rfl] at ih
    have e5 : (sw h i k).1.1 (5, i, (sw h i k).1.2 (3, i, 0) k) 1 = nI d := by rw [w2, e4]; exact hkd
    generalize sw h i k = q at ih w1 e5 ⊢
    obtain ⟨g, b⟩ := q
    dsimp only at ih w1 e5 ⊢
    by_cases z : 0 < g.1 (5, i, g.2 (3, i, 0) k) 3
    · rw [if_pos z] at ih
      refine Runs.ifF (Int32.not_le.mpr z) ?_
      refine Runs.go 17 rfl ⟨⟨⟨trivial, (i_in (show b < 30 by omega) (by decide))⟩, (⟨i_in (show k < 30 by omega) (by decide), rfl⟩)⟩, (⟨i_in (show b < 30 by omega) (by decide), rfl⟩)⟩ ?_
      rw [i_cl (show k < 2 ^ 31 by omega), i_cl (show b < 2 ^ 31 by omega), nI_1, nI_1]
      exact ih
    · rw [if_neg z] at ih
      refine Runs.ifT (Int32.not_lt.mp z) ?_
      refine Runs.go 12 rfl ⟨trivial, (by rw [e5]; exact i_in hd (by decide))⟩ ?_
      rw [nI_1]
      exact ih
  · refine Runs.go 4 rfl trivial ?_
    obtain ⟨w1, w2, w3, w4⟩ := sw_inv h i c
    rw [w3, hc]
    refine Runs.ifT (Int32.le_refl _) ?_
    refine Runs.go 3 rfl trivial ?_
    exact Runs.fin (by rw [← hr]; rfl) trivial
end
section
/-! the class's tick, the rest -/
def grB (i : Nat) (k : Nat) (q : DH × Int32) : DH × Int32 := if q.1.1 (4, i, (q.1.1 (5, i, q.1.2 (3, i, 0) k) 1).toNatClampNeg) 0 = 2 then (if q.2 &&& bitOf (q.1.1 (5, i, q.1.2 (3, i, 0) k) 1) = 0 then (if 0 < q.1.1 (5, i, q.1.2 (3, i, 0) k) 3 - 1 then (up1 (up1 q.1 (4, i, (q.1.1 (5, i, q.1.2 (3, i, 0) k) 1).toNatClampNeg) 3 0) (5, i, q.1.2 (3, i, 0) k) 3 (q.1.1 (5, i, q.1.2 (3, i, 0) k) 3 - 1), q.2 ||| bitOf (q.1.1 (5, i, q.1.2 (3, i, 0) k) 1)) else (up1 (up1 (up1 (up1 q.1 (4, i, (q.1.1 (5, i, q.1.2 (3, i, 0) k) 1).toNatClampNeg) 3 0) (5, i, q.1.2 (3, i, 0) k) 3 (q.1.1 (5, i, q.1.2 (3, i, 0) k) 3 - 1)) (0, i, 0) 5 (q.1.1 (0, i, 0) 5 + 1)) (0, i, 0) 7 (q.1.1 (0, i, 0) 7 + (q.1.1 (0, i, 0) 8 + 1 - q.1.1 (5, i, q.1.2 (3, i, 0) k) 4)), q.2 ||| bitOf (q.1.1 (5, i, q.1.2 (3, i, 0) k) 1))) else q) else q
def gr (h : DH) (i : Nat) : Nat → DH × Int32
  | 0 => (h, 0)
  | k + 1 => grB i k (gr h i k)
theorem gr_inv (h : DH) (i : Nat) : ∀ k, (gr h i k).1.1 (0, i, 0) 3 = h.1 (0, i, 0) 3 ∧ (gr h i k).1.2 = h.2 ∧ ∀ j, (gr h i k).1.1 (5, i, j) 1 = h.1 (5, i, j) 1 := by
  intro k
  induction k with
  | zero => exact ⟨rfl, rfl, fun _ => rfl⟩
  | succ k ih =>
    obtain ⟨h1, h2, h3⟩ := ih
    rw [show gr h i (k + 1) = grB i k (gr h i k) from rfl]
    unfold grB
    split
    · split
      · split
        · exact ⟨by simpa [up1_1] using h1, h2, fun j => by simpa [up1_1] using h3 j⟩
        · exact ⟨by simpa [up1_1] using h1, h2, fun j => by simpa [up1_1] using h3 j⟩
      · exact ⟨h1, h2, h3⟩
    · exact ⟨h1, h2, h3⟩
def lob (h : DH) (i : Nat) : Nat → Option DV
  | 0 => none
  | k + 1 => some (.inl (bitOf (h.1 (5, i, h.2 (3, i, 0) k) 1)))
theorem ri_inv (h : DH) (i : Nat) (b : Int32) : ∀ k, (ri h i b k).1 (0, i, 0) = h.1 (0, i, 0) ∧ (ri h i b k).2 = h.2 ∧ ∀ j, (ri h i b k).1 (5, i, j) = h.1 (5, i, j) := by
  intro k
  induction k with
  | zero => exact ⟨rfl, rfl, fun _ => rfl⟩
  | succ k ih =>
    obtain ⟨h1, h2, h3⟩ := ih
    rw [show ri h i b (k + 1) = riB i b k (ri h i b k) from rfl]
    have step : ∀ x, (up1 (ri h i b k) (4, i, k) 3 x).1 (0, i, 0) = h.1 (0, i, 0) ∧ (up1 (ri h i b k) (4, i, k) 3 x).2 = h.2 ∧ ∀ j, (up1 (ri h i b k) (4, i, k) 3 x).1 (5, i, j) = h.1 (5, i, j) := fun x => ⟨by rw [up1_ne _ _ _ (by simp)]; exact h1, h2, fun j => by rw [up1_ne _ _ _ (by simp)]; exact h3 j⟩
    unfold riB
    split
    · split
      · split
        · exact step _
        · split
          · exact step _
          · obtain ⟨s1, s2, s3⟩ := step ((ri h i b k).1 (4, i, k) 3 + 1)
            refine ⟨?_, s2, fun j => ?_⟩
            · unfold sbH
              rw [up1_ne _ _ _ (by simp), up1_ne _ _ _ (by simp), up1_ne _ _ _ (by simp)]
              exact s1
            · unfold sbH
              rw [up1_ne _ _ _ (by simp), up1_ne _ _ _ (by simp), up1_ne _ _ _ (by simp)]
              exact s3 j
      · exact ⟨h1, h2, h3⟩
    · exact ⟨h1, h2, h3⟩
def grAll (h : DH) (i c : Nat) : DH := up1 (sw (ri (gr h i c).1 i (gr h i c).2 12) i c).1 (0, i, 0) 3 (nI (sw (ri (gr h i c).1 i (gr h i c).2 12) i c).2)
theorem c_goOnReading (n i : Nat) (h : DH) {c : Nat} (hc : h.1 (0, i, 0) 3 = nI c) (h30 : c ≤ 30) (hk0 : rok h i c) : dEx (n + 3) 35 [.inr (0, i, 0)] h (none, grAll h i c) := by
  refine dx_35 ?_
  generalize hr : ((none : Option DV), grAll h i c) = r
  refine Runs.go 4 rfl trivial ?_
  refine Runs.loop c (fun k => (4, [some (.inr (0, i, 0)), some (.inl (gr h i k).2), some (.inl (nI k)), lo5 h i k, lob h i k], [], (gr h i k).1)) (fun k hk ih => ?_) ?_
  · refine Runs.go 4 rfl trivial ?_
    obtain ⟨w1, w2, w3⟩ := gr_inv h i k
    obtain ⟨d, hd, hkd⟩ := hk0 k hk
    rw [w1, hc]
    refine Runs.ifF (i_ge hk (by omega)) ?_
    rw [show gr h i (k + 1) = grB i k (gr h i k) from rfl] at ih
    rw [show lo5 h i (k + 1) = some (.inr (5, i, (gr h i k).1.2 (3, i, 0) k)) by rw [w2]; rfl] at ih
    have e5 : (gr h i k).1.1 (5, i, (gr h i k).1.2 (3, i, 0) k) 1 = nI d := by rw [w3, w2]; exact hkd
    rw [show lob h i (k + 1) = some (.inl (bitOf (nI d))) by rw [← hkd]; rfl] at ih
    generalize gr h i k = q at ih e5 ⊢
    obtain ⟨g, b⟩ := q
    unfold grB at ih
    dsimp only at ih e5 ⊢
    rw [e5, i_cl (show d < 2 ^ 31 by omega)] at ih
    refine Runs.go 18 rfl ⟨⟨trivial, (i_in (show k < 30 by omega) (by decide))⟩, (by rw [i_cl (show k < 2 ^ 31 by omega), e5]; exact i_in hd (by decide))⟩ ?_
    rw [i_cl (show k < 2 ^ 31 by omega), e5, i_cl (show d < 2 ^ 31 by omega)]
    refine Runs.ifS (fun z => ?_) (fun z => ?_)
    · rw [if_pos z] at ih
      refine Runs.go 4 rfl trivial ?_
      refine Runs.ifS (fun z2 => ?_) (fun z2 => ?_)
      · rw [if_pos (show b &&& bitOf (nI d) = 0 from z2)] at ih
        refine Runs.go 20 rfl ⟨trivial, (by rw [e5]; exact i_in hd (by decide))⟩ ?_
        rw [e5, i_cl (show d < 2 ^ 31 by omega)]
        rw [show (up1 g (4, i, d) 3 0).1 (5, i, g.2 (3, i, 0) k) 3 = g.1 (5, i, g.2 (3, i, 0) k) 3 by simp [up1_1]]
        rw [show (up1 (up1 g (4, i, d) 3 0) (5, i, g.2 (3, i, 0) k) 3 (g.1 (5, i, g.2 (3, i, 0) k) 3 - 1)).1 (5, i, g.2 (3, i, 0) k) 3 = g.1 (5, i, g.2 (3, i, 0) k) 3 - 1 by simp [up1_1]]
        refine Runs.ifS (fun z3 => ?_) (fun z3 => ?_)
        · rw [if_pos z3] at ih
          refine Runs.go 2 rfl trivial ?_
          rw [nI_1]
          exact ih
        · rw [if_neg z3] at ih
          refine Runs.go 20 rfl trivial ?_
          rw [nI_1]
          simp only [up1_1] at ih ⊢
          simpa [bitOf] using ih
      · rw [if_neg (show ¬ b &&& bitOf (nI d) = 0 from z2)] at ih
        refine Runs.go 2 rfl trivial ?_
        rw [nI_1]
        exact ih
    · rw [if_neg z] at ih
      refine Runs.go 2 rfl trivial ?_
      rw [nI_1]
      exact ih
  · refine Runs.go 4 rfl trivial ?_
    obtain ⟨w1, w2, w3⟩ := gr_inv h i c
    rw [w1, hc]
    refine Runs.ifT (Int32.le_refl _) ?_
    refine Runs.go 2 rfl trivial ?_
    refine Runs.calv rfl (c_restIdle n i _ _) ?_
    obtain ⟨v1, v2, v3⟩ := ri_inv (gr h i c).1 i (gr h i c).2 12
    refine Runs.go 1 rfl trivial ?_
    refine Runs.calv rfl (c_sweep (n + 1) i _ (c := c) (by rw [v1, w1, hc]) h30 (fun k hk => ?_)) ?_
    · obtain ⟨d, hd, hkd⟩ := hk0 k hk
      exact ⟨d, hd, by rw [v3, w3, v2, w2]; exact hkd⟩
    · exact Runs.fin (by rw [← hr]; rfl) trivial
/-- new starts: heap, starting, current -/
def bsB (i : Nat) (f : Int32) (d : Nat) (q : DH × Int32 × Int32) : DH × Int32 × Int32 := if q.1.1 (4, i, d) 0 = 0 ∧ 0 < q.1.1 (4, i, d) 6 ∧ f &&& bitOf (nI d) = 0 ∧ cmay q.1 i q.2.1 q.2.2 ≠ 0 then (up1 (up1 (up1 (up1 q.1 (4, i, d) 0 1) (4, i, d) 1 (q.1.1 (1, i, 0) 0)) (4, i, d) 4 (q.1.1 (4, i, d) 4 + 1)) (0, i, 0) 13 (q.1.1 (0, i, 0) 13 + 1), q.2.1 + 1, q.2.2 + cadd q.1 i) else q
def bs (h : DH) (i : Nat) (f : Int32) : Nat → DH × Int32 × Int32
  | 0 => (h, cthat h i 1, sumN (ccur h i) 12)
  | k + 1 => bsB i f k (bs h i f k)
def lo45 (i : Nat) : Nat → Option DV
  | 0 => none
  | k + 1 => some (.inr (4, i, k))
def low (h : DH) (i : Nat) (f : Int32) : Nat → Option DV
  | 0 => none
  | k + 1 => some (.inl (if (bs h i f k).1.1 (4, i, k) 0 = 0 ∧ 0 < (bs h i f k).1.1 (4, i, k) 6 ∧ f &&& bitOf (nI k) = 0 then 1 else 0))
theorem c_beginStarts (n i : Nat) (f : Int32) (h : DH) : dEx (n + 3) 37 [.inr (0, i, 0), .inl f] h (none, (bs h i f 12).1) := by
  refine dx_37 ?_
  generalize hr : ((none : Option DV), (bs h i f 12).1) = r
  refine Runs.go 1 rfl trivial ?_
  refine Runs.cal rfl (c_currentOfNow n i h) ?_
  refine Runs.go 3 rfl trivial ?_
  refine Runs.cal rfl (c_disksThat n i _ h) ?_
  refine Runs.go 3 rfl trivial ?_
  refine Runs.loop 12 (fun k => (14, [some (.inr (0, i, 0)), some (.inl f), some (.inl (bs h i f k).2.2), some (.inl (bs h i f k).2.1), some (.inl (nI k)), lo45 i k, low h i f k], [], (bs h i f k).1)) (fun k hk ih => ?_) ?_
  · refine Runs.go 3 rfl trivial ?_
    refine Runs.ifF (i_ge hk (by decide)) ?_
    rw [show bs h i f (k + 1) = bsB i f k (bs h i f k) from rfl] at ih
    rw [show low h i f (k + 1) = some (.inl (if (bs h i f k).1.1 (4, i, k) 0 = 0 ∧ 0 < (bs h i f k).1.1 (4, i, k) 6 ∧ f &&& bitOf (nI k) = 0 then 1 else 0)) from rfl] at ih
    generalize bs h i f k = q at ih ⊢
    obtain ⟨g, s, cu⟩ := q
    unfold bsB at ih
    dsimp only at ih ⊢
    refine Runs.go 8 rfl ⟨trivial, (i_in hk (by decide))⟩ ?_
    rw [i_cl (show k < 2 ^ 31 by omega)]
    by_cases w : g.1 (4, i, k) 0 = 0 ∧ 0 < g.1 (4, i, k) 6 ∧ f &&& bitOf (nI k) = 0
    · obtain ⟨w1, w2, w3⟩ := w
      rw [if_pos (show g.1 (4, i, k) 0 = 0 ∧ 0 < g.1 (4, i, k) 6 ∧ f &&& bitOf (nI k) = 0 from ⟨w1, w2, w3⟩)] at ih
      refine Runs.ifT w1 ?_
      refine Runs.go 3 rfl trivial ?_
      refine Runs.ifF (Int32.not_le.mpr w2) ?_
      refine Runs.go 6 rfl trivial ?_
      refine Runs.ifT w3 ?_
      refine Runs.go 5 rfl trivial ?_
      refine Runs.ifF (by decide) ?_
      refine Runs.go 3 rfl trivial ?_
      refine Runs.cal rfl (c_mayStart n i g _ _) ?_
      refine Runs.go 1 rfl trivial ?_
      refine Runs.ifS (fun z => ?_) (fun z => ?_)
      · rw [if_neg (fun t => t.2.2.2 z)] at ih
        refine Runs.go 2 rfl trivial ?_
        rw [nI_1]
        exact ih
      · rw [if_pos ⟨w1, w2, w3, z⟩] at ih
        refine Runs.go 5 rfl ⟨trivial, (by unfold vp_in; decide)⟩ ?_
        refine Runs.calv rfl (c_beginStart (n + 1) i k g _) ?_
        refine Runs.go 9 rfl trivial ?_
        refine Runs.cal rfl (c_added (n + 1) i _) ?_
        refine Runs.go 4 rfl trivial ?_
        rw [nI_1]
        have e : ∀ g1 : DH, g1.1 (1, i, 0) = g.1 (1, i, 0) → cadd g1 i = cadd g i := fun g1 hg => by simp only [cadd, hg]
        rw [e _ (by rw [up1_ne _ _ _ (by simp), up1_ne _ _ _ (by simp), up1_ne _ _ _ (by simp), up1_ne _ _ _ (by simp)])]
        simp only [up1_1] at ih ⊢
        simpa [lo45] using ih
    · rw [if_neg w, if_neg (fun t => w ⟨t.1, t.2.1, t.2.2.1⟩)] at ih
      have rest : Runs dT_37 (dEx (n + 2)) (59, [some (.inr (0, i, 0)), some (.inl f), some (.inl cu), some (.inl s), some (.inl (nI k)), some (.inr (4, i, k)), low h i f k], [], g) r := by
        refine Runs.go 4 rfl trivial ?_
        refine Runs.ifT rfl ?_
        refine Runs.go 2 rfl trivial ?_
        rw [nI_1]
        exact ih
      refine Runs.ifS (fun w1 => ?_) (fun w1 => rest)
      refine Runs.go 3 rfl trivial ?_
      refine Runs.ifS (fun w2 => rest) (fun w2 => ?_)
      refine Runs.go 6 rfl trivial ?_
      refine Runs.ifS (fun w3 => ?_) (fun w3 => rest)
      exact absurd ⟨w1, Int32.not_le.mp w2, w3⟩ w
  · refine Runs.go 3 rfl trivial ?_
    refine Runs.ifT (Int32.le_refl _) ?_
    exact Runs.fin (by rw [← hr]; rfl) trivial
def mx (x y : Int32) : Int32 := if x < y then y else x
/-- the fuse, behind a tick: c is the current -/
def sfB (g : DH) (i : Nat) (c : Int32) : DH := if g.1 (0, i, 0) 10 = 0 then (if g.1 (1, i, 0) 7 < (if c ≤ g.1 (1, i, 0) 5 then 0 else g.1 (0, i, 0) 11 + 1) ∨ g.1 (1, i, 0) 5 + g.1 (1, i, 0) 6 < c then up1 (up1 (up1 (up1 g (0, i, 0) 11 (if c ≤ g.1 (1, i, 0) 5 then 0 else g.1 (0, i, 0) 11 + 1)) (0, i, 0) 10 1) (0, i, 0) 12 (g.1 (0, i, 0) 12 + 1)) (0, i, 0) 11 0 else up1 g (0, i, 0) 11 (if c ≤ g.1 (1, i, 0) 5 then 0 else g.1 (0, i, 0) 11 + 1)) else g
def sfH (h : DH) (i : Nat) : DH := sfB (up1 h (0, i, 0) 9 (mx (h.1 (0, i, 0) 9) (sumN (ccur h i) 12))) i (sumN (ccur h i) 12)
theorem c_strain (n i : Nat) (h : DH) : dEx (n + 3) 42 [.inr (0, i, 0)] h (none, sfH h i) := by
  refine dx_42 ?_
  unfold sfH
  refine Runs.go 1 rfl trivial ?_
  refine Runs.cal rfl (c_currentOfNow n i h) ?_
  generalize sumN (ccur h i) 12 = c
  refine Runs.go 10 rfl trivial ?_
  rw [show (if h.1 (0, i, 0) 9 < c then c else h.1 (0, i, 0) 9) = mx (h.1 (0, i, 0) 9) c from rfl]
  generalize up1 h (0, i, 0) 9 (mx (h.1 (0, i, 0) 9) c) = g
  unfold sfB
  have tail : ∀ x : Int32, x = (if c ≤ g.1 (1, i, 0) 5 then 0 else g.1 (0, i, 0) 11 + 1) → g.1 (0, i, 0) 10 = 0 → Runs dT_42 (dEx (n + 2)) (46, [some (.inr (0, i, 0)), some (.inl c)], [.inl x, .inr (0, i, 0)], g) (none, if g.1 (1, i, 0) 7 < (if c ≤ g.1 (1, i, 0) 5 then 0 else g.1 (0, i, 0) 11 + 1) ∨ g.1 (1, i, 0) 5 + g.1 (1, i, 0) 6 < c then up1 (up1 (up1 (up1 g (0, i, 0) 11 (if c ≤ g.1 (1, i, 0) 5 then 0 else g.1 (0, i, 0) 11 + 1)) (0, i, 0) 10 1) (0, i, 0) 12 (g.1 (0, i, 0) 12 + 1)) (0, i, 0) 11 0 else up1 g (0, i, 0) 11 (if c ≤ g.1 (1, i, 0) 5 then 0 else g.1 (0, i, 0) 11 + 1)) := by
    intro x hx hb
    rw [← hx]
    refine Runs.go 8 rfl ⟨trivial, (by unfold vp_in; decide)⟩ ?_
    have a7 : ∀ j, (up1 g (0, i, 0) 11 x).1 (1, i, 0) j = g.1 (1, i, 0) j := fun j => by rw [up1_ne _ _ _ (by simp)]
    have a11 : (up1 g (0, i, 0) 11 x).1 (0, i, 0) 11 = x := by simp [up1_1]
    have a12 : (up1 (up1 g (0, i, 0) 11 x) (0, i, 0) 10 1).1 (0, i, 0) 12 = g.1 (0, i, 0) 12 := by simp [up1_1]
    have blow : (g.1 (1, i, 0) 7 < x ∨ g.1 (1, i, 0) 5 + g.1 (1, i, 0) 6 < c) → Runs dT_42 (dEx (n + 2)) (81, [some (.inr (0, i, 0)), some (.inl c)], [], up1 g (0, i, 0) 11 x) (none, if g.1 (1, i, 0) 7 < x ∨ g.1 (1, i, 0) 5 + g.1 (1, i, 0) 6 < c then up1 (up1 (up1 (up1 g (0, i, 0) 11 x) (0, i, 0) 10 1) (0, i, 0) 12 (g.1 (0, i, 0) 12 + 1)) (0, i, 0) 11 0 else up1 g (0, i, 0) 11 x) := by
      intro hh
      rw [if_pos hh]
      refine Runs.go 12 rfl ⟨trivial, (Or.inr rfl)⟩ ?_
      rw [a12]
      exact Runs.fin rfl trivial
    rw [a7, a11]
    refine Runs.ifS (fun z => blow (Or.inl z)) (fun z => ?_)
    refine Runs.go 11 rfl ⟨⟨trivial, (by unfold vp_in; decide)⟩, (by unfold vp_in; decide)⟩ ?_
    rw [a7, a7]
    refine Runs.ifS (fun z2 => ?_) (fun z2 => blow (Or.inr (Int32.not_le.mp z2)))
    rw [if_neg (fun t => t.elim (fun t => z t) (fun t => absurd t (Int32.not_lt.mpr z2)))]
    exact Runs.fin rfl trivial
  refine Runs.ifS (fun z => ?_) (fun z => ?_)
  · rw [if_pos z]
    refine Runs.go 7 rfl ⟨trivial, (by unfold vp_in; decide)⟩ ?_
    refine Runs.ifS (fun z2 => ?_) (fun z2 => ?_)
    · refine Runs.go 1 rfl trivial ?_
      exact tail _ (by rw [if_pos (show c ≤ g.1 (1, i, 0) 5 from z2)]) z
    · refine Runs.go 5 rfl trivial ?_
      exact tail _ (by rw [if_neg (show ¬ c ≤ g.1 (1, i, 0) 5 from z2)]) z
  · rw [if_neg z]
    exact Runs.fin rfl trivial
/-- all is cut off -/
def coB (i d : Nat) (g : DH) : DH := if g.1 (4, i, d) 0 = 3 then g else sbH g (4, i, d)
def co (h : DH) (i : Nat) : Nat → DH
  | 0 => h
  | k + 1 => coB i k (co h i k)
def ct (h : DH) (i : Nat) : Nat → DH
  | 0 => h
  | k + 1 => up1 (ct h i k) (5, i, h.2 (3, i, 0) k) 3 ((ct h i k).1 (5, i, h.2 (3, i, 0) k) 2)
theorem co_inv (h : DH) (i : Nat) : ∀ k, (co h i k).1 (0, i, 0) = h.1 (0, i, 0) ∧ (co h i k).2 = h.2 := by
  intro k
  induction k with
  | zero => exact ⟨rfl, rfl⟩
  | succ k ih =>
    rw [show co h i (k + 1) = coB i k (co h i k) from rfl]
    unfold coB
    split
    · exact ih
    · refine ⟨?_, ih.2⟩
      unfold sbH
      rw [up1_ne _ _ _ (by simp), up1_ne _ _ _ (by simp), up1_ne _ _ _ (by simp)]
      exact ih.1
theorem ct_inv (h : DH) (i : Nat) : ∀ k, (ct h i k).1 (0, i, 0) = h.1 (0, i, 0) ∧ (ct h i k).2 = h.2 := by
  intro k
  induction k with
  | zero => exact ⟨rfl, rfl⟩
  | succ k ih => exact ⟨by rw [show ct h i (k + 1) = up1 (ct h i k) _ _ _ from rfl, up1_ne _ _ _ (by simp)]; exact ih.1, ih.2⟩
theorem c_cutOff (n i : Nat) (h : DH) {c : Nat} (hc : h.1 (0, i, 0) 3 = nI c) (h30 : c ≤ 30) : dEx (n + 2) 30 [.inr (0, i, 0)] h (none, ct (co h i 12) i c) := by
  refine dx_30 ?_
  generalize hr : ((none : Option DV), ct (co h i 12) i c) = r
  refine Runs.go 2 rfl trivial ?_
  refine Runs.loop 12 (fun k => (2, [some (.inr (0, i, 0)), some (.inl (nI k))], [], co h i k)) (fun k hk ih => ?_) ?_
  · refine Runs.go 3 rfl trivial ?_
    refine Runs.ifF (i_ge hk (by decide)) ?_
    rw [show co h i (k + 1) = coB i k (co h i k) from rfl] at ih
    generalize co h i k = g at ih ⊢
    unfold coB at ih
    refine Runs.go 7 rfl ⟨trivial, (i_in hk (by decide))⟩ ?_
    rw [i_cl (by omega)]
    refine Runs.ifS (fun z => ?_) (fun z => ?_)
    · rw [if_pos z] at ih
      refine Runs.go 2 rfl trivial ?_
      rw [nI_1]
      exact ih
    · rw [if_neg z] at ih
      refine Runs.go 4 rfl ⟨trivial, (i_in hk (by decide))⟩ ?_
      rw [i_cl (by omega)]
      refine Runs.calv rfl (c_standBy n i k g) ?_
      refine Runs.go 2 rfl trivial ?_
      rw [nI_1]
      exact ih
  · refine Runs.go 3 rfl trivial ?_
    refine Runs.ifT (Int32.le_refl _) ?_
    have hc' : (co h i 12).1 (0, i, 0) 3 = nI c := by rw [(co_inv h i 12).1]; exact hc
    generalize co h i 12 = g at hr hc' ⊢
    refine Runs.go 2 rfl trivial ?_
    refine Runs.loop c (fun k => (38, [some (.inr (0, i, 0)), some (.inl (nI k))], [], ct g i k)) (fun k hk ih => ?_) ?_
    · refine Runs.go 4 rfl trivial ?_
      rw [(ct_inv g i k).1, hc']
      refine Runs.ifF (i_ge hk (by omega)) ?_
      refine Runs.go 12 rfl ⟨⟨trivial, (i_in (show k < 30 by omega) (by decide))⟩, (i_in (show k < 30 by omega) (by decide))⟩ ?_
      rw [i_cl (by omega), nI_1, (ct_inv g i k).2]
      exact ih
    · refine Runs.go 4 rfl trivial ?_
      rw [(ct_inv g i c).1, hc']
      refine Runs.ifT (Int32.le_refl _) ?_
      exact Runs.fin (by rw [← hr]; rfl) trivial
theorem gs_5 (h : DH) (i c k : Nat) : ∀ j, (gs h i c k).1.1 (5, i, j) 1 = h.1 (5, i, j) 1 := by
  intro j
  have hcl : ∀ (g : DH) (d m : Nat), (close g i d m).1 (5, i, j) 1 = g.1 (5, i, j) 1 := by
    intro g d m
    induction m with
    | zero => rfl
    | succ m ih =>
      show (clB (close g i d m) i d m).1 (5, i, j) 1 = g.1 (5, i, j) 1
      unfold clB
      split
      · simpa [up1_1] using ih
      · exact ih
  induction k with
  | zero => rfl
  | succ k ih =>
    rw [show gs h i c (k + 1) = gsB i c k (gs h i c k) from rfl]
    unfold gsB
    split
    · split
      · simpa [up1_1] using ih
      · split
        · simpa [up1_1] using ih
        · dsimp only
          split
          · rw [hcl, failH_o _ (by simp)]
            simpa [up1_1] using ih
          · rw [failH_o _ (by simp)]
            simpa [up1_1] using ih
    · exact ih
/-- a tick -/
def tkH (h : DH) (i c : Nat) : DH := if h.1 (0, i, 0) 10 = 0 then (bs (grAll (gs h i c 12).1 i c) i (gs h i c 12).2 12).1 else ct (co h i 12) i c
def tick (h : DH) (i c : Nat) : DH := sfH (up1 (tkH h i c) (0, i, 0) 8 ((tkH h i c).1 (0, i, 0) 8 + 1)) i
theorem c_tick (n i : Nat) (h : DH) {c : Nat} (hc : h.1 (0, i, 0) 3 = nI c) (h30 : c ≤ 30) (hk0 : rok h i c) : dEx (n + 4) 29 [.inr (0, i, 0)] h (none, tick h i c) := by
  refine dx_29 ?_
  unfold tick
  refine Runs.go 3 rfl trivial ?_
  refine Runs.ifS (fun z => ?_) (fun z => ?_)
  · rw [show tkH h i c = (bs (grAll (gs h i c 12).1 i c) i (gs h i c 12).2 12).1 from if_pos z]
    refine Runs.go 1 rfl trivial ?_
    refine Runs.cal rfl (c_goOnStarting n i h hc h30) ?_
    refine Runs.go 2 rfl trivial ?_
    have hrk : rok (gs h i c 12).1 i c := by
      intro k hk
      obtain ⟨d, hd, hkd⟩ := hk0 k hk
      exact ⟨d, hd, by rw [gs_5, (gs_3 h i c 12).2]; exact hkd⟩
    refine Runs.calv rfl (c_goOnReading n i _ (c := c) (by rw [(gs_3 h i c 12).1, hc]) h30 hrk) ?_
    refine Runs.go 2 rfl trivial ?_
    refine Runs.calv rfl (c_beginStarts n i _ _) ?_
    refine Runs.go 7 rfl trivial ?_
    refine Runs.calv rfl (c_strain n i _) ?_
    exact Runs.fin rfl trivial
  · rw [show tkH h i c = ct (co h i 12) i c from if_neg z]
    refine Runs.go 1 rfl trivial ?_
    refine Runs.calv rfl (c_cutOff (n + 1) i h hc h30) ?_
    refine Runs.go 8 rfl trivial ?_
    refine Runs.calv rfl (c_strain n i _) ?_
    exact Runs.fin rfl trivial
end
section
/-! the reference's small methods, over its row s and its marks f of failed starts -/
theorem tc0 : Int32.toNatClampNeg 0 = 0 := by decide
theorem tc1 : Int32.toNatClampNeg 1 = 1 := by decide
theorem tc2 : Int32.toNatClampNeg 2 = 2 := by decide
theorem tc3 : Int32.toNatClampNeg 3 = 3 := by decide
theorem tc4 : Int32.toNatClampNeg 4 = 4 := by decide
theorem tc5 : Int32.toNatClampNeg 5 = 5 := by decide
theorem tc6 : Int32.toNatClampNeg 6 = 6 := by decide
theorem tc7 : Int32.toNatClampNeg 7 = 7 := by decide
theorem tc8 : Int32.toNatClampNeg 8 = 8 := by decide
theorem tc9 : Int32.toNatClampNeg 9 = 9 := by decide
theorem tc10 : Int32.toNatClampNeg 10 = 10 := by decide
theorem tc11 : Int32.toNatClampNeg 11 = 11 := by decide
theorem tc12 : Int32.toNatClampNeg 12 = 12 := by decide
theorem tc13 : Int32.toNatClampNeg 13 = 13 := by decide
theorem tc14 : Int32.toNatClampNeg 14 = 14 := by decide
theorem tc15 : Int32.toNatClampNeg 15 = 15 := by decide
theorem tc16 : Int32.toNatClampNeg 16 = 16 := by decide
theorem tc17 : Int32.toNatClampNeg 17 = 17 := by decide
theorem tc18 : Int32.toNatClampNeg 18 = 18 := by decide
theorem tc19 : Int32.toNatClampNeg 19 = 19 := by decide
theorem tc20 : Int32.toNatClampNeg 20 = 20 := by decide
theorem tc93 : Int32.toNatClampNeg 93 = 93 := by decide
def hp (h : DH) (s f : Nat → Int32) : DH := (fun q => if q = (15, 0, 0) then s else if q = (20, 0, 0) then f else h.1 q, h.2)
theorem hp_s (h : DH) (s f : Nat → Int32) : (hp h s f).1 (15, 0, 0) = s := by simp [hp]
theorem hp_f (h : DH) (s f : Nat → Int32) : (hp h s f).1 (20, 0, 0) = f := by simp [hp]
theorem hp_o (h : DH) (s f : Nat → Int32) : (hp h s f).2 = h.2 := rfl
theorem hp_ne (h : DH) (s f : Nat → Int32) {q : DKey} (h1 : q ≠ (15, 0, 0)) (h2 : q ≠ (20, 0, 0)) : (hp h s f).1 q = h.1 q := by simp [hp, h1, h2]
theorem hp_up (h : DH) (s f : Nat → Int32) (k : Nat) (x : Int32) : up1 (hp h s f) (15, 0, 0) k x = hp h (upd s k x) f := by
  refine Prod.ext ?_ rfl
  funext q j
  by_cases hq : q = (15, 0, 0)
  · subst hq
    simp [up1, hp, upd]
  · simp [up1, hp, hq]
theorem hp_fu (h : DH) (s f : Nat → Int32) (k : Nat) (x : Int32) : up1 (hp h s f) (20, 0, 0) k x = hp h s (upd f k x) := by
  refine Prod.ext ?_ rfl
  funext q j
  by_cases hq : q = (20, 0, 0)
  · subst hq
    simp [up1, hp, upd]
  · simp [up1, hp, hq]
theorem hp_id (h : DH) : hp h (h.1 (15, 0, 0)) (h.1 (20, 0, 0)) = h := by
  refine Prod.ext ?_ rfl
  funext q
  by_cases h1 : q = (15, 0, 0)
  · subst h1; simp [hp]
  · by_cases h2 : q = (20, 0, 0)
    · subst h2; simp [hp]
    · simp [hp, h1, h2]
theorem hp_hp (h : DH) (s f s' f' : Nat → Int32) : hp (hp h s f) s' f' = hp h s' f' := by
  refine Prod.ext ?_ rfl
  funext q
  simp only [hp]
  split
  · rfl
  · split <;> rfl
theorem upd_s (f : Nat → Int32) (k : Nat) (x : Int32) : upd f k x k = x := pk_us
theorem upd_n (f : Nat → Int32) {k j : Nat} (x : Int32) (h : j ≠ k) : upd f k x j = f j := pk_un h
def oD (d w : Nat) : Nat := 21 + 6 * d + w
def oR (k w : Nat) : Nat := 94 + 5 * k + w
theorem oD_cl {d w : Nat} (hd : d < 12) (hw : w < 6) : (nI (oD d w)).toNatClampNeg = oD d w := nI_clamp (by unfold oD; omega)
theorem oD_in {d w : Nat} (hd : d < 12) (hw : w < 6) : vp_in (nI (oD d w)) 244 := vp_in_nI (by unfold oD; omega) (by decide)
theorem oR_cl {k w : Nat} (hk : k < 30) (hw : w < 5) : (nI (oR k w)).toNatClampNeg = oR k w := nI_clamp (by unfold oR; omega)
theorem oR_in {k w : Nat} (hk : k < 30) (hw : w < 5) : vp_in (nI (oR k w)) 244 := vp_in_nI (by unfold oR; omega) (by decide)
def mplc (s : Nat → Int32) (c : Nat) (x : Int32) : Option Nat := fp (fun k => decide (s (oR k 0) = x)) c
def mfst (s : Nat → Int32) (c : Nat) (x : Int32) : Option Nat := fp (fun k => decide (s (oR k 1) = x)) c
/-- a read is taken out: the rows behind it move up -/
def msh (s : Nat → Int32) (a j : Nat) : Nat → Int32 := fun k => if a ≤ k ∧ k < j then s (k + 5) else s k
theorem msh_0 (s : Nat → Int32) (a : Nat) : msh s a a = s := by
  funext k
  unfold msh
  rw [if_neg (by omega)]
theorem msh_s (s : Nat → Int32) {a j : Nat} (h : a ≤ j) : upd (msh s a j) j (msh s a j (j + 5)) = msh s a (j + 1) := by
  funext k
  unfold upd msh
  by_cases hk : k = j
  · subst hk
    rw [if_pos rfl, if_neg (by omega), if_pos (by omega)]
  · rw [if_neg hk]
    by_cases h1 : a ≤ k ∧ k < j
    · rw [if_pos h1, if_pos (by omega)]
    · rw [if_neg h1, if_neg (by omega)]
def mrm (s : Nat → Int32) (p c : Nat) : Nat → Int32 := msh (upd s 93 (nI (c - 1))) (oR p 0) (oR (c - 1) 0)
def mahd (s : Nat → Int32) (x : Int32) (k : Nat) : Int32 := sumN (fun j => if s (oR j 1) = x then 1 else 0) k
/-- the reads of a disk begin anew -/
def baB (s : Nat → Int32) (d k : Nat) : Nat → Int32 := upd s (oR k 3) (if s (oR k 1) = nI d then s (oR k 2) else s (oR k 3))
def ban (s : Nat → Int32) (d : Nat) : Nat → (Nat → Int32)
  | 0 => s
  | k + 1 => baB (ban s d k) d k
theorem ban_93 (s : Nat → Int32) (d k : Nat) : ban s d k 93 = s 93 := by
  induction k with
  | zero => rfl
  | succ k ih =>
    show upd _ _ _ 93 = s 93
    rw [upd_n _ _ (by unfold oR; omega)]
    exact ih
def mcur (s : Nat → Int32) (c d : Nat) : Int32 := if s (oD d 0) = 0 then s 4 else if s (oD d 0) = 1 then s 1 else if s (oD d 0) = 3 then 0 else s 2 + (match mfst s c (nI d) with | none => 0 | some _ => s 3)
def mcurN (s : Nat → Int32) (c : Nat) : Int32 := sumN (mcur s c) 12
def mthat (s : Nat → Int32) (x : Int32) : Int32 := sumN (fun d => if s (oD d 0) = x then 1 else 0) 12
def mSb (s : Nat → Int32) (d : Nat) : Nat → Int32 := upd (upd (upd s (oD d 0) 0) (oD d 1) 0) (oD d 3) 0
end
section
/-! the reference's tick, as it is -/
def cc (s : Nat → Int32) : Nat := (s 93).toNatClampNeg
theorem cc_of {s : Nat → Int32} {c : Nat} (hc : s 93 = nI c) (h30 : c ≤ 30) : cc s = c := by
  unfold cc
  rw [hc, i_cl (by omega)]
def okC (s : Nat → Int32) : Prop := ∃ c, c ≤ 30 ∧ s 93 = nI c
theorem okC.cc {s : Nat → Int32} (h : okC s) : s 93 = nI (cc s) ∧ cc s ≤ 30 := by
  obtain ⟨c, h1, h2⟩ := h
  rw [cc_of h2 h1]
  exact ⟨h2, h1⟩
theorem okC.of {s s' : Nat → Int32} (h : okC s) (e : s' 93 = s 93) : okC s' := by
  obtain ⟨c, h1, h2⟩ := h
  exact ⟨c, h1, e.trans h2⟩
theorem oD_93 (d w : Nat) (hd : d < 12) (hw : w < 6) : (93 : Nat) ≠ oD d w := by unfold oD; omega
theorem oR_93 (k w : Nat) : (93 : Nat) ≠ oR k w := by unfold oR; omega
theorem mSb_93 (s : Nat → Int32) (d : Nat) (hd : d < 12) : mSb s d 93 = s 93 := by
  unfold mSb
  rw [upd_n _ _ (oD_93 d 3 hd (by decide)), upd_n _ _ (oD_93 d 1 hd (by decide)), upd_n _ _ (oD_93 d 0 hd (by decide))]
theorem mrm_93 (s : Nat → Int32) (p c : Nat) : mrm s p c 93 = nI (c - 1) := by
  unfold mrm msh
  rw [if_neg (by unfold oR; omega), upd_s]
theorem nI_m5 {k : Nat} (hk : k < 2 ^ 31) : ¬ nI k = -5 := by
  intro q
  have := nI_pos hk
  rw [q] at this
  exact this (by decide)
theorem vn0 : vp_nar .boolean 0 = 0 := rfl
theorem vn1 : vp_nar .boolean 1 = 1 := rfl
def coMB (c d : Nat) (s : Nat → Int32) : Nat → Int32 := if wi (s (oD d 0)) 1 2 = 0 then s else ban (mSb s d) d c
def coM (s : Nat → Int32) (c : Nat) : Nat → (Nat → Int32)
  | 0 => s
  | d + 1 => coMB c d (coM s c d)
theorem coM_93 (s : Nat → Int32) (c : Nat) : ∀ d, d ≤ 12 → coM s c d 93 = s 93 := by
  intro d
  induction d with
  | zero => intro _; rfl
  | succ d ih =>
    intro hd
    rw [show coM s c (d + 1) = coMB c d (coM s c d) from rfl]
    unfold coMB
    split
    · exact ih (by omega)
    · rw [ban_93, mSb_93 _ _ (by omega)]
      exact ih (by omega)
/-- all reads of a disk are lost -/
def brkN (d : Nat) : Nat → (Nat → Int32) → (Nat → Int32)
  | 0, s => s
  | n + 1, s => match mfst s (cc s) (nI d) with
    | none => s
    | some p => brkN d n (upd (mrm s p (cc s)) 14 (mrm s p (cc s) 14 + 1))
def endM (d : Nat) (q : (Nat → Int32) × (Nat → Int32)) : (Nat → Int32) × (Nat → Int32) := if q.1 (oD d 4) = 0 then (upd (upd (upd q.1 (oD d 0) 2) (oD d 2) 0) (oD d 3) 0, q.2) else (if mSb (upd (upd (upd q.1 (oD d 4) 0) (oD d 2) (q.1 (oD d 2) + 1)) 19 (q.1 19 + 1)) d (oD d 2) = 3 then brkN d 30 (upd (mSb (upd (upd (upd q.1 (oD d 4) 0) (oD d 2) (q.1 (oD d 2) + 1)) 19 (q.1 19 + 1)) d) (oD d 0) 3) else mSb (upd (upd (upd q.1 (oD d 4) 0) (oD d 2) (q.1 (oD d 2) + 1)) 19 (q.1 19 + 1)) d, upd q.2 d 1)
theorem brkN_ok (d : Nat) : ∀ (m : Nat) (g : Nat → Int32), okC g → okC (brkN d m g) := by
  intro m
  induction m with
  | zero => intro g hg; exact hg
  | succ m ih =>
    intro g hg
    unfold brkN
    split
    · exact hg
    · obtain ⟨g1, g2⟩ := hg.cc
      exact ih _ ⟨cc g - 1, by omega, by rw [upd_n _ _ (by decide), mrm_93]⟩
theorem endM_ok {d : Nat} (hd : d < 12) {q : (Nat → Int32) × (Nat → Int32)} (hk : okC q.1) : okC (endM d q).1 := by
  have h1 : okC (mSb (upd (upd (upd q.1 (oD d 4) 0) (oD d 2) (q.1 (oD d 2) + 1)) 19 (q.1 19 + 1)) d) := hk.of (by rw [mSb_93 _ _ hd, upd_n _ _ (by decide), upd_n _ _ (oD_93 d 2 hd (by decide)), upd_n _ _ (oD_93 d 4 hd (by decide))])
  unfold endM
  split
  · exact hk.of (by dsimp only; rw [upd_n _ _ (oD_93 d 3 hd (by decide)), upd_n _ _ (oD_93 d 2 hd (by decide)), upd_n _ _ (oD_93 d 0 hd (by decide))])
  · dsimp only
    split
    · exact brkN_ok _ _ _ (h1.of (by rw [upd_n _ _ (oD_93 d 0 hd (by decide))]))
    · exact h1
theorem oD_ne {d w d' w' : Nat} (hw : w < 6) (hw' : w' < 6) (h : d ≠ d' ∨ w ≠ w') : oD d w ≠ oD d' w' := by unfold oD; omega
theorem oD_19 (d w k : Nat) (hk : k < 21) : oD d w ≠ k := by unfold oD; omega
def stMB (d : Nat) (q : (Nat → Int32) × (Nat → Int32)) : (Nat → Int32) × (Nat → Int32) := if q.1 (oD d 0) = 1 then (if q.1 (oD d 1) - 1 = 0 then endM d (upd q.1 (oD d 1) (q.1 (oD d 1) - 1), upd q.2 d 0) else (upd q.1 (oD d 1) (q.1 (oD d 1) - 1), upd q.2 d 0)) else (q.1, upd q.2 d 0)
def stM (s f : Nat → Int32) : Nat → (Nat → Int32) × (Nat → Int32)
  | 0 => (s, f)
  | d + 1 => stMB d (stM s f d)
theorem stMB_ok {d : Nat} (hd : d < 12) {q : (Nat → Int32) × (Nat → Int32)} (hk : okC q.1) : okC (stMB d q).1 := by
  have h1 : okC (upd q.1 (oD d 1) (q.1 (oD d 1) - 1)) := hk.of (by rw [upd_n _ _ (oD_93 d 1 hd (by decide))])
  unfold stMB
  split
  · split
    · exact endM_ok hd h1
    · exact h1
  · exact hk
theorem stM_ok {s f : Nat → Int32} (hk : okC s) : ∀ d, d ≤ 12 → okC (stM s f d).1 := by
  intro d
  induction d with
  | zero => intro _; exact hk
  | succ d ih => intro hd; exact stMB_ok (by omega) (ih (by omega))
def rdM2 (s : Nat → Int32) (p : Nat) : Nat → Int32 := upd (upd s 13 (s 13 + 1)) 20 (s 20 + (s 10 + 1 - s (oR p 4)))
def rdMB (d : Nat) (s : Nat → Int32) : Nat → Int32 := if s (oD d 0) = 2 then (match mfst s (cc s) (nI d) with
  | some p => if s (oR p 3) - 1 = 0 then mrm (rdM2 (upd (upd s (oD d 3) 0) (oR p 3) (s (oR p 3) - 1)) p) p (cc s) else upd (upd s (oD d 3) 0) (oR p 3) (s (oR p 3) - 1)
  | none => if s 9 ≤ 0 then upd s (oD d 3) (s (oD d 3) + 1) else if s (oD d 3) + 1 < s 9 then upd s (oD d 3) (s (oD d 3) + 1) else mSb (upd s (oD d 3) (s (oD d 3) + 1)) d) else s
def rdM (s : Nat → Int32) : Nat → (Nat → Int32)
  | 0 => s
  | d + 1 => rdMB d (rdM s d)
theorem rdMB_ok {d : Nat} (hd : d < 12) {s : Nat → Int32} (hk : okC s) : okC (rdMB d s) := by
  have h1 : ∀ x, okC (upd s (oD d 3) x) := fun x => hk.of (by rw [upd_n _ _ (oD_93 d 3 hd (by decide))])
  unfold rdMB
  split
  · split
    · rename_i p hp
      obtain ⟨g1, g2⟩ := hk.cc
      split
      · exact ⟨cc s - 1, by omega, mrm_93 _ _ _⟩
      · exact (h1 0).of (by rw [upd_n _ _ (oR_93 p 3)])
    · split
      · exact h1 _
      · split
        · exact h1 _
        · exact (h1 _).of (mSb_93 _ _ hd)
  · exact hk
theorem rdM_ok {s : Nat → Int32} (hk : okC s) : ∀ d, d ≤ 12 → okC (rdM s d) := by
  intro d
  induction d with
  | zero => intro _; exact hk
  | succ d ih => intro hd; exact rdMB_ok (by omega) (ih (by omega))
def lom (h : Nat → Option Nat) : Nat → Option DV
  | 0 => none
  | k + 1 => some (.inl (oI (-5) (h k)))
theorem oR_oD {k w d w' : Nat} (hd : d < 12) (hw' : w' < 6) : oR k w ≠ oD d w' := by unfold oR oD; omega
theorem oR_lt (k w m : Nat) (hm : m < 94) : oR k w ≠ m := by unfold oR; omega
end
section
/-! the reference's tick, the rest -/
def nsMB (f : Nat → Int32) (d : Nat) (s : Nat → Int32) : Nat → Int32 := if s (oD d 0) = 0 ∧ f d = 0 ∧ mfst s (cc s) (nI d) ≠ none ∧ ¬ s 8 ≤ mthat s 1 ∧ ¬ s 5 < mcurN s (cc s) - s 4 + s 1 then upd (upd (upd (upd s (oD d 0) 1) (oD d 1) (s 0)) (oD d 5) (s (oD d 5) + 1)) 18 (s 18 + 1) else s
def nsM (s f : Nat → Int32) : Nat → (Nat → Int32)
  | 0 => s
  | d + 1 => nsMB f d (nsM s f d)
theorem nsMB_ok {f : Nat → Int32} {d : Nat} (hd : d < 12) {s : Nat → Int32} (hk : okC s) : okC (nsMB f d s) := by
  unfold nsMB
  split
  · exact hk.of (by rw [upd_n _ _ (by decide), upd_n _ _ (oD_93 d 5 hd (by decide)), upd_n _ _ (oD_93 d 1 hd (by decide)), upd_n _ _ (oD_93 d 0 hd (by decide))])
  · exact hk
theorem nsM_ok {s f : Nat → Int32} (hk : okC s) : ∀ d, d ≤ 12 → okC (nsM s f d) := by
  intro d
  induction d with
  | zero => intro _; exact hk
  | succ d ih => intro hd; exact nsMB_ok (by omega) (ih (by omega))
def lonm (h : Nat → Int32) : Nat → Option DV
  | 0 => none
  | k + 1 => some (.inl (h k))
def nsw (s f : Nat → Int32) (d : Nat) : Int32 := if s (oD d 0) = 0 ∧ f d = 0 ∧ mfst s (cc s) (nI d) ≠ none then 1 else 0
def blM (s : Nat → Int32) : Nat → Int32 := upd (upd (upd s 15 1) 17 (s 17 + 1)) 16 0
/-- the fuse, behind a tick: c is the current -/
def fuM (s : Nat → Int32) (c : Int32) : Nat → Int32 := if s 15 = 1 then s else if s 5 + s 6 < c then blM s else if s 5 < c then (if s 7 < s 16 + 1 then blM (upd s 16 (s 16 + 1)) else upd s 16 (s 16 + 1)) else upd s 16 0
def tkM (s f : Nat → Int32) : (Nat → Int32) × (Nat → Int32) := if s 15 = 1 then (coM s (cc s) 12, f) else (nsM (rdM (stM s f 12).1 12) (stM s f 12).2 12, (stM s f 12).2)
def tkM2 (s : Nat → Int32) : Nat → Int32 := fuM (upd (upd s 10 (s 10 + 1)) 11 (mx (s 11) (mcurN (upd s 10 (s 10 + 1)) (cc s)))) (mcurN (upd s 10 (s 10 + 1)) (cc s))
def tickM (s f : Nat → Int32) : (Nat → Int32) × (Nat → Int32) := (tkM2 (tkM s f).1, (tkM s f).2)
theorem tkM_p {s f : Nat → Int32} (z : s 15 = 1) : tkM s f = (coM s (cc s) 12, f) := by unfold tkM; rw [if_pos z]
theorem tkM_n {s f : Nat → Int32} (z : ¬ s 15 = 1) : tkM s f = (nsM (rdM (stM s f 12).1 12) (stM s f 12).2 12, (stM s f 12).2) := by unfold tkM; rw [if_neg z]
theorem tkM_ok {s f : Nat → Int32} (hk : okC s) : okC (tkM s f).1 := by
  by_cases z : s 15 = 1
  · rw [tkM_p z]
    dsimp only
    have e := coM_93 s (cc s) 12 (by decide)
    generalize coM s (cc s) 12 = g at e ⊢
    exact hk.of e
  · rw [tkM_n z]
    dsimp only
    exact nsM_ok (rdM_ok (stM_ok hk 12 (by decide)) 12 (by decide)) 12 (by decide)
theorem fuM_93 (s : Nat → Int32) (c : Int32) : fuM s c 93 = s 93 := by
  unfold fuM blM
  split
  · rfl
  · split
    · rw [upd_n _ _ (by decide), upd_n _ _ (by decide), upd_n _ _ (by decide)]
    · split
      · split
        · rw [upd_n _ _ (by decide), upd_n _ _ (by decide), upd_n _ _ (by decide), upd_n _ _ (by decide)]
        · rw [upd_n _ _ (by decide)]
      · rw [upd_n _ _ (by decide)]
theorem tickM_ok {s f : Nat → Int32} (hk : okC s) : okC (tickM s f).1 := (tkM_ok (f := f) hk).of (by
  show tkM2 _ 93 = _
  unfold tkM2
  rw [fuM_93, upd_n _ _ (by decide), upd_n _ _ (by decide)])
theorem mx_if (a b : Int32) : (if a < b then b else a) = mx a b := rfl
end
section
/-! reads as lists: what a tick does to them -/
def dk5 (r : R5) : Int32 := r.2.1
def lf (r : R5) : Int32 := r.2.2.2.1
def decR (r : R5) : R5 := (r.1, r.2.1, r.2.2.1, r.2.2.2.1 - 1, r.2.2.2.2)
def live (L : List R5) : List R5 := L.filter (fun r => decide (0 < lf r))
def wo (U : Int32 → Bool) (x : Int32) : Int32 → Bool := fun y => U y && decide (y ≠ x)
/-- the first read of each disk of U goes on by a tick; those that are over go -/
def pd : (Int32 → Bool) → List R5 → List R5
  | _, [] => []
  | U, r :: rs => if U (dk5 r) then (if lf r - 1 = 0 then pd (wo U (dk5 r)) rs else decR r :: pd (wo U (dk5 r)) rs) else r :: pd U rs
/-- how many are over by that -/
def nd : (Int32 → Bool) → List R5 → Int32
  | _, [] => 0
  | U, r :: rs => if U (dk5 r) then (if lf r - 1 = 0 then 1 + nd (wo U (dk5 r)) rs else nd (wo U (dk5 r)) rs) else nd U rs
/-- how long these waited, behind t -/
def wt (t : Int32) : (Int32 → Bool) → List R5 → Int32
  | _, [] => 0
  | U, r :: rs => if U (dk5 r) then (if lf r - 1 = 0 then (t - r.2.2.2.2) + wt t (wo U (dk5 r)) rs else wt t (wo U (dk5 r)) rs) else wt t U rs
def sg (d : Int32) : Int32 → Bool := fun y => decide (y = d)
def un (U : Int32 → Bool) (d : Int32) : Int32 → Bool := fun y => U y || decide (y = d)
theorem pd_no : ∀ (L : List R5) (U : Int32 → Bool), (∀ r ∈ L, U (dk5 r) = false) → pd U L = L ∧ nd U L = 0 ∧ ∀ t, wt t U L = 0 := by
  intro L
  induction L with
  | nil => intro U _; exact ⟨rfl, rfl, fun _ => rfl⟩
  | cons r L ih =>
    intro U h
    have h1 := h r List.mem_cons_self
    obtain ⟨a, b, c⟩ := ih U (fun r hr => h r (List.mem_cons_of_mem _ hr))
    refine ⟨?_, ?_, fun t => ?_⟩
    · simp only [pd, h1]
      simp [a]
    · simp only [nd, h1]
      simpa using b
    · simp only [wt, h1]
      simpa using c t
theorem pd_cg : ∀ (L : List R5) (U V : Int32 → Bool), (∀ r ∈ L, U (dk5 r) = V (dk5 r)) → pd U L = pd V L ∧ nd U L = nd V L ∧ ∀ t, wt t U L = wt t V L := by
  intro L
  induction L with
  | nil => intro U V _; exact ⟨rfl, rfl, fun _ => rfl⟩
  | cons r L ih =>
    intro U V h
    have h1 := h r List.mem_cons_self
    have h2 : ∀ q ∈ L, U (dk5 q) = V (dk5 q) := fun q hq => h q (List.mem_cons_of_mem _ hq)
    obtain ⟨a, b, c⟩ := ih U V h2
    obtain ⟨a', b', c'⟩ := ih (wo U (dk5 r)) (wo V (dk5 r)) (fun q hq => by simp [wo, h2 q hq])
    refine ⟨?_, ?_, fun t => ?_⟩
    · simp only [pd, h1, a, a']
    · simp only [nd, h1, b, b']
    · simp only [wt, h1, c t, c' t]
theorem wo_sg (d : Int32) : wo (sg d) d = fun _ => false := by
  funext y
  simp [wo, sg]
theorem pd_un : ∀ (L : List R5) (U : Int32 → Bool) (d : Int32), U d = false → pd (un U d) L = pd (sg d) (pd U L) ∧ nd (un U d) L = nd U L + nd (sg d) (pd U L) ∧ ∀ t, wt t (un U d) L = wt t U L + wt t (sg d) (pd U L) := by
  intro L
  induction L with
  | nil => intro U d _; exact ⟨rfl, by simp [nd, pd], fun t => by simp [wt, pd]⟩
  | cons r L ih =>
    intro U d hU
    by_cases hd : dk5 r = d
    · have h1 : un U d (dk5 r) = true := by simp [un, hd]
      have h2 : U (dk5 r) = false := by rw [hd]; exact hU
      have h3 : sg d (dk5 r) = true := by simp [sg, hd]
      have h4 : ∀ q ∈ L, wo (un U d) (dk5 r) (dk5 q) = U (dk5 q) := by
        intro q _
        rw [hd]
        by_cases e : dk5 q = d
        · simp [wo, un, e, hU]
        · simp [wo, un, e]
      obtain ⟨a, b, c⟩ := pd_cg L _ _ h4
      obtain ⟨z1, z2, z3⟩ := pd_no (pd U L) (wo (sg d) (dk5 r)) (fun q _ => by rw [hd, wo_sg])
      have e0 : pd U (r :: L) = r :: pd U L := by simp [pd, h2]
      have e1 : nd U (r :: L) = nd U L := by simp [nd, h2]
      have e2 : ∀ t, wt t U (r :: L) = wt t U L := fun t => by simp [wt, h2]
      refine ⟨?_, ?_, fun t => ?_⟩
      · rw [e0]
        simp only [pd, h1, h3, a, z1, if_true]
      · rw [e0, e1]
        simp only [nd, h1, h3, b, z2]
        by_cases z : lf r - 1 = 0
        · simp [z, Int32.add_comm]
        · simp [z]
      · rw [e0, e2]
        simp only [wt, h1, h3, c t, z3 t]
        by_cases z : lf r - 1 = 0
        · simp [z, Int32.add_comm]
        · simp [z]
    · have h3 : sg d (dk5 r) = false := by simp [sg, hd]
      have h3' : sg d (dk5 (decR r)) = false := h3
      have hw : wo (un U d) (dk5 r) = un (wo U (dk5 r)) d := by
        funext y
        by_cases e : y = d
        · subst e
          simp [wo, un, Ne.symm hd]
        · simp [wo, un, e]
      have hwd : wo U (dk5 r) d = false := by simp [wo, hU]
      cases hUr : U (dk5 r) with
      | true =>
        have h1 : un U d (dk5 r) = true := by simp [un, hUr]
        obtain ⟨a, b, c⟩ := ih (wo U (dk5 r)) d hwd
        refine ⟨?_, ?_, fun t => ?_⟩
        · simp only [pd, h1, hUr, hw, a]
          by_cases z : lf r - 1 = 0
          · simp [z]
          · simp [z, pd, h3']
        · simp only [pd, nd, h1, hUr, hw, b]
          by_cases z : lf r - 1 = 0
          · simp [z, Int32.add_assoc]
          · simp [z, nd, h3']
        · simp only [pd, wt, h1, hUr, hw, c t]
          by_cases z : lf r - 1 = 0
          · simp [z, Int32.add_assoc]
          · simp [z, wt, h3']
      | false =>
        have h1 : un U d (dk5 r) = false := by simp [un, hUr, hd]
        obtain ⟨a, b, c⟩ := ih U d hU
        refine ⟨?_, ?_, fun t => ?_⟩
        · simp only [pd, h1, hUr, a]
          simp [pd, h3]
        · simp only [pd, nd, h1, hUr, b]
          simp [nd, h3]
        · simp only [pd, wt, h1, hUr, c t]
          simp [wt, h3]
/-- reads of a disk -/
def hasD (x : Int32) (L : List R5) : Bool := L.any (fun r => decide (dk5 r = x))
def cntD (x : Int32) (L : List R5) : Nat := (L.filter (fun r => decide (dk5 r = x))).length
theorem hasD_pd (x : Int32) : ∀ (L : List R5) (U : Int32 → Bool), U x = false → hasD x (pd U L) = hasD x L := by
  intro L
  induction L with
  | nil => intro U _; rfl
  | cons r L ih =>
    intro U hU
    by_cases hx : dk5 r = x
    · have h2 : U (dk5 r) = false := by rw [hx]; exact hU
      simp only [pd, h2]
      simp [hasD, hx]
    · have h5 : hasD x (r :: L) = hasD x L := by simp [hasD, hx]
      rw [h5]
      cases hUr : U (dk5 r) with
      | true =>
        have := ih (wo U (dk5 r)) (by simp [wo, hU])
        simp only [pd, hUr]
        by_cases z : lf r - 1 = 0
        · simpa [z] using this
        · simp only [z, if_true, if_false]
          have h6 : ∀ M : List R5, hasD x (decR r :: M) = hasD x M := fun M => by
            have : dk5 (decR r) = dk5 r := rfl
            simp [hasD, this, hx]
          rw [h6]
          exact this
      | false =>
        have := ih U hU
        simp only [pd, hUr]
        have h6 : ∀ M : List R5, hasD x (r :: M) = hasD x M := fun M => by simp [hasD, hx]
        simpa [h6] using this
theorem hasD_0 {x : Int32} {L : List R5} : hasD x L = false ↔ ∀ r ∈ L, dk5 r ≠ x := by
  simp [hasD]
theorem cntD_0 {x : Int32} {L : List R5} : cntD x L = 0 ↔ hasD x L = false := by
  rw [hasD_0]
  simp [cntD, List.filter_eq_nil_iff]
/-- one step of the reference: the first read of d -/
theorem pd_sg_no {d : Int32} {L : List R5} (h : hasD d L = false) : pd (sg d) L = L ∧ nd (sg d) L = 0 ∧ ∀ t, wt t (sg d) L = 0 := pd_no L _ (fun r hr => by simpa [sg] using hasD_0.mp h r hr)
theorem pd_sg_at {d : Int32} : ∀ (L : List R5) (p : Nat) (r : R5), L[p]? = some r → dk5 r = d → (∀ j q, j < p → L[j]? = some q → dk5 q ≠ d) →
    pd (sg d) L = (if lf r - 1 = 0 then L.eraseIdx p else L.set p (decR r)) ∧ nd (sg d) L = (if lf r - 1 = 0 then 1 else 0) ∧ ∀ t, wt t (sg d) L = (if lf r - 1 = 0 then t - r.2.2.2.2 else 0) := by
  intro L
  induction L with
  | nil => intro p r h; simp at h
  | cons a L ih =>
    intro p r hp hd hf
    cases p with
    | zero =>
      simp only [List.getElem?_cons_zero, Option.some.injEq] at hp
      subst hp
      have h3 : sg d (dk5 a) = true := by simp [sg, hd]
      obtain ⟨z1, z2, z3⟩ := pd_no L (wo (sg d) (dk5 a)) (fun q _ => by rw [hd, wo_sg])
      refine ⟨?_, ?_, fun t => ?_⟩
      · simp only [pd, h3, z1]
        by_cases z : lf a - 1 = 0 <;> simp [z]
      · simp only [nd, h3, z2]
        by_cases z : lf a - 1 = 0 <;> simp [z]
      · simp only [wt, h3, z3 t]
        by_cases z : lf a - 1 = 0 <;> simp [z]
    | succ p =>
      simp only [List.getElem?_cons_succ] at hp
      have ha : dk5 a ≠ d := hf 0 a (by omega) rfl
      have h3 : sg d (dk5 a) = false := by simp [sg, ha]
      obtain ⟨z1, z2, z3⟩ := ih p r hp hd (fun j q hj hq => hf (j + 1) q (by omega) hq)
      refine ⟨?_, ?_, fun t => ?_⟩
      · simp only [pd, h3, z1]
        by_cases z : lf r - 1 = 0 <;> simp [z]
      · simp only [nd, h3, z2]
        simp
      · simp only [wt, h3, z3 t]
        simp
end
section
/-! the class's state i beside the reference's row s -/
def LC (h : DH) (i c : Nat) : List R5 := (List.range c).map (rdk h i)
def LM (s : Nat → Int32) (c : Nat) : List R5 := (List.range c).map (rmk s)
def RB (h : DH) (i : Nat) (s : Nat → Int32) : Prop := (∀ n, n < 10 → h.1 (1, i, 0) n = s n) ∧ (∀ k, 4 ≤ k → k < 15 → h.1 (0, i, 0) k = s (ms k)) ∧ (∀ d, d < 12 → ∀ f, f < 6 → h.1 (4, i, d) f = s (oD d (mf f)))
theorem ms_lt (k : Nat) : 10 ≤ ms k ∧ ms k < 21 := by
  unfold ms
  split <;> decide
theorem ms_inj {k j : Nat} (hk : 4 ≤ k) (hk2 : k < 15) (hj : 4 ≤ j) (hj2 : j < 15) (h : ms k = ms j) : k = j := by
  have : ∀ a, a < 15 → ∀ b, b < 15 → 4 ≤ a → 4 ≤ b → ms a = ms b → a = b := by decide
  exact this k hk2 j hj2 hk hj h
theorem mf_lt {f : Nat} (h : f < 6) : mf f < 6 := by
  have : ∀ a, a < 6 → mf a < 6 := by decide
  exact this f h
theorem mf_inj {f g : Nat} (hf : f < 6) (hg : g < 6) (h : mf f = mf g) : f = g := by
  have : ∀ a, a < 6 → ∀ b, b < 6 → mf a = mf b → a = b := by decide
  exact this f hf g hg h
section RBL
variable {h h' : DH} {i : Nat} {s s' : Nat → Int32}
theorem RB.cg (hr : RB h i s) (e1 : h'.1 (1, i, 0) = h.1 (1, i, 0)) (e0 : ∀ k, 4 ≤ k → k < 15 → h'.1 (0, i, 0) k = h.1 (0, i, 0) k) (e4 : ∀ d, d < 12 → ∀ f, f < 6 → h'.1 (4, i, d) f = h.1 (4, i, d) f) (es : ∀ k, k < 93 → s' k = s k) : RB h' i s' := by
  refine ⟨fun n hn => ?_, fun k h1 h2 => ?_, fun d hd f hf => ?_⟩
  · rw [e1, es n (by omega)]
    exact hr.1 n hn
  · rw [e0 k h1 h2, es _ (by have := ms_lt k; omega)]
    exact hr.2.1 k h1 h2
  · rw [e4 d hd f hf, es _ (by have := mf_lt hf; unfold oD; omega)]
    exact hr.2.2 d hd f hf
theorem RB.m (hr : RB h i s) (es : ∀ k, k < 93 → s' k = s k) : RB h i s' := hr.cg rfl (fun _ _ _ => rfl) (fun _ _ _ _ => rfl) es
theorem RB.sc (hr : RB h i s) {k : Nat} (hk : 4 ≤ k) (hk2 : k < 15) (v : Int32) : RB (up1 h (0, i, 0) k v) i (upd s (ms k) v) := by
  have hm := ms_lt k
  refine ⟨fun n hn => ?_, fun j h1 h2 => ?_, fun d hd f hf => ?_⟩
  · rw [up1_ne _ _ _ (by simp), upd_n _ _ (by omega)]
    exact hr.1 n hn
  · rw [up1_1]
    by_cases e : j = k
    · subst e
      rw [if_pos ⟨rfl, rfl⟩, upd_s]
    · rw [if_neg (fun t => e t.2), upd_n _ _ (fun t => e (ms_inj h1 h2 hk hk2 t))]
      exact hr.2.1 j h1 h2
  · rw [up1_ne _ _ _ (by simp), upd_n _ _ (by have := mf_lt hf; unfold oD; omega)]
    exact hr.2.2 d hd f hf
theorem RB.dk (hr : RB h i s) {d f : Nat} (hd : d < 12) (hf : f < 6) (v : Int32) : RB (up1 h (4, i, d) f v) i (upd s (oD d (mf f)) v) := by
  have hm := mf_lt hf
  refine ⟨fun n hn => ?_, fun j h1 h2 => ?_, fun d' hd' f' hf' => ?_⟩
  · rw [up1_ne _ _ _ (by simp), upd_n _ _ (by unfold oD; omega)]
    exact hr.1 n hn
  · rw [up1_ne _ _ _ (by simp), upd_n _ _ (by have := ms_lt j; unfold oD; omega)]
    exact hr.2.1 j h1 h2
  · rw [up1_1]
    by_cases e : d' = d ∧ f' = f
    · obtain ⟨rfl, rfl⟩ := e
      rw [if_pos ⟨rfl, rfl⟩, upd_s]
    · rw [if_neg (fun t => e ⟨by simpa using t.1, t.2⟩), upd_n]
      · exact hr.2.2 d' hd' f' hf'
      · have hm' := mf_lt hf'
        intro t
        have : d' = d ∧ mf f' = mf f := by unfold oD at t; omega
        exact e ⟨this.1, mf_inj hf' hf this.2⟩
theorem RB.d6 (hr : RB h i s) (d : Nat) (v : Int32) : RB (up1 h (4, i, d) 6 v) i s := hr.cg (up1_ne _ _ _ (by simp)) (fun k _ _ => by rw [up1_ne _ _ _ (by simp)]) (fun d' _ f hf => by rw [up1_1, if_neg (fun t => by omega)]) (fun _ _ => rfl)
theorem RB.rd (hr : RB h i s) (p f : Nat) (v : Int32) : RB (up1 h (5, i, p) f v) i s := hr.cg (up1_ne _ _ _ (by simp)) (fun k _ _ => by rw [up1_ne _ _ _ (by simp)]) (fun d' _ f hf => by rw [up1_ne _ _ _ (by simp)]) (fun _ _ => rfl)
theorem RB.c3 (hr : RB h i s) (v : Int32) : RB (up1 h (0, i, 0) 3 v) i s := hr.cg (up1_ne _ _ _ (by simp)) (fun k hk _ => by rw [up1_1, if_neg (fun t => by omega)]) (fun d' _ f hf => by rw [up1_ne _ _ _ (by simp)]) (fun _ _ => rfl)
theorem RB.u2 (hr : RB h i s) (κ : DKey) (k x : Nat) : RB (up2 h κ k x) i s := hr
theorem RB.mh (hr : RB h i s) {k : Nat} (hk : 93 ≤ k) (v : Int32) : RB h i (upd s k v) := hr.m (fun j hj => upd_n _ _ (by omega))
end RBL
/-- the reads of the class: places are apart -/
def pmi (h : DH) (i : Nat) : Prop := ∀ k k', k < 30 → k' < 30 → h.2 (3, i, 0) k = h.2 (3, i, 0) k' → k = k'
theorem rdk_o {h : DH} {i k : Nat} {κ : DKey} (hκ : κ.1 ≠ 5) (j : Nat) (v : Int32) : rdk (up1 h κ j v) i k = rdk h i k := by
  have : ∀ p, (up1 h κ j v).1 (5, i, p) = h.1 (5, i, p) := fun p => up1_ne _ _ _ (fun e => hκ (by rw [← e]))
  simp only [rdk, this, up1_2]
theorem LC_o {h : DH} {i c : Nat} {κ : DKey} (hκ : κ.1 ≠ 5) (j : Nat) (v : Int32) : LC (up1 h κ j v) i c = LC h i c := by
  unfold LC
  refine List.map_congr_left (fun k _ => rdk_o hκ j v)
theorem LC_at {h : DH} {i c k : Nat} (hk : k < c) : (LC h i c)[k]? = some (rdk h i k) := by
  unfold LC
  rw [List.getElem?_map, List.getElem?_range hk]
  rfl
theorem LM_at {s : Nat → Int32} {c k : Nat} (hk : k < c) : (LM s c)[k]? = some (rmk s k) := by
  unfold LM
  rw [List.getElem?_map, List.getElem?_range hk]
  rfl
theorem LC_len (h : DH) (i c : Nat) : (LC h i c).length = c := by simp [LC]
theorem LM_len (s : Nat → Int32) (c : Nat) : (LM s c).length = c := by simp [LM]
theorem LC_mem {h : DH} {i c : Nat} {r : R5} : r ∈ LC h i c ↔ ∃ k, k < c ∧ rdk h i k = r := by simp [LC]
theorem LM_mem {s : Nat → Int32} {c : Nat} {r : R5} : r ∈ LM s c ↔ ∃ k, k < c ∧ rmk s k = r := by simp [LM]
theorem LM_cg {s s' : Nat → Int32} {c : Nat} (h : ∀ k, 94 ≤ k → k < 94 + 5 * c → s' k = s k) : LM s' c = LM s c := by
  unfold LM
  refine List.map_congr_left (fun k hk => ?_)
  have hk := List.mem_range.mp hk
  unfold rmk
  rw [h _ (by omega) (by omega), h _ (by omega) (by omega), h _ (by omega) (by omega), h _ (by omega) (by omega), h _ (by omega) (by omega)]
theorem LM_lo {s : Nat → Int32} {c k : Nat} (hk : k < 94) (v : Int32) : LM (upd s k v) c = LM s c := LM_cg (fun j hj _ => upd_n _ _ (by omega))
theorem LM_mSb {s : Nat → Int32} {c d : Nat} (hd : d < 12) : LM (mSb s d) c = LM s c := by
  unfold mSb
  rw [LM_lo (by unfold oD; omega), LM_lo (by unfold oD; omega), LM_lo (by unfold oD; omega)]
/-- a read's row in the reference -/
theorem rmk_eq (s : Nat → Int32) (k : Nat) : rmk s k = (s (oR k 0), s (oR k 1), s (oR k 2), s (oR k 3), s (oR k 4)) := rfl
theorem LM_rm {s : Nat → Int32} {p c : Nat} (hp : p < c) (hc : c ≤ 30) : LM (mrm s p c) (c - 1) = (LM s c).eraseIdx p := by
  refine List.ext_getElem? fun k => ?_
  by_cases hk : k < c - 1
  · rw [LM_at hk, List.getElem?_eraseIdx]
    by_cases hkp : k < p
    · rw [if_pos hkp, LM_at (by omega)]
      have e : ∀ w, w < 5 → mrm s p c (oR k w) = s (oR k w) := fun w hw => by
        unfold mrm msh
        rw [if_neg (by unfold oR; omega), upd_n _ _ (by unfold oR; omega)]
      rw [rmk_eq, rmk_eq, e 0 (by decide), e 1 (by decide), e 2 (by decide), e 3 (by decide), e 4 (by decide)]
    · rw [if_neg hkp, LM_at (by omega)]
      have e : ∀ w, w < 5 → mrm s p c (oR k w) = s (oR (k + 1) w) := fun w hw => by
        unfold mrm msh
        rw [if_pos (by unfold oR; omega), upd_n _ _ (by unfold oR; omega)]
        exact congrArg s (by unfold oR; omega)
      rw [rmk_eq, rmk_eq, e 0 (by decide), e 1 (by decide), e 2 (by decide), e 3 (by decide), e 4 (by decide)]
  · rw [List.getElem?_eq_none (by rw [LM_len]; omega), List.getElem?_eq_none (by rw [List.length_eraseIdx, LM_len, if_pos hp]; omega)]
theorem mrm_lo {s : Nat → Int32} {p c k : Nat} (hk : k < 93) : mrm s p c k = s k := by
  unfold mrm msh
  rw [if_neg (by unfold oR; omega), upd_n _ _ (by omega)]
theorem LM_set {s : Nat → Int32} {p c w : Nat} (hw : w < 5) (v : Int32) : LM (upd s (oR p w) v) c = (LM s c).set p (match w with
  | 0 => (v, (rmk s p).2)
  | 1 => ((rmk s p).1, v, (rmk s p).2.2)
  | 2 => ((rmk s p).1, (rmk s p).2.1, v, (rmk s p).2.2.2)
  | 3 => ((rmk s p).1, (rmk s p).2.1, (rmk s p).2.2.1, v, (rmk s p).2.2.2.2)
  | _ => ((rmk s p).1, (rmk s p).2.1, (rmk s p).2.2.1, (rmk s p).2.2.2.1, v)) := by
  refine List.ext_getElem? fun k => ?_
  by_cases hk : k < c
  · rw [LM_at hk, List.getElem?_set, LM_len]
    by_cases e : p = k
    · subst e
      rw [if_pos rfl, if_pos hk]
      have h5 : w = 0 ∨ w = 1 ∨ w = 2 ∨ w = 3 ∨ w = 4 := by omega
      rcases h5 with rfl | rfl | rfl | rfl | rfl <;> simp [rmk_eq, upd, oR]
    · rw [if_neg e, LM_at hk]
      have e1 : ∀ u, u < 5 → upd s (oR p w) v (oR k u) = s (oR k u) := fun u hu => upd_n _ _ (by unfold oR; omega)
      rw [rmk_eq, rmk_eq, e1 0 (by decide), e1 1 (by decide), e1 2 (by decide), e1 3 (by decide), e1 4 (by decide)]
  · rw [List.getElem?_eq_none (by rw [LM_len]; omega), List.getElem?_eq_none (by rw [List.length_set, LM_len]; omega)]
/-- first places and lists -/
theorem mfst_none {s : Nat → Int32} {c : Nat} {x : Int32} : mfst s c x = none ↔ hasD x (LM s c) = false := by
  constructor
  · intro h
    rw [hasD_0]
    intro r hr
    obtain ⟨k, hk, rfl⟩ := LM_mem.mp hr
    have := fp_none h k hk
    simpa [dk5, rmk_eq] using this
  · intro h
    rw [hasD_0] at h
    refine fp_nof (fun j hj => ?_)
    have := h _ (LM_mem.mpr ⟨j, hj, rfl⟩)
    simpa [dk5, rmk_eq] using this
theorem mfst_some {s : Nat → Int32} {c p : Nat} {x : Int32} (h : mfst s c x = some p) : p < c ∧ (LM s c)[p]? = some (rmk s p) ∧ dk5 (rmk s p) = x ∧ ∀ j q, j < p → (LM s c)[j]? = some q → dk5 q ≠ x := by
  obtain ⟨h1, h2, h3⟩ := fp_some h
  refine ⟨h1, LM_at h1, by simpa [dk5, rmk_eq] using h2, fun j q hj hq => ?_⟩
  rw [LM_at (by omega)] at hq
  cases hq
  have := h3 j hj
  simpa [dk5, rmk_eq] using this
end
section
/-! starts: the class's gs beside the reference's stM -/
def markR (x : Int32) (r : R5) : R5 := if dk5 r = x then (r.1, r.2.1, r.2.2.1, 0, r.2.2.2.2) else r
theorem rdk_at {h : DH} {i k : Nat} (f : Nat) (v : Int32) (hp : pmi h i) {j : Nat} (hj : j < 30) (hk : k < 30) (hne : k ≠ j) : rdk (up1 h (5, i, h.2 (3, i, 0) j) f v) i k = rdk h i k := by
  have : (up1 h (5, i, h.2 (3, i, 0) j) f v).1 (5, i, h.2 (3, i, 0) k) = h.1 (5, i, h.2 (3, i, 0) k) := up1_ne _ _ _ (fun e => hne (hp k j hk hj (by simpa using e)))
  simp only [rdk, up1_2, this]
theorem rdk_me {h : DH} {i k : Nat} (v : Int32) : rdk (up1 h (5, i, h.2 (3, i, 0) k) 3 v) i k = ((rdk h i k).1, (rdk h i k).2.1, (rdk h i k).2.2.1, v, (rdk h i k).2.2.2.2) := by
  simp [rdk, up1_1, up1_2]
theorem clB_rd {g : DH} {i d k : Nat} (hp : pmi g i) (hk : k < 30) : (∀ j, j < 30 → j ≠ k → rdk (clB g i d k) i j = rdk g i j) ∧ rdk (clB g i d k) i k = markR (nI d) (rdk g i k) ∧ (clB g i d k).1 (0, i, 0) 6 = g.1 (0, i, 0) 6 + (if dk5 (rdk g i k) = nI d then 1 else 0) := by
  unfold clB
  by_cases z : g.1 (5, i, g.2 (3, i, 0) k) 1 = nI d
  · rw [if_pos z]
    refine ⟨fun j hj hne => ?_, ?_, ?_⟩
    · rw [rdk_o (show (0 : Nat) ≠ 5 by decide), rdk_at 3 0 hp hk hj hne]
    · rw [rdk_o (show (0 : Nat) ≠ 5 by decide), rdk_me]
      unfold markR
      rw [if_pos (show dk5 (rdk g i k) = nI d from z)]
    · rw [if_pos (show dk5 (rdk g i k) = nI d from z)]
      simp [up1_1]
  · rw [if_neg z]
    refine ⟨fun j hj hne => rfl, ?_, ?_⟩
    · unfold markR
      rw [if_neg (show ¬ dk5 (rdk g i k) = nI d from z)]
    · rw [if_neg (show ¬ dk5 (rdk g i k) = nI d from z)]
      simp
theorem close_rd {g : DH} {i d : Nat} (hp : pmi g i) : ∀ k, k ≤ 30 → (∀ j, j < 30 → rdk (close g i d k) i j = if j < k then markR (nI d) (rdk g i j) else rdk g i j) ∧ (close g i d k).1 (0, i, 0) 6 = g.1 (0, i, 0) 6 + nI (cntD (nI d) (LC g i k)) := by
  intro k
  induction k with
  | zero =>
    intro _
    exact ⟨fun j _ => by rw [if_neg (by omega)]; rfl, by show _ = _ + nI 0; rw [nI_0]; simp [close]⟩
  | succ k ih =>
    intro hk
    obtain ⟨h1, h2⟩ := ih (by omega)
    have hp' : pmi (close g i d k) i := fun a b ha hb he => hp a b ha hb (by rw [close_2] at he; exact he)
    obtain ⟨g1, g2, g3⟩ := clB_rd (d := d) hp' (show k < 30 by omega)
    have ek : rdk (close g i d k) i k = rdk g i k := by rw [h1 k (by omega), if_neg (by omega)]
    rw [show close g i d (k + 1) = clB (close g i d k) i d k from rfl]
    refine ⟨fun j hj => ?_, ?_⟩
    · by_cases e : j = k
      · subst e
        rw [g2, ek, if_pos (by omega)]
      · rw [g1 j hj e, h1 j hj]
        by_cases e2 : j < k
        · rw [if_pos e2, if_pos (by omega)]
        · rw [if_neg e2, if_neg (by omega)]
    · rw [g3, h2, ek]
      have e : cntD (nI d) (LC g i (k + 1)) = cntD (nI d) (LC g i k) + (if dk5 (rdk g i k) = nI d then 1 else 0) := by
        unfold cntD LC
        rw [List.range_succ, List.map_append, List.filter_append, List.length_append]
        by_cases z : dk5 (rdk g i k) = nI d <;> simp [z]
      rw [e]
      by_cases z : dk5 (rdk g i k) = nI d
      · rw [if_pos z, if_pos z, ← nI_add, Int32.add_assoc]
        rfl
      · rw [if_neg z, if_neg z]
        simp
theorem close_LC {g : DH} {i d c : Nat} (hp : pmi g i) (hc : c ≤ 30) : LC (close g i d c) i c = (LC g i c).map (markR (nI d)) := by
  unfold LC
  rw [List.map_map]
  refine List.map_congr_left (fun k hk => ?_)
  have hk := List.mem_range.mp hk
  rw [(close_rd hp c hc).1 k (by omega), if_pos hk]
  rfl
theorem live_mark (x : Int32) : ∀ (L : List R5), live (L.map (markR x)) = (live L).filter (fun r => decide (dk5 r ≠ x)) := by
  intro L
  induction L with
  | nil => rfl
  | cons r L ih =>
    unfold live at ih ⊢
    by_cases z : dk5 r = x
    · have e : markR x r = (r.1, r.2.1, r.2.2.1, 0, r.2.2.2.2) := by unfold markR; rw [if_pos z]
      rw [List.map_cons, List.filter_cons, e]
      have : ¬ (0 : Int32) < lf (r.1, r.2.1, r.2.2.1, 0, r.2.2.2.2) := by show ¬ (0 : Int32) < 0; decide
      rw [if_neg (by simpa using this), ih]
      by_cases zl : 0 < lf r
      · rw [List.filter_cons (x := r), if_pos (by simpa using zl), List.filter_cons (x := r), if_neg (by simp [z])]
      · rw [List.filter_cons (x := r), if_neg (by simpa using zl)]
    · have e : markR x r = r := by unfold markR; rw [if_neg z]
      rw [List.map_cons, List.filter_cons, e]
      by_cases zl : 0 < lf r
      · rw [if_pos (by simpa using zl), ih, List.filter_cons (x := r), if_pos (by simpa using zl), List.filter_cons (x := r), if_pos (by simpa using z)]
      · rw [if_neg (by simpa using zl), ih, List.filter_cons (x := r), if_neg (by simpa using zl)]
theorem close_o {g : DH} {i d k : Nat} (q : DKey) (hq : q.1 ≠ 5) (j : Nat) (hj : ¬ (q = (0, i, 0) ∧ j = 6)) : (close g i d k).1 q j = g.1 q j := by
  induction k with
  | zero => rfl
  | succ k ih =>
    rw [show close g i d (k + 1) = clB (close g i d k) i d k from rfl]
    unfold clB
    split
    · rw [up1_1, if_neg hj, up1_ne _ _ _ (fun e => hq (by rw [e]))]
      exact ih
    · exact ih
/-- the reference loses the reads of a disk -/
theorem eraseIdx_ne {x : Int32} : ∀ (L : List R5) (p : Nat) (r : R5), L[p]? = some r → dk5 r = x → (∀ j q, j < p → L[j]? = some q → dk5 q ≠ x) → (L.eraseIdx p).filter (fun r => decide (dk5 r ≠ x)) = L.filter (fun r => decide (dk5 r ≠ x)) ∧ cntD x L = cntD x (L.eraseIdx p) + 1 := by
  intro L
  induction L with
  | nil => intro p r h; simp at h
  | cons a L ih =>
    intro p r hp hx hf
    cases p with
    | zero =>
      simp only [List.getElem?_cons_zero, Option.some.injEq] at hp
      subst hp
      refine ⟨?_, ?_⟩
      · simp [hx]
      · simp [cntD, hx]
    | succ p =>
      simp only [List.getElem?_cons_succ] at hp
      have ha : dk5 a ≠ x := hf 0 a (by omega) rfl
      obtain ⟨z1, z2⟩ := ih p r hp hx (fun j q hj hq => hf (j + 1) q (by omega) hq)
      refine ⟨?_, ?_⟩
      · simp only [List.eraseIdx_cons_succ, List.filter_cons]
        rw [z1]
      · unfold cntD at z2 ⊢
        simp only [List.eraseIdx_cons_succ, List.filter_cons]
        rw [if_neg (by simpa using ha), if_neg (by simpa using ha)]
        exact z2
theorem brkN_LM (d : Nat) : ∀ (m : Nat) (g : Nat → Int32), okC g → cc g ≤ m → LM (brkN d m g) (cc (brkN d m g)) = (LM g (cc g)).filter (fun r => decide (dk5 r ≠ nI d)) ∧ brkN d m g 14 = g 14 + nI (cntD (nI d) (LM g (cc g))) ∧ ∀ k, k < 93 → k ≠ 14 → brkN d m g k = g k := by
  intro m
  induction m with
  | zero =>
    intro g hg hm
    have h0 : cc g = 0 := by omega
    unfold brkN
    rw [h0]
    exact ⟨rfl, by show _ = _ + nI 0; rw [nI_0]; simp, fun _ _ _ => rfl⟩
  | succ m ih =>
    intro g hg hm
    obtain ⟨g1, g2⟩ := hg.cc
    unfold brkN
    cases hf : mfst g (cc g) (nI d) with
    | none =>
      have h0 := mfst_none.mp hf
      dsimp only
      refine ⟨?_, ?_, fun _ _ _ => rfl⟩
      · rw [List.filter_eq_self.mpr (fun r hr => by simpa using hasD_0.mp h0 r hr)]
      · rw [cntD_0.mpr h0, nI_0]
        simp
    | some p =>
      obtain ⟨p1, p2, p3, p4⟩ := mfst_some hf
      dsimp only
      have e93 : (upd (mrm g p (cc g)) 14 (mrm g p (cc g) 14 + 1)) 93 = nI (cc g - 1) := by rw [upd_n _ _ (by decide), mrm_93]
      have ecc := cc_of e93 (by omega)
      obtain ⟨q1, q2, q3⟩ := ih (upd (mrm g p (cc g)) 14 (mrm g p (cc g) 14 + 1)) ⟨cc g - 1, by omega, e93⟩ (by rw [ecc]; omega)
      rw [ecc, LM_lo (by decide), LM_rm p1 g2] at q1 q2
      obtain ⟨z1, z2⟩ := eraseIdx_ne _ p _ p2 p3 p4
      refine ⟨q1.trans z1, ?_, fun k hk hk14 => ?_⟩
      · rw [q2, upd_s, mrm_lo (by decide), z2, ← nI_add, Int32.add_assoc, Int32.add_comm (nI _)]
        rfl
      · rw [q3 k hk hk14, upd_n _ _ hk14, mrm_lo hk]
/-! masks of disks -/
theorem bit_t : ∀ d, d < 12 → ∀ e, e < 12 → (bitOf (nI d) &&& bitOf (nI e) = 0 ↔ d ≠ e) := by decide +kernel
theorem and_or0 (a b c : Int32) : (a ||| b) &&& c = 0 ↔ a &&& c = 0 ∧ b &&& c = 0 := by
  constructor
  · intro h
    have h' : ((a.toBitVec ||| b.toBitVec) &&& c.toBitVec) = 0#32 := by
      have := congrArg Int32.toBitVec h
      simpa using this
    have k : ∀ (x y z : BitVec 32), (x ||| y) &&& z = 0#32 → x &&& z = 0#32 ∧ y &&& z = 0#32 := by
      intro x y z hh
      have hb : ∀ i : Nat, ((x.getLsbD i || y.getLsbD i) && z.getLsbD i) = false := by
        intro i
        have := congrArg (fun w => w.getLsbD i) hh
        simpa using this
      refine ⟨BitVec.eq_of_getLsbD_eq (fun i hi => ?_), BitVec.eq_of_getLsbD_eq (fun i hi => ?_)⟩
      · have := hb i
        simp only [BitVec.getLsbD_and, BitVec.getLsbD_zero]
        revert this
        cases x.getLsbD i <;> cases y.getLsbD i <;> cases z.getLsbD i <;> simp
      · have := hb i
        simp only [BitVec.getLsbD_and, BitVec.getLsbD_zero]
        revert this
        cases x.getLsbD i <;> cases y.getLsbD i <;> cases z.getLsbD i <;> simp
    obtain ⟨k1, k2⟩ := k _ _ _ h'
    exact ⟨Int32.toBitVec_inj.mp (by simpa using k1), Int32.toBitVec_inj.mp (by simpa using k2)⟩
  · rintro ⟨h1, h2⟩
    have h1' : (a.toBitVec &&& c.toBitVec) = 0#32 := by have := congrArg Int32.toBitVec h1; simpa using this
    have h2' : (b.toBitVec &&& c.toBitVec) = 0#32 := by have := congrArg Int32.toBitVec h2; simpa using this
    refine Int32.toBitVec_inj.mp ?_
    show (a.toBitVec ||| b.toBitVec) &&& c.toBitVec = 0#32
    refine BitVec.eq_of_getLsbD_eq (fun i hi => ?_)
    have e1 := congrArg (fun w => w.getLsbD i) h1'
    have e2 := congrArg (fun w => w.getLsbD i) h2'
    simp only [BitVec.getLsbD_and, BitVec.getLsbD_or, BitVec.getLsbD_zero] at e1 e2 ⊢
    revert e1 e2
    cases a.toBitVec.getLsbD i <;> cases b.toBitVec.getLsbD i <;> cases c.toBitVec.getLsbD i <;> simp
end
section
/-! invariants of the reference's row, and starts on both sides -/
def DInv (s : Nat → Int32) (e : Nat) : Prop := (∃ v, v < 4 ∧ s (oD e 0) = nI v) ∧ (s (oD e 0) = 1 → ∃ l, 1 ≤ l ∧ l ≤ 20 ∧ s (oD e 1) = nI l) ∧ (s (oD e 0) ≠ 1 → s (oD e 1) = 0) ∧ (s (oD e 0) ≠ 2 → s (oD e 3) = 0) ∧ (s (oD e 0) ≠ 3 → ∃ q, q ≤ 2 ∧ s (oD e 2) = nI q) ∧ (s (oD e 4) = 0 ∨ s (oD e 4) = 1)
def RInv (s : Nat → Int32) (r : R5) : Prop := ∃ e, e < 12 ∧ dk5 r = nI e ∧ s (oD e 0) ≠ 3 ∧ ∃ l t, 1 ≤ l ∧ l ≤ t ∧ t ≤ 50 ∧ lf r = nI l ∧ r.2.2.1 = nI t ∧ (s (oD e 0) ≠ 2 → l = t)
def NInv (s : Nat → Int32) : Prop := (∃ a, 1 ≤ a ∧ a ≤ 20 ∧ s 0 = nI a) ∧ (∃ a, a ≤ 500 ∧ s 5 = nI a) ∧ (∃ a, a ≤ 100 ∧ s 6 = nI a) ∧ (∃ a, a ≤ 20 ∧ s 7 = nI a) ∧ (s 15 = 0 ∨ s 15 = 1)
theorem nI_inj {a b : Nat} (ha : a < 2 ^ 31) (hb : b < 2 ^ 31) (h : nI a = nI b) : a = b := (nI_eq ha hb).mp h
theorem DInv.cg {s s' : Nat → Int32} {e : Nat} (h : DInv s e) (he : ∀ w, w < 6 → s' (oD e w) = s (oD e w)) : DInv s' e := by
  unfold DInv
  rw [he 0 (by decide), he 1 (by decide), he 2 (by decide), he 3 (by decide), he 4 (by decide)]
  exact h
theorem cnt_live {x : Int32} : ∀ (L : List R5), (∀ r ∈ L, dk5 r = x → 0 < lf r) → cntD x (live L) = cntD x L := by
  intro L
  induction L with
  | nil => intro _; rfl
  | cons r L ih =>
    intro h
    have h2 := ih (fun q hq => h q (List.mem_cons_of_mem _ hq))
    unfold live cntD at h2 ⊢
    by_cases z : dk5 r = x
    · have zl := h r List.mem_cons_self z
      rw [List.filter_cons (x := r), if_pos (by simpa using zl), List.filter_cons (x := r), if_pos (by simpa using z), List.filter_cons (x := r), if_pos (by simpa using z), List.length_cons, List.length_cons, h2]
    · by_cases zl : 0 < lf r
      · rw [List.filter_cons (x := r), if_pos (by simpa using zl), List.filter_cons (x := r), if_neg (by simpa using z), List.filter_cons (x := r), if_neg (by simpa using z), h2]
      · rw [List.filter_cons (x := r), if_neg (by simpa using zl), List.filter_cons (x := r), if_neg (by simpa using z), h2]
/-- both sides at disk d of the starts -/
def RG (h : DH) (i c : Nat) (s : Nat → Int32) (d : Nat) (q : DH × Int32) (p : (Nat → Int32) × (Nat → Int32)) : Prop :=
  RB q.1 i p.1 ∧ q.1.1 (0, i, 0) 3 = nI c ∧ q.1.2 = h.2 ∧ okC p.1 ∧ LM p.1 (cc p.1) = live (LC q.1 i c) ∧
  (∀ e, e < 12 → (q.2 &&& bitOf (nI e) = 0 ↔ (e < d → p.2 e = 0))) ∧
  (∀ r ∈ LC q.1 i c, ¬ 0 < lf r → ∃ e, e < d ∧ dk5 r = nI e ∧ p.1 (oD e 0) = 3) ∧
  (LC q.1 i c).map dk5 = (LC h i c).map dk5 ∧ (∀ e, e < 12 → q.1.1 (4, i, e) 6 = h.1 (4, i, e) 6) ∧
  (∀ e, e < 12 → DInv p.1 e) ∧ (∀ r ∈ LM p.1 (cc p.1), RInv p.1 r) ∧ (∀ k, k < 19 → k ≠ 14 → p.1 k = s k)
theorem nIm1 {l : Nat} (h : 1 ≤ l) : nI l - 1 = nI (l - 1) := by rw [show (1 : Int32) = nI 1 from rfl, pk_sub h]
theorem nIpos {l : Nat} (hl : l < 2 ^ 31) : 0 < nI l ↔ 0 < l := by
  rw [show (0 : Int32) = nI 0 from rfl]
  exact nI_ltI (by decide) hl
theorem LC_40 {h : DH} {i c d f : Nat} (v : Int32) : LC (up1 h (4, i, d) f v) i c = LC h i c := LC_o (show (4 : Nat) ≠ 5 by decide) f v
theorem LC_00 {h : DH} {i c f : Nat} (v : Int32) : LC (up1 h (0, i, 0) f v) i c = LC h i c := LC_o (show (0 : Nat) ≠ 5 by decide) f v
theorem LM_oD {s : Nat → Int32} {c d w : Nat} (hd : d < 12) (hw : w < 6) (v : Int32) : LM (upd s (oD d w) v) c = LM s c := LM_lo (by unfold oD; omega) v
theorem cc_cg {s s' : Nat → Int32} (h : s' 93 = s 93) : cc s' = cc s := by unfold cc; rw [h]
theorem RInv.cg {s s' : Nat → Int32} {r : R5} (h : RInv s r) (he : ∀ e, e < 12 → dk5 r = nI e → (s' (oD e 0) ≠ 3 ∨ s (oD e 0) = 3) ∧ (s' (oD e 0) ≠ 2 → s (oD e 0) ≠ 2)) : RInv s' r := by
  obtain ⟨e, h1, h2, h3, l, t, h4, h5, h6, h7, h8, h9⟩ := h
  refine ⟨e, h1, h2, ?_, l, t, h4, h5, h6, h7, h8, fun z => h9 ((he e h1 h2).2 z)⟩
  rcases (he e h1 h2).1 with z | z
  · exact z
  · exact absurd z h3
theorem oD_n {d k : Nat} (w w' : Nat) (h : k = oD d w) (hw : w ≠ w') : ¬ k = oD d w' := by unfold oD at *; omega
theorem oD_9 {d k : Nat} (w : Nat) (h : k = oD d w) : ¬ k = 19 := by unfold oD at *; omega
theorem oD_9' {d k : Nat} (w : Nat) (h : k = 19) : ¬ k = oD d w := by unfold oD at *; omega
/-- the order in which a failed start is written down does not matter -/
theorem fail_ord (s : Nat → Int32) (d : Nat) (x y z : Int32) : upd (upd (upd (upd (upd (upd (upd s (oD d 1) x) 19 y) (oD d 0) 0) (oD d 1) 0) (oD d 3) 0) (oD d 4) 0) (oD d 2) z = mSb (upd (upd (upd (upd s (oD d 1) x) (oD d 4) 0) (oD d 2) z) 19 y) d := by
  funext k
  unfold mSb
  simp only [upd]
  by_cases h0 : k = oD d 0
  · rw [if_neg (oD_n 0 2 h0 (by decide)), if_neg (oD_n 0 4 h0 (by decide)), if_neg (oD_n 0 3 h0 (by decide)), if_neg (oD_n 0 1 h0 (by decide)), if_pos h0, if_neg (oD_n 0 3 h0 (by decide)), if_neg (oD_n 0 1 h0 (by decide)), if_pos h0]
  by_cases h1 : k = oD d 1
  · rw [if_neg (oD_n 1 2 h1 (by decide)), if_neg (oD_n 1 4 h1 (by decide)), if_neg (oD_n 1 3 h1 (by decide)), if_pos h1, if_neg (oD_n 1 3 h1 (by decide)), if_pos h1]
  by_cases h2 : k = oD d 2
  · rw [if_pos h2, if_neg (oD_n 2 3 h2 (by decide)), if_neg h1, if_neg h0, if_neg (oD_9 2 h2), if_pos h2]
  by_cases h3 : k = oD d 3
  · rw [if_neg h2, if_neg (oD_n 3 4 h3 (by decide)), if_pos h3, if_pos h3]
  by_cases h4 : k = oD d 4
  · rw [if_neg h2, if_pos h4, if_neg h3, if_neg h1, if_neg h0, if_neg (oD_9 4 h4), if_neg h2, if_pos h4]
  by_cases h5 : k = 19
  · rw [if_neg h2, if_neg h4, if_neg h3, if_neg h1, if_neg h0, if_pos h5, if_neg h3, if_neg h1, if_neg h0, if_pos h5]
  · rw [if_neg h2, if_neg h4, if_neg h3, if_neg h1, if_neg h0, if_neg h5, if_neg h1, if_neg h3, if_neg h1, if_neg h0, if_neg h5, if_neg h2, if_neg h4]
theorem failH_eq {g : DH} {κ : DKey} {q : Nat} (hq : q ≤ 2) (h2 : g.1 κ 2 = nI q) : failH g κ = if q = 2 then up1 (up1 (up1 (sbH g κ) κ 5 0) κ 2 (nI (q + 1))) κ 0 3 else up1 (up1 (sbH g κ) κ 5 0) κ 2 (nI (q + 1)) := by
  unfold failH
  rw [h2, nI_1]
  by_cases z : q = 2
  · rw [if_pos z, if_neg (by rw [z]; decide)]
  · rw [if_neg z, if_pos]
    rw [show (3 : Int32) = nI 3 from rfl]
    exact nI_lt (by omega) (by decide)
theorem RB.fail {g : DH} {i d : Nat} {s : Nat → Int32} (hr : RB g i s) (hd : d < 12) (x y z : Int32) : RB (up1 (up1 (sbH (up1 (up1 g (4, i, d) 1 x) (0, i, 0) 14 y) (4, i, d)) (4, i, d) 5 0) (4, i, d) 2 z) i (mSb (upd (upd (upd (upd s (oD d 1) x) (oD d 4) 0) (oD d 2) z) 19 y) d) := by
  rw [← fail_ord]
  exact ((((((hr.dk hd (show 1 < 6 by decide) x).sc (show 4 ≤ 14 by decide) (by decide) y).dk hd (show 0 < 6 by decide) 0).dk hd (show 1 < 6 by decide) 0).dk hd (show 3 < 6 by decide) 0).dk hd (show 5 < 6 by decide) 0).dk hd (show 2 < 6 by decide) z
theorem mask_keep {b : Int32} {d : Nat} {f f' : Nat → Int32} (hd : d < 12) (h : ∀ e, e < 12 → (b &&& bitOf (nI e) = 0 ↔ (e < d → f e = 0))) (hf : ∀ e, e ≠ d → f' e = f e) (h0 : f' d = 0) : ∀ e, e < 12 → (b &&& bitOf (nI e) = 0 ↔ (e < d + 1 → f' e = 0)) := by
  intro e he
  rw [h e he]
  by_cases z : e = d
  · subst z
    exact ⟨fun _ _ => h0, fun _ hh => by omega⟩
  · rw [hf e z]
    exact ⟨fun a b => a (by omega), fun a b => a (by omega)⟩
theorem mask_put {b : Int32} {d : Nat} {f f' : Nat → Int32} (hd : d < 12) (h : ∀ e, e < 12 → (b &&& bitOf (nI e) = 0 ↔ (e < d → f e = 0))) (hf : ∀ e, e ≠ d → f' e = f e) (h0 : f' d ≠ 0) : ∀ e, e < 12 → ((b ||| bitOf (nI d)) &&& bitOf (nI e) = 0 ↔ (e < d + 1 → f' e = 0)) := by
  intro e he
  rw [and_or0, h e he, bit_t d hd e he]
  by_cases z : e = d
  · subst z
    exact ⟨fun a => absurd rfl a.2, fun a => absurd (a (by omega)) h0⟩
  · rw [hf e z]
    exact ⟨fun a b => a.1 (by omega), fun a => ⟨fun b => a (by omega), Ne.symm z⟩⟩
end
section
/-! starts: one disk -/
theorem RB.close {g : DH} {i d c : Nat} {s : Nat → Int32} (hr : RB g i s) {v : Int32} (hv : (close g i d c).1 (0, i, 0) 6 = v) : RB (close g i d c) i (upd s 14 v) := by
  refine (hr.sc (show 4 ≤ 6 by decide) (by decide) v).cg ?_ (fun k h1 h2 => ?_) (fun e _ f hf => ?_) (fun _ _ => rfl)
  · funext j
    rw [close_o _ (by simp) j (by simp), up1_ne _ _ _ (by simp)]
  · by_cases z : k = 6
    · rw [z, hv, up1_1, if_pos ⟨rfl, rfl⟩]
    · rw [close_o _ (by simp) k (by simp [z]), up1_1, if_neg (fun t => z t.2)]
  · rw [close_o _ (by simp) f (by simp), up1_ne _ _ _ (by simp)]
theorem fail_val (s : Nat → Int32) (d : Nat) (hd : d < 12) (x y z : Int32) : ∃ s', mSb (upd (upd (upd (upd s (oD d 1) x) (oD d 4) 0) (oD d 2) z) 19 y) d = s' ∧ s' (oD d 0) = 0 ∧ s' (oD d 1) = 0 ∧ s' (oD d 2) = z ∧ s' (oD d 3) = 0 ∧ s' (oD d 4) = 0 ∧ (∀ e, e ≠ d → ∀ w, w < 6 → s' (oD e w) = s (oD e w)) ∧ (∀ k, k < 19 → s' k = s k) ∧ s' 93 = s 93 ∧ (∀ c, LM s' c = LM s c) := by
  refine ⟨_, rfl, ?_, ?_, ?_, ?_, ?_, fun e he w hw => ?_, fun k hk => ?_, ?_, fun c => ?_⟩
  all_goals unfold mSb
  · rw [upd_n _ _ (by unfold oD; omega), upd_n _ _ (by unfold oD; omega), upd_s]
  · rw [upd_n _ _ (by unfold oD; omega), upd_s]
  · rw [upd_n _ _ (by unfold oD; omega), upd_n _ _ (by unfold oD; omega), upd_n _ _ (by unfold oD; omega), upd_n _ _ (by unfold oD; omega), upd_s]
  · rw [upd_s]
  · rw [upd_n _ _ (by unfold oD; omega), upd_n _ _ (by unfold oD; omega), upd_n _ _ (by unfold oD; omega), upd_n _ _ (by unfold oD; omega), upd_n _ _ (by unfold oD; omega), upd_s]
  · rw [upd_n _ _ (by unfold oD; omega), upd_n _ _ (by unfold oD; omega), upd_n _ _ (by unfold oD; omega), upd_n _ _ (by unfold oD; omega), upd_n _ _ (by unfold oD; omega), upd_n _ _ (by unfold oD; omega), upd_n _ _ (by unfold oD; omega)]
  · rw [upd_n _ _ (by unfold oD; omega), upd_n _ _ (by unfold oD; omega), upd_n _ _ (by unfold oD; omega), upd_n _ _ (by omega), upd_n _ _ (by unfold oD; omega), upd_n _ _ (by unfold oD; omega), upd_n _ _ (by unfold oD; omega)]
  · rw [upd_n _ _ (by unfold oD; omega), upd_n _ _ (by unfold oD; omega), upd_n _ _ (by unfold oD; omega), upd_n _ _ (by omega), upd_n _ _ (by unfold oD; omega), upd_n _ _ (by unfold oD; omega), upd_n _ _ (by unfold oD; omega)]
  · rw [LM_lo (by unfold oD; omega), LM_lo (by unfold oD; omega), LM_lo (by unfold oD; omega), LM_lo (by omega), LM_lo (by unfold oD; omega), LM_lo (by unfold oD; omega), LM_lo (by unfold oD; omega)]
theorem upd_f (f : Nat → Int32) (d : Nat) (v : Int32) : ∀ e, e ≠ d → upd f d v e = f e := fun _ h => upd_n _ _ h
theorem em_ne (x y : Int32) : x = y ∨ x ≠ y := (Decidable.em (x = y))
/-- where neither the reads nor the row of another disk change -/
theorem RG_one {h : DH} {i c d : Nat} {s s' f f' : Nat → Int32} {g g' : DH} {b b' : Int32} {s1 : Nat → Int32} (hd : d < 12) (hg : RG h i c s1 d (g, b) (s, f))
    (r : RB g' i s') (e3 : g'.1 (0, i, 0) 3 = g.1 (0, i, 0) 3) (e2 : g'.2 = g.2) (e93 : s' 93 = s 93) (elm : ∀ c, LM s' c = LM s c) (elc : LC g' i c = LC g i c)
    (em : ∀ e, e < 12 → (b' &&& bitOf (nI e) = 0 ↔ (e < d + 1 → f' e = 0)))
    (e6 : ∀ e, e < 12 → g'.1 (4, i, e) 6 = g.1 (4, i, e) 6) (eD : DInv s' d) (eo : ∀ e, e ≠ d → ∀ w, w < 6 → s' (oD e w) = s (oD e w))
    (ed : (s' (oD d 0) ≠ 3 ∨ s (oD d 0) = 3) ∧ (s' (oD d 0) ≠ 2 → s (oD d 0) ≠ 2)) (ek : ∀ k, k < 19 → s' k = s k) : RG h i c s1 (d + 1) (g', b') (s', f') := by
  obtain ⟨h1, h2, h3, h4, h5, h6, h7, h8, h9, h10, h11, h12⟩ := hg
  dsimp only at h1 h2 h3 h4 h5 h6 h7 h8 h9 h10 h11 h12
  have ecc : cc s' = cc s := cc_cg e93
  refine ⟨r, e3.trans h2, e2.trans h3, h4.of e93, ?_, em, fun q hq hl => ?_, ?_, fun e he => (e6 e he).trans (h9 e he), fun e he => ?_, fun q hq => ?_, fun k hk hk14 => (ek k hk).trans (h12 k hk hk14)⟩
  · dsimp only
    rw [ecc, elm, elc, h5]
  · dsimp only at hq ⊢
    rw [elc] at hq
    obtain ⟨e, q1, q2, q3⟩ := h7 q hq hl
    exact ⟨e, by omega, q2, by rw [eo e (by omega) 0 (by decide), q3]⟩
  · dsimp only
    rw [elc, h8]
  · by_cases z : e = d
    · rw [z]; exact eD
    · exact (h10 e he).cg (eo e z)
  · dsimp only at hq ⊢
    rw [ecc, elm] at hq
    refine (h11 q hq).cg (fun e he _ => ?_)
    by_cases z : e = d
    · rw [z]; exact ed
    · rw [eo e z 0 (by decide)]
      exact ⟨(em_ne _ 3).symm, id⟩
/-- the end of a start -/
theorem RG_end {h : DH} {i c d : Nat} {s1 : Nat → Int32} {g : DH} {b : Int32} {s f : Nat → Int32} (hd : d < 12) (hc : c ≤ 30) (hp : pmi h i) (hg : RG h i c s1 d (g, b) (s, f)) (z : s (oD d 0) = 1) {x : Int32} (hx : x = 0) (hm : ∀ e, e < 12 → (b &&& bitOf (nI e) = 0 ↔ (e < d + 1 → upd f d 0 e = 0))) : RG h i c s1 (d + 1) (if s (oD d 4) = 0 then (up1 (up1 (up1 (up1 g (4, i, d) 1 x) (4, i, d) 0 2) (4, i, d) 2 0) (4, i, d) 3 0, b) else (if (failH (up1 (up1 g (4, i, d) 1 x) (0, i, 0) 14 (g.1 (0, i, 0) 14 + 1)) (4, i, d)).1 (4, i, d) 0 = 3 then close (failH (up1 (up1 g (4, i, d) 1 x) (0, i, 0) 14 (g.1 (0, i, 0) 14 + 1)) (4, i, d)) i d c else failH (up1 (up1 g (4, i, d) 1 x) (0, i, 0) 14 (g.1 (0, i, 0) 14 + 1)) (4, i, d), b ||| bitOf (nI d))) (endM d (upd s (oD d 1) x, upd f d 0)) := by
  have hg' := hg
  obtain ⟨h1, h2, h3, h4, h5, h6, h7, h8, h9, h10, h11, h12⟩ := hg'
  dsimp only at h1 h2 h3 h4 h5 h6 h7 h8 h9 h10 h11 h12
  obtain ⟨⟨v0, v0l, v0e⟩, d1, d2, d3, d4, d5⟩ := h10 d hd
  obtain ⟨q, q2, qe⟩ := d4 (by rw [z]; decide)
  have r2 := h1.2.2 d hd 2 (by decide)
  rw [show mf 2 = 2 from rfl] at r2
  have r14 := h1.2.1 14 (by decide) (by decide)
  rw [show ms 14 = 19 from rfl] at r14
  unfold endM
  dsimp only
  have ea : upd s (oD d 1) x (oD d 4) = s (oD d 4) := upd_n _ _ (by unfold oD; omega)
  by_cases zp : s (oD d 4) = 0
  · rw [if_pos zp, if_pos (ea.trans zp)]
    have rb := (((h1.dk hd (show 1 < 6 by decide) x).dk hd (show 0 < 6 by decide) 2).dk hd (show 2 < 6 by decide) 0).dk hd (show 3 < 6 by decide) 0
    rw [show mf 0 = 0 from rfl, show mf 1 = 1 from rfl, show mf 2 = 2 from rfl, show mf 3 = 3 from rfl] at rb
    refine RG_one hd hg rb (by rw [up1_ne _ _ _ (by simp), up1_ne _ _ _ (by simp), up1_ne _ _ _ (by simp), up1_ne _ _ _ (by simp)]) rfl ?_ (fun c => ?_) ?_ hm (fun e he => ?_) ?_ (fun e he w hw => ?_) ?_ (fun k hk => ?_)
    · rw [upd_n _ _ (by unfold oD; omega), upd_n _ _ (by unfold oD; omega), upd_n _ _ (by unfold oD; omega), upd_n _ _ (by unfold oD; omega)]
    · rw [LM_oD hd (by decide), LM_oD hd (by decide), LM_oD hd (by decide), LM_oD hd (by decide)]
    · rw [LC_40, LC_40, LC_40, LC_40]
    · simp [up1_1]
    · have w0 : upd (upd (upd (upd s (oD d 1) x) (oD d 0) 2) (oD d 2) 0) (oD d 3) 0 (oD d 0) = 2 := by
        rw [upd_n _ _ (by unfold oD; omega), upd_n _ _ (by unfold oD; omega), upd_s]
      refine ⟨⟨2, by decide, w0⟩, fun t => absurd (w0.symm.trans t) (by decide), fun _ => ?_, fun t => absurd w0 t, fun t => ⟨0, by decide, ?_⟩, ?_⟩
      · rw [upd_n _ _ (by unfold oD; omega), upd_n _ _ (by unfold oD; omega), upd_n _ _ (by unfold oD; omega), upd_s, hx]
      · rw [upd_n _ _ (by unfold oD; omega), upd_s]
        rfl
      · rw [upd_n _ _ (by unfold oD; omega), upd_n _ _ (by unfold oD; omega), upd_n _ _ (by unfold oD; omega), upd_n _ _ (by unfold oD; omega)]
        exact d5
    · rw [upd_n _ _ (by unfold oD; omega), upd_n _ _ (by unfold oD; omega), upd_n _ _ (by unfold oD; omega), upd_n _ _ (by unfold oD; omega)]
    · have w0 : upd (upd (upd (upd s (oD d 1) x) (oD d 0) 2) (oD d 2) 0) (oD d 3) 0 (oD d 0) = 2 := by
        rw [upd_n _ _ (by unfold oD; omega), upd_n _ _ (by unfold oD; omega), upd_s]
      rw [w0]
      exact ⟨Or.inl (by decide), fun t => absurd rfl t⟩
    · rw [upd_n _ _ (by unfold oD; omega), upd_n _ _ (by unfold oD; omega), upd_n _ _ (by unfold oD; omega), upd_n _ _ (by unfold oD; omega)]
  · rw [if_neg zp, if_neg (fun t => zp (ea.symm.trans t))]
    have ga : (up1 (up1 g (4, i, d) 1 x) (0, i, 0) 14 (g.1 (0, i, 0) 14 + 1)).1 (4, i, d) 2 = nI q := by
      rw [up1_ne _ _ _ (by simp), up1_1, if_neg (by simp), r2, qe]
    have a2 : upd s (oD d 1) x (oD d 2) + 1 = nI (q + 1) := by rw [upd_n _ _ (by unfold oD; omega), qe, nI_1]
    have a19 : upd s (oD d 1) x 19 + 1 = g.1 (0, i, 0) 14 + 1 := by rw [upd_n _ _ (by unfold oD; omega), r14]
    have rb := h1.fail hd x (g.1 (0, i, 0) 14 + 1) (nI (q + 1))
    rw [a2, a19, failH_eq q2 ga]
    obtain ⟨s', es, k0, k1, k2, k3, k4, ko, kk, k93, klm⟩ := fail_val s d hd x (g.1 (0, i, 0) 14 + 1) (nI (q + 1))
    rw [es] at rb ⊢
    rw [k2]
    have f1 : upd (upd f d 0) d 1 d ≠ 0 := by rw [upd_s]; decide
    have m1 := mask_put hd h6 (f' := upd (upd f d 0) d 1) (fun e he => by rw [upd_n _ _ he, upd_n _ _ he]) f1
    generalize hG : up1 (up1 (sbH (up1 (up1 g (4, i, d) 1 x) (0, i, 0) 14 (g.1 (0, i, 0) 14 + 1)) (4, i, d)) (4, i, d) 5 0) (4, i, d) 2 (nI (q + 1)) = G at rb ⊢
    have G3 : G.1 (0, i, 0) 3 = g.1 (0, i, 0) 3 := by rw [← hG]; simp [up1_1, sbH]
    have G2 : G.2 = g.2 := by rw [← hG]; rfl
    have GL : LC G i c = LC g i c := by
      rw [← hG, LC_40, LC_40]
      unfold sbH
      rw [LC_40, LC_40, LC_40, LC_00, LC_40]
    have G6 : ∀ e, e < 12 → G.1 (4, i, e) 6 = g.1 (4, i, e) 6 := by
      intro e _
      rw [← hG]
      simp [up1_1, sbH]
    have G0 : G.1 (4, i, d) 0 = 0 := by
      rw [← hG]
      simp [up1_1, sbH]
    by_cases zq : q = 2
    · rw [if_pos zq, if_pos (show nI (q + 1) = 3 by rw [zq]; rfl)]
      have rb2 := rb.dk hd (show 0 < 6 by decide) 3
      rw [show mf 0 = 0 from rfl] at rb2
      have g0 : (up1 G (4, i, d) 0 3).1 (4, i, d) 0 = 3 := by simp [up1_1]
      rw [if_pos g0]
      have L2 : LC (up1 G (4, i, d) 0 3) i c = LC g i c := (LC_40 _).trans GL
      have P2 : pmi (up1 G (4, i, d) 0 3) i := by
        intro a b' ha hb hab
        refine hp a b' ha hb ?_
        rw [show (up1 G (4, i, d) 0 3).2 = h.2 from G2.trans h3] at hab
        exact hab
      have w0 : upd s' (oD d 0) 3 (oD d 0) = 3 := upd_s _ _ _
      have wo : ∀ e, e ≠ d → ∀ w, w < 6 → upd s' (oD d 0) 3 (oD e w) = s (oD e w) := fun e he w hw => by rw [upd_n _ _ (by unfold oD; omega), ko e he w hw]
      have w1 : ∀ w, w < 6 → w ≠ 0 → upd s' (oD d 0) 3 (oD d w) = s' (oD d w) := fun w hw hw0 => by rw [upd_n _ _ (by unfold oD; omega)]
      have wk : ∀ k, k < 19 → upd s' (oD d 0) 3 k = s k := fun k hk => by rw [upd_n _ _ (by unfold oD; omega), kk k hk]
      have w93 : upd s' (oD d 0) 3 93 = s 93 := by rw [upd_n _ _ (by unfold oD; omega), k93]
      have wl : LM (upd s' (oD d 0) 3) (cc (upd s' (oD d 0) 3)) = live (LC g i c) := by
        rw [cc_cg w93, LM_oD hd (by decide), klm, h5]
      generalize upd s' (oD d 0) 3 = t at rb2 w0 wo w1 wk w93 wl ⊢
      have q3 : (up1 G (4, i, d) 0 3).1 (0, i, 0) 3 = nI c := by rw [up1_ne _ _ _ (by simp), G3, h2]
      have q2' : (up1 G (4, i, d) 0 3).2 = h.2 := G2.trans h3
      have q6 : ∀ e, e < 12 → (up1 G (4, i, d) 0 3).1 (4, i, e) 6 = h.1 (4, i, e) 6 := fun e he => by
        rw [up1_1, if_neg (fun t => absurd t.2 (by decide)), G6 e he, h9 e he]
      generalize up1 G (4, i, d) 0 3 = G' at rb2 g0 L2 P2 q3 q2' q6 ⊢
      have k93' : okC t := h4.of w93
      obtain ⟨b1, b2, b3⟩ := brkN_LM d 30 t k93' k93'.cc.2
      rw [wl] at b1 b2
      have al : ∀ r ∈ LC g i c, dk5 r = nI d → 0 < lf r := by
        intro r hr hd'
        refine Decidable.byContradiction fun hl => ?_
        obtain ⟨e, e1, e2, _⟩ := h7 r hr hl
        have := nI_inj (by omega) (by omega) (hd'.symm.trans e2)
        omega
      rw [cnt_live _ al] at b2
      have c6 := (close_rd (d := d) P2 c hc).2
      have cL := close_LC (d := d) P2 hc
      rw [L2] at c6 cL
      have c14 := rb2.2.1 6 (by decide) (by decide)
      rw [show ms 6 = 14 from rfl] at c14
      have rb3 := rb2.close (d := d) (c := c) (c6.trans (by rw [c14, ← b2]))
      have lv : live (LC (close G' i d c) i c) = LM (brkN d 30 t) (cc (brkN d 30 t)) := by rw [cL, live_mark, b1]
      refine ⟨rb3.m (fun k hk => ?_), (close_3 _ _ _ _).trans q3, (close_2 _ _ _ _).trans q2', brkN_ok d 30 t k93', lv.symm, m1, fun r hr hl => ?_, ?_, fun e he => ?_, fun e he => ?_, fun r hr => ?_, fun k hk hk14 => ?_⟩
      · by_cases zk : k = 14
        · rw [zk, upd_s]
        · rw [upd_n _ _ zk]
          exact b3 k hk zk
      · dsimp only at hr ⊢
        rw [cL] at hr
        obtain ⟨r0, hr0, rfl⟩ := List.mem_map.mp hr
        by_cases zd : dk5 r0 = nI d
        · refine ⟨d, by omega, ?_, by rw [b3 _ (by unfold oD; omega) (by unfold oD; omega), w0]⟩
          unfold markR
          rw [if_pos zd]
          exact zd
        · have em : markR (nI d) r0 = r0 := by unfold markR; rw [if_neg zd]
          rw [em] at hl ⊢
          obtain ⟨e, e1, e2, e3⟩ := h7 r0 hr0 hl
          refine ⟨e, by omega, e2, ?_⟩
          rw [b3 _ (by unfold oD; omega) (by unfold oD; omega), wo e (by omega) 0 (by decide), e3]
      · dsimp only
        rw [cL, ← h8, List.map_map]
        refine List.map_congr_left (fun r _ => ?_)
        show dk5 (markR (nI d) r) = dk5 r
        unfold markR
        split <;> rfl
      · dsimp only
        rw [close_o _ (by simp) _ (by simp), q6 e he]
      · dsimp only
        have hb : ∀ w, w < 6 → brkN d 30 t (oD e w) = t (oD e w) := fun w hw => b3 _ (by unfold oD; omega) (by unfold oD; omega)
        refine DInv.cg ?_ hb
        by_cases ze : e = d
        · subst ze
          refine ⟨⟨3, by decide, w0⟩, fun u => absurd (w0.symm.trans u) (by decide), fun _ => (w1 1 (by decide) (by decide)).trans k1, fun _ => (w1 3 (by decide) (by decide)).trans k3, fun u => absurd w0 u, Or.inl ((w1 4 (by decide) (by decide)).trans k4)⟩
        · exact (h10 e he).cg (wo e ze)
      · dsimp only at hr ⊢
        rw [b1] at hr
        obtain ⟨hr1, hr2⟩ := List.mem_filter.mp hr
        rw [← h5] at hr1
        refine (h11 r hr1).cg (fun e he hed => ?_)
        have ze : e ≠ d := fun u => by
          rw [u] at hed
          simp [hed] at hr2
        rw [b3 _ (by unfold oD; omega) (by unfold oD; omega), wo e ze 0 (by decide)]
        exact ⟨(em_ne _ 3).symm, id⟩
      · dsimp only
        rw [b3 k (by omega) hk14, wk k hk, h12 k hk hk14]
    · rw [if_neg zq, if_neg (show ¬ G.1 (4, i, d) 0 = 3 by rw [G0]; decide), if_neg (show ¬ nI (q + 1) = 3 from fun t => by rw [show (3 : Int32) = nI 3 from rfl] at t; have := nI_inj (by omega) (by omega) t; omega)]
      refine RG_one hd hg rb G3 G2 k93 klm GL m1 G6 ?_ ko ?_ kk
      · refine ⟨⟨0, by decide, k0⟩, fun t => absurd (k0.symm.trans t) (by decide), fun _ => k1, fun _ => k3, fun _ => ⟨q + 1, by omega, k2⟩, Or.inl k4⟩
      · rw [k0, z]
        exact ⟨Or.inl (by decide), fun _ => by decide⟩
theorem RG_step {h : DH} {i c d : Nat} {s1 : Nat → Int32} {q : DH × Int32} {p : (Nat → Int32) × (Nat → Int32)} (hd : d < 12) (hc : c ≤ 30) (hp : pmi h i) (hg : RG h i c s1 d q p) : RG h i c s1 (d + 1) (gsB i c d q) (stMB d p) := by
  obtain ⟨g, b⟩ := q
  obtain ⟨s, f⟩ := p
  have hg' := hg
  obtain ⟨h1, h2, h3, h4, h5, h6, h7, h8, h9, h10, h11, h12⟩ := hg'
  dsimp only at h1 h2 h3 h4 h5 h6 h7 h8 h9 h10 h11 h12
  obtain ⟨⟨v0, v0l, v0e⟩, d1, d2, d3, d4, d5⟩ := h10 d hd
  have r0 := h1.2.2 d hd 0 (by decide)
  have r1 := h1.2.2 d hd 1 (by decide)
  have r2 := h1.2.2 d hd 2 (by decide)
  have r5 := h1.2.2 d hd 5 (by decide)
  rw [show mf 0 = 0 from rfl] at r0
  rw [show mf 1 = 1 from rfl] at r1
  rw [show mf 2 = 2 from rfl] at r2
  rw [show mf 5 = 4 from rfl] at r5
  have f0 : upd f d 0 d = 0 := upd_s _ _ _
  have m0 := mask_keep hd h6 (upd_f f d 0) f0
  unfold gsB stMB
  dsimp only
  rw [r0, r1, r5]
  by_cases z : s (oD d 0) = 1
  · rw [if_pos z, if_pos z]
    obtain ⟨l, l1, l2, le⟩ := d1 z
    have le1 : s (oD d 1) - 1 = nI (l - 1) := by rw [le, nIm1 l1]
    by_cases zl : l = 1
    · have lz : s (oD d 1) - 1 = 0 := by rw [le1, zl]; rfl
      rw [if_neg (by rw [lz]; decide), if_pos lz]
      exact RG_end hd hc hp hg z lz m0
    · rw [if_pos (by rw [le1]; exact (nIpos (by omega)).mpr (by omega)), if_neg (fun t => by rw [le1] at t; have := nI_inj (by omega) (by omega) (t.trans nI_0.symm); omega), le1]
      have rb := h1.dk hd (show 1 < 6 by decide) (nI (l - 1))
      refine RG_one hd hg rb (by rw [up1_ne _ _ _ (by simp)]) rfl (upd_n _ _ (by unfold oD; omega)) (fun c => LM_oD hd (by decide) _) (LC_40 _) m0 (fun e he => by rw [up1_1, if_neg (fun t => absurd t.2 (by decide))]) ?_ (fun e he w hw => upd_n _ _ (by unfold oD; omega)) ?_ (fun k hk => upd_n _ _ (by unfold oD; omega))
      · have z1 : upd s (oD d 1) (nI (l - 1)) (oD d 0) = s (oD d 0) := upd_n _ _ (by unfold oD; omega)
        refine ⟨⟨v0, v0l, by rw [z1, v0e]⟩, fun _ => ⟨l - 1, by omega, by omega, upd_s _ _ _⟩, fun t => absurd (z1.trans z) t, fun t => ?_, fun t => ?_, ?_⟩
        · rw [upd_n _ _ (by unfold oD; omega)]; exact d3 (by rw [← z1]; exact t)
        · rw [upd_n _ _ (by unfold oD; omega)]; exact d4 (by rw [← z1]; exact t)
        · rw [upd_n _ _ (by unfold oD; omega)]; exact d5
      · have z1 : upd s (oD d 1) (nI (l - 1)) (oD d 0) = s (oD d 0) := upd_n _ _ (by unfold oD; omega)
        rw [z1]
        exact ⟨(em_ne _ 3).symm, id⟩
  · rw [if_neg z, if_neg z]
    exact RG_one hd hg h1 rfl rfl rfl (fun _ => rfl) rfl m0 (fun _ _ => rfl) (h10 d hd) (fun _ _ _ _ => rfl) ⟨(em_ne _ 3).symm, id⟩ (fun _ _ => rfl)
theorem RG_all {h : DH} {i c : Nat} {s f : Nat → Int32} (hc : c ≤ 30) (hp : pmi h i) (h0 : RG h i c s 0 (h, 0) (s, f)) : ∀ d, d ≤ 12 → RG h i c s d (gs h i c d) (stM s f d) := by
  intro d
  induction d with
  | zero => intro _; exact h0
  | succ d ih => intro hd; exact RG_step (by omega) hc hp (ih (by omega))
end
section
/-! reading: the class's loop -/
/-- the first read of each disk of U goes on by a tick -/
def gd : (Int32 → Bool) → List R5 → List R5
  | _, [] => []
  | U, r :: rs => if U (dk5 r) then decR r :: gd (wo U (dk5 r)) rs else r :: gd U rs
theorem snoc_c (U : Int32 → Bool) (a x : Int32) (b : Bool) (h : U a = true) : (wo U a x = true ∧ b = false) ↔ (U x = true ∧ (decide (a = x) || b) = false) := by
  unfold wo
  by_cases z : x = a
  · subst z; simp
  · simp [z, Ne.symm z]
theorem snoc_d (U : Int32 → Bool) (a x : Int32) (b : Bool) (h : U a = false) : (U x = true ∧ b = false) ↔ (U x = true ∧ (decide (a = x) || b) = false) := by
  by_cases z : a = x
  · subst z; simp [h]
  · simp [z]
theorem hasD_cons (x : Int32) (a : R5) (L : List R5) : hasD x (a :: L) = (decide (dk5 a = x) || hasD x L) := rfl
theorem hasD_snoc (x : Int32) (a : R5) (L : List R5) : hasD x (L ++ [a]) = (hasD x L || decide (dk5 a = x)) := by
  simp [hasD]
theorem gd_snoc (r : R5) : ∀ (L : List R5) (U : Int32 → Bool), gd U (L ++ [r]) = gd U L ++ [if U (dk5 r) = true ∧ hasD (dk5 r) L = false then decR r else r] ∧ nd U (L ++ [r]) = nd U L + (if U (dk5 r) = true ∧ hasD (dk5 r) L = false then (if lf r - 1 = 0 then 1 else 0) else 0) ∧ ∀ t, wt t U (L ++ [r]) = wt t U L + (if U (dk5 r) = true ∧ hasD (dk5 r) L = false then (if lf r - 1 = 0 then t - r.2.2.2.2 else 0) else 0) := by
  intro L
  induction L with
  | nil =>
    intro U
    have : hasD (dk5 r) [] = false := rfl
    cases hU : U (dk5 r) with
    | true =>
      refine ⟨by simp [gd, hU, this], ?_, fun t => ?_⟩
      · by_cases z : lf r - 1 = 0 <;> simp [nd, hU, this, z]
      · by_cases z : lf r - 1 = 0 <;> simp [wt, hU, this, z]
    | false => exact ⟨by simp [gd, hU], by simp [nd, hU], fun t => by simp [wt, hU]⟩
  | cons a L ih =>
    intro U
    rw [hasD_cons]
    cases hU : U (dk5 a) with
    | true =>
      obtain ⟨h1, h2, h3⟩ := ih (wo U (dk5 a))
      simp only [snoc_c U (dk5 a) (dk5 r) (hasD (dk5 r) L) hU] at h1 h2 h3
      refine ⟨?_, ?_, fun t => ?_⟩
      · simp only [List.cons_append, gd, hU, if_true]
        rw [h1]
      · simp only [List.cons_append, nd, hU, if_true]
        rw [h2]
        by_cases z : lf a - 1 = 0
        · rw [if_pos z, if_pos z, Int32.add_assoc]
        · rw [if_neg z, if_neg z]
      · simp only [List.cons_append, wt, hU, if_true]
        rw [h3 t]
        by_cases z : lf a - 1 = 0
        · rw [if_pos z, if_pos z, Int32.add_assoc]
        · rw [if_neg z, if_neg z]
    | false =>
      obtain ⟨h1, h2, h3⟩ := ih U
      simp only [snoc_d U (dk5 a) (dk5 r) (hasD (dk5 r) L) hU] at h1 h2 h3
      refine ⟨?_, ?_, fun t => ?_⟩
      · simp only [List.cons_append, gd, hU, Bool.false_eq_true, if_false]
        rw [h1]
      · simp only [List.cons_append, nd, hU, Bool.false_eq_true, if_false]
        rw [h2]
      · simp only [List.cons_append, wt, hU, Bool.false_eq_true, if_false]
        rw [h3 t]
theorem gd_map : ∀ (L : List R5) (U : Int32 → Bool), (gd U L).map dk5 = L.map dk5 := by
  intro L
  induction L with
  | nil => intro U; rfl
  | cons a L ih =>
    intro U
    unfold gd
    split
    · rw [List.map_cons, List.map_cons, ih]
      rfl
    · rw [List.map_cons, List.map_cons, ih]
theorem live_cons (a : R5) (L : List R5) : live (a :: L) = if 0 < lf a then a :: live L else live L := by
  unfold live
  rw [List.filter_cons]
  by_cases z : 0 < lf a
  · rw [if_pos z, if_pos (by simpa using z)]
  · rw [if_neg z, if_neg (by simpa using z)]
theorem live_gd : ∀ (L : List R5) (U : Int32 → Bool), (∀ r ∈ L, ¬ 0 < lf r → U (dk5 r) = false) → (∀ r ∈ L, 0 < lf r → (lf r - 1 = 0 ↔ ¬ 0 < lf r - 1)) → live (gd U L) = pd U (live L) ∧ nd U L = nd U (live L) ∧ ∀ t, wt t U L = wt t U (live L) := by
  intro L
  induction L with
  | nil => intro U _ _; exact ⟨rfl, rfl, fun _ => rfl⟩
  | cons a L ih =>
    intro U h1 h2
    have h1' : ∀ r ∈ L, ¬ 0 < lf r → U (dk5 r) = false := fun r hr => h1 r (List.mem_cons_of_mem _ hr)
    have h2' : ∀ r ∈ L, 0 < lf r → (lf r - 1 = 0 ↔ ¬ 0 < lf r - 1) := fun r hr => h2 r (List.mem_cons_of_mem _ hr)
    by_cases zl : 0 < lf a
    · rw [live_cons, if_pos zl]
      cases hU : U (dk5 a) with
      | true =>
        obtain ⟨a1, a2, a3⟩ := ih (wo U (dk5 a)) (fun r hr hl => by unfold wo; rw [h1' r hr hl]; rfl) h2'
        have ez := h2 a List.mem_cons_self zl
        refine ⟨?_, ?_, fun t => ?_⟩
        · simp only [gd, pd, hU, if_true]
          rw [live_cons, a1]
          by_cases z : lf a - 1 = 0
          · rw [if_pos z, if_neg (show ¬ 0 < lf (decR a) from ez.mp z)]
          · rw [if_neg z, if_pos (show 0 < lf (decR a) from Decidable.not_not.mp (fun t => z (ez.mpr t)))]
        · simp only [nd, hU, if_true]
          rw [a2]
        · simp only [wt, hU, if_true]
          rw [a3 t]
      | false =>
        obtain ⟨a1, a2, a3⟩ := ih U h1' h2'
        refine ⟨?_, ?_, fun t => ?_⟩
        · simp only [gd, pd, hU, Bool.false_eq_true, if_false]
          rw [live_cons, if_pos zl, a1]
        · simp only [nd, hU, Bool.false_eq_true, if_false]
          rw [a2]
        · simp only [wt, hU, Bool.false_eq_true, if_false]
          rw [a3 t]
    · have hU := h1 a List.mem_cons_self zl
      obtain ⟨a1, a2, a3⟩ := ih U h1' h2'
      rw [live_cons, if_neg zl]
      refine ⟨?_, ?_, fun t => ?_⟩
      · simp only [gd, hU, Bool.false_eq_true, if_false]
        rw [live_cons, if_neg zl, a1]
      · simp only [nd, hU, Bool.false_eq_true, if_false]
        rw [a2]
      · simp only [wt, hU, Bool.false_eq_true, if_false]
        rw [a3 t]
theorem LC_succ (h : DH) (i k : Nat) : LC h i (k + 1) = LC h i k ++ [rdk h i k] := by
  unfold LC
  rw [List.range_succ, List.map_append]
  rfl
/-- the disks that spin -/
def sp (h : DH) (i : Nat) : Int32 → Bool := fun x => decide (h.1 (4, i, x.toNatClampNeg) 0 = 2)
theorem sp_e {h : DH} {i e : Nat} (he : e < 12) : sp h i (nI e) = true ↔ h.1 (4, i, e) 0 = 2 := by
  unfold sp
  rw [i_cl (by omega)]
  exact decide_eq_true_iff
def GR (h : DH) (i k : Nat) (q : DH × Int32) : Prop :=
  q.1.2 = h.2 ∧ q.1.1 (1, i, 0) = h.1 (1, i, 0) ∧ (∀ j, j ≠ 5 → j ≠ 7 → q.1.1 (0, i, 0) j = h.1 (0, i, 0) j) ∧ (∀ e f, f ≠ 3 → q.1.1 (4, i, e) f = h.1 (4, i, e) f) ∧
  (∀ e, e < 12 → q.1.1 (4, i, e) 3 = if h.1 (4, i, e) 0 = 2 ∧ hasD (nI e) (LC h i k) = true then 0 else h.1 (4, i, e) 3) ∧
  (∀ e, e < 12 → (q.2 &&& bitOf (nI e) = 0 ↔ ¬ (h.1 (4, i, e) 0 = 2 ∧ hasD (nI e) (LC h i k) = true))) ∧
  (∀ j, k ≤ j → j < 30 → rdk q.1 i j = rdk h i j) ∧ LC q.1 i k = gd (sp h i) (LC h i k) ∧
  q.1.1 (0, i, 0) 5 = h.1 (0, i, 0) 5 + nd (sp h i) (LC h i k) ∧ q.1.1 (0, i, 0) 7 = h.1 (0, i, 0) 7 + wt (h.1 (0, i, 0) 8 + 1) (sp h i) (LC h i k)
theorem LC_cg {h h' : DH} {i c : Nat} (e : ∀ k, k < c → rdk h' i k = rdk h i k) : LC h' i c = LC h i c := by
  unfold LC
  exact List.map_congr_left (fun k hk => e k (List.mem_range.mp hk))
theorem GR_step {h : DH} {i k c : Nat} {q : DH × Int32} (hk : k < c) (hc : c ≤ 30) (hp : pmi h i) (hk0 : rok h i c) (hz : ∀ r ∈ LC h i c, sp h i (dk5 r) = true → (lf r - 1 = 0 ↔ ¬ 0 < lf r - 1)) (hg : GR h i k q) : GR h i (k + 1) (grB i k q) := by
  obtain ⟨g, b⟩ := q
  obtain ⟨g1, g2, g3, g4, g5, g6, g7, g8, g9, g10⟩ := hg
  dsimp only at g1 g2 g3 g4 g5 g6 g7 g8 g9 g10
  obtain ⟨d, hd, hkd⟩ := hk0 k hk
  have hr := g7 k (Nat.le_refl k) (by omega)
  have hdk : dk5 (rdk h i k) = nI d := hkd
  have e1 : g.1 (5, i, g.2 (3, i, 0) k) 1 = nI d := by rw [← hkd]; exact congrArg dk5 hr
  have e3 : g.1 (5, i, g.2 (3, i, 0) k) 3 = lf (rdk h i k) := congrArg lf hr
  have e4 : g.1 (5, i, g.2 (3, i, 0) k) 4 = (rdk h i k).2.2.2.2 := congrArg (fun r : R5 => r.2.2.2.2) hr
  have hz' := hz _ (LC_mem.mpr ⟨k, hk, rfl⟩)
  rw [hdk] at hz'
  obtain ⟨s1, s2, s3⟩ := gd_snoc (rdk h i k) (LC h i k) (sp h i)
  rw [hdk] at s1 s2 s3
  have hs := hasD_snoc
  unfold grB
  dsimp only
  rw [e1, i_cl (show d < 2 ^ 31 by omega), g4 d 0 (by decide)]
  have hS : ∀ e, e < 12 → (hasD (nI e) (LC h i (k + 1)) = true ↔ hasD (nI e) (LC h i k) = true ∨ e = d) := by
    intro e he
    rw [LC_succ, hasD_snoc, hdk]
    by_cases z : e = d
    · subst z; simp
    · have : ¬ nI d = nI e := fun t => z (nI_inj (by omega) (by omega) t).symm
      simp [this, z]
  have keep : ¬ (h.1 (4, i, d) 0 = 2 ∧ hasD (nI d) (LC h i k) = false) → GR h i (k + 1) (g, b) := by
    intro hn
    have hn' : ¬ (sp h i (nI d) = true ∧ hasD (nI d) (LC h i k) = false) := by rw [sp_e hd]; exact hn
    rw [if_neg hn'] at s1 s2
    have hq : ∀ e, e < 12 → ((h.1 (4, i, e) 0 = 2 ∧ hasD (nI e) (LC h i (k + 1)) = true) ↔ (h.1 (4, i, e) 0 = 2 ∧ hasD (nI e) (LC h i k) = true)) := by
      intro e he
      rw [hS e he]
      refine ⟨fun t => ⟨t.1, ?_⟩, fun t => ⟨t.1, Or.inl t.2⟩⟩
      rcases t.2 with u | u
      · exact u
      · subst u
        cases hb : hasD (nI e) (LC h i k) with
        | true => rfl
        | false => exact absurd ⟨t.1, hb⟩ hn
    refine ⟨g1, g2, g3, g4, fun e he => ?_, fun e he => ?_, fun j hj hj2 => g7 j (by omega) hj2, ?_, ?_, ?_⟩
    · dsimp only
      rw [g5 e he]
      simp only [hq e he]
    · dsimp only
      rw [g6 e he, hq e he]
    · dsimp only
      rw [LC_succ, LC_succ, g8, s1, hr]
    · dsimp only
      rw [LC_succ, s2, g9, Int32.add_zero]
    · dsimp only
      rw [LC_succ, s3, if_neg hn', g10, Int32.add_zero]
  by_cases zA : h.1 (4, i, d) 0 = 2
  · rw [if_pos zA]
    cases zB : hasD (nI d) (LC h i k) with
    | true =>
      rw [if_neg (fun t => (g6 d hd).mp t ⟨zA, zB⟩)]
      exact keep (fun t => by rw [zB] at t; exact absurd t.2 (by decide))
    | false =>
      rw [if_pos ((g6 d hd).mpr (fun t => by rw [zB] at t; exact absurd t.2 (by decide)))]
      have hq : ∀ e, e < 12 → ((h.1 (4, i, e) 0 = 2 ∧ hasD (nI e) (LC h i (k + 1)) = true) ↔ ((h.1 (4, i, e) 0 = 2 ∧ hasD (nI e) (LC h i k) = true) ∨ e = d)) := by
        intro e he
        rw [hS e he]
        refine ⟨fun t => ?_, fun t => ?_⟩
        · rcases t.2 with u | u
          · exact Or.inl ⟨t.1, u⟩
          · exact Or.inr u
        · rcases t with u | u
          · exact ⟨u.1, Or.inl u.2⟩
          · exact ⟨by rw [u]; exact zA, Or.inr u⟩
      have hy : sp h i (nI d) = true ∧ hasD (nI d) (LC h i k) = false := ⟨(sp_e hd).mpr zA, zB⟩
      rw [if_pos hy] at s1 s2
      rw [e3]
      have hz2 := hz' hy.1
      generalize hX : up1 g (4, i, d) 3 0 = X
      have X2 : X.2 = h.2 := by rw [← hX]; exact g1
      have Xr : ∀ j, rdk X i j = rdk g i j := fun j => by rw [← hX]; exact rdk_o (show (4 : Nat) ≠ 5 by decide) _ _
      have XP : pmi X i := fun a b' ha hb hab => hp a b' ha hb (by rw [X2] at hab; exact hab)
      have X5 : ∀ p, X.1 (5, i, p) = g.1 (5, i, p) := fun p => by rw [← hX, up1_ne _ _ _ (by simp)]
      rw [show g.2 (3, i, 0) k = X.2 (3, i, 0) k by rw [X2, g1]]
      generalize hY : up1 X (5, i, X.2 (3, i, 0) k) 3 (lf (rdk h i k) - 1) = Y
      have Y2 : Y.2 = h.2 := by rw [← hY]; exact X2
      have Yk : rdk Y i k = decR (rdk h i k) := by rw [← hY, rdk_me, Xr, hr]; rfl
      have Yj : ∀ j, j < 30 → j ≠ k → rdk Y i j = rdk g i j := fun j hj hne => by rw [← hY, rdk_at 3 _ XP (by omega) hj hne, Xr]
      have Y1 : Y.1 (1, i, 0) = h.1 (1, i, 0) := by rw [← hY, up1_ne _ _ _ (by simp), ← hX, up1_ne _ _ _ (by simp)]; exact g2
      have Y0 : Y.1 (0, i, 0) = g.1 (0, i, 0) := by rw [← hY, up1_ne _ _ _ (by simp), ← hX, up1_ne _ _ _ (by simp)]
      have Y4 : ∀ e f, f ≠ 3 → Y.1 (4, i, e) f = h.1 (4, i, e) f := fun e f hf => by rw [← hY, up1_ne _ _ _ (by simp), ← hX, up1_1, if_neg (fun t => hf t.2)]; exact g4 e f hf
      have Y43 : ∀ e, e < 12 → Y.1 (4, i, e) 3 = if h.1 (4, i, e) 0 = 2 ∧ hasD (nI e) (LC h i (k + 1)) = true then 0 else h.1 (4, i, e) 3 := fun e he => by
        rw [← hY, up1_ne _ _ _ (by simp), ← hX, up1_1]
        by_cases ze : e = d
        · subst ze
          rw [if_pos ⟨rfl, rfl⟩, if_pos ((hq e he).mpr (Or.inr rfl))]
        · rw [if_neg (fun t => ze (by simpa using t.1)), g5 e he]
          simp only [hq e he, ze, or_false]
      have YL : LC Y i (k + 1) = gd (sp h i) (LC h i (k + 1)) := by
        rw [LC_succ, LC_succ, s1, ← g8, Yk, LC_cg (fun j hj => Yj j (by omega) (by omega))]
      have Yb : ∀ e, e < 12 → ((b ||| bitOf (nI d)) &&& bitOf (nI e) = 0 ↔ ¬ (h.1 (4, i, e) 0 = 2 ∧ hasD (nI e) (LC h i (k + 1)) = true)) := by
        intro e he
        rw [and_or0, g6 e he, bit_t d hd e he, hq e he]
        constructor
        · rintro ⟨t1, t2⟩ (t | t)
          · exact t1 t
          · exact t2 t.symm
        · intro t
          exact ⟨fun u => t (Or.inl u), fun u => t (Or.inr u.symm)⟩
      by_cases zl : 0 < lf (rdk h i k) - 1
      · rw [if_pos zl]
        have zn : ¬ lf (rdk h i k) - 1 = 0 := fun t => hz2.mp t zl
        refine ⟨Y2, Y1, fun j hj hj2 => ?_, Y4, Y43, Yb, fun j hj hj2 => ?_, YL, ?_, ?_⟩
        · dsimp only
          rw [Y0, g3 j hj hj2]
        · dsimp only
          rw [Yj j hj2 (by omega), g7 j (by omega) hj2]
        · dsimp only
          rw [Y0, LC_succ, s2, if_neg zn, g9, Int32.add_zero]
        · dsimp only
          rw [Y0, LC_succ, s3, if_pos hy, if_neg zn, g10, Int32.add_zero]
      · rw [if_neg zl]
        have zn : lf (rdk h i k) - 1 = 0 := hz2.mpr zl
        rw [show g.1 (5, i, X.2 (3, i, 0) k) 4 = (rdk h i k).2.2.2.2 by rw [X2, ← g1]; exact e4]
        generalize hZ : up1 (up1 Y (0, i, 0) 5 (g.1 (0, i, 0) 5 + 1)) (0, i, 0) 7 (g.1 (0, i, 0) 7 + (g.1 (0, i, 0) 8 + 1 - (rdk h i k).2.2.2.2)) = Z
        have Zr : ∀ j, rdk Z i j = rdk Y i j := fun j => by rw [← hZ, rdk_o (show (0 : Nat) ≠ 5 by decide), rdk_o (show (0 : Nat) ≠ 5 by decide)]
        have Zo : ∀ κ : DKey, κ ≠ (0, i, 0) → Z.1 κ = Y.1 κ := fun κ hκ => by rw [← hZ, up1_ne _ _ _ hκ, up1_ne _ _ _ hκ]
        refine ⟨by rw [← hZ]; exact Y2, (Zo _ (by simp)).trans Y1, fun j hj hj2 => ?_, fun e f hf => by rw [Zo _ (by simp)]; exact Y4 e f hf, fun e he => by rw [Zo _ (by simp)]; exact Y43 e he, Yb, fun j hj hj2 => ?_, ?_, ?_, ?_⟩
        · dsimp only
          rw [← hZ, up1_1, if_neg (fun t => hj2 t.2), up1_1, if_neg (fun t => hj t.2), Y0, g3 j hj hj2]
        · dsimp only
          rw [Zr, Yj j hj2 (by omega), g7 j (by omega) hj2]
        · dsimp only
          rw [← YL]
          exact LC_cg (fun j _ => Zr j)
        · dsimp only
          rw [← hZ, up1_1, if_neg (by simp), up1_1, if_pos ⟨rfl, rfl⟩, LC_succ, s2, if_pos zn, g9, Int32.add_assoc]
        · dsimp only
          rw [← hZ, up1_1, if_pos ⟨rfl, rfl⟩, LC_succ, s3, if_pos hy, if_pos zn, g10, g3 8 (by decide) (by decide), Int32.add_assoc]
  · rw [if_neg zA]
    exact keep (fun t => zA t.1)
theorem GR_all {h : DH} {i c : Nat} (hc : c ≤ 30) (hp : pmi h i) (hk0 : rok h i c) (hz : ∀ r ∈ LC h i c, sp h i (dk5 r) = true → (lf r - 1 = 0 ↔ ¬ 0 < lf r - 1)) : ∀ k, k ≤ c → GR h i k (gr h i k) := by
  intro k
  induction k with
  | zero =>
    intro _
    have hn : ∀ x, hasD x (LC h i 0) = false := fun _ => rfl
    refine ⟨rfl, rfl, fun _ _ _ => rfl, fun _ _ _ => rfl, fun e _ => ?_, fun e _ => ?_, fun _ _ _ => rfl, rfl, ?_, ?_⟩
    · rw [if_neg (fun t => by rw [hn] at t; exact absurd t.2 (by decide))]
      rfl
    · refine ⟨fun _ t => by rw [hn] at t; exact absurd t.2 (by decide), fun _ => ?_⟩
      show (0 : Int32) &&& _ = 0
      simp
    · show _ = _ + (0 : Int32)
      rw [Int32.add_zero]
      rfl
    · show _ = _ + (0 : Int32)
      rw [Int32.add_zero]
      rfl
  | succ k ih => intro hk; exact GR_step (by omega) hc hp hk0 hz (ih (by omega))
end
section
/-! reading: the class's sweep -/
def cdead (x : Int32) (L : List R5) : Nat := cntD x (L.filter (fun r => decide (¬ 0 < lf r)))
theorem cntD_cons (x : Int32) (a : R5) (L : List R5) : cntD x (a :: L) = (if dk5 a = x then 1 else 0) + cntD x L := by
  unfold cntD
  by_cases z : dk5 a = x
  · simp [z, Nat.add_comm]
  · simp [z]
theorem cntD_app (x : Int32) (L M : List R5) : cntD x (L ++ M) = cntD x L + cntD x M := by
  simp [cntD]
theorem live_app (L M : List R5) : live (L ++ M) = live L ++ live M := by simp [live]
theorem dead_app (x : Int32) (L M : List R5) : cdead x (L ++ M) = cdead x L + cdead x M := by
  unfold cdead
  rw [List.filter_append, cntD_app]
theorem cnt_two (x : Int32) : ∀ L : List R5, cntD x L = cntD x (live L) + cdead x L := by
  intro L
  induction L with
  | nil => rfl
  | cons a L ih =>
    unfold cdead at ih ⊢
    rw [live_cons, List.filter_cons]
    by_cases z : 0 < lf a
    · rw [if_pos z, if_neg (by simpa using z), cntD_cons, cntD_cons, ih, Nat.add_assoc]
    · rw [if_neg z, if_pos (by simpa using z), cntD_cons, cntD_cons, ih]
      omega
def SW (h : DH) (i k : Nat) (q : DH × Nat) : Prop :=
  q.2 ≤ k ∧ (∀ j, q.1.1 (5, i, j) = h.1 (5, i, j)) ∧ q.1.1 (1, i, 0) = h.1 (1, i, 0) ∧ q.1.1 (0, i, 0) = h.1 (0, i, 0) ∧ (∀ e f, f ≠ 6 → q.1.1 (4, i, e) f = h.1 (4, i, e) f) ∧
  (∀ e, e < 12 → q.1.1 (4, i, e) 6 + nI (cdead (nI e) (LC h i k)) = h.1 (4, i, e) 6) ∧ (∀ p, k ≤ p → q.1.2 (3, i, 0) p = h.2 (3, i, 0) p) ∧
  LC q.1 i q.2 = live (LC h i k) ∧ pmi q.1 i ∧ (∀ κ, κ ≠ (3, i, 0) → q.1.2 κ = h.2 κ) ∧ ((∀ p, p < 30 → h.2 (3, i, 0) p < 30) → ∀ p, p < 30 → q.1.2 (3, i, 0) p < 30)
theorem up2_s (h : DH) (κ : DKey) (k x : Nat) (p : Nat) : (up2 h κ k x).2 κ p = if p = k then x else h.2 κ p := by
  show (if κ = κ ∧ p = k then x else h.2 κ p) = _
  by_cases z : p = k
  · rw [if_pos ⟨rfl, z⟩, if_pos z]
  · rw [if_neg (fun t => z t.2), if_neg z]
theorem up2_o (h : DH) (κ κ' : DKey) (k x : Nat) (hn : κ' ≠ κ) : (up2 h κ k x).2 κ' = h.2 κ' := by
  funext p
  show (if κ' = κ ∧ p = k then x else h.2 κ' p) = _
  rw [if_neg (fun t => hn t.1)]
theorem SW_step {h : DH} {i k : Nat} {q : DH × Nat} (hk : k < 30) (hk0 : ∃ d, d < 12 ∧ h.1 (5, i, h.2 (3, i, 0) k) 1 = nI d) (hg : SW h i k q) : SW h i (k + 1) (swB i k q) := by
  obtain ⟨g, m⟩ := q
  obtain ⟨g1, g2, g3, g4, g5, g6, g7, g8, g9, g10, g11⟩ := hg
  dsimp only at g1 g2 g3 g4 g5 g6 g7 g8 g9 g10 g11
  obtain ⟨d, hd, hkd⟩ := hk0
  have ek := g7 k (Nat.le_refl k)
  have hr : rdk g i k = rdk h i k := by
    unfold rdk
    rw [ek, g2]
  have e1 : g.1 (5, i, g.2 (3, i, 0) k) 1 = nI d := by rw [← hkd, ek, g2]
  have e3 : g.1 (5, i, g.2 (3, i, 0) k) 3 = lf (rdk h i k) := congrArg lf hr
  have hdk : dk5 (rdk h i k) = nI d := hkd
  unfold swB
  dsimp only
  rw [e1, e3, i_cl (show d < 2 ^ 31 by omega)]
  unfold SW
  rw [LC_succ h i k, live_app]
  by_cases z : 0 < lf (rdk h i k)
  · rw [if_pos z]
    have dz : ∀ e, cdead (nI e) (LC h i k ++ [rdk h i k]) = cdead (nI e) (LC h i k) := by
      intro e
      rw [dead_app]
      unfold cdead
      rw [List.filter_cons, if_neg (by simpa using z)]
      rfl
    have lz : live [rdk h i k] = [rdk h i k] := by rw [live_cons, if_pos z]; rfl
    generalize hG : up2 (up2 g (3, i, 0) k (g.2 (3, i, 0) m)) (3, i, 0) m (g.2 (3, i, 0) k) = G
    have G1 : G.1 = g.1 := by rw [← hG]; rfl
    have Gp : ∀ p, G.2 (3, i, 0) p = if p = m then g.2 (3, i, 0) k else if p = k then g.2 (3, i, 0) m else g.2 (3, i, 0) p := fun p => by
      rw [← hG, up2_s, up2_s]
    refine ⟨by omega, fun j => by rw [G1]; exact g2 j, by rw [G1]; exact g3, by rw [G1]; exact g4, fun e f hf => by rw [G1]; exact g5 e f hf, fun e he => by rw [dz, G1]; exact g6 e he, fun p hp => ?_, ?_, fun a b ha hb hab => ?_, fun κ hκ => ?_, fun h30 p hp => ?_⟩
    · dsimp only
      rw [Gp, if_neg (by omega), if_neg (by omega)]
      exact g7 p (by omega)
    · dsimp only
      rw [LC_succ, lz, ← g8]
      have em : rdk G i m = rdk h i k := by
        rw [← hr]
        unfold rdk
        rw [G1, Gp, if_pos rfl]
      rw [em]
      congr 1
      refine LC_cg (fun j hj => ?_)
      unfold rdk
      rw [G1, Gp, if_neg (by omega), if_neg (by omega)]
    · dsimp only at hab
      rw [Gp, Gp] at hab
      by_cases a1 : a = m
      · by_cases b1 : b = m
        · omega
        · rw [if_pos a1, if_neg b1] at hab
          by_cases b2 : b = k
          · rw [if_pos b2] at hab
            have := g9 k m hk (by omega) hab
            omega
          · rw [if_neg b2] at hab
            have := g9 k b hk hb hab
            omega
      · rw [if_neg a1] at hab
        by_cases a2 : a = k
        · rw [if_pos a2] at hab
          by_cases b1 : b = m
          · rw [if_pos b1] at hab
            have := g9 m k (by omega) hk hab
            omega
          · rw [if_neg b1] at hab
            by_cases b2 : b = k
            · omega
            · rw [if_neg b2] at hab
              have := g9 m b (by omega) hb hab
              omega
        · rw [if_neg a2] at hab
          by_cases b1 : b = m
          · rw [if_pos b1] at hab
            have := g9 a k ha hk hab
            omega
          · rw [if_neg b1] at hab
            by_cases b2 : b = k
            · rw [if_pos b2] at hab
              have := g9 a m ha (by omega) hab
              omega
            · rw [if_neg b2] at hab
              exact g9 a b ha hb hab
    · rw [← hG, up2_o _ _ _ _ _ hκ, up2_o _ _ _ _ _ hκ]
      exact g10 κ hκ
    · dsimp only
      rw [Gp]
      split
      · exact g11 h30 k hk
      · split
        · exact g11 h30 m (by omega)
        · exact g11 h30 p hp
  · rw [if_neg z]
    have dz : ∀ e, e < 12 → cdead (nI e) (LC h i k ++ [rdk h i k]) = cdead (nI e) (LC h i k) + (if e = d then 1 else 0) := by
      intro e he
      rw [dead_app]
      congr 1
      unfold cdead
      rw [List.filter_cons, if_pos (by simpa using z), cntD_cons, hdk]
      by_cases ze : e = d
      · rw [if_pos ze, if_pos (by rw [ze])]
        rfl
      · rw [if_neg ze, if_neg (fun t => ze (nI_inj (by omega) (by omega) t).symm)]
        rfl
    have lz : live [rdk h i k] = [] := by rw [live_cons, if_neg z]; rfl
    refine ⟨by show m ≤ k + 1; omega, fun j => by rw [up1_ne _ _ _ (by simp)]; exact g2 j, by rw [up1_ne _ _ _ (by simp)]; exact g3, by rw [up1_ne _ _ _ (by simp)]; exact g4, fun e f hf => ?_, fun e he => ?_, fun p hp => g7 p (by omega), ?_, g9, g10, g11⟩
    · dsimp only
      rw [up1_1, if_neg (fun t => hf t.2)]
      exact g5 e f hf
    · dsimp only
      rw [dz e he, up1_1]
      by_cases ze : e = d
      · subst ze
        rw [if_pos ⟨rfl, rfl⟩, if_pos rfl, ← g6 e he, ← nI_add, Int32.add_comm (nI _) (nI 1), ← Int32.add_assoc, Int32.sub_eq_add_neg, Int32.add_assoc _ (-1), show ((-1 : Int32) + nI 1) = 0 by decide, Int32.add_zero]
      · rw [if_neg (fun t => ze (by simpa using t.1)), if_neg ze]
        exact g6 e he
    · dsimp only
      rw [lz, List.append_nil, ← g8]
      exact LC_cg (fun j _ => rdk_o (show (4 : Nat) ≠ 5 by decide) _ _)
theorem SW_all {h : DH} {i c : Nat} (hc : c ≤ 30) (hp : pmi h i) (hk0 : rok h i c) : ∀ k, k ≤ c → SW h i k (sw h i k) := by
  intro k
  induction k with
  | zero =>
    intro _
    refine ⟨Nat.le_refl _, fun _ => rfl, rfl, rfl, fun _ _ _ => rfl, fun e _ => ?_, fun _ _ => rfl, rfl, hp, fun _ _ => rfl, fun t => t⟩
    show _ + (0 : Int32) = _
    rw [Int32.add_zero]
    rfl
  | succ k ih => intro hk; exact SW_step (by omega) (hk0 k (by omega)) (ih (by omega))
end
section
/-! reading: both sides, disk by disk -/
def Ud (s : Nat → Int32) : Nat → (Int32 → Bool)
  | 0 => fun _ => false
  | d + 1 => if s (oD d 0) = 2 then un (Ud s d) (nI d) else Ud s d
theorem Ud_e (s : Nat → Int32) : ∀ d, d ≤ 12 → ∀ e, e < 12 → (Ud s d (nI e) = true ↔ e < d ∧ s (oD e 0) = 2) := by
  intro d
  induction d with
  | zero =>
    intro _ e _
    exact ⟨fun t => absurd (show false = true from t) (by decide), fun t => absurd t.1 (by omega)⟩
  | succ d ih =>
    intro hd e he
    have h1 := ih (by omega) e he
    show (if s (oD d 0) = 2 then un (Ud s d) (nI d) else Ud s d) (nI e) = true ↔ _
    by_cases z : s (oD d 0) = 2
    · rw [if_pos z]
      unfold un
      rw [Bool.or_eq_true, h1, decide_eq_true_iff]
      constructor
      · rintro (t | t)
        · exact ⟨by omega, t.2⟩
        · have := nI_inj (by omega) (by omega) t
          subst this
          exact ⟨by omega, z⟩
      · rintro ⟨t1, t2⟩
        by_cases ze : e = d
        · rw [ze]; exact Or.inr rfl
        · exact Or.inl ⟨by omega, t2⟩
    · rw [if_neg z, h1]
      constructor
      · rintro ⟨t1, t2⟩
        exact ⟨by omega, t2⟩
      · rintro ⟨t1, t2⟩
        by_cases ze : e = d
        · subst ze; exact absurd t2 z
        · exact ⟨by omega, t2⟩
def RD (i : Nat) (s1 : Nat → Int32) (L : List R5) (d : Nat) (G : DH) (M : Nat → Int32) : Prop :=
  (∀ n, n < 10 → G.1 (1, i, 0) n = M n) ∧ (∀ k, 4 ≤ k → k < 15 → k ≠ 5 → k ≠ 7 → G.1 (0, i, 0) k = M (ms k)) ∧
  (∀ e, e < d → e < 12 → ∀ f, f < 6 → G.1 (4, i, e) f = M (oD e (mf f))) ∧
  (∀ e, d ≤ e → e < 12 → (∀ f, f < 6 → f ≠ 3 → G.1 (4, i, e) f = M (oD e (mf f))) ∧ (∀ w, w < 6 → M (oD e w) = s1 (oD e w)) ∧ G.1 (4, i, e) 3 = if s1 (oD e 0) = 2 ∧ hasD (nI e) L = true then 0 else s1 (oD e 3)) ∧
  okC M ∧ LM M (cc M) = pd (Ud s1 d) L ∧ M 13 = s1 13 + nd (Ud s1 d) L ∧ M 20 = s1 20 + wt (s1 10 + 1) (Ud s1 d) L ∧
  (∀ k, k < 19 → k ≠ 13 → M k = s1 k) ∧ (∀ e, e < 12 → DInv M e) ∧ (∀ r ∈ LM M (cc M), RInv M r)
theorem RD_mk {i d : Nat} {s1 : Nat → Int32} {L : List R5} {G G' : DH} {M M' : Nat → Int32} (hd : d < 12) (hg : RD i s1 L d G M)
    (hG : ∀ κ : DKey, κ ≠ (4, i, d) → G'.1 κ = G.1 κ) (hM : ∀ k, k < 93 → (∀ w, w < 6 → k ≠ oD d w) → k ≠ 13 → k ≠ 20 → M' k = M k) (row : ∀ f, f < 6 → G'.1 (4, i, d) f = M' (oD d (mf f)))
    (h1 : okC M') (h2 : LM M' (cc M') = pd (Ud s1 (d + 1)) L) (h3 : M' 13 = s1 13 + nd (Ud s1 (d + 1)) L) (h4 : M' 20 = s1 20 + wt (s1 10 + 1) (Ud s1 (d + 1)) L) (h5 : DInv M' d) (h6 : ∀ r ∈ LM M' (cc M'), RInv M' r) : RD i s1 L (d + 1) G' M' := by
  obtain ⟨g1, g2, g3, g4, g5, g6, g7, g8, g9, g10, g11⟩ := hg
  have hoD : ∀ e w, e ≠ d → e < 12 → w < 6 → M' (oD e w) = M (oD e w) := fun e w he he2 hw => hM _ (by unfold oD; omega) (fun w' hw' => by unfold oD; omega) (by unfold oD; omega) (by unfold oD; omega)
  refine ⟨fun n hn => ?_, fun k hk hk2 hk5 hk7 => ?_, fun e he he2 f hf => ?_, fun e he he2 => ⟨fun f hf hf3 => ?_, fun w hw => ?_, ?_⟩, h1, h2, h3, h4, fun k hk hk13 => ?_, fun e he => ?_, h6⟩
  · rw [hG _ (by simp), hM n (by omega) (fun w hw => by unfold oD; omega) (by omega) (by omega)]
    exact g1 n hn
  · have a1 := ms_lt k
    have a2 : ms k ≠ 13 := fun t => hk5 (ms_inj hk hk2 (by decide) (by decide) (t.trans rfl))
    have a3 : ms k ≠ 20 := fun t => hk7 (ms_inj hk hk2 (by decide) (by decide) (t.trans rfl))
    rw [hG _ (by simp), hM _ (by omega) (fun w hw => by unfold oD; omega) a2 a3]
    exact g2 k hk hk2 hk5 hk7
  · by_cases ze : e = d
    · subst ze
      exact row f hf
    · rw [hG _ (by simp [ze]), hoD e _ ze he2 (mf_lt hf)]
      exact g3 e (by omega) he2 f hf
  · rw [hG _ (by simp; omega), hoD e _ (by omega) he2 (mf_lt hf)]
    exact (g4 e (by omega) he2).1 f hf hf3
  · rw [hoD e _ (by omega) he2 hw]
    exact (g4 e (by omega) he2).2.1 w hw
  · rw [hG _ (by simp; omega)]
    exact (g4 e (by omega) he2).2.2
  · rw [hM k (by omega) (fun w hw => by unfold oD; omega) hk13 (by omega)]
    exact g9 k hk hk13
  · by_cases ze : e = d
    · subst ze
      exact h5
    · exact (g10 e he).cg (fun w hw => hoD e w ze he hw)
theorem sb_v (g : DH) (κ : DKey) (f : Nat) : (sbH g κ).1 κ f = if f = 0 ∨ f = 1 ∨ f = 3 then 0 else g.1 κ f := by
  unfold sbH
  simp only [up1_1]
  by_cases h3 : f = 3
  · simp [h3]
  · by_cases h1 : f = 1
    · simp [h1]
    · by_cases h0 : f = 0
      · simp [h0]
      · simp [h0, h1, h3]
theorem sb_on {g : DH} {κ q : DKey} (h : q ≠ κ) : (sbH g κ).1 q = g.1 q := by
  unfold sbH
  rw [up1_ne _ _ _ h, up1_ne _ _ _ h, up1_ne _ _ _ h]
theorem mSb_v (s : Nat → Int32) (d w : Nat) : mSb s d (oD d w) = if w = 0 ∨ w = 1 ∨ w = 3 then 0 else s (oD d w) := by
  unfold mSb
  by_cases h3 : w = 3
  · subst h3; rw [upd_s]; rfl
  · rw [upd_n _ _ (by unfold oD; omega)]
    by_cases h1 : w = 1
    · subst h1; rw [upd_s]; rfl
    · rw [upd_n _ _ (by unfold oD; omega)]
      by_cases h0 : w = 0
      · subst h0; rw [upd_s]; rfl
      · rw [upd_n _ _ (by unfold oD; omega), if_neg (by omega)]
theorem mSb_on (s : Nat → Int32) (d k : Nat) (h : ∀ w, w < 6 → k ≠ oD d w) : mSb s d k = s k := by
  unfold mSb
  rw [upd_n _ _ (h 3 (by decide)), upd_n _ _ (h 1 (by decide)), upd_n _ _ (h 0 (by decide))]
theorem mf_013 : ∀ f, f < 6 → ((mf f = 0 ∨ mf f = 1 ∨ mf f = 3) ↔ (f = 0 ∨ f = 1 ∨ f = 3)) := by decide
theorem RD_step {h1 : DH} {i d : Nat} {s1 : Nat → Int32} {L : List R5} {G : DH} {M : Nat → Int32} {b : Int32} (hd : d < 12) (hb : b &&& bitOf (nI d) = 0 ↔ ¬ (s1 (oD d 0) = 2 ∧ hasD (nI d) L = true)) (hg : RD i s1 L d G M) : RD i s1 L (d + 1) (riB i b d G) (rdMB d M) := by
  have hg' := hg
  obtain ⟨g1, g2, g3, g4, g5, g6, g7, g8, g9, g10, g11⟩ := hg'
  obtain ⟨q1, q2, q3⟩ := g4 d (Nat.le_refl d) hd
  have r0 := q1 0 (by decide) (by decide)
  rw [show mf 0 = 0 from rfl] at r0
  have s0 := q2 0 (by decide)
  have s3 := q2 3 (by decide)
  obtain ⟨d0, d1, d2, d3, d4, d5⟩ := g10 d hd
  have n9 := g1 9 (by decide)
  unfold riB rdMB
  rw [r0]
  by_cases z : M (oD d 0) = 2
  · rw [if_pos z, if_pos z]
    have z1 : s1 (oD d 0) = 2 := s0.symm.trans z
    have hU : Ud s1 (d + 1) = un (Ud s1 d) (nI d) := if_pos z1
    have hUd : Ud s1 d (nI d) = false := by
      cases hh : Ud s1 d (nI d) with
      | false => rfl
      | true => exact absurd ((Ud_e s1 d (by omega) d hd).mp hh).1 (by omega)
    obtain ⟨u1, u2, u3⟩ := pd_un L (Ud s1 d) (nI d) hUd
    have hH := hasD_pd (nI d) L (Ud s1 d) hUd
    rw [← g6] at u1 u2 u3 hH
    cases hf : mfst M (cc M) (nI d) with
    | none =>
      have h0 := mfst_none.mp hf
      rw [h0] at hH
      obtain ⟨v1, v2, v3⟩ := pd_sg_no h0
      rw [v1] at u1
      rw [v2, Int32.add_zero] at u2
      have u3' : wt (s1 10 + 1) (un (Ud s1 d) (nI d)) L = wt (s1 10 + 1) (Ud s1 d) L := by rw [u3, v3, Int32.add_zero]
      rw [if_pos (hb.mpr (fun t => by rw [← hH] at t; exact absurd t.2 (by decide)))]
      dsimp only
      have q3' : G.1 (4, i, d) 3 = M (oD d 3) := by
        rw [q3, if_neg (fun t => by rw [← hH] at t; exact absurd t.2 (by decide)), s3]
      have nod : ∀ r ∈ LM M (cc M), dk5 r ≠ nI d := hasD_0.mp h0
      have inc : RD i s1 L (d + 1) (up1 G (4, i, d) 3 (G.1 (4, i, d) 3 + 1)) (upd M (oD d 3) (M (oD d 3) + 1)) := by
        have e93 : upd M (oD d 3) (M (oD d 3) + 1) 93 = M 93 := upd_n _ _ (by unfold oD; omega)
        have eL : LM (upd M (oD d 3) (M (oD d 3) + 1)) (cc (upd M (oD d 3) (M (oD d 3) + 1))) = LM M (cc M) := by rw [cc_cg e93, LM_oD hd (by decide)]
        refine RD_mk hd hg (fun κ hκ => up1_ne _ _ _ hκ) (fun k hk hw _ _ => upd_n _ _ (hw 3 (by decide))) (fun f hf => ?_) (g5.of e93) ?_ ?_ ?_ ?_ (fun r hr => ?_)
        · rw [up1_1]
          by_cases ze : f = 3
          · subst ze
            rw [if_pos ⟨rfl, rfl⟩, q3', show mf 3 = 3 from rfl, upd_s]
          · rw [if_neg (fun t => ze t.2), upd_n _ _ (fun t => ze (mf_inj hf (by decide) (by unfold oD at t; show mf f = 3; omega)))]
            exact q1 f hf ze
        · rw [eL, hU, u1]
        · rw [upd_n _ _ (by unfold oD; omega), hU, u2, g7]
        · rw [upd_n _ _ (by unfold oD; omega), hU, u3', g8]
        · have w0 : upd M (oD d 3) (M (oD d 3) + 1) (oD d 0) = 2 := by rw [upd_n _ _ (by unfold oD; omega)]; exact z
          refine ⟨⟨2, by decide, w0⟩, fun t => absurd (w0.symm.trans t) (by decide), fun _ => ?_, fun t => absurd w0 t, fun _ => ?_, ?_⟩
          · rw [upd_n _ _ (by unfold oD; omega)]; exact d2 (by rw [z]; decide)
          · rw [upd_n _ _ (by unfold oD; omega)]; exact d4 (by rw [z]; decide)
          · rw [upd_n _ _ (by unfold oD; omega)]; exact d5
        · rw [eL] at hr
          refine (g11 r hr).cg (fun e he _ => ?_)
          rw [upd_n _ _ (by unfold oD; omega)]
          exact ⟨(em_ne _ 3).symm, id⟩
      rw [n9]
      by_cases z9 : M 9 ≤ 0
      · rw [if_pos z9, if_pos z9]
        exact inc
      · rw [if_neg z9, if_neg z9, q3']
        by_cases z10 : M (oD d 3) + 1 < M 9
        · rw [if_pos z10, if_pos z10, ← q3']
          rw [q3']
          rw [q3'] at inc
          exact inc
        · rw [if_neg z10, if_neg z10]
          rw [← q3']
          have e93 : mSb (upd M (oD d 3) (M (oD d 3) + 1)) d 93 = M 93 := by rw [mSb_on _ _ _ (fun w hw => by unfold oD; omega), upd_n _ _ (by unfold oD; omega)]
          have eL : LM (mSb (upd M (oD d 3) (M (oD d 3) + 1)) d) (cc (mSb (upd M (oD d 3) (M (oD d 3) + 1)) d)) = LM M (cc M) := by rw [cc_cg e93, LM_mSb hd, LM_oD hd (by decide)]
          rw [q3']
          refine RD_mk hd hg (fun κ hκ => by rw [sb_on hκ, up1_ne _ _ _ hκ]) (fun k hk hw _ _ => by rw [mSb_on _ _ _ hw, upd_n _ _ (hw 3 (by decide))]) (fun f hf => ?_) (g5.of e93) ?_ ?_ ?_ ?_ (fun r hr => ?_)
          · rw [sb_v, mSb_v]
            by_cases ze : f = 0 ∨ f = 1 ∨ f = 3
            · rw [if_pos ze, if_pos ((mf_013 f hf).mpr ze)]
            · have ze' : ¬ (mf f = 0 ∨ mf f = 1 ∨ mf f = 3) := fun t => ze ((mf_013 f hf).mp t)
              rw [if_neg ze, if_neg ze', up1_1, if_neg (fun t => ze (Or.inr (Or.inr t.2))), upd_n _ _ (by unfold oD; omega)]
              exact q1 f hf (fun t => ze (Or.inr (Or.inr t)))
          · rw [eL, hU, u1]
          · rw [mSb_on _ _ _ (fun w hw => by unfold oD; omega), upd_n _ _ (by unfold oD; omega), hU, u2, g7]
          · rw [mSb_on _ _ _ (fun w hw => by unfold oD; omega), upd_n _ _ (by unfold oD; omega), hU, u3', g8]
          · obtain ⟨q, hq, hqe⟩ := d4 (by rw [z]; decide)
            have w0 : mSb (upd M (oD d 3) (M (oD d 3) + 1)) d (oD d 0) = 0 := mSb_v _ _ 0
            refine ⟨⟨0, by decide, w0⟩, fun t => absurd (w0.symm.trans t) (by decide), fun _ => mSb_v _ _ 1, fun _ => mSb_v _ _ 3, fun _ => ⟨q, hq, ?_⟩, ?_⟩
            · rw [mSb_v, if_neg (by decide), upd_n _ _ (by unfold oD; omega), hqe]
            · rw [mSb_v, if_neg (by decide), upd_n _ _ (by unfold oD; omega)]; exact d5
          · rw [eL] at hr
            refine (g11 r hr).cg (fun e he hed => ?_)
            have ze : e ≠ d := fun t => nod r hr (by rw [hed, t])
            rw [mSb_on _ _ _ (fun w hw => by unfold oD; omega), upd_n _ _ (by unfold oD; omega)]
            exact ⟨(em_ne _ 3).symm, id⟩
    | some p =>
      obtain ⟨p1, p2, p3, p4⟩ := mfst_some hf
      obtain ⟨c93, c30⟩ := g5.cc
      have hT : hasD (nI d) L = true := by
        rw [← hH]
        cases hh : hasD (nI d) (LM M (cc M)) with
        | true => rfl
        | false => exact absurd ((mfst_none.mpr hh).symm.trans hf) (by simp)
      rw [if_neg (fun t => hb.mp t ⟨z1, hT⟩)]
      dsimp only
      have q3' : G.1 (4, i, d) 3 = 0 := by rw [q3, if_pos ⟨z1, hT⟩]
      have hp30 : p < 30 := by omega
      obtain ⟨e, he, hed, hed3, l, t, l1, l2, l3, l4, l5, l6⟩ := g11 _ (List.mem_of_getElem? p2)
      have ede : e = d := nI_inj (by omega) (by omega) (hed.symm.trans p3)
      subst ede
      have ez : M (oR p 3) = nI l := l4
      obtain ⟨v1, v2, v3⟩ := pd_sg_at _ p _ p2 p3 p4
      rw [v1] at u1
      rw [v2] at u2
      have u3' := (u3 (s1 10 + 1)).trans (by rw [v3])
      have el : lf (rmk M p) - 1 = nI (l - 1) := by rw [l4, nIm1 l1]
      have el' : M (oR p 3) - 1 = nI (l - 1) := el
      have rX : rmk (upd M (oD e 3) 0) p = rmk M p := by
        unfold rmk
        rw [upd_n _ _ (by unfold oD; omega), upd_n _ _ (by unfold oD; omega), upd_n _ _ (by unfold oD; omega), upd_n _ _ (by unfold oD; omega), upd_n _ _ (by unfold oD; omega)]
      have LX : ∀ c, LM (upd (upd M (oD e 3) 0) (oR p 3) (M (oR p 3) - 1)) c = (LM M c).set p (decR (rmk M p)) := by
        intro c
        rw [LM_set (by decide), LM_oD he (by decide)]
        rw [rX]
        rfl
      have Xo : ∀ k, k < 93 → k ≠ oD e 3 → upd (upd M (oD e 3) 0) (oR p 3) (M (oR p 3) - 1) k = M k := fun k hk hk3 => by rw [upd_n _ _ (by unfold oR; omega), upd_n _ _ hk3]
      have X3 : upd (upd M (oD e 3) 0) (oR p 3) (M (oR p 3) - 1) (oD e 3) = 0 := by rw [upd_n _ _ (by unfold oR oD; omega), upd_s]
      have X93 : upd (upd M (oD e 3) 0) (oR p 3) (M (oR p 3) - 1) 93 = M 93 := by rw [upd_n _ _ (by unfold oR; omega), upd_n _ _ (by unfold oD; omega)]
      have X4 : upd (upd M (oD e 3) 0) (oR p 3) (M (oR p 3) - 1) (oR p 4) = (rmk M p).2.2.2.2 := by rw [upd_n _ _ (by unfold oR; omega), upd_n _ _ (by unfold oD oR; omega)]; rfl
      generalize upd (upd M (oD e 3) 0) (oR p 3) (M (oR p 3) - 1) = X at LX Xo X3 X93 X4 ⊢
      have dv : ∀ M' : Nat → Int32, (∀ w, w < 6 → M' (oD e w) = X (oD e w)) → DInv M' e := by
        intro M' hM'
        refine DInv.cg ?_ hM'
        have w0 : X (oD e 0) = 2 := (Xo _ (by unfold oD; omega) (by unfold oD; omega)).trans z
        refine ⟨⟨2, by decide, w0⟩, fun t => absurd (w0.symm.trans t) (by decide), fun _ => ?_, fun t => absurd w0 t, fun _ => ?_, ?_⟩
        · rw [Xo _ (by unfold oD; omega) (by unfold oD; omega)]; exact d2 (by rw [z]; decide)
        · rw [Xo _ (by unfold oD; omega) (by unfold oD; omega)]; exact d4 (by rw [z]; decide)
        · rw [Xo _ (by unfold oD; omega) (by unfold oD; omega)]; exact d5
      have rw' : ∀ M' : Nat → Int32, (∀ w, w < 6 → M' (oD e w) = X (oD e w)) → ∀ f, f < 6 → G.1 (4, i, e) f = M' (oD e (mf f)) := by
        intro M' hM' f hf'
        rw [hM' _ (mf_lt hf')]
        by_cases ze : f = 3
        · subst ze
          rw [q3', show mf 3 = 3 from rfl, X3]
        · rw [Xo _ (by have := mf_lt hf'; unfold oD; omega) (fun t => ze (mf_inj hf' (by decide) (by unfold oD at t; show mf f = 3; omega)))]
          exact q1 f hf' ze
      by_cases zl : l = 1
      · have zz : M (oR p 3) - 1 = 0 := by rw [el', zl]; rfl
        have zz' : lf (rmk M p) - 1 = 0 := zz
        rw [if_pos zz]
        rw [if_pos zz'] at u1 u2 u3'
        have S13 : rdM2 X p 13 = M 13 + 1 := by
          unfold rdM2
          rw [upd_n _ _ (by decide), upd_s, Xo 13 (by decide) (by unfold oD; omega)]
        have S20 : rdM2 X p 20 = M 20 + (s1 10 + 1 - (rmk M p).2.2.2.2) := by
          unfold rdM2
          rw [upd_s, Xo 20 (by decide) (by unfold oD; omega), Xo 10 (by decide) (by unfold oD; omega), X4, g9 10 (by decide) (by decide)]
        have So : ∀ k, k < 93 → k ≠ 13 → k ≠ 20 → rdM2 X p k = X k := fun k _ h1 h2 => by
          unfold rdM2
          rw [upd_n _ _ h2, upd_n _ _ h1]
        have SL : ∀ c, LM (rdM2 X p) c = LM X c := fun c => by
          unfold rdM2
          rw [LM_lo (by decide), LM_lo (by decide)]
        generalize rdM2 X p = S at S13 S20 So SL ⊢
        have e93 : mrm S p (cc M) 93 = nI (cc M - 1) := mrm_93 _ _ _
        have ecc : cc (mrm S p (cc M)) = cc M - 1 := cc_of e93 (by omega)
        have eL : LM (mrm S p (cc M)) (cc (mrm S p (cc M))) = (LM M (cc M)).eraseIdx p := by
          rw [ecc, LM_rm p1 c30, SL, LX, List.eraseIdx_set_eq]
        refine RD_mk he hg (fun _ _ => rfl) (fun k hk hw h1 h2 => by rw [mrm_lo hk, So k hk h1 h2, Xo k hk (hw 3 (by decide))]) (rw' _ (fun w hw => by rw [mrm_lo (by unfold oD; omega), So _ (by unfold oD; omega) (by unfold oD; omega) (by unfold oD; omega)])) ⟨cc M - 1, by omega, e93⟩ ?_ ?_ ?_ (dv _ (fun w hw => by rw [mrm_lo (by unfold oD; omega), So _ (by unfold oD; omega) (by unfold oD; omega) (by unfold oD; omega)])) (fun r hr => ?_)
        · rw [eL, hU, u1]
        · rw [mrm_lo (by decide), S13, hU, u2, g7, Int32.add_assoc]
        · rw [mrm_lo (by decide), S20, hU, u3', g8, Int32.add_assoc]
        · rw [eL] at hr
          refine (g11 r (List.mem_of_mem_eraseIdx hr)).cg (fun e' he' _ => ?_)
          rw [mrm_lo (by unfold oD; omega), So _ (by unfold oD; omega) (by unfold oD; omega) (by unfold oD; omega), Xo _ (by unfold oD; omega) (by unfold oD; omega)]
          exact ⟨(em_ne _ 3).symm, id⟩
      · have zz' : ¬ lf (rmk M p) - 1 = 0 := fun t => by
          rw [el] at t
          have := nI_inj (by omega) (by omega) (t.trans nI_0.symm)
          omega
        have zz : ¬ M (oR p 3) - 1 = 0 := zz'
        rw [if_neg zz]
        rw [if_neg zz'] at u1 u2 u3'
        rw [Int32.add_zero] at u2 u3'
        have eL : LM X (cc X) = (LM M (cc M)).set p (decR (rmk M p)) := by rw [cc_cg X93, LX]
        refine RD_mk he hg (fun _ _ => rfl) (fun k hk hw _ _ => Xo k hk (hw 3 (by decide))) (rw' X (fun _ _ => rfl)) (g5.of X93) ?_ ?_ ?_ (dv X (fun _ _ => rfl)) (fun r hr => ?_)
        · rw [eL, hU, u1]
        · rw [Xo 13 (by decide) (by unfold oD; omega), hU, u2, g7]
        · rw [Xo 20 (by decide) (by unfold oD; omega), hU, u3', g8]
        · rw [eL] at hr
          rcases List.mem_or_eq_of_mem_set hr with hr | hr
          · refine (g11 r hr).cg (fun e' he' _ => ?_)
            rw [Xo _ (by unfold oD; omega) (by unfold oD; omega)]
            exact ⟨(em_ne _ 3).symm, id⟩
          · subst hr
            have w0 : X (oD e 0) = 2 := (Xo _ (by unfold oD; omega) (by unfold oD; omega)).trans z
            exact ⟨e, he, p3, by rw [w0]; decide, l - 1, t, by omega, by omega, l3, el, l5, fun u => absurd w0 u⟩
  · rw [if_neg z, if_neg z]
    have z1 : ¬ s1 (oD d 0) = 2 := fun t => z (s0.trans t)
    have hU : Ud s1 (d + 1) = Ud s1 d := if_neg z1
    refine RD_mk hd hg (fun _ _ => rfl) (fun _ _ _ _ _ => rfl) (fun f hf => ?_) g5 (by rw [hU]; exact g6) (by rw [hU]; exact g7) (by rw [hU]; exact g8) (g10 d hd) g11
    by_cases ze : f = 3
    · subst ze
      rw [q3, if_neg (fun t => z1 t.1), show mf 3 = 3 from rfl, s3]
    · exact q1 f hf ze
end
section
/-! reading: both sides -/
theorem cntD_map {L L' : List R5} (h : L.map dk5 = L'.map dk5) (x : Int32) : cntD x L = cntD x L' := by
  have e : ∀ M : List R5, cntD x M = ((M.map dk5).filter (fun y => decide (y = x))).length := by
    intro M
    rw [List.filter_map, List.length_map]
    rfl
  rw [e, e, h]
theorem hasD_map {L L' : List R5} (h : L.map dk5 = L'.map dk5) (x : Int32) : hasD x L = hasD x L' := by
  have e : ∀ M : List R5, hasD x M = (M.map dk5).any (fun y => decide (y = x)) := by
    intro M
    rw [List.any_map]
    rfl
  rw [e, e, h]
theorem ri_6 (h : DH) (i : Nat) (b : Int32) (e : Nat) : ∀ k, (ri h i b k).1 (4, i, e) 6 = h.1 (4, i, e) 6 := by
  intro k
  induction k with
  | zero => rfl
  | succ k ih =>
    rw [show ri h i b (k + 1) = riB i b k (ri h i b k) from rfl]
    have step : ∀ x, (up1 (ri h i b k) (4, i, k) 3 x).1 (4, i, e) 6 = h.1 (4, i, e) 6 := fun x => by
      rw [up1_1, if_neg (fun t => absurd t.2 (by decide))]
      exact ih
    unfold riB
    split
    · split
      · split
        · exact step _
        · split
          · exact step _
          · by_cases z : (4, i, e) = (4, i, k)
            · have zk : e = k := by simpa using z
              subst zk
              rw [sb_v, if_neg (by decide)]
              exact step _
            · rw [sb_on z]
              exact step _
      · exact ih
    · exact ih
theorem i_canc {a b x : Int32} (h : a + x = b + x) : a = b := by
  have := congrArg (fun y => y - x) h
  simpa [Int32.add_sub_cancel] using this
/-- a state of the class is the reference's row -/
def SR (h : DH) (i c : Nat) (s : Nat → Int32) : Prop :=
  RB h i s ∧ h.1 (0, i, 0) 3 = nI c ∧ c ≤ 30 ∧ s 93 = nI c ∧ LC h i c = LM s c ∧ pmi h i ∧ (∀ p, p < 30 → h.2 (3, i, 0) p < 30) ∧
  (∀ e, e < 12 → h.1 (4, i, e) 6 = nI (cntD (nI e) (LM s c))) ∧ NInv s ∧ (∀ e, e < 12 → DInv s e) ∧ (∀ r ∈ LM s c, RInv s r)
theorem SR.RG {h : DH} {i c : Nat} {s f : Nat → Int32} (hs : SR h i c s) : RG h i c s 0 (h, 0) (s, f) := by
  obtain ⟨h1, h2, h3, h4, h5, h6, h7, h8, h9, h10, h11⟩ := hs
  have ecc : cc s = c := cc_of h4 h3
  have al : ∀ r ∈ LM s c, 0 < lf r := by
    intro r hr
    obtain ⟨e, _, _, _, l, t, l1, l2, l3, l4, _⟩ := h11 r hr
    rw [l4]
    exact (nIpos (by omega)).mpr (by omega)
  refine ⟨h1, h2, rfl, ⟨c, h3, h4⟩, ?_, fun e he => ?_, fun r hr hl => ?_, rfl, fun _ _ => rfl, h10, ?_, fun _ _ _ => rfl⟩
  · show LM s (cc s) = live (LC h i c)
    rw [ecc, h5]
    exact (List.filter_eq_self.mpr (fun r hr => by simpa using al r hr)).symm
  · exact ⟨fun _ t => absurd t (by omega), fun _ => by show (0 : Int32) &&& _ = 0; simp⟩
  · dsimp only at hr
    rw [h5] at hr
    exact absurd (al r hr) hl
  · show ∀ r ∈ LM s (cc s), RInv s r
    rw [ecc]
    exact h11
theorem read_SR {h : DH} {i c : Nat} {s : Nat → Int32} {q : DH × Int32} {p : (Nat → Int32) × (Nat → Int32)} (hs : SR h i c s) (hg : RG h i c s 12 q p) : ∃ c', SR (grAll q.1 i c) i c' (rdM p.1 12) ∧ ∀ k, k < 10 ∨ k = 15 → rdM p.1 12 k = s k := by
  obtain ⟨h1, b⟩ := q
  obtain ⟨s1, f1⟩ := p
  obtain ⟨a1, a2, a3, a4, a5, a6, a7, a8, a9, a10, a11, a12⟩ := hg
  dsimp only at a1 a2 a3 a4 a5 a6 a7 a8 a9 a10 a11 a12 ⊢
  obtain ⟨z1, z2, z3, z4, z5, z6, z7, z8, z9, z10, z11⟩ := hs
  have P1 : pmi h1 i := fun a b' ha hb hab => z6 a b' ha hb (by rw [a3] at hab; exact hab)
  have rk : ∀ k, k < c → ∃ d, d < 12 ∧ dk5 (rdk h1 i k) = nI d := by
    intro k hk
    have m1 : ((LC h1 i c).map dk5)[k]? = some (dk5 (rdk h1 i k)) := by rw [List.getElem?_map, LC_at hk]; rfl
    rw [a8, z5] at m1
    have m2 := List.mem_of_getElem? m1
    obtain ⟨r, hr, hre⟩ := List.mem_map.mp m2
    obtain ⟨e, he, hed, _⟩ := z11 r hr
    exact ⟨e, he, by rw [← hre, hed]⟩
  have ro : rok h1 i c := rk
  have sp1 : ∀ e, e < 12 → (sp h1 i (nI e) = true ↔ s1 (oD e 0) = 2) := fun e he => by
    rw [sp_e he, a1.2.2 e he 0 (by decide)]
    rfl
  have hdead : ∀ r ∈ LC h1 i c, ¬ 0 < lf r → sp h1 i (dk5 r) = false := by
    intro r hr hl
    obtain ⟨e, e1, e2, e3⟩ := a7 r hr hl
    cases hh : sp h1 i (dk5 r) with
    | false => rfl
    | true =>
      rw [e2, sp1 e e1, e3] at hh
      exact absurd hh (by decide)
  have hone : ∀ r ∈ LC h1 i c, 0 < lf r → (lf r - 1 = 0 ↔ ¬ 0 < lf r - 1) := by
    intro r hr hl
    have hr' : r ∈ live (LC h1 i c) := List.mem_filter.mpr ⟨hr, by simpa using hl⟩
    rw [← a5] at hr'
    obtain ⟨e, _, _, _, l, t, l1, l2, l3, l4, _⟩ := a11 r hr'
    rw [l4, nIm1 l1, nIpos (by omega)]
    constructor
    · intro u
      have := nI_inj (by omega) (by omega) (u.trans nI_0.symm)
      omega
    · intro u
      rw [show l - 1 = 0 by omega]
      rfl
  have hz : ∀ r ∈ LC h1 i c, sp h1 i (dk5 r) = true → (lf r - 1 = 0 ↔ ¬ 0 < lf r - 1) := by
    intro r hr hsp
    refine hone r hr (Decidable.byContradiction fun hl => ?_)
    rw [hdead r hr hl] at hsp
    exact absurd hsp (by decide)
  obtain ⟨g1, g2, g3, g4, g5, g6, g7, g8, g9, g10⟩ := GR_all z3 P1 ro hz c (Nat.le_refl c)
  obtain ⟨w1, w2, w3⟩ := live_gd (LC h1 i c) (sp h1 i) hdead hone
  have hH : ∀ e, e < 12 → s1 (oD e 0) = 2 → hasD (nI e) (LC h1 i c) = hasD (nI e) (LM s1 (cc s1)) := by
    intro e he h2e
    rw [a5]
    have nd' : ∀ r ∈ LC h1 i c, dk5 r = nI e → 0 < lf r := by
      intro r hr hre
      refine Decidable.byContradiction fun hl => ?_
      have := hdead r hr hl
      rw [hre, (sp1 e he).mpr h2e] at this
      exact absurd this (by decide)
    have := cnt_live _ nd'
    cases ha : hasD (nI e) (LC h1 i c) with
    | false =>
      rw [cntD_0.mpr ha] at this
      exact (cntD_0.mp this).symm
    | true =>
      cases hb : hasD (nI e) (live (LC h1 i c)) with
      | true => rfl
      | false =>
        rw [cntD_0.mpr hb] at this
        rw [cntD_0.mp this.symm] at ha
        exact absurd ha (by decide)
  have eA : ∀ e, e < 12 → ((h1.1 (4, i, e) 0 = 2 ∧ hasD (nI e) (LC h1 i c) = true) ↔ (s1 (oD e 0) = 2 ∧ hasD (nI e) (LM s1 (cc s1)) = true)) := by
    intro e he
    rw [a1.2.2 e he 0 (by decide)]
    show s1 (oD e 0) = 2 ∧ _ ↔ _
    constructor
    · rintro ⟨u, v⟩
      exact ⟨u, by rw [← hH e he u]; exact v⟩
    · rintro ⟨u, v⟩
      exact ⟨u, by rw [hH e he u]; exact v⟩
  have R0 : RD i s1 (LM s1 (cc s1)) 0 (gr h1 i c).1 s1 := by
    obtain ⟨n1, n2, n3⟩ := pd_no (LM s1 (cc s1)) (Ud s1 0) (fun _ _ => rfl)
    refine ⟨fun n hn => by rw [g2]; exact a1.1 n hn, fun k hk hk2 hk5 hk7 => by rw [g3 k hk5 hk7]; exact a1.2.1 k hk hk2, fun e he => absurd he (by omega), fun e _ he => ⟨fun f hf hf3 => by rw [g4 e f hf3]; exact a1.2.2 e he f hf, fun _ _ => rfl, ?_⟩, a4, n1.symm, by rw [n2, Int32.add_zero], by rw [n3, Int32.add_zero], fun _ _ _ => rfl, a10, a11⟩
    rw [g5 e he, a1.2.2 e he 3 (by decide), show mf 3 = 3 from rfl]
    simp only [eA e he]
  have RA : ∀ d, d ≤ 12 → RD i s1 (LM s1 (cc s1)) d (ri (gr h1 i c).1 i (gr h1 i c).2 d) (rdM s1 d) := by
    intro d
    induction d with
    | zero => intro _; exact R0
    | succ d ih =>
      intro hd
      exact RD_step (h1 := h1) (by omega) (by rw [g6 d (by omega), eA d (by omega)]) (ih (by omega))
  obtain ⟨r1, r2, r3, r4, r5, r6, r7, r8, r9, r10, r11⟩ := RA 12 (Nat.le_refl _)
  obtain ⟨v1, v2, v3⟩ := ri_inv (gr h1 i c).1 i (gr h1 i c).2 12
  have v6 := fun e => ri_6 (gr h1 i c).1 i (gr h1 i c).2 e 12
  unfold grAll
  generalize ri (gr h1 i c).1 i (gr h1 i c).2 12 = G at r1 r2 r3 r4 v1 v2 v3 v6 ⊢
  generalize rdM s1 12 = M at r1 r2 r3 r4 r5 r6 r7 r8 r9 r10 r11 ⊢
  have GL : LC G i c = gd (sp h1 i) (LC h1 i c) := by
    rw [← g8]
    refine LC_cg (fun k _ => ?_)
    unfold rdk
    rw [v2, v3]
  have PG : pmi G i := fun a b' ha hb hab => P1 a b' ha hb (by rw [v2, g1] at hab; exact hab)
  have rG : rok G i c := by
    intro k hk
    obtain ⟨d, hd, hdk⟩ := rk k hk
    have m1 : ((LC G i c).map dk5)[k]? = some (dk5 (rdk G i k)) := by rw [List.getElem?_map, LC_at hk]; rfl
    rw [GL, gd_map, List.getElem?_map, LC_at hk] at m1
    exact ⟨d, hd, (Option.some.inj m1).symm.trans hdk⟩
  obtain ⟨x1, x2, x3, x4, x5, x6, x7, x8, x9, x10, x11⟩ := SW_all z3 PG rG c (Nat.le_refl c)
  generalize sw G i c = Q at x1 x2 x3 x4 x5 x6 x7 x8 x9 x10 x11 ⊢
  obtain ⟨G', m⟩ := Q
  dsimp only at x1 x2 x3 x4 x5 x6 x7 x8 x9 x10 x11 ⊢
  have eU : ∀ r ∈ LM s1 (cc s1), sp h1 i (dk5 r) = Ud s1 12 (dk5 r) := by
    intro r hr
    obtain ⟨e, he, hed, _⟩ := a11 r hr
    have u1 := sp1 e he
    have u2 := Ud_e s1 12 (Nat.le_refl _) e he
    rw [hed]
    cases hh : sp h1 i (nI e) with
    | true => exact (u2.mpr ⟨he, u1.mp hh⟩).symm
    | false =>
      cases hh2 : Ud s1 12 (nI e) with
      | false => rfl
      | true => rw [u1.mpr (u2.mp hh2).2] at hh; exact absurd hh (by decide)
  obtain ⟨p1, p2, p3⟩ := pd_cg (LM s1 (cc s1)) _ _ eU
  have eL : LC G' i m = LM M (cc M) := by rw [x8, GL, w1, ← a5, p1, r6]
  have em : cc M = m := by rw [← LM_len M (cc M), ← eL, LC_len]
  obtain ⟨c93, c30⟩ := r5.cc
  rw [em] at c93 c30 eL r11
  have G3L : LC (up1 G' (0, i, 0) 3 (nI m)) i m = LM M m := by rw [LC_o (show (0 : Nat) ≠ 5 by decide), eL]
  refine ⟨m, ⟨⟨fun n hn => ?_, fun k hk hk2 => ?_, fun e he f hf => ?_⟩, by rw [up1_1, if_pos ⟨rfl, rfl⟩], c30, c93, G3L, x9, fun p hp => ?_, fun e he => ?_, ?_, r10, r11⟩, fun k hk => ?_⟩
  · rw [up1_ne _ _ _ (by simp), x3]
    exact r1 n hn
  · rw [up1_1, if_neg (fun t => by omega), x4]
    by_cases k5 : k = 5
    · subst k5
      rw [v1, g9, w2, ← a5, p2, show ms 5 = 13 from rfl, r7, a1.2.1 5 (by decide) (by decide)]
      rfl
    · by_cases k7 : k = 7
      · subst k7
        rw [v1, g10, w3, ← a5, p3, show ms 7 = 20 from rfl, r8, a1.2.1 7 (by decide) (by decide), a1.2.1 8 (by decide) (by decide)]
        rfl
      · exact r2 k hk hk2 k5 k7
  · rw [up1_ne _ _ _ (by simp), x5 e f (by omega)]
    exact r3 e he he f hf
  · exact x11 (fun p hp => by rw [v2, g1, a3]; exact z7 p hp) p hp
  · rw [up1_ne _ _ _ (by simp), ← eL, x8]
    have y := x6 e he
    rw [v6, g4 e 6 (by decide), a9 e he, z8 e he, ← z5, ← cntD_map (a8) (nI e), ← cntD_map (show (LC G i c).map dk5 = (LC h1 i c).map dk5 by rw [GL, gd_map]) (nI e), cnt_two, ← nI_add] at y
    exact (i_canc y)
  · obtain ⟨y1, y2, y3, y4, y5⟩ := z9
    have ek : ∀ k, k < 19 → k ≠ 13 → k ≠ 14 → M k = s k := fun k h1 h2 h3 => (r9 k h1 h2).trans (a12 k h1 h3)
    unfold NInv
    rw [ek 0 (by decide) (by decide) (by decide), ek 5 (by decide) (by decide) (by decide), ek 6 (by decide) (by decide) (by decide), ek 7 (by decide) (by decide) (by decide), ek 15 (by decide) (by decide) (by decide)]
    exact ⟨y1, y2, y3, y4, y5⟩
  · exact (r9 k (by omega) (by omega)).trans (a12 k (by omega) (by omega))
end
section
/-! sums, and new starts, on both sides -/
theorem sumN_cg {f g : Nat → Int32} : ∀ n, (∀ e, e < n → f e = g e) → sumN f n = sumN g n := by
  intro n
  induction n with
  | zero => intro _; rfl
  | succ n ih =>
    intro h
    show sumN f n + f n = sumN g n + g n
    rw [ih (fun e he => h e (by omega)), h n (by omega)]
theorem i_ac (a b x : Int32) : a + b + x = a + x + b := by rw [Int32.add_assoc, Int32.add_comm b x, ← Int32.add_assoc]
theorem sumN_ch {f g : Nat → Int32} {d : Nat} {x : Int32} : ∀ n, d < n → (∀ e, e < n → e ≠ d → f e = g e) → f d = g d + x → sumN f n = sumN g n + x := by
  intro n
  induction n with
  | zero => intro h; omega
  | succ n ih =>
    intro h he hd
    show sumN f n + f n = sumN g n + g n + x
    by_cases z : d = n
    · subst z
      rw [sumN_cg d (fun e h1 => he e (by omega) (by omega)), hd, ← Int32.add_assoc]
    · rw [ih (by omega) (fun e h1 => he e (by omega)) hd, he n (by omega) (fun t => z t.symm), i_ac]
theorem cntD_le (x : Int32) (L : List R5) : cntD x L ≤ L.length := List.length_filter_le _ _
theorem mfst_hi {s s' : Nat → Int32} {c : Nat} (x : Int32) (h : ∀ k, 94 ≤ k → s' k = s k) : mfst s' c x = mfst s c x := fp_congr (fun k _ => by rw [h _ (by unfold oR; omega)])
theorem has_0 {h : DH} {i c : Nat} {s : Nat → Int32} (hs : SR h i c s) {e : Nat} (he : e < 12) : (0 < h.1 (4, i, e) 6 ↔ mfst s c (nI e) ≠ none) := by
  obtain ⟨h1, h2, h3, h4, h5, h6, h7, h8, h9, h10, h11⟩ := hs
  have hl := cntD_le (nI e) (LM s c)
  rw [LM_len] at hl
  rw [h8 e he, nIpos (by omega)]
  constructor
  · intro t u
    have := cntD_0.mpr (mfst_none.mp u)
    omega
  · intro t
    refine Nat.pos_of_ne_zero (fun u => t (mfst_none.mpr (cntD_0.mp u)))
theorem dn4 {s : Nat → Int32} {e : Nat} (h : DInv s e) : s (oD e 0) = 0 ∨ s (oD e 0) = 1 ∨ s (oD e 0) = 2 ∨ s (oD e 0) = 3 := by
  obtain ⟨⟨v, hv, he⟩, _⟩ := h
  rw [he]
  have : ∀ v, v < 4 → (nI v = 0 ∨ nI v = 1 ∨ nI v = 2 ∨ nI v = 3) := by decide
  exact this v hv
theorem cur_eq {h : DH} {i c : Nat} {s : Nat → Int32} (hs : SR h i c s) {e : Nat} (he : e < 12) : ccur h i e = mcur s c e := by
  have h0 := has_0 hs he
  obtain ⟨h1, h2, h3, h4, h5, h6, h7, h8, h9, h10, h11⟩ := hs
  have r0 := h1.2.2 e he 0 (by decide)
  rw [show mf 0 = 0 from rfl] at r0
  unfold ccur mcur
  rw [r0, h1.1 4 (by decide), h1.1 1 (by decide), h1.1 2 (by decide), h1.1 3 (by decide)]
  rcases dn4 (h10 e he) with z | z | z | z
  · rw [if_pos z, if_pos z]
  · have n0 : ¬ s (oD e 0) = 0 := by rw [z]; decide
    rw [if_neg n0, if_neg n0, if_pos z, if_pos z]
  · have n0 : ¬ s (oD e 0) = 0 := by rw [z]; decide
    have n1 : ¬ s (oD e 0) = 1 := by rw [z]; decide
    have n3 : ¬ s (oD e 0) = 3 := by rw [z]; decide
    rw [if_neg n0, if_neg n0, if_neg n1, if_neg n1, if_pos z, if_neg n3]
    cases hf : mfst s c (nI e) with
    | none =>
      rw [if_pos (Int32.not_lt.mp (fun t => h0.mp t hf))]
    | some p =>
      rw [if_neg (Int32.not_le.mpr (h0.mpr (by rw [hf]; simp)))]
  · have n0 : ¬ s (oD e 0) = 0 := by rw [z]; decide
    have n1 : ¬ s (oD e 0) = 1 := by rw [z]; decide
    have n2 : ¬ s (oD e 0) = 2 := by rw [z]; decide
    rw [if_neg n0, if_neg n0, if_neg n1, if_neg n1, if_neg n2, if_pos z]
theorem sumcur {h : DH} {i c : Nat} {s : Nat → Int32} (hs : SR h i c s) : sumN (ccur h i) 12 = mcurN s c := sumN_cg 12 (fun _ he => cur_eq hs he)
theorem that_eq {h : DH} {i c : Nat} {s : Nat → Int32} (hs : SR h i c s) (x : Int32) : cthat h i x = mthat s x := sumN_cg 12 (fun e he => by
  have r0 := hs.1.2.2 e he 0 (by decide)
  rw [show mf 0 = 0 from rfl] at r0
  rw [r0])
theorem BS_step {i c d : Nat} {q : DH × Int32 × Int32} {M f : Nat → Int32} {b : Int32} (hd : d < 12) (hb : b &&& bitOf (nI d) = 0 ↔ f d = 0) (hs : SR q.1 i c M) (e1 : q.2.1 = mthat M 1) (e2 : q.2.2 = mcurN M c) : SR (bsB i b d q).1 i c (nsMB f d M) ∧ (bsB i b d q).2.1 = mthat (nsMB f d M) 1 ∧ (bsB i b d q).2.2 = mcurN (nsMB f d M) c ∧ ∀ k, k < 10 ∨ k = 15 → nsMB f d M k = M k := by
  obtain ⟨g, st, cu⟩ := q
  dsimp only at hs e1 e2
  have h0 := has_0 hs hd
  have hs' := hs
  obtain ⟨h1, h2, h3, h4, h5, h6, h7, h8, h9, h10, h11⟩ := hs'
  have ecc : cc M = c := cc_of h4 h3
  have r0 := h1.2.2 d hd 0 (by decide)
  rw [show mf 0 = 0 from rfl] at r0
  have r4 := h1.2.2 d hd 4 (by decide)
  rw [show mf 4 = 5 from rfl] at r4
  have r13 := h1.2.1 13 (by decide) (by decide)
  rw [show ms 13 = 18 from rfl] at r13
  have ca : cadd g i = M 1 - M 4 := by unfold cadd; rw [h1.1 1 (by decide), h1.1 4 (by decide)]
  have may : cmay g i st cu ≠ 0 ↔ ¬ M 8 ≤ mthat M 1 ∧ ¬ M 5 < mcurN M c - M 4 + M 1 := by
    unfold cmay
    rw [ca, h1.1 8 (by decide), h1.1 5 (by decide), e1, e2, show mcurN M c + (M 1 - M 4) = mcurN M c - M 4 + M 1 by rw [Int32.sub_eq_add_neg, Int32.sub_eq_add_neg, ← Int32.add_assoc, i_ac]]
    by_cases z1 : M 8 ≤ mthat M 1
    · rw [if_pos z1]
      exact ⟨fun t => absurd rfl t, fun t => absurd z1 t.1⟩
    · rw [if_neg z1]
      by_cases z2 : M 5 < mcurN M c - M 4 + M 1
      · rw [if_pos z2]
        exact ⟨fun t => absurd rfl t, fun t => absurd z2 t.2⟩
      · rw [if_neg z2]
        exact ⟨fun _ => ⟨z1, z2⟩, fun _ => by decide⟩
  have cond : (g.1 (4, i, d) 0 = 0 ∧ 0 < g.1 (4, i, d) 6 ∧ b &&& bitOf (nI d) = 0 ∧ cmay g i st cu ≠ 0) ↔ (M (oD d 0) = 0 ∧ f d = 0 ∧ mfst M c (nI d) ≠ none ∧ ¬ M 8 ≤ mthat M 1 ∧ ¬ M 5 < mcurN M c - M 4 + M 1) := by
    rw [r0, h0, hb, may]
    constructor
    · rintro ⟨a, b, c, d, e⟩; exact ⟨a, c, b, d, e⟩
    · rintro ⟨a, c, b, d, e⟩; exact ⟨a, b, c, d, e⟩
  unfold bsB nsMB
  dsimp only
  rw [ecc]
  by_cases z : M (oD d 0) = 0 ∧ f d = 0 ∧ mfst M c (nI d) ≠ none ∧ ¬ M 8 ≤ mthat M 1 ∧ ¬ M 5 < mcurN M c - M 4 + M 1
  · rw [if_pos (cond.mpr z), if_pos z]
    dsimp only
    rw [h1.1 0 (by decide), r4, r13, ca]
    have rb := (((h1.dk hd (show 0 < 6 by decide) 1).dk hd (show 1 < 6 by decide) (M 0)).dk hd (show 4 < 6 by decide) (M (oD d 5) + 1)).sc (show 4 ≤ 13 by decide) (by decide) (M 18 + 1)
    rw [show mf 0 = 0 from rfl, show mf 1 = 1 from rfl, show mf 4 = 5 from rfl, show ms 13 = 18 from rfl] at rb
    have G3 : (up1 (up1 (up1 (up1 g (4, i, d) 0 1) (4, i, d) 1 (M 0)) (4, i, d) 4 (M (oD d 5) + 1)) (0, i, 0) 13 (M 18 + 1)).1 (0, i, 0) 3 = nI c := by simp [up1_1, h2]
    have GL : LC (up1 (up1 (up1 (up1 g (4, i, d) 0 1) (4, i, d) 1 (M 0)) (4, i, d) 4 (M (oD d 5) + 1)) (0, i, 0) 13 (M 18 + 1)) i c = LC g i c := by rw [LC_00, LC_40, LC_40, LC_40]
    have G2 : (up1 (up1 (up1 (up1 g (4, i, d) 0 1) (4, i, d) 1 (M 0)) (4, i, d) 4 (M (oD d 5) + 1)) (0, i, 0) 13 (M 18 + 1)).2 = g.2 := rfl
    have G6 : ∀ e, (up1 (up1 (up1 (up1 g (4, i, d) 0 1) (4, i, d) 1 (M 0)) (4, i, d) 4 (M (oD d 5) + 1)) (0, i, 0) 13 (M 18 + 1)).1 (4, i, e) 6 = g.1 (4, i, e) 6 := fun e => by simp [up1_1]
    have N0 : upd (upd (upd (upd M (oD d 0) 1) (oD d 1) (M 0)) (oD d 5) (M (oD d 5) + 1)) 18 (M 18 + 1) (oD d 0) = 1 := by rw [upd_n _ _ (by unfold oD; omega), upd_n _ _ (by unfold oD; omega), upd_n _ _ (by unfold oD; omega), upd_s]
    have N1 : upd (upd (upd (upd M (oD d 0) 1) (oD d 1) (M 0)) (oD d 5) (M (oD d 5) + 1)) 18 (M 18 + 1) (oD d 1) = M 0 := by rw [upd_n _ _ (by unfold oD; omega), upd_n _ _ (by unfold oD; omega), upd_s]
    have No : ∀ k, k ≠ oD d 0 → k ≠ oD d 1 → k ≠ oD d 5 → k ≠ 18 → upd (upd (upd (upd M (oD d 0) 1) (oD d 1) (M 0)) (oD d 5) (M (oD d 5) + 1)) 18 (M 18 + 1) k = M k := fun k k0 k1 k5 k18 => by rw [upd_n _ _ k18, upd_n _ _ k5, upd_n _ _ k1, upd_n _ _ k0]
    generalize upd (upd (upd (upd M (oD d 0) 1) (oD d 1) (M 0)) (oD d 5) (M (oD d 5) + 1)) 18 (M 18 + 1) = N at rb N0 N1 No ⊢
    generalize up1 (up1 (up1 (up1 g (4, i, d) 0 1) (4, i, d) 1 (M 0)) (4, i, d) 4 (M (oD d 5) + 1)) (0, i, 0) 13 (M 18 + 1) = G at rb G3 GL G2 G6 ⊢
    have Nlo : ∀ k, k < 18 → N k = M k := fun k hk => No k (by unfold oD; omega) (by unfold oD; omega) (by unfold oD; omega) (by omega)
    have Nhi : ∀ k, 93 ≤ k → N k = M k := fun k hk => No k (by unfold oD; omega) (by unfold oD; omega) (by unfold oD; omega) (by omega)
    have Ne : ∀ e, e ≠ d → ∀ w, w < 6 → N (oD e w) = M (oD e w) := fun e he w hw => No _ (by unfold oD; omega) (by unfold oD; omega) (by unfold oD; omega) (by unfold oD; omega)
    have NL : LM N c = LM M c := LM_cg (fun k hk _ => Nhi k (by omega))
    refine ⟨⟨rb, G3, h3, (Nhi 93 (Nat.le_refl _)).trans h4, by rw [GL, NL, h5], fun a b' ha hb' hab => h6 a b' ha hb' (by rw [G2] at hab; exact hab), fun p hp => by rw [G2]; exact h7 p hp, fun e he => by rw [G6, NL]; exact h8 e he, ?_, fun e he => ?_, fun r hr => ?_⟩, ?_, ?_, fun k hk => Nlo k (by omega)⟩
    · obtain ⟨y1, y2, y3, y4, y5⟩ := h9
      unfold NInv
      rw [Nlo 0 (by decide), Nlo 5 (by decide), Nlo 6 (by decide), Nlo 7 (by decide), Nlo 15 (by decide)]
      exact ⟨y1, y2, y3, y4, y5⟩
    · by_cases ze : e = d
      · subst ze
        obtain ⟨d0, d1, d2, d3, d4, d5⟩ := h10 e he
        obtain ⟨⟨a, a1, a2, a3⟩, _⟩ := h9
        refine ⟨⟨1, by decide, N0⟩, fun _ => ⟨a, a1, a2, N1.trans a3⟩, fun t => absurd N0 t, fun _ => ?_, fun _ => ?_, ?_⟩
        · rw [No _ (by unfold oD; omega) (by unfold oD; omega) (by unfold oD; omega) (by unfold oD; omega)]
          exact d3 (by rw [z.1]; decide)
        · rw [No _ (by unfold oD; omega) (by unfold oD; omega) (by unfold oD; omega) (by unfold oD; omega)]
          exact d4 (by rw [z.1]; decide)
        · rw [No _ (by unfold oD; omega) (by unfold oD; omega) (by unfold oD; omega) (by unfold oD; omega)]
          exact d5
      · exact (h10 e he).cg (Ne e ze)
    · rw [NL] at hr
      refine (h11 r hr).cg (fun e he _ => ?_)
      by_cases ze : e = d
      · subst ze
        rw [N0, z.1]
        exact ⟨Or.inl (by decide), fun _ => by decide⟩
      · rw [Ne e ze 0 (by decide)]
        exact ⟨(em_ne _ 3).symm, id⟩
    · rw [e1]
      refine (sumN_ch 12 hd (fun e _ he => by rw [Ne e he 0 (by decide)]) ?_).symm
      rw [N0, z.1, if_pos rfl, if_neg (by decide)]
      decide
    · rw [e2]
      refine (sumN_ch 12 hd (fun e _ he => ?_) ?_).symm
      · unfold mcur
        rw [Ne e he 0 (by decide), Nlo 1 (by decide), Nlo 2 (by decide), Nlo 3 (by decide), Nlo 4 (by decide), mfst_hi (nI e) (fun k hk => Nhi k (by omega))]
      · unfold mcur
        rw [N0, z.1, if_neg (by decide), if_pos rfl, if_pos rfl, Nlo 1 (by decide), Int32.sub_eq_add_neg, ← Int32.add_assoc, i_ac, Int32.add_right_neg, Int32.zero_add]
  · rw [if_neg (fun t => z (cond.mp t)), if_neg z]
    exact ⟨hs, e1, e2, fun _ _ => rfl⟩
theorem BS_all {g : DH} {i c : Nat} {M f : Nat → Int32} {b : Int32} (hb : ∀ e, e < 12 → (b &&& bitOf (nI e) = 0 ↔ f e = 0)) (hs : SR g i c M) : ∀ d, d ≤ 12 → SR (bs g i b d).1 i c (nsM M f d) ∧ (bs g i b d).2.1 = mthat (nsM M f d) 1 ∧ (bs g i b d).2.2 = mcurN (nsM M f d) c ∧ ∀ k, k < 10 ∨ k = 15 → nsM M f d k = M k := by
  intro d
  induction d with
  | zero => intro _; exact ⟨hs, that_eq hs 1, sumcur hs, fun _ _ => rfl⟩
  | succ d ih =>
    intro hd
    obtain ⟨a1, a2, a3, a4⟩ := ih (by omega)
    obtain ⟨b1, b2, b3, b4⟩ := BS_step (f := f) (by omega) (hb d (by omega)) a1 a2 a3
    exact ⟨b1, b2, b3, fun k hk => (b4 k hk).trans (a4 k hk)⟩
end
section
/-! all is cut off, on both sides -/
theorem ban_o (s : Nat → Int32) (d : Nat) : ∀ c q, (∀ j, j < c → q ≠ oR j 3) → ban s d c q = s q := by
  intro c
  induction c with
  | zero => intro q _; rfl
  | succ c ih =>
    intro q h
    show upd _ _ _ q = _
    rw [upd_n _ _ (h c (by omega))]
    exact ih q (fun j hj => h j (by omega))
theorem ban_at (s : Nat → Int32) (d : Nat) : ∀ c j, j < c → ban s d c (oR j 3) = if s (oR j 1) = nI d then s (oR j 2) else s (oR j 3) := by
  intro c
  induction c with
  | zero => intro j h; omega
  | succ c ih =>
    intro j hj
    show upd _ _ _ _ = _
    by_cases z : j = c
    · subst z
      rw [upd_s, ban_o _ _ _ _ (fun k _ => by unfold oR; omega), ban_o _ _ _ _ (fun k _ => by unfold oR; omega), ban_o _ _ _ _ (fun k _ => by unfold oR; omega)]
    · rw [upd_n _ _ (by unfold oR; omega)]
      exact ih j (by omega)
def rsR (r : R5) : R5 := (r.1, r.2.1, r.2.2.1, r.2.2.1, r.2.2.2.2)
theorem ban_r (s : Nat → Int32) (d c : Nat) {k : Nat} (hk : k < c) : rmk (ban s d c) k = if dk5 (rmk s k) = nI d then rsR (rmk s k) else rmk s k := by
  have e : ∀ w, w < 5 → w ≠ 3 → ban s d c (oR k w) = s (oR k w) := fun w hw h3 => ban_o _ _ _ _ (fun j _ => by unfold oR; omega)
  rw [rmk_eq, e 0 (by decide) (by decide), e 1 (by decide) (by decide), e 2 (by decide) (by decide), e 4 (by decide) (by decide), ban_at _ _ _ _ hk]
  by_cases z : s (oR k 1) = nI d
  · rw [if_pos z, if_pos (show dk5 (rmk s k) = nI d from z)]
    rfl
  · rw [if_neg z, if_neg (show ¬ dk5 (rmk s k) = nI d from z)]
    rfl
theorem rmk_cg {s s' : Nat → Int32} {k : Nat} (h : ∀ j, 94 ≤ j → s' j = s j) : rmk s' k = rmk s k := by
  rw [rmk_eq, rmk_eq, h _ (by unfold oR; omega), h _ (by unfold oR; omega), h _ (by unfold oR; omega), h _ (by unfold oR; omega), h _ (by unfold oR; omega)]
theorem RB.sb {g : DH} {i d : Nat} {s : Nat → Int32} (hr : RB g i s) (hd : d < 12) : RB (sbH g (4, i, d)) i (mSb s d) := ((hr.dk hd (show 0 < 6 by decide) 0).dk hd (show 1 < 6 by decide) 0).dk hd (show 3 < 6 by decide) 0
def CO (h : DH) (i c : Nat) (s : Nat → Int32) (d : Nat) (M : Nat → Int32) : Prop :=
  RB (co h i d) i M ∧ (∀ e, e < 12 → DInv M e) ∧ (∀ e, e < 12 → d ≤ e → M (oD e 0) = s (oD e 0)) ∧ (∀ e, e < 12 → e < d → M (oD e 0) = if s (oD e 0) = 3 then 3 else 0) ∧
  (∀ k, k < 21 → M k = s k) ∧ M 93 = s 93 ∧ ∀ k, k < c → ∀ e, e < 12 → dk5 (rmk s k) = nI e → rmk M k = if e < d then rsR (rmk s k) else rmk s k
theorem wi_12 : ∀ v, v < 4 → (wi (nI v) 1 2 = 0 ↔ v = 0 ∨ v = 3) := by decide
theorem CO_step {h : DH} {i c d : Nat} {s M : Nat → Int32} (hd : d < 12) (hs : SR h i c s) (hg : CO h i c s d M) : CO h i c s (d + 1) (coMB c d M) := by
  obtain ⟨h1, h2, h3, h4, h5, h6, h7, h8, h9, h10, h11⟩ := hs
  obtain ⟨g1, g2, g3, g4, g5, g6, g7⟩ := hg
  have r0 := g1.2.2 d hd 0 (by decide)
  rw [show mf 0 = 0 from rfl] at r0
  have s0 := g3 d hd (Nat.le_refl d)
  obtain ⟨⟨v, hv, hve⟩, d1, d2, d3, d4, d5⟩ := g2 d hd
  have hw := wi_12 v hv
  rw [← hve] at hw
  have rest : s (oD d 0) ≠ 2 → ∀ k, k < c → ∀ e, e < 12 → dk5 (rmk s k) = nI e → rmk M k = if e < d + 1 then rsR (rmk s k) else rmk s k := by
    intro n2 k hk e he hed
    rw [g7 k hk e he hed]
    by_cases ze : e = d
    · subst ze
      rw [if_neg (Nat.lt_irrefl _), if_pos (by omega)]
      obtain ⟨e', he', hed', _, l, t, _, _, _, l4, l5, l6⟩ := h11 _ (LM_mem.mpr ⟨k, hk, rfl⟩)
      have := nI_inj (by omega) (by omega) (hed.symm.trans hed')
      subst this
      have hlt := l6 n2
      subst hlt
      have e3 : (rmk s k).2.2.2.1 = (rmk s k).2.2.1 := l4.trans l5.symm
      have e4 : rsR (rmk s k) = ((rmk s k).1, (rmk s k).2.1, (rmk s k).2.2.1, (rmk s k).2.2.2.1, (rmk s k).2.2.2.2) := by
        unfold rsR
        rw [e3]
      rw [e4]
    · by_cases z : e < d
      · rw [if_pos z, if_pos (by omega)]
      · rw [if_neg z, if_neg (by omega)]
  unfold coMB CO
  rw [show co h i (d + 1) = coB i d (co h i d) from rfl]
  unfold coB
  rw [r0]
  by_cases z : v = 0 ∨ v = 3
  · rw [if_pos (hw.mpr z)]
    rcases z with z | z
    · have z0 : M (oD d 0) = 0 := by rw [hve, z]; rfl
      have n3 : ¬ M (oD d 0) = 3 := by rw [z0]; decide
      rw [if_neg n3]
      have y1 := d2 (by rw [z0]; decide)
      have y3 := d3 (by rw [z0]; decide)
      have same : mSb M d = M := by
        funext k
        unfold mSb
        simp only [upd]
        by_cases k3 : k = oD d 3
        · rw [if_pos k3, k3, y3]
        · rw [if_neg k3]
          by_cases k1 : k = oD d 1
          · rw [if_pos k1, k1, y1]
          · rw [if_neg k1]
            by_cases k0 : k = oD d 0
            · rw [if_pos k0, k0, z0]
            · rw [if_neg k0]
      have rb := g1.sb hd
      rw [same] at rb
      refine ⟨rb, g2, fun e he hde => g3 e he (by omega), fun e he hde => ?_, g5, g6, rest (by rw [← s0, z0]; decide)⟩
      by_cases ze : e = d
      · subst ze
        rw [z0, if_neg (by rw [← s0]; exact n3)]
      · exact g4 e he (by omega)
    · have z0 : M (oD d 0) = 3 := by rw [hve, z]; rfl
      rw [if_pos z0]
      refine ⟨g1, g2, fun e he hde => g3 e he (by omega), fun e he hde => ?_, g5, g6, rest (by rw [← s0, z0]; decide)⟩
      by_cases ze : e = d
      · subst ze
        rw [z0, if_pos (by rw [← s0]; exact z0)]
      · exact g4 e he (by omega)
  · rw [if_neg (fun t => z (hw.mp t))]
    have n3 : ¬ M (oD d 0) = 3 := by
      rw [hve, show (3 : Int32) = nI 3 from rfl]
      intro t
      have := nI_inj (by omega) (by omega) t
      exact z (Or.inr this)
    rw [if_neg n3]
    have lo : ∀ k, k < 94 → ban (mSb M d) d c k = mSb M d k := fun k hk => ban_o _ _ _ _ (fun j _ => by unfold oR; omega)
    have on : ∀ k, (∀ w, w < 6 → k ≠ oD d w) → k < 94 → ban (mSb M d) d c k = M k := fun k hk hk2 => by rw [lo k hk2, mSb_on _ _ _ hk]
    have at' : ∀ w, w < 6 → ban (mSb M d) d c (oD d w) = if w = 0 ∨ w = 1 ∨ w = 3 then 0 else M (oD d w) := fun w hw => by rw [lo _ (by unfold oD; omega), mSb_v]
    refine ⟨(g1.sb hd).m (fun k hk => lo k (by omega)), fun e he => ?_, fun e he hde => ?_, fun e he hde => ?_, fun k hk => ?_, ?_, fun k hk e he hed => ?_⟩
    · by_cases ze : e = d
      · subst ze
        have a0 := at' 0 (by decide)
        rw [if_pos (Or.inl rfl)] at a0
        refine ⟨⟨0, by decide, a0⟩, fun t => absurd (a0.symm.trans t) (by decide), fun _ => (at' 1 (by decide)).trans (if_pos (by decide)), fun _ => (at' 3 (by decide)).trans (if_pos (by decide)), fun _ => ?_, ?_⟩
        · rw [at' 2 (by decide), if_neg (by decide)]
          exact d4 n3
        · rw [at' 4 (by decide), if_neg (by decide)]
          exact d5
      · exact (g2 e he).cg (fun w hw' => on _ (fun w' hw'' => by unfold oD; omega) (by unfold oD; omega))
    · rw [on _ (fun w' hw'' => by unfold oD; omega) (by unfold oD; omega)]
      exact g3 e he (by omega)
    · by_cases ze : e = d
      · subst ze
        rw [at' 0 (by decide), if_pos (Or.inl rfl), if_neg (by rw [← s0]; exact n3)]
      · rw [on _ (fun w' hw'' => by unfold oD; omega) (by unfold oD; omega)]
        exact g4 e he (by omega)
    · rw [on k (fun w' hw'' => by unfold oD; omega) (by omega)]
      exact g5 k hk
    · rw [on 93 (fun w' hw'' => by unfold oD; omega) (by omega)]
      exact g6
    · have eM : rmk (mSb M d) k = rmk M k := rmk_cg (fun j hj => mSb_on _ _ _ (fun w hw' => by unfold oD; omega))
      rw [ban_r _ _ _ hk, eM, g7 k hk e he hed]
      by_cases ze : e = d
      · subst ze
        rw [if_neg (Nat.lt_irrefl _), if_pos hed, if_pos (by omega)]
      · have ned : ¬ nI e = nI d := fun t => ze (nI_inj (by omega) (by omega) t)
        by_cases z2 : e < d
        · rw [if_pos z2, if_neg (show ¬ dk5 (rsR (rmk s k)) = nI d from fun t => ned (hed.symm.trans t)), if_pos (by omega)]
        · rw [if_neg z2, if_neg (show ¬ dk5 (rmk s k) = nI d by rw [hed]; exact ned), if_neg (by omega)]
theorem ct_o (h : DH) (i : Nat) (κ : DKey) (hκ : κ.1 ≠ 5) : ∀ k, (ct h i k).1 κ = h.1 κ := by
  intro k
  induction k with
  | zero => rfl
  | succ k ih =>
    rw [show ct h i (k + 1) = up1 (ct h i k) _ _ _ from rfl, up1_ne _ _ _ (fun e => hκ (by rw [e]))]
    exact ih
theorem ct_r {h : DH} {i : Nat} (hp : pmi h i) : ∀ k, k ≤ 30 → ∀ j, j < 30 → rdk (ct h i k) i j = if j < k then rsR (rdk h i j) else rdk h i j := by
  intro k
  induction k with
  | zero => intro _ j _; rw [if_neg (by omega)]; rfl
  | succ k ih =>
    intro hk j hj
    have c2 := (ct_inv h i k).2
    have ih := ih (by omega)
    have P : pmi (ct h i k) i := fun a b ha hb hab => hp a b ha hb (by rw [c2] at hab; exact hab)
    rw [show ct h i (k + 1) = up1 (ct h i k) (5, i, h.2 (3, i, 0) k) 3 ((ct h i k).1 (5, i, h.2 (3, i, 0) k) 2) from rfl, ← c2]
    by_cases z : j = k
    · subst z
      rw [rdk_me, if_pos (by omega), ih j hj, if_neg (Nat.lt_irrefl _)]
      have : (ct h i j).1 (5, i, (ct h i j).2 (3, i, 0) j) 2 = (rdk h i j).2.2.1 := by
        have := ih j hj
        rw [if_neg (Nat.lt_irrefl _)] at this
        exact congrArg (fun r : R5 => r.2.2.1) this
      rw [this]
      rfl
    · rw [rdk_at 3 _ P (by omega) hj z, ih j hj]
      by_cases z2 : j < k
      · rw [if_pos z2, if_pos (by omega)]
      · rw [if_neg z2, if_neg (by omega)]
theorem co_o (h : DH) (i : Nat) (κ : DKey) (hκ : κ.1 ≠ 4) : ∀ k, (co h i k).1 κ = h.1 κ := by
  intro k
  induction k with
  | zero => rfl
  | succ k ih =>
    rw [show co h i (k + 1) = coB i k (co h i k) from rfl]
    unfold coB
    split
    · exact ih
    · rw [sb_on (fun e => hκ (by rw [e]))]
      exact ih
theorem co_6 (h : DH) (i e : Nat) : ∀ k, (co h i k).1 (4, i, e) 6 = h.1 (4, i, e) 6 := by
  intro k
  induction k with
  | zero => rfl
  | succ k ih =>
    rw [show co h i (k + 1) = coB i k (co h i k) from rfl]
    unfold coB
    split
    · exact ih
    · by_cases z : (4, i, e) = (4, i, k)
      · have zk : e = k := by simpa using z
        subst zk
        rw [sb_v, if_neg (by decide)]
        exact ih
      · rw [sb_on z]
        exact ih
theorem cut_SR {h : DH} {i c : Nat} {s : Nat → Int32} (hs : SR h i c s) : SR (ct (co h i 12) i c) i c (coM s c 12) ∧ ∀ k, k < 21 → coM s c 12 k = s k := by
  have hs' := hs
  obtain ⟨h1, h2, h3, h4, h5, h6, h7, h8, h9, h10, h11⟩ := hs'
  have A : ∀ d, d ≤ 12 → CO h i c s d (coM s c d) := by
    intro d
    induction d with
    | zero => intro _; exact ⟨h1, h10, fun _ _ _ => rfl, fun e _ t => absurd t (by omega), fun _ _ => rfl, rfl, fun k _ e _ _ => by rw [if_neg (by omega)]; rfl⟩
    | succ d ih => intro hd; exact CO_step (by omega) hs (ih (by omega))
  obtain ⟨g1, g2, g3, g4, g5, g6, g7⟩ := A 12 (Nat.le_refl _)
  obtain ⟨v1, v2⟩ := co_inv h i 12
  have v3 := fun κ hκ => co_o h i κ hκ 12
  have v6 := fun e => co_6 h i e 12
  generalize co h i 12 = G at g1 v1 v2 v3 v6 ⊢
  generalize coM s c 12 = M at g1 g2 g3 g4 g5 g6 g7 ⊢
  have PG : pmi G i := fun a b ha hb hab => h6 a b ha hb (by rw [v2] at hab; exact hab)
  obtain ⟨t1, t2⟩ := ct_inv G i c
  have rG : ∀ j, rdk G i j = rdk h i j := fun j => by unfold rdk; rw [v2, v3 _ (show (5 : Nat) ≠ 4 by decide)]
  have eR : ∀ k, k < c → rmk M k = rsR (rmk s k) := by
    intro k hk
    obtain ⟨e, he, hed, _⟩ := h11 _ (LM_mem.mpr ⟨k, hk, rfl⟩)
    rw [g7 k hk e he hed, if_pos he]
  have eS : ∀ k, k < c → rdk h i k = rmk s k := by
    intro k hk
    have a := LC_at (h := h) (i := i) hk
    rw [h5, LM_at hk] at a
    exact (Option.some.inj a).symm
  have mapk : (LM M c).map dk5 = (LM s c).map dk5 := by
    unfold LM
    rw [List.map_map, List.map_map]
    refine List.map_congr_left (fun k hk => ?_)
    show dk5 (rmk M k) = dk5 (rmk s k)
    rw [eR k (List.mem_range.mp hk)]
    rfl
  refine ⟨⟨g1.cg (ct_o G i _ (show (1 : Nat) ≠ 5 by decide) c) (fun k _ _ => by rw [t1]) (fun d _ f _ => by rw [ct_o G i _ (show (4 : Nat) ≠ 5 by decide) c]) (fun _ _ => rfl), by rw [t1, v1, h2], h3, g6.trans h4, ?_, fun a b ha hb hab => PG a b ha hb (by rw [t2] at hab; exact hab), fun p hp => by rw [t2, v2]; exact h7 p hp, fun e he => ?_, ?_, g2, fun r hr => ?_⟩, g5⟩
  · unfold LC LM
    refine List.map_congr_left (fun k hk => ?_)
    have hk := List.mem_range.mp hk
    rw [ct_r PG c h3 k (by omega), if_pos hk, rG, eS k hk, eR k hk]
  · rw [ct_o G i _ (show (4 : Nat) ≠ 5 by decide) c, v6, h8 e he, cntD_map mapk]
  · unfold NInv
    rw [g5 0 (by decide), g5 5 (by decide), g5 6 (by decide), g5 7 (by decide), g5 15 (by decide)]
    exact h9
  · obtain ⟨k, hk, rfl⟩ := LM_mem.mp hr
    obtain ⟨e, he, hed, hd3, l, t, l1, l2, l3, l4, l5, l6⟩ := h11 _ (LM_mem.mpr ⟨k, hk, rfl⟩)
    have w0 : M (oD e 0) = 0 := by rw [g4 e he he, if_neg hd3]
    rw [eR k hk]
    exact ⟨e, he, hed, by rw [w0]; decide, t, t, by omega, Nat.le_refl _, l3, l5, l5, fun _ => rfl⟩
end
section
/-! a tick, on both sides -/
theorem SR.sc {h : DH} {i c : Nat} {s : Nat → Int32} (hs : SR h i c s) {k : Nat} (hk : 4 ≤ k) (hk2 : k < 15) (v : Int32) (hv : k = 10 → v = 0 ∨ v = 1) : SR (up1 h (0, i, 0) k v) i c (upd s (ms k) v) := by
  obtain ⟨h1, h2, h3, h4, h5, h6, h7, h8, h9, h10, h11⟩ := hs
  have hm := ms_lt k
  have eL : LM (upd s (ms k) v) c = LM s c := LM_lo (by omega) v
  have eo : ∀ e w, upd s (ms k) v (oD e w) = s (oD e w) := fun e w => upd_n _ _ (by unfold oD; omega)
  refine ⟨h1.sc hk hk2 v, by rw [up1_1, if_neg (fun t => by omega), h2], h3, by rw [upd_n _ _ (by omega), h4], by rw [LC_00, eL, h5], h6, h7, fun e he => by rw [up1_ne _ _ _ (by simp), eL, h8 e he], ?_, fun e he => (h10 e he).cg (fun w _ => eo e w), fun r hr => ?_⟩
  · obtain ⟨y1, y2, y3, y4, y5⟩ := h9
    unfold NInv
    rw [upd_n _ _ (show 0 ≠ ms k by omega), upd_n _ _ (show 5 ≠ ms k by omega), upd_n _ _ (show 6 ≠ ms k by omega), upd_n _ _ (show 7 ≠ ms k by omega)]
    refine ⟨y1, y2, y3, y4, ?_⟩
    by_cases z : ms k = 15
    · rw [z, upd_s]
      exact hv (ms_inj hk hk2 (by decide) (by decide) (z.trans rfl))
    · rw [upd_n _ _ (fun t => z t.symm)]
      exact y5
  · rw [eL] at hr
    refine (h11 r hr).cg (fun e _ _ => ?_)
    rw [eo]
    exact ⟨(em_ne _ 3).symm, id⟩
theorem bl_eq (s : Nat → Int32) (a b : Int32) : upd (upd (upd (upd s 16 a) 15 1) 17 b) 16 0 = upd (upd (upd s 15 1) 17 b) 16 0 := by
  funext k
  simp only [upd]
  by_cases h : k = 16
  · rw [if_pos h, if_pos h]
  · rw [if_neg h, if_neg h, if_neg h]
theorem fuse_SR {g : DH} {i c : Nat} {s : Nat → Int32} (hs : SR g i c s) (x : Int32) : SR (sfB g i x) i c (fuM s x) ∧ ∀ k, k < 10 → fuM s x k = s k := by
  have hs' := hs
  obtain ⟨h1, _, _, _, _, _, _, _, ⟨_, ⟨a5, b5, e5⟩, ⟨a6, b6, e6⟩, ⟨a7, b7, e7⟩, y5⟩, _, _⟩ := hs'
  have r10 := h1.2.1 10 (by decide) (by decide)
  rw [show ms 10 = 15 from rfl] at r10
  have r11 := h1.2.1 11 (by decide) (by decide)
  rw [show ms 11 = 16 from rfl] at r11
  have r12 := h1.2.1 12 (by decide) (by decide)
  rw [show ms 12 = 17 from rfl] at r12
  refine ⟨?_, fun k hk => ?_⟩
  · unfold sfB fuM
    rw [r10, h1.1 5 (by decide), h1.1 6 (by decide), h1.1 7 (by decide), r11]
    rcases y5 with z | z
    · have nz : ¬ s 15 = 1 := by rw [z]; decide
      rw [if_pos z, if_neg nz]
      by_cases zx : s 5 < x
      · have nx : ¬ x ≤ s 5 := Int32.not_le.mpr zx
        rw [if_neg nx, if_pos zx]
        have big : SR (up1 (up1 (up1 (up1 g (0, i, 0) 11 (s 16 + 1)) (0, i, 0) 10 1) (0, i, 0) 12 (g.1 (0, i, 0) 12 + 1)) (0, i, 0) 11 0) i c (upd (upd (upd (upd s 16 (s 16 + 1)) 15 1) 17 (s 17 + 1)) 16 0) := by
          rw [r12]
          exact (((hs.sc (show 4 ≤ 11 by decide) (by decide) (s 16 + 1) (fun t => absurd t (by decide))).sc (show 4 ≤ 10 by decide) (by decide) 1 (fun _ => Or.inr rfl)).sc (show 4 ≤ 12 by decide) (by decide) (s 17 + 1) (fun t => absurd t (by decide))).sc (show 4 ≤ 11 by decide) (by decide) 0 (fun t => absurd t (by decide))
        by_cases zb : s 5 + s 6 < x
        · rw [if_pos (Or.inr zb), if_pos zb]
          unfold blM
          rw [← bl_eq s (s 16 + 1)]
          exact big
        · rw [if_neg zb]
          by_cases z7 : s 7 < s 16 + 1
          · rw [if_pos (Or.inl z7), if_pos z7]
            unfold blM
            rw [upd_n _ _ (show 17 ≠ 16 by decide)]
            exact big
          · rw [if_neg (fun t => t.elim z7 zb), if_neg z7]
            exact hs.sc (show 4 ≤ 11 by decide) (by decide) (s 16 + 1) (fun t => absurd t (by decide))
      · have lx : x ≤ s 5 := Int32.not_lt.mp zx
        have nb : ¬ s 5 + s 6 < x := by
          rw [e5] at lx
          rw [e5, e6, nI_add]
          intro t
          have t1 := Int32.lt_iff_toInt_lt.mp t
          have t2 := Int32.le_iff_toInt_le.mp lx
          have t3 : nI (a5 + a6) < nI a5 := Int32.lt_iff_toInt_lt.mpr (by omega)
          have := (nI_ltI (by omega) (by omega)).mp t3
          omega
        have n7 : ¬ s 7 < 0 := by
          rw [e7, show (0 : Int32) = nI 0 from rfl]
          intro t
          have := (nI_ltI (by omega) (by decide)).mp t
          omega
        rw [if_pos lx, if_neg (fun t => t.elim n7 nb), if_neg nb, if_neg zx]
        exact hs.sc (show 4 ≤ 11 by decide) (by decide) 0 (fun t => absurd t (by decide))
    · rw [if_neg (by rw [z]; decide), if_pos z]
      exact hs
  · unfold fuM blM
    split
    · rfl
    · split
      · rw [upd_n _ _ (by omega), upd_n _ _ (by omega), upd_n _ _ (by omega)]
      · split
        · split
          · rw [upd_n _ _ (by omega), upd_n _ _ (by omega), upd_n _ _ (by omega), upd_n _ _ (by omega)]
          · rw [upd_n _ _ (by omega)]
        · rw [upd_n _ _ (by omega)]
theorem tick_SR {h : DH} {i c : Nat} {s : Nat → Int32} (f : Nat → Int32) (hs : SR h i c s) : ∃ c', SR (tick h i c) i c' (tickM s f).1 ∧ ∀ k, k < 10 → (tickM s f).1 k = s k := by
  have A : ∃ c', SR (tkH h i c) i c' (tkM s f).1 ∧ ∀ k, k < 10 → (tkM s f).1 k = s k := by
    have r10 := hs.1.2.1 10 (by decide) (by decide)
    rw [show ms 10 = 15 from rfl] at r10
    have h93 := hs.2.2.2.1
    have h30 := hs.2.2.1
    have hp := hs.2.2.2.2.2.1
    have y5 := hs.2.2.2.2.2.2.2.2.1.2.2.2.2
    unfold tkH
    rw [r10]
    rcases y5 with z | z
    · have nz : ¬ s 15 = 1 := by rw [z]; decide
      rw [if_pos z, tkM_n nz]
      have rg := RG_all h30 hp (hs.RG (f := f)) 12 (Nat.le_refl _)
      have hm := rg.2.2.2.2.2.1
      obtain ⟨c', s1, k1⟩ := read_SR hs rg
      generalize gs h i c 12 = q at hm s1 ⊢
      generalize stM s f 12 = p at hm s1 k1 ⊢
      obtain ⟨b1, b2, b3, b4⟩ := BS_all (f := p.2) (b := q.2) (fun e he => by
        rw [hm e he]
        exact ⟨fun t => t he, fun t _ => t⟩) s1 12 (Nat.le_refl _)
      generalize bs (grAll q.1 i c) i q.2 12 = y at b1 b2 b3 ⊢
      generalize nsM (rdM p.1 12) p.2 12 = w at b1 b2 b3 b4 ⊢
      exact ⟨c', b1, fun k hk => (b4 k (Or.inl hk)).trans (k1 k (Or.inl hk))⟩
    · rw [if_neg (by rw [z]; decide), tkM_p z]
      obtain ⟨a1, a2⟩ := cut_SR hs
      rw [cc_of h93 h30]
      generalize co h i 12 = y at a1 ⊢
      generalize coM s c 12 = w at a1 a2 ⊢
      exact ⟨c, a1, fun k hk => a2 k (by omega)⟩
  obtain ⟨c', a1, a2⟩ := A
  unfold tick
  rw [show (tickM s f).1 = tkM2 (tkM s f).1 from rfl]
  generalize tkH h i c = g at a1 ⊢
  generalize (tkM s f).1 = t at a1 a2 ⊢
  unfold tkM2 sfH
  have r8 := a1.1.2.1 8 (by decide) (by decide)
  rw [show ms 8 = 10 from rfl] at r8
  have b1 := a1.sc (show 4 ≤ 8 by decide) (by decide) (t 10 + 1) (fun u => absurd u (by decide))
  rw [show ms 8 = 10 from rfl] at b1
  rw [r8, cc_of a1.2.2.2.1 a1.2.2.1]
  have r9 := b1.1.2.1 9 (by decide) (by decide)
  rw [show ms 9 = 11 from rfl, upd_n _ _ (by decide)] at r9
  rw [sumcur b1, r9]
  have b2 := b1.sc (show 4 ≤ 9 by decide) (by decide) (mx (t 11) (mcurN (upd t 10 (t 10 + 1)) c')) (fun u => absurd u (by decide))
  rw [show ms 9 = 11 from rfl] at b2
  obtain ⟨f1, f2⟩ := fuse_SR b2 (mcurN (upd t 10 (t 10 + 1)) c')
  exact ⟨c', f1, fun k hk => by rw [f2 k hk, upd_n _ _ (by omega), upd_n _ _ (by omega), a2 k hk]⟩
end
section
/-! the reference's history -/
def ub (h : DH) (κ : DKey) (b : Nat → Int32) : DH := (fun q => if q = κ then b else h.1 q, h.2)
theorem ub_s (h : DH) (κ : DKey) (b : Nat → Int32) : (ub h κ b).1 κ = b := by simp [ub]
theorem ub_n (h : DH) {κ q : DKey} (b : Nat → Int32) (hq : q ≠ κ) : (ub h κ b).1 q = h.1 q := by simp [ub, hq]
theorem ub_id (h : DH) (κ : DKey) : ub h κ (h.1 κ) = h := by
  refine Prod.ext ?_ rfl
  funext q
  show (if q = κ then h.1 κ else h.1 q) = h.1 q
  by_cases z : q = κ
  · rw [if_pos z, z]
  · rw [if_neg z]
theorem ub_up (h : DH) (κ : DKey) (b : Nat → Int32) (k : Nat) (x : Int32) : up1 (ub h κ b) κ k x = ub h κ (upd b k x) := by
  refine Prod.ext ?_ rfl
  funext q j
  by_cases hq : q = κ
  · subst hq
    simp [up1, ub, upd]
  · simp [up1, ub, hq]
theorem hp_un (h : DH) (s f : Nat → Int32) {κ : DKey} (k : Nat) (x : Int32) (h1 : κ ≠ (15, 0, 0)) (h2 : κ ≠ (20, 0, 0)) : up1 (hp h s f) κ k x = hp (up1 h κ k x) s f := by
  refine Prod.ext ?_ rfl
  funext q j
  by_cases hq : q = κ
  · subst hq
    simp [up1, hp, h1, h2]
  · simp [up1, hp, hq]
def cp5 (b : Nat → Int32) (a : Nat) (v : Nat → Int32) (n : Nat) : Nat → Int32 := fun k => if a ≤ k ∧ k < a + n then v (k - a) else b k
theorem cp5_0 (b : Nat → Int32) (a : Nat) (v : Nat → Int32) : cp5 b a v 0 = b := by
  funext k
  unfold cp5
  rw [if_neg (by omega)]
theorem cp5_s (b : Nat → Int32) (a : Nat) (v : Nat → Int32) (n : Nat) : upd (cp5 b a v n) (a + n) (v n) = cp5 b a v (n + 1) := by
  funext k
  unfold upd cp5
  by_cases z : k = a + n
  · rw [if_pos z, if_pos (by omega)]
    congr 1
    omega
  · rw [if_neg z]
    by_cases z2 : a ≤ k ∧ k < a + n
    · rw [if_pos z2, if_pos (by omega)]
    · rw [if_neg z2, if_neg (by omega)]
def knB (b : Nat → Int32) (a : Nat) (s : Nat → Int32) : Nat → Int32 := if a = 4 then cp5 (cp5 b 0 (fun k => b (244 + k)) 732) (244 * 3) s 244 else cp5 b (244 * a) s 244
def knA (a : Nat) : Nat := if a = 4 then 4 else a + 1
def know (h : DH) (a : Nat) (s : Nat → Int32) : DH := up1 (ub h (17, 0, 0) (knB (h.1 (17, 0, 0)) a s)) (14, 0, 0) 3 (nI (knA a))
theorem ub_cm (h : DH) (b : Nat → Int32) (x : Int32) : up1 (ub h (17, 0, 0) b) (14, 0, 0) 3 x = ub (up1 h (14, 0, 0) 3 x) (17, 0, 0) b := by
  refine Prod.ext ?_ rfl
  funext q j
  by_cases hq : q = (17, 0, 0)
  · subst hq
    simp [up1, ub]
  · simp [up1, ub, hq]
theorem up1_up1 (h : DH) (κ : DKey) (k : Nat) (x y : Int32) : up1 (up1 h κ k x) κ k y = up1 h κ k y := by
  refine Prod.ext ?_ rfl
  funext q j
  simp only [up1_1]
  by_cases z : q = κ ∧ j = k
  · rw [if_pos z, if_pos z]
  · rw [if_neg z, if_neg z, if_neg z]
theorem ub_ub (h : DH) (κ : DKey) (b b' : Nat → Int32) : ub (ub h κ b) κ b' = ub h κ b' := by
  refine Prod.ext ?_ rfl
  funext q
  simp only [ub]
  split <;> rfl

def mask (s : Nat → Int32) (c d : Nat) (t : Int32) : Nat → Int32 := upd (upd (upd (upd (upd (upd (upd s (oR c 0) (s 12)) (oR c 1) (nI d)) (oR c 2) t) (oR c 3) t) (oR c 4) (s 10)) 93 (nI (c + 1))) 12 (s 12 + 1)
def mpl (s : Nat → Int32) : Int32 := sumN (fun e => s (oD e 4)) 12

/-! the reference: replace, fuse, run -/
def mz (s : Nat → Int32) (d : Nat) : Nat → Int32 := cp5 s (oD d 0) (fun _ => 0) 6
def nf (s : Nat → Int32) : Nat → Int32 := upd (upd s 15 0) 16 0
def rk (s f : Nat → Int32) : Nat → (Nat → Int32) × (Nat → Int32)
  | 0 => (s, f)
  | k + 1 => tickM (rk s f k).1 (rk s f k).2
theorem rk_ok {s f : Nat → Int32} (hk : okC s) : ∀ k, okC (rk s f k).1 := by
  intro k
  induction k with
  | zero => exact hk
  | succ k ih => exact tickM_ok ih

/-! the reference: aside, snapshot, undo -/
theorem cp5_z (b v : Nat → Int32) (k : Nat) : upd (cp5 b 0 v k) k (v k) = cp5 b 0 v (k + 1) := by
  have e := cp5_s b 0 v k
  rw [Nat.zero_add] at e
  exact e
theorem cp5_in {b v : Nat → Int32} {n k : Nat} (h : k < n) : cp5 b 0 v n k = v k := by
  unfold cp5
  rw [if_pos (by omega)]
  rfl
def keepH (h : DH) (s : Nat → Int32) : DH := up1 (ub h (18, 0, 0) (cp5 (h.1 (18, 0, 0)) 0 s 244)) (14, 0, 0) 5 1
theorem know_18 (h : DH) (a : Nat) (s : Nat → Int32) : (know h a s).1 (18, 0, 0) = h.1 (18, 0, 0) := by
  unfold know
  rw [up1_ne _ _ _ (by decide), ub_n _ _ (by decide)]

def mtd (s : Nat → Int32) (c d : Nat) (x : Int32) : Int32 := if x = 0 then s (oD d 0) else if x = 1 then mcur s c d else if x = 2 then s (oD d 1) else if x = 3 then s (oD d 2) else if x = 4 then s (oD d 3) else if x = 5 then mahd s (nI d) c else if x = 6 then s (oD d 4) else if x = 7 then s (oD d 5) else -2

/-! the reference: counts, reads told -/
def mco (h : DH) (s : Nat → Int32) (c : Nat) (x : Int32) : Int32 := if x = 0 then s 10 else if x = 1 then mcurN s c else if x = 2 then s 11 else if x = 3 then s 93 else if x = 4 then s 12 else if x = 5 then s 13 else if x = 6 then s 14 else if x = 7 then mthat s 0 else if x = 8 then mthat s 1 else if x = 9 then mthat s 2 else if x = 10 then mthat s 3 else if x = 11 then s 15 else if x = 12 then s 16 else if x = 13 then s 17 else if x = 14 then s 18 else if x = 15 then s 19 else if x = 16 then s 20 else if x = 17 then h.1 (14, 0, 0) 3 else if x = 18 then h.1 (14, 0, 0) 7 else if wi x 20 29 = 0 then -2 else s (x - 20).toNatClampNeg
theorem wip_nI2 {x : Int32} {a b : Nat} (ha : a < 2 ^ 31) (hb : b < 2 ^ 31) (h : wip x (nI a) (nI b)) : ∃ k, a ≤ k ∧ k ≤ b ∧ x = nI k := by
  have h0 : wip x 0 (nI b) := ⟨fun t => h.1 (Int32.lt_iff_toInt_lt.mpr (by
    have t1 := Int32.lt_iff_toInt_lt.mp t
    have t2 : ¬ nI a < nI 0 := fun u => by have := (nI_ltI ha (by decide)).mp u; omega
    have t3 := Int32.le_iff_toInt_le.mp (Int32.not_lt.mp t2)
    have t4 : (nI 0 : Int32).toInt = (0 : Int32).toInt := rfl
    omega)), h.2⟩
  obtain ⟨k, hk, rfl⟩ := wip_nI hb h0
  exact ⟨k, by
    rcases Nat.lt_or_ge k a with z | z
    · exact absurd (nI_lt z ha) h.1
    · exact z, hk, rfl⟩
def mtr (s : Nat → Int32) (k : Nat) (x : Int32) : Int32 := if x = 0 then s (oR k 1) else if x = 1 then s (oR k 2) else if x = 2 then s (oR k 3) else if x = 3 then mahd s (s (oR k 1)) k else if x = 4 then s 10 - s (oR k 4) else -2

/-! the reference: how many could start -/
theorem sumN_01 (f : Nat → Int32) (h : ∀ e, f e = 0 ∨ f e = 1) : ∀ n, ∃ m, m ≤ n ∧ sumN f n = nI m := by
  intro n
  induction n with
  | zero => exact ⟨0, Nat.le_refl _, rfl⟩
  | succ n ih =>
    obtain ⟨m, h1, h2⟩ := ih
    show ∃ m, m ≤ n + 1 ∧ sumN f n + f n = nI m
    rcases h n with z | z
    · exact ⟨m, by omega, by rw [h2, z, Int32.add_zero]⟩
    · exact ⟨m + 1, by omega, by rw [h2, z, nI_1]⟩
theorem mthat_nI (s : Nat → Int32) (x : Int32) : ∃ m, m ≤ 12 ∧ mthat s x = nI m := sumN_01 _ (fun e => by
  by_cases z : s (oD e 0) = x
  · exact Or.inr (if_pos z)
  · exact Or.inl (if_neg z)) 12
def csB (s : Nat → Int32) (st : Int32) (q : Int32 × Int32) : Int32 × Int32 := if s 8 ≤ st + q.2 ∨ s 5 < q.1 - s 4 + s 1 then (q.1 + 0, q.2 + 0) else (q.1 + (s 1 - s 4), q.2 + 1)
def cs (s : Nat → Int32) (st c0 : Int32) : Nat → Int32 × Int32
  | 0 => (c0, 0)
  | k + 1 => csB s st (cs s st c0 k)
def lomay (s : Nat → Int32) (st c0 : Int32) : Nat → Option DV
  | 0 => none
  | k + 1 => some (.inl (if s 8 ≤ st + (cs s st c0 k).2 ∨ s 5 < (cs s st c0 k).1 - s 4 + s 1 then 0 else 1))

/-! the reference: what would be -/
def asd (h : DH) (s : Nat → Int32) : DH := ub h (16, 0, 0) (cp5 (h.1 (16, 0, 0)) 0 s 244)
theorem asd_16 (h : DH) (s : Nat → Int32) : (asd h s).1 (16, 0, 0) = cp5 (h.1 (16, 0, 0)) 0 s 244 := ub_s _ _ _

/-! the reference: tried -/
def ho (s f : Nat → Int32) : Nat → Int32
  | 0 => 0
  | j + 1 => if mcurN (rk s f (j + 1)).1 (cc (rk s f (j + 1)).1) ≤ ho s f j then ho s f j else mcurN (rk s f (j + 1)).1 (cc (rk s f (j + 1)).1)
def trA (s f : Nat → Int32) (w : Int32) (N : Nat) : Int32 := if w = 0 then (if (rk s f N).1 93 ≤ 0 then nI N else -5) else if w = 1 then ho s f N else (rk s f N).1 15
end
section
/-! the class: a read is taken back; ticks pass -/
def drpG (h : DH) (i p : Nat) : DH := up1 h (5, i, h.2 (3, i, 0) p) 3 0
def drpH (h : DH) (i c p : Nat) : DH := up1 (sw (drpG h i p) i c).1 (0, i, 0) 3 (nI (sw (drpG h i p) i c).2)
theorem c_dropRead (n i : Nat) (x : Int32) (h : DH) {c : Nat} (hc : h.1 (0, i, 0) 3 = nI c) (h30 : c ≤ 30) (hk0 : rok h i c) : dEx (n + 2) 13 [.inr (0, i, 0), .inl x] h (match cplc h i c x with | none => (some (.inl (-1)), h) | some p => (some (.inl (nI (sw (drpG h i p) i c).2)), drpH h i c p)) := by
  refine dx_13 ?_
  refine Runs.go 2 rfl trivial ?_
  refine Runs.cal rfl (c_placeOf n i x h hc h30) ?_
  cases hp' : cplc h i c x with
  | none =>
    dsimp only [oI]
    refine Runs.go 3 rfl trivial ?_
    refine Runs.ifF (by decide) ?_
    refine Runs.go 1 rfl trivial ?_
    exact Runs.fin rfl trivial
  | some p =>
    obtain ⟨p1, _, _⟩ := fp_some hp'
    dsimp only [oI]
    refine Runs.go 3 rfl trivial ?_
    refine Runs.ifT (Int32.not_lt.mp (nI_pos (show p < 2 ^ 31 by omega))) ?_
    refine Runs.go 7 rfl ⟨trivial, (i_in (show p < 30 by omega) (by decide))⟩ ?_
    rw [i_cl (show p < 2 ^ 31 by omega)]
    have hc' : (drpG h i p).1 (0, i, 0) 3 = nI c := by unfold drpG; rw [up1_ne _ _ _ (by simp), hc]
    have hk' : rok (drpG h i p) i c := by
      intro k hk
      obtain ⟨d, hd, e⟩ := hk0 k hk
      refine ⟨d, hd, ?_⟩
      unfold drpG
      rw [up1_1, if_neg (fun t => absurd t.2 (by decide))]
      exact e
    refine Runs.calv rfl (c_sweep n i (drpG h i p) hc' h30 hk') ?_
    refine Runs.go 2 rfl trivial ?_
    rw [up1_1, if_pos ⟨rfl, rfl⟩]
    exact Runs.fin rfl trivial
/-- ticks in a row -/
def pk (h : DH) (i : Nat) : Nat → DH
  | 0 => h
  | k + 1 => tick (pk h i k) i ((pk h i k).1 (0, i, 0) 3).toNatClampNeg
def pkok (h : DH) (i : Nat) : Prop := ∃ c, h.1 (0, i, 0) 3 = nI c ∧ c ≤ 30 ∧ rok h i c
theorem c_ticks (n i t : Nat) (ht : t < 2 ^ 31) (x : Int32) (h : DH) (hok : ∀ k, k < t → pkok (pk h i k) i) : Runs dT_28 (dEx (n + 4)) (35, [some (.inr (0, i, 0)), some (.inl (nI t)), some (.inl x), some (.inl (nI 0))], [], h) (some (.inl ((pk h i t).1 (0, i, 0) 5 - x)), pk h i t) := by
  generalize hr : ((some (.inl ((pk h i t).1 (0, i, 0) 5 - x)) : Option DV), pk h i t) = r
  refine Runs.loop t (fun k => (35, [some (.inr (0, i, 0)), some (.inl (nI t)), some (.inl x), some (.inl (nI k))], [], pk h i k)) (fun k hk ih => ?_) ?_
  · refine Runs.go 3 rfl trivial ?_
    refine Runs.ifF (nI_ge hk ht) ?_
    obtain ⟨c, h1, h2, h3⟩ := hok k hk
    rw [show pk h i (k + 1) = tick (pk h i k) i ((pk h i k).1 (0, i, 0) 3).toNatClampNeg from rfl, h1, i_cl (show c < 2 ^ 31 by omega)] at ih
    generalize pk h i k = g at h1 h3 ih ⊢
    refine Runs.go 1 rfl trivial ?_
    refine Runs.calv rfl (c_tick n i g h1 h2 h3) ?_
    refine Runs.go 2 rfl trivial ?_
    rw [nI_1]
    exact ih
  · refine Runs.go 3 rfl trivial ?_
    refine Runs.ifT (Int32.le_refl _) ?_
    refine Runs.go 4 rfl trivial ?_
    exact Runs.fin (by rw [← hr]; rfl) trivial
theorem c_pass0 (n i : Nat) (x : Int32) (h : DH) (hx : ¬ wip x 1 200) : dEx (n + 5) 28 [.inr (0, i, 0), .inl x] h (some (.inl (-2)), h) := by
  refine dx_28 ?_
  refine Runs.go 3 rfl trivial ?_
  refine Runs.cal rfl (c_isWithin (n + 3) _ _ _ h) ?_
  rw [wi_0 hx]
  refine Runs.go 1 rfl trivial ?_
  refine Runs.ifT rfl ?_
  refine Runs.go 1 rfl trivial ?_
  exact Runs.fin rfl trivial
theorem c_pass1 (n i t : Nat) (ht : t < 2 ^ 31) (h : DH) (hx : wip (nI t) 1 200) (hok : h.1 (0, i, 0) 8 + nI t ≤ 99999 → ∀ k, k < t → pkok (pk h i k) i) : dEx (n + 5) 28 [.inr (0, i, 0), .inl (nI t)] h (if h.1 (0, i, 0) 8 + nI t ≤ 99999 then (some (.inl ((pk h i t).1 (0, i, 0) 5 - h.1 (0, i, 0) 5)), pk h i t) else (some (.inl (-3)), h)) := by
  refine dx_28 ?_
  refine Runs.go 3 rfl trivial ?_
  refine Runs.cal rfl (c_isWithin (n + 3) _ _ _ h) ?_
  rw [wi_1 hx]
  refine Runs.go 1 rfl trivial ?_
  refine Runs.ifF (by decide) ?_
  refine Runs.go 6 rfl trivial ?_
  refine Runs.ifS (fun z => ?_) (fun z => ?_)
  · rw [if_pos z]
    refine Runs.go 5 rfl trivial ?_
    exact c_ticks n i t ht _ h (hok z)
  · rw [if_neg z]
    refine Runs.go 1 rfl trivial ?_
    exact Runs.fin rfl trivial
end
section
/-! ticks in a row, on both sides -/
theorem SR.rok {h : DH} {i c : Nat} {s : Nat → Int32} (hs : SR h i c s) : rok h i c := by
  obtain ⟨h1, h2, h3, h4, h5, h6, h7, h8, h9, h10, h11⟩ := hs
  intro k hk
  have a := LC_at (h := h) (i := i) hk
  rw [h5, LM_at hk] at a
  obtain ⟨e, he, hed, _⟩ := h11 _ (LM_mem.mpr ⟨k, hk, rfl⟩)
  exact ⟨e, he, (congrArg dk5 (Option.some.inj a)).symm.trans hed⟩
theorem SR.pkok {h : DH} {i c : Nat} {s : Nat → Int32} (hs : SR h i c s) : pkok h i := ⟨c, hs.2.1, hs.2.2.1, hs.rok⟩
theorem pass_SR {h : DH} {i c : Nat} {s : Nat → Int32} (f : Nat → Int32) (hs : SR h i c s) : ∀ k, (∃ c', SR (pk h i k) i c' (rk s f k).1) ∧ ∀ j, j < 10 → (rk s f k).1 j = s j := by
  intro k
  induction k with
  | zero => exact ⟨⟨c, hs⟩, fun _ _ => rfl⟩
  | succ k ih =>
    obtain ⟨⟨c', h1⟩, h2⟩ := ih
    have e : pk h i (k + 1) = tick (pk h i k) i c' := by
      rw [show pk h i (k + 1) = tick (pk h i k) i ((pk h i k).1 (0, i, 0) 3).toNatClampNeg from rfl, h1.2.1, i_cl (by have := h1.2.2.1; omega)]
    rw [e, show rk s f (k + 1) = tickM (rk s f k).1 (rk s f k).2 from rfl]
    obtain ⟨c2, a1, a2⟩ := tick_SR (rk s f k).2 h1
    exact ⟨⟨c2, a1⟩, fun j hj => (a2 j hj).trans (h2 j hj)⟩
theorem pass_ok {h : DH} {i c : Nat} {s : Nat → Int32} (f : Nat → Int32) (hs : SR h i c s) (k : Nat) : pkok (pk h i k) i := by
  obtain ⟨⟨c', h1⟩, _⟩ := pass_SR f hs k
  exact h1.pkok
/-- the row counts only below 244 -/
theorem SR.row {h : DH} {i c : Nat} {s s' : Nat → Int32} (hs : SR h i c s) (e : ∀ k, k < 244 → s' k = s k) : SR h i c s' := by
  obtain ⟨h1, h2, h3, h4, h5, h6, h7, h8, h9, h10, h11⟩ := hs
  have eL : LM s' c = LM s c := LM_cg (fun k _ hk => e k (by omega))
  refine ⟨h1.m (fun k hk => e k (by omega)), h2, h3, (e 93 (by decide)).trans h4, h5.trans eL.symm, h6, h7, fun d hd => by rw [eL]; exact h8 d hd, ?_, fun d hd => (h10 d hd).cg (fun w _ => e _ (by unfold oD; omega)), fun r hr => ?_⟩
  · unfold NInv
    rw [e 0 (by decide), e 5 (by decide), e 6 (by decide), e 7 (by decide), e 15 (by decide)]
    exact h9
  · rw [eL] at hr
    refine (h11 r hr).cg (fun d hd _ => ?_)
    rw [e _ (by unfold oD; omega)]
    exact ⟨(em_ne _ 3).symm, id⟩
end
section
/-! acts, on both sides -/
theorem NInv.num {s : Nat → Int32} (h : NInv s) {w : Nat} (hw : w < 10) {x : Int32} (hx : wip x (dcst 1 w) (dcst 2 w)) : NInv (upd s w x) := by
  obtain ⟨y1, y2, y3, y4, y5⟩ := h
  refine ⟨?_, ?_, ?_, ?_, ?_⟩
  · by_cases z : w = 0
    · subst z
      obtain ⟨k, k1, k2, k3⟩ := wip_nI2 (a := 1) (b := 20) (by decide) (by decide) hx
      exact ⟨k, k1, k2, (upd_s _ _ _).trans k3⟩
    · rw [upd_n _ _ (fun t => z t.symm)]; exact y1
  · by_cases z : w = 5
    · subst z
      obtain ⟨k, k1, k2, k3⟩ := wip_nI2 (a := 10) (b := 500) (by decide) (by decide) hx
      exact ⟨k, k2, (upd_s _ _ _).trans k3⟩
    · rw [upd_n _ _ (fun t => z t.symm)]; exact y2
  · by_cases z : w = 6
    · subst z
      obtain ⟨k, k1, k2, k3⟩ := wip_nI2 (a := 0) (b := 100) (by decide) (by decide) hx
      exact ⟨k, k2, (upd_s _ _ _).trans k3⟩
    · rw [upd_n _ _ (fun t => z t.symm)]; exact y3
  · by_cases z : w = 7
    · subst z
      obtain ⟨k, k1, k2, k3⟩ := wip_nI2 (a := 0) (b := 20) (by decide) (by decide) hx
      exact ⟨k, k2, (upd_s _ _ _).trans k3⟩
    · rw [upd_n _ _ (fun t => z t.symm)]; exact y4
  · rw [upd_n _ _ (by omega)]; exact y5
theorem set_SR {h : DH} {i c : Nat} {s : Nat → Int32} (hs : SR h i c s) {w : Nat} (hw : w < 10) {x : Int32} (hx : wip x (dcst 1 w) (dcst 2 w)) : SR (up1 h (1, i, 0) w x) i c (upd s w x) := by
  obtain ⟨h1, h2, h3, h4, h5, h6, h7, h8, h9, h10, h11⟩ := hs
  have eL : LM (upd s w x) c = LM s c := LM_lo (by omega) x
  refine ⟨⟨fun n hn => ?_, fun k hk hk2 => ?_, fun d hd f hf => ?_⟩, by rw [up1_ne _ _ _ (by simp)]; exact h2, h3, by rw [upd_n _ _ (by omega)]; exact h4, by rw [LC_o (show (1 : Nat) ≠ 5 by decide), eL]; exact h5, h6, h7, fun e he => by rw [up1_ne _ _ _ (by simp), eL]; exact h8 e he, h9.num hw hx, fun e he => (h10 e he).cg (fun w' _ => upd_n _ _ (by unfold oD; omega)), fun r hr => ?_⟩
  · rw [up1_1]
    by_cases z : n = w
    · rw [z, if_pos ⟨rfl, rfl⟩, upd_s]
    · rw [if_neg (fun t => z t.2), upd_n _ _ z]
      exact h1.1 n hn
  · have := ms_lt k
    rw [up1_ne _ _ _ (by simp), upd_n _ _ (by omega)]
    exact h1.2.1 k hk hk2
  · rw [up1_ne _ _ _ (by simp), upd_n _ _ (by unfold oD; omega)]
    exact h1.2.2 d hd f hf
  · rw [eL] at hr
    refine (h11 r hr).cg (fun e _ _ => ?_)
    rw [upd_n _ _ (by unfold oD; omega)]
    exact ⟨(em_ne _ 3).symm, id⟩
/-- the fuse is renewed -/
theorem fuse2_SR {h : DH} {i c : Nat} {s : Nat → Int32} (hs : SR h i c s) : SR (up1 (up1 h (0, i, 0) 10 0) (0, i, 0) 11 0) i c (nf s) := (hs.sc (show 4 ≤ 10 by decide) (by decide) 0 (fun _ => Or.inl rfl)).sc (show 4 ≤ 11 by decide) (by decide) 0 (fun t => absurd t (by decide))
end
section
/-! behind a blown fuse nothing is hot -/
def HInv (s : Nat → Int32) : Prop := s 15 = 1 → s 16 = 0
theorem fuM_H {s : Nat → Int32} (x : Int32) (h : HInv s) (h01 : s 15 = 0 ∨ s 15 = 1) : HInv (fuM s x) := by
  unfold fuM blM
  rcases h01 with z | z
  · have nz : ¬ s 15 = 1 := by rw [z]; decide
    rw [if_neg nz]
    split
    · exact fun _ => upd_s _ _ _
    · split
      · split
        · exact fun _ => upd_s _ _ _
        · intro t
          rw [upd_n _ _ (by decide)] at t
          exact absurd t nz
      · intro t
        rw [upd_n _ _ (by decide)] at t
        exact absurd t nz
  · rw [if_pos z]
    exact h
theorem tick_H {h : DH} {i c : Nat} {s : Nat → Int32} (f : Nat → Int32) (hs : SR h i c s) (hh : HInv s) : HInv (tickM s f).1 := by
  have y5 := hs.2.2.2.2.2.2.2.2.1.2.2.2.2
  have A : (tkM s f).1 15 = s 15 ∧ (s 15 = 1 → (tkM s f).1 16 = s 16) := by
    have h93 := hs.2.2.2.1
    have h30 := hs.2.2.1
    have hp := hs.2.2.2.2.2.1
    rcases y5 with z | z
    · have nz : ¬ s 15 = 1 := by rw [z]; decide
      rw [tkM_n nz]
      have rg := RG_all h30 hp (hs.RG (f := f)) 12 (Nat.le_refl _)
      have hm := rg.2.2.2.2.2.1
      obtain ⟨c', s1, k1⟩ := read_SR hs rg
      generalize gs h i c 12 = q at hm s1
      generalize stM s f 12 = p at hm s1 k1 ⊢
      obtain ⟨b1, b2, b3, b4⟩ := BS_all (f := p.2) (b := q.2) (fun e he => by
        rw [hm e he]
        exact ⟨fun t => t he, fun t _ => t⟩) s1 12 (Nat.le_refl _)
      generalize nsM (rdM p.1 12) p.2 12 = w at b4 ⊢
      exact ⟨(b4 15 (Or.inr rfl)).trans (k1 15 (Or.inr rfl)), fun t => absurd t nz⟩
    · rw [tkM_p z]
      obtain ⟨a1, a2⟩ := cut_SR hs
      rw [cc_of h93 h30]
      generalize coM s c 12 = w at a2 ⊢
      exact ⟨a2 15 (by decide), fun _ => a2 16 (by decide)⟩
  rw [show (tickM s f).1 = tkM2 (tkM s f).1 from rfl]
  generalize (tkM s f).1 = t at A ⊢
  unfold tkM2
  refine fuM_H _ (fun u => ?_) ?_
  · rw [upd_n _ _ (by decide), upd_n _ _ (by decide)] at u ⊢
    have z := A.1.symm.trans u
    exact (A.2 z).trans (hh z)
  · rw [upd_n _ _ (by decide), upd_n _ _ (by decide), A.1]
    exact y5
theorem fuse_new {h : DH} {i c : Nat} {s : Nat → Int32} (hs : SR h i c s) (hh : HInv s) (z : ¬ s 15 = 0) : SR (up1 h (0, i, 0) 10 0) i c (nf s) ∧ HInv (nf s) := by
  have y5 := hs.2.2.2.2.2.2.2.2.1.2.2.2.2
  have z1 := y5.resolve_left z
  refine ⟨(hs.sc (show 4 ≤ 10 by decide) (by decide) 0 (fun _ => Or.inl rfl)).row (fun k _ => ?_), fun _ => upd_s _ _ _⟩
  show upd (upd s 15 0) 16 0 k = upd s 15 0 k
  by_cases zk : k = 16
  · subst zk
    rw [upd_s, upd_n _ _ (by decide), hh z1]
  · rw [upd_n _ _ zk]
end
section
/-! the class: what is told by one call -/
theorem c_disk (n : Nat) (y x : Int32) (h : DH) : (∀ d, d < 12 → y = nI d → dEx (n + 4) 73 [.inr (6, 0, 0), .inl y, .inl x] h (some (.inl (ctellDisk h 0 d x)), h)) ∧ (¬ wip y 0 11 → dEx (n + 4) 73 [.inr (6, 0, 0), .inl y, .inl x] h (some (.inl (-1)), h)) := by
  constructor
  · intro d hd e
    refine dx_73 ?_
    refine Runs.go 4 rfl trivial ?_
    refine Runs.cal rfl ((c_tellDisk n 0 y x h).1 d hd e) ?_
    exact Runs.fin rfl trivial
  · intro e
    refine dx_73 ?_
    refine Runs.go 4 rfl trivial ?_
    refine Runs.cal rfl ((c_tellDisk n 0 y x h).2 e) ?_
    exact Runs.fin rfl trivial
theorem c_readOf (n : Nat) (y x : Int32) (h : DH) {c : Nat} (hc : h.1 (0, 0, 0) 3 = nI c) (h30 : c ≤ 30) : dEx (n + 4) 75 [.inr (6, 0, 0), .inl y, .inl x] h (some (.inl (match cplc h 0 c y with | some k => ctellRead h 0 k x | none => -1)), h) := by
  refine dx_75 ?_
  refine Runs.go 4 rfl trivial ?_
  refine Runs.cal rfl (c_tellRead n 0 y x h hc h30) ?_
  exact Runs.fin rfl trivial
theorem c_couldStart (n : Nat) (h : DH) : dEx (n + 4) 78 [.inr (6, 0, 0)] h (some (.inl (cstartable h 0)), h) := by
  refine dx_78 ?_
  refine Runs.go 2 rfl trivial ?_
  refine Runs.cal rfl (c_startable n 0 h) ?_
  exact Runs.fin rfl trivial
end
section
/-! the class: history and snapshot -/
def rr (h : DH) (j : Nat) : Nat := h.2 (8, 0, 0) j
/-- what a copy asks of its source -/
def cpk (h : DH) (i c : Nat) : Prop := h.1 (0, i, 0) 3 = nI c ∧ c ≤ 30 ∧ (∀ j, j < 12 → h.1 (4, i, j) 5 = 0 ∨ h.1 (4, i, j) 5 = 1) ∧ (h.1 (0, i, 0) 10 = 0 ∨ h.1 (0, i, 0) 10 = 1)
theorem c_copy (n i i' : Nat) (h : DH) (hne : i' ≠ i) {c : Nat} (hk : cpk h i' c) : dEx (n + 2) 2 [.inr (0, i, 0), .inr (0, i', 0)] h (none, cfull h i i' c) := c_copyFrom n i i' h hne hk.1 hk.2.1 hk.2.2.1 hk.2.2.2
theorem c_prepare (n : Nat) (h : DH) {a c : Nat} (ha : h.1 (7, 0, 0) 1 = nI a) (ha4 : a ≤ 4) (hne : rr h a ≠ 0) (hk : cpk h 0 c) : dEx (n + 3) 1 [.inr (7, 0, 0), .inr (0, 0, 0)] h (none, cfull h (rr h a) 0 c) := by
  refine dx_1 ?_
  refine Runs.go 6 rfl ⟨trivial, (by rw [ha]; exact i_in (show a < 5 by omega) (by decide))⟩ ?_
  rw [ha, i_cl (show a < 2 ^ 31 by omega)]
  refine Runs.calv rfl (c_copy n (rr h a) 0 h (fun t => hne t.symm) hk) ?_
  exact Runs.fin rfl trivial
theorem c_takeBack0 (n : Nat) (h : DH) (ha : h.1 (7, 0, 0) 1 = 0) : dEx (n + 3) 70 [.inr (7, 0, 0), .inr (0, 0, 0)] h (some (.inl 0), h) := by
  refine dx_70 ?_
  refine Runs.go 3 rfl trivial ?_
  rw [ha]
  refine Runs.ifF (by decide) ?_
  refine Runs.go 1 rfl trivial ?_
  exact Runs.fin rfl (Or.inl rfl)
theorem c_takeBack1 (n : Nat) (h : DH) {b c : Nat} (ha : h.1 (7, 0, 0) 1 = nI (b + 1)) (hb4 : b < 4) (hne : rr h b ≠ 0) (hk : cpk h (rr h b) c) : dEx (n + 3) 70 [.inr (7, 0, 0), .inr (0, 0, 0)] h (some (.inl 1), cfull (up1 h (7, 0, 0) 1 (nI b)) 0 (rr h b) c) := by
  refine dx_70 ?_
  refine Runs.go 3 rfl trivial ?_
  rw [ha]
  refine Runs.ifT ((nIpos (by omega)).mpr (by omega)) ?_
  have e : h.1 (7, 0, 0) 1 - 1 = nI b := by rw [ha, nIm1 (by omega)]; rfl
  have e2 : (up1 h (7, 0, 0) 1 (h.1 (7, 0, 0) 1 - 1)).1 (7, 0, 0) 1 = nI b := by rw [up1_1, if_pos ⟨rfl, rfl⟩, e]
  refine Runs.go 12 rfl ⟨trivial, (by rw [e2]; exact i_in (show b < 5 by omega) (by decide))⟩ ?_
  rw [e2, i_cl (show b < 2 ^ 31 by omega), e]
  refine Runs.calv rfl (c_copy n 0 (rr h b) (up1 h (7, 0, 0) 1 (nI b)) hne (c := c) ?_) ?_
  · obtain ⟨k1, k2, k3, k4⟩ := hk
    refine ⟨?_, k2, fun j hj => ?_, ?_⟩
    · rw [up1_ne _ _ _ (by simp)]; exact k1
    · rw [up1_ne _ _ _ (by simp)]; exact k3 j hj
    · rw [up1_ne _ _ _ (by simp)]; exact k4
  refine Runs.go 1 rfl trivial ?_
  exact Runs.fin rfl (Or.inr rfl)
/-- the oldest one is forgotten -/
def rotk (h : DH) (k : Nat) : DH := (h.1, fun q j => if q = (8, 0, 0) ∧ j < k then h.2 (8, 0, 0) (j + 1) else h.2 q j)
def rotH (h : DH) : DH := up2 (rotk h 4) (8, 0, 0) 4 (rr h 0)
theorem rotk_s (h : DH) (k : Nat) : up2 (rotk h k) (8, 0, 0) k ((rotk h k).2 (8, 0, 0) (k + 1)) = rotk h (k + 1) := by
  refine Prod.ext rfl ?_
  funext q j
  simp only [up2_2, rotk]
  by_cases hq : q = (8, 0, 0)
  · subst hq
    by_cases hj : j = k
    · subst hj
      have : ¬ j + 1 < j := by omega
      simp [this]
    · by_cases hk : j < k
      · rw [if_neg (fun t => hj t.2), if_pos ⟨rfl, hk⟩, if_pos ⟨rfl, by omega⟩]
      · rw [if_neg (fun t => hj t.2), if_neg (fun t => hk t.2), if_neg (fun t => by omega)]
  · simp [hq]
theorem c_forget (n : Nat) (h : DH) : dEx (n + 1) 8 [.inr (7, 0, 0)] h (none, rotH h) := by
  refine dx_8 ?_
  generalize hr : ((none : Option DV), rotH h) = r
  have e0 : h = rotk h 0 := by
    refine Prod.ext rfl ?_
    funext q j
    simp [rotk]
  refine Runs.go 7 rfl ⟨trivial, (by unfold vp_in; decide)⟩ ?_
  have goal : Runs dT_8 (dEx n) (9, [some (.inr (7, 0, 0)), some (.inr (0, rr h 0, 0)), some (.inl (nI 0))], [], rotk h 0) r := by
    refine Runs.loop 4 (fun k => (9, [some (.inr (7, 0, 0)), some (.inr (0, rr h 0, 0)), some (.inl (nI k))], [], rotk h k)) (fun k hk ih => ?_) ?_
    · refine Runs.go 3 rfl trivial ?_
      refine Runs.ifF (i_ge hk (by decide)) ?_
      refine Runs.go 12 rfl ⟨⟨trivial, (by rw [nI_1]; exact i_in (show k + 1 < 5 by omega) (by decide))⟩, (i_in (show k < 5 by omega) (by decide))⟩ ?_
      rw [nI_1, i_cl (show k + 1 < 2 ^ 31 by omega), i_cl (show k < 2 ^ 31 by omega), rotk_s]
      exact ih
    · refine Runs.go 3 rfl trivial ?_
      refine Runs.ifT (Int32.le_refl _) ?_
      refine Runs.go 5 rfl ⟨trivial, (by unfold vp_in; decide)⟩ ?_
      exact Runs.fin (by rw [← hr]; rfl) trivial
  rw [← e0] at goal
  exact goal
def recH (h : DH) (a : Nat) : DH := if a = 4 then rotH h else up1 h (7, 0, 0) 1 (nI (a + 1))
theorem c_recorded (n : Nat) (x : Int32) (h : DH) {a : Nat} (ha : h.1 (7, 0, 0) 1 = nI a) (ha4 : a ≤ 4) : dEx (n + 2) 7 [.inr (7, 0, 0), .inl x] h (some (.inl x), if x < 0 then h else recH h a) := by
  refine dx_7 ?_
  refine Runs.go 2 rfl trivial ?_
  by_cases z : x < 0
  · rw [if_pos z]
    refine Runs.ifF (fun t => absurd z (Int32.not_lt.mpr t)) ?_
    refine Runs.go 1 rfl trivial ?_
    exact Runs.fin rfl trivial
  · rw [if_neg z]
    refine Runs.ifT (Int32.not_lt.mp z) ?_
    refine Runs.go 4 rfl trivial ?_
    rw [ha]
    unfold recH
    by_cases z4 : a = 4
    · rw [if_pos z4]
      subst z4
      refine Runs.ifT (by decide) ?_
      refine Runs.go 1 rfl trivial ?_
      refine Runs.calv rfl (c_forget n h) ?_
      refine Runs.go 1 rfl trivial ?_
      exact Runs.fin rfl trivial
    · rw [if_neg z4]
      refine Runs.ifF (i_ge (show a < 4 by omega) (by decide)) ?_
      refine Runs.go 8 rfl trivial ?_
      refine Runs.fin ?_ trivial
      rw [ha, nI_1]
      rfl
theorem Fr_cfull (h : DH) (i i' c : Nat) : Fr i h (cfull h i i' c) := by
  have F1 : Fr i h (cpo h (1, i, 0) (1, i', 0) 10) := Fr_cpo Fr.rf ⟨by show (1 : Nat) ≤ 5; decide, rfl⟩
  have F3 := (F1.tr (Fr_cpD _ i i' 12)).tr (Fr_cpR _ i i' c)
  unfold cfull
  generalize cpR (cpD (cpo h (1, i, 0) (1, i', 0) 10) i i' 12) i i' c = g at F3 ⊢
  refine F3.tr (fun q hq => ⟨?_, rfl⟩)
  funext k
  have : q ≠ (0, i, 0) := fun e => hq (by rw [e]; exact ⟨by show (0 : Nat) ≤ 5; decide, rfl⟩)
  simp [cpS, this]
theorem c_undo0 (n : Nat) (h : DH) (ha : h.1 (7, 0, 0) 1 = 0) : dEx (n + 4) 69 [.inr (6, 0, 0)] h (some (.inl (-5)), h) := by
  refine dx_69 ?_
  refine Runs.go 4 rfl trivial ?_
  refine Runs.cal rfl (c_takeBack0 n h ha) ?_
  refine Runs.go 1 rfl trivial ?_
  refine Runs.ifT rfl ?_
  refine Runs.go 1 rfl trivial ?_
  exact Runs.fin rfl trivial
def undoH (h : DH) (b c : Nat) : DH := cfull (up1 h (7, 0, 0) 1 (nI b)) 0 (rr h b) c
theorem c_undo1 (n : Nat) (h : DH) {b c : Nat} (ha : h.1 (7, 0, 0) 1 = nI (b + 1)) (hb4 : b < 4) (hne : rr h b ≠ 0) (hk : cpk h (rr h b) c) : dEx (n + 4) 69 [.inr (6, 0, 0)] h (some (.inl (nI b)), undoH h b c) := by
  refine dx_69 ?_
  refine Runs.go 4 rfl trivial ?_
  refine Runs.cal rfl (c_takeBack1 n h ha hb4 hne hk) ?_
  refine Runs.go 1 rfl trivial ?_
  refine Runs.ifF (by decide) ?_
  refine Runs.go 4 rfl trivial ?_
  refine Runs.fin ?_ trivial
  have e : (cfull (up1 h (7, 0, 0) 1 (nI b)) 0 (rr h b) c).1 (7, 0, 0) 1 = nI b := by
    rw [(Fr_cfull _ 0 (rr h b) c).h1 (κ := (7, 0, 0)) (fun t => absurd t.1 (by decide)), up1_1, if_pos ⟨rfl, rfl⟩]
  rw [e]
  rfl
end
section
/-! what a tick of state i leaves as it is -/
def Fq (e i : Nat) (κ : DKey) (k : Nat) : Prop := κ.1 ≤ 5 ∧ κ.2.1 = i ∧ κ.1 ≠ 1 ∧ ¬ (κ.1 = 0 ∧ (k = 4 ∨ k = e))
def Ft (e i : Nat) (h h' : DH) : Prop := (∀ κ k, ¬ Fq e i κ k → h'.1 κ k = h.1 κ k) ∧ ∀ κ : DKey, κ ≠ (3, i, 0) → h'.2 κ = h.2 κ
theorem Fq5 (e i p f : Nat) : Fq e i (5, i, p) f := ⟨Nat.le_refl 5, rfl, (by simp), fun t => absurd t.1 (by simp)⟩
theorem Fq4 (e i d f : Nat) : Fq e i (4, i, d) f := ⟨(by show (4 : Nat) ≤ 5; decide), rfl, (by simp), fun t => absurd t.1 (by simp)⟩
theorem Fq0 (e i : Nat) {f : Nat} (hf : f ≠ 4 ∧ f ≠ e) : Fq e i (0, i, 0) f := ⟨(by show (0 : Nat) ≤ 5; decide), rfl, (by simp), fun t => t.2.elim hf.1 hf.2⟩
section FTL
variable {e i : Nat} {h g : DH}
theorem Ft.rf : Ft e i h h := ⟨fun _ _ _ => rfl, fun _ _ => rfl⟩
theorem Ft.tr {h' : DH} (a : Ft e i h g) (b : Ft e i g h') : Ft e i h h' := ⟨fun κ k hq => (b.1 κ k hq).trans (a.1 κ k hq), fun κ hq => (b.2 κ hq).trans (a.2 κ hq)⟩
theorem Ft.u1 (a : Ft e i h g) {κ : DKey} {k : Nat} {x : Int32} (hq : Fq e i κ k) : Ft e i h (up1 g κ k x) := ⟨fun κ' k' hn => by
  rw [up1_1, if_neg (fun t => hn (by rw [t.1, t.2]; exact hq))]
  exact a.1 κ' k' hn, a.2⟩
theorem Ft.a5 (a : Ft e i h g) {p f : Nat} {x : Int32} : Ft e i h (up1 g (5, i, p) f x) := a.u1 (Fq5 e i p f)
theorem Ft.a4 (a : Ft e i h g) {p f : Nat} {x : Int32} : Ft e i h (up1 g (4, i, p) f x) := a.u1 (Fq4 e i p f)
theorem Ft.a0 (a : Ft e i h g) {f : Nat} {x : Int32} (hf : f ≠ 4 ∧ f ≠ e) : Ft e i h (up1 g (0, i, 0) f x) := a.u1 (Fq0 e i hf)
theorem Ft.b (a : Ft e i h g) {k x : Nat} : Ft e i h (up2 g (3, i, 0) k x) := ⟨a.1, fun κ hq => by
  rw [up2_ne _ _ _ hq]
  exact a.2 κ hq⟩
theorem Ft.sb (a : Ft e i h g) {d : Nat} : Ft e i h (sbH g (4, i, d)) := by
  unfold sbH
  exact a.a4.a4.a4
theorem Ft.fail (a : Ft e i h g) {d : Nat} : Ft e i h (failH g (4, i, d)) := by
  unfold failH
  split
  · exact a.sb.a4.a4
  · exact a.sb.a4.a4.a4
theorem Ft.xclose (he : e = 4 ∨ e = 8 ∨ e = 5 ∨ e = 9) (a : Ft e i h g) {d : Nat} : ∀ k, Ft e i h (close g i d k) := by
  intro k
  induction k with
  | zero => exact a
  | succ k ih =>
    rw [show close g i d (k + 1) = clB (close g i d k) i d k from rfl]
    unfold clB
    split
    · exact ih.a5.a0 (by omega)
    · exact ih
theorem Ft.xgs (he : e = 4 ∨ e = 8 ∨ e = 5 ∨ e = 9) (a : Ft e i h g) (c : Nat) : ∀ k, Ft e i h (gs g i c k).1 := by
  intro k
  induction k with
  | zero => exact a
  | succ k ih =>
    rw [show gs g i c (k + 1) = gsB i c k (gs g i c k) from rfl]
    generalize gs g i c k = q at ih ⊢
    have f1 : Ft e i h (failH (up1 (up1 q.1 (4, i, k) 1 (q.1.1 (4, i, k) 1 - 1)) (0, i, 0) 14 (q.1.1 (0, i, 0) 14 + 1)) (4, i, k)) := (ih.a4.a0 (by omega)).fail
    unfold gsB
    by_cases z1 : q.1.1 (4, i, k) 0 = 1
    · rw [if_pos z1]
      by_cases z2 : 0 < q.1.1 (4, i, k) 1 - 1
      · rw [if_pos z2]; exact ih.a4
      · rw [if_neg z2]
        by_cases z3 : q.1.1 (4, i, k) 5 = 0
        · rw [if_pos z3]; exact ih.a4.a4.a4.a4
        · rw [if_neg z3]
          dsimp only
          split
          · exact Ft.xclose he f1 c
          · exact f1
    · rw [if_neg z1]; exact ih
theorem Ft.xri (he : e = 4 ∨ e = 8 ∨ e = 5 ∨ e = 9) (a : Ft e i h g) (b : Int32) : ∀ k, Ft e i h (ri g i b k) := by
  intro k
  induction k with
  | zero => exact a
  | succ k ih =>
    rw [show ri g i b (k + 1) = riB i b k (ri g i b k) from rfl]
    unfold riB
    split
    · split
      · split
        · exact ih.a4
        · split
          · exact ih.a4
          · exact ih.a4.sb
      · exact ih
    · exact ih
theorem Ft.xsw (he : e = 4 ∨ e = 8 ∨ e = 5 ∨ e = 9) (a : Ft e i h g) : ∀ k, Ft e i h (sw g i k).1 := by
  intro k
  induction k with
  | zero => exact a
  | succ k ih =>
    rw [show sw g i (k + 1) = swB i k (sw g i k) from rfl]
    unfold swB
    split
    · exact ih.b.b
    · exact ih.a4
theorem Ft.xgr (he2 : e = 4 ∨ e = 8 ∨ e = 9) (a : Ft e i h g) : ∀ k, Ft e i h (gr g i k).1 := by
  intro k
  induction k with
  | zero => exact a
  | succ k ih =>
    rw [show gr g i (k + 1) = grB i k (gr g i k) from rfl]
    unfold grB
    split
    · split
      · split
        · exact ih.a4.a5
        · exact (ih.a4.a5.a0 (by omega)).a0 (by omega)
      · exact ih
    · exact ih
theorem Ft.xgrAll (he2 : e = 4 ∨ e = 8 ∨ e = 9) (a : Ft e i h g) (c : Nat) : Ft e i h (grAll g i c) := by
  have he : e = 4 ∨ e = 8 ∨ e = 5 ∨ e = 9 := by omega
  unfold grAll
  exact (Ft.xsw he (Ft.xri he (Ft.xgr he2 a c) _ 12) c).a0 (by omega)
theorem Ft.xbs (he : e = 4 ∨ e = 8 ∨ e = 5 ∨ e = 9) (a : Ft e i h g) (f : Int32) : ∀ k, Ft e i h (bs g i f k).1 := by
  intro k
  induction k with
  | zero => exact a
  | succ k ih =>
    rw [show bs g i f (k + 1) = bsB i f k (bs g i f k) from rfl]
    unfold bsB
    split
    · exact ih.a4.a4.a4.a0 (by omega)
    · exact ih
theorem Ft.xco (he : e = 4 ∨ e = 8 ∨ e = 5 ∨ e = 9) (a : Ft e i h g) : ∀ k, Ft e i h (co g i k) := by
  intro k
  induction k with
  | zero => exact a
  | succ k ih =>
    rw [show co g i (k + 1) = coB i k (co g i k) from rfl]
    unfold coB
    split
    · exact ih
    · exact ih.sb
theorem Ft.xct (he : e = 4 ∨ e = 8 ∨ e = 5 ∨ e = 9) (a : Ft e i h g) : ∀ k, Ft e i h (ct g i k) := by
  intro k
  induction k with
  | zero => exact a
  | succ k ih => exact ih.a5
theorem Ft.xsf (he : e = 4 ∨ e = 8 ∨ e = 5 ∨ e = 9) (a : Ft e i h g) (x : Int32) : Ft e i h (sfB g i x) := by
  have q1 : 11 ≠ 4 ∧ 11 ≠ e := by omega
  have q2 : 10 ≠ 4 ∧ 10 ≠ e := by omega
  have q3 : 12 ≠ 4 ∧ 12 ≠ e := by omega
  unfold sfB
  split
  · split
    · split
      · exact (((a.a0 q1).a0 q2).a0 q3).a0 q1
      · exact a.a0 q1
    · split
      · exact (((a.a0 q1).a0 q2).a0 q3).a0 q1
      · exact a.a0 q1
  · exact a
theorem Ft.xtk (he2 : e = 4 ∨ e = 8 ∨ e = 9) (a : Ft e i h g) (c : Nat) : Ft e i h (tkH g i c) := by
  have he : e = 4 ∨ e = 8 ∨ e = 5 ∨ e = 9 := by omega
  unfold tkH
  split
  · exact Ft.xbs he (Ft.xgrAll he2 (Ft.xgs he a c 12) c) _ 12
  · exact Ft.xct he (Ft.xco he a 12) c
theorem Ft.xtick (a : Ft 4 i h g) (c : Nat) : Ft 4 i h (tick g i c) := by
  have t := Ft.xtk (Or.inl rfl) a c
  unfold tick sfH
  exact Ft.xsf (Or.inl rfl) ((t.a0 (by omega)).a0 (by omega)) _
theorem Ft.xpk (a : Ft 4 i h g) : ∀ k, Ft 4 i h (pk g i k) := by
  intro k
  induction k with
  | zero => exact a
  | succ k ih => exact ih.xtick _
theorem Ft.fr (a : Ft e i h g) : Fr i h g := fun κ hκ => ⟨funext fun k => a.1 κ k (fun t => hκ ⟨t.1, t.2.1⟩), a.2 κ (fun e => hκ (by rw [e]; exact ⟨by show (3 : Nat) ≤ 5; decide, rfl⟩))⟩
end FTL
theorem Fq_4 (e i : Nat) : ¬ Fq e i (0, i, 0) 4 := fun t => t.2.2.2 ⟨rfl, Or.inl rfl⟩
theorem Fq_8 (i : Nat) : ¬ Fq 8 i (0, i, 0) 8 := fun t => t.2.2.2 ⟨rfl, Or.inr rfl⟩
theorem tick_8 (h : DH) (i c : Nat) : (tick h i c).1 (0, i, 0) 8 = h.1 (0, i, 0) 8 + 1 := by
  have t := (Ft.xtk (e := 8) (i := i) (Or.inr (Or.inl rfl)) (Ft.rf (h := h)) c).1 (0, i, 0) 8 (Fq_8 i)
  unfold tick sfH
  generalize tkH h i c = g at t ⊢
  have u := (Ft.xsf (e := 8) (i := i) (Or.inr (Or.inl rfl)) (((Ft.rf (h := up1 g (0, i, 0) 8 (g.1 (0, i, 0) 8 + 1)))).a0 (f := 9) (x := mx ((up1 g (0, i, 0) 8 (g.1 (0, i, 0) 8 + 1)).1 (0, i, 0) 9) (sumN (ccur (up1 g (0, i, 0) 8 (g.1 (0, i, 0) 8 + 1)) i) 12)) (by omega)) (sumN (ccur (up1 g (0, i, 0) 8 (g.1 (0, i, 0) 8 + 1)) i) 12)).1 (0, i, 0) 8 (Fq_8 i)
  rw [u, up1_1, if_pos ⟨rfl, rfl⟩, t]
theorem pk_8 (h : DH) (i : Nat) : ∀ k, (pk h i k).1 (0, i, 0) 8 = h.1 (0, i, 0) 8 + nI k := by
  intro k
  induction k with
  | zero => exact (Int32.add_zero _).symm
  | succ k ih =>
    rw [show pk h i (k + 1) = tick (pk h i k) i ((pk h i k).1 (0, i, 0) 3).toNatClampNeg from rfl, tick_8, ih, Int32.add_assoc, nI_1]
theorem Fq_5 (i : Nat) : ¬ Fq 5 i (0, i, 0) 5 := fun t => t.2.2.2 ⟨rfl, Or.inr rfl⟩
theorem gr_5 (h : DH) (i : Nat) : ∀ k, ∃ m, m ≤ k ∧ (gr h i k).1.1 (0, i, 0) 5 = h.1 (0, i, 0) 5 + nI m := by
  intro k
  induction k with
  | zero => exact ⟨0, Nat.le_refl _, (Int32.add_zero _).symm⟩
  | succ k ih =>
    obtain ⟨m, hm, e⟩ := ih
    rw [show gr h i (k + 1) = grB i k (gr h i k) from rfl]
    unfold grB
    split
    · split
      · split
        · refine ⟨m, by omega, ?_⟩
          show (up1 (up1 _ _ _ _) _ _ _).1 _ _ = _
          rw [up1_ne _ _ _ (by simp), up1_ne _ _ _ (by simp)]
          exact e
        · refine ⟨m + 1, by omega, ?_⟩
          show (up1 (up1 (up1 (up1 _ _ _ _) _ _ _) _ _ _) _ _ _).1 _ _ = _
          rw [up1_1, if_neg (fun t => absurd t.2 (by decide)), up1_1, if_pos ⟨rfl, rfl⟩, e, Int32.add_assoc, nI_1]
      · exact ⟨m, by omega, e⟩
    · exact ⟨m, by omega, e⟩
theorem tick_5 (h : DH) (i c : Nat) : ∃ m, m ≤ c ∧ (tick h i c).1 (0, i, 0) 5 = h.1 (0, i, 0) 5 + nI m := by
  have he : 5 = 4 ∨ 5 = 8 ∨ 5 = 5 ∨ 5 = 9 := Or.inr (Or.inr (Or.inl rfl))
  have t : ∃ m, m ≤ c ∧ (tkH h i c).1 (0, i, 0) 5 = h.1 (0, i, 0) 5 + nI m := by
    unfold tkH
    split
    · have t1 := (Ft.xgs (e := 5) (i := i) he (Ft.rf (h := h)) c 12).1 (0, i, 0) 5 (Fq_5 i)
      have t4 := (Ft.xbs (e := 5) (i := i) he (Ft.rf (h := grAll (gs h i c 12).1 i c)) (gs h i c 12).2 12).1 (0, i, 0) 5 (Fq_5 i)
      generalize (gs h i c 12).1 = g at t1 t4 ⊢
      obtain ⟨m, hm, t2⟩ := gr_5 g i c
      refine ⟨m, hm, ?_⟩
      rw [t4]
      unfold grAll
      have t3 := ((Ft.xsw (e := 5) (i := i) he (Ft.xri he (Ft.rf (h := (gr g i c).1)) (gr g i c).2 12) c).a0 (f := 3) (x := nI (sw (ri (gr g i c).1 i (gr g i c).2 12) i c).2) (by omega)).1 (0, i, 0) 5 (Fq_5 i)
      rw [t3, t2, t1]
    · refine ⟨0, by omega, ?_⟩
      rw [nI_0, Int32.add_zero]
      exact (Ft.xct (e := 5) (i := i) he (Ft.xco he (Ft.rf (h := h)) 12) c).1 (0, i, 0) 5 (Fq_5 i)
  obtain ⟨m, hm, t⟩ := t
  refine ⟨m, hm, ?_⟩
  unfold tick sfH
  generalize tkH h i c = g at t ⊢
  have u := (Ft.xsf (e := 5) (i := i) he (((Ft.rf (h := g)).a0 (f := 8) (x := g.1 (0, i, 0) 8 + 1) (by omega)).a0 (f := 9) (x := mx ((up1 g (0, i, 0) 8 (g.1 (0, i, 0) 8 + 1)).1 (0, i, 0) 9) (sumN (ccur (up1 g (0, i, 0) 8 (g.1 (0, i, 0) 8 + 1)) i) 12)) (by omega)) (sumN (ccur (up1 g (0, i, 0) 8 (g.1 (0, i, 0) 8 + 1)) i) 12)).1 (0, i, 0) 5 (Fq_5 i)
  rw [u, t]
theorem Fq_9 (i : Nat) : ¬ Fq 9 i (0, i, 0) 9 := fun t => t.2.2.2 ⟨rfl, Or.inr rfl⟩
theorem ccur_cg {h h' : DH} {i : Nat} (e1 : h'.1 (1, i, 0) = h.1 (1, i, 0)) (e4 : ∀ d, h'.1 (4, i, d) = h.1 (4, i, d)) : ccur h' i = ccur h i := by
  funext j
  unfold ccur
  rw [e1, e4]
theorem sfB_o (g : DH) (i : Nat) (x : Int32) (κ : DKey) (hκ : κ ≠ (0, i, 0)) : (sfB g i x).1 κ = g.1 κ := by
  unfold sfB
  split
  · split
    · split
      · rw [up1_ne _ _ _ hκ, up1_ne _ _ _ hκ, up1_ne _ _ _ hκ, up1_ne _ _ _ hκ]
      · rw [up1_ne _ _ _ hκ]
    · split
      · rw [up1_ne _ _ _ hκ, up1_ne _ _ _ hκ, up1_ne _ _ _ hκ, up1_ne _ _ _ hκ]
      · rw [up1_ne _ _ _ hκ]
  · rfl
theorem tick_9 (h : DH) (i c : Nat) : (tick h i c).1 (0, i, 0) 9 = mx (h.1 (0, i, 0) 9) (sumN (ccur (tick h i c) i) 12) := by
  have t := (Ft.xtk (e := 9) (i := i) (Or.inr (Or.inr rfl)) (Ft.rf (h := h)) c).1 (0, i, 0) 9 (Fq_9 i)
  have ec : ccur (tick h i c) i = ccur (up1 (tkH h i c) (0, i, 0) 8 ((tkH h i c).1 (0, i, 0) 8 + 1)) i := by
    unfold tick sfH
    refine (ccur_cg (sfB_o _ _ _ _ (by simp)) (fun d => sfB_o _ _ _ _ (by simp))).trans (ccur_cg (up1_ne _ _ _ (by simp)) (fun d => up1_ne _ _ _ (by simp)))
  rw [ec]
  unfold tick sfH
  generalize tkH h i c = g at t ⊢
  have u := (Ft.xsf (e := 9) (i := i) (Or.inr (Or.inr (Or.inr rfl))) (Ft.rf (h := up1 (up1 g (0, i, 0) 8 (g.1 (0, i, 0) 8 + 1)) (0, i, 0) 9 (mx ((up1 g (0, i, 0) 8 (g.1 (0, i, 0) 8 + 1)).1 (0, i, 0) 9) (sumN (ccur (up1 g (0, i, 0) 8 (g.1 (0, i, 0) 8 + 1)) i) 12)))) (sumN (ccur (up1 g (0, i, 0) 8 (g.1 (0, i, 0) 8 + 1)) i) 12)).1 (0, i, 0) 9 (Fq_9 i)
  rw [u, up1_1, if_pos ⟨rfl, rfl⟩, up1_1, if_neg (fun t => absurd t.2 (by decide)), t]
/-! a state of the class with all that is known of it -/
def AInv (s : Nat → Int32) : Prop := ∃ a, a ≤ 500 ∧ s 12 = nI a
def TInv (s : Nat → Int32) : Prop := ∃ t, t ≤ 99999 ∧ s 10 = nI t
def VInv (s : Nat → Int32) : Prop := ∀ w, w < 10 → wip (s w) (dcst 1 w) (dcst 2 w)
def XR (h : DH) (i : Nat) (s : Nat → Int32) : Prop := (∃ c, SR h i c s) ∧ HInv s ∧ AInv s ∧ TInv s ∧ VInv s
/-- the rows of the reads of a state are apart -/
def WF (h : DH) (i : Nat) : Prop := pmi h i ∧ ∀ p, p < 30 → h.2 (3, i, 0) p < 30
theorem SR.wf {h : DH} {i c : Nat} {s : Nat → Int32} (hs : SR h i c s) : WF h i := ⟨hs.2.2.2.2.2.1, hs.2.2.2.2.2.2.1⟩
/-- the parts of state j are the same -/
def Eq5 (j : Nat) (h h' : DH) : Prop := ∀ k m, k ≤ 5 → h'.1 (k, j, m) = h.1 (k, j, m) ∧ h'.2 (k, j, m) = h.2 (k, j, m)
theorem Fr.e5 {h h' : DH} {i j : Nat} (F : Fr i h h') (hne : j ≠ i) : Eq5 j h h' := fun k m _ => ⟨F.o hne k m, F.o2 hne k m⟩
theorem SR.fr {h h' : DH} {j c : Nat} {s : Nat → Int32} (hs : SR h j c s) (F : Eq5 j h h') : SR h' j c s := by
  obtain ⟨h1, h2, h3, h4, h5, h6, h7, h8, h9, h10, h11⟩ := hs
  have e0 := (F 0 0 (by decide)).1
  have e1 := (F 1 0 (by decide)).1
  have e4 := fun m => (F 4 m (by decide)).1
  have e5 := fun m => (F 5 m (by decide)).1
  have e3 := (F 3 0 (by decide)).2
  refine ⟨h1.cg e1 (fun k _ _ => by rw [e0]) (fun d _ f _ => by rw [e4]) (fun _ _ => rfl), by rw [e0]; exact h2, h3, h4, ?_, ?_, ?_, fun d hd => by rw [e4]; exact h8 d hd, h9, h10, h11⟩
  · rw [← h5]
    unfold LC
    refine List.map_congr_left (fun k _ => ?_)
    simp only [rdk, e5, e3]
  · unfold pmi
    rw [e3]
    exact h6
  · rw [e3]
    exact h7
theorem XR.fr {h h' : DH} {j : Nat} {s : Nat → Int32} (hs : XR h j s) (F : Eq5 j h h') : XR h' j s := by
  obtain ⟨⟨c, h1⟩, h2⟩ := hs
  exact ⟨⟨c, h1.fr F⟩, h2⟩
theorem WF.fr {h h' : DH} {j : Nat} (hs : WF h j) (F : Eq5 j h h') : WF h' j := by
  unfold WF pmi
  rw [(F 3 0 (by decide)).2]
  exact hs
theorem XR.row {h : DH} {i : Nat} {s s' : Nat → Int32} (hs : XR h i s) (e : ∀ k, k < 244 → s' k = s k) : XR h i s' := by
  obtain ⟨⟨c, h1⟩, h2, h3, h4, h5⟩ := hs
  refine ⟨⟨c, h1.row e⟩, ?_, ?_, ?_, fun w hw => by rw [e w (by omega)]; exact h5 w hw⟩
  · unfold HInv
    rw [e 15 (by decide), e 16 (by decide)]
    exact h2
  · unfold AInv
    rw [e 12 (by decide)]
    exact h3
  · unfold TInv
    rw [e 10 (by decide)]
    exact h4
theorem SR.cp_ok {h : DH} {i c : Nat} {s : Nat → Int32} (hs : SR h i c s) : cpk h i c := by
  obtain ⟨h1, h2, h3, h4, h5, h6, h7, h8, h9, h10, h11⟩ := hs
  refine ⟨h2, h3, fun j hj => ?_, ?_⟩
  · rw [h1.2.2 j hj 5 (by decide)]
    exact (h10 j hj).2.2.2.2.2
  · rw [h1.2.1 10 (by decide) (by decide)]
    exact h9.2.2.2.2
/-! a copy of a state -/
theorem cpo_1 (h : DH) (κ κ' : DKey) (n : Nat) (q : DKey) (k : Nat) : (cpo h κ κ' n).1 q k = if q = κ ∧ k < n then h.1 κ' k else h.1 q k := rfl
theorem cpD_o (h : DH) (i i' : Nat) (q : DKey) (hq : q.1 ≠ 4) : ∀ n, (cpD h i i' n).1 q = h.1 q := by
  intro n
  induction n with
  | zero => rfl
  | succ n ih =>
    funext k
    rw [show cpD h i i' (n + 1) = cpo (cpD h i i' n) (4, i, n) (4, i', n) 7 from rfl, cpo_1, if_neg (fun t => hq (by rw [t.1])), ih]
theorem cpD_at (h : DH) {i i' : Nat} (hne : i' ≠ i) : ∀ n d, d < n → ∀ f, f < 7 → (cpD h i i' n).1 (4, i, d) f = h.1 (4, i', d) f := by
  intro n
  induction n with
  | zero => intro d hd; omega
  | succ n ih =>
    intro d hd f hf
    rw [show cpD h i i' (n + 1) = cpo (cpD h i i' n) (4, i, n) (4, i', n) 7 from rfl, cpo_1]
    by_cases e : d = n
    · subst e
      rw [if_pos ⟨rfl, hf⟩]
      exact congrFun ((Fr_cpD h i i' d).o hne 4 d) f
    · rw [if_neg (fun t => e (by simpa using t.1))]
      exact ih d (by omega) f hf
theorem cpR_o (h : DH) (i i' : Nat) (q : DKey) (hq : q.1 ≠ 5) : ∀ n, (cpR h i i' n).1 q = h.1 q := by
  intro n
  induction n with
  | zero => rfl
  | succ n ih =>
    funext k
    rw [show cpR h i i' (n + 1) = cpo (cpR h i i' n) (5, i, h.2 (3, i, 0) n) (5, i', h.2 (3, i', 0) n) 5 from rfl, cpo_1, if_neg (fun t => hq (by rw [t.1])), ih]
theorem cpR_at (h : DH) {i i' : Nat} (hne : i' ≠ i) (hp : pmi h i) : ∀ n, n ≤ 30 → ∀ k, k < n → ∀ f, f < 5 → (cpR h i i' n).1 (5, i, h.2 (3, i, 0) k) f = h.1 (5, i', h.2 (3, i', 0) k) f := by
  intro n
  induction n with
  | zero => intro _ k hk; omega
  | succ n ih =>
    intro hn k hk f hf
    rw [show cpR h i i' (n + 1) = cpo (cpR h i i' n) (5, i, h.2 (3, i, 0) n) (5, i', h.2 (3, i', 0) n) 5 from rfl, cpo_1]
    by_cases e : k = n
    · subst e
      rw [if_pos ⟨rfl, hf⟩]
      exact congrFun ((Fr_cpR h i i' k).o hne 5 _) f
    · rw [if_neg (fun t => e (hp k n (by omega) (by omega) (by simpa using t.1)))]
      exact ih (by omega) k (by omega) f hf
theorem cpS_1 (h : DH) (κ κ' : DKey) (q : DKey) (k : Nat) : (cpS h κ κ').1 q k = if q = κ ∧ 3 ≤ k ∧ k < 15 then h.1 κ' k else h.1 q k := rfl
theorem SR.copy {h : DH} {i i' c : Nat} {s : Nat → Int32} (hs : SR h i' c s) (hne : i' ≠ i) (hw : WF h i) : SR (cfull h i i' c) i c s := by
  obtain ⟨h1, h2, h3, h4, h5, h6, h7, h8, h9, h10, h11⟩ := hs
  have F := Fr_cfull h i i' c
  have e2 : (cfull h i i' c).2 = h.2 := by
    show (cpR (cpD (cpo h (1, i, 0) (1, i', 0) 10) i i' 12) i i' c).2 = h.2
    rw [cpR_2, cpD_2]
    rfl
  have g1 : ∀ n, n < 10 → (cfull h i i' c).1 (1, i, 0) n = h.1 (1, i', 0) n := by
    intro n hn
    unfold cfull
    rw [cpS_1, if_neg (fun t => by simp at t), cpR_o _ _ _ _ (by simp), cpD_o _ _ _ _ (by simp), cpo_1, if_pos ⟨rfl, hn⟩]
  have g4 : ∀ d, d < 12 → ∀ f, f < 7 → (cfull h i i' c).1 (4, i, d) f = h.1 (4, i', d) f := by
    intro d hd f hf
    unfold cfull
    rw [cpS_1, if_neg (fun t => by simp at t), cpR_o _ _ _ _ (by simp), cpD_at _ hne 12 d hd f hf, cpo_1, if_neg (fun t => by simp at t)]
  have g0 : ∀ k, 3 ≤ k → k < 15 → (cfull h i i' c).1 (0, i, 0) k = h.1 (0, i', 0) k := by
    intro k hk hk2
    unfold cfull
    rw [cpS_1, if_pos ⟨rfl, hk, hk2⟩, cpR_o _ _ _ _ (by simp), cpD_o _ _ _ _ (by simp), cpo_1, if_neg (fun t => by simp at t)]
  have g5 : ∀ k, k < c → ∀ f, f < 5 → (cfull h i i' c).1 (5, i, h.2 (3, i, 0) k) f = h.1 (5, i', h.2 (3, i', 0) k) f := by
    intro k hk f hf
    unfold cfull
    rw [cpS_1, if_neg (fun t => by simp at t)]
    have e3 : (cpD (cpo h (1, i, 0) (1, i', 0) 10) i i' 12).2 = h.2 := by rw [cpD_2]; rfl
    have := cpR_at (cpD (cpo h (1, i, 0) (1, i', 0) 10) i i' 12) hne (by unfold pmi; rw [e3]; exact hw.1) c h3 k hk f hf
    rw [e3] at this
    rw [this, cpD_o _ _ _ _ (by simp), cpo_1, if_neg (fun t => by simp at t)]
  refine ⟨⟨fun n hn => ?_, fun k hk hk2 => ?_, fun d hd f hf => ?_⟩, ?_, h3, h4, ?_, ?_, ?_, fun e he => ?_, h9, h10, h11⟩
  · rw [g1 n hn]; exact h1.1 n hn
  · rw [g0 k (by omega) hk2]; exact h1.2.1 k hk hk2
  · rw [g4 d hd f (by omega)]; exact h1.2.2 d hd f hf
  · rw [g0 3 (by decide) (by decide)]; exact h2
  · rw [← h5]
    unfold LC
    refine List.map_congr_left (fun k hk => ?_)
    have hk := List.mem_range.mp hk
    simp only [rdk]
    rw [e2, g5 k hk 0 (by decide), g5 k hk 1 (by decide), g5 k hk 2 (by decide), g5 k hk 3 (by decide), g5 k hk 4 (by decide)]
  · unfold pmi
    rw [e2]
    exact hw.1
  · rw [e2]
    exact hw.2
  · rw [g4 e he 6 (by decide)]; exact h8 e he
theorem cfull_2 (h : DH) (i i' c : Nat) : (cfull h i i' c).2 = h.2 := by
  show (cpR (cpD (cpo h (1, i, 0) (1, i', 0) 10) i i' 12) i i' c).2 = h.2
  rw [cpR_2, cpD_2]
  rfl
theorem XR.copy {h : DH} {i i' c : Nat} {s : Nat → Int32} (hs : XR h i' s) (hc : SR h i' c s) (hne : i' ≠ i) (hw : WF h i) : XR (cfull h i i' c) i s := ⟨⟨c, hc.copy hne hw⟩, hs.2⟩
end
section
/-! the class: acts, whole -/
def actH (g : DH) (a : Nat) (v : Int32) : DH := if v < 0 then g else recH g a
theorem c_act_set (n : Nat) (y x : Int32) (h : DH) {a c : Nat} (ha : h.1 (7, 0, 0) 1 = nI a) (ha4 : a ≤ 4) (hne : rr h a ≠ 0) (hk : cpk h 0 c) {v : Int32} {g : DH} (hop : dEx (n + 5) 5 [.inr (0, 0, 0), .inl y, .inl x] (cfull h (rr h a) 0 c) (some (.inl v), g)) (hg : g.1 (7, 0, 0) 1 = nI a) : dEx (n + 6) 0 [.inr (6, 0, 0), .inl y, .inl x] h (some (.inl v), actH g a v) := by
  refine dx_0 ?_
  refine Runs.go 4 rfl trivial ?_
  refine Runs.calv rfl (c_prepare (n + 2) h ha ha4 hne hk) ?_
  refine Runs.go 6 rfl trivial ?_
  refine Runs.cal rfl hop ?_
  refine Runs.cal rfl (c_recorded (n + 3) v g hg ha4) ?_
  exact Runs.fin rfl trivial
theorem c_act_read (n : Nat) (y x : Int32) (h : DH) {a c : Nat} (ha : h.1 (7, 0, 0) 1 = nI a) (ha4 : a ≤ 4) (hne : rr h a ≠ 0) (hk : cpk h 0 c) {v : Int32} {g : DH} (hop : dEx (n + 5) 10 [.inr (0, 0, 0), .inl y, .inl x] (cfull h (rr h a) 0 c) (some (.inl v), g)) (hg : g.1 (7, 0, 0) 1 = nI a) : dEx (n + 6) 9 [.inr (6, 0, 0), .inl y, .inl x] h (some (.inl v), actH g a v) := by
  refine dx_9 ?_
  refine Runs.go 4 rfl trivial ?_
  refine Runs.calv rfl (c_prepare (n + 2) h ha ha4 hne hk) ?_
  refine Runs.go 6 rfl trivial ?_
  refine Runs.cal rfl hop ?_
  refine Runs.cal rfl (c_recorded (n + 3) v g hg ha4) ?_
  exact Runs.fin rfl trivial
theorem c_act_drop (n : Nat) (y : Int32) (h : DH) {a c : Nat} (ha : h.1 (7, 0, 0) 1 = nI a) (ha4 : a ≤ 4) (hne : rr h a ≠ 0) (hk : cpk h 0 c) {v : Int32} {g : DH} (hop : dEx (n + 5) 13 [.inr (0, 0, 0), .inl y] (cfull h (rr h a) 0 c) (some (.inl v), g)) (hg : g.1 (7, 0, 0) 1 = nI a) : dEx (n + 6) 12 [.inr (6, 0, 0), .inl y] h (some (.inl v), actH g a v) := by
  refine dx_12 ?_
  refine Runs.go 4 rfl trivial ?_
  refine Runs.calv rfl (c_prepare (n + 2) h ha ha4 hne hk) ?_
  refine Runs.go 5 rfl trivial ?_
  refine Runs.cal rfl hop ?_
  refine Runs.cal rfl (c_recorded (n + 3) v g hg ha4) ?_
  exact Runs.fin rfl trivial
theorem c_act_fail (n : Nat) (y : Int32) (h : DH) {a c : Nat} (ha : h.1 (7, 0, 0) 1 = nI a) (ha4 : a ≤ 4) (hne : rr h a ≠ 0) (hk : cpk h 0 c) {v : Int32} {g : DH} (hop : dEx (n + 5) 17 [.inr (0, 0, 0), .inl y] (cfull h (rr h a) 0 c) (some (.inl v), g)) (hg : g.1 (7, 0, 0) 1 = nI a) : dEx (n + 6) 16 [.inr (6, 0, 0), .inl y] h (some (.inl v), actH g a v) := by
  refine dx_16 ?_
  refine Runs.go 4 rfl trivial ?_
  refine Runs.calv rfl (c_prepare (n + 2) h ha ha4 hne hk) ?_
  refine Runs.go 5 rfl trivial ?_
  refine Runs.cal rfl hop ?_
  refine Runs.cal rfl (c_recorded (n + 3) v g hg ha4) ?_
  exact Runs.fin rfl trivial
theorem c_act_replace (n : Nat) (y : Int32) (h : DH) {a c : Nat} (ha : h.1 (7, 0, 0) 1 = nI a) (ha4 : a ≤ 4) (hne : rr h a ≠ 0) (hk : cpk h 0 c) {v : Int32} {g : DH} (hop : dEx (n + 5) 20 [.inr (0, 0, 0), .inl y] (cfull h (rr h a) 0 c) (some (.inl v), g)) (hg : g.1 (7, 0, 0) 1 = nI a) : dEx (n + 6) 19 [.inr (6, 0, 0), .inl y] h (some (.inl v), actH g a v) := by
  refine dx_19 ?_
  refine Runs.go 4 rfl trivial ?_
  refine Runs.calv rfl (c_prepare (n + 2) h ha ha4 hne hk) ?_
  refine Runs.go 5 rfl trivial ?_
  refine Runs.cal rfl hop ?_
  refine Runs.cal rfl (c_recorded (n + 3) v g hg ha4) ?_
  exact Runs.fin rfl trivial
theorem c_act_fuse (n : Nat) (h : DH) {a c : Nat} (ha : h.1 (7, 0, 0) 1 = nI a) (ha4 : a ≤ 4) (hne : rr h a ≠ 0) (hk : cpk h 0 c) {v : Int32} {g : DH} (hop : dEx (n + 5) 24 [.inr (0, 0, 0)] (cfull h (rr h a) 0 c) (some (.inl v), g)) (hg : g.1 (7, 0, 0) 1 = nI a) : dEx (n + 6) 23 [.inr (6, 0, 0)] h (some (.inl v), actH g a v) := by
  refine dx_23 ?_
  refine Runs.go 4 rfl trivial ?_
  refine Runs.calv rfl (c_prepare (n + 2) h ha ha4 hne hk) ?_
  refine Runs.go 4 rfl trivial ?_
  refine Runs.cal rfl hop ?_
  refine Runs.cal rfl (c_recorded (n + 3) v g hg ha4) ?_
  exact Runs.fin rfl trivial
theorem c_act_run (n : Nat) (y : Int32) (h : DH) {a c : Nat} (ha : h.1 (7, 0, 0) 1 = nI a) (ha4 : a ≤ 4) (hne : rr h a ≠ 0) (hk : cpk h 0 c) {v : Int32} {g : DH} (hop : dEx (n + 5) 28 [.inr (0, 0, 0), .inl y] (cfull h (rr h a) 0 c) (some (.inl v), g)) (hg : g.1 (7, 0, 0) 1 = nI a) : dEx (n + 6) 27 [.inr (6, 0, 0), .inl y] h (some (.inl v), actH g a v) := by
  refine dx_27 ?_
  refine Runs.go 4 rfl trivial ?_
  refine Runs.calv rfl (c_prepare (n + 2) h ha ha4 hne hk) ?_
  refine Runs.go 5 rfl trivial ?_
  refine Runs.cal rfl hop ?_
  refine Runs.cal rfl (c_recorded (n + 3) v g hg ha4) ?_
  exact Runs.fin rfl trivial
end
section
/-! the whole relation of the class and the reference -/
def bf (h : DH) (j : Nat) : Nat → Int32 := fun k => h.1 (17, 0, 0) (244 * j + k)
def KR (h : DH) : Prop := WF h 2 ∧ ((h.1 (6, 0, 0) 3 = 0 ∧ h.1 (14, 0, 0) 5 = 0) ∨ (h.1 (6, 0, 0) 3 = 1 ∧ h.1 (14, 0, 0) 5 = 1 ∧ XR h 2 (h.1 (18, 0, 0))))
def HR (h : DH) (a : Nat) : Prop := a ≤ 4 ∧ h.1 (7, 0, 0) 1 = nI a ∧ h.1 (14, 0, 0) 3 = nI a ∧ (∀ j, j < 5 → 3 ≤ rr h j ∧ rr h j < 8 ∧ WF h (rr h j)) ∧ (∀ j k, j < 5 → k < 5 → rr h j = rr h k → j = k) ∧ ∀ j, j < a → XR h (rr h j) (bf h j)
def TR (h : DH) (t : Nat) : Prop := t ≤ 80 ∧ h.1 (9, 0, 0) 1 = nI t ∧ h.1 (14, 0, 0) 7 = nI t ∧ ∀ k, k < t → h.1 (10, 0, 0) k = h.1 (19, 0, 0) k ∧ ∃ u, u < 65536 ∧ h.1 (19, 0, 0) k = nI u
def RR (h : DH) : Prop := XR h 0 (h.1 (15, 0, 0)) ∧ WF h 1 ∧ KR h ∧ (∃ a, HR h a) ∧ ∃ t, TR h t
/-- what stands apart from the states is the same -/
def Eo (h h' : DH) (κ : DKey) : Prop := h'.1 κ = h.1 κ ∧ h'.2 κ = h.2 κ
theorem Fr.eo {h h' : DH} {i : Nat} (F : Fr i h h') {κ : DKey} (hκ : 5 < κ.1) : Eo h h' κ := F κ (fun t => absurd t.1 (by omega))
theorem KR.cg {h h' : DH} (hs : KR h) (e6 : h'.1 (6, 0, 0) = h.1 (6, 0, 0)) (e14 : h'.1 (14, 0, 0) 5 = h.1 (14, 0, 0) 5) (e18 : h'.1 (18, 0, 0) = h.1 (18, 0, 0)) (F : Eq5 2 h h') : KR h' := by
  obtain ⟨w, k⟩ := hs
  refine ⟨w.fr F, ?_⟩
  rw [e6, e14, e18]
  rcases k with k | ⟨k1, k2, k3⟩
  · exact Or.inl k
  · exact Or.inr ⟨k1, k2, k3.fr F⟩
theorem HR.cg {h h' : DH} {a : Nat} (hs : HR h a) (e7 : h'.1 (7, 0, 0) = h.1 (7, 0, 0)) (e14 : h'.1 (14, 0, 0) 3 = h.1 (14, 0, 0) 3) (e8 : h'.2 (8, 0, 0) = h.2 (8, 0, 0)) (e17 : h'.1 (17, 0, 0) = h.1 (17, 0, 0)) (F : ∀ j, 3 ≤ j → Eq5 j h h') : HR h' a := by
  obtain ⟨h1, h2, h3, h4, h5, h6⟩ := hs
  have er : ∀ j, rr h' j = rr h j := fun j => congrFun e8 j
  have eb : ∀ j, bf h' j = bf h j := fun j => by unfold bf; rw [e17]
  refine ⟨h1, by rw [e7]; exact h2, by rw [e14]; exact h3, fun j hj => ?_, fun j k hj hk e => ?_, fun j hj => ?_⟩
  · rw [er]
    obtain ⟨a1, a2, a3⟩ := h4 j hj
    exact ⟨a1, a2, a3.fr (F _ a1)⟩
  · rw [er, er] at e
    exact h5 j k hj hk e
  · rw [er, eb]
    exact (h6 j hj).fr (F _ (h4 j (by omega)).1)
theorem TR.cg {h h' : DH} {t : Nat} (hs : TR h t) (e9 : h'.1 (9, 0, 0) 1 = h.1 (9, 0, 0) 1) (e14 : h'.1 (14, 0, 0) 7 = h.1 (14, 0, 0) 7) (e10 : h'.1 (10, 0, 0) = h.1 (10, 0, 0)) (e19 : h'.1 (19, 0, 0) = h.1 (19, 0, 0)) : TR h' t := by
  unfold TR
  rw [e9, e14, e10, e19]
  exact hs
/-- after a change of state 0 or 1 or of the reference's row -/
theorem RR.of {h h' : DH} (hs : RR h) (F6 : h'.1 (6, 0, 0) = h.1 (6, 0, 0)) (F7 : h'.1 (7, 0, 0) = h.1 (7, 0, 0)) (F8 : h'.2 (8, 0, 0) = h.2 (8, 0, 0)) (F9 : h'.1 (9, 0, 0) 1 = h.1 (9, 0, 0) 1) (F10 : h'.1 (10, 0, 0) = h.1 (10, 0, 0)) (F14 : ∀ k, k = 3 ∨ k = 5 ∨ k = 7 → h'.1 (14, 0, 0) k = h.1 (14, 0, 0) k) (F17 : h'.1 (17, 0, 0) = h.1 (17, 0, 0)) (F18 : h'.1 (18, 0, 0) = h.1 (18, 0, 0)) (F19 : h'.1 (19, 0, 0) = h.1 (19, 0, 0)) (F : ∀ j, 2 ≤ j → Eq5 j h h') (w : WF h' 1) (x : XR h' 0 (h'.1 (15, 0, 0))) : RR h' := by
  obtain ⟨h1, h2, h3, ⟨a, h4⟩, t, h5⟩ := hs
  exact ⟨x, w, h3.cg F6 (F14 5 (by decide)) F18 (F 2 (by decide)), ⟨a, h4.cg F7 (F14 3 (by decide)) F8 F17 (fun j hj => F j (by omega))⟩, t, h5.cg F9 (F14 7 (by decide)) F10 F19⟩
/-- an act: the state before is recorded on both sides -/
theorem knA_le {a : Nat} (h : a ≤ 4) : knA a ≤ 4 := by
  unfold knA
  split <;> omega
theorem recH_1 (h : DH) (a : Nat) {κ : DKey} (hκ : κ ≠ (7, 0, 0)) : (recH h a).1 κ = h.1 κ := by
  unfold recH
  split
  · rfl
  · exact up1_ne _ _ _ hκ
theorem recH_2 (h : DH) (a : Nat) {κ : DKey} (hκ : κ ≠ (8, 0, 0)) : (recH h a).2 κ = h.2 κ := by
  unfold recH
  split
  · funext j
    show (if κ = (8, 0, 0) ∧ j = 4 then _ else if κ = (8, 0, 0) ∧ j < 4 then _ else _) = _
    rw [if_neg (fun t => hκ t.1), if_neg (fun t => hκ t.1)]
  · rfl
theorem know_1 (h : DH) (a : Nat) (s : Nat → Int32) {κ : DKey} (h1 : κ ≠ (14, 0, 0)) (h2 : κ ≠ (17, 0, 0)) : (know h a s).1 κ = h.1 κ := by
  unfold know
  rw [up1_ne _ _ _ h1, ub_n _ _ h2]
theorem know_14 (h : DH) (a : Nat) (s : Nat → Int32) {k : Nat} (hk : k ≠ 3) : (know h a s).1 (14, 0, 0) k = h.1 (14, 0, 0) k := by
  unfold know
  rw [up1_1, if_neg (fun t => hk t.2), ub_n _ _ (by simp)]
theorem know_2 (h : DH) (a : Nat) (s : Nat → Int32) : (know h a s).2 = h.2 := rfl
theorem recH_e5 (h : DH) (a j : Nat) : Eq5 j h (recH h a) := fun k m hk => ⟨recH_1 h a (fun e => by simp at e; omega), recH_2 h a (fun e => by simp at e; omega)⟩
theorem know_e5 (h : DH) (a : Nat) (s : Nat → Int32) (j : Nat) : Eq5 j h (know h a s) := fun k m hk => ⟨know_1 h a s (fun e => by simp at e; omega) (fun e => by simp at e; omega), rfl⟩
theorem Eq5.tr {h h' h'' : DH} {j : Nat} (a : Eq5 j h h') (b : Eq5 j h' h'') : Eq5 j h h'' := fun k m hk => ⟨(b k m hk).1.trans (a k m hk).1, (b k m hk).2.trans (a k m hk).2⟩
theorem hp_1 (h : DH) (s f : Nat → Int32) {κ : DKey} (h1 : κ ≠ (15, 0, 0)) (h2 : κ ≠ (20, 0, 0)) : (hp h s f).1 κ = h.1 κ := hp_ne h s f h1 h2
theorem hp_e5 (h : DH) (s f : Nat → Int32) (j : Nat) : Eq5 j h (hp h s f) := fun k m hk => ⟨hp_ne h s f (fun e => by simp at e; omega) (fun e => by simp at e; omega), rfl⟩
theorem rr_rec4 (h : DH) {j : Nat} : rr (recH h 4) j = if j < 4 then rr h (j + 1) else if j = 4 then rr h 0 else rr h j := by
  unfold recH rr
  rw [if_pos rfl]
  show (if ((8, 0, 0) : DKey) = (8, 0, 0) ∧ j = 4 then _ else if ((8, 0, 0) : DKey) = (8, 0, 0) ∧ j < 4 then _ else _) = _
  by_cases z : j = 4
  · rw [if_pos ⟨rfl, z⟩, if_neg (by omega), if_pos z]
    rfl
  · by_cases z2 : j < 4
    · rw [if_neg (fun t => z t.2), if_pos ⟨rfl, z2⟩, if_pos z2]
    · rw [if_neg (fun t => z t.2), if_neg (fun t => z2 t.2), if_neg z2, if_neg z]
theorem rr_rec (h : DH) {a : Nat} (ha : a ≠ 4) (j : Nat) : rr (recH h a) j = rr h j := by
  unfold recH
  rw [if_neg ha]
  rfl
theorem bf_know (h : DH) (a : Nat) (s : Nat → Int32) (j k : Nat) : bf (know h a s) j k = knB (h.1 (17, 0, 0)) a s (244 * j + k) := by
  unfold bf know
  rw [up1_ne _ _ _ (by simp), ub_s]
theorem HR.rec {h : DH} {a : Nat} {s : Nat → Int32} (hs : HR h a) (hx : XR h (rr h a) s) : HR (know (recH h a) a s) (knA a) := by
  obtain ⟨h1, h2, h3, h4, h5, h6⟩ := hs
  have F : ∀ j, Eq5 j h (know (recH h a) a s) := fun j => (recH_e5 h a j).tr (know_e5 _ a s j)
  have e3 : (know (recH h a) a s).1 (14, 0, 0) 3 = nI (knA a) := by
    unfold know
    rw [up1_1, if_pos ⟨rfl, rfl⟩]
  have e7 : (know (recH h a) a s).1 (7, 0, 0) = (recH h a).1 (7, 0, 0) := know_1 _ _ _ (by simp) (by simp)
  have er : ∀ j, rr (know (recH h a) a s) j = rr (recH h a) j := fun j => rfl
  have eb : ∀ j k, bf (know (recH h a) a s) j k = knB (h.1 (17, 0, 0)) a s (244 * j + k) := fun j k => by
    rw [bf_know, recH_1 h a (by simp)]
  by_cases z : a = 4
  · subst z
    refine ⟨by decide, ?_, e3, fun j hj => ?_, fun j k hj hk e => ?_, fun j hj => ?_⟩
    · rw [e7]
      exact h2
    · rw [er, rr_rec4]
      by_cases z4 : j < 4
      · rw [if_pos z4]
        obtain ⟨a1, a2, a3⟩ := h4 (j + 1) (by omega)
        exact ⟨a1, a2, a3.fr (F _)⟩
      · rw [if_neg z4, if_pos (by omega)]
        obtain ⟨a1, a2, a3⟩ := h4 0 (by omega)
        exact ⟨a1, a2, a3.fr (F _)⟩
    · rw [er, er, rr_rec4, rr_rec4] at e
      by_cases zj : j < 4
      · rw [if_pos zj] at e
        by_cases zk : k < 4
        · rw [if_pos zk] at e
          have := h5 _ _ (by omega) (by omega) e
          omega
        · rw [if_neg zk, if_pos (by omega)] at e
          have := h5 _ _ (by omega) (by omega) e
          omega
      · rw [if_neg zj, if_pos (by omega)] at e
        by_cases zk : k < 4
        · rw [if_pos zk] at e
          have := h5 _ _ (by omega) (by omega) e
          omega
        · omega
    · have hj : j < 4 := hj
      rw [er, rr_rec4, if_pos hj]
      have eb4 : ∀ k, k < 244 → bf (know (recH h 4) 4 s) j k = if j = 3 then s k else bf h (j + 1) k := fun k hk => by
        rw [eb]
        unfold knB cp5
        rw [if_pos rfl]
        by_cases z3 : j = 3
        · rw [if_pos (by omega), if_pos z3]
          exact congrArg s (by omega)
        · rw [if_neg (by omega), if_pos (by omega), if_neg z3]
          exact congrArg (h.1 (17, 0, 0)) (by omega)
      by_cases z3 : j = 3
      · subst z3
        exact (hx.fr (F _)).row (fun k hk => by rw [eb4 k hk, if_pos rfl])
      · exact ((h6 (j + 1) (by omega)).fr (F _)).row (fun k hk => by rw [eb4 k hk, if_neg z3])
  · have hk4 : knA a = a + 1 := by unfold knA; rw [if_neg z]
    rw [hk4] at e3 ⊢
    refine ⟨by omega, ?_, e3, fun j hj => ?_, fun j k hj hk e => ?_, fun j hj => ?_⟩
    · rw [e7]
      unfold recH
      rw [if_neg z, up1_1, if_pos ⟨rfl, rfl⟩]
    · rw [er, rr_rec h z]
      obtain ⟨a1, a2, a3⟩ := h4 j hj
      exact ⟨a1, a2, a3.fr (F _)⟩
    · rw [er, er, rr_rec h z, rr_rec h z] at e
      exact h5 j k hj hk e
    · rw [er, rr_rec h z]
      have eb4 : ∀ k, k < 244 → bf (know (recH h a) a s) j k = if j = a then s k else bf h j k := fun k hk => by
        rw [eb]
        unfold knB cp5
        rw [if_neg z]
        by_cases z3 : j = a
        · rw [if_pos (by omega), if_pos z3]
          exact congrArg s (by omega)
        · rw [if_neg (by omega), if_neg z3]
          rfl
      by_cases z3 : j = a
      · subst z3
        exact (hx.fr (F _)).row (fun k hk => by rw [eb4 k hk, if_pos rfl])
      · exact ((h6 j (by omega)).fr (F _)).row (fun k hk => by rw [eb4 k hk, if_neg z3])
/-- the state prepared -/
theorem RR.prep {h : DH} (hs : RR h) {a c : Nat} (ha : HR h a) (hc : SR h 0 c (h.1 (15, 0, 0))) : RR (cfull h (rr h a) 0 c) ∧ HR (cfull h (rr h a) 0 c) a ∧ XR (cfull h (rr h a) 0 c) (rr h a) (h.1 (15, 0, 0)) ∧ SR (cfull h (rr h a) 0 c) 0 c (h.1 (15, 0, 0)) := by
  obtain ⟨x, w, k, ⟨a', ha'⟩, t, ht⟩ := hs
  have hq := ha.2.2.2.1 a (by have := ha.1; omega)
  have F := Fr_cfull h (rr h a) 0 c
  have G := fun (κ : DKey) (hκ : 5 < κ.1) => F.eo hκ
  have E : ∀ j, j ≠ rr h a → Eq5 j h (cfull h (rr h a) 0 c) := fun j hj => F.e5 hj
  have X : XR (cfull h (rr h a) 0 c) (rr h a) (h.1 (15, 0, 0)) := x.copy hc (by omega) hq.2.2
  have er : ∀ j, rr (cfull h (rr h a) 0 c) j = rr h j := fun j => congrFun (G (8, 0, 0) (by simp)).2 j
  have W : ∀ j, WF h j → WF (cfull h (rr h a) 0 c) j := fun j hj => by
    unfold WF pmi
    rw [cfull_2]
    exact hj
  have HA : HR (cfull h (rr h a) 0 c) a := by
    obtain ⟨h1, h2, h3, h4, h5, h6⟩ := ha
    refine ⟨h1, by rw [(G (7, 0, 0) (by simp)).1]; exact h2, by rw [(G (14, 0, 0) (by simp)).1]; exact h3, fun j hj => ?_, fun j k hj hk e => ?_, fun j hj => ?_⟩
    · rw [er]
      obtain ⟨a1, a2, a3⟩ := h4 j hj
      exact ⟨a1, a2, W _ a3⟩
    · rw [er, er] at e
      exact h5 j k hj hk e
    · rw [er, show bf (cfull h (rr h a) 0 c) j = bf h j from by unfold bf; rw [(G (17, 0, 0) (by simp)).1]]
      refine (h6 j hj).fr (E _ (fun e => ?_))
      have := h5 _ _ (by omega) (by omega) e
      omega
  refine ⟨⟨?_, W 1 w, k.cg (G (6, 0, 0) (by simp)).1 (by rw [(G (14, 0, 0) (by simp)).1]) (G (18, 0, 0) (by simp)).1 (E 2 (by omega)), ⟨a, HA⟩, t, ht.cg (by rw [(G (9, 0, 0) (by simp)).1]) (by rw [(G (14, 0, 0) (by simp)).1]) (G (10, 0, 0) (by simp)).1 (G (19, 0, 0) (by simp)).1⟩, HA, X, hc.fr (E 0 (by omega))⟩
  rw [(G (15, 0, 0) (by simp)).1]
  exact x.fr (E 0 (by omega))
/-- an act is done on both sides -/
theorem RR.done {g g' : DH} (hs : RR g) {a : Nat} {s s' f : Nat → Int32} (ha : HR g a) (hx : XR g (rr g a) s) (F : Fr 0 g g') (hn : XR g' 0 s') : RR (hp (know (recH g' a) a s) s' f) := by
  obtain ⟨x, w, k, _, t, ht⟩ := hs
  have hq := ha.2.2.2.1
  have G := fun (κ : DKey) (hκ : 5 < κ.1) => F.eo hκ
  have E : ∀ j, j ≠ 0 → Eq5 j g g' := fun j hj => F.e5 hj
  have ha' : HR g' a := ha.cg (G (7, 0, 0) (by simp)).1 (by rw [(G (14, 0, 0) (by simp)).1]) (G (8, 0, 0) (by simp)).2 (G (17, 0, 0) (by simp)).1 (fun j hj => E j (by omega))
  have er : rr g' a = rr g a := congrFun (G (8, 0, 0) (by simp)).2 a
  have HH := ha'.rec (s := s) (by rw [er]; exact hx.fr (E _ (by have := hq a (by have := ha.1; omega); omega)))
  have EE : ∀ j, Eq5 j g' (hp (know (recH g' a) a s) s' f) := fun j => ((recH_e5 g' a j).tr (know_e5 _ a s j)).tr (hp_e5 _ s' f j)
  have o : ∀ κ : DKey, κ ≠ (15, 0, 0) → κ ≠ (20, 0, 0) → (hp (know (recH g' a) a s) s' f).1 κ = (know (recH g' a) a s).1 κ := fun κ h1 h2 => hp_1 _ _ _ h1 h2
  have o2 : ∀ κ : DKey, κ ≠ (15, 0, 0) → κ ≠ (20, 0, 0) → κ ≠ (14, 0, 0) → κ ≠ (17, 0, 0) → κ ≠ (7, 0, 0) → 5 < κ.1 → (hp (know (recH g' a) a s) s' f).1 κ = g.1 κ := fun κ h1 h2 h3 h4 h5 h6 => by
    rw [o κ h1 h2, know_1 _ _ _ h3 h4, recH_1 _ _ h5, (G κ h6).1]
  have o14 : ∀ j, j ≠ 3 → (hp (know (recH g' a) a s) s' f).1 (14, 0, 0) j = g.1 (14, 0, 0) j := fun j hj => by
    rw [o _ (by simp) (by simp), know_14 _ _ _ hj, recH_1 _ _ (by simp), (G _ (by simp)).1]
  refine ⟨?_, (w.fr (E 1 (by decide))).fr (EE 1), k.cg (o2 _ (by simp) (by simp) (by simp) (by simp) (by simp) (by simp)) (o14 5 (by decide)) (o2 _ (by simp) (by simp) (by simp) (by simp) (by simp) (by simp)) ((E 2 (by decide)).tr (EE 2)), ⟨knA a, HH.cg (o _ (by simp) (by simp)) (by rw [o _ (by simp) (by simp)]) rfl (o _ (by simp) (by simp)) (fun j _ => hp_e5 _ s' f j)⟩, t, ht.cg (by rw [o2 _ (by simp) (by simp) (by simp) (by simp) (by simp) (by simp)]) (o14 7 (by decide)) (o2 _ (by simp) (by simp) (by simp) (by simp) (by simp) (by simp)) (o2 _ (by simp) (by simp) (by simp) (by simp) (by simp) (by simp))⟩
  rw [hp_s]
  exact hn.fr (EE 0)
end
section
/-! acts on a state, on both sides: read, drop, fail, replace -/
theorem SR.al {h : DH} {i c : Nat} {s : Nat → Int32} (hs : SR h i c s) : ∀ r ∈ LM s c, 0 < lf r := by
  intro r hr
  obtain ⟨e, _, _, _, l, t, l1, l2, l3, l4, _⟩ := hs.2.2.2.2.2.2.2.2.2.2 r hr
  rw [l4]
  exact (nIpos (by omega)).mpr (by omega)
theorem SR.rd {h : DH} {i c k : Nat} {s : Nat → Int32} (hs : SR h i c s) (hk : k < c) : rdk h i k = rmk s k := by
  have a := LC_at (h := h) (i := i) hk
  rw [hs.2.2.2.2.1, LM_at hk] at a
  exact (Option.some.inj a).symm
theorem SR.plc {h : DH} {i c : Nat} {s : Nat → Int32} (hs : SR h i c s) (x : Int32) : cplc h i c x = mplc s c x := fp_congr (fun k hk => by
  have a := congrArg (fun r : R5 => r.1) (hs.rd hk)
  have a : h.1 (5, i, h.2 (3, i, 0) k) 0 = s (oR k 0) := a
  rw [a])
theorem cpk_r5 {h h' : DH} {i k : Nat} (e2 : h'.2 (3, i, 0) k = h.2 (3, i, 0) k) (e : ∀ f, f < 5 → h'.1 (5, i, h.2 (3, i, 0) k) f = h.1 (5, i, h.2 (3, i, 0) k) f) : rdk h' i k = rdk h i k := by
  simp only [rdk]
  rw [e2, e 0 (by decide), e 1 (by decide), e 2 (by decide), e 3 (by decide), e 4 (by decide)]
/-- a read is asked for -/
theorem LC_add {h : DH} {i c d : Nat} {t : Int32} (hp : pmi h i) (hc : c < 30) : LC (caddH h i c d t) i (c + 1) = LC h i c ++ [(h.1 (0, i, 0) 4, nI d, t, t, h.1 (0, i, 0) 8)] := by
  rw [LC_succ]
  refine congr (congrArg _ (LC_cg (fun k hk => cpk_r5 rfl (fun f hf => ?_)))) ?_
  · have hne : ((5, i, h.2 (3, i, 0) k) : DKey) ≠ (5, i, h.2 (3, i, 0) c) := fun e => by
      have := hp k c (by omega) hc (by simpa using e)
      omega
    unfold caddH
    rw [up1_ne _ _ _ (by simp), up1_ne _ _ _ (by simp), up1_ne _ _ _ (by simp), up1_ne _ _ _ hne, up1_ne _ _ _ hne, up1_ne _ _ _ hne, up1_ne _ _ _ hne, up1_ne _ _ _ hne]
  · refine congrArg (fun r => [r]) ?_
    unfold rdk caddH
    simp [up1_1, up1_2]
theorem LM_succ (s : Nat → Int32) (c : Nat) : LM s (c + 1) = LM s c ++ [rmk s c] := by
  unfold LM
  rw [List.range_succ, List.map_append]
  rfl
theorem mask_lo {s : Nat → Int32} {c d : Nat} {t : Int32} {k : Nat} (hk : k < 93) (h12 : k ≠ 12) : mask s c d t k = s k := by
  unfold mask
  rw [upd_n _ _ h12, upd_n _ _ (by omega), upd_n _ _ (by unfold oR; omega), upd_n _ _ (by unfold oR; omega), upd_n _ _ (by unfold oR; omega), upd_n _ _ (by unfold oR; omega), upd_n _ _ (by unfold oR; omega)]
theorem mask_R (s : Nat → Int32) (c d : Nat) (t : Int32) (k w : Nat) (hw : w < 5) : mask s c d t (oR k w) = if k = c then (if w = 0 then s 12 else if w = 1 then nI d else if w = 2 then t else if w = 3 then t else s 10) else s (oR k w) := by
  unfold mask
  rw [upd_n _ _ (oR_lt _ _ _ (by decide)), upd_n _ _ (oR_lt _ _ _ (by decide))]
  by_cases z : k = c
  · subst z
    rw [if_pos rfl]
    have h5 : w = 0 ∨ w = 1 ∨ w = 2 ∨ w = 3 ∨ w = 4 := by omega
    rcases h5 with rfl | rfl | rfl | rfl | rfl <;> simp [upd, oR]
  · rw [if_neg z]
    have e : ∀ w', w' < 5 → oR k w ≠ oR c w' := fun w' hw' => by unfold oR; omega
    rw [upd_n _ _ (e 4 (by decide)), upd_n _ _ (e 3 (by decide)), upd_n _ _ (e 2 (by decide)), upd_n _ _ (e 1 (by decide)), upd_n _ _ (e 0 (by decide))]
theorem LM_add (s : Nat → Int32) (c d : Nat) (t : Int32) : LM (mask s c d t) (c + 1) = LM s c ++ [(s 12, nI d, t, t, s 10)] := by
  rw [LM_succ]
  refine congr (congrArg _ ?_) ?_
  · unfold LM
    refine List.map_congr_left (fun k hk => ?_)
    have hk := List.mem_range.mp hk
    have hn : k ≠ c := by omega
    rw [rmk_eq, rmk_eq, mask_R _ _ _ _ _ _ (by decide), mask_R _ _ _ _ _ _ (by decide), mask_R _ _ _ _ _ _ (by decide), mask_R _ _ _ _ _ _ (by decide), mask_R _ _ _ _ _ _ (by decide), if_neg hn, if_neg hn, if_neg hn, if_neg hn, if_neg hn]
  · refine congrArg (fun r => [r]) ?_
    rw [rmk_eq, mask_R _ _ _ _ _ _ (by decide), mask_R _ _ _ _ _ _ (by decide), mask_R _ _ _ _ _ _ (by decide), mask_R _ _ _ _ _ _ (by decide), mask_R _ _ _ _ _ _ (by decide)]
    simp
theorem wip150 {t : Int32} (h : wip t 1 50) : ∃ k, 1 ≤ k ∧ k ≤ 50 ∧ t = nI k := wip_nI2 (a := 1) (b := 50) (by decide) (by decide) h
theorem cntD_one (x : Int32) (r : R5) : cntD x [r] = if dk5 r = x then 1 else 0 := by
  rw [cntD_cons]
  rfl
theorem read_add {h : DH} {i c d : Nat} {s : Nat → Int32} {t : Int32} (hs : SR h i c s) (hd : d < 12) (hc : c < 30) (ht : wip t 1 50) (h3 : ¬ s (oD d 0) = 3) : SR (caddH h i c d t) i (c + 1) (mask s c d t) := by
  obtain ⟨h1, h2, h30, h4, h5, h6, h7, h8, h9, h10, h11⟩ := hs
  have r4 := h1.2.1 4 (by decide) (by decide)
  have r4 : h.1 (0, i, 0) 4 = s 12 := r4
  have r8 := h1.2.1 8 (by decide) (by decide)
  have r8 : h.1 (0, i, 0) 8 = s 10 := r8
  have eL := LM_add s c d t
  have e0 : ∀ e w, e < 12 → w < 6 → mask s c d t (oD e w) = s (oD e w) := fun e w he hw => mask_lo (by unfold oD; omega) (by unfold oD; omega)
  refine ⟨?_, ?_, by omega, ?_, ?_, h6, h7, fun e he => ?_, ?_, fun e he => (h10 e he).cg (fun w hw => e0 e w he hw), fun r hr => ?_⟩
  · unfold caddH mask
    rw [r4]
    exact RB.d6 (RB.sc (k := 4) (RB.mh (RB.mh (RB.mh (RB.mh (RB.mh (RB.mh (RB.c3 (RB.rd (RB.rd (RB.rd (RB.rd (RB.rd h1 _ _ _) _ _ _) _ _ _) _ _ _) _ _ _) _) (by unfold oR; omega) _) (by unfold oR; omega) _) (by unfold oR; omega) _) (by unfold oR; omega) _) (by unfold oR; omega) _) (by omega) _) (by decide) (by decide) _) d _
  · unfold caddH
    rw [up1_ne _ _ _ (by simp), up1_1, if_neg (fun u => absurd u.2 (by decide)), up1_1, if_pos ⟨rfl, rfl⟩]
  · unfold mask
    rw [upd_n _ _ (by decide), upd_s]
  · rw [LC_add h6 hc, eL, h5, r4, r8]
  · rw [eL, cntD_app, cntD_one, ← nI_add]
    unfold caddH
    rw [up1_1]
    by_cases z : e = d
    · subst z
      rw [if_pos ⟨rfl, rfl⟩, h8 e he]
      rw [if_pos (show dk5 (s 12, nI e, t, t, s 10) = nI e from rfl)]
      rfl
    · rw [if_neg (fun u => z (by simpa using u.1)), up1_ne _ _ _ (by simp), up1_ne _ _ _ (by simp), up1_ne _ _ _ (by simp), up1_ne _ _ _ (by simp), up1_ne _ _ _ (by simp), up1_ne _ _ _ (by simp), up1_ne _ _ _ (by simp), h8 e he]
      rw [if_neg (show ¬ dk5 (s 12, nI d, t, t, s 10) = nI e from fun u => z (nI_inj (by omega) (by omega) u).symm), nI_0, Int32.add_zero]
  · unfold NInv
    rw [mask_lo (by decide) (by decide), mask_lo (by decide) (by decide), mask_lo (by decide) (by decide), mask_lo (by decide) (by decide), mask_lo (by decide) (by decide)]
    exact h9
  · rw [eL] at hr
    rcases List.mem_append.mp hr with hr | hr
    · refine (h11 r hr).cg (fun e he _ => ?_)
      rw [e0 e 0 he (by decide)]
      exact ⟨(em_ne _ 3).symm, id⟩
    · rw [List.mem_singleton.mp hr]
      obtain ⟨k, k1, k2, rfl⟩ := wip150 ht
      exact ⟨d, hd, rfl, by rw [e0 d 0 hd (by decide)]; exact h3, k, k, k1, Nat.le_refl _, k2, rfl, rfl, fun _ => rfl⟩
/-- a read is taken back -/
theorem live_set : ∀ (L : List R5) (p : Nat) (r : R5), (∀ x ∈ L, 0 < lf x) → p < L.length → ¬ 0 < lf r → live (L.set p r) = L.eraseIdx p := by
  intro L
  induction L with
  | nil => intro p r _ hp; exact absurd hp (by simp)
  | cons a L ih =>
    intro p r ha hp hr
    have hL : live L = L := List.filter_eq_self.mpr (fun x hx => by simpa using ha x (List.mem_cons_of_mem _ hx))
    cases p with
    | zero =>
      show live (r :: L) = L
      rw [live_cons, if_neg hr, hL]
    | succ p =>
      show live (a :: L.set p r) = a :: L.eraseIdx p
      rw [live_cons, if_pos (ha a List.mem_cons_self), ih p r (fun x hx => ha x (List.mem_cons_of_mem _ hx)) (by simpa using hp) hr]
def r50 (r : R5) : R5 := (r.1, r.2.1, r.2.2.1, 0, r.2.2.2.2)
theorem LC_drp {h : DH} {i c p : Nat} (hpm : pmi h i) (hc : c ≤ 30) (hp : p < c) : LC (drpG h i p) i c = (LC h i c).set p (r50 (rdk h i p)) := by
  refine List.ext_getElem? fun k => ?_
  by_cases hk : k < c
  · rw [LC_at hk, List.getElem?_set, LC_len]
    unfold drpG
    by_cases e : p = k
    · subst e
      rw [if_pos rfl, if_pos hk, rdk_me]
      rfl
    · rw [if_neg e, LC_at hk, rdk_at 3 _ hpm (by omega) (by omega) (fun t => e t.symm)]
  · rw [List.getElem?_eq_none (by rw [LC_len]; omega), List.getElem?_eq_none (by rw [List.length_set, LC_len]; omega)]
theorem set_map (L : List R5) (p : Nat) (r : R5) (h : (L[p]?).map dk5 = some (dk5 r)) : (L.set p r).map dk5 = L.map dk5 := by
  refine List.ext_getElem? fun k => ?_
  rw [List.getElem?_map, List.getElem?_map, List.getElem?_set]
  by_cases e : p = k
  · subst e
    rw [if_pos rfl, h]
    by_cases hk : p < L.length
    · rw [if_pos hk]; rfl
    · rw [List.getElem?_eq_none (by omega)] at h
      cases h
  · rw [if_neg e]
theorem drop_SR {h : DH} {i c p : Nat} {s : Nat → Int32} (hs : SR h i c s) (hp : p < c) : (sw (drpG h i p) i c).2 = c - 1 ∧ SR (drpH h i c p) i (c - 1) (mrm s p c) := by
  have hal := hs.al
  have hro := hs.rok
  have hrd := hs.rd hp
  obtain ⟨h1, h2, h30, h4, h5, h6, h7, h8, h9, h10, h11⟩ := hs
  have P : pmi (drpG h i p) i := h6
  have ro : rok (drpG h i p) i c := by
    intro k hk
    obtain ⟨d, hd, e⟩ := hro k hk
    refine ⟨d, hd, ?_⟩
    unfold drpG
    rw [up1_1, if_neg (fun t => absurd t.2 (by decide))]
    exact e
  obtain ⟨x1, x2, x3, x4, x5, x6, x7, x8, x9, x10, x11⟩ := SW_all h30 P ro c (Nat.le_refl c)
  have eS := LC_drp h6 h30 hp
  have eE : live (LC (drpG h i p) i c) = (LM s c).eraseIdx p := by
    rw [eS, h5]
    exact live_set _ _ _ hal (by rw [LM_len]; exact hp) (show ¬ (0 : Int32) < 0 by decide)
  have em : (sw (drpG h i p) i c).2 = c - 1 := by
    have := congrArg List.length x8
    rw [LC_len, eE, List.length_eraseIdx, LM_len, if_pos hp] at this
    exact this
  refine ⟨em, ?_⟩
  have eR := LM_rm hp h30 (s := s)
  have e0 : ∀ e w, e < 12 → w < 6 → mrm s p c (oD e w) = s (oD e w) := fun e w he hw => mrm_lo (by unfold oD; omega)
  have eM : (LC (drpG h i p) i c).map dk5 = (LM s c).map dk5 := by
    rw [eS, h5]
    refine set_map _ _ _ ?_
    rw [LM_at hp, hrd]
    rfl
  unfold drpH
  rw [em] at x8 ⊢
  generalize sw (drpG h i p) i c = Q at x2 x3 x4 x5 x6 x8 x9 x10 x11 ⊢
  obtain ⟨G, m⟩ := Q
  dsimp only at x2 x3 x4 x5 x6 x8 x9 x10 x11 ⊢
  have eG : ∀ κ : DKey, κ.1 ≠ 5 → (drpG h i p).1 κ = h.1 κ := fun κ hκ => by unfold drpG; rw [up1_ne _ _ _ (fun e => hκ (by rw [e]))]
  refine ⟨⟨fun n hn => ?_, fun k hk hk2 => ?_, fun e he f hf => ?_⟩, by rw [up1_1, if_pos ⟨rfl, rfl⟩], by omega, mrm_93 _ _ _, ?_, x9, fun q hq => x11 h7 q hq, fun e he => ?_, ?_, fun e he => (h10 e he).cg (fun w hw => e0 e w he hw), fun r hr => ?_⟩
  · rw [up1_ne _ _ _ (by simp), x3, eG _ (by simp), mrm_lo (by omega)]
    exact h1.1 n hn
  · rw [up1_1, if_neg (fun t => by omega), x4, eG _ (by simp), mrm_lo (by have := ms_lt k; omega)]
    exact h1.2.1 k hk hk2
  · rw [up1_ne _ _ _ (by simp), x5 e f (by omega), eG _ (by simp), mrm_lo (by have := mf_lt hf; unfold oD; omega)]
    exact h1.2.2 e he f hf
  · rw [LC_o (show (0 : Nat) ≠ 5 by decide), x8, eE, eR]
  · rw [up1_ne _ _ _ (by simp), eR]
    have y := x6 e he
    rw [eG _ (by simp), h8 e he, ← cntD_map eM (nI e), cnt_two, eE, ← nI_add] at y
    exact i_canc y
  · unfold NInv
    rw [mrm_lo (by decide), mrm_lo (by decide), mrm_lo (by decide), mrm_lo (by decide), mrm_lo (by decide)]
    exact h9
  · rw [eR] at hr
    refine (h11 r (List.mem_of_mem_eraseIdx hr)).cg (fun e he _ => ?_)
    rw [e0 e 0 he (by decide)]
    exact ⟨(em_ne _ 3).symm, id⟩
/-- a fault is planned -/
theorem fail_SR {h : DH} {i c d : Nat} {s : Nat → Int32} (hs : SR h i c s) (hd : d < 12) : SR (up1 h (4, i, d) 5 1) i c (upd s (oD d 4) 1) ∧ cplans (up1 h (4, i, d) 5 1) i = mpl (upd s (oD d 4) 1) := by
  have hsr : SR (up1 h (4, i, d) 5 1) i c (upd s (oD d 4) 1) := by
    obtain ⟨h1, h2, h30, h4, h5, h6, h7, h8, h9, h10, h11⟩ := hs
    have lo : ∀ k, k < 21 → upd s (oD d 4) 1 k = s k := fun k hk => upd_n _ _ (by unfold oD; omega)
    refine ⟨h1.dk hd (show 5 < 6 by decide) 1, by rw [up1_ne _ _ _ (by simp)]; exact h2, h30, by rw [upd_n _ _ (by unfold oD; omega)]; exact h4, by rw [LC_40, LM_oD hd (by decide), h5], h6, h7, fun e he => ?_, ?_, fun e he => ?_, fun r hr => ?_⟩
    · rw [up1_1, if_neg (fun t => absurd t.2 (by decide)), LM_oD hd (by decide)]
      exact h8 e he
    · unfold NInv
      rw [lo 0 (by decide), lo 5 (by decide), lo 6 (by decide), lo 7 (by decide), lo 15 (by decide)]
      exact h9
    · obtain ⟨y1, y2, y3, y4, y5, y6⟩ := h10 e he
      have k : ∀ w, w < 6 → w ≠ 4 → upd s (oD d 4) 1 (oD e w) = s (oD e w) := fun w hw h4 => upd_n _ _ (oD_ne hw (by decide) (Or.inr h4))
      unfold DInv
      rw [k 0 (by decide) (by decide), k 1 (by decide) (by decide), k 2 (by decide) (by decide), k 3 (by decide) (by decide)]
      refine ⟨y1, y2, y3, y4, y5, ?_⟩
      by_cases z : e = d
      · subst z
        rw [upd_s]
        exact Or.inr rfl
      · rw [upd_n _ _ (oD_ne (by decide) (by decide) (Or.inl z))]
        exact y6
    · rw [LM_oD hd (by decide)] at hr
      refine (h11 r hr).cg (fun e he _ => ?_)
      rw [upd_n _ _ (oD_ne (by decide) (by decide) (Or.inr (by decide)))]
      exact ⟨(em_ne _ 3).symm, id⟩
  refine ⟨hsr, ?_⟩
  obtain ⟨h1, h2, h30, h4, h5, h6, h7, h8, h9, h10, h11⟩ := hsr
  refine sumN_cg 12 (fun e he => ?_)
  rw [h1.2.2 e he 5 (by decide), show mf 5 = 4 from rfl]
  rcases (h10 e he).2.2.2.2.2 with z | z
  · rw [z, if_pos rfl]
  · rw [z, if_neg (by decide)]
/-- a disk is replaced -/
def rsD (x : Int32) (r : R5) : R5 := if dk5 r = x then rsR r else r
theorem crp_o (h : DH) (i d : Nat) (κ : DKey) (hκ : κ.1 ≠ 5) : ∀ k, (crp h i d k).1 κ = (crp h i d 0).1 κ := by
  intro k
  induction k with
  | zero => rfl
  | succ k ih =>
    rw [show crp h i d (k + 1) = crpB (crp h i d k) i d k from rfl]
    unfold crpB
    split
    · rw [up1_ne _ _ _ (fun e => hκ (by rw [e]))]
      exact ih
    · exact ih
theorem crp_r {h : DH} {i d : Nat} (hp : pmi h i) : ∀ k, k ≤ 30 → ∀ j, j < 30 → rdk (crp h i d k) i j = if j < k then rsD (nI d) (rdk h i j) else rdk h i j := by
  intro k
  induction k with
  | zero =>
    intro _ j _
    rw [if_neg (by omega)]
    refine cpk_r5 rfl (fun f _ => ?_)
    show (up1 (up1 (up1 (sbH h (4, i, d)) (4, i, d) 2 0) (4, i, d) 4 0) (4, i, d) 5 0).1 _ f = _
    rw [up1_ne _ _ _ (by simp), up1_ne _ _ _ (by simp), up1_ne _ _ _ (by simp), sb_on (by simp)]
  | succ k ih =>
    intro hk j hj
    have c2 := crp_2 h i d k
    have ih := ih (by omega)
    have P : pmi (crp h i d k) i := fun a b ha hb hab => hp a b ha hb (by rw [c2] at hab; exact hab)
    rw [show crp h i d (k + 1) = crpB (crp h i d k) i d k from rfl]
    have ihk := ih k (by omega)
    rw [if_neg (Nat.lt_irrefl _)] at ihk
    have e1 : (crp h i d k).1 (5, i, (crp h i d k).2 (3, i, 0) k) 1 = dk5 (rdk h i k) := congrArg dk5 ihk
    unfold crpB
    rw [e1]
    by_cases zd : dk5 (rdk h i k) = nI d
    · rw [if_pos zd]
      by_cases z : j = k
      · subst z
        rw [rdk_me, if_pos (by omega), ihk]
        have : (crp h i d j).1 (5, i, (crp h i d j).2 (3, i, 0) j) 2 = (rdk h i j).2.2.1 := congrArg (fun r : R5 => r.2.2.1) ihk
        rw [this]
        unfold rsD
        rw [if_pos zd]
        rfl
      · rw [rdk_at 3 _ P (by omega) hj z, ih j hj]
        by_cases z2 : j < k
        · rw [if_pos z2, if_pos (by omega)]
        · rw [if_neg z2, if_neg (by omega)]
    · rw [if_neg zd, ih j hj]
      by_cases z : j = k
      · subst z
        rw [if_neg (Nat.lt_irrefl _), if_pos (by omega)]
        unfold rsD
        rw [if_neg zd]
      · by_cases z2 : j < k
        · rw [if_pos z2, if_pos (by omega)]
        · rw [if_neg z2, if_neg (by omega)]
theorem mz_at (s : Nat → Int32) (d k : Nat) : mz s d k = if oD d 0 ≤ k ∧ k < oD d 0 + 6 then 0 else s k := rfl
theorem mz_D (s : Nat → Int32) {d e w : Nat} (hw : w < 6) : mz s d (oD e w) = if e = d then 0 else s (oD e w) := by
  rw [mz_at]
  by_cases z : e = d
  · rw [if_pos z, if_pos (by subst z; unfold oD; omega)]
  · rw [if_neg z, if_neg (by unfold oD; omega)]
theorem mz_o (s : Nat → Int32) {d k : Nat} (hd : d < 12) (hk : k < 21 ∨ 93 ≤ k) : mz s d k = s k := by
  rw [mz_at, if_neg (by unfold oD; omega)]
theorem crp_D (h : DH) (i d e f : Nat) (k : Nat) : (crp h i d k).1 (4, i, e) f = if e = d ∧ f < 6 then 0 else h.1 (4, i, e) f := by
  rw [crp_o _ _ _ _ (by simp)]
  show (up1 (up1 (up1 (sbH h (4, i, d)) (4, i, d) 2 0) (4, i, d) 4 0) (4, i, d) 5 0).1 (4, i, e) f = _
  by_cases z : e = d
  · subst z
    simp only [up1_1, sb_v]
    by_cases hf : f < 6
    · have h6 : f = 0 ∨ f = 1 ∨ f = 2 ∨ f = 3 ∨ f = 4 ∨ f = 5 := by omega
      rcases h6 with rfl | rfl | rfl | rfl | rfl | rfl <;> simp
    · have n0 : ¬ f = 0 := by omega
      have n1 : ¬ f = 1 := by omega
      have n2 : ¬ f = 2 := by omega
      have n3 : ¬ f = 3 := by omega
      have n4 : ¬ f = 4 := by omega
      have n5 : ¬ f = 5 := by omega
      simp [hf, n0, n1, n2, n3, n4, n5]
  · have hne : ((4, i, e) : DKey) ≠ (4, i, d) := fun t => z (by simpa using t)
    rw [up1_ne _ _ _ hne, up1_ne _ _ _ hne, up1_ne _ _ _ hne, sb_on hne, if_neg (fun t => z t.1)]
theorem rep_SR {h : DH} {i c d : Nat} {s : Nat → Int32} (hs : SR h i c s) (hd : d < 12) : SR (crp h i d c) i c (ban (mz s d) d c) := by
  have hrd := fun k hk => hs.rd (k := k) hk
  obtain ⟨h1, h2, h30, h4, h5, h6, h7, h8, h9, h10, h11⟩ := hs
  have bo : ∀ k, k < 94 → ban (mz s d) d c k = mz s d k := fun k hk => ban_o _ _ _ _ (fun j _ => by unfold oR; omega)
  have lo : ∀ k, k < 21 → ban (mz s d) d c k = s k := fun k hk => (bo k (by omega)).trans (mz_o s hd (Or.inl hk))
  have bD : ∀ e w, e < 12 → w < 6 → ban (mz s d) d c (oD e w) = if e = d then 0 else s (oD e w) := fun e w he hw => by
    rw [bo _ (by unfold oD; omega), mz_D s hw]
  have br : ∀ k, k < c → rmk (ban (mz s d) d c) k = rsD (nI d) (rmk s k) := fun k hk => by
    rw [ban_r _ _ _ hk, rmk_cg (s := s) (s' := mz s d) (fun j hj => mz_o s hd (Or.inr (by omega)))]
    rfl
  have eL : LM (ban (mz s d) d c) c = (LM s c).map (rsD (nI d)) := by
    unfold LM
    rw [List.map_map]
    refine List.map_congr_left (fun k hk => br k (List.mem_range.mp hk))
  have dkR : ∀ r, dk5 (rsD (nI d) r) = dk5 r := fun r => by
    unfold rsD
    split <;> rfl
  refine ⟨⟨fun n hn => ?_, fun k hk hk2 => ?_, fun e he f hf => ?_⟩, ?_, h30, ?_, ?_, ?_, fun p hp => ?_, fun e he => ?_, ?_, fun e he => ?_, fun r hr => ?_⟩
  · rw [crp_o _ _ _ _ (by simp), lo n (by omega)]
    show (up1 (up1 (up1 (sbH h (4, i, d)) (4, i, d) 2 0) (4, i, d) 4 0) (4, i, d) 5 0).1 _ n = _
    rw [up1_ne _ _ _ (by simp), up1_ne _ _ _ (by simp), up1_ne _ _ _ (by simp), sb_on (by simp)]
    exact h1.1 n hn
  · rw [crp_0, lo _ (ms_lt k).2]
    exact h1.2.1 k hk hk2
  · rw [crp_D, bD e _ he (mf_lt hf)]
    by_cases z : e = d
    · rw [if_pos ⟨z, hf⟩, if_pos z]
    · rw [if_neg (fun t => z t.1), if_neg z]
      exact h1.2.2 e he f hf
  · rw [crp_0]; exact h2
  · rw [bo 93 (by decide), mz_o s hd (Or.inr (by decide))]
    exact h4
  · rw [eL]
    unfold LC LM
    rw [List.map_map]
    refine List.map_congr_left (fun k hk => ?_)
    have hk := List.mem_range.mp hk
    rw [crp_r h6 c h30 k (by omega), if_pos hk, hrd k hk]
    rfl
  · intro a b ha hb hab
    rw [crp_2] at hab
    exact h6 a b ha hb hab
  · rw [crp_2]
    exact h7 p hp
  · rw [crp_D, if_neg (fun t => absurd t.2 (by decide)), h8 e he, eL]
    refine congrArg nI (cntD_map ?_ _)
    rw [List.map_map]
    exact List.map_congr_left (fun r _ => (dkR r).symm)
  · unfold NInv
    rw [lo 0 (by decide), lo 5 (by decide), lo 6 (by decide), lo 7 (by decide), lo 15 (by decide)]
    exact h9
  · unfold DInv
    rw [bD e 0 he (by decide), bD e 1 he (by decide), bD e 2 he (by decide), bD e 3 he (by decide), bD e 4 he (by decide)]
    by_cases z : e = d
    · rw [if_pos z, if_pos z, if_pos z, if_pos z, if_pos z]
      exact ⟨⟨0, by decide, rfl⟩, fun t => absurd t (by decide), fun _ => rfl, fun _ => rfl, fun _ => ⟨0, by decide, rfl⟩, Or.inl rfl⟩
    · rw [if_neg z, if_neg z, if_neg z, if_neg z, if_neg z]
      exact h10 e he
  · rw [eL] at hr
    obtain ⟨r0, hr0, rfl⟩ := List.mem_map.mp hr
    obtain ⟨e, he, hed, h3, l, t, l1, l2, l3, l4, l5, l6⟩ := h11 r0 hr0
    refine ⟨e, he, (dkR r0).trans hed, ?_, ?_⟩
    · rw [bD e 0 he (by decide)]
      by_cases z : e = d
      · rw [if_pos z]; decide
      · rw [if_neg z]; exact h3
    · unfold rsD
      by_cases z : dk5 r0 = nI d
      · rw [if_pos z]
        exact ⟨t, t, by omega, Nat.le_refl _, l3, l5, l5, fun _ => rfl⟩
      · rw [if_neg z]
        have ned : e ≠ d := fun u => z (by rw [hed, u])
        rw [bD e 0 he (by decide), if_neg ned]
        exact ⟨l, t, l1, l2, l3, l4, l5, l6⟩
end
section
/-! all that is known of a state is kept by the acts -/
theorem XR.lo {h h' : DH} {i c : Nat} {s s' : Nat → Int32} (hs : XR h i s) (hc : SR h' i c s') (e : ∀ k, k < 17 → k ≠ 11 → k ≠ 13 → k ≠ 14 → s' k = s k) : XR h' i s' := by
  obtain ⟨_, h2, h3, h4, h5⟩ := hs
  refine ⟨⟨c, hc⟩, ?_, ?_, ?_, fun w hw => by rw [e w (by omega) (by omega) (by omega) (by omega)]; exact h5 w hw⟩
  · unfold HInv
    rw [e 15 (by decide) (by decide) (by decide) (by decide), e 16 (by decide) (by decide) (by decide) (by decide)]
    exact h2
  · unfold AInv
    rw [e 12 (by decide) (by decide) (by decide) (by decide)]
    exact h3
  · unfold TInv
    rw [e 10 (by decide) (by decide) (by decide) (by decide)]
    exact h4
theorem XR.set {h : DH} {i c : Nat} {s : Nat → Int32} (hs : XR h i s) (hc : SR h i c s) {w : Nat} (hw : w < 10) {x : Int32} (hx : wip x (dcst 1 w) (dcst 2 w)) : XR (up1 h (1, i, 0) w x) i (upd s w x) := by
  obtain ⟨_, h2, h3, h4, h5⟩ := hs
  refine ⟨⟨c, set_SR hc hw hx⟩, ?_, ?_, ?_, fun v hv => ?_⟩
  · unfold HInv
    rw [upd_n _ _ (by omega), upd_n _ _ (by omega)]
    exact h2
  · unfold AInv
    rw [upd_n _ _ (by omega)]
    exact h3
  · unfold TInv
    rw [upd_n _ _ (by omega)]
    exact h4
  · by_cases z : v = w
    · subst z
      rw [upd_s]
      exact hx
    · rw [upd_n _ _ z]
      exact h5 v hv
theorem XR.read {h : DH} {i c d : Nat} {s : Nat → Int32} {t : Int32} (hs : XR h i s) (hc : SR h i c s) (hd : d < 12) (hc30 : c < 30) (ht : wip t 1 50) (h3 : ¬ s (oD d 0) = 3) (h500 : ¬ s 12 = 500) : XR (caddH h i c d t) i (mask s c d t) := by
  obtain ⟨_, h2, ⟨a, ha, e⟩, h4, h5⟩ := hs
  refine ⟨⟨c + 1, read_add hc hd hc30 ht h3⟩, ?_, ⟨a + 1, ?_, ?_⟩, ?_, fun w hw => by rw [mask_lo (by omega) (by omega)]; exact h5 w hw⟩
  · unfold HInv
    rw [mask_lo (by decide) (by decide), mask_lo (by decide) (by decide)]
    exact h2
  · have : a ≠ 500 := fun t => h500 (by rw [e, t]; rfl)
    omega
  · unfold mask
    rw [upd_s, e, nI_1]
  · unfold TInv
    rw [mask_lo (by decide) (by decide)]
    exact h4
theorem XR.drop {h : DH} {i c p : Nat} {s : Nat → Int32} (hs : XR h i s) (hc : SR h i c s) (hp : p < c) : XR (drpH h i c p) i (mrm s p c) := hs.lo (drop_SR hc hp).2 (fun k hk _ _ _ => mrm_lo (by omega))
theorem XR.plan {h : DH} {i c d : Nat} {s : Nat → Int32} (hs : XR h i s) (hc : SR h i c s) (hd : d < 12) : XR (up1 h (4, i, d) 5 1) i (upd s (oD d 4) 1) := hs.lo (fail_SR hc hd).1 (fun k hk _ _ _ => upd_n _ _ (by unfold oD; omega))
theorem XR.rep {h : DH} {i c d : Nat} {s : Nat → Int32} (hs : XR h i s) (hc : SR h i c s) (hd : d < 12) : XR (crp h i d c) i (ban (mz s d) d c) := hs.lo (rep_SR hc hd) (fun k hk _ _ _ => (ban_o _ _ _ _ (fun j _ => by unfold oR; omega)).trans (mz_o s hd (Or.inl (by omega))))
theorem XR.fuse {h : DH} {i c : Nat} {s : Nat → Int32} (hs : XR h i s) (hc : SR h i c s) (z : ¬ s 15 = 0) : XR (up1 h (0, i, 0) 10 0) i (nf s) := by
  obtain ⟨_, h2, h3, h4, h5⟩ := hs
  obtain ⟨f1, f2⟩ := fuse_new hc h2 z
  have e : ∀ k, k < 15 → nf s k = s k := fun k hk => by
    unfold nf
    rw [upd_n _ _ (by omega), upd_n _ _ (by omega)]
  refine ⟨⟨c, f1⟩, f2, ?_, ?_, fun w hw => by rw [e w (by omega)]; exact h5 w hw⟩
  · unfold AInv
    rw [e 12 (by decide)]
    exact h3
  · unfold TInv
    rw [e 10 (by decide)]
    exact h4
theorem pass_H {h : DH} {i c : Nat} {s : Nat → Int32} (f : Nat → Int32) (hs : SR h i c s) (hh : HInv s) : ∀ k, HInv (rk s f k).1 := by
  intro k
  induction k with
  | zero => exact hh
  | succ k ih =>
    obtain ⟨⟨c', h1⟩, _⟩ := pass_SR f hs k
    exact tick_H (rk s f k).2 h1 ih
theorem pass_lo {h : DH} {i c : Nat} {s : Nat → Int32} (f : Nat → Int32) (hs : SR h i c s) (k : Nat) : (rk s f k).1 12 = s 12 ∧ (rk s f k).1 10 = s 10 + nI k ∧ ∀ j, j < 10 → (rk s f k).1 j = s j := by
  obtain ⟨⟨c', h1⟩, h2⟩ := pass_SR f hs k
  refine ⟨?_, ?_, h2⟩
  · have a := h1.1.2.1 4 (by decide) (by decide)
    have b := hs.1.2.1 4 (by decide) (by decide)
    have e := ((Ft.rf (e := 4) (i := i) (h := h)).xpk k).1 (0, i, 0) 4 (Fq_4 4 i)
    exact (a.symm.trans e).trans b
  · have a := h1.1.2.1 8 (by decide) (by decide)
    have b := hs.1.2.1 8 (by decide) (by decide)
    have b : h.1 (0, i, 0) 8 = s 10 := b
    exact a.symm.trans ((pk_8 h i k).trans (by rw [b]))
theorem XR.pass {h : DH} {i c : Nat} {s : Nat → Int32} (f : Nat → Int32) (hs : XR h i s) (hc : SR h i c s) {k : Nat} (hk : k ≤ 400) (ht : s 10 + nI k ≤ 99999) : XR (pk h i k) i (rk s f k).1 := by
  obtain ⟨_, h2, h3, ⟨t, t1, t2⟩, h5⟩ := hs
  obtain ⟨e1, e2, e3⟩ := pass_lo f hc k
  refine ⟨(pass_SR f hc k).1, pass_H f hc h2 k, ?_, ⟨t + k, ?_, ?_⟩, fun w hw => by rw [e3 w hw]; exact h5 w hw⟩
  · unfold AInv
    rw [e1]
    exact h3
  · rw [t2, nI_add] at ht
    refine Decidable.byContradiction fun z => ?_
    exact absurd ht (nI_ge (show 99999 < t + k by omega) (by omega))
  · rw [e2, t2, nI_add]
/-- nothing that is answered by an act is below 0 -/
theorem sumN_le {f : Nat → Int32} {B : Nat} : ∀ n, (∀ e, e < n → ∃ k, k ≤ B ∧ f e = nI k) → ∃ m, m ≤ B * n ∧ sumN f n = nI m := by
  intro n
  induction n with
  | zero => intro _; exact ⟨0, Nat.le_refl _, rfl⟩
  | succ n ih =>
    intro h
    obtain ⟨m, hm, e⟩ := ih (fun e he => h e (by omega))
    obtain ⟨k, hk, e2⟩ := h n (by omega)
    refine ⟨m + k, by rw [Nat.mul_succ]; omega, ?_⟩
    show sumN f n + f n = _
    rw [e, e2, nI_add]
theorem nI_n0 {n : Nat} (h : n < 2 ^ 31) : ¬ nI n < 0 := nI_pos h
theorem VInv.at {s : Nat → Int32} (h : VInv s) : (∃ k, k ≤ 50 ∧ s 1 = nI k) ∧ (∃ k, k ≤ 20 ∧ s 2 = nI k) ∧ (∃ k, k ≤ 20 ∧ s 3 = nI k) ∧ (∃ k, k ≤ 5 ∧ s 4 = nI k) := by
  refine ⟨?_, ?_, ?_, ?_⟩
  · obtain ⟨k, _, k2, k3⟩ := wip_nI2 (a := 1) (b := 50) (by decide) (by decide) (h 1 (by decide))
    exact ⟨k, k2, k3⟩
  · obtain ⟨k, _, k2, k3⟩ := wip_nI2 (a := 0) (b := 20) (by decide) (by decide) (h 2 (by decide))
    exact ⟨k, k2, k3⟩
  · obtain ⟨k, _, k2, k3⟩ := wip_nI2 (a := 0) (b := 20) (by decide) (by decide) (h 3 (by decide))
    exact ⟨k, k2, k3⟩
  · obtain ⟨k, _, k2, k3⟩ := wip_nI2 (a := 0) (b := 5) (by decide) (by decide) (h 4 (by decide))
    exact ⟨k, k2, k3⟩
theorem dcst_lo : ∀ w, w < 10 → ¬ dcst 1 w < 0 := by decide
theorem VInv.n0 {s : Nat → Int32} (h : VInv s) {w : Nat} (hw : w < 10) : ¬ s w < 0 := fun t => (h w hw).1 (Int32.lt_of_lt_of_le t (Int32.not_lt.mp (dcst_lo w hw)))
theorem mcur_le {s : Nat → Int32} (h : VInv s) (c e : Nat) : ∃ k, k ≤ 50 ∧ mcur s c e = nI k := by
  obtain ⟨⟨k1, a1, e1⟩, ⟨k2, a2, e2⟩, ⟨k3, a3, e3⟩, ⟨k4, a4, e4⟩⟩ := h.at
  unfold mcur
  split
  · exact ⟨k4, by omega, e4⟩
  · split
    · exact ⟨k1, a1, e1⟩
    · split
      · exact ⟨0, by omega, rfl⟩
      · split
        · exact ⟨k2, by omega, by rw [e2, Int32.add_zero]⟩
        · exact ⟨k2 + k3, by omega, by rw [e2, e3, nI_add]⟩
theorem mcurN_le {s : Nat → Int32} (h : VInv s) (c : Nat) : ∃ k, k ≤ 600 ∧ mcurN s c = nI k := sumN_le (B := 50) 12 (fun e _ => mcur_le h c e)
theorem pk_5 {h : DH} {i c : Nat} {s : Nat → Int32} (f : Nat → Int32) (hs : SR h i c s) : ∀ k, ∃ m, m ≤ 30 * k ∧ (pk h i k).1 (0, i, 0) 5 = h.1 (0, i, 0) 5 + nI m := by
  intro k
  induction k with
  | zero => exact ⟨0, Nat.le_refl _, (Int32.add_zero _).symm⟩
  | succ k ih =>
    obtain ⟨m, hm, e⟩ := ih
    obtain ⟨c', h1, h2, _⟩ := pass_ok f hs k
    rw [show pk h i (k + 1) = tick (pk h i k) i ((pk h i k).1 (0, i, 0) 3).toNatClampNeg from rfl]
    obtain ⟨m2, hm2, e2⟩ := tick_5 (pk h i k) i ((pk h i k).1 (0, i, 0) 3).toNatClampNeg
    rw [h1, i_cl (show c' < 2 ^ 31 by omega)] at hm2
    exact ⟨m + m2, by omega, by rw [e2, e, Int32.add_assoc, nI_add]⟩
theorem pass_n0 {h : DH} {i c : Nat} {s : Nat → Int32} (f : Nat → Int32) (hs : SR h i c s) {k : Nat} (hk : k ≤ 400) : (pk h i k).1 (0, i, 0) 5 - h.1 (0, i, 0) 5 = (rk s f k).1 13 - s 13 ∧ ¬ (rk s f k).1 13 - s 13 < 0 := by
  obtain ⟨⟨c', h1⟩, _⟩ := pass_SR f hs k
  have a := h1.1.2.1 5 (by decide) (by decide)
  have b := hs.1.2.1 5 (by decide) (by decide)
  have a : (pk h i k).1 (0, i, 0) 5 = (rk s f k).1 13 := a
  have b : h.1 (0, i, 0) 5 = s 13 := b
  refine ⟨by rw [a, b], ?_⟩
  obtain ⟨m, hm, e⟩ := pk_5 f hs k
  rw [← a, e, b, Int32.add_comm, Int32.add_sub_cancel]
  exact nI_n0 (by omega)
end
section
/-! a call on both sides -/
def Step (n mc mm : Nat) (as : List DV) : Prop := ∀ h, RR h → ∃ (v : Int32) (h1 h2 : DH), dEx n mc (.inr (6, 0, 0) :: as) h (some (.inl v), h1) ∧ dEx n mm (.inr (14, 0, 0) :: as) h1 (some (.inl v), h2) ∧ RR h2
theorem RR.go {h : DH} (hs : RR h) : ∃ a c g, cfull h (rr h a) 0 c = g ∧ cpk h 0 c ∧ rr h a ≠ 0 ∧ h.1 (7, 0, 0) 1 = nI a ∧ a ≤ 4 ∧ RR g ∧ HR g a ∧ XR g (rr g a) (g.1 (15, 0, 0)) ∧ SR g 0 c (g.1 (15, 0, 0)) ∧ g.1 (7, 0, 0) 1 = nI a ∧ g.1 (14, 0, 0) 3 = nI a := by
  have hs' := hs
  obtain ⟨⟨⟨c, hc⟩, _⟩, _, _, ⟨a, ha⟩, _⟩ := hs'
  have F := Fr_cfull h (rr h a) 0 c
  have e15 : (cfull h (rr h a) 0 c).1 (15, 0, 0) = h.1 (15, 0, 0) := (F.eo (by simp)).1
  have er : rr (cfull h (rr h a) 0 c) a = rr h a := congrFun (F.eo (κ := (8, 0, 0)) (by simp)).2 a
  obtain ⟨p1, p2, p3, p4⟩ := hs.prep ha hc
  refine ⟨a, c, cfull h (rr h a) 0 c, rfl, hc.cp_ok, by have := (ha.2.2.2.1 a (by have := ha.1; omega)).1; omega, ha.2.1, ha.1, p1, p2, ?_, ?_, p2.2.1, p2.2.2.1⟩
  · rw [e15, er]; exact p3
  · rw [e15]; exact p4
theorem hp_at (g : DH) : hp g (g.1 (15, 0, 0)) (g.1 (20, 0, 0)) = g := hp_id g
theorem Step.err {n mc mm : Nat} {as : List DV} {h g : DH} {a : Nat} {v : Int32} (hc : dEx n mc (.inr (6, 0, 0) :: as) h (some (.inl v), actH g a v)) (hv : v < 0) (hm : dEx n mm (.inr (14, 0, 0) :: as) (hp g (g.1 (15, 0, 0)) (g.1 (20, 0, 0))) (some (.inl v), hp g (g.1 (15, 0, 0)) (g.1 (20, 0, 0)))) (hr : RR g) : ∃ (v : Int32) (h1 h2 : DH), dEx n mc (.inr (6, 0, 0) :: as) h (some (.inl v), h1) ∧ dEx n mm (.inr (14, 0, 0) :: as) h1 (some (.inl v), h2) ∧ RR h2 := by
  unfold actH at hc
  rw [if_pos hv] at hc
  rw [hp_at] at hm
  exact ⟨v, g, g, hc, hm, hr⟩
theorem Step.ok {n mc mm : Nat} {as : List DV} {h g g' : DH} {a : Nat} {v : Int32} {s' f' : Nat → Int32} (hc : dEx n mc (.inr (6, 0, 0) :: as) h (some (.inl v), actH g' a v)) (hv : ¬ v < 0) (hm : dEx n mm (.inr (14, 0, 0) :: as) (hp (recH g' a) (g.1 (15, 0, 0)) (g.1 (20, 0, 0))) (some (.inl v), hp (know (recH g' a) a (g.1 (15, 0, 0))) s' f')) (hr : RR g) (ha : HR g a) (hx : XR g (rr g a) (g.1 (15, 0, 0))) (F : Fr 0 g g') (hn : XR g' 0 s') : ∃ (v : Int32) (h1 h2 : DH), dEx n mc (.inr (6, 0, 0) :: as) h (some (.inl v), h1) ∧ dEx n mm (.inr (14, 0, 0) :: as) h1 (some (.inl v), h2) ∧ RR h2 := by
  unfold actH at hc
  rw [if_neg hv] at hc
  have e15 : (recH g' a).1 (15, 0, 0) = g.1 (15, 0, 0) := by rw [recH_1 _ _ (by simp), (F.eo (by simp)).1]
  have e20 : (recH g' a).1 (20, 0, 0) = g.1 (20, 0, 0) := by rw [recH_1 _ _ (by simp), (F.eo (by simp)).1]
  have := hp_at (recH g' a)
  rw [e15, e20] at this
  rw [this] at hm
  exact ⟨v, recH g' a, _, hc, hm, hr.done ha hx F hn⟩
theorem rec_14 {g g' : DH} {a : Nat} (F : Fr 0 g g') : (recH g' a).1 (14, 0, 0) = g.1 (14, 0, 0) := by rw [recH_1 _ _ (by simp), (F.eo (by simp)).1]
theorem fr_7 {g g' : DH} (F : Fr 0 g g') : g'.1 (7, 0, 0) = g.1 (7, 0, 0) := (F.eo (by simp)).1
theorem frx1 {g g' : DH} (F : Fr 0 g g') {k : Nat} {x : Int32} : Fr 0 g (up1 g' (1, 0, 0) k x) := F.up1 ⟨by show (1 : Nat) ≤ 5; decide, rfl⟩
theorem frx0 {g g' : DH} (F : Fr 0 g g') {k : Nat} {x : Int32} : Fr 0 g (up1 g' (0, 0, 0) k x) := F.up1 ⟨by show (0 : Nat) ≤ 5; decide, rfl⟩
theorem frx4 {g g' : DH} (F : Fr 0 g g') {d k : Nat} {x : Int32} : Fr 0 g (up1 g' (4, 0, d) k x) := F.up1 ⟨by show (4 : Nat) ≤ 5; decide, rfl⟩
theorem frx5 {g g' : DH} (F : Fr 0 g g') {d k : Nat} {x : Int32} : Fr 0 g (up1 g' (5, 0, d) k x) := F.up1 ⟨by show (5 : Nat) ≤ 5; decide, rfl⟩
theorem wip_dec (x a b : Int32) : wip x a b ∨ ¬ wip x a b := by
  unfold wip
  exact Decidable.em _
theorem Fr_drp {g : DH} {c p : Nat} : Fr 0 g (drpH g 0 c p) := (((Ft.xsw (e := 4) (Or.inl rfl) ((Ft.rf (h := g)).a5 (p := g.2 (3, 0, 0) p) (f := 3) (x := 0)) c).a0 (f := 3) (x := nI (sw (drpG g 0 p) 0 c).2) (by decide))).fr
theorem mpl_n0 {s : Nat → Int32} (h : ∀ e, e < 12 → DInv s e) : ¬ mpl s < 0 := by
  obtain ⟨m, hm, e⟩ := sumN_le (f := fun e => s (oD e 4)) (B := 1) 12 (fun e he => by
    rcases (h e he).2.2.2.2.2 with z | z
    · exact ⟨0, by omega, z⟩
    · exact ⟨1, by omega, z⟩)
  unfold mpl
  rw [e]
  exact nI_n0 (by omega)
theorem Fr_crp {g : DH} {d : Nat} : ∀ c, Fr 0 g (crp g 0 d c) := by
  intro c
  induction c with
  | zero =>
    show Fr 0 g (up1 (up1 (up1 (sbH g (4, 0, d)) (4, 0, d) 2 0) (4, 0, d) 4 0) (4, 0, d) 5 0)
    unfold sbH
    exact (frx4 (frx4 (frx4 (frx4 (frx4 (frx4 Fr.rf))))))
  | succ c ih =>
    show Fr 0 g (crpB (crp g 0 d c) 0 d c)
    unfold crpB
    split
    · exact (frx5 ih)
    · exact ih
end
section
/-! the class: counts, text -/
theorem mco_num (h : DH) (s : Nat → Int32) (c : Nat) : ∀ j, j < 10 → mco h s c (nI (20 + j)) = s j := by
  intro j hj
  have : j = 0 ∨ j = 1 ∨ j = 2 ∨ j = 3 ∨ j = 4 ∨ j = 5 ∨ j = 6 ∨ j = 7 ∨ j = 8 ∨ j = 9 := by omega
  rcases this with rfl | rfl | rfl | rfl | rfl | rfl | rfl | rfl | rfl | rfl <;> rfl
theorem mco_that (h : DH) (s : Nat → Int32) (c : Nat) : ∀ j, j < 4 → mco h s c (nI (7 + j)) = mthat s (nI j) := by
  intro j hj
  have : j = 0 ∨ j = 1 ∨ j = 2 ∨ j = 3 := by omega
  rcases this with rfl | rfl | rfl | rfl <;> rfl
theorem c_tellCount (n : Nat) (x : Int32) (h : DH) {c : Nat} {s : Nat → Int32} (hs : SR h 0 c s) (h17 : ¬ x = 17) (h18 : ¬ x = 18) : dEx (n + 4) 86 [.inr (0, 0, 0), .inl x] h (some (.inl (mco h s c x)), h) := by
  have rs := fun k h1 h2 => hs.1.2.1 k h1 h2
  refine dx_86 ?_
  refine Runs.go 3 rfl trivial ?_
  refine Runs.cal rfl (c_isWithin (n + 2) _ _ _ h) ?_
  rcases wip_dec x 20 29 with hx | hx
  · rw [wi_1 hx]
    obtain ⟨k, k1, k2, rfl⟩ := wip_nI2 (a := 20) (b := 29) (by decide) (by decide) hx
    have e20 : nI k - 20 = nI (k - 20) := by rw [show (20 : Int32) = nI 20 from rfl, pk_sub k1]
    refine Runs.go 1 rfl trivial ?_
    refine Runs.ifF (by decide) ?_
    refine Runs.go 6 rfl ⟨trivial, (by rw [e20]; exact i_in (show k - 20 < 10 by omega) (by decide))⟩ ?_
    rw [e20, i_cl (show k - 20 < 2 ^ 31 by omega), hs.1.1 (k - 20) (by omega), ← mco_num h s c (k - 20) (by omega), show 20 + (k - 20) = k by omega]
    exact Runs.fin rfl trivial
  rw [wi_0 hx]
  refine Runs.go 1 rfl trivial ?_
  refine Runs.ifT rfl ?_
  refine Runs.go 3 rfl trivial ?_
  refine Runs.cal rfl (c_isWithin (n + 2) _ _ _ h) ?_
  rcases wip_dec x 7 10 with hy | hy
  · rw [wi_1 hy]
    obtain ⟨k, k1, k2, rfl⟩ := wip_nI2 (a := 7) (b := 10) (by decide) (by decide) hy
    have e7 : nI k - 7 = nI (k - 7) := by rw [show (7 : Int32) = nI 7 from rfl, pk_sub k1]
    refine Runs.go 1 rfl trivial ?_
    refine Runs.ifF (by decide) ?_
    refine Runs.go 4 rfl trivial ?_
    rw [e7]
    refine Runs.cal rfl (c_disksThat (n + 1) 0 _ h) ?_
    rw [that_eq hs, ← mco_that h s c (k - 7) (by omega), show 7 + (k - 7) = k by omega]
    exact Runs.fin rfl trivial
  rw [wi_0 hy]
  refine Runs.go 1 rfl trivial ?_
  refine Runs.ifT rfl ?_
  refine Runs.go 2 rfl trivial ?_
  refine Runs.sw1 (fun e => ?_) (fun e0 => ?_)
  · have e : x = 0 := e
    subst e
    rw [show mco h s c 0 = h.1 (0, 0, 0) 8 from (rs 8 (by decide) (by decide)).symm]
    refine Runs.go 2 rfl trivial ?_
    exact Runs.fin rfl trivial
  have e0 : ¬ x = 0 := e0
  refine Runs.sw1 (fun e => ?_) (fun e1 => ?_)
  · have e : x = 1 := e
    subst e
    refine Runs.go 1 rfl trivial ?_
    refine Runs.cal rfl (c_currentOfNow (n + 1) 0 h) ?_
    rw [sumcur hs]
    exact Runs.fin rfl trivial
  have e1 : ¬ x = 1 := e1
  refine Runs.sw1 (fun e => ?_) (fun e2 => ?_)
  · have e : x = 2 := e
    subst e
    rw [show mco h s c 2 = h.1 (0, 0, 0) 9 from (rs 9 (by decide) (by decide)).symm]
    refine Runs.go 2 rfl trivial ?_
    exact Runs.fin rfl trivial
  have e2 : ¬ x = 2 := e2
  refine Runs.sw1 (fun e => ?_) (fun e3 => ?_)
  · have e : x = 3 := e
    subst e
    rw [show mco h s c 3 = h.1 (0, 0, 0) 3 from hs.2.2.2.1.trans hs.2.1.symm]
    refine Runs.go 2 rfl trivial ?_
    exact Runs.fin rfl trivial
  have e3 : ¬ x = 3 := e3
  refine Runs.sw1 (fun e => ?_) (fun e4 => ?_)
  · have e : x = 4 := e
    subst e
    rw [show mco h s c 4 = h.1 (0, 0, 0) 4 from (rs 4 (by decide) (by decide)).symm]
    refine Runs.go 2 rfl trivial ?_
    exact Runs.fin rfl trivial
  have e4 : ¬ x = 4 := e4
  refine Runs.sw1 (fun e => ?_) (fun e5 => ?_)
  · have e : x = 5 := e
    subst e
    rw [show mco h s c 5 = h.1 (0, 0, 0) 5 from (rs 5 (by decide) (by decide)).symm]
    refine Runs.go 2 rfl trivial ?_
    exact Runs.fin rfl trivial
  have e5 : ¬ x = 5 := e5
  refine Runs.sw1 (fun e => ?_) (fun e6 => ?_)
  · have e : x = 6 := e
    subst e
    rw [show mco h s c 6 = h.1 (0, 0, 0) 6 from (rs 6 (by decide) (by decide)).symm]
    refine Runs.go 2 rfl trivial ?_
    exact Runs.fin rfl trivial
  have e6 : ¬ x = 6 := e6
  refine Runs.sw1 (fun e => ?_) (fun e7 => ?_)
  · have e : x = 7 := e
    subst e
    exact absurd (show wip 7 7 10 by unfold wip; decide) hy
  have e7 : ¬ x = 7 := e7
  refine Runs.sw1 (fun e => ?_) (fun e8 => ?_)
  · have e : x = 8 := e
    subst e
    exact absurd (show wip 8 7 10 by unfold wip; decide) hy
  have e8 : ¬ x = 8 := e8
  refine Runs.sw1 (fun e => ?_) (fun e9 => ?_)
  · have e : x = 9 := e
    subst e
    exact absurd (show wip 9 7 10 by unfold wip; decide) hy
  have e9 : ¬ x = 9 := e9
  refine Runs.sw1 (fun e => ?_) (fun e10 => ?_)
  · have e : x = 10 := e
    subst e
    exact absurd (show wip 10 7 10 by unfold wip; decide) hy
  have e10 : ¬ x = 10 := e10
  refine Runs.sw1 (fun e => ?_) (fun e11 => ?_)
  · have e : x = 11 := e
    subst e
    refine Runs.go 2 rfl trivial ?_
    refine Runs.cal rfl (c_flag (n + 2) _ h) ?_
    have e15 : (if h.1 (0, 0, 0) 10 = 0 then 0 else 1) = mco h s c 11 := by
      have r10 : h.1 (0, 0, 0) 10 = s 15 := rs 10 (by decide) (by decide)
      have m15 : mco h s c 11 = s 15 := rfl
      rw [r10, m15]
      rcases hs.2.2.2.2.2.2.2.2.1.2.2.2.2 with z | z
      · rw [z, if_pos rfl]
      · rw [z, if_neg (by decide)]
    rw [e15]
    exact Runs.fin rfl trivial
  have e11 : ¬ x = 11 := e11
  refine Runs.sw1 (fun e => ?_) (fun e12 => ?_)
  · have e : x = 12 := e
    subst e
    rw [show mco h s c 12 = h.1 (0, 0, 0) 11 from (rs 11 (by decide) (by decide)).symm]
    refine Runs.go 2 rfl trivial ?_
    exact Runs.fin rfl trivial
  have e12 : ¬ x = 12 := e12
  refine Runs.sw1 (fun e => ?_) (fun e13 => ?_)
  · have e : x = 13 := e
    subst e
    rw [show mco h s c 13 = h.1 (0, 0, 0) 12 from (rs 12 (by decide) (by decide)).symm]
    refine Runs.go 2 rfl trivial ?_
    exact Runs.fin rfl trivial
  have e13 : ¬ x = 13 := e13
  refine Runs.sw1 (fun e => ?_) (fun e14 => ?_)
  · have e : x = 14 := e
    subst e
    rw [show mco h s c 14 = h.1 (0, 0, 0) 13 from (rs 13 (by decide) (by decide)).symm]
    refine Runs.go 2 rfl trivial ?_
    exact Runs.fin rfl trivial
  have e14 : ¬ x = 14 := e14
  refine Runs.sw1 (fun e => ?_) (fun e15 => ?_)
  · have e : x = 15 := e
    subst e
    rw [show mco h s c 15 = h.1 (0, 0, 0) 14 from (rs 14 (by decide) (by decide)).symm]
    refine Runs.go 2 rfl trivial ?_
    exact Runs.fin rfl trivial
  have e15 : ¬ x = 15 := e15
  refine Runs.sw1 (fun e => ?_) (fun e16 => ?_)
  · have e : x = 16 := e
    subst e
    rw [show mco h s c 16 = h.1 (0, 0, 0) 7 from (rs 7 (by decide) (by decide)).symm]
    refine Runs.go 2 rfl trivial ?_
    exact Runs.fin rfl trivial
  have e16 : ¬ x = 16 := e16
  refine Runs.sw0 ?_
  have em : mco h s c x = -2 := by
    unfold mco
    rw [if_neg e0, if_neg e1, if_neg e2, if_neg e3, if_neg e4, if_neg e5, if_neg e6, if_neg e7, if_neg e8, if_neg e9, if_neg e10, if_neg e11, if_neg e12, if_neg e13, if_neg e14, if_neg e15, if_neg e16, if_neg h17, if_neg h18, if_pos (wi_0 hx)]
  rw [em]
  refine Runs.go 1 rfl trivial ?_
  exact Runs.fin rfl trivial
end
section
theorem RR.tx {h h' : DH} (hs : RR h) (e : ∀ κ : DKey, κ ≠ (9, 0, 0) → κ ≠ (10, 0, 0) → κ ≠ (19, 0, 0) → κ ≠ (14, 0, 0) → h'.1 κ = h.1 κ) (e14 : ∀ k, k ≠ 7 → h'.1 (14, 0, 0) k = h.1 (14, 0, 0) k) (e2 : h'.2 = h.2) {t : Nat} (ht : TR h' t) : RR h' := by
  obtain ⟨x, w, k, ⟨a, ha⟩, _⟩ := hs
  have E : ∀ j, Eq5 j h h' := fun j k m hk => ⟨e _ (fun t => by simp at t; omega) (fun t => by simp at t; omega) (fun t => by simp at t; omega) (fun t => by simp at t; omega), by rw [e2]⟩
  refine ⟨?_, w.fr (E 1), k.cg (e _ (by simp) (by simp) (by simp) (by simp)) (e14 5 (by decide)) (e _ (by simp) (by simp) (by simp) (by simp)) (E 2), ⟨a, ha.cg (e _ (by simp) (by simp) (by simp) (by simp)) (e14 3 (by decide)) (by rw [e2]) (e _ (by simp) (by simp) (by simp) (by simp)) (fun j _ => E j)⟩, t, ht⟩
  rw [e _ (by simp) (by simp) (by simp) (by simp)]
  exact x.fr (E 0)
theorem XR.sr {h : DH} {i : Nat} {s : Nat → Int32} (hs : XR h i s) : ∃ c, SR h i c s := hs.1
end
section
/-! snapshot, and what is told: on both sides -/
theorem hp_eq (g : DH) {s f : Nat → Int32} (h1 : g.1 (15, 0, 0) = s) (h2 : g.1 (20, 0, 0) = f) : hp g s f = g := by
  rw [← h1, ← h2]
  exact hp_id g
theorem mahd_cnt (s : Nat → Int32) (x : Int32) : ∀ c, mahd s x c = nI (cntD x (LM s c)) := by
  intro c
  induction c with
  | zero => rfl
  | succ c ih =>
    have : mahd s x (c + 1) = mahd s x c + (if s (oR c 1) = x then 1 else 0) := rfl
    rw [this, ih, LM_succ, cntD_app, cntD_one, ← nI_add]
    refine congrArg (fun z => nI (cntD x (LM s c)) + z) ?_
    by_cases z : s (oR c 1) = x
    · rw [if_pos z, if_pos (show dk5 (rmk s c) = x from z)]; rfl
    · rw [if_neg z, if_neg (show ¬ dk5 (rmk s c) = x from z)]; rfl
theorem tell_eq {h : DH} {c d : Nat} {s : Nat → Int32} (hs : SR h 0 c s) (hd : d < 12) (x : Int32) : ctellDisk h 0 d x = mtd s c d x := by
  have r := fun f hf => hs.1.2.2 d hd f hf
  have y5 := (hs.2.2.2.2.2.2.2.2.2.1 d hd).2.2.2.2.2
  unfold ctellDisk mtd
  rw [cur_eq hs hd, r 0 (by decide), r 1 (by decide), r 2 (by decide), r 3 (by decide), r 4 (by decide), r 5 (by decide), hs.2.2.2.2.2.2.2.1 d hd, mahd_cnt, show mf 0 = 0 from rfl, show mf 1 = 1 from rfl, show mf 2 = 2 from rfl, show mf 3 = 3 from rfl, show mf 4 = 5 from rfl, show mf 5 = 4 from rfl]
  rcases y5 with z | z
  · rw [z, if_pos rfl]
  · rw [z, if_neg (show ¬ (1 : Int32) = 0 by decide)]
theorem tellr_eq {h : DH} {c k : Nat} {s : Nat → Int32} (hs : SR h 0 c s) (hk : k < c) (x : Int32) : ctellRead h 0 k x = mtr s k x := by
  have r : ∀ j, j < c → (h.1 (5, 0, h.2 (3, 0, 0) j) 0 = s (oR j 0) ∧ h.1 (5, 0, h.2 (3, 0, 0) j) 1 = s (oR j 1) ∧ h.1 (5, 0, h.2 (3, 0, 0) j) 2 = s (oR j 2) ∧ h.1 (5, 0, h.2 (3, 0, 0) j) 3 = s (oR j 3) ∧ h.1 (5, 0, h.2 (3, 0, 0) j) 4 = s (oR j 4)) := fun j hj => by
    have a := hs.rd hj
    exact ⟨congrArg (fun r : R5 => r.1) a, congrArg (fun r : R5 => r.2.1) a, congrArg (fun r : R5 => r.2.2.1) a, congrArg (fun r : R5 => r.2.2.2.1) a, congrArg (fun r : R5 => r.2.2.2.2) a⟩
  have e8 : h.1 (0, 0, 0) 8 = s 10 := hs.1.2.1 8 (by decide) (by decide)
  have ea : cahead h 0 k = mahd s (s (oR k 1)) k := by
    unfold cahead mahd
    refine sumN_cg k (fun j hj => ?_)
    rw [(r j (by omega)).2.1, (r k hk).2.1]
  obtain ⟨r0, r1, r2, r3, r4⟩ := r k hk
  unfold ctellRead mtr
  rw [ea, e8, r1, r2, r3, r4]
theorem i_sub_add (a b c : Int32) : a - b + c = a + (c - b) := by
  rw [Int32.sub_eq_add_neg, Int32.sub_eq_add_neg, Int32.add_assoc, Int32.add_comm (-b) c]
theorem could_eq {h : DH} {c : Nat} {s : Nat → Int32} (hs : SR h 0 c s) (s0 c0 : Int32) : ∀ j, j ≤ 12 → ∃ m, m ≤ j ∧ sumN (fun d => if s (oD d 0) = 0 then 1 else 0) j = nI m ∧ cst h 0 s0 c0 j = cs s s0 c0 m := by
  intro j
  induction j with
  | zero => intro _; exact ⟨0, Nat.le_refl _, rfl, rfl⟩
  | succ j ih =>
    intro hj
    obtain ⟨m, hm, e1, e2⟩ := ih (by omega)
    have r0 : h.1 (4, 0, j) 0 = s (oD j 0) := hs.1.2.2 j (by omega) 0 (by decide)
    have e3 : sumN (fun d => if s (oD d 0) = 0 then (1 : Int32) else 0) (j + 1) = sumN (fun d => if s (oD d 0) = 0 then 1 else 0) j + (if s (oD j 0) = 0 then 1 else 0) := rfl
    rw [show cst h 0 s0 c0 (j + 1) = cstb h 0 s0 j (cst h 0 s0 c0 j) from rfl, e2, e3, e1]
    unfold cstb
    rw [r0]
    by_cases z : s (oD j 0) = 0
    · rw [if_pos z, if_pos z]
      refine ⟨m + 1, by omega, nI_1 m, ?_⟩
      rw [show cs s s0 c0 (m + 1) = csB s s0 (cs s s0 c0 m) from rfl]
      generalize cs s s0 c0 m = q
      have n8 : h.1 (1, 0, 0) 8 = s 8 := hs.1.1 8 (by decide)
      have n5 : h.1 (1, 0, 0) 5 = s 5 := hs.1.1 5 (by decide)
      have na : cadd h 0 = s 1 - s 4 := by
        unfold cadd
        rw [hs.1.1 1 (by decide), hs.1.1 4 (by decide)]
      unfold csB cmay
      rw [n8, n5, na, i_sub_add, Int32.add_zero, Int32.add_zero]
      by_cases z8 : s 8 ≤ s0 + q.2
      · rw [if_pos z8, if_pos rfl, if_pos (Or.inl z8)]
      · rw [if_neg z8]
        by_cases z5 : s 5 < q.1 + (s 1 - s 4)
        · rw [if_pos z5, if_pos rfl, if_pos (Or.inr z5)]
        · rw [if_neg z5, if_neg (show ¬ (1 : Int32) = 0 by decide), if_neg (fun t => t.elim z8 z5)]
    · rw [if_neg z, if_neg z]
      exact ⟨m, by omega, Int32.add_zero _, rfl⟩
end
section
/-! the class: what would come -/
theorem stopAt (P : Nat → Prop) (hd : ∀ j, P j ∨ ¬ P j) : ∀ L, ∃ N, N ≤ L ∧ (∀ j, j < N → P j) ∧ (N = L ∨ ¬ P N) := by
  intro L
  induction L with
  | zero => exact ⟨0, Nat.le_refl _, fun j hj => absurd hj (by omega), Or.inl rfl⟩
  | succ L ih =>
    obtain ⟨N, h1, h2, h3⟩ := ih
    rcases hd N with z | z
    · rcases h3 with h3 | h3
      · subst h3
        refine ⟨N + 1, Nat.le_refl _, fun j hj => ?_, Or.inl rfl⟩
        rcases Nat.lt_succ_iff_lt_or_eq.mp hj with q | q
        · exact h2 j q
        · rw [q]; exact z
      · exact absurd z h3
    · exact ⟨N, by omega, h2, Or.inr z⟩
/-- a loop whose states are known by what holds of them -/
theorem Runs.ex {T : DTbl} {C : DC} (N : Nat) (Q : DRes → Prop) (Inv : Nat → DS → Prop) (hb : ∀ k A, k < N → Inv k A → (∃ r, Q r ∧ Runs T C A r) ∨ ∃ B, Inv (k + 1) B ∧ ∀ r, Runs T C B r → Runs T C A r) (he : ∀ A, Inv N A → ∃ r, Q r ∧ Runs T C A r) : ∀ A, Inv 0 A → ∃ r, Q r ∧ Runs T C A r := by
  have key : ∀ k, k ≤ N → ∀ A, Inv (N - k) A → ∃ r, Q r ∧ Runs T C A r := by
    intro k
    induction k with
    | zero => intro _ A hA; exact he A hA
    | succ k ih =>
      intro hk A hA
      rcases hb (N - (k + 1)) A (by omega) hA with h | ⟨B, hB, h⟩
      · exact h
      · rw [show N - (k + 1) + 1 = N - k from by omega] at hB
        obtain ⟨r, hr, hrun⟩ := ih (by omega) B hB
        exact ⟨r, hr, h r hrun⟩
  intro A hA
  exact key N (Nat.le_refl _) A (by rw [Nat.sub_self]; exact hA)
def trl (h : DH) (c : Nat) (most : Int32) : DH := up1 (cfull h 1 0 c) (1, 1, 0) 8 most
theorem c_begin (n : Nat) (most : Int32) (h : DH) {c : Nat} (hk : cpk h 0 c) : dEx (n + 3) 83 [.inr (6, 0, 0), .inl most] h (none, trl h c most) := by
  refine dx_83 ?_
  refine Runs.go 4 rfl trivial ?_
  refine Runs.calv rfl (c_copy n 1 0 h (by decide) hk) ?_
  refine Runs.go 6 rfl ⟨trivial, (by unfold vp_in; decide)⟩ ?_
  exact Runs.fin rfl trivial
theorem c_until (n : Nat) (most : Int32) (h : DH) {c L N : Nat} (hk : cpk h 0 c) (hL : L ≤ 400) (hN : N ≤ L) (hok : ∀ j, j < N → pkok (pk (trl h c most) 1 j) 1) (hgo : ∀ j, j < N → 0 < (pk (trl h c most) 1 j).1 (0, 1, 0) 3 ∧ (pk (trl h c most) 1 j).1 (0, 1, 0) 10 = 0) (hst : N = L ∨ ¬ (0 < (pk (trl h c most) 1 N).1 (0, 1, 0) 3 ∧ (pk (trl h c most) 1 N).1 (0, 1, 0) 10 = 0)) : dEx (n + 5) 82 [.inr (6, 0, 0), .inl most, .inl (nI L)] h (some (.inl (if (pk (trl h c most) 1 N).1 (0, 1, 0) 3 = 0 then nI N else -5)), pk (trl h c most) 1 N) := by
  refine dx_82 ?_
  refine Runs.go 2 rfl trivial ?_
  refine Runs.calv rfl (c_begin (n + 1) most h hk) ?_
  generalize trl h c most = g at *
  refine Runs.go 2 rfl trivial ?_
  generalize hr : ((some (.inl (if (pk g 1 N).1 (0, 1, 0) 3 = 0 then nI N else -5)) : Option DV), pk g 1 N) = r
  have fin : Runs dT_82 (dEx (n + 4)) (45, [some (.inr (6, 0, 0)), some (.inl most), some (.inl (nI L)), some (.inl (nI N))], [], pk g 1 N) r := by
    refine Runs.go 4 rfl trivial ?_
    by_cases z : (pk g 1 N).1 (0, 1, 0) 3 = 0
    · rw [if_pos z] at hr
      refine Runs.ifT z ?_
      refine Runs.go 2 rfl trivial ?_
      exact Runs.fin (by rw [← hr]; rfl) trivial
    · rw [if_neg z] at hr
      refine Runs.ifF z ?_
      refine Runs.go 1 rfl trivial ?_
      exact Runs.fin (by rw [← hr]; rfl) trivial
  refine Runs.loop N (fun k => (7, [some (.inr (6, 0, 0)), some (.inl most), some (.inl (nI L)), some (.inl (nI k))], [], pk g 1 k)) (fun k hk2 ih => ?_) ?_
  · refine Runs.go 3 rfl trivial ?_
    refine Runs.ifF (nI_ge (show k < L by omega) (by omega)) ?_
    obtain ⟨g1, g2⟩ := hgo k hk2
    obtain ⟨c', h1, h2, h3⟩ := hok k hk2
    rw [show pk g 1 (k + 1) = tick (pk g 1 k) 1 ((pk g 1 k).1 (0, 1, 0) 3).toNatClampNeg from rfl, h1, i_cl (show c' < 2 ^ 31 by omega)] at ih
    generalize pk g 1 k = q at g1 g2 h1 h3 ih ⊢
    refine Runs.go 4 rfl trivial ?_
    refine Runs.ifF (fun t => absurd g1 (Int32.not_lt.mpr t)) ?_
    refine Runs.go 4 rfl trivial ?_
    rw [g2]
    refine Runs.ifT rfl ?_
    refine Runs.go 2 rfl trivial ?_
    refine Runs.calv rfl (c_tick n 1 q h1 h2 h3) ?_
    refine Runs.go 2 rfl trivial ?_
    rw [nI_1]
    exact ih
  · refine Runs.go 3 rfl trivial ?_
    by_cases z : N = L
    · refine Runs.ifT (by rw [z]; exact Int32.le_refl _) ?_
      exact fin
    · refine Runs.ifF (nI_ge (show N < L by omega) (by omega)) ?_
      have hq := hst.resolve_left z
      refine Runs.go 4 rfl trivial ?_
      by_cases z1 : 0 < (pk g 1 N).1 (0, 1, 0) 3
      · refine Runs.ifF (fun t => absurd z1 (Int32.not_lt.mpr t)) ?_
        refine Runs.go 4 rfl trivial ?_
        refine Runs.ifF (fun t => hq ⟨z1, t⟩) ?_
        exact fin
      · refine Runs.ifT (Int32.not_lt.mp z1) ?_
        exact fin
theorem c_ansIn0 (n : Nat) (x : Int32) (h : DH) {c : Nat} (hc : h.1 (0, 0, 0) 3 = nI c) (h30 : c ≤ 30) (hp' : cplc h 0 c x = none) : dEx (n + 5) 80 [.inr (6, 0, 0), .inl x] h (some (.inl (-1)), h) := by
  refine dx_80 ?_
  refine Runs.go 3 rfl trivial ?_
  refine Runs.cal rfl (c_placeOf (n + 3) 0 x h hc h30) ?_
  rw [hp']
  refine Runs.go 3 rfl trivial ?_
  refine Runs.ifF (by decide) ?_
  refine Runs.go 1 rfl trivial ?_
  exact Runs.fin rfl trivial
def cplk (g : DH) (k : Nat) (x : Int32) : Option Nat := cplc (pk g 1 k) 1 ((pk g 1 k).1 (0, 1, 0) 3).toNatClampNeg x
theorem c_ansIn1 (n : Nat) (x : Int32) (h : DH) {c p d N : Nat} (hk : cpk h 0 c) (hp' : cplc h 0 c x = some p) (hd : (cfull h 1 0 c).1 (5, 0, (cfull h 1 0 c).2 (3, 0, 0) p) 1 = nI d) (hd12 : d < 12) (hN : N ≤ 400) (hok : ∀ j, j ≤ N → pkok (pk (cfull h 1 0 c) 1 j) 1) (hgo : ∀ j, j < N → (pk (cfull h 1 0 c) 1 j).1 (0, 1, 0) 10 = 0) (hgo2 : ∀ j, j < N → cplk (cfull h 1 0 c) j x ≠ none) (h0 : cplk (cfull h 1 0 c) 0 x ≠ none) (hst : N = 400 ∨ ¬ (pk (cfull h 1 0 c) 1 N).1 (0, 1, 0) 10 = 0 ∨ cplk (cfull h 1 0 c) N x = none) : dEx (n + 5) 80 [.inr (6, 0, 0), .inl x] h (some (.inl (if cplk (cfull h 1 0 c) N x = none ∧ ¬ (pk (cfull h 1 0 c) 1 N).1 (4, 1, d) 0 = 3 then nI N else -5)), pk (cfull h 1 0 c) 1 N) := by
  have p30 : p < 30 := by have := (fp_some hp').1; have := hk.2.1; omega
  refine dx_80 ?_
  refine Runs.go 3 rfl trivial ?_
  refine Runs.cal rfl (c_placeOf (n + 3) 0 x h hk.1 hk.2.1) ?_
  rw [hp']
  refine Runs.go 3 rfl trivial ?_
  rw [show oI (-1) (some p) = nI p from rfl]
  refine Runs.ifT (nI_pos' (by omega)) ?_
  refine Runs.go 4 rfl trivial ?_
  refine Runs.calv rfl (c_copy (n + 2) 1 0 h (by decide) hk) ?_
  generalize cfull h 1 0 c = g at *
  refine Runs.go 13 rfl ⟨⟨trivial, (by exact i_in p30 (by decide))⟩, (by rw [i_cl (show p < 2 ^ 31 by omega), hd]; exact i_in hd12 (by decide))⟩ ?_
  rw [i_cl (show p < 2 ^ 31 by omega), hd, i_cl (show d < 2 ^ 31 by omega)]
  generalize hr : ((some (.inl (if cplk g N x = none ∧ ¬ (pk g 1 N).1 (4, 1, d) 0 = 3 then nI N else -5)) : Option DV), pk g 1 N) = r
  have key : ∀ k, k ≤ N → cplk g k x ≠ none → Runs dT_80 (dEx (n + 4)) (50, [some (.inr (6, 0, 0)), some (.inl x), some (.inl (nI p)), some (.inr (4, 1, d)), some (.inl (nI (k + 1)))], [], pk g 1 k) r := by
    intro k hk2
    have fin : k = N → cplk g N x ≠ none → Runs dT_80 (dEx (n + 4)) (108, [some (.inr (6, 0, 0)), some (.inl x), some (.inl (nI p)), some (.inr (4, 1, d)), some (.inl (nI (k + 1)))], [], pk g 1 k) r := by
      intro e hq
      rw [if_neg (fun t => hq t.1)] at hr
      rw [e]
      refine Runs.go 1 rfl trivial ?_
      exact Runs.fin (by rw [← hr]; rfl) trivial
    induction hm : N - k generalizing k with
    | zero =>
      intro hq
      have e : k = N := by omega
      refine Runs.go 3 rfl trivial ?_
      by_cases z : N = 400
      · refine Runs.ifT (by rw [e, z]; decide) ?_
        exact fin e (by rw [← e]; exact hq)
      · refine Runs.ifF (nI_nlt (show k + 1 ≤ 400 by omega) (by decide)) ?_
        refine Runs.go 4 rfl trivial ?_
        have hb : ¬ (pk g 1 k).1 (0, 1, 0) 10 = 0 := by
          rw [e]
          refine (hst.resolve_left z).resolve_right ?_
          rw [← e]; exact hq
        refine Runs.ifF hb ?_
        exact fin e (by rw [← e]; exact hq)
    | succ m ih =>
      intro hq
      refine Runs.go 3 rfl trivial ?_
      refine Runs.ifF (nI_nlt (show k + 1 ≤ 400 by omega) (by decide)) ?_
      refine Runs.go 4 rfl trivial ?_
      rw [hgo k (by omega)]
      refine Runs.ifT rfl ?_
      obtain ⟨c', h1, h2, h3⟩ := hok k (by omega)
      obtain ⟨c2, u1, u2, u3⟩ := hok (k + 1) (by omega)
      have e1 : pk g 1 (k + 1) = tick (pk g 1 k) 1 c' := by
        rw [show pk g 1 (k + 1) = tick (pk g 1 k) 1 ((pk g 1 k).1 (0, 1, 0) 3).toNatClampNeg from rfl, h1, i_cl (show c' < 2 ^ 31 by omega)]
      refine Runs.go 2 rfl trivial ?_
      refine Runs.calv rfl (c_tick n 1 (pk g 1 k) h1 h2 h3) ?_
      rw [← e1]
      refine Runs.go 3 rfl trivial ?_
      refine Runs.cal rfl (c_placeOf (n + 3) 1 x (pk g 1 (k + 1)) u1 u2) ?_
      have e2 : cplk g (k + 1) x = cplc (pk g 1 (k + 1)) 1 c2 x := by
        unfold cplk
        rw [u1, i_cl (show c2 < 2 ^ 31 by omega)]
      rw [← e2]
      refine Runs.go 1 rfl trivial ?_
      cases hq2 : cplk g (k + 1) x with
      | none =>
        have eN : k + 1 = N := by
          refine Decidable.byContradiction fun t => ?_
          exact hgo2 (k + 1) (by omega) hq2
        refine Runs.ifF (by decide) ?_
        refine Runs.go 4 rfl trivial ?_
        rw [← eN] at hr
        by_cases z3 : (pk g 1 (k + 1)).1 (4, 1, d) 0 = 3
        · rw [if_neg (fun t => t.2 z3)] at hr
          refine Runs.ifT z3 ?_
          refine Runs.go 2 rfl trivial ?_
          exact Runs.fin (by rw [← hr]; rfl) trivial
        · rw [if_pos ⟨hq2, z3⟩] at hr
          refine Runs.ifF z3 ?_
          refine Runs.go 1 rfl trivial ?_
          exact Runs.fin (by rw [← hr]; rfl) trivial
      | some p2 =>
        have p2l : p2 < 30 := by
          rw [e2] at hq2
          have := (fp_some hq2).1
          omega
        rw [show oI (-1) (some p2) = nI p2 from rfl]
        refine Runs.ifT (nI_pos' (by omega)) ?_
        refine Runs.go 2 rfl trivial ?_
        rw [nI_1]
        refine ih (k + 1) (by omega) (fun e hq => ?_) (by omega) (by rw [hq2]; simp)
        rw [if_neg (fun t => hq t.1)] at hr
        rw [e]
        refine Runs.go 1 rfl trivial ?_
        exact Runs.fin (by rw [← hr]; rfl) trivial
  exact key 0 (by omega) h0
end
section
/-! the class: ifAtOnce -/
theorem c_ifAt0 (n : Nat) (most w : Int32) (h : DH) (hb : ¬ (wip most 1 12 ∧ wip w 0 2)) : dEx (n + 6) 81 [.inr (6, 0, 0), .inl most, .inl w] h (some (.inl (-2)), h) := by
  refine dx_81 ?_
  refine Runs.go 7 rfl ⟨⟨trivial, (by unfold vp_in; decide)⟩, (by unfold vp_in; decide)⟩ ?_
  refine Runs.cal rfl (c_isWithin (n + 4) most 1 12 h) ?_
  refine Runs.go 1 rfl trivial ?_
  by_cases z : wip most 1 12
  · rw [wi_1 z]
    refine Runs.ifF (by decide) ?_
    refine Runs.go 3 rfl trivial ?_
    refine Runs.cal rfl (c_isWithin (n + 4) w 0 2 h) ?_
    rw [wi_0 (fun t => hb ⟨z, t⟩)]
    refine Runs.go 1 rfl trivial ?_
    refine Runs.ifT rfl ?_
    refine Runs.go 1 rfl trivial ?_
    exact Runs.fin rfl trivial
  · rw [wi_0 z]
    refine Runs.ifT rfl ?_
    refine Runs.go 1 rfl trivial ?_
    exact Runs.fin rfl trivial
theorem c_ifAt1 (n : Nat) (most : Int32) (h : DH) {v : Int32} {g : DH} (hb1 : wip most 1 12) (hu : dEx (n + 5) 82 [.inr (6, 0, 0), .inl most, .inl (nI 400)] h (some (.inl v), g)) : dEx (n + 6) 81 [.inr (6, 0, 0), .inl most, .inl 0] h (some (.inl v), g) := by
  refine dx_81 ?_
  refine Runs.go 7 rfl ⟨⟨trivial, (by unfold vp_in; decide)⟩, (by unfold vp_in; decide)⟩ ?_
  refine Runs.cal rfl (c_isWithin (n + 4) most 1 12 h) ?_
  refine Runs.go 1 rfl trivial ?_
  rw [wi_1 hb1]
  refine Runs.ifF (by decide) ?_
  refine Runs.go 3 rfl trivial ?_
  refine Runs.cal rfl (c_isWithin (n + 4) 0 0 2 h) ?_
  rw [wi_1 (show wip 0 0 2 by unfold wip; decide)]
  refine Runs.go 1 rfl trivial ?_
  refine Runs.ifF (by decide) ?_
  refine Runs.go 2 rfl trivial ?_
  refine Runs.ifT rfl ?_
  refine Runs.go 3 rfl trivial ?_
  refine Runs.cal rfl hu ?_
  exact Runs.fin rfl trivial
def trl0 (h : DH) (c : Nat) (most : Int32) : DH := up1 (trl h c most) (0, 1, 0) 9 0
theorem c_ifAt2 (n : Nat) (most w : Int32) (h : DH) {c : Nat} (hk : cpk h 0 c) (hb1 : wip most 1 12) (hb2 : wip w 0 2) (hw : ¬ w = 0) (hok : ∀ j, j < 100 → pkok (pk (trl0 h c most) 1 j) 1) : dEx (n + 6) 81 [.inr (6, 0, 0), .inl most, .inl w] h (some (.inl (if w = 1 then (pk (trl0 h c most) 1 100).1 (0, 1, 0) 9 else if (pk (trl0 h c most) 1 100).1 (0, 1, 0) 10 = 0 then 0 else 1)), pk (trl0 h c most) 1 100) := by
  refine dx_81 ?_
  refine Runs.go 7 rfl ⟨⟨trivial, (by unfold vp_in; decide)⟩, (by unfold vp_in; decide)⟩ ?_
  refine Runs.cal rfl (c_isWithin (n + 4) most 1 12 h) ?_
  refine Runs.go 1 rfl trivial ?_
  rw [wi_1 hb1]
  refine Runs.ifF (by decide) ?_
  refine Runs.go 3 rfl trivial ?_
  refine Runs.cal rfl (c_isWithin (n + 4) w 0 2 h) ?_
  rw [wi_1 hb2]
  refine Runs.go 1 rfl trivial ?_
  refine Runs.ifF (by decide) ?_
  refine Runs.go 2 rfl trivial ?_
  refine Runs.ifF hw ?_
  refine Runs.go 2 rfl trivial ?_
  refine Runs.calv rfl (c_begin (n + 2) most h hk) ?_
  refine Runs.go 6 rfl trivial ?_
  rw [show up1 (trl h c most) (0, 1, 0) 9 0 = trl0 h c most from rfl]
  generalize trl0 h c most = g at *
  generalize hr : ((some (.inl (if w = 1 then (pk g 1 100).1 (0, 1, 0) 9 else if (pk g 1 100).1 (0, 1, 0) 10 = 0 then 0 else 1)) : Option DV), pk g 1 100) = r
  refine Runs.loop 100 (fun k => (59, [some (.inr (6, 0, 0)), some (.inl most), some (.inl w), some (.inl (nI k))], [], pk g 1 k)) (fun k hk2 ih => ?_) ?_
  · refine Runs.go 3 rfl trivial ?_
    refine Runs.ifF (i_ge hk2 (by decide)) ?_
    obtain ⟨c', h1, h2, h3⟩ := hok k hk2
    rw [show pk g 1 (k + 1) = tick (pk g 1 k) 1 ((pk g 1 k).1 (0, 1, 0) 3).toNatClampNeg from rfl, h1, i_cl (show c' < 2 ^ 31 by omega)] at ih
    generalize pk g 1 k = q at h1 h3 ih ⊢
    refine Runs.go 2 rfl trivial ?_
    refine Runs.calv rfl (c_tick (n + 1) 1 q h1 h2 h3) ?_
    refine Runs.go 2 rfl trivial ?_
    rw [nI_1]
    exact ih
  · refine Runs.go 3 rfl trivial ?_
    refine Runs.ifT (Int32.le_refl _) ?_
    generalize pk g 1 100 = q at hr ⊢
    refine Runs.go 3 rfl trivial ?_
    by_cases z : w = 1
    · rw [if_pos z] at hr
      refine Runs.ifT z ?_
      refine Runs.go 4 rfl trivial ?_
      exact Runs.fin (by rw [← hr]; rfl) trivial
    · rw [if_neg z] at hr
      refine Runs.ifF z ?_
      refine Runs.go 3 rfl trivial ?_
      refine Runs.cal rfl (c_flag (n + 4) _ q) ?_
      exact Runs.fin (by rw [← hr]; rfl) trivial
end
section
/-! the greatest current is never looked at by a tick of the reference -/
def E11 (s s' : Nat → Int32) : Prop := ∀ k, k ≠ 11 → s' k = s k
section E11L
variable {s s' : Nat → Int32}
theorem E11.u (h : E11 s s') {k : Nat} {x y : Int32} (e : y = x) : E11 (upd s k x) (upd s' k y) := fun j hj => by
  by_cases z : j = k
  · rw [z, upd_s, upd_s, e]
  · rw [upd_n _ _ z, upd_n _ _ z]
    exact h j hj
theorem E11.D (h : E11 s s') (d w : Nat) : s' (oD d w) = s (oD d w) := h _ (by unfold oD; omega)
theorem E11.R (h : E11 s s') (k w : Nat) : s' (oR k w) = s (oR k w) := h _ (by unfold oR; omega)
theorem E11.xcc (h : E11 s s') : cc s' = cc s := by
  unfold cc
  rw [h 93 (by decide)]
theorem E11.fst (h : E11 s s') (c : Nat) (x : Int32) : mfst s' c x = mfst s c x := fp_congr (fun k _ => by rw [h.R])
theorem E11.cur (h : E11 s s') (c : Nat) : mcurN s' c = mcurN s c := sumN_cg 12 (fun d _ => by
  unfold mcur
  rw [h.D, h.fst, h 4 (by decide), h 1 (by decide), h 2 (by decide), h 3 (by decide)])
theorem E11.that (h : E11 s s') (x : Int32) : mthat s' x = mthat s x := sumN_cg 12 (fun d _ => by rw [h.D])
theorem E11.sb (h : E11 s s') (d : Nat) : E11 (mSb s d) (mSb s' d) := ((h.u rfl).u rfl).u rfl
theorem E11.xban (h : E11 s s') (d : Nat) : ∀ c, E11 (ban s d c) (ban s' d c) := by
  intro c
  induction c with
  | zero => exact h
  | succ c ih =>
    show E11 (baB (ban s d c) d c) (baB (ban s' d c) d c)
    unfold baB
    exact ih.u (by rw [ih.R, ih.R, ih.R])
theorem E11.rm (h : E11 s s') (p c : Nat) : E11 (mrm s p c) (mrm s' p c) := fun j hj => by
  have g := h.u (k := 93) (x := nI (c - 1)) rfl
  unfold mrm msh
  by_cases z : oR p 0 ≤ j ∧ j < oR (c - 1) 0
  · rw [if_pos z, if_pos z]
    exact g (j + 5) (by unfold oR at z; omega)
  · rw [if_neg z, if_neg z]
    exact g j hj
theorem E11.xco (h : E11 s s') (c : Nat) : ∀ d, E11 (coM s c d) (coM s' c d) := by
  intro d
  induction d with
  | zero => exact h
  | succ d ih =>
    show E11 (coMB c d (coM s c d)) (coMB c d (coM s' c d))
    unfold coMB
    rw [ih.D]
    split
    · exact ih
    · exact (ih.sb d).xban d c
theorem E11.brk (d : Nat) : ∀ (m : Nat) {g g' : Nat → Int32}, E11 g g' → E11 (brkN d m g) (brkN d m g') := by
  intro m
  induction m with
  | zero => intro g g' h; exact h
  | succ m ih =>
    intro g g' h
    unfold brkN
    rw [h.xcc, h.fst]
    split
    · exact h
    · rename_i p e
      have q := (h.rm p (cc g)).u (k := 14) (x := mrm g p (cc g) 14 + 1) (y := mrm g' p (cc g) 14 + 1) (by rw [(h.rm p (cc g)) 14 (by decide)])
      exact ih q
theorem E11.xend (h : E11 s s') (f : Nat → Int32) (d : Nat) : E11 (endM d (s, f)).1 (endM d (s', f)).1 ∧ (endM d (s', f)).2 = (endM d (s, f)).2 := by
  have X : E11 (mSb (upd (upd (upd s (oD d 4) 0) (oD d 2) (s (oD d 2) + 1)) 19 (s 19 + 1)) d) (mSb (upd (upd (upd s' (oD d 4) 0) (oD d 2) (s' (oD d 2) + 1)) 19 (s' 19 + 1)) d) := (((h.u rfl).u (by rw [h.D])).u (by rw [h 19 (by decide)])).sb d
  unfold endM
  dsimp only
  by_cases z : s (oD d 4) = 0
  · rw [if_pos z, if_pos (show s' (oD d 4) = 0 by rw [h.D]; exact z)]
    exact ⟨((h.u rfl).u rfl).u rfl, rfl⟩
  · rw [if_neg z, if_neg (show ¬ s' (oD d 4) = 0 by rw [h.D]; exact z)]
    refine ⟨?_, rfl⟩
    dsimp only
    generalize mSb (upd (upd (upd s (oD d 4) 0) (oD d 2) (s (oD d 2) + 1)) 19 (s 19 + 1)) d = a at X ⊢
    generalize mSb (upd (upd (upd s' (oD d 4) 0) (oD d 2) (s' (oD d 2) + 1)) 19 (s' 19 + 1)) d = b at X ⊢
    by_cases z3 : a (oD d 2) = 3
    · rw [if_pos z3, if_pos (show b (oD d 2) = 3 by rw [X.D]; exact z3)]
      exact E11.brk d 30 (X.u rfl)
    · rw [if_neg z3, if_neg (show ¬ b (oD d 2) = 3 by rw [X.D]; exact z3)]
      exact X
theorem E11.xst (h : E11 s s') (f : Nat → Int32) : ∀ d, E11 (stM s f d).1 (stM s' f d).1 ∧ (stM s' f d).2 = (stM s f d).2 := by
  intro d
  induction d with
  | zero => exact ⟨h, rfl⟩
  | succ d ih =>
    obtain ⟨i1, i2⟩ := ih
    rw [show stM s f (d + 1) = stMB d (stM s f d) from rfl, show stM s' f (d + 1) = stMB d (stM s' f d) from rfl]
    generalize stM s f d = a at i1 i2 ⊢
    generalize stM s' f d = b at i1 i2 ⊢
    obtain ⟨a1, a2⟩ := a
    obtain ⟨b1, b2⟩ := b
    dsimp only at i1 i2
    subst i2
    unfold stMB
    dsimp only
    by_cases z : a1 (oD d 0) = 1
    · rw [if_pos z, if_pos (show b1 (oD d 0) = 1 by rw [i1.D]; exact z)]
      have q := i1.u (k := oD d 1) (x := a1 (oD d 1) - 1) (y := b1 (oD d 1) - 1) (by rw [i1.D])
      by_cases z2 : a1 (oD d 1) - 1 = 0
      · rw [if_pos z2, if_pos (show b1 (oD d 1) - 1 = 0 by rw [i1.D]; exact z2)]
        exact q.xend _ d
      · rw [if_neg z2, if_neg (show ¬ b1 (oD d 1) - 1 = 0 by rw [i1.D]; exact z2)]
        exact ⟨q, rfl⟩
    · rw [if_neg z, if_neg (show ¬ b1 (oD d 0) = 1 by rw [i1.D]; exact z)]
      exact ⟨i1, rfl⟩
theorem E11.xrd (h : E11 s s') : ∀ d, E11 (rdM s d) (rdM s' d) := by
  intro d
  induction d with
  | zero => exact h
  | succ d ih =>
    rw [show rdM s (d + 1) = rdMB d (rdM s d) from rfl, show rdM s' (d + 1) = rdMB d (rdM s' d) from rfl]
    generalize rdM s d = a at ih ⊢
    generalize rdM s' d = b at ih ⊢
    unfold rdMB
    rw [ih.D, ih.xcc, ih.fst]
    by_cases z : a (oD d 0) = 2
    · rw [if_pos z, if_pos z]
      cases mfst a (cc a) (nI d) with
      | none =>
        dsimp only
        rw [ih 9 (by decide), ih.D]
        have q := ih.u (k := oD d 3) (x := a (oD d 3) + 1) rfl
        by_cases z1 : a 9 ≤ 0
        · rw [if_pos z1, if_pos z1]; exact q
        · rw [if_neg z1, if_neg z1]
          by_cases z2 : a (oD d 3) + 1 < a 9
          · rw [if_pos z2, if_pos z2]; exact q
          · rw [if_neg z2, if_neg z2]; exact q.sb d
      | some p =>
        dsimp only
        rw [ih.R]
        have q := (ih.u (k := oD d 3) (x := 0) rfl).u (k := oR p 3) (x := a (oR p 3) - 1) rfl
        by_cases z1 : a (oR p 3) - 1 = 0
        · rw [if_pos z1, if_pos z1]
          refine E11.rm ?_ p (cc a)
          unfold rdM2
          refine (q.u ?_).u ?_
          · rw [q 13 (by decide)]
          · rw [q 20 (by decide), q 10 (by decide), q.R]
        · rw [if_neg z1, if_neg z1]; exact q
    · rw [if_neg z, if_neg z]
      exact ih
theorem E11.xns (h : E11 s s') (f : Nat → Int32) : ∀ d, E11 (nsM s f d) (nsM s' f d) := by
  intro d
  induction d with
  | zero => exact h
  | succ d ih =>
    rw [show nsM s f (d + 1) = nsMB f d (nsM s f d) from rfl, show nsM s' f (d + 1) = nsMB f d (nsM s' f d) from rfl]
    generalize nsM s f d = a at ih ⊢
    generalize nsM s' f d = b at ih ⊢
    have e : (b (oD d 0) = 0 ∧ f d = 0 ∧ mfst b (cc b) (nI d) ≠ none ∧ ¬ b 8 ≤ mthat b 1 ∧ ¬ b 5 < mcurN b (cc b) - b 4 + b 1) ↔ (a (oD d 0) = 0 ∧ f d = 0 ∧ mfst a (cc a) (nI d) ≠ none ∧ ¬ a 8 ≤ mthat a 1 ∧ ¬ a 5 < mcurN a (cc a) - a 4 + a 1) := by
      rw [ih.D, ih.xcc, ih.fst, ih 8 (by decide), ih.that, ih 5 (by decide), ih.cur, ih 4 (by decide), ih 1 (by decide)]
    unfold nsMB
    by_cases z : a (oD d 0) = 0 ∧ f d = 0 ∧ mfst a (cc a) (nI d) ≠ none ∧ ¬ a 8 ≤ mthat a 1 ∧ ¬ a 5 < mcurN a (cc a) - a 4 + a 1
    · rw [if_pos z, if_pos (e.mpr z)]
      exact (((ih.u rfl).u (by rw [ih 0 (by decide)])).u (by rw [ih.D])).u (by rw [ih 18 (by decide)])
    · rw [if_neg z, if_neg (fun t => z (e.mp t))]
      exact ih
theorem E11.xbl (h : E11 s s') : E11 (blM s) (blM s') := by
  unfold blM
  exact ((h.u rfl).u (by rw [h 17 (by decide)])).u rfl
theorem E11.xfu (h : E11 s s') (x : Int32) : E11 (fuM s x) (fuM s' x) := by
  unfold fuM
  rw [h 15 (by decide), h 5 (by decide), h 6 (by decide), h 7 (by decide), h 16 (by decide)]
  split
  · exact h
  · split
    · exact h.xbl
    · split
      · split
        · exact (h.u rfl).xbl
        · exact h.u rfl
      · exact h.u rfl
theorem E11.xtick (h : E11 s s') (f : Nat → Int32) : E11 (tickM s f).1 (tickM s' f).1 ∧ (tickM s' f).2 = (tickM s f).2 := by
  have t : E11 (tkM s f).1 (tkM s' f).1 ∧ (tkM s' f).2 = (tkM s f).2 := by
    by_cases z : s 15 = 1
    · rw [tkM_p z, tkM_p (show s' 15 = 1 by rw [h 15 (by decide)]; exact z)]
      have q := h.xco (cc s) 12
      rw [h.xcc]
      generalize coM s (cc s) 12 = a at q ⊢
      generalize coM s' (cc s) 12 = b at q ⊢
      exact ⟨q, rfl⟩
    · rw [tkM_n z, tkM_n (show ¬ s' 15 = 1 by rw [h 15 (by decide)]; exact z)]
      obtain ⟨i1, i2⟩ := h.xst f 12
      rw [i2]
      have q := (i1.xrd 12).xns (stM s f 12).2 12
      generalize nsM (rdM (stM s f 12).1 12) (stM s f 12).2 12 = a at q ⊢
      generalize nsM (rdM (stM s' f 12).1 12) (stM s f 12).2 12 = b at q ⊢
      generalize (stM s f 12).2 = w
      exact ⟨q, rfl⟩
  refine ⟨?_, t.2⟩
  rw [show (tickM s f).1 = tkM2 (tkM s f).1 from rfl, show (tickM s' f).1 = tkM2 (tkM s' f).1 from rfl]
  have t1 := t.1
  generalize (tkM s f).1 = a at t1 ⊢
  generalize (tkM s' f).1 = b at t1 ⊢
  unfold tkM2
  have q := t1.u (k := 10) (x := a 10 + 1) (y := b 10 + 1) (by rw [t1 10 (by decide)])
  rw [t1.xcc, q.cur]
  refine E11.xfu (fun j hj => ?_) _
  rw [upd_n _ _ hj, upd_n _ _ hj]
  exact q j hj
theorem E11.xrk (h : E11 s s') (f : Nat → Int32) : ∀ k, E11 (rk s f k).1 (rk s' f k).1 ∧ (rk s' f k).2 = (rk s f k).2 := by
  intro k
  induction k with
  | zero => exact ⟨h, rfl⟩
  | succ k ih =>
    rw [show rk s f (k + 1) = tickM (rk s f k).1 (rk s f k).2 from rfl, show rk s' f (k + 1) = tickM (rk s' f k).1 (rk s' f k).2 from rfl, ih.2]
    exact ih.1.xtick _
end E11L
end
section
/-! forecasts, on both sides -/
theorem coM_R (s : Nat → Int32) (c j : Nat) : ∀ d, d ≤ 12 → coM s c d (oR j 0) = s (oR j 0) := by
  intro d
  induction d with
  | zero => intro _; rfl
  | succ d ih =>
    intro hd
    rw [show coM s c (d + 1) = coMB c d (coM s c d) from rfl]
    have ih := ih (by omega)
    generalize coM s c d = g at ih ⊢
    unfold coMB
    split
    · exact ih
    · rw [ban_o _ _ _ _ (fun k _ => by unfold oR; omega), mSb_on _ _ _ (fun w hw => oR_oD (by omega) hw)]
      exact ih
theorem blown_tick {h : DH} {i c : Nat} {s : Nat → Int32} (f : Nat → Int32) (hs : SR h i c s) (z : s 15 = 1) : (tickM s f).1 15 = 1 ∧ (tickM s f).1 93 = s 93 ∧ ∀ j, (tickM s f).1 (oR j 0) = s (oR j 0) := by
  obtain ⟨a1, a2⟩ := cut_SR hs
  have h93 := hs.2.2.2.1
  have ecc : cc s = c := cc_of h93 hs.2.2.1
  have b15 := a2 15 (by decide)
  have b93 : coM s c 12 93 = s 93 := coM_93 s c 12 (Nat.le_refl _)
  have bR := fun j => coM_R s c j 12 (Nat.le_refl _)
  rw [show (tickM s f).1 = tkM2 (tkM s f).1 from rfl, tkM_p z, ecc]
  dsimp only
  generalize coM s c 12 = g at b15 b93 bR ⊢
  have f15 : ∀ x y w, fuM (upd (upd g 10 x) 11 y) w = upd (upd g 10 x) 11 y := fun x y w => by
    unfold fuM
    rw [if_pos (by rw [upd_n _ _ (by decide), upd_n _ _ (by decide), b15, z])]
  unfold tkM2
  rw [f15]
  refine ⟨?_, ?_, fun j => ?_⟩
  · rw [upd_n _ _ (by decide), upd_n _ _ (by decide), b15, z]
  · rw [upd_n _ _ (by decide), upd_n _ _ (by decide), b93]
  · rw [upd_n _ _ (oR_lt _ _ _ (by decide)), upd_n _ _ (oR_lt _ _ _ (by decide)), bR]
theorem blown_rk {h : DH} {i c : Nat} {s : Nat → Int32} (f : Nat → Int32) (hs : SR h i c s) (z : s 15 = 1) : ∀ k, (rk s f k).1 15 = 1 ∧ (rk s f k).1 93 = s 93 ∧ ∀ j, (rk s f k).1 (oR j 0) = s (oR j 0) := by
  intro k
  induction k with
  | zero => exact ⟨z, rfl, fun _ => rfl⟩
  | succ k ih =>
    obtain ⟨⟨c', h1⟩, _⟩ := pass_SR f hs k
    obtain ⟨i1, i2, i3⟩ := ih
    rw [show rk s f (k + 1) = tickM (rk s f k).1 (rk s f k).2 from rfl]
    obtain ⟨t1, t2, t3⟩ := blown_tick (rk s f k).2 h1 i1
    exact ⟨t1, t2.trans i2, fun j => (t3 j).trans (i3 j)⟩
theorem rk_add (s f : Nat → Int32) (j : Nat) : ∀ m, rk s f (j + m) = rk (rk s f j).1 (rk s f j).2 m := by
  intro m
  induction m with
  | zero => rfl
  | succ m ih =>
    show tickM (rk s f (j + m)).1 (rk s f (j + m)).2 = tickM (rk (rk s f j).1 (rk s f j).2 m).1 (rk (rk s f j).1 (rk s f j).2 m).2
    rw [ih]
/-- blown at j, and later -/
theorem blown_on {h : DH} {i c : Nat} {s : Nat → Int32} (f : Nat → Int32) (hs : SR h i c s) {j k : Nat} (hj : j ≤ k) (z : (rk s f j).1 15 = 1) : (rk s f k).1 93 = (rk s f j).1 93 ∧ ∀ q, (rk s f k).1 (oR q 0) = (rk s f j).1 (oR q 0) := by
  obtain ⟨⟨c', h1⟩, _⟩ := pass_SR f hs j
  have := blown_rk (rk s f j).2 h1 z (k - j)
  rw [← rk_add, show j + (k - j) = k by omega] at this
  exact this.2
theorem rd_eq {g : DH} {i c : Nat} {s : Nat → Int32} (f : Nat → Int32) (hs : SR g i c s) (j : Nat) : (pk g i j).1 (0, i, 0) 3 = (rk s f j).1 93 ∧ (pk g i j).1 (0, i, 0) 10 = (rk s f j).1 15 ∧ ∃ c', c' ≤ 30 ∧ (rk s f j).1 93 = nI c' := by
  obtain ⟨⟨c', h1⟩, _⟩ := pass_SR f hs j
  exact ⟨h1.2.1.trans h1.2.2.2.1.symm, h1.1.2.1 10 (by decide) (by decide), c', h1.2.2.1, h1.2.2.2.1⟩
/-- in how many ticks no read is left, up to 400 -/
def tvv (s f : Nat → Int32) : Option Nat := fp (fun j => decide (¬ 0 < (rk s f j).1 93)) 401
theorem tvv_cg {g : DH} {i c c2 : Nat} {s s2 : Nat → Int32} (f f2 : Nat → Int32) (hs : SR g i c s) (hs2 : SR g i c2 s2) : tvv s f = tvv s2 f2 := fp_congr (fun j _ => by rw [← (rd_eq f hs j).1, ← (rd_eq f2 hs2 j).1])
theorem tvv_some {s f : Nat → Int32} {t : Nat} (h : tvv s f = some t) : t ≤ 400 ∧ ¬ 0 < (rk s f t).1 93 ∧ ∀ j, j < t → 0 < (rk s f j).1 93 := by
  obtain ⟨h1, h2, h3⟩ := fp_some h
  exact ⟨by omega, by simpa using h2, fun j hj => by simpa using h3 j hj⟩
theorem tvv_none {s f : Nat → Int32} (h : tvv s f = none) : ∀ j, j ≤ 400 → 0 < (rk s f j).1 93 := fun j hj => by simpa using fp_none h j (by omega)
def tvL (o : Option Nat) (L : Nat) : Int32 := match o with
  | some t => if t ≤ L then nI t else -5
  | none => -5
theorem c_untilR (n : Nat) (most : Int32) (h : DH) {c L : Nat} {s f : Nat → Int32} (hk : cpk h 0 c) (hs : SR (trl h c most) 1 c s) (hL : L ≤ 400) : ∃ N, dEx (n + 5) 82 [.inr (6, 0, 0), .inl most, .inl (nI L)] h (some (.inl (tvL (tvv s f) L)), pk (trl h c most) 1 N) := by
  obtain ⟨N, hN, hgo, hst⟩ := stopAt (fun j => 0 < (pk (trl h c most) 1 j).1 (0, 1, 0) 3 ∧ (pk (trl h c most) 1 j).1 (0, 1, 0) 10 = 0) (fun j => Decidable.em _) L
  refine ⟨N, ?_⟩
  have hu := c_until n most h hk hL hN (fun j _ => pass_ok f hs j) hgo hst
  have e : (if (pk (trl h c most) 1 N).1 (0, 1, 0) 3 = 0 then nI N else -5) = tvL (tvv s f) L := by
    have pos0 : ∀ j, (0 < (rk s f j).1 93 ↔ ¬ (rk s f j).1 93 = 0) := fun j => by
      obtain ⟨_, _, c', h1, h2⟩ := rd_eq f hs j
      rw [h2, nIpos (by omega)]
      constructor
      · intro t u
        have := nI_inj (by omega) (by decide) (u.trans nI_0.symm)
        omega
      · intro t
        refine Nat.pos_of_ne_zero (fun u => t (by rw [u]; rfl))
    rw [(rd_eq f hs N).1]
    cases ht : tvv s f with
    | none =>
      have := tvv_none ht N (by omega)
      rw [if_neg ((pos0 N).mp this)]
      rfl
    | some t =>
      obtain ⟨t1, t2, t3⟩ := tvv_some ht
      unfold tvL
      dsimp only
      by_cases z : t ≤ L
      · rw [if_pos z]
        have nb : ∀ j, j < t → (rk s f j).1 15 = 0 := fun j hj => by
          obtain ⟨⟨c', h1⟩, _⟩ := pass_SR f hs j
          rcases h1.2.2.2.2.2.2.2.2.1.2.2.2.2 with q | q
          · exact q
          · exact absurd ((blown_on f hs (show j ≤ t by omega) q).1 ▸ t3 j hj) t2
        have eN : N = t := by
          rcases Nat.lt_trichotomy N t with q | q | q
          · rcases hst with u | u
            · omega
            · refine absurd ⟨?_, ?_⟩ u
              · rw [(rd_eq f hs N).1]; exact t3 N q
              · rw [(rd_eq f hs N).2.1]; exact nb N q
          · exact q
          · have := (hgo t q).1
            rw [(rd_eq f hs t).1] at this
            exact absurd this t2
        rw [eN, if_pos (Decidable.byContradiction fun u => t2 ((pos0 t).mpr u))]
      · rw [if_neg z, if_neg ((pos0 N).mp (t3 N (by omega)))]
  rw [e] at hu
  exact hu
theorem tvv_N (s f : Nat → Int32) : ∃ N, N ≤ 400 ∧ (∀ j, j < N → 0 < (rk s f j).1 93) ∧ (N = 400 ∨ ¬ 0 < (rk s f N).1 93) ∧ trA s f 0 N = oI (-5) (tvv s f) := by
  cases ht : tvv s f with
  | some t =>
    obtain ⟨t1, t2, t3⟩ := tvv_some ht
    refine ⟨t, t1, t3, Or.inr t2, ?_⟩
    unfold trA
    rw [if_pos rfl, if_pos (Int32.not_lt.mp t2)]
    rfl
  | none =>
    have t3 := tvv_none ht
    refine ⟨400, Nat.le_refl _, fun j hj => t3 j (by omega), Or.inl rfl, ?_⟩
    unfold trA
    rw [if_pos rfl, if_neg (Int32.not_le.mpr (t3 400 (Nat.le_refl _)))]
    rfl
theorem cp5_asd (h : DH) (s X : Nat → Int32) (k : Nat) (hk : k < 244) : cp5 X 0 ((asd h s).1 (16, 0, 0)) 244 k = s k := by rw [cp5_in hk, asd_16, cp5_in hk]
/-- the trial and the row aside don't count -/
theorem RR.trial {h g : DH} {s2 f2 : Nat → Int32} {G : DH} (hs : RR h) (F : Fr 1 h g) (w : WF g 1) (e : ∀ k, k < 244 → s2 k = h.1 (15, 0, 0) k) (e1 : ∀ κ : DKey, κ ≠ (16, 0, 0) → G.1 κ = g.1 κ) (e2 : G.2 = g.2) : RR (hp G s2 f2) := by
  have G0 := fun (κ : DKey) (hκ : 5 < κ.1) => show g.1 κ = h.1 κ from (F.eo hκ).1
  have o : ∀ κ : DKey, 5 < κ.1 → κ ≠ (15, 0, 0) → κ ≠ (16, 0, 0) → κ ≠ (20, 0, 0) → (hp G s2 f2).1 κ = h.1 κ := fun κ h5 h1 h2 h3 => by rw [hp_1 _ _ _ h1 h3, e1 _ h2, G0 κ h5]
  have E : ∀ j, Eq5 j g (hp G s2 f2) := fun j k m hk => ⟨by rw [hp_1 _ _ _ (fun t => by simp at t; omega) (fun t => by simp at t; omega), e1 _ (fun t => by simp at t; omega)], by show G.2 _ = _; rw [e2]⟩
  refine hs.of (o _ (by simp) (by simp) (by simp) (by simp)) (o _ (by simp) (by simp) (by simp) (by simp)) ?_ (by rw [o _ (by simp) (by simp) (by simp) (by simp)]) (o _ (by simp) (by simp) (by simp) (by simp)) (fun k _ => by rw [o _ (by simp) (by simp) (by simp) (by simp)]) (o _ (by simp) (by simp) (by simp) (by simp)) (o _ (by simp) (by simp) (by simp) (by simp)) (o _ (by simp) (by simp) (by simp) (by simp)) (fun j hj => (F.e5 (by omega)).tr (E j)) (w.fr (E 1)) ?_
  · show G.2 _ = _
    rw [e2]
    exact (F.eo (κ := (8, 0, 0)) (by simp)).2
  · rw [hp_s]
    exact ((hs.1.fr (F.e5 (show 0 ≠ 1 by decide))).fr (E 0)).row e
theorem asd_o (h : DH) (s : Nat → Int32) (κ : DKey) (hκ : κ ≠ (16, 0, 0)) : (asd h s).1 κ = h.1 κ := ub_n _ _ hκ
theorem asd_2 (h : DH) (s : Nat → Int32) : (asd h s).2 = h.2 := rfl
theorem trl_SR {h : DH} {c : Nat} {s : Nat → Int32} {most : Int32} (hs : SR h 0 c s) (w : WF h 1) (hm : wip most 1 12) : SR (trl h c most) 1 c (upd s 8 most) := set_SR (hs.copy (by decide) w) (w := 8) (by decide) hm
theorem Fr_trl (h : DH) (c : Nat) (most : Int32) : Fr 1 h (trl h c most) := (Fr_cfull h 1 0 c).up1 ⟨by show (1 : Nat) ≤ 5; decide, rfl⟩
theorem Fr_pk {h g : DH} (F : Fr 1 h g) (N : Nat) : Fr 1 h (pk g 1 N) := F.tr ((Ft.rf.xpk N).fr)
theorem pk_wf {g : DH} {i c : Nat} {s : Nat → Int32} (hs : SR g i c s) (N : Nat) : WF (pk g i N) i := by
  obtain ⟨⟨c', h1⟩, _⟩ := pass_SR s hs N
  exact h1.wf
theorem oI_tvL {o : Option Nat} (h : ∀ t, o = some t → t ≤ 400) : tvL o 400 = oI (-5) o := by
  cases o with
  | none => rfl
  | some t =>
    unfold tvL
    dsimp only
    rw [if_pos (h t rfl)]
    rfl
theorem pk_ho {g : DH} {c : Nat} {s : Nat → Int32} (f : Nat → Int32) (hs : SR g 1 c (upd s 11 0)) : ∀ k, (pk g 1 k).1 (0, 1, 0) 9 = ho s f k := by
  intro k
  induction k with
  | zero =>
    have := hs.1.2.1 9 (by decide) (by decide)
    rw [show ms 9 = 11 from rfl, upd_s] at this
    exact this
  | succ k ih =>
    obtain ⟨⟨c1, h1⟩, _⟩ := pass_SR f hs k
    obtain ⟨⟨c2, h2⟩, _⟩ := pass_SR f hs (k + 1)
    have E : E11 s (upd s 11 0) := fun j hj => upd_n _ _ hj
    have E1 := (E.xrk f (k + 1)).1
    have ec : cc (rk s f (k + 1)).1 = c2 := E1.xcc.symm.trans (cc_of h2.2.2.2.1 h2.2.2.1)
    have e9 : (pk g 1 (k + 1)).1 (0, 1, 0) 9 = mx ((pk g 1 k).1 (0, 1, 0) 9) (sumN (ccur (pk g 1 (k + 1)) 1) 12) := tick_9 _ _ _
    rw [e9, ih, sumcur h2, E1.cur, show ho s f (k + 1) = (if mcurN (rk s f (k + 1)).1 (cc (rk s f (k + 1)).1) ≤ ho s f k then ho s f k else mcurN (rk s f (k + 1)).1 (cc (rk s f (k + 1)).1)) from rfl, ec]
    unfold mx
    by_cases z : ho s f k < mcurN (rk s f (k + 1)).1 c2
    · rw [if_pos z, if_neg (Int32.not_le.mpr z)]
    · rw [if_neg z, if_pos (Int32.not_lt.mp z)]
theorem Fr_trl0 (h : DH) (c : Nat) (most : Int32) : Fr 1 h (trl0 h c most) := (Fr_trl h c most).up1 ⟨by show (0 : Nat) ≤ 5; decide, rfl⟩
theorem cplk_eq {g : DH} {c : Nat} {s : Nat → Int32} (f : Nat → Int32) (hs : SR g 1 c s) (k : Nat) (x : Int32) : cplk g k x = mplc (rk s f k).1 (cc (rk s f k).1) x := by
  obtain ⟨⟨c', h1⟩, _⟩ := pass_SR f hs k
  unfold cplk
  rw [h1.2.1, i_cl (show c' < 2 ^ 31 by have := h1.2.2.1; omega), h1.plc x, cc_of h1.2.2.2.1 h1.2.2.1]
end
section
/-! bestAtOnce, on both sides -/
def bst (tv : Nat → Option Nat) : Nat → Option (Nat × Nat)
  | 0 => none
  | k + 1 => match tv (k + 1) with
    | none => bst tv k
    | some t => match bst tv k with
      | none => some (k + 1, t)
      | some (m, t0) => if t < t0 then some (k + 1, t) else some (m, t0)
def bI : Option (Nat × Nat) → Int32
  | none => -5
  | some (m, _) => nI m
def bL : Option (Nat × Nat) → Int32
  | none => 0
  | some (_, t) => nI t
def bM : Option (Nat × Nat) → Int32
  | none => nI 400
  | some (_, t) => nI t - 1
theorem bst_n {tv : Nat → Option Nat} {k : Nat} (h : tv (k + 1) = none) : bst tv (k + 1) = bst tv k := by
  show (match tv (k + 1) with
    | none => bst tv k
    | some t => match bst tv k with
      | none => some (k + 1, t)
      | some (m, t0) => if t < t0 then some (k + 1, t) else some (m, t0)) = _
  rw [h]
theorem bst_s {tv : Nat → Option Nat} {k t : Nat} (h : tv (k + 1) = some t) : bst tv (k + 1) = match bst tv k with
      | none => some (k + 1, t)
      | some (m, t0) => if t < t0 then some (k + 1, t) else some (m, t0) := by
  show (match tv (k + 1) with
    | none => bst tv k
    | some t => match bst tv k with
      | none => some (k + 1, t)
      | some (m, t0) => if t < t0 then some (k + 1, t) else some (m, t0)) = _
  rw [h]
theorem bst_le {tv : Nat → Option Nat} (h : ∀ m t, tv m = some t → t ≤ 400) : ∀ k m t, bst tv k = some (m, t) → m ≤ k ∧ t ≤ 400 := by
  intro k
  induction k with
  | zero => intro m t e; cases e
  | succ k ih =>
    intro m t e
    cases ht : tv (k + 1) with
    | none =>
      rw [bst_n ht] at e
      have := ih m t e
      omega
    | some u =>
      rw [bst_s ht] at e
      cases hb : bst tv k with
      | none =>
        rw [hb] at e
        cases e
        exact ⟨Nat.le_refl _, h _ _ ht⟩
      | some q =>
        obtain ⟨m0, t0⟩ := q
        rw [hb] at e
        dsimp only at e
        have hq := ih m0 t0 hb
        by_cases z : u < t0
        · rw [if_pos z] at e
          cases e
          exact ⟨Nat.le_refl _, h _ _ ht⟩
        · rw [if_neg z] at e
          cases e
          omega
theorem bst_0 {tv : Nat → Option Nat} {k m : Nat} (h : bst tv k = some (m, 0)) : ∀ j, bst tv (k + j) = some (m, 0) := by
  intro j
  induction j with
  | zero => exact h
  | succ j ih =>
    rw [show k + (j + 1) = k + j + 1 from rfl]
    cases ht : tv (k + j + 1) with
    | none => rw [bst_n ht]; exact ih
    | some u =>
      rw [bst_s ht, ih]
      exact if_neg (by omega)
theorem wip_12 {m : Nat} (h1 : 1 ≤ m) (h2 : m ≤ 12) : wip (nI m) 1 12 := ⟨nI_nlt h1 (by omega), nI_nlt h2 (by decide)⟩
theorem c_best (n : Nat) (h : DH) {c : Nat} {s f : Nat → Int32} {tv : Nat → Option Nat} (hs : SR h 0 c s) (w : WF h 1) (htv : ∀ m, tv m = tvv (upd s 8 (nI m)) f) : ∃ g, dEx (n + 6) 84 [.inr (6, 0, 0)] h (some (.inl (bI (bst tv 12))), g) ∧ Fr 1 h g ∧ WF g 1 := by
  have tv4 : ∀ m t, tv m = some t → t ≤ 400 := fun m t e => (tvv_some ((htv m).symm.trans e)).1
  have ex : ∃ r, (∃ g, r = ((some (.inl (bI (bst tv 12))) : Option DV), g) ∧ Fr 1 h g ∧ WF g 1) ∧ Runs dT_84 (dEx (n + 5)) (14, [some (.inr (6, 0, 0)), some (.inl (bI (bst tv 0))), some (.inl (bM (bst tv 0))), some (.inl (nI 1)), none], [], h) r := by
    refine Runs.ex 12 (fun r => ∃ g, r = ((some (.inl (bI (bst tv 12))) : Option DV), g) ∧ Fr 1 h g ∧ WF g 1) (fun k A => ∃ (x4 : Option DV) (g : DH), A = (14, [some (.inr (6, 0, 0)), some (.inl (bI (bst tv k))), some (.inl (bM (bst tv k))), some (.inl (nI (k + 1))), x4], [], g) ∧ Fr 1 h g ∧ WF g 1) ?_ ?_ _ ⟨none, h, rfl, Fr.rf, w⟩
    · rintro k A hk ⟨x4, g, rfl, F, wg⟩
      by_cases z : bM (bst tv k) < 0
      · refine Or.inl ⟨(some (.inl (bI (bst tv 12))), g), ⟨g, rfl, F, wg⟩, ?_⟩
        have e12 : bst tv 12 = bst tv k := by
          cases hb : bst tv k with
          | none =>
            rw [hb] at z
            exact absurd z (by decide)
          | some q =>
            obtain ⟨m, t⟩ := q
            rw [hb] at z
            have t4 := (bst_le tv4 k m t hb).2
            have t0 : t = 0 := by
              refine Decidable.byContradiction fun u => ?_
              have z : nI t - 1 < 0 := z
              rw [nIm1 (by omega)] at z
              exact nI_n0 (by omega) z
            subst t0
            have := bst_0 hb (12 - k)
            rw [show k + (12 - k) = 12 by omega] at this
            exact this
        rw [e12]
        refine Runs.go 5 rfl ⟨trivial, (by unfold vp_in; decide)⟩ ?_
        refine Runs.ifF (show ¬ (12 : Int32) < nI (k + 1) from nI_nlt (show k + 1 ≤ 12 by omega) (by decide)) ?_
        refine Runs.go 2 rfl trivial ?_
        refine Runs.ifT z ?_
        refine Runs.go 1 rfl trivial ?_
        exact Runs.fin rfl trivial
      · have hL : ∃ L, L ≤ 400 ∧ bM (bst tv k) = nI L ∧ (∀ m t, bst tv k = some (m, t) → L + 1 = t) ∧ (bst tv k = none → L = 400) := by
          cases hb : bst tv k with
          | none => exact ⟨400, Nat.le_refl _, rfl, fun m t e => (by cases e), fun _ => rfl⟩
          | some q =>
            obtain ⟨m, t⟩ := q
            rw [hb] at z
            have t4 := (bst_le tv4 k m t hb).2
            have t0 : t ≠ 0 := fun u => z (by rw [u]; show (nI 0 - 1 : Int32) < 0; decide)
            exact ⟨t - 1, by omega, nIm1 (by omega), fun m' t' e => (by cases e; omega), fun e => (by cases e)⟩
        obtain ⟨L, hL4, eL, hLs, hLn⟩ := hL
        have hg := hs.fr (F.e5 (show 0 ≠ 1 by decide))
        have hT := trl_SR hg wg (wip_12 (show 1 ≤ k + 1 by omega) (by omega))
        obtain ⟨N, hu⟩ := c_untilR n (nI (k + 1)) g (f := f) hg.cp_ok hT hL4
        rw [← htv] at hu
        have F2 := F.tr (Fr_pk (Fr_trl g c (nI (k + 1))) N)
        have w2 := pk_wf hT N
        generalize pk (trl g c (nI (k + 1))) 1 N = g2 at hu F2 w2
        have run : ∀ (B : DS) (r : DRes), (∀ v : Int32, v = tvL (tv (k + 1)) L → Runs dT_84 (dEx (n + 5)) (34, [some (.inr (6, 0, 0)), some (.inl (bI (bst tv k))), some (.inl (nI L)), some (.inl (nI (k + 1))), x4], [.inl v], g2) r) → Runs dT_84 (dEx (n + 5)) (14, [some (.inr (6, 0, 0)), some (.inl (bI (bst tv k))), some (.inl (bM (bst tv k))), some (.inl (nI (k + 1))), x4], [], g) r := by
          intro B r hr
          rw [eL] at z ⊢
          refine Runs.go 5 rfl ⟨trivial, (by unfold vp_in; decide)⟩ ?_
          refine Runs.ifF (show ¬ (12 : Int32) < nI (k + 1) from nI_nlt (show k + 1 ≤ 12 by omega) (by decide)) ?_
          refine Runs.go 2 rfl trivial ?_
          refine Runs.ifF z ?_
          refine Runs.go 3 rfl trivial ?_
          refine Runs.cal rfl hu ?_
          exact hr _ rfl
        refine Or.inr ?_
        by_cases z5 : tvL (tv (k + 1)) L = -5
        · have eb : bst tv (k + 1) = bst tv k := by
            cases ht : tv (k + 1) with
            | none => exact bst_n ht
            | some t =>
              rw [bst_s ht]
              rw [ht] at z5
              have t4 := tv4 _ _ ht
              have tL : ¬ t ≤ L := fun u => by
                unfold tvL at z5
                dsimp only at z5
                rw [if_pos u] at z5
                exact nI_m5 (by omega) z5
              cases hb : bst tv k with
              | none => exact absurd (hLn hb) (by omega)
              | some q =>
                obtain ⟨m, t0⟩ := q
                have := hLs m t0 hb
                exact if_neg (by omega)
          refine ⟨_, ⟨some (.inl (tvL (tv (k + 1)) L)), g2, rfl, F2, w2⟩, fun r hr => run (14, [], [], g2) r (fun v hv => ?_)⟩
          rw [eb, eL] at hr
          subst hv
          refine Runs.go 4 rfl trivial ?_
          refine Runs.ifT z5 ?_
          refine Runs.go 2 rfl trivial ?_
          rw [nI_1]
          exact hr
        · have ht : ∃ t, tv (k + 1) = some t ∧ t ≤ L := by
            cases ht : tv (k + 1) with
            | none => rw [ht] at z5; exact absurd rfl z5
            | some t =>
              rw [ht] at z5
              refine ⟨t, rfl, Decidable.byContradiction fun u => z5 ?_⟩
              unfold tvL
              dsimp only
              rw [if_neg u]
          obtain ⟨t, ht, tL⟩ := ht
          have ev : tvL (tv (k + 1)) L = nI t := by
            rw [ht]
            unfold tvL
            dsimp only
            rw [if_pos tL]
          have eb : bst tv (k + 1) = some (k + 1, t) := by
            rw [bst_s ht]
            cases hb : bst tv k with
            | none => rfl
            | some q =>
              obtain ⟨m, t0⟩ := q
              have := hLs m t0 hb
              exact if_pos (by omega)
          refine ⟨_, ⟨some (.inl (tvL (tv (k + 1)) L)), g2, rfl, F2, w2⟩, fun r hr => run (14, [], [], g2) r (fun v hv => ?_)⟩
          rw [eb] at hr
          subst hv
          refine Runs.go 4 rfl trivial ?_
          refine Runs.ifF z5 ?_
          refine Runs.go 8 rfl trivial ?_
          rw [nI_1]
          rw [ev] at hr ⊢
          exact hr
    · rintro A ⟨x4, g, rfl, F, wg⟩
      refine ⟨(some (.inl (bI (bst tv 12))), g), ⟨g, rfl, F, wg⟩, ?_⟩
      generalize bI (bst tv 12) = v
      generalize bM (bst tv 12) = v2
      refine Runs.go 5 rfl ⟨trivial, (by unfold vp_in; decide)⟩ ?_
      refine Runs.ifT (show (12 : Int32) < nI (12 + 1) by decide) ?_
      refine Runs.go 1 rfl trivial ?_
      exact Runs.fin rfl trivial
  obtain ⟨r, ⟨g, rfl, F, wg⟩, hrun⟩ := ex
  refine ⟨g, ?_, F, wg⟩
  refine dx_84 ?_
  refine Runs.go 8 rfl ⟨trivial, (by unfold vp_in; decide)⟩ ?_
  exact hrun
end
section
/-! the property of its own: what its law asks of a row beside what whole's relation gives -/
def nS (g : Nat → Nat) : Nat → Nat
  | 0 => 0
  | n + 1 => nS g n + g n
theorem nS_cg {f g : Nat → Nat} : ∀ n, (∀ e, e < n → f e = g e) → nS f n = nS g n := by
  intro n
  induction n with
  | zero => intro _; rfl
  | succ n ih =>
    intro h
    show nS f n + f n = nS g n + g n
    rw [ih (fun e he => h e (by omega)), h n (by omega)]
theorem nS_le {f g : Nat → Nat} : ∀ n, (∀ e, e < n → f e ≤ g e) → nS f n ≤ nS g n := by
  intro n
  induction n with
  | zero => intro _; exact Nat.le_refl _
  | succ n ih =>
    intro h
    show nS f n + f n ≤ nS g n + g n
    have h1 := ih (fun e he => h e (by omega))
    have h2 := h n (by omega)
    omega
theorem nS_ch {f g : Nat → Nat} {d : Nat} : ∀ n, d < n → (∀ e, e < n → e ≠ d → f e = g e) → nS f n + g d = nS g n + f d := by
  intro n
  induction n with
  | zero => intro h; omega
  | succ n ih =>
    intro hd h
    show nS f n + f n + g d = nS g n + g n + f d
    by_cases z : d = n
    · subst z
      rw [nS_cg d (fun e he => h e (by omega) (by omega))]
      omega
    · have h1 := ih (by omega) (fun e he hne => h e (by omega) hne)
      have h2 := h n (by omega) (fun t => z t.symm)
      omega
theorem sumN_nS {f : Nat → Int32} {g : Nat → Nat} : ∀ n, (∀ e, e < n → f e = nI (g e)) → sumN f n = nI (nS g n) := by
  intro n
  induction n with
  | zero => intro _; rfl
  | succ n ih =>
    intro h
    show sumN f n + f n = nI (nS g n + g n)
    rw [ih (fun e he => h e (by omega)), h n (by omega), nI_add]
def isS (s : Nat → Int32) (e : Nat) : Nat := if s (oD e 0) = 1 then 1 else 0
def Q1 (s : Nat → Int32) : Prop := ∀ e, e < 12 → s (oD e 0) = 3 → s (oD e 2) = 3
/-- the numbers of the reads grow, and none is asked for yet -/
def Q2 (A : Int32) (L : List R5) : Prop := L.Pairwise (fun a b => a.1 < b.1) ∧ ∀ r ∈ L, ¬ r.1 < 0 ∧ r.1 < A
/-- each read was asked for before -/
def Q3 (t : Int32) (L : List R5) : Prop := ∀ r ∈ L, ¬ r.2.2.2.2 < 0 ∧ ¬ t < r.2.2.2.2
def Q4 (s : Nat → Int32) (c : Nat) : Prop := ∃ a b A : Nat, s 12 = nI A ∧ s 13 = nI a ∧ s 14 = nI b ∧ a + b + c ≤ A ∧ A ≤ 500
def Q5 (s : Nat → Int32) (B : Nat) : Prop := ∃ (σ : Nat → Nat) (S F : Nat), (∀ e, e < 12 → s (oD e 5) = nI (σ e)) ∧ nS σ 12 ≤ S ∧ F + nS (isS s) 12 ≤ S ∧ s 18 = nI S ∧ s 19 = nI F ∧ S ≤ B
def Q6 (s : Nat → Int32) (T : Nat) : Prop := ∃ a W : Nat, a ≤ 500 ∧ s 13 = nI a ∧ s 20 = nI W ∧ W ≤ a * T
def QI (T : Nat) (s : Nat → Int32) : Prop := s 10 = nI T ∧ T ≤ 110000 ∧ Q1 s ∧ Q2 (s 12) (LM s (cc s)) ∧ Q3 (s 10) (LM s (cc s)) ∧ Q4 s (cc s) ∧ Q5 s (12 * T) ∧ Q6 s T ∧ ¬ s 11 < 0
theorem Q1.cg {s s' : Nat → Int32} (h : Q1 s) (e : ∀ d, d < 12 → s' (oD d 0) = 3 → (s (oD d 0) = 3 ∧ s' (oD d 2) = s (oD d 2)) ∨ s' (oD d 2) = 3) : Q1 s' := fun d hd h3 => by
  rcases e d hd h3 with ⟨a, b⟩ | a
  · rw [b]; exact h d hd a
  · exact a
theorem Q5.cg {s s' : Nat → Int32} {B B' : Nat} (h : Q5 s B) (hB : B ≤ B') (e0 : ∀ d, d < 12 → s' (oD d 0) = 1 → s (oD d 0) = 1) (e5 : ∀ d, d < 12 → s' (oD d 5) = s (oD d 5) ∨ s' (oD d 5) = 0) (e18 : s' 18 = s 18) (e19 : s' 19 = s 19) : Q5 s' B' := by
  obtain ⟨σ, S, F, h1, h2, h3, h4, h5, h6⟩ := h
  refine ⟨fun d => if s' (oD d 5) = 0 then 0 else σ d, S, F, fun d hd => ?_, Nat.le_trans (nS_le 12 (fun d _ => ?_)) h2, Nat.le_trans (Nat.add_le_add_left (nS_le 12 (fun d hd => ?_)) F) h3, e18.trans h4, e19.trans h5, Nat.le_trans h6 hB⟩
  · show s' (oD d 5) = nI (if s' (oD d 5) = 0 then 0 else σ d)
    by_cases z : s' (oD d 5) = 0
    · rw [if_pos z, z]; rfl
    · rw [if_neg z]
      exact ((e5 d hd).resolve_right z).trans (h1 d hd)
  · split <;> omega
  · unfold isS
    by_cases z : s' (oD d 0) = 1
    · rw [if_pos z, if_pos (e0 d hd z)]
      exact Nat.le_refl _
    · rw [if_neg z]
      omega
/-- a start failed -/
theorem Q5.fail {s s' : Nat → Int32} {B d : Nat} (h : Q5 s B) (hd : d < 12) (z : s (oD d 0) = 1) (z' : ¬ s' (oD d 0) = 1) (e0 : ∀ e, e < 12 → e ≠ d → s' (oD e 0) = s (oD e 0)) (e5 : ∀ e, e < 12 → s' (oD e 5) = s (oD e 5)) (e18 : s' 18 = s 18) (e19 : s' 19 = s 19 + 1) : Q5 s' B := by
  obtain ⟨σ, S, F, h1, h2, h3, h4, h5, h6⟩ := h
  refine ⟨σ, S, F + 1, fun e he => (e5 e he).trans (h1 e he), h2, ?_, e18.trans h4, by rw [e19, h5, nI_1], h6⟩
  have := nS_ch (f := isS s') (g := isS s) (d := d) 12 hd (fun e he hne => by unfold isS; rw [e0 e he hne])
  have a1 : isS s d = 1 := if_pos z
  have a2 : isS s' d = 0 := if_neg z'
  omega
/-- a start begins -/
theorem Q5.start {s s' : Nat → Int32} {B d : Nat} (h : Q5 s B) (hd : d < 12) (z : ¬ s (oD d 0) = 1) (e0 : ∀ e, e < 12 → e ≠ d → s' (oD e 0) = s (oD e 0)) (e5 : ∀ e, e < 12 → e ≠ d → s' (oD e 5) = s (oD e 5)) (e5' : s' (oD d 5) = s (oD d 5) + 1) (e18 : s' 18 = s 18 + 1) (e19 : s' 19 = s 19) : Q5 s' (B + 1) := by
  obtain ⟨σ, S, F, h1, h2, h3, h4, h5, h6⟩ := h
  refine ⟨fun e => if e = d then σ d + 1 else σ e, S + 1, F, fun e he => ?_, ?_, ?_, by rw [e18, h4, nI_1], e19.trans h5, by omega⟩
  · show s' (oD e 5) = nI (if e = d then σ d + 1 else σ e)
    by_cases q : e = d
    · subst q; rw [if_pos rfl, e5', h1 e he, nI_1]
    · rw [if_neg q, e5 e he q]; exact h1 e he
  · have := nS_ch (f := fun e => if e = d then σ d + 1 else σ e) (g := σ) (d := d) 12 hd (fun e _ hne => if_neg hne)
    rw [if_pos rfl] at this
    omega
  · have := nS_ch (f := isS s') (g := isS s) (d := d) 12 hd (fun e he hne => by unfold isS; rw [e0 e he hne])
    have a1 : isS s d = 0 := if_neg z
    have a2 : isS s' d ≤ 1 := by unfold isS; split <;> omega
    omega
theorem Q2.sub {A : Int32} {L L' : List R5} (h : Q2 A L) (hs : L'.Sublist L) : Q2 A L' := ⟨h.1.sublist hs, fun r hr => h.2 r (hs.subset hr)⟩
theorem Q3.sub {t : Int32} {L L' : List R5} (h : Q3 t L) (hs : ∀ r ∈ L', r ∈ L) : Q3 t L' := fun r hr => h r (hs r hr)
/-- number, disk and hour of a read -/
def k3 (r : R5) : Int32 × Int32 × Int32 := (r.1, r.2.1, r.2.2.2.2)
theorem Q2.via {A : Int32} {L L' : List R5} (h : Q2 A L) (hs : (L'.map k3).Sublist (L.map k3)) : Q2 A L' := by
  have h1 : (L.map k3).Pairwise (fun a b => a.1 < b.1) := by
    rw [List.pairwise_map]
    exact h.1
  have h2 := h1.sublist hs
  rw [List.pairwise_map] at h2
  refine ⟨h2, fun r hr => ?_⟩
  have := hs.subset (List.mem_map_of_mem hr)
  obtain ⟨r', hr', e⟩ := List.mem_map.mp this
  have e1 : r'.1 = r.1 := congrArg (fun q => q.1) e
  rw [← e1]
  exact h.2 r' hr'
theorem Q3.via {t : Int32} {L L' : List R5} (h : Q3 t L) (hs : (L'.map k3).Sublist (L.map k3)) : Q3 t L' := fun r hr => by
  have := hs.subset (List.mem_map_of_mem hr)
  obtain ⟨r', hr', e⟩ := List.mem_map.mp this
  have e1 : r'.2.2.2.2 = r.2.2.2.2 := congrArg (fun q => q.2.2) e
  rw [← e1]
  exact h r' hr'
theorem Q3.mono {t t' : Int32} {L : List R5} (h : Q3 t L) (ht : t ≤ t') : Q3 t' L := fun r hr => ⟨(h r hr).1, fun q => (h r hr).2 (Int32.lt_of_le_of_lt ht q)⟩
end
section
/-! a tick's starts, on a row: what the property asks -/
theorem cntD_fil (x : Int32) : ∀ L : List R5, (L.filter (fun r => decide (dk5 r ≠ x))).length + cntD x L = L.length := by
  intro L
  induction L with
  | nil => rfl
  | cons a L ih =>
    rw [cntD_cons, List.filter_cons, List.length_cons]
    by_cases z : dk5 a = x
    · rw [if_pos z, if_neg (by simpa using z)]
      omega
    · rw [if_neg z, if_pos (by simpa using z), List.length_cons]
      omega
/-- p' is p but for disk d and the failed starts -/
def dd (d : Nat) (p p' : Nat → Int32) : Prop := ∀ k, (∀ w, w < 6 → k ≠ oD d w) → k ≠ 19 → p' k = p k
theorem dd.lo {d : Nat} {p p' : Nat → Int32} (h : dd d p p') {k : Nat} (hk : k < 21 ∨ 93 ≤ k) (h19 : k ≠ 19) (hd : d < 12) : p' k = p k := h k (fun w hw => by unfold oD; omega) h19
theorem dd.e {d e w : Nat} {p p' : Nat → Int32} (h : dd d p p') (hne : e ≠ d) (hw : w < 6) : p' (oD e w) = p (oD e w) := h _ (fun w' hw' => by unfold oD; omega) (by unfold oD; omega)
theorem dd.xcc {d : Nat} {p p' : Nat → Int32} (h : dd d p p') (hd : d < 12) : cc p' = cc p := cc_cg (h.lo (Or.inr (by decide)) (by decide) hd)
theorem dd.xL {d : Nat} {p p' : Nat → Int32} (h : dd d p p') (hd : d < 12) (c : Nat) : LM p' c = LM p c := LM_cg (fun k hk _ => h.lo (Or.inr (by omega)) (by omega) hd)
theorem dd.rf {d : Nat} {p : Nat → Int32} : dd d p p := fun _ _ _ => rfl
theorem dd.u {d w : Nat} {p p' : Nat → Int32} (h : dd d p p') (hw : w < 6) (x : Int32) : dd d p (upd p' (oD d w) x) := fun k hk h19 => by
  rw [upd_n _ _ (hk w hw)]
  exact h k hk h19
theorem dd.u19 {d : Nat} {p p' : Nat → Int32} (h : dd d p p') (x : Int32) : dd d p (upd p' 19 x) := fun k hk h19 => by
  rw [upd_n _ _ h19]
  exact h k hk h19
theorem dd.sb {d : Nat} {p p' : Nat → Int32} (h : dd d p p') : dd d p (mSb p' d) := ((h.u (by decide) 0).u (by decide) 0).u (by decide) 0
def PA (s : Nat → Int32) (B d : Nat) (p : Nat → Int32) : Prop :=
  okC p ∧ (LM p (cc p)).Sublist (LM s (cc s)) ∧ p 14 = s 14 + nI (cc s - cc p) ∧ cc p ≤ cc s ∧
  (∀ r ∈ LM s (cc s), r ∈ LM p (cc p) ∨ ∃ e, e < d ∧ dk5 r = nI e ∧ p (oD e 0) = 3) ∧
  (∀ k, k < 21 → k ≠ 14 → k ≠ 19 → p k = s k) ∧ Q1 p ∧ Q5 p B ∧ (∀ e, d ≤ e → e < 12 → ∀ w, w < 6 → p (oD e w) = s (oD e w)) ∧ ∀ e, e < 12 → s (oD e 0) = 3 → p (oD e 0) = 3
theorem PA.step {s p p' : Nat → Int32} {B d : Nat} (h : PA s B d p) (hd : d < 12) (h1 : okC p') (h2 : (LM p' (cc p')).Sublist (LM p (cc p))) (h3 : p' 14 = p 14 + nI (cc p - cc p')) (h4 : cc p' ≤ cc p) (h5 : ∀ r ∈ LM p (cc p), r ∈ LM p' (cc p') ∨ (dk5 r = nI d ∧ p' (oD d 0) = 3)) (h6 : ∀ k, k < 21 → k ≠ 14 → k ≠ 19 → p' k = p k) (h7 : Q1 p') (h8 : Q5 p' B) (h9 : ∀ e, e < 12 → e ≠ d → ∀ w, w < 6 → p' (oD e w) = p (oD e w)) (h10 : p (oD d 0) = 3 → p' (oD d 0) = 3) : PA s B (d + 1) p' := by
  obtain ⟨g1, g2, g3, g4, g5, g6, g7, g8, g9, g10⟩ := h
  refine ⟨h1, h2.trans g2, ?_, Nat.le_trans h4 g4, fun r hr => ?_, fun k hk k1 k2 => (h6 k hk k1 k2).trans (g6 k hk k1 k2), h7, h8, fun e he he2 w hw => (h9 e he2 (by omega) w hw).trans (g9 e (by omega) he2 w hw), fun e he h3e => ?_⟩
  · rw [h3, g3, Int32.add_assoc, nI_add]
    congr 2
    omega
  · rcases g5 r hr with q | ⟨e, e1, e2, e3⟩
    · rcases h5 r q with q | ⟨q1, q2⟩
      · exact Or.inl q
      · exact Or.inr ⟨d, by omega, q1, q2⟩
    · exact Or.inr ⟨e, by omega, e2, by rw [h9 e (by omega) (by omega) 0 (by decide)]; exact e3⟩
  · by_cases z : e = d
    · subst z; exact h10 (g10 e he h3e)
    · rw [h9 e he z 0 (by decide)]; exact g10 e he h3e
theorem PA.same {s p p' : Nat → Int32} {B d : Nat} (h : PA s B d p) (hd : d < 12) (hh : dd d p p') (h7 : Q1 p') (h8 : Q5 p' B) (h10 : p (oD d 0) = 3 → p' (oD d 0) = 3) : PA s B (d + 1) p' := by
  have e1 := hh.xcc hd
  have e2 : LM p' (cc p') = LM p (cc p) := by rw [e1, hh.xL hd]
  refine h.step hd (h.1.of (hh.lo (Or.inr (by decide)) (by decide) hd)) (by rw [e2]; exact List.Sublist.refl _) ?_ (by rw [e1]; exact Nat.le_refl _) (fun r hr => Or.inl (by rw [e2]; exact hr)) (fun k hk _ k2 => hh.lo (Or.inl hk) k2 hd) h7 h8 (fun e _ he w hw => hh.e he hw) h10
  rw [hh.lo (Or.inl (by decide)) (by decide) hd, e1, Nat.sub_self, show nI 0 = 0 from rfl, Int32.add_zero]
theorem PA_step {s : Nat → Int32} {B d : Nat} (hd : d < 12) (q : (Nat → Int32) × (Nat → Int32)) (h : PA s B d q.1) : PA s B (d + 1) (stMB d q).1 := by
  obtain ⟨p, f⟩ := q
  unfold stMB
  dsimp only at h ⊢
  have h7 := h.2.2.2.2.2.2.1
  have h8 := h.2.2.2.2.2.2.2.1
  by_cases z : p (oD d 0) = 1
  · rw [if_pos z]
    have n3 : ¬ p (oD d 0) = 3 := by rw [z]; decide
    generalize hx : p (oD d 1) - 1 = x
    have D1 : dd d p (upd p (oD d 1) x) := dd.rf.u (by decide) x
    by_cases z1 : x = 0
    · rw [if_pos z1]
      unfold endM
      dsimp only
      by_cases z4 : upd p (oD d 1) x (oD d 4) = 0
      · rw [if_pos z4]
        dsimp only
        have D2 := ((D1.u (show 0 < 6 by decide) 2).u (show 2 < 6 by decide) 0).u (show 3 < 6 by decide) 0
        have v0 : upd (upd (upd (upd p (oD d 1) x) (oD d 0) 2) (oD d 2) 0) (oD d 3) 0 (oD d 0) = 2 := by rw [upd_n _ _ (by unfold oD; omega), upd_n _ _ (by unfold oD; omega), upd_s]
        have v5 : upd (upd (upd (upd p (oD d 1) x) (oD d 0) 2) (oD d 2) 0) (oD d 3) 0 (oD d 5) = p (oD d 5) := by rw [upd_n _ _ (by unfold oD; omega), upd_n _ _ (by unfold oD; omega), upd_n _ _ (by unfold oD; omega), upd_n _ _ (by unfold oD; omega)]
        have v19 : upd (upd (upd (upd p (oD d 1) x) (oD d 0) 2) (oD d 2) 0) (oD d 3) 0 19 = p 19 := by rw [upd_n _ _ (by unfold oD; omega), upd_n _ _ (by unfold oD; omega), upd_n _ _ (by unfold oD; omega), upd_n _ _ (by unfold oD; omega)]
        generalize upd (upd (upd (upd p (oD d 1) x) (oD d 0) 2) (oD d 2) 0) (oD d 3) 0 = p' at D2 v0 v5 v19 ⊢
        refine h.same hd D2 (h7.cg (fun e he h3 => ?_)) (h8.cg (Nat.le_refl _) (fun e he h1 => ?_) (fun e he => Or.inl ?_) (D2.lo (Or.inl (by decide)) (by decide) hd) v19) (fun t => absurd t n3)
        · by_cases ze : e = d
          · rw [ze, v0] at h3; exact absurd h3 (by decide)
          · rw [D2.e ze (by decide)] at h3
            exact Or.inl ⟨h3, D2.e ze (by decide)⟩
        · by_cases ze : e = d
          · rw [ze, v0] at h1; exact absurd h1 (by decide)
          · rw [D2.e ze (by decide)] at h1; exact h1
        · by_cases ze : e = d
          · rw [ze]; exact v5
          · exact D2.e ze (by decide)
      · rw [if_neg z4]
        dsimp only
        generalize hy : upd p (oD d 1) x (oD d 2) + 1 = y
        generalize hu : upd p (oD d 1) x 19 + 1 = u
        have hu2 : u = p 19 + 1 := by rw [← hu, upd_n _ _ (by unfold oD; omega)]
        have D2 : dd d p (mSb (upd (upd (upd (upd p (oD d 1) x) (oD d 4) 0) (oD d 2) y) 19 u) d) := (((D1.u (show 4 < 6 by decide) 0).u (show 2 < 6 by decide) y).u19 u).sb
        obtain ⟨s', hs', a0, a1, a2, a3, a4, a5, a6, a7, a8⟩ := fail_val p d hd x u y
        have v5 : s' (oD d 5) = p (oD d 5) := by
          rw [← hs', mSb_v, if_neg (by omega), upd_n _ _ (by unfold oD; omega), upd_n _ _ (by unfold oD; omega), upd_n _ _ (by unfold oD; omega), upd_n _ _ (by unfold oD; omega)]
        have v19 : s' 19 = u := by
          rw [← hs', mSb_on _ _ _ (fun w hw => by unfold oD; omega), upd_s]
        rw [hs'] at D2 ⊢
        have h8' : Q5 s' B := h8.fail hd z (by rw [a0]; decide) (fun e _ hne => D2.e hne (by decide)) (fun e _ => by
          by_cases ze : e = d
          · rw [ze]; exact v5
          · exact D2.e ze (by decide)) (D2.lo (Or.inl (by decide)) (by decide) hd) (v19.trans hu2)
        by_cases zb : s' (oD d 2) = 3
        · rw [if_pos zb]
          have D3 : dd d p (upd s' (oD d 0) 3) := D2.u (by decide) 3
          have w0 : upd s' (oD d 0) 3 (oD d 0) = 3 := upd_s _ _ _
          have w2 : upd s' (oD d 0) 3 (oD d 2) = 3 := by rw [upd_n _ _ (by unfold oD; omega)]; exact zb
          have w5 : upd s' (oD d 0) 3 (oD d 5) = p (oD d 5) := by rw [upd_n _ _ (by unfold oD; omega)]; exact v5
          have w19 : upd s' (oD d 0) 3 19 = p 19 + 1 := by rw [upd_n _ _ (by unfold oD; omega)]; exact v19.trans hu2
          generalize upd s' (oD d 0) 3 = g at D3 w0 w2 w5 w19 ⊢
          have kg : okC g := h.1.of (D3.lo (Or.inr (by decide)) (by decide) hd)
          obtain ⟨b1, b2, b3⟩ := brkN_LM d 30 g kg kg.cc.2
          have kb := brkN_ok d 30 g kg
          generalize brkN d 30 g = g' at b1 b2 b3 kb ⊢
          have ec := D3.xcc hd
          have eL := D3.xL hd (cc p)
          rw [ec, eL] at b1 b2
          have l1 : cc g' = (LM g' (cc g')).length := (LM_len _ _).symm
          have l2 := cntD_fil (nI d) (LM p (cc p))
          rw [LM_len, ← b1, ← l1] at l2
          refine h.step hd kb (by rw [b1]; exact List.filter_sublist) ?_ (by omega) (fun r hr => ?_) (fun k hk k1 k2 => (b3 k (by omega) k1).trans (D3.lo (Or.inl hk) k2 hd)) (h7.cg (fun e he h3 => ?_)) (h8.fail hd z ?_ (fun e he hne => ?_) (fun e he => ?_) ?_ ?_) (fun e he hne w hw => ?_) (fun t => absurd t n3)
          · rw [b2, D3.lo (Or.inl (by decide)) (by decide) hd]
            congr 2
            omega
          · by_cases zr : dk5 r = nI d
            · exact Or.inr ⟨zr, by rw [b3 _ (by unfold oD; omega) (by unfold oD; omega)]; exact w0⟩
            · exact Or.inl (by rw [b1]; exact List.mem_filter.mpr ⟨hr, by simpa using zr⟩)
          · rw [b3 _ (by unfold oD; omega) (by unfold oD; omega)] at h3
            rw [b3 _ (by unfold oD; omega) (by unfold oD; omega)]
            by_cases ze : e = d
            · rw [ze]; exact Or.inr w2
            · rw [D3.e ze (by decide)] at h3 ⊢
              exact Or.inl ⟨h3, rfl⟩
          · rw [b3 _ (by unfold oD; omega) (by unfold oD; omega), w0]; decide
          · rw [b3 _ (by unfold oD; omega) (by unfold oD; omega)]; exact D3.e hne (by decide)
          · rw [b3 _ (by unfold oD; omega) (by unfold oD; omega)]
            by_cases ze : e = d
            · rw [ze]; exact w5
            · exact D3.e ze (by decide)
          · rw [b3 _ (by decide) (by decide)]; exact D3.lo (Or.inl (by decide)) (by decide) hd
          · rw [b3 _ (by decide) (by decide)]; exact w19
          · rw [b3 _ (by unfold oD; omega) (by unfold oD; omega)]; exact D3.e hne hw
        · rw [if_neg zb]
          refine h.same hd D2 (h7.cg (fun e he h3 => ?_)) h8' (fun t => absurd t n3)
          by_cases ze : e = d
          · rw [ze, a0] at h3; exact absurd h3 (by decide)
          · rw [D2.e ze (by decide)] at h3
            exact Or.inl ⟨h3, D2.e ze (by decide)⟩
    · rw [if_neg z1]
      have v19 : upd p (oD d 1) x 19 = p 19 := upd_n _ _ (by unfold oD; omega)
      have v0 : ∀ e w, w ≠ 1 → w < 6 → upd p (oD d 1) x (oD e w) = p (oD e w) := fun e w hw hw2 => upd_n _ _ (by unfold oD; omega)
      show PA s B (d + 1) (upd p (oD d 1) x)
      exact h.same hd D1 (h7.cg (fun e he h3 => Or.inl ⟨(v0 e 0 (by decide) (by decide)).symm.trans h3, v0 e 2 (by decide) (by decide)⟩)) (h8.cg (Nat.le_refl _) (fun e he h1 => (v0 e 0 (by decide) (by decide)).symm.trans h1) (fun e he => Or.inl (v0 e 5 (by decide) (by decide))) (D1.lo (Or.inl (by decide)) (by decide) hd) v19) (fun t => absurd t n3)
  · rw [if_neg z]
    exact h.same hd dd.rf h7 h8 id
theorem PA_all {s f : Nat → Int32} {B : Nat} (h1 : okC s) (h7 : Q1 s) (h8 : Q5 s B) : ∀ d, d ≤ 12 → PA s B d (stM s f d).1 := by
  intro d
  induction d with
  | zero => exact fun _ => show PA s B 0 s from ⟨h1, List.Sublist.refl _, by rw [Nat.sub_self]; exact (Int32.add_zero _).symm, Nat.le_refl _, fun r hr => Or.inl hr, fun _ _ _ _ => rfl, h7, h8, fun _ _ _ _ _ => rfl, fun _ _ h => h⟩
  | succ d ih => exact fun hd => PA_step (by omega) _ (ih (by omega))
end
section
/-! a tick's reads, new starts and cutting off, on a row -/
theorem read_row {h : DH} {i c : Nat} {s : Nat → Int32} {q : DH × Int32} {p : (Nat → Int32) × (Nat → Int32)} (hs : SR h i c s) (hg : RG h i c s 12 q p) : okC (rdM p.1 12) ∧ LM (rdM p.1 12) (cc (rdM p.1 12)) = pd (Ud p.1 12) (LM p.1 (cc p.1)) ∧ rdM p.1 12 13 = p.1 13 + nd (Ud p.1 12) (LM p.1 (cc p.1)) ∧ rdM p.1 12 20 = p.1 20 + wt (p.1 10 + 1) (Ud p.1 12) (LM p.1 (cc p.1)) ∧ ∀ k, k < 19 → k ≠ 13 → rdM p.1 12 k = p.1 k := by
  obtain ⟨h1, b⟩ := q
  obtain ⟨s1, f1⟩ := p
  obtain ⟨a1, a2, a3, a4, a5, a6, a7, a8, a9, a10, a11, a12⟩ := hg
  dsimp only at a1 a2 a3 a4 a5 a6 a7 a8 a9 a10 a11 a12 ⊢
  obtain ⟨z1, z2, z3, z4, z5, z6, z7, z8, z9, z10, z11⟩ := hs
  have P1 : pmi h1 i := fun a b' ha hb hab => z6 a b' ha hb (by rw [a3] at hab; exact hab)
  have rk : ∀ k, k < c → ∃ d, d < 12 ∧ dk5 (rdk h1 i k) = nI d := by
    intro k hk
    have m1 : ((LC h1 i c).map dk5)[k]? = some (dk5 (rdk h1 i k)) := by rw [List.getElem?_map, LC_at hk]; rfl
    rw [a8, z5] at m1
    have m2 := List.mem_of_getElem? m1
    obtain ⟨r, hr, hre⟩ := List.mem_map.mp m2
    obtain ⟨e, he, hed, _⟩ := z11 r hr
    exact ⟨e, he, by rw [← hre, hed]⟩
  have ro : rok h1 i c := rk
  have sp1 : ∀ e, e < 12 → (sp h1 i (nI e) = true ↔ s1 (oD e 0) = 2) := fun e he => by
    rw [sp_e he, a1.2.2 e he 0 (by decide)]
    rfl
  have hdead : ∀ r ∈ LC h1 i c, ¬ 0 < lf r → sp h1 i (dk5 r) = false := by
    intro r hr hl
    obtain ⟨e, e1, e2, e3⟩ := a7 r hr hl
    cases hh : sp h1 i (dk5 r) with
    | false => rfl
    | true =>
      rw [e2, sp1 e e1, e3] at hh
      exact absurd hh (by decide)
  have hone : ∀ r ∈ LC h1 i c, 0 < lf r → (lf r - 1 = 0 ↔ ¬ 0 < lf r - 1) := by
    intro r hr hl
    have hr' : r ∈ live (LC h1 i c) := List.mem_filter.mpr ⟨hr, by simpa using hl⟩
    rw [← a5] at hr'
    obtain ⟨e, _, _, _, l, t, l1, l2, l3, l4, _⟩ := a11 r hr'
    rw [l4, nIm1 l1, nIpos (by omega)]
    constructor
    · intro u
      have := nI_inj (by omega) (by omega) (u.trans nI_0.symm)
      omega
    · intro u
      rw [show l - 1 = 0 by omega]
      rfl
  have hz : ∀ r ∈ LC h1 i c, sp h1 i (dk5 r) = true → (lf r - 1 = 0 ↔ ¬ 0 < lf r - 1) := by
    intro r hr hsp
    refine hone r hr (Decidable.byContradiction fun hl => ?_)
    rw [hdead r hr hl] at hsp
    exact absurd hsp (by decide)
  obtain ⟨g1, g2, g3, g4, g5, g6, g7, g8, g9, g10⟩ := GR_all z3 P1 ro hz c (Nat.le_refl c)
  obtain ⟨w1, w2, w3⟩ := live_gd (LC h1 i c) (sp h1 i) hdead hone
  have hH : ∀ e, e < 12 → s1 (oD e 0) = 2 → hasD (nI e) (LC h1 i c) = hasD (nI e) (LM s1 (cc s1)) := by
    intro e he h2e
    rw [a5]
    have nd' : ∀ r ∈ LC h1 i c, dk5 r = nI e → 0 < lf r := by
      intro r hr hre
      refine Decidable.byContradiction fun hl => ?_
      have := hdead r hr hl
      rw [hre, (sp1 e he).mpr h2e] at this
      exact absurd this (by decide)
    have := cnt_live _ nd'
    cases ha : hasD (nI e) (LC h1 i c) with
    | false =>
      rw [cntD_0.mpr ha] at this
      exact (cntD_0.mp this).symm
    | true =>
      cases hb : hasD (nI e) (live (LC h1 i c)) with
      | true => rfl
      | false =>
        rw [cntD_0.mpr hb] at this
        rw [cntD_0.mp this.symm] at ha
        exact absurd ha (by decide)
  have eA : ∀ e, e < 12 → ((h1.1 (4, i, e) 0 = 2 ∧ hasD (nI e) (LC h1 i c) = true) ↔ (s1 (oD e 0) = 2 ∧ hasD (nI e) (LM s1 (cc s1)) = true)) := by
    intro e he
    rw [a1.2.2 e he 0 (by decide)]
    show s1 (oD e 0) = 2 ∧ _ ↔ _
    constructor
    · rintro ⟨u, v⟩
      exact ⟨u, by rw [← hH e he u]; exact v⟩
    · rintro ⟨u, v⟩
      exact ⟨u, by rw [hH e he u]; exact v⟩
  have R0 : RD i s1 (LM s1 (cc s1)) 0 (gr h1 i c).1 s1 := by
    obtain ⟨n1, n2, n3⟩ := pd_no (LM s1 (cc s1)) (Ud s1 0) (fun _ _ => rfl)
    refine ⟨fun n hn => by rw [g2]; exact a1.1 n hn, fun k hk hk2 hk5 hk7 => by rw [g3 k hk5 hk7]; exact a1.2.1 k hk hk2, fun e he => absurd he (by omega), fun e _ he => ⟨fun f hf hf3 => by rw [g4 e f hf3]; exact a1.2.2 e he f hf, fun _ _ => rfl, ?_⟩, a4, n1.symm, by rw [n2, Int32.add_zero], by rw [n3, Int32.add_zero], fun _ _ _ => rfl, a10, a11⟩
    rw [g5 e he, a1.2.2 e he 3 (by decide), show mf 3 = 3 from rfl]
    simp only [eA e he]
  have RA : ∀ d, d ≤ 12 → RD i s1 (LM s1 (cc s1)) d (ri (gr h1 i c).1 i (gr h1 i c).2 d) (rdM s1 d) := by
    intro d
    induction d with
    | zero => intro _; exact R0
    | succ d ih =>
      intro hd
      exact RD_step (h1 := h1) (by omega) (by rw [g6 d (by omega), eA d (by omega)]) (ih (by omega))
  obtain ⟨r1, r2, r3, r4, r5, r6, r7, r8, r9, r10, r11⟩ := RA 12 (Nat.le_refl _)
  exact ⟨r5, r6, r7, r8, r9⟩
theorem rdMB_D {d : Nat} (hd : d < 12) (s : Nat → Int32) : (∀ e w, e < 12 → w < 6 → w ≠ 0 → w ≠ 1 → w ≠ 3 → rdMB d s (oD e w) = s (oD e w)) ∧ (∀ e, e < 12 → rdMB d s (oD e 0) = s (oD e 0) ∨ (s (oD e 0) = 2 ∧ rdMB d s (oD e 0) = 0)) ∧ rdMB d s 19 = s 19 := by
  have key : ∀ k, k < 93 → k ≠ 13 → k ≠ 20 → (∀ w, w < 6 → (w = 0 ∨ w = 1 ∨ w = 3) → k ≠ oD d w) → rdMB d s k = s k := by
    intro k hk h13 h20 hw
    have w0 := hw 0 (by decide) (Or.inl rfl)
    have w1 := hw 1 (by decide) (Or.inr (Or.inl rfl))
    have w3 := hw 3 (by decide) (Or.inr (Or.inr rfl))
    unfold rdMB
    by_cases z2 : s (oD d 0) = 2
    · rw [if_pos z2]
      cases hm : mfst s (cc s) (nI d) with
      | some p =>
        dsimp only
        split
        · rw [mrm_lo hk]
          unfold rdM2
          rw [upd_n _ _ h20, upd_n _ _ h13, upd_n _ _ (by unfold oR; omega), upd_n _ _ w3]
        · rw [upd_n _ _ (by unfold oR; omega), upd_n _ _ w3]
      | none =>
        dsimp only
        split
        · rw [upd_n _ _ w3]
        · split
          · rw [upd_n _ _ w3]
          · unfold mSb
            rw [upd_n _ _ w3, upd_n _ _ w1, upd_n _ _ w0, upd_n _ _ w3]
    · rw [if_neg z2]
  refine ⟨fun e w he hw h0 h1 h3 => key _ (by unfold oD; omega) (by unfold oD; omega) (by unfold oD; omega) (fun w' hw' z => by unfold oD; omega), fun e he => ?_, key 19 (by decide) (by decide) (by decide) (fun w _ _ => by unfold oD; omega)⟩
  by_cases ze : e = d
  · subst ze
    unfold rdMB
    have n3 : oD e 0 ≠ oD e 3 := by unfold oD; omega
    by_cases z2 : s (oD e 0) = 2
    · rw [if_pos z2]
      cases hm : mfst s (cc s) (nI e) with
      | some p =>
        dsimp only
        split
        · rw [mrm_lo (by unfold oD; omega)]
          unfold rdM2
          rw [upd_n _ _ (by unfold oD; omega), upd_n _ _ (by unfold oD; omega), upd_n _ _ (by unfold oR oD; omega), upd_n _ _ n3]
          exact Or.inl rfl
        · rw [upd_n _ _ (by unfold oR oD; omega), upd_n _ _ n3]
          exact Or.inl rfl
      | none =>
        dsimp only
        split
        · rw [upd_n _ _ n3]; exact Or.inl rfl
        · split
          · rw [upd_n _ _ n3]; exact Or.inl rfl
          · rw [mSb_v, if_pos (Or.inl rfl)]
            exact Or.inr ⟨z2, rfl⟩
    · rw [if_neg z2]
      exact Or.inl rfl
  · exact Or.inl (key _ (by unfold oD; omega) (by unfold oD; omega) (by unfold oD; omega) (fun w' hw' z => by unfold oD; omega))
theorem rdM_D (s : Nat → Int32) : ∀ d, d ≤ 12 → (∀ e w, e < 12 → w < 6 → w ≠ 0 → w ≠ 1 → w ≠ 3 → rdM s d (oD e w) = s (oD e w)) ∧ (∀ e, e < 12 → rdM s d (oD e 0) = s (oD e 0) ∨ (s (oD e 0) = 2 ∧ rdM s d (oD e 0) = 0)) ∧ rdM s d 19 = s 19 := by
  intro d
  induction d with
  | zero => exact fun _ => ⟨fun _ _ _ _ _ _ _ => rfl, fun _ _ => Or.inl rfl, rfl⟩
  | succ d ih =>
    intro hd
    obtain ⟨a1, a2, a3⟩ := ih (by omega)
    obtain ⟨b1, b2, b3⟩ := rdMB_D (show d < 12 by omega) (rdM s d)
    refine ⟨fun e w he hw h0 h1 h3 => (b1 e w he hw h0 h1 h3).trans (a1 e w he hw h0 h1 h3), fun e he => ?_, b3.trans a3⟩
    show rdMB d (rdM s d) (oD e 0) = _ ∨ _ ∧ rdMB d (rdM s d) (oD e 0) = 0
    rcases b2 e he with q | ⟨q1, q2⟩
    · rw [q]; exact a2 e he
    · rcases a2 e he with u | ⟨u1, u2⟩
      · rw [u] at q1
        exact Or.inr ⟨q1, q2⟩
      · rw [u2] at q1; exact absurd q1 (by decide)
def PC (s : Nat → Int32) (B d : Nat) (p : Nat → Int32) : Prop :=
  (∀ k, 93 ≤ k → p k = s k) ∧ (∀ k, k < 21 → k ≠ 18 → p k = s k) ∧ Q1 p ∧ Q5 p (B + d) ∧ ∀ e, e < 12 → (p (oD e 0) = 3 ↔ s (oD e 0) = 3)
theorem PC_step {s f p : Nat → Int32} {B d : Nat} (hd : d < 12) (h : PC s B d p) : PC s B (d + 1) (nsMB f d p) := by
  obtain ⟨h1, h2, h3, h4, h5⟩ := h
  unfold nsMB
  split
  · rename_i z
    obtain ⟨z0, -⟩ := z
    have k0 : ∀ k, k ≠ oD d 0 → k ≠ oD d 1 → k ≠ oD d 5 → k ≠ 18 → upd (upd (upd (upd p (oD d 0) 1) (oD d 1) (p 0)) (oD d 5) (p (oD d 5) + 1)) 18 (p 18 + 1) k = p k := fun k a b c e => by rw [upd_n _ _ e, upd_n _ _ c, upd_n _ _ b, upd_n _ _ a]
    have v0 : upd (upd (upd (upd p (oD d 0) 1) (oD d 1) (p 0)) (oD d 5) (p (oD d 5) + 1)) 18 (p 18 + 1) (oD d 0) = 1 := by rw [upd_n _ _ (by unfold oD; omega), upd_n _ _ (by unfold oD; omega), upd_n _ _ (by unfold oD; omega), upd_s]
    have v5 : upd (upd (upd (upd p (oD d 0) 1) (oD d 1) (p 0)) (oD d 5) (p (oD d 5) + 1)) 18 (p 18 + 1) (oD d 5) = p (oD d 5) + 1 := by rw [upd_n _ _ (by unfold oD; omega), upd_s]
    have v18 : upd (upd (upd (upd p (oD d 0) 1) (oD d 1) (p 0)) (oD d 5) (p (oD d 5) + 1)) 18 (p 18 + 1) 18 = p 18 + 1 := upd_s _ _ _
    generalize upd (upd (upd (upd p (oD d 0) 1) (oD d 1) (p 0)) (oD d 5) (p (oD d 5) + 1)) 18 (p 18 + 1) = p' at k0 v0 v5 v18 ⊢
    have ke : ∀ e w, e ≠ d → w < 6 → p' (oD e w) = p (oD e w) := fun e w he hw => k0 _ (by unfold oD; omega) (by unfold oD; omega) (by unfold oD; omega) (by unfold oD; omega)
    refine ⟨fun k hk => (k0 k (by unfold oD; omega) (by unfold oD; omega) (by unfold oD; omega) (by omega)).trans (h1 k hk), fun k hk h18 => (k0 k (by unfold oD; omega) (by unfold oD; omega) (by unfold oD; omega) h18).trans (h2 k hk h18), h3.cg (fun e he q => ?_), h4.start hd (by rw [z0]; decide) (fun e _ he => ke e 0 he (by decide)) (fun e _ he => ke e 5 he (by decide)) v5 v18 (k0 19 (by unfold oD; omega) (by unfold oD; omega) (by unfold oD; omega) (by decide)), fun e he => ?_⟩
    · by_cases ze : e = d
      · rw [ze, v0] at q; exact absurd q (by decide)
      · rw [ke e 0 ze (by decide)] at q
        exact Or.inl ⟨q, ke e 2 ze (by decide)⟩
    · rw [← h5 e he]
      by_cases ze : e = d
      · rw [ze, v0, z0]
        exact ⟨fun t => absurd t (by decide), fun t => absurd t (by decide)⟩
      · rw [ke e 0 ze (by decide)]
  · exact ⟨h1, h2, h3, h4.cg (by omega) (fun _ _ q => q) (fun _ _ => Or.inl rfl) rfl rfl, h5⟩
theorem PC_all {s f : Nat → Int32} {B : Nat} (h7 : Q1 s) (h8 : Q5 s B) : ∀ d, d ≤ 12 → PC s B d (nsM s f d) := by
  intro d
  induction d with
  | zero => exact fun _ => show PC s B 0 s from ⟨fun _ _ => rfl, fun _ _ _ => rfl, h7, h8, fun _ _ => Iff.rfl⟩
  | succ d ih => exact fun hd => PC_step (by omega) (ih (by omega))
def PD (s : Nat → Int32) (B c : Nat) (p : Nat → Int32) : Prop :=
  (LM p c).map k3 = (LM s c).map k3 ∧ p 93 = s 93 ∧ (∀ k, k < 21 → p k = s k) ∧ Q1 p ∧ Q5 p B ∧ ∀ e, e < 12 → (p (oD e 0) = 3 ↔ s (oD e 0) = 3)
theorem ban_k3 (s : Nat → Int32) (d c : Nat) : (LM (ban s d c) c).map k3 = (LM s c).map k3 := by
  unfold LM
  rw [List.map_map, List.map_map]
  refine List.map_congr_left (fun k hk => ?_)
  show k3 (rmk (ban s d c) k) = k3 (rmk s k)
  rw [ban_r s d c (List.mem_range.mp hk)]
  split <;> rfl
theorem ban_lo (s : Nat → Int32) (d c : Nat) {k : Nat} (hk : k < 94) : ban s d c k = s k := ban_o s d c k (fun j _ => by unfold oR; omega)
theorem PD_step {s p : Nat → Int32} {B c d : Nat} (hd : d < 12) (h : PD s B c p) : PD s B c (coMB c d p) := by
  unfold coMB
  split
  · exact h
  · rename_i z
    obtain ⟨h1, h2, h3, h4, h5, h6⟩ := h
    have z3 : ¬ p (oD d 0) = 3 := fun t => z (by rw [t]; decide)
    have k0 : ∀ k, k < 94 → (∀ w, w < 6 → k ≠ oD d w) → ban (mSb p d) d c k = p k := fun k hk hw => by rw [ban_lo _ _ _ hk, mSb_on _ _ _ hw]
    have v : ∀ w, w < 6 → ban (mSb p d) d c (oD d w) = if w = 0 ∨ w = 1 ∨ w = 3 then 0 else p (oD d w) := fun w hw => by rw [ban_lo _ _ _ (by unfold oD; omega), mSb_v]
    have e3 := ban_k3 (mSb p d) d c
    rw [LM_mSb hd] at e3
    generalize ban (mSb p d) d c = p' at k0 v e3 ⊢
    have v0 : p' (oD d 0) = 0 := v 0 (by decide)
    have ke : ∀ e w, e < 12 → e ≠ d → w < 6 → p' (oD e w) = p (oD e w) := fun e w he2 he hw => k0 _ (by unfold oD; omega) (fun w' hw' => by unfold oD; omega)
    refine ⟨e3.trans h1, (k0 93 (by decide) (fun w hw => by unfold oD; omega)).trans h2, fun k hk => (k0 k (by omega) (fun w hw => by unfold oD; omega)).trans (h3 k hk), h4.cg (fun e he q => ?_), h5.cg (Nat.le_refl _) (fun e he q => ?_) (fun e he => Or.inl ?_) (k0 18 (by decide) (fun w hw => by unfold oD; omega)) (k0 19 (by decide) (fun w hw => by unfold oD; omega)), fun e he => ?_⟩
    · by_cases ze : e = d
      · rw [ze, v0] at q; exact absurd q (by decide)
      · rw [ke e 0 he ze (by decide)] at q
        exact Or.inl ⟨q, ke e 2 he ze (by decide)⟩
    · by_cases ze : e = d
      · rw [ze, v0] at q; exact absurd q (by decide)
      · rw [ke e 0 he ze (by decide)] at q; exact q
    · by_cases ze : e = d
      · rw [ze]; exact v 5 (by decide)
      · exact ke e 5 he ze (by decide)
    · rw [← h6 e he]
      by_cases ze : e = d
      · rw [ze, v0]
        exact ⟨fun t => absurd t (by decide), fun t => absurd t z3⟩
      · rw [ke e 0 he ze (by decide)]
theorem PD_all {s : Nat → Int32} {B c : Nat} (h7 : Q1 s) (h8 : Q5 s B) : ∀ d, d ≤ 12 → PD s B c (coM s c d) := by
  intro d
  induction d with
  | zero => exact fun _ => show PD s B c s from ⟨rfl, rfl, fun _ _ => rfl, h7, h8, fun _ _ => Iff.rfl⟩
  | succ d ih => exact fun hd => PD_step (by omega) (ih (by omega))
theorem fuM_o (s : Nat → Int32) (x : Int32) {k : Nat} (hk : k ≠ 15 ∧ k ≠ 16 ∧ k ≠ 17) : fuM s x k = s k := by
  unfold fuM blM
  split
  · rfl
  · split
    · rw [upd_n _ _ hk.2.1, upd_n _ _ hk.2.2, upd_n _ _ hk.1]
    · split
      · split
        · rw [upd_n _ _ hk.2.1, upd_n _ _ hk.2.2, upd_n _ _ hk.1, upd_n _ _ hk.2.1]
        · rw [upd_n _ _ hk.2.1]
      · rw [upd_n _ _ hk.2.1]
theorem tkM2_o (t : Nat → Int32) {k : Nat} (hk : k ≠ 10 ∧ k ≠ 11 ∧ k ≠ 15 ∧ k ≠ 16 ∧ k ≠ 17) : tkM2 t k = t k := by
  unfold tkM2
  rw [fuM_o _ _ ⟨hk.2.2.1, hk.2.2.2.1, hk.2.2.2.2⟩, upd_n _ _ hk.2.1, upd_n _ _ hk.1]
theorem tkM2_10 (t : Nat → Int32) : tkM2 t 10 = t 10 + 1 := by
  unfold tkM2
  rw [fuM_o _ _ (by decide), upd_n _ _ (by decide), upd_s]
theorem tkM2_11 (t : Nat → Int32) : ∃ x, tkM2 t 11 = mx (t 11) x := by
  unfold tkM2
  rw [fuM_o _ _ (by decide), upd_s]
  exact ⟨_, rfl⟩
theorem mx_n0 {a b : Int32} (h : ¬ a < 0) : ¬ mx a b < 0 := by
  unfold mx
  split
  · rename_i z
    exact fun t => h (Int32.lt_trans z t)
  · exact h
/-! what is answered in a tick -/
def ask (r : R5) : Nat := r.2.2.2.2.toNatClampNeg
theorem pd_k3 : ∀ (L : List R5) (U : Int32 → Bool), ((pd U L).map k3).Sublist (L.map k3) := by
  intro L
  induction L with
  | nil => exact fun _ => List.Sublist.refl _
  | cons r L ih =>
    intro U
    simp only [pd]
    split
    · split
      · exact (ih _).cons _
      · exact (ih _).cons_cons _
    · exact (ih _).cons_cons _
theorem pd_all (T : Nat) (hT : T < 200000) : ∀ (L : List R5) (U : Int32 → Bool), (∀ r ∈ L, ∃ a, a ≤ T ∧ r.2.2.2.2 = nI a) → ∃ n w, nd U L = nI n ∧ wt (nI (T + 1)) U L = nI w ∧ (pd U L).length + n = L.length ∧ w ≤ n * (T + 1) ∧ ∀ r ∈ L, k3 r ∈ (pd U L).map k3 ∨ (1 ≤ n ∧ T + 1 ≤ w + ask r) := by
  intro L
  induction L with
  | nil => exact fun U _ => ⟨0, 0, rfl, rfl, rfl, Nat.zero_le _, fun r hr => by cases hr⟩
  | cons r L ih =>
    intro U h
    obtain ⟨a, ha, har⟩ := h r List.mem_cons_self
    have hL : ∀ r ∈ L, ∃ a, a ≤ T ∧ r.2.2.2.2 = nI a := fun x hx => h x (List.mem_cons_of_mem _ hx)
    have hk : ask r = a := by unfold ask; rw [har, i_cl (by omega)]
    simp only [pd, nd, wt]
    cases hU : U (dk5 r) with
    | false =>
      obtain ⟨n, w, e1, e2, e3, e4, e5⟩ := ih U hL
      refine ⟨n, w, e1, e2, by simp only [Bool.false_eq_true, if_false, List.length_cons]; omega, e4, fun x hx => ?_⟩
      simp only [Bool.false_eq_true, if_false, List.map_cons]
      rcases List.mem_cons.mp hx with rfl | hx
      · exact Or.inl List.mem_cons_self
      · exact (e5 x hx).imp (fun q => List.mem_cons_of_mem _ q) id
    | true =>
      obtain ⟨n, w, e1, e2, e3, e4, e5⟩ := ih (wo U (dk5 r)) hL
      simp only [if_true]
      by_cases z : lf r - 1 = 0
      · refine ⟨n + 1, (T + 1 - a) + w, ?_, ?_, ?_, ?_, fun x hx => ?_⟩
        · rw [if_pos z, e1, show (1 : Int32) = nI 1 from rfl, nI_add, Nat.add_comm]
        · rw [if_pos z, e2, har, pk_sub (by omega), nI_add]
        · rw [if_pos z, List.length_cons]; omega
        · rw [Nat.succ_mul]; omega
        · rw [if_pos z]
          rcases List.mem_cons.mp hx with rfl | hx
          · exact Or.inr ⟨by omega, by omega⟩
          · exact (e5 x hx).imp id (fun q => ⟨by omega, by omega⟩)
      · refine ⟨n, w, by rw [if_neg z]; exact e1, by rw [if_neg z]; exact e2, by rw [if_neg z, List.length_cons, List.length_cons]; omega, e4, fun x hx => ?_⟩
        rw [if_neg z, List.map_cons]
        rcases List.mem_cons.mp hx with rfl | hx
        · exact Or.inl List.mem_cons_self
        · exact (e5 x hx).imp (fun q => List.mem_cons_of_mem _ q) id
end
section
/-! a tick keeps what the property asks; what is gone is answered or lost -/
def ans (s : Nat → Int32) : Nat := (s 13).toNatClampNeg
def wtd (s : Nat → Int32) : Nat := (s 20).toNatClampNeg
def TP (T : Nat) (s s' : Nat → Int32) : Prop :=
  ((LM s' (cc s')).map k3).Sublist ((LM s (cc s)).map k3) ∧ ans s ≤ ans s' ∧ wtd s ≤ wtd s' ∧
  (∀ r ∈ LM s (cc s), k3 r ∈ (LM s' (cc s')).map k3 ∨ (∃ e, e < 12 ∧ dk5 r = nI e ∧ s' (oD e 0) = 3) ∨ (ans s + 1 ≤ ans s' ∧ wtd s + (T + 1) ≤ wtd s' + ask r)) ∧
  ∀ e, e < 12 → s (oD e 0) = 3 → s' (oD e 0) = 3
theorem fin_Q {t : Nat → Int32} {T : Nat} (h10 : t 10 = nI T) (hT : T < 110000) (h1 : Q1 t) (h2 : Q2 (t 12) (LM t (cc t))) (h3 : Q3 (t 10) (LM t (cc t))) (h4 : Q4 t (cc t)) (h5 : Q5 t (12 * T + 12)) (h6 : Q6 t (T + 1)) (h11 : ¬ t 11 < 0) : QI (T + 1) (tkM2 t) ∧ LM (tkM2 t) (cc (tkM2 t)) = LM t (cc t) ∧ (∀ e w, e < 12 → w < 6 → tkM2 t (oD e w) = t (oD e w)) ∧ tkM2 t 13 = t 13 ∧ tkM2 t 20 = t 20 := by
  have kD : ∀ e w, e < 12 → w < 6 → tkM2 t (oD e w) = t (oD e w) := fun e w he hw => tkM2_o t (by unfold oD; omega)
  have ecc : cc (tkM2 t) = cc t := cc_cg (tkM2_o t (by decide))
  have eL : LM (tkM2 t) (cc (tkM2 t)) = LM t (cc t) := by rw [ecc]; exact LM_cg (fun k hk _ => tkM2_o t (by omega))
  have e12 : tkM2 t 12 = t 12 := tkM2_o t (by decide)
  have e13 : tkM2 t 13 = t 13 := tkM2_o t (by decide)
  have e14 : tkM2 t 14 = t 14 := tkM2_o t (by decide)
  have e18 : tkM2 t 18 = t 18 := tkM2_o t (by decide)
  have e19 : tkM2 t 19 = t 19 := tkM2_o t (by decide)
  have e20 : tkM2 t 20 = t 20 := tkM2_o t (by decide)
  have e10 : tkM2 t 10 = nI (T + 1) := by rw [tkM2_10, h10, nI_1]
  refine ⟨⟨e10, by omega, h1.cg (fun e he h => Or.inl ⟨(kD e 0 he (by decide)).symm.trans h, kD e 2 he (by decide)⟩), by rw [e12, eL]; exact h2, ?_, ?_, h5.cg (by omega) (fun e he h => (kD e 0 he (by decide)).symm.trans h) (fun e he => Or.inl (kD e 5 he (by decide))) e18 e19, ?_, ?_⟩, eL, kD, e13, e20⟩
  · rw [e10, eL]
    exact h3.mono (by rw [h10]; exact nI_le (by omega) (by omega))
  · unfold Q4
    rw [e12, e13, e14, ecc]
    exact h4
  · unfold Q6
    rw [e13, e20]
    exact h6
  · obtain ⟨x, hx⟩ := tkM2_11 t
    rw [hx]
    exact mx_n0 h11
theorem Q3.nat {t : Nat → Int32} {T : Nat} {L : List R5} (h : Q3 (t 10) L) (h10 : t 10 = nI T) (hT : T < 200000) : ∀ r ∈ L, ∃ a, a ≤ T ∧ r.2.2.2.2 = nI a := by
  intro r hr
  obtain ⟨h1, h2⟩ := h r hr
  obtain ⟨a, ha, e⟩ := nI_of h1
  refine ⟨a, ?_, e⟩
  rcases Nat.lt_or_ge T a with z | z
  · exact absurd (by rw [h10, e]; exact nI_lt z ha) h2
  · exact z
theorem ans_of {s : Nat → Int32} {a : Nat} (h : s 13 = nI a) (ha : a ≤ 500) : ans s = a := by unfold ans; rw [h, i_cl (by omega)]
theorem wtd_of {s : Nat → Int32} {w : Nat} (h : s 20 = nI w) (hw : w < 2 ^ 31) : wtd s = w := by unfold wtd; rw [h, i_cl hw]
theorem Q6.bd {s : Nat → Int32} {T : Nat} (h : Q6 s T) (hT : T ≤ 110001) : ∃ a W : Nat, a ≤ 500 ∧ s 13 = nI a ∧ s 20 = nI W ∧ W ≤ a * T ∧ W < 2 ^ 31 := by
  obtain ⟨a, W, h1, h2, h3, h4⟩ := h
  have : a * T ≤ 500 * 110001 := Nat.mul_le_mul h1 hT
  exact ⟨a, W, h1, h2, h3, h4, by omega⟩
theorem Q6.up {s : Nat → Int32} {T : Nat} (h : Q6 s T) : Q6 s (T + 1) := by
  obtain ⟨a, W, h1, h2, h3, h4⟩ := h
  exact ⟨a, W, h1, h2, h3, Nat.le_trans h4 (Nat.mul_le_mul (Nat.le_refl _) (by omega))⟩
theorem tick_Q {h : DH} {i c : Nat} {s : Nat → Int32} (f : Nat → Int32) (hs : SR h i c s) {T : Nat} (hq : QI T s) (hT : T < 110000) : QI (T + 1) (tickM s f).1 ∧ TP T s (tickM s f).1 := by
  obtain ⟨q10, qT, q1, q2, q3, q4, q5, q6, q11⟩ := hq
  have h93 := hs.2.2.2.1
  have h30 := hs.2.2.1
  have hp := hs.2.2.2.2.2.1
  have y5 := hs.2.2.2.2.2.2.2.2.1.2.2.2.2
  have hk : okC s := ⟨c, h30, h93⟩
  rw [show (tickM s f).1 = tkM2 (tkM s f).1 from rfl]
  rcases y5 with z | z
  · have nz : ¬ s 15 = 1 := by rw [z]; decide
    rw [tkM_n nz]
    have rg := RG_all h30 hp (hs.RG (f := f)) 12 (Nat.le_refl _)
    obtain ⟨r1, r2, r3, r4, r5⟩ := read_row hs rg
    obtain ⟨a1, a2, a3, a4, a5, a6, a7, a8, -, a10⟩ := PA_all (f := f) hk q1 q5 12 (Nat.le_refl _)
    dsimp only
    generalize stM s f 12 = P at r1 r2 r3 r4 r5 a1 a2 a3 a4 a5 a6 a7 a8 a10 ⊢
    obtain ⟨p, f1⟩ := P
    dsimp only at r1 r2 r3 r4 r5 a1 a2 a3 a4 a5 a6 a7 a8 a10 ⊢
    obtain ⟨d1, d2, d3⟩ := rdM_D p 12 (Nat.le_refl _)
    have p10 : p 10 = nI T := (a6 10 (by decide) (by decide) (by decide)).trans q10
    have q3p : Q3 (p 10) (LM p (cc p)) := by rw [p10, ← q10]; exact q3.sub (fun r hr => a2.subset hr)
    obtain ⟨n, w, n1, n2, n3, n4, n5⟩ := pd_all T (by omega) (LM p (cc p)) (Ud p 12) (q3p.nat p10 (by omega))
    rw [p10, nI_1, n2] at r4
    rw [n1] at r3
    generalize rdM p 12 = M at r1 r2 r3 r4 r5 d1 d2 d3 ⊢
    have m1 : Q1 M := a7.cg (fun e he h3 => by
      rcases d2 e he with u | ⟨u1, u2⟩
      · exact Or.inl ⟨u.symm.trans h3, d1 e 2 he (by decide) (by decide) (by decide) (by decide)⟩
      · rw [u2] at h3; exact absurd h3 (by decide))
    have m5 : Q5 M (12 * T) := a8.cg (Nat.le_refl _) (fun e he h1 => by
      rcases d2 e he with u | ⟨u1, u2⟩
      · exact u.symm.trans h1
      · rw [u2] at h1; exact absurd h1 (by decide)) (fun e he => Or.inl (d1 e 5 he (by decide) (by decide) (by decide) (by decide))) (r5 18 (by decide) (by decide)) d3
    obtain ⟨c1, c2, c3, c4, c5⟩ := PC_all (f := f1) m1 m5 12 (Nat.le_refl _)
    generalize nsM M f1 12 = N at c1 c2 c3 c4 c5 ⊢
    have eN : cc N = cc M := cc_cg (c1 93 (by decide))
    have eLN : LM N (cc N) = LM M (cc M) := by rw [eN]; exact LM_cg (fun k hk _ => c1 k (by omega))
    have kM : ∀ k, k < 13 → 10 ≤ k → N k = s k := fun k hk hk2 => (c2 k (by omega) (by omega)).trans ((r5 k (by omega) (by omega)).trans (a6 k (by omega) (by omega) (by omega)))
    have lenM : cc M = (LM M (cc M)).length := (LM_len _ _).symm
    have lenp : cc p = (LM p (cc p)).length := (LM_len _ _).symm
    have sub3 : ((LM N (cc N)).map k3).Sublist ((LM s (cc s)).map k3) := by
      rw [eLN, r2]
      exact (pd_k3 _ _).trans (a2.map k3)
    obtain ⟨a, b, A, w12, w13, w14, wle, wA⟩ := q4
    obtain ⟨a', W, v1, v2, v3, v4, v5⟩ := q6.bd (by omega)
    have ea : a' = a := nI_inj (by omega) (by omega) (v2.symm.trans w13)
    subst ea
    have len1 : cc M + n = cc p := by rw [lenM, r2, n3, ← lenp]
    have M13 : M 13 = nI (a' + n) := by rw [r3, a6 13 (by decide) (by decide) (by decide), w13, nI_add]
    have M20 : M 20 = nI (W + w) := by rw [r4, a6 20 (by decide) (by decide) (by decide), v3, nI_add]
    have N13 : N 13 = nI (a' + n) := (c2 13 (by decide) (by decide)).trans M13
    have N20 : N 20 = nI (W + w) := (c2 20 (by decide) (by decide)).trans M20
    have hWb : W + w ≤ (a' + n) * (T + 1) := by
      have : a' * T ≤ a' * (T + 1) := Nat.mul_le_mul (Nat.le_refl _) (by omega)
      rw [Nat.add_mul]
      omega
    have hWb2 : (a' + n) * (T + 1) ≤ 500 * 110001 := Nat.mul_le_mul (by omega) (by omega)
    obtain ⟨g1, g2, g3, g4, g5⟩ := fin_Q (t := N) (T := T) ((kM 10 (by decide) (by decide)).trans q10) hT c3 (by rw [kM 12 (by decide) (by decide)]; exact q2.via sub3) (by rw [kM 10 (by decide) (by decide)]; exact q3.via sub3) ⟨a' + n, b + (cc s - cc p), A, (kM 12 (by decide) (by decide)).trans w12, N13, by rw [c2 14 (by decide) (by decide), r5 14 (by decide) (by decide), a3, w14, nI_add], by rw [eN]; omega, wA⟩ c4 ⟨a' + n, W + w, by omega, N13, N20, hWb⟩ (by rw [kM 11 (by decide) (by decide)]; exact q11)
    refine ⟨g1, by rw [g2]; exact sub3, ?_, ?_, fun r hr => ?_, fun e he h3 => ?_⟩
    · rw [ans_of w13 (by omega), ans_of (g4.trans N13) (by omega)]; omega
    · rw [wtd_of v3 v5, wtd_of (g5.trans N20) (by omega)]; omega
    · rw [g2, eLN, r2]
      rcases a5 r hr with u | ⟨e, e1, e2, e3⟩
      · rcases n5 r u with x | ⟨x1, x2⟩
        · exact Or.inl x
        · refine Or.inr (Or.inr ⟨?_, ?_⟩)
          · rw [ans_of w13 (by omega), ans_of (g4.trans N13) (by omega)]; omega
          · rw [wtd_of v3 v5, wtd_of (g5.trans N20) (by omega)]; omega
      · refine Or.inr (Or.inl ⟨e, e1, e2, ?_⟩)
        rw [g3 e 0 e1 (by decide)]
        refine (c5 e e1).mpr ?_
        rcases d2 e e1 with u | ⟨u1, u2⟩
        · exact u.trans e3
        · rw [e3] at u1; exact absurd u1 (by decide)
    · rw [g3 e 0 he (by decide)]
      refine (c5 e he).mpr ?_
      have p3 := a10 e he h3
      rcases d2 e he with u | ⟨u1, u2⟩
      · exact u.trans p3
      · rw [p3] at u1; exact absurd u1 (by decide)
  · rw [tkM_p z]
    dsimp only
    obtain ⟨e1, e2, e3, e4, e5, e6⟩ := PD_all (c := cc s) q1 q5 12 (Nat.le_refl _)
    generalize coM s (cc s) 12 = N at e1 e2 e3 e4 e5 e6 ⊢
    have eN : cc N = cc s := cc_cg e2
    rw [← eN] at e1
    have sub3 : ((LM N (cc N)).map k3).Sublist ((LM s (cc s)).map k3) := by rw [e1, eN]; exact List.Sublist.refl _
    obtain ⟨a, W, v1, v2, v3, v4, v5⟩ := q6.bd (by omega)
    obtain ⟨g1, g2, g3, g4, g5⟩ := fin_Q (t := N) (T := T) ((e3 10 (by decide)).trans q10) hT e4 (by rw [e3 12 (by decide)]; exact q2.via sub3) (by rw [e3 10 (by decide)]; exact q3.via sub3) (by unfold Q4; rw [e3 12 (by decide), e3 13 (by decide), e3 14 (by decide), eN]; exact q4) (e5.cg (by omega) (fun _ _ q => q) (fun _ _ => Or.inl rfl) rfl rfl) (by unfold Q6; rw [e3 13 (by decide), e3 20 (by decide)]; exact q6.up) (by rw [e3 11 (by decide)]; exact q11)
    refine ⟨g1, by rw [g2]; exact sub3, ?_, ?_, fun r hr => Or.inl ?_, fun e he h3 => ?_⟩
    · rw [ans_of v2 v1, ans_of (g4.trans ((e3 13 (by decide)).trans v2)) v1]; exact Nat.le_refl _
    · rw [wtd_of v3 v5, wtd_of (g5.trans ((e3 20 (by decide)).trans v3)) v5]; exact Nat.le_refl _
    · rw [g2, e1, eN]
      exact List.mem_map_of_mem hr
    · rw [g3 e 0 he (by decide)]
      exact (e6 e he).mpr h3
end
section
/-! the object's whole picture: its state, its history (the latest first) -/
def YR (h : DH) (i : Nat) (s : Nat → Int32) : Prop := XR h i s ∧ ∃ T, QI T s
def HX (h : DH) (l : List (Nat → Int32)) : Prop := l.length ≤ 4 ∧ h.1 (7, 0, 0) 1 = nI l.length ∧ (∀ j, j < 5 → 3 ≤ rr h j ∧ rr h j < 8 ∧ WF h (rr h j)) ∧ (∀ j k, j < 5 → k < 5 → rr h j = rr h k → j = k) ∧ ∀ (j : Nat) (r : Nat → Int32), l[j]? = some r → YR h (rr h (l.length - 1 - j)) r
def PR (h : DH) (s : Nat → Int32) (l : List (Nat → Int32)) : Prop := YR h 0 s ∧ WF h 1 ∧ HX h l
theorem YR.fr {h h' : DH} {j : Nat} {s : Nat → Int32} (hs : YR h j s) (F : Eq5 j h h') : YR h' j s := ⟨hs.1.fr F, hs.2⟩
theorem PR.sr {h : DH} {s : Nat → Int32} {l : List (Nat → Int32)} (hs : PR h s l) : ∃ c, SR h 0 c s := hs.1.1.1
theorem get_lt {α : Type} {l : List α} {j : Nat} {r : α} (h : l[j]? = some r) : j < l.length := (List.getElem?_eq_some_iff.mp h).1
theorem HX.cg {h h' : DH} {l : List (Nat → Int32)} (hs : HX h l) (e7 : h'.1 (7, 0, 0) = h.1 (7, 0, 0)) (e8 : h'.2 (8, 0, 0) = h.2 (8, 0, 0)) (F : ∀ j, 3 ≤ j → Eq5 j h h') : HX h' l := by
  obtain ⟨h1, h2, h4, h5, h6⟩ := hs
  have er : ∀ j, rr h' j = rr h j := fun j => congrFun e8 j
  refine ⟨h1, by rw [e7]; exact h2, fun j hj => ?_, fun j k hj hk e => ?_, fun j r hj => ?_⟩
  · rw [er]
    obtain ⟨a1, a2, a3⟩ := h4 j hj
    exact ⟨a1, a2, a3.fr (F _ a1)⟩
  · rw [er, er] at e
    exact h5 j k hj hk e
  · rw [er]
    exact (h6 j r hj).fr (F _ (h4 _ (by omega)).1)
theorem HX.rec {h : DH} {l : List (Nat → Int32)} {s : Nat → Int32} (hs : HX h l) (hx : YR h (rr h l.length) s) : HX (recH h l.length) ((s :: l).take 4) := by
  obtain ⟨h1, h2, h4, h5, h6⟩ := hs
  have F : ∀ j, Eq5 j h (recH h l.length) := fun j => recH_e5 h l.length j
  by_cases z : l.length = 4
  · have el : ((s :: l).take 4).length = 4 := by rw [List.length_take, List.length_cons]; omega
    rw [z] at F hx h2 h6 ⊢
    refine ⟨by omega, ?_, fun j hj => ?_, fun j k hj hk e => ?_, fun j r hj => ?_⟩
    · rw [el]
      exact h2
    · rw [rr_rec4]
      by_cases z4 : j < 4
      · rw [if_pos z4]
        obtain ⟨a1, a2, a3⟩ := h4 (j + 1) (by omega)
        exact ⟨a1, a2, a3.fr (F _)⟩
      · rw [if_neg z4, if_pos (by omega)]
        obtain ⟨a1, a2, a3⟩ := h4 0 (by omega)
        exact ⟨a1, a2, a3.fr (F _)⟩
    · rw [rr_rec4, rr_rec4] at e
      by_cases zj : j < 4
      · rw [if_pos zj] at e
        by_cases zk : k < 4
        · rw [if_pos zk] at e
          have := h5 _ _ (by omega) (by omega) e
          omega
        · rw [if_neg zk, if_pos (by omega)] at e
          have := h5 _ _ (by omega) (by omega) e
          omega
      · rw [if_neg zj, if_pos (by omega)] at e
        by_cases zk : k < 4
        · rw [if_pos zk] at e
          have := h5 _ _ (by omega) (by omega) e
          omega
        · omega
    · have hj4 := get_lt hj
      rw [el] at hj4 ⊢
      rw [rr_rec4, if_pos (by omega)]
      rw [List.getElem?_take, if_pos hj4] at hj
      cases j with
      | zero =>
        rw [List.getElem?_cons_zero] at hj
        cases hj
        exact hx.fr (F _)
      | succ j =>
        rw [List.getElem?_cons_succ] at hj
        rw [show 4 - 1 - (j + 1) + 1 = 4 - 1 - j by omega]
        exact (h6 j r hj).fr (F _)
  · have el : (s :: l).take 4 = s :: l := List.take_of_length_le (by rw [List.length_cons]; omega)
    rw [el]
    refine ⟨by rw [List.length_cons]; omega, ?_, fun j hj => ?_, fun j k hj hk e => ?_, fun j r hj => ?_⟩
    · unfold recH
      rw [if_neg z, up1_1, if_pos ⟨rfl, rfl⟩, List.length_cons]
    · rw [rr_rec h z]
      obtain ⟨a1, a2, a3⟩ := h4 j hj
      exact ⟨a1, a2, a3.fr (F _)⟩
    · rw [rr_rec h z, rr_rec h z] at e
      exact h5 j k hj hk e
    · rw [rr_rec h z, List.length_cons]
      cases j with
      | zero =>
        rw [List.getElem?_cons_zero] at hj
        cases hj
        exact hx.fr (F _)
      | succ j =>
        rw [List.getElem?_cons_succ] at hj
        rw [show l.length + 1 - 1 - (j + 1) = l.length - 1 - j by omega]
        exact (h6 j r hj).fr (F _)
/-- ahead of an act: the state is prepared -/
theorem PR.go {h : DH} {s : Nat → Int32} {l : List (Nat → Int32)} (hs : PR h s l) : ∃ c g, cfull h (rr h l.length) 0 c = g ∧ cpk h 0 c ∧ rr h l.length ≠ 0 ∧ h.1 (7, 0, 0) 1 = nI l.length ∧ l.length ≤ 4 ∧ PR g s l ∧ YR g (rr g l.length) s ∧ SR g 0 c s ∧ g.1 (7, 0, 0) 1 = nI l.length := by
  obtain ⟨x, w, ha⟩ := hs
  obtain ⟨c, hc⟩ := x.1.1
  have hq := ha.2.2.1 l.length (by have := ha.1; omega)
  have F := Fr_cfull h (rr h l.length) 0 c
  have G := fun (κ : DKey) (hκ : 5 < κ.1) => F.eo hκ
  have E : ∀ j, j ≠ rr h l.length → Eq5 j h (cfull h (rr h l.length) 0 c) := fun j hj => F.e5 hj
  have X : YR (cfull h (rr h l.length) 0 c) (rr h l.length) s := ⟨x.1.copy hc (by omega) hq.2.2, x.2⟩
  have er : ∀ j, rr (cfull h (rr h l.length) 0 c) j = rr h j := fun j => congrFun (G (8, 0, 0) (by simp)).2 j
  have W : ∀ j, WF h j → WF (cfull h (rr h l.length) 0 c) j := fun j hj => by
    unfold WF pmi
    rw [cfull_2]
    exact hj
  have HA : HX (cfull h (rr h l.length) 0 c) l := by
    obtain ⟨h1, h2, h4, h5, h6⟩ := ha
    refine ⟨h1, by rw [(G (7, 0, 0) (by simp)).1]; exact h2, fun j hj => ?_, fun j k hj hk e => ?_, fun j r hj => ?_⟩
    · rw [er]
      obtain ⟨a1, a2, a3⟩ := h4 j hj
      exact ⟨a1, a2, W _ a3⟩
    · rw [er, er] at e
      exact h5 j k hj hk e
    · have hl := get_lt hj
      rw [er]
      refine (h6 j r hj).fr (E _ (fun e => ?_))
      have := h5 _ _ (by omega) (by omega) e
      omega
  exact ⟨c, _, rfl, hc.cp_ok, by omega, ha.2.1, ha.1, ⟨x.fr (E 0 (by omega)), W 1 w, HA⟩, by rw [er]; exact X, hc.fr (E 0 (by omega)), HA.2.1⟩
/-- an act is done -/
theorem PR.done {g g' : DH} {s s' : Nat → Int32} {l : List (Nat → Int32)} (hs : PR g s l) (hx : YR g (rr g l.length) s) (F : Fr 0 g g') (hn : YR g' 0 s') : PR (recH g' l.length) s' ((s :: l).take 4) := by
  obtain ⟨x, w, ha⟩ := hs
  have hq := ha.2.2.1
  have G := fun (κ : DKey) (hκ : 5 < κ.1) => F.eo hκ
  have E : ∀ j, j ≠ 0 → Eq5 j g g' := fun j hj => F.e5 hj
  have ha' : HX g' l := ha.cg (G (7, 0, 0) (by simp)).1 (G (8, 0, 0) (by simp)).2 (fun j hj => E j (by omega))
  have er : rr g' l.length = rr g l.length := congrFun (G (8, 0, 0) (by simp)).2 l.length
  have HH := ha'.rec (s := s) (by rw [er]; exact hx.fr (E _ (by have := hq l.length (by have := ha.1; omega); omega)))
  exact ⟨hn.fr (recH_e5 g' l.length 0), (w.fr (E 1 (by decide))).fr (recH_e5 g' l.length 1), HH⟩
theorem PR.act {g g' : DH} {s s' : Nat → Int32} {l : List (Nat → Int32)} {v : Int32} (hs : PR g s l) (hx : YR g (rr g l.length) s) (F : Fr 0 g g') (hn : YR g' 0 s') (hv : ¬ v < 0) : PR (actH g' l.length v) s' ((s :: l).take 4) := by
  unfold actH
  rw [if_neg hv]
  exact hs.done hx F hn
theorem PR.err {g : DH} {s : Nat → Int32} {l : List (Nat → Int32)} {v : Int32} (hs : PR g s l) (hv : v < 0) : PR (actH g l.length v) s l := by
  unfold actH
  rw [if_pos hv]
  exact hs
/-- undo -/
theorem c_undoP (n : Nat) {h : DH} {s r : Nat → Int32} {l : List (Nat → Int32)} (hs : PR h s (r :: l)) : ∃ h', dEx (n + 4) 69 [.inr (6, 0, 0)] h (some (.inl (nI l.length)), h') ∧ PR h' r l := by
  obtain ⟨x, w, h1, h2, h4, h5, h6⟩ := hs
  rw [List.length_cons] at h1 h2 h6
  have hb := h4 l.length (by omega)
  have xb : YR h (rr h l.length) r := h6 0 r rfl
  obtain ⟨c', cb⟩ := xb.1.1
  have hc := c_undo1 n h h2 (by omega) (by omega) cb.cp_ok
  have E0 : ∀ j, Eq5 j h (up1 h (7, 0, 0) 1 (nI l.length)) := fun j k m hk => ⟨up1_ne _ _ _ (fun t => by simp at t; omega), rfl⟩
  have w0 : WF (up1 h (7, 0, 0) 1 (nI l.length)) 0 := by
    obtain ⟨c0, hc0⟩ := x.1.1
    exact hc0.wf.fr (E0 0)
  have xq := (xb.1.fr (E0 _)).copy (cb.fr (E0 _)) (by omega) w0
  have F := Fr_cfull (up1 h (7, 0, 0) 1 (nI l.length)) 0 (rr h l.length) c'
  have ug : undoH h l.length c' = cfull (up1 h (7, 0, 0) 1 (nI l.length)) 0 (rr h l.length) c' := rfl
  rw [ug] at hc
  generalize hg : cfull (up1 h (7, 0, 0) 1 (nI l.length)) 0 (rr h l.length) c' = g at hc F xq
  have g7 : g.1 (7, 0, 0) 1 = nI l.length := by rw [(F.eo (by simp)).1, up1_1, if_pos ⟨rfl, rfl⟩]
  have EE : ∀ j, j ≠ 0 → Eq5 j h g := fun j hj => (E0 j).tr (F.e5 hj)
  have er : ∀ j, rr g j = rr h j := fun j => congrFun (F.eo (κ := (8, 0, 0)) (by simp)).2 j
  refine ⟨g, hc, ⟨xq, xb.2⟩, w.fr (EE 1 (by decide)), by omega, g7, fun j hj => ?_, fun j k hj hk e => ?_, fun j r' hj => ?_⟩
  · rw [er]
    obtain ⟨a1, a2, a3⟩ := h4 j hj
    exact ⟨a1, a2, a3.fr (EE _ (by omega))⟩
  · rw [er, er] at e
    exact h5 j k hj hk e
  · have hl := get_lt hj
    rw [er]
    have a1 := (h4 (l.length - 1 - j) (by omega)).1
    have := h6 (j + 1) r' (by rw [List.getElem?_cons_succ]; exact hj)
    rw [show l.length + 1 - 1 - (j + 1) = l.length - 1 - j by omega] at this
    exact this.fr (EE _ (by omega))
end
section
/-! acts keep what the property asks -/
theorem QI.same {T : Nat} {s s' : Nat → Int32} (h : QI T s) (e : ∀ k, 10 ≤ k → k < 21 → k ≠ 15 → k ≠ 16 → k ≠ 17 → s' k = s k) (eD : ∀ d w, d < 12 → w = 0 ∨ w = 2 ∨ w = 5 → s' (oD d w) = s (oD d w)) (eL : ∀ k, 93 ≤ k → s' k = s k) : QI T s' := by
  obtain ⟨q10, qT, q1, q2, q3, q4, q5, q6, q11⟩ := h
  have ecc : cc s' = cc s := cc_cg (eL 93 (by decide))
  have eLL : LM s' (cc s') = LM s (cc s) := by rw [ecc]; exact LM_cg (fun k hk _ => eL k (by omega))
  have f := fun k (h1 : 10 ≤ k) (h2 : k < 15) => e k h1 (by omega) (by omega) (by omega) (by omega)
  refine ⟨(f 10 (by decide) (by decide)).trans q10, qT, q1.cg (fun d hd h3 => Or.inl ⟨(eD d 0 hd (Or.inl rfl)).symm.trans h3, eD d 2 hd (Or.inr (Or.inl rfl))⟩), by rw [f 12 (by decide) (by decide), eLL]; exact q2, by rw [f 10 (by decide) (by decide), eLL]; exact q3, ?_, q5.cg (Nat.le_refl _) (fun d hd h1 => (eD d 0 hd (Or.inl rfl)).symm.trans h1) (fun d hd => Or.inl (eD d 5 hd (Or.inr (Or.inr rfl)))) (e 18 (by decide) (by decide) (by decide) (by decide) (by decide)) (e 19 (by decide) (by decide) (by decide) (by decide) (by decide)), ?_, by rw [f 11 (by decide) (by decide)]; exact q11⟩
  · unfold Q4
    rw [f 12 (by decide) (by decide), f 13 (by decide) (by decide), f 14 (by decide) (by decide), ecc]
    exact q4
  · unfold Q6
    rw [f 13 (by decide) (by decide), e 20 (by decide) (by decide) (by decide) (by decide) (by decide)]
    exact q6
theorem QI.set {T : Nat} {s : Nat → Int32} (h : QI T s) {w : Nat} (hw : w < 10) (x : Int32) : QI T (upd s w x) := h.same (fun k hk _ _ _ _ => upd_n _ _ (by omega)) (fun d w' _ _ => upd_n _ _ (by unfold oD; omega)) (fun k hk => upd_n _ _ (by omega))
theorem QI.plan {T : Nat} {s : Nat → Int32} (h : QI T s) {d : Nat} (hd : d < 12) : QI T (upd s (oD d 4) 1) := h.same (fun k hk _ _ _ _ => upd_n _ _ (by unfold oD; omega)) (fun d' w' _ hw => upd_n _ _ (by unfold oD; omega)) (fun k hk => upd_n _ _ (by unfold oD; omega))
theorem QI.fuse {T : Nat} {s : Nat → Int32} (h : QI T s) : QI T (nf s) := h.same (fun k _ _ h15 h16 _ => by unfold nf; rw [upd_n _ _ h16, upd_n _ _ h15]) (fun d w _ hw => by unfold nf; rw [upd_n _ _ (by unfold oD; omega), upd_n _ _ (by unfold oD; omega)]) (fun k hk => by unfold nf; rw [upd_n _ _ (by omega), upd_n _ _ (by omega)])
theorem QI.read {T c d : Nat} {s : Nat → Int32} {t : Int32} (h : QI T s) (h93 : s 93 = nI c) (hc : c < 30) (hd : d < 12) (h500 : ∃ A, A < 500 ∧ s 12 = nI A) : QI T (mask s c d t) := by
  obtain ⟨q10, qT, q1, q2, q3, q4, q5, q6, q11⟩ := h
  have ecc : cc s = c := cc_of h93 (by omega)
  have e93 : mask s c d t 93 = nI (c + 1) := by
    unfold mask
    rw [upd_n _ _ (by decide), upd_s]
  have e12 : mask s c d t 12 = s 12 + 1 := upd_s _ _ _
  have ecc' : cc (mask s c d t) = c + 1 := cc_of e93 (by omega)
  have lo : ∀ k, k < 93 → k ≠ 12 → mask s c d t k = s k := fun k hk h12 => mask_lo hk h12
  have eD : ∀ e w, e < 12 → w < 6 → mask s c d t (oD e w) = s (oD e w) := fun e w he hw => lo _ (by unfold oD; omega) (by unfold oD; omega)
  have eL : LM (mask s c d t) (cc (mask s c d t)) = LM s c ++ [(s 12, nI d, t, t, s 10)] := by rw [ecc']; exact LM_add s c d t
  rw [ecc] at q2 q3 q4
  obtain ⟨A, hA, h12⟩ := h500
  have hA1 : s 12 < s 12 + 1 := by rw [h12, nI_1]; exact nI_lt (by omega) (by omega)
  refine ⟨(lo 10 (by decide) (by decide)).trans q10, qT, q1.cg (fun e he h3 => Or.inl ⟨(eD e 0 he (by decide)).symm.trans h3, eD e 2 he (by decide)⟩), ?_, ?_, ?_, q5.cg (Nat.le_refl _) (fun e he h1 => (eD e 0 he (by decide)).symm.trans h1) (fun e he => Or.inl (eD e 5 he (by decide))) (lo 18 (by decide) (by decide)) (lo 19 (by decide) (by decide)), ?_, by rw [lo 11 (by decide) (by decide)]; exact q11⟩
  · rw [e12, eL]
    refine ⟨List.pairwise_append.mpr ⟨q2.1, List.pairwise_singleton _ _, fun x hx y hy => ?_⟩, fun r hr => ?_⟩
    · rw [List.mem_singleton.mp hy]
      exact (q2.2 x hx).2
    · rcases List.mem_append.mp hr with hr | hr
      · exact ⟨(q2.2 r hr).1, Int32.lt_trans (q2.2 r hr).2 hA1⟩
      · rw [List.mem_singleton.mp hr]
        exact ⟨by show ¬ s 12 < 0; rw [h12]; exact nI_n0 (by omega), hA1⟩
  · rw [lo 10 (by decide) (by decide), eL]
    intro r hr
    rcases List.mem_append.mp hr with hr | hr
    · exact q3 r hr
    · rw [List.mem_singleton.mp hr]
      exact ⟨by show ¬ s 10 < 0; rw [q10]; exact nI_n0 (by omega), by show ¬ s 10 < s 10; exact Int32.not_lt.mpr (Int32.le_refl _)⟩
  · obtain ⟨a, b, A', w12, w13, w14, wle, wA⟩ := q4
    have eA : A' = A := nI_inj (by omega) (by omega) (w12.symm.trans h12)
    refine ⟨a, b, A' + 1, by rw [e12, w12, nI_1], (lo 13 (by decide) (by decide)).trans w13, (lo 14 (by decide) (by decide)).trans w14, by rw [ecc']; omega, by omega⟩
  · unfold Q6
    rw [lo 13 (by decide) (by decide), lo 20 (by decide) (by decide)]
    exact q6
theorem QI.drop {T c p : Nat} {s : Nat → Int32} (h : QI T s) (h93 : s 93 = nI c) (hc : c ≤ 30) (hp : p < c) : QI T (mrm s p c) := by
  obtain ⟨q10, qT, q1, q2, q3, q4, q5, q6, q11⟩ := h
  have ecc : cc s = c := cc_of h93 (by omega)
  have ecc' : cc (mrm s p c) = c - 1 := cc_of (mrm_93 s p c) (by omega)
  have lo : ∀ k, k < 93 → mrm s p c k = s k := fun k hk => mrm_lo hk
  have eD : ∀ e w, e < 12 → w < 6 → mrm s p c (oD e w) = s (oD e w) := fun e w he hw => lo _ (by unfold oD; omega)
  have sub : (LM (mrm s p c) (cc (mrm s p c))).Sublist (LM s (cc s)) := by
    rw [ecc', ecc, LM_rm hp hc]
    exact List.eraseIdx_sublist _ _
  refine ⟨(lo 10 (by decide)).trans q10, qT, q1.cg (fun e he h3 => Or.inl ⟨(eD e 0 he (by decide)).symm.trans h3, eD e 2 he (by decide)⟩), by rw [lo 12 (by decide)]; exact q2.sub sub, by rw [lo 10 (by decide)]; exact q3.sub (fun r hr => sub.subset hr), ?_, q5.cg (Nat.le_refl _) (fun e he h1 => (eD e 0 he (by decide)).symm.trans h1) (fun e he => Or.inl (eD e 5 he (by decide))) (lo 18 (by decide)) (lo 19 (by decide)), ?_, by rw [lo 11 (by decide)]; exact q11⟩
  · obtain ⟨a, b, A, w12, w13, w14, wle, wA⟩ := q4
    exact ⟨a, b, A, (lo 12 (by decide)).trans w12, (lo 13 (by decide)).trans w13, (lo 14 (by decide)).trans w14, by rw [ecc']; omega, wA⟩
  · unfold Q6
    rw [lo 13 (by decide), lo 20 (by decide)]
    exact q6
theorem QI.rep {T c d : Nat} {s : Nat → Int32} (h : QI T s) (h93 : s 93 = nI c) (hc : c ≤ 30) (hd : d < 12) : QI T (ban (mz s d) d c) := by
  obtain ⟨q10, qT, q1, q2, q3, q4, q5, q6, q11⟩ := h
  have ecc : cc s = c := cc_of h93 (by omega)
  have lo : ∀ k, k < 21 ∨ k = 93 → ban (mz s d) d c k = s k := fun k hk => (ban_lo _ _ _ (by omega)).trans (mz_o s hd (by omega))
  have eD : ∀ e w, e < 12 → w < 6 → ban (mz s d) d c (oD e w) = if e = d then 0 else s (oD e w) := fun e w he hw => (ban_lo _ _ _ (by unfold oD; omega)).trans (mz_D s hw)
  have ecc' : cc (ban (mz s d) d c) = cc s := cc_cg (lo 93 (Or.inr rfl))
  have eL : (LM (ban (mz s d) d c) (cc (ban (mz s d) d c))).map k3 = (LM s (cc s)).map k3 := by
    rw [ecc', ecc, ban_k3]
    exact congrArg (List.map k3) (LM_cg (fun k hk _ => mz_o s hd (Or.inr (by omega))))
  generalize ban (mz s d) d c = s' at lo eD ecc' eL ⊢
  have sub : ((LM s' (cc s')).map k3).Sublist ((LM s (cc s)).map k3) := by rw [eL]; exact List.Sublist.refl _
  have le := fun k (hk : k < 21) => lo k (Or.inl hk)
  have eD0 : ∀ e w, e < 12 → w < 6 → s' (oD e w) ≠ 0 → s' (oD e w) = s (oD e w) := fun e w he hw hne => by
    have := eD e w he hw
    by_cases z : e = d
    · rw [if_pos z] at this; exact absurd this hne
    · rw [if_neg z] at this; exact this
  refine ⟨(le 10 (by decide)).trans q10, qT, q1.cg (fun e he h3 => Or.inl ?_), by rw [le 12 (by decide)]; exact q2.via sub, by rw [le 10 (by decide)]; exact q3.via sub, ?_, q5.cg (Nat.le_refl _) (fun e he h1 => (eD0 e 0 he (by decide) (by rw [h1]; decide)).symm.trans h1) (fun e he => ?_) (le 18 (by decide)) (le 19 (by decide)), ?_, by rw [le 11 (by decide)]; exact q11⟩
  · have := eD0 e 0 he (by decide) (by rw [h3]; decide)
    refine ⟨this.symm.trans h3, ?_⟩
    have e2 := eD e 2 he (by decide)
    by_cases z : e = d
    · have e0 := eD e 0 he (by decide)
      rw [if_pos z, h3] at e0
      exact absurd e0 (by decide)
    · rw [if_neg z] at e2; exact e2
  · unfold Q4
    rw [le 12 (by decide), le 13 (by decide), le 14 (by decide), ecc']
    exact q4
  · by_cases z : s' (oD e 5) = 0
    · exact Or.inr z
    · exact Or.inl (eD0 e 5 he (by decide) z)
  · unfold Q6
    rw [le 13 (by decide), le 20 (by decide)]
    exact q6
/-- ticks in a row -/
theorem rk_Q {h : DH} {i c : Nat} {s : Nat → Int32} (f : Nat → Int32) (hs : SR h i c s) {T : Nat} (hq : QI T s) : ∀ k, T + k ≤ 110000 → QI (T + k) (rk s f k).1 := by
  intro k
  induction k with
  | zero => exact fun _ => hq
  | succ k ih =>
    intro hk
    obtain ⟨⟨c', h1⟩, _⟩ := pass_SR f hs k
    exact (tick_Q (rk s f k).2 h1 (ih (by omega)) (by omega)).1
theorem rk_TP {h : DH} {i c : Nat} {s : Nat → Int32} (f : Nat → Int32) (hs : SR h i c s) {T : Nat} (hq : QI T s) {k : Nat} (hk : T + k < 110000) : TP (T + k) (rk s f k).1 (rk s f (k + 1)).1 := by
  obtain ⟨⟨c', h1⟩, _⟩ := pass_SR f hs k
  exact (tick_Q (rk s f k).2 h1 (rk_Q f hs hq k (by omega)) (by omega)).2
/-- what holds over ticks in a row -/
theorem rk_mono {h : DH} {i c : Nat} {s : Nat → Int32} (f : Nat → Int32) (hs : SR h i c s) {T : Nat} (hq : QI T s) : ∀ k, T + k ≤ 110000 → ((LM (rk s f k).1 (cc (rk s f k).1)).map k3).Sublist ((LM s (cc s)).map k3) ∧ ans s ≤ ans (rk s f k).1 ∧ wtd s ≤ wtd (rk s f k).1 := by
  intro k
  induction k with
  | zero => exact fun _ => ⟨List.Sublist.refl _, Nat.le_refl _, Nat.le_refl _⟩
  | succ k ih =>
    intro hk
    obtain ⟨a1, a2, a3⟩ := ih (by omega)
    obtain ⟨b1, b2, b3, -, -⟩ := rk_TP f hs hq (k := k) (by omega)
    exact ⟨b1.trans a1, by omega, by omega⟩
theorem rk_brk {h : DH} {i c : Nat} {s : Nat → Int32} (f : Nat → Int32) (hs : SR h i c s) {T e : Nat} (hq : QI T s) (he : e < 12) {j : Nat} (h3 : (rk s f j).1 (oD e 0) = 3) : ∀ m, T + (j + m) ≤ 110000 → (rk s f (j + m)).1 (oD e 0) = 3 := by
  intro m
  induction m with
  | zero => exact fun _ => h3
  | succ m ih =>
    intro hm
    exact (rk_TP f hs hq (k := j + m) (by omega)).2.2.2.2 e he (ih (by omega))
theorem rk_ans {h : DH} {i c : Nat} {s : Nat → Int32} (f : Nat → Int32) (hs : SR h i c s) {T : Nat} (hq : QI T s) {k : Nat} (hk : T + k ≤ 110000) : (rk s f k).1 13 - s 13 = nI (ans (rk s f k).1 - ans s) ∧ ans (rk s f k).1 ≤ 500 := by
  obtain ⟨-, m2, -⟩ := rk_mono f hs hq k hk
  obtain ⟨a, W, h1, h2, -⟩ := hq.2.2.2.2.2.2.2.1
  obtain ⟨a', W', h1', h2', -⟩ := (rk_Q f hs hq k hk).2.2.2.2.2.2.2.1
  rw [ans_of h2 h1, ans_of h2' h1'] at m2
  rw [ans_of h2 h1, ans_of h2' h1', h2, h2', pk_sub m2]
  exact ⟨rfl, h1'⟩
theorem QI.a {T : Nat} {s : Nat → Int32} (h : QI T s) : s 13 = nI (ans s) ∧ ans s ≤ 500 := by
  obtain ⟨a, W, h1, h2, -⟩ := h.2.2.2.2.2.2.2.1
  rw [ans_of h2 h1]
  exact ⟨h2, h1⟩
theorem QI.w {T : Nat} {s : Nat → Int32} (h : QI T s) : s 20 = nI (wtd s) ∧ wtd s < 2 ^ 31 := by
  obtain ⟨a, W, h1, h2, h3, h4, h5⟩ := h.2.2.2.2.2.2.2.1.bd (Nat.le_succ_of_le h.2.1)
  rw [wtd_of h3 h5]
  exact ⟨h3, h5⟩
end
section
/-! the acts, whole: what they answer, what the object is then -/
theorem YR.T {h : DH} {i : Nat} {s : Nat → Int32} (hs : YR h i s) : ∃ T, QI T s ∧ T ≤ 99999 ∧ s 10 = nI T := by
  obtain ⟨hx, T, hq⟩ := hs
  obtain ⟨t, t1, t2⟩ := hx.2.2.2.1
  have : t = T := nI_inj (by omega) (by have := hq.2.1; omega) (t2.symm.trans hq.1)
  exact ⟨T, hq, by omega, hq.1⟩
theorem n5_of_n0 {v : Int32} (h : ¬ v < 0) : ¬ v < -5 := fun t => h (Int32.lt_trans t (by decide))
def GA (n mid : Nat) (as : List DV) (h : DH) : Prop := ∃ (v : Int32) (h' : DH) (s' : Nat → Int32) (l' : List (Nat → Int32)), dEx n mid (.inr (6, 0, 0) :: as) h (some (.inl v), h') ∧ PR h' s' l' ∧ ¬ v < -5
theorem c_setQ (n : Nat) {h : DH} {s : Nat → Int32} {l : List (Nat → Int32)} (hs : PR h s l) {w : Nat} (hw : w < 10) {x : Int32} (hx : wip x (dcst 1 w) (dcst 2 w)) : ∃ h', dEx (n + 6) 0 [.inr (6, 0, 0), .inl (nI w), .inl x] h (some (.inl (if s w = x then -5 else s w)), h') ∧ (s w = x → PR h' s l) ∧ (¬ s w = x → PR h' (upd s w x) ((s :: l).take 4)) ∧ ¬ s w < 0 := by
  obtain ⟨c, g, hgg, hk, hne, ha, ha4, hg, hgx, hgc, g7⟩ := hs.go
  have hop := (c_setNumber (n + 3) 0 (nI w) x g).2 w hw rfl
  have e : g.1 (1, 0, 0) w = s w := hgc.1.1 w hw
  have n0 := hs.1.1.2.2.2.2.n0 hw
  rw [if_neg (by rw [wi_1 hx]; decide), e] at hop
  by_cases z2 : s w = x
  · rw [if_pos z2] at hop ⊢
    have := c_act_set n _ _ h ha ha4 hne hk (by rw [hgg]; exact hop) g7
    exact ⟨_, this, fun _ => hg.err (by decide), fun t => absurd z2 t, n0⟩
  · rw [if_neg z2] at hop ⊢
    have F : Fr 0 g (up1 g (1, 0, 0) w x) := (frx1 Fr.rf)
    obtain ⟨T, hq, -, -⟩ := hg.1.T
    have := c_act_set n _ _ h ha ha4 hne hk (by rw [hgg]; exact hop) (by rw [fr_7 F]; exact g7)
    exact ⟨_, this, fun t => absurd t z2, fun _ => hg.act hgx F ⟨hg.1.1.set hgc hw hx, T, hq.set hw x⟩ n0, n0⟩
theorem c_setP (n : Nat) {h : DH} {s : Nat → Int32} {l : List (Nat → Int32)} (hs : PR h s l) (y x : Int32) : GA (n + 6) 0 [.inl y, .inl x] h := by
  rcases wip_dec y 0 9 with hy | hy
  · obtain ⟨w, hw, rfl⟩ := wip_nI (n := 9) (by decide) hy
    have hw : w < 10 := by omega
    rcases wip_dec x (dcst 1 w) (dcst 2 w) with hx | hx
    · obtain ⟨h', h1, h2, h3, h4⟩ := c_setQ n hs hw hx
      by_cases z : s w = x
      · rw [if_pos z] at h1
        exact ⟨_, _, _, _, h1, h2 z, by decide⟩
      · rw [if_neg z] at h1
        exact ⟨_, _, _, _, h1, h3 z, n5_of_n0 h4⟩
    · obtain ⟨c, g, hgg, hk, hne, ha, ha4, hg, hgx, hgc, g7⟩ := hs.go
      have hop := (c_setNumber (n + 3) 0 (nI w) x g).2 w hw rfl
      rw [if_pos (wi_0 hx)] at hop
      exact ⟨_, _, _, _, c_act_set n _ _ h ha ha4 hne hk (by rw [hgg]; exact hop) g7, hg.err (by decide), by decide⟩
  · obtain ⟨c, g, hgg, hk, hne, ha, ha4, hg, hgx, hgc, g7⟩ := hs.go
    have hop := (c_setNumber (n + 3) 0 y x g).1 hy
    exact ⟨_, _, _, _, c_act_set n _ _ h ha ha4 hne hk (by rw [hgg]; exact hop) g7, hg.err (by decide), by decide⟩
theorem c_readP (n : Nat) {h : DH} {s : Nat → Int32} {l : List (Nat → Int32)} (hs : PR h s l) (y x : Int32) : GA (n + 6) 9 [.inl y, .inl x] h := by
  obtain ⟨c, g, hgg, hk, hne, ha, ha4, hg, hgx, hgc, g7⟩ := hs.go
  have h30 := hgc.2.2.1
  rcases wip_dec y 0 11 with hy | hy
  · obtain ⟨d, hd, rfl⟩ := wip_nI (n := 11) (by decide) hy
    have hd : d < 12 := by omega
    have hop := (c_addRead (n + 2) 0 (nI d) x g hgc.2.1 h30).2 d hd rfl
    have e : g.1 (4, 0, d) 0 = s (oD d 0) := hgc.1.2.2 d hd 0 (by decide)
    have e4 : g.1 (0, 0, 0) 4 = s 12 := hgc.1.2.1 4 (by decide) (by decide)
    obtain ⟨q, q1, q2⟩ := hg.1.1.2.2.1
    by_cases z1 : wi x 1 50 = 0
    · rw [if_pos z1] at hop
      exact ⟨_, _, _, _, c_act_read n _ _ h ha ha4 hne hk (by rw [hgg]; exact hop) g7, hg.err (by decide), by decide⟩
    · rw [if_neg z1, e] at hop
      by_cases z2 : s (oD d 0) = 3
      · rw [if_pos z2] at hop
        exact ⟨_, _, _, _, c_act_read n _ _ h ha ha4 hne hk (by rw [hgg]; exact hop) g7, hg.err (by decide), by decide⟩
      · rw [if_neg z2, e4] at hop
        by_cases z3 : c = 30 ∨ 500 ≤ s 12
        · rw [if_pos z3] at hop
          exact ⟨_, _, _, _, c_act_read n _ _ h ha ha4 hne hk (by rw [hgg]; exact hop) g7, hg.err (by decide), by decide⟩
        · rw [if_neg z3] at hop
          have F : Fr 0 g (caddH g 0 c d x) := (frx4 (frx0 (frx0 (frx5 (frx5 (frx5 (frx5 (frx5 Fr.rf))))))))
          have hx : wip x 1 50 := by
            rcases wip_dec x 1 50 with t | t
            · exact t
            · exact absurd (wi_0 t) z1
          have q5 : q < 500 := by
            refine Decidable.byContradiction fun t => z3 (Or.inr ?_)
            rw [q2]
            exact nI_le (show 500 ≤ q by omega) (by omega)
          have n0 : ¬ s 12 < 0 := by rw [q2]; exact nI_n0 (by omega)
          obtain ⟨T, hq, -, -⟩ := hg.1.T
          have h500 : ¬ s 12 = 500 := fun t => z3 (Or.inr (by rw [t]; exact Int32.le_refl _))
          have hc30 : c < 30 := by have : c ≠ 30 := fun t => z3 (Or.inl t); omega
          exact ⟨_, _, _, _, c_act_read n _ _ h ha ha4 hne hk (by rw [hgg]; exact hop) (by rw [fr_7 F]; exact g7), hg.act hgx F ⟨hg.1.1.read hgc hd hc30 hx z2 h500, T, hq.read hgc.2.2.2.1 hc30 hd ⟨q, q5, q2⟩⟩ n0, n5_of_n0 n0⟩
  · have hop := (c_addRead (n + 2) 0 y x g hgc.2.1 h30).1 hy
    exact ⟨_, _, _, _, c_act_read n _ _ h ha ha4 hne hk (by rw [hgg]; exact hop) g7, hg.err (by decide), by decide⟩
theorem c_dropP (n : Nat) {h : DH} {s : Nat → Int32} {l : List (Nat → Int32)} (hs : PR h s l) (y : Int32) : GA (n + 6) 12 [.inl y] h := by
  obtain ⟨c, g, hgg, hk, hne, ha, ha4, hg, hgx, hgc, g7⟩ := hs.go
  have h30 := hgc.2.2.1
  have hop := c_dropRead (n + 3) 0 y g hgc.2.1 h30 hgc.rok
  rw [hgc.plc y] at hop
  cases hp : mplc s c y with
  | none =>
    rw [hp] at hop
    exact ⟨_, _, _, _, c_act_drop n _ h ha ha4 hne hk (by rw [hgg]; exact hop) g7, hg.err (by decide), by decide⟩
  | some p =>
    rw [hp] at hop
    dsimp only at hop
    have hpc := (fp_some hp).1
    have F : Fr 0 g (drpH g 0 c p) := Fr_drp
    rw [(drop_SR hgc hpc).1] at hop
    obtain ⟨T, hq, -, -⟩ := hg.1.T
    have n0 : ¬ nI (c - 1) < 0 := nI_n0 (by omega)
    exact ⟨_, _, _, _, c_act_drop n _ h ha ha4 hne hk (by rw [hgg]; exact hop) (by rw [fr_7 F]; exact g7), hg.act hgx F ⟨hg.1.1.drop hgc hpc, T, hq.drop hgc.2.2.2.1 h30 hpc⟩ n0, n5_of_n0 n0⟩
theorem c_failP (n : Nat) {h : DH} {s : Nat → Int32} {l : List (Nat → Int32)} (hs : PR h s l) (y : Int32) : GA (n + 6) 16 [.inl y] h := by
  obtain ⟨c, g, hgg, hk, hne, ha, ha4, hg, hgx, hgc, g7⟩ := hs.go
  rcases wip_dec y 0 11 with hy | hy
  · obtain ⟨d, hd, rfl⟩ := wip_nI (n := 11) (by decide) hy
    have hd : d < 12 := by omega
    have hop := (c_planFault (n + 2) 0 (nI d) g).2 d hd rfl
    by_cases z1 : g.1 (4, 0, d) 0 = 3
    · rw [if_pos z1] at hop
      exact ⟨_, _, _, _, c_act_fail n _ h ha ha4 hne hk (by rw [hgg]; exact hop) g7, hg.err (by decide), by decide⟩
    · rw [if_neg z1] at hop
      by_cases z2 : g.1 (4, 0, d) 5 = 0
      · rw [if_pos z2] at hop
        have F : Fr 0 g (up1 g (4, 0, d) 5 1) := (frx4 Fr.rf)
        obtain ⟨f1, f2⟩ := fail_SR hgc hd
        rw [f2] at hop
        have n0 := mpl_n0 f1.2.2.2.2.2.2.2.2.2.1
        obtain ⟨T, hq, -, -⟩ := hg.1.T
        exact ⟨_, _, _, _, c_act_fail n _ h ha ha4 hne hk (by rw [hgg]; exact hop) (by rw [fr_7 F]; exact g7), hg.act hgx F ⟨hg.1.1.plan hgc hd, T, hq.plan hd⟩ n0, n5_of_n0 n0⟩
      · rw [if_neg z2] at hop
        exact ⟨_, _, _, _, c_act_fail n _ h ha ha4 hne hk (by rw [hgg]; exact hop) g7, hg.err (by decide), by decide⟩
  · have hop := (c_planFault (n + 2) 0 y g).1 hy
    exact ⟨_, _, _, _, c_act_fail n _ h ha ha4 hne hk (by rw [hgg]; exact hop) g7, hg.err (by decide), by decide⟩
theorem c_repP (n : Nat) {h : DH} {s : Nat → Int32} {l : List (Nat → Int32)} (hs : PR h s l) (y : Int32) : GA (n + 6) 19 [.inl y] h := by
  obtain ⟨c, g, hgg, hk, hne, ha, ha4, hg, hgx, hgc, g7⟩ := hs.go
  have h30 := hgc.2.2.1
  rcases wip_dec y 0 11 with hy | hy
  · obtain ⟨d, hd, rfl⟩ := wip_nI (n := 11) (by decide) hy
    have hd : d < 12 := by omega
    have hop := (c_replaceDisk (n + 2) 0 (nI d) g hgc.2.1 h30).2 d hd rfl
    have e : g.1 (4, 0, d) 0 = s (oD d 0) := hgc.1.2.2 d hd 0 (by decide)
    rw [e] at hop
    have F : Fr 0 g (crp g 0 d c) := Fr_crp c
    obtain ⟨v, v1, v2⟩ := (hgc.2.2.2.2.2.2.2.2.2.1 d hd).1
    have n0 : ¬ s (oD d 0) < 0 := by rw [v2]; exact nI_n0 (by omega)
    obtain ⟨T, hq, -, -⟩ := hg.1.T
    exact ⟨_, _, _, _, c_act_replace n _ h ha ha4 hne hk (by rw [hgg]; exact hop) (by rw [fr_7 F]; exact g7), hg.act hgx F ⟨hg.1.1.rep hgc hd, T, hq.rep hgc.2.2.2.1 h30 hd⟩ n0, n5_of_n0 n0⟩
  · have hop := (c_replaceDisk (n + 2) 0 y g hgc.2.1 h30).1 hy
    exact ⟨_, _, _, _, c_act_replace n _ h ha ha4 hne hk (by rw [hgg]; exact hop) g7, hg.err (by decide), by decide⟩
theorem c_fuseP (n : Nat) {h : DH} {s : Nat → Int32} {l : List (Nat → Int32)} (hs : PR h s l) : GA (n + 6) 23 [] h := by
  obtain ⟨c, g, hgg, hk, hne, ha, ha4, hg, hgx, hgc, g7⟩ := hs.go
  have hop := c_renewFuse (n + 2) 0 g
  have e : g.1 (0, 0, 0) 10 = s 15 := hgc.1.2.1 10 (by decide) (by decide)
  rw [e] at hop
  by_cases z1 : s 15 = 0
  · rw [if_pos z1] at hop
    exact ⟨_, _, _, _, c_act_fuse n h ha ha4 hne hk (by rw [hgg]; exact hop) g7, hg.err (by decide), by decide⟩
  · rw [if_neg z1] at hop
    have F : Fr 0 g (up1 g (0, 0, 0) 10 0) := (frx0 Fr.rf)
    have f1 := (fuse_new hgc hg.1.1.2.1 z1).1
    rw [sumcur f1] at hop
    have xf := hg.1.1.fuse hgc z1
    obtain ⟨k, k1, k2⟩ := mcurN_le xf.2.2.2.2 c
    have n0 : ¬ mcurN (nf s) c < 0 := by rw [k2]; exact nI_n0 (by omega)
    obtain ⟨T, hq, -, -⟩ := hg.1.T
    exact ⟨_, _, _, _, c_act_fuse n h ha ha4 hne hk (by rw [hgg]; exact hop) (by rw [fr_7 F]; exact g7), hg.act hgx F ⟨xf, T, hq.fuse⟩ n0, n5_of_n0 n0⟩
theorem c_runQ (n : Nat) {h : DH} {s : Nat → Int32} {l : List (Nat → Int32)} (hs : PR h s l) (f : Nat → Int32) {t : Nat} (ht1 : 1 ≤ t) (ht2 : t ≤ 200) (hT : s 10 + nI t ≤ 99999) : ∃ h', dEx (n + 6) 27 [.inr (6, 0, 0), .inl (nI t)] h (some (.inl (nI (ans (rk s f t).1 - ans s))), h') ∧ PR h' (rk s f t).1 ((s :: l).take 4) := by
  obtain ⟨c, g, hgg, hk, hne, ha, ha4, hg, hgx, hgc, g7⟩ := hs.go
  have hy : wip (nI t) 1 200 := ⟨nI_nlt ht1 (by omega), nI_nlt ht2 (by decide)⟩
  have hop := c_pass1 n 0 t (by omega) g hy (fun _ k _ => pass_ok f hgc k)
  have e8 : g.1 (0, 0, 0) 8 = s 10 := hgc.1.2.1 8 (by decide) (by decide)
  rw [e8, if_pos hT] at hop
  have F : Fr 0 g (pk g 0 t) := (Ft.rf.xpk t).fr
  obtain ⟨p1, p2⟩ := pass_n0 f hgc (show t ≤ 400 by omega)
  obtain ⟨T, hq, hT9, -⟩ := hg.1.T
  rw [p1, (rk_ans f hgc hq (k := t) (by omega)).1] at hop
  rw [(rk_ans f hgc hq (k := t) (by omega)).1] at p2
  exact ⟨_, c_act_run n _ h ha ha4 hne hk (by rw [hgg]; exact hop) (by rw [fr_7 F]; exact g7), hg.act hgx F ⟨hg.1.1.pass f hgc (by omega) hT, T + t, rk_Q f hgc hq t (by omega)⟩ p2⟩
theorem c_runP (n : Nat) {h : DH} {s : Nat → Int32} {l : List (Nat → Int32)} (hs : PR h s l) (y : Int32) : GA (n + 6) 27 [.inl y] h := by
  rcases wip_dec y 1 200 with hy | hy
  · obtain ⟨t, ht1, ht2, rfl⟩ := wip_nI2 (a := 1) (b := 200) (by decide) (by decide) hy
    by_cases z1 : s 10 + nI t ≤ 99999
    · obtain ⟨h', h1, h2⟩ := c_runQ n hs (fun _ => 0) ht1 ht2 z1
      have b : ans (rk s (fun _ => 0) t).1 ≤ 500 := by
        obtain ⟨T, hq, -, -⟩ := h2.1.T
        exact hq.a.2
      exact ⟨_, _, _, _, h1, h2, n5_of_n0 (nI_n0 (by omega))⟩
    · obtain ⟨c, g, hgg, hk, hne, ha, ha4, hg, hgx, hgc, g7⟩ := hs.go
      have hop := c_pass1 n 0 t (by omega) g hy (fun _ k _ => pass_ok (fun _ => 0) hgc k)
      have e8 : g.1 (0, 0, 0) 8 = s 10 := hgc.1.2.1 8 (by decide) (by decide)
      rw [e8, if_neg z1] at hop
      exact ⟨_, _, _, _, c_act_run n _ h ha ha4 hne hk (by rw [hgg]; exact hop) g7, hg.err (by decide), by decide⟩
  · obtain ⟨c, g, hgg, hk, hne, ha, ha4, hg, hgx, hgc, g7⟩ := hs.go
    have hop := c_pass0 n 0 y g hy
    exact ⟨_, _, _, _, c_act_run n _ h ha ha4 hne hk (by rw [hgg]; exact hop) g7, hg.err (by decide), by decide⟩
end
section
/-! runs whose end is only known by what holds of it -/
def dEnQ (T : DTbl) (Q : DRes → Prop) : DS → Prop := fun A => ∃ r, Q r ∧ dEnd T r A
theorem RunsK.ex {T : DTbl} {C : DC} {Q : DRes → Prop} {A : DS} (h : RunsK T C (dEnQ T Q) A) : ∃ r, Q r ∧ Runs T C A r := by
  obtain ⟨n, hn⟩ := h
  induction n generalizing A with
  | zero => exact absurd hn id
  | succ n ih =>
    rcases hn with ⟨P, B, hs, hP, hB⟩ | ⟨mid, as, nx, L, st, v, h1, hc, hm, hB⟩ | ⟨r, hr, he⟩
    · obtain ⟨r, hr, m, hm⟩ := ih hB
      exact ⟨r, hr, m + 1, Or.inl ⟨P, B, hs, hP, hm⟩⟩
    · obtain ⟨r, hr, k, hk⟩ := ih hB
      exact ⟨r, hr, k + 1, Or.inr (Or.inl ⟨mid, as, nx, L, st, v, h1, hc, hm, hk⟩)⟩
    · exact ⟨r, hr, 1, Or.inr (Or.inr he)⟩
theorem RunsK.fin {T : DTbl} {C : DC} {Q : DRes → Prop} {A : DS} {r : DRes} {G : Prop} (h : dfin T A = some (G, r)) (g : G) (q : Q r) : RunsK T C (dEnQ T Q) A := RunsK.stop ⟨r, q, G, h, g⟩
theorem RunsK.ifS {T : DTbl} {C : DC} {K : DS → Prop} {c : Prop} [Decidable c] {a b : Nat} {B : List (Option DV) × List DV × DH} (h1 : c → RunsK T C K (a, B)) (h2 : ¬ c → RunsK T C K (b, B)) : RunsK T C K ((if c then a else b), B) := by
  by_cases hc : c
  · rw [if_pos hc]; exact h1 hc
  · rw [if_neg hc]; exact h2 hc
theorem RunsK.sw1 {T : DTbl} {C : DC} {K : DS → Prop} {d t : Nat} {v x : Int32} {ts : List Nat} {B : List (Option DV) × List DV × DH} (h1 : RunsK T C K (t, B)) (h2 : RunsK T C K (dtsw d (v + 1) ts x, B)) : RunsK T C K (dtsw d v (t :: ts) x, B) := by
  show RunsK T C K ((if x = v then t else dtsw d (v + 1) ts x), B)
  exact RunsK.ifS (fun _ => h1) (fun _ => h2)
theorem RunsK.sw0 {T : DTbl} {C : DC} {K : DS → Prop} {d : Nat} {v x : Int32} {B : List (Option DV) × List DV × DH} (h : RunsK T C K (d, B)) : RunsK T C K (dtsw d v [] x, B) := h
/-! bits (from the kit's starting texts) -/
theorem fa_and (a b : Nat) : nI a &&& nI b = nI (a &&& b) := by
  apply Int32.toBitVec_inj.1
  show BitVec.ofNat 32 a &&& BitVec.ofNat 32 b = BitVec.ofNat 32 (a &&& b)
  apply BitVec.eq_of_getLsbD_eq
  intro i hi
  simp [hi]
theorem fa_mask (n k : Nat) : nI n &&& nI (2 ^ k - 1) = nI (n % 2 ^ k) := by rw [fa_and, Nat.and_two_pow_sub_one_eq_mod]
theorem i_nI (x : Int32) : ∃ n : Nat, x = nI n := ⟨x.toBitVec.toNat, by
  apply Int32.toBitVec_inj.1
  show x.toBitVec = BitVec.ofNat 32 x.toBitVec.toNat
  simp⟩
/-! the law's small methods -/
theorem l_low (n : Nat) (v : Int32) (h : DH) {m : Nat} (h0 : 0 < m) (hm : m < 2 ^ 31) : ∃ k, k < m ∧ dEx (n + 1) 88 [.inl v, .inl (nI m)] h (some (.inl (nI k)), h) := by
  obtain ⟨a, ha⟩ := i_nI v
  have e1 : v &&& 2147483647 = nI (a % 2 ^ 31) := by
    rw [ha]
    exact fa_mask a 31
  have e2 := pk_rem (a := a % 2 ^ 31) (d := m) (Nat.mod_lt _ (by decide)) h0 hm
  refine ⟨a % 2 ^ 31 % m, Nat.mod_lt _ h0, dx_88 ?_⟩
  refine Runs.go 5 rfl ⟨trivial, nI_ne0 h0 hm⟩ ?_
  rw [e1, e2]
  exact Runs.fin rfl trivial
theorem l_cell (n : Nat) (h : DH) {k : Nat} (hk : k < 50) (hS : h.2 (34, 0, 0) 0 < 2 ^ 31) : ∃ v, dEx (n + 1) 87 [.inr (34, 0, 0), .inl (nI k)] h (some (.inl v), h) := by
  by_cases z : k < h.2 (34, 0, 0) 0
  · refine ⟨h.1 (34, 0, 0) k, dx_87 ?_⟩
    refine Runs.go 4 rfl trivial ?_
    refine Runs.ifF (nI_ge z hS) ?_
    refine Runs.go 4 rfl ⟨trivial, i_in z hS⟩ ?_
    rw [i_cl (show k < 2 ^ 31 by omega)]
    exact Runs.fin rfl trivial
  · refine ⟨7919 * (nI k + 3) * (nI k + 11), dx_87 ?_⟩
    refine Runs.go 4 rfl trivial ?_
    refine Runs.ifT (nI_le (by omega) (by omega)) ?_
    refine Runs.go 9 rfl trivial ?_
    exact Runs.fin rfl trivial
theorem c_countP (n : Nat) (x : Int32) (h : DH) {c : Nat} {s : Nat → Int32} (hc : SR h 0 c s) (z : ¬ x = 17) (z2 : ¬ x = 18) : dEx (n + 5) 85 [.inr (6, 0, 0), .inl x] h (some (.inl (mco h s c x)), h) := by
  refine dx_85 ?_
  refine Runs.go 3 rfl trivial ?_
  refine Runs.ifF z ?_
  refine Runs.go 3 rfl trivial ?_
  refine Runs.ifF z2 ?_
  refine Runs.go 3 rfl trivial ?_
  refine Runs.cal rfl (c_tellCount n x h hc z z2) ?_
  exact Runs.fin rfl trivial
theorem mco_3 (h : DH) (s : Nat → Int32) (c : Nat) : mco h s c 3 = s 93 := rfl
theorem mco_4 (h : DH) (s : Nat → Int32) (c : Nat) : mco h s c 4 = s 12 := rfl
/-- what is told of a read -/
def rdO (s : Nat → Int32) (c : Nat) (y x : Int32) : Int32 := match mplc s c y with
  | some k => mtr s k x
  | none => -1
theorem c_readT (n : Nat) (y x : Int32) (h : DH) {c : Nat} {s : Nat → Int32} (hc : SR h 0 c s) : dEx (n + 4) 75 [.inr (6, 0, 0), .inl y, .inl x] h (some (.inl (rdO s c y x)), h) := by
  have := c_readOf n y x h hc.2.1 hc.2.2.1
  rw [hc.plc y] at this
  unfold rdO
  cases hp : mplc s c y with
  | none => rw [hp] at this; exact this
  | some k =>
    rw [hp] at this
    dsimp only at this ⊢
    rw [tellr_eq hc (fp_some hp).1 x] at this
    exact this
def pr (s : Nat → Int32) (x : Int32) : Prop := ∃ r ∈ LM s (cc s), r.1 = x
theorem mplc_none {s : Nat → Int32} {c : Nat} {x : Int32} (hc : cc s = c) : mplc s c x = none ↔ ¬ pr s x := by
  constructor
  · rintro h ⟨r, hr, e⟩
    rw [hc] at hr
    obtain ⟨k, hk, rfl⟩ := LM_mem.mp hr
    have := fp_none h k hk
    simp at this
    exact this e
  · intro h
    refine fp_nof (fun k hk => ?_)
    simp
    intro e
    exact h ⟨rmk s k, by rw [hc]; exact LM_mem.mpr ⟨k, hk, rfl⟩, e⟩
theorem mplc_at {s : Nat → Int32} {c p : Nat} {x : Int32} (hc : cc s = c) (h : mplc s c x = some p) : p < c ∧ rmk s p ∈ LM s (cc s) ∧ (rmk s p).1 = x := by
  obtain ⟨h1, h2, -⟩ := fp_some h
  exact ⟨h1, by rw [hc]; exact LM_mem.mpr ⟨p, h1, rfl⟩, of_decide_eq_true h2⟩
theorem SR.cc {h : DH} {i c : Nat} {s : Nat → Int32} (hs : SR h i c s) : cc s = c := cc_of hs.2.2.2.1 hs.2.2.1
/-- some read that waits or goes on -/
theorem l_some (n : Nat) (v : Int32) {h : DH} {s : Nat → Int32} {l : List (Nat → Int32)} (hs : PR h s l) : ∃ r, (r = -5 ∨ pr s r) ∧ dEx (n + 6) 89 [.inr (6, 0, 0), .inl v] h (some (.inl r), h) := by
  obtain ⟨c, hc⟩ := hs.sr
  obtain ⟨q, q1, q2⟩ := hs.1.1.2.2.1
  let Q : DRes → Prop := fun r => ∃ x, (x = -5 ∨ pr s x) ∧ r = (some (.inl x), h)
  have loop : ∀ m k, q - k = m → k ≤ q → ∀ b : Int32, RunsK dT_89 (dEx (n + 5)) (dEnQ dT_89 Q) (24, [some (.inr (6, 0, 0)), some (.inl v), some (.inl b), some (.inl (nI k))], [], h) := by
    intro m
    induction m with
    | zero =>
      intro k hm hk b
      refine RunsK.go 3 rfl trivial ?_
      refine RunsK.cal rfl (c_countP n 4 h hc (by decide) (by decide)) ?_
      rw [mco_4, q2]
      refine RunsK.go 1 rfl trivial ?_
      refine RunsK.ifT (nI_le (by omega) (by omega)) ?_
      refine RunsK.go 1 rfl trivial ?_
      exact RunsK.fin rfl trivial ⟨_, Or.inl rfl, rfl⟩
    | succ m ih =>
      intro k hm hk b
      refine RunsK.go 3 rfl trivial ?_
      refine RunsK.cal rfl (c_countP n 4 h hc (by decide) (by decide)) ?_
      rw [mco_4, q2]
      refine RunsK.go 1 rfl trivial ?_
      refine RunsK.ifF (nI_ge (by omega) (by omega)) ?_
      refine RunsK.go 2 rfl trivial ?_
      refine RunsK.ifS (fun _ => ?_) (fun _ => ?_)
      · refine RunsK.go 1 rfl trivial ?_
        exact RunsK.fin rfl trivial ⟨_, Or.inl rfl, rfl⟩
      · refine RunsK.go 3 rfl trivial ?_
        refine RunsK.cal rfl (c_readT (n + 1) (nI k) 0 h hc) ?_
        refine RunsK.go 1 rfl trivial ?_
        have next : ∀ b' : Int32, RunsK dT_89 (dEx (n + 5)) (dEnQ dT_89 Q) (55, [some (.inr (6, 0, 0)), some (.inl v), some (.inl b'), some (.inl (nI k))], [], h) := fun b' => by
          refine RunsK.go 2 rfl trivial ?_
          rw [nI_1]
          exact ih (k + 1) (by omega) (by omega) b'
        refine RunsK.ifS (fun _ => next b) (fun z => ?_)
        refine RunsK.go 2 rfl trivial ?_
        refine RunsK.ifS (fun _ => ?_) (fun _ => ?_)
        · refine RunsK.go 1 rfl trivial ?_
          refine RunsK.fin rfl trivial ⟨nI k, Or.inr ?_, rfl⟩
          refine Classical.byContradiction fun hn => z ?_
          unfold rdO
          rw [(mplc_none hc.cc).mpr hn]
          show (-1 : Int32) < 0
          decide
        · refine RunsK.go 1 rfl trivial ?_
          exact next _
  have key : RunsK dT_89 (dEx (n + 5)) (dEnQ dT_89 Q) (0, [some (.inr (6, 0, 0)), some (.inl v), none, none], [], h) := by
    refine RunsK.go 2 rfl trivial ?_
    refine RunsK.cal rfl (c_countP n 3 h hc (by decide) (by decide)) ?_
    rw [mco_3, hc.2.2.2.1]
    have h30 := hc.2.2.1
    refine RunsK.go 1 rfl trivial ?_
    by_cases z : nI c = 0
    · refine RunsK.ifT z ?_
      refine RunsK.go 5 rfl trivial ?_
      exact loop (q - 0) 0 rfl (Nat.zero_le _) _
    · refine RunsK.ifF z ?_
      refine RunsK.go 3 rfl trivial ?_
      refine RunsK.cal rfl (c_countP n 3 h hc (by decide) (by decide)) ?_
      rw [mco_3, hc.2.2.2.1]
      have c0 : 0 < c := Nat.pos_of_ne_zero (fun t => z (by rw [t]; rfl))
      obtain ⟨k, hk, hl⟩ := l_low (n + 4) v h c0 (by omega)
      refine RunsK.cal rfl hl ?_
      refine RunsK.go 3 rfl trivial ?_
      exact loop (q - 0) 0 rfl (Nat.zero_le _) _
  obtain ⟨r, ⟨x, hx, rfl⟩, hr⟩ := key.ex
  exact ⟨x, hx, dx_89 hr⟩
end
section
/-! does and currentOf of the law; facts of a disk -/
theorem l_does (n : Nat) (v : Int32) {h : DH} {s : Nat → Int32} {l : List (Nat → Int32)} (hs : PR h s l) : ∃ (got : Int32) (h' : DH) (s' : Nat → Int32) (l' : List (Nat → Int32)), dEx (n + 7) 90 [.inr (6, 0, 0), .inl v] h (some (.inl got), h') ∧ PR h' s' l' ∧ ¬ got < -5 := by
  let Q : DRes → Prop := fun r => ∃ (got : Int32) (h' : DH) (s' : Nat → Int32) (l' : List (Nat → Int32)), r = (some (.inl got), h') ∧ PR h' s' l' ∧ ¬ got < -5
  have go : ∀ {mid nx : Nat} {as : List DV} {pc : Nat} {L : List (Option DV)} {st : List DV}, GA (n + 6) mid as h → dcall dT_90 (pc, L, st, h) = some (mid, .inr (6, 0, 0) :: as, nx, L, []) → (∀ got h', dfin dT_90 (nx, L, [.inl got], h') = some (True, (some (.inl got), h'))) → RunsK dT_90 (dEx (n + 6)) (dEnQ dT_90 Q) (pc, L, st, h) := by
    rintro mid nx as pc L st ⟨got, h', s', l', a1, a2, a3⟩ hc hf
    exact RunsK.cal hc a1 (RunsK.fin (hf got h') trivial ⟨got, h', s', l', rfl, a2, a3⟩)
  have key : RunsK dT_90 (dEx (n + 6)) (dEnQ dT_90 Q) (0, [some (.inr (6, 0, 0)), some (.inl v), none, none, none], [], h) := by
    refine RunsK.go 4 rfl trivial ?_
    obtain ⟨d, hd, hl⟩ := l_low (n + 5) (v >>> (4 &&& 31)) h (m := 12) (by decide) (by decide)
    refine RunsK.cal rfl hl ?_
    refine RunsK.go 5 rfl trivial ?_
    have cRead : RunsK dT_90 (dEx (n + 6)) (dEnQ dT_90 Q) (76, [some (.inr (6, 0, 0)), some (.inl v), some (.inl (nI d)), none, none], [], h) := by
      refine RunsK.go 7 rfl trivial ?_
      obtain ⟨t, _, ht⟩ := l_low (n + 5) (v >>> (8 &&& 31)) h (m := 50) (by decide) (by decide)
      refine RunsK.cal rfl ht ?_
      refine RunsK.go 1 rfl trivial ?_
      exact go (c_readP n hs _ _) rfl (fun _ _ => rfl)
    have cDrop : RunsK dT_90 (dEx (n + 6)) (dEnQ dT_90 Q) (93, [some (.inr (6, 0, 0)), some (.inl v), some (.inl (nI d)), none, none], [], h) := by
      refine RunsK.go 5 rfl trivial ?_
      obtain ⟨r, _, hr⟩ := l_some n (v >>> (4 &&& 31)) hs
      refine RunsK.cal rfl hr ?_
      exact go (c_dropP n hs _) rfl (fun _ _ => rfl)
    have cFail : RunsK dT_90 (dEx (n + 6)) (dEnQ dT_90 Q) (105, [some (.inr (6, 0, 0)), some (.inl v), some (.inl (nI d)), none, none], [], h) := by
      refine RunsK.go 2 rfl trivial ?_
      exact go (c_failP n hs _) rfl (fun _ _ => rfl)
    have cRepl : RunsK dT_90 (dEx (n + 6)) (dEnQ dT_90 Q) (111, [some (.inr (6, 0, 0)), some (.inl v), some (.inl (nI d)), none, none], [], h) := by
      refine RunsK.go 6 rfl trivial ?_
      refine RunsK.ifS (fun _ => ?_) (fun _ => ?_)
      · refine RunsK.go 2 rfl trivial ?_
        obtain ⟨got, h', s', l', a1, a2, a3⟩ := c_repP n hs (nI d)
        refine RunsK.cal rfl a1 ?_
        refine RunsK.go 1 rfl trivial ?_
        exact RunsK.fin rfl trivial ⟨got, h', s', l', rfl, a2, a3⟩
      · refine RunsK.go 1 rfl trivial ?_
        exact go (c_fuseP n hs) rfl (fun _ _ => rfl)
    have cFuse : RunsK dT_90 (dEx (n + 6)) (dEnQ dT_90 Q) (133, [some (.inr (6, 0, 0)), some (.inl v), some (.inl (nI d)), none, none], [], h) := by
      refine RunsK.go 1 rfl trivial ?_
      exact go (c_fuseP n hs) rfl (fun _ _ => rfl)
    have cSet : RunsK dT_90 (dEx (n + 6)) (dEnQ dT_90 Q) (138, [some (.inr (6, 0, 0)), some (.inl v), some (.inl (nI d)), none, none], [], h) := by
      refine RunsK.go 4 rfl trivial ?_
      obtain ⟨w, _, hw⟩ := l_low (n + 5) (v >>> (4 &&& 31)) h (m := 10) (by decide) (by decide)
      refine RunsK.cal rfl hw ?_
      refine RunsK.go 5 rfl trivial ?_
      obtain ⟨x, _, hx⟩ := l_low (n + 5) (v >>> (8 &&& 31)) h (m := 20) (by decide) (by decide)
      refine RunsK.cal rfl hx ?_
      refine RunsK.go 6 rfl trivial ?_
      have c191 : RunsK dT_90 (dEx (n + 6)) (dEnQ dT_90 Q) (191, [some (.inr (6, 0, 0)), some (.inl v), some (.inl (nI d)), some (.inl (nI w)), some (.inl (nI x))], [.inl (nI w), .inr (6, 0, 0)], h) := by
        refine RunsK.go 6 rfl ⟨trivial, (by decide)⟩ ?_
        exact go (c_setP n hs _ _) rfl (fun _ _ => rfl)
      refine RunsK.ifS (fun _ => ?_) (fun _ => ?_)
      · refine RunsK.go 6 rfl trivial ?_
        exact go (c_setP n hs _ _) rfl (fun _ _ => rfl)
      · refine RunsK.go 3 rfl trivial ?_
        refine RunsK.ifS (fun _ => c191) (fun _ => ?_)
        refine RunsK.go 2 rfl trivial ?_
        refine RunsK.ifS (fun _ => c191) (fun _ => ?_)
        refine RunsK.go 3 rfl trivial ?_
        refine RunsK.ifS (fun _ => c191) (fun _ => ?_)
        refine RunsK.go 3 rfl trivial ?_
        refine RunsK.ifS (fun _ => ?_) (fun _ => ?_)
        · refine RunsK.go 4 rfl ⟨trivial, (by decide)⟩ ?_
          exact go (c_setP n hs _ _) rfl (fun _ _ => rfl)
        · refine RunsK.go 1 rfl trivial ?_
          exact go (c_setP n hs _ _) rfl (fun _ _ => rfl)
    have cRun : RunsK dT_90 (dEx (n + 6)) (dEnQ dT_90 Q) (220, [some (.inr (6, 0, 0)), some (.inl v), some (.inl (nI d)), none, none], [], h) := by
      refine RunsK.go 6 rfl trivial ?_
      obtain ⟨t, _, ht⟩ := l_low (n + 5) (v >>> (4 &&& 31)) h (m := 30) (by decide) (by decide)
      refine RunsK.cal rfl ht ?_
      refine RunsK.go 1 rfl trivial ?_
      exact go (c_runP n hs _) rfl (fun _ _ => rfl)
    refine RunsK.sw1 cRead ?_
    refine RunsK.sw1 cRead ?_
    refine RunsK.sw1 cRead ?_
    refine RunsK.sw1 cRead ?_
    refine RunsK.sw1 cRead ?_
    refine RunsK.sw1 cDrop ?_
    refine RunsK.sw1 cFail ?_
    refine RunsK.sw1 cFail ?_
    refine RunsK.sw1 cRepl ?_
    refine RunsK.sw1 cFuse ?_
    refine RunsK.sw1 cSet ?_
    refine RunsK.sw1 cSet ?_
    exact RunsK.sw0 cRun
  obtain ⟨r, ⟨got, h', s', l', rfl, a2, a3⟩, hr⟩ := key.ex
  exact ⟨got, h', s', l', dx_90 hr, a2, a3⟩
theorem c_diskT (n : Nat) (x : Int32) (h : DH) {c d : Nat} {s : Nat → Int32} (hc : SR h 0 c s) (hd : d < 12) : dEx (n + 4) 73 [.inr (6, 0, 0), .inl (nI d), .inl x] h (some (.inl (mtd s c d x)), h) := by
  have := (c_disk n (nI d) x h).1 d hd rfl
  rw [tell_eq hc hd] at this
  exact this
theorem mahd_c (s : Nat → Int32) (c d : Nat) : mahd s (nI d) c = nI (cntD (nI d) (LM s c)) := mahd_cnt s (nI d) c
theorem l_currentOf (n : Nat) (h : DH) {c d : Nat} {s : Nat → Int32} (hc : SR h 0 c s) (hd : d < 12) : dEx (n + 6) 91 [.inr (6, 0, 0), .inl (nI d)] h (some (.inl (mcur s c d)), h) := by
  refine dx_91 ?_
  have di := hc.2.2.2.2.2.2.2.2.2.1 d hd
  refine Runs.go 3 rfl trivial ?_
  refine Runs.cal rfl (c_diskT (n + 1) 0 h hc hd) ?_
  rw [show mtd s c d 0 = s (oD d 0) from rfl]
  refine Runs.go 3 rfl trivial ?_
  unfold mcur
  by_cases z0 : s (oD d 0) = 0
  · refine Runs.ifT z0 ?_
    rw [if_pos z0]
    refine Runs.go 2 rfl trivial ?_
    refine Runs.cal rfl (c_countP n 24 h hc (by decide) (by decide)) ?_
    rw [show mco h s c 24 = s 4 from rfl]
    refine Runs.go 1 rfl trivial ?_
    exact Runs.fin rfl trivial
  · refine Runs.ifF z0 ?_
    rw [if_neg z0]
    refine Runs.go 3 rfl trivial ?_
    by_cases z1 : s (oD d 0) = 1
    · refine Runs.ifT z1 ?_
      rw [if_pos z1]
      refine Runs.go 2 rfl trivial ?_
      refine Runs.cal rfl (c_countP n 21 h hc (by decide) (by decide)) ?_
      rw [show mco h s c 21 = s 1 from rfl]
      refine Runs.go 1 rfl trivial ?_
      exact Runs.fin rfl trivial
    · refine Runs.ifF z1 ?_
      rw [if_neg z1]
      refine Runs.go 3 rfl trivial ?_
      by_cases z3 : s (oD d 0) = 3
      · refine Runs.ifT z3 ?_
        rw [if_pos z3]
        refine Runs.go 2 rfl trivial ?_
        exact Runs.fin rfl trivial
      · refine Runs.ifF z3 ?_
        rw [if_neg z3]
        refine Runs.go 2 rfl trivial ?_
        refine Runs.cal rfl (c_countP n 22 h hc (by decide) (by decide)) ?_
        rw [show mco h s c 22 = s 2 from rfl]
        refine Runs.go 3 rfl trivial ?_
        refine Runs.cal rfl (c_diskT (n + 1) 5 h hc hd) ?_
        rw [show mtd s c d 5 = mahd s (nI d) c from rfl, mahd_c]
        refine Runs.go 1 rfl trivial ?_
        have hlen := cntD_le (nI d) (LM s c)
        rw [LM_len] at hlen
        have h30 := hc.2.2.1
        cases hm : mfst s c (nI d) with
        | none =>
          rw [cntD_0.mpr (mfst_none.mp hm)]
          refine Runs.ifT (by decide) ?_
          refine Runs.go 2 rfl trivial ?_
          exact Runs.fin rfl trivial
        | some p =>
          have : cntD (nI d) (LM s c) ≠ 0 := fun t => by
            have := mfst_none.mpr (cntD_0.mp t)
            rw [hm] at this
            cases this
          refine Runs.ifF (nI_nle (by omega) (by omega)) ?_
          refine Runs.go 2 rfl trivial ?_
          refine Runs.cal rfl (c_countP n 23 h hc (by decide) (by decide)) ?_
          rw [show mco h s c 23 = s 3 from rfl]
          refine Runs.go 2 rfl trivial ?_
          exact Runs.fin rfl trivial
/-! facts of a disk -/
theorem df_2 {s : Nat → Int32} {d : Nat} (di : DInv s d) (z : ¬ s (oD d 0) = 1) : s (oD d 1) = 0 := di.2.2.1 z
theorem df_1 {s : Nat → Int32} {d : Nat} (di : DInv s d) (z : s (oD d 0) = 1) : ¬ s (oD d 1) ≤ 0 := by
  obtain ⟨l, l1, l2, e⟩ := di.2.1 z
  rw [e]
  exact nI_nle (by omega) (by omega)
theorem df_3 {s : Nat → Int32} {d : Nat} (di : DInv s d) (q1 : Q1 s) (hd : d < 12) : s (oD d 0) = 3 ↔ s (oD d 2) = 3 := by
  constructor
  · exact q1 d hd
  · intro h
    refine Decidable.byContradiction fun z => ?_
    obtain ⟨q, h2, e⟩ := di.2.2.2.2.1 z
    rw [e] at h
    have := nI_inj (b := 3) (by omega) (by decide) h
    omega
theorem df_4 {s : Nat → Int32} {d : Nat} (di : DInv s d) (q1 : Q1 s) (hd : d < 12) : ¬ 3 < s (oD d 2) := by
  by_cases z : s (oD d 0) = 3
  · rw [q1 d hd z]; decide
  · obtain ⟨q, h2, e⟩ := di.2.2.2.2.1 z
    rw [e]
    exact nI_nlt (show q ≤ 3 by omega) (by decide)
theorem df_6 {h : DH} {c d : Nat} {s : Nat → Int32} (hc : SR h 0 c s) (hd : d < 12) (z : s (oD d 0) = 3) : mahd s (nI d) c = 0 := by
  rw [mahd_c]
  have : cntD (nI d) (LM s c) = 0 := by
    rw [cntD_0, hasD_0]
    intro r hr e
    obtain ⟨e', he', h1, h2, -⟩ := hc.2.2.2.2.2.2.2.2.2.2 r hr
    have : e' = d := nI_inj (by omega) (by omega) (h1.symm.trans e)
    subst this
    exact h2 z
  rw [this]
  rfl
theorem sum_cnt : ∀ L : List R5, (∀ r ∈ L, ∃ e, e < 12 ∧ dk5 r = nI e) → nS (fun d => cntD (nI d) L) 12 = L.length := by
  intro L
  induction L with
  | nil => intro _; rfl
  | cons a L ih =>
    intro h
    obtain ⟨e, he, hae⟩ := h a List.mem_cons_self
    have h1 := ih (fun r hr => h r (List.mem_cons_of_mem _ hr))
    have h2 := nS_ch (f := fun d => cntD (nI d) (a :: L)) (g := fun d => cntD (nI d) L) (d := e) 12 he (fun d hd hne => by
      rw [cntD_cons, if_neg (fun t => hne (nI_inj (by omega) (by omega) (t.symm.trans hae))), Nat.zero_add])
    rw [cntD_cons, if_pos hae] at h2
    rw [List.length_cons]
    omega
theorem sum_reads {h : DH} {c : Nat} {s : Nat → Int32} (hc : SR h 0 c s) : sumN (fun d => mahd s (nI d) c) 12 = nI c := by
  rw [sumN_nS 12 (fun d _ => mahd_c s c d), sum_cnt, LM_len]
  intro r hr
  obtain ⟨e, he, h1, -⟩ := hc.2.2.2.2.2.2.2.2.2.2 r hr
  exact ⟨e, he, h1⟩
theorem cs_le (s : Nat → Int32) (st c0 : Int32) : ∀ m, ∃ k, k ≤ m ∧ (cs s st c0 m).2 = nI k := by
  intro m
  induction m with
  | zero => exact ⟨0, Nat.le_refl _, rfl⟩
  | succ m ih =>
    obtain ⟨k, hk, e⟩ := ih
    show ∃ k, k ≤ m + 1 ∧ (csB s st (cs s st c0 m)).2 = nI k
    unfold csB
    split
    · exact ⟨k, by omega, by rw [e]; exact Int32.add_zero _⟩
    · exact ⟨k + 1, by omega, by rw [e]; exact nI_1 k⟩
theorem could_le {h : DH} {c : Nat} {s : Nat → Int32} (hc : SR h 0 c s) : (∃ k m, k ≤ m ∧ m ≤ 12 ∧ cstartable h 0 = nI k ∧ mthat s 0 = nI m) ∧ (¬ s 15 = 0 → cstartable h 0 = 0) := by
  have e10 : h.1 (0, 0, 0) 10 = s 15 := hc.1.2.1 10 (by decide) (by decide)
  unfold cstartable
  rw [e10]
  constructor
  · obtain ⟨m, hm, h1, h2⟩ := could_eq hc (cthat h 0 1) (sumN (ccur h 0) 12) 12 (Nat.le_refl _)
    have h1' : mthat s 0 = nI m := h1
    by_cases z : s 15 = 0
    · rw [if_pos z, h2]
      obtain ⟨k, hk, e⟩ := cs_le s (cthat h 0 1) (sumN (ccur h 0) 12) m
      exact ⟨k, m, hk, hm, e, h1'⟩
    · rw [if_neg z]
      exact ⟨0, m, Nat.zero_le _, hm, rfl, h1'⟩
  · intro z
    rw [if_neg z]
end
section
/-! areDisksSo, behind its array -/
theorem SR.ub {h : DH} {i c : Nat} {s : Nat → Int32} (hs : SR h i c s) {κ : DKey} (hκ : 5 < κ.1) (b : Nat → Int32) : SR (ub h κ b) i c s := hs.fr (fun k m hk => ⟨ub_n h b (fun e => by rw [← e] at hκ; dsimp only at hκ; omega), rfl⟩)
theorem PR.ub {h : DH} {s : Nat → Int32} {l : List (Nat → Int32)} (hs : PR h s l) {κ : DKey} (hκ : 8 < κ.1) (b : Nat → Int32) : PR (ub h κ b) s l := by
  have E : ∀ j, Eq5 j h ((fun q => if q = κ then b else h.1 q, h.2)) := fun j k m hk => ⟨ub_n h b (fun e => by rw [← e] at hκ; dsimp only at hκ; omega), rfl⟩
  exact ⟨hs.1.fr (E 0), hs.2.1.fr (E 1), hs.2.2.cg (ub_n h b (fun e => by rw [← e] at hκ; dsimp only at hκ; omega)) rfl (fun j _ => E j)⟩
def gk (s : Nat → Int32) (g0 : Nat → Int32) : Nat → (Nat → Int32)
  | 0 => g0
  | k + 1 => upd (gk s g0 k) (s (oD k 0)).toNatClampNeg (gk s g0 k (s (oD k 0)).toNatClampNeg + 1)
theorem gk_at {s g0 : Nat → Int32} (h0 : ∀ j, j < 4 → g0 j = 0) (hd : ∀ e, e < 12 → DInv s e) : ∀ k, k ≤ 12 → ∀ j, j < 4 → gk s g0 k j = sumN (fun e => if s (oD e 0) = nI j then 1 else 0) k := by
  intro k
  induction k with
  | zero => exact fun _ j hj => h0 j hj
  | succ k ih =>
    intro hk j hj
    obtain ⟨v, hv, e⟩ := (hd k (by omega)).1
    show upd (gk s g0 k) (s (oD k 0)).toNatClampNeg (gk s g0 k (s (oD k 0)).toNatClampNeg + 1) j = sumN (fun e => if s (oD e 0) = nI j then 1 else 0) k + (if s (oD k 0) = nI j then 1 else 0)
    rw [e, i_cl (show v < 2 ^ 31 by omega)]
    by_cases z : j = v
    · subst z
      rw [upd_s, if_pos rfl, ih (by omega) j hj]
    · rw [upd_n _ _ z, if_neg (fun t => z (nI_inj (by omega) (by omega) t).symm), ih (by omega) j hj, Int32.add_zero]
def lo7 (s : Nat → Int32) : Nat → Option DV
  | 0 => none
  | k + 1 => some (.inl (s (oD k 0)))
theorem l_disks (n : Nat) {h : DH} {s : Nat → Int32} {l : List (Nat → Int32)} (hs : PR h s l) {g0 : Nat → Int32} (h0 : ∀ j, j < 4 → g0 j = 0) : Runs dT_disks (dEx (n + 6)) (11, [some (.inr (6, 0, 0)), some (.inl 0), some (.inl 0), some (.inl 0), some (.inr (35, 0, 0)), none, none, none], [], ub h (35, 0, 0) g0) (some (.inl 1), ub h (35, 0, 0) (gk s g0 12)) := by
  obtain ⟨c, hc⟩ := hs.sr
  obtain ⟨T, hq, -, -⟩ := hs.1.T
  have di := hc.2.2.2.2.2.2.2.2.2.1
  have q1 := hq.2.2.1
  have hub : ∀ g, SR (ub h (35, 0, 0) g) 0 c s := fun g => hc.ub (by decide) g
  have hgk := gk_at h0 di 12 (Nat.le_refl _)
  generalize hr : ((some (.inl 1) : Option DV), ub h (35, 0, 0) (gk s g0 12)) = r
  refine Runs.go 4 rfl trivial ?_
  refine Runs.loop 12 (fun k => (17, [some (.inr (6, 0, 0)), some (.inl (sumN (mcur s c) k)), some (.inl (sumN (fun d => mahd s (nI d) c) k)), some (.inl (sumN (fun d => s (oD d 5)) k)), some (.inr (35, 0, 0)), some (.inl 1), some (.inl (nI k)), lo7 s k], [], ub h (35, 0, 0) (gk s g0 k))) (fun k hk ih => ?_) ?_
  · refine Runs.go 3 rfl trivial ?_
    refine Runs.ifF (i_ge hk (by decide)) ?_
    refine Runs.go 3 rfl trivial ?_
    refine Runs.cal rfl (c_diskT (n + 2) 0 _ (hub _) hk) ?_
    rw [show mtd s c k 0 = s (oD k 0) from rfl]
    obtain ⟨v, hv, ev⟩ := (di k hk).1
    have hin : vp_in (s (oD k 0)) 4 := by rw [ev]; exact i_in hv (by decide)
    refine Runs.go 12 rfl ⟨⟨trivial, hin⟩, hin⟩ ?_
    rw [ub_s, ub_up, show upd (gk s g0 k) (s (oD k 0)).toNatClampNeg (gk s g0 k (s (oD k 0)).toNatClampNeg + 1) = gk s g0 (k + 1) from rfl]
    generalize gk s g0 (k + 1) = G at ih ⊢
    refine Runs.cal rfl (c_diskT (n + 2) 1 _ (hub _) hk) ?_
    rw [show mtd s c k 1 = mcur s c k from rfl]
    refine Runs.go 6 rfl trivial ?_
    refine Runs.cal rfl (c_diskT (n + 2) 5 _ (hub _) hk) ?_
    rw [show mtd s c k 5 = mahd s (nI k) c from rfl]
    refine Runs.go 6 rfl trivial ?_
    refine Runs.cal rfl (c_diskT (n + 2) 7 _ (hub _) hk) ?_
    rw [show mtd s c k 7 = s (oD k 5) from rfl]
    refine Runs.go 4 rfl trivial ?_
    refine Runs.ifF (by decide) ?_
    refine Runs.go 3 rfl trivial ?_
    refine Runs.cal rfl (c_diskT (n + 2) 1 _ (hub _) hk) ?_
    rw [show mtd s c k 1 = mcur s c k from rfl]
    refine Runs.go 2 rfl trivial ?_
    refine Runs.cal rfl (l_currentOf n _ (hub _) hk) ?_
    refine Runs.go 1 rfl trivial ?_
    refine Runs.ifT rfl ?_
    refine Runs.go 3 rfl trivial ?_
    refine Runs.cal rfl (c_diskT (n + 2) 2 _ (hub _) hk) ?_
    rw [show mtd s c k 2 = s (oD k 1) from rfl]
    refine Runs.go 1 rfl trivial ?_
    have e180 : Runs dT_disks (dEx (n + 6)) (180, [some (.inr (6, 0, 0)), some (.inl (sumN (mcur s c) (k + 1))), some (.inl (sumN (fun d => mahd s (nI d) c) (k + 1))), some (.inl (sumN (fun d => s (oD d 5)) (k + 1))), some (.inr (35, 0, 0)), some (.inl 1), some (.inl (nI k)), some (.inl (s (oD k 0)))], [], ub h (35, 0, 0) G) r := by
      have e196 : Runs dT_disks (dEx (n + 6)) (196, [some (.inr (6, 0, 0)), some (.inl (sumN (mcur s c) (k + 1))), some (.inl (sumN (fun d => mahd s (nI d) c) (k + 1))), some (.inl (sumN (fun d => s (oD d 5)) (k + 1))), some (.inr (35, 0, 0)), some (.inl 1), some (.inl (nI k)), some (.inl (s (oD k 0)))], [], ub h (35, 0, 0) G) r := by
        refine Runs.go 5 rfl trivial ?_
        rw [nI_1]
        exact ih
      refine Runs.go 3 rfl trivial ?_
      by_cases z : s (oD k 0) = 3
      · refine Runs.ifT z ?_
        refine Runs.go 3 rfl trivial ?_
        refine Runs.cal rfl (c_diskT (n + 2) 5 _ (hub _) hk) ?_
        rw [show mtd s c k 5 = mahd s (nI k) c from rfl, df_6 hc hk z]
        refine Runs.go 1 rfl trivial ?_
        refine Runs.ifT rfl ?_
        exact e196
      · refine Runs.ifF z ?_
        exact e196
    have e153 : Runs dT_disks (dEx (n + 6)) (153, [some (.inr (6, 0, 0)), some (.inl (sumN (mcur s c) (k + 1))), some (.inl (sumN (fun d => mahd s (nI d) c) (k + 1))), some (.inl (sumN (fun d => s (oD d 5)) (k + 1))), some (.inr (35, 0, 0)), some (.inl 1), some (.inl (nI k)), some (.inl (s (oD k 0)))], [], ub h (35, 0, 0) G) r := by
      refine Runs.go 3 rfl trivial ?_
      refine Runs.cal rfl (c_diskT (n + 2) 3 _ (hub _) hk) ?_
      rw [show mtd s c k 3 = s (oD k 2) from rfl]
      refine Runs.go 2 rfl trivial ?_
      refine Runs.ifF (df_4 (di k hk) q1 hk) ?_
      refine Runs.go 3 rfl trivial ?_
      by_cases z : s (oD k 0) = 2
      · refine Runs.ifT z ?_
        exact e180
      · refine Runs.ifF z ?_
        refine Runs.go 3 rfl trivial ?_
        refine Runs.cal rfl (c_diskT (n + 2) 4 _ (hub _) hk) ?_
        rw [show mtd s c k 4 = s (oD k 3) from rfl, (di k hk).2.2.2.1 z]
        refine Runs.go 1 rfl trivial ?_
        refine Runs.ifT rfl ?_
        exact e180
    have e123 : Runs dT_disks (dEx (n + 6)) (123, [some (.inr (6, 0, 0)), some (.inl (sumN (mcur s c) (k + 1))), some (.inl (sumN (fun d => mahd s (nI d) c) (k + 1))), some (.inl (sumN (fun d => s (oD d 5)) (k + 1))), some (.inr (35, 0, 0)), some (.inl 1), some (.inl (nI k)), some (.inl (s (oD k 0)))], [], ub h (35, 0, 0) G) r := by
      refine Runs.go 3 rfl trivial ?_
      by_cases z : s (oD k 0) = 3
      · refine Runs.ifT z ?_
        refine Runs.go 5 rfl trivial ?_
        refine Runs.cal rfl (c_diskT (n + 2) 3 _ (hub _) hk) ?_
        rw [show mtd s c k 3 = s (oD k 2) from rfl]
        refine Runs.go 2 rfl trivial ?_
        refine Runs.ifT ((df_3 (di k hk) q1 hk).mp z) ?_
        refine Runs.go 3 rfl trivial ?_
        refine Runs.ifT rfl ?_
        exact e153
      · refine Runs.ifF z ?_
        refine Runs.go 4 rfl trivial ?_
        refine Runs.cal rfl (c_diskT (n + 2) 3 _ (hub _) hk) ?_
        rw [show mtd s c k 3 = s (oD k 2) from rfl]
        refine Runs.go 2 rfl trivial ?_
        refine Runs.ifF (fun t => z ((df_3 (di k hk) q1 hk).mpr t)) ?_
        refine Runs.go 2 rfl trivial ?_
        refine Runs.ifT rfl ?_
        exact e153
    by_cases z1 : s (oD k 0) = 1
    · refine Runs.ifF (df_1 (di k hk) z1) ?_
      refine Runs.go 5 rfl trivial ?_
      refine Runs.ifT z1 ?_
      refine Runs.go 3 rfl trivial ?_
      refine Runs.ifT rfl ?_
      exact e123
    · rw [df_2 (di k hk) z1]
      refine Runs.ifT (by decide) ?_
      refine Runs.go 4 rfl trivial ?_
      refine Runs.ifF z1 ?_
      refine Runs.go 2 rfl trivial ?_
      refine Runs.ifT rfl ?_
      exact e123
  · refine Runs.go 3 rfl trivial ?_
    refine Runs.ifT (Int32.le_refl _) ?_
    rw [show sumN (mcur s c) 12 = mcurN s c from rfl, sum_reads hc]
    obtain ⟨σ, S, F, s1, s2, s3, s4, s5, s6⟩ := hq.2.2.2.2.2.2.1
    rw [sumN_nS 12 s1]
    have hT := hq.2.1
    generalize gk s g0 12 = G at hr hgk ⊢
    refine Runs.go 2 rfl trivial ?_
    refine Runs.loop 4 (fun k => (213, [some (.inr (6, 0, 0)), some (.inl (mcurN s c)), some (.inl (nI c)), some (.inl (nI (nS σ 12))), some (.inr (35, 0, 0)), some (.inl 1), some (.inl (nI (7 + k))), lo7 s 12], [], ub h (35, 0, 0) G)) (fun k hk ih => ?_) ?_
    · refine Runs.go 3 rfl trivial ?_
      refine Runs.ifF (i_ge (show 7 + k < 11 by omega) (by decide)) ?_
      refine Runs.go 2 rfl trivial ?_
      refine Runs.ifF (by decide) ?_
      refine Runs.go 2 rfl trivial ?_
      have x17 : ∀ m : Nat, m < 17 → ¬ nI m = 17 := fun m hm t => by
        have := nI_inj (b := 17) (by omega) (by decide) t
        omega
      have x18 : ∀ m : Nat, m < 17 → ¬ nI m = 18 := fun m hm t => by
        have := nI_inj (b := 18) (by omega) (by decide) t
        omega
      refine Runs.cal rfl (c_countP (n + 1) (nI (7 + k)) _ (hub _) (x17 _ (by omega)) (x18 _ (by omega))) ?_
      rw [mco_that _ s c k hk]
      have e7 : nI (7 + k) - 7 = nI k := by
        rw [show (7 : Int32) = nI 7 from rfl, pk_sub (by omega)]
        congr 1
        omega
      refine Runs.go 6 rfl ⟨trivial, (by rw [e7]; exact i_in hk (by decide))⟩ ?_
      rw [e7, i_cl (show k < 2 ^ 31 by omega), ub_s, hgk k hk]
      refine Runs.ifT rfl ?_
      refine Runs.go 5 rfl trivial ?_
      rw [nI_1]
      exact ih
    · refine Runs.go 3 rfl trivial ?_
      refine Runs.ifT (Int32.le_refl _) ?_
      obtain ⟨a, b, A, w12, w13, w14, wle, wA⟩ := hq.2.2.2.2.2.1
      rw [hc.cc] at wle
      have h30 := hc.2.2.1
      obtain ⟨⟨k0, m0, l1, l2, l3, l4⟩, l5⟩ := could_le (hub G)
      refine Runs.go 2 rfl trivial ?_
      refine Runs.ifF (by decide) ?_
      refine Runs.go 3 rfl trivial ?_
      refine Runs.cal rfl (c_countP (n + 1) 1 _ (hub _) (by decide) (by decide)) ?_
      rw [show mco (ub h (35, 0, 0) G) s c 1 = mcurN s c from rfl]
      refine Runs.go 1 rfl trivial ?_
      refine Runs.ifT rfl ?_
      refine Runs.go 3 rfl trivial ?_
      refine Runs.cal rfl (c_countP (n + 1) 3 _ (hub _) (by decide) (by decide)) ?_
      rw [show mco (ub h (35, 0, 0) G) s c 3 = s 93 from rfl, hc.2.2.2.1]
      refine Runs.go 1 rfl trivial ?_
      refine Runs.ifT rfl ?_
      refine Runs.go 3 rfl trivial ?_
      refine Runs.cal rfl (c_countP (n + 1) 14 _ (hub _) (by decide) (by decide)) ?_
      rw [show mco (ub h (35, 0, 0) G) s c 14 = s 18 from rfl, s4]
      refine Runs.go 1 rfl trivial ?_
      refine Runs.ifF (nI_nlt s2 (by omega)) ?_
      refine Runs.go 2 rfl trivial ?_
      refine Runs.cal rfl (c_countP (n + 1) 15 _ (hub _) (by decide) (by decide)) ?_
      rw [show mco (ub h (35, 0, 0) G) s c 15 = s 19 from rfl, s5]
      refine Runs.go 2 rfl trivial ?_
      refine Runs.cal rfl (c_countP (n + 1) 14 _ (hub _) (by decide) (by decide)) ?_
      rw [show mco (ub h (35, 0, 0) G) s c 14 = s 18 from rfl, s4]
      refine Runs.go 1 rfl trivial ?_
      refine Runs.ifF (nI_nlt (show F ≤ S by omega) (by omega)) ?_
      refine Runs.go 2 rfl trivial ?_
      refine Runs.cal rfl (c_countP (n + 1) 5 _ (hub _) (by decide) (by decide)) ?_
      rw [show mco (ub h (35, 0, 0) G) s c 5 = s 13 from rfl, w13]
      refine Runs.go 2 rfl trivial ?_
      refine Runs.cal rfl (c_countP (n + 1) 6 _ (hub _) (by decide) (by decide)) ?_
      rw [show mco (ub h (35, 0, 0) G) s c 6 = s 14 from rfl, w14]
      refine Runs.go 3 rfl trivial ?_
      refine Runs.cal rfl (c_countP (n + 1) 3 _ (hub _) (by decide) (by decide)) ?_
      rw [show mco (ub h (35, 0, 0) G) s c 3 = s 93 from rfl, hc.2.2.2.1]
      refine Runs.go 3 rfl trivial ?_
      refine Runs.cal rfl (c_countP (n + 1) 4 _ (hub _) (by decide) (by decide)) ?_
      rw [show mco (ub h (35, 0, 0) G) s c 4 = s 12 from rfl, w12, nI_add, nI_add]
      refine Runs.go 1 rfl trivial ?_
      refine Runs.ifF (nI_nlt wle (by omega)) ?_
      refine Runs.go 2 rfl trivial ?_
      refine Runs.cal rfl (c_countP (n + 1) 11 _ (hub _) (by decide) (by decide)) ?_
      rw [show mco (ub h (35, 0, 0) G) s c 11 = s 15 from rfl]
      refine Runs.go 1 rfl trivial ?_
      have e354 : Runs dT_disks (dEx (n + 6)) (354, [some (.inr (6, 0, 0)), some (.inl (mcurN s c)), some (.inl (nI c)), some (.inl (nI (nS σ 12))), some (.inr (35, 0, 0)), some (.inl 1), some (.inl (nI (7 + 4))), lo7 s 12], [], ub h (35, 0, 0) G) r := by
        refine Runs.go 1 rfl trivial ?_
        refine Runs.cal rfl (c_couldStart (n + 2) (ub h (35, 0, 0) G)) ?_
        rw [l3]
        refine Runs.go 2 rfl trivial ?_
        refine Runs.cal rfl (c_countP (n + 1) 7 _ (hub _) (by decide) (by decide)) ?_
        rw [show mco (ub h (35, 0, 0) G) s c 7 = mthat s 0 from rfl, l4]
        refine Runs.go 1 rfl trivial ?_
        refine Runs.ifF (nI_nlt l1 (by omega)) ?_
        refine Runs.go 4 rfl trivial ?_
        exact Runs.fin (by rw [← hr]; rfl) (Or.inr rfl)
      by_cases z : s 15 = 0
      · refine Runs.ifT z ?_
        exact e354
      · refine Runs.ifF z ?_
        have y5 := hc.2.2.2.2.2.2.2.2.1.2.2.2.2
        refine Runs.go 2 rfl trivial ?_
        refine Runs.cal rfl (c_countP (n + 1) 12 _ (hub _) (by decide) (by decide)) ?_
        rw [show mco (ub h (35, 0, 0) G) s c 12 = s 16 from rfl, hs.1.1.2.1 (y5.resolve_left z)]
        refine Runs.go 1 rfl trivial ?_
        refine Runs.ifT rfl ?_
        refine Runs.go 1 rfl trivial ?_
        refine Runs.cal rfl (c_couldStart (n + 2) (ub h (35, 0, 0) G)) ?_
        rw [l5 z]
        refine Runs.go 1 rfl trivial ?_
        refine Runs.ifT rfl ?_
        exact e354
end
section
/-! areReadsSo, behind its array -/
def num (s : Nat → Int32) (j : Nat) : Nat := (s (oR j 0)).toNatClampNeg
theorem Q2.nat {s : Nat → Int32} {c A : Nat} (h : Q2 (nI A) (LM s c)) (hA : A ≤ 500) : (∀ j, j < c → s (oR j 0) = nI (num s j) ∧ num s j < A) ∧ ∀ i j, i < j → j < c → num s i < num s j := by
  have h1 : ∀ j, j < c → s (oR j 0) = nI (num s j) ∧ num s j < A := fun j hj => by
    obtain ⟨a1, a2⟩ := h.2 _ (LM_mem.mpr ⟨j, hj, rfl⟩)
    have a1 : ¬ s (oR j 0) < 0 := a1
    have a2 : s (oR j 0) < nI A := a2
    obtain ⟨m, hm, e⟩ := nI_of a1
    have e2 : num s j = m := by unfold num; rw [e, i_cl hm]
    rw [e2]
    refine ⟨e, ?_⟩
    rw [e] at a2
    exact (nI_ltI hm (by omega)).mp a2
  refine ⟨h1, fun i j hij hj => ?_⟩
  have := List.pairwise_iff_getElem.mp h.1 i j (by rw [LM_len]; omega) (by rw [LM_len]; omega) hij
  have ei : (LM s c)[i]'(by rw [LM_len]; omega) = rmk s i := by simp [LM]
  have ej : (LM s c)[j]'(by rw [LM_len]; omega) = rmk s j := by simp [LM]
  rw [ei, ej] at this
  have this : s (oR i 0) < s (oR j 0) := this
  obtain ⟨b1, b2⟩ := h1 i (by omega)
  obtain ⟨c1, c2⟩ := h1 j hj
  rw [b1, c1] at this
  exact (nI_ltI (by omega) (by omega)).mp this
theorem l_reads (n : Nat) {h : DH} {s : Nat → Int32} {l : List (Nat → Int32)} (hs : PR h s l) {g0 : Nat → Int32} (h0 : ∀ j, j < 12 → g0 j = 0) : ∃ G, Runs dT_reads (dEx (n + 6)) (7, [some (.inr (6, 0, 0)), some (.inl 0), some (.inr (36, 0, 0)), none, none, none, none], [], ub h (36, 0, 0) g0) (some (.inl 1), ub h (36, 0, 0) G) := by
  obtain ⟨c, hc⟩ := hs.sr
  obtain ⟨T, hq, hT, hT10⟩ := hs.1.T
  have hub : ∀ g, SR (ub h (36, 0, 0) g) 0 c s := fun g => hc.ub (by decide) g
  obtain ⟨a, b, A, w12, w13, w14, wle, wA⟩ := hq.2.2.2.2.2.1
  have q2 := hq.2.2.2.1
  have q3 := hq.2.2.2.2.1.nat hT10 (by omega)
  rw [hc.cc] at q2 q3 wle
  rw [w12] at q2
  obtain ⟨n1, n2⟩ := q2.nat wA
  have h30 := hc.2.2.1
  let Q : DRes → Prop := fun r => ∃ G, r = (some (.inl 1), ub h (36, 0, 0) G)
  have loop : ∀ m k, A - k = m → k ≤ A → ∀ (p : Nat) (G : Nat → Int32) (x y : Option DV), p ≤ c → (∀ j, j < p → num s j < k) → (∀ j, p ≤ j → j < c → k ≤ num s j) → (∀ d, d < 12 → G d = mahd s (nI d) p) → RunsK dT_reads (dEx (n + 6)) (dEnQ dT_reads Q) (30, [some (.inr (6, 0, 0)), some (.inl (nI p)), some (.inr (36, 0, 0)), some (.inl 1), some (.inl (nI k)), x, y], [], ub h (36, 0, 0) G) := by
    intro m
    induction m with
    | zero =>
      intro k hm hk p G x y hp hlo hhi hG
      have ek : k = A := by omega
      have ep : p = c := by
        rcases Nat.lt_or_ge p c with z | z
        · have := hhi p (Nat.le_refl _) z
          have := (n1 p z).2
          omega
        · omega
      refine RunsK.go 3 rfl trivial ?_
      refine RunsK.cal rfl (c_countP (n + 1) 4 _ (hub _) (by decide) (by decide)) ?_
      rw [show mco (ub h (36, 0, 0) G) s c 4 = s 12 from rfl, w12, ek]
      refine RunsK.go 1 rfl trivial ?_
      refine RunsK.ifT (Int32.le_refl _) ?_
      refine RunsK.go 2 rfl trivial ?_
      refine RunsK.ifF (by decide) ?_
      refine RunsK.go 3 rfl trivial ?_
      refine RunsK.cal rfl (c_countP (n + 1) 3 _ (hub _) (by decide) (by decide)) ?_
      rw [show mco (ub h (36, 0, 0) G) s c 3 = s 93 from rfl, hc.2.2.2.1, ep]
      refine RunsK.go 1 rfl trivial ?_
      refine RunsK.ifT rfl ?_
      refine RunsK.go 2 rfl trivial ?_
      exact RunsK.fin rfl (Or.inr rfl) ⟨G, rfl⟩
    | succ m ih =>
      intro k hm hk p G x y hp hlo hhi hG
      refine RunsK.go 3 rfl trivial ?_
      refine RunsK.cal rfl (c_countP (n + 1) 4 _ (hub _) (by decide) (by decide)) ?_
      rw [show mco (ub h (36, 0, 0) G) s c 4 = s 12 from rfl, w12]
      refine RunsK.go 1 rfl trivial ?_
      refine RunsK.ifF (nI_ge (show k < A by omega) (by omega)) ?_
      refine RunsK.go 3 rfl trivial ?_
      refine RunsK.cal rfl (c_readT (n + 2) (nI k) 0 _ (hub _)) ?_
      by_cases z : p < c ∧ num s p = k
      · obtain ⟨z1, z2⟩ := z
        have e0 := (n1 p z1).1
        rw [z2] at e0
        have hpl : mplc s c (nI k) = some p := by
          refine fp_of z1 (by simpa using e0) (fun j hj => ?_)
          obtain ⟨f1, f2⟩ := n1 j (by omega)
          have := hlo j hj
          simp
          rw [f1]
          intro t
          have := nI_inj (by omega) (by omega) t
          omega
        have hrd : ∀ w, rdO s c (nI k) w = mtr s p w := fun w => by unfold rdO; rw [hpl]
        obtain ⟨e, he, r1, -, lft, tks, l1, l2, l3, l4, l5, -⟩ := hc.2.2.2.2.2.2.2.2.2.2 _ (LM_mem.mpr ⟨p, z1, rfl⟩)
        have r1 : s (oR p 1) = nI e := r1
        have l4 : s (oR p 3) = nI lft := l4
        have l5 : s (oR p 2) = nI tks := l5
        obtain ⟨ak, ak1, ak2⟩ := q3 _ (LM_mem.mpr ⟨p, z1, rfl⟩)
        have ak2 : s (oR p 4) = nI ak := ak2
        rw [hrd, show mtr s p 0 = s (oR p 1) from rfl, r1]
        refine RunsK.go 3 rfl trivial ?_
        refine RunsK.ifF (nI_n0 (by omega)) ?_
        refine RunsK.go 3 rfl trivial ?_
        refine RunsK.cal rfl (c_readT (n + 2) (nI k) 2 _ (hub _)) ?_
        rw [hrd, show mtr s p 2 = s (oR p 3) from rfl, l4]
        refine RunsK.go 4 rfl trivial ?_
        refine RunsK.ifF (by decide) ?_
        refine RunsK.go 3 rfl trivial ?_
        refine RunsK.ifF (nI_nlt (show 1 ≤ lft by omega) (by omega)) ?_
        refine RunsK.go 4 rfl trivial ?_
        refine RunsK.cal rfl (c_readT (n + 2) (nI k) 1 _ (hub _)) ?_
        rw [hrd, show mtr s p 1 = s (oR p 2) from rfl, l5]
        refine RunsK.go 1 rfl trivial ?_
        refine RunsK.ifF (nI_nlt l2 (by omega)) ?_
        refine RunsK.go 3 rfl trivial ?_
        refine RunsK.cal rfl (c_readT (n + 2) (nI k) 3 _ (hub _)) ?_
        rw [hrd, show mtr s p 3 = mahd s (s (oR p 1)) p from rfl, r1]
        refine RunsK.go 4 rfl ⟨trivial, (i_in he (by decide))⟩ ?_
        rw [i_cl (show e < 2 ^ 31 by omega), ub_s, hG e he]
        refine RunsK.ifT rfl ?_
        refine RunsK.go 3 rfl trivial ?_
        refine RunsK.cal rfl (c_readT (n + 2) (nI k) 4 _ (hub _)) ?_
        rw [hrd, show mtr s p 4 = s 10 - s (oR p 4) from rfl, ak2, hT10, pk_sub ak1]
        refine RunsK.go 1 rfl trivial ?_
        refine RunsK.ifF (nI_n0 (by omega)) ?_
        refine RunsK.go 3 rfl trivial ?_
        refine RunsK.cal rfl (c_readT (n + 2) (nI k) 4 _ (hub _)) ?_
        rw [hrd, show mtr s p 4 = s 10 - s (oR p 4) from rfl, ak2, hT10, pk_sub ak1]
        refine RunsK.go 2 rfl trivial ?_
        refine RunsK.cal rfl (c_countP (n + 1) 0 _ (hub _) (by decide) (by decide)) ?_
        rw [show mco (ub h (36, 0, 0) G) s c 0 = s 10 from rfl, hT10]
        refine RunsK.go 1 rfl trivial ?_
        refine RunsK.ifF (nI_nlt (Nat.sub_le _ _) (by omega)) ?_
        refine RunsK.go 12 rfl ⟨⟨trivial, (i_in he (by decide))⟩, (i_in he (by decide))⟩ ?_
        rw [i_cl (show e < 2 ^ 31 by omega), ub_s, ub_up, nI_1, nI_1]
        refine ih (k + 1) (by omega) (by omega) (p + 1) _ _ _ (by omega) (fun j hj => ?_) (fun j hj hj2 => ?_) (fun d hd => ?_)
        · rcases Nat.lt_succ_iff_lt_or_eq.mp hj with u | u
          · have := hlo j u; omega
          · rw [u, z2]; omega
        · have := n2 p j (by omega) hj2
          omega
        · show upd G e (G e + 1) d = mahd s (nI d) p + (if s (oR p 1) = nI d then 1 else 0)
          by_cases u : d = e
          · subst u
            rw [upd_s, if_pos r1, hG d hd]
          · rw [upd_n _ _ u, if_neg (fun t => u (nI_inj (by omega) (by omega) (r1.symm.trans t)).symm), hG d hd, Int32.add_zero]
      · have hpl : mplc s c (nI k) = none := by
          refine fp_nof (fun j hj => ?_)
          obtain ⟨f1, f2⟩ := n1 j hj
          simp
          rw [f1]
          intro t
          have t := nI_inj (by omega) (by omega) t
          rcases Nat.lt_trichotomy j p with u | u | u
          · have := hlo j u; omega
          · exact z ⟨by omega, by rw [← u]; exact t⟩
          · have h1 := hhi p (Nat.le_refl _) (by omega)
            have h2 := n2 p j u hj
            omega
        rw [show rdO s c (nI k) 0 = -1 from by unfold rdO; rw [hpl]]
        refine RunsK.go 3 rfl trivial ?_
        refine RunsK.ifT (by decide) ?_
        refine RunsK.go 2 rfl trivial ?_
        rw [nI_1]
        refine ih (k + 1) (by omega) (by omega) p G _ _ hp (fun j hj => by have := hlo j hj; omega) (fun j hj hj2 => ?_) hG
        have h1 := hhi j hj hj2
        rcases Nat.lt_or_ge k (num s j) with u | u
        · omega
        · exfalso
          have ej : num s j = k := by omega
          by_cases v : j = p
          · exact z ⟨by omega, by rw [← v]; exact ej⟩
          · have h2 := n2 p j (by omega) hj2
            have h3 := hhi p (Nat.le_refl _) (by omega)
            omega
  have key : RunsK dT_reads (dEx (n + 6)) (dEnQ dT_reads Q) (7, [some (.inr (6, 0, 0)), some (.inl 0), some (.inr (36, 0, 0)), none, none, none, none], [], ub h (36, 0, 0) g0) := by
    refine RunsK.go 3 rfl trivial ?_
    refine RunsK.cal rfl (c_countP (n + 1) 4 _ (hub _) (by decide) (by decide)) ?_
    rw [show mco (ub h (36, 0, 0) g0) s c 4 = s 12 from rfl, w12]
    refine RunsK.go 1 rfl trivial ?_
    refine RunsK.cal rfl (c_readT (n + 2) (nI A) 0 _ (hub _)) ?_
    have hpl : mplc s c (nI A) = none := by
      refine fp_nof (fun j hj => ?_)
      obtain ⟨f1, f2⟩ := n1 j hj
      simp
      rw [f1]
      intro t
      have t := nI_inj (by omega) (by omega) t
      omega
    rw [show rdO s c (nI A) 0 = -1 from by unfold rdO; rw [hpl]]
    refine RunsK.go 2 rfl trivial ?_
    refine RunsK.ifT rfl ?_
    refine RunsK.go 5 rfl trivial ?_
    exact loop A 0 rfl (Nat.zero_le _) 0 g0 none none (Nat.zero_le _) (fun j hj => by omega) (fun j _ _ => Nat.zero_le _) (fun d hd => h0 d hd)
  obtain ⟨r, ⟨G, rfl⟩, hr⟩ := key.ex
  exact ⟨G, hr⟩
end
section
/-! answeredIn, in rows -/
theorem PR.trial {h g : DH} {s : Nat → Int32} {l : List (Nat → Int32)} (hs : PR h s l) (F : Fr 1 h g) (w : WF g 1) : PR g s l := ⟨hs.1.fr (F.e5 (by decide)), w, hs.2.2.cg (F.eo (by simp)).1 (F.eo (by simp)).2 (fun j hj => F.e5 (by omega))⟩
theorem Q2.uniq {A : Int32} {L : List R5} (h : Q2 A L) {r r' : R5} (hr : r ∈ L) (hr' : r' ∈ L) (e : r.1 = r'.1) : r = r' := by
  obtain ⟨i, hi, rfl⟩ := List.getElem_of_mem hr
  obtain ⟨j, hj, rfl⟩ := List.getElem_of_mem hr'
  have hp := List.pairwise_iff_getElem.mp h.1
  rcases Nat.lt_trichotomy i j with u | u | u
  · have := hp i j hi hj u
    rw [e] at this
    exact absurd this (Int32.not_lt.mpr (Int32.le_refl _))
  · subst u; rfl
  · have := hp j i hj hi u
    rw [e] at this
    exact absurd this (Int32.not_lt.mpr (Int32.le_refl _))
theorem pr_n0 {T : Nat} {s : Nat → Int32} {x : Int32} (hq : QI T s) (h : pr s x) : ¬ x < 0 := by
  obtain ⟨r, hr, rfl⟩ := h
  exact (hq.2.2.2.1.2 r hr).1
/-- the same read, later -/
theorem rk_same {h : DH} {i c : Nat} {s : Nat → Int32} (f : Nat → Int32) (hs : SR h i c s) {T : Nat} (hq : QI T s) {k : Nat} (hk : T + k ≤ 110000) {r r' : R5} (hr : r ∈ LM s (cc s)) (hr' : r' ∈ LM (rk s f k).1 (cc (rk s f k).1)) (e : r'.1 = r.1) : k3 r' = k3 r := by
  have := (rk_mono f hs hq k hk).1.subset (List.mem_map_of_mem hr')
  obtain ⟨r0, h0, e0⟩ := List.mem_map.mp this
  have e1 : r0.1 = r'.1 := congrArg (fun q => q.1) e0
  have := hq.2.2.2.1.uniq h0 hr (e1.trans e)
  rw [← e0, this]
theorem rk_van {h : DH} {i c : Nat} {s : Nat → Int32} (f : Nat → Int32) (hs : SR h i c s) {T N d : Nat} (hq : QI T s) (hT : T + (N + 1) ≤ 110000) {r : R5} (hr : r ∈ LM s (cc s)) (hd : dk5 r = nI d) (hd12 : d < 12) (hgo : pr (rk s f N).1 r.1) (hno : ¬ pr (rk s f (N + 1)).1 r.1) (h3 : ¬ (rk s f (N + 1)).1 (oD d 0) = 3) : ans (rk s f N).1 + 1 ≤ ans (rk s f (N + 1)).1 ∧ wtd s + (T + (N + 1)) ≤ wtd (rk s f (N + 1)).1 + ask r := by
  obtain ⟨r', hr', e⟩ := hgo
  have ek := rk_same f hs hq (k := N) (by omega) hr hr' e
  have ed : dk5 r' = dk5 r := congrArg (fun q => q.2.1) ek
  have ea : ask r' = ask r := congrArg (fun q => q.2.2.toNatClampNeg) ek
  obtain ⟨-, -, -, t4, -⟩ := rk_TP f hs hq (k := N) (by omega)
  have m3 := (rk_mono f hs hq N (by omega)).2.2
  rcases t4 r' hr' with u | ⟨e', e1, e2, e3⟩ | ⟨u1, u2⟩
  · obtain ⟨r2, g1, g2⟩ := List.mem_map.mp u
    exact absurd ⟨r2, g1, (congrArg (fun q => q.1) g2).trans e⟩ hno
  · have : e' = d := nI_inj (by omega) (by omega) (e2.symm.trans (ed.trans hd))
    rw [this] at e3
    exact absurd e3 h3
  · rw [ea] at u2
    exact ⟨u1, by omega⟩
theorem c_ansP (n : Nat) (x : Int32) {h : DH} {s : Nat → Int32} {l : List (Nat → Int32)} (f : Nat → Int32) (hs : PR h s l) : (¬ pr s x → dEx (n + 5) 80 [.inr (6, 0, 0), .inl x] h (some (.inl (-1)), h)) ∧ (∀ (r : R5) (d : Nat), r ∈ LM s (cc s) → r.1 = x → dk5 r = nI d → d < 12 → ∃ (v : Int32) (g : DH), dEx (n + 5) 80 [.inr (6, 0, 0), .inl x] h (some (.inl v), g) ∧ PR g s l ∧ ((∃ N, N < 400 ∧ v = nI (N + 1) ∧ pr (rk s f N).1 x ∧ ¬ pr (rk s f (N + 1)).1 x ∧ ¬ (rk s f (N + 1)).1 (oD d 0) = 3) ∨ (v = -5 ∧ (pr (rk s f 400).1 x ∨ (rk s f 400).1 (oD d 0) = 3)))) := by
  obtain ⟨c, hc⟩ := hs.sr
  obtain ⟨T, hq, hT, -⟩ := hs.1.T
  have hk := hc.cp_ok
  constructor
  · intro hn
    exact c_ansIn0 n x h hk.1 hk.2.1 ((hc.plc x).trans ((mplc_none hc.cc).mpr hn))
  · intro r d hr hrx hrd hd12
    have hpr : pr s x := ⟨r, hr, hrx⟩
    cases hp' : mplc s c x with
    | none => exact absurd hpr ((mplc_none hc.cc).mp hp')
    | some p =>
      have eplc : cplc h 0 c x = some p := (hc.plc x).trans hp'
      obtain ⟨hpc, hpm, hpx⟩ := mplc_at hc.cc hp'
      have er : rmk s p = r := hq.2.2.2.1.uniq hpm hr (hpx.trans hrx.symm)
      have hT1 : SR (cfull h 1 0 c) 1 c s := hc.copy (by decide) hs.2.1
      have F0 := Fr_cfull h 1 0 c
      have hd' : (cfull h 1 0 c).1 (5, 0, (cfull h 1 0 c).2 (3, 0, 0) p) 1 = nI d := by
        rw [F0.o2 (show 0 ≠ 1 by decide), F0.o (show 0 ≠ 1 by decide)]
        exact (congrArg (fun r : R5 => r.2.1) (hc.rd hpc)).trans (by rw [er]; exact hrd)
      have pl : ∀ k, cplk (cfull h 1 0 c) k x = none ↔ ¬ pr (rk s f k).1 x := fun k => by rw [cplk_eq f hT1 k x]; exact mplc_none rfl
      have p0 : cplk (cfull h 1 0 c) 0 x ≠ none := fun t => (pl 0).mp t hpr
      obtain ⟨N, hN, hgo, hst⟩ := stopAt (fun j => (pk (cfull h 1 0 c) 1 j).1 (0, 1, 0) 10 = 0 ∧ cplk (cfull h 1 0 c) j x ≠ none) (fun j => Decidable.em _) 400
      have h1 := c_ansIn1 n x h hk eplc hd' hd12 hN (fun j _ => pass_ok f hT1 j) (fun j hj => (hgo j hj).1) (fun j hj => (hgo j hj).2) p0 (hst.imp id (fun t => by
        by_cases z : (pk (cfull h 1 0 c) 1 N).1 (0, 1, 0) 10 = 0
        · exact Or.inr (Decidable.byContradiction fun u => t ⟨z, u⟩)
        · exact Or.inl z))
      have F := Fr_pk F0 N
      have doing : (pk (cfull h 1 0 c) 1 N).1 (4, 1, d) 0 = (rk s f N).1 (oD d 0) := by
        obtain ⟨⟨c', q⟩, _⟩ := pass_SR f hT1 N
        exact q.1.2.2 d hd12 0 (by decide)
      rw [doing] at h1
      refine ⟨_, _, h1, hs.trial F (pk_wf hT1 N), ?_⟩
      by_cases z : cplk (cfull h 1 0 c) N x = none
      · have nz : ¬ pr (rk s f N).1 x := (pl N).mp z
        cases N with
        | zero => exact absurd z p0
        | succ N =>
          by_cases z3 : (rk s f (N + 1)).1 (oD d 0) = 3
          · rw [if_neg (fun t => t.2 z3)]
            refine Or.inr ⟨rfl, Or.inr ?_⟩
            have := rk_brk f hc hq hd12 z3 (400 - (N + 1)) (by omega)
            rw [show N + 1 + (400 - (N + 1)) = 400 by omega] at this
            exact this
          · rw [if_pos ⟨z, z3⟩]
            refine Or.inl ⟨N, by omega, rfl, ?_, nz, z3⟩
            exact Classical.byContradiction fun t => (hgo N (by omega)).2 ((pl N).mpr t)
      · rw [if_neg (fun t => z t.1)]
        refine Or.inr ⟨rfl, Or.inl ?_⟩
        have hy : pr (rk s f N).1 x := Classical.byContradiction fun t => z ((pl N).mpr t)
        rcases hst with u | u
        · rw [← u]; exact hy
        · have hb : ¬ (pk (cfull h 1 0 c) 1 N).1 (0, 1, 0) 10 = 0 := fun t => u ⟨t, z⟩
          rw [(rd_eq f hT1 N).2.1] at hb
          obtain ⟨⟨c', q⟩, _⟩ := pass_SR f hT1 N
          have hb1 := q.2.2.2.2.2.2.2.2.1.2.2.2.2.resolve_left hb
          obtain ⟨b1, b2⟩ := blown_on f hT1 hN hb1
          refine Classical.byContradiction fun t => ?_
          have ec : cc (rk s f 400).1 = cc (rk s f N).1 := cc_cg b1
          have t2 := (mplc_none (s := (rk s f 400).1) (x := x) rfl).mpr t
          rw [ec] at t2
          refine (mplc_none (s := (rk s f N).1) (x := x) rfl).mp ?_ hy
          rw [← t2]
          unfold mplc
          exact fp_congr (fun k _ => by rw [b2 k])
end
section
/-! isAnswerSo -/
theorem rdO_at {h : DH} {i c : Nat} {s : Nat → Int32} {T : Nat} (hc : SR h i c s) (hq : QI T s) {r : R5} (hr : r ∈ LM s (cc s)) : ∃ p, p < c ∧ mplc s c r.1 = some p ∧ rmk s p = r := by
  cases hp : mplc s c r.1 with
  | none => exact absurd ⟨r, hr, rfl⟩ ((mplc_none hc.cc).mp hp)
  | some p =>
    obtain ⟨h1, h2, h3⟩ := mplc_at hc.cc hp
    exact ⟨p, h1, rfl, hq.2.2.2.1.uniq h2 hr h3⟩
theorem rdO_none {h : DH} {i c : Nat} {s : Nat → Int32} (hc : SR h i c s) {x : Int32} (w : Int32) (hn : ¬ pr s x) : rdO s c x w = -1 := by
  unfold rdO
  rw [(mplc_none hc.cc).mpr hn]
theorem rdO_0 {h : DH} {i c : Nat} {s : Nat → Int32} {T : Nat} (hc : SR h i c s) (hq : QI T s) {r : R5} (hr : r ∈ LM s (cc s)) : rdO s c r.1 0 = dk5 r := by
  obtain ⟨p, h1, h2, h3⟩ := rdO_at hc hq hr
  unfold rdO
  rw [h2, ← h3]
  rfl
theorem rdO_4 {h : DH} {i c : Nat} {s : Nat → Int32} {T : Nat} (hc : SR h i c s) (hq : QI T s) {r : R5} (hr : r ∈ LM s (cc s)) : rdO s c r.1 4 = s 10 - r.2.2.2.2 := by
  obtain ⟨p, h1, h2, h3⟩ := rdO_at hc hq hr
  unfold rdO
  rw [h2, ← h3]
  rfl
theorem l_ansSo (n : Nat) (x : Int32) {h : DH} {s : Nat → Int32} {l : List (Nat → Int32)} (hs : PR h s l) (hx : x = -5 ∨ pr s x) : ∃ (h' : DH) (l' : List (Nat → Int32)), dEx (n + 7) 92 [.inr (6, 0, 0), .inl x] h (some (.inl 1), h') ∧ PR h' s l' := by
  let Q : DRes → Prop := fun r => ∃ (h' : DH) (l' : List (Nat → Int32)), r = (some (.inl 1), h') ∧ PR h' s l'
  obtain ⟨T, hq, hT, hT10⟩ := hs.1.T
  obtain ⟨f, hf⟩ : ∃ f : Nat → Int32, f = fun _ => 0 := ⟨_, rfl⟩
  have key : RunsK dT_92 (dEx (n + 6)) (dEnQ dT_92 Q) (0, [some (.inr (6, 0, 0)), some (.inl x), none, none, none, none, none, none, none, none, none], [], h) := by
    refine RunsK.go 2 rfl trivial ?_
    by_cases hp : pr s x
    · have x0 := pr_n0 hq hp
      obtain ⟨r, hr, hrx⟩ := id hp
      obtain ⟨c, hc⟩ := hs.sr
      obtain ⟨d, hd12, hrd⟩ : ∃ d, d < 12 ∧ dk5 r = nI d := by
        rw [hc.cc] at hr
        obtain ⟨e, he, hed, -⟩ := hc.2.2.2.2.2.2.2.2.2.2 r hr
        exact ⟨e, he, hed⟩
      obtain ⟨v, g, c1, hg, c3⟩ := (c_ansP (n + 1) x f hs).2 r d hr hrx hrd hd12
      obtain ⟨cg, hcg⟩ := hg.sr
      have ecg : cg = c := hcg.cc.symm.trans hc.cc
      subst ecg
      obtain ⟨ak, ak1, ak2⟩ := hq.2.2.2.2.1.nat hT10 (by omega) r hr
      have hask : ask r = ak := by unfold ask; rw [ak2, i_cl (by omega)]
      refine RunsK.cal rfl c1 ?_
      refine RunsK.go 3 rfl trivial ?_
      refine RunsK.ifF x0 ?_
      refine RunsK.go 2 rfl trivial ?_
      refine RunsK.cal rfl (c_countP (n + 1) 0 g hcg (by decide) (by decide)) ?_
      rw [show mco g s cg 0 = s 10 from rfl, hT10]
      refine RunsK.go 2 rfl trivial ?_
      by_cases z9 : nI T ≤ 99000
      · refine RunsK.ifT z9 ?_
        have hT9 : T ≤ 99000 := (nI_leI (by omega) (by decide)).mp z9
        refine RunsK.go 3 rfl trivial ?_
        refine RunsK.cal rfl (c_readT (n + 2) x 4 g hcg) ?_
        rw [← hrx, rdO_4 hcg hq hr, hT10, ak2, pk_sub ak1]
        refine RunsK.go 4 rfl trivial ?_
        refine RunsK.cal rfl (c_readT (n + 2) r.1 0 g hcg) ?_
        rw [rdO_0 hcg hq hr, hrd]
        refine RunsK.go 3 rfl trivial ?_
        refine RunsK.cal rfl (c_countP (n + 1) 5 g hcg (by decide) (by decide)) ?_
        rw [show mco g s cg 5 = s 13 from rfl, hq.a.1]
        refine RunsK.go 3 rfl trivial ?_
        refine RunsK.cal rfl (c_countP (n + 1) 16 g hcg (by decide) (by decide)) ?_
        rw [show mco g s cg 16 = s 20 from rfl, hq.w.1]
        refine RunsK.go 4 rfl trivial ?_
        rw [← hrx] at c3 hp x0
        have a5 := hq.a.2
        rcases c3 with ⟨N, hN, rfl, hpN, hnN, h3N⟩ | ⟨rfl, h400⟩
        · refine RunsK.ifF (nI_m5 (by omega)) ?_
          obtain ⟨van1, van2⟩ := rk_van f hc hq (show T + (N + 1) ≤ 110000 by omega) hr hrd hd12 hpN hnN h3N
          rw [hask] at van2
          have b1 : ∀ k, k ≤ 400 → ans (rk s f k).1 ≤ 500 := fun k hk => (rk_ans f hc hq (k := k) (by omega)).2
          have m2 : ∀ k, k ≤ 400 → ans s ≤ ans (rk s f k).1 := fun k hk => (rk_mono f hc hq k (by omega)).2.1
          have t10 : ∀ k, (rk s f k).1 10 = nI (T + k) := fun k => by rw [(pass_lo f hc k).2.1, hT10, nI_add]
          have tail : ∀ (A0 R : Nat) (la : List (Nat → Int32)) (ha : DH) (F0 : Nat), A0 + (R + 1) = N + 1 → R < 200 → F0 ≤ 500 → PR ha (rk s f A0).1 la → ((A0 = 0 ∧ N + 1 ≤ 200) ∨ (200 < N + 1 ∧ ∃ l0, la = s :: l0)) → RunsK dT_92 (dEx (n + 6)) (dEnQ dT_92 Q) (185, [some (.inr (6, 0, 0)), some (.inl r.1), some (.inl (nI (N + 1))), some (.inl (nI (T - ak))), some (.inl (nI d)), some (.inl (nI (ans s))), some (.inl (nI (wtd s))), some (.inl (nI F0)), some (.inl (nI (R + 1))), none, none], [], ha) := by
            intro A0 R la ha F0 hAR hR hF0 hPa hcase
            have e322 : ∀ (q : Nat) (h4 : DH) (l4 : List (Nat → Int32)), q ≤ 4 → PR h4 s l4 → RunsK dT_92 (dEx (n + 6)) (dEnQ dT_92 Q) (322, [some (.inr (6, 0, 0)), some (.inl r.1), some (.inl (nI (N + 1))), some (.inl (nI (T - ak))), some (.inl (nI d)), some (.inl (nI (ans s))), some (.inl (nI (wtd s))), some (.inl (nI F0)), some (.inl (nI (R + 1))), some (.inl 1), some (.inl (nI q))], [], h4) := by
              intro q h4 l4 hq4 hP4
              obtain ⟨c4, hc4⟩ := hP4.sr
              refine RunsK.go 2 rfl trivial ?_
              refine RunsK.ifF (nI_n0 (by omega)) ?_
              refine RunsK.go 2 rfl trivial ?_
              refine RunsK.ifF (nI_n0 (by omega)) ?_
              refine RunsK.go 2 rfl trivial ?_
              refine RunsK.cal rfl (c_countP (n + 1) 5 h4 hc4 (by decide) (by decide)) ?_
              rw [show mco h4 s c4 5 = s 13 from rfl, hq.a.1]
              refine RunsK.go 2 rfl trivial ?_
              refine RunsK.ifT rfl ?_
              refine RunsK.go 2 rfl trivial ?_
              exact RunsK.fin rfl (Or.inr rfl) ⟨h4, l4, rfl, hP4⟩
            -- behind the last undo but one: the state is the one at A0
            have e299 : ∀ (q : Nat) (h4 : DH) (l4 : List (Nat → Int32)), q ≤ 4 → PR h4 (rk s f A0).1 l4 → ((A0 = 0 ∧ N + 1 ≤ 200) ∨ (200 < N + 1 ∧ ∃ l0, l4 = s :: l0)) → RunsK dT_92 (dEx (n + 6)) (dEnQ dT_92 Q) (299, [some (.inr (6, 0, 0)), some (.inl r.1), some (.inl (nI (N + 1))), some (.inl (nI (T - ak))), some (.inl (nI d)), some (.inl (nI (ans s))), some (.inl (nI (wtd s))), some (.inl (nI F0)), some (.inl (nI (R + 1))), some (.inl 1), some (.inl (nI q))], [], h4) := by
              intro q h4 l4 hq4 hP4 hc4
              refine RunsK.go 3 rfl trivial ?_
              rcases hc4 with ⟨rfl, hle⟩ | ⟨hgt, l0, rfl⟩
              · refine RunsK.ifT (nI_le hle (by decide)) ?_
                refine RunsK.go 4 rfl trivial ?_
                refine RunsK.ifF (by decide) ?_
                exact e322 q h4 l4 hq4 hP4
              · refine RunsK.ifF (nI_ge hgt (by omega)) ?_
                refine RunsK.go 1 rfl trivial ?_
                obtain ⟨h5, u1, u2⟩ := c_undoP (n + 2) hP4
                refine RunsK.cal rfl u1 ?_
                refine RunsK.go 4 rfl trivial ?_
                refine RunsK.ifF (by decide) ?_
                have := hP4.2.2.1
                rw [List.length_cons] at this
                exact e322 _ h5 l0 (by omega) u2
            have e202 : ∀ (lb : List (Nat → Int32)) (hb : DH), PR hb (rk s f N).1 lb → ((R = 0 ∧ lb = la) ∨ (0 < R ∧ lb = ((rk s f A0).1 :: la).take 4)) → RunsK dT_92 (dEx (n + 6)) (dEnQ dT_92 Q) (202, [some (.inr (6, 0, 0)), some (.inl r.1), some (.inl (nI (N + 1))), some (.inl (nI (T - ak))), some (.inl (nI d)), some (.inl (nI (ans s))), some (.inl (nI (wtd s))), some (.inl (nI F0)), some (.inl (nI (R + 1))), none, none], [], hb) := by
              intro lb hb hPb hlb
              obtain ⟨cb, hcb⟩ := hPb.sr
              obtain ⟨r', hr', hrx'⟩ := hpN
              have ek := rk_same f hc hq (k := N) (by omega) hr hr' hrx'
              have ed : dk5 r' = nI d := (congrArg (fun q => q.2.1) ek).trans hrd
              have hqN := rk_Q f hc hq N (by omega)
              have hqN1 := rk_Q f hc hq (N + 1) (by omega)
              refine RunsK.go 5 rfl trivial ?_
              refine RunsK.ifF (by decide) ?_
              refine RunsK.go 3 rfl trivial ?_
              refine RunsK.cal rfl (c_readT (n + 2) r.1 0 hb hcb) ?_
              rw [show rdO (rk s f N).1 cb r.1 0 = nI d from by rw [← hrx', rdO_0 hcb hqN hr', ed]]
              refine RunsK.go 2 rfl trivial ?_
              refine RunsK.ifT rfl ?_
              refine RunsK.go 2 rfl trivial ?_
              obtain ⟨hd', v1, v2⟩ := c_runQ n hPb (rk s f N).2 (t := 1) (by decide) (by decide) (by rw [t10 N, nI_add]; exact nI_le (show T + N + 1 ≤ 99999 by omega) (by decide))
              rw [show (rk (rk s f N).1 (rk s f N).2 1).1 = (rk s f (N + 1)).1 from by rw [rk_add]] at v1 v2
              refine RunsK.cal rfl v1 ?_
              obtain ⟨cd, hcd⟩ := v2.sr
              have b1N := b1 (N + 1) (by omega)
              refine RunsK.go 2 rfl trivial ?_
              refine RunsK.ifF (nI_nlt (show 1 ≤ ans (rk s f (N + 1)).1 - ans (rk s f N).1 by omega) (by omega)) ?_
              refine RunsK.go 3 rfl trivial ?_
              refine RunsK.cal rfl (c_readT (n + 2) r.1 0 hd' hcd) ?_
              rw [rdO_none hcd 0 hnN]
              refine RunsK.go 2 rfl trivial ?_
              refine RunsK.ifT rfl ?_
              refine RunsK.go 2 rfl trivial ?_
              refine RunsK.cal rfl (c_countP (n + 1) 5 hd' hcd (by decide) (by decide)) ?_
              rw [show mco hd' (rk s f (N + 1)).1 cd 5 = (rk s f (N + 1)).1 13 from rfl, hqN1.a.1]
              refine RunsK.go 2 rfl trivial ?_
              refine RunsK.ifF (nI_ge (show ans s < ans (rk s f (N + 1)).1 by have := m2 N (by omega); omega) (by omega)) ?_
              refine RunsK.go 2 rfl trivial ?_
              refine RunsK.cal rfl (c_countP (n + 1) 16 hd' hcd (by decide) (by decide)) ?_
              rw [show mco hd' (rk s f (N + 1)).1 cd 16 = (rk s f (N + 1)).1 20 from rfl, hqN1.w.1]
              refine RunsK.go 6 rfl trivial ?_
              have w1 := hqN1.w.2
              rw [pk_sub (show wtd s ≤ wtd (rk s f (N + 1)).1 by omega), nI_add]
              refine RunsK.ifF (nI_nlt (show T - ak + (N + 1) ≤ wtd (rk s f (N + 1)).1 - wtd s by omega) (by omega)) ?_
              refine RunsK.go 4 rfl trivial ?_
              obtain ⟨h5, u1, u2⟩ := c_undoP (n + 2) (show PR hd' (rk s f (N + 1)).1 ((rk s f N).1 :: lb.take 3) from v2)
              refine RunsK.cal rfl u1 ?_
              have hl3 : (lb.take 3).length ≤ 3 := List.length_take_le _ _
              refine RunsK.go 4 rfl trivial ?_
              rcases hlb with ⟨rfl, rfl⟩ | ⟨hR0, rfl⟩
              · refine RunsK.ifT (by decide) ?_
                refine RunsK.go 2 rfl trivial ?_
                have eN : N = A0 := by omega
                rw [eN] at u2
                exact e299 _ h5 _ (by omega) u2 (hcase.imp id (fun ⟨q, l0, q2⟩ => ⟨q, l0.take 2, by rw [q2]; rfl⟩))
              · refine RunsK.ifF (nI_ge (show 1 < R + 1 by omega) (by omega)) ?_
                refine RunsK.go 1 rfl trivial ?_
                obtain ⟨h6, y1, y2⟩ := c_undoP (n + 2) (show PR h5 (rk s f N).1 ((rk s f A0).1 :: (la.take 3).take 2) from u2)
                refine RunsK.cal rfl y1 ?_
                have hl2 : ((la.take 3).take 2).length ≤ 2 := List.length_take_le _ _
                refine RunsK.go 2 rfl trivial ?_
                exact e299 _ h6 _ (by omega) y2 (hcase.imp id (fun ⟨q, l0, q2⟩ => ⟨q, (l0.take 2).take 1, by rw [q2]; rfl⟩))
            refine RunsK.go 3 rfl trivial ?_
            by_cases zR : R = 0
            · subst zR
              refine RunsK.ifT rfl ?_
              have eN : A0 = N := by omega
              rw [eN] at hPa
              exact e202 la ha hPa (Or.inl ⟨rfl, rfl⟩)
            · refine RunsK.ifF (fun t => zR (by
                have := nI_inj (b := 1) (by omega) (by decide) t
                omega)) ?_
              refine RunsK.go 4 rfl trivial ?_
              rw [nI_pred]
              obtain ⟨hb, v1, v2⟩ := c_runQ n hPa (rk s f A0).2 (t := R) (by omega) (by omega) (by rw [t10 A0, nI_add]; exact nI_le (show T + A0 + R ≤ 99999 by omega) (by decide))
              rw [show (rk (rk s f A0).1 (rk s f A0).2 R).1 = (rk s f N).1 from by rw [← rk_add, show A0 + R = N by omega]] at v1 v2
              refine RunsK.cal rfl v1 ?_
              have := b1 N (by omega)
              refine RunsK.go 1 rfl trivial ?_
              refine RunsK.ifF (nI_n0 (by omega)) ?_
              exact e202 _ hb v2 (Or.inr ⟨by omega, rfl⟩)
          refine RunsK.go 3 rfl trivial ?_
          by_cases z2 : N + 1 ≤ 200
          · refine RunsK.ifT (nI_le z2 (by decide)) ?_
            refine RunsK.go 5 rfl trivial ?_
            refine RunsK.ifT (nI_le z2 (by decide)) ?_
            refine RunsK.go 2 rfl trivial ?_
            exact tail 0 N l g 0 (by omega) (by omega) (by omega) hg (Or.inl ⟨rfl, z2⟩)
          · refine RunsK.ifF (nI_ge (show 200 < N + 1 by omega) (by omega)) ?_
            refine RunsK.go 2 rfl trivial ?_
            obtain ⟨hb, v1, v2⟩ := c_runQ n hg f (t := 200) (by decide) (by decide) (by rw [hT10, nI_add]; exact nI_le (show T + 200 ≤ 99999 by omega) (by decide))
            refine RunsK.cal rfl v1 ?_
            have := b1 200 (by omega)
            refine RunsK.go 5 rfl trivial ?_
            refine RunsK.ifF (nI_ge (show 200 < N + 1 by omega) (by omega)) ?_
            refine RunsK.go 5 rfl trivial ?_
            rw [show nI (N + 1) - 200 = nI (N - 200 + 1) from by
              rw [show (200 : Int32) = nI 200 from rfl, pk_sub (by omega)]
              exact congrArg nI (by omega)]
            exact tail 200 (N - 200) _ hb _ (by omega) (by omega) (by omega) v2 (Or.inr ⟨by omega, l.take 3, rfl⟩)
        · refine RunsK.ifT rfl ?_
          have b1 : ∀ k, k ≤ 400 → ans (rk s f k).1 ≤ 500 := fun k hk => (rk_ans f hc hq (k := k) (by omega)).2
          have t10 : ∀ k, (rk s f k).1 10 = nI (T + k) := fun k => by rw [(pass_lo f hc k).2.1, hT10, nI_add]
          refine RunsK.go 2 rfl trivial ?_
          obtain ⟨hb, v1, v2⟩ := c_runQ n hg f (t := 200) (by decide) (by decide) (by rw [hT10, nI_add]; exact nI_le (show T + 200 ≤ 99999 by omega) (by decide))
          refine RunsK.cal rfl v1 ?_
          refine RunsK.go 2 rfl trivial ?_
          obtain ⟨hd', w1, w2⟩ := c_runQ n v2 (rk s f 200).2 (t := 200) (by decide) (by decide) (by rw [t10 200, nI_add]; exact nI_le (show T + 200 + 200 ≤ 99999 by omega) (by decide))
          rw [show (rk (rk s f 200).1 (rk s f 200).2 200).1 = (rk s f 400).1 from by rw [← rk_add]] at w1 w2
          refine RunsK.cal rfl w1 ?_
          obtain ⟨cd, hcd⟩ := w2.sr
          have q400 := rk_Q f hc hq 400 (by omega)
          have p1 := b1 200 (by omega)
          have p2 := b1 400 (by omega)
          refine RunsK.go 5 rfl trivial ?_
          refine RunsK.cal rfl (c_readT (n + 2) r.1 0 hd' hcd) ?_
          refine RunsK.go 1 rfl trivial ?_
          have e108 : RunsK dT_92 (dEx (n + 6)) (dEnQ dT_92 Q) (108, [some (.inr (6, 0, 0)), some (.inl r.1), some (.inl (-5)), some (.inl (nI (T - ak))), some (.inl (nI d)), some (.inl (nI (ans s))), some (.inl (nI (wtd s))), some (.inl (nI (ans (rk s f 200).1 - ans s) + nI (ans (rk s f 400).1 - ans (rk s f 200).1))), none, none, none], [], hd') := by
            refine RunsK.go 4 rfl trivial ?_
            obtain ⟨h5, u1, u2⟩ := c_undoP (n + 2) (show PR hd' (rk s f 400).1 ((rk s f 200).1 :: (s :: l.take 3).take 3) from w2)
            refine RunsK.cal rfl u1 ?_
            refine RunsK.go 1 rfl trivial ?_
            obtain ⟨h6, y1, y2⟩ := c_undoP (n + 2) (show PR h5 (rk s f 200).1 (s :: (l.take 3).take 2) from u2)
            refine RunsK.cal rfl y1 ?_
            have hl2 : ((l.take 3).take 2).length ≤ 2 := List.length_take_le _ _
            have hl3 : ((s :: l.take 3).take 3).length ≤ 3 := List.length_take_le _ _
            refine RunsK.go 4 rfl trivial ?_
            refine RunsK.ifF (by decide) ?_
            rw [nI_add, nI_add]
            refine RunsK.go 2 rfl trivial ?_
            refine RunsK.ifF (nI_n0 (by omega)) ?_
            refine RunsK.go 2 rfl trivial ?_
            refine RunsK.ifF (nI_n0 (by omega)) ?_
            refine RunsK.go 2 rfl trivial ?_
            exact RunsK.fin rfl (Or.inr rfl) ⟨h6, _, rfl, y2⟩
          by_cases zp : pr (rk s f 400).1 r.1
          · obtain ⟨r', hr', hrx'⟩ := zp
            have ek := rk_same f hc hq (k := 400) (by omega) hr hr' hrx'
            have ed : dk5 r' = nI d := (congrArg (fun q => q.2.1) ek).trans hrd
            rw [show rdO (rk s f 400).1 cd r.1 0 = nI d from by rw [← hrx', rdO_0 hcd q400 hr', ed]]
            refine RunsK.ifT (nI_pos' (by omega)) ?_
            exact e108
          · rw [rdO_none hcd 0 zp]
            refine RunsK.ifF (by decide) ?_
            refine RunsK.go 3 rfl trivial ?_
            refine RunsK.cal rfl (c_diskT (n + 2) 0 hd' hcd hd12) ?_
            rw [show mtd (rk s f 400).1 cd d 0 = (rk s f 400).1 (oD d 0) from rfl, h400.resolve_left zp]
            refine RunsK.go 2 rfl trivial ?_
            refine RunsK.ifT rfl ?_
            exact e108
      · refine RunsK.ifF z9 ?_
        refine RunsK.go 2 rfl trivial ?_
        refine RunsK.ifT (Int32.not_lt.mp x0) ?_
        refine RunsK.go 2 rfl trivial ?_
        exact RunsK.fin rfl (Or.inr rfl) ⟨g, l, rfl, hg⟩
    · have x5 := hx.resolve_right hp
      refine RunsK.cal rfl ((c_ansP (n + 1) x f hs).1 hp) ?_
      refine RunsK.go 3 rfl trivial ?_
      rw [x5]
      refine RunsK.ifT (by decide) ?_
      refine RunsK.go 2 rfl trivial ?_
      refine RunsK.ifF (by decide) ?_
      refine RunsK.go 3 rfl trivial ?_
      refine RunsK.ifT rfl ?_
      refine RunsK.go 2 rfl trivial ?_
      exact RunsK.fin rfl (Or.inr rfl) ⟨h, l, rfl, hs⟩
  obtain ⟨r, ⟨h', l', rfl, hP⟩, hrun⟩ := key.ex
  exact ⟨h', l', dx_92 hrun, hP⟩
end
section
/-! ifAtOnce, bestAtOnce in rows; isAtOnceSo -/
theorem c_ifP0 (n : Nat) {h : DH} {s : Nat → Int32} {l : List (Nat → Int32)} (f : Nat → Int32) (hs : PR h s l) {m : Nat} (h1 : 1 ≤ m) (h2 : m ≤ 12) : ∃ g, dEx (n + 6) 81 [.inr (6, 0, 0), .inl (nI m), .inl 0] h (some (.inl (oI (-5) (tvv (upd s 8 (nI m)) f))), g) ∧ PR g s l := by
  obtain ⟨c, hc⟩ := hs.sr
  have hb := wip_12 h1 h2
  have hT := trl_SR hc hs.2.1 hb
  obtain ⟨N, hu⟩ := c_untilR n (nI m) h (f := f) hc.cp_ok hT (Nat.le_refl 400)
  have a1 := c_ifAt1 n (nI m) h hb hu
  rw [oI_tvL (fun t ht => (tvv_some ht).1)] at a1
  exact ⟨_, a1, hs.trial (Fr_pk (Fr_trl h c _) N) (pk_wf hT N)⟩
theorem c_ifP12 (n : Nat) {h : DH} {s : Nat → Int32} {l : List (Nat → Int32)} (f : Nat → Int32) (hs : PR h s l) {m : Nat} (h1 : 1 ≤ m) (h2 : m ≤ 12) : (∃ g, dEx (n + 6) 81 [.inr (6, 0, 0), .inl (nI m), .inl 1] h (some (.inl (ho (upd s 8 (nI m)) f 100)), g) ∧ PR g s l) ∧ (∃ g, dEx (n + 6) 81 [.inr (6, 0, 0), .inl (nI m), .inl 2] h (some (.inl ((rk (upd s 8 (nI m)) f 100).1 15)), g) ∧ PR g s l) := by
  obtain ⟨c, hc⟩ := hs.sr
  have hb := wip_12 h1 h2
  have hT := trl_SR hc hs.2.1 hb
  have hT0 : SR (trl0 h c (nI m)) 1 c (upd (upd s 8 (nI m)) 11 0) := hT.sc (show 4 ≤ 9 by decide) (by decide) 0 (fun t => absurd t (by decide))
  have F := Fr_pk (Fr_trl0 h c (nI m)) 100
  have e9 := pk_ho f hT0 100
  have e10 := (rd_eq f hT0 100).2.1
  have E : E11 (upd s 8 (nI m)) (upd (upd s 8 (nI m)) 11 0) := fun j hj => upd_n _ _ hj
  have E1 := (E.xrk f 100).1
  rw [E1 15 (by decide)] at e10
  have y5 : (rk (upd s 8 (nI m)) f 100).1 15 = 0 ∨ (rk (upd s 8 (nI m)) f 100).1 15 = 1 := by
    obtain ⟨⟨c2, q⟩, _⟩ := pass_SR f hT 100
    exact q.2.2.2.2.2.2.2.2.1.2.2.2.2
  constructor
  · have a1 := c_ifAt2 n (nI m) 1 h hc.cp_ok hb (by unfold wip; decide) (by decide) (fun j _ => pass_ok f hT0 j)
    rw [if_pos rfl, e9] at a1
    exact ⟨_, a1, hs.trial F (pk_wf hT0 100)⟩
  · have a1 := c_ifAt2 n (nI m) 2 h hc.cp_ok hb (by unfold wip; decide) (by decide) (fun j _ => pass_ok f hT0 j)
    rw [if_neg (by decide), e10] at a1
    have e : (if (rk (upd s 8 (nI m)) f 100).1 15 = 0 then (0 : Int32) else 1) = (rk (upd s 8 (nI m)) f 100).1 15 := by
      rcases y5 with q | q <;> rw [q] <;> rfl
    rw [e] at a1
    exact ⟨_, a1, hs.trial F (pk_wf hT0 100)⟩
theorem c_bestP (n : Nat) {h : DH} {s : Nat → Int32} {l : List (Nat → Int32)} (f : Nat → Int32) (hs : PR h s l) : ∃ g, dEx (n + 6) 84 [.inr (6, 0, 0)] h (some (.inl (bI (bst (fun m => tvv (upd s 8 (nI m)) f) 12))), g) ∧ PR g s l := by
  obtain ⟨c, hc⟩ := hs.sr
  obtain ⟨g, a1, a2, a3⟩ := c_best n h (f := f) (tv := fun m => tvv (upd s 8 (nI m)) f) hc hs.2.1 (fun _ => rfl)
  exact ⟨g, a1, hs.trial a2 a3⟩
theorem bst_spec (tv : Nat → Option Nat) : ∀ k, (bst tv k = none → ∀ m, 1 ≤ m → m ≤ k → tv m = none) ∧ ∀ m t, bst tv k = some (m, t) → 1 ≤ m ∧ m ≤ k ∧ tv m = some t ∧ (∀ m' t', 1 ≤ m' → m' ≤ k → tv m' = some t' → t ≤ t') ∧ ∀ m' t', 1 ≤ m' → m' < m → tv m' = some t' → t < t' := by
  intro k
  induction k with
  | zero => exact ⟨fun _ m h1 h2 => by omega, fun m t h => by cases h⟩
  | succ k ih =>
    obtain ⟨i1, i2⟩ := ih
    cases hk : tv (k + 1) with
    | none =>
      rw [bst_n hk]
      refine ⟨fun h m h1 h2 => ?_, fun m t h => ?_⟩
      · by_cases z : m = k + 1
        · rw [z]; exact hk
        · exact i1 h m h1 (by omega)
      · obtain ⟨a1, a2, a3, a4, a5⟩ := i2 m t h
        refine ⟨a1, by omega, a3, fun m' t' g1 g2 g3 => ?_, a5⟩
        by_cases z : m' = k + 1
        · rw [z, hk] at g3; cases g3
        · exact a4 m' t' g1 (by omega) g3
    | some t1 =>
      rw [bst_s hk]
      cases hb : bst tv k with
      | none =>
        dsimp only
        refine ⟨fun h => (by cases h), fun m t h => ?_⟩
        cases h
        refine ⟨by omega, Nat.le_refl _, hk, fun m' t' g1 g2 g3 => ?_, fun m' t' g1 g2 g3 => ?_⟩
        · by_cases z : m' = k + 1
          · rw [z, hk] at g3; cases g3; exact Nat.le_refl _
          · rw [i1 hb m' g1 (by omega)] at g3; cases g3
        · rw [i1 hb m' g1 (by omega)] at g3; cases g3
      | some q =>
        obtain ⟨m0, t0⟩ := q
        obtain ⟨a1, a2, a3, a4, a5⟩ := i2 m0 t0 hb
        dsimp only
        by_cases z : t1 < t0
        · rw [if_pos z]
          refine ⟨fun h => (by cases h), fun m t h => ?_⟩
          cases h
          refine ⟨by omega, Nat.le_refl _, hk, fun m' t' g1 g2 g3 => ?_, fun m' t' g1 g2 g3 => ?_⟩
          · by_cases zz : m' = k + 1
            · rw [zz, hk] at g3; cases g3; exact Nat.le_refl _
            · have := a4 m' t' g1 (by omega) g3; omega
          · have := a4 m' t' g1 (by omega) g3; omega
        · rw [if_neg z]
          refine ⟨fun h => (by cases h), fun m t h => ?_⟩
          cases h
          refine ⟨a1, by omega, a3, fun m' t' g1 g2 g3 => ?_, a5⟩
          by_cases zz : m' = k + 1
          · rw [zz, hk] at g3; cases g3; omega
          · exact a4 m' t' g1 (by omega) g3
theorem mx_as (a b c : Int32) : mx (mx a b) c = mx a (if c ≤ b then b else c) := by
  unfold mx
  by_cases h1 : a < b
  · rw [if_pos h1]
    by_cases h2 : b < c
    · rw [if_pos h2, if_neg (Int32.not_le.mpr h2), if_pos (Int32.lt_trans h1 h2)]
    · rw [if_neg h2, if_pos (Int32.not_lt.mp h2), if_pos h1]
  · rw [if_neg h1]
    by_cases h2 : c ≤ b
    · rw [if_pos h2, if_neg h1, if_neg (Int32.not_lt.mpr (Int32.le_trans h2 (Int32.not_lt.mp h1)))]
    · rw [if_neg h2]
theorem rk_peak {h : DH} {i c : Nat} {s : Nat → Int32} (f : Nat → Int32) (hs : SR h i c s) (h0 : ¬ s 11 < 0) : ∀ k, (rk s f k).1 11 = mx (s 11) (ho s f k) := by
  intro k
  induction k with
  | zero =>
    show s 11 = mx (s 11) 0
    unfold mx
    rw [if_neg h0]
  | succ k ih =>
    obtain ⟨⟨c1, h1⟩, _⟩ := pass_SR f hs k
    obtain ⟨⟨c2, h2⟩, _⟩ := pass_SR f hs (k + 1)
    have e1 := h1.1.2.1 9 (by decide) (by decide)
    have e2 := h2.1.2.1 9 (by decide) (by decide)
    rw [show ms 9 = 11 from rfl] at e1 e2
    have e9 : (pk h i (k + 1)).1 (0, i, 0) 9 = mx ((pk h i k).1 (0, i, 0) 9) (sumN (ccur (pk h i (k + 1)) i) 12) := tick_9 _ _ _
    rw [e1, e2, sumcur h2, ih, mx_as] at e9
    rw [e9, show ho s f (k + 1) = (if mcurN (rk s f (k + 1)).1 (cc (rk s f (k + 1)).1) ≤ ho s f k then ho s f k else mcurN (rk s f (k + 1)).1 (cc (rk s f (k + 1)).1)) from rfl, h2.cc]
theorem l_onceSo (n : Nat) {m : Nat} (hm1 : 1 ≤ m) (hm2 : m ≤ 12) {h : DH} {s : Nat → Int32} {l : List (Nat → Int32)} (hs : PR h s l) : ∃ (h' : DH) (l' : List (Nat → Int32)), dEx (n + 7) 93 [.inr (6, 0, 0), .inl (nI m)] h (some (.inl 1), h') ∧ PR h' s l' := by
  let Q : DRes → Prop := fun r => ∃ (h' : DH) (l' : List (Nat → Int32)), r = (some (.inl 1), h') ∧ PR h' s l'
  obtain ⟨T, hq, hT, hT10⟩ := hs.1.T
  obtain ⟨f, hf⟩ : ∃ f : Nat → Int32, f = fun _ => 0 := ⟨_, rfl⟩
  have hqu := hq.set (w := 8) (by decide) (nI m)
  obtain ⟨su, hsu⟩ : ∃ su, su = upd s 8 (nI m) := ⟨_, rfl⟩
  have htv := bst_spec (fun m => tvv (upd s 8 (nI m)) f) 12
  have key : RunsK dT_93 (dEx (n + 6)) (dEnQ dT_93 Q) (0, [some (.inr (6, 0, 0)), some (.inl (nI m)), none, none, none, none, none, none, none, none, none], [], h) := by
    obtain ⟨h1, a1, P1⟩ := c_ifP0 n f hs hm1 hm2
    obtain ⟨h2, a2, P2⟩ := (c_ifP12 n f P1 hm1 hm2).1
    obtain ⟨h3, a3, P3⟩ := (c_ifP12 n f P2 hm1 hm2).2
    obtain ⟨h4, a4, P4⟩ := c_bestP n f P3
    refine RunsK.go 3 rfl trivial ?_
    refine RunsK.cal rfl a1 ?_
    refine RunsK.go 4 rfl trivial ?_
    refine RunsK.cal rfl a2 ?_
    refine RunsK.go 4 rfl trivial ?_
    refine RunsK.cal rfl a3 ?_
    refine RunsK.go 2 rfl trivial ?_
    refine RunsK.cal rfl a4 ?_
    refine RunsK.go 4 rfl trivial ?_
    rw [← hsu] at hqu ⊢
    have e120 : ∀ (b : Int32) (h5 : DH) (l5 : List (Nat → Int32)), PR h5 s l5 → RunsK dT_93 (dEx (n + 6)) (dEnQ dT_93 Q) (120, [some (.inr (6, 0, 0)), some (.inl (nI m)), some (.inl (oI (-5) (tvv su f))), some (.inl (ho su f 100)), some (.inl ((rk su f 100).1 15)), some (.inl b), none, none, none, none, none], [.inl 1], h5) := by
      intro b h5 l5 P5
      obtain ⟨c5, hc5⟩ := P5.sr
      refine RunsK.go 3 rfl trivial ?_
      refine RunsK.cal rfl (c_countP (n + 1) 0 h5 hc5 (by decide) (by decide)) ?_
      rw [show mco h5 s c5 0 = s 10 from rfl, hT10]
      refine RunsK.go 2 rfl trivial ?_
      by_cases z9 : nI T ≤ 99000
      · refine RunsK.ifT z9 ?_
        have hT9 : T ≤ 99000 := (nI_leI (by omega) (by decide)).mp z9
        refine RunsK.go 3 rfl trivial ?_
        obtain ⟨h6, b1, b2, b3, b4⟩ := c_setQ n P5 (w := 8) (by decide) (x := nI m) (wip_12 hm1 hm2)
        refine RunsK.cal rfl b1 ?_
        -- what the number is then, and the history
        obtain ⟨la, P6, hla⟩ : ∃ la, PR h6 su la ∧ ((s 8 = nI m ∧ su = s) ∨ (¬ s 8 = nI m ∧ ∃ l0, la = s :: l0 ∧ l0.length ≤ 3)) := by
          by_cases z : s 8 = nI m
          · have e : su = s := by
              rw [hsu]
              funext k
              unfold upd
              by_cases zk : k = 8
              · rw [if_pos zk, zk, z]
              · rw [if_neg zk]
            refine ⟨l5, ?_, Or.inl ⟨z, e⟩⟩
            rw [e]
            exact b2 z
          · refine ⟨_, ?_, Or.inr ⟨z, l5.take 3, rfl, List.length_take_le _ _⟩⟩
            rw [hsu]
            exact b3 z
        generalize hv7 : (if s 8 = nI m then (-5 : Int32) else s 8) = v7
        have t10 : ∀ k, (rk su f k).1 10 = nI (T + k) := fun k => by
          obtain ⟨c6, hc6⟩ := P6.sr
          rw [(pass_lo f hc6 k).2.1, hqu.1, nI_add]
        obtain ⟨c6, hc6⟩ := P6.sr
        have a500 : ∀ k, k ≤ 400 → ans (rk su f k).1 ≤ 500 := fun k hk => (rk_ans f hc6 hqu (k := k) (by omega)).2
        have e206 : ∀ (x8 : Option DV) (h7 : DH) (lz : List (Nat → Int32)), PR h7 su lz → ((s 8 = nI m ∧ su = s) ∨ (¬ s 8 = nI m ∧ ∃ l0, lz = s :: l0)) → RunsK dT_93 (dEx (n + 6)) (dEnQ dT_93 Q) (206, [some (.inr (6, 0, 0)), some (.inl (nI m)), some (.inl (oI (-5) (tvv su f))), some (.inl (ho su f 100)), some (.inl ((rk su f 100).1 15)), some (.inl b), some (.inl 1), some (.inl v7), x8, none, none], [], h7) := by
          intro x8 h7 lz P7 hlz
          obtain ⟨c7, hc7⟩ := P7.sr
          refine RunsK.go 2 rfl trivial ?_
          refine RunsK.cal rfl (c_countP (n + 1) 2 h7 hc7 (by decide) (by decide)) ?_
          rw [show mco h7 su c7 2 = su 11 from rfl]
          refine RunsK.go 3 rfl trivial ?_
          obtain ⟨h8, v1, v2⟩ := c_runQ n P7 f (t := 100) (by decide) (by decide) (by rw [hqu.1, nI_add]; exact nI_le (show T + 100 ≤ 99999 by omega) (by decide))
          refine RunsK.cal rfl v1 ?_
          obtain ⟨c8, hc8⟩ := v2.sr
          have p100 := a500 100 (by decide)
          have pk11 := rk_peak f hc7 hqu.2.2.2.2.2.2.2.2 100
          refine RunsK.go 3 rfl trivial ?_
          refine RunsK.ifF (by decide) ?_
          refine RunsK.go 2 rfl trivial ?_
          refine RunsK.cal rfl (c_countP (n + 1) 11 h8 hc8 (by decide) (by decide)) ?_
          rw [show mco h8 (rk su f 100).1 c8 11 = (rk su f 100).1 15 from rfl]
          refine RunsK.go 2 rfl trivial ?_
          refine RunsK.ifT rfl ?_
          refine RunsK.go 2 rfl trivial ?_
          refine RunsK.cal rfl (c_countP (n + 1) 2 h8 hc8 (by decide) (by decide)) ?_
          rw [show mco h8 (rk su f 100).1 c8 2 = (rk su f 100).1 11 from rfl, pk11]
          refine RunsK.go 2 rfl trivial ?_
          have e306 : ∀ (q : Nat) (h9 : DH) (l9 : List (Nat → Int32)), q ≤ 4 → PR h9 s l9 → RunsK dT_93 (dEx (n + 6)) (dEnQ dT_93 Q) (306, [some (.inr (6, 0, 0)), some (.inl (nI m)), some (.inl (oI (-5) (tvv su f))), some (.inl (ho su f 100)), some (.inl ((rk su f 100).1 15)), some (.inl b), some (.inl 1), some (.inl v7), some (.inl (su 11)), some (.inl (nI (ans (rk su f 100).1 - ans su))), some (.inl (nI q))], [], h9) := by
            intro q h9 l9 hq4 P9
            refine RunsK.go 2 rfl trivial ?_
            refine RunsK.ifF (nI_n0 (by omega)) ?_
            refine RunsK.go 2 rfl trivial ?_
            exact RunsK.fin rfl (Or.inr rfl) ⟨h9, l9, rfl, P9⟩
          have e270 : RunsK dT_93 (dEx (n + 6)) (dEnQ dT_93 Q) (270, [some (.inr (6, 0, 0)), some (.inl (nI m)), some (.inl (oI (-5) (tvv su f))), some (.inl (ho su f 100)), some (.inl ((rk su f 100).1 15)), some (.inl b), some (.inl 1), some (.inl v7), some (.inl (su 11)), some (.inl (nI (ans (rk su f 100).1 - ans su))), none], [], h8) := by
            refine RunsK.go 4 rfl trivial ?_
            obtain ⟨h9, u1, u2⟩ := c_undoP (n + 2) (show PR h8 (rk su f 100).1 (su :: lz.take 3) from v2)
            refine RunsK.cal rfl u1 ?_
            have hl3 : (lz.take 3).length ≤ 3 := List.length_take_le _ _
            refine RunsK.go 4 rfl trivial ?_
            rcases hlz with ⟨z, e⟩ | ⟨z, l0, rfl⟩
            · rw [if_pos z] at hv7
              refine RunsK.ifT hv7.symm ?_
              refine RunsK.go 5 rfl trivial ?_
              refine RunsK.ifF (by decide) ?_
              rw [e] at u2
              exact e306 _ h9 _ (by omega) u2
            · rw [if_neg z] at hv7
              refine RunsK.ifF (fun t => b4 (by rw [hv7, t]; decide)) ?_
              refine RunsK.go 1 rfl trivial ?_
              obtain ⟨h10, y1, y2⟩ := c_undoP (n + 2) (show PR h9 su (s :: l0.take 2) from u2)
              refine RunsK.cal rfl y1 ?_
              have hl2 : (l0.take 2).length ≤ 2 := List.length_take_le _ _
              refine RunsK.go 3 rfl trivial ?_
              refine RunsK.ifF (by decide) ?_
              exact e306 _ h10 _ (by omega) y2
          by_cases zs : mx (su 11) (ho su f 100) = su 11
          · refine RunsK.ifT zs ?_
            have nle : ¬ su 11 < ho su f 100 := fun t => by
              unfold mx at zs
              rw [if_pos t] at zs
              rw [zs] at t
              exact absurd t (Int32.not_lt.mpr (Int32.le_refl _))
            refine RunsK.go 3 rfl trivial ?_
            refine RunsK.ifF nle ?_
            refine RunsK.go 3 rfl trivial ?_
            refine RunsK.ifF (nI_n0 (by omega)) ?_
            exact e270
          · refine RunsK.ifF zs ?_
            have yle : mx (su 11) (ho su f 100) = ho su f 100 := by
              unfold mx at zs ⊢
              by_cases t : su 11 < ho su f 100
              · rw [if_pos t]
              · rw [if_neg t] at zs; exact absurd rfl zs
            refine RunsK.go 2 rfl trivial ?_
            refine RunsK.cal rfl (c_countP (n + 1) 2 h8 hc8 (by decide) (by decide)) ?_
            rw [show mco h8 (rk su f 100).1 c8 2 = (rk su f 100).1 11 from rfl, pk11]
            refine RunsK.go 2 rfl trivial ?_
            refine RunsK.ifT yle ?_
            refine RunsK.go 2 rfl trivial ?_
            refine RunsK.ifF (nI_n0 (by omega)) ?_
            exact e270
        have e206' : ∀ x8 : Option DV, RunsK dT_93 (dEx (n + 6)) (dEnQ dT_93 Q) (206, [some (.inr (6, 0, 0)), some (.inl (nI m)), some (.inl (oI (-5) (tvv su f))), some (.inl (ho su f 100)), some (.inl ((rk su f 100).1 15)), some (.inl b), some (.inl 1), some (.inl v7), x8, none, none], [], h6) := fun x8 => e206 x8 h6 la P6 (hla.imp id (fun ⟨q, l0, q2, _⟩ => ⟨q, l0, q2⟩))
        refine RunsK.go 4 rfl trivial ?_
        cases htm : tvv su f with
        | none =>
          have e := e206'
          rw [htm] at e
          refine RunsK.ifT (by decide) ?_
          exact e none
        | some t =>
          obtain ⟨t400, t2, t3⟩ := tvv_some htm
          have e := e206'
          have e2 := e206
          rw [htm] at e e2
          dsimp only [oI] at e e2 ⊢
          by_cases z0 : t = 0
          · subst z0
            refine RunsK.ifT (by decide) ?_
            exact e none
          · refine RunsK.ifF (nI_nlt (show 1 ≤ t by omega) (by omega)) ?_
            refine RunsK.go 3 rfl trivial ?_
            by_cases z200 : 200 < t
            · refine RunsK.ifT (nI_lt z200 (by omega)) ?_
              exact e none
            · refine RunsK.ifF (nI_nlt (show t ≤ 200 by omega) (by decide)) ?_
              refine RunsK.go 2 rfl trivial ?_
              refine RunsK.ifF (by decide) ?_
              refine RunsK.go 3 rfl trivial ?_
              by_cases z1 : t = 1
              · subst z1
                refine RunsK.ifT rfl ?_
                refine RunsK.go 6 rfl trivial ?_
                refine RunsK.ifT rfl ?_
                refine RunsK.go 3 rfl trivial ?_
                exact e _
              · have n1 : ¬ nI t = 1 := fun u => z1 (nI_inj (b := 1) (by omega) (by decide) u)
                refine RunsK.ifF n1 ?_
                refine RunsK.go 4 rfl trivial ?_
                rw [show nI t - 1 = nI (t - 1) from nIm1 (by omega)]
                obtain ⟨h7, v1, v2⟩ := c_runQ n P6 f (t := t - 1) (by omega) (by omega) (by rw [hqu.1, nI_add]; exact nI_le (show T + (t - 1) ≤ 99999 by omega) (by decide))
                refine RunsK.cal rfl v1 ?_
                have := a500 (t - 1) (by omega)
                obtain ⟨c7, hc7⟩ := v2.sr
                refine RunsK.go 1 rfl trivial ?_
                refine RunsK.ifF (nI_n0 (by omega)) ?_
                refine RunsK.go 2 rfl trivial ?_
                refine RunsK.cal rfl (c_countP (n + 1) 3 h7 hc7 (by decide) (by decide)) ?_
                rw [show mco h7 (rk su f (t - 1)).1 c7 3 = (rk su f (t - 1)).1 93 from rfl]
                refine RunsK.go 1 rfl trivial ?_
                refine RunsK.ifF (Int32.not_le.mpr (t3 (t - 1) (by omega))) ?_
                refine RunsK.go 6 rfl trivial ?_
                refine RunsK.ifF n1 ?_
                refine RunsK.go 1 rfl trivial ?_
                obtain ⟨h8, u1, u2⟩ := c_undoP (n + 2) (show PR h7 (rk su f (t - 1)).1 (su :: la.take 3) from v2)
                refine RunsK.cal rfl u1 ?_
                refine RunsK.go 1 rfl trivial ?_
                exact e2 _ h8 _ u2 (hla.imp id (fun ⟨q, l0, q2, _⟩ => ⟨q, l0.take 2, by rw [q2]; rfl⟩))
      · refine RunsK.ifF z9 ?_
        refine RunsK.go 1 rfl trivial ?_
        exact RunsK.fin rfl (Or.inr rfl) ⟨h5, l5, rfl, P5⟩
    obtain ⟨htv1, htv2⟩ := htv
    cases hb : bst (fun m => tvv (upd s 8 (nI m)) f) 12 with
    | none =>
      refine RunsK.ifT rfl ?_
      refine RunsK.go 3 rfl trivial ?_
      have := htv1 hb m hm1 hm2
      have this : tvv (upd s 8 (nI m)) f = none := this
      rw [← hsu] at this
      refine RunsK.ifT (by rw [this]; rfl) ?_
      refine RunsK.go 2 rfl trivial ?_
      exact e120 _ h4 l P4
    | some q =>
      obtain ⟨mb, t⟩ := q
      obtain ⟨x1, x2, x3, x4, x5⟩ := htv2 mb t hb
      have x3 : tvv (upd s 8 (nI mb)) f = some t := x3
      have x4 : ∀ m' t', 1 ≤ m' → m' ≤ 12 → tvv (upd s 8 (nI m')) f = some t' → t ≤ t' := x4
      have x5 : ∀ m' t', 1 ≤ m' → m' < mb → tvv (upd s 8 (nI m')) f = some t' → t < t' := x5
      have t400 : t ≤ 400 := (tvv_some x3).1
      rw [show bI (some (mb, t)) = nI mb from rfl]
      refine RunsK.ifF (nI_m5 (by omega)) ?_
      refine RunsK.go 3 rfl trivial ?_
      obtain ⟨h5, a5, P5⟩ := c_ifP0 n f P4 x1 x2
      rw [x3] at a5
      refine RunsK.cal rfl a5 ?_
      rw [show oI (-5) (some t) = nI t from rfl]
      refine RunsK.go 1 rfl trivial ?_
      refine RunsK.ifF (nI_n0 (by omega)) ?_
      refine RunsK.go 3 rfl trivial ?_
      have e115 : ∀ (h6 : DH), PR h6 s l → RunsK dT_93 (dEx (n + 6)) (dEnQ dT_93 Q) (115, [some (.inr (6, 0, 0)), some (.inl (nI m)), some (.inl (oI (-5) (tvv su f))), some (.inl (ho su f 100)), some (.inl ((rk su f 100).1 15)), some (.inl (nI mb)), none, none, none, none, none], [], h6) := by
        intro h6 P6
        refine RunsK.go 2 rfl trivial ?_
        exact e120 _ h6 l P6
      have e76 : ∀ (h6 : DH), PR h6 s l → RunsK dT_93 (dEx (n + 6)) (dEnQ dT_93 Q) (76, [some (.inr (6, 0, 0)), some (.inl (nI m)), some (.inl (oI (-5) (tvv su f))), some (.inl (ho su f 100)), some (.inl ((rk su f 100).1 15)), some (.inl (nI mb)), none, none, none, none, none], [], h6) := by
        intro h6 P6
        refine RunsK.go 3 rfl trivial ?_
        by_cases z1 : mb = 1
        · subst z1
          refine RunsK.ifT rfl ?_
          exact e115 h6 P6
        · refine RunsK.ifF (fun u => z1 (nI_inj (b := 1) (by omega) (by decide) u)) ?_
          refine RunsK.go 5 rfl trivial ?_
          rw [show nI mb - 1 = nI (mb - 1) from nIm1 (by omega)]
          obtain ⟨h7, a7, P7⟩ := c_ifP0 n f P6 (m := mb - 1) (by omega) (by omega)
          refine RunsK.cal rfl a7 ?_
          refine RunsK.go 2 rfl trivial ?_
          cases hp : tvv (upd s 8 (nI (mb - 1))) f with
          | none =>
            refine RunsK.ifT rfl ?_
            exact e115 h7 P7
          | some t' =>
            have t4' : t' ≤ 400 := (tvv_some hp).1
            have lt' := x5 (mb - 1) t' (by omega) (by omega) hp
            refine RunsK.ifF (nI_m5 (show t' < 2 ^ 31 by omega)) ?_
            refine RunsK.go 5 rfl trivial ?_
            rw [show nI mb - 1 = nI (mb - 1) from nIm1 (by omega)]
            obtain ⟨h8, a8, P8⟩ := c_ifP0 n f P7 (m := mb - 1) (by omega) (by omega)
            rw [hp] at a8
            refine RunsK.cal rfl a8 ?_
            refine RunsK.go 3 rfl trivial ?_
            obtain ⟨h9, a9, P9⟩ := c_ifP0 n f P8 x1 x2
            rw [x3] at a9
            refine RunsK.cal rfl a9 ?_
            refine RunsK.go 1 rfl trivial ?_
            refine RunsK.ifF (show ¬ nI t' ≤ nI t from nI_ge lt' (by omega)) ?_
            exact e115 h9 P9
      cases htm : tvv su f with
      | none =>
        rw [htm] at e76
        refine RunsK.ifT rfl ?_
        exact e76 h5 P5
      | some tm =>
        have tm4 : tm ≤ 400 := (tvv_some htm).1
        have le' := x4 m tm hm1 hm2 (by rw [← hsu]; exact htm)
        rw [htm] at e76
        refine RunsK.ifF (nI_m5 (show tm < 2 ^ 31 by omega)) ?_
        refine RunsK.go 3 rfl trivial ?_
        obtain ⟨h6, a6, P6⟩ := c_ifP0 n f P5 x1 x2
        rw [x3] at a6
        refine RunsK.cal rfl a6 ?_
        refine RunsK.go 2 rfl trivial ?_
        refine RunsK.ifF (show ¬ nI tm < nI t from nI_nlt le' (by omega)) ?_
        exact e76 h6 P6
  obtain ⟨r, ⟨h', l', rfl, hP⟩, hrun⟩ := key.ex
  exact ⟨h', l', dx_93 hrun, hP⟩
end
section
/-! THE CLAIM OUT OF ONE WALK OF THE LAW'S BODY. Your part is whole_start (and what it stands on); all else here is the same for every law, but numbers. -/
def R_law : String := "DiskDrawerLaw"
def lw_P (b : Addr) (xs : List Int32) (args : Array Value) (s : State) : Prop := args = #[.ref b] ∧ s.IntsAt b xs ∧ xs.length ≤ 260 ∧ (Jvm.Cond.and given_1 narrow_1).before args s = true
def lw_Q (_ : Array Value) (s : State) (o : Outcome) (t : State) : Prop := o = .returned (some (.int 1)) ∧ Framed s o t [] 685182 7046703
def lw_Z (below : List Frame) (a : Array Value) (s : State) : State → Prop := fun t => ∃ o, t.status = .running ∧ Ended t below o ∧ lw_Q a s o t
/-- the law's own end, with 1 on the stack, nothing written that was there before, its room as the claim has it -/
theorem lw_ret {p : Program} {l : Launch} {e : Env} {s : State} {m : MethodId} {below : List Frame} {meth : Method} {c : Code} {b : Nat} (hx : p.tables.exec = Jvm.exec) (hb : c.code = code) (hr : meth.sig.returnType = ret) (hlocks : meth.locks = false) {pc : Nat} {H : Heap} {ls : Array Slot} (hdg : decode code pc = .ok (.ireturn, 1)) : W p l e room_1 s m #[Value.ref b] below meth c H [] 685182 7046703 (lw_Z below #[Value.ref b] s) (F0 m pc ls [.int 1]) := by
  intro T hT X
  obtain ⟨fs, hret, hrun, hended, hW, hframe⟩ := X.leave (v := some (.int 1)) (hlocks := hlocks) (fun h => by rw [hr] at h; cases h)
  have hmeth' : T.vm.method? m = some meth := X.method'
  refine ⟨T.setFrames fs, ?_, .returned (some (.int 1)), hrun, hended, rfl, ⟨_, rfl⟩, hW, hframe⟩
  jvm_step X.here [X.here.top, hx, hb, hdg, hmeth', hr, ret, narrow_b1]
  (try refine ⟨rfl, ?_⟩); (try refine ⟨rfl, ?_⟩)
  first | (intro acts; rw [hret _ acts rfl rfl rfl]) | rw [hret _ _ rfl rfl rfl]
  exact Steps.refl _
/-- what holds at the law's entry: the machine, the code, the tables' words (any of lw_tbl by 'hts w (by decide +kernel)'), the script of L ints xs at the cell b, what the Statement gives of the start (any of its parts by flat_of_before) -/
def lw_At (p : Program) (s : State) (m : MethodId) (meth : Method) (c : Code) (b L : Nat) (xs : Nat → Int32) : Prop :=
  p.tables.exec = Jvm.exec ∧ c.code = code ∧ meth.sig.returnType = ret ∧ c.maxLocals = 5 ∧ s.vm.findClass R_law = some m.cls ∧ (∀ w ∈ lw_tbl, w.before #[Value.ref b] s = true) ∧ va_X b L xs s s.heap ∧ b < s.heap.size ∧ meth.locks = false ∧ (Jvm.Cond.and given_1 narrow_1).before #[Value.ref b] s = true
end
section
/-! objects are made: cells at known addresses -/
def BW (D : va_G) (n : Nat) (f : Nat → Option va_E) (H : Heap) : Prop := H.size = n ∧ ∀ a e, f a = some e → va_at D dclasses (a, e) H
def fu (f : Nat → Option va_E) (a : Nat) (e : va_E) : Nat → Option va_E := fun b => if b = a then some e else f b
theorem fu_s (f : Nat → Option va_E) (a : Nat) (e : va_E) : fu f a e a = some e := if_pos rfl
theorem fu_n (f : Nat → Option va_E) {a b : Nat} (e : va_E) (h : b ≠ a) : fu f a e b = f b := if_neg h
theorem BW.lt {D : va_G} {n : Nat} {f : Nat → Option va_E} {H : Heap} (h : BW D n f H) {a : Nat} {e : va_E} (he : f a = some e) : a < n := by
  have hP : va_P D dclasses [(a, e)] H := fun k q hk => by
    cases k with
    | zero => cases hk; exact h.2 a e he
    | succ k => cases hk
  have := (hP 0 _ rfl).lt
  rw [h.1] at this
  exact this
theorem BW.one {D : va_G} {n : Nat} {f : Nat → Option va_E} {H : Heap} (h : BW D n f H) {a : Nat} {e : va_E} (he : f a = some e) : va_P D dclasses [(a, e)] H := fun k q hk => by
  cases k with
  | zero => cases hk; exact h.2 a e he
  | succ k => cases hk
theorem BW.set {D : va_G} {n n1 : Nat} {f : Nat → Option va_E} {H H1 : Heap} (h : BW D n f H) {a : Nat} {e : va_E} (z : H1.size = n1) (he : va_at D dclasses (a, e) H1) (o : ∀ q, q ≠ a → q < n → H1[q]? = H[q]?) : BW D n1 (fu f a e) H1 := by
  refine ⟨z, fun b e' hb => ?_⟩
  by_cases q : b = a
  · subst q
    rw [fu_s] at hb
    cases hb
    exact he
  · rw [fu_n _ _ q] at hb
    exact (h.2 b e' hb).kept (o b q (h.lt hb))
def bls (ci : Nat) : List Value := (List.range (dnf ci)).map (fun k => defaultValue (dTY ci k))
theorem bls_at (ci : Nat) {k : Nat} (hk : k < dnf ci) : defaultValue (dTY ci k) = vp_V (bls ci) k := by
  unfold vp_V bls
  rw [List.getD_eq_getElem?_getD, List.getElem?_map, List.getElem?_range hk]
  rfl
theorem bls_len (ci : Nat) : (bls ci).length = dnf ci := by simp [bls]
def dAO (U : State) : Prop := va_AO "DiskDrawer$Disk" U ∧ va_AO "DiskDrawer$Read" U ∧ va_AO "DiskDrawer$State" U
theorem dAO.moved {u U : State} (hvm : u.vm.Alike U.vm) (h : dAO u) : dAO U := ⟨va_AO.moved hvm h.1, va_AO.moved hvm h.2.1, va_AO.moved hvm h.2.2⟩
/-- where a method stands that makes objects -/
def Cx (p : Program) (s : State) (m : MethodId) (args : Array Value) (c : Code) (cc : ByteArray) (o : Nat) (Ts : List Cond) (D : va_G) (ad : DKey → Nat) (ca : Nat → ClassId) (fm : Value) (xs : Nat → Int32) (SL : Nat) (A0 : Nat → Prop) : Prop :=
  p.tables.exec = Jvm.exec ∧ c.code = cc ∧ s.vm.findClass (don o) = some m.cls ∧ (∀ w ∈ Ts, w.before args s = true) ∧ GoodIn Ts dWd ∧ dEnv D ad ca fm xs SL A0 s ∧ dAO s
section BLD
variable {p : Program} {l : Launch} {e : Env} {R : Room} {s : State} {m : MethodId} {args : Array Value} {below : List Frame} {meth : Method} {c : Code} {H : Heap} {locs : List Loc} {cells slots : Nat} {Q : State → Prop}
variable {cc : ByteArray} {pc : Nat} {ls : Array Slot} {rest : List Value} {Ts : List Cond} {o idx ci k n : Nat} {f : Nat → Option va_E} {A : Nat → Prop}
variable {D : va_G} {ad : DKey → Nat} {ca : Nat → ClassId} {fm : Value} {xs : Nat → Int32} {SL : Nat} {A0 : Nat → Prop}
theorem Cx.ok (C : Cx p s m args c cc o Ts D ad ca fm xs SL A0) {w : Cond} (hw : w ∈ dWd) : w.before args s = true := C.2.2.2.1 _ (C.2.2.2.2.1 _ hw).1
theorem Cx.uw (C : Cx p s m args c cc o Ts D ad ca fm xs SL A0) {ci : Nat} (hci : ci < 6) : ∀ w ∈ u_ws (don ci) (dTX ci) (dnf ci), w ∈ Ts := fun w hw => (C.2.2.2.2.1 w (duw hci w hw)).1
theorem b_new (C : Cx p s m args c cc o Ts D ad ca fm xs SL A0) (hB : BW D n f H) (hS : va_S A s.heap H locs) (hci : ci < 6) (hcl : Cond.classLink (don o) idx (don ci) ∈ dWd) (hin : Cond.instantiable (don ci) (dnf ci) ∈ dWd) (hini : Cond.initialized (don ci) ∈ dWd) (hcells : cells + 1 ≤ R.cells) (hslots : slots + dnf ci ≤ R.slots) (hdg : decode cc pc = .ok (.new idx, 3))
    (kk : ∀ H1 : Heap, BW D (n + 1) (fu f n (.inr (ci, bls ci))) H1 → va_S A s.heap H1 locs → W p l e R s m args below meth c H1 locs (cells + 1) (slots + dnf ci) Q (F0 m (pc + 3) ls (.ref n :: rest))) : W p l e R s m args below meth c H locs cells slots Q (F0 m pc ls rest) := by
  have hcl3 := dcl_at hci
  have hKn := C.2.2.2.2.2.1.1.1 ci _ hcl3
  refine W.newcK C.1 C.2.1 C.2.2.1 (C.ok hcl) (C.ok hin) (C.ok hini) rfl hdg hcells hslots hKn.2.1 hB.1 fun H1 kC hkC e1 z1 o1 => ?_
  refine kk H1 (hB.set z1 ⟨_, hcl3, (u_born (dTY ci) C.2.2.2.1 (C.uw hci) hKn hkC e1 (dty_ok ci hci)).to (fun k hk => bls_at ci hk)⟩ (fun q _ hq => o1 q hq)) ⟨Nat.le_trans hS.1 (by rw [z1, hB.1]; omega), fun q h1 h2 => (o1 q (by have := hS.1; rw [hB.1] at this; omega)).trans (hS.2.1 q h1 h2), hS.2.2⟩
theorem b_newa (C : Cx p s m args c cc o Ts D ad ca fm xs SL A0) (hB : BW D n f H) (hS : va_S A s.heap H locs) {atype : ArrayType} {t N : Nat} {x : Int32} (ht : (t = 0 ∧ atype = .int) ∨ (t = 4 ∧ atype = .char)) (hw : Cond.arrayClass (newarray.typeOf atype) ∈ dWd) (hx : ¬ x < 0) (hN : x.toNatClampNeg = N) (hN2 : N ≤ 1000) (hcells : cells + 1 ≤ R.cells) (hslots : slots + N ≤ R.slots) (hdg : decode cc pc = .ok (.newarray atype, 2))
    (kk : ∀ H1 : Heap, BW D (n + 1) (fu f n (.inl (ca t, N, .inl (fun _ => 0)))) H1 → va_S A s.heap H1 locs → W p l e R s m args below meth c H1 locs (cells + 1) (slots + N) Q (F0 m (pc + 2) ls (.ref n :: rest))) : W p l e R s m args below meth c H locs cells slots Q (F0 m pc ls (.int x :: rest)) := by
  have hty := C.2.2.2.2.2.1.1.2
  have hb : N * componentBytes (newarray.typeOf atype) ≤ 536870912 := by
    rcases ht with ⟨_, rfl⟩ | ⟨_, rfl⟩
    · exact Nat.le_trans (Nat.mul_le_mul_right _ hN2) (by decide)
    · exact Nat.le_trans (Nat.mul_le_mul_right _ hN2) (by decide)
  refine va_newaK C.1 C.2.1 (C.ok hw) rfl hdg rfl hx hN hb hcells hslots hB.1 fun H1 cA e1 z1 o1 hAr hNm => ?_
  have eA : cA = ca t ∧ (fun _ : Nat => defaultValue (newarray.typeOf atype)) = fun _ => Value.int 0 := by
    rcases ht with ⟨rfl, rfl⟩ | ⟨rfl, rfl⟩
    · exact ⟨Option.some.inj (hNm.symm.trans (hty 0 (ca 0, .int) rfl).2), rfl⟩
    · exact ⟨Option.some.inj (hNm.symm.trans (hty 4 (ca 4, .char) rfl).2), rfl⟩
  refine kk H1 (hB.set z1 ?_ (fun q _ hq => o1 q hq)) ⟨Nat.le_trans hS.1 (by rw [z1, hB.1]; omega), fun q h1 h2 => (o1 q (by have := hS.1; rw [hB.1] at this; omega)).trans (hS.2.1 q h1 h2), hS.2.2⟩
  show H1[n]? = some (vp_cell _ _)
  rw [e1, eA.1, eA.2]
  rfl
theorem b_newq (C : Cx p s m args c cc o Ts D ad ca fm xs SL A0) (hB : BW D n f H) (hS : va_S A s.heap H locs) {t N : Nat} {x : Int32} {CN : String} (ht : (dtys ca)[t]? = some (ca t, .object CN)) (hAO : va_AO CN s) (hcl : Cond.classLink (don o) idx CN ∈ dWd) (hx : ¬ x < 0) (hN : x.toNatClampNeg = N) (hN2 : N ≤ 1000) (hcells : cells + 1 ≤ R.cells) (hslots : slots + N ≤ R.slots) (hdg : decode cc pc = .ok (.anewarray idx, 3))
    (kk : ∀ H1 : Heap, BW D (n + 1) (fu f n (.inl (ca t, N, .inr (.inr (.inr (.inr (fun _ => none))))))) H1 → va_S A s.heap H1 locs → W p l e R s m args below meth c H1 locs (cells + 1) (slots + N) Q (F0 m (pc + 3) ls (.ref n :: rest))) : W p l e R s m args below meth c H locs cells slots Q (F0 m pc ls (.int x :: rest)) := by
  have hty := (C.2.2.2.2.2.1.1.2 t _ ht).2
  obtain ⟨kA0, comp0, g1, g2, g3, g4⟩ := hty
  subst hN
  refine W.anew C.1 C.2.1 C.2.2.1 (C.ok hcl) (va_AO.use hAO) rfl hdg rfl hx (by omega) hcells hslots fun cA kA comp f1 f2 f3 f4 => ?_
  have eA : cA = ca t := Option.some.inj (f1.symm.trans g4)
  subst eA
  generalize hH1 : H.push ({ cls := ca t, slots := Array.replicate x.toNatClampNeg .null, vm := .none } : Cell) = H1
  have z1 : H1.size = n + 1 := by rw [← hH1, Array.size_push, hB.1]
  have e1 : H1[n]? = some (arrV (ca t) x.toNatClampNeg (fun _ => .null)) := by rw [← hH1, ← hB.1, Array.getElem?_push_size, ← arrV_new]
  have o1 : ∀ q : Nat, q < n → H1[q]? = H[q]? := fun q hq => by rw [← hH1, Array.getElem?_push, if_neg (by rw [hB.1]; omega)]
  rw [hB.1]
  refine kk H1 (hB.set z1 ?_ (fun q _ hq => o1 q hq)) ⟨Nat.le_trans hS.1 (by rw [z1, hB.1]; omega), fun q h1 h2 => (o1 q (by have := hS.1; rw [hB.1] at this; omega)).trans (hS.2.1 q h1 h2), hS.2.2⟩
  show H1[n]? = some (vp_cell _ _)
  rw [vp_cell_q]
  exact e1
theorem b_putF (C : Cx p s m args c cc ci Ts D ad ca fm xs SL A0) (hB : BW D n f H) (hS : va_S A s.heap H locs) (hci : ci < 6) {a : Nat} {fs : List Value} (hf : f a = some (.inr (ci, fs))) (hl : fs.length = dnf ci) (hA : A a) (hk : k < dnf ci) (hlink : Cond.fieldLink (don ci) idx (dTX ci k).1 (dTX ci k).2.1 (dTX ci k).2.2.1 ∈ dWd) (hfin : (dTX ci k).2.2.2 = true) (hin2 : meth.name = "<init>") (hdecl : (dTX ci k).1 = don ci) {v : Nat} (hn : narrow (dTY ci k) (.ref v) = .ref v) (hfit : fits (dTY ci k) (.ref v) = true) (hdg : decode cc pc = .ok (.putfield idx, 3))
    (kk : ∀ (H1 : Heap) (locs1 : List Loc), BW D n (fu f a (.inr (ci, fs.set k (.ref v)))) H1 → va_S A s.heap H1 locs1 → W p l e R s m args below meth c H1 locs1 cells slots Q (F0 m (pc + 3) ls rest)) : W p l e R s m args below meth c H locs cells slots Q (F0 m pc ls (.ref v :: .ref a :: rest)) := by
  have hE := C.2.2.2.2.2.1
  have hcl := dcl_at hci
  have hts := C.2.2.2.1
  have hin := C.uw hci
  have hap := va_apart (own := don ci) hts hin (dTY ci) (dty_ok ci hci) (dnm_ok ci hci) hE.1 hcl
  obtain ⟨r, h1, cell, q1, q2, q3, q4⟩ := hB.2 a _ hf
  have hr2 : r = (don ci, dTX ci, dnf ci) := Option.some.inj (h1.symm.trans hcl)
  subst hr2
  obtain ⟨hSl, hfc, kC, hkC, hkind⟩ := hE.1.1 ci _ hcl
  obtain ⟨cf, kf, fi, fd, hif, hsl⟩ := hSl k hk
  have hlay := hts _ (hin _ (u_in_lay hk))
  unfold u_lay at hlay
  rw [if_pos hfin] at hlay
  have hst := (u_facts hfc hkC (u_lays hts hin hk) hif).1
  have hcf : m.cls = cf := by
    obtain ⟨_, _, c', _, _, _, -, -, hf', -, -, -, hown2, -⟩ := Cond.laysFinal_spec hlay
    have e1 : c' = cf := by have := hif.symm.trans hf'; simp at this; exact this.1.symm
    rw [hdecl] at hown2
    rw [← e1]; exact Option.some.inj (C.2.2.1.symm.trans hown2)
  have h6 := u_fits hfc hkC hkind (Or.inr hlay) hif (dty_ok ci hci k hk) hn hfit
  refine W.putFinK C.1 C.2.1 C.2.2.1 (C.ok hlink) hif hst hcf hin2 (by rw [q2]; exact h6) q1 q3 (by rw [hsl]; exact k2_hasslot (q4 k hk)) rfl rfl hdg fun H' e1 e2 e3 => ?_
  rw [hsl] at e1 ⊢
  exact kk H' _ (hB.set (e2.trans hB.1) ⟨_, hcl, t_OB.to (V := updV (vp_V fs) k (.ref v)) ⟨_, e1, q2, q3, t_set q4 hap hk (.ref v)⟩ (fun j _ => vp_updV_set (by rw [hl]; exact hk) (.ref v) j)⟩ (fun q hq _ => e3 q hq)) (hS.put e2 e3 hA)
theorem b_putZ (C : Cx p s m args c cc ci Ts D ad ca fm xs SL A0) (hB : BW D n f H) (hS : va_S A s.heap H locs) (hci : ci < 6) {a : Nat} {fs : List Value} (hf : f a = some (.inr (ci, fs))) (hl : fs.length = dnf ci) (hA : A a) (hk : k < dnf ci) (hlink : Cond.fieldLink (don ci) idx (dTX ci k).1 (dTX ci k).2.1 (dTX ci k).2.2.1 ∈ dWd) (hfin : (dTX ci k).2.2.2 = false) {x : Int32} (hn : narrow (dTY ci k) (.int x) = .int x) (hfit : fits (dTY ci k) (.int x) = true) (hdg : decode cc pc = .ok (.putfield idx, 3))
    (kk : ∀ (H1 : Heap) (locs1 : List Loc), BW D n (fu f a (.inr (ci, fs.set k (.int x)))) H1 → va_S A s.heap H1 locs1 → W p l e R s m args below meth c H1 locs1 cells slots Q (F0 m (pc + 3) ls rest)) : W p l e R s m args below meth c H locs cells slots Q (F0 m pc ls (.int x :: .ref a :: rest)) := by
  have hE := C.2.2.2.2.2.1
  have hcl := dcl_at hci
  have hts := C.2.2.2.1
  have hin := C.uw hci
  have hap := va_apart (own := don ci) hts hin (dTY ci) (dty_ok ci hci) (dnm_ok ci hci) hE.1 hcl
  obtain ⟨r, h1, cell, q1, q2, q3, q4⟩ := hB.2 a _ hf
  have hr2 : r = (don ci, dTX ci, dnf ci) := Option.some.inj (h1.symm.trans hcl)
  subst hr2
  obtain ⟨hSl, hfc, kC, hkC, hkind⟩ := hE.1.1 ci _ hcl
  obtain ⟨cf, kf, fi, fd, hif, hsl⟩ := hSl k hk
  have hlay := hts _ (hin _ (u_in_lay hk))
  unfold u_lay at hlay
  rw [if_neg (by rw [hfin]; decide)] at hlay
  have hst := (u_facts hfc hkC (u_lays hts hin hk) hif).1
  have h6 := u_store hfc hkC hkind hlay hif (dty_ok ci hci k hk) hn hfit
  refine W.putK C.1 C.2.1 (f := fd) ⟨C.2.2.1, C.ok hlink, ⟨_, _, _, hif⟩, hst⟩ (by rw [q2]; exact h6) q1 q3 (by rw [hsl]; exact k2_hasslot (q4 k hk)) rfl rfl hdg fun H' e1 e2 e3 => ?_
  rw [hsl] at e1 ⊢
  exact kk H' _ (hB.set (e2.trans hB.1) ⟨_, hcl, t_OB.to (V := updV (vp_V fs) k (.int x)) ⟨_, e1, q2, q3, t_set q4 hap hk (.int x)⟩ (fun j _ => vp_updV_set (by rw [hl]; exact hk) (.int x) j)⟩ (fun q hq _ => e3 q hq)) (hS.put e2 e3 hA)
theorem b_get (C : Cx p s m args c cc o Ts D ad ca fm xs SL A0) (hB : BW D n f H) (hci : ci < 6) {a : Nat} {fs : List Value} {v : Value} (hf : f a = some (.inr (ci, fs))) (hk : k < dnf ci) (hlink : Cond.fieldLink (don o) idx (dTX ci k).1 (dTX ci k).2.1 (dTX ci k).2.2.1 ∈ dWd) (hv : fs[k]? = some v) (hdg : decode cc pc = .ok (.getfield idx, 3))
    (kk : W p l e R s m args below meth c H locs cells slots Q (F0 m (pc + 3) ls (v :: rest))) : W p l e R s m args below meth c H locs cells slots Q (F0 m pc ls (.ref a :: rest)) :=
  va_get (D := D) (ci := ci) (v := v) (C := don ci) (T := dTX ci) (N := dnf ci) C.1 C.2.1 C.2.2.2.1 (C.uw hci) C.2.2.1 C.2.2.2.2.2.1.1 (hB.one hf) 0 rfl (dcl_at hci) k hk (C.ok hlink) (fun _ h9 => h9) hv hdg kk
theorem b_iast (C : Cx p s m args c cc o Ts D ad ca fm xs SL A0) (hB : BW D n f H) (hS : va_S A s.heap H locs) {a N : Nat} {g : Nat → Int32} (hf : f a = some (.inl (ca 0, N, .inl g))) (hA : A a) {i x : Int32} (hin : vp_in i N) (hdg : decode cc pc = .ok (.iastore, 1))
    (kk : ∀ (H1 : Heap) (locs1 : List Loc), BW D n (fu f a (.inl (ca 0, N, .inl (upd g i.toNatClampNeg x)))) H1 → va_S A s.heap H1 locs1 → W p l e R s m args below meth c H1 locs1 cells slots Q (F0 m (pc + 1) ls rest)) : W p l e R s m args below meth c H locs cells slots Q (F0 m pc ls (.int x :: .int i :: .ref a :: rest)) := by
  have hty := (C.2.2.2.2.2.1.1.2 0 (ca 0, .int) rfl).1
  refine W.iast C.1 C.2.1 (hB.2 a _ hf) (hty N (fun j => .int (g j))) (fun q => by cases q) (by show ¬ (i < 0 ∨ (arrV _ _ _).slots.size ≤ _); rw [arrV_size]; exact hin) rfl rfl hdg fun H1 e z oq => ?_
  refine kk H1 _ (hB.set (z.trans hB.1) ?_ (fun q hq _ => oq q hq)) (hS.put z oq hA)
  show H1[a]? = some (vp_cell _ _)
  rw [e, vp_cell_i, vp_cell_i, arrV_store]
  congr 2
  funext q
  by_cases hq : q = i.toNatClampNeg <;> simp [updV, upd, hq]
theorem b_aast (C : Cx p s m args c cc o Ts D ad ca fm xs SL A0) (hB : BW D n f H) (hS : va_S A s.heap H locs) {a N t v : Nat} {g : Nat → Option Nat} {vs : List Value} (hf : f a = some (.inl (ca t, N, .inr (.inr (.inr (.inr g)))))) (hC : (dtys ca)[t]? = some (ca t, .object (don ci))) (hci : ci < 6) (hv : f v = some (.inr (ci, vs))) (hA : A a) {i : Int32} (hin : vp_in i N) (hdg : decode cc pc = .ok (.aastore, 1))
    (kk : ∀ (H1 : Heap) (locs1 : List Loc), BW D n (fu f a (.inl (ca t, N, .inr (.inr (.inr (.inr (va_up g i.toNatClampNeg (some v)))))))) H1 → va_S A s.heap H1 locs1 → W p l e R s m args below meth c H1 locs1 cells slots Q (F0 m (pc + 1) ls rest)) : W p l e R s m args below meth c H locs cells slots Q (F0 m pc ls (.ref v :: .int i :: .ref a :: rest)) := by
  have hlt : i.toNatClampNeg < N := Nat.not_le.mp fun q => hin (Or.inr q)
  have h0 : ¬ i < 0 := fun q => hin (Or.inl q)
  have hE := C.2.2.2.2.2.1
  obtain ⟨r', hr', cellV, g1, g2, g3, -⟩ := hB.2 v _ hv
  have hcls := (hE.1.1 ci _ (dcl_at hci)).2
  obtain ⟨kA, comp, k1, k2, k3, -⟩ := (hE.1.2 t _ hC).2
  have hcomp : comp = D.1 ci := Option.some.inj (k3.symm.trans hcls.1)
  subst hcomp
  obtain ⟨kC, hkC, -⟩ := hcls.2
  refine W.aast C.1 C.2.1 (hB.2 a _ hf) (fun q h => by cases h) (fun h => by cases h) k1 k2 rfl hkC ⟨h0, by show _ < (arrV _ _ _).slots.size; rw [arrV_size]; exact hlt⟩ g1 (fun q h => by rw [g3] at h; cases h) (by rw [g2]; exact hkC) (by rw [g2]; exact va_assign hcls) rfl rfl hdg fun H1 e z oq => ?_
  refine kk H1 _ (hB.set (z.trans hB.1) ?_ (fun q hq _ => oq q hq)) (hS.put z oq hA)
  show H1[a]? = some (vp_cell _ _)
  rw [e, vp_cell_q, vp_cell_q, arrV_store]
  congr 2
  funext q
  by_cases hq : q = i.toNatClampNeg
  · subst hq
    simp [updV, va_up, va_rf]
  · simp [updV, va_up, hq]
end BLD
end
section
/-! constructors: what each makes, and where -/
theorem BW.sub {D : va_G} {n : Nat} {f g : Nat → Option va_E} {H : Heap} (h : BW D n f H) (hs : ∀ b e, g b = some e → f b = some e) : BW D n g H := ⟨h.1, fun b e hb => h.2 b e (hs b e hb)⟩
def mix (f g : Nat → Option va_E) (a n : Nat) : Nat → Option va_E := fun b => if b = a ∨ n ≤ b then g b else f b
def f1 (a : Nat) (e : va_E) : Nat → Option va_E := fun b => if b = a then some e else none
def cPre (D : va_G) (ad : DKey → Nat) (ca : Nat → ClassId) (fm : Value) (xs : Nat → Int32) (SL z0 a n0 : Nat) (e0 : va_E) : Array Value → State → Prop := va_Pc [.ref a] (fun U => U.heap.size = n0 ∧ va_at D dclasses (a, e0) U.heap ∧ z0 ≤ a ∧ dEnv D ad ca fm xs SL (fun q => z0 ≤ q) U ∧ dAO U)
def cPost (D : va_G) (a n0 k : Nat) (g : Nat → Option va_E) : Array Value → State → Outcome → State → Prop := va_Qv (fun _ : Unit => True) (fun _ t => BW D (n0 + k) g t.heap) (fun q => q = a ∨ n0 ≤ q)
def cMet (l : Launch) (D : va_G) (ad : DKey → Nat) (ca : Nat → ClassId) (fm : Value) (xs : Nat → Int32) (SL z0 : Nat) (y : MethodName) (bytes : ByteArray) (maxL : Nat) (rm : Room) (a n0 k : Nat) (e0 : va_E) (g : Nat → Option va_E) : Prop := Met l y (Cond.code y bytes maxL none :: dWd) rm (cPre D ad ca fm xs SL z0 a n0 e0) (cPost D a n0 k g) rm.cells rm.slots (fun q => q = a ∨ n0 ≤ q)
theorem cPre_blind {D : va_G} {ad : DKey → Nat} {ca : Nat → ClassId} {fm : Value} {xs : Nat → Int32} {SL z0 a n0 : Nat} {e0 : va_E} : FrameBlind (cPre D ad ca fm xs SL z0 a n0 e0) := fun _ U _ _ q => ⟨q.1, q.2.1, q.2.2.1, q.2.2.2.1, dEnv.same (u := U) rfl rfl q.2.2.2.2.1, dAO.moved (u := U) (Vm.Alike.refl U.vm) q.2.2.2.2.2⟩
section CCL
variable {p : Program} {l : Launch} {e : Env} {R : Room} {s : State} {m : MethodId} {args : Array Value} {below : List Frame} {meth : Method} {c : Code} {H : Heap} {locs : List Loc} {cells slots : Nat} {Q : State → Prop}
variable {cc : ByteArray} {pc : Nat} {ls : Array Slot} {rest : List Value} {Ts : List Cond} {o idx n nL : Nat} {f : Nat → Option va_E} {A : Nat → Prop}
variable {D : va_G} {ad : DKey → Nat} {ca : Nat → ClassId} {fm : Value} {xs : Nat → Int32} {SL z0 : Nat}
theorem mix_BW (hB : BW D n f H) {H1 : Heap} {g : Nat → Option va_E} {a k : Nat} (h1 : BW D (n + k) g H1) (hk : ∀ q : Nat, q < H.size → ¬ (q = a ∨ n ≤ q) → H1[q]? = H[q]?) : BW D (n + k) (mix f g a n) H1 := by
  refine ⟨h1.1, fun b e hb => ?_⟩
  unfold mix at hb
  by_cases z : b = a ∨ n ≤ b
  · rw [if_pos z] at hb
    exact h1.2 b e hb
  · rw [if_neg z] at hb
    exact (hB.2 b e hb).kept (hk b (by rw [hB.1]; exact hB.lt hb) z)
theorem b_pre (C : Cx p s m args c cc o Ts D ad ca fm xs SL (fun q => z0 ≤ q)) (hB : BW D n f H) (hS : va_S A s.heap H locs) (hA0 : ∀ q, A q → z0 ≤ q) {a : Nat} {e0 : va_E} (hA : A a) (hf : f a = some e0) : PreS s H (cPre D ad ca fm xs SL z0 a n e0) [.ref a] :=
  ⟨cPre_blind, fun U hU hW => ⟨rfl, by rw [hU, hB.1], by rw [hU]; exact hB.2 a _ hf, hA0 a hA, dEnv.warm hW (by rw [hU]; exact hS.1) (fun q h1 h2 => by rw [hU]; exact hS.2.1 q h1 (fun t => h2 (hA0 _ t))) C.2.2.2.2.2.1, dAO.moved hW.alike C.2.2.2.2.2.2⟩⟩
theorem b_callI (C : Cx p s m args c cc o Ts D ad ca fm xs SL (fun q => z0 ≤ q)) (hml : c.maxLocals = nL) (hls : ls.size = nL) (hB : BW D n f H) (hS : va_S A s.heap H locs) (hA0 : ∀ q, A q → z0 ≤ q) (hAn : ∀ q, s.heap.size ≤ q → A q) {a k maxL : Nat} {e0 : va_E} {g : Nat → Option va_E} {y : MethodName} {bytes : ByteArray} {rm : Room} (hA : A a) (hf : f a = some e0) (hM : cMet l D ad ca fm xs SL z0 y bytes maxL rm a n k e0 g)
    (hy : y.name = "<init>") (hd : y.cls ≠ "java/lang/invoke/MethodHandle" ∧ y.cls ≠ "java/lang/invoke/VarHandle" ∧ (parseMethodDescriptor y.desc).map (fun d => d.parameters.length) = some 0) (hcode : Cond.code y bytes maxL none ∈ dWd) (hini : Cond.initialized y.cls ∈ dWd) (hlk : Cond.methodLink (don o) idx y ∈ dWd) (hin : Cond.instanceMethod y ∈ dWd) (hR : rm.frames + 1 ≤ R.frames ∧ 8 + (maxL + 11) + rm.locals ≤ R.locals) (hc : cells + rm.cells ≤ R.cells ∧ slots + rm.slots ≤ R.slots) (hrest : (rest.map fun v => v.category).sum ≤ 8) (hdg : decode cc pc = .ok (.invokespecial idx, 3))
    (kk : ∀ (H1 : Heap) (locs1 : List Loc), BW D (n + k) (mix f g a n) H1 → va_S A s.heap H1 locs1 → W p l e R s m args below meth c H1 locs1 (cells + rm.cells) (slots + rm.slots) Q (F0 m (pc + 3) ls rest)) : W p l e R s m args below meth c H locs cells slots Q (F0 m pc ls (.ref a :: rest)) := by
  have hfree : ∀ q, (q = a ∨ n ≤ q) → A q := fun q hq => by
    rcases hq with rfl | hq
    · exact hA
    · exact hAn q (by have := hS.1; rw [hB.1] at this; omega)
  refine va_callv (va_runI (As := []) (rest := rest) ⟨C.1, C.2.1, hml, C.2.2.1, C.2.2.2.1⟩ hM (cwI (ws' := dWd) 0 C.2.2.2.1 (dGoodTs C.2.2.2.2.1 hcode) rfl rfl rfl (C.ok hini) (C.ok hlk) (C.ok hin) hy hd hR) (b_pre C hB hS hA0 hA hf) rfl rfl hls rfl (lv_room hrest) hdg hc) hS (fun q _ h => hfree q h) hfree (fun u t H1 locs1 ht hvm _ hBW hz hk hS1 => ?_)
  rw [ht] at hBW
  exact kk H1 locs1 (mix_BW hB hBW hk) hS1
theorem b_callN (C : Cx p s m args c cc o Ts D ad ca fm xs SL (fun q => z0 ≤ q)) (hml : c.maxLocals = nL) (hls : ls.size = nL) (hB : BW D n f H) (hS : va_S A s.heap H locs) (hA0 : ∀ q, A q → z0 ≤ q) (hAn : ∀ q, s.heap.size ≤ q → A q) {a k maxL : Nat} {e0 : va_E} {g : Nat → Option va_E} {y : MethodName} {bytes : ByteArray} {rm : Room} (hA : A a) (hf : f a = some e0) (hM : cMet l D ad ca fm xs SL z0 y bytes maxL rm a n k e0 g)
    (hy : y.name = "<init>") (hd : y.cls ≠ "java/lang/invoke/MethodHandle" ∧ y.cls ≠ "java/lang/invoke/VarHandle" ∧ (parseMethodDescriptor y.desc).map (fun d => d.parameters.length) = some 0) (hcode : Cond.code y bytes maxL none ∈ dWd) (hini : Cond.initialized y.cls ∈ dWd) (hlk : Cond.methodLinkNest (don o) idx y "DiskDrawer" ∈ dNest) (hin : Cond.instanceMethod y ∈ dWd) (hR : rm.frames + 1 ≤ R.frames ∧ 8 + (maxL + 11) + rm.locals ≤ R.locals) (hc : cells + rm.cells ≤ R.cells ∧ slots + rm.slots ≤ R.slots) (hrest : (rest.map fun v => v.category).sum ≤ 8) (hdg : decode cc pc = .ok (.invokespecial idx, 3))
    (kk : ∀ (H1 : Heap) (locs1 : List Loc), BW D (n + k) (mix f g a n) H1 → va_S A s.heap H1 locs1 → W p l e R s m args below meth c H1 locs1 (cells + rm.cells) (slots + rm.slots) Q (F0 m (pc + 3) ls rest)) : W p l e R s m args below meth c H locs cells slots Q (F0 m pc ls (.ref a :: rest)) := by
  have hfree : ∀ q, (q = a ∨ n ≤ q) → A q := fun q hq => by
    rcases hq with rfl | hq
    · exact hA
    · exact hAn q (by have := hS.1; rw [hB.1] at this; omega)
  refine va_callv (va_runIN (As := []) (rest := rest) (host := "DiskDrawer") ⟨C.1, C.2.1, hml, C.2.2.1, C.2.2.2.1⟩ hM ⟨va_cnB (ws' := dWd) 0 C.2.2.2.1 (dGoodTs C.2.2.2.2.1 hcode) rfl rfl rfl (C.2.2.2.2.2.1.2.1 _ hlk) (C.ok hini) hd hR, hy, C.ok hin⟩ (b_pre C hB hS hA0 hA hf) rfl rfl hls rfl (lv_room hrest) hdg hc) hS (fun q _ h => hfree q h) hfree (fun u t H1 locs1 ht hvm _ hBW hz hk hS1 => ?_)
  rw [ht] at hBW
  exact kk H1 locs1 (mix_BW hB hBW hk) hS1
end CCL
def cA (a n0 : Nat) : Nat → Prop := fun q => q = a ∨ n0 ≤ q
theorem cMet_of {l : Launch} {D : va_G} {ad : DKey → Nat} {ca : Nat → ClassId} {fm : Value} {xs : Nat → Int32} {SL z0 : Nat} {y : MethodName} {cc : ByteArray} {maxL o idx a n0 k : Nat} {rm : Room} {e0 : va_E} {g : Nat → Option va_E} (hp : plainName y.cls = true) (hcl : y.cls = don o) (hy : y.name = "<init>") (hm : 1 ≤ maxL) (hlk : Cond.methodLink (don o) idx Lib.objectInit ∈ dWd) (hd0 : decode cc 0 = .ok (.aload_n 0, 1)) (hd1 : decode cc 1 = .ok (.invokespecial idx, 3)) (hf : 1 ≤ rm.frames) (hl : 20 ≤ rm.locals)
    (body : ∀ p e s m args below meth c ls, Cx p s m args c cc o (Cond.code y cc maxL none :: dWd) D ad ca fm xs SL (fun q => z0 ≤ q) → c.maxLocals = maxL → lv_has ls maxL [(0, .ref a)] → meth.name = "<init>" → meth.sig.returnType = none → meth.locks = false → s.heap.size = n0 → z0 ≤ a → BW D n0 (f1 a e0) s.heap → W p l e rm s m args below meth c s.heap [] 0 0 (MQ below (cPost D a n0 k g) args s rm.cells rm.slots (cA a n0)) (F0 m 4 ls [])) : cMet l D ad ca fm xs SL z0 y cc maxL rm a n0 k e0 g := by
  unfold cMet
  refine Met.ofW (cc := cc) (maxL := maxL) (ret := none) hp rfl ?_
  intro p e s m args below meth c s₁ B hml hv
  obtain ⟨rfl, hz, hat, hza, hE, hAO⟩ := hv
  have hts := atoms_spec (ws := Cond.code y cc maxL none :: dWd) B.pre
  have hown : s.vm.findClass (don o) = some m.cls := by rw [← hcl]; exact findClass_of_methodNamed B.named
  have C : Cx p s m [Value.ref a].toArray c cc o (Cond.code y cc maxL none :: dWd) D ad ca fm xs SL (fun q => z0 ≤ q) := ⟨B.exec, B.bytes, hown, hts, dWd_cons _, hE, hAO⟩
  have hlv := lv_entry [Value.ref a] (n := maxL) hm
  rw [lg_entry_eq]
  generalize (lg_sl [Value.ref a] ++ List.replicate (maxL - (lg_sl [Value.ref a]).length) Slot.unset).toArray = ls at hlv ⊢
  have hlv2 : lv_has ls maxL [(0, .ref a)] := hlv
  refine lv_aload_n (x := a) C.1 C.2.1 hd0 rfl (lv_at hlv2 0 rfl) ?_
  refine W.objInit C.1 C.2.1 hown (C.ok hlk) (C.ok (dWd_of (i := 30) (by decide +kernel) rfl)) (C.ok (dWd_of (i := 31) (by decide +kernel) rfl)) rfl (hlv2.1.trans hml.symm) rfl hd1 hf ?_ ?_
  · show 2 * 0 + 0 + 12 ≤ rm.locals
    omega
  · refine body p e s m _ below meth c ls C hml hlv2 ((name_of_methodNamed B.named B.method).1.trans hy) B.returns B.notSynchronized hz hza ⟨hz, fun b e hb => ?_⟩
    unfold f1 at hb
    split at hb
    · rename_i q
      cases hb
      rw [q]; exact hat
    · cases hb
section CEND
variable {p : Program} {l : Launch} {e : Env} {R : Room} {s : State} {m : MethodId} {args : Array Value} {below : List Frame} {meth : Method} {c : Code} {H : Heap} {locs : List Loc} {cells slots mc ms : Nat} {cc : ByteArray} {pc : Nat} {ls : Array Slot} {Ts : List Cond} {o n n0 a k : Nat} {f g : Nat → Option va_E} {D : va_G} {ad : DKey → Nat} {ca : Nat → ClassId} {fm : Value} {xs : Nat → Int32} {SL z0 : Nat}
theorem cEnd (C : Cx p s m args c cc o Ts D ad ca fm xs SL (fun q => z0 ≤ q)) (hr : meth.sig.returnType = none) (hlocks : meth.locks = false) (hB : BW D n f H) (hS : va_S (cA a n0) s.heap H locs) (hn : n = n0 + k) (hg : ∀ b e, g b = some e → f b = some e) (hc : cells = mc) (hs : slots = ms) (hdg : decode cc pc = .ok (.return_, 1)) : W p l e R s m args below meth c H locs cells slots (MQ below (cPost D a n0 k g) args s mc ms (cA a n0)) (F0 m pc ls []) := by
  subst hc hs hn
  exact W.vret C.1 C.2.1 hr (fun t ht hW => ⟨⟨(), rfl, trivial, by show BW D _ g t.heap; rw [ht]; exact hB.sub hg⟩, hS.F ht⟩) hS.2.2 hdg hlocks
end CEND
def rmL : Room := { frames := 1, cells := 0, slots := 0, locals := 20 }
theorem c_Disk (l : Launch) {D : va_G} {ad : DKey → Nat} {ca : Nat → ClassId} {fm : Value} {xs : Nat → Int32} {SL z0 a n0 : Nat} : cMet l D ad ca fm xs SL z0 ⟨"DiskDrawer$Disk", "<init>", "()V"⟩ prog_2_method_1_code 1 rmL a n0 0 (.inr (1, bls 1)) (f1 a (.inr (1, bls 1))) :=
  cMet_of (o := 1) (idx := 3) (by decide) rfl rfl (Nat.le_refl _) (dWd_of (i := 48) (by decide +kernel) rfl) (by decide +kernel) (by decide +kernel) (by decide) (by decide) fun p e s m args below meth c ls C hml hlv hin hr hlk hz hza hB =>
    cEnd C hr hlk hB va_S.rf rfl (fun b e h => h) rfl rfl (by decide +kernel)
theorem c_Read (l : Launch) {D : va_G} {ad : DKey → Nat} {ca : Nat → ClassId} {fm : Value} {xs : Nat → Int32} {SL z0 a n0 : Nat} : cMet l D ad ca fm xs SL z0 ⟨"DiskDrawer$Read", "<init>", "()V"⟩ prog_5_method_1_code 1 rmL a n0 0 (.inr (2, bls 2)) (f1 a (.inr (2, bls 2))) :=
  cMet_of (o := 2) (idx := 1) (by decide) rfl rfl (Nat.le_refl _) (dWd_of (i := 84) (by decide +kernel) rfl) (by decide +kernel) (by decide +kernel) (by decide) (by decide) fun p e s m args below meth c ls C hml hlv hin hr hlk hz hza hB =>
    cEnd C hr hlk hB va_S.rf rfl (fun b e h => h) rfl rfl (by decide +kernel)
end
section
/-! a state is made -/
def gS (ca : Nat → ClassId) (a n0 i j k : Nat) : Nat → Option va_E := fun b =>
  if b = a then some (.inr (0, (((bls 0).set 0 (.ref n0)).set 1 (.ref (n0 + 1))).set 2 (.ref (n0 + 2))))
  else if b = n0 then some (.inl (ca 0, 10, .inl (fun q => if q < i then dcst 0 q else 0)))
  else if b = n0 + 1 then some (.inl (ca 1, 12, .inr (.inr (.inr (.inr (fun q => if q < j then some (n0 + 3 + q) else none))))))
  else if b = n0 + 2 then some (.inl (ca 2, 30, .inr (.inr (.inr (.inr (fun q => if q < k then some (n0 + 15 + q) else none))))))
  else if n0 + 3 ≤ b ∧ b < n0 + 3 + j then some (.inr (1, bls 1))
  else if n0 + 15 ≤ b ∧ b < n0 + 15 + k then some (.inr (2, bls 2))
  else none
def rmS : Room := { frames := 2, cells := 45, slots := 286, locals := 40 }
theorem va_S.weak {A B : Nat → Prop} {H0 H : Heap} {locs : List Loc} (hAB : ∀ q, A q → B q) (h : va_S A H0 H locs) : va_S B H0 H locs := ⟨h.1, fun q h1 h2 => h.2.1 q h1 (fun t => h2 (hAB _ t)), fun l hl => hAB _ (h.2.2 l hl)⟩
theorem nI_up (i : Nat) : nI i + Int32.ofInt 1 = nI (i + 1) := (Int32.ofNat_add i 1).symm
section CST
variable {p : Program} {l : Launch} {e : Env} {s : State} {m : MethodId} {args : Array Value} {below : List Frame} {meth : Method} {c : Code} {H : Heap} {locs : List Loc} {cells slots : Nat} {Q : State → Prop} {R : Room}
variable {ls : Array Slot} {Ts : List Cond} {n0 a : Nat} {D : va_G} {ad : DKey → Nat} {ca : Nat → ClassId} {fm : Value} {xs : Nat → Int32} {SL z0 : Nat}
theorem cS_1 (C : Cx p s m args c prog_6_method_1_code 0 Ts D ad ca fm xs SL (fun q => z0 ≤ q)) (hA0 : ∀ q, cA a n0 q → z0 ≤ q) (hne : a < n0)
    (kk : ∀ (ls : Array Slot) (H : Heap) (locs : List Loc), lv_has ls 2 [(1, .int (nI 10)), (0, .ref a)] → BW D (n0 + 3) (gS ca a n0 10 0 0) H → va_S (cA a n0) s.heap H locs → W p l e R s m args below meth c H locs cells slots Q (F0 m 55 ls [])) :
    ∀ (r i : Nat) (ls : Array Slot) (H : Heap) (locs : List Loc), i + r = 10 → lv_has ls 2 [(1, .int (nI i)), (0, .ref a)] → BW D (n0 + 3) (gS ca a n0 i 0 0) H → va_S (cA a n0) s.heap H locs → W p l e R s m args below meth c H locs cells slots Q (F0 m 32 ls []) := by
  intro r
  induction r with
  | zero =>
    intro i ls H locs hi hlv hB hS
    obtain rfl : i = 10 := hi
    refine lv_iload_n (pc := 32) (k := 1) (i := 1) C.1 C.2.1 (by decide +kernel) rfl (lv_at hlv 0 rfl) ?_
    refine lv_bipush (pc := 33) (n := 10) (v := nI 10) C.1 C.2.1 (by decide +kernel) rfl ?_
    refine lv_icmp_ge (pc := 35) (off := 20) (tgt := 55) C.1 C.2.1 (by decide +kernel) rfl (fun _ => kk ls H locs hlv hB hS) (fun q => absurd (Int32.le_refl _) q)
  | succ r ih =>
    intro i ls H locs hi hlv hB hS
    have hi10 : i < 10 := by omega
    refine lv_iload_n (pc := 32) (k := 1) (i := 1) C.1 C.2.1 (by decide +kernel) rfl (lv_at hlv 0 rfl) ?_
    refine lv_bipush (pc := 33) (n := 10) (v := nI 10) C.1 C.2.1 (by decide +kernel) rfl ?_
    refine lv_icmp_ge (pc := 35) (off := 20) (tgt := 55) C.1 C.2.1 (by decide +kernel) rfl (fun q => absurd q (i_ge hi10 (by decide))) (fun _ => ?_)
    refine lv_aload_n (pc := 38) (k := 0) (i := 0) (x := a) C.1 C.2.1 (by decide +kernel) rfl (lv_at hlv 1 rfl) ?_
    refine b_get (pc := 39) (idx := 9) (ci := 0) (k := 0) (v := .ref n0) C hB (by decide) (if_pos rfl) (by decide) (dWd_of (i := 107) (by decide +kernel) rfl) rfl (by decide +kernel) ?_
    refine lv_iload_n (pc := 42) (k := 1) (i := 1) C.1 C.2.1 (by decide +kernel) rfl (lv_at hlv 0 rfl) ?_
    have hE := C.2.2.2.2.2.1
    have hS' : va_S (fun q => z0 ≤ q) s.heap H locs := hS.weak hA0
    refine va_getsN (pc := 43) (index := 27) C.1 C.2.1 (hE.2.2.1 0 (by decide)).1 hS' C.2.2.1 (va_Nw.use rfl (hE.2.1 (.fieldLinkNest "DiskDrawer$State" 27 "DiskDrawer" "AT_FIRST" "[I" "DiskDrawer") (List.mem_filter.mpr ⟨List.mem_of_getElem? (i := 42) (by decide +kernel), rfl⟩))) (fun _ z => z) (by decide +kernel) ?_
    refine lv_iload_n (pc := 46) (k := 1) (i := 1) C.1 C.2.1 (by decide +kernel) rfl (lv_at hlv 0 rfl) ?_
    refine va_ti (pc := 47) (v := .int (dcst 0 i)) C.1 C.2.1 (hE.2.2.1 0 (by decide)).2 hS' (i_in hi10 (by decide)) (by rw [i_cl (by omega)]) (by decide +kernel) ?_
    have hn0 : gS ca a n0 i 0 0 n0 = some (.inl (ca 0, 10, .inl (fun q => if q < i then dcst 0 q else 0))) := by
      unfold gS
      rw [if_neg (by omega), if_pos rfl]
    refine b_iast (pc := 48) C hB hS hn0 (Or.inr (Nat.le_refl _)) (i_in hi10 (by decide)) (by decide +kernel) fun H1 locs1 hB1 hS1 => ?_
    refine lv_iinc (pc := 49) (i := 1) (n := 1) (k := 0) (lv' := [(1, .int (nI (i + 1))), (0, .ref a)]) C.1 C.2.1 (by decide +kernel) hlv rfl (nI_up i) (by decide) rfl fun ls' hlv' => ?_
    refine lv_goto (pc := 52) (off := -20) (tgt := 32) C.1 C.2.1 (by decide +kernel) rfl ?_
    refine ih (i + 1) ls' H1 locs1 (by omega) hlv' (hB1.sub fun b e hb => ?_) hS1
    by_cases q : b = n0
    · subst q
      rw [fu_s]
      unfold gS at hb
      rw [if_neg (by omega), if_pos rfl] at hb
      rw [← hb, i_cl (by omega)]
      congr 5
      funext q
      unfold upd
      by_cases z : q = i
      · subst z
        rw [if_pos rfl, if_pos (by omega)]
      · rw [if_neg z]
        dsimp only
        by_cases z2 : q < i
        · rw [if_pos z2, if_pos (by omega)]
        · rw [if_neg z2, if_neg (by omega)]
    · rw [fu_n _ _ q]
      unfold gS at hb ⊢
      rw [if_neg q] at hb ⊢
      exact hb
theorem cS_2 (C : Cx p s m args c prog_6_method_1_code 0 Ts D ad ca fm xs SL (fun q => z0 ≤ q)) (hml : c.maxLocals = 2) (hA0 : ∀ q, cA a n0 q → z0 ≤ q) (hne : a < n0) (hn0 : s.heap.size = n0) (hR : R = rmS)
    (kk : ∀ (ls : Array Slot) (H : Heap) (locs : List Loc), lv_has ls 2 [(1, .int (nI 12)), (0, .ref a)] → BW D (n0 + 15) (gS ca a n0 10 12 0) H → va_S (cA a n0) s.heap H locs → W p l e R s m args below meth c H locs 15 136 Q (F0 m 82 ls [])) :
    ∀ (r i : Nat) (ls : Array Slot) (H : Heap) (locs : List Loc) (cells slots : Nat), i + r = 12 → cells = 3 + i → slots = 52 + 7 * i → lv_has ls 2 [(1, .int (nI i)), (0, .ref a)] → BW D (n0 + 3 + i) (gS ca a n0 10 i 0) H → va_S (cA a n0) s.heap H locs → W p l e R s m args below meth c H locs cells slots Q (F0 m 57 ls []) := by
  have hAn : ∀ q, s.heap.size ≤ q → cA a n0 q := fun q hq => Or.inr (by omega)
  intro r
  induction r with
  | zero =>
    intro i ls H locs cells slots hi hc hs hlv hB hS
    obtain rfl : i = 12 := hi
    subst hc hs
    refine lv_iload_n (pc := 57) (k := 1) (i := 1) C.1 C.2.1 (by decide +kernel) rfl (lv_at hlv 0 rfl) ?_
    refine lv_bipush (pc := 58) (n := 12) (v := nI 12) C.1 C.2.1 (by decide +kernel) rfl ?_
    refine lv_icmp_ge (pc := 60) (off := 22) (tgt := 82) C.1 C.2.1 (by decide +kernel) rfl (fun _ => kk ls H locs hlv hB hS) (fun q => absurd (Int32.le_refl _) q)
  | succ r ih =>
    intro i ls H locs cells slots hi hc hs hlv hB hS
    have hi10 : i < 12 := by omega
    subst hR
    refine lv_iload_n (pc := 57) (k := 1) (i := 1) C.1 C.2.1 (by decide +kernel) rfl (lv_at hlv 0 rfl) ?_
    refine lv_bipush (pc := 58) (n := 12) (v := nI 12) C.1 C.2.1 (by decide +kernel) rfl ?_
    refine lv_icmp_ge (pc := 60) (off := 22) (tgt := 82) C.1 C.2.1 (by decide +kernel) rfl (fun q => absurd q (i_ge hi10 (by decide))) (fun _ => ?_)
    refine lv_aload_n (pc := 63) (k := 0) (i := 0) (x := a) C.1 C.2.1 (by decide +kernel) rfl (lv_at hlv 1 rfl) ?_
    refine b_get (pc := 64) (idx := 17) (ci := 0) (k := 1) (v := .ref (n0 + 1)) C hB (by decide) (if_pos rfl) (by decide) (dWd_of (i := 109) (by decide +kernel) rfl) rfl (by decide +kernel) ?_
    refine lv_iload_n (pc := 67) (k := 1) (i := 1) C.1 C.2.1 (by decide +kernel) rfl (lv_at hlv 0 rfl) ?_
    refine b_new (pc := 68) (idx := 15) (ci := 1) C hB hS (by decide) (dWd_of (i := 38) (by decide +kernel) rfl) (dWd_of (i := 44) (by decide +kernel) rfl) (dWd_of (i := 19) (by decide +kernel) rfl) (by show cells + 1 ≤ 45; omega) (by show slots + 7 ≤ 286; omega) (by decide +kernel) fun H1 hB1 hS1 => ?_
    refine lv_dup (pc := 71) C.1 C.2.1 (by decide +kernel) rfl ?_
    refine b_callN (pc := 72) (idx := 30) (a := n0 + 3 + i) (y := ⟨"DiskDrawer$Disk", "<init>", "()V"⟩) C hml hlv.1 hB1 hS1 hA0 hAn (Or.inr (by omega)) (fu_s _ _ _) (c_Disk l) rfl (by decide +kernel) (dWd_of (i := 47) (by decide +kernel) rfl) (dWd_of (i := 19) (by decide +kernel) rfl) (List.mem_filter.mpr ⟨List.mem_of_getElem? (i := 45) (by decide +kernel), rfl⟩) (dWd_of (i := 46) (by decide +kernel) rfl) (by decide) ⟨by show cells + 1 + 0 ≤ 45; omega, by show slots + 7 + 0 ≤ 286; omega⟩ (by show 3 ≤ 8; decide) (by decide +kernel) fun H2 locs2 hB2 hS2 => ?_
    have hm1 : mix (fu (gS ca a n0 10 i 0) (n0 + 3 + i) (.inr (1, bls 1))) (f1 (n0 + 3 + i) (.inr (1, bls 1))) (n0 + 3 + i) (n0 + 3 + i + 1) (n0 + 1) = some (.inl (ca 1, 12, .inr (.inr (.inr (.inr (fun q => if q < i then some (n0 + 3 + q) else none)))))) := by
      unfold mix
      rw [if_neg (by omega), fu_n _ _ (by omega)]
      unfold gS
      rw [if_neg (by omega), if_neg (by omega), if_pos rfl]
    have hm2 : mix (fu (gS ca a n0 10 i 0) (n0 + 3 + i) (.inr (1, bls 1))) (f1 (n0 + 3 + i) (.inr (1, bls 1))) (n0 + 3 + i) (n0 + 3 + i + 1) (n0 + 3 + i) = some (.inr (1, bls 1)) := by
      unfold mix f1
      rw [if_pos (Or.inl rfl), if_pos rfl]
    refine b_aast (pc := 75) (t := 1) (ci := 1) C hB2 hS2 hm1 rfl (by decide) hm2 (Or.inr (by omega)) (i_in hi10 (by decide)) (by decide +kernel) fun H3 locs3 hB3 hS3 => ?_
    refine lv_iinc (pc := 76) (i := 1) (n := 1) (k := 0) (lv' := [(1, .int (nI (i + 1))), (0, .ref a)]) C.1 C.2.1 (by decide +kernel) hlv rfl (nI_up i) (by decide) rfl fun ls' hlv' => ?_
    refine lv_goto (pc := 79) (off := -22) (tgt := 57) C.1 C.2.1 (by decide +kernel) rfl ?_
    refine ih (i + 1) ls' H3 locs3 _ _ (by omega) (by show cells + 1 + 0 = _; omega) (by show slots + 7 + 0 = _; omega) hlv' (BW.sub (n := n0 + 3 + i + 1) hB3 fun b e hb => ?_) hS3
    by_cases q : b = n0 + 1
    · subst q
      rw [fu_s]
      unfold gS at hb
      rw [if_neg (by omega), if_neg (by omega), if_pos rfl] at hb
      rw [← hb, i_cl (by omega)]
      congr 8
      funext q
      unfold va_up
      by_cases z : q = i
      · subst z
        rw [if_pos rfl, if_pos (by omega)]
      · rw [if_neg z]
        dsimp only
        by_cases z2 : q < i
        · rw [if_pos z2, if_pos (by omega)]
        · rw [if_neg z2, if_neg (by omega)]
    · rw [fu_n _ _ q]
      by_cases q2 : b = n0 + 3 + i
      · subst q2
        rw [hm2]
        unfold gS at hb
        rw [if_neg (by omega), if_neg (by omega), if_neg (by omega), if_neg (by omega), if_pos (by omega)] at hb
        exact hb
      · have q3 : ¬ (n0 + 3 + i + 1 ≤ b) := fun z => by
          unfold gS at hb
          rw [if_neg (by omega), if_neg (by omega), if_neg (by omega), if_neg (by omega), if_neg (by omega), if_neg (by omega)] at hb
          cases hb
        unfold mix
        rw [if_neg (by omega), fu_n _ _ q2]
        unfold gS at hb ⊢
        rw [if_neg q] at hb ⊢
        by_cases z1 : b = a
        · rw [if_pos z1] at hb ⊢; exact hb
        · rw [if_neg z1] at hb ⊢
          by_cases z2 : b = n0
          · rw [if_pos z2] at hb ⊢; exact hb
          · rw [if_neg z2] at hb ⊢
            by_cases z3 : b = n0 + 2
            · rw [if_pos z3] at hb ⊢; exact hb
            · rw [if_neg z3] at hb ⊢
              by_cases z4 : n0 + 3 ≤ b ∧ b < n0 + 3 + i
              · rw [if_pos (by omega)] at hb
                rw [if_pos z4]; exact hb
              · rw [if_neg (by omega), if_neg (by omega)] at hb
                cases hb
theorem cS_3 (C : Cx p s m args c prog_6_method_1_code 0 Ts D ad ca fm xs SL (fun q => z0 ≤ q)) (hml : c.maxLocals = 2) (hA0 : ∀ q, cA a n0 q → z0 ≤ q) (hne : a < n0) (hn0 : s.heap.size = n0) (hR : R = rmS)
    (kk : ∀ (ls : Array Slot) (H : Heap) (locs : List Loc), BW D (n0 + 45) (gS ca a n0 10 12 30) H → va_S (cA a n0) s.heap H locs → W p l e R s m args below meth c H locs 45 286 Q (F0 m 109 ls [])) :
    ∀ (r i : Nat) (ls : Array Slot) (H : Heap) (locs : List Loc) (cells slots : Nat), i + r = 30 → cells = 15 + i → slots = 136 + 5 * i → lv_has ls 2 [(1, .int (nI i)), (0, .ref a)] → BW D (n0 + 15 + i) (gS ca a n0 10 12 i) H → va_S (cA a n0) s.heap H locs → W p l e R s m args below meth c H locs cells slots Q (F0 m 84 ls []) := by
  have hAn : ∀ q, s.heap.size ≤ q → cA a n0 q := fun q hq => Or.inr (by omega)
  intro r
  induction r with
  | zero =>
    intro i ls H locs cells slots hi hc hs hlv hB hS
    obtain rfl : i = 30 := hi
    subst hc hs
    refine lv_iload_n (pc := 84) (k := 1) (i := 1) C.1 C.2.1 (by decide +kernel) rfl (lv_at hlv 0 rfl) ?_
    refine lv_bipush (pc := 85) (n := 30) (v := nI 30) C.1 C.2.1 (by decide +kernel) rfl ?_
    refine lv_icmp_ge (pc := 87) (off := 22) (tgt := 109) C.1 C.2.1 (by decide +kernel) rfl (fun _ => kk ls H locs hB hS) (fun q => absurd (Int32.le_refl _) q)
  | succ r ih =>
    intro i ls H locs cells slots hi hc hs hlv hB hS
    have hi10 : i < 30 := by omega
    subst hR
    refine lv_iload_n (pc := 84) (k := 1) (i := 1) C.1 C.2.1 (by decide +kernel) rfl (lv_at hlv 0 rfl) ?_
    refine lv_bipush (pc := 85) (n := 30) (v := nI 30) C.1 C.2.1 (by decide +kernel) rfl ?_
    refine lv_icmp_ge (pc := 87) (off := 22) (tgt := 109) C.1 C.2.1 (by decide +kernel) rfl (fun q => absurd q (i_ge hi10 (by decide))) (fun _ => ?_)
    refine lv_aload_n (pc := 90) (k := 0) (i := 0) (x := a) C.1 C.2.1 (by decide +kernel) rfl (lv_at hlv 1 rfl) ?_
    refine b_get (pc := 91) (idx := 23) (ci := 0) (k := 2) (v := .ref (n0 + 2)) C hB (by decide) (if_pos rfl) (by decide) (dWd_of (i := 111) (by decide +kernel) rfl) rfl (by decide +kernel) ?_
    refine lv_iload_n (pc := 94) (k := 1) (i := 1) C.1 C.2.1 (by decide +kernel) rfl (lv_at hlv 0 rfl) ?_
    refine b_new (pc := 95) (idx := 21) (ci := 2) C hB hS (by decide) (dWd_of (i := 40) (by decide +kernel) rfl) (dWd_of (i := 80) (by decide +kernel) rfl) (dWd_of (i := 20) (by decide +kernel) rfl) (by show cells + 1 ≤ 45; omega) (by show slots + 5 ≤ 286; omega) (by decide +kernel) fun H1 hB1 hS1 => ?_
    refine lv_dup (pc := 98) C.1 C.2.1 (by decide +kernel) rfl ?_
    refine b_callN (pc := 99) (idx := 31) (a := n0 + 15 + i) (y := ⟨"DiskDrawer$Read", "<init>", "()V"⟩) C hml hlv.1 hB1 hS1 hA0 hAn (Or.inr (by omega)) (fu_s _ _ _) (c_Read l) rfl (by decide +kernel) (dWd_of (i := 83) (by decide +kernel) rfl) (dWd_of (i := 20) (by decide +kernel) rfl) (List.mem_filter.mpr ⟨List.mem_of_getElem? (i := 81) (by decide +kernel), rfl⟩) (dWd_of (i := 82) (by decide +kernel) rfl) (by decide) ⟨by show cells + 1 + 0 ≤ 45; omega, by show slots + 5 + 0 ≤ 286; omega⟩ (by show 3 ≤ 8; decide) (by decide +kernel) fun H2 locs2 hB2 hS2 => ?_
    have hm1 : mix (fu (gS ca a n0 10 12 i) (n0 + 15 + i) (.inr (2, bls 2))) (f1 (n0 + 15 + i) (.inr (2, bls 2))) (n0 + 15 + i) (n0 + 15 + i + 1) (n0 + 2) = some (.inl (ca 2, 30, .inr (.inr (.inr (.inr (fun q => if q < i then some (n0 + 15 + q) else none)))))) := by
      unfold mix
      rw [if_neg (by omega), fu_n _ _ (by omega)]
      unfold gS
      rw [if_neg (by omega), if_neg (by omega), if_neg (by omega), if_pos rfl]
    have hm2 : mix (fu (gS ca a n0 10 12 i) (n0 + 15 + i) (.inr (2, bls 2))) (f1 (n0 + 15 + i) (.inr (2, bls 2))) (n0 + 15 + i) (n0 + 15 + i + 1) (n0 + 15 + i) = some (.inr (2, bls 2)) := by
      unfold mix f1
      rw [if_pos (Or.inl rfl), if_pos rfl]
    refine b_aast (pc := 102) (t := 2) (ci := 2) C hB2 hS2 hm1 rfl (by decide) hm2 (Or.inr (by omega)) (i_in hi10 (by decide)) (by decide +kernel) fun H3 locs3 hB3 hS3 => ?_
    refine lv_iinc (pc := 103) (i := 1) (n := 1) (k := 0) (lv' := [(1, .int (nI (i + 1))), (0, .ref a)]) C.1 C.2.1 (by decide +kernel) hlv rfl (nI_up i) (by decide) rfl fun ls' hlv' => ?_
    refine lv_goto (pc := 106) (off := -22) (tgt := 84) C.1 C.2.1 (by decide +kernel) rfl ?_
    refine ih (i + 1) ls' H3 locs3 _ _ (by omega) (by show cells + 1 + 0 = _; omega) (by show slots + 5 + 0 = _; omega) hlv' (BW.sub (n := n0 + 15 + i + 1) hB3 fun b e hb => ?_) hS3
    by_cases q : b = n0 + 2
    · subst q
      rw [fu_s]
      unfold gS at hb
      rw [if_neg (by omega), if_neg (by omega), if_neg (by omega), if_pos rfl] at hb
      rw [← hb, i_cl (by omega)]
      congr 8
      funext q
      unfold va_up
      by_cases z : q = i
      · subst z
        rw [if_pos rfl, if_pos (by omega)]
      · rw [if_neg z]
        dsimp only
        by_cases z2 : q < i
        · rw [if_pos z2, if_pos (by omega)]
        · rw [if_neg z2, if_neg (by omega)]
    · rw [fu_n _ _ q]
      by_cases q2 : b = n0 + 15 + i
      · subst q2
        rw [hm2]
        unfold gS at hb
        rw [if_neg (by omega), if_neg (by omega), if_neg (by omega), if_neg (by omega), if_neg (by omega), if_pos (by omega)] at hb
        exact hb
      · have q3 : ¬ (n0 + 15 + i + 1 ≤ b) := fun z => by
          unfold gS at hb
          rw [if_neg (by omega), if_neg (by omega), if_neg (by omega), if_neg (by omega), if_neg (by omega), if_neg (by omega)] at hb
          cases hb
        unfold mix
        rw [if_neg (by omega), fu_n _ _ q2]
        unfold gS at hb ⊢
        by_cases z1 : b = a
        · rw [if_pos z1] at hb ⊢; exact hb
        · rw [if_neg z1] at hb ⊢
          by_cases z2 : b = n0
          · rw [if_pos z2] at hb ⊢; exact hb
          · rw [if_neg z2] at hb ⊢
            by_cases z3 : b = n0 + 1
            · rw [if_pos z3] at hb ⊢; exact hb
            · rw [if_neg z3, if_neg q] at hb ⊢
              by_cases z4 : n0 + 3 ≤ b ∧ b < n0 + 3 + 12
              · rw [if_pos z4] at hb ⊢; exact hb
              · rw [if_neg z4] at hb ⊢
                by_cases z5 : n0 + 15 ≤ b ∧ b < n0 + 15 + i
                · rw [if_pos (by omega)] at hb
                  rw [if_pos z5]; exact hb
                · rw [if_neg (by omega)] at hb
                  cases hb
end CST
theorem c_State (l : Launch) {D : va_G} {ad : DKey → Nat} {ca : Nat → ClassId} {fm : Value} {xs : Nat → Int32} {SL z0 a n0 : Nat} : cMet l D ad ca fm xs SL z0 ⟨"DiskDrawer$State", "<init>", "()V"⟩ prog_6_method_1_code 2 rmS a n0 45 (.inr (0, bls 0)) (gS ca a n0 10 12 30) :=
  cMet_of (o := 0) (idx := 3) (by decide) rfl rfl (by decide) (dWd_of (i := 37) (by decide +kernel) rfl) (by decide +kernel) (by decide +kernel) (by decide) (by decide) fun p e s m args below meth c ls C hml hlv hin hr hlk hz hza hB => by
    have hne : a < n0 := hB.lt (a := a) (if_pos rfl)
    have hA0 : ∀ q, cA a n0 q → z0 ≤ q := fun q hq => by
      rcases hq with rfl | hq
      · exact hza
      · omega
    have hA : cA a n0 a := Or.inl rfl
    have hS : va_S (cA a n0) s.heap s.heap [] := va_S.rf
    refine lv_aload_n (pc := 4) (k := 0) (i := 0) (x := a) C.1 C.2.1 (by decide +kernel) rfl (lv_at hlv 0 rfl) ?_
    refine lv_bipush (pc := 5) (n := 10) (v := 10) C.1 C.2.1 (by decide +kernel) rfl ?_
    refine b_newa (pc := 7) (atype := .int) (t := 0) (N := 10) C hB hS (Or.inl ⟨rfl, rfl⟩) (dWd_of (i := 79) (by decide +kernel) rfl) (by decide) (by decide) (by decide) (by decide) (by decide) (by decide +kernel) fun H1 hB1 hS1 => ?_
    refine b_putF (pc := 9) (idx := 9) (ci := 0) (k := 0) (a := a) (fs := bls 0) C hB1 hS1 (by decide) (by rw [fu_n _ _ (by omega)]; exact if_pos rfl) rfl hA (by decide) (dWd_of (i := 107) (by decide +kernel) rfl) rfl hin rfl rfl rfl (by decide +kernel) fun H2 locs2 hB2 hS2 => ?_
    refine lv_aload_n (pc := 12) (k := 0) (i := 0) (x := a) C.1 C.2.1 (by decide +kernel) rfl (lv_at hlv 0 rfl) ?_
    refine lv_bipush (pc := 13) (n := 12) (v := 12) C.1 C.2.1 (by decide +kernel) rfl ?_
    refine b_newq (pc := 15) (idx := 15) (t := 1) (N := 12) (CN := "DiskDrawer$Disk") C hB2 hS2 rfl C.2.2.2.2.2.2.1 (dWd_of (i := 38) (by decide +kernel) rfl) (by decide) (by decide) (by decide) (by decide) (by decide) (by decide +kernel) fun H3 hB3 hS3 => ?_
    refine b_putF (pc := 18) (idx := 17) (ci := 0) (k := 1) (a := a) (fs := (bls 0).set 0 (.ref n0)) C hB3 hS3 (by decide) (by rw [fu_n _ _ (by omega), fu_s]) rfl hA (by decide) (dWd_of (i := 109) (by decide +kernel) rfl) rfl hin rfl rfl rfl (by decide +kernel) fun H4 locs4 hB4 hS4 => ?_
    refine lv_aload_n (pc := 21) (k := 0) (i := 0) (x := a) C.1 C.2.1 (by decide +kernel) rfl (lv_at hlv 0 rfl) ?_
    refine lv_bipush (pc := 22) (n := 30) (v := 30) C.1 C.2.1 (by decide +kernel) rfl ?_
    refine b_newq (pc := 24) (idx := 21) (t := 2) (N := 30) (CN := "DiskDrawer$Read") C hB4 hS4 rfl C.2.2.2.2.2.2.2.1 (dWd_of (i := 40) (by decide +kernel) rfl) (by decide) (by decide) (by decide) (by decide) (by decide) (by decide +kernel) fun H5 hB5 hS5 => ?_
    refine b_putF (pc := 27) (idx := 23) (ci := 0) (k := 2) (a := a) (fs := ((bls 0).set 0 (.ref n0)).set 1 (.ref (n0 + 1))) C hB5 hS5 (by decide) (by rw [fu_n _ _ (by omega), fu_s]) rfl hA (by decide) (dWd_of (i := 111) (by decide +kernel) rfl) rfl hin rfl rfl rfl (by decide +kernel) fun H6 locs6 hB6 hS6 => ?_
    refine lv_iconst (pc := 30) (n := 0) (v := nI 0) C.1 C.2.1 (by decide +kernel) rfl ?_
    refine lv_istore_n (pc := 31) (k := 1) (i := 1) (lv' := [(1, .int (nI 0)), (0, .ref a)]) C.1 C.2.1 (by decide +kernel) rfl hlv (by decide) rfl fun ls1 hlv1 => ?_
    refine cS_1 (n0 := n0) C hA0 hne (fun ls2 H7 locs7 hlv2 hB7 hS7 => ?_) 10 0 ls1 H6 locs6 rfl hlv1 (BW.sub (n := n0 + 3) hB6 fun b e hb => ?_) hS6
    · refine lv_iconst (pc := 55) (n := 0) (v := nI 0) C.1 C.2.1 (by decide +kernel) rfl ?_
      refine lv_istore_n (pc := 56) (k := 1) (i := 1) (lv' := [(1, .int (nI 0)), (0, .ref a)]) C.1 C.2.1 (by decide +kernel) rfl hlv2 (by decide) rfl fun ls3 hlv3 => ?_
      refine cS_2 (n0 := n0) C hml hA0 hne hz rfl (fun ls4 H8 locs8 hlv4 hB8 hS8 => ?_) 12 0 ls3 H7 locs7 _ _ rfl rfl rfl hlv3 hB7 hS7
      refine lv_iconst (pc := 82) (n := 0) (v := nI 0) C.1 C.2.1 (by decide +kernel) rfl ?_
      refine lv_istore_n (pc := 83) (k := 1) (i := 1) (lv' := [(1, .int (nI 0)), (0, .ref a)]) C.1 C.2.1 (by decide +kernel) rfl hlv4 (by decide) rfl fun ls5 hlv5 => ?_
      refine cS_3 (n0 := n0) C hml hA0 hne hz rfl (fun ls6 H9 locs9 hB9 hS9 => ?_) 30 0 ls5 H8 locs8 _ _ rfl rfl rfl hlv5 hB8 hS8
      exact cEnd C hr hlk hB9 hS9 rfl (fun b e h => h) rfl rfl (by decide +kernel)
    · unfold gS at hb
      by_cases z1 : b = a
      · rw [if_pos z1] at hb
        rw [z1, fu_s]
        exact hb
      rw [if_neg z1] at hb
      rw [fu_n _ _ z1]
      by_cases z2 : b = n0
      · rw [if_pos z2] at hb
        rw [z2, fu_n _ _ (by omega), fu_n _ _ (by omega), fu_n _ _ (by omega), fu_n _ _ (by omega), fu_s, ← hb]
        congr 5
      rw [if_neg z2] at hb
      by_cases z3 : b = n0 + 1
      · rw [if_pos z3] at hb
        rw [z3, fu_n _ _ (by omega), fu_n _ _ (by omega), fu_s, ← hb]
        congr 8
      rw [if_neg z3] at hb
      by_cases z4 : b = n0 + 2
      · rw [if_pos z4] at hb
        rw [z4, fu_s, ← hb]
        congr 8
      rw [if_neg z4, if_neg (by omega), if_neg (by omega)] at hb
      cases hb
end
section
/-! a program and the reference object are made -/
def gProg (ca : Nat → ClassId) (a n0 : Nat) : Nat → Option va_E := fu (fu (fu (fu (fu (fu (fu (fu (f1 a (.inr (5, bls 5))) n0 (.inl (ca 4, 80, .inl (fun _ => 0)))) a (.inr (5, (bls 5).set 0 (.ref n0)))) (n0 + 1) (.inl (ca 0, 16, .inl (fun _ => 0)))) a (.inr (5, ((bls 5).set 0 (.ref n0)).set 2 (.ref (n0 + 1))))) (n0 + 2) (.inl (ca 0, 16, .inl (fun _ => 0)))) a (.inr (5, (((bls 5).set 0 (.ref n0)).set 2 (.ref (n0 + 1))).set 3 (.ref (n0 + 2))))) (n0 + 3) (.inl (ca 0, 16, .inl (fun _ => 0)))) a (.inr (5, ((((bls 5).set 0 (.ref n0)).set 2 (.ref (n0 + 1))).set 3 (.ref (n0 + 2))).set 4 (.ref (n0 + 3))))
def rmProg : Room := { frames := 1, cells := 4, slots := 128, locals := 20 }
theorem c_Prog (l : Launch) {D : va_G} {ad : DKey → Nat} {ca : Nat → ClassId} {fm : Value} {xs : Nat → Int32} {SL z0 a n0 : Nat} : cMet l D ad ca fm xs SL z0 ⟨"DiskDrawer$Program", "<init>", "()V"⟩ prog_4_method_1_code 1 rmProg a n0 4 (.inr (5, bls 5)) (gProg ca a n0) :=
  cMet_of (o := 5) (idx := 3) (by decide) rfl rfl (by decide) (dWd_of (i := 181) (by decide +kernel) rfl) (by decide +kernel) (by decide +kernel) (by decide) (by decide) fun p e s m args below meth c ls C hml hlv hin hr hlk hz hza hB => by
    have hne : a < n0 := hB.lt (a := a) (if_pos rfl)
    have hA : cA a n0 a := Or.inl rfl
    have hS : va_S (cA a n0) s.heap s.heap [] := va_S.rf
    refine lv_aload_n (pc := 4) (k := 0) (i := 0) (x := a) C.1 C.2.1 (by decide +kernel) rfl (lv_at hlv 0 rfl) ?_
    refine lv_bipush (pc := 5) (n := 80) (v := 80) C.1 C.2.1 (by decide +kernel) rfl ?_
    refine b_newa (pc := 7) (atype := .char) (t := 4) (N := 80) C hB hS (Or.inr ⟨rfl, rfl⟩) (dWd_of (i := 202) (by decide +kernel) rfl) (by decide) (by decide) (by decide) (by decide) (by decide) (by decide +kernel) fun H1 hB1 hS1 => ?_
    refine b_putF (pc := 9) (idx := 9) (ci := 5) (k := 0) (a := a) (fs := bls 5) C hB1 hS1 (by decide) (by rw [fu_n _ _ (by omega)]; exact if_pos rfl) rfl hA (by decide) (dWd_of (i := 182) (by decide +kernel) rfl) rfl hin rfl rfl rfl (by decide +kernel) fun H2 locs2 hB2 hS2 => ?_
    refine lv_aload_n (pc := 12) (k := 0) (i := 0) (x := a) C.1 C.2.1 (by decide +kernel) rfl (lv_at hlv 0 rfl) ?_
    refine lv_bipush (pc := 13) (n := 16) (v := 16) C.1 C.2.1 (by decide +kernel) rfl ?_
    refine b_newa (pc := 15) (atype := .int) (t := 0) (N := 16) C hB2 hS2 (Or.inl ⟨rfl, rfl⟩) (dWd_of (i := 79) (by decide +kernel) rfl) (by decide) (by decide) (by decide) (by decide) (by decide) (by decide +kernel) fun H3 hB3 hS3 => ?_
    refine b_putF (pc := 17) (idx := 15) (ci := 5) (k := 2) (a := a) (fs := (bls 5).set 0 (.ref n0)) C hB3 hS3 (by decide) (by rw [fu_n _ _ (by omega), fu_s]) rfl hA (by decide) (dWd_of (i := 184) (by decide +kernel) rfl) rfl hin rfl rfl rfl (by decide +kernel) fun H4 locs4 hB4 hS4 => ?_
    refine lv_aload_n (pc := 20) (k := 0) (i := 0) (x := a) C.1 C.2.1 (by decide +kernel) rfl (lv_at hlv 0 rfl) ?_
    refine lv_bipush (pc := 21) (n := 16) (v := 16) C.1 C.2.1 (by decide +kernel) rfl ?_
    refine b_newa (pc := 23) (atype := .int) (t := 0) (N := 16) C hB4 hS4 (Or.inl ⟨rfl, rfl⟩) (dWd_of (i := 79) (by decide +kernel) rfl) (by decide) (by decide) (by decide) (by decide) (by decide) (by decide +kernel) fun H5 hB5 hS5 => ?_
    refine b_putF (pc := 25) (idx := 19) (ci := 5) (k := 3) (a := a) (fs := ((bls 5).set 0 (.ref n0)).set 2 (.ref (n0 + 1))) C hB5 hS5 (by decide) (by rw [fu_n _ _ (by omega), fu_s]) rfl hA (by decide) (dWd_of (i := 185) (by decide +kernel) rfl) rfl hin rfl rfl rfl (by decide +kernel) fun H6 locs6 hB6 hS6 => ?_
    refine lv_aload_n (pc := 28) (k := 0) (i := 0) (x := a) C.1 C.2.1 (by decide +kernel) rfl (lv_at hlv 0 rfl) ?_
    refine lv_bipush (pc := 29) (n := 16) (v := 16) C.1 C.2.1 (by decide +kernel) rfl ?_
    refine b_newa (pc := 31) (atype := .int) (t := 0) (N := 16) C hB6 hS6 (Or.inl ⟨rfl, rfl⟩) (dWd_of (i := 79) (by decide +kernel) rfl) (by decide) (by decide) (by decide) (by decide) (by decide) (by decide +kernel) fun H7 hB7 hS7 => ?_
    refine b_putF (pc := 33) (idx := 22) (ci := 5) (k := 4) (a := a) (fs := (((bls 5).set 0 (.ref n0)).set 2 (.ref (n0 + 1))).set 3 (.ref (n0 + 2))) C hB7 hS7 (by decide) (by rw [fu_n _ _ (by omega), fu_s]) rfl hA (by decide) (dWd_of (i := 186) (by decide +kernel) rfl) rfl hin rfl rfl rfl (by decide +kernel) fun H8 locs8 hB8 hS8 => ?_
    exact cEnd C hr hlk hB8 hS8 rfl (fun b e h => h) rfl rfl (by decide +kernel)
theorem gProg_0 {ca : Nat → ClassId} {a n0 : Nat} (hne : a < n0) : gProg ca a n0 a = some (.inr (5, ((((bls 5).set 0 (.ref n0)).set 2 (.ref (n0 + 1))).set 3 (.ref (n0 + 2))).set 4 (.ref (n0 + 3)))) := by
  unfold gProg
  rw [fu_s]
theorem gProg_1 {ca : Nat → ClassId} {a n0 : Nat} (hne : a < n0) : gProg ca a n0 n0 = some (.inl (ca 4, 80, .inl (fun _ => 0))) := by
  unfold gProg
  rw [fu_n _ _ (by omega), fu_n _ _ (by omega), fu_n _ _ (by omega), fu_n _ _ (by omega), fu_n _ _ (by omega), fu_n _ _ (by omega), fu_n _ _ (by omega), fu_s]
theorem gProg_2 {ca : Nat → ClassId} {a n0 : Nat} (hne : a < n0) : gProg ca a n0 (n0 + 1) = some (.inl (ca 0, 16, .inl (fun _ => 0))) := by
  unfold gProg
  rw [fu_n _ _ (by omega), fu_n _ _ (by omega), fu_n _ _ (by omega), fu_n _ _ (by omega), fu_n _ _ (by omega), fu_s]
theorem gProg_3 {ca : Nat → ClassId} {a n0 : Nat} (hne : a < n0) : gProg ca a n0 (n0 + 2) = some (.inl (ca 0, 16, .inl (fun _ => 0))) := by
  unfold gProg
  rw [fu_n _ _ (by omega), fu_n _ _ (by omega), fu_n _ _ (by omega), fu_s]
theorem gProg_4 {ca : Nat → ClassId} {a n0 : Nat} (hne : a < n0) : gProg ca a n0 (n0 + 3) = some (.inl (ca 0, 16, .inl (fun _ => 0))) := by
  unfold gProg
  rw [fu_n _ _ (by omega), fu_s]
end
section
/-! the history is made -/
theorem gS_out {ca : Nat → ClassId} {A b : Nat} (h : b < A ∨ A + 46 ≤ b) : gS ca A (A + 1) 10 12 30 b = none := by
  unfold gS
  rw [if_neg (by omega), if_neg (by omega), if_neg (by omega), if_neg (by omega), if_neg (by omega), if_neg (by omega)]
def gP (ca : Nat → ClassId) (a n0 i : Nat) : Nat → Option va_E := fun b =>
  if b = a then some (.inr (4, (bls 4).set 0 (.ref n0)))
  else if b = n0 then some (.inl (ca 3, 5, .inr (.inr (.inr (.inr (fun q => if q < i then some (n0 + 1 + 46 * q) else none))))))
  else if n0 + 1 ≤ b ∧ b < n0 + 1 + 46 * i then gS ca (n0 + 1 + 46 * ((b - (n0 + 1)) / 46)) (n0 + 1 + 46 * ((b - (n0 + 1)) / 46) + 1) 10 12 30 b
  else none
def rmP : Room := { frames := 3, cells := 231, slots := 1510, locals := 64 }
section CPA
variable {p : Program} {l : Launch} {e : Env} {s : State} {m : MethodId} {args : Array Value} {below : List Frame} {meth : Method} {c : Code} {H : Heap} {locs : List Loc} {cells slots : Nat} {Q : State → Prop} {R : Room}
variable {ls : Array Slot} {Ts : List Cond} {n0 a : Nat} {D : va_G} {ad : DKey → Nat} {ca : Nat → ClassId} {fm : Value} {xs : Nat → Int32} {SL z0 : Nat}
theorem cP_1 (C : Cx p s m args c prog_3_method_1_code 4 Ts D ad ca fm xs SL (fun q => z0 ≤ q)) (hml : c.maxLocals = 2) (hA0 : ∀ q, cA a n0 q → z0 ≤ q) (hne : a < n0) (hn0 : s.heap.size = n0) (hR : R = rmP)
    (kk : ∀ (ls : Array Slot) (H : Heap) (locs : List Loc), BW D (n0 + 231) (gP ca a n0 5) H → va_S (cA a n0) s.heap H locs → W p l e R s m args below meth c H locs 231 1510 Q (F0 m 38 ls [])) :
    ∀ (r i : Nat) (ls : Array Slot) (H : Heap) (locs : List Loc) (cells slots : Nat), i + r = 5 → cells = 1 + 46 * i → slots = 5 + 301 * i → lv_has ls 2 [(1, .int (nI i)), (0, .ref a)] → BW D (n0 + 1 + 46 * i) (gP ca a n0 i) H → va_S (cA a n0) s.heap H locs → W p l e R s m args below meth c H locs cells slots Q (F0 m 14 ls []) := by
  have hAn : ∀ q, s.heap.size ≤ q → cA a n0 q := fun q hq => Or.inr (by omega)
  intro r
  induction r with
  | zero =>
    intro i ls H locs cells slots hi hc hs hlv hB hS
    obtain rfl : i = 5 := hi
    subst hc hs
    refine lv_iload_n (pc := 14) (k := 1) (i := 1) C.1 C.2.1 (by decide +kernel) rfl (lv_at hlv 0 rfl) ?_
    refine lv_iconst (pc := 15) (n := 4) (v := nI 4) C.1 C.2.1 (by decide +kernel) rfl ?_
    refine lv_icmp_gt (pc := 16) (off := 22) (tgt := 38) C.1 C.2.1 (by decide +kernel) rfl (fun _ => kk ls H locs hB hS) (fun q => absurd (nI_lt (by decide) (by decide)) q)
  | succ r ih =>
    intro i ls H locs cells slots hi hc hs hlv hB hS
    have hi10 : i < 5 := by omega
    subst hR
    refine lv_iload_n (pc := 14) (k := 1) (i := 1) C.1 C.2.1 (by decide +kernel) rfl (lv_at hlv 0 rfl) ?_
    refine lv_iconst (pc := 15) (n := 4) (v := nI 4) C.1 C.2.1 (by decide +kernel) rfl ?_
    refine lv_icmp_gt (pc := 16) (off := 22) (tgt := 38) C.1 C.2.1 (by decide +kernel) rfl (fun q => absurd q (nI_nlt (by omega) (by decide))) (fun _ => ?_)
    refine lv_aload_n (pc := 19) (k := 0) (i := 0) (x := a) C.1 C.2.1 (by decide +kernel) rfl (lv_at hlv 1 rfl) ?_
    refine b_get (pc := 20) (idx := 11) (ci := 4) (k := 0) (v := .ref n0) C hB (by decide) (if_pos rfl) (by decide) (dWd_of (i := 168) (by decide +kernel) rfl) rfl (by decide +kernel) ?_
    refine lv_iload_n (pc := 23) (k := 1) (i := 1) C.1 C.2.1 (by decide +kernel) rfl (lv_at hlv 0 rfl) ?_
    refine b_new (pc := 24) (idx := 9) (ci := 0) C hB hS (by decide) (dWd_of (i := 165) (by decide +kernel) rfl) (dWd_of (i := 33) (by decide +kernel) rfl) (dWd_of (i := 18) (by decide +kernel) rfl) (by show cells + 1 ≤ 231; omega) (by show slots + 15 ≤ 1510; omega) (by decide +kernel) fun H1 hB1 hS1 => ?_
    refine lv_dup (pc := 27) C.1 C.2.1 (by decide +kernel) rfl ?_
    refine b_callI (pc := 28) (idx := 17) (a := n0 + 1 + 46 * i) (y := ⟨"DiskDrawer$State", "<init>", "()V"⟩) C hml hlv.1 hB1 hS1 hA0 hAn (Or.inr (by omega)) (fu_s _ _ _) (c_State l) rfl (by decide +kernel) (dWd_of (i := 36) (by decide +kernel) rfl) (dWd_of (i := 18) (by decide +kernel) rfl) (dWd_of (i := 167) (by decide +kernel) rfl) (dWd_of (i := 35) (by decide +kernel) rfl) (by decide) ⟨by show cells + 1 + 45 ≤ 231; omega, by show slots + 15 + 286 ≤ 1510; omega⟩ (by show 3 ≤ 8; decide) (by decide +kernel) fun H2 locs2 hB2 hS2 => ?_
    have hm1 : mix (fu (gP ca a n0 i) (n0 + 1 + 46 * i) (.inr (0, bls 0))) (gS ca (n0 + 1 + 46 * i) (n0 + 1 + 46 * i + 1) 10 12 30) (n0 + 1 + 46 * i) (n0 + 1 + 46 * i + 1) n0 = some (.inl (ca 3, 5, .inr (.inr (.inr (.inr (fun q => if q < i then some (n0 + 1 + 46 * q) else none)))))) := by
      unfold mix
      rw [if_neg (by omega), fu_n _ _ (by omega)]
      unfold gP
      rw [if_neg (by omega), if_pos rfl]
    have hm2 : mix (fu (gP ca a n0 i) (n0 + 1 + 46 * i) (.inr (0, bls 0))) (gS ca (n0 + 1 + 46 * i) (n0 + 1 + 46 * i + 1) 10 12 30) (n0 + 1 + 46 * i) (n0 + 1 + 46 * i + 1) (n0 + 1 + 46 * i) = some (.inr (0, (((bls 0).set 0 (.ref (n0 + 1 + 46 * i + 1))).set 1 (.ref (n0 + 1 + 46 * i + 1 + 1))).set 2 (.ref (n0 + 1 + 46 * i + 1 + 2)))) := by
      unfold mix
      rw [if_pos (Or.inl rfl)]
      unfold gS
      rw [if_pos rfl]
    refine b_aast (pc := 31) (t := 3) (ci := 0) C hB2 hS2 hm1 rfl (by decide) hm2 (Or.inr (by omega)) (i_in hi10 (by decide)) (by decide +kernel) fun H3 locs3 hB3 hS3 => ?_
    refine lv_iinc (pc := 32) (i := 1) (n := 1) (k := 0) (lv' := [(1, .int (nI (i + 1))), (0, .ref a)]) C.1 C.2.1 (by decide +kernel) hlv rfl (nI_up i) (by decide) rfl fun ls' hlv' => ?_
    refine lv_goto (pc := 35) (off := -21) (tgt := 14) C.1 C.2.1 (by decide +kernel) rfl ?_
    have ez : n0 + 1 + 46 * i + 1 + 45 = n0 + 1 + 46 * (i + 1) := by omega
    refine ih (i + 1) ls' H3 locs3 _ _ (by omega) (by show cells + 1 + 45 = _; omega) (by show slots + 15 + 286 = _; omega) hlv' (BW.sub (n := n0 + 1 + 46 * (i + 1)) (ez ▸ hB3) fun b e hb => ?_) hS3
    by_cases q : b = n0
    · subst q
      rw [fu_s]
      unfold gP at hb
      rw [if_neg (by omega), if_pos rfl] at hb
      rw [← hb, i_cl (by omega)]
      congr 8
      funext q
      unfold va_up
      by_cases z : q = i
      · subst z
        rw [if_pos rfl, if_pos (by omega)]
      · rw [if_neg z]
        dsimp only
        by_cases z2 : q < i
        · rw [if_pos z2, if_pos (by omega)]
        · rw [if_neg z2, if_neg (by omega)]
    · rw [fu_n _ _ q]
      by_cases q2 : n0 + 1 + 46 * i ≤ b
      · unfold mix
        rw [if_pos (by omega)]
        unfold gP at hb
        by_cases q3 : b < n0 + 1 + 46 * (i + 1)
        · rw [if_neg (by omega), if_neg q, if_pos ⟨by omega, q3⟩] at hb
          have e1 : (b - (n0 + 1)) / 46 = i := by omega
          rw [e1] at hb
          exact hb
        · rw [if_neg (by omega), if_neg q, if_neg (by omega)] at hb
          cases hb
      · unfold mix
        rw [if_neg (by omega), fu_n _ _ (by omega)]
        unfold gP at hb ⊢
        by_cases z1 : b = a
        · rw [if_pos z1] at hb ⊢; exact hb
        · rw [if_neg z1, if_neg q] at hb ⊢
          by_cases z4 : n0 + 1 ≤ b ∧ b < n0 + 1 + 46 * i
          · rw [if_pos (by omega)] at hb
            rw [if_pos z4]; exact hb
          · rw [if_neg (by omega)] at hb
            cases hb
end CPA
theorem c_Past (l : Launch) {D : va_G} {ad : DKey → Nat} {ca : Nat → ClassId} {fm : Value} {xs : Nat → Int32} {SL z0 a n0 : Nat} : cMet l D ad ca fm xs SL z0 ⟨"DiskDrawer$Past", "<init>", "()V"⟩ prog_3_method_1_code 2 rmP a n0 231 (.inr (4, bls 4)) (gP ca a n0 5) :=
  cMet_of (o := 4) (idx := 3) (by decide) rfl rfl (by decide) (dWd_of (i := 164) (by decide +kernel) rfl) (by decide +kernel) (by decide +kernel) (by decide) (by decide) fun p e s m args below meth c ls C hml hlv hin hr hlk hz hza hB => by
    have hne : a < n0 := hB.lt (a := a) (if_pos rfl)
    have hA0 : ∀ q, cA a n0 q → z0 ≤ q := fun q hq => by
      rcases hq with rfl | hq
      · exact hza
      · omega
    have hA : cA a n0 a := Or.inl rfl
    have hS : va_S (cA a n0) s.heap s.heap [] := va_S.rf
    refine lv_aload_n (pc := 4) (k := 0) (i := 0) (x := a) C.1 C.2.1 (by decide +kernel) rfl (lv_at hlv 0 rfl) ?_
    refine lv_iconst (pc := 5) (n := 5) (v := 5) C.1 C.2.1 (by decide +kernel) rfl ?_
    refine b_newq (pc := 6) (idx := 9) (t := 3) (N := 5) (CN := "DiskDrawer$State") C hB hS rfl C.2.2.2.2.2.2.2.2 (dWd_of (i := 165) (by decide +kernel) rfl) (by decide) (by decide) (by decide) (by decide) (by decide) (by decide +kernel) fun H1 hB1 hS1 => ?_
    refine b_putF (pc := 9) (idx := 11) (ci := 4) (k := 0) (a := a) (fs := bls 4) C hB1 hS1 (by decide) (by rw [fu_n _ _ (by omega)]; exact if_pos rfl) rfl hA (by decide) (dWd_of (i := 168) (by decide +kernel) rfl) rfl hin rfl rfl rfl (by decide +kernel) fun H2 locs2 hB2 hS2 => ?_
    refine lv_iconst (pc := 12) (n := 0) (v := nI 0) C.1 C.2.1 (by decide +kernel) rfl ?_
    refine lv_istore_n (pc := 13) (k := 1) (i := 1) (lv' := [(1, .int (nI 0)), (0, .ref a)]) C.1 C.2.1 (by decide +kernel) rfl hlv (by decide) rfl fun ls1 hlv1 => ?_
    refine cP_1 (n0 := n0) C hml hA0 hne hz rfl (fun ls2 H7 locs7 hB7 hS7 => ?_) 5 0 ls1 H2 locs2 _ _ rfl rfl rfl hlv1 (BW.sub (n := n0 + 1) hB2 fun b e hb => ?_) hS2
    · exact cEnd C hr hlk hB7 hS7 rfl (fun b e h => h) rfl rfl (by decide +kernel)
    · unfold gP at hb
      by_cases z1 : b = a
      · rw [if_pos z1] at hb
        rw [z1, fu_s]
        exact hb
      rw [if_neg z1] at hb
      rw [fu_n _ _ z1]
      by_cases z2 : b = n0
      · rw [if_pos z2] at hb
        rw [z2, fu_s, ← hb]
        congr 8
      rw [if_neg z2, if_neg (by omega)] at hb
      cases hb
end
section
/-! the drawer is made -/
theorem mix_n {f g : Nat → Option va_E} {a n b : Nat} (h : ¬ (b = a ∨ n ≤ b)) : mix f g a n b = f b := if_neg h
theorem mix_s {f g : Nat → Option va_E} {a n b : Nat} (h : b = a ∨ n ≤ b) : mix f g a n b = g b := if_pos h
def oDr (n0 : Nat) : List Value := (((((bls 3).set 0 (.ref n0)).set 1 (.ref (n0 + 46))).set 2 (.ref (n0 + 92))).set 3 (.int 0)).set 4 (.ref (n0 + 138)) |>.set 5 (.ref (n0 + 370))
def gD (ca : Nat → ClassId) (a n0 : Nat) : Nat → Option va_E := fun b =>
  if b = a then some (.inr (3, oDr n0))
  else if n0 ≤ b ∧ b < n0 + 46 then gS ca n0 (n0 + 1) 10 12 30 b
  else if n0 + 46 ≤ b ∧ b < n0 + 92 then gS ca (n0 + 46) (n0 + 46 + 1) 10 12 30 b
  else if n0 + 92 ≤ b ∧ b < n0 + 138 then gS ca (n0 + 92) (n0 + 92 + 1) 10 12 30 b
  else if n0 + 138 ≤ b ∧ b < n0 + 370 then gP ca (n0 + 138) (n0 + 138 + 1) 5 b
  else if n0 + 370 ≤ b ∧ b < n0 + 375 then gProg ca (n0 + 370) (n0 + 370 + 1) b
  else none
def rmW : Room := { frames := 4, cells := 375, slots := 2550, locals := 90 }
theorem c_Draw (l : Launch) {D : va_G} {ad : DKey → Nat} {ca : Nat → ClassId} {fm : Value} {xs : Nat → Int32} {SL z0 a n0 : Nat} : cMet l D ad ca fm xs SL z0 ⟨"DiskDrawer", "<init>", "()V"⟩ prog_1_method_1_code 1 rmW a n0 375 (.inr (3, bls 3)) (gD ca a n0) :=
  cMet_of (o := 3) (idx := 3) (by decide) rfl rfl (by decide) (dWd_of (i := 29) (by decide +kernel) rfl) (by decide +kernel) (by decide +kernel) (by decide) (by decide) fun p e s m args below meth c ls C hml hlv hin hr hlk hz hza hB => by
    have hne : a < n0 := hB.lt (a := a) (if_pos rfl)
    have hA0 : ∀ q, cA a n0 q → z0 ≤ q := fun q hq => by
      rcases hq with rfl | hq
      · exact hza
      · omega
    have hA : cA a n0 a := Or.inl rfl
    have hAn : ∀ q, s.heap.size ≤ q → cA a n0 q := fun q hq => Or.inr (by omega)
    have hS : va_S (cA a n0) s.heap s.heap [] := va_S.rf
    refine lv_aload_n (pc := 4) (k := 0) (i := 0) (x := a) C.1 C.2.1 (by decide +kernel) rfl (lv_at hlv 0 rfl) ?_
    refine b_new (pc := 5) (idx := 9) (ci := 0) C hB hS (by decide) (dWd_of (i := 32) (by decide +kernel) rfl) (dWd_of (i := 33) (by decide +kernel) rfl) (dWd_of (i := 18) (by decide +kernel) rfl) (by decide) (by decide) (by decide +kernel) fun H0a hB0a hS0a => ?_
    refine lv_dup (pc := 8) C.1 C.2.1 (by decide +kernel) rfl ?_
    refine b_callI (pc := 9) (idx := 11) (a := n0) (y := ⟨"DiskDrawer$State", "<init>", "()V"⟩) C hml hlv.1 hB0a hS0a hA0 hAn (Or.inr (by omega)) (fu_s _ _ _) (c_State l) rfl (by decide +kernel) (dWd_of (i := 36) (by decide +kernel) rfl) (dWd_of (i := 18) (by decide +kernel) rfl) (dWd_of (i := 34) (by decide +kernel) rfl) (dWd_of (i := 35) (by decide +kernel) rfl) (by decide) (by decide) (by show 2 ≤ 8; decide) (by decide +kernel) fun H0b locs0b hB0b hS0b => ?_
    have hB0c : BW D (n0 + 46) _ H0b := ⟨hB0b.1.trans (by omega), hB0b.2⟩
    refine b_putF (pc := 12) (idx := 12) (ci := 3) (k := 0) (a := a) (fs := bls 3) C hB0c hS0b (by decide) (by rw [mix_n (by omega), fu_n _ _ (by omega)]; exact if_pos rfl) rfl hA (by decide) (dWd_of (i := 203) (by decide +kernel) rfl) rfl hin rfl rfl rfl (by decide +kernel) fun H0d locs0d hB0d hS0d => ?_
    refine lv_aload_n (pc := 15) (k := 0) (i := 0) (x := a) C.1 C.2.1 (by decide +kernel) rfl (lv_at hlv 0 rfl) ?_
    refine b_new (pc := 16) (idx := 9) (ci := 0) C hB0d hS0d (by decide) (dWd_of (i := 32) (by decide +kernel) rfl) (dWd_of (i := 33) (by decide +kernel) rfl) (dWd_of (i := 18) (by decide +kernel) rfl) (by decide) (by decide) (by decide +kernel) fun H1a hB1a hS1a => ?_
    refine lv_dup (pc := 19) C.1 C.2.1 (by decide +kernel) rfl ?_
    refine b_callI (pc := 20) (idx := 11) (a := (n0 + 46)) (y := ⟨"DiskDrawer$State", "<init>", "()V"⟩) C hml hlv.1 hB1a hS1a hA0 hAn (Or.inr (by omega)) (fu_s _ _ _) (c_State l) rfl (by decide +kernel) (dWd_of (i := 36) (by decide +kernel) rfl) (dWd_of (i := 18) (by decide +kernel) rfl) (dWd_of (i := 34) (by decide +kernel) rfl) (dWd_of (i := 35) (by decide +kernel) rfl) (by decide) (by decide) (by show 2 ≤ 8; decide) (by decide +kernel) fun H1b locs1b hB1b hS1b => ?_
    have hB1c : BW D (n0 + 92) _ H1b := ⟨hB1b.1.trans (by omega), hB1b.2⟩
    refine b_putF (pc := 23) (idx := 16) (ci := 3) (k := 1) (a := a) (fs := (bls 3).set 0 (.ref n0)) C hB1c hS1b (by decide) (by rw [mix_n (by omega), fu_n _ _ (by omega)]; exact fu_s _ _ _) rfl hA (by decide) (dWd_of (i := 204) (by decide +kernel) rfl) rfl hin rfl rfl rfl (by decide +kernel) fun H1d locs1d hB1d hS1d => ?_
    refine lv_aload_n (pc := 26) (k := 0) (i := 0) (x := a) C.1 C.2.1 (by decide +kernel) rfl (lv_at hlv 0 rfl) ?_
    refine b_new (pc := 27) (idx := 9) (ci := 0) C hB1d hS1d (by decide) (dWd_of (i := 32) (by decide +kernel) rfl) (dWd_of (i := 33) (by decide +kernel) rfl) (dWd_of (i := 18) (by decide +kernel) rfl) (by decide) (by decide) (by decide +kernel) fun H2a hB2a hS2a => ?_
    refine lv_dup (pc := 30) C.1 C.2.1 (by decide +kernel) rfl ?_
    refine b_callI (pc := 31) (idx := 11) (a := (n0 + 92)) (y := ⟨"DiskDrawer$State", "<init>", "()V"⟩) C hml hlv.1 hB2a hS2a hA0 hAn (Or.inr (by omega)) (fu_s _ _ _) (c_State l) rfl (by decide +kernel) (dWd_of (i := 36) (by decide +kernel) rfl) (dWd_of (i := 18) (by decide +kernel) rfl) (dWd_of (i := 34) (by decide +kernel) rfl) (dWd_of (i := 35) (by decide +kernel) rfl) (by decide) (by decide) (by show 2 ≤ 8; decide) (by decide +kernel) fun H2b locs2b hB2b hS2b => ?_
    have hB2c : BW D (n0 + 138) _ H2b := ⟨hB2b.1.trans (by omega), hB2b.2⟩
    refine b_putF (pc := 34) (idx := 19) (ci := 3) (k := 2) (a := a) (fs := ((bls 3).set 0 (.ref n0)).set 1 (.ref (n0 + 46))) C hB2c hS2b (by decide) (by rw [mix_n (by omega), fu_n _ _ (by omega)]; exact fu_s _ _ _) rfl hA (by decide) (dWd_of (i := 205) (by decide +kernel) rfl) rfl hin rfl rfl rfl (by decide +kernel) fun H2d locs2d hB2d hS2d => ?_
    refine lv_aload_n (pc := 37) (k := 0) (i := 0) (x := a) C.1 C.2.1 (by decide +kernel) rfl (lv_at hlv 0 rfl) ?_
    refine lv_iconst (pc := 38) (n := 0) (v := 0) C.1 C.2.1 (by decide +kernel) rfl ?_
    refine b_putZ (pc := 39) (idx := 22) (ci := 3) (k := 3) (a := a) (fs := (((bls 3).set 0 (.ref n0)).set 1 (.ref (n0 + 46))).set 2 (.ref (n0 + 92))) C hB2d hS2d (by decide) (fu_s _ _ _) rfl hA (by decide) (dWd_of (i := 206) (by decide +kernel) rfl) rfl rfl rfl (by decide +kernel) fun Hz locsz hBz hSz => ?_
    refine lv_aload_n (pc := 42) (k := 0) (i := 0) (x := a) C.1 C.2.1 (by decide +kernel) rfl (lv_at hlv 0 rfl) ?_
    refine b_new (pc := 43) (idx := 26) (ci := 4) C hBz hSz (by decide) (dWd_of (i := 159) (by decide +kernel) rfl) (dWd_of (i := 160) (by decide +kernel) rfl) (dWd_of (i := 21) (by decide +kernel) rfl) (by decide) (by decide) (by decide +kernel) fun H4a hB4a hS4a => ?_
    refine lv_dup (pc := 46) C.1 C.2.1 (by decide +kernel) rfl ?_
    refine b_callI (pc := 47) (idx := 28) (a := (n0 + 138)) (y := ⟨"DiskDrawer$Past", "<init>", "()V"⟩) C hml hlv.1 hB4a hS4a hA0 hAn (Or.inr (by omega)) (fu_s _ _ _) (c_Past l) rfl (by decide +kernel) (dWd_of (i := 163) (by decide +kernel) rfl) (dWd_of (i := 21) (by decide +kernel) rfl) (dWd_of (i := 161) (by decide +kernel) rfl) (dWd_of (i := 162) (by decide +kernel) rfl) (by decide) (by decide) (by show 2 ≤ 8; decide) (by decide +kernel) fun H4b locs4b hB4b hS4b => ?_
    have hB4c : BW D (n0 + 370) _ H4b := ⟨hB4b.1.trans (by omega), hB4b.2⟩
    refine b_putF (pc := 50) (idx := 29) (ci := 3) (k := 4) (a := a) (fs := ((((bls 3).set 0 (.ref n0)).set 1 (.ref (n0 + 46))).set 2 (.ref (n0 + 92))).set 3 (.int 0)) C hB4c hS4b (by decide) (by rw [mix_n (by omega), fu_n _ _ (by omega)]; exact fu_s _ _ _) rfl hA (by decide) (dWd_of (i := 207) (by decide +kernel) rfl) rfl hin rfl rfl rfl (by decide +kernel) fun H4d locs4d hB4d hS4d => ?_
    refine lv_aload_n (pc := 53) (k := 0) (i := 0) (x := a) C.1 C.2.1 (by decide +kernel) rfl (lv_at hlv 0 rfl) ?_
    refine b_new (pc := 54) (idx := 33) (ci := 5) C hB4d hS4d (by decide) (dWd_of (i := 176) (by decide +kernel) rfl) (dWd_of (i := 177) (by decide +kernel) rfl) (dWd_of (i := 22) (by decide +kernel) rfl) (by decide) (by decide) (by decide +kernel) fun H5a hB5a hS5a => ?_
    refine lv_dup (pc := 57) C.1 C.2.1 (by decide +kernel) rfl ?_
    refine b_callN (pc := 58) (idx := 35) (a := (n0 + 370)) (y := ⟨"DiskDrawer$Program", "<init>", "()V"⟩) C hml hlv.1 hB5a hS5a hA0 hAn (Or.inr (by omega)) (fu_s _ _ _) (c_Prog l) rfl (by decide +kernel) (dWd_of (i := 180) (by decide +kernel) rfl) (dWd_of (i := 22) (by decide +kernel) rfl) (List.mem_filter.mpr ⟨List.mem_of_getElem? (i := 178) (by decide +kernel), rfl⟩) (dWd_of (i := 179) (by decide +kernel) rfl) (by decide) (by decide) (by show 2 ≤ 8; decide) (by decide +kernel) fun H5b locs5b hB5b hS5b => ?_
    have hB5c : BW D (n0 + 375) _ H5b := ⟨hB5b.1.trans (by omega), hB5b.2⟩
    refine b_putF (pc := 61) (idx := 36) (ci := 3) (k := 5) (a := a) (fs := (((((bls 3).set 0 (.ref n0)).set 1 (.ref (n0 + 46))).set 2 (.ref (n0 + 92))).set 3 (.int 0)).set 4 (.ref (n0 + 138))) C hB5c hS5b (by decide) (by rw [mix_n (by omega), fu_n _ _ (by omega)]; exact fu_s _ _ _) rfl hA (by decide) (dWd_of (i := 208) (by decide +kernel) rfl) rfl hin rfl rfl rfl (by decide +kernel) fun H5d locs5d hB5d hS5d => ?_
    refine cEnd C hr hlk hB5d hS5d rfl (fun b e h => ?_) rfl rfl (by decide +kernel)
    unfold gD at h
    by_cases z : b = a
    · rw [if_pos z] at h
      rw [z, fu_s]
      exact h
    rw [if_neg z] at h
    rw [fu_n _ _ z]
    by_cases z0 : n0 + 0 ≤ b ∧ b < n0 + 46
    · rw [if_pos (by omega)] at h
      rw [mix_n (by omega), fu_n _ _ (by omega), fu_n _ _ z, mix_n (by omega), fu_n _ _ (by omega), fu_n _ _ z, fu_n _ _ z, mix_n (by omega), fu_n _ _ (by omega), fu_n _ _ z, mix_n (by omega), fu_n _ _ (by omega), fu_n _ _ z, mix_s (by omega)]
      exact h
    rw [if_neg (by omega)] at h
    by_cases z1 : n0 + 46 ≤ b ∧ b < n0 + 92
    · rw [if_pos (by omega)] at h
      rw [mix_n (by omega), fu_n _ _ (by omega), fu_n _ _ z, mix_n (by omega), fu_n _ _ (by omega), fu_n _ _ z, fu_n _ _ z, mix_n (by omega), fu_n _ _ (by omega), fu_n _ _ z, mix_s (by omega)]
      exact h
    rw [if_neg (by omega)] at h
    by_cases z2 : n0 + 92 ≤ b ∧ b < n0 + 138
    · rw [if_pos (by omega)] at h
      rw [mix_n (by omega), fu_n _ _ (by omega), fu_n _ _ z, mix_n (by omega), fu_n _ _ (by omega), fu_n _ _ z, fu_n _ _ z, mix_s (by omega)]
      exact h
    rw [if_neg (by omega)] at h
    by_cases z3 : n0 + 138 ≤ b ∧ b < n0 + 370
    · rw [if_pos (by omega)] at h
      rw [mix_n (by omega), fu_n _ _ (by omega), fu_n _ _ z, mix_s (by omega)]
      exact h
    rw [if_neg (by omega)] at h
    by_cases z4 : n0 + 370 ≤ b ∧ b < n0 + 375
    · rw [if_pos (by omega)] at h
      rw [mix_s (by omega)]
      exact h
    rw [if_neg (by omega)] at h
    cases h
end
section
/-! what holds at the law's entry -/
theorem av_int {args : Array Value} {s : State} {ty : FieldType} (h : (Cond.arrayClass ty).before args s = true) : ∃ cA : ClassId, ArrOfT s cA ty ∧ s.vm.findClass ("[" ++ ty.toString) = some cA := by
  obtain ⟨cA, kA, comp, h1, h2, h3⟩ := Cond.arrayClass_spec h
  exact ⟨cA, fun n z => ⟨fun k h => (by cases h), kA, h2, comp, h3⟩, h1⟩
theorem av_obj {args : Array Value} {s : State} {C : String} (h : (Cond.arrayOver (.object C)).before args s = true) : ∃ cA : ClassId, ArrOfT s cA (.object C) ∧ va_RA s cA (.object C) := by
  obtain ⟨comp, c, k, h1, h2, h3, h4, h5⟩ := Cond.arrayOver_spec h
  exact ⟨c, fun n z => ⟨fun k h => (by cases h), k, h3, comp, h4⟩, k, comp, h3, h4, h1, h5⟩
theorem mem_lw {i : Nat} {w : Cond} (h : lw_tbl[i]? = some w) : w ∈ lw_tbl := List.mem_of_getElem? h
def dgv : List Cond := flatC (Jvm.Cond.and given_1 narrow_1)
theorem gv_1 : ∀ w, w < 3 → (Cond.arrayOf (.static "DiskDrawer" (dsn w) "[I") .int) ∈ dgv ∧ (Cond.eq (.length (.static "DiskDrawer" (dsn w) "[I")) (.int (Int32.ofNat 10))) ∈ dgv := by decide +kernel
theorem gv_2 : ∀ w, w < 3 → ∀ j, j < 10 → (Cond.eq (.elem (.static "DiskDrawer" (dsn w) "[I") (.int (Int32.ofNat j))) (.int (dcst w j))) ∈ dgv := by decide +kernel
theorem gv_3 : ∀ w, w < 3 → (Cond.laysStatic "DiskDrawer" (dsn w) "[I") ∈ lw_tbl := by decide +kernel
theorem gv_10 : ∀ ci, ci < 6 → (Cond.instantiable (don ci) (dnf ci)) ∈ lw_tbl := by decide +kernel
theorem env0 {args : Array Value} {s : State} {b L : Nat} {xs : Nat → Int32} (hts : ∀ w ∈ lw_tbl, w.before args s = true) (hgv : (Jvm.Cond.and given_1 narrow_1).before args s = true) (hX : va_X b L xs s s.heap) (hbl : b < s.heap.size) :
    ∃ (D : va_G) (ca : Nat → ClassId) (T : Nat → Nat), dAO s ∧ ∀ ad : DKey → Nat, (∀ w, ad (32, w, 0) = T w) → ad (34, 0, 0) = b → dEnv D ad ca .null xs L (fun q => s.heap.size ≤ q) s := by
  have hs : ∀ w ∈ dgv, w.before args s = true := flat_of_before _ hgv
  have hA : ∀ a : Nat, a < s.heap.size → ¬ s.heap.size ≤ a := fun a h => by omega
  have kn : ∀ ci : Nat, ∃ q : ClassId × (Nat → Nat), ci < 6 → u_Kn s (don ci) (dTX ci) (dnf ci) q.1 q.2 := by
    intro ci
    by_cases hci : ci < 6
    · obtain ⟨cC, iS, h⟩ := u_known hts (fun w hw => (dWd_good w (duw hci w hw)).1) (hts _ (gv_10 ci hci))
      exact ⟨(cC, iS), fun _ => h⟩
    · exact ⟨(0, fun _ => 0), fun h => absurd h hci⟩
  obtain ⟨fD, hD⟩ := Classical.axiomOfChoice kn
  obtain ⟨c0, a0, b0⟩ := av_int (hts (.arrayClass .int) (mem_lw (i := 79) (by decide +kernel)))
  obtain ⟨c4, a4, b4⟩ := av_int (hts (.arrayClass .char) (mem_lw (i := 202) (by decide +kernel)))
  have o1 := hts (.arrayOver (.object "DiskDrawer$Disk")) (mem_lw (i := 39) (by decide +kernel))
  have o2 := hts (.arrayOver (.object "DiskDrawer$Read")) (mem_lw (i := 41) (by decide +kernel))
  have o3 := hts (.arrayOver (.object "DiskDrawer$State")) (mem_lw (i := 166) (by decide +kernel))
  obtain ⟨c1, a1, b1⟩ := av_obj o1
  obtain ⟨c2, a2, b2⟩ := av_obj o2
  obtain ⟨c3, a3, b3⟩ := av_obj o3
  have st : ∀ w : Nat, ∃ t : Nat, w < 3 → va_Z "DiskDrawer" (dsn w) "[I" (.ref t) (fun q => s.heap.size ≤ q) s s.heap ∧ va_T .int t 10 (fun j => .int (dcst w j)) (fun q => s.heap.size ≤ q) s s.heap := by
    intro w
    by_cases hw : w < 3
    · obtain ⟨t, ht, hT⟩ := va_Tof (args := args) (f := fun j => .int (dcst w j)) (A := fun q => s.heap.size ≤ q) (by decide) (hs _ (gv_1 w hw).1) (va_eqt (hs _ (gv_1 w hw).2)) (fun j hj => va_eqt (hs _ (gv_2 w hw j hj))) hA
      exact ⟨t, fun _ => ⟨va_Zref (hts _ (gv_3 w hw)) (hts (.initialized "DiskDrawer") (mem_lw (i := 17) (by decide +kernel))) ht hA, hT⟩⟩
    · exact ⟨0, fun h => absurd h hw⟩
  obtain ⟨T, hT⟩ := Classical.axiomOfChoice st
  refine ⟨(fun c => (fD c).1, fun c => (fD c).2), (fun t => match t with | 0 => c0 | 1 => c1 | 2 => c2 | 3 => c3 | _ => c4), T, ⟨va_AO.of o1, va_AO.of o2, va_AO.of o3⟩, fun ad e32 e34 => ⟨⟨fun c q hq => ?_, fun k q hk => ?_⟩, fun w hw => ?_, fun w hw => ?_, ?_, ?_, ?_⟩⟩
  · have hc : c < 6 := (List.getElem?_eq_some_iff.mp hq).1
    cases hq.symm.trans (dcl_at hc)
    exact hD c hc
  · match k, hk with
    | 0, hk => cases hk; exact ⟨a0, b0⟩
    | 1, hk => cases hk; exact ⟨a1, b1⟩
    | 2, hk => cases hk; exact ⟨a2, b2⟩
    | 3, hk => cases hk; exact ⟨a3, b3⟩
    | 4, hk => cases hk; exact ⟨a4, b4⟩
    | k + 5, hk => cases hk
  · have h1 := hts _ (List.mem_filter.mp hw).1
    rcases dNest_cases hw with ⟨_, _, _, _, _, _, rfl⟩ | ⟨_, _, _, _, rfl⟩
    · exact va_Nw.of rfl h1
    · exact va_Nw.of rfl h1
  · rw [e32]
    exact hT w hw
  · rw [e34]; exact hX
  · rw [e34]; exact hbl
  · rw [e34]; exact hA b hbl
end
section
/-! where everything lies, and the first abstract state -/
def stO (i : Nat) : Nat := if i < 3 then 1 + 46 * i else 141 + 46 * (i - 3)
def off (κ : DKey) : Nat := if κ.1 ≤ 3 then stO κ.2.1 + κ.1 else if κ.1 = 4 then stO κ.2.1 + 4 + κ.2.2 else if κ.1 = 5 then stO κ.2.1 + 16 + κ.2.2 else if κ.1 = 6 then 0 else if κ.1 = 7 then 139 else if κ.1 = 8 then 140 else κ.1 + 362
def decS (i r : Nat) : DKey := if r < 4 then (r, i, 0) else if r < 16 then (4, i, r - 4) else (5, i, r - 16)
def dec (n : Nat) : DKey := if n = 0 then (6, 0, 0) else if n < 139 then decS ((n - 1) / 46) ((n - 1) % 46) else if n = 139 then (7, 0, 0) else if n = 140 then (8, 0, 0) else if n < 371 then decS (3 + (n - 141) / 46) ((n - 141) % 46) else (n - 362, 0, 0)
def adA (z : Nat) (T : Nat → Nat) (b : Nat) (κ : DKey) : Nat := if κ.1 < 14 then z + off κ else if κ.1 = 32 then T κ.2.1 else if κ.1 = 34 then b else 0
theorem adA_35 (z : Nat) (T : Nat → Nat) (b : Nat) : adA z T b (35, 0, 0) = 0 := rfl
theorem adA_36 (z : Nat) (T : Nat → Nat) (b : Nat) : adA z T b (36, 0, 0) = 0 := rfl
theorem okK_lt3 {z : Nat} {T : Nat → Nat} {b k i j : Nat} (h : okK (adA z T b) (k, i, j) = true) : k < 14 ∧ i < 8 ∧ j < 30 ∧ okK (fun _ => 0) (k, i, j) = true := by
  rcases okK_lt h with h1 | h1 | h1
  · have h1 : k < 14 := h1
    have e : okK (fun _ => 0) (k, i, j) = okK (adA z T b) (k, i, j) := by
      match k, h1 with
      | 0, _ => rfl
      | 1, _ => rfl
      | 2, _ => rfl
      | 3, _ => rfl
      | 4, _ => rfl
      | 5, _ => rfl
      | 6, _ => rfl
      | 7, _ => rfl
      | 8, _ => rfl
      | 9, _ => rfl
      | 10, _ => rfl
      | 11, _ => rfl
      | 12, _ => rfl
      | 13, _ => rfl
    refine ⟨h1, ?_, ?_, e.trans h⟩
    · match k, h1, h with
      | 0, _, h => have h' : (decide (i < 8) && decide (j = 0)) = true := h; simp at h'; omega
      | 1, _, h => have h' : (decide (i < 8) && decide (j = 0)) = true := h; simp at h'; omega
      | 2, _, h => have h' : (decide (i < 8) && decide (j = 0)) = true := h; simp at h'; omega
      | 3, _, h => have h' : (decide (i < 8) && decide (j = 0)) = true := h; simp at h'; omega
      | 4, _, h => have h' : (decide (i < 8) && decide (j < 12)) = true := h; simp at h'; omega
      | 5, _, h => have h' : (decide (i < 8) && decide (j < 30)) = true := h; simp at h'; omega
      | 6, _, h => have h' : (true && true && decide (i = 0) && decide (j = 0)) = true := h; simp at h'; omega
      | 7, _, h => have h' : (true && true && decide (i = 0) && decide (j = 0)) = true := h; simp at h'; omega
      | 8, _, h => have h' : (true && true && decide (i = 0) && decide (j = 0)) = true := h; simp at h'; omega
      | 9, _, h => have h' : (true && true && decide (i = 0) && decide (j = 0)) = true := h; simp at h'; omega
      | 10, _, h => have h' : (true && true && decide (i = 0) && decide (j = 0)) = true := h; simp at h'; omega
      | 11, _, h => have h' : (true && true && decide (i = 0) && decide (j = 0)) = true := h; simp at h'; omega
      | 12, _, h => have h' : (true && true && decide (i = 0) && decide (j = 0)) = true := h; simp at h'; omega
      | 13, _, h => have h' : (true && true && decide (i = 0) && decide (j = 0)) = true := h; simp at h'; omega
    · match k, h1, h with
      | 0, _, h => have h' : (decide (i < 8) && decide (j = 0)) = true := h; simp at h'; omega
      | 1, _, h => have h' : (decide (i < 8) && decide (j = 0)) = true := h; simp at h'; omega
      | 2, _, h => have h' : (decide (i < 8) && decide (j = 0)) = true := h; simp at h'; omega
      | 3, _, h => have h' : (decide (i < 8) && decide (j = 0)) = true := h; simp at h'; omega
      | 4, _, h => have h' : (decide (i < 8) && decide (j < 12)) = true := h; simp at h'; omega
      | 5, _, h => have h' : (decide (i < 8) && decide (j < 30)) = true := h; simp at h'; omega
      | 6, _, h => have h' : (true && true && decide (i = 0) && decide (j = 0)) = true := h; simp at h'; omega
      | 7, _, h => have h' : (true && true && decide (i = 0) && decide (j = 0)) = true := h; simp at h'; omega
      | 8, _, h => have h' : (true && true && decide (i = 0) && decide (j = 0)) = true := h; simp at h'; omega
      | 9, _, h => have h' : (true && true && decide (i = 0) && decide (j = 0)) = true := h; simp at h'; omega
      | 10, _, h => have h' : (true && true && decide (i = 0) && decide (j = 0)) = true := h; simp at h'; omega
      | 11, _, h => have h' : (true && true && decide (i = 0) && decide (j = 0)) = true := h; simp at h'; omega
      | 12, _, h => have h' : (true && true && decide (i = 0) && decide (j = 0)) = true := h; simp at h'; omega
      | 13, _, h => have h' : (true && true && decide (i = 0) && decide (j = 0)) = true := h; simp at h'; omega
  · exfalso
    have h1 : k = 35 := h1
    subst h1
    have h' : (decide (adA z T b (35, 0, 0) ≠ 0) && decide (i = 0) && decide (j = 0)) = true := h
    rw [adA_35] at h'
    simp at h'
  · exfalso
    have h1 : k = 36 := h1
    subst h1
    have h' : (decide (adA z T b (36, 0, 0) ≠ 0) && decide (i = 0) && decide (j = 0)) = true := h
    rw [adA_36] at h'
    simp at h'
theorem dec_all : ((List.range 14).all fun k => (List.range 8).all fun i => (List.range 30).all fun j => !okK (fun _ => 0) (k, i, j) || decide (dec (off (k, i, j)) = (k, i, j))) = true := by decide +kernel
theorem dec_off {z : Nat} {T : Nat → Nat} {b : Nat} {κ : DKey} (h : okK (adA z T b) κ = true) : dec (off κ) = κ := by
  obtain ⟨k, i, j⟩ := κ
  obtain ⟨h1, h2, h3, h4⟩ := okK_lt3 h
  have := List.all_eq_true.mp (List.all_eq_true.mp (List.all_eq_true.mp dec_all k (List.mem_range.mpr h1)) i (List.mem_range.mpr h2)) j (List.mem_range.mpr h3)
  rw [h4] at this
  simpa using this
theorem adA_ok {z : Nat} {T : Nat → Nat} {b : Nat} {κ : DKey} (h : okK (adA z T b) κ = true) : adA z T b κ = z + off κ := by
  obtain ⟨k, i, j⟩ := κ
  exact if_pos (okK_lt3 h).1
theorem adA_inj {z : Nat} {T : Nat → Nat} {b : Nat} : dInj (adA z T b) := fun κ κ' h h' e => by
  rw [adA_ok h, adA_ok h'] at e
  rw [← dec_off h, ← dec_off h', Nat.add_left_cancel e]
def num0 : Nat → Int32 := fun q => if q < 10 then dcst 0 q else 0
def h0 (xs : Nat → Int32) (SL : Nat) : DH := (fun κ => if κ.1 = 1 then num0 else if κ.1 = 34 then xs else fun _ => 0, fun κ => if κ.1 = 3 then fun p => p else if κ.1 = 8 then fun j => j + 3 else if κ.1 = 34 then fun _ => SL else fun _ => 0)
theorem arrV_cg {cA : ClassId} {N : Nat} {f g : Nat → Value} (h : ∀ j, j < N → f j = g j) : arrV cA N f = arrV cA N g := by
  unfold arrV
  congr 1
  apply Array.ext
  · simp
  · intro i h1 h2
    simp at h1 h2 ⊢
    exact h i h1
theorem at_i {D : va_G} {a : Nat} {cA : ClassId} {N : Nat} {f g : Nat → Int32} {H : Heap} (h : va_at D dclasses (a, .inl (cA, N, .inl f)) H) (e : ∀ j, j < N → f j = g j) : va_at D dclasses (a, .inl (cA, N, .inl g)) H := by
  have h1 : H[a]? = some (vp_cell cA (N, .inl f)) := h
  show H[a]? = some (vp_cell cA (N, .inl g))
  rw [h1, vp_cell_i, vp_cell_i]
  exact congrArg some (arrV_cg fun j hj => by rw [e j hj])
theorem at_q {D : va_G} {a : Nat} {cA : ClassId} {N : Nat} {f g : Nat → Option Nat} {H : Heap} (h : va_at D dclasses (a, .inl (cA, N, .inr (.inr (.inr (.inr f))))) H) (e : ∀ j, j < N → f j = g j) : va_at D dclasses (a, .inl (cA, N, .inr (.inr (.inr (.inr g))))) H := by
  have h1 : H[a]? = some (vp_cell cA (N, .inr (.inr (.inr (.inr f))))) := h
  show H[a]? = some (vp_cell cA (N, .inr (.inr (.inr (.inr g)))))
  rw [h1, vp_cell_q, vp_cell_q]
  exact congrArg some (arrV_cg fun j hj => by rw [e j hj])
theorem pmi_0 (xs : Nat → Int32) (SL i : Nat) : WF (h0 xs SL) i := ⟨fun k k' _ _ e => e, fun p hp => hp⟩
theorem XR_0 (xs : Nat → Int32) (SL : Nat) : XR (h0 xs SL) 0 (num0) := by
  have ez : ∀ n, 10 ≤ n → num0 n = 0 := fun n hn => if_neg (by omega)
  have eD : ∀ e w, num0 (oD e w) = 0 := fun e w => ez _ (by unfold oD; omega)
  refine ⟨⟨0, ⟨fun n _ => rfl, fun k hk hk2 => ?_, fun d _ f _ => ?_⟩, rfl, by decide, ez 93 (by decide), rfl, (pmi_0 xs SL 0).1, (pmi_0 xs SL 0).2, fun e _ => rfl, ⟨⟨6, by decide, by decide, by show num0 0 = nI 6; decide⟩, ⟨90, by decide, by show num0 5 = nI 90; decide⟩, ⟨10, by decide, by show num0 6 = nI 10; decide⟩, ⟨3, by decide, by show num0 7 = nI 3; decide⟩, Or.inl (ez 15 (by decide))⟩, fun e _ => ?_, fun r hr => by cases hr⟩, ?_, ⟨0, by decide, ez 12 (by decide)⟩, ⟨0, by decide, ez 10 (by decide)⟩, ?_⟩
  · rw [ez _ (ms_lt k).1]; rfl
  · rw [eD]; rfl
  · unfold DInv
    rw [eD, eD, eD, eD, eD]
    exact ⟨⟨0, by decide, rfl⟩, fun q => absurd q (by decide), fun _ => rfl, fun _ => rfl, fun _ => ⟨0, by decide, rfl⟩, Or.inl rfl⟩
  · intro q
    rw [ez 15 (by decide)] at q
    exact absurd q (by decide)
  · have hv : ∀ w, w < 10 → ¬ dcst 0 w < dcst 1 w ∧ ¬ dcst 2 w < dcst 0 w := by decide +kernel
    intro w hw
    have e : num0 w = dcst 0 w := if_pos hw
    rw [e]
    exact hv w hw
theorem QI_0 : QI 0 num0 := by
  have ez : ∀ n, 10 ≤ n → num0 n = 0 := fun n hn => if_neg (by omega)
  have eD : ∀ e w, num0 (oD e w) = 0 := fun e w => ez _ (by unfold oD; omega)
  have ecc : cc num0 = 0 := by unfold cc; rw [ez 93 (by decide)]; rfl
  have eL : LM num0 (cc num0) = [] := by rw [ecc]; rfl
  refine ⟨ez 10 (by decide), by decide, fun e _ h => ?_, ?_, ?_, ⟨0, 0, 0, ez 12 (by decide), ez 13 (by decide), ez 14 (by decide), by rw [ecc]; decide, by decide⟩, ⟨fun _ => 0, 0, 0, fun e _ => eD e 5, by decide, ?_, ez 18 (by decide), ez 19 (by decide), by decide⟩, ⟨0, 0, by decide, ez 13 (by decide), ez 20 (by decide), by decide⟩, ?_⟩
  · rw [eD] at h
    exact absurd h (by decide)
  · rw [eL]
    exact ⟨List.Pairwise.nil, fun r hr => (by cases hr)⟩
  · rw [eL]
    exact fun r hr => (by cases hr)
  · rw [nS_cg (g := fun _ => 0) 12 (fun e _ => by unfold isS; rw [eD, if_neg (by decide)])]
    decide
  · rw [ez 11 (by decide)]
    decide
theorem PR_0 (xs : Nat → Int32) (SL : Nat) : PR (h0 xs SL) num0 [] := by
  refine ⟨⟨XR_0 xs SL, 0, QI_0⟩, pmi_0 xs SL 1, by decide, rfl, fun j hj => ⟨?_, ?_, pmi_0 xs SL _⟩, fun j k _ _ e => ?_, fun j r hj => (by cases hj)⟩
  · show 3 ≤ j + 3
    omega
  · show j + 3 < 8
    omega
  · have e2 : j + 3 = k + 3 := e
    omega
end
section
/-! the first picture: every object where the layout says -/
def gF (ca : Nat → ClassId) (z : Nat) : Nat → Option va_E := fun b => if b < z + 376 then (if z ≤ b then gD ca z (z + 1) b else none) else none
theorem gF_D {ca : Nat → ClassId} {z b : Nat} (h1 : z ≤ b) (h2 : b < z + 376) : gF ca z b = gD ca z (z + 1) b := (if_pos h2).trans (if_pos h1)
theorem gF_G {ca : Nat → ClassId} {z b : Nat} (h1 : z + 371 ≤ b) (h2 : b < z + 376) : gF ca z b = gProg ca (z + 1 + 370) (z + 1 + 370 + 1) b := by
  rw [gF_D (by omega) h2]
  unfold gD
  rw [if_neg (by omega), if_neg (by omega), if_neg (by omega), if_neg (by omega), if_neg (by omega), if_pos (by omega)]
theorem gF_P {ca : Nat → ClassId} {z b : Nat} (h1 : z + 139 ≤ b) (h2 : b < z + 371) : gF ca z b = gP ca (z + 1 + 138) (z + 1 + 138 + 1) 5 b := by
  rw [gF_D (by omega) (by omega)]
  unfold gD
  rw [if_neg (by omega), if_neg (by omega), if_neg (by omega), if_neg (by omega), if_pos (by omega)]
theorem gF_S {ca : Nat → ClassId} {z i r : Nat} (hi : i < 8) (hr : r < 46) : gF ca z (z + stO i + r) = gS ca (z + stO i) (z + stO i + 1) 10 12 30 (z + stO i + r) := by
  by_cases h3 : i < 3
  · have hs : stO i = 1 + 46 * i := if_pos h3
    have e2 : i = 0 ∨ i = 1 ∨ i = 2 := by omega
    rw [gF_D (by omega) (by omega)]
    unfold gD
    rw [if_neg (by omega)]
    rcases e2 with e | e | e
    · have e3 : z + 1 = z + stO i := by omega
      rw [if_pos (by omega), e3]
    · have e3 : z + 1 + 46 = z + stO i := by omega
      rw [if_neg (by omega), if_pos (by omega), e3]
    · have e3 : z + 1 + 92 = z + stO i := by omega
      rw [if_neg (by omega), if_neg (by omega), if_pos (by omega), e3]
  · have hs : stO i = 141 + 46 * (i - 3) := if_neg h3
    rw [gF_P (by omega) (by omega)]
    unfold gP
    rw [if_neg (by omega), if_neg (by omega), if_pos (by omega)]
    have e3 : z + 1 + 138 + 1 + 1 + 46 * ((z + stO i + r - (z + 1 + 138 + 1 + 1)) / 46) = z + stO i := by omega
    rw [e3]
theorem at_0 {D : va_G} {ca : Nat → ClassId} {z : Nat} {T : Nat → Nat} {b : Nat} {xs : Nat → Int32} {SL : Nat} {H : Heap} (hB : BW D (z + 376) (gF ca z) H) : ∀ k i j, okK (adA z T b) (k, i, j) = true → va_at D dclasses (adA z T b (k, i, j), dent (adA z T b) ca (k, i, j) ((h0 xs SL).1 (k, i, j)) ((h0 xs SL).2 (k, i, j))) H := by
  intro k i j h
  match k, h with
  | 0, h =>
    have h' : (decide (i < 8) && decide (j = 0)) = true := h
    simp at h'
    obtain ⟨hi, rfl⟩ := h'
    have hc : gF ca z (z + stO i) = some (.inr (0, (((bls 0).set 0 (.ref (z + stO i + 1))).set 1 (.ref (z + stO i + 1 + 1))).set 2 (.ref (z + stO i + 1 + 2)))) := (gF_S (r := 0) hi (by decide)).trans (if_pos rfl)
    exact hB.2 _ _ hc
  | 1, h =>
    have h' : (decide (i < 8) && decide (j = 0)) = true := h
    simp at h'
    obtain ⟨hi, rfl⟩ := h'
    have hc : gF ca z (z + stO i + 1) = some (.inl (ca 0, 10, .inl (fun q => if q < 10 then dcst 0 q else 0))) := by
      rw [gF_S (r := 1) hi (by decide)]
      unfold gS
      rw [if_neg (by omega), if_pos rfl]
    exact at_i (hB.2 _ _ hc) (fun j hj => rfl)
  | 2, h =>
    have h' : (decide (i < 8) && decide (j = 0)) = true := h
    simp at h'
    obtain ⟨hi, rfl⟩ := h'
    have hc : gF ca z (z + stO i + 2) = some (.inl (ca 1, 12, .inr (.inr (.inr (.inr (fun q => if q < 12 then some (z + stO i + 1 + 3 + q) else none)))))) := by
      rw [gF_S (r := 2) hi (by decide)]
      unfold gS
      rw [if_neg (by omega), if_neg (by omega), if_pos rfl]
    refine at_q (g := fun j => some (z + (stO i + 4 + j))) (hB.2 _ _ hc) (fun j hj => ?_)
    rw [if_pos hj]
    congr 1
    omega
  | 3, h =>
    have h' : (decide (i < 8) && decide (j = 0)) = true := h
    simp at h'
    obtain ⟨hi, rfl⟩ := h'
    have hc : gF ca z (z + stO i + 3) = some (.inl (ca 2, 30, .inr (.inr (.inr (.inr (fun q => if q < 30 then some (z + stO i + 1 + 15 + q) else none)))))) := by
      rw [gF_S (r := 3) hi (by decide)]
      unfold gS
      rw [if_neg (by omega), if_neg (by omega), if_neg (by omega), if_pos rfl]
    refine at_q (g := fun j => some (z + (stO i + 16 + j))) (hB.2 _ _ hc) (fun j hj => ?_)
    rw [if_pos hj]
    congr 1
    omega
  | 4, h =>
    have h' : (decide (i < 8) && decide (j < 12)) = true := h
    simp at h'
    obtain ⟨hi, hj⟩ := h'
    have hc : gF ca z (z + stO i + (4 + j)) = some (.inr (1, bls 1)) := by
      rw [gF_S (r := 4 + j) hi (by omega)]
      unfold gS
      rw [if_neg (by omega), if_neg (by omega), if_neg (by omega), if_neg (by omega), if_pos (by omega)]
    have ea : adA z T b (4, i, j) = z + stO i + (4 + j) := by
      show z + (stO i + 4 + j) = _
      omega
    rw [ea]
    exact hB.2 _ _ hc
  | 5, h =>
    have h' : (decide (i < 8) && decide (j < 30)) = true := h
    simp at h'
    obtain ⟨hi, hj⟩ := h'
    have hc : gF ca z (z + stO i + (16 + j)) = some (.inr (2, bls 2)) := by
      rw [gF_S (r := 16 + j) hi (by omega)]
      unfold gS
      rw [if_neg (by omega), if_neg (by omega), if_neg (by omega), if_neg (by omega), if_neg (by omega), if_pos (by omega)]
    have ea : adA z T b (5, i, j) = z + stO i + (16 + j) := by
      show z + (stO i + 16 + j) = _
      omega
    rw [ea]
    exact hB.2 _ _ hc
  | 6, h =>
    have h' : (decide (5 < 6) && decide (6 < 14) && decide (i = 0) && decide (j = 0)) = true := h
    simp at h'
    obtain ⟨rfl, rfl⟩ := h'
    have hc : gF ca z z = some (.inr (3, oDr (z + 1))) := (gF_D (Nat.le_refl _) (by omega)).trans (if_pos rfl)
    exact hB.2 _ _ hc
  | 7, h =>
    have h' : (decide (5 < 7) && decide (7 < 14) && decide (i = 0) && decide (j = 0)) = true := h
    simp at h'
    obtain ⟨rfl, rfl⟩ := h'
    have hc : gF ca z (z + 139) = some (.inr (4, (bls 4).set 0 (.ref (z + 1 + 138 + 1)))) := by
      rw [gF_P (by omega) (by omega)]
      unfold gP
      rw [if_pos (by omega)]
    exact hB.2 _ _ hc
  | 8, h =>
    have h' : (decide (5 < 8) && decide (8 < 14) && decide (i = 0) && decide (j = 0)) = true := h
    simp at h'
    obtain ⟨rfl, rfl⟩ := h'
    have hc : gF ca z (z + 140) = some (.inl (ca 3, 5, .inr (.inr (.inr (.inr (fun q => if q < 5 then some (z + 1 + 138 + 1 + 1 + 46 * q) else none)))))) := by
      rw [gF_P (by omega) (by omega)]
      unfold gP
      rw [if_neg (by omega), if_pos (by omega)]
    refine at_q (g := fun j => some (z + (stO (j + 3) + 0))) (hB.2 _ _ hc) (fun j hj => ?_)
    have hs : stO (j + 3) = 141 + 46 * (j + 3 - 3) := if_neg (by omega)
    rw [if_pos hj]
    congr 1
    omega
  | 9, h =>
    have h' : (decide (5 < 9) && decide (9 < 14) && decide (i = 0) && decide (j = 0)) = true := h
    simp at h'
    obtain ⟨rfl, rfl⟩ := h'
    have hc := (gF_G (ca := ca) (z := z) (b := z + 1 + 370) (by omega) (by omega)).trans (gProg_0 (by omega))
    exact hB.2 _ _ hc
  | 10, h =>
    have h' : (decide (5 < 10) && decide (10 < 14) && decide (i = 0) && decide (j = 0)) = true := h
    simp at h'
    obtain ⟨rfl, rfl⟩ := h'
    have hc := (gF_G (ca := ca) (z := z) (b := z + 1 + 370 + 1) (by omega) (by omega)).trans (gProg_1 (by omega))
    exact hB.2 _ _ hc
  | 11, h =>
    have h' : (decide (5 < 11) && decide (11 < 14) && decide (i = 0) && decide (j = 0)) = true := h
    simp at h'
    obtain ⟨rfl, rfl⟩ := h'
    have hc := (gF_G (ca := ca) (z := z) (b := z + 1 + 370 + 1 + 1) (by omega) (by omega)).trans (gProg_2 (by omega))
    exact hB.2 _ _ hc
  | 12, h =>
    have h' : (decide (5 < 12) && decide (12 < 14) && decide (i = 0) && decide (j = 0)) = true := h
    simp at h'
    obtain ⟨rfl, rfl⟩ := h'
    have hc := (gF_G (ca := ca) (z := z) (b := z + 1 + 370 + 1 + 2) (by omega) (by omega)).trans (gProg_3 (by omega))
    exact hB.2 _ _ hc
  | 13, h =>
    have h' : (decide (5 < 13) && decide (13 < 14) && decide (i = 0) && decide (j = 0)) = true := h
    simp at h'
    obtain ⟨rfl, rfl⟩ := h'
    have hc := (gF_G (ca := ca) (z := z) (b := z + 1 + 370 + 1 + 3) (by omega) (by omega)).trans (gProg_4 (by omega))
    exact hB.2 _ _ hc
  | n + 14, h => exact absurd (okK_lt3 h).1 (by omega)
theorem dSim_0 {D : va_G} {ca : Nat → ClassId} {z : Nat} {T : Nat → Nat} {b : Nat} {xs : Nat → Int32} {SL : Nat} {H : Heap} (hB : BW D (z + 376) (gF ca z) H) : dSim D (adA z T b) ca xs SL (h0 xs SL) H :=
  ⟨fun κ hκ => at_0 hB κ.1 κ.2.1 κ.2.2 hκ, fun i j _ hj => hj, fun j hj => (by show j + 3 < 8; omega), rfl, rfl⟩
end
section
/-! the two methods of the law that make an array: one key more for a while -/
def adW (ad : DKey → Nat) (κ0 : DKey) (a : Nat) : DKey → Nat := fun κ => if κ = κ0 then a else ad κ
def isL (κ0 : DKey) : Prop := κ0 = (35, 0, 0) ∨ κ0 = (36, 0, 0)
theorem isL.ge {κ0 : DKey} (h : isL κ0) : 35 ≤ κ0.1 ∧ κ0.1 ≤ 36 := by rcases h with rfl | rfl <;> decide
theorem adW_n {ad : DKey → Nat} {κ κ0 : DKey} {a : Nat} (hne : κ ≠ κ0) : adW ad κ0 a κ = ad κ := if_neg hne
theorem adW_s {ad : DKey → Nat} {κ0 : DKey} {a : Nat} : adW ad κ0 a κ0 = a := if_pos rfl
theorem okK_lo {ad ad' : DKey → Nat} {k i j : Nat} (h : k < 14) : okK ad (k, i, j) = okK ad' (k, i, j) := by
  match k, h with
  | 0, _ => rfl
  | 1, _ => rfl
  | 2, _ => rfl
  | 3, _ => rfl
  | 4, _ => rfl
  | 5, _ => rfl
  | 6, _ => rfl
  | 7, _ => rfl
  | 8, _ => rfl
  | 9, _ => rfl
  | 10, _ => rfl
  | 11, _ => rfl
  | 12, _ => rfl
  | 13, _ => rfl
theorem okK_35 {ad ad' : DKey → Nat} {i j : Nat} (h : ad (35, 0, 0) = ad' (35, 0, 0)) : okK ad (35, i, j) = okK ad' (35, i, j) := by
  show (decide (ad (35, 0, 0) ≠ 0) && decide (i = 0) && decide (j = 0)) = (decide (ad' (35, 0, 0) ≠ 0) && decide (i = 0) && decide (j = 0))
  rw [h]
theorem okK_36 {ad ad' : DKey → Nat} {i j : Nat} (h : ad (36, 0, 0) = ad' (36, 0, 0)) : okK ad (36, i, j) = okK ad' (36, i, j) := by
  show (decide (ad (36, 0, 0) ≠ 0) && decide (i = 0) && decide (j = 0)) = (decide (ad' (36, 0, 0) ≠ 0) && decide (i = 0) && decide (j = 0))
  rw [h]
theorem okK_ij {ad : DKey → Nat} {k i j : Nat} (h : okK ad (k, i, j) = true) (hk : k = 35 ∨ k = 36) : i = 0 ∧ j = 0 ∧ ad (k, 0, 0) ≠ 0 := by
  rcases hk with rfl | rfl
  · have h' : (decide (ad (35, 0, 0) ≠ 0) && decide (i = 0) && decide (j = 0)) = true := h
    simp only [Bool.and_eq_true, decide_eq_true_eq] at h'
    exact ⟨h'.1.2, h'.2, h'.1.1⟩
  · have h' : (decide (ad (36, 0, 0) ≠ 0) && decide (i = 0) && decide (j = 0)) = true := h
    simp only [Bool.and_eq_true, decide_eq_true_eq] at h'
    exact ⟨h'.1.2, h'.2, h'.1.1⟩
theorem okK_W {ad : DKey → Nat} {κ κ0 : DKey} {a : Nat} (h : okK (adW ad κ0 a) κ = true) : κ = κ0 ∨ (κ ≠ κ0 ∧ okK ad κ = true) := by
  by_cases z : κ = κ0
  · exact Or.inl z
  · refine Or.inr ⟨z, ?_⟩
    obtain ⟨k, i, j⟩ := κ
    rcases okK_lt h with h1 | h1 | h1
    · rw [okK_lo (ad' := adW ad κ0 a) h1]; exact h
    · have h1 : k = 35 := h1
      subst h1
      obtain ⟨rfl, rfl, -⟩ := okK_ij h (Or.inl rfl)
      rw [← okK_35 (adW_n z)]; exact h
    · have h1 : k = 36 := h1
      subst h1
      obtain ⟨rfl, rfl, -⟩ := okK_ij h (Or.inr rfl)
      rw [← okK_36 (adW_n z)]; exact h
theorem okK_W2 {ad : DKey → Nat} {κ κ0 : DKey} {a : Nat} (hL : isL κ0) (h0 : ad κ0 = 0) (h : okK ad κ = true) : κ ≠ κ0 ∧ okK (adW ad κ0 a) κ = true := by
  obtain ⟨k, i, j⟩ := κ
  have hne : (k, i, j) ≠ κ0 := by
    intro e
    subst e
    have hk : k = 35 ∨ k = 36 := by have := hL.ge; dsimp only at this; omega
    obtain ⟨rfl, rfl, h3⟩ := okK_ij h hk
    exact h3 h0
  refine ⟨hne, ?_⟩
  rcases okK_lt h with h1 | h1 | h1
  · rw [okK_lo (ad' := ad) h1]; exact h
  · have h1 : k = 35 := h1
    subst h1
    obtain ⟨rfl, rfl, -⟩ := okK_ij h (Or.inl rfl)
    rw [okK_35 (adW_n hne)]; exact h
  · have h1 : k = 36 := h1
    subst h1
    obtain ⟨rfl, rfl, -⟩ := okK_ij h (Or.inr rfl)
    rw [okK_36 (adW_n hne)]; exact h
theorem okK_W0 {ad : DKey → Nat} {κ0 : DKey} {a : Nat} (hL : isL κ0) (ha : a ≠ 0) : okK (adW ad κ0 a) κ0 = true := by
  rcases hL with rfl | rfl
  · show (decide (adW ad (35, 0, 0) a (35, 0, 0) ≠ 0) && decide (0 = 0) && decide (0 = 0)) = true
    rw [adW_s]
    simp [ha]
  · show (decide (adW ad (36, 0, 0) a (36, 0, 0) ≠ 0) && decide (0 = 0) && decide (0 = 0)) = true
    rw [adW_s]
    simp [ha]
theorem drk_lt {κ w : DKey} {p j : Nat} (h : drk κ p j = some w) : w.1 < 14 := by
  unfold drk at h
  split at h <;> first | (cases h; simp; done) | cases h
theorem dref_lt {κ w : DKey} {k : Nat} (h : dref κ k = some (.inr w)) : w.1 < 14 := by
  obtain ⟨kd, i, j⟩ := κ
  unfold dref at h
  dsimp only at h
  split at h
  · cases h
  · rename_i t m e
    have ht : t < 14 := by
      unfold drefT at e
      split at e <;> first | (cases e; decide) | cases e
    split at h <;> cases h <;> exact ht
theorem ne_L {κ0 w : DKey} (hL : isL κ0) (h : w.1 < 14) : w ≠ κ0 := fun e => by
  have := hL.ge
  rw [← e] at this
  omega
theorem dent_W {ad : DKey → Nat} {ca : Nat → ClassId} {κ κ0 : DKey} {a : Nat} (hL : isL κ0) (f : Nat → Int32) (g : Nat → Nat) : dent (adW ad κ0 a) ca κ f g = dent ad ca κ f g := by
  have h1 : (fun j => (drk κ (g j) j).map (adW ad κ0 a)) = fun j => (drk κ (g j) j).map ad := by
    funext j
    cases h : drk κ (g j) j with
    | none => rfl
    | some w => exact congrArg some (adW_n (ne_L hL (drk_lt h)))
  have h2 : dfields (adW ad κ0 a) κ f = dfields ad κ f := by
    unfold dfields
    refine List.map_congr_left (fun k _ => ?_)
    cases h : dref κ k with
    | none => rfl
    | some w =>
      cases w with
      | inl x => rfl
      | inr w =>
        show (if w.1 = 33 then Value.null else .ref (adW ad κ0 a w)) = if w.1 = 33 then Value.null else .ref (ad w)
        rw [adW_n (ne_L hL (dref_lt h))]
  unfold dent
  rw [h1, h2]
theorem darr_L {κ0 : DKey} (hL : isL κ0) : darr κ0 = some (0, if κ0 = (35, 0, 0) then 4 else 12) := by
  rcases hL with rfl | rfl <;> rfl
section NEW
variable {D : va_G} {ad : DKey → Nat} {ca : Nat → ClassId} {fm : Value} {xs : Nat → Int32} {SL : Nat} {h h' : DH} {H H1 : Heap} {κ0 : DKey} {a N : Nat} {A : Nat → Prop} {U : State}
theorem dSim.lt (hS : dSim D ad ca xs SL h H) {κ : DKey} (hκ : okK ad κ = true) : ad κ < H.size := (do_P hS hκ 0 _ rfl).lt
theorem dSim.new (hS : dSim D ad ca xs SL h H) (hL : isL κ0) (hN : N = if κ0 = (35, 0, 0) then 4 else 12) (ha : H.size = a) (hn : H1[a]? = some (vp_cell (ca 0) (N, .inl (fun _ => 0)))) (o : ∀ q, q < a → H1[q]? = H[q]?) : dSim D (adW ad κ0 a) ca xs SL (ub h κ0 (fun _ => 0)) H1 := by
  have hge := hL.ge
  have b1 : ∀ κ : DKey, κ.1 < 35 → (ub h κ0 (fun _ => 0)).1 κ = h.1 κ := fun κ hκ => ub_n h _ (fun e => by rw [e] at hκ; omega)
  refine ⟨fun κ hκ => ?_, hS.2.1, hS.2.2.1, (b1 _ (by decide)).trans hS.2.2.2.1, hS.2.2.2.2⟩
  rcases okK_W hκ with rfl | ⟨z, hk⟩
  · rw [adW_s, dent_W hL, ub_s, dent_int (darr_L hL) (Or.inl rfl), ← hN]
    exact hn
  · rw [adW_n z, dent_W hL, ub_n h _ z]
    exact (hS.1 κ hk).kept (o _ (by rw [← ha]; exact hS.lt hk))
theorem dSim.drop (hS : dSim D (adW ad κ0 a) ca xs SL h' H) (hL : isL κ0) (h0 : ad κ0 = 0) (e : ∀ κ, κ ≠ κ0 → h'.1 κ = h.1 κ ∧ h'.2 κ = h.2 κ) : dSim D ad ca xs SL h H := by
  have hge := hL.ge
  have ne : ∀ κ : DKey, κ.1 < 35 → κ ≠ κ0 := fun κ hκ e => by rw [e] at hκ; omega
  refine ⟨fun κ hκ => ?_, fun i j hi hj => ?_, fun j hj => ?_, ?_, ?_⟩
  · obtain ⟨z, hk⟩ := okK_W2 (a := a) hL h0 hκ
    have := hS.1 κ hk
    rw [adW_n z, dent_W hL, (e κ z).1, (e κ z).2] at this
    exact this
  · rw [← (e (3, i, 0) (ne _ (show 3 < 35 by decide))).2]; exact hS.2.1 i j hi hj
  · rw [← (e (8, 0, 0) (ne _ (by decide))).2]; exact hS.2.2.1 j hj
  · rw [← (e (34, 0, 0) (ne _ (by decide))).1]; exact hS.2.2.2.1
  · rw [← (e (34, 0, 0) (ne _ (by decide))).2]; exact hS.2.2.2.2
theorem dInj.new (hi : dInj ad) (hlt : ∀ κ, okK ad κ = true → ad κ < a) : dInj (adW ad κ0 a) := by
  intro κ κ' h1 h2 e
  rcases okK_W h1 with rfl | ⟨z, hk⟩
  · rcases okK_W h2 with rfl | ⟨z', hk'⟩
    · rfl
    · rw [adW_s, adW_n z'] at e
      have := hlt κ' hk'
      omega
  · rcases okK_W h2 with rfl | ⟨z', hk'⟩
    · rw [adW_s, adW_n z] at e
      have := hlt κ hk
      omega
    · rw [adW_n z, adW_n z'] at e
      exact hi κ κ' hk hk' e
theorem dEnv.new (hE : dEnv D ad ca fm xs SL A U) (hL : isL κ0) : dEnv D (adW ad κ0 a) ca fm xs SL A U := by
  have hge := hL.ge
  have ne : ∀ κ : DKey, κ.1 < 35 → adW ad κ0 a κ = ad κ := fun κ hκ => adW_n (fun e => by rw [e] at hκ; omega)
  obtain ⟨h1, h2, h3, h8, h9, h10⟩ := hE
  refine ⟨h1, h2, fun w hw => ?_, ?_, ?_, ?_⟩
  · rw [ne (32, w, 0) (show 32 < 35 by decide)]; exact h3 w hw
  · rw [ne (34, 0, 0) (by decide)]; exact h8
  · rw [ne (34, 0, 0) (by decide)]; exact h9
  · rw [ne (34, 0, 0) (by decide)]; exact h10
end NEW
def nSet (ad : DKey → Nat) (n0 : Nat) : Nat → Prop := fun q => dAm ad q ∨ n0 ≤ q
def nPre (D : va_G) (ad : DKey → Nat) (ca : Nat → ClassId) (fm : Value) (xs : Nat → Int32) (SL : Nat) (h : DH) (n0 : Nat) : Array Value → State → Prop := va_Pc [.ref (ad (6, 0, 0))] (fun U => U.heap.size = n0 ∧ dEnv D ad ca fm xs SL (nSet ad n0) U ∧ dAO U ∧ dSim D ad ca xs SL h U.heap)
def nPost (D : va_G) (ad : DKey → Nat) (ca : Nat → ClassId) (xs : Nat → Int32) (SL : Nat) (h : DH) (n0 : Nat) : Array Value → State → Outcome → State → Prop := fun _ st oc t => oc = .returned (some (.int 1)) ∧ dSim D ad ca xs SL h t.heap ∧ va_F (nSet ad n0) st t
def rmN (k : Nat) : Room := { frames := 7, cells := 1, slots := k, locals := 280 }
def nMet (l : Launch) (D : va_G) (ad : DKey → Nat) (ca : Nat → ClassId) (fm : Value) (xs : Nat → Int32) (SL : Nat) (h : DH) (n0 k : Nat) (y : MethodName) (bytes : ByteArray) (maxL : Nat) : Prop := Met l y (Cond.code y bytes maxL (some .boolean) :: dWd) (rmN k) (nPre D ad ca fm xs SL h n0) (nPost D ad ca xs SL h n0) 1 k (nSet ad n0)
theorem nPre_blind {D : va_G} {ad : DKey → Nat} {ca : Nat → ClassId} {fm : Value} {xs : Nat → Int32} {SL n0 : Nat} {h : DH} : FrameBlind (nPre D ad ca fm xs SL h n0) := fun _ U _ _ q => ⟨q.1, q.2.1, dEnv.same (u := U) rfl rfl q.2.2.1, dAO.moved (u := U) (Vm.Alike.refl U.vm) q.2.2.2.1, q.2.2.2.2⟩
section NMET
variable {p : Program} {l : Launch} {e : Env} {R : Room} {s : State} {m : MethodId} {args : Array Value} {below : List Frame} {meth : Method} {c : Code} {H : Heap} {locs : List Loc} {cells slots : Nat} {Q : State → Prop}
variable {cc : ByteArray} {pc : Nat} {ls : Array Slot} {rest : List Value} {Ts : List Cond} {o idx n nL : Nat} {A A0 : Nat → Prop}
variable {D : va_G} {ad : DKey → Nat} {ca : Nat → ClassId} {fm : Value} {xs : Nat → Int32} {SL : Nat} {h : DH}
theorem n_newa (C : Cx p s m args c cc o Ts D ad ca fm xs SL A0) (hz : H.size = n) (hS : va_S A s.heap H locs) {N : Nat} {x : Int32} (hw : Cond.arrayClass .int ∈ dWd) (hx : ¬ x < 0) (hN : x.toNatClampNeg = N) (hN2 : N ≤ 1000) (hcells : cells + 1 ≤ R.cells) (hslots : slots + N ≤ R.slots) (hdg : decode cc pc = .ok (.newarray .int, 2))
    (kk : ∀ H1 : Heap, H1[n]? = some (vp_cell (ca 0) (N, .inl (fun _ => 0))) → (∀ q, q < n → H1[q]? = H[q]?) → va_S A s.heap H1 locs → W p l e R s m args below meth c H1 locs (cells + 1) (slots + N) Q (F0 m (pc + 2) ls (.ref n :: rest))) : W p l e R s m args below meth c H locs cells slots Q (F0 m pc ls (.int x :: rest)) := by
  have hty := C.2.2.2.2.2.1.1.2
  have hb : N * componentBytes (newarray.typeOf .int) ≤ 536870912 := Nat.le_trans (Nat.mul_le_mul_right _ hN2) (by decide)
  refine va_newaK C.1 C.2.1 (C.ok (show Cond.arrayClass (newarray.typeOf .int) ∈ dWd from hw)) rfl hdg rfl hx hN hb hcells hslots hz fun H1 cA e1 z1 o1 hAr hNm => ?_
  have eA : cA = ca 0 := Option.some.inj (hNm.symm.trans (hty 0 (ca 0, .int) rfl).2)
  refine kk H1 ?_ o1 ⟨Nat.le_trans hS.1 (by rw [z1, hz]; omega), fun q h1 h2 => (o1 q (by have := hS.1; rw [hz] at this; omega)).trans (hS.2.1 q h1 h2), hS.2.2⟩
  rw [e1, eA]
  rfl
end NMET
end
section
/-! the contracts of areDisksSo and areReadsSo over the machine, and how the law calls them -/
theorem nSet_W {ad : DKey → Nat} {κ0 : DKey} {n0 : Nat} : ∀ κ, okK (adW ad κ0 n0) κ = true → nSet ad n0 (adW ad κ0 n0 κ) := by
  intro κ hκ
  rcases okK_W hκ with rfl | ⟨z, hk⟩
  · rw [adW_s]; exact Or.inr (Nat.le_refl _)
  · rw [adW_n z]; exact Or.inl ⟨κ, hk, rfl⟩
theorem n_okL (ad : DKey → Nat) (κ0 : DKey) (v : DV) (L : List (Option DV)) (h : ∀ w ∈ L, ∀ x, w = some x → okV ad x = true) : dOkL ad L := by
  induction L with
  | nil => intro k v hk; cases hk
  | cons a L ih =>
    intro k v hk
    cases k with
    | zero => cases hk; exact h _ List.mem_cons_self _ rfl
    | succ k => exact ih (fun w hw => h w (List.mem_cons_of_mem _ hw)) k v hk
theorem n_disks (l : Launch) {D : va_G} {ad : DKey → Nat} {ca : Nat → ClassId} {fm : Value} {xs : Nat → Int32} {SL n0 : Nat} {h : DH} {s0 : Nat → Int32} {l0 : List (Nat → Int32)} (hi : dInj ad) (hf : dFm fm) (h0 : ad (35, 0, 0) = 0) (hP : PR h s0 l0) : nMet l D ad ca fm xs SL h n0 4 ⟨"DiskDrawerLaw", "areDisksSo", "(LDiskDrawer;)Z"⟩ method_7_code 8 := by
  unfold nMet
  refine Met.ofW (cc := method_7_code) (maxL := 8) (ret := some .boolean) (by decide) rfl ?_
  intro p e s m args below meth c s₁ B hml hv
  obtain ⟨rfl, hz, hE, hAO, hS⟩ := hv
  have hr := B.returns
  have hts := atoms_spec (ws := Cond.code ⟨"DiskDrawerLaw", "areDisksSo", "(LDiskDrawer;)Z"⟩ method_7_code 8 (some .boolean) :: dWd) B.pre
  have hown : s.vm.findClass (don 11) = some m.cls := findClass_of_methodNamed B.named
  have hlocks := B.notSynchronized
  have C : Cx p s m [Value.ref (ad (6, 0, 0))].toArray c method_7_code 11 (Cond.code ⟨"DiskDrawerLaw", "areDisksSo", "(LDiskDrawer;)Z"⟩ method_7_code 8 (some .boolean) :: dWd) D ad ca fm xs SL (nSet ad n0) := ⟨B.exec, B.bytes, hown, hts, dWd_cons _, hE, hAO⟩
  have hlv := lv_entry [Value.ref (ad (6, 0, 0))] (n := 8) (by show 1 ≤ 8; decide)
  rw [lg_entry_eq]
  generalize (lg_sl [Value.ref (ad (6, 0, 0))] ++ List.replicate (8 - (lg_sl [Value.ref (ad (6, 0, 0))]).length) Slot.unset).toArray = ls at hlv ⊢
  have hlv2 : lv_has ls 8 [(0, .ref (ad (6, 0, 0)))] := hlv
  have hlt : ∀ κ, okK ad κ = true → ad κ < n0 := fun κ hκ => by rw [← hz]; exact hS.lt hκ
  have hn0 : n0 ≠ 0 := fun t => by have := hlt (6, 0, 0) rfl; omega
  refine lv_iconst (pc := 0) (n := 0) (v := 0) C.1 C.2.1 (by decide +kernel) rfl ?_
  refine lv_istore_n (pc := 1) (k := 1) (i := 1) (lv' := [(1, .int 0), (0, .ref (ad (6, 0, 0)))]) C.1 C.2.1 (by decide +kernel) rfl hlv2 (by decide) rfl fun ls1 hlv3 => ?_
  refine lv_iconst (pc := 2) (n := 0) (v := 0) C.1 C.2.1 (by decide +kernel) rfl ?_
  refine lv_istore_n (pc := 3) (k := 2) (i := 2) (lv' := [(2, .int 0), (1, .int 0), (0, .ref (ad (6, 0, 0)))]) C.1 C.2.1 (by decide +kernel) rfl hlv3 (by decide) rfl fun ls2 hlv4 => ?_
  refine lv_iconst (pc := 4) (n := 0) (v := 0) C.1 C.2.1 (by decide +kernel) rfl ?_
  refine lv_istore_n (pc := 5) (k := 3) (i := 3) (lv' := [(3, .int 0), (2, .int 0), (1, .int 0), (0, .ref (ad (6, 0, 0)))]) C.1 C.2.1 (by decide +kernel) rfl hlv4 (by decide) rfl fun ls3 hlv5 => ?_
  refine lv_iconst (pc := 6) (n := 4) (v := 4) C.1 C.2.1 (by decide +kernel) rfl ?_
  refine n_newa (pc := 7) (n := n0) (N := 4) C hz (va_S.rf (A := nSet ad n0)) (dWd_of (i := 79) (by decide +kernel) rfl) (by decide) (by decide) (by decide) (by decide) (by decide) (by decide +kernel) fun H1 hn o1 hS1 => ?_
  refine lv_astore (pc := 9) (i := 4) (lv' := [(4, .ref n0), (3, .int 0), (2, .int 0), (1, .int 0), (0, .ref (ad (6, 0, 0)))]) C.1 C.2.1 (by decide +kernel) hlv5 (by decide) rfl fun ls4 hlv6 => ?_
  have hL : isL (35, 0, 0) := Or.inl rfl
  have hD := hS.new (N := 4) hL rfl hz hn o1
  have hi' : dInj (adW ad (35, 0, 0) n0) := hi.new hlt
  obtain ⟨nn, hrun⟩ := l_disks 0 hP (g0 := fun _ => 0) (fun _ _ => rfl)
  have hloc : dLoc (adW ad (35, 0, 0) n0) fm [some (.inr (6, 0, 0)), some (.inl 0), some (.inl 0), some (.inl 0), some (.inr (35, 0, 0)), none, none, none] 8 ls4 := lv_sub hlv6 [4, 3, 2, 1, 0] rfl
  have hok : dOkL (adW ad (35, 0, 0) n0) [some (.inr (6, 0, 0)), some (.inl 0), some (.inl 0), some (.inl 0), some (.inr (35, 0, 0)), none, none, none] := by
    intro k v hk
    match k, hk with
    | 0, hk => cases hk; rfl
    | 1, hk => cases hk; rfl
    | 2, hk => cases hk; rfl
    | 3, hk => cases hk; rfl
    | 4, hk =>
      cases hk
      show (okK (adW ad (35, 0, 0) n0) (35, 0, 0) || _) = true
      rw [okK_W0 hL hn0]
      rfl
    | 5, hk => cases hk
    | 6, hk => cases hk
    | 7, hk => cases hk
    | k + 8, hk => cases hk
  refine d_sound (ad := adW ad (35, 0, 0) n0) (A := nSet ad n0) (Ts := Cond.code ⟨"DiskDrawerLaw", "areDisksSo", "(LDiskDrawer;)Z"⟩ method_7_code 8 (some .boolean) :: dWd) (d := 6) (o := 11) (rt := some .boolean) (cc := method_7_code) (T := dT_disks) (nL := 8) (K := dEnd dT_disks (some (.inl 1), ub h (35, 0, 0) (gk s0 (fun _ => 0) 12))) B.exec B.bytes hml hown hts (dWd_cons _) (hE.new hL) nSet_W hi' hf ⟨by decide, by decide, by decide, by decide⟩ dg_disks.1 dg_disks.2 (fun mid as h r q => d_met l hi' hf 6 mid as h r q) ?_ nn 11 _ [] _ hrun H1 [] ls4 rfl hok (fun _ h => by cases h) hloc hD hS1
  intro pc L st h4 H4 locs4 ls5 hK hLl hLo hst hLc hS4 hS5
  obtain ⟨G, hg, g⟩ := hK
  cases hop : dop dT_disks pc with
  | none => simp only [dfin, hop] at hg; cases hg
  | some q =>
  obtain ⟨i, len, hd, he⟩ := dchk_at dg_disks.1 hop
  obtain ⟨k, a1, b1, nx, v, ts⟩ := q
  obtain ⟨r36, r37, r42⟩ := denc_ret he
  simp only [dfin, hop] at hg
  split at hg
  · rename_i z; cases z
    obtain ⟨rfl, rfl, e3⟩ := r36 rfl
    cases e3
  · rename_i z; cases z
    split at hg
    · cases hg
    · cases hg
  · rename_i z; cases z
    obtain ⟨rfl, rfl, e3⟩ := r42 rfl
    split at hg
    · cases hg
      exact W.zret B.exec B.bytes (by rw [hr]) (by rfl) (fun t ht hW => ⟨rfl, by rw [ht]; exact hS4.drop hL h0 (fun κ z => ⟨ub_n h _ z, rfl⟩), hS5.F ht⟩) hS5.2.2 hd
    · cases hg
  · cases hg
theorem n_reads (l : Launch) {D : va_G} {ad : DKey → Nat} {ca : Nat → ClassId} {fm : Value} {xs : Nat → Int32} {SL n0 : Nat} {h : DH} {s0 : Nat → Int32} {l0 : List (Nat → Int32)} (hi : dInj ad) (hf : dFm fm) (h0 : ad (36, 0, 0) = 0) (hP : PR h s0 l0) : nMet l D ad ca fm xs SL h n0 12 ⟨"DiskDrawerLaw", "areReadsSo", "(LDiskDrawer;)Z"⟩ method_8_code 7 := by
  unfold nMet
  refine Met.ofW (cc := method_8_code) (maxL := 7) (ret := some .boolean) (by decide) rfl ?_
  intro p e s m args below meth c s₁ B hml hv
  obtain ⟨rfl, hz, hE, hAO, hS⟩ := hv
  have hr := B.returns
  have hts := atoms_spec (ws := Cond.code ⟨"DiskDrawerLaw", "areReadsSo", "(LDiskDrawer;)Z"⟩ method_8_code 7 (some .boolean) :: dWd) B.pre
  have hown : s.vm.findClass (don 11) = some m.cls := findClass_of_methodNamed B.named
  have hlocks := B.notSynchronized
  have C : Cx p s m [Value.ref (ad (6, 0, 0))].toArray c method_8_code 11 (Cond.code ⟨"DiskDrawerLaw", "areReadsSo", "(LDiskDrawer;)Z"⟩ method_8_code 7 (some .boolean) :: dWd) D ad ca fm xs SL (nSet ad n0) := ⟨B.exec, B.bytes, hown, hts, dWd_cons _, hE, hAO⟩
  have hlv := lv_entry [Value.ref (ad (6, 0, 0))] (n := 7) (by show 1 ≤ 7; decide)
  rw [lg_entry_eq]
  generalize (lg_sl [Value.ref (ad (6, 0, 0))] ++ List.replicate (7 - (lg_sl [Value.ref (ad (6, 0, 0))]).length) Slot.unset).toArray = ls at hlv ⊢
  have hlv2 : lv_has ls 7 [(0, .ref (ad (6, 0, 0)))] := hlv
  have hlt : ∀ κ, okK ad κ = true → ad κ < n0 := fun κ hκ => by rw [← hz]; exact hS.lt hκ
  have hn0 : n0 ≠ 0 := fun t => by have := hlt (6, 0, 0) rfl; omega
  refine lv_iconst (pc := 0) (n := 0) (v := 0) C.1 C.2.1 (by decide +kernel) rfl ?_
  refine lv_istore_n (pc := 1) (k := 1) (i := 1) (lv' := [(1, .int 0), (0, .ref (ad (6, 0, 0)))]) C.1 C.2.1 (by decide +kernel) rfl hlv2 (by decide) rfl fun ls1 hlv3 => ?_
  refine lv_bipush (pc := 2) (n := 12) (v := 12) C.1 C.2.1 (by decide +kernel) rfl ?_
  refine n_newa (pc := 4) (n := n0) (N := 12) C hz (va_S.rf (A := nSet ad n0)) (dWd_of (i := 79) (by decide +kernel) rfl) (by decide) (by decide) (by decide) (by decide) (by decide) (by decide +kernel) fun H1 hn o1 hS1 => ?_
  refine lv_astore_n (pc := 6) (k := 2) (i := 2) (lv' := [(2, .ref n0), (1, .int 0), (0, .ref (ad (6, 0, 0)))]) C.1 C.2.1 (by decide +kernel) rfl hlv3 (by decide) rfl fun ls4 hlv6 => ?_
  have hL : isL (36, 0, 0) := Or.inr rfl
  have hD := hS.new (N := 12) hL rfl hz hn o1
  have hi' : dInj (adW ad (36, 0, 0) n0) := hi.new hlt
  obtain ⟨G1, nn, hrun⟩ := l_reads 0 hP (g0 := fun _ => 0) (fun _ _ => rfl)
  have hloc : dLoc (adW ad (36, 0, 0) n0) fm [some (.inr (6, 0, 0)), some (.inl 0), some (.inr (36, 0, 0)), none, none, none, none] 7 ls4 := lv_sub hlv6 [2, 1, 0] rfl
  have hok : dOkL (adW ad (36, 0, 0) n0) [some (.inr (6, 0, 0)), some (.inl 0), some (.inr (36, 0, 0)), none, none, none, none] := by
    intro k v hk
    match k, hk with
    | 0, hk => cases hk; rfl
    | 1, hk => cases hk; rfl
    | 2, hk =>
      cases hk
      show (okK (adW ad (36, 0, 0) n0) (36, 0, 0) || _) = true
      rw [okK_W0 hL hn0]
      rfl
    | 3, hk => cases hk
    | 4, hk => cases hk
    | 5, hk => cases hk
    | 6, hk => cases hk
    | k + 7, hk => cases hk
  refine d_sound (ad := adW ad (36, 0, 0) n0) (A := nSet ad n0) (Ts := Cond.code ⟨"DiskDrawerLaw", "areReadsSo", "(LDiskDrawer;)Z"⟩ method_8_code 7 (some .boolean) :: dWd) (d := 6) (o := 11) (rt := some .boolean) (cc := method_8_code) (T := dT_reads) (nL := 7) (K := dEnd dT_reads (some (.inl 1), ub h (36, 0, 0) G1)) B.exec B.bytes hml hown hts (dWd_cons _) (hE.new hL) nSet_W hi' hf ⟨by decide, by decide, by decide, by decide⟩ dg_reads.1 dg_reads.2 (fun mid as h r q => d_met l hi' hf 6 mid as h r q) ?_ nn 7 _ [] _ hrun H1 [] ls4 rfl hok (fun _ h => by cases h) hloc hD hS1
  intro pc L st h4 H4 locs4 ls5 hK hLl hLo hst hLc hS4 hS5
  obtain ⟨G, hg, g⟩ := hK
  cases hop : dop dT_reads pc with
  | none => simp only [dfin, hop] at hg; cases hg
  | some q =>
  obtain ⟨i, len, hd, he⟩ := dchk_at dg_reads.1 hop
  obtain ⟨k, a1, b1, nx, v, ts⟩ := q
  obtain ⟨r36, r37, r42⟩ := denc_ret he
  simp only [dfin, hop] at hg
  split at hg
  · rename_i z; cases z
    obtain ⟨rfl, rfl, e3⟩ := r36 rfl
    cases e3
  · rename_i z; cases z
    split at hg
    · cases hg
    · cases hg
  · rename_i z; cases z
    obtain ⟨rfl, rfl, e3⟩ := r42 rfl
    split at hg
    · cases hg
      exact W.zret B.exec B.bytes (by rw [hr]) (by rfl) (fun t ht hW => ⟨rfl, by rw [ht]; exact hS4.drop hL h0 (fun κ z => ⟨ub_n h _ z, rfl⟩), hS5.F ht⟩) hS5.2.2 hd
    · cases hg
  · cases hg
section NCALL
variable {p : Program} {l : Launch} {e : Env} {R : Room} {s : State} {m : MethodId} {args : Array Value} {below : List Frame} {meth : Method} {c : Code} {H : Heap} {locs : List Loc} {cells slots : Nat} {Q : State → Prop}
variable {cc : ByteArray} {pc : Nat} {ls : Array Slot} {rest : List Value} {Ts : List Cond} {o idx nL : Nat} {A : Nat → Prop}
variable {D : va_G} {ad : DKey → Nat} {ca : Nat → ClassId} {fm : Value} {xs : Nat → Int32} {SL : Nat} {h : DH}
theorem n_call (C : Cx p s m args c cc o Ts D ad ca fm xs SL A) (hml : c.maxLocals = nL) (hls : ls.size = nL) (hA : ∀ q, dAm ad q → A q) (hAn : ∀ q, s.heap.size ≤ q → A q) (hS : dSim D ad ca xs SL h H) (hS0 : va_S A s.heap H locs) {k maxL : Nat} {y : MethodName} {bytes : ByteArray} (hM : nMet l D ad ca fm xs SL h H.size k y bytes maxL)
    (hd : y.cls ≠ "java/lang/invoke/MethodHandle" ∧ y.cls ≠ "java/lang/invoke/VarHandle" ∧ (parseMethodDescriptor y.desc).map (fun d => d.parameters.length) = some 1) (hcode : Cond.code y bytes maxL (some .boolean) ∈ dWd) (hini : Cond.initialized y.cls ∈ dWd) (hlk : Cond.methodLink (don o) idx y ∈ dWd) (hst : Cond.static y ∈ dWd) (hR : 8 ≤ R.frames ∧ 8 + (maxL + 11) + 280 ≤ R.locals) (hc : cells + 1 ≤ R.cells ∧ slots + k ≤ R.slots) (hrest : (rest.map fun v => v.category).sum ≤ 8) (hdg : decode cc pc = .ok (.invokestatic idx, 3))
    (kk : ∀ (H1 : Heap) (locs1 : List Loc), dSim D ad ca xs SL h H1 → va_S A s.heap H1 locs1 → W p l e R s m args below meth c H1 locs1 (cells + 1) (slots + k) Q (F0 m (pc + 3) ls (.int 1 :: rest))) : W p l e R s m args below meth c H locs cells slots Q (F0 m pc ls (.ref (ad (6, 0, 0)) :: rest)) := by
  have hsub : ∀ q, nSet ad H.size q → A q := fun q hq => by
    rcases hq with hq | hq
    · exact hA q hq
    · exact hAn q (Nat.le_trans hS0.1 hq)
  have hpre : PreS s H (nPre D ad ca fm xs SL h H.size) [.ref (ad (6, 0, 0))] := ⟨nPre_blind, fun U hU hW => ⟨rfl, by rw [hU], (dEnv.warm hW (by rw [hU]; exact hS0.1) (fun a h1 h2 => by rw [hU]; exact hS0.2.1 a h1 h2) C.2.2.2.2.2.1).narrow hsub, dAO.moved hW.alike C.2.2.2.2.2.2, by rw [hU]; exact hS⟩⟩
  have hr := va_runS (As := [Value.ref (ad (6, 0, 0))]) (rest := rest) (own := don o) (nL := nL) (n := 1) (ws := Cond.code y bytes maxL (some .boolean) :: dWd) (rm := rmN k) (Qc := nPost D ad ca xs SL h H.size) (g := F0 m pc ls (.ref (ad (6, 0, 0)) :: rest)) (locs := locs) (cells := cells) (slots := slots) (below := below) (meth := meth) (e := e) ⟨C.1, C.2.1, hml, C.2.2.1, C.2.2.2.1⟩ hM ⟨callB_of (ws' := dWd) 1 C.2.2.2.1 (dGoodTs C.2.2.2.2.1 hcode) rfl rfl rfl (C.ok hini) (C.ok hlk) hd ⟨hR.1, hR.2⟩, C.ok hst⟩ hpre rfl rfl hls rfl (lv_room hrest) hdg hc
  intro T hT X
  obtain ⟨v, st₀, t, T', Lc, g0, X', hL, e1, e2, ⟨hv, hsim, hz, hk⟩, st⟩ := hr T hT X
  cases hv
  rw [g0] at hz hk
  obtain ⟨t2, a1, b1⟩ := kk T'.heap (locs ++ Lc) (by rw [e1]; exact hsim)
    ⟨Nat.le_trans hS0.1 (by rw [e1]; exact hz), fun q h1 h2 => by rw [e1, hk q (Nat.lt_of_lt_of_le h1 hS0.1) (fun z => h2 (hsub q z))]; exact hS0.2.1 q h1 h2, fun q hq => by
      rcases List.mem_append.mp hq with h | h
      · exact hS0.2.2 q h
      · exact hsub _ (hL q h)⟩ T' rfl X'
  exact ⟨t2, st t2 a1, b1⟩
end NCALL
end
section
/-! the law: its loop, and its start -/
abbrev lL (k : Nat) (x y : Option DV) : List (Option DV) := [some (.inr (34, 0, 0)), some (.inr (6, 0, 0)), some (.inl (nI k)), x, y]
theorem s_1 {k : Nat} (hk : k < 50) (x y : Option DV) {h : DH} {s : Nat → Int32} {l : List (Nat → Int32)} (hs : PR h s l) (hS : h.2 (34, 0, 0) 0 < 2 ^ 31) : RunsK dT_law (dEx 7) (fun A => ∃ (v got : Int32) (h' : DH) (s' : Nat → Int32) (l' : List (Nat → Int32)), A = (37, lL k (some (.inl v)) (some (.inl got)), [.inr (6, 0, 0)], h') ∧ PR h' s' l') (10, lL k x y, [], h) := by
  refine RunsK.go 3 rfl trivial ?_
  refine RunsK.ifF (i_ge hk (by decide)) ?_
  refine RunsK.go 2 rfl trivial ?_
  obtain ⟨v, hv⟩ := l_cell 6 h hk hS
  refine RunsK.cal rfl hv ?_
  refine RunsK.go 3 rfl trivial ?_
  obtain ⟨got, h', s', l', a1, a2, a3⟩ := l_does 0 v hs
  refine RunsK.cal rfl a1 ?_
  refine RunsK.go 4 rfl trivial ?_
  refine RunsK.ifF a3 ?_
  refine RunsK.go 1 rfl trivial ?_
  exact RunsK.stop ⟨v, got, h', s', l', rfl, a2⟩
theorem s_2 (k : Nat) (x y : Option DV) (h : DH) : RunsK dT_law (dEx 7) (fun A => A = (51, lL k x y, [.inr (6, 0, 0)], h) ∨ A = (57, lL k x y, [], h)) (40, lL k x y, [.inl 1], h) := by
  refine RunsK.go 1 rfl trivial ?_
  refine RunsK.ifF (by decide) ?_
  refine RunsK.go 5 rfl ⟨trivial, (by decide)⟩ ?_
  refine RunsK.ifS (fun _ => ?_) (fun _ => ?_)
  · refine RunsK.go 1 rfl trivial ?_
    exact RunsK.stop (Or.inl rfl)
  · exact RunsK.stop (Or.inr rfl)
theorem s_2b (k : Nat) (x y : Option DV) (h : DH) : RunsK dT_law (dEx 7) (fun A => A = (57, lL k x y, [], h)) (54, lL k x y, [.inl 1], h) := by
  refine RunsK.go 1 rfl trivial ?_
  refine RunsK.ifF (by decide) ?_
  exact RunsK.stop rfl
theorem s_3 (k : Nat) (v got : Int32) {h : DH} {s : Nat → Int32} {l : List (Nat → Int32)} (hs : PR h s l) : RunsK dT_law (dEx 7) (fun A => ∃ (h' : DH) (s' : Nat → Int32) (l' : List (Nat → Int32)), A = (10, lL (k + 1) (some (.inl v)) (some (.inl got)), [], h') ∧ PR h' s' l') (57, lL k (some (.inl v)) (some (.inl got)), [], h) := by
  have e107 : ∀ {h : DH} {s : Nat → Int32} {l : List (Nat → Int32)}, PR h s l → RunsK dT_law (dEx 7) (fun A => ∃ (h' : DH) (s' : Nat → Int32) (l' : List (Nat → Int32)), A = (10, lL (k + 1) (some (.inl v)) (some (.inl got)), [], h') ∧ PR h' s' l') (107, lL k (some (.inl v)) (some (.inl got)), [], h) := by
    intro h s l hs
    refine RunsK.go 2 rfl trivial ?_
    rw [nI_1]
    exact RunsK.stop ⟨h, s, l, rfl, hs⟩
  have e79 : ∀ {h : DH} {s : Nat → Int32} {l : List (Nat → Int32)}, PR h s l → RunsK dT_law (dEx 7) (fun A => ∃ (h' : DH) (s' : Nat → Int32) (l' : List (Nat → Int32)), A = (10, lL (k + 1) (some (.inl v)) (some (.inl got)), [], h') ∧ PR h' s' l') (79, lL k (some (.inl v)) (some (.inl got)), [], h) := by
    intro h s l hs
    refine RunsK.go 5 rfl ⟨trivial, (by decide)⟩ ?_
    refine RunsK.ifS (fun _ => ?_) (fun _ => e107 hs)
    refine RunsK.go 6 rfl trivial ?_
    obtain ⟨q, hq, hl⟩ := l_low 6 (v >>> (5 &&& 31)) h (m := 12) (by decide) (by decide)
    refine RunsK.cal rfl hl ?_
    refine RunsK.go 1 rfl trivial ?_
    rw [show (1 : Int32) + nI q = nI (1 + q) from nI_add 1 q]
    obtain ⟨h', l', a1, a2⟩ := l_onceSo 0 (m := 1 + q) (by omega) (by omega) hs
    refine RunsK.cal rfl a1 ?_
    refine RunsK.go 1 rfl trivial ?_
    refine RunsK.ifF (by decide) ?_
    exact e107 a2
  refine RunsK.go 5 rfl ⟨trivial, (by decide)⟩ ?_
  refine RunsK.ifS (fun _ => ?_) (fun _ => e79 hs)
  refine RunsK.go 5 rfl trivial ?_
  obtain ⟨r, hr, hl⟩ := l_some 1 (v >>> (6 &&& 31)) hs
  refine RunsK.cal rfl hl ?_
  obtain ⟨h', l', a1, a2⟩ := l_ansSo 0 r hs hr
  refine RunsK.cal rfl a1 ?_
  refine RunsK.go 1 rfl trivial ?_
  refine RunsK.ifF (by decide) ?_
  exact e79 a2
theorem s_4 (x y : Option DV) (h : DH) : RunsK dT_law (dEx 7) (fun A => A = (114, lL 50 x y, [.inl 1], h)) (10, lL 50 x y, [], h) := by
  refine RunsK.go 3 rfl trivial ?_
  refine RunsK.ifT (Int32.le_refl _) ?_
  refine RunsK.go 1 rfl trivial ?_
  exact RunsK.stop rfl
section LAW
variable {p : Program} {e : Env} {s : State} {m : MethodId} {below : List Frame} {meth : Method} {c : Code} {b SL : Nat} {xs : Nat → Int32}
variable {D : va_G} {ad : DKey → Nat} {ca : Nat → ClassId} {fm : Value}
/-- a stretch of the law by the abstract machine -/
theorem law_seg (l : Launch) (C : Cx p s m #[Value.ref b] c code 11 lw_tbl D ad ca fm xs SL (fun q => s.heap.size ≤ q)) (hml : c.maxLocals = 5) (hi : dInj ad) (hf : dFm fm) (hA : ∀ κ, okK ad κ = true → s.heap.size ≤ ad κ) {K : DS → Prop} {pc : Nat} {L : List (Option DV)} {st : List DV} {h : DH} (hrun : RunsK dT_law (dEx 7) K (pc, L, st, h)) {H : Heap} {locs : List Loc} {ls : Array Slot} {cells slots : Nat} (hc : cells ≤ 600) (hsl : slots ≤ 4000) (hLl : L.length = 5) (hLo : dOkL ad L) (hst : ∀ v ∈ st, okV ad v = true) (hloc : dLoc ad fm L 5 ls) (hS : dSim D ad ca xs SL h H) (hS0 : va_S (fun q => s.heap.size ≤ q) s.heap H locs)
    (hfin : ∀ (pc : Nat) (L : List (Option DV)) (st : List DV) (h : DH) (H : Heap) (locs : List Loc) (ls : Array Slot), K (pc, L, st, h) → L.length = 5 → dOkL ad L → (∀ v ∈ st, okV ad v = true) → dLoc ad fm L 5 ls → dSim D ad ca xs SL h H → va_S (fun q => s.heap.size ≤ q) s.heap H locs → W p l e room_1 s m #[Value.ref b] below meth c H locs cells slots (lw_Z below #[Value.ref b] s) (F0 m pc ls (st.map (dval ad fm)))) :
    W p l e room_1 s m #[Value.ref b] below meth c H locs cells slots (lw_Z below #[Value.ref b] s) (F0 m pc ls (st.map (dval ad fm))) := by
  obtain ⟨nn, hn⟩ := hrun
  exact d_sound (A := fun q => s.heap.size ≤ q) (Ts := lw_tbl) (d := 7) (o := 11) (rt := some .boolean) (cc := code) (T := dT_law) (nL := 5) (K := K) C.1 C.2.1 hml C.2.2.1 C.2.2.2.1 dWd_good C.2.2.2.2.2.1 hA hi hf ⟨by decide, by decide, Nat.le_trans hc (by decide), Nat.le_trans hsl (by decide)⟩ dg_law.1 dg_law.2 (fun mid as h r q => d_met l hi hf 7 mid as h r q) hfin nn pc L st h hn H locs ls hLl hLo hst hloc hS hS0
theorem law_W (l : Launch) (C : Cx p s m #[Value.ref b] c code 11 lw_tbl D ad ca fm xs SL (fun q => s.heap.size ≤ q)) (hml : c.maxLocals = 5) (hr : meth.sig.returnType = ret) (hlocks : meth.locks = false) (hi : dInj ad) (hf : dFm fm) (h35 : ad (35, 0, 0) = 0) (h36 : ad (36, 0, 0) = 0) (hA : ∀ κ, okK ad κ = true → s.heap.size ≤ ad κ) (hSL : SL ≤ 260) : ∀ j k, 50 - k = j → k ≤ 50 → ∀ (x y : Option DV) (h : DH) (s1 : Nat → Int32) (l1 : List (Nat → Int32)) (H : Heap) (locs : List Loc) (ls : Array Slot), PR h s1 l1 → dOkL ad (lL k x y) → dLoc ad fm (lL k x y) 5 ls → dSim D ad ca xs SL h H → va_S (fun q => s.heap.size ≤ q) s.heap H locs → W p l e room_1 s m #[Value.ref b] below meth c H locs (400 + 2 * k) (2600 + 16 * k) (lw_Z below #[Value.ref b] s) (F0 m 10 ls []) := by
  have hdA : ∀ q, dAm ad q → s.heap.size ≤ q := fun q ⟨κ, h1, h2⟩ => by rw [← h2]; exact hA κ h1
  intro j
  induction j with
  | zero =>
    intro k hj hk x y h s1 l1 H locs ls hP hLo hloc hS hS0
    have ek : k = 50 := by omega
    subst ek
    refine law_seg l C hml hi hf hA (s_4 x y h) (by omega) (by omega) rfl hLo (fun _ hv => by cases hv) hloc hS hS0 ?_
    rintro pc L st h4 H4 locs4 ls4 hK hLl4 hLo4 hst4 hloc4 hS4 hS5
    cases hK
    exact va_forget hS5.2.2 (W.widen (by decide) (by decide) (lw_ret (pc := 114) C.1 C.2.1 hr hlocks (by decide +kernel)))
  | succ j ih =>
    intro k hj hk x y h s1 l1 H locs ls hP hLo hloc hS hS0
    refine law_seg l C hml hi hf hA (s_1 (show k < 50 by omega) x y hP (by rw [hS.2.2.2.2]; omega)) (by omega) (by omega) rfl hLo (fun _ hv => by cases hv) hloc hS hS0 ?_
    rintro pc L st h4 H4 locs4 ls4 ⟨v, got, h', s', l', hK, hP'⟩ hLl4 hLo4 hst4 hloc4 hS4 hS5
    cases hK
    refine n_call (pc := 37) (idx := 79) (rest := []) C hml hloc4.1 hdA (fun q hq => hq) hS4 hS5 (n_disks l hi hf h35 hP') (by decide) (dWd_of (i := 435) (by decide +kernel) rfl) (dWd_of (i := 16) (by decide +kernel) rfl) (dWd_of (i := 433) (by decide +kernel) rfl) (dWd_of (i := 434) (by decide +kernel) rfl) (by decide) ⟨Nat.le_trans (show 400 + 2 * k + 1 ≤ 600 by omega) (by decide), Nat.le_trans (show 2600 + 16 * k + 4 ≤ 4000 by omega) (by decide)⟩ (by decide) (by decide +kernel) fun H5 locs5 hS6 hS7 => ?_
    -- behind both checks of the state: the rest of this turn
    have e57 : ∀ (cells slots : Nat) (H : Heap) (locs : List Loc) (ls : Array Slot), cells ≤ 400 + 2 * (k + 1) → slots ≤ 2600 + 16 * (k + 1) → dLoc ad fm (lL k (some (.inl v)) (some (.inl got))) 5 ls → dSim D ad ca xs SL h4 H → va_S (fun q => s.heap.size ≤ q) s.heap H locs → W p l e room_1 s m #[Value.ref b] below meth c H locs cells slots (lw_Z below #[Value.ref b] s) (F0 m 57 ls []) := by
      intro cells slots H locs ls hc1 hc2 hlo hSa hSb
      refine law_seg l C hml hi hf hA (s_3 k v got hP') (by omega) (by omega) rfl hLo4 (fun _ hv => by cases hv) hlo hSa hSb ?_
      rintro pc L st h6 H6 locs6 ls6 ⟨h7, s7, l7, hK, hP7⟩ hLl6 hLo6 hst6 hloc6 hSc hSd
      cases hK
      exact W.widen hc1 hc2 (ih (k + 1) (by omega) (by omega) _ _ h6 s7 l7 H6 locs6 ls6 hP7 hLo6 hloc6 hSc hSd)
    have st1 : ∀ v' ∈ ([.inl 1] : List DV), okV ad v' = true := fun v' hv => by rw [List.mem_singleton.mp hv]; rfl
    refine law_seg l C hml hi hf hA (pc := 40) (st := [.inl 1]) (s_2 k (some (.inl v)) (some (.inl got)) h4) (by omega) (by omega) rfl hLo4 st1 hloc4 hS6 hS7 ?_
    rintro pc L st h6 H6 locs6 ls6 hK hLl6 hLo6 hst6 hloc6 hSa hSb
    rcases hK with hK | hK
    · cases hK
      refine n_call (pc := 51) (idx := 83) (rest := []) C hml hloc6.1 hdA (fun q hq => hq) hSa hSb (n_reads l hi hf h36 hP') (by decide) (dWd_of (i := 457) (by decide +kernel) rfl) (dWd_of (i := 16) (by decide +kernel) rfl) (dWd_of (i := 455) (by decide +kernel) rfl) (dWd_of (i := 456) (by decide +kernel) rfl) (by decide) ⟨Nat.le_trans (show 400 + 2 * k + 1 + 1 ≤ 600 by omega) (by decide), Nat.le_trans (show 2600 + 16 * k + 4 + 12 ≤ 4000 by omega) (by decide)⟩ (by decide) (by decide +kernel) fun H8 locs8 hSc hSd => ?_
      refine law_seg l C hml hi hf hA (pc := 54) (st := [.inl 1]) (s_2b k (some (.inl v)) (some (.inl got)) h4) (by omega) (by omega) rfl hLo6 st1 hloc6 hSc hSd ?_
      rintro pc L st h9 H9 locs9 ls9 hK9 hLl9 hLo9 hst9 hloc9 hSe hSf
      cases hK9
      exact e57 _ _ H9 locs9 ls9 (by omega) (by omega) hloc9 hSe hSf
    · cases hK
      exact e57 _ _ H6 locs6 ls6 (by omega) (by omega) hloc6 hSa hSb
end LAW
theorem whole_start {p : Program} {e : Env} {s : State} {m : MethodId} {below : List Frame} {meth : Method} {c : Code} (l : Launch) (hflags : l.flags = flags0) {b L : Nat} {xs : Nat → Int32} (hL : L ≤ 260) (C0 : lw_At p s m meth c b L xs) : W p l e room_1 s m #[Value.ref b] below meth c s.heap [] 0 0 (lw_Z below #[Value.ref b] s) (entryFrame m ([Value.ref b] : List Value).toArray 5) := by
  obtain ⟨hx, hb, hr, hml, hown, hts, hX, hbl, hlocks, hgv⟩ := C0
  obtain ⟨D, ca, T, hAO, hEn⟩ := env0 hts hgv hX hbl
  have hE : dEnv D (adA s.heap.size T b) ca .null xs L (fun q => s.heap.size ≤ q) s := hEn _ (fun _ => rfl) rfl
  have C : Cx p s m #[Value.ref b] c code 11 lw_tbl D (adA s.heap.size T b) ca .null xs L (fun q => s.heap.size ≤ q) := ⟨hx, hb, hown, hts, dWd_good, hE, hAO⟩
  have hlv := lv_entry [Value.ref b] (n := 5) (by show 1 ≤ 5; decide)
  rw [lg_entry_eq]
  generalize (lg_sl [Value.ref b] ++ List.replicate (5 - (lg_sl [Value.ref b]).length) Slot.unset).toArray = ls at hlv ⊢
  have hlv2 : lv_has ls 5 [(0, .ref b)] := hlv
  have hA0 : ∀ q, s.heap.size ≤ q → s.heap.size ≤ q := fun _ h => h
  have hB : BW D s.heap.size (fun _ => none) s.heap := ⟨rfl, fun _ _ h => by cases h⟩
  have hS : va_S (fun q => s.heap.size ≤ q) s.heap s.heap [] := va_S.rf
  refine b_new (pc := 0) (idx := 9) (ci := 3) C hB hS (by decide) (dWd_of (i := 24) (by decide +kernel) rfl) (dWd_of (i := 25) (by decide +kernel) rfl) (dWd_of (i := 17) (by decide +kernel) rfl) (by decide) (by decide) (by decide +kernel) fun H1 hB1 hS1 => ?_
  refine lv_dup (pc := 3) C.1 C.2.1 (by decide +kernel) rfl ?_
  refine b_callI (pc := 4) (idx := 71) (a := s.heap.size) (y := ⟨"DiskDrawer", "<init>", "()V"⟩) C hml hlv2.1 hB1 hS1 hA0 hA0 (Nat.le_refl _) (fu_s _ _ _) (c_Draw l) rfl (by decide +kernel) (dWd_of (i := 28) (by decide +kernel) rfl) (dWd_of (i := 17) (by decide +kernel) rfl) (dWd_of (i := 26) (by decide +kernel) rfl) (dWd_of (i := 27) (by decide +kernel) rfl) (by decide) (by decide) (by show 1 ≤ 8; decide) (by decide +kernel) fun H2 locs2 hB2 hS2 => ?_
  have hB2c : BW D (s.heap.size + 376) _ H2 := ⟨hB2.1.trans (by omega), hB2.2⟩
  refine lv_astore_n (pc := 7) (k := 1) (i := 1) (lv' := [(1, .ref s.heap.size), (0, .ref b)]) C.1 C.2.1 (by decide +kernel) rfl hlv2 (by decide) rfl fun ls1 hlv3 => ?_
  refine lv_iconst (pc := 8) (n := 0) (v := nI 0) C.1 C.2.1 (by decide +kernel) rfl ?_
  refine lv_istore_n (pc := 9) (k := 2) (i := 2) (lv' := [(2, .int (nI 0)), (1, .ref s.heap.size), (0, .ref b)]) C.1 C.2.1 (by decide +kernel) rfl hlv3 (by decide) rfl fun ls2 hlv4 => ?_
  have hF : BW D (s.heap.size + 376) (gF ca s.heap.size) H2 := hB2c.sub fun q r hq => by
    unfold gF at hq
    by_cases q1 : q < s.heap.size + 376
    · by_cases q2 : s.heap.size ≤ q
      · rw [if_pos q1, if_pos q2] at hq
        rw [mix_s (by omega)]
        exact hq
      · rw [if_pos q1, if_neg q2] at hq
        cases hq
    · rw [if_neg q1] at hq
      cases hq
  have hloc : dLoc (adA s.heap.size T b) .null (lL 0 none none) 5 ls2 := lv_sub hlv4 [2, 1, 0] rfl
  have hok : dOkL (adA s.heap.size T b) (lL 0 none none) := by
    intro k v hk
    match k, hk with
    | 0, hk => cases hk; rfl
    | 1, hk => cases hk; rfl
    | 2, hk => cases hk; rfl
    | 3, hk => cases hk
    | 4, hk => cases hk
    | n + 5, hk => cases hk
  refine W.widen (k := 400 + 2 * 0) (n := 2600 + 16 * 0) (by decide) (by decide) ?_
  exact law_W l C hml hr hlocks adA_inj (Or.inl rfl) (adA_35 _ _ _) (adA_36 _ _ _) (fun κ hκ => by rw [adA_ok hκ]; exact Nat.le_add_right _ _) hL 50 0 rfl (Nat.zero_le _) none none (h0 xs L) num0 [] H2 locs2 ls2 (PR_0 xs L) hok hloc (dSim_0 hF) hS2
end
section
set_option maxHeartbeats 4000000 in
theorem lw_walk (l : Launch) (hflags : l.flags = flags0) (b : Addr) (xs : List Int32) : MetFree l x (headSpec (Jvm.Cond.code x code maxLocals ret :: tables_1) room_1) (lw_P b xs) (fun _ _ _ _ _ => True) lw_Q := by
  refine MetFree.of_bodyS (code := code) (maxLocals := maxLocals) (ret := ret) (by decide) ?_ ?_
  · intro args s m h hn
    obtain ⟨meth, c, h1, h2, h3, h4, h5, h6, -, -⟩ := Cond.code_spec hn (atoms_spec (ws := Jvm.Cond.code x code maxLocals ret :: tables_1) h _ List.mem_cons_self)
    exact ⟨meth, c, h1, h2, h3, h4, h5, h6⟩
  · intro p e s m args below meth c s₁ B hml0 hP _
    obtain ⟨rfl, hx, hbd, hgv⟩ := hP
    obtain ⟨scr, harrAt, hlist, hof, hsmall⟩ := hx
    obtain ⟨hcb, hkn, -, -⟩ := State.arrayAt?_spec harrAt
    have hown : s.vm.findClass R_law = some m.cls := findClass_of_methodNamed B.named
    have hts0 : ∀ c ∈ (Jvm.Cond.code x code maxLocals ret :: tables_1), c.before #[Value.ref b] s = true := atoms_spec (ws := Jvm.Cond.code x code maxLocals ret :: tables_1) B.pre
    have hts : ∀ w ∈ lw_tbl, w.before #[Value.ref b] s = true := k2_hts_sels lw_privs (fun w hw => hts0 w (List.mem_cons_of_mem _ hw)) lw_privs_ok
    have hml : c.maxLocals = 5 := B.maxLocals_eq (hts0 _ List.mem_cons_self)
    have X₀ : Stand p l e room_1 s m #[Value.ref b] below meth c s₁ [] 0 0 := Stand.of_body B
    have hh0 : s₁.heap = s.heap := by rw [B.state]; rfl
    have hsz : scr.slots.size = xs.length := by rw [← Array.length_toList, hlist, List.length_map]
    have hval : ∀ j : Nat, j < xs.length → scr.slots[j]? = some (.int (xs.getD j 0)) := fun j hj => by
      rw [← Array.getElem?_toList, hlist]
      simp [hj]
    have hbl : b < s.heap.size := (Array.getElem?_eq_some_iff.mp hcb).1
    have hX : va_X b xs.length (fun j => xs.getD j 0) s s.heap := ⟨scr, hcb, hof, hkn, hsz, hval⟩
    have K : W p l e room_1 s m #[Value.ref b] below meth c s₁.heap [] 0 0 (lw_Z below #[Value.ref b] s) (entryFrame m ([Value.ref b] : List Value).toArray 5) := by
      rw [hh0]
      exact whole_start l hflags hbd ⟨B.exec, B.bytes, B.returns, hml, hown, hts, hX, hbl, B.notSynchronized, hgv⟩
    obtain ⟨t, a1, o, b1, b2, b3⟩ := K s₁ rfl X₀
    exact ⟨t, o, a1, b1, b2, b3⟩
theorem lw_pre_spec {args : Array Value} {s : State} (h : (Jvm.Cond.and given_1 narrow_1).before args s = true) (hr : rest_1_c.before args s = true) : ∃ (b : Addr) (xs : List Int32), lw_P b xs args s := by
  have hs := flat_of_before _ h
  have hq := flat_of_before _ hr
  have hc : (Cond.count 1).before args s = true := hs _ (by decide +kernel)
  have harr : (Cond.arrayOf (.arg 0) .int).before args s = true := hs _ (by decide +kernel)
  have hle : (Cond.le (.length (.arg 0)) (.int 260)).before args s = true := hs _ (by decide +kernel)
  have hlen : (Cond.isInt (.length (.arg 0))).before args s = true := hq _ (by decide +kernel)
  have hall : (Cond.all (.arg 0) (.isInt (.elem (.arg 0) (.index 0)))).before args s = true := hq _ (by decide +kernel)
  obtain ⟨b, xs, hb, hx⟩ := State.ints_of_pre rfl harr hlen hall
  have hsm : xs.length < 2 ^ 31 := hx.choose_spec.2.2.2
  have hev : (Term.length (.arg 0)).eval args s none [] s = some (.int xs.length.toInt32) := hx.length_eval hb
  have hv := Cond.le_ints hev (show (Term.int 260).eval args s none [] s = some (.int 260) from rfl)
  have hd : xs.length.toInt32 ≤ 260 := by
    simpa [Cond.before, Cond.holds, hv] using hle
  have hN : xs.length ≤ 260 := (Int32.ofNat_le_ofNat hsm (by decide)).mp (show Int32.ofNat xs.length ≤ Int32.ofNat 260 from hd)
  exact ⟨b, xs, Cond.one_arg hc (show args[0]? = some (.ref b) from hb), hx, hN, h⟩
theorem lw_comes (l : Launch) (hflags : l.flags = flags0) : Comes l x (Jvm.Cond.code x code maxLocals ret :: tables_1) room_1 (fun tb e args s => Calls_1 tb e args s ∧ rest_1 tb e args s ∧ Pre_1 tb e args s)
    (fun _ _ args s o t => lw_Q args s o t) := by
  intro p e ha hc hk s m args below hf hfit hheap happ hpre
  obtain ⟨b, xs, hP⟩ := lw_pre_spec hpre.2.2 hpre.2.1
  obtain ⟨k, o, h1, h2, h3, hQ⟩ := lw_walk l hflags b xs p e ha hc hk s m args below hf ((Spec.applies_iff_loose hf).mp happ).1 hP trivial
  exact ⟨k, o, h1, h2, h3, hQ⟩
theorem lw_frame {s t : State} {o : Outcome} {args : Array Value} (h : Framed s o t [] 685182 7046703) :
    Framed s o t (fieldLocs frame_1_writes args s ++ arrayLocs frame_1_arrays args s ++ staticLocs frame_1_statics s) 685182 7046703 := h
theorem lw_limb (L : Cond) (hL : ∀ (args : Array Value) (s t : State), L.after args s (.returned (some (.int 1))) t = true) :
    ArmFor flags0 classFile x code maxLocals ret World_1 tables_1 room_1 Calls_1 rest_1 Pre_1
      (fun tb e a s o t => postC L tb e a s o t ∧ Framed s o t (fieldLocs frame_1_writes a s ++ arrayLocs frame_1_arrays a s ++ staticLocs frame_1_statics s) 685182 7046703) := by
  intro l hflags _ _ p e ha hc hk s m args below hf hfit hheap happ hpre
  obtain ⟨k, o, h1, h2, h3, rfl, hF⟩ := lw_comes l hflags p e ha hc hk s m args below hf hfit hheap happ hpre
  exact ⟨k, _, h1, h2, h3, hL args s _, lw_frame hF⟩
theorem i_vc : Claimed_1_1 ∧ Claimed_1_2 := ⟨lw_limb limb_1_1 (fun args s t => by simp [limb_1_1, Cond.after, Cond.holds, Cond.value]), lw_limb limb_1_2 (fun args s t => Cond.after_iff.mpr (by
  first | (rw [show limb_1_2 = Cond.eq .result (.int 1) from rfl, Cond.eq_ints (x := 1) (y := 1) rfl rfl]; simp; done) | (simp [limb_1_2, Cond.value, Term.eval]; done)))⟩
end
