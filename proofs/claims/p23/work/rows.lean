section
-- ===== PART A: goes FIRST, ahead of the names: the tables' words, and 'selects' of the private methods out of them =====
/-- a private method of a class that the tables say can be made, by its rows of tables_1 -/
def lw_okq (q : MethodName × Nat) : Prop := (q.1.cls ≠ "java/lang/invoke/MethodHandle" ∧ q.1.cls ≠ "java/lang/invoke/VarHandle") ∧ Cond.instantiable q.1.cls q.2 ∈ tables_1 ∧ Cond.privateMethod q.1 ∈ tables_1 ∧ Cond.instanceMethod q.1 ∈ tables_1
theorem lw_p0 : lw_okq (⟨"DiskDrawer$State", "disksThat", "(I)I"⟩, 15) := ⟨⟨by decide +kernel, by decide +kernel⟩, List.mem_of_getElem? (i := 17) (by decide +kernel), List.mem_of_getElem? (i := 228) (by decide +kernel), List.mem_of_getElem? (i := 229) (by decide +kernel)⟩
theorem lw_p1 : lw_okq (⟨"DiskDrawer$State", "currentOf", "(LDiskDrawer$Disk;)I"⟩, 15) := ⟨⟨by decide +kernel, by decide +kernel⟩, List.mem_of_getElem? (i := 17) (by decide +kernel), List.mem_of_getElem? (i := 239) (by decide +kernel), List.mem_of_getElem? (i := 240) (by decide +kernel)⟩
theorem lw_p2 : lw_okq (⟨"DiskDrawer$State", "readsAheadOf", "(I)I"⟩, 15) := ⟨⟨by decide +kernel, by decide +kernel⟩, List.mem_of_getElem? (i := 17) (by decide +kernel), List.mem_of_getElem? (i := 255) (by decide +kernel), List.mem_of_getElem? (i := 256) (by decide +kernel)⟩
theorem lw_p3 : lw_okq (⟨"DiskDrawer$Past", "forgetOldest", "()V"⟩, 2) := ⟨⟨by decide +kernel, by decide +kernel⟩, List.mem_of_getElem? (i := 144) (by decide +kernel), List.mem_of_getElem? (i := 293) (by decide +kernel), List.mem_of_getElem? (i := 294) (by decide +kernel)⟩
theorem lw_p4 : lw_okq (⟨"DiskDrawer$State", "sweepReads", "()V"⟩, 15) := ⟨⟨by decide +kernel, by decide +kernel⟩, List.mem_of_getElem? (i := 17) (by decide +kernel), List.mem_of_getElem? (i := 305) (by decide +kernel), List.mem_of_getElem? (i := 306) (by decide +kernel)⟩
theorem lw_p5 : lw_okq (⟨"DiskDrawer$State", "cutOff", "()V"⟩, 15) := ⟨⟨by decide +kernel, by decide +kernel⟩, List.mem_of_getElem? (i := 17) (by decide +kernel), List.mem_of_getElem? (i := 366) (by decide +kernel), List.mem_of_getElem? (i := 367) (by decide +kernel)⟩
theorem lw_p6 : lw_okq (⟨"DiskDrawer$State", "goOnStarting", "()I"⟩, 15) := ⟨⟨by decide +kernel, by decide +kernel⟩, List.mem_of_getElem? (i := 17) (by decide +kernel), List.mem_of_getElem? (i := 371) (by decide +kernel), List.mem_of_getElem? (i := 372) (by decide +kernel)⟩
theorem lw_p7 : lw_okq (⟨"DiskDrawer$State", "loseReadsOf", "(I)V"⟩, 15) := ⟨⟨by decide +kernel, by decide +kernel⟩, List.mem_of_getElem? (i := 17) (by decide +kernel), List.mem_of_getElem? (i := 379) (by decide +kernel), List.mem_of_getElem? (i := 380) (by decide +kernel)⟩
theorem lw_p8 : lw_okq (⟨"DiskDrawer$State", "goOnReading", "()V"⟩, 15) := ⟨⟨by decide +kernel, by decide +kernel⟩, List.mem_of_getElem? (i := 17) (by decide +kernel), List.mem_of_getElem? (i := 387) (by decide +kernel), List.mem_of_getElem? (i := 388) (by decide +kernel)⟩
theorem lw_p9 : lw_okq (⟨"DiskDrawer$State", "restIdle", "(I)V"⟩, 15) := ⟨⟨by decide +kernel, by decide +kernel⟩, List.mem_of_getElem? (i := 17) (by decide +kernel), List.mem_of_getElem? (i := 391) (by decide +kernel), List.mem_of_getElem? (i := 392) (by decide +kernel)⟩
theorem lw_p10 : lw_okq (⟨"DiskDrawer$State", "beginStarts", "(I)V"⟩, 15) := ⟨⟨by decide +kernel, by decide +kernel⟩, List.mem_of_getElem? (i := 17) (by decide +kernel), List.mem_of_getElem? (i := 395) (by decide +kernel), List.mem_of_getElem? (i := 396) (by decide +kernel)⟩
theorem lw_p11 : lw_okq (⟨"DiskDrawer$State", "mayStart", "(II)Z"⟩, 15) := ⟨⟨by decide +kernel, by decide +kernel⟩, List.mem_of_getElem? (i := 17) (by decide +kernel), List.mem_of_getElem? (i := 399) (by decide +kernel), List.mem_of_getElem? (i := 400) (by decide +kernel)⟩
theorem lw_p12 : lw_okq (⟨"DiskDrawer$State", "currentAddedByStart", "()I"⟩, 15) := ⟨⟨by decide +kernel, by decide +kernel⟩, List.mem_of_getElem? (i := 17) (by decide +kernel), List.mem_of_getElem? (i := 403) (by decide +kernel), List.mem_of_getElem? (i := 404) (by decide +kernel)⟩
theorem lw_p13 : lw_okq (⟨"DiskDrawer$State", "strainFuse", "()V"⟩, 15) := ⟨⟨by decide +kernel, by decide +kernel⟩, List.mem_of_getElem? (i := 17) (by decide +kernel), List.mem_of_getElem? (i := 411) (by decide +kernel), List.mem_of_getElem? (i := 412) (by decide +kernel)⟩
theorem lw_p14 : lw_okq (⟨"DiskDrawer", "ticksUntilAllRead", "(II)I"⟩, 6) := ⟨⟨by decide +kernel, by decide +kernel⟩, List.mem_of_getElem? (i := 9) (by decide +kernel), List.mem_of_getElem? (i := 472) (by decide +kernel), List.mem_of_getElem? (i := 473) (by decide +kernel)⟩
theorem lw_p15 : lw_okq (⟨"DiskDrawer", "beginTrial", "(I)V"⟩, 6) := ⟨⟨by decide +kernel, by decide +kernel⟩, List.mem_of_getElem? (i := 9) (by decide +kernel), List.mem_of_getElem? (i := 476) (by decide +kernel), List.mem_of_getElem? (i := 477) (by decide +kernel)⟩
def lw_privs_1 : List (MethodName × Nat) := [(⟨"DiskDrawer$State", "disksThat", "(I)I"⟩, 15), (⟨"DiskDrawer$State", "currentOf", "(LDiskDrawer$Disk;)I"⟩, 15), (⟨"DiskDrawer$State", "readsAheadOf", "(I)I"⟩, 15), (⟨"DiskDrawer$Past", "forgetOldest", "()V"⟩, 2), (⟨"DiskDrawer$State", "sweepReads", "()V"⟩, 15), (⟨"DiskDrawer$State", "cutOff", "()V"⟩, 15), (⟨"DiskDrawer$State", "goOnStarting", "()I"⟩, 15), (⟨"DiskDrawer$State", "loseReadsOf", "(I)V"⟩, 15), (⟨"DiskDrawer$State", "goOnReading", "()V"⟩, 15), (⟨"DiskDrawer$State", "restIdle", "(I)V"⟩, 15), (⟨"DiskDrawer$State", "beginStarts", "(I)V"⟩, 15), (⟨"DiskDrawer$State", "mayStart", "(II)Z"⟩, 15), (⟨"DiskDrawer$State", "currentAddedByStart", "()I"⟩, 15), (⟨"DiskDrawer$State", "strainFuse", "()V"⟩, 15), (⟨"DiskDrawer", "ticksUntilAllRead", "(II)I"⟩, 6), (⟨"DiskDrawer", "beginTrial", "(I)V"⟩, 6)]
theorem lw_r1 : ∀ q ∈ lw_privs_1, lw_okq q := List.forall_mem_cons.mpr ⟨lw_p0, List.forall_mem_cons.mpr ⟨lw_p1, List.forall_mem_cons.mpr ⟨lw_p2, List.forall_mem_cons.mpr ⟨lw_p3, List.forall_mem_cons.mpr ⟨lw_p4, List.forall_mem_cons.mpr ⟨lw_p5, List.forall_mem_cons.mpr ⟨lw_p6, List.forall_mem_cons.mpr ⟨lw_p7, List.forall_mem_cons.mpr ⟨lw_p8, List.forall_mem_cons.mpr ⟨lw_p9, List.forall_mem_cons.mpr ⟨lw_p10, List.forall_mem_cons.mpr ⟨lw_p11, List.forall_mem_cons.mpr ⟨lw_p12, List.forall_mem_cons.mpr ⟨lw_p13, List.forall_mem_cons.mpr ⟨lw_p14, List.forall_mem_cons.mpr ⟨lw_p15, fun _ h => absurd h List.not_mem_nil⟩⟩⟩⟩⟩⟩⟩⟩⟩⟩⟩⟩⟩⟩⟩⟩
def lw_privs : List (MethodName × Nat) := lw_privs_1
def lw_tbl : List Cond := k2_sels lw_privs ++ tables_1
theorem lw_privs_ok : ∀ q ∈ lw_privs, lw_okq q := lw_r1
end
section
/-! an abstract machine for the code: objects named by keys, their ints and their moving references kept in two functions -/
abbrev DKey : Type := Nat × Nat × Nat
abbrev DV : Type := Int32 ⊕ DKey
abbrev DH : Type := (DKey → Nat → Int32) × (DKey → Nat → Nat)
abbrev DOp : Type := Nat × Nat × Nat × Nat × Int32 × List Nat
abbrev DTbl : Type := List (Option DOp)
abbrev DS : Type := Nat × List (Option DV) × List DV × DH
abbrev DRes : Type := Option DV × DH
def up1 (h : DH) (κ : DKey) (k : Nat) (x : Int32) : DH := (fun q j => if q = κ ∧ j = k then x else h.1 q j, h.2)
def up2 (h : DH) (κ : DKey) (k : Nat) (x : Nat) : DH := (h.1, fun q j => if q = κ ∧ j = k then x else h.2 q j)
/-- the class of a kind -/
def dcls : Nat → Nat
  | 0 => 0 | 4 => 1 | 5 => 2 | 6 => 3 | 7 => 4 | 9 => 5 | _ => 99
/-- fields that never change: final references, a String's coder: by kind and place the kind that is named, and how (0: the same number, m + 1: the number m, 99: the int 0) -/
def drefT : Nat → Nat → Option (Nat × Nat)
  | 0, 0 => some (1, 0)
  | 0, 1 => some (2, 0)
  | 0, 2 => some (3, 0)
  | 6, 0 => some (0, 1)
  | 6, 1 => some (0, 2)
  | 6, 2 => some (0, 3)
  | 6, 4 => some (7, 1)
  | 6, 5 => some (9, 1)
  | 7, 0 => some (8, 1)
  | 9, 0 => some (10, 1)
  | 9, 2 => some (11, 1)
  | 9, 3 => some (12, 1)
  | 9, 4 => some (13, 1)
  | _, _ => none
def dref : DKey → Nat → Option DV
  | (kd, i, _), k => match drefT kd k with
    | none => none
    | some (t, m) => match m with
      | 0 => some (.inr (t, i, 0))
      | 99 => some (.inl 0)
      | n + 1 => some (.inr (t, n, 0))
/-- arrays: the kind of their cells (0 int, 1 2 3 objects, 4 char, 5 boolean, 6 int and never written, 7 byte and never written, 8 the script), their length -/
def darr : DKey → Option (Nat × Nat)
  | (1, _, _) => some (0, 10)
  | (2, _, _) => some (1, 12)
  | (3, _, _) => some (2, 30)
  | (8, _, _) => some (3, 5)
  | (10, _, _) => some (4, 80)
  | (11, _, _) => some (0, 16)
  | (12, _, _) => some (0, 16)
  | (13, _, _) => some (0, 16)
  | (32, _, _) => some (6, 10)
  | (34, _, _) => some (8, 0)
  | (35, _, _) => some (0, 4)
  | (36, _, _) => some (0, 12)
  | _ => none
/-- the object that an array of objects holds at j, where p is what moves -/
def drk : DKey → Nat → Nat → Option DKey
  | (2, i, _), _, j => some (4, i, j)
  | (3, i, _), p, _ => some (5, i, p)
  | (8, _, _), p, _ => some (0, p, 0)
  | _, _, _ => none
def dcst (w j : Nat) : Int32 := (([[6, 20, 6, 4, 1, 90, 10, 3, 3, 40], [1, 1, 0, 0, 0, 10, 0, 0, 1, 0], [20, 50, 20, 20, 5, 500, 100, 20, 12, 500]] : List (List Int32)).getD w []).getD j 0
def dget : List (Option DV) → Nat → Option DV
  | [], _ => none
  | x :: _, 0 => x
  | _ :: xs, k + 1 => dget xs k
def dset : List (Option DV) → Nat → DV → List (Option DV)
  | [], _, _ => []
  | _ :: xs, 0, v => some v :: xs
  | x :: xs, k + 1, v => x :: dset xs k v
def dsetK {α : Type} : List (Option DV) → Nat → DV → (List (Option DV) → α) → α
  | [], _, _, f => f []
  | _ :: xs, 0, v, f => f (some v :: xs)
  | x :: xs, k + 1, v, f => dsetK xs k v (fun l => f (x :: l))
theorem dsetK_eq {α : Type} (L : List (Option DV)) : ∀ (a : Nat) (v : DV) (f : List (Option DV) → α), dsetK L a v f = f (dset L a v) := by
  induction L with
  | nil => intro a v f; cases a <;> rfl
  | cons x xs ih =>
    intro a v f
    cases a with
    | zero => rfl
    | succ k => exact ih k v (fun l => f (x :: l))
def dop (T : DTbl) (pc : Nat) : Option DOp := (T.getD pc none)
def dtsw (d : Nat) : Int32 → List Nat → Int32 → Nat
  | _, [], _ => d
  | v, t :: ts, x => if x = v then t else dtsw d (v + 1) ts x
def dgetf (ci k : Nat) (κ : DKey) (h : DH) : Option DV :=
  bif Nat.beq (dcls κ.1) ci then (match dref κ k with | some w => some w | none => some (.inl (h.1 κ k))) else none
def dputf (ci k : Nat) (κ : DKey) : Bool := Nat.beq (dcls κ.1) ci && Nat.blt κ.1 21 && (match dref κ k with | some _ => false | none => true)
/-- one instruction that is no call and no end: what it asks, and what comes -/
def dstep (T : DTbl) : DS → Option (Option Prop × DS)
  | (pc, L, st, h) => match dop T pc with
    | none => none
    | some (c, a, b, nx, v, ts) => match c with
      | 0 => some (none, nx, L, .inl v :: st, h)
      | 1 => match dget L a with
        | some (.inl x) => some (none, nx, L, .inl x :: st, h)
        | _ => none
      | 2 => match dget L a with
        | some (.inr κ) => some (none, nx, L, .inr κ :: st, h)
        | _ => none
      | 3 => match st with
        | .inl x :: st => dsetK L a (.inl x) (fun L => some (none, nx, L, st, h))
        | _ => none
      | 4 => match st with
        | .inr κ :: st => dsetK L a (.inr κ) (fun L => some (none, nx, L, st, h))
        | _ => none
      | 5 => match st with
        | .inr κ :: st => match dgetf a b κ h with
          | some w => some (none, nx, L, w :: st, h)
          | none => none
        | _ => none
      | 6 => match st with
        | .inl x :: .inr κ :: st => bif dputf a b κ then some (none, nx, L, st, up1 h κ b x) else none
        | _ => none
      | 7 => match st with
        | .inl x :: .inr κ :: st => bif dputf a b κ then some (some (x = 0 ∨ x = 1), nx, L, st, up1 h κ b x) else none
        | _ => none
      | 8 => some (none, nx, L, .inr (a, b, 0) :: st, h)
      | 10 => match st with
        | .inl i :: .inr κ :: st => match darr κ with
          | some (0, n) => some (some (vp_in i n), nx, L, .inl (h.1 κ i.toNatClampNeg) :: st, h)
          | some (6, n) => some (some (vp_in i n), nx, L, .inl (dcst κ.2.1 i.toNatClampNeg) :: st, h)
          | some (8, _) => some (some (vp_in i (h.2 κ 0)), nx, L, .inl (h.1 κ i.toNatClampNeg) :: st, h)
          | _ => none
        | _ => none
      | 11 => match st with
        | .inl x :: .inl i :: .inr κ :: st => match darr κ with
          | some (0, n) => some (some (vp_in i n), nx, L, st, up1 h κ i.toNatClampNeg x)
          | _ => none
        | _ => none
      | 12 => match st with
        | .inl i :: .inr κ :: st => match darr κ with
          | some (_, n) => match drk κ (h.2 κ i.toNatClampNeg) i.toNatClampNeg with
            | some w => some (some (vp_in i n), nx, L, .inr w :: st, h)
            | none => none
          | _ => none
        | _ => none
      | 13 => match st with
        | .inr w :: .inl i :: .inr κ :: st => match κ, w with
          | (3, i0, j0), (5, i1, k1) => some (some (vp_in i 30 ∧ i0 = i1), nx, L, st, up2 h (3, i0, j0) i.toNatClampNeg k1)
          | (8, i0, j0), (0, r, _) => some (some (vp_in i 5), nx, L, st, up2 h (8, i0, j0) i.toNatClampNeg r)
          | _, _ => none
        | _ => none
      | 18 => match st with
        | .inr κ :: st => match darr κ with
          | some (8, _) => some (none, nx, L, .inl (nI (h.2 κ 0)) :: st, h)
            | _ => none
        | _ => none
      | 19 => match st with
        | .inl y :: .inl x :: st => some (none, nx, L, .inl (x + y) :: st, h)
        | _ => none
      | 20 => match st with
        | .inl y :: .inl x :: st => some (none, nx, L, .inl (x - y) :: st, h)
        | _ => none
      | 21 => match st with
        | .inl y :: .inl x :: st => some (none, nx, L, .inl (x * y) :: st, h)
        | _ => none
      | 22 => match st with
        | .inl y :: .inl x :: st => some (none, nx, L, .inl (x &&& y) :: st, h)
        | _ => none
      | 23 => match st with
        | .inl y :: .inl x :: st => some (none, nx, L, .inl (x ||| y) :: st, h)
        | _ => none
      | 24 => match st with
        | .inl y :: .inl x :: st => some (none, nx, L, .inl (x <<< (y &&& 31)) :: st, h)
        | _ => none
      | 25 => match dget L a with
        | some (.inl x) => dsetK L a (.inl (x + v)) (fun L => some (none, nx, L, st, h))
        | _ => none
      | 26 => match st with
        | .inl x :: st => match b with
          | 0 => some (none, (if x = 0 then a else nx), L, st, h)
          | 1 => some (none, (if x = 0 then nx else a), L, st, h)
          | 2 => some (none, (if x < 0 then a else nx), L, st, h)
          | 3 => some (none, (if 0 ≤ x then a else nx), L, st, h)
          | 4 => some (none, (if 0 < x then a else nx), L, st, h)
          | _ => some (none, (if x ≤ 0 then a else nx), L, st, h)
        | _ => none
      | 27 => match st with
        | .inl y :: .inl x :: st => match b with
          | 0 => some (none, (if x = y then a else nx), L, st, h)
          | 1 => some (none, (if x = y then nx else a), L, st, h)
          | 2 => some (none, (if x < y then a else nx), L, st, h)
          | 3 => some (none, (if y ≤ x then a else nx), L, st, h)
          | 4 => some (none, (if y < x then a else nx), L, st, h)
          | _ => some (none, (if x ≤ y then a else nx), L, st, h)
        | _ => none
      | 28 => some (none, a, L, st, h)
      | 29 => match st with
        | .inl x :: st => some (none, dtsw a v ts x, L, st, h)
        | _ => none
      | 30 => match st with
        | w :: st => some (none, nx, L, w :: w :: st, h)
        | _ => none
      | 31 => match st with
        | w :: u :: st => some (none, nx, L, w :: u :: w :: u :: st, h)
        | _ => none
      | 45 => match st with
        | .inl y :: .inl x :: st => bif Nat.ble st.length 8 then some (none, nx, L, .inl (if x < y then y else x) :: st, h) else none
        | _ => none
      | 41 => match st with
        | .inl y :: .inl x :: st => some (none, nx, L, .inl (x >>> (y &&& 31)) :: st, h)
        | _ => none
      | 46 => match st with
        | .inl y :: .inl x :: st => some (some (¬ y = 0), nx, L, .inl (x - x / y * y) :: st, h)
        | _ => none
      | _ => none
def dpop : Nat → List DV → List DV → Option (List DV × List DV)
  | 0, st, acc => some (acc, st)
  | n + 1, v :: st, acc => dpop n st (v :: acc)
  | _ + 1, [], _ => none
/-- a call: whom, with what, where it goes on -/
def dcall (T : DTbl) : DS → Option (Nat × List DV × Nat × List (Option DV) × List DV)
  | (pc, L, st, _) => match dop T pc with
    | some (34, mid, n, nx, _, [ci]) => match dpop (n + 1) st [] with
      | some (.inr κ :: as, rest) => bif Nat.beq (dcls κ.1) ci && Nat.ble rest.length 8 then some (mid, .inr κ :: as, nx, L, rest) else none
      | _ => none
    | some (35, mid, n, nx, _, _) => match dpop n st [] with
      | some (as, rest) => bif Nat.ble rest.length 8 then some (mid, as, nx, L, rest) else none
      | _ => none
    | _ => none
/-- an end -/
def dfin (T : DTbl) : DS → Option (Prop × DRes)
  | (pc, _, st, h) => match dop T pc with
    | some (36, _) => match st with
      | [.inl x] => some (True, some (.inl x), h)
      | _ => none
    | some (37, _) => match st with
      | [] => some (True, none, h)
      | _ => none
    | some (42, _) => match st with
      | [.inl x] => some (x = 0 ∨ x = 1, some (.inl x), h)
      | _ => none
    | _ => none
abbrev DC : Type := Nat → List DV → DH → DRes → Prop
def dRunK (T : DTbl) (C : DC) (K : DS → Prop) : Nat → DS → Prop
  | 0, _ => False
  | n + 1, A =>
    (∃ (P : Option Prop) (B : DS), dstep T A = some (P, B) ∧ P.getD True ∧ dRunK T C K n B) ∨
    (∃ (mid : Nat) (as : List DV) (nx : Nat) (L : List (Option DV)) (st : List DV) (v : Option DV) (h1 : DH), dcall T A = some (mid, as, nx, L, st) ∧ C mid as A.2.2.2 (v, h1) ∧ dRunK T C K n (nx, L, v.toList ++ st, h1)) ∨
    K A
/-- a run that comes to K -/
def RunsK (T : DTbl) (C : DC) (K : DS → Prop) (A : DS) : Prop := ∃ n, dRunK T C K n A
def dEnd (T : DTbl) (r : DRes) : DS → Prop := fun A => ∃ G : Prop, dfin T A = some (G, r) ∧ G
/-- a run to the method's end -/
def Runs (T : DTbl) (C : DC) (A : DS) (r : DRes) : Prop := RunsK T C (dEnd T r) A
def dstepN (T : DTbl) : Nat → Prop → DS → Option (Prop × DS)
  | 0, G, A => some (G, A)
  | n + 1, G, A => match dstep T A with
    | some (none, B) => dstepN T n G B
    | some (some P, B) => dstepN T n (G ∧ P) B
    | none => none
theorem RunsK.go {T : DTbl} {C : DC} {K : DS → Prop} (n : Nat) {A B : DS} {G : Prop} (h : dstepN T n True A = some (G, B)) (g : G) (k : RunsK T C K B) : RunsK T C K A := by
  have key : ∀ (n : Nat) (G0 G : Prop) (A B : DS), dstepN T n G0 A = some (G, B) → G → RunsK T C K B → G0 ∧ RunsK T C K A := by
    intro n
    induction n with
    | zero =>
      intro G0 G A B h g k
      simp only [dstepN, Option.some.injEq, Prod.mk.injEq] at h
      obtain ⟨rfl, rfl⟩ := h
      exact ⟨g, k⟩
    | succ n ih =>
      intro G0 G A B h g k
      simp only [dstepN] at h
      cases hs : dstep T A with
      | none => rw [hs] at h; cases h
      | some q =>
        obtain ⟨P, B1⟩ := q
        rw [hs] at h
        cases P with
        | none =>
          obtain ⟨g1, k1⟩ := ih G0 G B1 B h g k
          obtain ⟨N, hN⟩ := k1
          exact ⟨g1, N + 1, Or.inl ⟨none, B1, hs, trivial, hN⟩⟩
        | some P =>
          obtain ⟨g1, k1⟩ := ih (G0 ∧ P) G B1 B h g k
          obtain ⟨N, hN⟩ := k1
          exact ⟨g1.1, N + 1, Or.inl ⟨some P, B1, hs, g1.2, hN⟩⟩
  exact (key n True G A B h g k).2
theorem RunsK.cal {T : DTbl} {C : DC} {K : DS → Prop} {pc : Nat} {L0 L : List (Option DV)} {st0 st : List DV} {h h1 : DH} {mid nx : Nat} {as : List DV} {v : DV} (hc : dcall T (pc, L0, st0, h) = some (mid, as, nx, L, st)) (hm : C mid as h (some v, h1)) (k : RunsK T C K (nx, L, v :: st, h1)) : RunsK T C K (pc, L0, st0, h) := by
  obtain ⟨n, hn⟩ := k
  exact ⟨n + 1, Or.inr (Or.inl ⟨mid, as, nx, L, st, some v, h1, hc, hm, hn⟩)⟩
theorem RunsK.calv {T : DTbl} {C : DC} {K : DS → Prop} {pc : Nat} {L0 L : List (Option DV)} {st0 st : List DV} {h h1 : DH} {mid nx : Nat} {as : List DV} (hc : dcall T (pc, L0, st0, h) = some (mid, as, nx, L, st)) (hm : C mid as h (none, h1)) (k : RunsK T C K (nx, L, st, h1)) : RunsK T C K (pc, L0, st0, h) := by
  obtain ⟨n, hn⟩ := k
  exact ⟨n + 1, Or.inr (Or.inl ⟨mid, as, nx, L, st, none, h1, hc, hm, hn⟩)⟩
theorem RunsK.stop {T : DTbl} {C : DC} {K : DS → Prop} {A : DS} (h : K A) : RunsK T C K A := ⟨1, Or.inr (Or.inr h)⟩
theorem RunsK.ifT {T : DTbl} {C : DC} {K : DS → Prop} {c : Prop} [Decidable c] {a b : Nat} {B : List (Option DV) × List DV × DH} (hc : c) (k : RunsK T C K (a, B)) : RunsK T C K ((if c then a else b), B) := by rw [if_pos hc]; exact k
theorem RunsK.ifF {T : DTbl} {C : DC} {K : DS → Prop} {c : Prop} [Decidable c] {a b : Nat} {B : List (Option DV) × List DV × DH} (hc : ¬ c) (k : RunsK T C K (b, B)) : RunsK T C K ((if c then a else b), B) := by rw [if_neg hc]; exact k
theorem Runs.go {T : DTbl} {C : DC} {r : DRes} (n : Nat) {A B : DS} {G : Prop} (h : dstepN T n True A = some (G, B)) (g : G) (k : Runs T C B r) : Runs T C A r := RunsK.go n h g k
theorem Runs.cal {T : DTbl} {C : DC} {r : DRes} {pc : Nat} {L0 L : List (Option DV)} {st0 st : List DV} {h h1 : DH} {mid nx : Nat} {as : List DV} {v : DV} (hc : dcall T (pc, L0, st0, h) = some (mid, as, nx, L, st)) (hm : C mid as h (some v, h1)) (k : Runs T C (nx, L, v :: st, h1) r) : Runs T C (pc, L0, st0, h) r := RunsK.cal hc hm k
theorem Runs.calv {T : DTbl} {C : DC} {r : DRes} {pc : Nat} {L0 L : List (Option DV)} {st0 st : List DV} {h h1 : DH} {mid nx : Nat} {as : List DV} (hc : dcall T (pc, L0, st0, h) = some (mid, as, nx, L, st)) (hm : C mid as h (none, h1)) (k : Runs T C (nx, L, st, h1) r) : Runs T C (pc, L0, st0, h) r := RunsK.calv hc hm k
theorem Runs.fin {T : DTbl} {C : DC} {r : DRes} {A : DS} {G : Prop} (h : dfin T A = some (G, r)) (g : G) : Runs T C A r := RunsK.stop ⟨G, h, g⟩
theorem Runs.ifT {T : DTbl} {C : DC} {r : DRes} {c : Prop} [Decidable c] {a b : Nat} {B : List (Option DV) × List DV × DH} (hc : c) (k : Runs T C (a, B) r) : Runs T C ((if c then a else b), B) r := by rw [if_pos hc]; exact k
theorem Runs.ifF {T : DTbl} {C : DC} {r : DRes} {c : Prop} [Decidable c] {a b : Nat} {B : List (Option DV) × List DV × DH} (hc : ¬ c) (k : Runs T C (b, B) r) : Runs T C ((if c then a else b), B) r := by rw [if_neg hc]; exact k
theorem Runs.ifS {T : DTbl} {C : DC} {r : DRes} {c : Prop} [Decidable c] {a b : Nat} {B : List (Option DV) × List DV × DH} (h1 : c → Runs T C (a, B) r) (h2 : ¬ c → Runs T C (b, B) r) : Runs T C ((if c then a else b), B) r := by
  by_cases hc : c
  · rw [if_pos hc]; exact h1 hc
  · rw [if_neg hc]; exact h2 hc
/-- a counted loop: state by state -/
theorem Runs.loop {T : DTbl} {C : DC} {r : DRes} (N : Nat) (S : Nat → DS) (hb : ∀ k, k < N → Runs T C (S (k + 1)) r → Runs T C (S k) r) (he : Runs T C (S N) r) : Runs T C (S 0) r := by
  have key : ∀ k, k ≤ N → Runs T C (S (N - k)) r := by
    intro k
    induction k with
    | zero => intro _; exact he
    | succ k ih =>
      intro hk
      refine hb (N - (k + 1)) (by omega) ?_
      rw [show N - (k + 1) + 1 = N - k from by omega]
      exact ih (by omega)
  have := key N (Nat.le_refl N)
  rwa [Nat.sub_self] at this
end
section
/-! the code of each method as a table of the abstract machine, printed by a program; dms lists the methods: name, bytes, locals, answer, own class, table -/
def dT_0 : DTbl := [some (2, 0, 0, 1, 0, []), some (5, 3, 4, 4, 0, []), none, none, some (2, 0, 0, 5, 0, []), some (5, 3, 0, 8, 0, []), none, none, some (34, 1, 1, 11, 0, [4]), none, none, some (2, 0, 0, 12, 0, []), some (5, 3, 4, 15, 0, []), none, none, some (2, 0, 0, 16, 0, []), some (5, 3, 0, 19, 0, []), none, none, some (1, 1, 0, 20, 0, []), some (1, 2, 0, 21, 0, []), some (34, 5, 2, 24, 0, [0]), none, none, some (34, 7, 1, 27, 0, [4]), none, none, some (36, 0, 0, 28, 0, [])] -- DiskDrawer.set
def dT_1 : DTbl := [some (2, 0, 0, 1, 0, []), some (5, 4, 0, 4, 0, []), none, none, some (2, 0, 0, 5, 0, []), some (5, 4, 1, 8, 0, []), none, none, some (12, 0, 0, 9, 0, []), some (2, 1, 0, 10, 0, []), some (34, 2, 1, 13, 0, [0]), none, none, some (37, 0, 0, 14, 0, [])] -- DiskDrawer$Past.prepare
def dT_2 : DTbl := [some (0, 0, 0, 1, 0, []), some (3, 2, 0, 2, 0, []), some (1, 2, 0, 3, 0, []), some (0, 0, 0, 5, 10, []), none, some (27, 26, 3, 8, 0, []), none, none, some (2, 0, 0, 9, 0, []), some (5, 0, 0, 12, 0, []), none, none, some (1, 2, 0, 13, 0, []), some (2, 1, 0, 14, 0, []), some (5, 0, 0, 17, 0, []), none, none, some (1, 2, 0, 18, 0, []), some (10, 0, 0, 19, 0, []), some (11, 0, 0, 20, 0, []), some (25, 2, 0, 23, 1, []), none, none, some (28, 2, 0, 26, 0, []), none, none, some (0, 0, 0, 27, 0, []), some (3, 2, 0, 28, 0, []), some (1, 2, 0, 29, 0, []), some (0, 0, 0, 31, 12, []), none, some (27, 55, 3, 34, 0, []), none, none, some (2, 0, 0, 35, 0, []), some (5, 0, 1, 38, 0, []), none, none, some (1, 2, 0, 39, 0, []), some (12, 0, 0, 40, 0, []), some (2, 1, 0, 41, 0, []), some (5, 0, 1, 44, 0, []), none, none, some (1, 2, 0, 45, 0, []), some (12, 0, 0, 46, 0, []), some (34, 3, 1, 49, 0, [1]), none, none, some (25, 2, 0, 52, 1, []), none, none, some (28, 28, 0, 55, 0, []), none, none, some (0, 0, 0, 56, 0, []), some (3, 2, 0, 57, 0, []), some (1, 2, 0, 58, 0, []), some (2, 1, 0, 59, 0, []), some (5, 0, 3, 62, 0, []), none, none, some (27, 86, 3, 65, 0, []), none, none, some (2, 0, 0, 66, 0, []), some (5, 0, 2, 69, 0, []), none, none, some (1, 2, 0, 70, 0, []), some (12, 0, 0, 71, 0, []), some (2, 1, 0, 72, 0, []), some (5, 0, 2, 75, 0, []), none, none, some (1, 2, 0, 76, 0, []), some (12, 0, 0, 77, 0, []), some (34, 4, 1, 80, 0, [2]), none, none, some (25, 2, 0, 83, 1, []), none, none, some (28, 57, 0, 86, 0, []), none, none, some (2, 0, 0, 87, 0, []), some (2, 1, 0, 88, 0, []), some (5, 0, 3, 91, 0, []), none, none, some (6, 0, 3, 94, 0, []), none, none, some (2, 0, 0, 95, 0, []), some (2, 1, 0, 96, 0, []), some (5, 0, 4, 99, 0, []), none, none, some (6, 0, 4, 102, 0, []), none, none, some (2, 0, 0, 103, 0, []), some (2, 1, 0, 104, 0, []), some (5, 0, 5, 107, 0, []), none, none, some (6, 0, 5, 110, 0, []), none, none, some (2, 0, 0, 111, 0, []), some (2, 1, 0, 112, 0, []), some (5, 0, 6, 115, 0, []), none, none, some (6, 0, 6, 118, 0, []), none, none, some (2, 0, 0, 119, 0, []), some (2, 1, 0, 120, 0, []), some (5, 0, 7, 123, 0, []), none, none, some (6, 0, 7, 126, 0, []), none, none, some (2, 0, 0, 127, 0, []), some (2, 1, 0, 128, 0, []), some (5, 0, 8, 131, 0, []), none, none, some (6, 0, 8, 134, 0, []), none, none, some (2, 0, 0, 135, 0, []), some (2, 1, 0, 136, 0, []), some (5, 0, 9, 139, 0, []), none, none, some (6, 0, 9, 142, 0, []), none, none, some (2, 0, 0, 143, 0, []), some (2, 1, 0, 144, 0, []), some (5, 0, 10, 147, 0, []), none, none, some (7, 0, 10, 150, 0, []), none, none, some (2, 0, 0, 151, 0, []), some (2, 1, 0, 152, 0, []), some (5, 0, 11, 155, 0, []), none, none, some (6, 0, 11, 158, 0, []), none, none, some (2, 0, 0, 159, 0, []), some (2, 1, 0, 160, 0, []), some (5, 0, 12, 163, 0, []), none, none, some (6, 0, 12, 166, 0, []), none, none, some (2, 0, 0, 167, 0, []), some (2, 1, 0, 168, 0, []), some (5, 0, 13, 171, 0, []), none, none, some (6, 0, 13, 174, 0, []), none, none, some (2, 0, 0, 175, 0, []), some (2, 1, 0, 176, 0, []), some (5, 0, 14, 179, 0, []), none, none, some (6, 0, 14, 182, 0, []), none, none, some (37, 0, 0, 183, 0, [])] -- DiskDrawer$State.copyFrom
def dT_3 : DTbl := [some (2, 0, 0, 1, 0, []), some (2, 1, 0, 2, 0, []), some (5, 1, 0, 5, 0, []), none, none, some (6, 1, 0, 8, 0, []), none, none, some (2, 0, 0, 9, 0, []), some (2, 1, 0, 10, 0, []), some (5, 1, 1, 13, 0, []), none, none, some (6, 1, 1, 16, 0, []), none, none, some (2, 0, 0, 17, 0, []), some (2, 1, 0, 18, 0, []), some (5, 1, 2, 21, 0, []), none, none, some (6, 1, 2, 24, 0, []), none, none, some (2, 0, 0, 25, 0, []), some (2, 1, 0, 26, 0, []), some (5, 1, 3, 29, 0, []), none, none, some (6, 1, 3, 32, 0, []), none, none, some (2, 0, 0, 33, 0, []), some (2, 1, 0, 34, 0, []), some (5, 1, 4, 37, 0, []), none, none, some (6, 1, 4, 40, 0, []), none, none, some (2, 0, 0, 41, 0, []), some (2, 1, 0, 42, 0, []), some (5, 1, 5, 45, 0, []), none, none, some (7, 1, 5, 48, 0, []), none, none, some (2, 0, 0, 49, 0, []), some (2, 1, 0, 50, 0, []), some (5, 1, 6, 53, 0, []), none, none, some (6, 1, 6, 56, 0, []), none, none, some (37, 0, 0, 57, 0, [])] -- DiskDrawer$Disk.copyFrom
def dT_4 : DTbl := [some (2, 0, 0, 1, 0, []), some (2, 1, 0, 2, 0, []), some (5, 2, 0, 5, 0, []), none, none, some (6, 2, 0, 8, 0, []), none, none, some (2, 0, 0, 9, 0, []), some (2, 1, 0, 10, 0, []), some (5, 2, 1, 13, 0, []), none, none, some (6, 2, 1, 16, 0, []), none, none, some (2, 0, 0, 17, 0, []), some (2, 1, 0, 18, 0, []), some (5, 2, 2, 21, 0, []), none, none, some (6, 2, 2, 24, 0, []), none, none, some (2, 0, 0, 25, 0, []), some (2, 1, 0, 26, 0, []), some (5, 2, 3, 29, 0, []), none, none, some (6, 2, 3, 32, 0, []), none, none, some (2, 0, 0, 33, 0, []), some (2, 1, 0, 34, 0, []), some (5, 2, 4, 37, 0, []), none, none, some (6, 2, 4, 40, 0, []), none, none, some (37, 0, 0, 41, 0, [])] -- DiskDrawer$Read.copyFrom
def dT_5 : DTbl := [some (1, 1, 0, 1, 0, []), some (0, 0, 0, 2, 0, []), some (0, 0, 0, 4, 9, []), none, some (35, 6, 3, 7, 0, []), none, none, some (26, 12, 1, 10, 0, []), none, none, some (0, 0, 0, 11, (-1), []), some (36, 0, 0, 12, 0, []), some (1, 2, 0, 13, 0, []), some (8, 32, 1, 16, 0, []), none, none, some (1, 1, 0, 17, 0, []), some (10, 0, 0, 18, 0, []), some (8, 32, 2, 21, 0, []), none, none, some (1, 1, 0, 22, 0, []), some (10, 0, 0, 23, 0, []), some (35, 6, 3, 26, 0, []), none, none, some (26, 32, 1, 29, 0, []), none, none, some (0, 0, 0, 31, (-2), []), none, some (36, 0, 0, 32, 0, []), some (2, 0, 0, 33, 0, []), some (5, 0, 0, 36, 0, []), none, none, some (1, 1, 0, 37, 0, []), some (10, 0, 0, 38, 0, []), some (3, 3, 0, 39, 0, []), some (1, 3, 0, 40, 0, []), some (1, 2, 0, 41, 0, []), some (27, 47, 1, 44, 0, []), none, none, some (0, 0, 0, 46, (-5), []), none, some (36, 0, 0, 47, 0, []), some (2, 0, 0, 48, 0, []), some (5, 0, 0, 51, 0, []), none, none, some (1, 1, 0, 52, 0, []), some (1, 2, 0, 53, 0, []), some (11, 0, 0, 54, 0, []), some (1, 3, 0, 55, 0, []), some (36, 0, 0, 56, 0, [])] -- DiskDrawer$State.setNumber
def dT_6 : DTbl := [some (1, 0, 0, 1, 0, []), some (1, 1, 0, 2, 0, []), some (27, 14, 2, 5, 0, []), none, none, some (1, 0, 0, 6, 0, []), some (1, 2, 0, 7, 0, []), some (27, 14, 4, 10, 0, []), none, none, some (0, 0, 0, 11, 1, []), some (28, 15, 0, 14, 0, []), none, none, some (0, 0, 0, 15, 0, []), some (42, 0, 0, 16, 0, [])] -- DiskDrawer.isWithin
def dT_7 : DTbl := [some (1, 1, 0, 1, 0, []), some (26, 6, 3, 4, 0, []), none, none, some (1, 1, 0, 5, 0, []), some (36, 0, 0, 6, 0, []), some (2, 0, 0, 7, 0, []), some (5, 4, 1, 10, 0, []), none, none, some (0, 0, 0, 11, 4, []), some (27, 27, 3, 14, 0, []), none, none, some (2, 0, 0, 15, 0, []), some (30, 0, 0, 16, 0, []), some (5, 4, 1, 19, 0, []), none, none, some (0, 0, 0, 20, 1, []), some (19, 0, 0, 21, 0, []), some (6, 4, 1, 24, 0, []), none, none, some (28, 31, 0, 27, 0, []), none, none, some (2, 0, 0, 28, 0, []), some (34, 8, 0, 31, 0, [4]), none, none, some (1, 1, 0, 32, 0, []), some (36, 0, 0, 33, 0, [])] -- DiskDrawer$Past.recorded
def dT_8 : DTbl := [some (2, 0, 0, 1, 0, []), some (5, 4, 0, 4, 0, []), none, none, some (0, 0, 0, 5, 0, []), some (12, 0, 0, 6, 0, []), some (4, 1, 0, 7, 0, []), some (0, 0, 0, 8, 0, []), some (3, 2, 0, 9, 0, []), some (1, 2, 0, 10, 0, []), some (0, 0, 0, 11, 4, []), some (27, 34, 3, 14, 0, []), none, none, some (2, 0, 0, 15, 0, []), some (5, 4, 0, 18, 0, []), none, none, some (1, 2, 0, 19, 0, []), some (2, 0, 0, 20, 0, []), some (5, 4, 0, 23, 0, []), none, none, some (1, 2, 0, 24, 0, []), some (0, 0, 0, 25, 1, []), some (19, 0, 0, 26, 0, []), some (12, 0, 0, 27, 0, []), some (13, 0, 0, 28, 0, []), some (25, 2, 0, 31, 1, []), none, none, some (28, 9, 0, 34, 0, []), none, none, some (2, 0, 0, 35, 0, []), some (5, 4, 0, 38, 0, []), none, none, some (0, 0, 0, 39, 4, []), some (2, 1, 0, 40, 0, []), some (13, 0, 0, 41, 0, []), some (37, 0, 0, 42, 0, [])] -- DiskDrawer$Past.forgetOldest
def dT_9 : DTbl := [some (2, 0, 0, 1, 0, []), some (5, 3, 4, 4, 0, []), none, none, some (2, 0, 0, 5, 0, []), some (5, 3, 0, 8, 0, []), none, none, some (34, 1, 1, 11, 0, [4]), none, none, some (2, 0, 0, 12, 0, []), some (5, 3, 4, 15, 0, []), none, none, some (2, 0, 0, 16, 0, []), some (5, 3, 0, 19, 0, []), none, none, some (1, 1, 0, 20, 0, []), some (1, 2, 0, 21, 0, []), some (34, 10, 2, 24, 0, [0]), none, none, some (34, 7, 1, 27, 0, [4]), none, none, some (36, 0, 0, 28, 0, [])] -- DiskDrawer.read
def dT_10 : DTbl := [some (1, 1, 0, 1, 0, []), some (35, 11, 1, 4, 0, []), none, none, some (26, 9, 1, 7, 0, []), none, none, some (0, 0, 0, 8, (-1), []), some (36, 0, 0, 9, 0, []), some (1, 2, 0, 10, 0, []), some (0, 0, 0, 11, 1, []), some (0, 0, 0, 13, 50, []), none, some (35, 6, 3, 16, 0, []), none, none, some (26, 22, 1, 19, 0, []), none, none, some (0, 0, 0, 21, (-2), []), none, some (36, 0, 0, 22, 0, []), some (2, 0, 0, 23, 0, []), some (5, 0, 1, 26, 0, []), none, none, some (1, 1, 0, 27, 0, []), some (12, 0, 0, 28, 0, []), some (5, 1, 0, 31, 0, []), none, none, some (0, 0, 0, 32, 3, []), some (27, 38, 1, 35, 0, []), none, none, some (0, 0, 0, 37, (-4), []), none, some (36, 0, 0, 38, 0, []), some (2, 0, 0, 39, 0, []), some (5, 0, 3, 42, 0, []), none, none, some (0, 0, 0, 44, 30, []), none, some (27, 57, 3, 47, 0, []), none, none, some (2, 0, 0, 48, 0, []), some (5, 0, 4, 51, 0, []), none, none, some (0, 0, 0, 54, 500, []), none, none, some (27, 60, 2, 57, 0, []), none, none, some (0, 0, 0, 59, (-3), []), none, some (36, 0, 0, 60, 0, []), some (2, 0, 0, 61, 0, []), some (5, 0, 2, 64, 0, []), none, none, some (2, 0, 0, 65, 0, []), some (5, 0, 3, 68, 0, []), none, none, some (12, 0, 0, 69, 0, []), some (4, 3, 0, 70, 0, []), some (2, 3, 0, 71, 0, []), some (2, 0, 0, 72, 0, []), some (5, 0, 4, 75, 0, []), none, none, some (6, 2, 0, 78, 0, []), none, none, some (2, 3, 0, 79, 0, []), some (1, 1, 0, 80, 0, []), some (6, 2, 1, 83, 0, []), none, none, some (2, 3, 0, 84, 0, []), some (1, 2, 0, 85, 0, []), some (6, 2, 2, 88, 0, []), none, none, some (2, 3, 0, 89, 0, []), some (1, 2, 0, 90, 0, []), some (6, 2, 3, 93, 0, []), none, none, some (2, 3, 0, 94, 0, []), some (2, 0, 0, 95, 0, []), some (5, 0, 8, 98, 0, []), none, none, some (6, 2, 4, 101, 0, []), none, none, some (2, 0, 0, 102, 0, []), some (30, 0, 0, 103, 0, []), some (5, 0, 3, 106, 0, []), none, none, some (0, 0, 0, 107, 1, []), some (19, 0, 0, 108, 0, []), some (6, 0, 3, 111, 0, []), none, none, some (2, 0, 0, 112, 0, []), some (30, 0, 0, 113, 0, []), some (5, 0, 4, 116, 0, []), none, none, some (0, 0, 0, 117, 1, []), some (19, 0, 0, 118, 0, []), some (6, 0, 4, 121, 0, []), none, none, some (2, 0, 0, 122, 0, []), some (5, 0, 1, 125, 0, []), none, none, some (1, 1, 0, 126, 0, []), some (12, 0, 0, 127, 0, []), some (30, 0, 0, 128, 0, []), some (5, 1, 6, 131, 0, []), none, none, some (0, 0, 0, 132, 1, []), some (19, 0, 0, 133, 0, []), some (6, 1, 6, 136, 0, []), none, none, some (2, 3, 0, 137, 0, []), some (5, 2, 0, 140, 0, []), none, none, some (36, 0, 0, 141, 0, [])] -- DiskDrawer$State.addRead
def dT_11 : DTbl := [some (1, 0, 0, 1, 0, []), some (0, 0, 0, 2, 0, []), some (0, 0, 0, 4, 11, []), none, some (35, 6, 3, 7, 0, []), none, none, some (42, 0, 0, 8, 0, [])] -- DiskDrawer$State.isDisk
def dT_12 : DTbl := [some (2, 0, 0, 1, 0, []), some (5, 3, 4, 4, 0, []), none, none, some (2, 0, 0, 5, 0, []), some (5, 3, 0, 8, 0, []), none, none, some (34, 1, 1, 11, 0, [4]), none, none, some (2, 0, 0, 12, 0, []), some (5, 3, 4, 15, 0, []), none, none, some (2, 0, 0, 16, 0, []), some (5, 3, 0, 19, 0, []), none, none, some (1, 1, 0, 20, 0, []), some (34, 13, 1, 23, 0, [0]), none, none, some (34, 7, 1, 26, 0, [4]), none, none, some (36, 0, 0, 27, 0, [])] -- DiskDrawer.drop
def dT_13 : DTbl := [some (2, 0, 0, 1, 0, []), some (1, 1, 0, 2, 0, []), some (34, 14, 1, 5, 0, [0]), none, none, some (3, 2, 0, 6, 0, []), some (1, 2, 0, 7, 0, []), some (26, 12, 3, 10, 0, []), none, none, some (0, 0, 0, 11, (-1), []), some (36, 0, 0, 12, 0, []), some (2, 0, 0, 13, 0, []), some (5, 0, 2, 16, 0, []), none, none, some (1, 2, 0, 17, 0, []), some (12, 0, 0, 18, 0, []), some (0, 0, 0, 19, 0, []), some (6, 2, 3, 22, 0, []), none, none, some (2, 0, 0, 23, 0, []), some (34, 15, 0, 26, 0, [0]), none, none, some (2, 0, 0, 27, 0, []), some (5, 0, 3, 30, 0, []), none, none, some (36, 0, 0, 31, 0, [])] -- DiskDrawer$State.dropRead
def dT_14 : DTbl := [some (0, 0, 0, 1, 0, []), some (3, 2, 0, 2, 0, []), some (1, 2, 0, 3, 0, []), some (2, 0, 0, 4, 0, []), some (5, 0, 3, 7, 0, []), none, none, some (27, 31, 3, 10, 0, []), none, none, some (2, 0, 0, 11, 0, []), some (5, 0, 2, 14, 0, []), none, none, some (1, 2, 0, 15, 0, []), some (12, 0, 0, 16, 0, []), some (5, 2, 0, 19, 0, []), none, none, some (1, 1, 0, 20, 0, []), some (27, 25, 1, 23, 0, []), none, none, some (1, 2, 0, 24, 0, []), some (36, 0, 0, 25, 0, []), some (25, 2, 0, 28, 1, []), none, none, some (28, 2, 0, 31, 0, []), none, none, some (0, 0, 0, 32, (-1), []), some (36, 0, 0, 33, 0, [])] -- DiskDrawer$State.placeOf
def dT_15 : DTbl := [some (0, 0, 0, 1, 0, []), some (3, 1, 0, 2, 0, []), some (0, 0, 0, 3, 0, []), some (3, 2, 0, 4, 0, []), some (1, 2, 0, 5, 0, []), some (2, 0, 0, 6, 0, []), some (5, 0, 3, 9, 0, []), none, none, some (27, 75, 3, 12, 0, []), none, none, some (2, 0, 0, 13, 0, []), some (5, 0, 2, 16, 0, []), none, none, some (1, 2, 0, 17, 0, []), some (12, 0, 0, 18, 0, []), some (4, 3, 0, 19, 0, []), some (2, 3, 0, 20, 0, []), some (5, 2, 3, 23, 0, []), none, none, some (26, 51, 5, 26, 0, []), none, none, some (2, 0, 0, 27, 0, []), some (5, 0, 2, 30, 0, []), none, none, some (1, 2, 0, 31, 0, []), some (2, 0, 0, 32, 0, []), some (5, 0, 2, 35, 0, []), none, none, some (1, 1, 0, 36, 0, []), some (12, 0, 0, 37, 0, []), some (13, 0, 0, 38, 0, []), some (2, 0, 0, 39, 0, []), some (5, 0, 2, 42, 0, []), none, none, some (1, 1, 0, 43, 0, []), some (2, 3, 0, 44, 0, []), some (13, 0, 0, 45, 0, []), some (25, 1, 0, 48, 1, []), none, none, some (28, 69, 0, 51, 0, []), none, none, some (2, 0, 0, 52, 0, []), some (5, 0, 1, 55, 0, []), none, none, some (2, 3, 0, 56, 0, []), some (5, 2, 1, 59, 0, []), none, none, some (12, 0, 0, 60, 0, []), some (30, 0, 0, 61, 0, []), some (5, 1, 6, 64, 0, []), none, none, some (0, 0, 0, 65, 1, []), some (20, 0, 0, 66, 0, []), some (6, 1, 6, 69, 0, []), none, none, some (25, 2, 0, 72, 1, []), none, none, some (28, 4, 0, 75, 0, []), none, none, some (2, 0, 0, 76, 0, []), some (1, 1, 0, 77, 0, []), some (6, 0, 3, 80, 0, []), none, none, some (37, 0, 0, 81, 0, [])] -- DiskDrawer$State.sweepReads
def dT_16 : DTbl := [some (2, 0, 0, 1, 0, []), some (5, 3, 4, 4, 0, []), none, none, some (2, 0, 0, 5, 0, []), some (5, 3, 0, 8, 0, []), none, none, some (34, 1, 1, 11, 0, [4]), none, none, some (2, 0, 0, 12, 0, []), some (5, 3, 4, 15, 0, []), none, none, some (2, 0, 0, 16, 0, []), some (5, 3, 0, 19, 0, []), none, none, some (1, 1, 0, 20, 0, []), some (34, 17, 1, 23, 0, [0]), none, none, some (34, 7, 1, 26, 0, [4]), none, none, some (36, 0, 0, 27, 0, [])] -- DiskDrawer.fail
def dT_17 : DTbl := [some (1, 1, 0, 1, 0, []), some (35, 11, 1, 4, 0, []), none, none, some (26, 9, 1, 7, 0, []), none, none, some (0, 0, 0, 8, (-1), []), some (36, 0, 0, 9, 0, []), some (2, 0, 0, 10, 0, []), some (5, 0, 1, 13, 0, []), none, none, some (1, 1, 0, 14, 0, []), some (12, 0, 0, 15, 0, []), some (5, 1, 0, 18, 0, []), none, none, some (0, 0, 0, 19, 3, []), some (27, 25, 1, 22, 0, []), none, none, some (0, 0, 0, 24, (-4), []), none, some (36, 0, 0, 25, 0, []), some (2, 0, 0, 26, 0, []), some (5, 0, 1, 29, 0, []), none, none, some (1, 1, 0, 30, 0, []), some (12, 0, 0, 31, 0, []), some (5, 1, 5, 34, 0, []), none, none, some (26, 40, 0, 37, 0, []), none, none, some (0, 0, 0, 39, (-5), []), none, some (36, 0, 0, 40, 0, []), some (2, 0, 0, 41, 0, []), some (5, 0, 1, 44, 0, []), none, none, some (1, 1, 0, 45, 0, []), some (12, 0, 0, 46, 0, []), some (0, 0, 0, 47, 1, []), some (7, 1, 5, 50, 0, []), none, none, some (0, 0, 0, 51, 0, []), some (3, 2, 0, 52, 0, []), some (0, 0, 0, 53, 0, []), some (3, 3, 0, 54, 0, []), some (1, 3, 0, 55, 0, []), some (0, 0, 0, 57, 12, []), none, some (27, 81, 3, 60, 0, []), none, none, some (1, 2, 0, 61, 0, []), some (2, 0, 0, 62, 0, []), some (5, 0, 1, 65, 0, []), none, none, some (1, 3, 0, 66, 0, []), some (12, 0, 0, 67, 0, []), some (5, 1, 5, 70, 0, []), none, none, some (35, 18, 1, 73, 0, []), none, none, some (19, 0, 0, 74, 0, []), some (3, 2, 0, 75, 0, []), some (25, 3, 0, 78, 1, []), none, none, some (28, 54, 0, 81, 0, []), none, none, some (1, 2, 0, 82, 0, []), some (36, 0, 0, 83, 0, [])] -- DiskDrawer$State.planFault
def dT_18 : DTbl := [some (1, 0, 0, 1, 0, []), some (26, 8, 0, 4, 0, []), none, none, some (0, 0, 0, 5, 1, []), some (28, 9, 0, 8, 0, []), none, none, some (0, 0, 0, 9, 0, []), some (36, 0, 0, 10, 0, [])] -- DiskDrawer.flag
def dT_19 : DTbl := [some (2, 0, 0, 1, 0, []), some (5, 3, 4, 4, 0, []), none, none, some (2, 0, 0, 5, 0, []), some (5, 3, 0, 8, 0, []), none, none, some (34, 1, 1, 11, 0, [4]), none, none, some (2, 0, 0, 12, 0, []), some (5, 3, 4, 15, 0, []), none, none, some (2, 0, 0, 16, 0, []), some (5, 3, 0, 19, 0, []), none, none, some (1, 1, 0, 20, 0, []), some (34, 20, 1, 23, 0, [0]), none, none, some (34, 7, 1, 26, 0, [4]), none, none, some (36, 0, 0, 27, 0, [])] -- DiskDrawer.replace
def dT_20 : DTbl := [some (1, 1, 0, 1, 0, []), some (35, 11, 1, 4, 0, []), none, none, some (26, 9, 1, 7, 0, []), none, none, some (0, 0, 0, 8, (-1), []), some (36, 0, 0, 9, 0, []), some (2, 0, 0, 10, 0, []), some (5, 0, 1, 13, 0, []), none, none, some (1, 1, 0, 14, 0, []), some (12, 0, 0, 15, 0, []), some (5, 1, 0, 18, 0, []), none, none, some (3, 2, 0, 19, 0, []), some (2, 0, 0, 20, 0, []), some (5, 0, 1, 23, 0, []), none, none, some (1, 1, 0, 24, 0, []), some (12, 0, 0, 25, 0, []), some (34, 21, 0, 28, 0, [1]), none, none, some (0, 0, 0, 29, 0, []), some (3, 3, 0, 30, 0, []), some (1, 3, 0, 31, 0, []), some (2, 0, 0, 32, 0, []), some (5, 0, 3, 35, 0, []), none, none, some (27, 75, 3, 38, 0, []), none, none, some (2, 0, 0, 39, 0, []), some (5, 0, 2, 42, 0, []), none, none, some (1, 3, 0, 43, 0, []), some (12, 0, 0, 44, 0, []), some (5, 2, 1, 47, 0, []), none, none, some (1, 1, 0, 48, 0, []), some (27, 69, 1, 51, 0, []), none, none, some (2, 0, 0, 52, 0, []), some (5, 0, 2, 55, 0, []), none, none, some (1, 3, 0, 56, 0, []), some (12, 0, 0, 57, 0, []), some (2, 0, 0, 58, 0, []), some (5, 0, 2, 61, 0, []), none, none, some (1, 3, 0, 62, 0, []), some (12, 0, 0, 63, 0, []), some (5, 2, 2, 66, 0, []), none, none, some (6, 2, 3, 69, 0, []), none, none, some (25, 3, 0, 72, 1, []), none, none, some (28, 30, 0, 75, 0, []), none, none, some (1, 2, 0, 76, 0, []), some (36, 0, 0, 77, 0, [])] -- DiskDrawer$State.replaceDisk
def dT_21 : DTbl := [some (2, 0, 0, 1, 0, []), some (34, 22, 0, 4, 0, [1]), none, none, some (2, 0, 0, 5, 0, []), some (0, 0, 0, 6, 0, []), some (6, 1, 2, 9, 0, []), none, none, some (2, 0, 0, 10, 0, []), some (0, 0, 0, 11, 0, []), some (6, 1, 4, 14, 0, []), none, none, some (2, 0, 0, 15, 0, []), some (0, 0, 0, 16, 0, []), some (7, 1, 5, 19, 0, []), none, none, some (37, 0, 0, 20, 0, [])] -- DiskDrawer$Disk.renew
def dT_22 : DTbl := [some (2, 0, 0, 1, 0, []), some (0, 0, 0, 2, 0, []), some (6, 1, 0, 5, 0, []), none, none, some (2, 0, 0, 6, 0, []), some (0, 0, 0, 7, 0, []), some (6, 1, 1, 10, 0, []), none, none, some (2, 0, 0, 11, 0, []), some (0, 0, 0, 12, 0, []), some (6, 1, 3, 15, 0, []), none, none, some (37, 0, 0, 16, 0, [])] -- DiskDrawer$Disk.standBy
def dT_23 : DTbl := [some (2, 0, 0, 1, 0, []), some (5, 3, 4, 4, 0, []), none, none, some (2, 0, 0, 5, 0, []), some (5, 3, 0, 8, 0, []), none, none, some (34, 1, 1, 11, 0, [4]), none, none, some (2, 0, 0, 12, 0, []), some (5, 3, 4, 15, 0, []), none, none, some (2, 0, 0, 16, 0, []), some (5, 3, 0, 19, 0, []), none, none, some (34, 24, 0, 22, 0, [0]), none, none, some (34, 7, 1, 25, 0, [4]), none, none, some (36, 0, 0, 26, 0, [])] -- DiskDrawer.fuse
def dT_24 : DTbl := [some (2, 0, 0, 1, 0, []), some (5, 0, 10, 4, 0, []), none, none, some (26, 10, 1, 7, 0, []), none, none, some (0, 0, 0, 9, (-5), []), none, some (36, 0, 0, 10, 0, []), some (2, 0, 0, 11, 0, []), some (0, 0, 0, 12, 0, []), some (7, 0, 10, 15, 0, []), none, none, some (2, 0, 0, 16, 0, []), some (34, 25, 0, 19, 0, [0]), none, none, some (36, 0, 0, 20, 0, [])] -- DiskDrawer$State.renewFuse
def dT_25 : DTbl := [some (0, 0, 0, 1, 0, []), some (3, 1, 0, 2, 0, []), some (0, 0, 0, 3, 0, []), some (3, 2, 0, 4, 0, []), some (1, 2, 0, 5, 0, []), some (0, 0, 0, 7, 12, []), none, some (27, 29, 3, 10, 0, []), none, none, some (1, 1, 0, 11, 0, []), some (2, 0, 0, 12, 0, []), some (2, 0, 0, 13, 0, []), some (5, 0, 1, 16, 0, []), none, none, some (1, 2, 0, 17, 0, []), some (12, 0, 0, 18, 0, []), some (34, 26, 1, 21, 0, [0]), none, none, some (19, 0, 0, 22, 0, []), some (3, 1, 0, 23, 0, []), some (25, 2, 0, 26, 1, []), none, none, some (28, 4, 0, 29, 0, []), none, none, some (1, 1, 0, 30, 0, []), some (36, 0, 0, 31, 0, [])] -- DiskDrawer$State.currentOfNow
def dT_26 : DTbl := [some (2, 1, 0, 1, 0, []), some (5, 1, 0, 4, 0, []), none, none, some (29, 71, 0, 32, 0, [32, 39, 46]), none, none, none, none, none, none, none, none, none, none, none, none, none, none, none, none, none, none, none, none, none, none, none, none, none, none, none, some (2, 0, 0, 33, 0, []), some (5, 0, 0, 36, 0, []), none, none, some (0, 0, 0, 37, 4, []), some (10, 0, 0, 38, 0, []), some (36, 0, 0, 39, 0, []), some (2, 0, 0, 40, 0, []), some (5, 0, 0, 43, 0, []), none, none, some (0, 0, 0, 44, 1, []), some (10, 0, 0, 45, 0, []), some (36, 0, 0, 46, 0, []), some (2, 0, 0, 47, 0, []), some (5, 0, 0, 50, 0, []), none, none, some (0, 0, 0, 51, 2, []), some (10, 0, 0, 52, 0, []), some (2, 1, 0, 53, 0, []), some (5, 1, 6, 56, 0, []), none, none, some (26, 68, 5, 59, 0, []), none, none, some (2, 0, 0, 60, 0, []), some (5, 0, 0, 63, 0, []), none, none, some (0, 0, 0, 64, 3, []), some (10, 0, 0, 65, 0, []), some (28, 69, 0, 68, 0, []), none, none, some (0, 0, 0, 69, 0, []), some (19, 0, 0, 70, 0, []), some (36, 0, 0, 71, 0, []), some (0, 0, 0, 72, 0, []), some (36, 0, 0, 73, 0, [])] -- DiskDrawer$State.currentOf
def dT_27 : DTbl := [some (2, 0, 0, 1, 0, []), some (5, 3, 4, 4, 0, []), none, none, some (2, 0, 0, 5, 0, []), some (5, 3, 0, 8, 0, []), none, none, some (34, 1, 1, 11, 0, [4]), none, none, some (2, 0, 0, 12, 0, []), some (5, 3, 4, 15, 0, []), none, none, some (2, 0, 0, 16, 0, []), some (5, 3, 0, 19, 0, []), none, none, some (1, 1, 0, 20, 0, []), some (34, 28, 1, 23, 0, [0]), none, none, some (34, 7, 1, 26, 0, [4]), none, none, some (36, 0, 0, 27, 0, [])] -- DiskDrawer.run
def dT_28 : DTbl := [some (1, 1, 0, 1, 0, []), some (0, 0, 0, 2, 1, []), some (0, 0, 0, 5, 200, []), none, none, some (35, 6, 3, 8, 0, []), none, none, some (26, 14, 1, 11, 0, []), none, none, some (0, 0, 0, 13, (-2), []), none, some (36, 0, 0, 14, 0, []), some (2, 0, 0, 15, 0, []), some (5, 0, 8, 18, 0, []), none, none, some (1, 1, 0, 19, 0, []), some (19, 0, 0, 20, 0, []), some (0, 0, 0, 22, 99999, []), none, some (27, 28, 5, 25, 0, []), none, none, some (0, 0, 0, 27, (-3), []), none, some (36, 0, 0, 28, 0, []), some (2, 0, 0, 29, 0, []), some (5, 0, 5, 32, 0, []), none, none, some (3, 2, 0, 33, 0, []), some (0, 0, 0, 34, 0, []), some (3, 3, 0, 35, 0, []), some (1, 3, 0, 36, 0, []), some (1, 1, 0, 37, 0, []), some (27, 50, 3, 40, 0, []), none, none, some (2, 0, 0, 41, 0, []), some (34, 29, 0, 44, 0, [0]), none, none, some (25, 3, 0, 47, 1, []), none, none, some (28, 35, 0, 50, 0, []), none, none, some (2, 0, 0, 51, 0, []), some (5, 0, 5, 54, 0, []), none, none, some (1, 2, 0, 55, 0, []), some (20, 0, 0, 56, 0, []), some (36, 0, 0, 57, 0, [])] -- DiskDrawer$State.pass
def dT_29 : DTbl := [some (2, 0, 0, 1, 0, []), some (5, 0, 10, 4, 0, []), none, none, some (26, 14, 0, 7, 0, []), none, none, some (2, 0, 0, 8, 0, []), some (34, 30, 0, 11, 0, [0]), none, none, some (28, 28, 0, 14, 0, []), none, none, some (2, 0, 0, 15, 0, []), some (34, 31, 0, 18, 0, [0]), none, none, some (3, 1, 0, 19, 0, []), some (2, 0, 0, 20, 0, []), some (34, 35, 0, 23, 0, [0]), none, none, some (2, 0, 0, 24, 0, []), some (1, 1, 0, 25, 0, []), some (34, 37, 1, 28, 0, [0]), none, none, some (2, 0, 0, 29, 0, []), some (30, 0, 0, 30, 0, []), some (5, 0, 8, 33, 0, []), none, none, some (0, 0, 0, 34, 1, []), some (19, 0, 0, 35, 0, []), some (6, 0, 8, 38, 0, []), none, none, some (2, 0, 0, 39, 0, []), some (34, 42, 0, 42, 0, [0]), none, none, some (37, 0, 0, 43, 0, [])] -- DiskDrawer$State.tick
def dT_30 : DTbl := [some (0, 0, 0, 1, 0, []), some (3, 1, 0, 2, 0, []), some (1, 1, 0, 3, 0, []), some (0, 0, 0, 5, 12, []), none, some (27, 36, 3, 8, 0, []), none, none, some (2, 0, 0, 9, 0, []), some (5, 0, 1, 12, 0, []), none, none, some (1, 1, 0, 13, 0, []), some (12, 0, 0, 14, 0, []), some (5, 1, 0, 17, 0, []), none, none, some (0, 0, 0, 18, 3, []), some (27, 30, 0, 21, 0, []), none, none, some (2, 0, 0, 22, 0, []), some (5, 0, 1, 25, 0, []), none, none, some (1, 1, 0, 26, 0, []), some (12, 0, 0, 27, 0, []), some (34, 22, 0, 30, 0, [1]), none, none, some (25, 1, 0, 33, 1, []), none, none, some (28, 2, 0, 36, 0, []), none, none, some (0, 0, 0, 37, 0, []), some (3, 1, 0, 38, 0, []), some (1, 1, 0, 39, 0, []), some (2, 0, 0, 40, 0, []), some (5, 0, 3, 43, 0, []), none, none, some (27, 70, 3, 46, 0, []), none, none, some (2, 0, 0, 47, 0, []), some (5, 0, 2, 50, 0, []), none, none, some (1, 1, 0, 51, 0, []), some (12, 0, 0, 52, 0, []), some (2, 0, 0, 53, 0, []), some (5, 0, 2, 56, 0, []), none, none, some (1, 1, 0, 57, 0, []), some (12, 0, 0, 58, 0, []), some (5, 2, 2, 61, 0, []), none, none, some (6, 2, 3, 64, 0, []), none, none, some (25, 1, 0, 67, 1, []), none, none, some (28, 38, 0, 70, 0, []), none, none, some (37, 0, 0, 71, 0, [])] -- DiskDrawer$State.cutOff
def dT_31 : DTbl := [some (0, 0, 0, 1, 0, []), some (3, 1, 0, 2, 0, []), some (0, 0, 0, 3, 0, []), some (3, 2, 0, 4, 0, []), some (1, 2, 0, 5, 0, []), some (0, 0, 0, 7, 12, []), none, some (27, 102, 3, 10, 0, []), none, none, some (2, 0, 0, 11, 0, []), some (5, 0, 1, 14, 0, []), none, none, some (1, 2, 0, 15, 0, []), some (12, 0, 0, 16, 0, []), some (4, 3, 0, 17, 0, []), some (2, 3, 0, 18, 0, []), some (5, 1, 0, 21, 0, []), none, none, some (0, 0, 0, 22, 1, []), some (27, 96, 1, 25, 0, []), none, none, some (2, 3, 0, 26, 0, []), some (30, 0, 0, 27, 0, []), some (5, 1, 1, 30, 0, []), none, none, some (0, 0, 0, 31, 1, []), some (20, 0, 0, 32, 0, []), some (6, 1, 1, 35, 0, []), none, none, some (2, 3, 0, 36, 0, []), some (5, 1, 1, 39, 0, []), none, none, some (26, 85, 4, 42, 0, []), none, none, some (2, 3, 0, 43, 0, []), some (5, 1, 5, 46, 0, []), none, none, some (26, 85, 0, 49, 0, []), none, none, some (1, 1, 0, 50, 0, []), some (0, 0, 0, 51, 1, []), some (1, 2, 0, 52, 0, []), some (24, 0, 0, 53, 0, []), some (23, 0, 0, 54, 0, []), some (3, 1, 0, 55, 0, []), some (2, 0, 0, 56, 0, []), some (30, 0, 0, 57, 0, []), some (5, 0, 14, 60, 0, []), none, none, some (0, 0, 0, 61, 1, []), some (19, 0, 0, 62, 0, []), some (6, 0, 14, 65, 0, []), none, none, some (2, 3, 0, 66, 0, []), some (34, 32, 0, 69, 0, [1]), none, none, some (2, 3, 0, 70, 0, []), some (5, 1, 0, 73, 0, []), none, none, some (0, 0, 0, 74, 3, []), some (27, 96, 1, 77, 0, []), none, none, some (2, 0, 0, 78, 0, []), some (1, 2, 0, 79, 0, []), some (34, 33, 1, 82, 0, [0]), none, none, some (28, 96, 0, 85, 0, []), none, none, some (2, 3, 0, 86, 0, []), some (5, 1, 1, 89, 0, []), none, none, some (26, 96, 4, 92, 0, []), none, none, some (2, 3, 0, 93, 0, []), some (34, 34, 0, 96, 0, [1]), none, none, some (25, 2, 0, 99, 1, []), none, none, some (28, 4, 0, 102, 0, []), none, none, some (1, 1, 0, 103, 0, []), some (36, 0, 0, 104, 0, [])] -- DiskDrawer$State.goOnStarting
def dT_32 : DTbl := [some (2, 0, 0, 1, 0, []), some (34, 22, 0, 4, 0, [1]), none, none, some (2, 0, 0, 5, 0, []), some (0, 0, 0, 6, 0, []), some (7, 1, 5, 9, 0, []), none, none, some (2, 0, 0, 10, 0, []), some (30, 0, 0, 11, 0, []), some (5, 1, 2, 14, 0, []), none, none, some (0, 0, 0, 15, 1, []), some (19, 0, 0, 16, 0, []), some (6, 1, 2, 19, 0, []), none, none, some (2, 0, 0, 20, 0, []), some (5, 1, 2, 23, 0, []), none, none, some (0, 0, 0, 24, 3, []), some (27, 32, 2, 27, 0, []), none, none, some (2, 0, 0, 28, 0, []), some (0, 0, 0, 29, 3, []), some (6, 1, 0, 32, 0, []), none, none, some (37, 0, 0, 33, 0, [])] -- DiskDrawer$Disk.failStart
def dT_33 : DTbl := [some (0, 0, 0, 1, 0, []), some (3, 2, 0, 2, 0, []), some (1, 2, 0, 3, 0, []), some (2, 0, 0, 4, 0, []), some (5, 0, 3, 7, 0, []), none, none, some (27, 49, 3, 10, 0, []), none, none, some (2, 0, 0, 11, 0, []), some (5, 0, 2, 14, 0, []), none, none, some (1, 2, 0, 15, 0, []), some (12, 0, 0, 16, 0, []), some (5, 2, 1, 19, 0, []), none, none, some (1, 1, 0, 20, 0, []), some (27, 43, 1, 23, 0, []), none, none, some (2, 0, 0, 24, 0, []), some (5, 0, 2, 27, 0, []), none, none, some (1, 2, 0, 28, 0, []), some (12, 0, 0, 29, 0, []), some (0, 0, 0, 30, 0, []), some (6, 2, 3, 33, 0, []), none, none, some (2, 0, 0, 34, 0, []), some (30, 0, 0, 35, 0, []), some (5, 0, 6, 38, 0, []), none, none, some (0, 0, 0, 39, 1, []), some (19, 0, 0, 40, 0, []), some (6, 0, 6, 43, 0, []), none, none, some (25, 2, 0, 46, 1, []), none, none, some (28, 2, 0, 49, 0, []), none, none, some (37, 0, 0, 50, 0, [])] -- DiskDrawer$State.loseReadsOf
def dT_34 : DTbl := [some (2, 0, 0, 1, 0, []), some (0, 0, 0, 2, 2, []), some (6, 1, 0, 5, 0, []), none, none, some (2, 0, 0, 6, 0, []), some (0, 0, 0, 7, 0, []), some (6, 1, 2, 10, 0, []), none, none, some (2, 0, 0, 11, 0, []), some (0, 0, 0, 12, 0, []), some (6, 1, 3, 15, 0, []), none, none, some (37, 0, 0, 16, 0, [])] -- DiskDrawer$Disk.spinUp
def dT_35 : DTbl := [some (0, 0, 0, 1, 0, []), some (3, 1, 0, 2, 0, []), some (0, 0, 0, 3, 0, []), some (3, 2, 0, 4, 0, []), some (1, 2, 0, 5, 0, []), some (2, 0, 0, 6, 0, []), some (5, 0, 3, 9, 0, []), none, none, some (27, 121, 3, 12, 0, []), none, none, some (2, 0, 0, 13, 0, []), some (5, 0, 2, 16, 0, []), none, none, some (1, 2, 0, 17, 0, []), some (12, 0, 0, 18, 0, []), some (4, 3, 0, 19, 0, []), some (0, 0, 0, 20, 1, []), some (2, 3, 0, 21, 0, []), some (5, 2, 1, 24, 0, []), none, none, some (24, 0, 0, 25, 0, []), some (3, 4, 0, 27, 0, []), none, some (2, 0, 0, 28, 0, []), some (5, 0, 1, 31, 0, []), none, none, some (2, 3, 0, 32, 0, []), some (5, 2, 1, 35, 0, []), none, none, some (12, 0, 0, 36, 0, []), some (5, 1, 0, 39, 0, []), none, none, some (0, 0, 0, 40, 2, []), some (27, 115, 1, 43, 0, []), none, none, some (1, 1, 0, 44, 0, []), some (1, 4, 0, 46, 0, []), none, some (22, 0, 0, 47, 0, []), some (26, 115, 1, 50, 0, []), none, none, some (1, 1, 0, 51, 0, []), some (1, 4, 0, 53, 0, []), none, some (23, 0, 0, 54, 0, []), some (3, 1, 0, 55, 0, []), some (2, 0, 0, 56, 0, []), some (5, 0, 1, 59, 0, []), none, none, some (2, 3, 0, 60, 0, []), some (5, 2, 1, 63, 0, []), none, none, some (12, 0, 0, 64, 0, []), some (0, 0, 0, 65, 0, []), some (6, 1, 3, 68, 0, []), none, none, some (2, 3, 0, 69, 0, []), some (30, 0, 0, 70, 0, []), some (5, 2, 3, 73, 0, []), none, none, some (0, 0, 0, 74, 1, []), some (20, 0, 0, 75, 0, []), some (6, 2, 3, 78, 0, []), none, none, some (2, 3, 0, 79, 0, []), some (5, 2, 3, 82, 0, []), none, none, some (26, 115, 4, 85, 0, []), none, none, some (2, 0, 0, 86, 0, []), some (30, 0, 0, 87, 0, []), some (5, 0, 5, 90, 0, []), none, none, some (0, 0, 0, 91, 1, []), some (19, 0, 0, 92, 0, []), some (6, 0, 5, 95, 0, []), none, none, some (2, 0, 0, 96, 0, []), some (30, 0, 0, 97, 0, []), some (5, 0, 7, 100, 0, []), none, none, some (2, 0, 0, 101, 0, []), some (5, 0, 8, 104, 0, []), none, none, some (0, 0, 0, 105, 1, []), some (19, 0, 0, 106, 0, []), some (2, 3, 0, 107, 0, []), some (5, 2, 4, 110, 0, []), none, none, some (20, 0, 0, 111, 0, []), some (19, 0, 0, 112, 0, []), some (6, 0, 7, 115, 0, []), none, none, some (25, 2, 0, 118, 1, []), none, none, some (28, 4, 0, 121, 0, []), none, none, some (2, 0, 0, 122, 0, []), some (1, 1, 0, 123, 0, []), some (34, 36, 1, 126, 0, [0]), none, none, some (2, 0, 0, 127, 0, []), some (34, 15, 0, 130, 0, [0]), none, none, some (37, 0, 0, 131, 0, [])] -- DiskDrawer$State.goOnReading
def dT_36 : DTbl := [some (0, 0, 0, 1, 0, []), some (3, 2, 0, 2, 0, []), some (1, 2, 0, 3, 0, []), some (0, 0, 0, 5, 12, []), none, some (27, 75, 3, 8, 0, []), none, none, some (2, 0, 0, 9, 0, []), some (5, 0, 1, 12, 0, []), none, none, some (1, 2, 0, 13, 0, []), some (12, 0, 0, 14, 0, []), some (4, 3, 0, 15, 0, []), some (2, 3, 0, 16, 0, []), some (5, 1, 0, 19, 0, []), none, none, some (0, 0, 0, 20, 2, []), some (27, 69, 1, 23, 0, []), none, none, some (1, 1, 0, 24, 0, []), some (0, 0, 0, 25, 1, []), some (1, 2, 0, 26, 0, []), some (24, 0, 0, 27, 0, []), some (22, 0, 0, 28, 0, []), some (26, 69, 1, 31, 0, []), none, none, some (2, 3, 0, 32, 0, []), some (30, 0, 0, 33, 0, []), some (5, 1, 3, 36, 0, []), none, none, some (0, 0, 0, 37, 1, []), some (19, 0, 0, 38, 0, []), some (6, 1, 3, 41, 0, []), none, none, some (2, 0, 0, 42, 0, []), some (5, 0, 0, 45, 0, []), none, none, some (0, 0, 0, 47, 9, []), none, some (10, 0, 0, 48, 0, []), some (26, 69, 5, 51, 0, []), none, none, some (2, 3, 0, 52, 0, []), some (5, 1, 3, 55, 0, []), none, none, some (2, 0, 0, 56, 0, []), some (5, 0, 0, 59, 0, []), none, none, some (0, 0, 0, 61, 9, []), none, some (10, 0, 0, 62, 0, []), some (27, 69, 2, 65, 0, []), none, none, some (2, 3, 0, 66, 0, []), some (34, 22, 0, 69, 0, [1]), none, none, some (25, 2, 0, 72, 1, []), none, none, some (28, 2, 0, 75, 0, []), none, none, some (37, 0, 0, 76, 0, [])] -- DiskDrawer$State.restIdle
def dT_37 : DTbl := [some (2, 0, 0, 1, 0, []), some (34, 25, 0, 4, 0, [0]), none, none, some (3, 2, 0, 5, 0, []), some (2, 0, 0, 6, 0, []), some (0, 0, 0, 7, 1, []), some (34, 38, 1, 10, 0, [0]), none, none, some (3, 3, 0, 11, 0, []), some (0, 0, 0, 12, 0, []), some (3, 4, 0, 14, 0, []), none, some (1, 4, 0, 16, 0, []), none, some (0, 0, 0, 18, 12, []), none, some (27, 113, 3, 21, 0, []), none, none, some (2, 0, 0, 22, 0, []), some (5, 0, 1, 25, 0, []), none, none, some (1, 4, 0, 27, 0, []), none, some (12, 0, 0, 28, 0, []), some (4, 5, 0, 30, 0, []), none, some (2, 5, 0, 32, 0, []), none, some (5, 1, 0, 35, 0, []), none, none, some (26, 59, 1, 38, 0, []), none, none, some (2, 5, 0, 40, 0, []), none, some (5, 1, 6, 43, 0, []), none, none, some (26, 59, 5, 46, 0, []), none, none, some (1, 1, 0, 47, 0, []), some (0, 0, 0, 48, 1, []), some (1, 4, 0, 50, 0, []), none, some (24, 0, 0, 51, 0, []), some (22, 0, 0, 52, 0, []), some (26, 59, 1, 55, 0, []), none, none, some (0, 0, 0, 56, 1, []), some (28, 60, 0, 59, 0, []), none, none, some (0, 0, 0, 60, 0, []), some (3, 6, 0, 62, 0, []), none, some (1, 6, 0, 64, 0, []), none, some (26, 107, 0, 67, 0, []), none, none, some (2, 0, 0, 68, 0, []), some (1, 3, 0, 69, 0, []), some (1, 2, 0, 70, 0, []), some (34, 39, 2, 73, 0, [0]), none, none, some (26, 107, 0, 76, 0, []), none, none, some (2, 5, 0, 78, 0, []), none, some (2, 0, 0, 79, 0, []), some (5, 0, 0, 82, 0, []), none, none, some (0, 0, 0, 83, 0, []), some (10, 0, 0, 84, 0, []), some (34, 41, 1, 87, 0, [1]), none, none, some (2, 0, 0, 88, 0, []), some (30, 0, 0, 89, 0, []), some (5, 0, 13, 92, 0, []), none, none, some (0, 0, 0, 93, 1, []), some (19, 0, 0, 94, 0, []), some (6, 0, 13, 97, 0, []), none, none, some (25, 3, 0, 100, 1, []), none, none, some (1, 2, 0, 101, 0, []), some (2, 0, 0, 102, 0, []), some (34, 40, 0, 105, 0, [0]), none, none, some (19, 0, 0, 106, 0, []), some (3, 2, 0, 107, 0, []), some (25, 4, 0, 110, 1, []), none, none, some (28, 14, 0, 113, 0, []), none, none, some (37, 0, 0, 114, 0, [])] -- DiskDrawer$State.beginStarts
def dT_38 : DTbl := [some (0, 0, 0, 1, 0, []), some (3, 2, 0, 2, 0, []), some (0, 0, 0, 3, 0, []), some (3, 3, 0, 4, 0, []), some (1, 3, 0, 5, 0, []), some (0, 0, 0, 7, 12, []), none, some (27, 40, 3, 10, 0, []), none, none, some (1, 2, 0, 11, 0, []), some (2, 0, 0, 12, 0, []), some (5, 0, 1, 15, 0, []), none, none, some (1, 3, 0, 16, 0, []), some (12, 0, 0, 17, 0, []), some (5, 1, 0, 20, 0, []), none, none, some (1, 1, 0, 21, 0, []), some (27, 28, 1, 24, 0, []), none, none, some (0, 0, 0, 25, 1, []), some (28, 29, 0, 28, 0, []), none, none, some (0, 0, 0, 29, 0, []), some (35, 18, 1, 32, 0, []), none, none, some (19, 0, 0, 33, 0, []), some (3, 2, 0, 34, 0, []), some (25, 3, 0, 37, 1, []), none, none, some (28, 4, 0, 40, 0, []), none, none, some (1, 2, 0, 41, 0, []), some (36, 0, 0, 42, 0, [])] -- DiskDrawer$State.disksThat
def dT_39 : DTbl := [some (1, 1, 0, 1, 0, []), some (2, 0, 0, 2, 0, []), some (5, 0, 0, 5, 0, []), none, none, some (0, 0, 0, 7, 8, []), none, some (10, 0, 0, 8, 0, []), some (27, 30, 3, 11, 0, []), none, none, some (1, 2, 0, 12, 0, []), some (2, 0, 0, 13, 0, []), some (34, 40, 0, 16, 0, [0]), none, none, some (19, 0, 0, 17, 0, []), some (2, 0, 0, 18, 0, []), some (5, 0, 0, 21, 0, []), none, none, some (0, 0, 0, 22, 5, []), some (10, 0, 0, 23, 0, []), some (27, 30, 4, 26, 0, []), none, none, some (0, 0, 0, 27, 1, []), some (28, 31, 0, 30, 0, []), none, none, some (0, 0, 0, 31, 0, []), some (42, 0, 0, 32, 0, [])] -- DiskDrawer$State.mayStart
def dT_40 : DTbl := [some (2, 0, 0, 1, 0, []), some (5, 0, 0, 4, 0, []), none, none, some (0, 0, 0, 5, 1, []), some (10, 0, 0, 6, 0, []), some (2, 0, 0, 7, 0, []), some (5, 0, 0, 10, 0, []), none, none, some (0, 0, 0, 11, 4, []), some (10, 0, 0, 12, 0, []), some (20, 0, 0, 13, 0, []), some (36, 0, 0, 14, 0, [])] -- DiskDrawer$State.currentAddedByStart
def dT_41 : DTbl := [some (2, 0, 0, 1, 0, []), some (0, 0, 0, 2, 1, []), some (6, 1, 0, 5, 0, []), none, none, some (2, 0, 0, 6, 0, []), some (1, 1, 0, 7, 0, []), some (6, 1, 1, 10, 0, []), none, none, some (2, 0, 0, 11, 0, []), some (30, 0, 0, 12, 0, []), some (5, 1, 4, 15, 0, []), none, none, some (0, 0, 0, 16, 1, []), some (19, 0, 0, 17, 0, []), some (6, 1, 4, 20, 0, []), none, none, some (37, 0, 0, 21, 0, [])] -- DiskDrawer$Disk.beginStart
def dT_42 : DTbl := [some (2, 0, 0, 1, 0, []), some (34, 25, 0, 4, 0, [0]), none, none, some (3, 1, 0, 5, 0, []), some (2, 0, 0, 6, 0, []), some (2, 0, 0, 7, 0, []), some (5, 0, 9, 10, 0, []), none, none, some (1, 1, 0, 11, 0, []), some (45, 0, 0, 14, 0, []), none, none, some (6, 0, 9, 17, 0, []), none, none, some (2, 0, 0, 18, 0, []), some (5, 0, 10, 21, 0, []), none, none, some (26, 25, 0, 24, 0, []), none, none, some (37, 0, 0, 25, 0, []), some (2, 0, 0, 26, 0, []), some (1, 1, 0, 27, 0, []), some (2, 0, 0, 28, 0, []), some (5, 0, 0, 31, 0, []), none, none, some (0, 0, 0, 32, 5, []), some (10, 0, 0, 33, 0, []), some (27, 45, 5, 36, 0, []), none, none, some (2, 0, 0, 37, 0, []), some (5, 0, 11, 40, 0, []), none, none, some (0, 0, 0, 41, 1, []), some (19, 0, 0, 42, 0, []), some (28, 46, 0, 45, 0, []), none, none, some (0, 0, 0, 46, 0, []), some (6, 0, 11, 49, 0, []), none, none, some (2, 0, 0, 50, 0, []), some (5, 0, 11, 53, 0, []), none, none, some (2, 0, 0, 54, 0, []), some (5, 0, 0, 57, 0, []), none, none, some (0, 0, 0, 59, 7, []), none, some (10, 0, 0, 60, 0, []), some (27, 81, 4, 63, 0, []), none, none, some (1, 1, 0, 64, 0, []), some (2, 0, 0, 65, 0, []), some (5, 0, 0, 68, 0, []), none, none, some (0, 0, 0, 69, 5, []), some (10, 0, 0, 70, 0, []), some (2, 0, 0, 71, 0, []), some (5, 0, 0, 74, 0, []), none, none, some (0, 0, 0, 76, 6, []), none, some (10, 0, 0, 77, 0, []), some (19, 0, 0, 78, 0, []), some (27, 101, 5, 81, 0, []), none, none, some (2, 0, 0, 82, 0, []), some (0, 0, 0, 83, 1, []), some (7, 0, 10, 86, 0, []), none, none, some (2, 0, 0, 87, 0, []), some (30, 0, 0, 88, 0, []), some (5, 0, 12, 91, 0, []), none, none, some (0, 0, 0, 92, 1, []), some (19, 0, 0, 93, 0, []), some (6, 0, 12, 96, 0, []), none, none, some (2, 0, 0, 97, 0, []), some (0, 0, 0, 98, 0, []), some (6, 0, 11, 101, 0, []), none, none, some (37, 0, 0, 102, 0, [])] -- DiskDrawer$State.strainFuse
def dT_69 : DTbl := [some (2, 0, 0, 1, 0, []), some (5, 3, 4, 4, 0, []), none, none, some (2, 0, 0, 5, 0, []), some (5, 3, 0, 8, 0, []), none, none, some (34, 70, 1, 11, 0, [4]), none, none, some (26, 24, 0, 14, 0, []), none, none, some (2, 0, 0, 15, 0, []), some (5, 3, 4, 18, 0, []), none, none, some (5, 4, 1, 21, 0, []), none, none, some (28, 26, 0, 24, 0, []), none, none, some (0, 0, 0, 26, (-5), []), none, some (36, 0, 0, 27, 0, [])] -- DiskDrawer.undo
def dT_70 : DTbl := [some (2, 0, 0, 1, 0, []), some (5, 4, 1, 4, 0, []), none, none, some (26, 9, 4, 7, 0, []), none, none, some (0, 0, 0, 8, 0, []), some (42, 0, 0, 9, 0, []), some (2, 0, 0, 10, 0, []), some (30, 0, 0, 11, 0, []), some (5, 4, 1, 14, 0, []), none, none, some (0, 0, 0, 15, 1, []), some (20, 0, 0, 16, 0, []), some (6, 4, 1, 19, 0, []), none, none, some (2, 1, 0, 20, 0, []), some (2, 0, 0, 21, 0, []), some (5, 4, 0, 24, 0, []), none, none, some (2, 0, 0, 25, 0, []), some (5, 4, 1, 28, 0, []), none, none, some (12, 0, 0, 29, 0, []), some (34, 2, 1, 32, 0, [0]), none, none, some (0, 0, 0, 33, 1, []), some (42, 0, 0, 34, 0, [])] -- DiskDrawer$Past.takeBack
def dT_73 : DTbl := [some (2, 0, 0, 1, 0, []), some (5, 3, 0, 4, 0, []), none, none, some (1, 1, 0, 5, 0, []), some (1, 2, 0, 6, 0, []), some (34, 74, 2, 9, 0, [0]), none, none, some (36, 0, 0, 10, 0, [])] -- DiskDrawer.disk
def dT_74 : DTbl := [some (1, 1, 0, 1, 0, []), some (35, 11, 1, 4, 0, []), none, none, some (26, 9, 1, 7, 0, []), none, none, some (0, 0, 0, 8, (-1), []), some (36, 0, 0, 9, 0, []), some (2, 0, 0, 10, 0, []), some (5, 0, 1, 13, 0, []), none, none, some (1, 1, 0, 14, 0, []), some (12, 0, 0, 15, 0, []), some (4, 3, 0, 16, 0, []), some (1, 2, 0, 17, 0, []), some (29, 108, 0, 64, 0, [64, 69, 75, 80, 85, 90, 95, 103]), none, none, none, none, none, none, none, none, none, none, none, none, none, none, none, none, none, none, none, none, none, none, none, none, none, none, none, none, none, none, none, none, none, none, none, none, none, none, none, none, none, none, none, none, none, none, some (2, 3, 0, 65, 0, []), some (5, 1, 0, 68, 0, []), none, none, some (36, 0, 0, 69, 0, []), some (2, 0, 0, 70, 0, []), some (2, 3, 0, 71, 0, []), some (34, 26, 1, 74, 0, [0]), none, none, some (36, 0, 0, 75, 0, []), some (2, 3, 0, 76, 0, []), some (5, 1, 1, 79, 0, []), none, none, some (36, 0, 0, 80, 0, []), some (2, 3, 0, 81, 0, []), some (5, 1, 2, 84, 0, []), none, none, some (36, 0, 0, 85, 0, []), some (2, 3, 0, 86, 0, []), some (5, 1, 3, 89, 0, []), none, none, some (36, 0, 0, 90, 0, []), some (2, 3, 0, 91, 0, []), some (5, 1, 6, 94, 0, []), none, none, some (36, 0, 0, 95, 0, []), some (2, 3, 0, 96, 0, []), some (5, 1, 5, 99, 0, []), none, none, some (35, 18, 1, 102, 0, []), none, none, some (36, 0, 0, 103, 0, []), some (2, 3, 0, 104, 0, []), some (5, 1, 4, 107, 0, []), none, none, some (36, 0, 0, 108, 0, []), some (0, 0, 0, 110, (-2), []), none, some (36, 0, 0, 111, 0, [])] -- DiskDrawer$State.tellDisk
def dT_75 : DTbl := [some (2, 0, 0, 1, 0, []), some (5, 3, 0, 4, 0, []), none, none, some (1, 1, 0, 5, 0, []), some (1, 2, 0, 6, 0, []), some (34, 76, 2, 9, 0, [0]), none, none, some (36, 0, 0, 10, 0, [])] -- DiskDrawer.readOf
def dT_76 : DTbl := [some (2, 0, 0, 1, 0, []), some (1, 1, 0, 2, 0, []), some (34, 14, 1, 5, 0, [0]), none, none, some (3, 3, 0, 6, 0, []), some (1, 3, 0, 7, 0, []), some (26, 12, 3, 10, 0, []), none, none, some (0, 0, 0, 11, (-1), []), some (36, 0, 0, 12, 0, []), some (2, 0, 0, 13, 0, []), some (5, 0, 2, 16, 0, []), none, none, some (1, 3, 0, 17, 0, []), some (12, 0, 0, 18, 0, []), some (4, 4, 0, 20, 0, []), none, some (1, 2, 0, 21, 0, []), some (29, 91, 0, 56, 0, [56, 62, 68, 74, 80]), none, none, none, none, none, none, none, none, none, none, none, none, none, none, none, none, none, none, none, none, none, none, none, none, none, none, none, none, none, none, none, none, none, none, some (2, 4, 0, 58, 0, []), none, some (5, 2, 1, 61, 0, []), none, none, some (36, 0, 0, 62, 0, []), some (2, 4, 0, 64, 0, []), none, some (5, 2, 2, 67, 0, []), none, none, some (36, 0, 0, 68, 0, []), some (2, 4, 0, 70, 0, []), none, some (5, 2, 3, 73, 0, []), none, none, some (36, 0, 0, 74, 0, []), some (2, 0, 0, 75, 0, []), some (1, 3, 0, 76, 0, []), some (34, 77, 1, 79, 0, [0]), none, none, some (36, 0, 0, 80, 0, []), some (2, 0, 0, 81, 0, []), some (5, 0, 8, 84, 0, []), none, none, some (2, 4, 0, 86, 0, []), none, some (5, 2, 4, 89, 0, []), none, none, some (20, 0, 0, 90, 0, []), some (36, 0, 0, 91, 0, []), some (0, 0, 0, 93, (-2), []), none, some (36, 0, 0, 94, 0, [])] -- DiskDrawer$State.tellRead
def dT_77 : DTbl := [some (0, 0, 0, 1, 0, []), some (3, 2, 0, 2, 0, []), some (0, 0, 0, 3, 0, []), some (3, 3, 0, 4, 0, []), some (1, 3, 0, 5, 0, []), some (1, 1, 0, 6, 0, []), some (27, 47, 3, 9, 0, []), none, none, some (1, 2, 0, 10, 0, []), some (2, 0, 0, 11, 0, []), some (5, 0, 2, 14, 0, []), none, none, some (1, 3, 0, 15, 0, []), some (12, 0, 0, 16, 0, []), some (5, 2, 1, 19, 0, []), none, none, some (2, 0, 0, 20, 0, []), some (5, 0, 2, 23, 0, []), none, none, some (1, 1, 0, 24, 0, []), some (12, 0, 0, 25, 0, []), some (5, 2, 1, 28, 0, []), none, none, some (27, 35, 1, 31, 0, []), none, none, some (0, 0, 0, 32, 1, []), some (28, 36, 0, 35, 0, []), none, none, some (0, 0, 0, 36, 0, []), some (35, 18, 1, 39, 0, []), none, none, some (19, 0, 0, 40, 0, []), some (3, 2, 0, 41, 0, []), some (25, 3, 0, 44, 1, []), none, none, some (28, 4, 0, 47, 0, []), none, none, some (1, 2, 0, 48, 0, []), some (36, 0, 0, 49, 0, [])] -- DiskDrawer$State.readsAheadOf
def dT_78 : DTbl := [some (2, 0, 0, 1, 0, []), some (5, 3, 0, 4, 0, []), none, none, some (34, 79, 0, 7, 0, [0]), none, none, some (36, 0, 0, 8, 0, [])] -- DiskDrawer.couldStart
def dT_79 : DTbl := [some (2, 0, 0, 1, 0, []), some (5, 0, 10, 4, 0, []), none, none, some (26, 9, 0, 7, 0, []), none, none, some (0, 0, 0, 8, 0, []), some (36, 0, 0, 9, 0, []), some (2, 0, 0, 10, 0, []), some (34, 25, 0, 13, 0, [0]), none, none, some (3, 1, 0, 14, 0, []), some (2, 0, 0, 15, 0, []), some (0, 0, 0, 16, 1, []), some (34, 38, 1, 19, 0, [0]), none, none, some (3, 2, 0, 20, 0, []), some (0, 0, 0, 21, 0, []), some (3, 3, 0, 22, 0, []), some (0, 0, 0, 23, 0, []), some (3, 4, 0, 25, 0, []), none, some (1, 4, 0, 27, 0, []), none, some (0, 0, 0, 29, 12, []), none, some (27, 72, 3, 32, 0, []), none, none, some (2, 0, 0, 33, 0, []), some (5, 0, 1, 36, 0, []), none, none, some (1, 4, 0, 38, 0, []), none, some (12, 0, 0, 39, 0, []), some (5, 1, 0, 42, 0, []), none, none, some (26, 66, 1, 45, 0, []), none, none, some (2, 0, 0, 46, 0, []), some (1, 2, 0, 47, 0, []), some (1, 3, 0, 48, 0, []), some (19, 0, 0, 49, 0, []), some (1, 1, 0, 50, 0, []), some (34, 39, 2, 53, 0, [0]), none, none, some (26, 66, 0, 56, 0, []), none, none, some (25, 3, 0, 59, 1, []), none, none, some (1, 1, 0, 60, 0, []), some (2, 0, 0, 61, 0, []), some (34, 40, 0, 64, 0, [0]), none, none, some (19, 0, 0, 65, 0, []), some (3, 1, 0, 66, 0, []), some (25, 4, 0, 69, 1, []), none, none, some (28, 25, 0, 72, 0, []), none, none, some (1, 3, 0, 73, 0, []), some (36, 0, 0, 74, 0, [])] -- DiskDrawer$State.startable
def dT_80 : DTbl := [some (2, 0, 0, 1, 0, []), some (5, 3, 0, 4, 0, []), none, none, some (1, 1, 0, 5, 0, []), some (34, 14, 1, 8, 0, [0]), none, none, some (3, 2, 0, 9, 0, []), some (1, 2, 0, 10, 0, []), some (26, 15, 3, 13, 0, []), none, none, some (0, 0, 0, 14, (-1), []), some (36, 0, 0, 15, 0, []), some (2, 0, 0, 16, 0, []), some (5, 3, 1, 19, 0, []), none, none, some (2, 0, 0, 20, 0, []), some (5, 3, 0, 23, 0, []), none, none, some (34, 2, 1, 26, 0, [0]), none, none, some (2, 0, 0, 27, 0, []), some (5, 3, 1, 30, 0, []), none, none, some (5, 0, 1, 33, 0, []), none, none, some (2, 0, 0, 34, 0, []), some (5, 3, 0, 37, 0, []), none, none, some (5, 0, 2, 40, 0, []), none, none, some (1, 2, 0, 41, 0, []), some (12, 0, 0, 42, 0, []), some (5, 2, 1, 45, 0, []), none, none, some (12, 0, 0, 46, 0, []), some (4, 3, 0, 47, 0, []), some (0, 0, 0, 48, 1, []), some (3, 4, 0, 50, 0, []), none, some (1, 4, 0, 52, 0, []), none, some (0, 0, 0, 55, 400, []), none, none, some (27, 108, 4, 58, 0, []), none, none, some (2, 0, 0, 59, 0, []), some (5, 3, 1, 62, 0, []), none, none, some (5, 0, 10, 65, 0, []), none, none, some (26, 108, 1, 68, 0, []), none, none, some (2, 0, 0, 69, 0, []), some (5, 3, 1, 72, 0, []), none, none, some (34, 29, 0, 75, 0, [0]), none, none, some (2, 0, 0, 76, 0, []), some (5, 3, 1, 79, 0, []), none, none, some (1, 1, 0, 80, 0, []), some (34, 14, 1, 83, 0, [0]), none, none, some (26, 102, 3, 86, 0, []), none, none, some (2, 3, 0, 87, 0, []), some (5, 1, 0, 90, 0, []), none, none, some (0, 0, 0, 91, 3, []), some (27, 99, 1, 94, 0, []), none, none, some (0, 0, 0, 96, (-5), []), none, some (28, 101, 0, 99, 0, []), none, none, some (1, 4, 0, 101, 0, []), none, some (36, 0, 0, 102, 0, []), some (25, 4, 0, 105, 1, []), none, none, some (28, 50, 0, 108, 0, []), none, none, some (0, 0, 0, 110, (-5), []), none, some (36, 0, 0, 111, 0, [])] -- DiskDrawer.answeredIn
def dT_81 : DTbl := [some (1, 1, 0, 1, 0, []), some (8, 32, 1, 4, 0, []), none, none, some (0, 0, 0, 6, 8, []), none, some (10, 0, 0, 7, 0, []), some (8, 32, 2, 10, 0, []), none, none, some (0, 0, 0, 12, 8, []), none, some (10, 0, 0, 13, 0, []), some (35, 6, 3, 16, 0, []), none, none, some (26, 28, 0, 19, 0, []), none, none, some (1, 2, 0, 20, 0, []), some (0, 0, 0, 21, 0, []), some (0, 0, 0, 22, 2, []), some (35, 6, 3, 25, 0, []), none, none, some (26, 31, 1, 28, 0, []), none, none, some (0, 0, 0, 30, (-2), []), none, some (36, 0, 0, 31, 0, []), some (1, 2, 0, 32, 0, []), some (26, 44, 1, 35, 0, []), none, none, some (2, 0, 0, 36, 0, []), some (1, 1, 0, 37, 0, []), some (0, 0, 0, 40, 400, []), none, none, some (34, 82, 2, 43, 0, [3]), none, none, some (36, 0, 0, 44, 0, []), some (2, 0, 0, 45, 0, []), some (1, 1, 0, 46, 0, []), some (34, 83, 1, 49, 0, [3]), none, none, some (2, 0, 0, 50, 0, []), some (5, 3, 1, 53, 0, []), none, none, some (0, 0, 0, 54, 0, []), some (6, 0, 9, 57, 0, []), none, none, some (0, 0, 0, 58, 0, []), some (3, 3, 0, 59, 0, []), some (1, 3, 0, 60, 0, []), some (0, 0, 0, 62, 100, []), none, some (27, 78, 3, 65, 0, []), none, none, some (2, 0, 0, 66, 0, []), some (5, 3, 1, 69, 0, []), none, none, some (34, 29, 0, 72, 0, [0]), none, none, some (25, 3, 0, 75, 1, []), none, none, some (28, 59, 0, 78, 0, []), none, none, some (1, 2, 0, 79, 0, []), some (0, 0, 0, 80, 1, []), some (27, 93, 1, 83, 0, []), none, none, some (2, 0, 0, 84, 0, []), some (5, 3, 1, 87, 0, []), none, none, some (5, 0, 9, 90, 0, []), none, none, some (28, 103, 0, 93, 0, []), none, none, some (2, 0, 0, 94, 0, []), some (5, 3, 1, 97, 0, []), none, none, some (5, 0, 10, 100, 0, []), none, none, some (35, 18, 1, 103, 0, []), none, none, some (36, 0, 0, 104, 0, [])] -- DiskDrawer.ifAtOnce
def dT_82 : DTbl := [some (2, 0, 0, 1, 0, []), some (1, 1, 0, 2, 0, []), some (34, 83, 1, 5, 0, [3]), none, none, some (0, 0, 0, 6, 0, []), some (3, 3, 0, 7, 0, []), some (1, 3, 0, 8, 0, []), some (1, 2, 0, 9, 0, []), some (27, 45, 3, 12, 0, []), none, none, some (2, 0, 0, 13, 0, []), some (5, 3, 1, 16, 0, []), none, none, some (5, 0, 3, 19, 0, []), none, none, some (26, 45, 5, 22, 0, []), none, none, some (2, 0, 0, 23, 0, []), some (5, 3, 1, 26, 0, []), none, none, some (5, 0, 10, 29, 0, []), none, none, some (26, 45, 1, 32, 0, []), none, none, some (2, 0, 0, 33, 0, []), some (5, 3, 1, 36, 0, []), none, none, some (34, 29, 0, 39, 0, [0]), none, none, some (25, 3, 0, 42, 1, []), none, none, some (28, 7, 0, 45, 0, []), none, none, some (2, 0, 0, 46, 0, []), some (5, 3, 1, 49, 0, []), none, none, some (5, 0, 3, 52, 0, []), none, none, some (26, 59, 1, 55, 0, []), none, none, some (1, 3, 0, 56, 0, []), some (28, 61, 0, 59, 0, []), none, none, some (0, 0, 0, 61, (-5), []), none, some (36, 0, 0, 62, 0, [])] -- DiskDrawer.ticksUntilAllRead
def dT_83 : DTbl := [some (2, 0, 0, 1, 0, []), some (5, 3, 1, 4, 0, []), none, none, some (2, 0, 0, 5, 0, []), some (5, 3, 0, 8, 0, []), none, none, some (34, 2, 1, 11, 0, [0]), none, none, some (2, 0, 0, 12, 0, []), some (5, 3, 1, 15, 0, []), none, none, some (5, 0, 0, 18, 0, []), none, none, some (0, 0, 0, 20, 8, []), none, some (1, 1, 0, 21, 0, []), some (11, 0, 0, 22, 0, []), some (37, 0, 0, 23, 0, [])] -- DiskDrawer.beginTrial
def dT_84 : DTbl := [some (0, 0, 0, 2, (-5), []), none, some (3, 1, 0, 3, 0, []), some (0, 0, 0, 6, 400, []), none, none, some (3, 2, 0, 7, 0, []), some (8, 32, 1, 10, 0, []), none, none, some (0, 0, 0, 12, 8, []), none, some (10, 0, 0, 13, 0, []), some (3, 3, 0, 14, 0, []), some (1, 3, 0, 15, 0, []), some (8, 32, 2, 18, 0, []), none, none, some (0, 0, 0, 20, 8, []), none, some (10, 0, 0, 21, 0, []), some (27, 56, 4, 24, 0, []), none, none, some (1, 2, 0, 25, 0, []), some (26, 56, 2, 28, 0, []), none, none, some (2, 0, 0, 29, 0, []), some (1, 3, 0, 30, 0, []), some (1, 2, 0, 31, 0, []), some (34, 82, 2, 34, 0, [3]), none, none, some (3, 4, 0, 36, 0, []), none, some (1, 4, 0, 38, 0, []), none, some (0, 0, 0, 40, (-5), []), none, some (27, 50, 0, 43, 0, []), none, none, some (1, 3, 0, 44, 0, []), some (3, 1, 0, 45, 0, []), some (1, 4, 0, 47, 0, []), none, some (0, 0, 0, 48, 1, []), some (20, 0, 0, 49, 0, []), some (3, 2, 0, 50, 0, []), some (25, 3, 0, 53, 1, []), none, none, some (28, 14, 0, 56, 0, []), none, none, some (1, 1, 0, 57, 0, []), some (36, 0, 0, 58, 0, [])] -- DiskDrawer.bestAtOnce
def dT_85 : DTbl := [some (1, 1, 0, 1, 0, []), some (0, 0, 0, 3, 17, []), none, some (27, 14, 1, 6, 0, []), none, none, some (2, 0, 0, 7, 0, []), some (5, 3, 4, 10, 0, []), none, none, some (5, 4, 1, 13, 0, []), none, none, some (36, 0, 0, 14, 0, []), some (1, 1, 0, 15, 0, []), some (0, 0, 0, 17, 18, []), none, some (27, 28, 1, 20, 0, []), none, none, some (2, 0, 0, 21, 0, []), some (5, 3, 5, 24, 0, []), none, none, some (5, 5, 1, 27, 0, []), none, none, some (36, 0, 0, 28, 0, []), some (2, 0, 0, 29, 0, []), some (5, 3, 0, 32, 0, []), none, none, some (1, 1, 0, 33, 0, []), some (34, 86, 1, 36, 0, [0]), none, none, some (36, 0, 0, 37, 0, [])] -- DiskDrawer.count
def dT_86 : DTbl := [some (1, 1, 0, 1, 0, []), some (0, 0, 0, 3, 20, []), none, some (0, 0, 0, 5, 29, []), none, some (35, 6, 3, 8, 0, []), none, none, some (26, 21, 0, 11, 0, []), none, none, some (2, 0, 0, 12, 0, []), some (5, 0, 0, 15, 0, []), none, none, some (1, 1, 0, 16, 0, []), some (0, 0, 0, 18, 20, []), none, some (20, 0, 0, 19, 0, []), some (10, 0, 0, 20, 0, []), some (36, 0, 0, 21, 0, []), some (1, 1, 0, 22, 0, []), some (0, 0, 0, 24, 7, []), none, some (0, 0, 0, 26, 10, []), none, some (35, 6, 3, 29, 0, []), none, none, some (26, 41, 0, 32, 0, []), none, none, some (2, 0, 0, 33, 0, []), some (1, 1, 0, 34, 0, []), some (0, 0, 0, 36, 7, []), none, some (20, 0, 0, 37, 0, []), some (34, 38, 1, 40, 0, [0]), none, none, some (36, 0, 0, 41, 0, []), some (1, 1, 0, 42, 0, []), some (29, 192, 0, 124, 0, [124, 129, 134, 139, 144, 149, 154, 192, 192, 192, 192, 159, 167, 172, 177, 182, 187]), none, none, none, none, none, none, none, none, none, none, none, none, none, none, none, none, none, none, none, none, none, none, none, none, none, none, none, none, none, none, none, none, none, none, none, none, none, none, none, none, none, none, none, none, none, none, none, none, none, none, none, none, none, none, none, none, none, none, none, none, none, none, none, none, none, none, none, none, none, none, none, none, none, none, none, none, none, none, none, none, none, some (2, 0, 0, 125, 0, []), some (5, 0, 8, 128, 0, []), none, none, some (36, 0, 0, 129, 0, []), some (2, 0, 0, 130, 0, []), some (34, 25, 0, 133, 0, [0]), none, none, some (36, 0, 0, 134, 0, []), some (2, 0, 0, 135, 0, []), some (5, 0, 9, 138, 0, []), none, none, some (36, 0, 0, 139, 0, []), some (2, 0, 0, 140, 0, []), some (5, 0, 3, 143, 0, []), none, none, some (36, 0, 0, 144, 0, []), some (2, 0, 0, 145, 0, []), some (5, 0, 4, 148, 0, []), none, none, some (36, 0, 0, 149, 0, []), some (2, 0, 0, 150, 0, []), some (5, 0, 5, 153, 0, []), none, none, some (36, 0, 0, 154, 0, []), some (2, 0, 0, 155, 0, []), some (5, 0, 6, 158, 0, []), none, none, some (36, 0, 0, 159, 0, []), some (2, 0, 0, 160, 0, []), some (5, 0, 10, 163, 0, []), none, none, some (35, 18, 1, 166, 0, []), none, none, some (36, 0, 0, 167, 0, []), some (2, 0, 0, 168, 0, []), some (5, 0, 11, 171, 0, []), none, none, some (36, 0, 0, 172, 0, []), some (2, 0, 0, 173, 0, []), some (5, 0, 12, 176, 0, []), none, none, some (36, 0, 0, 177, 0, []), some (2, 0, 0, 178, 0, []), some (5, 0, 13, 181, 0, []), none, none, some (36, 0, 0, 182, 0, []), some (2, 0, 0, 183, 0, []), some (5, 0, 14, 186, 0, []), none, none, some (36, 0, 0, 187, 0, []), some (2, 0, 0, 188, 0, []), some (5, 0, 7, 191, 0, []), none, none, some (36, 0, 0, 192, 0, []), some (0, 0, 0, 194, (-2), []), none, some (36, 0, 0, 195, 0, [])] -- DiskDrawer$State.tellCount
def dT_87 : DTbl := [some (1, 1, 0, 1, 0, []), some (2, 0, 0, 2, 0, []), some (18, 0, 0, 3, 0, []), some (27, 12, 3, 6, 0, []), none, none, some (2, 0, 0, 7, 0, []), some (1, 1, 0, 8, 0, []), some (10, 0, 0, 9, 0, []), some (28, 24, 0, 12, 0, []), none, none, some (0, 0, 0, 15, 7919, []), none, none, some (1, 1, 0, 16, 0, []), some (0, 0, 0, 17, 3, []), some (19, 0, 0, 18, 0, []), some (21, 0, 0, 19, 0, []), some (1, 1, 0, 20, 0, []), some (0, 0, 0, 22, 11, []), none, some (19, 0, 0, 23, 0, []), some (21, 0, 0, 24, 0, []), some (36, 0, 0, 25, 0, [])] -- DiskDrawerLaw.cell
def dT_88 : DTbl := [some (1, 0, 0, 1, 0, []), some (0, 0, 0, 3, 2147483647, []), none, some (22, 0, 0, 4, 0, []), some (1, 1, 0, 5, 0, []), some (46, 0, 0, 6, 0, []), some (36, 0, 0, 7, 0, [])] -- DiskDrawerLaw.low
def dT_89 : DTbl := [some (2, 0, 0, 1, 0, []), some (0, 0, 0, 2, 3, []), some (34, 85, 1, 5, 0, [3]), none, none, some (26, 12, 1, 8, 0, []), none, none, some (0, 0, 0, 9, (-1), []), some (28, 21, 0, 12, 0, []), none, none, some (1, 1, 0, 13, 0, []), some (2, 0, 0, 14, 0, []), some (0, 0, 0, 15, 3, []), some (34, 85, 1, 18, 0, [3]), none, none, some (35, 88, 2, 21, 0, []), none, none, some (3, 2, 0, 22, 0, []), some (0, 0, 0, 23, 0, []), some (3, 3, 0, 24, 0, []), some (1, 3, 0, 25, 0, []), some (2, 0, 0, 26, 0, []), some (0, 0, 0, 27, 4, []), some (34, 85, 1, 30, 0, [3]), none, none, some (27, 61, 3, 33, 0, []), none, none, some (1, 2, 0, 34, 0, []), some (26, 61, 2, 37, 0, []), none, none, some (2, 0, 0, 38, 0, []), some (1, 3, 0, 39, 0, []), some (0, 0, 0, 40, 0, []), some (34, 75, 2, 43, 0, [3]), none, none, some (26, 55, 2, 46, 0, []), none, none, some (1, 2, 0, 47, 0, []), some (26, 52, 1, 50, 0, []), none, none, some (1, 3, 0, 51, 0, []), some (36, 0, 0, 52, 0, []), some (25, 2, 0, 55, (-1), []), none, none, some (25, 3, 0, 58, 1, []), none, none, some (28, 24, 0, 61, 0, []), none, none, some (0, 0, 0, 63, (-5), []), none, some (36, 0, 0, 64, 0, [])] -- DiskDrawerLaw.some
def dT_90 : DTbl := [some (1, 1, 0, 1, 0, []), some (0, 0, 0, 2, 4, []), some (41, 0, 0, 3, 0, []), some (0, 0, 0, 5, 12, []), none, some (35, 88, 2, 8, 0, []), none, none, some (3, 2, 0, 9, 0, []), some (1, 1, 0, 10, 0, []), some (0, 0, 0, 12, 15, []), none, some (22, 0, 0, 13, 0, []), some (29, 220, 0, 76, 0, [76, 76, 76, 76, 76, 93, 105, 105, 111, 133, 138, 138]), none, none, none, none, none, none, none, none, none, none, none, none, none, none, none, none, none, none, none, none, none, none, none, none, none, none, none, none, none, none, none, none, none, none, none, none, none, none, none, none, none, none, none, none, none, none, none, none, none, none, none, none, none, none, none, none, none, none, none, none, none, none, some (2, 0, 0, 77, 0, []), some (1, 2, 0, 78, 0, []), some (0, 0, 0, 79, 1, []), some (1, 1, 0, 80, 0, []), some (0, 0, 0, 82, 8, []), none, some (41, 0, 0, 83, 0, []), some (0, 0, 0, 85, 50, []), none, some (35, 88, 2, 88, 0, []), none, none, some (19, 0, 0, 89, 0, []), some (34, 9, 2, 92, 0, [3]), none, none, some (36, 0, 0, 93, 0, []), some (2, 0, 0, 94, 0, []), some (2, 0, 0, 95, 0, []), some (1, 1, 0, 96, 0, []), some (0, 0, 0, 97, 4, []), some (41, 0, 0, 98, 0, []), some (35, 89, 2, 101, 0, []), none, none, some (34, 12, 1, 104, 0, [3]), none, none, some (36, 0, 0, 105, 0, []), some (2, 0, 0, 106, 0, []), some (1, 2, 0, 107, 0, []), some (34, 16, 1, 110, 0, [3]), none, none, some (36, 0, 0, 111, 0, []), some (1, 1, 0, 112, 0, []), some (0, 0, 0, 114, 8, []), none, some (41, 0, 0, 115, 0, []), some (0, 0, 0, 116, 1, []), some (22, 0, 0, 117, 0, []), some (26, 128, 1, 120, 0, []), none, none, some (2, 0, 0, 121, 0, []), some (1, 2, 0, 122, 0, []), some (34, 19, 1, 125, 0, [3]), none, none, some (28, 132, 0, 128, 0, []), none, none, some (2, 0, 0, 129, 0, []), some (34, 23, 0, 132, 0, [3]), none, none, some (36, 0, 0, 133, 0, []), some (2, 0, 0, 134, 0, []), some (34, 23, 0, 137, 0, [3]), none, none, some (36, 0, 0, 138, 0, []), some (1, 1, 0, 139, 0, []), some (0, 0, 0, 140, 4, []), some (41, 0, 0, 141, 0, []), some (0, 0, 0, 143, 10, []), none, some (35, 88, 2, 146, 0, []), none, none, some (3, 3, 0, 147, 0, []), some (1, 1, 0, 148, 0, []), some (0, 0, 0, 150, 8, []), none, some (41, 0, 0, 151, 0, []), some (0, 0, 0, 153, 20, []), none, some (35, 88, 2, 156, 0, []), none, none, some (3, 4, 0, 158, 0, []), none, some (2, 0, 0, 159, 0, []), some (1, 3, 0, 160, 0, []), some (1, 3, 0, 161, 0, []), some (0, 0, 0, 162, 5, []), some (27, 176, 1, 165, 0, []), none, none, some (0, 0, 0, 167, 10, []), none, some (0, 0, 0, 169, 10, []), none, some (1, 4, 0, 171, 0, []), none, some (21, 0, 0, 172, 0, []), some (19, 0, 0, 173, 0, []), some (28, 216, 0, 176, 0, []), none, none, some (1, 3, 0, 177, 0, []), some (0, 0, 0, 179, 8, []), none, some (27, 191, 0, 182, 0, []), none, none, some (1, 3, 0, 183, 0, []), some (26, 191, 0, 186, 0, []), none, none, some (1, 3, 0, 187, 0, []), some (0, 0, 0, 188, 1, []), some (27, 201, 1, 191, 0, []), none, none, some (0, 0, 0, 192, 1, []), some (1, 4, 0, 194, 0, []), none, some (0, 0, 0, 196, 12, []), none, some (46, 0, 0, 197, 0, []), some (19, 0, 0, 198, 0, []), some (28, 216, 0, 201, 0, []), none, none, some (1, 3, 0, 202, 0, []), some (0, 0, 0, 203, 4, []), some (27, 214, 1, 206, 0, []), none, none, some (1, 4, 0, 208, 0, []), none, some (0, 0, 0, 210, 6, []), none, some (46, 0, 0, 211, 0, []), some (28, 216, 0, 214, 0, []), none, none, some (1, 4, 0, 216, 0, []), none, some (34, 0, 2, 219, 0, [3]), none, none, some (36, 0, 0, 220, 0, []), some (2, 0, 0, 221, 0, []), some (0, 0, 0, 222, 1, []), some (1, 1, 0, 223, 0, []), some (0, 0, 0, 224, 4, []), some (41, 0, 0, 225, 0, []), some (0, 0, 0, 227, 30, []), none, some (35, 88, 2, 230, 0, []), none, none, some (19, 0, 0, 231, 0, []), some (34, 27, 1, 234, 0, [3]), none, none, some (36, 0, 0, 235, 0, [])] -- DiskDrawerLaw.does
def dT_91 : DTbl := [some (2, 0, 0, 1, 0, []), some (1, 1, 0, 2, 0, []), some (0, 0, 0, 3, 0, []), some (34, 73, 2, 6, 0, [3]), none, none, some (3, 2, 0, 7, 0, []), some (1, 2, 0, 8, 0, []), some (26, 20, 1, 11, 0, []), none, none, some (2, 0, 0, 12, 0, []), some (0, 0, 0, 14, 24, []), none, some (34, 85, 1, 17, 0, [3]), none, none, some (28, 69, 0, 20, 0, []), none, none, some (1, 2, 0, 21, 0, []), some (0, 0, 0, 22, 1, []), some (27, 34, 1, 25, 0, []), none, none, some (2, 0, 0, 26, 0, []), some (0, 0, 0, 28, 21, []), none, some (34, 85, 1, 31, 0, [3]), none, none, some (28, 69, 0, 34, 0, []), none, none, some (1, 2, 0, 35, 0, []), some (0, 0, 0, 36, 3, []), some (27, 43, 1, 39, 0, []), none, none, some (0, 0, 0, 40, 0, []), some (28, 69, 0, 43, 0, []), none, none, some (2, 0, 0, 44, 0, []), some (0, 0, 0, 46, 22, []), none, some (34, 85, 1, 49, 0, [3]), none, none, some (2, 0, 0, 50, 0, []), some (1, 1, 0, 51, 0, []), some (0, 0, 0, 52, 5, []), some (34, 73, 2, 55, 0, [3]), none, none, some (26, 67, 5, 58, 0, []), none, none, some (2, 0, 0, 59, 0, []), some (0, 0, 0, 61, 23, []), none, some (34, 85, 1, 64, 0, [3]), none, none, some (28, 68, 0, 67, 0, []), none, none, some (0, 0, 0, 68, 0, []), some (19, 0, 0, 69, 0, []), some (36, 0, 0, 70, 0, [])] -- DiskDrawerLaw.currentOf
def dT_92 : DTbl := [some (2, 0, 0, 1, 0, []), some (1, 1, 0, 2, 0, []), some (34, 80, 1, 5, 0, [3]), none, none, some (3, 2, 0, 6, 0, []), some (1, 1, 0, 7, 0, []), some (26, 20, 2, 10, 0, []), none, none, some (2, 0, 0, 11, 0, []), some (0, 0, 0, 12, 0, []), some (34, 85, 1, 15, 0, [3]), none, none, some (0, 0, 0, 17, 99000, []), none, some (27, 35, 5, 20, 0, []), none, none, some (1, 1, 0, 21, 0, []), some (26, 29, 3, 24, 0, []), none, none, some (1, 2, 0, 25, 0, []), some (0, 0, 0, 26, (-1), []), some (27, 33, 1, 29, 0, []), none, none, some (0, 0, 0, 30, 1, []), some (28, 34, 0, 33, 0, []), none, none, some (0, 0, 0, 34, 0, []), some (42, 0, 0, 35, 0, []), some (2, 0, 0, 36, 0, []), some (1, 1, 0, 37, 0, []), some (0, 0, 0, 38, 4, []), some (34, 75, 2, 41, 0, [3]), none, none, some (3, 3, 0, 42, 0, []), some (2, 0, 0, 43, 0, []), some (1, 1, 0, 44, 0, []), some (0, 0, 0, 45, 0, []), some (34, 75, 2, 48, 0, [3]), none, none, some (3, 4, 0, 50, 0, []), none, some (2, 0, 0, 51, 0, []), some (0, 0, 0, 52, 5, []), some (34, 85, 1, 55, 0, [3]), none, none, some (3, 5, 0, 57, 0, []), none, some (2, 0, 0, 58, 0, []), some (0, 0, 0, 60, 16, []), none, some (34, 85, 1, 63, 0, [3]), none, none, some (3, 6, 0, 65, 0, []), none, some (1, 2, 0, 66, 0, []), some (0, 0, 0, 68, (-5), []), none, some (27, 147, 1, 71, 0, []), none, none, some (2, 0, 0, 72, 0, []), some (0, 0, 0, 75, 200, []), none, none, some (34, 27, 1, 78, 0, [3]), none, none, some (2, 0, 0, 79, 0, []), some (0, 0, 0, 82, 200, []), none, none, some (34, 27, 1, 85, 0, [3]), none, none, some (19, 0, 0, 86, 0, []), some (3, 7, 0, 88, 0, []), none, some (2, 0, 0, 89, 0, []), some (1, 1, 0, 90, 0, []), some (0, 0, 0, 91, 0, []), some (34, 75, 2, 94, 0, [3]), none, none, some (26, 108, 3, 97, 0, []), none, none, some (2, 0, 0, 98, 0, []), some (1, 4, 0, 100, 0, []), none, some (0, 0, 0, 101, 0, []), some (34, 73, 2, 104, 0, [3]), none, none, some (0, 0, 0, 105, 3, []), some (27, 112, 1, 108, 0, []), none, none, some (0, 0, 0, 109, 1, []), some (28, 113, 0, 112, 0, []), none, none, some (0, 0, 0, 113, 0, []), some (3, 8, 0, 115, 0, []), none, some (2, 0, 0, 116, 0, []), some (34, 69, 0, 119, 0, [3]), none, none, some (2, 0, 0, 120, 0, []), some (34, 69, 0, 123, 0, [3]), none, none, some (19, 0, 0, 124, 0, []), some (3, 9, 0, 126, 0, []), none, some (1, 8, 0, 128, 0, []), none, some (26, 145, 0, 131, 0, []), none, none, some (1, 9, 0, 133, 0, []), none, some (26, 145, 2, 136, 0, []), none, none, some (1, 7, 0, 138, 0, []), none, some (26, 145, 2, 141, 0, []), none, none, some (0, 0, 0, 142, 1, []), some (28, 146, 0, 145, 0, []), none, none, some (0, 0, 0, 146, 0, []), some (42, 0, 0, 147, 0, []), some (1, 2, 0, 148, 0, []), some (0, 0, 0, 151, 200, []), none, none, some (27, 164, 5, 154, 0, []), none, none, some (2, 0, 0, 155, 0, []), some (0, 0, 0, 158, 200, []), none, none, some (34, 27, 1, 161, 0, [3]), none, none, some (28, 165, 0, 164, 0, []), none, none, some (0, 0, 0, 165, 0, []), some (3, 7, 0, 167, 0, []), none, some (1, 2, 0, 168, 0, []), some (0, 0, 0, 171, 200, []), none, none, some (27, 182, 5, 174, 0, []), none, none, some (1, 2, 0, 175, 0, []), some (0, 0, 0, 178, 200, []), none, none, some (20, 0, 0, 179, 0, []), some (28, 183, 0, 182, 0, []), none, none, some (1, 2, 0, 183, 0, []), some (3, 8, 0, 185, 0, []), none, some (1, 8, 0, 187, 0, []), none, some (0, 0, 0, 188, 1, []), some (27, 202, 0, 191, 0, []), none, none, some (2, 0, 0, 192, 0, []), some (1, 8, 0, 194, 0, []), none, some (0, 0, 0, 195, 1, []), some (20, 0, 0, 196, 0, []), some (34, 27, 1, 199, 0, [3]), none, none, some (26, 206, 2, 202, 0, []), none, none, some (0, 0, 0, 203, 1, []), some (28, 207, 0, 206, 0, []), none, none, some (0, 0, 0, 207, 0, []), some (3, 9, 0, 209, 0, []), none, some (1, 9, 0, 211, 0, []), none, some (26, 273, 0, 214, 0, []), none, none, some (2, 0, 0, 215, 0, []), some (1, 1, 0, 216, 0, []), some (0, 0, 0, 217, 0, []), some (34, 75, 2, 220, 0, [3]), none, none, some (1, 4, 0, 222, 0, []), none, some (27, 273, 1, 225, 0, []), none, none, some (2, 0, 0, 226, 0, []), some (0, 0, 0, 227, 1, []), some (34, 27, 1, 230, 0, [3]), none, none, some (0, 0, 0, 231, 1, []), some (27, 273, 2, 234, 0, []), none, none, some (2, 0, 0, 235, 0, []), some (1, 1, 0, 236, 0, []), some (0, 0, 0, 237, 0, []), some (34, 75, 2, 240, 0, [3]), none, none, some (0, 0, 0, 241, (-1), []), some (27, 273, 1, 244, 0, []), none, none, some (2, 0, 0, 245, 0, []), some (0, 0, 0, 246, 5, []), some (34, 85, 1, 249, 0, [3]), none, none, some (1, 5, 0, 251, 0, []), none, some (27, 273, 5, 254, 0, []), none, none, some (2, 0, 0, 255, 0, []), some (0, 0, 0, 257, 16, []), none, some (34, 85, 1, 260, 0, [3]), none, none, some (1, 6, 0, 262, 0, []), none, some (20, 0, 0, 263, 0, []), some (1, 3, 0, 264, 0, []), some (1, 2, 0, 265, 0, []), some (19, 0, 0, 266, 0, []), some (27, 273, 2, 269, 0, []), none, none, some (0, 0, 0, 270, 1, []), some (28, 274, 0, 273, 0, []), none, none, some (0, 0, 0, 274, 0, []), some (3, 9, 0, 276, 0, []), none, some (2, 0, 0, 277, 0, []), some (34, 69, 0, 280, 0, [3]), none, none, some (3, 10, 0, 282, 0, []), none, some (1, 8, 0, 284, 0, []), none, some (0, 0, 0, 285, 1, []), some (27, 295, 5, 288, 0, []), none, none, some (2, 0, 0, 289, 0, []), some (34, 69, 0, 292, 0, [3]), none, none, some (28, 297, 0, 295, 0, []), none, none, some (1, 10, 0, 297, 0, []), none, some (3, 10, 0, 299, 0, []), none, some (1, 2, 0, 300, 0, []), some (0, 0, 0, 303, 200, []), none, none, some (27, 313, 5, 306, 0, []), none, none, some (2, 0, 0, 307, 0, []), some (34, 69, 0, 310, 0, [3]), none, none, some (28, 315, 0, 313, 0, []), none, none, some (1, 10, 0, 315, 0, []), none, some (3, 10, 0, 317, 0, []), none, some (1, 9, 0, 319, 0, []), none, some (26, 346, 0, 322, 0, []), none, none, some (1, 10, 0, 324, 0, []), none, some (26, 346, 2, 327, 0, []), none, none, some (1, 7, 0, 329, 0, []), none, some (26, 346, 2, 332, 0, []), none, none, some (2, 0, 0, 333, 0, []), some (0, 0, 0, 334, 5, []), some (34, 85, 1, 337, 0, [3]), none, none, some (1, 5, 0, 339, 0, []), none, some (27, 346, 1, 342, 0, []), none, none, some (0, 0, 0, 343, 1, []), some (28, 347, 0, 346, 0, []), none, none, some (0, 0, 0, 347, 0, []), some (42, 0, 0, 348, 0, [])] -- DiskDrawerLaw.isAnswerSo
def dT_93 : DTbl := [some (2, 0, 0, 1, 0, []), some (1, 1, 0, 2, 0, []), some (0, 0, 0, 3, 0, []), some (34, 81, 2, 6, 0, [3]), none, none, some (3, 2, 0, 7, 0, []), some (2, 0, 0, 8, 0, []), some (1, 1, 0, 9, 0, []), some (0, 0, 0, 10, 1, []), some (34, 81, 2, 13, 0, [3]), none, none, some (3, 3, 0, 14, 0, []), some (2, 0, 0, 15, 0, []), some (1, 1, 0, 16, 0, []), some (0, 0, 0, 17, 2, []), some (34, 81, 2, 20, 0, [3]), none, none, some (3, 4, 0, 22, 0, []), none, some (2, 0, 0, 23, 0, []), some (34, 84, 0, 26, 0, [3]), none, none, some (3, 5, 0, 28, 0, []), none, some (1, 5, 0, 30, 0, []), none, some (0, 0, 0, 32, (-5), []), none, some (27, 49, 1, 35, 0, []), none, none, some (1, 2, 0, 36, 0, []), some (0, 0, 0, 38, (-5), []), none, some (27, 45, 1, 41, 0, []), none, none, some (0, 0, 0, 42, 1, []), some (28, 120, 0, 45, 0, []), none, none, some (0, 0, 0, 46, 0, []), some (28, 120, 0, 49, 0, []), none, none, some (2, 0, 0, 50, 0, []), some (1, 5, 0, 52, 0, []), none, some (0, 0, 0, 53, 0, []), some (34, 81, 2, 56, 0, [3]), none, none, some (26, 119, 2, 59, 0, []), none, none, some (1, 2, 0, 60, 0, []), some (0, 0, 0, 62, (-5), []), none, some (27, 76, 0, 65, 0, []), none, none, some (2, 0, 0, 66, 0, []), some (1, 5, 0, 68, 0, []), none, some (0, 0, 0, 69, 0, []), some (34, 81, 2, 72, 0, [3]), none, none, some (1, 2, 0, 73, 0, []), some (27, 119, 4, 76, 0, []), none, none, some (1, 5, 0, 78, 0, []), none, some (0, 0, 0, 79, 1, []), some (27, 115, 0, 82, 0, []), none, none, some (2, 0, 0, 83, 0, []), some (1, 5, 0, 85, 0, []), none, some (0, 0, 0, 86, 1, []), some (20, 0, 0, 87, 0, []), some (0, 0, 0, 88, 0, []), some (34, 81, 2, 91, 0, [3]), none, none, some (0, 0, 0, 93, (-5), []), none, some (27, 115, 0, 96, 0, []), none, none, some (2, 0, 0, 97, 0, []), some (1, 5, 0, 99, 0, []), none, some (0, 0, 0, 100, 1, []), some (20, 0, 0, 101, 0, []), some (0, 0, 0, 102, 0, []), some (34, 81, 2, 105, 0, [3]), none, none, some (2, 0, 0, 106, 0, []), some (1, 5, 0, 108, 0, []), none, some (0, 0, 0, 109, 0, []), some (34, 81, 2, 112, 0, [3]), none, none, some (27, 119, 5, 115, 0, []), none, none, some (0, 0, 0, 116, 1, []), some (28, 120, 0, 119, 0, []), none, none, some (0, 0, 0, 120, 0, []), some (3, 6, 0, 122, 0, []), none, some (2, 0, 0, 123, 0, []), some (0, 0, 0, 124, 0, []), some (34, 85, 1, 127, 0, [3]), none, none, some (0, 0, 0, 129, 99000, []), none, some (27, 135, 5, 132, 0, []), none, none, some (1, 6, 0, 134, 0, []), none, some (42, 0, 0, 135, 0, []), some (2, 0, 0, 136, 0, []), some (0, 0, 0, 138, 8, []), none, some (1, 1, 0, 139, 0, []), some (34, 0, 2, 142, 0, [3]), none, none, some (3, 7, 0, 144, 0, []), none, some (1, 2, 0, 145, 0, []), some (0, 0, 0, 146, 1, []), some (27, 206, 2, 149, 0, []), none, none, some (1, 2, 0, 150, 0, []), some (0, 0, 0, 153, 200, []), none, none, some (27, 206, 4, 156, 0, []), none, none, some (1, 6, 0, 158, 0, []), none, some (26, 188, 0, 161, 0, []), none, none, some (1, 2, 0, 162, 0, []), some (0, 0, 0, 163, 1, []), some (27, 184, 0, 166, 0, []), none, none, some (2, 0, 0, 167, 0, []), some (1, 2, 0, 168, 0, []), some (0, 0, 0, 169, 1, []), some (20, 0, 0, 170, 0, []), some (34, 27, 1, 173, 0, [3]), none, none, some (26, 188, 2, 176, 0, []), none, none, some (2, 0, 0, 177, 0, []), some (0, 0, 0, 178, 3, []), some (34, 85, 1, 181, 0, [3]), none, none, some (26, 188, 5, 184, 0, []), none, none, some (0, 0, 0, 185, 1, []), some (28, 189, 0, 188, 0, []), none, none, some (0, 0, 0, 189, 0, []), some (3, 6, 0, 191, 0, []), none, some (1, 2, 0, 192, 0, []), some (0, 0, 0, 193, 1, []), some (27, 200, 1, 196, 0, []), none, none, some (0, 0, 0, 197, 0, []), some (28, 204, 0, 200, 0, []), none, none, some (2, 0, 0, 201, 0, []), some (34, 69, 0, 204, 0, [3]), none, none, some (3, 8, 0, 206, 0, []), none, some (2, 0, 0, 207, 0, []), some (0, 0, 0, 208, 2, []), some (34, 85, 1, 211, 0, [3]), none, none, some (3, 8, 0, 213, 0, []), none, some (2, 0, 0, 214, 0, []), some (0, 0, 0, 216, 100, []), none, some (34, 27, 1, 219, 0, [3]), none, none, some (3, 9, 0, 221, 0, []), none, some (1, 6, 0, 223, 0, []), none, some (26, 274, 0, 226, 0, []), none, none, some (2, 0, 0, 227, 0, []), some (0, 0, 0, 229, 11, []), none, some (34, 85, 1, 232, 0, [3]), none, none, some (1, 4, 0, 234, 0, []), none, some (27, 274, 1, 237, 0, []), none, none, some (2, 0, 0, 238, 0, []), some (0, 0, 0, 239, 2, []), some (34, 85, 1, 242, 0, [3]), none, none, some (1, 8, 0, 244, 0, []), none, some (27, 256, 1, 247, 0, []), none, none, some (1, 3, 0, 248, 0, []), some (1, 8, 0, 250, 0, []), none, some (27, 274, 4, 253, 0, []), none, none, some (28, 265, 0, 256, 0, []), none, none, some (2, 0, 0, 257, 0, []), some (0, 0, 0, 258, 2, []), some (34, 85, 1, 261, 0, [3]), none, none, some (1, 3, 0, 262, 0, []), some (27, 274, 1, 265, 0, []), none, none, some (1, 9, 0, 267, 0, []), none, some (26, 274, 2, 270, 0, []), none, none, some (0, 0, 0, 271, 1, []), some (28, 275, 0, 274, 0, []), none, none, some (0, 0, 0, 275, 0, []), some (3, 6, 0, 277, 0, []), none, some (2, 0, 0, 278, 0, []), some (34, 69, 0, 281, 0, [3]), none, none, some (3, 10, 0, 283, 0, []), none, some (1, 7, 0, 285, 0, []), none, some (0, 0, 0, 287, (-5), []), none, some (27, 295, 1, 290, 0, []), none, none, some (1, 10, 0, 292, 0, []), none, some (28, 299, 0, 295, 0, []), none, none, some (2, 0, 0, 296, 0, []), some (34, 69, 0, 299, 0, [3]), none, none, some (3, 10, 0, 301, 0, []), none, some (1, 6, 0, 303, 0, []), none, some (26, 315, 0, 306, 0, []), none, none, some (1, 10, 0, 308, 0, []), none, some (26, 315, 2, 311, 0, []), none, none, some (0, 0, 0, 312, 1, []), some (28, 316, 0, 315, 0, []), none, none, some (0, 0, 0, 316, 0, []), some (42, 0, 0, 317, 0, [])] -- DiskDrawerLaw.isAtOnceSo
def dT_law : DTbl := [none, none, none, some (30, 0, 0, 4, 0, []), none, none, none, some (4, 1, 0, 8, 0, []), some (0, 0, 0, 9, 0, []), some (3, 2, 0, 10, 0, []), some (1, 2, 0, 11, 0, []), some (0, 0, 0, 13, 50, []), none, some (27, 113, 3, 16, 0, []), none, none, some (2, 0, 0, 17, 0, []), some (1, 2, 0, 18, 0, []), some (35, 87, 2, 21, 0, []), none, none, some (3, 3, 0, 22, 0, []), some (2, 1, 0, 23, 0, []), some (1, 3, 0, 24, 0, []), some (35, 90, 2, 27, 0, []), none, none, some (3, 4, 0, 29, 0, []), none, some (1, 4, 0, 31, 0, []), none, some (0, 0, 0, 33, (-5), []), none, some (27, 105, 2, 36, 0, []), none, none, some (2, 1, 0, 37, 0, []), none, none, none, some (26, 105, 0, 43, 0, []), none, none, some (1, 2, 0, 44, 0, []), some (0, 0, 0, 45, 3, []), some (46, 0, 0, 46, 0, []), some (0, 0, 0, 47, 1, []), some (27, 57, 1, 50, 0, []), none, none, some (2, 1, 0, 51, 0, []), none, none, none, some (26, 105, 0, 57, 0, []), none, none, some (1, 2, 0, 58, 0, []), some (0, 0, 0, 59, 4, []), some (46, 0, 0, 60, 0, []), some (0, 0, 0, 61, 2, []), some (27, 79, 1, 64, 0, []), none, none, some (2, 1, 0, 65, 0, []), some (2, 1, 0, 66, 0, []), some (1, 3, 0, 67, 0, []), some (0, 0, 0, 69, 6, []), none, some (41, 0, 0, 70, 0, []), some (35, 89, 2, 73, 0, []), none, none, some (35, 92, 2, 76, 0, []), none, none, some (26, 105, 0, 79, 0, []), none, none, some (1, 2, 0, 80, 0, []), some (0, 0, 0, 82, 11, []), none, some (46, 0, 0, 83, 0, []), some (0, 0, 0, 85, 7, []), none, some (27, 107, 1, 88, 0, []), none, none, some (2, 1, 0, 89, 0, []), some (0, 0, 0, 90, 1, []), some (1, 3, 0, 91, 0, []), some (0, 0, 0, 92, 5, []), some (41, 0, 0, 93, 0, []), some (0, 0, 0, 95, 12, []), none, some (35, 88, 2, 98, 0, []), none, none, some (19, 0, 0, 99, 0, []), some (35, 93, 2, 102, 0, []), none, none, some (26, 107, 1, 105, 0, []), none, none, some (0, 0, 0, 106, 0, []), none, some (25, 2, 0, 110, 1, []), none, none, some (28, 10, 0, 113, 0, []), none, none, some (0, 0, 0, 114, 1, []), none]
def dT_disks : DTbl := [none, none, none, none, none, none, none, none, none, none, none, some (0, 0, 0, 12, 1, []), some (3, 5, 0, 14, 0, []), none, some (0, 0, 0, 15, 0, []), some (3, 6, 0, 17, 0, []), none, some (1, 6, 0, 19, 0, []), none, some (0, 0, 0, 21, 12, []), none, some (27, 209, 3, 24, 0, []), none, none, some (2, 0, 0, 25, 0, []), some (1, 6, 0, 27, 0, []), none, some (0, 0, 0, 28, 0, []), some (34, 73, 2, 31, 0, [3]), none, none, some (3, 7, 0, 33, 0, []), none, some (2, 4, 0, 35, 0, []), none, some (1, 7, 0, 37, 0, []), none, some (31, 0, 0, 38, 0, []), some (10, 0, 0, 39, 0, []), some (0, 0, 0, 40, 1, []), some (19, 0, 0, 41, 0, []), some (11, 0, 0, 42, 0, []), some (1, 1, 0, 43, 0, []), some (2, 0, 0, 44, 0, []), some (1, 6, 0, 46, 0, []), none, some (0, 0, 0, 47, 1, []), some (34, 73, 2, 50, 0, [3]), none, none, some (19, 0, 0, 51, 0, []), some (3, 1, 0, 52, 0, []), some (1, 2, 0, 53, 0, []), some (2, 0, 0, 54, 0, []), some (1, 6, 0, 56, 0, []), none, some (0, 0, 0, 57, 5, []), some (34, 73, 2, 60, 0, [3]), none, none, some (19, 0, 0, 61, 0, []), some (3, 2, 0, 62, 0, []), some (1, 3, 0, 63, 0, []), some (2, 0, 0, 64, 0, []), some (1, 6, 0, 66, 0, []), none, some (0, 0, 0, 68, 7, []), none, some (34, 73, 2, 71, 0, [3]), none, none, some (19, 0, 0, 72, 0, []), some (3, 3, 0, 73, 0, []), some (1, 5, 0, 75, 0, []), none, some (26, 200, 0, 78, 0, []), none, none, some (2, 0, 0, 79, 0, []), some (1, 6, 0, 81, 0, []), none, some (0, 0, 0, 82, 1, []), some (34, 73, 2, 85, 0, [3]), none, none, some (2, 0, 0, 86, 0, []), some (1, 6, 0, 88, 0, []), none, some (35, 91, 2, 91, 0, []), none, none, some (27, 200, 1, 94, 0, []), none, none, some (2, 0, 0, 95, 0, []), some (1, 6, 0, 97, 0, []), none, some (0, 0, 0, 98, 2, []), some (34, 73, 2, 101, 0, [3]), none, none, some (26, 108, 5, 104, 0, []), none, none, some (0, 0, 0, 105, 1, []), some (28, 109, 0, 108, 0, []), none, none, some (0, 0, 0, 109, 0, []), some (1, 7, 0, 111, 0, []), none, some (0, 0, 0, 112, 1, []), some (27, 119, 1, 115, 0, []), none, none, some (0, 0, 0, 116, 1, []), some (28, 120, 0, 119, 0, []), none, none, some (0, 0, 0, 120, 0, []), some (27, 200, 1, 123, 0, []), none, none, some (1, 7, 0, 125, 0, []), none, some (0, 0, 0, 126, 3, []), some (27, 133, 1, 129, 0, []), none, none, some (0, 0, 0, 130, 1, []), some (28, 134, 0, 133, 0, []), none, none, some (0, 0, 0, 134, 0, []), some (2, 0, 0, 135, 0, []), some (1, 6, 0, 137, 0, []), none, some (0, 0, 0, 138, 3, []), some (34, 73, 2, 141, 0, [3]), none, none, some (0, 0, 0, 142, 3, []), some (27, 149, 1, 145, 0, []), none, none, some (0, 0, 0, 146, 1, []), some (28, 150, 0, 149, 0, []), none, none, some (0, 0, 0, 150, 0, []), some (27, 200, 1, 153, 0, []), none, none, some (2, 0, 0, 154, 0, []), some (1, 6, 0, 156, 0, []), none, some (0, 0, 0, 157, 3, []), some (34, 73, 2, 160, 0, [3]), none, none, some (0, 0, 0, 161, 3, []), some (27, 200, 4, 164, 0, []), none, none, some (1, 7, 0, 166, 0, []), none, some (0, 0, 0, 167, 2, []), some (27, 180, 0, 170, 0, []), none, none, some (2, 0, 0, 171, 0, []), some (1, 6, 0, 173, 0, []), none, some (0, 0, 0, 174, 4, []), some (34, 73, 2, 177, 0, [3]), none, none, some (26, 200, 1, 180, 0, []), none, none, some (1, 7, 0, 182, 0, []), none, some (0, 0, 0, 183, 3, []), some (27, 196, 1, 186, 0, []), none, none, some (2, 0, 0, 187, 0, []), some (1, 6, 0, 189, 0, []), none, some (0, 0, 0, 190, 5, []), some (34, 73, 2, 193, 0, [3]), none, none, some (26, 200, 1, 196, 0, []), none, none, some (0, 0, 0, 197, 1, []), some (28, 201, 0, 200, 0, []), none, none, some (0, 0, 0, 201, 0, []), some (3, 5, 0, 203, 0, []), none, some (25, 6, 0, 206, 1, []), none, none, some (28, 17, 0, 209, 0, []), none, none, some (0, 0, 0, 211, 7, []), none, some (3, 6, 0, 213, 0, []), none, some (1, 6, 0, 215, 0, []), none, some (0, 0, 0, 217, 11, []), none, some (27, 255, 3, 220, 0, []), none, none, some (1, 5, 0, 222, 0, []), none, some (26, 246, 0, 225, 0, []), none, none, some (2, 0, 0, 226, 0, []), some (1, 6, 0, 228, 0, []), none, some (34, 85, 1, 231, 0, [3]), none, none, some (2, 4, 0, 233, 0, []), none, some (1, 6, 0, 235, 0, []), none, some (0, 0, 0, 237, 7, []), none, some (20, 0, 0, 238, 0, []), some (10, 0, 0, 239, 0, []), some (27, 246, 1, 242, 0, []), none, none, some (0, 0, 0, 243, 1, []), some (28, 247, 0, 246, 0, []), none, none, some (0, 0, 0, 247, 0, []), some (3, 5, 0, 249, 0, []), none, some (25, 6, 0, 252, 1, []), none, none, some (28, 213, 0, 255, 0, []), none, none, some (1, 5, 0, 257, 0, []), none, some (26, 371, 0, 260, 0, []), none, none, some (1, 1, 0, 261, 0, []), some (2, 0, 0, 262, 0, []), some (0, 0, 0, 263, 1, []), some (34, 85, 1, 266, 0, [3]), none, none, some (27, 371, 1, 269, 0, []), none, none, some (1, 2, 0, 270, 0, []), some (2, 0, 0, 271, 0, []), some (0, 0, 0, 272, 3, []), some (34, 85, 1, 275, 0, [3]), none, none, some (27, 371, 1, 278, 0, []), none, none, some (1, 3, 0, 279, 0, []), some (2, 0, 0, 280, 0, []), some (0, 0, 0, 282, 14, []), none, some (34, 85, 1, 285, 0, [3]), none, none, some (27, 371, 4, 288, 0, []), none, none, some (2, 0, 0, 289, 0, []), some (0, 0, 0, 291, 15, []), none, some (34, 85, 1, 294, 0, [3]), none, none, some (2, 0, 0, 295, 0, []), some (0, 0, 0, 297, 14, []), none, some (34, 85, 1, 300, 0, [3]), none, none, some (27, 371, 4, 303, 0, []), none, none, some (2, 0, 0, 304, 0, []), some (0, 0, 0, 305, 5, []), some (34, 85, 1, 308, 0, [3]), none, none, some (2, 0, 0, 309, 0, []), some (0, 0, 0, 311, 6, []), none, some (34, 85, 1, 314, 0, [3]), none, none, some (19, 0, 0, 315, 0, []), some (2, 0, 0, 316, 0, []), some (0, 0, 0, 317, 3, []), some (34, 85, 1, 320, 0, [3]), none, none, some (19, 0, 0, 321, 0, []), some (2, 0, 0, 322, 0, []), some (0, 0, 0, 323, 4, []), some (34, 85, 1, 326, 0, [3]), none, none, some (27, 371, 4, 329, 0, []), none, none, some (2, 0, 0, 330, 0, []), some (0, 0, 0, 332, 11, []), none, some (34, 85, 1, 335, 0, [3]), none, none, some (26, 354, 0, 338, 0, []), none, none, some (2, 0, 0, 339, 0, []), some (0, 0, 0, 341, 12, []), none, some (34, 85, 1, 344, 0, [3]), none, none, some (26, 371, 1, 347, 0, []), none, none, some (2, 0, 0, 348, 0, []), some (34, 78, 0, 351, 0, [3]), none, none, some (26, 371, 1, 354, 0, []), none, none, some (2, 0, 0, 355, 0, []), some (34, 78, 0, 358, 0, [3]), none, none, some (2, 0, 0, 359, 0, []), some (0, 0, 0, 361, 7, []), none, some (34, 85, 1, 364, 0, [3]), none, none, some (27, 371, 4, 367, 0, []), none, none, some (0, 0, 0, 368, 1, []), some (28, 372, 0, 371, 0, []), none, none, some (0, 0, 0, 372, 0, []), some (3, 5, 0, 374, 0, []), none, some (1, 5, 0, 376, 0, []), none, some (42, 0, 0, 377, 0, [])]
def dT_reads : DTbl := [none, none, none, none, none, none, none, some (2, 0, 0, 8, 0, []), some (2, 0, 0, 9, 0, []), some (0, 0, 0, 10, 4, []), some (34, 85, 1, 13, 0, [3]), none, none, some (0, 0, 0, 14, 0, []), some (34, 75, 2, 17, 0, [3]), none, none, some (0, 0, 0, 18, (-1), []), some (27, 25, 1, 21, 0, []), none, none, some (0, 0, 0, 22, 1, []), some (28, 26, 0, 25, 0, []), none, none, some (0, 0, 0, 26, 0, []), some (3, 3, 0, 27, 0, []), some (0, 0, 0, 28, 0, []), some (3, 4, 0, 30, 0, []), none, some (1, 4, 0, 32, 0, []), none, some (2, 0, 0, 33, 0, []), some (0, 0, 0, 34, 4, []), some (34, 85, 1, 37, 0, [3]), none, none, some (27, 147, 3, 40, 0, []), none, none, some (2, 0, 0, 41, 0, []), some (1, 4, 0, 43, 0, []), none, some (0, 0, 0, 44, 0, []), some (34, 75, 2, 47, 0, [3]), none, none, some (3, 5, 0, 49, 0, []), none, some (1, 5, 0, 51, 0, []), none, some (26, 141, 2, 54, 0, []), none, none, some (2, 0, 0, 55, 0, []), some (1, 4, 0, 57, 0, []), none, some (0, 0, 0, 58, 2, []), some (34, 75, 2, 61, 0, [3]), none, none, some (3, 6, 0, 63, 0, []), none, some (25, 1, 0, 66, 1, []), none, none, some (1, 3, 0, 67, 0, []), some (26, 131, 0, 70, 0, []), none, none, some (1, 6, 0, 72, 0, []), none, some (0, 0, 0, 73, 1, []), some (27, 131, 2, 76, 0, []), none, none, some (1, 6, 0, 78, 0, []), none, some (2, 0, 0, 79, 0, []), some (1, 4, 0, 81, 0, []), none, some (0, 0, 0, 82, 1, []), some (34, 75, 2, 85, 0, [3]), none, none, some (27, 131, 4, 88, 0, []), none, none, some (2, 0, 0, 89, 0, []), some (1, 4, 0, 91, 0, []), none, some (0, 0, 0, 92, 3, []), some (34, 75, 2, 95, 0, [3]), none, none, some (2, 2, 0, 96, 0, []), some (1, 5, 0, 98, 0, []), none, some (10, 0, 0, 99, 0, []), some (27, 131, 1, 102, 0, []), none, none, some (2, 0, 0, 103, 0, []), some (1, 4, 0, 105, 0, []), none, some (0, 0, 0, 106, 4, []), some (34, 75, 2, 109, 0, [3]), none, none, some (26, 131, 2, 112, 0, []), none, none, some (2, 0, 0, 113, 0, []), some (1, 4, 0, 115, 0, []), none, some (0, 0, 0, 116, 4, []), some (34, 75, 2, 119, 0, [3]), none, none, some (2, 0, 0, 120, 0, []), some (0, 0, 0, 121, 0, []), some (34, 85, 1, 124, 0, [3]), none, none, some (27, 131, 4, 127, 0, []), none, none, some (0, 0, 0, 128, 1, []), some (28, 132, 0, 131, 0, []), none, none, some (0, 0, 0, 132, 0, []), some (3, 3, 0, 133, 0, []), some (2, 2, 0, 134, 0, []), some (1, 5, 0, 136, 0, []), none, some (31, 0, 0, 137, 0, []), some (10, 0, 0, 138, 0, []), some (0, 0, 0, 139, 1, []), some (19, 0, 0, 140, 0, []), some (11, 0, 0, 141, 0, []), some (25, 4, 0, 144, 1, []), none, none, some (28, 30, 0, 147, 0, []), none, none, some (1, 3, 0, 148, 0, []), some (26, 164, 0, 151, 0, []), none, none, some (1, 1, 0, 152, 0, []), some (2, 0, 0, 153, 0, []), some (0, 0, 0, 154, 3, []), some (34, 85, 1, 157, 0, [3]), none, none, some (27, 164, 1, 160, 0, []), none, none, some (0, 0, 0, 161, 1, []), some (28, 165, 0, 164, 0, []), none, none, some (0, 0, 0, 165, 0, []), some (42, 0, 0, 166, 0, [])]
abbrev DM : Type := MethodName × ByteArray × Nat × Option FieldType × Nat × DTbl
def dM_0 : DM := (⟨"DiskDrawer", "set", "(II)I"⟩, prog_1_method_2_code, 3, some .int, 3, dT_0)
def dM_1 : DM := (⟨"DiskDrawer$Past", "prepare", "(LDiskDrawer$State;)V"⟩, prog_3_method_2_code, 2, none, 4, dT_1)
def dM_2 : DM := (⟨"DiskDrawer$State", "copyFrom", "(LDiskDrawer$State;)V"⟩, prog_6_method_2_code, 3, none, 0, dT_2)
def dM_3 : DM := (⟨"DiskDrawer$Disk", "copyFrom", "(LDiskDrawer$Disk;)V"⟩, prog_2_method_2_code, 2, none, 1, dT_3)
def dM_4 : DM := (⟨"DiskDrawer$Read", "copyFrom", "(LDiskDrawer$Read;)V"⟩, prog_5_method_2_code, 2, none, 2, dT_4)
def dM_5 : DM := (⟨"DiskDrawer$State", "setNumber", "(II)I"⟩, prog_6_method_3_code, 4, some .int, 0, dT_5)
def dM_6 : DM := (⟨"DiskDrawer", "isWithin", "(III)Z"⟩, prog_1_method_26_code, 3, some .boolean, 3, dT_6)
def dM_7 : DM := (⟨"DiskDrawer$Past", "recorded", "(I)I"⟩, prog_3_method_4_code, 2, some .int, 4, dT_7)
def dM_8 : DM := (⟨"DiskDrawer$Past", "forgetOldest", "()V"⟩, prog_3_method_5_code, 3, none, 4, dT_8)
def dM_9 : DM := (⟨"DiskDrawer", "read", "(II)I"⟩, prog_1_method_3_code, 3, some .int, 3, dT_9)
def dM_10 : DM := (⟨"DiskDrawer$State", "addRead", "(II)I"⟩, prog_6_method_4_code, 4, some .int, 0, dT_10)
def dM_11 : DM := (⟨"DiskDrawer$State", "isDisk", "(I)Z"⟩, prog_6_method_25_code, 1, some .boolean, 0, dT_11)
def dM_12 : DM := (⟨"DiskDrawer", "drop", "(I)I"⟩, prog_1_method_4_code, 2, some .int, 3, dT_12)
def dM_13 : DM := (⟨"DiskDrawer$State", "dropRead", "(I)I"⟩, prog_6_method_5_code, 3, some .int, 0, dT_13)
def dM_14 : DM := (⟨"DiskDrawer$State", "placeOf", "(I)I"⟩, prog_6_method_26_code, 3, some .int, 0, dT_14)
def dM_15 : DM := (⟨"DiskDrawer$State", "sweepReads", "()V"⟩, prog_6_method_16_code, 4, none, 0, dT_15)
def dM_16 : DM := (⟨"DiskDrawer", "fail", "(I)I"⟩, prog_1_method_5_code, 2, some .int, 3, dT_16)
def dM_17 : DM := (⟨"DiskDrawer$State", "planFault", "(I)I"⟩, prog_6_method_6_code, 4, some .int, 0, dT_17)
def dM_18 : DM := (⟨"DiskDrawer", "flag", "(Z)I"⟩, prog_1_method_27_code, 1, some .int, 3, dT_18)
def dM_19 : DM := (⟨"DiskDrawer", "replace", "(I)I"⟩, prog_1_method_6_code, 2, some .int, 3, dT_19)
def dM_20 : DM := (⟨"DiskDrawer$State", "replaceDisk", "(I)I"⟩, prog_6_method_7_code, 4, some .int, 0, dT_20)
def dM_21 : DM := (⟨"DiskDrawer$Disk", "renew", "()V"⟩, prog_2_method_7_code, 1, none, 1, dT_21)
def dM_22 : DM := (⟨"DiskDrawer$Disk", "standBy", "()V"⟩, prog_2_method_3_code, 1, none, 1, dT_22)
def dM_23 : DM := (⟨"DiskDrawer", "fuse", "()I"⟩, prog_1_method_7_code, 1, some .int, 3, dT_23)
def dM_24 : DM := (⟨"DiskDrawer$State", "renewFuse", "()I"⟩, prog_6_method_8_code, 1, some .int, 0, dT_24)
def dM_25 : DM := (⟨"DiskDrawer$State", "currentOfNow", "()I"⟩, prog_6_method_21_code, 3, some .int, 0, dT_25)
def dM_26 : DM := (⟨"DiskDrawer$State", "currentOf", "(LDiskDrawer$Disk;)I"⟩, prog_6_method_22_code, 2, some .int, 0, dT_26)
def dM_27 : DM := (⟨"DiskDrawer", "run", "(I)I"⟩, prog_1_method_8_code, 2, some .int, 3, dT_27)
def dM_28 : DM := (⟨"DiskDrawer$State", "pass", "(I)I"⟩, prog_6_method_9_code, 4, some .int, 0, dT_28)
def dM_29 : DM := (⟨"DiskDrawer$State", "tick", "()V"⟩, prog_6_method_10_code, 2, none, 0, dT_29)
def dM_30 : DM := (⟨"DiskDrawer$State", "cutOff", "()V"⟩, prog_6_method_11_code, 2, none, 0, dT_30)
def dM_31 : DM := (⟨"DiskDrawer$State", "goOnStarting", "()I"⟩, prog_6_method_12_code, 4, some .int, 0, dT_31)
def dM_32 : DM := (⟨"DiskDrawer$Disk", "failStart", "()V"⟩, prog_2_method_6_code, 1, none, 1, dT_32)
def dM_33 : DM := (⟨"DiskDrawer$State", "loseReadsOf", "(I)V"⟩, prog_6_method_13_code, 3, none, 0, dT_33)
def dM_34 : DM := (⟨"DiskDrawer$Disk", "spinUp", "()V"⟩, prog_2_method_5_code, 1, none, 1, dT_34)
def dM_35 : DM := (⟨"DiskDrawer$State", "goOnReading", "()V"⟩, prog_6_method_14_code, 5, none, 0, dT_35)
def dM_36 : DM := (⟨"DiskDrawer$State", "restIdle", "(I)V"⟩, prog_6_method_15_code, 4, none, 0, dT_36)
def dM_37 : DM := (⟨"DiskDrawer$State", "beginStarts", "(I)V"⟩, prog_6_method_17_code, 7, none, 0, dT_37)
def dM_38 : DM := (⟨"DiskDrawer$State", "disksThat", "(I)I"⟩, prog_6_method_23_code, 4, some .int, 0, dT_38)
def dM_39 : DM := (⟨"DiskDrawer$State", "mayStart", "(II)Z"⟩, prog_6_method_18_code, 3, some .boolean, 0, dT_39)
def dM_40 : DM := (⟨"DiskDrawer$State", "currentAddedByStart", "()I"⟩, prog_6_method_19_code, 1, some .int, 0, dT_40)
def dM_41 : DM := (⟨"DiskDrawer$Disk", "beginStart", "(I)V"⟩, prog_2_method_4_code, 2, none, 1, dT_41)
def dM_42 : DM := (⟨"DiskDrawer$State", "strainFuse", "()V"⟩, prog_6_method_20_code, 2, none, 0, dT_42)
def dM_69 : DM := (⟨"DiskDrawer", "undo", "()I"⟩, prog_1_method_12_code, 1, some .int, 3, dT_69)
def dM_70 : DM := (⟨"DiskDrawer$Past", "takeBack", "(LDiskDrawer$State;)Z"⟩, prog_3_method_6_code, 2, some .boolean, 4, dT_70)
def dM_73 : DM := (⟨"DiskDrawer", "disk", "(II)I"⟩, prog_1_method_15_code, 3, some .int, 3, dT_73)
def dM_74 : DM := (⟨"DiskDrawer$State", "tellDisk", "(II)I"⟩, prog_6_method_27_code, 4, some .int, 0, dT_74)
def dM_75 : DM := (⟨"DiskDrawer", "readOf", "(II)I"⟩, prog_1_method_16_code, 3, some .int, 3, dT_75)
def dM_76 : DM := (⟨"DiskDrawer$State", "tellRead", "(II)I"⟩, prog_6_method_28_code, 5, some .int, 0, dT_76)
def dM_77 : DM := (⟨"DiskDrawer$State", "readsAheadOf", "(I)I"⟩, prog_6_method_29_code, 4, some .int, 0, dT_77)
def dM_78 : DM := (⟨"DiskDrawer", "couldStart", "()I"⟩, prog_1_method_17_code, 1, some .int, 3, dT_78)
def dM_79 : DM := (⟨"DiskDrawer$State", "startable", "()I"⟩, prog_6_method_24_code, 5, some .int, 0, dT_79)
def dM_80 : DM := (⟨"DiskDrawer", "answeredIn", "(I)I"⟩, prog_1_method_18_code, 5, some .int, 3, dT_80)
def dM_81 : DM := (⟨"DiskDrawer", "ifAtOnce", "(II)I"⟩, prog_1_method_19_code, 4, some .int, 3, dT_81)
def dM_82 : DM := (⟨"DiskDrawer", "ticksUntilAllRead", "(II)I"⟩, prog_1_method_24_code, 4, some .int, 3, dT_82)
def dM_83 : DM := (⟨"DiskDrawer", "beginTrial", "(I)V"⟩, prog_1_method_23_code, 2, none, 3, dT_83)
def dM_84 : DM := (⟨"DiskDrawer", "bestAtOnce", "()I"⟩, prog_1_method_20_code, 5, some .int, 3, dT_84)
def dM_85 : DM := (⟨"DiskDrawer", "count", "(I)I"⟩, prog_1_method_21_code, 2, some .int, 3, dT_85)
def dM_86 : DM := (⟨"DiskDrawer$State", "tellCount", "(I)I"⟩, prog_6_method_30_code, 2, some .int, 0, dT_86)
def dM_87 : DM := (⟨"DiskDrawerLaw", "cell", "([II)I"⟩, method_2_code, 2, some .int, 11, dT_87)
def dM_88 : DM := (⟨"DiskDrawerLaw", "low", "(II)I"⟩, method_3_code, 2, some .int, 11, dT_88)
def dM_89 : DM := (⟨"DiskDrawerLaw", "some", "(LDiskDrawer;I)I"⟩, method_4_code, 4, some .int, 11, dT_89)
def dM_90 : DM := (⟨"DiskDrawerLaw", "does", "(LDiskDrawer;I)I"⟩, method_5_code, 5, some .int, 11, dT_90)
def dM_91 : DM := (⟨"DiskDrawerLaw", "currentOf", "(LDiskDrawer;I)I"⟩, method_6_code, 3, some .int, 11, dT_91)
def dM_92 : DM := (⟨"DiskDrawerLaw", "isAnswerSo", "(LDiskDrawer;I)Z"⟩, method_9_code, 11, some .boolean, 11, dT_92)
def dM_93 : DM := (⟨"DiskDrawerLaw", "isAtOnceSo", "(LDiskDrawer;I)Z"⟩, method_10_code, 11, some .boolean, 11, dT_93)
def dms_0 : List DM := [dM_0, dM_1, dM_2, dM_3, dM_4, dM_5, dM_6, dM_7, dM_8, dM_9, dM_10, dM_11, dM_12, dM_13, dM_14, dM_15, dM_16, dM_17, dM_18, dM_19, dM_20, dM_21, dM_22, dM_23, dM_24]
def dms_1 : List DM := [dM_25, dM_26, dM_27, dM_28, dM_29, dM_30, dM_31, dM_32, dM_33, dM_34, dM_35, dM_36, dM_37, dM_38, dM_39, dM_40, dM_41, dM_42, dM_18, dM_18, dM_18, dM_18, dM_18, dM_18, dM_18]
def dms_2 : List DM := [dM_18, dM_18, dM_18, dM_18, dM_18, dM_18, dM_18, dM_18, dM_18, dM_18, dM_18, dM_18, dM_18, dM_18, dM_18, dM_18, dM_18, dM_18, dM_18, dM_69, dM_70, dM_18, dM_18, dM_73, dM_74]
def dms_3 : List DM := [dM_75, dM_76, dM_77, dM_78, dM_79, dM_80, dM_81, dM_82, dM_83, dM_84, dM_85, dM_86, dM_87, dM_88, dM_89, dM_90, dM_91, dM_92, dM_93]
def dms : List DM := dms_0 ++ (dms_1 ++ (dms_2 ++ (dms_3)))
theorem dms_at_0 : dms[0]? = some dM_0 := rfl
theorem dms_at_1 : dms[1]? = some dM_1 := rfl
theorem dms_at_2 : dms[2]? = some dM_2 := rfl
theorem dms_at_3 : dms[3]? = some dM_3 := rfl
theorem dms_at_4 : dms[4]? = some dM_4 := rfl
theorem dms_at_5 : dms[5]? = some dM_5 := rfl
theorem dms_at_6 : dms[6]? = some dM_6 := rfl
theorem dms_at_7 : dms[7]? = some dM_7 := rfl
theorem dms_at_8 : dms[8]? = some dM_8 := rfl
theorem dms_at_9 : dms[9]? = some dM_9 := rfl
theorem dms_at_10 : dms[10]? = some dM_10 := rfl
theorem dms_at_11 : dms[11]? = some dM_11 := rfl
theorem dms_at_12 : dms[12]? = some dM_12 := rfl
theorem dms_at_13 : dms[13]? = some dM_13 := rfl
theorem dms_at_14 : dms[14]? = some dM_14 := rfl
theorem dms_at_15 : dms[15]? = some dM_15 := rfl
theorem dms_at_16 : dms[16]? = some dM_16 := rfl
theorem dms_at_17 : dms[17]? = some dM_17 := rfl
theorem dms_at_18 : dms[18]? = some dM_18 := rfl
theorem dms_at_19 : dms[19]? = some dM_19 := rfl
theorem dms_at_20 : dms[20]? = some dM_20 := rfl
theorem dms_at_21 : dms[21]? = some dM_21 := rfl
theorem dms_at_22 : dms[22]? = some dM_22 := rfl
theorem dms_at_23 : dms[23]? = some dM_23 := rfl
theorem dms_at_24 : dms[24]? = some dM_24 := rfl
theorem dms_at_25 : dms[25]? = some dM_25 := rfl
theorem dms_at_26 : dms[26]? = some dM_26 := rfl
theorem dms_at_27 : dms[27]? = some dM_27 := rfl
theorem dms_at_28 : dms[28]? = some dM_28 := rfl
theorem dms_at_29 : dms[29]? = some dM_29 := rfl
theorem dms_at_30 : dms[30]? = some dM_30 := rfl
theorem dms_at_31 : dms[31]? = some dM_31 := rfl
theorem dms_at_32 : dms[32]? = some dM_32 := rfl
theorem dms_at_33 : dms[33]? = some dM_33 := rfl
theorem dms_at_34 : dms[34]? = some dM_34 := rfl
theorem dms_at_35 : dms[35]? = some dM_35 := rfl
theorem dms_at_36 : dms[36]? = some dM_36 := rfl
theorem dms_at_37 : dms[37]? = some dM_37 := rfl
theorem dms_at_38 : dms[38]? = some dM_38 := rfl
theorem dms_at_39 : dms[39]? = some dM_39 := rfl
theorem dms_at_40 : dms[40]? = some dM_40 := rfl
theorem dms_at_41 : dms[41]? = some dM_41 := rfl
theorem dms_at_42 : dms[42]? = some dM_42 := rfl
theorem dms_at_69 : dms[69]? = some dM_69 := rfl
theorem dms_at_70 : dms[70]? = some dM_70 := rfl
theorem dms_at_73 : dms[73]? = some dM_73 := rfl
theorem dms_at_74 : dms[74]? = some dM_74 := rfl
theorem dms_at_75 : dms[75]? = some dM_75 := rfl
theorem dms_at_76 : dms[76]? = some dM_76 := rfl
theorem dms_at_77 : dms[77]? = some dM_77 := rfl
theorem dms_at_78 : dms[78]? = some dM_78 := rfl
theorem dms_at_79 : dms[79]? = some dM_79 := rfl
theorem dms_at_80 : dms[80]? = some dM_80 := rfl
theorem dms_at_81 : dms[81]? = some dM_81 := rfl
theorem dms_at_82 : dms[82]? = some dM_82 := rfl
theorem dms_at_83 : dms[83]? = some dM_83 := rfl
theorem dms_at_84 : dms[84]? = some dM_84 := rfl
theorem dms_at_85 : dms[85]? = some dM_85 := rfl
theorem dms_at_86 : dms[86]? = some dM_86 := rfl
theorem dms_at_87 : dms[87]? = some dM_87 := rfl
theorem dms_at_88 : dms[88]? = some dM_88 := rfl
theorem dms_at_89 : dms[89]? = some dM_89 := rfl
theorem dms_at_90 : dms[90]? = some dM_90 := rfl
theorem dms_at_91 : dms[91]? = some dM_91 := rfl
theorem dms_at_92 : dms[92]? = some dM_92 := rfl
theorem dms_at_93 : dms[93]? = some dM_93 := rfl
def dEx : Nat → DC
  | 0, _, _, _, _ => False
  | d + 1, mid, as, h, r => ∃ q : DM, dms[mid]? = some q ∧ as.length ≤ q.2.2.1 ∧ Runs q.2.2.2.2.2 (dEx d) (0, as.map some ++ List.replicate (q.2.2.1 - as.length) none, [], h) r
theorem dx_0 {d : Nat} {v0 v1 v2 : DV} {h : DH} {r : DRes} (k : Runs dT_0 (dEx d) (0, [some v0, some v1, some v2], [], h) r) : dEx (d + 1) 0 [v0, v1, v2] h r := ⟨dM_0, dms_at_0, Nat.le_of_ble_eq_true rfl, k⟩
theorem dx_1 {d : Nat} {v0 v1 : DV} {h : DH} {r : DRes} (k : Runs dT_1 (dEx d) (0, [some v0, some v1], [], h) r) : dEx (d + 1) 1 [v0, v1] h r := ⟨dM_1, dms_at_1, Nat.le_of_ble_eq_true rfl, k⟩
theorem dx_2 {d : Nat} {v0 v1 : DV} {h : DH} {r : DRes} (k : Runs dT_2 (dEx d) (0, [some v0, some v1, none], [], h) r) : dEx (d + 1) 2 [v0, v1] h r := ⟨dM_2, dms_at_2, Nat.le_of_ble_eq_true rfl, k⟩
theorem dx_3 {d : Nat} {v0 v1 : DV} {h : DH} {r : DRes} (k : Runs dT_3 (dEx d) (0, [some v0, some v1], [], h) r) : dEx (d + 1) 3 [v0, v1] h r := ⟨dM_3, dms_at_3, Nat.le_of_ble_eq_true rfl, k⟩
theorem dx_4 {d : Nat} {v0 v1 : DV} {h : DH} {r : DRes} (k : Runs dT_4 (dEx d) (0, [some v0, some v1], [], h) r) : dEx (d + 1) 4 [v0, v1] h r := ⟨dM_4, dms_at_4, Nat.le_of_ble_eq_true rfl, k⟩
theorem dx_5 {d : Nat} {v0 v1 v2 : DV} {h : DH} {r : DRes} (k : Runs dT_5 (dEx d) (0, [some v0, some v1, some v2, none], [], h) r) : dEx (d + 1) 5 [v0, v1, v2] h r := ⟨dM_5, dms_at_5, Nat.le_of_ble_eq_true rfl, k⟩
theorem dx_6 {d : Nat} {v0 v1 v2 : DV} {h : DH} {r : DRes} (k : Runs dT_6 (dEx d) (0, [some v0, some v1, some v2], [], h) r) : dEx (d + 1) 6 [v0, v1, v2] h r := ⟨dM_6, dms_at_6, Nat.le_of_ble_eq_true rfl, k⟩
theorem dx_7 {d : Nat} {v0 v1 : DV} {h : DH} {r : DRes} (k : Runs dT_7 (dEx d) (0, [some v0, some v1], [], h) r) : dEx (d + 1) 7 [v0, v1] h r := ⟨dM_7, dms_at_7, Nat.le_of_ble_eq_true rfl, k⟩
theorem dx_8 {d : Nat} {v0 : DV} {h : DH} {r : DRes} (k : Runs dT_8 (dEx d) (0, [some v0, none, none], [], h) r) : dEx (d + 1) 8 [v0] h r := ⟨dM_8, dms_at_8, Nat.le_of_ble_eq_true rfl, k⟩
theorem dx_9 {d : Nat} {v0 v1 v2 : DV} {h : DH} {r : DRes} (k : Runs dT_9 (dEx d) (0, [some v0, some v1, some v2], [], h) r) : dEx (d + 1) 9 [v0, v1, v2] h r := ⟨dM_9, dms_at_9, Nat.le_of_ble_eq_true rfl, k⟩
theorem dx_10 {d : Nat} {v0 v1 v2 : DV} {h : DH} {r : DRes} (k : Runs dT_10 (dEx d) (0, [some v0, some v1, some v2, none], [], h) r) : dEx (d + 1) 10 [v0, v1, v2] h r := ⟨dM_10, dms_at_10, Nat.le_of_ble_eq_true rfl, k⟩
theorem dx_11 {d : Nat} {v0 : DV} {h : DH} {r : DRes} (k : Runs dT_11 (dEx d) (0, [some v0], [], h) r) : dEx (d + 1) 11 [v0] h r := ⟨dM_11, dms_at_11, Nat.le_of_ble_eq_true rfl, k⟩
theorem dx_12 {d : Nat} {v0 v1 : DV} {h : DH} {r : DRes} (k : Runs dT_12 (dEx d) (0, [some v0, some v1], [], h) r) : dEx (d + 1) 12 [v0, v1] h r := ⟨dM_12, dms_at_12, Nat.le_of_ble_eq_true rfl, k⟩
theorem dx_13 {d : Nat} {v0 v1 : DV} {h : DH} {r : DRes} (k : Runs dT_13 (dEx d) (0, [some v0, some v1, none], [], h) r) : dEx (d + 1) 13 [v0, v1] h r := ⟨dM_13, dms_at_13, Nat.le_of_ble_eq_true rfl, k⟩
theorem dx_14 {d : Nat} {v0 v1 : DV} {h : DH} {r : DRes} (k : Runs dT_14 (dEx d) (0, [some v0, some v1, none], [], h) r) : dEx (d + 1) 14 [v0, v1] h r := ⟨dM_14, dms_at_14, Nat.le_of_ble_eq_true rfl, k⟩
theorem dx_15 {d : Nat} {v0 : DV} {h : DH} {r : DRes} (k : Runs dT_15 (dEx d) (0, [some v0, none, none, none], [], h) r) : dEx (d + 1) 15 [v0] h r := ⟨dM_15, dms_at_15, Nat.le_of_ble_eq_true rfl, k⟩
theorem dx_16 {d : Nat} {v0 v1 : DV} {h : DH} {r : DRes} (k : Runs dT_16 (dEx d) (0, [some v0, some v1], [], h) r) : dEx (d + 1) 16 [v0, v1] h r := ⟨dM_16, dms_at_16, Nat.le_of_ble_eq_true rfl, k⟩
theorem dx_17 {d : Nat} {v0 v1 : DV} {h : DH} {r : DRes} (k : Runs dT_17 (dEx d) (0, [some v0, some v1, none, none], [], h) r) : dEx (d + 1) 17 [v0, v1] h r := ⟨dM_17, dms_at_17, Nat.le_of_ble_eq_true rfl, k⟩
theorem dx_18 {d : Nat} {v0 : DV} {h : DH} {r : DRes} (k : Runs dT_18 (dEx d) (0, [some v0], [], h) r) : dEx (d + 1) 18 [v0] h r := ⟨dM_18, dms_at_18, Nat.le_of_ble_eq_true rfl, k⟩
theorem dx_19 {d : Nat} {v0 v1 : DV} {h : DH} {r : DRes} (k : Runs dT_19 (dEx d) (0, [some v0, some v1], [], h) r) : dEx (d + 1) 19 [v0, v1] h r := ⟨dM_19, dms_at_19, Nat.le_of_ble_eq_true rfl, k⟩
theorem dx_20 {d : Nat} {v0 v1 : DV} {h : DH} {r : DRes} (k : Runs dT_20 (dEx d) (0, [some v0, some v1, none, none], [], h) r) : dEx (d + 1) 20 [v0, v1] h r := ⟨dM_20, dms_at_20, Nat.le_of_ble_eq_true rfl, k⟩
theorem dx_21 {d : Nat} {v0 : DV} {h : DH} {r : DRes} (k : Runs dT_21 (dEx d) (0, [some v0], [], h) r) : dEx (d + 1) 21 [v0] h r := ⟨dM_21, dms_at_21, Nat.le_of_ble_eq_true rfl, k⟩
theorem dx_22 {d : Nat} {v0 : DV} {h : DH} {r : DRes} (k : Runs dT_22 (dEx d) (0, [some v0], [], h) r) : dEx (d + 1) 22 [v0] h r := ⟨dM_22, dms_at_22, Nat.le_of_ble_eq_true rfl, k⟩
theorem dx_23 {d : Nat} {v0 : DV} {h : DH} {r : DRes} (k : Runs dT_23 (dEx d) (0, [some v0], [], h) r) : dEx (d + 1) 23 [v0] h r := ⟨dM_23, dms_at_23, Nat.le_of_ble_eq_true rfl, k⟩
theorem dx_24 {d : Nat} {v0 : DV} {h : DH} {r : DRes} (k : Runs dT_24 (dEx d) (0, [some v0], [], h) r) : dEx (d + 1) 24 [v0] h r := ⟨dM_24, dms_at_24, Nat.le_of_ble_eq_true rfl, k⟩
theorem dx_25 {d : Nat} {v0 : DV} {h : DH} {r : DRes} (k : Runs dT_25 (dEx d) (0, [some v0, none, none], [], h) r) : dEx (d + 1) 25 [v0] h r := ⟨dM_25, dms_at_25, Nat.le_of_ble_eq_true rfl, k⟩
theorem dx_26 {d : Nat} {v0 v1 : DV} {h : DH} {r : DRes} (k : Runs dT_26 (dEx d) (0, [some v0, some v1], [], h) r) : dEx (d + 1) 26 [v0, v1] h r := ⟨dM_26, dms_at_26, Nat.le_of_ble_eq_true rfl, k⟩
theorem dx_27 {d : Nat} {v0 v1 : DV} {h : DH} {r : DRes} (k : Runs dT_27 (dEx d) (0, [some v0, some v1], [], h) r) : dEx (d + 1) 27 [v0, v1] h r := ⟨dM_27, dms_at_27, Nat.le_of_ble_eq_true rfl, k⟩
theorem dx_28 {d : Nat} {v0 v1 : DV} {h : DH} {r : DRes} (k : Runs dT_28 (dEx d) (0, [some v0, some v1, none, none], [], h) r) : dEx (d + 1) 28 [v0, v1] h r := ⟨dM_28, dms_at_28, Nat.le_of_ble_eq_true rfl, k⟩
theorem dx_29 {d : Nat} {v0 : DV} {h : DH} {r : DRes} (k : Runs dT_29 (dEx d) (0, [some v0, none], [], h) r) : dEx (d + 1) 29 [v0] h r := ⟨dM_29, dms_at_29, Nat.le_of_ble_eq_true rfl, k⟩
theorem dx_30 {d : Nat} {v0 : DV} {h : DH} {r : DRes} (k : Runs dT_30 (dEx d) (0, [some v0, none], [], h) r) : dEx (d + 1) 30 [v0] h r := ⟨dM_30, dms_at_30, Nat.le_of_ble_eq_true rfl, k⟩
theorem dx_31 {d : Nat} {v0 : DV} {h : DH} {r : DRes} (k : Runs dT_31 (dEx d) (0, [some v0, none, none, none], [], h) r) : dEx (d + 1) 31 [v0] h r := ⟨dM_31, dms_at_31, Nat.le_of_ble_eq_true rfl, k⟩
theorem dx_32 {d : Nat} {v0 : DV} {h : DH} {r : DRes} (k : Runs dT_32 (dEx d) (0, [some v0], [], h) r) : dEx (d + 1) 32 [v0] h r := ⟨dM_32, dms_at_32, Nat.le_of_ble_eq_true rfl, k⟩
theorem dx_33 {d : Nat} {v0 v1 : DV} {h : DH} {r : DRes} (k : Runs dT_33 (dEx d) (0, [some v0, some v1, none], [], h) r) : dEx (d + 1) 33 [v0, v1] h r := ⟨dM_33, dms_at_33, Nat.le_of_ble_eq_true rfl, k⟩
theorem dx_34 {d : Nat} {v0 : DV} {h : DH} {r : DRes} (k : Runs dT_34 (dEx d) (0, [some v0], [], h) r) : dEx (d + 1) 34 [v0] h r := ⟨dM_34, dms_at_34, Nat.le_of_ble_eq_true rfl, k⟩
theorem dx_35 {d : Nat} {v0 : DV} {h : DH} {r : DRes} (k : Runs dT_35 (dEx d) (0, [some v0, none, none, none, none], [], h) r) : dEx (d + 1) 35 [v0] h r := ⟨dM_35, dms_at_35, Nat.le_of_ble_eq_true rfl, k⟩
theorem dx_36 {d : Nat} {v0 v1 : DV} {h : DH} {r : DRes} (k : Runs dT_36 (dEx d) (0, [some v0, some v1, none, none], [], h) r) : dEx (d + 1) 36 [v0, v1] h r := ⟨dM_36, dms_at_36, Nat.le_of_ble_eq_true rfl, k⟩
theorem dx_37 {d : Nat} {v0 v1 : DV} {h : DH} {r : DRes} (k : Runs dT_37 (dEx d) (0, [some v0, some v1, none, none, none, none, none], [], h) r) : dEx (d + 1) 37 [v0, v1] h r := ⟨dM_37, dms_at_37, Nat.le_of_ble_eq_true rfl, k⟩
theorem dx_38 {d : Nat} {v0 v1 : DV} {h : DH} {r : DRes} (k : Runs dT_38 (dEx d) (0, [some v0, some v1, none, none], [], h) r) : dEx (d + 1) 38 [v0, v1] h r := ⟨dM_38, dms_at_38, Nat.le_of_ble_eq_true rfl, k⟩
theorem dx_39 {d : Nat} {v0 v1 v2 : DV} {h : DH} {r : DRes} (k : Runs dT_39 (dEx d) (0, [some v0, some v1, some v2], [], h) r) : dEx (d + 1) 39 [v0, v1, v2] h r := ⟨dM_39, dms_at_39, Nat.le_of_ble_eq_true rfl, k⟩
theorem dx_40 {d : Nat} {v0 : DV} {h : DH} {r : DRes} (k : Runs dT_40 (dEx d) (0, [some v0], [], h) r) : dEx (d + 1) 40 [v0] h r := ⟨dM_40, dms_at_40, Nat.le_of_ble_eq_true rfl, k⟩
theorem dx_41 {d : Nat} {v0 v1 : DV} {h : DH} {r : DRes} (k : Runs dT_41 (dEx d) (0, [some v0, some v1], [], h) r) : dEx (d + 1) 41 [v0, v1] h r := ⟨dM_41, dms_at_41, Nat.le_of_ble_eq_true rfl, k⟩
theorem dx_42 {d : Nat} {v0 : DV} {h : DH} {r : DRes} (k : Runs dT_42 (dEx d) (0, [some v0, none], [], h) r) : dEx (d + 1) 42 [v0] h r := ⟨dM_42, dms_at_42, Nat.le_of_ble_eq_true rfl, k⟩
theorem dx_69 {d : Nat} {v0 : DV} {h : DH} {r : DRes} (k : Runs dT_69 (dEx d) (0, [some v0], [], h) r) : dEx (d + 1) 69 [v0] h r := ⟨dM_69, dms_at_69, Nat.le_of_ble_eq_true rfl, k⟩
theorem dx_70 {d : Nat} {v0 v1 : DV} {h : DH} {r : DRes} (k : Runs dT_70 (dEx d) (0, [some v0, some v1], [], h) r) : dEx (d + 1) 70 [v0, v1] h r := ⟨dM_70, dms_at_70, Nat.le_of_ble_eq_true rfl, k⟩
theorem dx_73 {d : Nat} {v0 v1 v2 : DV} {h : DH} {r : DRes} (k : Runs dT_73 (dEx d) (0, [some v0, some v1, some v2], [], h) r) : dEx (d + 1) 73 [v0, v1, v2] h r := ⟨dM_73, dms_at_73, Nat.le_of_ble_eq_true rfl, k⟩
theorem dx_74 {d : Nat} {v0 v1 v2 : DV} {h : DH} {r : DRes} (k : Runs dT_74 (dEx d) (0, [some v0, some v1, some v2, none], [], h) r) : dEx (d + 1) 74 [v0, v1, v2] h r := ⟨dM_74, dms_at_74, Nat.le_of_ble_eq_true rfl, k⟩
theorem dx_75 {d : Nat} {v0 v1 v2 : DV} {h : DH} {r : DRes} (k : Runs dT_75 (dEx d) (0, [some v0, some v1, some v2], [], h) r) : dEx (d + 1) 75 [v0, v1, v2] h r := ⟨dM_75, dms_at_75, Nat.le_of_ble_eq_true rfl, k⟩
theorem dx_76 {d : Nat} {v0 v1 v2 : DV} {h : DH} {r : DRes} (k : Runs dT_76 (dEx d) (0, [some v0, some v1, some v2, none, none], [], h) r) : dEx (d + 1) 76 [v0, v1, v2] h r := ⟨dM_76, dms_at_76, Nat.le_of_ble_eq_true rfl, k⟩
theorem dx_77 {d : Nat} {v0 v1 : DV} {h : DH} {r : DRes} (k : Runs dT_77 (dEx d) (0, [some v0, some v1, none, none], [], h) r) : dEx (d + 1) 77 [v0, v1] h r := ⟨dM_77, dms_at_77, Nat.le_of_ble_eq_true rfl, k⟩
theorem dx_78 {d : Nat} {v0 : DV} {h : DH} {r : DRes} (k : Runs dT_78 (dEx d) (0, [some v0], [], h) r) : dEx (d + 1) 78 [v0] h r := ⟨dM_78, dms_at_78, Nat.le_of_ble_eq_true rfl, k⟩
theorem dx_79 {d : Nat} {v0 : DV} {h : DH} {r : DRes} (k : Runs dT_79 (dEx d) (0, [some v0, none, none, none, none], [], h) r) : dEx (d + 1) 79 [v0] h r := ⟨dM_79, dms_at_79, Nat.le_of_ble_eq_true rfl, k⟩
theorem dx_80 {d : Nat} {v0 v1 : DV} {h : DH} {r : DRes} (k : Runs dT_80 (dEx d) (0, [some v0, some v1, none, none, none], [], h) r) : dEx (d + 1) 80 [v0, v1] h r := ⟨dM_80, dms_at_80, Nat.le_of_ble_eq_true rfl, k⟩
theorem dx_81 {d : Nat} {v0 v1 v2 : DV} {h : DH} {r : DRes} (k : Runs dT_81 (dEx d) (0, [some v0, some v1, some v2, none], [], h) r) : dEx (d + 1) 81 [v0, v1, v2] h r := ⟨dM_81, dms_at_81, Nat.le_of_ble_eq_true rfl, k⟩
theorem dx_82 {d : Nat} {v0 v1 v2 : DV} {h : DH} {r : DRes} (k : Runs dT_82 (dEx d) (0, [some v0, some v1, some v2, none], [], h) r) : dEx (d + 1) 82 [v0, v1, v2] h r := ⟨dM_82, dms_at_82, Nat.le_of_ble_eq_true rfl, k⟩
theorem dx_83 {d : Nat} {v0 v1 : DV} {h : DH} {r : DRes} (k : Runs dT_83 (dEx d) (0, [some v0, some v1], [], h) r) : dEx (d + 1) 83 [v0, v1] h r := ⟨dM_83, dms_at_83, Nat.le_of_ble_eq_true rfl, k⟩
theorem dx_84 {d : Nat} {v0 : DV} {h : DH} {r : DRes} (k : Runs dT_84 (dEx d) (0, [some v0, none, none, none, none], [], h) r) : dEx (d + 1) 84 [v0] h r := ⟨dM_84, dms_at_84, Nat.le_of_ble_eq_true rfl, k⟩
theorem dx_85 {d : Nat} {v0 v1 : DV} {h : DH} {r : DRes} (k : Runs dT_85 (dEx d) (0, [some v0, some v1], [], h) r) : dEx (d + 1) 85 [v0, v1] h r := ⟨dM_85, dms_at_85, Nat.le_of_ble_eq_true rfl, k⟩
theorem dx_86 {d : Nat} {v0 v1 : DV} {h : DH} {r : DRes} (k : Runs dT_86 (dEx d) (0, [some v0, some v1], [], h) r) : dEx (d + 1) 86 [v0, v1] h r := ⟨dM_86, dms_at_86, Nat.le_of_ble_eq_true rfl, k⟩
theorem dx_87 {d : Nat} {v0 v1 : DV} {h : DH} {r : DRes} (k : Runs dT_87 (dEx d) (0, [some v0, some v1], [], h) r) : dEx (d + 1) 87 [v0, v1] h r := ⟨dM_87, dms_at_87, Nat.le_of_ble_eq_true rfl, k⟩
theorem dx_88 {d : Nat} {v0 v1 : DV} {h : DH} {r : DRes} (k : Runs dT_88 (dEx d) (0, [some v0, some v1], [], h) r) : dEx (d + 1) 88 [v0, v1] h r := ⟨dM_88, dms_at_88, Nat.le_of_ble_eq_true rfl, k⟩
theorem dx_89 {d : Nat} {v0 v1 : DV} {h : DH} {r : DRes} (k : Runs dT_89 (dEx d) (0, [some v0, some v1, none, none], [], h) r) : dEx (d + 1) 89 [v0, v1] h r := ⟨dM_89, dms_at_89, Nat.le_of_ble_eq_true rfl, k⟩
theorem dx_90 {d : Nat} {v0 v1 : DV} {h : DH} {r : DRes} (k : Runs dT_90 (dEx d) (0, [some v0, some v1, none, none, none], [], h) r) : dEx (d + 1) 90 [v0, v1] h r := ⟨dM_90, dms_at_90, Nat.le_of_ble_eq_true rfl, k⟩
theorem dx_91 {d : Nat} {v0 v1 : DV} {h : DH} {r : DRes} (k : Runs dT_91 (dEx d) (0, [some v0, some v1, none], [], h) r) : dEx (d + 1) 91 [v0, v1] h r := ⟨dM_91, dms_at_91, Nat.le_of_ble_eq_true rfl, k⟩
theorem dx_92 {d : Nat} {v0 v1 : DV} {h : DH} {r : DRes} (k : Runs dT_92 (dEx d) (0, [some v0, some v1, none, none, none, none, none, none, none, none, none], [], h) r) : dEx (d + 1) 92 [v0, v1] h r := ⟨dM_92, dms_at_92, Nat.le_of_ble_eq_true rfl, k⟩
theorem dx_93 {d : Nat} {v0 v1 : DV} {h : DH} {r : DRes} (k : Runs dT_93 (dEx d) (0, [some v0, some v1, none, none, none, none, none, none, none, none, none], [], h) r) : dEx (d + 1) 93 [v0, v1] h r := ⟨dM_93, dms_at_93, Nat.le_of_ble_eq_true rfl, k⟩
end
section
/-! links: what the constant pools name, with the places of the words among lw_tbl -/
def don : Nat → String
  | 0 => "DiskDrawer$State"
  | 1 => "DiskDrawer$Disk"
  | 2 => "DiskDrawer$Read"
  | 3 => "DiskDrawer"
  | 4 => "DiskDrawer$Past"
  | 5 => "DiskDrawer$Program"
  | _ => "DiskDrawerLaw"
def dfl : List (Nat × Nat × Nat × Nat × Nat) := [(0, 9, 0, 0, 107), (0, 17, 0, 1, 109), (0, 23, 0, 2, 111), (0, 36, 0, 3, 113), (0, 43, 0, 4, 115), (0, 46, 0, 5, 116), (0, 49, 0, 6, 117), (0, 52, 0, 7, 118), (0, 55, 0, 8, 119), (0, 58, 0, 9, 120), (0, 61, 0, 10, 122), (0, 65, 0, 11, 124), (0, 68, 0, 12, 125), (0, 71, 0, 13, 126), (0, 74, 0, 14, 127), (0, 91, 1, 0, 50), (0, 94, 2, 0, 86), (0, 97, 2, 1, 88), (0, 100, 2, 2, 91), (0, 101, 2, 3, 93), (0, 104, 2, 4, 95), (0, 107, 1, 6, 63), (0, 115, 1, 5, 61), (0, 152, 1, 1, 53), (0, 164, 1, 3, 57), (0, 193, 1, 2, 55), (0, 196, 1, 4, 59), (1, 9, 1, 0, 49), (1, 15, 1, 1, 52), (1, 18, 1, 2, 54), (1, 21, 1, 3, 56), (1, 24, 1, 4, 58), (1, 27, 1, 5, 60), (1, 31, 1, 6, 62), (2, 7, 2, 0, 85), (2, 13, 2, 1, 87), (2, 16, 2, 2, 90), (2, 19, 2, 3, 92), (2, 22, 2, 4, 94), (3, 12, 3, 0, 203), (3, 16, 3, 1, 204), (3, 29, 3, 4, 207), (3, 36, 3, 5, 208), (3, 75, 5, 1, 183), (3, 110, 4, 1, 170), (3, 131, 0, 1, 110), (3, 135, 0, 2, 112), (3, 139, 2, 1, 89), (3, 144, 0, 10, 123), (3, 150, 1, 0, 51), (3, 172, 0, 9, 121), (3, 182, 0, 0, 108), (3, 185, 0, 3, 114), (4, 11, 4, 0, 168), (4, 18, 4, 1, 169)]
def dcl : List (Nat × Nat × Nat × Nat × Nat × Nat × Nat × Nat × Nat × Nat) := [(0, 32, 3, 1, 0, 289, 290, 291, 19, 292), (0, 40, 4, 1, 0, 293, 294, 295, 20, 296), (0, 77, 6, 3, 2, 240, 241, 0, 17, 242), (0, 87, 11, 1, 1, 301, 302, 0, 18, 303), (0, 108, 14, 1, 0, 266, 267, 268, 18, 269), (0, 112, 15, 0, 0, 320, 322, 4, 18, 323), (0, 118, 18, 1, 2, 247, 248, 0, 17, 249), (0, 122, 21, 0, 0, 340, 341, 342, 19, 343), (0, 125, 25, 0, 0, 250, 251, 252, 18, 253), (0, 130, 29, 0, 0, 377, 378, 379, 18, 380), (0, 133, 30, 0, 0, 381, 383, 5, 18, 384), (0, 136, 31, 0, 0, 386, 388, 6, 18, 389), (0, 139, 35, 0, 0, 402, 404, 8, 18, 405), (0, 142, 37, 1, 0, 410, 412, 10, 18, 413), (0, 146, 42, 0, 0, 426, 428, 13, 18, 429), (0, 149, 22, 0, 0, 385, 345, 346, 19, 347), (0, 155, 32, 0, 0, 390, 391, 392, 19, 393), (0, 158, 33, 1, 0, 394, 396, 7, 18, 397), (0, 161, 34, 0, 0, 398, 399, 400, 19, 401), (0, 167, 36, 1, 0, 406, 408, 9, 18, 409), (0, 170, 38, 1, 0, 243, 245, 0, 18, 246), (0, 173, 39, 2, 0, 414, 416, 11, 18, 417), (0, 177, 41, 1, 0, 422, 423, 424, 19, 425), (0, 180, 40, 0, 0, 418, 420, 12, 18, 421), (0, 189, 26, 1, 0, 254, 256, 1, 18, 257), (0, 197, 77, 1, 0, 270, 272, 2, 18, 273), (1, 34, 22, 0, 0, 344, 345, 346, 19, 347), (3, 40, 1, 1, 0, 281, 282, 283, 21, 284), (3, 44, 5, 2, 0, 360, 361, 362, 18, 363), (3, 48, 7, 1, 0, 304, 305, 306, 21, 307), (3, 52, 10, 2, 0, 297, 298, 299, 18, 300), (3, 55, 13, 1, 0, 316, 317, 318, 18, 319), (3, 58, 17, 1, 0, 328, 329, 330, 18, 331), (3, 61, 20, 1, 0, 336, 337, 338, 18, 339), (3, 64, 24, 0, 0, 352, 353, 354, 18, 355), (3, 68, 28, 1, 0, 372, 373, 374, 18, 375), (3, 106, 70, 1, 0, 473, 474, 475, 21, 476), (3, 113, 2, 1, 0, 466, 286, 287, 18, 288), (3, 119, 74, 2, 0, 440, 441, 442, 18, 443), (3, 122, 76, 2, 0, 262, 263, 264, 18, 265), (3, 125, 79, 0, 0, 451, 452, 453, 18, 454), (3, 128, 14, 1, 0, 465, 267, 268, 18, 269), (3, 147, 29, 0, 0, 467, 378, 379, 18, 380), (3, 161, 6, 3, 1, 486, 241, 0, 17, 242), (3, 165, 82, 2, 0, 487, 489, 14, 17, 490), (3, 168, 83, 1, 0, 491, 493, 15, 17, 494), (3, 175, 18, 1, 1, 495, 248, 0, 17, 249), (3, 179, 86, 1, 0, 236, 237, 238, 18, 239), (4, 22, 2, 1, 0, 285, 286, 287, 18, 288), (4, 26, 8, 0, 0, 308, 310, 3, 21, 311), (11, 8, 85, 1, 0, 232, 233, 234, 17, 235), (11, 14, 88, 2, 1, 225, 226, 0, 16, 227), (11, 20, 75, 2, 0, 258, 259, 260, 17, 261), (11, 23, 9, 2, 0, 277, 278, 279, 17, 280), (11, 26, 89, 2, 1, 229, 230, 0, 16, 231), (11, 30, 12, 1, 0, 312, 313, 314, 17, 315), (11, 33, 16, 1, 0, 324, 325, 326, 17, 327), (11, 36, 19, 1, 0, 332, 333, 334, 17, 335), (11, 39, 23, 0, 0, 348, 349, 350, 17, 351), (11, 43, 0, 2, 0, 356, 357, 358, 17, 359), (11, 46, 27, 1, 0, 368, 369, 370, 17, 371), (11, 49, 73, 2, 0, 436, 437, 438, 17, 439), (11, 52, 91, 2, 1, 444, 445, 0, 16, 446), (11, 55, 78, 0, 0, 447, 448, 449, 17, 450), (11, 58, 80, 1, 0, 461, 462, 463, 17, 464), (11, 62, 69, 0, 0, 469, 470, 471, 17, 472), (11, 65, 81, 2, 0, 480, 481, 482, 17, 483), (11, 68, 84, 0, 0, 496, 497, 498, 17, 499), (11, 72, 87, 2, 1, 222, 223, 0, 16, 224), (11, 76, 90, 2, 1, 274, 275, 0, 16, 276), (11, 86, 92, 2, 1, 458, 459, 0, 16, 460), (11, 90, 93, 2, 1, 477, 478, 0, 16, 479)]
def dTX0 : u_T := fun k => match k with
  | 0 => ("DiskDrawer$State", "numbers", "[I", true)
  | 1 => ("DiskDrawer$State", "disks", "[LDiskDrawer$Disk;", true)
  | 2 => ("DiskDrawer$State", "reads", "[LDiskDrawer$Read;", true)
  | 3 => ("DiskDrawer$State", "readCount", "I", false)
  | 4 => ("DiskDrawer$State", "readsSoFar", "I", false)
  | 5 => ("DiskDrawer$State", "answered", "I", false)
  | 6 => ("DiskDrawer$State", "lost", "I", false)
  | 7 => ("DiskDrawer$State", "waited", "I", false)
  | 8 => ("DiskDrawer$State", "ticks", "I", false)
  | 9 => ("DiskDrawer$State", "peak", "I", false)
  | 10 => ("DiskDrawer$State", "blown", "Z", false)
  | 11 => ("DiskDrawer$State", "hot", "I", false)
  | 12 => ("DiskDrawer$State", "fusesBlown", "I", false)
  | 13 => ("DiskDrawer$State", "starts", "I", false)
  | _ => ("DiskDrawer$State", "failedStarts", "I", false)
def dTY0 : Nat → FieldType := fun k => match k with
  | 0 => .array .int
  | 1 => .array (.object "DiskDrawer$Disk")
  | 2 => .array (.object "DiskDrawer$Read")
  | 3 => .int
  | 4 => .int
  | 5 => .int
  | 6 => .int
  | 7 => .int
  | 8 => .int
  | 9 => .int
  | 10 => .boolean
  | 11 => .int
  | 12 => .int
  | 13 => .int
  | _ => .int
def dTX1 : u_T := fun k => match k with
  | 0 => ("DiskDrawer$Disk", "doing", "I", false)
  | 1 => ("DiskDrawer$Disk", "startLeft", "I", false)
  | 2 => ("DiskDrawer$Disk", "failures", "I", false)
  | 3 => ("DiskDrawer$Disk", "idle", "I", false)
  | 4 => ("DiskDrawer$Disk", "starts", "I", false)
  | 5 => ("DiskDrawer$Disk", "faultPlanned", "Z", false)
  | _ => ("DiskDrawer$Disk", "readCount", "I", false)
def dTY1 : Nat → FieldType := fun k => match k with
  | 0 => .int
  | 1 => .int
  | 2 => .int
  | 3 => .int
  | 4 => .int
  | 5 => .boolean
  | _ => .int
def dTX2 : u_T := fun k => match k with
  | 0 => ("DiskDrawer$Read", "number", "I", false)
  | 1 => ("DiskDrawer$Read", "disk", "I", false)
  | 2 => ("DiskDrawer$Read", "ticks", "I", false)
  | 3 => ("DiskDrawer$Read", "left", "I", false)
  | _ => ("DiskDrawer$Read", "askedAt", "I", false)
def dTY2 : Nat → FieldType := fun k => match k with
  | 0 => .int
  | 1 => .int
  | 2 => .int
  | 3 => .int
  | _ => .int
def dTX3 : u_T := fun k => match k with
  | 0 => ("DiskDrawer", "now", "LDiskDrawer$State;", true)
  | 1 => ("DiskDrawer", "trial", "LDiskDrawer$State;", true)
  | 2 => ("DiskDrawer", "snapshot", "LDiskDrawer$State;", true)
  | 3 => ("DiskDrawer", "hasSnapshot", "Z", false)
  | 4 => ("DiskDrawer", "past", "LDiskDrawer$Past;", true)
  | _ => ("DiskDrawer", "program", "LDiskDrawer$Program;", true)
def dTY3 : Nat → FieldType := fun k => match k with
  | 0 => .object "DiskDrawer$State"
  | 1 => .object "DiskDrawer$State"
  | 2 => .object "DiskDrawer$State"
  | 3 => .boolean
  | 4 => .object "DiskDrawer$Past"
  | _ => .object "DiskDrawer$Program"
def dTX4 : u_T := fun k => match k with
  | 0 => ("DiskDrawer$Past", "rows", "[LDiskDrawer$State;", true)
  | _ => ("DiskDrawer$Past", "size", "I", false)
def dTY4 : Nat → FieldType := fun k => match k with
  | 0 => .array (.object "DiskDrawer$State")
  | _ => .int
def dTX5 : u_T := fun k => match k with
  | 0 => ("DiskDrawer$Program", "text", "[C", true)
  | 1 => ("DiskDrawer$Program", "length", "I", false)
  | 2 => ("DiskDrawer$Program", "kinds", "[I", true)
  | 3 => ("DiskDrawer$Program", "firsts", "[I", true)
  | 4 => ("DiskDrawer$Program", "seconds", "[I", true)
  | 5 => ("DiskDrawer$Program", "commands", "I", false)
  | _ => ("DiskDrawer$Program", "at", "I", false)
def dTY5 : Nat → FieldType := fun k => match k with
  | 0 => .array .char
  | 1 => .int
  | 2 => .array .int
  | 3 => .array .int
  | 4 => .array .int
  | 5 => .int
  | _ => .int
def dclasses : List vw_C := [("DiskDrawer$State", dTX0, 15), ("DiskDrawer$Disk", dTX1, 7), ("DiskDrawer$Read", dTX2, 5), ("DiskDrawer", dTX3, 6), ("DiskDrawer$Past", dTX4, 2), ("DiskDrawer$Program", dTX5, 7)]
def dnf : Nat → Nat
  | 0 => 15
  | 1 => 7
  | 2 => 5
  | 3 => 6
  | 4 => 2
  | 5 => 7
  | _ => 0
def dTX : Nat → u_T
  | 0 => dTX0
  | 1 => dTX1
  | 2 => dTX2
  | 3 => dTX3
  | 4 => dTX4
  | _ => dTX5
def dTY : Nat → Nat → FieldType
  | 0 => dTY0
  | 1 => dTY1
  | 2 => dTY2
  | 3 => dTY3
  | 4 => dTY4
  | _ => dTY5
def dfld (o x : Nat) : Option (Nat × Nat) := (dfl.find? (fun e => Nat.beq e.1 o && Nat.beq e.2.1 x)).map (fun e => (e.2.2.1, e.2.2.2.1))
def dfz (ci k : Nat) : Bool := (Nat.beq ci 0 && Nat.beq k 10) || (Nat.beq ci 1 && Nat.beq k 5) || (Nat.beq ci 3 && Nat.beq k 3)
def dcal (o x : Nat) : Option (Nat × Nat × Nat) := (dcl.find? (fun e => Nat.beq e.1 o && Nat.beq e.2.1 x)).map (fun e => (e.2.2.1, e.2.2.2.1, e.2.2.2.2.1))
def dgst (o x nx : Nat) : Option DOp := match o, x with
  | 3, 155 => some (8, 32, 1, nx, 0, [])
  | 3, 158 => some (8, 32, 2, nx, 0, [])
  | 0, 81 => some (8, 32, 1, nx, 0, [])
  | 0, 84 => some (8, 32, 2, nx, 0, [])
  | _, _ => none
def dldc (o x nx : Nat) : Option DOp := match o, x with
  | 0, 129 => some (0, 0, 0, nx, 99999, [])
  | 11, 7 => some (0, 0, 0, nx, 2147483647, [])
  | 11, 61 => some (0, 0, 0, nx, 99000, [])
  | _, _ => none
def dcnd : Jvm.ClassFile.Cond → Nat
  | .eq => 0 | .ne => 1 | .lt => 2 | .ge => 3 | .gt => 4 | .le => 5
def dtgt (pc : Nat) (off : Int) : Option Nat := if 0 ≤ (pc : Int) + off then some ((pc : Int) + off).toNat else none
def dtgts (pc : Nat) : List Int → Option (List Nat)
  | [] => some []
  | o :: os => match dtgt pc o, dtgts pc os with
    | some t, some ts => some (t :: ts)
    | _, _ => none
/-- an instruction of a method of class o as one of the abstract machine -/
def denc (o : Nat) (rt : Option FieldType) (pc : Nat) (i : Instr) (len : Nat) : Option DOp := match i, len with
  | .iconst n, 1 => some (0, 0, 0, pc + 1, Int32.ofInt n, [])
  | .bipush n, 2 => some (0, 0, 0, pc + 2, (Int8.ofInt n).toInt32, [])
  | .sipush n, 3 => some (0, 0, 0, pc + 3, (Int16.ofInt n).toInt32, [])
  | .ldc x, 2 => dldc o x (pc + 2)
  | .iload_n k, 1 => some (1, k.val, 0, pc + 1, 0, [])
  | .iload k, 2 => some (1, k, 0, pc + 2, 0, [])
  | .aload_n k, 1 => some (2, k.val, 0, pc + 1, 0, [])
  | .aload k, 2 => some (2, k, 0, pc + 2, 0, [])
  | .istore_n k, 1 => some (3, k.val, 0, pc + 1, 0, [])
  | .istore k, 2 => some (3, k, 0, pc + 2, 0, [])
  | .astore_n k, 1 => some (4, k.val, 0, pc + 1, 0, [])
  | .astore k, 2 => some (4, k, 0, pc + 2, 0, [])
  | .getfield x, 3 => match dfld o x with
    | some (ci, k) => some (5, ci, k, pc + 3, 0, [])
    | none => none
  | .putfield x, 3 => match dfld o x with
    | some (ci, k) => bif dfz ci k then some (7, ci, k, pc + 3, 0, []) else some (6, ci, k, pc + 3, 0, [])
    | none => none
  | .getstatic x, 3 => dgst o x (pc + 3)
  | .iaload, 1 => some (10, 0, 0, pc + 1, 0, [])
  | .iastore, 1 => some (11, 0, 0, pc + 1, 0, [])
  | .aaload, 1 => some (12, 0, 0, pc + 1, 0, [])
  | .aastore, 1 => some (13, 0, 0, pc + 1, 0, [])
  | .arraylength, 1 => some (18, 0, 0, pc + 1, 0, [])
  | .iadd, 1 => some (19, 0, 0, pc + 1, 0, [])
  | .isub, 1 => some (20, 0, 0, pc + 1, 0, [])
  | .imul, 1 => some (21, 0, 0, pc + 1, 0, [])
  | .iand, 1 => some (22, 0, 0, pc + 1, 0, [])
  | .ior, 1 => some (23, 0, 0, pc + 1, 0, [])
  | .ishl, 1 => some (24, 0, 0, pc + 1, 0, [])
  | .ishr, 1 => some (41, 0, 0, pc + 1, 0, [])
  | .irem, 1 => some (46, 0, 0, pc + 1, 0, [])
  | .iinc k n, 3 => some (25, k, 0, pc + 3, Int32.ofInt n, [])
  | .ifCond c off, 3 => match dtgt pc off with
    | some t => some (26, t, dcnd c, pc + 3, 0, [])
    | none => none
  | .if_icmp c off, 3 => match dtgt pc off with
    | some t => some (27, t, dcnd c, pc + 3, 0, [])
    | none => none
  | .goto off, 3 => match dtgt pc off with
    | some t => some (28, t, 0, pc + 3, 0, [])
    | none => none
  | .tableswitch d lo hi offs, n => match dtgt pc d, dtgts pc offs.toList with
    | some t, some ts => bif decide (0 ≤ lo) && decide (hi < 1000) && decide ((ts.length : Int) = hi - lo + 1) && decide (offs.size = ts.length) then some (29, t, 0, pc + n, Int32.ofInt lo, ts) else none
    | _, _ => none
  | .dup, 1 => some (30, 0, 0, pc + 1, 0, [])
  | .dup2, 1 => some (31, 0, 0, pc + 1, 0, [])
  | .invokevirtual x, 3 => match dcal o x with
    | some (mid, n, 0) => match dms[mid]? with
      | some q => some (34, mid, n, pc + 3, 0, [q.2.2.2.2.1])
      | none => none
    | _ => none
  | .invokestatic x, 3 => bif Nat.beq o 0 && Nat.beq x 183 then some (45, 0, 0, pc + 3, 0, []) else match dcal o x with
    | some (_, _, 0) => none
    | some (mid, n, _) => some (35, mid, n, pc + 3, 0, [])
    | none => none
  | .ireturn, 1 => match rt with
    | some .int => some (36, 0, 0, pc + 1, 0, [])
    | some .boolean => some (42, 0, 0, pc + 1, 0, [])
    | _ => none
  | .return_, 1 => some (37, 0, 0, pc + 1, 0, [])
  | _, _ => none
def deq (a b : DOp) : Bool := decide (a.1 = b.1) && decide (a.2.1 = b.2.1) && decide (a.2.2.1 = b.2.2.1) && decide (a.2.2.2.1 = b.2.2.2.1) && decide (a.2.2.2.2.1 = b.2.2.2.2.1) && decide (a.2.2.2.2.2 = b.2.2.2.2.2)
theorem deq_eq {a b : DOp} (h : deq a b = true) : a = b := by
  obtain ⟨a1, a2, a3, a4, a5, a6⟩ := a
  obtain ⟨b1, b2, b3, b4, b5, b6⟩ := b
  simp only [deq, Bool.and_eq_true, decide_eq_true_eq] at h
  obtain ⟨⟨⟨⟨⟨h1, h2⟩, h3⟩, h4⟩, h5⟩, h6⟩ := h
  rw [h1, h2, h3, h4, h5, h6]
def dchk (o : Nat) (rt : Option FieldType) (c : ByteArray) (T : DTbl) : Bool := (List.range T.length).all fun pc => match T.getD pc none with
  | none => true
  | some q => match decode c pc with
    | .ok (i, len) => match denc o rt pc i len with
      | some q' => deq q' q
      | none => false
    | .error _ => false
def dchk2 (T : DTbl) (n : Nat) : Bool := T.all fun o => match o with
  | some (3, a, _) => decide (a < n)
  | some (4, a, _) => decide (a < n)
  | some (25, a, _) => decide (a < n)
  | _ => true
def dGood (q : DM) : Prop := plainName q.1.cls = true ∧ (q.2.2.1 ≤ 21 ∧ dchk2 q.2.2.2.2.2 q.2.2.1 = true) ∧ q.1.cls = don q.2.2.2.2.1 ∧ dchk q.2.2.2.2.1 q.2.2.2.1 q.2.1 q.2.2.2.2.2 = true
def dWd : List Cond := lw_tbl.filter goodWord
theorem dWd_of {i : Nat} {w : Cond} (h : lw_tbl[i]? = some w) (g : goodWord w = true) : w ∈ dWd := List.mem_filter.mpr ⟨List.mem_of_getElem? h, g⟩
theorem dWd_good : GoodIn lw_tbl dWd := fun w h => ⟨(List.mem_filter.mp h).1, good_of_word (List.mem_filter.mp h).2⟩
theorem dWd_cons (c : Cond) : GoodIn (c :: dWd) dWd := fun w h => ⟨List.mem_cons_of_mem _ h, good_of_word (List.mem_filter.mp h).2⟩
def dflOK (e : Nat × Nat × Nat × Nat × Nat) : Bool := decide (lw_tbl[e.2.2.2.2]? = some (.fieldLink (don e.1) e.2.1 (dTX e.2.2.1 e.2.2.2.1).1 (dTX e.2.2.1 e.2.2.2.1).2.1 (dTX e.2.2.1 e.2.2.2.1).2.2.1)) && decide (e.2.2.2.1 < dnf e.2.2.1) && decide (e.2.2.1 < 6)
def dclOK (e : Nat × Nat × Nat × Nat × Nat × Nat × Nat × Nat × Nat × Nat) : Bool := match dms[e.2.2.1]? with
  | none => false
  | some q => match e with
    | (o, x, _, n, kd, p0, p1, p2, p3, p4) =>
      decide (q.1.cls ≠ "java/lang/invoke/MethodHandle" ∧ q.1.cls ≠ "java/lang/invoke/VarHandle" ∧ (parseMethodDescriptor q.1.desc).map (fun d => d.parameters.length) = some n) && decide (lw_tbl[p3]? = some (.initialized q.1.cls)) && decide (lw_tbl[p4]? = some (.code q.1 q.2.1 q.2.2.1 q.2.2.2.1)) &&
      (match kd with
      | 0 => decide (lw_tbl[p0]? = some (.methodLink (don o) x q.1)) && decide (lw_tbl[p1]? = some (.instanceMethod q.1)) && decide (lw_tbl[p2]? = some (.selects q.1.cls q.1 q.1))
      | 1 => decide (lw_tbl[p0]? = some (.methodLink (don o) x q.1)) && decide (lw_tbl[p1]? = some (.static q.1))
      | _ => decide (lw_tbl[p0]? = some (.methodLinkNest (don o) x q.1 "DiskDrawer")) && decide (lw_tbl[p1]? = some (.static q.1)))
set_option maxRecDepth 100000 in
theorem dfl_ok : dfl.all dflOK = true := by decide +kernel
end
section
set_option maxRecDepth 100000 in
theorem dce_0 : dclOK (0, 32, 3, 1, 0, 289, 290, 291, 19, 292) = true := by decide +kernel
set_option maxRecDepth 100000 in
theorem dce_1 : dclOK (0, 40, 4, 1, 0, 293, 294, 295, 20, 296) = true := by decide +kernel
set_option maxRecDepth 100000 in
theorem dce_2 : dclOK (0, 77, 6, 3, 2, 240, 241, 0, 17, 242) = true := by decide +kernel
set_option maxRecDepth 100000 in
theorem dce_3 : dclOK (0, 87, 11, 1, 1, 301, 302, 0, 18, 303) = true := by decide +kernel
set_option maxRecDepth 100000 in
theorem dce_4 : dclOK (0, 108, 14, 1, 0, 266, 267, 268, 18, 269) = true := by decide +kernel
set_option maxRecDepth 100000 in
theorem dce_5 : dclOK (0, 112, 15, 0, 0, 320, 322, 4, 18, 323) = true := by decide +kernel
set_option maxRecDepth 100000 in
theorem dce_6 : dclOK (0, 118, 18, 1, 2, 247, 248, 0, 17, 249) = true := by decide +kernel
set_option maxRecDepth 100000 in
theorem dce_7 : dclOK (0, 122, 21, 0, 0, 340, 341, 342, 19, 343) = true := by decide +kernel
set_option maxRecDepth 100000 in
theorem dce_8 : dclOK (0, 125, 25, 0, 0, 250, 251, 252, 18, 253) = true := by decide +kernel
set_option maxRecDepth 100000 in
theorem dce_9 : dclOK (0, 130, 29, 0, 0, 377, 378, 379, 18, 380) = true := by decide +kernel
set_option maxRecDepth 100000 in
theorem dce_10 : dclOK (0, 133, 30, 0, 0, 381, 383, 5, 18, 384) = true := by decide +kernel
set_option maxRecDepth 100000 in
theorem dce_11 : dclOK (0, 136, 31, 0, 0, 386, 388, 6, 18, 389) = true := by decide +kernel
set_option maxRecDepth 100000 in
theorem dce_12 : dclOK (0, 139, 35, 0, 0, 402, 404, 8, 18, 405) = true := by decide +kernel
set_option maxRecDepth 100000 in
theorem dce_13 : dclOK (0, 142, 37, 1, 0, 410, 412, 10, 18, 413) = true := by decide +kernel
set_option maxRecDepth 100000 in
theorem dce_14 : dclOK (0, 146, 42, 0, 0, 426, 428, 13, 18, 429) = true := by decide +kernel
set_option maxRecDepth 100000 in
theorem dce_15 : dclOK (0, 149, 22, 0, 0, 385, 345, 346, 19, 347) = true := by decide +kernel
set_option maxRecDepth 100000 in
theorem dce_16 : dclOK (0, 155, 32, 0, 0, 390, 391, 392, 19, 393) = true := by decide +kernel
set_option maxRecDepth 100000 in
theorem dce_17 : dclOK (0, 158, 33, 1, 0, 394, 396, 7, 18, 397) = true := by decide +kernel
set_option maxRecDepth 100000 in
theorem dce_18 : dclOK (0, 161, 34, 0, 0, 398, 399, 400, 19, 401) = true := by decide +kernel
set_option maxRecDepth 100000 in
theorem dce_19 : dclOK (0, 167, 36, 1, 0, 406, 408, 9, 18, 409) = true := by decide +kernel
set_option maxRecDepth 100000 in
theorem dce_20 : dclOK (0, 170, 38, 1, 0, 243, 245, 0, 18, 246) = true := by decide +kernel
set_option maxRecDepth 100000 in
theorem dce_21 : dclOK (0, 173, 39, 2, 0, 414, 416, 11, 18, 417) = true := by decide +kernel
set_option maxRecDepth 100000 in
theorem dce_22 : dclOK (0, 177, 41, 1, 0, 422, 423, 424, 19, 425) = true := by decide +kernel
set_option maxRecDepth 100000 in
theorem dce_23 : dclOK (0, 180, 40, 0, 0, 418, 420, 12, 18, 421) = true := by decide +kernel
set_option maxRecDepth 100000 in
theorem dce_24 : dclOK (0, 189, 26, 1, 0, 254, 256, 1, 18, 257) = true := by decide +kernel
set_option maxRecDepth 100000 in
theorem dce_25 : dclOK (0, 197, 77, 1, 0, 270, 272, 2, 18, 273) = true := by decide +kernel
set_option maxRecDepth 100000 in
theorem dce_26 : dclOK (1, 34, 22, 0, 0, 344, 345, 346, 19, 347) = true := by decide +kernel
set_option maxRecDepth 100000 in
theorem dce_27 : dclOK (3, 40, 1, 1, 0, 281, 282, 283, 21, 284) = true := by decide +kernel
set_option maxRecDepth 100000 in
theorem dce_28 : dclOK (3, 44, 5, 2, 0, 360, 361, 362, 18, 363) = true := by decide +kernel
set_option maxRecDepth 100000 in
theorem dce_29 : dclOK (3, 48, 7, 1, 0, 304, 305, 306, 21, 307) = true := by decide +kernel
set_option maxRecDepth 100000 in
theorem dce_30 : dclOK (3, 52, 10, 2, 0, 297, 298, 299, 18, 300) = true := by decide +kernel
set_option maxRecDepth 100000 in
theorem dce_31 : dclOK (3, 55, 13, 1, 0, 316, 317, 318, 18, 319) = true := by decide +kernel
set_option maxRecDepth 100000 in
theorem dce_32 : dclOK (3, 58, 17, 1, 0, 328, 329, 330, 18, 331) = true := by decide +kernel
set_option maxRecDepth 100000 in
theorem dce_33 : dclOK (3, 61, 20, 1, 0, 336, 337, 338, 18, 339) = true := by decide +kernel
set_option maxRecDepth 100000 in
theorem dce_34 : dclOK (3, 64, 24, 0, 0, 352, 353, 354, 18, 355) = true := by decide +kernel
set_option maxRecDepth 100000 in
theorem dce_35 : dclOK (3, 68, 28, 1, 0, 372, 373, 374, 18, 375) = true := by decide +kernel
set_option maxRecDepth 100000 in
theorem dce_36 : dclOK (3, 106, 70, 1, 0, 473, 474, 475, 21, 476) = true := by decide +kernel
set_option maxRecDepth 100000 in
theorem dce_37 : dclOK (3, 113, 2, 1, 0, 466, 286, 287, 18, 288) = true := by decide +kernel
set_option maxRecDepth 100000 in
theorem dce_38 : dclOK (3, 119, 74, 2, 0, 440, 441, 442, 18, 443) = true := by decide +kernel
set_option maxRecDepth 100000 in
theorem dce_39 : dclOK (3, 122, 76, 2, 0, 262, 263, 264, 18, 265) = true := by decide +kernel
set_option maxRecDepth 100000 in
theorem dce_40 : dclOK (3, 125, 79, 0, 0, 451, 452, 453, 18, 454) = true := by decide +kernel
set_option maxRecDepth 100000 in
theorem dce_41 : dclOK (3, 128, 14, 1, 0, 465, 267, 268, 18, 269) = true := by decide +kernel
set_option maxRecDepth 100000 in
theorem dce_42 : dclOK (3, 147, 29, 0, 0, 467, 378, 379, 18, 380) = true := by decide +kernel
set_option maxRecDepth 100000 in
theorem dce_43 : dclOK (3, 161, 6, 3, 1, 486, 241, 0, 17, 242) = true := by decide +kernel
set_option maxRecDepth 100000 in
theorem dce_44 : dclOK (3, 165, 82, 2, 0, 487, 489, 14, 17, 490) = true := by decide +kernel
set_option maxRecDepth 100000 in
theorem dce_45 : dclOK (3, 168, 83, 1, 0, 491, 493, 15, 17, 494) = true := by decide +kernel
set_option maxRecDepth 100000 in
theorem dce_46 : dclOK (3, 175, 18, 1, 1, 495, 248, 0, 17, 249) = true := by decide +kernel
set_option maxRecDepth 100000 in
theorem dce_47 : dclOK (3, 179, 86, 1, 0, 236, 237, 238, 18, 239) = true := by decide +kernel
set_option maxRecDepth 100000 in
theorem dce_48 : dclOK (4, 22, 2, 1, 0, 285, 286, 287, 18, 288) = true := by decide +kernel
set_option maxRecDepth 100000 in
theorem dce_49 : dclOK (4, 26, 8, 0, 0, 308, 310, 3, 21, 311) = true := by decide +kernel
set_option maxRecDepth 100000 in
theorem dce_50 : dclOK (11, 8, 85, 1, 0, 232, 233, 234, 17, 235) = true := by decide +kernel
set_option maxRecDepth 100000 in
theorem dce_51 : dclOK (11, 14, 88, 2, 1, 225, 226, 0, 16, 227) = true := by decide +kernel
set_option maxRecDepth 100000 in
theorem dce_52 : dclOK (11, 20, 75, 2, 0, 258, 259, 260, 17, 261) = true := by decide +kernel
set_option maxRecDepth 100000 in
theorem dce_53 : dclOK (11, 23, 9, 2, 0, 277, 278, 279, 17, 280) = true := by decide +kernel
set_option maxRecDepth 100000 in
theorem dce_54 : dclOK (11, 26, 89, 2, 1, 229, 230, 0, 16, 231) = true := by decide +kernel
set_option maxRecDepth 100000 in
theorem dce_55 : dclOK (11, 30, 12, 1, 0, 312, 313, 314, 17, 315) = true := by decide +kernel
set_option maxRecDepth 100000 in
theorem dce_56 : dclOK (11, 33, 16, 1, 0, 324, 325, 326, 17, 327) = true := by decide +kernel
set_option maxRecDepth 100000 in
theorem dce_57 : dclOK (11, 36, 19, 1, 0, 332, 333, 334, 17, 335) = true := by decide +kernel
set_option maxRecDepth 100000 in
theorem dce_58 : dclOK (11, 39, 23, 0, 0, 348, 349, 350, 17, 351) = true := by decide +kernel
set_option maxRecDepth 100000 in
theorem dce_59 : dclOK (11, 43, 0, 2, 0, 356, 357, 358, 17, 359) = true := by decide +kernel
set_option maxRecDepth 100000 in
theorem dce_60 : dclOK (11, 46, 27, 1, 0, 368, 369, 370, 17, 371) = true := by decide +kernel
set_option maxRecDepth 100000 in
theorem dce_61 : dclOK (11, 49, 73, 2, 0, 436, 437, 438, 17, 439) = true := by decide +kernel
set_option maxRecDepth 100000 in
theorem dce_62 : dclOK (11, 52, 91, 2, 1, 444, 445, 0, 16, 446) = true := by decide +kernel
set_option maxRecDepth 100000 in
theorem dce_63 : dclOK (11, 55, 78, 0, 0, 447, 448, 449, 17, 450) = true := by decide +kernel
set_option maxRecDepth 100000 in
theorem dce_64 : dclOK (11, 58, 80, 1, 0, 461, 462, 463, 17, 464) = true := by decide +kernel
set_option maxRecDepth 100000 in
theorem dce_65 : dclOK (11, 62, 69, 0, 0, 469, 470, 471, 17, 472) = true := by decide +kernel
set_option maxRecDepth 100000 in
theorem dce_66 : dclOK (11, 65, 81, 2, 0, 480, 481, 482, 17, 483) = true := by decide +kernel
set_option maxRecDepth 100000 in
theorem dce_67 : dclOK (11, 68, 84, 0, 0, 496, 497, 498, 17, 499) = true := by decide +kernel
set_option maxRecDepth 100000 in
theorem dce_68 : dclOK (11, 72, 87, 2, 1, 222, 223, 0, 16, 224) = true := by decide +kernel
set_option maxRecDepth 100000 in
theorem dce_69 : dclOK (11, 76, 90, 2, 1, 274, 275, 0, 16, 276) = true := by decide +kernel
set_option maxRecDepth 100000 in
theorem dce_70 : dclOK (11, 86, 92, 2, 1, 458, 459, 0, 16, 460) = true := by decide +kernel
set_option maxRecDepth 100000 in
theorem dce_71 : dclOK (11, 90, 93, 2, 1, 477, 478, 0, 16, 479) = true := by decide +kernel
set_option maxRecDepth 100000 in
theorem dcl_ok : ∀ e ∈ dcl, dclOK e = true := List.forall_mem_cons.mpr ⟨dce_0, List.forall_mem_cons.mpr ⟨dce_1, List.forall_mem_cons.mpr ⟨dce_2, List.forall_mem_cons.mpr ⟨dce_3, List.forall_mem_cons.mpr ⟨dce_4, List.forall_mem_cons.mpr ⟨dce_5, List.forall_mem_cons.mpr ⟨dce_6, List.forall_mem_cons.mpr ⟨dce_7, List.forall_mem_cons.mpr ⟨dce_8, List.forall_mem_cons.mpr ⟨dce_9, List.forall_mem_cons.mpr ⟨dce_10, List.forall_mem_cons.mpr ⟨dce_11, List.forall_mem_cons.mpr ⟨dce_12, List.forall_mem_cons.mpr ⟨dce_13, List.forall_mem_cons.mpr ⟨dce_14, List.forall_mem_cons.mpr ⟨dce_15, List.forall_mem_cons.mpr ⟨dce_16, List.forall_mem_cons.mpr ⟨dce_17, List.forall_mem_cons.mpr ⟨dce_18, List.forall_mem_cons.mpr ⟨dce_19, List.forall_mem_cons.mpr ⟨dce_20, List.forall_mem_cons.mpr ⟨dce_21, List.forall_mem_cons.mpr ⟨dce_22, List.forall_mem_cons.mpr ⟨dce_23, List.forall_mem_cons.mpr ⟨dce_24, List.forall_mem_cons.mpr ⟨dce_25, List.forall_mem_cons.mpr ⟨dce_26, List.forall_mem_cons.mpr ⟨dce_27, List.forall_mem_cons.mpr ⟨dce_28, List.forall_mem_cons.mpr ⟨dce_29, List.forall_mem_cons.mpr ⟨dce_30, List.forall_mem_cons.mpr ⟨dce_31, List.forall_mem_cons.mpr ⟨dce_32, List.forall_mem_cons.mpr ⟨dce_33, List.forall_mem_cons.mpr ⟨dce_34, List.forall_mem_cons.mpr ⟨dce_35, List.forall_mem_cons.mpr ⟨dce_36, List.forall_mem_cons.mpr ⟨dce_37, List.forall_mem_cons.mpr ⟨dce_38, List.forall_mem_cons.mpr ⟨dce_39, List.forall_mem_cons.mpr ⟨dce_40, List.forall_mem_cons.mpr ⟨dce_41, List.forall_mem_cons.mpr ⟨dce_42, List.forall_mem_cons.mpr ⟨dce_43, List.forall_mem_cons.mpr ⟨dce_44, List.forall_mem_cons.mpr ⟨dce_45, List.forall_mem_cons.mpr ⟨dce_46, List.forall_mem_cons.mpr ⟨dce_47, List.forall_mem_cons.mpr ⟨dce_48, List.forall_mem_cons.mpr ⟨dce_49, List.forall_mem_cons.mpr ⟨dce_50, List.forall_mem_cons.mpr ⟨dce_51, List.forall_mem_cons.mpr ⟨dce_52, List.forall_mem_cons.mpr ⟨dce_53, List.forall_mem_cons.mpr ⟨dce_54, List.forall_mem_cons.mpr ⟨dce_55, List.forall_mem_cons.mpr ⟨dce_56, List.forall_mem_cons.mpr ⟨dce_57, List.forall_mem_cons.mpr ⟨dce_58, List.forall_mem_cons.mpr ⟨dce_59, List.forall_mem_cons.mpr ⟨dce_60, List.forall_mem_cons.mpr ⟨dce_61, List.forall_mem_cons.mpr ⟨dce_62, List.forall_mem_cons.mpr ⟨dce_63, List.forall_mem_cons.mpr ⟨dce_64, List.forall_mem_cons.mpr ⟨dce_65, List.forall_mem_cons.mpr ⟨dce_66, List.forall_mem_cons.mpr ⟨dce_67, List.forall_mem_cons.mpr ⟨dce_68, List.forall_mem_cons.mpr ⟨dce_69, List.forall_mem_cons.mpr ⟨dce_70, List.forall_mem_cons.mpr ⟨dce_71, fun _ h => absurd h List.not_mem_nil⟩⟩⟩⟩⟩⟩⟩⟩⟩⟩⟩⟩⟩⟩⟩⟩⟩⟩⟩⟩⟩⟩⟩⟩⟩⟩⟩⟩⟩⟩⟩⟩⟩⟩⟩⟩⟩⟩⟩⟩⟩⟩⟩⟩⟩⟩⟩⟩⟩⟩⟩⟩⟩⟩⟩⟩⟩⟩⟩⟩⟩⟩⟩⟩⟩⟩⟩⟩⟩⟩⟩⟩
set_option maxRecDepth 100000 in
theorem dg_0 : dGood dM_0 := ⟨by decide +kernel, ⟨by decide +kernel, by decide +kernel⟩, by decide +kernel, by decide +kernel⟩
set_option maxRecDepth 100000 in
theorem dg_1 : dGood dM_1 := ⟨by decide +kernel, ⟨by decide +kernel, by decide +kernel⟩, by decide +kernel, by decide +kernel⟩
set_option maxRecDepth 100000 in
theorem dg_2 : dGood dM_2 := ⟨by decide +kernel, ⟨by decide +kernel, by decide +kernel⟩, by decide +kernel, by decide +kernel⟩
set_option maxRecDepth 100000 in
theorem dg_3 : dGood dM_3 := ⟨by decide +kernel, ⟨by decide +kernel, by decide +kernel⟩, by decide +kernel, by decide +kernel⟩
set_option maxRecDepth 100000 in
theorem dg_4 : dGood dM_4 := ⟨by decide +kernel, ⟨by decide +kernel, by decide +kernel⟩, by decide +kernel, by decide +kernel⟩
set_option maxRecDepth 100000 in
theorem dg_5 : dGood dM_5 := ⟨by decide +kernel, ⟨by decide +kernel, by decide +kernel⟩, by decide +kernel, by decide +kernel⟩
set_option maxRecDepth 100000 in
theorem dg_6 : dGood dM_6 := ⟨by decide +kernel, ⟨by decide +kernel, by decide +kernel⟩, by decide +kernel, by decide +kernel⟩
set_option maxRecDepth 100000 in
theorem dg_7 : dGood dM_7 := ⟨by decide +kernel, ⟨by decide +kernel, by decide +kernel⟩, by decide +kernel, by decide +kernel⟩
set_option maxRecDepth 100000 in
theorem dg_8 : dGood dM_8 := ⟨by decide +kernel, ⟨by decide +kernel, by decide +kernel⟩, by decide +kernel, by decide +kernel⟩
set_option maxRecDepth 100000 in
theorem dg_9 : dGood dM_9 := ⟨by decide +kernel, ⟨by decide +kernel, by decide +kernel⟩, by decide +kernel, by decide +kernel⟩
set_option maxRecDepth 100000 in
theorem dg_10 : dGood dM_10 := ⟨by decide +kernel, ⟨by decide +kernel, by decide +kernel⟩, by decide +kernel, by decide +kernel⟩
set_option maxRecDepth 100000 in
theorem dg_11 : dGood dM_11 := ⟨by decide +kernel, ⟨by decide +kernel, by decide +kernel⟩, by decide +kernel, by decide +kernel⟩
set_option maxRecDepth 100000 in
theorem dg_12 : dGood dM_12 := ⟨by decide +kernel, ⟨by decide +kernel, by decide +kernel⟩, by decide +kernel, by decide +kernel⟩
set_option maxRecDepth 100000 in
theorem dg_13 : dGood dM_13 := ⟨by decide +kernel, ⟨by decide +kernel, by decide +kernel⟩, by decide +kernel, by decide +kernel⟩
set_option maxRecDepth 100000 in
theorem dg_14 : dGood dM_14 := ⟨by decide +kernel, ⟨by decide +kernel, by decide +kernel⟩, by decide +kernel, by decide +kernel⟩
set_option maxRecDepth 100000 in
theorem dg_15 : dGood dM_15 := ⟨by decide +kernel, ⟨by decide +kernel, by decide +kernel⟩, by decide +kernel, by decide +kernel⟩
set_option maxRecDepth 100000 in
theorem dg_16 : dGood dM_16 := ⟨by decide +kernel, ⟨by decide +kernel, by decide +kernel⟩, by decide +kernel, by decide +kernel⟩
set_option maxRecDepth 100000 in
theorem dg_17 : dGood dM_17 := ⟨by decide +kernel, ⟨by decide +kernel, by decide +kernel⟩, by decide +kernel, by decide +kernel⟩
set_option maxRecDepth 100000 in
theorem dg_18 : dGood dM_18 := ⟨by decide +kernel, ⟨by decide +kernel, by decide +kernel⟩, by decide +kernel, by decide +kernel⟩
set_option maxRecDepth 100000 in
theorem dg_19 : dGood dM_19 := ⟨by decide +kernel, ⟨by decide +kernel, by decide +kernel⟩, by decide +kernel, by decide +kernel⟩
set_option maxRecDepth 100000 in
theorem dg_20 : dGood dM_20 := ⟨by decide +kernel, ⟨by decide +kernel, by decide +kernel⟩, by decide +kernel, by decide +kernel⟩
set_option maxRecDepth 100000 in
theorem dg_21 : dGood dM_21 := ⟨by decide +kernel, ⟨by decide +kernel, by decide +kernel⟩, by decide +kernel, by decide +kernel⟩
set_option maxRecDepth 100000 in
theorem dg_22 : dGood dM_22 := ⟨by decide +kernel, ⟨by decide +kernel, by decide +kernel⟩, by decide +kernel, by decide +kernel⟩
set_option maxRecDepth 100000 in
theorem dg_23 : dGood dM_23 := ⟨by decide +kernel, ⟨by decide +kernel, by decide +kernel⟩, by decide +kernel, by decide +kernel⟩
set_option maxRecDepth 100000 in
theorem dg_24 : dGood dM_24 := ⟨by decide +kernel, ⟨by decide +kernel, by decide +kernel⟩, by decide +kernel, by decide +kernel⟩
set_option maxRecDepth 100000 in
theorem dg_25 : dGood dM_25 := ⟨by decide +kernel, ⟨by decide +kernel, by decide +kernel⟩, by decide +kernel, by decide +kernel⟩
set_option maxRecDepth 100000 in
theorem dg_26 : dGood dM_26 := ⟨by decide +kernel, ⟨by decide +kernel, by decide +kernel⟩, by decide +kernel, by decide +kernel⟩
set_option maxRecDepth 100000 in
theorem dg_27 : dGood dM_27 := ⟨by decide +kernel, ⟨by decide +kernel, by decide +kernel⟩, by decide +kernel, by decide +kernel⟩
set_option maxRecDepth 100000 in
theorem dg_28 : dGood dM_28 := ⟨by decide +kernel, ⟨by decide +kernel, by decide +kernel⟩, by decide +kernel, by decide +kernel⟩
set_option maxRecDepth 100000 in
theorem dg_29 : dGood dM_29 := ⟨by decide +kernel, ⟨by decide +kernel, by decide +kernel⟩, by decide +kernel, by decide +kernel⟩
set_option maxRecDepth 100000 in
theorem dg_30 : dGood dM_30 := ⟨by decide +kernel, ⟨by decide +kernel, by decide +kernel⟩, by decide +kernel, by decide +kernel⟩
set_option maxRecDepth 100000 in
theorem dg_31 : dGood dM_31 := ⟨by decide +kernel, ⟨by decide +kernel, by decide +kernel⟩, by decide +kernel, by decide +kernel⟩
set_option maxRecDepth 100000 in
theorem dg_32 : dGood dM_32 := ⟨by decide +kernel, ⟨by decide +kernel, by decide +kernel⟩, by decide +kernel, by decide +kernel⟩
set_option maxRecDepth 100000 in
theorem dg_33 : dGood dM_33 := ⟨by decide +kernel, ⟨by decide +kernel, by decide +kernel⟩, by decide +kernel, by decide +kernel⟩
set_option maxRecDepth 100000 in
theorem dg_34 : dGood dM_34 := ⟨by decide +kernel, ⟨by decide +kernel, by decide +kernel⟩, by decide +kernel, by decide +kernel⟩
set_option maxRecDepth 100000 in
theorem dg_35 : dGood dM_35 := ⟨by decide +kernel, ⟨by decide +kernel, by decide +kernel⟩, by decide +kernel, by decide +kernel⟩
set_option maxRecDepth 100000 in
theorem dg_36 : dGood dM_36 := ⟨by decide +kernel, ⟨by decide +kernel, by decide +kernel⟩, by decide +kernel, by decide +kernel⟩
set_option maxRecDepth 100000 in
theorem dg_37 : dGood dM_37 := ⟨by decide +kernel, ⟨by decide +kernel, by decide +kernel⟩, by decide +kernel, by decide +kernel⟩
set_option maxRecDepth 100000 in
theorem dg_38 : dGood dM_38 := ⟨by decide +kernel, ⟨by decide +kernel, by decide +kernel⟩, by decide +kernel, by decide +kernel⟩
set_option maxRecDepth 100000 in
theorem dg_39 : dGood dM_39 := ⟨by decide +kernel, ⟨by decide +kernel, by decide +kernel⟩, by decide +kernel, by decide +kernel⟩
set_option maxRecDepth 100000 in
theorem dg_40 : dGood dM_40 := ⟨by decide +kernel, ⟨by decide +kernel, by decide +kernel⟩, by decide +kernel, by decide +kernel⟩
set_option maxRecDepth 100000 in
theorem dg_41 : dGood dM_41 := ⟨by decide +kernel, ⟨by decide +kernel, by decide +kernel⟩, by decide +kernel, by decide +kernel⟩
set_option maxRecDepth 100000 in
theorem dg_42 : dGood dM_42 := ⟨by decide +kernel, ⟨by decide +kernel, by decide +kernel⟩, by decide +kernel, by decide +kernel⟩
set_option maxRecDepth 100000 in
theorem dg_69 : dGood dM_69 := ⟨by decide +kernel, ⟨by decide +kernel, by decide +kernel⟩, by decide +kernel, by decide +kernel⟩
set_option maxRecDepth 100000 in
theorem dg_70 : dGood dM_70 := ⟨by decide +kernel, ⟨by decide +kernel, by decide +kernel⟩, by decide +kernel, by decide +kernel⟩
set_option maxRecDepth 100000 in
theorem dg_73 : dGood dM_73 := ⟨by decide +kernel, ⟨by decide +kernel, by decide +kernel⟩, by decide +kernel, by decide +kernel⟩
set_option maxRecDepth 100000 in
theorem dg_74 : dGood dM_74 := ⟨by decide +kernel, ⟨by decide +kernel, by decide +kernel⟩, by decide +kernel, by decide +kernel⟩
set_option maxRecDepth 100000 in
theorem dg_75 : dGood dM_75 := ⟨by decide +kernel, ⟨by decide +kernel, by decide +kernel⟩, by decide +kernel, by decide +kernel⟩
set_option maxRecDepth 100000 in
theorem dg_76 : dGood dM_76 := ⟨by decide +kernel, ⟨by decide +kernel, by decide +kernel⟩, by decide +kernel, by decide +kernel⟩
set_option maxRecDepth 100000 in
theorem dg_77 : dGood dM_77 := ⟨by decide +kernel, ⟨by decide +kernel, by decide +kernel⟩, by decide +kernel, by decide +kernel⟩
set_option maxRecDepth 100000 in
theorem dg_78 : dGood dM_78 := ⟨by decide +kernel, ⟨by decide +kernel, by decide +kernel⟩, by decide +kernel, by decide +kernel⟩
set_option maxRecDepth 100000 in
theorem dg_79 : dGood dM_79 := ⟨by decide +kernel, ⟨by decide +kernel, by decide +kernel⟩, by decide +kernel, by decide +kernel⟩
set_option maxRecDepth 100000 in
theorem dg_80 : dGood dM_80 := ⟨by decide +kernel, ⟨by decide +kernel, by decide +kernel⟩, by decide +kernel, by decide +kernel⟩
set_option maxRecDepth 100000 in
theorem dg_81 : dGood dM_81 := ⟨by decide +kernel, ⟨by decide +kernel, by decide +kernel⟩, by decide +kernel, by decide +kernel⟩
set_option maxRecDepth 100000 in
theorem dg_82 : dGood dM_82 := ⟨by decide +kernel, ⟨by decide +kernel, by decide +kernel⟩, by decide +kernel, by decide +kernel⟩
set_option maxRecDepth 100000 in
theorem dg_83 : dGood dM_83 := ⟨by decide +kernel, ⟨by decide +kernel, by decide +kernel⟩, by decide +kernel, by decide +kernel⟩
set_option maxRecDepth 100000 in
theorem dg_84 : dGood dM_84 := ⟨by decide +kernel, ⟨by decide +kernel, by decide +kernel⟩, by decide +kernel, by decide +kernel⟩
set_option maxRecDepth 100000 in
theorem dg_85 : dGood dM_85 := ⟨by decide +kernel, ⟨by decide +kernel, by decide +kernel⟩, by decide +kernel, by decide +kernel⟩
set_option maxRecDepth 100000 in
theorem dg_86 : dGood dM_86 := ⟨by decide +kernel, ⟨by decide +kernel, by decide +kernel⟩, by decide +kernel, by decide +kernel⟩
set_option maxRecDepth 100000 in
theorem dg_87 : dGood dM_87 := ⟨by decide +kernel, ⟨by decide +kernel, by decide +kernel⟩, by decide +kernel, by decide +kernel⟩
set_option maxRecDepth 100000 in
theorem dg_88 : dGood dM_88 := ⟨by decide +kernel, ⟨by decide +kernel, by decide +kernel⟩, by decide +kernel, by decide +kernel⟩
set_option maxRecDepth 100000 in
theorem dg_89 : dGood dM_89 := ⟨by decide +kernel, ⟨by decide +kernel, by decide +kernel⟩, by decide +kernel, by decide +kernel⟩
set_option maxRecDepth 100000 in
theorem dg_90 : dGood dM_90 := ⟨by decide +kernel, ⟨by decide +kernel, by decide +kernel⟩, by decide +kernel, by decide +kernel⟩
set_option maxRecDepth 100000 in
theorem dg_91 : dGood dM_91 := ⟨by decide +kernel, ⟨by decide +kernel, by decide +kernel⟩, by decide +kernel, by decide +kernel⟩
set_option maxRecDepth 100000 in
theorem dg_92 : dGood dM_92 := ⟨by decide +kernel, ⟨by decide +kernel, by decide +kernel⟩, by decide +kernel, by decide +kernel⟩
set_option maxRecDepth 100000 in
theorem dg_93 : dGood dM_93 := ⟨by decide +kernel, ⟨by decide +kernel, by decide +kernel⟩, by decide +kernel, by decide +kernel⟩
set_option maxRecDepth 100000 in
theorem dg_law : dchk 11 (some .boolean) code dT_law = true ∧ dchk2 dT_law 5 = true := ⟨by decide +kernel, by decide +kernel⟩
set_option maxRecDepth 100000 in
theorem dg_disks : dchk 11 (some .boolean) method_7_code dT_disks = true ∧ dchk2 dT_disks 8 = true := ⟨by decide +kernel, by decide +kernel⟩
set_option maxRecDepth 100000 in
theorem dg_reads : dchk 11 (some .boolean) method_8_code dT_reads = true ∧ dchk2 dT_reads 7 = true := ⟨by decide +kernel, by decide +kernel⟩
theorem dgs_0 : ∀ q ∈ dms_0, dGood q := List.forall_mem_cons.mpr ⟨dg_0, List.forall_mem_cons.mpr ⟨dg_1, List.forall_mem_cons.mpr ⟨dg_2, List.forall_mem_cons.mpr ⟨dg_3, List.forall_mem_cons.mpr ⟨dg_4, List.forall_mem_cons.mpr ⟨dg_5, List.forall_mem_cons.mpr ⟨dg_6, List.forall_mem_cons.mpr ⟨dg_7, List.forall_mem_cons.mpr ⟨dg_8, List.forall_mem_cons.mpr ⟨dg_9, List.forall_mem_cons.mpr ⟨dg_10, List.forall_mem_cons.mpr ⟨dg_11, List.forall_mem_cons.mpr ⟨dg_12, List.forall_mem_cons.mpr ⟨dg_13, List.forall_mem_cons.mpr ⟨dg_14, List.forall_mem_cons.mpr ⟨dg_15, List.forall_mem_cons.mpr ⟨dg_16, List.forall_mem_cons.mpr ⟨dg_17, List.forall_mem_cons.mpr ⟨dg_18, List.forall_mem_cons.mpr ⟨dg_19, List.forall_mem_cons.mpr ⟨dg_20, List.forall_mem_cons.mpr ⟨dg_21, List.forall_mem_cons.mpr ⟨dg_22, List.forall_mem_cons.mpr ⟨dg_23, List.forall_mem_cons.mpr ⟨dg_24, fun _ h => absurd h List.not_mem_nil⟩⟩⟩⟩⟩⟩⟩⟩⟩⟩⟩⟩⟩⟩⟩⟩⟩⟩⟩⟩⟩⟩⟩⟩⟩
theorem dgs_1 : ∀ q ∈ dms_1, dGood q := List.forall_mem_cons.mpr ⟨dg_25, List.forall_mem_cons.mpr ⟨dg_26, List.forall_mem_cons.mpr ⟨dg_27, List.forall_mem_cons.mpr ⟨dg_28, List.forall_mem_cons.mpr ⟨dg_29, List.forall_mem_cons.mpr ⟨dg_30, List.forall_mem_cons.mpr ⟨dg_31, List.forall_mem_cons.mpr ⟨dg_32, List.forall_mem_cons.mpr ⟨dg_33, List.forall_mem_cons.mpr ⟨dg_34, List.forall_mem_cons.mpr ⟨dg_35, List.forall_mem_cons.mpr ⟨dg_36, List.forall_mem_cons.mpr ⟨dg_37, List.forall_mem_cons.mpr ⟨dg_38, List.forall_mem_cons.mpr ⟨dg_39, List.forall_mem_cons.mpr ⟨dg_40, List.forall_mem_cons.mpr ⟨dg_41, List.forall_mem_cons.mpr ⟨dg_42, List.forall_mem_cons.mpr ⟨dg_18, List.forall_mem_cons.mpr ⟨dg_18, List.forall_mem_cons.mpr ⟨dg_18, List.forall_mem_cons.mpr ⟨dg_18, List.forall_mem_cons.mpr ⟨dg_18, List.forall_mem_cons.mpr ⟨dg_18, List.forall_mem_cons.mpr ⟨dg_18, fun _ h => absurd h List.not_mem_nil⟩⟩⟩⟩⟩⟩⟩⟩⟩⟩⟩⟩⟩⟩⟩⟩⟩⟩⟩⟩⟩⟩⟩⟩⟩
theorem dgs_2 : ∀ q ∈ dms_2, dGood q := List.forall_mem_cons.mpr ⟨dg_18, List.forall_mem_cons.mpr ⟨dg_18, List.forall_mem_cons.mpr ⟨dg_18, List.forall_mem_cons.mpr ⟨dg_18, List.forall_mem_cons.mpr ⟨dg_18, List.forall_mem_cons.mpr ⟨dg_18, List.forall_mem_cons.mpr ⟨dg_18, List.forall_mem_cons.mpr ⟨dg_18, List.forall_mem_cons.mpr ⟨dg_18, List.forall_mem_cons.mpr ⟨dg_18, List.forall_mem_cons.mpr ⟨dg_18, List.forall_mem_cons.mpr ⟨dg_18, List.forall_mem_cons.mpr ⟨dg_18, List.forall_mem_cons.mpr ⟨dg_18, List.forall_mem_cons.mpr ⟨dg_18, List.forall_mem_cons.mpr ⟨dg_18, List.forall_mem_cons.mpr ⟨dg_18, List.forall_mem_cons.mpr ⟨dg_18, List.forall_mem_cons.mpr ⟨dg_18, List.forall_mem_cons.mpr ⟨dg_69, List.forall_mem_cons.mpr ⟨dg_70, List.forall_mem_cons.mpr ⟨dg_18, List.forall_mem_cons.mpr ⟨dg_18, List.forall_mem_cons.mpr ⟨dg_73, List.forall_mem_cons.mpr ⟨dg_74, fun _ h => absurd h List.not_mem_nil⟩⟩⟩⟩⟩⟩⟩⟩⟩⟩⟩⟩⟩⟩⟩⟩⟩⟩⟩⟩⟩⟩⟩⟩⟩
theorem dgs_3 : ∀ q ∈ dms_3, dGood q := List.forall_mem_cons.mpr ⟨dg_75, List.forall_mem_cons.mpr ⟨dg_76, List.forall_mem_cons.mpr ⟨dg_77, List.forall_mem_cons.mpr ⟨dg_78, List.forall_mem_cons.mpr ⟨dg_79, List.forall_mem_cons.mpr ⟨dg_80, List.forall_mem_cons.mpr ⟨dg_81, List.forall_mem_cons.mpr ⟨dg_82, List.forall_mem_cons.mpr ⟨dg_83, List.forall_mem_cons.mpr ⟨dg_84, List.forall_mem_cons.mpr ⟨dg_85, List.forall_mem_cons.mpr ⟨dg_86, List.forall_mem_cons.mpr ⟨dg_87, List.forall_mem_cons.mpr ⟨dg_88, List.forall_mem_cons.mpr ⟨dg_89, List.forall_mem_cons.mpr ⟨dg_90, List.forall_mem_cons.mpr ⟨dg_91, List.forall_mem_cons.mpr ⟨dg_92, List.forall_mem_cons.mpr ⟨dg_93, fun _ h => absurd h List.not_mem_nil⟩⟩⟩⟩⟩⟩⟩⟩⟩⟩⟩⟩⟩⟩⟩⟩⟩⟩⟩
theorem dgs : ∀ q ∈ dms, dGood q := fun q h => (List.mem_append.mp h).elim (dgs_0 q) ((fun q h => (List.mem_append.mp h).elim (dgs_1 q) ((fun q h => (List.mem_append.mp h).elim (dgs_2 q) ((dgs_3) q)) q)) q)
end
section
/-! the abstract heap beside the machine's: which keys are cells, what stands in them, what a method may take as given -/
def okK (ad : DKey → Nat) : DKey → Bool
  | (k, i, j) => match k with
    | 0 => decide (i < 8) && decide (j = 0)
    | 1 => decide (i < 8) && decide (j = 0)
    | 2 => decide (i < 8) && decide (j = 0)
    | 3 => decide (i < 8) && decide (j = 0)
    | 4 => decide (i < 8) && decide (j < 12)
    | 5 => decide (i < 8) && decide (j < 30)
    | 35 => decide (ad (35, 0, 0) ≠ 0) && decide (i = 0) && decide (j = 0)
    | 36 => decide (ad (36, 0, 0) ≠ 0) && decide (i = 0) && decide (j = 0)
    | k => decide (5 < k) && decide (k < 14) && decide (i = 0) && decide (j = 0)
def okV (ad : DKey → Nat) : DV → Bool
  | .inl _ => true
  | .inr (k, i, j) => okK ad (k, i, j) || (decide (j = 0) && ((decide (k = 32) && decide (i < 3)) || (decide (k = 34) && decide (i = 0))))
def dval (ad : DKey → Nat) (fm : Value) : DV → Value
  | .inl x => .int x
  | .inr κ => if κ.1 = 33 then fm else .ref (ad κ)
def dtys (ca : Nat → ClassId) : List (ClassId × FieldType) := [(ca 0, .int), (ca 1, .object "DiskDrawer$Disk"), (ca 2, .object "DiskDrawer$Read"), (ca 3, .object "DiskDrawer$State"), (ca 4, .char)]
def dfields (ad : DKey → Nat) (κ : DKey) (f : Nat → Int32) : List Value := (List.range (dnf (dcls κ.1))).map fun k => match dref κ k with
  | some w => dval ad .null w
  | none => .int (f k)
def dent (ad : DKey → Nat) (ca : Nat → ClassId) (κ : DKey) (f : Nat → Int32) (g : Nat → Nat) : va_E := match darr κ with
  | some (t, n) => if t = 1 ∨ t = 2 ∨ t = 3 then .inl (ca t, n, .inr (.inr (.inr (.inr (fun j => (drk κ (g j) j).map ad))))) else .inl (ca t, n, .inl f)
  | none => .inr (dcls κ.1, dfields ad κ f)
def dSim (D : va_G) (ad : DKey → Nat) (ca : Nat → ClassId) (xs : Nat → Int32) (SL : Nat) (h : DH) (H : Heap) : Prop :=
  (∀ κ, okK ad κ = true → va_at D dclasses (ad κ, dent ad ca κ (h.1 κ) (h.2 κ)) H) ∧ (∀ i j, i < 8 → j < 30 → h.2 (3, i, 0) j < 30) ∧ (∀ j, j < 5 → h.2 (8, 0, 0) j < 8) ∧ h.1 (34, 0, 0) = xs ∧ h.2 (34, 0, 0) 0 = SL
def dInj (ad : DKey → Nat) : Prop := ∀ κ κ', okK ad κ = true → okK ad κ' = true → ad κ = ad κ' → κ = κ'
def dNestW : Cond → Bool
  | .methodLinkNest .. => true
  | .fieldLinkNest .. => true
  | _ => false
def dNest : List Cond := lw_tbl.filter dNestW
def dsn : Nat → String
  | 0 => "AT_FIRST" | 1 => "LOWEST" | _ => "HIGHEST"
def dEnv (D : va_G) (ad : DKey → Nat) (ca : Nat → ClassId) (fm : Value) (xs : Nat → Int32) (SL : Nat) (A : Nat → Prop) (U : State) : Prop :=
  va_K D dclasses (dtys ca) U ∧ (∀ w ∈ dNest, va_Nw w U) ∧
  (∀ w, w < 3 → va_Z "DiskDrawer" (dsn w) "[I" (.ref (ad (32, w, 0))) A U U.heap ∧ va_T .int (ad (32, w, 0)) 10 (fun j => .int (dcst w j)) A U U.heap) ∧
  va_X (ad (34, 0, 0)) SL xs U U.heap ∧ ad (34, 0, 0) < U.heap.size ∧ ¬ A (ad (34, 0, 0))
def dFm (fm : Value) : Prop := fm = .null ∨ ∃ a, fm = .ref a
def dAm (ad : DKey → Nat) : Nat → Prop := fun q => ∃ κ, okK ad κ = true ∧ ad κ = q
section DW
variable {D : va_G} {ad : DKey → Nat} {ca : Nat → ClassId} {fm : Value} {xs : Nat → Int32} {SL : Nat} {A B : Nat → Prop} {u U s : State}
theorem dEnv.to (hal : u.vm.Alike U.vm) (hn : ∀ w ∈ dNest, va_Nw w u → va_Nw w U) (hz : u.heap.size ≤ U.heap.size) (hq : ∀ a : Nat, a < u.heap.size → ¬ A a → U.heap[a]? = u.heap[a]?) (h : dEnv D ad ca fm xs SL A u) : dEnv D ad ca fm xs SL A U := by
  obtain ⟨h1, h2, h3, h8, h9, h10⟩ := h
  exact ⟨va_K.moved hal h1, fun w hw => hn w hw (h2 w hw), fun w hw => ⟨(va_Z.moved hal (h3 w hw).1).kept hq, (va_T.moved hal (h3 w hw).2).kept hq⟩, (va_X.moved hal h8).kept (hq _ h9 h10), Nat.lt_of_lt_of_le h9 hz, h10⟩
theorem dNest_cases {w : Cond} (hw : w ∈ dNest) : (∃ a i b n d h, w = .fieldLinkNest a i b n d h) ∨ ∃ a i x h, w = .methodLinkNest a i x h := by
  have h := (List.mem_filter.mp hw).2
  cases w with
  | fieldLinkNest a i b n d h => exact Or.inl ⟨_, _, _, _, _, _, rfl⟩
  | methodLinkNest a i x h => exact Or.inr ⟨_, _, _, _, rfl⟩
  | _ => exact absurd h (by simp [dNestW])
theorem dEnv.warm (hW : s.WarmedH U.vm) (hz : s.heap.size ≤ U.heap.size) (hq : ∀ a : Nat, a < s.heap.size → ¬ A a → U.heap[a]? = s.heap[a]?) (h : dEnv D ad ca fm xs SL A s) : dEnv D ad ca fm xs SL A U :=
  dEnv.to hW.alike (fun w hw hz => by
    rcases dNest_cases hw with ⟨a, i, b, n, d, h, rfl⟩ | ⟨a, i, x, h, rfl⟩
    · exact va_Nw.warmF hW hz
    · exact va_Nw.warmM hW hz) hz hq h
theorem dEnv.same (hv : U.vm = u.vm) (hh : U.heap = u.heap) (h : dEnv D ad ca fm xs SL A u) : dEnv D ad ca fm xs SL A U :=
  dEnv.to (by rw [hv]; exact Vm.Alike.refl _) (fun w hw hz => by
    rcases dNest_cases hw with ⟨a, i, b, n, d, h, rfl⟩ | ⟨a, i, x, h, rfl⟩
    · exact va_Nw.same rfl hv.symm hz
    · exact va_Nw.same rfl hv.symm hz) (by rw [hh]; exact Nat.le_refl _) (fun a _ _ => by rw [hh]) h
theorem dEnv.narrow (hB : ∀ q, B q → A q) (h : dEnv D ad ca fm xs SL A U) : dEnv D ad ca fm xs SL B U := by
  obtain ⟨h1, h2, h3, h8, h9, h10⟩ := h
  exact ⟨h1, h2, fun w hw => ⟨(h3 w hw).1.narrow hB, (h3 w hw).2.narrow hB⟩, h8, h9, fun z => h10 (hB _ z)⟩
end DW
theorem okK_lt {ad : DKey → Nat} {κ : DKey} (h : okK ad κ = true) : κ.1 < 14 ∨ κ.1 = 35 ∨ κ.1 = 36 := by
  obtain ⟨k, i, j⟩ := κ
  show k < 14 ∨ k = 35 ∨ k = 36
  unfold okK at h
  dsimp only at h
  split at h <;> first | decide | (simp only [Bool.and_eq_true, decide_eq_true_eq] at h; omega)
theorem okK_34 {ad : DKey → Nat} {κ : DKey} (h : okK ad κ = true) : ((34, 0, 0) : DKey) ≠ κ := fun e => by
  have := okK_lt h
  rw [← e] at this
  exact absurd this (by decide)
theorem dval_cat {ad : DKey → Nat} {fm : Value} (hf : dFm fm) (v : DV) : (dval ad fm v).category = 1 := by
  cases v with
  | inl x => rfl
  | inr κ =>
    show (if κ.1 = 33 then fm else Value.ref (ad κ)).category = 1
    by_cases e : κ.1 = 33
    · rw [if_pos e]
      rcases hf with rfl | ⟨a, rfl⟩ <;> rfl
    · rw [if_neg e]
      rfl
theorem dval_ok {ad : DKey → Nat} {fm : Value} {κ : DKey} (h : κ.1 ≠ 33) : dval ad fm (.inr κ) = .ref (ad κ) := by simp [dval, h]
theorem dval_K {ad : DKey → Nat} {fm : Value} {κ : DKey} (h : okK ad κ = true) : dval ad fm (.inr κ) = .ref (ad κ) := dval_ok (by have := okK_lt h; omega)
/-! locals -/
def dlp (ad : DKey → Nat) (fm : Value) : Nat → List (Option DV) → List (Nat × Value)
  | _, [] => []
  | k, none :: L => dlp ad fm (k + 1) L
  | k, some v :: L => (k, dval ad fm v) :: dlp ad fm (k + 1) L
theorem dlp_mem {ad : DKey → Nat} {fm : Value} : ∀ (L : List (Option DV)) (b k : Nat) (v : DV), dget L k = some v → (b + k, dval ad fm v) ∈ dlp ad fm b L := by
  intro L
  induction L with
  | nil => intro b k v h; cases h
  | cons x L ih =>
    intro b k v h
    cases k with
    | zero =>
      cases x with
      | none => cases h
      | some w => cases h; exact List.mem_cons_self
    | succ k =>
      have := ih (b + 1) k v h
      rw [show b + 1 + k = b + (k + 1) from by omega] at this
      cases x with
      | none => exact this
      | some w => exact List.mem_cons_of_mem _ this
theorem dlp_of {ad : DKey → Nat} {fm : Value} : ∀ (L : List (Option DV)) (b : Nat) (q : Nat × Value), q ∈ dlp ad fm b L → ∃ k v, dget L k = some v ∧ q = (b + k, dval ad fm v) := by
  intro L
  induction L with
  | nil => intro b q h; cases h
  | cons x L ih =>
    intro b q h
    cases x with
    | none =>
      obtain ⟨k, v, h1, h2⟩ := ih (b + 1) q h
      exact ⟨k + 1, v, h1, by rw [h2, show b + 1 + k = b + (k + 1) from by omega]⟩
    | some w =>
      rcases List.mem_cons.mp h with h | h
      · exact ⟨0, w, rfl, h⟩
      · obtain ⟨k, v, h1, h2⟩ := ih (b + 1) q h
        exact ⟨k + 1, v, h1, by rw [h2, show b + 1 + k = b + (k + 1) from by omega]⟩
theorem dget_set : ∀ (L : List (Option DV)) (i k : Nat) (v : DV), i < L.length → dget (dset L i v) k = if k = i then some v else dget L k := by
  intro L
  induction L with
  | nil => intro i k v h; cases h
  | cons x L ih =>
    intro i k v h
    cases i with
    | zero => cases k <;> simp [dset, dget]
    | succ i =>
      cases k with
      | zero => simp [dset, dget]
      | succ k => simp only [dset, dget, Nat.add_right_cancel_iff]; exact ih i k v (by simpa using h)
theorem dset_len : ∀ (L : List (Option DV)) (i : Nat) (v : DV), (dset L i v).length = L.length := by
  intro L
  induction L with
  | nil => intro i v; cases i <;> rfl
  | cons x L ih =>
    intro i v
    cases i with
    | zero => rfl
    | succ i => simp [dset, ih]
def dLoc (ad : DKey → Nat) (fm : Value) (L : List (Option DV)) (nL : Nat) (ls : Array Slot) : Prop := lv_has ls nL (dlp ad fm 0 L)
theorem dLoc.get {ad : DKey → Nat} {fm : Value} {L : List (Option DV)} {nL : Nat} {ls : Array Slot} (h : dLoc ad fm L nL ls) {k : Nat} {v : DV} (hk : dget L k = some v) : ls[k]? = some (.val (dval ad fm v)) := by
  have := h.2.2 _ (dlp_mem L 0 k v hk)
  simpa using this
theorem dLoc.put {ad : DKey → Nat} {fm : Value} (hf : dFm fm) {L : List (Option DV)} {nL i : Nat} {v : DV} {ls' : Array Slot} (hi : i < L.length) (h : lv_has ls' nL ((i, dval ad fm v) :: (dlp ad fm 0 L).filter (fun q => !(q.1 == i) && !(q.1 + 1 == i && q.2.category == 2)))) : dLoc ad fm (dset L i v) nL ls' := by
  refine ⟨h.1, h.2.1, fun q hq => ?_⟩
  obtain ⟨k, w, h1, rfl⟩ := dlp_of _ _ _ hq
  rw [dget_set L i k v hi] at h1
  by_cases hk : k = i
  · rw [if_pos hk] at h1
    cases h1
    have := h.2.2 (i, dval ad fm v) List.mem_cons_self
    simpa [hk] using this
  · rw [if_neg hk] at h1
    refine h.2.2 _ (List.mem_cons_of_mem _ (List.mem_filter.mpr ⟨dlp_mem L 0 k w h1, ?_⟩))
    simp [hk, dval_cat hf]
/-! the heap -/
section DHP
variable {D : va_G} {ad : DKey → Nat} {ca : Nat → ClassId} {xs : Nat → Int32} {SL : Nat} {h : DH} {H H1 : Heap} {κ : DKey} {a : Nat}
theorem up1_ne (h : DH) {κ κ' : DKey} (k : Nat) (x : Int32) (hn : κ' ≠ κ) : (up1 h κ k x).1 κ' = h.1 κ' := by
  funext j
  simp [up1, hn]
theorem up1_eq (h : DH) (κ : DKey) (k : Nat) (x : Int32) : (up1 h κ k x).1 κ = upd (h.1 κ) k x := by
  funext j
  simp [up1, upd]
theorem up2_ne (h : DH) {κ κ' : DKey} (k : Nat) (x : Nat) (hn : κ' ≠ κ) : (up2 h κ k x).2 κ' = h.2 κ' := by
  funext j
  simp [up2, hn]
theorem dSim.up1 (hS : dSim D ad ca xs SL h H) (hi : dInj ad) (hκ : okK ad κ = true) {k : Nat} {x : Int32} (hc : va_at D dclasses (ad κ, dent ad ca κ (upd (h.1 κ) k x) (h.2 κ)) H1) (oq : ∀ q : Nat, q ≠ ad κ → H1[q]? = H[q]?) : dSim D ad ca xs SL (up1 h κ k x) H1 := by
  have h34 := okK_34 hκ
  refine ⟨fun κ' h' => ?_, hS.2.1, hS.2.2.1, (up1_ne h k x h34).trans hS.2.2.2.1, hS.2.2.2.2⟩
  by_cases e : κ' = κ
  · subst e
    rw [up1_eq]
    exact hc
  · rw [up1_ne h k x e]
    exact (hS.1 κ' h').kept (oq _ (fun z => e (hi κ' κ h' hκ z)))
theorem dSim.up2 (hS : dSim D ad ca xs SL h H) (hi : dInj ad) (hκ : okK ad κ = true) {k x : Nat} (hr : (κ.1 = 3 ∧ x < 30) ∨ (κ.1 = 8 ∧ x < 8)) (hc : va_at D dclasses (ad κ, dent ad ca κ (h.1 κ) ((up2 h κ k x).2 κ)) H1) (oq : ∀ q : Nat, q ≠ ad κ → H1[q]? = H[q]?) : dSim D ad ca xs SL (up2 h κ k x) H1 := by
  have h34 := okK_34 hκ
  refine ⟨fun κ' h' => ?_, fun i j hi' hj => ?_, fun j hj => ?_, hS.2.2.2.1, by rw [up2_ne h k x h34]; exact hS.2.2.2.2⟩
  · by_cases e : κ' = κ
    · subst e
      exact hc
    · rw [up2_ne h k x e]
      exact (hS.1 κ' h').kept (oq _ (fun z => e (hi κ' κ h' hκ z)))
  · show (if (3, i, 0) = κ ∧ j = k then x else h.2 (3, i, 0) j) < 30
    split
    · rename_i e
      rcases hr with hr | hr
      · exact hr.2
      · rw [← e.1] at hr; exact absurd hr.1 (show ¬ (3 : Nat) = 8 by decide)
    · exact hS.2.1 i j hi' hj
  · show (if (8, 0, 0) = κ ∧ j = k then x else h.2 (8, 0, 0) j) < 8
    split
    · rename_i e
      rcases hr with hr | hr
      · rw [← e.1] at hr; exact absurd hr.1 (by decide)
      · exact hr.2
    · exact hS.2.2.1 j hj
theorem dfields_at {k : Nat} (f : Nat → Int32) (hk : k < dnf (dcls κ.1)) : (dfields ad κ f)[k]? = some (match dref κ k with
  | some w => dval ad .null w
  | none => .int (f k)) := by
  unfold dfields
  rw [List.getElem?_map, List.getElem?_range hk]
  rfl
theorem dfields_set {k : Nat} (f : Nat → Int32) (x : Int32) (hk : k < dnf (dcls κ.1)) (hr : dref κ k = none) : (dfields ad κ f).set k (.int x) = dfields ad κ (upd f k x) := by
  refine List.ext_getElem? fun j => ?_
  by_cases hj : j < dnf (dcls κ.1)
  · rw [List.getElem?_set]
    have hl : (dfields ad κ f).length = dnf (dcls κ.1) := by simp [dfields]
    by_cases e : k = j
    · subst e
      rw [if_pos rfl, if_pos (by rw [hl]; exact hk), dfields_at _ hk, hr]
      simp [upd]
    · rw [if_neg e, dfields_at _ hj, dfields_at _ hj]
      cases dref κ j with
      | some w => rfl
      | none => simp [upd, Ne.symm e]
  · have hl : (dfields ad κ f).length = dnf (dcls κ.1) := by simp [dfields]
    have hl2 : (dfields ad κ (upd f k x)).length = dnf (dcls κ.1) := by simp [dfields]
    rw [List.getElem?_eq_none (by rw [List.length_set, hl]; omega), List.getElem?_eq_none (by rw [hl2]; omega)]
theorem drefT_33 {kd k t m : Nat} (h : drefT kd k = some (t, m)) : t ≠ 33 := by
  unfold drefT at h
  split at h <;> first | (cases h; decide) | cases h
theorem dref_null {fm : Value} {κ : DKey} {k : Nat} {w : DV} (h : dref κ k = some w) : dval ad .null w = dval ad fm w := by
  obtain ⟨kd, i, j⟩ := κ
  unfold dref at h
  dsimp only at h
  split at h
  · cases h
  · rename_i t m e
    have ht := drefT_33 e
    split at h <;> cases h
    · rw [dval_ok ht, dval_ok ht]
    · rfl
    · rw [dval_ok ht, dval_ok ht]
theorem dcls_arr {κ : DKey} (h : dcls κ.1 ≠ 99) : darr κ = none := by
  obtain ⟨k, i, j⟩ := κ
  unfold dcls at h
  split at h <;> first | (rename_i e; subst e; rfl) | rfl | (exact absurd rfl h)
theorem dcl_at {ci : Nat} (h : ci < 6) : dclasses[ci]? = some (don ci, dTX ci, dnf ci) := by
  match ci, h with
  | 0, _ => rfl
  | 1, _ => rfl
  | 2, _ => rfl
  | 3, _ => rfl
  | 4, _ => rfl
  | 5, _ => rfl
end DHP
end
section
/-! the instructions that touch the heap, over the abstract heap -/
theorem duw0 : ∀ w ∈ u_ws (don 0) (dTX 0) (dnf 0), w ∈ lw_tbl ∧ goodWord w = true := by decide +kernel
theorem duw1 : ∀ w ∈ u_ws (don 1) (dTX 1) (dnf 1), w ∈ lw_tbl ∧ goodWord w = true := by decide +kernel
theorem duw2 : ∀ w ∈ u_ws (don 2) (dTX 2) (dnf 2), w ∈ lw_tbl ∧ goodWord w = true := by decide +kernel
theorem duw3 : ∀ w ∈ u_ws (don 3) (dTX 3) (dnf 3), w ∈ lw_tbl ∧ goodWord w = true := by decide +kernel
theorem duw4 : ∀ w ∈ u_ws (don 4) (dTX 4) (dnf 4), w ∈ lw_tbl ∧ goodWord w = true := by decide +kernel
theorem duw5 : ∀ w ∈ u_ws (don 5) (dTX 5) (dnf 5), w ∈ lw_tbl ∧ goodWord w = true := by decide +kernel
theorem duw {ci : Nat} (h : ci < 6) : ∀ w ∈ u_ws (don ci) (dTX ci) (dnf ci), w ∈ dWd := by
  have key : ∀ w ∈ u_ws (don ci) (dTX ci) (dnf ci), w ∈ lw_tbl ∧ goodWord w = true := by
    match ci, h with
    | 0, _ => exact duw0
    | 1, _ => exact duw1
    | 2, _ => exact duw2
    | 3, _ => exact duw3
    | 4, _ => exact duw4
    | 5, _ => exact duw5
  exact fun w hw => List.mem_filter.mpr (key w hw)
theorem dty_ok : ∀ ci, ci < 6 → ∀ k, k < dnf ci → parseFieldDescriptor (dTX ci k).2.2.1 = some (dTY ci k) := by decide +kernel
theorem dnm_ok : ∀ ci, ci < 6 → ∀ a, a < dnf ci → ∀ b, b < dnf ci → a ≠ b → (dTX ci a).2.1 ≠ (dTX ci b).2.1 := by decide +kernel
theorem dfin_ok : ∀ kd, kd < 37 → dcls kd < 6 → ∀ k, k < dnf (dcls kd) → drefT kd k = none → (dTX (dcls kd) k).2.2.2 = false ∧ parseFieldDescriptor (dTX (dcls kd) k).2.2.1 = some (if dfz (dcls kd) k then .boolean else .int) := by decide +kernel
theorem dref_none {κ : DKey} {k : Nat} (h : dref κ k = none) : drefT κ.1 k = none := by
  obtain ⟨kd, i, j⟩ := κ
  unfold dref at h
  dsimp only at h ⊢
  split at h
  · assumption
  · split at h <;> cases h
section DST
variable {p : Program} {l : Launch} {e : Env} {R : Room} {s : State} {m : MethodId} {args : Array Value} {below : List Frame} {meth : Method} {c : Code} {H : Heap} {locs : List Loc} {cells slots : Nat} {Q : State → Prop}
variable {cc : ByteArray} {pc : Nat} {ls : Array Slot} {rest : List Value} {Ts : List Cond} {o idx ci k : Nat} {κ : DKey}
variable {D : va_G} {ad : DKey → Nat} {ca : Nat → ClassId} {fm : Value} {xs : Nat → Int32} {SL : Nat} {A : Nat → Prop} {h : DH}
theorem do_P (hS : dSim D ad ca xs SL h H) (hκ : okK ad κ = true) : va_P D dclasses [(ad κ, dent ad ca κ (h.1 κ) (h.2 κ))] H := by
  intro k q hk
  cases k with
  | zero => cases hk; exact hS.1 κ hκ
  | succ k => cases hk
theorem dent_obj (hc : dcls κ.1 = ci) (hci : ci < 6) (f : Nat → Int32) (g : Nat → Nat) : dent ad ca κ f g = .inr (ci, dfields ad κ f) := by
  unfold dent
  rw [dcls_arr (by omega), hc]
theorem dent_int {n t : Nat} (ha : darr κ = some (t, n)) (ht : t = 0 ∨ t = 4 ∨ t = 5) (f : Nat → Int32) (g : Nat → Nat) : dent ad ca κ f g = .inl (ca t, n, .inl f) := by
  unfold dent
  rw [ha]
  dsimp only
  rw [if_neg (by omega)]
theorem dent_ref {n t : Nat} (ha : darr κ = some (t, n)) (ht : t = 1 ∨ t = 2 ∨ t = 3) (f : Nat → Int32) (g : Nat → Nat) : dent ad ca κ f g = .inl (ca t, n, .inr (.inr (.inr (.inr (fun j => (drk κ (g j) j).map ad))))) := by
  unfold dent
  rw [ha]
  dsimp only
  rw [if_pos ht]
theorem do_get (hx : p.tables.exec = Jvm.exec) (hb : c.code = cc) (hts : ∀ w ∈ Ts, w.before args s = true) (hG : GoodIn Ts dWd) (hown : s.vm.findClass (don o) = some m.cls) (hE : dEnv D ad ca fm xs SL A s) (hS : dSim D ad ca xs SL h H) (hκ : okK ad κ = true) (hc : dcls κ.1 = ci) (hci : ci < 6) (hk : k < dnf ci)
    (hl : (Cond.fieldLink (don o) idx (dTX ci k).1 (dTX ci k).2.1 (dTX ci k).2.2.1) ∈ dWd) {w : DV} (hw : dgetf ci k κ h = some w) (hdg : decode cc pc = .ok (.getfield idx, 3))
    (kk : W p l e R s m args below meth c H locs cells slots Q (F0 m (pc + 3) ls (dval ad fm w :: rest))) : W p l e R s m args below meth c H locs cells slots Q (F0 m pc ls (.ref (ad κ) :: rest)) := by
  have hP := do_P hS hκ
  rw [dent_obj hc hci] at hP
  refine va_get (D := D) (ci := ci) (v := dval ad fm w) (C := don ci) (T := dTX ci) (N := dnf ci) hx hb hts (fun w hw => (hG w (duw hci w hw)).1) hown hE.1 hP 0 rfl (dcl_at hci) k hk (hts _ (hG _ hl).1) (fun _ h9 => h9) ?_ hdg kk
  rw [dfields_at _ (by rw [hc]; exact hk)]
  unfold dgetf at hw
  rw [hc, show Nat.beq ci ci = true from Nat.beq_refl ci] at hw
  dsimp only [cond] at hw
  cases hr : dref κ k with
  | some z =>
    rw [hr] at hw
    cases hw
    rw [← dref_null (fm := fm) hr]
  | none =>
    rw [hr] at hw
    cases hw
    rfl
theorem do_put (hx : p.tables.exec = Jvm.exec) (hb : c.code = cc) (hts : ∀ w ∈ Ts, w.before args s = true) (hG : GoodIn Ts dWd) (hown : s.vm.findClass (don o) = some m.cls) (hE : dEnv D ad ca fm xs SL A s) (hA : ∀ κ, okK ad κ = true → A (ad κ)) (hi : dInj ad) (hS : dSim D ad ca xs SL h H) (hS0 : va_S A s.heap H locs) (hκ : okK ad κ = true) (hc : dputf ci k κ = true) (hci : ci < 6) (hk : k < dnf ci)
    (hl : (Cond.fieldLink (don o) idx (dTX ci k).1 (dTX ci k).2.1 (dTX ci k).2.2.1) ∈ dWd) {x : Int32} (hz : dfz ci k = true → x = 0 ∨ x = 1) (hdg : decode cc pc = .ok (.putfield idx, 3))
    (kk : ∀ (H1 : Heap) (locs1 : List Loc), dSim D ad ca xs SL (up1 h κ k x) H1 → va_S A s.heap H1 locs1 → W p l e R s m args below meth c H1 locs1 cells slots Q (F0 m (pc + 3) ls rest)) : W p l e R s m args below meth c H locs cells slots Q (F0 m pc ls (.int x :: .ref (ad κ) :: rest)) := by
  simp only [dputf, Bool.and_eq_true] at hc
  obtain ⟨⟨hc1, hc2⟩, hc3⟩ := hc
  have hc : dcls κ.1 = ci := Nat.eq_of_beq_eq_true hc1
  have hr : dref κ k = none := by
    cases hr : dref κ k with
    | none => rfl
    | some w => rw [hr] at hc3; cases hc3
  have hP := do_P hS hκ
  rw [dent_obj hc hci] at hP
  have hcl := dcl_at hci
  have hin : ∀ w ∈ u_ws (don ci) (dTX ci) (dnf ci), w ∈ Ts := fun w hw => (hG w (duw hci w hw)).1
  have hfo := dfin_ok κ.1 (by have := okK_lt hκ; omega) (by rw [hc]; exact hci) k (by rw [hc]; exact hk) (dref_none hr)
  rw [hc] at hfo
  obtain ⟨hfin, hd⟩ := hfo
  have hn : narrow (if dfz ci k then FieldType.boolean else FieldType.int) (.int x) = .int x ∧ fits (if dfz ci k then FieldType.boolean else FieldType.int) (.int x) = true := by
    cases hzz : dfz ci k with
    | true => rcases hz hzz with rfl | rfl <;> exact ⟨rfl, rfl⟩
    | false => exact ⟨rfl, rfl⟩
  have hap := va_apart (own := don o) hts hin (dTY ci) (dty_ok ci hci) (dnm_ok ci hci) hE.1 hcl
  obtain ⟨r, h1, cell, q1, q2, q3, q4⟩ := hP 0 _ rfl
  have hr2 : r = (don ci, dTX ci, dnf ci) := Option.some.inj (h1.symm.trans hcl)
  subst hr2
  obtain ⟨hSl, hfc, kC, hkC, hkind⟩ := hE.1.1 ci _ hcl
  obtain ⟨cf, kf, fi, f, hif, hsl⟩ := hSl k hk
  have hlay := hts _ (hin _ (u_in_lay hk))
  unfold u_lay at hlay
  rw [if_neg (by rw [hfin]; decide)] at hlay
  have hst := (u_facts hfc hkC (u_lays hts hin hk) hif).1
  have h6 := u_store hfc hkC hkind hlay hif hd hn.1 hn.2
  have hlen : k < (dfields ad κ (h.1 κ)).length := by simp [dfields, hc, hk]
  refine W.putK hx hb (f := f) ⟨hown, hts _ (hG _ hl).1, ⟨_, _, _, hif⟩, hst⟩ (by rw [q2]; exact h6) q1 q3 (by rw [hsl]; exact k2_hasslot (q4 k hk)) rfl rfl hdg fun H' e1 e2 e3 => ?_
  rw [hsl] at e1 ⊢
  have hat : va_at D dclasses (ad κ, .inr (ci, (dfields ad κ (h.1 κ)).set k (.int x))) H' := ⟨_, hcl, t_OB.to (V := updV (vp_V (dfields ad κ (h.1 κ))) k (.int x)) ⟨_, e1, q2, q3, t_set q4 hap hk (.int x)⟩ (fun j _ => vp_updV_set hlen (.int x) j)⟩
  rw [dfields_set _ _ (by rw [hc]; exact hk) hr, ← dent_obj (ca := ca) hc hci _ (h.2 κ)] at hat
  exact kk H' _ (hS.up1 hi hκ hat e3) (hS0.put e2 e3 (hA κ hκ))
theorem dty_at {t : Nat} (ht : t < 5) : ∃ ty, (dtys ca)[t]? = some (ca t, ty) ∧ ty = (match t with | 0 => .int | 1 => .object "DiskDrawer$Disk" | 2 => .object "DiskDrawer$Read" | 3 => .object "DiskDrawer$State" | _ => .char) := by
  match t, ht with
  | 0, _ => exact ⟨_, rfl, rfl⟩
  | 1, _ => exact ⟨_, rfl, rfl⟩
  | 2, _ => exact ⟨_, rfl, rfl⟩
  | 3, _ => exact ⟨_, rfl, rfl⟩
  | 4, _ => exact ⟨_, rfl, rfl⟩
theorem do_iald (hx : p.tables.exec = Jvm.exec) (hb : c.code = cc) (hE : dEnv D ad ca fm xs SL A s) (hS : dSim D ad ca xs SL h H) (hκ : okK ad κ = true) {n : Nat} (ha : darr κ = some (0, n)) {i : Int32} (hin : vp_in i n) (hdg : decode cc pc = .ok (.iaload, 1))
    (kk : W p l e R s m args below meth c H locs cells slots Q (F0 m (pc + 1) ls (.int (h.1 κ i.toNatClampNeg) :: rest))) : W p l e R s m args below meth c H locs cells slots Q (F0 m pc ls (.int i :: .ref (ad κ) :: rest)) := by
  have hP := do_P hS hκ
  rw [dent_int ha (Or.inl rfl)] at hP
  exact va_iald hx hb hE.1 hP 0 0 rfl rfl hin hdg kk
theorem do_arr {n t : Nat} (ha : darr κ = some (t, n)) (ht : t = 0 ∨ t = 4 ∨ t = 5) (hS : dSim D ad ca xs SL h H) (hκ : okK ad κ = true) : H[ad κ]? = some (arrV (ca t) n (fun j => .int (h.1 κ j))) := by
  have := hS.1 κ hκ
  rw [dent_int ha ht] at this
  exact this
theorem do_iast (hx : p.tables.exec = Jvm.exec) (hb : c.code = cc) (hE : dEnv D ad ca fm xs SL A s) (hA : ∀ κ, okK ad κ = true → A (ad κ)) (hi : dInj ad) (hS : dSim D ad ca xs SL h H) (hS0 : va_S A s.heap H locs) (hκ : okK ad κ = true) {n : Nat} (ha : darr κ = some (0, n)) {i x : Int32} (hin : vp_in i n) (hdg : decode cc pc = .ok (.iastore, 1))
    (kk : ∀ (H1 : Heap) (locs1 : List Loc), dSim D ad ca xs SL (up1 h κ i.toNatClampNeg x) H1 → va_S A s.heap H1 locs1 → W p l e R s m args below meth c H1 locs1 cells slots Q (F0 m (pc + 1) ls rest)) : W p l e R s m args below meth c H locs cells slots Q (F0 m pc ls (.int x :: .int i :: .ref (ad κ) :: rest)) := by
  have hty := (hE.1.2 0 (ca 0, .int) rfl).1
  refine W.iast hx hb (do_arr ha (Or.inl rfl) hS hκ) (hty n (fun j => .int (h.1 κ j))) (fun q => by cases q) (by show ¬ (i < 0 ∨ (arrV _ _ _).slots.size ≤ _); rw [arrV_size]; exact hin) rfl rfl hdg fun H1 e z oq => ?_
  refine kk H1 _ (hS.up1 hi hκ ?_ oq) (hS0.put z oq (hA κ hκ))
  rw [dent_int ha (Or.inl rfl)]
  show H1[ad κ]? = some (vp_cell _ _)
  rw [e, vp_cell_i, arrV_store]
  congr 2
  funext q
  by_cases hq : q = i.toNatClampNeg <;> simp [updV, upd, hq]
theorem darr_ref {κ : DKey} {t n : Nat} (ha : darr κ = some (t, n)) (ht : t = 1 ∨ t = 2 ∨ t = 3) (p j : Nat) : ∃ w, drk κ p j = some w := by
  unfold darr at ha
  split at ha <;> first | (cases ha; exact ⟨_, rfl⟩) | (cases ha; omega) | cases ha
theorem do_aald (hx : p.tables.exec = Jvm.exec) (hb : c.code = cc) (hE : dEnv D ad ca fm xs SL A s) (hS : dSim D ad ca xs SL h H) (hκ : okK ad κ = true) {n t : Nat} (ha : darr κ = some (t, n)) {i : Int32} (hin : vp_in i n) {w : DKey} (hw : drk κ (h.2 κ i.toNatClampNeg) i.toNatClampNeg = some w) (hdg : decode cc pc = .ok (.aaload, 1))
    (kk : okK ad w = true → W p l e R s m args below meth c H locs cells slots Q (F0 m (pc + 1) ls (.ref (ad w) :: rest))) : W p l e R s m args below meth c H locs cells slots Q (F0 m pc ls (.int i :: .ref (ad κ) :: rest)) := by
  have hlt : i.toNatClampNeg < n := Nat.not_le.mp fun q => hin (Or.inr q)
  have hP := do_P hS hκ
  have ht : (t = 1 ∨ t = 2 ∨ t = 3) ∧ okK ad w = true := by
    obtain ⟨kd, i0, j0⟩ := κ
    unfold drk at hw
    split at hw
    · rename_i e
      cases e
      cases ha
      cases hw
      simp only [okK, Bool.and_eq_true, decide_eq_true_eq] at hκ
      exact ⟨by decide, by simp only [okK, Bool.and_eq_true, decide_eq_true_eq]; exact ⟨hκ.1, hlt⟩⟩
    · rename_i e
      cases e
      cases ha
      cases hw
      simp only [okK, Bool.and_eq_true, decide_eq_true_eq] at hκ
      obtain ⟨h1, rfl⟩ := hκ
      exact ⟨by decide, by simp only [okK, Bool.and_eq_true, decide_eq_true_eq]; exact ⟨h1, hS.2.1 _ _ h1 hlt⟩⟩
    · rename_i e
      cases e
      cases ha
      cases hw
      simp only [okK, Bool.and_eq_true, decide_eq_true_eq] at hκ
      obtain ⟨⟨⟨h1, h2⟩, rfl⟩, rfl⟩ := hκ
      exact ⟨by decide, by simp only [okK, Bool.and_eq_true, decide_eq_true_eq]; exact ⟨hS.2.2.1 _ hlt, trivial⟩⟩
    · cases hw
  obtain ⟨ht, hok⟩ := ht
  rw [dent_ref ha ht] at hP
  have hfi : (drk κ (h.2 κ i.toNatClampNeg) i.toNatClampNeg).map ad = some (ad w) := by rw [hw]; rfl
  have key : ∀ C, (dtys ca)[t]? = some (ca t, .object C) → W p l e R s m args below meth c H locs cells slots Q (F0 m pc ls (.int i :: .ref (ad κ) :: rest)) := fun C hC =>
    va_aldq hx hb hE.1 hP 0 t rfl hC hin hdg (by
      rw [hfi]
      exact kk hok)
  rcases ht with rfl | rfl | rfl
  · exact key _ rfl
  · exact key _ rfl
  · exact key _ rfl
theorem do_aast (hx : p.tables.exec = Jvm.exec) (hb : c.code = cc) (hE : dEnv D ad ca fm xs SL A s) (hA : ∀ κ, okK ad κ = true → A (ad κ)) (hi : dInj ad) (hS : dSim D ad ca xs SL h H) (hS0 : va_S A s.heap H locs) (hκ : okK ad κ = true) {n t x : Nat} {w : DKey} (ha : darr κ = some (t, n)) (ht : t = 1 ∨ t = 2 ∨ t = 3) (hC : (dtys ca)[t]? = some (ca t, .object (don ci))) (hci : ci < 6) (hwc : dcls w.1 = ci) (hwk : okK ad w = true) {i : Int32} (hin : vp_in i n) (hd : drk κ x i.toNatClampNeg = some w) (hr : (κ.1 = 3 ∧ x < 30) ∨ (κ.1 = 8 ∧ x < 8)) (hdg : decode cc pc = .ok (.aastore, 1))
    (kk : ∀ (H1 : Heap) (locs1 : List Loc), dSim D ad ca xs SL (up2 h κ i.toNatClampNeg x) H1 → va_S A s.heap H1 locs1 → W p l e R s m args below meth c H1 locs1 cells slots Q (F0 m (pc + 1) ls rest)) : W p l e R s m args below meth c H locs cells slots Q (F0 m pc ls (.ref (ad w) :: .int i :: .ref (ad κ) :: rest)) := by
  have hlt : i.toNatClampNeg < n := Nat.not_le.mp fun q => hin (Or.inr q)
  have h0 : ¬ i < 0 := fun q => hin (Or.inl q)
  have hcell := hS.1 κ hκ
  rw [dent_ref ha ht] at hcell
  have hv := hS.1 w hwk
  rw [dent_obj hwc hci] at hv
  obtain ⟨r', hr', cellV, g1, g2, g3, -⟩ := hv
  have hcls := (hE.1.1 ci _ (dcl_at hci)).2
  obtain ⟨kA, comp, k1, k2, k3, -⟩ := (hE.1.2 t _ hC).2
  have hcomp : comp = D.1 ci := Option.some.inj (k3.symm.trans hcls.1)
  subst hcomp
  obtain ⟨kC, hkC, -⟩ := hcls.2
  refine W.aast hx hb hcell (fun q h => by cases h) (fun h => by cases h) k1 k2 rfl hkC ⟨h0, by show _ < (arrV _ _ _).slots.size; rw [arrV_size]; exact hlt⟩ g1 (fun q h => by rw [g3] at h; cases h) (by rw [g2]; exact hkC) (by rw [g2]; exact va_assign hcls) rfl rfl hdg fun H1 e z oq => ?_
  refine kk H1 _ (hS.up2 hi hκ hr ?_ oq) (hS0.put z oq (hA κ hκ))
  rw [dent_ref ha ht]
  show H1[ad κ]? = some (vp_cell _ _)
  rw [e, vp_cell_q, vp_cell_q, arrV_store]
  congr 2
  funext q
  by_cases hq : q = i.toNatClampNeg
  · subst hq
    simp [updV, up2, va_rf, hd]
  · simp [updV, up2, hq]
theorem do_ret {r : DRes} {a : Array Value} {st0 : List Value} {QQ : Array Value → State → Outcome → State → Prop} (hQ : QQ = fun _ st oc t => oc = .returned (r.1.map (dval ad fm)) ∧ (∀ v, r.1 = some v → okV ad v = true) ∧ dSim D ad ca xs SL r.2 t.heap ∧ va_F (dAm ad) st t)
    (hr : va_Run p l e R s m args below meth c H locs cells slots 0 0 (F0 m pc ls st0) rest (QQ a) (dAm ad)) (hS0 : va_S A s.heap H locs) (hAm : ∀ q, dAm ad q → A q)
    (kk : ∀ (H1 : Heap) (locs1 : List Loc), (∀ v, r.1 = some v → okV ad v = true) → dSim D ad ca xs SL r.2 H1 → va_S A s.heap H1 locs1 → W p l e R s m args below meth c H1 locs1 cells slots Q (F0 m (pc + 3) ls ((r.1.map (dval ad fm)).toList ++ rest))) : W p l e R s m args below meth c H locs cells slots Q (F0 m pc ls st0) := by
  subst hQ
  intro T hT X
  obtain ⟨v, st₀, t, T', L, h0, X', hL, e1, e2, ⟨hv, hok, hsim, hz, hk⟩, st⟩ := hr T hT X
  cases hv
  rw [h0] at hz hk
  obtain ⟨t2, a1, b1⟩ := kk T'.heap (locs ++ L) hok (by rw [e1]; exact hsim)
    ⟨Nat.le_trans hS0.1 (by rw [e1]; exact hz), fun q h1 h2 => by rw [e1, hk q (Nat.lt_of_lt_of_le h1 hS0.1) (fun z => h2 (hAm q z))]; exact hS0.2.1 q h1 h2, fun q hq => by
      rcases List.mem_append.mp hq with h | h
      · exact hS0.2.2 q h
      · exact hAm _ (hL q h)⟩ T' rfl X'
  exact ⟨t2, st t2 a1, b1⟩
end DST
end
section
/-! the abstract machine is sound: what it comes to, the machine comes to -/
variable {ad : DKey → Nat}
theorem dpop_spec : ∀ (n : Nat) (st acc as rest : List DV), dpop n st acc = some (as, rest) → ∃ pre : List DV, as = pre ++ acc ∧ st = pre.reverse ++ rest ∧ pre.length = n := by
  intro n
  induction n with
  | zero =>
    intro st acc as rest h
    simp only [dpop, Option.some.injEq, Prod.mk.injEq] at h
    exact ⟨[], by simp [h.1], by simp [h.2], rfl⟩
  | succ n ih =>
    intro st acc as rest h
    cases st with
    | nil => simp [dpop] at h
    | cons v st =>
      obtain ⟨pre, h1, h2, h3⟩ := ih st (v :: acc) as rest h
      exact ⟨pre ++ [v], by simp [h1], by simp [h2], by simp [h3]⟩
theorem dchk_at {o : Nat} {rt : Option FieldType} {c : ByteArray} {T : DTbl} (h : dchk o rt c T = true) {pc : Nat} {q : DOp} (hq : dop T pc = some q) : ∃ i len, decode c pc = .ok (i, len) ∧ denc o rt pc i len = some q := by
  have hq' : T.getD pc none = some q := hq
  have hl : pc < T.length := by
    rcases Nat.lt_or_ge pc T.length with h | h
    · exact h
    · rw [List.getD_eq_getElem?_getD, List.getElem?_eq_none h] at hq'
      cases hq'
  have h1 := List.all_eq_true.mp h pc (List.mem_range.mpr hl)
  rw [hq'] at h1
  dsimp only at h1
  cases hd : decode c pc with
  | error e => rw [hd] at h1; cases h1
  | ok z =>
    obtain ⟨i, len⟩ := z
    rw [hd] at h1
    dsimp only at h1
    cases he : denc o rt pc i len with
    | none => rw [he] at h1; cases h1
    | some q' =>
      rw [he] at h1
      exact ⟨i, len, rfl, by rw [he, deq_eq h1]⟩
theorem dchk2_at {T : DTbl} {n pc : Nat} (h : dchk2 T n = true) {k a b nx : Nat} {v : Int32} {ts : List Nat} (hq : dop T pc = some (k, a, b, nx, v, ts)) (hk : k = 3 ∨ k = 4 ∨ k = 25) : a < n := by
  have hq' : T.getD pc none = some (k, a, b, nx, v, ts) := hq
  have hm : some (k, a, b, nx, v, ts) ∈ T := by
    rw [List.getD_eq_getElem?_getD] at hq'
    cases hz : T[pc]? with
    | none => rw [hz] at hq'; cases hq'
    | some y =>
      rw [hz] at hq'
      have : y = some (k, a, b, nx, v, ts) := hq'
      rw [← this]
      exact List.mem_of_getElem? hz
  have h1 := List.all_eq_true.mp h _ hm
  rcases hk with rfl | rfl | rfl <;> exact of_decide_eq_true h1
theorem dfld_ok {o x ci k : Nat} (h : dfld o x = some (ci, k)) : ci < 6 ∧ k < dnf ci ∧ Cond.fieldLink (don o) x (dTX ci k).1 (dTX ci k).2.1 (dTX ci k).2.2.1 ∈ dWd := by
  unfold dfld at h
  cases hf : dfl.find? (fun e => Nat.beq e.1 o && Nat.beq e.2.1 x) with
  | none => rw [hf] at h; cases h
  | some e =>
    rw [hf] at h
    have h1 := List.find?_some hf
    have h2 := List.mem_of_find?_eq_some hf
    have h3 := List.all_eq_true.mp dfl_ok e h2
    obtain ⟨e1, e2, e3, e4, e5⟩ := e
    simp only [Option.map_some, Option.some.injEq, Prod.mk.injEq] at h
    obtain ⟨rfl, rfl⟩ := h
    simp only [Bool.and_eq_true] at h1
    have ho : e1 = o := Nat.eq_of_beq_eq_true h1.1
    have hx : e2 = x := Nat.eq_of_beq_eq_true h1.2
    subst ho
    subst hx
    simp only [dflOK, Bool.and_eq_true, decide_eq_true_eq] at h3
    obtain ⟨⟨h3, h4⟩, h5⟩ := h3
    exact ⟨h5, h4, dWd_of h3 rfl⟩
theorem dcal_ok {o x mid n kd : Nat} (h : dcal o x = some (mid, n, kd)) : ∃ q : DM, dms[mid]? = some q ∧ (q.1.cls ≠ "java/lang/invoke/MethodHandle" ∧ q.1.cls ≠ "java/lang/invoke/VarHandle" ∧ (parseMethodDescriptor q.1.desc).map (fun d => d.parameters.length) = some n) ∧ Cond.initialized q.1.cls ∈ dWd ∧ Cond.code q.1 q.2.1 q.2.2.1 q.2.2.2.1 ∈ dWd ∧
    (kd = 0 → Cond.methodLink (don o) x q.1 ∈ dWd ∧ Cond.instanceMethod q.1 ∈ dWd ∧ Cond.selects q.1.cls q.1 q.1 ∈ dWd) ∧ (kd = 1 → Cond.methodLink (don o) x q.1 ∈ dWd ∧ Cond.static q.1 ∈ dWd) ∧ (kd ≠ 0 → kd ≠ 1 → Cond.methodLinkNest (don o) x q.1 "DiskDrawer" ∈ dNest ∧ Cond.static q.1 ∈ dWd) := by
  unfold dcal at h
  cases hf : dcl.find? (fun e => Nat.beq e.1 o && Nat.beq e.2.1 x) with
  | none => rw [hf] at h; cases h
  | some e =>
    rw [hf] at h
    have h1 := List.find?_some hf
    have h2 := List.mem_of_find?_eq_some hf
    have h3 := dcl_ok e h2
    obtain ⟨e1, e2, e3, e4, e5, p0, p1, p2, p3, p4⟩ := e
    simp only [Option.map_some, Option.some.injEq, Prod.mk.injEq] at h
    obtain ⟨rfl, rfl, rfl⟩ := h
    simp only [Bool.and_eq_true] at h1
    have ho : e1 = o := Nat.eq_of_beq_eq_true h1.1
    have hx : e2 = x := Nat.eq_of_beq_eq_true h1.2
    subst ho
    subst hx
    unfold dclOK at h3
    dsimp only at h3
    cases hq : dms[e3]? with
    | none => rw [hq] at h3; cases h3
    | some q =>
      rw [hq] at h3
      dsimp only at h3
      rw [Bool.and_eq_true, Bool.and_eq_true, Bool.and_eq_true] at h3
      obtain ⟨⟨⟨g1, g2⟩, g3⟩, g4⟩ := h3
      refine ⟨q, rfl, of_decide_eq_true g1, dWd_of (of_decide_eq_true g2) rfl, dWd_of (of_decide_eq_true g3) rfl, ?_, ?_, ?_⟩
      · rintro rfl
        simp only [Bool.and_eq_true, decide_eq_true_eq] at g4
        exact ⟨dWd_of g4.1.1 rfl, dWd_of g4.1.2 rfl, dWd_of g4.2 rfl⟩
      · rintro rfl
        simp only [Bool.and_eq_true, decide_eq_true_eq] at g4
        exact ⟨dWd_of g4.1 rfl, dWd_of g4.2 rfl⟩
      · intro z0 z1
        split at g4
        · exact absurd rfl z0
        · exact absurd rfl z1
        · rw [Bool.and_eq_true] at g4
          exact ⟨List.mem_filter.mpr ⟨List.mem_of_getElem? (of_decide_eq_true g4.1), rfl⟩, dWd_of (of_decide_eq_true g4.2) rfl⟩
theorem dno99 : dms.all (fun q => decide (q.2.2.2.2.1 ≠ 99)) = true := by decide +kernel
def drm (d : Nat) : Room := { frames := d, cells := 0, slots := 0, locals := 40 * d }
def dPre (D : va_G) (ad : DKey → Nat) (ca : Nat → ClassId) (fm : Value) (xs : Nat → Int32) (SL : Nat) (as : List DV) (h : DH) : Array Value → State → Prop := va_Pc (as.map (dval ad fm)) (fun U => (∀ v ∈ as, okV ad v = true) ∧ dEnv D ad ca fm xs SL (dAm ad) U ∧ dSim D ad ca xs SL h U.heap)
def dPost (D : va_G) (ad : DKey → Nat) (ca : Nat → ClassId) (fm : Value) (xs : Nat → Int32) (SL : Nat) (r : DRes) : Array Value → State → Outcome → State → Prop := fun _ st oc t => oc = .returned (r.1.map (dval ad fm)) ∧ (∀ v, r.1 = some v → okV ad v = true) ∧ dSim D ad ca xs SL r.2 t.heap ∧ va_F (dAm ad) st t
def dMet (l : Launch) (D : va_G) (ad : DKey → Nat) (ca : Nat → ClassId) (fm : Value) (xs : Nat → Int32) (SL : Nat) (d : Nat) (q : DM) (as : List DV) (h : DH) (r : DRes) : Prop := Met l q.1 (Cond.code q.1 q.2.1 q.2.2.1 q.2.2.2.1 :: dWd) (drm d) (dPre D ad ca fm xs SL as h) (dPost D ad ca fm xs SL r) 0 0 (dAm ad)
theorem dPre_blind {D : va_G} {ad : DKey → Nat} {ca : Nat → ClassId} {fm : Value} {xs : Nat → Int32} {SL : Nat} {as : List DV} {h : DH} : FrameBlind (dPre D ad ca fm xs SL as h) := fun _ U _ _ q => ⟨q.1, q.2.1, dEnv.same (u := U) rfl rfl q.2.2.1, q.2.2.2⟩
section DCAL
variable {p : Program} {l : Launch} {e : Env} {R : Room} {s : State} {m : MethodId} {args : Array Value} {below : List Frame} {meth : Method} {c : Code} {H : Heap} {locs : List Loc} {cells slots : Nat} {Q : State → Prop}
variable {cc : ByteArray} {pc : Nat} {ls : Array Slot} {Ts : List Cond} {o x nL d mid n : Nat}
variable {D : va_G} {ad : DKey → Nat} {ca : Nat → ClassId} {fm : Value} {xs : Nat → Int32} {SL : Nat} {A : Nat → Prop} {h : DH} {r : DRes}
theorem dEnv_at (hE : dEnv D ad ca fm xs SL A s) (hAm : ∀ q, dAm ad q → A q) (hS0 : va_S A s.heap H locs) {U : State} (hU : U.heap = H) (hW : s.WarmedH U.vm) : dEnv D ad ca fm xs SL (dAm ad) U :=
  (dEnv.warm hW (by rw [hU]; exact hS0.1) (fun a h1 h2 => by rw [hU]; exact hS0.2.1 a h1 h2) hE).narrow hAm
theorem dcat_rest (hf : dFm fm) (rest : List DV) (hl : rest.length ≤ 8) : ((rest.map (dval ad fm)).map fun v => v.category).sum ≤ 8 := by
  have : ∀ L : List DV, ((L.map (dval ad fm)).map fun v => v.category).sum = L.length := by
    intro L
    induction L with
    | nil => rfl
    | cons v L ih => simp only [List.map_cons, List.sum_cons, List.length_cons, ih, dval_cat hf]; omega
  rw [this]
  exact hl
theorem dGoodTs (hG : GoodIn Ts dWd) {w : Cond} (hw : w ∈ dWd) : GoodIn Ts (w :: dWd) := fun z hz => by
  rcases List.mem_cons.mp hz with rfl | hz
  · exact hG _ hw
  · exact hG _ hz
theorem do_callv (hx : p.tables.exec = Jvm.exec) (hb : c.code = cc) (hml : c.maxLocals = nL) (hown : s.vm.findClass (don o) = some m.cls) (hts : ∀ w ∈ Ts, w.before args s = true) (hG : GoodIn Ts dWd) (hE : dEnv D ad ca fm xs SL A s) (hAm : ∀ q, dAm ad q → A q) (hf : dFm fm) (hls : ls.size = nL) (hS : dSim D ad ca xs SL h H) (hS0 : va_S A s.heap H locs)
    (hR : d + 1 ≤ R.frames ∧ 40 * d + 40 ≤ R.locals ∧ cells ≤ R.cells ∧ slots ≤ R.slots) {q : DM} {κ : DKey} {as rest st : List DV} (hq : dms[mid]? = some q) (hM : dMet l D ad ca fm xs SL d q (.inr κ :: as) h r) (hc : dcal o x = some (mid, n, 0)) (hp : dpop (n + 1) st [] = some (.inr κ :: as, rest)) (hci : dcls κ.1 = q.2.2.2.2.1) (hlen : rest.length ≤ 8) (hokas : ∀ v ∈ (Sum.inr κ :: as : List DV), okV ad v = true) (hdg : decode cc pc = .ok (.invokevirtual x, 3))
    (kk : ∀ (H1 : Heap) (locs1 : List Loc), (∀ v, r.1 = some v → okV ad v = true) → dSim D ad ca xs SL r.2 H1 → va_S A s.heap H1 locs1 → W p l e R s m args below meth c H1 locs1 cells slots Q (F0 m (pc + 3) ls ((r.1.map (dval ad fm)).toList ++ rest.map (dval ad fm)))) : W p l e R s m args below meth c H locs cells slots Q (F0 m pc ls (st.map (dval ad fm))) := by
  obtain ⟨q', hq', hd, hini, hcode, hv, -, -⟩ := dcal_ok hc
  cases hq.symm.trans hq'
  obtain ⟨hlk, hin, hse⟩ := hv rfl
  have hgood := dgs q (List.mem_of_getElem? hq)
  obtain ⟨-, ⟨hmax, -⟩, hcls, -⟩ := hgood
  obtain ⟨pre, h1, h2, h3⟩ := dpop_spec _ _ _ _ _ hp
  rw [List.append_nil] at h1
  subst h1
  have ok : ∀ {w : Cond}, w ∈ dWd → w.before args s = true := fun hw => hts _ (hG _ hw).1
  have hne : dcls κ.1 ≠ 99 := by
    intro z
    rw [z] at hci
    have := List.all_eq_true.mp dno99 q (List.mem_of_getElem? hq)
    rw [← hci] at this
    exact absurd this (by decide)
  have hκ33 : κ.1 ≠ 33 := fun z => hne (by rw [z]; rfl)
  have hok : okK ad κ = true := by
    have := hokas _ List.mem_cons_self
    obtain ⟨kd, w, j⟩ := κ
    simp only [okV, Bool.or_eq_true] at this
    rcases this with h | h
    · exact h
    · exfalso
      have h31 : kd = 32 ∨ kd = 34 := by
        simp only [Bool.and_eq_true, Bool.or_eq_true, decide_eq_true_eq] at h
        omega
      exact hne (by rcases h31 with rfl | rfl <;> rfl)
  have h7 : dcls κ.1 < 6 := by
    unfold dcls at hne ⊢
    split at hne <;> first | decide | exact absurd rfl hne
  have hrecv : ∃ cell : Cell, H[ad κ]? = some cell ∧ cell.vm.isStatics = false ∧ s.vm.findClass q.1.cls = some cell.cls := by
    have hP := do_P hS hok
    rw [dent_obj rfl h7] at hP
    have := va_recv hE.1 hP (dcl_at h7) (q0 := 0) rfl
    rw [hcls, ← hci]
    exact this
  have hvl : dval ad fm (.inr κ) = .ref (ad κ) := dval_ok hκ33
  refine do_ret (QQ := dPost D ad ca fm xs SL r) rfl (va_runV (As := as.map (dval ad fm)) (rest := rest.map (dval ad fm)) (own := don o) (C := q.1.cls) (b := ad κ) (nL := nL) (n := n) (ws := Cond.code q.1 q.2.1 q.2.2.1 q.2.2.2.1 :: dWd) (rm := drm d) (Qc := dPost D ad ca fm xs SL r) ⟨hx, hb, hml, hown, hts⟩ hM ⟨callB_of (ws' := dWd) n hts (dGoodTs hG hcode) rfl rfl rfl (ok hini) (ok hlk) hd ⟨hR.1, ?_⟩, ok hin, ok hse⟩ ⟨dPre_blind, hrecv, fun U hU hW => ⟨?_, hokas, dEnv_at hE hAm hS0 hU hW, by rw [hU]; exact hS⟩⟩ rfl ?_ hls ?_ ?_ hdg ⟨by omega, by omega⟩) hS0 hAm kk
  · show 8 + (q.2.2.1 + 11) + 40 * d ≤ R.locals
    have := hR.2.1
    omega
  · simp [hvl]
  · have : as.length + 1 = n + 1 := by simpa using h3
    simp; omega
  · show st.map (dval ad fm) = _
    rw [h2]
    simp [hvl]
  · show 2 * 0 + _ ≤ 8
    have := dcat_rest (ad := ad) hf rest hlen
    omega
theorem do_calls (hx : p.tables.exec = Jvm.exec) (hb : c.code = cc) (hml : c.maxLocals = nL) (hown : s.vm.findClass (don o) = some m.cls) (hts : ∀ w ∈ Ts, w.before args s = true) (hG : GoodIn Ts dWd) (hE : dEnv D ad ca fm xs SL A s) (hAm : ∀ q, dAm ad q → A q) (hf : dFm fm) (hls : ls.size = nL) (hS : dSim D ad ca xs SL h H) (hS0 : va_S A s.heap H locs)
    (hR : d + 1 ≤ R.frames ∧ 40 * d + 40 ≤ R.locals ∧ cells ≤ R.cells ∧ slots ≤ R.slots) {q : DM} {kd : Nat} {as rest st : List DV} (hq : dms[mid]? = some q) (hM : dMet l D ad ca fm xs SL d q as h r) (hc : dcal o x = some (mid, n, kd)) (hkd : kd ≠ 0) (hp : dpop n st [] = some (as, rest)) (hlen : rest.length ≤ 8) (hokas : ∀ v ∈ as, okV ad v = true) (hdg : decode cc pc = .ok (.invokestatic x, 3))
    (kk : ∀ (H1 : Heap) (locs1 : List Loc), (∀ v, r.1 = some v → okV ad v = true) → dSim D ad ca xs SL r.2 H1 → va_S A s.heap H1 locs1 → W p l e R s m args below meth c H1 locs1 cells slots Q (F0 m (pc + 3) ls ((r.1.map (dval ad fm)).toList ++ rest.map (dval ad fm)))) : W p l e R s m args below meth c H locs cells slots Q (F0 m pc ls (st.map (dval ad fm))) := by
  obtain ⟨q', hq', hd, hini, hcode, -, hs1, hs2⟩ := dcal_ok hc
  cases hq.symm.trans hq'
  obtain ⟨-, ⟨hmax, -⟩, hcls, -⟩ := dgs q (List.mem_of_getElem? hq)
  obtain ⟨pre, h1, h2, h3⟩ := dpop_spec _ _ _ _ _ hp
  rw [List.append_nil] at h1
  subst h1
  have ok : ∀ {w : Cond}, w ∈ dWd → w.before args s = true := fun hw => hts _ (hG _ hw).1
  have hloc : 8 + (q.2.2.1 + 11) + 40 * d ≤ R.locals := by
    have := hR.2.1
    omega
  have hpre : PreS s H (dPre D ad ca fm xs SL as h) (as.map (dval ad fm)) := ⟨dPre_blind, fun U hU hW => ⟨rfl, hokas, dEnv_at hE hAm hS0 hU hW, by rw [hU]; exact hS⟩⟩
  have hst : st.map (dval ad fm) = (as.map (dval ad fm)).reverse ++ rest.map (dval ad fm) := by
    rw [h2]
    simp
  have hroom : 2 * (F0 m pc ls (st.map (dval ad fm))).monitorRoom + ((rest.map (dval ad fm)).map fun v => v.category).sum ≤ 8 := by
    show 2 * 0 + _ ≤ 8
    have := dcat_rest (ad := ad) hf rest hlen
    omega
  by_cases h1 : kd = 1
  · obtain ⟨hlk, hstt⟩ := hs1 h1
    exact do_ret (QQ := dPost D ad ca fm xs SL r) rfl (va_runS (As := as.map (dval ad fm)) (rest := rest.map (dval ad fm)) (own := don o) (nL := nL) (n := n) (ws := Cond.code q.1 q.2.1 q.2.2.1 q.2.2.2.1 :: dWd) (rm := drm d) (Qc := dPost D ad ca fm xs SL r) ⟨hx, hb, hml, hown, hts⟩ hM ⟨callB_of (ws' := dWd) n hts (dGoodTs hG hcode) rfl rfl rfl (ok hini) (ok hlk) hd ⟨hR.1, hloc⟩, ok hstt⟩ hpre rfl (by simpa using h3) hls hst hroom hdg ⟨by omega, by omega⟩) hS0 hAm kk
  · obtain ⟨hlk, hstt⟩ := hs2 hkd h1
    exact do_ret (QQ := dPost D ad ca fm xs SL r) rfl (va_runSN (As := as.map (dval ad fm)) (rest := rest.map (dval ad fm)) (own := don o) (host := "DiskDrawer") (nL := nL) (n := n) (ws := Cond.code q.1 q.2.1 q.2.2.1 q.2.2.2.1 :: dWd) (rm := drm d) (Qc := dPost D ad ca fm xs SL r) ⟨hx, hb, hml, hown, hts⟩ hM ⟨va_cnB (ws' := dWd) n hts (dGoodTs hG hcode) rfl rfl rfl (hE.2.1 _ hlk) (ok hini) hd ⟨hR.1, hloc⟩, ok hstt, trivial⟩ hpre rfl (by simpa using h3) hls hst hroom hdg ⟨by omega, by omega⟩) hS0 hAm kk
end DCAL
end
section
/-! the whole run of a table -/
variable {ad : DKey → Nat}
theorem dref_okV {κ : DKey} {k : Nat} {w : DV} (hκ : okV ad (.inr κ) = true) (h : dref κ k = some w) : okV ad w = true := by
  obtain ⟨kd, i, j⟩ := κ
  unfold dref at h
  dsimp only at h
  split at h
  · cases h
  · rename_i t m e
    unfold drefT at e
    split at e <;> cases e <;> cases h <;> first | rfl | (simp [okV, okK] at hκ ⊢; omega)
theorem dval_ref {ad : DKey → Nat} {fm : Value} (hf : dFm fm) (κ : DKey) : dval ad fm (.inr κ) = .null ∨ ∃ a, dval ad fm (.inr κ) = .ref a := by
  unfold dval
  dsimp only
  split
  · exact hf
  · exact Or.inr ⟨_, rfl⟩
theorem dtgt_ok {pc t : Nat} {off : Int} (h : dtgt pc off = some t) : (pc : Int) + off = (t : Int) := by
  unfold dtgt at h
  split at h
  · cases h; omega
  · cases h
def dOkL (ad : DKey → Nat) (L : List (Option DV)) : Prop := ∀ k v, dget L k = some v → okV ad v = true
theorem dOkL.set {L : List (Option DV)} (h : dOkL ad L) {i : Nat} {v : DV} (hi : i < L.length) (hv : okV ad v = true) : dOkL ad (dset L i v) := by
  intro k w hk
  rw [dget_set L i k v hi] at hk
  split at hk
  · cases hk; exact hv
  · exact h k w hk
theorem dok_cons {v : DV} {st : List DV} (hv : okV ad v = true) (h : ∀ w ∈ st, okV ad w = true) : ∀ w ∈ v :: st, okV ad w = true := List.forall_mem_cons.mpr ⟨hv, h⟩
theorem dtgts_len {pc : Nat} : ∀ {os : List Int} {ts : List Nat}, dtgts pc os = some ts → os.length = ts.length
  | [], ts, h => by cases h; rfl
  | o :: os, ts, h => by
    simp only [dtgts] at h
    split at h
    · rename_i t ts' e1 e2
      cases h
      simp [dtgts_len e2]
    · cases h
theorem dtgts_at {pc : Nat} : ∀ {os : List Int} {ts : List Nat}, dtgts pc os = some ts → ∀ (j : Nat) (t : Nat), ts[j]? = some t → ∃ off, os[j]? = some off ∧ (pc : Int) + off = (t : Int)
  | [], ts, h, j, t, hj => by cases h; cases hj
  | o :: os, ts, h, j, t, hj => by
    simp only [dtgts] at h
    split at h
    · rename_i t0 ts' e1 e2
      cases h
      cases j with
      | zero => cases hj; exact ⟨o, rfl, dtgt_ok e1⟩
      | succ j => exact dtgts_at e2 j t hj
    · cases h
theorem dtsw_out {d : Nat} {x : Int32} : ∀ (ts : List Nat) (lo : Nat), lo + ts.length < 2000 → (x.toInt < lo ∨ (lo : Int) + ts.length ≤ x.toInt) → dtsw d (Int32.ofNat lo) ts x = d := by
  intro ts
  induction ts with
  | nil => intro lo _ _; rfl
  | cons t ts ih =>
    intro lo hl hx
    simp only [List.length_cons] at hl hx
    have hne : ¬ x = Int32.ofNat lo := by
      intro z
      have : x.toInt = lo := by rw [z]; exact nI_toInt (n := lo) (by omega)
      omega
    show (if x = Int32.ofNat lo then t else dtsw d (Int32.ofNat lo + 1) ts x) = d
    rw [if_neg hne, show Int32.ofNat lo + 1 = Int32.ofNat (lo + 1) from nI_1 lo]
    exact ih (lo + 1) (by omega) (by omega)
theorem dtsw_in {d : Nat} {x : Int32} : ∀ (ts : List Nat) (lo : Nat), lo + ts.length < 2000 → (lo : Int) ≤ x.toInt → x.toInt < (lo : Int) + ts.length → ts[(x.toInt - lo).toNat]? = some (dtsw d (Int32.ofNat lo) ts x) := by
  intro ts
  induction ts with
  | nil => intro lo _ h1 h2; simp at h2; omega
  | cons t ts ih =>
    intro lo hl h1 h2
    simp only [List.length_cons] at hl h2
    show _ = some (if x = Int32.ofNat lo then t else dtsw d (Int32.ofNat lo + 1) ts x)
    by_cases hz : x = Int32.ofNat lo
    · have : x.toInt = lo := by rw [hz]; exact nI_toInt (n := lo) (by omega)
      rw [if_pos hz, this]
      simp
    · have hne : x.toInt ≠ lo := by
        intro z
        refine hz (Int32.toInt_inj.mp (z.trans ?_))
        exact (nI_toInt (n := lo) (by omega)).symm
      rw [if_neg hz, show Int32.ofNat lo + 1 = Int32.ofNat (lo + 1) from nI_1 lo]
      have := ih (lo + 1) (by omega) (by omega) (by omega)
      rw [show (x.toInt - (lo : Int)).toNat = (x.toInt - ((lo + 1 : Nat) : Int)).toNat + 1 from by omega, List.getElem?_cons_succ]
      exact this
theorem dofInt {n : Int} (h0 : 0 ≤ n) : Int32.ofInt n = Int32.ofNat n.toNat := by
  obtain ⟨k, rfl⟩ := Int.eq_ofNat_of_zero_le h0
  rfl
theorem denc_34 {o : Nat} {rt : Option FieldType} {pc len mid n nx ci : Nat} {v : Int32} {i : Instr} (h : denc o rt pc i len = some (34, mid, n, nx, v, [ci])) : ∃ x, (i = .invokevirtual x ∧ len = 3) ∧ nx = pc + 3 ∧ dcal o x = some (mid, n, 0) ∧ ∃ q : DM, dms[mid]? = some q ∧ q.2.2.2.2.1 = ci := by
  unfold denc at h
  split at h
  all_goals first
    | (cases h; done)
    | (split at h
       · rename_i x _ _ _ e
         split at h
         · rename_i q e2
           cases h
           exact ⟨_, ⟨rfl, rfl⟩, rfl, e, q, e2, rfl⟩
         · cases h
       · cases h)
    | (exfalso; unfold dldc at h; split at h <;> cases h)
    | (exfalso; unfold dgst at h; split at h <;> cases h)
    | (exfalso; simp only [cond] at h; repeat' split at h
       all_goals cases h)
    | (exfalso; repeat' split at h
       all_goals first | (cases h; done) | (simp only [cond] at h; split at h <;> cases h))
theorem denc_35 {o : Nat} {rt : Option FieldType} {pc len mid n nx : Nat} {v : Int32} {l : List Nat} {i : Instr} (h : denc o rt pc i len = some (35, mid, n, nx, v, l)) : ∃ x kd, (i = .invokestatic x ∧ len = 3) ∧ nx = pc + 3 ∧ dcal o x = some (mid, n, kd) ∧ kd ≠ 0 := by
  unfold denc at h
  split at h
  all_goals first
    | (cases h; done)
    | (exfalso; unfold dldc at h; split at h <;> cases h)
    | (exfalso; unfold dgst at h; split at h <;> cases h)
    | (rename_i x
       cases hmx : (Nat.beq o 0 && Nat.beq x 183) with
       | true => rw [hmx] at h; cases h
       | false =>
         rw [hmx] at h
         dsimp only [cond] at h
         split at h
         · cases h
         · rename_i hne e
           cases h
           exact ⟨x, _, ⟨rfl, rfl⟩, rfl, e, hne⟩
         · cases h)
    | (exfalso; simp only [cond] at h; repeat' split at h
       all_goals cases h)
    | (exfalso; repeat' split at h
       all_goals first | (cases h; done) | (simp only [cond] at h; split at h <;> cases h))
section DSND
variable {p : Program} {l : Launch} {e : Env} {R : Room} {s : State} {m : MethodId} {args : Array Value} {below : List Frame} {meth : Method} {c : Code} {cells slots : Nat} {Q : State → Prop}
variable {cc : ByteArray} {Ts : List Cond} {o nL d : Nat} {T : DTbl} {rt : Option FieldType}
variable {D : va_G} {ad : DKey → Nat} {ca : Nat → ClassId} {fm : Value} {xs : Nat → Int32} {SL : Nat} {A : Nat → Prop} {K : DS → Prop}
set_option maxHeartbeats 4000000 in
set_option maxRecDepth 10000 in
theorem d_sound (hx : p.tables.exec = Jvm.exec) (hb : c.code = cc) (hml : c.maxLocals = nL) (hown : s.vm.findClass (don o) = some m.cls) (hts : ∀ w ∈ Ts, w.before args s = true) (hG : GoodIn Ts dWd) (hE : dEnv D ad ca fm xs SL A s) (hA : ∀ κ, okK ad κ = true → A (ad κ)) (hi : dInj ad) (hf : dFm fm)
    (hR : d + 1 ≤ R.frames ∧ 40 * d + 40 ≤ R.locals ∧ cells ≤ R.cells ∧ slots ≤ R.slots) (hT : dchk o rt cc T = true) (hT2 : dchk2 T nL = true)
    (hcal : ∀ (mid : Nat) (as : List DV) (h : DH) (r : DRes) (q : DM), dEx d mid as h r → dms[mid]? = some q → dMet l D ad ca fm xs SL d q as h r)
    (hfin : ∀ (pc : Nat) (L : List (Option DV)) (st : List DV) (h : DH) (H : Heap) (locs : List Loc) (ls : Array Slot), K (pc, L, st, h) → L.length = nL → dOkL ad L → (∀ v ∈ st, okV ad v = true) → dLoc ad fm L nL ls → dSim D ad ca xs SL h H → va_S A s.heap H locs → W p l e R s m args below meth c H locs cells slots Q (F0 m pc ls (st.map (dval ad fm)))) :
    ∀ (n pc : Nat) (L : List (Option DV)) (st : List DV) (h : DH), dRunK T (dEx d) K n (pc, L, st, h) → ∀ (H : Heap) (locs : List Loc) (ls : Array Slot), L.length = nL → dOkL ad L → (∀ v ∈ st, okV ad v = true) → dLoc ad fm L nL ls → dSim D ad ca xs SL h H → va_S A s.heap H locs → W p l e R s m args below meth c H locs cells slots Q (F0 m pc ls (st.map (dval ad fm))) := by
  have hAm : ∀ q, dAm ad q → A q := fun q ⟨κ, h1, h2⟩ => h2 ▸ hA κ h1
  intro n
  induction n with
  | zero => intro pc L st h hr; cases hr
  | succ n ih =>
    intro pc L st h hr H locs ls hl1 hl2 hst hls hS hS0
    rcases hr with ⟨P, B, hs, hP, hn⟩ | ⟨mid, as, nx, L', st', v, h1, hc, hm, hn⟩ | hKK
    · cases hop : dop T pc with
      | none => rw [dstep, hop] at hs; cases hs
      | some op =>
      obtain ⟨i, len, hd, he⟩ := dchk_at hT hop
      unfold denc at he
      split at he
      · cases he
        rw [dstep, hop] at hs
        cases hs
        exact lv_iconst hx hb hd rfl (ih _ _ _ _ hn H locs ls hl1 hl2 (dok_cons rfl hst) hls hS hS0)
      · cases he
        rw [dstep, hop] at hs
        cases hs
        exact lv_bipush hx hb hd rfl (ih _ _ _ _ hn H locs ls hl1 hl2 (dok_cons rfl hst) hls hS hS0)
      · cases he
        rw [dstep, hop] at hs
        cases hs
        exact lv_sipush hx hb hd rfl (ih _ _ _ _ hn H locs ls hl1 hl2 (dok_cons rfl hst) hls hS hS0)
      · rename_i x
        unfold dldc at he
        split at he <;> cases he
        · rw [dstep, hop] at hs
          cases hs
          exact lv_ldc hx hb hown (hts _ (hG _ (dWd_of (w := .constant "DiskDrawer$State" 129 99999) (i := 376) (by decide +kernel) rfl)).1) hd (ih _ _ _ _ hn H locs ls hl1 hl2 (dok_cons rfl hst) hls hS hS0)
        · rw [dstep, hop] at hs
          cases hs
          exact lv_ldc hx hb hown (hts _ (hG _ (dWd_of (w := .constant "DiskDrawerLaw" 7 2147483647) (i := 228) (by decide +kernel) rfl)).1) hd (ih _ _ _ _ hn H locs ls hl1 hl2 (dok_cons rfl hst) hls hS hS0)
        · rw [dstep, hop] at hs
          cases hs
          exact lv_ldc hx hb hown (hts _ (hG _ (dWd_of (w := .constant "DiskDrawerLaw" 61 99000) (i := 468) (by decide +kernel) rfl)).1) hd (ih _ _ _ _ hn H locs ls hl1 hl2 (dok_cons rfl hst) hls hS hS0)
      · cases he
        simp only [dstep, hop] at hs
        split at hs
        · rename_i x hg
          cases hs
          exact lv_iload_n hx hb hd rfl (hls.get hg) (ih _ _ _ _ hn H locs ls hl1 hl2 (dok_cons rfl hst) hls hS hS0)
        · cases hs
      · cases he
        simp only [dstep, hop] at hs
        split at hs
        · rename_i x hg
          cases hs
          exact lv_iload hx hb hd (hls.get hg) (ih _ _ _ _ hn H locs ls hl1 hl2 (dok_cons rfl hst) hls hS hS0)
        · cases hs
      · cases he
        simp only [dstep, hop] at hs
        split at hs
        · rename_i κ hg
          cases hs
          have hk := ih _ _ _ _ hn H locs ls hl1 hl2 (dok_cons (hl2 _ _ hg) hst) hls hS hS0
          have hq := hls.get hg
          rw [List.map_cons] at hk
          rcases dval_ref (ad := ad) hf κ with z | ⟨a, z⟩
          · rw [z] at hk hq
            exact lv_aload_nN hx hb hd rfl hq hk
          · rw [z] at hk hq
            exact lv_aload_n hx hb hd rfl hq hk
        · cases hs
      · cases he
        simp only [dstep, hop] at hs
        split at hs
        · rename_i κ hg
          cases hs
          have hk := ih _ _ _ _ hn H locs ls hl1 hl2 (dok_cons (hl2 _ _ hg) hst) hls hS hS0
          have hq := hls.get hg
          rw [List.map_cons] at hk
          rcases dval_ref (ad := ad) hf κ with z | ⟨a, z⟩
          · rw [z] at hk hq
            exact lv_aloadN hx hb hd hq hk
          · rw [z] at hk hq
            exact lv_aload hx hb hd hq hk
        · cases hs
      · cases he
        have ha := dchk2_at hT2 hop (by decide)
        simp only [dstep, hop] at hs
        split at hs
        · rename_i x st
          rw [dsetK_eq] at hs
          cases hs
          exact lv_istore_n hx hb hd rfl hls ha rfl (fun ls' hl' => ih _ _ _ _ hn H locs ls' (by rw [dset_len]; exact hl1) (hl2.set (by omega) rfl) (fun v hv => hst v (List.mem_cons_of_mem _ hv)) (dLoc.put hf (by omega) hl') hS hS0)
        · cases hs
      · cases he
        have ha := dchk2_at hT2 hop (by decide)
        simp only [dstep, hop] at hs
        split at hs
        · rename_i x st
          rw [dsetK_eq] at hs
          cases hs
          exact lv_istore hx hb hd hls ha rfl (fun ls' hl' => ih _ _ _ _ hn H locs ls' (by rw [dset_len]; exact hl1) (hl2.set (by omega) rfl) (fun v hv => hst v (List.mem_cons_of_mem _ hv)) (dLoc.put hf (by omega) hl') hS hS0)
        · cases hs
      · cases he
        have ha := dchk2_at hT2 hop (by decide)
        simp only [dstep, hop] at hs
        split at hs
        · rename_i κ st
          rw [dsetK_eq] at hs
          cases hs
          have hk := fun (ls' : Array Slot) (hl' : lv_has ls' nL _) => ih _ _ _ _ hn H locs ls' (by rw [dset_len]; exact hl1) (hl2.set (by omega) (hst _ List.mem_cons_self)) (fun v hv => hst v (List.mem_cons_of_mem _ hv)) (dLoc.put hf (by omega) hl') hS hS0
          rw [List.map_cons]
          rcases dval_ref (ad := ad) hf κ with z | ⟨a, z⟩
          · rw [z] at hk ⊢
            exact lv_astore_nN hx hb hd rfl hls ha rfl hk
          · rw [z] at hk ⊢
            exact lv_astore_n hx hb hd rfl hls ha rfl hk
        · cases hs
      · cases he
        have ha := dchk2_at hT2 hop (by decide)
        simp only [dstep, hop] at hs
        split at hs
        · rename_i κ st
          rw [dsetK_eq] at hs
          cases hs
          have hk := fun (ls' : Array Slot) (hl' : lv_has ls' nL _) => ih _ _ _ _ hn H locs ls' (by rw [dset_len]; exact hl1) (hl2.set (by omega) (hst _ List.mem_cons_self)) (fun v hv => hst v (List.mem_cons_of_mem _ hv)) (dLoc.put hf (by omega) hl') hS hS0
          rw [List.map_cons]
          rcases dval_ref (ad := ad) hf κ with z | ⟨a, z⟩
          · rw [z] at hk ⊢
            exact lv_astoreN hx hb hd hls ha rfl hk
          · rw [z] at hk ⊢
            exact lv_astore hx hb hd hls ha rfl hk
        · cases hs
      · split at he
        · rename_i x ci k hfl
          cases he
          simp only [dstep, hop] at hs
          split at hs
          · rename_i κ st
            split at hs
            · rename_i w hw
              cases hs
              have hκV := hst _ List.mem_cons_self
              have hst' : ∀ v ∈ st, okV ad v = true := fun v hv => hst v (List.mem_cons_of_mem _ hv)
              have hwV : okV ad w = true := by
                unfold dgetf at hw
                cases hbq : Nat.beq (dcls κ.1) ci with
                | false => rw [hbq] at hw; cases hw
                | true =>
                  rw [hbq] at hw
                  dsimp only [cond] at hw
                  cases hr : dref κ k with
                  | none => rw [hr] at hw; cases hw; rfl
                  | some z => rw [hr] at hw; cases hw; exact dref_okV hκV hr
              have kk := ih _ _ _ _ hn H locs ls hl1 hl2 (dok_cons hwV hst') hls hS hS0
              have hcc : dcls κ.1 = ci := by
                unfold dgetf at hw
                cases hbq : Nat.beq (dcls κ.1) ci with
                | false => rw [hbq] at hw; cases hw
                | true => exact Nat.eq_of_beq_eq_true hbq
              obtain ⟨h7, hkn, hlk⟩ := dfld_ok hfl
              have hκ : okK ad κ = true := by
                obtain ⟨kd, i0, j0⟩ := κ
                simp only [okV, Bool.or_eq_true] at hκV
                rcases hκV with z | z
                · exact z
                · exfalso
                  simp only [Bool.and_eq_true, Bool.or_eq_true, decide_eq_true_eq] at z
                  have : dcls kd = 99 := by
                    rcases z.2 with z | z <;> rw [z.1] <;> rfl
                  dsimp only at hcc
                  omega
              rw [List.map_cons, dval_K hκ]
              exact do_get hx hb hts hG hown hE hS hκ hcc h7 hkn hlk hw hd kk
            · cases hs
          · cases hs
        · cases he
      · split at he
        · rename_i x ci k hfl
          have key : ∀ (y : Int32) (κ : DKey) (st2 : List DV), st = .inl y :: .inr κ :: st2 → dputf ci k κ = true → (dfz ci k = true → y = 0 ∨ y = 1) → dRunK T (dEx d) K n (pc + 3, L, st2, up1 h κ k y) → W p l e R s m args below meth c H locs cells slots Q (F0 m pc ls (st.map (dval ad fm))) := by
            rintro y κ st2 rfl hpf hz hn2
            have hst' : ∀ v ∈ st2, okV ad v = true := fun v hv => hst v (List.mem_cons_of_mem _ (List.mem_cons_of_mem _ hv))
            have hκV := hst _ (List.mem_cons_of_mem _ List.mem_cons_self)
            have h21 : κ.1 < 21 ∧ dcls κ.1 = ci := by
              simp only [dputf, Bool.and_eq_true] at hpf
              exact ⟨Nat.le_of_ble_eq_true hpf.1.2, Nat.eq_of_beq_eq_true hpf.1.1⟩
            have hκ : okK ad κ = true := by
              obtain ⟨kd, i0, j0⟩ := κ
              simp only [okV, Bool.or_eq_true] at hκV
              rcases hκV with z | z
              · exact z
              · exfalso
                simp only [Bool.and_eq_true, Bool.or_eq_true, decide_eq_true_eq] at z
                have := h21.1
                dsimp only at this
                omega
            rw [List.map_cons, List.map_cons, dval_K hκ]
            obtain ⟨h7, hkn, hlk⟩ := dfld_ok hfl
            exact do_put hx hb hts hG hown hE hA hi hS hS0 hκ hpf h7 hkn hlk hz hd (fun H1 locs1 hS1 hS2 => ih _ _ _ _ hn2 H1 locs1 ls hl1 hl2 hst' hls hS1 hS2)
          cases hz : dfz ci k with
          | true =>
            rw [hz] at he
            cases he
            simp only [dstep, hop] at hs
            split at hs
            · rename_i y κ st2
              cases hpf : dputf ci k κ with
              | false => rw [hpf] at hs; cases hs
              | true =>
                rw [hpf] at hs
                cases hs
                exact key y κ st2 rfl hpf (fun _ => hP) hn
            · cases hs
          | false =>
            rw [hz] at he
            cases he
            simp only [dstep, hop] at hs
            split at hs
            · rename_i y κ st2
              cases hpf : dputf ci k κ with
              | false => rw [hpf] at hs; cases hs
              | true =>
                rw [hpf] at hs
                cases hs
                exact key y κ st2 rfl hpf (fun z => by rw [hz] at z; cases z) hn
            · cases hs
        · cases he
      · rename_i x
        unfold dgst at he
        split at he <;> cases he
        · rw [dstep, hop] at hs
          cases hs
          exact va_gets hx hb (hE.2.2.1 1 (by decide)).1 hS0 hown (hts _ (hG _ (dWd_of (w := .fieldLink "DiskDrawer" 155 "DiskDrawer" "LOWEST" "[I") (i := 484) (by decide +kernel) rfl)).1) (fun _ z => z) hd (ih _ _ _ _ hn H locs ls hl1 hl2 (dok_cons rfl hst) hls hS hS0)
        · rw [dstep, hop] at hs
          cases hs
          exact va_gets hx hb (hE.2.2.1 2 (by decide)).1 hS0 hown (hts _ (hG _ (dWd_of (w := .fieldLink "DiskDrawer" 158 "DiskDrawer" "HIGHEST" "[I") (i := 485) (by decide +kernel) rfl)).1) (fun _ z => z) hd (ih _ _ _ _ hn H locs ls hl1 hl2 (dok_cons rfl hst) hls hS hS0)
        · rw [dstep, hop] at hs
          cases hs
          exact va_getsN hx hb (hE.2.2.1 1 (by decide)).1 hS0 hown (va_Nw.use rfl (hE.2.1 (.fieldLinkNest "DiskDrawer$State" 81 "DiskDrawer" "LOWEST" "[I" "DiskDrawer") (List.mem_filter.mpr ⟨List.mem_of_getElem? (i := 364) (by decide +kernel), rfl⟩))) (fun _ z => z) hd (ih _ _ _ _ hn H locs ls hl1 hl2 (dok_cons rfl hst) hls hS hS0)
        · rw [dstep, hop] at hs
          cases hs
          exact va_getsN hx hb (hE.2.2.1 2 (by decide)).1 hS0 hown (va_Nw.use rfl (hE.2.1 (.fieldLinkNest "DiskDrawer$State" 84 "DiskDrawer" "HIGHEST" "[I" "DiskDrawer") (List.mem_filter.mpr ⟨List.mem_of_getElem? (i := 366) (by decide +kernel), rfl⟩))) (fun _ z => z) hd (ih _ _ _ _ hn H locs ls hl1 hl2 (dok_cons rfl hst) hls hS hS0)
      · cases he
        simp only [dstep, hop] at hs
        split at hs
        · rename_i i κ st
          have hκV := hst _ (List.mem_cons_of_mem _ List.mem_cons_self)
          have hst' : ∀ v ∈ st, okV ad v = true := fun v hv => hst v (List.mem_cons_of_mem _ (List.mem_cons_of_mem _ hv))
          rw [List.map_cons, List.map_cons]
          split at hs
          · rename_i nn hda
            cases hs
            have hκ : okK ad κ = true := by
              obtain ⟨kd, i0, j0⟩ := κ
              simp only [okV, Bool.or_eq_true] at hκV
              rcases hκV with z | z
              · exact z
              · exfalso
                simp only [Bool.and_eq_true, Bool.or_eq_true, decide_eq_true_eq] at z
                rcases z.2 with z | z <;> rw [z.1] at hda <;> cases hda
            rw [dval_K hκ]
            exact do_iald hx hb hE hS hκ hda hP hd (ih _ _ _ _ hn H locs ls hl1 hl2 (dok_cons rfl hst') hls hS hS0)
          · rename_i nn hda
            cases hs
            obtain ⟨kd, i0, j0⟩ := κ
            unfold darr at hda
            split at hda <;> cases hda
            rename_i w j0 z
            cases z
            simp [okV, okK] at hκV
            obtain ⟨rfl, hw⟩ := hκV
            rw [dval_ok (show (32 : Nat) ≠ 33 by decide)]
            exact va_ti hx hb (hE.2.2.1 _ hw).2 hS0 hP rfl hd (ih _ _ _ _ hn H locs ls hl1 hl2 (dok_cons rfl hst') hls hS hS0)
          · rename_i nn hda
            cases hs
            obtain ⟨kd, i0, j0⟩ := κ
            unfold darr at hda
            split at hda <;> cases hda
            rename_i w j0 z
            cases z
            simp [okV, okK] at hκV
            obtain ⟨rfl, rfl⟩ := hκV
            rw [dval_ok (by decide)]
            have kk := ih _ _ _ _ hn H locs ls hl1 hl2 (dok_cons rfl hst') hls hS hS0
            have hP' : vp_in i SL := by rw [← hS.2.2.2.2]; exact hP
            rw [List.map_cons] at kk
            rw [hS.2.2.2.1] at kk
            exact va_sld hx hb hE.2.2.2.1 hE.2.2.2.2.1 hE.2.2.2.2.2 hS0 hP' hd kk
          · cases hs
        · cases hs
      · cases he
        simp only [dstep, hop] at hs
        split at hs
        · rename_i x i κ st
          have hκV := hst _ (List.mem_cons_of_mem _ (List.mem_cons_of_mem _ List.mem_cons_self))
          have hst' : ∀ v ∈ st, okV ad v = true := fun v hv => hst v (List.mem_cons_of_mem _ (List.mem_cons_of_mem _ (List.mem_cons_of_mem _ hv)))
          rw [List.map_cons, List.map_cons, List.map_cons]
          split at hs
          · rename_i nn hda
            cases hs
            have hκ : okK ad κ = true := by
              obtain ⟨kd, i0, j0⟩ := κ
              simp only [okV, Bool.or_eq_true] at hκV
              rcases hκV with z | z
              · exact z
              · exfalso
                simp only [Bool.and_eq_true, Bool.or_eq_true, decide_eq_true_eq] at z
                rcases z.2 with z | z <;> rw [z.1] at hda <;> cases hda
            rw [dval_K hκ]
            exact do_iast hx hb hE hA hi hS hS0 hκ hda hP hd (fun H1 locs1 hS1 hS2 => ih _ _ _ _ hn H1 locs1 ls hl1 hl2 hst' hls hS1 hS2)
          · cases hs
        · cases hs
      · cases he
        simp only [dstep, hop] at hs
        split at hs
        · rename_i i κ st
          have hκV := hst _ (List.mem_cons_of_mem _ List.mem_cons_self)
          have hst' : ∀ v ∈ st, okV ad v = true := fun v hv => hst v (List.mem_cons_of_mem _ (List.mem_cons_of_mem _ hv))
          rw [List.map_cons, List.map_cons]
          split at hs
          · rename_i tt nn hda
            split at hs
            · rename_i w hw
              cases hs
              have hκ : okK ad κ = true := by
                obtain ⟨kd, i0, j0⟩ := κ
                simp only [okV, Bool.or_eq_true] at hκV
                rcases hκV with z | z
                · exact z
                · exfalso
                  simp only [Bool.and_eq_true, Bool.or_eq_true, decide_eq_true_eq] at z
                  rcases z.2 with z | z <;> rw [z.1] at hw <;> cases hw
              rw [dval_K hκ]
              refine do_aald hx hb hE hS hκ hda hP hw hd (fun hok => ?_)
              have hwV : okV ad (.inr w) = true := by
                obtain ⟨a1, a2, a3⟩ := w
                simp [okV, hok]
              have kk := ih _ _ _ _ hn H locs ls hl1 hl2 (dok_cons hwV hst') hls hS hS0
              rw [List.map_cons, dval_K hok] at kk
              exact kk
            · cases hs
          · cases hs
        · cases hs
      · cases he
        simp only [dstep, hop] at hs
        split at hs
        · rename_i w i κ st
          have hκV := hst _ (List.mem_cons_of_mem _ (List.mem_cons_of_mem _ List.mem_cons_self))
          have hwV := hst _ List.mem_cons_self
          have hst' : ∀ v ∈ st, okV ad v = true := fun v hv => hst v (List.mem_cons_of_mem _ (List.mem_cons_of_mem _ (List.mem_cons_of_mem _ hv)))
          rw [List.map_cons, List.map_cons, List.map_cons]
          split at hs
          · rename_i i0 j0 i1 k1
            cases hs
            obtain ⟨hP, rfl⟩ := hP
            have hκ : okK ad (3, i0, j0) = true := by simpa [okV, okK] using hκV
            have hwk : okK ad (5, i0, k1) = true := by simpa [okV, okK] using hwV
            rw [dval_K hκ, dval_K hwk]
            have hk30 : k1 < 30 := by
              simp only [okK, Bool.and_eq_true, decide_eq_true_eq] at hwk
              exact hwk.2
            exact do_aast (t := 2) (ci := 2) (n := 30) hx hb hE hA hi hS hS0 hκ rfl (by decide) rfl (by decide) rfl hwk hP rfl (Or.inl ⟨rfl, hk30⟩) hd (fun H1 locs1 hS1 hS2 => ih _ _ _ _ hn H1 locs1 ls hl1 hl2 hst' hls hS1 hS2)
          · rename_i i0 j0 r0 j1
            cases hs
            have hκ : okK ad (8, i0, j0) = true := by simpa [okV, okK] using hκV
            have hwk : okK ad (0, r0, j1) = true := by simpa [okV, okK] using hwV
            rw [dval_K hκ, dval_K hwk]
            have hk8 : r0 < 8 ∧ j1 = 0 := by
              simp only [okK, Bool.and_eq_true, decide_eq_true_eq] at hwk
              exact hwk
            obtain ⟨hk8, rfl⟩ := hk8
            exact do_aast (t := 3) (ci := 0) (n := 5) hx hb hE hA hi hS hS0 hκ rfl (by decide) rfl (by decide) rfl hwk hP rfl (Or.inr ⟨rfl, hk8⟩) hd (fun H1 locs1 hS1 hS2 => ih _ _ _ _ hn H1 locs1 ls hl1 hl2 hst' hls hS1 hS2)
          · cases hs
        · cases hs
      · cases he
        simp only [dstep, hop] at hs
        split at hs
        · rename_i κ st
          have hκV := hst _ List.mem_cons_self
          have hst' : ∀ v ∈ st, okV ad v = true := fun v hv => hst v (List.mem_cons_of_mem _ hv)
          rw [List.map_cons]
          split at hs
          · rename_i nn hda
            cases hs
            obtain ⟨kd, i0, j0⟩ := κ
            unfold darr at hda
            split at hda <;> cases hda
            rename_i w j0 z
            cases z
            simp [okV, okK] at hκV
            obtain ⟨rfl, rfl⟩ := hκV
            rw [dval_ok (by decide)]
            have kk := ih _ _ _ _ hn H locs ls hl1 hl2 (dok_cons rfl hst') hls hS hS0
            rw [List.map_cons] at kk
            rw [hS.2.2.2.2] at kk
            exact va_slen hx hb hE.2.2.2.1 hE.2.2.2.2.1 hE.2.2.2.2.2 hS0 hd kk
          · cases hs
        · cases hs
      · cases he
        simp only [dstep, hop] at hs
        split at hs
        · rename_i y x st
          cases hs
          exact lv_iadd hx hb hd (ih _ _ _ _ hn H locs ls hl1 hl2 (dok_cons rfl (fun v hv => hst v (List.mem_cons_of_mem _ (List.mem_cons_of_mem _ hv)))) hls hS hS0)
        · cases hs
      · cases he
        simp only [dstep, hop] at hs
        split at hs
        · rename_i y x st
          cases hs
          exact lv_isub hx hb hd (ih _ _ _ _ hn H locs ls hl1 hl2 (dok_cons rfl (fun v hv => hst v (List.mem_cons_of_mem _ (List.mem_cons_of_mem _ hv)))) hls hS hS0)
        · cases hs
      · cases he
        simp only [dstep, hop] at hs
        split at hs
        · rename_i y x st
          cases hs
          exact lv_imul hx hb hd (ih _ _ _ _ hn H locs ls hl1 hl2 (dok_cons rfl (fun v hv => hst v (List.mem_cons_of_mem _ (List.mem_cons_of_mem _ hv)))) hls hS hS0)
        · cases hs
      · cases he
        simp only [dstep, hop] at hs
        split at hs
        · rename_i y x st
          cases hs
          exact lv_iand hx hb hd (ih _ _ _ _ hn H locs ls hl1 hl2 (dok_cons rfl (fun v hv => hst v (List.mem_cons_of_mem _ (List.mem_cons_of_mem _ hv)))) hls hS hS0)
        · cases hs
      · cases he
        simp only [dstep, hop] at hs
        split at hs
        · rename_i y x st
          cases hs
          exact lv_ior hx hb hd (ih _ _ _ _ hn H locs ls hl1 hl2 (dok_cons rfl (fun v hv => hst v (List.mem_cons_of_mem _ (List.mem_cons_of_mem _ hv)))) hls hS hS0)
        · cases hs
      · cases he
        simp only [dstep, hop] at hs
        split at hs
        · rename_i y x st
          cases hs
          exact lv_ishl hx hb hd (ih _ _ _ _ hn H locs ls hl1 hl2 (dok_cons rfl (fun v hv => hst v (List.mem_cons_of_mem _ (List.mem_cons_of_mem _ hv)))) hls hS hS0)
        · cases hs
      · cases he
        simp only [dstep, hop] at hs
        split at hs
        · rename_i y x st
          cases hs
          exact lv_ishr hx hb hd (ih _ _ _ _ hn H locs ls hl1 hl2 (dok_cons rfl (fun v hv => hst v (List.mem_cons_of_mem _ (List.mem_cons_of_mem _ hv)))) hls hS hS0)
        · cases hs
      · cases he
        simp only [dstep, hop] at hs
        split at hs
        · rename_i y x st
          cases hs
          exact lv_irem hx hb hd hP (ih _ _ _ _ hn H locs ls hl1 hl2 (dok_cons rfl (fun v hv => hst v (List.mem_cons_of_mem _ (List.mem_cons_of_mem _ hv)))) hls hS hS0)
        · cases hs
      · cases he
        have ha := dchk2_at hT2 hop (by decide)
        simp only [dstep, hop] at hs
        split at hs
        · rename_i x hg
          rw [dsetK_eq] at hs
          cases hs
          obtain ⟨k0, hk0⟩ := List.getElem?_of_mem (dlp_mem (ad := ad) (fm := fm) L 0 _ _ hg)
          rw [Nat.zero_add] at hk0
          exact lv_iinc hx hb hd hls hk0 rfl ha rfl (fun ls' hl' => ih _ _ _ _ hn H locs ls' (by rw [dset_len]; exact hl1) (hl2.set (by omega) rfl) hst (dLoc.put (v := .inl _) hf (by omega) hl') hS hS0)
        · cases hs
      · split at he
        · rename_i cnd off _ t ht
          cases he
          simp only [dstep, hop] at hs
          split at hs
          · rename_i x st
            have hst' : ∀ v ∈ st, okV ad v = true := fun v hv => hst v (List.mem_cons_of_mem _ hv)
            cases cnd <;> (simp only [dcnd] at hs; cases hs)
            · exact lv_if_eq hx hb hd (dtgt_ok ht) (fun z => by rw [if_pos z] at hn; exact ih _ _ _ _ hn H locs ls hl1 hl2 hst' hls hS hS0) (fun z => by rw [if_neg z] at hn; exact ih _ _ _ _ hn H locs ls hl1 hl2 hst' hls hS hS0)
            · exact lv_if_ne hx hb hd (dtgt_ok ht) (fun z => by rw [if_neg z] at hn; exact ih _ _ _ _ hn H locs ls hl1 hl2 hst' hls hS hS0) (fun z => by rw [if_pos z] at hn; exact ih _ _ _ _ hn H locs ls hl1 hl2 hst' hls hS hS0)
            · exact lv_if_lt hx hb hd (dtgt_ok ht) (fun z => by rw [if_pos z] at hn; exact ih _ _ _ _ hn H locs ls hl1 hl2 hst' hls hS hS0) (fun z => by rw [if_neg z] at hn; exact ih _ _ _ _ hn H locs ls hl1 hl2 hst' hls hS hS0)
            · exact lv_if_ge hx hb hd (dtgt_ok ht) (fun z => by rw [if_pos z] at hn; exact ih _ _ _ _ hn H locs ls hl1 hl2 hst' hls hS hS0) (fun z => by rw [if_neg z] at hn; exact ih _ _ _ _ hn H locs ls hl1 hl2 hst' hls hS hS0)
            · exact lv_if_gt hx hb hd (dtgt_ok ht) (fun z => by rw [if_pos z] at hn; exact ih _ _ _ _ hn H locs ls hl1 hl2 hst' hls hS hS0) (fun z => by rw [if_neg z] at hn; exact ih _ _ _ _ hn H locs ls hl1 hl2 hst' hls hS hS0)
            · exact lv_if_le hx hb hd (dtgt_ok ht) (fun z => by rw [if_pos z] at hn; exact ih _ _ _ _ hn H locs ls hl1 hl2 hst' hls hS hS0) (fun z => by rw [if_neg z] at hn; exact ih _ _ _ _ hn H locs ls hl1 hl2 hst' hls hS hS0)
          · cases hs
        · cases he
      · split at he
        · rename_i cnd off _ t ht
          cases he
          simp only [dstep, hop] at hs
          split at hs
          · rename_i y x st
            have hst' : ∀ v ∈ st, okV ad v = true := fun v hv => hst v (List.mem_cons_of_mem _ (List.mem_cons_of_mem _ hv))
            cases cnd <;> (simp only [dcnd] at hs; cases hs)
            · exact lv_icmp_eq hx hb hd (dtgt_ok ht) (fun z => by rw [if_pos z] at hn; exact ih _ _ _ _ hn H locs ls hl1 hl2 hst' hls hS hS0) (fun z => by rw [if_neg z] at hn; exact ih _ _ _ _ hn H locs ls hl1 hl2 hst' hls hS hS0)
            · exact lv_icmp_ne hx hb hd (dtgt_ok ht) (fun z => by rw [if_neg z] at hn; exact ih _ _ _ _ hn H locs ls hl1 hl2 hst' hls hS hS0) (fun z => by rw [if_pos z] at hn; exact ih _ _ _ _ hn H locs ls hl1 hl2 hst' hls hS hS0)
            · exact lv_icmp_lt hx hb hd (dtgt_ok ht) (fun z => by rw [if_pos z] at hn; exact ih _ _ _ _ hn H locs ls hl1 hl2 hst' hls hS hS0) (fun z => by rw [if_neg z] at hn; exact ih _ _ _ _ hn H locs ls hl1 hl2 hst' hls hS hS0)
            · exact lv_icmp_ge hx hb hd (dtgt_ok ht) (fun z => by rw [if_pos z] at hn; exact ih _ _ _ _ hn H locs ls hl1 hl2 hst' hls hS hS0) (fun z => by rw [if_neg z] at hn; exact ih _ _ _ _ hn H locs ls hl1 hl2 hst' hls hS hS0)
            · exact lv_icmp_gt hx hb hd (dtgt_ok ht) (fun z => by rw [if_pos z] at hn; exact ih _ _ _ _ hn H locs ls hl1 hl2 hst' hls hS hS0) (fun z => by rw [if_neg z] at hn; exact ih _ _ _ _ hn H locs ls hl1 hl2 hst' hls hS hS0)
            · exact lv_icmp_le hx hb hd (dtgt_ok ht) (fun z => by rw [if_pos z] at hn; exact ih _ _ _ _ hn H locs ls hl1 hl2 hst' hls hS hS0) (fun z => by rw [if_neg z] at hn; exact ih _ _ _ _ hn H locs ls hl1 hl2 hst' hls hS hS0)
          · cases hs
        · cases he
      · split at he
        · rename_i off t ht
          cases he
          rw [dstep, hop] at hs
          cases hs
          exact lv_goto hx hb hd (dtgt_ok ht) (ih _ _ _ _ hn H locs ls hl1 hl2 hst hls hS hS0)
        · cases he
      · rename_i dd lo hi offs
        split at he
        · rename_i t ts ht hts2
          cases hz : (decide (0 ≤ lo) && decide (hi < 1000) && decide ((ts.length : Int) = hi - lo + 1) && decide (offs.size = ts.length)) with
          | false => rw [hz] at he; cases he
          | true =>
            rw [hz] at he
            cases he
            simp only [Bool.and_eq_true, decide_eq_true_eq] at hz
            obtain ⟨⟨⟨z1, z2⟩, z3⟩, z4⟩ := hz
            simp only [dstep, hop] at hs
            split at hs
            · rename_i x st
              cases hs
              have hst' : ∀ v ∈ st, okV ad v = true := fun v hv => hst v (List.mem_cons_of_mem _ hv)
              have kk := ih _ _ _ _ hn H locs ls hl1 hl2 hst' hls hS hS0
              rw [dofInt z1] at kk
              have hlo : ((lo.toNat : Nat) : Int) = lo := Int.toNat_of_nonneg z1
              by_cases hin : lo ≤ x.toInt ∧ x.toInt ≤ hi
              · have h1 := dtsw_in (d := t) (x := x) ts lo.toNat (by omega) (by omega) (by omega)
                obtain ⟨off, g1, g2⟩ := dtgts_at hts2 _ _ h1
                rw [hlo, Array.getElem?_toList] at g1
                exact lv_tableIn hx hb hd (by omega) (by omega) g1 g2 kk
              · rw [dtsw_out ts lo.toNat (by omega) (by omega)] at kk
                exact lv_tableOut hx hb hd (by omega) (dtgt_ok ht) kk
            · cases hs
        · cases he
      · cases he
        simp only [dstep, hop] at hs
        split at hs
        · rename_i w st
          cases hs
          exact lv_dup hx hb hd (dval_cat hf w) (ih _ _ _ _ hn H locs ls hl1 hl2 (dok_cons (hst _ List.mem_cons_self) hst) hls hS hS0)
        · cases hs
      · cases he
        simp only [dstep, hop] at hs
        split at hs
        · rename_i w u st
          cases hs
          exact lv_dup2_11 hx hb hd (dval_cat hf w) (dval_cat hf u) (ih _ _ _ _ hn H locs ls hl1 hl2 (dok_cons (hst _ List.mem_cons_self) (dok_cons (hst _ (List.mem_cons_of_mem _ List.mem_cons_self)) hst)) hls hS hS0)
        · cases hs
      · split at he
        · split at he
          · cases he
            rw [dstep, hop] at hs
            cases hs
          · cases he
        · cases he
      · rename_i x
        cases hmx : (Nat.beq o 0 && Nat.beq x 183) with
        | true =>
          rw [hmx] at he
          cases he
          simp only [dstep, hop] at hs
          split at hs
          · rename_i y x0 st
            cases hlen : Nat.ble st.length 8 with
            | false => rw [hlen] at hs; cases hs
            | true =>
              rw [hlen] at hs
              cases hs
              simp only [Bool.and_eq_true] at hmx
              have ho : o = 0 := Nat.eq_of_beq_eq_true hmx.1
              have hx183 : x = 183 := Nat.eq_of_beq_eq_true hmx.2
              subst ho
              subst hx183
              have hr8 := dcat_rest (ad := ad) hf st (Nat.le_of_ble_eq_true hlen)
              exact va_mmax hx hb (hml.trans hls.1.symm) hown (hts _ (hG _ (dWd_of (w := .methodLink "DiskDrawer$State" 183 ⟨"java/lang/Math", "max", "(II)I"⟩) (i := 430) (by decide +kernel) rfl)).1) (hts _ (hG _ (dWd_of (w := .static ⟨"java/lang/Math", "max", "(II)I"⟩) (i := 431) (by decide +kernel) rfl)).1) (hts _ (hG _ (dWd_of (w := .initialized "java/lang/Math") (i := 23) (by decide +kernel) rfl)).1) (hts _ (hG _ (dWd_of (w := .code ⟨"java/lang/Math", "max", "(II)I"⟩ prog_9_method_65_code 2 (some .int)) (i := 432) (by decide +kernel) rfl)).1) (by omega) (by omega) hR.2.2.1 hR.2.2.2 hd (ih _ _ _ _ hn H locs ls hl1 hl2 (dok_cons rfl (fun v hv => hst v (List.mem_cons_of_mem _ (List.mem_cons_of_mem _ hv)))) hls hS hS0)
          · cases hs
        | false =>
          rw [hmx] at he
          dsimp only [cond] at he
          split at he
          · cases he
          · cases he
            rw [dstep, hop] at hs
            cases hs
          · cases he
      · split at he <;> cases he <;> (rw [dstep, hop] at hs; cases hs)
      · cases he
        rw [dstep, hop] at hs
        cases hs
      · cases he
    · cases hop : dop T pc with
      | none => rw [dcall, hop] at hc; cases hc
      | some op =>
      obtain ⟨i, len, hd, he⟩ := dchk_at hT hop
      have hnext : ∀ (H1 : Heap) (locs1 : List Loc), (∀ z, v = some z → okV ad z = true) → (∀ z ∈ st', okV ad z = true) → L' = L → dSim D ad ca xs SL h1 H1 → va_S A s.heap H1 locs1 → W p l e R s m args below meth c H1 locs1 cells slots Q (F0 m nx ls ((v.map (dval ad fm)).toList ++ st'.map (dval ad fm))) := by
        rintro H1 locs1 hv hst' rfl hS1 hS2
        have := ih _ _ _ _ hn H1 locs1 ls hl1 hl2 (by
          intro z hz
          rcases List.mem_append.mp hz with hz | hz
          · cases v with
            | none => cases hz
            | some w => simp at hz; subst hz; exact hv _ rfl
          · exact hst' z hz) hls hS1 hS2
        cases v <;> exact this
      simp only [dcall, hop] at hc
      split at hc
      · rename_i mid0 n0 nx0 v0 ci hopq
        split at hc
        · rename_i κ as0 rest hp
          cases hz : (Nat.beq (dcls κ.1) ci && Nat.ble rest.length 8) with
          | false => rw [hz] at hc; cases hc
          | true =>
            rw [hz] at hc
            cases hc
            cases hopq
            simp only [Bool.and_eq_true] at hz
            obtain ⟨x, hix, hxl, hcl, q, hq, hown'⟩ := denc_34 he
            obtain ⟨rfl, rfl⟩ := hix
            subst hxl
            obtain ⟨pre, g1, g2, -⟩ := dpop_spec _ _ _ _ _ hp
            rw [List.append_nil] at g1
            have hmem : ∀ z, z ∈ (Sum.inr κ :: as0 : List DV) ∨ z ∈ st' → okV ad z = true := by
              intro z hz
              refine hst z ?_
              rw [g2, g1.symm]
              rcases hz with hz | hz
              · exact List.mem_append_left _ (List.mem_reverse.mpr hz)
              · exact List.mem_append_right _ hz
            exact do_callv hx hb hml hown hts hG hE hAm hf hls.1 hS hS0 hR hq (hcal _ _ _ _ q hm hq) hcl hp ((Nat.eq_of_beq_eq_true hz.1).trans hown'.symm) (Nat.le_of_ble_eq_true hz.2) (fun z hz => hmem z (Or.inl hz)) hd (fun H1 locs1 hv hS1 hS2 => hnext H1 locs1 hv (fun z hz => hmem z (Or.inr hz)) rfl hS1 hS2)
        · cases hc
      · rename_i mid0 n0 nx0 v0 l0 hopq
        split at hc
        · rename_i as0 rest hp
          cases hz : Nat.ble rest.length 8 with
          | false => rw [hz] at hc; cases hc
          | true =>
            rw [hz] at hc
            cases hc
            cases hopq
            obtain ⟨x, kd, hix, hxl, hcl, hkd⟩ := denc_35 he
            obtain ⟨rfl, rfl⟩ := hix
            subst hxl
            obtain ⟨q, hq, -⟩ := dcal_ok hcl
            obtain ⟨pre, g1, g2, -⟩ := dpop_spec _ _ _ _ _ hp
            rw [List.append_nil] at g1
            have hmem : ∀ z, z ∈ as ∨ z ∈ st' → okV ad z = true := by
              intro z hz
              refine hst z ?_
              rw [g2, g1.symm]
              rcases hz with hz | hz
              · exact List.mem_append_left _ (List.mem_reverse.mpr hz)
              · exact List.mem_append_right _ hz
            exact do_calls hx hb hml hown hts hG hE hAm hf hls.1 hS hS0 hR hq (hcal _ _ _ _ q hm hq) hcl hkd hp (Nat.le_of_ble_eq_true hz) (fun z hz => hmem z (Or.inl hz)) hd (fun H1 locs1 hv hS1 hS2 => hnext H1 locs1 hv (fun z hz => hmem z (Or.inr hz)) rfl hS1 hS2)
        · cases hc
      · cases hc
    · exact hfin pc L st h H locs ls hKK hl1 hl2 hst hls hS hS0
end DSND
end
section
/-! the contract of every method, out of a run of its table -/
variable {ad : DKey → Nat}
theorem dlp_args {ad : DKey → Nat} {fm : Value} (hf : dFm fm) : ∀ (as : List DV) (b n : Nat) (q : Nat × Value), q ∈ dlp ad fm b (as.map some ++ List.replicate n none) → q ∈ lv_args b (as.map (dval ad fm)) := by
  intro as
  induction as with
  | nil =>
    intro b n q h
    exfalso
    induction n generalizing b with
    | zero => cases h
    | succ n ih => exact ih (b + 1) (by simpa [List.replicate_succ, dlp] using h)
  | cons v as ih =>
    intro b n q h
    rcases List.mem_cons.mp h with h | h
    · exact List.mem_cons.mpr (Or.inl h)
    · refine List.mem_cons.mpr (Or.inr ?_)
      show q ∈ lv_args (if (dval ad fm v).category = 2 then b + 2 else b + 1) _
      rw [if_neg (by rw [dval_cat hf]; decide)]
      exact ih (b + 1) n q h
theorem dsl_len {ad : DKey → Nat} {fm : Value} (hf : dFm fm) : ∀ (as : List DV), (lg_sl (as.map (dval ad fm))).length = as.length := by
  intro as
  induction as with
  | nil => rfl
  | cons v as ih =>
    show (List.flatMap _ (_ :: _)).length = _
    rw [List.flatMap_cons, List.length_append, List.length_cons]
    have : (if (dval ad fm v).category = 2 then [Slot.val (dval ad fm v), Slot.second] else [Slot.val (dval ad fm v)]).length = 1 := by
      rw [if_neg (by rw [dval_cat hf]; decide)]
      rfl
    rw [this]
    have ih' : (List.flatMap (fun v : Value => if v.category = 2 then [Slot.val v, Slot.second] else [Slot.val v]) (as.map (dval ad fm))).length = as.length := ih
    rw [ih']
    omega
theorem dOkL_init {as : List DV} {n : Nat} (h : ∀ v ∈ as, okV ad v = true) : dOkL ad (as.map some ++ List.replicate n none) := by
  induction as with
  | nil =>
    intro k v hk
    exfalso
    induction n generalizing k with
    | zero => cases hk
    | succ n ih =>
      cases k with
      | zero => cases hk
      | succ k => exact ih k hk
  | cons a as ih =>
    intro k v hk
    cases k with
    | zero => cases hk; exact h _ List.mem_cons_self
    | succ k => exact ih (fun v hv => h v (List.mem_cons_of_mem _ hv)) k v hk
theorem denc_ret {o : Nat} {rt : Option FieldType} {pc len a b nx k : Nat} {v : Int32} {ts : List Nat} {i : Instr} (h : denc o rt pc i len = some (k, a, b, nx, v, ts)) :
    (k = 36 → i = .ireturn ∧ len = 1 ∧ rt = some .int) ∧ (k = 37 → i = .return_ ∧ len = 1) ∧ (k = 42 → i = .ireturn ∧ len = 1 ∧ rt = some .boolean) := by
  unfold denc at h
  split at h
  all_goals first
    | (cases h; refine ⟨?_, ?_, ?_⟩ <;> intro z <;> first | (cases z; done) | exact ⟨rfl, rfl⟩)
    | (unfold dldc at h; split at h <;> cases h <;> (refine ⟨?_, ?_, ?_⟩ <;> intro z <;> cases z))
    | (unfold dgst at h; split at h <;> cases h <;> (refine ⟨?_, ?_, ?_⟩ <;> intro z <;> cases z))
    | (repeat' split at h
       all_goals first
         | (cases h; refine ⟨?_, ?_, ?_⟩ <;> intro z <;> first | (cases z; done) | exact ⟨rfl, rfl, rfl⟩)
         | (simp only [cond] at h
            repeat' split at h
            all_goals first | (cases h; refine ⟨?_, ?_, ?_⟩ <;> intro z <;> cases z) | cases h)
         | cases h)
    | (simp only [cond] at h
       repeat' split at h
       all_goals first | (cases h; refine ⟨?_, ?_, ?_⟩ <;> intro z <;> cases z) | cases h)
/-- which answers a table gives: nothing only where the method has no answer -/
def drtOK (q : DM) : Bool := q.2.2.2.2.2.all fun o => match o with
  | some (37, _) => decide (q.2.2.2.1 = none)
  | _ => true
theorem dret37 : dms.all drtOK = true := by decide +kernel
theorem dop_mem {T : DTbl} {pc : Nat} {x : DOp} (hq : dop T pc = some x) : some x ∈ T := by
  have hq' : T.getD pc none = some x := hq
  rw [List.getD_eq_getElem?_getD] at hq'
  cases hz : T[pc]? with
  | none => rw [hz] at hq'; cases hq'
  | some y =>
    rw [hz] at hq'
    have : y = some x := hq'
    rw [← this]
    exact List.mem_of_getElem? hz
theorem dret37_at {q : DM} (h : drtOK q = true) {pc : Nat} {x : Nat × Nat × Nat × Int32 × List Nat} (hop : dop q.2.2.2.2.2 pc = some (37, x)) : q.2.2.2.1 = none := by
  have := List.all_eq_true.mp h _ (dop_mem hop)
  exact of_decide_eq_true this
set_option maxHeartbeats 1000000 in
theorem d_met (l : Launch) {D : va_G} {ad : DKey → Nat} {ca : Nat → ClassId} {fm : Value} {xs : Nat → Int32} {SL : Nat} (hi : dInj ad) (hf : dFm fm) : ∀ (d mid : Nat) (as : List DV) (h : DH) (r : DRes) (q : DM), dEx d mid as h r → dms[mid]? = some q → dMet l D ad ca fm xs SL d q as h r := by
  intro d
  induction d with
  | zero => intro mid as h r q hx; cases hx
  | succ d ih =>
    intro mid as h r q hx hq
    obtain ⟨q', hq', hlen, n, hrun⟩ := hx
    cases hq.symm.trans hq'
    obtain ⟨hpn, ⟨hmax, hck2⟩, hcls, hck⟩ := dgs q (List.mem_of_getElem? hq)
    unfold dMet
    refine Met.ofW (cc := q.2.1) (maxL := q.2.2.1) (ret := q.2.2.2.1) hpn rfl ?_
    intro p e s m args below meth c s₁ B hml hv
    obtain ⟨rfl, hok, hE, hS⟩ := hv
    have hx := B.exec
    have hb := B.bytes
    have hr := B.returns
    have hts := atoms_spec (ws := Cond.code q.1 q.2.1 q.2.2.1 q.2.2.2.1 :: dWd) B.pre
    have hown : s.vm.findClass (don q.2.2.2.2.1) = some m.cls := by rw [← hcls]; exact findClass_of_methodNamed B.named
    have hlocks := B.notSynchronized
    have hsl := dsl_len (ad := ad) hf as
    have hl := lv_entry (as.map (dval ad fm)) (n := q.2.2.1) (by rw [hsl]; exact hlen)
    rw [lg_entry_eq]
    generalize (lg_sl (as.map (dval ad fm)) ++ List.replicate (q.2.2.1 - (lg_sl (as.map (dval ad fm))).length) Slot.unset).toArray = ls at hl ⊢
    have hloc : dLoc ad fm (as.map some ++ List.replicate (q.2.2.1 - as.length) none) q.2.2.1 ls := ⟨hl.1, hl.2.1, fun z hz => hl.2.2 z (dlp_args hf as 0 _ z hz)⟩
    have hS0 : va_S (dAm ad) s.heap s.heap [] := va_S.rf
    refine d_sound (A := dAm ad) (Ts := Cond.code q.1 q.2.1 q.2.2.1 q.2.2.2.1 :: dWd) (d := d) (K := dEnd q.2.2.2.2.2 r) hx hb hml hown hts (dWd_cons _) hE (fun κ h => ⟨κ, h, rfl⟩) hi hf ⟨Nat.le_refl _, ?_, Nat.le_refl _, Nat.le_refl _⟩ hck hck2 (fun mid as h r q => ih mid as h r q) ?_ n 0 _ [] h hrun s.heap [] ls (by simp; omega) (dOkL_init hok) (fun _ h => by cases h) hloc hS hS0
    · show 40 * d + 40 ≤ 40 * (d + 1)
      omega
    · intro pc L st h H locs ls hK hLl hLo hst hLc hS hS0
      obtain ⟨G, hg, g⟩ := hK
      cases hop : dop q.2.2.2.2.2 pc with
      | none => simp only [dfin, hop] at hg; cases hg
      | some op =>
      obtain ⟨i, len, hd, he⟩ := dchk_at hck hop
      obtain ⟨k, a, b, nx, v, ts⟩ := op
      obtain ⟨r36, r37, r42⟩ := denc_ret he
      have hF : ∀ t : State, t.heap = H → va_F (dAm ad) s t := fun t ht => hS0.F ht
      simp only [dfin, hop] at hg
      split at hg
      · rename_i z; cases z
        obtain ⟨rfl, rfl, e3⟩ := r36 rfl
        split at hg
        · cases hg
          exact W.iret hx hb (by rw [hr]; exact e3) (fun t ht hW => ⟨rfl, fun v hv => by cases hv; rfl, by rw [ht]; exact hS, hF t ht⟩) hS0.2.2 hd
        · cases hg
      · rename_i z; cases z
        obtain ⟨rfl, rfl⟩ := r37 rfl
        split at hg
        · cases hg
          have hr0 : meth.sig.returnType = none := by
            rw [hr]
            have := List.all_eq_true.mp dret37 q (List.mem_of_getElem? hq)
            exact dret37_at this hop
          exact W.vret hx hb hr0 (fun t ht hW => ⟨rfl, fun v hv => (by cases hv), by rw [ht]; exact hS, hF t ht⟩) hS0.2.2 hd
        · cases hg
      · rename_i z; cases z
        obtain ⟨rfl, rfl, e3⟩ := r42 rfl
        split at hg
        · cases hg
          exact W.zret hx hb (by rw [hr]; exact e3) (by rcases g with rfl | rfl <;> rfl) (fun t ht hW => ⟨rfl, fun v hv => by cases hv; rfl, by rw [ht]; exact hS, hF t ht⟩) hS0.2.2 hd
        · cases hg
      · cases hg
end
