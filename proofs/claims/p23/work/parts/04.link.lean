/-! links: what the constant pools name, with the places of the words among lw_tbl -/
def don : Nat → String
  | 0 => "DiskDrawer$State"
  | 1 => "DiskDrawer$Disk"
  | 2 => "DiskDrawer$Read"
  | 3 => "DiskDrawer"
  | 4 => "DiskDrawer$Past"
  | 5 => "DiskDrawer$Program"
  | _ => "DiskDrawerLaw"
def dfl : List (Nat × Nat × Nat × Nat × Nat) := [(0, 9, 0, 0, 107), (0, 17, 0, 1, 109), (0, 23, 0, 2, 111), (0, 36, 0, 3, 113), (0, 43, 0, 4, 115), (0, 46, 0, 5, 116), (0, 49, 0, 6, 117), (0, 52, 0, 7, 118), (0, 55, 0, 8, 119), (0, 58, 0, 9, 120), (0, 61, 0, 10, 122), (0, 65, 0, 11, 124), (0, 68, 0, 12, 125), (0, 71, 0, 13, 126), (0, 74, 0, 14, 127), (0, 91, 1, 0, 50), (0, 94, 2, 0, 86), (0, 97, 2, 1, 88), (0, 100, 2, 2, 91), (0, 101, 2, 3, 93), (0, 104, 2, 4, 95), (0, 107, 1, 6, 63), (0, 115, 1, 5, 61), (0, 152, 1, 1, 53), (0, 164, 1, 3, 57), (0, 193, 1, 2, 55), (0, 196, 1, 4, 59), (1, 9, 1, 0, 49), (1, 15, 1, 1, 52), (1, 18, 1, 2, 54), (1, 21, 1, 3, 56), (1, 24, 1, 4, 58), (1, 27, 1, 5, 60), (1, 31, 1, 6, 62), (2, 7, 2, 0, 85), (2, 13, 2, 1, 87), (2, 16, 2, 2, 90), (2, 19, 2, 3, 92), (2, 22, 2, 4, 94), (3, 12, 3, 0, 203), (3, 16, 3, 1, 204), (3, 29, 3, 4, 207), (3, 36, 3, 5, 208), (3, 75, 5, 1, 183), (3, 110, 4, 1, 170), (3, 131, 0, 1, 110), (3, 135, 0, 2, 112), (3, 139, 2, 1, 89), (3, 144, 0, 10, 123), (3, 150, 1, 0, 51), (3, 172, 0, 9, 121), (3, 182, 0, 0, 108), (3, 185, 0, 3, 114), (4, 11, 4, 0, 168), (4, 18, 4, 1, 169)]
def dcl : List (Nat × Nat × Nat × Nat × Nat × Nat × Nat × Nat × Nat × Nat) := [(0, 32, 3, 1, 0, 289, 290, 291, 19, 292), (0, 40, 4, 1, 0, 293, 294, 295, 20, 296), (0, 77, 6, 3, 2, 240, 241, 0, 17, 242), (0, 87, 11, 1, 1, 301, 302, 0, 18, 303), (0, 108, 14, 1, 0, 266, 267, 268, 18, 269), (0, 112, 15, 0, 0, 320, 322, 4, 18, 323), (0, 118, 18, 1, 2, 247, 248, 0, 17, 249), (0, 122, 21, 0, 0, 340, 341, 342, 19, 343), (0, 125, 25, 0, 0, 250, 251, 252, 18, 253), (0, 130, 29, 0, 0, 377, 378, 379, 18, 380), (0, 133, 30, 0, 0, 381, 383, 5, 18, 384), (0, 136, 31, 0, 0, 386, 388, 6, 18, 389), (0, 139, 35, 0, 0, 402, 404, 8, 18, 405), (0, 142, 37, 1, 0, 410, 412, 10, 18, 413), (0, 146, 42, 0, 0, 426, 428, 13, 18, 429), (0, 149, 22, 0, 0, 385, 345, 346, 19, 347), (0, 155, 32, 0, 0, 390, 391, 392, 19, 393), (0, 158, 33, 1, 0, 394, 396, 7, 18, 397), (0, 161, 34, 0, 0, 398, 399, 400, 19, 401), (0, 167, 36, 1, 0, 406, 408, 9, 18, 409), (0, 170, 38, 1, 0, 243, 245, 0, 18, 246), (0, 173, 39, 2, 0, 414, 416, 11, 18, 417), (0, 177, 41, 1, 0, 422, 423, 424, 19, 425), (0, 180, 40, 0, 0, 418, 420, 12, 18, 421), (0, 189, 26, 1, 0, 254, 256, 1, 18, 257), (0, 197, 77, 1, 0, 270, 272, 2, 18, 273), (1, 34, 22, 0, 0, 344, 345, 346, 19, 347), (3, 40, 1, 1, 0, 281, 282, 283, 21, 284), (3, 44, 5, 2, 0, 360, 361, 362, 18, 363), (3, 48, 7, 1, 0, 304, 305, 306, 21, 307), (3, 52, 10, 2, 0, 297, 298, 299, 18, 300), (3, 55, 13, 1, 0, 316, 317, 318, 18, 319), (3, 58, 17, 1, 0, 328, 329, 330, 18, 331), (3, 61, 20, 1, 0, 336, 337, 338, 18, 339), (3, 64, 24, 0, 0, 352, 353, 354, 18, 355), (3, 68, 28, 1, 0, 372, 373, 374, 18, 375), (3, 106, 70, 1, 0, 473, 474, 475, 21, 476), (3, 113, 2, 1, 0, 466, 286, 287, 18, 288), (3, 119, 74, 2, 0, 440, 441, 442, 18, 443), (3, 122, 76, 2, 0, 262, 263, 264, 18, 265), (3, 125, 79, 0, 0, 451, 452, 453, 18, 454), (3, 128, 14, 1, 0, 465, 267, 268, 18, 269), (3, 147, 29, 0, 0, 467, 378, 379, 18, 380), (3, 161, 6, 3, 1, 486, 241, 0, 17, 242), (3, 165, 82, 2, 0, 487, 489, 14, 17, 490), (3, 168, 83, 1, 0, 491, 493, 15, 17, 494), (3, 175, 18, 1, 1, 495, 248, 0, 17, 249), (3, 179, 86, 1, 0, 236, 237, 238, 18, 239), (4, 22, 2, 1, 0, 285, 286, 287, 18, 288), (4, 26, 8, 0, 0, 308, 310, 3, 21, 311), (11, 8, 85, 1, 0, 232, 233, 234, 17, 235), (11, 14, 88, 2, 1, 225, 226, 0, 16, 227), (11, 20, 75, 2, 0, 258, 259, 260, 17, 261), (11, 23, 9, 2, 0, 277, 278, 279, 17, 280), (11, 26, 89, 2, 1, 229, 230, 0, 16, 231), (11, 30, 12, 1, 0, 312, 313, 314, 17, 315), (11, 33, 16, 1, 0, 324, 325, 326, 17, 327), (11, 36, 19, 1, 0, 332, 333, 334, 17, 335), (11, 39, 23, 0, 0, 348, 349, 350, 17, 351), (11, 43, 0, 2, 0, 356, 357, 358, 17, 359), (11, 46, 27, 1, 0, 368, 369, 370, 17, 371), (11, 49, 73, 2, 0, 436, 437, 438, 17, 439), (11, 52, 91, 2, 1, 444, 445, 0, 16, 446), (11, 55, 78, 0, 0, 447, 448, 449, 17, 450), (11, 58, 80, 1, 0, 461, 462, 463, 17, 464), (11, 62, 69, 0, 0, 469, 470, 471, 17, 472), (11, 65, 81, 2, 0, 480, 481, 482, 17, 483), (11, 68, 84, 0, 0, 496, 497, 498, 17, 499), (11, 72, 87, 2, 1, 222, 223, 0, 16, 224), (11, 76, 90, 2, 1, 274, 275, 0, 16, 276), (11, 86, 92, 2, 1, 458, 459, 0, 16, 460), (11, 90, 93, 2, 1, 477, 478, 0, 16, 479)]
def dTX0 : u_T := fun k => match k with
  | 0 => ("DiskDrawer$State", "numbers", "[I", true)
  | 1 => ("DiskDrawer$State", "disks", "[LDiskDrawer$Disk;", true)
  | 2 => ("DiskDrawer$State", "reads", "[LDiskDrawer$Read;", true)
  | 3 => ("DiskDrawer$State", "readCount", "I", false)
  | 4 => ("DiskDrawer$State", "readsSoFar", "I", false)
  | 5 => ("DiskDrawer$State", "answered", "I", false)
  | 6 => ("DiskDrawer$State", "lost", "I", false)
  | 7 => ("DiskDrawer$State", "waited", "I", false)
  | 8 => ("DiskDrawer$State", "ticks", "I", false)
  | 9 => ("DiskDrawer$State", "peak", "I", false)
  | 10 => ("DiskDrawer$State", "blown", "Z", false)
  | 11 => ("DiskDrawer$State", "hot", "I", false)
  | 12 => ("DiskDrawer$State", "fusesBlown", "I", false)
  | 13 => ("DiskDrawer$State", "starts", "I", false)
  | _ => ("DiskDrawer$State", "failedStarts", "I", false)
def dTY0 : Nat → FieldType := fun k => match k with
  | 0 => .array .int
  | 1 => .array (.object "DiskDrawer$Disk")
  | 2 => .array (.object "DiskDrawer$Read")
  | 3 => .int
  | 4 => .int
  | 5 => .int
  | 6 => .int
  | 7 => .int
  | 8 => .int
  | 9 => .int
  | 10 => .boolean
  | 11 => .int
  | 12 => .int
  | 13 => .int
  | _ => .int
def dTX1 : u_T := fun k => match k with
  | 0 => ("DiskDrawer$Disk", "doing", "I", false)
  | 1 => ("DiskDrawer$Disk", "startLeft", "I", false)
  | 2 => ("DiskDrawer$Disk", "failures", "I", false)
  | 3 => ("DiskDrawer$Disk", "idle", "I", false)
  | 4 => ("DiskDrawer$Disk", "starts", "I", false)
  | 5 => ("DiskDrawer$Disk", "faultPlanned", "Z", false)
  | _ => ("DiskDrawer$Disk", "readCount", "I", false)
def dTY1 : Nat → FieldType := fun k => match k with
  | 0 => .int
  | 1 => .int
  | 2 => .int
  | 3 => .int
  | 4 => .int
  | 5 => .boolean
  | _ => .int
def dTX2 : u_T := fun k => match k with
  | 0 => ("DiskDrawer$Read", "number", "I", false)
  | 1 => ("DiskDrawer$Read", "disk", "I", false)
  | 2 => ("DiskDrawer$Read", "ticks", "I", false)
  | 3 => ("DiskDrawer$Read", "left", "I", false)
  | _ => ("DiskDrawer$Read", "askedAt", "I", false)
def dTY2 : Nat → FieldType := fun k => match k with
  | 0 => .int
  | 1 => .int
  | 2 => .int
  | 3 => .int
  | _ => .int
def dTX3 : u_T := fun k => match k with
  | 0 => ("DiskDrawer", "now", "LDiskDrawer$State;", true)
  | 1 => ("DiskDrawer", "trial", "LDiskDrawer$State;", true)
  | 2 => ("DiskDrawer", "snapshot", "LDiskDrawer$State;", true)
  | 3 => ("DiskDrawer", "hasSnapshot", "Z", false)
  | 4 => ("DiskDrawer", "past", "LDiskDrawer$Past;", true)
  | _ => ("DiskDrawer", "program", "LDiskDrawer$Program;", true)
def dTY3 : Nat → FieldType := fun k => match k with
  | 0 => .object "DiskDrawer$State"
  | 1 => .object "DiskDrawer$State"
  | 2 => .object "DiskDrawer$State"
  | 3 => .boolean
  | 4 => .object "DiskDrawer$Past"
  | _ => .object "DiskDrawer$Program"
def dTX4 : u_T := fun k => match k with
  | 0 => ("DiskDrawer$Past", "rows", "[LDiskDrawer$State;", true)
  | _ => ("DiskDrawer$Past", "size", "I", false)
def dTY4 : Nat → FieldType := fun k => match k with
  | 0 => .array (.object "DiskDrawer$State")
  | _ => .int
def dTX5 : u_T := fun k => match k with
  | 0 => ("DiskDrawer$Program", "text", "[C", true)
  | 1 => ("DiskDrawer$Program", "length", "I", false)
  | 2 => ("DiskDrawer$Program", "kinds", "[I", true)
  | 3 => ("DiskDrawer$Program", "firsts", "[I", true)
  | 4 => ("DiskDrawer$Program", "seconds", "[I", true)
  | 5 => ("DiskDrawer$Program", "commands", "I", false)
  | _ => ("DiskDrawer$Program", "at", "I", false)
def dTY5 : Nat → FieldType := fun k => match k with
  | 0 => .array .char
  | 1 => .int
  | 2 => .array .int
  | 3 => .array .int
  | 4 => .array .int
  | 5 => .int
  | _ => .int
def dclasses : List vw_C := [("DiskDrawer$State", dTX0, 15), ("DiskDrawer$Disk", dTX1, 7), ("DiskDrawer$Read", dTX2, 5), ("DiskDrawer", dTX3, 6), ("DiskDrawer$Past", dTX4, 2), ("DiskDrawer$Program", dTX5, 7)]
def dnf : Nat → Nat
  | 0 => 15
  | 1 => 7
  | 2 => 5
  | 3 => 6
  | 4 => 2
  | 5 => 7
  | _ => 0
def dTX : Nat → u_T
  | 0 => dTX0
  | 1 => dTX1
  | 2 => dTX2
  | 3 => dTX3
  | 4 => dTX4
  | _ => dTX5
def dTY : Nat → Nat → FieldType
  | 0 => dTY0
  | 1 => dTY1
  | 2 => dTY2
  | 3 => dTY3
  | 4 => dTY4
  | _ => dTY5
def dfld (o x : Nat) : Option (Nat × Nat) := (dfl.find? (fun e => Nat.beq e.1 o && Nat.beq e.2.1 x)).map (fun e => (e.2.2.1, e.2.2.2.1))
def dfz (ci k : Nat) : Bool := (Nat.beq ci 0 && Nat.beq k 10) || (Nat.beq ci 1 && Nat.beq k 5) || (Nat.beq ci 3 && Nat.beq k 3)
def dcal (o x : Nat) : Option (Nat × Nat × Nat) := (dcl.find? (fun e => Nat.beq e.1 o && Nat.beq e.2.1 x)).map (fun e => (e.2.2.1, e.2.2.2.1, e.2.2.2.2.1))
def dgst (o x nx : Nat) : Option DOp := match o, x with
  | 3, 155 => some (8, 32, 1, nx, 0, [])
  | 3, 158 => some (8, 32, 2, nx, 0, [])
  | 0, 81 => some (8, 32, 1, nx, 0, [])
  | 0, 84 => some (8, 32, 2, nx, 0, [])
  | _, _ => none
def dldc (o x nx : Nat) : Option DOp := match o, x with
  | 0, 129 => some (0, 0, 0, nx, 99999, [])
  | 11, 7 => some (0, 0, 0, nx, 2147483647, [])
  | 11, 61 => some (0, 0, 0, nx, 99000, [])
  | _, _ => none
def dcnd : Jvm.ClassFile.Cond → Nat
  | .eq => 0 | .ne => 1 | .lt => 2 | .ge => 3 | .gt => 4 | .le => 5
def dtgt (pc : Nat) (off : Int) : Option Nat := if 0 ≤ (pc : Int) + off then some ((pc : Int) + off).toNat else none
def dtgts (pc : Nat) : List Int → Option (List Nat)
  | [] => some []
  | o :: os => match dtgt pc o, dtgts pc os with
    | some t, some ts => some (t :: ts)
    | _, _ => none
/-- an instruction of a method of class o as one of the abstract machine -/
def denc (o : Nat) (rt : Option FieldType) (pc : Nat) (i : Instr) (len : Nat) : Option DOp := match i, len with
  | .iconst n, 1 => some (0, 0, 0, pc + 1, Int32.ofInt n, [])
  | .bipush n, 2 => some (0, 0, 0, pc + 2, (Int8.ofInt n).toInt32, [])
  | .sipush n, 3 => some (0, 0, 0, pc + 3, (Int16.ofInt n).toInt32, [])
  | .ldc x, 2 => dldc o x (pc + 2)
  | .iload_n k, 1 => some (1, k.val, 0, pc + 1, 0, [])
  | .iload k, 2 => some (1, k, 0, pc + 2, 0, [])
  | .aload_n k, 1 => some (2, k.val, 0, pc + 1, 0, [])
  | .aload k, 2 => some (2, k, 0, pc + 2, 0, [])
  | .istore_n k, 1 => some (3, k.val, 0, pc + 1, 0, [])
  | .istore k, 2 => some (3, k, 0, pc + 2, 0, [])
  | .astore_n k, 1 => some (4, k.val, 0, pc + 1, 0, [])
  | .astore k, 2 => some (4, k, 0, pc + 2, 0, [])
  | .getfield x, 3 => match dfld o x with
    | some (ci, k) => some (5, ci, k, pc + 3, 0, [])
    | none => none
  | .putfield x, 3 => match dfld o x with
    | some (ci, k) => bif dfz ci k then some (7, ci, k, pc + 3, 0, []) else some (6, ci, k, pc + 3, 0, [])
    | none => none
  | .getstatic x, 3 => dgst o x (pc + 3)
  | .iaload, 1 => some (10, 0, 0, pc + 1, 0, [])
  | .iastore, 1 => some (11, 0, 0, pc + 1, 0, [])
  | .aaload, 1 => some (12, 0, 0, pc + 1, 0, [])
  | .aastore, 1 => some (13, 0, 0, pc + 1, 0, [])
  | .arraylength, 1 => some (18, 0, 0, pc + 1, 0, [])
  | .iadd, 1 => some (19, 0, 0, pc + 1, 0, [])
  | .isub, 1 => some (20, 0, 0, pc + 1, 0, [])
  | .imul, 1 => some (21, 0, 0, pc + 1, 0, [])
  | .iand, 1 => some (22, 0, 0, pc + 1, 0, [])
  | .ior, 1 => some (23, 0, 0, pc + 1, 0, [])
  | .ishl, 1 => some (24, 0, 0, pc + 1, 0, [])
  | .ishr, 1 => some (41, 0, 0, pc + 1, 0, [])
  | .irem, 1 => some (46, 0, 0, pc + 1, 0, [])
  | .iinc k n, 3 => some (25, k, 0, pc + 3, Int32.ofInt n, [])
  | .ifCond c off, 3 => match dtgt pc off with
    | some t => some (26, t, dcnd c, pc + 3, 0, [])
    | none => none
  | .if_icmp c off, 3 => match dtgt pc off with
    | some t => some (27, t, dcnd c, pc + 3, 0, [])
    | none => none
  | .goto off, 3 => match dtgt pc off with
    | some t => some (28, t, 0, pc + 3, 0, [])
    | none => none
  | .tableswitch d lo hi offs, n => match dtgt pc d, dtgts pc offs.toList with
    | some t, some ts => bif decide (0 ≤ lo) && decide (hi < 1000) && decide ((ts.length : Int) = hi - lo + 1) && decide (offs.size = ts.length) then some (29, t, 0, pc + n, Int32.ofInt lo, ts) else none
    | _, _ => none
  | .dup, 1 => some (30, 0, 0, pc + 1, 0, [])
  | .dup2, 1 => some (31, 0, 0, pc + 1, 0, [])
  | .invokevirtual x, 3 => match dcal o x with
    | some (mid, n, 0) => match dms[mid]? with
      | some q => some (34, mid, n, pc + 3, 0, [q.2.2.2.2.1])
      | none => none
    | _ => none
  | .invokestatic x, 3 => bif Nat.beq o 0 && Nat.beq x 183 then some (45, 0, 0, pc + 3, 0, []) else match dcal o x with
    | some (_, _, 0) => none
    | some (mid, n, _) => some (35, mid, n, pc + 3, 0, [])
    | none => none
  | .ireturn, 1 => match rt with
    | some .int => some (36, 0, 0, pc + 1, 0, [])
    | some .boolean => some (42, 0, 0, pc + 1, 0, [])
    | _ => none
  | .return_, 1 => some (37, 0, 0, pc + 1, 0, [])
  | _, _ => none
def deq (a b : DOp) : Bool := decide (a.1 = b.1) && decide (a.2.1 = b.2.1) && decide (a.2.2.1 = b.2.2.1) && decide (a.2.2.2.1 = b.2.2.2.1) && decide (a.2.2.2.2.1 = b.2.2.2.2.1) && decide (a.2.2.2.2.2 = b.2.2.2.2.2)
theorem deq_eq {a b : DOp} (h : deq a b = true) : a = b := by
  obtain ⟨a1, a2, a3, a4, a5, a6⟩ := a
  obtain ⟨b1, b2, b3, b4, b5, b6⟩ := b
  simp only [deq, Bool.and_eq_true, decide_eq_true_eq] at h
  obtain ⟨⟨⟨⟨⟨h1, h2⟩, h3⟩, h4⟩, h5⟩, h6⟩ := h
  rw [h1, h2, h3, h4, h5, h6]
def dchk (o : Nat) (rt : Option FieldType) (c : ByteArray) (T : DTbl) : Bool := (List.range T.length).all fun pc => match T.getD pc none with
  | none => true
  | some q => match decode c pc with
    | .ok (i, len) => match denc o rt pc i len with
      | some q' => deq q' q
      | none => false
    | .error _ => false
def dchk2 (T : DTbl) (n : Nat) : Bool := T.all fun o => match o with
  | some (3, a, _) => decide (a < n)
  | some (4, a, _) => decide (a < n)
  | some (25, a, _) => decide (a < n)
  | _ => true
def dGood (q : DM) : Prop := plainName q.1.cls = true ∧ (q.2.2.1 ≤ 21 ∧ dchk2 q.2.2.2.2.2 q.2.2.1 = true) ∧ q.1.cls = don q.2.2.2.2.1 ∧ dchk q.2.2.2.2.1 q.2.2.2.1 q.2.1 q.2.2.2.2.2 = true
def dWd : List Cond := lw_tbl.filter goodWord
theorem dWd_of {i : Nat} {w : Cond} (h : lw_tbl[i]? = some w) (g : goodWord w = true) : w ∈ dWd := List.mem_filter.mpr ⟨List.mem_of_getElem? h, g⟩
theorem dWd_good : GoodIn lw_tbl dWd := fun w h => ⟨(List.mem_filter.mp h).1, good_of_word (List.mem_filter.mp h).2⟩
theorem dWd_cons (c : Cond) : GoodIn (c :: dWd) dWd := fun w h => ⟨List.mem_cons_of_mem _ h, good_of_word (List.mem_filter.mp h).2⟩
def dflOK (e : Nat × Nat × Nat × Nat × Nat) : Bool := decide (lw_tbl[e.2.2.2.2]? = some (.fieldLink (don e.1) e.2.1 (dTX e.2.2.1 e.2.2.2.1).1 (dTX e.2.2.1 e.2.2.2.1).2.1 (dTX e.2.2.1 e.2.2.2.1).2.2.1)) && decide (e.2.2.2.1 < dnf e.2.2.1) && decide (e.2.2.1 < 6)
def dclOK (e : Nat × Nat × Nat × Nat × Nat × Nat × Nat × Nat × Nat × Nat) : Bool := match dms[e.2.2.1]? with
  | none => false
  | some q => match e with
    | (o, x, _, n, kd, p0, p1, p2, p3, p4) =>
      decide (q.1.cls ≠ "java/lang/invoke/MethodHandle" ∧ q.1.cls ≠ "java/lang/invoke/VarHandle" ∧ (parseMethodDescriptor q.1.desc).map (fun d => d.parameters.length) = some n) && decide (lw_tbl[p3]? = some (.initialized q.1.cls)) && decide (lw_tbl[p4]? = some (.code q.1 q.2.1 q.2.2.1 q.2.2.2.1)) &&
      (match kd with
      | 0 => decide (lw_tbl[p0]? = some (.methodLink (don o) x q.1)) && decide (lw_tbl[p1]? = some (.instanceMethod q.1)) && decide (lw_tbl[p2]? = some (.selects q.1.cls q.1 q.1))
      | 1 => decide (lw_tbl[p0]? = some (.methodLink (don o) x q.1)) && decide (lw_tbl[p1]? = some (.static q.1))
      | _ => decide (lw_tbl[p0]? = some (.methodLinkNest (don o) x q.1 "DiskDrawer")) && decide (lw_tbl[p1]? = some (.static q.1)))
set_option maxRecDepth 100000 in
theorem dfl_ok : dfl.all dflOK = true := by decide +kernel
