/-! a state is made -/
def gS (ca : Nat → ClassId) (a n0 i j k : Nat) : Nat → Option va_E := fun b =>
  if b = a then some (.inr (0, (((bls 0).set 0 (.ref n0)).set 1 (.ref (n0 + 1))).set 2 (.ref (n0 + 2))))
  else if b = n0 then some (.inl (ca 0, 10, .inl (fun q => if q < i then dcst 0 q else 0)))
  else if b = n0 + 1 then some (.inl (ca 1, 12, .inr (.inr (.inr (.inr (fun q => if q < j then some (n0 + 3 + q) else none))))))
  else if b = n0 + 2 then some (.inl (ca 2, 30, .inr (.inr (.inr (.inr (fun q => if q < k then some (n0 + 15 + q) else none))))))
  else if n0 + 3 ≤ b ∧ b < n0 + 3 + j then some (.inr (1, bls 1))
  else if n0 + 15 ≤ b ∧ b < n0 + 15 + k then some (.inr (2, bls 2))
  else none
def rmS : Room := { frames := 2, cells := 45, slots := 286, locals := 40 }
theorem va_S.weak {A B : Nat → Prop} {H0 H : Heap} {locs : List Loc} (hAB : ∀ q, A q → B q) (h : va_S A H0 H locs) : va_S B H0 H locs := ⟨h.1, fun q h1 h2 => h.2.1 q h1 (fun t => h2 (hAB _ t)), fun l hl => hAB _ (h.2.2 l hl)⟩
theorem nI_up (i : Nat) : nI i + Int32.ofInt 1 = nI (i + 1) := (Int32.ofNat_add i 1).symm
section CST
variable {p : Program} {l : Launch} {e : Env} {s : State} {m : MethodId} {args : Array Value} {below : List Frame} {meth : Method} {c : Code} {H : Heap} {locs : List Loc} {cells slots : Nat} {Q : State → Prop} {R : Room}
variable {ls : Array Slot} {Ts : List Cond} {n0 a : Nat} {D : va_G} {ad : DKey → Nat} {ca : Nat → ClassId} {fm : Value} {xs : Nat → Int32} {SL z0 : Nat}
theorem cS_1 (C : Cx p s m args c prog_6_method_1_code 0 Ts D ad ca fm xs SL (fun q => z0 ≤ q)) (hA0 : ∀ q, cA a n0 q → z0 ≤ q) (hne : a < n0)
    (kk : ∀ (ls : Array Slot) (H : Heap) (locs : List Loc), lv_has ls 2 [(1, .int (nI 10)), (0, .ref a)] → BW D (n0 + 3) (gS ca a n0 10 0 0) H → va_S (cA a n0) s.heap H locs → W p l e R s m args below meth c H locs cells slots Q (F0 m 55 ls [])) :
    ∀ (r i : Nat) (ls : Array Slot) (H : Heap) (locs : List Loc), i + r = 10 → lv_has ls 2 [(1, .int (nI i)), (0, .ref a)] → BW D (n0 + 3) (gS ca a n0 i 0 0) H → va_S (cA a n0) s.heap H locs → W p l e R s m args below meth c H locs cells slots Q (F0 m 32 ls []) := by
  intro r
  induction r with
  | zero =>
    intro i ls H locs hi hlv hB hS
    obtain rfl : i = 10 := hi
    refine lv_iload_n (pc := 32) (k := 1) (i := 1) C.1 C.2.1 (by decide +kernel) rfl (lv_at hlv 0 rfl) ?_
    refine lv_bipush (pc := 33) (n := 10) (v := nI 10) C.1 C.2.1 (by decide +kernel) rfl ?_
    refine lv_icmp_ge (pc := 35) (off := 20) (tgt := 55) C.1 C.2.1 (by decide +kernel) rfl (fun _ => kk ls H locs hlv hB hS) (fun q => absurd (Int32.le_refl _) q)
  | succ r ih =>
    intro i ls H locs hi hlv hB hS
    have hi10 : i < 10 := by omega
    refine lv_iload_n (pc := 32) (k := 1) (i := 1) C.1 C.2.1 (by decide +kernel) rfl (lv_at hlv 0 rfl) ?_
    refine lv_bipush (pc := 33) (n := 10) (v := nI 10) C.1 C.2.1 (by decide +kernel) rfl ?_
    refine lv_icmp_ge (pc := 35) (off := 20) (tgt := 55) C.1 C.2.1 (by decide +kernel) rfl (fun q => absurd q (i_ge hi10 (by decide))) (fun _ => ?_)
    refine lv_aload_n (pc := 38) (k := 0) (i := 0) (x := a) C.1 C.2.1 (by decide +kernel) rfl (lv_at hlv 1 rfl) ?_
    refine b_get (pc := 39) (idx := 9) (ci := 0) (k := 0) (v := .ref n0) C hB (by decide) (if_pos rfl) (by decide) (dWd_of (i := 107) (by decide +kernel) rfl) rfl (by decide +kernel) ?_
    refine lv_iload_n (pc := 42) (k := 1) (i := 1) C.1 C.2.1 (by decide +kernel) rfl (lv_at hlv 0 rfl) ?_
    have hE := C.2.2.2.2.2.1
    have hS' : va_S (fun q => z0 ≤ q) s.heap H locs := hS.weak hA0
    refine va_getsN (pc := 43) (index := 27) C.1 C.2.1 (hE.2.2.1 0 (by decide)).1 hS' C.2.2.1 (va_Nw.use rfl (hE.2.1 (.fieldLinkNest "DiskDrawer$State" 27 "DiskDrawer" "AT_FIRST" "[I" "DiskDrawer") (List.mem_filter.mpr ⟨List.mem_of_getElem? (i := 42) (by decide +kernel), rfl⟩))) (fun _ z => z) (by decide +kernel) ?_
    refine lv_iload_n (pc := 46) (k := 1) (i := 1) C.1 C.2.1 (by decide +kernel) rfl (lv_at hlv 0 rfl) ?_
    refine va_ti (pc := 47) (v := .int (dcst 0 i)) C.1 C.2.1 (hE.2.2.1 0 (by decide)).2 hS' (i_in hi10 (by decide)) (by rw [i_cl (by omega)]) (by decide +kernel) ?_
    have hn0 : gS ca a n0 i 0 0 n0 = some (.inl (ca 0, 10, .inl (fun q => if q < i then dcst 0 q else 0))) := by
      unfold gS
      rw [if_neg (by omega), if_pos rfl]
    refine b_iast (pc := 48) C hB hS hn0 (Or.inr (Nat.le_refl _)) (i_in hi10 (by decide)) (by decide +kernel) fun H1 locs1 hB1 hS1 => ?_
    refine lv_iinc (pc := 49) (i := 1) (n := 1) (k := 0) (lv' := [(1, .int (nI (i + 1))), (0, .ref a)]) C.1 C.2.1 (by decide +kernel) hlv rfl (nI_up i) (by decide) rfl fun ls' hlv' => ?_
    refine lv_goto (pc := 52) (off := -20) (tgt := 32) C.1 C.2.1 (by decide +kernel) rfl ?_
    refine ih (i + 1) ls' H1 locs1 (by omega) hlv' (hB1.sub fun b e hb => ?_) hS1
    by_cases q : b = n0
    · subst q
      rw [fu_s]
      unfold gS at hb
      rw [if_neg (by omega), if_pos rfl] at hb
      rw [← hb, i_cl (by omega)]
      congr 5
      funext q
      unfold upd
      by_cases z : q = i
      · subst z
        rw [if_pos rfl, if_pos (by omega)]
      · rw [if_neg z]
        dsimp only
        by_cases z2 : q < i
        · rw [if_pos z2, if_pos (by omega)]
        · rw [if_neg z2, if_neg (by omega)]
    · rw [fu_n _ _ q]
      unfold gS at hb ⊢
      rw [if_neg q] at hb ⊢
      exact hb
theorem cS_2 (C : Cx p s m args c prog_6_method_1_code 0 Ts D ad ca fm xs SL (fun q => z0 ≤ q)) (hml : c.maxLocals = 2) (hA0 : ∀ q, cA a n0 q → z0 ≤ q) (hne : a < n0) (hn0 : s.heap.size = n0) (hR : R = rmS)
    (kk : ∀ (ls : Array Slot) (H : Heap) (locs : List Loc), lv_has ls 2 [(1, .int (nI 12)), (0, .ref a)] → BW D (n0 + 15) (gS ca a n0 10 12 0) H → va_S (cA a n0) s.heap H locs → W p l e R s m args below meth c H locs 15 136 Q (F0 m 82 ls [])) :
    ∀ (r i : Nat) (ls : Array Slot) (H : Heap) (locs : List Loc) (cells slots : Nat), i + r = 12 → cells = 3 + i → slots = 52 + 7 * i → lv_has ls 2 [(1, .int (nI i)), (0, .ref a)] → BW D (n0 + 3 + i) (gS ca a n0 10 i 0) H → va_S (cA a n0) s.heap H locs → W p l e R s m args below meth c H locs cells slots Q (F0 m 57 ls []) := by
  have hAn : ∀ q, s.heap.size ≤ q → cA a n0 q := fun q hq => Or.inr (by omega)
  intro r
  induction r with
  | zero =>
    intro i ls H locs cells slots hi hc hs hlv hB hS
    obtain rfl : i = 12 := hi
    subst hc hs
    refine lv_iload_n (pc := 57) (k := 1) (i := 1) C.1 C.2.1 (by decide +kernel) rfl (lv_at hlv 0 rfl) ?_
    refine lv_bipush (pc := 58) (n := 12) (v := nI 12) C.1 C.2.1 (by decide +kernel) rfl ?_
    refine lv_icmp_ge (pc := 60) (off := 22) (tgt := 82) C.1 C.2.1 (by decide +kernel) rfl (fun _ => kk ls H locs hlv hB hS) (fun q => absurd (Int32.le_refl _) q)
  | succ r ih =>
    intro i ls H locs cells slots hi hc hs hlv hB hS
    have hi10 : i < 12 := by omega
    subst hR
    refine lv_iload_n (pc := 57) (k := 1) (i := 1) C.1 C.2.1 (by decide +kernel) rfl (lv_at hlv 0 rfl) ?_
    refine lv_bipush (pc := 58) (n := 12) (v := nI 12) C.1 C.2.1 (by decide +kernel) rfl ?_
    refine lv_icmp_ge (pc := 60) (off := 22) (tgt := 82) C.1 C.2.1 (by decide +kernel) rfl (fun q => absurd q (i_ge hi10 (by decide))) (fun _ => ?_)
    refine lv_aload_n (pc := 63) (k := 0) (i := 0) (x := a) C.1 C.2.1 (by decide +kernel) rfl (lv_at hlv 1 rfl) ?_
    refine b_get (pc := 64) (idx := 17) (ci := 0) (k := 1) (v := .ref (n0 + 1)) C hB (by decide) (if_pos rfl) (by decide) (dWd_of (i := 109) (by decide +kernel) rfl) rfl (by decide +kernel) ?_
    refine lv_iload_n (pc := 67) (k := 1) (i := 1) C.1 C.2.1 (by decide +kernel) rfl (lv_at hlv 0 rfl) ?_
    refine b_new (pc := 68) (idx := 15) (ci := 1) C hB hS (by decide) (dWd_of (i := 38) (by decide +kernel) rfl) (dWd_of (i := 44) (by decide +kernel) rfl) (dWd_of (i := 19) (by decide +kernel) rfl) (by show cells + 1 ≤ 45; omega) (by show slots + 7 ≤ 286; omega) (by decide +kernel) fun H1 hB1 hS1 => ?_
    refine lv_dup (pc := 71) C.1 C.2.1 (by decide +kernel) rfl ?_
    refine b_callN (pc := 72) (idx := 30) (a := n0 + 3 + i) (y := ⟨"DiskDrawer$Disk", "<init>", "()V"⟩) C hml hlv.1 hB1 hS1 hA0 hAn (Or.inr (by omega)) (fu_s _ _ _) (c_Disk l) rfl (by decide +kernel) (dWd_of (i := 47) (by decide +kernel) rfl) (dWd_of (i := 19) (by decide +kernel) rfl) (List.mem_filter.mpr ⟨List.mem_of_getElem? (i := 45) (by decide +kernel), rfl⟩) (dWd_of (i := 46) (by decide +kernel) rfl) (by decide) ⟨by show cells + 1 + 0 ≤ 45; omega, by show slots + 7 + 0 ≤ 286; omega⟩ (by show 3 ≤ 8; decide) (by decide +kernel) fun H2 locs2 hB2 hS2 => ?_
    have hm1 : mix (fu (gS ca a n0 10 i 0) (n0 + 3 + i) (.inr (1, bls 1))) (f1 (n0 + 3 + i) (.inr (1, bls 1))) (n0 + 3 + i) (n0 + 3 + i + 1) (n0 + 1) = some (.inl (ca 1, 12, .inr (.inr (.inr (.inr (fun q => if q < i then some (n0 + 3 + q) else none)))))) := by
      unfold mix
      rw [if_neg (by omega), fu_n _ _ (by omega)]
      unfold gS
      rw [if_neg (by omega), if_neg (by omega), if_pos rfl]
    have hm2 : mix (fu (gS ca a n0 10 i 0) (n0 + 3 + i) (.inr (1, bls 1))) (f1 (n0 + 3 + i) (.inr (1, bls 1))) (n0 + 3 + i) (n0 + 3 + i + 1) (n0 + 3 + i) = some (.inr (1, bls 1)) := by
      unfold mix f1
      rw [if_pos (Or.inl rfl), if_pos rfl]
    refine b_aast (pc := 75) (t := 1) (ci := 1) C hB2 hS2 hm1 rfl (by decide) hm2 (Or.inr (by omega)) (i_in hi10 (by decide)) (by decide +kernel) fun H3 locs3 hB3 hS3 => ?_
    refine lv_iinc (pc := 76) (i := 1) (n := 1) (k := 0) (lv' := [(1, .int (nI (i + 1))), (0, .ref a)]) C.1 C.2.1 (by decide +kernel) hlv rfl (nI_up i) (by decide) rfl fun ls' hlv' => ?_
    refine lv_goto (pc := 79) (off := -22) (tgt := 57) C.1 C.2.1 (by decide +kernel) rfl ?_
    refine ih (i + 1) ls' H3 locs3 _ _ (by omega) (by show cells + 1 + 0 = _; omega) (by show slots + 7 + 0 = _; omega) hlv' (BW.sub (n := n0 + 3 + i + 1) hB3 fun b e hb => ?_) hS3
    by_cases q : b = n0 + 1
    · subst q
      rw [fu_s]
      unfold gS at hb
      rw [if_neg (by omega), if_neg (by omega), if_pos rfl] at hb
      rw [← hb, i_cl (by omega)]
      congr 8
      funext q
      unfold va_up
      by_cases z : q = i
      · subst z
        rw [if_pos rfl, if_pos (by omega)]
      · rw [if_neg z]
        dsimp only
        by_cases z2 : q < i
        · rw [if_pos z2, if_pos (by omega)]
        · rw [if_neg z2, if_neg (by omega)]
    · rw [fu_n _ _ q]
      by_cases q2 : b = n0 + 3 + i
      · subst q2
        rw [hm2]
        unfold gS at hb
        rw [if_neg (by omega), if_neg (by omega), if_neg (by omega), if_neg (by omega), if_pos (by omega)] at hb
        exact hb
      · have q3 : ¬ (n0 + 3 + i + 1 ≤ b) := fun z => by
          unfold gS at hb
          rw [if_neg (by omega), if_neg (by omega), if_neg (by omega), if_neg (by omega), if_neg (by omega), if_neg (by omega)] at hb
          cases hb
        unfold mix
        rw [if_neg (by omega), fu_n _ _ q2]
        unfold gS at hb ⊢
        rw [if_neg q] at hb ⊢
        by_cases z1 : b = a
        · rw [if_pos z1] at hb ⊢; exact hb
        · rw [if_neg z1] at hb ⊢
          by_cases z2 : b = n0
          · rw [if_pos z2] at hb ⊢; exact hb
          · rw [if_neg z2] at hb ⊢
            by_cases z3 : b = n0 + 2
            · rw [if_pos z3] at hb ⊢; exact hb
            · rw [if_neg z3] at hb ⊢
              by_cases z4 : n0 + 3 ≤ b ∧ b < n0 + 3 + i
              · rw [if_pos (by omega)] at hb
                rw [if_pos z4]; exact hb
              · rw [if_neg (by omega), if_neg (by omega)] at hb
                cases hb
theorem cS_3 (C : Cx p s m args c prog_6_method_1_code 0 Ts D ad ca fm xs SL (fun q => z0 ≤ q)) (hml : c.maxLocals = 2) (hA0 : ∀ q, cA a n0 q → z0 ≤ q) (hne : a < n0) (hn0 : s.heap.size = n0) (hR : R = rmS)
    (kk : ∀ (ls : Array Slot) (H : Heap) (locs : List Loc), BW D (n0 + 45) (gS ca a n0 10 12 30) H → va_S (cA a n0) s.heap H locs → W p l e R s m args below meth c H locs 45 286 Q (F0 m 109 ls [])) :
    ∀ (r i : Nat) (ls : Array Slot) (H : Heap) (locs : List Loc) (cells slots : Nat), i + r = 30 → cells = 15 + i → slots = 136 + 5 * i → lv_has ls 2 [(1, .int (nI i)), (0, .ref a)] → BW D (n0 + 15 + i) (gS ca a n0 10 12 i) H → va_S (cA a n0) s.heap H locs → W p l e R s m args below meth c H locs cells slots Q (F0 m 84 ls []) := by
  have hAn : ∀ q, s.heap.size ≤ q → cA a n0 q := fun q hq => Or.inr (by omega)
  intro r
  induction r with
  | zero =>
    intro i ls H locs cells slots hi hc hs hlv hB hS
    obtain rfl : i = 30 := hi
    subst hc hs
    refine lv_iload_n (pc := 84) (k := 1) (i := 1) C.1 C.2.1 (by decide +kernel) rfl (lv_at hlv 0 rfl) ?_
    refine lv_bipush (pc := 85) (n := 30) (v := nI 30) C.1 C.2.1 (by decide +kernel) rfl ?_
    refine lv_icmp_ge (pc := 87) (off := 22) (tgt := 109) C.1 C.2.1 (by decide +kernel) rfl (fun _ => kk ls H locs hB hS) (fun q => absurd (Int32.le_refl _) q)
  | succ r ih =>
    intro i ls H locs cells slots hi hc hs hlv hB hS
    have hi10 : i < 30 := by omega
    subst hR
    refine lv_iload_n (pc := 84) (k := 1) (i := 1) C.1 C.2.1 (by decide +kernel) rfl (lv_at hlv 0 rfl) ?_
    refine lv_bipush (pc := 85) (n := 30) (v := nI 30) C.1 C.2.1 (by decide +kernel) rfl ?_
    refine lv_icmp_ge (pc := 87) (off := 22) (tgt := 109) C.1 C.2.1 (by decide +kernel) rfl (fun q => absurd q (i_ge hi10 (by decide))) (fun _ => ?_)
    refine lv_aload_n (pc := 90) (k := 0) (i := 0) (x := a) C.1 C.2.1 (by decide +kernel) rfl (lv_at hlv 1 rfl) ?_
    refine b_get (pc := 91) (idx := 23) (ci := 0) (k := 2) (v := .ref (n0 + 2)) C hB (by decide) (if_pos rfl) (by decide) (dWd_of (i := 111) (by decide +kernel) rfl) rfl (by decide +kernel) ?_
    refine lv_iload_n (pc := 94) (k := 1) (i := 1) C.1 C.2.1 (by decide +kernel) rfl (lv_at hlv 0 rfl) ?_
    refine b_new (pc := 95) (idx := 21) (ci := 2) C hB hS (by decide) (dWd_of (i := 40) (by decide +kernel) rfl) (dWd_of (i := 80) (by decide +kernel) rfl) (dWd_of (i := 20) (by decide +kernel) rfl) (by show cells + 1 ≤ 45; omega) (by show slots + 5 ≤ 286; omega) (by decide +kernel) fun H1 hB1 hS1 => ?_
    refine lv_dup (pc := 98) C.1 C.2.1 (by decide +kernel) rfl ?_
    refine b_callN (pc := 99) (idx := 31) (a := n0 + 15 + i) (y := ⟨"DiskDrawer$Read", "<init>", "()V"⟩) C hml hlv.1 hB1 hS1 hA0 hAn (Or.inr (by omega)) (fu_s _ _ _) (c_Read l) rfl (by decide +kernel) (dWd_of (i := 83) (by decide +kernel) rfl) (dWd_of (i := 20) (by decide +kernel) rfl) (List.mem_filter.mpr ⟨List.mem_of_getElem? (i := 81) (by decide +kernel), rfl⟩) (dWd_of (i := 82) (by decide +kernel) rfl) (by decide) ⟨by show cells + 1 + 0 ≤ 45; omega, by show slots + 5 + 0 ≤ 286; omega⟩ (by show 3 ≤ 8; decide) (by decide +kernel) fun H2 locs2 hB2 hS2 => ?_
    have hm1 : mix (fu (gS ca a n0 10 12 i) (n0 + 15 + i) (.inr (2, bls 2))) (f1 (n0 + 15 + i) (.inr (2, bls 2))) (n0 + 15 + i) (n0 + 15 + i + 1) (n0 + 2) = some (.inl (ca 2, 30, .inr (.inr (.inr (.inr (fun q => if q < i then some (n0 + 15 + q) else none)))))) := by
      unfold mix
      rw [if_neg (by omega), fu_n _ _ (by omega)]
      unfold gS
      rw [if_neg (by omega), if_neg (by omega), if_neg (by omega), if_pos rfl]
    have hm2 : mix (fu (gS ca a n0 10 12 i) (n0 + 15 + i) (.inr (2, bls 2))) (f1 (n0 + 15 + i) (.inr (2, bls 2))) (n0 + 15 + i) (n0 + 15 + i + 1) (n0 + 15 + i) = some (.inr (2, bls 2)) := by
      unfold mix f1
      rw [if_pos (Or.inl rfl), if_pos rfl]
    refine b_aast (pc := 102) (t := 2) (ci := 2) C hB2 hS2 hm1 rfl (by decide) hm2 (Or.inr (by omega)) (i_in hi10 (by decide)) (by decide +kernel) fun H3 locs3 hB3 hS3 => ?_
    refine lv_iinc (pc := 103) (i := 1) (n := 1) (k := 0) (lv' := [(1, .int (nI (i + 1))), (0, .ref a)]) C.1 C.2.1 (by decide +kernel) hlv rfl (nI_up i) (by decide) rfl fun ls' hlv' => ?_
    refine lv_goto (pc := 106) (off := -22) (tgt := 84) C.1 C.2.1 (by decide +kernel) rfl ?_
    refine ih (i + 1) ls' H3 locs3 _ _ (by omega) (by show cells + 1 + 0 = _; omega) (by show slots + 5 + 0 = _; omega) hlv' (BW.sub (n := n0 + 15 + i + 1) hB3 fun b e hb => ?_) hS3
    by_cases q : b = n0 + 2
    · subst q
      rw [fu_s]
      unfold gS at hb
      rw [if_neg (by omega), if_neg (by omega), if_neg (by omega), if_pos rfl] at hb
      rw [← hb, i_cl (by omega)]
      congr 8
      funext q
      unfold va_up
      by_cases z : q = i
      · subst z
        rw [if_pos rfl, if_pos (by omega)]
      · rw [if_neg z]
        dsimp only
        by_cases z2 : q < i
        · rw [if_pos z2, if_pos (by omega)]
        · rw [if_neg z2, if_neg (by omega)]
    · rw [fu_n _ _ q]
      by_cases q2 : b = n0 + 15 + i
      · subst q2
        rw [hm2]
        unfold gS at hb
        rw [if_neg (by omega), if_neg (by omega), if_neg (by omega), if_neg (by omega), if_neg (by omega), if_pos (by omega)] at hb
        exact hb
      · have q3 : ¬ (n0 + 15 + i + 1 ≤ b) := fun z => by
          unfold gS at hb
          rw [if_neg (by omega), if_neg (by omega), if_neg (by omega), if_neg (by omega), if_neg (by omega), if_neg (by omega)] at hb
          cases hb
        unfold mix
        rw [if_neg (by omega), fu_n _ _ q2]
        unfold gS at hb ⊢
        by_cases z1 : b = a
        · rw [if_pos z1] at hb ⊢; exact hb
        · rw [if_neg z1] at hb ⊢
          by_cases z2 : b = n0
          · rw [if_pos z2] at hb ⊢; exact hb
          · rw [if_neg z2] at hb ⊢
            by_cases z3 : b = n0 + 1
            · rw [if_pos z3] at hb ⊢; exact hb
            · rw [if_neg z3, if_neg q] at hb ⊢
              by_cases z4 : n0 + 3 ≤ b ∧ b < n0 + 3 + 12
              · rw [if_pos z4] at hb ⊢; exact hb
              · rw [if_neg z4] at hb ⊢
                by_cases z5 : n0 + 15 ≤ b ∧ b < n0 + 15 + i
                · rw [if_pos (by omega)] at hb
                  rw [if_pos z5]; exact hb
                · rw [if_neg (by omega)] at hb
                  cases hb
end CST
theorem c_State (l : Launch) {D : va_G} {ad : DKey → Nat} {ca : Nat → ClassId} {fm : Value} {xs : Nat → Int32} {SL z0 a n0 : Nat} : cMet l D ad ca fm xs SL z0 ⟨"DiskDrawer$State", "<init>", "()V"⟩ prog_6_method_1_code 2 rmS a n0 45 (.inr (0, bls 0)) (gS ca a n0 10 12 30) :=
  cMet_of (o := 0) (idx := 3) (by decide) rfl rfl (by decide) (dWd_of (i := 37) (by decide +kernel) rfl) (by decide +kernel) (by decide +kernel) (by decide) (by decide) fun p e s m args below meth c ls C hml hlv hin hr hlk hz hza hB => by
    have hne : a < n0 := hB.lt (a := a) (if_pos rfl)
    have hA0 : ∀ q, cA a n0 q → z0 ≤ q := fun q hq => by
      rcases hq with rfl | hq
      · exact hza
      · omega
    have hA : cA a n0 a := Or.inl rfl
    have hS : va_S (cA a n0) s.heap s.heap [] := va_S.rf
    refine lv_aload_n (pc := 4) (k := 0) (i := 0) (x := a) C.1 C.2.1 (by decide +kernel) rfl (lv_at hlv 0 rfl) ?_
    refine lv_bipush (pc := 5) (n := 10) (v := 10) C.1 C.2.1 (by decide +kernel) rfl ?_
    refine b_newa (pc := 7) (atype := .int) (t := 0) (N := 10) C hB hS (Or.inl ⟨rfl, rfl⟩) (dWd_of (i := 79) (by decide +kernel) rfl) (by decide) (by decide) (by decide) (by decide) (by decide) (by decide +kernel) fun H1 hB1 hS1 => ?_
    refine b_putF (pc := 9) (idx := 9) (ci := 0) (k := 0) (a := a) (fs := bls 0) C hB1 hS1 (by decide) (by rw [fu_n _ _ (by omega)]; exact if_pos rfl) rfl hA (by decide) (dWd_of (i := 107) (by decide +kernel) rfl) rfl hin rfl rfl rfl (by decide +kernel) fun H2 locs2 hB2 hS2 => ?_
    refine lv_aload_n (pc := 12) (k := 0) (i := 0) (x := a) C.1 C.2.1 (by decide +kernel) rfl (lv_at hlv 0 rfl) ?_
    refine lv_bipush (pc := 13) (n := 12) (v := 12) C.1 C.2.1 (by decide +kernel) rfl ?_
    refine b_newq (pc := 15) (idx := 15) (t := 1) (N := 12) (CN := "DiskDrawer$Disk") C hB2 hS2 rfl C.2.2.2.2.2.2.1 (dWd_of (i := 38) (by decide +kernel) rfl) (by decide) (by decide) (by decide) (by decide) (by decide) (by decide +kernel) fun H3 hB3 hS3 => ?_
    refine b_putF (pc := 18) (idx := 17) (ci := 0) (k := 1) (a := a) (fs := (bls 0).set 0 (.ref n0)) C hB3 hS3 (by decide) (by rw [fu_n _ _ (by omega), fu_s]) rfl hA (by decide) (dWd_of (i := 109) (by decide +kernel) rfl) rfl hin rfl rfl rfl (by decide +kernel) fun H4 locs4 hB4 hS4 => ?_
    refine lv_aload_n (pc := 21) (k := 0) (i := 0) (x := a) C.1 C.2.1 (by decide +kernel) rfl (lv_at hlv 0 rfl) ?_
    refine lv_bipush (pc := 22) (n := 30) (v := 30) C.1 C.2.1 (by decide +kernel) rfl ?_
    refine b_newq (pc := 24) (idx := 21) (t := 2) (N := 30) (CN := "DiskDrawer$Read") C hB4 hS4 rfl C.2.2.2.2.2.2.2.1 (dWd_of (i := 40) (by decide +kernel) rfl) (by decide) (by decide) (by decide) (by decide) (by decide) (by decide +kernel) fun H5 hB5 hS5 => ?_
    refine b_putF (pc := 27) (idx := 23) (ci := 0) (k := 2) (a := a) (fs := ((bls 0).set 0 (.ref n0)).set 1 (.ref (n0 + 1))) C hB5 hS5 (by decide) (by rw [fu_n _ _ (by omega), fu_s]) rfl hA (by decide) (dWd_of (i := 111) (by decide +kernel) rfl) rfl hin rfl rfl rfl (by decide +kernel) fun H6 locs6 hB6 hS6 => ?_
    refine lv_iconst (pc := 30) (n := 0) (v := nI 0) C.1 C.2.1 (by decide +kernel) rfl ?_
    refine lv_istore_n (pc := 31) (k := 1) (i := 1) (lv' := [(1, .int (nI 0)), (0, .ref a)]) C.1 C.2.1 (by decide +kernel) rfl hlv (by decide) rfl fun ls1 hlv1 => ?_
    refine cS_1 (n0 := n0) C hA0 hne (fun ls2 H7 locs7 hlv2 hB7 hS7 => ?_) 10 0 ls1 H6 locs6 rfl hlv1 (BW.sub (n := n0 + 3) hB6 fun b e hb => ?_) hS6
    · refine lv_iconst (pc := 55) (n := 0) (v := nI 0) C.1 C.2.1 (by decide +kernel) rfl ?_
      refine lv_istore_n (pc := 56) (k := 1) (i := 1) (lv' := [(1, .int (nI 0)), (0, .ref a)]) C.1 C.2.1 (by decide +kernel) rfl hlv2 (by decide) rfl fun ls3 hlv3 => ?_
      refine cS_2 (n0 := n0) C hml hA0 hne hz rfl (fun ls4 H8 locs8 hlv4 hB8 hS8 => ?_) 12 0 ls3 H7 locs7 _ _ rfl rfl rfl hlv3 hB7 hS7
      refine lv_iconst (pc := 82) (n := 0) (v := nI 0) C.1 C.2.1 (by decide +kernel) rfl ?_
      refine lv_istore_n (pc := 83) (k := 1) (i := 1) (lv' := [(1, .int (nI 0)), (0, .ref a)]) C.1 C.2.1 (by decide +kernel) rfl hlv4 (by decide) rfl fun ls5 hlv5 => ?_
      refine cS_3 (n0 := n0) C hml hA0 hne hz rfl (fun ls6 H9 locs9 hB9 hS9 => ?_) 30 0 ls5 H8 locs8 _ _ rfl rfl rfl hlv5 hB8 hS8
      exact cEnd C hr hlk hB9 hS9 rfl (fun b e h => h) rfl rfl (by decide +kernel)
    · unfold gS at hb
      by_cases z1 : b = a
      · rw [if_pos z1] at hb
        rw [z1, fu_s]
        exact hb
      rw [if_neg z1] at hb
      rw [fu_n _ _ z1]
      by_cases z2 : b = n0
      · rw [if_pos z2] at hb
        rw [z2, fu_n _ _ (by omega), fu_n _ _ (by omega), fu_n _ _ (by omega), fu_n _ _ (by omega), fu_s, ← hb]
        congr 5
      rw [if_neg z2] at hb
      by_cases z3 : b = n0 + 1
      · rw [if_pos z3] at hb
        rw [z3, fu_n _ _ (by omega), fu_n _ _ (by omega), fu_s, ← hb]
        congr 8
      rw [if_neg z3] at hb
      by_cases z4 : b = n0 + 2
      · rw [if_pos z4] at hb
        rw [z4, fu_s, ← hb]
        congr 8
      rw [if_neg z4, if_neg (by omega), if_neg (by omega)] at hb
      cases hb
