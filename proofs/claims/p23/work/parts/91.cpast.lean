/-! the history is made -/
theorem gS_out {ca : Nat → ClassId} {A b : Nat} (h : b < A ∨ A + 46 ≤ b) : gS ca A (A + 1) 10 12 30 b = none := by
  unfold gS
  rw [if_neg (by omega), if_neg (by omega), if_neg (by omega), if_neg (by omega), if_neg (by omega), if_neg (by omega)]
def gP (ca : Nat → ClassId) (a n0 i : Nat) : Nat → Option va_E := fun b =>
  if b = a then some (.inr (4, (bls 4).set 0 (.ref n0)))
  else if b = n0 then some (.inl (ca 3, 5, .inr (.inr (.inr (.inr (fun q => if q < i then some (n0 + 1 + 46 * q) else none))))))
  else if n0 + 1 ≤ b ∧ b < n0 + 1 + 46 * i then gS ca (n0 + 1 + 46 * ((b - (n0 + 1)) / 46)) (n0 + 1 + 46 * ((b - (n0 + 1)) / 46) + 1) 10 12 30 b
  else none
def rmP : Room := { frames := 3, cells := 231, slots := 1510, locals := 64 }
section CPA
variable {p : Program} {l : Launch} {e : Env} {s : State} {m : MethodId} {args : Array Value} {below : List Frame} {meth : Method} {c : Code} {H : Heap} {locs : List Loc} {cells slots : Nat} {Q : State → Prop} {R : Room}
variable {ls : Array Slot} {Ts : List Cond} {n0 a : Nat} {D : va_G} {ad : DKey → Nat} {ca : Nat → ClassId} {fm : Value} {xs : Nat → Int32} {SL z0 : Nat}
theorem cP_1 (C : Cx p s m args c prog_3_method_1_code 4 Ts D ad ca fm xs SL (fun q => z0 ≤ q)) (hml : c.maxLocals = 2) (hA0 : ∀ q, cA a n0 q → z0 ≤ q) (hne : a < n0) (hn0 : s.heap.size = n0) (hR : R = rmP)
    (kk : ∀ (ls : Array Slot) (H : Heap) (locs : List Loc), BW D (n0 + 231) (gP ca a n0 5) H → va_S (cA a n0) s.heap H locs → W p l e R s m args below meth c H locs 231 1510 Q (F0 m 38 ls [])) :
    ∀ (r i : Nat) (ls : Array Slot) (H : Heap) (locs : List Loc) (cells slots : Nat), i + r = 5 → cells = 1 + 46 * i → slots = 5 + 301 * i → lv_has ls 2 [(1, .int (nI i)), (0, .ref a)] → BW D (n0 + 1 + 46 * i) (gP ca a n0 i) H → va_S (cA a n0) s.heap H locs → W p l e R s m args below meth c H locs cells slots Q (F0 m 14 ls []) := by
  have hAn : ∀ q, s.heap.size ≤ q → cA a n0 q := fun q hq => Or.inr (by omega)
  intro r
  induction r with
  | zero =>
    intro i ls H locs cells slots hi hc hs hlv hB hS
    obtain rfl : i = 5 := hi
    subst hc hs
    refine lv_iload_n (pc := 14) (k := 1) (i := 1) C.1 C.2.1 (by decide +kernel) rfl (lv_at hlv 0 rfl) ?_
    refine lv_iconst (pc := 15) (n := 4) (v := nI 4) C.1 C.2.1 (by decide +kernel) rfl ?_
    refine lv_icmp_gt (pc := 16) (off := 22) (tgt := 38) C.1 C.2.1 (by decide +kernel) rfl (fun _ => kk ls H locs hB hS) (fun q => absurd (nI_lt (by decide) (by decide)) q)
  | succ r ih =>
    intro i ls H locs cells slots hi hc hs hlv hB hS
    have hi10 : i < 5 := by omega
    subst hR
    refine lv_iload_n (pc := 14) (k := 1) (i := 1) C.1 C.2.1 (by decide +kernel) rfl (lv_at hlv 0 rfl) ?_
    refine lv_iconst (pc := 15) (n := 4) (v := nI 4) C.1 C.2.1 (by decide +kernel) rfl ?_
    refine lv_icmp_gt (pc := 16) (off := 22) (tgt := 38) C.1 C.2.1 (by decide +kernel) rfl (fun q => absurd q (nI_nlt (by omega) (by decide))) (fun _ => ?_)
    refine lv_aload_n (pc := 19) (k := 0) (i := 0) (x := a) C.1 C.2.1 (by decide +kernel) rfl (lv_at hlv 1 rfl) ?_
    refine b_get (pc := 20) (idx := 11) (ci := 4) (k := 0) (v := .ref n0) C hB (by decide) (if_pos rfl) (by decide) (dWd_of (i := 168) (by decide +kernel) rfl) rfl (by decide +kernel) ?_
    refine lv_iload_n (pc := 23) (k := 1) (i := 1) C.1 C.2.1 (by decide +kernel) rfl (lv_at hlv 0 rfl) ?_
    refine b_new (pc := 24) (idx := 9) (ci := 0) C hB hS (by decide) (dWd_of (i := 165) (by decide +kernel) rfl) (dWd_of (i := 33) (by decide +kernel) rfl) (dWd_of (i := 18) (by decide +kernel) rfl) (by show cells + 1 ≤ 231; omega) (by show slots + 15 ≤ 1510; omega) (by decide +kernel) fun H1 hB1 hS1 => ?_
    refine lv_dup (pc := 27) C.1 C.2.1 (by decide +kernel) rfl ?_
    refine b_callI (pc := 28) (idx := 17) (a := n0 + 1 + 46 * i) (y := ⟨"DiskDrawer$State", "<init>", "()V"⟩) C hml hlv.1 hB1 hS1 hA0 hAn (Or.inr (by omega)) (fu_s _ _ _) (c_State l) rfl (by decide +kernel) (dWd_of (i := 36) (by decide +kernel) rfl) (dWd_of (i := 18) (by decide +kernel) rfl) (dWd_of (i := 167) (by decide +kernel) rfl) (dWd_of (i := 35) (by decide +kernel) rfl) (by decide) ⟨by show cells + 1 + 45 ≤ 231; omega, by show slots + 15 + 286 ≤ 1510; omega⟩ (by show 3 ≤ 8; decide) (by decide +kernel) fun H2 locs2 hB2 hS2 => ?_
    have hm1 : mix (fu (gP ca a n0 i) (n0 + 1 + 46 * i) (.inr (0, bls 0))) (gS ca (n0 + 1 + 46 * i) (n0 + 1 + 46 * i + 1) 10 12 30) (n0 + 1 + 46 * i) (n0 + 1 + 46 * i + 1) n0 = some (.inl (ca 3, 5, .inr (.inr (.inr (.inr (fun q => if q < i then some (n0 + 1 + 46 * q) else none)))))) := by
      unfold mix
      rw [if_neg (by omega), fu_n _ _ (by omega)]
      unfold gP
      rw [if_neg (by omega), if_pos rfl]
    have hm2 : mix (fu (gP ca a n0 i) (n0 + 1 + 46 * i) (.inr (0, bls 0))) (gS ca (n0 + 1 + 46 * i) (n0 + 1 + 46 * i + 1) 10 12 30) (n0 + 1 + 46 * i) (n0 + 1 + 46 * i + 1) (n0 + 1 + 46 * i) = some (.inr (0, (((bls 0).set 0 (.ref (n0 + 1 + 46 * i + 1))).set 1 (.ref (n0 + 1 + 46 * i + 1 + 1))).set 2 (.ref (n0 + 1 + 46 * i + 1 + 2)))) := by
      unfold mix
      rw [if_pos (Or.inl rfl)]
      unfold gS
      rw [if_pos rfl]
    refine b_aast (pc := 31) (t := 3) (ci := 0) C hB2 hS2 hm1 rfl (by decide) hm2 (Or.inr (by omega)) (i_in hi10 (by decide)) (by decide +kernel) fun H3 locs3 hB3 hS3 => ?_
    refine lv_iinc (pc := 32) (i := 1) (n := 1) (k := 0) (lv' := [(1, .int (nI (i + 1))), (0, .ref a)]) C.1 C.2.1 (by decide +kernel) hlv rfl (nI_up i) (by decide) rfl fun ls' hlv' => ?_
    refine lv_goto (pc := 35) (off := -21) (tgt := 14) C.1 C.2.1 (by decide +kernel) rfl ?_
    have ez : n0 + 1 + 46 * i + 1 + 45 = n0 + 1 + 46 * (i + 1) := by omega
    refine ih (i + 1) ls' H3 locs3 _ _ (by omega) (by show cells + 1 + 45 = _; omega) (by show slots + 15 + 286 = _; omega) hlv' (BW.sub (n := n0 + 1 + 46 * (i + 1)) (ez ▸ hB3) fun b e hb => ?_) hS3
    by_cases q : b = n0
    · subst q
      rw [fu_s]
      unfold gP at hb
      rw [if_neg (by omega), if_pos rfl] at hb
      rw [← hb, i_cl (by omega)]
      congr 8
      funext q
      unfold va_up
      by_cases z : q = i
      · subst z
        rw [if_pos rfl, if_pos (by omega)]
      · rw [if_neg z]
        dsimp only
        by_cases z2 : q < i
        · rw [if_pos z2, if_pos (by omega)]
        · rw [if_neg z2, if_neg (by omega)]
    · rw [fu_n _ _ q]
      by_cases q2 : n0 + 1 + 46 * i ≤ b
      · unfold mix
        rw [if_pos (by omega)]
        unfold gP at hb
        by_cases q3 : b < n0 + 1 + 46 * (i + 1)
        · rw [if_neg (by omega), if_neg q, if_pos ⟨by omega, q3⟩] at hb
          have e1 : (b - (n0 + 1)) / 46 = i := by omega
          rw [e1] at hb
          exact hb
        · rw [if_neg (by omega), if_neg q, if_neg (by omega)] at hb
          cases hb
      · unfold mix
        rw [if_neg (by omega), fu_n _ _ (by omega)]
        unfold gP at hb ⊢
        by_cases z1 : b = a
        · rw [if_pos z1] at hb ⊢; exact hb
        · rw [if_neg z1, if_neg q] at hb ⊢
          by_cases z4 : n0 + 1 ≤ b ∧ b < n0 + 1 + 46 * i
          · rw [if_pos (by omega)] at hb
            rw [if_pos z4]; exact hb
          · rw [if_neg (by omega)] at hb
            cases hb
end CPA
theorem c_Past (l : Launch) {D : va_G} {ad : DKey → Nat} {ca : Nat → ClassId} {fm : Value} {xs : Nat → Int32} {SL z0 a n0 : Nat} : cMet l D ad ca fm xs SL z0 ⟨"DiskDrawer$Past", "<init>", "()V"⟩ prog_3_method_1_code 2 rmP a n0 231 (.inr (4, bls 4)) (gP ca a n0 5) :=
  cMet_of (o := 4) (idx := 3) (by decide) rfl rfl (by decide) (dWd_of (i := 164) (by decide +kernel) rfl) (by decide +kernel) (by decide +kernel) (by decide) (by decide) fun p e s m args below meth c ls C hml hlv hin hr hlk hz hza hB => by
    have hne : a < n0 := hB.lt (a := a) (if_pos rfl)
    have hA0 : ∀ q, cA a n0 q → z0 ≤ q := fun q hq => by
      rcases hq with rfl | hq
      · exact hza
      · omega
    have hA : cA a n0 a := Or.inl rfl
    have hS : va_S (cA a n0) s.heap s.heap [] := va_S.rf
    refine lv_aload_n (pc := 4) (k := 0) (i := 0) (x := a) C.1 C.2.1 (by decide +kernel) rfl (lv_at hlv 0 rfl) ?_
    refine lv_iconst (pc := 5) (n := 5) (v := 5) C.1 C.2.1 (by decide +kernel) rfl ?_
    refine b_newq (pc := 6) (idx := 9) (t := 3) (N := 5) (CN := "DiskDrawer$State") C hB hS rfl C.2.2.2.2.2.2.2.2 (dWd_of (i := 165) (by decide +kernel) rfl) (by decide) (by decide) (by decide) (by decide) (by decide) (by decide +kernel) fun H1 hB1 hS1 => ?_
    refine b_putF (pc := 9) (idx := 11) (ci := 4) (k := 0) (a := a) (fs := bls 4) C hB1 hS1 (by decide) (by rw [fu_n _ _ (by omega)]; exact if_pos rfl) rfl hA (by decide) (dWd_of (i := 168) (by decide +kernel) rfl) rfl hin rfl rfl rfl (by decide +kernel) fun H2 locs2 hB2 hS2 => ?_
    refine lv_iconst (pc := 12) (n := 0) (v := nI 0) C.1 C.2.1 (by decide +kernel) rfl ?_
    refine lv_istore_n (pc := 13) (k := 1) (i := 1) (lv' := [(1, .int (nI 0)), (0, .ref a)]) C.1 C.2.1 (by decide +kernel) rfl hlv (by decide) rfl fun ls1 hlv1 => ?_
    refine cP_1 (n0 := n0) C hml hA0 hne hz rfl (fun ls2 H7 locs7 hB7 hS7 => ?_) 5 0 ls1 H2 locs2 _ _ rfl rfl rfl hlv1 (BW.sub (n := n0 + 1) hB2 fun b e hb => ?_) hS2
    · exact cEnd C hr hlk hB7 hS7 rfl (fun b e h => h) rfl rfl (by decide +kernel)
    · unfold gP at hb
      by_cases z1 : b = a
      · rw [if_pos z1] at hb
        rw [z1, fu_s]
        exact hb
      rw [if_neg z1] at hb
      rw [fu_n _ _ z1]
      by_cases z2 : b = n0
      · rw [if_pos z2] at hb
        rw [z2, fu_s, ← hb]
        congr 8
      rw [if_neg z2, if_neg (by omega)] at hb
      cases hb
