/-! the contracts of areDisksSo and areReadsSo over the machine, and how the law calls them -/
theorem nSet_W {ad : DKey → Nat} {κ0 : DKey} {n0 : Nat} : ∀ κ, okK (adW ad κ0 n0) κ = true → nSet ad n0 (adW ad κ0 n0 κ) := by
  intro κ hκ
  rcases okK_W hκ with rfl | ⟨z, hk⟩
  · rw [adW_s]; exact Or.inr (Nat.le_refl _)
  · rw [adW_n z]; exact Or.inl ⟨κ, hk, rfl⟩
theorem n_okL (ad : DKey → Nat) (κ0 : DKey) (v : DV) (L : List (Option DV)) (h : ∀ w ∈ L, ∀ x, w = some x → okV ad x = true) : dOkL ad L := by
  induction L with
  | nil => intro k v hk; cases hk
  | cons a L ih =>
    intro k v hk
    cases k with
    | zero => cases hk; exact h _ List.mem_cons_self _ rfl
    | succ k => exact ih (fun w hw => h w (List.mem_cons_of_mem _ hw)) k v hk
theorem n_disks (l : Launch) {D : va_G} {ad : DKey → Nat} {ca : Nat → ClassId} {fm : Value} {xs : Nat → Int32} {SL n0 : Nat} {h : DH} {s0 : Nat → Int32} {l0 : List (Nat → Int32)} (hi : dInj ad) (hf : dFm fm) (h0 : ad (35, 0, 0) = 0) (hP : PR h s0 l0) : nMet l D ad ca fm xs SL h n0 4 ⟨"DiskDrawerLaw", "areDisksSo", "(LDiskDrawer;)Z"⟩ method_7_code 8 := by
  unfold nMet
  refine Met.ofW (cc := method_7_code) (maxL := 8) (ret := some .boolean) (by decide) rfl ?_
  intro p e s m args below meth c s₁ B hml hv
  obtain ⟨rfl, hz, hE, hAO, hS⟩ := hv
  have hr := B.returns
  have hts := atoms_spec (ws := Cond.code ⟨"DiskDrawerLaw", "areDisksSo", "(LDiskDrawer;)Z"⟩ method_7_code 8 (some .boolean) :: dWd) B.pre
  have hown : s.vm.findClass (don 11) = some m.cls := findClass_of_methodNamed B.named
  have hlocks := B.notSynchronized
  have C : Cx p s m [Value.ref (ad (6, 0, 0))].toArray c method_7_code 11 (Cond.code ⟨"DiskDrawerLaw", "areDisksSo", "(LDiskDrawer;)Z"⟩ method_7_code 8 (some .boolean) :: dWd) D ad ca fm xs SL (nSet ad n0) := ⟨B.exec, B.bytes, hown, hts, dWd_cons _, hE, hAO⟩
  have hlv := lv_entry [Value.ref (ad (6, 0, 0))] (n := 8) (by show 1 ≤ 8; decide)
  rw [lg_entry_eq]
  generalize (lg_sl [Value.ref (ad (6, 0, 0))] ++ List.replicate (8 - (lg_sl [Value.ref (ad (6, 0, 0))]).length) Slot.unset).toArray = ls at hlv ⊢
  have hlv2 : lv_has ls 8 [(0, .ref (ad (6, 0, 0)))] := hlv
  have hlt : ∀ κ, okK ad κ = true → ad κ < n0 := fun κ hκ => by rw [← hz]; exact hS.lt hκ
  have hn0 : n0 ≠ 0 := fun t => by have := hlt (6, 0, 0) rfl; omega
  refine lv_iconst (pc := 0) (n := 0) (v := 0) C.1 C.2.1 (by decide +kernel) rfl ?_
  refine lv_istore_n (pc := 1) (k := 1) (i := 1) (lv' := [(1, .int 0), (0, .ref (ad (6, 0, 0)))]) C.1 C.2.1 (by decide +kernel) rfl hlv2 (by decide) rfl fun ls1 hlv3 => ?_
  refine lv_iconst (pc := 2) (n := 0) (v := 0) C.1 C.2.1 (by decide +kernel) rfl ?_
  refine lv_istore_n (pc := 3) (k := 2) (i := 2) (lv' := [(2, .int 0), (1, .int 0), (0, .ref (ad (6, 0, 0)))]) C.1 C.2.1 (by decide +kernel) rfl hlv3 (by decide) rfl fun ls2 hlv4 => ?_
  refine lv_iconst (pc := 4) (n := 0) (v := 0) C.1 C.2.1 (by decide +kernel) rfl ?_
  refine lv_istore_n (pc := 5) (k := 3) (i := 3) (lv' := [(3, .int 0), (2, .int 0), (1, .int 0), (0, .ref (ad (6, 0, 0)))]) C.1 C.2.1 (by decide +kernel) rfl hlv4 (by decide) rfl fun ls3 hlv5 => ?_
  refine lv_iconst (pc := 6) (n := 4) (v := 4) C.1 C.2.1 (by decide +kernel) rfl ?_
  refine n_newa (pc := 7) (n := n0) (N := 4) C hz (va_S.rf (A := nSet ad n0)) (dWd_of (i := 79) (by decide +kernel) rfl) (by decide) (by decide) (by decide) (by decide) (by decide) (by decide +kernel) fun H1 hn o1 hS1 => ?_
  refine lv_astore (pc := 9) (i := 4) (lv' := [(4, .ref n0), (3, .int 0), (2, .int 0), (1, .int 0), (0, .ref (ad (6, 0, 0)))]) C.1 C.2.1 (by decide +kernel) hlv5 (by decide) rfl fun ls4 hlv6 => ?_
  have hL : isL (35, 0, 0) := Or.inl rfl
  have hD := hS.new (N := 4) hL rfl hz hn o1
  have hi' : dInj (adW ad (35, 0, 0) n0) := hi.new hlt
  obtain ⟨nn, hrun⟩ := l_disks 0 hP (g0 := fun _ => 0) (fun _ _ => rfl)
  have hloc : dLoc (adW ad (35, 0, 0) n0) fm [some (.inr (6, 0, 0)), some (.inl 0), some (.inl 0), some (.inl 0), some (.inr (35, 0, 0)), none, none, none] 8 ls4 := lv_sub hlv6 [4, 3, 2, 1, 0] rfl
  have hok : dOkL (adW ad (35, 0, 0) n0) [some (.inr (6, 0, 0)), some (.inl 0), some (.inl 0), some (.inl 0), some (.inr (35, 0, 0)), none, none, none] := by
    intro k v hk
    match k, hk with
    | 0, hk => cases hk; rfl
    | 1, hk => cases hk; rfl
    | 2, hk => cases hk; rfl
    | 3, hk => cases hk; rfl
    | 4, hk =>
      cases hk
      show (okK (adW ad (35, 0, 0) n0) (35, 0, 0) || _) = true
      rw [okK_W0 hL hn0]
      rfl
    | 5, hk => cases hk
    | 6, hk => cases hk
    | 7, hk => cases hk
    | k + 8, hk => cases hk
  refine d_sound (ad := adW ad (35, 0, 0) n0) (A := nSet ad n0) (Ts := Cond.code ⟨"DiskDrawerLaw", "areDisksSo", "(LDiskDrawer;)Z"⟩ method_7_code 8 (some .boolean) :: dWd) (d := 6) (o := 11) (rt := some .boolean) (cc := method_7_code) (T := dT_disks) (nL := 8) (K := dEnd dT_disks (some (.inl 1), ub h (35, 0, 0) (gk s0 (fun _ => 0) 12))) B.exec B.bytes hml hown hts (dWd_cons _) (hE.new hL) nSet_W hi' hf ⟨by decide, by decide, by decide, by decide⟩ dg_disks.1 dg_disks.2 (fun mid as h r q => d_met l hi' hf 6 mid as h r q) ?_ nn 11 _ [] _ hrun H1 [] ls4 rfl hok (fun _ h => by cases h) hloc hD hS1
  intro pc L st h4 H4 locs4 ls5 hK hLl hLo hst hLc hS4 hS5
  obtain ⟨G, hg, g⟩ := hK
  cases hop : dop dT_disks pc with
  | none => simp only [dfin, hop] at hg; cases hg
  | some q =>
  obtain ⟨i, len, hd, he⟩ := dchk_at dg_disks.1 hop
  obtain ⟨k, a1, b1, nx, v, ts⟩ := q
  obtain ⟨r36, r37, r42⟩ := denc_ret he
  simp only [dfin, hop] at hg
  split at hg
  · rename_i z; cases z
    obtain ⟨rfl, rfl, e3⟩ := r36 rfl
    cases e3
  · rename_i z; cases z
    split at hg
    · cases hg
    · cases hg
  · rename_i z; cases z
    obtain ⟨rfl, rfl, e3⟩ := r42 rfl
    split at hg
    · cases hg
      exact W.zret B.exec B.bytes (by rw [hr]) (by rfl) (fun t ht hW => ⟨rfl, by rw [ht]; exact hS4.drop hL h0 (fun κ z => ⟨ub_n h _ z, rfl⟩), hS5.F ht⟩) hS5.2.2 hd
    · cases hg
  · cases hg
theorem n_reads (l : Launch) {D : va_G} {ad : DKey → Nat} {ca : Nat → ClassId} {fm : Value} {xs : Nat → Int32} {SL n0 : Nat} {h : DH} {s0 : Nat → Int32} {l0 : List (Nat → Int32)} (hi : dInj ad) (hf : dFm fm) (h0 : ad (36, 0, 0) = 0) (hP : PR h s0 l0) : nMet l D ad ca fm xs SL h n0 12 ⟨"DiskDrawerLaw", "areReadsSo", "(LDiskDrawer;)Z"⟩ method_8_code 7 := by
  unfold nMet
  refine Met.ofW (cc := method_8_code) (maxL := 7) (ret := some .boolean) (by decide) rfl ?_
  intro p e s m args below meth c s₁ B hml hv
  obtain ⟨rfl, hz, hE, hAO, hS⟩ := hv
  have hr := B.returns
  have hts := atoms_spec (ws := Cond.code ⟨"DiskDrawerLaw", "areReadsSo", "(LDiskDrawer;)Z"⟩ method_8_code 7 (some .boolean) :: dWd) B.pre
  have hown : s.vm.findClass (don 11) = some m.cls := findClass_of_methodNamed B.named
  have hlocks := B.notSynchronized
  have C : Cx p s m [Value.ref (ad (6, 0, 0))].toArray c method_8_code 11 (Cond.code ⟨"DiskDrawerLaw", "areReadsSo", "(LDiskDrawer;)Z"⟩ method_8_code 7 (some .boolean) :: dWd) D ad ca fm xs SL (nSet ad n0) := ⟨B.exec, B.bytes, hown, hts, dWd_cons _, hE, hAO⟩
  have hlv := lv_entry [Value.ref (ad (6, 0, 0))] (n := 7) (by show 1 ≤ 7; decide)
  rw [lg_entry_eq]
  generalize (lg_sl [Value.ref (ad (6, 0, 0))] ++ List.replicate (7 - (lg_sl [Value.ref (ad (6, 0, 0))]).length) Slot.unset).toArray = ls at hlv ⊢
  have hlv2 : lv_has ls 7 [(0, .ref (ad (6, 0, 0)))] := hlv
  have hlt : ∀ κ, okK ad κ = true → ad κ < n0 := fun κ hκ => by rw [← hz]; exact hS.lt hκ
  have hn0 : n0 ≠ 0 := fun t => by have := hlt (6, 0, 0) rfl; omega
  refine lv_iconst (pc := 0) (n := 0) (v := 0) C.1 C.2.1 (by decide +kernel) rfl ?_
  refine lv_istore_n (pc := 1) (k := 1) (i := 1) (lv' := [(1, .int 0), (0, .ref (ad (6, 0, 0)))]) C.1 C.2.1 (by decide +kernel) rfl hlv2 (by decide) rfl fun ls1 hlv3 => ?_
  refine lv_bipush (pc := 2) (n := 12) (v := 12) C.1 C.2.1 (by decide +kernel) rfl ?_
  refine n_newa (pc := 4) (n := n0) (N := 12) C hz (va_S.rf (A := nSet ad n0)) (dWd_of (i := 79) (by decide +kernel) rfl) (by decide) (by decide) (by decide) (by decide) (by decide) (by decide +kernel) fun H1 hn o1 hS1 => ?_
  refine lv_astore_n (pc := 6) (k := 2) (i := 2) (lv' := [(2, .ref n0), (1, .int 0), (0, .ref (ad (6, 0, 0)))]) C.1 C.2.1 (by decide +kernel) rfl hlv3 (by decide) rfl fun ls4 hlv6 => ?_
  have hL : isL (36, 0, 0) := Or.inr rfl
  have hD := hS.new (N := 12) hL rfl hz hn o1
  have hi' : dInj (adW ad (36, 0, 0) n0) := hi.new hlt
  obtain ⟨G1, nn, hrun⟩ := l_reads 0 hP (g0 := fun _ => 0) (fun _ _ => rfl)
  have hloc : dLoc (adW ad (36, 0, 0) n0) fm [some (.inr (6, 0, 0)), some (.inl 0), some (.inr (36, 0, 0)), none, none, none, none] 7 ls4 := lv_sub hlv6 [2, 1, 0] rfl
  have hok : dOkL (adW ad (36, 0, 0) n0) [some (.inr (6, 0, 0)), some (.inl 0), some (.inr (36, 0, 0)), none, none, none, none] := by
    intro k v hk
    match k, hk with
    | 0, hk => cases hk; rfl
    | 1, hk => cases hk; rfl
    | 2, hk =>
      cases hk
      show (okK (adW ad (36, 0, 0) n0) (36, 0, 0) || _) = true
      rw [okK_W0 hL hn0]
      rfl
    | 3, hk => cases hk
    | 4, hk => cases hk
    | 5, hk => cases hk
    | 6, hk => cases hk
    | k + 7, hk => cases hk
  refine d_sound (ad := adW ad (36, 0, 0) n0) (A := nSet ad n0) (Ts := Cond.code ⟨"DiskDrawerLaw", "areReadsSo", "(LDiskDrawer;)Z"⟩ method_8_code 7 (some .boolean) :: dWd) (d := 6) (o := 11) (rt := some .boolean) (cc := method_8_code) (T := dT_reads) (nL := 7) (K := dEnd dT_reads (some (.inl 1), ub h (36, 0, 0) G1)) B.exec B.bytes hml hown hts (dWd_cons _) (hE.new hL) nSet_W hi' hf ⟨by decide, by decide, by decide, by decide⟩ dg_reads.1 dg_reads.2 (fun mid as h r q => d_met l hi' hf 6 mid as h r q) ?_ nn 7 _ [] _ hrun H1 [] ls4 rfl hok (fun _ h => by cases h) hloc hD hS1
  intro pc L st h4 H4 locs4 ls5 hK hLl hLo hst hLc hS4 hS5
  obtain ⟨G, hg, g⟩ := hK
  cases hop : dop dT_reads pc with
  | none => simp only [dfin, hop] at hg; cases hg
  | some q =>
  obtain ⟨i, len, hd, he⟩ := dchk_at dg_reads.1 hop
  obtain ⟨k, a1, b1, nx, v, ts⟩ := q
  obtain ⟨r36, r37, r42⟩ := denc_ret he
  simp only [dfin, hop] at hg
  split at hg
  · rename_i z; cases z
    obtain ⟨rfl, rfl, e3⟩ := r36 rfl
    cases e3
  · rename_i z; cases z
    split at hg
    · cases hg
    · cases hg
  · rename_i z; cases z
    obtain ⟨rfl, rfl, e3⟩ := r42 rfl
    split at hg
    · cases hg
      exact W.zret B.exec B.bytes (by rw [hr]) (by rfl) (fun t ht hW => ⟨rfl, by rw [ht]; exact hS4.drop hL h0 (fun κ z => ⟨ub_n h _ z, rfl⟩), hS5.F ht⟩) hS5.2.2 hd
    · cases hg
  · cases hg
section NCALL
variable {p : Program} {l : Launch} {e : Env} {R : Room} {s : State} {m : MethodId} {args : Array Value} {below : List Frame} {meth : Method} {c : Code} {H : Heap} {locs : List Loc} {cells slots : Nat} {Q : State → Prop}
variable {cc : ByteArray} {pc : Nat} {ls : Array Slot} {rest : List Value} {Ts : List Cond} {o idx nL : Nat} {A : Nat → Prop}
variable {D : va_G} {ad : DKey → Nat} {ca : Nat → ClassId} {fm : Value} {xs : Nat → Int32} {SL : Nat} {h : DH}
theorem n_call (C : Cx p s m args c cc o Ts D ad ca fm xs SL A) (hml : c.maxLocals = nL) (hls : ls.size = nL) (hA : ∀ q, dAm ad q → A q) (hAn : ∀ q, s.heap.size ≤ q → A q) (hS : dSim D ad ca xs SL h H) (hS0 : va_S A s.heap H locs) {k maxL : Nat} {y : MethodName} {bytes : ByteArray} (hM : nMet l D ad ca fm xs SL h H.size k y bytes maxL)
    (hd : y.cls ≠ "java/lang/invoke/MethodHandle" ∧ y.cls ≠ "java/lang/invoke/VarHandle" ∧ (parseMethodDescriptor y.desc).map (fun d => d.parameters.length) = some 1) (hcode : Cond.code y bytes maxL (some .boolean) ∈ dWd) (hini : Cond.initialized y.cls ∈ dWd) (hlk : Cond.methodLink (don o) idx y ∈ dWd) (hst : Cond.static y ∈ dWd) (hR : 8 ≤ R.frames ∧ 8 + (maxL + 11) + 280 ≤ R.locals) (hc : cells + 1 ≤ R.cells ∧ slots + k ≤ R.slots) (hrest : (rest.map fun v => v.category).sum ≤ 8) (hdg : decode cc pc = .ok (.invokestatic idx, 3))
    (kk : ∀ (H1 : Heap) (locs1 : List Loc), dSim D ad ca xs SL h H1 → va_S A s.heap H1 locs1 → W p l e R s m args below meth c H1 locs1 (cells + 1) (slots + k) Q (F0 m (pc + 3) ls (.int 1 :: rest))) : W p l e R s m args below meth c H locs cells slots Q (F0 m pc ls (.ref (ad (6, 0, 0)) :: rest)) := by
  have hsub : ∀ q, nSet ad H.size q → A q := fun q hq => by
    rcases hq with hq | hq
    · exact hA q hq
    · exact hAn q (Nat.le_trans hS0.1 hq)
  have hpre : PreS s H (nPre D ad ca fm xs SL h H.size) [.ref (ad (6, 0, 0))] := ⟨nPre_blind, fun U hU hW => ⟨rfl, by rw [hU], (dEnv.warm hW (by rw [hU]; exact hS0.1) (fun a h1 h2 => by rw [hU]; exact hS0.2.1 a h1 h2) C.2.2.2.2.2.1).narrow hsub, dAO.moved hW.alike C.2.2.2.2.2.2, by rw [hU]; exact hS⟩⟩
  have hr := va_runS (As := [Value.ref (ad (6, 0, 0))]) (rest := rest) (own := don o) (nL := nL) (n := 1) (ws := Cond.code y bytes maxL (some .boolean) :: dWd) (rm := rmN k) (Qc := nPost D ad ca xs SL h H.size) (g := F0 m pc ls (.ref (ad (6, 0, 0)) :: rest)) (locs := locs) (cells := cells) (slots := slots) (below := below) (meth := meth) (e := e) ⟨C.1, C.2.1, hml, C.2.2.1, C.2.2.2.1⟩ hM ⟨callB_of (ws' := dWd) 1 C.2.2.2.1 (dGoodTs C.2.2.2.2.1 hcode) rfl rfl rfl (C.ok hini) (C.ok hlk) hd ⟨hR.1, hR.2⟩, C.ok hst⟩ hpre rfl rfl hls rfl (lv_room hrest) hdg hc
  intro T hT X
  obtain ⟨v, st₀, t, T', Lc, g0, X', hL, e1, e2, ⟨hv, hsim, hz, hk⟩, st⟩ := hr T hT X
  cases hv
  rw [g0] at hz hk
  obtain ⟨t2, a1, b1⟩ := kk T'.heap (locs ++ Lc) (by rw [e1]; exact hsim)
    ⟨Nat.le_trans hS0.1 (by rw [e1]; exact hz), fun q h1 h2 => by rw [e1, hk q (Nat.lt_of_lt_of_le h1 hS0.1) (fun z => h2 (hsub q z))]; exact hS0.2.1 q h1 h2, fun q hq => by
      rcases List.mem_append.mp hq with h | h
      · exact hS0.2.2 q h
      · exact hsub _ (hL q h)⟩ T' rfl X'
  exact ⟨t2, st t2 a1, b1⟩
end NCALL
