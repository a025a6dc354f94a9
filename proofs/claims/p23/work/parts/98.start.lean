/-! the law: its loop, and its start -/
abbrev lL (k : Nat) (x y : Option DV) : List (Option DV) := [some (.inr (34, 0, 0)), some (.inr (6, 0, 0)), some (.inl (nI k)), x, y]
theorem s_1 {k : Nat} (hk : k < 50) (x y : Option DV) {h : DH} {s : Nat → Int32} {l : List (Nat → Int32)} (hs : PR h s l) (hS : h.2 (34, 0, 0) 0 < 2 ^ 31) : RunsK dT_law (dEx 7) (fun A => ∃ (v got : Int32) (h' : DH) (s' : Nat → Int32) (l' : List (Nat → Int32)), A = (37, lL k (some (.inl v)) (some (.inl got)), [.inr (6, 0, 0)], h') ∧ PR h' s' l') (10, lL k x y, [], h) := by
  refine RunsK.go 3 rfl trivial ?_
  refine RunsK.ifF (i_ge hk (by decide)) ?_
  refine RunsK.go 2 rfl trivial ?_
  obtain ⟨v, hv⟩ := l_cell 6 h hk hS
  refine RunsK.cal rfl hv ?_
  refine RunsK.go 3 rfl trivial ?_
  obtain ⟨got, h', s', l', a1, a2, a3⟩ := l_does 0 v hs
  refine RunsK.cal rfl a1 ?_
  refine RunsK.go 4 rfl trivial ?_
  refine RunsK.ifF a3 ?_
  refine RunsK.go 1 rfl trivial ?_
  exact RunsK.stop ⟨v, got, h', s', l', rfl, a2⟩
theorem s_2 (k : Nat) (x y : Option DV) (h : DH) : RunsK dT_law (dEx 7) (fun A => A = (51, lL k x y, [.inr (6, 0, 0)], h) ∨ A = (57, lL k x y, [], h)) (40, lL k x y, [.inl 1], h) := by
  refine RunsK.go 1 rfl trivial ?_
  refine RunsK.ifF (by decide) ?_
  refine RunsK.go 5 rfl ⟨trivial, (by decide)⟩ ?_
  refine RunsK.ifS (fun _ => ?_) (fun _ => ?_)
  · refine RunsK.go 1 rfl trivial ?_
    exact RunsK.stop (Or.inl rfl)
  · exact RunsK.stop (Or.inr rfl)
theorem s_2b (k : Nat) (x y : Option DV) (h : DH) : RunsK dT_law (dEx 7) (fun A => A = (57, lL k x y, [], h)) (54, lL k x y, [.inl 1], h) := by
  refine RunsK.go 1 rfl trivial ?_
  refine RunsK.ifF (by decide) ?_
  exact RunsK.stop rfl
theorem s_3 (k : Nat) (v got : Int32) {h : DH} {s : Nat → Int32} {l : List (Nat → Int32)} (hs : PR h s l) : RunsK dT_law (dEx 7) (fun A => ∃ (h' : DH) (s' : Nat → Int32) (l' : List (Nat → Int32)), A = (10, lL (k + 1) (some (.inl v)) (some (.inl got)), [], h') ∧ PR h' s' l') (57, lL k (some (.inl v)) (some (.inl got)), [], h) := by
  have e107 : ∀ {h : DH} {s : Nat → Int32} {l : List (Nat → Int32)}, PR h s l → RunsK dT_law (dEx 7) (fun A => ∃ (h' : DH) (s' : Nat → Int32) (l' : List (Nat → Int32)), A = (10, lL (k + 1) (some (.inl v)) (some (.inl got)), [], h') ∧ PR h' s' l') (107, lL k (some (.inl v)) (some (.inl got)), [], h) := by
    intro h s l hs
    refine RunsK.go 2 rfl trivial ?_
    rw [nI_1]
    exact RunsK.stop ⟨h, s, l, rfl, hs⟩
  have e79 : ∀ {h : DH} {s : Nat → Int32} {l : List (Nat → Int32)}, PR h s l → RunsK dT_law (dEx 7) (fun A => ∃ (h' : DH) (s' : Nat → Int32) (l' : List (Nat → Int32)), A = (10, lL (k + 1) (some (.inl v)) (some (.inl got)), [], h') ∧ PR h' s' l') (79, lL k (some (.inl v)) (some (.inl got)), [], h) := by
    intro h s l hs
    refine RunsK.go 5 rfl ⟨trivial, (by decide)⟩ ?_
    refine RunsK.ifS (fun _ => ?_) (fun _ => e107 hs)
    refine RunsK.go 6 rfl trivial ?_
    obtain ⟨q, hq, hl⟩ := l_low 6 (v >>> (5 &&& 31)) h (m := 12) (by decide) (by decide)
    refine RunsK.cal rfl hl ?_
    refine RunsK.go 1 rfl trivial ?_
    rw [show (1 : Int32) + nI q = nI (1 + q) from nI_add 1 q]
    obtain ⟨h', l', a1, a2⟩ := l_onceSo 0 (m := 1 + q) (by omega) (by omega) hs
    refine RunsK.cal rfl a1 ?_
    refine RunsK.go 1 rfl trivial ?_
    refine RunsK.ifF (by decide) ?_
    exact e107 a2
  refine RunsK.go 5 rfl ⟨trivial, (by decide)⟩ ?_
  refine RunsK.ifS (fun _ => ?_) (fun _ => e79 hs)
  refine RunsK.go 5 rfl trivial ?_
  obtain ⟨r, hr, hl⟩ := l_some 1 (v >>> (6 &&& 31)) hs
  refine RunsK.cal rfl hl ?_
  obtain ⟨h', l', a1, a2⟩ := l_ansSo 0 r hs hr
  refine RunsK.cal rfl a1 ?_
  refine RunsK.go 1 rfl trivial ?_
  refine RunsK.ifF (by decide) ?_
  exact e79 a2
theorem s_4 (x y : Option DV) (h : DH) : RunsK dT_law (dEx 7) (fun A => A = (114, lL 50 x y, [.inl 1], h)) (10, lL 50 x y, [], h) := by
  refine RunsK.go 3 rfl trivial ?_
  refine RunsK.ifT (Int32.le_refl _) ?_
  refine RunsK.go 1 rfl trivial ?_
  exact RunsK.stop rfl
section LAW
variable {p : Program} {e : Env} {s : State} {m : MethodId} {below : List Frame} {meth : Method} {c : Code} {b SL : Nat} {xs : Nat → Int32}
variable {D : va_G} {ad : DKey → Nat} {ca : Nat → ClassId} {fm : Value}
/-- a stretch of the law by the abstract machine -/
theorem law_seg (l : Launch) (C : Cx p s m #[Value.ref b] c code 11 lw_tbl D ad ca fm xs SL (fun q => s.heap.size ≤ q)) (hml : c.maxLocals = 5) (hi : dInj ad) (hf : dFm fm) (hA : ∀ κ, okK ad κ = true → s.heap.size ≤ ad κ) {K : DS → Prop} {pc : Nat} {L : List (Option DV)} {st : List DV} {h : DH} (hrun : RunsK dT_law (dEx 7) K (pc, L, st, h)) {H : Heap} {locs : List Loc} {ls : Array Slot} {cells slots : Nat} (hc : cells ≤ 600) (hsl : slots ≤ 4000) (hLl : L.length = 5) (hLo : dOkL ad L) (hst : ∀ v ∈ st, okV ad v = true) (hloc : dLoc ad fm L 5 ls) (hS : dSim D ad ca xs SL h H) (hS0 : va_S (fun q => s.heap.size ≤ q) s.heap H locs)
    (hfin : ∀ (pc : Nat) (L : List (Option DV)) (st : List DV) (h : DH) (H : Heap) (locs : List Loc) (ls : Array Slot), K (pc, L, st, h) → L.length = 5 → dOkL ad L → (∀ v ∈ st, okV ad v = true) → dLoc ad fm L 5 ls → dSim D ad ca xs SL h H → va_S (fun q => s.heap.size ≤ q) s.heap H locs → W p l e room_1 s m #[Value.ref b] below meth c H locs cells slots (lw_Z below #[Value.ref b] s) (F0 m pc ls (st.map (dval ad fm)))) :
    W p l e room_1 s m #[Value.ref b] below meth c H locs cells slots (lw_Z below #[Value.ref b] s) (F0 m pc ls (st.map (dval ad fm))) := by
  obtain ⟨nn, hn⟩ := hrun
  exact d_sound (A := fun q => s.heap.size ≤ q) (Ts := lw_tbl) (d := 7) (o := 11) (rt := some .boolean) (cc := code) (T := dT_law) (nL := 5) (K := K) C.1 C.2.1 hml C.2.2.1 C.2.2.2.1 dWd_good C.2.2.2.2.2.1 hA hi hf ⟨by decide, by decide, Nat.le_trans hc (by decide), Nat.le_trans hsl (by decide)⟩ dg_law.1 dg_law.2 (fun mid as h r q => d_met l hi hf 7 mid as h r q) hfin nn pc L st h hn H locs ls hLl hLo hst hloc hS hS0
theorem law_W (l : Launch) (C : Cx p s m #[Value.ref b] c code 11 lw_tbl D ad ca fm xs SL (fun q => s.heap.size ≤ q)) (hml : c.maxLocals = 5) (hr : meth.sig.returnType = ret) (hlocks : meth.locks = false) (hi : dInj ad) (hf : dFm fm) (h35 : ad (35, 0, 0) = 0) (h36 : ad (36, 0, 0) = 0) (hA : ∀ κ, okK ad κ = true → s.heap.size ≤ ad κ) (hSL : SL ≤ 260) : ∀ j k, 50 - k = j → k ≤ 50 → ∀ (x y : Option DV) (h : DH) (s1 : Nat → Int32) (l1 : List (Nat → Int32)) (H : Heap) (locs : List Loc) (ls : Array Slot), PR h s1 l1 → dOkL ad (lL k x y) → dLoc ad fm (lL k x y) 5 ls → dSim D ad ca xs SL h H → va_S (fun q => s.heap.size ≤ q) s.heap H locs → W p l e room_1 s m #[Value.ref b] below meth c H locs (400 + 2 * k) (2600 + 16 * k) (lw_Z below #[Value.ref b] s) (F0 m 10 ls []) := by
  have hdA : ∀ q, dAm ad q → s.heap.size ≤ q := fun q ⟨κ, h1, h2⟩ => by rw [← h2]; exact hA κ h1
  intro j
  induction j with
  | zero =>
    intro k hj hk x y h s1 l1 H locs ls hP hLo hloc hS hS0
    have ek : k = 50 := by omega
    subst ek
    refine law_seg l C hml hi hf hA (s_4 x y h) (by omega) (by omega) rfl hLo (fun _ hv => by cases hv) hloc hS hS0 ?_
    rintro pc L st h4 H4 locs4 ls4 hK hLl4 hLo4 hst4 hloc4 hS4 hS5
    cases hK
    exact va_forget hS5.2.2 (W.widen (by decide) (by decide) (lw_ret (pc := 114) C.1 C.2.1 hr hlocks (by decide +kernel)))
  | succ j ih =>
    intro k hj hk x y h s1 l1 H locs ls hP hLo hloc hS hS0
    refine law_seg l C hml hi hf hA (s_1 (show k < 50 by omega) x y hP (by rw [hS.2.2.2.2]; omega)) (by omega) (by omega) rfl hLo (fun _ hv => by cases hv) hloc hS hS0 ?_
    rintro pc L st h4 H4 locs4 ls4 ⟨v, got, h', s', l', hK, hP'⟩ hLl4 hLo4 hst4 hloc4 hS4 hS5
    cases hK
    refine n_call (pc := 37) (idx := 79) (rest := []) C hml hloc4.1 hdA (fun q hq => hq) hS4 hS5 (n_disks l hi hf h35 hP') (by decide) (dWd_of (i := 435) (by decide +kernel) rfl) (dWd_of (i := 16) (by decide +kernel) rfl) (dWd_of (i := 433) (by decide +kernel) rfl) (dWd_of (i := 434) (by decide +kernel) rfl) (by decide) ⟨Nat.le_trans (show 400 + 2 * k + 1 ≤ 600 by omega) (by decide), Nat.le_trans (show 2600 + 16 * k + 4 ≤ 4000 by omega) (by decide)⟩ (by decide) (by decide +kernel) fun H5 locs5 hS6 hS7 => ?_
    -- behind both checks of the state: the rest of this turn
    have e57 : ∀ (cells slots : Nat) (H : Heap) (locs : List Loc) (ls : Array Slot), cells ≤ 400 + 2 * (k + 1) → slots ≤ 2600 + 16 * (k + 1) → dLoc ad fm (lL k (some (.inl v)) (some (.inl got))) 5 ls → dSim D ad ca xs SL h4 H → va_S (fun q => s.heap.size ≤ q) s.heap H locs → W p l e room_1 s m #[Value.ref b] below meth c H locs cells slots (lw_Z below #[Value.ref b] s) (F0 m 57 ls []) := by
      intro cells slots H locs ls hc1 hc2 hlo hSa hSb
      refine law_seg l C hml hi hf hA (s_3 k v got hP') (by omega) (by omega) rfl hLo4 (fun _ hv => by cases hv) hlo hSa hSb ?_
      rintro pc L st h6 H6 locs6 ls6 ⟨h7, s7, l7, hK, hP7⟩ hLl6 hLo6 hst6 hloc6 hSc hSd
      cases hK
      exact W.widen hc1 hc2 (ih (k + 1) (by omega) (by omega) _ _ h6 s7 l7 H6 locs6 ls6 hP7 hLo6 hloc6 hSc hSd)
    have st1 : ∀ v' ∈ ([.inl 1] : List DV), okV ad v' = true := fun v' hv => by rw [List.mem_singleton.mp hv]; rfl
    refine law_seg l C hml hi hf hA (pc := 40) (st := [.inl 1]) (s_2 k (some (.inl v)) (some (.inl got)) h4) (by omega) (by omega) rfl hLo4 st1 hloc4 hS6 hS7 ?_
    rintro pc L st h6 H6 locs6 ls6 hK hLl6 hLo6 hst6 hloc6 hSa hSb
    rcases hK with hK | hK
    · cases hK
      refine n_call (pc := 51) (idx := 83) (rest := []) C hml hloc6.1 hdA (fun q hq => hq) hSa hSb (n_reads l hi hf h36 hP') (by decide) (dWd_of (i := 457) (by decide +kernel) rfl) (dWd_of (i := 16) (by decide +kernel) rfl) (dWd_of (i := 455) (by decide +kernel) rfl) (dWd_of (i := 456) (by decide +kernel) rfl) (by decide) ⟨Nat.le_trans (show 400 + 2 * k + 1 + 1 ≤ 600 by omega) (by decide), Nat.le_trans (show 2600 + 16 * k + 4 + 12 ≤ 4000 by omega) (by decide)⟩ (by decide) (by decide +kernel) fun H8 locs8 hSc hSd => ?_
      refine law_seg l C hml hi hf hA (pc := 54) (st := [.inl 1]) (s_2b k (some (.inl v)) (some (.inl got)) h4) (by omega) (by omega) rfl hLo6 st1 hloc6 hSc hSd ?_
      rintro pc L st h9 H9 locs9 ls9 hK9 hLl9 hLo9 hst9 hloc9 hSe hSf
      cases hK9
      exact e57 _ _ H9 locs9 ls9 (by omega) (by omega) hloc9 hSe hSf
    · cases hK
      exact e57 _ _ H6 locs6 ls6 (by omega) (by omega) hloc6 hSa hSb
end LAW
theorem whole_start {p : Program} {e : Env} {s : State} {m : MethodId} {below : List Frame} {meth : Method} {c : Code} (l : Launch) (hflags : l.flags = flags0) {b L : Nat} {xs : Nat → Int32} (hL : L ≤ 260) (C0 : lw_At p s m meth c b L xs) : W p l e room_1 s m #[Value.ref b] below meth c s.heap [] 0 0 (lw_Z below #[Value.ref b] s) (entryFrame m ([Value.ref b] : List Value).toArray 5) := by
  obtain ⟨hx, hb, hr, hml, hown, hts, hX, hbl, hlocks, hgv⟩ := C0
  obtain ⟨D, ca, T, hAO, hEn⟩ := env0 hts hgv hX hbl
  have hE : dEnv D (adA s.heap.size T b) ca .null xs L (fun q => s.heap.size ≤ q) s := hEn _ (fun _ => rfl) rfl
  have C : Cx p s m #[Value.ref b] c code 11 lw_tbl D (adA s.heap.size T b) ca .null xs L (fun q => s.heap.size ≤ q) := ⟨hx, hb, hown, hts, dWd_good, hE, hAO⟩
  have hlv := lv_entry [Value.ref b] (n := 5) (by show 1 ≤ 5; decide)
  rw [lg_entry_eq]
  generalize (lg_sl [Value.ref b] ++ List.replicate (5 - (lg_sl [Value.ref b]).length) Slot.unset).toArray = ls at hlv ⊢
  have hlv2 : lv_has ls 5 [(0, .ref b)] := hlv
  have hA0 : ∀ q, s.heap.size ≤ q → s.heap.size ≤ q := fun _ h => h
  have hB : BW D s.heap.size (fun _ => none) s.heap := ⟨rfl, fun _ _ h => by cases h⟩
  have hS : va_S (fun q => s.heap.size ≤ q) s.heap s.heap [] := va_S.rf
  refine b_new (pc := 0) (idx := 9) (ci := 3) C hB hS (by decide) (dWd_of (i := 24) (by decide +kernel) rfl) (dWd_of (i := 25) (by decide +kernel) rfl) (dWd_of (i := 17) (by decide +kernel) rfl) (by decide) (by decide) (by decide +kernel) fun H1 hB1 hS1 => ?_
  refine lv_dup (pc := 3) C.1 C.2.1 (by decide +kernel) rfl ?_
  refine b_callI (pc := 4) (idx := 71) (a := s.heap.size) (y := ⟨"DiskDrawer", "<init>", "()V"⟩) C hml hlv2.1 hB1 hS1 hA0 hA0 (Nat.le_refl _) (fu_s _ _ _) (c_Draw l) rfl (by decide +kernel) (dWd_of (i := 28) (by decide +kernel) rfl) (dWd_of (i := 17) (by decide +kernel) rfl) (dWd_of (i := 26) (by decide +kernel) rfl) (dWd_of (i := 27) (by decide +kernel) rfl) (by decide) (by decide) (by show 1 ≤ 8; decide) (by decide +kernel) fun H2 locs2 hB2 hS2 => ?_
  have hB2c : BW D (s.heap.size + 376) _ H2 := ⟨hB2.1.trans (by omega), hB2.2⟩
  refine lv_astore_n (pc := 7) (k := 1) (i := 1) (lv' := [(1, .ref s.heap.size), (0, .ref b)]) C.1 C.2.1 (by decide +kernel) rfl hlv2 (by decide) rfl fun ls1 hlv3 => ?_
  refine lv_iconst (pc := 8) (n := 0) (v := nI 0) C.1 C.2.1 (by decide +kernel) rfl ?_
  refine lv_istore_n (pc := 9) (k := 2) (i := 2) (lv' := [(2, .int (nI 0)), (1, .ref s.heap.size), (0, .ref b)]) C.1 C.2.1 (by decide +kernel) rfl hlv3 (by decide) rfl fun ls2 hlv4 => ?_
  have hF : BW D (s.heap.size + 376) (gF ca s.heap.size) H2 := hB2c.sub fun q r hq => by
    unfold gF at hq
    by_cases q1 : q < s.heap.size + 376
    · by_cases q2 : s.heap.size ≤ q
      · rw [if_pos q1, if_pos q2] at hq
        rw [mix_s (by omega)]
        exact hq
      · rw [if_pos q1, if_neg q2] at hq
        cases hq
    · rw [if_neg q1] at hq
      cases hq
  have hloc : dLoc (adA s.heap.size T b) .null (lL 0 none none) 5 ls2 := lv_sub hlv4 [2, 1, 0] rfl
  have hok : dOkL (adA s.heap.size T b) (lL 0 none none) := by
    intro k v hk
    match k, hk with
    | 0, hk => cases hk; rfl
    | 1, hk => cases hk; rfl
    | 2, hk => cases hk; rfl
    | 3, hk => cases hk
    | 4, hk => cases hk
    | n + 5, hk => cases hk
  refine W.widen (k := 400 + 2 * 0) (n := 2600 + 16 * 0) (by decide) (by decide) ?_
  exact law_W l C hml hr hlocks adA_inj (Or.inl rfl) (adA_35 _ _ _) (adA_36 _ _ _) (fun κ hκ => by rw [adA_ok hκ]; exact Nat.le_add_right _ _) hL 50 0 rfl (Nat.zero_le _) none none (h0 xs L) num0 [] H2 locs2 ls2 (PR_0 xs L) hok hloc (dSim_0 hF) hS2
