/-! the law from its entry on -/
theorem law_okL : dOkL (lawL 0) := fun k v hk => by
  match k, hk with
  | 0, hk => cases hk; rfl
  | 1, hk => cases hk; rfl
  | 2, hk => cases hk; rfl
  | 3, hk => cases hk; rfl
  | n + 4, hk => cases hk
theorem whole_start {p : Program} {e : Env} {s : State} {m : MethodId} {below : List Frame} {meth : Method} {c : Code} (l : Launch) (hflags : l.flags = flags0) {b L : Nat} {xs : Nat → Int32} (hL : L ≤ 1536) (C0 : lw_At p s m meth c b L xs) : W p l e room_1 s m #[Value.ref b] below meth c s.heap [] 0 0 (lw_Z below #[Value.ref b] s) (entryFrame m ([Value.ref b] : List Value).toArray 4) := by
  obtain ⟨hx, hb, hr, hml, hown, hts, hX, hbl, hlocks, hgv⟩ := C0
  obtain ⟨D, ca, fm, T, K, V, hfm, hAO, hEn⟩ := env0 hts hgv hX hbl
  have hE : dEnv D (adA s.heap.size K V T b) ca fm xs L (fun q => s.heap.size ≤ q) s := hEn _ (fun _ => rfl) (fun _ => rfl) (fun _ => rfl) rfl
  have C : Cx p s m #[Value.ref b] c code 11 lw_tbl D (adA s.heap.size K V T b) ca fm xs L (fun q => s.heap.size ≤ q) := ⟨hx, hb, hown, hts, dWd_good, hE, hAO⟩
  have hlv := lv_entry [Value.ref b] (n := 4) (by show 1 ≤ 4; decide)
  rw [lg_entry_eq]
  generalize (lg_sl [Value.ref b] ++ List.replicate (4 - (lg_sl [Value.ref b]).length) Slot.unset).toArray = ls at hlv ⊢
  have hlv2 : lv_has ls 4 [(0, .ref b)] := hlv
  have hA0 : ∀ q, s.heap.size ≤ q → s.heap.size ≤ q := fun _ h => h
  have hB : BW D s.heap.size (fun _ => none) s.heap := ⟨rfl, fun _ _ h => by cases h⟩
  have hS : va_S (fun q => s.heap.size ≤ q) s.heap s.heap [] := va_S.rf
  refine b_new (pc := 0) (idx := 7) (ci := 3) C hB hS (by decide) (dWd_of (i := 74) (by decide +kernel) rfl) (dWd_of (i := 75) (by decide +kernel) rfl) (dWd_of (i := 62) (by decide +kernel) rfl) (by decide) (by decide) (by decide +kernel) fun H1 hB1 hS1 => ?_
  refine lv_dup (pc := 3) C.1 C.2.1 (by decide +kernel) rfl ?_
  refine b_callI (pc := 4) (idx := 9) (a := s.heap.size) (y := ⟨"DiskDrawer", "<init>", "()V"⟩) C hml hlv2.1 hB1 hS1 hA0 hA0 (Nat.le_refl _) (fu_s _ _ _) (c_Draw l) rfl (by decide +kernel) (dWd_of (i := 78) (by decide +kernel) rfl) (dWd_of (i := 62) (by decide +kernel) rfl) (dWd_of (i := 76) (by decide +kernel) rfl) (dWd_of (i := 77) (by decide +kernel) rfl) (by decide) (by decide) (by show 1 ≤ 8; decide) (by decide +kernel) fun H2 locs2 hB2 hS2 => ?_
  have hB2c : BW D (s.heap.size + 376) _ H2 := ⟨hB2.1.trans (by omega), hB2.2⟩
  refine lv_astore_n (pc := 7) (k := 1) (i := 1) (lv' := [(1, .ref s.heap.size), (0, .ref b)]) C.1 C.2.1 (by decide +kernel) rfl hlv2 (by decide) rfl fun ls1 hlv3 => ?_
  refine b_new (pc := 8) (idx := 10) (ci := 6) C hB2c hS2 (by decide) (dWd_of (i := 664) (by decide +kernel) rfl) (dWd_of (i := 665) (by decide +kernel) rfl) (dWd_of (i := 68) (by decide +kernel) rfl) (by decide) (by decide) (by decide +kernel) fun H3 hB3 hS3 => ?_
  refine lv_dup (pc := 11) C.1 C.2.1 (by decide +kernel) rfl ?_
  refine b_callI (pc := 12) (idx := 12) (a := s.heap.size + 376) (y := ⟨"DiskDrawerModel", "<init>", "()V"⟩) C hml hlv3.1 hB3 hS3 hA0 hA0 (Nat.le_add_right _ _) (fu_s _ _ _) (c_Mod l) rfl (by decide +kernel) (dWd_of (i := 668) (by decide +kernel) rfl) (dWd_of (i := 68) (by decide +kernel) rfl) (dWd_of (i := 666) (by decide +kernel) rfl) (dWd_of (i := 667) (by decide +kernel) rfl) (by decide) (by decide) (by show 1 ≤ 8; decide) (by decide +kernel) fun H4 locs4 hB4 hS4 => ?_
  refine lv_astore_n (pc := 15) (k := 2) (i := 2) (lv' := [(2, .ref (s.heap.size + 376)), (1, .ref s.heap.size), (0, .ref b)]) C.1 C.2.1 (by decide +kernel) rfl hlv3 (by decide) rfl fun ls2 hlv4 => ?_
  refine lv_iconst (pc := 16) (n := 0) (v := nI 0) C.1 C.2.1 (by decide +kernel) rfl ?_
  refine lv_istore_n (pc := 17) (k := 3) (i := 3) (lv' := [(3, .int (nI 0)), (2, .ref (s.heap.size + 376)), (1, .ref s.heap.size), (0, .ref b)]) C.1 C.2.1 (by decide +kernel) rfl hlv4 (by decide) rfl fun ls3 hlv5 => ?_
  have hB4c : BW D (s.heap.size + 383) _ H4 := ⟨hB4.1.trans (by omega), hB4.2⟩
  have hF : BW D (s.heap.size + 383) (gF ca s.heap.size) H4 := hB4c.sub fun q r hq => by
    by_cases q1 : q < s.heap.size + 376
    · by_cases q2 : s.heap.size ≤ q
      · rw [gF_D q2 q1] at hq
        rw [mix_n (by omega), fu_n _ _ (by omega), mix_s (by omega)]
        exact hq
      · unfold gF at hq
        rw [if_pos q1, if_neg q2] at hq
        cases hq
    · by_cases q2 : q < s.heap.size + 383
      · rw [gF_M (by omega) q2] at hq
        rw [mix_s (by omega)]
        exact hq
      · unfold gF at hq
        rw [if_neg q1, if_neg q2] at hq
        cases hq
  obtain ⟨hEnd, n, hrun⟩ := law_loop hL L 0 (h0 xs L) (by omega) (Nat.zero_le _) (RR_0 xs L) rfl rfl
  have hloc : dLoc (adA s.heap.size K V T b) fm (lawL 0) 4 ls3 := lv_sub hlv5 [3, 2, 1, 0] rfl
  refine d_sound (A := fun q => s.heap.size ≤ q) (Ts := lw_tbl) (d := 10) (o := 11) (rt := some .int) (cc := code) (T := dT_law) (nL := 4) hx hb hml hown hts dWd_good hE (fun κ hκ => by rw [adA_ok hκ]; exact Nat.le_add_right _ _) adA_inj hfm ⟨by decide, by decide, by decide, by decide⟩ dg_law.1 dg_law.2 (fun mid as h r q => d_met l adA_inj hfm 10 mid as h r q) ?_ n 18 (lawL 0) [] (h0 xs L) hrun H4 locs4 ls3 rfl law_okL (fun _ h => by cases h) hloc (dSim_0 hF) hS4
  intro pc L1 st h1 G H5 locs5 ls5 hg g hst hS5 hS6
  cases hop : dop dT_law pc with
  | none => simp only [dfin, hop] at hg; cases hg
  | some op =>
  obtain ⟨i, len, hd, he⟩ := dchk_at dg_law.1 hop
  obtain ⟨k, a1, b1, nx, v, ts⟩ := op
  obtain ⟨r36, r37, r38, r42, r43, r44⟩ := denc_ret he
  simp only [dfin, hop] at hg
  split at hg
  · rename_i z; cases z
    obtain ⟨rfl, rfl, e3⟩ := r36 rfl
    split at hg
    · cases hg
      exact va_forget hS6.2.2 (W.widen (by decide) (by decide) (lw_ret hx hb hr hlocks hd))
    · cases hg
  · rename_i z; cases z
    split at hg
    · cases hg
    · cases hg
  · rename_i z; cases z
    split at hg
    · cases hg
    · cases hg
  · rename_i z; cases z
    obtain ⟨rfl, rfl, e3⟩ := r42 rfl
    cases e3
  · rename_i z; cases z
    obtain ⟨rfl, rfl, e3⟩ := r43 rfl
    cases e3
  · rename_i z; cases z
    obtain ⟨rfl, rfl, e3⟩ := r44 rfl
    cases e3
  · cases hg
