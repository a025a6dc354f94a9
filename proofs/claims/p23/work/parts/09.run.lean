/-! the whole run of a table -/
variable {ad : DKey → Nat}
theorem dref_okV {κ : DKey} {k : Nat} {w : DV} (hκ : okV ad (.inr κ) = true) (h : dref κ k = some w) : okV ad w = true := by
  obtain ⟨kd, i, j⟩ := κ
  unfold dref at h
  dsimp only at h
  split at h
  · cases h
  · rename_i t m e
    unfold drefT at e
    split at e <;> cases e <;> cases h <;> first | rfl | (simp [okV, okK] at hκ ⊢; omega)
theorem dval_ref {ad : DKey → Nat} {fm : Value} (hf : dFm fm) (κ : DKey) : dval ad fm (.inr κ) = .null ∨ ∃ a, dval ad fm (.inr κ) = .ref a := by
  unfold dval
  dsimp only
  split
  · exact hf
  · exact Or.inr ⟨_, rfl⟩
theorem dtgt_ok {pc t : Nat} {off : Int} (h : dtgt pc off = some t) : (pc : Int) + off = (t : Int) := by
  unfold dtgt at h
  split at h
  · cases h; omega
  · cases h
def dOkL (ad : DKey → Nat) (L : List (Option DV)) : Prop := ∀ k v, dget L k = some v → okV ad v = true
theorem dOkL.set {L : List (Option DV)} (h : dOkL ad L) {i : Nat} {v : DV} (hi : i < L.length) (hv : okV ad v = true) : dOkL ad (dset L i v) := by
  intro k w hk
  rw [dget_set L i k v hi] at hk
  split at hk
  · cases hk; exact hv
  · exact h k w hk
theorem dok_cons {v : DV} {st : List DV} (hv : okV ad v = true) (h : ∀ w ∈ st, okV ad w = true) : ∀ w ∈ v :: st, okV ad w = true := List.forall_mem_cons.mpr ⟨hv, h⟩
theorem dtgts_len {pc : Nat} : ∀ {os : List Int} {ts : List Nat}, dtgts pc os = some ts → os.length = ts.length
  | [], ts, h => by cases h; rfl
  | o :: os, ts, h => by
    simp only [dtgts] at h
    split at h
    · rename_i t ts' e1 e2
      cases h
      simp [dtgts_len e2]
    · cases h
theorem dtgts_at {pc : Nat} : ∀ {os : List Int} {ts : List Nat}, dtgts pc os = some ts → ∀ (j : Nat) (t : Nat), ts[j]? = some t → ∃ off, os[j]? = some off ∧ (pc : Int) + off = (t : Int)
  | [], ts, h, j, t, hj => by cases h; cases hj
  | o :: os, ts, h, j, t, hj => by
    simp only [dtgts] at h
    split at h
    · rename_i t0 ts' e1 e2
      cases h
      cases j with
      | zero => cases hj; exact ⟨o, rfl, dtgt_ok e1⟩
      | succ j => exact dtgts_at e2 j t hj
    · cases h
theorem dtsw_out {d : Nat} {x : Int32} : ∀ (ts : List Nat) (lo : Nat), lo + ts.length < 2000 → (x.toInt < lo ∨ (lo : Int) + ts.length ≤ x.toInt) → dtsw d (Int32.ofNat lo) ts x = d := by
  intro ts
  induction ts with
  | nil => intro lo _ _; rfl
  | cons t ts ih =>
    intro lo hl hx
    simp only [List.length_cons] at hl hx
    have hne : ¬ x = Int32.ofNat lo := by
      intro z
      have : x.toInt = lo := by rw [z]; exact nI_toInt (n := lo) (by omega)
      omega
    show (if x = Int32.ofNat lo then t else dtsw d (Int32.ofNat lo + 1) ts x) = d
    rw [if_neg hne, show Int32.ofNat lo + 1 = Int32.ofNat (lo + 1) from nI_1 lo]
    exact ih (lo + 1) (by omega) (by omega)
theorem dtsw_in {d : Nat} {x : Int32} : ∀ (ts : List Nat) (lo : Nat), lo + ts.length < 2000 → (lo : Int) ≤ x.toInt → x.toInt < (lo : Int) + ts.length → ts[(x.toInt - lo).toNat]? = some (dtsw d (Int32.ofNat lo) ts x) := by
  intro ts
  induction ts with
  | nil => intro lo _ h1 h2; simp at h2; omega
  | cons t ts ih =>
    intro lo hl h1 h2
    simp only [List.length_cons] at hl h2
    show _ = some (if x = Int32.ofNat lo then t else dtsw d (Int32.ofNat lo + 1) ts x)
    by_cases hz : x = Int32.ofNat lo
    · have : x.toInt = lo := by rw [hz]; exact nI_toInt (n := lo) (by omega)
      rw [if_pos hz, this]
      simp
    · have hne : x.toInt ≠ lo := by
        intro z
        refine hz (Int32.toInt_inj.mp (z.trans ?_))
        exact (nI_toInt (n := lo) (by omega)).symm
      rw [if_neg hz, show Int32.ofNat lo + 1 = Int32.ofNat (lo + 1) from nI_1 lo]
      have := ih (lo + 1) (by omega) (by omega) (by omega)
      rw [show (x.toInt - (lo : Int)).toNat = (x.toInt - ((lo + 1 : Nat) : Int)).toNat + 1 from by omega, List.getElem?_cons_succ]
      exact this
theorem dofInt {n : Int} (h0 : 0 ≤ n) : Int32.ofInt n = Int32.ofNat n.toNat := by
  obtain ⟨k, rfl⟩ := Int.eq_ofNat_of_zero_le h0
  rfl
theorem denc_34 {o : Nat} {rt : Option FieldType} {pc len mid n nx ci : Nat} {v : Int32} {i : Instr} (h : denc o rt pc i len = some (34, mid, n, nx, v, [ci])) : ∃ x, (i = .invokevirtual x ∧ len = 3) ∧ nx = pc + 3 ∧ dcal o x = some (mid, n, 0) ∧ ∃ q : DM, dms[mid]? = some q ∧ q.2.2.2.2.1 = ci := by
  unfold denc at h
  split at h
  all_goals first
    | (cases h; done)
    | (split at h
       · rename_i x _ _ _ e
         split at h
         · rename_i q e2
           cases h
           exact ⟨_, ⟨rfl, rfl⟩, rfl, e, q, e2, rfl⟩
         · cases h
       · cases h)
    | (exfalso; unfold dldc at h; split at h <;> cases h)
    | (exfalso; unfold dgst at h; split at h <;> cases h)
    | (exfalso; simp only [cond] at h; repeat' split at h
       all_goals cases h)
    | (exfalso; repeat' split at h
       all_goals first | (cases h; done) | (simp only [cond] at h; split at h <;> cases h))
theorem denc_35 {o : Nat} {rt : Option FieldType} {pc len mid n nx : Nat} {v : Int32} {l : List Nat} {i : Instr} (h : denc o rt pc i len = some (35, mid, n, nx, v, l)) : ∃ x kd, (i = .invokestatic x ∧ len = 3) ∧ nx = pc + 3 ∧ dcal o x = some (mid, n, kd) ∧ kd ≠ 0 := by
  unfold denc at h
  split at h
  all_goals first
    | (cases h; done)
    | (exfalso; unfold dldc at h; split at h <;> cases h)
    | (exfalso; unfold dgst at h; split at h <;> cases h)
    | (rename_i x
       cases hmx : (Nat.beq o 0 && Nat.beq x 183) with
       | true => rw [hmx] at h; cases h
       | false =>
         rw [hmx] at h
         dsimp only [cond] at h
         split at h
         · cases h
         · rename_i hne e
           cases h
           exact ⟨x, _, ⟨rfl, rfl⟩, rfl, e, hne⟩
         · cases h)
    | (exfalso; simp only [cond] at h; repeat' split at h
       all_goals cases h)
    | (exfalso; repeat' split at h
       all_goals first | (cases h; done) | (simp only [cond] at h; split at h <;> cases h))
section DSND
variable {p : Program} {l : Launch} {e : Env} {R : Room} {s : State} {m : MethodId} {args : Array Value} {below : List Frame} {meth : Method} {c : Code} {cells slots : Nat} {Q : State → Prop}
variable {cc : ByteArray} {Ts : List Cond} {o nL d : Nat} {T : DTbl} {rt : Option FieldType}
variable {D : va_G} {ad : DKey → Nat} {ca : Nat → ClassId} {fm : Value} {xs : Nat → Int32} {SL : Nat} {A : Nat → Prop} {K : DS → Prop}
set_option maxHeartbeats 4000000 in
set_option maxRecDepth 10000 in
theorem d_sound (hx : p.tables.exec = Jvm.exec) (hb : c.code = cc) (hml : c.maxLocals = nL) (hown : s.vm.findClass (don o) = some m.cls) (hts : ∀ w ∈ Ts, w.before args s = true) (hG : GoodIn Ts dWd) (hE : dEnv D ad ca fm xs SL A s) (hA : ∀ κ, okK ad κ = true → A (ad κ)) (hi : dInj ad) (hf : dFm fm)
    (hR : d + 1 ≤ R.frames ∧ 40 * d + 40 ≤ R.locals ∧ cells ≤ R.cells ∧ slots ≤ R.slots) (hT : dchk o rt cc T = true) (hT2 : dchk2 T nL = true)
    (hcal : ∀ (mid : Nat) (as : List DV) (h : DH) (r : DRes) (q : DM), dEx d mid as h r → dms[mid]? = some q → dMet l D ad ca fm xs SL d q as h r)
    (hfin : ∀ (pc : Nat) (L : List (Option DV)) (st : List DV) (h : DH) (H : Heap) (locs : List Loc) (ls : Array Slot), K (pc, L, st, h) → L.length = nL → dOkL ad L → (∀ v ∈ st, okV ad v = true) → dLoc ad fm L nL ls → dSim D ad ca xs SL h H → va_S A s.heap H locs → W p l e R s m args below meth c H locs cells slots Q (F0 m pc ls (st.map (dval ad fm)))) :
    ∀ (n pc : Nat) (L : List (Option DV)) (st : List DV) (h : DH), dRunK T (dEx d) K n (pc, L, st, h) → ∀ (H : Heap) (locs : List Loc) (ls : Array Slot), L.length = nL → dOkL ad L → (∀ v ∈ st, okV ad v = true) → dLoc ad fm L nL ls → dSim D ad ca xs SL h H → va_S A s.heap H locs → W p l e R s m args below meth c H locs cells slots Q (F0 m pc ls (st.map (dval ad fm))) := by
  have hAm : ∀ q, dAm ad q → A q := fun q ⟨κ, h1, h2⟩ => h2 ▸ hA κ h1
  intro n
  induction n with
  | zero => intro pc L st h hr; cases hr
  | succ n ih =>
    intro pc L st h hr H locs ls hl1 hl2 hst hls hS hS0
    rcases hr with ⟨P, B, hs, hP, hn⟩ | ⟨mid, as, nx, L', st', v, h1, hc, hm, hn⟩ | hKK
    · cases hop : dop T pc with
      | none => rw [dstep, hop] at hs; cases hs
      | some op =>
      obtain ⟨i, len, hd, he⟩ := dchk_at hT hop
      unfold denc at he
      split at he
      · cases he
        rw [dstep, hop] at hs
        cases hs
        exact lv_iconst hx hb hd rfl (ih _ _ _ _ hn H locs ls hl1 hl2 (dok_cons rfl hst) hls hS hS0)
      · cases he
        rw [dstep, hop] at hs
        cases hs
        exact lv_bipush hx hb hd rfl (ih _ _ _ _ hn H locs ls hl1 hl2 (dok_cons rfl hst) hls hS hS0)
      · cases he
        rw [dstep, hop] at hs
        cases hs
        exact lv_sipush hx hb hd rfl (ih _ _ _ _ hn H locs ls hl1 hl2 (dok_cons rfl hst) hls hS hS0)
      · rename_i x
        unfold dldc at he
        split at he <;> cases he
        · rw [dstep, hop] at hs
          cases hs
          exact lv_ldc hx hb hown (hts _ (hG _ (dWd_of (w := .constant "DiskDrawer$State" 129 99999) (i := 376) (by decide +kernel) rfl)).1) hd (ih _ _ _ _ hn H locs ls hl1 hl2 (dok_cons rfl hst) hls hS hS0)
        · rw [dstep, hop] at hs
          cases hs
          exact lv_ldc hx hb hown (hts _ (hG _ (dWd_of (w := .constant "DiskDrawerLaw" 7 2147483647) (i := 228) (by decide +kernel) rfl)).1) hd (ih _ _ _ _ hn H locs ls hl1 hl2 (dok_cons rfl hst) hls hS hS0)
        · rw [dstep, hop] at hs
          cases hs
          exact lv_ldc hx hb hown (hts _ (hG _ (dWd_of (w := .constant "DiskDrawerLaw" 61 99000) (i := 468) (by decide +kernel) rfl)).1) hd (ih _ _ _ _ hn H locs ls hl1 hl2 (dok_cons rfl hst) hls hS hS0)
      · cases he
        simp only [dstep, hop] at hs
        split at hs
        · rename_i x hg
          cases hs
          exact lv_iload_n hx hb hd rfl (hls.get hg) (ih _ _ _ _ hn H locs ls hl1 hl2 (dok_cons rfl hst) hls hS hS0)
        · cases hs
      · cases he
        simp only [dstep, hop] at hs
        split at hs
        · rename_i x hg
          cases hs
          exact lv_iload hx hb hd (hls.get hg) (ih _ _ _ _ hn H locs ls hl1 hl2 (dok_cons rfl hst) hls hS hS0)
        · cases hs
      · cases he
        simp only [dstep, hop] at hs
        split at hs
        · rename_i κ hg
          cases hs
          have hk := ih _ _ _ _ hn H locs ls hl1 hl2 (dok_cons (hl2 _ _ hg) hst) hls hS hS0
          have hq := hls.get hg
          rw [List.map_cons] at hk
          rcases dval_ref (ad := ad) hf κ with z | ⟨a, z⟩
          · rw [z] at hk hq
            exact lv_aload_nN hx hb hd rfl hq hk
          · rw [z] at hk hq
            exact lv_aload_n hx hb hd rfl hq hk
        · cases hs
      · cases he
        simp only [dstep, hop] at hs
        split at hs
        · rename_i κ hg
          cases hs
          have hk := ih _ _ _ _ hn H locs ls hl1 hl2 (dok_cons (hl2 _ _ hg) hst) hls hS hS0
          have hq := hls.get hg
          rw [List.map_cons] at hk
          rcases dval_ref (ad := ad) hf κ with z | ⟨a, z⟩
          · rw [z] at hk hq
            exact lv_aloadN hx hb hd hq hk
          · rw [z] at hk hq
            exact lv_aload hx hb hd hq hk
        · cases hs
      · cases he
        have ha := dchk2_at hT2 hop (by decide)
        simp only [dstep, hop] at hs
        split at hs
        · rename_i x st
          rw [dsetK_eq] at hs
          cases hs
          exact lv_istore_n hx hb hd rfl hls ha rfl (fun ls' hl' => ih _ _ _ _ hn H locs ls' (by rw [dset_len]; exact hl1) (hl2.set (by omega) rfl) (fun v hv => hst v (List.mem_cons_of_mem _ hv)) (dLoc.put hf (by omega) hl') hS hS0)
        · cases hs
      · cases he
        have ha := dchk2_at hT2 hop (by decide)
        simp only [dstep, hop] at hs
        split at hs
        · rename_i x st
          rw [dsetK_eq] at hs
          cases hs
          exact lv_istore hx hb hd hls ha rfl (fun ls' hl' => ih _ _ _ _ hn H locs ls' (by rw [dset_len]; exact hl1) (hl2.set (by omega) rfl) (fun v hv => hst v (List.mem_cons_of_mem _ hv)) (dLoc.put hf (by omega) hl') hS hS0)
        · cases hs
      · cases he
        have ha := dchk2_at hT2 hop (by decide)
        simp only [dstep, hop] at hs
        split at hs
        · rename_i κ st
          rw [dsetK_eq] at hs
          cases hs
          have hk := fun (ls' : Array Slot) (hl' : lv_has ls' nL _) => ih _ _ _ _ hn H locs ls' (by rw [dset_len]; exact hl1) (hl2.set (by omega) (hst _ List.mem_cons_self)) (fun v hv => hst v (List.mem_cons_of_mem _ hv)) (dLoc.put hf (by omega) hl') hS hS0
          rw [List.map_cons]
          rcases dval_ref (ad := ad) hf κ with z | ⟨a, z⟩
          · rw [z] at hk ⊢
            exact lv_astore_nN hx hb hd rfl hls ha rfl hk
          · rw [z] at hk ⊢
            exact lv_astore_n hx hb hd rfl hls ha rfl hk
        · cases hs
      · cases he
        have ha := dchk2_at hT2 hop (by decide)
        simp only [dstep, hop] at hs
        split at hs
        · rename_i κ st
          rw [dsetK_eq] at hs
          cases hs
          have hk := fun (ls' : Array Slot) (hl' : lv_has ls' nL _) => ih _ _ _ _ hn H locs ls' (by rw [dset_len]; exact hl1) (hl2.set (by omega) (hst _ List.mem_cons_self)) (fun v hv => hst v (List.mem_cons_of_mem _ hv)) (dLoc.put hf (by omega) hl') hS hS0
          rw [List.map_cons]
          rcases dval_ref (ad := ad) hf κ with z | ⟨a, z⟩
          · rw [z] at hk ⊢
            exact lv_astoreN hx hb hd hls ha rfl hk
          · rw [z] at hk ⊢
            exact lv_astore hx hb hd hls ha rfl hk
        · cases hs
      · split at he
        · rename_i x ci k hfl
          cases he
          simp only [dstep, hop] at hs
          split at hs
          · rename_i κ st
            split at hs
            · rename_i w hw
              cases hs
              have hκV := hst _ List.mem_cons_self
              have hst' : ∀ v ∈ st, okV ad v = true := fun v hv => hst v (List.mem_cons_of_mem _ hv)
              have hwV : okV ad w = true := by
                unfold dgetf at hw
                cases hbq : Nat.beq (dcls κ.1) ci with
                | false => rw [hbq] at hw; cases hw
                | true =>
                  rw [hbq] at hw
                  dsimp only [cond] at hw
                  cases hr : dref κ k with
                  | none => rw [hr] at hw; cases hw; rfl
                  | some z => rw [hr] at hw; cases hw; exact dref_okV hκV hr
              have kk := ih _ _ _ _ hn H locs ls hl1 hl2 (dok_cons hwV hst') hls hS hS0
              have hcc : dcls κ.1 = ci := by
                unfold dgetf at hw
                cases hbq : Nat.beq (dcls κ.1) ci with
                | false => rw [hbq] at hw; cases hw
                | true => exact Nat.eq_of_beq_eq_true hbq
              obtain ⟨h7, hkn, hlk⟩ := dfld_ok hfl
              have hκ : okK ad κ = true := by
                obtain ⟨kd, i0, j0⟩ := κ
                simp only [okV, Bool.or_eq_true] at hκV
                rcases hκV with z | z
                · exact z
                · exfalso
                  simp only [Bool.and_eq_true, Bool.or_eq_true, decide_eq_true_eq] at z
                  have : dcls kd = 99 := by
                    rcases z.2 with z | z <;> rw [z.1] <;> rfl
                  dsimp only at hcc
                  omega
              rw [List.map_cons, dval_K hκ]
              exact do_get hx hb hts hG hown hE hS hκ hcc h7 hkn hlk hw hd kk
            · cases hs
          · cases hs
        · cases he
      · split at he
        · rename_i x ci k hfl
          have key : ∀ (y : Int32) (κ : DKey) (st2 : List DV), st = .inl y :: .inr κ :: st2 → dputf ci k κ = true → (dfz ci k = true → y = 0 ∨ y = 1) → dRunK T (dEx d) K n (pc + 3, L, st2, up1 h κ k y) → W p l e R s m args below meth c H locs cells slots Q (F0 m pc ls (st.map (dval ad fm))) := by
            rintro y κ st2 rfl hpf hz hn2
            have hst' : ∀ v ∈ st2, okV ad v = true := fun v hv => hst v (List.mem_cons_of_mem _ (List.mem_cons_of_mem _ hv))
            have hκV := hst _ (List.mem_cons_of_mem _ List.mem_cons_self)
            have h21 : κ.1 < 21 ∧ dcls κ.1 = ci := by
              simp only [dputf, Bool.and_eq_true] at hpf
              exact ⟨Nat.le_of_ble_eq_true hpf.1.2, Nat.eq_of_beq_eq_true hpf.1.1⟩
            have hκ : okK ad κ = true := by
              obtain ⟨kd, i0, j0⟩ := κ
              simp only [okV, Bool.or_eq_true] at hκV
              rcases hκV with z | z
              · exact z
              · exfalso
                simp only [Bool.and_eq_true, Bool.or_eq_true, decide_eq_true_eq] at z
                have := h21.1
                dsimp only at this
                omega
            rw [List.map_cons, List.map_cons, dval_K hκ]
            obtain ⟨h7, hkn, hlk⟩ := dfld_ok hfl
            exact do_put hx hb hts hG hown hE hA hi hS hS0 hκ hpf h7 hkn hlk hz hd (fun H1 locs1 hS1 hS2 => ih _ _ _ _ hn2 H1 locs1 ls hl1 hl2 hst' hls hS1 hS2)
          cases hz : dfz ci k with
          | true =>
            rw [hz] at he
            cases he
            simp only [dstep, hop] at hs
            split at hs
            · rename_i y κ st2
              cases hpf : dputf ci k κ with
              | false => rw [hpf] at hs; cases hs
              | true =>
                rw [hpf] at hs
                cases hs
                exact key y κ st2 rfl hpf (fun _ => hP) hn
            · cases hs
          | false =>
            rw [hz] at he
            cases he
            simp only [dstep, hop] at hs
            split at hs
            · rename_i y κ st2
              cases hpf : dputf ci k κ with
              | false => rw [hpf] at hs; cases hs
              | true =>
                rw [hpf] at hs
                cases hs
                exact key y κ st2 rfl hpf (fun z => by rw [hz] at z; cases z) hn
            · cases hs
        · cases he
      · rename_i x
        unfold dgst at he
        split at he <;> cases he
        · rw [dstep, hop] at hs
          cases hs
          exact va_gets hx hb (hE.2.2.1 1 (by decide)).1 hS0 hown (hts _ (hG _ (dWd_of (w := .fieldLink "DiskDrawer" 155 "DiskDrawer" "LOWEST" "[I") (i := 484) (by decide +kernel) rfl)).1) (fun _ z => z) hd (ih _ _ _ _ hn H locs ls hl1 hl2 (dok_cons rfl hst) hls hS hS0)
        · rw [dstep, hop] at hs
          cases hs
          exact va_gets hx hb (hE.2.2.1 2 (by decide)).1 hS0 hown (hts _ (hG _ (dWd_of (w := .fieldLink "DiskDrawer" 158 "DiskDrawer" "HIGHEST" "[I") (i := 485) (by decide +kernel) rfl)).1) (fun _ z => z) hd (ih _ _ _ _ hn H locs ls hl1 hl2 (dok_cons rfl hst) hls hS hS0)
        · rw [dstep, hop] at hs
          cases hs
          exact va_getsN hx hb (hE.2.2.1 1 (by decide)).1 hS0 hown (va_Nw.use rfl (hE.2.1 (.fieldLinkNest "DiskDrawer$State" 81 "DiskDrawer" "LOWEST" "[I" "DiskDrawer") (List.mem_filter.mpr ⟨List.mem_of_getElem? (i := 364) (by decide +kernel), rfl⟩))) (fun _ z => z) hd (ih _ _ _ _ hn H locs ls hl1 hl2 (dok_cons rfl hst) hls hS hS0)
        · rw [dstep, hop] at hs
          cases hs
          exact va_getsN hx hb (hE.2.2.1 2 (by decide)).1 hS0 hown (va_Nw.use rfl (hE.2.1 (.fieldLinkNest "DiskDrawer$State" 84 "DiskDrawer" "HIGHEST" "[I" "DiskDrawer") (List.mem_filter.mpr ⟨List.mem_of_getElem? (i := 366) (by decide +kernel), rfl⟩))) (fun _ z => z) hd (ih _ _ _ _ hn H locs ls hl1 hl2 (dok_cons rfl hst) hls hS hS0)
      · cases he
        simp only [dstep, hop] at hs
        split at hs
        · rename_i i κ st
          have hκV := hst _ (List.mem_cons_of_mem _ List.mem_cons_self)
          have hst' : ∀ v ∈ st, okV ad v = true := fun v hv => hst v (List.mem_cons_of_mem _ (List.mem_cons_of_mem _ hv))
          rw [List.map_cons, List.map_cons]
          split at hs
          · rename_i nn hda
            cases hs
            have hκ : okK ad κ = true := by
              obtain ⟨kd, i0, j0⟩ := κ
              simp only [okV, Bool.or_eq_true] at hκV
              rcases hκV with z | z
              · exact z
              · exfalso
                simp only [Bool.and_eq_true, Bool.or_eq_true, decide_eq_true_eq] at z
                rcases z.2 with z | z <;> rw [z.1] at hda <;> cases hda
            rw [dval_K hκ]
            exact do_iald hx hb hE hS hκ hda hP hd (ih _ _ _ _ hn H locs ls hl1 hl2 (dok_cons rfl hst') hls hS hS0)
          · rename_i nn hda
            cases hs
            obtain ⟨kd, i0, j0⟩ := κ
            unfold darr at hda
            split at hda <;> cases hda
            rename_i w j0 z
            cases z
            simp [okV, okK] at hκV
            obtain ⟨rfl, hw⟩ := hκV
            rw [dval_ok (show (32 : Nat) ≠ 33 by decide)]
            exact va_ti hx hb (hE.2.2.1 _ hw).2 hS0 hP rfl hd (ih _ _ _ _ hn H locs ls hl1 hl2 (dok_cons rfl hst') hls hS hS0)
          · rename_i nn hda
            cases hs
            obtain ⟨kd, i0, j0⟩ := κ
            unfold darr at hda
            split at hda <;> cases hda
            rename_i w j0 z
            cases z
            simp [okV, okK] at hκV
            obtain ⟨rfl, rfl⟩ := hκV
            rw [dval_ok (by decide)]
            have kk := ih _ _ _ _ hn H locs ls hl1 hl2 (dok_cons rfl hst') hls hS hS0
            have hP' : vp_in i SL := by rw [← hS.2.2.2.2]; exact hP
            rw [List.map_cons] at kk
            rw [hS.2.2.2.1] at kk
            exact va_sld hx hb hE.2.2.2.1 hE.2.2.2.2.1 hE.2.2.2.2.2 hS0 hP' hd kk
          · cases hs
        · cases hs
      · cases he
        simp only [dstep, hop] at hs
        split at hs
        · rename_i x i κ st
          have hκV := hst _ (List.mem_cons_of_mem _ (List.mem_cons_of_mem _ List.mem_cons_self))
          have hst' : ∀ v ∈ st, okV ad v = true := fun v hv => hst v (List.mem_cons_of_mem _ (List.mem_cons_of_mem _ (List.mem_cons_of_mem _ hv)))
          rw [List.map_cons, List.map_cons, List.map_cons]
          split at hs
          · rename_i nn hda
            cases hs
            have hκ : okK ad κ = true := by
              obtain ⟨kd, i0, j0⟩ := κ
              simp only [okV, Bool.or_eq_true] at hκV
              rcases hκV with z | z
              · exact z
              · exfalso
                simp only [Bool.and_eq_true, Bool.or_eq_true, decide_eq_true_eq] at z
                rcases z.2 with z | z <;> rw [z.1] at hda <;> cases hda
            rw [dval_K hκ]
            exact do_iast hx hb hE hA hi hS hS0 hκ hda hP hd (fun H1 locs1 hS1 hS2 => ih _ _ _ _ hn H1 locs1 ls hl1 hl2 hst' hls hS1 hS2)
          · cases hs
        · cases hs
      · cases he
        simp only [dstep, hop] at hs
        split at hs
        · rename_i i κ st
          have hκV := hst _ (List.mem_cons_of_mem _ List.mem_cons_self)
          have hst' : ∀ v ∈ st, okV ad v = true := fun v hv => hst v (List.mem_cons_of_mem _ (List.mem_cons_of_mem _ hv))
          rw [List.map_cons, List.map_cons]
          split at hs
          · rename_i tt nn hda
            split at hs
            · rename_i w hw
              cases hs
              have hκ : okK ad κ = true := by
                obtain ⟨kd, i0, j0⟩ := κ
                simp only [okV, Bool.or_eq_true] at hκV
                rcases hκV with z | z
                · exact z
                · exfalso
                  simp only [Bool.and_eq_true, Bool.or_eq_true, decide_eq_true_eq] at z
                  rcases z.2 with z | z <;> rw [z.1] at hw <;> cases hw
              rw [dval_K hκ]
              refine do_aald hx hb hE hS hκ hda hP hw hd (fun hok => ?_)
              have hwV : okV ad (.inr w) = true := by
                obtain ⟨a1, a2, a3⟩ := w
                simp [okV, hok]
              have kk := ih _ _ _ _ hn H locs ls hl1 hl2 (dok_cons hwV hst') hls hS hS0
              rw [List.map_cons, dval_K hok] at kk
              exact kk
            · cases hs
          · cases hs
        · cases hs
      · cases he
        simp only [dstep, hop] at hs
        split at hs
        · rename_i w i κ st
          have hκV := hst _ (List.mem_cons_of_mem _ (List.mem_cons_of_mem _ List.mem_cons_self))
          have hwV := hst _ List.mem_cons_self
          have hst' : ∀ v ∈ st, okV ad v = true := fun v hv => hst v (List.mem_cons_of_mem _ (List.mem_cons_of_mem _ (List.mem_cons_of_mem _ hv)))
          rw [List.map_cons, List.map_cons, List.map_cons]
          split at hs
          · rename_i i0 j0 i1 k1
            cases hs
            obtain ⟨hP, rfl⟩ := hP
            have hκ : okK ad (3, i0, j0) = true := by simpa [okV, okK] using hκV
            have hwk : okK ad (5, i0, k1) = true := by simpa [okV, okK] using hwV
            rw [dval_K hκ, dval_K hwk]
            have hk30 : k1 < 30 := by
              simp only [okK, Bool.and_eq_true, decide_eq_true_eq] at hwk
              exact hwk.2
            exact do_aast (t := 2) (ci := 2) (n := 30) hx hb hE hA hi hS hS0 hκ rfl (by decide) rfl (by decide) rfl hwk hP rfl (Or.inl ⟨rfl, hk30⟩) hd (fun H1 locs1 hS1 hS2 => ih _ _ _ _ hn H1 locs1 ls hl1 hl2 hst' hls hS1 hS2)
          · rename_i i0 j0 r0 j1
            cases hs
            have hκ : okK ad (8, i0, j0) = true := by simpa [okV, okK] using hκV
            have hwk : okK ad (0, r0, j1) = true := by simpa [okV, okK] using hwV
            rw [dval_K hκ, dval_K hwk]
            have hk8 : r0 < 8 ∧ j1 = 0 := by
              simp only [okK, Bool.and_eq_true, decide_eq_true_eq] at hwk
              exact hwk
            obtain ⟨hk8, rfl⟩ := hk8
            exact do_aast (t := 3) (ci := 0) (n := 5) hx hb hE hA hi hS hS0 hκ rfl (by decide) rfl (by decide) rfl hwk hP rfl (Or.inr ⟨rfl, hk8⟩) hd (fun H1 locs1 hS1 hS2 => ih _ _ _ _ hn H1 locs1 ls hl1 hl2 hst' hls hS1 hS2)
          · cases hs
        · cases hs
      · cases he
        simp only [dstep, hop] at hs
        split at hs
        · rename_i κ st
          have hκV := hst _ List.mem_cons_self
          have hst' : ∀ v ∈ st, okV ad v = true := fun v hv => hst v (List.mem_cons_of_mem _ hv)
          rw [List.map_cons]
          split at hs
          · rename_i nn hda
            cases hs
            obtain ⟨kd, i0, j0⟩ := κ
            unfold darr at hda
            split at hda <;> cases hda
            rename_i w j0 z
            cases z
            simp [okV, okK] at hκV
            obtain ⟨rfl, rfl⟩ := hκV
            rw [dval_ok (by decide)]
            have kk := ih _ _ _ _ hn H locs ls hl1 hl2 (dok_cons rfl hst') hls hS hS0
            rw [List.map_cons] at kk
            rw [hS.2.2.2.2] at kk
            exact va_slen hx hb hE.2.2.2.1 hE.2.2.2.2.1 hE.2.2.2.2.2 hS0 hd kk
          · cases hs
        · cases hs
      · cases he
        simp only [dstep, hop] at hs
        split at hs
        · rename_i y x st
          cases hs
          exact lv_iadd hx hb hd (ih _ _ _ _ hn H locs ls hl1 hl2 (dok_cons rfl (fun v hv => hst v (List.mem_cons_of_mem _ (List.mem_cons_of_mem _ hv)))) hls hS hS0)
        · cases hs
      · cases he
        simp only [dstep, hop] at hs
        split at hs
        · rename_i y x st
          cases hs
          exact lv_isub hx hb hd (ih _ _ _ _ hn H locs ls hl1 hl2 (dok_cons rfl (fun v hv => hst v (List.mem_cons_of_mem _ (List.mem_cons_of_mem _ hv)))) hls hS hS0)
        · cases hs
      · cases he
        simp only [dstep, hop] at hs
        split at hs
        · rename_i y x st
          cases hs
          exact lv_imul hx hb hd (ih _ _ _ _ hn H locs ls hl1 hl2 (dok_cons rfl (fun v hv => hst v (List.mem_cons_of_mem _ (List.mem_cons_of_mem _ hv)))) hls hS hS0)
        · cases hs
      · cases he
        simp only [dstep, hop] at hs
        split at hs
        · rename_i y x st
          cases hs
          exact lv_iand hx hb hd (ih _ _ _ _ hn H locs ls hl1 hl2 (dok_cons rfl (fun v hv => hst v (List.mem_cons_of_mem _ (List.mem_cons_of_mem _ hv)))) hls hS hS0)
        · cases hs
      · cases he
        simp only [dstep, hop] at hs
        split at hs
        · rename_i y x st
          cases hs
          exact lv_ior hx hb hd (ih _ _ _ _ hn H locs ls hl1 hl2 (dok_cons rfl (fun v hv => hst v (List.mem_cons_of_mem _ (List.mem_cons_of_mem _ hv)))) hls hS hS0)
        · cases hs
      · cases he
        simp only [dstep, hop] at hs
        split at hs
        · rename_i y x st
          cases hs
          exact lv_ishl hx hb hd (ih _ _ _ _ hn H locs ls hl1 hl2 (dok_cons rfl (fun v hv => hst v (List.mem_cons_of_mem _ (List.mem_cons_of_mem _ hv)))) hls hS hS0)
        · cases hs
      · cases he
        simp only [dstep, hop] at hs
        split at hs
        · rename_i y x st
          cases hs
          exact lv_ishr hx hb hd (ih _ _ _ _ hn H locs ls hl1 hl2 (dok_cons rfl (fun v hv => hst v (List.mem_cons_of_mem _ (List.mem_cons_of_mem _ hv)))) hls hS hS0)
        · cases hs
      · cases he
        simp only [dstep, hop] at hs
        split at hs
        · rename_i y x st
          cases hs
          exact lv_irem hx hb hd hP (ih _ _ _ _ hn H locs ls hl1 hl2 (dok_cons rfl (fun v hv => hst v (List.mem_cons_of_mem _ (List.mem_cons_of_mem _ hv)))) hls hS hS0)
        · cases hs
      · cases he
        have ha := dchk2_at hT2 hop (by decide)
        simp only [dstep, hop] at hs
        split at hs
        · rename_i x hg
          rw [dsetK_eq] at hs
          cases hs
          obtain ⟨k0, hk0⟩ := List.getElem?_of_mem (dlp_mem (ad := ad) (fm := fm) L 0 _ _ hg)
          rw [Nat.zero_add] at hk0
          exact lv_iinc hx hb hd hls hk0 rfl ha rfl (fun ls' hl' => ih _ _ _ _ hn H locs ls' (by rw [dset_len]; exact hl1) (hl2.set (by omega) rfl) hst (dLoc.put (v := .inl _) hf (by omega) hl') hS hS0)
        · cases hs
      · split at he
        · rename_i cnd off _ t ht
          cases he
          simp only [dstep, hop] at hs
          split at hs
          · rename_i x st
            have hst' : ∀ v ∈ st, okV ad v = true := fun v hv => hst v (List.mem_cons_of_mem _ hv)
            cases cnd <;> (simp only [dcnd] at hs; cases hs)
            · exact lv_if_eq hx hb hd (dtgt_ok ht) (fun z => by rw [if_pos z] at hn; exact ih _ _ _ _ hn H locs ls hl1 hl2 hst' hls hS hS0) (fun z => by rw [if_neg z] at hn; exact ih _ _ _ _ hn H locs ls hl1 hl2 hst' hls hS hS0)
            · exact lv_if_ne hx hb hd (dtgt_ok ht) (fun z => by rw [if_neg z] at hn; exact ih _ _ _ _ hn H locs ls hl1 hl2 hst' hls hS hS0) (fun z => by rw [if_pos z] at hn; exact ih _ _ _ _ hn H locs ls hl1 hl2 hst' hls hS hS0)
            · exact lv_if_lt hx hb hd (dtgt_ok ht) (fun z => by rw [if_pos z] at hn; exact ih _ _ _ _ hn H locs ls hl1 hl2 hst' hls hS hS0) (fun z => by rw [if_neg z] at hn; exact ih _ _ _ _ hn H locs ls hl1 hl2 hst' hls hS hS0)
            · exact lv_if_ge hx hb hd (dtgt_ok ht) (fun z => by rw [if_pos z] at hn; exact ih _ _ _ _ hn H locs ls hl1 hl2 hst' hls hS hS0) (fun z => by rw [if_neg z] at hn; exact ih _ _ _ _ hn H locs ls hl1 hl2 hst' hls hS hS0)
            · exact lv_if_gt hx hb hd (dtgt_ok ht) (fun z => by rw [if_pos z] at hn; exact ih _ _ _ _ hn H locs ls hl1 hl2 hst' hls hS hS0) (fun z => by rw [if_neg z] at hn; exact ih _ _ _ _ hn H locs ls hl1 hl2 hst' hls hS hS0)
            · exact lv_if_le hx hb hd (dtgt_ok ht) (fun z => by rw [if_pos z] at hn; exact ih _ _ _ _ hn H locs ls hl1 hl2 hst' hls hS hS0) (fun z => by rw [if_neg z] at hn; exact ih _ _ _ _ hn H locs ls hl1 hl2 hst' hls hS hS0)
          · cases hs
        · cases he
      · split at he
        · rename_i cnd off _ t ht
          cases he
          simp only [dstep, hop] at hs
          split at hs
          · rename_i y x st
            have hst' : ∀ v ∈ st, okV ad v = true := fun v hv => hst v (List.mem_cons_of_mem _ (List.mem_cons_of_mem _ hv))
            cases cnd <;> (simp only [dcnd] at hs; cases hs)
            · exact lv_icmp_eq hx hb hd (dtgt_ok ht) (fun z => by rw [if_pos z] at hn; exact ih _ _ _ _ hn H locs ls hl1 hl2 hst' hls hS hS0) (fun z => by rw [if_neg z] at hn; exact ih _ _ _ _ hn H locs ls hl1 hl2 hst' hls hS hS0)
            · exact lv_icmp_ne hx hb hd (dtgt_ok ht) (fun z => by rw [if_neg z] at hn; exact ih _ _ _ _ hn H locs ls hl1 hl2 hst' hls hS hS0) (fun z => by rw [if_pos z] at hn; exact ih _ _ _ _ hn H locs ls hl1 hl2 hst' hls hS hS0)
            · exact lv_icmp_lt hx hb hd (dtgt_ok ht) (fun z => by rw [if_pos z] at hn; exact ih _ _ _ _ hn H locs ls hl1 hl2 hst' hls hS hS0) (fun z => by rw [if_neg z] at hn; exact ih _ _ _ _ hn H locs ls hl1 hl2 hst' hls hS hS0)
            · exact lv_icmp_ge hx hb hd (dtgt_ok ht) (fun z => by rw [if_pos z] at hn; exact ih _ _ _ _ hn H locs ls hl1 hl2 hst' hls hS hS0) (fun z => by rw [if_neg z] at hn; exact ih _ _ _ _ hn H locs ls hl1 hl2 hst' hls hS hS0)
            · exact lv_icmp_gt hx hb hd (dtgt_ok ht) (fun z => by rw [if_pos z] at hn; exact ih _ _ _ _ hn H locs ls hl1 hl2 hst' hls hS hS0) (fun z => by rw [if_neg z] at hn; exact ih _ _ _ _ hn H locs ls hl1 hl2 hst' hls hS hS0)
            · exact lv_icmp_le hx hb hd (dtgt_ok ht) (fun z => by rw [if_pos z] at hn; exact ih _ _ _ _ hn H locs ls hl1 hl2 hst' hls hS hS0) (fun z => by rw [if_neg z] at hn; exact ih _ _ _ _ hn H locs ls hl1 hl2 hst' hls hS hS0)
          · cases hs
        · cases he
      · split at he
        · rename_i off t ht
          cases he
          rw [dstep, hop] at hs
          cases hs
          exact lv_goto hx hb hd (dtgt_ok ht) (ih _ _ _ _ hn H locs ls hl1 hl2 hst hls hS hS0)
        · cases he
      · rename_i dd lo hi offs
        split at he
        · rename_i t ts ht hts2
          cases hz : (decide (0 ≤ lo) && decide (hi < 1000) && decide ((ts.length : Int) = hi - lo + 1) && decide (offs.size = ts.length)) with
          | false => rw [hz] at he; cases he
          | true =>
            rw [hz] at he
            cases he
            simp only [Bool.and_eq_true, decide_eq_true_eq] at hz
            obtain ⟨⟨⟨z1, z2⟩, z3⟩, z4⟩ := hz
            simp only [dstep, hop] at hs
            split at hs
            · rename_i x st
              cases hs
              have hst' : ∀ v ∈ st, okV ad v = true := fun v hv => hst v (List.mem_cons_of_mem _ hv)
              have kk := ih _ _ _ _ hn H locs ls hl1 hl2 hst' hls hS hS0
              rw [dofInt z1] at kk
              have hlo : ((lo.toNat : Nat) : Int) = lo := Int.toNat_of_nonneg z1
              by_cases hin : lo ≤ x.toInt ∧ x.toInt ≤ hi
              · have h1 := dtsw_in (d := t) (x := x) ts lo.toNat (by omega) (by omega) (by omega)
                obtain ⟨off, g1, g2⟩ := dtgts_at hts2 _ _ h1
                rw [hlo, Array.getElem?_toList] at g1
                exact lv_tableIn hx hb hd (by omega) (by omega) g1 g2 kk
              · rw [dtsw_out ts lo.toNat (by omega) (by omega)] at kk
                exact lv_tableOut hx hb hd (by omega) (dtgt_ok ht) kk
            · cases hs
        · cases he
      · cases he
        simp only [dstep, hop] at hs
        split at hs
        · rename_i w st
          cases hs
          exact lv_dup hx hb hd (dval_cat hf w) (ih _ _ _ _ hn H locs ls hl1 hl2 (dok_cons (hst _ List.mem_cons_self) hst) hls hS hS0)
        · cases hs
      · cases he
        simp only [dstep, hop] at hs
        split at hs
        · rename_i w u st
          cases hs
          exact lv_dup2_11 hx hb hd (dval_cat hf w) (dval_cat hf u) (ih _ _ _ _ hn H locs ls hl1 hl2 (dok_cons (hst _ List.mem_cons_self) (dok_cons (hst _ (List.mem_cons_of_mem _ List.mem_cons_self)) hst)) hls hS hS0)
        · cases hs
      · split at he
        · split at he
          · cases he
            rw [dstep, hop] at hs
            cases hs
          · cases he
        · cases he
      · rename_i x
        cases hmx : (Nat.beq o 0 && Nat.beq x 183) with
        | true =>
          rw [hmx] at he
          cases he
          simp only [dstep, hop] at hs
          split at hs
          · rename_i y x0 st
            cases hlen : Nat.ble st.length 8 with
            | false => rw [hlen] at hs; cases hs
            | true =>
              rw [hlen] at hs
              cases hs
              simp only [Bool.and_eq_true] at hmx
              have ho : o = 0 := Nat.eq_of_beq_eq_true hmx.1
              have hx183 : x = 183 := Nat.eq_of_beq_eq_true hmx.2
              subst ho
              subst hx183
              have hr8 := dcat_rest (ad := ad) hf st (Nat.le_of_ble_eq_true hlen)
              exact va_mmax hx hb (hml.trans hls.1.symm) hown (hts _ (hG _ (dWd_of (w := .methodLink "DiskDrawer$State" 183 ⟨"java/lang/Math", "max", "(II)I"⟩) (i := 430) (by decide +kernel) rfl)).1) (hts _ (hG _ (dWd_of (w := .static ⟨"java/lang/Math", "max", "(II)I"⟩) (i := 431) (by decide +kernel) rfl)).1) (hts _ (hG _ (dWd_of (w := .initialized "java/lang/Math") (i := 23) (by decide +kernel) rfl)).1) (hts _ (hG _ (dWd_of (w := .code ⟨"java/lang/Math", "max", "(II)I"⟩ prog_9_method_65_code 2 (some .int)) (i := 432) (by decide +kernel) rfl)).1) (by omega) (by omega) hR.2.2.1 hR.2.2.2 hd (ih _ _ _ _ hn H locs ls hl1 hl2 (dok_cons rfl (fun v hv => hst v (List.mem_cons_of_mem _ (List.mem_cons_of_mem _ hv)))) hls hS hS0)
          · cases hs
        | false =>
          rw [hmx] at he
          dsimp only [cond] at he
          split at he
          · cases he
          · cases he
            rw [dstep, hop] at hs
            cases hs
          · cases he
      · split at he <;> cases he <;> (rw [dstep, hop] at hs; cases hs)
      · cases he
        rw [dstep, hop] at hs
        cases hs
      · cases he
    · cases hop : dop T pc with
      | none => rw [dcall, hop] at hc; cases hc
      | some op =>
      obtain ⟨i, len, hd, he⟩ := dchk_at hT hop
      have hnext : ∀ (H1 : Heap) (locs1 : List Loc), (∀ z, v = some z → okV ad z = true) → (∀ z ∈ st', okV ad z = true) → L' = L → dSim D ad ca xs SL h1 H1 → va_S A s.heap H1 locs1 → W p l e R s m args below meth c H1 locs1 cells slots Q (F0 m nx ls ((v.map (dval ad fm)).toList ++ st'.map (dval ad fm))) := by
        rintro H1 locs1 hv hst' rfl hS1 hS2
        have := ih _ _ _ _ hn H1 locs1 ls hl1 hl2 (by
          intro z hz
          rcases List.mem_append.mp hz with hz | hz
          · cases v with
            | none => cases hz
            | some w => simp at hz; subst hz; exact hv _ rfl
          · exact hst' z hz) hls hS1 hS2
        cases v <;> exact this
      simp only [dcall, hop] at hc
      split at hc
      · rename_i mid0 n0 nx0 v0 ci hopq
        split at hc
        · rename_i κ as0 rest hp
          cases hz : (Nat.beq (dcls κ.1) ci && Nat.ble rest.length 8) with
          | false => rw [hz] at hc; cases hc
          | true =>
            rw [hz] at hc
            cases hc
            cases hopq
            simp only [Bool.and_eq_true] at hz
            obtain ⟨x, hix, hxl, hcl, q, hq, hown'⟩ := denc_34 he
            obtain ⟨rfl, rfl⟩ := hix
            subst hxl
            obtain ⟨pre, g1, g2, -⟩ := dpop_spec _ _ _ _ _ hp
            rw [List.append_nil] at g1
            have hmem : ∀ z, z ∈ (Sum.inr κ :: as0 : List DV) ∨ z ∈ st' → okV ad z = true := by
              intro z hz
              refine hst z ?_
              rw [g2, g1.symm]
              rcases hz with hz | hz
              · exact List.mem_append_left _ (List.mem_reverse.mpr hz)
              · exact List.mem_append_right _ hz
            exact do_callv hx hb hml hown hts hG hE hAm hf hls.1 hS hS0 hR hq (hcal _ _ _ _ q hm hq) hcl hp ((Nat.eq_of_beq_eq_true hz.1).trans hown'.symm) (Nat.le_of_ble_eq_true hz.2) (fun z hz => hmem z (Or.inl hz)) hd (fun H1 locs1 hv hS1 hS2 => hnext H1 locs1 hv (fun z hz => hmem z (Or.inr hz)) rfl hS1 hS2)
        · cases hc
      · rename_i mid0 n0 nx0 v0 l0 hopq
        split at hc
        · rename_i as0 rest hp
          cases hz : Nat.ble rest.length 8 with
          | false => rw [hz] at hc; cases hc
          | true =>
            rw [hz] at hc
            cases hc
            cases hopq
            obtain ⟨x, kd, hix, hxl, hcl, hkd⟩ := denc_35 he
            obtain ⟨rfl, rfl⟩ := hix
            subst hxl
            obtain ⟨q, hq, -⟩ := dcal_ok hcl
            obtain ⟨pre, g1, g2, -⟩ := dpop_spec _ _ _ _ _ hp
            rw [List.append_nil] at g1
            have hmem : ∀ z, z ∈ as ∨ z ∈ st' → okV ad z = true := by
              intro z hz
              refine hst z ?_
              rw [g2, g1.symm]
              rcases hz with hz | hz
              · exact List.mem_append_left _ (List.mem_reverse.mpr hz)
              · exact List.mem_append_right _ hz
            exact do_calls hx hb hml hown hts hG hE hAm hf hls.1 hS hS0 hR hq (hcal _ _ _ _ q hm hq) hcl hkd hp (Nat.le_of_ble_eq_true hz) (fun z hz => hmem z (Or.inl hz)) hd (fun H1 locs1 hv hS1 hS2 => hnext H1 locs1 hv (fun z hz => hmem z (Or.inr hz)) rfl hS1 hS2)
        · cases hc
      · cases hc
    · exact hfin pc L st h H locs ls hKK hl1 hl2 hst hls hS hS0
end DSND
