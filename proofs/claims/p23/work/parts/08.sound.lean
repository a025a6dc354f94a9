/-! the abstract machine is sound: what it comes to, the machine comes to -/
variable {ad : DKey → Nat}
theorem dpop_spec : ∀ (n : Nat) (st acc as rest : List DV), dpop n st acc = some (as, rest) → ∃ pre : List DV, as = pre ++ acc ∧ st = pre.reverse ++ rest ∧ pre.length = n := by
  intro n
  induction n with
  | zero =>
    intro st acc as rest h
    simp only [dpop, Option.some.injEq, Prod.mk.injEq] at h
    exact ⟨[], by simp [h.1], by simp [h.2], rfl⟩
  | succ n ih =>
    intro st acc as rest h
    cases st with
    | nil => simp [dpop] at h
    | cons v st =>
      obtain ⟨pre, h1, h2, h3⟩ := ih st (v :: acc) as rest h
      exact ⟨pre ++ [v], by simp [h1], by simp [h2], by simp [h3]⟩
theorem dchk_at {o : Nat} {rt : Option FieldType} {c : ByteArray} {T : DTbl} (h : dchk o rt c T = true) {pc : Nat} {q : DOp} (hq : dop T pc = some q) : ∃ i len, decode c pc = .ok (i, len) ∧ denc o rt pc i len = some q := by
  have hq' : T.getD pc none = some q := hq
  have hl : pc < T.length := by
    rcases Nat.lt_or_ge pc T.length with h | h
    · exact h
    · rw [List.getD_eq_getElem?_getD, List.getElem?_eq_none h] at hq'
      cases hq'
  have h1 := List.all_eq_true.mp h pc (List.mem_range.mpr hl)
  rw [hq'] at h1
  dsimp only at h1
  cases hd : decode c pc with
  | error e => rw [hd] at h1; cases h1
  | ok z =>
    obtain ⟨i, len⟩ := z
    rw [hd] at h1
    dsimp only at h1
    cases he : denc o rt pc i len with
    | none => rw [he] at h1; cases h1
    | some q' =>
      rw [he] at h1
      exact ⟨i, len, rfl, by rw [he, deq_eq h1]⟩
theorem dchk2_at {T : DTbl} {n pc : Nat} (h : dchk2 T n = true) {k a b nx : Nat} {v : Int32} {ts : List Nat} (hq : dop T pc = some (k, a, b, nx, v, ts)) (hk : k = 3 ∨ k = 4 ∨ k = 25) : a < n := by
  have hq' : T.getD pc none = some (k, a, b, nx, v, ts) := hq
  have hm : some (k, a, b, nx, v, ts) ∈ T := by
    rw [List.getD_eq_getElem?_getD] at hq'
    cases hz : T[pc]? with
    | none => rw [hz] at hq'; cases hq'
    | some y =>
      rw [hz] at hq'
      have : y = some (k, a, b, nx, v, ts) := hq'
      rw [← this]
      exact List.mem_of_getElem? hz
  have h1 := List.all_eq_true.mp h _ hm
  rcases hk with rfl | rfl | rfl <;> exact of_decide_eq_true h1
theorem dfld_ok {o x ci k : Nat} (h : dfld o x = some (ci, k)) : ci < 6 ∧ k < dnf ci ∧ Cond.fieldLink (don o) x (dTX ci k).1 (dTX ci k).2.1 (dTX ci k).2.2.1 ∈ dWd := by
  unfold dfld at h
  cases hf : dfl.find? (fun e => Nat.beq e.1 o && Nat.beq e.2.1 x) with
  | none => rw [hf] at h; cases h
  | some e =>
    rw [hf] at h
    have h1 := List.find?_some hf
    have h2 := List.mem_of_find?_eq_some hf
    have h3 := List.all_eq_true.mp dfl_ok e h2
    obtain ⟨e1, e2, e3, e4, e5⟩ := e
    simp only [Option.map_some, Option.some.injEq, Prod.mk.injEq] at h
    obtain ⟨rfl, rfl⟩ := h
    simp only [Bool.and_eq_true] at h1
    have ho : e1 = o := Nat.eq_of_beq_eq_true h1.1
    have hx : e2 = x := Nat.eq_of_beq_eq_true h1.2
    subst ho
    subst hx
    simp only [dflOK, Bool.and_eq_true, decide_eq_true_eq] at h3
    obtain ⟨⟨h3, h4⟩, h5⟩ := h3
    exact ⟨h5, h4, dWd_of h3 rfl⟩
theorem dcal_ok {o x mid n kd : Nat} (h : dcal o x = some (mid, n, kd)) : ∃ q : DM, dms[mid]? = some q ∧ (q.1.cls ≠ "java/lang/invoke/MethodHandle" ∧ q.1.cls ≠ "java/lang/invoke/VarHandle" ∧ (parseMethodDescriptor q.1.desc).map (fun d => d.parameters.length) = some n) ∧ Cond.initialized q.1.cls ∈ dWd ∧ Cond.code q.1 q.2.1 q.2.2.1 q.2.2.2.1 ∈ dWd ∧
    (kd = 0 → Cond.methodLink (don o) x q.1 ∈ dWd ∧ Cond.instanceMethod q.1 ∈ dWd ∧ Cond.selects q.1.cls q.1 q.1 ∈ dWd) ∧ (kd = 1 → Cond.methodLink (don o) x q.1 ∈ dWd ∧ Cond.static q.1 ∈ dWd) ∧ (kd ≠ 0 → kd ≠ 1 → Cond.methodLinkNest (don o) x q.1 "DiskDrawer" ∈ dNest ∧ Cond.static q.1 ∈ dWd) := by
  unfold dcal at h
  cases hf : dcl.find? (fun e => Nat.beq e.1 o && Nat.beq e.2.1 x) with
  | none => rw [hf] at h; cases h
  | some e =>
    rw [hf] at h
    have h1 := List.find?_some hf
    have h2 := List.mem_of_find?_eq_some hf
    have h3 := dcl_ok e h2
    obtain ⟨e1, e2, e3, e4, e5, p0, p1, p2, p3, p4⟩ := e
    simp only [Option.map_some, Option.some.injEq, Prod.mk.injEq] at h
    obtain ⟨rfl, rfl, rfl⟩ := h
    simp only [Bool.and_eq_true] at h1
    have ho : e1 = o := Nat.eq_of_beq_eq_true h1.1
    have hx : e2 = x := Nat.eq_of_beq_eq_true h1.2
    subst ho
    subst hx
    unfold dclOK at h3
    dsimp only at h3
    cases hq : dms[e3]? with
    | none => rw [hq] at h3; cases h3
    | some q =>
      rw [hq] at h3
      dsimp only at h3
      rw [Bool.and_eq_true, Bool.and_eq_true, Bool.and_eq_true] at h3
      obtain ⟨⟨⟨g1, g2⟩, g3⟩, g4⟩ := h3
      refine ⟨q, rfl, of_decide_eq_true g1, dWd_of (of_decide_eq_true g2) rfl, dWd_of (of_decide_eq_true g3) rfl, ?_, ?_, ?_⟩
      · rintro rfl
        simp only [Bool.and_eq_true, decide_eq_true_eq] at g4
        exact ⟨dWd_of g4.1.1 rfl, dWd_of g4.1.2 rfl, dWd_of g4.2 rfl⟩
      · rintro rfl
        simp only [Bool.and_eq_true, decide_eq_true_eq] at g4
        exact ⟨dWd_of g4.1 rfl, dWd_of g4.2 rfl⟩
      · intro z0 z1
        split at g4
        · exact absurd rfl z0
        · exact absurd rfl z1
        · rw [Bool.and_eq_true] at g4
          exact ⟨List.mem_filter.mpr ⟨List.mem_of_getElem? (of_decide_eq_true g4.1), rfl⟩, dWd_of (of_decide_eq_true g4.2) rfl⟩
theorem dno99 : dms.all (fun q => decide (q.2.2.2.2.1 ≠ 99)) = true := by decide +kernel
def drm (d : Nat) : Room := { frames := d, cells := 0, slots := 0, locals := 40 * d }
def dPre (D : va_G) (ad : DKey → Nat) (ca : Nat → ClassId) (fm : Value) (xs : Nat → Int32) (SL : Nat) (as : List DV) (h : DH) : Array Value → State → Prop := va_Pc (as.map (dval ad fm)) (fun U => (∀ v ∈ as, okV ad v = true) ∧ dEnv D ad ca fm xs SL (dAm ad) U ∧ dSim D ad ca xs SL h U.heap)
def dPost (D : va_G) (ad : DKey → Nat) (ca : Nat → ClassId) (fm : Value) (xs : Nat → Int32) (SL : Nat) (r : DRes) : Array Value → State → Outcome → State → Prop := fun _ st oc t => oc = .returned (r.1.map (dval ad fm)) ∧ (∀ v, r.1 = some v → okV ad v = true) ∧ dSim D ad ca xs SL r.2 t.heap ∧ va_F (dAm ad) st t
def dMet (l : Launch) (D : va_G) (ad : DKey → Nat) (ca : Nat → ClassId) (fm : Value) (xs : Nat → Int32) (SL : Nat) (d : Nat) (q : DM) (as : List DV) (h : DH) (r : DRes) : Prop := Met l q.1 (Cond.code q.1 q.2.1 q.2.2.1 q.2.2.2.1 :: dWd) (drm d) (dPre D ad ca fm xs SL as h) (dPost D ad ca fm xs SL r) 0 0 (dAm ad)
theorem dPre_blind {D : va_G} {ad : DKey → Nat} {ca : Nat → ClassId} {fm : Value} {xs : Nat → Int32} {SL : Nat} {as : List DV} {h : DH} : FrameBlind (dPre D ad ca fm xs SL as h) := fun _ U _ _ q => ⟨q.1, q.2.1, dEnv.same (u := U) rfl rfl q.2.2.1, q.2.2.2⟩
section DCAL
variable {p : Program} {l : Launch} {e : Env} {R : Room} {s : State} {m : MethodId} {args : Array Value} {below : List Frame} {meth : Method} {c : Code} {H : Heap} {locs : List Loc} {cells slots : Nat} {Q : State → Prop}
variable {cc : ByteArray} {pc : Nat} {ls : Array Slot} {Ts : List Cond} {o x nL d mid n : Nat}
variable {D : va_G} {ad : DKey → Nat} {ca : Nat → ClassId} {fm : Value} {xs : Nat → Int32} {SL : Nat} {A : Nat → Prop} {h : DH} {r : DRes}
theorem dEnv_at (hE : dEnv D ad ca fm xs SL A s) (hAm : ∀ q, dAm ad q → A q) (hS0 : va_S A s.heap H locs) {U : State} (hU : U.heap = H) (hW : s.WarmedH U.vm) : dEnv D ad ca fm xs SL (dAm ad) U :=
  (dEnv.warm hW (by rw [hU]; exact hS0.1) (fun a h1 h2 => by rw [hU]; exact hS0.2.1 a h1 h2) hE).narrow hAm
theorem dcat_rest (hf : dFm fm) (rest : List DV) (hl : rest.length ≤ 8) : ((rest.map (dval ad fm)).map fun v => v.category).sum ≤ 8 := by
  have : ∀ L : List DV, ((L.map (dval ad fm)).map fun v => v.category).sum = L.length := by
    intro L
    induction L with
    | nil => rfl
    | cons v L ih => simp only [List.map_cons, List.sum_cons, List.length_cons, ih, dval_cat hf]; omega
  rw [this]
  exact hl
theorem dGoodTs (hG : GoodIn Ts dWd) {w : Cond} (hw : w ∈ dWd) : GoodIn Ts (w :: dWd) := fun z hz => by
  rcases List.mem_cons.mp hz with rfl | hz
  · exact hG _ hw
  · exact hG _ hz
theorem do_callv (hx : p.tables.exec = Jvm.exec) (hb : c.code = cc) (hml : c.maxLocals = nL) (hown : s.vm.findClass (don o) = some m.cls) (hts : ∀ w ∈ Ts, w.before args s = true) (hG : GoodIn Ts dWd) (hE : dEnv D ad ca fm xs SL A s) (hAm : ∀ q, dAm ad q → A q) (hf : dFm fm) (hls : ls.size = nL) (hS : dSim D ad ca xs SL h H) (hS0 : va_S A s.heap H locs)
    (hR : d + 1 ≤ R.frames ∧ 40 * d + 40 ≤ R.locals ∧ cells ≤ R.cells ∧ slots ≤ R.slots) {q : DM} {κ : DKey} {as rest st : List DV} (hq : dms[mid]? = some q) (hM : dMet l D ad ca fm xs SL d q (.inr κ :: as) h r) (hc : dcal o x = some (mid, n, 0)) (hp : dpop (n + 1) st [] = some (.inr κ :: as, rest)) (hci : dcls κ.1 = q.2.2.2.2.1) (hlen : rest.length ≤ 8) (hokas : ∀ v ∈ (Sum.inr κ :: as : List DV), okV ad v = true) (hdg : decode cc pc = .ok (.invokevirtual x, 3))
    (kk : ∀ (H1 : Heap) (locs1 : List Loc), (∀ v, r.1 = some v → okV ad v = true) → dSim D ad ca xs SL r.2 H1 → va_S A s.heap H1 locs1 → W p l e R s m args below meth c H1 locs1 cells slots Q (F0 m (pc + 3) ls ((r.1.map (dval ad fm)).toList ++ rest.map (dval ad fm)))) : W p l e R s m args below meth c H locs cells slots Q (F0 m pc ls (st.map (dval ad fm))) := by
  obtain ⟨q', hq', hd, hini, hcode, hv, -, -⟩ := dcal_ok hc
  cases hq.symm.trans hq'
  obtain ⟨hlk, hin, hse⟩ := hv rfl
  have hgood := dgs q (List.mem_of_getElem? hq)
  obtain ⟨-, ⟨hmax, -⟩, hcls, -⟩ := hgood
  obtain ⟨pre, h1, h2, h3⟩ := dpop_spec _ _ _ _ _ hp
  rw [List.append_nil] at h1
  subst h1
  have ok : ∀ {w : Cond}, w ∈ dWd → w.before args s = true := fun hw => hts _ (hG _ hw).1
  have hne : dcls κ.1 ≠ 99 := by
    intro z
    rw [z] at hci
    have := List.all_eq_true.mp dno99 q (List.mem_of_getElem? hq)
    rw [← hci] at this
    exact absurd this (by decide)
  have hκ33 : κ.1 ≠ 33 := fun z => hne (by rw [z]; rfl)
  have hok : okK ad κ = true := by
    have := hokas _ List.mem_cons_self
    obtain ⟨kd, w, j⟩ := κ
    simp only [okV, Bool.or_eq_true] at this
    rcases this with h | h
    · exact h
    · exfalso
      have h31 : kd = 32 ∨ kd = 34 := by
        simp only [Bool.and_eq_true, Bool.or_eq_true, decide_eq_true_eq] at h
        omega
      exact hne (by rcases h31 with rfl | rfl <;> rfl)
  have h7 : dcls κ.1 < 6 := by
    unfold dcls at hne ⊢
    split at hne <;> first | decide | exact absurd rfl hne
  have hrecv : ∃ cell : Cell, H[ad κ]? = some cell ∧ cell.vm.isStatics = false ∧ s.vm.findClass q.1.cls = some cell.cls := by
    have hP := do_P hS hok
    rw [dent_obj rfl h7] at hP
    have := va_recv hE.1 hP (dcl_at h7) (q0 := 0) rfl
    rw [hcls, ← hci]
    exact this
  have hvl : dval ad fm (.inr κ) = .ref (ad κ) := dval_ok hκ33
  refine do_ret (QQ := dPost D ad ca fm xs SL r) rfl (va_runV (As := as.map (dval ad fm)) (rest := rest.map (dval ad fm)) (own := don o) (C := q.1.cls) (b := ad κ) (nL := nL) (n := n) (ws := Cond.code q.1 q.2.1 q.2.2.1 q.2.2.2.1 :: dWd) (rm := drm d) (Qc := dPost D ad ca fm xs SL r) ⟨hx, hb, hml, hown, hts⟩ hM ⟨callB_of (ws' := dWd) n hts (dGoodTs hG hcode) rfl rfl rfl (ok hini) (ok hlk) hd ⟨hR.1, ?_⟩, ok hin, ok hse⟩ ⟨dPre_blind, hrecv, fun U hU hW => ⟨?_, hokas, dEnv_at hE hAm hS0 hU hW, by rw [hU]; exact hS⟩⟩ rfl ?_ hls ?_ ?_ hdg ⟨by omega, by omega⟩) hS0 hAm kk
  · show 8 + (q.2.2.1 + 11) + 40 * d ≤ R.locals
    have := hR.2.1
    omega
  · simp [hvl]
  · have : as.length + 1 = n + 1 := by simpa using h3
    simp; omega
  · show st.map (dval ad fm) = _
    rw [h2]
    simp [hvl]
  · show 2 * 0 + _ ≤ 8
    have := dcat_rest (ad := ad) hf rest hlen
    omega
theorem do_calls (hx : p.tables.exec = Jvm.exec) (hb : c.code = cc) (hml : c.maxLocals = nL) (hown : s.vm.findClass (don o) = some m.cls) (hts : ∀ w ∈ Ts, w.before args s = true) (hG : GoodIn Ts dWd) (hE : dEnv D ad ca fm xs SL A s) (hAm : ∀ q, dAm ad q → A q) (hf : dFm fm) (hls : ls.size = nL) (hS : dSim D ad ca xs SL h H) (hS0 : va_S A s.heap H locs)
    (hR : d + 1 ≤ R.frames ∧ 40 * d + 40 ≤ R.locals ∧ cells ≤ R.cells ∧ slots ≤ R.slots) {q : DM} {kd : Nat} {as rest st : List DV} (hq : dms[mid]? = some q) (hM : dMet l D ad ca fm xs SL d q as h r) (hc : dcal o x = some (mid, n, kd)) (hkd : kd ≠ 0) (hp : dpop n st [] = some (as, rest)) (hlen : rest.length ≤ 8) (hokas : ∀ v ∈ as, okV ad v = true) (hdg : decode cc pc = .ok (.invokestatic x, 3))
    (kk : ∀ (H1 : Heap) (locs1 : List Loc), (∀ v, r.1 = some v → okV ad v = true) → dSim D ad ca xs SL r.2 H1 → va_S A s.heap H1 locs1 → W p l e R s m args below meth c H1 locs1 cells slots Q (F0 m (pc + 3) ls ((r.1.map (dval ad fm)).toList ++ rest.map (dval ad fm)))) : W p l e R s m args below meth c H locs cells slots Q (F0 m pc ls (st.map (dval ad fm))) := by
  obtain ⟨q', hq', hd, hini, hcode, -, hs1, hs2⟩ := dcal_ok hc
  cases hq.symm.trans hq'
  obtain ⟨-, ⟨hmax, -⟩, hcls, -⟩ := dgs q (List.mem_of_getElem? hq)
  obtain ⟨pre, h1, h2, h3⟩ := dpop_spec _ _ _ _ _ hp
  rw [List.append_nil] at h1
  subst h1
  have ok : ∀ {w : Cond}, w ∈ dWd → w.before args s = true := fun hw => hts _ (hG _ hw).1
  have hloc : 8 + (q.2.2.1 + 11) + 40 * d ≤ R.locals := by
    have := hR.2.1
    omega
  have hpre : PreS s H (dPre D ad ca fm xs SL as h) (as.map (dval ad fm)) := ⟨dPre_blind, fun U hU hW => ⟨rfl, hokas, dEnv_at hE hAm hS0 hU hW, by rw [hU]; exact hS⟩⟩
  have hst : st.map (dval ad fm) = (as.map (dval ad fm)).reverse ++ rest.map (dval ad fm) := by
    rw [h2]
    simp
  have hroom : 2 * (F0 m pc ls (st.map (dval ad fm))).monitorRoom + ((rest.map (dval ad fm)).map fun v => v.category).sum ≤ 8 := by
    show 2 * 0 + _ ≤ 8
    have := dcat_rest (ad := ad) hf rest hlen
    omega
  by_cases h1 : kd = 1
  · obtain ⟨hlk, hstt⟩ := hs1 h1
    exact do_ret (QQ := dPost D ad ca fm xs SL r) rfl (va_runS (As := as.map (dval ad fm)) (rest := rest.map (dval ad fm)) (own := don o) (nL := nL) (n := n) (ws := Cond.code q.1 q.2.1 q.2.2.1 q.2.2.2.1 :: dWd) (rm := drm d) (Qc := dPost D ad ca fm xs SL r) ⟨hx, hb, hml, hown, hts⟩ hM ⟨callB_of (ws' := dWd) n hts (dGoodTs hG hcode) rfl rfl rfl (ok hini) (ok hlk) hd ⟨hR.1, hloc⟩, ok hstt⟩ hpre rfl (by simpa using h3) hls hst hroom hdg ⟨by omega, by omega⟩) hS0 hAm kk
  · obtain ⟨hlk, hstt⟩ := hs2 hkd h1
    exact do_ret (QQ := dPost D ad ca fm xs SL r) rfl (va_runSN (As := as.map (dval ad fm)) (rest := rest.map (dval ad fm)) (own := don o) (host := "DiskDrawer") (nL := nL) (n := n) (ws := Cond.code q.1 q.2.1 q.2.2.1 q.2.2.2.1 :: dWd) (rm := drm d) (Qc := dPost D ad ca fm xs SL r) ⟨hx, hb, hml, hown, hts⟩ hM ⟨va_cnB (ws' := dWd) n hts (dGoodTs hG hcode) rfl rfl rfl (hE.2.1 _ hlk) (ok hini) hd ⟨hR.1, hloc⟩, ok hstt, trivial⟩ hpre rfl (by simpa using h3) hls hst hroom hdg ⟨by omega, by omega⟩) hS0 hAm kk
end DCAL
