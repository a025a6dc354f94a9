/-! the instructions that touch the heap, over the abstract heap -/
theorem duw0 : ∀ w ∈ u_ws (don 0) (dTX 0) (dnf 0), w ∈ lw_tbl ∧ goodWord w = true := by decide +kernel
theorem duw1 : ∀ w ∈ u_ws (don 1) (dTX 1) (dnf 1), w ∈ lw_tbl ∧ goodWord w = true := by decide +kernel
theorem duw2 : ∀ w ∈ u_ws (don 2) (dTX 2) (dnf 2), w ∈ lw_tbl ∧ goodWord w = true := by decide +kernel
theorem duw3 : ∀ w ∈ u_ws (don 3) (dTX 3) (dnf 3), w ∈ lw_tbl ∧ goodWord w = true := by decide +kernel
theorem duw4 : ∀ w ∈ u_ws (don 4) (dTX 4) (dnf 4), w ∈ lw_tbl ∧ goodWord w = true := by decide +kernel
theorem duw5 : ∀ w ∈ u_ws (don 5) (dTX 5) (dnf 5), w ∈ lw_tbl ∧ goodWord w = true := by decide +kernel
theorem duw {ci : Nat} (h : ci < 6) : ∀ w ∈ u_ws (don ci) (dTX ci) (dnf ci), w ∈ dWd := by
  have key : ∀ w ∈ u_ws (don ci) (dTX ci) (dnf ci), w ∈ lw_tbl ∧ goodWord w = true := by
    match ci, h with
    | 0, _ => exact duw0
    | 1, _ => exact duw1
    | 2, _ => exact duw2
    | 3, _ => exact duw3
    | 4, _ => exact duw4
    | 5, _ => exact duw5
  exact fun w hw => List.mem_filter.mpr (key w hw)
theorem dty_ok : ∀ ci, ci < 6 → ∀ k, k < dnf ci → parseFieldDescriptor (dTX ci k).2.2.1 = some (dTY ci k) := by decide +kernel
theorem dnm_ok : ∀ ci, ci < 6 → ∀ a, a < dnf ci → ∀ b, b < dnf ci → a ≠ b → (dTX ci a).2.1 ≠ (dTX ci b).2.1 := by decide +kernel
theorem dfin_ok : ∀ kd, kd < 37 → dcls kd < 6 → ∀ k, k < dnf (dcls kd) → drefT kd k = none → (dTX (dcls kd) k).2.2.2 = false ∧ parseFieldDescriptor (dTX (dcls kd) k).2.2.1 = some (if dfz (dcls kd) k then .boolean else .int) := by decide +kernel
theorem dref_none {κ : DKey} {k : Nat} (h : dref κ k = none) : drefT κ.1 k = none := by
  obtain ⟨kd, i, j⟩ := κ
  unfold dref at h
  dsimp only at h ⊢
  split at h
  · assumption
  · split at h <;> cases h
section DST
variable {p : Program} {l : Launch} {e : Env} {R : Room} {s : State} {m : MethodId} {args : Array Value} {below : List Frame} {meth : Method} {c : Code} {H : Heap} {locs : List Loc} {cells slots : Nat} {Q : State → Prop}
variable {cc : ByteArray} {pc : Nat} {ls : Array Slot} {rest : List Value} {Ts : List Cond} {o idx ci k : Nat} {κ : DKey}
variable {D : va_G} {ad : DKey → Nat} {ca : Nat → ClassId} {fm : Value} {xs : Nat → Int32} {SL : Nat} {A : Nat → Prop} {h : DH}
theorem do_P (hS : dSim D ad ca xs SL h H) (hκ : okK ad κ = true) : va_P D dclasses [(ad κ, dent ad ca κ (h.1 κ) (h.2 κ))] H := by
  intro k q hk
  cases k with
  | zero => cases hk; exact hS.1 κ hκ
  | succ k => cases hk
theorem dent_obj (hc : dcls κ.1 = ci) (hci : ci < 6) (f : Nat → Int32) (g : Nat → Nat) : dent ad ca κ f g = .inr (ci, dfields ad κ f) := by
  unfold dent
  rw [dcls_arr (by omega), hc]
theorem dent_int {n t : Nat} (ha : darr κ = some (t, n)) (ht : t = 0 ∨ t = 4 ∨ t = 5) (f : Nat → Int32) (g : Nat → Nat) : dent ad ca κ f g = .inl (ca t, n, .inl f) := by
  unfold dent
  rw [ha]
  dsimp only
  rw [if_neg (by omega)]
theorem dent_ref {n t : Nat} (ha : darr κ = some (t, n)) (ht : t = 1 ∨ t = 2 ∨ t = 3) (f : Nat → Int32) (g : Nat → Nat) : dent ad ca κ f g = .inl (ca t, n, .inr (.inr (.inr (.inr (fun j => (drk κ (g j) j).map ad))))) := by
  unfold dent
  rw [ha]
  dsimp only
  rw [if_pos ht]
theorem do_get (hx : p.tables.exec = Jvm.exec) (hb : c.code = cc) (hts : ∀ w ∈ Ts, w.before args s = true) (hG : GoodIn Ts dWd) (hown : s.vm.findClass (don o) = some m.cls) (hE : dEnv D ad ca fm xs SL A s) (hS : dSim D ad ca xs SL h H) (hκ : okK ad κ = true) (hc : dcls κ.1 = ci) (hci : ci < 6) (hk : k < dnf ci)
    (hl : (Cond.fieldLink (don o) idx (dTX ci k).1 (dTX ci k).2.1 (dTX ci k).2.2.1) ∈ dWd) {w : DV} (hw : dgetf ci k κ h = some w) (hdg : decode cc pc = .ok (.getfield idx, 3))
    (kk : W p l e R s m args below meth c H locs cells slots Q (F0 m (pc + 3) ls (dval ad fm w :: rest))) : W p l e R s m args below meth c H locs cells slots Q (F0 m pc ls (.ref (ad κ) :: rest)) := by
  have hP := do_P hS hκ
  rw [dent_obj hc hci] at hP
  refine va_get (D := D) (ci := ci) (v := dval ad fm w) (C := don ci) (T := dTX ci) (N := dnf ci) hx hb hts (fun w hw => (hG w (duw hci w hw)).1) hown hE.1 hP 0 rfl (dcl_at hci) k hk (hts _ (hG _ hl).1) (fun _ h9 => h9) ?_ hdg kk
  rw [dfields_at _ (by rw [hc]; exact hk)]
  unfold dgetf at hw
  rw [hc, show Nat.beq ci ci = true from Nat.beq_refl ci] at hw
  dsimp only [cond] at hw
  cases hr : dref κ k with
  | some z =>
    rw [hr] at hw
    cases hw
    rw [← dref_null (fm := fm) hr]
  | none =>
    rw [hr] at hw
    cases hw
    rfl
theorem do_put (hx : p.tables.exec = Jvm.exec) (hb : c.code = cc) (hts : ∀ w ∈ Ts, w.before args s = true) (hG : GoodIn Ts dWd) (hown : s.vm.findClass (don o) = some m.cls) (hE : dEnv D ad ca fm xs SL A s) (hA : ∀ κ, okK ad κ = true → A (ad κ)) (hi : dInj ad) (hS : dSim D ad ca xs SL h H) (hS0 : va_S A s.heap H locs) (hκ : okK ad κ = true) (hc : dputf ci k κ = true) (hci : ci < 6) (hk : k < dnf ci)
    (hl : (Cond.fieldLink (don o) idx (dTX ci k).1 (dTX ci k).2.1 (dTX ci k).2.2.1) ∈ dWd) {x : Int32} (hz : dfz ci k = true → x = 0 ∨ x = 1) (hdg : decode cc pc = .ok (.putfield idx, 3))
    (kk : ∀ (H1 : Heap) (locs1 : List Loc), dSim D ad ca xs SL (up1 h κ k x) H1 → va_S A s.heap H1 locs1 → W p l e R s m args below meth c H1 locs1 cells slots Q (F0 m (pc + 3) ls rest)) : W p l e R s m args below meth c H locs cells slots Q (F0 m pc ls (.int x :: .ref (ad κ) :: rest)) := by
  simp only [dputf, Bool.and_eq_true] at hc
  obtain ⟨⟨hc1, hc2⟩, hc3⟩ := hc
  have hc : dcls κ.1 = ci := Nat.eq_of_beq_eq_true hc1
  have hr : dref κ k = none := by
    cases hr : dref κ k with
    | none => rfl
    | some w => rw [hr] at hc3; cases hc3
  have hP := do_P hS hκ
  rw [dent_obj hc hci] at hP
  have hcl := dcl_at hci
  have hin : ∀ w ∈ u_ws (don ci) (dTX ci) (dnf ci), w ∈ Ts := fun w hw => (hG w (duw hci w hw)).1
  have hfo := dfin_ok κ.1 (by have := okK_lt hκ; omega) (by rw [hc]; exact hci) k (by rw [hc]; exact hk) (dref_none hr)
  rw [hc] at hfo
  obtain ⟨hfin, hd⟩ := hfo
  have hn : narrow (if dfz ci k then FieldType.boolean else FieldType.int) (.int x) = .int x ∧ fits (if dfz ci k then FieldType.boolean else FieldType.int) (.int x) = true := by
    cases hzz : dfz ci k with
    | true => rcases hz hzz with rfl | rfl <;> exact ⟨rfl, rfl⟩
    | false => exact ⟨rfl, rfl⟩
  have hap := va_apart (own := don o) hts hin (dTY ci) (dty_ok ci hci) (dnm_ok ci hci) hE.1 hcl
  obtain ⟨r, h1, cell, q1, q2, q3, q4⟩ := hP 0 _ rfl
  have hr2 : r = (don ci, dTX ci, dnf ci) := Option.some.inj (h1.symm.trans hcl)
  subst hr2
  obtain ⟨hSl, hfc, kC, hkC, hkind⟩ := hE.1.1 ci _ hcl
  obtain ⟨cf, kf, fi, f, hif, hsl⟩ := hSl k hk
  have hlay := hts _ (hin _ (u_in_lay hk))
  unfold u_lay at hlay
  rw [if_neg (by rw [hfin]; decide)] at hlay
  have hst := (u_facts hfc hkC (u_lays hts hin hk) hif).1
  have h6 := u_store hfc hkC hkind hlay hif hd hn.1 hn.2
  have hlen : k < (dfields ad κ (h.1 κ)).length := by simp [dfields, hc, hk]
  refine W.putK hx hb (f := f) ⟨hown, hts _ (hG _ hl).1, ⟨_, _, _, hif⟩, hst⟩ (by rw [q2]; exact h6) q1 q3 (by rw [hsl]; exact k2_hasslot (q4 k hk)) rfl rfl hdg fun H' e1 e2 e3 => ?_
  rw [hsl] at e1 ⊢
  have hat : va_at D dclasses (ad κ, .inr (ci, (dfields ad κ (h.1 κ)).set k (.int x))) H' := ⟨_, hcl, t_OB.to (V := updV (vp_V (dfields ad κ (h.1 κ))) k (.int x)) ⟨_, e1, q2, q3, t_set q4 hap hk (.int x)⟩ (fun j _ => vp_updV_set hlen (.int x) j)⟩
  rw [dfields_set _ _ (by rw [hc]; exact hk) hr, ← dent_obj (ca := ca) hc hci _ (h.2 κ)] at hat
  exact kk H' _ (hS.up1 hi hκ hat e3) (hS0.put e2 e3 (hA κ hκ))
theorem dty_at {t : Nat} (ht : t < 5) : ∃ ty, (dtys ca)[t]? = some (ca t, ty) ∧ ty = (match t with | 0 => .int | 1 => .object "DiskDrawer$Disk" | 2 => .object "DiskDrawer$Read" | 3 => .object "DiskDrawer$State" | _ => .char) := by
  match t, ht with
  | 0, _ => exact ⟨_, rfl, rfl⟩
  | 1, _ => exact ⟨_, rfl, rfl⟩
  | 2, _ => exact ⟨_, rfl, rfl⟩
  | 3, _ => exact ⟨_, rfl, rfl⟩
  | 4, _ => exact ⟨_, rfl, rfl⟩
theorem do_iald (hx : p.tables.exec = Jvm.exec) (hb : c.code = cc) (hE : dEnv D ad ca fm xs SL A s) (hS : dSim D ad ca xs SL h H) (hκ : okK ad κ = true) {n : Nat} (ha : darr κ = some (0, n)) {i : Int32} (hin : vp_in i n) (hdg : decode cc pc = .ok (.iaload, 1))
    (kk : W p l e R s m args below meth c H locs cells slots Q (F0 m (pc + 1) ls (.int (h.1 κ i.toNatClampNeg) :: rest))) : W p l e R s m args below meth c H locs cells slots Q (F0 m pc ls (.int i :: .ref (ad κ) :: rest)) := by
  have hP := do_P hS hκ
  rw [dent_int ha (Or.inl rfl)] at hP
  exact va_iald hx hb hE.1 hP 0 0 rfl rfl hin hdg kk
theorem do_arr {n t : Nat} (ha : darr κ = some (t, n)) (ht : t = 0 ∨ t = 4 ∨ t = 5) (hS : dSim D ad ca xs SL h H) (hκ : okK ad κ = true) : H[ad κ]? = some (arrV (ca t) n (fun j => .int (h.1 κ j))) := by
  have := hS.1 κ hκ
  rw [dent_int ha ht] at this
  exact this
theorem do_iast (hx : p.tables.exec = Jvm.exec) (hb : c.code = cc) (hE : dEnv D ad ca fm xs SL A s) (hA : ∀ κ, okK ad κ = true → A (ad κ)) (hi : dInj ad) (hS : dSim D ad ca xs SL h H) (hS0 : va_S A s.heap H locs) (hκ : okK ad κ = true) {n : Nat} (ha : darr κ = some (0, n)) {i x : Int32} (hin : vp_in i n) (hdg : decode cc pc = .ok (.iastore, 1))
    (kk : ∀ (H1 : Heap) (locs1 : List Loc), dSim D ad ca xs SL (up1 h κ i.toNatClampNeg x) H1 → va_S A s.heap H1 locs1 → W p l e R s m args below meth c H1 locs1 cells slots Q (F0 m (pc + 1) ls rest)) : W p l e R s m args below meth c H locs cells slots Q (F0 m pc ls (.int x :: .int i :: .ref (ad κ) :: rest)) := by
  have hty := (hE.1.2 0 (ca 0, .int) rfl).1
  refine W.iast hx hb (do_arr ha (Or.inl rfl) hS hκ) (hty n (fun j => .int (h.1 κ j))) (fun q => by cases q) (by show ¬ (i < 0 ∨ (arrV _ _ _).slots.size ≤ _); rw [arrV_size]; exact hin) rfl rfl hdg fun H1 e z oq => ?_
  refine kk H1 _ (hS.up1 hi hκ ?_ oq) (hS0.put z oq (hA κ hκ))
  rw [dent_int ha (Or.inl rfl)]
  show H1[ad κ]? = some (vp_cell _ _)
  rw [e, vp_cell_i, arrV_store]
  congr 2
  funext q
  by_cases hq : q = i.toNatClampNeg <;> simp [updV, upd, hq]
theorem darr_ref {κ : DKey} {t n : Nat} (ha : darr κ = some (t, n)) (ht : t = 1 ∨ t = 2 ∨ t = 3) (p j : Nat) : ∃ w, drk κ p j = some w := by
  unfold darr at ha
  split at ha <;> first | (cases ha; exact ⟨_, rfl⟩) | (cases ha; omega) | cases ha
theorem do_aald (hx : p.tables.exec = Jvm.exec) (hb : c.code = cc) (hE : dEnv D ad ca fm xs SL A s) (hS : dSim D ad ca xs SL h H) (hκ : okK ad κ = true) {n t : Nat} (ha : darr κ = some (t, n)) {i : Int32} (hin : vp_in i n) {w : DKey} (hw : drk κ (h.2 κ i.toNatClampNeg) i.toNatClampNeg = some w) (hdg : decode cc pc = .ok (.aaload, 1))
    (kk : okK ad w = true → W p l e R s m args below meth c H locs cells slots Q (F0 m (pc + 1) ls (.ref (ad w) :: rest))) : W p l e R s m args below meth c H locs cells slots Q (F0 m pc ls (.int i :: .ref (ad κ) :: rest)) := by
  have hlt : i.toNatClampNeg < n := Nat.not_le.mp fun q => hin (Or.inr q)
  have hP := do_P hS hκ
  have ht : (t = 1 ∨ t = 2 ∨ t = 3) ∧ okK ad w = true := by
    obtain ⟨kd, i0, j0⟩ := κ
    unfold drk at hw
    split at hw
    · rename_i e
      cases e
      cases ha
      cases hw
      simp only [okK, Bool.and_eq_true, decide_eq_true_eq] at hκ
      exact ⟨by decide, by simp only [okK, Bool.and_eq_true, decide_eq_true_eq]; exact ⟨hκ.1, hlt⟩⟩
    · rename_i e
      cases e
      cases ha
      cases hw
      simp only [okK, Bool.and_eq_true, decide_eq_true_eq] at hκ
      obtain ⟨h1, rfl⟩ := hκ
      exact ⟨by decide, by simp only [okK, Bool.and_eq_true, decide_eq_true_eq]; exact ⟨h1, hS.2.1 _ _ h1 hlt⟩⟩
    · rename_i e
      cases e
      cases ha
      cases hw
      simp only [okK, Bool.and_eq_true, decide_eq_true_eq] at hκ
      obtain ⟨⟨⟨h1, h2⟩, rfl⟩, rfl⟩ := hκ
      exact ⟨by decide, by simp only [okK, Bool.and_eq_true, decide_eq_true_eq]; exact ⟨hS.2.2.1 _ hlt, trivial⟩⟩
    · cases hw
  obtain ⟨ht, hok⟩ := ht
  rw [dent_ref ha ht] at hP
  have hfi : (drk κ (h.2 κ i.toNatClampNeg) i.toNatClampNeg).map ad = some (ad w) := by rw [hw]; rfl
  have key : ∀ C, (dtys ca)[t]? = some (ca t, .object C) → W p l e R s m args below meth c H locs cells slots Q (F0 m pc ls (.int i :: .ref (ad κ) :: rest)) := fun C hC =>
    va_aldq hx hb hE.1 hP 0 t rfl hC hin hdg (by
      rw [hfi]
      exact kk hok)
  rcases ht with rfl | rfl | rfl
  · exact key _ rfl
  · exact key _ rfl
  · exact key _ rfl
theorem do_aast (hx : p.tables.exec = Jvm.exec) (hb : c.code = cc) (hE : dEnv D ad ca fm xs SL A s) (hA : ∀ κ, okK ad κ = true → A (ad κ)) (hi : dInj ad) (hS : dSim D ad ca xs SL h H) (hS0 : va_S A s.heap H locs) (hκ : okK ad κ = true) {n t x : Nat} {w : DKey} (ha : darr κ = some (t, n)) (ht : t = 1 ∨ t = 2 ∨ t = 3) (hC : (dtys ca)[t]? = some (ca t, .object (don ci))) (hci : ci < 6) (hwc : dcls w.1 = ci) (hwk : okK ad w = true) {i : Int32} (hin : vp_in i n) (hd : drk κ x i.toNatClampNeg = some w) (hr : (κ.1 = 3 ∧ x < 30) ∨ (κ.1 = 8 ∧ x < 8)) (hdg : decode cc pc = .ok (.aastore, 1))
    (kk : ∀ (H1 : Heap) (locs1 : List Loc), dSim D ad ca xs SL (up2 h κ i.toNatClampNeg x) H1 → va_S A s.heap H1 locs1 → W p l e R s m args below meth c H1 locs1 cells slots Q (F0 m (pc + 1) ls rest)) : W p l e R s m args below meth c H locs cells slots Q (F0 m pc ls (.ref (ad w) :: .int i :: .ref (ad κ) :: rest)) := by
  have hlt : i.toNatClampNeg < n := Nat.not_le.mp fun q => hin (Or.inr q)
  have h0 : ¬ i < 0 := fun q => hin (Or.inl q)
  have hcell := hS.1 κ hκ
  rw [dent_ref ha ht] at hcell
  have hv := hS.1 w hwk
  rw [dent_obj hwc hci] at hv
  obtain ⟨r', hr', cellV, g1, g2, g3, -⟩ := hv
  have hcls := (hE.1.1 ci _ (dcl_at hci)).2
  obtain ⟨kA, comp, k1, k2, k3, -⟩ := (hE.1.2 t _ hC).2
  have hcomp : comp = D.1 ci := Option.some.inj (k3.symm.trans hcls.1)
  subst hcomp
  obtain ⟨kC, hkC, -⟩ := hcls.2
  refine W.aast hx hb hcell (fun q h => by cases h) (fun h => by cases h) k1 k2 rfl hkC ⟨h0, by show _ < (arrV _ _ _).slots.size; rw [arrV_size]; exact hlt⟩ g1 (fun q h => by rw [g3] at h; cases h) (by rw [g2]; exact hkC) (by rw [g2]; exact va_assign hcls) rfl rfl hdg fun H1 e z oq => ?_
  refine kk H1 _ (hS.up2 hi hκ hr ?_ oq) (hS0.put z oq (hA κ hκ))
  rw [dent_ref ha ht]
  show H1[ad κ]? = some (vp_cell _ _)
  rw [e, vp_cell_q, vp_cell_q, arrV_store]
  congr 2
  funext q
  by_cases hq : q = i.toNatClampNeg
  · subst hq
    simp [updV, up2, va_rf, hd]
  · simp [updV, up2, hq]
theorem do_ret {r : DRes} {a : Array Value} {st0 : List Value} {QQ : Array Value → State → Outcome → State → Prop} (hQ : QQ = fun _ st oc t => oc = .returned (r.1.map (dval ad fm)) ∧ (∀ v, r.1 = some v → okV ad v = true) ∧ dSim D ad ca xs SL r.2 t.heap ∧ va_F (dAm ad) st t)
    (hr : va_Run p l e R s m args below meth c H locs cells slots 0 0 (F0 m pc ls st0) rest (QQ a) (dAm ad)) (hS0 : va_S A s.heap H locs) (hAm : ∀ q, dAm ad q → A q)
    (kk : ∀ (H1 : Heap) (locs1 : List Loc), (∀ v, r.1 = some v → okV ad v = true) → dSim D ad ca xs SL r.2 H1 → va_S A s.heap H1 locs1 → W p l e R s m args below meth c H1 locs1 cells slots Q (F0 m (pc + 3) ls ((r.1.map (dval ad fm)).toList ++ rest))) : W p l e R s m args below meth c H locs cells slots Q (F0 m pc ls st0) := by
  subst hQ
  intro T hT X
  obtain ⟨v, st₀, t, T', L, h0, X', hL, e1, e2, ⟨hv, hok, hsim, hz, hk⟩, st⟩ := hr T hT X
  cases hv
  rw [h0] at hz hk
  obtain ⟨t2, a1, b1⟩ := kk T'.heap (locs ++ L) hok (by rw [e1]; exact hsim)
    ⟨Nat.le_trans hS0.1 (by rw [e1]; exact hz), fun q h1 h2 => by rw [e1, hk q (Nat.lt_of_lt_of_le h1 hS0.1) (fun z => h2 (hAm q z))]; exact hS0.2.1 q h1 h2, fun q hq => by
      rcases List.mem_append.mp hq with h | h
      · exact hS0.2.2 q h
      · exact hAm _ (hL q h)⟩ T' rfl X'
  exact ⟨t2, st t2 a1, b1⟩
end DST
