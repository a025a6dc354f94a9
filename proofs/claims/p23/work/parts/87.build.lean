/-! objects are made: cells at known addresses -/
def BW (D : va_G) (n : Nat) (f : Nat → Option va_E) (H : Heap) : Prop := H.size = n ∧ ∀ a e, f a = some e → va_at D dclasses (a, e) H
def fu (f : Nat → Option va_E) (a : Nat) (e : va_E) : Nat → Option va_E := fun b => if b = a then some e else f b
theorem fu_s (f : Nat → Option va_E) (a : Nat) (e : va_E) : fu f a e a = some e := if_pos rfl
theorem fu_n (f : Nat → Option va_E) {a b : Nat} (e : va_E) (h : b ≠ a) : fu f a e b = f b := if_neg h
theorem BW.lt {D : va_G} {n : Nat} {f : Nat → Option va_E} {H : Heap} (h : BW D n f H) {a : Nat} {e : va_E} (he : f a = some e) : a < n := by
  have hP : va_P D dclasses [(a, e)] H := fun k q hk => by
    cases k with
    | zero => cases hk; exact h.2 a e he
    | succ k => cases hk
  have := (hP 0 _ rfl).lt
  rw [h.1] at this
  exact this
theorem BW.one {D : va_G} {n : Nat} {f : Nat → Option va_E} {H : Heap} (h : BW D n f H) {a : Nat} {e : va_E} (he : f a = some e) : va_P D dclasses [(a, e)] H := fun k q hk => by
  cases k with
  | zero => cases hk; exact h.2 a e he
  | succ k => cases hk
theorem BW.set {D : va_G} {n n1 : Nat} {f : Nat → Option va_E} {H H1 : Heap} (h : BW D n f H) {a : Nat} {e : va_E} (z : H1.size = n1) (he : va_at D dclasses (a, e) H1) (o : ∀ q, q ≠ a → q < n → H1[q]? = H[q]?) : BW D n1 (fu f a e) H1 := by
  refine ⟨z, fun b e' hb => ?_⟩
  by_cases q : b = a
  · subst q
    rw [fu_s] at hb
    cases hb
    exact he
  · rw [fu_n _ _ q] at hb
    exact (h.2 b e' hb).kept (o b q (h.lt hb))
def bls (ci : Nat) : List Value := (List.range (dnf ci)).map (fun k => defaultValue (dTY ci k))
theorem bls_at (ci : Nat) {k : Nat} (hk : k < dnf ci) : defaultValue (dTY ci k) = vp_V (bls ci) k := by
  unfold vp_V bls
  rw [List.getD_eq_getElem?_getD, List.getElem?_map, List.getElem?_range hk]
  rfl
theorem bls_len (ci : Nat) : (bls ci).length = dnf ci := by simp [bls]
def dAO (U : State) : Prop := va_AO "DiskDrawer$Disk" U ∧ va_AO "DiskDrawer$Read" U ∧ va_AO "DiskDrawer$State" U
theorem dAO.moved {u U : State} (hvm : u.vm.Alike U.vm) (h : dAO u) : dAO U := ⟨va_AO.moved hvm h.1, va_AO.moved hvm h.2.1, va_AO.moved hvm h.2.2⟩
/-- where a method stands that makes objects -/
def Cx (p : Program) (s : State) (m : MethodId) (args : Array Value) (c : Code) (cc : ByteArray) (o : Nat) (Ts : List Cond) (D : va_G) (ad : DKey → Nat) (ca : Nat → ClassId) (fm : Value) (xs : Nat → Int32) (SL : Nat) (A0 : Nat → Prop) : Prop :=
  p.tables.exec = Jvm.exec ∧ c.code = cc ∧ s.vm.findClass (don o) = some m.cls ∧ (∀ w ∈ Ts, w.before args s = true) ∧ GoodIn Ts dWd ∧ dEnv D ad ca fm xs SL A0 s ∧ dAO s
section BLD
variable {p : Program} {l : Launch} {e : Env} {R : Room} {s : State} {m : MethodId} {args : Array Value} {below : List Frame} {meth : Method} {c : Code} {H : Heap} {locs : List Loc} {cells slots : Nat} {Q : State → Prop}
variable {cc : ByteArray} {pc : Nat} {ls : Array Slot} {rest : List Value} {Ts : List Cond} {o idx ci k n : Nat} {f : Nat → Option va_E} {A : Nat → Prop}
variable {D : va_G} {ad : DKey → Nat} {ca : Nat → ClassId} {fm : Value} {xs : Nat → Int32} {SL : Nat} {A0 : Nat → Prop}
theorem Cx.ok (C : Cx p s m args c cc o Ts D ad ca fm xs SL A0) {w : Cond} (hw : w ∈ dWd) : w.before args s = true := C.2.2.2.1 _ (C.2.2.2.2.1 _ hw).1
theorem Cx.uw (C : Cx p s m args c cc o Ts D ad ca fm xs SL A0) {ci : Nat} (hci : ci < 6) : ∀ w ∈ u_ws (don ci) (dTX ci) (dnf ci), w ∈ Ts := fun w hw => (C.2.2.2.2.1 w (duw hci w hw)).1
theorem b_new (C : Cx p s m args c cc o Ts D ad ca fm xs SL A0) (hB : BW D n f H) (hS : va_S A s.heap H locs) (hci : ci < 6) (hcl : Cond.classLink (don o) idx (don ci) ∈ dWd) (hin : Cond.instantiable (don ci) (dnf ci) ∈ dWd) (hini : Cond.initialized (don ci) ∈ dWd) (hcells : cells + 1 ≤ R.cells) (hslots : slots + dnf ci ≤ R.slots) (hdg : decode cc pc = .ok (.new idx, 3))
    (kk : ∀ H1 : Heap, BW D (n + 1) (fu f n (.inr (ci, bls ci))) H1 → va_S A s.heap H1 locs → W p l e R s m args below meth c H1 locs (cells + 1) (slots + dnf ci) Q (F0 m (pc + 3) ls (.ref n :: rest))) : W p l e R s m args below meth c H locs cells slots Q (F0 m pc ls rest) := by
  have hcl3 := dcl_at hci
  have hKn := C.2.2.2.2.2.1.1.1 ci _ hcl3
  refine W.newcK C.1 C.2.1 C.2.2.1 (C.ok hcl) (C.ok hin) (C.ok hini) rfl hdg hcells hslots hKn.2.1 hB.1 fun H1 kC hkC e1 z1 o1 => ?_
  refine kk H1 (hB.set z1 ⟨_, hcl3, (u_born (dTY ci) C.2.2.2.1 (C.uw hci) hKn hkC e1 (dty_ok ci hci)).to (fun k hk => bls_at ci hk)⟩ (fun q _ hq => o1 q hq)) ⟨Nat.le_trans hS.1 (by rw [z1, hB.1]; omega), fun q h1 h2 => (o1 q (by have := hS.1; rw [hB.1] at this; omega)).trans (hS.2.1 q h1 h2), hS.2.2⟩
theorem b_newa (C : Cx p s m args c cc o Ts D ad ca fm xs SL A0) (hB : BW D n f H) (hS : va_S A s.heap H locs) {atype : ArrayType} {t N : Nat} {x : Int32} (ht : (t = 0 ∧ atype = .int) ∨ (t = 4 ∧ atype = .char)) (hw : Cond.arrayClass (newarray.typeOf atype) ∈ dWd) (hx : ¬ x < 0) (hN : x.toNatClampNeg = N) (hN2 : N ≤ 1000) (hcells : cells + 1 ≤ R.cells) (hslots : slots + N ≤ R.slots) (hdg : decode cc pc = .ok (.newarray atype, 2))
    (kk : ∀ H1 : Heap, BW D (n + 1) (fu f n (.inl (ca t, N, .inl (fun _ => 0)))) H1 → va_S A s.heap H1 locs → W p l e R s m args below meth c H1 locs (cells + 1) (slots + N) Q (F0 m (pc + 2) ls (.ref n :: rest))) : W p l e R s m args below meth c H locs cells slots Q (F0 m pc ls (.int x :: rest)) := by
  have hty := C.2.2.2.2.2.1.1.2
  have hb : N * componentBytes (newarray.typeOf atype) ≤ 536870912 := by
    rcases ht with ⟨_, rfl⟩ | ⟨_, rfl⟩
    · exact Nat.le_trans (Nat.mul_le_mul_right _ hN2) (by decide)
    · exact Nat.le_trans (Nat.mul_le_mul_right _ hN2) (by decide)
  refine va_newaK C.1 C.2.1 (C.ok hw) rfl hdg rfl hx hN hb hcells hslots hB.1 fun H1 cA e1 z1 o1 hAr hNm => ?_
  have eA : cA = ca t ∧ (fun _ : Nat => defaultValue (newarray.typeOf atype)) = fun _ => Value.int 0 := by
    rcases ht with ⟨rfl, rfl⟩ | ⟨rfl, rfl⟩
    · exact ⟨Option.some.inj (hNm.symm.trans (hty 0 (ca 0, .int) rfl).2), rfl⟩
    · exact ⟨Option.some.inj (hNm.symm.trans (hty 4 (ca 4, .char) rfl).2), rfl⟩
  refine kk H1 (hB.set z1 ?_ (fun q _ hq => o1 q hq)) ⟨Nat.le_trans hS.1 (by rw [z1, hB.1]; omega), fun q h1 h2 => (o1 q (by have := hS.1; rw [hB.1] at this; omega)).trans (hS.2.1 q h1 h2), hS.2.2⟩
  show H1[n]? = some (vp_cell _ _)
  rw [e1, eA.1, eA.2]
  rfl
theorem b_newq (C : Cx p s m args c cc o Ts D ad ca fm xs SL A0) (hB : BW D n f H) (hS : va_S A s.heap H locs) {t N : Nat} {x : Int32} {CN : String} (ht : (dtys ca)[t]? = some (ca t, .object CN)) (hAO : va_AO CN s) (hcl : Cond.classLink (don o) idx CN ∈ dWd) (hx : ¬ x < 0) (hN : x.toNatClampNeg = N) (hN2 : N ≤ 1000) (hcells : cells + 1 ≤ R.cells) (hslots : slots + N ≤ R.slots) (hdg : decode cc pc = .ok (.anewarray idx, 3))
    (kk : ∀ H1 : Heap, BW D (n + 1) (fu f n (.inl (ca t, N, .inr (.inr (.inr (.inr (fun _ => none))))))) H1 → va_S A s.heap H1 locs → W p l e R s m args below meth c H1 locs (cells + 1) (slots + N) Q (F0 m (pc + 3) ls (.ref n :: rest))) : W p l e R s m args below meth c H locs cells slots Q (F0 m pc ls (.int x :: rest)) := by
  have hty := (C.2.2.2.2.2.1.1.2 t _ ht).2
  obtain ⟨kA0, comp0, g1, g2, g3, g4⟩ := hty
  subst hN
  refine W.anew C.1 C.2.1 C.2.2.1 (C.ok hcl) (va_AO.use hAO) rfl hdg rfl hx (by omega) hcells hslots fun cA kA comp f1 f2 f3 f4 => ?_
  have eA : cA = ca t := Option.some.inj (f1.symm.trans g4)
  subst eA
  generalize hH1 : H.push ({ cls := ca t, slots := Array.replicate x.toNatClampNeg .null, vm := .none } : Cell) = H1
  have z1 : H1.size = n + 1 := by rw [← hH1, Array.size_push, hB.1]
  have e1 : H1[n]? = some (arrV (ca t) x.toNatClampNeg (fun _ => .null)) := by rw [← hH1, ← hB.1, Array.getElem?_push_size, ← arrV_new]
  have o1 : ∀ q : Nat, q < n → H1[q]? = H[q]? := fun q hq => by rw [← hH1, Array.getElem?_push, if_neg (by rw [hB.1]; omega)]
  rw [hB.1]
  refine kk H1 (hB.set z1 ?_ (fun q _ hq => o1 q hq)) ⟨Nat.le_trans hS.1 (by rw [z1, hB.1]; omega), fun q h1 h2 => (o1 q (by have := hS.1; rw [hB.1] at this; omega)).trans (hS.2.1 q h1 h2), hS.2.2⟩
  show H1[n]? = some (vp_cell _ _)
  rw [vp_cell_q]
  exact e1
theorem b_putF (C : Cx p s m args c cc ci Ts D ad ca fm xs SL A0) (hB : BW D n f H) (hS : va_S A s.heap H locs) (hci : ci < 6) {a : Nat} {fs : List Value} (hf : f a = some (.inr (ci, fs))) (hl : fs.length = dnf ci) (hA : A a) (hk : k < dnf ci) (hlink : Cond.fieldLink (don ci) idx (dTX ci k).1 (dTX ci k).2.1 (dTX ci k).2.2.1 ∈ dWd) (hfin : (dTX ci k).2.2.2 = true) (hin2 : meth.name = "<init>") (hdecl : (dTX ci k).1 = don ci) {v : Nat} (hn : narrow (dTY ci k) (.ref v) = .ref v) (hfit : fits (dTY ci k) (.ref v) = true) (hdg : decode cc pc = .ok (.putfield idx, 3))
    (kk : ∀ (H1 : Heap) (locs1 : List Loc), BW D n (fu f a (.inr (ci, fs.set k (.ref v)))) H1 → va_S A s.heap H1 locs1 → W p l e R s m args below meth c H1 locs1 cells slots Q (F0 m (pc + 3) ls rest)) : W p l e R s m args below meth c H locs cells slots Q (F0 m pc ls (.ref v :: .ref a :: rest)) := by
  have hE := C.2.2.2.2.2.1
  have hcl := dcl_at hci
  have hts := C.2.2.2.1
  have hin := C.uw hci
  have hap := va_apart (own := don ci) hts hin (dTY ci) (dty_ok ci hci) (dnm_ok ci hci) hE.1 hcl
  obtain ⟨r, h1, cell, q1, q2, q3, q4⟩ := hB.2 a _ hf
  have hr2 : r = (don ci, dTX ci, dnf ci) := Option.some.inj (h1.symm.trans hcl)
  subst hr2
  obtain ⟨hSl, hfc, kC, hkC, hkind⟩ := hE.1.1 ci _ hcl
  obtain ⟨cf, kf, fi, fd, hif, hsl⟩ := hSl k hk
  have hlay := hts _ (hin _ (u_in_lay hk))
  unfold u_lay at hlay
  rw [if_pos hfin] at hlay
  have hst := (u_facts hfc hkC (u_lays hts hin hk) hif).1
  have hcf : m.cls = cf := by
    obtain ⟨_, _, c', _, _, _, -, -, hf', -, -, -, hown2, -⟩ := Cond.laysFinal_spec hlay
    have e1 : c' = cf := by have := hif.symm.trans hf'; simp at this; exact this.1.symm
    rw [hdecl] at hown2
    rw [← e1]; exact Option.some.inj (C.2.2.1.symm.trans hown2)
  have h6 := u_fits hfc hkC hkind (Or.inr hlay) hif (dty_ok ci hci k hk) hn hfit
  refine W.putFinK C.1 C.2.1 C.2.2.1 (C.ok hlink) hif hst hcf hin2 (by rw [q2]; exact h6) q1 q3 (by rw [hsl]; exact k2_hasslot (q4 k hk)) rfl rfl hdg fun H' e1 e2 e3 => ?_
  rw [hsl] at e1 ⊢
  exact kk H' _ (hB.set (e2.trans hB.1) ⟨_, hcl, t_OB.to (V := updV (vp_V fs) k (.ref v)) ⟨_, e1, q2, q3, t_set q4 hap hk (.ref v)⟩ (fun j _ => vp_updV_set (by rw [hl]; exact hk) (.ref v) j)⟩ (fun q hq _ => e3 q hq)) (hS.put e2 e3 hA)
theorem b_putZ (C : Cx p s m args c cc ci Ts D ad ca fm xs SL A0) (hB : BW D n f H) (hS : va_S A s.heap H locs) (hci : ci < 6) {a : Nat} {fs : List Value} (hf : f a = some (.inr (ci, fs))) (hl : fs.length = dnf ci) (hA : A a) (hk : k < dnf ci) (hlink : Cond.fieldLink (don ci) idx (dTX ci k).1 (dTX ci k).2.1 (dTX ci k).2.2.1 ∈ dWd) (hfin : (dTX ci k).2.2.2 = false) {x : Int32} (hn : narrow (dTY ci k) (.int x) = .int x) (hfit : fits (dTY ci k) (.int x) = true) (hdg : decode cc pc = .ok (.putfield idx, 3))
    (kk : ∀ (H1 : Heap) (locs1 : List Loc), BW D n (fu f a (.inr (ci, fs.set k (.int x)))) H1 → va_S A s.heap H1 locs1 → W p l e R s m args below meth c H1 locs1 cells slots Q (F0 m (pc + 3) ls rest)) : W p l e R s m args below meth c H locs cells slots Q (F0 m pc ls (.int x :: .ref a :: rest)) := by
  have hE := C.2.2.2.2.2.1
  have hcl := dcl_at hci
  have hts := C.2.2.2.1
  have hin := C.uw hci
  have hap := va_apart (own := don ci) hts hin (dTY ci) (dty_ok ci hci) (dnm_ok ci hci) hE.1 hcl
  obtain ⟨r, h1, cell, q1, q2, q3, q4⟩ := hB.2 a _ hf
  have hr2 : r = (don ci, dTX ci, dnf ci) := Option.some.inj (h1.symm.trans hcl)
  subst hr2
  obtain ⟨hSl, hfc, kC, hkC, hkind⟩ := hE.1.1 ci _ hcl
  obtain ⟨cf, kf, fi, fd, hif, hsl⟩ := hSl k hk
  have hlay := hts _ (hin _ (u_in_lay hk))
  unfold u_lay at hlay
  rw [if_neg (by rw [hfin]; decide)] at hlay
  have hst := (u_facts hfc hkC (u_lays hts hin hk) hif).1
  have h6 := u_store hfc hkC hkind hlay hif (dty_ok ci hci k hk) hn hfit
  refine W.putK C.1 C.2.1 (f := fd) ⟨C.2.2.1, C.ok hlink, ⟨_, _, _, hif⟩, hst⟩ (by rw [q2]; exact h6) q1 q3 (by rw [hsl]; exact k2_hasslot (q4 k hk)) rfl rfl hdg fun H' e1 e2 e3 => ?_
  rw [hsl] at e1 ⊢
  exact kk H' _ (hB.set (e2.trans hB.1) ⟨_, hcl, t_OB.to (V := updV (vp_V fs) k (.int x)) ⟨_, e1, q2, q3, t_set q4 hap hk (.int x)⟩ (fun j _ => vp_updV_set (by rw [hl]; exact hk) (.int x) j)⟩ (fun q hq _ => e3 q hq)) (hS.put e2 e3 hA)
theorem b_get (C : Cx p s m args c cc o Ts D ad ca fm xs SL A0) (hB : BW D n f H) (hci : ci < 6) {a : Nat} {fs : List Value} {v : Value} (hf : f a = some (.inr (ci, fs))) (hk : k < dnf ci) (hlink : Cond.fieldLink (don o) idx (dTX ci k).1 (dTX ci k).2.1 (dTX ci k).2.2.1 ∈ dWd) (hv : fs[k]? = some v) (hdg : decode cc pc = .ok (.getfield idx, 3))
    (kk : W p l e R s m args below meth c H locs cells slots Q (F0 m (pc + 3) ls (v :: rest))) : W p l e R s m args below meth c H locs cells slots Q (F0 m pc ls (.ref a :: rest)) :=
  va_get (D := D) (ci := ci) (v := v) (C := don ci) (T := dTX ci) (N := dnf ci) C.1 C.2.1 C.2.2.2.1 (C.uw hci) C.2.2.1 C.2.2.2.2.2.1.1 (hB.one hf) 0 rfl (dcl_at hci) k hk (C.ok hlink) (fun _ h9 => h9) hv hdg kk
theorem b_iast (C : Cx p s m args c cc o Ts D ad ca fm xs SL A0) (hB : BW D n f H) (hS : va_S A s.heap H locs) {a N : Nat} {g : Nat → Int32} (hf : f a = some (.inl (ca 0, N, .inl g))) (hA : A a) {i x : Int32} (hin : vp_in i N) (hdg : decode cc pc = .ok (.iastore, 1))
    (kk : ∀ (H1 : Heap) (locs1 : List Loc), BW D n (fu f a (.inl (ca 0, N, .inl (upd g i.toNatClampNeg x)))) H1 → va_S A s.heap H1 locs1 → W p l e R s m args below meth c H1 locs1 cells slots Q (F0 m (pc + 1) ls rest)) : W p l e R s m args below meth c H locs cells slots Q (F0 m pc ls (.int x :: .int i :: .ref a :: rest)) := by
  have hty := (C.2.2.2.2.2.1.1.2 0 (ca 0, .int) rfl).1
  refine W.iast C.1 C.2.1 (hB.2 a _ hf) (hty N (fun j => .int (g j))) (fun q => by cases q) (by show ¬ (i < 0 ∨ (arrV _ _ _).slots.size ≤ _); rw [arrV_size]; exact hin) rfl rfl hdg fun H1 e z oq => ?_
  refine kk H1 _ (hB.set (z.trans hB.1) ?_ (fun q hq _ => oq q hq)) (hS.put z oq hA)
  show H1[a]? = some (vp_cell _ _)
  rw [e, vp_cell_i, vp_cell_i, arrV_store]
  congr 2
  funext q
  by_cases hq : q = i.toNatClampNeg <;> simp [updV, upd, hq]
theorem b_aast (C : Cx p s m args c cc o Ts D ad ca fm xs SL A0) (hB : BW D n f H) (hS : va_S A s.heap H locs) {a N t v : Nat} {g : Nat → Option Nat} {vs : List Value} (hf : f a = some (.inl (ca t, N, .inr (.inr (.inr (.inr g)))))) (hC : (dtys ca)[t]? = some (ca t, .object (don ci))) (hci : ci < 6) (hv : f v = some (.inr (ci, vs))) (hA : A a) {i : Int32} (hin : vp_in i N) (hdg : decode cc pc = .ok (.aastore, 1))
    (kk : ∀ (H1 : Heap) (locs1 : List Loc), BW D n (fu f a (.inl (ca t, N, .inr (.inr (.inr (.inr (va_up g i.toNatClampNeg (some v)))))))) H1 → va_S A s.heap H1 locs1 → W p l e R s m args below meth c H1 locs1 cells slots Q (F0 m (pc + 1) ls rest)) : W p l e R s m args below meth c H locs cells slots Q (F0 m pc ls (.ref v :: .int i :: .ref a :: rest)) := by
  have hlt : i.toNatClampNeg < N := Nat.not_le.mp fun q => hin (Or.inr q)
  have h0 : ¬ i < 0 := fun q => hin (Or.inl q)
  have hE := C.2.2.2.2.2.1
  obtain ⟨r', hr', cellV, g1, g2, g3, -⟩ := hB.2 v _ hv
  have hcls := (hE.1.1 ci _ (dcl_at hci)).2
  obtain ⟨kA, comp, k1, k2, k3, -⟩ := (hE.1.2 t _ hC).2
  have hcomp : comp = D.1 ci := Option.some.inj (k3.symm.trans hcls.1)
  subst hcomp
  obtain ⟨kC, hkC, -⟩ := hcls.2
  refine W.aast C.1 C.2.1 (hB.2 a _ hf) (fun q h => by cases h) (fun h => by cases h) k1 k2 rfl hkC ⟨h0, by show _ < (arrV _ _ _).slots.size; rw [arrV_size]; exact hlt⟩ g1 (fun q h => by rw [g3] at h; cases h) (by rw [g2]; exact hkC) (by rw [g2]; exact va_assign hcls) rfl rfl hdg fun H1 e z oq => ?_
  refine kk H1 _ (hB.set (z.trans hB.1) ?_ (fun q hq _ => oq q hq)) (hS.put z oq hA)
  show H1[a]? = some (vp_cell _ _)
  rw [e, vp_cell_q, vp_cell_q, arrV_store]
  congr 2
  funext q
  by_cases hq : q = i.toNatClampNeg
  · subst hq
    simp [updV, va_up, va_rf]
  · simp [updV, va_up, hq]
end BLD
