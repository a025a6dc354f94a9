/-! constructors: what each makes, and where -/
theorem BW.sub {D : va_G} {n : Nat} {f g : Nat → Option va_E} {H : Heap} (h : BW D n f H) (hs : ∀ b e, g b = some e → f b = some e) : BW D n g H := ⟨h.1, fun b e hb => h.2 b e (hs b e hb)⟩
def mix (f g : Nat → Option va_E) (a n : Nat) : Nat → Option va_E := fun b => if b = a ∨ n ≤ b then g b else f b
def f1 (a : Nat) (e : va_E) : Nat → Option va_E := fun b => if b = a then some e else none
def cPre (D : va_G) (ad : DKey → Nat) (ca : Nat → ClassId) (fm : Value) (xs : Nat → Int32) (SL z0 a n0 : Nat) (e0 : va_E) : Array Value → State → Prop := va_Pc [.ref a] (fun U => U.heap.size = n0 ∧ va_at D dclasses (a, e0) U.heap ∧ z0 ≤ a ∧ dEnv D ad ca fm xs SL (fun q => z0 ≤ q) U ∧ dAO U)
def cPost (D : va_G) (a n0 k : Nat) (g : Nat → Option va_E) : Array Value → State → Outcome → State → Prop := va_Qv (fun _ : Unit => True) (fun _ t => BW D (n0 + k) g t.heap) (fun q => q = a ∨ n0 ≤ q)
def cMet (l : Launch) (D : va_G) (ad : DKey → Nat) (ca : Nat → ClassId) (fm : Value) (xs : Nat → Int32) (SL z0 : Nat) (y : MethodName) (bytes : ByteArray) (maxL : Nat) (rm : Room) (a n0 k : Nat) (e0 : va_E) (g : Nat → Option va_E) : Prop := Met l y (Cond.code y bytes maxL none :: dWd) rm (cPre D ad ca fm xs SL z0 a n0 e0) (cPost D a n0 k g) rm.cells rm.slots (fun q => q = a ∨ n0 ≤ q)
theorem cPre_blind {D : va_G} {ad : DKey → Nat} {ca : Nat → ClassId} {fm : Value} {xs : Nat → Int32} {SL z0 a n0 : Nat} {e0 : va_E} : FrameBlind (cPre D ad ca fm xs SL z0 a n0 e0) := fun _ U _ _ q => ⟨q.1, q.2.1, q.2.2.1, q.2.2.2.1, dEnv.same (u := U) rfl rfl q.2.2.2.2.1, dAO.moved (u := U) (Vm.Alike.refl U.vm) q.2.2.2.2.2⟩
section CCL
variable {p : Program} {l : Launch} {e : Env} {R : Room} {s : State} {m : MethodId} {args : Array Value} {below : List Frame} {meth : Method} {c : Code} {H : Heap} {locs : List Loc} {cells slots : Nat} {Q : State → Prop}
variable {cc : ByteArray} {pc : Nat} {ls : Array Slot} {rest : List Value} {Ts : List Cond} {o idx n nL : Nat} {f : Nat → Option va_E} {A : Nat → Prop}
variable {D : va_G} {ad : DKey → Nat} {ca : Nat → ClassId} {fm : Value} {xs : Nat → Int32} {SL z0 : Nat}
theorem mix_BW (hB : BW D n f H) {H1 : Heap} {g : Nat → Option va_E} {a k : Nat} (h1 : BW D (n + k) g H1) (hk : ∀ q : Nat, q < H.size → ¬ (q = a ∨ n ≤ q) → H1[q]? = H[q]?) : BW D (n + k) (mix f g a n) H1 := by
  refine ⟨h1.1, fun b e hb => ?_⟩
  unfold mix at hb
  by_cases z : b = a ∨ n ≤ b
  · rw [if_pos z] at hb
    exact h1.2 b e hb
  · rw [if_neg z] at hb
    exact (hB.2 b e hb).kept (hk b (by rw [hB.1]; exact hB.lt hb) z)
theorem b_pre (C : Cx p s m args c cc o Ts D ad ca fm xs SL (fun q => z0 ≤ q)) (hB : BW D n f H) (hS : va_S A s.heap H locs) (hA0 : ∀ q, A q → z0 ≤ q) {a : Nat} {e0 : va_E} (hA : A a) (hf : f a = some e0) : PreS s H (cPre D ad ca fm xs SL z0 a n e0) [.ref a] :=
  ⟨cPre_blind, fun U hU hW => ⟨rfl, by rw [hU, hB.1], by rw [hU]; exact hB.2 a _ hf, hA0 a hA, dEnv.warm hW (by rw [hU]; exact hS.1) (fun q h1 h2 => by rw [hU]; exact hS.2.1 q h1 (fun t => h2 (hA0 _ t))) C.2.2.2.2.2.1, dAO.moved hW.alike C.2.2.2.2.2.2⟩⟩
theorem b_callI (C : Cx p s m args c cc o Ts D ad ca fm xs SL (fun q => z0 ≤ q)) (hml : c.maxLocals = nL) (hls : ls.size = nL) (hB : BW D n f H) (hS : va_S A s.heap H locs) (hA0 : ∀ q, A q → z0 ≤ q) (hAn : ∀ q, s.heap.size ≤ q → A q) {a k maxL : Nat} {e0 : va_E} {g : Nat → Option va_E} {y : MethodName} {bytes : ByteArray} {rm : Room} (hA : A a) (hf : f a = some e0) (hM : cMet l D ad ca fm xs SL z0 y bytes maxL rm a n k e0 g)
    (hy : y.name = "<init>") (hd : y.cls ≠ "java/lang/invoke/MethodHandle" ∧ y.cls ≠ "java/lang/invoke/VarHandle" ∧ (parseMethodDescriptor y.desc).map (fun d => d.parameters.length) = some 0) (hcode : Cond.code y bytes maxL none ∈ dWd) (hini : Cond.initialized y.cls ∈ dWd) (hlk : Cond.methodLink (don o) idx y ∈ dWd) (hin : Cond.instanceMethod y ∈ dWd) (hR : rm.frames + 1 ≤ R.frames ∧ 8 + (maxL + 11) + rm.locals ≤ R.locals) (hc : cells + rm.cells ≤ R.cells ∧ slots + rm.slots ≤ R.slots) (hrest : (rest.map fun v => v.category).sum ≤ 8) (hdg : decode cc pc = .ok (.invokespecial idx, 3))
    (kk : ∀ (H1 : Heap) (locs1 : List Loc), BW D (n + k) (mix f g a n) H1 → va_S A s.heap H1 locs1 → W p l e R s m args below meth c H1 locs1 (cells + rm.cells) (slots + rm.slots) Q (F0 m (pc + 3) ls rest)) : W p l e R s m args below meth c H locs cells slots Q (F0 m pc ls (.ref a :: rest)) := by
  have hfree : ∀ q, (q = a ∨ n ≤ q) → A q := fun q hq => by
    rcases hq with rfl | hq
    · exact hA
    · exact hAn q (by have := hS.1; rw [hB.1] at this; omega)
  refine va_callv (va_runI (As := []) (rest := rest) ⟨C.1, C.2.1, hml, C.2.2.1, C.2.2.2.1⟩ hM (cwI (ws' := dWd) 0 C.2.2.2.1 (dGoodTs C.2.2.2.2.1 hcode) rfl rfl rfl (C.ok hini) (C.ok hlk) (C.ok hin) hy hd hR) (b_pre C hB hS hA0 hA hf) rfl rfl hls rfl (lv_room hrest) hdg hc) hS (fun q _ h => hfree q h) hfree (fun u t H1 locs1 ht hvm _ hBW hz hk hS1 => ?_)
  rw [ht] at hBW
  exact kk H1 locs1 (mix_BW hB hBW hk) hS1
theorem b_callN (C : Cx p s m args c cc o Ts D ad ca fm xs SL (fun q => z0 ≤ q)) (hml : c.maxLocals = nL) (hls : ls.size = nL) (hB : BW D n f H) (hS : va_S A s.heap H locs) (hA0 : ∀ q, A q → z0 ≤ q) (hAn : ∀ q, s.heap.size ≤ q → A q) {a k maxL : Nat} {e0 : va_E} {g : Nat → Option va_E} {y : MethodName} {bytes : ByteArray} {rm : Room} (hA : A a) (hf : f a = some e0) (hM : cMet l D ad ca fm xs SL z0 y bytes maxL rm a n k e0 g)
    (hy : y.name = "<init>") (hd : y.cls ≠ "java/lang/invoke/MethodHandle" ∧ y.cls ≠ "java/lang/invoke/VarHandle" ∧ (parseMethodDescriptor y.desc).map (fun d => d.parameters.length) = some 0) (hcode : Cond.code y bytes maxL none ∈ dWd) (hini : Cond.initialized y.cls ∈ dWd) (hlk : Cond.methodLinkNest (don o) idx y "DiskDrawer" ∈ dNest) (hin : Cond.instanceMethod y ∈ dWd) (hR : rm.frames + 1 ≤ R.frames ∧ 8 + (maxL + 11) + rm.locals ≤ R.locals) (hc : cells + rm.cells ≤ R.cells ∧ slots + rm.slots ≤ R.slots) (hrest : (rest.map fun v => v.category).sum ≤ 8) (hdg : decode cc pc = .ok (.invokespecial idx, 3))
    (kk : ∀ (H1 : Heap) (locs1 : List Loc), BW D (n + k) (mix f g a n) H1 → va_S A s.heap H1 locs1 → W p l e R s m args below meth c H1 locs1 (cells + rm.cells) (slots + rm.slots) Q (F0 m (pc + 3) ls rest)) : W p l e R s m args below meth c H locs cells slots Q (F0 m pc ls (.ref a :: rest)) := by
  have hfree : ∀ q, (q = a ∨ n ≤ q) → A q := fun q hq => by
    rcases hq with rfl | hq
    · exact hA
    · exact hAn q (by have := hS.1; rw [hB.1] at this; omega)
  refine va_callv (va_runIN (As := []) (rest := rest) (host := "DiskDrawer") ⟨C.1, C.2.1, hml, C.2.2.1, C.2.2.2.1⟩ hM ⟨va_cnB (ws' := dWd) 0 C.2.2.2.1 (dGoodTs C.2.2.2.2.1 hcode) rfl rfl rfl (C.2.2.2.2.2.1.2.1 _ hlk) (C.ok hini) hd hR, hy, C.ok hin⟩ (b_pre C hB hS hA0 hA hf) rfl rfl hls rfl (lv_room hrest) hdg hc) hS (fun q _ h => hfree q h) hfree (fun u t H1 locs1 ht hvm _ hBW hz hk hS1 => ?_)
  rw [ht] at hBW
  exact kk H1 locs1 (mix_BW hB hBW hk) hS1
end CCL
def cA (a n0 : Nat) : Nat → Prop := fun q => q = a ∨ n0 ≤ q
theorem cMet_of {l : Launch} {D : va_G} {ad : DKey → Nat} {ca : Nat → ClassId} {fm : Value} {xs : Nat → Int32} {SL z0 : Nat} {y : MethodName} {cc : ByteArray} {maxL o idx a n0 k : Nat} {rm : Room} {e0 : va_E} {g : Nat → Option va_E} (hp : plainName y.cls = true) (hcl : y.cls = don o) (hy : y.name = "<init>") (hm : 1 ≤ maxL) (hlk : Cond.methodLink (don o) idx Lib.objectInit ∈ dWd) (hd0 : decode cc 0 = .ok (.aload_n 0, 1)) (hd1 : decode cc 1 = .ok (.invokespecial idx, 3)) (hf : 1 ≤ rm.frames) (hl : 20 ≤ rm.locals)
    (body : ∀ p e s m args below meth c ls, Cx p s m args c cc o (Cond.code y cc maxL none :: dWd) D ad ca fm xs SL (fun q => z0 ≤ q) → c.maxLocals = maxL → lv_has ls maxL [(0, .ref a)] → meth.name = "<init>" → meth.sig.returnType = none → meth.locks = false → s.heap.size = n0 → z0 ≤ a → BW D n0 (f1 a e0) s.heap → W p l e rm s m args below meth c s.heap [] 0 0 (MQ below (cPost D a n0 k g) args s rm.cells rm.slots (cA a n0)) (F0 m 4 ls [])) : cMet l D ad ca fm xs SL z0 y cc maxL rm a n0 k e0 g := by
  unfold cMet
  refine Met.ofW (cc := cc) (maxL := maxL) (ret := none) hp rfl ?_
  intro p e s m args below meth c s₁ B hml hv
  obtain ⟨rfl, hz, hat, hza, hE, hAO⟩ := hv
  have hts := atoms_spec (ws := Cond.code y cc maxL none :: dWd) B.pre
  have hown : s.vm.findClass (don o) = some m.cls := by rw [← hcl]; exact findClass_of_methodNamed B.named
  have C : Cx p s m [Value.ref a].toArray c cc o (Cond.code y cc maxL none :: dWd) D ad ca fm xs SL (fun q => z0 ≤ q) := ⟨B.exec, B.bytes, hown, hts, dWd_cons _, hE, hAO⟩
  have hlv := lv_entry [Value.ref a] (n := maxL) hm
  rw [lg_entry_eq]
  generalize (lg_sl [Value.ref a] ++ List.replicate (maxL - (lg_sl [Value.ref a]).length) Slot.unset).toArray = ls at hlv ⊢
  have hlv2 : lv_has ls maxL [(0, .ref a)] := hlv
  refine lv_aload_n (x := a) C.1 C.2.1 hd0 rfl (lv_at hlv2 0 rfl) ?_
  refine W.objInit C.1 C.2.1 hown (C.ok hlk) (C.ok (dWd_of (i := 30) (by decide +kernel) rfl)) (C.ok (dWd_of (i := 31) (by decide +kernel) rfl)) rfl (hlv2.1.trans hml.symm) rfl hd1 hf ?_ ?_
  · show 2 * 0 + 0 + 12 ≤ rm.locals
    omega
  · refine body p e s m _ below meth c ls C hml hlv2 ((name_of_methodNamed B.named B.method).1.trans hy) B.returns B.notSynchronized hz hza ⟨hz, fun b e hb => ?_⟩
    unfold f1 at hb
    split at hb
    · rename_i q
      cases hb
      rw [q]; exact hat
    · cases hb
section CEND
variable {p : Program} {l : Launch} {e : Env} {R : Room} {s : State} {m : MethodId} {args : Array Value} {below : List Frame} {meth : Method} {c : Code} {H : Heap} {locs : List Loc} {cells slots mc ms : Nat} {cc : ByteArray} {pc : Nat} {ls : Array Slot} {Ts : List Cond} {o n n0 a k : Nat} {f g : Nat → Option va_E} {D : va_G} {ad : DKey → Nat} {ca : Nat → ClassId} {fm : Value} {xs : Nat → Int32} {SL z0 : Nat}
theorem cEnd (C : Cx p s m args c cc o Ts D ad ca fm xs SL (fun q => z0 ≤ q)) (hr : meth.sig.returnType = none) (hlocks : meth.locks = false) (hB : BW D n f H) (hS : va_S (cA a n0) s.heap H locs) (hn : n = n0 + k) (hg : ∀ b e, g b = some e → f b = some e) (hc : cells = mc) (hs : slots = ms) (hdg : decode cc pc = .ok (.return_, 1)) : W p l e R s m args below meth c H locs cells slots (MQ below (cPost D a n0 k g) args s mc ms (cA a n0)) (F0 m pc ls []) := by
  subst hc hs hn
  exact W.vret C.1 C.2.1 hr (fun t ht hW => ⟨⟨(), rfl, trivial, by show BW D _ g t.heap; rw [ht]; exact hB.sub hg⟩, hS.F ht⟩) hS.2.2 hdg hlocks
end CEND
def rmL : Room := { frames := 1, cells := 0, slots := 0, locals := 20 }
theorem c_Disk (l : Launch) {D : va_G} {ad : DKey → Nat} {ca : Nat → ClassId} {fm : Value} {xs : Nat → Int32} {SL z0 a n0 : Nat} : cMet l D ad ca fm xs SL z0 ⟨"DiskDrawer$Disk", "<init>", "()V"⟩ prog_2_method_1_code 1 rmL a n0 0 (.inr (1, bls 1)) (f1 a (.inr (1, bls 1))) :=
  cMet_of (o := 1) (idx := 3) (by decide) rfl rfl (Nat.le_refl _) (dWd_of (i := 48) (by decide +kernel) rfl) (by decide +kernel) (by decide +kernel) (by decide) (by decide) fun p e s m args below meth c ls C hml hlv hin hr hlk hz hza hB =>
    cEnd C hr hlk hB va_S.rf rfl (fun b e h => h) rfl rfl (by decide +kernel)
theorem c_Read (l : Launch) {D : va_G} {ad : DKey → Nat} {ca : Nat → ClassId} {fm : Value} {xs : Nat → Int32} {SL z0 a n0 : Nat} : cMet l D ad ca fm xs SL z0 ⟨"DiskDrawer$Read", "<init>", "()V"⟩ prog_5_method_1_code 1 rmL a n0 0 (.inr (2, bls 2)) (f1 a (.inr (2, bls 2))) :=
  cMet_of (o := 2) (idx := 1) (by decide) rfl rfl (Nat.le_refl _) (dWd_of (i := 84) (by decide +kernel) rfl) (by decide +kernel) (by decide +kernel) (by decide) (by decide) fun p e s m args below meth c ls C hml hlv hin hr hlk hz hza hB =>
    cEnd C hr hlk hB va_S.rf rfl (fun b e h => h) rfl rfl (by decide +kernel)
