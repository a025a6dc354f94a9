/-! the contract of every method, out of a run of its table -/
variable {ad : DKey → Nat}
theorem dlp_args {ad : DKey → Nat} {fm : Value} (hf : dFm fm) : ∀ (as : List DV) (b n : Nat) (q : Nat × Value), q ∈ dlp ad fm b (as.map some ++ List.replicate n none) → q ∈ lv_args b (as.map (dval ad fm)) := by
  intro as
  induction as with
  | nil =>
    intro b n q h
    exfalso
    induction n generalizing b with
    | zero => cases h
    | succ n ih => exact ih (b + 1) (by simpa [List.replicate_succ, dlp] using h)
  | cons v as ih =>
    intro b n q h
    rcases List.mem_cons.mp h with h | h
    · exact List.mem_cons.mpr (Or.inl h)
    · refine List.mem_cons.mpr (Or.inr ?_)
      show q ∈ lv_args (if (dval ad fm v).category = 2 then b + 2 else b + 1) _
      rw [if_neg (by rw [dval_cat hf]; decide)]
      exact ih (b + 1) n q h
theorem dsl_len {ad : DKey → Nat} {fm : Value} (hf : dFm fm) : ∀ (as : List DV), (lg_sl (as.map (dval ad fm))).length = as.length := by
  intro as
  induction as with
  | nil => rfl
  | cons v as ih =>
    show (List.flatMap _ (_ :: _)).length = _
    rw [List.flatMap_cons, List.length_append, List.length_cons]
    have : (if (dval ad fm v).category = 2 then [Slot.val (dval ad fm v), Slot.second] else [Slot.val (dval ad fm v)]).length = 1 := by
      rw [if_neg (by rw [dval_cat hf]; decide)]
      rfl
    rw [this]
    have ih' : (List.flatMap (fun v : Value => if v.category = 2 then [Slot.val v, Slot.second] else [Slot.val v]) (as.map (dval ad fm))).length = as.length := ih
    rw [ih']
    omega
theorem dOkL_init {as : List DV} {n : Nat} (h : ∀ v ∈ as, okV ad v = true) : dOkL ad (as.map some ++ List.replicate n none) := by
  induction as with
  | nil =>
    intro k v hk
    exfalso
    induction n generalizing k with
    | zero => cases hk
    | succ n ih =>
      cases k with
      | zero => cases hk
      | succ k => exact ih k hk
  | cons a as ih =>
    intro k v hk
    cases k with
    | zero => cases hk; exact h _ List.mem_cons_self
    | succ k => exact ih (fun v hv => h v (List.mem_cons_of_mem _ hv)) k v hk
theorem denc_ret {o : Nat} {rt : Option FieldType} {pc len a b nx k : Nat} {v : Int32} {ts : List Nat} {i : Instr} (h : denc o rt pc i len = some (k, a, b, nx, v, ts)) :
    (k = 36 → i = .ireturn ∧ len = 1 ∧ rt = some .int) ∧ (k = 37 → i = .return_ ∧ len = 1) ∧ (k = 42 → i = .ireturn ∧ len = 1 ∧ rt = some .boolean) := by
  unfold denc at h
  split at h
  all_goals first
    | (cases h; refine ⟨?_, ?_, ?_⟩ <;> intro z <;> first | (cases z; done) | exact ⟨rfl, rfl⟩)
    | (unfold dldc at h; split at h <;> cases h <;> (refine ⟨?_, ?_, ?_⟩ <;> intro z <;> cases z))
    | (unfold dgst at h; split at h <;> cases h <;> (refine ⟨?_, ?_, ?_⟩ <;> intro z <;> cases z))
    | (repeat' split at h
       all_goals first
         | (cases h; refine ⟨?_, ?_, ?_⟩ <;> intro z <;> first | (cases z; done) | exact ⟨rfl, rfl, rfl⟩)
         | (simp only [cond] at h
            repeat' split at h
            all_goals first | (cases h; refine ⟨?_, ?_, ?_⟩ <;> intro z <;> cases z) | cases h)
         | cases h)
    | (simp only [cond] at h
       repeat' split at h
       all_goals first | (cases h; refine ⟨?_, ?_, ?_⟩ <;> intro z <;> cases z) | cases h)
/-- which answers a table gives: nothing only where the method has no answer -/
def drtOK (q : DM) : Bool := q.2.2.2.2.2.all fun o => match o with
  | some (37, _) => decide (q.2.2.2.1 = none)
  | _ => true
theorem dret37 : dms.all drtOK = true := by decide +kernel
theorem dop_mem {T : DTbl} {pc : Nat} {x : DOp} (hq : dop T pc = some x) : some x ∈ T := by
  have hq' : T.getD pc none = some x := hq
  rw [List.getD_eq_getElem?_getD] at hq'
  cases hz : T[pc]? with
  | none => rw [hz] at hq'; cases hq'
  | some y =>
    rw [hz] at hq'
    have : y = some x := hq'
    rw [← this]
    exact List.mem_of_getElem? hz
theorem dret37_at {q : DM} (h : drtOK q = true) {pc : Nat} {x : Nat × Nat × Nat × Int32 × List Nat} (hop : dop q.2.2.2.2.2 pc = some (37, x)) : q.2.2.2.1 = none := by
  have := List.all_eq_true.mp h _ (dop_mem hop)
  exact of_decide_eq_true this
set_option maxHeartbeats 1000000 in
theorem d_met (l : Launch) {D : va_G} {ad : DKey → Nat} {ca : Nat → ClassId} {fm : Value} {xs : Nat → Int32} {SL : Nat} (hi : dInj ad) (hf : dFm fm) : ∀ (d mid : Nat) (as : List DV) (h : DH) (r : DRes) (q : DM), dEx d mid as h r → dms[mid]? = some q → dMet l D ad ca fm xs SL d q as h r := by
  intro d
  induction d with
  | zero => intro mid as h r q hx; cases hx
  | succ d ih =>
    intro mid as h r q hx hq
    obtain ⟨q', hq', hlen, n, hrun⟩ := hx
    cases hq.symm.trans hq'
    obtain ⟨hpn, ⟨hmax, hck2⟩, hcls, hck⟩ := dgs q (List.mem_of_getElem? hq)
    unfold dMet
    refine Met.ofW (cc := q.2.1) (maxL := q.2.2.1) (ret := q.2.2.2.1) hpn rfl ?_
    intro p e s m args below meth c s₁ B hml hv
    obtain ⟨rfl, hok, hE, hS⟩ := hv
    have hx := B.exec
    have hb := B.bytes
    have hr := B.returns
    have hts := atoms_spec (ws := Cond.code q.1 q.2.1 q.2.2.1 q.2.2.2.1 :: dWd) B.pre
    have hown : s.vm.findClass (don q.2.2.2.2.1) = some m.cls := by rw [← hcls]; exact findClass_of_methodNamed B.named
    have hlocks := B.notSynchronized
    have hsl := dsl_len (ad := ad) hf as
    have hl := lv_entry (as.map (dval ad fm)) (n := q.2.2.1) (by rw [hsl]; exact hlen)
    rw [lg_entry_eq]
    generalize (lg_sl (as.map (dval ad fm)) ++ List.replicate (q.2.2.1 - (lg_sl (as.map (dval ad fm))).length) Slot.unset).toArray = ls at hl ⊢
    have hloc : dLoc ad fm (as.map some ++ List.replicate (q.2.2.1 - as.length) none) q.2.2.1 ls := ⟨hl.1, hl.2.1, fun z hz => hl.2.2 z (dlp_args hf as 0 _ z hz)⟩
    have hS0 : va_S (dAm ad) s.heap s.heap [] := va_S.rf
    refine d_sound (A := dAm ad) (Ts := Cond.code q.1 q.2.1 q.2.2.1 q.2.2.2.1 :: dWd) (d := d) (K := dEnd q.2.2.2.2.2 r) hx hb hml hown hts (dWd_cons _) hE (fun κ h => ⟨κ, h, rfl⟩) hi hf ⟨Nat.le_refl _, ?_, Nat.le_refl _, Nat.le_refl _⟩ hck hck2 (fun mid as h r q => ih mid as h r q) ?_ n 0 _ [] h hrun s.heap [] ls (by simp; omega) (dOkL_init hok) (fun _ h => by cases h) hloc hS hS0
    · show 40 * d + 40 ≤ 40 * (d + 1)
      omega
    · intro pc L st h H locs ls hK hLl hLo hst hLc hS hS0
      obtain ⟨G, hg, g⟩ := hK
      cases hop : dop q.2.2.2.2.2 pc with
      | none => simp only [dfin, hop] at hg; cases hg
      | some op =>
      obtain ⟨i, len, hd, he⟩ := dchk_at hck hop
      obtain ⟨k, a, b, nx, v, ts⟩ := op
      obtain ⟨r36, r37, r42⟩ := denc_ret he
      have hF : ∀ t : State, t.heap = H → va_F (dAm ad) s t := fun t ht => hS0.F ht
      simp only [dfin, hop] at hg
      split at hg
      · rename_i z; cases z
        obtain ⟨rfl, rfl, e3⟩ := r36 rfl
        split at hg
        · cases hg
          exact W.iret hx hb (by rw [hr]; exact e3) (fun t ht hW => ⟨rfl, fun v hv => by cases hv; rfl, by rw [ht]; exact hS, hF t ht⟩) hS0.2.2 hd
        · cases hg
      · rename_i z; cases z
        obtain ⟨rfl, rfl⟩ := r37 rfl
        split at hg
        · cases hg
          have hr0 : meth.sig.returnType = none := by
            rw [hr]
            have := List.all_eq_true.mp dret37 q (List.mem_of_getElem? hq)
            exact dret37_at this hop
          exact W.vret hx hb hr0 (fun t ht hW => ⟨rfl, fun v hv => (by cases hv), by rw [ht]; exact hS, hF t ht⟩) hS0.2.2 hd
        · cases hg
      · rename_i z; cases z
        obtain ⟨rfl, rfl, e3⟩ := r42 rfl
        split at hg
        · cases hg
          exact W.zret hx hb (by rw [hr]; exact e3) (by rcases g with rfl | rfl <;> rfl) (fun t ht hW => ⟨rfl, fun v hv => by cases hv; rfl, by rw [ht]; exact hS, hF t ht⟩) hS0.2.2 hd
        · cases hg
      · cases hg
