/-! the class: commands and programs -/
theorem up_k (h : DH) (κ : DKey) (k : Nat) (x : Int32) : (up1 h κ k x).1 κ k = x := by rw [up1_1, if_pos ⟨rfl, rfl⟩]
theorem lml_le (T : Nat → Int32) (t : Nat) : ∀ cs a, a ≤ t → a + lml T t cs a ≤ t := by
  intro cs
  induction cs with
  | nil => intro a h; exact h
  | cons c cs ih =>
    intro a h
    unfold lml
    by_cases z : a < t ∧ T a = c
    · rw [if_pos z]
      have := ih (a + 1) (by omega)
      omega
    · rw [if_neg z]
      omega
theorem argP_le {T : Nat → Int32} {t lo hi a : Nat} (ha : a ≤ t) (hlo : lo ≤ 1) (hhi : 9 ≤ hi) : a ≤ (argP T t lo hi a).1 ∧ (argP T t lo hi a).1 ≤ t ∧ ∀ x, (argP T t lo hi a).2 = some x → lo ≤ x ∧ x ≤ hi ∧ a + 2 ≤ (argP T t lo hi a).1 := by
  rw [argP_num]
  by_cases z : a < t ∧ T a = 32
  · rw [if_pos z]
    unfold numR
    cases hd : dgt T t (a + 1) with
    | none => exact ⟨by show a ≤ a + 1; omega, by show a + 1 ≤ t; omega, fun x e => (by cases e)⟩
    | some d =>
      dsimp only
      obtain ⟨d1, d2, _, _⟩ := dgt_s hd
      by_cases z2 : lo ≤ d
      · rw [if_pos z2]
        have := numP_le T t hi 2 d (a + 1 + 1) (by omega) (Or.inl d2)
        dsimp only
        exact ⟨by omega, by omega, fun x e => (by cases e; omega)⟩
      · rw [if_neg z2]
        exact ⟨by show a ≤ a + 1; omega, by show a + 1 ≤ t; omega, fun x e => (by cases e)⟩
  · rw [if_neg z]
    exact ⟨Nat.le_refl _, ha, fun x e => (by cases e)⟩
/-- a command that the text may hold -/
def cmdV (c : Nat × Nat × Nat) : Prop := (c.1 = 0 ∧ c.2.1 < 12 ∧ 1 ≤ c.2.2 ∧ c.2.2 ≤ 50) ∨ (c.1 = 1 ∧ c.2.1 < 12) ∨ (c.1 = 2 ∧ 1 ≤ c.2.1 ∧ c.2.1 ≤ 200) ∨ c.1 = 3
theorem kq_lt (T : Nat → Int32) (t a : Nat) : kq T t a < 4 := by
  unfold kq
  split
  · split <;> decide
  · split <;> decide
theorem cmdP_le {T : Nat → Int32} {t a : Nat} (ha : a ≤ t) : a ≤ (cmdP T t a).1 ∧ (cmdP T t a).1 ≤ t ∧ ∀ c, (cmdP T t a).2 = some c → a + 4 ≤ (cmdP T t a).1 ∧ cmdV c := by
  have hk := kq_lt T t a
  unfold cmdP
  generalize kq T t a = K at hk ⊢
  have hl := lml_le T t (wd K) a ha
  by_cases z : lml T t (wd K) a < (wd K).length
  · rw [if_pos z]
    exact ⟨by show a ≤ a + _; omega, hl, fun c e => (by cases e)⟩
  · rw [if_neg z]
    have wl : 3 ≤ (wd K).length ∧ (K = 3 → 4 ≤ (wd K).length) := by
      have : K = 0 ∨ K = 1 ∨ K = 2 ∨ K = 3 := by omega
      rcases this with rfl | rfl | rfl | rfl <;> decide
    have hb : a + (wd K).length ≤ a + lml T t (wd K) a := by omega
    generalize a + lml T t (wd K) a = b at hl hb ⊢
    unfold argsP
    by_cases z3 : K = 3
    · rw [if_pos z3]
      have := wl.2 z3
      dsimp only
      exact ⟨by omega, hl, fun c e => by
        cases e
        exact ⟨by omega, Or.inr (Or.inr (Or.inr rfl))⟩⟩
    · rw [if_neg z3]
      have q1 := argP_le (T := T) (lo := if K = 2 then 1 else 0) (hi := if K = 2 then 200 else 11) hl (by split <;> decide) (by split <;> decide)
      have wl1 := wl.1
      generalize argP T t (if K = 2 then 1 else 0) (if K = 2 then 200 else 11) b = r at q1 ⊢
      obtain ⟨e, o⟩ := r
      obtain ⟨g1, g2, g3⟩ := q1
      dsimp only at g1 g2 g3
      cases o with
      | none =>
        dsimp only
        exact ⟨by omega, g2, fun c h => (by cases h)⟩
      | some x =>
        obtain ⟨x1, x2, x3⟩ := g3 x rfl
        dsimp only
        by_cases z0 : K = 0
        · rw [if_pos z0]
          rw [if_neg (show ¬ K = 2 by omega)] at x1 x2
          have q2 := argP_le (T := T) (lo := 1) (hi := 50) g2 (by decide) (by decide)
          generalize argP T t 1 50 e = r2 at q2 ⊢
          obtain ⟨e2, o2⟩ := r2
          obtain ⟨u1, u2, u3⟩ := q2
          dsimp only at u1 u2 u3
          cases o2 with
          | none =>
            dsimp only
            exact ⟨by omega, u2, fun c h => (by cases h)⟩
          | some y =>
            obtain ⟨y1, y2, y3⟩ := u3 y rfl
            dsimp only
            exact ⟨by omega, u2, fun c h => by
              cases h
              exact ⟨by omega, Or.inl ⟨rfl, by show x < 12; omega, y1, y2⟩⟩⟩
        · rw [if_neg z0]
          dsimp only
          refine ⟨by omega, g2, fun c h => ?_⟩
          cases h
          refine ⟨by omega, ?_⟩
          have hc : K = 1 ∨ K = 2 := by omega
          rcases hc with rfl | rfl
          · exact Or.inr (Or.inl ⟨rfl, by show x < 12; rw [if_neg (by decide)] at x2; omega⟩)
          · exact Or.inr (Or.inr (Or.inl ⟨rfl, by rw [if_pos rfl] at x1; exact x1, by rw [if_pos rfl] at x2; exact x2⟩))
/-- the class's program, below p, is the same -/
def CF (p : Nat) (h h' : DH) : Prop := (∀ κ : DKey, κ ≠ (9, 0, 0) → κ ≠ (11, 0, 0) → κ ≠ (12, 0, 0) → κ ≠ (13, 0, 0) → h'.1 κ = h.1 κ) ∧ (∀ k, k ≠ 5 → k ≠ 6 → h'.1 (9, 0, 0) k = h.1 (9, 0, 0) k) ∧ (∀ j, j < p → h'.1 (11, 0, 0) j = h.1 (11, 0, 0) j ∧ h'.1 (12, 0, 0) j = h.1 (12, 0, 0) j ∧ h'.1 (13, 0, 0) j = h.1 (13, 0, 0) j) ∧ h'.2 = h.2
theorem CF.rf {p : Nat} {h : DH} : CF p h h := ⟨fun _ _ _ _ _ => rfl, fun _ _ _ => rfl, fun _ _ => ⟨rfl, rfl, rfl⟩, rfl⟩
theorem CF.tr {p : Nat} {h h' h'' : DH} (a : CF p h h') (b : CF p h' h'') : CF p h h'' := ⟨fun κ h1 h2 h3 h4 => (b.1 κ h1 h2 h3 h4).trans (a.1 κ h1 h2 h3 h4), fun k h1 h2 => (b.2.1 k h1 h2).trans (a.2.1 k h1 h2), fun j hj => ⟨(b.2.2.1 j hj).1.trans (a.2.2.1 j hj).1, (b.2.2.1 j hj).2.1.trans (a.2.2.1 j hj).2.1, (b.2.2.1 j hj).2.2.trans (a.2.2.1 j hj).2.2⟩, b.2.2.2.trans a.2.2.2⟩
theorem CF.dn {p q : Nat} {h h' : DH} (a : CF p h h') (hq : q ≤ p) : CF q h h' := ⟨a.1, a.2.1, fun j hj => a.2.2.1 j (by omega), a.2.2.2⟩
theorem CF.at6 {p : Nat} {h h' : DH} (a : CF p h h') {k : Nat} (hk : k = 5 ∨ k = 6) {x : Int32} : CF p h (up1 h' (9, 0, 0) k x) := ⟨fun κ h1 h2 h3 h4 => (up1_ne _ _ _ h1).trans (a.1 κ h1 h2 h3 h4), fun j h5 h6 => by
  rw [up1_1, if_neg (fun t => by omega)]
  exact a.2.1 j h5 h6, fun j hj => by
  rw [up1_ne _ _ _ (by simp), up1_ne _ _ _ (by simp), up1_ne _ _ _ (by simp)]
  exact a.2.2.1 j hj, a.2.2.2⟩
theorem CF.ar {p : Nat} {h h' : DH} (a : CF p h h') {κ : DKey} (hκ : κ = (11, 0, 0) ∨ κ = (12, 0, 0) ∨ κ = (13, 0, 0)) {x : Int32} : CF p h (up1 h' κ p x) := ⟨fun κ' h1 h2 h3 h4 => by
  rw [up1_ne _ _ _ (fun e => by rcases hκ with u | u | u <;> rw [u] at e <;> contradiction)]
  exact a.1 κ' h1 h2 h3 h4, fun j h5 h6 => by
  rw [up1_ne _ _ _ (fun e => by rcases hκ with u | u | u <;> rw [u] at e <;> simp at e)]
  exact a.2.1 j h5 h6, fun j hj => by
  rw [up1_1, if_neg (fun t => by omega), up1_1, if_neg (fun t => by omega), up1_1, if_neg (fun t => by omega)]
  exact a.2.2.1 j hj, a.2.2.2⟩
theorem CT.ar {h : DH} {T : Nat → Int32} {t a : Nat} (c : CT h T t a) {κ : DKey} (hκ : κ = (11, 0, 0) ∨ κ = (12, 0, 0) ∨ κ = (13, 0, 0)) {p : Nat} {x : Int32} : CT (up1 h κ p x) T t a := by
  have n9 : ((9, 0, 0) : DKey) ≠ κ := fun e => by rcases hκ with u | u | u <;> rw [u] at e <;> simp at e
  have n10 : ((10, 0, 0) : DKey) ≠ κ := fun e => by rcases hκ with u | u | u <;> rw [u] at e <;> simp at e
  refine ⟨by rw [up1_ne _ _ _ n9]; exact c.1, fun k hk => by rw [up1_ne _ _ _ n10]; exact c.2.1 k hk, by rw [up1_ne _ _ _ n9]; exact c.2.2.1, c.2.2.2⟩
def oB : Option Nat → Int32
  | none => 0
  | some _ => 1
def fstH (h : DH) (κ : DKey) (p : Nat) (r : Nat × Option Nat) : DH := up1 (up1 h (9, 0, 0) 6 (nI r.1)) κ p (oI (-1) r.2)
theorem nI_m1 {k : Nat} (hk : k < 2 ^ 31) : ¬ nI k = -1 := fun u => by
  have := nI_n0 hk
  rw [u] at this
  exact this (by decide)
theorem c_first (n p lo hi : Nat) (h : DH) {T : Nat → Int32} {t a : Nat} (hc : CT h T t a) (ht : t ≤ 80) (hat : a ≤ t) (hlo : lo ≤ 1) (h9 : 9 ≤ hi) (hhi : hi ≤ 200) (hp : p < 16) : dEx (n + 4) 60 [.inr (9, 0, 0), .inl (nI p), .inl (nI lo), .inl (nI hi)] h (some (.inl (oB (argP T t lo hi a).2)), fstH h (12, 0, 0) p (argP T t lo hi a)) := by
  have ha := c_arg n lo hi h hc ht hhi hlo
  have hl := argP_le (T := T) hat hlo h9
  generalize argP T t lo hi a = r at ha hl ⊢
  obtain ⟨b, o⟩ := r
  refine dx_60 ?_
  refine Runs.go 6 rfl trivial ?_
  refine Runs.cal rfl ha ?_
  refine Runs.go 7 rfl ⟨⟨trivial, (i_in hp (by decide))⟩, (i_in hp (by decide))⟩ ?_
  rw [i_cl (show p < 2 ^ 31 by omega), up_k]
  cases o with
  | none =>
    refine Runs.ifT rfl ?_
    refine Runs.go 1 rfl trivial ?_
    exact Runs.fin rfl (Or.inl rfl)
  | some x =>
    have := hl.2.2 x rfl
    refine Runs.ifF (nI_m1 (show x < 2 ^ 31 by omega)) ?_
    refine Runs.go 2 rfl trivial ?_
    exact Runs.fin rfl (Or.inr rfl)
theorem c_second (n p lo hi : Nat) (h : DH) {T : Nat → Int32} {t a : Nat} (hc : CT h T t a) (ht : t ≤ 80) (hat : a ≤ t) (hlo : lo ≤ 1) (h9 : 9 ≤ hi) (hhi : hi ≤ 200) (hp : p < 16) : dEx (n + 4) 65 [.inr (9, 0, 0), .inl (nI p), .inl (nI lo), .inl (nI hi)] h (some (.inl (oB (argP T t lo hi a).2)), fstH h (13, 0, 0) p (argP T t lo hi a)) := by
  have ha := c_arg n lo hi h hc ht hhi hlo
  have hl := argP_le (T := T) hat hlo h9
  generalize argP T t lo hi a = r at ha hl ⊢
  obtain ⟨b, o⟩ := r
  refine dx_65 ?_
  refine Runs.go 6 rfl trivial ?_
  refine Runs.cal rfl ha ?_
  refine Runs.go 7 rfl ⟨⟨trivial, (i_in hp (by decide))⟩, (i_in hp (by decide))⟩ ?_
  rw [i_cl (show p < 2 ^ 31 by omega), up_k]
  cases o with
  | none =>
    refine Runs.ifT rfl ?_
    refine Runs.go 1 rfl trivial ?_
    exact Runs.fin rfl (Or.inl rfl)
  | some x =>
    have := hl.2.2 x rfl
    refine Runs.ifF (nI_m1 (show x < 2 ^ 31 by omega)) ?_
    refine Runs.go 2 rfl trivial ?_
    exact Runs.fin rfl (Or.inr rfl)
def entry (h : DH) (q : Nat) (c : Nat × Nat × Nat) : Prop := h.1 (11, 0, 0) q = nI c.1 ∧ (c.1 < 3 → h.1 (12, 0, 0) q = nI c.2.1) ∧ (c.1 = 0 → h.1 (13, 0, 0) q = nI c.2.2)
def clsOk (h : DH) (b : Int32) (p : Nat) (r : Nat × Option (Nat × Nat × Nat)) : Prop := h.1 (9, 0, 0) 6 = nI r.1 ∧ match r.2 with
  | none => b = 0
  | some c => b = 1 ∧ entry h p c
theorem fst_6 (h : DH) {κ : DKey} (hκ : κ = (11, 0, 0) ∨ κ = (12, 0, 0) ∨ κ = (13, 0, 0)) (p : Nat) (r : Nat × Option Nat) : (fstH h κ p r).1 (9, 0, 0) 6 = nI r.1 ∧ (fstH h κ p r).1 (9, 0, 0) 5 = h.1 (9, 0, 0) 5 ∧ (fstH h κ p r).1 κ p = oI (-1) r.2 ∧ ∀ κ' : DKey, κ' ≠ κ → κ' ≠ (9, 0, 0) → (fstH h κ p r).1 κ' = h.1 κ' := by
  have n9 : ((9, 0, 0) : DKey) ≠ κ := fun e => by rcases hκ with u | u | u <;> rw [u] at e <;> simp at e
  unfold fstH
  refine ⟨?_, ?_, ?_, fun κ' h1 h2 => ?_⟩
  · rw [up1_ne _ _ _ n9, up1_1, if_pos ⟨rfl, rfl⟩]
  · rw [up1_ne _ _ _ n9, up1_1, if_neg (fun t => absurd t.2 (by decide))]
  · rw [up1_1, if_pos ⟨rfl, rfl⟩]
  · rw [up1_ne _ _ _ h1, up1_ne _ _ _ h2]
theorem CF.fst {p : Nat} {h h' : DH} (a : CF p h h') {κ : DKey} (hκ : κ = (11, 0, 0) ∨ κ = (12, 0, 0) ∨ κ = (13, 0, 0)) (r : Nat × Option Nat) : CF p h (fstH h' κ p r) := (a.at6 (Or.inr rfl)).ar hκ
theorem c_takeCmd (n p : Nat) (h : DH) {T : Nat → Int32} {t a : Nat} (hc : CT h T t a) (ht : t ≤ 80) (hat : a ≤ t) (hp : p < 16) : ∃ (h' : DH) (b : Int32), dEx (n + 7) 48 [.inr (9, 0, 0), .inl (nI p)] h (some (.inl b), h') ∧ CF p h h' ∧ h'.1 (9, 0, 0) 5 = h.1 (9, 0, 0) 5 ∧ clsOk h' b p (cmdP T t a) := by
  have hw := c_word n h hc ht
  obtain ⟨w1, w2, w3⟩ := kw T t a
  have hkq := kq_lt T t a
  have hll := lml_le T t (wd (kq T t a)) a hat
  have hwl := wd_len T t (wd (kq T t a)) a
  rw [w1] at hw
  rw [show lw T t a (kq T t a) = lml T t (wd (kq T t a)) a from rfl] at hw w1 w2 w3
  unfold cmdP
  generalize hK : kq T t a = K at *
  generalize hL : lml T t (wd K) a = L at *
  have hC0 : CT (up1 h (9, 0, 0) 6 (nI (a + L))) T t (a + L) := hc.at (by omega)
  have head : ∀ (v : Int32) (r : DRes), dEx (n + 6) 49 [.inr (9, 0, 0)] h (some (.inl v), up1 h (9, 0, 0) 6 (nI (a + L))) → Runs dT_48 (dEx (n + 6)) (dtsw 97 0 [48, 76, 85, 95] v, [some (.inr (9, 0, 0)), some (.inl (nI p))], [], up1 (up1 h (9, 0, 0) 6 (nI (a + L))) (11, 0, 0) p v) r → dEx (n + 7) 48 [.inr (9, 0, 0), .inl (nI p)] h r := by
    intro v r hv hr
    refine dx_48 ?_
    refine Runs.go 4 rfl trivial ?_
    refine Runs.cal rfl hv ?_
    refine Runs.go 6 rfl ⟨⟨trivial, (i_in hp (by decide))⟩, (i_in hp (by decide))⟩ ?_
    rw [i_cl (show p < 2 ^ 31 by omega), up_k]
    exact hr
  by_cases z : L < (wd K).length
  · rw [if_pos z]
    rw [if_neg (show ¬ L = (wd (ckw T t a 3)).length from fun u => w3 z (w1.trans u))] at hw
    refine ⟨up1 (up1 h (9, 0, 0) 6 (nI (a + L))) (11, 0, 0) p (-1), 0, head (-1) _ hw ?_, (CF.rf.at6 (Or.inr rfl)).ar (Or.inl rfl), by rw [up1_ne _ _ _ (by simp), up1_1, if_neg (fun t => absurd t.2 (by decide))], ?_⟩
    · refine Runs.sw1 (fun c => absurd c (by decide)) (fun _ => ?_)
      refine Runs.sw1 (fun c => absurd c (by decide)) (fun _ => ?_)
      refine Runs.sw1 (fun c => absurd c (by decide)) (fun _ => ?_)
      refine Runs.sw1 (fun c => absurd c (by decide)) (fun _ => ?_)
      refine Runs.sw0 ?_
      refine Runs.go 1 rfl trivial ?_
      exact Runs.fin rfl (Or.inl rfl)
    · exact ⟨by rw [up1_ne _ _ _ (by simp), up1_1, if_pos ⟨rfl, rfl⟩], rfl⟩
  · rw [if_neg z]
    have eL : L = (wd K).length := by omega
    have eK := w2 eL
    rw [eK, if_pos eL] at hw
    have hC1 := hC0.ar (κ := (11, 0, 0)) (Or.inl rfl) (p := p) (x := nI K)
    have F1 : CF p h (up1 (up1 h (9, 0, 0) 6 (nI (a + L))) (11, 0, 0) p (nI K)) := (CF.rf.at6 (Or.inr rfl)).ar (Or.inl rfl)
    have f5 : (up1 (up1 h (9, 0, 0) 6 (nI (a + L))) (11, 0, 0) p (nI K)).1 (9, 0, 0) 5 = h.1 (9, 0, 0) 5 := by rw [up1_ne _ _ _ (by simp), up1_1, if_neg (fun t => absurd t.2 (by decide))]
    have f11 : (up1 (up1 h (9, 0, 0) 6 (nI (a + L))) (11, 0, 0) p (nI K)).1 (11, 0, 0) p = nI K := by rw [up1_1, if_pos ⟨rfl, rfl⟩]
    have hd := fun r => head (nI K) r hw
    generalize up1 (up1 h (9, 0, 0) 6 (nI (a + L))) (11, 0, 0) p (nI K) = g at hC1 F1 f5 f11 hd
    have hK4 : K = 0 ∨ K = 1 ∨ K = 2 ∨ K = 3 := by omega
    have q11 : ((11, 0, 0) : DKey) ≠ (12, 0, 0) := by decide
    unfold argsP
    rcases hK4 with e | e | e | e
    · subst e
      rw [if_neg (by decide), show (if 0 = 2 then 1 else 0) = 0 from rfl, show (if 0 = 2 then 200 else 11) = 11 from rfl]
      have hf := c_first (n + 2) p 0 11 g hC1 ht hll (by decide) (by decide) (by decide) hp
      obtain ⟨s6, s5, sp, so⟩ := fst_6 g (κ := (12, 0, 0)) (Or.inr (Or.inl rfl)) p (argP T t 0 11 (a + L))
      have F2 := F1.fst (κ := (12, 0, 0)) (Or.inr (Or.inl rfl)) (argP T t 0 11 (a + L))
      have hl := argP_le (T := T) (lo := 0) (hi := 11) hll (by decide) (by decide)
      have hC2 : CT (fstH g (12, 0, 0) p (argP T t 0 11 (a + L))) T t (argP T t 0 11 (a + L)).1 := (hC1.at (b := (argP T t 0 11 (a + L)).1) (by omega)).ar (Or.inr (Or.inl rfl))
      generalize argP T t 0 11 (a + L) = r at hf s6 s5 sp so F2 hl hC2 ⊢
      obtain ⟨b, o⟩ := r
      cases o with
      | none =>
        refine ⟨_, 0, hd _ ?_, F2, s5.trans f5, s6, rfl⟩
        refine Runs.sw1 (fun _ => ?_) (fun c => absurd rfl c)
        refine Runs.go 4 rfl trivial ?_
        refine Runs.cal rfl hf ?_
        refine Runs.go 1 rfl trivial ?_
        refine Runs.ifT rfl ?_
        refine Runs.go 1 rfl trivial ?_
        exact Runs.fin rfl (Or.inl rfl)
      | some x =>
        dsimp only
        rw [if_pos rfl]
        have sp : (fstH g (12, 0, 0) p (b, some x)).1 (12, 0, 0) p = nI x := sp
        have so11 := congrFun (so (11, 0, 0) (by simp) (by simp)) p
        have hs := c_second (n + 2) p 1 50 (fstH g (12, 0, 0) p (b, some x)) hC2 ht hl.2.1 (by decide) (by decide) (by decide) hp
        obtain ⟨u6, u5, up, uo⟩ := fst_6 (fstH g (12, 0, 0) p (b, some x)) (κ := (13, 0, 0)) (Or.inr (Or.inr rfl)) p (argP T t 1 50 b)
        have F3 := F2.fst (κ := (13, 0, 0)) (Or.inr (Or.inr rfl)) (argP T t 1 50 b)
        generalize fstH g (12, 0, 0) p (b, some x) = g2 at hf s5 sp so11 hs u6 u5 up uo F3
        generalize argP T t 1 50 b = r2 at hs u6 u5 up uo F3 ⊢
        obtain ⟨b2, o2⟩ := r2
        cases o2 with
        | none =>
          refine ⟨_, 0, hd _ ?_, F3, (u5.trans s5).trans f5, u6, rfl⟩
          refine Runs.sw1 (fun _ => ?_) (fun c => absurd rfl c)
          refine Runs.go 4 rfl trivial ?_
          refine Runs.cal rfl hf ?_
          refine Runs.go 1 rfl trivial ?_
          refine Runs.ifF (show ¬ (1 : Int32) = 0 by decide) ?_
          refine Runs.go 4 rfl trivial ?_
          refine Runs.cal rfl hs ?_
          refine Runs.go 1 rfl trivial ?_
          refine Runs.ifT rfl ?_
          refine Runs.go 1 rfl trivial ?_
          exact Runs.fin rfl (Or.inl rfl)
        | some y =>
          refine ⟨_, 1, hd _ ?_, F3, (u5.trans s5).trans f5, u6, rfl, ?_, fun _ => ?_, fun _ => up⟩
          · refine Runs.sw1 (fun _ => ?_) (fun c => absurd rfl c)
            refine Runs.go 4 rfl trivial ?_
            refine Runs.cal rfl hf ?_
            refine Runs.go 1 rfl trivial ?_
            refine Runs.ifF (show ¬ (1 : Int32) = 0 by decide) ?_
            refine Runs.go 4 rfl trivial ?_
            refine Runs.cal rfl hs ?_
            refine Runs.go 1 rfl trivial ?_
            refine Runs.ifF (show ¬ (1 : Int32) = 0 by decide) ?_
            refine Runs.go 2 rfl trivial ?_
            exact Runs.fin rfl (Or.inr rfl)
          · rw [uo (11, 0, 0) (by simp) (by simp), so11]; exact f11
          · rw [uo (12, 0, 0) (by simp) (by simp)]; exact sp
    · subst e
      rw [if_neg (by decide), show (if 1 = 2 then 1 else 0) = 0 from rfl, show (if 1 = 2 then 200 else 11) = 11 from rfl]
      have hf := c_first (n + 2) p 0 11 g hC1 ht hll (by decide) (by decide) (by decide) hp
      obtain ⟨s6, s5, sp, so⟩ := fst_6 g (κ := (12, 0, 0)) (Or.inr (Or.inl rfl)) p (argP T t 0 11 (a + L))
      have F2 := F1.fst (κ := (12, 0, 0)) (Or.inr (Or.inl rfl)) (argP T t 0 11 (a + L))
      generalize argP T t 0 11 (a + L) = r at hf s6 s5 sp so F2 ⊢
      obtain ⟨b, o⟩ := r
      cases o with
      | none =>
        refine ⟨_, 0, hd _ ?_, F2, s5.trans f5, s6, rfl⟩
        refine Runs.sw1 (fun c => absurd c (by decide)) (fun _ => ?_)
        refine Runs.sw1 (fun _ => ?_) (fun c => absurd rfl c)
        refine Runs.go 4 rfl trivial ?_
        refine Runs.cal rfl hf ?_
        exact Runs.fin rfl (Or.inl rfl)
      | some x =>
        dsimp only
        rw [if_neg (by decide)]
        refine ⟨_, 1, hd _ ?_, F2, s5.trans f5, s6, rfl, ?_, fun _ => sp, fun c => absurd (show (1 : Nat) = 0 from c) (by decide)⟩
        · refine Runs.sw1 (fun c => absurd c (by decide)) (fun _ => ?_)
          refine Runs.sw1 (fun _ => ?_) (fun c => absurd rfl c)
          refine Runs.go 4 rfl trivial ?_
          refine Runs.cal rfl hf ?_
          exact Runs.fin rfl (Or.inr rfl)
        · rw [so (11, 0, 0) (by simp) (by simp)]; exact f11
    · subst e
      rw [if_neg (by decide), show (if 2 = 2 then 1 else 0) = 1 from rfl, show (if 2 = 2 then 200 else 11) = 200 from rfl]
      have hf := c_first (n + 2) p 1 200 g hC1 ht hll (by decide) (by decide) (by decide) hp
      obtain ⟨s6, s5, sp, so⟩ := fst_6 g (κ := (12, 0, 0)) (Or.inr (Or.inl rfl)) p (argP T t 1 200 (a + L))
      have F2 := F1.fst (κ := (12, 0, 0)) (Or.inr (Or.inl rfl)) (argP T t 1 200 (a + L))
      generalize argP T t 1 200 (a + L) = r at hf s6 s5 sp so F2 ⊢
      obtain ⟨b, o⟩ := r
      cases o with
      | none =>
        refine ⟨_, 0, hd _ ?_, F2, s5.trans f5, s6, rfl⟩
        refine Runs.sw1 (fun c => absurd c (by decide)) (fun _ => ?_)
        refine Runs.sw1 (fun c => absurd c (by decide)) (fun _ => ?_)
        refine Runs.sw1 (fun _ => ?_) (fun c => absurd rfl c)
        refine Runs.go 4 rfl trivial ?_
        refine Runs.cal rfl hf ?_
        exact Runs.fin rfl (Or.inl rfl)
      | some x =>
        dsimp only
        rw [if_neg (by decide)]
        refine ⟨_, 1, hd _ ?_, F2, s5.trans f5, s6, rfl, ?_, fun _ => sp, fun c => absurd (show (2 : Nat) = 0 from c) (by decide)⟩
        · refine Runs.sw1 (fun c => absurd c (by decide)) (fun _ => ?_)
          refine Runs.sw1 (fun c => absurd c (by decide)) (fun _ => ?_)
          refine Runs.sw1 (fun _ => ?_) (fun c => absurd rfl c)
          refine Runs.go 4 rfl trivial ?_
          refine Runs.cal rfl hf ?_
          exact Runs.fin rfl (Or.inr rfl)
        · rw [so (11, 0, 0) (by simp) (by simp)]; exact f11
    · subst e
      rw [if_pos rfl]
      refine ⟨g, 1, hd _ ?_, F1, f5, hC1.2.2.1, rfl, f11, fun c => absurd c (by decide), fun c => absurd c (by decide)⟩
      refine Runs.sw1 (fun c => absurd c (by decide)) (fun _ => ?_)
      refine Runs.sw1 (fun c => absurd c (by decide)) (fun _ => ?_)
      refine Runs.sw1 (fun c => absurd c (by decide)) (fun _ => ?_)
      refine Runs.sw1 (fun _ => ?_) (fun c => absurd rfl c)
      refine Runs.go 1 rfl trivial ?_
      exact Runs.fin rfl (Or.inr rfl)
