/-! perform: each side -/
def PQ (h h' : DH) : Prop := (∀ κ : DKey, κ ≠ (14, 0, 0) → κ ≠ (15, 0, 0) → κ ≠ (16, 0, 0) → κ ≠ (20, 0, 0) → h'.1 κ = h.1 κ) ∧ (∀ k, k < 9 → h'.1 (14, 0, 0) k = h.1 (14, 0, 0) k) ∧ h'.2 = h.2
theorem PQ.tr {h h' h'' : DH} (a : PQ h h') (b : PQ h' h'') : PQ h h'' := ⟨fun κ h1 h2 h3 h4 => (b.1 κ h1 h2 h3 h4).trans (a.1 κ h1 h2 h3 h4), fun k hk => (b.2.1 k hk).trans (a.2.1 k hk), b.2.2.trans a.2.2⟩
theorem PG.pq {h h' : DH} (a : PG h h') : PQ h h' := ⟨fun κ h1 h2 _ h4 => a.1 κ h1 h2 h4, a.2.1, a.2.2⟩
theorem asd_pq (h : DH) (s s' f : Nat → Int32) : PQ h (hp (asd h s) s' f) := ⟨fun κ _ h2 h3 h4 => (hp_1 _ _ _ h2 h4).trans (asd_o h s κ h3), fun k _ => (hp_14 _ _ _ _).trans (congrFun (asd_o h s (14, 0, 0) (by simp)) k), rfl⟩
theorem know_pq {h h' : DH} (a : PQ h h') (n : Nat) (s : Nat → Int32) : PQ (know h n s) (know h' n s) := by
  have e17 : h'.1 (17, 0, 0) = h.1 (17, 0, 0) := a.1 _ (by simp) (by simp) (by simp) (by simp)
  refine ⟨fun κ h1 h2 h3 h4 => ?_, fun k hk => ?_, a.2.2⟩
  · by_cases z : κ = (17, 0, 0)
    · subst z
      unfold know
      rw [up1_ne _ _ _ (by simp), up1_ne _ _ _ (by simp), ub_s, ub_s, e17]
    · rw [know_1 _ _ _ h1 z, know_1 _ _ _ h1 z]
      exact a.1 κ h1 h2 h3 h4
  · by_cases z : k = 3
    · subst z
      unfold know
      rw [up_at, up_at]
    · rw [know_14 _ _ _ z, know_14 _ _ _ z]
      exact a.2.1 k hk
theorem m_perfF (n : Nat) (h : DH) {T : Nat → Int32} {t e : Nat} (ht : t ≤ 80) (hT : RT h T t) (hn : (prs T t 16 0).2 = some e) : ∃ h', dEx (n + 10) 125 [.inr (14, 0, 0)] h (some (.inl (-100 - nI e)), h') ∧ PF 9 14 h h' := by
  obtain ⟨h', v, k1, k2, k3⟩ := m_go0 n h ht hT
  rw [hn] at k3
  obtain ⟨k3, k4⟩ : h'.1 (14, 0, 0) 10 = 1 ∧ h'.1 (14, 0, 0) 9 = nI e := k3
  refine ⟨h', ?_, k2⟩
  refine dx_125 ?_
  refine Runs.go 2 rfl trivial ?_
  refine Runs.cal rfl k1 ?_
  refine Runs.go 4 rfl trivial ?_
  rw [k3]
  refine Runs.ifF (by decide) ?_
  refine Runs.go 4 rfl trivial ?_
  rw [k4]
  exact Runs.fin rfl trivial
theorem m_perfN (n : Nat) (h : DH) (s f : Nat → Int32) {T : Nat → Int32} {t a : Nat} (ht : t ≤ 80) (hT : RT h T t) (hk : okC s) (h15 : h.1 (15, 0, 0) = s) (h20 : h.1 (20, 0, 0) = f) (h3 : h.1 (14, 0, 0) 3 = nI a) (ha4 : a ≤ 4) (hn : (prs T t 16 0).2 = none) : ∃ s2 f2 : Nat → Int32, (∀ k, k < 244 → s2 k = s k) ∧ ((exM (prs T t 16 0).1 (s, f)).1 < 0 → ∃ h', dEx (n + 10) 125 [.inr (14, 0, 0)] h (some (.inl (-4)), h') ∧ PQ h h' ∧ h'.1 (15, 0, 0) = s2) ∧ ((exM (prs T t 16 0).1 (s, f)).1 = 0 → (exM (prs T t 16 0).1 (s2, f2)).1 = 0 → ∃ h', dEx (n + 10) 125 [.inr (14, 0, 0)] h (some (.inl (nI (prs T t 16 0).1.length)), h') ∧ PQ (know h a s2) h' ∧ h'.1 (15, 0, 0) = (exM (prs T t 16 0).1 (s2, f2)).2.1) := by
  obtain ⟨h1, v1, g1, F1, w1⟩ := m_go0 n h ht hT
  rw [hn] at w1
  have w1 : h1.1 (14, 0, 0) 10 = 0 := w1
  have e1 := hp_eq h1 ((F1.1 _ (by simp)).trans h15) ((F1.1 _ (by simp)).trans h20)
  have pa := m_putAside (n + 8) h1 s f
  rw [e1] at pa
  have Q2 : PQ h (hp (asd h1 s) s f) := (F1.pg (by decide)).pq.tr (asd_pq h1 s s f)
  have T2 : RT (hp (asd h1 s) s f) T t := ⟨(Q2.2.1 7 (by decide)).trans hT.1, (Q2.1 _ (by simp) (by simp) (by simp) (by simp)).trans hT.2⟩
  have i16 : (hp (asd h1 s) s f).1 (16, 0, 0) = cp5 (h1.1 (16, 0, 0)) 0 s 244 := by rw [hp_1 _ _ _ (by simp) (by simp), asd_16]
  have i15 : (hp (asd h1 s) s f).1 (15, 0, 0) = s := hp_s _ _ _
  have i20 : (hp (asd h1 s) s f).1 (20, 0, 0) = f := hp_f _ _ _
  have pa : dEx (n + 9) 132 [.inr (14, 0, 0)] h1 (none, hp (asd h1 s) s f) := pa
  generalize hp (asd h1 s) s f = h2 at pa Q2 T2 i16 i15 i20
  obtain ⟨h3', v3, g3, F3, j15, j20, j14, jv⟩ := m_go1 n h2 s f ht T2 hk i15 i20 hn
  generalize hcs : (prs T t 16 0).1 = cs at *
  generalize exM cs (s, f) = p at j15 j20 j14 jv ⊢
  obtain ⟨w, s1, f1⟩ := p
  dsimp only at j15 j20 j14 jv ⊢
  have e3 := hp_eq h3' j15 j20
  have pb := m_putBack (n + 8) h3' s1 f1
  rw [e3] at pb
  have k16 : h3'.1 (16, 0, 0) = cp5 (h1.1 (16, 0, 0)) 0 s 244 := (F3.1 _ (by simp) (by simp) (by simp)).trans i16
  have es : ∀ k, k < 244 → cp5 s1 0 (h3'.1 (16, 0, 0)) 244 k = s k := fun k hk => by rw [cp5_in hk, k16, cp5_in hk]
  generalize cp5 s1 0 (h3'.1 (16, 0, 0)) 244 = s2 at pb es
  have Q4 : PQ h (hp h3' s2 f1) := (Q2.tr F3.pq).tr (hp_pg _ _ _).pq
  have l14 : (hp h3' s2 f1).1 (14, 0, 0) 14 = w := (hp_14 _ _ _ _).trans j14
  have head : ∀ r, Runs dT_125 (dEx (n + 9)) ((if 0 ≤ w then 45 else 42), [some (.inr (14, 0, 0)), some (.inl v3)], [], hp h3' s2 f1) r → dEx (n + 10) 125 [.inr (14, 0, 0)] h r := by
    intro r hr
    refine dx_125 ?_
    refine Runs.go 2 rfl trivial ?_
    refine Runs.cal rfl g1 ?_
    refine Runs.go 4 rfl trivial ?_
    rw [w1]
    refine Runs.ifT rfl ?_
    refine Runs.go 1 rfl trivial ?_
    refine Runs.calv rfl pa ?_
    refine Runs.go 2 rfl trivial ?_
    refine Runs.cal rfl g3 ?_
    refine Runs.go 2 rfl trivial ?_
    refine Runs.calv rfl pb ?_
    refine Runs.go 3 rfl trivial ?_
    rw [l14]
    exact hr
  refine ⟨s2, f1, es, fun z => ?_, fun z z2 => ?_⟩
  · refine ⟨hp h3' s2 f1, head _ ?_, Q4, hp_s _ _ _⟩
    refine Runs.ifF (fun t => absurd z (Int32.not_lt.mpr t)) ?_
    refine Runs.go 1 rfl trivial ?_
    exact Runs.fin rfl trivial
  · have kn := m_know (n + 8) h3' s2 f1 (a := a) (((Q2.tr F3.pq).2.1 3 (by decide)).trans h3) ha4
    have Q5 : PQ (know h a s2) (hp (know h3' a s2) s2 f1) := (know_pq (Q2.tr F3.pq) a s2).tr (hp_pg _ _ _).pq
    have T5 : RT (hp (know h3' a s2) s2 f1) T t := ⟨by rw [hp_14, know_14 _ _ _ (by decide), (Q2.tr F3.pq).2.1 7 (by decide)]; exact hT.1, by rw [hp_1 _ _ _ (by simp) (by simp), know_1 _ _ _ (by simp) (by simp), (Q2.tr F3.pq).1 _ (by simp) (by simp) (by simp) (by simp)]; exact hT.2⟩
    obtain ⟨h6, v6, g6, F6, o15, o20, o14, ov⟩ := m_go1 n (hp (know h3' a s2) s2 f1) s2 f1 ht T5 (hk.of (es 93 (by decide))) (hp_s _ _ _) (hp_f _ _ _) hn
    rw [hcs] at o15 o20 o14 ov
    have ov := ov z2
    subst ov
    refine ⟨h6, head _ ?_, Q5.tr F6.pq, o15⟩
    refine Runs.ifT (by rw [z]; decide) ?_
    refine Runs.go 1 rfl trivial ?_
    refine Runs.calv rfl kn ?_
    refine Runs.go 2 rfl trivial ?_
    refine Runs.cal rfl g6 ?_
    exact Runs.fin rfl trivial
theorem c_perfF (n : Nat) (h : DH) {T : Nat → Int32} {t e : Nat} (ht : t ≤ 80) (h1 : h.1 (9, 0, 0) 1 = nI t) (h2 : ∀ k, k < t → h.1 (10, 0, 0) k = T k) (hn : (prs T t 16 0).2 = some e) (he : e < 1000) : ∃ h', dEx (n + 9) 46 [.inr (6, 0, 0)] h (some (.inl (-100 - nI e)), h') ∧ CF 0 h h' := by
  obtain ⟨h', k1, k2, k3, k4⟩ := c_find n h ht h1 h2
  rw [hn] at k1
  refine ⟨h', ?_, k2⟩
  refine dx_46 ?_
  refine Runs.go 2 rfl trivial ?_
  refine Runs.cal rfl k1 ?_
  refine Runs.go 4 rfl trivial ?_
  refine Runs.ifF (show ¬ nI e = -1 from nI_m1 (by omega)) ?_
  refine Runs.go 3 rfl trivial ?_
  exact Runs.fin rfl trivial
theorem prs_e {T : Nat → Int32} {t : Nat} : ∀ m a e, a ≤ t → (prs T t m a).2 = some e → e ≤ t := by
  intro m
  induction m with
  | zero => intro a e ha h; cases h; exact ha
  | succ m ih =>
    intro a e ha h
    have hl := cmdP_le (T := T) ha
    cases hc : (cmdP T t a).2 with
    | none => rw [prs_n hc] at h; cases h; exact hl.2.1
    | some c =>
      rw [prs_s hc] at h
      by_cases z : (cmdP T t a).1 < t
      · rw [if_pos z] at h
        by_cases z2 : T (cmdP T t a).1 = 59
        · rw [if_pos z2] at h
          exact ih _ e (by omega) h
        · rw [if_neg z2] at h
          cases h
          omega
      · rw [if_neg z] at h
        cases h
theorem exM_take {cs : List (Nat × Nat × Nat)} {j : Nat} {c : Nat × Nat × Nat} (hj : cs[j]? = some c) : cs.take (j + 1) = cs.take j ++ [c] ∧ cs = cs.take j ++ (c :: cs.drop (j + 1)) := by
  have hlt : j < cs.length := by
    refine Decidable.byContradiction fun u => ?_
    rw [List.getElem?_eq_none (by omega)] at hj
    cases hj
  have e : cs[j] = c := by
    rw [List.getElem?_eq_getElem hlt] at hj
    exact Option.some.inj hj
  refine ⟨?_, ?_⟩
  · rw [List.take_succ_eq_append_getElem hlt, e]
  · have := List.take_append_drop j cs
    rw [List.drop_eq_getElem_cons hlt, e] at this
    exact this.symm
def pfQ (g0 : DH) (a : Nat) (s0 : Nat → Int32) (cs : List (Nat × Nat × Nat)) (r : DRes) : Prop := (∃ g, r = ((some (.inl (nI cs.length)) : Option DV), recH g a) ∧ Fr 0 g0 g ∧ ∀ s f, XR g0 0 s → (exM cs (s, f)).1 = 0 ∧ XR g 0 (exM cs (s, f)).2.1) ∨ (∃ g c', r = ((some (.inl (-4)) : Option DV), cfull g 0 (rr g0 a) c') ∧ Fr 0 g0 g ∧ WF g 0 ∧ SR g (rr g0 a) c' s0 ∧ ∀ s f, XR g0 0 s → (exM cs (s, f)).1 < 0)
theorem c_perfL (n : Nat) (g0 : DH) {a : Nat} {s0 : Nat → Int32} {cs : List (Nat × Nat × Nat)} (ha : g0.1 (7, 0, 0) 1 = nI a) (ha4 : a ≤ 4) (hne : rr g0 a ≠ 0) (hx0 : XR g0 0 s0) (hxa : XR g0 (rr g0 a) s0) (h5 : g0.1 (9, 0, 0) 5 = nI cs.length) (hl : cs.length ≤ 16) (he : ∀ j c, cs[j]? = some c → entry g0 j c) (hv : ∀ c ∈ cs, cmdV c) : ∃ r, pfQ g0 a s0 cs r ∧ Runs dT_46 (dEx (n + 8)) (31, [some (.inr (6, 0, 0)), some (.inl (-1)), some (.inl (nI 0))], [], g0) r := by
  refine Runs.ex cs.length (pfQ g0 a s0 cs) (fun j A => ∃ g, A = (31, [some (.inr (6, 0, 0)), some (.inl (-1)), some (.inl (nI j))], [], g) ∧ Fr 0 g0 g ∧ ∀ s f, XR g0 0 s → (exM (cs.take j) (s, f)).1 = 0 ∧ XR g 0 (exM (cs.take j) (s, f)).2.1) ?_ ?_ _ ⟨g0, rfl, Fr.rf, fun s f hs => ⟨rfl, hs⟩⟩
  · rintro j A hj ⟨g, rfl, F, inv⟩
    have hc : ∃ c, cs[j]? = some c := ⟨cs[j], List.getElem?_eq_getElem hj⟩
    obtain ⟨c, hc⟩ := hc
    obtain ⟨t1, t2⟩ := exM_take hc
    have hcv := hv c (List.mem_of_getElem? hc)
    obtain ⟨n1, n2, n3⟩ := he j c hc
    have G := fun (κ : DKey) (hκ : 5 < κ.1) => show g.1 κ = g0.1 κ from (F.eo hκ).1
    have e5 : g.1 (9, 0, 0) 5 = nI cs.length := by rw [G _ (by simp)]; exact h5
    have e11 : g.1 (11, 0, 0) j = nI c.1 := by rw [G _ (by simp)]; exact n1
    obtain ⟨v, g', hr, F', wg, rel⟩ := do_R (n + 2) c g hcv (X := g.1 (12, 0, 0) j) (Y := g.1 (13, 0, 0) j) (fun u => by rw [G _ (by simp)]; exact n2 u) (fun u => by rw [G _ (by simp)]; exact n3 u) ⟨_, (inv s0 s0 hx0).2⟩
    have FF := F.tr F'
    have hi := c_isError (n + 7) v g'
    have run : ∀ x : Int32, x = (if v < 0 ∧ ¬ v = -5 then 1 else 0) → ∀ r, Runs dT_46 (dEx (n + 8)) ((if x = 0 then 99 else 85), [some (.inr (6, 0, 0)), some (.inl (-1)), some (.inl (nI j))], [], g') r → Runs dT_46 (dEx (n + 8)) (31, [some (.inr (6, 0, 0)), some (.inl (-1)), some (.inl (nI j))], [], g) r := by
      intro x hx r hrr
      rw [← hx] at hi
      refine Runs.go 5 rfl trivial ?_
      rw [e5]
      refine Runs.ifF (nI_ge hj (by omega)) ?_
      refine Runs.go 3 rfl trivial ?_
      refine Runs.ifF (i_ge (show j < 16 by omega) (by decide)) ?_
      refine Runs.go 16 rfl ⟨⟨⟨trivial, (i_in (show j < 16 by omega) (by decide))⟩, (i_in (show j < 16 by omega) (by decide))⟩, (i_in (show j < 16 by omega) (by decide))⟩ ?_
      rw [i_cl (show j < 2 ^ 31 by omega), e11]
      refine Runs.cal rfl hr ?_
      refine Runs.cal rfl hi ?_
      refine Runs.go 1 rfl trivial ?_
      exact hrr
    by_cases z : v < 0 ∧ ¬ v = -5
    · have run := run 1 (if_pos z).symm
      have xa' := hxa.fr (FF.e5 hne)
      obtain ⟨c', hc'⟩ := xa'.sr
      have er : rr g' a = rr g0 a := congrFun (FF.eo (κ := (8, 0, 0)) (by simp)).2 a
      have rv := c_revert (n + 5) g' (a := a) (c := c') (by rw [(FF.eo (by simp)).1]; exact ha) ha4 (by rw [er]; exact hne) (by rw [er]; exact hc'.cp_ok)
      rw [er] at rv
      refine Or.inl ⟨(some (.inl (-4)), cfull g' 0 (rr g0 a) c'), Or.inr ⟨g', c', rfl, FF, wg, hc', fun s f hs => ?_⟩, run _ ?_⟩
      · obtain ⟨p1, p2⟩ := inv s f hs
        have := rel _ (exM (cs.take j) (s, f)).2.2 p2
        rw [t2, exM_app, if_pos p1]
        generalize exM (cs.take j) (s, f) = p at this p1 p2 ⊢
        obtain ⟨w, s1, f1⟩ := p
        dsimp only at this ⊢
        rcases this with ⟨_, _, u⟩ | ⟨u, _⟩
        · exact absurd z u
        · have nz : ¬ (doM c (s1, f1)).1 = 0 := fun t => by rw [t] at u; exact absurd u (by decide)
          rw [show exM (c :: cs.drop (j + 1)) (s1, f1) = doM c (s1, f1) from if_neg nz]
          exact u
      · refine Runs.ifF (by decide) ?_
        refine Runs.go 4 rfl trivial ?_
        refine Runs.calv rfl rv ?_
        refine Runs.go 1 rfl trivial ?_
        exact Runs.fin rfl trivial
    · have run := run 0 (if_neg z).symm
      refine Or.inr ⟨_, ⟨g', rfl, FF, fun s f hs => ?_⟩, fun r hrr => run r ?_⟩
      · obtain ⟨p1, p2⟩ := inv s f hs
        have := rel _ (exM (cs.take j) (s, f)).2.2 p2
        rw [t1, exM_app, if_pos p1]
        generalize exM (cs.take j) (s, f) = p at this p1 p2 ⊢
        obtain ⟨w, s1, f1⟩ := p
        dsimp only at this ⊢
        rw [exM_one]
        rcases this with ⟨u1, u2, _⟩ | ⟨_, u⟩
        · exact ⟨u1, u2⟩
        · exact absurd u z
      · refine Runs.ifT rfl ?_
        refine Runs.go 2 rfl trivial ?_
        rw [nI_1]
        exact hrr
  · rintro A ⟨g, rfl, F, inv⟩
    have G := fun (κ : DKey) (hκ : 5 < κ.1) => show g.1 κ = g0.1 κ from (F.eo hκ).1
    have e5 : g.1 (9, 0, 0) 5 = nI cs.length := by rw [G _ (by simp)]; exact h5
    have rc := c_recorded (n + 6) (nI cs.length) g (a := a) (by rw [G _ (by simp)]; exact ha) ha4
    rw [if_neg (nI_n0 (by omega))] at rc
    rw [List.take_length] at inv
    refine ⟨(some (.inl (nI cs.length)), recH g a), Or.inl ⟨g, rfl, F, inv⟩, ?_⟩
    refine Runs.go 5 rfl trivial ?_
    rw [e5]
    refine Runs.ifT (Int32.le_refl _) ?_
    refine Runs.go 5 rfl trivial ?_
    rw [e5]
    refine Runs.cal rfl rc ?_
    exact Runs.fin rfl trivial
