/-! text, history, snapshot, what is told: on both sides -/
theorem c_append (n : Nat) (x : Int32) (h : DH) {t : Nat} (ht : h.1 (9, 0, 0) 1 = nI t) (ht80 : t ≤ 80) : dEx (n + 1) 44 [.inr (9, 0, 0), .inl x] h (if t = 80 then (some (.inl 0), h) else (some (.inl 1), up1 (up1 h (10, 0, 0) t (vp_nar .char x)) (9, 0, 0) 1 (nI (t + 1)))) := by
  refine dx_44 ?_
  refine Runs.go 4 rfl trivial ?_
  rw [ht]
  by_cases z : t = 80
  · rw [if_pos z]
    refine Runs.ifF (by rw [z]; decide) ?_
    refine Runs.go 1 rfl trivial ?_
    exact Runs.fin rfl (Or.inl rfl)
  · rw [if_neg z]
    refine Runs.ifT (nI_lt (show t < 80 by omega) (by decide)) ?_
    refine Runs.go 13 rfl ⟨trivial, (by rw [ht]; exact i_in (show t < 80 by omega) (by decide))⟩ ?_
    rw [ht, i_cl (show t < 2 ^ 31 by omega), up1_ne _ _ _ (by decide), ht, nI_1]
    exact Runs.fin rfl (Or.inr rfl)
theorem c_type (n : Nat) (x : Int32) (h : DH) {t : Nat} (ht : h.1 (9, 0, 0) 1 = nI t) (ht80 : t ≤ 80) : dEx (n + 2) 43 [.inr (6, 0, 0), .inl x] h (if t = 80 then (some (.inl (-3)), h) else (some (.inl (nI (t + 1))), up1 (up1 h (10, 0, 0) t (vp_nar .char x)) (9, 0, 0) 1 (nI (t + 1)))) := by
  refine dx_43 ?_
  refine Runs.go 3 rfl trivial ?_
  have ha := c_append n x h ht ht80
  by_cases z : t = 80
  · rw [if_pos z] at ha ⊢
    refine Runs.cal rfl ha ?_
    refine Runs.go 1 rfl trivial ?_
    refine Runs.ifT rfl ?_
    refine Runs.go 1 rfl trivial ?_
    exact Runs.fin rfl trivial
  · rw [if_neg z] at ha ⊢
    refine Runs.cal rfl ha ?_
    refine Runs.go 1 rfl trivial ?_
    refine Runs.ifF (by decide) ?_
    refine Runs.go 4 rfl trivial ?_
    rw [up1_1, if_pos ⟨rfl, rfl⟩]
    exact Runs.fin rfl trivial
theorem RR.tx {h h' : DH} (hs : RR h) (e : ∀ κ : DKey, κ ≠ (9, 0, 0) → κ ≠ (10, 0, 0) → κ ≠ (19, 0, 0) → κ ≠ (14, 0, 0) → h'.1 κ = h.1 κ) (e14 : ∀ k, k ≠ 7 → h'.1 (14, 0, 0) k = h.1 (14, 0, 0) k) (e2 : h'.2 = h.2) {t : Nat} (ht : TR h' t) : RR h' := by
  obtain ⟨x, w, k, ⟨a, ha⟩, _⟩ := hs
  have E : ∀ j, Eq5 j h h' := fun j k m hk => ⟨e _ (fun t => by simp at t; omega) (fun t => by simp at t; omega) (fun t => by simp at t; omega) (fun t => by simp at t; omega), by rw [e2]⟩
  refine ⟨?_, w.fr (E 1), k.cg (e _ (by simp) (by simp) (by simp) (by simp)) (e14 5 (by decide)) (e _ (by simp) (by simp) (by simp) (by simp)) (E 2), ⟨a, ha.cg (e _ (by simp) (by simp) (by simp) (by simp)) (e14 3 (by decide)) (by rw [e2]) (e _ (by simp) (by simp) (by simp) (by simp)) (fun j _ => E j)⟩, t, ht⟩
  rw [e _ (by simp) (by simp) (by simp) (by simp)]
  exact x.fr (E 0)
theorem st_type (n : Nat) (z : Int32) : Step (n + 10) 43 123 [.inl (z.toUInt32 % 65536).toInt32] := by
  intro h hs
  obtain ⟨t, ht⟩ := hs.2.2.2.2
  have hc := c_type (n + 8) (z.toUInt32 % 65536).toInt32 h ht.2.1 ht.1
  have hmm := fun h' (q : h'.1 (14, 0, 0) 7 = nI t) => m_type (n + 9) (z.toUInt32 % 65536).toInt32 h' (h.1 (15, 0, 0)) (h.1 (20, 0, 0)) q ht.1
  rw [pk_vc] at hc
  generalize hx : (z.toUInt32 % 65536).toInt32 = x at *
  by_cases z80 : t = 80
  · rw [if_pos z80] at hc
    have hm := hmm h ht.2.2.1
    rw [if_pos z80, hp_at] at hm
    exact ⟨_, h, h, hc, hm, hs⟩
  · rw [if_neg z80] at hc
    have e14 : (up1 (up1 h (10, 0, 0) t x) (9, 0, 0) 1 (nI (t + 1))).1 (14, 0, 0) = h.1 (14, 0, 0) := by rw [up1_ne _ _ _ (by decide), up1_ne _ _ _ (by decide)]
    have e15 : (up1 (up1 h (10, 0, 0) t x) (9, 0, 0) 1 (nI (t + 1))).1 (15, 0, 0) = h.1 (15, 0, 0) := by rw [up1_ne _ _ _ (by decide), up1_ne _ _ _ (by decide)]
    have e20 : (up1 (up1 h (10, 0, 0) t x) (9, 0, 0) 1 (nI (t + 1))).1 (20, 0, 0) = h.1 (20, 0, 0) := by rw [up1_ne _ _ _ (by decide), up1_ne _ _ _ (by decide)]
    have hm := hmm (up1 (up1 h (10, 0, 0) t x) (9, 0, 0) 1 (nI (t + 1))) (by rw [e14]; exact ht.2.2.1)
    rw [if_neg z80] at hm
    have ehp := hp_at (up1 (up1 h (10, 0, 0) t x) (9, 0, 0) 1 (nI (t + 1)))
    rw [e15, e20] at ehp
    rw [ehp] at hm
    have o : ∀ κ : DKey, κ ≠ (9, 0, 0) → κ ≠ (10, 0, 0) → κ ≠ (19, 0, 0) → κ ≠ (14, 0, 0) → (hp (up1 (up1 (up1 (up1 h (10, 0, 0) t x) (9, 0, 0) 1 (nI (t + 1))) (19, 0, 0) t x) (14, 0, 0) 7 (nI (t + 1))) (h.1 (15, 0, 0)) (h.1 (20, 0, 0))).1 κ = h.1 κ := fun κ h1 h2 h3 h4 => by
      by_cases q1 : κ = (15, 0, 0)
      · subst q1; exact hp_s _ _ _
      · by_cases q2 : κ = (20, 0, 0)
        · subst q2; exact hp_f _ _ _
        · rw [hp_1 _ _ _ q1 q2, up1_ne _ _ _ h4, up1_ne _ _ _ h3, up1_ne _ _ _ h1, up1_ne _ _ _ h2]
    refine ⟨_, _, _, hc, hm, hs.tx (t := t + 1) o (fun k hk => ?_) rfl ⟨by have := ht.1; omega, ?_, ?_, fun k hk => ?_⟩⟩
    · rw [hp_1 _ _ _ (by decide) (by decide), up1_1, if_neg (fun t => hk t.2), up1_ne _ _ _ (by decide), e14]
    · rw [hp_1 _ _ _ (by decide) (by decide), up1_ne _ _ _ (by decide), up1_ne _ _ _ (by decide), up1_1, if_pos ⟨rfl, rfl⟩]
    · rw [hp_1 _ _ _ (by decide) (by decide), up1_1, if_pos ⟨rfl, rfl⟩]
    · rw [hp_1 _ _ _ (by decide) (by decide), hp_1 _ _ _ (by decide) (by decide), up1_ne _ _ _ (show ((10, 0, 0) : DKey) ≠ (14, 0, 0) by decide), up1_ne _ _ _ (show ((10, 0, 0) : DKey) ≠ (19, 0, 0) by decide), up1_ne _ _ _ (show ((10, 0, 0) : DKey) ≠ (9, 0, 0) by decide), up1_ne _ _ _ (show ((19, 0, 0) : DKey) ≠ (14, 0, 0) by decide)]
      by_cases zk : k = t
      · subst zk
        rw [up1_1, if_pos ⟨rfl, rfl⟩, up1_1, if_pos ⟨rfl, rfl⟩]
        refine ⟨rfl, ?_⟩
        rw [← hx, pk_char]
        exact ⟨_, Nat.mod_lt _ (by decide), rfl⟩
      · rw [up1_1, if_neg (fun q => zk q.2), up1_1, if_neg (fun q => zk q.2), up1_ne _ _ _ (by decide), up1_ne _ _ _ (by decide)]
        exact ht.2.2.2 k (by omega)
theorem st_clear (n : Nat) : Step (n + 10) 45 124 [] := by
  intro h hs
  obtain ⟨t, ht⟩ := hs.2.2.2.2
  have hc := c_clearText (n + 9) h
  have e14 : (up1 h (9, 0, 0) 1 0).1 (14, 0, 0) = h.1 (14, 0, 0) := up1_ne _ _ _ (by decide)
  have e15 : (up1 h (9, 0, 0) 1 0).1 (15, 0, 0) = h.1 (15, 0, 0) := up1_ne _ _ _ (by decide)
  have e20 : (up1 h (9, 0, 0) 1 0).1 (20, 0, 0) = h.1 (20, 0, 0) := up1_ne _ _ _ (by decide)
  have hm := m_clearText (n + 9) (up1 h (9, 0, 0) 1 0) (h.1 (15, 0, 0)) (h.1 (20, 0, 0))
  have ehp := hp_at (up1 h (9, 0, 0) 1 0)
  rw [e15, e20] at ehp
  rw [ehp, e14] at hm
  rw [ht.2.1] at hc
  rw [ht.2.2.1] at hm
  have o : ∀ κ : DKey, κ ≠ (9, 0, 0) → κ ≠ (10, 0, 0) → κ ≠ (19, 0, 0) → κ ≠ (14, 0, 0) → (hp (up1 (up1 h (9, 0, 0) 1 0) (14, 0, 0) 7 0) (h.1 (15, 0, 0)) (h.1 (20, 0, 0))).1 κ = h.1 κ := fun κ h1 h2 h3 h4 => by
    by_cases q1 : κ = (15, 0, 0)
    · subst q1; exact hp_s _ _ _
    · by_cases q2 : κ = (20, 0, 0)
      · subst q2; exact hp_f _ _ _
      · rw [hp_1 _ _ _ q1 q2, up1_ne _ _ _ h4, up1_ne _ _ _ h1]
  refine ⟨_, _, _, hc, hm, hs.tx (t := 0) o (fun k hk => ?_) rfl ⟨by omega, ?_, ?_, fun k hk => absurd hk (by omega)⟩⟩
  · rw [hp_1 _ _ _ (by decide) (by decide), up1_1, if_neg (fun t => hk t.2), e14]
  · rw [hp_1 _ _ _ (by decide) (by decide), up1_ne _ _ _ (by decide), up1_1, if_pos ⟨rfl, rfl⟩]
    rfl
  · rw [hp_1 _ _ _ (by decide) (by decide), up1_1, if_pos ⟨rfl, rfl⟩]
    rfl
theorem XR.sr {h : DH} {i : Nat} {s : Nat → Int32} (hs : XR h i s) : ∃ c, SR h i c s := hs.1
theorem st_undo (n : Nat) : Step (n + 10) 69 134 [] := by
  intro h hs
  obtain ⟨x, w, k, ⟨a, ha⟩, t, ht⟩ := id hs
  cases a with
  | zero =>
    have hc := c_undo0 (n + 6) h (ha.2.1.trans nI_0)
    have hm := m_undo (n + 9) h (h.1 (15, 0, 0)) (h.1 (20, 0, 0)) ha.2.2.1 ha.1
    rw [if_pos rfl, hp_at] at hm
    exact ⟨_, h, h, hc, hm, hs⟩
  | succ b =>
    obtain ⟨h1, h2, h3, h4, h5, h6⟩ := ha
    have hb := h4 b (by omega)
    have xb := h6 b (by omega)
    obtain ⟨c', cb⟩ := xb.sr
    have hc := c_undo1 (n + 6) h h2 (by omega) (by omega) cb.cp_ok
    have E0 : ∀ j, Eq5 j h (up1 h (7, 0, 0) 1 (nI b)) := fun j k m hk => ⟨up1_ne _ _ _ (fun t => by simp at t; omega), rfl⟩
    have w0 : WF (up1 h (7, 0, 0) 1 (nI b)) 0 := by
      obtain ⟨c0, hc0⟩ := x.sr
      exact hc0.wf.fr (E0 0)
    have xq := (xb.fr (E0 _)).copy (cb.fr (E0 _)) (by omega) w0
    have F := Fr_cfull (up1 h (7, 0, 0) 1 (nI b)) 0 (rr h b) c'
    have ug : undoH h b c' = cfull (up1 h (7, 0, 0) 1 (nI b)) 0 (rr h b) c' := rfl
    rw [ug] at hc
    generalize hg : cfull (up1 h (7, 0, 0) 1 (nI b)) 0 (rr h b) c' = g at hc F xq
    have G := fun (κ : DKey) (hκ : 5 < κ.1) (h7 : κ ≠ (7, 0, 0)) => show g.1 κ = h.1 κ from (F.eo hκ).1.trans (up1_ne _ _ _ h7)
    have g7 : g.1 (7, 0, 0) 1 = nI b := by rw [(F.eo (by simp)).1, up1_1, if_pos ⟨rfl, rfl⟩]
    have g2 : ∀ κ : DKey, 5 < κ.1 → g.2 κ = h.2 κ := fun κ hκ => (F.eo hκ).2
    have EE : ∀ j, j ≠ 0 → Eq5 j h g := fun j hj => (E0 j).tr (F.e5 hj)
    have hm := m_undo (n + 9) g (h.1 (15, 0, 0)) (h.1 (20, 0, 0)) (a := b + 1) (by rw [G _ (by simp) (by simp)]; exact h3) h1
    rw [if_neg (by omega), show b + 1 - 1 = b by omega] at hm
    have ehp := hp_at g
    rw [G _ (by simp) (by simp), G _ (by simp) (by simp)] at ehp
    rw [ehp] at hm
    have EH : ∀ j, Eq5 j g (hp (up1 g (14, 0, 0) 3 (nI b)) (cp5 (h.1 (15, 0, 0)) 0 (fun k => g.1 (17, 0, 0) (244 * b + k)) 244) (h.1 (20, 0, 0))) := fun j k m hk => ⟨by rw [hp_1 _ _ _ (fun t => by simp at t; omega) (fun t => by simp at t; omega), up1_ne _ _ _ (fun t => by simp at t; omega)], rfl⟩
    have o : ∀ κ : DKey, κ ≠ (14, 0, 0) → κ ≠ (15, 0, 0) → κ ≠ (20, 0, 0) → (hp (up1 g (14, 0, 0) 3 (nI b)) (cp5 (h.1 (15, 0, 0)) 0 (fun k => g.1 (17, 0, 0) (244 * b + k)) 244) (h.1 (20, 0, 0))).1 κ = g.1 κ := fun κ q1 q2 q3 => by rw [hp_1 _ _ _ q2 q3, up1_ne _ _ _ q1]
    have o14 : ∀ j, j ≠ 3 → (hp (up1 g (14, 0, 0) 3 (nI b)) (cp5 (h.1 (15, 0, 0)) 0 (fun k => g.1 (17, 0, 0) (244 * b + k)) 244) (h.1 (20, 0, 0))).1 (14, 0, 0) j = h.1 (14, 0, 0) j := fun j hj => by rw [hp_1 _ _ _ (by simp) (by simp), up1_1, if_neg (fun t => hj t.2), G _ (by simp) (by simp)]
    have HA : HR g b ∨ True := Or.inr trivial
    refine ⟨_, g, _, hc, hm, ?_, (w.fr (EE 1 (by decide))).fr (EH 1), k.cg ((o _ (by simp) (by simp) (by simp)).trans (G _ (by simp) (by simp))) (o14 5 (by decide)) ((o _ (by simp) (by simp) (by simp)).trans (G _ (by simp) (by simp))) ((EE 2 (by decide)).tr (EH 2)), ⟨b, by omega, ?_, ?_, fun j hj => ?_, fun j k hj hk e => ?_, fun j hj => ?_⟩, t, ht.cg (by rw [o _ (by simp) (by simp) (by simp), G _ (by simp) (by simp)]) (o14 7 (by decide)) ((o _ (by simp) (by simp) (by simp)).trans (G _ (by simp) (by simp))) ((o _ (by simp) (by simp) (by simp)).trans (G _ (by simp) (by simp)))⟩
    · rw [hp_s]
      refine (xq.fr (EH 0)).row (fun k hk => ?_)
      rw [cp5_in hk, G _ (by simp) (by simp)]
      rfl
    · rw [o _ (by simp) (by simp) (by simp)]
      exact g7
    · rw [hp_1 _ _ _ (by simp) (by simp), up1_1, if_pos ⟨rfl, rfl⟩]
    · have er : rr (hp (up1 g (14, 0, 0) 3 (nI b)) (cp5 (h.1 (15, 0, 0)) 0 (fun k => g.1 (17, 0, 0) (244 * b + k)) 244) (h.1 (20, 0, 0))) j = rr h j := congrFun (g2 (8, 0, 0) (by simp)) j
      rw [er]
      obtain ⟨a1, a2, a3⟩ := h4 j hj
      exact ⟨a1, a2, a3.fr ((EE _ (by omega)).tr (EH _))⟩
    · have er : ∀ j, rr (hp (up1 g (14, 0, 0) 3 (nI b)) (cp5 (h.1 (15, 0, 0)) 0 (fun k => g.1 (17, 0, 0) (244 * b + k)) 244) (h.1 (20, 0, 0))) j = rr h j := fun j => congrFun (g2 (8, 0, 0) (by simp)) j
      rw [er, er] at e
      exact h5 j k hj hk e
    · have er : rr (hp (up1 g (14, 0, 0) 3 (nI b)) (cp5 (h.1 (15, 0, 0)) 0 (fun k => g.1 (17, 0, 0) (244 * b + k)) 244) (h.1 (20, 0, 0))) j = rr h j := congrFun (g2 (8, 0, 0) (by simp)) j
      have eb : bf (hp (up1 g (14, 0, 0) 3 (nI b)) (cp5 (h.1 (15, 0, 0)) 0 (fun k => g.1 (17, 0, 0) (244 * b + k)) 244) (h.1 (20, 0, 0))) j = bf h j := by
        unfold bf
        rw [o _ (by simp) (by simp) (by simp), G _ (by simp) (by simp)]
      rw [er, eb]
      have a1 := (h4 j (by omega)).1
      exact (h6 j (by omega)).fr ((EE _ (by omega)).tr (EH _))
