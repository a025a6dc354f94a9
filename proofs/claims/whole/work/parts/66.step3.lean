/-! snapshot, and what is told: on both sides -/
theorem hp_eq (g : DH) {s f : Nat → Int32} (h1 : g.1 (15, 0, 0) = s) (h2 : g.1 (20, 0, 0) = f) : hp g s f = g := by
  rw [← h1, ← h2]
  exact hp_id g
theorem st_keep (n : Nat) : Step (n + 10) 71 135 [] := by
  intro h hs
  obtain ⟨x, w, k, ⟨a, ha⟩, t, ht⟩ := id hs
  obtain ⟨c, hc⟩ := x.sr
  have hcc := c_keep (n + 7) h hc.cp_ok
  have F := Fr_cfull h 2 0 c
  have X2 : XR (cfull h 2 0 c) 2 (h.1 (15, 0, 0)) := x.copy hc (by decide) k.1
  have e8 : h.1 (0, 0, 0) 8 = h.1 (15, 0, 0) 10 := hc.1.2.1 8 (by decide) (by decide)
  rw [e8] at hcc
  generalize hg : cfull h 2 0 c = g at hcc F X2
  have G := fun (κ : DKey) (hκ : 5 < κ.1) => show g.1 κ = h.1 κ from (F.eo hκ).1
  have g15 : (up1 g (6, 0, 0) 3 1).1 (15, 0, 0) = h.1 (15, 0, 0) := (up1_ne _ _ _ (by simp)).trans (G _ (by simp))
  have g20 : (up1 g (6, 0, 0) 3 1).1 (20, 0, 0) = h.1 (20, 0, 0) := (up1_ne _ _ _ (by simp)).trans (G _ (by simp))
  have hm := m_keep (n + 9) (up1 g (6, 0, 0) 3 1) (h.1 (15, 0, 0)) (h.1 (20, 0, 0))
  rw [hp_eq _ g15 g20] at hm
  have EE : ∀ j, j ≠ 2 → Eq5 j h g := fun j hj => F.e5 hj
  generalize hq : hp (keepH (up1 g (6, 0, 0) 3 1) (h.1 (15, 0, 0))) (h.1 (15, 0, 0)) (h.1 (20, 0, 0)) = q at hm
  have q1 : ∀ κ : DKey, κ ≠ (6, 0, 0) → κ ≠ (14, 0, 0) → κ ≠ (18, 0, 0) → q.1 κ = g.1 κ := fun κ h6 h14 h18 => by
    rw [← hq]
    by_cases u1 : κ = (15, 0, 0)
    · subst u1; rw [hp_s, G _ (by simp)]
    · by_cases u2 : κ = (20, 0, 0)
      · subst u2; rw [hp_f, G _ (by simp)]
      · rw [hp_1 _ _ _ u1 u2]
        unfold keepH
        rw [up1_ne _ _ _ h14, ub_n _ _ h18, up1_ne _ _ _ h6]
  have q14 : ∀ j, q.1 (14, 0, 0) j = if j = 5 then 1 else h.1 (14, 0, 0) j := fun j => by
    rw [← hq, hp_1 _ _ _ (by simp) (by simp)]
    unfold keepH
    rw [up1_1]
    by_cases z : j = 5
    · rw [if_pos ⟨rfl, z⟩, if_pos z]
    · rw [if_neg (fun t => z t.2), if_neg z, ub_n _ _ (by simp), up1_ne _ _ _ (by simp), G _ (by simp)]
  have q18 : ∀ j, j < 244 → q.1 (18, 0, 0) j = h.1 (15, 0, 0) j := fun j hj => by
    rw [← hq, hp_1 _ _ _ (by simp) (by simp)]
    unfold keepH
    rw [up1_ne _ _ _ (by simp), ub_s, cp5_in hj]
  have q6 : q.1 (6, 0, 0) 3 = 1 := by
    rw [← hq, hp_1 _ _ _ (by simp) (by simp)]
    unfold keepH
    rw [up1_ne _ _ _ (by simp), ub_n _ _ (by simp), up1_1, if_pos ⟨rfl, rfl⟩]
  have q2 : q.2 = g.2 := by
    rw [← hq]
    rfl
  have EH : ∀ j, Eq5 j g q := fun j k m hk => ⟨q1 _ (fun t => by simp at t; omega) (fun t => by simp at t; omega) (fun t => by simp at t; omega), by rw [q2]⟩
  have X2' : XR q 2 (q.1 (18, 0, 0)) := (X2.fr (EH 2)).row q18
  have w2 : WF q 2 := by
    obtain ⟨c2, hc2⟩ := X2'.sr
    exact hc2.wf
  refine ⟨_, _, q, hcc, hm, ?_, (w.fr (EE 1 (by decide))).fr (EH 1), ⟨w2, Or.inr ⟨q6, by rw [q14, if_pos rfl], X2'⟩⟩, ⟨a, ha.cg ((q1 _ (by simp) (by simp) (by simp)).trans (G _ (by simp))) (by rw [q14, if_neg (by decide)]) (by rw [q2]; exact (F.eo (κ := (8, 0, 0)) (by simp)).2) ((q1 _ (by simp) (by simp) (by simp)).trans (G _ (by simp))) (fun j hj => (EE j (by omega)).tr (EH j))⟩, t, ht.cg (by rw [q1 _ (by simp) (by simp) (by simp), G _ (by simp)]) (by rw [q14, if_neg (by decide)]) ((q1 _ (by simp) (by simp) (by simp)).trans (G _ (by simp))) ((q1 _ (by simp) (by simp) (by simp)).trans (G _ (by simp)))⟩
  rw [q1 _ (by simp) (by simp) (by simp), G _ (by simp)]
  exact (x.fr (EE 0 (by decide))).fr (EH 0)
theorem st_restore (n : Nat) : Step (n + 10) 72 136 [] := by
  intro h hs
  obtain ⟨x, w, k, _, t, ht⟩ := id hs
  rcases k.2 with ⟨k1, k2⟩ | ⟨k1, k2, k3⟩
  · obtain ⟨a, ha⟩ := hs.2.2.2.1
    have hc := c_restore0 (n + 6) h k1
    have hm := m_restore (n + 8) h (h.1 (15, 0, 0)) (h.1 (20, 0, 0)) ha.2.2.1 ha.1
    rw [if_pos k2, hp_at] at hm
    exact ⟨_, h, h, hc, hm, hs⟩
  · obtain ⟨a, c, g, hgg, hk, hne, ha, ha4, hg, hga, hgx, hgc, g7, g14⟩ := hs.go
    obtain ⟨c2, hc2⟩ := k3.sr
    have F0 := Fr_cfull h (rr h a) 0 c
    have hr3 : 3 ≤ rr h a := by
      obtain ⟨a', ha'⟩ := hs.2.2.2.1
      have : a' = a := nI_inj (by have := ha'.1; omega) (by omega) (ha'.2.1.symm.trans ha)
      subst this
      exact (ha'.2.2.2.1 a' (by omega)).1
    rw [hgg] at F0
    have E2 : Eq5 2 h g := F0.e5 (by omega)
    have G0 := fun (κ : DKey) (hκ : 5 < κ.1) => show g.1 κ = h.1 κ from (F0.eo hκ).1
    have w0 : WF g 0 := hgc.wf
    have xq : XR (cfull g 0 2 c2) 0 (h.1 (18, 0, 0)) := (k3.fr E2).copy (hc2.fr E2) (by decide) w0
    have cq : SR (cfull g 0 2 c2) 0 c2 (h.1 (18, 0, 0)) := (hc2.fr E2).copy (by decide) w0
    have F := Fr_cfull g 0 2 c2
    have e8 : (cfull g 0 2 c2).1 (0, 0, 0) 8 = h.1 (18, 0, 0) 10 := cq.1.2.1 8 (by decide) (by decide)
    obtain ⟨tt, t1, t2⟩ := k3.2.2.2.1
    have hn : ¬ (cfull g 0 2 c2).1 (0, 0, 0) 8 < 0 := by rw [e8, t2]; exact nI_n0 (by omega)
    have hc := c_restore1 (n + 6) h k1 ha ha4 hne (by omega) hk hc2.cp_ok (by rw [hgg]; exact hn)
    rw [hgg] at hc
    rw [e8] at hc
    have e18 : (recH (cfull g 0 2 c2) a).1 (18, 0, 0) = h.1 (18, 0, 0) := by rw [recH_1 _ _ (by simp), (F.eo (by simp)).1, G0 _ (by simp)]
    have hm := m_restore (n + 8) (recH (cfull g 0 2 c2) a) (g.1 (15, 0, 0)) (g.1 (20, 0, 0)) (a := a) (by rw [rec_14 F]; exact g14) ha4
    rw [if_neg (by rw [rec_14 F, G0 _ (by simp), k2]; decide), e18, cp5_in (show 10 < 244 by decide)] at hm
    refine Step.ok (a := a) (g := g) (g' := cfull g 0 2 c2) ?_ (by rw [t2]; exact nI_n0 (by omega)) hm hg hga hgx F (xq.row (fun k hk => cp5_in hk))
    unfold actH
    rw [if_neg (by rw [t2]; exact nI_n0 (by omega))]
    exact hc
theorem mahd_cnt (s : Nat → Int32) (x : Int32) : ∀ c, mahd s x c = nI (cntD x (LM s c)) := by
  intro c
  induction c with
  | zero => rfl
  | succ c ih =>
    have : mahd s x (c + 1) = mahd s x c + (if s (oR c 1) = x then 1 else 0) := rfl
    rw [this, ih, LM_succ, cntD_app, cntD_one, ← nI_add]
    refine congrArg (fun z => nI (cntD x (LM s c)) + z) ?_
    by_cases z : s (oR c 1) = x
    · rw [if_pos z, if_pos (show dk5 (rmk s c) = x from z)]; rfl
    · rw [if_neg z, if_neg (show ¬ dk5 (rmk s c) = x from z)]; rfl
theorem tell_eq {h : DH} {c d : Nat} {s : Nat → Int32} (hs : SR h 0 c s) (hd : d < 12) (x : Int32) : ctellDisk h 0 d x = mtd s c d x := by
  have r := fun f hf => hs.1.2.2 d hd f hf
  have y5 := (hs.2.2.2.2.2.2.2.2.2.1 d hd).2.2.2.2.2
  unfold ctellDisk mtd
  rw [cur_eq hs hd, r 0 (by decide), r 1 (by decide), r 2 (by decide), r 3 (by decide), r 4 (by decide), r 5 (by decide), hs.2.2.2.2.2.2.2.1 d hd, mahd_cnt, show mf 0 = 0 from rfl, show mf 1 = 1 from rfl, show mf 2 = 2 from rfl, show mf 3 = 3 from rfl, show mf 4 = 5 from rfl, show mf 5 = 4 from rfl]
  rcases y5 with z | z
  · rw [z, if_pos rfl]
  · rw [z, if_neg (show ¬ (1 : Int32) = 0 by decide)]
theorem st_disk (n : Nat) (y x : Int32) : Step (n + 10) 73 137 [.inl y, .inl x] := by
  intro h hs
  obtain ⟨c, hc⟩ := hs.1.sr
  rcases wip_dec y 0 11 with hy | hy
  · obtain ⟨d, hd, rfl⟩ := wip_nI (n := 11) (by decide) hy
    have hd : d < 12 := by omega
    have h1 := (c_disk (n + 6) (nI d) x h).1 d hd rfl
    have h2 := (m_disk (n + 6) (nI d) x h (h.1 (15, 0, 0)) (h.1 (20, 0, 0)) hc.2.2.2.1 hc.2.2.1).2 d hd rfl
    rw [hp_at] at h2
    rw [tell_eq hc hd] at h1
    exact ⟨_, h, h, h1, h2, hs⟩
  · have h1 := (c_disk (n + 6) y x h).2 hy
    have h2 := (m_disk (n + 6) y x h (h.1 (15, 0, 0)) (h.1 (20, 0, 0)) hc.2.2.2.1 hc.2.2.1).1 hy
    rw [hp_at] at h2
    exact ⟨_, h, h, h1, h2, hs⟩
theorem tellr_eq {h : DH} {c k : Nat} {s : Nat → Int32} (hs : SR h 0 c s) (hk : k < c) (x : Int32) : ctellRead h 0 k x = mtr s k x := by
  have r : ∀ j, j < c → (h.1 (5, 0, h.2 (3, 0, 0) j) 0 = s (oR j 0) ∧ h.1 (5, 0, h.2 (3, 0, 0) j) 1 = s (oR j 1) ∧ h.1 (5, 0, h.2 (3, 0, 0) j) 2 = s (oR j 2) ∧ h.1 (5, 0, h.2 (3, 0, 0) j) 3 = s (oR j 3) ∧ h.1 (5, 0, h.2 (3, 0, 0) j) 4 = s (oR j 4)) := fun j hj => by
    have a := hs.rd hj
    exact ⟨congrArg (fun r : R5 => r.1) a, congrArg (fun r : R5 => r.2.1) a, congrArg (fun r : R5 => r.2.2.1) a, congrArg (fun r : R5 => r.2.2.2.1) a, congrArg (fun r : R5 => r.2.2.2.2) a⟩
  have e8 : h.1 (0, 0, 0) 8 = s 10 := hs.1.2.1 8 (by decide) (by decide)
  have ea : cahead h 0 k = mahd s (s (oR k 1)) k := by
    unfold cahead mahd
    refine sumN_cg k (fun j hj => ?_)
    rw [(r j (by omega)).2.1, (r k hk).2.1]
  obtain ⟨r0, r1, r2, r3, r4⟩ := r k hk
  unfold ctellRead mtr
  rw [ea, e8, r1, r2, r3, r4]
theorem st_readOf (n : Nat) (y x : Int32) : Step (n + 10) 75 139 [.inl y, .inl x] := by
  intro h hs
  obtain ⟨c, hc⟩ := hs.1.sr
  have h1 := c_readOf (n + 6) y x h hc.2.1 hc.2.2.1
  have h2 := m_readOf (n + 7) y x h (h.1 (15, 0, 0)) (h.1 (20, 0, 0)) hc.2.2.2.1 hc.2.2.1
  rw [hp_at] at h2
  rw [hc.plc y] at h1
  cases hp : mplc (h.1 (15, 0, 0)) c y with
  | none =>
    rw [hp] at h1 h2
    exact ⟨_, h, h, h1, h2, hs⟩
  | some k =>
    rw [hp] at h1 h2
    dsimp only at h1 h2
    rw [tellr_eq hc (fp_some hp).1] at h1
    exact ⟨_, h, h, h1, h2, hs⟩
theorem i_sub_add (a b c : Int32) : a - b + c = a + (c - b) := by
  rw [Int32.sub_eq_add_neg, Int32.sub_eq_add_neg, Int32.add_assoc, Int32.add_comm (-b) c]
theorem could_eq {h : DH} {c : Nat} {s : Nat → Int32} (hs : SR h 0 c s) (s0 c0 : Int32) : ∀ j, j ≤ 12 → ∃ m, m ≤ j ∧ sumN (fun d => if s (oD d 0) = 0 then 1 else 0) j = nI m ∧ cst h 0 s0 c0 j = cs s s0 c0 m := by
  intro j
  induction j with
  | zero => intro _; exact ⟨0, Nat.le_refl _, rfl, rfl⟩
  | succ j ih =>
    intro hj
    obtain ⟨m, hm, e1, e2⟩ := ih (by omega)
    have r0 : h.1 (4, 0, j) 0 = s (oD j 0) := hs.1.2.2 j (by omega) 0 (by decide)
    have e3 : sumN (fun d => if s (oD d 0) = 0 then (1 : Int32) else 0) (j + 1) = sumN (fun d => if s (oD d 0) = 0 then 1 else 0) j + (if s (oD j 0) = 0 then 1 else 0) := rfl
    rw [show cst h 0 s0 c0 (j + 1) = cstb h 0 s0 j (cst h 0 s0 c0 j) from rfl, e2, e3, e1]
    unfold cstb
    rw [r0]
    by_cases z : s (oD j 0) = 0
    · rw [if_pos z, if_pos z]
      refine ⟨m + 1, by omega, nI_1 m, ?_⟩
      rw [show cs s s0 c0 (m + 1) = csB s s0 (cs s s0 c0 m) from rfl]
      generalize cs s s0 c0 m = q
      have n8 : h.1 (1, 0, 0) 8 = s 8 := hs.1.1 8 (by decide)
      have n5 : h.1 (1, 0, 0) 5 = s 5 := hs.1.1 5 (by decide)
      have na : cadd h 0 = s 1 - s 4 := by
        unfold cadd
        rw [hs.1.1 1 (by decide), hs.1.1 4 (by decide)]
      unfold csB cmay
      rw [n8, n5, na, i_sub_add, Int32.add_zero, Int32.add_zero]
      by_cases z8 : s 8 ≤ s0 + q.2
      · rw [if_pos z8, if_pos rfl, if_pos (Or.inl z8)]
      · rw [if_neg z8]
        by_cases z5 : s 5 < q.1 + (s 1 - s 4)
        · rw [if_pos z5, if_pos rfl, if_pos (Or.inr z5)]
        · rw [if_neg z5, if_neg (show ¬ (1 : Int32) = 0 by decide), if_neg (fun t => t.elim z8 z5)]
    · rw [if_neg z, if_neg z]
      exact ⟨m, by omega, Int32.add_zero _, rfl⟩
theorem st_could (n : Nat) : Step (n + 10) 78 140 [] := by
  intro h hs
  obtain ⟨c, hc⟩ := hs.1.sr
  have h1 := c_couldStart (n + 6) h
  obtain ⟨m, hm, e1, e2⟩ := could_eq hc (cthat h 0 1) (sumN (ccur h 0) 12) 12 (Nat.le_refl _)
  have h2 := m_couldStart (n + 5) h (h.1 (15, 0, 0)) (h.1 (20, 0, 0)) hc.2.2.2.1 hc.2.2.1 (m := m) e1 hm
  rw [hp_at] at h2
  have e : cstartable h 0 = (if h.1 (15, 0, 0) 15 = 0 then (cs (h.1 (15, 0, 0)) (mthat (h.1 (15, 0, 0)) 1) (mcurN (h.1 (15, 0, 0)) c) m).2 else 0) := by
    unfold cstartable
    have r10 : h.1 (0, 0, 0) 10 = h.1 (15, 0, 0) 15 := hc.1.2.1 10 (by decide) (by decide)
    rw [r10, e2, that_eq hc, sumcur hc]
  rw [e] at h1
  exact ⟨_, h, h, h1, h2, hs⟩
