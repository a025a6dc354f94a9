/-! the law's loop -/
theorem n34 {κ : DKey} (h : κ.1 < 21) : ((34, 0, 0) : DKey) ≠ κ := fun e => by rw [← e] at h; exact absurd h (by decide)
theorem darr_lt {κ : DKey} {t n : Nat} (h : darr κ = some (t, n)) (ht : t = 0 ∨ t = 4 ∨ t = 5) : κ.1 < 21 := by
  obtain ⟨k, i, j⟩ := κ
  unfold darr at h
  split at h
  all_goals first
    | (cases h; done)
    | (rename_i e; cases e; cases h; first | (dsimp only; decide) | exact absurd ht (by decide))
def Sc (h h' : DH) : Prop := h'.1 (34, 0, 0) = h.1 (34, 0, 0) ∧ h'.2 (34, 0, 0) = h.2 (34, 0, 0)
theorem Sc.u1 {h : DH} {κ : DKey} {k : Nat} {x : Int32} (hκ : κ.1 < 21) : Sc h (up1 h κ k x) := ⟨up1_ne _ _ _ (n34 hκ), rfl⟩
theorem Sc.u2 {h : DH} {κ : DKey} {k x : Nat} (hκ : κ.1 < 21) : Sc h (up2 h κ k x) := ⟨rfl, up2_ne _ _ _ (n34 hκ)⟩
theorem dput_lt {a b : Nat} {κ : DKey} (h : dputf a b κ = true) : κ.1 < 21 := by
  unfold dputf at h
  simp only [Bool.and_eq_true] at h
  exact Nat.blt_eq.mp h.1.2
theorem d34_step {T : DTbl} {A B : DS} {P : Option Prop} (h : dstep T A = some (P, B)) : Sc A.2.2.2 B.2.2.2 := by
  obtain ⟨pc, L, st, g⟩ := A
  unfold dstep at h
  dsimp only at h
  cases ho : dop T pc with
  | none => rw [ho] at h; cases h
  | some op =>
  obtain ⟨c, a, b, nx, v, ts⟩ := op
  rw [ho] at h
  dsimp only at h
  split at h
  all_goals first
    | (cases h; done)
    | (cases h; exact ⟨rfl, rfl⟩)
    | (split at h <;> first | (cases h; exact ⟨rfl, rfl⟩) | cases h)
    | (split at h
       · rw [dsetK_eq] at h; cases h; exact ⟨rfl, rfl⟩
       · cases h)
    | (split at h
       · split at h <;> first | (cases h; exact ⟨rfl, rfl⟩) | cases h
       · cases h)
    | (split at h
       · split at h <;> first | (split at h <;> first | (cases h; exact ⟨rfl, rfl⟩) | cases h) | cases h
       · cases h)
    | (split at h
       · simp only [cond] at h
         split at h
         · rename_i hp
           cases h
           exact Sc.u1 (dput_lt hp)
         · cases h
       · cases h)
    | (split at h
       · split at h
         · rename_i hd
           cases h
           exact Sc.u1 (darr_lt hd (by decide))
         · cases h
       · cases h)
    | (split at h
       · split at h
         · cases h; exact Sc.u2 (by show (3 : Nat) < 21; decide)
         · cases h; exact Sc.u2 (by show (8 : Nat) < 21; decide)
         · cases h
       · cases h)
    | (split at h
       · simp only [cond] at h
         split at h
         · cases h; exact ⟨rfl, rfl⟩
         · cases h
       · cases h)
theorem d34_run {T : DTbl} {C : DC} (hC : ∀ mid as h r, C mid as h r → Sc h r.2) : ∀ (n : Nat) (A : DS) (r : DRes), dRun T C n A r → Sc A.2.2.2 r.2 := by
  intro n
  induction n with
  | zero => intro A r h; cases h
  | succ n ih =>
    intro A r h
    rcases h with ⟨P, B, hs, hP, hn⟩ | ⟨mid, as, nx, L', st', v, h1, hc, hm, hn⟩ | ⟨G, hg, g⟩
    · have h1 := d34_step hs
      have h2 := ih B r hn
      exact ⟨h2.1.trans h1.1, h2.2.trans h1.2⟩
    · have h1 := hC _ _ _ _ hm
      have h2 := ih _ r hn
      exact ⟨h2.1.trans h1.1, h2.2.trans h1.2⟩
    · obtain ⟨pc, L, st, h0⟩ := A
      unfold dfin at hg
      dsimp only at hg
      split at hg
      all_goals first
        | (split at hg <;> first | (cases hg; exact ⟨rfl, rfl⟩) | cases hg)
        | cases hg
theorem d34 : ∀ (d mid : Nat) (as : List DV) (h : DH) (r : DRes), dEx d mid as h r → Sc h r.2 := by
  intro d
  induction d with
  | zero => intro mid as h r hx; cases hx
  | succ d ih =>
    intro mid as h r hx
    obtain ⟨q', hq', hlen, n, hrun⟩ := hx
    exact d34_run (fun mid as h r => ih mid as h r) n _ r hrun
def lawL (i : Nat) : List (Option DV) := [some (.inr (34, 0, 0)), some (.inr (6, 0, 0)), some (.inr (14, 0, 0)), some (.inl (nI i))]
set_option maxRecDepth 20000 in
theorem law_next (i : Nat) (h : DH) (r : DRes) (k : Runs dT_law (dEx 10) (18, lawL (i + 3), [], h) r) : Runs dT_law (dEx 10) (560, lawL i, [], h) r := by
  refine Runs.go 2 rfl trivial ?_
  rw [show (3 : Int32) = nI 3 from rfl, nI_add]
  exact k
set_option maxRecDepth 20000 in
theorem law_set {h : DH} {xs : Nat → Int32} {SL i : Nat} (hR : RR h) (hx : h.1 (34, 0, 0) = xs) (hl : h.2 (34, 0, 0) 0 = SL) (hi : i + 3 ≤ SL) (hSL : SL ≤ 1536) : ∃ h2, RR h2 ∧ h2.1 (34, 0, 0) = xs ∧ h2.2 (34, 0, 0) 0 = SL ∧ ∀ r, Runs dT_law (dEx 10) (18, lawL (i + 3), [], h2) r → Runs dT_law (dEx 10) (128, lawL i, [], h) r := by
  obtain ⟨v, h1, h2, c1, c2, r2⟩ := st_set 0 (xs (i + 1)) (xs (i + 2)) h hR
  have s1 := d34 _ _ _ _ _ c1
  have s2 := d34 _ _ _ _ _ c2
  have hx1 : h1.1 (34, 0, 0) = xs := s1.1.trans hx
  have hl1 : h1.2 (34, 0, 0) 0 = SL := (congrFun s1.2 0).trans hl
  have e1 : nI i + 1 = nI (i + 1) := nI_1 i
  have e2 : nI i + 2 = nI (i + 2) := nI_add i 2
  refine ⟨h2, r2, s2.1.trans hx1, (congrFun s2.2 0).trans hl1, fun r hr => ?_⟩
  refine Runs.go 11 rfl ⟨⟨trivial, (by rw [e1, hl]; exact i_in (show i + 1 < SL by omega) (by omega))⟩, (by rw [e2, hl]; exact i_in (show i + 2 < SL by omega) (by omega))⟩ ?_
  rw [e1, e2, i_cl (show i + 1 < 2 ^ 31 by omega), i_cl (show i + 2 < 2 ^ 31 by omega), hx]
  refine Runs.cal rfl c1 ?_
  refine Runs.go 11 rfl ⟨⟨trivial, (by rw [e1, hl1]; exact i_in (show i + 1 < SL by omega) (by omega))⟩, (by rw [e2, hl1]; exact i_in (show i + 2 < SL by omega) (by omega))⟩ ?_
  rw [e1, e2, i_cl (show i + 1 < 2 ^ 31 by omega), i_cl (show i + 2 < 2 ^ 31 by omega), hx1]
  refine Runs.cal rfl c2 ?_
  refine Runs.go 1 rfl trivial ?_
  refine Runs.ifT rfl ?_
  exact law_next i h2 r hr
set_option maxRecDepth 20000 in
theorem law_read {h : DH} {xs : Nat → Int32} {SL i : Nat} (hR : RR h) (hx : h.1 (34, 0, 0) = xs) (hl : h.2 (34, 0, 0) 0 = SL) (hi : i + 3 ≤ SL) (hSL : SL ≤ 1536) : ∃ h2, RR h2 ∧ h2.1 (34, 0, 0) = xs ∧ h2.2 (34, 0, 0) 0 = SL ∧ ∀ r, Runs dT_law (dEx 10) (18, lawL (i + 3), [], h2) r → Runs dT_law (dEx 10) (161, lawL i, [], h) r := by
  obtain ⟨v, h1, h2, c1, c2, r2⟩ := st_read 0 (xs (i + 1)) (xs (i + 2)) h hR
  have s1 := d34 _ _ _ _ _ c1
  have s2 := d34 _ _ _ _ _ c2
  have hx1 : h1.1 (34, 0, 0) = xs := s1.1.trans hx
  have hl1 : h1.2 (34, 0, 0) 0 = SL := (congrFun s1.2 0).trans hl
  have e1 : nI i + 1 = nI (i + 1) := nI_1 i
  have e2 : nI i + 2 = nI (i + 2) := nI_add i 2
  refine ⟨h2, r2, s2.1.trans hx1, (congrFun s2.2 0).trans hl1, fun r hr => ?_⟩
  refine Runs.go 11 rfl ⟨⟨trivial, (by rw [e1, hl]; exact i_in (show i + 1 < SL by omega) (by omega))⟩, (by rw [e2, hl]; exact i_in (show i + 2 < SL by omega) (by omega))⟩ ?_
  rw [e1, e2, i_cl (show i + 1 < 2 ^ 31 by omega), i_cl (show i + 2 < 2 ^ 31 by omega), hx]
  refine Runs.cal rfl c1 ?_
  refine Runs.go 11 rfl ⟨⟨trivial, (by rw [e1, hl1]; exact i_in (show i + 1 < SL by omega) (by omega))⟩, (by rw [e2, hl1]; exact i_in (show i + 2 < SL by omega) (by omega))⟩ ?_
  rw [e1, e2, i_cl (show i + 1 < 2 ^ 31 by omega), i_cl (show i + 2 < 2 ^ 31 by omega), hx1]
  refine Runs.cal rfl c2 ?_
  refine Runs.go 1 rfl trivial ?_
  refine Runs.ifT rfl ?_
  exact law_next i h2 r hr
set_option maxRecDepth 20000 in
theorem law_drop {h : DH} {xs : Nat → Int32} {SL i : Nat} (hR : RR h) (hx : h.1 (34, 0, 0) = xs) (hl : h.2 (34, 0, 0) 0 = SL) (hi : i + 3 ≤ SL) (hSL : SL ≤ 1536) : ∃ h2, RR h2 ∧ h2.1 (34, 0, 0) = xs ∧ h2.2 (34, 0, 0) 0 = SL ∧ ∀ r, Runs dT_law (dEx 10) (18, lawL (i + 3), [], h2) r → Runs dT_law (dEx 10) (194, lawL i, [], h) r := by
  obtain ⟨v, h1, h2, c1, c2, r2⟩ := st_drop 0 (xs (i + 1)) h hR
  have s1 := d34 _ _ _ _ _ c1
  have s2 := d34 _ _ _ _ _ c2
  have hx1 : h1.1 (34, 0, 0) = xs := s1.1.trans hx
  have hl1 : h1.2 (34, 0, 0) 0 = SL := (congrFun s1.2 0).trans hl
  have e1 : nI i + 1 = nI (i + 1) := nI_1 i
  have e2 : nI i + 2 = nI (i + 2) := nI_add i 2
  refine ⟨h2, r2, s2.1.trans hx1, (congrFun s2.2 0).trans hl1, fun r hr => ?_⟩
  refine Runs.go 6 rfl ⟨trivial, (by rw [e1, hl]; exact i_in (show i + 1 < SL by omega) (by omega))⟩ ?_
  rw [e1, i_cl (show i + 1 < 2 ^ 31 by omega), hx]
  refine Runs.cal rfl c1 ?_
  refine Runs.go 6 rfl ⟨trivial, (by rw [e1, hl1]; exact i_in (show i + 1 < SL by omega) (by omega))⟩ ?_
  rw [e1, i_cl (show i + 1 < 2 ^ 31 by omega), hx1]
  refine Runs.cal rfl c2 ?_
  refine Runs.go 1 rfl trivial ?_
  refine Runs.ifT rfl ?_
  exact law_next i h2 r hr
set_option maxRecDepth 20000 in
theorem law_fail {h : DH} {xs : Nat → Int32} {SL i : Nat} (hR : RR h) (hx : h.1 (34, 0, 0) = xs) (hl : h.2 (34, 0, 0) 0 = SL) (hi : i + 3 ≤ SL) (hSL : SL ≤ 1536) : ∃ h2, RR h2 ∧ h2.1 (34, 0, 0) = xs ∧ h2.2 (34, 0, 0) 0 = SL ∧ ∀ r, Runs dT_law (dEx 10) (18, lawL (i + 3), [], h2) r → Runs dT_law (dEx 10) (217, lawL i, [], h) r := by
  obtain ⟨v, h1, h2, c1, c2, r2⟩ := st_fail 0 (xs (i + 1)) h hR
  have s1 := d34 _ _ _ _ _ c1
  have s2 := d34 _ _ _ _ _ c2
  have hx1 : h1.1 (34, 0, 0) = xs := s1.1.trans hx
  have hl1 : h1.2 (34, 0, 0) 0 = SL := (congrFun s1.2 0).trans hl
  have e1 : nI i + 1 = nI (i + 1) := nI_1 i
  have e2 : nI i + 2 = nI (i + 2) := nI_add i 2
  refine ⟨h2, r2, s2.1.trans hx1, (congrFun s2.2 0).trans hl1, fun r hr => ?_⟩
  refine Runs.go 6 rfl ⟨trivial, (by rw [e1, hl]; exact i_in (show i + 1 < SL by omega) (by omega))⟩ ?_
  rw [e1, i_cl (show i + 1 < 2 ^ 31 by omega), hx]
  refine Runs.cal rfl c1 ?_
  refine Runs.go 6 rfl ⟨trivial, (by rw [e1, hl1]; exact i_in (show i + 1 < SL by omega) (by omega))⟩ ?_
  rw [e1, i_cl (show i + 1 < 2 ^ 31 by omega), hx1]
  refine Runs.cal rfl c2 ?_
  refine Runs.go 1 rfl trivial ?_
  refine Runs.ifT rfl ?_
  exact law_next i h2 r hr
set_option maxRecDepth 20000 in
theorem law_replace {h : DH} {xs : Nat → Int32} {SL i : Nat} (hR : RR h) (hx : h.1 (34, 0, 0) = xs) (hl : h.2 (34, 0, 0) 0 = SL) (hi : i + 3 ≤ SL) (hSL : SL ≤ 1536) : ∃ h2, RR h2 ∧ h2.1 (34, 0, 0) = xs ∧ h2.2 (34, 0, 0) 0 = SL ∧ ∀ r, Runs dT_law (dEx 10) (18, lawL (i + 3), [], h2) r → Runs dT_law (dEx 10) (240, lawL i, [], h) r := by
  obtain ⟨v, h1, h2, c1, c2, r2⟩ := st_replace 0 (xs (i + 1)) h hR
  have s1 := d34 _ _ _ _ _ c1
  have s2 := d34 _ _ _ _ _ c2
  have hx1 : h1.1 (34, 0, 0) = xs := s1.1.trans hx
  have hl1 : h1.2 (34, 0, 0) 0 = SL := (congrFun s1.2 0).trans hl
  have e1 : nI i + 1 = nI (i + 1) := nI_1 i
  have e2 : nI i + 2 = nI (i + 2) := nI_add i 2
  refine ⟨h2, r2, s2.1.trans hx1, (congrFun s2.2 0).trans hl1, fun r hr => ?_⟩
  refine Runs.go 6 rfl ⟨trivial, (by rw [e1, hl]; exact i_in (show i + 1 < SL by omega) (by omega))⟩ ?_
  rw [e1, i_cl (show i + 1 < 2 ^ 31 by omega), hx]
  refine Runs.cal rfl c1 ?_
  refine Runs.go 6 rfl ⟨trivial, (by rw [e1, hl1]; exact i_in (show i + 1 < SL by omega) (by omega))⟩ ?_
  rw [e1, i_cl (show i + 1 < 2 ^ 31 by omega), hx1]
  refine Runs.cal rfl c2 ?_
  refine Runs.go 1 rfl trivial ?_
  refine Runs.ifT rfl ?_
  exact law_next i h2 r hr
set_option maxRecDepth 20000 in
theorem law_fuse {h : DH} {xs : Nat → Int32} {SL i : Nat} (hR : RR h) (hx : h.1 (34, 0, 0) = xs) (hl : h.2 (34, 0, 0) 0 = SL) (hi : i + 3 ≤ SL) (hSL : SL ≤ 1536) : ∃ h2, RR h2 ∧ h2.1 (34, 0, 0) = xs ∧ h2.2 (34, 0, 0) 0 = SL ∧ ∀ r, Runs dT_law (dEx 10) (18, lawL (i + 3), [], h2) r → Runs dT_law (dEx 10) (263, lawL i, [], h) r := by
  obtain ⟨v, h1, h2, c1, c2, r2⟩ := st_fuse 0 h hR
  have s1 := d34 _ _ _ _ _ c1
  have s2 := d34 _ _ _ _ _ c2
  have hx1 : h1.1 (34, 0, 0) = xs := s1.1.trans hx
  have hl1 : h1.2 (34, 0, 0) 0 = SL := (congrFun s1.2 0).trans hl
  have e1 : nI i + 1 = nI (i + 1) := nI_1 i
  have e2 : nI i + 2 = nI (i + 2) := nI_add i 2
  refine ⟨h2, r2, s2.1.trans hx1, (congrFun s2.2 0).trans hl1, fun r hr => ?_⟩
  refine Runs.go 1 rfl trivial ?_
  refine Runs.cal rfl c1 ?_
  refine Runs.go 1 rfl trivial ?_
  refine Runs.cal rfl c2 ?_
  refine Runs.go 1 rfl trivial ?_
  refine Runs.ifT rfl ?_
  exact law_next i h2 r hr
set_option maxRecDepth 20000 in
theorem law_run {h : DH} {xs : Nat → Int32} {SL i : Nat} (hR : RR h) (hx : h.1 (34, 0, 0) = xs) (hl : h.2 (34, 0, 0) 0 = SL) (hi : i + 3 ≤ SL) (hSL : SL ≤ 1536) : ∃ h2, RR h2 ∧ h2.1 (34, 0, 0) = xs ∧ h2.2 (34, 0, 0) 0 = SL ∧ ∀ r, Runs dT_law (dEx 10) (18, lawL (i + 3), [], h2) r → Runs dT_law (dEx 10) (276, lawL i, [], h) r := by
  obtain ⟨v, h1, h2, c1, c2, r2⟩ := st_run 0 (xs (i + 1)) h hR
  have s1 := d34 _ _ _ _ _ c1
  have s2 := d34 _ _ _ _ _ c2
  have hx1 : h1.1 (34, 0, 0) = xs := s1.1.trans hx
  have hl1 : h1.2 (34, 0, 0) 0 = SL := (congrFun s1.2 0).trans hl
  have e1 : nI i + 1 = nI (i + 1) := nI_1 i
  have e2 : nI i + 2 = nI (i + 2) := nI_add i 2
  refine ⟨h2, r2, s2.1.trans hx1, (congrFun s2.2 0).trans hl1, fun r hr => ?_⟩
  refine Runs.go 6 rfl ⟨trivial, (by rw [e1, hl]; exact i_in (show i + 1 < SL by omega) (by omega))⟩ ?_
  rw [e1, i_cl (show i + 1 < 2 ^ 31 by omega), hx]
  refine Runs.cal rfl c1 ?_
  refine Runs.go 6 rfl ⟨trivial, (by rw [e1, hl1]; exact i_in (show i + 1 < SL by omega) (by omega))⟩ ?_
  rw [e1, i_cl (show i + 1 < 2 ^ 31 by omega), hx1]
  refine Runs.cal rfl c2 ?_
  refine Runs.go 1 rfl trivial ?_
  refine Runs.ifT rfl ?_
  exact law_next i h2 r hr
set_option maxRecDepth 20000 in
theorem law_type {h : DH} {xs : Nat → Int32} {SL i : Nat} (hR : RR h) (hx : h.1 (34, 0, 0) = xs) (hl : h.2 (34, 0, 0) 0 = SL) (hi : i + 3 ≤ SL) (hSL : SL ≤ 1536) : ∃ h2, RR h2 ∧ h2.1 (34, 0, 0) = xs ∧ h2.2 (34, 0, 0) 0 = SL ∧ ∀ r, Runs dT_law (dEx 10) (18, lawL (i + 3), [], h2) r → Runs dT_law (dEx 10) (299, lawL i, [], h) r := by
  obtain ⟨v, h1, h2, c1, c2, r2⟩ := st_type 0 (xs (i + 1)) h hR
  have s1 := d34 _ _ _ _ _ c1
  have s2 := d34 _ _ _ _ _ c2
  have hx1 : h1.1 (34, 0, 0) = xs := s1.1.trans hx
  have hl1 : h1.2 (34, 0, 0) 0 = SL := (congrFun s1.2 0).trans hl
  have e1 : nI i + 1 = nI (i + 1) := nI_1 i
  have e2 : nI i + 2 = nI (i + 2) := nI_add i 2
  refine ⟨h2, r2, s2.1.trans hx1, (congrFun s2.2 0).trans hl1, fun r hr => ?_⟩
  refine Runs.go 7 rfl ⟨trivial, (by rw [e1, hl]; exact i_in (show i + 1 < SL by omega) (by omega))⟩ ?_
  rw [e1, i_cl (show i + 1 < 2 ^ 31 by omega), hx]
  refine Runs.cal rfl c1 ?_
  refine Runs.go 7 rfl ⟨trivial, (by rw [e1, hl1]; exact i_in (show i + 1 < SL by omega) (by omega))⟩ ?_
  rw [e1, i_cl (show i + 1 < 2 ^ 31 by omega), hx1]
  refine Runs.cal rfl c2 ?_
  refine Runs.go 1 rfl trivial ?_
  refine Runs.ifT rfl ?_
  exact law_next i h2 r hr
set_option maxRecDepth 20000 in
theorem law_clear {h : DH} {xs : Nat → Int32} {SL i : Nat} (hR : RR h) (hx : h.1 (34, 0, 0) = xs) (hl : h.2 (34, 0, 0) 0 = SL) (hi : i + 3 ≤ SL) (hSL : SL ≤ 1536) : ∃ h2, RR h2 ∧ h2.1 (34, 0, 0) = xs ∧ h2.2 (34, 0, 0) 0 = SL ∧ ∀ r, Runs dT_law (dEx 10) (18, lawL (i + 3), [], h2) r → Runs dT_law (dEx 10) (324, lawL i, [], h) r := by
  obtain ⟨v, h1, h2, c1, c2, r2⟩ := st_clear 0 h hR
  have s1 := d34 _ _ _ _ _ c1
  have s2 := d34 _ _ _ _ _ c2
  have hx1 : h1.1 (34, 0, 0) = xs := s1.1.trans hx
  have hl1 : h1.2 (34, 0, 0) 0 = SL := (congrFun s1.2 0).trans hl
  have e1 : nI i + 1 = nI (i + 1) := nI_1 i
  have e2 : nI i + 2 = nI (i + 2) := nI_add i 2
  refine ⟨h2, r2, s2.1.trans hx1, (congrFun s2.2 0).trans hl1, fun r hr => ?_⟩
  refine Runs.go 1 rfl trivial ?_
  refine Runs.cal rfl c1 ?_
  refine Runs.go 1 rfl trivial ?_
  refine Runs.cal rfl c2 ?_
  refine Runs.go 1 rfl trivial ?_
  refine Runs.ifT rfl ?_
  exact law_next i h2 r hr
set_option maxRecDepth 20000 in
theorem law_perf {h : DH} {xs : Nat → Int32} {SL i : Nat} (hR : RR h) (hx : h.1 (34, 0, 0) = xs) (hl : h.2 (34, 0, 0) 0 = SL) (hi : i + 3 ≤ SL) (hSL : SL ≤ 1536) : ∃ h2, RR h2 ∧ h2.1 (34, 0, 0) = xs ∧ h2.2 (34, 0, 0) 0 = SL ∧ ∀ r, Runs dT_law (dEx 10) (18, lawL (i + 3), [], h2) r → Runs dT_law (dEx 10) (337, lawL i, [], h) r := by
  obtain ⟨v, h1, h2, c1, c2, r2⟩ := st_perf 0 h hR
  have s1 := d34 _ _ _ _ _ c1
  have s2 := d34 _ _ _ _ _ c2
  have hx1 : h1.1 (34, 0, 0) = xs := s1.1.trans hx
  have hl1 : h1.2 (34, 0, 0) 0 = SL := (congrFun s1.2 0).trans hl
  have e1 : nI i + 1 = nI (i + 1) := nI_1 i
  have e2 : nI i + 2 = nI (i + 2) := nI_add i 2
  refine ⟨h2, r2, s2.1.trans hx1, (congrFun s2.2 0).trans hl1, fun r hr => ?_⟩
  refine Runs.go 1 rfl trivial ?_
  refine Runs.cal rfl c1 ?_
  refine Runs.go 1 rfl trivial ?_
  refine Runs.cal rfl c2 ?_
  refine Runs.go 1 rfl trivial ?_
  refine Runs.ifT rfl ?_
  exact law_next i h2 r hr
set_option maxRecDepth 20000 in
theorem law_undo {h : DH} {xs : Nat → Int32} {SL i : Nat} (hR : RR h) (hx : h.1 (34, 0, 0) = xs) (hl : h.2 (34, 0, 0) 0 = SL) (hi : i + 3 ≤ SL) (hSL : SL ≤ 1536) : ∃ h2, RR h2 ∧ h2.1 (34, 0, 0) = xs ∧ h2.2 (34, 0, 0) 0 = SL ∧ ∀ r, Runs dT_law (dEx 10) (18, lawL (i + 3), [], h2) r → Runs dT_law (dEx 10) (350, lawL i, [], h) r := by
  obtain ⟨v, h1, h2, c1, c2, r2⟩ := st_undo 0 h hR
  have s1 := d34 _ _ _ _ _ c1
  have s2 := d34 _ _ _ _ _ c2
  have hx1 : h1.1 (34, 0, 0) = xs := s1.1.trans hx
  have hl1 : h1.2 (34, 0, 0) 0 = SL := (congrFun s1.2 0).trans hl
  have e1 : nI i + 1 = nI (i + 1) := nI_1 i
  have e2 : nI i + 2 = nI (i + 2) := nI_add i 2
  refine ⟨h2, r2, s2.1.trans hx1, (congrFun s2.2 0).trans hl1, fun r hr => ?_⟩
  refine Runs.go 1 rfl trivial ?_
  refine Runs.cal rfl c1 ?_
  refine Runs.go 1 rfl trivial ?_
  refine Runs.cal rfl c2 ?_
  refine Runs.go 1 rfl trivial ?_
  refine Runs.ifT rfl ?_
  exact law_next i h2 r hr
set_option maxRecDepth 20000 in
theorem law_keep {h : DH} {xs : Nat → Int32} {SL i : Nat} (hR : RR h) (hx : h.1 (34, 0, 0) = xs) (hl : h.2 (34, 0, 0) 0 = SL) (hi : i + 3 ≤ SL) (hSL : SL ≤ 1536) : ∃ h2, RR h2 ∧ h2.1 (34, 0, 0) = xs ∧ h2.2 (34, 0, 0) 0 = SL ∧ ∀ r, Runs dT_law (dEx 10) (18, lawL (i + 3), [], h2) r → Runs dT_law (dEx 10) (363, lawL i, [], h) r := by
  obtain ⟨v, h1, h2, c1, c2, r2⟩ := st_keep 0 h hR
  have s1 := d34 _ _ _ _ _ c1
  have s2 := d34 _ _ _ _ _ c2
  have hx1 : h1.1 (34, 0, 0) = xs := s1.1.trans hx
  have hl1 : h1.2 (34, 0, 0) 0 = SL := (congrFun s1.2 0).trans hl
  have e1 : nI i + 1 = nI (i + 1) := nI_1 i
  have e2 : nI i + 2 = nI (i + 2) := nI_add i 2
  refine ⟨h2, r2, s2.1.trans hx1, (congrFun s2.2 0).trans hl1, fun r hr => ?_⟩
  refine Runs.go 1 rfl trivial ?_
  refine Runs.cal rfl c1 ?_
  refine Runs.go 1 rfl trivial ?_
  refine Runs.cal rfl c2 ?_
  refine Runs.go 1 rfl trivial ?_
  refine Runs.ifT rfl ?_
  exact law_next i h2 r hr
set_option maxRecDepth 20000 in
theorem law_restore {h : DH} {xs : Nat → Int32} {SL i : Nat} (hR : RR h) (hx : h.1 (34, 0, 0) = xs) (hl : h.2 (34, 0, 0) 0 = SL) (hi : i + 3 ≤ SL) (hSL : SL ≤ 1536) : ∃ h2, RR h2 ∧ h2.1 (34, 0, 0) = xs ∧ h2.2 (34, 0, 0) 0 = SL ∧ ∀ r, Runs dT_law (dEx 10) (18, lawL (i + 3), [], h2) r → Runs dT_law (dEx 10) (376, lawL i, [], h) r := by
  obtain ⟨v, h1, h2, c1, c2, r2⟩ := st_restore 0 h hR
  have s1 := d34 _ _ _ _ _ c1
  have s2 := d34 _ _ _ _ _ c2
  have hx1 : h1.1 (34, 0, 0) = xs := s1.1.trans hx
  have hl1 : h1.2 (34, 0, 0) 0 = SL := (congrFun s1.2 0).trans hl
  have e1 : nI i + 1 = nI (i + 1) := nI_1 i
  have e2 : nI i + 2 = nI (i + 2) := nI_add i 2
  refine ⟨h2, r2, s2.1.trans hx1, (congrFun s2.2 0).trans hl1, fun r hr => ?_⟩
  refine Runs.go 1 rfl trivial ?_
  refine Runs.cal rfl c1 ?_
  refine Runs.go 1 rfl trivial ?_
  refine Runs.cal rfl c2 ?_
  refine Runs.go 1 rfl trivial ?_
  refine Runs.ifT rfl ?_
  exact law_next i h2 r hr
set_option maxRecDepth 20000 in
theorem law_disk {h : DH} {xs : Nat → Int32} {SL i : Nat} (hR : RR h) (hx : h.1 (34, 0, 0) = xs) (hl : h.2 (34, 0, 0) 0 = SL) (hi : i + 3 ≤ SL) (hSL : SL ≤ 1536) : ∃ h2, RR h2 ∧ h2.1 (34, 0, 0) = xs ∧ h2.2 (34, 0, 0) 0 = SL ∧ ∀ r, Runs dT_law (dEx 10) (18, lawL (i + 3), [], h2) r → Runs dT_law (dEx 10) (389, lawL i, [], h) r := by
  obtain ⟨v, h1, h2, c1, c2, r2⟩ := st_disk 0 (xs (i + 1)) (xs (i + 2)) h hR
  have s1 := d34 _ _ _ _ _ c1
  have s2 := d34 _ _ _ _ _ c2
  have hx1 : h1.1 (34, 0, 0) = xs := s1.1.trans hx
  have hl1 : h1.2 (34, 0, 0) 0 = SL := (congrFun s1.2 0).trans hl
  have e1 : nI i + 1 = nI (i + 1) := nI_1 i
  have e2 : nI i + 2 = nI (i + 2) := nI_add i 2
  refine ⟨h2, r2, s2.1.trans hx1, (congrFun s2.2 0).trans hl1, fun r hr => ?_⟩
  refine Runs.go 11 rfl ⟨⟨trivial, (by rw [e1, hl]; exact i_in (show i + 1 < SL by omega) (by omega))⟩, (by rw [e2, hl]; exact i_in (show i + 2 < SL by omega) (by omega))⟩ ?_
  rw [e1, e2, i_cl (show i + 1 < 2 ^ 31 by omega), i_cl (show i + 2 < 2 ^ 31 by omega), hx]
  refine Runs.cal rfl c1 ?_
  refine Runs.go 11 rfl ⟨⟨trivial, (by rw [e1, hl1]; exact i_in (show i + 1 < SL by omega) (by omega))⟩, (by rw [e2, hl1]; exact i_in (show i + 2 < SL by omega) (by omega))⟩ ?_
  rw [e1, e2, i_cl (show i + 1 < 2 ^ 31 by omega), i_cl (show i + 2 < 2 ^ 31 by omega), hx1]
  refine Runs.cal rfl c2 ?_
  refine Runs.go 1 rfl trivial ?_
  refine Runs.ifT rfl ?_
  exact law_next i h2 r hr
set_option maxRecDepth 20000 in
theorem law_readOf {h : DH} {xs : Nat → Int32} {SL i : Nat} (hR : RR h) (hx : h.1 (34, 0, 0) = xs) (hl : h.2 (34, 0, 0) 0 = SL) (hi : i + 3 ≤ SL) (hSL : SL ≤ 1536) : ∃ h2, RR h2 ∧ h2.1 (34, 0, 0) = xs ∧ h2.2 (34, 0, 0) 0 = SL ∧ ∀ r, Runs dT_law (dEx 10) (18, lawL (i + 3), [], h2) r → Runs dT_law (dEx 10) (422, lawL i, [], h) r := by
  obtain ⟨v, h1, h2, c1, c2, r2⟩ := st_readOf 0 (xs (i + 1)) (xs (i + 2)) h hR
  have s1 := d34 _ _ _ _ _ c1
  have s2 := d34 _ _ _ _ _ c2
  have hx1 : h1.1 (34, 0, 0) = xs := s1.1.trans hx
  have hl1 : h1.2 (34, 0, 0) 0 = SL := (congrFun s1.2 0).trans hl
  have e1 : nI i + 1 = nI (i + 1) := nI_1 i
  have e2 : nI i + 2 = nI (i + 2) := nI_add i 2
  refine ⟨h2, r2, s2.1.trans hx1, (congrFun s2.2 0).trans hl1, fun r hr => ?_⟩
  refine Runs.go 11 rfl ⟨⟨trivial, (by rw [e1, hl]; exact i_in (show i + 1 < SL by omega) (by omega))⟩, (by rw [e2, hl]; exact i_in (show i + 2 < SL by omega) (by omega))⟩ ?_
  rw [e1, e2, i_cl (show i + 1 < 2 ^ 31 by omega), i_cl (show i + 2 < 2 ^ 31 by omega), hx]
  refine Runs.cal rfl c1 ?_
  refine Runs.go 11 rfl ⟨⟨trivial, (by rw [e1, hl1]; exact i_in (show i + 1 < SL by omega) (by omega))⟩, (by rw [e2, hl1]; exact i_in (show i + 2 < SL by omega) (by omega))⟩ ?_
  rw [e1, e2, i_cl (show i + 1 < 2 ^ 31 by omega), i_cl (show i + 2 < 2 ^ 31 by omega), hx1]
  refine Runs.cal rfl c2 ?_
  refine Runs.go 1 rfl trivial ?_
  refine Runs.ifT rfl ?_
  exact law_next i h2 r hr
set_option maxRecDepth 20000 in
theorem law_could {h : DH} {xs : Nat → Int32} {SL i : Nat} (hR : RR h) (hx : h.1 (34, 0, 0) = xs) (hl : h.2 (34, 0, 0) 0 = SL) (hi : i + 3 ≤ SL) (hSL : SL ≤ 1536) : ∃ h2, RR h2 ∧ h2.1 (34, 0, 0) = xs ∧ h2.2 (34, 0, 0) 0 = SL ∧ ∀ r, Runs dT_law (dEx 10) (18, lawL (i + 3), [], h2) r → Runs dT_law (dEx 10) (455, lawL i, [], h) r := by
  obtain ⟨v, h1, h2, c1, c2, r2⟩ := st_could 0 h hR
  have s1 := d34 _ _ _ _ _ c1
  have s2 := d34 _ _ _ _ _ c2
  have hx1 : h1.1 (34, 0, 0) = xs := s1.1.trans hx
  have hl1 : h1.2 (34, 0, 0) 0 = SL := (congrFun s1.2 0).trans hl
  have e1 : nI i + 1 = nI (i + 1) := nI_1 i
  have e2 : nI i + 2 = nI (i + 2) := nI_add i 2
  refine ⟨h2, r2, s2.1.trans hx1, (congrFun s2.2 0).trans hl1, fun r hr => ?_⟩
  refine Runs.go 1 rfl trivial ?_
  refine Runs.cal rfl c1 ?_
  refine Runs.go 1 rfl trivial ?_
  refine Runs.cal rfl c2 ?_
  refine Runs.go 1 rfl trivial ?_
  refine Runs.ifT rfl ?_
  exact law_next i h2 r hr
set_option maxRecDepth 20000 in
theorem law_ans {h : DH} {xs : Nat → Int32} {SL i : Nat} (hR : RR h) (hx : h.1 (34, 0, 0) = xs) (hl : h.2 (34, 0, 0) 0 = SL) (hi : i + 3 ≤ SL) (hSL : SL ≤ 1536) : ∃ h2, RR h2 ∧ h2.1 (34, 0, 0) = xs ∧ h2.2 (34, 0, 0) 0 = SL ∧ ∀ r, Runs dT_law (dEx 10) (18, lawL (i + 3), [], h2) r → Runs dT_law (dEx 10) (468, lawL i, [], h) r := by
  obtain ⟨v, h1, h2, c1, c2, r2⟩ := st_ans 0 (xs (i + 1)) h hR
  have s1 := d34 _ _ _ _ _ c1
  have s2 := d34 _ _ _ _ _ c2
  have hx1 : h1.1 (34, 0, 0) = xs := s1.1.trans hx
  have hl1 : h1.2 (34, 0, 0) 0 = SL := (congrFun s1.2 0).trans hl
  have e1 : nI i + 1 = nI (i + 1) := nI_1 i
  have e2 : nI i + 2 = nI (i + 2) := nI_add i 2
  refine ⟨h2, r2, s2.1.trans hx1, (congrFun s2.2 0).trans hl1, fun r hr => ?_⟩
  refine Runs.go 6 rfl ⟨trivial, (by rw [e1, hl]; exact i_in (show i + 1 < SL by omega) (by omega))⟩ ?_
  rw [e1, i_cl (show i + 1 < 2 ^ 31 by omega), hx]
  refine Runs.cal rfl c1 ?_
  refine Runs.go 6 rfl ⟨trivial, (by rw [e1, hl1]; exact i_in (show i + 1 < SL by omega) (by omega))⟩ ?_
  rw [e1, i_cl (show i + 1 < 2 ^ 31 by omega), hx1]
  refine Runs.cal rfl c2 ?_
  refine Runs.go 1 rfl trivial ?_
  refine Runs.ifT rfl ?_
  exact law_next i h2 r hr
set_option maxRecDepth 20000 in
theorem law_ifAt {h : DH} {xs : Nat → Int32} {SL i : Nat} (hR : RR h) (hx : h.1 (34, 0, 0) = xs) (hl : h.2 (34, 0, 0) 0 = SL) (hi : i + 3 ≤ SL) (hSL : SL ≤ 1536) : ∃ h2, RR h2 ∧ h2.1 (34, 0, 0) = xs ∧ h2.2 (34, 0, 0) 0 = SL ∧ ∀ r, Runs dT_law (dEx 10) (18, lawL (i + 3), [], h2) r → Runs dT_law (dEx 10) (491, lawL i, [], h) r := by
  obtain ⟨v, h1, h2, c1, c2, r2⟩ := st_ifAt 0 (xs (i + 1)) (xs (i + 2)) h hR
  have s1 := d34 _ _ _ _ _ c1
  have s2 := d34 _ _ _ _ _ c2
  have hx1 : h1.1 (34, 0, 0) = xs := s1.1.trans hx
  have hl1 : h1.2 (34, 0, 0) 0 = SL := (congrFun s1.2 0).trans hl
  have e1 : nI i + 1 = nI (i + 1) := nI_1 i
  have e2 : nI i + 2 = nI (i + 2) := nI_add i 2
  refine ⟨h2, r2, s2.1.trans hx1, (congrFun s2.2 0).trans hl1, fun r hr => ?_⟩
  refine Runs.go 11 rfl ⟨⟨trivial, (by rw [e1, hl]; exact i_in (show i + 1 < SL by omega) (by omega))⟩, (by rw [e2, hl]; exact i_in (show i + 2 < SL by omega) (by omega))⟩ ?_
  rw [e1, e2, i_cl (show i + 1 < 2 ^ 31 by omega), i_cl (show i + 2 < 2 ^ 31 by omega), hx]
  refine Runs.cal rfl c1 ?_
  refine Runs.go 11 rfl ⟨⟨trivial, (by rw [e1, hl1]; exact i_in (show i + 1 < SL by omega) (by omega))⟩, (by rw [e2, hl1]; exact i_in (show i + 2 < SL by omega) (by omega))⟩ ?_
  rw [e1, e2, i_cl (show i + 1 < 2 ^ 31 by omega), i_cl (show i + 2 < 2 ^ 31 by omega), hx1]
  refine Runs.cal rfl c2 ?_
  refine Runs.go 1 rfl trivial ?_
  refine Runs.ifT rfl ?_
  exact law_next i h2 r hr
set_option maxRecDepth 20000 in
theorem law_best {h : DH} {xs : Nat → Int32} {SL i : Nat} (hR : RR h) (hx : h.1 (34, 0, 0) = xs) (hl : h.2 (34, 0, 0) 0 = SL) (hi : i + 3 ≤ SL) (hSL : SL ≤ 1536) : ∃ h2, RR h2 ∧ h2.1 (34, 0, 0) = xs ∧ h2.2 (34, 0, 0) 0 = SL ∧ ∀ r, Runs dT_law (dEx 10) (18, lawL (i + 3), [], h2) r → Runs dT_law (dEx 10) (524, lawL i, [], h) r := by
  obtain ⟨v, h1, h2, c1, c2, r2⟩ := st_best 0 h hR
  have s1 := d34 _ _ _ _ _ c1
  have s2 := d34 _ _ _ _ _ c2
  have hx1 : h1.1 (34, 0, 0) = xs := s1.1.trans hx
  have hl1 : h1.2 (34, 0, 0) 0 = SL := (congrFun s1.2 0).trans hl
  have e1 : nI i + 1 = nI (i + 1) := nI_1 i
  have e2 : nI i + 2 = nI (i + 2) := nI_add i 2
  refine ⟨h2, r2, s2.1.trans hx1, (congrFun s2.2 0).trans hl1, fun r hr => ?_⟩
  refine Runs.go 1 rfl trivial ?_
  refine Runs.cal rfl c1 ?_
  refine Runs.go 1 rfl trivial ?_
  refine Runs.cal rfl c2 ?_
  refine Runs.go 1 rfl trivial ?_
  refine Runs.ifT rfl ?_
  exact law_next i h2 r hr
set_option maxRecDepth 20000 in
theorem law_count {h : DH} {xs : Nat → Int32} {SL i : Nat} (hR : RR h) (hx : h.1 (34, 0, 0) = xs) (hl : h.2 (34, 0, 0) 0 = SL) (hi : i + 3 ≤ SL) (hSL : SL ≤ 1536) : ∃ h2, RR h2 ∧ h2.1 (34, 0, 0) = xs ∧ h2.2 (34, 0, 0) 0 = SL ∧ ∀ r, Runs dT_law (dEx 10) (18, lawL (i + 3), [], h2) r → Runs dT_law (dEx 10) (537, lawL i, [], h) r := by
  obtain ⟨v, h1, h2, c1, c2, r2⟩ := st_count 0 (xs (i + 1)) h hR
  have s1 := d34 _ _ _ _ _ c1
  have s2 := d34 _ _ _ _ _ c2
  have hx1 : h1.1 (34, 0, 0) = xs := s1.1.trans hx
  have hl1 : h1.2 (34, 0, 0) 0 = SL := (congrFun s1.2 0).trans hl
  have e1 : nI i + 1 = nI (i + 1) := nI_1 i
  have e2 : nI i + 2 = nI (i + 2) := nI_add i 2
  refine ⟨h2, r2, s2.1.trans hx1, (congrFun s2.2 0).trans hl1, fun r hr => ?_⟩
  refine Runs.go 6 rfl ⟨trivial, (by rw [e1, hl]; exact i_in (show i + 1 < SL by omega) (by omega))⟩ ?_
  rw [e1, i_cl (show i + 1 < 2 ^ 31 by omega), hx]
  refine Runs.cal rfl c1 ?_
  refine Runs.go 6 rfl ⟨trivial, (by rw [e1, hl1]; exact i_in (show i + 1 < SL by omega) (by omega))⟩ ?_
  rw [e1, i_cl (show i + 1 < 2 ^ 31 by omega), hx1]
  refine Runs.cal rfl c2 ?_
  refine Runs.go 1 rfl trivial ?_
  refine Runs.ifT rfl ?_
  exact law_next i h2 r hr
set_option maxRecDepth 20000 in
theorem law_loop {xs : Nat → Int32} {SL : Nat} (hSL : SL ≤ 1536) : ∀ (m i : Nat) (h : DH), SL - i ≤ m → i ≤ SL → RR h → h.1 (34, 0, 0) = xs → h.2 (34, 0, 0) 0 = SL → ∃ h', Runs dT_law (dEx 10) (18, lawL i, [], h) (some (.inl 1), h') := by
  intro m
  induction m with
  | zero =>
    intro i h hm hi hR hx hl
    refine ⟨h, ?_⟩
    refine Runs.go 6 rfl trivial ?_
    rw [hl]
    have e : nI SL - 3 < nI i := by
      rw [Int32.lt_iff_toInt_lt, show (3 : Int32) = nI 3 from rfl]
      by_cases z : 3 ≤ SL
      · rw [pk_sub z, ← Int32.lt_iff_toInt_lt]
        exact nI_lt (by omega) (by omega)
      · have : SL = 0 ∨ SL = 1 ∨ SL = 2 := by omega
        have ei : i = SL := by omega
        rw [ei]
        rcases this with rfl | rfl | rfl <;> decide
    refine Runs.ifT e ?_
    refine Runs.go 1 rfl trivial ?_
    exact Runs.fin rfl trivial
  | succ m ih =>
    intro i h hm hi hR hx hl
    by_cases z : SL < i + 3
    · refine ⟨h, ?_⟩
      refine Runs.go 6 rfl trivial ?_
      rw [hl]
      have e : nI SL - 3 < nI i := by
        rw [Int32.lt_iff_toInt_lt, show (3 : Int32) = nI 3 from rfl]
        by_cases z : 3 ≤ SL
        · rw [pk_sub z, ← Int32.lt_iff_toInt_lt]
          exact nI_lt (by omega) (by omega)
        · have : SL = 0 ∨ SL = 1 ∨ SL = 2 := by omega
          have hi2 : i = 0 ∨ i = 1 ∨ i = 2 := by omega
          rcases this with rfl | rfl | rfl <;> rcases hi2 with rfl | rfl | rfl <;> first | decide | omega
      refine Runs.ifT e ?_
      refine Runs.go 1 rfl trivial ?_
      exact Runs.fin rfl trivial
    · have hi3 : i + 3 ≤ SL := by omega
      have next : ∀ (pc : Nat), (∃ h2, RR h2 ∧ h2.1 (34, 0, 0) = xs ∧ h2.2 (34, 0, 0) 0 = SL ∧ ∀ r, Runs dT_law (dEx 10) (18, lawL (i + 3), [], h2) r → Runs dT_law (dEx 10) (pc, lawL i, [], h) r) → ∃ h', Runs dT_law (dEx 10) (pc, lawL i, [], h) (some (.inl 1), h') := by
        rintro pc ⟨h2, r2, x2, l2, k⟩
        obtain ⟨h', hr⟩ := ih (i + 3) h2 (by omega) hi3 r2 x2 l2
        exact ⟨h', k _ hr⟩
      have head : ∀ r, Runs dT_law (dEx 10) (dtsw 560 0 [128, 161, 194, 217, 240, 263, 276, 299, 324, 337, 350, 363, 376, 389, 422, 455, 468, 491, 524, 537] (xs i &&& 31), lawL i, [], h) r → Runs dT_law (dEx 10) (18, lawL i, [], h) r := by
        intro r hr
        refine Runs.go 6 rfl trivial ?_
        rw [hl]
        have e : ¬ nI SL - 3 < nI i := by
          rw [show (3 : Int32) = nI 3 from rfl, pk_sub (by omega)]
          exact nI_nlt (by omega) (by omega)
        refine Runs.ifF e ?_
        refine Runs.go 6 rfl ⟨trivial, (by rw [hl]; exact i_in (show i < SL by omega) (by omega))⟩ ?_
        rw [i_cl (show i < 2 ^ 31 by omega), hx]
        exact hr
      have sw : ∀ (pc : Nat) (h' : DH), dtsw 560 0 [128, 161, 194, 217, 240, 263, 276, 299, 324, 337, 350, 363, 376, 389, 422, 455, 468, 491, 524, 537] (xs i &&& 31) = pc → Runs dT_law (dEx 10) (pc, lawL i, [], h) (some (.inl 1), h') → Runs dT_law (dEx 10) (18, lawL i, [], h) (some (.inl 1), h') := by
        intro pc h' e hr
        refine head _ ?_
        rw [e]
        exact hr
      have mem : ∀ (d : Nat) (ts : List Nat) (v x : Int32), dtsw d v ts x = d ∨ dtsw d v ts x ∈ ts := by
        intro d ts
        induction ts with
        | nil => intro v x; exact Or.inl rfl
        | cons t ts ih2 =>
          intro v x
          show (if x = v then t else dtsw d (v + 1) ts x) = d ∨ (if x = v then t else dtsw d (v + 1) ts x) ∈ t :: ts
          by_cases q : x = v
          · rw [if_pos q]; exact Or.inr List.mem_cons_self
          · rw [if_neg q]
            rcases ih2 (v + 1) x with u | u
            · exact Or.inl u
            · exact Or.inr (List.mem_cons_of_mem _ u)
      have all : ∀ pc, (pc = 560 ∨ pc ∈ [128, 161, 194, 217, 240, 263, 276, 299, 324, 337, 350, 363, 376, 389, 422, 455, 468, 491, 524, 537]) → ∃ h', Runs dT_law (dEx 10) (pc, lawL i, [], h) (some (.inl 1), h') := by
        intro pc hp
        rcases hp with rfl | hp
        · obtain ⟨h', hr⟩ := ih (i + 3) h (by omega) hi3 hR hx hl
          exact ⟨h', law_next i h _ hr⟩
        · simp only [List.mem_cons, List.not_mem_nil, or_false] at hp
          rcases hp with rfl | rfl | rfl | rfl | rfl | rfl | rfl | rfl | rfl | rfl | rfl | rfl | rfl | rfl | rfl | rfl | rfl | rfl | rfl | rfl
          · exact next _ (law_set hR hx hl hi3 hSL)
          · exact next _ (law_read hR hx hl hi3 hSL)
          · exact next _ (law_drop hR hx hl hi3 hSL)
          · exact next _ (law_fail hR hx hl hi3 hSL)
          · exact next _ (law_replace hR hx hl hi3 hSL)
          · exact next _ (law_fuse hR hx hl hi3 hSL)
          · exact next _ (law_run hR hx hl hi3 hSL)
          · exact next _ (law_type hR hx hl hi3 hSL)
          · exact next _ (law_clear hR hx hl hi3 hSL)
          · exact next _ (law_perf hR hx hl hi3 hSL)
          · exact next _ (law_undo hR hx hl hi3 hSL)
          · exact next _ (law_keep hR hx hl hi3 hSL)
          · exact next _ (law_restore hR hx hl hi3 hSL)
          · exact next _ (law_disk hR hx hl hi3 hSL)
          · exact next _ (law_readOf hR hx hl hi3 hSL)
          · exact next _ (law_could hR hx hl hi3 hSL)
          · exact next _ (law_ans hR hx hl hi3 hSL)
          · exact next _ (law_ifAt hR hx hl hi3 hSL)
          · exact next _ (law_best hR hx hl hi3 hSL)
          · exact next _ (law_count hR hx hl hi3 hSL)
      obtain ⟨h', hr⟩ := all _ (mem 560 [128, 161, 194, 217, 240, 263, 276, 299, 324, 337, 350, 363, 376, 389, 422, 455, 468, 491, 524, 537] 0 (xs i &&& 31))
      exact ⟨h', sw _ h' rfl hr⟩
