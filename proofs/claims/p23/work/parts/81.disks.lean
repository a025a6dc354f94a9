/-! areDisksSo, behind its array -/
theorem SR.ub {h : DH} {i c : Nat} {s : Nat → Int32} (hs : SR h i c s) {κ : DKey} (hκ : 5 < κ.1) (b : Nat → Int32) : SR (ub h κ b) i c s := hs.fr (fun k m hk => ⟨ub_n h b (fun e => by rw [← e] at hκ; dsimp only at hκ; omega), rfl⟩)
theorem PR.ub {h : DH} {s : Nat → Int32} {l : List (Nat → Int32)} (hs : PR h s l) {κ : DKey} (hκ : 8 < κ.1) (b : Nat → Int32) : PR (ub h κ b) s l := by
  have E : ∀ j, Eq5 j h ((fun q => if q = κ then b else h.1 q, h.2)) := fun j k m hk => ⟨ub_n h b (fun e => by rw [← e] at hκ; dsimp only at hκ; omega), rfl⟩
  exact ⟨hs.1.fr (E 0), hs.2.1.fr (E 1), hs.2.2.cg (ub_n h b (fun e => by rw [← e] at hκ; dsimp only at hκ; omega)) rfl (fun j _ => E j)⟩
def gk (s : Nat → Int32) (g0 : Nat → Int32) : Nat → (Nat → Int32)
  | 0 => g0
  | k + 1 => upd (gk s g0 k) (s (oD k 0)).toNatClampNeg (gk s g0 k (s (oD k 0)).toNatClampNeg + 1)
theorem gk_at {s g0 : Nat → Int32} (h0 : ∀ j, j < 4 → g0 j = 0) (hd : ∀ e, e < 12 → DInv s e) : ∀ k, k ≤ 12 → ∀ j, j < 4 → gk s g0 k j = sumN (fun e => if s (oD e 0) = nI j then 1 else 0) k := by
  intro k
  induction k with
  | zero => exact fun _ j hj => h0 j hj
  | succ k ih =>
    intro hk j hj
    obtain ⟨v, hv, e⟩ := (hd k (by omega)).1
    show upd (gk s g0 k) (s (oD k 0)).toNatClampNeg (gk s g0 k (s (oD k 0)).toNatClampNeg + 1) j = sumN (fun e => if s (oD e 0) = nI j then 1 else 0) k + (if s (oD k 0) = nI j then 1 else 0)
    rw [e, i_cl (show v < 2 ^ 31 by omega)]
    by_cases z : j = v
    · subst z
      rw [upd_s, if_pos rfl, ih (by omega) j hj]
    · rw [upd_n _ _ z, if_neg (fun t => z (nI_inj (by omega) (by omega) t).symm), ih (by omega) j hj, Int32.add_zero]
def lo7 (s : Nat → Int32) : Nat → Option DV
  | 0 => none
  | k + 1 => some (.inl (s (oD k 0)))
theorem l_disks (n : Nat) {h : DH} {s : Nat → Int32} {l : List (Nat → Int32)} (hs : PR h s l) {g0 : Nat → Int32} (h0 : ∀ j, j < 4 → g0 j = 0) : Runs dT_disks (dEx (n + 6)) (11, [some (.inr (6, 0, 0)), some (.inl 0), some (.inl 0), some (.inl 0), some (.inr (35, 0, 0)), none, none, none], [], ub h (35, 0, 0) g0) (some (.inl 1), ub h (35, 0, 0) (gk s g0 12)) := by
  obtain ⟨c, hc⟩ := hs.sr
  obtain ⟨T, hq, -, -⟩ := hs.1.T
  have di := hc.2.2.2.2.2.2.2.2.2.1
  have q1 := hq.2.2.1
  have hub : ∀ g, SR (ub h (35, 0, 0) g) 0 c s := fun g => hc.ub (by decide) g
  have hgk := gk_at h0 di 12 (Nat.le_refl _)
  generalize hr : ((some (.inl 1) : Option DV), ub h (35, 0, 0) (gk s g0 12)) = r
  refine Runs.go 4 rfl trivial ?_
  refine Runs.loop 12 (fun k => (17, [some (.inr (6, 0, 0)), some (.inl (sumN (mcur s c) k)), some (.inl (sumN (fun d => mahd s (nI d) c) k)), some (.inl (sumN (fun d => s (oD d 5)) k)), some (.inr (35, 0, 0)), some (.inl 1), some (.inl (nI k)), lo7 s k], [], ub h (35, 0, 0) (gk s g0 k))) (fun k hk ih => ?_) ?_
  · refine Runs.go 3 rfl trivial ?_
    refine Runs.ifF (i_ge hk (by decide)) ?_
    refine Runs.go 3 rfl trivial ?_
    refine Runs.cal rfl (c_diskT (n + 2) 0 _ (hub _) hk) ?_
    rw [show mtd s c k 0 = s (oD k 0) from rfl]
    obtain ⟨v, hv, ev⟩ := (di k hk).1
    have hin : vp_in (s (oD k 0)) 4 := by rw [ev]; exact i_in hv (by decide)
    refine Runs.go 12 rfl ⟨⟨trivial, hin⟩, hin⟩ ?_
    rw [ub_s, ub_up, show upd (gk s g0 k) (s (oD k 0)).toNatClampNeg (gk s g0 k (s (oD k 0)).toNatClampNeg + 1) = gk s g0 (k + 1) from rfl]
    generalize gk s g0 (k + 1) = G at ih ⊢
    refine Runs.cal rfl (c_diskT (n + 2) 1 _ (hub _) hk) ?_
    rw [show mtd s c k 1 = mcur s c k from rfl]
    refine Runs.go 6 rfl trivial ?_
    refine Runs.cal rfl (c_diskT (n + 2) 5 _ (hub _) hk) ?_
    rw [show mtd s c k 5 = mahd s (nI k) c from rfl]
    refine Runs.go 6 rfl trivial ?_
    refine Runs.cal rfl (c_diskT (n + 2) 7 _ (hub _) hk) ?_
    rw [show mtd s c k 7 = s (oD k 5) from rfl]
    refine Runs.go 4 rfl trivial ?_
    refine Runs.ifF (by decide) ?_
    refine Runs.go 3 rfl trivial ?_
    refine Runs.cal rfl (c_diskT (n + 2) 1 _ (hub _) hk) ?_
    rw [show mtd s c k 1 = mcur s c k from rfl]
    refine Runs.go 2 rfl trivial ?_
    refine Runs.cal rfl (l_currentOf n _ (hub _) hk) ?_
    refine Runs.go 1 rfl trivial ?_
    refine Runs.ifT rfl ?_
    refine Runs.go 3 rfl trivial ?_
    refine Runs.cal rfl (c_diskT (n + 2) 2 _ (hub _) hk) ?_
    rw [show mtd s c k 2 = s (oD k 1) from rfl]
    refine Runs.go 1 rfl trivial ?_
    have e180 : Runs dT_disks (dEx (n + 6)) (180, [some (.inr (6, 0, 0)), some (.inl (sumN (mcur s c) (k + 1))), some (.inl (sumN (fun d => mahd s (nI d) c) (k + 1))), some (.inl (sumN (fun d => s (oD d 5)) (k + 1))), some (.inr (35, 0, 0)), some (.inl 1), some (.inl (nI k)), some (.inl (s (oD k 0)))], [], ub h (35, 0, 0) G) r := by
      have e196 : Runs dT_disks (dEx (n + 6)) (196, [some (.inr (6, 0, 0)), some (.inl (sumN (mcur s c) (k + 1))), some (.inl (sumN (fun d => mahd s (nI d) c) (k + 1))), some (.inl (sumN (fun d => s (oD d 5)) (k + 1))), some (.inr (35, 0, 0)), some (.inl 1), some (.inl (nI k)), some (.inl (s (oD k 0)))], [], ub h (35, 0, 0) G) r := by
        refine Runs.go 5 rfl trivial ?_
        rw [nI_1]
        exact ih
      refine Runs.go 3 rfl trivial ?_
      by_cases z : s (oD k 0) = 3
      · refine Runs.ifT z ?_
        refine Runs.go 3 rfl trivial ?_
        refine Runs.cal rfl (c_diskT (n + 2) 5 _ (hub _) hk) ?_
        rw [show mtd s c k 5 = mahd s (nI k) c from rfl, df_6 hc hk z]
        refine Runs.go 1 rfl trivial ?_
        refine Runs.ifT rfl ?_
        exact e196
      · refine Runs.ifF z ?_
        exact e196
    have e153 : Runs dT_disks (dEx (n + 6)) (153, [some (.inr (6, 0, 0)), some (.inl (sumN (mcur s c) (k + 1))), some (.inl (sumN (fun d => mahd s (nI d) c) (k + 1))), some (.inl (sumN (fun d => s (oD d 5)) (k + 1))), some (.inr (35, 0, 0)), some (.inl 1), some (.inl (nI k)), some (.inl (s (oD k 0)))], [], ub h (35, 0, 0) G) r := by
      refine Runs.go 3 rfl trivial ?_
      refine Runs.cal rfl (c_diskT (n + 2) 3 _ (hub _) hk) ?_
      rw [show mtd s c k 3 = s (oD k 2) from rfl]
      refine Runs.go 2 rfl trivial ?_
      refine Runs.ifF (df_4 (di k hk) q1 hk) ?_
      refine Runs.go 3 rfl trivial ?_
      by_cases z : s (oD k 0) = 2
      · refine Runs.ifT z ?_
        exact e180
      · refine Runs.ifF z ?_
        refine Runs.go 3 rfl trivial ?_
        refine Runs.cal rfl (c_diskT (n + 2) 4 _ (hub _) hk) ?_
        rw [show mtd s c k 4 = s (oD k 3) from rfl, (di k hk).2.2.2.1 z]
        refine Runs.go 1 rfl trivial ?_
        refine Runs.ifT rfl ?_
        exact e180
    have e123 : Runs dT_disks (dEx (n + 6)) (123, [some (.inr (6, 0, 0)), some (.inl (sumN (mcur s c) (k + 1))), some (.inl (sumN (fun d => mahd s (nI d) c) (k + 1))), some (.inl (sumN (fun d => s (oD d 5)) (k + 1))), some (.inr (35, 0, 0)), some (.inl 1), some (.inl (nI k)), some (.inl (s (oD k 0)))], [], ub h (35, 0, 0) G) r := by
      refine Runs.go 3 rfl trivial ?_
      by_cases z : s (oD k 0) = 3
      · refine Runs.ifT z ?_
        refine Runs.go 5 rfl trivial ?_
        refine Runs.cal rfl (c_diskT (n + 2) 3 _ (hub _) hk) ?_
        rw [show mtd s c k 3 = s (oD k 2) from rfl]
        refine Runs.go 2 rfl trivial ?_
        refine Runs.ifT ((df_3 (di k hk) q1 hk).mp z) ?_
        refine Runs.go 3 rfl trivial ?_
        refine Runs.ifT rfl ?_
        exact e153
      · refine Runs.ifF z ?_
        refine Runs.go 4 rfl trivial ?_
        refine Runs.cal rfl (c_diskT (n + 2) 3 _ (hub _) hk) ?_
        rw [show mtd s c k 3 = s (oD k 2) from rfl]
        refine Runs.go 2 rfl trivial ?_
        refine Runs.ifF (fun t => z ((df_3 (di k hk) q1 hk).mpr t)) ?_
        refine Runs.go 2 rfl trivial ?_
        refine Runs.ifT rfl ?_
        exact e153
    by_cases z1 : s (oD k 0) = 1
    · refine Runs.ifF (df_1 (di k hk) z1) ?_
      refine Runs.go 5 rfl trivial ?_
      refine Runs.ifT z1 ?_
      refine Runs.go 3 rfl trivial ?_
      refine Runs.ifT rfl ?_
      exact e123
    · rw [df_2 (di k hk) z1]
      refine Runs.ifT (by decide) ?_
      refine Runs.go 4 rfl trivial ?_
      refine Runs.ifF z1 ?_
      refine Runs.go 2 rfl trivial ?_
      refine Runs.ifT rfl ?_
      exact e123
  · refine Runs.go 3 rfl trivial ?_
    refine Runs.ifT (Int32.le_refl _) ?_
    rw [show sumN (mcur s c) 12 = mcurN s c from rfl, sum_reads hc]
    obtain ⟨σ, S, F, s1, s2, s3, s4, s5, s6⟩ := hq.2.2.2.2.2.2.1
    rw [sumN_nS 12 s1]
    have hT := hq.2.1
    generalize gk s g0 12 = G at hr hgk ⊢
    refine Runs.go 2 rfl trivial ?_
    refine Runs.loop 4 (fun k => (213, [some (.inr (6, 0, 0)), some (.inl (mcurN s c)), some (.inl (nI c)), some (.inl (nI (nS σ 12))), some (.inr (35, 0, 0)), some (.inl 1), some (.inl (nI (7 + k))), lo7 s 12], [], ub h (35, 0, 0) G)) (fun k hk ih => ?_) ?_
    · refine Runs.go 3 rfl trivial ?_
      refine Runs.ifF (i_ge (show 7 + k < 11 by omega) (by decide)) ?_
      refine Runs.go 2 rfl trivial ?_
      refine Runs.ifF (by decide) ?_
      refine Runs.go 2 rfl trivial ?_
      have x17 : ∀ m : Nat, m < 17 → ¬ nI m = 17 := fun m hm t => by
        have := nI_inj (b := 17) (by omega) (by decide) t
        omega
      have x18 : ∀ m : Nat, m < 17 → ¬ nI m = 18 := fun m hm t => by
        have := nI_inj (b := 18) (by omega) (by decide) t
        omega
      refine Runs.cal rfl (c_countP (n + 1) (nI (7 + k)) _ (hub _) (x17 _ (by omega)) (x18 _ (by omega))) ?_
      rw [mco_that _ s c k hk]
      have e7 : nI (7 + k) - 7 = nI k := by
        rw [show (7 : Int32) = nI 7 from rfl, pk_sub (by omega)]
        congr 1
        omega
      refine Runs.go 6 rfl ⟨trivial, (by rw [e7]; exact i_in hk (by decide))⟩ ?_
      rw [e7, i_cl (show k < 2 ^ 31 by omega), ub_s, hgk k hk]
      refine Runs.ifT rfl ?_
      refine Runs.go 5 rfl trivial ?_
      rw [nI_1]
      exact ih
    · refine Runs.go 3 rfl trivial ?_
      refine Runs.ifT (Int32.le_refl _) ?_
      obtain ⟨a, b, A, w12, w13, w14, wle, wA⟩ := hq.2.2.2.2.2.1
      rw [hc.cc] at wle
      have h30 := hc.2.2.1
      obtain ⟨⟨k0, m0, l1, l2, l3, l4⟩, l5⟩ := could_le (hub G)
      refine Runs.go 2 rfl trivial ?_
      refine Runs.ifF (by decide) ?_
      refine Runs.go 3 rfl trivial ?_
      refine Runs.cal rfl (c_countP (n + 1) 1 _ (hub _) (by decide) (by decide)) ?_
      rw [show mco (ub h (35, 0, 0) G) s c 1 = mcurN s c from rfl]
      refine Runs.go 1 rfl trivial ?_
      refine Runs.ifT rfl ?_
      refine Runs.go 3 rfl trivial ?_
      refine Runs.cal rfl (c_countP (n + 1) 3 _ (hub _) (by decide) (by decide)) ?_
      rw [show mco (ub h (35, 0, 0) G) s c 3 = s 93 from rfl, hc.2.2.2.1]
      refine Runs.go 1 rfl trivial ?_
      refine Runs.ifT rfl ?_
      refine Runs.go 3 rfl trivial ?_
      refine Runs.cal rfl (c_countP (n + 1) 14 _ (hub _) (by decide) (by decide)) ?_
      rw [show mco (ub h (35, 0, 0) G) s c 14 = s 18 from rfl, s4]
      refine Runs.go 1 rfl trivial ?_
      refine Runs.ifF (nI_nlt s2 (by omega)) ?_
      refine Runs.go 2 rfl trivial ?_
      refine Runs.cal rfl (c_countP (n + 1) 15 _ (hub _) (by decide) (by decide)) ?_
      rw [show mco (ub h (35, 0, 0) G) s c 15 = s 19 from rfl, s5]
      refine Runs.go 2 rfl trivial ?_
      refine Runs.cal rfl (c_countP (n + 1) 14 _ (hub _) (by decide) (by decide)) ?_
      rw [show mco (ub h (35, 0, 0) G) s c 14 = s 18 from rfl, s4]
      refine Runs.go 1 rfl trivial ?_
      refine Runs.ifF (nI_nlt (show F ≤ S by omega) (by omega)) ?_
      refine Runs.go 2 rfl trivial ?_
      refine Runs.cal rfl (c_countP (n + 1) 5 _ (hub _) (by decide) (by decide)) ?_
      rw [show mco (ub h (35, 0, 0) G) s c 5 = s 13 from rfl, w13]
      refine Runs.go 2 rfl trivial ?_
      refine Runs.cal rfl (c_countP (n + 1) 6 _ (hub _) (by decide) (by decide)) ?_
      rw [show mco (ub h (35, 0, 0) G) s c 6 = s 14 from rfl, w14]
      refine Runs.go 3 rfl trivial ?_
      refine Runs.cal rfl (c_countP (n + 1) 3 _ (hub _) (by decide) (by decide)) ?_
      rw [show mco (ub h (35, 0, 0) G) s c 3 = s 93 from rfl, hc.2.2.2.1]
      refine Runs.go 3 rfl trivial ?_
      refine Runs.cal rfl (c_countP (n + 1) 4 _ (hub _) (by decide) (by decide)) ?_
      rw [show mco (ub h (35, 0, 0) G) s c 4 = s 12 from rfl, w12, nI_add, nI_add]
      refine Runs.go 1 rfl trivial ?_
      refine Runs.ifF (nI_nlt wle (by omega)) ?_
      refine Runs.go 2 rfl trivial ?_
      refine Runs.cal rfl (c_countP (n + 1) 11 _ (hub _) (by decide) (by decide)) ?_
      rw [show mco (ub h (35, 0, 0) G) s c 11 = s 15 from rfl]
      refine Runs.go 1 rfl trivial ?_
      have e354 : Runs dT_disks (dEx (n + 6)) (354, [some (.inr (6, 0, 0)), some (.inl (mcurN s c)), some (.inl (nI c)), some (.inl (nI (nS σ 12))), some (.inr (35, 0, 0)), some (.inl 1), some (.inl (nI (7 + 4))), lo7 s 12], [], ub h (35, 0, 0) G) r := by
        refine Runs.go 1 rfl trivial ?_
        refine Runs.cal rfl (c_couldStart (n + 2) (ub h (35, 0, 0) G)) ?_
        rw [l3]
        refine Runs.go 2 rfl trivial ?_
        refine Runs.cal rfl (c_countP (n + 1) 7 _ (hub _) (by decide) (by decide)) ?_
        rw [show mco (ub h (35, 0, 0) G) s c 7 = mthat s 0 from rfl, l4]
        refine Runs.go 1 rfl trivial ?_
        refine Runs.ifF (nI_nlt l1 (by omega)) ?_
        refine Runs.go 4 rfl trivial ?_
        exact Runs.fin (by rw [← hr]; rfl) (Or.inr rfl)
      by_cases z : s 15 = 0
      · refine Runs.ifT z ?_
        exact e354
      · refine Runs.ifF z ?_
        have y5 := hc.2.2.2.2.2.2.2.2.1.2.2.2.2
        refine Runs.go 2 rfl trivial ?_
        refine Runs.cal rfl (c_countP (n + 1) 12 _ (hub _) (by decide) (by decide)) ?_
        rw [show mco (ub h (35, 0, 0) G) s c 12 = s 16 from rfl, hs.1.1.2.1 (y5.resolve_left z)]
        refine Runs.go 1 rfl trivial ?_
        refine Runs.ifT rfl ?_
        refine Runs.go 1 rfl trivial ?_
        refine Runs.cal rfl (c_couldStart (n + 2) (ub h (35, 0, 0) G)) ?_
        rw [l5 z]
        refine Runs.go 1 rfl trivial ?_
        refine Runs.ifT rfl ?_
        exact e354
