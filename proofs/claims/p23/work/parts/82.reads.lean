/-! areReadsSo, behind its array -/
def num (s : Nat → Int32) (j : Nat) : Nat := (s (oR j 0)).toNatClampNeg
theorem Q2.nat {s : Nat → Int32} {c A : Nat} (h : Q2 (nI A) (LM s c)) (hA : A ≤ 500) : (∀ j, j < c → s (oR j 0) = nI (num s j) ∧ num s j < A) ∧ ∀ i j, i < j → j < c → num s i < num s j := by
  have h1 : ∀ j, j < c → s (oR j 0) = nI (num s j) ∧ num s j < A := fun j hj => by
    obtain ⟨a1, a2⟩ := h.2 _ (LM_mem.mpr ⟨j, hj, rfl⟩)
    have a1 : ¬ s (oR j 0) < 0 := a1
    have a2 : s (oR j 0) < nI A := a2
    obtain ⟨m, hm, e⟩ := nI_of a1
    have e2 : num s j = m := by unfold num; rw [e, i_cl hm]
    rw [e2]
    refine ⟨e, ?_⟩
    rw [e] at a2
    exact (nI_ltI hm (by omega)).mp a2
  refine ⟨h1, fun i j hij hj => ?_⟩
  have := List.pairwise_iff_getElem.mp h.1 i j (by rw [LM_len]; omega) (by rw [LM_len]; omega) hij
  have ei : (LM s c)[i]'(by rw [LM_len]; omega) = rmk s i := by simp [LM]
  have ej : (LM s c)[j]'(by rw [LM_len]; omega) = rmk s j := by simp [LM]
  rw [ei, ej] at this
  have this : s (oR i 0) < s (oR j 0) := this
  obtain ⟨b1, b2⟩ := h1 i (by omega)
  obtain ⟨c1, c2⟩ := h1 j hj
  rw [b1, c1] at this
  exact (nI_ltI (by omega) (by omega)).mp this
theorem l_reads (n : Nat) {h : DH} {s : Nat → Int32} {l : List (Nat → Int32)} (hs : PR h s l) {g0 : Nat → Int32} (h0 : ∀ j, j < 12 → g0 j = 0) : ∃ G, Runs dT_reads (dEx (n + 6)) (7, [some (.inr (6, 0, 0)), some (.inl 0), some (.inr (36, 0, 0)), none, none, none, none], [], ub h (36, 0, 0) g0) (some (.inl 1), ub h (36, 0, 0) G) := by
  obtain ⟨c, hc⟩ := hs.sr
  obtain ⟨T, hq, hT, hT10⟩ := hs.1.T
  have hub : ∀ g, SR (ub h (36, 0, 0) g) 0 c s := fun g => hc.ub (by decide) g
  obtain ⟨a, b, A, w12, w13, w14, wle, wA⟩ := hq.2.2.2.2.2.1
  have q2 := hq.2.2.2.1
  have q3 := hq.2.2.2.2.1.nat hT10 (by omega)
  rw [hc.cc] at q2 q3 wle
  rw [w12] at q2
  obtain ⟨n1, n2⟩ := q2.nat wA
  have h30 := hc.2.2.1
  let Q : DRes → Prop := fun r => ∃ G, r = (some (.inl 1), ub h (36, 0, 0) G)
  have loop : ∀ m k, A - k = m → k ≤ A → ∀ (p : Nat) (G : Nat → Int32) (x y : Option DV), p ≤ c → (∀ j, j < p → num s j < k) → (∀ j, p ≤ j → j < c → k ≤ num s j) → (∀ d, d < 12 → G d = mahd s (nI d) p) → RunsK dT_reads (dEx (n + 6)) (dEnQ dT_reads Q) (30, [some (.inr (6, 0, 0)), some (.inl (nI p)), some (.inr (36, 0, 0)), some (.inl 1), some (.inl (nI k)), x, y], [], ub h (36, 0, 0) G) := by
    intro m
    induction m with
    | zero =>
      intro k hm hk p G x y hp hlo hhi hG
      have ek : k = A := by omega
      have ep : p = c := by
        rcases Nat.lt_or_ge p c with z | z
        · have := hhi p (Nat.le_refl _) z
          have := (n1 p z).2
          omega
        · omega
      refine RunsK.go 3 rfl trivial ?_
      refine RunsK.cal rfl (c_countP (n + 1) 4 _ (hub _) (by decide) (by decide)) ?_
      rw [show mco (ub h (36, 0, 0) G) s c 4 = s 12 from rfl, w12, ek]
      refine RunsK.go 1 rfl trivial ?_
      refine RunsK.ifT (Int32.le_refl _) ?_
      refine RunsK.go 2 rfl trivial ?_
      refine RunsK.ifF (by decide) ?_
      refine RunsK.go 3 rfl trivial ?_
      refine RunsK.cal rfl (c_countP (n + 1) 3 _ (hub _) (by decide) (by decide)) ?_
      rw [show mco (ub h (36, 0, 0) G) s c 3 = s 93 from rfl, hc.2.2.2.1, ep]
      refine RunsK.go 1 rfl trivial ?_
      refine RunsK.ifT rfl ?_
      refine RunsK.go 2 rfl trivial ?_
      exact RunsK.fin rfl (Or.inr rfl) ⟨G, rfl⟩
    | succ m ih =>
      intro k hm hk p G x y hp hlo hhi hG
      refine RunsK.go 3 rfl trivial ?_
      refine RunsK.cal rfl (c_countP (n + 1) 4 _ (hub _) (by decide) (by decide)) ?_
      rw [show mco (ub h (36, 0, 0) G) s c 4 = s 12 from rfl, w12]
      refine RunsK.go 1 rfl trivial ?_
      refine RunsK.ifF (nI_ge (show k < A by omega) (by omega)) ?_
      refine RunsK.go 3 rfl trivial ?_
      refine RunsK.cal rfl (c_readT (n + 2) (nI k) 0 _ (hub _)) ?_
      by_cases z : p < c ∧ num s p = k
      · obtain ⟨z1, z2⟩ := z
        have e0 := (n1 p z1).1
        rw [z2] at e0
        have hpl : mplc s c (nI k) = some p := by
          refine fp_of z1 (by simpa using e0) (fun j hj => ?_)
          obtain ⟨f1, f2⟩ := n1 j (by omega)
          have := hlo j hj
          simp
          rw [f1]
          intro t
          have := nI_inj (by omega) (by omega) t
          omega
        have hrd : ∀ w, rdO s c (nI k) w = mtr s p w := fun w => by unfold rdO; rw [hpl]
        obtain ⟨e, he, r1, -, lft, tks, l1, l2, l3, l4, l5, -⟩ := hc.2.2.2.2.2.2.2.2.2.2 _ (LM_mem.mpr ⟨p, z1, rfl⟩)
        have r1 : s (oR p 1) = nI e := r1
        have l4 : s (oR p 3) = nI lft := l4
        have l5 : s (oR p 2) = nI tks := l5
        obtain ⟨ak, ak1, ak2⟩ := q3 _ (LM_mem.mpr ⟨p, z1, rfl⟩)
        have ak2 : s (oR p 4) = nI ak := ak2
        rw [hrd, show mtr s p 0 = s (oR p 1) from rfl, r1]
        refine RunsK.go 3 rfl trivial ?_
        refine RunsK.ifF (nI_n0 (by omega)) ?_
        refine RunsK.go 3 rfl trivial ?_
        refine RunsK.cal rfl (c_readT (n + 2) (nI k) 2 _ (hub _)) ?_
        rw [hrd, show mtr s p 2 = s (oR p 3) from rfl, l4]
        refine RunsK.go 4 rfl trivial ?_
        refine RunsK.ifF (by decide) ?_
        refine RunsK.go 3 rfl trivial ?_
        refine RunsK.ifF (nI_nlt (show 1 ≤ lft by omega) (by omega)) ?_
        refine RunsK.go 4 rfl trivial ?_
        refine RunsK.cal rfl (c_readT (n + 2) (nI k) 1 _ (hub _)) ?_
        rw [hrd, show mtr s p 1 = s (oR p 2) from rfl, l5]
        refine RunsK.go 1 rfl trivial ?_
        refine RunsK.ifF (nI_nlt l2 (by omega)) ?_
        refine RunsK.go 3 rfl trivial ?_
        refine RunsK.cal rfl (c_readT (n + 2) (nI k) 3 _ (hub _)) ?_
        rw [hrd, show mtr s p 3 = mahd s (s (oR p 1)) p from rfl, r1]
        refine RunsK.go 4 rfl ⟨trivial, (i_in he (by decide))⟩ ?_
        rw [i_cl (show e < 2 ^ 31 by omega), ub_s, hG e he]
        refine RunsK.ifT rfl ?_
        refine RunsK.go 3 rfl trivial ?_
        refine RunsK.cal rfl (c_readT (n + 2) (nI k) 4 _ (hub _)) ?_
        rw [hrd, show mtr s p 4 = s 10 - s (oR p 4) from rfl, ak2, hT10, pk_sub ak1]
        refine RunsK.go 1 rfl trivial ?_
        refine RunsK.ifF (nI_n0 (by omega)) ?_
        refine RunsK.go 3 rfl trivial ?_
        refine RunsK.cal rfl (c_readT (n + 2) (nI k) 4 _ (hub _)) ?_
        rw [hrd, show mtr s p 4 = s 10 - s (oR p 4) from rfl, ak2, hT10, pk_sub ak1]
        refine RunsK.go 2 rfl trivial ?_
        refine RunsK.cal rfl (c_countP (n + 1) 0 _ (hub _) (by decide) (by decide)) ?_
        rw [show mco (ub h (36, 0, 0) G) s c 0 = s 10 from rfl, hT10]
        refine RunsK.go 1 rfl trivial ?_
        refine RunsK.ifF (nI_nlt (Nat.sub_le _ _) (by omega)) ?_
        refine RunsK.go 12 rfl ⟨⟨trivial, (i_in he (by decide))⟩, (i_in he (by decide))⟩ ?_
        rw [i_cl (show e < 2 ^ 31 by omega), ub_s, ub_up, nI_1, nI_1]
        refine ih (k + 1) (by omega) (by omega) (p + 1) _ _ _ (by omega) (fun j hj => ?_) (fun j hj hj2 => ?_) (fun d hd => ?_)
        · rcases Nat.lt_succ_iff_lt_or_eq.mp hj with u | u
          · have := hlo j u; omega
          · rw [u, z2]; omega
        · have := n2 p j (by omega) hj2
          omega
        · show upd G e (G e + 1) d = mahd s (nI d) p + (if s (oR p 1) = nI d then 1 else 0)
          by_cases u : d = e
          · subst u
            rw [upd_s, if_pos r1, hG d hd]
          · rw [upd_n _ _ u, if_neg (fun t => u (nI_inj (by omega) (by omega) (r1.symm.trans t)).symm), hG d hd, Int32.add_zero]
      · have hpl : mplc s c (nI k) = none := by
          refine fp_nof (fun j hj => ?_)
          obtain ⟨f1, f2⟩ := n1 j hj
          simp
          rw [f1]
          intro t
          have t := nI_inj (by omega) (by omega) t
          rcases Nat.lt_trichotomy j p with u | u | u
          · have := hlo j u; omega
          · exact z ⟨by omega, by rw [← u]; exact t⟩
          · have h1 := hhi p (Nat.le_refl _) (by omega)
            have h2 := n2 p j u hj
            omega
        rw [show rdO s c (nI k) 0 = -1 from by unfold rdO; rw [hpl]]
        refine RunsK.go 3 rfl trivial ?_
        refine RunsK.ifT (by decide) ?_
        refine RunsK.go 2 rfl trivial ?_
        rw [nI_1]
        refine ih (k + 1) (by omega) (by omega) p G _ _ hp (fun j hj => by have := hlo j hj; omega) (fun j hj hj2 => ?_) hG
        have h1 := hhi j hj hj2
        rcases Nat.lt_or_ge k (num s j) with u | u
        · omega
        · exfalso
          have ej : num s j = k := by omega
          by_cases v : j = p
          · exact z ⟨by omega, by rw [← v]; exact ej⟩
          · have h2 := n2 p j (by omega) hj2
            have h3 := hhi p (Nat.le_refl _) (by omega)
            omega
  have key : RunsK dT_reads (dEx (n + 6)) (dEnQ dT_reads Q) (7, [some (.inr (6, 0, 0)), some (.inl 0), some (.inr (36, 0, 0)), none, none, none, none], [], ub h (36, 0, 0) g0) := by
    refine RunsK.go 3 rfl trivial ?_
    refine RunsK.cal rfl (c_countP (n + 1) 4 _ (hub _) (by decide) (by decide)) ?_
    rw [show mco (ub h (36, 0, 0) g0) s c 4 = s 12 from rfl, w12]
    refine RunsK.go 1 rfl trivial ?_
    refine RunsK.cal rfl (c_readT (n + 2) (nI A) 0 _ (hub _)) ?_
    have hpl : mplc s c (nI A) = none := by
      refine fp_nof (fun j hj => ?_)
      obtain ⟨f1, f2⟩ := n1 j hj
      simp
      rw [f1]
      intro t
      have t := nI_inj (by omega) (by omega) t
      omega
    rw [show rdO s c (nI A) 0 = -1 from by unfold rdO; rw [hpl]]
    refine RunsK.go 2 rfl trivial ?_
    refine RunsK.ifT rfl ?_
    refine RunsK.go 5 rfl trivial ?_
    exact loop A 0 rfl (Nat.zero_le _) 0 g0 none none (Nat.zero_le _) (fun j hj => by omega) (fun j _ _ => Nat.zero_le _) (fun d hd => h0 d hd)
  obtain ⟨r, ⟨G, rfl⟩, hr⟩ := key.ex
  exact ⟨G, hr⟩
