/-! the reference: replace, fuse, run -/
def mz (s : Nat → Int32) (d : Nat) : Nat → Int32 := cp5 s (oD d 0) (fun _ => 0) 6
theorem m_replace (n : Nat) (y : Int32) (h : DH) (s f : Nat → Int32) {a c : Nat} (ha : h.1 (14, 0, 0) 3 = nI a) (ha4 : a ≤ 4) (hc : s 93 = nI c) (h30 : c ≤ 30) : (¬ wip y 0 11 → dEx (n + 4) 103 [.inr (14, 0, 0), .inl y] (hp h s f) (some (.inl (-1)), hp h s f)) ∧ (∀ d, d < 12 → y = nI d → dEx (n + 4) 103 [.inr (14, 0, 0), .inl y] (hp h s f) (some (.inl (s (oD d 0))), hp (know h a s) (ban (mz s d) d c) f)) := by
  constructor
  · intro hy
    refine dx_103 ?_
    refine Runs.go 1 rfl trivial ?_
    refine Runs.cal rfl (m_isDisk (n + 1) _ _) ?_
    rw [wi_0 hy]
    refine Runs.go 1 rfl trivial ?_
    refine Runs.ifT rfl ?_
    refine Runs.go 1 rfl trivial ?_
    exact Runs.fin rfl trivial
  · rintro d hd rfl
    refine dx_103 ?_
    refine Runs.go 1 rfl trivial ?_
    refine Runs.cal rfl (m_isDisk (n + 1) _ _) ?_
    rw [wi_1 (show wip (nI d) 0 11 from ⟨nI_pos (by omega), nI_nlt (show d ≤ 11 by omega) (by decide)⟩)]
    refine Runs.go 1 rfl trivial ?_
    refine Runs.ifF (by decide) ?_
    refine Runs.go 1 rfl trivial ?_
    refine Runs.calv rfl (m_know (n + 2) h s f ha ha4) ?_
    refine Runs.go 4 rfl trivial ?_
    refine Runs.cal rfl (m_of (n + 2) d 0 _) ?_
    generalize know h a s = g
    refine Runs.go 4 rfl ⟨trivial, oD_in hd (show 0 < 6 by decide)⟩ ?_
    simp only [hp_s, hp_f, hp_o, hp_up, hp_fu, tc0, tc1, tc2, tc3, tc4, tc5, tc6, tc7, tc8, tc9, tc10, tc11, tc12, tc13, tc14, tc15, tc16, tc17, tc18, tc19, tc20, tc93, oD_cl hd (show 0 < 6 by decide)]
    generalize hr : ((some (.inl (s (oD d 0))) : Option DV), hp g (ban (mz s d) d c) f) = r
    generalize hv : s (oD d 0) = v at hr ⊢
    have e0 : hp g s f = hp g (cp5 s (oD d 0) (fun _ => 0) 0) f := by rw [cp5_0]
    rw [e0]
    refine Runs.loop 6 (fun k => (26, [some (.inr (14, 0, 0)), some (.inl (nI d)), some (.inl v), some (.inl (nI k))], [], hp g (cp5 s (oD d 0) (fun _ => 0) k) f)) (fun k hk ih => ?_) ?_
    · refine Runs.go 3 rfl trivial ?_
      refine Runs.ifF (i_ge hk (by decide)) ?_
      refine Runs.go 4 rfl trivial ?_
      refine Runs.cal rfl (m_of (n + 2) d k _) ?_
      refine Runs.go 4 rfl ⟨trivial, (oD_in hd hk)⟩ ?_
      simp only [hp_s, hp_f, hp_o, hp_up, hp_fu, tc0, tc1, tc2, tc3, tc4, tc5, tc6, tc7, tc8, tc9, tc10, tc11, tc12, tc13, tc14, tc15, tc16, tc17, tc18, tc19, tc20, tc93, oD_cl hd hk]
      have e4 := cp5_s s (oD d 0) (fun _ => 0) k
      rw [show oD d 0 + k = oD d k from rfl] at e4
      rw [e4, nI_1]
      exact ih
    · refine Runs.go 3 rfl trivial ?_
      refine Runs.ifT (Int32.le_refl _) ?_
      refine Runs.go 2 rfl trivial ?_
      have h93 : cp5 s (oD d 0) (fun _ => 0) 6 93 = nI c := by
        unfold cp5
        rw [if_neg (by unfold oD; omega), hc]
      refine Runs.calv rfl (m_beginAnew (n + 1) d g _ f h93 h30) ?_
      refine Runs.go 1 rfl trivial ?_
      exact Runs.fin (by rw [← hr]; rfl) trivial
def nf (s : Nat → Int32) : Nat → Int32 := upd (upd s 15 0) 16 0
theorem m_newFuse (n : Nat) (h : DH) (s f : Nat → Int32) {c : Nat} (hc : s 93 = nI c) (h30 : c ≤ 30) : dEx (n + 5) 106 [.inr (14, 0, 0)] (hp h s f) (some (.inl (mcurN (nf s) c)), hp h (nf s) f) := by
  refine dx_106 ?_
  refine Runs.go 11 rfl ⟨⟨trivial, (by unfold vp_in; decide)⟩, (by unfold vp_in; decide)⟩ ?_
  simp only [hp_s, hp_f, hp_o, hp_up, hp_fu, tc0, tc1, tc2, tc3, tc4, tc5, tc6, tc7, tc8, tc9, tc10, tc11, tc12, tc13, tc14, tc15, tc16, tc17, tc18, tc19, tc20, tc93]
  refine Runs.cal rfl (m_current n h (nf s) f (c := c) (by unfold nf; rw [upd_n _ _ (by decide), upd_n _ _ (by decide), hc]) h30) ?_
  exact Runs.fin rfl trivial
theorem m_fuse (n : Nat) (h : DH) (s f : Nat → Int32) {a c : Nat} (ha : h.1 (14, 0, 0) 3 = nI a) (ha4 : a ≤ 4) (hc : s 93 = nI c) (h30 : c ≤ 30) : dEx (n + 6) 105 [.inr (14, 0, 0)] (hp h s f) (if s 15 = 0 then (some (.inl (-5)), hp h s f) else (some (.inl (mcurN (nf s) c)), hp (know h a s) (nf s) f)) := by
  refine dx_105 ?_
  refine Runs.go 5 rfl ⟨trivial, (by unfold vp_in; decide)⟩ ?_
  simp only [hp_s, hp_f, hp_o, hp_up, hp_fu, tc0, tc1, tc2, tc3, tc4, tc5, tc6, tc7, tc8, tc9, tc10, tc11, tc12, tc13, tc14, tc15, tc16, tc17, tc18, tc19, tc20, tc93]
  refine Runs.ifS (fun z => ?_) (fun z => ?_)
  · rw [if_pos z]
    refine Runs.go 1 rfl trivial ?_
    exact Runs.fin rfl trivial
  · rw [if_neg z]
    refine Runs.go 1 rfl trivial ?_
    refine Runs.calv rfl (m_know (n + 4) h s f ha ha4) ?_
    refine Runs.go 1 rfl trivial ?_
    refine Runs.cal rfl (m_newFuse n _ s f hc h30) ?_
    exact Runs.fin rfl trivial
theorem m_runFault (n : Nat) (t : Int32) (h : DH) (s f : Nat → Int32) : dEx (n + 2) 111 [.inr (14, 0, 0), .inl t] (hp h s f) (some (.inl (if wi t 1 200 = 0 then -2 else if s 10 + t ≤ 99999 then 0 else -3)), hp h s f) := by
  refine dx_111 ?_
  refine Runs.go 3 rfl trivial ?_
  refine Runs.cal rfl (m_in n _ _ _ _) ?_
  refine Runs.go 1 rfl trivial ?_
  refine Runs.ifS (fun z => ?_) (fun z => ?_)
  · rw [if_pos z]
    refine Runs.go 2 rfl trivial ?_
    exact Runs.fin rfl trivial
  · rw [if_neg z]
    refine Runs.go 8 rfl ⟨trivial, (by unfold vp_in; decide)⟩ ?_
    simp only [hp_s, hp_f, hp_o, hp_up, hp_fu, tc0, tc1, tc2, tc3, tc4, tc5, tc6, tc7, tc8, tc9, tc10, tc11, tc12, tc13, tc14, tc15, tc16, tc17, tc18, tc19, tc20, tc93]
    refine Runs.ifS (fun z2 => ?_) (fun z2 => ?_)
    · rw [if_pos z2]
      refine Runs.go 1 rfl trivial ?_
      exact Runs.fin rfl trivial
    · rw [if_neg z2]
      refine Runs.go 2 rfl trivial ?_
      exact Runs.fin rfl trivial
def rk (s f : Nat → Int32) : Nat → (Nat → Int32) × (Nat → Int32)
  | 0 => (s, f)
  | k + 1 => tickM (rk s f k).1 (rk s f k).2
theorem rk_ok {s f : Nat → Int32} (hk : okC s) : ∀ k, okC (rk s f k).1 := by
  intro k
  induction k with
  | zero => exact hk
  | succ k ih => exact tickM_ok ih
theorem m_runs (n t : Nat) (ht : t < 2 ^ 31) (h : DH) (s f : Nat → Int32) (hk : okC s) : dEx (n + 7) 112 [.inr (14, 0, 0), .inl (nI t)] (hp h s f) (some (.inl ((rk s f t).1 13 - s 13)), hp h (rk s f t).1 (rk s f t).2) := by
  refine dx_112 ?_
  generalize hr : ((some (.inl ((rk s f t).1 13 - s 13)) : Option DV), hp h (rk s f t).1 (rk s f t).2) = r
  refine Runs.go 7 rfl ⟨trivial, (by unfold vp_in; decide)⟩ ?_
  simp only [hp_s, hp_f, hp_o, hp_up, hp_fu, tc0, tc1, tc2, tc3, tc4, tc5, tc6, tc7, tc8, tc9, tc10, tc11, tc12, tc13, tc14, tc15, tc16, tc17, tc18, tc19, tc20, tc93]
  generalize hv : s 13 = v at hr ⊢
  refine Runs.loop t (fun k => (10, [some (.inr (14, 0, 0)), some (.inl (nI t)), some (.inl v), some (.inl (nI k))], [], hp h (rk s f k).1 (rk s f k).2)) (fun k hk2 ih => ?_) ?_
  · refine Runs.go 3 rfl trivial ?_
    refine Runs.ifF (nI_ge hk2 ht) ?_
    refine Runs.go 1 rfl trivial ?_
    refine Runs.calv rfl (m_tick n h _ _ (rk_ok hk k)) ?_
    refine Runs.go 2 rfl trivial ?_
    rw [nI_1]
    exact ih
  · refine Runs.go 3 rfl trivial ?_
    refine Runs.ifT (Int32.le_refl _) ?_
    refine Runs.go 6 rfl ⟨trivial, (by unfold vp_in; decide)⟩ ?_
    simp only [hp_s, hp_f, hp_o, hp_up, hp_fu, tc0, tc1, tc2, tc3, tc4, tc5, tc6, tc7, tc8, tc9, tc10, tc11, tc12, tc13, tc14, tc15, tc16, tc17, tc18, tc19, tc20, tc93]
    exact Runs.fin (by rw [← hr]; rfl) trivial
theorem m_run (n : Nat) (t : Int32) (h : DH) (s f : Nat → Int32) {a : Nat} (ha : h.1 (14, 0, 0) 3 = nI a) (ha4 : a ≤ 4) (hk : okC s) : (wi t 1 200 = 0 → dEx (n + 8) 110 [.inr (14, 0, 0), .inl t] (hp h s f) (some (.inl (-2)), hp h s f)) ∧ (∀ k, k < 2 ^ 31 → t = nI k → ¬ wi t 1 200 = 0 → dEx (n + 8) 110 [.inr (14, 0, 0), .inl t] (hp h s f) (if s 10 + nI k ≤ 99999 then (some (.inl ((rk s f k).1 13 - s 13)), hp (know h a s) (rk s f k).1 (rk s f k).2) else (some (.inl (-3)), hp h s f))) := by
  constructor
  · intro z
    refine dx_110 ?_
    refine Runs.go 2 rfl trivial ?_
    refine Runs.cal rfl (m_runFault (n + 5) t h s f) ?_
    rw [if_pos z]
    refine Runs.go 3 rfl trivial ?_
    refine Runs.ifF (by decide) ?_
    refine Runs.go 1 rfl trivial ?_
    exact Runs.fin rfl trivial
  · rintro k hk31 rfl z
    refine dx_110 ?_
    refine Runs.go 2 rfl trivial ?_
    refine Runs.cal rfl (m_runFault (n + 5) _ h s f) ?_
    rw [if_neg z]
    by_cases z2 : s 10 + nI k ≤ 99999
    · rw [if_pos z2, if_pos z2]
      refine Runs.go 3 rfl trivial ?_
      refine Runs.ifT (by decide) ?_
      refine Runs.go 1 rfl trivial ?_
      refine Runs.calv rfl (m_know (n + 6) h s f ha ha4) ?_
      refine Runs.go 2 rfl trivial ?_
      refine Runs.cal rfl (m_runs n k hk31 _ s f hk) ?_
      exact Runs.fin rfl trivial
    · rw [if_neg z2, if_neg z2]
      refine Runs.go 3 rfl trivial ?_
      refine Runs.ifF (by decide) ?_
      refine Runs.go 1 rfl trivial ?_
      exact Runs.fin rfl trivial
