/-! behind a blown fuse nothing is hot -/
def HInv (s : Nat → Int32) : Prop := s 15 = 1 → s 16 = 0
theorem fuM_H {s : Nat → Int32} (x : Int32) (h : HInv s) (h01 : s 15 = 0 ∨ s 15 = 1) : HInv (fuM s x) := by
  unfold fuM blM
  rcases h01 with z | z
  · have nz : ¬ s 15 = 1 := by rw [z]; decide
    rw [if_neg nz]
    split
    · exact fun _ => upd_s _ _ _
    · split
      · split
        · exact fun _ => upd_s _ _ _
        · intro t
          rw [upd_n _ _ (by decide)] at t
          exact absurd t nz
      · intro t
        rw [upd_n _ _ (by decide)] at t
        exact absurd t nz
  · rw [if_pos z]
    exact h
theorem tick_H {h : DH} {i c : Nat} {s : Nat → Int32} (f : Nat → Int32) (hs : SR h i c s) (hh : HInv s) : HInv (tickM s f).1 := by
  have y5 := hs.2.2.2.2.2.2.2.2.1.2.2.2.2
  have A : (tkM s f).1 15 = s 15 ∧ (s 15 = 1 → (tkM s f).1 16 = s 16) := by
    have h93 := hs.2.2.2.1
    have h30 := hs.2.2.1
    have hp := hs.2.2.2.2.2.1
    rcases y5 with z | z
    · have nz : ¬ s 15 = 1 := by rw [z]; decide
      rw [tkM_n nz]
      have rg := RG_all h30 hp (hs.RG (f := f)) 12 (Nat.le_refl _)
      have hm := rg.2.2.2.2.2.1
      obtain ⟨c', s1, k1⟩ := read_SR hs rg
      generalize gs h i c 12 = q at hm s1
      generalize stM s f 12 = p at hm s1 k1 ⊢
      obtain ⟨b1, b2, b3, b4⟩ := BS_all (f := p.2) (b := q.2) (fun e he => by
        rw [hm e he]
        exact ⟨fun t => t he, fun t _ => t⟩) s1 12 (Nat.le_refl _)
      generalize nsM (rdM p.1 12) p.2 12 = w at b4 ⊢
      exact ⟨(b4 15 (Or.inr rfl)).trans (k1 15 (Or.inr rfl)), fun t => absurd t nz⟩
    · rw [tkM_p z]
      obtain ⟨a1, a2⟩ := cut_SR hs
      rw [cc_of h93 h30]
      generalize coM s c 12 = w at a2 ⊢
      exact ⟨a2 15 (by decide), fun _ => a2 16 (by decide)⟩
  rw [show (tickM s f).1 = tkM2 (tkM s f).1 from rfl]
  generalize (tkM s f).1 = t at A ⊢
  unfold tkM2
  refine fuM_H _ (fun u => ?_) ?_
  · rw [upd_n _ _ (by decide), upd_n _ _ (by decide)] at u ⊢
    have z := A.1.symm.trans u
    exact (A.2 z).trans (hh z)
  · rw [upd_n _ _ (by decide), upd_n _ _ (by decide), A.1]
    exact y5
theorem fuse_new {h : DH} {i c : Nat} {s : Nat → Int32} (hs : SR h i c s) (hh : HInv s) (z : ¬ s 15 = 0) : SR (up1 h (0, i, 0) 10 0) i c (nf s) ∧ HInv (nf s) := by
  have y5 := hs.2.2.2.2.2.2.2.2.1.2.2.2.2
  have z1 := y5.resolve_left z
  refine ⟨(hs.sc (show 4 ≤ 10 by decide) (by decide) 0 (fun _ => Or.inl rfl)).row (fun k _ => ?_), fun _ => upd_s _ _ _⟩
  show upd (upd s 15 0) 16 0 k = upd s 15 0 k
  by_cases zk : k = 16
  · subst zk
    rw [upd_s, upd_n _ _ (by decide), hh z1]
  · rw [upd_n _ _ zk]
