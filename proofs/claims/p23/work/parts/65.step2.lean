theorem RR.tx {h h' : DH} (hs : RR h) (e : ∀ κ : DKey, κ ≠ (9, 0, 0) → κ ≠ (10, 0, 0) → κ ≠ (19, 0, 0) → κ ≠ (14, 0, 0) → h'.1 κ = h.1 κ) (e14 : ∀ k, k ≠ 7 → h'.1 (14, 0, 0) k = h.1 (14, 0, 0) k) (e2 : h'.2 = h.2) {t : Nat} (ht : TR h' t) : RR h' := by
  obtain ⟨x, w, k, ⟨a, ha⟩, _⟩ := hs
  have E : ∀ j, Eq5 j h h' := fun j k m hk => ⟨e _ (fun t => by simp at t; omega) (fun t => by simp at t; omega) (fun t => by simp at t; omega) (fun t => by simp at t; omega), by rw [e2]⟩
  refine ⟨?_, w.fr (E 1), k.cg (e _ (by simp) (by simp) (by simp) (by simp)) (e14 5 (by decide)) (e _ (by simp) (by simp) (by simp) (by simp)) (E 2), ⟨a, ha.cg (e _ (by simp) (by simp) (by simp) (by simp)) (e14 3 (by decide)) (by rw [e2]) (e _ (by simp) (by simp) (by simp) (by simp)) (fun j _ => E j)⟩, t, ht⟩
  rw [e _ (by simp) (by simp) (by simp) (by simp)]
  exact x.fr (E 0)
theorem XR.sr {h : DH} {i : Nat} {s : Nat → Int32} (hs : XR h i s) : ∃ c, SR h i c s := hs.1
