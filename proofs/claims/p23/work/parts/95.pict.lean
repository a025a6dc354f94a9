/-! the first picture: every object where the layout says -/
def gF (ca : Nat → ClassId) (z : Nat) : Nat → Option va_E := fun b => if b < z + 376 then (if z ≤ b then gD ca z (z + 1) b else none) else none
theorem gF_D {ca : Nat → ClassId} {z b : Nat} (h1 : z ≤ b) (h2 : b < z + 376) : gF ca z b = gD ca z (z + 1) b := (if_pos h2).trans (if_pos h1)
theorem gF_G {ca : Nat → ClassId} {z b : Nat} (h1 : z + 371 ≤ b) (h2 : b < z + 376) : gF ca z b = gProg ca (z + 1 + 370) (z + 1 + 370 + 1) b := by
  rw [gF_D (by omega) h2]
  unfold gD
  rw [if_neg (by omega), if_neg (by omega), if_neg (by omega), if_neg (by omega), if_neg (by omega), if_pos (by omega)]
theorem gF_P {ca : Nat → ClassId} {z b : Nat} (h1 : z + 139 ≤ b) (h2 : b < z + 371) : gF ca z b = gP ca (z + 1 + 138) (z + 1 + 138 + 1) 5 b := by
  rw [gF_D (by omega) (by omega)]
  unfold gD
  rw [if_neg (by omega), if_neg (by omega), if_neg (by omega), if_neg (by omega), if_pos (by omega)]
theorem gF_S {ca : Nat → ClassId} {z i r : Nat} (hi : i < 8) (hr : r < 46) : gF ca z (z + stO i + r) = gS ca (z + stO i) (z + stO i + 1) 10 12 30 (z + stO i + r) := by
  by_cases h3 : i < 3
  · have hs : stO i = 1 + 46 * i := if_pos h3
    have e2 : i = 0 ∨ i = 1 ∨ i = 2 := by omega
    rw [gF_D (by omega) (by omega)]
    unfold gD
    rw [if_neg (by omega)]
    rcases e2 with e | e | e
    · have e3 : z + 1 = z + stO i := by omega
      rw [if_pos (by omega), e3]
    · have e3 : z + 1 + 46 = z + stO i := by omega
      rw [if_neg (by omega), if_pos (by omega), e3]
    · have e3 : z + 1 + 92 = z + stO i := by omega
      rw [if_neg (by omega), if_neg (by omega), if_pos (by omega), e3]
  · have hs : stO i = 141 + 46 * (i - 3) := if_neg h3
    rw [gF_P (by omega) (by omega)]
    unfold gP
    rw [if_neg (by omega), if_neg (by omega), if_pos (by omega)]
    have e3 : z + 1 + 138 + 1 + 1 + 46 * ((z + stO i + r - (z + 1 + 138 + 1 + 1)) / 46) = z + stO i := by omega
    rw [e3]
theorem at_0 {D : va_G} {ca : Nat → ClassId} {z : Nat} {T : Nat → Nat} {b : Nat} {xs : Nat → Int32} {SL : Nat} {H : Heap} (hB : BW D (z + 376) (gF ca z) H) : ∀ k i j, okK (adA z T b) (k, i, j) = true → va_at D dclasses (adA z T b (k, i, j), dent (adA z T b) ca (k, i, j) ((h0 xs SL).1 (k, i, j)) ((h0 xs SL).2 (k, i, j))) H := by
  intro k i j h
  match k, h with
  | 0, h =>
    have h' : (decide (i < 8) && decide (j = 0)) = true := h
    simp at h'
    obtain ⟨hi, rfl⟩ := h'
    have hc : gF ca z (z + stO i) = some (.inr (0, (((bls 0).set 0 (.ref (z + stO i + 1))).set 1 (.ref (z + stO i + 1 + 1))).set 2 (.ref (z + stO i + 1 + 2)))) := (gF_S (r := 0) hi (by decide)).trans (if_pos rfl)
    exact hB.2 _ _ hc
  | 1, h =>
    have h' : (decide (i < 8) && decide (j = 0)) = true := h
    simp at h'
    obtain ⟨hi, rfl⟩ := h'
    have hc : gF ca z (z + stO i + 1) = some (.inl (ca 0, 10, .inl (fun q => if q < 10 then dcst 0 q else 0))) := by
      rw [gF_S (r := 1) hi (by decide)]
      unfold gS
      rw [if_neg (by omega), if_pos rfl]
    exact at_i (hB.2 _ _ hc) (fun j hj => rfl)
  | 2, h =>
    have h' : (decide (i < 8) && decide (j = 0)) = true := h
    simp at h'
    obtain ⟨hi, rfl⟩ := h'
    have hc : gF ca z (z + stO i + 2) = some (.inl (ca 1, 12, .inr (.inr (.inr (.inr (fun q => if q < 12 then some (z + stO i + 1 + 3 + q) else none)))))) := by
      rw [gF_S (r := 2) hi (by decide)]
      unfold gS
      rw [if_neg (by omega), if_neg (by omega), if_pos rfl]
    refine at_q (g := fun j => some (z + (stO i + 4 + j))) (hB.2 _ _ hc) (fun j hj => ?_)
    rw [if_pos hj]
    congr 1
    omega
  | 3, h =>
    have h' : (decide (i < 8) && decide (j = 0)) = true := h
    simp at h'
    obtain ⟨hi, rfl⟩ := h'
    have hc : gF ca z (z + stO i + 3) = some (.inl (ca 2, 30, .inr (.inr (.inr (.inr (fun q => if q < 30 then some (z + stO i + 1 + 15 + q) else none)))))) := by
      rw [gF_S (r := 3) hi (by decide)]
      unfold gS
      rw [if_neg (by omega), if_neg (by omega), if_neg (by omega), if_pos rfl]
    refine at_q (g := fun j => some (z + (stO i + 16 + j))) (hB.2 _ _ hc) (fun j hj => ?_)
    rw [if_pos hj]
    congr 1
    omega
  | 4, h =>
    have h' : (decide (i < 8) && decide (j < 12)) = true := h
    simp at h'
    obtain ⟨hi, hj⟩ := h'
    have hc : gF ca z (z + stO i + (4 + j)) = some (.inr (1, bls 1)) := by
      rw [gF_S (r := 4 + j) hi (by omega)]
      unfold gS
      rw [if_neg (by omega), if_neg (by omega), if_neg (by omega), if_neg (by omega), if_pos (by omega)]
    have ea : adA z T b (4, i, j) = z + stO i + (4 + j) := by
      show z + (stO i + 4 + j) = _
      omega
    rw [ea]
    exact hB.2 _ _ hc
  | 5, h =>
    have h' : (decide (i < 8) && decide (j < 30)) = true := h
    simp at h'
    obtain ⟨hi, hj⟩ := h'
    have hc : gF ca z (z + stO i + (16 + j)) = some (.inr (2, bls 2)) := by
      rw [gF_S (r := 16 + j) hi (by omega)]
      unfold gS
      rw [if_neg (by omega), if_neg (by omega), if_neg (by omega), if_neg (by omega), if_neg (by omega), if_pos (by omega)]
    have ea : adA z T b (5, i, j) = z + stO i + (16 + j) := by
      show z + (stO i + 16 + j) = _
      omega
    rw [ea]
    exact hB.2 _ _ hc
  | 6, h =>
    have h' : (decide (5 < 6) && decide (6 < 14) && decide (i = 0) && decide (j = 0)) = true := h
    simp at h'
    obtain ⟨rfl, rfl⟩ := h'
    have hc : gF ca z z = some (.inr (3, oDr (z + 1))) := (gF_D (Nat.le_refl _) (by omega)).trans (if_pos rfl)
    exact hB.2 _ _ hc
  | 7, h =>
    have h' : (decide (5 < 7) && decide (7 < 14) && decide (i = 0) && decide (j = 0)) = true := h
    simp at h'
    obtain ⟨rfl, rfl⟩ := h'
    have hc : gF ca z (z + 139) = some (.inr (4, (bls 4).set 0 (.ref (z + 1 + 138 + 1)))) := by
      rw [gF_P (by omega) (by omega)]
      unfold gP
      rw [if_pos (by omega)]
    exact hB.2 _ _ hc
  | 8, h =>
    have h' : (decide (5 < 8) && decide (8 < 14) && decide (i = 0) && decide (j = 0)) = true := h
    simp at h'
    obtain ⟨rfl, rfl⟩ := h'
    have hc : gF ca z (z + 140) = some (.inl (ca 3, 5, .inr (.inr (.inr (.inr (fun q => if q < 5 then some (z + 1 + 138 + 1 + 1 + 46 * q) else none)))))) := by
      rw [gF_P (by omega) (by omega)]
      unfold gP
      rw [if_neg (by omega), if_pos (by omega)]
    refine at_q (g := fun j => some (z + (stO (j + 3) + 0))) (hB.2 _ _ hc) (fun j hj => ?_)
    have hs : stO (j + 3) = 141 + 46 * (j + 3 - 3) := if_neg (by omega)
    rw [if_pos hj]
    congr 1
    omega
  | 9, h =>
    have h' : (decide (5 < 9) && decide (9 < 14) && decide (i = 0) && decide (j = 0)) = true := h
    simp at h'
    obtain ⟨rfl, rfl⟩ := h'
    have hc := (gF_G (ca := ca) (z := z) (b := z + 1 + 370) (by omega) (by omega)).trans (gProg_0 (by omega))
    exact hB.2 _ _ hc
  | 10, h =>
    have h' : (decide (5 < 10) && decide (10 < 14) && decide (i = 0) && decide (j = 0)) = true := h
    simp at h'
    obtain ⟨rfl, rfl⟩ := h'
    have hc := (gF_G (ca := ca) (z := z) (b := z + 1 + 370 + 1) (by omega) (by omega)).trans (gProg_1 (by omega))
    exact hB.2 _ _ hc
  | 11, h =>
    have h' : (decide (5 < 11) && decide (11 < 14) && decide (i = 0) && decide (j = 0)) = true := h
    simp at h'
    obtain ⟨rfl, rfl⟩ := h'
    have hc := (gF_G (ca := ca) (z := z) (b := z + 1 + 370 + 1 + 1) (by omega) (by omega)).trans (gProg_2 (by omega))
    exact hB.2 _ _ hc
  | 12, h =>
    have h' : (decide (5 < 12) && decide (12 < 14) && decide (i = 0) && decide (j = 0)) = true := h
    simp at h'
    obtain ⟨rfl, rfl⟩ := h'
    have hc := (gF_G (ca := ca) (z := z) (b := z + 1 + 370 + 1 + 2) (by omega) (by omega)).trans (gProg_3 (by omega))
    exact hB.2 _ _ hc
  | 13, h =>
    have h' : (decide (5 < 13) && decide (13 < 14) && decide (i = 0) && decide (j = 0)) = true := h
    simp at h'
    obtain ⟨rfl, rfl⟩ := h'
    have hc := (gF_G (ca := ca) (z := z) (b := z + 1 + 370 + 1 + 3) (by omega) (by omega)).trans (gProg_4 (by omega))
    exact hB.2 _ _ hc
  | n + 14, h => exact absurd (okK_lt3 h).1 (by omega)
theorem dSim_0 {D : va_G} {ca : Nat → ClassId} {z : Nat} {T : Nat → Nat} {b : Nat} {xs : Nat → Int32} {SL : Nat} {H : Heap} (hB : BW D (z + 376) (gF ca z) H) : dSim D (adA z T b) ca xs SL (h0 xs SL) H :=
  ⟨fun κ hκ => at_0 hB κ.1 κ.2.1 κ.2.2 hκ, fun i j _ hj => hj, fun j hj => (by show j + 3 < 8; omega), rfl, rfl⟩
