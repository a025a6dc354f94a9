/-! the class: what stands at a place of the text -/
def CT (h : DH) (T : Nat → Int32) (t a : Nat) : Prop := h.1 (9, 0, 0) 1 = nI t ∧ (∀ k, k < t → h.1 (10, 0, 0) k = T k) ∧ h.1 (9, 0, 0) 6 = nI a ∧ a ≤ 80
theorem CT.at {h : DH} {T : Nat → Int32} {t a b : Nat} (c : CT h T t a) (hb : b ≤ 80) : CT (up1 h (9, 0, 0) 6 (nI b)) T t b := ⟨by rw [up1_1, if_neg (fun u => absurd u.2 (by decide))]; exact c.1, fun k hk => by rw [up1_ne _ _ _ (by simp)]; exact c.2.1 k hk, by rw [up1_1, if_pos ⟨rfl, rfl⟩], hb⟩
theorem up1_id (h : DH) (κ : DKey) (k : Nat) {x : Int32} (e : h.1 κ k = x) : up1 h κ k x = h := by
  refine Prod.ext ?_ rfl
  funext q j
  rw [up1_1]
  by_cases z : q = κ ∧ j = k
  · rw [if_pos z, z.1, z.2, e]
  · rw [if_neg z]
theorem c_isHere (n f : Nat) (x : Int32) (h : DH) {T : Nat → Int32} {t a : Nat} (hc : CT h T t a) (ht : t ≤ 80) (hf : f ≤ 10) : dEx (n + 1) 59 [.inr (9, 0, 0), .inl (nI f), .inl x] h (some (.inl (if a + f < t ∧ T (a + f) = x then 1 else 0)), h) := by
  obtain ⟨h1, h2, h6, ha⟩ := hc
  by_cases z : a + f < t ∧ T (a + f) = x
  · rw [if_pos z]
    refine dx_59 ?_
    refine Runs.go 9 rfl trivial ?_
    rw [h6, h1, nI_add]
    refine Runs.ifF (nI_ge z.1 (by omega)) ?_
    refine Runs.go 3 rfl trivial ?_
    refine Runs.ifF (i_ge (show a + f < 80 by omega) (by decide)) ?_
    refine Runs.go 6 rfl ⟨trivial, (i_in (show a + f < 80 by omega) (by decide))⟩ ?_
    rw [i_cl (show a + f < 2 ^ 31 by omega), h2 _ z.1]
    refine Runs.ifT z.2 ?_
    refine Runs.go 2 rfl trivial ?_
    exact Runs.fin rfl (Or.inr rfl)
  · rw [if_neg z]
    refine dx_59 ?_
    refine Runs.go 9 rfl trivial ?_
    rw [h6, h1, nI_add]
    by_cases z1 : a + f < t
    · refine Runs.ifF (nI_ge z1 (by omega)) ?_
      refine Runs.go 3 rfl trivial ?_
      refine Runs.ifF (i_ge (show a + f < 80 by omega) (by decide)) ?_
      refine Runs.go 6 rfl ⟨trivial, (i_in (show a + f < 80 by omega) (by decide))⟩ ?_
      rw [i_cl (show a + f < 2 ^ 31 by omega), h2 _ z1]
      refine Runs.ifF (fun u => z ⟨z1, u⟩) ?_
      refine Runs.go 1 rfl trivial ?_
      exact Runs.fin rfl (Or.inl rfl)
    · refine Runs.ifT (Int32.not_lt.mp (nI_nlt (by omega) (by omega))) ?_
      refine Runs.go 1 rfl trivial ?_
      exact Runs.fin rfl (Or.inl rfl)
theorem c_take (n : Nat) (x : Int32) (h : DH) {T : Nat → Int32} {t a : Nat} (hc : CT h T t a) (ht : t ≤ 80) : (a < t ∧ T a = x → dEx (n + 2) 62 [.inr (9, 0, 0), .inl x] h (some (.inl 1), up1 h (9, 0, 0) 6 (nI (a + 1)))) ∧ (¬ (a < t ∧ T a = x) → dEx (n + 2) 62 [.inr (9, 0, 0), .inl x] h (some (.inl 0), h)) := by
  have hh := c_isHere n 0 x h hc ht (by decide)
  simp only [Nat.add_zero] at hh
  constructor
  · intro z
    rw [if_pos z] at hh
    refine dx_62 ?_
    refine Runs.go 3 rfl trivial ?_
    refine Runs.cal rfl hh ?_
    refine Runs.go 1 rfl trivial ?_
    refine Runs.ifF (by decide) ?_
    refine Runs.go 7 rfl trivial ?_
    rw [hc.2.2.1, nI_1]
    exact Runs.fin rfl (Or.inr rfl)
  · intro z
    rw [if_neg z] at hh
    refine dx_62 ?_
    refine Runs.go 3 rfl trivial ?_
    refine Runs.cal rfl hh ?_
    refine Runs.go 1 rfl trivial ?_
    refine Runs.ifT rfl ?_
    refine Runs.go 1 rfl trivial ?_
    exact Runs.fin rfl (Or.inl rfl)
theorem c_digit (n : Nat) (h : DH) {T : Nat → Int32} {t a : Nat} (hc : CT h T t a) (ht : t ≤ 80) : dEx (n + 1) 64 [.inr (9, 0, 0)] h (some (.inl (oI (-1) (dgt T t a))), h) := by
  obtain ⟨h1, h2, h6, ha⟩ := hc
  have bad : Runs dT_64 (dEx n) (48, [some (.inr (9, 0, 0))], [], h) (some (.inl (-1)), h) := by
    refine Runs.go 1 rfl trivial ?_
    exact Runs.fin rfl trivial
  cases hd : dgt T t a with
  | some d =>
    obtain ⟨d1, d2, d3, d4⟩ := dgt_s hd
    refine dx_64 ?_
    refine Runs.go 5 rfl trivial ?_
    rw [h6, h1]
    refine Runs.ifF (nI_ge d1 (by omega)) ?_
    refine Runs.go 4 rfl trivial ?_
    rw [h6]
    refine Runs.ifF (i_ge (show a < 80 by omega) (by decide)) ?_
    refine Runs.go 7 rfl ⟨trivial, (by rw [h6]; exact i_in (show a < 80 by omega) (by decide))⟩ ?_
    rw [h6, i_cl (show a < 2 ^ 31 by omega), h2 _ d1]
    refine Runs.ifF d4.1 ?_
    refine Runs.go 7 rfl ⟨trivial, (by rw [h6]; exact i_in (show a < 80 by omega) (by decide))⟩ ?_
    rw [h6, i_cl (show a < 2 ^ 31 by omega), h2 _ d1]
    refine Runs.ifT (Int32.not_lt.mp d4.2) ?_
    refine Runs.go 7 rfl ⟨trivial, (by rw [h6]; exact i_in (show a < 80 by omega) (by decide))⟩ ?_
    rw [h6, i_cl (show a < 2 ^ 31 by omega), h2 _ d1, d3, show (48 : Int32) = nI 48 from rfl, pk_sub (by omega), show 48 + d - 48 = d by omega]
    exact Runs.fin rfl trivial
  | none =>
    have hn := dgt_n hd
    refine dx_64 ?_
    refine Runs.go 5 rfl trivial ?_
    rw [h6, h1]
    by_cases z1 : a < t
    · refine Runs.ifF (nI_ge z1 (by omega)) ?_
      refine Runs.go 4 rfl trivial ?_
      rw [h6]
      refine Runs.ifF (i_ge (show a < 80 by omega) (by decide)) ?_
      refine Runs.go 7 rfl ⟨trivial, (by rw [h6]; exact i_in (show a < 80 by omega) (by decide))⟩ ?_
      rw [h6, i_cl (show a < 2 ^ 31 by omega), h2 _ z1]
      by_cases z2 : T a < 48
      · refine Runs.ifT z2 ?_
        exact bad
      · refine Runs.ifF z2 ?_
        refine Runs.go 7 rfl ⟨trivial, (by rw [h6]; exact i_in (show a < 80 by omega) (by decide))⟩ ?_
        rw [h6, i_cl (show a < 2 ^ 31 by omega), h2 _ z1]
        refine Runs.ifF (fun u => hn ⟨z1, z2, Int32.not_lt.mpr u⟩) ?_
        exact bad
    · refine Runs.ifT (Int32.not_lt.mp (nI_nlt (by omega) (by omega))) ?_
      exact bad
theorem dig_w (v d : Nat) : nI v * 10 + nI d = nI (10 * v + d) := by rw [show (10 : Int32) = nI 10 from rfl, nI_mul, nI_add, Nat.mul_comm]
theorem numP_le (T : Nat → Int32) (t hi : Nat) : ∀ m v a, a ≤ t → v ≤ 9 ∨ v ≤ hi → (a ≤ (numP T t hi m v a).2 ∧ (numP T t hi m v a).2 ≤ t) ∧ ((numP T t hi m v a).1 ≤ 9 ∨ (numP T t hi m v a).1 ≤ hi) ∧ v ≤ (numP T t hi m v a).1 := by
  intro m
  induction m with
  | zero => intro v a ha hv; exact ⟨⟨Nat.le_refl _, ha⟩, hv, Nat.le_refl _⟩
  | succ m ih =>
    intro v a ha hv
    rw [numP_s]
    cases hd : dgt T t a with
    | none => exact ⟨⟨Nat.le_refl _, ha⟩, hv, Nat.le_refl _⟩
    | some d =>
      dsimp only
      by_cases z : v = 0 ∨ hi < 10 * v + d
      · rw [if_pos z]; exact ⟨⟨Nat.le_refl _, ha⟩, hv, Nat.le_refl _⟩
      · rw [if_neg z]
        have d1 := (dgt_s hd).1
        have := ih (10 * v + d) (a + 1) (by omega) (Or.inr (by omega))
        omega
theorem c_numL (n lo hi : Nat) (h : DH) {T : Nat → Int32} {t a0 : Nat} (hc : CT h T t a0) (ht : t ≤ 80) (hhi : hi ≤ 200) : ∀ (m v a : Nat) (x5 : Option DV), m ≤ 2 → a ≤ t → v ≤ 200 → Runs dT_63 (dEx (n + 1)) (30, [some (.inr (9, 0, 0)), some (.inl (nI lo)), some (.inl (nI hi)), some (.inl (nI v)), some (.inl (nI (3 - m))), x5], [], up1 h (9, 0, 0) 6 (nI a)) (some (.inl (nI (numP T t hi m v a).1)), up1 h (9, 0, 0) 6 (nI (numP T t hi m v a).2)) := by
  intro m
  induction m with
  | zero =>
    intro v a x5 _ ha hv
    rw [numP_0]
    refine Runs.go 3 rfl trivial ?_
    refine Runs.ifT (show (3 : Int32) ≤ nI (3 - 0) by decide) ?_
    refine Runs.go 1 rfl trivial ?_
    exact Runs.fin rfl trivial
  | succ m ih =>
    intro v a x5 hm ha hv
    have hC := hc.at (b := a) (by omega)
    have hdg := c_digit n (up1 h (9, 0, 0) 6 (nI a)) hC ht
    rw [numP_s]
    refine Runs.go 3 rfl trivial ?_
    refine Runs.ifF (i_ge (show 3 - (m + 1) < 3 by omega) (by decide)) ?_
    refine Runs.go 1 rfl trivial ?_
    refine Runs.cal rfl hdg ?_
    cases hd : dgt T t a with
    | none =>
      dsimp only
      refine Runs.go 4 rfl trivial ?_
      refine Runs.ifT rfl ?_
      refine Runs.go 1 rfl trivial ?_
      exact Runs.fin rfl trivial
    | some d =>
      obtain ⟨d1, d2, d3, d4⟩ := dgt_s hd
      dsimp only [oI]
      have nm1 : ¬ nI d = -1 := fun u => by
        have := nI_n0 (show d < 2 ^ 31 by omega)
        rw [u] at this
        exact this (by decide)
      by_cases z0 : v = 0
      · rw [if_pos (Or.inl z0)]
        refine Runs.go 4 rfl trivial ?_
        refine Runs.ifF nm1 ?_
        refine Runs.go 2 rfl trivial ?_
        refine Runs.ifT (by rw [z0]; rfl) ?_
        refine Runs.go 1 rfl trivial ?_
        exact Runs.fin rfl trivial
      · have z0' : ¬ nI v = 0 := fun u => z0 (nI_inj (by omega) (by decide) (u.trans nI_0.symm))
        by_cases z1 : hi < 10 * v + d
        · rw [if_pos (Or.inr z1)]
          refine Runs.go 4 rfl trivial ?_
          refine Runs.ifF nm1 ?_
          refine Runs.go 2 rfl trivial ?_
          refine Runs.ifF z0' ?_
          refine Runs.go 7 rfl trivial ?_
          rw [dig_w]
          refine Runs.ifF (nI_ge z1 (by omega)) ?_
          refine Runs.go 1 rfl trivial ?_
          exact Runs.fin rfl trivial
        · rw [if_neg (fun u => u.elim z0 z1)]
          refine Runs.go 4 rfl trivial ?_
          refine Runs.ifF nm1 ?_
          refine Runs.go 2 rfl trivial ?_
          refine Runs.ifF z0' ?_
          refine Runs.go 7 rfl trivial ?_
          rw [dig_w]
          refine Runs.ifT (Int32.not_lt.mp (nI_nlt (by omega) (by omega))) ?_
          refine Runs.go 14 rfl trivial ?_
          rw [dig_w, up1_1, if_pos ⟨rfl, rfl⟩, nI_1, nI_1, up1_up1, show 3 - (m + 1) + 1 = 3 - m by omega]
          exact ih (10 * v + d) (a + 1) _ (by omega) (by omega) (by omega)
def numR (T : Nat → Int32) (t lo hi a : Nat) : Nat × Option Nat := match dgt T t a with
  | some d => if lo ≤ d then ((numP T t hi 2 d (a + 1)).2, some (numP T t hi 2 d (a + 1)).1) else (a, none)
  | none => (a, none)
theorem c_number (n lo hi : Nat) (h : DH) {T : Nat → Int32} {t a : Nat} (hc : CT h T t a) (ht : t ≤ 80) (hhi : hi ≤ 200) (hlo : lo ≤ 1) (hat : a ≤ t) : dEx (n + 2) 63 [.inr (9, 0, 0), .inl (nI lo), .inl (nI hi)] h (some (.inl (oI (-1) (numR T t lo hi a).2)), up1 h (9, 0, 0) 6 (nI (numR T t lo hi a).1)) := by
  have hdg := c_digit n h hc ht
  have idh := up1_id h (9, 0, 0) 6 hc.2.2.1
  unfold numR
  cases hd : dgt T t a with
  | none =>
    rw [hd] at hdg
    dsimp only
    rw [idh]
    refine dx_63 ?_
    refine Runs.go 1 rfl trivial ?_
    refine Runs.cal rfl hdg ?_
    refine Runs.go 4 rfl trivial ?_
    refine Runs.ifT (show (-1 : Int32) < nI lo by
      have : lo = 0 ∨ lo = 1 := by omega
      rcases this with rfl | rfl <;> decide) ?_
    refine Runs.go 1 rfl trivial ?_
    exact Runs.fin rfl trivial
  | some d =>
    rw [hd] at hdg
    obtain ⟨d1, d2, d3, d4⟩ := dgt_s hd
    have nm1 : ¬ nI d = -1 := fun u => by
      have := nI_n0 (show d < 2 ^ 31 by omega)
      rw [u] at this
      exact this (by decide)
    dsimp only
    by_cases z : lo ≤ d
    · rw [if_pos z]
      refine dx_63 ?_
      refine Runs.go 1 rfl trivial ?_
      refine Runs.cal rfl hdg ?_
      dsimp only [oI]
      refine Runs.go 4 rfl trivial ?_
      refine Runs.ifF (nI_nlt z (by omega)) ?_
      refine Runs.go 3 rfl trivial ?_
      refine Runs.ifF nm1 ?_
      refine Runs.go 8 rfl trivial ?_
      rw [hc.2.2.1, nI_1]
      exact c_numL n lo hi h hc ht hhi 2 d (a + 1) none (Nat.le_refl _) (by omega) (by omega)
    · rw [if_neg z]
      dsimp only
      rw [idh]
      refine dx_63 ?_
      refine Runs.go 1 rfl trivial ?_
      refine Runs.cal rfl hdg ?_
      dsimp only [oI]
      refine Runs.go 4 rfl trivial ?_
      refine Runs.ifT (nI_lt (by omega) (by omega)) ?_
      refine Runs.go 1 rfl trivial ?_
      exact Runs.fin rfl trivial
theorem argP_num (T : Nat → Int32) (t lo hi a : Nat) : argP T t lo hi a = if a < t ∧ T a = 32 then numR T t lo hi (a + 1) else (a, none) := rfl
theorem c_arg (n lo hi : Nat) (h : DH) {T : Nat → Int32} {t a : Nat} (hc : CT h T t a) (ht : t ≤ 80) (hhi : hi ≤ 200) (hlo : lo ≤ 1) : dEx (n + 3) 61 [.inr (9, 0, 0), .inl (nI lo), .inl (nI hi)] h (some (.inl (oI (-1) (argP T t lo hi a).2)), up1 h (9, 0, 0) 6 (nI (argP T t lo hi a).1)) := by
  rw [argP_num]
  by_cases z : a < t ∧ T a = 32
  · rw [if_pos z]
    have h1 := (c_take n 32 h hc ht).1 z
    have h2 := c_number n lo hi (up1 h (9, 0, 0) 6 (nI (a + 1))) (hc.at (b := a + 1) (by omega)) ht hhi hlo (by omega)
    rw [up1_up1] at h2
    refine dx_61 ?_
    refine Runs.go 2 rfl trivial ?_
    refine Runs.cal rfl h1 ?_
    refine Runs.go 1 rfl trivial ?_
    refine Runs.ifF (by decide) ?_
    refine Runs.go 3 rfl trivial ?_
    refine Runs.cal rfl h2 ?_
    refine Runs.go 1 rfl trivial ?_
    exact Runs.fin rfl trivial
  · rw [if_neg z]
    dsimp only
    rw [up1_id h (9, 0, 0) 6 hc.2.2.1]
    refine dx_61 ?_
    refine Runs.go 2 rfl trivial ?_
    refine Runs.cal rfl ((c_take n 32 h hc ht).2 z) ?_
    refine Runs.go 1 rfl trivial ?_
    refine Runs.ifT rfl ?_
    refine Runs.go 1 rfl trivial ?_
    exact Runs.fin rfl trivial
/-! words of the class -/
theorem c_wordOf (n : Nat) (h : DH) : ∀ k, k < 4 → dEx (n + 1) 50 [.inl (nI k)] h (some (.inr (30, k, 0)), h) := by
  intro k hk
  have : k = 0 ∨ k = 1 ∨ k = 2 ∨ k = 3 := by omega
  rcases this with rfl | rfl | rfl | rfl
  · refine dx_50 ?_
    refine Runs.go 2 rfl trivial ?_
    refine Runs.sw1 (fun _ => ?_) (fun c => absurd rfl c)
    refine Runs.go 1 rfl trivial ?_
    exact Runs.fin rfl trivial
  · refine dx_50 ?_
    refine Runs.go 2 rfl trivial ?_
    refine Runs.sw1 (fun c => absurd c (by decide)) (fun _ => ?_)
    refine Runs.sw1 (fun _ => ?_) (fun c => absurd rfl c)
    refine Runs.go 1 rfl trivial ?_
    exact Runs.fin rfl trivial
  · refine dx_50 ?_
    refine Runs.go 2 rfl trivial ?_
    refine Runs.sw1 (fun c => absurd c (by decide)) (fun _ => ?_)
    refine Runs.sw1 (fun c => absurd c (by decide)) (fun _ => ?_)
    refine Runs.sw1 (fun _ => ?_) (fun c => absurd rfl c)
    refine Runs.go 1 rfl trivial ?_
    exact Runs.fin rfl trivial
  · refine dx_50 ?_
    refine Runs.go 2 rfl trivial ?_
    refine Runs.sw1 (fun c => absurd c (by decide)) (fun _ => ?_)
    refine Runs.sw1 (fun c => absurd c (by decide)) (fun _ => ?_)
    refine Runs.sw1 (fun c => absurd c (by decide)) (fun _ => ?_)
    refine Runs.sw0 ?_
    refine Runs.go 1 rfl trivial ?_
    exact Runs.fin rfl trivial
theorem c_coder (n w : Nat) (h : DH) : dEx (n + 1) 53 [.inr (30, w, 0)] h (some (.inl 0), h) := by
  refine dx_53 ?_
  refine Runs.go 2 rfl trivial ?_
  refine Runs.ifF (by decide) ?_
  refine Runs.go 3 rfl trivial ?_
  exact Runs.fin rfl rfl
theorem c_strlen (n : Nat) (h : DH) : ∀ w, w < 4 → dEx (n + 2) 52 [.inr (30, w, 0)] h (some (.inl (nI (wd w).length)), h) := by
  intro w hw
  refine dx_52 ?_
  refine Runs.go 4 rfl trivial ?_
  refine Runs.cal rfl (c_coder n w h) ?_
  refine Runs.go 1 rfl trivial ?_
  have : w = 0 ∨ w = 1 ∨ w = 2 ∨ w = 3 := by omega
  rcases this with rfl | rfl | rfl | rfl <;> exact Runs.fin rfl trivial
theorem c_latin (n w : Nat) (h : DH) : dEx (n + 1) 55 [.inr (30, w, 0)] h (some (.inl 1), h) := by
  refine dx_55 ?_
  refine Runs.go 2 rfl trivial ?_
  refine Runs.ifF (by decide) ?_
  refine Runs.go 3 rfl trivial ?_
  refine Runs.ifT rfl ?_
  refine Runs.go 2 rfl trivial ?_
  exact Runs.fin rfl (Or.inr rfl)
theorem c_check (n k m : Nat) (h : DH) (hk : k < m) (hm : m < 100) : dEx (n + 1) 58 [.inl (nI k), .inl (nI m), .inr (33, 0, 0)] h (some (.inl (nI k)), h) := by
  refine dx_58 ?_
  refine Runs.go 2 rfl trivial ?_
  refine Runs.ifF (nI_n0 (by omega)) ?_
  refine Runs.go 3 rfl trivial ?_
  refine Runs.ifT (nI_lt hk (by omega)) ?_
  refine Runs.go 1 rfl trivial ?_
  exact Runs.fin rfl trivial
theorem c_check2 (n k m : Nat) (h : DH) (hk : k < m) (hm : m < 100) : dEx (n + 2) 57 [.inl (nI k), .inl (nI m)] h (none, h) := by
  refine dx_57 ?_
  refine Runs.go 3 rfl trivial ?_
  refine Runs.cal rfl (c_check n k m h hk hm) ?_
  refine Runs.go 1 rfl trivial ?_
  exact Runs.fin rfl trivial
theorem wd_at : ∀ w, w < 4 → ∀ k, k < (wd w).length → k < 4 ∧ (wd w).length = [4, 4, 3, 4].getD w 0 ∧ ((dbyt w k &&& 255).toUInt32 % 65536).toInt32 = (wd w).getD k 0 ∧ (((wd w).getD k 0).toUInt32 % 65536).toInt32 = (wd w).getD k 0 := by decide
theorem c_charAt2 (n w k : Nat) (h : DH) (hw : w < 4) (hk : k < (wd w).length) : dEx (n + 3) 56 [.inr (31, w, 0), .inl (nI k)] h (some (.inl ((wd w).getD k 0)), h) := by
  obtain ⟨k4, e1, e2, e3⟩ := wd_at w hw k hk
  have l4 : (wd w).length < 100 := by
    have : w = 0 ∨ w = 1 ∨ w = 2 ∨ w = 3 := by omega
    rcases this with rfl | rfl | rfl | rfl <;> decide
  refine dx_56 ?_
  refine Runs.go 3 rfl trivial ?_
  rw [← e1]
  refine Runs.calv rfl (c_check2 n k (wd w).length h hk l4) ?_
  refine Runs.go 6 rfl ⟨trivial, (by rw [← e1]; exact i_in hk (by omega))⟩ ?_
  rw [i_cl (show k < 2 ^ 31 by omega), e2]
  exact Runs.fin rfl e3
theorem c_charAt (n w k : Nat) (h : DH) (hw : w < 4) (hk : k < (wd w).length) : dEx (n + 4) 54 [.inr (30, w, 0), .inl (nI k)] h (some (.inl ((wd w).getD k 0)), h) := by
  obtain ⟨k4, e1, e2, e3⟩ := wd_at w hw k hk
  refine dx_54 ?_
  refine Runs.go 1 rfl trivial ?_
  refine Runs.cal rfl (c_latin (n + 2) w h) ?_
  refine Runs.go 1 rfl trivial ?_
  refine Runs.ifF (by decide) ?_
  refine Runs.go 3 rfl trivial ?_
  refine Runs.cal rfl (c_charAt2 n w k h hw hk) ?_
  exact Runs.fin rfl e3
