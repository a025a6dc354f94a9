/-! the reference's history -/
def ub (h : DH) (κ : DKey) (b : Nat → Int32) : DH := (fun q => if q = κ then b else h.1 q, h.2)
theorem ub_s (h : DH) (κ : DKey) (b : Nat → Int32) : (ub h κ b).1 κ = b := by simp [ub]
theorem ub_n (h : DH) {κ q : DKey} (b : Nat → Int32) (hq : q ≠ κ) : (ub h κ b).1 q = h.1 q := by simp [ub, hq]
theorem ub_id (h : DH) (κ : DKey) : ub h κ (h.1 κ) = h := by
  refine Prod.ext ?_ rfl
  funext q
  show (if q = κ then h.1 κ else h.1 q) = h.1 q
  by_cases z : q = κ
  · rw [if_pos z, z]
  · rw [if_neg z]
theorem ub_up (h : DH) (κ : DKey) (b : Nat → Int32) (k : Nat) (x : Int32) : up1 (ub h κ b) κ k x = ub h κ (upd b k x) := by
  refine Prod.ext ?_ rfl
  funext q j
  by_cases hq : q = κ
  · subst hq
    simp [up1, ub, upd]
  · simp [up1, ub, hq]
theorem hp_un (h : DH) (s f : Nat → Int32) {κ : DKey} (k : Nat) (x : Int32) (h1 : κ ≠ (15, 0, 0)) (h2 : κ ≠ (20, 0, 0)) : up1 (hp h s f) κ k x = hp (up1 h κ k x) s f := by
  refine Prod.ext ?_ rfl
  funext q j
  by_cases hq : q = κ
  · subst hq
    simp [up1, hp, h1, h2]
  · simp [up1, hp, hq]
def cp5 (b : Nat → Int32) (a : Nat) (v : Nat → Int32) (n : Nat) : Nat → Int32 := fun k => if a ≤ k ∧ k < a + n then v (k - a) else b k
theorem cp5_0 (b : Nat → Int32) (a : Nat) (v : Nat → Int32) : cp5 b a v 0 = b := by
  funext k
  unfold cp5
  rw [if_neg (by omega)]
theorem cp5_s (b : Nat → Int32) (a : Nat) (v : Nat → Int32) (n : Nat) : upd (cp5 b a v n) (a + n) (v n) = cp5 b a v (n + 1) := by
  funext k
  unfold upd cp5
  by_cases z : k = a + n
  · rw [if_pos z, if_pos (by omega)]
    congr 1
    omega
  · rw [if_neg z]
    by_cases z2 : a ≤ k ∧ k < a + n
    · rw [if_pos z2, if_pos (by omega)]
    · rw [if_neg z2, if_neg (by omega)]
def knB (b : Nat → Int32) (a : Nat) (s : Nat → Int32) : Nat → Int32 := if a = 4 then cp5 (cp5 b 0 (fun k => b (244 + k)) 732) (244 * 3) s 244 else cp5 b (244 * a) s 244
def knA (a : Nat) : Nat := if a = 4 then 4 else a + 1
def know (h : DH) (a : Nat) (s : Nat → Int32) : DH := up1 (ub h (17, 0, 0) (knB (h.1 (17, 0, 0)) a s)) (14, 0, 0) 3 (nI (knA a))
theorem m_know2 (n : Nat) (h : DH) (s f b : Nat → Int32) {a : Nat} (ha : h.1 (14, 0, 0) 3 = nI a) (ha4 : a < 4) : Runs dT_90 (dEx n) (51, [some (.inr (14, 0, 0)), some (.inl (nI 0))], [], hp (ub h (17, 0, 0) b) s f) (none, hp (up1 (ub h (17, 0, 0) (cp5 b (244 * a) s 244)) (14, 0, 0) 3 (nI (a + 1))) s f) := by
  have hk : ∀ b', (hp (ub h (17, 0, 0) b') s f).1 (14, 0, 0) 3 = nI a := fun b' => by rw [hp_ne _ _ _ (by decide) (by decide), ub_n _ _ (by decide), ha]
  generalize hr : ((none : Option DV), hp (up1 (ub h (17, 0, 0) (cp5 b (244 * a) s 244)) (14, 0, 0) 3 (nI (a + 1))) s f) = r
  rw [show b = cp5 b (244 * a) s 0 from (cp5_0 _ _ _).symm]
  refine Runs.loop 244 (fun k => (51, [some (.inr (14, 0, 0)), some (.inl (nI k))], [], hp (ub h (17, 0, 0) (cp5 b (244 * a) s k)) s f)) (fun k hk2 ih => ?_) ?_
  · refine Runs.go 3 rfl trivial ?_
    refine Runs.ifF (i_ge hk2 (by decide)) ?_
    have e2 : (244 : Int32) * nI a + nI k = nI (244 * a + k) := by rw [show (244 : Int32) = nI 244 from rfl, pk_mul, nI_add]
    refine Runs.go 15 rfl ⟨⟨trivial, (i_in hk2 (by decide))⟩, (by rw [hk]; rw [e2]; exact i_in (show 244 * a + k < 976 by omega) (by decide))⟩ ?_
    rw [hk, e2, nI_1]
    simp only [hp_s, hp_f, hp_o, hp_up, hp_fu, tc0, tc1, tc2, tc3, tc4, tc5, tc6, tc7, tc8, tc9, tc10, tc11, tc12, tc13, tc14, tc15, tc16, tc17, tc18, tc19, tc20, tc93, i_cl (show k < 2 ^ 31 by omega), i_cl (show 244 * a + k < 2 ^ 31 by omega)]
    rw [hp_un _ _ _ _ _ (by decide) (by decide), ub_up, cp5_s]
    exact ih
  · refine Runs.go 3 rfl trivial ?_
    refine Runs.ifT (Int32.le_refl _) ?_
    refine Runs.go 6 rfl trivial ?_
    rw [hk, nI_1, hp_un _ _ _ _ _ (by decide) (by decide)]
    exact Runs.fin (by rw [← hr]; rfl) trivial
theorem ub_cm (h : DH) (b : Nat → Int32) (x : Int32) : up1 (ub h (17, 0, 0) b) (14, 0, 0) 3 x = ub (up1 h (14, 0, 0) 3 x) (17, 0, 0) b := by
  refine Prod.ext ?_ rfl
  funext q j
  by_cases hq : q = (17, 0, 0)
  · subst hq
    simp [up1, ub]
  · simp [up1, ub, hq]
theorem up1_up1 (h : DH) (κ : DKey) (k : Nat) (x y : Int32) : up1 (up1 h κ k x) κ k y = up1 h κ k y := by
  refine Prod.ext ?_ rfl
  funext q j
  simp only [up1_1]
  by_cases z : q = κ ∧ j = k
  · rw [if_pos z, if_pos z]
  · rw [if_neg z, if_neg z, if_neg z]
theorem ub_ub (h : DH) (κ : DKey) (b b' : Nat → Int32) : ub (ub h κ b) κ b' = ub h κ b' := by
  refine Prod.ext ?_ rfl
  funext q
  simp only [ub]
  split <;> rfl
theorem m_know (n : Nat) (h : DH) (s f : Nat → Int32) {a : Nat} (ha : h.1 (14, 0, 0) 3 = nI a) (ha4 : a ≤ 4) : dEx (n + 1) 90 [.inr (14, 0, 0)] (hp h s f) (none, hp (know h a s) s f) := by
  refine dx_90 ?_
  have hk : ∀ b', (hp (ub h (17, 0, 0) b') s f).1 (14, 0, 0) 3 = nI a := fun b' => by rw [hp_ne _ _ _ (by decide) (by decide), ub_n _ _ (by decide), ha]
  have e0 : hp h s f = hp (ub h (17, 0, 0) (h.1 (17, 0, 0))) s f := by rw [ub_id]
  rw [e0]
  unfold know knB knA
  generalize h.1 (17, 0, 0) = b
  refine Runs.go 4 rfl trivial ?_
  rw [hk]
  by_cases z : a = 4
  · rw [if_pos z, if_pos z]
    refine Runs.ifT (by rw [z]; rfl) ?_
    generalize hr : ((none : Option DV), hp (up1 (ub h (17, 0, 0) (cp5 (cp5 b 0 (fun k => b (244 + k)) 732) (244 * 3) s 244)) (14, 0, 0) 3 (nI 4)) s f) = r
    refine Runs.go 2 rfl trivial ?_
    rw [show b = cp5 b 0 (fun k => b (244 + k)) 0 from (cp5_0 _ _ _).symm]
    refine Runs.loop 732 (fun k => (10, [some (.inr (14, 0, 0)), some (.inl (nI k))], [], hp (ub h (17, 0, 0) (cp5 b 0 (fun k => b (244 + k)) k)) s f)) (fun k hk2 ih => ?_) ?_
    · refine Runs.go 3 rfl trivial ?_
      refine Runs.ifF (i_ge hk2 (by decide)) ?_
      have e2 : (244 : Int32) + nI k = nI (244 + k) := by rw [show (244 : Int32) = nI 244 from rfl, nI_add]
      refine Runs.go 12 rfl ⟨⟨trivial, (by rw [e2]; exact i_in (show 244 + k < 976 by omega) (by decide))⟩, (i_in (show k < 976 by omega) (by decide))⟩ ?_
      rw [e2, nI_1, i_cl (show k < 2 ^ 31 by omega), i_cl (show 244 + k < 2 ^ 31 by omega), hp_un _ _ _ _ _ (by decide) (by decide), ub_up]
      have e3 : (hp (ub h (17, 0, 0) (cp5 b 0 (fun k => b (244 + k)) k)) s f).1 (17, 0, 0) (244 + k) = b (244 + k) := by
        rw [hp_ne _ _ _ (by decide) (by decide), ub_s]
        unfold cp5
        rw [if_neg (by omega)]
      have e4 := cp5_s b 0 (fun k => b (244 + k)) k
      rw [Nat.zero_add] at e4
      rw [e3, e4]
      exact ih
    · refine Runs.go 3 rfl trivial ?_
      refine Runs.ifT (Int32.le_refl _) ?_
      refine Runs.go 8 rfl trivial ?_
      rw [hk, z, show nI 4 - 1 = nI 3 from rfl, hp_un _ _ _ _ _ (by decide) (by decide), ub_cm]
      have m2 := m_know2 n (up1 h (14, 0, 0) 3 (nI 3)) s f (cp5 b 0 (fun k => b (244 + k)) 732) (a := 3) (by rw [up1_1, if_pos ⟨rfl, rfl⟩]) (by decide)
      have eq : ∀ B, up1 (ub (up1 h (14, 0, 0) 3 (nI 3)) (17, 0, 0) B) (14, 0, 0) 3 (nI (3 + 1)) = up1 (ub h (17, 0, 0) B) (14, 0, 0) 3 (nI 4) := fun B => by rw [← ub_cm, up1_up1]
      rw [eq, hr] at m2
      exact m2
  · rw [if_neg z, if_neg z]
    refine Runs.ifF (fun t => z ?_) ?_
    · exact nI_inj (by omega) (by decide) t
    · refine Runs.go 2 rfl trivial ?_
      exact m_know2 n h s f b ha (by omega)
