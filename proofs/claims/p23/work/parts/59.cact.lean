/-! the class: acts, whole -/
def actH (g : DH) (a : Nat) (v : Int32) : DH := if v < 0 then g else recH g a
theorem c_act_set (n : Nat) (y x : Int32) (h : DH) {a c : Nat} (ha : h.1 (7, 0, 0) 1 = nI a) (ha4 : a ≤ 4) (hne : rr h a ≠ 0) (hk : cpk h 0 c) {v : Int32} {g : DH} (hop : dEx (n + 5) 5 [.inr (0, 0, 0), .inl y, .inl x] (cfull h (rr h a) 0 c) (some (.inl v), g)) (hg : g.1 (7, 0, 0) 1 = nI a) : dEx (n + 6) 0 [.inr (6, 0, 0), .inl y, .inl x] h (some (.inl v), actH g a v) := by
  refine dx_0 ?_
  refine Runs.go 4 rfl trivial ?_
  refine Runs.calv rfl (c_prepare (n + 2) h ha ha4 hne hk) ?_
  refine Runs.go 6 rfl trivial ?_
  refine Runs.cal rfl hop ?_
  refine Runs.cal rfl (c_recorded (n + 3) v g hg ha4) ?_
  exact Runs.fin rfl trivial
theorem c_act_read (n : Nat) (y x : Int32) (h : DH) {a c : Nat} (ha : h.1 (7, 0, 0) 1 = nI a) (ha4 : a ≤ 4) (hne : rr h a ≠ 0) (hk : cpk h 0 c) {v : Int32} {g : DH} (hop : dEx (n + 5) 10 [.inr (0, 0, 0), .inl y, .inl x] (cfull h (rr h a) 0 c) (some (.inl v), g)) (hg : g.1 (7, 0, 0) 1 = nI a) : dEx (n + 6) 9 [.inr (6, 0, 0), .inl y, .inl x] h (some (.inl v), actH g a v) := by
  refine dx_9 ?_
  refine Runs.go 4 rfl trivial ?_
  refine Runs.calv rfl (c_prepare (n + 2) h ha ha4 hne hk) ?_
  refine Runs.go 6 rfl trivial ?_
  refine Runs.cal rfl hop ?_
  refine Runs.cal rfl (c_recorded (n + 3) v g hg ha4) ?_
  exact Runs.fin rfl trivial
theorem c_act_drop (n : Nat) (y : Int32) (h : DH) {a c : Nat} (ha : h.1 (7, 0, 0) 1 = nI a) (ha4 : a ≤ 4) (hne : rr h a ≠ 0) (hk : cpk h 0 c) {v : Int32} {g : DH} (hop : dEx (n + 5) 13 [.inr (0, 0, 0), .inl y] (cfull h (rr h a) 0 c) (some (.inl v), g)) (hg : g.1 (7, 0, 0) 1 = nI a) : dEx (n + 6) 12 [.inr (6, 0, 0), .inl y] h (some (.inl v), actH g a v) := by
  refine dx_12 ?_
  refine Runs.go 4 rfl trivial ?_
  refine Runs.calv rfl (c_prepare (n + 2) h ha ha4 hne hk) ?_
  refine Runs.go 5 rfl trivial ?_
  refine Runs.cal rfl hop ?_
  refine Runs.cal rfl (c_recorded (n + 3) v g hg ha4) ?_
  exact Runs.fin rfl trivial
theorem c_act_fail (n : Nat) (y : Int32) (h : DH) {a c : Nat} (ha : h.1 (7, 0, 0) 1 = nI a) (ha4 : a ≤ 4) (hne : rr h a ≠ 0) (hk : cpk h 0 c) {v : Int32} {g : DH} (hop : dEx (n + 5) 17 [.inr (0, 0, 0), .inl y] (cfull h (rr h a) 0 c) (some (.inl v), g)) (hg : g.1 (7, 0, 0) 1 = nI a) : dEx (n + 6) 16 [.inr (6, 0, 0), .inl y] h (some (.inl v), actH g a v) := by
  refine dx_16 ?_
  refine Runs.go 4 rfl trivial ?_
  refine Runs.calv rfl (c_prepare (n + 2) h ha ha4 hne hk) ?_
  refine Runs.go 5 rfl trivial ?_
  refine Runs.cal rfl hop ?_
  refine Runs.cal rfl (c_recorded (n + 3) v g hg ha4) ?_
  exact Runs.fin rfl trivial
theorem c_act_replace (n : Nat) (y : Int32) (h : DH) {a c : Nat} (ha : h.1 (7, 0, 0) 1 = nI a) (ha4 : a ≤ 4) (hne : rr h a ≠ 0) (hk : cpk h 0 c) {v : Int32} {g : DH} (hop : dEx (n + 5) 20 [.inr (0, 0, 0), .inl y] (cfull h (rr h a) 0 c) (some (.inl v), g)) (hg : g.1 (7, 0, 0) 1 = nI a) : dEx (n + 6) 19 [.inr (6, 0, 0), .inl y] h (some (.inl v), actH g a v) := by
  refine dx_19 ?_
  refine Runs.go 4 rfl trivial ?_
  refine Runs.calv rfl (c_prepare (n + 2) h ha ha4 hne hk) ?_
  refine Runs.go 5 rfl trivial ?_
  refine Runs.cal rfl hop ?_
  refine Runs.cal rfl (c_recorded (n + 3) v g hg ha4) ?_
  exact Runs.fin rfl trivial
theorem c_act_fuse (n : Nat) (h : DH) {a c : Nat} (ha : h.1 (7, 0, 0) 1 = nI a) (ha4 : a ≤ 4) (hne : rr h a ≠ 0) (hk : cpk h 0 c) {v : Int32} {g : DH} (hop : dEx (n + 5) 24 [.inr (0, 0, 0)] (cfull h (rr h a) 0 c) (some (.inl v), g)) (hg : g.1 (7, 0, 0) 1 = nI a) : dEx (n + 6) 23 [.inr (6, 0, 0)] h (some (.inl v), actH g a v) := by
  refine dx_23 ?_
  refine Runs.go 4 rfl trivial ?_
  refine Runs.calv rfl (c_prepare (n + 2) h ha ha4 hne hk) ?_
  refine Runs.go 4 rfl trivial ?_
  refine Runs.cal rfl hop ?_
  refine Runs.cal rfl (c_recorded (n + 3) v g hg ha4) ?_
  exact Runs.fin rfl trivial
theorem c_act_run (n : Nat) (y : Int32) (h : DH) {a c : Nat} (ha : h.1 (7, 0, 0) 1 = nI a) (ha4 : a ≤ 4) (hne : rr h a ≠ 0) (hk : cpk h 0 c) {v : Int32} {g : DH} (hop : dEx (n + 5) 28 [.inr (0, 0, 0), .inl y] (cfull h (rr h a) 0 c) (some (.inl v), g)) (hg : g.1 (7, 0, 0) 1 = nI a) : dEx (n + 6) 27 [.inr (6, 0, 0), .inl y] h (some (.inl v), actH g a v) := by
  refine dx_27 ?_
  refine Runs.go 4 rfl trivial ?_
  refine Runs.calv rfl (c_prepare (n + 2) h ha ha4 hne hk) ?_
  refine Runs.go 5 rfl trivial ?_
  refine Runs.cal rfl hop ?_
  refine Runs.cal rfl (c_recorded (n + 3) v g hg ha4) ?_
  exact Runs.fin rfl trivial
