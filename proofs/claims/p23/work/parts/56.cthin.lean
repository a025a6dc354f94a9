/-! the class: what is told by one call -/
theorem c_disk (n : Nat) (y x : Int32) (h : DH) : (∀ d, d < 12 → y = nI d → dEx (n + 4) 73 [.inr (6, 0, 0), .inl y, .inl x] h (some (.inl (ctellDisk h 0 d x)), h)) ∧ (¬ wip y 0 11 → dEx (n + 4) 73 [.inr (6, 0, 0), .inl y, .inl x] h (some (.inl (-1)), h)) := by
  constructor
  · intro d hd e
    refine dx_73 ?_
    refine Runs.go 4 rfl trivial ?_
    refine Runs.cal rfl ((c_tellDisk n 0 y x h).1 d hd e) ?_
    exact Runs.fin rfl trivial
  · intro e
    refine dx_73 ?_
    refine Runs.go 4 rfl trivial ?_
    refine Runs.cal rfl ((c_tellDisk n 0 y x h).2 e) ?_
    exact Runs.fin rfl trivial
theorem c_readOf (n : Nat) (y x : Int32) (h : DH) {c : Nat} (hc : h.1 (0, 0, 0) 3 = nI c) (h30 : c ≤ 30) : dEx (n + 4) 75 [.inr (6, 0, 0), .inl y, .inl x] h (some (.inl (match cplc h 0 c y with | some k => ctellRead h 0 k x | none => -1)), h) := by
  refine dx_75 ?_
  refine Runs.go 4 rfl trivial ?_
  refine Runs.cal rfl (c_tellRead n 0 y x h hc h30) ?_
  exact Runs.fin rfl trivial
theorem c_couldStart (n : Nat) (h : DH) : dEx (n + 4) 78 [.inr (6, 0, 0)] h (some (.inl (cstartable h 0)), h) := by
  refine dx_78 ?_
  refine Runs.go 2 rfl trivial ?_
  refine Runs.cal rfl (c_startable n 0 h) ?_
  exact Runs.fin rfl trivial
