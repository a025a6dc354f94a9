/-! isAnswerSo -/
theorem rdO_at {h : DH} {i c : Nat} {s : Nat → Int32} {T : Nat} (hc : SR h i c s) (hq : QI T s) {r : R5} (hr : r ∈ LM s (cc s)) : ∃ p, p < c ∧ mplc s c r.1 = some p ∧ rmk s p = r := by
  cases hp : mplc s c r.1 with
  | none => exact absurd ⟨r, hr, rfl⟩ ((mplc_none hc.cc).mp hp)
  | some p =>
    obtain ⟨h1, h2, h3⟩ := mplc_at hc.cc hp
    exact ⟨p, h1, rfl, hq.2.2.2.1.uniq h2 hr h3⟩
theorem rdO_none {h : DH} {i c : Nat} {s : Nat → Int32} (hc : SR h i c s) {x : Int32} (w : Int32) (hn : ¬ pr s x) : rdO s c x w = -1 := by
  unfold rdO
  rw [(mplc_none hc.cc).mpr hn]
theorem rdO_0 {h : DH} {i c : Nat} {s : Nat → Int32} {T : Nat} (hc : SR h i c s) (hq : QI T s) {r : R5} (hr : r ∈ LM s (cc s)) : rdO s c r.1 0 = dk5 r := by
  obtain ⟨p, h1, h2, h3⟩ := rdO_at hc hq hr
  unfold rdO
  rw [h2, ← h3]
  rfl
theorem rdO_4 {h : DH} {i c : Nat} {s : Nat → Int32} {T : Nat} (hc : SR h i c s) (hq : QI T s) {r : R5} (hr : r ∈ LM s (cc s)) : rdO s c r.1 4 = s 10 - r.2.2.2.2 := by
  obtain ⟨p, h1, h2, h3⟩ := rdO_at hc hq hr
  unfold rdO
  rw [h2, ← h3]
  rfl
theorem l_ansSo (n : Nat) (x : Int32) {h : DH} {s : Nat → Int32} {l : List (Nat → Int32)} (hs : PR h s l) (hx : x = -5 ∨ pr s x) : ∃ (h' : DH) (l' : List (Nat → Int32)), dEx (n + 7) 92 [.inr (6, 0, 0), .inl x] h (some (.inl 1), h') ∧ PR h' s l' := by
  let Q : DRes → Prop := fun r => ∃ (h' : DH) (l' : List (Nat → Int32)), r = (some (.inl 1), h') ∧ PR h' s l'
  obtain ⟨T, hq, hT, hT10⟩ := hs.1.T
  obtain ⟨f, hf⟩ : ∃ f : Nat → Int32, f = fun _ => 0 := ⟨_, rfl⟩
  have key : RunsK dT_92 (dEx (n + 6)) (dEnQ dT_92 Q) (0, [some (.inr (6, 0, 0)), some (.inl x), none, none, none, none, none, none, none, none, none], [], h) := by
    refine RunsK.go 2 rfl trivial ?_
    by_cases hp : pr s x
    · have x0 := pr_n0 hq hp
      obtain ⟨r, hr, hrx⟩ := id hp
      obtain ⟨c, hc⟩ := hs.sr
      obtain ⟨d, hd12, hrd⟩ : ∃ d, d < 12 ∧ dk5 r = nI d := by
        rw [hc.cc] at hr
        obtain ⟨e, he, hed, -⟩ := hc.2.2.2.2.2.2.2.2.2.2 r hr
        exact ⟨e, he, hed⟩
      obtain ⟨v, g, c1, hg, c3⟩ := (c_ansP (n + 1) x f hs).2 r d hr hrx hrd hd12
      obtain ⟨cg, hcg⟩ := hg.sr
      have ecg : cg = c := hcg.cc.symm.trans hc.cc
      subst ecg
      obtain ⟨ak, ak1, ak2⟩ := hq.2.2.2.2.1.nat hT10 (by omega) r hr
      have hask : ask r = ak := by unfold ask; rw [ak2, i_cl (by omega)]
      refine RunsK.cal rfl c1 ?_
      refine RunsK.go 3 rfl trivial ?_
      refine RunsK.ifF x0 ?_
      refine RunsK.go 2 rfl trivial ?_
      refine RunsK.cal rfl (c_countP (n + 1) 0 g hcg (by decide) (by decide)) ?_
      rw [show mco g s cg 0 = s 10 from rfl, hT10]
      refine RunsK.go 2 rfl trivial ?_
      by_cases z9 : nI T ≤ 99000
      · refine RunsK.ifT z9 ?_
        have hT9 : T ≤ 99000 := (nI_leI (by omega) (by decide)).mp z9
        refine RunsK.go 3 rfl trivial ?_
        refine RunsK.cal rfl (c_readT (n + 2) x 4 g hcg) ?_
        rw [← hrx, rdO_4 hcg hq hr, hT10, ak2, pk_sub ak1]
        refine RunsK.go 4 rfl trivial ?_
        refine RunsK.cal rfl (c_readT (n + 2) r.1 0 g hcg) ?_
        rw [rdO_0 hcg hq hr, hrd]
        refine RunsK.go 3 rfl trivial ?_
        refine RunsK.cal rfl (c_countP (n + 1) 5 g hcg (by decide) (by decide)) ?_
        rw [show mco g s cg 5 = s 13 from rfl, hq.a.1]
        refine RunsK.go 3 rfl trivial ?_
        refine RunsK.cal rfl (c_countP (n + 1) 16 g hcg (by decide) (by decide)) ?_
        rw [show mco g s cg 16 = s 20 from rfl, hq.w.1]
        refine RunsK.go 4 rfl trivial ?_
        rw [← hrx] at c3 hp x0
        have a5 := hq.a.2
        rcases c3 with ⟨N, hN, rfl, hpN, hnN, h3N⟩ | ⟨rfl, h400⟩
        · refine RunsK.ifF (nI_m5 (by omega)) ?_
          obtain ⟨van1, van2⟩ := rk_van f hc hq (show T + (N + 1) ≤ 110000 by omega) hr hrd hd12 hpN hnN h3N
          rw [hask] at van2
          have b1 : ∀ k, k ≤ 400 → ans (rk s f k).1 ≤ 500 := fun k hk => (rk_ans f hc hq (k := k) (by omega)).2
          have m2 : ∀ k, k ≤ 400 → ans s ≤ ans (rk s f k).1 := fun k hk => (rk_mono f hc hq k (by omega)).2.1
          have t10 : ∀ k, (rk s f k).1 10 = nI (T + k) := fun k => by rw [(pass_lo f hc k).2.1, hT10, nI_add]
          have tail : ∀ (A0 R : Nat) (la : List (Nat → Int32)) (ha : DH) (F0 : Nat), A0 + (R + 1) = N + 1 → R < 200 → F0 ≤ 500 → PR ha (rk s f A0).1 la → ((A0 = 0 ∧ N + 1 ≤ 200) ∨ (200 < N + 1 ∧ ∃ l0, la = s :: l0)) → RunsK dT_92 (dEx (n + 6)) (dEnQ dT_92 Q) (185, [some (.inr (6, 0, 0)), some (.inl r.1), some (.inl (nI (N + 1))), some (.inl (nI (T - ak))), some (.inl (nI d)), some (.inl (nI (ans s))), some (.inl (nI (wtd s))), some (.inl (nI F0)), some (.inl (nI (R + 1))), none, none], [], ha) := by
            intro A0 R la ha F0 hAR hR hF0 hPa hcase
            have e322 : ∀ (q : Nat) (h4 : DH) (l4 : List (Nat → Int32)), q ≤ 4 → PR h4 s l4 → RunsK dT_92 (dEx (n + 6)) (dEnQ dT_92 Q) (322, [some (.inr (6, 0, 0)), some (.inl r.1), some (.inl (nI (N + 1))), some (.inl (nI (T - ak))), some (.inl (nI d)), some (.inl (nI (ans s))), some (.inl (nI (wtd s))), some (.inl (nI F0)), some (.inl (nI (R + 1))), some (.inl 1), some (.inl (nI q))], [], h4) := by
              intro q h4 l4 hq4 hP4
              obtain ⟨c4, hc4⟩ := hP4.sr
              refine RunsK.go 2 rfl trivial ?_
              refine RunsK.ifF (nI_n0 (by omega)) ?_
              refine RunsK.go 2 rfl trivial ?_
              refine RunsK.ifF (nI_n0 (by omega)) ?_
              refine RunsK.go 2 rfl trivial ?_
              refine RunsK.cal rfl (c_countP (n + 1) 5 h4 hc4 (by decide) (by decide)) ?_
              rw [show mco h4 s c4 5 = s 13 from rfl, hq.a.1]
              refine RunsK.go 2 rfl trivial ?_
              refine RunsK.ifT rfl ?_
              refine RunsK.go 2 rfl trivial ?_
              exact RunsK.fin rfl (Or.inr rfl) ⟨h4, l4, rfl, hP4⟩
            -- behind the last undo but one: the state is the one at A0
            have e299 : ∀ (q : Nat) (h4 : DH) (l4 : List (Nat → Int32)), q ≤ 4 → PR h4 (rk s f A0).1 l4 → ((A0 = 0 ∧ N + 1 ≤ 200) ∨ (200 < N + 1 ∧ ∃ l0, l4 = s :: l0)) → RunsK dT_92 (dEx (n + 6)) (dEnQ dT_92 Q) (299, [some (.inr (6, 0, 0)), some (.inl r.1), some (.inl (nI (N + 1))), some (.inl (nI (T - ak))), some (.inl (nI d)), some (.inl (nI (ans s))), some (.inl (nI (wtd s))), some (.inl (nI F0)), some (.inl (nI (R + 1))), some (.inl 1), some (.inl (nI q))], [], h4) := by
              intro q h4 l4 hq4 hP4 hc4
              refine RunsK.go 3 rfl trivial ?_
              rcases hc4 with ⟨rfl, hle⟩ | ⟨hgt, l0, rfl⟩
              · refine RunsK.ifT (nI_le hle (by decide)) ?_
                refine RunsK.go 4 rfl trivial ?_
                refine RunsK.ifF (by decide) ?_
                exact e322 q h4 l4 hq4 hP4
              · refine RunsK.ifF (nI_ge hgt (by omega)) ?_
                refine RunsK.go 1 rfl trivial ?_
                obtain ⟨h5, u1, u2⟩ := c_undoP (n + 2) hP4
                refine RunsK.cal rfl u1 ?_
                refine RunsK.go 4 rfl trivial ?_
                refine RunsK.ifF (by decide) ?_
                have := hP4.2.2.1
                rw [List.length_cons] at this
                exact e322 _ h5 l0 (by omega) u2
            have e202 : ∀ (lb : List (Nat → Int32)) (hb : DH), PR hb (rk s f N).1 lb → ((R = 0 ∧ lb = la) ∨ (0 < R ∧ lb = ((rk s f A0).1 :: la).take 4)) → RunsK dT_92 (dEx (n + 6)) (dEnQ dT_92 Q) (202, [some (.inr (6, 0, 0)), some (.inl r.1), some (.inl (nI (N + 1))), some (.inl (nI (T - ak))), some (.inl (nI d)), some (.inl (nI (ans s))), some (.inl (nI (wtd s))), some (.inl (nI F0)), some (.inl (nI (R + 1))), none, none], [], hb) := by
              intro lb hb hPb hlb
              obtain ⟨cb, hcb⟩ := hPb.sr
              obtain ⟨r', hr', hrx'⟩ := hpN
              have ek := rk_same f hc hq (k := N) (by omega) hr hr' hrx'
              have ed : dk5 r' = nI d := (congrArg (fun q => q.2.1) ek).trans hrd
              have hqN := rk_Q f hc hq N (by omega)
              have hqN1 := rk_Q f hc hq (N + 1) (by omega)
              refine RunsK.go 5 rfl trivial ?_
              refine RunsK.ifF (by decide) ?_
              refine RunsK.go 3 rfl trivial ?_
              refine RunsK.cal rfl (c_readT (n + 2) r.1 0 hb hcb) ?_
              rw [show rdO (rk s f N).1 cb r.1 0 = nI d from by rw [← hrx', rdO_0 hcb hqN hr', ed]]
              refine RunsK.go 2 rfl trivial ?_
              refine RunsK.ifT rfl ?_
              refine RunsK.go 2 rfl trivial ?_
              obtain ⟨hd', v1, v2⟩ := c_runQ n hPb (rk s f N).2 (t := 1) (by decide) (by decide) (by rw [t10 N, nI_add]; exact nI_le (show T + N + 1 ≤ 99999 by omega) (by decide))
              rw [show (rk (rk s f N).1 (rk s f N).2 1).1 = (rk s f (N + 1)).1 from by rw [rk_add]] at v1 v2
              refine RunsK.cal rfl v1 ?_
              obtain ⟨cd, hcd⟩ := v2.sr
              have b1N := b1 (N + 1) (by omega)
              refine RunsK.go 2 rfl trivial ?_
              refine RunsK.ifF (nI_nlt (show 1 ≤ ans (rk s f (N + 1)).1 - ans (rk s f N).1 by omega) (by omega)) ?_
              refine RunsK.go 3 rfl trivial ?_
              refine RunsK.cal rfl (c_readT (n + 2) r.1 0 hd' hcd) ?_
              rw [rdO_none hcd 0 hnN]
              refine RunsK.go 2 rfl trivial ?_
              refine RunsK.ifT rfl ?_
              refine RunsK.go 2 rfl trivial ?_
              refine RunsK.cal rfl (c_countP (n + 1) 5 hd' hcd (by decide) (by decide)) ?_
              rw [show mco hd' (rk s f (N + 1)).1 cd 5 = (rk s f (N + 1)).1 13 from rfl, hqN1.a.1]
              refine RunsK.go 2 rfl trivial ?_
              refine RunsK.ifF (nI_ge (show ans s < ans (rk s f (N + 1)).1 by have := m2 N (by omega); omega) (by omega)) ?_
              refine RunsK.go 2 rfl trivial ?_
              refine RunsK.cal rfl (c_countP (n + 1) 16 hd' hcd (by decide) (by decide)) ?_
              rw [show mco hd' (rk s f (N + 1)).1 cd 16 = (rk s f (N + 1)).1 20 from rfl, hqN1.w.1]
              refine RunsK.go 6 rfl trivial ?_
              have w1 := hqN1.w.2
              rw [pk_sub (show wtd s ≤ wtd (rk s f (N + 1)).1 by omega), nI_add]
              refine RunsK.ifF (nI_nlt (show T - ak + (N + 1) ≤ wtd (rk s f (N + 1)).1 - wtd s by omega) (by omega)) ?_
              refine RunsK.go 4 rfl trivial ?_
              obtain ⟨h5, u1, u2⟩ := c_undoP (n + 2) (show PR hd' (rk s f (N + 1)).1 ((rk s f N).1 :: lb.take 3) from v2)
              refine RunsK.cal rfl u1 ?_
              have hl3 : (lb.take 3).length ≤ 3 := List.length_take_le _ _
              refine RunsK.go 4 rfl trivial ?_
              rcases hlb with ⟨rfl, rfl⟩ | ⟨hR0, rfl⟩
              · refine RunsK.ifT (by decide) ?_
                refine RunsK.go 2 rfl trivial ?_
                have eN : N = A0 := by omega
                rw [eN] at u2
                exact e299 _ h5 _ (by omega) u2 (hcase.imp id (fun ⟨q, l0, q2⟩ => ⟨q, l0.take 2, by rw [q2]; rfl⟩))
              · refine RunsK.ifF (nI_ge (show 1 < R + 1 by omega) (by omega)) ?_
                refine RunsK.go 1 rfl trivial ?_
                obtain ⟨h6, y1, y2⟩ := c_undoP (n + 2) (show PR h5 (rk s f N).1 ((rk s f A0).1 :: (la.take 3).take 2) from u2)
                refine RunsK.cal rfl y1 ?_
                have hl2 : ((la.take 3).take 2).length ≤ 2 := List.length_take_le _ _
                refine RunsK.go 2 rfl trivial ?_
                exact e299 _ h6 _ (by omega) y2 (hcase.imp id (fun ⟨q, l0, q2⟩ => ⟨q, (l0.take 2).take 1, by rw [q2]; rfl⟩))
            refine RunsK.go 3 rfl trivial ?_
            by_cases zR : R = 0
            · subst zR
              refine RunsK.ifT rfl ?_
              have eN : A0 = N := by omega
              rw [eN] at hPa
              exact e202 la ha hPa (Or.inl ⟨rfl, rfl⟩)
            · refine RunsK.ifF (fun t => zR (by
                have := nI_inj (b := 1) (by omega) (by decide) t
                omega)) ?_
              refine RunsK.go 4 rfl trivial ?_
              rw [nI_pred]
              obtain ⟨hb, v1, v2⟩ := c_runQ n hPa (rk s f A0).2 (t := R) (by omega) (by omega) (by rw [t10 A0, nI_add]; exact nI_le (show T + A0 + R ≤ 99999 by omega) (by decide))
              rw [show (rk (rk s f A0).1 (rk s f A0).2 R).1 = (rk s f N).1 from by rw [← rk_add, show A0 + R = N by omega]] at v1 v2
              refine RunsK.cal rfl v1 ?_
              have := b1 N (by omega)
              refine RunsK.go 1 rfl trivial ?_
              refine RunsK.ifF (nI_n0 (by omega)) ?_
              exact e202 _ hb v2 (Or.inr ⟨by omega, rfl⟩)
          refine RunsK.go 3 rfl trivial ?_
          by_cases z2 : N + 1 ≤ 200
          · refine RunsK.ifT (nI_le z2 (by decide)) ?_
            refine RunsK.go 5 rfl trivial ?_
            refine RunsK.ifT (nI_le z2 (by decide)) ?_
            refine RunsK.go 2 rfl trivial ?_
            exact tail 0 N l g 0 (by omega) (by omega) (by omega) hg (Or.inl ⟨rfl, z2⟩)
          · refine RunsK.ifF (nI_ge (show 200 < N + 1 by omega) (by omega)) ?_
            refine RunsK.go 2 rfl trivial ?_
            obtain ⟨hb, v1, v2⟩ := c_runQ n hg f (t := 200) (by decide) (by decide) (by rw [hT10, nI_add]; exact nI_le (show T + 200 ≤ 99999 by omega) (by decide))
            refine RunsK.cal rfl v1 ?_
            have := b1 200 (by omega)
            refine RunsK.go 5 rfl trivial ?_
            refine RunsK.ifF (nI_ge (show 200 < N + 1 by omega) (by omega)) ?_
            refine RunsK.go 5 rfl trivial ?_
            rw [show nI (N + 1) - 200 = nI (N - 200 + 1) from by
              rw [show (200 : Int32) = nI 200 from rfl, pk_sub (by omega)]
              exact congrArg nI (by omega)]
            exact tail 200 (N - 200) _ hb _ (by omega) (by omega) (by omega) v2 (Or.inr ⟨by omega, l.take 3, rfl⟩)
        · refine RunsK.ifT rfl ?_
          have b1 : ∀ k, k ≤ 400 → ans (rk s f k).1 ≤ 500 := fun k hk => (rk_ans f hc hq (k := k) (by omega)).2
          have t10 : ∀ k, (rk s f k).1 10 = nI (T + k) := fun k => by rw [(pass_lo f hc k).2.1, hT10, nI_add]
          refine RunsK.go 2 rfl trivial ?_
          obtain ⟨hb, v1, v2⟩ := c_runQ n hg f (t := 200) (by decide) (by decide) (by rw [hT10, nI_add]; exact nI_le (show T + 200 ≤ 99999 by omega) (by decide))
          refine RunsK.cal rfl v1 ?_
          refine RunsK.go 2 rfl trivial ?_
          obtain ⟨hd', w1, w2⟩ := c_runQ n v2 (rk s f 200).2 (t := 200) (by decide) (by decide) (by rw [t10 200, nI_add]; exact nI_le (show T + 200 + 200 ≤ 99999 by omega) (by decide))
          rw [show (rk (rk s f 200).1 (rk s f 200).2 200).1 = (rk s f 400).1 from by rw [← rk_add]] at w1 w2
          refine RunsK.cal rfl w1 ?_
          obtain ⟨cd, hcd⟩ := w2.sr
          have q400 := rk_Q f hc hq 400 (by omega)
          have p1 := b1 200 (by omega)
          have p2 := b1 400 (by omega)
          refine RunsK.go 5 rfl trivial ?_
          refine RunsK.cal rfl (c_readT (n + 2) r.1 0 hd' hcd) ?_
          refine RunsK.go 1 rfl trivial ?_
          have e108 : RunsK dT_92 (dEx (n + 6)) (dEnQ dT_92 Q) (108, [some (.inr (6, 0, 0)), some (.inl r.1), some (.inl (-5)), some (.inl (nI (T - ak))), some (.inl (nI d)), some (.inl (nI (ans s))), some (.inl (nI (wtd s))), some (.inl (nI (ans (rk s f 200).1 - ans s) + nI (ans (rk s f 400).1 - ans (rk s f 200).1))), none, none, none], [], hd') := by
            refine RunsK.go 4 rfl trivial ?_
            obtain ⟨h5, u1, u2⟩ := c_undoP (n + 2) (show PR hd' (rk s f 400).1 ((rk s f 200).1 :: (s :: l.take 3).take 3) from w2)
            refine RunsK.cal rfl u1 ?_
            refine RunsK.go 1 rfl trivial ?_
            obtain ⟨h6, y1, y2⟩ := c_undoP (n + 2) (show PR h5 (rk s f 200).1 (s :: (l.take 3).take 2) from u2)
            refine RunsK.cal rfl y1 ?_
            have hl2 : ((l.take 3).take 2).length ≤ 2 := List.length_take_le _ _
            have hl3 : ((s :: l.take 3).take 3).length ≤ 3 := List.length_take_le _ _
            refine RunsK.go 4 rfl trivial ?_
            refine RunsK.ifF (by decide) ?_
            rw [nI_add, nI_add]
            refine RunsK.go 2 rfl trivial ?_
            refine RunsK.ifF (nI_n0 (by omega)) ?_
            refine RunsK.go 2 rfl trivial ?_
            refine RunsK.ifF (nI_n0 (by omega)) ?_
            refine RunsK.go 2 rfl trivial ?_
            exact RunsK.fin rfl (Or.inr rfl) ⟨h6, _, rfl, y2⟩
          by_cases zp : pr (rk s f 400).1 r.1
          · obtain ⟨r', hr', hrx'⟩ := zp
            have ek := rk_same f hc hq (k := 400) (by omega) hr hr' hrx'
            have ed : dk5 r' = nI d := (congrArg (fun q => q.2.1) ek).trans hrd
            rw [show rdO (rk s f 400).1 cd r.1 0 = nI d from by rw [← hrx', rdO_0 hcd q400 hr', ed]]
            refine RunsK.ifT (nI_pos' (by omega)) ?_
            exact e108
          · rw [rdO_none hcd 0 zp]
            refine RunsK.ifF (by decide) ?_
            refine RunsK.go 3 rfl trivial ?_
            refine RunsK.cal rfl (c_diskT (n + 2) 0 hd' hcd hd12) ?_
            rw [show mtd (rk s f 400).1 cd d 0 = (rk s f 400).1 (oD d 0) from rfl, h400.resolve_left zp]
            refine RunsK.go 2 rfl trivial ?_
            refine RunsK.ifT rfl ?_
            exact e108
      · refine RunsK.ifF z9 ?_
        refine RunsK.go 2 rfl trivial ?_
        refine RunsK.ifT (Int32.not_lt.mp x0) ?_
        refine RunsK.go 2 rfl trivial ?_
        exact RunsK.fin rfl (Or.inr rfl) ⟨g, l, rfl, hg⟩
    · have x5 := hx.resolve_right hp
      refine RunsK.cal rfl ((c_ansP (n + 1) x f hs).1 hp) ?_
      refine RunsK.go 3 rfl trivial ?_
      rw [x5]
      refine RunsK.ifT (by decide) ?_
      refine RunsK.go 2 rfl trivial ?_
      refine RunsK.ifF (by decide) ?_
      refine RunsK.go 3 rfl trivial ?_
      refine RunsK.ifT rfl ?_
      refine RunsK.go 2 rfl trivial ?_
      exact RunsK.fin rfl (Or.inr rfl) ⟨h, l, rfl, hs⟩
  obtain ⟨r, ⟨h', l', rfl, hP⟩, hrun⟩ := key.ex
  exact ⟨h', l', dx_92 hrun, hP⟩
