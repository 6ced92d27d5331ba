/-! ===== pure: a line on a level ===== -/
section LVL
variable {g g' g2 : HH} {hd hd' ht ht' hh hr hc : HH} {B R H D K n N N' s x l : Nat}
theorem e14 (l : Nat) : (14 : Int32) + 4 * nI l = nI (14 + 4 * l) := by
  have e := pu_14 l 0
  rw [show nI 0 = 0 from rfl, Int32.add_zero] at e
  exact e
theorem hasL (h : RRel hr (gv g) K) (h1 : 1 ≤ l) (h2 : l ≤ 4) : F_Rules_hasLevel (nI l) hr = if g 2 (14 + 4 * l) = 0 then 0 else 1 := by
  obtain ⟨r1, r2, -⟩ := h.2.1 l h1 h2
  have r1' : hr 1 l = g 2 (14 + 4 * l) := r1
  have r2' : 0 ≤ g 2 (14 + 4 * l) := r2
  have w : F_K_within (nI l) 1 4 = 1 := by
    rcases pu_wc (nI l) 1 4 (by omega) (by omega) with ⟨j, -, -, -, e⟩ | ⟨e, -⟩
    · exact e
    · exact absurd rfl (e l h1 h2)
  unfold F_Rules_hasLevel
  rw [w, if_neg pu_10, pu_rd _ (by omega) (by omega), r1']
  by_cases c : g 2 (14 + 4 * l) = 0
  · rw [if_pos c, c]; rfl
  · rw [if_neg c, if_neg (fun z => c (Int32.le_antisymm z r2'))]
/-- both read a level behind its number -/
theorem level_in (P : PP hd ht g s) (h1 : 1 ≤ l) (h2 : l ≤ 4) (hN : 1000 ≤ N) (hN' : 1000 ≤ N') : ∃ x1 x2 x3 y w1 w2 w3 w4 hd' ht' g', (Option.bind (F_Read_skipWord N 10 hd ht) fun v10 => (Option.bind (F_Read_takeNumber N 1 9 v10.1 v10.2) fun v12 => (Option.bind (F_Read_skipWord N 11 v12.2.1 v12.2.2) fun v14 => (Option.bind (F_Read_takeNumber N 1 9 v14.1 v14.2) fun v16 => (Option.bind (Option.bind (F_Read_takeOption N 12 v16.2.2) fun v18 => (if v18.1 = 0 then some ((0 : Int32), v16.2.1, v18.2) else (Option.bind (F_Read_takeNumber N 1 5 v16.2.1 v18.2) fun v21 => some (v21.1, v21.2.1, v21.2.2)))) fun v23 => (Option.bind (F_Read_takeOption N 13 v23.2.2) fun v24 => some (v12.1, v16.1, v23.1, v24.1, v23.2.1, v24.2))))))) = some (x1, x2, x3, bi y, hd', ht') ∧ (Option.bind (F_Mo_passes N' 10 g) fun v11 => (Option.bind (F_Mo_number N' 1 9 v11) fun v13 => (Option.bind (F_Mo_passes N' 11 v13.2) fun v15 => (Option.bind (F_Mo_number N' 1 9 v15) fun v17 => (Option.bind (Option.bind (F_Mo_eats N' 12 v17.2) fun v19 => (if v19.1 = 0 then some ((0 : Int32), v19.2) else (Option.bind (F_Mo_number N' 1 5 v19.2) fun v22 => some (v22.1, v22.2)))) fun v24 => (Option.bind (F_Mo_eats N' 13 (sa v24.2 2 (nI (14 + 4 * l + 2)) v24.1)) fun v27 => some (sa (sa (sa v27.2 2 (nI (14 + 4 * l + 3)) (if v27.1 = 0 then 0 else 1)) 2 (nI (14 + 4 * l)) v13.1) 2 (nI (14 + 4 * l + 1)) v17.1))))))) = some g' ∧ PP hd' ht' g' s ∧ FgP g g' ∧ (hd 0 0 ≠ 0 → hd' 0 0 ≠ 0) ∧ (∀ j, g' 2 j = if j = 14 + 4 * l + 1 then w2 else if j = 14 + 4 * l then w1 else if j = 14 + 4 * l + 3 then w4 else if j = 14 + 4 * l + 2 then w3 else g 2 j) ∧ g' 3 = g 3 ∧ g' 0 5 = g 0 5 ∧ (hd' 0 0 = 0 → (x1 = w1 ∧ x2 = w2 ∧ x3 = w3 ∧ (if bi y = 0 then (0 : Int32) else 1) = w4) ∧ F_K_within x1 1 9 = 1 ∧ Mv ht ht' 0) := by
  obtain ⟨hd1, ht1, g1, a1, a2, P1, S1, a3, a4⟩ := skip_ok (x := 10) (N := N) (N' := N') P (by omega) hN hN'
  obtain ⟨x1, w1, hd2, ht2, g2, b1, b2, P2, S2, b3, b4⟩ := tk_ok (N := N) (N' := N') P1 (lo := 1) (hi := 9) (lo' := 1) (hi' := 9) (fun _ => ⟨rfl, rfl, by decide⟩) hN hN'
  obtain ⟨hd3, ht3, g3, c1, c2, P3, S3, c3, c4⟩ := skip_ok (x := 11) (N := N) (N' := N') P2 (by omega) hN hN'
  obtain ⟨x2, w2, hd4, ht4, g4, d1, d2, P4, S4, d3, d4⟩ := tk_ok (N := N) (N' := N') P3 (lo := 1) (hi := 9) (lo' := 1) (hi' := 9) (fun _ => ⟨rfl, rfl, by decide⟩) hN hN'
  obtain ⟨x3, w3, hd5, ht5, g5, f1, f2, P5, S5, f3, f4⟩ := opn_ok (x := 12) (N := N) (N' := N') P4 (by omega) 0 hN hN'
  obtain ⟨y, y', ht6, g6, p1, p2, P6, S6, p3⟩ := op_ok (x := 13) (N := N) (N' := N') (P5.sa (Or.inl rfl) (nI (14 + 4 * l + 2)) w3) (by omega) hN hN'
  obtain ⟨w4, ew4⟩ : ∃ w4 : Int32, w4 = (if bi y' = 0 then 0 else 1) := ⟨_, rfl⟩
  have q5 : g5 2 = g 2 := by rw [S5.1 2 (by omega), S4.1 2 (by omega), S3.1 2 (by omega), S2.1 2 (by omega), S1.1 2 (by omega)]
  have q53 : g5 3 = g 3 := by rw [S5.1 3 (by omega), S4.1 3 (by omega), S3.1 3 (by omega), S2.1 3 (by omega), S1.1 3 (by omega)]
  have q50 : g5 0 5 = g 0 5 := by rw [S5.2 5 (by omega), S4.2 5 (by omega), S3.2 5 (by omega), S2.2 5 (by omega), S1.2 5 (by omega)]
  have r6 : ∀ j, g6 2 j = if j = 14 + 4 * l + 2 then w3 else g 2 j := fun j => by
    rw [S6.1 2 (by omega), pu_sa, if_pos rfl, nI_clamp (by omega), pu_upd, q5]
  obtain ⟨g7, eg7⟩ : ∃ g7, g7 = sa g6 2 (nI (14 + 4 * l + 3)) w4 := ⟨_, rfl⟩
  have r7 : ∀ j, g7 2 j = if j = 14 + 4 * l + 3 then w4 else if j = 14 + 4 * l + 2 then w3 else g 2 j := fun j => by
    rw [eg7, pu_sa, if_pos rfl, nI_clamp (by omega), pu_upd, r6]
  obtain ⟨g8, eg8⟩ : ∃ g8, g8 = sa g7 2 (nI (14 + 4 * l)) w1 := ⟨_, rfl⟩
  have r8 : ∀ j, g8 2 j = if j = 14 + 4 * l then w1 else if j = 14 + 4 * l + 3 then w4 else if j = 14 + 4 * l + 2 then w3 else g 2 j := fun j => by
    rw [eg8, pu_sa, if_pos rfl, nI_clamp (by omega), pu_upd, r7]
  obtain ⟨g9, eg9⟩ : ∃ g9, g9 = sa g8 2 (nI (14 + 4 * l + 1)) w2 := ⟨_, rfl⟩
  have GP : FgP g g9 := by
    rw [eg9, eg8, eg7]
    exact S1.p.tr (S2.p.tr (S3.p.tr (S4.p.tr (S5.p.tr ((sa_p g5 2 (Or.inl rfl) _ _).1.tr (S6.p.tr ((sa_p g6 2 (Or.inl rfl) _ _).1.tr ((sa_p _ 2 (Or.inl rfl) _ _).1.tr (sa_p _ 2 (Or.inl rfl) _ _).1))))))))
  have PQ : PP hd5 ht6 g9 s := by
    rw [eg9, eg8, eg7]
    exact ((P6.sa (Or.inl rfl) _ _).sa (Or.inl rfl) _ _).sa (Or.inl rfl) _ _
  refine ⟨x1, x2, x3, y, w1, w2, w3, w4, hd5, ht6, g9, ?_, ?_, PQ, GP, fun z => f3 (d3 (c3 (b3 (a3 z)))), ?_, ?_, ?_, ?_⟩
  · rw [a1, bind_sn]
    dsimp only
    rw [b1, bind_sn]
    dsimp only
    rw [c1, bind_sn]
    dsimp only
    rw [d1, bind_sn]
    dsimp only
    rw [f1, bind_sn]
    dsimp only
    rw [p1, bind_sn]
  · rw [a2, bind_sn, b2, bind_sn]
    dsimp only
    rw [c2, bind_sn, d2, bind_sn]
    dsimp only
    rw [f2, bind_sn]
    dsimp only
    rw [p2, bind_sn]
    dsimp only
    rw [← ew4, ← eg7, ← eg8, ← eg9]
  · intro j
    rw [eg9, pu_sa, if_pos rfl, nI_clamp (by omega), pu_upd, r8]
  · rw [eg9, pu_sa, if_neg (by omega), eg8, pu_sa, if_neg (by omega), eg7, pu_sa, if_neg (by omega), S6.1 3 (by omega), pu_sa, if_neg (by omega), q53]
  · rw [eg9, pu_sa, if_neg (by omega), eg8, pu_sa, if_neg (by omega), eg7, pu_sa, if_neg (by omega), S6.2 5 (by omega), pu_sa, if_neg (by omega), q50]
  · intro h5
    have h4 : hd4 0 0 = 0 := Classical.byContradiction fun z => (f3 z) h5
    have h3 : hd3 0 0 = 0 := Classical.byContradiction fun z => (d3 z) h4
    have h2' : hd2 0 0 = 0 := Classical.byContradiction fun z => (c3 z) h3
    have h1' : hd1 0 0 = 0 := Classical.byContradiction fun z => (b3 z) h2'
    obtain ⟨u1, u2, -, u4⟩ := b4 h2'
    obtain ⟨s1, s2, -, s4⟩ := d4 h4
    obtain ⟨t1, t2, -, t4⟩ := f4 h5
    obtain ⟨k1, k2⟩ := p3 h5
    refine ⟨⟨u1, s1, t1, by rw [ew4, k1]⟩, u2, ?_⟩
    exact (((((a4 h1').tr u4).tr (c4 h3)).tr s4).tr t4).tr k2
/-- the class's reading of a level behind a fault -/
theorem level_b (h : hd 0 0 ≠ 0) (T : TSf ht s) (hN : 1000 ≤ N) : ∃ (r : Int32 × Int32 × Int32 × Int32) (ht' : HH), (Option.bind (F_Read_skipWord N 10 hd ht) fun v10 => (Option.bind (F_Read_takeNumber N 1 9 v10.1 v10.2) fun v12 => (Option.bind (F_Read_skipWord N 11 v12.2.1 v12.2.2) fun v14 => (Option.bind (F_Read_takeNumber N 1 9 v14.1 v14.2) fun v16 => (Option.bind (Option.bind (F_Read_takeOption N 12 v16.2.2) fun v18 => (if v18.1 = 0 then some ((0 : Int32), v16.2.1, v18.2) else (Option.bind (F_Read_takeNumber N 1 5 v16.2.1 v18.2) fun v21 => some (v21.1, v21.2.1, v21.2.2)))) fun v23 => (Option.bind (F_Read_takeOption N 13 v23.2.2) fun v24 => some (v12.1, v16.1, v23.1, v24.1, v23.2.1, v24.2))))))) = some (r.1, r.2.1, r.2.2.1, r.2.2.2, hd, ht') ∧ TSf ht' s := by
  obtain ⟨h1, a1, T1⟩ := skip_b (x := 10) (N := N) h T (by omega) hN
  obtain ⟨x1, h2, a2, T2⟩ := tk_b (N := N) h T1 1 9 hN
  obtain ⟨h3, a3, T3⟩ := skip_b (x := 11) (N := N) h T2 (by omega) hN
  obtain ⟨x2, h4, a4, T4⟩ := tk_b (N := N) h T3 1 9 hN
  obtain ⟨x3, h5, a5, T5⟩ := opn_b (x := 12) (N := N) h T4 (by omega) 0 hN
  obtain ⟨y, h6, a6, T6⟩ := op_b (x := 13) (N := N) T5 (by omega) hN
  refine ⟨(x1, x2, x3, bi y), h6, ?_, T6⟩
  rw [a1, bind_sn]
  dsimp only
  rw [a2, bind_sn]
  dsimp only
  rw [a3, bind_sn]
  dsimp only
  rw [a4, bind_sn]
  dsimp only
  rw [a5, bind_sn]
  dsimp only
  rw [a6, bind_sn]
theorem level_ok (P : PP hd ht g s) (h0 : hd 0 0 = 0) (Dr : DR hh hr hc g B R H D K n) (hN : 1000 ≤ N) (hN' : 1000 ≤ N') : ∃ hd' ht' hr' g1 g', F_Read_readLevel N hd ht hr = some (hd', ht', hr') ∧ F_Mo_advance N' g = some g1 ∧ F_Mo_readLevel N' g1 = some g' ∧ PP hd' ht' g' s ∧ FgP g g' ∧ (hd' 0 0 = 0 → DR hh hr' hc g' B R H D K n ∧ Mv ht ht' 0) := by
  obtain ⟨ht1, g1, d1, d2, -, P1, S1, d4, -⟩ := go_on (N := N) (N' := N') P hN hN'
  have s2 : g1 2 = g 2 := S1.1 2 (by omega)
  obtain ⟨v, v', hd2, g2, a1, a2, P2, S2, a3, a4⟩ := see_ok P1 (lo := 1) (hi := 4) (lo' := 1) (hi' := 4) (fun _ => ⟨rfl, rfl, by decide⟩)
  obtain ⟨ht3, g3, e1, e2, e3, P3, S3, e4, -⟩ := go_on (N := N) (N' := N') P2 hN hN'
  have eK : F_Read_readLevel N hd ht hr = (sv_let (if F_Rules_hasLevel v hr = 0 then hd2 else F_Read_fail 3 hd2 ht1) fun v7 => Option.bind (Option.bind (F_Read_skipWord N 10 v7 ht3) fun v10 => (Option.bind (F_Read_takeNumber N 1 9 v10.1 v10.2) fun v12 => (Option.bind (F_Read_skipWord N 11 v12.2.1 v12.2.2) fun v14 => (Option.bind (F_Read_takeNumber N 1 9 v14.1 v14.2) fun v16 => (Option.bind (Option.bind (F_Read_takeOption N 12 v16.2.2) fun v18 => (if v18.1 = 0 then some ((0 : Int32), v16.2.1, v18.2) else (Option.bind (F_Read_takeNumber N 1 5 v16.2.1 v18.2) fun v21 => some (v21.1, v21.2.1, v21.2.2)))) fun v23 => (Option.bind (F_Read_takeOption N 13 v23.2.2) fun v24 => some (v12.1, v16.1, v23.1, v24.1, v23.2.1, v24.2))))))) fun r => (if ¬ (r.2.2.2.2.1 0 0) = 0 then some (r.2.2.2.2.1, r.2.2.2.2.2, hr) else some (r.2.2.2.2.1, r.2.2.2.2.2, F_Rules_tellLevel v r.1 r.2.1 r.2.2.1 (if r.2.2.2.1 = 0 then 0 else 1) hr))) := by
    unfold F_Read_readLevel
    simp only [pu_letn, Option.bind_assoc, bind_sn]
    rw [d1, bind_sn, a1]
    dsimp only
    rw [e1, bind_sn]
  by_cases h2 : hd2 0 0 = 0
  · obtain ⟨ev, w, ehd, eg2, -⟩ := a4 h2
    subst ev
    subst eg2
    have g20 : g2 0 20 = 0 := by rw [← P2.1.1]; exact h2
    obtain ⟨l, l1, l2, rfl⟩ := within_n (v := v) (lo := 1) (hi := 4) (by omega) (by omega) w
    have f0 : nI (14 + 4 * l) + 0 = nI (14 + 4 * l) := Int32.add_zero _
    have f1 : nI (14 + 4 * l) + 1 = nI (14 + 4 * l + 1) := nI_1 _
    have f2 : nI (14 + 4 * l) + 2 = nI (14 + 4 * l + 2) := nI_add _ 2
    have f3 : nI (14 + 4 * l) + 3 = nI (14 + 4 * l + 3) := nI_add _ 3
    have j0 : sv_in (nI (14 + 4 * l)) 90 := pu_in (by omega) (by omega)
    have j1 : sv_in (nI (14 + 4 * l + 1)) 90 := pu_in (by omega) (by omega)
    have j2 : sv_in (nI (14 + 4 * l + 2)) 90 := pu_in (by omega) (by omega)
    have j3 : sv_in (nI (14 + 4 * l + 3)) 90 := pu_in (by omega) (by omega)
    have eM : F_Mo_readLevel N' g2 = (Option.bind (some (if g 2 (14 + 4 * l) = 0 then g2 else F_Mo_errs 3 (g2 0 17) g2)) fun v7 => if ¬ F_Mo_good v7 = 0 then (Option.bind (F_Mo_advance N' v7) fun v9 => (Option.bind (F_Mo_passes N' 10 v9) fun v11 => (Option.bind (F_Mo_number N' 1 9 v11) fun v13 => (Option.bind (F_Mo_passes N' 11 v13.2) fun v15 => (Option.bind (F_Mo_number N' 1 9 v15) fun v17 => (Option.bind (Option.bind (F_Mo_eats N' 12 v17.2) fun v19 => (if v19.1 = 0 then some ((0 : Int32), v19.2) else (Option.bind (F_Mo_number N' 1 5 v19.2) fun v22 => some (v22.1, v22.2)))) fun v24 => (Option.bind (F_Mo_eats N' 13 (sa v24.2 2 (nI (14 + 4 * l + 2)) v24.1)) fun v27 => some (sa (sa (sa v27.2 2 (nI (14 + 4 * l + 3)) (if v27.1 = 0 then 0 else 1)) 2 (nI (14 + 4 * l)) v13.1) 2 (nI (14 + 4 * l + 1)) v17.1)))))))) else some v7) := by
      unfold F_Mo_readLevel
      simp only [pu_letn]
      rw [a2]
      dsimp only
      rw [good_1 g20, if_neg pu_10]
      simp only [e14, f0, f1, f2, f3, if_pos j0, if_pos j1, if_pos j2, if_pos j3, Option.bind_assoc]
      rw [nI_clamp (by omega), s2]
      congr 1
      split <;> rfl
    rw [eK, hasL Dr.2.1 l1 l2]
    by_cases cw : g 2 (14 + 4 * l) = 0
    · rw [if_pos cw, if_pos rfl, pu_letn]
      rw [if_pos cw, bind_sn, good_1 g20, if_pos pu_10, e2 h2, bind_sn] at eM
      obtain ⟨x1, x2, x3, y, w1, w2, w3, w4, hd5, ht5, g5, b1, b2, P5, G5, b3, b4, b5, b6, b7⟩ := level_in (l := l) (N := N) (N' := N') P3 l1 l2 hN hN'
      rw [b2] at eM
      rw [b1, bind_sn]
      dsimp only
      have GP : FgP g g5 := S1.p.tr (S3.p.tr G5)
      by_cases h5 : hd5 0 0 = 0
      · rw [ifn h5]
        obtain ⟨⟨u1, u2, u3, u4⟩, u5, u6⟩ := b7 h5
        rw [u4]
        subst u1 u2 u3
        refine ⟨hd5, ht5, _, g2, g5, rfl, d2 h0, eM, P5, GP, fun _ => ⟨?_, ((d4 h0).tr (e4 h2)).tr u6⟩⟩
        obtain ⟨tl, etl⟩ : ∃ tl, tl = F_Rules_tellLevel (nI l) x1 x2 x3 w4 hr := ⟨_, rfl⟩
        rw [← etl]
        have s3 : g3 2 = g 2 := by rw [S3.1 2 (by omega), s2]
        have s33 : g3 3 = g 3 := by rw [S3.1 3 (by omega), S1.1 3 (by omega)]
        have s35 : g3 0 5 = g 0 5 := by rw [S3.2 5 (by omega), S1.2 5 (by omega)]
        have y1 : ∀ j, tl 1 j = if j = l then x1 else hr 1 j := fun j => by
          rw [etl]; unfold F_Rules_tellLevel; simp only [pu_letn]
          rw [pu_sw, if_neg (by omega), pu_sw, if_neg (by omega), pu_sw, if_neg (by omega), pu_sw, if_pos rfl, pu_wr _ _ (by omega) (by omega), pu_upd]
        have y2 : ∀ j, tl 2 j = if j = l then x2 else hr 2 j := fun j => by
          rw [etl]; unfold F_Rules_tellLevel; simp only [pu_letn]
          rw [pu_sw, if_neg (by omega), pu_sw, if_neg (by omega), pu_sw, if_pos rfl, pu_sw, if_neg (by omega), pu_wr _ _ (by omega) (by omega), pu_upd]
        have y3 : ∀ j, tl 3 j = if j = l then x3 else hr 3 j := fun j => by
          rw [etl]; unfold F_Rules_tellLevel; simp only [pu_letn]
          rw [pu_sw, if_neg (by omega), pu_sw, if_pos rfl, pu_sw, if_neg (by omega), pu_sw, if_neg (by omega), pu_wr _ _ (by omega) (by omega), pu_upd]
        have y4 : ∀ j, tl 4 j = if j = l then w4 else hr 4 j := fun j => by
          rw [etl]; unfold F_Rules_tellLevel; simp only [pu_letn]
          rw [pu_sw, if_pos rfl, pu_sw, if_neg (by omega), pu_sw, if_neg (by omega), pu_sw, if_neg (by omega), pu_wr _ _ (by omega) (by omega), pu_upd]
        have yr : ∀ r, r = 0 ∨ 5 ≤ r → tl r = hr r := fun r h => by
          rw [etl]; unfold F_Rules_tellLevel; simp only [pu_letn]
          rw [pu_sw, if_neg (by omega), pu_sw, if_neg (by omega), pu_sw, if_neg (by omega), pu_sw, if_neg (by omega)]
        have ro : ∀ j, ¬ (14 + 4 * l ≤ j ∧ j < 14 + 4 * l + 4) → g5 2 j = g 2 j := fun j h => by
          rw [b4, if_neg (by omega), if_neg (by omega), if_neg (by omega), if_neg (by omega), s3]
        obtain ⟨dh, ⟨⟨q1, q2, q3⟩, q4, q5, q6⟩, dc⟩ := Dr
        obtain ⟨xn, xn1, xn2, exn⟩ := within_n (v := x1) (lo := 1) (hi := 9) (by omega) (by omega) u5
        refine ⟨HuR_o dh (fun j hj => ro j (by omega)) (by rw [b6, s35]), ⟨⟨?_, (ro 6 (by omega)).trans q2, q3⟩, ?_, ?_, ?_⟩, CaR_o dc (ro 7 (by omega)) (by rw [b5, s33])⟩
        · rw [yr 0 (by omega)]; exact q1
        · intro l' l1' l2'
          show tl 1 l' = g5 2 (14 + 4 * l') ∧ 0 ≤ g5 2 (14 + 4 * l') ∧ (g5 2 (14 + 4 * l') ≠ 0 → tl 2 l' = g5 2 (14 + 4 * l' + 1) ∧ tl 3 l' = g5 2 (14 + 4 * l' + 2) ∧ tl 4 l' = g5 2 (14 + 4 * l' + 3))
          by_cases cl : l' = l
          · subst cl
            rw [y1, y2, y3, y4, if_pos rfl, if_pos rfl, if_pos rfl, if_pos rfl, b4, b4, b4, b4, if_neg (show ¬ 14 + 4 * l' = 14 + 4 * l' + 1 by omega), if_pos rfl, if_pos rfl, if_neg (show ¬ 14 + 4 * l' + 2 = 14 + 4 * l' + 1 by omega), if_neg (show ¬ 14 + 4 * l' + 2 = 14 + 4 * l' by omega), if_neg (show ¬ 14 + 4 * l' + 2 = 14 + 4 * l' + 3 by omega), if_pos rfl, if_neg (show ¬ 14 + 4 * l' + 3 = 14 + 4 * l' + 1 by omega), if_neg (show ¬ 14 + 4 * l' + 3 = 14 + 4 * l' by omega), if_pos rfl]
            exact ⟨rfl, by rw [exn]; exact nI_pos' (by omega), fun _ => ⟨rfl, rfl, rfl⟩⟩
          · rw [y1, y2, y3, y4, if_neg cl, if_neg cl, if_neg cl, if_neg cl, ro _ (by omega), ro _ (by omega), ro _ (by omega), ro _ (by omega)]
            exact q4 l' l1' l2'
        · intro c hc'
          rw [yr 5 (by omega), show gv g5 1 (34 + c) = gv g 1 (34 + c) from ro (34 + c) (by omega)]
          exact q5 c hc'
        · intro c d hc' hd'
          rw [yr 6 (by omega), show gv g5 1 (41 + 7 * c + d) = gv g 1 (41 + 7 * c + d) from ro (41 + 7 * c + d) (by omega), show gv g5 1 (41 + 7 * d + c) = gv g 1 (41 + 7 * d + c) from ro (41 + 7 * d + c) (by omega)]
          obtain ⟨p1, p2, p3⟩ := q6 c d hc' hd'
          refine ⟨p1, p2, ?_⟩
          rcases p3 with p3 | ⟨m, ⟨m1, m2, m3⟩, m4⟩
          · exact Or.inl p3
          · refine Or.inr ⟨m, ⟨m1, m2, ?_⟩, m4⟩
            have cm : m ≠ l := by
              intro z
              subst z
              exact m3 cw
            rw [show gv g5 1 (14 + 4 * m) = gv g 1 (14 + 4 * m) from ro (14 + 4 * m) (by omega)]
            exact m3
      · rw [if_pos h5]
        exact ⟨hd5, ht5, hr, g2, g5, rfl, d2 h0, eM, P5, GP, fun z => absurd z h5⟩
    · obtain ⟨pe, se, ze⟩ := err_ok P2 (c := 3) (by decide)
      rw [if_neg cw, if_neg pu_10, pu_letn]
      rw [if_neg cw, bind_sn, good_0 (by rw [← pe.1.1]; exact ze), ife0] at eM
      obtain ⟨r, ht5, k1, k2⟩ := level_b (N := N) ze P3.2.1 hN
      rw [k1, bind_sn]
      dsimp only
      rw [if_pos ze]
      exact ⟨_, ht5, hr, g2, _, rfl, d2 h0, eM, ⟨pe.1, k2, Or.inl ze⟩, S1.p.tr se.p, fun z => absurd z ze⟩
  · have gb : g2 0 20 ≠ 0 := by rw [← P2.1.1]; exact h2
    have eM : F_Mo_readLevel N' g1 = some g2 := by
      unfold F_Mo_readLevel
      simp only [pu_letn]
      rw [a2]
      dsimp only
      rw [good_0 gb, if_pos rfl, bind_sn, good_0 gb, ife0]
    obtain ⟨r, ht5, k1, k2⟩ := level_b (N := N) h2 P3.2.1 hN
    rw [eK, fail_b _ h2, ite_self, pu_letn, k1, bind_sn]
    dsimp only
    rw [if_pos h2]
    exact ⟨hd2, ht5, hr, g1, g2, rfl, d2 h0, eM, ⟨P2.1, k2, Or.inl h2⟩, S1.p.tr S2.p, fun z => absurd z h2⟩
end LVL
