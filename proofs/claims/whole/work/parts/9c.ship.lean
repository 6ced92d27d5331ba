/-! ===== pure: the ship's own line ===== -/
section SHL
variable {g g' g2 : HH} {hd hd' ht ht' hh hr hc : HH} {B R H D K n N N' s x l : Nat}
theorem fail_ne {c : Int32} (hc : c ≠ 0) : F_Read_fail c hd ht 0 0 ≠ 0 := by
  by_cases h : hd 0 0 = 0
  · rw [(fail_g (ht := ht) (c := c) h).1]; exact hc
  · rw [fail_b _ h]; exact h
theorem w_03 {v : Int32} (h : ¬ v = 0) : F_K_within v 0 3 = F_K_within v 1 3 := by
  rw [pu_w, pu_w]
  have e : (0 ≤ v ∧ v ≤ 3) ↔ (1 ≤ v ∧ v ≤ 3) := by
    rw [Int32.le_iff_toInt_le, Int32.le_iff_toInt_le, Int32.le_iff_toInt_le]
    have a0 : (0 : Int32).toInt = 0 := by decide
    have a1 : (1 : Int32).toInt = 1 := by decide
    have a2 : v.toInt ≠ 0 := fun z => h (Int32.toInt_inj.mp (by rw [z, a0]))
    rw [a0, a1]
    constructor
    · rintro ⟨p, q⟩; exact ⟨by omega, q⟩
    · rintro ⟨p, q⟩; exact ⟨by omega, q⟩
  by_cases c : 0 ≤ v ∧ v ≤ 3
  · rw [if_pos c, if_pos (e.mp c)]
  · rw [if_neg c, if_neg (mt e.mpr c)]
theorem see13 (hd ht : HH) : (if ¬ (F_Read_seeNumber 0 3 hd ht).1 = 0 then (F_Read_seeNumber 0 3 hd ht).2 else F_Read_fail 2 (F_Read_seeNumber 0 3 hd ht).2 ht) = (F_Read_seeNumber 1 3 hd ht).2 ∧ (F_Read_seeNumber 0 3 hd ht).1 = (F_Read_seeNumber 1 3 hd ht).1 := by
  unfold F_Read_seeNumber
  simp only [pu_letn]
  by_cases c : ht 0 2 = 2
  · rw [if_pos c, if_pos c]
    by_cases z : ht 0 4 = 0
    · rw [z, show F_K_within 0 0 3 = 1 by decide, show F_K_within 0 1 3 = 0 by decide, if_pos pu_10, ife0]
      exact ⟨rfl, rfl⟩
    · rw [w_03 z]
      rcases w_01 (ht 0 4) 1 3 with w | w
      · rw [w, ife0]
        exact ⟨if_pos z, rfl⟩
      · rw [w, if_pos pu_10]
        exact ⟨if_pos z, rfl⟩
  · rw [if_neg c, if_neg c]
    refine ⟨?_, rfl⟩
    show (if ¬ ht 0 4 = 0 then F_Read_fail 1 hd ht else F_Read_fail 2 (F_Read_fail 1 hd ht) ht) = F_Read_fail 1 hd ht
    rw [fail_b _ (fail_ne (hd := hd) (ht := ht) (c := 1) (by decide)), ite_self]
theorem here_b (h : g 0 20 ≠ 0) (lo hi : Int32) : F_Mo_numberHere lo hi g = (g 0 19, g) := by
  unfold F_Mo_numberHere
  rw [good_0 h, if_pos rfl, pu_letn, good_0 h, if_pos rfl]
/-- how many tiers on deck: not none, where the hold has none -/
theorem deck_ok (P : PP hd ht g s) {vH wH : Int32} (hv : hd 0 0 = 0 → vH = wH ∧ ∃ h, h ≤ 3 ∧ vH = nI h) : ∃ vD wD hd' g', (F_Read_seeNumber 0 3 hd ht).1 = vD ∧ (if ¬ (vH + (F_Read_seeNumber 0 3 hd ht).1) = 0 then (F_Read_seeNumber 0 3 hd ht).2 else F_Read_fail 2 (F_Read_seeNumber 0 3 hd ht).2 ht) = hd' ∧ F_Mo_numberHere (if ¬ wH = 0 then 0 else 1) 3 g = (wD, g') ∧ PP hd' ht g' s ∧ FgS g g' ∧ (hd 0 0 ≠ 0 → hd' 0 0 ≠ 0) ∧ (hd' 0 0 = 0 → vD = wD ∧ ∃ h d, h ≤ 3 ∧ d ≤ 3 ∧ 1 ≤ h + d ∧ vH = nI h ∧ vD = nI d) := by
  by_cases h0 : hd 0 0 = 0
  · obtain ⟨e, h, h3, rfl⟩ := hv h0
    subst e
    by_cases c : h = 0
    · subst c
      obtain ⟨z1, z2⟩ := see13 hd ht
      have e0 : nI 0 + (F_Read_seeNumber 0 3 hd ht).1 = (F_Read_seeNumber 0 3 hd ht).1 := Int32.zero_add _
      rw [e0, z1, z2, ifn (show nI 0 = 0 from rfl)]
      obtain ⟨v, v', hd2, g2, a1, a2, P2, S2, a3, a4⟩ := see_ok P (lo := 1) (hi := 3) (lo' := 1) (hi' := 3) (fun _ => ⟨rfl, rfl, by decide⟩)
      rw [a1, a2]
      refine ⟨v, v', hd2, g2, rfl, rfl, rfl, P2, S2, a3, fun z => ?_⟩
      obtain ⟨b1, b2, -⟩ := a4 z
      obtain ⟨d, d1, d2, d3⟩ := within_n (v := v) (lo := 1) (hi := 3) (by omega) (by omega) b2
      exact ⟨b1, 0, d, by omega, d2, by omega, rfl, d3⟩
    · obtain ⟨v, v', hd2, g2, a1, a2, P2, S2, a3, a4⟩ := see_ok P (lo := 0) (hi := 3) (lo' := 0) (hi' := 3) (fun _ => ⟨rfl, rfl, by decide⟩)
      rw [if_pos (show ¬ nI h = 0 from nI_ne0 (by omega) (by omega)), a1, a2]
      dsimp only
      by_cases h2 : hd2 0 0 = 0
      · obtain ⟨b1, b2, -⟩ := a4 h2
        obtain ⟨d, d1, d2, d3⟩ := within_n (v := v) (lo := 0) (hi := 3) (by omega) (by omega) b2
        have e : ¬ nI h + v = 0 := by rw [d3, nI_add]; exact nI_ne0 (by omega) (by omega)
        rw [if_pos e]
        exact ⟨v, v', hd2, g2, rfl, rfl, rfl, P2, S2, a3, fun _ => ⟨b1, h, d, h3, d2, by omega, rfl, d3⟩⟩
      · rw [fail_b _ h2, ite_self]
        exact ⟨v, v', hd2, g2, rfl, rfl, rfl, P2, S2, a3, fun z => absurd z h2⟩
  · have gb : g 0 20 ≠ 0 := by rw [← P.1.1]; exact h0
    rw [see_b h0, here_b gb]
    dsimp only
    rw [fail_b _ h0, ite_self]
    exact ⟨_, _, hd, g, rfl, rfl, rfl, P, FgS.refl g, fun z => z, fun z => absurd z h0⟩
theorem shipL_ok (P : PP hd ht g s) (q5 : hh 0 5 = g 2 4 ∧ hh 0 6 = g 2 5 ∧ hh 0 7 = g 0 5) (qw : ∀ b, b < 6 → hh 5 b = 0 ∧ hh 4 b = 0 ∧ g 2 (8 + b) = 0) (hN : 1000 ≤ N) (hN' : 1000 ≤ N') : ∃ hd' ht' hh' g', F_Read_readShip N hd ht hh = some (hd', ht', hh') ∧ F_Mo_readShip N' g = some g' ∧ PP hd' ht' g' s ∧ FgP g g' ∧ (hd' 0 0 = 0 → (∃ B R H D, HuR hh' g' B R H D) ∧ (∀ j, 4 ≤ j → g' 2 j = g 2 j) ∧ g' 3 = g 3 ∧ g' 0 5 = g 0 5 ∧ Mv ht ht' 0) := by
  obtain ⟨hd1, ht1, g1, a1, a2, P1, S1, a3, a4⟩ := skip_ok (x := 0) (N := N) (N' := N') P (by omega) hN hN'
  obtain ⟨hd2, ht2, g2, b1, b2, P2, S2, b3, b4⟩ := skip_ok (x := 1) (N := N) (N' := N') P1 (by omega) hN hN'
  obtain ⟨vB, wB, hd3, ht3, g3, c1, c2, P3, S3, c3, c4⟩ := tk_ok (N := N) (N' := N') P2 (lo := 1) (hi := 6) (lo' := 1) (hi' := 6) (fun _ => ⟨rfl, rfl, by decide⟩) hN hN'
  obtain ⟨hd4, ht4, g4, d1, d2, P4, S4, d3, d4⟩ := skip_ok (x := 2) (N := N) (N' := N') (P3.sa (Or.inl rfl) 0 wB) (by omega) hN hN'
  obtain ⟨vR, wR, hd5, ht5, g5, e1, e2, P5, S5, e3, e4⟩ := tk_ok (N := N) (N' := N') P4 (lo := 1) (hi := 4) (lo' := 1) (hi' := 4) (fun _ => ⟨rfl, rfl, by decide⟩) hN hN'
  obtain ⟨hd6, ht6, g6, f1, f2, P6, S6, f3, f4⟩ := skip_ok (x := 3) (N := N) (N' := N') (P5.sa (Or.inl rfl) 1 wR) (by omega) hN hN'
  obtain ⟨vH, wH, hd7, ht7, g7, k1, k2, P7, S7, k3, k4⟩ := tk_ok (N := N) (N' := N') P6 (lo := 0) (hi := 3) (lo' := 0) (hi' := 3) (fun _ => ⟨rfl, rfl, by decide⟩) hN hN'
  obtain ⟨hd8, ht8, g8, l1, l2, P8, S8, l3, l4⟩ := skip_ok (x := 4) (N := N) (N' := N') (P7.sa (Or.inl rfl) 2 wH) (by omega) hN hN'
  have vHn : hd7 0 0 = 0 → vH = wH ∧ ∃ h, h ≤ 3 ∧ vH = nI h := fun z => by
    obtain ⟨u1, u2, -, -⟩ := k4 z
    obtain ⟨h, -, hh3, e⟩ := within_n (v := vH) (lo := 0) (hi := 3) (by omega) (by omega) u2
    exact ⟨u1, h, hh3, e⟩
  obtain ⟨vD, wD, hd9, g9, m1, m2, m3, P9, S9, m4, m5⟩ := deck_ok (vH := vH) (wH := wH) P8 (fun z => vHn (Classical.byContradiction fun y => (l3 y) z))
  obtain ⟨ht10, g10, n1, n2, n3, P10, S10, n4, -⟩ := go_on (N := N) (N' := N') P9 hN hN'
  have c0 : ((0 : Int32)).toNatClampNeg = 0 := rfl
  have c1' : ((1 : Int32)).toNatClampNeg = 1 := rfl
  have c2' : ((2 : Int32)).toNatClampNeg = 2 := rfl
  have c3' : ((3 : Int32)).toNatClampNeg = 3 := rfl
  have i0 : sv_in (0 : Int32) 90 := by decide
  have i1 : sv_in (1 : Int32) 90 := by decide
  have i2 : sv_in (2 : Int32) 90 := by decide
  have i3 : sv_in (3 : Int32) 90 := by decide
  -- the reference's row 2
  have r4 : ∀ j, g4 2 j = if j = 0 then wB else g 2 j := fun j => by
    rw [S4.1 2 (by omega), pu_sa, if_pos rfl, c0, pu_upd, S3.1 2 (by omega), S2.1 2 (by omega), S1.1 2 (by omega)]
  have r6 : ∀ j, g6 2 j = if j = 1 then wR else if j = 0 then wB else g 2 j := fun j => by
    rw [S6.1 2 (by omega), pu_sa, if_pos rfl, c1', pu_upd, S5.1 2 (by omega), r4]
  have r8 : ∀ j, g8 2 j = if j = 2 then wH else if j = 1 then wR else if j = 0 then wB else g 2 j := fun j => by
    rw [S8.1 2 (by omega), pu_sa, if_pos rfl, c2', pu_upd, S7.1 2 (by omega), r6]
  obtain ⟨g11, eg11⟩ : ∃ g11, g11 = sa g10 2 3 wD := ⟨_, rfl⟩
  have r11 : ∀ j, g11 2 j = if j = 3 then wD else if j = 2 then wH else if j = 1 then wR else if j = 0 then wB else g 2 j := fun j => by
    rw [eg11, pu_sa, if_pos rfl, c3', pu_upd, S10.1 2 (by omega), S9.1 2 (by omega), r8]
  have t11 : g11 3 = g 3 := by
    rw [eg11, pu_sa, if_neg (by omega), S10.1 3 (by omega), S9.1 3 (by omega), S8.1 3 (by omega), pu_sa, if_neg (by omega), S7.1 3 (by omega), S6.1 3 (by omega), pu_sa, if_neg (by omega), S5.1 3 (by omega), S4.1 3 (by omega), pu_sa, if_neg (by omega), S3.1 3 (by omega), S2.1 3 (by omega), S1.1 3 (by omega)]
  have u11 : g11 0 5 = g 0 5 := by
    rw [eg11, pu_sa, if_neg (by omega), S10.2 5 (by omega), S9.2 5 (by omega), S8.2 5 (by omega), pu_sa, if_neg (by omega), S7.2 5 (by omega), S6.2 5 (by omega), pu_sa, if_neg (by omega), S5.2 5 (by omega), S4.2 5 (by omega), pu_sa, if_neg (by omega), S3.2 5 (by omega), S2.2 5 (by omega), S1.2 5 (by omega)]
  have GP : FgP g g11 := by
    rw [eg11]
    exact S1.p.tr (S2.p.tr (S3.p.tr ((sa_p g3 2 (Or.inl rfl) _ _).1.tr (S4.p.tr (S5.p.tr ((sa_p g5 2 (Or.inl rfl) _ _).1.tr (S6.p.tr (S7.p.tr ((sa_p g7 2 (Or.inl rfl) _ _).1.tr (S8.p.tr (S9.p.tr (S10.p.tr (sa_p g10 2 (Or.inl rfl) _ _).1))))))))))))
  have PQ : PP hd9 ht10 g11 s := by
    rw [eg11]
    exact P10.sa (Or.inl rfl) _ _
  have eN : F_Mo_number N' (if ¬ wH = 0 then 0 else 1) 3 g8 = some (wD, g10) := by
    unfold F_Mo_number
    rw [m3, pu_letn]
    dsimp only
    by_cases h9 : hd9 0 0 = 0
    · rw [good_1 (by rw [← P9.1.1]; exact h9), if_neg pu_10, n2 h9, bind_sn]
    · rw [good_0 (by rw [← P9.1.1]; exact h9), if_pos rfl, n3 h9]
  have eM : F_Mo_readShip N' g = some g11 := by
    unfold F_Mo_readShip
    simp only [if_pos i0, if_pos i1, if_pos i2, if_pos i3, pu_letn, c2']
    rw [a2, bind_sn, b2, bind_sn, c2, bind_sn]
    dsimp only
    rw [d2, bind_sn, e2, bind_sn]
    dsimp only
    rw [f2, bind_sn, k2, bind_sn]
    dsimp only
    rw [l2, bind_sn, show g8 2 2 = wH by rw [r8, if_pos rfl], eN, bind_sn]
    dsimp only
    rw [← eg11]
  have eK : F_Read_readShip N hd ht hh = (if ¬ (hd9 0 0) = 0 then some (hd9, ht10, hh) else (Option.bind (F_Hull_build N vB vR vH vD hh) fun v25 => some (hd9, ht10, v25))) := by
    unfold F_Read_readShip
    simp only [pu_letn]
    rw [a1, bind_sn]
    dsimp only
    rw [b1, bind_sn]
    dsimp only
    rw [c1, bind_sn]
    dsimp only
    rw [d1, bind_sn]
    dsimp only
    rw [e1, bind_sn]
    dsimp only
    rw [f1, bind_sn]
    dsimp only
    rw [k1, bind_sn]
    dsimp only
    rw [l1, bind_sn]
    dsimp only
    rw [m2, m1, n1, bind_sn]
  rw [eK]
  by_cases h9 : hd9 0 0 = 0
  · rw [ifn h9]
    obtain ⟨o1, h, d, o2, o3, o4, o5, o6⟩ := m5 h9
    have h8 : hd8 0 0 = 0 := Classical.byContradiction fun z => (m4 z) h9
    have h7 : hd7 0 0 = 0 := Classical.byContradiction fun z => (l3 z) h8
    have h6 : hd6 0 0 = 0 := Classical.byContradiction fun z => (k3 z) h7
    have h5 : hd5 0 0 = 0 := Classical.byContradiction fun z => (f3 z) h6
    have h4 : hd4 0 0 = 0 := Classical.byContradiction fun z => (e3 z) h5
    have h3 : hd3 0 0 = 0 := Classical.byContradiction fun z => (d3 z) h4
    have h2 : hd2 0 0 = 0 := Classical.byContradiction fun z => (c3 z) h3
    have h1 : hd1 0 0 = 0 := Classical.byContradiction fun z => (b3 z) h2
    obtain ⟨p1, p2, -, p4⟩ := c4 h3
    obtain ⟨q1, q2, -, q4⟩ := e4 h5
    obtain ⟨t1, t2, -, t4⟩ := k4 h7
    obtain ⟨bb, bb1, bb2, bb3⟩ := within_n (v := vB) (lo := 1) (hi := 6) (by omega) (by omega) p2
    obtain ⟨rr, rr1, rr2, rr3⟩ := within_n (v := vR) (lo := 1) (hi := 4) (by omega) (by omega) q2
    obtain ⟨h', y1, ⟨y2, y3, y4, y5, y6⟩, y7, y8, y9⟩ := build_ok (N := N) (B := bb) (R := rr) (H := h) (D := d) hh bb1 bb2 rr1 rr2 o2 o3 o4 (by omega)
    rw [bb3, rr3, o5, o6, y1, bind_sn]
    refine ⟨hd9, ht10, h', g11, rfl, eM, PQ, GP, fun _ => ⟨⟨bb, rr, h, d, ⟨⟨?_, ?_, ?_, ?_⟩, bb1, bb2, rr1, rr2, o2, o3, o4⟩, ⟨y2, y3, y4, y5, y6⟩, ⟨?_, ?_, ?_⟩, y9, ?_⟩, fun j hj => ?_, t11, u11, ?_⟩⟩
    · show g11 2 0 = _
      rw [r11, if_neg (by omega), if_neg (by omega), if_neg (by omega), if_pos rfl, ← p1, bb3]
    · show g11 2 1 = _
      rw [r11, if_neg (by omega), if_neg (by omega), if_pos rfl, ← q1, rr3]
    · show g11 2 2 = _
      rw [r11, if_neg (by omega), if_pos rfl, ← t1, o5]
    · show g11 2 3 = _
      rw [r11, if_pos rfl, ← o1, o6]
    · rw [y7 5 (by omega), r11, if_neg (by omega), if_neg (by omega), if_neg (by omega), if_neg (by omega)]; exact q5.1
    · rw [y7 6 (by omega), r11, if_neg (by omega), if_neg (by omega), if_neg (by omega), if_neg (by omega)]; exact q5.2.1
    · rw [y7 7 (by omega), u11]; exact q5.2.2
    · intro b hb
      rw [r11, if_neg (by omega), if_neg (by omega), if_neg (by omega), if_neg (by omega), y8 5 (by omega), y8 4 (by omega)]
      obtain ⟨w1, w2, w3⟩ := qw b hb
      refine ⟨by rw [w1, w3], ?_, Or.inl w3, fun _ => w3⟩
      have sz : ∀ m, m ≤ 6 → shutF (hh 5) m = 0 := by
        intro m
        induction m with
        | zero => intro _; rfl
        | succ m ih =>
          intro hm
          show shutF (hh 5) m + (if hh 5 m = 1 ∨ hh 5 m = 3 then 1 else 0) = 0
          rw [ih (by omega), (qw m (by omega)).1]
          rfl
      rw [w2, sz b (by omega)]
      rfl
    · rw [r11, if_neg (by omega), if_neg (by omega), if_neg (by omega), if_neg (by omega)]
    · exact (((((((((a4 h1).tr (b4 h2)).tr p4).tr (d4 h4)).tr q4).tr (f4 h6)).tr t4).tr (l4 h8)).tr (n4 h9))
  · rw [if_pos h9]
    exact ⟨hd9, ht10, hh, g11, rfl, eM, PQ, GP, fun z => absurd z h9⟩
/-- an empty text -/
theorem ship_e (P : PP hd ht g s) (h0 : hd 0 0 = 0) (hk : ht 0 2 = 0) (hN : 1000 ≤ N) : ∃ ht', F_Read_readShip N hd ht hh = some (F_Read_fail 1 hd ht, ht', hh) ∧ TSf ht' s := by
  obtain ⟨ha, v1, T1, -, -⟩ := adv_tot (N := N) P.2.1 hN
  have e1 : F_Read_skipWord N 0 hd ht = some (F_Read_fail 1 hd ht, ha) := by
    have e : F_Tape_isWord N 0 ht = some 0 := by
      obtain ⟨⟨y, e⟩, -⟩ := isW_tot (x := 0) (N := N) (by omega) (by omega) ht
      have e' := e
      unfold F_Tape_isWord at e'
      rw [hk, if_pos (show ¬ (0 : Int32) = 1 by decide)] at e'
      rw [e, ← e']
    unfold F_Read_skipWord
    rw [e, bind_sn, ife0, pu_letn, pu_letn, v1, bind_sn]
  have h : F_Read_fail 1 hd ht 0 0 ≠ 0 := fail_ne (by decide)
  obtain ⟨h2, a2, T2⟩ := skip_b (x := 1) (N := N) h T1 (by omega) hN
  obtain ⟨x3, h3, a3, T3⟩ := tk_b (N := N) h T2 1 6 hN
  obtain ⟨h4, a4, T4⟩ := skip_b (x := 2) (N := N) h T3 (by omega) hN
  obtain ⟨x5, h5, a5, T5⟩ := tk_b (N := N) h T4 1 4 hN
  obtain ⟨h6, a6, T6⟩ := skip_b (x := 3) (N := N) h T5 (by omega) hN
  obtain ⟨x7, h7, a7, T7⟩ := tk_b (N := N) h T6 0 3 hN
  obtain ⟨h8, a8, T8⟩ := skip_b (x := 4) (N := N) h T7 (by omega) hN
  obtain ⟨h9, a9, T9, -, -⟩ := adv_tot (N := N) T8 hN
  refine ⟨h9, ?_, T9⟩
  unfold F_Read_readShip
  simp only [pu_letn]
  rw [e1, bind_sn]
  dsimp only
  rw [a2, bind_sn]
  dsimp only
  rw [a3, bind_sn]
  dsimp only
  rw [a4, bind_sn]
  dsimp only
  rw [a5, bind_sn]
  dsimp only
  rw [a6, bind_sn]
  dsimp only
  rw [a7, bind_sn]
  dsimp only
  rw [a8, bind_sn]
  dsimp only
  rw [see_b h, a9, bind_sn]
  dsimp only
  rw [fail_b _ h, ite_self, if_pos h]
end SHL
