/-! ===== pure: a line on a wall ===== -/
section WLL
variable {g g' g2 : HH} {hd hd' ht ht' hh hr hc : HH} {B R H D K n N N' s x : Nat}
theorem sub2_1 : ∀ B, B < 7 → 1 ≤ B → nI B - 2 = nI (B - 1) - 1 := by decide
theorem sub2_9 : ∀ B, B < 7 → nI B - 2 ≤ (999 : Int32) := by decide
theorem wall_ok (P : PP hd ht g s) (h0 : hd 0 0 = 0) (Dr : DR hh hr hc g B R H D K n) (hN : 1000 ≤ N) (hN' : 1000 ≤ N') : ∃ hd' ht' hh' g1 g', F_Read_readWall N hd ht hh = some (hd', ht', hh') ∧ F_Mo_advance N' g = some g1 ∧ F_Mo_readWall N' g1 = some g' ∧ PP hd' ht' g' s ∧ FgP g g' ∧ (hd' 0 0 = 0 → DR hh' hr hc g' B R H D K n ∧ Mv ht ht' 0) := by
  have hB0 : hh 0 0 = nI B := Dr.1.2.1.1
  have gB0 : g 2 0 = nI B := Dr.1.1.1.1
  have hB1 : 1 ≤ B := Dr.1.1.2.1
  have hB6 : B ≤ 6 := Dr.1.1.2.2.1
  have i0 : sv_in (0 : Int32) 90 := by decide
  have c0 : ((0 : Int32)).toNatClampNeg = 0 := rfl
  obtain ⟨ht1, g1, d1, d2, -, P1, S1, d4, -⟩ := go_on (N := N) (N' := N') P hN hN'
  have s2 : g1 2 = g 2 := S1.1 2 (by omega)
  obtain ⟨v, v', hd2, g2, a1, a2, P2, S2, a3, a4⟩ := see_ok P1 (lo := 0) (hi := hh 0 0 - 2) (lo' := 0) (hi' := g1 2 0 - 2) (fun _ => ⟨rfl, by rw [s2, hB0, gB0], by rw [hB0]; exact sub2_9 B (by omega)⟩)
  obtain ⟨ht3, g3, e1, e2, e3, P3, S3, e4, -⟩ := go_on (N := N) (N' := N') P2 hN hN'
  obtain ⟨y, y', ht4, g4, p1, p2, P4, S4, p3⟩ := op_ok (x := 7) (N := N) (N' := N') P3 (by omega) hN hN'
  have eK : F_Read_readWall N hd ht hh = (sv_let (if F_Hull_wallAt v hh = 0 then hd2 else F_Read_fail 3 hd2 ht1) fun v7 => if ¬ (v7 0 0) = 0 then some (v7, ht4, hh) else (Option.bind (F_Hull_setWall N v (if bi y = 0 then 1 else 2) hh) fun v15 => some (v7, ht4, v15))) := by
    unfold F_Read_readWall
    simp only [pu_letn]
    rw [d1, bind_sn, a1]
    dsimp only
    rw [e1, bind_sn, p1, bind_sn]
  by_cases h2 : hd2 0 0 = 0
  · obtain ⟨ev, w, ehd, eg2, -⟩ := a4 h2
    subst ev
    subst eg2
    have g20 : g2 0 20 = 0 := by rw [← P2.1.1]; exact h2
    rw [hB0, sub2_1 B (by omega) hB1] at w
    obtain ⟨b, hb, rfl⟩ : ∃ b, b < B - 1 ∧ v = nI b := by
      rcases pu_wn v (n := B - 1) (by omega) with ⟨j, j1, j2, -⟩ | ⟨-, z⟩
      · exact ⟨j, j1, j2⟩
      · rw [z] at w; exact absurd w (by decide)
    obtain ⟨q1, q2, q3, q4⟩ := Dr.1.2.2.2.2 b (by omega)
    have wa : F_Hull_wallAt (nI b) hh = g 2 (8 + b) := by
      unfold F_Hull_wallAt
      rw [hB0, sub2_1 B (by omega) hB1, w, if_neg pu_10, pu_rd _ (by omega) (by omega), q1]
    have i8 : sv_in (nI (8 + b)) 90 := pu_in (by omega) (by omega)
    have eM : F_Mo_readWall N' g2 = (Option.bind (some (if g 2 (8 + b) = 0 then g2 else F_Mo_errs 3 (g2 0 17) g2)) fun v8 => if ¬ F_Mo_good v8 = 0 then (Option.bind (F_Mo_advance N' v8) fun v10 => (Option.bind (F_Mo_eats N' 7 v10) fun v12 => some (sa v12.2 2 (nI (8 + b)) (if v12.1 = 0 then 1 else 2)))) else some v8) := by
      unfold F_Mo_readWall
      simp only [if_pos i0, c0, pu_letn]
      rw [a2]
      dsimp only
      rw [good_1 g20, if_neg pu_10]
      simp only [pu_8, if_pos i8]
      rw [nI_clamp (by omega), s2]
      congr 1
      split <;> rfl
    by_cases cw : g 2 (8 + b) = 0
    · rw [eK, wa, if_pos cw, pu_letn, ifn h2]
      rw [if_pos cw, bind_sn, good_1 g20, if_pos pu_10, e2 h2, bind_sn, p2, bind_sn] at eM
      dsimp only at eM
      obtain ⟨p4, p5⟩ := p3 h2
      subst p4
      obtain ⟨vv, hvv⟩ : ∃ vv : Int32, vv = (if bi y = 0 then 1 else 2) := ⟨_, rfl⟩
      have vv12 : vv = 1 ∨ vv = 2 := by rw [hvv]; cases y; exact Or.inl rfl; exact Or.inr rfl
      rw [← hvv] at eM ⊢
      obtain ⟨hh', w1, w2, w3, w4⟩ := setW (N := N) hh (b := b) (by omega) vv (by omega)
      rw [w1, bind_sn]
      have x2 : ∀ j, sa g4 2 (nI (8 + b)) vv 2 j = if j = 8 + b then vv else g 2 j := fun j => by
        rw [pu_sa, if_pos rfl, nI_clamp (by omega), pu_upd, S4.1 2 (by omega), S3.1 2 (by omega), s2]
      have x3 : sa g4 2 (nI (8 + b)) vv 3 = g 3 := by
        rw [pu_sa, if_neg (by omega), S4.1 3 (by omega), S3.1 3 (by omega), S1.1 3 (by omega)]
      have x5 : sa g4 2 (nI (8 + b)) vv 0 5 = g 0 5 := by
        rw [pu_sa, if_neg (by omega), S4.2 5 (by omega), S3.2 5 (by omega), S1.2 5 (by omega)]
      have GP : FgP g (sa g4 2 (nI (8 + b)) vv) := S1.p.tr (S3.p.tr (S4.p.tr (sa_p g4 2 (Or.inl rfl) _ vv).1))
      refine ⟨hd2, ht4, hh', g2, _, rfl, d2 h0, eM, P4.sa (Or.inl rfl) _ vv, GP, fun _ => ⟨?_, ((d4 h0).tr (e4 h2)).tr p5⟩⟩
      obtain ⟨⟨⟨⟨u1, u2, u3, u4⟩, u5⟩, f2, ⟨t1, t2, t3⟩, f4, f5⟩, dr, dc⟩ := Dr
      have ro : ∀ j, j ≠ 8 + b → sa g4 2 (nI (8 + b)) vv 2 j = g 2 j := fun j h => by rw [x2, if_neg h]
      refine ⟨⟨⟨⟨(ro 0 (by omega)).trans u1, (ro 1 (by omega)).trans u2, (ro 2 (by omega)).trans u3, (ro 3 (by omega)).trans u4⟩, u5⟩, ?_, ⟨?_, ?_, ?_⟩, ?_, ?_⟩, RRel_o dr (fun j _ hj => ro j (by omega)), CaR_o dc (ro 7 (by omega)) x3⟩
      · rw [w2 0 (by omega) (by omega)]; exact f2
      · rw [w2 0 (by omega) (by omega), ro 4 (by omega)]; exact t1
      · rw [w2 0 (by omega) (by omega), ro 5 (by omega)]; exact t2
      · rw [w2 0 (by omega) (by omega), x5]; exact t3
      · rw [w2 1 (by omega) (by omega), w2 2 (by omega) (by omega), w2 3 (by omega) (by omega)]; exact f4
      · intro c hc'
        obtain ⟨k1, k2, k3, k4⟩ := f5 c hc'
        rw [w4 c hc', w3, x2, pu_upd]
        by_cases cc : c = b
        · subst cc
          rw [if_pos rfl, if_pos rfl]
          exact ⟨rfl, rfl, Or.inr vv12, fun z => by omega⟩
        · rw [if_neg cc, if_neg (by omega)]
          exact ⟨k1, rfl, k3, k4⟩
    · obtain ⟨pe, se, ze⟩ := err_ok P2 (c := 3) (by decide)
      rw [eK, wa, if_neg cw, pu_letn, if_pos ze]
      rw [if_neg cw, bind_sn, good_0 (by rw [← pe.1.1]; exact ze), ife0] at eM
      exact ⟨_, ht4, hh, g2, _, rfl, d2 h0, eM, ⟨pe.1, P4.2.1, Or.inl ze⟩, S1.p.tr se.p, fun z => absurd z ze⟩
  · have gb : g2 0 20 ≠ 0 := by rw [← P2.1.1]; exact h2
    have eM : F_Mo_readWall N' g1 = some g2 := by
      unfold F_Mo_readWall
      simp only [if_pos i0, c0, pu_letn]
      rw [a2]
      dsimp only
      rw [good_0 gb, if_pos rfl, bind_sn, good_0 gb, ife0]
    rw [eK, fail_b _ h2, ite_self, pu_letn, if_pos h2]
    exact ⟨hd2, ht4, hh, g1, g2, rfl, d2 h0, eM, ⟨P2.1, P4.2.1, Or.inl h2⟩, S1.p.tr S2.p, fun z => absurd z h2⟩
end WLL
