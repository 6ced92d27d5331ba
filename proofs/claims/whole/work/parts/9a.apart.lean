/-! ===== pure: a line on two kinds apart ===== -/
section APL
variable {g g' g2 : HH} {hd hd' ht ht' hh hr hc : HH} {B R H D K n N N' s x l : Nat}
theorem levelD (h : RRel hr (gv g) K) {a b : Nat} (ha : a < K) (hb : b < K) : F_Rules_levelOf (nI a) (nI b) hr = g 2 (41 + 7 * a + b) := by
  obtain ⟨⟨r1, r2, r3⟩, -, -, r4⟩ := h
  have e : hr 6 (a * 7 + b) = g 2 (41 + 7 * a + b) := (r4 a b (by omega) (by omega)).1
  unfold F_Rules_levelOf
  rw [r1, w_yes ha (by omega), w_yes hb (by omega)]
  simp only [pu_letn, if_neg pu_10]
  rw [show (7 : Int32) = nI 7 from rfl, pk_mul, nI_add, pu_rd _ (by omega) (by omega)]
  exact e
theorem e41 (a b : Nat) : (41 : Int32) + 7 * nI a + nI b = nI (41 + 7 * a + b) := by
  rw [show (41 : Int32) = nI 41 from rfl, show (7 : Int32) = nI 7 from rfl, pk_mul, nI_add, nI_add]
theorem see_b (h : hd 0 0 ≠ 0) (lo hi : Int32) : F_Read_seeNumber lo hi hd ht = (ht 0 4, hd) := by
  unfold F_Read_seeNumber
  simp only [pu_letn, fail_b _ h, ite_self]
def apT (N : Nat) (a b : Int32) (hr hd ht : HH) : Option (HH × HH × HH) := Option.bind (F_Tape_advance N ht) fun v10 => (sv_let (F_Read_seeNumber 1 4 hd v10) fun v12 => (sv_let (if ¬ (F_Rules_hasLevel v12.1 hr) = 0 then v12.2 else (sv_let (F_Read_fail 2 v12.2 v10) fun hd_15 => hd_15)) fun v16 => (Option.bind (F_Tape_advance N v10) fun v17 => (if ¬ (v16 0 0) = 0 then (some (v16, v17, hr)) else (sv_let (F_Rules_tellApart a b v12.1 hr) fun hr_20 => (some (v16, v17, hr_20)))))))
def apR (N : Nat) (a b : Int32) (g : HH) : Option HH := (Option.bind (F_Mo_advance N g) fun v13 => (sv_let (F_Mo_numberHere 1 4 v13) fun v15 => (Option.bind (if (F_Mo_good v15.2) = 0 then some v15.2 else (if sv_in ((14 : Int32) + ((4 : Int32) * v15.1)) 90 then (if ¬ (v15.2 2 (((14 : Int32) + ((4 : Int32) * v15.1))).toNatClampNeg) = 0 then some v15.2 else (sv_let (F_Mo_errs 2 (v15.2 0 17) v15.2) fun gm_20 => some gm_20)) else none)) fun v21 => (if ¬ (F_Mo_good v21) = 0 then (Option.bind (F_Mo_advance N v21) fun v23 => (if sv_in (((41 : Int32) + ((7 : Int32) * a)) + b) 90 then (sv_let (sa v23 2 (((41 : Int32) + ((7 : Int32) * a)) + b) v15.1) fun gm_26 => (if sv_in (((41 : Int32) + ((7 : Int32) * b)) + a) 90 then (sv_let (sa gm_26 2 (((41 : Int32) + ((7 : Int32) * b)) + a) v15.1) fun gm_28 => (some gm_28)) else none)) else none)) else (some v21)))))
theorem apart_eq : F_Mo_readApart N g = (if sv_in (6 : Int32) 90 then (Option.bind (F_Mo_number N (0 : Int32) ((g 2 ((6 : Int32)).toNatClampNeg) - (1 : Int32)) g) fun v2 => (if sv_in (6 : Int32) 90 then (sv_let (F_Mo_numberHere (0 : Int32) ((v2.2 2 ((6 : Int32)).toNatClampNeg) - (1 : Int32)) v2.2) fun v5 => (Option.bind (if (F_Mo_good v5.2) = 0 then some v5.2 else (if sv_in (((41 : Int32) + ((7 : Int32) * v2.1)) + v5.1) 90 then (if (v5.2 2 ((((41 : Int32) + ((7 : Int32) * v2.1)) + v5.1)).toNatClampNeg) = 0 then some v5.2 else (sv_let (F_Mo_errs (3 : Int32) (v5.2 0 17) v5.2) fun gm_10 => some gm_10)) else none)) fun v11 => (if ¬ (F_Mo_good v11) = 0 then apR N v2.1 v5.1 v11 else (some v11)))) else none)) else none) := rfl
theorem apT_b (a b : Int32) (h : hd 0 0 ≠ 0) (T : TSf ht s) (hN : 1000 ≤ N) : ∃ ht', apT N a b hr hd ht = some (hd, ht', hr) ∧ TSf ht' s := by
  obtain ⟨h1, a1, T1, -, -⟩ := adv_tot (N := N) T hN
  obtain ⟨h2, a2, T2, -, -⟩ := adv_tot (N := N) T1 hN
  unfold apT
  rw [a1, bind_sn, see_b h, a2]
  simp only [pu_letn, bind_sn]
  rw [fail_b _ h, ite_self, if_pos h]
  exact ⟨h2, rfl, T2⟩
theorem apart_in (P : PP hd ht g s) (h0 : hd 0 0 = 0) (Dr : DR hh hr hc g B R H D K n) {a b : Nat} (ha : a < K) (hb : b < K) (hN : 1000 ≤ N) (hN' : 1000 ≤ N') : ∃ hd' ht' hr' g', apT N (nI a) (nI b) hr hd ht = some (hd', ht', hr') ∧ apR N' (nI a) (nI b) g = some g' ∧ PP hd' ht' g' s ∧ FgP g g' ∧ (hd' 0 0 = 0 → DR hh hr' hc g' B R H D K n ∧ Mv ht ht' 0) := by
  have hK : K ≤ 7 := Dr.2.1.1.2.2
  obtain ⟨ht1, g1, d1, d2, -, P1, S1, d4, -⟩ := go_on (N := N) (N' := N') P hN hN'
  have s2 : g1 2 = g 2 := S1.1 2 (by omega)
  obtain ⟨v, v', hd2, g2, a1, a2, P2, S2, a3, a4⟩ := see_ok P1 (lo := 1) (hi := 4) (lo' := 1) (hi' := 4) (fun _ => ⟨rfl, rfl, by decide⟩)
  obtain ⟨ht3, g3, e1, e2, e3, P3, S3, e4, -⟩ := go_on (N := N) (N' := N') P2 hN hN'
  have eK : apT N (nI a) (nI b) hr hd ht = (sv_let (if ¬ F_Rules_hasLevel v hr = 0 then hd2 else F_Read_fail 2 hd2 ht1) fun v16 => if ¬ (v16 0 0) = 0 then some (v16, ht3, hr) else some (v16, ht3, F_Rules_tellApart (nI a) (nI b) v hr)) := by
    unfold apT
    simp only [pu_letn]
    rw [d1, bind_sn, a1]
    dsimp only
    rw [e1, bind_sn]
  by_cases h2 : hd2 0 0 = 0
  · obtain ⟨ev, w, ehd, eg2, -⟩ := a4 h2
    subst ev
    subst eg2
    have g20 : g2 0 20 = 0 := by rw [← P2.1.1]; exact h2
    obtain ⟨l, l1, l2, rfl⟩ := within_n (v := v) (lo := 1) (hi := 4) (by omega) (by omega) w
    have j0 : sv_in (nI (14 + 4 * l)) 90 := pu_in (by omega) (by omega)
    have ja : sv_in (nI (41 + 7 * a + b)) 90 := pu_in (by omega) (by omega)
    have jb : sv_in (nI (41 + 7 * b + a)) 90 := pu_in (by omega) (by omega)
    have eM : apR N' (nI a) (nI b) g = (Option.bind (some (if ¬ g 2 (14 + 4 * l) = 0 then g2 else F_Mo_errs 2 (g2 0 17) g2)) fun v21 => if ¬ F_Mo_good v21 = 0 then (Option.bind (F_Mo_advance N' v21) fun v23 => some (sa (sa v23 2 (nI (41 + 7 * a + b)) (nI l)) 2 (nI (41 + 7 * b + a)) (nI l))) else some v21) := by
      unfold apR
      simp only [pu_letn]
      rw [d2 h0, bind_sn, a2]
      dsimp only
      rw [good_1 g20, if_neg pu_10]
      simp only [e14, e41, if_pos j0, if_pos ja, if_pos jb]
      rw [nI_clamp (by omega), s2]
      congr 1
      split <;> rfl
    rw [eK, hasL Dr.2.1 l1 l2]
    by_cases cw : g 2 (14 + 4 * l) = 0
    · obtain ⟨pe, se, ze⟩ := err_ok P2 (c := 2) (by decide)
      rw [if_pos cw, ife0, pu_letn, if_pos ze]
      rw [ifn cw, bind_sn, good_0 (by rw [← pe.1.1]; exact ze), ife0] at eM
      exact ⟨_, ht3, hr, _, rfl, eM, ⟨pe.1, P3.2.1, Or.inl ze⟩, S1.p.tr se.p, fun z => absurd z ze⟩
    · rw [if_neg cw, if_pos pu_10, pu_letn, ifn h2]
      rw [if_pos cw, bind_sn, good_1 g20, if_pos pu_10, e2 h2, bind_sn] at eM
      obtain ⟨g4, eg4⟩ : ∃ g4, g4 = sa g3 2 (nI (41 + 7 * a + b)) (nI l) := ⟨_, rfl⟩
      obtain ⟨g5, eg5⟩ : ∃ g5, g5 = sa g4 2 (nI (41 + 7 * b + a)) (nI l) := ⟨_, rfl⟩
      rw [← eg4, ← eg5] at eM
      have x4 : ∀ j, g4 2 j = if j = 41 + 7 * a + b then nI l else g 2 j := fun j => by
        rw [eg4, pu_sa, if_pos rfl, nI_clamp (by omega), pu_upd, S3.1 2 (by omega), s2]
      have x5 : ∀ j, g5 2 j = if j = 41 + 7 * b + a then nI l else if j = 41 + 7 * a + b then nI l else g 2 j := fun j => by
        rw [eg5, pu_sa, if_pos rfl, nI_clamp (by omega), pu_upd, x4]
      have x3 : g5 3 = g 3 := by
        rw [eg5, pu_sa, if_neg (by omega), eg4, pu_sa, if_neg (by omega), S3.1 3 (by omega), S1.1 3 (by omega)]
      have x0 : g5 0 5 = g 0 5 := by
        rw [eg5, pu_sa, if_neg (by omega), eg4, pu_sa, if_neg (by omega), S3.2 5 (by omega), S1.2 5 (by omega)]
      have GP : FgP g g5 := by
        rw [eg5, eg4]
        exact S1.p.tr (S3.p.tr ((sa_p g3 2 (Or.inl rfl) _ _).1.tr (sa_p _ 2 (Or.inl rfl) _ _).1))
      have PQ : PP hd2 ht3 g5 s := by
        rw [eg5, eg4]
        exact (P3.sa (Or.inl rfl) _ _).sa (Or.inl rfl) _ _
      refine ⟨hd2, ht3, _, g5, rfl, eM, PQ, GP, fun _ => ⟨?_, (d4 h0).tr (e4 h2)⟩⟩
      obtain ⟨ta, eta⟩ : ∃ ta, ta = F_Rules_tellApart (nI a) (nI b) (nI l) hr := ⟨_, rfl⟩
      rw [← eta]
      have i1 : nI a * 7 + nI b = nI (a * 7 + b) := by rw [show (7 : Int32) = nI 7 from rfl, pk_mul, nI_add]
      have i2 : nI b * 7 + nI a = nI (b * 7 + a) := by rw [show (7 : Int32) = nI 7 from rfl, pk_mul, nI_add]
      have y6 : ∀ j, ta 6 j = if j = b * 7 + a then nI l else if j = a * 7 + b then nI l else hr 6 j := fun j => by
        rw [eta]; unfold F_Rules_tellApart; simp only [pu_letn]
        rw [pu_sw, if_pos rfl, pu_sw, if_pos rfl, i1, i2, pu_wr _ _ (by omega) (by omega), pu_wr _ _ (by omega) (by omega), pu_upd, pu_upd]
      have yr : ∀ r, r ≠ 6 → ta r = hr r := fun r h => by
        rw [eta]; unfold F_Rules_tellApart; simp only [pu_letn]
        rw [pu_sw, if_neg h, pu_sw, if_neg h]
      have ro : ∀ j, j < 41 → g5 2 j = g 2 j := fun j h => by rw [x5, if_neg (by omega), if_neg (by omega)]
      obtain ⟨dh, ⟨⟨q1, q2, q3⟩, q4, q5, q6⟩, dc⟩ := Dr
      refine ⟨HuR_o dh (fun j hj => ro j (by omega)) x0, ⟨⟨?_, (ro 6 (by omega)).trans q2, q3⟩, ?_, ?_, ?_⟩, CaR_o dc (ro 7 (by omega)) x3⟩
      · rw [yr 0 (by omega)]; exact q1
      · intro l' l1' l2'
        rw [yr 1 (by omega), yr 2 (by omega), yr 3 (by omega), yr 4 (by omega), show gv g5 1 (14 + 4 * l') = gv g 1 (14 + 4 * l') from ro (14 + 4 * l') (by omega), show gv g5 1 (14 + 4 * l' + 1) = gv g 1 (14 + 4 * l' + 1) from ro (14 + 4 * l' + 1) (by omega), show gv g5 1 (14 + 4 * l' + 2) = gv g 1 (14 + 4 * l' + 2) from ro (14 + 4 * l' + 2) (by omega), show gv g5 1 (14 + 4 * l' + 3) = gv g 1 (14 + 4 * l' + 3) from ro (14 + 4 * l' + 3) (by omega)]
        exact q4 l' l1' l2'
      · intro c hc'
        rw [yr 5 (by omega), show gv g5 1 (34 + c) = gv g 1 (34 + c) from ro (34 + c) (by omega)]
        exact q5 c hc'
      · intro c d hc' hd'
        have lvk : ∀ m, LvOK (gv g) m → LvOK (gv g5) m := by
          rintro m ⟨m1, m2, m3⟩
          refine ⟨m1, m2, ?_⟩
          rw [show gv g5 1 (14 + 4 * m) = gv g 1 (14 + 4 * m) from ro (14 + 4 * m) (by omega)]
          exact m3
        obtain ⟨p1, p2, p3⟩ := q6 c d hc' hd'
        show ta 6 (c * 7 + d) = g5 2 (41 + 7 * c + d) ∧ g5 2 (41 + 7 * c + d) = g5 2 (41 + 7 * d + c) ∧ (g5 2 (41 + 7 * c + d) = 0 ∨ ∃ m, LvOK (gv g5) m ∧ g5 2 (41 + 7 * c + d) = nI m)
        have lvl : LvOK (gv g5) l := lvk l ⟨l1, l2, cw⟩
        by_cases k1 : c = a ∧ d = b
        · obtain ⟨rfl, rfl⟩ := k1
          have z1 : ta 6 (c * 7 + d) = nI l := by rw [y6]; split; rfl; rw [if_pos rfl]
          have z2 : g5 2 (41 + 7 * c + d) = nI l := by rw [x5]; split; rfl; rw [if_pos rfl]
          have z3 : g5 2 (41 + 7 * d + c) = nI l := by rw [x5, if_pos rfl]
          rw [z1, z2, z3]
          exact ⟨rfl, rfl, Or.inr ⟨l, lvl, rfl⟩⟩
        · by_cases k2 : c = b ∧ d = a
          · obtain ⟨rfl, rfl⟩ := k2
            have z1 : ta 6 (c * 7 + d) = nI l := by rw [y6, if_pos rfl]
            have z2 : g5 2 (41 + 7 * c + d) = nI l := by rw [x5, if_pos rfl]
            have z3 : g5 2 (41 + 7 * d + c) = nI l := by rw [x5]; split; rfl; rw [if_pos rfl]
            rw [z1, z2, z3]
            exact ⟨rfl, rfl, Or.inr ⟨l, lvl, rfl⟩⟩
          · rw [y6, x5, x5, if_neg (show ¬ c * 7 + d = b * 7 + a by omega), if_neg (show ¬ c * 7 + d = a * 7 + b by omega), if_neg (show ¬ 41 + 7 * c + d = 41 + 7 * b + a by omega), if_neg (show ¬ 41 + 7 * c + d = 41 + 7 * a + b by omega), if_neg (show ¬ 41 + 7 * d + c = 41 + 7 * b + a by omega), if_neg (show ¬ 41 + 7 * d + c = 41 + 7 * a + b by omega)]
            refine ⟨p1, p2, ?_⟩
            rcases p3 with p3 | ⟨m, m1, m2⟩
            · exact Or.inl p3
            · exact Or.inr ⟨m, lvk m m1, m2⟩
  · have gb : g2 0 20 ≠ 0 := by rw [← P2.1.1]; exact h2
    have eM : apR N' (nI a) (nI b) g = some g2 := by
      unfold apR
      simp only [pu_letn]
      rw [d2 h0, bind_sn, a2]
      dsimp only
      rw [good_0 gb, if_pos rfl, bind_sn, good_0 gb, ife0]
    rw [eK, fail_b _ h2, ite_self, pu_letn, if_pos h2]
    exact ⟨hd2, ht3, hr, g2, rfl, eM, ⟨P2.1, P3.2.1, Or.inl h2⟩, S1.p.tr S2.p, fun z => absurd z h2⟩
theorem apart_ok (P : PP hd ht g s) (h0 : hd 0 0 = 0) (Dr : DR hh hr hc g B R H D K n) (hN : 1000 ≤ N) (hN' : 1000 ≤ N') : ∃ hd' ht' hr' g1 g', F_Read_readApart N hd ht hr = some (hd', ht', hr') ∧ F_Mo_advance N' g = some g1 ∧ F_Mo_readApart N' g1 = some g' ∧ PP hd' ht' g' s ∧ FgP g g' ∧ (hd' 0 0 = 0 → DR hh hr' hc g' B R H D K n ∧ Mv ht ht' 0) := by
  have r0 : hr 0 0 = nI K := Dr.2.1.1.1
  have r6 : g 2 6 = nI K := Dr.2.1.1.2.1
  have hK : K ≤ 7 := Dr.2.1.1.2.2
  have k9 : ∀ K, K < 8 → nI K - 1 ≤ (999 : Int32) := by decide
  have i6 : sv_in (6 : Int32) 90 := by decide
  have c6 : ((6 : Int32)).toNatClampNeg = 6 := rfl
  obtain ⟨ht1, g1, d1, d2, -, P1, S1, d4, -⟩ := go_on (N := N) (N' := N') P hN hN'
  have s2 : g1 2 = g 2 := S1.1 2 (by omega)
  obtain ⟨v, v', hd2, ht2, g2, a1, a2, P2, S2, a3, a4⟩ := tk_ok (N := N) (N' := N') P1 (lo := 0) (hi := hr 0 0 - 1) (lo' := 0) (hi' := g1 2 6 - 1) (fun _ => ⟨rfl, by rw [s2, r0, r6], by rw [r0]; exact k9 K (by omega)⟩) hN hN'
  have s22 : g2 2 = g 2 := by rw [S2.1 2 (by omega), s2]
  obtain ⟨w, w', hd3, g3, b1, b2, P3, S3, b3, b4⟩ := see_ok P2 (lo := 0) (hi := hr 0 0 - 1) (lo' := 0) (hi' := g2 2 6 - 1) (fun _ => ⟨rfl, by rw [s22, r0, r6], by rw [r0]; exact k9 K (by omega)⟩)
  have eK : F_Read_readApart N hd ht hr = (sv_let (if F_Rules_levelOf v w hr = 0 then hd3 else F_Read_fail 3 hd3 ht2) fun v9 => apT N v w hr v9 ht2) := by
    unfold F_Read_readApart apT
    simp only [pu_letn]
    rw [d1, bind_sn, a1, bind_sn]
    dsimp only
    rw [b1]
  by_cases h3 : hd3 0 0 = 0
  · have h2 : hd2 0 0 = 0 := Classical.byContradiction fun z => (b3 z) h3
    obtain ⟨ev, wv, -, m2⟩ := a4 h2
    obtain ⟨ew, ww, ehd, eg3, -⟩ := b4 h3
    subst ev
    subst ew
    subst eg3
    have g30 : g3 0 20 = 0 := by rw [← P3.1.1]; exact h3
    rw [r0] at wv ww
    obtain ⟨a, ha, rfl⟩ : ∃ a, a < K ∧ v = nI a := by
      rcases pu_wn v (n := K) (by omega) with ⟨j, j1, j2, -⟩ | ⟨-, z⟩
      · exact ⟨j, j1, j2⟩
      · rw [z] at wv; exact absurd wv (by decide)
    obtain ⟨b, hb, rfl⟩ : ∃ b, b < K ∧ w = nI b := by
      rcases pu_wn w (n := K) (by omega) with ⟨j, j1, j2, -⟩ | ⟨-, z⟩
      · exact ⟨j, j1, j2⟩
      · rw [z] at ww; exact absurd ww (by decide)
    have ja : sv_in (nI (41 + 7 * a + b)) 90 := pu_in (by omega) (by omega)
    have eM : F_Mo_readApart N' g1 = (Option.bind (some (if g 2 (41 + 7 * a + b) = 0 then g3 else F_Mo_errs 3 (g3 0 17) g3)) fun v11 => if ¬ F_Mo_good v11 = 0 then apR N' (nI a) (nI b) v11 else some v11) := by
      rw [apart_eq]
      simp only [if_pos i6, c6, pu_letn]
      rw [a2, bind_sn]
      dsimp only
      rw [b2]
      dsimp only
      rw [good_1 g30, if_neg pu_10]
      simp only [e41, if_pos ja]
      rw [nI_clamp (by omega), s22]
      by_cases cw : g 2 (41 + 7 * a + b) = 0
      · rw [if_pos cw, if_pos cw]
      · rw [if_neg cw, if_neg cw]
    rw [eK, levelD Dr.2.1 ha hb, pu_letn]
    by_cases cw : g 2 (41 + 7 * a + b) = 0
    · rw [if_pos cw]
      rw [if_pos cw, bind_sn, good_1 g30, if_pos pu_10] at eM
      have Dr3 : DR hh hr hc g3 B R H D K n := Dr.fs (S1.tr S2)
      obtain ⟨hd5, ht5, hr5, g5, t1, t2, P5, G5, t3⟩ := apart_in (N := N) (N' := N') P3 h3 Dr3 ha hb hN hN'
      rw [t2] at eM
      exact ⟨hd5, ht5, hr5, g1, g5, t1, d2 h0, eM, P5, (S1.p.tr S2.p).tr G5, fun z => ⟨(t3 z).1, ((d4 h0).tr m2).tr (t3 z).2⟩⟩
    · obtain ⟨pe, se, ze⟩ := err_ok P3 (c := 3) (by decide)
      rw [if_neg cw]
      rw [if_neg cw, bind_sn, good_0 (by rw [← pe.1.1]; exact ze), ife0] at eM
      obtain ⟨ht5, k1, k2⟩ := apT_b (hr := hr) (N := N) (nI a) (nI b) ze P3.2.1 hN
      exact ⟨_, ht5, hr, g1, _, k1, d2 h0, eM, ⟨pe.1, k2, Or.inl ze⟩, (S1.p.tr S2.p).tr se.p, fun z => absurd z ze⟩
  · have gb : g3 0 20 ≠ 0 := by rw [← P3.1.1]; exact h3
    have eM : F_Mo_readApart N' g1 = some g3 := by
      unfold F_Mo_readApart
      simp only [if_pos i6, c6, pu_letn]
      rw [a2, bind_sn]
      dsimp only
      rw [b2]
      dsimp only
      rw [good_0 gb, if_pos rfl, bind_sn, good_0 gb, ife0]
    obtain ⟨ht5, k1, k2⟩ := apT_b (hr := hr) (N := N) v w h3 P3.2.1 hN
    rw [eK, fail_b _ h3, ite_self, pu_letn]
    exact ⟨hd3, ht5, hr, g1, g3, k1, d2 h0, eM, ⟨P3.1, k2, Or.inl h3⟩, (S1.p.tr S2.p).tr S3.p, fun z => absurd z h3⟩
end APL
