/-! ===== pure: calls that ask ===== -/
section ASK
variable {k : KS} {g : HH} {hh hr hc : HH} {B R H D K n o N N' : Nat}
theorem nI_B2 {B : Nat} (h : 1 ≤ B) : nI B - 2 = nI (B - 1) - 1 := by
  rcases Nat.lt_or_ge B 2 with c | c
  · have : B = 1 := by omega
    subst this
    decide
  · rw [show (2 : Int32) = nI 2 from rfl, show (1 : Int32) = nI 1 from rfl, pk_sub c, pk_sub (by omega)]
    congr 1
theorem K_wall (V : VS hh hr hc g B R H D K n o) {b : Nat} (hb : b < 6) : F_Hull_wallAt (nI b) hh = wallv g o b := by
  have hB : B ≤ 6 := V.1.2.2.1
  have hB1 : 1 ≤ B := V.1.2.1
  have h0 : hh 0 0 = nI B := V.2.2.1.1.1
  unfold F_Hull_wallAt
  rw [h0, nI_B2 hB1]
  rcases pu_wn (nI b) (n := B - 1) (by omega) with ⟨j, h1, h2, h3⟩ | ⟨h1, h2⟩
  · rw [h3, if_neg pu_10, pu_rd _ hb (by omega)]
    exact (V.2.2.1.2.2 b hb).1
  · rw [h2, if_pos rfl]
    have : B ≤ b + 1 := by
      rcases Nat.lt_or_ge b (B - 1) with z | z
      · exact absurd rfl (h1 b z)
      · omega
    unfold wallv
    rw [V.2.1.2.1 b hb this]
    rfl
theorem Mo_wallA (V : VS hh hr hc g B R H D K n o) (ho : g 0 11 = nI o) {b : Nat} (hb : b < 6) : F_Mo_wallAt N (nI b) g = some (wallv g o b) := by
  unfold F_Mo_wallAt wallv
  have hin : sv_in (nI (8 + b)) 90 := pu_in (by omega) (by omega)
  rw [pu_8]
  simp only [if_pos hin]
  rw [nI_clamp (by omega), ho, pu_bit o V.2.1.2.2 b hb]
  by_cases c : g 1 (8 + b) = 2
  · rw [if_neg (fun z => z c), if_pos c, c]
    cases ht : o.testBit b <;> simp
  · rw [if_pos c, if_neg c]
theorem sim_5 : Sim_5 Inv := by
  intro a1 k g I
  have h : ∃ v, some (F_K_wall a1 (k 0) (k 9)) = some v ∧ F_Mo_wall 3000 a1 g = some v := by
    have e : F_Mo_wall 3000 a1 g = if (F_Mo_in a1.toInt64 0 (g 1 0 - 2).toInt64) = 0 then some (-2) else Option.bind (F_Mo_wallAt 3000 a1 g) fun v3 => some v3 := rfl
    rw [e, pu_in0]
    rcases I.2 with J | ⟨B, R, H, D, K, n, o, J⟩
    · have e1 : F_K_wall a1 (k 0) (k 9) = -2 := by
        unfold F_K_wall F_K_isBay
        rw [J.1]
        rfl
      rw [e1, J.2.2.1 0 (by omega)]
      refine ⟨-2, rfl, ?_⟩
      have e2 : F_K_within a1 0 (0 - 2) = 0 := by
        rw [pu_w]
        exact if_neg (fun z => absurd (Int32.le_trans z.1 z.2) (by decide))
      rw [e2]
      rfl
    · have hB : B ≤ 6 := J.2.2.1.1.2.2.1
      have hB1 : 1 ≤ B := J.2.2.1.1.2.1
      have r2 : g 1 0 = nI B := J.2.2.1.1.1.1
      rw [r2, nI_B2 hB1]
      unfold F_K_wall
      rcases pu_wn a1 (n := B - 1) (by omega) with ⟨j, h1, h2, h3⟩ | ⟨h1, h2⟩
      · subst h2
        rw [h3, if_neg pu_10, Mo_wallA J.2.2.1 J.2.2.2.1 (by omega), K_wall J.2.2.1 (by omega)]
        rcases a_bay (N := 0) J (nI j) with ⟨i, -, -, q1, -⟩ | ⟨q1, -⟩
        · rcases a_bay (N := 0) J (nI j + 1) with ⟨i2, -, -, q2, -⟩ | ⟨q2, -⟩
          · rw [q1, q2, if_neg pu_10, if_neg pu_10]
            exact ⟨_, rfl, rfl⟩
          · exfalso
            unfold F_K_isBay at q2
            rw [J.1, if_neg pu_10, J.2.2.1.2.2.1.1.1, nI_1, w_yes (by omega) (by omega)] at q2
            exact absurd q2 (by decide)
        · exfalso
          unfold F_K_isBay at q1
          rw [J.1, if_neg pu_10, J.2.2.1.2.2.1.1.1, w_yes (by omega) (by omega)] at q1
          exact absurd q1 (by decide)
      · rw [h2, if_pos rfl]
        refine ⟨-2, ?_, rfl⟩
        rcases a_bay (N := 0) J a1 with ⟨i, i1, i2, q1, -⟩ | ⟨q1, -⟩
        · rw [q1, if_neg pu_10]
          rcases a_bay (N := 0) J (a1 + 1) with ⟨i3, i4, i5, q2, -⟩ | ⟨q2, -⟩
          · exfalso
            subst i2
            rw [nI_1, nI_eq (by omega) (by omega)] at i5
            exact h1 i (by omega) rfl
          · rw [q2]; rfl
        · rw [q1]; rfl
  obtain ⟨v, h1, h2⟩ := h
  refine ⟨3000, 3000, v, k, g, ?_, ?_, I⟩
  · unfold KO_5; rw [h1]; rfl
  · unfold MO_5; rw [h2]; rfl
theorem sim_6 : Sim_6 Inv := by
  intro a1 a2 k g I
  have h : ∃ v, some (F_K_level a1 a2 (k 0) (k 10)) = some v ∧ F_Mo_level 3000 a1 a2 g = some v := by
    unfold F_K_level F_Mo_level
    rw [show (3 : Int64) = (3 : Int32).toInt64 from rfl, pu_in0]
    rcases I.2 with J | ⟨B, R, H, D, K, n, o, J⟩
    · have e1 : F_K_isLevel a1 (k 0) (k 10) = 0 := by
        unfold F_K_isLevel
        rw [J.1]
        rfl
      have e2 : F_Mo_isLevel 3000 a1 g = some 0 := by
        unfold F_Mo_isLevel
        rw [show (1 : Int64) = (1 : Int32).toInt64 from rfl, show (4 : Int64) = (4 : Int32).toInt64 from rfl, pu_inw]
        rcases pu_wc a1 1 4 (by omega) (by omega) with ⟨j, h1, h2, h3, h4⟩ | ⟨h1, h2⟩
        · rw [show nI 1 = 1 from rfl, show nI 4 = 4 from rfl] at h4
          rw [h4, if_neg pu_10]
          subst h3
          have e := pu_14 j 0
          rw [show nI 0 = 0 from rfl, Int32.add_zero] at e
          rw [e, if_pos (pu_in (by omega) (by omega)), nI_clamp (by omega), J.2.2.1 _ (by omega)]
          rfl
        · rw [show nI 1 = 1 from rfl, show nI 4 = 4 from rfl] at h2
          rw [h2]; rfl
      rw [e1, e2]
      exact ⟨-2, rfl, rfl⟩
    · rcases a_level (N := 3000) J a1 with ⟨l, h1, h2, h3, h4⟩ | ⟨h3, h4⟩
      · subst h2
        rw [h3, h4, if_neg pu_10]
        simp only [Option.bind_some, if_neg pu_10]
        rcases pu_wc a2 0 3 (by omega) (by omega) with ⟨j, q1, q2, q3, q4⟩ | ⟨q1, q2⟩
        · rw [show nI 0 = 0 from rfl, show nI 3 = 3 from rfl] at q4
          have l4 := h1.2.1
          obtain ⟨r1, r2, r3⟩ := J.2.2.1.2.2.2.1.2.1 l h1.1 h1.2.1
          obtain ⟨r3, r4, r5⟩ := r3 h1.2.2
          rw [q4, if_neg pu_10, if_neg pu_10]
          subst q3
          rw [pu_14, if_pos (pu_in (by omega) (by omega)), nI_clamp (by omega)]
          unfold F_Rules_ofLevel
          rw [pu_rd _ (by omega) (by omega), pu_rd _ (by omega) (by omega), pu_rd _ (by omega) (by omega), pu_rd _ (by omega) (by omega), r1, r3, r4, r5]
          have : j = 0 ∨ j = 1 ∨ j = 2 ∨ j = 3 := by omega
          rcases this with rfl | rfl | rfl | rfl
          · exact ⟨_, rfl, rfl⟩
          · exact ⟨_, rfl, rfl⟩
          · exact ⟨_, rfl, rfl⟩
          · exact ⟨_, rfl, rfl⟩
        · rw [show nI 0 = 0 from rfl, show nI 3 = 3 from rfl] at q2
          rw [q2]
          exact ⟨-2, rfl, rfl⟩
      · rw [h3, h4]
        exact ⟨-2, rfl, rfl⟩
  obtain ⟨v, h1, h2⟩ := h
  refine ⟨3000, 3000, v, k, g, ?_, ?_, I⟩
  · unfold KO_6; rw [h1]; rfl
  · unfold MO_6; rw [h2]; rfl
theorem sim_9 : Sim_9 Inv := by
  intro a1 a2 k g I
  have h : ∃ v, some (F_K_box a1 a2 (k 0) (k 11)) = some v ∧ F_Mo_box 3000 a1 a2 g = some v := by
    unfold F_K_box F_Mo_box
    rw [show (3 : Int64) = (3 : Int32).toInt64 from rfl, pu_in0]
    rcases i_box I a1 with ⟨B, R, H, D, K, n, o, j, J, h1, h2, h3, h4⟩ | ⟨h3, h4⟩
    · rw [h3, h4, if_neg pu_10, if_pos pu_10]
      subst h2
      have hn := J.2.2.1.nn
      obtain ⟨kd, wj, tj, -, k2, -, -, g5, -, -, g6, k4, k5, k6, k7⟩ := J.2.2.1.box h1
      have hin : sv_in (nI j) 24 := pu_in (by omega) (by omega)
      simp only [if_pos hin]
      rw [nI_clamp (by omega), k2, g5, g6, k4, k5, k6, k7]
      rcases pu_wc a2 0 3 (by omega) (by omega) with ⟨i, q1, q2, q3, q4⟩ | ⟨q1, q2⟩
      · rw [show nI 0 = 0 from rfl, show nI 3 = 3 from rfl] at q4
        rw [q4, if_pos pu_10]
        subst q3
        have : i = 0 ∨ i = 1 ∨ i = 2 ∨ i = 3 := by omega
        rcases this with rfl | rfl | rfl | rfl
        · exact ⟨_, rfl, rfl⟩
        · exact ⟨_, rfl, rfl⟩
        · exact ⟨_, rfl, rfl⟩
        · exact ⟨_, rfl, rfl⟩
      · rw [show nI 0 = 0 from rfl, show nI 3 = 3 from rfl] at q2
        have z0 : ¬ a2 = 0 := q1 0 (by omega) (by omega)
        have z1 : ¬ a2 = 1 := q1 1 (by omega) (by omega)
        have z2 : ¬ a2 = 2 := q1 2 (by omega) (by omega)
        have z3 : ¬ a2 = 3 := q1 3 (by omega) (by omega)
        rw [q2]
        refine ⟨-2, ?_, rfl⟩
        rw [if_neg z0, if_neg z1, if_neg z2, if_neg z3]
    · rw [h3, h4]
      exact ⟨-2, rfl, rfl⟩
  obtain ⟨v, h1, h2⟩ := h
  refine ⟨3000, 3000, v, k, g, ?_, ?_, I⟩
  · unfold KO_9; rw [h1]; rfl
  · unfold MO_9; rw [h2]; rfl
theorem sim_30 : Sim_30 Inv := by
  intro a1 k g I
  have h : ∃ v, some (F_K_told a1 (k 0) (k 2) (k 11)) = some v ∧ F_Mo_told 3000 a1 g = some v := by
    unfold F_K_told F_Mo_told F_Load_toldPlace
    rcases i_box I a1 with ⟨B, R, H, D, K, n, o, j, J, h1, h2, h3, h4⟩ | ⟨h3, h4⟩
    · rw [h3, h4, if_neg pu_10, if_pos pu_10]
      subst h2
      have hn := J.2.2.1.nn
      obtain ⟨t1, t2⟩ := J.2.2.2.2.2.2.1
      have hin : sv_in (nI j) 24 := pu_in (by omega) (by omega)
      simp only [if_pos hin]
      rw [nI_clamp (by omega), pu_rd _ (by omega) (by omega), ← t1]
      rcases t2 with t2 | ⟨t2, t3⟩
      · rw [t2]
        exact ⟨-6, rfl, rfl⟩
      · rw [t2, if_neg pu_10, if_neg pu_10]
        rcases t3 j (by omega) with ⟨u1, u2⟩ | ⟨u1, u2, -⟩
        · rw [u1, u2]
          exact ⟨-6, rfl, rfl⟩
        · rw [u1, u2, if_neg pu_10]
          exact ⟨_, rfl, rfl⟩
    · rw [h3, h4]
      exact ⟨-2, rfl, rfl⟩
  obtain ⟨v, h1, h2⟩ := h
  refine ⟨3000, 3000, v, k, g, ?_, ?_, I⟩
  · unfold KO_30; rw [h1]; rfl
  · unfold MO_30; rw [h2]; rfl
theorem sim_14 : Sim_14 Inv := by
  intro a1 a2 k g I
  have h : ∃ v, F_K_nearIn 3000 a1 a2 (k 0) (k 9) (k 10) (k 11) = some v ∧ F_Mo_nearIn 3000 a1 a2 g = some v := by
    unfold F_K_nearIn F_Mo_nearIn
    rcases i_box I a1 with ⟨B, R, H, D, K, n, o, j, J, h1, h2, h3, h4⟩ | ⟨h3, h4⟩
    · rw [h3, h4, if_neg pu_10, if_neg pu_10]
      subst h2
      have hn := J.2.2.1.nn
      obtain ⟨kd, wj, tj, k1, k2, -, -, g5, -, -, g6, k4, k5, k6, k7⟩ := J.2.2.1.box h1
      rcases a_place (N := 3000) J a2 with ⟨p, q1, q2, q3, q4⟩ | ⟨q3, q4⟩
      · subst q2
        rw [q3, q4, if_pos pu_10]
        simp only [Option.bind_some, if_neg pu_10]
        rw [if_pos (pu_in (by omega) (by omega)), nI_clamp (by omega), k2, k4]
        obtain ⟨v, w1, w2, -⟩ := near_eq (N := 3000) (N' := 3000) J.2.2.1 J.2.2.2.1 k1 q1 (nI j) (nI j) (fun _ _ => Iff.rfl) (by omega) (by omega)
        rw [w1, w2]
        exact ⟨_, rfl, rfl⟩
      · rw [q3, q4]
        exact ⟨-2, rfl, rfl⟩
    · rw [h3, h4]
      exact ⟨-2, rfl, rfl⟩
  obtain ⟨v, h1, h2⟩ := h
  refine ⟨3000, 3000, v, k, g, ?_, ?_, I⟩
  · unfold KO_14; rw [h1]; rfl
  · unfold MO_14; rw [h2]; rfl
theorem may_L (V : VS hh hr hc g B R H D K n o) (ho : g 0 11 = nI o) {b : Nat} (hb : b < n) (x : Int32) (hN : 30 ≤ N) (hN' : 30 ≤ N') : ∀ (m p f f' : Nat) (c : Int32), p + m = plN B R H D → m < f → m < f' → ∃ r, L_Ves_openPlace_5 N f (nI b) x c (nI p) hh hr hc = some r ∧ L_Mo_may_21 N' f' (nI b) x c (nI p) g = some r := by
  intro m
  have hP := V.pp
  have h4 : hh 0 4 = nI (plN B R H D) := V.2.2.1.1.2.2.2.2.1
  induction m with
  | zero =>
    intro p f f' c h1 h2 h3
    obtain ⟨f, rfl⟩ : ∃ z, f = z + 1 := ⟨f - 1, by omega⟩
    obtain ⟨f', rfl⟩ : ∃ z, f' = z + 1 := ⟨f' - 1, by omega⟩
    have : p = plN B R H D := by omega
    subst this
    unfold L_Ves_openPlace_5 L_Mo_may_21
    rw [Mo_places V.1, h4]
    simp only [Option.bind_some, if_pos (Int32.le_refl _)]
    exact ⟨_, rfl, rfl⟩
  | succ m ih =>
    intro p f f' c h1 h2 h3
    obtain ⟨f, rfl⟩ : ∃ z, f = z + 1 := ⟨f - 1, by omega⟩
    obtain ⟨f', rfl⟩ : ∃ z, f' = z + 1 := ⟨f' - 1, by omega⟩
    have hp : p < plN B R H D := by omega
    obtain ⟨v, w1, w2, w3, -⟩ := whyBox_eq (N := N) (N' := N') V ho hb hp hN hN'
    unfold L_Ves_openPlace_5 L_Mo_may_21
    rw [Mo_places V.1, h4, w1, w2]
    simp only [Option.bind_some, if_neg (nI_ge hp (by omega)), nI_1]
    by_cases c1 : nI v = 0
    · rw [if_neg (fun z => z c1), if_pos c1]
      by_cases c2 : c = x
      · rw [if_neg (fun z => z c2), if_neg (fun z => z c2)]
        exact ⟨_, rfl, rfl⟩
      · rw [if_pos c2, if_pos c2]
        exact ih (p + 1) f f' _ (by omega) (by omega) (by omega)
    · rw [if_pos c1, if_neg c1]
      exact ih (p + 1) f f' _ (by omega) (by omega) (by omega)
theorem sim_15 : Sim_15 Inv := by
  intro a1 a2 k g I
  have h : ∃ v, F_K_may 3000 a1 a2 (k 0) (k 9) (k 10) (k 11) = some v ∧ F_Mo_may 3000 a1 a2 g = some v := by
    unfold F_K_may F_Mo_may F_Ves_openPlace
    rcases i_box I a1 with ⟨B, R, H, D, K, n, o, j, J, h1, h2, h3, h4⟩ | ⟨h3, h4⟩
    · rw [h3, h4, if_neg pu_10, if_neg pu_10]
      subst h2
      have hP := J.2.2.1.pp
      obtain ⟨r, r1, r2⟩ := may_L (N := 3000) (N' := 3000) J.2.2.1 J.2.2.2.1 h1 a2 (by omega) (by omega) (plN B R H D) 0 3000 3000 0 (by omega) (by omega) (by omega)
      rw [show nI 0 = 0 from rfl] at r1 r2
      rw [r1, r2]
      by_cases c : a2 < -1
      · rw [if_pos c, if_neg (Int32.not_le.mpr c)]
        exact ⟨-2, rfl, rfl⟩
      · rw [if_neg c, if_pos (Int32.not_lt.mp c)]
        cases r with
        | inl v =>
          show ∃ w, Option.bind (if ¬ a2 = -1 then some (-1) else some v) (fun v3 => some v3) = some w ∧ (if ¬ a2 = -1 then some (-1) else some v) = some w
          by_cases c2 : a2 = -1
          · rw [if_neg (fun z => z c2)]; exact ⟨_, rfl, rfl⟩
          · rw [if_pos c2]; exact ⟨_, rfl, rfl⟩
        | inr v => exact ⟨_, rfl, rfl⟩
    · rw [h3, h4]
      exact ⟨-2, rfl, rfl⟩
  obtain ⟨v, h1, h2⟩ := h
  refine ⟨3000, 3000, v, k, g, ?_, ?_, I⟩
  · unfold KO_15; rw [h1]; rfl
  · unfold MO_15; rw [h2]; rfl
end ASK
