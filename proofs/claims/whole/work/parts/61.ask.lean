/-! ===== pure: shift, loosest, over, restows ===== -/
section ASK5
variable {k : KS} {g : HH} {hh hr hc : HH} {B R H D K n o N N' : Nat}
theorem adist_lt {a b c : Nat} (ha : a < c) (hb : b < c) : adist a b < c := by
  unfold adist
  split <;> omega
theorem sim_34 : Sim_34 Inv := by
  intro a1 a2 k g I
  have h : ∃ v, some (F_K_shift a1 a2 (k 0) (k 3)) = some v ∧ F_Mo_shift 3000 a1 a2 g = some v := by
    unfold F_K_shift F_Mo_shift
    rw [show (1 : Int64) = (1 : Int32).toInt64 from rfl, show (2 : Int64) = (2 : Int32).toInt64 from rfl, pu_in0, pu_in0]
    simp only [pu_let]
    rcases i_there I with ⟨B, R, H, D, K, n, o, J, h1, h2⟩ | ⟨J, h1, h2⟩
    · rw [h1, h2, if_neg pu_10, if_neg pu_10]
      obtain ⟨s0, s1⟩ := J.2.2.2.2.2.2.2
      rw [← s0]
      rcases pu_wc a1 0 2 (by omega) (by omega) with ⟨i, i1, i2, i3, i4⟩ | ⟨i1, i4⟩
      · rw [show nI 0 = 0 from rfl, show nI 2 = 2 from rfl] at i4
        rw [i4, if_neg pu_10]
        rcases pu_wc a2 0 1 (by omega) (by omega) with ⟨j, j1, j2, j3, j4⟩ | ⟨j1, j4⟩
        · rw [show nI 0 = 0 from rfl, show nI 1 = 1 from rfl] at j4
          rw [j4, if_neg pu_10, if_neg pu_10]
          subst i3 j3
          have hj : j = 0 ∨ j = 1 := by omega
          by_cases c2 : i = 2
          · subst c2
            have w : F_K_within (nI 2) 0 1 = 0 := by decide
            rw [w]
            rcases hj with rfl | rfl
            · exact ⟨-2, rfl, rfl⟩
            · unfold F_Shif_lateShown
              rcases s1 with ⟨q1, q2⟩ | ⟨m, m1, m2, m3, m4⟩
              · rw [q1, q2]
                exact ⟨-1, rfl, rfl⟩
              · rw [m2, m3]
                have z : ¬ nI m = -1 := pu_m1 (by omega)
                refine ⟨_, rfl, ?_⟩
                show (if ¬ nI m = -1 then some (g 16 4) else some (-1)) = some (g 16 4)
                rw [if_pos z]
          · have w : F_K_within (nI i) 0 1 = 1 := w_yes (a := i) (n := 2) (by omega) (by omega)
            have n2 : ¬ nI i = 2 := fun z => c2 ((nI_eq (by omega) (by omega)).mp z)
            rw [w, if_neg pu_10]
            unfold F_Shif_placeShown F_Shif_boxShown
            rw [pu_rd _ (by omega) (by omega), pu_rd _ (by omega) (by omega)]
            simp only [if_pos n2, if_pos pu_10]
            rw [show (2 : Int32) = nI 2 from rfl, pk_mul, nI_add, if_pos (pu_in (by omega) (by omega)), nI_clamp (by omega)]
            rcases s1 with ⟨q1, q2⟩ | ⟨m, m1, m2, m3, m4⟩
            · rw [q1]
              have z : (-1 : Int32) ≤ nI i := Int32.le_trans (by decide) (nI_pos' (n := i) (by omega))
              rw [if_pos z, if_pos z]
              simp only [ite_self]
              exact ⟨-1, rfl, rfl⟩
            · rw [m2]
              have z : ¬ nI m = -1 := pu_m1 (by omega)
              rw [if_pos z]
              by_cases c : nI m ≤ nI i
              · simp only [if_pos c, ite_self]
                exact ⟨-1, rfl, rfl⟩
              · simp only [if_neg c]
                have him : i < m := by
                  rcases Nat.lt_or_ge i m with y | y
                  · exact y
                  · exact absurd (nI_le y (by omega)) c
                obtain ⟨e1, e2⟩ := m4 i him
                rw [e1, e2]
                rcases hj with rfl | rfl
                · exact ⟨_, rfl, rfl⟩
                · exact ⟨_, rfl, rfl⟩
        · rw [show nI 0 = 0 from rfl, show nI 1 = 1 from rfl] at j4
          have z : ¬ a2 = 1 := j1 1 (by omega) (by omega)
          rw [j4]
          refine ⟨-2, ?_, rfl⟩
          simp [z]
      · rw [show nI 0 = 0 from rfl, show nI 2 = 2 from rfl] at i4
        have z : ¬ a1 = 2 := i1 2 (by omega) (by omega)
        have w : F_K_within a1 0 1 = 0 := by
          rcases pu_wc a1 0 1 (by omega) (by omega) with ⟨i, j1, j2, j3, j4⟩ | ⟨j1, j4⟩
          · exact absurd j3 (i1 i (by omega) (by omega))
          · exact j4
        rw [i4, w]
        simp only [if_pos z]
        exact ⟨-2, rfl, rfl⟩
    · rw [h1, h2]
      exact ⟨-2, rfl, rfl⟩
  obtain ⟨v, h1, h2⟩ := h
  refine ⟨3000, 3000, v, k, g, ?_, ?_, I⟩
  · unfold KO_34; rw [h1]; rfl
  · unfold MO_34; rw [h2]; rfl
theorem loose_L (V : VS hh hr hc g B R H D K n o) {b p : Nat} (hb : b < n) (hp : p < plN B R H D) : ∀ (m j f f' : Nat) (c : Nat), j + m = n → m < f → m < f' → ∃ v, L_Surv_fewestBays_7 N f (nI b) (nI p) (nI c) (nI j) hh hr hc = some (nI v) ∧ L_Mo_looseness_6 N' f' (nI b) (nI p) (nI c) (nI j) g = some (nI v) ∧ v ≤ c := by
  intro m
  have hn := V.nn
  have hP := V.pp
  have hK := V.kk
  induction m with
  | zero =>
    intro j f f' c h1 h2 h3
    obtain ⟨f, rfl⟩ : ∃ z, f = z + 1 := ⟨f - 1, by omega⟩
    obtain ⟨f', rfl⟩ : ∃ z, f' = z + 1 := ⟨f' - 1, by omega⟩
    have : j = n := by omega
    subst this
    unfold L_Surv_fewestBays_7 L_Mo_looseness_6
    rw [V.n6, V.h0, if_pos (Int32.le_refl _), if_pos (Int32.le_refl _)]
    exact ⟨c, rfl, rfl, by omega⟩
  | succ m ih =>
    intro j f f' c h1 h2 h3
    obtain ⟨f, rfl⟩ : ∃ z, f = z + 1 := ⟨f - 1, by omega⟩
    obtain ⟨f', rfl⟩ : ∃ z, f' = z + 1 := ⟨f' - 1, by omega⟩
    have hj : j < n := by omega
    unfold L_Surv_fewestBays_7 L_Mo_looseness_6
    have hin : sv_in (nI j) 24 := pu_in (by omega) (by omega)
    have hib : sv_in (nI b) 24 := pu_in (by omega) (by omega)
    obtain ⟨kd, wt, t, kd1, k2, -, -, -, -, -, -, k3, -, -, k4⟩ := V.box hj
    obtain ⟨kb, wt2, t2, kb1, kb2, -, -, -, -, -, -, kb3, -⟩ := V.box hb
    obtain ⟨v, i1, i2, i3⟩ := ih (j + 1) f f' c (by omega) (by omega) (by omega)
    simp only [if_pos hin, if_pos hib]
    rw [V.n6, V.h0, if_neg (nI_ge hj (by omega)), if_neg (nI_ge hj (by omega)), V.lies hj, nI_clamp (by omega), nI_clamp (by omega), nI_1, k4, k3, k2, kb2, kb3, K_level V kb1 kd1, Mo_apart (by omega) (by omega), i1, i2]
    simp only [pu_let, Option.bind_some]
    rw [(V.2.2.2.1.2.2.2 kd kb (by omega) (by omega)).2.1]
    by_cases q : nI j = nI b
    · rw [if_pos q, if_pos q, if_pos rfl]
      exact ⟨v, rfl, rfl, i3⟩
    rw [if_neg q, if_neg q]
    rcases V.plc hj with p0 | ⟨r, hr', p0, -⟩
    · rw [p0, if_pos rfl, if_pos rfl, if_pos rfl, if_pos rfl]
      exact ⟨v, rfl, rfl, i3⟩
    rw [p0, if_neg (pu_m1 (by omega)), if_neg (pu_m1 (by omega)), if_neg pu_10]
    by_cases l : g 1 (41 + 7 * kb + kd) = 0
    · rw [if_pos l, if_pos rfl, if_pos l]
      exact ⟨v, rfl, rfl, i3⟩
    rw [if_neg l, if_neg pu_10, if_neg l, K_bays V hp hr', Mo_between1 V.1 hp hr']
    simp only [Option.bind_some]
    have b1 := V.1.bl hp
    have b2 := V.1.bl hr'
    have hB : B ≤ 6 := V.1.2.2.1
    have b3 : adist (p / (H + D) / R) (r / (H + D) / R) ≤ 6 := Nat.le_trans (Nat.le_of_lt (adist_lt b1 b2)) hB
    by_cases c1 : nI (adist (p / (H + D) / R) (r / (H + D) / R)) < nI c
    · rw [if_pos c1]
      rcases Nat.lt_or_ge (adist (p / (H + D) / R) (r / (H + D) / R)) c with y | y
      · obtain ⟨v2, u1, u2, u3⟩ := ih (j + 1) f f' (adist (p / (H + D) / R) (r / (H + D) / R)) (by omega) (by omega) (by omega)
        exact ⟨v2, u1, u2, by omega⟩
      · exfalso
        rw [Int32.lt_iff_toInt_lt, nI_toInt (by omega)] at c1
        rcases Nat.lt_or_ge c (2 ^ 31) with y2 | y2
        · rw [nI_toInt y2] at c1
          omega
        · omega
    · rw [if_neg c1]
      exact ⟨v, i1, i2, i3⟩
theorem loose_eq (V : VS hh hr hc g B R H D K n o) {b p : Nat} (hb : b < n) (hp : p < plN B R H D) (hN : 30 ≤ N) (hN' : 30 ≤ N') : ∃ v, F_Surv_fewestBays N (nI b) (nI p) hh hr hc = some (nI v) ∧ F_Mo_looseness N' (nI b) (nI p) g = some (nI v) ∧ v ≤ 99 := by
  have hn := V.nn
  obtain ⟨v, h1, h2, h3⟩ := loose_L (N := N) (N' := N') V hb hp n 0 N N' 99 (by omega) (by omega) (by omega)
  rw [show nI 0 = 0 from rfl, show nI 99 = 99 from rfl] at h1 h2
  unfold F_Surv_fewestBays F_Mo_looseness
  rw [h1, h2]
  exact ⟨v, rfl, rfl, h3⟩
theorem loosest_L (V : VS hh hr hc g B R H D K n o) (ho : g 0 11 = nI o) {b : Nat} (hb : b < n) (hN : 30 ≤ N) (hN' : 30 ≤ N') : ∀ (m p f f' : Nat) (bs mo : Int32), p + m = plN B R H D → m < f → m < f' → ((bs = -1 ∧ mo = -1) ∨ ∃ q v, q < plN B R H D ∧ v ≤ 99 ∧ bs = nI q ∧ mo = nI v ∧ F_Mo_looseness N' (nI b) (nI q) g = some (nI v)) → ∃ v, L_Surv_loosestPlace_8 N f (nI b) bs mo (nI p) hh hr hc = some v ∧ L_Mo_loosest_15 N' f' (nI b) bs (nI p) g = some v := by
  intro m
  have hP := V.pp
  induction m with
  | zero =>
    intro p f f' bs mo h1 h2 h3
    obtain ⟨f, rfl⟩ : ∃ z, f = z + 1 := ⟨f - 1, by omega⟩
    obtain ⟨f', rfl⟩ : ∃ z, f' = z + 1 := ⟨f' - 1, by omega⟩
    have : p = plN B R H D := by omega
    subst this
    intro h4
    unfold L_Surv_loosestPlace_8 L_Mo_loosest_15
    rw [Mo_places V.1, V.h4]
    simp only [Option.bind_some, if_pos (Int32.le_refl _)]
    exact ⟨_, rfl, rfl⟩
  | succ m ih =>
    intro p f f' bs mo h1 h2 h3
    obtain ⟨f, rfl⟩ : ∃ z, f = z + 1 := ⟨f - 1, by omega⟩
    obtain ⟨f', rfl⟩ : ∃ z, f' = z + 1 := ⟨f' - 1, by omega⟩
    intro h4
    have hp : p < plN B R H D := by omega
    unfold L_Surv_loosestPlace_8 L_Mo_loosest_15
    obtain ⟨w, w1, w2, w3, -⟩ := whyBox_eq (N := N) (N' := N') V ho hb hp hN hN'
    obtain ⟨v, v1, v2, v3⟩ := loose_eq (N := N) (N' := N') V hb hp hN hN'
    rw [Mo_places V.1, V.h4, w1, w2, v1, v2]
    simp only [Option.bind_some, if_neg (nI_ge hp (by omega)), nI_1]
    by_cases c1 : nI w = 0
    · rw [ifn c1, if_pos c1]
      rcases h4 with ⟨rfl, rfl⟩ | ⟨q, u, q1, q2, rfl, rfl, q3⟩
      · have z : ¬ nI v ≤ -1 := by
          intro z
          exact absurd (Int32.le_trans (nI_pos' (n := v) (by omega)) z) (by decide)
        rw [if_neg z, if_pos rfl]
        exact ih (p + 1) f f' _ _ (by omega) (by omega) (by omega) (Or.inr ⟨p, v, hp, v3, rfl, rfl, v2⟩)
      · rw [if_neg (pu_m1 (n := q) (by omega)), q3]
        simp only [Option.bind_some]
        by_cases c2 : nI v ≤ nI u
        · rw [if_pos c2, if_pos c2]
          exact ih (p + 1) f f' _ _ (by omega) (by omega) (by omega) (Or.inr ⟨q, u, q1, q2, rfl, rfl, q3⟩)
        · rw [if_neg c2, if_neg c2]
          exact ih (p + 1) f f' _ _ (by omega) (by omega) (by omega) (Or.inr ⟨p, v, hp, v3, rfl, rfl, v2⟩)
    · rw [if_pos c1, if_neg c1]
      exact ih (p + 1) f f' _ _ (by omega) (by omega) (by omega) h4
theorem sim_46 : Sim_46 Inv := by
  intro a1 k g I
  have h : ∃ v, F_K_loosest 3000 a1 (k 0) (k 9) (k 10) (k 11) = some v ∧ F_Mo_loosest 3000 a1 g = some v := by
    unfold F_K_loosest F_Mo_loosest F_Surv_loosestPlace
    rcases i_box I a1 with ⟨B, R, H, D, K, n, o, j, J, h1, h2, h3, h4⟩ | ⟨h3, h4⟩
    · subst h2
      rw [h3, h4, if_neg pu_10, if_pos pu_10]
      have hP := J.2.2.1.pp
      obtain ⟨v, v1, v2⟩ := loosest_L (N := 3000) (N' := 3000) J.2.2.1 J.2.2.2.1 h1 (by omega) (by omega) (plN B R H D) 0 3000 3000 (-1) (-1) (by omega) (by omega) (by omega) (Or.inl ⟨rfl, rfl⟩)
      rw [show nI 0 = 0 from rfl] at v1 v2
      rw [v1, v2]
      exact ⟨_, rfl, rfl⟩
    · rw [h3, h4]
      exact ⟨-2, rfl, rfl⟩
  obtain ⟨v, h1, h2⟩ := h
  refine ⟨3000, 3000, v, k, g, ?_, ?_, I⟩
  · unfold KO_46; rw [h1]; rfl
  · unfold MO_46; rw [h2]; rfl
end ASK5
