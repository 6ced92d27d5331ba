/-! ===== pure: more calls that ask ===== -/
section ASK2
variable {k : KS} {g : HH} {hh hr hc : HH} {B R H D K n o N N' : Nat}
theorem K_rows (V : VS hh hr hc g B R H D K n o) {p q : Nat} (hp : p < plN B R H D) (hq : q < plN B R H D) : F_Hull_rowsApart (nI p) (nI q) hh = nI (adist (p / (H + D) % R) (q / (H + D) % R)) := by
  have hP := V.pp
  have r1 := V.1.rl p
  have r2 := V.1.rl q
  have hR : R ≤ 4 := V.1.2.2.2.2.1
  unfold F_Hull_rowsApart
  rw [pu_rd _ (by omega) (by omega), pu_rd _ (by omega) (by omega), (V.2.2.1.2.1 p hp).2.1, (V.2.2.1.2.1 q hq).2.1, pu_abs (by omega) (by omega)]
theorem K_bays (V : VS hh hr hc g B R H D K n o) {p q : Nat} (hp : p < plN B R H D) (hq : q < plN B R H D) : F_Hull_baysApart (nI p) (nI q) hh = nI (adist (p / (H + D) / R) (q / (H + D) / R)) := by
  have hP := V.pp
  have r1 := V.1.bl hp
  have r2 := V.1.bl hq
  have hB : B ≤ 6 := V.1.2.2.1
  unfold F_Hull_baysApart
  rw [pu_rd _ (by omega) (by omega), pu_rd _ (by omega) (by omega), (V.2.2.1.2.1 p hp).1, (V.2.2.1.2.1 q hq).1, pu_abs (by omega) (by omega)]
theorem K_tiersA (V : VS hh hr hc g B R H D K n o) {p q : Nat} (hp : p < plN B R H D) (hq : q < plN B R H D) : F_Hull_tiersApart (nI p) (nI q) hh = nI (adist (p % (H + D)) (q % (H + D))) := by
  have hP := V.pp
  have r1 := V.1.md p
  have r2 := V.1.md q
  have hH3 : H ≤ 3 := V.1.2.2.2.2.2.1
  have hD3 : D ≤ 3 := V.1.2.2.2.2.2.2.1
  unfold F_Hull_tiersApart
  rw [K_tier V hp, K_tier V hq, pu_abs (by omega) (by omega)]
theorem K_shutA (V : VS hh hr hc g B R H D K n o) {p q : Nat} (hp : p < plN B R H D) (hq : q < plN B R H D) : F_Hull_shutBetween (nI p) (nI q) hh = nI (adist (shutS g o (p / (H + D) / R)) (shutS g o (q / (H + D) / R))) := by
  have hP := V.pp
  have r1 := V.1.bl hp
  have r2 := V.1.bl hq
  have hB : B ≤ 6 := V.1.2.2.1
  have s1 := shutS_le g o (p / (H + D) / R)
  have s2 := shutS_le g o (q / (H + D) / R)
  unfold F_Hull_shutBetween F_Hull_bayAt
  rw [pu_rd (n := 144) _ (by omega) (by omega), pu_rd (n := 144) _ (by omega) (by omega), (V.2.2.1.2.1 p hp).1, (V.2.2.1.2.1 q hq).1, pu_rd _ (by omega) (by omega), pu_rd _ (by omega) (by omega), (V.2.2.1.2.2 _ (by omega)).2, (V.2.2.1.2.2 _ (by omega)).2, pu_abs (by omega) (by omega)]
theorem K_hatch (V : VS hh hr hc g B R H D K n o) {p q : Nat} (hp : p < plN B R H D) (hq : q < plN B R H D) : F_Hull_hatchBetween (nI p) (nI q) hh = if deckS H D p = deckS H D q then 0 else 1 := by
  unfold F_Hull_hatchBetween
  rw [K_deck V hp, K_deck V hq]
theorem Mo_between2 (V : VS hh hr hc g B R H D K n o) (ho : g 0 11 = nI o) {p q : Nat} (hp : p < plN B R H D) (hq : q < plN B R H D) (hN : 10 ≤ N) : F_Mo_betweenOf N (nI p) (nI q) 2 g = some (nI (adist (shutS g o (p / (H + D) / R)) (shutS g o (q / (H + D) / R)))) := by
  unfold F_Mo_betweenOf
  rw [if_neg (by decide), if_neg (by decide), if_pos rfl, ho, Mo_shut V.1 V.2.1 hp hq hN]
  rfl
theorem Mo_between3 (V : VS hh hr hc g B R H D K n o) {p q : Nat} (hp : p < plN B R H D) (hq : q < plN B R H D) : F_Mo_betweenOf N (nI p) (nI q) 3 g = some (if deckS H D p = deckS H D q then 0 else 1) := by
  have hP := V.pp
  unfold F_Mo_betweenOf
  rw [if_neg (by decide), if_neg (by decide), if_neg (by decide), Mo_deck V.1 (by omega), Mo_deck V.1 (by omega)]
  simp only [Option.bind_some]
  split <;> rfl
theorem sim_11 : Sim_11 Inv := by
  intro a1 a2 a3 k g I
  have h : ∃ v, some (F_K_between a1 a2 a3 (k 0) (k 9)) = some v ∧ F_Mo_between 3000 a1 a2 a3 g = some v := by
    unfold F_K_between F_Mo_between
    rw [show (3 : Int64) = (3 : Int32).toInt64 from rfl, pu_in0]
    rcases i_place (N := 3000) I a1 with ⟨B, R, H, D, K, n, o, p, J, h1, h2, h3, h4⟩ | ⟨h3, h4⟩
    · rw [h3, h4, if_neg pu_10]
      simp only [Option.bind_some, if_neg pu_10]
      rcases a_place (N := 3000) J a2 with ⟨q, q1, q2, q3, q4⟩ | ⟨q3, q4⟩
      · rw [q3, q4, if_pos pu_10]
        simp only [Option.bind_some, if_neg pu_10]
        subst h2 q2
        have V := J.2.2.1
        rw [K_rows V h1 q1, K_bays V h1 q1, K_shutA V h1 q1, K_hatch V h1 q1]
        rcases pu_wc a3 0 3 (by omega) (by omega) with ⟨i, i1, i2, i3, i4⟩ | ⟨i1, i2⟩
        · rw [show nI 0 = 0 from rfl, show nI 3 = 3 from rfl] at i4
          rw [i4, if_neg pu_10]
          subst i3
          have : i = 0 ∨ i = 1 ∨ i = 2 ∨ i = 3 := by omega
          rcases this with rfl | rfl | rfl | rfl
          · rw [show nI 0 = 0 from rfl, Mo_between0 V.1 h1 q1]
            exact ⟨_, rfl, rfl⟩
          · rw [show nI 1 = 1 from rfl, Mo_between1 V.1 h1 q1]
            exact ⟨_, rfl, rfl⟩
          · rw [show nI 2 = 2 from rfl, Mo_between2 V J.2.2.2.1 h1 q1 (by omega)]
            exact ⟨_, rfl, rfl⟩
          · rw [show nI 3 = 3 from rfl, Mo_between3 V h1 q1]
            by_cases c : deckS H D p = deckS H D q
            · rw [if_pos c]; exact ⟨_, rfl, rfl⟩
            · rw [if_neg c]; exact ⟨_, rfl, rfl⟩
        · rw [show nI 0 = 0 from rfl, show nI 3 = 3 from rfl] at i2
          have z0 : ¬ a3 = 0 := i1 0 (by omega) (by omega)
          have z1 : ¬ a3 = 1 := i1 1 (by omega) (by omega)
          have z2 : ¬ a3 = 2 := i1 2 (by omega) (by omega)
          have z3 : ¬ a3 = 3 := i1 3 (by omega) (by omega)
          rw [i2]
          refine ⟨-2, ?_, rfl⟩
          rw [if_neg z0, if_neg z1, if_neg z2, if_neg z3]
      · rw [q3, q4]
        exact ⟨-2, rfl, rfl⟩
    · rw [h3, h4]
      exact ⟨-2, rfl, rfl⟩
  obtain ⟨v, h1, h2⟩ := h
  refine ⟨3000, 3000, v, k, g, ?_, ?_, I⟩
  · unfold KO_11; rw [h1]; rfl
  · unfold MO_11; rw [h2]; rfl
theorem sim_12 : Sim_12 Inv := by
  intro a1 a2 a3 k g I
  have h : ∃ v, some (F_K_far a1 a2 a3 (k 0) (k 9) (k 10)) = some v ∧ F_Mo_far 3000 a1 a2 a3 g = some v := by
    unfold F_K_far F_Mo_far
    rcases i_place (N := 3000) I a1 with ⟨B, R, H, D, K, n, o, p, J, h1, h2, h3, h4⟩ | ⟨h3, h4⟩
    · rw [h3, h4, if_neg pu_10]
      simp only [Option.bind_some, if_neg pu_10]
      rcases a_place (N := 3000) J a2 with ⟨q, q1, q2, q3, q4⟩ | ⟨q3, q4⟩
      · rw [q3, q4, if_neg pu_10]
        simp only [Option.bind_some, if_neg pu_10]
        rcases a_level (N := 3000) J a3 with ⟨l, l1, l2, l3, l4⟩ | ⟨l3, l4⟩
        · subst h2 q2 l2
          have V := J.2.2.1
          rw [l3, l4, if_pos pu_10, K_far V.1 V.2.2.1 V.2.2.2.1 h1 q1 l1, J.2.2.2.1, Mo_far V.1 V.2.1 h1 q1 l1.2.1 (by omega)]
          simp only [Option.bind_some, if_neg pu_10]
          rcases farS_01 (g := g) (o := o) (R := R) (H := H) (D := D) p q l with f | f
          · rw [f]; exact ⟨_, rfl, rfl⟩
          · rw [f]; exact ⟨_, rfl, rfl⟩
        · rw [l3, l4]
          exact ⟨-2, rfl, rfl⟩
      · rw [q3, q4]
        exact ⟨-2, rfl, rfl⟩
    · rw [h3, h4]
      exact ⟨-2, rfl, rfl⟩
  obtain ⟨v, h1, h2⟩ := h
  refine ⟨3000, 3000, v, k, g, ?_, ?_, I⟩
  · unfold KO_12; rw [h1]; rfl
  · unfold MO_12; rw [h2]; rfl
theorem lying_L (V : VS hh hr hc g B R H D K n o) : ∀ (m j f f' : Nat) (c : Nat), j + m = n → m < f → m < f' → ∃ v, L_Cargo_countLying_4 N f (nI c) (nI j) hc = some (nI v) ∧ L_Mo_lyingMany_4 N' f' (nI c) (nI j) g = some (nI v) ∧ v ≤ c + m ∧ ((v = c) ↔ ∀ i, j ≤ i → i < n → g 7 i = -1) ∧ c ≤ v := by
  intro m
  have hn := V.nn
  induction m with
  | zero =>
    intro j f f' c h1 h2 h3
    obtain ⟨f, rfl⟩ : ∃ z, f = z + 1 := ⟨f - 1, by omega⟩
    obtain ⟨f', rfl⟩ : ∃ z, f' = z + 1 := ⟨f' - 1, by omega⟩
    have : j = n := by omega
    subst this
    unfold L_Cargo_countLying_4 L_Mo_lyingMany_4
    rw [V.n6, V.h0, if_pos (Int32.le_refl _), if_pos (Int32.le_refl _)]
    exact ⟨c, rfl, rfl, by omega, ⟨fun _ i h1 h2 => by omega, fun _ => rfl⟩, by omega⟩
  | succ m ih =>
    intro j f f' c h1 h2 h3
    obtain ⟨f, rfl⟩ : ∃ z, f = z + 1 := ⟨f - 1, by omega⟩
    obtain ⟨f', rfl⟩ : ∃ z, f' = z + 1 := ⟨f' - 1, by omega⟩
    have hj : j < n := by omega
    unfold L_Cargo_countLying_4 L_Mo_lyingMany_4
    have e0 : nI c + 0 = nI c := Int32.add_zero _
    rw [V.n6, V.h0, if_neg (nI_ge hj (by omega)), if_neg (nI_ge hj (by omega)), V.lies hj, if_pos (pu_in (by omega) (by omega)), nI_clamp (by omega), e0, nI_1, nI_1]
    by_cases q : g 7 j = -1
    · rw [if_pos q, if_pos q, if_pos rfl]
      obtain ⟨v, v1, v2, v3, v4, v5⟩ := ih (j + 1) f f' c (by omega) (by omega) (by omega)
      refine ⟨v, v1, v2, by omega, v4.trans ⟨fun z i i1 i2 => ?_, fun z i i1 i2 => z i (by omega) i2⟩, v5⟩
      rcases Nat.lt_or_ge j i with w | w
      · exact z i w i2
      · have : i = j := by omega
        subst this; exact q
    · rw [if_neg q, if_neg q, if_neg pu_10]
      obtain ⟨v, v1, v2, v3, v4, v5⟩ := ih (j + 1) f f' (c + 1) (by omega) (by omega) (by omega)
      refine ⟨v, v1, v2, by omega, ⟨fun z => by omega, fun z => absurd (z j (by omega) hj) q⟩, by omega⟩
theorem lying_eq (V : VS hh hr hc g B R H D K n o) (hN : 30 ≤ N) (hN' : 30 ≤ N') : ∃ v, F_Cargo_countLying N hc = some (nI v) ∧ F_Mo_lyingMany N' g = some (nI v) ∧ v ≤ 24 ∧ (v = 0 ↔ ∀ i, i < n → g 7 i = -1) := by
  have hn := V.nn
  obtain ⟨v, v1, v2, v3, v4, v5⟩ := lying_L (N := N) (N' := N') V n 0 N N' 0 (by omega) (by omega) (by omega)
  rw [show nI 0 = 0 from rfl] at v1 v2
  unfold F_Cargo_countLying F_Mo_lyingMany
  rw [v1, v2]
  exact ⟨v, rfl, rfl, by omega, v4.trans ⟨fun z i i2 => z i (by omega) i2, fun z i _ i2 => z i i2⟩⟩
theorem sim_4 : Sim_4 Inv := by
  intro a1 k g I
  have h : ∃ v, F_K_count 3000 a1 (k 0) (k 1) (k 5) (k 7) (k 9) (k 10) (k 11) = some v ∧ F_Mo_count 3000 a1 g = some v := by
    obtain ⟨s, s1, s2, s3, -⟩ := I.1.1
    obtain ⟨t, t1, t2, t3, -⟩ := I.1.2.2
    have hM : ∀ i, i < 12 → a1 = nI i → F_Mo_count 3000 a1 g = (if i = 6 then F_Mo_lyingMany 3000 g else some (if i < 4 then g 1 i else if i = 4 then g 1 6 else if i = 5 then g 0 6 else if i = 7 then g 1 4 else if i = 8 then g 1 5 else if i = 9 then g 0 22 else if i = 10 then g 0 14 else g 0 46)) := by
      intro i hi ha
      subst ha
      have : i = 0 ∨ i = 1 ∨ i = 2 ∨ i = 3 ∨ i = 4 ∨ i = 5 ∨ i = 6 ∨ i = 7 ∨ i = 8 ∨ i = 9 ∨ i = 10 ∨ i = 11 := by omega
      rcases this with rfl | rfl | rfl | rfl | rfl | rfl | rfl | rfl | rfl | rfl | rfl | rfl
      case inr.inr.inr.inr.inr.inr.inl =>
        show Option.bind (F_Mo_lyingMany 3000 g) (fun v28 => some v28) = F_Mo_lyingMany 3000 g
        cases F_Mo_lyingMany 3000 g <;> rfl
      all_goals rfl
    rcases pu_wc a1 0 11 (by omega) (by omega) with ⟨i, i1, i2, i3, i4⟩ | ⟨i1, i2⟩
    · rw [hM i (by omega) i3]
      unfold F_K_count
      by_cases c10 : i = 10
      · subst c10; subst i3
        rw [if_neg (by decide), s2, if_neg (by decide)]
        exact ⟨_, rfl, by rw [← s3]; rfl⟩
      by_cases c11 : i = 11
      · subst c11; subst i3
        rw [if_pos (by decide), if_neg (by decide), t2, if_neg (by decide)]
        exact ⟨_, rfl, by rw [← t3]; rfl⟩
      have w : F_K_within a1 0 9 = 1 := by
        subst i3
        have := w_yes (a := i) (n := 10) (by omega) (by omega)
        exact this
      have n10 : ¬ a1 = 10 := by subst i3; exact fun z => c10 ((nI_eq (by omega) (by omega)).mp z)
      have n11 : ¬ a1 = 11 := by subst i3; exact fun z => c11 ((nI_eq (by omega) (by omega)).mp z)
      rw [if_pos n10, if_pos n11, w, if_pos pu_10]
      have : i = 0 ∨ i = 1 ∨ i = 2 ∨ i = 3 ∨ i = 4 ∨ i = 5 ∨ i = 6 ∨ i = 7 ∨ i = 8 ∨ i = 9 := by omega
      rcases I.2 with J | ⟨B, R, H, D, K, n, o, J⟩
      · rw [J.1, if_pos rfl]
        have hl : F_Mo_lyingMany 3000 g = some 0 := by
          unfold F_Mo_lyingMany L_Mo_lyingMany_4
          rw [J.2.2.2.1]
          rfl
        refine ⟨0, rfl, ?_⟩
        rcases this with rfl | rfl | rfl | rfl | rfl | rfl | rfl | rfl | rfl | rfl
        case inr.inr.inr.inr.inr.inr.inl => exact hl
        case inr.inr.inr.inr.inr.inl => exact congrArg some J.2.2.2.1
        case inr.inr.inr.inr.inr.inr.inr.inr.inr => exact congrArg some J.2.2.2.2.1
        all_goals exact congrArg some (J.2.2.1 _ (by omega))
      · rw [J.1, if_neg pu_10]
        have V := J.2.2.1
        obtain ⟨s, t, M, -, -, y1, -, y2, -⟩ := J.2.2.2.2.2.1
        obtain ⟨v, v1, v2, -⟩ := lying_eq (N := 3000) (N' := 3000) V (by omega) (by omega)
        subst i3
        unfold F_K_countAboard
        rw [v1, v2, y1, y2, V.2.2.1.1.1, V.2.2.1.1.2.1, V.2.2.1.1.2.2.1, V.2.2.1.1.2.2.2.1, V.2.2.1.1.2.2.2.2.2.1, V.2.2.1.1.2.2.2.2.2.2, V.2.2.2.1.1.1, V.h0, V.n6, V.2.2.2.1.1.2.1]
        rcases this with rfl | rfl | rfl | rfl | rfl | rfl | rfl | rfl | rfl | rfl
        · exact ⟨_, rfl, congrArg some V.1.1.1⟩
        · exact ⟨_, rfl, congrArg some V.1.1.2.1⟩
        · exact ⟨_, rfl, congrArg some V.1.1.2.2.1⟩
        · exact ⟨_, rfl, congrArg some V.1.1.2.2.2⟩
        all_goals exact ⟨_, rfl, rfl⟩
    · have z : ∀ j, j < 12 → ¬ a1 = nI j := fun j hj => i1 j (by omega) (by omega)
      unfold F_K_count F_Mo_count
      have w : F_K_within a1 0 9 = 0 := by
        rcases pu_wc a1 0 9 (by omega) (by omega) with ⟨i, j1, j2, j3, j4⟩ | ⟨j1, j2⟩
        · exact absurd j3 (z i (by omega))
        · exact j2
      rw [w]
      have z0 : ¬ a1 = 0 := z 0 (by omega)
      have z1 : ¬ a1 = 1 := z 1 (by omega)
      have z2 : ¬ a1 = 2 := z 2 (by omega)
      have z3 : ¬ a1 = 3 := z 3 (by omega)
      have z4 : ¬ a1 = 4 := z 4 (by omega)
      have z5 : ¬ a1 = 5 := z 5 (by omega)
      have z6 : ¬ a1 = 6 := z 6 (by omega)
      have z7 : ¬ a1 = 7 := z 7 (by omega)
      have z8 : ¬ a1 = 8 := z 8 (by omega)
      have z9 : ¬ a1 = 9 := z 9 (by omega)
      have z10 : ¬ a1 = 10 := z 10 (by omega)
      have z11 : ¬ a1 = 11 := z 11 (by omega)
      refine ⟨-1, ?_, ?_⟩
      · rw [if_pos z10, if_pos z11]; rfl
      · rw [if_neg z0, if_neg z1, if_neg z2, if_neg z3, if_neg z4, if_neg z5, if_neg z6, if_neg z7, if_neg z8, if_neg z9, if_neg z10, if_neg z11]
  obtain ⟨v, h1, h2⟩ := h
  refine ⟨3000, 3000, v, k, g, ?_, ?_, I⟩
  · unfold KO_4; rw [h1]; rfl
  · unfold MO_4; rw [h2]; rfl
end ASK2
