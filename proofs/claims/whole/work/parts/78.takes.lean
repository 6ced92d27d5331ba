/-! ===== pure: takes ===== -/
section TAKES
variable {k k' : KS} {g g' g2 : HH} {hy hv hh hr hc hc2 hp hl hl' : HH} {B R H D K n o N N' t w lim : Nat} {L : Nat → Nat}
def TwR (hl g : HH) (P : Nat) : Prop := ∀ b, b < 24 → (g 14 b = 0 ∧ hl 1 b = -6) ∨ (g 14 b = 1 ∧ hl 1 b = g 15 b ∧ (g 15 b = -1 ∨ ∃ p, p < P ∧ g 15 b = nI p))
/-- whether a box is taken, by both -/
theorem take_eq (V : VS hh hr hc g B R H D K n o) (ho : g 0 11 = nI o) (T : TwR hl g (plN B R H D)) {b : Nat} (hb : b < n) (hN : 30 ≤ N) (hN' : 30 ≤ N') {α : Type} (x y : Option α) : (∃ p, p < plN B R H D ∧ g 15 b = nI p ∧ rd 24 (hl 1) (nI b) = nI p ∧ g 7 b = -1 ∧ g 8 p = -1 ∧ (p ≠ lowS H D p → g 8 (p - 1) ≠ -1 ∧ g 8 (p - 1) ≠ nI b) ∧ F_Mo_canTake N' (nI b) g = some 1 ∧ (if rd 24 (hl 1) (nI b) < 0 then x else if ¬ F_Cargo_lies (nI b) hc = 0 then x else Option.bind (F_Ves_whyNot N (nI b) (rd 24 (hl 1) (nI b)) hh hr hc) fun v4 => if ¬ v4 = 0 then x else y) = y) ∨ (F_Mo_canTake N' (nI b) g = some 0 ∧ (if rd 24 (hl 1) (nI b) < 0 then x else if ¬ F_Cargo_lies (nI b) hc = 0 then x else Option.bind (F_Ves_whyNot N (nI b) (rd 24 (hl 1) (nI b)) hh hr hc) fun v4 => if ¬ v4 = 0 then x else y) = x) := by
  have hn := V.nn
  have hP := V.pp
  have ib : sv_in (nI b) 24 := pu_in (by omega) (by omega)
  rw [pu_rd _ (by omega) (by omega), V.lies hb]
  unfold F_Mo_canTake
  simp only [if_pos ib]
  rw [nI_clamp (by omega)]
  rcases T b (by omega) with ⟨t1, t2⟩ | ⟨t1, t2, t3⟩
  · right
    rw [t1, t2, if_pos rfl, if_pos (by decide)]
    exact ⟨rfl, rfl⟩
  · rw [t1, t2, if_neg pu_10]
    rcases t3 with t3 | ⟨p, p1, p2⟩
    · right
      rw [t3, if_pos rfl, if_pos (by decide)]
      exact ⟨rfl, rfl⟩
    · rw [p2, if_neg (pu_m1 (by omega)), if_neg (nI_pos (by omega))]
      by_cases c : g 7 b = -1
      · obtain ⟨v, v1, v2, v3, v4⟩ := whyBox_eq (N := N) (N' := N') V ho hb p1 hN hN'
        have v0 : nI v = 0 ↔ v = 0 := nI_eq (a := v) (b := 0) (by omega) (by omega)
        rw [ifn c, if_pos c, ife0, v1, v2, bind_sn, bind_sn]
        by_cases cv : v = 0
        · subst cv
          obtain ⟨v5, v6⟩ := v4 rfl
          left
          rw [show nI 0 = 0 from rfl, ife0, ife0]
          exact ⟨p, p1, rfl, rfl, c, v5, v6, rfl, rfl⟩
        · right
          have z : ¬ nI v = 0 := fun z => cv (v0.mp z)
          rw [if_pos z, if_pos z]
          exact ⟨rfl, rfl⟩
      · right
        rw [if_pos c, if_neg c, if_pos pu_10]
        exact ⟨rfl, rfl⟩
theorem take_u (hl hc : HH) (f : Nat) (x2 x3 : Int32) : L_Load_doTold_4 N (f + 1) x2 x3 hl hh hr hc = (if (hc 0 0) ≤ x3 then (some (x2, hc)) else (if (rd 24 (hl 1) x3) < 0 then (L_Load_doTold_4 N f x2 (x3 + 1) hl hh hr hc) else (if ¬ (F_Cargo_lies x3 hc) = 0 then (L_Load_doTold_4 N f x2 (x3 + 1) hl hh hr hc) else (Option.bind (F_Ves_whyNot N x3 (rd 24 (hl 1) x3) hh hr hc) fun v4 => (if ¬ v4 = 0 then (L_Load_doTold_4 N f x2 (x3 + 1) hl hh hr hc) else L_Load_doTold_4 N f (x2 + 1) (x3 + 1) hl hh hr (F_Cargo_move x3 (rd 24 (hl 1) x3) hc)))))) := by
  rw [L_Load_doTold_4]
  simp only [pu_letn]
/-- once one is taken -/
theorem take_2 (hN : 30 ≤ N) (hN' : 30 ≤ N') : ∀ (m j f f' c : Nat) (hc g : HH), VS hh hr hc g B R H D K n o → g 0 11 = nI o → TwR hl g (plN B R H D) → 1 ≤ c → c + m ≤ 100 → j + m = n → m < f → m < f' → ∃ c' hc' g', L_Load_doTold_4 N f (nI c) (nI j) hl hh hr hc = some (nI c', hc') ∧ L_Mo_takes_24 N' f' (nI c) (nI j) g = some (nI c', g') ∧ c ≤ c' ∧ c' ≤ 100 ∧ VS hh hr hc' g' B R H D K n o ∧ (∀ r, r ≠ 7 → r ≠ 8 → g' r = g r) ∧ (NoH g H D (plN B R H D) → NoH g' H D (plN B R H D)) := by
  intro m
  induction m with
  | zero =>
    intro j f f' c hc g V ho T h0 h00 h1 h2 h3
    obtain ⟨f, rfl⟩ : ∃ z, f = z + 1 := ⟨f - 1, by omega⟩
    obtain ⟨f', rfl⟩ : ∃ z, f' = z + 1 := ⟨f' - 1, by omega⟩
    have : j = n := by omega
    subst this
    rw [take_u, L_Mo_takes_24, V.n6, V.h0, if_pos (Int32.le_refl _), if_pos (Int32.le_refl _)]
    exact ⟨c, hc, g, rfl, rfl, by omega, by omega, V, fun _ _ _ => rfl, fun h => h⟩
  | succ m ih =>
    intro j f f' c hc g V ho T h0 h00 h1 h2 h3
    obtain ⟨f, rfl⟩ : ∃ z, f = z + 1 := ⟨f - 1, by omega⟩
    obtain ⟨f', rfl⟩ : ∃ z, f' = z + 1 := ⟨f' - 1, by omega⟩
    have hj : j < n := by omega
    have hn := V.nn
    have hP := V.pp
    have ij : sv_in (nI j) 24 := pu_in (by omega) (by omega)
    have cz : ¬ nI c = 0 := nI_ne0 (by omega) (by omega)
    rw [take_u, L_Mo_takes_24, V.n6, V.h0, if_neg (nI_ge hj (by omega)), if_neg (nI_ge hj (by omega)), nI_1, nI_1]
    rcases take_eq (N := N) (N' := N') (hl := hl) V ho T hj hN hN' (L_Load_doTold_4 N f (nI c) (nI (j + 1)) hl hh hr hc) (L_Load_doTold_4 N f (nI (c + 1)) (nI (j + 1)) hl hh hr (F_Cargo_move (nI j) (rd 24 (hl 1) (nI j)) hc)) with ⟨p, p1, p2, p3, p4, p5, p6, p7, p8⟩ | ⟨p7, p8⟩
    · rw [p8, p7, bind_sn, if_pos pu_10, if_pos cz, bind_sn, if_pos ij, nI_clamp (by omega), p2, p3]
      have hpf : ∀ c, c < n → c ≠ j → g 7 c ≠ nI p := by
        intro x hx _ y
        rcases V.plc hx with u | ⟨r, hr', u, u2⟩
        · rw [u] at y; exact absurd y (pu_m1' (by omega))
        · rw [u] at y
          have := (nI_eq (by omega) (by omega)).mp y
          subst this
          rw [p5] at u2; exact absurd u2 (pu_m1' (by omega))
      obtain ⟨g1, b1, V1, b2, b3, b4⟩ := lay (N := N') V hj (v := nI p) (Or.inr ⟨p, p1, rfl, hpf⟩)
      rw [b1, bind_sn]
      obtain ⟨c', hc', g', i1, i2, i3, i3', i4, i5, i6⟩ := ih (j + 1) f f' (c + 1) _ g1 V1 (by rw [b2 0 (by omega) (by omega)]; exact ho) (by unfold TwR; rw [b2 14 (by omega) (by omega), b2 15 (by omega) (by omega)]; exact T) (by omega) (by omega) (by omega) (by omega) (by omega)
      refine ⟨c', hc', g', i1, i2, by omega, i3', i4, fun r r7 r8 => by rw [i5 r r7 r8, b2 r r7 r8], ?_⟩
      intro h
      apply i6
      refine NoH_mv V h hj ?_ (Or.inr ⟨p, p1, rfl, p6⟩) b4
      unfold pinS; rw [p4]; simp
    · rw [p8, p7, bind_sn, ife0]
      exact ih (j + 1) f f' c hc g V ho T h0 (by omega) (by omega) (by omega) (by omega)
/-- before one is taken -/
theorem take_1 (hN : 1200 ≤ N) (hN' : 1200 ≤ N') : ∀ (m j f f' : Nat), VS hh hr hc g B R H D K n o → g 0 11 = nI o → TwR hl g (plN B R H D) → NoH g H D (plN B R H D) → HiR hy g H D (plN B R H D) n → j + m = n → m < f → m < f' → (L_Load_doTold_4 N f 0 (nI j) hl hh hr hc = some (0, hc) ∧ L_Mo_takes_24 N' f' 0 (nI j) g = some (0, g)) ∨ ∃ c' hc' hy1 g1 g', L_Load_doTold_4 N f 0 (nI j) hl hh hr hc = some (nI c', hc') ∧ L_Mo_takes_24 N' f' 0 (nI j) g = some (nI c', g') ∧ 1 ≤ c' ∧ c' ≤ 100 ∧ VS hh hr hc' g' B R H D K n o ∧ F_Hist_mark N hy hh hc = some hy1 ∧ HiR (F_Hist_keep hy1) g1 H D (plN B R H D) n ∧ (∀ r, r ≠ 0 → r ≠ 10 → g1 r = g r) ∧ (∀ i, i ≠ 22 → g1 0 i = g 0 i) ∧ (∀ r, r ≠ 7 → r ≠ 8 → g' r = g1 r) ∧ NoH g' H D (plN B R H D) := by
  intro m
  induction m with
  | zero =>
    intro j f f' V ho T h0 hi h1 h2 h3
    obtain ⟨f, rfl⟩ : ∃ z, f = z + 1 := ⟨f - 1, by omega⟩
    obtain ⟨f', rfl⟩ : ∃ z, f' = z + 1 := ⟨f' - 1, by omega⟩
    have : j = n := by omega
    subst this
    left
    rw [take_u, L_Mo_takes_24, V.n6, V.h0, if_pos (Int32.le_refl _), if_pos (Int32.le_refl _)]
    exact ⟨rfl, rfl⟩
  | succ m ih =>
    intro j f f' V ho T h0 hi h1 h2 h3
    obtain ⟨f, rfl⟩ : ∃ z, f = z + 1 := ⟨f - 1, by omega⟩
    obtain ⟨f', rfl⟩ : ∃ z, f' = z + 1 := ⟨f' - 1, by omega⟩
    have hj : j < n := by omega
    have hn := V.nn
    have hP := V.pp
    have ij : sv_in (nI j) 24 := pu_in (by omega) (by omega)
    rw [take_u, L_Mo_takes_24, V.n6, V.h0, if_neg (nI_ge hj (by omega)), if_neg (nI_ge hj (by omega)), nI_1]
    rcases take_eq (N := N) (N' := N') (hl := hl) V ho T hj (by omega) (by omega) (L_Load_doTold_4 N f 0 (nI (j + 1)) hl hh hr hc) (L_Load_doTold_4 N f (0 + 1) (nI (j + 1)) hl hh hr (F_Cargo_move (nI j) (rd 24 (hl 1) (nI j)) hc)) with ⟨p, p1, p2, p3, p4, p5, p6, p7, p8⟩ | ⟨p7, p8⟩
    · right
      obtain ⟨hy1, g1, a1, a2, a3, a4, a5, a6⟩ := act_ok (N := N) (N' := N') V ho h0 hi hN hN'
      have V1 : VS hh hr hc g1 B R H D K n o := V.cg (a5 1 (by omega) (by omega)) (a6 6 (by omega)) (a5 4 (by omega) (by omega)) (a5 5 (by omega) (by omega)) (a5 6 (by omega) (by omega)) (a5 7 (by omega) (by omega)) (a5 8 (by omega) (by omega))
      have hpf : ∀ c, c < n → c ≠ j → g1 7 c ≠ nI p := by
        intro x hx _ y
        rw [a5 7 (by omega) (by omega)] at y
        rcases V.plc hx with u | ⟨r, hr', u, u2⟩
        · rw [u] at y; exact absurd y (pu_m1' (by omega))
        · rw [u] at y
          have := (nI_eq (by omega) (by omega)).mp y
          subst this
          rw [p5] at u2; exact absurd u2 (pu_m1' (by omega))
      obtain ⟨g2, b1, V2, b2, b3, b4⟩ := lay (N := N') V1 hj (v := nI p) (Or.inr ⟨p, p1, rfl, hpf⟩)
      rw [p8, p7, bind_sn, if_pos pu_10, ife0, a2, bind_sn, bind_sn, if_pos ij, nI_clamp (by omega), a5 15 (by omega) (by omega), p2, p3, b1, bind_sn]
      obtain ⟨c', hc', g', i1, i2, i3, i3', i4, i5, i6⟩ := take_2 (N := N) (N' := N') (hl := hl) (by omega) (by omega) m (j + 1) f f' 1 _ g2 V2 (by rw [b2 0 (by omega) (by omega), a6 11 (by omega)]; exact ho) (by unfold TwR; rw [b2 14 (by omega) (by omega), b2 15 (by omega) (by omega), a5 14 (by omega) (by omega), a5 15 (by omega) (by omega)]; exact T) (by omega) (by omega) (by omega) (by omega) (by omega)
      have h01 : (0 : Int32) + 1 = nI 1 := by decide
      rw [h01]
      refine ⟨c', hc', hy1, g1, g', i1, i2, i3, i3', i4, a1, a4, a5, a6, fun r r7 r8 => by rw [i5 r r7 r8, b2 r r7 r8], ?_⟩
      apply i6
      have h01 : NoH g1 H D (plN B R H D) := by unfold NoH; rw [a5 8 (by omega) (by omega)]; exact h0
      refine NoH_mv V1 h01 hj ?_ (Or.inr ⟨p, p1, rfl, ?_⟩) b4
      · unfold pinS; rw [a5 7 (by omega) (by omega), p4]; simp
      · rw [a5 8 (by omega) (by omega)]; exact p6
    · rw [p8, p7, bind_sn, ife0]
      exact ih (j + 1) f f' V ho T h0 hi (by omega) (by omega) (by omega)
theorem sim_31 : Sim_31 Inv := by
  intro k g I
  have same : ∀ v, F_K_takes 3000 (k 0) (k 1) (k 2) (k 9) (k 10) (k 11) = some (v, k 1, k 11) → F_Mo_takes 3000 g = some (v, g) → ∃ (N N' : Nat) (v : Int32) (k' : KS) (g' : HH), KO_31 N k = some (v, k') ∧ MO_31 N' g = some (v, g') ∧ Inv k' g' := by
    intro v h1 h2
    refine ⟨3000, 3000, v, k, g, ?_, ?_, I⟩
    · unfold KO_31; rw [h1]; show some (v, ku (ku k 1 (k 1)) 11 (k 11)) = _
      rw [ku_self, ku_self]
    · unfold MO_31; rw [h2]; rfl
  rcases i_there I with ⟨B, R, H, D, K, n, o, J, h1, h2⟩ | ⟨J, h1, h2⟩
  case inr =>
    refine same (-2) ?_ ?_
    · unfold F_K_takes; rw [h1]; rfl
    · unfold F_Mo_takes; rw [h2]; rfl
  have V := J.2.2.1
  have ho := J.2.2.2.1
  have hn := V.nn
  obtain ⟨t1, t2⟩ := J.2.2.2.2.2.2.1
  rcases t2 with t2 | ⟨t2, T⟩
  · refine same (-6) ?_ ?_
    · unfold F_K_takes; rw [h1, if_pos pu_10, t2]; rfl
    · unfold F_Mo_takes; rw [h2, if_pos pu_10, ← t1, t2]; rfl
  obtain ⟨hy0, gz, b1, -, b3, -, -, -⟩ := act_ok (N := 3000) (N' := 3000) V ho J.2.2.2.2.1 J.2.2.2.2.2.1 (by omega) (by omega)
  rcases take_1 (N := 3000) (N' := 3000) (hl := k 2) (hy := k 1) (by omega) (by omega) n 0 3000 3000 V ho T J.2.2.2.2.1 J.2.2.2.2.2.1 (by omega) (by omega) (by omega) with ⟨e1, e2⟩ | ⟨c', hc', hy1, g1, g', e1, e2, e3, e3', V', e5, e6, e7, e8, e9, e10⟩
  · rw [show nI 0 = 0 from rfl] at e1 e2
    refine ⟨3000, 3000, 0, ku (ku k 1 hy0) 11 (k 11), g, ?_, ?_, ?_, Or.inr ⟨B, R, H, D, K, n, o, InvA_g J V b3 J.2.2.2.2.1 rfl rfl rfl rfl rfl rfl rfl⟩⟩
    · unfold KO_31 F_K_takes F_Load_doTold
      rw [h1, if_pos pu_10, t2, if_pos pu_10, b1, bind_sn, e1, bind_sn, bind_sn]
      rfl
    · unfold MO_31 F_Mo_takes
      rw [h2, if_pos pu_10, ← t1, t2, if_pos pu_10, e2, bind_sn]
      rfl
    · refine InvB_c I.1 ?_ ?_ ?_ rfl rfl rfl rfl rfl rfl
      all_goals simp only [pu_ku]; rfl
  · rw [show nI 0 = 0 from rfl] at e1 e2
    have cl : ¬ nI c' ≤ 0 := nI_nle (by omega) (by omega)
    have g0 : ∀ i, i ≠ 22 → g' 0 i = g 0 i := fun i hi => by rw [e9 0 (by omega) (by omega), e8 i hi]
    have gr : ∀ r, r ≠ 0 → r ≠ 7 → r ≠ 8 → r ≠ 10 → g' r = g r := fun r r0 r7 r8 r10 => by rw [e9 r r7 r8, e7 r r0 r10]
    refine ⟨3000, 3000, nI c', ku (ku k 1 (F_Hist_keep hy1)) 11 hc', g', ?_, ?_, ?_, Or.inr ⟨B, R, H, D, K, n, o, ?_⟩⟩
    · unfold KO_31 F_K_takes F_Load_doTold
      rw [h1, if_pos pu_10, t2, if_pos pu_10, e5, bind_sn, e1, bind_sn, bind_sn]
      dsimp only
      rw [if_neg cl, pu_letn]
      rfl
    · unfold MO_31 F_Mo_takes
      rw [h2, if_pos pu_10, ← t1, t2, if_pos pu_10, e2, bind_sn]
      rfl
    · refine InvB_c I.1 ?_ ?_ ?_ (g0 _ (by omega)) (g0 _ (by omega)) (g0 _ (by omega)) (g0 _ (by omega)) (gr 9 (by omega) (by omega) (by omega) (by omega)) (gr 22 (by omega) (by omega) (by omega) (by omega))
      all_goals simp only [pu_ku]; rfl
    · refine InvA_g J V' (HiR_c hn e6 (Nat.le_refl _) ?_ ?_ ?_ ?_) e10 (g0 _ (by omega)) (g0 _ (by omega)) (g0 _ (by omega)) (g0 _ (by omega)) (gr 14 (by omega) (by omega) (by omega) (by omega)) (gr 15 (by omega) (by omega) (by omega) (by omega)) (gr 16 (by omega) (by omega) (by omega) (by omega))
      · rw [e9 0 (by omega) (by omega)]
      · rw [e9 10 (by omega) (by omega)]
      · rw [e9 1 (by omega) (by omega)]
      · intro c _; rw [e9 4 (by omega) (by omega), e9 5 (by omega) (by omega), e9 6 (by omega) (by omega)]; exact ⟨rfl, rfl, rfl⟩
end TAKES
