/-! ===== pure: a line; the lines of a text ===== -/
section LIN
variable {g g' g2 : HH} {hd hd' ht ht' hh hr hc : HH} {B R H D K n N N' s x l : Nat}
theorem sem_b (h : g 0 20 ≠ 0) : semM N g = some g := by
  unfold semM
  rw [good_0 h, if_pos rfl, pu_letn, good_0 h, if_pos rfl]
theorem eats_f (h : F_Mo_isWord N x g = some (bi false)) : F_Mo_eats N x g = some (0, g) := by
  unfold F_Mo_eats
  rw [h, bind_sn]
  exact if_neg (show ¬ ¬ bi false = 0 by decide)
theorem eats_t (h : F_Mo_isWord N x g = some (bi true)) (e : F_Mo_advance N g = some g') : F_Mo_eats N x g = some (1, g') := by
  unfold F_Mo_eats
  rw [h, bind_sn, if_pos (show ¬ bi true = 0 by decide), e, bind_sn]
theorem line_eq {x1 : Int32} (hx : x1 ≠ 0) : F_Mo_readLine N x1 g = (Option.bind (F_Mo_eats N 6 g) fun v2 => (if v2.1 = 0 then (Option.bind (F_Mo_isWord N 8 v2.2) fun v5 => (if v5 = 0 then (Option.bind (F_Mo_eats N 9 v2.2) fun v8 => (if v8.1 = 0 then (Option.bind (F_Mo_isWord N 14 v8.2) fun v11 => (if v11 = 0 then (Option.bind (F_Mo_eats N 15 v8.2) fun v14 => (if v14.1 = 0 then (Option.bind (F_Mo_isWord N 16 v14.2) fun v17 => (if v17 = 0 then (sv_let (F_Mo_errs 1 (v14.2 0 17) v14.2) fun gm_20 => semM N gm_20) else boxM N v14.2 (semM N))) else (Option.bind (F_Mo_readApart N v14.2) fun v48 => semM N v48))) else kindM N v8.2 (semM N))) else (Option.bind (F_Mo_readLevel N v8.2) fun v88 => semM N v88))) else bearsM N v2.2 (semM N))) else (Option.bind (F_Mo_readWall N v2.2) fun v124 => semM N v124))) := by
  unfold F_Mo_readLine
  rw [if_pos hx]
  rfl
theorem line0_eq : F_Mo_readLine N 0 g = (Option.bind (F_Mo_readShip N g) fun v135 => semM N v135) := by
  unfold F_Mo_readLine
  rw [ife0]
  rfl
/-- a line, but for its end -/
theorem line_in (P : PP hd ht g s) (h0 : hd 0 0 = 0) (Dr : DR hh hr hc g B R H D K n) {x1 : Int32} (hx : x1 ≠ 0) (hN : 1000 ≤ N) (hN' : 1000 ≤ N') : ∃ hd' ht' hh' hr' hc' g', F_Read_readLine N hd ht hh hr hc = some (hd', ht', hh', hr', hc') ∧ F_Mo_readLine N' x1 g = semM N' g' ∧ PP hd' ht' g' s ∧ FgP g g' ∧ (hd' 0 0 = 0 → (∃ K' n', DR hh' hr' hc' g' B R H D K' n') ∧ Mv ht ht' 0) := by
  obtain ⟨BR, a, b, kd, Q⟩ : ByR ht g s ∧ ∃ a b kd, Tok ht g s a b kd := by
    rcases P.2.2 with z | ⟨-, z1, z2⟩
    · exact absurd h0 z
    · exact ⟨z1, z2⟩
  have g0 : g 0 20 = 0 := by rw [← P.1.1]; exact h0
  have W : ∀ x, x < 19 → ∃ y, F_Tape_isWord N x ht = some (bi y) ∧ F_Mo_isWord N' x g = some (bi y) := fun x hx => by
    obtain ⟨y, e1, e2, -⟩ := isW_eq (x := x) (N := N) (N' := N') BR Q g0 hx (by omega) (by omega)
    exact ⟨y, e1, e2⟩
  have bT : ¬ bi true = 0 := by decide
  have bF : bi false = 0 := by decide
  rw [line_eq hx]
  unfold F_Read_readLine
  obtain ⟨y6, k6, m6⟩ := W 6 (by omega)
  rw [k6, bind_sn]
  cases y6 with
  | true =>
    obtain ⟨hd1, ht1, hh1, g1, g2, a1, a2, a3, P2, G2, a4⟩ := wall_ok (N := N) (N' := N') P h0 Dr hN hN'
    rw [if_neg bT, a1, bind_sn, eats_t m6 a2, bind_sn, if_neg (show ¬ ((1 : Int32), g1).1 = 0 from pu_10)]
    dsimp only
    rw [a3, bind_sn]
    exact ⟨hd1, ht1, hh1, hr, hc, g2, rfl, rfl, P2, G2, fun z => ⟨⟨K, n, (a4 z).1⟩, (a4 z).2⟩⟩
  | false =>
  rw [if_pos bF, eats_f m6, bind_sn, if_pos (show ((0 : Int32), g).1 = 0 from rfl)]
  dsimp only
  obtain ⟨y8, k8, m8⟩ := W 8 (by omega)
  rw [k8, m8, bind_sn, bind_sn]
  cases y8 with
  | true =>
    obtain ⟨hd1, ht1, hh1, g2, a1, a2, P2, G2, a4⟩ := bears_ok (N := N) (N' := N') P Dr (semM N') hN hN'
    rw [if_neg bT, if_neg bT, a1, bind_sn, a2]
    exact ⟨hd1, ht1, hh1, hr, hc, g2, rfl, rfl, P2, G2, fun z => ⟨⟨K, n, (a4 z).1⟩, (a4 z).2⟩⟩
  | false =>
  rw [if_pos bF, if_pos bF]
  obtain ⟨y9, k9, m9⟩ := W 9 (by omega)
  rw [k9, bind_sn]
  cases y9 with
  | true =>
    obtain ⟨hd1, ht1, hr1, g1, g2, a1, a2, a3, P2, G2, a4⟩ := level_ok (N := N) (N' := N') P h0 Dr hN hN'
    rw [if_neg bT, a1, bind_sn, eats_t m9 a2, bind_sn, if_neg (show ¬ ((1 : Int32), g1).1 = 0 from pu_10)]
    dsimp only
    rw [a3, bind_sn]
    exact ⟨hd1, ht1, hh, hr1, hc, g2, rfl, rfl, P2, G2, fun z => ⟨⟨K, n, (a4 z).1⟩, (a4 z).2⟩⟩
  | false =>
  rw [if_pos bF, eats_f m9, bind_sn, if_pos (show ((0 : Int32), g).1 = 0 from rfl)]
  dsimp only
  obtain ⟨y14, k14, m14⟩ := W 14 (by omega)
  rw [k14, m14, bind_sn, bind_sn]
  cases y14 with
  | true =>
    obtain ⟨hd1, ht1, hr1, g2, a1, a2, P2, G2, a4⟩ := kind_ok (N := N) (N' := N') P Dr (semM N') (fun _ h => sem_b h) hN hN'
    rw [if_neg bT, if_neg bT, a1, bind_sn, a2]
    refine ⟨hd1, ht1, hh, hr1, hc, g2, rfl, rfl, P2, G2, fun z => ?_⟩
    obtain ⟨⟨K', z1⟩, z2⟩ := a4 z
    exact ⟨⟨K', n, z1⟩, z2⟩
  | false =>
  rw [if_pos bF, if_pos bF]
  obtain ⟨y15, k15, m15⟩ := W 15 (by omega)
  rw [k15, bind_sn]
  cases y15 with
  | true =>
    obtain ⟨hd1, ht1, hr1, g1, g2, a1, a2, a3, P2, G2, a4⟩ := apart_ok (N := N) (N' := N') P h0 Dr hN hN'
    rw [if_neg bT, a1, bind_sn, eats_t m15 a2, bind_sn, if_neg (show ¬ ((1 : Int32), g1).1 = 0 from pu_10)]
    dsimp only
    rw [a3, bind_sn]
    exact ⟨hd1, ht1, hh, hr1, hc, g2, rfl, rfl, P2, G2, fun z => ⟨⟨K, n, (a4 z).1⟩, (a4 z).2⟩⟩
  | false =>
  rw [if_pos bF, eats_f m15, bind_sn, if_pos (show ((0 : Int32), g).1 = 0 from rfl)]
  dsimp only
  obtain ⟨y16, k16, m16⟩ := W 16 (by omega)
  rw [k16, m16, bind_sn, bind_sn]
  cases y16 with
  | true =>
    obtain ⟨hd1, ht1, hc1, g2, a1, a2, P2, G2, a4⟩ := box_ok (N := N) (N' := N') P Dr (semM N') (fun _ h => sem_b h) hN hN'
    rw [if_neg bT, if_neg bT, a1, bind_sn, a2]
    refine ⟨hd1, ht1, hh, hr, hc1, g2, rfl, rfl, P2, G2, fun z => ?_⟩
    obtain ⟨⟨n', z1⟩, z2⟩ := a4 z
    exact ⟨⟨K, n', z1⟩, z2⟩
  | false =>
    rw [if_pos bF, if_pos bF, pu_letn, pu_letn]
    obtain ⟨pe, se, ze⟩ := err_ok P (c := 1) (by decide)
    exact ⟨_, ht, hh, hr, hc, _, rfl, rfl, pe, se.p, fun z => absurd z ze⟩
theorem line_ok (P : PP hd ht g s) (h0 : hd 0 0 = 0) (Dr : DR hh hr hc g B R H D K n) {x1 : Int32} (hx : x1 ≠ 0) (hN : 1000 ≤ N) (hN' : 1000 ≤ N') : ∃ hd1 ht1 hd' ht' hh' hr' hc' g', F_Read_readLine N hd ht hh hr hc = some (hd1, ht1, hh', hr', hc') ∧ F_Read_skipSemicolon N hd1 ht1 = some (hd', ht') ∧ F_Mo_readLine N' x1 g = some g' ∧ PP hd' ht' g' s ∧ FgP g g' ∧ (hd' 0 0 = 0 → (∃ K' n', DR hh' hr' hc' g' B R H D K' n') ∧ Mv ht ht' 1) := by
  obtain ⟨hd1, ht1, hh1, hr1, hc1, g1, a1, a2, P1, G1, a3⟩ := line_in (N := N) (N' := N') P h0 Dr hx hN hN'
  obtain ⟨hd2, ht2, g2, b1, b2, P2, S2, b3, b4⟩ := sem_ok (N := N) (N' := N') P1 hN hN'
  refine ⟨hd1, ht1, hd2, ht2, hh1, hr1, hc1, g2, a1, b1, by rw [a2, b2], P2, G1.tr S2.p, fun z => ?_⟩
  have h1 : hd1 0 0 = 0 := Classical.byContradiction fun y => (b3 y) z
  obtain ⟨⟨K', n', d⟩, m⟩ := a3 h1
  exact ⟨⟨K', n', d.fs S2⟩, by have := m.tr (b4 z).2; exact this.le (by omega)⟩
theorem loop_ok (hN : 1000 ≤ N) (hN' : 1000 ≤ N') : ∀ (m x f f' : Nat) (hd ht hh hr hc g : HH), PP hd ht g s → (hd 0 0 = 0 → (∃ K n, DR hh hr hc g B R H D K n) ∧ ∃ a, a ≤ 900 ∧ ht 0 3 = nI a ∧ x ≤ a ∧ 900 ≤ a + m) → 1 ≤ x → m < f → m < f' → ∃ x' hd' ht' hh' hr' hc' g', L_Read_readText_34 N f (nI x) hd ht hh hr hc = some (nI x', hd', ht', hh', hr', hc') ∧ L_Mo_ship_94 N' f' (nI x) g = some (nI x', g') ∧ PP hd' ht' g' s ∧ FgP g g' ∧ (hd' 0 0 = 0 → ∃ K n, DR hh' hr' hc' g' B R H D K n) := by
  intro m
  induction m with
  | zero =>
    intro x f f' hd ht hh hr hc g P I h1 h2 h3
    obtain ⟨f, rfl⟩ : ∃ z, f = z + 1 := ⟨f - 1, by omega⟩
    obtain ⟨f', rfl⟩ : ∃ z, f' = z + 1 := ⟨f' - 1, by omega⟩
    rw [L_Read_readText_34, L_Mo_ship_94]
    rcases P.2.2 with z | ⟨z0, z1, a, b, kd, Q⟩
    · rw [if_pos z, good_0 (by rw [← P.1.1]; exact z), if_pos rfl]
      exact ⟨x, hd, ht, hh, hr, hc, g, rfl, rfl, P, (FgS.refl g).p, fun y => absurd y z⟩
    · obtain ⟨⟨K, n, Dr⟩, a', a1, a2, a3, a4⟩ := I z0
      have hs := z1.1
      have ea : a' = a := (nI_eq (by omega) (by have := Q.1.1; have := Q.1.2.1; omega)).mp (by rw [← a2, Q.2.1.1])
      have hk : kd = 0 := Classical.byContradiction fun y => by have := Q.1.2.2.2 y; have := Q.1.2.1; omega
      rw [ifn z0, good_1 (by rw [← P.1.1]; exact z0), if_neg pu_10, Q.2.2.2.1.1, Q.2.2.2.1.2, hk, if_pos (show nI 0 = 0 from rfl), if_pos (show nI 0 = 0 from rfl)]
      exact ⟨x, hd, ht, hh, hr, hc, g, rfl, rfl, P, (FgS.refl g).p, fun _ => ⟨K, n, Dr⟩⟩
  | succ m ih =>
    intro x f f' hd ht hh hr hc g P I h1 h2 h3
    obtain ⟨f, rfl⟩ : ∃ z, f = z + 1 := ⟨f - 1, by omega⟩
    obtain ⟨f', rfl⟩ : ∃ z, f' = z + 1 := ⟨f' - 1, by omega⟩
    rw [L_Read_readText_34, L_Mo_ship_94]
    rcases P.2.2 with z | ⟨z0, z1, a, b, kd, Q⟩
    · rw [if_pos z, good_0 (by rw [← P.1.1]; exact z), if_pos rfl]
      exact ⟨x, hd, ht, hh, hr, hc, g, rfl, rfl, P, (FgS.refl g).p, fun y => absurd y z⟩
    · obtain ⟨⟨K, n, Dr⟩, a', a1, a2, a3, a4⟩ := I z0
      have hs := z1.1
      have q3 := Q.1.2.2.1
      rw [ifn z0, good_1 (by rw [← P.1.1]; exact z0), if_neg pu_10, Q.2.2.2.1.1, Q.2.2.2.1.2]
      by_cases hk : kd = 0
      · rw [hk, if_pos (show nI 0 = 0 from rfl), if_pos (show nI 0 = 0 from rfl)]
        exact ⟨x, hd, ht, hh, hr, hc, g, rfl, rfl, P, (FgS.refl g).p, fun _ => ⟨K, n, Dr⟩⟩
      · have kz : ¬ nI kd = 0 := nI_ne0 (by omega) (by omega)
        have x9 : ¬ (900 : Int32) < nI x := nI_nlt (a := 900) (b := x) (by omega) (by omega)
        rw [if_neg kz, if_neg kz, if_neg x9]
        obtain ⟨hd1, ht1, hd2, ht2, hh2, hr2, hc2, g2, b1, b2, b3, P2, G2, b4⟩ := line_ok (x1 := nI x) (N := N) (N' := N') P z0 Dr (nI_ne0 (by omega) (by omega)) hN hN'
        rw [b1, bind_sn]
        dsimp only
        rw [b2, bind_sn, b3, bind_sn, nI_1]
        obtain ⟨x', hd3, ht3, hh3, hr3, hc3, g3, c1, c2, P3, G3, c3⟩ := ih (x + 1) f f' hd2 ht2 hh2 hr2 hc2 g2 P2 (fun w => by
          obtain ⟨d1, c, c', e1, e2, e3, e4⟩ := b4 w
          have ec : c = a' := (nI_eq (by omega) (by omega)).mp (by rw [← e1, a2])
          exact ⟨d1, c', e4, e2, by omega, by omega⟩) (by omega) (by omega) (by omega)
        exact ⟨x', hd3, ht3, hh3, hr3, hc3, g3, c1, c2, P3, G2.tr G3, c3⟩
end LIN
