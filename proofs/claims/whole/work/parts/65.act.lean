/-! ===== pure: puts, lifts ===== -/
theorem ku_self (k : KS) (i : Nat) : ku k i (k i) = k := by
  funext j
  rw [pu_ku]
  split
  · rename_i h; rw [h]
  · rfl
section ACT
variable {k k' : KS} {g g' : HH} {hy hh hr hc : HH} {B R H D K n o N N' : Nat}
theorem InvB_c (h : InvB k g) (h5 : k' 5 = k 5) (h6 : k' 6 = k 6) (h7 : k' 7 = k 7) (e14 : g' 0 14 = g 0 14) (e20 : g' 0 20 = g 0 20) (e21 : g' 0 21 = g 0 21) (e46 : g' 0 46 = g 0 46) (e9 : g' 9 = g 9) (e22 : g' 22 = g 22) : InvB k' g' := by
  unfold InvB at *
  rw [h5, h6, h7, e14, e20, e21, e46, e9, e22]
  exact h
theorem ToR_c {hl : HH} {P : Nat} (h : ToR hl g P) (e : g' 0 32 = g 0 32) (e14 : g' 14 = g 14) (e15 : g' 15 = g 15) : ToR hl g' P := by
  unfold ToR at *
  rw [e, e14, e15]
  exact h
theorem ShR_c {hs : HH} (h : ShR hs g) (e : g' 0 37 = g 0 37) (e16 : g' 16 = g 16) : ShR hs g' := by
  unfold ShR at *
  rw [e, e16]
  exact h
theorem low_next (h : Geo g B R H D) {p : Nat} : p + 1 = lowS H D (p + 1) ↔ p + 1 = lowS H D p + highS H D p := by
  have hm := h.md p
  have e := Nat.div_add_mod p (H + D)
  have hl := lowS_iff h (p + 1)
  rw [hl]
  obtain ⟨-, h1, h2, h3, h4, h5, h6, h7⟩ := h
  have hle := Nat.mod_le p (H + D)
  rcases Nat.lt_or_ge (p % (H + D) + 1) (H + D) with c | c
  · have e1 : (p + 1) % (H + D) = p % (H + D) + 1 := by
      have : p + 1 = (H + D) * (p / (H + D)) + (p % (H + D) + 1) := by omega
      rw [this, Nat.mul_add_mod, Nat.mod_eq_of_lt c]
    rw [e1]
    unfold lowS highS
    split <;> omega
  · have c1 : p % (H + D) + 1 = H + D := by omega
    have e1 : (p + 1) % (H + D) = 0 := by
      have : p + 1 = (H + D) * (p / (H + D) + 1) := by rw [Nat.mul_succ]; omega
      rw [this, Nat.mul_mod_right]
    rw [e1]
    unfold lowS highS
    split <;> omega
def pinS (g : HH) (H D P b : Nat) : Bool := decide (g 7 b ≠ -1 ∧ nn (g 7 b) + 1 < P ∧ nn (g 7 b) + 1 ≠ lowS H D (nn (g 7 b) + 1) ∧ g 8 (nn (g 7 b) + 1) ≠ -1)
theorem VS.at_out (V : VS hh hr hc g B R H D K n o) {p : Nat} (hp : plN B R H D ≤ p) (hp2 : p < 144) : g 8 p = -1 := by
  have hn := V.nn
  rcases V.atb hp2 with w | ⟨b, hb, -, w⟩
  · exact w
  · rcases V.plc hb with u | ⟨q, hq, u, -⟩
    · rw [u] at w; exact absurd w (pu_m1' (by omega))
    · rw [u] at w
      have := (nI_eq (by omega) (by omega)).mp w
      omega
theorem K_pin (V : VS hh hr hc g B R H D K n o) {b : Nat} (hb : b < n) : F_Ves_isPinned (nI b) hh hc = bi (pinS g H D (plN B R H D) b) := by
  have hn := V.nn
  have hP := V.pp
  obtain ⟨kd, w, t, -, -, -, -, -, -, -, -, -, -, -, k7⟩ := V.box hb
  unfold F_Ves_isPinned pinS
  rw [V.lies hb, k7]
  rcases V.plc hb with p0 | ⟨p, hp, p0, -⟩
  · rw [p0, if_pos rfl, if_pos rfl]; simp [bi]
  have z1 : nI p ≠ -1 := pu_m1 (by omega)
  rw [p0, if_neg z1, if_neg pu_10, nI_1, nn, nI_clamp (by omega)]
  rcases Nat.lt_or_ge (p + 1) (plN B R H D) with c | c
  · rw [K_lowest V c, V.at (by omega)]
    by_cases c1 : p + 1 = lowS H D (p + 1)
    · rw [if_pos c1, if_pos pu_10]; simp [← c1, bi]
    · rw [if_neg c1, ife0]
      by_cases c2 : g 8 (p + 1) = -1
      · rw [if_pos c2]; simp [c2, bi]
      · rw [if_neg c2]; simp [c, c1, c2, z1, bi]
  · have e : F_Cargo_boxAt (nI (p + 1)) hc = -1 := by
      rcases Nat.lt_or_ge (p + 1) 144 with y | y
      · rw [V.at y, V.at_out c y]
      · unfold F_Cargo_boxAt; rw [pu_rdo _ y (by omega)]
    have nc : ¬ p + 1 < plN B R H D := by omega
    rw [e]
    simp [nc, bi]
theorem Mo_lift (V : VS hh hr hc g B R H D K n o) {b : Nat} (hb : b < n) (hl : g 7 b ≠ -1) : F_Mo_canLift N (nI b) g = some (bi (!pinS g H D (plN B R H D) b)) := by
  have hn := V.nn
  have hP := V.pp
  have hin : sv_in (nI b) 24 := pu_in (by omega) (by omega)
  unfold F_Mo_canLift pinS
  rw [if_pos hin, nI_clamp (by omega)]
  rcases V.plc hb with p0 | ⟨p, hp, p0, -⟩
  · exact absurd p0 hl
  have z1 : nI p ≠ -1 := pu_m1 (by omega)
  obtain ⟨s1, s2, s3⟩ := V.1.st hp
  have ln := low_next V.1 (p := p)
  rw [p0, Mo_low V.1 (by omega), Mo_high V.1 (by omega)]
  simp only [Option.bind_some]
  have e1 : nI (lowS H D p) + nI (highS H D p) - 1 = nI (lowS H D p + highS H D p - 1) := by
    rw [nI_add, show (1 : Int32) = nI 1 from rfl, pk_sub (by omega)]
  rw [e1, nI_1]
  have en : nn (nI p) = p := nI_clamp (by omega)
  rw [en]
  by_cases c : p + 1 = lowS H D p + highS H D p
  · have c1 : nI p = nI (lowS H D p + highS H D p - 1) := by congr 1; omega
    rw [if_pos c1]
    have c2 := ln.mpr c
    simp [← c2, bi]
  · have c1 : ¬ nI p = nI (lowS H D p + highS H D p - 1) := fun z => by have := (nI_eq (by omega) (by omega)).mp z; omega
    have c2 : p + 1 ≠ lowS H D (p + 1) := fun z => c (ln.mp z)
    have c3 : p + 1 < plN B R H D := by omega
    rw [if_neg c1, if_pos (pu_in (by omega) (by omega)), nI_clamp (by omega)]
    by_cases c4 : g 8 (p + 1) = -1
    · rw [ifn c4]; simp [c4, bi]
    · rw [if_pos c4]; simp [c2, c3, c4, z1, bi]
/-- no box hangs once one has moved that nothing was on -/
theorem NoH_mv (V : VS hh hr hc g B R H D K n o) (h0 : NoH g H D (plN B R H D)) {b : Nat} (hb : b < n) (hpin : pinS g H D (plN B R H D) b = false) {v : Int32} (hv : v = -1 ∨ ∃ p, p < plN B R H D ∧ v = nI p ∧ (p ≠ lowS H D p → g 8 (p - 1) ≠ -1 ∧ g 8 (p - 1) ≠ nI b)) (l3 : ∀ p, p < 144 → g' 8 p = mv8 (g 8) (g 7 b) v b p) : NoH g' H D (plN B R H D) := by
  have hn := V.nn
  have hP := V.pp
  have m1 : ∀ p, p < 144 → ¬ (-1 : Int32) = nI p := fun p hp => pu_m1' (by omega)
  intro p hp q1 q2
  rw [l3 p (by omega)] at q1
  rw [l3 (p - 1) (by omega)]
  have hp0 : p ≠ 0 := by
    intro z; subst z
    apply q2
    have := (lowS_iff V.1 0).mpr (Or.inl (Nat.zero_mod _))
    exact this
  unfold mv8 at *
  by_cases a1 : v = nI (p - 1)
  · rw [if_pos a1]; exact pu_m1 (by omega)
  rw [if_neg a1]
  by_cases a2 : v = nI p
  · rcases hv with h | ⟨p2, h1, h2, h3⟩
    · rw [h] at a2; exact absurd a2 (m1 p (by omega))
    · rw [h2] at a2
      have := (nI_eq (by omega) (by omega)).mp a2
      subst this
      obtain ⟨h4, h5⟩ := h3 q2
      have a3 : ¬ g 7 b = nI (p2 - 1) := by
        intro z
        rcases V.plc hb with u | ⟨q, hq, u, u2⟩
        · rw [u] at z; exact m1 _ (by omega) z
        · rw [u] at z
          have := (nI_eq (by omega) (by omega)).mp z
          subst this
          exact h5 u2
      rw [if_neg a3]; exact h4
  · rw [if_neg a2] at q1
    by_cases a4 : g 7 b = nI p
    · rw [if_pos a4] at q1; exact absurd rfl q1
    · rw [if_neg a4] at q1
      by_cases a3 : g 7 b = nI (p - 1)
      · exfalso
        unfold pinS at hpin
        rw [a3, nn, nI_clamp (by omega), show p - 1 + 1 = p by omega] at hpin
        have : nI (p - 1) ≠ -1 := pu_m1 (by omega)
        simp [this, hp, q2, q1] at hpin
      · rw [if_neg a3]; exact h0 p hp q1 q2
/-- the state after an act that moves a box -/
theorem InvA_mv (I : InvA k g B R H D K n o) {hy1 g1 g2 : HH} {b : Nat} (hb : b < n) {v : Int32} (hyk : HiR hy1 g1 H D (plN B R H D) n) (p3 : ∀ r, r ≠ 0 → r ≠ 10 → g1 r = g r) (p4 : ∀ i, i ≠ 22 → g1 0 i = g 0 i) (V2 : VS (k 9) (k 10) (F_Cargo_move (nI b) v (k 11)) g2 B R H D K n o) (l1 : ∀ r, r ≠ 7 → r ≠ 8 → g2 r = g1 r) (h0 : NoH g2 H D (plN B R H D)) : InvA (ku (ku k 1 hy1) 11 (F_Cargo_move (nI b) v (k 11))) g2 B R H D K n o := by
  have hn := I.2.2.1.nn
  have g0 : ∀ i, i ≠ 22 → g2 0 i = g 0 i := fun i hi => by rw [l1 0 (by omega) (by omega), p4 i hi]
  have gr : ∀ r, r ≠ 0 → r ≠ 10 → r ≠ 7 → r ≠ 8 → g2 r = g r := fun r a1 a2 a3 a4 => by rw [l1 r a3 a4, p3 r a1 a2]
  refine ⟨?_, ?_, ?_, ?_, h0, ?_, ?_, ?_⟩
  · simp only [pu_ku]; exact I.1
  · rw [g0 1 (by omega)]; exact I.2.1
  · simp only [pu_ku]; exact V2
  · rw [g0 11 (by omega)]; exact I.2.2.2.1
  · simp only [pu_ku]
    refine HiR_c hn hyk (Nat.le_refl _) ?_ ?_ ?_ ?_
    · rw [l1 0 (by omega) (by omega)]
    · rw [l1 10 (by omega) (by omega)]
    · rw [l1 1 (by omega) (by omega)]
    · intro b _; rw [l1 4 (by omega) (by omega), l1 5 (by omega) (by omega), l1 6 (by omega) (by omega)]; exact ⟨rfl, rfl, rfl⟩
  · simp only [pu_ku]
    exact ToR_c I.2.2.2.2.2.2.1 (g0 32 (by omega)) (gr 14 (by omega) (by omega) (by omega) (by omega)) (gr 15 (by omega) (by omega) (by omega) (by omega))
  · simp only [pu_ku]
    exact ShR_c I.2.2.2.2.2.2.2 (g0 37 (by omega)) (gr 16 (by omega) (by omega) (by omega) (by omega))
theorem InvB_mv (I : InvB k g) {hy1 hc1 g1 g2 : HH} (p3 : ∀ r, r ≠ 0 → r ≠ 10 → g1 r = g r) (p4 : ∀ i, i ≠ 22 → g1 0 i = g 0 i) (l1 : ∀ r, r ≠ 7 → r ≠ 8 → g2 r = g1 r) : InvB (ku (ku k 1 hy1) 11 hc1) g2 := by
  have g0 : ∀ i, i ≠ 22 → g2 0 i = g 0 i := fun i hi => by rw [l1 0 (by omega) (by omega), p4 i hi]
  have gr : ∀ r, r ≠ 0 → r ≠ 10 → r ≠ 7 → r ≠ 8 → g2 r = g r := fun r a1 a2 a3 a4 => by rw [l1 r a3 a4, p3 r a1 a2]
  refine InvB_c I ?_ ?_ ?_ (g0 _ (by omega)) (g0 _ (by omega)) (g0 _ (by omega)) (g0 _ (by omega)) (gr _ (by omega) (by omega) (by omega) (by omega)) (gr _ (by omega) (by omega) (by omega) (by omega))
  all_goals simp only [pu_ku]; rfl
theorem sim_16 : Sim_16 Inv := by
  intro a1 a2 k g I
  have same : ∀ v, F_K_puts 3000 a1 a2 (k 0) (k 1) (k 9) (k 10) (k 11) = some (v, k 1, k 11) → F_Mo_puts 3000 a1 a2 g = some (v, g) → ∃ (N N' : Nat) (v : Int32) (k' : KS) (g' : HH), KO_16 N a1 a2 k = some (v, k') ∧ MO_16 N' a1 a2 g = some (v, g') ∧ Inv k' g' := by
    intro v h1 h2
    refine ⟨3000, 3000, v, k, g, ?_, ?_, I⟩
    · unfold KO_16; rw [h1]; show some (v, ku (ku k 1 (k 1)) 11 (k 11)) = _
      rw [ku_self, ku_self]
    · unfold MO_16; rw [h2]; rfl
  rcases i_box I a1 with ⟨B, R, H, D, K, n, o, b, J, h1, h2, h3, h4⟩ | ⟨h3, h4⟩
  case inr =>
    refine same (-2) ?_ ?_
    · unfold F_K_puts; rw [h3]; rfl
    · unfold F_Mo_puts; rw [h4]; rfl
  subst h2
  have V := J.2.2.1
  have hn := V.nn
  have hP := V.pp
  rcases a_place (N := 3000) J a2 with ⟨p, q1, q2, q3, q4⟩ | ⟨q3, q4⟩
  case inr =>
    refine same (-2) ?_ ?_
    · unfold F_K_puts; rw [h3, q3]; rfl
    · unfold F_Mo_puts; rw [h4, q4]; rfl
  subst q2
  have hin : sv_in (nI b) 24 := pu_in (by omega) (by omega)
  obtain ⟨w, w1, w2, w3, w4⟩ := whyBox_eq (N := 3000) (N' := 3000) V J.2.2.2.1 h1 q1 (by omega) (by omega)
  have kp := K_pin V h1
  have eM : F_Mo_puts 3000 (nI b) (nI p) g = if pinS g H D (plN B R H D) b = true then some (7, g) else (if nI w = 0 then (Option.bind (F_Mo_keeps 3000 g) fun v10 => Option.bind (F_Mo_lays 3000 (nI b) (nI p) v10) fun v12 => some (0, v12)) else some (nI w, g)) := by
    unfold F_Mo_puts
    rw [h4, q4, if_neg pu_10, w2]
    simp only [Option.bind_some, if_pos pu_10, if_pos hin]
    rw [nI_clamp (by omega)]
    by_cases c : g 7 b = -1
    · have : pinS g H D (plN B R H D) b = false := by unfold pinS; simp [c]
      rw [if_pos c, this]
      rfl
    · rw [if_neg c, Mo_lift V h1 c]
      simp only [Option.bind_some]
      cases pinS g H D (plN B R H D) b
      · rfl
      · rfl
  have eK : F_K_puts 3000 (nI b) (nI p) (k 0) (k 1) (k 9) (k 10) (k 11) = if pinS g H D (plN B R H D) b = true then some (7, k 1, k 11) else (if nI w = 0 then (Option.bind (F_Hist_mark 3000 (k 1) (k 9) (k 11)) fun v7 => some (nI w, F_Hist_keep v7, F_Cargo_move (nI b) (nI p) (k 11))) else some (nI w, k 1, k 11)) := by
    unfold F_K_puts
    rw [h3, q3, if_neg pu_10, if_pos pu_10, kp, w1]
    simp only [Option.bind_some]
    cases pinS g H D (plN B R H D) b
    · by_cases c : nI w = 0
      · rw [show bi false = 0 from rfl, if_pos rfl, ifn c, if_neg (by decide), if_pos c]; rfl
      · rw [show bi false = 0 from rfl, if_pos rfl, if_pos c, if_neg (by decide), if_neg c]
    · rfl
  cases hpin : pinS g H D (plN B R H D) b
  case true =>
    rw [hpin] at eM eK
    exact same 7 eK eM
  rw [hpin, if_neg (by decide)] at eM eK
  by_cases c : nI w = 0
  case neg =>
    rw [if_neg c] at eM eK
    exact same _ eK eM
  rw [if_pos c] at eM eK
  have w0 : w = 0 := by
    have : nI w = nI 0 := c
    exact (nI_eq (by omega) (by omega)).mp this
  obtain ⟨w5, w6⟩ := w4 w0
  obtain ⟨hy1, g1, a1', a2', a3', a4', a5', a6'⟩ := act_ok (N := 3000) (N' := 3000) V J.2.2.2.1 J.2.2.2.2.1 J.2.2.2.2.2.1 (by omega) (by omega)
  have V1 : VS (k 9) (k 10) (k 11) g1 B R H D K n o := V.cg (a5' 1 (by omega) (by omega)) (a6' 6 (by omega)) (a5' 4 (by omega) (by omega)) (a5' 5 (by omega) (by omega)) (a5' 6 (by omega) (by omega)) (a5' 7 (by omega) (by omega)) (a5' 8 (by omega) (by omega))
  have e8 := a5' 8 (by omega) (by omega)
  have e7 := a5' 7 (by omega) (by omega)
  obtain ⟨g2, l0, V2, l1, l2, l3, l4, l5⟩ := lays_ok (N := 3000) V1 h1 (v := nI p) (Or.inr ⟨p, q1, rfl, Or.inl (by rw [e8]; exact w5)⟩)
  rw [e7, e8] at l3
  have hN2 : NoH g2 H D (plN B R H D) := NoH_mv V J.2.2.2.2.1 h1 hpin (Or.inr ⟨p, q1, rfl, w6⟩) l3
  refine ⟨3000, 3000, 0, ku (ku k 1 (F_Hist_keep hy1)) 11 (F_Cargo_move (nI b) (nI p) (k 11)), g2, ?_, ?_, InvB_mv I.1 a5' a6' l1, Or.inr ⟨B, R, H, D, K, n, o, InvA_mv J h1 a4' a5' a6' V2 l1 hN2⟩⟩
  · unfold KO_16; rw [eK, a1', c]; rfl
  · unfold MO_16; rw [eM, a2']
    show Option.map _ (Option.bind (F_Mo_lays 3000 (nI b) (nI p) g1) _) = _
    rw [l0]; rfl
theorem sim_17 : Sim_17 Inv := by
  intro a1 k g I
  have same : ∀ v, F_K_lifts 3000 a1 (k 0) (k 1) (k 9) (k 11) = some (v, k 1, k 11) → F_Mo_lifts 3000 a1 g = some (v, g) → ∃ (N N' : Nat) (v : Int32) (k' : KS) (g' : HH), KO_17 N a1 k = some (v, k') ∧ MO_17 N' a1 g = some (v, g') ∧ Inv k' g' := by
    intro v h1 h2
    refine ⟨3000, 3000, v, k, g, ?_, ?_, I⟩
    · unfold KO_17; rw [h1]; show some (v, ku (ku k 1 (k 1)) 11 (k 11)) = _
      rw [ku_self, ku_self]
    · unfold MO_17; rw [h2]; rfl
  rcases i_box I a1 with ⟨B, R, H, D, K, n, o, b, J, h1, h2, h3, h4⟩ | ⟨h3, h4⟩
  case inr =>
    refine same (-2) ?_ ?_
    · unfold F_K_lifts; rw [h3]; rfl
    · unfold F_Mo_lifts; rw [h4]; rfl
  subst h2
  have V := J.2.2.1
  have hn := V.nn
  have hP := V.pp
  have hin : sv_in (nI b) 24 := pu_in (by omega) (by omega)
  have kp := K_pin V h1
  obtain ⟨kd, w, t, -, -, -, -, -, -, -, -, -, -, -, k7⟩ := V.box h1
  have eM : F_Mo_lifts 3000 (nI b) g = if ¬ g 7 b = -1 then (Option.bind (F_Mo_canLift 3000 (nI b) g) fun v4 => if ¬ v4 = 0 then (Option.bind (F_Mo_keeps 3000 g) fun v7 => Option.bind (F_Mo_lays 3000 (nI b) (-1) v7) fun v10 => some (v7 7 b, v10)) else some (-5, g)) else some (-1, g) := by
    unfold F_Mo_lifts
    simp only [if_pos hin]
    rw [h4, if_pos pu_10, nI_clamp (by omega)]
  by_cases c : g 7 b = -1
  case pos =>
    refine same (-1) ?_ ?_
    · unfold F_K_lifts; rw [h3, k7, c]; rfl
    · rw [eM, c]; rfl
  have ml := Mo_lift (N := 3000) V h1 c
  cases hpin : pinS g H D (plN B R H D) b
  case true =>
    rw [hpin] at kp ml
    refine same (-5) ?_ ?_
    · unfold F_K_lifts; rw [h3, k7, if_pos pu_10, if_pos c, kp]; rfl
    · rw [eM, if_pos c, ml]; rfl
  rw [hpin] at kp ml
  obtain ⟨hy1, g1, a1', a2', a3', a4', a5', a6'⟩ := act_ok (N := 3000) (N' := 3000) V J.2.2.2.1 J.2.2.2.2.1 J.2.2.2.2.2.1 (by omega) (by omega)
  have V1 : VS (k 9) (k 10) (k 11) g1 B R H D K n o := V.cg (a5' 1 (by omega) (by omega)) (a6' 6 (by omega)) (a5' 4 (by omega) (by omega)) (a5' 5 (by omega) (by omega)) (a5' 6 (by omega) (by omega)) (a5' 7 (by omega) (by omega)) (a5' 8 (by omega) (by omega))
  have e8 := a5' 8 (by omega) (by omega)
  have e7 := a5' 7 (by omega) (by omega)
  obtain ⟨g2, l0, V2, l1, l2, l3, l4, l5⟩ := lays_ok (N := 3000) V1 h1 (v := -1) (Or.inl rfl)
  rw [e7, e8] at l3
  have hN2 : NoH g2 H D (plN B R H D) := NoH_mv V J.2.2.2.2.1 h1 hpin (Or.inl rfl) l3
  refine ⟨3000, 3000, g 7 b, ku (ku k 1 (F_Hist_keep hy1)) 11 (F_Cargo_move (nI b) (-1) (k 11)), g2, ?_, ?_, InvB_mv I.1 a5' a6' l1, Or.inr ⟨B, R, H, D, K, n, o, InvA_mv J h1 a4' a5' a6' V2 l1 hN2⟩⟩
  · unfold KO_17 F_K_lifts; rw [h3, k7, if_pos pu_10, if_pos c, kp, show bi false = 0 from rfl, if_pos rfl, a1']; rfl
  · unfold MO_17; rw [eM, if_pos c, ml, a2']
    show Option.map _ (Option.bind (F_Mo_lays 3000 (nI b) (-1) g1) _) = _
    rw [l0, ← e7]; rfl
end ACT
