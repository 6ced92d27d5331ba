/-! ===== pure: ship, its end ===== -/
section SHE
variable {k k' : KS} {g g' g2 : HH} {hd hd' ht ht' hh hr hc : HH} {B R H D K n o N N' s x l : Nat}
theorem c136 (x1 : Int32) : ∀ (m j f : Nat) (g : HH), j + m = 90 → m < f → ∃ g', L_Mo_ship_136 N f x1 (nI j) g = some g' ∧ (∀ r, r ≠ 1 → g' r = g r) ∧ (∀ i, j ≤ i → i < 90 → g' 1 i = g 2 i) ∧ ∀ i, i < j → g' 1 i = g 1 i := by
  intro m
  induction m with
  | zero =>
    intro j f g h1 h2
    obtain ⟨f, rfl⟩ : ∃ z, f = z + 1 := ⟨f - 1, by omega⟩
    have : j = 90 := by omega
    subst this
    rw [L_Mo_ship_136, if_pos (by decide)]
    exact ⟨g, rfl, fun _ _ => rfl, fun i _ _ => by omega, fun _ _ => rfl⟩
  | succ m ih =>
    intro j f g h1 h2
    obtain ⟨f, rfl⟩ : ∃ z, f = z + 1 := ⟨f - 1, by omega⟩
    have h9 : ¬ (90 : Int32) ≤ nI j := nI_ge (a := j) (b := 90) (by omega) (by omega)
    have i9 : sv_in (nI j) 90 := pu_in (by omega) (by omega)
    rw [L_Mo_ship_136, if_neg h9, if_pos i9, if_pos i9, pu_letn, nI_1]
    obtain ⟨g', x1, x2, x3, x4⟩ := ih (j + 1) f (sa g 1 (nI j) (g 2 (nI j).toNatClampNeg)) (by omega) (by omega)
    refine ⟨g', x1, fun r h => by rw [x2 r h, pu_sa, if_neg h], fun i i1 i2 => ?_, fun i hi => ?_⟩
    · by_cases c : i = j
      · subst c
        rw [x4 i (by omega), pu_sa, if_pos rfl, nI_clamp (by omega), pu_upd, if_pos rfl]
      · rw [x3 i (by omega) i2, pu_sa, if_neg (by omega)]
    · rw [x4 i (by omega), pu_sa, if_pos rfl, nI_clamp (by omega), pu_upd, if_neg (by omega)]
theorem c173 (x1 : Int32) (hn : n ≤ 24) : ∀ (m j f : Nat) (g : HH), g 0 6 = nI n → j + m = n → m < f → ∃ g', L_Mo_ship_173 N f x1 (nI j) g = some g' ∧ (∀ r, r ≠ 4 → r ≠ 5 → r ≠ 6 → r ≠ 7 → g' r = g r) ∧ (∀ b, j ≤ b → b < n → g' 4 b = g 3 (3 * b) ∧ g' 5 b = g 3 (3 * b + 1) ∧ g' 6 b = g 3 (3 * b + 2) ∧ g' 7 b = -1) ∧ ∀ b, b < j → g' 4 b = g 4 b ∧ g' 5 b = g 5 b ∧ g' 6 b = g 6 b ∧ g' 7 b = g 7 b := by
  intro m
  induction m with
  | zero =>
    intro j f g h6 h1 h2
    obtain ⟨f, rfl⟩ : ∃ z, f = z + 1 := ⟨f - 1, by omega⟩
    rw [L_Mo_ship_173, h6, if_pos (nI_le (by omega) (by omega))]
    exact ⟨g, rfl, fun _ _ _ _ _ => rfl, fun i _ _ => by omega, fun _ _ => ⟨rfl, rfl, rfl, rfl⟩⟩
  | succ m ih =>
    intro j f g h6 h1 h2
    obtain ⟨f, rfl⟩ : ∃ z, f = z + 1 := ⟨f - 1, by omega⟩
    have e3 : (3 : Int32) * nI j = nI (3 * j) := (Int32.ofNat_mul 3 j).symm
    have e31 : nI (3 * j) + 1 = nI (3 * j + 1) := nI_1 _
    have e32 : nI (3 * j) + 2 = nI (3 * j + 2) := nI_add _ 2
    have i0 : sv_in (nI (3 * j)) 72 := pu_in (by omega) (by omega)
    have i1 : sv_in (nI (3 * j + 1)) 72 := pu_in (by omega) (by omega)
    have i2 : sv_in (nI (3 * j + 2)) 72 := pu_in (by omega) (by omega)
    have ij : sv_in (nI j) 24 := pu_in (by omega) (by omega)
    rw [L_Mo_ship_173, h6, if_neg (nI_ge (by omega) (by omega))]
    simp only [e3, e31, e32, if_pos i0, if_pos i1, if_pos i2, if_pos ij, pu_letn]
    rw [nI_clamp (n := 3 * j) (by omega), nI_clamp (n := 3 * j + 1) (by omega), nI_clamp (n := 3 * j + 2) (by omega), nI_1]
    obtain ⟨a1, ea1⟩ : ∃ a1, a1 = sa g 4 (nI j) (g 3 (3 * j)) := ⟨_, rfl⟩
    obtain ⟨a2, ea2⟩ : ∃ a2, a2 = sa a1 5 (nI j) (a1 3 (3 * j + 1)) := ⟨_, rfl⟩
    obtain ⟨a3, ea3⟩ : ∃ a3, a3 = sa a2 6 (nI j) (a2 3 (3 * j + 2)) := ⟨_, rfl⟩
    obtain ⟨a4, ea4⟩ : ∃ a4, a4 = sa a3 7 (nI j) (-1) := ⟨_, rfl⟩
    rw [← ea1, ← ea2, ← ea3, ← ea4]
    have r13 : a1 3 = g 3 := by rw [ea1, pu_sa, if_neg (by omega)]
    have r23 : a2 3 = g 3 := by rw [ea2, pu_sa, if_neg (by omega), r13]
    have q15 : a1 5 = g 5 := by rw [ea1, pu_sa, if_neg (by omega)]
    have q26 : a2 6 = g 6 := by rw [ea2, pu_sa, if_neg (by omega), ea1, pu_sa, if_neg (by omega)]
    have q37 : a3 7 = g 7 := by rw [ea3, pu_sa, if_neg (by omega), ea2, pu_sa, if_neg (by omega), ea1, pu_sa, if_neg (by omega)]
    have ro : ∀ r, r ≠ 4 → r ≠ 5 → r ≠ 6 → r ≠ 7 → a4 r = g r := fun r b c d e => by
      rw [ea4, pu_sa, if_neg e, ea3, pu_sa, if_neg d, ea2, pu_sa, if_neg c, ea1, pu_sa, if_neg b]
    have r4 : ∀ b, a4 4 b = if b = j then g 3 (3 * j) else g 4 b := fun b => by
      rw [ea4, pu_sa, if_neg (by omega), ea3, pu_sa, if_neg (by omega), ea2, pu_sa, if_neg (by omega), ea1, pu_sa, if_pos rfl, nI_clamp (by omega), pu_upd]
    have r5 : ∀ b, a4 5 b = if b = j then g 3 (3 * j + 1) else g 5 b := fun b => by
      rw [ea4, pu_sa, if_neg (by omega), ea3, pu_sa, if_neg (by omega), ea2, pu_sa, if_pos rfl, nI_clamp (by omega), pu_upd, r13, q15]
    have r6 : ∀ b, a4 6 b = if b = j then g 3 (3 * j + 2) else g 6 b := fun b => by
      rw [ea4, pu_sa, if_neg (by omega), ea3, pu_sa, if_pos rfl, nI_clamp (by omega), pu_upd, r23, q26]
    have r7 : ∀ b, a4 7 b = if b = j then -1 else g 7 b := fun b => by
      rw [ea4, pu_sa, if_pos rfl, nI_clamp (by omega), pu_upd, q37]
    obtain ⟨g', x1, x2, x3, x4⟩ := ih (j + 1) f a4 (by rw [ro 0 (by omega) (by omega) (by omega) (by omega)]; exact h6) (by omega) (by omega)
    refine ⟨g', x1, fun r b c d e => by rw [x2 r b c d e, ro r b c d e], fun b b1 b2 => ?_, fun b hb => ?_⟩
    · by_cases c : b = j
      · subst c
        obtain ⟨y1, y2, y3, y4⟩ := x4 b (by omega)
        rw [y1, y2, y3, y4, r4, r5, r6, r7, if_pos rfl, if_pos rfl, if_pos rfl, if_pos rfl]
        exact ⟨rfl, rfl, rfl, rfl⟩
      · have := x3 b (by omega) b2
        rw [ro 3 (by omega) (by omega) (by omega) (by omega)] at this
        exact this
    · obtain ⟨y1, y2, y3, y4⟩ := x4 b (by omega)
      rw [y1, y2, y3, y4, r4, r5, r6, r7, if_neg (by omega), if_neg (by omega), if_neg (by omega), if_neg (by omega)]
      exact ⟨rfl, rfl, rfl, rfl⟩
theorem or_0 : ∀ a, a < 64 → nI a ||| (0 : Int32) = nI a := by decide +kernel
theorem c247 (x1 : Int32) : ∀ (m j o f : Nat) (g : HH), g 0 11 = nI o → o < 64 → (∀ b, b < 6 → o.testBit b = (decide (b < j) && decide (g 1 (8 + b) = 2))) → j + m = 6 → m < f → ∃ g' o', L_Mo_ship_247 N f x1 (nI j) g = some g' ∧ g' 0 11 = nI o' ∧ o' < 64 ∧ (∀ b, b < 6 → o'.testBit b = decide (g 1 (8 + b) = 2)) ∧ (∀ r, r ≠ 0 → g' r = g r) ∧ ∀ i, i ≠ 11 → g' 0 i = g 0 i := by
  intro m
  induction m with
  | zero =>
    intro j o f g h11 ho hb h1 h2
    obtain ⟨f, rfl⟩ : ∃ z, f = z + 1 := ⟨f - 1, by omega⟩
    have : j = 6 := by omega
    subst this
    rw [L_Mo_ship_247, if_pos (by decide)]
    refine ⟨g, o, rfl, h11, ho, fun b b6 => ?_, fun _ _ => rfl, fun _ _ => rfl⟩
    rw [hb b b6, decide_eq_true b6, Bool.true_and]
  | succ m ih =>
    intro j o f g h11 ho hb h1 h2
    obtain ⟨f, rfl⟩ : ∃ z, f = z + 1 := ⟨f - 1, by omega⟩
    have h9 : ¬ (6 : Int32) ≤ nI j := nI_ge (a := j) (b := 6) (by omega) (by omega)
    have i9 : sv_in (nI (8 + j)) 90 := pu_in (by omega) (by omega)
    rw [L_Mo_ship_247, if_neg h9, pu_8, if_pos i9, nI_clamp (by omega), h11]
    simp only [pu_letn]
    rw [or_0 o ho, (bo o ho j (by omega)).1, nI_1]
    have step : ∀ (o1 : Nat), o1 < 64 → (∀ b, b < 6 → o1.testBit b = (decide (b < j + 1) && decide (g 1 (8 + b) = 2))) → ∃ g' o', L_Mo_ship_247 N f x1 (nI (j + 1)) (ss g 11 (nI o1)) = some g' ∧ g' 0 11 = nI o' ∧ o' < 64 ∧ (∀ b, b < 6 → o'.testBit b = decide (g 1 (8 + b) = 2)) ∧ (∀ r, r ≠ 0 → g' r = g r) ∧ ∀ i, i ≠ 11 → g' 0 i = g 0 i := by
      intro o1 ho1 hb1
      obtain ⟨g', o', y1, y2, y3, y4, y5, y6⟩ := ih (j + 1) o1 f (ss g 11 (nI o1)) (by rw [pu_ss, if_pos rfl, if_pos rfl]) ho1 (fun b hb6 => by rw [pu_ssr, if_neg (by omega)]; exact hb1 b hb6) (by omega) (by omega)
      refine ⟨g', o', y1, y2, y3, fun b hb6 => ?_, fun r h => by rw [y5 r h, pu_ssr, if_neg h], fun i h => by rw [y6 i h, pu_ss, if_pos rfl, if_neg h]⟩
      rw [y4 b hb6, pu_ssr, if_neg (by omega)]
    by_cases c : g 1 (8 + j) = 2
    · rw [ifn c]
      refine step (o ||| (1 <<< j)) (bo o ho j (by omega)).2 (fun b hb6 => ?_)
      rw [bo2 o ho j (by omega) b hb6, hb b hb6]
      by_cases cb : b = j
      · subst cb
        rw [decide_eq_true c, decide_eq_true (show b < b + 1 by omega), decide_eq_true (show b = b from rfl), Bool.or_true, Bool.true_and]
      · rw [decide_eq_false cb, Bool.or_false]
        by_cases cl : b < j
        · rw [decide_eq_true cl, decide_eq_true (show b < j + 1 by omega)]
        · rw [decide_eq_false cl, decide_eq_false (show ¬ b < j + 1 by omega)]
    · rw [if_pos c]
      refine step o ho (fun b hb6 => ?_)
      rw [hb b hb6]
      by_cases cb : b = j
      · subst cb
        rw [decide_eq_false c, Bool.and_false, Bool.and_false]
      · by_cases cl : b < j
        · rw [decide_eq_true cl, decide_eq_true (show b < j + 1 by omega)]
        · rw [decide_eq_false cl, decide_eq_false (show ¬ b < j + 1 by omega)]
theorem lp_n (hn : n ≤ 24) : ∀ (q j f : Nat) (gm : HH), gm 0 6 = nI n → j + q = n → q < f → (∀ b, b < n → gm 7 b = -1) → L_Mo_laysPlaces_24 N f (nI j) gm = some gm := by
  intro q
  induction q with
  | zero =>
    intro j f gm h6 h1 h2 h7
    obtain ⟨f, rfl⟩ : ∃ z, f = z + 1 := ⟨f - 1, by omega⟩
    rw [L_Mo_laysPlaces_24, h6, if_pos (nI_le (by omega) (by omega))]
  | succ q ih =>
    intro j f gm h6 h1 h2 h7
    obtain ⟨f, rfl⟩ : ∃ z, f = z + 1 := ⟨f - 1, by omega⟩
    rw [L_Mo_laysPlaces_24, h6, if_neg (nI_ge (by omega) (by omega)), if_pos (pu_in (by omega) (by omega)), if_pos (show gm 7 (nI j).toNatClampNeg = -1 by rw [nI_clamp (by omega)]; exact h7 j (by omega)), nI_1]
    exact ih (j + 1) f gm h6 (by omega) (by omega) h7
/-- the reference takes the draft over -/
theorem end_ok (Dr : DR hh hr hc g B R H D K n) (h20 : g 0 20 = 0) (x1 : Int32) (hN : 200 ≤ N) : ∃ g' o, shipE N (x1, g) = some (x1, g') ∧ VS hh hr hc g' B R H D K n o ∧ g' 0 11 = nI o ∧ g' 0 1 = 1 ∧ (∀ p, p < 144 → g' 8 p = -1) ∧ g' 0 22 = 0 ∧ g' 0 32 = 0 ∧ g' 0 37 = -1 ∧ (∀ j, j ≠ 1 → j ≠ 6 → j ≠ 11 → j ≠ 22 → j ≠ 32 → j ≠ 37 → g' 0 j = g 0 j) ∧ g' 22 = g 22 := by
  obtain ⟨dh, dr, ⟨c1, c2, c3⟩, c4, c5, c6⟩ := Dr
  obtain ⟨g1, e1⟩ : ∃ g1, g1 = ss g 1 1 := ⟨_, rfl⟩
  have f1 : ∀ j, g1 0 j = if j = 1 then 1 else g 0 j := fun j => by rw [e1, pu_ss, if_pos rfl]
  have r1 : ∀ r, r ≠ 0 → g1 r = g r := fun r h => by rw [e1, pu_ssr, if_neg h]
  obtain ⟨g2, a1, a2, a3, -⟩ := c136 (N := N) x1 90 0 N g1 (by omega) (by omega)
  rw [show nI 0 = (0 : Int32) from rfl] at a1
  have t7 : g2 2 7 = nI n := by rw [a2 2 (by omega), r1 2 (by omega)]; exact c2
  obtain ⟨g3, e3⟩ : ∃ g3, g3 = ss g2 6 (nI n) := ⟨_, rfl⟩
  have f3 : ∀ j, g3 0 j = if j = 6 then nI n else g2 0 j := fun j => by rw [e3, pu_ss, if_pos rfl]
  have r3 : ∀ r, r ≠ 0 → g3 r = g2 r := fun r h => by rw [e3, pu_ssr, if_neg h]
  obtain ⟨g4, b1, b2, b3, -⟩ := c173 (N := N) (n := n) x1 c3 n 0 N g3 (f3 6) (by omega) (by omega)
  rw [show nI 0 = (0 : Int32) from rfl] at b1
  obtain ⟨g5, e5⟩ : ∃ g5, g5 = ss g4 11 0 := ⟨_, rfl⟩
  have f5 : ∀ j, g5 0 j = if j = 11 then 0 else g4 0 j := fun j => by rw [e5, pu_ss, if_pos rfl]
  have r5 : ∀ r, r ≠ 0 → g5 r = g4 r := fun r h => by rw [e5, pu_ssr, if_neg h]
  obtain ⟨g6, o, d1, d2, d3, d4, d5, d6⟩ := c247 (N := N) x1 6 0 0 N g5 (f5 11) (by omega) (fun b hb => by rw [Nat.zero_testBit, decide_eq_false (by omega), Bool.false_and]) (by omega) (by omega)
  rw [show nI 0 = (0 : Int32) from rfl] at d1
  obtain ⟨g7, l1, l2, l3, -⟩ := lp_2 (N := N) 144 0 N g6 (by omega) (by omega)
  rw [show nI 0 = (0 : Int32) from rfl] at l1
  have f4 : g4 0 = g3 0 := b2 0 (by omega) (by omega) (by omega) (by omega)
  have q6 : g7 0 6 = nI n := by rw [l2 0 (by omega), d6 6 (by omega), f5, if_neg (by omega), f4, f3, if_pos rfl]
  have rr : ∀ r, r ≠ 0 → r ≠ 8 → g7 r = g4 r := fun r h h8 => by rw [l2 r h8, d5 r h, r5 r h]
  have q7 : ∀ b, b < n → g7 7 b = -1 := fun b hb => by rw [rr 7 (by omega) (by omega)]; exact (b3 b (by omega) hb).2.2.2
  have lp := lp_n (N := N) c3 n 0 N g7 q6 (by omega) (by omega) q7
  rw [show nI 0 = (0 : Int32) from rfl] at lp
  obtain ⟨g8, e8⟩ : ∃ g8, g8 = ss (ss (ss g7 22 0) 32 0) 37 (-1) := ⟨_, rfl⟩
  have f8 : ∀ j, g8 0 j = if j = 37 then -1 else if j = 32 then 0 else if j = 22 then 0 else g7 0 j := fun j => by
    rw [e8, pu_ss, if_pos rfl, pu_ss, if_pos rfl, pu_ss, if_pos rfl]
  have r8 : ∀ r, r ≠ 0 → g8 r = g7 r := fun r h => by rw [e8, pu_ssr, if_neg h, pu_ssr, if_neg h, pu_ssr, if_neg h]
  have i7 : sv_in (7 : Int32) 90 := by decide
  have cl7 : ((7 : Int32)).toNatClampNeg = 7 := rfl
  have eE : shipE N (x1, g) = some (x1, g8) := by
    unfold shipE F_Mo_laysPlaces
    dsimp only
    rw [good_1 h20, if_pos pu_10, pu_letn, ← e1, a1, bind_sn, if_pos i7, cl7, t7, pu_letn, ← e3, b1, bind_sn, pu_letn, ← e5, d1, bind_sn, l1, bind_sn, lp, bind_sn, bind_sn]
    simp only [pu_letn]
    rw [← e8]
  -- the ship's row
  have s1 : ∀ j, j < 90 → g8 1 j = g 2 j := fun j hj => by
    rw [r8 1 (by omega), rr 1 (by omega) (by omega), b2 1 (by omega) (by omega) (by omega) (by omega), r3 1 (by omega), a3 j (by omega) hj, r1 2 (by omega)]
  have s43 : ∀ i, g3 3 i = g 3 i := fun i => by rw [r3 3 (by omega), a2 3 (by omega), r1 3 (by omega)]
  have sb : ∀ b, b < n → g8 4 b = g 3 (3 * b) ∧ g8 5 b = g 3 (3 * b + 1) ∧ g8 6 b = g 3 (3 * b + 2) ∧ g8 7 b = -1 := fun b hb => by
    obtain ⟨x1, x2, x3, x4⟩ := b3 b (by omega) hb
    rw [r8 4 (by omega), r8 5 (by omega), r8 6 (by omega), r8 7 (by omega), rr 4 (by omega) (by omega), rr 5 (by omega) (by omega), rr 6 (by omega) (by omega), rr 7 (by omega) (by omega), x1, x2, x3, x4, s43, s43, s43]
    exact ⟨rfl, rfl, rfl, rfl⟩
  have s8 : ∀ p, p < 144 → g8 8 p = -1 := fun p hp => by rw [r8 8 (by omega)]; exact l3 p (by omega) hp
  have ft : ∀ b, b < 6 → o.testBit b = decide (g 2 (8 + b) = 2) := fun b hb => by
    rw [d4 b hb, r5 1 (by omega), b2 1 (by omega) (by omega) (by omega) (by omega), r3 1 (by omega), a3 (8 + b) (by omega) (by omega), r1 2 (by omega)]
  obtain ⟨⟨⟨p1, p2, p3, p4⟩, p5⟩, x2, ⟨y1, y2, y3⟩, x4, x5⟩ := dh
  have wv : ∀ b, b < 6 → hh 5 b = wallv g8 o b := fun b hb => by
    unfold wallv
    rw [s1 (8 + b) (by omega), ft b hb]
    obtain ⟨z1, -, -, -⟩ := x5 b hb
    by_cases c : g 2 (8 + b) = 2
    · rw [if_pos c, decide_eq_true c, if_pos rfl, z1, c]
    · rw [if_neg c, z1]
  have VV : VS hh hr hc g8 B R H D K n o := by
    refine ⟨⟨⟨(s1 0 (by omega)).trans p1, (s1 1 (by omega)).trans p2, (s1 2 (by omega)).trans p3, (s1 3 (by omega)).trans p4⟩, p5⟩, ⟨fun b hb => ?_, fun b hb hB => ?_, d3⟩, ⟨⟨x2.1, x2.2.1, x2.2.2.1, x2.2.2.2.1, x2.2.2.2.2, ?_, ?_⟩, x4, fun b hb => ⟨wv b hb, ?_⟩⟩, ?_, ⟨⟨?_, c3⟩, fun b hb => ?_, fun p hp => Or.inl (s8 p hp)⟩, ⟨c1, fun b hb => ?_, fun p hp => ?_⟩⟩
    · rw [s1 (8 + b) (by omega)]; exact (x5 b hb).2.2.1
    · rw [s1 (8 + b) (by omega)]; exact (x5 b hb).2.2.2 hB
    · rw [s1 4 (by omega)]; exact y1
    · rw [s1 5 (by omega)]; exact y2
    · rw [(x5 b hb).2.1, shutF_S _ g8 o b (fun c hc => wv c (by omega))]
    · obtain ⟨gx, egx⟩ : ∃ gx : HH, gx = fun r => if r = 2 then g8 1 else g r := ⟨_, rfl⟩
      have ex : gx 2 = g8 1 := by rw [egx]; rfl
      have dr2 : RRel hr (gv gx) K := RRel_o dr (fun j hj _ => by rw [ex]; exact s1 j hj)
      have e : gv gx 1 = g8 1 := ex
      unfold RRel LvOK at dr2 ⊢
      rw [e] at dr2
      exact dr2
    · rw [f8, if_neg (by omega), if_neg (by omega), if_neg (by omega)]; exact q6
    · obtain ⟨z1, z2, z3, z4⟩ := sb b hb
      obtain ⟨⟨kd, k1, k2, k3⟩, ⟨w, w1, w2, w3, w4⟩, ⟨t, t1, t2, t3, t4⟩⟩ := c4 b hb
      rw [z1, z2, z3, z4]
      exact ⟨⟨kd, k1, k3⟩, ⟨w, w1, w2, w4⟩, ⟨t, t1, t2, t4⟩, Or.inl rfl⟩
    · obtain ⟨z1, z2, z3, z4⟩ := sb b hb
      obtain ⟨⟨kd, k1, k2, k3⟩, ⟨w, w1, w2, w3, w4⟩, ⟨t, t1, t2, t3, t4⟩⟩ := c4 b hb
      rw [z1, z2, z3, z4, k2, k3, w3, w4, t3, t4]
      exact ⟨rfl, rfl, rfl, c5 b (by omega)⟩
    · rw [s8 p hp]; exact c6 p hp
  refine ⟨g8, o, eE, VV, ?_, ?_, s8, ?_, ?_, ?_, fun j a b c d e f => ?_, ?_⟩
  · rw [f8, if_neg (by omega), if_neg (by omega), if_neg (by omega), l2 0 (by omega)]; exact d2
  · rw [f8, if_neg (by omega), if_neg (by omega), if_neg (by omega), l2 0 (by omega), d6 1 (by omega), f5, if_neg (by omega), f4, f3, if_neg (by omega), a2 0 (by omega), f1, if_pos rfl]
  · rw [f8, if_neg (by omega), if_neg (by omega), if_pos rfl]
  · rw [f8, if_neg (by omega), if_pos rfl]
  · rw [f8, if_pos rfl]
  · rw [f8, if_neg f, if_neg e, if_neg d, l2 0 (by omega), d6 j c, f5, if_neg c, f4, f3, if_neg b, a2 0 (by omega), f1, if_neg a]
  · rw [r8 22 (by omega), rr 22 (by omega) (by omega), b2 22 (by omega) (by omega) (by omega) (by omega), r3 22 (by omega), a2 22 (by omega), r1 22 (by omega)]
theorem end_b (h20 : g 0 20 ≠ 0) (x1 : Int32) : shipE N (x1, g) = some (-4, g) := by
  unfold shipE
  dsimp only
  rw [good_0 h20, ife0]
theorem sim_2 : Sim_2 Inv := by
  intro k g I
  obtain ⟨s, T⟩ : ∃ s, TpR (k 7) g s := by
    obtain ⟨s, t1, t2, t3, t4⟩ := I.1.1
    exact ⟨s, t1, t2, t3, t4⟩
  obtain ⟨N, hN⟩ : ∃ N : Nat, 1000 ≤ N := ⟨1000, Nat.le_refl _⟩
  obtain ⟨x, x', hd', ht', hh', hr', hc', g1, a1, a2, P, F, a3⟩ := text_ok (N := N) (N' := N) T (k 6) (k 13) (k 14) (k 15) hN hN
  obtain ⟨t, ht13, hyt⟩ : ∃ t, t < 13 ∧ k 1 0 1 = nI t := by
    rcases I.2 with J | ⟨B, R, H, D, K, n, o, J⟩
    · exact J.2.2.2.2.2.2
    · obtain ⟨s, t, M, z1, z2, z3, z4, -⟩ := J.2.2.2.2.2.1
      exact ⟨t, z2, z4⟩
  obtain ⟨tt, u1, u2, u3, u4⟩ := I.1.2.2
  by_cases h : hd' 0 0 = 0
  · obtain ⟨ex, B, R, H, D, K, n, Dr⟩ := a3 h
    subst ex
    obtain ⟨g2, o, b1, V, b2, b3, b4, b5, b6, b7, b8, b9⟩ := end_ok (N := N) Dr (by rw [← P.1.1]; exact h) x (by omega)
    have eK : F_K_ship N (k 0) (k 1) (k 2) (k 3) (k 6) (k 7) (k 8) (k 9) (k 10) (k 11) (k 12) (k 13) (k 14) (k 15) = some (x, true, ss (k 0) 7 1, ss (k 1) 0 0, ss (k 2) 0 0, ss (ss (k 3) 0 (-1)) 1 (-1), hd', ss ht' 1 0, k 12, hh', hr', hc', k 8, k 9, k 10, k 11) := by
      unfold F_K_ship F_Hist_forget F_Load_forget F_Shif_forget
      rw [a1, bind_sn]
      simp only [pu_letn]
      rw [if_pos h]
    refine ⟨N, N, x, (ku (ku (ku (ku (ku (ku (ku (ku (ku (ku (ku (ku (ku (ku k 0 (ss (k 0) 7 1)) 1 (ss (k 1) 0 0)) 2 (ss (k 2) 0 0)) 3 (ss (ss (k 3) 0 (-1)) 1 (-1))) 6 hd') 7 (ss ht' 1 0)) 8 (k 12)) 9 hh') 10 hr') 11 hc') 12 (k 8)) 13 (k 9)) 14 (k 10)) 15 (k 11)), g2, true, ?_, ?_, ?_⟩
    · unfold KO_2
      rw [eK]
      rfl
    · unfold MO_2
      rw [a2, b1]
      rfl
    · refine ⟨⟨⟨0, by omega, ?_, ?_, fun i hi => by omega⟩, ⟨?_, ?_⟩, tt, u1, ?_, ?_, ?_⟩, Or.inr ⟨B, R, H, D, K, n, o, ?_, b3, ?_, b2, ?_, ?_, ?_, ?_⟩⟩
      · show ss ht' 1 0 0 1 = nI 0; rw [pu_ss]; rfl
      · rw [b8 14 (by omega) (by omega) (by omega) (by omega) (by omega) (by omega), F.2.2]; rfl
      · simp only [pu_ku]; rw [b8 20 (by omega) (by omega) (by omega) (by omega) (by omega) (by omega)]; exact P.1.1
      · simp only [pu_ku]; rw [b8 21 (by omega) (by omega) (by omega) (by omega) (by omega) (by omega)]; exact P.1.2
      · simp only [pu_ku]; exact u2
      · rw [b8 46 (by omega) (by omega) (by omega) (by omega) (by omega) (by omega), F.2.1 46 (by omega) (by omega)]; exact u3
      · simp only [pu_ku]; rw [b9, F.1 22 (by omega) (by omega) (by omega)]; exact u4
      · show ss (k 0) 7 1 0 7 = 1; rw [pu_ss]; rfl
      · simp only [pu_ku]; exact V
      · intro p hp z; exact absurd (b4 p (by have := V.pp; omega)) z
      · show HiR (ss (k 1) 0 0) g2 H D (plN B R H D) n
        exact ⟨0, t, fun _ => 0, by omega, ht13, by rw [pu_ss]; rfl, by rw [pu_ss, if_pos rfl, if_neg (by omega)]; exact hyt, b5, fun i hi => by omega, fun i j _ hj => by omega, fun i hi => by omega⟩
      · show ToR (ss (k 2) 0 0) g2 (plN B R H D)
        refine ⟨by rw [b6, pu_ss]; rfl, Or.inl (by rw [pu_ss]; rfl)⟩
      · show ShR (ss (ss (k 3) 0 (-1)) 1 (-1)) g2
        have z0 : ss (ss (k 3) 0 (-1)) 1 (-1) 0 0 = -1 := by rw [pu_ss, if_pos rfl, if_neg (by omega), pu_ss, if_pos rfl, if_pos rfl]
        have z1 : ss (ss (k 3) 0 (-1)) 1 (-1) 0 1 = -1 := by rw [pu_ss, if_pos rfl, if_pos rfl]
        exact ⟨by rw [z0, b7], Or.inl ⟨z0, z1⟩⟩
  · have eK : F_K_ship N (k 0) (k 1) (k 2) (k 3) (k 6) (k 7) (k 8) (k 9) (k 10) (k 11) (k 12) (k 13) (k 14) (k 15) = some (-4, false, k 0, k 1, k 2, k 3, hd', ss ht' 1 0, k 8, k 9, k 10, k 11, k 12, hh', hr', hc') := by
      unfold F_K_ship
      rw [a1, bind_sn]
      simp only [pu_letn]
      rw [if_neg h]
    refine ⟨N, N, -4, (ku (ku (ku (ku (ku (ku (ku (ku (ku (ku (ku (ku (ku (ku k 0 (k 0)) 1 (k 1)) 2 (k 2)) 3 (k 3)) 6 hd') 7 (ss ht' 1 0)) 8 (k 8)) 9 (k 9)) 10 (k 10)) 11 (k 11)) 12 (k 12)) 13 hh') 14 hr') 15 hc'), g1, false, ?_, ?_, ?_⟩
    · unfold KO_2
      rw [eK]
      rfl
    · unfold MO_2
      rw [a2, end_b (by rw [← P.1.1]; exact h)]
      rfl
    · refine ⟨⟨⟨0, by omega, ?_, ?_, fun i hi => by omega⟩, ⟨?_, ?_⟩, tt, u1, ?_, ?_, ?_⟩, ?_⟩
      · show ss ht' 1 0 0 1 = nI 0; rw [pu_ss]; rfl
      · rw [F.2.2]; rfl
      · simp only [pu_ku]; exact P.1.1
      · simp only [pu_ku]; exact P.1.2
      · simp only [pu_ku]; exact u2
      · rw [F.2.1 46 (by omega) (by omega)]; exact u3
      · simp only [pu_ku]; rw [F.1 22 (by omega) (by omega) (by omega)]; exact u4
      · rcases I.2 with J | ⟨B, R, H, D, K, n, o, J⟩
        · left
          unfold InvN at *
          simp only [pu_ku]
          rw [F.2.1 1 (by omega) (by omega), F.2.1 6 (by omega) (by omega), F.2.1 22 (by omega) (by omega), F.1 1 (by omega) (by omega) (by omega)]
          exact J
        · right
          refine ⟨B, R, H, D, K, n, o, ?_⟩
          have hn := J.2.2.1.nn
          refine ⟨?_, ?_, ?_, ?_, ?_, ?_, ?_, ?_⟩
          · simp only [pu_ku]; exact J.1
          · rw [F.2.1 1 (by omega) (by omega)]; exact J.2.1
          · simp only [pu_ku]
            exact J.2.2.1.cg (F.1 1 (by omega) (by omega) (by omega)) (F.2.1 6 (by omega) (by omega)) (F.1 4 (by omega) (by omega) (by omega)) (F.1 5 (by omega) (by omega) (by omega)) (F.1 6 (by omega) (by omega) (by omega)) (F.1 7 (by omega) (by omega) (by omega)) (F.1 8 (by omega) (by omega) (by omega))
          · rw [F.2.1 11 (by omega) (by omega)]; exact J.2.2.2.1
          · unfold NoH; rw [F.1 8 (by omega) (by omega) (by omega)]; exact J.2.2.2.2.1
          · simp only [pu_ku]
            exact HiR_c hn J.2.2.2.2.2.1 (Nat.le_refl _) (F.2.1 22 (by omega) (by omega)) (F.1 10 (by omega) (by omega) (by omega)) (F.1 1 (by omega) (by omega) (by omega)) (fun b _ => by rw [F.1 4 (by omega) (by omega) (by omega), F.1 5 (by omega) (by omega) (by omega), F.1 6 (by omega) (by omega) (by omega)]; exact ⟨rfl, rfl, rfl⟩)
          · simp only [pu_ku]
            exact ToR_c J.2.2.2.2.2.2.1 (F.2.1 32 (by omega) (by omega)) (F.1 14 (by omega) (by omega) (by omega)) (F.1 15 (by omega) (by omega) (by omega))
          · simp only [pu_ku]
            exact ShR_c J.2.2.2.2.2.2.2 (F.2.1 37 (by omega) (by omega)) (F.1 16 (by omega) (by omega) (by omega))
end SHE
