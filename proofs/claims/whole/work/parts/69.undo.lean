/-! ===== pure: doors once more, undo ===== -/
section UNDO
variable {k k' : KS} {g g' : HH} {hy hv hh hr hc ht : HH} {B R H D K n o N N' : Nat}
theorem VS.same (V : VS hh hr hc g B R H D K n o) {o' : Nat} (ho' : o' < 64) (hw : ∀ c, c < 6 → wallv g o' c = wallv g o c) : VS hh hr hc g B R H D K n o' := by
  refine V.wall ho' (fun _ _ _ => rfl) (fun b hb => by rw [hw b hb]; exact (V.2.2.1.2.2 b hb).1) ?_
  intro b hb
  rw [(V.2.2.1.2.2 b hb).2, shutF_S _ g o b (fun c hc => (V.2.2.1.2.2 c (by omega)).1)]
/-- a set of doors with one door as another set has it -/
theorem nx_bit {o s j : Nat} (ho : o < 64) (hj : j < 6) : ∃ o1, o1 < 64 ∧ o1.testBit j = s.testBit j ∧ ∀ c, c < 6 → c ≠ j → o1.testBit c = o.testBit c := by
  by_cases e : o.testBit j = s.testBit j
  · exact ⟨o, ho, e, fun _ _ _ => rfl⟩
  · obtain ⟨-, x2⟩ := bx o ho j hj
    refine ⟨o ^^^ (1 <<< j), x2, ?_, ?_⟩
    · rw [bx2 o ho j hj j hj]
      revert e
      cases o.testBit j <;> cases s.testBit j <;> simp
    · intro c hc hcj; rw [bx2 o ho j hj c hc]; simp [hcj]
/-- walls told one by one as another set of doors has them -/
theorem setW_to (V : VS hh hr hc g B R H D K n o) {j s : Nat} (hj : j < 6) (hs : s < 64) (hN : 10 ≤ N) : ∃ hh' o', F_Hull_setWall N (nI j) (wallv g s j) hh = some hh' ∧ VS hh' hr hc g B R H D K n o' ∧ o'.testBit j = s.testBit j ∧ ∀ c, c < 6 → c ≠ j → o'.testBit c = o.testBit c := by
  obtain ⟨o1, y1, y2, y3⟩ := nx_bit (o := o) (s := s) (j := j) V.2.1.2.2 hj
  obtain ⟨hh1, w1, V1⟩ := setW_ok (N := N) V hj (wallv g s j) y1 (wv_bit y2).symm (fun c hc hcb => wv_bit (y3 c hc hcb)) hN
  exact ⟨hh1, o1, w1, V1, y2, y3⟩
theorem restD_L {s : Nat} (hs : s < 64) (hv1 : ∀ c, c < B → hv 1 c = wallv g s c) (hN : 10 ≤ N) : ∀ (m j f : Nat) (hh : HH) (o : Nat), VS hh hr hc g B R H D K n o → j + m = B → m < f → ∃ hh' o', L_Ves_restoreDoors_2 N f (nI j) hv hh = some hh' ∧ VS hh' hr hc g B R H D K n o' ∧ (∀ c, c < B → j ≤ c → o'.testBit c = s.testBit c) ∧ ∀ c, c < j → o'.testBit c = o.testBit c := by
  intro m
  induction m with
  | zero =>
    intro j f hh o V h1 h2
    obtain ⟨f, rfl⟩ : ∃ z, f = z + 1 := ⟨f - 1, by omega⟩
    have : j = B := by omega
    subst this
    have r1 : hh 0 0 = nI j := V.2.2.1.1.1
    unfold L_Ves_restoreDoors_2
    rw [r1, if_pos (Int32.le_refl _)]
    exact ⟨hh, o, rfl, V, fun c c1 c2 => by omega, fun _ _ => rfl⟩
  | succ m ih =>
    intro j f hh o V h1 h2
    obtain ⟨f, rfl⟩ : ∃ z, f = z + 1 := ⟨f - 1, by omega⟩
    have hB : B ≤ 6 := V.1.2.2.1
    have r1 : hh 0 0 = nI B := V.2.2.1.1.1
    unfold L_Ves_restoreDoors_2
    rw [r1, if_neg (nI_ge (by omega) (by omega)), nI_1, pu_rd _ (by omega) (by omega), hv1 j (by omega)]
    obtain ⟨hh1, o1, w1, V1, y2, y3⟩ := setW_to (N := N) V (j := j) (by omega) hs hN
    rw [w1]
    simp only [Option.bind_some]
    obtain ⟨hh', o', i1, i2, i3, i4⟩ := ih (j + 1) f hh1 o1 V1 (by omega) (by omega)
    refine ⟨hh', o', i1, i2, ?_, ?_⟩
    · intro c hc hj
      rcases Nat.lt_or_ge j c with w | w
      · exact i3 c hc w
      · have : c = j := by omega
        subst this
        rw [i4 c (by omega), y2]
    · intro c hc; rw [i4 c (by omega), y3 c (by omega) (by omega)]
theorem most_L (a : Nat) (ha : a < 64) : ∀ (m s f f' : Nat) (hh : HH) (o : Nat) (bs : Int32), VS hh hr hc g B R H D K n o → s + m = a + 1 → m < f → m < f' → (bs = -1 ∨ ∃ q, q < 64 ∧ bs = nI q) → ∃ v hh' o', L_Ves_mostDoors_9 100 f (nI a) bs (nI s) hh hr hc = some (v, hh') ∧ L_Mo_doors_68 100 f' (nI a) bs (nI s) g = some v ∧ VS hh' hr hc g B R H D K n o' := by
  intro m
  induction m with
  | zero =>
    intro s f f' hh o bs V h1 h2 h3 h4
    obtain ⟨f, rfl⟩ : ∃ z, f = z + 1 := ⟨f - 1, by omega⟩
    obtain ⟨f', rfl⟩ : ∃ z, f' = z + 1 := ⟨f' - 1, by omega⟩
    unfold L_Ves_mostDoors_9 L_Mo_doors_68
    rw [if_pos (nI_lt (by omega) (by omega)), if_pos (nI_lt (by omega) (by omega))]
    exact ⟨bs, hh, o, rfl, rfl, V⟩
  | succ m ih =>
    intro s f f' hh o bs V h1 h2 h3 h4
    obtain ⟨f, rfl⟩ : ∃ z, f = z + 1 := ⟨f - 1, by omega⟩
    obtain ⟨f', rfl⟩ : ∃ z, f' = z + 1 := ⟨f' - 1, by omega⟩
    unfold L_Ves_mostDoors_9 L_Mo_doors_68
    have hs : s < 64 := by omega
    obtain ⟨hh1, w1, V1⟩ := open_ok (N := 100) V hs (by omega)
    have hsub := bsub s hs a ha
    have hT := Tw_le (g := g) (o := s) (R := R) (H := H) (D := D) V.nn
    rw [if_neg (nI_nlt (by omega) (by omega)), if_neg (nI_nlt (by omega) (by omega)), nI_1, w1, bcnt s hs, twos_eq V1 (by omega)]
    simp only [pu_let, Option.bind_some]
    rw [countNear_eq V1 (by omega)]
    simp only [Option.bind_some]
    by_cases c1 : nI s &&& nI a = nI s
    case neg =>
      rw [if_pos c1, if_pos (fun z => c1 (hsub.mpr z))]
      exact ih (s + 1) f f' hh o bs V (by omega) (by omega) (by omega) h4
    rw [ifn c1, ifn (hsub.mp c1)]
    by_cases c2 : Tw g s R H D n = 0
    · have z1 : nI (Tw g s R H D n) = 0 := by rw [c2]; rfl
      have z2 : nI (Tw g s R H D n) ≤ 0 := by rw [c2]; decide
      rw [if_pos z2, ifn z1]
      rcases h4 with rfl | ⟨q, hq, rfl⟩
      · rw [if_pos rfl, if_neg pu_10, if_pos rfl]
        exact ih (s + 1) f f' hh1 s (nI s) V1 (by omega) (by omega) (by omega) (Or.inr ⟨s, hs, rfl⟩)
      · rw [if_neg (pu_m1 (by omega)), if_neg (pu_m1 (by omega)), bcnt q hq]
        simp only [Option.bind_some]
        by_cases c3 : F_Int_bitCount (nI s) ≤ F_Int_bitCount (nI q)
        · rw [if_pos c3, if_pos rfl, if_pos c3]
          exact ih (s + 1) f f' hh o _ V (by omega) (by omega) (by omega) (Or.inr ⟨q, hq, rfl⟩)
        · rw [if_neg c3, if_neg pu_10, if_neg c3]
          exact ih (s + 1) f f' hh1 s (nI s) V1 (by omega) (by omega) (by omega) (Or.inr ⟨s, hs, rfl⟩)
    · have z1 : ¬ nI (Tw g s R H D n) = 0 := nI_ne0 (by omega) (by omega)
      have z2 : ¬ nI (Tw g s R H D n) ≤ 0 := nI_nle (by omega) (by omega)
      rw [if_neg z2, if_pos z1]
      by_cases z3 : (if bs = -1 then (1 : Int32) else if F_Int_bitCount (nI s) ≤ F_Int_bitCount bs then 0 else 1) = 0
      · rw [if_pos z3]
        exact ih (s + 1) f f' hh o bs V (by omega) (by omega) (by omega) h4
      · rw [if_neg z3]
        exact ih (s + 1) f f' hh1 s bs V1 (by omega) (by omega) (by omega) h4
/-- the state after a call that left the doors as they were -/
theorem Inv_h (I : InvB k g) (J : InvA k g B R H D K n o) {hv' hh' : HH} (V : VS hh' (k 10) (k 11) g B R H D K n o) : Inv (ku (ku k 8 hv') 9 hh') g := by
  refine ⟨?_, Or.inr ⟨B, R, H, D, K, n, o, ?_⟩⟩
  · refine InvB_c I ?_ ?_ ?_ rfl rfl rfl rfl rfl rfl
    all_goals simp only [pu_ku]; rfl
  · obtain ⟨j1, j2, j3, j4, j5, j6, j7, j8⟩ := J
    refine ⟨?_, j2, ?_, j4, j5, ?_, ?_, ?_⟩
    all_goals simp only [pu_ku]
    · exact j1
    · exact V
    · exact j6
    · exact j7
    · exact j8
theorem sim_22 : Sim_22 Inv := by
  intro a1 k g I
  have same : ∀ v, F_K_doors 100 a1 (k 0) (k 8) (k 9) (k 10) (k 11) = some (v, k 8, k 9) → F_Mo_doors 100 a1 g = some v → ∃ (N N' : Nat) (v : Int32) (k' : KS) (g' : HH), KO_22 N a1 k = some (v, k') ∧ MO_22 N' a1 g = some (v, g') ∧ Inv k' g' := by
    intro v h1 h2
    refine ⟨100, 100, v, k, g, ?_, ?_, I⟩
    · unfold KO_22; rw [h1]; show some (v, ku (ku k 8 (k 8)) 9 (k 9)) = _
      rw [ku_self, ku_self]
    · unfold MO_22; rw [h2]; rfl
  rcases i_there I with ⟨B, R, H, D, K, n, o, J, h1, h2⟩ | ⟨J, h1, h2⟩
  case inr =>
    refine same (-2) ?_ ?_
    · unfold F_K_doors; rw [h1]; rfl
    · unfold F_Mo_doors; rw [h2]; rfl
  have V := J.2.2.1
  have ho := J.2.2.2.1
  have hB : B ≤ 6 := V.1.2.2.1
  have i1 : F_Mo_in a1.toInt64 0 1 = F_K_within a1 0 1 := pu_inw a1 0 1
  rcases pu_wc a1 0 1 (by omega) (by omega) with ⟨d, d1, d2, d3, d4⟩ | ⟨d1, d4⟩
  case inr =>
    have d5 : F_K_within a1 0 1 = 0 := d4
    have z0 : ¬ a1 = 0 := d1 0 (by omega) (by omega)
    have z1 : ¬ a1 = 1 := d1 1 (by omega) (by omega)
    refine same (-2) ?_ ?_
    · unfold F_K_doors; rw [h1, if_pos pu_10, if_neg z0, if_neg z1]
    · unfold F_Mo_doors; rw [h2, if_neg pu_10, i1, d5, ife0]
  have d5 : F_K_within a1 0 1 = 1 := d4
  have hd : d = 0 ∨ d = 1 := by omega
  rcases hd with rfl | rfl
  · subst d3
    obtain ⟨v, hh', e1, e2, V'⟩ := free_d (N := 100) (N' := 100) V ho (by omega) (by omega)
    refine ⟨100, 100, v, ku (ku k 8 (k 8)) 9 hh', g, ?_, ?_, Inv_h I.1 J V'⟩
    · unfold KO_22 F_K_doors
      rw [h1, if_pos pu_10, show nI 0 = 0 from rfl, if_pos rfl, e1]; rfl
    · unfold MO_22 F_Mo_doors
      rw [h2, if_neg pu_10, i1, d5, if_pos pu_10, show nI 0 = 0 from rfl, ife0, e2]; rfl
  · subst d3
    obtain ⟨hv', a, b1, b2, b3, b4, -⟩ := keepD_L (N := 100) (N' := 100) V B 0 100 (k 8) 0 (by omega) (by omega) (by omega)
    rw [show nI 0 = 0 from rfl] at b1 b3
    obtain ⟨v, hh1, o1, c1, c2, V1⟩ := most_L a b2 (a + 1) 0 100 100 (k 9) o (-1) V (by omega) (by omega) (by omega) (Or.inl rfl)
    rw [show nI 0 = 0 from rfl] at c1 c2
    obtain ⟨hh2, o2, e1, V2, e3, -⟩ := restD_L (N := 100) (s := o) (hv := hv') V.2.1.2.2 (fun c hc => b4 c hc (by omega)) (by omega) B 0 100 hh1 o1 V1 (by omega) (by omega)
    rw [show nI 0 = 0 from rfl] at e1
    have V3 : VS hh2 (k 10) (k 11) g B R H D K n o := by
      refine V2.same V.2.1.2.2 ?_
      intro c hc
      rcases Nat.lt_or_ge c B with y | y
      · exact wv_bit (e3 c y (by omega)).symm
      · refine wv_non ?_ o2 o
        rw [V.2.1.2.1 c hc (by omega)]
        decide
    refine ⟨100, 100, v, ku (ku k 8 hv') 9 hh2, g, ?_, ?_, Inv_h I.1 J V3⟩
    · unfold KO_22 F_K_doors F_Ves_mostDoors F_Ves_keepDoors F_Ves_restoreDoors
      rw [h1, if_pos pu_10, show nI 1 = 1 from rfl, if_neg pu_10, if_pos rfl, b1]
      simp only [Option.bind_some]
      rw [c1]
      simp only [Option.bind_some]
      rw [e1]; rfl
    · unfold MO_22 F_Mo_doors
      rw [h2, if_neg pu_10, i1, d5, if_pos pu_10, show nI 1 = 1 from rfl, if_pos pu_10, b3 100 (by omega)]
      simp only [Option.bind_some]
      rw [c2]; rfl
/-! undo -/
/-- what each place holds once the first j boxes lie where they are told -/
def plF (pl : Nat → Int32) : Nat → Nat → Int32
  | 0, _ => -1
  | j + 1, p => if pl j = nI p then nI j else plF pl j p
theorem plF_v (pl : Nat → Int32) (p : Nat) : ∀ j, plF pl j p = -1 ∨ ∃ b, b < j ∧ plF pl j p = nI b ∧ pl b = nI p
  | 0 => Or.inl rfl
  | j + 1 => by
    show (if pl j = nI p then nI j else plF pl j p) = -1 ∨ _
    by_cases c : pl j = nI p
    · right
      refine ⟨j, by omega, ?_, c⟩
      show (if pl j = nI p then nI j else plF pl j p) = nI j
      rw [if_pos c]
    · have e : plF pl (j + 1) p = plF pl j p := by
        show (if pl j = nI p then nI j else plF pl j p) = _
        rw [if_neg c]
      rw [if_neg c, e]
      rcases plF_v pl p j with h | ⟨b, h1, h2, h3⟩
      · exact Or.inl h
      · exact Or.inr ⟨b, by omega, h2, h3⟩
theorem plF_b (pl : Nat → Int32) (p b : Nat) : ∀ j, b < j → (∀ a, a < j → pl a = nI p → a = b) → pl b = nI p → plF pl j p = nI b
  | 0, h, _, _ => by omega
  | j + 1, h, h2, h3 => by
    show (if pl j = nI p then nI j else plF pl j p) = nI b
    by_cases c : pl j = nI p
    · rw [if_pos c, h2 j (by omega) c]
    · rw [if_neg c]
      have : b ≠ j := fun z => c (by rw [← z]; exact h3)
      exact plF_b pl p b j (by omega) (fun a ha => h2 a (by omega)) h3
theorem back_107 {t m P : Nat} (ht : t < 13) (hm : m ≤ 24) (hP : P ≤ 144) (pl : Nat → Int32) (hpl : ∀ b, b < m → hy 1 (31 * t + 7 + b) = pl b) (hv : ∀ b, b < m → pl b = -1 ∨ ∃ p, p < P ∧ pl b = nI p) : ∀ (q j f : Nat) (hc : HH), hc 0 0 = nI m → j + q = m → q < f → (∀ b, j ≤ b → b < 25 → hc 4 b = -1) → (∀ p, p < 144 → hc 5 p = plF pl j p) → ∃ hc', L_Hist_stepBack_107 N f (nI (31 * t)) (nI j) hy hc = some hc' ∧ (∀ r, r ≠ 4 → r ≠ 5 → hc' r = hc r) ∧ (∀ b, b < j → hc' 4 b = hc 4 b) ∧ (∀ b, j ≤ b → b < m → hc' 4 b = pl b) ∧ ∀ p, p < 144 → hc' 5 p = plF pl m p := by
  intro q
  induction q with
  | zero =>
    intro j f hc h0 h1 h2 h3 h4
    obtain ⟨f, rfl⟩ : ∃ z, f = z + 1 := ⟨f - 1, by omega⟩
    have : j = m := by omega
    subst this
    unfold L_Hist_stepBack_107
    rw [h0, if_pos (Int32.le_refl _)]
    exact ⟨hc, rfl, fun _ _ _ => rfl, fun _ _ => rfl, fun b b1 b2 => by omega, h4⟩
  | succ q ih =>
    intro j f hc h0 h1 h2 h3 h4
    obtain ⟨f, rfl⟩ : ∃ z, f = z + 1 := ⟨f - 1, by omega⟩
    unfold L_Hist_stepBack_107
    have e7 : nI (31 * t) + 1 + 6 + nI j = nI (31 * t + 7 + j) := by
      rw [show (6 : Int32) = nI 6 from rfl, nI_1, nI_add, nI_add]
    rw [h0, if_neg (nI_ge (by omega) (by omega)), e7, pu_rd _ (by omega) (by omega), hpl j (by omega), nI_1]
    simp only [pu_let]
    have k7 : F_Cargo_placeOf (nI j) hc = -1 := by
      unfold F_Cargo_placeOf; rw [pu_rd _ (by omega) (by omega), h3 j (by omega) (by omega)]
    have mv : (∀ r, r ≠ 4 → r ≠ 5 → F_Cargo_move (nI j) (pl j) hc r = hc r) ∧ F_Cargo_move (nI j) (pl j) hc 4 = upd (hc 4) j (pl j) ∧ ∀ p, p < 144 → F_Cargo_move (nI j) (pl j) hc 5 p = plF pl (j + 1) p := by
      unfold F_Cargo_move
      simp only [pu_let]
      rw [k7]
      refine ⟨?_, ?_, ?_⟩
      · intro r r4 r5; rw [pu_sw, if_neg r5, pu_sw, if_neg r4, pu_sw, if_neg r5]
      · rw [pu_sw, if_neg (by omega), pu_sw, if_pos rfl, pu_sw, if_neg (by omega), pu_wr _ _ (by omega) (by omega)]
      · intro p hp
        rw [pu_sw, if_pos rfl, pu_sw, if_neg (by omega), pu_sw, if_pos rfl, pu_wrm]
        show _ = if pl j = nI p then nI j else plF pl j p
        rcases hv j (by omega) with w | ⟨p2, w1, w2⟩
        · rw [w, pu_wrm, if_neg (pu_m1' (by omega)), h4 p hp]
        · rw [w2, pu_wr _ _ (by omega) (by omega), pu_upd]
          by_cases e : p = p2
          · rw [if_pos e, if_pos (by rw [e])]
          · rw [if_neg e, if_neg (fun z => e ((nI_eq (by omega) (by omega)).mp z).symm), h4 p hp]
    obtain ⟨m1, m2, m3⟩ := mv
    obtain ⟨hc', i1, i2, i3, i4, i5⟩ := ih (j + 1) f (F_Cargo_move (nI j) (pl j) hc) (by rw [m1 0 (by omega) (by omega), h0]) (by omega) (by omega) (by intro b b1 b2; rw [m2, pu_upd, if_neg (by omega)]; exact h3 b (by omega) b2) m3
    refine ⟨hc', i1, ?_, ?_, ?_, i5⟩
    · intro r r4 r5; rw [i2 r r4 r5, m1 r r4 r5]
    · intro b hb; rw [i3 b (by omega), m2, pu_upd, if_neg (by omega)]
    · intro b b1 b2
      rcases Nat.lt_or_ge j b with y | y
      · exact i4 b y b2
      · have : b = j := by omega
        subst this
        rw [i3 b (by omega), m2, pu_upd, if_pos rfl]
theorem back_66 {s t : Nat} (hs : s < 64) (ht : t < 13) (hw : ∀ b, b < 6 → hy 1 (31 * t + 1 + b) = wallv g s b) (hN : 10 ≤ N) : ∀ (m j f : Nat) (hh : HH) (o : Nat), VS hh hr hc g B R H D K n o → j + m = 6 → m < f → ∃ hh' o', L_Hist_stepBack_66 N f (nI (31 * t)) (nI j) hy hh = some hh' ∧ VS hh' hr hc g B R H D K n o' ∧ (∀ c, c < 6 → j ≤ c → o'.testBit c = s.testBit c) ∧ ∀ c, c < j → o'.testBit c = o.testBit c := by
  intro m
  induction m with
  | zero =>
    intro j f hh o V h1 h2
    obtain ⟨f, rfl⟩ : ∃ z, f = z + 1 := ⟨f - 1, by omega⟩
    have : j = 6 := by omega
    subst this
    unfold L_Hist_stepBack_66
    rw [if_pos (by decide)]
    exact ⟨hh, o, rfl, V, fun c c1 c2 => by omega, fun _ _ => rfl⟩
  | succ m ih =>
    intro j f hh o V h1 h2
    obtain ⟨f, rfl⟩ : ∃ z, f = z + 1 := ⟨f - 1, by omega⟩
    unfold L_Hist_stepBack_66
    have h6 : ¬ (6 : Int32) ≤ nI j := nI_ge (a := j) (b := 6) (by omega) (by omega)
    rw [if_neg h6, nI_1, nI_1, nI_add, pu_rd _ (by omega) (by omega), hw j (by omega)]
    obtain ⟨hh1, o1, w1, V1, y2, y3⟩ := setW_to (N := N) V (j := j) (by omega) hs hN
    rw [w1]
    simp only [Option.bind_some]
    obtain ⟨hh', o', i1, i2, i3, i4⟩ := ih (j + 1) f hh1 o1 V1 (by omega) (by omega)
    refine ⟨hh', o', i1, i2, ?_, ?_⟩
    · intro c hc hj
      rcases Nat.lt_or_ge j c with w | w
      · exact i3 c hc w
      · have : c = j := by omega
        subst this
        rw [i4 c (by omega), y2]
    · intro c hc; rw [i4 c (by omega), y3 c (by omega) (by omega)]
theorem undo_51 {c m : Nat} (hc' : c + 98 ≤ 1176) (hm : m ≤ 24) : ∀ (q j f : Nat) (gm : HH), gm 0 6 = nI m → j + q = m → q < f → ∃ g', L_Mo_undo_51 N f (nI c) (nI j) gm = some g' ∧ (∀ r, r ≠ 4 → r ≠ 5 → r ≠ 6 → r ≠ 7 → g' r = gm r) ∧ (∀ b, j ≤ b → b < m → g' 4 b = gm 10 (c + 2 + 4 * b) ∧ g' 5 b = gm 10 (c + 3 + 4 * b) ∧ g' 6 b = gm 10 (c + 4 + 4 * b) ∧ g' 7 b = gm 10 (c + 5 + 4 * b)) ∧ ∀ b, (b < j ∨ m ≤ b) → g' 4 b = gm 4 b ∧ g' 5 b = gm 5 b ∧ g' 6 b = gm 6 b ∧ g' 7 b = gm 7 b := by
  intro q
  induction q with
  | zero =>
    intro j f gm h0 h1 h2
    obtain ⟨f, rfl⟩ : ∃ z, f = z + 1 := ⟨f - 1, by omega⟩
    have : j = m := by omega
    subst this
    unfold L_Mo_undo_51
    rw [h0, if_pos (Int32.le_refl _)]
    exact ⟨gm, rfl, fun _ _ _ _ _ => rfl, fun b b1 b2 => by omega, fun _ _ => ⟨rfl, rfl, rfl, rfl⟩⟩
  | succ q ih =>
    intro j f gm h0 h1 h2
    obtain ⟨f, rfl⟩ : ∃ z, f = z + 1 := ⟨f - 1, by omega⟩
    unfold L_Mo_undo_51
    have hj : sv_in (nI j) 24 := pu_in (by omega) (by omega)
    have ex : ∀ x : Nat, x ≤ 5 → nI c + nI x + 4 * nI j = nI (c + x + 4 * j) := by
      intro x hx
      rw [show (4 : Int32) = nI 4 from rfl, pk_mul, nI_add, nI_add]
    have e2 : nI c + 2 + 4 * nI j = nI (c + 2 + 4 * j) := ex 2 (by omega)
    have e3 : nI c + 3 + 4 * nI j = nI (c + 3 + 4 * j) := ex 3 (by omega)
    have e4 : nI c + 4 + 4 * nI j = nI (c + 4 + 4 * j) := ex 4 (by omega)
    have e5 : nI c + 5 + 4 * nI j = nI (c + 5 + 4 * j) := ex 5 (by omega)
    rw [h0, if_neg (nI_ge (by omega) (by omega)), e2, e3, e4, e5]
    have i2 : sv_in (nI (c + 2 + 4 * j)) 1176 := pu_in (by omega) (by omega)
    have i3 : sv_in (nI (c + 3 + 4 * j)) 1176 := pu_in (by omega) (by omega)
    have i4 : sv_in (nI (c + 4 + 4 * j)) 1176 := pu_in (by omega) (by omega)
    have i5 : sv_in (nI (c + 5 + 4 * j)) 1176 := pu_in (by omega) (by omega)
    simp only [if_pos hj, if_pos i2, if_pos i3, if_pos i4, if_pos i5, pu_let, nI_1]
    have c2 : (nI (c + 2 + 4 * j)).toNatClampNeg = c + 2 + 4 * j := nI_clamp (by omega)
    have c3 : (nI (c + 3 + 4 * j)).toNatClampNeg = c + 3 + 4 * j := nI_clamp (by omega)
    have c4 : (nI (c + 4 + 4 * j)).toNatClampNeg = c + 4 + 4 * j := nI_clamp (by omega)
    have c5 : (nI (c + 5 + 4 * j)).toNatClampNeg = c + 5 + 4 * j := nI_clamp (by omega)
    simp only [c2, c3, c4, c5, pu_sa, if_neg (show ¬ 10 = 4 by omega), if_neg (show ¬ 10 = 5 by omega), if_neg (show ¬ 10 = 6 by omega)]
    obtain ⟨g', a1, a2, a3, a4⟩ := ih (j + 1) f (sa (sa (sa (sa gm 4 (nI j) (gm 10 (c + 2 + 4 * j))) 5 (nI j) (gm 10 (c + 3 + 4 * j))) 6 (nI j) (gm 10 (c + 4 + 4 * j))) 7 (nI j) (gm 10 (c + 5 + 4 * j))) (by simp only [pu_sa]; exact h0) (by omega) (by omega)
    have cj : (nI j).toNatClampNeg = j := nI_clamp (by omega)
    have row : sa (sa (sa (sa gm 4 (nI j) (gm 10 (c + 2 + 4 * j))) 5 (nI j) (gm 10 (c + 3 + 4 * j))) 6 (nI j) (gm 10 (c + 4 + 4 * j))) 7 (nI j) (gm 10 (c + 5 + 4 * j)) 10 = gm 10 := by
      rw [pu_sa, if_neg (by omega), pu_sa, if_neg (by omega), pu_sa, if_neg (by omega), pu_sa, if_neg (by omega)]
    have row4 : ∀ b, sa (sa (sa (sa gm 4 (nI j) (gm 10 (c + 2 + 4 * j))) 5 (nI j) (gm 10 (c + 3 + 4 * j))) 6 (nI j) (gm 10 (c + 4 + 4 * j))) 7 (nI j) (gm 10 (c + 5 + 4 * j)) 4 b = if b = j then gm 10 (c + 2 + 4 * j) else gm 4 b := by
      intro b; rw [pu_sa, if_neg (by omega), pu_sa, if_neg (by omega), pu_sa, if_neg (by omega), pu_sa, if_pos rfl, cj, pu_upd]
    have row5 : ∀ b, sa (sa (sa (sa gm 4 (nI j) (gm 10 (c + 2 + 4 * j))) 5 (nI j) (gm 10 (c + 3 + 4 * j))) 6 (nI j) (gm 10 (c + 4 + 4 * j))) 7 (nI j) (gm 10 (c + 5 + 4 * j)) 5 b = if b = j then gm 10 (c + 3 + 4 * j) else gm 5 b := by
      intro b; rw [pu_sa, if_neg (by omega), pu_sa, if_neg (by omega), pu_sa, if_pos rfl, pu_sa, if_neg (by omega), cj, pu_upd]
    have row6 : ∀ b, sa (sa (sa (sa gm 4 (nI j) (gm 10 (c + 2 + 4 * j))) 5 (nI j) (gm 10 (c + 3 + 4 * j))) 6 (nI j) (gm 10 (c + 4 + 4 * j))) 7 (nI j) (gm 10 (c + 5 + 4 * j)) 6 b = if b = j then gm 10 (c + 4 + 4 * j) else gm 6 b := by
      intro b; rw [pu_sa, if_neg (by omega), pu_sa, if_pos rfl, pu_sa, if_neg (by omega), pu_sa, if_neg (by omega), cj, pu_upd]
    have row7 : ∀ b, sa (sa (sa (sa gm 4 (nI j) (gm 10 (c + 2 + 4 * j))) 5 (nI j) (gm 10 (c + 3 + 4 * j))) 6 (nI j) (gm 10 (c + 4 + 4 * j))) 7 (nI j) (gm 10 (c + 5 + 4 * j)) 7 b = if b = j then gm 10 (c + 5 + 4 * j) else gm 7 b := by
      intro b; rw [pu_sa, if_pos rfl, pu_sa, if_neg (by omega), pu_sa, if_neg (by omega), pu_sa, if_neg (by omega), cj, pu_upd]
    refine ⟨g', a1, ?_, ?_, ?_⟩
    · intro r r4 r5 r6 r7
      rw [a2 r r4 r5 r6 r7, pu_sa, if_neg r7, pu_sa, if_neg r6, pu_sa, if_neg r5, pu_sa, if_neg r4]
    · intro b b1 b2
      rcases Nat.lt_or_ge j b with y | y
      · have := a3 b y b2
        rw [row] at this
        exact this
      · have : b = j := by omega
        subst this
        obtain ⟨z4, z5, z6, z7⟩ := a4 b (by omega)
        rw [z4, z5, z6, z7, row4, row5, row6, row7, if_pos rfl, if_pos rfl, if_pos rfl, if_pos rfl]
        exact ⟨rfl, rfl, rfl, rfl⟩
    · intro b hb
      obtain ⟨z4, z5, z6, z7⟩ := a4 b (by omega)
      have : b ≠ j := by omega
      rw [z4, z5, z6, z7, row4, row5, row6, row7, if_neg this, if_neg this, if_neg this, if_neg this]
      exact ⟨rfl, rfl, rfl, rfl⟩
theorem lp_2 : ∀ (m j f : Nat) (gm : HH), j + m = 144 → m < f → ∃ g', L_Mo_laysPlaces_2 N f (nI j) gm = some g' ∧ (∀ r, r ≠ 8 → g' r = gm r) ∧ (∀ p, j ≤ p → p < 144 → g' 8 p = -1) ∧ ∀ p, (p < j ∨ 144 ≤ p) → g' 8 p = gm 8 p := by
  intro m
  induction m with
  | zero =>
    intro j f gm h1 h2
    obtain ⟨f, rfl⟩ : ∃ z, f = z + 1 := ⟨f - 1, by omega⟩
    have : j = 144 := by omega
    subst this
    unfold L_Mo_laysPlaces_2
    rw [if_pos (by decide)]
    exact ⟨gm, rfl, fun _ _ => rfl, fun p p1 p2 => by omega, fun _ _ => rfl⟩
  | succ m ih =>
    intro j f gm h1 h2
    obtain ⟨f, rfl⟩ : ∃ z, f = z + 1 := ⟨f - 1, by omega⟩
    unfold L_Mo_laysPlaces_2
    have h6 : ¬ (144 : Int32) ≤ nI j := nI_ge (a := j) (b := 144) (by omega) (by omega)
    rw [if_neg h6, if_pos (pu_in (by omega) (by omega)), nI_1]
    simp only [pu_let]
    obtain ⟨g', i1, i2, i3, i4⟩ := ih (j + 1) f (sa gm 8 (nI j) (-1)) (by omega) (by omega)
    have row : ∀ p, sa gm 8 (nI j) (-1) 8 p = if p = j then -1 else gm 8 p := by
      intro p; rw [pu_sa, if_pos rfl, nI_clamp (by omega), pu_upd]
    refine ⟨g', i1, ?_, ?_, ?_⟩
    · intro r hr'; rw [i2 r hr', pu_sa, if_neg hr']
    · intro p p1 p2
      rcases Nat.lt_or_ge j p with y | y
      · exact i3 p y p2
      · have : p = j := by omega
        subst this
        rw [i4 p (by omega), row, if_pos rfl]
    · intro p hp; rw [i4 p (by omega), row, if_neg (by omega)]
theorem lp_24 {m P : Nat} (hm : m ≤ 24) (hP : P ≤ 144) : ∀ (q j f : Nat) (gm : HH), gm 0 6 = nI m → j + q = m → q < f → (∀ b, b < m → gm 7 b = -1 ∨ ∃ p, p < P ∧ gm 7 b = nI p) → (∀ p, p < 144 → gm 8 p = plF (gm 7) j p) → ∃ g', L_Mo_laysPlaces_24 N f (nI j) gm = some g' ∧ (∀ r, r ≠ 8 → g' r = gm r) ∧ ∀ p, p < 144 → g' 8 p = plF (gm 7) m p := by
  intro q
  induction q with
  | zero =>
    intro j f gm h0 h1 h2 h3 h4
    obtain ⟨f, rfl⟩ : ∃ z, f = z + 1 := ⟨f - 1, by omega⟩
    have : j = m := by omega
    subst this
    unfold L_Mo_laysPlaces_24
    rw [h0, if_pos (Int32.le_refl _)]
    exact ⟨gm, rfl, fun _ _ => rfl, h4⟩
  | succ q ih =>
    intro j f gm h0 h1 h2 h3 h4
    obtain ⟨f, rfl⟩ : ∃ z, f = z + 1 := ⟨f - 1, by omega⟩
    unfold L_Mo_laysPlaces_24
    have hj : sv_in (nI j) 24 := pu_in (by omega) (by omega)
    have es : ∀ p, plF (gm 7) (j + 1) p = if gm 7 j = nI p then nI j else plF (gm 7) j p := fun _ => rfl
    simp only [if_pos hj, pu_let]
    rw [h0, if_neg (nI_ge (by omega) (by omega)), nI_clamp (by omega), nI_1]
    rcases h3 j (by omega) with w | ⟨p2, w1, w2⟩
    · rw [w, if_pos rfl]
      refine ih (j + 1) f gm h0 (by omega) (by omega) h3 ?_
      intro p hp
      rw [es, w, if_neg (pu_m1' (by omega))]; exact h4 p hp
    · have h144 : sv_in (nI p2) 144 := pu_in (by omega) (by omega)
      rw [w2, if_neg (pu_m1 (by omega)), if_pos h144]
      have r7 : sa gm 8 (nI p2) (nI j) 7 = gm 7 := by rw [pu_sa, if_neg (by omega)]
      obtain ⟨g', i1, i2, i3⟩ := ih (j + 1) f (sa gm 8 (nI p2) (nI j)) (by rw [pu_sa, if_neg (by omega)]; exact h0) (by omega) (by omega) (by rw [r7]; exact h3) (by
        intro p hp
        rw [r7, es, w2, pu_sa, if_pos rfl, nI_clamp (by omega), pu_upd]
        by_cases e : p = p2
        · rw [if_pos e, if_pos (by rw [e])]
        · rw [if_neg e, if_neg (fun z => e ((nI_eq (by omega) (by omega)).mp z).symm)]; exact h4 p hp)
      rw [r7] at i3
      exact ⟨g', i1, fun r hr' => by rw [i2 r hr', pu_sa, if_neg hr'], i3⟩
end UNDO
