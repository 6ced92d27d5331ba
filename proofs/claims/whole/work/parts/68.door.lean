/-! ===== pure: opens, doors ===== -/
theorem bo : ∀ a, a < 64 → ∀ b, b < 6 → nI a ||| ((1 : Int32) <<< (nI b &&& 31)) = nI (a ||| (1 <<< b)) ∧ a ||| (1 <<< b) < 64 := by decide +kernel
theorem bo2 : ∀ a, a < 64 → ∀ b, b < 6 → ∀ c, c < 6 → (a ||| (1 <<< b)).testBit c = (a.testBit c || decide (c = b)) := by decide +kernel
theorem bx : ∀ a, a < 64 → ∀ b, b < 6 → nI a ^^^ ((1 : Int32) <<< (nI b &&& 31)) = nI (a ^^^ (1 <<< b)) ∧ a ^^^ (1 <<< b) < 64 := by decide +kernel
theorem bx2 : ∀ a, a < 64 → ∀ b, b < 6 → ∀ c, c < 6 → (a ^^^ (1 <<< b)).testBit c = (a.testBit c != decide (c = b)) := by decide +kernel
theorem bsub : ∀ s, s < 64 → ∀ a, a < 64 → ((nI s &&& nI a = nI s) ↔ (nI s &&& (nI a ^^^ (-1)) = 0)) := by decide +kernel
theorem bcnt : ∀ s, s < 64 → F_Mo_bits 100 (nI s) = some (F_Int_bitCount (nI s)) := by decide +kernel
section DOOR
variable {k k' : KS} {g g' : HH} {hy hv hh hr hc ht : HH} {B R H D K n o N N' : Nat}
theorem VS.wall (V : VS hh hr hc g B R H D K n o) {o' : Nat} (ho' : o' < 64) {hh' : HH} (h1 : ∀ r, r ≠ 4 → r ≠ 5 → hh' r = hh r) (h5 : ∀ b, b < 6 → hh' 5 b = wallv g o' b) (h4 : ∀ b, b < 6 → hh' 4 b = nI (shutF (hh' 5) b)) : VS hh' hr hc g B R H D K n o' := by
  obtain ⟨v1, v2, v3, v4, v5, v6⟩ := V
  refine ⟨v1, ⟨v2.1, v2.2.1, ho'⟩, ⟨?_, ?_, ?_⟩, v4, v5, v6⟩
  · rw [h1 0 (by omega) (by omega)]; exact v3.1
  · rw [h1 1 (by omega) (by omega), h1 2 (by omega) (by omega), h1 3 (by omega) (by omega)]; exact v3.2.1
  · intro b hb
    refine ⟨h5 b hb, ?_⟩
    rw [h4 b hb, shutF_S _ g o' b (fun c hc => h5 c (by omega))]
/-- a wall set -/
theorem setW_ok (V : VS hh hr hc g B R H D K n o) {b : Nat} (hb : b < 6) (v : Int32) {o' : Nat} (ho' : o' < 64) (hv : v = wallv g o' b) (hw : ∀ c, c < 6 → c ≠ b → wallv g o' c = wallv g o c) (hN : 10 ≤ N) : ∃ hh', F_Hull_setWall N (nI b) v hh = some hh' ∧ VS hh' hr hc g B R H D K n o' := by
  obtain ⟨hh', e1, e2, e3, e4⟩ := setW (N := N) hh hb v hN
  refine ⟨hh', e1, V.wall ho' e2 ?_ ?_⟩
  · intro c hc
    rw [e3, pu_upd]
    by_cases e : c = b
    · rw [if_pos e, e, hv]
    · rw [if_neg e, hw c hc e]; exact (V.2.2.1.2.2 c hc).1
  · intro c hc; rw [e3]; exact e4 c hc
theorem wv_door {b : Nat} (h : g 1 (8 + b) = 2) (o : Nat) : wallv g o b = if o.testBit b then 2 else 3 := by
  unfold wallv; rw [if_pos h]
theorem wv_bit {c : Nat} {o o' : Nat} (h : o'.testBit c = o.testBit c) : wallv g o' c = wallv g o c := by
  unfold wallv; rw [h]
theorem wv_non {b : Nat} (h : g 1 (8 + b) ≠ 2) (o o' : Nat) : wallv g o' b = wallv g o b := by
  unfold wallv; rw [if_neg h, if_neg h]
theorem a_door (V : VS hh hr hc g B R H D K n o) (a : Int32) : (∃ b, b + 1 < B ∧ a = nI b ∧ g 1 (8 + b) = 2 ∧ F_Hull_hasDoor a hh = 1 ∧ F_Mo_isDoor N a g = some 1) ∨ (F_Hull_hasDoor a hh = 0 ∧ F_Mo_isDoor N a g = some 0 ∧ ∀ b, b < 6 → a = nI b → g 1 (8 + b) ≠ 2) := by
  have hB : B ≤ 6 := V.1.2.2.1
  have hB1 : 1 ≤ B := V.1.2.1
  have r1 : hh 0 0 = nI B := V.2.2.1.1.1
  have r2 : g 1 0 = nI B := V.1.1.1
  have e : F_Mo_isDoor N a g = (if (F_Mo_in a.toInt64 0 (g 1 0 - 2).toInt64) = 0 then some 0 else (if sv_in (8 + a) 90 then (if ¬ (g 1 (8 + a).toNatClampNeg) = 2 then some 0 else some 1) else none)) := rfl
  rw [e, pu_in0, r2, nI_B2 hB1]
  unfold F_Hull_hasDoor
  rcases pu_wn a (n := B - 1) (by omega) with ⟨b, h1, h2, h3⟩ | ⟨h1, h2⟩
  · subst h2
    rw [h3, if_neg pu_10, pu_8, if_pos (pu_in (by omega) (by omega)), nI_clamp (by omega), K_wall V (by omega)]
    by_cases c : g 1 (8 + b) = 2
    · left
      refine ⟨b, by omega, rfl, c, ?_, by rw [ifn c]⟩
      rw [wv_door c]
      cases o.testBit b <;> decide
    · right
      refine ⟨?_, by rw [if_pos c], ?_⟩
      · unfold wallv; rw [if_neg c]
        rcases V.2.1.1 b (by omega) with w | w | w
        · rw [w]; decide
        · rw [w]; decide
        · exact absurd w c
      · intro b' hb' z
        have := (nI_eq (by omega) (by omega)).mp z
        subst this; exact c
  · right
    rw [h2, if_pos rfl]
    have e0 : F_Hull_wallAt a hh = 0 := by
      unfold F_Hull_wallAt; rw [r1, nI_B2 hB1, h2]; rfl
    rw [e0]
    refine ⟨by decide, rfl, ?_⟩
    intro b hb z w
    have : B ≤ b + 1 := by
      rcases Nat.lt_or_ge b (B - 1) with y | y
      · exact absurd z (h1 b y)
      · omega
    rw [V.2.1.2.1 b hb this] at w
    exact absurd w (by decide)
theorem sim_18 : Sim_18 Inv := by
  intro a1 a2 k g I
  have same : ∀ v, F_K_opens 3000 a1 a2 (k 0) (k 1) (k 9) (k 10) (k 11) = some (v, k 1, k 9) → F_Mo_opens 3000 a1 a2 g = some (v, g) → ∃ (N N' : Nat) (v : Int32) (k' : KS) (g' : HH), KO_18 N a1 a2 k = some (v, k') ∧ MO_18 N' a1 a2 g = some (v, g') ∧ Inv k' g' := by
    intro v h1 h2
    refine ⟨3000, 3000, v, k, g, ?_, ?_, I⟩
    · unfold KO_18; rw [h1]; show some (v, ku (ku k 1 (k 1)) 9 (k 9)) = _
      rw [ku_self, ku_self]
    · unfold MO_18; rw [h2]; rfl
  rcases i_there I with ⟨B, R, H, D, K, n, o, J, h1, h2⟩ | ⟨J, h1, h2⟩
  case inr =>
    refine same (-2) ?_ ?_
    · unfold F_K_opens; rw [h1]; rfl
    · have e : F_Mo_isDoor 3000 a1 g = (if (F_Mo_in a1.toInt64 0 (g 1 0 - 2).toInt64) = 0 then some 0 else (if sv_in (8 + a1) 90 then (if ¬ (g 1 (8 + a1).toNatClampNeg) = 2 then some 0 else some 1) else none)) := rfl
      have e2 : F_K_within a1 0 (0 - 2) = 0 := by
        rw [pu_w]
        exact if_neg (fun z => absurd (Int32.le_trans z.1 z.2) (by decide))
      unfold F_Mo_opens
      rw [e, pu_in0, J.2.2.1 0 (by omega), e2]; rfl
  have V := J.2.2.1
  have hn := V.nn
  have ho := J.2.2.2.1
  have hB : B ≤ 6 := V.1.2.2.1
  have i1 : F_Mo_in a2.toInt64 0 1 = F_K_within a2 0 1 := pu_inw a2 0 1
  rcases a_door (N := 3000) V a1 with ⟨b, b1, b2, b3, b4, b5⟩ | ⟨b4, b5, -⟩
  case inr =>
    refine same (-2) ?_ ?_
    · unfold F_K_opens; rw [h1, if_neg pu_10, b4]; rfl
    · unfold F_Mo_opens; rw [b5]; rfl
  subst b2
  rcases pu_wc a2 0 1 (by omega) (by omega) with ⟨d, d1, d2, d3, d4⟩ | ⟨d1, d4⟩
  case inr =>
    have d5 : F_K_within a2 0 1 = 0 := d4
    refine same (-2) ?_ ?_
    · unfold F_K_opens; rw [h1, if_neg pu_10, b4, if_neg pu_10, d5]; rfl
    · unfold F_Mo_opens; rw [b5, i1, d5]; rfl
  have d5 : F_K_within a2 0 1 = 1 := d4
  have ho64 : o < 64 := V.2.1.2.2
  have hd : d = 0 ∨ d = 1 := by omega
  have eK : F_K_opens 3000 (nI b) a2 (k 0) (k 1) (k 9) (k 10) (k 11) = (Option.bind (if wallv g o b = (if ¬ a2 = 1 then 3 else 2) then some (k 1, k 9) else (Option.bind (F_Hist_mark 3000 (k 1) (k 9) (k 11)) fun v7 => (Option.bind (F_Hull_setWall 3000 (nI b) (if ¬ a2 = 1 then 3 else 2) (k 9)) fun v9 => some (F_Hist_keep v7, v9)))) fun v12 => (Option.bind (F_Ves_countNear 3000 v12.2 (k 10) (k 11)) fun v13 => some (v13, v12.1, v12.2))) := by
    unfold F_K_opens; rw [h1, if_neg pu_10, b4, if_neg pu_10, d5, if_pos pu_10, K_wall V (by omega)]; rfl
  have eM : F_Mo_opens 3000 (nI b) a2 g = (Option.bind (if (if o.testBit b then (1 : Int32) else 0) = a2 then some g else (Option.bind (F_Mo_keeps 3000 g) fun v6 => some (ss v6 11 ((v6 0 11) ^^^ ((1 : Int32) <<< (nI b &&& 31)))))) fun v9 => (Option.bind (F_Mo_twosNear 3000 (v9 0 11) v9) fun v10 => some (v10, v9))) := by
    unfold F_Mo_opens; rw [b5, i1, d5, ho, pu_bit o ho64 b (by omega)]; rfl
  have eqv : (wallv g o b = (if ¬ a2 = 1 then 3 else 2)) ↔ ((if o.testBit b then (1 : Int32) else 0) = a2) := by
    rw [wv_door b3]
    subst d3
    rcases hd with rfl | rfl <;> cases o.testBit b <;> decide
  by_cases c : wallv g o b = (if ¬ a2 = 1 then 3 else 2)
  · rw [if_pos c] at eK
    rw [if_pos (eqv.mp c)] at eM
    simp only [Option.bind_some] at eK eM
    rw [countNear_eq V (by omega)] at eK
    rw [ho, twos_eq V (by omega)] at eM
    exact same _ eK eM
  · rw [if_neg c] at eK
    rw [if_neg (fun z => c (eqv.mpr z))] at eM
    obtain ⟨hy1, g1, a1', a2', a3', a4', a5', a6'⟩ := act_ok (N := 3000) (N' := 3000) V J.2.2.2.1 J.2.2.2.2.1 J.2.2.2.2.2.1 (by omega) (by omega)
    obtain ⟨x1, x2⟩ := bx o ho64 b (by omega)
    have wv : (if ¬ a2 = 1 then (3 : Int32) else 2) = wallv g (o ^^^ (1 <<< b)) b := by
      rw [wv_door b3] at c ⊢
      rw [bx2 o ho64 b (by omega) b (by omega)]
      subst d3
      revert c
      rcases hd with rfl | rfl <;> cases o.testBit b <;> simp <;> decide
    obtain ⟨hh', w1, w2⟩ := setW_ok (N := 3000) V (b := b) (by omega) (if ¬ a2 = 1 then 3 else 2) x2 wv (fun c hc hcb => wv_bit (by rw [bx2 o ho64 b (by omega) c hc]; simp [hcb])) (by omega)
    rw [a1', w1] at eK
    rw [a2'] at eM
    simp only [Option.bind_some] at eK eM
    have e11 : ss g1 11 (g1 0 11 ^^^ ((1 : Int32) <<< (nI b &&& 31))) = ss g1 11 (nI (o ^^^ (1 <<< b))) := by
      rw [a6' 11 (by omega), ho, x1]
    rw [e11] at eM
    have r0 : ∀ i, i ≠ 11 → i ≠ 22 → ss g1 11 (nI (o ^^^ (1 <<< b))) 0 i = g 0 i := fun i h11 h22 => by rw [pu_ss, if_pos rfl, if_neg h11, a6' i h22]
    have rr : ∀ r, r ≠ 0 → r ≠ 10 → ss g1 11 (nI (o ^^^ (1 <<< b))) r = g r := fun r r0 r10 => by rw [pu_ssr, if_neg r0, a5' r r0 r10]
    have r11 : ss g1 11 (nI (o ^^^ (1 <<< b))) 0 11 = nI (o ^^^ (1 <<< b)) := by rw [pu_ss, if_pos rfl, if_pos rfl]
    have V2 : VS hh' (k 10) (k 11) (ss g1 11 (nI (o ^^^ (1 <<< b)))) B R H D K n (o ^^^ (1 <<< b)) := w2.cg (rr 1 (by omega) (by omega)) (r0 6 (by omega) (by omega)) (rr 4 (by omega) (by omega)) (rr 5 (by omega) (by omega)) (rr 6 (by omega) (by omega)) (rr 7 (by omega) (by omega)) (rr 8 (by omega) (by omega))
    rw [countNear_eq V2 (by omega)] at eK
    rw [r11, twos_eq V2 (by omega)] at eM
    refine ⟨3000, 3000, nI (Tw (ss g1 11 (nI (o ^^^ (1 <<< b)))) (o ^^^ (1 <<< b)) R H D n), ku (ku k 1 (F_Hist_keep hy1)) 9 hh', ss g1 11 (nI (o ^^^ (1 <<< b))), ?_, ?_, ?_, Or.inr ⟨B, R, H, D, K, n, o ^^^ (1 <<< b), ?_⟩⟩
    · unfold KO_18; rw [eK]; rfl
    · unfold MO_18; rw [eM]; rfl
    · refine InvB_c I.1 ?_ ?_ ?_ (r0 _ (by omega) (by omega)) (r0 _ (by omega) (by omega)) (r0 _ (by omega) (by omega)) (r0 _ (by omega) (by omega)) (rr _ (by omega) (by omega)) (rr _ (by omega) (by omega))
      all_goals simp only [pu_ku]; rfl
    · refine ⟨?_, ?_, ?_, r11, ?_, ?_, ?_, ?_⟩
      · simp only [pu_ku]; exact J.1
      · rw [r0 1 (by omega) (by omega)]; exact J.2.1
      · simp only [pu_ku]; exact V2
      · unfold NoH; rw [rr 8 (by omega) (by omega)]; exact J.2.2.2.2.1
      · simp only [pu_ku]
        refine HiR_c hn a4' (by omega) (by rw [pu_ss, if_pos rfl, if_neg (by omega)]) (by rw [pu_ssr, if_neg (by omega)]) (by rw [pu_ssr, if_neg (by omega)]) ?_
        intro b hb
        rw [pu_ssr, if_neg (by omega), pu_ssr, if_neg (by omega), pu_ssr, if_neg (by omega)]
        exact ⟨rfl, rfl, rfl⟩
      · simp only [pu_ku]
        exact ToR_c J.2.2.2.2.2.2.1 (r0 32 (by omega) (by omega)) (rr 14 (by omega) (by omega)) (rr 15 (by omega) (by omega))
      · simp only [pu_ku]
        exact ShR_c J.2.2.2.2.2.2.2 (r0 37 (by omega) (by omega)) (rr 16 (by omega) (by omega))
/-- behind the last bay the reference finds no door -/
theorem free_end (V : VS hh hr hc g B R H D K n o) (x y : Int32) : ∀ (m j f : Nat), j + m = 6 → m < f → B ≤ j + 1 → L_Mo_freeDoors_13 N f x y (nI j) g = some x := by
  intro m
  induction m with
  | zero =>
    intro j f h1 h2 h3
    obtain ⟨f, rfl⟩ : ∃ z, f = z + 1 := ⟨f - 1, by omega⟩
    have : j = 6 := by omega
    subst this
    unfold L_Mo_freeDoors_13
    rw [if_pos (by decide)]
  | succ m ih =>
    intro j f h1 h2 h3
    obtain ⟨f, rfl⟩ : ∃ z, f = z + 1 := ⟨f - 1, by omega⟩
    unfold L_Mo_freeDoors_13
    have h6 : ¬ (6 : Int32) ≤ nI j := nI_ge (a := j) (b := 6) (by omega) (by omega)
    rw [if_neg h6]
    rcases a_door (N := N) V (nI j) with ⟨b, b1, b2, -⟩ | ⟨-, b5, -⟩
    · have := (nI_eq (by omega) (by omega)).mp b2
      omega
    · rw [b5, nI_1]
      exact ih (j + 1) f (by omega) (by omega) (by omega)
theorem free_dL (ho : g 0 11 = nI o) (hN : 30 ≤ N) (hN' : 30 ≤ N') (y : Int32) : ∀ (m j f f' : Nat) (hh : HH) (x : Int32), VS hh hr hc g B R H D K n o → j + m = B → m < f → 6 < f' + j → ∃ v hh', L_Ves_harmlessDoors_9 N f y x (nI j) hh hr hc = some (v, hh') ∧ L_Mo_freeDoors_13 N' f' x y (nI j) g = some v ∧ VS hh' hr hc g B R H D K n o := by
  intro m
  induction m with
  | zero =>
    intro j f f' hh x V h1 h2 h3
    obtain ⟨f, rfl⟩ : ∃ z, f = z + 1 := ⟨f - 1, by omega⟩
    have : j = B := by omega
    subst this
    have hB : j ≤ 6 := V.1.2.2.1
    have r1 : hh 0 0 = nI j := V.2.2.1.1.1
    refine ⟨x, hh, ?_, free_end V x y (6 - j) j f' (by omega) (by omega) (by omega), V⟩
    unfold L_Ves_harmlessDoors_9
    rw [r1, if_pos (Int32.le_refl _)]
  | succ m ih =>
    intro j f f' hh x V h1 h2 h3
    obtain ⟨f, rfl⟩ : ∃ z, f = z + 1 := ⟨f - 1, by omega⟩
    have hB : B ≤ 6 := V.1.2.2.1
    obtain ⟨f', rfl⟩ : ∃ z, f' = z + 1 := ⟨f' - 1, by omega⟩
    have r1 : hh 0 0 = nI B := V.2.2.1.1.1
    have ho64 : o < 64 := V.2.1.2.2
    unfold L_Ves_harmlessDoors_9 L_Mo_freeDoors_13
    have h6 : ¬ (6 : Int32) ≤ nI j := nI_ge (a := j) (b := 6) (by omega) (by omega)
    rw [r1, if_neg (nI_ge (by omega) (by omega)), if_neg h6, nI_1, ho]
    rcases a_door (N := N') V (nI j) with ⟨b, b1, b2, b3, b4, b5⟩ | ⟨b4, b5, -⟩
    · have := (nI_eq (by omega) (by omega)).mp b2
      subst this
      obtain ⟨x1, x2⟩ := bo o ho64 j (by omega)
      rw [b4, if_neg pu_10, b5, x1]
      simp only [Option.bind_some, if_neg pu_10]
      obtain ⟨hh1, w1, V1⟩ := setW_ok (N := N) V (b := j) (by omega) 2 x2 (by rw [wv_door b3, bo2 o ho64 j (by omega) j (by omega)]; simp) (fun c hc hcb => wv_bit (by rw [bo2 o ho64 j (by omega) c hc]; simp [hcb])) (by omega)
      obtain ⟨hh2, u1, V2⟩ := setW_ok (N := N) V1 (b := j) (by omega) (F_Hull_wallAt (nI j) hh) ho64 (K_wall V (by omega)) (fun c hc hcb => wv_bit (by rw [bo2 o ho64 j (by omega) c hc]; simp [hcb])) (by omega)
      rw [w1]
      simp only [Option.bind_some]
      rw [countNear_eq V1 (by omega), twos_eq V1 (by omega)]
      simp only [Option.bind_some, pu_let]
      rw [u1]
      simp only [Option.bind_some]
      by_cases c : y < nI (Tw g (o ||| (1 <<< j)) R H D n)
      · rw [if_pos c, if_pos c]
        exact ih (j + 1) f f' hh2 x V2 (by omega) (by omega) (by omega)
      · rw [if_neg c, if_neg c]
        exact ih (j + 1) f f' hh2 _ V2 (by omega) (by omega) (by omega)
    · rw [b4, if_pos rfl, b5]
      simp only [Option.bind_some]
      exact ih (j + 1) f f' hh x V (by omega) (by omega) (by omega)
theorem free_d (V : VS hh hr hc g B R H D K n o) (ho : g 0 11 = nI o) (hN : 30 ≤ N) (hN' : 30 ≤ N') : ∃ v hh', F_Ves_harmlessDoors N hh hr hc = some (v, hh') ∧ F_Mo_freeDoors N' g = some v ∧ VS hh' hr hc g B R H D K n o := by
  have hB : B ≤ 6 := V.1.2.2.1
  obtain ⟨v, hh', e1, e2, e3⟩ := free_dL (N := N) (N' := N') ho hN hN' (nI (Tw g o R H D n)) B 0 N N' hh 0 V (by omega) (by omega) (by omega)
  rw [show nI 0 = 0 from rfl] at e1 e2
  refine ⟨v, hh', ?_, ?_, e3⟩
  · unfold F_Ves_harmlessDoors; rw [countNear_eq V hN]; simp only [Option.bind_some]; rw [e1]; rfl
  · unfold F_Mo_freeDoors; rw [ho, twos_eq V hN']; simp only [Option.bind_some]; rw [e2]; rfl
/-- the doors opened as a set tells -/
theorem open_L {s : Nat} (hs : s < 64) (hN : 10 ≤ N) : ∀ (m j f : Nat) (hh : HH) (o : Nat), VS hh hr hc g B R H D K n o → j + m = B → m < f → ∃ hh' o', L_Ves_openDoors_2 N f (nI s) (nI j) hh = some hh' ∧ VS hh' hr hc g B R H D K n o' ∧ (∀ c, c < 6 → j ≤ c → g 1 (8 + c) = 2 → o'.testBit c = s.testBit c) ∧ ∀ c, c < j → o'.testBit c = o.testBit c := by
  intro m
  induction m with
  | zero =>
    intro j f hh o V h1 h2
    obtain ⟨f, rfl⟩ : ∃ z, f = z + 1 := ⟨f - 1, by omega⟩
    have : j = B := by omega
    subst this
    have r1 : hh 0 0 = nI j := V.2.2.1.1.1
    unfold L_Ves_openDoors_2
    rw [r1, if_pos (Int32.le_refl _)]
    refine ⟨hh, o, rfl, V, ?_, fun _ _ => rfl⟩
    intro c hc hj z
    rw [V.2.1.2.1 c hc (by omega)] at z
    exact absurd z (by decide)
  | succ m ih =>
    intro j f hh o V h1 h2
    obtain ⟨f, rfl⟩ : ∃ z, f = z + 1 := ⟨f - 1, by omega⟩
    have hB : B ≤ 6 := V.1.2.2.1
    have r1 : hh 0 0 = nI B := V.2.2.1.1.1
    have ho64 : o < 64 := V.2.1.2.2
    unfold L_Ves_openDoors_2
    rw [r1, if_neg (nI_ge (by omega) (by omega)), nI_1, pu_bit s hs j (by omega)]
    rcases a_door (N := N) V (nI j) with ⟨b, b1, b2, b3, b4, b5⟩ | ⟨b4, b5, b6⟩
    · have := (nI_eq (by omega) (by omega)).mp b2
      subst this
      rw [b4, if_neg pu_10]
      simp only [pu_let]
      -- set or cleared
      have nx : ∃ o1, o1 < 64 ∧ o1.testBit j = s.testBit j ∧ ∀ c, c < 6 → c ≠ j → o1.testBit c = o.testBit c := by
        by_cases e : o.testBit j = s.testBit j
        · exact ⟨o, ho64, e, fun _ _ _ => rfl⟩
        · obtain ⟨-, x2⟩ := bx o ho64 j (by omega)
          refine ⟨o ^^^ (1 <<< j), x2, ?_, ?_⟩
          · rw [bx2 o ho64 j (by omega) j (by omega)]
            revert e
            cases o.testBit j <;> cases s.testBit j <;> simp
          · intro c hc hcj; rw [bx2 o ho64 j (by omega) c hc]; simp [hcj]
      obtain ⟨o1, y1, y2, y3⟩ := nx
      have wv : (if ¬ (if s.testBit j then (1 : Int32) else 0) = 1 then (3 : Int32) else 2) = wallv g o1 j := by
        rw [wv_door b3, y2]; cases s.testBit j <;> decide
      obtain ⟨hh1, w1, V1⟩ := setW_ok (N := N) V (b := j) (by omega) _ y1 wv (fun c hc hcb => wv_bit (y3 c hc hcb)) hN
      rw [w1]
      simp only [Option.bind_some]
      obtain ⟨hh', o', i1, i2, i3, i4⟩ := ih (j + 1) f hh1 o1 V1 (by omega) (by omega)
      refine ⟨hh', o', i1, i2, ?_, ?_⟩
      · intro c hc hj z
        rcases Nat.lt_or_ge j c with w | w
        · exact i3 c hc w z
        · have : c = j := by omega
          subst this
          rw [i4 c (by omega), y2]
      · intro c hc; rw [i4 c (by omega), y3 c (by omega) (by omega)]
    · rw [b4, if_pos rfl]
      obtain ⟨hh', o', i1, i2, i3, i4⟩ := ih (j + 1) f hh o V (by omega) (by omega)
      refine ⟨hh', o', i1, i2, ?_, fun c hc => i4 c (by omega)⟩
      intro c hc hj z
      rcases Nat.lt_or_ge j c with w | w
      · exact i3 c hc w z
      · have : c = j := by omega
        subst this
        exact absurd z (b6 c hc rfl)
theorem open_ok {s : Nat} (V : VS hh hr hc g B R H D K n o) (hs : s < 64) (hN : 10 ≤ N) : ∃ hh', F_Ves_openDoors N (nI s) hh = some hh' ∧ VS hh' hr hc g B R H D K n s := by
  have hB : B ≤ 6 := V.1.2.2.1
  obtain ⟨hh', o', e1, e2, e3, -⟩ := open_L (N := N) (s := s) hs hN B 0 N hh o V (by omega) (by omega)
  rw [show nI 0 = 0 from rfl] at e1
  refine ⟨hh', by unfold F_Ves_openDoors; rw [e1]; rfl, ?_⟩
  have wv : ∀ c, c < 6 → wallv g s c = wallv g o' c := by
    intro c hc
    by_cases z : g 1 (8 + c) = 2
    · exact wv_bit (e3 c hc (by omega) z).symm
    · exact wv_non z o' s
  refine e2.wall hs (fun _ _ _ => rfl) (fun b hb => by rw [wv b hb]; exact (e2.2.2.1.2.2 b hb).1) ?_
  intro b hb
  rw [(e2.2.2.1.2.2 b hb).2, shutF_S _ g o' b (fun c hc => (e2.2.2.1.2.2 c (by omega)).1)]
/-- the doors kept, and all of them as bits -/
theorem keepD_L (V : VS hh hr hc g B R H D K n o) : ∀ (m j f : Nat) (hv : HH) (x : Nat), x < 64 → j + m = B → m < f → ∃ hv' v, L_Ves_keepDoors_4 N f (nI x) (nI j) hv hh = some (nI v, hv') ∧ v < 64 ∧ (∀ f', 6 < f' + j → L_Mo_doors_33 N' f' (nI x) (nI j) g = some (nI v)) ∧ (∀ c, c < B → j ≤ c → hv' 1 c = wallv g o c) ∧ ∀ c, c < j → hv' 1 c = hv 1 c := by
  intro m
  have hB : B ≤ 6 := V.1.2.2.1
  have r1 : hh 0 0 = nI B := V.2.2.1.1.1
  induction m with
  | zero =>
    intro j f hv x hx h1 h2
    obtain ⟨f, rfl⟩ : ∃ z, f = z + 1 := ⟨f - 1, by omega⟩
    have : j = B := by omega
    subst this
    refine ⟨hv, x, ?_, hx, ?_, fun c c1 c2 => by omega, fun _ _ => rfl⟩
    · unfold L_Ves_keepDoors_4
      rw [r1, if_pos (Int32.le_refl _)]
    · have : ∀ (m i f' : Nat), i + m = 6 → m < f' → j ≤ i + 1 → L_Mo_doors_33 N' f' (nI x) (nI i) g = some (nI x) := by
        intro m
        induction m with
        | zero =>
          intro i f' i1 i2 i3
          obtain ⟨f', rfl⟩ : ∃ z, f' = z + 1 := ⟨f' - 1, by omega⟩
          have : i = 6 := by omega
          subst this
          unfold L_Mo_doors_33
          rw [if_pos (by decide)]
        | succ m ih =>
          intro i f' i1 i2 i3
          obtain ⟨f', rfl⟩ : ∃ z, f' = z + 1 := ⟨f' - 1, by omega⟩
          unfold L_Mo_doors_33
          have h6 : ¬ (6 : Int32) ≤ nI i := nI_ge (a := i) (b := 6) (by omega) (by omega)
          rw [if_neg h6]
          rcases a_door (N := N') V (nI i) with ⟨b, b1, b2, -⟩ | ⟨-, b5, -⟩
          · have := (nI_eq (by omega) (by omega)).mp b2
            omega
          · rw [b5, nI_1, pu_or0]
            exact ih (i + 1) f' (by omega) (by omega) (by omega)
      intro f' hf
      exact this (6 - j) j f' (by omega) (by omega) (by omega)
  | succ m ih =>
    intro j f hv x hx h1 h2
    obtain ⟨f, rfl⟩ : ∃ z, f = z + 1 := ⟨f - 1, by omega⟩
    unfold L_Ves_keepDoors_4
    have h6 : ¬ (6 : Int32) ≤ nI j := nI_ge (a := j) (b := 6) (by omega) (by omega)
    rw [r1, if_neg (nI_ge (by omega) (by omega)), nI_1, K_wall V (by omega)]
    simp only [pu_let]
    have hv1 : ∀ c, c < 6 → sw hv 1 6 (nI j) (wallv g o j) 1 c = if c = j then wallv g o j else hv 1 c := by
      intro c hc; rw [pu_sw, if_pos rfl, pu_wr _ _ (by omega) (by omega), pu_upd]
    have fin : ∀ (hv' : HH), (∀ c, c < B → j + 1 ≤ c → hv' 1 c = wallv g o c) → (∀ c, c < j + 1 → hv' 1 c = sw hv 1 6 (nI j) (wallv g o j) 1 c) → (∀ c, c < B → j ≤ c → hv' 1 c = wallv g o c) ∧ ∀ c, c < j → hv' 1 c = hv 1 c := by
      intro hv' f1 f2
      constructor
      · intro c c1 c2
        rcases Nat.lt_or_ge j c with w | w
        · exact f1 c c1 w
        · have : c = j := by omega
          subst this
          rw [f2 c (by omega), hv1 c (by omega), if_pos rfl]
      · intro c hc; rw [f2 c (by omega), hv1 c (by omega), if_neg (by omega)]
    rcases a_door (N := N') V (nI j) with ⟨b, b1, b2, b3, b4, b5⟩ | ⟨b4, b5, -⟩
    · obtain ⟨y1, y2⟩ := bo x hx j (by omega)
      rw [b4, if_neg pu_10, y1]
      obtain ⟨hv', v, i1, i2, i3, i4, i5⟩ := ih (j + 1) f (sw hv 1 6 (nI j) (wallv g o j)) _ y2 (by omega) (by omega)
      obtain ⟨z1, z2⟩ := fin hv' i4 i5
      refine ⟨hv', v, i1, i2, ?_, z1, z2⟩
      intro f' hf
      obtain ⟨f', rfl⟩ : ∃ z, f' = z + 1 := ⟨f' - 1, by omega⟩
      unfold L_Mo_doors_33
      rw [if_neg h6, b5, nI_1, y1]
      exact i3 f' (by omega)
    · rw [b4, if_pos rfl]
      obtain ⟨hv', v, i1, i2, i3, i4, i5⟩ := ih (j + 1) f (sw hv 1 6 (nI j) (wallv g o j)) x hx (by omega) (by omega)
      obtain ⟨z1, z2⟩ := fin hv' i4 i5
      refine ⟨hv', v, i1, i2, ?_, z1, z2⟩
      intro f' hf
      obtain ⟨f', rfl⟩ : ∃ z, f' = z + 1 := ⟨f' - 1, by omega⟩
      unfold L_Mo_doors_33
      rw [if_neg h6, b5, nI_1, pu_or0]
      exact i3 f' (by omega)
end DOOR
