/-! ===== pure: books, clears, opens ===== -/
section BOOK
variable {k k' : KS} {g g' : HH} {hy hh hr hc ht : HH} {B R H D K n o N N' : Nat}
theorem sim_19 : Sim_19 Inv := by
  intro a1 a2 a3 k g I
  have same : ∀ v, F_K_books 3000 a1 a2 a3 (k 0) (k 1) (k 9) (k 10) (k 11) = some (v, k 1, k 11) → F_Mo_books 3000 a1 a2 a3 g = some (v, g) → ∃ (N N' : Nat) (v : Int32) (k' : KS) (g' : HH), KO_19 N a1 a2 a3 k = some (v, k') ∧ MO_19 N' a1 a2 a3 g = some (v, g') ∧ Inv k' g' := by
    intro v h1 h2
    refine ⟨3000, 3000, v, k, g, ?_, ?_, I⟩
    · unfold KO_19; rw [h1]; show some (v, ku (ku k 1 (k 1)) 11 (k 11)) = _
      rw [ku_self, ku_self]
    · unfold MO_19; rw [h2]; rfl
  have i1 : ∀ a : Int32, F_Mo_in a.toInt64 1 99 = F_K_within a 1 99 := fun a => pu_inw a 1 99
  have i2 : ∀ a : Int32, F_Mo_in a.toInt64 1 5 = F_K_within a 1 5 := fun a => pu_inw a 1 5
  rcases i_kind (N := 3000) I a1 with ⟨B, R, H, D, K, n, o, kd, J, h1, h2, h3, h4⟩ | ⟨h3, h4⟩
  case inr =>
    refine same (-2) ?_ ?_
    · unfold F_K_books; rw [h3]; rfl
    · unfold F_Mo_books; rw [h4]; rfl
  subst h2
  have V := J.2.2.1
  have hn := V.nn
  have hK := V.kk
  rcases pu_wc a2 1 99 (by omega) (by omega) with ⟨w, w1, w2, w3, w4⟩ | ⟨w1, w4⟩
  case inr =>
    have w5 : F_K_within a2 1 99 = 0 := w4
    refine same (-2) ?_ ?_
    · unfold F_K_books; rw [h3, if_neg pu_10, w5]; rfl
    · unfold F_Mo_books; rw [h4, i1, w5]; rfl
  have w5 : F_K_within a2 1 99 = 1 := w4
  rcases pu_wc a3 1 5 (by omega) (by omega) with ⟨t, t1, t2, t3, t4⟩ | ⟨t1, t4⟩
  case inr =>
    have t5 : F_K_within a3 1 5 = 0 := t4
    refine same (-2) ?_ ?_
    · unfold F_K_books; rw [h3, if_neg pu_10, w5, if_neg pu_10, t5]; rfl
    · unfold F_Mo_books; rw [h4, i1, w5, i2, t5]; rfl
  have t5 : F_K_within a3 1 5 = 1 := t4
  have eK : F_K_books 3000 (nI kd) a2 a3 (k 0) (k 1) (k 9) (k 10) (k 11) = (if nI n < 24 then (Option.bind (F_Hist_mark 3000 (k 1) (k 9) (k 11)) fun v5 => some ((F_Cargo_add (nI kd) a2 a3 (k 11)).1, F_Hist_keep v5, (F_Cargo_add (nI kd) a2 a3 (k 11)).2)) else some (-5, k 1, k 11)) := by
    unfold F_K_books; rw [h3, if_neg pu_10, w5, if_neg pu_10, t5, if_pos pu_10, V.h0]; rfl
  have eM : F_Mo_books 3000 (nI kd) a2 a3 g = (if ¬ (g 0 6) = 24 then (Option.bind (F_Mo_keeps 3000 g) fun v7 => (if sv_in (v7 0 6) 24 then (sv_let (sa v7 4 (v7 0 6) (nI kd)) fun gm_10 => (if sv_in (gm_10 0 6) 24 then (sv_let (sa gm_10 5 (gm_10 0 6) a2) fun gm_12 => (if sv_in (gm_12 0 6) 24 then (sv_let (sa gm_12 6 (gm_12 0 6) a3) fun gm_14 => (if sv_in (gm_14 0 6) 24 then (sv_let (sa gm_14 7 (gm_14 0 6) (-1)) fun gm_16 => (sv_let (ss gm_16 6 ((gm_16 0 6) + 1)) fun gm_17 => (some (((gm_17 0 6) - 1), gm_17)))) else none)) else none)) else none)) else none)) else some (-5, g)) := by
    unfold F_Mo_books; rw [h4, i1, w5, i2, t5]; rfl
  rcases Nat.lt_or_ge n 24 with c | c
  case inr =>
    have : n = 24 := by omega
    subst this
    rw [if_neg (by decide)] at eK
    rw [V.n6, ifn (show nI 24 = 24 from rfl)] at eM
    exact same (-5) eK eM
  have cn : ¬ g 0 6 = 24 := by
    rw [V.n6]; intro z
    have := (nI_eq (b := 24) (by omega) (by omega)).mp z
    omega
  have cl : nI n < 24 := nI_lt (b := 24) c (by omega)
  rw [if_pos cl] at eK
  rw [if_pos cn] at eM
  obtain ⟨hy1, g1, a1', a2', a3', a4', a5', a6'⟩ := act_ok (N := 3000) (N' := 3000) V J.2.2.2.1 J.2.2.2.2.1 J.2.2.2.2.2.1 (by omega) (by omega)
  have V1 : VS (k 9) (k 10) (k 11) g1 B R H D K n o := V.cg (a5' 1 (by omega) (by omega)) (a6' 6 (by omega)) (a5' 4 (by omega) (by omega)) (a5' 5 (by omega) (by omega)) (a5' 6 (by omega) (by omega)) (a5' 7 (by omega) (by omega)) (a5' 8 (by omega) (by omega))
  have e6 : g1 0 6 = nI n := V1.n6
  rw [a1'] at eK
  rw [a2'] at eM
  simp only [Option.bind_some] at eK eM
  -- the reference's new state
  have eg : ∃ g2, F_Mo_books 3000 (nI kd) a2 a3 g = some (nI n, g2) ∧ g2 4 = upd (g1 4) n (nI kd) ∧ g2 5 = upd (g1 5) n a2 ∧ g2 6 = upd (g1 6) n a3 ∧ g2 7 = upd (g1 7) n (-1) ∧ g2 0 = upd (g1 0) 6 (nI (n + 1)) ∧ ∀ r, r ≠ 0 → r ≠ 4 → r ≠ 5 → r ≠ 6 → r ≠ 7 → g2 r = g1 r := by
    have hin : sv_in (nI n) 24 := pu_in c (by omega)
    have s0 : ∀ (h : HH) (r : Nat) (i v : Int32), r ≠ 0 → sa h r i v 0 = h 0 := fun h r i v hr' => by rw [pu_sa, if_neg (fun z => hr' z.symm)]
    simp only [pu_let, s0 _ 4 _ _ (by omega), s0 _ 5 _ _ (by omega), s0 _ 6 _ _ (by omega), s0 _ 7 _ _ (by omega), e6, if_pos hin] at eM
    have q : ∀ h : HH, ss h 6 (nI n + 1) 0 6 - 1 = nI n := by
      intro h; rw [pu_ss, if_pos rfl, if_pos rfl, nI_1]; exact nI_pred n
    rw [q] at eM
    refine ⟨_, eM, ?_, ?_, ?_, ?_, ?_, ?_⟩
    · rw [pu_ssr, if_neg (by omega), pu_sa, if_neg (by omega), pu_sa, if_neg (by omega), pu_sa, if_neg (by omega), pu_sa, if_pos rfl, nI_clamp (by omega)]
    · rw [pu_ssr, if_neg (by omega), pu_sa, if_neg (by omega), pu_sa, if_neg (by omega), pu_sa, if_pos rfl, pu_sa, if_neg (by omega), nI_clamp (by omega)]
    · rw [pu_ssr, if_neg (by omega), pu_sa, if_neg (by omega), pu_sa, if_pos rfl, pu_sa, if_neg (by omega), pu_sa, if_neg (by omega), nI_clamp (by omega)]
    · rw [pu_ssr, if_neg (by omega), pu_sa, if_pos rfl, pu_sa, if_neg (by omega), pu_sa, if_neg (by omega), pu_sa, if_neg (by omega), nI_clamp (by omega)]
    · rw [pu_ssr, if_pos rfl, s0 _ _ _ _ (by omega), s0 _ _ _ _ (by omega), s0 _ _ _ _ (by omega), s0 _ _ _ _ (by omega), nI_1]
    · intro r r0 r4 r5 r6 r7
      rw [pu_ssr, if_neg r0, pu_sa, if_neg r7, pu_sa, if_neg r6, pu_sa, if_neg r5, pu_sa, if_neg r4]
  obtain ⟨g2, eM2, m4, m5, m6, m7, m0, mr⟩ := eg
  have m0' : ∀ i, i ≠ 6 → g2 0 i = g1 0 i := fun i hi => by rw [m0, pu_upd, if_neg hi]
  -- the class's new boxes
  have ec : (F_Cargo_add (nI kd) a2 a3 (k 11)).1 = nI n ∧ (F_Cargo_add (nI kd) a2 a3 (k 11)).2 0 0 = nI (n + 1) ∧ (F_Cargo_add (nI kd) a2 a3 (k 11)).2 1 = upd (k 11 1) n (nI kd) ∧ (F_Cargo_add (nI kd) a2 a3 (k 11)).2 2 = upd (k 11 2) n a2 ∧ (F_Cargo_add (nI kd) a2 a3 (k 11)).2 3 = upd (k 11 3) n a3 ∧ (F_Cargo_add (nI kd) a2 a3 (k 11)).2 4 = upd (k 11 4) n (-1) ∧ (F_Cargo_add (nI kd) a2 a3 (k 11)).2 5 = k 11 5 := by
    unfold F_Cargo_add
    simp only [pu_let]
    rw [V.h0]
    refine ⟨rfl, ?_, ?_, ?_, ?_, ?_, ?_⟩
    · rw [pu_ss, if_pos rfl, if_pos rfl, pu_sw, if_neg (by omega), pu_sw, if_neg (by omega), pu_sw, if_neg (by omega), pu_sw, if_neg (by omega), V.h0, nI_1]
    · rw [pu_ssr, if_neg (by omega), pu_sw, if_neg (by omega), pu_sw, if_neg (by omega), pu_sw, if_neg (by omega), pu_sw, if_pos rfl, pu_wr _ _ (by omega) (by omega)]
    · rw [pu_ssr, if_neg (by omega), pu_sw, if_neg (by omega), pu_sw, if_neg (by omega), pu_sw, if_pos rfl, pu_sw, if_neg (by omega), pu_wr _ _ (by omega) (by omega)]
    · rw [pu_ssr, if_neg (by omega), pu_sw, if_neg (by omega), pu_sw, if_pos rfl, pu_sw, if_neg (by omega), pu_sw, if_neg (by omega), pu_wr _ _ (by omega) (by omega)]
    · rw [pu_ssr, if_neg (by omega), pu_sw, if_pos rfl, pu_sw, if_neg (by omega), pu_sw, if_neg (by omega), pu_sw, if_neg (by omega), pu_wr _ _ (by omega) (by omega)]
    · rw [pu_ssr, if_neg (by omega), pu_sw, if_neg (by omega), pu_sw, if_neg (by omega), pu_sw, if_neg (by omega), pu_sw, if_neg (by omega)]
  obtain ⟨c0, c1, c2, c3, c4, c5, c6⟩ := ec
  have r8 : g2 8 = g 8 := by rw [mr 8 (by omega) (by omega) (by omega) (by omega) (by omega), a5' 8 (by omega) (by omega)]
  have V2 : VS (k 9) (k 10) (F_Cargo_add (nI kd) a2 a3 (k 11)).2 g2 B R H D K (n + 1) o := by
    obtain ⟨⟨x1, x2⟩, x3, x4⟩ := V1.2.2.2.2.1
    obtain ⟨y1, y2, y3⟩ := V1.2.2.2.2.2
    refine V1.mk' (mr 1 (by omega) (by omega) (by omega) (by omega) (by omega)) ⟨⟨?_, by omega⟩, ?_, ?_⟩ ⟨c1, ?_, ?_⟩
    · rw [m0, pu_upd, if_pos rfl]
    · intro b hb
      rw [m4, m5, m6, m7, mr 8 (by omega) (by omega) (by omega) (by omega) (by omega), pu_upd, pu_upd, pu_upd, pu_upd]
      by_cases e : b = n
      · rw [if_pos e, if_pos e, if_pos e, if_pos e]
        exact ⟨⟨kd, h1, rfl⟩, ⟨w, w1, w2, w3⟩, ⟨t, t1, t2, t3⟩, Or.inl rfl⟩
      · rw [if_neg e, if_neg e, if_neg e, if_neg e]
        exact x3 b (by omega)
    · intro p hp
      rw [mr 8 (by omega) (by omega) (by omega) (by omega) (by omega), m7]
      rcases x4 p hp with h | ⟨b, b1, b2, b3⟩
      · exact Or.inl h
      · exact Or.inr ⟨b, by omega, b2, by rw [pu_upd, if_neg (by omega), b3]⟩
    · intro b hb
      rw [c2, c3, c4, c5, m4, m5, m6, m7, pu_upd, pu_upd, pu_upd, pu_upd, pu_upd, pu_upd, pu_upd, pu_upd]
      by_cases e : b = n
      · simp [e]
      · simp only [if_neg e]
        exact y2 b (by omega)
    · intro p hp
      rw [c6, mr 8 (by omega) (by omega) (by omega) (by omega) (by omega)]
      exact y3 p hp
  have gr : ∀ r, r ≠ 0 → r ≠ 4 → r ≠ 5 → r ≠ 6 → r ≠ 7 → r ≠ 10 → g2 r = g r := fun r r0 r4 r5 r6 r7 r10 => by rw [mr r r0 r4 r5 r6 r7, a5' r r0 r10]
  have g0 : ∀ i, i ≠ 6 → i ≠ 22 → g2 0 i = g 0 i := fun i h6 h22 => by rw [m0' i h6, a6' i h22]
  refine ⟨3000, 3000, nI n, ku (ku k 1 (F_Hist_keep hy1)) 11 (F_Cargo_add (nI kd) a2 a3 (k 11)).2, g2, ?_, ?_, ?_, Or.inr ⟨B, R, H, D, K, n + 1, o, ?_⟩⟩
  · unfold KO_19; rw [eK, c0]; rfl
  · unfold MO_19; rw [eM2]; rfl
  · refine InvB_c I.1 ?_ ?_ ?_ (g0 _ (by omega) (by omega)) (g0 _ (by omega) (by omega)) (g0 _ (by omega) (by omega)) (g0 _ (by omega) (by omega)) (gr _ (by omega) (by omega) (by omega) (by omega) (by omega) (by omega)) (gr _ (by omega) (by omega) (by omega) (by omega) (by omega) (by omega))
    all_goals simp only [pu_ku]; rfl
  · refine ⟨?_, ?_, ?_, ?_, ?_, ?_, ?_, ?_⟩
    · simp only [pu_ku]; exact J.1
    · rw [g0 1 (by omega) (by omega)]; exact J.2.1
    · simp only [pu_ku]; exact V2
    · rw [g0 11 (by omega) (by omega)]; exact J.2.2.2.1
    · unfold NoH; rw [r8]; exact J.2.2.2.2.1
    · simp only [pu_ku]
      refine HiR_c hn a4' (by omega) (m0' 22 (by omega)) (mr 10 (by omega) (by omega) (by omega) (by omega) (by omega)) (mr 1 (by omega) (by omega) (by omega) (by omega) (by omega)) ?_
      intro b hb
      rw [m4, m5, m6, pu_upd, pu_upd, pu_upd, if_neg (by omega), if_neg (by omega), if_neg (by omega)]
      exact ⟨rfl, rfl, rfl⟩
    · simp only [pu_ku]
      exact ToR_c J.2.2.2.2.2.2.1 (g0 32 (by omega) (by omega)) (gr 14 (by omega) (by omega) (by omega) (by omega) (by omega) (by omega)) (gr 15 (by omega) (by omega) (by omega) (by omega) (by omega) (by omega))
    · simp only [pu_ku]
      exact ShR_c J.2.2.2.2.2.2.2 (g0 37 (by omega) (by omega)) (gr 16 (by omega) (by omega) (by omega) (by omega) (by omega) (by omega))
theorem clr_L (x : Int32) : ∀ (m j f : Nat) (hc g : HH), VS hh hr hc g B R H D K n o → j + m = n → m < f → (∀ i, i < j → g 7 i = -1) → ∃ hc' g', L_Mo_clears_25 N f x (nI j) g = some g' ∧ VS hh hr hc' g' B R H D K n o ∧ (∀ i, i < n → g' 7 i = -1) ∧ (∀ r, r ≠ 7 → r ≠ 8 → g' r = g r) ∧ ((∀ i, i < n → g 7 i = -1) → g' 7 = g 7 ∧ g' 8 = g 8) := by
  intro m
  induction m with
  | zero =>
    intro j f hc g V h1 h2 h3
    obtain ⟨f, rfl⟩ : ∃ z, f = z + 1 := ⟨f - 1, by omega⟩
    have : j = n := by omega
    subst this
    unfold L_Mo_clears_25
    rw [V.n6, if_pos (Int32.le_refl _)]
    exact ⟨hc, g, rfl, V, h3, fun _ _ _ => rfl, fun _ => ⟨rfl, rfl⟩⟩
  | succ m ih =>
    intro j f hc g V h1 h2 h3
    obtain ⟨f, rfl⟩ : ∃ z, f = z + 1 := ⟨f - 1, by omega⟩
    have hn := V.nn
    have hj : j < n := by omega
    unfold L_Mo_clears_25
    obtain ⟨g1, l0, V1, l1, l2, l3, l4, -⟩ := lays_ok (N := N) V hj (v := -1) (Or.inl rfl)
    rw [V.n6, if_neg (nI_ge hj (by omega)), l0, nI_1]
    simp only [Option.bind_some]
    obtain ⟨hc', g', i1, i2, i3, i4, i5⟩ := ih (j + 1) f _ g1 V1 (by omega) (by omega) (by
      intro i hi
      rw [l2, pu_upd]
      by_cases e : i = j
      · rw [if_pos e]
      · rw [if_neg e]; exact h3 i (by omega))
    refine ⟨hc', g', i1, i2, i3, ?_, ?_⟩
    · intro r r7 r8; rw [i4 r r7 r8, l1 r r7 r8]
    · intro z
      have e7 : g1 7 = g 7 := by
        rw [l2]; funext i; rw [pu_upd]
        by_cases e : i = j
        · rw [if_pos e, e, z j hj]
        · rw [if_neg e]
      have e8 := l4 (z j hj) rfl
      obtain ⟨y1, y2⟩ := i5 (by rw [e7]; exact z)
      rw [y1, y2]
      exact ⟨e7, e8⟩
theorem sim_39 : Sim_39 Inv := by
  intro k g I
  rcases i_there I with ⟨B, R, H, D, K, n, o, J, h1, h2⟩ | ⟨J, h1, h2⟩
  case inr =>
    refine ⟨3000, 3000, -2, k, g, ?_, ?_, I⟩
    · unfold KO_39 F_K_clears; rw [h1]; show some (-2, ku (ku k 1 (k 1)) 11 (k 11)) = _
      rw [ku_self, ku_self]
    · unfold MO_39 F_Mo_clears; rw [h2]; rfl
  have V := J.2.2.1
  have hn := V.nn
  obtain ⟨v, v1, v2, v3, v4⟩ := lying_eq (N := 3000) (N' := 3000) V (by omega) (by omega)
  have eK : F_K_clears 3000 (k 0) (k 1) (k 9) (k 11) = (if nI v ≤ 0 then some (nI v, k 1, k 11) else (Option.bind (F_Hist_mark 3000 (k 1) (k 9) (k 11)) fun v5 => some (nI v, F_Hist_keep v5, F_Cargo_liftAll (k 11)))) := by
    unfold F_K_clears; rw [h1, if_pos pu_10, v1]; rfl
  have eM : F_Mo_clears 3000 g = (Option.bind (if nI v ≤ 0 then some g else (Option.bind (F_Mo_keeps 3000 g) fun v5 => some v5)) fun v7 => (Option.bind (L_Mo_clears_25 3000 3000 (nI v) 0 v7) fun v11 => some (nI v, v11))) := by
    unfold F_Mo_clears; rw [h2, if_pos pu_10, v2]; rfl
  by_cases c : v = 0
  · subst c
    rw [if_pos (by decide)] at eK eM
    simp only [Option.bind_some] at eM
    obtain ⟨hc', g', i1, i2, i3, i4, i5⟩ := clr_L (N := 3000) (nI 0) n 0 3000 (k 11) g V (by omega) (by omega) (fun i hi => by omega)
    rw [show nI 0 = 0 from rfl] at i1 eM eK
    rw [i1] at eM
    obtain ⟨y1, y2⟩ := i5 (v4.mp rfl)
    have eg : g' = g := by
      funext r
      by_cases r7 : r = 7
      · rw [r7, y1]
      · by_cases r8 : r = 8
        · rw [r8, y2]
        · exact i4 r r7 r8
    subst eg
    refine ⟨3000, 3000, 0, k, g', ?_, ?_, I⟩
    · unfold KO_39; rw [eK]; show some ((0 : Int32), ku (ku k 1 (k 1)) 11 (k 11)) = _
      rw [ku_self, ku_self]
    · unfold MO_39; rw [eM]; rfl
  · have cv : ¬ nI v ≤ 0 := nI_nle (by omega) (by omega)
    rw [if_neg cv] at eK eM
    obtain ⟨hy1, g1, a1', a2', a3', a4', a5', a6'⟩ := act_ok (N := 3000) (N' := 3000) V J.2.2.2.1 J.2.2.2.2.1 J.2.2.2.2.2.1 (by omega) (by omega)
    have V1 : VS (k 9) (k 10) (k 11) g1 B R H D K n o := V.cg (a5' 1 (by omega) (by omega)) (a6' 6 (by omega)) (a5' 4 (by omega) (by omega)) (a5' 5 (by omega) (by omega)) (a5' 6 (by omega) (by omega)) (a5' 7 (by omega) (by omega)) (a5' 8 (by omega) (by omega))
    rw [a1'] at eK
    rw [a2'] at eM
    simp only [Option.bind_some] at eK eM
    obtain ⟨hc', g2, i1, i2, i3, i4, i5⟩ := clr_L (N := 3000) (nI v) n 0 3000 (k 11) g1 V1 (by omega) (by omega) (fun i hi => by omega)
    rw [show nI 0 = 0 from rfl] at i1
    rw [i1] at eM
    have e8 : ∀ p, p < 144 → g2 8 p = -1 := by
      intro p hp
      rcases i2.atb hp with w | ⟨b, hb, -, w⟩
      · exact w
      · rw [i3 b hb] at w; exact absurd w (pu_m1' (by omega))
    have la : ∀ r, r ≠ 4 → r ≠ 5 → F_Cargo_liftAll (k 11) r = k 11 r := by
      intro r r4 r5; unfold F_Cargo_liftAll; simp only [pu_let]; rw [pu_sf, if_neg r5, pu_sf, if_neg r4]
    have V2 : VS (k 9) (k 10) (F_Cargo_liftAll (k 11)) g2 B R H D K n o := by
      obtain ⟨y1, y2, y3⟩ := V1.2.2.2.2.2
      refine i2.mk' rfl i2.2.2.2.2.1 ⟨?_, ?_, ?_⟩
      · rw [la 0 (by omega) (by omega)]; exact y1
      · intro b hb
        obtain ⟨z1, z2, z3, -⟩ := y2 b hb
        rw [la 1 (by omega) (by omega), la 2 (by omega) (by omega), la 3 (by omega) (by omega), i4 4 (by omega) (by omega), i4 5 (by omega) (by omega), i4 6 (by omega) (by omega), i3 b hb]
        refine ⟨z1, z2, z3, ?_⟩
        unfold F_Cargo_liftAll; simp only [pu_let]; rw [pu_sf, if_neg (by omega), pu_sf, if_pos rfl]; unfold sv_fl; rw [if_pos (by omega)]
      · intro p hp
        rw [e8 p hp]
        unfold F_Cargo_liftAll; simp only [pu_let]; rw [pu_sf, if_pos rfl]; unfold sv_fl; rw [if_pos hp]
    have gr : ∀ r, r ≠ 0 → r ≠ 7 → r ≠ 8 → r ≠ 10 → g2 r = g r := fun r r0 r7 r8 r10 => by rw [i4 r r7 r8, a5' r r0 r10]
    have g0 : ∀ i, i ≠ 22 → g2 0 i = g 0 i := fun i h22 => by rw [i4 0 (by omega) (by omega), a6' i h22]
    have hP := V.pp
    refine ⟨3000, 3000, nI v, ku (ku k 1 (F_Hist_keep hy1)) 11 (F_Cargo_liftAll (k 11)), g2, ?_, ?_, ?_, Or.inr ⟨B, R, H, D, K, n, o, ?_⟩⟩
    · unfold KO_39; rw [eK]; rfl
    · unfold MO_39; rw [eM]; rfl
    · refine InvB_c I.1 ?_ ?_ ?_ (g0 _ (by omega)) (g0 _ (by omega)) (g0 _ (by omega)) (g0 _ (by omega)) (gr _ (by omega) (by omega) (by omega) (by omega)) (gr _ (by omega) (by omega) (by omega) (by omega))
      all_goals simp only [pu_ku]; rfl
    · refine ⟨?_, ?_, ?_, ?_, ?_, ?_, ?_, ?_⟩
      · simp only [pu_ku]; exact J.1
      · rw [g0 1 (by omega)]; exact J.2.1
      · simp only [pu_ku]; exact V2
      · rw [g0 11 (by omega)]; exact J.2.2.2.1
      · intro p hp q; exact absurd (e8 p (by omega)) q
      · simp only [pu_ku]
        refine HiR_c hn a4' (by omega) (by rw [i4 0 (by omega) (by omega)]) (i4 10 (by omega) (by omega)) (i4 1 (by omega) (by omega)) ?_
        intro b hb
        rw [i4 4 (by omega) (by omega), i4 5 (by omega) (by omega), i4 6 (by omega) (by omega)]
        exact ⟨rfl, rfl, rfl⟩
      · simp only [pu_ku]
        exact ToR_c J.2.2.2.2.2.2.1 (g0 32 (by omega)) (gr 14 (by omega) (by omega) (by omega) (by omega)) (gr 15 (by omega) (by omega) (by omega) (by omega))
      · simp only [pu_ku]
        exact ShR_c J.2.2.2.2.2.2.2 (g0 37 (by omega)) (gr 16 (by omega) (by omega) (by omega) (by omega))
end BOOK
