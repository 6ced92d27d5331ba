/-! ===== pure: shifts ===== -/
section SHIG
variable {k k' : KS} {g g' g2 gm gm' : HH} {hs hs' hu hy hv hh hr hr' hc hc' hc2 hp hl hl' : HH} {B R H D K n o N N' t w lim a0 S kd wt : Nat}
theorem bs_l {α β γ : Type} (x : α) (inj : β → γ) (f : α → Option γ) : sv_bs (some (.inl x)) inj f = f x := Eq.trans rfl rfl
theorem bs_r {α β γ : Type} (x : β) (inj : β → γ) (f : α → Option γ) : sv_bs (some (.inr x)) inj f = some (inj x) := Eq.trans rfl rfl
theorem sh_36 {i dd dd' : Nat} (prev : Int32) (hG : ShOK hh hr B R H D K n o N N' w lim kd wt (i + 1) dd dd') (hlim : lim ≤ 50000) (hw : w ≤ 2) (hi : i < w) (hN : 200 ≤ N) (hN' : 200 ≤ N') : ∀ (m b f f' : Nat) (hs hc g : HH), VS hh hr hc g B R H D K n o → g 0 11 = nI o → ShP hs g lim → g 0 26 = 0 → LateR hc g kd wt → PrfS hs g i → (∀ b, b < n → ((∃ x, 0 ≤ x ∧ x < i ∧ hs 3 x = nI b) ↔ nI b = prev)) → b + m = n → m < f → m < f' → ∃ v v' hs' hc' g', sv_bs (L_Shif_findShifts_36 N (F_Shif_findShifts N dd) f (nI i) (nI w) 0 (nI b) hs hh hr hc) id (fun v29 => some ((0 : Int32), v29.1, v29.2)) = some (v, hs', hc') ∧ sv_bs (L_Mo_shiftsMore_30 N' (F_Mo_shiftsMore N' dd') f' (nI i) (nI w) prev (nI b) g) id (fun v31 => some ((0 : Int32), v31)) = some (v', g') ∧ VS hh hr hc' g' B R H D K n o ∧ ShP hs' g' lim ∧ FrS hs hs' hc hc' g g' n i ∧ EndS hs' g' w v v' := by
  intro m
  induction m with
  | zero =>
    intro b f f' hs hc g V ho S e26 L P hpr h1 h2 h3
    obtain ⟨f, rfl⟩ : ∃ z, f = z + 1 := ⟨f - 1, by omega⟩
    obtain ⟨f', rfl⟩ : ∃ z, f' = z + 1 := ⟨f' - 1, by omega⟩
    have : b = n := by omega
    rw [L_Shif_findShifts_36, L_Mo_shiftsMore_30, V.n6, V.h0, this, if_pos (Int32.le_refl _), if_pos (Int32.le_refl _), bs_l, bs_l]
    exact ⟨0, 0, hs, hc, g, rfl, rfl, V, S, FrS.refl hs hc g n i, Or.inl ⟨e26, rfl, Or.inl rfl⟩⟩
  | succ m ih =>
    intro b f f' hs hc g V ho S e26 L P hpr h1 h2 h3
    obtain ⟨f, rfl⟩ : ∃ z, f = z + 1 := ⟨f - 1, by omega⟩
    obtain ⟨f', rfl⟩ : ∃ z, f' = z + 1 := ⟨f' - 1, by omega⟩
    have hb : b < n := by omega
    have hn := V.nn
    have hP := V.pp
    have ib : sv_in (nI b) 24 := pu_in (by omega) (by omega)
    have skK : L_Shif_findShifts_88 N (F_Shif_findShifts N dd) N (nI i) (nI w) 0 (nI b) 0 (F_Cargo_placeOf (nI b) hc) 0 hs hh hr hc = some (.inl (0, hs, hc)) := by
      obtain ⟨z, hz⟩ : ∃ z, N = z + 1 := ⟨N - 1, by omega⟩
      have : ∀ z, L_Shif_findShifts_88 N (F_Shif_findShifts N dd) (z + 1) (nI i) (nI w) 0 (nI b) 0 (F_Cargo_placeOf (nI b) hc) 0 hs hh hr hc = some (.inl (0, hs, hc)) := by
        intro z
        rw [L_Shif_findShifts_88, if_pos rfl]
      have e := this z
      rw [← hz] at e
      exact e
    have pl : F_Cargo_placeOf (nI b) hc = g 7 b := (V.box hb).choose_spec.choose_spec.choose_spec.2.2.2.2.2.2.2.2.2.2.2
    have nx := ih (b + 1) f f' hs hc g V ho S e26 L P hpr (by omega) (by omega) (by omega)
    rw [L_Shif_findShifts_36, L_Mo_shiftsMore_30, V.n6, V.h0, if_neg (nI_ge hb (by omega)), if_neg (nI_ge hb (by omega)), K_lift V hb, nI_1]
    simp only [if_pos ib]
    rw [nI_clamp (by omega)]
    by_cases c7 : g 7 b = -1
    · rw [decide_eq_false (fun z => z c7), Bool.false_and, if_pos (show bi false = 0 by decide), bind_sn, skK, bs_l, if_pos c7]
      dsimp only
      rw [ite_self]
      exact nx
    · rw [decide_eq_true c7, Bool.true_and, if_neg c7, Mo_lift V hb c7, bind_sn]
      cases ep : pinS g H D (plN B R H D) b with
      | true =>
        rw [show (!true) = false from rfl, if_pos (show bi false = 0 by decide), bind_sn, skK, bs_l, if_neg (show ¬ ¬ bi false = 0 by decide)]
        dsimp only
        rw [ite_self]
        exact nx
      | false =>
        rw [show (!false) = true from rfl, if_neg (show ¬ bi true = 0 by decide), if_pos (show ¬ bi true = 0 by decide)]
        have sh := shd_L (N := N) (hs := hs) (b := b) (i := i) (by omega) i 0 N (by omega) (by omega)
        rw [show nI 0 = (0 : Int32) from rfl] at sh
        rcases sh with ⟨q1, q2⟩ | ⟨q1, q2⟩
        · have e : F_Shif_isShifted N (nI b) (nI i) hs = some 1 := q1
          have ev := (hpr b hb).mp q2
          rw [e, bind_sn, if_pos pu_10, bind_sn, skK, bs_l, if_pos ev]
          exact nx
        · have e : F_Shif_isShifted N (nI b) (nI i) hs = some 0 := q1
          have ev : ¬ nI b = prev := fun z => q2 ((hpr b hb).mpr z)
          rw [e, bind_sn, ife0, bind_sn, if_neg ev, pl]
          rcases V.plc hb with u | ⟨q, hq, u, u2⟩
          · exact absurd u c7
          obtain ⟨hs1, hc1, g1, s, s', a1, a2, V1, S1, F1, E1⟩ := sh_88 (N := N) (N' := N') prev hG hlim hw hi hb hq hN hN' (plN B R H D) 0 N N' hs hc g V ho S e26 L P u (by omega) (by omega) (by omega)
          rw [show nI 0 = (0 : Int32) from rfl] at a1 a2
          rw [u, a1, a2]
          rcases E1 with ⟨x1, x2, x3⟩ | ⟨v, x1, x2, x3⟩
          · rw [x1, x2, bs_l, bs_l]
            obtain ⟨v, v', hs2, hc2, g2, y1, y2, V2, S2, F2, E2⟩ := ih (b + 1) f f' hs1 hc1 g1 V1 (by rw [F1.2.2.2.1 11 (by omega) (by omega) (by omega)]; exact ho) S1 x3 (F1.late L) (F1.pre P) (by
              intro c hc'
              have : (∃ x, 0 ≤ x ∧ x < i ∧ hs1 3 x = nI c) ↔ ∃ x, 0 ≤ x ∧ x < i ∧ hs 3 x = nI c := by
                constructor
                · rintro ⟨x, z1, z2, z3⟩
                  exact ⟨x, z1, z2, by rw [← (F1.2.2.2.2.2 x z2).1]; exact z3⟩
                · rintro ⟨x, z1, z2, z3⟩
                  exact ⟨x, z1, z2, by rw [(F1.2.2.2.2.2 x z2).1]; exact z3⟩
              rw [this]; exact hpr c hc') (by omega) (by omega) (by omega)
            exact ⟨v, v', hs2, hc2, g2, y1, y2, V2, S2, F1.tr F2, E2⟩
          · rw [x1, x2, bs_r, bs_r, bs_r, bs_r]
            exact ⟨v, 1, hs1, hc1, g1, rfl, rfl, V1, S1, F1, x3⟩
theorem sh_ok (hk : kd < K) (hlim : lim ≤ 50000) (hw : w ≤ 2) (hN : 200 ≤ N) (hN' : 200 ≤ N') : ∀ (q i dd dd' : Nat), i + q = w → q < dd → q < dd' → ShOK hh hr B R H D K n o N N' w lim kd wt i dd dd' := by
  intro q
  induction q with
  | zero =>
    intro i dd dd' h1 h2 h3
    obtain ⟨dd, rfl⟩ : ∃ z, dd = z + 1 := ⟨dd - 1, by omega⟩
    obtain ⟨dd', rfl⟩ : ∃ z, dd' = z + 1 := ⟨dd' - 1, by omega⟩
    have hiw : i = w := by omega
    intro hs hc g prev V ho S e26 L P _
    have hP := V.pp
    obtain ⟨v, a1, a2⟩ := late_L (N := N) (N' := N') V ho hk L (by omega) (by omega) (plN B R H D) 0 N N' (by omega) (by omega) (by omega)
    rw [show nI 0 = (0 : Int32) from rfl] at a1 a2
    have e1 : F_Ves_openPlace N 24 0 hh hr hc = some v := a1
    have e2 : F_Mo_latePlace N' g = some v := a2
    rw [F_Shif_findShifts, F_Mo_shiftsMore, if_neg (by rw [hiw]; exact nI_nlt (Nat.le_refl _) (by omega)), ifn (congrArg nI hiw), e1, e2, bind_sn, bind_sn, pu_letn, pu_letn]
    have x6 : ∀ j, ss hs 6 v 0 j = if j = 6 then v else hs 0 j := fun j => by rw [pu_ss, if_pos rfl]
    have x9 : ∀ j, ss g 39 v 0 j = if j = 39 then v else g 0 j := fun j => by rw [pu_ss, if_pos rfl]
    have hr6 : ∀ r, r ≠ 0 → ss hs 6 v r = hs r := fun r h => by rw [pu_ssr, if_neg h]
    have gr9 : ∀ r, r ≠ 0 → ss g 39 v r = g r := fun r h => by rw [pu_ssr, if_neg h]
    have V' : VS hh hr hc (ss g 39 v) B R H D K n o := V.cg (gr9 1 (by omega)) (by rw [x9, if_neg (by omega)]) (gr9 4 (by omega)) (gr9 5 (by omega)) (gr9 6 (by omega)) (gr9 7 (by omega)) (gr9 8 (by omega))
    have S' : ShP (ss hs 6 v) (ss g 39 v) lim := by
      unfold ShP
      rw [x6 8, x6 7, x9 25, x9 26, x9 24]
      simp only [if_neg (show ¬ (8 : Nat) = 6 by omega), if_neg (show ¬ (7 : Nat) = 6 by omega), if_neg (show ¬ (25 : Nat) = 39 by omega), if_neg (show ¬ (26 : Nat) = 39 by omega), if_neg (show ¬ (24 : Nat) = 39 by omega)]
      exact S
    have F' : FrS hs (ss hs 6 v) hc hc g (ss g 39 v) n i := by
      refine ⟨⟨hr6 1 (by omega), hr6 2 (by omega), by rw [x6, if_neg (by omega)], by rw [x6, if_neg (by omega)]⟩, ⟨rfl, rfl⟩, fun r r0 _ _ _ => gr9 r r0, fun j _ _ j39 => by rw [x9, if_neg j39], fun c _ => by rw [gr9 7 (by omega)], fun j _ => ?_⟩
      rw [hr6 3 (by omega), hr6 4 (by omega), gr9 17 (by omega)]
      exact ⟨rfl, rfl, rfl, rfl⟩
    have P' : PrfS (ss hs 6 v) (ss g 39 v) w := by rw [← hiw]; exact F'.pre P
    have f26 : ss g 39 v 0 26 = 0 := by rw [x9, if_neg (by omega)]; exact e26
    have f6 : ss hs 6 v 0 6 = v := by rw [x6, if_pos rfl]
    have f39 : ss g 39 v 0 39 = v := by rw [x9, if_pos rfl]
    rw [f6, f39]
    by_cases cv : v = -1
    · rw [if_pos cv, if_pos cv]
      exact ⟨0, 0, _, _, _, rfl, rfl, V', S', F', Or.inl ⟨f26, rfl, Or.inl rfl⟩⟩
    · rw [if_neg cv, if_neg cv]
      exact ⟨1, 1, _, _, _, rfl, rfl, V', S', F', Or.inl ⟨f26, rfl, Or.inr ⟨rfl, by rw [f6, f39], P'⟩⟩⟩
  | succ q ih =>
    intro i dd dd' h1 h2 h3
    obtain ⟨dd, rfl⟩ : ∃ z, dd = z + 1 := ⟨dd - 1, by omega⟩
    obtain ⟨dd', rfl⟩ : ∃ z, dd' = z + 1 := ⟨dd' - 1, by omega⟩
    intro hs hc g prev V ho S e26 L P hpr
    have hn := V.nn
    rw [F_Shif_findShifts, F_Mo_shiftsMore, if_pos (nI_lt (by omega) (by omega)), if_pos (fun z => by have := (nI_eq (by omega) (by omega)).mp z; omega)]
    have := sh_36 (N := N) (N' := N') prev (ih (i + 1) dd dd' (by omega) (by omega) (by omega)) hlim hw (by omega) hN hN' n 0 N N' hs hc g V ho S e26 L P (hpr (by omega)) (by omega) (by omega) (by omega)
    rw [show nI 0 = (0 : Int32) from rfl] at this
    exact this
theorem sh_98 (x4 : Int32) : ∀ (m j f : Nat) (g : HH), j + m = 4 → m < f → ∃ g', L_Mo_shifts_98 N f x4 (nI j) g = some g' ∧ (∀ r, r ≠ 16 → g' r = g r) ∧ ∀ x, g' 16 x = if j ≤ x ∧ x < 4 then g 17 x else g 16 x := by
  intro m
  induction m with
  | zero =>
    intro j f g h1 h2
    obtain ⟨f, rfl⟩ : ∃ z, f = z + 1 := ⟨f - 1, by omega⟩
    have : j = 4 := by omega
    subst this
    refine ⟨g, ?_, fun _ _ => rfl, fun x => by rw [if_neg (by omega)]⟩
    rw [L_Mo_shifts_98, if_pos (by decide)]
  | succ m ih =>
    intro j f g h1 h2
    obtain ⟨f, rfl⟩ : ∃ z, f = z + 1 := ⟨f - 1, by omega⟩
    have i4 : sv_in (nI j) 4 := pu_in (by omega) (by omega)
    have i5 : sv_in (nI j) 5 := pu_in (by omega) (by omega)
    rw [L_Mo_shifts_98, if_neg (by
      rw [show (4 : Int32) = nI 4 from rfl]
      exact nI_ge (by omega) (by omega)), if_pos i4, if_pos i5, pu_letn, nI_clamp (by omega), nI_1]
    obtain ⟨g', a1, a2, a3⟩ := ih (j + 1) f (sa g 16 (nI j) (g 17 j)) (by omega) (by omega)
    have so : ∀ r, r ≠ 16 → sa g 16 (nI j) (g 17 j) r = g r := fun r h => by rw [pu_sa, if_neg h]
    refine ⟨g', a1, fun r h => by rw [a2 r h, so r h], ?_⟩
    intro x
    rw [a3 x, so 17 (by omega), pu_sa, if_pos rfl, nI_clamp (by omega), pu_upd]
    by_cases c : x = j
    · rw [if_neg (show ¬ (j + 1 ≤ x ∧ x < 4) by omega), if_pos c, if_pos (show j ≤ x ∧ x < 4 by omega), c]
    · rw [if_neg c]
      by_cases c2 : j + 1 ≤ x ∧ x < 4
      · rw [if_pos c2, if_pos (show j ≤ x ∧ x < 4 by omega)]
      · rw [if_neg c2, if_neg (show ¬ (j ≤ x ∧ x < 4) by omega)]
/-- what the whole search leaves -/
def FrT (hs hs' g g' : HH) (n : Nat) : Prop := (∀ r, r ≠ 0 → r ≠ 7 → r ≠ 8 → r ≠ 16 → r ≠ 17 → g' r = g r) ∧ (∀ j, j ≠ 24 → j ≠ 26 → j ≠ 37 → j ≠ 39 → g' 0 j = g 0 j) ∧ (∀ c, c < n → g' 7 c = g 7 c) ∧ (ShR hs g → ShR hs' g')
theorem show_eq (hs : HH) (w : Int32) : (∀ x, x < 2 → F_Shif_show w hs 1 x = hs 3 x ∧ F_Shif_show w hs 2 x = hs 4 x) ∧ F_Shif_show w hs 0 0 = w ∧ F_Shif_show w hs 0 1 = hs 0 6 := by
  unfold F_Shif_show sc
  simp only [pu_letn, pu_sr, pu_ssr, pu_upd, show ((0 : Int32)).toNatClampNeg = 0 from rfl, show ((2 : Int32)).toNatClampNeg = 2 from rfl]
  refine ⟨fun x hx => ⟨?_, ?_⟩, rfl, rfl⟩
  · show va_cpy _ _ 0 0 2 x = _
    rw [pk_cpy_in (Nat.zero_le _) (by omega)]
    show hs 3 (0 + (x - 0)) = hs 3 x
    rw [Nat.zero_add, Nat.sub_zero]
  · show va_cpy _ _ 0 0 2 x = _
    rw [pk_cpy_in (Nat.zero_le _) (by omega)]
    show hs 4 (0 + (x - 0)) = hs 4 x
    rw [Nat.zero_add, Nat.sub_zero]
theorem top_L (hk : kd < K) (hlim : lim ≤ 50000) (hN : 200 ≤ N) (hN' : 200 ≤ N') : ∀ (m w f f' : Nat) (hs hc g : HH), VS hh hr hc g B R H D K n o → g 0 11 = nI o → ShP hs g lim → g 0 26 = 0 → LateR hc g kd wt → w + m = 3 → m < f → m < f' → ∃ v hs' hc' g', sv_bs (L_Shif_findFewest_12 N f (nI w) hs hh hr hc) id (fun v9 => sv_let (F_Shif_forget v9.1) fun hs_10 => some ((-1 : Int32), hs_10, v9.2)) = some (v, hs', hc') ∧ sv_bs (L_Mo_shifts_59 N' f' (nI w) g) id (fun v24 => sv_let (ss v24 37 (-1)) fun gm_25 => some ((-1 : Int32), gm_25)) = some (v, g') ∧ VS hh hr hc' g' B R H D K n o ∧ FrT hs hs' g g' n := by
  intro m
  induction m with
  | zero =>
    intro w f f' hs hc g V ho S e26 L h1 h2 h3
    obtain ⟨f, rfl⟩ : ∃ z, f = z + 1 := ⟨f - 1, by omega⟩
    obtain ⟨f', rfl⟩ : ∃ z, f' = z + 1 := ⟨f' - 1, by omega⟩
    have : w = 3 := by omega
    subst this
    rw [L_Shif_findFewest_12, L_Mo_shifts_59, if_pos (by decide), if_pos (by decide), bs_l, bs_l, pu_letn, pu_letn]
    have gr : ∀ r, r ≠ 0 → ss g 37 (-1) r = g r := fun r h => by rw [pu_ssr, if_neg h]
    have g0 : ∀ j, ss g 37 (-1) 0 j = if j = 37 then -1 else g 0 j := fun j => by rw [pu_ss, if_pos rfl]
    refine ⟨-1, _, _, _, rfl, rfl, V.cg (gr 1 (by omega)) (by rw [g0, if_neg (by omega)]) (gr 4 (by omega)) (gr 5 (by omega)) (gr 6 (by omega)) (gr 7 (by omega)) (gr 8 (by omega)), fun r r0 _ _ _ _ => gr r r0, fun j _ _ j37 _ => by rw [g0, if_neg j37], fun c _ => by rw [gr 7 (by omega)], fun _ => ?_⟩
    unfold ShR F_Shif_forget
    rw [g0, if_pos rfl]
    exact ⟨rfl, Or.inl ⟨rfl, rfl⟩⟩
  | succ m ih =>
    intro w f f' hs hc g V ho S e26 L h1 h2 h3
    obtain ⟨f, rfl⟩ : ∃ z, f = z + 1 := ⟨f - 1, by omega⟩
    obtain ⟨f', rfl⟩ : ∃ z, f' = z + 1 := ⟨f' - 1, by omega⟩
    have hn := V.nn
    obtain ⟨v, v', hs1, hc1, g1, a1, a2, V1, S1, F1, E1⟩ := sh_ok (N := N) (N' := N') (w := w) hk hlim (by omega) hN hN' w 0 4 5 (by omega) (by omega) (by omega) hs hc g (-1) V ho S e26 L (fun j hj => by omega) (fun _ b hb => ⟨fun ⟨x, _, x1, _⟩ => by omega, fun z => absurd z (pu_m1 (by omega))⟩)
    rw [show nI 0 = (0 : Int32) from rfl] at a1 a2
    rw [L_Shif_findFewest_12, L_Mo_shifts_59, if_neg (by
      rw [show (2 : Int32) = nI 2 from rfl]
      exact nI_nlt (by omega) (by omega)), if_neg (by
      rw [show (3 : Int32) = nI 3 from rfl]
      exact nI_ge (by omega) (by omega)), a1, a2, bind_sn, bind_sn, nI_1]
    dsimp only
    have Sk : ShR hs g → ShR hs1 g1 := by
      intro z
      unfold ShR
      rw [F1.1.1, F1.1.2.1, F1.1.2.2.1, F1.1.2.2.2, F1.2.2.2.1 37 (by omega) (by omega) (by omega), F1.2.2.1 16 (by omega) (by omega) (by omega) (by omega)]
      exact z
    have T1 : FrT hs hs1 g g1 n := ⟨fun r r0 r7 r8 _ r17 => F1.2.2.1 r r0 r7 r8 r17, fun j j1 j2 _ j4 => F1.2.2.2.1 j j1 j2 j4, F1.2.2.2.2.1, Sk⟩
    obtain ⟨t1, t2, d', t3, t4⟩ := S1
    rcases E1 with ⟨f26, f1, f2⟩ | ⟨f26, f1, f2⟩
    · have t5 : d' ≤ lim := by
        rcases t4 with ⟨-, -, z⟩ | ⟨z, -⟩
        · exact z
        · rw [f26] at z; exact absurd z (by decide)
      subst f1
      rcases f2 with f2 | ⟨f2, f3, f4⟩
      · subst f2
        rw [if_pos rfl, ife0, if_pos (show hs1 0 7 ≤ hs1 0 8 by rw [t1, t3]; exact nI_le t5 (by omega))]
        obtain ⟨v, hs2, hc2, g2, b1, b2, V2, T2⟩ := ih (w + 1) f f' hs1 hc1 g1 V1 (by rw [F1.2.2.2.1 11 (by omega) (by omega) (by omega)]; exact ho) ⟨t1, t2, d', t3, t4⟩ f26 (F1.late L) (by omega) (by omega) (by omega)
        refine ⟨v, hs2, hc2, g2, b1, b2, V2, ?_⟩
        exact ⟨fun r r0 r7 r8 r16 r17 => by rw [T2.1 r r0 r7 r8 r16 r17, T1.1 r r0 r7 r8 r16 r17], fun j j1 j2 j3 j4 => by rw [T2.2.1 j j1 j2 j3 j4, T1.2.1 j j1 j2 j3 j4], fun c hc' => by rw [T2.2.2.1 c hc', T1.2.2.1 c hc'], fun z => T2.2.2.2 (T1.2.2.2 z)⟩
      · subst f2
        rw [if_neg pu_10, if_pos pu_10, if_pos f26, pu_letn, pu_letn, bs_r]
        obtain ⟨g3, c1, c2, c3⟩ := sh_98 (N := N') (nI w) 4 0 N' (ss g1 37 (nI w)) (by omega) (by omega)
        rw [show nI 0 = (0 : Int32) from rfl] at c1
        rw [c1, bind_sn, if_pos (show sv_in (4 : Int32) 5 by decide), pu_letn, bs_r]
        have gr : ∀ r, r ≠ 0 → ss g1 37 (nI w) r = g1 r := fun r h => by rw [pu_ssr, if_neg h]
        have g0 : ∀ j, ss g1 37 (nI w) 0 j = if j = 37 then nI w else g1 0 j := fun j => by rw [pu_ss, if_pos rfl]
        have s16 : ∀ x, sa g3 16 4 (g3 0 39) 16 x = if x = 4 then g3 0 39 else g3 16 x := fun x => by
          rw [pu_sa, if_pos rfl, show ((4 : Int32)).toNatClampNeg = 4 from rfl, pu_upd]
        have so : ∀ r, r ≠ 16 → sa g3 16 4 (g3 0 39) r = ss g1 37 (nI w) r := fun r h => by rw [pu_sa, if_neg h, c2 r h]
        have so' : ∀ r, r ≠ 16 → r ≠ 0 → sa g3 16 4 (g3 0 39) r = g1 r := fun r h h0 => by rw [so r h, gr r h0]
        have so0 : ∀ j, j ≠ 37 → sa g3 16 4 (g3 0 39) 0 j = g1 0 j := fun j h => by rw [so 0 (by omega), g0, if_neg h]
        obtain ⟨w1, w2, w3⟩ := show_eq hs1 (nI w)
        refine ⟨nI w, _, _, _, rfl, rfl, V1.cg (so' 1 (by omega) (by omega)) (so0 6 (by omega)) (so' 4 (by omega) (by omega)) (so' 5 (by omega) (by omega)) (so' 6 (by omega) (by omega)) (so' 7 (by omega) (by omega)) (so' 8 (by omega) (by omega)), fun r r0 r7 r8 r16 r17 => by rw [so' r r16 r0, T1.1 r r0 r7 r8 r16 r17], fun j j1 j2 j3 j4 => by rw [so0 j j3, T1.2.1 j j1 j2 j3 j4], fun c hc' => by rw [so' 7 (by omega) (by omega), T1.2.2.1 c hc'], fun _ => ?_⟩
        unfold ShR
        have e37 : sa g3 16 4 (g3 0 39) 0 37 = nI w := by rw [so 0 (by omega), g0, if_pos rfl]
        have e39 : g3 0 39 = g1 0 39 := by rw [c2 0 (by omega), g0, if_neg (by omega)]
        rw [w2, w3, e37]
        refine ⟨rfl, Or.inr ⟨w, by omega, rfl, ?_, ?_⟩⟩
        · rw [s16, if_pos rfl, e39]; exact f3
        · intro x hx
          obtain ⟨p1, p2⟩ := f4 x hx
          rw [(w1 x (by omega)).1, (w1 x (by omega)).2, s16, if_neg (by omega), s16, if_neg (by omega), c3, if_pos (show 0 ≤ 2 * x ∧ 2 * x < 4 by omega), c3, if_pos (show 0 ≤ 2 * x + 1 ∧ 2 * x + 1 < 4 by omega), gr 17 (by omega)]
          exact ⟨p1, p2⟩
    · have t5 : d' = lim + 1 := by
        rcases t4 with ⟨z, -, -⟩ | ⟨-, z⟩
        · rw [f26] at z; exact absurd z (by decide)
        · exact z
      subst f1
      subst f2
      rw [if_pos rfl, if_pos pu_10, if_neg (show ¬ hs1 0 7 ≤ hs1 0 8 by rw [t1, t3]; exact nI_ge (by omega) (by omega)), if_neg (by rw [f26]; exact pu_10), bs_r, bs_r]
      exact ⟨-3, hs1, hc1, g1, rfl, rfl, V1, T1⟩
theorem sim_33 : Sim_33 Inv := by
  intro a1 a2 a3 k g I
  have same : F_K_shifts 3000 a1 a2 a3 (k 0) (k 3) (k 9) (k 10) (k 11) = some (-2, k 3, k 11) → F_Mo_shifts 3000 a1 a2 a3 g = some (-2, g) → ∃ (N N' : Nat) (v : Int32) (k' : KS) (g' : HH), KO_33 N a1 a2 a3 k = some (v, k') ∧ MO_33 N' a1 a2 a3 g = some (v, g') ∧ Inv k' g' := by
    intro h1 h2
    refine ⟨3000, 3000, -2, k, g, ?_, ?_, I⟩
    · unfold KO_33; rw [h1]; show some (-2, ku (ku k 3 (k 3)) 11 (k 11)) = _
      rw [ku_self, ku_self]
    · unfold MO_33; rw [h2]; rfl
  have ii : ∀ a : Int32, F_Mo_in a.toInt64 1 99 = F_K_within a 1 99 := fun a => pu_inw a 1 99
  rcases I.2 with J | ⟨B, R, H, D, K, n, o, J⟩
  · have nk := n_kind (N := 3000) J a1
    refine same ?_ ?_
    · unfold F_K_shifts; rw [nk.1, if_pos rfl]
    · unfold F_Mo_shifts; rw [nk.2, bind_sn, if_pos rfl]
  rcases a_kind (N := 3000) J a1 with ⟨kd, k1, k2, k3, k4⟩ | ⟨k3, k4⟩
  case inr =>
    refine same ?_ ?_
    · unfold F_K_shifts; rw [k3, if_pos rfl]
    · unfold F_Mo_shifts; rw [k4, bind_sn, if_pos rfl]
  rcases pu_wc a2 1 99 (by omega) (by omega) with ⟨wt, d1, d2, d3, d4⟩ | ⟨d1, d4⟩
  case inr =>
    rw [show nI 1 = 1 from rfl, show nI 99 = 99 from rfl] at d4
    refine same ?_ ?_
    · unfold F_K_shifts; rw [k3, if_neg pu_10, d4, if_pos rfl]
    · unfold F_Mo_shifts; rw [k4, bind_sn, if_neg pu_10, ii, d4, if_pos rfl]
  rw [show nI 1 = 1 from rfl, show nI 99 = 99 from rfl] at d4
  rcases a_puts J a3 with ⟨lim, e1, e2, e3, e4, e5⟩ | ⟨e4, e5⟩
  case inr =>
    refine same ?_ ?_
    · unfold F_K_shifts; rw [k3, if_neg pu_10, d4, if_neg pu_10, e4, ife0]
    · unfold F_Mo_shifts; rw [k4, bind_sn, if_neg pu_10, ii, d4, if_neg pu_10, e5, ife0]
  subst k2
  subst d3
  subst e3
  have V := J.2.2.1
  have ho := J.2.2.2.1
  have hn := V.nn
  obtain ⟨hc4, ec⟩ : ∃ hc4, hc4 = F_Cargo_setLate (nI kd) (nI wt) (k 11) := ⟨_, rfl⟩
  have q1 : ∀ j, hc4 1 j = if j = 24 then nI kd else k 11 1 j := fun j => by
    rw [ec]; unfold F_Cargo_setLate
    rw [pu_letn, pu_letn, pu_sw, if_neg (by omega), pu_sw, if_pos rfl, show (24 : Int32) = nI 24 from rfl, pu_wr _ _ (by omega) (by omega), pu_upd]
  have q2 : ∀ j, hc4 2 j = if j = 24 then nI wt else k 11 2 j := fun j => by
    rw [ec]; unfold F_Cargo_setLate
    rw [pu_letn, pu_letn, pu_sw, if_pos rfl, pu_sw, if_neg (by omega), show (24 : Int32) = nI 24 from rfl, pu_wr _ _ (by omega) (by omega), pu_upd]
  have qr : ∀ r, r ≠ 1 → r ≠ 2 → hc4 r = k 11 r := fun r r1 r2 => by
    rw [ec]; unfold F_Cargo_setLate
    rw [pu_letn, pu_letn, pu_sw, if_neg r2, pu_sw, if_neg r1]
  obtain ⟨g10, eg⟩ : ∃ g10, g10 = ss (ss (ss (ss (ss g 35 (nI kd)) 36 (nI wt)) 24 0) 25 (nI lim)) 26 0 := ⟨_, rfl⟩
  have y0 : ∀ j, g10 0 j = if j = 26 then 0 else if j = 25 then nI lim else if j = 24 then 0 else if j = 36 then nI wt else if j = 35 then nI kd else g 0 j := fun j => by
    rw [eg, pu_ss, if_pos rfl, pu_ss, if_pos rfl, pu_ss, if_pos rfl, pu_ss, if_pos rfl, pu_ss, if_pos rfl]
  have yr : ∀ r, r ≠ 0 → g10 r = g r := fun r h => by
    rw [eg, pu_ssr, if_neg h, pu_ssr, if_neg h, pu_ssr, if_neg h, pu_ssr, if_neg h, pu_ssr, if_neg h]
  have yo : ∀ j, j ≠ 24 → j ≠ 25 → j ≠ 26 → j ≠ 35 → j ≠ 36 → g10 0 j = g 0 j := fun j a b c d e => by
    rw [y0, if_neg c, if_neg b, if_neg a, if_neg e, if_neg d]
  have Va : VS (k 9) (k 10) hc4 g B R H D K n o := by
    refine ⟨V.1, V.2.1, V.2.2.1, V.2.2.2.1, V.2.2.2.2.1, ?_⟩
    obtain ⟨c1, c2, c3⟩ := V.2.2.2.2.2
    refine ⟨by rw [qr 0 (by omega) (by omega)]; exact c1, ?_, by rw [qr 5 (by omega) (by omega)]; exact c3⟩
    intro b hb
    rw [q1, q2, if_neg (by omega), if_neg (by omega), qr 3 (by omega) (by omega), qr 4 (by omega) (by omega)]
    exact c2 b hb
  have Vb : VS (k 9) (k 10) hc4 g10 B R H D K n o := Va.cg (yr 1 (by omega)) (yo 6 (by omega) (by omega) (by omega) (by omega) (by omega)) (yr 4 (by omega)) (yr 5 (by omega)) (yr 6 (by omega)) (yr 7 (by omega)) (yr 8 (by omega))
  obtain ⟨hs2, es⟩ : ∃ hs2, hs2 = ss (ss (k 3) 7 0) 8 (nI lim) := ⟨_, rfl⟩
  have w0 : ∀ j, hs2 0 j = if j = 8 then nI lim else if j = 7 then 0 else k 3 0 j := fun j => by
    rw [es, pu_ss, if_pos rfl, pu_ss, if_pos rfl]
  have wr' : ∀ r, r ≠ 0 → hs2 r = k 3 r := fun r h => by rw [es, pu_ssr, if_neg h, pu_ssr, if_neg h]
  have S : ShP hs2 g10 lim := by
    refine ⟨by rw [w0, if_pos rfl], by rw [y0, if_neg (by omega), if_pos rfl], 0, by rw [w0, if_neg (by omega), if_pos rfl]; rfl, Or.inl ⟨by rw [y0, if_pos rfl], by rw [y0, if_neg (by omega), if_neg (by omega), if_pos rfl]; rfl, by omega⟩⟩
  have L : LateR hc4 g10 kd wt := by
    refine ⟨⟨by rw [q1, if_pos rfl], by rw [q2, if_pos rfl]⟩, ?_, ?_⟩
    · rw [y0, if_neg (by omega), if_neg (by omega), if_neg (by omega), if_neg (by omega), if_pos rfl]
    · rw [y0, if_neg (by omega), if_neg (by omega), if_neg (by omega), if_pos rfl]
  obtain ⟨v, hs', hc', g', t1, t2, V', T⟩ := top_L (N := 3000) (N' := 3000) k1 e2 (by omega) (by omega) 3 0 3000 3000 hs2 hc4 g10 Vb (by rw [yo 11 (by omega) (by omega) (by omega) (by omega) (by omega)]; exact ho) S (by rw [y0, if_pos rfl]) L (by omega) (by omega) (by omega)
  rw [show nI 0 = (0 : Int32) from rfl] at t1 t2
  have hSR : ShR hs' g' := by
    refine T.2.2.2 ?_
    have z := J.2.2.2.2.2.2.2
    unfold ShR at *
    rw [w0 0, if_neg (by omega), if_neg (by omega), w0 1, if_neg (by omega), if_neg (by omega), wr' 1 (by omega), wr' 2 (by omega), yr 16 (by omega), yo 37 (by omega) (by omega) (by omega) (by omega) (by omega)]
    exact z
  have g7 : ∀ c, c < n → g' 7 c = g 7 c := fun c hc'' => by rw [T.2.2.1 c hc'', yr 7 (by omega)]
  have gR : ∀ r, r ≠ 0 → r ≠ 7 → r ≠ 8 → r ≠ 16 → r ≠ 17 → g' r = g r := fun r a b c d e => by rw [T.1 r a b c d e, yr r a]
  have gZ : ∀ j, j < 24 ∨ j = 32 ∨ j = 46 → g' 0 j = g 0 j := fun j hj => by
    rw [T.2.1 j (by omega) (by omega) (by omega) (by omega), yo j (by omega) (by omega) (by omega) (by omega) (by omega)]
  refine ⟨3000, 3000, v, ku (ku k 3 hs') 11 hc', g', ?_, ?_, ?_⟩
  · unfold KO_33 F_K_shifts F_Shif_findFewest
    rw [k3, if_neg pu_10, d4, if_neg pu_10, e4, if_pos pu_10, pu_letn, pu_letn, pu_letn, ← ec, ← es, t1, bind_sn]
    rfl
  · unfold MO_33 F_Mo_shifts
    rw [k4, bind_sn, if_neg pu_10, ii, d4, if_neg pu_10, e5, if_pos pu_10, pu_letn, pu_letn, pu_letn, pu_letn, pu_letn, ← eg, t2]
    rfl
  · refine ⟨?_, Or.inr ⟨B, R, H, D, K, n, o, ?_⟩⟩
    · refine InvB_c I.1 ?_ ?_ ?_ (gZ 14 (by omega)) (gZ 20 (by omega)) (gZ 21 (by omega)) (gZ 46 (by omega)) (gR 9 (by omega) (by omega) (by omega) (by omega) (by omega)) (gR 22 (by omega) (by omega) (by omega) (by omega) (by omega))
      all_goals simp only [pu_ku]; rfl
    · refine ⟨?_, ?_, ?_, ?_, NoH_7 V V' g7 J.2.2.2.2.1, ?_, ?_, ?_⟩
      · simp only [pu_ku]; exact J.1
      · rw [gZ 1 (by omega)]; exact J.2.1
      · simp only [pu_ku]; exact V'
      · rw [gZ 11 (by omega)]; exact ho
      · simp only [pu_ku]
        exact HiR_c hn J.2.2.2.2.2.1 (Nat.le_refl _) (gZ 22 (by omega)) (gR 10 (by omega) (by omega) (by omega) (by omega) (by omega)) (gR 1 (by omega) (by omega) (by omega) (by omega) (by omega)) (fun b _ => by rw [gR 4 (by omega) (by omega) (by omega) (by omega) (by omega), gR 5 (by omega) (by omega) (by omega) (by omega) (by omega), gR 6 (by omega) (by omega) (by omega) (by omega) (by omega)]; exact ⟨rfl, rfl, rfl⟩)
      · simp only [pu_ku]
        exact ToR_c J.2.2.2.2.2.2.1 (gZ 32 (by omega)) (gR 14 (by omega) (by omega) (by omega) (by omega) (by omega)) (gR 15 (by omega) (by omega) (by omega) (by omega) (by omega))
      · simp only [pu_ku]; exact hSR
end SHIG
