/-! ===== pure: shifts ===== -/
section SHIF
variable {k k' : KS} {g g' g2 gm gm' : HH} {hs hs' hu hy hv hh hr hr' hc hc' hc2 hp hl hl' : HH} {B R H D K n o N N' t w lim a0 S kd wt : Nat}
theorem mv_12 (a v : Int32) (hc : HH) : ∀ r, r ≠ 4 → r ≠ 5 → F_Cargo_move a v hc r = hc r := by
  intro r h4 h5
  unfold F_Cargo_move
  rw [pu_letn, pu_letn, pu_letn, pu_sw, if_neg h5, pu_sw, if_neg h4, pu_sw, if_neg h5]
def ShP (hs g : HH) (lim : Nat) : Prop := hs 0 8 = nI lim ∧ g 0 25 = nI lim ∧ ∃ d, hs 0 7 = nI d ∧ ((g 0 26 = 0 ∧ g 0 24 = nI d ∧ d ≤ lim) ∨ (g 0 26 = 1 ∧ d = lim + 1))
def LateR (hc g : HH) (kd wt : Nat) : Prop := (hc 1 24 = nI kd ∧ hc 2 24 = nI wt) ∧ g 0 35 = nI kd ∧ g 0 36 = nI wt
def PrfS (hs g : HH) (i : Nat) : Prop := ∀ j, j < i → hs 3 j = g 17 (2 * j) ∧ hs 4 j = g 17 (2 * j + 1)
def FrS (hs hs' hc hc' g g' : HH) (n i : Nat) : Prop := (hs' 1 = hs 1 ∧ hs' 2 = hs 2 ∧ hs' 0 0 = hs 0 0 ∧ hs' 0 1 = hs 0 1) ∧ (hc' 1 = hc 1 ∧ hc' 2 = hc 2) ∧ (∀ r, r ≠ 0 → r ≠ 7 → r ≠ 8 → r ≠ 17 → g' r = g r) ∧ (∀ j, j ≠ 24 → j ≠ 26 → j ≠ 39 → g' 0 j = g 0 j) ∧ (∀ c, c < n → g' 7 c = g 7 c) ∧ ∀ j, j < i → hs' 3 j = hs 3 j ∧ hs' 4 j = hs 4 j ∧ g' 17 (2 * j) = g 17 (2 * j) ∧ g' 17 (2 * j + 1) = g 17 (2 * j + 1)
theorem FrS.refl (hs hc g : HH) (n i : Nat) : FrS hs hs hc hc g g n i := ⟨⟨rfl, rfl, rfl, rfl⟩, ⟨rfl, rfl⟩, fun _ _ _ _ _ => rfl, fun _ _ _ _ => rfl, fun _ _ => rfl, fun _ _ => ⟨rfl, rfl, rfl, rfl⟩⟩
theorem FrS.tr {a b c : HH} {x y z u v w : HH} {i : Nat} (h1 : FrS a b u v x y n i) (h2 : FrS b c v w y z n i) : FrS a c u w x z n i := by
  obtain ⟨⟨a1, a2, a3, a4⟩, ⟨a5, a6⟩, a7, a8, a9, a10⟩ := h1
  obtain ⟨⟨b1, b2, b3, b4⟩, ⟨b5, b6⟩, b7, b8, b9, b10⟩ := h2
  refine ⟨⟨by rw [b1, a1], by rw [b2, a2], by rw [b3, a3], by rw [b4, a4]⟩, ⟨by rw [b5, a5], by rw [b6, a6]⟩, fun r r0 r7 r8 r17 => by rw [b7 r r0 r7 r8 r17, a7 r r0 r7 r8 r17], fun j j1 j2 j3 => by rw [b8 j j1 j2 j3, a8 j j1 j2 j3], fun c hc => by rw [b9 c hc, a9 c hc], fun j hj => ?_⟩
  obtain ⟨c1, c2, c3, c4⟩ := a10 j hj
  obtain ⟨d1, d2, d3, d4⟩ := b10 j hj
  exact ⟨by rw [d1, c1], by rw [d2, c2], by rw [d3, c3], by rw [d4, c4]⟩
theorem FrS.late {i : Nat} (F : FrS hs hs' hc hc' g g' n i) (L : LateR hc g kd wt) : LateR hc' g' kd wt := by
  obtain ⟨_, ⟨b1, b2⟩, _, b3, _⟩ := F
  exact ⟨⟨by rw [b1]; exact L.1.1, by rw [b2]; exact L.1.2⟩, by rw [b3 35 (by omega) (by omega) (by omega)]; exact L.2.1, by rw [b3 36 (by omega) (by omega) (by omega)]; exact L.2.2⟩
theorem FrS.pre {i : Nat} (F : FrS hs hs' hc hc' g g' n i) (L : PrfS hs g i) : PrfS hs' g' i := by
  intro j hj
  obtain ⟨c1, c2, c3, c4⟩ := F.2.2.2.2.2 j hj
  rw [c1, c2, c3, c4]
  exact L j hj
def EndS (hs' g' : HH) (w : Nat) (v v' : Int32) : Prop := (g' 0 26 = 0 ∧ v' = v ∧ (v = 0 ∨ (v = 1 ∧ hs' 0 6 = g' 0 39 ∧ PrfS hs' g' w))) ∨ (g' 0 26 = 1 ∧ v = 0 ∧ v' = 1)
theorem late_L (V : VS hh hr hc g B R H D K n o) (ho : g 0 11 = nI o) (hk : kd < K) (L : LateR hc g kd wt) (hN : 30 ≤ N) (hN' : 30 ≤ N') : ∀ (m p f f' : Nat), p + m = plN B R H D → m < f → m < f' → ∃ v, sv_bs (L_Ves_openPlace_5 N f 24 0 0 (nI p) hh hr hc) id (fun v6 => if ¬ (0 : Int32) = -1 then some (-1) else some v6) = some v ∧ sv_bs (L_Mo_latePlace_2 N' f' (nI p) g) id (fun (_ : Unit) => some (-1)) = some v := by
  intro m
  have hP := V.pp
  have hn := V.nn
  induction m with
  | zero =>
    intro p f f' h1 h2 h3
    obtain ⟨f, rfl⟩ : ∃ z, f = z + 1 := ⟨f - 1, by omega⟩
    obtain ⟨f', rfl⟩ : ∃ z, f' = z + 1 := ⟨f' - 1, by omega⟩
    have : p = plN B R H D := by omega
    rw [L_Ves_openPlace_5, L_Mo_latePlace_2, Mo_places V.1, V.h4, bind_sn, this, if_pos (Int32.le_refl _), if_pos (Int32.le_refl _)]
    exact ⟨-1, rfl, rfl⟩
  | succ m ih =>
    intro p f f' h1 h2 h3
    obtain ⟨f, rfl⟩ : ∃ z, f = z + 1 := ⟨f - 1, by omega⟩
    obtain ⟨f', rfl⟩ : ∃ z, f' = z + 1 := ⟨f' - 1, by omega⟩
    have hp' : p < plN B R H D := by omega
    have x1 : F_Cargo_kindOf 24 hc = nI kd := by
      unfold F_Cargo_kindOf
      rw [show (24 : Int32) = nI 24 from rfl, pu_rd _ (by omega) (by omega)]; exact L.1.1
    have x2 : F_Cargo_weightOf 24 hc = nI wt := by
      unfold F_Cargo_weightOf
      rw [show (24 : Int32) = nI 24 from rfl, pu_rd _ (by omega) (by omega)]; exact L.1.2
    obtain ⟨v, v1, v2, v3, v4⟩ := why_eq (N := N) (N' := N') V ho hk hp' 24 (-1) (nI wt) (fun j hj => ⟨fun z => by have := (nI_eq (b := 24) (by omega) (by omega)).mp z; omega, fun z => absurd z (pu_m1 (by omega))⟩) x1 x2 hN hN'
    rw [L_Ves_openPlace_5, L_Mo_latePlace_2, Mo_places V.1, V.h4, bind_sn, if_neg (nI_ge hp' (by omega)), if_neg (nI_ge hp' (by omega)), L.2.1, L.2.2, v1, v2, bind_sn, bind_sn, nI_1]
    by_cases cv : nI v = 0
    · rw [ifn cv, ifn cv, ifn rfl]
      exact ⟨nI p, rfl, rfl⟩
    · rw [if_pos cv, if_pos cv]
      exact ih (p + 1) f f' (by omega) (by omega) (by omega)
theorem shd_L {i b : Nat} (hi : i ≤ 2) : ∀ (m j f : Nat), j + m = i → m < f → (sv_bs (L_Shif_isShifted_2 N f (nI b) (nI i) (nI j) hs) id (fun (_ : Unit) => some (0 : Int32)) = some 1 ∧ ∃ x, j ≤ x ∧ x < i ∧ hs 3 x = nI b) ∨ (sv_bs (L_Shif_isShifted_2 N f (nI b) (nI i) (nI j) hs) id (fun (_ : Unit) => some (0 : Int32)) = some 0 ∧ ¬ ∃ x, j ≤ x ∧ x < i ∧ hs 3 x = nI b) := by
  intro m
  induction m with
  | zero =>
    intro j f h1 h2
    obtain ⟨f, rfl⟩ : ∃ z, f = z + 1 := ⟨f - 1, by omega⟩
    right
    rw [L_Shif_isShifted_2, if_pos (nI_le (by omega) (by omega))]
    exact ⟨rfl, fun ⟨x, x1, x2, _⟩ => by omega⟩
  | succ m ih =>
    intro j f h1 h2
    obtain ⟨f, rfl⟩ : ∃ z, f = z + 1 := ⟨f - 1, by omega⟩
    rw [L_Shif_isShifted_2, if_neg (nI_ge (by omega) (by omega)), pu_rd _ (by omega) (by omega), nI_1]
    by_cases c : hs 3 j = nI b
    · left
      rw [ifn c]
      exact ⟨rfl, j, by omega, by omega, c⟩
    · rw [if_pos c]
      rcases ih (j + 1) f (by omega) (by omega) with ⟨a1, x, x1, x2, x3⟩ | ⟨a1, a2⟩
      · left; exact ⟨a1, x, by omega, x2, x3⟩
      · right
        refine ⟨a1, ?_⟩
        rintro ⟨x, x1, x2, x3⟩
        by_cases cx : x = j
        · subst cx; exact c x3
        · exact a2 ⟨x, by omega, x2, x3⟩
def ShOK (hh hr : HH) (B R H D K n o N N' w lim kd wt i dd dd' : Nat) : Prop := ∀ (hs hc g : HH) (prev : Int32), VS hh hr hc g B R H D K n o → g 0 11 = nI o → ShP hs g lim → g 0 26 = 0 → LateR hc g kd wt → PrfS hs g i → (i < w → ∀ b, b < n → ((∃ x, 0 ≤ x ∧ x < i ∧ hs 3 x = nI b) ↔ nI b = prev)) → ∃ v v' hs' hc' g', F_Shif_findShifts N dd (nI i) (nI w) hs hh hr hc = some (v, hs', hc') ∧ F_Mo_shiftsMore N' dd' (nI i) (nI w) prev g = some (v', g') ∧ VS hh hr hc' g' B R H D K n o ∧ ShP hs' g' lim ∧ FrS hs hs' hc hc' g g' n i ∧ EndS hs' g' w v v'
theorem sh_88 {i dd dd' b q : Nat} (prev : Int32) (hG : ShOK hh hr B R H D K n o N N' w lim kd wt (i + 1) dd dd') (hlim : lim ≤ 50000) (hw : w ≤ 2) (hi : i < w) (hb : b < n) (hq : q < plN B R H D) (hN : 200 ≤ N) (hN' : 200 ≤ N') : ∀ (m p f f' : Nat) (hs hc g : HH), VS hh hr hc g B R H D K n o → g 0 11 = nI o → ShP hs g lim → g 0 26 = 0 → LateR hc g kd wt → PrfS hs g i → g 7 b = nI q → p + m = plN B R H D → m < f → m < f' → ∃ hs' hc' g' s s', L_Shif_findShifts_88 N (F_Shif_findShifts N dd) f (nI i) (nI w) 0 (nI b) 1 (nI q) (nI p) hs hh hr hc = some s ∧ L_Mo_shiftsMore_80 N' (F_Mo_shiftsMore N' dd') f' (nI i) (nI w) prev (nI b) (nI q) (nI p) g = some s' ∧ VS hh hr hc' g' B R H D K n o ∧ ShP hs' g' lim ∧ FrS hs hs' hc hc' g g' n i ∧ ((s = .inl (0, hs', hc') ∧ s' = .inl g' ∧ g' 0 26 = 0) ∨ ∃ v, s = .inr (v, hs', hc') ∧ s' = .inr (1, g') ∧ EndS hs' g' w v 1) := by
  intro m
  induction m with
  | zero =>
    intro p f f' hs hc g V ho S e26 L P hbq h1 h2 h3
    obtain ⟨f, rfl⟩ : ∃ z, f = z + 1 := ⟨f - 1, by omega⟩
    obtain ⟨f', rfl⟩ : ∃ z, f' = z + 1 := ⟨f' - 1, by omega⟩
    have : p = plN B R H D := by omega
    rw [L_Shif_findShifts_88, L_Mo_shiftsMore_80, Mo_places V.1, V.h4, bind_sn, this, if_neg pu_10, if_pos (Int32.le_refl _), if_pos (Int32.le_refl _)]
    exact ⟨hs, hc, g, _, _, rfl, rfl, V, S, FrS.refl hs hc g n i, Or.inl ⟨rfl, rfl, e26⟩⟩
  | succ m ih =>
    intro p f f' hs hc g V ho S e26 L P hbq h1 h2 h3
    obtain ⟨f, rfl⟩ : ∃ z, f = z + 1 := ⟨f - 1, by omega⟩
    obtain ⟨f', rfl⟩ : ∃ z, f' = z + 1 := ⟨f' - 1, by omega⟩
    have hp' : p < plN B R H D := by omega
    have hn := V.nn
    have hP := V.pp
    obtain ⟨v, v1, v2, v3, v4⟩ := whyBox_eq (N := N) (N' := N') V ho hb hp' (by omega) (by omega)
    have v0 : nI v = 0 ↔ v = 0 := nI_eq (a := v) (b := 0) (by omega) (by omega)
    rw [L_Shif_findShifts_88, L_Mo_shiftsMore_80, Mo_places V.1, V.h4, bind_sn, if_neg pu_10, if_neg (nI_ge hp' (by omega)), if_neg (nI_ge hp' (by omega)), v1, v2, bind_sn, bind_sn, nI_1, nI_1]
    obtain ⟨s1, s2, d, d1, d2⟩ := S
    have hd : g 0 24 = nI d ∧ d ≤ lim := by
      rcases d2 with ⟨-, a, b⟩ | ⟨a, -⟩
      · exact ⟨a, b⟩
      · rw [a] at e26; exact absurd e26 (by decide)
    have le : ∀ x, x ≤ lim → nI x ≤ nI lim := fun x hx => nI_le hx (by omega)
    by_cases cv : v = 0
    case neg =>
      have y : ¬ nI v = 0 := fun x => cv (v0.mp x)
      rw [if_pos y, if_neg y, bind_sn, if_neg (show ¬ ¬ ((0 : Int32), hs, hc).1 = 0 from fun z => z rfl)]
      show ∃ hs' hc' g' s s', (if hs 0 7 ≤ hs 0 8 then L_Shif_findShifts_88 N (F_Shif_findShifts N dd) f (nI i) (nI w) 0 (nI b) 1 (nI q) (nI (p + 1)) hs hh hr hc else _) = some s ∧ _
      rw [if_pos (by rw [d1, s1]; exact le d hd.2)]
      exact ih (p + 1) f f' hs hc g V ho ⟨s1, s2, d, d1, d2⟩ e26 L P hbq (by omega) (by omega) (by omega)
    subst cv
    obtain ⟨v5, -⟩ := v4 rfl
    rw [show nI 0 = 0 from rfl, ife0, if_pos rfl]
    have hpf : ∀ c, c < n → c ≠ b → g 7 c ≠ nI p := by
      intro c hc' _ y
      rcases V.plc hc' with u | ⟨q, hq, u, u2⟩
      · rw [u] at y; exact absurd y (pu_m1' (by omega))
      · rw [u] at y
        have := (nI_eq (by omega) (by omega)).mp y
        subst this
        rw [v5] at u2; exact absurd u2 (pu_m1' (by omega))
    have hqf : ∀ c, c < n → c ≠ b → g 7 c ≠ nI q := by
      intro c hc' cb y
      rcases V.plc hc' with u | ⟨q1, hq1, u, u2⟩
      · rw [u] at y; exact absurd y (pu_m1' (by omega))
      · rcases V.plc hb with u' | ⟨q2, hq2, u', u3⟩
        · rw [u'] at hbq; exact absurd hbq (pu_m1' (by omega))
        · rw [u] at y
          rw [u'] at hbq
          have e1 := (nI_eq (by omega) (by omega)).mp y
          have e2 := (nI_eq (by omega) (by omega)).mp hbq
          subst e1
          subst e2
          rw [u2] at u3
          exact cb ((nI_eq (by omega) (by omega)).mp u3)
    obtain ⟨hs9, ehs⟩ : ∃ hs9, hs9 = sw (sw (ss hs 7 (hs 0 7 + 1)) 3 2 (nI i) (nI b)) 4 2 (nI i) (nI p) := ⟨_, rfl⟩
    have l0 : ∀ j, j ≠ 7 → hs9 0 j = hs 0 j := fun j hj => by rw [ehs, pu_sw, if_neg (by omega), pu_sw, if_neg (by omega), pu_ss, if_pos rfl, if_neg hj]
    have l7 : hs9 0 7 = nI (d + 1) := by rw [ehs, pu_sw, if_neg (by omega), pu_sw, if_neg (by omega), pu_ss, if_pos rfl, if_pos rfl, d1, nI_1]
    have lr' : ∀ r, r ≠ 0 → r ≠ 3 → r ≠ 4 → hs9 r = hs r := fun r r0 r3 r4 => by rw [ehs, pu_sw, if_neg r4, pu_sw, if_neg r3, pu_ssr, if_neg r0]
    have l3 : ∀ j, hs9 3 j = if j = i then nI b else hs 3 j := fun j => by
      rw [ehs, pu_sw, if_neg (by omega), pu_sw, if_pos rfl, pu_ssr, if_neg (by omega), pu_wr _ _ (by omega) (by omega), pu_upd]
    have l4 : ∀ j, hs9 4 j = if j = i then nI p else hs 4 j := fun j => by
      rw [ehs, pu_sw, if_pos rfl, pu_sw, if_neg (by omega), pu_ssr, if_neg (by omega), pu_wr _ _ (by omega) (by omega), pu_upd]
    simp only [pu_letn]
    rw [← ehs]
    have lim_eq : (g 0 24 = g 0 25) ↔ d = lim := by
      rw [hd.1, s2]; exact nI_eq (by omega) (by omega)
    have e8 : hs9 0 8 = nI lim := by rw [l0 8 (by omega)]; exact s1
    by_cases cl : d = lim
    · -- too long
      rw [ifn (lim_eq.mpr cl), if_pos (show hs9 0 8 < hs9 0 7 by rw [e8, l7]; exact nI_lt (by omega) (by omega)), bind_sn, bind_sn]
      dsimp only
      rw [ife0, if_neg (show ¬ hs9 0 7 ≤ hs9 0 8 by rw [e8, l7]; exact nI_ge (by omega) (by omega)), if_pos (Or.inl rfl)]
      obtain ⟨ga, a1, Va, a2, a3, -⟩ := lay (N := N') V hb (v := nI p) (Or.inr ⟨p, hp', rfl, hpf⟩)
      obtain ⟨gc, b1, Vb, b2, b3, -⟩ := lay (N := N') Va hb (v := nI q) (Or.inr ⟨q, hq, rfl, fun c hc' cb => by rw [a3 c, if_neg cb]; exact hqf c hc' cb⟩)
      have Vz : VS hh hr hc (ss g 26 1) B R H D K n o := V.cg (by rw [pu_ssr, if_neg (by omega)]) (by rw [pu_ss, if_pos rfl, if_neg (by omega)]) (by rw [pu_ssr, if_neg (by omega)]) (by rw [pu_ssr, if_neg (by omega)]) (by rw [pu_ssr, if_neg (by omega)]) (by rw [pu_ssr, if_neg (by omega)]) (by rw [pu_ssr, if_neg (by omega)])
      have V1 := Vb.tr Vz (by
        intro c _
        rw [pu_ssr, if_neg (by omega), pu_ssr, if_neg (by omega), pu_ssr, if_neg (by omega), b2 4 (by omega) (by omega), b2 5 (by omega) (by omega), b2 6 (by omega) (by omega), a2 4 (by omega) (by omega), a2 5 (by omega) (by omega), a2 6 (by omega) (by omega)]
        exact ⟨rfl, rfl, rfl⟩) (by
        intro c _
        rw [pu_ssr, if_neg (by omega), b3 c, a3 c]
        by_cases e : c = b
        · rw [if_pos e, e, hbq]
        · rw [if_neg e, if_neg e])
      refine ⟨hs9, _, ss g 26 1, _, _, rfl, rfl, V1, ⟨e8, by rw [pu_ss, if_pos rfl, if_neg (by omega)]; exact s2, d + 1, l7, Or.inr ⟨by rw [pu_ss, if_pos rfl, if_pos rfl], by omega⟩⟩, ⟨⟨lr' 1 (by omega) (by omega) (by omega), lr' 2 (by omega) (by omega) (by omega), l0 0 (by omega), l0 1 (by omega)⟩, ⟨?_, ?_⟩, ?_, ?_, ?_, ?_⟩, Or.inr ⟨0, rfl, rfl, Or.inr ⟨by rw [pu_ss, if_pos rfl, if_pos rfl], rfl, rfl⟩⟩⟩
      · rw [mv_12 _ _ _ 1 (by omega) (by omega), mv_12 _ _ _ 1 (by omega) (by omega)]
      · rw [mv_12 _ _ _ 2 (by omega) (by omega), mv_12 _ _ _ 2 (by omega) (by omega)]
      · intro r r0 _ _ _; rw [pu_ssr, if_neg r0]
      · intro j _ j26 _; rw [pu_ss, if_pos rfl, if_neg j26]
      · intro c _; rw [pu_ssr, if_neg (by omega)]
      · intro j hj; rw [l3 j, l4 j, if_neg (by omega), if_neg (by omega), pu_ssr, if_neg (by omega)]; exact ⟨rfl, rfl, rfl, rfl⟩
    · -- one more
      rw [if_pos (fun y => cl (lim_eq.mp y)), if_neg (show ¬ hs9 0 8 < hs9 0 7 by rw [e8, l7]; exact nI_nlt (by omega) (by omega))]
      obtain ⟨g14, eg⟩ : ∃ g14, g14 = ss g 24 (g 0 24 + 1) := ⟨_, rfl⟩
      have m0 : ∀ j, j ≠ 24 → g14 0 j = g 0 j := fun j hj => by rw [eg, pu_ss, if_pos rfl, if_neg hj]
      have m24 : g14 0 24 = nI (d + 1) := by rw [eg, pu_ss, if_pos rfl, if_pos rfl, hd.1, nI_1]
      have mr : ∀ r, r ≠ 0 → g14 r = g r := fun r r0 => by rw [eg, pu_ssr, if_neg r0]
      rw [← eg]
      have V14 : VS hh hr hc g14 B R H D K n o := V.cg (mr 1 (by omega)) (m0 6 (by omega)) (mr 4 (by omega)) (mr 5 (by omega)) (mr 6 (by omega)) (mr 7 (by omega)) (mr 8 (by omega))
      obtain ⟨g15, a1, V15, a2, a3, -⟩ := lay (N := N') V14 hb (v := nI p) (Or.inr ⟨p, hp', rfl, by rw [mr 7 (by omega)]; exact hpf⟩)
      have e2i : (2 : Int32) * nI i = nI (2 * i) := (Int32.ofNat_mul 2 i).symm
      have i1 : sv_in (nI (2 * i)) 4 := pu_in (by omega) (by omega)
      have i2 : sv_in (nI (2 * i + 1)) 4 := pu_in (by omega) (by omega)
      rw [a1, bind_sn, e2i, nI_1, if_pos i1, if_pos i2]
      obtain ⟨g16, eg6⟩ : ∃ g16, g16 = sa (sa g15 17 (nI (2 * i)) (nI b)) 17 (nI (2 * i + 1)) (nI p) := ⟨_, rfl⟩
      have n17 : ∀ j, g16 17 j = if j = 2 * i + 1 then nI p else if j = 2 * i then nI b else g 17 j := fun j => by
        rw [eg6, pu_sa, if_pos rfl, nI_clamp (by omega), pu_upd, pu_sa, if_pos rfl, nI_clamp (by omega), pu_upd, a2 17 (by omega) (by omega), mr 17 (by omega)]
      have nr : ∀ r, r ≠ 17 → g16 r = g15 r := fun r hr => by rw [eg6, pu_sa, if_neg hr, pu_sa, if_neg hr]
      rw [← eg6]
      have V16 : VS hh hr (F_Cargo_move (nI b) (nI p) hc) g16 B R H D K n o := V15.cg (nr 1 (by omega)) (by rw [nr 0 (by omega)]) (nr 4 (by omega)) (nr 5 (by omega)) (nr 6 (by omega)) (nr 7 (by omega)) (nr 8 (by omega))
      have z0 : ∀ j, j ≠ 24 → g16 0 j = g 0 j := fun j hj => by rw [nr 0 (by omega), a2 0 (by omega) (by omega), m0 j hj]
      have z24 : g16 0 24 = nI (d + 1) := by rw [nr 0 (by omega), a2 0 (by omega) (by omega), m24]
      have P16 : PrfS hs9 g16 (i + 1) := by
        intro j hj
        rw [l3 j, l4 j, n17, n17]
        by_cases e : j = i
        · subst e
          rw [if_pos rfl, if_pos rfl, if_neg (by omega), if_pos rfl, if_pos rfl]; exact ⟨rfl, rfl⟩
        · rw [if_neg e, if_neg e, if_neg (by omega), if_neg (by omega), if_neg (by omega), if_neg (by omega)]; exact P j (by omega)
      have L16 : LateR (F_Cargo_move (nI b) (nI p) hc) g16 kd wt := by
        refine ⟨⟨by rw [mv_12 _ _ _ 1 (by omega) (by omega)]; exact L.1.1, by rw [mv_12 _ _ _ 2 (by omega) (by omega)]; exact L.1.2⟩, by rw [z0 35 (by omega)]; exact L.2.1, by rw [z0 36 (by omega)]; exact L.2.2⟩
      obtain ⟨v, v', hs1, hc1, g1, b1, b2, V1, S1, F1, E1⟩ := hG hs9 _ g16 (nI b) V16 (by rw [z0 11 (by omega)]; exact ho) ⟨e8, by rw [z0 25 (by omega)]; exact s2, d + 1, l7, Or.inl ⟨by rw [z0 26 (by omega)]; exact e26, z24, by omega⟩⟩ (by rw [z0 26 (by omega)]; exact e26) L16 P16 (by
        intro hiw c hc'
        have : i = 0 := by omega
        subst this
        constructor
        · rintro ⟨x, -, x1, x2⟩
          have : x = 0 := by omega
          subst this
          rw [l3, if_pos rfl] at x2
          exact x2.symm
        · intro z
          exact ⟨0, by omega, by omega, by rw [l3, if_pos rfl, z]⟩)
      have e71 : ∀ c, c < n → c ≠ b → g1 7 c = g 7 c := by
        intro c hc' cb
        rw [F1.2.2.2.2.1 c hc', nr 7 (by omega), a3 c, if_neg cb, mr 7 (by omega)]
      obtain ⟨g3, c1, V3, c2, c3, -⟩ := lay (N := N') V1 hb (v := nI q) (Or.inr ⟨q, hq, rfl, fun c hc' cb => by rw [e71 c hc' cb]; exact hqf c hc' cb⟩)
      have S3 : ShP hs1 g3 lim := by
        unfold ShP; rw [c2 0 (by omega) (by omega)]; exact S1
      have E3 : EndS hs1 g3 w v v' := by
        unfold EndS PrfS; rw [c2 0 (by omega) (by omega), c2 17 (by omega) (by omega)]; exact E1
      have FF : FrS hs hs1 hc (F_Cargo_move (nI b) (nI q) hc1) g g3 n i := by
        refine ⟨⟨by rw [F1.1.1, lr' 1 (by omega) (by omega) (by omega)], by rw [F1.1.2.1, lr' 2 (by omega) (by omega) (by omega)], by rw [F1.1.2.2.1, l0 0 (by omega)], by rw [F1.1.2.2.2, l0 1 (by omega)]⟩, ⟨?_, ?_⟩, ?_, ?_, ?_, ?_⟩
        · rw [mv_12 _ _ _ 1 (by omega) (by omega), F1.2.1.1, mv_12 _ _ _ 1 (by omega) (by omega)]
        · rw [mv_12 _ _ _ 2 (by omega) (by omega), F1.2.1.2, mv_12 _ _ _ 2 (by omega) (by omega)]
        · intro r r0 r7 r8 r17
          rw [c2 r r7 r8, F1.2.2.1 r r0 r7 r8 r17, nr r r17, a2 r r7 r8, mr r r0]
        · intro j j24 j26 j39
          rw [c2 0 (by omega) (by omega), F1.2.2.2.1 j j24 j26 j39, z0 j j24]
        · intro c hc'
          rw [c3 c]
          by_cases e : c = b
          · rw [if_pos e, e, hbq]
          · rw [if_neg e, e71 c hc' e]
        · intro j hj
          obtain ⟨y1, y2, y3, y4⟩ := F1.2.2.2.2.2 j (by omega)
          rw [y1, y2, c2 17 (by omega) (by omega), y3, y4, l3 j, l4 j, n17, n17, if_neg (by omega), if_neg (by omega), if_neg (by omega), if_neg (by omega), if_neg (by omega), if_neg (by omega)]
          exact ⟨rfl, rfl, rfl, rfl⟩
      rw [b1, b2, bind_sn, bind_sn]
      dsimp only
      rw [c1, bind_sn]
      rcases E3 with ⟨f26, f1, f2⟩ | ⟨f26, f1, f2⟩
      · subst f1
        rcases f2 with f2 | ⟨f2, f3, f4⟩
        · subst f2
          rw [if_pos rfl, bind_sn, bind_sn]
          dsimp only
          rw [ife0, if_pos rfl]
          obtain ⟨t1, t2, d', t3, t4⟩ := S3
          have t5 : d' ≤ lim := by
            rcases t4 with ⟨-, -, z⟩ | ⟨z, -⟩
            · exact z
            · rw [f26] at z; exact absurd z (by decide)
          rw [if_pos (show hs1 0 7 ≤ hs1 0 8 by rw [t1, t3]; exact le d' t5)]
          obtain ⟨hs5, hc5, g5, s5, s5', u1, u2, u3, u4, u5, u6⟩ := ih (p + 1) f f' hs1 _ g3 V3 (by rw [FF.2.2.2.1 11 (by omega) (by omega) (by omega)]; exact ho) ⟨t1, t2, d', t3, t4⟩ f26 (FF.late L) (FF.pre P) (by rw [FF.2.2.2.2.1 b hb]; exact hbq) (by omega) (by omega) (by omega)
          exact ⟨hs5, hc5, g5, s5, s5', u1, u2, u3, u4, FF.tr u5, u6⟩
        · subst f2
          rw [if_neg pu_10, bind_sn, bind_sn]
          dsimp only
          rw [if_pos pu_10, if_neg pu_10, if_pos (Or.inr rfl)]
          exact ⟨hs1, _, g3, _, _, rfl, rfl, V3, S3, FF, Or.inr ⟨1, rfl, rfl, Or.inl ⟨f26, rfl, Or.inr ⟨rfl, f3, f4⟩⟩⟩⟩
      · subst f1
        subst f2
        rw [if_pos rfl, bind_sn, bind_sn]
        dsimp only
        rw [ife0, if_neg pu_10]
        obtain ⟨t1, t2, d', t3, t4⟩ := S3
        have t5 : d' = lim + 1 := by
          rcases t4 with ⟨z, -, -⟩ | ⟨-, z⟩
          · rw [f26] at z; exact absurd z (by decide)
          · exact z
        rw [if_neg (show ¬ hs1 0 7 ≤ hs1 0 8 by rw [t1, t3]; exact nI_ge (by omega) (by omega)), if_pos (Or.inl rfl)]
        exact ⟨hs1, _, g3, _, _, rfl, rfl, V3, ⟨t1, t2, d', t3, t4⟩, FF, Or.inr ⟨0, rfl, rfl, Or.inr ⟨f26, rfl, rfl⟩⟩⟩
end SHIF
