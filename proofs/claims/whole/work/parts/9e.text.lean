/-! ===== pure: the text read ===== -/
section TXT
variable {g g' g2 : HH} {hd hd' ht ht' hh hr hc : HH} {B R H D K n N N' s x l : Nat}
def shipE (N : Nat) (v24 : Int32 × HH) : Option (Int32 × HH) := (if ¬ (F_Mo_good v24.2) = 0 then (sv_let (ss v24.2 1 (1 : Int32)) fun gm_26 => (Option.bind (L_Mo_ship_136 N N v24.1 (0 : Int32) gm_26) fun v31 => (if sv_in (7 : Int32) 90 then (sv_let (ss v31 6 (v31 2 ((7 : Int32)).toNatClampNeg)) fun gm_33 => (Option.bind (L_Mo_ship_173 N N v24.1 (0 : Int32) gm_33) fun v46 => (sv_let (ss v46 11 (0 : Int32)) fun gm_47 => (Option.bind (L_Mo_ship_247 N N v24.1 (0 : Int32) gm_47) fun v53 => (Option.bind (F_Mo_laysPlaces N v53) fun v54 => (sv_let (ss v54 22 (0 : Int32)) fun gm_56 => (sv_let (ss gm_56 32 (0 : Int32)) fun gm_57 => (sv_let (ss gm_57 37 (-1 : Int32)) fun gm_58 => (some (v24.1, gm_58)))))))))) else none))) else (some ((-4 : Int32), v24.2)))
/-- how the reference begins -/
def gst (g : HH) : HH := ss (ss (ss (ss (ss (ss g 15 (g 0 14)) 14 0) 16 0) 20 0) 21 (-1)) 5 0
theorem ship_eq : F_Mo_ship N g = (Option.bind (L_Mo_ship_35 N N 0 (gst g)) fun v10 => (if sv_in (4 : Int32) 90 then (sv_let (sa v10 2 (4 : Int32) (999 : Int32)) fun gm_12 => (if sv_in (5 : Int32) 90 then (sv_let (sa gm_12 2 (5 : Int32) (999 : Int32)) fun gm_14 => (Option.bind (F_Mo_advance N gm_14) fun v15 => (sv_let (if ¬ (v15 0 18) = 0 then v15 else (sv_let (F_Mo_errs (1 : Int32) (v15 0 17) v15) fun gm_18 => gm_18)) fun v19 => (Option.bind (L_Mo_ship_94 N N (0 : Int32) v19) fun v24 => shipE N v24)))) else none)) else none)) := by
  unfold F_Mo_ship shipE gst
  simp only [pu_letn]
theorem z35 : ∀ (m j f : Nat) (g : HH), j + m = 90 → m < f → ∃ g', L_Mo_ship_35 N f (nI j) g = some g' ∧ (∀ r, r ≠ 2 → g' r = g r) ∧ (∀ i, j ≤ i → i < 90 → g' 2 i = 0) ∧ ∀ i, i < j → g' 2 i = g 2 i := by
  intro m
  induction m with
  | zero =>
    intro j f g h1 h2
    obtain ⟨f, rfl⟩ : ∃ z, f = z + 1 := ⟨f - 1, by omega⟩
    have : j = 90 := by omega
    subst this
    rw [L_Mo_ship_35, if_pos (by decide)]
    exact ⟨g, rfl, fun _ _ => rfl, fun i _ _ => by omega, fun _ _ => rfl⟩
  | succ m ih =>
    intro j f g h1 h2
    obtain ⟨f, rfl⟩ : ∃ z, f = z + 1 := ⟨f - 1, by omega⟩
    have h9 : ¬ (90 : Int32) ≤ nI j := nI_ge (a := j) (b := 90) (by omega) (by omega)
    rw [L_Mo_ship_35, if_neg h9, if_pos (pu_in (by omega) (by omega)), pu_letn, nI_1]
    obtain ⟨g', x1, x2, x3, x4⟩ := ih (j + 1) f (sa g 2 (nI j) 0) (by omega) (by omega)
    refine ⟨g', x1, fun r h => by rw [x2 r h, pu_sa, if_neg h], fun i i1 i2 => ?_, fun i hi => ?_⟩
    · by_cases c : i = j
      · subst c
        rw [x4 i (by omega), pu_sa, if_pos rfl, nI_clamp (by omega), pu_upd, if_pos rfl]
      · exact x3 i (by omega) i2
    · rw [x4 i (by omega), pu_sa, if_pos rfl, nI_clamp (by omega), pu_upd, if_neg (by omega)]
theorem hull_r (hh : HH) (hN : 1 ≤ N) : ∃ hh', F_Hull_reset N hh = some hh' ∧ (hh' 0 5 = 999 ∧ hh' 0 6 = 999 ∧ hh' 0 7 = 0) ∧ ∀ b, b < 6 → hh' 5 b = 0 ∧ hh' 4 b = 0 := by
  obtain ⟨h5, e5⟩ : ∃ h5, h5 = ss (ss (ss (ss (ss hh 0 0) 1 0) 2 0) 3 0) 4 0 := ⟨_, rfl⟩
  have z : h5 0 0 = 0 := by
    rw [e5, pu_ss, if_pos rfl, if_neg (by omega), pu_ss, if_pos rfl, if_neg (by omega), pu_ss, if_pos rfl, if_neg (by omega), pu_ss, if_pos rfl, if_neg (by omega), pu_ss, if_pos rfl, if_pos rfl]
  have L : ∀ f, L_Hull_build_29 N (f + 1) 0 h5 = some h5 := fun f => by
    rw [L_Hull_build_29, z, if_pos (Int32.le_refl _)]
  have eb : F_Hull_build N 0 0 0 0 hh = some h5 := by
    obtain ⟨f, hf⟩ : ∃ f, N = f + 1 := ⟨N - 1, by omega⟩
    have e := L f
    rw [← hf] at e
    unfold F_Hull_build
    simp only [pu_letn]
    rw [← e5, e, bind_sn]
  unfold F_Hull_reset
  rw [eb, bind_sn]
  simp only [pu_letn]
  refine ⟨_, rfl, ⟨?_, ?_, ?_⟩, fun b hb => ⟨?_, ?_⟩⟩
  · rw [pu_sf, if_neg (by omega), pu_sf, if_neg (by omega), pu_ss, if_pos rfl, if_neg (by omega), pu_ss, if_pos rfl, if_neg (by omega), pu_ss, if_pos rfl, if_pos rfl]
  · rw [pu_sf, if_neg (by omega), pu_sf, if_neg (by omega), pu_ss, if_pos rfl, if_neg (by omega), pu_ss, if_pos rfl, if_pos rfl]
  · rw [pu_sf, if_neg (by omega), pu_sf, if_neg (by omega), pu_ss, if_pos rfl, if_pos rfl]
  · rw [pu_sf, if_neg (by omega), pu_sf, if_pos rfl]; unfold sv_fl; rw [if_pos hb]
  · rw [pu_sf, if_pos rfl]; unfold sv_fl; rw [if_pos hb]
theorem rules_r (hr : HH) : F_Rules_reset hr 0 0 = 0 ∧ (∀ l, l < 5 → F_Rules_reset hr 1 l = 0) ∧ ∀ j, j < 49 → F_Rules_reset hr 6 j = 0 := by
  unfold F_Rules_reset
  simp only [pu_letn]
  refine ⟨?_, fun l hl => ?_, fun j hj => ?_⟩
  · rw [pu_sf, if_neg (by omega), pu_sf, if_neg (by omega), pu_ss, if_pos rfl, if_pos rfl]
  · rw [pu_sf, if_neg (by omega), pu_sf, if_pos rfl]; unfold sv_fl; rw [if_pos hl]
  · rw [pu_sf, if_pos rfl]; unfold sv_fl; rw [if_pos hj]
theorem cargo_r (hc : HH) : F_Cargo_reset hc 0 0 = 0 ∧ (∀ b, b < 25 → F_Cargo_reset hc 4 b = -1) ∧ ∀ p, p < 144 → F_Cargo_reset hc 5 p = -1 := by
  unfold F_Cargo_reset F_Cargo_liftAll
  simp only [pu_letn]
  refine ⟨?_, fun l hl => ?_, fun j hj => ?_⟩
  · rw [pu_sf, if_neg (by omega), pu_sf, if_neg (by omega), pu_ss, if_pos rfl, if_pos rfl]
  · rw [pu_sf, if_neg (by omega), pu_sf, if_pos rfl]; unfold sv_fl; rw [if_pos hl]
  · rw [pu_sf, if_pos rfl]; unfold sv_fl; rw [if_pos hj]
theorem rt_b (h : hd 0 0 ≠ 0) (hN : 1 ≤ N) (x1 : Int32) : L_Read_readText_34 N N x1 hd ht hh hr hc = some (x1, hd, ht, hh, hr, hc) := by
  have L : ∀ f, L_Read_readText_34 N (f + 1) x1 hd ht hh hr hc = some (x1, hd, ht, hh, hr, hc) := fun f => by
    rw [L_Read_readText_34, if_pos h]
  obtain ⟨f, hf⟩ : ∃ f, N = f + 1 := ⟨N - 1, by omega⟩
  have e := L f
  rw [← hf] at e
  exact e
theorem sh_b (h : g 0 20 ≠ 0) (hN : 1 ≤ N) (x1 : Int32) : L_Mo_ship_94 N N x1 g = some (x1, g) := by
  have L : ∀ f, L_Mo_ship_94 N (f + 1) x1 g = some (x1, g) := fun f => by
    rw [L_Mo_ship_94, good_0 h, if_pos rfl]
  obtain ⟨f, hf⟩ : ∃ f, N = f + 1 := ⟨N - 1, by omega⟩
  have e := L f
  rw [← hf] at e
  exact e
/-- what the reading of a text leaves as it was -/
def FgH (g g' : HH) : Prop := (∀ r, r ≠ 0 → r ≠ 2 → r ≠ 3 → g' r = g r) ∧ (∀ j, j ≠ 5 → (j < 14 ∨ 21 < j) → g' 0 j = g 0 j) ∧ g' 0 14 = 0
theorem text_ok (T : TpR ht g s) (hd hh hr hc : HH) (hN : 1000 ≤ N) (hN' : 1000 ≤ N') : ∃ x x' hd' ht' hh' hr' hc' g', F_Read_readText N hd ht hh hr hc = some (x, hd', ht', hh', hr', hc') ∧ F_Mo_ship N' g = shipE N' (x', g') ∧ PP hd' ht' g' s ∧ FgH g g' ∧ (hd' 0 0 = 0 → x = x' ∧ ∃ B R H D K n, DR hh' hr' hc' g' B R H D K n) := by
  obtain ⟨t1, t2, t3, t4⟩ := T
  obtain ⟨h1, r1, ⟨r2, r3, r4⟩, r5⟩ := hull_r (N := N) hh (by omega)
  obtain ⟨er, eer⟩ : ∃ er, er = F_Rules_reset hr := ⟨_, rfl⟩
  obtain ⟨ec, eec⟩ : ∃ ec, ec = F_Cargo_reset hc := ⟨_, rfl⟩
  obtain ⟨er0, er1, er6⟩ := rules_r hr
  obtain ⟨ec0, ec4, ec5⟩ := cargo_r hc
  rw [← eer] at er0 er1 er6
  rw [← eec] at ec0 ec4 ec5
  obtain ⟨hd0, ehd0⟩ : ∃ hd0, hd0 = ss (ss hd 0 0) 1 (-1) := ⟨_, rfl⟩
  have d00 : hd0 0 0 = 0 := by rw [ehd0, pu_ss, if_pos rfl, if_neg (by omega), pu_ss, if_pos rfl, if_pos rfl]
  have d01 : hd0 0 1 = -1 := by rw [ehd0, pu_ss, if_pos rfl, if_pos rfl]
  obtain ⟨ga, ega⟩ : ∃ ga, ga = gst g := ⟨_, rfl⟩
  have fa : ∀ j, ga 0 j = if j = 5 then 0 else if j = 21 then -1 else if j = 20 then 0 else if j = 16 then 0 else if j = 14 then 0 else if j = 15 then g 0 14 else g 0 j := fun j => by
    rw [ega]; unfold gst
    rw [pu_ss, if_pos rfl, pu_ss, if_pos rfl, pu_ss, if_pos rfl, pu_ss, if_pos rfl, pu_ss, if_pos rfl, pu_ss, if_pos rfl]
  have fr : ∀ r, r ≠ 0 → ga r = g r := fun r h => by
    rw [ega]; unfold gst
    rw [pu_ssr, if_neg h, pu_ssr, if_neg h, pu_ssr, if_neg h, pu_ssr, if_neg h, pu_ssr, if_neg h, pu_ssr, if_neg h]
  obtain ⟨gb, b1, b2, b3, -⟩ := z35 (N := N') 90 0 N' ga (by omega) (by omega)
  rw [show nI 0 = (0 : Int32) from rfl] at b1
  obtain ⟨gc, egc⟩ : ∃ gc, gc = sa (sa gb 2 4 999) 2 5 999 := ⟨_, rfl⟩
  have c4 : ((4 : Int32)).toNatClampNeg = 4 := rfl
  have c5 : ((5 : Int32)).toNatClampNeg = 5 := rfl
  have i4 : sv_in (4 : Int32) 90 := by decide
  have i5 : sv_in (5 : Int32) 90 := by decide
  have gc2 : ∀ j, j < 90 → gc 2 j = if j = 5 then 999 else if j = 4 then 999 else 0 := fun j hj => by
    rw [egc, pu_sa, if_pos rfl, c5, pu_upd, pu_sa, if_pos rfl, c4, pu_upd, b3 j (by omega) hj]
  have gcr : ∀ r, r ≠ 2 → gc r = ga r := fun r h => by
    rw [egc, pu_sa, if_neg h, pu_sa, if_neg h, b2 r h]
  -- the first step
  have BR : ByR (ss ht 5 0) gc s := by
    refine ⟨t1, ?_, ?_, ?_⟩
    · rw [pu_ss, if_pos rfl, if_neg (by omega)]; exact t2
    · rw [gcr 0 (by omega), fa]; exact t3
    · intro i hi
      rw [pu_ssr, if_neg (by omega), gcr 9 (by omega), fr 9 (by omega)]
      exact t4 i hi
  obtain ⟨a, b, kd, ht1, g1, x1, x2, x3, Q, x5, x6, x7, x8⟩ := adv_ok (N := N) (N' := N') (b0 := 0) BR (by omega) (by rw [pu_ss, if_pos rfl, if_pos rfl]; rfl) (by rw [gcr 0 (by omega), fa]; rfl) hN hN'
  have BR1 : ByR ht1 g1 s := BR.c (x5 1 (by omega)) x6 (x7 9 (by omega)) (x8 15 (by omega))
  have TS1 : TSf ht1 s := by
    refine ⟨t1, BR1.2.1, fun i hi => ?_, b, Q.1.2.1, Q.2.2.1.1⟩
    obtain ⟨c, c1, c2, -⟩ := BR1.2.2.2 i hi
    exact ⟨c, c1, c2⟩
  have g120 : g1 0 20 = 0 := by rw [x8 20 (by omega), gcr 0 (by omega), fa]; rfl
  have g121 : g1 0 21 = -1 := by rw [x8 21 (by omega), gcr 0 (by omega), fa]; rfl
  have P1 : PP hd0 ht1 g1 s := ⟨⟨by rw [d00, g120], by rw [d01, g121]⟩, TS1, Or.inr ⟨d00, BR1, a, b, kd, Q⟩⟩
  have hk3 := Q.1.2.2.1
  -- what has changed so far
  have FH : ∀ {g' : HH}, FgP g1 g' → FgH g g' := by
    intro g' F
    refine ⟨fun r a b c => ?_, fun j a b => ?_, ?_⟩
    · rw [F.1 r a b c, x7 r a, gcr r b, fr r a]
    · rw [F.2 j a (by omega), x8 j (by omega), gcr 0 (by omega), fa, if_neg a, if_neg (by omega), if_neg (by omega), if_neg (by omega), if_neg (by omega), if_neg (by omega)]
    · rw [F.2 14 (by omega) (by omega), x8 14 (by omega), gcr 0 (by omega), fa]; rfl
  have g12 : ∀ j, j < 90 → g1 2 j = if j = 5 then 999 else if j = 4 then 999 else 0 := fun j hj => by rw [x7 2 (by omega), gc2 j hj]
  have g105 : g1 0 5 = 0 := by rw [x8 5 (by omega), gcr 0 (by omega), fa, if_pos rfl]
  have eK : F_Read_readText N hd ht hh hr hc = (Option.bind (F_Read_readShip N hd0 ht1 h1) fun v7 => (Option.bind (F_Read_skipSemicolon N v7.1 v7.2.1) fun v9 => (Option.bind (L_Read_readText_34 N N 1 v9.1 v9.2 v7.2.2 er ec) fun v18 => some (v18.1, v18.2.1, v18.2.2.1, v18.2.2.2.1, v18.2.2.2.2.1, v18.2.2.2.2.2)))) := by
    unfold F_Read_readText F_Ves_reset F_Tape_rewind
    rw [r1, bind_sn]
    simp only [pu_letn, bind_sn]
    rw [← eer, ← eec, ← ehd0, x1, bind_sn, bind_sn]
  have eM : F_Mo_ship N' g = (sv_let (if ¬ (g1 0 18) = 0 then g1 else F_Mo_errs 1 (g1 0 17) g1) fun v19 => (Option.bind (L_Mo_ship_94 N' N' 0 v19) fun v24 => shipE N' v24)) := by
    rw [ship_eq, ← ega, b1, bind_sn]
    simp only [if_pos i4, if_pos i5, pu_letn]
    rw [← egc, x2, bind_sn]
  rw [eK, eM, Q.2.2.2.1.2, pu_letn]
  by_cases hk : kd = 0
  · -- an empty text
    obtain ⟨pe, se, ze⟩ := err_ok P1 (c := 1) (by decide)
    obtain ⟨ht2, y1, y2⟩ := ship_e (hh := h1) (N := N) P1 d00 (by rw [Q.2.2.2.1.1, hk]; rfl) hN
    have gz : F_Mo_errs 1 (g1 0 17) g1 0 20 ≠ 0 := by rw [← pe.1.1]; exact ze
    obtain ⟨hd3, ht3, g3, s1, s2, P3, S3, s3, s4⟩ := sem_ok (N := N) (N' := N') (hd := F_Read_fail 1 hd0 ht1) (ht := ht2) (g := F_Mo_errs 1 (g1 0 17) g1) (s := s) ⟨pe.1, y2, Or.inl ze⟩ hN hN'
    rw [sem_b gz] at s2
    have eg3 : F_Mo_errs 1 (g1 0 17) g1 = g3 := Option.some.inj s2
    have z3 := s3 ze
    rw [hk, ifn (show nI 0 = 0 from rfl), sh_b gz (by omega), bind_sn, y1, bind_sn]
    dsimp only
    rw [s1, bind_sn]
    dsimp only
    rw [rt_b z3 (by omega), bind_sn, eg3]
    rw [eg3] at se
    exact ⟨_, 0, hd3, ht3, h1, er, ec, g3, rfl, rfl, P3, FH se.p, fun z => absurd z z3⟩
  · have kz : ¬ nI kd = 0 := nI_ne0 (by omega) (by omega)
    rw [if_pos kz]
    obtain ⟨hd2, ht2, hh2, g2, y1, y2, P2, G2, y3⟩ := shipL_ok (hh := h1) (N := N) (N' := N') P1 ⟨by rw [r2, g12 4 (by omega)]; rfl, by rw [r3, g12 5 (by omega)]; rfl, by rw [r4, g105]⟩ (fun b hb => ⟨(r5 b hb).1, (r5 b hb).2, by rw [g12 (8 + b) (by omega), if_neg (by omega), if_neg (by omega)]⟩) hN hN'
    obtain ⟨hd3, ht3, g3, s1, s2, P3, S3, s3, s4⟩ := sem_ok (N := N) (N' := N') P2 hN hN'
    have L94 : L_Mo_ship_94 N' N' 0 g1 = L_Mo_ship_94 N' (N' - 1) 1 g3 := by
      have L : ∀ f, L_Mo_ship_94 N' (f + 1) 0 g1 = L_Mo_ship_94 N' f 1 g3 := fun f => by
        rw [L_Mo_ship_94, good_1 g120, if_neg pu_10, Q.2.2.2.1.2, if_neg kz, line0_eq, y2, bind_sn, s2, bind_sn]
        rfl
      have e := L (N' - 1)
      rw [show N' - 1 + 1 = N' by omega] at e
      exact e
    rw [L94, y1, bind_sn]
    dsimp only
    rw [s1, bind_sn]
    dsimp only
    have rest : ∃ (B R H D : Nat), hd3 0 0 = 0 → (∃ K n, DR hh2 er ec g3 B R H D K n) ∧ ∃ a, a ≤ 900 ∧ ht3 0 3 = nI a ∧ 1 ≤ a ∧ 900 ≤ a + 900 := by
      by_cases h3 : hd3 0 0 = 0
      · have h2 : hd2 0 0 = 0 := Classical.byContradiction fun z => (s3 z) h3
        obtain ⟨⟨B, R, H, D, z1⟩, z2, z3, z4, z5⟩ := y3 h2
        refine ⟨B, R, H, D, fun _ => ⟨⟨0, 0, ?_⟩, ?_⟩⟩
        · refine DR.fs ⟨z1, ?_, ?_⟩ S3
          · have w : ∀ j, 6 ≤ j → j < 90 → g2 2 j = 0 := fun j j1 j2 => by rw [z2 j (by omega), g12 j j2, if_neg (by omega), if_neg (by omega)]
            refine ⟨⟨er0, w 6 (by omega) (by omega), by omega⟩, ?_, ?_, ?_⟩
            · intro l l1 l2
              have e : gv g2 1 (14 + 4 * l) = 0 := w (14 + 4 * l) (by omega) (by omega)
              rw [e, er1 l (by omega)]
              exact ⟨rfl, Int32.le_refl _, fun z => absurd rfl z⟩
            · intro k hk; omega
            · intro c d hc' hd'
              have e : gv g2 1 (41 + 7 * c + d) = 0 := w (41 + 7 * c + d) (by omega) (by omega)
              have e' : gv g2 1 (41 + 7 * d + c) = 0 := w (41 + 7 * d + c) (by omega) (by omega)
              rw [e, e', er6 (c * 7 + d) (by omega)]
              exact ⟨rfl, rfl, Or.inl rfl⟩
          · refine ⟨⟨ec0, by rw [z2 7 (by omega), g12 7 (by omega)]; rfl, by omega⟩, ?_, ec4, ec5⟩
            intro b hb; omega
        · obtain ⟨m, m', q1, q2, q3, q4⟩ := z5.tr (s4 h3).2
          exact ⟨m', q4, q2, by omega, by omega⟩
      · exact ⟨0, 0, 0, 0, fun z => absurd z h3⟩
    obtain ⟨B, R, H, D, rest⟩ := rest
    obtain ⟨x', hd4, ht4, hh4, hr4, hc4, g4, p1, p2, P4, G4, p3⟩ := loop_ok (s := s) (B := B) (R := R) (H := H) (D := D) hN hN' 900 1 N (N' - 1) hd3 ht3 hh2 er ec g3 P3 rest (by omega) (by omega) (by omega)
    rw [show nI 1 = (1 : Int32) from rfl] at p1 p2
    rw [p1, p2, bind_sn, bind_sn]
    exact ⟨nI x', nI x', hd4, ht4, hh4, hr4, hc4, g4, rfl, rfl, P4, FH (G2.tr (S3.p.tr G4)), fun z => ⟨rfl, by obtain ⟨K, n, d⟩ := p3 z; exact ⟨B, R, H, D, K, n, d⟩⟩⟩
end TXT
