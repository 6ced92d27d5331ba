/-! ===== pure: greedy, loads, takes ===== -/
section GREEDY
variable {k k' : KS} {g g' g2 : HH} {hy hv hh hr hc hc2 hp hl hl' : HH} {B R H D K n o N N' t w lim : Nat} {L : Nat → Nat}
theorem fp_L {b kk : Nat} (hb : b < n) (hk : kk < 24) (x : Int32) (hN : 30 ≤ N) (hN' : 30 ≤ N') : ∀ (m p f f' : Nat) (g : HH), VS hh hr hc g B R H D K n o → g 0 11 = nI o → g 12 kk = -1 → g 11 kk = nI b → p + m = plN B R H D → m < f → m < f' → ∃ v g' s, L_Ves_openPlace_5 N f (nI b) 0 0 (nI p) hh hr hc = some s ∧ ((s = .inl 0 ∧ v = -1) ∨ s = .inr v) ∧ L_Mo_goesGreedy_25 N' f' x (nI kk) (nI p) g = some g' ∧ (∀ r, r ≠ 12 → g' r = g r) ∧ (∀ i, g' 12 i = if i = kk then v else g 12 i) ∧ (v = -1 ∨ ∃ q, q < plN B R H D ∧ v = nI q ∧ g 8 q = -1 ∧ (q ≠ lowS H D q → g 8 (q - 1) ≠ -1 ∧ g 8 (q - 1) ≠ nI b)) := by
  intro m
  have ik : sv_in (nI kk) 24 := pu_in (by omega) (by omega)
  induction m with
  | zero =>
    intro p f f' g V ho h12 h11 h1 h2 h3
    obtain ⟨f, rfl⟩ : ∃ z, f = z + 1 := ⟨f - 1, by omega⟩
    obtain ⟨f', rfl⟩ : ∃ z, f' = z + 1 := ⟨f' - 1, by omega⟩
    have : p = plN B R H D := by omega
    subst this
    rw [L_Ves_openPlace_5, L_Mo_goesGreedy_25, Mo_places V.1, V.h4, bind_sn, if_pos (Int32.le_refl _), if_pos (Int32.le_refl _)]
    refine ⟨-1, g, _, rfl, Or.inl ⟨rfl, rfl⟩, rfl, fun _ _ => rfl, ?_, Or.inl rfl⟩
    intro i
    by_cases e : i = kk
    · rw [if_pos e, e, h12]
    · rw [if_neg e]
  | succ m ih =>
    intro p f f' g V ho h12 h11 h1 h2 h3
    obtain ⟨f, rfl⟩ : ∃ z, f = z + 1 := ⟨f - 1, by omega⟩
    obtain ⟨f', rfl⟩ : ∃ z, f' = z + 1 := ⟨f' - 1, by omega⟩
    have hp' : p < plN B R H D := by omega
    have hP := V.pp
    obtain ⟨v, v1, v2, v3, v4⟩ := whyBox_eq (N := N) (N' := N') V ho hb hp' hN hN'
    have v0 : nI v = 0 ↔ v = 0 := nI_eq (a := v) (b := 0) (by omega) (by omega)
    rw [L_Ves_openPlace_5, L_Mo_goesGreedy_25, Mo_places V.1, V.h4, bind_sn, if_neg (nI_ge hp' (by omega)), if_neg (nI_ge hp' (by omega)), nI_1]
    simp only [if_pos ik]
    rw [nI_clamp (by omega), h12, h11, ifn rfl, v1, v2, bind_sn, bind_sn]
    by_cases cv : v = 0
    case neg =>
      have y : ¬ nI v = 0 := fun x => cv (v0.mp x)
      rw [if_pos y, if_pos y]
      exact ih (p + 1) f f' g V ho h12 h11 (by omega) (by omega) (by omega)
    subst cv
    obtain ⟨v5, v6⟩ := v4 rfl
    rw [show nI 0 = 0 from rfl, ife0, ife0, pu_letn]
    simp only [not_true, if_false]
    have row : ∀ i, sa g 12 (nI kk) (nI p) 12 i = if i = kk then nI p else g 12 i := fun i => by rw [pu_sa, if_pos rfl, nI_clamp (by omega), pu_upd]
    have rr : ∀ r, r ≠ 12 → sa g 12 (nI kk) (nI p) r = g r := fun r hr' => by rw [pu_sa, if_neg hr']
    have V1 : VS hh hr hc (sa g 12 (nI kk) (nI p)) B R H D K n o := V.cg (rr 1 (by omega)) (by rw [rr 0 (by omega)]) (rr 4 (by omega)) (rr 5 (by omega)) (rr 6 (by omega)) (rr 7 (by omega)) (rr 8 (by omega))
    have stop : L_Mo_goesGreedy_25 N' f' x (nI kk) (nI (p + 1)) (sa g 12 (nI kk) (nI p)) = some (sa g 12 (nI kk) (nI p)) := by
      obtain ⟨f', rfl⟩ : ∃ z, f' = z + 1 := ⟨f' - 1, by omega⟩
      have e12 : ¬ sa g 12 (nI kk) (nI p) 12 (nI kk).toNatClampNeg = -1 := by rw [nI_clamp (by omega), row kk, if_pos rfl]; exact pu_m1 (by omega)
      rw [L_Mo_goesGreedy_25, Mo_places V1.1, bind_sn, if_pos ik, if_pos e12]
      split <;> rfl
    rw [stop]
    exact ⟨nI p, _, _, rfl, Or.inr rfl, rfl, rr, row, Or.inr ⟨p, hp', rfl, v5, v6⟩⟩
theorem open_0 {b : Nat} {s : Int32 ⊕ Int32} {v : Int32} (h : L_Ves_openPlace_5 N N (nI b) 0 0 0 hh hr hc = some s) (hs : (s = .inl 0 ∧ v = -1) ∨ s = .inr v) : F_Ves_openPlace N (nI b) 0 hh hr hc = some v := by
  unfold F_Ves_openPlace
  rw [h]
  rcases hs with ⟨rfl, rfl⟩ | rfl
  · rfl
  · rfl
theorem greedy_L (hw : w ≤ 24) (hL : ∀ j, j < w → L j < n) (hLi : ∀ a b, a < w → b < w → L a = L b → a = b) (hN : 200 ≤ N) (hN' : 200 ≤ N') : ∀ (m kk f f' c : Nat) (hl hc g : HH), VS hh hr hc g B R H D K n o → g 0 11 = nI o → hl 0 5 = nI w → g 0 27 = nI w → (∀ i, i < w → hl 2 i = nI (L i) ∧ g 11 i = nI (L i)) → (∀ j, kk ≤ j → j < w → g 7 (L j) = -1) → (∀ i, i < kk → hl 3 i = g 12 i ∧ okp (plN B R H D) (hl 3 i)) → kk + m = w → m < f → m < f' → c ≤ kk → ∃ c' hl' hc' g', L_Load_doGreedy_9 N f (nI c) (nI kk) hl hh hr hc = some (nI c', hl', hc') ∧ L_Mo_goesGreedy_8 N' f' (nI c) (nI kk) g = some (nI c', g') ∧ c' ≤ w ∧ VS hh hr hc' g' B R H D K n o ∧ (∀ r, r ≠ 7 → r ≠ 8 → r ≠ 12 → g' r = g r) ∧ (∀ r, r ≠ 3 → hl' r = hl r) ∧ (∀ i, i < w → hl' 3 i = g' 12 i ∧ okp (plN B R H D) (hl' 3 i)) ∧ (NoH g H D (plN B R H D) → NoH g' H D (plN B R H D)) ∧ (∀ x, x < n → (∀ j, kk ≤ j → j < w → L j ≠ x) → g' 7 x = g 7 x) ∧ c ≤ c' ∧ (c' = c → ∀ x, x < n → g' 7 x = g 7 x) := by
  intro m
  induction m with
  | zero =>
    intro kk f f' c hl hc g V ho s1 s2 s3 s4 s5 h1 h2 h3 h4
    obtain ⟨f, rfl⟩ : ∃ z, f = z + 1 := ⟨f - 1, by omega⟩
    obtain ⟨f', rfl⟩ : ∃ z, f' = z + 1 := ⟨f' - 1, by omega⟩
    have : kk = w := by omega
    subst this
    rw [L_Load_doGreedy_9, L_Mo_goesGreedy_8, s1, s2, if_pos (Int32.le_refl _), if_pos (Int32.le_refl _)]
    exact ⟨c, hl, hc, g, rfl, rfl, h4, V, fun _ _ _ _ => rfl, fun _ _ => rfl, s5, fun h => h, fun _ _ _ => rfl, Nat.le_refl _, fun _ _ _ => rfl⟩
  | succ m ih =>
    intro kk f f' c hl hc g V ho s1 s2 s3 s4 s5 h1 h2 h3 h4
    obtain ⟨f, rfl⟩ : ∃ z, f = z + 1 := ⟨f - 1, by omega⟩
    obtain ⟨f', rfl⟩ : ∃ z, f' = z + 1 := ⟨f' - 1, by omega⟩
    have hk : kk < w := by omega
    have hP := V.pp
    have hn := V.nn
    have hb := hL kk hk
    have ik : sv_in (nI kk) 24 := pu_in (by omega) (by omega)
    obtain ⟨z1, z2⟩ := s3 kk hk
    have rowa : ∀ i, sa g 12 (nI kk) (-1) 12 i = if i = kk then -1 else g 12 i := fun i => by rw [pu_sa, if_pos rfl, nI_clamp (by omega), pu_upd]
    have rra : ∀ r, r ≠ 12 → sa g 12 (nI kk) (-1) r = g r := fun r hr' => by rw [pu_sa, if_neg hr']
    have Va : VS hh hr hc (sa g 12 (nI kk) (-1)) B R H D K n o := V.cg (rra 1 (by omega)) (by rw [rra 0 (by omega)]) (rra 4 (by omega)) (rra 5 (by omega)) (rra 6 (by omega)) (rra 7 (by omega)) (rra 8 (by omega))
    obtain ⟨v, g1, s, a1, a2, a3, a4, a5, a6⟩ := fp_L (N := N) (N' := N') hb (show kk < 24 by omega) (nI c) (by omega) (by omega) (plN B R H D) 0 N N' (sa g 12 (nI kk) (-1)) Va (by rw [rra 0 (by omega)]; exact ho) (by rw [rowa, if_pos rfl]) (by rw [rra 11 (by omega)]; exact z2) (by omega) (by omega) (by omega)
    rw [show nI 0 = 0 from rfl] at a1 a3
    have eo := open_0 a1 a2
    have gr : ∀ r, r ≠ 12 → g1 r = g r := fun r hr' => by rw [a4 r hr', rra r hr']
    have g12 : ∀ i, g1 12 i = if i = kk then v else g 12 i := fun i => by
      rw [a5 i]
      by_cases e : i = kk
      · rw [if_pos e, if_pos e]
      · rw [if_neg e, if_neg e, rowa, if_neg e]
    have V1 : VS hh hr hc g1 B R H D K n o := V.cg (gr 1 (by omega)) (by rw [gr 0 (by omega)]) (gr 4 (by omega)) (gr 5 (by omega)) (gr 6 (by omega)) (gr 7 (by omega)) (gr 8 (by omega))
    have l3 : ∀ i, sw hl 3 24 (nI kk) v 3 i = if i = kk then v else hl 3 i := fun i => by rw [pu_sw, if_pos rfl, pu_wr _ _ (by omega) (by omega), pu_upd]
    have lr : ∀ r, r ≠ 3 → sw hl 3 24 (nI kk) v r = hl r := fun r hr' => by rw [pu_sw, if_neg hr']
    have gb : g 7 (L kk) = -1 := s4 kk (by omega) hk
    rw [L_Load_doGreedy_9, L_Mo_goesGreedy_8, s1, s2, if_neg (nI_ge hk (by omega)), if_neg (nI_ge hk (by omega))]
    simp only [if_pos ik, pu_letn]
    rw [pu_rd _ (by omega) (by omega), z1, eo, a3, bind_sn, bind_sn, nI_clamp (by omega), g12 kk, if_pos rfl, gr 11 (by omega), z2, nI_1]
    rcases a6 with rfl | ⟨q, q1, rfl, q2, q3⟩
    · rw [if_pos rfl, ifn rfl]
      obtain ⟨c', hl', hc', g', i1, i2, i3, i4, i5, i6, i7, i8, i9, i10, i11⟩ := ih (kk + 1) f f' c (sw hl 3 24 (nI kk) (-1)) hc g1 V1 (by rw [gr 0 (by omega)]; exact ho) (by rw [lr 0 (by omega)]; exact s1) (by rw [gr 0 (by omega)]; exact s2) (by rw [lr 2 (by omega), gr 11 (by omega)]; exact s3) (fun j j1 j2 => by rw [gr 7 (by omega)]; exact s4 j (by omega) j2) (by
        intro i hi
        rw [l3 i, g12 i]
        by_cases e : i = kk
        · rw [if_pos e, if_pos e]; exact ⟨rfl, Or.inl rfl⟩
        · rw [if_neg e, if_neg e]; exact s5 i (by omega)) (by omega) (by omega) (by omega) (by omega)
      refine ⟨c', hl', hc', g', i1, i2, i3, i4, fun r r7 r8 r12 => by rw [i5 r r7 r8 r12, gr r r12], fun r r3 => by rw [i6 r r3, lr r r3], i7, ?_, ?_, i10, ?_⟩
      · intro h; apply i8; unfold NoH; rw [gr 8 (by omega)]; exact h
      · intro x hx hj; rw [i9 x hx (fun j j1 j2 => hj j (by omega) j2), gr 7 (by omega)]
      · intro e x hx; rw [i11 e x hx, gr 7 (by omega)]
    · have zq : ¬ nI q = -1 := pu_m1 (by omega)
      rw [rra 8 (by omega)] at q2 q3
      have hpf : ∀ c, c < n → c ≠ L kk → g1 7 c ≠ nI q := by
        intro x hx _ y
        rw [gr 7 (by omega)] at y
        rcases V.plc hx with u | ⟨r, hr', u, u2⟩
        · rw [u] at y; exact absurd y (pu_m1' (by omega))
        · rw [u] at y
          have := (nI_eq (by omega) (by omega)).mp y
          subst this
          rw [q2] at u2; exact absurd u2 (pu_m1' (by omega))
      obtain ⟨g3, b1, V3, b2, b3, b4⟩ := lay (N := N') V1 hb (v := nI q) (Or.inr ⟨q, q1, rfl, hpf⟩)
      rw [if_neg zq, if_pos zq, b1, bind_sn, nI_1]
      obtain ⟨c', hl', hc', g', i1, i2, i3, i4, i5, i6, i7, i8, i9, i10, i11⟩ := ih (kk + 1) f f' (c + 1) (sw hl 3 24 (nI kk) (nI q)) _ g3 V3 (by rw [b2 0 (by omega) (by omega), gr 0 (by omega)]; exact ho) (by rw [lr 0 (by omega)]; exact s1) (by rw [b2 0 (by omega) (by omega), gr 0 (by omega)]; exact s2) (by rw [lr 2 (by omega), b2 11 (by omega) (by omega), gr 11 (by omega)]; exact s3) (fun j j1 j2 => by
        rw [b3 (L j), if_neg (fun y => by have := hLi j kk j2 hk y; omega), gr 7 (by omega)]; exact s4 j (by omega) j2) (by
        intro i hi
        rw [l3 i, b2 12 (by omega) (by omega), g12 i]
        by_cases e : i = kk
        · rw [if_pos e, if_pos e]; exact ⟨rfl, Or.inr ⟨q, q1, rfl⟩⟩
        · rw [if_neg e, if_neg e]; exact s5 i (by omega)) (by omega) (by omega) (by omega) (by omega)
      refine ⟨c', hl', hc', g', i1, i2, i3, i4, fun r r7 r8 r12 => by rw [i5 r r7 r8 r12, b2 r r7 r8, gr r r12], fun r r3 => by rw [i6 r r3, lr r r3], i7, ?_, ?_, by omega, fun e => by omega⟩
      · intro h
        apply i8
        have h1' : NoH g1 H D (plN B R H D) := by unfold NoH; rw [gr 8 (by omega)]; exact h
        refine NoH_mv V1 h1' hb ?_ (Or.inr ⟨q, q1, rfl, ?_⟩) b4
        · unfold pinS; rw [gr 7 (by omega), gb]; simp
        · rw [gr 8 (by omega)]; exact q3
      · intro x hx hj
        rw [i9 x hx (fun j j1 j2 => hj j (by omega) j2), b3 x, if_neg (fun e => hj kk (Nat.le_refl _) hk e.symm), gr 7 (by omega)]
theorem greedy_ok (V : VS hh hr hc g B R H D K n o) (ho : g 0 11 = nI o) (hl : HH) (hN : 200 ≤ N) (hN' : 200 ≤ N') : ∃ (c : Nat) (hl' hc' g' : HH) (w : Nat) (L : Nat → Nat), F_Load_doGreedy N hl hh hr hc = some (nI c, hl', hc') ∧ F_Mo_goesGreedy N' g = some (nI c, g') ∧ c ≤ w ∧ w ≤ 24 ∧ (∀ j, j < w → L j < n ∧ g 7 (L j) = -1) ∧ (hl' 0 5 = nI w ∧ g' 0 27 = nI w) ∧ (∀ i, i < w → hl' 2 i = nI (L i) ∧ g' 11 i = nI (L i) ∧ hl' 3 i = g' 12 i ∧ okp (plN B R H D) (hl' 3 i)) ∧ VS hh hr hc' g' B R H D K n o ∧ (∀ r, r ≠ 0 → r ≠ 7 → r ≠ 8 → r ≠ 11 → r ≠ 12 → g' r = g r) ∧ (∀ i, i ≠ 27 → g' 0 i = g 0 i) ∧ (hl' 1 = hl 1 ∧ hl' 0 0 = hl 0 0) ∧ (NoH g H D (plN B R H D) → NoH g' H D (plN B R H D)) ∧ (∀ x, x < n → (∀ j, j < w → L j ≠ x) → g' 7 x = g 7 x) ∧ (c = 0 → ∀ x, x < n → g' 7 x = g 7 x) := by
  have hn := V.nn
  obtain ⟨hl1, g1, w, L, a1, a2, a3, a4, a5, a6, a7, V1⟩ := list_ok (N := N) (N' := N') V hl (by omega) (by omega)
  have hw : w ≤ 24 := by have := a3.2.2.2.2; omega
  obtain ⟨c, hl', hc', g', i1, i2, i3, i4, i5, i6, i7, i8, i9, i10, i11⟩ := greedy_L (N := N) (N' := N') hw (fun j hj => (a3.2.2.1 j hj).2.2.1) a3.inj hN hN' w 0 N N' 0 hl1 hc g1 V1 (by rw [a7 11 (by omega)]; exact ho) a3.1 a3.2.1 (fun i hi => ⟨(a3.2.2.1 i hi).1, (a3.2.2.1 i hi).2.1⟩) (fun j _ hj => (a3.2.2.1 j hj).2.2.2) (fun i hi => by omega) (by omega) (by omega) (by omega) (by omega)
  rw [show nI 0 = 0 from rfl] at i1 i2
  have e7 : g1 7 = g 7 := a6 7 (by omega) (by omega)
  refine ⟨c, hl', hc', g', w, L, ?_, ?_, i3, hw, ?_, ⟨?_, ?_⟩, ?_, i4, ?_, ?_, ⟨?_, ?_⟩, ?_, ?_, ?_⟩
  · unfold F_Load_doGreedy; rw [a1, bind_sn, i1, bind_sn]
  · unfold F_Mo_goesGreedy; rw [a2, bind_sn, i2, bind_sn]
  · intro j hj; obtain ⟨-, -, z3, z4⟩ := a3.2.2.1 j hj; rw [← e7]; exact ⟨z3, z4⟩
  · rw [i6 0 (by omega)]; exact a3.1
  · rw [i5 0 (by omega) (by omega) (by omega)]; exact a3.2.1
  · intro i hi
    obtain ⟨z1, z2, -, -⟩ := a3.2.2.1 i hi
    obtain ⟨z3, z4⟩ := i7 i hi
    rw [i6 2 (by omega), i5 11 (by omega) (by omega) (by omega)]
    exact ⟨z1, z2, z3, z4⟩
  · intro r r0 r7 r8 r11 r12; rw [i5 r r7 r8 r12, a6 r r0 r11]
  · intro i hi; rw [i5 0 (by omega) (by omega) (by omega), a7 i hi]
  · rw [i6 1 (by omega), a4 1 (by omega) (by omega)]
  · rw [i6 0 (by omega), a5 0 (by omega)]
  · intro h; apply i8; unfold NoH; rw [a6 8 (by omega) (by omega)]; exact h
  · intro x hx hj; rw [i9 x hx (fun j _ j2 => hj j j2), e7]
  · intro e x hx; rw [i11 e x hx, e7]
theorem back_L (hw : w ≤ 24) (hL : ∀ j, j < w → L j < n) (x : Int32) : ∀ (m i f f' : Nat) (hc g : HH), VS hh hr hc g B R H D K n o → hl 0 5 = nI w → g 0 27 = nI w → (∀ i, i < w → hl 2 i = nI (L i) ∧ g 11 i = nI (L i)) → i + m = w → m < f → m < f' → ∃ hc' g', L_Load_planGreedy_8 N f x (nI i) hl hc = some hc' ∧ L_Mo_takesBack_2 N' f' (nI i) g = some g' ∧ VS hh hr hc' g' B R H D K n o ∧ (∀ r, r ≠ 7 → r ≠ 8 → g' r = g r) ∧ (∀ y, y < n → g' 7 y = g 7 y ∨ g' 7 y = -1) ∧ (∀ j, i ≤ j → j < w → g' 7 (L j) = -1) ∧ (∀ y, y < n → (∀ j, j < w → L j ≠ y) → g' 7 y = g 7 y) := by
  intro m
  induction m with
  | zero =>
    intro i f f' hc g V s1 s2 s3 h1 h2 h3
    obtain ⟨f, rfl⟩ : ∃ z, f = z + 1 := ⟨f - 1, by omega⟩
    obtain ⟨f', rfl⟩ : ∃ z, f' = z + 1 := ⟨f' - 1, by omega⟩
    have : i = w := by omega
    subst this
    rw [L_Load_planGreedy_8, L_Mo_takesBack_2, s1, s2, if_pos (Int32.le_refl _), if_pos (Int32.le_refl _)]
    exact ⟨hc, g, rfl, rfl, V, fun _ _ _ => rfl, fun _ _ => Or.inl rfl, fun j j1 j2 => by omega, fun _ _ _ => rfl⟩
  | succ m ih =>
    intro i f f' hc g V s1 s2 s3 h1 h2 h3
    obtain ⟨f, rfl⟩ : ∃ z, f = z + 1 := ⟨f - 1, by omega⟩
    obtain ⟨f', rfl⟩ : ∃ z, f' = z + 1 := ⟨f' - 1, by omega⟩
    have hi : i < w := by omega
    obtain ⟨z1, z2⟩ := s3 i hi
    obtain ⟨g1, b1, V1, b2, b3, -⟩ := lay (N := N') V (hL i hi) (v := -1) (Or.inl rfl)
    rw [L_Load_planGreedy_8, L_Mo_takesBack_2, s1, s2, if_neg (nI_ge hi (by omega)), if_neg (nI_ge hi (by omega)), if_pos (pu_in (by omega) (by omega)), nI_clamp (by omega), z2, pu_rd _ (by omega) (by omega), z1, pu_letn, b1, bind_sn, nI_1]
    obtain ⟨hc', g', i1, i2, i3, i4, i5, i6, i7⟩ := ih (i + 1) f f' _ g1 V1 s1 (by rw [b2 0 (by omega) (by omega)]; exact s2) (by rw [b2 11 (by omega) (by omega)]; exact s3) (by omega) (by omega) (by omega)
    refine ⟨hc', g', i1, i2, i3, fun r r7 r8 => by rw [i4 r r7 r8, b2 r r7 r8], ?_, ?_, ?_⟩
    · intro y hy
      rcases i5 y hy with e | e
      · rw [e, b3 y]
        by_cases e2 : y = L i
        · rw [if_pos e2]; exact Or.inr rfl
        · rw [if_neg e2]; exact Or.inl rfl
      · exact Or.inr e
    · intro j j1 j2
      rcases Nat.lt_or_ge i j with y | y
      · exact i6 j y j2
      · have : j = i := by omega
        subst this
        rcases i5 (L j) (hL j j2) with e | e
        · rw [e, b3, if_pos rfl]
        · exact e
    · intro y hy hj
      rw [i7 y hy hj, b3 y, if_neg (fun e => hj i hi e.symm)]
theorem back_ok (V : VS hh hr hc g B R H D K n o) (hw : w ≤ 24) (hL : ∀ j, j < w → L j < n ∧ g2 7 (L j) = -1) (x : Int32) (s1 : hl 0 5 = nI w) (s2 : g 0 27 = nI w) (s3 : ∀ i, i < w → hl 2 i = nI (L i) ∧ g 11 i = nI (L i)) (h7 : ∀ y, y < n → (∀ j, j < w → L j ≠ y) → g 7 y = g2 7 y) (hN : 30 ≤ N) (hN' : 30 ≤ N') : ∃ hc' g', L_Load_planGreedy_8 N N x 0 hl hc = some hc' ∧ F_Mo_takesBack N' g = some g' ∧ VS hh hr hc' g' B R H D K n o ∧ (∀ r, r ≠ 7 → r ≠ 8 → g' r = g r) ∧ ∀ y, y < n → g' 7 y = g2 7 y := by
  obtain ⟨hc', g', i1, i2, i3, i4, i5, i6, i7⟩ := back_L (N := N) (N' := N') hw (fun j hj => (hL j hj).1) x w 0 N N' hc g V s1 s2 s3 (by omega) (by omega) (by omega)
  rw [show nI 0 = 0 from rfl] at i1 i2
  refine ⟨hc', g', i1, by unfold F_Mo_takesBack; rw [i2, bind_sn], i3, i4, ?_⟩
  intro y hy
  by_cases e : ∃ j, j < w ∧ L j = y
  · obtain ⟨j, j1, j2⟩ := e
    subst j2
    rw [i6 j (by omega) j1, (hL j j1).2]
  · have hj : ∀ j, j < w → L j ≠ y := fun j j1 j2 => e ⟨j, j1, j2⟩
    rw [i7 y hy hj, h7 y hy hj]
theorem sim_29 : Sim_29 Inv := by
  intro k g I
  rcases i_there I with ⟨B, R, H, D, K, n, o, J, h1, h2⟩ | ⟨J, h1, h2⟩
  case inr =>
    refine ⟨300, 300, -2, k, g, ?_, ?_, I⟩
    · unfold KO_29 F_K_greedy; rw [h1]; show some (-2, ku (ku k 2 (k 2)) 11 (k 11)) = _
      rw [ku_self, ku_self]
    · unfold MO_29 F_Mo_greedy; rw [h2]; rfl
  have V := J.2.2.1
  have ho := J.2.2.2.1
  have hn := V.nn
  obtain ⟨c, hl1, hc1, g1, w, L, a1, a2, a3, hw, hL, ⟨a5, a6⟩, a7, V1, a9, a10, a11, a12, a13, a14⟩ := greedy_ok (N := 300) (N' := 300) V ho (k 2) (by omega) (by omega)
  obtain ⟨hc2, g2, b1, b2, V2, b4, b5⟩ := back_ok (N := 300) (N' := 300) (hl := hl1) (g2 := g) V1 hw hL (nI c) a5 a6 (fun i hi => ⟨(a7 i hi).1, (a7 i hi).2.1⟩) a13 (by omega) (by omega)
  obtain ⟨hl3, g3, t1, t2, t3, t4, t5, t6⟩ := tell_12 (N := 300) (N' := 300) (P := plN B R H D) (L := L) hw (fun j hj => by have := (hL j hj).1; omega) a5 (show g2 0 27 = nI w by rw [b4 0 (by omega) (by omega)]; exact a6) (by rw [b4 11 (by omega) (by omega), b4 12 (by omega) (by omega)]; exact a7) (by omega) (by omega)
  have V3 : VS (k 9) (k 10) hc2 g3 B R H D K n o := V2.cg (t5 1 (by omega) (by omega) (by omega)) (t6 6 (by omega)) (t5 4 (by omega) (by omega) (by omega)) (t5 5 (by omega) (by omega) (by omega)) (t5 6 (by omega) (by omega) (by omega)) (t5 7 (by omega) (by omega) (by omega)) (t5 8 (by omega) (by omega) (by omega))
  refine ⟨300, 300, nI w - nI c, ku (ku k 2 hl3) 11 hc2, g3, ?_, ?_, Inv_l I.1 J V3 (fun c hc'' => by rw [t5 7 (by omega) (by omega) (by omega)]; exact b5 c hc'') t3 (fun r r0 r7 r8 r11 r12 r13 r14 r15 => by rw [t5 r r0 r14 r15, b4 r r7 r8, a9 r r0 r7 r8 r11 r12]) (fun i i24 i25 i26 i27 i30 i32 => by rw [t6 i i32, b4 0 (by omega) (by omega), a10 i i27])⟩
  · unfold KO_29 F_K_greedy F_Load_planGreedy
    rw [h1, if_neg pu_10, a1, bind_sn]
    dsimp only
    rw [b1, bind_sn, t1, bind_sn, bind_sn, t4 5 (by omega), a5]
    rfl
  · unfold MO_29 F_Mo_greedy
    rw [h2, if_pos pu_10, a2, bind_sn]
    dsimp only
    rw [b2, bind_sn, t2, bind_sn, t6 27 (by omega), b4 0 (by omega) (by omega), a6]
    rfl
theorem sim_32 : Sim_32 Inv := by
  intro k g I
  rcases i_there I with ⟨B, R, H, D, K, n, o, J, h1, h2⟩ | ⟨J, h1, h2⟩
  case inr =>
    refine ⟨3000, 3000, -2, k, g, ?_, ?_, I⟩
    · unfold KO_32 F_K_loads; rw [h1]; show some (-2, ku (ku (ku k 1 (k 1)) 2 (k 2)) 11 (k 11)) = _
      rw [ku_self, ku_self, ku_self]
    · unfold MO_32 F_Mo_loads; rw [h2]; rfl
  have V := J.2.2.1
  have ho := J.2.2.2.1
  have hn := V.nn
  obtain ⟨c, hl1, hc1, g1, w, L, a1, a2, a3, hw, hL, ⟨a5, a6⟩, a7, V1, a9, a10, a11, a12, a13, a14⟩ := greedy_ok (N := 3000) (N' := 3000) V ho (k 2) (by omega) (by omega)
  -- a state whose words differ from the first ones in a search's alone
  have fin : ∀ (hy' gx : HH), VS (k 9) (k 10) hc1 gx B R H D K n o → HiR hy' gx H D (plN B R H D) n → NoH gx H D (plN B R H D) → (∀ r, r ≠ 0 → r ≠ 7 → r ≠ 8 → r ≠ 10 → r ≠ 11 → r ≠ 12 → gx r = g r) → (∀ i, i ≠ 22 → i ≠ 27 → gx 0 i = g 0 i) → Inv (ku (ku (ku k 1 hy') 2 hl1) 11 hc1) gx := by
    intro hy' gx Vx Hx Nx rx zx
    refine ⟨?_, Or.inr ⟨B, R, H, D, K, n, o, ?_⟩⟩
    · refine InvB_c I.1 ?_ ?_ ?_ (zx 14 (by omega) (by omega)) (zx 20 (by omega) (by omega)) (zx 21 (by omega) (by omega)) (zx 46 (by omega) (by omega)) (rx 9 (by omega) (by omega) (by omega) (by omega) (by omega) (by omega)) (rx 22 (by omega) (by omega) (by omega) (by omega) (by omega) (by omega))
      all_goals simp only [pu_ku]; rfl
    · refine ⟨?_, ?_, ?_, ?_, Nx, ?_, ?_, ?_⟩
      · simp only [pu_ku]; exact J.1
      · rw [zx 1 (by omega) (by omega)]; exact J.2.1
      · simp only [pu_ku]; exact Vx
      · rw [zx 11 (by omega) (by omega)]; exact ho
      · simp only [pu_ku]; exact Hx
      · have T := J.2.2.2.2.2.2.1
        have hk2 : ku (ku (ku k 1 hy') 2 hl1) 11 hc1 2 = hl1 := by simp only [pu_ku]; rfl
        rw [hk2]
        unfold ToR at *
        rw [a11.1, a11.2, zx 32 (by omega) (by omega), rx 14 (by omega) (by omega) (by omega) (by omega) (by omega) (by omega), rx 15 (by omega) (by omega) (by omega) (by omega) (by omega) (by omega)]
        exact T
      · simp only [pu_ku]
        exact ShR_c J.2.2.2.2.2.2.2 (zx 37 (by omega) (by omega)) (rx 16 (by omega) (by omega) (by omega) (by omega) (by omega) (by omega))
  by_cases c0 : c = 0
  · subst c0
    obtain ⟨hy1, gz, b1, -, b3, -, -, -⟩ := act_ok (N := 3000) (N' := 3000) V ho J.2.2.2.2.1 J.2.2.2.2.2.1 (by omega) (by omega)
    refine ⟨3000, 3000, 0, ku (ku (ku k 1 hy1) 2 hl1) 11 hc1, g1, ?_, ?_, fin hy1 g1 V1 ?_ (a12 J.2.2.2.2.1) (fun r r0 r7 r8 _ r11 r12 => a9 r r0 r7 r8 r11 r12) (fun i _ i27 => a10 i i27)⟩
    · unfold KO_32 F_K_loads
      rw [h1, if_pos pu_10, b1, bind_sn, a1, bind_sn]
      rfl
    · unfold MO_32 F_Mo_loads
      rw [h2, if_pos pu_10, a2, bind_sn]
      rfl
    · exact HiR_c hn b3 (Nat.le_refl _) (a10 22 (by omega)) (a9 10 (by omega) (by omega) (by omega) (by omega) (by omega)) (a9 1 (by omega) (by omega) (by omega) (by omega) (by omega)) (fun b _ => by rw [a9 4 (by omega) (by omega) (by omega) (by omega) (by omega), a9 5 (by omega) (by omega) (by omega) (by omega) (by omega), a9 6 (by omega) (by omega) (by omega) (by omega) (by omega)]; exact ⟨rfl, rfl, rfl⟩)
  · obtain ⟨hc2, g2, b1, b2, V2, b4, b5⟩ := back_ok (N := 3000) (N' := 3000) (hl := hl1) (g2 := g) V1 hw hL (nI c) a5 a6 (fun i hi => ⟨(a7 i hi).1, (a7 i hi).2.1⟩) a13 (by omega) (by omega)
    have r2 : ∀ r, r ≠ 0 → r ≠ 7 → r ≠ 8 → r ≠ 11 → r ≠ 12 → g2 r = g r := fun r r0 r7 r8 r11 r12 => by rw [b4 r r7 r8, a9 r r0 r7 r8 r11 r12]
    have z2 : ∀ i, i ≠ 27 → g2 0 i = g 0 i := fun i hi => by rw [b4 0 (by omega) (by omega), a10 i hi]
    have i0 : ∀ b, b < n → g2 4 b = g 4 b ∧ g2 5 b = g 5 b ∧ g2 6 b = g 6 b := fun b _ => by rw [r2 4 (by omega) (by omega) (by omega) (by omega) (by omega), r2 5 (by omega) (by omega) (by omega) (by omega) (by omega), r2 6 (by omega) (by omega) (by omega) (by omega) (by omega)]; exact ⟨rfl, rfl, rfl⟩
    have V2' : VS (k 9) (k 10) (k 11) g2 B R H D K n o := V.tr V2 i0 b5
    have N2 := NoH_7 V V2 b5 J.2.2.2.2.1
    have H2 : HiR (k 1) g2 H D (plN B R H D) n := HiR_c hn J.2.2.2.2.2.1 (Nat.le_refl _) (z2 22 (by omega)) (r2 10 (by omega) (by omega) (by omega) (by omega) (by omega)) (r2 1 (by omega) (by omega) (by omega) (by omega) (by omega)) i0
    obtain ⟨hy1, g3, d1, d2, d3, d4, d5, d6⟩ := act_ok (N := 3000) (N' := 3000) V2' (by rw [z2 11 (by omega)]; exact ho) N2 H2 (by omega) (by omega)
    have V3 : VS (k 9) (k 10) (k 11) g3 B R H D K n o := V2'.cg (d5 1 (by omega) (by omega)) (d6 6 (by omega)) (d5 4 (by omega) (by omega)) (d5 5 (by omega) (by omega)) (d5 6 (by omega) (by omega)) (d5 7 (by omega) (by omega)) (d5 8 (by omega) (by omega))
    have N3 : NoH g3 H D (plN B R H D) := by unfold NoH; rw [d5 8 (by omega) (by omega)]; exact N2
    obtain ⟨c', hl4, hc4, g4, w4, L4, e1, e2, -, -, -, -, -, V4, e9, e10, -, e12, -, -⟩ := greedy_ok (N := 3000) (N' := 3000) V3 (by rw [d6 11 (by omega), z2 11 (by omega)]; exact ho) (k 2) (by omega) (by omega)
    rw [a1] at e1
    injection e1 with e1
    injection e1 with e1a e1b
    injection e1b with e1b e1c
    subst e1b e1c
    rw [← e1a] at e2
    have cz : ¬ nI c = 0 := nI_ne0 (by omega) (by omega)
    have cl : ¬ nI c ≤ 0 := nI_nle (by omega) (by omega)
    refine ⟨3000, 3000, nI c, ku (ku (ku k 1 (F_Hist_keep hy1)) 2 hl1) 11 hc1, g4, ?_, ?_, fin _ g4 V4 ?_ (e12 N3) ?_ ?_⟩
    · unfold KO_32 F_K_loads
      rw [h1, if_pos pu_10, d1, bind_sn, a1, bind_sn]
      dsimp only
      rw [if_neg cl]
      rfl
    · unfold MO_32 F_Mo_loads
      rw [h2, if_pos pu_10, a2, bind_sn]
      dsimp only
      rw [if_pos cz, b2, bind_sn, d2, bind_sn, e2, bind_sn]
      rfl
    · exact HiR_c hn d4 (Nat.le_refl _) (e10 22 (by omega)) (e9 10 (by omega) (by omega) (by omega) (by omega) (by omega)) (e9 1 (by omega) (by omega) (by omega) (by omega) (by omega)) (fun b _ => by rw [e9 4 (by omega) (by omega) (by omega) (by omega) (by omega), e9 5 (by omega) (by omega) (by omega) (by omega) (by omega), e9 6 (by omega) (by omega) (by omega) (by omega) (by omega)]; exact ⟨rfl, rfl, rfl⟩)
    · intro r r0 r7 r8 r10 r11 r12; rw [e9 r r0 r7 r8 r11 r12, d5 r r0 r10, r2 r r0 r7 r8 r11 r12]
    · intro i i22 i27; rw [e10 i i27, d6 i i22, z2 i i27]
end GREEDY
