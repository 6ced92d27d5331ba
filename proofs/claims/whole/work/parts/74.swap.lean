/-! ===== pure: swaps, steady ===== -/
section SWAP2
variable {k k' : KS} {g g' g2 : HH} {hy hv hh hr hc hc2 hp : HH} {B R H D K n o N N' t : Nat}
theorem InvA_g (J : InvA k g B R H D K n o) {hy' hc' : HH} (V : VS (k 9) (k 10) hc' g' B R H D K n o) (hi : HiR hy' g' H D (plN B R H D) n) (h0 : NoH g' H D (plN B R H D)) (e1 : g' 0 1 = g 0 1) (e11 : g' 0 11 = g 0 11) (e32 : g' 0 32 = g 0 32) (e37 : g' 0 37 = g 0 37) (r14 : g' 14 = g 14) (r15 : g' 15 = g 15) (r16 : g' 16 = g 16) : InvA (ku (ku k 1 hy') 11 hc') g' B R H D K n o := by
  refine ⟨?_, ?_, ?_, ?_, h0, ?_, ?_, ?_⟩
  · simp only [pu_ku]; exact J.1
  · rw [e1]; exact J.2.1
  · simp only [pu_ku]; exact V
  · rw [e11]; exact J.2.2.2.1
  · simp only [pu_ku]; exact hi
  · simp only [pu_ku]; exact ToR_c J.2.2.2.2.2.2.1 e32 r14 r15
  · simp only [pu_ku]; exact ShR_c J.2.2.2.2.2.2.2 e37 r16
theorem puts_as (V : VS hh hr hc g B R H D K n o) {a b p q : Nat} (ha : a < n) (hb : b < n) (hab : a ≠ b) (hpq : p ≠ q) (hp' : p < plN B R H D) (hq : q < plN B R H D) (hf : ∀ c, c < n → c ≠ a → c ≠ b → g 7 c ≠ nI p ∧ g 7 c ≠ nI q) : ∃ hc' g', F_Mo_putsAs N (nI a) (nI p) (nI b) (nI q) g = some g' ∧ VS hh hr hc' g' B R H D K n o ∧ (∀ r, r ≠ 7 → r ≠ 8 → g' r = g r) ∧ ∀ c, c < n → g' 7 c = if c = a then nI p else if c = b then nI q else g 7 c := by
  have hP := V.pp
  have m1 : ∀ x : Nat, x < 144 → (-1 : Int32) ≠ nI x := fun x hx => pu_m1' (by omega)
  obtain ⟨g1, l1, V1, r1, s1, -⟩ := lay (N := N) V ha (v := -1) (Or.inl rfl)
  obtain ⟨g2, l2, V2, r2, s2, -⟩ := lay (N := N) V1 hb (v := -1) (Or.inl rfl)
  obtain ⟨g3, l3, V3, r3, s3, -⟩ := lay (N := N) V2 ha (v := nI p) (Or.inr ⟨p, hp', rfl, by
    intro c hc' hca z
    rw [s2 c, s1 c] at z
    by_cases e : c = b
    · rw [if_pos e] at z; exact m1 p (by omega) z
    · rw [if_neg e, if_neg hca] at z; exact (hf c hc' hca e).1 z⟩)
  obtain ⟨g4, l4, V4, r4, s4, -⟩ := lay (N := N) V3 hb (v := nI q) (Or.inr ⟨q, hq, rfl, by
    intro c hc' hcb z
    rw [s3 c, s2 c, s1 c] at z
    by_cases e : c = a
    · rw [if_pos e] at z; exact hpq ((nI_eq (by omega) (by omega)).mp z)
    · rw [if_neg e, if_neg hcb, if_neg e] at z; exact (hf c hc' e hcb).2 z⟩)
  refine ⟨_, g4, ?_, V4, fun r a1 a2 => by rw [r4 r a1 a2, r3 r a1 a2, r2 r a1 a2, r1 r a1 a2], ?_⟩
  · unfold F_Mo_putsAs
    rw [l1, bind_sn, l2, bind_sn, l3, bind_sn, l4, bind_sn]
  · intro c _
    rw [s4 c, s3 c, s2 c, s1 c]
    by_cases e : c = b
    · have : c ≠ a := fun z => hab (z.symm.trans e)
      rw [if_pos e, if_neg this, if_pos e]
    · rw [if_neg e, if_neg e, if_neg e]
      by_cases e2 : c = a
      · rw [if_pos e2, if_pos e2]
      · rw [if_neg e2, if_neg e2, if_neg e2]
theorem K_lift (V : VS hh hr hc g B R H D K n o) {b : Nat} (hb : b < n) : F_Ves_canLift (nI b) hh hc = bi (decide (g 7 b ≠ -1) && !pinS g H D (plN B R H D) b) := by
  unfold F_Ves_canLift
  rw [V.lies hb, K_pin V hb]
  by_cases c : g 7 b = -1
  · rw [if_pos c, if_pos rfl]; simp [c, bi]
  · rw [if_neg c, if_neg pu_10]
    cases pinS g H D (plN B R H D) b
    · simp [c, bi]
    · simp [bi]
theorem Mo_free (V : VS hh hr hc g B R H D K n o) {b : Nat} (hb : b < n) : F_Mo_isFree N (nI b) g = some (bi (decide (g 7 b ≠ -1) && !pinS g H D (plN B R H D) b)) := by
  have hn := V.nn
  unfold F_Mo_isFree
  rw [if_pos (pu_in (by omega) (by omega)), nI_clamp (by omega)]
  by_cases c : g 7 b = -1
  · rw [if_pos c]; simp [c, bi]
  · rw [if_neg c, Mo_lift V hb c, bind_sn]
    cases pinS g H D (plN B R H D) b
    · simp [c, bi]
    · simp [bi]
theorem sim_49 : Sim_49 Inv := by
  intro a1 a2 k g I
  have same : ∀ v, F_K_swaps 3000 a1 a2 (k 0) (k 1) (k 9) (k 10) (k 11) = some (v, k 1, k 11) → F_Mo_swaps 3000 a1 a2 g = some (v, g) → ∃ (N N' : Nat) (v : Int32) (k' : KS) (g' : HH), KO_49 N a1 a2 k = some (v, k') ∧ MO_49 N' a1 a2 g = some (v, g') ∧ Inv k' g' := by
    intro v h1 h2
    refine ⟨3000, 3000, v, k, g, ?_, ?_, I⟩
    · unfold KO_49; rw [h1]; show some (v, ku (ku k 1 (k 1)) 11 (k 11)) = _
      rw [ku_self, ku_self]
    · unfold MO_49; rw [h2]; rfl
  rcases i_box I a1 with ⟨B, R, H, D, K, n, o, a, J, h1, h2, h3, h4⟩ | ⟨h3, h4⟩
  case inr =>
    refine same (-2) ?_ ?_
    · unfold F_K_swaps; rw [h3]; rfl
    · unfold F_Mo_swaps; rw [h4]; rfl
  rcases a_box J a2 with ⟨b, b1, b2, b3, b4⟩ | ⟨b3, b4⟩
  case inr =>
    refine same (-2) ?_ ?_
    · unfold F_K_swaps; rw [h3, if_neg pu_10, b3]; rfl
    · unfold F_Mo_swaps; rw [h4, if_neg pu_10, b4]; rfl
  subst h2 b2
  have V := J.2.2.1
  have ho := J.2.2.2.1
  have hn := V.nn
  have hP := V.pp
  by_cases hab : a = b
  · have z : nI a = nI b := congrArg nI hab
    refine same (-2) ?_ ?_
    · unfold F_K_swaps; rw [h3, if_neg pu_10, b3, if_neg pu_10, ifn z]
    · unfold F_Mo_swaps; rw [h4, if_neg pu_10, b4, if_neg pu_10, ifn z]
  have nab : ¬ nI a = nI b := fun z => hab ((nI_eq (by omega) (by omega)).mp z)
  have eK : F_K_swaps 3000 (nI a) (nI b) (k 0) (k 1) (k 9) (k 10) (k 11) = (if (decide (g 7 a ≠ -1) && !pinS g H D (plN B R H D) a) = false then some (-5, k 1, k 11) else if (decide (g 7 b ≠ -1) && !pinS g H D (plN B R H D) b) = false then some (-5, k 1, k 11) else Option.bind (F_Hist_mark 3000 (k 1) (k 9) (k 11)) fun v6 => Option.bind (F_Ves_exchange 3000 (nI a) (nI b) (k 9) (k 10) (k 11)) fun v8 => (if ¬ v8.1 = 0 then some (v8.1, v6, v8.2) else some (v8.1, F_Hist_keep v6, v8.2))) := by
    unfold F_K_swaps
    rw [h3, if_neg pu_10, b3, if_neg pu_10, if_pos nab, K_lift V h1, K_lift V b1]
    simp only [pu_letn]
    cases (decide (g 7 a ≠ -1) && !pinS g H D (plN B R H D) a)
    · rfl
    · cases (decide (g 7 b ≠ -1) && !pinS g H D (plN B R H D) b)
      · rfl
      · rfl
  have eM : F_Mo_swaps 3000 (nI a) (nI b) g = (if (decide (g 7 a ≠ -1) && !pinS g H D (plN B R H D) a) = false then some (-5, g) else if (decide (g 7 b ≠ -1) && !pinS g H D (plN B R H D) b) = false then some (-5, g) else Option.bind (F_Mo_changesOver 3000 (nI a) (nI b) g) fun v10 => (if v10.1 = 0 then (Option.bind (F_Mo_putsAs 3000 (nI a) (v10.2 7 b) (nI b) (v10.2 7 a) v10.2) fun v15 => (Option.bind (F_Mo_keeps 3000 v15) fun v17 => (Option.bind (F_Mo_putsAs 3000 (nI a) (v10.2 7 a) (nI b) (v10.2 7 b) v17) fun v19 => some (0, v19)))) else some (v10.1, v10.2))) := by
    have ia : sv_in (nI a) 24 := pu_in (by omega) (by omega)
    have ib : sv_in (nI b) 24 := pu_in (by omega) (by omega)
    unfold F_Mo_swaps
    simp only [if_pos ia, if_pos ib]
    rw [h4, if_neg pu_10, b4, if_neg pu_10, if_pos nab, Mo_free V h1, Mo_free V b1, nI_clamp (by omega), nI_clamp (by omega), bind_sn, bind_sn]
    cases (decide (g 7 a ≠ -1) && !pinS g H D (plN B R H D) a)
    · rfl
    · cases (decide (g 7 b ≠ -1) && !pinS g H D (plN B R H D) b)
      · rfl
      · rfl
  by_cases ca : (decide (g 7 a ≠ -1) && !pinS g H D (plN B R H D) a) = false
  · rw [if_pos ca] at eK eM; exact same (-5) eK eM
  by_cases cb : (decide (g 7 b ≠ -1) && !pinS g H D (plN B R H D) b) = false
  · rw [if_neg ca, if_pos cb] at eK eM; exact same (-5) eK eM
  rw [if_neg ca, if_neg cb] at eK eM
  rw [Bool.not_eq_false, Bool.and_eq_true, decide_eq_true_iff, Bool.not_eq_true'] at ca cb
  obtain ⟨la, pa⟩ := ca
  obtain ⟨lb, pb⟩ := cb
  obtain ⟨p, hp', p0⟩ : ∃ p, p < plN B R H D ∧ g 7 a = nI p := by
    rcases V.plc h1 with z | ⟨p, z1, z2, -⟩
    · exact absurd z la
    · exact ⟨p, z1, z2⟩
  obtain ⟨q, hq, q0⟩ : ∃ q, q < plN B R H D ∧ g 7 b = nI q := by
    rcases V.plc b1 with z | ⟨p, z1, z2, -⟩
    · exact absurd z lb
    · exact ⟨p, z1, z2⟩
  obtain ⟨hpq, up, uq⟩ := V.two h1 b1 hab p0 q0 hp' hq
  obtain ⟨v, hc', g', x1, x2, x3, V', x5, x6, x7, x8⟩ := exch (N := 3000) (N' := 3000) V ho h1 b1 hab p0 q0 hp' hq (by omega) (by omega)
  have v0 : nI v = 0 ↔ v = 0 := nI_eq (a := v) (b := 0) (by omega) (by omega)
  rw [x1] at eK
  rw [x2, bind_sn] at eM
  have i0 : ∀ gx : HH, (∀ r, r ≠ 7 → r ≠ 8 → gx r = g r) → ∀ b, b < n → gx 4 b = g 4 b ∧ gx 5 b = g 5 b ∧ gx 6 b = g 6 b := fun gx h b _ => by rw [h 4 (by omega) (by omega), h 5 (by omega) (by omega), h 6 (by omega) (by omega)]; exact ⟨rfl, rfl, rfl⟩
  by_cases cv : v = 0
  case neg =>
    have z : ¬ nI v = 0 := fun y => cv (v0.mp y)
    obtain ⟨hy1, g1, a1', a2', a3', a4', a5', a6'⟩ := act_ok (N := 3000) (N' := 3000) V ho J.2.2.2.2.1 J.2.2.2.2.2.1 (by omega) (by omega)
    rw [a1', bind_sn, bind_sn] at eK
    dsimp only at eK eM
    rw [if_pos z] at eK
    rw [if_neg z] at eM
    refine ⟨3000, 3000, nI v, ku (ku k 1 hy1) 11 hc', g', ?_, ?_, ?_, Or.inr ⟨B, R, H, D, K, n, o, ?_⟩⟩
    · unfold KO_49; rw [eK]; rfl
    · unfold MO_49; rw [eM]; rfl
    · refine InvB_c I.1 ?_ ?_ ?_ (by rw [x5 0 (by omega) (by omega)]) (by rw [x5 0 (by omega) (by omega)]) (by rw [x5 0 (by omega) (by omega)]) (by rw [x5 0 (by omega) (by omega)]) (x5 9 (by omega) (by omega)) (x5 22 (by omega) (by omega))
      all_goals simp only [pu_ku]; rfl
    · exact InvA_g J V' (HiR_c hn a3' (Nat.le_refl _) (by rw [x5 0 (by omega) (by omega)]) (x5 10 (by omega) (by omega)) (x5 1 (by omega) (by omega)) (i0 g' x5)) (NoH_7 V V' (x7 cv) J.2.2.2.2.1) (by rw [x5 0 (by omega) (by omega)]) (by rw [x5 0 (by omega) (by omega)]) (by rw [x5 0 (by omega) (by omega)]) (by rw [x5 0 (by omega) (by omega)]) (x5 14 (by omega) (by omega)) (x5 15 (by omega) (by omega)) (x5 16 (by omega) (by omega))
  have X6 := x6 cv
  have X8 := x8 cv J.2.2.2.2.1 pa pb
  subst cv
  have ea : g' 7 a = nI q := by rw [X6 a h1, if_pos rfl]
  have eb : g' 7 b = nI p := by rw [X6 b b1, if_neg (fun z => hab z.symm), if_pos rfl]
  dsimp only at eM
  rw [show nI 0 = 0 from rfl, if_pos rfl, ea, eb] at eM
  -- back, kept, and there again
  have others : ∀ c, c < n → c ≠ a → c ≠ b → g' 7 c ≠ nI p ∧ g' 7 c ≠ nI q := by
    intro c hc'' ca cb
    rw [X6 c hc'', if_neg ca, if_neg cb]
    exact ⟨up c hc'' ca, uq c hc'' cb⟩
  obtain ⟨hx1, g5, y1, V5, y3, y4⟩ := puts_as (N := 3000) V' h1 b1 hab hpq hp' hq others
  have y5 : ∀ c, c < n → g5 7 c = g 7 c := by
    intro c hc''
    rw [y4 c hc'', X6 c hc'']
    by_cases e : c = a
    · rw [if_pos e, e, p0]
    · rw [if_neg e, if_neg e]
      by_cases e2 : c = b
      · rw [if_pos e2, e2, q0]
      · rw [if_neg e2, if_neg e2]
  have y6 : ∀ r, r ≠ 7 → r ≠ 8 → g5 r = g r := fun r c1 c2 => by rw [y3 r c1 c2, x5 r c1 c2]
  have V5' : VS (k 9) (k 10) (k 11) g5 B R H D K n o := V.tr V5 (i0 g5 y6) y5
  have N5 : NoH g5 H D (plN B R H D) := NoH_7 V V5 y5 J.2.2.2.2.1
  have H5 : HiR (k 1) g5 H D (plN B R H D) n := HiR_c hn J.2.2.2.2.2.1 (Nat.le_refl _) (by rw [y6 0 (by omega) (by omega)]) (y6 10 (by omega) (by omega)) (y6 1 (by omega) (by omega)) (i0 g5 y6)
  obtain ⟨hy1, g6, a1', a2', a3', a4', a5', a6'⟩ := act_ok (N := 3000) (N' := 3000) V5' (by rw [y6 0 (by omega) (by omega)]; exact ho) N5 H5 (by omega) (by omega)
  have V6 : VS (k 9) (k 10) (k 11) g6 B R H D K n o := V5'.cg (a5' 1 (by omega) (by omega)) (a6' 6 (by omega)) (a5' 4 (by omega) (by omega)) (a5' 5 (by omega) (by omega)) (a5' 6 (by omega) (by omega)) (a5' 7 (by omega) (by omega)) (a5' 8 (by omega) (by omega))
  have others2 : ∀ c, c < n → c ≠ a → c ≠ b → g6 7 c ≠ nI q ∧ g6 7 c ≠ nI p := by
    intro c hc'' ca cb
    rw [a5' 7 (by omega) (by omega), y5 c hc'']
    exact ⟨uq c hc'' cb, up c hc'' ca⟩
  obtain ⟨hx2, g7, z1, V7, z3, z4⟩ := puts_as (N := 3000) V6 h1 b1 hab (fun z => hpq z.symm) hq hp' others2
  rw [y1, bind_sn, a2', bind_sn, z1, bind_sn] at eM
  rw [a1', bind_sn, bind_sn] at eK
  dsimp only at eK
  rw [show nI 0 = 0 from rfl, ife0] at eK
  have z5 : ∀ c, c < n → g7 7 c = g' 7 c := by
    intro c hc''
    rw [z4 c hc'', X6 c hc'', a5' 7 (by omega) (by omega), y5 c hc'']
  have g70 : ∀ i, i ≠ 22 → g7 0 i = g 0 i := fun i hi => by rw [z3 0 (by omega) (by omega), a6' i hi, y6 0 (by omega) (by omega)]
  have g7r : ∀ r, r ≠ 0 → r ≠ 7 → r ≠ 8 → r ≠ 10 → g7 r = g r := fun r c0 c7 c8 c10 => by rw [z3 r c7 c8, a5' r c0 c10, y6 r c7 c8]
  have V7' : VS (k 9) (k 10) hc' g7 B R H D K n o := by
    refine V'.tr V7 ?_ z5
    intro c _
    rw [g7r 4 (by omega) (by omega) (by omega) (by omega), g7r 5 (by omega) (by omega) (by omega) (by omega), g7r 6 (by omega) (by omega) (by omega) (by omega), x5 4 (by omega) (by omega), x5 5 (by omega) (by omega), x5 6 (by omega) (by omega)]
    exact ⟨rfl, rfl, rfl⟩
  refine ⟨3000, 3000, 0, ku (ku k 1 (F_Hist_keep hy1)) 11 hc', g7, ?_, ?_, ?_, Or.inr ⟨B, R, H, D, K, n, o, ?_⟩⟩
  · unfold KO_49; rw [eK]; rfl
  · unfold MO_49; rw [eM]; rfl
  · refine InvB_c I.1 ?_ ?_ ?_ (g70 _ (by omega)) (g70 _ (by omega)) (g70 _ (by omega)) (g70 _ (by omega)) (g7r 9 (by omega) (by omega) (by omega) (by omega)) (g7r 22 (by omega) (by omega) (by omega) (by omega))
    all_goals simp only [pu_ku]; rfl
  · refine InvA_g J V7' (HiR_c hn a4' (Nat.le_refl _) ?_ ?_ ?_ ?_) (NoH_7 V' V7 z5 X8) (g70 _ (by omega)) (g70 _ (by omega)) (g70 _ (by omega)) (g70 _ (by omega)) (g7r 14 (by omega) (by omega) (by omega) (by omega)) (g7r 15 (by omega) (by omega) (by omega) (by omega)) (g7r 16 (by omega) (by omega) (by omega) (by omega))
    · rw [z3 0 (by omega) (by omega)]
    · rw [z3 10 (by omega) (by omega)]
    · rw [z3 1 (by omega) (by omega)]
    · intro c _; rw [z3 4 (by omega) (by omega), z3 5 (by omega) (by omega), z3 6 (by omega) (by omega)]; exact ⟨rfl, rfl, rfl⟩
/-- what she leans depends on where boxes lie -/
theorem leanS_c (x : Int32) : ∀ (m j : Nat) (c : Int64), (∀ i, j ≤ i → i < j + m → g2 7 i = g 7 i ∧ g2 5 i = g 5 i) → leanS g2 B R H D x j c m = leanS g B R H D x j c m := by
  intro m
  induction m with
  | zero => intro j c _; rfl
  | succ m ih =>
    intro j c h
    unfold leanS
    obtain ⟨z1, z2⟩ := h j (by omega) (by omega)
    rw [z1, z2]
    exact ih (j + 1) _ (fun i h1 h2 => h i (by omega) (by omega))
theorem Mo_lean0 (V : VS hh hr hc g B R H D K n o) (h1 : g 0 1 = 1) (hN : 30 ≤ N) : F_Mo_lean N 0 g = some (leanS g B R H D 0 0 0 n) := by
  obtain ⟨-, e⟩ := lean_eq (N := 30) (N' := N) V 0 (by omega) hN
  unfold F_Mo_lean
  have w : F_Mo_in (Int32.toInt64 0) 0 3 = 1 := by
    have : F_Mo_in (Int32.toInt64 0) 0 3 = F_K_within 0 0 3 := pu_inw 0 0 3
    rw [this]; decide
  rw [h1, if_neg pu_10, w, if_pos pu_10, e]
theorem stead_I {a : Nat} (hN : 30 ≤ N) (hN' : 30 ≤ N') : ∀ (m j f f' : Nat) (hc g : HH) (le : Int64) (bs : Int32), VS hh hr hc g B R H D K n o → g 0 11 = nI o → g 0 1 = 1 → a < n → a < j → j + m = n → m < f → m < f' → ∃ le' bs' hc' g', L_Surv_steadiestTwo_34 N f le bs (nI a) (nI j) hh hr hc = some (le', bs', hc') ∧ L_Mo_steady_39 N' f' le bs (nI a) (nI j) g = some (le', bs', g') ∧ VS hh hr hc' g' B R H D K n o ∧ (∀ r, r ≠ 7 → r ≠ 8 → g' r = g r) ∧ ∀ c, c < n → g' 7 c = g 7 c := by
  intro m
  induction m with
  | zero =>
    intro j f f' hc g le bs V ho h1 h2 h3 h4 h5 h6
    obtain ⟨f, rfl⟩ : ∃ z, f = z + 1 := ⟨f - 1, by omega⟩
    obtain ⟨f', rfl⟩ : ∃ z, f' = z + 1 := ⟨f' - 1, by omega⟩
    have : j = n := by omega
    subst this
    rw [L_Surv_steadiestTwo_34, L_Mo_steady_39, V.n6, V.h0, if_pos (Int32.le_refl _), if_pos (Int32.le_refl _)]
    exact ⟨le, bs, hc, g, rfl, rfl, V, fun _ _ _ => rfl, fun _ _ => rfl⟩
  | succ m ih =>
    intro j f f' hc g le bs V ho h1 h2 h3 h4 h5 h6
    obtain ⟨f, rfl⟩ : ∃ z, f = z + 1 := ⟨f - 1, by omega⟩
    obtain ⟨f', rfl⟩ : ∃ z, f' = z + 1 := ⟨f' - 1, by omega⟩
    have hj : j < n := by omega
    have hn := V.nn
    have hP := V.pp
    have ia : sv_in (nI a) 24 := pu_in (by omega) (by omega)
    have ij : sv_in (nI j) 24 := pu_in (by omega) (by omega)
    have cc : ∀ x : Int64, (0 : Int32) ≤ lg_cmp x x := by intro x; unfold lg_cmp; simp
    obtain ⟨-, -, -, -, -, -, -, -, -, -, -, -, -, -, ka⟩ := V.box h2
    obtain ⟨-, -, -, -, -, -, -, -, -, -, -, -, -, -, kj⟩ := V.box hj
    rw [L_Surv_steadiestTwo_34, L_Mo_steady_39, V.n6, V.h0, if_neg (nI_ge hj (by omega)), if_neg (nI_ge hj (by omega)), nI_1, Mo_free V h2, Mo_free V hj, bind_sn, bind_sn]
    unfold F_Surv_leanExchanged
    rw [K_lift V h2, K_lift V hj]
    by_cases ca : (decide (g 7 a ≠ -1) && !pinS g H D (plN B R H D) a) = false
    · rw [ca, show bi false = 0 from rfl, if_pos rfl, if_pos rfl, bind_sn]
      dsimp only
      rw [if_pos (cc le)]
      exact ih (j + 1) f f' hc g le bs V ho h1 h2 (by omega) (by omega) (by omega) (by omega)
    rw [Bool.not_eq_false] at ca
    rw [ca, show bi true = 1 from rfl, if_neg pu_10, if_neg pu_10]
    by_cases cb : (decide (g 7 j ≠ -1) && !pinS g H D (plN B R H D) j) = false
    · rw [cb, show bi false = 0 from rfl, ife0, ife0, bind_sn]
      dsimp only
      rw [if_pos (cc le)]
      exact ih (j + 1) f f' hc g le bs V ho h1 h2 (by omega) (by omega) (by omega) (by omega)
    rw [Bool.not_eq_false] at cb
    rw [cb, show bi true = 1 from rfl, if_pos pu_10, if_pos pu_10]
    simp only [if_pos ia, if_pos ij]
    rw [Bool.and_eq_true, decide_eq_true_iff] at ca cb
    obtain ⟨p, hp', p0⟩ : ∃ p, p < plN B R H D ∧ g 7 a = nI p := by
      rcases V.plc h2 with z | ⟨p, z1, z2, -⟩
      · exact absurd z ca.1
      · exact ⟨p, z1, z2⟩
    obtain ⟨q, hq, q0⟩ : ∃ q, q < plN B R H D ∧ g 7 j = nI q := by
      rcases V.plc hj with z | ⟨p, z1, z2, -⟩
      · exact absurd z cb.1
      · exact ⟨p, z1, z2⟩
    have haj : a ≠ j := by omega
    obtain ⟨hpq, up, uq⟩ := V.two h2 hj haj p0 q0 hp' hq
    obtain ⟨v, hc1, g1, x1, x2, x3, V1, x5, x6, x7, -⟩ := exch (N := N) (N' := N') V ho h2 hj haj p0 q0 hp' hq hN hN'
    have v0 : nI v = 0 ↔ v = 0 := nI_eq (a := v) (b := 0) (by omega) (by omega)
    rw [x1, x2, bind_sn, bind_sn]
    dsimp only
    by_cases cv : v = 0
    case neg =>
      have z : ¬ nI v = 0 := fun y => cv (v0.mp y)
      rw [if_neg z, if_neg z, bind_sn]
      dsimp only
      rw [if_pos (cc le)]
      obtain ⟨le', bs', hc', g', i1, i2, i3, i4, i5⟩ := ih (j + 1) f f' hc1 g1 le bs V1 (by rw [x5 0 (by omega) (by omega)]; exact ho) (by rw [x5 0 (by omega) (by omega)]; exact h1) h2 (by omega) (by omega) (by omega) (by omega)
      exact ⟨le', bs', hc', g', i1, i2, i3, fun r c1 c2 => by rw [i4 r c1 c2, x5 r c1 c2], fun c hc' => by rw [i5 c hc', x7 cv c hc']⟩
    have X6 := x6 cv
    subst cv
    have ho1 : g1 0 11 = nI o := by rw [x5 0 (by omega) (by omega)]; exact ho
    have h11 : g1 0 1 = 1 := by rw [x5 0 (by omega) (by omega)]; exact h1
    obtain ⟨em, -⟩ := lean_eq (N := N) (N' := N') V1 0 hN hN'
    have em2 := Mo_lean0 (N := N') V1 h11 hN'
    rw [show nI 0 = 0 from rfl, if_pos rfl, if_pos rfl, em, em2, bind_sn, bind_sn, pu_letn, pu_letn, pu_letn, bind_sn, bind_sn, nI_clamp (by omega), nI_clamp (by omega), ka, kj, p0, q0]
    -- the reference puts them back
    have others : ∀ c, c < n → c ≠ a → c ≠ j → g1 7 c ≠ nI p ∧ g1 7 c ≠ nI q := by
      intro c hc'' ca cb
      rw [X6 c hc'', if_neg ca, if_neg cb]
      exact ⟨up c hc'' ca, uq c hc'' cb⟩
    obtain ⟨hx1, g5, y1, V5, y3, y4⟩ := puts_as (N := N') V1 h2 hj haj hpq hp' hq others
    have y5 : ∀ c, c < n → g5 7 c = g 7 c := by
      intro c hc''
      rw [y4 c hc'', X6 c hc'']
      by_cases e : c = a
      · rw [if_pos e, e, p0]
      · rw [if_neg e, if_neg e]
        by_cases e2 : c = j
        · rw [if_pos e2, e2, q0]
        · rw [if_neg e2, if_neg e2]
    have y6 : ∀ r, r ≠ 7 → r ≠ 8 → g5 r = g r := fun r c1 c2 => by rw [y3 r c1 c2, x5 r c1 c2]
    -- the class puts them back
    have m1 : ∀ x : Nat, x < 144 → (-1 : Int32) ≠ nI x := fun x hx => pu_m1' (by omega)
    obtain ⟨ga, l1, Va, r1, s1, -⟩ := lay (N := N') V1 h2 (v := -1) (Or.inl rfl)
    obtain ⟨gb, l2, Vb, r2, s2, -⟩ := lay (N := N') Va hj (v := nI q) (Or.inr ⟨q, hq, rfl, by
      intro c hc' hcj z
      rw [s1 c] at z
      by_cases e : c = a
      · rw [if_pos e] at z; exact m1 q (by omega) z
      · rw [if_neg e, X6 c hc', if_neg e, if_neg hcj] at z; exact uq c hc' hcj z⟩)
    obtain ⟨gc, l3, Vc, r3, s3, -⟩ := lay (N := N') Vb h2 (v := nI p) (Or.inr ⟨p, hp', rfl, by
      intro c hc' hca z
      rw [s2 c, s1 c] at z
      by_cases e : c = j
      · rw [if_pos e] at z; exact hpq ((nI_eq (by omega) (by omega)).mp z).symm
      · rw [if_neg e, if_neg hca, X6 c hc', if_neg hca, if_neg e] at z; exact up c hc' hca z⟩)
    have V5' : VS hh hr (F_Cargo_move (nI a) (nI p) (F_Cargo_move (nI j) (nI q) (F_Cargo_move (nI a) (-1) hc1))) g5 B R H D K n o := by
      refine Vc.tr V5 ?_ ?_
      · intro c _
        rw [y6 4 (by omega) (by omega), y6 5 (by omega) (by omega), y6 6 (by omega) (by omega), r3 4 (by omega) (by omega), r3 5 (by omega) (by omega), r3 6 (by omega) (by omega), r2 4 (by omega) (by omega), r2 5 (by omega) (by omega), r2 6 (by omega) (by omega), r1 4 (by omega) (by omega), r1 5 (by omega) (by omega), r1 6 (by omega) (by omega), x5 4 (by omega) (by omega), x5 5 (by omega) (by omega), x5 6 (by omega) (by omega)]
        exact ⟨rfl, rfl, rfl⟩
      · intro c hc'
        rw [y5 c hc', s3 c, s2 c, s1 c]
        by_cases e : c = a
        · rw [if_pos e, e, p0]
        · rw [if_neg e, if_neg e]
          by_cases e2 : c = j
          · rw [if_pos e2, e2, q0]
          · rw [if_neg e2, X6 c hc', if_neg e, if_neg e2]
    generalize (if 0 < leanS g1 B R H D 0 0 0 n then leanS g1 B R H D 0 0 0 n else -leanS g1 B R H D 0 0 0 n) = L
    by_cases cl : 0 ≤ lg_cmp L le
    · rw [if_pos cl, if_pos cl, bind_sn, y1, bind_sn]
      obtain ⟨le', bs', hc', g', i1, i2, i3, i4, i5⟩ := ih (j + 1) f f' _ g5 le bs V5' (by rw [y6 0 (by omega) (by omega)]; exact ho) (by rw [y6 0 (by omega) (by omega)]; exact h1) h2 (by omega) (by omega) (by omega) (by omega)
      exact ⟨le', bs', hc', g', i1, i2, i3, fun r c1 c2 => by rw [i4 r c1 c2, y6 r c1 c2], fun c hc' => by rw [i5 c hc', y5 c hc']⟩
    · rw [if_neg cl, if_neg cl, bind_sn, y1, bind_sn]
      obtain ⟨le', bs', hc', g', i1, i2, i3, i4, i5⟩ := ih (j + 1) f f' _ g5 L (100 * nI a + nI j) V5' (by rw [y6 0 (by omega) (by omega)]; exact ho) (by rw [y6 0 (by omega) (by omega)]; exact h1) h2 (by omega) (by omega) (by omega) (by omega)
      exact ⟨le', bs', hc', g', i1, i2, i3, fun r c1 c2 => by rw [i4 r c1 c2, y6 r c1 c2], fun c hc' => by rw [i5 c hc', y5 c hc']⟩
theorem stead_O (hN : 30 ≤ N) (hN' : 30 ≤ N') : ∀ (m j f f' : Nat) (hc g : HH) (le : Int64) (bs : Int32), VS hh hr hc g B R H D K n o → g 0 11 = nI o → g 0 1 = 1 → j + m = n → m < f → m < f' → ∃ bs' hc' g', L_Surv_steadiestTwo_16 N f le bs (nI j) hh hr hc = some (bs', hc') ∧ L_Mo_steady_24 N' f' le bs (nI j) g = some (bs', g') ∧ VS hh hr hc' g' B R H D K n o ∧ (∀ r, r ≠ 7 → r ≠ 8 → g' r = g r) ∧ ∀ c, c < n → g' 7 c = g 7 c := by
  intro m
  induction m with
  | zero =>
    intro j f f' hc g le bs V ho h1 h4 h5 h6
    obtain ⟨f, rfl⟩ : ∃ z, f = z + 1 := ⟨f - 1, by omega⟩
    obtain ⟨f', rfl⟩ : ∃ z, f' = z + 1 := ⟨f' - 1, by omega⟩
    have : j = n := by omega
    subst this
    rw [L_Surv_steadiestTwo_16, L_Mo_steady_24, V.n6, V.h0, if_pos (Int32.le_refl _), if_pos (Int32.le_refl _)]
    exact ⟨bs, hc, g, rfl, rfl, V, fun _ _ _ => rfl, fun _ _ => rfl⟩
  | succ m ih =>
    intro j f f' hc g le bs V ho h1 h4 h5 h6
    obtain ⟨f, rfl⟩ : ∃ z, f = z + 1 := ⟨f - 1, by omega⟩
    obtain ⟨f', rfl⟩ : ∃ z, f' = z + 1 := ⟨f' - 1, by omega⟩
    have hj : j < n := by omega
    have hn := V.nn
    obtain ⟨le1, bs1, hc1, g1, i1, i2, i3, i4, i5⟩ := stead_I (N := N) (N' := N') (a := j) hN hN' (n - (j + 1)) (j + 1) N N' hc g le bs V ho h1 hj (by omega) (by omega) (by omega) (by omega)
    rw [L_Surv_steadiestTwo_16, L_Mo_steady_24, V.n6, V.h0, if_neg (nI_ge hj (by omega)), if_neg (nI_ge hj (by omega)), nI_1, i1, i2, bind_sn, bind_sn]
    dsimp only
    obtain ⟨bs', hc', g', d1, d2, d3, d4, d5⟩ := ih (j + 1) f f' hc1 g1 le1 bs1 i3 (by rw [i4 0 (by omega) (by omega)]; exact ho) (by rw [i4 0 (by omega) (by omega)]; exact h1) (by omega) (by omega) (by omega)
    exact ⟨bs', hc', g', d1, d2, d3, fun r c1 c2 => by rw [d4 r c1 c2, i4 r c1 c2], fun c hc' => by rw [d5 c hc', i5 c hc']⟩
theorem sim_50 : Sim_50 Inv := by
  intro k g I
  rcases i_there I with ⟨B, R, H, D, K, n, o, J, h1, h2⟩ | ⟨J, h1, h2⟩
  case inr =>
    refine ⟨30, 30, -2, k, g, ?_, ?_, I⟩
    · unfold KO_50 F_K_steady; rw [h1]; show some (-2, ku k 11 (k 11)) = _; rw [ku_self]
    · unfold MO_50 F_Mo_steady; rw [h2]; rfl
  have V := J.2.2.1
  have ho := J.2.2.2.1
  have hn := V.nn
  obtain ⟨em, -⟩ := lean_eq (N := 30) (N' := 30) V 0 (by omega) (by omega)
  have em2 := Mo_lean0 (N := 30) V h2 (by omega)
  obtain ⟨bs', hc', g', d1, d2, V', d4, d5⟩ := stead_O (N := 30) (N' := 30) (by omega) (by omega) n 0 30 30 (k 11) g (if 0 < leanS g B R H D 0 0 0 n then leanS g B R H D 0 0 0 n else -leanS g B R H D 0 0 0 n) (-1) V ho h2 (by omega) (by omega) (by omega)
  rw [show nI 0 = 0 from rfl] at d1 d2
  have i0 : ∀ b, b < n → g' 4 b = g 4 b ∧ g' 5 b = g 5 b ∧ g' 6 b = g 6 b := fun b _ => by rw [d4 4 (by omega) (by omega), d4 5 (by omega) (by omega), d4 6 (by omega) (by omega)]; exact ⟨rfl, rfl, rfl⟩
  have hk : ku k 11 hc' = ku (ku k 1 (k 1)) 11 hc' := by rw [ku_self]
  refine ⟨30, 30, bs', ku k 11 hc', g', ?_, ?_, ?_, Or.inr ⟨B, R, H, D, K, n, o, ?_⟩⟩
  · unfold KO_50 F_K_steady F_Surv_steadiestTwo
    rw [h1, if_neg pu_10, em, bind_sn, d1, bind_sn, bind_sn]
    rfl
  · unfold MO_50 F_Mo_steady
    rw [h2, if_pos pu_10, em2, bind_sn, d2, bind_sn]
    rfl
  · refine InvB_c I.1 ?_ ?_ ?_ (by rw [d4 0 (by omega) (by omega)]) (by rw [d4 0 (by omega) (by omega)]) (by rw [d4 0 (by omega) (by omega)]) (by rw [d4 0 (by omega) (by omega)]) (d4 9 (by omega) (by omega)) (d4 22 (by omega) (by omega))
    all_goals simp only [pu_ku]; rfl
  · rw [hk]
    exact InvA_g J V' (HiR_c hn J.2.2.2.2.2.1 (Nat.le_refl _) (by rw [d4 0 (by omega) (by omega)]) (d4 10 (by omega) (by omega)) (d4 1 (by omega) (by omega)) i0) (NoH_7 V V' d5 J.2.2.2.2.1) (by rw [d4 0 (by omega) (by omega)]) (by rw [d4 0 (by omega) (by omega)]) (by rw [d4 0 (by omega) (by omega)]) (by rw [d4 0 (by omega) (by omega)]) (d4 14 (by omega) (by omega)) (d4 15 (by omega) (by omega)) (d4 16 (by omega) (by omega))
end SWAP2
