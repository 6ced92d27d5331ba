/-! ===== pure: the draft; a line on what bears ===== -/
section DRF
variable {k k' : KS} {g g' g2 gm gm' : HH} {hd hd' ht ht' hu hh hr hc : HH} {B R H D K n o N N' t w s a b kd x : Nat}
theorem PP.cg (P : PP hd ht g s) (h9 : g' 9 = g 9) (h0 : ∀ j, 15 ≤ j → j ≤ 21 → g' 0 j = g 0 j) : PP hd ht g' s := by
  obtain ⟨hf, T, P⟩ := P
  refine ⟨⟨by rw [h0 20 (by omega) (by omega)]; exact hf.1, by rw [h0 21 (by omega) (by omega)]; exact hf.2⟩, T, ?_⟩
  rcases P with hb | ⟨z, BR, a, b, kd, Q⟩
  · exact Or.inl hb
  · refine Or.inr ⟨z, BR.c rfl rfl h9 (h0 15 (by omega) (by omega)), a, b, kd, ?_⟩
    unfold Tok at *
    rw [h0 17 (by omega) (by omega), h0 16 (by omega) (by omega), h0 18 (by omega) (by omega), h0 19 (by omega) (by omega), h9]
    exact Q
/-- one fault found by both -/
theorem err_ok (P : PP hd ht g s) {c : Int32} (hc : c ≠ 0) : PP (F_Read_fail c hd ht) ht (F_Mo_errs c (g 0 17) g) s ∧ FgS g (F_Mo_errs c (g 0 17) g) ∧ F_Read_fail c hd ht 0 0 ≠ 0 := by
  obtain ⟨hf, T, P⟩ := P
  rcases P with hb | ⟨h0, BR, a, b, kd, Q⟩
  · have gb : g 0 20 ≠ 0 := by rw [← hf.1]; exact hb
    rw [fail_b _ hb, errs_b _ _ gb]
    exact ⟨⟨hf, T, Or.inl hb⟩, FgS.refl g, hb⟩
  · have g0 : g 0 20 = 0 := by rw [← hf.1]; exact h0
    obtain ⟨f1, f2⟩ := fail_g (ht := ht) (c := c) h0
    obtain ⟨r1, r2, r3⟩ := errs_g (c := c) (p := g 0 17) g0
    exact ⟨⟨⟨by rw [f1, r1], by rw [f2, r2, Q.2.1.1, Q.2.1.2]⟩, T, Or.inl (by rw [f1]; exact hc)⟩, r3, by rw [f1]; exact hc⟩
/-- the reference with its draft in the ship's row -/
def gv (g : HH) : HH := fun r => if r = 1 then g 2 else g r
def HuR (hh g : HH) (B R H D : Nat) : Prop := Geo (gv g) B R H D ∧ (hh 0 0 = nI B ∧ hh 0 1 = nI R ∧ hh 0 2 = nI H ∧ hh 0 3 = nI D ∧ hh 0 4 = nI (plN B R H D)) ∧ (hh 0 5 = g 2 4 ∧ hh 0 6 = g 2 5 ∧ hh 0 7 = g 0 5) ∧ (∀ p, p < plN B R H D → hh 1 p = nI (p / (H + D) / R) ∧ hh 2 p = nI (p / (H + D) % R) ∧ hh 3 p = nI (p % (H + D))) ∧ ∀ b, b < 6 → hh 5 b = g 2 (8 + b) ∧ hh 4 b = nI (shutF (hh 5) b) ∧ (g 2 (8 + b) = 0 ∨ g 2 (8 + b) = 1 ∨ g 2 (8 + b) = 2) ∧ (B ≤ b + 1 → g 2 (8 + b) = 0)
def CaR (hc g : HH) (K n : Nat) : Prop := (hc 0 0 = nI n ∧ g 2 7 = nI n ∧ n ≤ 24) ∧ (∀ b, b < n → (∃ kd, kd < K ∧ hc 1 b = nI kd ∧ g 3 (3 * b) = nI kd) ∧ (∃ w, 1 ≤ w ∧ w ≤ 99 ∧ hc 2 b = nI w ∧ g 3 (3 * b + 1) = nI w) ∧ (∃ t, 1 ≤ t ∧ t ≤ 5 ∧ hc 3 b = nI t ∧ g 3 (3 * b + 2) = nI t)) ∧ (∀ b, b < 25 → hc 4 b = -1) ∧ ∀ p, p < 144 → hc 5 p = -1
def DR (hh hr hc g : HH) (B R H D K n : Nat) : Prop := HuR hh g B R H D ∧ RRel hr (gv g) K ∧ CaR hc g K n
theorem RRel_c (h : RRel hr (gv g) K) (h2 : g' 2 = g 2) : RRel hr (gv g') K := by
  have e : gv g' 1 = gv g 1 := h2
  unfold RRel LvOK at *
  rw [e]
  exact h
theorem DR.c (h : DR hh hr hc g B R H D K n) (h2 : g' 2 = g 2) (h3 : g' 3 = g 3) (h5 : g' 0 5 = g 0 5) : DR hh hr hc g' B R H D K n := by
  have e : gv g' 1 = gv g 1 := h2
  obtain ⟨a, b, c⟩ := h
  refine ⟨?_, RRel_c b h2, ?_⟩
  · unfold HuR Geo at *
    rw [e, h2, h5]
    exact a
  · unfold CaR at *
    rw [h2, h3]
    exact c
theorem DR.fs (h : DR hh hr hc g B R H D K n) (F : FgS g g') : DR hh hr hc g' B R H D K n := h.c (F.1 2 (by omega)) (F.1 3 (by omega)) (F.2 5 (by omega))
/-- what a line leaves as it was -/
def FgP (g g' : HH) : Prop := (∀ r, r ≠ 0 → r ≠ 2 → r ≠ 3 → g' r = g r) ∧ ∀ j, j ≠ 5 → (j < 16 ∨ 21 < j) → g' 0 j = g 0 j
theorem FgP.tr (h1 : FgP g g') (h2 : FgP g' g2) : FgP g g2 := ⟨fun r a b c => by rw [h2.1 r a b c, h1.1 r a b c], fun j a b => by rw [h2.2 j a b, h1.2 j a b]⟩
theorem FgS.p (h : FgS g g') : FgP g g' := ⟨fun r a _ _ => h.1 r a, fun j _ b => h.2 j b⟩
theorem sa_p (g : HH) (r : Nat) (hr : r = 2 ∨ r = 3) (i v : Int32) : FgP g (sa g r i v) ∧ (∀ j, sa g r i v 0 j = g 0 j) ∧ sa g r i v 9 = g 9 := by
  refine ⟨⟨fun r' a b c => by rw [pu_sa, if_neg (by omega)], fun j _ _ => by rw [pu_sa, if_neg (by omega)]⟩, fun j => by rw [pu_sa, if_neg (by omega)], by rw [pu_sa, if_neg (by omega)]⟩
theorem PP.sa (P : PP hd ht g s) {r : Nat} (hr : r = 2 ∨ r = 3) (i v : Int32) : PP hd ht (sa g r i v) s := P.cg (sa_p g r hr i v).2.2 (fun j _ _ => (sa_p g r hr i v).2.1 j)
/-- the reference's line on what bears -/
def bearsM (N : Nat) (g : HH) (F : HH → Option HH) : Option HH := sv_let (if (g 0 5) = 0 then g else (sv_let (F_Mo_errs (3 : Int32) (g 0 17) g) fun (gm_100 : HH) => gm_100)) fun (v101 : HH) => (sv_let (ss v101 5 (1 : Int32)) fun (gm_102 : HH) => (Option.bind (if (F_Mo_good gm_102) = 0 then some gm_102 else (Option.bind (F_Mo_advance N gm_102) fun (v104 : HH) => some v104)) fun (v106 : HH) => (Option.bind (F_Mo_number N (1 : Int32) (999 : Int32) v106) fun (v107 : Int32 × HH) => (if sv_in (4 : Int32) 90 then (sv_let (sa v107.2 2 (4 : Int32) v107.1) fun (gm_110 : HH) => (Option.bind (F_Mo_number N (1 : Int32) (999 : Int32) gm_110) fun (v111 : Int32 × HH) => (if sv_in (5 : Int32) 90 then (sv_let (sa v111.2 2 (5 : Int32) v111.1) fun (gm_114 : HH) => F gm_114) else none))) else none))))
theorem bears_ok (P : PP hd ht g s) (Dr : DR hh hr hc g B R H D K n) (F : HH → Option HH) (hN : 1000 ≤ N) (hN' : 1000 ≤ N') : ∃ hd' ht' hh' g', F_Read_readBears N hd ht hh = some (hd', ht', hh') ∧ bearsM N' g F = F g' ∧ PP hd' ht' g' s ∧ FgP g g' ∧ (hd' 0 0 = 0 → DR hh' hr hc g' B R H D K n ∧ Mv ht ht' 0) := by
  have h7 : hh 0 7 = g 0 5 := Dr.1.2.2.1.2.2
  -- told before?
  obtain ⟨hd1, g1, e1, f1, P1, S1, z1⟩ : ∃ hd1 g1, hd1 = (if hh 0 7 = 0 then hd else F_Read_fail 3 hd ht) ∧ g1 = (if g 0 5 = 0 then g else F_Mo_errs 3 (g 0 17) g) ∧ PP hd1 ht g1 s ∧ FgS g g1 ∧ (hd1 0 0 = 0 → g1 = g) := by
    refine ⟨_, _, rfl, rfl, ?_⟩
    rw [h7]
    by_cases c : g 0 5 = 0
    · rw [if_pos c, if_pos c]; exact ⟨P, FgS.refl g, fun _ => rfl⟩
    · rw [if_neg c, if_neg c]
      obtain ⟨a, b, c⟩ := err_ok P (c := 3) (by decide)
      exact ⟨a, b, fun z => absurd z c⟩
  have P2 : PP hd1 ht (ss g1 5 1) s := P1.cg (by rw [pu_ssr, if_neg (by omega)]) (fun j _ _ => by rw [pu_ss, if_pos rfl, if_neg (by omega)])
  have G2 : FgP g (ss g1 5 1) := S1.p.tr ⟨fun r a _ _ => by rw [pu_ssr, if_neg a], fun j a _ => by rw [pu_ss, if_pos rfl, if_neg a]⟩
  obtain ⟨ht3, g3, d1, d2, d3, P3, S3, d4, -⟩ := go_on (N := N) (N' := N') P2 hN hN'
  have e3 : (if F_Mo_good (ss g1 5 1) = 0 then some (ss g1 5 1) else Option.bind (F_Mo_advance N' (ss g1 5 1)) fun v104 => some v104) = some g3 := by
    by_cases h : hd1 0 0 = 0
    · rw [good_1 (by rw [← P2.1.1]; exact h), if_neg pu_10, d2 h, bind_sn]
    · rw [good_0 (by rw [← P2.1.1]; exact h), if_pos rfl, d3 h]
  obtain ⟨v4, v4', hd4, ht4, g4, a1, a2, P4, S4, a3, a4⟩ := tk_ok (N := N) (N' := N') P3 (lo := 1) (hi := 999) (lo' := 1) (hi' := 999) (fun _ => ⟨rfl, rfl, Int32.le_refl _⟩) hN hN'
  obtain ⟨v5, v5', hd5, ht5, g5, b1, b2, P5, S5, b3, b4⟩ := tk_ok (N := N) (N' := N') (P4.sa (Or.inl rfl) 4 v4') (lo := 1) (hi := 999) (lo' := 1) (hi' := 999) (fun _ => ⟨rfl, rfl, Int32.le_refl _⟩) hN hN'
  have eM : bearsM N' g F = F (sa g5 2 5 v5') := by
    unfold bearsM
    simp only [pu_letn]
    rw [← f1, e3, bind_sn, a2, bind_sn, if_pos (show sv_in (4 : Int32) 90 by decide)]
    dsimp only
    rw [b2, bind_sn, if_pos (show sv_in (5 : Int32) 90 by decide)]
  have GP : FgP g (sa g5 2 5 v5') := G2.tr (S3.p.tr (S4.p.tr ((sa_p g4 2 (Or.inl rfl) 4 v4').1.tr (S5.p.tr (sa_p g5 2 (Or.inl rfl) 5 v5').1))))
  have eK : F_Read_readBears N hd ht hh = if ¬ (hd5 0 0) = 0 then some (hd5, ht5, hh) else some (hd5, ht5, F_Hull_tellBears v4 v5 hh) := by
    unfold F_Read_readBears
    simp only [pu_letn]
    rw [← e1, d1, bind_sn, a1, bind_sn]
    dsimp only
    rw [b1, bind_sn]
  by_cases h : hd5 0 0 = 0
  · rw [eK, ifn h]
    have h4 : hd4 0 0 = 0 := Classical.byContradiction fun z => (b3 z) h
    have h1 : hd1 0 0 = 0 := Classical.byContradiction fun z => (a3 z) h4
    obtain ⟨u1, u2, u3, u4⟩ := a4 h4
    obtain ⟨w1, w2, w3, w4⟩ := b4 h
    refine ⟨hd5, ht5, _, _, rfl, eM, P5.sa (Or.inl rfl) 5 v5', GP, fun _ => ⟨?_, ((d4 h1).tr u4).tr w4⟩⟩
    have eg := z1 h1
    subst u1
    subst w1
    -- the reference's row 2
    have q0 : ss g1 5 1 2 = g 2 := by rw [pu_ssr, if_neg (by omega), eg]
    have q4 : ∀ j, sa g4 2 4 v4 2 j = if j = 4 then v4 else g 2 j := fun j => by
      rw [pu_sa, if_pos rfl, show ((4 : Int32)).toNatClampNeg = 4 from rfl, pu_upd, S4.1 2 (by omega), S3.1 2 (by omega), q0]
    have r2 : ∀ j, sa g5 2 5 v5 2 j = if j = 5 then v5 else if j = 4 then v4 else g 2 j := fun j => by
      rw [pu_sa, if_pos rfl, show ((5 : Int32)).toNatClampNeg = 5 from rfl, pu_upd, S5.1 2 (by omega), q4]
    have r3 : sa g5 2 5 v5 3 = g 3 := by
      rw [pu_sa, if_neg (by omega), S5.1 3 (by omega), pu_sa, if_neg (by omega), S4.1 3 (by omega), S3.1 3 (by omega), pu_ssr, if_neg (by omega), eg]
    have r5 : sa g5 2 5 v5 0 5 = 1 := by
      rw [pu_sa, if_neg (by omega), S5.2 5 (by omega), pu_sa, if_neg (by omega), S4.2 5 (by omega), S3.2 5 (by omega), pu_ss, if_pos rfl, if_pos rfl]
    have ro : ∀ j, j ≠ 4 → j ≠ 5 → sa g5 2 5 v5 2 j = g 2 j := fun j a b => by rw [r2, if_neg b, if_neg a]
    have tb : ∀ j, F_Hull_tellBears v4 v5 hh 0 j = if j = 7 then 1 else if j = 6 then v5 else if j = 5 then v4 else hh 0 j := fun j => by
      unfold F_Hull_tellBears
      rw [pu_letn, pu_letn, pu_letn, pu_ss, if_pos rfl, pu_ss, if_pos rfl, pu_ss, if_pos rfl]
    have tr : ∀ r, r ≠ 0 → F_Hull_tellBears v4 v5 hh r = hh r := fun r h => by
      unfold F_Hull_tellBears
      rw [pu_letn, pu_letn, pu_letn, pu_ssr, if_neg h, pu_ssr, if_neg h, pu_ssr, if_neg h]
    obtain ⟨⟨x1, x2, x3, x4, x5⟩, y1, z2⟩ := Dr
    refine ⟨⟨?_, ?_, ⟨?_, ?_, ?_⟩, ?_, ?_⟩, ?_, ?_⟩
    · obtain ⟨⟨q1, q2, q3, q4⟩, q5⟩ := x1
      exact ⟨⟨(ro 0 (by omega) (by omega)).trans q1, (ro 1 (by omega) (by omega)).trans q2, (ro 2 (by omega) (by omega)).trans q3, (ro 3 (by omega) (by omega)).trans q4⟩, q5⟩
    · simp only [tb]
      exact x2
    · rw [tb, r2]; rfl
    · rw [tb, r2]; rfl
    · rw [tb, r5]; rfl
    · rw [tr 1 (by omega), tr 2 (by omega), tr 3 (by omega)]; exact x4
    · intro b hb
      rw [tr 5 (by omega), tr 4 (by omega), ro (8 + b) (by omega) (by omega)]
      exact x5 b hb
    · obtain ⟨⟨q1, q2, q3⟩, q4, q5, q6⟩ := y1
      have lk : ∀ l, 1 ≤ l → ∀ j, gv (sa g5 2 5 v5) 1 (14 + 4 * l + j) = gv g 1 (14 + 4 * l + j) := fun l hl j => ro _ (by omega) (by omega)
      have lk0 : ∀ l, 1 ≤ l → gv (sa g5 2 5 v5) 1 (14 + 4 * l) = gv g 1 (14 + 4 * l) := fun l hl => lk l hl 0
      have lv : ∀ l, LvOK (gv (sa g5 2 5 v5)) l ↔ LvOK (gv g) l := by
        intro l
        unfold LvOK
        constructor
        · rintro ⟨p1, p2, p3⟩; exact ⟨p1, p2, by rw [← lk0 l p1]; exact p3⟩
        · rintro ⟨p1, p2, p3⟩; exact ⟨p1, p2, by rw [lk0 l p1]; exact p3⟩
      refine ⟨⟨q1, (ro 6 (by omega) (by omega)).trans q2, q3⟩, ?_, ?_, ?_⟩
      · intro l l1 l2
        have := q4 l l1 l2
        rw [lk0 l l1, lk l l1 1, lk l l1 2, lk l l1 3]
        exact this
      · intro c hc'
        rw [show gv (sa g5 2 5 v5) 1 (34 + c) = gv g 1 (34 + c) from ro _ (by omega) (by omega)]
        exact q5 c hc'
      · intro c d hc' hd'
        rw [show gv (sa g5 2 5 v5) 1 (41 + 7 * c + d) = gv g 1 (41 + 7 * c + d) from ro _ (by omega) (by omega), show gv (sa g5 2 5 v5) 1 (41 + 7 * d + c) = gv g 1 (41 + 7 * d + c) from ro _ (by omega) (by omega)]
        obtain ⟨p1, p2, p3⟩ := q6 c d hc' hd'
        refine ⟨p1, p2, ?_⟩
        rcases p3 with p3 | ⟨l, l1, l2⟩
        · exact Or.inl p3
        · exact Or.inr ⟨l, (lv l).mpr l1, l2⟩
    · unfold CaR at *
      rw [ro 7 (by omega) (by omega), r3]
      exact z2
  · rw [eK, if_pos h]
    exact ⟨hd5, ht5, hh, _, rfl, eM, P5.sa (Or.inl rfl) 5 v5', GP, fun z => absurd z h⟩
end DRF
