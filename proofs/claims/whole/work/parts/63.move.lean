/-! ===== pure: a box moved, a wall set ===== -/
theorem pu_sa (h : HH) (r : Nat) (i v : Int32) (r' : Nat) : sa h r i v r' = if r' = r then upd (h r) i.toNatClampNeg v else h r' := by
  unfold sa
  rw [pu_sr]
theorem pu_sw (h : HH) (r n : Nat) (i v : Int32) (r' : Nat) : sw h r n i v r' = if r' = r then wr n (h r) i v else h r' := by
  unfold sw
  rw [pu_sr]
theorem pu_ssr (h : HH) (k : Nat) (v : Int32) (r : Nat) : ss h k v r = if r = 0 then upd (h 0) k v else h r := by
  unfold ss
  rw [pu_sr]
theorem pu_sf (h : HH) (r n : Nat) (v : Int32) (r' : Nat) : sf h r n v r' = if r' = r then sv_fl n (h r) v else h r' := by
  unfold sf
  rw [pu_sr]
section MOVE
variable {k : KS} {g g' : HH} {hh hr hc : HH} {B R H D K n o N N' : Nat}
theorem wallv_c (h1 : g' 1 = g 1) (o b : Nat) : wallv g' o b = wallv g o b := by
  unfold wallv
  rw [h1]
theorem shutS_c (h1 : g' 1 = g 1) (o : Nat) : ∀ b, shutS g' o b = shutS g o b
  | 0 => rfl
  | b + 1 => by
    show shutS g' o b + (if shutB g' o b then 1 else 0) = shutS g o b + (if shutB g o b then 1 else 0)
    rw [shutS_c h1 o b]
    unfold shutB
    rw [wallv_c h1]
/-- the ship's part that a change of boxes leaves -/
theorem VS.cg (V : VS hh hr hc g B R H D K n o) (h1 : g' 1 = g 1) (h6 : g' 0 6 = g 0 6) (h4 : g' 4 = g 4) (h5 : g' 5 = g 5) (h6' : g' 6 = g 6) (h7 : g' 7 = g 7) (h8 : g' 8 = g 8) : VS hh hr hc g' B R H D K n o := by
  obtain ⟨v1, v2, v3, v4, v5, v6⟩ := V
  refine ⟨?_, ?_, ?_, ?_, ?_, ?_⟩
  · unfold Geo at *; rw [h1]; exact v1
  · unfold WallOK at *; rw [h1]; exact v2
  · unfold HRel at *
    simp only [h1, wallv_c h1, shutS_c h1]
    exact v3
  · unfold RRel LvOK at *; rw [h1]; exact v4
  · unfold BoxOK at *; rw [h6, h4, h5, h6', h7, h8]; exact v5
  · unfold CRel at *; rw [h4, h5, h6', h7, h8]; exact v6
theorem VS.mk' (V : VS hh hr hc g B R H D K n o) {hc' : HH} {n' : Nat} (h1 : g' 1 = g 1) (b : BoxOK g' n' K (plN B R H D)) (c : CRel hc' g' n') : VS hh hr hc' g' B R H D K n' o := by
  obtain ⟨v1, v2, v3, v4, v5, v6⟩ := V
  refine ⟨?_, ?_, ?_, ?_, b, c⟩
  · unfold Geo at *; rw [h1]; exact v1
  · unfold WallOK at *; rw [h1]; exact v2
  · unfold HRel at *
    simp only [h1, wallv_c h1, shutS_c h1]
    exact v3
  · unfold RRel LvOK at *; rw [h1]; exact v4
/-- what a place holds once a box has moved -/
def mv8 (f : Nat → Int32) (w v : Int32) (b p : Nat) : Int32 := if v = nI p then nI b else if w = nI p then -1 else f p
theorem Mo_lays (V : VS hh hr hc g B R H D K n o) {b : Nat} (hb : b < n) {v : Int32} (hv : v = -1 ∨ ∃ p, p < plN B R H D ∧ v = nI p) : ∃ g', F_Mo_lays N (nI b) v g = some g' ∧ (∀ r, r ≠ 7 → r ≠ 8 → g' r = g r) ∧ g' 7 = upd (g 7) b v ∧ (∀ p, p < 144 → g' 8 p = mv8 (g 8) (g 7 b) v b p) ∧ (g 7 b = -1 → v = -1 → g' 8 = g 8) ∧ ∀ p, 144 ≤ p → g' 8 p = g 8 p := by
  have hn := V.nn
  have hP := V.pp
  have hin : sv_in (nI b) 24 := pu_in (by omega) (by omega)
  unfold F_Mo_lays
  simp only [if_pos hin, pu_let]
  rw [nI_clamp (by omega)]
  have m1 : ∀ p, p < 144 → ¬ (-1 : Int32) = nI p := fun p hp => pu_m1' (by omega)
  rcases V.plc hb with p0 | ⟨q, hq, p0, -⟩
  · rw [p0, if_pos rfl]
    simp only [Option.bind_some]
    rcases hv with rfl | ⟨p, hp, rfl⟩
    · rw [if_pos rfl]
      refine ⟨_, rfl, ?_, ?_, ?_, ?_, ?_⟩
      · intro r h7 h8; rw [pu_sa, if_neg h7]
      · rw [pu_sa, if_pos rfl, nI_clamp (by omega)]
      · intro p hp; rw [pu_sa, if_neg (by omega)]; unfold mv8; rw [if_neg (m1 p hp), if_neg (m1 p hp)]
      · intro _ _; rw [pu_sa, if_neg (by omega)]
      · intro p hp; rw [pu_sa, if_neg (by omega)]
    · rw [if_neg (pu_m1 (by omega)), if_pos (pu_in (by omega) (by omega))]
      refine ⟨_, rfl, ?_, ?_, ?_, ?_, ?_⟩
      · intro r h7 h8; rw [pu_sa, if_neg h8, pu_sa, if_neg h7]
      · rw [pu_sa, if_neg (by omega), pu_sa, if_pos rfl, nI_clamp (by omega)]
      · intro p' hp'
        rw [pu_sa, if_pos rfl, pu_sa, if_neg (by omega), nI_clamp (by omega), pu_upd]
        unfold mv8
        rw [if_neg (m1 p' hp')]
        by_cases e : p' = p
        · rw [if_pos e, if_pos (by rw [e])]
        · rw [if_neg e, if_neg (fun z => e ((nI_eq (by omega) (by omega)).mp z).symm)]
      · intro _ z; exact absurd z (pu_m1 (by omega))
      · intro p' hp'; rw [pu_sa, if_pos rfl, pu_sa, if_neg (by omega), nI_clamp (by omega), pu_upd, if_neg (by omega)]
  · have hq2 : sv_in (nI q) 144 := pu_in (by omega) (by omega)
    rw [p0, if_neg (pu_m1 (by omega)), if_pos hq2]
    simp only [Option.bind_some]
    rcases hv with rfl | ⟨p, hp, rfl⟩
    · rw [if_pos rfl]
      refine ⟨_, rfl, ?_, ?_, ?_, ?_, ?_⟩
      · intro r h7 h8; rw [pu_sa, if_neg h7, pu_sa, if_neg h8]
      · rw [pu_sa, if_pos rfl, pu_sa, if_neg (by omega), nI_clamp (by omega)]
      · intro p' hp'
        rw [pu_sa, if_neg (by omega), pu_sa, if_pos rfl, nI_clamp (by omega), pu_upd]
        unfold mv8
        rw [if_neg (m1 p' hp')]
        by_cases e : p' = q
        · rw [if_pos e, if_pos (by rw [e])]
        · rw [if_neg e, if_neg (fun z => e ((nI_eq (by omega) (by omega)).mp z).symm)]
      · intro z; exact absurd z (pu_m1 (by omega))
      · intro p' hp'; rw [pu_sa, if_neg (by omega), pu_sa, if_pos rfl, nI_clamp (by omega), pu_upd, if_neg (by omega)]
    · rw [if_neg (pu_m1 (by omega)), if_pos (pu_in (by omega) (by omega))]
      refine ⟨_, rfl, ?_, ?_, ?_, ?_, ?_⟩
      · intro r h7 h8; rw [pu_sa, if_neg h8, pu_sa, if_neg h7, pu_sa, if_neg h8]
      · rw [pu_sa, if_neg (by omega), pu_sa, if_pos rfl, pu_sa, if_neg (by omega), nI_clamp (by omega)]
      · intro p' hp'
        rw [pu_sa, if_pos rfl, pu_sa, if_neg (by omega), pu_sa, if_pos rfl, nI_clamp (by omega), nI_clamp (by omega), pu_upd, pu_upd]
        unfold mv8
        by_cases e : p' = p
        · rw [if_pos e, if_pos (by rw [e])]
        · rw [if_neg e, if_neg (fun z => e ((nI_eq (by omega) (by omega)).mp z).symm)]
          by_cases e2 : p' = q
          · rw [if_pos e2, if_pos (by rw [e2])]
          · rw [if_neg e2, if_neg (fun z => e2 ((nI_eq (by omega) (by omega)).mp z).symm)]
      · intro z; exact absurd z (pu_m1 (by omega))
      · intro p' hp'; rw [pu_sa, if_pos rfl, pu_sa, if_neg (by omega), pu_sa, if_pos rfl, nI_clamp (by omega), nI_clamp (by omega), pu_upd, pu_upd, if_neg (by omega), if_neg (by omega)]
theorem K_move (V : VS hh hr hc g B R H D K n o) {b : Nat} (hb : b < n) {v : Int32} (hv : v = -1 ∨ ∃ p, p < plN B R H D ∧ v = nI p) : (∀ r, r ≠ 4 → r ≠ 5 → F_Cargo_move (nI b) v hc r = hc r) ∧ F_Cargo_move (nI b) v hc 4 = upd (hc 4) b v ∧ ∀ p, p < 144 → F_Cargo_move (nI b) v hc 5 p = mv8 (g 8) (g 7 b) v b p := by
  have hn := V.nn
  have hP := V.pp
  have h5 := V.2.2.2.2.2.2.2
  obtain ⟨kd, w, t, -, -, -, -, -, -, -, -, -, -, -, k7⟩ := V.box hb
  unfold F_Cargo_move
  simp only [pu_let]
  rw [k7]
  have m1 : ∀ p, p < 144 → ¬ (-1 : Int32) = nI p := fun p hp => pu_m1' (by omega)
  refine ⟨?_, ?_, ?_⟩
  · intro r h4 h5
    rw [pu_sw, if_neg h5, pu_sw, if_neg h4, pu_sw, if_neg h5]
  · rw [pu_sw, if_neg (by omega), pu_sw, if_pos rfl, pu_sw, if_neg (by omega), pu_wr _ _ (by omega) (by omega)]
  · intro p' hp'
    rw [pu_sw, if_pos rfl, pu_sw, if_neg (by omega), pu_sw, if_pos rfl]
    unfold mv8
    rcases V.plc hb with p0 | ⟨q, hq, p0, -⟩
    · rw [p0, pu_wrm, if_neg (m1 p' hp')]
      rcases hv with rfl | ⟨p, hp, rfl⟩
      · rw [pu_wrm, if_neg (m1 p' hp'), h5 p' hp']
      · rw [pu_wr _ _ (by omega) (by omega), pu_upd]
        by_cases e : p' = p
        · rw [if_pos e, if_pos (by rw [e])]
        · rw [if_neg e, if_neg (fun z => e ((nI_eq (by omega) (by omega)).mp z).symm), h5 p' hp']
    · rw [p0, pu_wr _ _ (by omega) (by omega)]
      rcases hv with rfl | ⟨p, hp, rfl⟩
      · rw [pu_wrm, if_neg (m1 p' hp'), pu_upd]
        by_cases e : p' = q
        · rw [if_pos e, if_pos (by rw [e])]
        · rw [if_neg e, if_neg (fun z => e ((nI_eq (by omega) (by omega)).mp z).symm), h5 p' hp']
      · rw [pu_wr _ _ (by omega) (by omega), pu_upd, pu_upd]
        by_cases e : p' = p
        · rw [if_pos e, if_pos (by rw [e])]
        · rw [if_neg e, if_neg (fun z => e ((nI_eq (by omega) (by omega)).mp z).symm)]
          by_cases e2 : p' = q
          · rw [if_pos e2, if_pos (by rw [e2])]
          · rw [if_neg e2, if_neg (fun z => e2 ((nI_eq (by omega) (by omega)).mp z).symm), h5 p' hp']
/-- both move a box, to a place that is free or its own, or to none -/
theorem lays_ok (V : VS hh hr hc g B R H D K n o) {b : Nat} (hb : b < n) {v : Int32} (hv : v = -1 ∨ ∃ p, p < plN B R H D ∧ v = nI p ∧ (g 8 p = -1 ∨ g 8 p = nI b)) : ∃ g', F_Mo_lays N (nI b) v g = some g' ∧ VS hh hr (F_Cargo_move (nI b) v hc) g' B R H D K n o ∧ (∀ r, r ≠ 7 → r ≠ 8 → g' r = g r) ∧ g' 7 = upd (g 7) b v ∧ (∀ p, p < 144 → g' 8 p = mv8 (g 8) (g 7 b) v b p) ∧ (g 7 b = -1 → v = -1 → g' 8 = g 8) ∧ ∀ p, 144 ≤ p → g' 8 p = g 8 p := by
  have hn := V.nn
  have hP := V.pp
  have hv' : v = -1 ∨ ∃ p, p < plN B R H D ∧ v = nI p := by
    rcases hv with h | ⟨p, h1, h2, -⟩
    · exact Or.inl h
    · exact Or.inr ⟨p, h1, h2⟩
  have m1 : ∀ p, p < 144 → ¬ (-1 : Int32) = nI p := fun p hp => pu_m1' (by omega)
  obtain ⟨g', e, l1, l2, l3, l4, l5⟩ := Mo_lays (N := N) V hb hv'
  obtain ⟨c1, c2, c3⟩ := K_move V hb hv'
  refine ⟨g', e, ?_, l1, l2, l3, l4, l5⟩
  obtain ⟨⟨x1, x2⟩, x3, x4⟩ := V.2.2.2.2.1
  obtain ⟨y1, y2, y3⟩ := V.2.2.2.2.2
  refine V.mk' (l1 1 (by omega) (by omega)) ⟨⟨?_, x2⟩, ?_, ?_⟩ ⟨?_, ?_, ?_⟩
  · rw [l1 0 (by omega) (by omega)]; exact x1
  · intro b' hb'
    obtain ⟨z1, z2, z3, z4⟩ := x3 b' hb'
    rw [l1 4 (by omega) (by omega), l1 5 (by omega) (by omega), l1 6 (by omega) (by omega)]
    refine ⟨z1, z2, z3, ?_⟩
    rw [l2, pu_upd]
    by_cases eb : b' = b
    · subst eb
      rw [if_pos rfl]
      rcases hv with h | ⟨p, h1, h2, h3⟩
      · exact Or.inl h
      · refine Or.inr ⟨p, h1, h2, ?_⟩
        rw [l3 p (by omega)]; unfold mv8; rw [if_pos h2]
    · rw [if_neg eb]
      rcases z4 with h | ⟨p, h1, h2, h3⟩
      · exact Or.inl h
      · refine Or.inr ⟨p, h1, h2, ?_⟩
        rw [l3 p (by omega)]; unfold mv8
        have n1 : ¬ v = nI p := by
          intro z
          rcases hv with h | ⟨p2, q1, q2, q3⟩
          · rw [h] at z; exact m1 p (by omega) z
          · rw [q2] at z
            have := (nI_eq (by omega) (by omega)).mp z
            subst this
            rcases q3 with q3 | q3
            · rw [q3] at h3; exact absurd h3 (pu_m1' (by omega))
            · rw [q3] at h3; exact eb ((nI_eq (by omega) (by omega)).mp h3).symm
        have n2 : ¬ g 7 b = nI p := by
          intro z
          rcases V.plc hb with p0 | ⟨q, hq, p0, p1⟩
          · rw [p0] at z; exact m1 p (by omega) z
          · rw [p0] at z
            have := (nI_eq (by omega) (by omega)).mp z
            subst this
            rw [p1] at h3
            exact eb ((nI_eq (by omega) (by omega)).mp h3).symm
        rw [if_neg n1, if_neg n2, h3]
  · intro p hp
    rw [l3 p hp, l2]
    unfold mv8
    by_cases a1 : v = nI p
    · rw [if_pos a1]
      exact Or.inr ⟨b, hb, rfl, by rw [pu_upd, if_pos rfl, a1]⟩
    · rw [if_neg a1]
      by_cases a2 : g 7 b = nI p
      · rw [if_pos a2]; exact Or.inl rfl
      · rw [if_neg a2]
        rcases x4 p hp with h | ⟨b', h1, h2, h3⟩
        · exact Or.inl h
        · refine Or.inr ⟨b', h1, h2, ?_⟩
          rw [pu_upd]
          by_cases eb : b' = b
          · subst eb; exact absurd h3 a2
          · rw [if_neg eb, h3]
  · rw [c1 0 (by omega) (by omega)]; exact y1
  · intro b' hb'
    obtain ⟨z1, z2, z3, z4⟩ := y2 b' hb'
    rw [c1 1 (by omega) (by omega), c1 2 (by omega) (by omega), c1 3 (by omega) (by omega), c2, l1 4 (by omega) (by omega), l1 5 (by omega) (by omega), l1 6 (by omega) (by omega), l2, pu_upd, pu_upd, z4]
    exact ⟨z1, z2, z3, rfl⟩
  · intro p hp
    rw [c3 p hp, l3 p hp]
/-! walls -/
def shutF (w : Nat → Int32) : Nat → Nat
  | 0 => 0
  | b + 1 => shutF w b + (if w b = 1 ∨ w b = 3 then 1 else 0)
theorem shutF_S (w : Nat → Int32) (g : HH) (o : Nat) : ∀ m, (∀ b, b < m → w b = wallv g o b) → shutF w m = shutS g o m
  | 0, _ => rfl
  | m + 1, h => by
    show shutF w m + (if w m = 1 ∨ w m = 3 then 1 else 0) = shutS g o m + (if shutB g o m then 1 else 0)
    rw [shutF_S w g o m (fun b hb => h b (by omega)), h m (by omega)]
theorem setW_L : ∀ (m j f : Nat) (hh : HH), j + m = 6 → m < f → ∃ hh', L_Hull_setWall_14 N f (nI (shutF (hh 5) j)) (nI j) hh = some hh' ∧ (∀ r, r ≠ 4 → hh' r = hh r) ∧ (∀ b, j ≤ b → b < 6 → hh' 4 b = nI (shutF (hh 5) b)) ∧ ∀ b, b < j → hh' 4 b = hh 4 b := by
  intro m
  induction m with
  | zero =>
    intro j f hh h1 h2
    obtain ⟨f, rfl⟩ : ∃ z, f = z + 1 := ⟨f - 1, by omega⟩
    have : j = 6 := by omega
    subst this
    unfold L_Hull_setWall_14
    rw [if_pos (by decide)]
    exact ⟨hh, rfl, fun _ _ => rfl, fun b b1 b2 => by omega, fun _ _ => rfl⟩
  | succ m ih =>
    intro j f hh h1 h2
    obtain ⟨f, rfl⟩ : ∃ z, f = z + 1 := ⟨f - 1, by omega⟩
    unfold L_Hull_setWall_14
    have h6 : ¬ (6 : Int32) ≤ nI j := nI_ge (a := j) (b := 6) (by omega) (by omega)
    rw [if_neg h6]
    simp only [pu_let]
    have r5 : sw hh 4 6 (nI j) (nI (shutF (hh 5) j)) 5 = hh 5 := by rw [pu_sw, if_neg (by omega)]
    obtain ⟨hh', i1, i2, i3, i4⟩ := ih (j + 1) f (sw hh 4 6 (nI j) (nI (shutF (hh 5) j))) (by omega) (by omega)
    rw [r5] at i1 i3
    have es : shutF (hh 5) (j + 1) = shutF (hh 5) j + (if hh 5 j = 1 ∨ hh 5 j = 3 then 1 else 0) := rfl
    have e0 : nI (shutF (hh 5) j) + 0 = nI (shutF (hh 5) j) := Int32.add_zero _
    rw [r5, pu_rd _ (by omega) (by omega), e0, nI_1, nI_1]
    refine ⟨hh', ?_, ?_, ?_, ?_⟩
    · by_cases c1 : hh 5 j = 1
      · rw [if_pos c1]
        rw [es, if_pos (Or.inl c1)] at i1
        exact i1
      · rw [if_neg c1]
        by_cases c3 : hh 5 j = 3
        · rw [ifn c3]
          rw [es, if_pos (Or.inr c3)] at i1
          exact i1
        · rw [if_pos c3]
          rw [es, if_neg (fun z => z.elim c1 c3)] at i1
          exact i1
    · intro r hr'; rw [i2 r hr', pu_sw, if_neg hr']
    · intro b b1 b2
      rcases Nat.lt_or_ge j b with y | y
      · exact i3 b y b2
      · have : b = j := by omega
        subst this
        rw [i4 b (by omega), pu_sw, if_pos rfl, pu_wr _ _ (by omega) (by omega), pu_upd, if_pos rfl]
    · intro b hb
      rw [i4 b (by omega), pu_sw, if_pos rfl, pu_wr _ _ (by omega) (by omega), pu_upd, if_neg (by omega)]
theorem setW (hh : HH) {b : Nat} (hb : b < 6) (v : Int32) (hN : 10 ≤ N) : ∃ hh', F_Hull_setWall N (nI b) v hh = some hh' ∧ (∀ r, r ≠ 4 → r ≠ 5 → hh' r = hh r) ∧ hh' 5 = upd (hh 5) b v ∧ ∀ i, i < 6 → hh' 4 i = nI (shutF (upd (hh 5) b v) i) := by
  unfold F_Hull_setWall
  simp only [pu_let]
  have r5 : sw hh 5 6 (nI b) v 5 = upd (hh 5) b v := by rw [pu_sw, if_pos rfl, pu_wr _ _ hb (by omega)]
  obtain ⟨hh', i1, i2, i3, i4⟩ := setW_L (N := N) 6 0 N (sw hh 5 6 (nI b) v) (by omega) (by omega)
  rw [show shutF (sw hh 5 6 (nI b) v 5) 0 = 0 from rfl, show nI 0 = 0 from rfl] at i1
  rw [i1]
  refine ⟨hh', rfl, ?_, ?_, ?_⟩
  · intro r h4 h5; rw [i2 r h4, pu_sw, if_neg h5]
  · rw [i2 5 (by omega), r5]
  · intro i hi; rw [i3 i (by omega) hi, r5]
end MOVE
