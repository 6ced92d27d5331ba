/-! ===== pure: a line on a kind ===== -/
section KND
variable {k k' : KS} {g g' g2 gm gm' : HH} {hd hd' ht ht' hu hh hr hc : HH} {B R H D K n o N N' t w s a b kd x : Nat}
/-- the reference's line on a kind -/
def kindM (N : Nat) (g : HH) (F : HH → Option HH) : Option HH := (if sv_in (6 : Int32) 90 then (sv_let (if ¬ (g 2 ((6 : Int32)).toNatClampNeg) = (7 : Int32) then g else (sv_let (F_Mo_errs (4 : Int32) (g 0 17) g) fun (gm_61 : HH) => gm_61)) fun (v62 : HH) => (if ¬ (F_Mo_good v62) = 0 then (Option.bind (F_Mo_advance N v62) fun (v64 : HH) => (if sv_in (6 : Int32) 90 then (Option.bind (F_Mo_eats N 4 v64) fun (v67 : Int32 × HH) => (Option.bind (if v67.1 = 0 then (Option.bind (F_Mo_eats N 3 v67.2) fun (v70 : Int32 × HH) => (if v70.1 = 0 then some ((0 : Int32), v70.2) else some ((2 : Int32), v70.2))) else some ((1 : Int32), v67.2)) fun (v73 : Int32 × HH) => (if sv_in ((34 : Int32) + (v64 2 ((6 : Int32)).toNatClampNeg)) 90 then (sv_let (sa v73.2 2 ((34 : Int32) + (v64 2 ((6 : Int32)).toNatClampNeg)) v73.1) fun (gm_75 : HH) => (if sv_in (6 : Int32) 90 then (if sv_in (6 : Int32) 90 then (sv_let (sa gm_75 2 (6 : Int32) ((gm_75 2 ((6 : Int32)).toNatClampNeg) + (1 : Int32))) fun (gm_78 : HH) => F gm_78) else none) else none)) else none))) else none)) else (some v62))) else none)
/-- the two words that may follow -/
theorem where_ok (P : PP hd ht g s) (hN : 1000 ≤ N) (hN' : 1000 ≤ N') : ∃ v v' ht' g', (Option.bind (F_Read_takeOption N 4 ht) fun v6 => if v6.1 = 0 then (Option.bind (F_Read_takeOption N 3 v6.2) fun v9 => (if v9.1 = 0 then some ((0 : Int32), v9.2) else some ((2 : Int32), v9.2))) else some ((1 : Int32), v6.2)) = some (v, ht') ∧ (Option.bind (F_Mo_eats N' 4 g) fun v67 => if v67.1 = 0 then (Option.bind (F_Mo_eats N' 3 v67.2) fun v70 => (if v70.1 = 0 then some ((0 : Int32), v70.2) else some ((2 : Int32), v70.2))) else some ((1 : Int32), v67.2)) = some (v', g') ∧ PP hd ht' g' s ∧ FgS g g' ∧ (v = 0 ∨ v = 1 ∨ v = 2) ∧ (hd 0 0 = 0 → v = v' ∧ Mv ht ht' 0) := by
  obtain ⟨y, y', h1, g1, a1, a2, P1, S1, a3⟩ := op_ok (x := 4) (N := N) (N' := N') P (by omega) hN hN'
  by_cases h : hd 0 0 = 0
  · obtain ⟨a4, m1⟩ := a3 h
    subst a4
    rw [a1, a2, bind_sn, bind_sn]
    cases y with
    | true =>
      exact ⟨1, 1, h1, g1, rfl, rfl, P1, S1, Or.inr (Or.inl rfl), fun _ => ⟨rfl, m1⟩⟩
    | false =>
      obtain ⟨z, z', h2, g2, b1, b2, P2, S2, b3⟩ := op_ok (x := 3) (N := N) (N' := N') P1 (by omega) hN hN'
      obtain ⟨b4, m2⟩ := b3 h
      subst b4
      rw [if_pos (show bi false = 0 by decide), if_pos (show bi false = 0 by decide), b1, b2, bind_sn, bind_sn]
      cases z with
      | true => exact ⟨2, 2, h2, g2, rfl, rfl, P2, S1.tr S2, Or.inr (Or.inr rfl), fun _ => ⟨rfl, m1.tr m2⟩⟩
      | false => exact ⟨0, 0, h2, g2, rfl, rfl, P2, S1.tr S2, Or.inl rfl, fun _ => ⟨rfl, m1.tr m2⟩⟩
  · obtain ⟨z, z', h2, g2, b1, b2, P2, S2, b3⟩ := op_ok (x := 3) (N := N) (N' := N') P1 (by omega) hN hN'
    have bad : ∀ {h3 : HH} {g3 : HH}, PP hd h1 g1 s → PP hd h2 g2 s → (h3 = h1 ∨ h3 = h2) → (g3 = g1 ∨ g3 = g2) → PP hd h3 g3 s := by
      intro h3 g3 p1 p2 e1 e2
      have q1 : hd 0 0 = g3 0 20 ∧ hd 0 1 = g3 0 21 := by
        rcases e2 with z | z
        · rw [z]; exact p1.1
        · rw [z]; exact p2.1
      have q2 : TSf h3 s := by
        rcases e1 with z | z
        · rw [z]; exact p1.2.1
        · rw [z]; exact p2.2.1
      exact ⟨q1, q2, Or.inl h⟩
    rw [a1, a2, bind_sn, bind_sn]
    have cK : ∃ v h3, (if bi y = 0 then (Option.bind (F_Read_takeOption N 3 h1) fun v9 => (if v9.1 = 0 then some ((0 : Int32), v9.2) else some ((2 : Int32), v9.2))) else some ((1 : Int32), h1)) = some (v, h3) ∧ (h3 = h1 ∨ h3 = h2) ∧ (v = 0 ∨ v = 1 ∨ v = 2) := by
      rw [b1, bind_sn]
      cases y
      · cases z
        · exact ⟨0, h2, rfl, Or.inr rfl, Or.inl rfl⟩
        · exact ⟨2, h2, rfl, Or.inr rfl, Or.inr (Or.inr rfl)⟩
      · exact ⟨1, h1, rfl, Or.inl rfl, Or.inr (Or.inl rfl)⟩
    have cM : ∃ v g3, (if bi y' = 0 then (Option.bind (F_Mo_eats N' 3 g1) fun v70 => (if v70.1 = 0 then some ((0 : Int32), v70.2) else some ((2 : Int32), v70.2))) else some ((1 : Int32), g1)) = some (v, g3) ∧ (g3 = g1 ∨ g3 = g2) := by
      rw [b2, bind_sn]
      cases y'
      · cases z'
        · exact ⟨0, g2, rfl, Or.inr rfl⟩
        · exact ⟨2, g2, rfl, Or.inr rfl⟩
      · exact ⟨1, g1, rfl, Or.inl rfl⟩
    obtain ⟨v, h3, c1, c2, c3⟩ := cK
    obtain ⟨v', g3, d1, d2⟩ := cM
    refine ⟨v, v', h3, g3, c1, d1, bad P1 P2 c2 d2, ?_, c3, fun z => absurd z h⟩
    rcases d2 with rfl | rfl
    · exact S1
    · exact S1.tr S2
theorem kind_ok (P : PP hd ht g s) (Dr : DR hh hr hc g B R H D K n) (F : HH → Option HH) (hF : ∀ g, g 0 20 ≠ 0 → F g = some g) (hN : 1000 ≤ N) (hN' : 1000 ≤ N') : ∃ hd' ht' hr' g', F_Read_readKind N hd ht hr = some (hd', ht', hr') ∧ kindM N' g F = F g' ∧ PP hd' ht' g' s ∧ FgP g g' ∧ (hd' 0 0 = 0 → (∃ K', DR hh hr' hc g' B R H D K' n) ∧ Mv ht ht' 0) := by
  have r0 : hr 0 0 = nI K := Dr.2.1.1.1
  have r6 : g 2 6 = nI K := Dr.2.1.1.2.1
  have hK : K ≤ 7 := Dr.2.1.1.2.2
  have i6 : sv_in (6 : Int32) 90 := by decide
  have c6 : ((6 : Int32)).toNatClampNeg = 6 := rfl
  obtain ⟨hd1, g1, e1, f1, P1, S1, z1⟩ : ∃ hd1 g1, hd1 = (if hr 0 0 < 7 then hd else F_Read_fail 4 hd ht) ∧ g1 = (if ¬ g 2 6 = 7 then g else F_Mo_errs 4 (g 0 17) g) ∧ PP hd1 ht g1 s ∧ FgS g g1 ∧ (hd1 0 0 = 0 → g1 = g ∧ K < 7) := by
    refine ⟨_, _, rfl, rfl, ?_⟩
    rw [r0, r6]
    have l7 : nI K < (7 : Int32) ↔ K < 7 := nI_ltI (b := 7) (by omega) (by omega)
    have q7 : nI K = (7 : Int32) ↔ K = 7 := nI_eq (b := 7) (by omega) (by omega)
    by_cases c : K < 7
    · rw [if_pos (l7.mpr c), if_pos (mt q7.mp (by omega))]; exact ⟨P, FgS.refl g, fun _ => ⟨rfl, c⟩⟩
    · rw [if_neg (mt l7.mp c), ifn (q7.mpr (by omega))]
      obtain ⟨a, b, c⟩ := err_ok P (c := 4) (by decide)
      exact ⟨a, b, fun z => absurd z c⟩
  obtain ⟨ht2, g2, d1, d2, d3, P2, S2, d4, -⟩ := go_on (N := N) (N' := N') P1 hN hN'
  obtain ⟨v, v', ht3, g3, w1, w2, P3, S3, w3, w4⟩ := where_ok (N := N) (N' := N') P2 hN hN'
  have eK : F_Read_readKind N hd ht hr = if ¬ (hd1 0 0) = 0 then some (hd1, ht3, hr) else some (hd1, ht3, F_Rules_addKind v hr) := by
    unfold F_Read_readKind
    simp only [pu_letn]
    rw [← e1, d1, bind_sn]
    have := w1
    cases q : F_Read_takeOption N 4 ht2 with
    | none => rw [q] at this; cases this
    | some r =>
      rw [q, bind_sn] at this
      rw [bind_sn, this, bind_sn]
  by_cases h : hd1 0 0 = 0
  · obtain ⟨eg, hK7⟩ := z1 h
    obtain ⟨u1, u2⟩ := w4 h
    subst u1
    have g0 : g1 0 20 = 0 := by rw [← P1.1.1]; exact h
    have k2 : g2 2 6 = nI K := by rw [S2.1 2 (by omega), eg]; exact r6
    have e34 : (34 : Int32) + nI K = nI (34 + K) := nI_add 34 K
    have i34 : sv_in (nI (34 + K)) 90 := pu_in (by omega) (by omega)
    obtain ⟨g5, eg5⟩ : ∃ g5, g5 = sa g3 2 (nI (34 + K)) v := ⟨_, rfl⟩
    have g32 : g3 2 = g 2 := by rw [S3.1 2 (by omega), S2.1 2 (by omega), eg]
    have x5 : ∀ j, g5 2 j = if j = 34 + K then v else g 2 j := fun j => by
      rw [eg5, pu_sa, if_pos rfl, nI_clamp (by omega), pu_upd, g32]
    have x56 : g5 2 6 = nI K := by rw [x5, if_neg (by omega)]; exact r6
    obtain ⟨g6, eg6⟩ : ∃ g6, g6 = sa g5 2 6 (nI (K + 1)) := ⟨_, rfl⟩
    have x6 : ∀ j, g6 2 j = if j = 6 then nI (K + 1) else if j = 34 + K then v else g 2 j := fun j => by
      rw [eg6, pu_sa, if_pos rfl, c6, pu_upd, x5]
    have eM : kindM N' g F = F g6 := by
      unfold kindM
      simp only [if_pos i6, c6, pu_letn]
      rw [← f1, good_1 g0, if_pos pu_10, d2 h, bind_sn, k2, e34]
      have := w2
      cases q : F_Mo_eats N' 4 g2 with
      | none => rw [q] at this; cases this
      | some r =>
        rw [q, bind_sn] at this
        rw [bind_sn, this, bind_sn, if_pos i34]
        dsimp only
        rw [← eg5, x56, nI_1, ← eg6]
    rw [eK, ifn h]
    have GP : FgP g g6 := by
      rw [eg6, eg5]
      exact S1.p.tr (S2.p.tr (S3.p.tr ((sa_p g3 2 (Or.inl rfl) _ v).1.tr (sa_p _ 2 (Or.inl rfl) 6 _).1)))
    have PQ : PP hd1 ht3 g6 s := by
      rw [eg6, eg5]
      exact (P3.sa (Or.inl rfl) _ v).sa (Or.inl rfl) 6 _
    refine ⟨hd1, ht3, _, g6, rfl, eM, PQ, GP, fun _ => ⟨⟨K + 1, ?_⟩, (d4 h).tr u2⟩⟩
    have y3 : g6 3 = g 3 := by
      rw [eg6, pu_sa, if_neg (by omega), eg5, pu_sa, if_neg (by omega), S3.1 3 (by omega), S2.1 3 (by omega), eg]
    have y5 : g6 0 5 = g 0 5 := by
      rw [eg6, pu_sa, if_neg (by omega), eg5, pu_sa, if_neg (by omega), S3.2 5 (by omega), S2.2 5 (by omega), eg]
    have ro : ∀ j, j ≠ 6 → j ≠ 34 + K → g6 2 j = g 2 j := fun j a b => by rw [x6, if_neg a, if_neg b]
    have ak : ∀ r, r ≠ 0 → r ≠ 5 → F_Rules_addKind v hr r = hr r := fun r a b => by
      unfold F_Rules_addKind
      rw [pu_letn, pu_letn, pu_ssr, if_neg a, pu_sw, if_neg b]
    have ak0 : F_Rules_addKind v hr 0 0 = nI (K + 1) := by
      unfold F_Rules_addKind
      rw [pu_letn, pu_letn, pu_ss, if_pos rfl, if_pos rfl, pu_sw, if_neg (by omega), r0, nI_1]
    have ak5 : ∀ j, F_Rules_addKind v hr 5 j = if j = K then v else hr 5 j := fun j => by
      unfold F_Rules_addKind
      rw [pu_letn, pu_letn, pu_ssr, if_neg (by omega), pu_sw, if_pos rfl, r0, pu_wr _ _ (by omega) (by omega), pu_upd]
    obtain ⟨⟨a1, a2, a3, a4, a5⟩, ⟨q1, q4, q5, q6⟩, ⟨b1, b2, b3⟩⟩ := Dr
    refine ⟨⟨?_, a2, ⟨?_, ?_, ?_⟩, a4, ?_⟩, ⟨⟨ak0, ?_, by omega⟩, ?_, ?_, ?_⟩, ⟨⟨b1.1, ?_, b1.2.2⟩, ?_, b3⟩⟩
    · obtain ⟨⟨p1, p2, p3, p4⟩, p5⟩ := a1
      exact ⟨⟨(ro 0 (by omega) (by omega)).trans p1, (ro 1 (by omega) (by omega)).trans p2, (ro 2 (by omega) (by omega)).trans p3, (ro 3 (by omega) (by omega)).trans p4⟩, p5⟩
    · rw [ro 4 (by omega) (by omega)]; exact a3.1
    · rw [ro 5 (by omega) (by omega)]; exact a3.2.1
    · rw [y5]; exact a3.2.2
    · intro b hb
      rw [ro (8 + b) (by omega) (by omega)]; exact a5 b hb
    · show g6 2 6 = _
      rw [x6, if_pos rfl]
    · intro l l1 l2
      have lk : ∀ j, j < 4 → gv g6 1 (14 + 4 * l + j) = gv g 1 (14 + 4 * l + j) := fun j hj => ro _ (by omega) (by omega)
      have lk0 : gv g6 1 (14 + 4 * l) = gv g 1 (14 + 4 * l) := lk 0 (by omega)
      rw [lk0, lk 1 (by omega), lk 2 (by omega), lk 3 (by omega), ak 1 (by omega) (by omega), ak 2 (by omega) (by omega), ak 3 (by omega) (by omega), ak 4 (by omega) (by omega)]
      exact q4 l l1 l2
    · intro c hc'
      show F_Rules_addKind v hr 5 c = g6 2 (34 + c) ∧ (g6 2 (34 + c) = 0 ∨ g6 2 (34 + c) = 1 ∨ g6 2 (34 + c) = 2)
      rw [ak5, x6, if_neg (show ¬ 34 + c = 6 by omega)]
      by_cases cc : c = K
      · rw [if_pos cc, if_pos (show 34 + c = 34 + K by omega)]; exact ⟨rfl, w3⟩
      · rw [if_neg cc, if_neg (show ¬ 34 + c = 34 + K by omega)]; exact q5 c (by omega)
    · intro c d hc' hd'
      rw [show gv g6 1 (41 + 7 * c + d) = gv g 1 (41 + 7 * c + d) from ro _ (by omega) (by omega), show gv g6 1 (41 + 7 * d + c) = gv g 1 (41 + 7 * d + c) from ro _ (by omega) (by omega), ak 6 (by omega) (by omega)]
      obtain ⟨p1, p2, p3⟩ := q6 c d hc' hd'
      refine ⟨p1, p2, ?_⟩
      rcases p3 with p3 | ⟨l, ⟨l1, l2, l3⟩, l4⟩
      · exact Or.inl p3
      · refine Or.inr ⟨l, ⟨l1, l2, ?_⟩, l4⟩
        rw [show gv g6 1 (14 + 4 * l) = gv g 1 (14 + 4 * l) from ro _ (by omega) (by omega)]
        exact l3
    · rw [ro 7 (by omega) (by omega)]; exact b1.2.1
    · intro b hb
      rw [y3]
      obtain ⟨⟨kd, k1, k2⟩, k3, k4⟩ := b2 b hb
      exact ⟨⟨kd, by omega, k2⟩, k3, k4⟩
  · have gb : g1 0 20 ≠ 0 := by rw [← P1.1.1]; exact h
    have gb3 : g3 0 20 ≠ 0 := by rw [← P3.1.1]; exact h
    have eM : kindM N' g F = F g1 := by
      unfold kindM
      simp only [if_pos i6, c6, pu_letn]
      rw [← f1, good_0 gb, ife0, hF g1 gb]
    rw [eK, if_pos h]
    exact ⟨hd1, ht3, hr, g1, rfl, eM, ⟨P1.1, P3.2.1, Or.inl h⟩, S1.p, fun z => absurd z h⟩
end KND
