/-! ===== pure: a line on a box, whole; what a fault leaves to the class ===== -/
section BXW
variable {g g' g2 : HH} {hd hd' ht ht' hh hr hc : HH} {B R H D K n N N' s x : Nat}
theorem skip_b (h : hd 0 0 ≠ 0) (T : TSf ht s) (hx : x < 19) (hN : 1000 ≤ N) : ∃ ht', F_Read_skipWord N x hd ht = some (hd, ht') ∧ TSf ht' s := by
  obtain ⟨ha, v1, v2, -, -⟩ := adv_tot (N := N) T hN
  obtain ⟨⟨y, e⟩, -⟩ := isW_tot (N := N) hx (by omega) ht
  unfold F_Read_skipWord
  rw [e, bind_sn, v1]
  simp only [pu_letn, bind_sn]
  rw [fail_b _ h, ite_self]
  exact ⟨ha, rfl, v2⟩
theorem op_b (T : TSf ht s) (hx : x < 19) (hN : 1000 ≤ N) : ∃ y ht', F_Read_takeOption N x ht = some (bi y, ht') ∧ TSf ht' s := by
  obtain ⟨ha, v1, v2, -, -⟩ := adv_tot (N := N) T hN
  obtain ⟨⟨y, e⟩, -⟩ := isW_tot (N := N) hx (by omega) ht
  unfold F_Read_takeOption
  rw [e, bind_sn, v1, bind_sn]
  cases y with
  | true => exact ⟨true, ha, rfl, v2⟩
  | false => exact ⟨false, ht, rfl, T⟩
theorem opn_b (h : hd 0 0 ≠ 0) (T : TSf ht s) (hx : x < 19) (d : Int32) (hN : 1000 ≤ N) : ∃ v ht', (Option.bind (F_Read_takeOption N x ht) fun v12 => if v12.1 = 0 then some (d, hd, v12.2) else (Option.bind (F_Read_takeNumber N 1 5 hd v12.2) fun v15 => some (v15.1, v15.2.1, v15.2.2))) = some (v, hd, ht') ∧ TSf ht' s := by
  obtain ⟨y, h1, a1, a2⟩ := op_b (N := N) T hx hN
  obtain ⟨v, h2, b1, b2⟩ := tk_b (N := N) h a2 1 5 hN
  rw [a1, bind_sn]
  cases y with
  | false => exact ⟨d, h1, rfl, a2⟩
  | true =>
    rw [if_neg (show ¬ bi true = 0 by decide), b1, bind_sn]
    exact ⟨v, h2, rfl, b2⟩
theorem RRel_o (h : RRel hr (gv g) K) (e : ∀ j, j < 90 → (j = 6 ∨ 18 ≤ j) → g' 2 j = g 2 j) : RRel hr (gv g') K := by
  obtain ⟨⟨q1, q2, q3⟩, q4, q5, q6⟩ := h
  have lk : ∀ l, 1 ≤ l → l ≤ 4 → ∀ j, j < 4 → gv g' 1 (14 + 4 * l + j) = gv g 1 (14 + 4 * l + j) := fun l hl hl4 j hj => e (14 + 4 * l + j) (by omega) (by omega)
  have lk0 : ∀ l, 1 ≤ l → l ≤ 4 → gv g' 1 (14 + 4 * l) = gv g 1 (14 + 4 * l) := fun l hl hl4 => lk l hl hl4 0 (by omega)
  have lv : ∀ l, LvOK (gv g') l ↔ LvOK (gv g) l := by
    intro l
    unfold LvOK
    constructor
    · rintro ⟨p1, p2, p3⟩; exact ⟨p1, p2, by rw [← lk0 l p1 p2]; exact p3⟩
    · rintro ⟨p1, p2, p3⟩; exact ⟨p1, p2, by rw [lk0 l p1 p2]; exact p3⟩
  refine ⟨⟨q1, (e 6 (by omega) (by omega)).trans q2, q3⟩, ?_, ?_, ?_⟩
  · intro l l1 l2
    have := q4 l l1 l2
    rw [lk0 l l1 l2, lk l l1 l2 1 (by omega), lk l l1 l2 2 (by omega), lk l l1 l2 3 (by omega)]
    exact this
  · intro c hc'
    rw [show gv g' 1 (34 + c) = gv g 1 (34 + c) from e (34 + c) (by omega) (by omega)]
    exact q5 c hc'
  · intro c d hc' hd'
    rw [show gv g' 1 (41 + 7 * c + d) = gv g 1 (41 + 7 * c + d) from e (41 + 7 * c + d) (by omega) (by omega), show gv g' 1 (41 + 7 * d + c) = gv g 1 (41 + 7 * d + c) from e (41 + 7 * d + c) (by omega) (by omega)]
    obtain ⟨p1, p2, p3⟩ := q6 c d hc' hd'
    refine ⟨p1, p2, ?_⟩
    rcases p3 with p3 | ⟨l, l1, l2⟩
    · exact Or.inl p3
    · exact Or.inr ⟨l, (lv l).mpr l1, l2⟩
theorem HuR_o (h : HuR hh g B R H D) (e : ∀ j, j < 6 ∨ (8 ≤ j ∧ j < 14) → g' 2 j = g 2 j) (h5 : g' 0 5 = g 0 5) : HuR hh g' B R H D := by
  obtain ⟨⟨⟨p1, p2, p3, p4⟩, p5⟩, x2, ⟨y1, y2, y3⟩, x4, x5⟩ := h
  refine ⟨⟨⟨(e 0 (by omega)).trans p1, (e 1 (by omega)).trans p2, (e 2 (by omega)).trans p3, (e 3 (by omega)).trans p4⟩, p5⟩, x2, ⟨by rw [e 4 (by omega)]; exact y1, by rw [e 5 (by omega)]; exact y2, by rw [h5]; exact y3⟩, x4, ?_⟩
  intro b hb
  rw [e (8 + b) (by omega)]
  exact x5 b hb
theorem CaR_o (h : CaR hc g K n) (e7 : g' 2 7 = g 2 7) (e3 : g' 3 = g 3) : CaR hc g' K n := by
  unfold CaR at *
  rw [e7, e3]
  exact h
/-- the reference's line on a box -/
def boxM (N : Nat) (g : HH) (F : HH → Option HH) : Option HH := (if sv_in (7 : Int32) 90 then (sv_let (if ¬ (g 2 ((7 : Int32)).toNatClampNeg) = (24 : Int32) then g else (sv_let (F_Mo_errs (4 : Int32) (g 0 17) g) fun (gm_32 : HH) => gm_32)) fun (v33 : HH) => (if ¬ (F_Mo_good v33) = 0 then (Option.bind (F_Mo_advance N v33) fun (v35 : HH) => (Option.bind (F_Mo_readBox N v35) fun (v37 : HH) => F v37)) else (some v33))) else none)
theorem box_ok (P : PP hd ht g s) (Dr : DR hh hr hc g B R H D K n) (F : HH → Option HH) (hF : ∀ g, g 0 20 ≠ 0 → F g = some g) (hN : 1000 ≤ N) (hN' : 1000 ≤ N') : ∃ hd' ht' hc' g', F_Read_readBox N hd ht hr hc = some (hd', ht', hc') ∧ boxM N' g F = F g' ∧ PP hd' ht' g' s ∧ FgP g g' ∧ (hd' 0 0 = 0 → (∃ n', DR hh hr hc' g' B R H D K n') ∧ Mv ht ht' 0) := by
  have r0 : hr 0 0 = nI K := Dr.2.1.1.1
  have r6 : g 2 6 = nI K := Dr.2.1.1.2.1
  have hK : K ≤ 7 := Dr.2.1.1.2.2
  have c0 : hc 0 0 = nI n := Dr.2.2.1.1
  have r7 : g 2 7 = nI n := Dr.2.2.1.2.1
  have hn : n ≤ 24 := Dr.2.2.1.2.2
  have i7 : sv_in (7 : Int32) 90 := by decide
  have c7 : ((7 : Int32)).toNatClampNeg = 7 := rfl
  have k9 : ∀ K, K < 8 → nI K - 1 ≤ (999 : Int32) := by decide
  obtain ⟨hd1, g1, e1, f1, P1, S1, z1⟩ : ∃ hd1 g1, hd1 = (if hc 0 0 < 24 then hd else F_Read_fail 4 hd ht) ∧ g1 = (if ¬ g 2 7 = 24 then g else F_Mo_errs 4 (g 0 17) g) ∧ PP hd1 ht g1 s ∧ FgS g g1 ∧ (hd1 0 0 = 0 → g1 = g ∧ n < 24) := by
    refine ⟨_, _, rfl, rfl, ?_⟩
    rw [c0, r7]
    have l7 : nI n < (24 : Int32) ↔ n < 24 := nI_ltI (b := 24) (by omega) (by omega)
    have q7 : nI n = (24 : Int32) ↔ n = 24 := nI_eq (b := 24) (by omega) (by omega)
    by_cases c : n < 24
    · rw [if_pos (l7.mpr c), if_pos (mt q7.mp (by omega))]; exact ⟨P, FgS.refl g, fun _ => ⟨rfl, c⟩⟩
    · rw [if_neg (mt l7.mp c), ifn (q7.mpr (by omega))]
      obtain ⟨a, b, c⟩ := err_ok P (c := 4) (by decide)
      exact ⟨a, b, fun z => absurd z c⟩
  obtain ⟨ht2, g2, d1, d2, d3, P2, S2, d4, -⟩ := go_on (N := N) (N' := N') P1 hN hN'
  have eK : F_Read_readBox N hd ht hr hc = Option.bind (Option.bind (F_Read_takeNumber N 0 (hr 0 0 - 1) hd1 ht2) fun v6 => (Option.bind (F_Read_skipWord N 17 v6.2.1 v6.2.2) fun v8 => (Option.bind (F_Read_takeNumber N 1 99 v8.1 v8.2) fun v10 => (Option.bind (Option.bind (F_Read_takeOption N 18 v10.2.2) fun v12 => (if v12.1 = 0 then some ((1 : Int32), v10.2.1, v12.2) else (Option.bind (F_Read_takeNumber N 1 5 v10.2.1 v12.2) fun v15 => some (v15.1, v15.2.1, v15.2.2)))) fun v17 => some (v6.1, v10.1, v17))))) fun r => (if ¬ (r.2.2.2.1 0 0) = 0 then some (r.2.2.2.1, r.2.2.2.2, hc) else some (r.2.2.2.1, r.2.2.2.2, (F_Cargo_add r.1 r.2.1 r.2.2.1 hc).2)) := by
    unfold F_Read_readBox
    simp only [pu_letn, Option.bind_assoc, bind_sn]
    rw [← e1, d1, bind_sn]
  by_cases h : hd1 0 0 = 0
  · obtain ⟨eg, hn4⟩ := z1 h
    have g0 : g1 0 20 = 0 := by rw [← P1.1.1]; exact h
    have s2 : g2 2 = g 2 := by rw [S2.1 2 (by omega), eg]
    have s3 : g2 3 = g 3 := by rw [S2.1 3 (by omega), eg]
    have s5 : g2 0 5 = g 0 5 := by rw [S2.2 5 (by omega), eg]
    obtain ⟨v6, v10, v17, w6, w10, w17, hd4, ht4, g6, b1, b2, P4, G4, b3, b4, b5, b6, b7⟩ := box_in (hr := hr) (n := n) (N := N) (N' := N') P2 (fun _ => ⟨by rw [s2, r0, r6], by rw [r0]; exact k9 K (by omega)⟩) (by rw [s2]; exact r7) hn4 hN hN'
    have eM : boxM N' g F = F g6 := by
      unfold boxM
      simp only [if_pos i7, c7, pu_letn]
      rw [← f1, good_1 g0, if_pos pu_10, d2 h, bind_sn, b2, bind_sn]
    have GP : FgP g g6 := S1.p.tr (S2.p.tr G4)
    rw [eK, b1, bind_sn]
    dsimp only
    by_cases h4 : hd4 0 0 = 0
    · rw [ifn h4]
      refine ⟨hd4, ht4, _, g6, rfl, eM, P4, GP, fun _ => ⟨⟨n + 1, ?_⟩, ?_⟩⟩
      · obtain ⟨⟨u1, u2, u3⟩, u4, u5, u6, -⟩ := b7 h4
        subst u1 u2 u3
        rw [r0] at u4
        have x6 : ∃ kd, kd < K ∧ v6 = nI kd := by
          rcases pu_wn v6 (n := K) (by omega) with ⟨j, j1, j2, -⟩ | ⟨-, z⟩
          · exact ⟨j, j1, j2⟩
          · rw [z] at u4; exact absurd u4 (by decide)
        have x10 := within_n (v := v10) (lo := 1) (hi := 99) (by omega) (by omega) u5
        have x17 : ∃ t, 1 ≤ t ∧ t ≤ 5 ∧ v17 = nI t := by
          rcases u6 with u | u
          · exact ⟨1, by omega, by omega, u⟩
          · exact within_n (v := v17) (lo := 1) (hi := 5) (by omega) (by omega) u
        obtain ⟨ca, eca⟩ : ∃ ca, ca = (F_Cargo_add v6 v10 v17 hc).2 := ⟨_, rfl⟩
        have y0 : ca 0 0 = nI (n + 1) := by
          rw [eca]; unfold F_Cargo_add; simp only [pu_letn]
          rw [pu_ss, if_pos rfl, if_pos rfl, pu_sw, if_neg (by omega), pu_sw, if_neg (by omega), pu_sw, if_neg (by omega), pu_sw, if_neg (by omega), c0, nI_1]
        have y1 : ∀ j, ca 1 j = if j = n then v6 else hc 1 j := fun j => by
          rw [eca]; unfold F_Cargo_add; simp only [pu_letn]
          rw [pu_ssr, if_neg (by omega), pu_sw, if_neg (by omega), pu_sw, if_neg (by omega), pu_sw, if_neg (by omega), pu_sw, if_pos rfl, c0, pu_wr _ _ (by omega) (by omega), pu_upd]
        have y2 : ∀ j, ca 2 j = if j = n then v10 else hc 2 j := fun j => by
          rw [eca]; unfold F_Cargo_add; simp only [pu_letn]
          rw [pu_ssr, if_neg (by omega), pu_sw, if_neg (by omega), pu_sw, if_neg (by omega), pu_sw, if_pos rfl, pu_sw, if_neg (by omega), c0, pu_wr _ _ (by omega) (by omega), pu_upd]
        have y3 : ∀ j, ca 3 j = if j = n then v17 else hc 3 j := fun j => by
          rw [eca]; unfold F_Cargo_add; simp only [pu_letn]
          rw [pu_ssr, if_neg (by omega), pu_sw, if_neg (by omega), pu_sw, if_pos rfl, pu_sw, if_neg (by omega), pu_sw, if_neg (by omega), c0, pu_wr _ _ (by omega) (by omega), pu_upd]
        have y4 : ∀ j, ca 4 j = if j = n then -1 else hc 4 j := fun j => by
          rw [eca]; unfold F_Cargo_add; simp only [pu_letn]
          rw [pu_ssr, if_neg (by omega), pu_sw, if_pos rfl, pu_sw, if_neg (by omega), pu_sw, if_neg (by omega), pu_sw, if_neg (by omega), c0, pu_wr _ _ (by omega) (by omega), pu_upd]
        have y5 : ca 5 = hc 5 := by
          rw [eca]; unfold F_Cargo_add; simp only [pu_letn]
          rw [pu_ssr, if_neg (by omega), pu_sw, if_neg (by omega), pu_sw, if_neg (by omega), pu_sw, if_neg (by omega), pu_sw, if_neg (by omega)]
        rw [← eca]
        obtain ⟨dh, dr, ⟨-, dc2, dc3, dc4⟩⟩ := Dr
        refine ⟨HuR_o dh (fun j hj => by rw [b4, if_neg (by omega), s2]) (by rw [b6, s5]), RRel_o dr (fun j _ hj => by rw [b4, if_neg (by omega), s2]), ⟨y0, by rw [b4, if_pos rfl], by omega⟩, ?_, ?_, ?_⟩
        · intro b hb
          rw [y1, y2, y3, b5, b5, b5, s3]
          by_cases cb : b = n
          · subst cb
            rw [if_pos rfl, if_pos rfl, if_pos rfl, if_neg (show ¬ 3 * b = 3 * b + 2 by omega), if_neg (show ¬ 3 * b = 3 * b + 1 by omega), if_pos rfl, if_neg (show ¬ 3 * b + 1 = 3 * b + 2 by omega), if_pos rfl, if_pos rfl]
            obtain ⟨j1, j2, j3⟩ := x6
            obtain ⟨k1, k2, k3, k4⟩ := x10
            obtain ⟨l1, l2, l3, l4⟩ := x17
            exact ⟨⟨j1, j2, j3, j3⟩, ⟨k1, k2, k3, k4, k4⟩, ⟨l1, l2, l3, l4, l4⟩⟩
          · rw [if_neg cb, if_neg cb, if_neg cb, if_neg (show ¬ 3 * b = 3 * n + 2 by omega), if_neg (show ¬ 3 * b = 3 * n + 1 by omega), if_neg (show ¬ 3 * b = 3 * n by omega), if_neg (show ¬ 3 * b + 1 = 3 * n + 2 by omega), if_neg (show ¬ 3 * b + 1 = 3 * n + 1 by omega), if_neg (show ¬ 3 * b + 1 = 3 * n by omega), if_neg (show ¬ 3 * b + 2 = 3 * n + 2 by omega), if_neg (show ¬ 3 * b + 2 = 3 * n + 1 by omega), if_neg (show ¬ 3 * b + 2 = 3 * n by omega)]
            exact dc2 b (by omega)
        · intro b hb
          rw [y4]
          by_cases cb : b = n
          · rw [if_pos cb]
          · rw [if_neg cb]; exact dc3 b hb
        · rw [y5]; exact dc4
      · exact (d4 h).tr (b7 h4).2.2.2.2
    · rw [if_pos h4]
      exact ⟨hd4, ht4, hc, g6, rfl, eM, P4, GP, fun z => absurd z h4⟩
  · have gb : g1 0 20 ≠ 0 := by rw [← P1.1.1]; exact h
    have eM : boxM N' g F = F g1 := by
      unfold boxM
      simp only [if_pos i7, c7, pu_letn]
      rw [← f1, good_0 gb, ife0, hF g1 gb]
    obtain ⟨v6, h3, a1, a2⟩ := tk_b (N := N) h P2.2.1 0 (hr 0 0 - 1) hN
    obtain ⟨h4, a3, a4⟩ := skip_b (x := 17) (N := N) h a2 (by omega) hN
    obtain ⟨v10, h5, a5, a6⟩ := tk_b (N := N) h a4 1 99 hN
    obtain ⟨v17, h6, a7, a8⟩ := opn_b (x := 18) (N := N) h a6 (by omega) 1 hN
    rw [eK, a1, bind_sn]
    dsimp only
    rw [a3, bind_sn]
    dsimp only
    rw [a5, bind_sn]
    dsimp only
    rw [a7, bind_sn, bind_sn]
    dsimp only
    rw [if_pos h]
    exact ⟨hd1, h6, hc, g1, rfl, eM, ⟨P1.1, a8, Or.inl h⟩, S1.p, fun z => absurd z h⟩
end BXW
