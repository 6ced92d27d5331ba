/-! ===== pure: a line on a box ===== -/
section BXL
variable {g g' g2 : HH} {hd hd' ht ht' hh hr hc : HH} {B R H D K n N N' s x : Nat}
theorem within_n {v : Int32} {lo hi : Nat} (hl : lo ≤ hi) (hh : hi < 2 ^ 30) (h : F_K_within v (nI lo) (nI hi) = 1) : ∃ j, lo ≤ j ∧ j ≤ hi ∧ v = nI j := by
  rcases pu_wc v lo hi hl hh with ⟨j, j1, j2, j3, -⟩ | ⟨-, z⟩
  · exact ⟨j, j1, j2, j3⟩
  · rw [z] at h; exact absurd h (by decide)
/-- the reference reads a box: both in step -/
theorem box_in (P : PP hd ht g s) (hk : hd 0 0 = 0 → hr 0 0 = g 2 6 ∧ hr 0 0 - 1 ≤ 999) (h7 : g 2 7 = nI n) (hn : n < 24) (hN : 1000 ≤ N) (hN' : 1000 ≤ N') : ∃ v6 v10 v17 w6 w10 w17 hd' ht' g', (Option.bind (F_Read_takeNumber N 0 (hr 0 0 - 1) hd ht) fun v6 => (Option.bind (F_Read_skipWord N 17 v6.2.1 v6.2.2) fun v8 => (Option.bind (F_Read_takeNumber N 1 99 v8.1 v8.2) fun v10 => (Option.bind (Option.bind (F_Read_takeOption N 18 v10.2.2) fun v12 => (if v12.1 = 0 then some ((1 : Int32), v10.2.1, v12.2) else (Option.bind (F_Read_takeNumber N 1 5 v10.2.1 v12.2) fun v15 => some (v15.1, v15.2.1, v15.2.2)))) fun v17 => some (v6.1, v10.1, v17))))) = some (v6, v10, v17, hd', ht') ∧ F_Mo_readBox N' g = some g' ∧ PP hd' ht' g' s ∧ FgP g g' ∧ (hd 0 0 ≠ 0 → hd' 0 0 ≠ 0) ∧ (∀ j, g' 2 j = if j = 7 then nI (n + 1) else g 2 j) ∧ (∀ j, g' 3 j = if j = 3 * n + 2 then w17 else if j = 3 * n + 1 then w10 else if j = 3 * n then w6 else g 3 j) ∧ g' 0 5 = g 0 5 ∧ (hd' 0 0 = 0 → (v6 = w6 ∧ v10 = w10 ∧ v17 = w17) ∧ F_K_within v6 0 (hr 0 0 - 1) = 1 ∧ F_K_within v10 1 99 = 1 ∧ (v17 = 1 ∨ F_K_within v17 1 5 = 1) ∧ Mv ht ht' 0) := by
  obtain ⟨v6, w6, hd1, ht1, g1, a1, a2, P1, S1, a3, a4⟩ := tk_ok (N := N) (N' := N') P (lo := 0) (hi := hr 0 0 - 1) (lo' := 0) (hi' := g 2 6 - 1) (fun z => ⟨rfl, by rw [(hk z).1], (hk z).2⟩) hN hN'
  have e3 : (3 : Int32) * nI n = nI (3 * n) := (Int32.ofNat_mul 3 n).symm
  have i0 : sv_in (nI (3 * n)) 72 := pu_in (by omega) (by omega)
  have i1 : sv_in (nI (3 * n + 1)) 72 := pu_in (by omega) (by omega)
  have i2 : sv_in (nI (3 * n + 2)) 72 := pu_in (by omega) (by omega)
  have j6 : sv_in (6 : Int32) 90 := by decide
  have j7 : sv_in (7 : Int32) 90 := by decide
  have c6 : ((6 : Int32)).toNatClampNeg = 6 := rfl
  have c7 : ((7 : Int32)).toNatClampNeg = 7 := rfl
  obtain ⟨hd2, ht2, g2, b1, b2, P2, S2, b3, b4⟩ := skip_ok (x := 17) (N := N) (N' := N') (P1.sa (Or.inr rfl) (nI (3 * n)) w6) (by omega) hN hN'
  obtain ⟨v10, w10, hd3, ht3, g3, d1, d2, P3, S3, d3, d4⟩ := tk_ok (N := N) (N' := N') P2 (lo := 1) (hi := 99) (lo' := 1) (hi' := 99) (fun _ => ⟨rfl, rfl, by decide⟩) hN hN'
  obtain ⟨v17, w17, hd4, ht4, g4, f1, f2, P4, S4, f3, f4⟩ := opn_ok (x := 18) (N := N) (N' := N') (P3.sa (Or.inr rfl) (nI (3 * n + 1)) w10) (by omega) 1 hN hN'
  obtain ⟨g5, eg5⟩ : ∃ g5, g5 = sa g4 3 (nI (3 * n + 2)) w17 := ⟨_, rfl⟩
  have r2 : g5 2 = g 2 := by
    rw [eg5, pu_sa, if_neg (by omega), S4.1 2 (by omega), pu_sa, if_neg (by omega), S3.1 2 (by omega), S2.1 2 (by omega), pu_sa, if_neg (by omega), S1.1 2 (by omega)]
  obtain ⟨g6, eg6⟩ : ∃ g6, g6 = sa g5 2 7 (nI (n + 1)) := ⟨_, rfl⟩
  have x3 : ∀ j, sa g1 3 (nI (3 * n)) w6 3 j = if j = 3 * n then w6 else g 3 j := fun j => by
    rw [pu_sa, if_pos rfl, nI_clamp (by omega), pu_upd, S1.1 3 (by omega)]
  have y3 : ∀ j, sa g3 3 (nI (3 * n + 1)) w10 3 j = if j = 3 * n + 1 then w10 else if j = 3 * n then w6 else g 3 j := fun j => by
    rw [pu_sa, if_pos rfl, nI_clamp (by omega), pu_upd, S3.1 3 (by omega), S2.1 3 (by omega), x3]
  have z3 : ∀ j, g5 3 j = if j = 3 * n + 2 then w17 else if j = 3 * n + 1 then w10 else if j = 3 * n then w6 else g 3 j := fun j => by
    rw [eg5, pu_sa, if_pos rfl, nI_clamp (by omega), pu_upd, S4.1 3 (by omega), y3]
  have eM : F_Mo_readBox N' g = some g6 := by
    unfold F_Mo_readBox
    simp only [if_pos j6, if_pos j7, c6, c7, pu_letn]
    rw [h7, e3, a2, bind_sn, if_pos i0]
    dsimp only
    rw [b2, bind_sn, d2, bind_sn, nI_1, if_pos i1]
    dsimp only
    have := f2
    cases q : F_Mo_eats N' 18 (sa g3 3 (nI (3 * n + 1)) w10) with
    | none => rw [q] at this; cases this
    | some r =>
      rw [q, bind_sn] at this
      rw [bind_sn, this, bind_sn, show nI (3 * n) + 2 = nI (3 * n + 2) from nI_add _ 2, if_pos i2]
      dsimp only
      rw [← eg5, r2, h7, nI_1, ← eg6]
  have GP : FgP g g6 := by
    rw [eg6, eg5]
    exact S1.p.tr ((sa_p g1 3 (Or.inr rfl) _ _).1.tr (S2.p.tr (S3.p.tr ((sa_p g3 3 (Or.inr rfl) _ _).1.tr (S4.p.tr ((sa_p g4 3 (Or.inr rfl) _ _).1.tr (sa_p _ 2 (Or.inl rfl) 7 _).1))))))
  have PQ : PP hd4 ht4 g6 s := by
    rw [eg6, eg5]
    exact (P4.sa (Or.inr rfl) _ _).sa (Or.inl rfl) 7 _
  refine ⟨v6, v10, v17, w6, w10, w17, hd4, ht4, g6, ?_, eM, PQ, GP, fun z => f3 (d3 (b3 (a3 z))), ?_, ?_, ?_, ?_⟩
  · rw [a1, bind_sn]
    dsimp only
    rw [b1, bind_sn]
    dsimp only
    rw [d1, bind_sn]
    dsimp only
    rw [f1, bind_sn]
  · intro j
    rw [eg6, pu_sa, if_pos rfl, c7, pu_upd, r2]
  · intro j
    rw [eg6, pu_sa, if_neg (by omega), z3]
  · rw [eg6, pu_sa, if_neg (by omega), eg5, pu_sa, if_neg (by omega), S4.2 5 (by omega), pu_sa, if_neg (by omega), S3.2 5 (by omega), S2.2 5 (by omega), pu_sa, if_neg (by omega), S1.2 5 (by omega)]
  · intro h
    have h3 : hd3 0 0 = 0 := Classical.byContradiction fun z => (f3 z) h
    have h2 : hd2 0 0 = 0 := Classical.byContradiction fun z => (d3 z) h3
    have h1 : hd1 0 0 = 0 := Classical.byContradiction fun z => (b3 z) h2
    obtain ⟨u1, u2, -, u4⟩ := a4 h1
    obtain ⟨p1, p2, -, p4⟩ := d4 h3
    obtain ⟨q1, q2, -, q4⟩ := f4 h
    exact ⟨⟨u1, p1, q1⟩, u2, p2, q2, ((u4.tr (b4 h2)).tr p4).tr q4⟩
end BXL
