/-! ===== pure: a number that may stand there ===== -/
section OPN
variable {g g' g2 : HH} {hd hd' ht ht' : HH} {N N' s x : Nat}
theorem tk_b (h : hd 0 0 ≠ 0) (T : TSf ht s) (lo hi : Int32) (hN : 1000 ≤ N) : ∃ v ht', F_Read_takeNumber N lo hi hd ht = some (v, hd, ht') ∧ TSf ht' s := by
  obtain ⟨ha, v1, v2, -, -⟩ := adv_tot (N := N) T hN
  have e : F_Read_seeNumber lo hi hd ht = (ht 0 4, hd) := by
    unfold F_Read_seeNumber
    simp only [pu_letn, fail_b _ h, ite_self]
  unfold F_Read_takeNumber
  rw [e, pu_letn, v1, bind_sn]
  exact ⟨_, ha, rfl, v2⟩
theorem nu_b (h : g 0 20 ≠ 0) (lo hi : Int32) : F_Mo_number N lo hi g = some (g 0 19, g) := by
  have e : F_Mo_numberHere lo hi g = (g 0 19, g) := by
    unfold F_Mo_numberHere
    rw [good_0 h, if_pos rfl, pu_letn, good_0 h, if_pos rfl]
  unfold F_Mo_number
  rw [e, pu_letn, good_0 h, if_pos rfl]
theorem eat_b (h : g 0 20 ≠ 0) (hx : x < 19) (hN : 1 ≤ N) : F_Mo_eats N x g = some (0, g) := by
  have z : F_Mo_isWord N x g = some 0 := by
    unfold F_Mo_isWord
    rw [good_0 h, if_pos rfl, bind_sn]
    obtain ⟨z, hz⟩ : ∃ z, N = z + 1 := ⟨N - 1, by omega⟩
    have : ∀ z, L_Mo_isWord_39 N (z + 1) x 0 0 g = some 0 := by
      intro z
      rw [L_Mo_isWord_39, if_pos hx, if_pos rfl]
      split <;> rfl
    have e := this z
    rw [← hz] at e
    rw [e]; rfl
  unfold F_Mo_eats
  rw [z, bind_sn, ife0]
theorem opn_ok (P : PP hd ht g s) (hx : x < 19) (d : Int32) (hN : 1000 ≤ N) (hN' : 1000 ≤ N') : ∃ v v' hd' ht' g', (Option.bind (F_Read_takeOption N x ht) fun v12 => if v12.1 = 0 then some (d, hd, v12.2) else (Option.bind (F_Read_takeNumber N 1 5 hd v12.2) fun v15 => some (v15.1, v15.2.1, v15.2.2))) = some (v, hd', ht') ∧ (Option.bind (F_Mo_eats N' x g) fun v13 => if v13.1 = 0 then some (d, v13.2) else (Option.bind (F_Mo_number N' 1 5 v13.2) fun v16 => some (v16.1, v16.2))) = some (v', g') ∧ PP hd' ht' g' s ∧ FgS g g' ∧ (hd 0 0 ≠ 0 → hd' 0 0 ≠ 0) ∧ (hd' 0 0 = 0 → v = v' ∧ (v = d ∨ F_K_within v 1 5 = 1) ∧ hd' = hd ∧ Mv ht ht' 0) := by
  obtain ⟨y, y', h1, g1, a1, a2, P1, S1, a3⟩ := op_ok (x := x) (N := N) (N' := N') P hx hN hN'
  by_cases h : hd 0 0 = 0
  · obtain ⟨a4, m1⟩ := a3 h
    subst a4
    rw [a1, a2, bind_sn, bind_sn]
    cases y with
    | false =>
      exact ⟨d, d, hd, h1, g1, rfl, rfl, P1, S1, fun z => z, fun _ => ⟨rfl, Or.inl rfl, rfl, m1⟩⟩
    | true =>
      obtain ⟨v, v', hd2, h2, g2, b1, b2, P2, S2, b3, b4⟩ := tk_ok (N := N) (N' := N') P1 (lo := 1) (hi := 5) (lo' := 1) (hi' := 5) (fun _ => ⟨rfl, rfl, by decide⟩) hN hN'
      rw [if_neg (show ¬ bi true = 0 by decide), if_neg (show ¬ bi true = 0 by decide), b1, b2, bind_sn, bind_sn]
      refine ⟨v, v', hd2, h2, g2, rfl, rfl, P2, S1.tr S2, b3, fun z => ?_⟩
      obtain ⟨c1, c2, c3, c4⟩ := b4 z
      exact ⟨c1, Or.inr c2, c3, m1.tr c4⟩
  · have gb : g 0 20 ≠ 0 := by rw [← P.1.1]; exact h
    obtain ⟨v, h2, b1, b2⟩ := tk_b (N := N) h P1.2.1 1 5 hN
    rw [eat_b gb hx (by omega), bind_sn, a1, bind_sn, if_pos rfl]
    cases y with
    | false =>
      exact ⟨d, d, hd, h1, g, rfl, rfl, ⟨P.1, P1.2.1, Or.inl h⟩, FgS.refl g, fun z => z, fun z => absurd z h⟩
    | true =>
      rw [if_neg (show ¬ bi true = 0 by decide), b1, bind_sn]
      exact ⟨v, d, hd, h2, g, rfl, rfl, ⟨P.1, b2, Or.inl h⟩, FgS.refl g, fun z => z, fun z => absurd z h⟩
end OPN
