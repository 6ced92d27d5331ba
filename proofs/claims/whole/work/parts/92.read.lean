/-! ===== pure: steps of the reader, numbers ===== -/
section RDN
variable {k k' : KS} {g g' g2 gm gm' : HH} {hd hd' ht ht' hu hh hr hc : HH} {B R H D K n o N N' t w s a b kd x : Nat}
theorem num_in' {x y : Int32} (h : NumR x y) (a : Int32) {b : Int32} (hb : b ≤ 999) : F_K_within x a b = F_K_within y a b ∧ (F_K_within x a b ≠ 0 → x = y) := by
  obtain ⟨v, ⟨v1, rfl, rfl⟩ | ⟨rfl, rfl, v1, v2⟩⟩ := h
  · exact ⟨rfl, fun _ => rfl⟩
  · have n1 : ¬ nI 100000 ≤ b := fun z => nI_ge (a := 999) (b := 100000) (by omega) (by omega) (Int32.le_trans z hb)
    have n2 : ¬ nI v ≤ b := fun z => nI_ge (a := 999) (b := v) (by omega) (by omega) (Int32.le_trans z hb)
    rw [pu_w, pu_w, if_neg (fun z => n1 z.2), if_neg (fun z => n2 z.2)]
    exact ⟨rfl, fun z => absurd rfl z⟩
theorem w_01 (a b c : Int32) : F_K_within a b c = 0 ∨ F_K_within a b c = 1 := by
  rw [pu_w]; split
  · exact Or.inr rfl
  · exact Or.inl rfl
/-- a number that is looked at -/
theorem see_ok (P : PP hd ht g s) {lo hi lo' hi' : Int32} (hh' : hd 0 0 = 0 → lo = lo' ∧ hi = hi' ∧ hi ≤ 999) : ∃ v v' hd' g', F_Read_seeNumber lo hi hd ht = (v, hd') ∧ F_Mo_numberHere lo' hi' g = (v', g') ∧ PP hd' ht g' s ∧ FgS g g' ∧ (hd 0 0 ≠ 0 → hd' 0 0 ≠ 0) ∧ (hd' 0 0 = 0 → v = v' ∧ F_K_within v lo hi = 1 ∧ hd' = hd ∧ g' = g ∧ ht 0 2 = 2) := by
  obtain ⟨hf, T, P⟩ := P
  unfold F_Read_seeNumber F_Mo_numberHere
  rcases P with hb | ⟨h0, BR, a, b, kd, Q⟩
  · have gb : g 0 20 ≠ 0 := by rw [← hf.1]; exact hb
    simp only [pu_letn, fail_b _ hb, ite_self]
    rw [good_0 gb, if_pos rfl, good_0 gb, if_pos rfl]
    exact ⟨_, _, hd, g, rfl, rfl, ⟨hf, T, Or.inl hb⟩, FgS.refl g, fun z => z, fun z => absurd z hb⟩
  · have g0 : g 0 20 = 0 := by rw [← hf.1]; exact h0
    obtain ⟨rfl, rfl, h9⟩ := hh' h0
    have hq3 := Q.1.2.2.1
    have k2 : nI kd = (2 : Int32) ↔ kd = 2 := nI_eq (b := 2) (by omega) (by omega)
    rw [good_1 g0, if_neg pu_10, Q.2.2.2.1.1, Q.2.2.2.1.2]
    simp only [pu_letn]
    by_cases ck : kd = 2
    · obtain ⟨w1, w2⟩ := num_in' (Q.2.2.2.2.1 ck) lo h9
      rw [if_pos (k2.mpr ck), if_pos (k2.mpr ck), good_1 g0, if_neg pu_10, pu_inw]
      rcases w_01 (ht 0 4) lo hi with z | z
      · rw [z, ife0, ← w1, z, ife0]
        obtain ⟨f1, f2⟩ := fail_g (ht := ht) (c := 2) h0
        obtain ⟨r1, r2, r3⟩ := errs_g (c := 2) (p := g 0 17) g0
        exact ⟨_, _, _, _, rfl, rfl, ⟨⟨by rw [f1, r1], by rw [f2, r2, Q.2.1.1, Q.2.1.2]⟩, T, Or.inl (by rw [f1]; decide)⟩, r3, fun y => absurd h0 y, fun y => absurd y (by rw [f1]; decide)⟩
      · rw [z, if_pos pu_10, ← w1, z, if_pos pu_10]
        exact ⟨_, _, hd, g, rfl, rfl, ⟨hf, T, Or.inr ⟨h0, BR, a, b, kd, Q⟩⟩, FgS.refl g, fun y => absurd h0 y, fun _ => ⟨w2 (by rw [z]; exact pu_10), z, rfl, rfl, k2.mpr ck⟩⟩
    · obtain ⟨f1, f2⟩ := fail_g (ht := ht) (c := 1) h0
      obtain ⟨r1, r2, r3⟩ := errs_g (c := 1) (p := g 0 17) g0
      rw [if_neg (mt k2.mp ck), if_neg (mt k2.mp ck), good_0 (show F_Mo_errs 1 (g 0 17) g 0 20 ≠ 0 by rw [r1]; decide), if_pos rfl]
      exact ⟨_, _, _, _, rfl, rfl, ⟨⟨by rw [f1, r1], by rw [f2, r2, Q.2.1.1, Q.2.1.2]⟩, T, Or.inl (by rw [f1]; decide)⟩, r3, fun y => absurd h0 y, fun y => absurd y (by rw [f1]; decide)⟩
/-- both go on, if no fault was found; the class goes on anyhow -/
theorem go_on (P : PP hd ht g s) (hN : 1000 ≤ N) (hN' : 1000 ≤ N') : ∃ ht' g', F_Tape_advance N ht = some ht' ∧ (hd 0 0 = 0 → F_Mo_advance N' g = some g') ∧ (hd 0 0 ≠ 0 → g' = g) ∧ PP hd ht' g' s ∧ FgS g g' ∧ (hd 0 0 = 0 → Mv ht ht' 0) ∧ (hd 0 0 = 0 → ht 0 2 ≠ 0 → Mv ht ht' 1) := by
  obtain ⟨hf, T, P⟩ := P
  rcases P with hb | ⟨h0, BR, a, b, kd, Q⟩
  · obtain ⟨ha, v1, v2, -, -⟩ := adv_tot (N := N) T hN
    exact ⟨ha, g, v1, fun z => absurd z hb, fun _ => rfl, ⟨hf, v2, Or.inl hb⟩, FgS.refl g, fun z => absurd z hb, fun z => absurd z hb⟩
  · obtain ⟨h2, g2, u1, u2, u3, u4, u5, u6⟩ := PP.adv (N := N) (N' := N') BR Q hf h0 hN hN'
    refine ⟨h2, g2, u1, fun _ => u2, fun z => absurd h0 z, u3, u4, fun _ => u5, fun _ hk => u6 ?_⟩
    intro z
    rw [Q.2.2.2.1.1, z] at hk
    exact hk rfl
/-- a number that is taken -/
theorem tk_ok (P : PP hd ht g s) {lo hi lo' hi' : Int32} (hh' : hd 0 0 = 0 → lo = lo' ∧ hi = hi' ∧ hi ≤ 999) (hN : 1000 ≤ N) (hN' : 1000 ≤ N') : ∃ v v' hd' ht' g', F_Read_takeNumber N lo hi hd ht = some (v, hd', ht') ∧ F_Mo_number N' lo' hi' g = some (v', g') ∧ PP hd' ht' g' s ∧ FgS g g' ∧ (hd 0 0 ≠ 0 → hd' 0 0 ≠ 0) ∧ (hd' 0 0 = 0 → v = v' ∧ F_K_within v lo hi = 1 ∧ hd' = hd ∧ Mv ht ht' 0) := by
  obtain ⟨v, v', hd1, g1, a1, a2, P1, F1, b1, c1⟩ := see_ok P hh'
  obtain ⟨ht2, g2, d1, d2, d3, P2, F2, d4, -⟩ := go_on (N := N) (N' := N') P1 hN hN'
  unfold F_Read_takeNumber F_Mo_number
  rw [a1, a2, pu_letn, pu_letn, d1, bind_sn]
  dsimp only
  by_cases h : hd1 0 0 = 0
  · have g0 : g1 0 20 = 0 := by rw [← P1.1.1]; exact h
    rw [good_1 g0, if_neg pu_10, d2 h, bind_sn]
    obtain ⟨e1, e2, e3, e4, -⟩ := c1 h
    exact ⟨v, v', hd1, ht2, g2, rfl, rfl, P2, F1.tr F2, b1, fun _ => ⟨e1, e2, e3, d4 h⟩⟩
  · have g0 : g1 0 20 ≠ 0 := by rw [← P1.1.1]; exact h
    rw [good_0 g0, if_pos rfl]
    have e := d3 h
    subst e
    exact ⟨v, v', hd1, ht2, g2, rfl, rfl, P2, F1, b1, fun z => absurd z h⟩
/-- a word that may stand there -/
theorem op_ok (P : PP hd ht g s) (hx : x < 19) (hN : 1000 ≤ N) (hN' : 1000 ≤ N') : ∃ y y' ht' g', F_Read_takeOption N x ht = some (bi y, ht') ∧ F_Mo_eats N' x g = some (bi y', g') ∧ PP hd ht' g' s ∧ FgS g g' ∧ (hd 0 0 = 0 → y = y' ∧ Mv ht ht' 0) := by
  obtain ⟨ht2, g2, d1, d2, d3, P2, F2, d4, -⟩ := go_on (N := N) (N' := N') P hN hN'
  obtain ⟨hf, T, P⟩ := P
  unfold F_Read_takeOption F_Mo_eats
  rcases P with hb | ⟨h0, BR, a, b, kd, Q⟩
  · have gb : g 0 20 ≠ 0 := by rw [← hf.1]; exact hb
    have eg := d3 hb
    subst eg
    obtain ⟨⟨y, e⟩, -⟩ := isW_tot (N := N) hx (by omega) ht
    have z : F_Mo_isWord N' x g2 = some 0 := by
      unfold F_Mo_isWord
      rw [good_0 gb, if_pos rfl, bind_sn]
      obtain ⟨z, hz⟩ : ∃ z, N' = z + 1 := ⟨N' - 1, by omega⟩
      have : ∀ z, L_Mo_isWord_39 N' (z + 1) x 0 0 g2 = some 0 := by
        intro z
        rw [L_Mo_isWord_39, if_pos hx, if_pos rfl]
        split <;> rfl
      have e := this z
      rw [← hz] at e
      rw [e]; rfl
    rw [e, z, bind_sn, bind_sn, ife0, d1, bind_sn]
    cases y with
    | true =>
      exact ⟨true, false, ht2, g2, rfl, rfl, P2, FgS.refl g2, fun z => absurd z hb⟩
    | false =>
      exact ⟨false, false, ht, g2, rfl, rfl, ⟨hf, T, Or.inl hb⟩, FgS.refl g2, fun z => absurd z hb⟩
  · have g0 : g 0 20 = 0 := by rw [← hf.1]; exact h0
    obtain ⟨y, e1, e2, -⟩ := isW_eq (N := N) (N' := N') BR Q g0 hx (by omega) (by omega)
    rw [e1, e2, bind_sn, bind_sn, d1, d2 h0, bind_sn, bind_sn]
    cases y with
    | true => exact ⟨true, true, ht2, g2, rfl, rfl, P2, F2, fun _ => ⟨rfl, d4 h0⟩⟩
    | false => exact ⟨false, false, ht, g, rfl, rfl, ⟨hf, T, Or.inr ⟨h0, BR, a, b, kd, Q⟩⟩, FgS.refl g, fun _ => ⟨rfl, Mv.refl BR Q⟩⟩
/-- the reference's end of a line -/
def semM (N : Nat) (g : HH) : Option HH := sv_let (if (F_Mo_good g) = 0 then g else (if ¬ (g 0 18) = (3 : Int32) then (sv_let (F_Mo_errs (1 : Int32) (g 0 17) g) fun (gm_3 : HH) => gm_3) else (if (g 0 19) = (59 : Int32) then g else (sv_let (F_Mo_errs (1 : Int32) (g 0 17) g) fun (gm_5 : HH) => gm_5)))) fun (v : HH) => (if (F_Mo_good v) = 0 then (some v) else (Option.bind (F_Mo_advance N v) fun (v8 : HH) => (some v8)))
theorem sem_ok (P : PP hd ht g s) (hN : 1000 ≤ N) (hN' : 1000 ≤ N') : ∃ hd' ht' g', F_Read_skipSemicolon N hd ht = some (hd', ht') ∧ semM N' g = some g' ∧ PP hd' ht' g' s ∧ FgS g g' ∧ (hd 0 0 ≠ 0 → hd' 0 0 ≠ 0) ∧ (hd' 0 0 = 0 → hd' = hd ∧ Mv ht ht' 1) := by
  obtain ⟨ht2, g2, d1, d2, d3, P2, F2, d4, d5⟩ := go_on (N := N) (N' := N') P hN hN'
  obtain ⟨hf, T, P⟩ := P
  obtain ⟨-, y, ey⟩ := isW_tot (x := 5) (N := N) (by omega) (by omega) ht
  unfold F_Read_skipSemicolon semM
  rcases P with hb | ⟨h0, BR, a, b, kd, Q⟩
  · have gb : g 0 20 ≠ 0 := by rw [← hf.1]; exact hb
    have eg := d3 hb
    subst eg
    rw [ey, bind_sn, good_0 gb, if_pos rfl, d1]
    simp only [pu_letn, bind_sn]
    rw [good_0 gb, if_pos rfl, fail_b _ hb, ite_self]
    exact ⟨hd, ht2, g2, rfl, rfl, P2, FgS.refl g2, fun z => z, fun z => absurd z hb⟩
  · have g0 : g 0 20 = 0 := by rw [← hf.1]; exact h0
    have hs := BR.1
    have hq3 := Q.1.2.2.1
    have k3 : nI kd = (3 : Int32) ↔ kd = 3 := nI_eq (b := 3) (by omega) (by omega)
    obtain ⟨f1, f2⟩ := fail_g (ht := ht) (c := 1) h0
    obtain ⟨r1, r2, r3⟩ := errs_g (c := 1) (p := g 0 17) g0
    have bad : ∀ h3, TSf h3 s → ∃ hd' ht' g', some (F_Read_fail 1 hd ht, h3) = some (hd', ht') ∧ some (F_Mo_errs 1 (g 0 17) g) = some g' ∧ PP hd' ht' g' s ∧ FgS g g' ∧ (hd 0 0 ≠ 0 → hd' 0 0 ≠ 0) ∧ (hd' 0 0 = 0 → hd' = hd ∧ Mv ht ht' 1) := fun h3 t3 => ⟨_, _, _, rfl, rfl, ⟨⟨by rw [f1, r1], by rw [f2, r2, Q.2.1.1, Q.2.1.2]⟩, t3, Or.inl (by rw [f1]; decide)⟩, r3, fun y => absurd h0 y, fun y => absurd y (by rw [f1]; decide)⟩
    have gbad : F_Mo_good (F_Mo_errs 1 (g 0 17) g) = 0 := good_0 (by rw [r1]; decide)
    have e5 : F_Tape_isSign N 5 ht = some (if kd = 3 ∧ g 0 19 = 59 then 1 else 0) := by
      unfold F_Tape_isSign F_Tape_matches
      rw [Q.2.2.2.1.1]
      by_cases ck : kd = 3
      · obtain ⟨q1, c, c1, c2, c3⟩ := Q.2.2.2.2.2.1 ck
        have q0 := Q.1.2.1
        have e : F_Tape_matches N 5 ht = some (if nI c = 59 then 1 else 0) := by
          unfold F_Tape_matches
          rw [if_pos (by omega), Q.2.1.1, Q.2.2.1.1, pk_sub (by omega), if_pos (by rw [q1, show a + 1 - a = 1 by omega]; rfl)]
          obtain ⟨z, hz⟩ : ∃ z, N = z + 1 + 1 := ⟨N - 2, by omega⟩
          have : ∀ z, sv_bs (L_Tape_matches_20 N (z + 1 + 1) 5 0 ht) id (fun (_ : Unit) => some (1 : Int32)) = some (if nI c = 59 then 1 else 0) := by
            intro z
            rw [L_Tape_matches_20, if_pos (by omega), if_neg (show ¬ nI (sv_len 5) ≤ 0 by decide), if_pos (show 5 < 19 ∧ sv_in (0 : Int32) (sv_len 5) by decide), Q.2.1.1, Int32.add_zero, pu_rd _ (by omega) (by omega), c2, show sv_chr 5 ((0 : Int32)).toNatClampNeg = 59 by decide]
            by_cases cc : nI c = 59
            · rw [if_pos cc, if_pos cc, L_Tape_matches_20, if_pos (by omega), if_pos (show nI (sv_len 5) ≤ 0 + 1 by decide)]
              rfl
            · rw [if_neg cc, if_neg cc]
              rfl
          have e := this z
          rw [← hz] at e
          exact e
        have e' := e
        unfold F_Tape_matches at e'
        rw [ifn (k3.mpr ck), e', bind_sn, c3]
        by_cases cc : nI c = 59
        · rw [if_pos cc, if_neg pu_10, if_pos ⟨ck, cc⟩]
        · rw [if_neg cc, if_pos rfl, if_neg (fun z => cc z.2)]
      · rw [if_pos (mt k3.mp ck), if_neg (fun z => ck z.1)]
    rw [e5, bind_sn, d1, good_1 g0, if_neg pu_10, Q.2.2.2.1.2]
    simp only [pu_letn, bind_sn]
    by_cases ck : kd = 3
    · rw [ifn (k3.mpr ck)]
      by_cases cc : g 0 19 = 59
      · rw [if_pos (show kd = 3 ∧ g 0 19 = 59 from ⟨ck, cc⟩), if_pos pu_10, if_pos cc, good_1 g0, if_neg pu_10, d2 h0, bind_sn]
        exact ⟨hd, ht2, g2, rfl, rfl, P2, F2, fun z => absurd h0 z, fun _ => ⟨rfl, d5 h0 (by rw [Q.2.2.2.1.1, ck]; decide)⟩⟩
      · rw [if_neg (show ¬ (kd = 3 ∧ g 0 19 = 59) from fun z => cc z.2), ife0, if_neg cc, gbad, if_pos rfl]
        exact bad ht2 P2.2.1
    · rw [if_pos (mt k3.mp ck), if_neg (show ¬ (kd = 3 ∧ g 0 19 = 59) from fun z => ck z.1), ife0, gbad, if_pos rfl]
      exact bad ht2 P2.2.1
end RDN
