/-! ===== pure: steps of the reader ===== -/
section RDR
variable {k k' : KS} {g g' g2 gm gm' : HH} {hd hd' ht ht' hu hh hr hc : HH} {B R H D K n o N N' t w s a b kd x : Nat}
theorem len_b : ∀ x, x < 19 → 1 ≤ sv_len x ∧ sv_len x ≤ 20 := by decide
theorem match_tot (hx : x < 19) : ∀ (m i f : Nat), i + m = sv_len x → m < f → ∃ y, sv_bs (L_Tape_matches_20 N f x (nI i) ht) id (fun (_ : Unit) => some (1 : Int32)) = some (bi y) := by
  intro m
  have hl := len_b x hx
  induction m with
  | zero =>
    intro i f h1 h2
    obtain ⟨f, rfl⟩ : ∃ z, f = z + 1 := ⟨f - 1, by omega⟩
    refine ⟨true, ?_⟩
    rw [L_Tape_matches_20, if_pos hx, if_pos (nI_le (by omega) (by omega))]
    rfl
  | succ m ih =>
    intro i f h1 h2
    obtain ⟨f, rfl⟩ : ∃ z, f = z + 1 := ⟨f - 1, by omega⟩
    have ii : x < 19 ∧ sv_in (nI i) (sv_len x) := ⟨hx, pu_in (by omega) (by omega)⟩
    rw [L_Tape_matches_20, if_pos hx, if_neg (nI_ge (by omega) (by omega)), if_pos ii, nI_1]
    split
    · exact ih (i + 1) f (by omega) (by omega)
    · exact ⟨false, rfl⟩
theorem isW_tot (hx : x < 19) (hN : 30 ≤ N) (ht : HH) : (∃ y, F_Tape_isWord N x ht = some (bi y)) ∧ ∃ y, F_Tape_isSign N x ht = some (bi y) := by
  have hl := len_b x hx
  have M : ∃ y, F_Tape_matches N x ht = some (bi y) := by
    unfold F_Tape_matches
    rw [if_pos hx]
    split
    · obtain ⟨y, e⟩ := match_tot (N := N) (ht := ht) hx (sv_len x) 0 N (by omega) (by omega)
      exact ⟨y, e⟩
    · exact ⟨false, rfl⟩
  obtain ⟨y, e⟩ := M
  unfold F_Tape_isWord F_Tape_isSign
  rw [e, bind_sn]
  constructor
  · split
    · exact ⟨false, rfl⟩
    · cases y
      · exact ⟨false, rfl⟩
      · exact ⟨true, rfl⟩
  · split
    · exact ⟨false, rfl⟩
    · cases y
      · exact ⟨false, rfl⟩
      · exact ⟨true, rfl⟩
theorem match_eq (T : ByR ht g s) (K1 : ∀ i, a ≤ i → i < b → ∃ c, 97 ≤ c ∧ c ≤ 122 ∧ ht 1 i = nI c ∧ g 9 i = nI c) (h3 : ht 0 3 = nI a) (h17 : g 0 17 = nI a) (hx : x < 19) (hb : b ≤ s) (hl : a + sv_len x = b) : ∀ (m i f f' : Nat), i + m = sv_len x → m < f → m < f' → ∃ y, sv_bs (L_Tape_matches_20 N f x (nI i) ht) id (fun (_ : Unit) => some (1 : Int32)) = some (bi y) ∧ L_Mo_isWord_39 N' f' x 1 (nI i) g = some (bi y) := by
  intro m
  have hs := T.1
  have hl' := len_b x hx
  induction m with
  | zero =>
    intro i f f' h1 h2 h2'
    obtain ⟨f, rfl⟩ : ∃ z, f = z + 1 := ⟨f - 1, by omega⟩
    obtain ⟨f', rfl⟩ : ∃ z, f' = z + 1 := ⟨f' - 1, by omega⟩
    refine ⟨true, ?_, ?_⟩
    · rw [L_Tape_matches_20, if_pos hx, if_pos (nI_le (by omega) (by omega))]
      rfl
    · rw [L_Mo_isWord_39, if_pos hx, if_pos (nI_le (by omega) (by omega))]
      rfl
  | succ m ih =>
    intro i f f' h1 h2 h2'
    obtain ⟨f, rfl⟩ : ∃ z, f = z + 1 := ⟨f - 1, by omega⟩
    obtain ⟨f', rfl⟩ : ∃ z, f' = z + 1 + 1 := ⟨f' - 2, by omega⟩
    have ii : x < 19 ∧ sv_in (nI i) (sv_len x) := ⟨hx, pu_in (by omega) (by omega)⟩
    have i9 : sv_in (nI (a + i)) 900 := pu_in (by omega) (by omega)
    obtain ⟨c, c1, c2, c3, c4⟩ := K1 (a + i) (by omega) (by omega)
    rw [L_Tape_matches_20, L_Mo_isWord_39, if_pos hx, if_pos hx, if_neg (nI_ge (by omega) (by omega)), if_neg (nI_ge (by omega) (by omega)), if_pos ii, if_pos ii, h3, h17, nI_add, if_neg pu_10, if_pos i9, nI_clamp (n := a + i) (by omega), pu_rd _ (by omega) (by omega), c3, c4, nI_clamp (n := i) (by omega), nI_1]
    by_cases e : nI c = sv_chr x i
    · rw [if_pos e, ifn e]
      exact ih (i + 1) f (f' + 1) (by omega) (by omega) (by omega)
    · rw [if_neg e, if_pos e]
      refine ⟨false, rfl, ?_⟩
      rw [L_Mo_isWord_39, if_pos hx, if_pos rfl]
      split <;> rfl
theorem isW_eq (T : ByR ht g s) (Q : Tok ht g s a b kd) (h20 : g 0 20 = 0) (hx : x < 19) (hN : 30 ≤ N) (hN' : 30 ≤ N') : ∃ y, F_Tape_isWord N x ht = some (bi y) ∧ F_Mo_isWord N' x g = some (bi y) ∧ (y = true → kd = 1) := by
  have hs := T.1
  have hl := len_b x hx
  obtain ⟨⟨q1, q2, q3, q4⟩, ⟨q5, q6⟩, ⟨q7, q8⟩, ⟨q9, q10⟩, q11, q12, q13⟩ := Q
  have hgood : F_Mo_good g = 1 := by unfold F_Mo_good; rw [h20, ife0]
  have zero : L_Mo_isWord_39 N' N' x 0 0 g = some 0 := by
    obtain ⟨z, hz⟩ : ∃ z, N' = z + 1 := ⟨N' - 1, by omega⟩
    have : ∀ z, L_Mo_isWord_39 N' (z + 1) x 0 0 g = some 0 := by
      intro z
      rw [L_Mo_isWord_39, if_pos hx, if_pos rfl]
      split <;> rfl
    have e := this z
    rw [← hz] at e
    exact e
  unfold F_Tape_isWord F_Mo_isWord F_Tape_matches
  rw [hgood, if_neg pu_10, q9, q10, q7, q5, q8, q6, pk_sub q1, if_pos hx, if_pos hx]
  have k1 : nI kd = (1 : Int32) ↔ kd = 1 := nI_eq (b := 1) (by omega) (by omega)
  have ln : nI (b - a) = nI (sv_len x) ↔ b - a = sv_len x := nI_eq (by omega) (by omega)
  by_cases ck : kd = 1
  · rw [ifn (k1.mpr ck), ifn (k1.mpr ck)]
    by_cases cl : b - a = sv_len x
    · rw [if_pos (ln.mpr cl), ifn (ln.mpr cl), bind_sn]
      obtain ⟨y, e1, e2⟩ := match_eq (N := N) (N' := N') T (q13 ck) q5 q6 hx q2 (by omega) (sv_len x) 0 N N' (by omega) (by omega) (by omega)
      rw [show nI 0 = (0 : Int32) from rfl] at e1 e2
      rw [e1, e2, bind_sn, bind_sn]
      cases y
      · exact ⟨false, rfl, rfl, fun _ => ck⟩
      · exact ⟨true, rfl, rfl, fun _ => ck⟩
    · rw [if_neg (mt ln.mp cl), if_pos (mt ln.mp cl), bind_sn, bind_sn, zero, bind_sn]
      exact ⟨false, rfl, rfl, fun z => by cases z⟩
  · rw [if_pos (mt k1.mp ck), if_pos (mt k1.mp ck), bind_sn, zero, bind_sn]
    exact ⟨false, rfl, rfl, fun z => by cases z⟩
/-- the class's text where no more is asked of it -/
def TSf (ht : HH) (s : Nat) : Prop := s ≤ 900 ∧ ht 0 1 = nI s ∧ (∀ i, i < s → ∃ c, c < 256 ∧ ht 1 i = nI c) ∧ ∃ b, b ≤ s ∧ ht 0 5 = nI b
theorem and_255 : ∀ c, c < 256 → nI c &&& 255 = nI c := by decide +kernel
theorem adv_tot (T : TSf ht s) (hN : 1000 ≤ N) : ∃ ht', F_Tape_advance N ht = some ht' ∧ TSf ht' s ∧ (∀ r, r ≠ 0 → ht' r = ht r) ∧ ht' 0 1 = ht 0 1 := by
  obtain ⟨t1, t2, t3, b, t4, t5⟩ := T
  obtain ⟨g, eg⟩ : ∃ g : HH, g = fun r j => if r = 9 then ht 1 j else if j = 15 then nI s else nI b := ⟨_, rfl⟩
  have BR : ByR ht g s := by
    refine ⟨t1, t2, by rw [eg]; rfl, ?_⟩
    intro i hi
    obtain ⟨c, c1, c2⟩ := t3 i hi
    have e9 : g 9 i = nI c := by rw [eg]; exact c2
    exact ⟨c, c1, c2, by rw [e9]; exact and_255 c c1, fun _ => e9⟩
  obtain ⟨a, b', kd, ht', g', x1, x2, x3, x4, x5, x6, x7, x8⟩ := adv_ok (N := N) (N' := 1000) BR t4 t5 (by rw [eg]; rfl) hN (by omega)
  refine ⟨ht', x1, ⟨t1, by rw [x6]; exact t2, by rw [x5 1 (by omega)]; exact t3, b', x4.1.2.1, x4.2.2.1.1⟩, x5, x6⟩
/-- what the reader and the reference's reader have in common: no fault yet, or one and the same -/
def PP (hd ht g : HH) (s : Nat) : Prop := (hd 0 0 = g 0 20 ∧ hd 0 1 = g 0 21) ∧ TSf ht s ∧ (hd 0 0 ≠ 0 ∨ (hd 0 0 = 0 ∧ ByR ht g s ∧ ∃ a b kd, Tok ht g s a b kd))
/-- the reference's rows that a step leaves -/
def FgS (g g' : HH) : Prop := (∀ r, r ≠ 0 → g' r = g r) ∧ ∀ j, j < 16 ∨ 21 < j → g' 0 j = g 0 j
theorem FgS.refl (g : HH) : FgS g g := ⟨fun _ _ => rfl, fun _ _ => rfl⟩
theorem FgS.tr (h1 : FgS g g') (h2 : FgS g' g2) : FgS g g2 := ⟨fun r h => by rw [h2.1 r h, h1.1 r h], fun j h => by rw [h2.2 j h, h1.2 j h]⟩
theorem good_1 (h : g 0 20 = 0) : F_Mo_good g = 1 := by unfold F_Mo_good; rw [h, ife0]
theorem good_0 (h : g 0 20 ≠ 0) : F_Mo_good g = 0 := by unfold F_Mo_good; rw [if_pos h]
theorem fail_b (c : Int32) (h : hd 0 0 ≠ 0) : F_Read_fail c hd ht = hd := by unfold F_Read_fail; rw [if_pos h]
theorem errs_b (c p : Int32) (h : g 0 20 ≠ 0) : F_Mo_errs c p g = g := by unfold F_Mo_errs; rw [good_0 h, ife0]
theorem fail_g {c : Int32} (h : hd 0 0 = 0) : F_Read_fail c hd ht 0 0 = c ∧ F_Read_fail c hd ht 0 1 = ht 0 3 := by
  unfold F_Read_fail
  rw [ifn h, pu_letn, pu_letn]
  exact ⟨rfl, rfl⟩
theorem errs_g {c p : Int32} (h : g 0 20 = 0) : F_Mo_errs c p g 0 20 = c ∧ F_Mo_errs c p g 0 21 = p ∧ FgS g (F_Mo_errs c p g) := by
  unfold F_Mo_errs
  rw [good_1 h, if_pos pu_10, pu_letn, pu_letn]
  refine ⟨rfl, rfl, fun r hr => by rw [pu_ssr, if_neg hr, pu_ssr, if_neg hr], fun j hj => by rw [pu_ss, if_pos rfl, if_neg (by omega), pu_ss, if_pos rfl, if_neg (by omega)]⟩
/-- how far the reader has come -/
def Mv (ht ht' : HH) (d : Nat) : Prop := ∃ a a', ht 0 3 = nI a ∧ ht' 0 3 = nI a' ∧ a + d ≤ a' ∧ a' ≤ 900
theorem Mv.tr {h1 h2 h3 : HH} {d e : Nat} (m : Mv h1 h2 d) (m' : Mv h2 h3 e) : Mv h1 h3 (d + e) := by
  obtain ⟨a, b, x1, x2, x3, x4⟩ := m
  obtain ⟨c, f, y1, y2, y3, y4⟩ := m'
  have : b = c := (nI_eq (by omega) (by omega)).mp (by rw [← x2, y1])
  subst this
  exact ⟨a, f, x1, y2, by omega, y4⟩
theorem Mv.refl (T : ByR ht g s) (Q : Tok ht g s a b kd) : Mv ht ht 0 := ⟨a, a, Q.2.1.1, Q.2.1.1, by omega, by have := T.1; have := Q.1.1; have := Q.1.2.1; omega⟩
theorem Mv.le {d e : Nat} (m : Mv ht ht' d) (h : e ≤ d) : Mv ht ht' e := by
  obtain ⟨a, b, x1, x2, x3, x4⟩ := m
  exact ⟨a, b, x1, x2, by omega, x4⟩
/-- one advance of both, no fault -/
theorem PP.adv (T : ByR ht g s) (Q : Tok ht g s a b kd) (hf : hd 0 0 = g 0 20 ∧ hd 0 1 = g 0 21) (h0 : hd 0 0 = 0) (hN : 1000 ≤ N) (hN' : 1000 ≤ N') : ∃ ht' g', F_Tape_advance N ht = some ht' ∧ F_Mo_advance N' g = some g' ∧ PP hd ht' g' s ∧ FgS g g' ∧ Mv ht ht' 0 ∧ (kd ≠ 0 → Mv ht ht' 1) := by
  obtain ⟨a', b', kd', ht', g', x1, x2, x3, x4, x5, x6, x7, x8⟩ := adv_ok (N := N) (N' := N') T Q.1.2.1 Q.2.2.1.1 Q.2.2.1.2 hN hN'
  have BR : ByR ht' g' s := T.c (x5 1 (by omega)) x6 (x7 9 (by omega)) (x8 15 (by omega))
  refine ⟨ht', g', x1, x2, ⟨⟨by rw [x8 20 (by omega)]; exact hf.1, by rw [x8 21 (by omega)]; exact hf.2⟩, ⟨T.1, BR.2.1, fun i hi => ?_, b', x4.1.2.1, x4.2.2.1.1⟩, Or.inr ⟨h0, BR, a', b', kd', x4⟩⟩, ⟨x7, fun j hj => x8 j (by omega)⟩, ⟨a, a', Q.2.1.1, x4.2.1.1, by have := Q.1.1; omega, by have := T.1; have := x4.1.1; have := x4.1.2.1; omega⟩, fun hk => ⟨a, a', Q.2.1.1, x4.2.1.1, by have := Q.1.2.2.2 hk; omega, by have := T.1; have := x4.1.1; have := x4.1.2.1; omega⟩⟩
  obtain ⟨c, c1, c2, -⟩ := BR.2.2.2 i hi
  exact ⟨c, c1, c2⟩
/-- a word that must stand there -/
theorem skip_ok (P : PP hd ht g s) (hx : x < 19) (hN : 1000 ≤ N) (hN' : 1000 ≤ N') : ∃ hd' ht' g', F_Read_skipWord N x hd ht = some (hd', ht') ∧ F_Mo_passes N' x g = some g' ∧ PP hd' ht' g' s ∧ FgS g g' ∧ (hd 0 0 ≠ 0 → hd' 0 0 ≠ 0) ∧ (hd' 0 0 = 0 → Mv ht ht' 0) := by
  obtain ⟨hf, T, P⟩ := P
  obtain ⟨ha, v1, v2, -, -⟩ := adv_tot (N := N) T hN
  unfold F_Read_skipWord F_Mo_passes F_Mo_eats
  rcases P with hb | ⟨h0, BR, a, b, kd, Q⟩
  · have gb : g 0 20 ≠ 0 := by rw [← hf.1]; exact hb
    obtain ⟨⟨y, e⟩, -⟩ := isW_tot (N := N) hx (by omega) ht
    have z : F_Mo_isWord N' x g = some 0 := by
      unfold F_Mo_isWord
      rw [good_0 gb, if_pos rfl, bind_sn]
      obtain ⟨z, hz⟩ : ∃ z, N' = z + 1 := ⟨N' - 1, by omega⟩
      have : ∀ z, L_Mo_isWord_39 N' (z + 1) x 0 0 g = some 0 := by
        intro z
        rw [L_Mo_isWord_39, if_pos hx, if_pos rfl]
        split <;> rfl
      have e := this z
      rw [← hz] at e
      rw [e]; rfl
    rw [e, z, bind_sn, bind_sn, ife0, bind_sn, v1, ife0, errs_b _ _ gb]
    simp only [pu_letn, bind_sn]
    rw [fail_b _ hb, ite_self]
    exact ⟨hd, ha, g, rfl, rfl, ⟨hf, v2, Or.inl hb⟩, FgS.refl g, fun z => z, fun z => absurd z hb⟩
  · have g0 : g 0 20 = 0 := by rw [← hf.1]; exact h0
    obtain ⟨y, e1, e2, -⟩ := isW_eq (N := N) (N' := N') BR Q g0 hx (by omega) (by omega)
    rw [e1, e2, bind_sn, bind_sn]
    cases y with
    | true =>
      obtain ⟨h2, g2, u1, u2, u3, u4, u5, -⟩ := PP.adv (N := N) (N' := N') BR Q hf h0 hN hN'
      rw [if_pos (show ¬ bi true = 0 by decide), if_pos (show ¬ bi true = 0 by decide), pu_letn, u1, u2, bind_sn, bind_sn, bind_sn]
      exact ⟨hd, h2, g2, rfl, rfl, u3, u4, fun z => absurd h0 z, fun _ => u5⟩
    | false =>
      rw [if_neg (show ¬ ¬ bi false = 0 by decide), if_neg (show ¬ ¬ bi false = 0 by decide), pu_letn, v1, bind_sn, bind_sn, pu_letn, pu_letn]
      obtain ⟨f1, f2⟩ := fail_g (ht := ht) (c := 1) h0
      obtain ⟨r1, r2, r3⟩ := errs_g (c := 1) (p := g 0 17) g0
      refine ⟨F_Read_fail 1 hd ht, ha, F_Mo_errs 1 (g 0 17) g, rfl, rfl, ⟨⟨by rw [f1, r1], by rw [f2, r2, Q.2.1.1, Q.2.1.2]⟩, v2, Or.inl (by rw [f1]; decide)⟩, r3, fun z => absurd h0 z, fun z => absurd z (by rw [f1]; decide)⟩
end RDR
