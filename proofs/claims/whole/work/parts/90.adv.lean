/-! ===== pure: the next part of the text ===== -/
section ADV
variable {k k' : KS} {g g' g2 gm gm' : HH} {hd ht ht' hu hh hr hc : HH} {B R H D K n o N N' t w s : Nat}
/-- the part of the text that both look at -/
def Tok (ht g : HH) (s a b kd : Nat) : Prop := (a ≤ b ∧ b ≤ s ∧ kd ≤ 3 ∧ (kd ≠ 0 → a < b)) ∧ (ht 0 3 = nI a ∧ g 0 17 = nI a) ∧ (ht 0 5 = nI b ∧ g 0 16 = nI b) ∧ (ht 0 2 = nI kd ∧ g 0 18 = nI kd) ∧ (kd = 2 → NumR (ht 0 4) (g 0 19)) ∧ (kd = 3 → b = a + 1 ∧ ∃ c, c < 256 ∧ ht 1 a = nI c ∧ g 0 19 = nI c) ∧ (kd = 1 → ∀ i, a ≤ i → i < b → ∃ c, 97 ≤ c ∧ c ≤ 122 ∧ ht 1 i = nI c ∧ g 9 i = nI c)
theorem adv_ok (T : ByR ht g s) {b0 : Nat} (hb : b0 ≤ s) (h5 : ht 0 5 = nI b0) (h16 : g 0 16 = nI b0) (hN : 1000 ≤ N) (hN' : 1000 ≤ N') : ∃ a b kd ht' g', F_Tape_advance N ht = some ht' ∧ F_Mo_advance N' g = some g' ∧ b0 ≤ a ∧ Tok ht' g' s a b kd ∧ (∀ r, r ≠ 0 → ht' r = ht r) ∧ ht' 0 1 = ht 0 1 ∧ (∀ r, r ≠ 0 → g' r = g r) ∧ ∀ j, j < 16 ∨ 19 < j → g' 0 j = g 0 j := by
  have hs := T.1
  have T1 : ByR (ss ht 3 (nI b0)) g s := T.c (by rw [pu_ssr, if_neg (by omega)]) (by rw [pu_ss, if_pos rfl, if_neg (by omega)]) rfl rfl
  obtain ⟨a, h2, g2, x1, x2, x3, x4, x5, x6, x7, x8, x9, x10⟩ := adv_0 (N := N) (N' := N') (s - b0) b0 N N' (ss ht 3 (nI b0)) g T1 (by omega) (by rw [pu_ss, if_pos rfl, if_pos rfl]) h16 (by omega) (by omega)
  -- what both have behind the blanks
  obtain ⟨h6, e6⟩ : ∃ h6, h6 = ss h2 5 (nI a) := ⟨_, rfl⟩
  obtain ⟨g6, f6⟩ : ∃ g6, g6 = ss g2 17 (nI a) := ⟨_, rfl⟩
  have p1 : ∀ r, r ≠ 0 → h6 r = ht r := fun r h => by rw [e6, pu_ssr, if_neg h, x7 r h, pu_ssr, if_neg h]
  have p2 : ∀ j, j ≠ 3 → j ≠ 5 → h6 0 j = ht 0 j := fun j h3 h5 => by rw [e6, pu_ss, if_pos rfl, if_neg h5, x8 j h3, pu_ss, if_pos rfl, if_neg h3]
  have p3 : h6 0 3 = nI a := by rw [e6, pu_ss, if_pos rfl, if_neg (by omega)]; exact x5
  have p5 : h6 0 5 = nI a := by rw [e6, pu_ss, if_pos rfl, if_pos rfl]
  have q1 : ∀ r, r ≠ 0 → g6 r = g r := fun r h => by rw [f6, pu_ssr, if_neg h, x9 r h]
  have q2 : ∀ j, j ≠ 16 → j ≠ 17 → g6 0 j = g 0 j := fun j h3 h5 => by rw [f6, pu_ss, if_pos rfl, if_neg h5, x10 j h3]
  have q16 : g6 0 16 = nI a := by rw [f6, pu_ss, if_pos rfl, if_neg (by omega)]; exact x6
  have q17 : g6 0 17 = nI a := by rw [f6, pu_ss, if_pos rfl, if_pos rfl]
  have T6 : ByR h6 g6 s := T.c (p1 1 (by omega)) (p2 1 (by omega) (by omega)) (q1 9 (by omega)) (q2 15 (by omega) (by omega))
  unfold F_Tape_advance F_Mo_advance
  rw [h5, pu_letn, x3, x4, bind_sn, bind_sn, x5, x6, pu_letn (ss h2 5 (nI a)), pu_letn (ss g2 17 (nI a)), ← e6, ← f6, p3, q16, show h6 0 1 = nI s from T6.2.1]
  by_cases ca : a < s
  · obtain ⟨c, c1, c2, c3, c4⟩ := see_in (N := N') T6 ca
    obtain ⟨l1, l2⟩ := letter_eq c1
    obtain ⟨d1, d2⟩ := digit_eq c1
    rw [if_pos (nI_lt ca (by omega)), c2, c4, bind_sn, if_pos (pu_m1 (by omega)), l1, l2, d1, d2]
    by_cases cl : 97 ≤ c ∧ c ≤ 122
    · rw [if_pos cl, if_neg pu_10, if_neg pu_10]
      have T7 : ByR (ss h6 2 1) g6 s := T6.c (by rw [pu_ssr, if_neg (by omega)]) (by rw [pu_ss, if_pos rfl, if_neg (by omega)]) rfl rfl
      obtain ⟨b, h8, g8, y1, y2, y3, y4, y5, y6, y7, y8, y9, y10, y11, y12⟩ := adv_w (N := N) (N' := N') (s - a) a N N' (ss h6 2 1) g6 T7 (by omega) (by rw [pu_ss, if_pos rfl, if_neg (by omega)]; exact p5) q16 (by omega) (by omega)
      have yb : a < b := y12 c ca (by rw [pu_ssr, if_neg (by omega)]; exact c3) cl.1 cl.2
      unfold F_Tape_scanWord
      rw [pu_letn, y3, bind_sn, bind_sn, y4, bind_sn, pu_letn]
      refine ⟨a, b, 1, h8, ss g8 18 1, rfl, rfl, x1, ⟨⟨y1, y2, by omega, fun _ => yb⟩, ⟨?_, ?_⟩, ⟨y5, ?_⟩, ⟨?_, ?_⟩, fun z => by omega, fun z => by omega, ?_⟩, ?_, ?_, ?_, ?_⟩
      · rw [y8 3 (by omega), pu_ss, if_pos rfl, if_neg (by omega)]; exact p3
      · rw [pu_ss, if_pos rfl, if_neg (by omega), y10 17 (by omega)]; exact q17
      · rw [pu_ss, if_pos rfl, if_neg (by omega)]; exact y6
      · rw [y8 2 (by omega), pu_ss, if_pos rfl, if_pos rfl]; rfl
      · rw [pu_ss, if_pos rfl, if_pos rfl]; rfl
      · intro _ i i1 i2
        obtain ⟨e, e1, e2, e3, e4⟩ := y11 i i1 i2
        refine ⟨e, e1, e2, ?_, ?_⟩
        · rw [y7 1 (by omega)]; exact e3
        · rw [pu_ssr, if_neg (by omega), y9 9 (by omega)]; exact e4
      · intro r hr
        rw [y7 r hr, pu_ssr, if_neg hr, p1 r hr]
      · rw [y8 1 (by omega), pu_ss, if_pos rfl, if_neg (by omega), p2 1 (by omega) (by omega)]
      · intro r hr
        rw [pu_ssr, if_neg hr, y9 r hr, q1 r hr]
      · intro j hj
        rw [pu_ss, if_pos rfl, if_neg (by omega), y10 j (by omega), q2 j (by omega) (by omega)]
    · rw [if_neg cl, if_pos rfl, if_pos rfl]
      by_cases cd : 48 ≤ c ∧ c ≤ 57
      · rw [if_pos cd, if_neg pu_10, if_neg pu_10]
        obtain ⟨h7, e7⟩ : ∃ h7, h7 = ss (ss h6 2 2) 4 0 := ⟨_, rfl⟩
        have r1 : ∀ r, r ≠ 0 → h7 r = h6 r := fun r h => by rw [e7, pu_ssr, if_neg h, pu_ssr, if_neg h]
        have r2 : ∀ j, j ≠ 2 → j ≠ 4 → h7 0 j = h6 0 j := fun j h2 h4 => by rw [e7, pu_ss, if_pos rfl, if_neg h4, pu_ss, if_pos rfl, if_neg h2]
        have T7 : ByR h7 (ss g6 19 0) s := T6.c (r1 1 (by omega)) (r2 1 (by omega) (by omega)) (by rw [pu_ssr, if_neg (by omega)]) (by rw [pu_ss, if_pos rfl, if_neg (by omega)])
        obtain ⟨b, h8, g8, y1, y2, y3, y4, y5, y6, y7, y8, y9, y10, y11, y12⟩ := adv_n (N := N) (N' := N') (s - a) a N N' h7 (ss g6 19 0) T7 (by omega) (by rw [r2 5 (by omega) (by omega)]; exact p5) (by rw [pu_ss, if_pos rfl, if_neg (by omega)]; exact q16) (by
          rw [e7, pu_ss, if_pos rfl, if_pos rfl, pu_ss, if_pos rfl, if_pos rfl]
          exact ⟨0, Or.inl ⟨by omega, rfl, rfl⟩⟩) (by omega) (by omega)
        have yb : a < b := y12 c ca (by rw [r1 1 (by omega)]; exact c3) cd.1 cd.2
        unfold F_Tape_scanNumber
        rw [pu_letn, pu_letn, pu_letn, ← e7, y3, bind_sn, bind_sn, y4, bind_sn, pu_letn]
        refine ⟨a, b, 2, h8, ss g8 18 2, rfl, rfl, x1, ⟨⟨y1, y2, by omega, fun _ => yb⟩, ⟨?_, ?_⟩, ⟨y5, ?_⟩, ⟨?_, ?_⟩, fun _ => ?_, fun z => by omega, fun z => by omega⟩, ?_, ?_, ?_, ?_⟩
        · rw [y9 3 (by omega) (by omega), r2 3 (by omega) (by omega)]; exact p3
        · rw [pu_ss, if_pos rfl, if_neg (by omega), y11 17 (by omega) (by omega), pu_ss, if_pos rfl, if_neg (by omega)]; exact q17
        · rw [pu_ss, if_pos rfl, if_neg (by omega)]; exact y6
        · rw [y9 2 (by omega) (by omega), e7, pu_ss, if_pos rfl, if_neg (by omega), pu_ss, if_pos rfl, if_pos rfl]; rfl
        · rw [pu_ss, if_pos rfl, if_pos rfl]; rfl
        · rw [pu_ss, if_pos rfl, if_neg (by omega)]; exact y7
        · intro r hr
          rw [y8 r hr, r1 r hr, p1 r hr]
        · rw [y9 1 (by omega) (by omega), r2 1 (by omega) (by omega), p2 1 (by omega) (by omega)]
        · intro r hr
          rw [pu_ssr, if_neg hr, y10 r hr, pu_ssr, if_neg hr, q1 r hr]
        · intro j hj
          rw [pu_ss, if_pos rfl, if_neg (by omega), y11 j (by omega) (by omega), pu_ss, if_pos rfl, if_neg (by omega), q2 j (by omega) (by omega)]
      · rw [if_neg cd, if_pos rfl, if_pos rfl]
        rw [pu_letn, pu_letn, pu_letn, pu_letn, pu_letn, show ss h6 2 3 0 3 = nI a by rw [pu_ss, if_pos rfl, if_neg (by omega)]; exact p3, show ss (ss g6 18 3) 19 (nI c) 0 16 = nI a by rw [pu_ss, if_pos rfl, if_neg (by omega), pu_ss, if_pos rfl, if_neg (by omega)]; exact q16, nI_1]
        refine ⟨a, a + 1, 3, _, _, rfl, rfl, x1, ⟨⟨by omega, by omega, by omega, fun _ => by omega⟩, ⟨?_, ?_⟩, ⟨?_, ?_⟩, ⟨?_, ?_⟩, fun z => by omega, fun _ => ⟨rfl, c, c1, ?_, ?_⟩, fun z => by omega⟩, ?_, ?_, ?_, ?_⟩
        · rw [pu_ss, if_pos rfl, if_neg (by omega), pu_ss, if_pos rfl, if_neg (by omega)]; exact p3
        · rw [pu_ss, if_pos rfl, if_neg (by omega), pu_ss, if_pos rfl, if_neg (by omega), pu_ss, if_pos rfl, if_neg (by omega)]; exact q17
        · rw [pu_ss, if_pos rfl, if_pos rfl]
        · rw [pu_ss, if_pos rfl, if_pos rfl]
        · rw [pu_ss, if_pos rfl, if_neg (by omega), pu_ss, if_pos rfl, if_pos rfl]; rfl
        · rw [pu_ss, if_pos rfl, if_neg (by omega), pu_ss, if_pos rfl, if_neg (by omega), pu_ss, if_pos rfl, if_pos rfl]; rfl
        · rw [pu_ssr, if_neg (by omega), pu_ssr, if_neg (by omega)]; exact c3
        · rw [pu_ss, if_pos rfl, if_neg (by omega), pu_ss, if_pos rfl, if_pos rfl]
        · intro r hr
          rw [pu_ssr, if_neg hr, pu_ssr, if_neg hr, p1 r hr]
        · rw [pu_ss, if_pos rfl, if_neg (by omega), pu_ss, if_pos rfl, if_neg (by omega), p2 1 (by omega) (by omega)]
        · intro r hr
          rw [pu_ssr, if_neg hr, pu_ssr, if_neg hr, pu_ssr, if_neg hr, q1 r hr]
        · intro j hj
          rw [pu_ss, if_pos rfl, if_neg (by omega), pu_ss, if_pos rfl, if_neg (by omega), pu_ss, if_pos rfl, if_neg (by omega), q2 j (by omega) (by omega)]
  · rw [if_neg (nI_nlt (by omega) (by omega)), see_end T6 (by omega) (by omega), bind_sn, ifn rfl, pu_letn, pu_letn]
    refine ⟨a, a, 0, _, _, rfl, rfl, x1, ⟨⟨by omega, by omega, by omega, fun z => absurd rfl z⟩, ⟨?_, ?_⟩, ⟨?_, ?_⟩, ⟨?_, ?_⟩, fun z => by omega, fun z => by omega, fun z => by omega⟩, ?_, ?_, ?_, ?_⟩
    · rw [pu_ss, if_pos rfl, if_neg (by omega)]; exact p3
    · rw [pu_ss, if_pos rfl, if_neg (by omega)]; exact q17
    · rw [pu_ss, if_pos rfl, if_neg (by omega)]; exact p5
    · rw [pu_ss, if_pos rfl, if_neg (by omega)]; exact q16
    · rw [pu_ss, if_pos rfl, if_pos rfl]; rfl
    · rw [pu_ss, if_pos rfl, if_pos rfl]; rfl
    · intro r hr; rw [pu_ssr, if_neg hr, p1 r hr]
    · rw [pu_ss, if_pos rfl, if_neg (by omega), p2 1 (by omega) (by omega)]
    · intro r hr; rw [pu_ssr, if_neg hr, q1 r hr]
    · intro j hj; rw [pu_ss, if_pos rfl, if_neg (by omega), q2 j (by omega) (by omega)]
end ADV
