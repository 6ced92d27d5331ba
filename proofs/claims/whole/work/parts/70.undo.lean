/-! ===== pure: undo ===== -/
section UNDO2
variable {k k' : KS} {g g' : HH} {hy hv hh hr hc ht : HH} {B R H D K n o N N' : Nat}
theorem sim_40 : Sim_40 Inv := by
  intro k g I
  rcases I.2 with J | ⟨B, R, H, D, K, n, o, J⟩
  · refine ⟨3000, 3000, -1, k, g, ?_, ?_, I⟩
    · unfold KO_40 F_K_undo F_Hist_stepBack
      rw [J.2.2.2.2.2.1]
      show some ((-1 : Int32), ku (ku (ku k 1 (k 1)) 9 (k 9)) 11 (k 11)) = _
      rw [ku_self, ku_self, ku_self]
    · unfold MO_40 F_Mo_undo
      rw [J.2.2.2.2.1]; rfl
  have V := J.2.2.1
  have hn := V.nn
  have hP := V.pp
  obtain ⟨s, t, M, a1, a2, a3, a4, a5, a6, a7, a8⟩ := J.2.2.2.2.2.1
  by_cases c : s = 0
  · subst c
    refine ⟨3000, 3000, -1, k, g, ?_, ?_, I⟩
    · unfold KO_40 F_K_undo F_Hist_stepBack
      rw [a3]
      show some ((-1 : Int32), ku (ku (ku k 1 (k 1)) 9 (k 9)) 11 (k 11)) = _
      rw [ku_self, ku_self, ku_self]
    · unfold MO_40 F_Mo_undo
      rw [a5]; rfl
  -- the slot of the last act
  obtain ⟨t', ht', et⟩ : ∃ t', t' < 13 ∧ t' = (t + 13 - s + (s - 1)) % 13 := ⟨_, Nat.mod_lt _ (by omega), rfl⟩
  have hm := a6 (s - 1) (by omega)
  obtain ⟨b1, b2, ⟨o', b3, b4, b5⟩, b6, b7⟩ := a8 (s - 1) (by omega)
  rw [← et] at b1 b5 b6 b7
  have sN : ¬ nI s = 0 := nI_ne0 (by omega) (by omega)
  have e1 : nI s - 1 = nI (s - 1) := by rw [show (1 : Int32) = nI 1 from rfl, pk_sub (by omega)]
  -- the class's history
  have q0 : ∀ v w, ss (ss (k 1) 0 v) 1 w 0 0 = v := fun v w => by rw [pu_ss, if_pos rfl, if_neg (by omega), pu_ss, if_pos rfl, if_pos rfl]
  have q1 : ∀ v w, ss (ss (k 1) 0 v) 1 w 0 1 = w := fun v w => by rw [pu_ss, if_pos rfl, if_pos rfl]
  have q2 : ∀ v w r, r ≠ 0 → ss (ss (k 1) 0 v) 1 w r = k 1 r := fun v w r hr' => by rw [pu_ssr, if_neg hr', pu_ssr, if_neg hr']
  have esl : (if ss (k 1) 0 (nI (s - 1)) 0 1 ≤ 0 then (12 : Int32) else ss (k 1) 0 (nI (s - 1)) 0 1 - 1) = nI t' := by
    have e01 : ss (k 1) 0 (nI (s - 1)) 0 1 = nI t := by rw [pu_ss, if_pos rfl, if_neg (by omega), a4]
    rw [e01, et]
    rcases Nat.eq_zero_or_pos t with z | z
    · subst z
      rw [if_pos (show nI 0 ≤ 0 by decide), show (0 + 13 - s + (s - 1)) % 13 = 12 by omega]; rfl
    · rw [if_neg (nI_nle z (by omega)), show (1 : Int32) = nI 1 from rfl, pk_sub (by omega)]
      congr 1; omega
  obtain ⟨hy5, ehy5⟩ : ∃ hy5, hy5 = ss (ss (k 1) 0 (nI (s - 1))) 1 (nI t') := ⟨_, rfl⟩
  have hy0 : hy5 0 0 = nI (s - 1) := by rw [ehy5]; exact q0 _ _
  have hy1 : hy5 0 1 = nI t' := by rw [ehy5]; exact q1 _ _
  have hyr : hy5 1 = k 1 1 := by rw [ehy5]; exact q2 _ _ 1 (by omega)
  have e31 : hy5 0 1 * 31 = nI (31 * t') := by
    rw [hy1, show (31 : Int32) = nI 31 from rfl, pk_mul, Nat.mul_comm]
  -- walls
  obtain ⟨hh', o2, w1, V1, w3, -⟩ := back_66 (N := 3000) (hy := hy5) (s := o') (t := t') b3 ht' (by rw [hyr]; exact b5) (by omega) 6 0 3000 (k 9) o V (by omega) (by omega)
  rw [show nI 0 = 0 from rfl] at w1
  have V1 : VS hh' (k 10) (k 11) g B R H D K n o' := V1.same b3 (fun c hc => wv_bit (w3 c hc (by omega)).symm)
  -- boxes of the class
  obtain ⟨hc6, ehc6⟩ : ∃ hc6, hc6 = ss (k 11) 0 (nI (M (s - 1))) := ⟨_, rfl⟩
  have la : ∀ r, r ≠ 4 → r ≠ 5 → F_Cargo_liftAll hc6 r = hc6 r := by
    intro r r4 r5; unfold F_Cargo_liftAll; simp only [pu_let]; rw [pu_sf, if_neg r5, pu_sf, if_neg r4]
  have la4 : ∀ b, b < 25 → F_Cargo_liftAll hc6 4 b = -1 := by
    intro b hb; unfold F_Cargo_liftAll; simp only [pu_let]; rw [pu_sf, if_neg (by omega), pu_sf, if_pos rfl]; unfold sv_fl; rw [if_pos hb]
  have la5 : ∀ p, p < 144 → F_Cargo_liftAll hc6 5 p = -1 := by
    intro p hp; unfold F_Cargo_liftAll; simp only [pu_let]; rw [pu_sf, if_pos rfl]; unfold sv_fl; rw [if_pos hp]
  have h60 : hc6 0 0 = nI (M (s - 1)) := by rw [ehc6, pu_ss, if_pos rfl, if_pos rfl]
  obtain ⟨hc', c1, c2, -, c4, c5⟩ := back_107 (N := 3000) (hy := hy5) (t := t') (m := M (s - 1)) (P := plN B R H D) ht' (by omega) hP (fun b => k 1 1 (31 * t' + 7 + b)) (fun b _ => by rw [hyr]) b7.1 (M (s - 1)) 0 3000 (F_Cargo_liftAll hc6) (by rw [la 0 (by omega) (by omega), h60]) (by omega) (by omega) (fun b _ hb => la4 b hb) (fun p hp => la5 p hp)
  rw [show nI 0 = 0 from rfl] at c1
  have eK : F_K_undo 3000 (k 1) (k 9) (k 11) = some (nI (s - 1), hy5, hh', hc') := by
    unfold F_K_undo F_Hist_stepBack
    rw [a3, if_pos sN]
    simp only [pu_let]
    rw [e1, esl, ← ehy5, hyr, e31, Nat.mul_comm, Nat.mul_comm, pu_rd _ (by omega) (by omega), b1, w1]
    simp only [Option.bind_some]
    rw [← ehc6, c1]
    simp only [Option.bind_some, if_neg pu_10]
    rw [hy0]
  -- the reference
  obtain ⟨g2, eg2⟩ : ∃ g2, g2 = ss g 22 (nI (s - 1)) := ⟨_, rfl⟩
  have g2r : ∀ r, r ≠ 0 → g2 r = g r := fun r hr' => by rw [eg2, pu_ssr, if_neg hr']
  have g2_22 : g2 0 22 = nI (s - 1) := by rw [eg2, pu_ss, if_pos rfl, if_pos rfl]
  have g20 : ∀ i, i ≠ 22 → g2 0 i = g 0 i := fun i hi => by rw [eg2, pu_ss, if_pos rfl, if_neg hi]
  have e98 : (98 : Int32) * g2 0 22 = nI (98 * (s - 1)) := by rw [g2_22, show (98 : Int32) = nI 98 from rfl, pk_mul]
  obtain ⟨g4, eg4⟩ : ∃ g4, g4 = ss g2 6 (nI (M (s - 1))) := ⟨_, rfl⟩
  have g4r : ∀ r, r ≠ 0 → g4 r = g r := fun r hr' => by rw [eg4, pu_ssr, if_neg hr', g2r r hr']
  obtain ⟨g6, eg6⟩ : ∃ g6, g6 = ss g4 11 (nI o') := ⟨_, rfl⟩
  have g6r : ∀ r, r ≠ 0 → g6 r = g r := fun r hr' => by rw [eg6, pu_ssr, if_neg hr', g4r r hr']
  have g66 : g6 0 6 = nI (M (s - 1)) := by rw [eg6, pu_ss, if_pos rfl, if_neg (by omega), eg4, pu_ss, if_pos rfl, if_pos rfl]
  have g611 : g6 0 11 = nI o' := by rw [eg6, pu_ss, if_pos rfl, if_pos rfl]
  have g622 : g6 0 22 = nI (s - 1) := by rw [eg6, pu_ss, if_pos rfl, if_neg (by omega), eg4, pu_ss, if_pos rfl, if_neg (by omega), g2_22]
  have g60 : ∀ i, i ≠ 22 → i ≠ 6 → i ≠ 11 → g6 0 i = g 0 i := fun i h22 h6 h11 => by rw [eg6, pu_ss, if_pos rfl, if_neg h11, eg4, pu_ss, if_pos rfl, if_neg h6, g20 i h22]
  obtain ⟨g7, d1, d2, d3, d4⟩ := undo_51 (N := 3000) (c := 98 * (s - 1)) (m := M (s - 1)) (by omega) (by omega) (M (s - 1)) 0 3000 g6 g66 (by omega) (by omega)
  rw [show nI 0 = 0 from rfl] at d1
  have g10 : g6 10 = g 10 := g6r 10 (by omega)
  have d3' : ∀ b, b < M (s - 1) → g7 4 b = g 4 b ∧ g7 5 b = g 5 b ∧ g7 6 b = g 6 b ∧ g7 7 b = k 1 1 (31 * t' + 7 + b) := by
    intro b hb
    obtain ⟨z1, z2, z3, z4⟩ := d3 b (by omega) hb
    obtain ⟨y1, y2, y3, y4⟩ := b6 b hb
    rw [z1, z2, z3, z4, g10, y1, y2, y3, y4]
    exact ⟨rfl, rfl, rfl, rfl⟩
  have d4' : ∀ b, g7 4 b = g 4 b ∧ g7 5 b = g 5 b ∧ g7 6 b = g 6 b := by
    intro b
    rcases Nat.lt_or_ge b (M (s - 1)) with y | y
    · obtain ⟨z1, z2, z3, -⟩ := d3' b y; exact ⟨z1, z2, z3⟩
    · obtain ⟨z1, z2, z3, -⟩ := d4 b (Or.inr y)
      rw [z1, z2, z3, g6r 4 (by omega), g6r 5 (by omega), g6r 6 (by omega)]
      exact ⟨rfl, rfl, rfl⟩
  obtain ⟨g8, f1, f2, f3, f4⟩ := lp_2 (N := 3000) 144 0 3000 g7 (by omega) (by omega)
  rw [show nI 0 = 0 from rfl] at f1
  have h76 : g8 0 6 = nI (M (s - 1)) := by rw [f2 0 (by omega), d2 0 (by omega) (by omega) (by omega) (by omega), g66]
  have h77 : ∀ b, b < M (s - 1) → g8 7 b = k 1 1 (31 * t' + 7 + b) := fun b hb => by rw [f2 7 (by omega)]; exact (d3' b hb).2.2.2
  obtain ⟨g9, x1, x2, x3⟩ := lp_24 (N := 3000) (m := M (s - 1)) (P := plN B R H D) (by omega) hP (M (s - 1)) 0 3000 g8 h76 (by omega) (by omega) (by intro b hb; rw [h77 b hb]; exact b7.1 b hb) (fun p hp => f3 p (by omega) hp)
  rw [show nI 0 = 0 from rfl] at x1
  have eM : F_Mo_undo 3000 g = some (nI (s - 1), g9) := by
    unfold F_Mo_undo F_Mo_laysPlaces
    rw [a5, if_pos sN]
    simp only [pu_let]
    rw [e1, ← eg2, e98, if_pos (pu_in (by omega) (by omega)), nI_clamp (by omega), g2r 10 (by omega), b2, ← eg4, nI_1, if_pos (pu_in (by omega) (by omega)), nI_clamp (by omega), g4r 10 (by omega), b4, ← eg6, d1]
    simp only [Option.bind_some]
    rw [f1]
    simp only [Option.bind_some]
    rw [x1]
    simp only [Option.bind_some]
    rw [x2 0 (by omega), f2 0 (by omega), d2 0 (by omega) (by omega) (by omega) (by omega), g622]
  -- what the reference holds now
  have r9 : ∀ r, r ≠ 0 → r ≠ 4 → r ≠ 5 → r ≠ 6 → r ≠ 7 → r ≠ 8 → g9 r = g r := fun r r0 r4 r5 r6 r7 r8 => by rw [x2 r r8, f2 r r8, d2 r r4 r5 r6 r7, g6r r r0]
  have r90 : ∀ i, g9 0 i = g6 0 i := fun i => by rw [x2 0 (by omega), f2 0 (by omega), d2 0 (by omega) (by omega) (by omega) (by omega)]
  have r94 : ∀ b, g9 4 b = g 4 b ∧ g9 5 b = g 5 b ∧ g9 6 b = g 6 b := fun b => by
    rw [x2 4 (by omega), x2 5 (by omega), x2 6 (by omega), f2 4 (by omega), f2 5 (by omega), f2 6 (by omega)]; exact d4' b
  have r97 : ∀ b, b < M (s - 1) → g9 7 b = k 1 1 (31 * t' + 7 + b) := fun b hb => by rw [x2 7 (by omega)]; exact h77 b hb
  have pf : ∀ p j, j ≤ M (s - 1) → plF (g8 7) j p = plF (fun b => k 1 1 (31 * t' + 7 + b)) j p := by
    intro p j
    induction j with
    | zero => intro _; rfl
    | succ j ih =>
      intro hj
      show (if g8 7 j = nI p then nI j else plF (g8 7) j p) = (if k 1 1 (31 * t' + 7 + j) = nI p then nI j else plF (fun b => k 1 1 (31 * t' + 7 + b)) j p)
      rw [ih (by omega), h77 j (by omega)]
  have r98 : ∀ p, p < 144 → g9 8 p = plF (fun b => k 1 1 (31 * t' + 7 + b)) (M (s - 1)) p := fun p hp => by rw [x3 p hp, pf p _ (Nat.le_refl _)]
  obtain ⟨p1, p2, p3⟩ := b7
  have uq : ∀ p b, p < plN B R H D → b < M (s - 1) → k 1 1 (31 * t' + 7 + b) = nI p → plF (fun b => k 1 1 (31 * t' + 7 + b)) (M (s - 1)) p = nI b := by
    intro p b hp hb h
    refine plF_b _ p b _ hb ?_ h
    intro a ha h2
    refine p2 a b ha hb ?_ ?_
    · show k 1 1 (31 * t' + 7 + a) ≠ -1
      rw [h2]; exact pu_m1 (by omega)
    · show k 1 1 (31 * t' + 7 + a) = k 1 1 (31 * t' + 7 + b)
      rw [h2, h]
  have V9 : VS hh' (k 10) hc' g9 B R H D K (M (s - 1)) o' := by
    obtain ⟨⟨x1, x2⟩, x3, x4⟩ := V.2.2.2.2.1
    obtain ⟨y1, y2, y3⟩ := V.2.2.2.2.2
    refine V1.mk' (r9 1 (by omega) (by omega) (by omega) (by omega) (by omega) (by omega)) ⟨⟨?_, by omega⟩, ?_, ?_⟩ ⟨?_, ?_, ?_⟩
    · rw [r90, g66]
    · intro b hb
      obtain ⟨z1, z2, z3⟩ := r94 b
      obtain ⟨u1, u2, u3, -⟩ := x3 b (by omega)
      rw [z1, z2, z3]
      refine ⟨u1, u2, u3, ?_⟩
      rw [r97 b hb]
      rcases p1 b hb with w | ⟨p, w1, w2⟩
      · exact Or.inl w
      · exact Or.inr ⟨p, w1, w2, by rw [r98 p (by omega)]; exact uq p b w1 hb w2⟩
    · intro p hp
      rw [r98 p hp]
      rcases plF_v (fun b => k 1 1 (31 * t' + 7 + b)) p (M (s - 1)) with w | ⟨b, w1, w2, w3⟩
      · exact Or.inl w
      · exact Or.inr ⟨b, w1, w2, by rw [r97 b w1]; exact w3⟩
    · rw [c2 0 (by omega) (by omega), la 0 (by omega) (by omega), h60]
    · intro b hb
      obtain ⟨z1, z2, z3⟩ := r94 b
      obtain ⟨u1, u2, u3, -⟩ := y2 b (by omega)
      rw [z1, z2, z3, r97 b hb, c4 b (by omega) hb, c2 1 (by omega) (by omega), c2 2 (by omega) (by omega), c2 3 (by omega) (by omega), la 1 (by omega) (by omega), la 2 (by omega) (by omega), la 3 (by omega) (by omega), ehc6, pu_ssr, if_neg (by omega), pu_ssr, if_neg (by omega), pu_ssr, if_neg (by omega)]
      exact ⟨u1, u2, u3, rfl⟩
    · intro p hp; rw [c5 p hp, r98 p hp]
  refine ⟨3000, 3000, nI (s - 1), ku (ku (ku k 1 hy5) 9 hh') 11 hc', g9, ?_, ?_, ?_, Or.inr ⟨B, R, H, D, K, M (s - 1), o', ?_⟩⟩
  · unfold KO_40; rw [eK]; rfl
  · unfold MO_40; rw [eM]; rfl
  · refine InvB_c I.1 ?_ ?_ ?_ ?_ ?_ ?_ ?_ (r9 9 (by omega) (by omega) (by omega) (by omega) (by omega) (by omega)) (r9 22 (by omega) (by omega) (by omega) (by omega) (by omega) (by omega))
    · simp only [pu_ku]; rfl
    · simp only [pu_ku]; rfl
    · simp only [pu_ku]; rfl
    all_goals rw [r90, g60 _ (by omega) (by omega) (by omega)]
  · refine ⟨?_, ?_, ?_, ?_, ?_, ?_, ?_, ?_⟩
    · simp only [pu_ku]; exact J.1
    · rw [r90, g60 _ (by omega) (by omega) (by omega)]; exact J.2.1
    · simp only [pu_ku]; exact V9
    · rw [r90, g611]
    · intro p hp h1 h2
      rcases V9.atb (p := p) (by omega) with w | ⟨b, w1, w2, w3⟩
      · exact absurd w h1
      · rw [r97 b w1] at w3
        obtain ⟨a, u1, u2⟩ := p3 b p w1 w3 hp h2
        have hp1 : p - 1 < plN B R H D := by omega
        rw [r98 (p - 1) (by omega), uq (p - 1) a hp1 u1 u2]
        exact pu_m1 (by omega)
    · have hk1 : ku (ku (ku k 1 hy5) 9 hh') 11 hc' 1 = hy5 := by simp only [pu_ku]; rfl
      rw [hk1]
      refine ⟨s - 1, t', M, by omega, ht', hy0, hy1, by rw [r90, g622], fun i hi => a7 i (s - 1) hi (by omega), fun i j h1 h2 => a7 i j h1 (by omega), ?_⟩
      intro i hi
      have e : (t' + 13 - (s - 1) + i) % 13 = (t + 13 - s + i) % 13 := by omega
      rw [e]
      have hmi := a7 i (s - 1) hi (by omega)
      refine RecR_c (a8 i (by omega)) (by omega) (fun x _ => by rw [hyr]) (fun x _ => by rw [r9 10 (by omega) (by omega) (by omega) (by omega) (by omega) (by omega)]) (r9 1 (by omega) (by omega) (by omega) (by omega) (by omega) (by omega)) (fun b _ => r94 b)
    · simp only [pu_ku]
      exact ToR_c J.2.2.2.2.2.2.1 (by rw [r90, g60 _ (by omega) (by omega) (by omega)]) (r9 14 (by omega) (by omega) (by omega) (by omega) (by omega) (by omega)) (r9 15 (by omega) (by omega) (by omega) (by omega) (by omega) (by omega))
    · simp only [pu_ku]
      exact ShR_c J.2.2.2.2.2.2.2 (by rw [r90, g60 _ (by omega) (by omega) (by omega)]) (r9 16 (by omega) (by omega) (by omega) (by omega) (by omega) (by omega))
end UNDO2
