/-! ===== pure: tell ===== -/
section TELL
variable {k k' : KS} {g g' : HH} {hy hv hh hr hc hp : HH} {B R H D K n o N N' t : Nat}
theorem tl_46 (V : VS hh hr hc g B R H D K n o) {p : Nat} (hp' : p < 144) : ∃ x, x < 128 ∧ (if ¬ g 8 p = -1 then (97 : Int32) + g 8 p else 46) = nI x := by
  have hn := V.nn
  rcases V.atb hp' with w | ⟨b, hb, w, -⟩
  · rw [w]; exact ⟨46, by omega, rfl⟩
  · rw [w, if_pos (pu_m1 (by omega))]
    exact ⟨97 + b, by omega, nI_add 97 b⟩
theorem tell_36 {b x : Nat} (hb : b < B) (hx : x < H + D) : ∀ (m r f f' t : Nat) (hp g : HH), VS hh hr hc g B R H D K n o → PgR hp g t → t + m ≤ 60 → r + m = R → m < f → m < f' → ∃ hp' g', L_Page_drawBay_54 N f (nI b) (nI x) (nI r) hp hh hc = some hp' ∧ L_Mo_tell_36 N' f' (nI b) (nI x) (nI r) g = some g' ∧ PgR hp' g' (t + m) ∧ Un g g' := by
  intro m
  induction m with
  | zero =>
    intro r f f' t hp g V P h1 h2 h3 h4
    obtain ⟨f, rfl⟩ : ∃ z, f = z + 1 := ⟨f - 1, by omega⟩
    obtain ⟨f', rfl⟩ : ∃ z, f' = z + 1 := ⟨f' - 1, by omega⟩
    have : r = R := by omega
    subst this
    have r1 : hh 0 1 = nI r := V.2.2.1.1.2.1
    have r2 : g 1 (Int32.toNatClampNeg 1) = nI r := V.1.1.2.1
    have i1 : sv_in 1 90 := by decide
    unfold L_Page_drawBay_54 L_Mo_tell_36
    rw [r1, if_pos (Int32.le_refl _), if_pos i1, r2, if_pos (Int32.le_refl _)]
    exact ⟨hp, g, rfl, rfl, P, Un.refl g⟩
  | succ m ih =>
    intro r f f' t hp g V P h1 h2 h3 h4
    obtain ⟨f, rfl⟩ : ∃ z, f = z + 1 := ⟨f - 1, by omega⟩
    obtain ⟨f', rfl⟩ : ∃ z, f' = z + 1 := ⟨f' - 1, by omega⟩
    have hP := V.pp
    have hrR : r < R := by omega
    have r1 : hh 0 1 = nI R := V.2.2.1.1.2.1
    have r2 : g 1 (Int32.toNatClampNeg 1) = nI R := V.1.1.2.1
    have i1 : sv_in 1 90 := by decide
    have sl := stk_le V.1 hb hrR (d := 0) (by omega)
    have q1 : r + R * b < B * R := by
      have : R * (b + 1) ≤ R * B := Nat.mul_le_mul_left R hb
      rw [Nat.mul_succ, Nat.mul_comm R B] at this
      omega
    have q2 : (r + R * b) * (H + D) + (H + D) ≤ B * R * (H + D) := by
      have := Nat.mul_le_mul_right (H + D) q1
      rw [Nat.succ_mul] at this
      exact this
    have q3 : (r + R * b) * (H + D) + x < plN B R H D := by
      show _ < B * R * (H + D)
      omega
    have e1 : F_Hull_lowestOf (nI b) (nI r) 0 hh + nI x = nI ((r + R * b) * (H + D) + x) := by
      have := (K_stB V (b := b) (r := r) (d := 0) (by omega)).1
      rw [show nI 0 = 0 from rfl] at this
      rw [this, nI_add]
      rfl
    have e2 : nI (H + D) * (nI r + nI R * nI b) + nI x = nI ((r + R * b) * (H + D) + x) := by
      rw [pk_mul, nI_add, pk_mul, nI_add, Nat.mul_comm (H + D)]
    unfold L_Page_drawBay_54 L_Mo_tell_36
    simp only [if_pos i1]
    rw [r1, if_neg (nI_ge hrR (by have := V.1.2.2.2.2.1; omega)), r2, if_neg (nI_ge hrR (by have := V.1.2.2.2.2.1; omega)), Mo_tiers V.1, e1, V.at (by omega), nI_1, bind_sn, e2, if_pos (pu_in (by omega) (by omega)), nI_clamp (by omega)]
    obtain ⟨c, c1, c2⟩ := tl_46 V (p := (r + R * b) * (H + D) + x) (by omega)
    rw [c2, pu_letn, pu_letn, pu_letn]
    obtain ⟨g1, s1, P1, u1⟩ := say_ok (N := N') P (by omega) c1
    rw [s1, bind_sn]
    obtain ⟨hp', g', a1, a2, a3, a4⟩ := ih (r + 1) f f' (t + 1) (F_Page_append (nI c) hp) g1 (V.un u1) P1 (by omega) (by omega) (by omega) (by omega)
    exact ⟨hp', g', a1, a2, by rw [show t + (m + 1) = t + 1 + m by omega]; exact a3, u1.tr a4⟩
theorem tell_121 (x y : Int32) : ∀ (m r f f' t : Nat) (hp g : HH), VS hh hr hc g B R H D K n o → PgR hp g t → t + m ≤ 60 → r + m = R → m < f → m < f' → ∃ hp' g', L_Page_drawHatch_2 N f (nI r) hp hh = some hp' ∧ L_Mo_tell_121 N' f' x y (nI r) g = some g' ∧ PgR hp' g' (t + m) ∧ Un g g' := by
  intro m
  induction m with
  | zero =>
    intro r f f' t hp g V P h1 h2 h3 h4
    obtain ⟨f, rfl⟩ : ∃ z, f = z + 1 := ⟨f - 1, by omega⟩
    obtain ⟨f', rfl⟩ : ∃ z, f' = z + 1 := ⟨f' - 1, by omega⟩
    have : r = R := by omega
    subst this
    have r1 : hh 0 1 = nI r := V.2.2.1.1.2.1
    have r2 : g 1 (Int32.toNatClampNeg 1) = nI r := V.1.1.2.1
    have i1 : sv_in 1 90 := by decide
    unfold L_Page_drawHatch_2 L_Mo_tell_121
    rw [r1, if_pos (Int32.le_refl _), if_pos i1, r2, if_pos (Int32.le_refl _)]
    exact ⟨hp, g, rfl, rfl, P, Un.refl g⟩
  | succ m ih =>
    intro r f f' t hp g V P h1 h2 h3 h4
    obtain ⟨f, rfl⟩ : ∃ z, f = z + 1 := ⟨f - 1, by omega⟩
    obtain ⟨f', rfl⟩ : ∃ z, f' = z + 1 := ⟨f' - 1, by omega⟩
    have hrR : r < R := by omega
    have r1 : hh 0 1 = nI R := V.2.2.1.1.2.1
    have r2 : g 1 (Int32.toNatClampNeg 1) = nI R := V.1.1.2.1
    have i1 : sv_in 1 90 := by decide
    unfold L_Page_drawHatch_2 L_Mo_tell_121
    rw [r1, if_neg (nI_ge hrR (by have := V.1.2.2.2.2.1; omega)), if_pos i1, r2, if_neg (nI_ge hrR (by have := V.1.2.2.2.2.1; omega)), nI_1, pu_letn, show (61 : Int32) = nI 61 from rfl]
    obtain ⟨g1, s1, P1, u1⟩ := say_ok (N := N') P (by omega) (x := 61) (by omega)
    rw [s1, bind_sn]
    obtain ⟨hp', g', a1, a2, a3, a4⟩ := ih (r + 1) f f' (t + 1) (F_Page_append (nI 61) hp) g1 (V.un u1) P1 (by omega) (by omega) (by omega) (by omega)
    exact ⟨hp', g', a1, a2, by rw [show t + (m + 1) = t + 1 + m by omega]; exact a3, u1.tr a4⟩
theorem hatch_ok (V : VS hh hr hc g B R H D K n o) (P : PgR hp g t) (ht : t + R + 1 ≤ 60) (x y : Int32) (hN : 10 ≤ N) (hN' : 10 ≤ N') : ∃ hp' g' g'', F_Page_drawHatch N hp hh = some hp' ∧ L_Mo_tell_121 N' N' x y 0 g = some g' ∧ F_Mo_says N' 10 g' = some g'' ∧ PgR hp' g'' (t + R + 1) ∧ Un g g'' := by
  have hR : R ≤ 4 := V.1.2.2.2.2.1
  obtain ⟨hp1, g1, a1, a2, a3, a4⟩ := tell_121 (N := N) (N' := N') x y R 0 N N' t hp g V P (by omega) (by omega) (by omega) (by omega)
  rw [show nI 0 = 0 from rfl] at a1 a2
  obtain ⟨g2, s2, P2, u2⟩ := say_ok (N := N') a3 (by omega) (x := 10) (by omega)
  refine ⟨F_Page_append 10 hp1, g1, g2, ?_, a2, s2, P2, a4.tr u2⟩
  unfold F_Page_drawHatch
  rw [a1, bind_sn, pu_letn]
theorem tell_L {b : Nat} (hb : b < B) (hN : 10 ≤ N) (hN' : 10 ≤ N') : ∀ (x f f' t : Nat) (hp g : HH), VS hh hr hc g B R H D K n o → PgR hp g t → x < H + D → t + (x + 1) * (2 * (R + 1)) ≤ 60 → x + 1 < f → x + 1 < f' → ∃ hp' g' t', (Option.bind (L_Page_drawBay_54 N N (nI b) (nI x) 0 hp hh hc) fun v12 => L_Page_drawBay_23 N f (nI b) (nI x + -1) (F_Page_append 10 v12) hh hc) = some hp' ∧ L_Mo_tell_30 N' f' (nI b) (nI x) g = some g' ∧ PgR hp' g' t' ∧ Un g g' := by
  intro x
  induction x with
  | zero =>
    intro f f' t hp g V P h1 h2 h3 h4
    obtain ⟨f, rfl⟩ : ∃ z, f = z + 1 := ⟨f - 1, by omega⟩
    obtain ⟨f', rfl⟩ : ∃ z, f' = z + 1 + 1 := ⟨f' - 2, by omega⟩
    have hR : R ≤ 4 := V.1.2.2.2.2.1
    have hR1 : 1 ≤ R := V.1.2.2.2.1
    obtain ⟨hp1, g1, a1, a2, a3, a4⟩ := tell_36 (N := N) (N' := N') hb h1 R 0 N N' t hp g V P (by omega) (by omega) (by omega) (by omega)
    obtain ⟨g2, s2, P2, u2⟩ := say_ok (N := N') a3 (by omega) (x := 10) (by omega)
    have U := a4.tr u2
    have r2 : g2 1 (Int32.toNatClampNeg 2) = nI H := (V.un U).1.1.2.2.1
    have i2 : sv_in 2 90 := by decide
    have n0 : ¬ nI 0 < 0 := by decide
    have n1 : nI 0 + -1 < 0 := by decide
    have e30 : L_Mo_tell_30 N' (f' + 1) (nI b) (nI 0 + -1) g2 = some g2 := by rw [L_Mo_tell_30, if_pos n1]
    rw [show nI 0 = 0 from rfl] at a1 a2
    refine ⟨F_Page_append (nI 10) hp1, g2, t + R + 1, ?_, ?_, P2, U⟩
    · rw [show nI 0 = 0 from rfl, a1, bind_sn, L_Page_drawBay_23, if_pos (by decide)]
      rfl
    · rw [L_Mo_tell_30, if_neg n0, show nI 0 = 0 from rfl, a2, bind_sn, show (10 : Int32) = nI 10 from rfl, s2, bind_sn, if_pos i2, r2]
      rw [show nI 0 = 0 from rfl] at e30
      rw [e30]
      simp
  | succ x ih =>
    intro f f' t hp g V P h1 h2 h3 h4
    obtain ⟨f, rfl⟩ : ∃ z, f = z + 1 := ⟨f - 1, by omega⟩
    obtain ⟨f', rfl⟩ : ∃ z, f' = z + 1 := ⟨f' - 1, by omega⟩
    have hR : R ≤ 4 := V.1.2.2.2.2.1
    have hR1 : 1 ≤ R := V.1.2.2.2.1
    have hH : H ≤ 3 := V.1.2.2.2.2.2.1
    have hD : D ≤ 3 := V.1.2.2.2.2.2.2.1
    have em : (x + 1 + 1) * (2 * (R + 1)) = (x + 1) * (2 * (R + 1)) + 2 * (R + 1) := Nat.succ_mul _ _
    have eb : 1 * (2 * (R + 1)) ≤ (x + 1) * (2 * (R + 1)) := Nat.mul_le_mul_right _ (by omega)
    obtain ⟨hp1, g1, a1, a2, a3, a4⟩ := tell_36 (N := N) (N' := N') hb h1 R 0 N N' t hp g V P (by omega) (by omega) (by omega) (by omega)
    obtain ⟨g2, s2, P2, u2⟩ := say_ok (N := N') a3 (by omega) (x := 10) (by omega)
    have U := a4.tr u2
    have V2 := V.un U
    have r2 : g2 1 (Int32.toNatClampNeg 2) = nI H := V2.1.1.2.2.1
    have i2 : sv_in 2 90 := by decide
    have n0 : ¬ nI (x + 1) < 0 := nI_pos (by omega)
    have n0x : ¬ nI x < 0 := nI_pos (by omega)
    have ex : nI (x + 1) + -1 = nI x := pk_m1 x
    have h02 : hh 0 2 = nI H := V.H2
    have h03 : hh 0 3 = nI D := V.2.2.1.1.2.2.2.1
    rw [show nI 0 = 0 from rfl] at a1 a2
    rw [a1, bind_sn, ex, L_Page_drawBay_23, if_neg n0x, h02, h03, L_Mo_tell_30, if_neg n0, a2, bind_sn, show (10 : Int32) = nI 10 from rfl, s2, bind_sn, if_pos i2, r2, ex]
    by_cases c : x + 1 = H
    · have c1 : ¬ ¬ nI x = nI H - 1 := by
        intro z; apply z
        rw [show (1 : Int32) = nI 1 from rfl, pk_sub (by omega)]; congr 1; omega
      have c2 : ¬ nI D ≤ 0 := nI_nle (by omega) (by omega)
      have c3 : ¬ ¬ nI (x + 1) = nI H := by rw [c]; exact fun z => z rfl
      have c4 : ¬ nI (x + 1) = 0 := nI_ne0 (by omega) (by omega)
      obtain ⟨hp3, g3, g4, b1, b2, b3, b4, b5⟩ := hatch_ok (N := N) (N' := N') V2 P2 (by omega) (nI b) (nI (x + 1)) hN hN'
      rw [show (10 : Int32) = nI 10 from rfl] at b3
      rw [if_neg c1, if_neg c2, b1, bind_sn, bind_sn, if_neg c3, if_pos c4, b2, bind_sn, b3, bind_sn]
      obtain ⟨hp', g', t', d1, d2, d3, d4⟩ := ih f f' _ hp3 g4 (V2.un b5) b4 (by omega) (by omega) (by omega) (by omega)
      refine ⟨hp', g', t', ?_, d2, d3, (U.tr b5).tr d4⟩
      rw [← d1]
      simp only [pu_letn]
      try rfl
    · have c1 : ¬ nI x = nI H - 1 := by
        intro z
        rcases Nat.eq_zero_or_pos H with y | y
        · subst y
          rw [show nI 0 - 1 = -1 by decide] at z
          exact pu_m1 (n := x) (by omega) z
        · rw [show (1 : Int32) = nI 1 from rfl, pk_sub (by omega)] at z
          have := (nI_eq (by omega) (by omega)).mp z
          omega
      have c3 : ¬ nI (x + 1) = nI H := fun z => c ((nI_eq (by omega) (by omega)).mp z)
      rw [if_pos c1, bind_sn, if_pos c3]
      obtain ⟨hp', g', t', d1, d2, d3, d4⟩ := ih f f' _ (F_Page_append (nI 10) hp1) g2 V2 P2 (by omega) (by omega) (by omega) (by omega)
      refine ⟨hp', g', t', ?_, d2, d3, U.tr d4⟩
      rw [← d1]
      simp only [pu_letn]
      try rfl
theorem sim_41 : Sim_41 Inv := by
  intro a1 k g I
  have same : F_K_tell 30 a1 (k 0) (k 5) (k 9) (k 11) = some (-2, k 5) → F_Mo_tell 30 a1 g = some (-2, g) → ∃ (N N' : Nat) (v : Int32) (k' : KS) (g' : HH), KO_41 N a1 k = some (v, k') ∧ MO_41 N' a1 g = some (v, g') ∧ Inv k' g' := by
    intro h1 h2
    refine ⟨30, 30, -2, k, g, ?_, ?_, I⟩
    · unfold KO_41; rw [h1]; show some (-2, ku k 5 (k 5)) = _
      rw [ku_self]
    · unfold MO_41; rw [h2]; rfl
  rcases I.2 with J | ⟨B, R, H, D, K, n, o, J⟩
  · refine same ?_ ?_
    · unfold F_K_tell F_K_isBay; rw [J.1]; rfl
    · unfold F_Mo_tell; rw [J.2.1]; rfl
  rcases a_bay (N := 30) J a1 with ⟨b, h1, h2, h3, h4⟩ | ⟨h3, h4⟩
  case inr =>
    refine same ?_ ?_
    · unfold F_K_tell; rw [h3]; rfl
    · unfold F_Mo_tell; rw [J.2.1, if_neg pu_10, h4]; rfl
  subst h2
  have V := J.2.2.1
  have hR : R ≤ 4 := V.1.2.2.2.2.1
  have hH : H ≤ 3 := V.1.2.2.2.2.2.1
  have hD : D ≤ 3 := V.1.2.2.2.2.2.2.1
  have hT : 1 ≤ H + D := V.1.2.2.2.2.2.2.2
  obtain ⟨P0, u0⟩ := pg_0 (hp := k 5) (g := g)
  have V0 := V.un u0
  have hm : (H + D - 1 + 1) * (2 * (R + 1)) ≤ 6 * 10 := Nat.mul_le_mul (by omega) (by omega)
  obtain ⟨hp', g', t', d1, d2, d3, d4⟩ := tell_L (N := 30) (N' := 30) h1 (by omega) (by omega) (H + D - 1) 29 30 0 (ss (k 5) 0 0) (ss g 46 0) V0 P0 (by omega) (by omega) (by omega) (by omega)
  have h02 : k 9 0 2 = nI H := V.H2
  have h03 : k 9 0 3 = nI D := V.2.2.1.1.2.2.2.1
  have e1 : nI (H + D) - 1 = nI (H + D - 1) := by rw [show (1 : Int32) = nI 1 from rfl, pk_sub (by omega)]
  have n0 : ¬ nI (H + D - 1) < 0 := nI_pos (by omega)
  have hat : (if ¬ nI (H + D - 1) = nI H - 1 then some (ss (k 5) 0 0) else if nI D ≤ 0 then some (ss (k 5) 0 0) else Option.bind (F_Page_drawHatch 30 (ss (k 5) 0 0) (k 9)) fun v5 => some v5) = some (ss (k 5) 0 0) := by
    rcases Nat.eq_zero_or_pos D with y | y
    · rw [if_pos (show nI D ≤ 0 by subst y; decide)]; simp
    · have : ¬ nI (H + D - 1) = nI H - 1 := by
        intro z
        rcases Nat.eq_zero_or_pos H with w | w
        · subst w
          rw [show nI 0 - 1 = -1 by decide] at z
          exact pu_m1 (n := 0 + D - 1) (by omega) z
        · rw [show (1 : Int32) = nI 1 from rfl, pk_sub (by omega)] at z
          have := (nI_eq (by omega) (by omega)).mp z
          omega
      rw [if_pos this]
  have eK : F_Page_drawBay 30 (nI b) (k 5) (k 9) (k 11) = some hp' := by
    unfold F_Page_drawBay
    rw [pu_letn, h02, h03, nI_add, e1]
    have : L_Page_drawBay_23 30 30 (nI b) (nI (H + D - 1)) (ss (k 5) 0 0) (k 9) (k 11) = some hp' := by
      rw [show (30 : Nat) = 29 + 1 from rfl, L_Page_drawBay_23, if_neg n0, h02, h03, hat, bind_sn]
      rw [← d1]
      simp only [pu_letn]
      try rfl
    rw [this, bind_sn]
  refine ⟨30, 30, nI t', ku k 5 hp', g', ?_, ?_, Inv_pg I d3 (u0.tr d4)⟩
  · unfold KO_41 F_K_tell
    rw [h3, if_pos pu_10, eK, bind_sn, d3.2.1]
    rfl
  · unfold MO_41 F_Mo_tell
    rw [J.2.1, if_neg pu_10, h4, bind_sn, if_pos pu_10, pu_letn, Mo_tiers V0.1, bind_sn, e1, d2, bind_sn, d3.2.2.1]
    rfl
end TELL
