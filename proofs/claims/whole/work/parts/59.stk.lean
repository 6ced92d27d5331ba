/-! ===== pure: stacks, bays, lean ===== -/
section ASK3
variable {k : KS} {g : HH} {hh hr hc : HH} {B R H D K n o N N' : Nat}
theorem a_stack (I : InvA k g B R H D K n o) (a1 a2 a3 : Int32) : (∃ b r d, b < B ∧ r < R ∧ d < 2 ∧ a1 = nI b ∧ a2 = nI r ∧ a3 = nI d ∧ F_K_isStack a1 a2 a3 (k 0) (k 9) = 1 ∧ F_Mo_isStack N a1 a2 a3 g = some 1) ∨ (F_K_isStack a1 a2 a3 (k 0) (k 9) = 0 ∧ F_Mo_isStack N a1 a2 a3 g = some 0) := by
  have hR : R ≤ 4 := I.2.2.1.1.2.2.2.2.1
  have r1 : k 9 0 1 = nI R := I.2.2.1.2.2.1.1.2.1
  have r2 : g 1 1 = nI R := I.2.2.1.1.1.2.1
  have e : F_Mo_isStack N a1 a2 a3 g = (if (g 0 1) = 0 then (some (0)) else (Option.bind (F_Mo_isBay N a1 g) fun (v2) => (if v2 = 0 then (some (0)) else (if (F_Mo_in ((a2).toInt64) (0 : Int64) (((g 1 1 - (1))).toInt64)) = 0 then (some (0)) else (if (F_Mo_in ((a3).toInt64) (0 : Int64) ((1 : Int32).toInt64)) = 0 then (some (0)) else (some (1))))))) := rfl
  rw [e, pu_in0, pu_in0, I.2.1, if_neg pu_10, r2]
  unfold F_K_isStack
  rw [r1]
  rcases a_bay (N := N) I a1 with ⟨b, b1, b2, b3, b4⟩ | ⟨b3, b4⟩
  · rw [b3, b4, if_neg pu_10]
    simp only [Option.bind_some, if_neg pu_10]
    rcases pu_wn a2 (n := R) (by omega) with ⟨r, h1, h2, h3⟩ | ⟨h1, h3⟩
    · rw [h3, if_neg pu_10, if_neg pu_10]
      rcases pu_wc a3 0 1 (by omega) (by omega) with ⟨d, d1, d2, d3, d4⟩ | ⟨d1, d4⟩
      · rw [show nI 0 = 0 from rfl, show nI 1 = 1 from rfl] at d4
        rw [d4]
        exact Or.inl ⟨b, r, d, b1, h1, by omega, b2, h2, d3, rfl, rfl⟩
      · rw [show nI 0 = 0 from rfl, show nI 1 = 1 from rfl] at d4
        rw [d4]
        exact Or.inr ⟨rfl, rfl⟩
    · rw [h3]
      exact Or.inr ⟨rfl, rfl⟩
  · rw [b3, b4]
    exact Or.inr ⟨rfl, rfl⟩
theorem n_stack (I : InvN k g) (a1 a2 a3 : Int32) : F_K_isStack a1 a2 a3 (k 0) (k 9) = 0 ∧ F_Mo_isStack N a1 a2 a3 g = some 0 := by
  unfold F_K_isStack F_K_isBay F_Mo_isStack
  rw [I.1, I.2.1]
  exact ⟨rfl, rfl⟩
abbrev stB (R H D b r d : Nat) : Nat := (r + R * b) * (H + D) + (if d = 1 then H else 0)
abbrev stH (H D d : Nat) : Nat := if d = 1 then D else H
theorem stk_le (h : Geo g B R H D) {b r d : Nat} (hb : b < B) (hr : r < R) (hd : d < 2) : stB R H D b r d + stH H D d ≤ plN B R H D := by
  have q1 : r + R * b < B * R := by
    have : R * (b + 1) ≤ R * B := Nat.mul_le_mul_left R hb
    rw [Nat.mul_succ, Nat.mul_comm R B] at this
    omega
  have q2 : (r + R * b) * (H + D) + (H + D) ≤ B * R * (H + D) := by
    have := Nat.mul_le_mul_right (H + D) q1
    rw [Nat.succ_mul] at this
    exact this
  unfold stB stH plN
  rcases Nat.lt_or_ge d 1 with c | c
  · have : d = 0 := by omega
    subst this; simp; omega
  · have : d = 1 := by omega
    subst this; simp; omega
theorem stk_low {b r d i : Nat} (hd : d < 2) (hi : i < stH H D d) : lowS H D (stB R H D b r d + i) = stB R H D b r d := by
  unfold stB stH at *
  have hm : ∀ t, t < H + D → ((r + R * b) * (H + D) + t) % (H + D) = t := by
    intro t ht
    rw [Nat.mul_comm, Nat.mul_add_mod, Nat.mod_eq_of_lt ht]
  unfold lowS
  rcases Nat.lt_or_ge d 1 with c | c
  · have : d = 0 := by omega
    subst this
    have hi : i < H := hi
    show (if ((r + R * b) * (H + D) + 0 + i) % (H + D) < H then (r + R * b) * (H + D) + 0 + i - ((r + R * b) * (H + D) + 0 + i) % (H + D) else (r + R * b) * (H + D) + 0 + i - ((r + R * b) * (H + D) + 0 + i) % (H + D) + H) = (r + R * b) * (H + D) + 0
    rw [Nat.add_zero, hm i (by omega), if_pos hi]
    omega
  · have : d = 1 := by omega
    subst this
    have hi : i < D := hi
    show (if ((r + R * b) * (H + D) + H + i) % (H + D) < H then (r + R * b) * (H + D) + H + i - ((r + R * b) * (H + D) + H + i) % (H + D) else (r + R * b) * (H + D) + H + i - ((r + R * b) * (H + D) + H + i) % (H + D) + H) = (r + R * b) * (H + D) + H
    rw [Nat.add_assoc, hm (H + i) (by omega), if_neg (by omega)]
    omega
theorem K_stB (V : VS hh hr hc g B R H D K n o) {b r d : Nat} (hd : d < 2) : F_Hull_lowestOf (nI b) (nI r) (nI d) hh = nI (stB R H D b r d) ∧ F_Hull_tiersOf (nI d) hh = nI (stH H D d) := by
  unfold F_Hull_lowestOf F_Hull_tiersOf stB stH
  rw [V.2.2.1.1.2.1, V.2.2.1.1.2.2.1, V.2.2.1.1.2.2.2.1, pk_mul, nI_add, nI_add, pk_mul]
  rcases Nat.lt_or_ge d 1 with c | c
  · have : d = 0 := by omega
    subst this
    have z : ¬ nI 0 = 1 := by decide
    rw [if_pos z, if_pos z, show (0 : Int32) = nI 0 from rfl, nI_add]
    exact ⟨rfl, rfl⟩
  · have : d = 1 := by omega
    subst this
    have z : ¬ ¬ nI 1 = 1 := by decide
    rw [if_neg z, if_neg z, nI_add]
    exact ⟨rfl, rfl⟩
theorem Mo_stB (V : VS hh hr hc g B R H D K n o) {b r d : Nat} (hd : d < 2) : F_Mo_stackAt N (nI b) (nI r) (nI d) g = some (nI (stB R H D b r d)) ∧ F_Mo_stackHigh N (nI d) g = some (nI (stH H D d)) := by
  have e : F_Mo_stackAt N (nI b) (nI r) (nI d) g = (Option.bind (F_Mo_tiers N g) fun (v1) => (if ¬ nI d = (1) then (some ((v1 * (nI r + (g 1 1 * nI b))) + (0))) else (some ((v1 * (nI r + (g 1 1 * nI b))) + g 1 2)))) := rfl
  have e2 : F_Mo_stackHigh N (nI d) g = (if ¬ nI d = (1) then some (g 1 2) else some (g 1 3)) := rfl
  rw [e, e2, Mo_tiers V.1, V.1.1.2.1, V.1.1.2.2.1, V.1.1.2.2.2]
  simp only [Option.bind_some]
  rw [pk_mul, nI_add, pk_mul, Nat.mul_comm]
  unfold stB stH
  rcases Nat.lt_or_ge d 1 with c | c
  · have : d = 0 := by omega
    subst this
    have z : ¬ nI 0 = 1 := by decide
    rw [if_pos z, if_pos z, show (0 : Int32) = nI 0 from rfl, nI_add]
    exact ⟨rfl, rfl⟩
  · have : d = 1 := by omega
    subst this
    have z : ¬ ¬ nI 1 = 1 := by decide
    rw [if_neg z, if_neg z, nI_add]
    exact ⟨rfl, rfl⟩
theorem weighs_L (V : VS hh hr hc g B R H D K n o) {b r d : Nat} (hb : b < B) (hr' : r < R) (hd : d < 2) : ∀ (m i f f' : Nat) (acc : Int32), i + m = stH H D d → m < f → m < f' → ∃ v, L_Ves_stackWeight_6 N f (nI (stB R H D b r d)) (nI (stH H D d)) (-1) acc (nI i) hc = some v ∧ L_Mo_weighs_29 N' f' (nI d) acc (nI (stB R H D b r d)) (nI (stB R H D b r d + i)) g = some v := by
  intro m
  have hn := V.nn
  have hP := V.pp
  have hs := stk_le V.1 hb hr' hd
  induction m with
  | zero =>
    intro i f f' acc h1 h2 h3
    obtain ⟨f, rfl⟩ : ∃ z, f = z + 1 := ⟨f - 1, by omega⟩
    obtain ⟨f', rfl⟩ : ∃ z, f' = z + 1 := ⟨f' - 1, by omega⟩
    have : i = stH H D d := by omega
    subst this
    unfold L_Ves_stackWeight_6 L_Mo_weighs_29
    rw [(Mo_stB V (b := b) (r := r) hd).2]
    simp only [Option.bind_some]
    rw [nI_add, if_pos (Int32.le_refl _), if_pos (Int32.le_refl _)]
    exact ⟨_, rfl, rfl⟩
  | succ m ih =>
    intro i f f' acc h1 h2 h3
    obtain ⟨f, rfl⟩ : ∃ z, f = z + 1 := ⟨f - 1, by omega⟩
    obtain ⟨f', rfl⟩ : ∃ z, f' = z + 1 := ⟨f' - 1, by omega⟩
    unfold L_Ves_stackWeight_6 L_Mo_weighs_29
    rw [(Mo_stB V (b := b) (r := r) hd).2]
    simp only [Option.bind_some]
    have hin : sv_in (nI (stB R H D b r d + i)) 144 := pu_in (by omega) (by omega)
    have e0 : acc + 0 = acc := Int32.add_zero _
    simp only [if_pos hin]
    rw [nI_add, nI_add, if_neg (nI_ge (by omega) (by omega)), if_neg (nI_ge (by omega) (by omega)), V.at (by omega), nI_clamp (by omega), nI_1, nI_1, e0]
    rcases V.atb (p := stB R H D b r d + i) (by omega) with w | ⟨c, hc', w, -⟩
    · rw [w, if_pos rfl, if_pos rfl]
      exact ih (i + 1) f f' acc (by omega) (by omega) (by omega)
    · rw [w, if_neg (pu_m1 (by omega)), if_neg (pu_m1 (by omega)), if_neg (pu_m1 (by omega)), if_pos (pu_in (by omega) (by omega)), nI_clamp (by omega)]
      obtain ⟨kd, wt, t, -, -, -, -, w5, -, -, -, -, w1, -⟩ := V.box hc'
      rw [w1, w5]
      exact ih (i + 1) f f' _ (by omega) (by omega) (by omega)
theorem sim_23 : Sim_23 Inv := by
  intro a1 a2 a3 k g I
  have h : ∃ v, F_K_weighs 3000 a1 a2 a3 (k 0) (k 9) (k 11) = some v ∧ F_Mo_weighs 3000 a1 a2 a3 g = some v := by
    unfold F_K_weighs F_Mo_weighs
    rcases I.2 with J | ⟨B, R, H, D, K, n, o, J⟩
    · obtain ⟨h3, h4⟩ := n_stack (N := 3000) J a1 a2 a3
      rw [h3, h4]
      exact ⟨-2, rfl, rfl⟩
    rcases a_stack (N := 3000) J a1 a2 a3 with ⟨b, r, d, h1, h2, h3, rfl, rfl, rfl, h4, h5⟩ | ⟨h4, h5⟩
    · have V := J.2.2.1
      have hs := stk_le V.1 h1 h2 h3
      have hP := V.pp
      rw [h4, h5, if_pos pu_10, (K_stB V (b := b) (r := r) h3).1, (K_stB V (b := b) (r := r) h3).2]
      simp only [Option.bind_some, if_pos pu_10]
      rw [(Mo_stB V (b := b) (r := r) h3).1]
      simp only [Option.bind_some]
      obtain ⟨v, v1, v2⟩ := weighs_L (N := 3000) (N' := 3000) V h1 h2 h3 (stH H D d) 0 3000 3000 0 (by omega) (by omega) (by omega)
      rw [show nI 0 = 0 from rfl] at v1
      rw [Nat.add_zero] at v2
      unfold F_Ves_stackWeight
      rw [v1, v2]
      exact ⟨_, rfl, rfl⟩
    · rw [h4, h5]
      exact ⟨-2, rfl, rfl⟩
  obtain ⟨v, h1, h2⟩ := h
  refine ⟨3000, 3000, v, k, g, ?_, ?_, I⟩
  · unfold KO_23; rw [h1]; rfl
  · unfold MO_23; rw [h2]; rfl
theorem st_e (V : VS hh hr hc g B R H D K n o) {b r d : Nat} (hb : b < B) (hr' : r < R) (hd : d < 2) (x : Int32) : ∀ (m i f : Nat) (c : Int32), i + m = stH H D d → m < f → (∀ j, i ≤ j → j < stH H D d → g 8 (stB R H D b r d + j) = -1) → L_Surv_boxInStack_6 N f (nI (stB R H D b r d)) (nI (stH H D d)) x c (nI i) hc = some (.inl ()) := by
  intro m
  have hP := V.pp
  have hs := stk_le V.1 hb hr' hd
  induction m with
  | zero =>
    intro i f c h1 h2 h3
    obtain ⟨f, rfl⟩ : ∃ z, f = z + 1 := ⟨f - 1, by omega⟩
    have : i = stH H D d := by omega
    subst this
    unfold L_Surv_boxInStack_6
    rw [if_pos (Int32.le_refl _)]
  | succ m ih =>
    intro i f c h1 h2 h3
    obtain ⟨f, rfl⟩ : ∃ z, f = z + 1 := ⟨f - 1, by omega⟩
    unfold L_Surv_boxInStack_6
    rw [if_neg (nI_ge (by omega) (by omega)), nI_add, V.at (by omega), h3 i (by omega) (by omega), if_pos rfl, nI_1]
    exact ih (i + 1) f c (by omega) (by omega) (fun j j1 j2 => h3 j (by omega) j2)
theorem st_f (V : VS hh hr hc g B R H D K n o) (hh0 : NoH g H D (plN B R H D)) {b r d : Nat} (hb : b < B) (hr' : r < R) (hd : d < 2) {q : Nat} (hq : q < 2 ^ 31) : ∀ (m i f : Nat), i + m = stH H D d → m < f → i ≤ q → L_Surv_boxInStack_6 N f (nI (stB R H D b r d)) (nI (stH H D d)) (nI q) (nI i) (nI i) hc = some (if q < stH H D d then (if g 8 (stB R H D b r d + q) = -1 then .inl () else .inr (g 8 (stB R H D b r d + q))) else .inl ()) := by
  intro m
  have hP := V.pp
  have hs := stk_le V.1 hb hr' hd
  induction m with
  | zero =>
    intro i f h1 h2 h3
    obtain ⟨f, rfl⟩ : ∃ z, f = z + 1 := ⟨f - 1, by omega⟩
    have : i = stH H D d := by omega
    subst this
    unfold L_Surv_boxInStack_6
    rw [if_pos (Int32.le_refl _), if_neg (by omega)]
  | succ m ih =>
    intro i f h1 h2 h3
    obtain ⟨f, rfl⟩ : ∃ z, f = z + 1 := ⟨f - 1, by omega⟩
    unfold L_Surv_boxInStack_6
    rw [if_neg (nI_ge (by omega) (by omega)), nI_add, V.at (by omega), nI_1]
    by_cases c : g 8 (stB R H D b r d + i) = -1
    · have up : ∀ j, i ≤ j → j < stH H D d → g 8 (stB R H D b r d + j) = -1 := by
        intro j
        induction j with
        | zero => intro j1 j2; have : i = 0 := by omega
                  subst this; exact c
        | succ j jh =>
          intro j1 j2
          rcases Nat.lt_or_ge j i with w | w
          · have : i = j + 1 := by omega
            subst this; exact c
          · have w1 := jh w (by omega)
            have lw := stk_low (R := R) (b := b) (r := r) (i := j + 1) hd j2
            refine Decidable.byContradiction (fun z => ?_)
            have := hh0 (stB R H D b r d + (j + 1)) (by omega) z (by rw [lw]; omega)
            rw [show stB R H D b r d + (j + 1) - 1 = stB R H D b r d + j by omega] at this
            exact this w1
      rw [if_pos c, st_e V hb hr' hd _ m (i + 1) f _ (by omega) (by omega) (fun j j1 j2 => up j (by omega) j2)]
      rcases Nat.lt_or_ge q (stH H D d) with w | w
      · rw [if_pos w, if_pos (up q h3 w)]
      · rw [if_neg (by omega)]
    · rw [if_neg c]
      by_cases e : i = q
      · subst e
        rw [if_neg (fun z => z rfl), if_pos (by omega), if_neg c]
      · rw [if_pos (fun z => e ((nI_eq (by omega) (by omega)).mp z))]
        exact ih (i + 1) f (by omega) (by omega) (by omega)
theorem sim_43 : Sim_43 Inv := by
  intro a1 a2 a3 a4 k g I
  have h : ∃ v, F_K_stack 3000 a1 a2 a3 a4 (k 0) (k 9) (k 11) = some v ∧ F_Mo_stack 3000 a1 a2 a3 a4 g = some v := by
    unfold F_K_stack F_Mo_stack
    rcases I.2 with J | ⟨B, R, H, D, K, n, o, J⟩
    · obtain ⟨h3, h4⟩ := n_stack (N := 3000) J a1 a2 a3
      rw [h3, h4]
      exact ⟨-2, rfl, rfl⟩
    rcases a_stack (N := 3000) J a1 a2 a3 with ⟨b, r, d, h1, h2, h3, rfl, rfl, rfl, h4, h5⟩ | ⟨h4, h5⟩
    · have V := J.2.2.1
      have hs := stk_le V.1 h1 h2 h3
      have hP := V.pp
      rw [h4, h5, if_neg pu_10, (K_stB V (b := b) (r := r) h3).1, (K_stB V (b := b) (r := r) h3).2]
      simp only [Option.bind_some, if_neg pu_10]
      rw [(Mo_stB V (b := b) (r := r) h3).1, (Mo_stB V (b := b) (r := r) h3).2]
      simp only [Option.bind_some]
      by_cases c : 0 ≤ a4
      · rw [if_pos c, if_pos c]
        obtain ⟨q, hq, rfl⟩ := nI_of (Int32.not_lt.mpr c)
        unfold F_Surv_boxInStack
        have e := st_f (N := 3000) V J.2.2.2.2.1 h1 h2 h3 hq (stH H D d) 0 3000 (by omega) (by omega) (by omega)
        rw [show nI 0 = 0 from rfl] at e
        rw [e]
        rcases Nat.lt_or_ge q (stH H D d) with w | w
        · rw [if_neg (nI_ge w (by omega)), if_pos w, nI_add, if_pos (pu_in (by omega) (by omega)), nI_clamp (by omega)]
          by_cases c2 : g 8 (stB R H D b r d + q) = -1
          · rw [if_pos c2, c2]
            exact ⟨_, rfl, rfl⟩
          · rw [if_neg c2]
            exact ⟨_, rfl, rfl⟩
        · rw [if_pos (nI_le w (by omega)), if_neg (by omega)]
          exact ⟨_, rfl, rfl⟩
      · rw [if_neg c, if_neg c]
        exact ⟨-2, rfl, rfl⟩
    · rw [h4, h5]
      exact ⟨-2, rfl, rfl⟩
  obtain ⟨v, h1, h2⟩ := h
  refine ⟨3000, 3000, v, k, g, ?_, ?_, I⟩
  · unfold KO_43; rw [h1]; rfl
  · unfold MO_43; rw [h2]; rfl
end ASK3
