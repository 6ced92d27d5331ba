/-! ===== pure: nearest, weight of a stack, why not ===== -/
section WHY2
variable {hh hr hc g : HH} {B R H D K n o : Nat} {N N' : Nat}
theorem VS.n6 (V : VS hh hr hc g B R H D K n o) : g 0 6 = nI n := V.2.2.2.2.1.1.1
theorem VS.h0 (V : VS hh hr hc g B R H D K n o) : hc 0 0 = nI n := V.2.2.2.2.2.1
theorem near_L (V : VS hh hr hc g B R H D K n o) (ho : g 0 11 = nI o) {kd p : Nat} (hk : kd < K) (hp : p < plN B R H D) (x y : Int32) (hxy : ∀ j, j < n → (nI j = x ↔ nI j = y)) (hN' : 10 ≤ N') : ∀ (m j f f' : Nat), j + m = n → m < f → m < f' → ∃ r, L_Ves_nearest_3 N f (nI kd) (nI p) x (nI j) hh hr hc = some r ∧ L_Mo_firstNear_3 N' f' (nI kd) (nI p) y (nI j) g = some r ∧ (r = .inl () ∨ ∃ i, i < n ∧ r = .inr (nI i)) := by
  intro m
  have hn := V.nn
  induction m with
  | zero =>
    intro j f f' h1 h2 h3
    obtain ⟨f, rfl⟩ : ∃ z, f = z + 1 := ⟨f - 1, by omega⟩
    obtain ⟨f', rfl⟩ : ∃ z, f' = z + 1 := ⟨f' - 1, by omega⟩
    have : j = n := by omega
    subst this
    unfold L_Ves_nearest_3 L_Mo_firstNear_3
    rw [V.n6, V.h0, if_pos (Int32.le_refl _), if_pos (Int32.le_refl _)]
    exact ⟨_, rfl, rfl, Or.inl rfl⟩
  | succ m ih =>
    intro j f f' h1 h2 h3
    obtain ⟨f, rfl⟩ : ∃ z, f = z + 1 := ⟨f - 1, by omega⟩
    obtain ⟨f', rfl⟩ : ∃ z, f' = z + 1 := ⟨f' - 1, by omega⟩
    have hj : j < n := by omega
    obtain ⟨r, i1, i2, i3⟩ := ih (j + 1) f f' (by omega) (by omega) (by omega)
    unfold L_Ves_nearest_3 L_Mo_firstNear_3
    rw [V.n6, V.h0, if_neg (nI_ge hj (by omega)), if_neg (nI_ge hj (by omega)), nI_1, i1, i2]
    by_cases c : nI j = x
    · rw [if_pos c, if_pos ((hxy j hj).mp c)]
      simp only [pu_let, if_pos]
      exact ⟨r, rfl, rfl, i3⟩
    · rw [if_neg c, if_neg (fun z => c ((hxy j hj).mpr z)), ho, K_nearB V hk hp hj, Mo_nearTo V hk hp hj hN']
      simp only [Option.bind_some, bi0]
      cases hb : nearK g o R H D kd p j
      · exact ⟨r, by simp, by simp, i3⟩
      · exact ⟨.inr (nI j), by simp, by simp, Or.inr ⟨j, hj, rfl⟩⟩
theorem near_eq (V : VS hh hr hc g B R H D K n o) (ho : g 0 11 = nI o) {kd p : Nat} (hk : kd < K) (hp : p < plN B R H D) (x y : Int32) (hxy : ∀ j, j < n → (nI j = x ↔ nI j = y)) (hN : 30 ≤ N) (hN' : 30 ≤ N') : ∃ v, F_Ves_nearest N (nI kd) (nI p) x hh hr hc = some v ∧ F_Mo_firstNear N' (nI kd) (nI p) y g = some v ∧ (v = -1 ∨ ∃ i, i < n ∧ v = nI i) := by
  have hn := V.nn
  obtain ⟨r, h1, h2, h3⟩ := near_L (N := N) V ho hk hp x y hxy (N' := N') (by omega) n 0 N N' (by omega) (by omega) (by omega)
  unfold F_Ves_nearest F_Mo_firstNear
  rw [show nI 0 = 0 from rfl] at h1 h2
  rw [h1, h2]
  rcases h3 with rfl | ⟨i, hi, rfl⟩
  · exact ⟨-1, rfl, rfl, Or.inl rfl⟩
  · exact ⟨nI i, rfl, rfl, Or.inr ⟨i, hi, rfl⟩⟩
theorem VS.atb (V : VS hh hr hc g B R H D K n o) {p : Nat} (hp : p < 144) : g 8 p = -1 ∨ ∃ b, b < n ∧ g 8 p = nI b ∧ g 7 b = nI p := V.2.2.2.2.1.2.2 p hp
theorem stw_L (V : VS hh hr hc g B R H D K n o) {p : Nat} (hp : p < plN B R H D) (x y : Int32) (hxy : ∀ j, j < n → (nI j = x ↔ nI j = y)) : ∀ (m i f f' : Nat) (acc : Int32), i + m = highS H D p → m < f → m < f' → ∃ v, L_Ves_stackWeight_6 N f (nI (lowS H D p)) (nI (highS H D p)) x acc (nI i) hc = some v ∧ L_Mo_weightAt_9 N' f' (nI p) y acc (nI (lowS H D p + i)) g = some v := by
  intro m
  have hn := V.nn
  have hP := V.pp
  obtain ⟨s1, s2, s3⟩ := V.1.st hp
  induction m with
  | zero =>
    intro i f f' acc h1 h2 h3
    obtain ⟨f, rfl⟩ : ∃ z, f = z + 1 := ⟨f - 1, by omega⟩
    obtain ⟨f', rfl⟩ : ∃ z, f' = z + 1 := ⟨f' - 1, by omega⟩
    have : i = highS H D p := by omega
    subst this
    unfold L_Ves_stackWeight_6 L_Mo_weightAt_9
    rw [Mo_low V.1 (by omega), Mo_high V.1 (by omega)]
    simp only [Option.bind_some]
    rw [nI_add, if_pos (Int32.le_refl _), if_pos (Int32.le_refl _)]
    exact ⟨_, rfl, rfl⟩
  | succ m ih =>
    intro i f f' acc h1 h2 h3
    obtain ⟨f, rfl⟩ : ∃ z, f = z + 1 := ⟨f - 1, by omega⟩
    obtain ⟨f', rfl⟩ : ∃ z, f' = z + 1 := ⟨f' - 1, by omega⟩
    unfold L_Ves_stackWeight_6 L_Mo_weightAt_9
    rw [Mo_low V.1 (by omega), Mo_high V.1 (by omega)]
    simp only [Option.bind_some]
    have hin : sv_in (nI (lowS H D p + i)) 144 := pu_in (by omega) (by omega)
    have e0 : acc + 0 = acc := Int32.add_zero _
    simp only [if_pos hin]
    rw [nI_add, nI_add, if_neg (nI_ge (by omega) (by omega)), if_neg (nI_ge (by omega) (by omega)), V.at (by omega), nI_clamp (by omega), nI_1, nI_1, e0]
    rcases V.atb (p := lowS H D p + i) (by omega) with w | ⟨b, hb, w, -⟩
    · rw [w, if_pos rfl, if_pos rfl]
      exact ih (i + 1) f f' acc (by omega) (by omega) (by omega)
    · rw [w, if_neg (pu_m1 (by omega)), if_neg (pu_m1 (by omega))]
      by_cases c : nI b = x
      · rw [if_pos c, if_pos ((hxy b hb).mp c)]
        exact ih (i + 1) f f' acc (by omega) (by omega) (by omega)
      · rw [if_neg c, if_neg (fun z => c ((hxy b hb).mpr z)), if_pos (pu_in (by omega) (by omega)), nI_clamp (by omega)]
        obtain ⟨kd, wt, t, -, -, -, -, w5, -, -, -, -, w1, -⟩ := V.box hb
        rw [w1, w5]
        exact ih (i + 1) f f' _ (by omega) (by omega) (by omega)
theorem highS_le (h : Geo g B R H D) (p : Nat) : highS H D p ≤ 3 := by
  obtain ⟨-, h1, h2, h3, h4, h5, h6, h7⟩ := h
  unfold highS
  split <;> omega
theorem stw_eq (V : VS hh hr hc g B R H D K n o) {p : Nat} (hp : p < plN B R H D) (x y : Int32) (hxy : ∀ j, j < n → (nI j = x ↔ nI j = y)) (hN : 30 ≤ N) (hN' : 30 ≤ N') : ∃ v, F_Ves_stackWeight N (nI (lowS H D p)) (nI (highS H D p)) x hc = some v ∧ F_Mo_weightAt N' (nI p) y g = some v := by
  have hP := V.pp
  have hh3 := highS_le V.1 p
  obtain ⟨v, h1, h2⟩ := stw_L (N := N) (N' := N') V hp x y hxy (highS H D p) 0 N N' 0 (by omega) (by omega) (by omega)
  unfold F_Ves_stackWeight F_Mo_weightAt
  rw [Mo_low V.1 (by omega)]
  simp only [Option.bind_some]
  rw [show nI 0 = 0 from rfl] at h1
  rw [Nat.add_zero] at h2
  rw [h1, h2]
  exact ⟨v, rfl, rfl⟩
theorem K_tier (V : VS hh hr hc g B R H D K n o) {p : Nat} (hp : p < plN B R H D) : rd 144 (hh 3) (nI p) = nI (p % (H + D)) := by
  have hP := V.pp
  rw [pu_rd _ (by omega) (by omega)]
  exact (V.2.2.1.2.1 p hp).2.2
theorem VS.H2 (V : VS hh hr hc g B R H D K n o) : hh 0 2 = nI H := V.2.2.1.1.2.2.1
theorem K_deck (V : VS hh hr hc g B R H D K n o) {p : Nat} (hp : p < plN B R H D) : F_Hull_isDeck (nI p) hh = deckS H D p := by
  have t1 := V.1.md p
  have hH3 : H ≤ 3 := V.1.2.2.2.2.2.1
  have hD3 : D ≤ 3 := V.1.2.2.2.2.2.2.1
  unfold F_Hull_isDeck deckS
  rw [K_tier V hp, V.H2]
  by_cases c : p % (H + D) < H
  · rw [if_pos (nI_lt c (by omega)), if_pos c]
  · rw [if_neg (nI_nlt (by omega) (by omega)), if_neg c]
theorem lowS_iff (h : Geo g B R H D) (p : Nat) : p = lowS H D p ↔ (p % (H + D) = 0 ∨ p % (H + D) = H) := by
  have t1 := h.md p
  have m := Nat.mod_le p (H + D)
  unfold lowS
  split <;> omega
theorem K_lowest (V : VS hh hr hc g B R H D K n o) {p : Nat} (hp : p < plN B R H D) : F_Hull_isLowest (nI p) hh = if p = lowS H D p then 1 else 0 := by
  have t1 := V.1.md p
  have hH3 : H ≤ 3 := V.1.2.2.2.2.2.1
  have hD3 : D ≤ 3 := V.1.2.2.2.2.2.2.1
  have hl := lowS_iff V.1 p
  unfold F_Hull_isLowest
  rw [K_tier V hp, V.H2]
  by_cases c : p % (H + D) = 0
  · rw [c, show nI 0 = 0 from rfl, if_pos rfl, if_pos (hl.mpr (Or.inl c))]
  · rw [if_neg (nI_ne0 (by omega) (by omega))]
    by_cases c2 : p % (H + D) = H
    · rw [c2, if_neg (fun z => z rfl), if_pos (hl.mpr (Or.inr c2))]
    · rw [if_pos (fun z => c2 ((nI_eq (by omega) (by omega)).mp z)), if_neg (fun z => by rcases hl.mp z with z | z <;> contradiction)]
theorem K_under (V : VS hh hr hc g B R H D K n o) {p : Nat} (hp : p < plN B R H D) : F_Hull_lowestUnder (nI p) hh = nI (lowS H D p) := by
  have t1 := V.1.md p
  have hH3 : H ≤ 3 := V.1.2.2.2.2.2.1
  have hD3 : D ≤ 3 := V.1.2.2.2.2.2.2.1
  unfold F_Hull_lowestUnder lowS
  rw [K_tier V hp, V.H2, pk_sub (Nat.mod_le _ _)]
  by_cases c : p % (H + D) < H
  · rw [if_pos (nI_lt c (by omega)), if_pos c]
  · rw [if_neg (nI_nlt (by omega) (by omega)), if_neg c, nI_add]
theorem K_tiers (V : VS hh hr hc g B R H D K n o) (p : Nat) : F_Hull_tiersOf (if deckS H D p = 0 then 0 else 1) hh = nI (highS H D p) := by
  unfold F_Hull_tiersOf deckS highS
  have h3 : hh 0 3 = nI D := V.2.2.1.1.2.2.2.1
  by_cases c : p % (H + D) < H
  · rw [if_pos c, if_pos c, if_pos rfl, if_pos (by decide), V.H2]
  · rw [if_neg c, if_neg c, if_neg pu_10, if_neg (fun z : ¬ (1 : Int32) = 1 => z rfl), h3]
def kTail (N : Nat) (a0 a1 v3 : Int32) (hh hr hc : HH) : Option Int32 := (if ¬ (F_Rules_mayLie (F_Cargo_kindOf a0 hc) (F_Hull_isDeck a1 hh) hr) = 0 then (sv_let (if (F_Hull_isDeck a1 hh) = 0 then (0) else (1)) fun (v7) => (Option.bind (F_Ves_stackWeight N (F_Hull_lowestUnder a1 hh) (F_Hull_tiersOf v7 hh) a0 hc) fun (v8) => (sv_let (if (F_Hull_isDeck a1 hh) = 0 then (hh 0 5) else (hh 0 6)) fun (v11) => (if (v8 + (F_Cargo_weightOf a0 hc)) ≤ v11 then (if v3 = (-1) then (Option.bind (F_Ves_nearest N (F_Cargo_kindOf a0 hc) a1 a0 hh hr hc) fun (v14) => (if v14 = (-1) then (some (0)) else (some (6)))) else (if (F_Cargo_weightOf a0 hc) ≤ (F_Cargo_weightOf v3 hc) then (Option.bind (F_Ves_nearest N (F_Cargo_kindOf a0 hc) a1 a0 hh hr hc) fun (v18) => (if v18 = (-1) then (some (0)) else (some (6)))) else (some (5)))) else (some (4)))))) else (some (3)))
def mTail (N : Nat) (a0 a1 a2 a3 v7 : Int32) (gm : HH) : Option Int32 := (if sv_in ((34) + a0) 90 then (Option.bind (F_Mo_isOnDeck N a2 gm) fun (v12) => (sv_let (if v12 = 0 then (1) else (2)) fun (v15) => (if ¬ (gm 1 (((34) + a0)).toNatClampNeg) = v15 then (Option.bind (F_Mo_weightAt N a2 a3 gm) fun (v17) => (Option.bind (F_Mo_bearsAt N a2 gm) fun (v19) => (if (v17 + a1) ≤ v19 then (if v7 = (-1) then (Option.bind (F_Mo_firstNear N a0 a2 a3 gm) fun (v23) => (if v23 = (-1) then (some (0)) else (some (6)))) else (if sv_in v7 24 then (if a1 ≤ (gm 5 (v7).toNatClampNeg) then (Option.bind (F_Mo_firstNear N a0 a2 a3 gm) fun (v28) => (if v28 = (-1) then (some (0)) else (some (6)))) else (some (5))) else none)) else (some (4))))) else (some (3))))) else none)
theorem whyNot_t (N : Nat) (a0 a1 : Int32) (hh hr hc : HH) : F_Ves_whyNot N a0 a1 hh hr hc = if (F_Cargo_boxAt a1 hc) = (-1) then (sv_let (if (F_Hull_isLowest a1 hh) = 0 then (F_Cargo_boxAt (a1 - (1)) hc) else (-1)) fun (v3) => (if ¬ (F_Hull_isLowest a1 hh) = 0 then kTail N a0 a1 v3 hh hr hc else (if v3 = (-1) then (some (2)) else (if ¬ v3 = a0 then kTail N a0 a1 v3 hh hr hc else (some (2)))))) else (some (1)) := rfl
theorem whyOf_t (N : Nat) (a0 a1 a2 a3 : Int32) (gm : HH) : F_Mo_whyOf N a0 a1 a2 a3 gm = (if sv_in a2 144 then (if (gm 8 (a2).toNatClampNeg) = (-1) then (Option.bind (F_Mo_lowestOf N a2 gm) fun (v3) => (Option.bind (if ¬ a2 = v3 then (if sv_in (a2 - (1)) 144 then some (gm 8 ((a2 - (1))).toNatClampNeg) else none) else some (-1)) fun (v7) => (Option.bind (F_Mo_lowestOf N a2 gm) fun (v8) => (if a2 = v8 then mTail N a0 a1 a2 a3 v7 gm else (if v7 = (-1) then (some (2)) else (if ¬ v7 = a3 then mTail N a0 a1 a2 a3 v7 gm else (some (2)))))))) else (some (1))) else none) := rfl
theorem deckS_01 (H D p : Nat) : deckS H D p = 0 ∨ deckS H D p = 1 := by
  unfold deckS
  split <;> simp
theorem tail_eq (V : VS hh hr hc g B R H D K n o) (ho : g 0 11 = nI o) {kd p : Nat} (hk : kd < K) (hp : p < plN B R H D) (x y w : Int32) (hxy : ∀ j, j < n → (nI j = x ↔ nI j = y)) (hx1 : F_Cargo_kindOf x hc = nI kd) (hx2 : F_Cargo_weightOf x hc = w) (bel : Int32) (hb : bel = -1 ∨ ∃ i, i < n ∧ bel = nI i) (hN : 30 ≤ N) (hN' : 30 ≤ N') : ∃ v, kTail N x (nI p) bel hh hr hc = some (nI v) ∧ mTail N' (nI kd) w (nI p) y bel g = some (nI v) ∧ v ≤ 6 := by
  have hn := V.nn
  have hP := V.pp
  have hK := V.kk
  have hin : sv_in (nI (34 + kd)) 90 := pu_in (by omega) (by omega)
  obtain ⟨sw, s1, s2⟩ := stw_eq (N := N) (N' := N') V hp x y hxy hN hN'
  obtain ⟨nv, n1, n2, n3⟩ := near_eq (N := N) (N' := N') V ho hk hp x y hxy hN hN'
  obtain ⟨w1, w2⟩ := V.2.2.2.1.2.2.1 kd hk
  have hbe : F_Mo_bearsAt N' (nI p) g = some (if deckS H D p = 0 then g 1 4 else g 1 5) := by
    unfold F_Mo_bearsAt
    rw [Mo_deck V.1 (by omega)]
    rcases deckS_01 H D p with d | d
    · rw [d]; rfl
    · rw [d]; rfl
  unfold kTail mTail
  rw [show (34 : Int32) + nI kd = nI (34 + kd) from nI_add 34 kd, if_pos hin, nI_clamp (by omega), hx1, hx2, K_deck V hp, K_under V hp, Mo_deck V.1 (by omega)]
  simp only [pu_let, Option.bind_some, K_tiers V, s1, s2, n1, n2, hbe, V.2.2.1.1.2.2.2.2.2.1, V.2.2.1.1.2.2.2.2.2.2]
  have hm : (F_Rules_mayLie (nI kd) (deckS H D p) hr = 0) ↔ g 1 (34 + kd) = (if deckS H D p = 0 then 1 else 2) := by
    unfold F_Rules_mayLie
    rw [pu_rd _ (by omega) (by omega), w1]
    simp only [pu_let]
    rcases deckS_01 H D p with d | d <;> rcases w2 with e | e | e <;> rw [d, e] <;> decide
  by_cases c : F_Rules_mayLie (nI kd) (deckS H D p) hr = 0
  · rw [if_neg (fun z => z c), if_neg (fun z => z (hm.mp c))]
    exact ⟨3, rfl, rfl, by omega⟩
  rw [if_pos c, if_pos (fun z => c (hm.mpr z))]
  by_cases c2 : sw + w ≤ (if deckS H D p = 0 then g 1 4 else g 1 5)
  · rw [if_pos c2, if_pos c2]
    have fin : ∃ v, (if nv = -1 then some (0 : Int32) else some 6) = some (nI v) ∧ v ≤ 6 := by
      by_cases c3 : nv = -1
      · exact ⟨0, by rw [if_pos c3]; rfl, by omega⟩
      · exact ⟨6, by rw [if_neg c3]; rfl, by omega⟩
    obtain ⟨v, f1, f2⟩ := fin
    rcases hb with rfl | ⟨i, hi, rfl⟩
    · rw [if_pos rfl, if_pos rfl]
      exact ⟨v, f1, f1, f2⟩
    · obtain ⟨kj, wj, tj, -, -, -, -, g5, -, -, -, -, k5, -⟩ := V.box hi
      rw [if_neg (pu_m1 (by omega)), if_neg (pu_m1 (by omega)), if_pos (pu_in (by omega) (by omega)), k5, nI_clamp (by omega), g5]
      by_cases c4 : w ≤ nI wj
      · rw [if_pos c4]
        exact ⟨v, f1, f1, f2⟩
      · rw [if_neg c4]
        exact ⟨5, rfl, rfl, by omega⟩
  · rw [if_neg c2, if_neg c2]
    exact ⟨4, rfl, rfl, by omega⟩
theorem why_eq (V : VS hh hr hc g B R H D K n o) (ho : g 0 11 = nI o) {kd p : Nat} (hk : kd < K) (hp : p < plN B R H D) (x y w : Int32) (hxy : ∀ j, j < n → (nI j = x ↔ nI j = y)) (hx1 : F_Cargo_kindOf x hc = nI kd) (hx2 : F_Cargo_weightOf x hc = w) (hN : 30 ≤ N) (hN' : 30 ≤ N') : ∃ v, F_Ves_whyNot N x (nI p) hh hr hc = some (nI v) ∧ F_Mo_whyOf N' (nI kd) w (nI p) y g = some (nI v) ∧ v ≤ 6 ∧ (v = 0 → g 8 p = -1 ∧ (p ≠ lowS H D p → g 8 (p - 1) ≠ -1 ∧ g 8 (p - 1) ≠ y)) := by
  have hn := V.nn
  have hP := V.pp
  have hK := V.kk
  obtain ⟨s1, s2, s3⟩ := V.1.st hp
  rw [whyNot_t, whyOf_t, if_pos (pu_in (by omega) (by omega)), V.at (by omega), nI_clamp (by omega), K_lowest V hp, Mo_low V.1 (by omega)]
  simp only [pu_let, Option.bind_some]
  rcases Decidable.em (¬ g 8 p = -1) with c0 | c0
  · rw [if_neg c0, if_neg c0]
    exact ⟨1, rfl, rfl, by omega, fun z => by omega⟩
  have c0 : g 8 p = -1 := Decidable.not_not.mp c0
  rw [if_pos c0, if_pos c0]
  by_cases c1 : p = lowS H D p
  · have c1' : nI p = nI (lowS H D p) := congrArg nI c1
    simp only [if_pos c1, if_neg pu_10, if_pos c1', if_neg (fun z : ¬ nI p = nI (lowS H D p) => z c1'), if_pos pu_10, Option.bind_some]
    obtain ⟨v, t1, t2, t3⟩ := tail_eq (N := N) (N' := N') V ho hk hp x y w hxy hx1 hx2 (-1) (Or.inl rfl) hN hN'
    exact ⟨v, t1, t2, t3, fun _ => ⟨c0, fun z => absurd c1 z⟩⟩
  · have c1' : ¬ nI p = nI (lowS H D p) := fun z => c1 ((nI_eq (by omega) (by omega)).mp z)
    have e1 : nI p - 1 = nI (p - 1) := by
      rw [show (1 : Int32) = nI 1 from rfl, pk_sub (by omega)]
    simp only [if_neg c1, if_neg c1', if_pos c1', e1]
    simp only [not_true, if_true, if_false]
    rw [if_pos (pu_in (by omega) (by omega)), V.at (by omega), nI_clamp (by omega)]
    simp only [Option.bind_some]
    rcases V.atb (p := p - 1) (by omega) with w0 | ⟨b, hb, w0, -⟩
    · rw [w0, if_pos rfl, if_pos rfl]
      exact ⟨2, rfl, rfl, by omega, fun z => by omega⟩
    · rw [w0, if_neg (pu_m1 (by omega)), if_neg (pu_m1 (by omega))]
      by_cases c2 : nI b = x
      · rw [if_neg (fun z => z c2), if_neg (fun z => z ((hxy b hb).mp c2))]
        exact ⟨2, rfl, rfl, by omega, fun z => by omega⟩
      · have c3 : ¬ nI b = y := fun z => c2 ((hxy b hb).mpr z)
        rw [if_pos c2, if_pos c3]
        obtain ⟨v, t1, t2, t3⟩ := tail_eq (N := N) (N' := N') V ho hk hp x y w hxy hx1 hx2 (nI b) (Or.inr ⟨b, hb, rfl⟩) hN hN'
        exact ⟨v, t1, t2, t3, fun _ => ⟨c0, fun _ => ⟨pu_m1 (by omega), c3⟩⟩⟩
theorem whyBox_eq (V : VS hh hr hc g B R H D K n o) (ho : g 0 11 = nI o) {b p : Nat} (hb : b < n) (hp : p < plN B R H D) (hN : 30 ≤ N) (hN' : 30 ≤ N') : ∃ v, F_Ves_whyNot N (nI b) (nI p) hh hr hc = some (nI v) ∧ F_Mo_whyBox N' (nI b) (nI p) g = some (nI v) ∧ v ≤ 6 ∧ (v = 0 → g 8 p = -1 ∧ (p ≠ lowS H D p → g 8 (p - 1) ≠ -1 ∧ g 8 (p - 1) ≠ nI b)) := by
  have hn := V.nn
  obtain ⟨kd, wj, tj, k1, k2, -, -, g5, -, -, -, k4, k5, -⟩ := V.box hb
  obtain ⟨v, t1, t2, t3, t4⟩ := why_eq (N := N) (N' := N') V ho k1 hp (nI b) (nI b) (nI wj) (fun _ _ => Iff.rfl) k4 k5 hN hN'
  refine ⟨v, t1, ?_, t3, t4⟩
  have hin : sv_in (nI b) 24 := pu_in (by omega) (by omega)
  unfold F_Mo_whyBox
  rw [if_pos hin, if_pos hin, nI_clamp (by omega), k2, g5, t2]
  rfl
end WHY2
