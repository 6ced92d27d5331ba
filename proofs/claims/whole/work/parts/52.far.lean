/-! ===== pure: walls, how far ===== -/
def wallv (g : HH) (o b : Nat) : Int32 := if g 1 (8 + b) = 2 then (if o.testBit b then 2 else 3) else g 1 (8 + b)
abbrev shutB (g : HH) (o b : Nat) : Prop := wallv g o b = 1 ∨ wallv g o b = 3
def shutS (g : HH) (o : Nat) : Nat → Nat
  | 0 => 0
  | b + 1 => shutS g o b + (if shutB g o b then 1 else 0)
def WallOK (g : HH) (B o : Nat) : Prop := (∀ b, b < 6 → g 1 (8 + b) = 0 ∨ g 1 (8 + b) = 1 ∨ g 1 (8 + b) = 2) ∧ (∀ b, b < 6 → B ≤ b + 1 → g 1 (8 + b) = 0) ∧ o < 64
def adist (a b : Nat) : Nat := if b ≤ a then a - b else b - a
theorem pu_abs {a b : Nat} (ha : a < 2 ^ 30) (hb : b < 2 ^ 30) : (if 0 ≤ (nI a - nI b) then (nI a - nI b) else 0 - (nI a - nI b)) = nI (adist a b) := by
  unfold adist
  by_cases h : b ≤ a
  · rw [pk_sub h, if_pos (nI_pos' (by omega)), if_pos h]
  · have h1 : nI a - nI b < 0 := pk_sneg hb (by omega)
    rw [if_neg (Int32.not_le.mpr h1), if_neg h]
    have e : 0 - (nI a - nI b) = nI b - nI a := by
      rw [Int32.zero_sub, Int32.neg_sub]
    rw [e, pk_sub (by omega)]
theorem adist_comm (a b : Nat) : adist a b = adist b a := by
  unfold adist
  split <;> split <;> omega
theorem pu_bit : ∀ o, o < 64 → ∀ b, b < 6 → (nI o >>> (nI b &&& 31)) &&& 1 = (if o.testBit b then 1 else 0) := by decide +kernel
theorem shutS_mono (g : HH) (o : Nat) (a : Nat) : ∀ m, shutS g o a ≤ shutS g o (a + m)
  | 0 => Nat.le_refl _
  | m + 1 => Nat.le_trans (shutS_mono g o a m) (by show _ ≤ shutS g o (a + m) + _; omega)
theorem shutS_le (g : HH) (o : Nat) : ∀ m, shutS g o m ≤ m
  | 0 => Nat.le_refl _
  | m + 1 => by
    have := shutS_le g o m
    show shutS g o m + _ ≤ m + 1
    split <;> omega
theorem pu_8 (b : Nat) : (8 : Int32) + nI b = nI (8 + b) := nI_add 8 b
theorem Mo_shutL {g : HH} {B o N : Nat} (hw : WallOK g B o) (hi : Nat) (hh : hi ≤ 6) : ∀ (m lo acc f : Nat), lo + m = hi → m < f → L_Mo_shutBetween_37 N f (nI o) (nI hi) (nI acc) (nI lo) g = some (nI (acc + (shutS g o hi - shutS g o lo))) := by
  intro m
  induction m with
  | zero =>
    intro lo acc f h1 h2
    obtain ⟨f, rfl⟩ : ∃ f', f = f' + 1 := ⟨f - 1, by omega⟩
    have : lo = hi := by omega
    subst this
    unfold L_Mo_shutBetween_37
    rw [if_pos (Int32.le_refl _)]
    simp
  | succ m ih =>
    intro lo acc f h1 h2
    obtain ⟨f, rfl⟩ : ∃ f', f = f' + 1 := ⟨f - 1, by omega⟩
    unfold L_Mo_shutBetween_37
    have hin : sv_in (nI (8 + lo)) 90 := pu_in (by omega) (by omega)
    have hmono := shutS_mono g o (lo + 1) m
    have hs : shutS g o (lo + 1) = shutS g o lo + (if shutB g o lo then 1 else 0) := rfl
    have hb := pu_bit o hw.2.2 lo (by omega)
    rw [show lo + 1 + m = hi by omega] at hmono
    rw [if_neg (nI_ge (by omega) (by omega)), pu_8, if_pos hin, if_pos hin, nI_clamp (by omega), nI_1, hb]
    have h0 : nI acc + 0 = nI acc := Int32.add_zero _
    rw [h0, nI_1, ih (lo + 1) acc f (by omega) (by omega), ih (lo + 1) (acc + 1) f (by omega) (by omega)]
    unfold shutB wallv at hs
    rcases hw.1 lo (by omega) with w | w | w
    · rw [w] at hs ⊢
      simp at hs
      simp
      rw [hs]
    · rw [w] at hs ⊢
      simp at hs
      simp
      congr 1
      omega
    · rw [w] at hs ⊢
      cases ht : o.testBit lo
      · simp [ht] at hs
        simp
        congr 1
        omega
      · simp [ht] at hs
        simp
        rw [hs]
section FAR
variable {g : HH} {B R H D o : Nat} {N : Nat}
theorem Geo.bl (h : Geo g B R H D) {p : Nat} (hp : p < plN B R H D) : p / (H + D) / R < B := by
  obtain ⟨-, h1, h2, h3, h4, h5, h6, h7⟩ := h
  rw [Nat.div_div_eq_div_mul]
  apply Nat.div_lt_of_lt_mul
  rw [Nat.mul_comm, Nat.mul_comm (H + D) R, ← Nat.mul_assoc]
  exact hp
theorem Geo.rl (h : Geo g B R H D) (p : Nat) : p / (H + D) % R < R := Nat.mod_lt _ (by obtain ⟨-, h1, h2, h3, h4, h5, h6, h7⟩ := h; omega)
theorem Mo_shut (h : Geo g B R H D) (hw : WallOK g B o) {p q : Nat} (hp : p < plN B R H D) (hq : q < plN B R H D) (hN : 10 ≤ N) : F_Mo_shutBetween N (nI p) (nI q) (nI o) g = some (nI (adist (shutS g o (p / (H + D) / R)) (shutS g o (q / (H + D) / R)))) := by
  have hP := h.le
  have b1 := h.bl hp
  have b2 := h.bl hq
  have hB : B ≤ 6 := h.2.2.1
  unfold F_Mo_shutBetween
  rw [Mo_bay h (by omega), Mo_bay h (by omega)]
  simp only [Option.bind_some]
  generalize p / (H + D) / R = a at *
  generalize q / (H + D) / R = b at *
  by_cases c : a < b
  · rw [if_pos (nI_lt c (by omega)), if_neg (nI_nlt (by omega) (by omega))]
    have e := Mo_shutL (N := N) hw b (by omega) (b - a) a 0 N (by omega) (by omega)
    rw [show nI 0 = 0 from rfl] at e
    rw [e]
    have m := shutS_mono g o a (b - a)
    rw [show a + (b - a) = b by omega] at m
    unfold adist
    simp only [Option.bind_some]
    congr 2
    split <;> omega
  · rw [if_neg (nI_nlt (by omega) (by omega))]
    have m := shutS_mono g o b (a - b)
    rw [show b + (a - b) = a by omega] at m
    by_cases c2 : b < a
    · rw [if_pos (nI_lt c2 (by omega))]
      have e := Mo_shutL (N := N) hw a (by omega) (a - b) b 0 N (by omega) (by omega)
      rw [show nI 0 = 0 from rfl] at e
      rw [e]
      unfold adist
      simp only [Option.bind_some]
      congr 2
      split <;> omega
    · have : a = b := by omega
      subst this
      rw [if_neg (nI_nlt (by omega) (by omega))]
      have e := Mo_shutL (N := N) hw a (by omega) 0 a 0 N (by omega) (by omega)
      rw [show nI 0 = 0 from rfl] at e
      rw [e]
      unfold adist
      simp
theorem Mo_between0 (h : Geo g B R H D) {p q : Nat} (hp : p < plN B R H D) (hq : q < plN B R H D) : F_Mo_betweenOf N (nI p) (nI q) 0 g = some (nI (adist (p / (H + D) % R) (q / (H + D) % R))) := by
  have hP := h.le
  have r1 := h.rl p
  have r2 := h.rl q
  have hR : R ≤ 4 := h.2.2.2.2.1
  unfold F_Mo_betweenOf
  rw [if_pos rfl, Mo_rowOf h (by omega), Mo_rowOf h (by omega)]
  simp only [Option.bind_some]
  rw [pu_abs (by omega) (by omega)]
theorem Mo_between1 (h : Geo g B R H D) {p q : Nat} (hp : p < plN B R H D) (hq : q < plN B R H D) : F_Mo_betweenOf N (nI p) (nI q) 1 g = some (nI (adist (p / (H + D) / R) (q / (H + D) / R))) := by
  have hP := h.le
  have r1 := h.bl hp
  have r2 := h.bl hq
  have hB : B ≤ 6 := h.2.2.1
  unfold F_Mo_betweenOf
  rw [if_neg (by decide), if_pos rfl, Mo_bay h (by omega), Mo_bay h (by omega)]
  simp only [Option.bind_some]
  rw [pu_abs (by omega) (by omega)]
def hatS (g : HH) (H D p q l : Nat) : Int32 := if ¬ g 1 (14 + 4 * l + 3) = 1 then 0 else if deckS H D p = deckS H D q then 0 else 1
def farS (g : HH) (o R H D p q l : Nat) : Int32 :=
  if g 1 (14 + 4 * l) ≤ nI (adist (p / (H + D) % R) (q / (H + D) % R)) then 1
  else if g 1 (14 + 4 * l + 1) ≤ nI (adist (p / (H + D) / R) (q / (H + D) / R)) then 1
  else if g 1 (14 + 4 * l + 2) = 0 then hatS g H D p q l
  else if g 1 (14 + 4 * l + 2) ≤ nI (adist (shutS g o (p / (H + D) / R)) (shutS g o (q / (H + D) / R))) then 1
  else hatS g H D p q l
theorem hatS_comm (p q l : Nat) : hatS g H D p q l = hatS g H D q p l := by
  unfold hatS
  by_cases e : deckS H D p = deckS H D q
  · simp only [e]
  · have e2 : ¬ deckS H D q = deckS H D p := fun z => e z.symm
    simp only [e, e2]
theorem farS_comm (p q l : Nat) : farS g o R H D p q l = farS g o R H D q p l := by
  unfold farS
  rw [hatS_comm p q, adist_comm (p / (H + D) % R), adist_comm (p / (H + D) / R), adist_comm (shutS g o (p / (H + D) / R))]
theorem farS_01 (p q l : Nat) : farS g o R H D p q l = 0 ∨ farS g o R H D p q l = 1 := by
  unfold farS hatS
  repeat' split
  all_goals simp
theorem pu_14 (l j : Nat) : ((14 : Int32) + ((4 : Int32) * nI l)) + nI j = nI (14 + 4 * l + j) := by
  rw [show (14 : Int32) = nI 14 from rfl, show (4 : Int32) = nI 4 from rfl, pk_mul, nI_add, nI_add]
theorem Mo_far (h : Geo g B R H D) (hw : WallOK g B o) {p q l : Nat} (hp : p < plN B R H D) (hq : q < plN B R H D) (hl : l ≤ 4) (hN : 10 ≤ N) : F_Mo_areFar N (nI p) (nI q) (nI l) (nI o) g = some (farS g o R H D p q l) := by
  have hP := h.le
  unfold F_Mo_areFar
  rw [Mo_between0 h hp hq, Mo_between1 h hp hq, Mo_shut h hw hp hq hN, Mo_deck h (by omega), Mo_deck h (by omega)]
  have e0 := pu_14 l 0
  have e1 := pu_14 l 1
  have e2 := pu_14 l 2
  have e3 := pu_14 l 3
  rw [show nI 0 = 0 from rfl] at e0
  rw [show nI 1 = 1 from rfl] at e1
  rw [show nI 2 = 2 from rfl] at e2
  rw [show nI 3 = 3 from rfl] at e3
  rw [e0, e1, e2, e3]
  simp only [Option.bind_some, Nat.add_zero]
  have i0 : sv_in (nI (14 + 4 * l)) 90 := pu_in (by omega) (by omega)
  have i1 : sv_in (nI (14 + 4 * l + 1)) 90 := pu_in (by omega) (by omega)
  have i2 : sv_in (nI (14 + 4 * l + 2)) 90 := pu_in (by omega) (by omega)
  have i3 : sv_in (nI (14 + 4 * l + 3)) 90 := pu_in (by omega) (by omega)
  rw [if_pos i0, if_pos i1, if_pos i2, if_pos i2, if_pos i3]
  rw [nI_clamp (by omega), nI_clamp (by omega), nI_clamp (by omega), nI_clamp (by omega)]
  unfold farS hatS
  by_cases c1 : g 1 (14 + 4 * l) ≤ nI (adist (p / (H + D) % R) (q / (H + D) % R))
  · rw [if_pos c1, if_pos c1]
  rw [if_neg c1, if_neg c1]
  by_cases c2 : g 1 (14 + 4 * l + 1) ≤ nI (adist (p / (H + D) / R) (q / (H + D) / R))
  · rw [if_neg (Int32.not_lt.mpr c2), if_pos c2]
  rw [if_pos (Int32.not_le.mp c2), if_neg c2]
  by_cases c3 : g 1 (14 + 4 * l + 2) = 0
  · rw [if_pos c3, if_pos c3]
    repeat' split
    all_goals rfl
  rw [if_neg c3, if_neg c3]
  by_cases c5 : g 1 (14 + 4 * l + 2) ≤ nI (adist (shutS g o (p / (H + D) / R)) (shutS g o (q / (H + D) / R)))
  · rw [if_neg (Int32.not_lt.mpr c5), if_pos c5]
  rw [if_pos (Int32.not_le.mp c5), if_neg c5]
  repeat' split
  all_goals rfl
/-- the class's hull -/
def HRel (hh g : HH) (B R H D o : Nat) : Prop := (hh 0 0 = nI B ∧ hh 0 1 = nI R ∧ hh 0 2 = nI H ∧ hh 0 3 = nI D ∧ hh 0 4 = nI (plN B R H D) ∧ hh 0 5 = g 1 4 ∧ hh 0 6 = g 1 5)
  ∧ (∀ p, p < plN B R H D → hh 1 p = nI (p / (H + D) / R) ∧ hh 2 p = nI (p / (H + D) % R) ∧ hh 3 p = nI (p % (H + D)))
  ∧ ∀ b, b < 6 → hh 5 b = wallv g o b ∧ hh 4 b = nI (shutS g o b)
def LvOK (g : HH) (l : Nat) : Prop := 1 ≤ l ∧ l ≤ 4 ∧ g 1 (14 + 4 * l) ≠ 0
/-- the class's rules -/
def RRel (hr g : HH) (K : Nat) : Prop := (hr 0 0 = nI K ∧ g 1 6 = nI K ∧ K ≤ 7)
  ∧ (∀ l, 1 ≤ l → l ≤ 4 → hr 1 l = g 1 (14 + 4 * l) ∧ 0 ≤ g 1 (14 + 4 * l) ∧ (g 1 (14 + 4 * l) ≠ 0 → hr 2 l = g 1 (14 + 4 * l + 1) ∧ hr 3 l = g 1 (14 + 4 * l + 2) ∧ hr 4 l = g 1 (14 + 4 * l + 3)))
  ∧ (∀ k, k < K → hr 5 k = g 1 (34 + k) ∧ (g 1 (34 + k) = 0 ∨ g 1 (34 + k) = 1 ∨ g 1 (34 + k) = 2))
  ∧ (∀ a b, a < 7 → b < 7 → hr 6 (a * 7 + b) = g 1 (41 + 7 * a + b) ∧ g 1 (41 + 7 * a + b) = g 1 (41 + 7 * b + a) ∧ (g 1 (41 + 7 * a + b) = 0 ∨ ∃ l, LvOK g l ∧ g 1 (41 + 7 * a + b) = nI l))
theorem K_far {hh hr : HH} {K : Nat} (h : Geo g B R H D) (hH : HRel hh g B R H D o) (hR : RRel hr g K) {p q l : Nat} (hp : p < plN B R H D) (hq : q < plN B R H D) (hl : LvOK g l) : F_Ves_isFar (nI p) (nI q) (nI l) hh hr = farS g o R H D p q l := by
  have hP := h.le
  have b1 := h.bl hp
  have b2 := h.bl hq
  have hB : B ≤ 6 := h.2.2.1
  have hRr : R ≤ 4 := h.2.2.2.2.1
  have r1 := h.rl p
  have r2 := h.rl q
  have t1 := h.md p
  have t2 := h.md q
  have hH3 : H ≤ 3 := h.2.2.2.2.2.1
  have hD3 : D ≤ 3 := h.2.2.2.2.2.2.1
  obtain ⟨p1, p2, p3⟩ := hH.2.1 p hp
  obtain ⟨q1, q2, q3⟩ := hH.2.1 q hq
  obtain ⟨l1, l2, l3⟩ := hR.2.1 l hl.1 hl.2.1
  obtain ⟨l3, l4, l5⟩ := l3 hl.2.2
  have hl4 := hl.2.1
  have s1 := shutS_le g o (p / (H + D) / R)
  have s2 := shutS_le g o (q / (H + D) / R)
  unfold F_Ves_isFar
  rw [pu_rd _ (by omega) (by omega), pu_rd _ (by omega) (by omega), pu_rd _ (by omega) (by omega), pu_rd _ (by omega) (by omega), pu_rd _ (by omega) (by omega), pu_rd _ (by omega) (by omega), pu_rd _ (by omega) (by omega), pu_rd _ (by omega) (by omega), pu_rd _ (by omega) (by omega), pu_rd _ (by omega) (by omega)]
  rw [p1, p2, p3, q1, q2, q3, l1, l3, l4, l5, hH.1.2.2.1]
  rw [pu_rd _ (by omega) (by omega), pu_rd _ (by omega) (by omega), (hH.2.2 _ (by omega)).2, (hH.2.2 _ (by omega)).2]
  rw [pu_abs (by omega) (by omega), pu_abs (by omega) (by omega), pu_abs (by omega) (by omega)]
  simp only [pu_let]
  have d1 : (if nI (p % (H + D)) < nI H then (0 : Int32) else 1) = deckS H D p := by
    unfold deckS
    by_cases c : p % (H + D) < H
    · rw [if_pos (nI_lt c (by omega)), if_pos c]
    · rw [if_neg (nI_nlt (by omega) (by omega)), if_neg c]
  have d2 : (if nI (q % (H + D)) < nI H then (0 : Int32) else 1) = deckS H D q := by
    unfold deckS
    by_cases c : q % (H + D) < H
    · rw [if_pos (nI_lt c (by omega)), if_pos c]
    · rw [if_neg (nI_nlt (by omega) (by omega)), if_neg c]
  rw [d1, d2]
  unfold farS hatS
  by_cases e : deckS H D p = deckS H D q
  · simp only [e, if_true]
  · simp only [e, if_false]
    simp
end FAR
