/-! ===== pure: boxes, who is near, why not ===== -/
theorem pu_10 : ¬ (1 : Int32) = 0 := by decide
abbrev nn (x : Int32) : Nat := x.toNatClampNeg
def BoxOK (g : HH) (n K P : Nat) : Prop := (g 0 6 = nI n ∧ n ≤ 24)
  ∧ (∀ b, b < n → (∃ kd, kd < K ∧ g 4 b = nI kd) ∧ (∃ w, 1 ≤ w ∧ w ≤ 99 ∧ g 5 b = nI w) ∧ (∃ t, 1 ≤ t ∧ t ≤ 5 ∧ g 6 b = nI t) ∧ (g 7 b = -1 ∨ ∃ p, p < P ∧ g 7 b = nI p ∧ g 8 p = nI b))
  ∧ ∀ p, p < 144 → g 8 p = -1 ∨ ∃ b, b < n ∧ g 8 p = nI b ∧ g 7 b = nI p
def CRel (hc g : HH) (n : Nat) : Prop := hc 0 0 = nI n ∧ (∀ b, b < n → hc 1 b = g 4 b ∧ hc 2 b = g 5 b ∧ hc 3 b = g 6 b ∧ hc 4 b = g 7 b) ∧ ∀ p, p < 144 → hc 5 p = g 8 p
def VS (hh hr hc g : HH) (B R H D K n o : Nat) : Prop := Geo g B R H D ∧ WallOK g B o ∧ HRel hh g B R H D o ∧ RRel hr g K ∧ BoxOK g n K (plN B R H D) ∧ CRel hc g n
def nearK (g : HH) (o R H D kd p j : Nat) : Bool := decide (g 7 j ≠ -1) && decide (g 1 (41 + 7 * kd + nn (g 4 j)) ≠ 0) && decide (farS g o R H D p (nn (g 7 j)) (nn (g 1 (41 + 7 * kd + nn (g 4 j)))) = 0)
def bi (b : Bool) : Int32 := if b = true then 1 else 0
theorem bi0 (b : Bool) : bi b = 0 ↔ b = false := by cases b <;> decide
theorem geo_T {H D p q : Nat} (h : 1 ≤ H + D) : p = (H + D) * (p / (H + D)) + p % (H + D) := (Nat.div_add_mod p (H + D)).symm
section WHY
variable {hh hr hc g : HH} {B R H D K n o : Nat} {N N' : Nat}
theorem Geo.st (h : Geo g B R H D) {p : Nat} (hp : p < plN B R H D) : lowS H D p ≤ p ∧ p < lowS H D p + highS H D p ∧ lowS H D p + highS H D p ≤ plN B R H D := by
  have hm := h.md p
  have e := Nat.div_add_mod p (H + D)
  have q : p / (H + D) < B * R := by
    apply Nat.div_lt_of_lt_mul
    rw [Nat.mul_comm]
    exact hp
  have q2 : (H + D) * (p / (H + D)) + (H + D) ≤ B * R * (H + D) := by
    have := Nat.mul_le_mul_left (H + D) q
    rw [Nat.mul_succ, Nat.mul_comm (H + D) (B * R)] at this
    exact this
  unfold lowS highS plN
  generalize (H + D) * (p / (H + D)) = z at *
  generalize B * R * (H + D) = y at *
  split <;> omega
theorem VS.nn (V : VS hh hr hc g B R H D K n o) : n ≤ 24 := V.2.2.2.2.1.1.2
theorem VS.kk (V : VS hh hr hc g B R H D K n o) : K ≤ 7 := V.2.2.2.1.1.2.2
theorem VS.pp (V : VS hh hr hc g B R H D K n o) : plN B R H D ≤ 144 := V.1.le
theorem K_level (V : VS hh hr hc g B R H D K n o) {a b : Nat} (ha : a < K) (hb : b < K) : F_Rules_levelOf (nI a) (nI b) hr = g 1 (41 + 7 * a + b) := by
  have hK := V.kk
  obtain ⟨⟨r1, r2, r3⟩, -, -, r4⟩ := V.2.2.2.1
  unfold F_Rules_levelOf
  rw [r1]
  have e1 : ∀ x, x < K → F_K_within (nI x) 0 (nI K - 1) = 1 := by
    intro x hx
    rcases pu_wn (nI x) (n := K) (by omega) with ⟨j, -, -, h⟩ | ⟨h, -⟩
    · exact h
    · exact absurd rfl (h x hx)
  rw [e1 a ha, e1 b hb]
  simp only [pu_let, if_neg pu_10]
  rw [show (7 : Int32) = nI 7 from rfl, pk_mul, nI_add, pu_rd _ (by omega) (by omega)]
  exact (r4 a b (by omega) (by omega)).1
theorem Mo_apart {a b : Nat} (ha : a < 7) (hb : b < 7) : F_Mo_apartOf N (nI a) (nI b) g = some (g 1 (41 + 7 * a + b)) := by
  unfold F_Mo_apartOf
  rw [show (41 : Int32) = nI 41 from rfl, show (7 : Int32) = nI 7 from rfl, pk_mul, nI_add, nI_add, if_pos (pu_in (by omega) (by omega)), nI_clamp (by omega)]
/-- what is known of a box -/
theorem VS.box (V : VS hh hr hc g B R H D K n o) {j : Nat} (hj : j < n) : ∃ kd w t, kd < K ∧ g 4 j = nI kd ∧ 1 ≤ w ∧ w ≤ 99 ∧ g 5 j = nI w ∧ 1 ≤ t ∧ t ≤ 5 ∧ g 6 j = nI t ∧ F_Cargo_kindOf (nI j) hc = nI kd ∧ F_Cargo_weightOf (nI j) hc = nI w ∧ F_Cargo_portOf (nI j) hc = nI t ∧ F_Cargo_placeOf (nI j) hc = g 7 j := by
  have hn := V.nn
  obtain ⟨⟨kd, h1, h2⟩, ⟨w, h3, h4, h5⟩, ⟨t, h6, h7, h8⟩, -⟩ := V.2.2.2.2.1.2.1 j hj
  obtain ⟨c1, c2, c3, c4⟩ := V.2.2.2.2.2.2.1 j hj
  refine ⟨kd, w, t, h1, h2, h3, h4, h5, h6, h7, h8, ?_, ?_, ?_, ?_⟩
  · unfold F_Cargo_kindOf; rw [pu_rd _ (by omega) (by omega), c1, h2]
  · unfold F_Cargo_weightOf; rw [pu_rd _ (by omega) (by omega), c2, h5]
  · unfold F_Cargo_portOf; rw [pu_rd _ (by omega) (by omega), c3, h8]
  · unfold F_Cargo_placeOf; rw [pu_rd _ (by omega) (by omega), c4]
theorem VS.plc (V : VS hh hr hc g B R H D K n o) {j : Nat} (hj : j < n) : g 7 j = -1 ∨ ∃ p, p < plN B R H D ∧ g 7 j = nI p ∧ g 8 p = nI j := (V.2.2.2.2.1.2.1 j hj).2.2.2
theorem VS.lies (V : VS hh hr hc g B R H D K n o) {j : Nat} (hj : j < n) : F_Cargo_lies (nI j) hc = if g 7 j = -1 then 0 else 1 := by
  have hn := V.nn
  obtain ⟨c1, c2, c3, c4⟩ := V.2.2.2.2.2.2.1 j hj
  unfold F_Cargo_lies
  rw [pu_rd _ (by omega) (by omega), c4]
theorem VS.at (V : VS hh hr hc g B R H D K n o) {p : Nat} (hp : p < 144) : F_Cargo_boxAt (nI p) hc = g 8 p := by
  unfold F_Cargo_boxAt
  rw [pu_rd _ (by omega) (by omega)]
  exact V.2.2.2.2.2.2.2 p hp
theorem VS.lv (V : VS hh hr hc g B R H D K n o) {a b : Nat} (ha : a < K) (hb : b < K) : g 1 (41 + 7 * a + b) = 0 ∨ ∃ l, LvOK g l ∧ g 1 (41 + 7 * a + b) = nI l := (V.2.2.2.1.2.2.2 a b (by have := V.kk; omega) (by have := V.kk; omega)).2.2
theorem Mo_nearTo (V : VS hh hr hc g B R H D K n o) {kd p j : Nat} (hk : kd < K) (hp : p < plN B R H D) (hj : j < n) (hN : 10 ≤ N) : F_Mo_isNearTo N (nI kd) (nI p) (nI j) (nI o) g = some (bi (nearK g o R H D kd p j)) := by
  have hn := V.nn
  have hK := V.kk
  have hP := V.pp
  obtain ⟨kj, w, t, k1, k2, -⟩ := V.box hj
  have hin : sv_in (nI j) 24 := pu_in (by omega) (by omega)
  unfold F_Mo_isNearTo nearK
  simp only [if_pos hin]
  rw [nI_clamp (by omega), k2, Mo_apart (by omega) (by omega)]
  simp only [Option.bind_some]
  rw [nn, nI_clamp (by omega)]
  rcases V.lv hk k1 with l0 | ⟨l, hl, l0⟩
  · rw [l0]; simp [bi]
  rw [l0, if_neg (nI_ne0 (by have := hl.1; omega) (by have := hl.2.1; omega))]
  have hl0 : ¬ nI l = 0 := nI_ne0 (by have := hl.1; omega) (by have := hl.2.1; omega)
  rcases V.plc hj with p0 | ⟨q, hq, p0, -⟩
  · rw [p0]; simp [bi]
  rw [p0, if_neg (pu_m1 (by omega)), Mo_far V.1 V.2.1 hp hq (by have := hl.2.1; omega) hN]
  simp only [Option.bind_some]
  rw [nn, nI_clamp (by omega), nn, nI_clamp (by have := hl.2.1; omega)]
  have q1 : ¬ nI q = -1 := pu_m1 (by omega)
  rcases farS_01 (g := g) (o := o) (R := R) (H := H) (D := D) p q l with f | f
  · rw [f]; simp [bi, q1, hl0]
  · rw [f]; simp [bi]
/-- the class's body of a look for one near -/
theorem K_nearB (V : VS hh hr hc g B R H D K n o) {kd p j : Nat} (hk : kd < K) (hp : p < plN B R H D) (hj : j < n) {α : Type} (a b : α) : (sv_let (if F_Cargo_lies (nI j) hc = 0 then 0 else F_Rules_levelOf (nI kd) (F_Cargo_kindOf (nI j) hc) hr) fun v4 => if v4 = 0 then a else if ¬ F_Ves_isFar (nI p) (F_Cargo_placeOf (nI j) hc) v4 hh hr = 0 then a else b) = if nearK g o R H D kd p j = true then b else a := by
  have hn := V.nn
  have hK := V.kk
  have hP := V.pp
  obtain ⟨kj, w, t, k1, k2, -, -, -, -, -, -, k3, -, -, k4⟩ := V.box hj
  rw [V.lies hj, k3, k4, K_level V hk k1]
  unfold nearK
  simp only [pu_let]
  rw [k2, nn, nI_clamp (by omega)]
  rcases V.plc hj with p0 | ⟨q, hq, p0, -⟩
  · rw [p0]; simp
  have q1 : ¬ nI q = -1 := pu_m1 (by omega)
  simp only [p0, if_neg q1, if_neg pu_10]
  rcases V.lv hk k1 with l0 | ⟨l, hl, l0⟩
  · rw [l0]; simp
  have hl0 : ¬ nI l = 0 := nI_ne0 (by have := hl.1; omega) (by have := hl.2.1; omega)
  rw [l0, if_neg hl0, K_far V.1 V.2.2.1 V.2.2.2.1 hp hq hl, nn, nI_clamp (by omega), nn, nI_clamp (by have := hl.2.1; omega)]
  rcases farS_01 (g := g) (o := o) (R := R) (H := H) (D := D) p q l with f | f
  · rw [f]; simp [q1, hl0]
  · rw [f]; simp
end WHY
