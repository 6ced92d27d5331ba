/-! ===== pure: places ===== -/
/-- the ship's sizes -/
def Geo (g : HH) (B R H D : Nat) : Prop := (g 1 0 = nI B ∧ g 1 1 = nI R ∧ g 1 2 = nI H ∧ g 1 3 = nI D) ∧ 1 ≤ B ∧ B ≤ 6 ∧ 1 ≤ R ∧ R ≤ 4 ∧ H ≤ 3 ∧ D ≤ 3 ∧ 1 ≤ H + D
abbrev plN (B R H D : Nat) : Nat := B * R * (H + D)
theorem Geo.le {g : HH} {B R H D : Nat} (h : Geo g B R H D) : plN B R H D ≤ 144 := by
  obtain ⟨-, h1, h2, h3, h4, h5, h6, h7⟩ := h
  have q1 : B * R ≤ 6 * 4 := Nat.mul_le_mul h2 h4
  have q2 : B * R * (H + D) ≤ 24 * 6 := Nat.mul_le_mul q1 (by omega)
  exact q2
def lowS (H D p : Nat) : Nat := if p % (H + D) < H then p - p % (H + D) else p - p % (H + D) + H
def highS (H D p : Nat) : Nat := if p % (H + D) < H then H else D
def deckS (H D p : Nat) : Int32 := if p % (H + D) < H then 0 else 1
section GEO
variable {g : HH} {B R H D : Nat} {N : Nat}
theorem Mo_tiers (h : Geo g B R H D) : F_Mo_tiers N g = some (nI (H + D)) := by
  have e : F_Mo_tiers N g = some (g 1 2 + g 1 3) := rfl
  rw [e, h.1.2.2.1, h.1.2.2.2, nI_add]
theorem Mo_places (h : Geo g B R H D) : F_Mo_places N g = some (nI (plN B R H D)) := by
  have e : F_Mo_places N g = Option.bind (F_Mo_tiers N g) fun v3 => some ((g 1 0 * g 1 1) * v3) := rfl
  rw [e, Mo_tiers h, h.1.1, h.1.2.1, pk_mul]
  show some (nI (B * R) * nI (H + D)) = _
  rw [pk_mul]
theorem Mo_tierOf (h : Geo g B R H D) {p : Nat} (hp : p < 2 ^ 31) : F_Mo_tierOf N (nI p) g = some (nI (p % (H + D))) := by
  unfold F_Mo_tierOf
  rw [Mo_tiers h]
  obtain ⟨-, h1, h2, h3, h4, h5, h6, h7⟩ := h
  simp only [Option.bind_some]
  rw [if_pos (nI_ne0 (by omega) (by omega)), pk_rem hp (by omega) (by omega)]
theorem Mo_rowOf (h : Geo g B R H D) {p : Nat} (hp : p < 2 ^ 31) : F_Mo_rowOf N (nI p) g = some (nI (p / (H + D) % R)) := by
  have e : F_Mo_rowOf N (nI p) g = Option.bind (F_Mo_tiers N g) fun v1 => (if ¬ v1 = 0 then (if ¬ (g 1 1) = 0 then (some ((nI p / v1) - (nI p / v1) / (g 1 1) * (g 1 1))) else none) else none) := rfl
  rw [e, Mo_tiers h, h.1.2.1]
  obtain ⟨-, h1, h2, h3, h4, h5, h6, h7⟩ := h
  simp only [Option.bind_some]
  rw [if_pos (nI_ne0 (by omega) (by omega)), if_pos (nI_ne0 (by omega) (by omega)), pk_div hp (by omega) (by omega), pk_rem (Nat.lt_of_le_of_lt (Nat.div_le_self _ _) hp) (by omega) (by omega)]
theorem Mo_bay (h : Geo g B R H D) {p : Nat} (hp : p < 2 ^ 31) : F_Mo_bayOfPlace N (nI p) g = some (nI (p / (H + D) / R)) := by
  have e : F_Mo_bayOfPlace N (nI p) g = Option.bind (F_Mo_tiers N g) fun v1 => (if ¬ v1 = 0 then (if ¬ (g 1 1) = 0 then (some ((nI p / v1) / (g 1 1))) else none) else none) := rfl
  rw [e, Mo_tiers h, h.1.2.1]
  obtain ⟨-, h1, h2, h3, h4, h5, h6, h7⟩ := h
  simp only [Option.bind_some]
  rw [if_pos (nI_ne0 (by omega) (by omega)), if_pos (nI_ne0 (by omega) (by omega)), pk_div hp (by omega) (by omega), pk_div (Nat.lt_of_le_of_lt (Nat.div_le_self _ _) hp) (by omega) (by omega)]
theorem Geo.md (h : Geo g B R H D) (p : Nat) : p % (H + D) < H + D := Nat.mod_lt _ (by obtain ⟨-, h1, h2, h3, h4, h5, h6, h7⟩ := h; omega)
theorem Mo_deck (h : Geo g B R H D) {p : Nat} (hp : p < 2 ^ 31) : F_Mo_isOnDeck N (nI p) g = some (deckS H D p) := by
  have e : F_Mo_isOnDeck N (nI p) g = Option.bind (F_Mo_tierOf N (nI p) g) fun v1 => (if v1 < g 1 2 then (some 0) else (some 1)) := rfl
  rw [e, Mo_tierOf h hp, h.1.2.2.1]
  have hm := h.md p
  obtain ⟨-, h1, h2, h3, h4, h5, h6, h7⟩ := h
  simp only [Option.bind_some]
  unfold deckS
  by_cases c : p % (H + D) < H
  · rw [if_pos (nI_lt c (by omega)), if_pos c]
  · rw [if_neg (nI_nlt (by omega) (by omega)), if_neg c]
theorem Mo_low (h : Geo g B R H D) {p : Nat} (hp : p < 2 ^ 31) : F_Mo_lowestOf N (nI p) g = some (nI (lowS H D p)) := by
  have e : F_Mo_lowestOf N (nI p) g = Option.bind (F_Mo_tierOf N (nI p) g) fun v1 => Option.bind (F_Mo_isOnDeck N (nI p) g) fun v3 => (if v3 = 0 then (some ((nI p - v1) + 0)) else (some ((nI p - v1) + g 1 2))) := rfl
  rw [e, Mo_tierOf h hp, Mo_deck h hp, h.1.2.2.1]
  simp only [Option.bind_some]
  unfold deckS lowS
  by_cases c : p % (H + D) < H
  · rw [if_pos c, if_pos c, if_pos rfl, pk_sub (Nat.mod_le _ _), Int32.add_zero]
  · rw [if_neg c, if_neg c, if_neg (by decide), pk_sub (Nat.mod_le _ _), nI_add]
theorem Mo_high (h : Geo g B R H D) {p : Nat} (hp : p < 2 ^ 31) : F_Mo_highOf N (nI p) g = some (nI (highS H D p)) := by
  have e : F_Mo_highOf N (nI p) g = Option.bind (F_Mo_isOnDeck N (nI p) g) fun v1 => (if v1 = 0 then some (g 1 2) else some (g 1 3)) := rfl
  rw [e, Mo_deck h hp, h.1.2.2.1, h.1.2.2.2]
  simp only [Option.bind_some]
  unfold deckS highS
  by_cases c : p % (H + D) < H
  · rw [if_pos c, if_pos c, if_pos rfl]
  · rw [if_neg c, if_neg c, if_neg (by decide)]
end GEO
