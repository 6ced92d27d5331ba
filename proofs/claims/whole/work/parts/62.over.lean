/-! ===== pure: who lies over whom ===== -/
def belS (g : HH) (H D p s : Nat) : Int32 := if s ≤ p % (H + D) ∧ deckS H D p = deckS H D (p - s) then g 8 (p - s) else -1
def abvS (g : HH) (H D a b : Nat) : Bool := decide (g 7 a ≠ -1 ∧ g 7 b ≠ -1 ∧ lowS H D (nn (g 7 a)) = lowS H D (nn (g 7 b)) ∧ deckS H D (nn (g 7 a)) = deckS H D (nn (g 7 b)) ∧ ¬ g 7 a ≤ g 7 b)
def anyT (c : Nat → Bool) (j : Nat) : Nat → Bool
  | 0 => false
  | m + 1 => c j || anyT c (j + 1) m
theorem anyT_iff (c : Nat → Bool) : ∀ (m j : Nat), anyT c j m = true ↔ ∃ i, j ≤ i ∧ i < j + m ∧ c i = true
  | 0, j => ⟨fun h => (Bool.false_ne_true h).elim, fun ⟨i, h1, h2, _⟩ => by omega⟩
  | m + 1, j => by
    show (c j || anyT c (j + 1) m) = true ↔ _
    rw [Bool.or_eq_true, anyT_iff c m (j + 1)]
    constructor
    · rintro (h | ⟨i, h1, h2, h3⟩)
      · exact ⟨j, by omega, by omega, h⟩
      · exact ⟨i, by omega, by omega, h3⟩
    · rintro ⟨i, h1, h2, h3⟩
      rcases Nat.lt_or_ge j i with w | w
      · exact Or.inr ⟨i, by omega, by omega, h3⟩
      · have : i = j := by omega
        subst this
        exact Or.inl h3
theorem sumN_one {x : Int32} (c : Nat → Bool) : ∀ (n : Nat), n ≤ 24 → (∀ b, b < n → x ≠ nI b) → sumN (fun b => b1 (decide (x = nI b) && c b)) n = 0
  | 0, _, _ => rfl
  | n + 1, h, h2 => by
    show sumN (fun b => b1 (decide (x = nI b) && c b)) n + b1 (decide (x = nI n) && c n) = 0
    rw [sumN_one c n (by omega) (fun b hb => h2 b (by omega))]
    have := h2 n (by omega)
    simp [this]
theorem sumN_two (c : Nat → Bool) (b0 : Nat) : ∀ (n : Nat), n ≤ 24 → b0 < n → sumN (fun b => b1 (decide (nI b0 = nI b) && c b)) n = b1 (c b0)
  | 0, _, h => by omega
  | n + 1, h, h2 => by
    show sumN (fun b => b1 (decide (nI b0 = nI b) && c b)) n + b1 (decide (nI b0 = nI n) && c n) = _
    rcases Nat.lt_or_ge b0 n with w | w
    · rw [sumN_two c b0 n (by omega) w]
      have : ¬ nI b0 = nI n := fun z => by have := (nI_eq (by omega) (by omega)).mp z; omega
      simp [this]
    · have : b0 = n := by omega
      subst this
      rw [sumN_one c b0 (by omega) (fun b hb z => by have := (nI_eq (by omega) (by omega)).mp z; omega)]
      simp
section OVER
variable {k : KS} {g : HH} {hh hr hc : HH} {B R H D K n o N N' : Nat}
theorem K_below (V : VS hh hr hc g B R H D K n o) {p s : Nat} (hp : p < plN B R H D) (hs : s < 10) : F_Surv_boxBelow (nI p) (nI s) hh hc = belS g H D p s := by
  have hP := V.pp
  have hm := V.1.md p
  have hl := Nat.mod_le p (H + D)
  have hH3 : H ≤ 3 := V.1.2.2.2.2.2.1
  have hD3 : D ≤ 3 := V.1.2.2.2.2.2.2.1
  unfold F_Surv_boxBelow belS F_Hull_tierAt
  rw [K_tier V hp]
  simp only [pu_let]
  rcases Nat.lt_or_ge (p % (H + D)) s with c | c
  · rw [if_pos (nI_lt c (by omega)), if_pos rfl, if_neg (fun z => by omega)]
  · rw [if_neg (nI_nlt c (by omega)), pk_sub (by omega), K_hatch V hp (q := p - s) (by omega), V.at (by omega)]
    by_cases e : deckS H D p = deckS H D (p - s)
    · rw [if_pos e, ife0, if_neg pu_10, if_pos ⟨c, e⟩]
    · rw [if_neg e, if_pos pu_10, if_pos rfl, if_neg (fun z => e z.2)]
theorem Mo_above (V : VS hh hr hc g B R H D K n o) {a b : Nat} (ha : a < n) (hb : b < n) : F_Mo_isAbove N (nI a) (nI b) g = some (bi (abvS g H D a b)) := by
  have hn := V.nn
  have hP := V.pp
  have ia : sv_in (nI a) 24 := pu_in (by omega) (by omega)
  have ib : sv_in (nI b) 24 := pu_in (by omega) (by omega)
  unfold F_Mo_isAbove abvS
  simp only [if_pos ia, if_pos ib]
  rw [nI_clamp (by omega), nI_clamp (by omega)]
  rcases V.plc ha with p0 | ⟨p, hp, p0, -⟩
  · rw [p0]; simp [bi]
  rcases V.plc hb with q0 | ⟨q, hq, q0, -⟩
  · rw [p0, if_neg (pu_m1 (by omega)), q0]; simp [bi]
  rw [p0, q0, if_neg (pu_m1 (by omega)), if_neg (pu_m1 (by omega)), Mo_low V.1 (by omega), Mo_low V.1 (by omega), Mo_deck V.1 (by omega), Mo_deck V.1 (by omega)]
  simp only [Option.bind_some]
  rw [nn, nI_clamp (by omega), nn, nI_clamp (by omega)]
  have z1 : nI p ≠ -1 := pu_m1 (by omega)
  have z2 : nI q ≠ -1 := pu_m1 (by omega)
  obtain ⟨s1, s2, s3⟩ := V.1.st hp
  obtain ⟨t1, t2, t3⟩ := V.1.st hq
  by_cases c1 : lowS H D p = lowS H D q
  · rw [ifn (congrArg nI c1)]
    by_cases c2 : deckS H D p = deckS H D q
    · rw [ifn c2]
      by_cases c3 : nI p ≤ nI q
      · rw [if_pos c3]; simp [c3, bi]
      · rw [if_neg c3]; simp [c1, c2, c3, z1, z2, bi]
    · rw [if_pos c2]; simp [c2, bi]
  · have c1' : ¬ nI (lowS H D p) = nI (lowS H D q) := fun z => c1 ((nI_eq (by omega) (by omega)).mp z)
    rw [if_pos c1']; simp [c1, bi]
theorem md_sub {T p s : Nat} (hT : 0 < T) (h : s ≤ p % T) : (p - s) % T = p % T - s := by
  have e := Nat.div_add_mod p T
  have hm := Nat.mod_lt p hT
  have : p - s = T * (p / T) + (p % T - s) := by omega
  rw [this, Nat.mul_add_mod, Nat.mod_eq_of_lt (by omega)]
/-- the places of a stack below one of it -/
theorem low_iff (h : Geo g B R H D) {p q : Nat} (hp : p < plN B R H D) : (lowS H D p = lowS H D q ∧ deckS H D p = deckS H D q ∧ q < p) ↔ ∃ s, 1 ≤ s ∧ s ≤ 2 ∧ q = p - s ∧ s ≤ p % (H + D) ∧ deckS H D p = deckS H D (p - s) := by
  have hm := h.md p
  have hq := h.md q
  have e := Nat.mod_le p (H + D)
  have e2 := Nat.mod_le q (H + D)
  obtain ⟨-, h1, h2, h3, h4, h5, h6, h7⟩ := h
  constructor
  · rintro ⟨a, b, c⟩
    have hd : (p % (H + D) < H ↔ q % (H + D) < H) := by
      unfold deckS at b
      by_cases c1 : p % (H + D) < H
      · by_cases c2 : q % (H + D) < H
        · simp [c1, c2]
        · rw [if_pos c1, if_neg c2] at b; exact absurd b (by decide)
      · by_cases c2 : q % (H + D) < H
        · rw [if_neg c1, if_pos c2] at b; exact absurd b (by decide)
        · simp [c1, c2]
    have hl : p - p % (H + D) = q - q % (H + D) := by
      unfold lowS at a
      by_cases c1 : p % (H + D) < H
      · rw [if_pos c1, if_pos (hd.mp c1)] at a; exact a
      · rw [if_neg c1, if_neg (fun z => c1 (hd.mpr z))] at a; omega
    refine ⟨p - q, by omega, ?_, by omega, by omega, ?_⟩
    · by_cases c1 : p % (H + D) < H
      · have := hd.mp c1; omega
      · have : ¬ q % (H + D) < H := fun z => c1 (hd.mpr z)
        omega
    · rw [show p - (p - q) = q by omega]; exact b
  · rintro ⟨s, a, b, c, d, f⟩
    subst c
    have ms := md_sub (T := H + D) (by omega) d
    refine ⟨?_, f, by omega⟩
    have hd : (p % (H + D) < H ↔ (p - s) % (H + D) < H) := by
      unfold deckS at f
      by_cases c1 : p % (H + D) < H
      · by_cases c2 : (p - s) % (H + D) < H
        · simp [c1, c2]
        · rw [if_pos c1, if_neg c2] at f; exact absurd f (by decide)
      · by_cases c2 : (p - s) % (H + D) < H
        · rw [if_neg c1, if_pos c2] at f; exact absurd f (by decide)
        · simp [c1, c2]
    unfold lowS
    by_cases c1 : p % (H + D) < H
    · rw [if_pos c1, if_pos (hd.mp c1)]; omega
    · rw [if_neg c1, if_neg (fun z => c1 (hd.mpr z))]; omega
theorem abv_bel (V : VS hh hr hc g B R H D K n o) {a b p : Nat} (hb : b < n) (hp : p < plN B R H D) (ha : g 7 a = nI p) : abvS g H D a b = (decide (belS g H D p 1 = nI b) || decide (belS g H D p 2 = nI b)) := by
  have hn := V.nn
  have hP := V.pp
  have hl := Nat.mod_le p (H + D)
  have z1 : nI p ≠ -1 := pu_m1 (by omega)
  rw [Bool.eq_iff_iff]
  unfold abvS
  rw [decide_eq_true_iff, Bool.or_eq_true, decide_eq_true_iff, decide_eq_true_iff, ha, nn, nI_clamp (by omega)]
  have key : ∀ s, 1 ≤ s → s ≤ 2 → (belS g H D p s = nI b ↔ (s ≤ p % (H + D) ∧ deckS H D p = deckS H D (p - s) ∧ g 7 b = nI (p - s))) := by
    intro s s1 s2
    unfold belS
    by_cases c : s ≤ p % (H + D) ∧ deckS H D p = deckS H D (p - s)
    · rw [if_pos c]
      constructor
      · intro e
        rcases V.atb (p := p - s) (by omega) with w | ⟨b', hb', w, w2⟩
        · rw [w] at e; exact absurd e (pu_m1' (by omega))
        · rw [w] at e
          have := (nI_eq (by omega) (by omega)).mp e
          subst this
          exact ⟨c.1, c.2, w2⟩
      · rintro ⟨-, -, e⟩
        rcases V.plc hb with w | ⟨q, hq, w, w2⟩
        · rw [w] at e; exact absurd e (pu_m1' (by omega))
        · rw [w] at e
          have := (nI_eq (by omega) (by omega)).mp e
          subst this
          exact w2
    · rw [if_neg c]
      constructor
      · intro e; exact absurd e (pu_m1' (by omega))
      · rintro ⟨e1, e2, -⟩; exact absurd ⟨e1, e2⟩ c
  rw [key 1 (by omega) (by omega), key 2 (by omega) (by omega)]
  rcases V.plc hb with w | ⟨q, hq, w, w2⟩
  · rw [w]
    constructor
    · rintro ⟨-, e, -⟩; exact absurd rfl e
    · rintro (⟨-, -, e⟩ | ⟨-, -, e⟩) <;> exact absurd e (pu_m1' (by omega))
  · rw [w, nn, nI_clamp (by omega)]
    have z2 : nI q ≠ -1 := pu_m1 (by omega)
    have li := low_iff V.1 (q := q) hp
    constructor
    · rintro ⟨-, -, e1, e2, e3⟩
      have e3 : q < p := by
        rcases Nat.lt_or_ge q p with y | y
        · exact y
        · exact absurd (nI_le y (by omega)) e3
      obtain ⟨s, s1, s2, s3, s4, s5⟩ := li.mp ⟨e1, e2, e3⟩
      have : s = 1 ∨ s = 2 := by omega
      rcases this with rfl | rfl
      · exact Or.inl ⟨s4, s5, congrArg nI s3⟩
      · exact Or.inr ⟨s4, s5, congrArg nI s3⟩
    · intro h
      have : ∃ s, 1 ≤ s ∧ s ≤ 2 ∧ q = p - s ∧ s ≤ p % (H + D) ∧ deckS H D p = deckS H D (p - s) := by
        rcases h with ⟨s4, s5, s6⟩ | ⟨s4, s5, s6⟩
        · exact ⟨1, by omega, by omega, (nI_eq (by omega) (by omega)).mp s6, s4, s5⟩
        · exact ⟨2, by omega, by omega, (nI_eq (by omega) (by omega)).mp s6, s4, s5⟩
      obtain ⟨e1, e2, e3⟩ := li.mpr this
      exact ⟨z1, z2, e1, e2, fun z => by have := (nI_leI (by omega) (by omega)).mp z; omega⟩
theorem bel_ne (V : VS hh hr hc g B R H D K n o) {b p : Nat} (hb : b < n) (hp : p < plN B R H D) : ¬ (belS g H D p 1 = nI b ∧ belS g H D p 2 = nI b) := by
  have hn := V.nn
  have hP := V.pp
  have hl := Nat.mod_le p (H + D)
  rintro ⟨h1, h2⟩
  unfold belS at h1 h2
  by_cases c1 : 1 ≤ p % (H + D) ∧ deckS H D p = deckS H D (p - 1)
  · by_cases c2 : 2 ≤ p % (H + D) ∧ deckS H D p = deckS H D (p - 2)
    · rw [if_pos c1] at h1
      rw [if_pos c2] at h2
      have c3 := c2.1
      rcases V.atb (p := p - 1) (by omega) with w | ⟨b', hb', w, w2⟩
      · rw [w] at h1; exact absurd h1 (pu_m1' (by omega))
      · rcases V.atb (p := p - 2) (by omega) with u | ⟨b2, hb2, u, u2⟩
        · rw [u] at h2; exact absurd h2 (pu_m1' (by omega))
        · rw [w] at h1
          rw [u] at h2
          have e1 := (nI_eq (by omega) (by omega)).mp h1
          have e2 := (nI_eq (by omega) (by omega)).mp h2
          subst e1 e2
          rw [w2] at u2
          have := (nI_eq (by omega) (by omega)).mp u2
          omega
    · rw [if_neg c2] at h2; exact absurd h2 (pu_m1' (by omega))
  · rw [if_neg c1] at h1; exact absurd h1 (pu_m1' (by omega))
theorem bel_v (V : VS hh hr hc g B R H D K n o) {p s : Nat} (hp : p < plN B R H D) : belS g H D p s = -1 ∨ ∃ b, b < n ∧ belS g H D p s = nI b := by
  have hP := V.pp
  unfold belS
  split
  · rcases V.atb (p := p - s) (by omega) with w | ⟨b, hb, w, -⟩
    · exact Or.inl w
    · exact Or.inr ⟨b, hb, w⟩
  · exact Or.inl rfl
def ebS (g : HH) (H D a p s : Nat) : Nat := if belS g H D p s = -1 then 0 else if g 6 a ≤ g 6 (nn (belS g H D p s)) then 0 else 1
theorem K_early (V : VS hh hr hc g B R H D K n o) {a p : Nat} (ha : a < n) (hp : p < plN B R H D) (h7 : g 7 a = nI p) (hN : 10 ≤ N) : F_Surv_countEarlierBelow N (nI a) hh hc = some (nI (ebS g H D a p 1 + ebS g H D a p 2)) := by
  have hn := V.nn
  obtain ⟨kd, wt, t, -, -, -, -, -, -, -, g6, -, -, k6, k4⟩ := V.box ha
  have step : ∀ (f c s : Nat), s = 1 ∨ s = 2 → L_Surv_countEarlierBelow_5 N (f + 1) (nI a) (nI c) (nI s) hh hc = L_Surv_countEarlierBelow_5 N f (nI a) (nI (c + ebS g H D a p s)) (nI (s + 1)) hh hc := by
    intro f c s hs
    have h3 : ¬ (3 : Int32) ≤ nI s := by rcases hs with rfl | rfl <;> decide
    rw [L_Surv_countEarlierBelow_5, if_neg h3, k4, h7, K_below V hp (by omega), k6, ← g6, nI_1, nI_1]
    unfold ebS
    rcases bel_v V (s := s) hp with w | ⟨b, hb, w⟩
    · rw [w, if_pos rfl, if_pos rfl]; rfl
    · obtain ⟨kd2, wt2, t2, -, -, -, -, -, -, -, g62, -, -, k62, -⟩ := V.box hb
      rw [w, if_neg (pu_m1 (by omega)), if_neg (pu_m1 (by omega)), k62, nn, nI_clamp (by omega), ← g62]
      by_cases c1 : g 6 a ≤ g 6 b
      · rw [if_pos c1, if_pos c1]; rfl
      · rw [if_neg c1, if_neg c1]
  obtain ⟨f, rfl⟩ : ∃ z, N = z + 3 := ⟨N - 3, by omega⟩
  unfold F_Surv_countEarlierBelow
  have e1 := step (f + 2) 0 1 (Or.inl rfl)
  rw [Nat.zero_add, step (f + 1) _ 2 (Or.inr rfl)] at e1
  have e3 : L_Surv_countEarlierBelow_5 (f + 3) (f + 1) (nI a) (nI (ebS g H D a p 1 + ebS g H D a p 2)) (nI (2 + 1)) hh hc = some (nI (ebS g H D a p 1 + ebS g H D a p 2)) := rfl
  rw [e3] at e1
  show Option.bind (L_Surv_countEarlierBelow_5 (f + 3) (f + 2 + 1) (nI a) (nI 0) (nI 1) hh hc) _ = _
  rw [e1]
  rfl
theorem over_I (V : VS hh hr hc g B R H D K n o) {a : Nat} (ha : a < n) : ∀ (m j f : Nat) (c : Nat), j + m = n → m < f → L_Mo_over_24 N f (nI c) (nI a) (nI j) g = some (nI (c + sumT (fun b => b1 (abvS g H D a b && decide (¬ g 6 a ≤ g 6 b))) j m)) := by
  intro m
  have hn := V.nn
  induction m with
  | zero =>
    intro j f c h1 h2
    obtain ⟨f, rfl⟩ : ∃ z, f = z + 1 := ⟨f - 1, by omega⟩
    have : j = n := by omega
    subst this
    unfold L_Mo_over_24
    rw [V.n6, if_pos (Int32.le_refl _)]
    rfl
  | succ m ih =>
    intro j f c h1 h2
    obtain ⟨f, rfl⟩ : ∃ z, f = z + 1 := ⟨f - 1, by omega⟩
    have hj : j < n := by omega
    unfold L_Mo_over_24
    have ia : sv_in (nI a) 24 := pu_in (by omega) (by omega)
    have ib : sv_in (nI j) 24 := pu_in (by omega) (by omega)
    have e0 : nI c + 0 = nI c := Int32.add_zero _
    rw [V.n6, if_neg (nI_ge hj (by omega)), Mo_above V ha hj, e0, nI_1, nI_1]
    simp only [Option.bind_some, if_pos ia, if_pos ib]
    rw [nI_clamp (by omega), nI_clamp (by omega), ih (j + 1) f c (by omega) (by omega), ih (j + 1) f (c + 1) (by omega) (by omega)]
    have es : sumT (fun b => b1 (abvS g H D a b && decide (¬ g 6 a ≤ g 6 b))) j (m + 1) = b1 (abvS g H D a j && decide (¬ g 6 a ≤ g 6 j)) + sumT (fun b => b1 (abvS g H D a b && decide (¬ g 6 a ≤ g 6 b))) (j + 1) m := rfl
    rw [es]
    cases hb : abvS g H D a j
    · have z : b1 (false && decide (¬ g 6 a ≤ g 6 j)) = 0 := rfl
      rw [z, Nat.zero_add]
      rfl
    · rw [show bi true = 1 from rfl, if_neg pu_10]
      by_cases c1 : g 6 a ≤ g 6 j
      · rw [if_pos c1]
        have z : b1 (true && decide (¬ g 6 a ≤ g 6 j)) = 0 := by simp [c1]
        rw [z, Nat.zero_add]
      · rw [if_neg c1]
        have z : b1 (true && decide (¬ g 6 a ≤ g 6 j)) = 1 := by simp [c1]
        rw [z, Nat.add_assoc]
theorem over_row (V : VS hh hr hc g B R H D K n o) {a : Nat} (ha : a < n) : sumN (fun b => b1 (abvS g H D a b && decide (¬ g 6 a ≤ g 6 b))) n = if g 7 a = -1 then 0 else ebS g H D a (nn (g 7 a)) 1 + ebS g H D a (nn (g 7 a)) 2 := by
  have hn := V.nn
  have hP := V.pp
  rcases V.plc ha with p0 | ⟨p, hp, p0, -⟩
  · rw [if_pos p0, sumN_congr (G := fun _ => 0) n (fun i _ => by simp [abvS, p0]), sumN_0]
  · rw [p0, if_neg (pu_m1 (by omega)), nn, nI_clamp (by omega)]
    have e : sumN (fun b => b1 (abvS g H D a b && decide (¬ g 6 a ≤ g 6 b))) n = sumN (fun b => b1 (decide (belS g H D p 1 = nI b) && decide (¬ g 6 a ≤ g 6 b)) + b1 (decide (belS g H D p 2 = nI b) && decide (¬ g 6 a ≤ g 6 b))) n := by
      apply sumN_congr
      intro b hb
      have nb := bel_ne V hb hp
      rw [abv_bel V hb hp p0]
      by_cases c1 : belS g H D p 1 = nI b
      · have c2 : ¬ belS g H D p 2 = nI b := fun z => nb ⟨c1, z⟩
        simp [c1, c2]
      · by_cases c2 : belS g H D p 2 = nI b
        · simp [c1, c2]
        · simp [c1, c2]
    rw [e, sumN_add]
    have key : ∀ s, sumN (fun b => b1 (decide (belS g H D p s = nI b) && decide (¬ g 6 a ≤ g 6 b))) n = ebS g H D a p s := by
      intro s
      unfold ebS
      rcases bel_v V (s := s) hp with w | ⟨b, hb, w⟩
      · rw [w, if_pos rfl]
        exact sumN_one _ n (by omega) (fun b hb => pu_m1' (by omega))
      · rw [w, if_neg (pu_m1 (by omega)), sumN_two _ b n (by omega) hb, nn, nI_clamp (by omega)]
        by_cases c1 : g 6 a ≤ g 6 b <;> simp [c1]
    rw [key, key]
theorem over_L (V : VS hh hr hc g B R H D K n o) (hN : 30 ≤ N) (hN' : 30 ≤ N') : ∀ (m j f f' : Nat) (c : Nat), j + m = n → m < f → m < f' → ∃ v, L_Surv_countOver_4 N f (nI c) (nI j) hh hc = some v ∧ L_Mo_over_14 N' f' (nI c) (nI j) g = some v := by
  intro m
  have hn := V.nn
  have hP := V.pp
  induction m with
  | zero =>
    intro j f f' c h1 h2 h3
    obtain ⟨f, rfl⟩ : ∃ z, f = z + 1 := ⟨f - 1, by omega⟩
    obtain ⟨f', rfl⟩ : ∃ z, f' = z + 1 := ⟨f' - 1, by omega⟩
    have : j = n := by omega
    subst this
    unfold L_Surv_countOver_4 L_Mo_over_14
    rw [V.n6, V.h0, if_pos (Int32.le_refl _), if_pos (Int32.le_refl _)]
    exact ⟨_, rfl, rfl⟩
  | succ m ih =>
    intro j f f' c h1 h2 h3
    obtain ⟨f, rfl⟩ : ∃ z, f = z + 1 := ⟨f - 1, by omega⟩
    obtain ⟨f', rfl⟩ : ∃ z, f' = z + 1 := ⟨f' - 1, by omega⟩
    have hj : j < n := by omega
    unfold L_Surv_countOver_4 L_Mo_over_14
    have e0 : nI c + 0 = nI c := Int32.add_zero _
    have e1 := over_I (N := N') V hj n 0 N' c (by omega) (by omega)
    rw [sumN_T, over_row V hj, show nI 0 = 0 from rfl] at e1
    rw [V.n6, V.h0, if_neg (nI_ge hj (by omega)), if_neg (nI_ge hj (by omega)), V.lies hj, e0, nI_1, e1]
    simp only [Option.bind_some]
    rcases V.plc hj with p0 | ⟨p, hp, p0, -⟩
    · rw [if_pos p0, if_pos rfl, if_pos p0, Nat.add_zero]
      exact ih (j + 1) f f' c (by omega) (by omega) (by omega)
    · have z : ¬ g 7 j = -1 := by rw [p0]; exact pu_m1 (by omega)
      rw [if_neg z, if_neg pu_10, if_neg z, K_early V hj hp p0 (by omega), p0, nn, nI_clamp (by omega)]
      simp only [Option.bind_some]
      rw [nI_add]
      exact ih (j + 1) f f' _ (by omega) (by omega) (by omega)
theorem sim_25 : Sim_25 Inv := by
  intro k g I
  have h : ∃ v, F_K_over 3000 (k 0) (k 9) (k 11) = some v ∧ F_Mo_over 3000 g = some v := by
    unfold F_K_over F_Mo_over F_Surv_countOver
    rcases i_there I with ⟨B, R, H, D, K, n, o, J, h1, h2⟩ | ⟨J, h1, h2⟩
    · rw [h1, h2, if_neg pu_10, if_pos pu_10]
      have hn := J.2.2.1.nn
      obtain ⟨v, v1, v2⟩ := over_L (N := 3000) (N' := 3000) J.2.2.1 (by omega) (by omega) n 0 3000 3000 0 (by omega) (by omega) (by omega)
      rw [show nI 0 = 0 from rfl] at v1 v2
      rw [v1, v2]
      exact ⟨_, rfl, rfl⟩
    · rw [h1, h2]
      exact ⟨-2, rfl, rfl⟩
  obtain ⟨v, h1, h2⟩ := h
  refine ⟨3000, 3000, v, k, g, ?_, ?_, I⟩
  · unfold KO_25; rw [h1]; rfl
  · unfold MO_25; rw [h2]; rfl
def rsS (g : HH) (H D p s : Nat) (x : Int32) : Bool := decide (belS g H D p s ≠ -1) && decide (g 6 (nn (belS g H D p s)) = x)
theorem K_above (V : VS hh hr hc g B R H D K n o) {a p : Nat} (x : Int32) (ha : a < n) (hp : p < plN B R H D) (h7 : g 7 a = nI p) (hN : 10 ≤ N) : F_Surv_isAbovePort N (nI a) x hh hc = some (bi (rsS g H D p 1 x || rsS g H D p 2 x)) := by
  have hn := V.nn
  obtain ⟨kd, wt, t, -, -, -, -, -, -, -, g6, -, -, k6, k4⟩ := V.box ha
  have step : ∀ (f s : Nat), s = 1 ∨ s = 2 → L_Surv_isAbovePort_3 N (f + 1) (nI a) x (nI s) hh hc = if rsS g H D p s x = true then some (.inr 1) else L_Surv_isAbovePort_3 N f (nI a) x (nI (s + 1)) hh hc := by
    intro f s hs
    have h3 : ¬ (3 : Int32) ≤ nI s := by rcases hs with rfl | rfl <;> decide
    rw [L_Surv_isAbovePort_3, if_neg h3, k4, h7, K_below V hp (by omega), nI_1]
    unfold rsS
    rcases bel_v V (s := s) hp with w | ⟨b, hb, w⟩
    · rw [w, if_pos rfl]; simp
    · obtain ⟨kd2, wt2, t2, -, -, -, -, -, -, -, g62, -, -, k62, -⟩ := V.box hb
      have z : nI b ≠ -1 := pu_m1 (by omega)
      rw [w, if_neg z, k62, nn, nI_clamp (by omega), ← g62]
      by_cases c1 : g 6 b = x
      · rw [ifn c1]; simp [c1, z]
      · rw [if_pos c1]; simp [c1]
  obtain ⟨f, rfl⟩ : ∃ z, N = z + 3 := ⟨N - 3, by omega⟩
  unfold F_Surv_isAbovePort
  have e1 := step (f + 2) 1 (Or.inl rfl)
  rw [step (f + 1) 2 (Or.inr rfl)] at e1
  have e3 : L_Surv_isAbovePort_3 (f + 3) (f + 1) (nI a) x (nI (2 + 1)) hh hc = some (.inl ()) := rfl
  rw [e3] at e1
  show sv_bs (L_Surv_isAbovePort_3 (f + 3) (f + 2 + 1) (nI a) x (nI 1) hh hc) id _ = _
  rw [e1]
  cases rsS g H D p 1 x <;> cases rsS g H D p 2 x <;> rfl
theorem rest_I (V : VS hh hr hc g B R H D K n o) (x y : Int32) {a : Nat} (ha : a < n) : ∀ (m j f : Nat) (c : Bool), j + m = n → m < f → L_Mo_restows_40 N f x y (nI a) (bi c) (nI j) g = some (bi (c || anyT (fun b => decide (¬ g 6 a = x) && decide (g 6 b = x) && abvS g H D a b) j m)) := by
  intro m
  have hn := V.nn
  induction m with
  | zero =>
    intro j f c h1 h2
    obtain ⟨f, rfl⟩ : ∃ z, f = z + 1 := ⟨f - 1, by omega⟩
    have : j = n := by omega
    subst this
    unfold L_Mo_restows_40
    rw [V.n6, if_pos (Int32.le_refl _)]
    cases c <;> rfl
  | succ m ih =>
    intro j f c h1 h2
    obtain ⟨f, rfl⟩ : ∃ z, f = z + 1 := ⟨f - 1, by omega⟩
    have hj : j < n := by omega
    unfold L_Mo_restows_40
    have ia : sv_in (nI a) 24 := pu_in (by omega) (by omega)
    have ib : sv_in (nI j) 24 := pu_in (by omega) (by omega)
    have i0 := ih (j + 1) f false (by omega) (by omega)
    have i1 := ih (j + 1) f true (by omega) (by omega)
    rw [show bi false = 0 from rfl] at i0
    rw [show bi true = 1 from rfl] at i1
    simp only [if_pos ia, if_pos ib]
    rw [V.n6, if_neg (nI_ge hj (by omega)), Mo_above V ha hj, nI_1, i0, i1, nI_clamp (by omega), nI_clamp (by omega)]
    simp only [Option.bind_some]
    have es : anyT (fun b => decide (¬ g 6 a = x) && decide (g 6 b = x) && abvS g H D a b) j (m + 1) = ((decide (¬ g 6 a = x) && decide (g 6 j = x) && abvS g H D a j) || anyT (fun b => decide (¬ g 6 a = x) && decide (g 6 b = x) && abvS g H D a b) (j + 1) m) := rfl
    rw [es]
    cases c
    · rw [show bi false = 0 from rfl, ife0]
      by_cases c1 : g 6 a = x
      · rw [if_pos c1]; simp [c1]
      · rw [if_neg c1]
        by_cases c2 : g 6 j = x
        · rw [ifn c2]
          cases hb : abvS g H D a j
          · simp [bi]
          · rw [show bi true = 1 from rfl, if_neg pu_10]; simp [c1, c2, bi]
        · rw [if_pos c2]; simp [c2]
    · rw [show bi true = 1 from rfl, if_pos pu_10]; simp [bi]
theorem rest_L (V : VS hh hr hc g B R H D K n o) (x : Int32) (hN : 30 ≤ N) (hN' : 30 ≤ N') : ∀ (m j f f' : Nat) (c : Int32), j + m = n → m < f → m < f' → ∃ v, L_Surv_countAbove_5 N f x c (nI j) hh hc = some v ∧ L_Mo_restows_26 N' f' x c (nI j) g = some v := by
  intro m
  have hn := V.nn
  have hP := V.pp
  induction m with
  | zero =>
    intro j f f' c h1 h2 h3
    obtain ⟨f, rfl⟩ : ∃ z, f = z + 1 := ⟨f - 1, by omega⟩
    obtain ⟨f', rfl⟩ : ∃ z, f' = z + 1 := ⟨f' - 1, by omega⟩
    have : j = n := by omega
    subst this
    unfold L_Surv_countAbove_5 L_Mo_restows_26
    rw [V.n6, V.h0, if_pos (Int32.le_refl _), if_pos (Int32.le_refl _)]
    exact ⟨_, rfl, rfl⟩
  | succ m ih =>
    intro j f f' c h1 h2 h3
    obtain ⟨f, rfl⟩ : ∃ z, f = z + 1 := ⟨f - 1, by omega⟩
    obtain ⟨f', rfl⟩ : ∃ z, f' = z + 1 := ⟨f' - 1, by omega⟩
    have hj : j < n := by omega
    unfold L_Surv_countAbove_5 L_Mo_restows_26
    have e0 : c + 0 = c := Int32.add_zero _
    have e1 := rest_I (N := N') V x c hj n 0 N' false (by omega) (by omega)
    rw [Bool.false_or, show nI 0 = 0 from rfl, show bi false = 0 from rfl] at e1
    obtain ⟨kd, wt, t, -, -, -, -, -, -, -, g6, -, -, k6, k4⟩ := V.box hj
    obtain ⟨va, a1, a2⟩ := ih (j + 1) f f' c (by omega) (by omega) (by omega)
    obtain ⟨vb, b1, b2⟩ := ih (j + 1) f f' (c + 1) (by omega) (by omega) (by omega)
    rw [V.n6, V.h0, if_neg (nI_ge hj (by omega)), if_neg (nI_ge hj (by omega)), V.lies hj, e0, nI_1, e1, k6, ← g6, a1, a2, b1, b2]
    simp only [Option.bind_some, pu_let]
    have nof : anyT (fun b => decide (¬ g 6 j = x) && decide (g 6 b = x) && abvS g H D j b) 0 n = false → (if bi (anyT (fun b => decide (¬ g 6 j = x) && decide (g 6 b = x) && abvS g H D j b) 0 n) = 0 then some va else some vb) = some va := by
      intro z; rw [z]; rfl
    rcases V.plc hj with p0 | ⟨p, hp, p0, -⟩
    · rw [if_pos p0, if_pos rfl, if_pos rfl, nof]
      · exact ⟨va, rfl, rfl⟩
      · rw [← Bool.not_eq_true, anyT_iff]
        rintro ⟨i, -, -, h⟩
        simp [abvS, p0] at h
    · have z : ¬ g 7 j = -1 := by rw [p0]; exact pu_m1 (by omega)
      rw [if_neg z, if_neg pu_10]
      by_cases c1 : g 6 j = x
      · rw [if_pos c1, if_pos rfl, nof]
        · exact ⟨va, rfl, rfl⟩
        · rw [← Bool.not_eq_true, anyT_iff]
          rintro ⟨i, -, -, h⟩
          simp [c1] at h
      · rw [if_neg c1, if_neg pu_10, K_above V x hj hp p0 (by omega)]
        simp only [Option.bind_some]
        have e : anyT (fun b => decide (¬ g 6 j = x) && decide (g 6 b = x) && abvS g H D j b) 0 n = (rsS g H D p 1 x || rsS g H D p 2 x) := by
          rw [Bool.eq_iff_iff, anyT_iff, Bool.or_eq_true]
          have key : ∀ s, rsS g H D p s x = true ↔ ∃ b, b < n ∧ g 6 b = x ∧ belS g H D p s = nI b := by
            intro s
            unfold rsS
            rw [Bool.and_eq_true, decide_eq_true_iff, decide_eq_true_iff]
            rcases bel_v V (s := s) hp with w | ⟨b, hb, w⟩
            · rw [w]
              exact ⟨fun y => absurd rfl y.1, fun ⟨b, y1, y2, y3⟩ => absurd y3 (pu_m1' (by omega))⟩
            · rw [w, nn, nI_clamp (by omega)]
              constructor
              · rintro ⟨-, y⟩; exact ⟨b, hb, y, rfl⟩
              · rintro ⟨b2, y1, y2, y3⟩
                have := (nI_eq (by omega) (by omega)).mp y3
                subst this
                exact ⟨pu_m1 (by omega), y2⟩
          rw [key, key]
          constructor
          · rintro ⟨i, -, i2, i3⟩
            rw [Bool.and_eq_true, Bool.and_eq_true, decide_eq_true_iff, decide_eq_true_iff, abv_bel V (by omega) hp p0, Bool.or_eq_true, decide_eq_true_iff, decide_eq_true_iff] at i3
            rcases i3.2 with y | y
            · exact Or.inl ⟨i, by omega, i3.1.2, y⟩
            · exact Or.inr ⟨i, by omega, i3.1.2, y⟩
          · rintro (⟨b, y1, y2, y3⟩ | ⟨b, y1, y2, y3⟩)
            · refine ⟨b, by omega, by omega, ?_⟩
              rw [abv_bel V y1 hp p0]
              simp [c1, y2, y3]
            · refine ⟨b, by omega, by omega, ?_⟩
              rw [abv_bel V y1 hp p0]
              simp [c1, y2, y3]
        rw [e]
        cases rsS g H D p 1 x || rsS g H D p 2 x
        · exact ⟨va, rfl, rfl⟩
        · exact ⟨vb, rfl, rfl⟩
theorem sim_26 : Sim_26 Inv := by
  intro a1 k g I
  have h : ∃ v, F_K_restows 3000 a1 (k 0) (k 9) (k 11) = some v ∧ F_Mo_restows 3000 a1 g = some v := by
    unfold F_K_restows F_Mo_restows F_Surv_countAbove
    rw [show (1 : Int64) = (1 : Int32).toInt64 from rfl, show (5 : Int64) = (5 : Int32).toInt64 from rfl, pu_inw]
    rcases i_there I with ⟨B, R, H, D, K, n, o, J, h1, h2⟩ | ⟨J, h1, h2⟩
    · rw [h1, h2, if_neg pu_10, if_neg pu_10]
      have hn := J.2.2.1.nn
      obtain ⟨v, v1, v2⟩ := rest_L (N := 3000) (N' := 3000) J.2.2.1 a1 (by omega) (by omega) n 0 3000 3000 0 (by omega) (by omega) (by omega)
      rw [show nI 0 = 0 from rfl] at v1 v2
      rw [v1, v2]
      by_cases c : F_K_within a1 1 5 = 0
      · rw [if_pos c, ifn c]
        exact ⟨-2, rfl, rfl⟩
      · rw [if_neg c, if_pos c]
        exact ⟨_, rfl, rfl⟩
    · rw [h1, h2]
      exact ⟨-2, rfl, rfl⟩
  obtain ⟨v, h1, h2⟩ := h
  refine ⟨3000, 3000, v, k, g, ?_, ?_, I⟩
  · unfold KO_26; rw [h1]; rfl
  · unfold MO_26; rw [h2]; rfl
end OVER
