/-! ===== pure: bays, free places, lean, shift ===== -/
section ASK4
variable {k : KS} {g : HH} {hh hr hc : HH} {B R H D K n o N N' : Nat}
theorem ifn {α : Type} {c : Prop} [Decidable c] {a b : α} (h : c) : (if ¬ c then a else b) = b := if_neg (fun z => z h)
theorem ife0 {α : Type} {a b : α} : (if ¬ (0 : Int32) = 0 then a else b) = b := rfl
theorem pu_or0 (x : Int32) : x ||| 0 = x := by simp
theorem K_bayAt (V : VS hh hr hc g B R H D K n o) {p : Nat} (hp : p < plN B R H D) : F_Hull_bayAt (nI p) hh = nI (p / (H + D) / R) := by
  have hP := V.pp
  unfold F_Hull_bayAt
  rw [pu_rd _ (by omega) (by omega)]
  exact (V.2.2.1.2.1 p hp).1
theorem K_rowAt (V : VS hh hr hc g B R H D K n o) {p : Nat} (hp : p < plN B R H D) : F_Hull_rowAt (nI p) hh = nI (p / (H + D) % R) := by
  have hP := V.pp
  unfold F_Hull_rowAt
  rw [pu_rd _ (by omega) (by omega)]
  exact (V.2.2.1.2.1 p hp).2.1
theorem VS.h4 (V : VS hh hr hc g B R H D K n o) : hh 0 4 = nI (plN B R H D) := V.2.2.1.1.2.2.2.2.1
theorem kb_L (V : VS hh hr hc g B R H D K n o) {b : Nat} (hb : b < B) : ∀ (m j f f' : Nat) (c : Int32), j + m = n → m < f → m < f' → ∃ v, L_Surv_kindBits_5 N f (nI b) c (nI j) hh hc = some v ∧ L_Mo_kindsIn_22 N' f' (nI b) c (nI j) g = some v := by
  intro m
  have hn := V.nn
  have hP := V.pp
  induction m with
  | zero =>
    intro j f f' c h1 h2 h3
    obtain ⟨f, rfl⟩ : ∃ z, f = z + 1 := ⟨f - 1, by omega⟩
    obtain ⟨f', rfl⟩ : ∃ z, f' = z + 1 := ⟨f' - 1, by omega⟩
    have : j = n := by omega
    subst this
    unfold L_Surv_kindBits_5 L_Mo_kindsIn_22
    rw [V.n6, V.h0, if_pos (Int32.le_refl _), if_pos (Int32.le_refl _)]
    exact ⟨_, rfl, rfl⟩
  | succ m ih =>
    intro j f f' c h1 h2 h3
    obtain ⟨f, rfl⟩ : ∃ z, f = z + 1 := ⟨f - 1, by omega⟩
    obtain ⟨f', rfl⟩ : ∃ z, f' = z + 1 := ⟨f' - 1, by omega⟩
    have hj : j < n := by omega
    unfold L_Surv_kindBits_5 L_Mo_kindsIn_22
    have hin : sv_in (nI j) 24 := pu_in (by omega) (by omega)
    obtain ⟨kd, wt, t, -, k2, -, -, -, -, -, -, k3, -, -, k4⟩ := V.box hj
    simp only [if_pos hin, pu_or0]
    rw [V.n6, V.h0, if_neg (nI_ge hj (by omega)), if_neg (nI_ge hj (by omega)), V.lies hj, nI_clamp (by omega), nI_1, k4, k3, k2]
    rcases V.plc hj with p0 | ⟨p, hp, p0, -⟩
    · rw [p0, if_pos rfl, if_pos rfl, if_pos rfl]
      exact ih (j + 1) f f' c (by omega) (by omega) (by omega)
    · rw [p0, if_neg (pu_m1 (by omega)), if_neg (pu_m1 (by omega)), if_neg pu_10, K_bayAt V hp, Mo_bay V.1 (by omega)]
      simp only [Option.bind_some]
      by_cases q : nI (p / (H + D) / R) = nI b
      · rw [ifn q, ifn q]
        exact ih (j + 1) f f' _ (by omega) (by omega) (by omega)
      · rw [if_pos q, if_pos q]
        exact ih (j + 1) f f' c (by omega) (by omega) (by omega)
theorem sim_44 : Sim_44 Inv := by
  intro a1 k g I
  have h : ∃ v, F_K_kindsIn 3000 a1 (k 0) (k 9) (k 11) = some v ∧ F_Mo_kindsIn 3000 a1 g = some v := by
    unfold F_K_kindsIn F_Mo_kindsIn
    rcases I.2 with J | ⟨B, R, H, D, K, n, o, J⟩
    · unfold F_K_isBay
      rw [J.1, J.2.1]
      exact ⟨-2, rfl, rfl⟩
    rw [J.2.1, if_neg pu_10]
    rcases a_bay (N := 3000) J a1 with ⟨b, h1, rfl, h3, h4⟩ | ⟨h3, h4⟩
    · rw [h3, h4, if_neg pu_10]
      simp only [Option.bind_some, if_pos pu_10]
      have hn := J.2.2.1.nn
      obtain ⟨v, v1, v2⟩ := kb_L (N := 3000) (N' := 3000) J.2.2.1 h1 n 0 3000 3000 0 (by omega) (by omega) (by omega)
      rw [show nI 0 = 0 from rfl] at v1 v2
      unfold F_Surv_kindBits
      rw [v1, v2]
      exact ⟨_, rfl, rfl⟩
    · rw [h3, h4]
      exact ⟨-2, rfl, rfl⟩
  obtain ⟨v, h1, h2⟩ := h
  refine ⟨3000, 3000, v, k, g, ?_, ?_, I⟩
  · unfold KO_44; rw [h1]; rfl
  · unfold MO_44; rw [h2]; rfl
theorem free_L (V : VS hh hr hc g B R H D K n o) (x : Int32) (hx : x = 0 ∨ x = 1) : ∀ (m p f f' : Nat) (c : Int32), p + m = plN B R H D → m < f → m < f' → ∃ v, L_Surv_countFree_5 N f x c (nI p) hh hc = some v ∧ L_Mo_free_24 N' f' x c (nI p) g = some v := by
  intro m
  have hP := V.pp
  induction m with
  | zero =>
    intro p f f' c h1 h2 h3
    obtain ⟨f, rfl⟩ : ∃ z, f = z + 1 := ⟨f - 1, by omega⟩
    obtain ⟨f', rfl⟩ : ∃ z, f' = z + 1 := ⟨f' - 1, by omega⟩
    have : p = plN B R H D := by omega
    subst this
    unfold L_Surv_countFree_5 L_Mo_free_24
    rw [Mo_places V.1, V.h4]
    simp only [Option.bind_some, if_pos (Int32.le_refl _)]
    exact ⟨_, rfl, rfl⟩
  | succ m ih =>
    intro p f f' c h1 h2 h3
    obtain ⟨f, rfl⟩ : ∃ z, f = z + 1 := ⟨f - 1, by omega⟩
    obtain ⟨f', rfl⟩ : ∃ z, f' = z + 1 := ⟨f' - 1, by omega⟩
    have hp : p < plN B R H D := by omega
    unfold L_Surv_countFree_5 L_Mo_free_24
    have hin : sv_in (nI p) 144 := pu_in (by omega) (by omega)
    have e0 : c + 0 = c := Int32.add_zero _
    have i1 := ih (p + 1) f f' c (by omega) (by omega) (by omega)
    have i2 := ih (p + 1) f f' (c + 1) (by omega) (by omega) (by omega)
    obtain ⟨s1, s2, s3⟩ := V.1.st hp
    rw [Mo_places V.1, V.h4, Mo_low V.1 (by omega), K_lowest V hp, V.at (by omega)]
    simp only [Option.bind_some, if_pos hin, if_neg (nI_ge hp (by omega)), nI_1, e0, pu_let]
    rw [nI_clamp (by omega)]
    by_cases q : g 8 p = -1
    · rw [ifn q, ifn q]
      by_cases l : p = lowS H D p
      · have l' : nI p = nI (lowS H D p) := congrArg nI l
        rw [if_pos l, if_pos pu_10, if_pos pu_10, if_pos l']
        simp only [ite_self]
        exact i2
      · have l' : ¬ nI p = nI (lowS H D p) := fun z => l ((nI_eq (by omega) (by omega)).mp z)
        have e1 : nI p - 1 = nI (p - 1) := by
          rw [show (1 : Int32) = nI 1 from rfl, pk_sub (by omega)]
        rw [if_neg l, ife0, if_neg l', e1, if_pos (pu_in (by omega) (by omega)), V.at (by omega), nI_clamp (by omega)]
        by_cases b : g 8 (p - 1) = -1
        · rw [if_pos b, if_pos b, ife0]
          rcases hx with rfl | rfl
          · exact i2
          · exact i1
        · rw [if_neg b, if_neg b, if_pos pu_10]
          simp only [ite_self]
          exact i2
    · rw [if_pos q, if_pos q]
      exact i1
theorem sim_45 : Sim_45 Inv := by
  intro a1 k g I
  have h : ∃ v, F_K_free 3000 a1 (k 0) (k 9) (k 11) = some v ∧ F_Mo_free 3000 a1 g = some v := by
    unfold F_K_free F_Mo_free
    rw [show (1 : Int64) = (1 : Int32).toInt64 from rfl, pu_in0]
    rcases i_there I with ⟨B, R, H, D, K, n, o, J, h1, h2⟩ | ⟨J, h1, h2⟩
    · rw [h1, h2, if_neg pu_10, if_neg pu_10]
      have V := J.2.2.1
      have hP := V.pp
      rcases pu_wc a1 0 1 (by omega) (by omega) with ⟨d, d1, d2, d3, d4⟩ | ⟨d1, d4⟩
      · rw [show nI 0 = 0 from rfl, show nI 1 = 1 from rfl] at d4
        rw [d4, if_neg pu_10, if_pos pu_10]
        have hd : a1 = 0 ∨ a1 = 1 := by
          have : d = 0 ∨ d = 1 := by omega
          rcases this with rfl | rfl
          · exact Or.inl d3
          · exact Or.inr d3
        have e : (if ¬ a1 = 1 then (0 : Int32) else 1) = a1 := by
          rcases hd with rfl | rfl <;> rfl
        rw [e]
        simp only [pu_let]
        obtain ⟨v, v1, v2⟩ := free_L (N := 3000) (N' := 3000) V a1 hd (plN B R H D) 0 3000 3000 0 (by omega) (by omega) (by omega)
        rw [show nI 0 = 0 from rfl] at v1 v2
        unfold F_Surv_countFree
        rw [v1, v2]
        exact ⟨_, rfl, rfl⟩
      · rw [show nI 0 = 0 from rfl, show nI 1 = 1 from rfl] at d4
        rw [d4]
        exact ⟨-2, rfl, rfl⟩
    · rw [h1, h2]
      exact ⟨-2, rfl, rfl⟩
  obtain ⟨v, h1, h2⟩ := h
  refine ⟨3000, 3000, v, k, g, ?_, ?_, I⟩
  · unfold KO_45; rw [h1]; rfl
  · unfold MO_45; rw [h2]; rfl
theorem clear_L (V : VS hh hr hc g B R H D K n o) (ho : g 0 11 = nI o) {kd : Nat} (hk : kd < K) (x : Int32) (hN : 30 ≤ N) (hN' : 30 ≤ N') : ∀ (m p f f' : Nat) (c : Int32), p + m = plN B R H D → m < f → m < f' → ∃ r, L_Ves_clearPlace_5 N f (nI kd) x c (nI p) hh hr hc = some r ∧ L_Mo_clear_21 N' f' (nI kd) x c (nI p) g = some r := by
  intro m
  have hP := V.pp
  induction m with
  | zero =>
    intro p f f' c h1 h2 h3
    obtain ⟨f, rfl⟩ : ∃ z, f = z + 1 := ⟨f - 1, by omega⟩
    obtain ⟨f', rfl⟩ : ∃ z, f' = z + 1 := ⟨f' - 1, by omega⟩
    have : p = plN B R H D := by omega
    subst this
    unfold L_Ves_clearPlace_5 L_Mo_clear_21
    rw [Mo_places V.1, V.h4]
    simp only [Option.bind_some, if_pos (Int32.le_refl _)]
    exact ⟨_, rfl, rfl⟩
  | succ m ih =>
    intro p f f' c h1 h2 h3
    obtain ⟨f, rfl⟩ : ∃ z, f = z + 1 := ⟨f - 1, by omega⟩
    obtain ⟨f', rfl⟩ : ∃ z, f' = z + 1 := ⟨f' - 1, by omega⟩
    have hp : p < plN B R H D := by omega
    unfold L_Ves_clearPlace_5 L_Mo_clear_21
    have hin : sv_in (nI p) 144 := pu_in (by omega) (by omega)
    obtain ⟨v, w1, w2, -⟩ := near_eq (N := N) (N' := N') V ho hk hp (-1) (-1) (fun _ _ => Iff.rfl) hN hN'
    rw [Mo_places V.1, V.h4, V.at (by omega), w1, w2]
    simp only [Option.bind_some, if_pos hin, if_neg (nI_ge hp (by omega)), nI_1]
    rw [nI_clamp (by omega)]
    by_cases q : g 8 p = -1
    · rw [ifn q, ifn q]
      by_cases c1 : v = -1
      · rw [ifn c1, if_pos c1]
        by_cases c2 : c = x
        · rw [ifn c2, ifn c2]
          exact ⟨_, rfl, rfl⟩
        · rw [if_pos c2, if_pos c2]
          exact ih (p + 1) f f' _ (by omega) (by omega) (by omega)
      · rw [if_pos c1, if_neg c1]
        exact ih (p + 1) f f' _ (by omega) (by omega) (by omega)
    · rw [if_pos q, if_pos q]
      exact ih (p + 1) f f' _ (by omega) (by omega) (by omega)
theorem sim_48 : Sim_48 Inv := by
  intro a1 a2 k g I
  have h : ∃ v, F_K_clear 3000 a1 a2 (k 0) (k 9) (k 10) (k 11) = some v ∧ F_Mo_clear 3000 a1 a2 g = some v := by
    unfold F_K_clear F_Mo_clear F_Ves_clearPlace
    rcases i_kind (N := 3000) I a1 with ⟨B, R, H, D, K, n, o, j, J, h1, h2, h3, h4⟩ | ⟨h3, h4⟩
    · rw [h3, h4, if_neg pu_10]
      simp only [Option.bind_some, if_neg pu_10]
      subst h2
      have hP := J.2.2.1.pp
      obtain ⟨r, r1, r2⟩ := clear_L (N := 3000) (N' := 3000) J.2.2.1 J.2.2.2.1 h1 a2 (by omega) (by omega) (plN B R H D) 0 3000 3000 0 (by omega) (by omega) (by omega)
      rw [show nI 0 = 0 from rfl] at r1 r2
      rw [r1, r2]
      by_cases c : a2 < -1
      · rw [if_pos c, if_neg (Int32.not_le.mpr c)]
        exact ⟨-2, rfl, rfl⟩
      · rw [if_neg c, if_pos (Int32.not_lt.mp c)]
        cases r with
        | inl v =>
          show ∃ w, Option.bind (if ¬ a2 = -1 then some (-1) else some v) (fun v3 => some v3) = some w ∧ (if ¬ a2 = -1 then some (-1) else some v) = some w
          by_cases c2 : a2 = -1
          · rw [ifn c2]; exact ⟨_, rfl, rfl⟩
          · rw [if_pos c2]; exact ⟨_, rfl, rfl⟩
        | inr v => exact ⟨_, rfl, rfl⟩
    · rw [h3, h4]
      exact ⟨-2, rfl, rfl⟩
  obtain ⟨v, h1, h2⟩ := h
  refine ⟨3000, 3000, v, k, g, ?_, ?_, I⟩
  · unfold KO_48; rw [h1]; rfl
  · unfold MO_48; rw [h2]; rfl
theorem pu_m64 {w : Nat} (hw : w ≤ 99) (x : Int32) (h1 : -20 ≤ x.toInt) (h2 : x.toInt ≤ 20) : (nI w * x).toInt64 = (nI w).toInt64 * x.toInt64 := by
  apply Int64.toInt_inj.mp
  have e0 : (nI w).toInt = w := nI_toInt (by omega)
  have b1 : -(99 * 20) ≤ (w : Int) * x.toInt := by
    have : (w : Int) * (-20) ≤ (w : Int) * x.toInt := Int.mul_le_mul_of_nonneg_left h1 (by omega)
    omega
  have b2 : (w : Int) * x.toInt ≤ 99 * 20 := by
    have : (w : Int) * x.toInt ≤ (w : Int) * 20 := Int.mul_le_mul_of_nonneg_left h2 (by omega)
    omega
  rw [Int32.toInt_toInt64, Int64.toInt_mul, Int32.toInt_mul, Int32.toInt_toInt64, Int32.toInt_toInt64, e0, Int.bmod_eq_of_le (by omega) (by omega), Int.bmod_eq_of_le (by omega) (by omega)]
theorem pu_arm {b B : Nat} (hb : b < B) (hB : B ≤ 6) : -20 ≤ ((2 : Int32) * nI b - (nI B - 1)).toInt ∧ ((2 : Int32) * nI b - (nI B - 1)).toInt ≤ 20 := by
  rw [show (2 : Int32) = nI 2 from rfl, show (1 : Int32) = nI 1 from rfl, pk_mul, pk_sub (by omega), pk_sub_toInt (by omega) (by omega)]
  omega
def armS (B R H D p : Nat) (x : Int32) : Int32 := if x = 0 then 2 * nI (p / (H + D) / R) - (nI B - 1) else if x = 1 then 2 * nI (p / (H + D) % R) - (nI R - 1) else if x = 2 then nI (p % (H + D)) else 1
theorem armS_b (h : Geo g B R H D) {p : Nat} (hp : p < plN B R H D) (x : Int32) : -20 ≤ (armS B R H D p x).toInt ∧ (armS B R H D p x).toInt ≤ 20 := by
  have b1 := h.bl hp
  have b2 := h.rl p
  have b3 := h.md p
  obtain ⟨-, h1, h2, h3, h4, h5, h6, h7⟩ := h
  unfold armS
  split
  · exact pu_arm b1 h2
  · split
    · exact pu_arm b2 (by omega)
    · split
      · rw [nI_toInt (by omega)]; omega
      · exact ⟨by decide, by decide⟩
theorem K_arm (V : VS hh hr hc g B R H D K n o) {p : Nat} (hp : p < plN B R H D) (x : Int32) : F_Surv_arm (nI p) x hh = armS B R H D p x := by
  unfold F_Surv_arm armS F_Hull_tierAt
  rw [K_bayAt V hp, K_rowAt V hp, K_tier V hp, V.2.2.1.1.1, V.2.2.1.1.2.1]
/-- what she leans, from j on -/
def leanS (g : HH) (B R H D : Nat) (x : Int32) (j : Nat) (acc : Int64) : Nat → Int64
  | 0 => acc
  | m + 1 => leanS g B R H D x (j + 1) (if g 7 j = -1 then acc else acc + (g 5 j).toInt64 * (armS B R H D (nn (g 7 j)) x).toInt64) m
theorem K_lean (V : VS hh hr hc g B R H D K n o) (x : Int32) : ∀ (m j f : Nat) (c : Int64), j + m = n → m < f → L_Surv_moment_5 N f x c (nI j) hh hc = some (leanS g B R H D x j c m) := by
  intro m
  have hn := V.nn
  have hP := V.pp
  induction m with
  | zero =>
    intro j f c h1 h2
    obtain ⟨f, rfl⟩ : ∃ z, f = z + 1 := ⟨f - 1, by omega⟩
    have : j = n := by omega
    subst this
    unfold L_Surv_moment_5
    rw [V.h0, if_pos (Int32.le_refl _)]
    rfl
  | succ m ih =>
    intro j f c h1 h2
    obtain ⟨f, rfl⟩ : ∃ z, f = z + 1 := ⟨f - 1, by omega⟩
    have hj : j < n := by omega
    unfold L_Surv_moment_5 leanS
    obtain ⟨kd, wt, t, -, k2, -, -, g5, -, -, -, k3, k5, -, k4⟩ := V.box hj
    rw [V.h0, if_neg (nI_ge hj (by omega)), V.lies hj, nI_1, k4, k5, g5, ih (j + 1) f _ (by omega) (by omega), ih (j + 1) f _ (by omega) (by omega)]
    rcases V.plc hj with p0 | ⟨p, hp, p0, -⟩
    · rw [p0, if_pos rfl, if_pos rfl, if_pos rfl]
    · rw [p0, if_neg (pu_m1 (by omega)), if_neg (pu_m1 (by omega)), if_neg pu_10, K_arm V hp, nn, nI_clamp (by omega)]
theorem Mo_leanL (V : VS hh hr hc g B R H D K n o) (x : Int32) : ∀ (m j f : Nat) (c : Int64), j + m = n → m < f → L_Mo_lean_28 N f x c (nI j) g = some (leanS g B R H D x j c m) := by
  intro m
  have hn := V.nn
  have hP := V.pp
  induction m with
  | zero =>
    intro j f c h1 h2
    obtain ⟨f, rfl⟩ : ∃ z, f = z + 1 := ⟨f - 1, by omega⟩
    have : j = n := by omega
    subst this
    unfold L_Mo_lean_28
    rw [V.n6, if_pos (Int32.le_refl _)]
    rfl
  | succ m ih =>
    intro j f c h1 h2
    obtain ⟨f, rfl⟩ : ∃ z, f = z + 1 := ⟨f - 1, by omega⟩
    have hj : j < n := by omega
    unfold L_Mo_lean_28 leanS
    have hin : sv_in (nI j) 24 := pu_in (by omega) (by omega)
    have h90 : sv_in 1 90 := by decide
    have h91 : sv_in 0 90 := by decide
    obtain ⟨kd, wt, t, -, k2, -, w99, g5, -⟩ := V.box hj
    simp only [if_pos hin, if_pos h90, if_pos h91]
    rw [V.n6, if_neg (nI_ge hj (by omega)), nI_clamp (by omega), nI_1, g5]
    rcases V.plc hj with p0 | ⟨p, hp, p0, -⟩
    · rw [p0, if_neg (fun z => z rfl), if_pos rfl]
      exact ih (j + 1) f _ (by omega) (by omega)
    · rw [p0, if_pos (pu_m1 (by omega)), if_neg (pu_m1 (by omega)), Mo_tierOf V.1 (by omega), Mo_rowOf V.1 (by omega), Mo_bay V.1 (by omega)]
      have e : (if ¬ x = 0 then (if ¬ x = 1 then (if ¬ x = 2 then some (1 : Int32) else Option.bind (some (nI (p % (H + D)))) fun v10 => some v10) else Option.bind (some (nI (p / (H + D) % R))) fun v12 => some (2 * v12 - (g 1 (Int32.toNatClampNeg 1) - 1))) else Option.bind (some (nI (p / (H + D) / R))) fun v15 => some (2 * v15 - (g 1 (Int32.toNatClampNeg 0) - 1))) = some (armS B R H D p x) := by
        unfold armS
        rw [show g 1 (Int32.toNatClampNeg 1) = nI R from V.1.1.2.1, show g 1 (Int32.toNatClampNeg 0) = nI B from V.1.1.1]
        by_cases x0 : x = 0
        · rw [ifn x0, if_pos x0]; rfl
        · rw [if_pos x0, if_neg x0]
          by_cases x1 : x = 1
          · rw [ifn x1, if_pos x1]; rfl
          · rw [if_pos x1, if_neg x1]
            by_cases x2 : x = 2
            · rw [ifn x2, if_pos x2]; rfl
            · rw [if_pos x2, if_neg x2]
      rw [e]
      simp only [Option.bind_some]
      obtain ⟨a1, a2⟩ := armS_b V.1 hp x
      rw [pu_m64 w99 _ a1 a2, nn, nI_clamp (by omega)]
      exact ih (j + 1) f _ (by omega) (by omega)
theorem lean_eq (V : VS hh hr hc g B R H D K n o) (x : Int32) (hN : 30 ≤ N) (hN' : 30 ≤ N') : F_Surv_moment N x hh hc = some (leanS g B R H D x 0 0 n) ∧ Option.bind (L_Mo_lean_28 N' N' x 0 0 g) (fun v20 => some v20) = some (leanS g B R H D x 0 0 n) := by
  have hn := V.nn
  have h1 := K_lean (N := N) V x n 0 N 0 (by omega) (by omega)
  have h2 := Mo_leanL (N := N') V x n 0 N' 0 (by omega) (by omega)
  rw [show nI 0 = 0 from rfl] at h1 h2
  unfold F_Surv_moment
  rw [h1, h2]
  exact ⟨rfl, rfl⟩
theorem sim_24 : Sim_24 Inv := by
  intro a1 k g I
  have h : ∃ v, F_K_lean 3000 a1 (k 0) (k 9) (k 11) = some v ∧ F_Mo_lean 3000 a1 g = some v := by
    unfold F_K_lean F_Mo_lean
    rw [show (3 : Int64) = (3 : Int32).toInt64 from rfl, pu_in0]
    rcases i_there I with ⟨B, R, H, D, K, n, o, J, h1, h2⟩ | ⟨J, h1, h2⟩
    · rw [h1, h2, if_neg pu_10, if_neg pu_10]
      obtain ⟨e1, e2⟩ := lean_eq (N := 3000) (N' := 3000) J.2.2.1 a1 (by omega) (by omega)
      rw [e1, e2]
      by_cases c : F_K_within a1 0 3 = 0
      · rw [if_pos c, ifn c]
        exact ⟨_, rfl, rfl⟩
      · rw [if_neg c, if_pos c]
        exact ⟨_, rfl, rfl⟩
    · rw [h1, h2]
      exact ⟨_, rfl, rfl⟩
  obtain ⟨v, h1, h2⟩ := h
  refine ⟨3000, 3000, v, k, g, ?_, ?_, I⟩
  · unfold KO_24; rw [h1]; rfl
  · unfold MO_24; rw [h2]; rfl
end ASK4
