/-! ===== pure: the scanner ===== -/
section SCAN
variable {k k' : KS} {g g' g2 gm gm' : HH} {hd ht ht' hu hh hr hc : HH} {B R H D K n o N N' t w s : Nat}
def ByR (ht g : HH) (s : Nat) : Prop := s ≤ 900 ∧ ht 0 1 = nI s ∧ g 0 15 = nI s ∧ ∀ i, i < s → ∃ c, c < 256 ∧ ht 1 i = nI c ∧ g 9 i &&& 255 = nI c ∧ (c < 128 → g 9 i = nI c)
theorem ByR.c (T : ByR ht g s) (h1 : ht' 1 = ht 1) (h0 : ht' 0 1 = ht 0 1) (g1 : g' 9 = g 9) (g0 : g' 0 15 = g 0 15) : ByR ht' g' s := by
  unfold ByR at *
  rw [h1, h0, g1, g0]; exact T
theorem see_in (T : ByR ht g s) {a : Nat} (ha : a < s) : ∃ c, c < 256 ∧ rd 900 (ht 1) (nI a) = nI c ∧ ht 1 a = nI c ∧ F_Mo_see N (nI a) g = some (nI c) := by
  obtain ⟨t1, t2, t3, t4⟩ := T
  obtain ⟨c, c1, c2, c3, c4⟩ := t4 a ha
  have ia : sv_in (nI a) 900 := pu_in (by omega) (by omega)
  refine ⟨c, c1, by rw [pu_rd _ (by omega) (by omega), c2], c2, ?_⟩
  unfold F_Mo_see
  rw [t3, if_neg (nI_ge ha (by omega)), if_pos ia, nI_clamp (by omega), c3]
theorem see_end (T : ByR ht g s) {a : Nat} (ha : s ≤ a) (ha' : a < 2 ^ 31) : F_Mo_see N (nI a) g = some (-1) := by
  unfold F_Mo_see
  rw [T.2.2.1, if_pos (nI_le ha ha')]
theorem blank_eq {c : Nat} (hc : c < 256) : F_Tape_isBlank (nI c) = if c = 32 ∨ c = 10 then 1 else 0 := by
  unfold F_Tape_isBlank
  have e1 : nI c = (32 : Int32) ↔ c = 32 := nI_eq (b := 32) (by omega) (by omega)
  have e2 : nI c = (10 : Int32) ↔ c = 10 := nI_eq (b := 10) (by omega) (by omega)
  by_cases c1 : c = 32
  · rw [if_pos (e1.mpr c1), if_pos (Or.inl c1)]
  · rw [if_neg (mt e1.mp c1)]
    by_cases c2 : c = 10
    · rw [ifn (e2.mpr c2), if_pos (Or.inr c2)]
    · rw [if_pos (mt e2.mp c2), if_neg (by omega)]
theorem letter_eq {c : Nat} (hc : c < 256) : F_Tape_isLetter (nI c) = (if 97 ≤ c ∧ c ≤ 122 then 1 else 0) ∧ F_Mo_in (nI c).toInt64 97 122 = if 97 ≤ c ∧ c ≤ 122 then 1 else 0 := by
  have e0 : F_Mo_in (nI c).toInt64 97 122 = F_K_within (nI c) 97 122 := pu_inw (nI c) 97 122
  rw [e0, pu_w]
  unfold F_Tape_isLetter
  have e1 : nI c < (97 : Int32) ↔ c < 97 := nI_ltI (b := 97) (by omega) (by omega)
  have e2 : (122 : Int32) < nI c ↔ 122 < c := nI_ltI (a := 122) (by omega) (by omega)
  have e3 : (97 : Int32) ≤ nI c ↔ 97 ≤ c := nI_leI (a := 97) (by omega) (by omega)
  have e4 : nI c ≤ (122 : Int32) ↔ c ≤ 122 := nI_leI (b := 122) (by omega) (by omega)
  by_cases c1 : 97 ≤ c ∧ c ≤ 122
  · rw [if_neg (mt e1.mp (by omega)), if_neg (mt e2.mp (by omega)), if_pos c1, if_pos ⟨e3.mpr c1.1, e4.mpr c1.2⟩]; exact ⟨rfl, rfl⟩
  · rw [if_neg c1, if_neg (show ¬ ((97 : Int32) ≤ nI c ∧ nI c ≤ 122) from fun z => c1 ⟨e3.mp z.1, e4.mp z.2⟩)]
    refine ⟨?_, rfl⟩
    by_cases c2 : c < 97
    · rw [if_pos (e1.mpr c2)]
    · rw [if_neg (mt e1.mp c2), if_pos (e2.mpr (by omega))]
theorem digit_eq {c : Nat} (hc : c < 256) : F_Tape_isDigit (nI c) = (if 48 ≤ c ∧ c ≤ 57 then 1 else 0) ∧ F_Mo_in (nI c).toInt64 48 57 = if 48 ≤ c ∧ c ≤ 57 then 1 else 0 := by
  have e0 : F_Mo_in (nI c).toInt64 48 57 = F_K_within (nI c) 48 57 := pu_inw (nI c) 48 57
  rw [e0, pu_w]
  unfold F_Tape_isDigit
  have e1 : nI c < (48 : Int32) ↔ c < 48 := nI_ltI (b := 48) (by omega) (by omega)
  have e2 : (57 : Int32) < nI c ↔ 57 < c := nI_ltI (a := 57) (by omega) (by omega)
  have e3 : (48 : Int32) ≤ nI c ↔ 48 ≤ c := nI_leI (a := 48) (by omega) (by omega)
  have e4 : nI c ≤ (57 : Int32) ↔ c ≤ 57 := nI_leI (b := 57) (by omega) (by omega)
  by_cases c1 : 48 ≤ c ∧ c ≤ 57
  · rw [if_neg (mt e1.mp (by omega)), if_neg (mt e2.mp (by omega)), if_pos c1, if_pos ⟨e3.mpr c1.1, e4.mpr c1.2⟩]; exact ⟨rfl, rfl⟩
  · rw [if_neg c1, if_neg (show ¬ ((48 : Int32) ≤ nI c ∧ nI c ≤ 57) from fun z => c1 ⟨e3.mp z.1, e4.mp z.2⟩)]
    refine ⟨?_, rfl⟩
    by_cases c2 : c < 48
    · rw [if_pos (e1.mpr c2)]
    · rw [if_neg (mt e1.mp c2), if_pos (e2.mpr (by omega))]
theorem in_m1 (a b : Nat) (ha : a < 2 ^ 30) (hb : b < 2 ^ 30) : F_K_within (-1) (nI a) (nI b) = 0 := by
  rw [pu_w, if_neg]
  rintro ⟨z, -⟩
  exact absurd (Int32.le_trans (nI_pos' (by omega)) z) (by decide)
/-- blanks are passed -/
theorem adv_0 : ∀ (m a f f' : Nat) (ht g : HH), ByR ht g s → a + m = s → ht 0 3 = nI a → g 0 16 = nI a → m < f → m < f' → ∃ a' ht' g', a ≤ a' ∧ a' ≤ s ∧ L_Tape_advance_8 N f ht = some ht' ∧ L_Mo_advance_0 N' f' g = some g' ∧ ht' 0 3 = nI a' ∧ g' 0 16 = nI a' ∧ (∀ r, r ≠ 0 → ht' r = ht r) ∧ (∀ j, j ≠ 3 → ht' 0 j = ht 0 j) ∧ (∀ r, r ≠ 0 → g' r = g r) ∧ ∀ j, j ≠ 16 → g' 0 j = g 0 j := by
  intro m
  induction m with
  | zero =>
    intro a f f' ht g T h1 h3 h16 h2 h2'
    obtain ⟨f, rfl⟩ : ∃ z, f = z + 1 := ⟨f - 1, by omega⟩
    obtain ⟨f', rfl⟩ : ∃ z, f' = z + 1 := ⟨f' - 1, by omega⟩
    have hs := T.1
    have : a = s := by omega
    refine ⟨a, ht, g, Nat.le_refl _, by omega, ?_, ?_, h3, h16, fun _ _ => rfl, fun _ _ => rfl, fun _ _ => rfl, fun _ _ => rfl⟩
    · rw [L_Tape_advance_8, T.2.1, h3, if_pos (nI_le (by omega) (by omega))]
    · rw [L_Mo_advance_0, h16, see_end T (by omega) (by omega), bind_sn, bind_sn, if_neg (by decide), if_pos (by decide)]
  | succ m ih =>
    intro a f f' ht g T h1 h3 h16 h2 h2'
    obtain ⟨f, rfl⟩ : ∃ z, f = z + 1 := ⟨f - 1, by omega⟩
    obtain ⟨f', rfl⟩ : ∃ z, f' = z + 1 := ⟨f' - 1, by omega⟩
    have hs := T.1
    obtain ⟨c, c1, c2, c3, c4⟩ := see_in (N := N') T (a := a) (by omega)
    have e1 : nI c = (32 : Int32) ↔ c = 32 := nI_eq (b := 32) (by omega) (by omega)
    have e2 : nI c = (10 : Int32) ↔ c = 10 := nI_eq (b := 10) (by omega) (by omega)
    rw [L_Tape_advance_8, L_Mo_advance_0, T.2.1, h3, h16, if_neg (nI_ge (by omega) (by omega)), c2, c4, bind_sn, bind_sn, blank_eq c1, nI_1, pu_letn, pu_letn]
    by_cases cb : c = 32 ∨ c = 10
    · rw [if_pos cb, if_neg pu_10]
      have q : (if nI c = 32 then L_Mo_advance_0 N' f' (ss g 16 (nI (a + 1))) else if ¬ nI c = 10 then some g else L_Mo_advance_0 N' f' (ss g 16 (nI (a + 1)))) = L_Mo_advance_0 N' f' (ss g 16 (nI (a + 1))) := by
        by_cases z : c = 32
        · rw [if_pos (e1.mpr z)]
        · rw [if_neg (mt e1.mp z), ifn (e2.mpr (by omega))]
      rw [q]
      obtain ⟨a', ht', g', x1, x2, x3, x4, x5, x6, x7, x8, x9, x10⟩ := ih (a + 1) f f' (ss ht 3 (nI (a + 1))) (ss g 16 (nI (a + 1))) (T.c (by rw [pu_ssr, if_neg (by omega)]) (by rw [pu_ss, if_pos rfl, if_neg (by omega)]) (by rw [pu_ssr, if_neg (by omega)]) (by rw [pu_ss, if_pos rfl, if_neg (by omega)])) (by omega) (by rw [pu_ss, if_pos rfl, if_pos rfl]) (by rw [pu_ss, if_pos rfl, if_pos rfl]) (by omega) (by omega)
      refine ⟨a', ht', g', by omega, x2, x3, x4, x5, x6, fun r h => by rw [x7 r h, pu_ssr, if_neg h], fun j h => by rw [x8 j h, pu_ss, if_pos rfl, if_neg h], fun r h => by rw [x9 r h, pu_ssr, if_neg h], fun j h => by rw [x10 j h, pu_ss, if_pos rfl, if_neg h]⟩
    · rw [if_neg cb, if_pos rfl, if_neg (mt e1.mp (by omega)), if_pos (mt e2.mp (by omega))]
      exact ⟨a, ht, g, Nat.le_refl _, by omega, rfl, rfl, h3, h16, fun _ _ => rfl, fun _ _ => rfl, fun _ _ => rfl, fun _ _ => rfl⟩
/-- a word's letters -/
theorem adv_w : ∀ (m b f f' : Nat) (ht g : HH), ByR ht g s → b + m = s → ht 0 5 = nI b → g 0 16 = nI b → m < f → m < f' → ∃ b' ht' g', b ≤ b' ∧ b' ≤ s ∧ L_Tape_scanWord_5 N f ht = some ht' ∧ L_Mo_advance_83 N' f' g = some g' ∧ ht' 0 5 = nI b' ∧ g' 0 16 = nI b' ∧ (∀ r, r ≠ 0 → ht' r = ht r) ∧ (∀ j, j ≠ 5 → ht' 0 j = ht 0 j) ∧ (∀ r, r ≠ 0 → g' r = g r) ∧ (∀ j, j ≠ 16 → g' 0 j = g 0 j) ∧ (∀ i, b ≤ i → i < b' → ∃ c, 97 ≤ c ∧ c ≤ 122 ∧ ht 1 i = nI c ∧ g 9 i = nI c) ∧ (∀ c, b < s → ht 1 b = nI c → 97 ≤ c → c ≤ 122 → b < b') := by
  intro m
  induction m with
  | zero =>
    intro b f f' ht g T h1 h3 h16 h2 h2'
    obtain ⟨f, rfl⟩ : ∃ z, f = z + 1 := ⟨f - 1, by omega⟩
    obtain ⟨f', rfl⟩ : ∃ z, f' = z + 1 := ⟨f' - 1, by omega⟩
    have hs := T.1
    refine ⟨b, ht, g, Nat.le_refl _, by omega, ?_, ?_, h3, h16, fun _ _ => rfl, fun _ _ => rfl, fun _ _ => rfl, fun _ _ => rfl, fun i _ _ => by omega, fun c z => by omega⟩
    · rw [L_Tape_scanWord_5, T.2.1, h3, if_pos (nI_le (by omega) (by omega))]
    · have e0 : F_Mo_in (-1 : Int32).toInt64 97 122 = F_K_within (-1) 97 122 := pu_inw (-1) 97 122
      rw [L_Mo_advance_83, h16, see_end T (by omega) (by omega), bind_sn, e0, if_pos (show F_K_within (-1) 97 122 = 0 from in_m1 97 122 (by omega) (by omega))]
  | succ m ih =>
    intro b f f' ht g T h1 h3 h16 h2 h2'
    obtain ⟨f, rfl⟩ : ∃ z, f = z + 1 := ⟨f - 1, by omega⟩
    obtain ⟨f', rfl⟩ : ∃ z, f' = z + 1 := ⟨f' - 1, by omega⟩
    have hs := T.1
    obtain ⟨c, c1, c2, c3, c4⟩ := see_in (N := N') T (a := b) (by omega)
    have c9 : ∃ d, d < 256 ∧ ht 1 b = nI d ∧ (d < 128 → g 9 b = nI d) := by
      obtain ⟨d, d1, d2, d3, d4⟩ := T.2.2.2 b (by omega)
      exact ⟨d, d1, d2, d4⟩
    obtain ⟨d, d1, d2, d3⟩ := c9
    have dc : d = c := (nI_eq (by omega) (by omega)).mp (by rw [← d2, c3])
    subst dc
    obtain ⟨l1, l2⟩ := letter_eq c1
    rw [L_Tape_scanWord_5, L_Mo_advance_83, T.2.1, h3, h16, if_neg (nI_ge (by omega) (by omega)), c2, c4, bind_sn, l1, l2, nI_1, pu_letn, pu_letn]
    by_cases cb : 97 ≤ d ∧ d ≤ 122
    · rw [if_pos cb, if_neg pu_10, if_neg pu_10]
      obtain ⟨a', ht', g', x1, x2, x3, x4, x5, x6, x7, x8, x9, x10, x11, x12⟩ := ih (b + 1) f f' (ss ht 5 (nI (b + 1))) (ss g 16 (nI (b + 1))) (T.c (by rw [pu_ssr, if_neg (by omega)]) (by rw [pu_ss, if_pos rfl, if_neg (by omega)]) (by rw [pu_ssr, if_neg (by omega)]) (by rw [pu_ss, if_pos rfl, if_neg (by omega)])) (by omega) (by rw [pu_ss, if_pos rfl, if_pos rfl]) (by rw [pu_ss, if_pos rfl, if_pos rfl]) (by omega) (by omega)
      refine ⟨a', ht', g', by omega, x2, x3, x4, x5, x6, fun r h => by rw [x7 r h, pu_ssr, if_neg h], fun j h => by rw [x8 j h, pu_ss, if_pos rfl, if_neg h], fun r h => by rw [x9 r h, pu_ssr, if_neg h], fun j h => by rw [x10 j h, pu_ss, if_pos rfl, if_neg h], ?_, fun _ _ _ _ _ => by omega⟩
      intro i i1 i2
      by_cases ci : i = b
      · subst ci; exact ⟨d, cb.1, cb.2, d2, d3 (by omega)⟩
      · obtain ⟨e, e1, e2, e3, e4⟩ := x11 i (by omega) i2
        rw [pu_ssr, if_neg (by omega)] at e3 e4
        exact ⟨e, e1, e2, e3, e4⟩
    · rw [if_neg cb, if_pos rfl, if_pos rfl]
      refine ⟨b, ht, g, Nat.le_refl _, by omega, rfl, rfl, h3, h16, fun _ _ => rfl, fun _ _ => rfl, fun _ _ => rfl, fun _ _ => rfl, fun i _ _ => by omega, ?_⟩
      intro e _ e1 e2 e3
      have : d = e := (nI_eq (a := d) (b := e) (by omega) (by omega)).mp (by rw [← d2, e1])
      subst this
      exact absurd ⟨e2, e3⟩ cb
/-- a number as both have it -/
def NumR (x y : Int32) : Prop := ∃ v, (v < 100000 ∧ x = nI v ∧ y = nI v) ∨ (x = nI 100000 ∧ y = nI v ∧ 100000 ≤ v ∧ v ≤ 999999)
theorem num_step {x y : Int32} (h : NumR x y) {c : Nat} (h1 : 48 ≤ c) (h2 : c ≤ 57) : NumR (if ((x * 10) + nI c) - 48 < 100000 then ((x * 10) + nI c) - 48 else 100000) (if ((10 * y) + nI c) - 48 < 999999 then ((10 * y) + nI c) - 48 else 999999) := by
  have ex : ∀ v, ((nI v * 10) + nI c) - 48 = nI (v * 10 + (c - 48)) := by
    intro v
    rw [show (10 : Int32) = nI 10 from rfl, show nI v * nI 10 = nI (v * 10) from (Int32.ofNat_mul v 10).symm, nI_add, show (48 : Int32) = nI 48 from rfl, pk_sub (by omega)]
    congr 1; omega
  have ey : ∀ v, ((10 * nI v) + nI c) - 48 = nI (v * 10 + (c - 48)) := by
    intro v
    rw [show (10 : Int32) = nI 10 from rfl, show nI 10 * nI v = nI (10 * v) from (Int32.ofNat_mul 10 v).symm, nI_add, show (48 : Int32) = nI 48 from rfl, pk_sub (by omega)]
    congr 1; omega
  have l1 : ∀ v, v < 20000000 → (nI v < (100000 : Int32) ↔ v < 100000) := fun v hv => nI_ltI (b := 100000) (by omega) (by omega)
  have l2 : ∀ v, v < 20000000 → (nI v < (999999 : Int32) ↔ v < 999999) := fun v hv => nI_ltI (b := 999999) (by omega) (by omega)
  obtain ⟨v, ⟨v1, rfl, rfl⟩ | ⟨rfl, rfl, v1, v2⟩⟩ := h
  · rw [ex, ey]
    by_cases q : v * 10 + (c - 48) < 100000
    · rw [if_pos ((l1 _ (by omega)).mpr q), if_pos ((l2 _ (by omega)).mpr (by omega))]
      exact ⟨_, Or.inl ⟨q, rfl, rfl⟩⟩
    · rw [if_neg (mt (l1 _ (by omega)).mp q)]
      by_cases q2 : v * 10 + (c - 48) < 999999
      · rw [if_pos ((l2 _ (by omega)).mpr q2)]
        exact ⟨_, Or.inr ⟨rfl, rfl, by omega, by omega⟩⟩
      · rw [if_neg (mt (l2 _ (by omega)).mp q2)]
        exact ⟨999999, Or.inr ⟨rfl, rfl, by omega, by omega⟩⟩
  · rw [ex, ey, if_neg (mt (l1 _ (by omega)).mp (by omega)), if_neg (mt (l2 _ (by omega)).mp (by omega))]
    exact ⟨999999, Or.inr ⟨rfl, rfl, by omega, by omega⟩⟩
theorem num_in {x y : Int32} (h : NumR x y) (a : Int32) {b : Nat} (hb : b ≤ 999) : F_K_within x a (nI b) = F_K_within y a (nI b) ∧ (F_K_within x a (nI b) ≠ 0 → x = y) := by
  obtain ⟨v, ⟨v1, rfl, rfl⟩ | ⟨rfl, rfl, v1, v2⟩⟩ := h
  · exact ⟨rfl, fun _ => rfl⟩
  · rw [pu_w, pu_w, if_neg (fun z => nI_ge (a := b) (b := 100000) (by omega) (by omega) z.2), if_neg (fun z => nI_ge (a := b) (b := v) (by omega) (by omega) z.2)]
    exact ⟨rfl, fun z => absurd rfl z⟩
/-- a number's digits -/
theorem adv_n : ∀ (m b f f' : Nat) (ht g : HH), ByR ht g s → b + m = s → ht 0 5 = nI b → g 0 16 = nI b → NumR (ht 0 4) (g 0 19) → m < f → m < f' → ∃ b' ht' g', b ≤ b' ∧ b' ≤ s ∧ L_Tape_scanNumber_10 N f ht = some ht' ∧ L_Mo_advance_144 N' f' g = some g' ∧ ht' 0 5 = nI b' ∧ g' 0 16 = nI b' ∧ NumR (ht' 0 4) (g' 0 19) ∧ (∀ r, r ≠ 0 → ht' r = ht r) ∧ (∀ j, j ≠ 4 → j ≠ 5 → ht' 0 j = ht 0 j) ∧ (∀ r, r ≠ 0 → g' r = g r) ∧ (∀ j, j ≠ 16 → j ≠ 19 → g' 0 j = g 0 j) ∧ (∀ c, b < s → ht 1 b = nI c → 48 ≤ c → c ≤ 57 → b < b') := by
  intro m
  induction m with
  | zero =>
    intro b f f' ht g T h1 h3 h16 hN h2 h2'
    obtain ⟨f, rfl⟩ : ∃ z, f = z + 1 := ⟨f - 1, by omega⟩
    obtain ⟨f', rfl⟩ : ∃ z, f' = z + 1 := ⟨f' - 1, by omega⟩
    have hs := T.1
    refine ⟨b, ht, g, Nat.le_refl _, by omega, ?_, ?_, h3, h16, hN, fun _ _ => rfl, fun _ _ _ => rfl, fun _ _ => rfl, fun _ _ _ => rfl, fun c z => by omega⟩
    · rw [L_Tape_scanNumber_10, T.2.1, h3, if_pos (nI_le (by omega) (by omega))]
    · have e0 : F_Mo_in (-1 : Int32).toInt64 48 57 = F_K_within (-1) 48 57 := pu_inw (-1) 48 57
      rw [L_Mo_advance_144, h16, see_end T (by omega) (by omega), bind_sn, e0, if_pos (show F_K_within (-1) 48 57 = 0 from in_m1 48 57 (by omega) (by omega))]
  | succ m ih =>
    intro b f f' ht g T h1 h3 h16 hN h2 h2'
    obtain ⟨f, rfl⟩ : ∃ z, f = z + 1 := ⟨f - 1, by omega⟩
    obtain ⟨f', rfl⟩ : ∃ z, f' = z + 1 := ⟨f' - 1, by omega⟩
    have hs := T.1
    obtain ⟨c, c1, c2, c3, c4⟩ := see_in (N := N') T (a := b) (by omega)
    obtain ⟨l1, l2⟩ := digit_eq c1
    rw [L_Tape_scanNumber_10, L_Mo_advance_144, T.2.1, h3, h16, if_neg (nI_ge (by omega) (by omega)), c2, c4, bind_sn, bind_sn, l1, l2]
    by_cases cb : 48 ≤ c ∧ c ≤ 57
    · rw [if_pos cb, if_neg pu_10, if_neg pu_10]
      obtain ⟨h6, eh⟩ : ∃ h6, h6 = ss (ss ht 4 (if ht 0 4 * 10 + nI c - 48 < 100000 then ht 0 4 * 10 + nI c - 48 else 100000)) 5 (nI (b + 1)) := ⟨_, rfl⟩
      obtain ⟨g6, eg⟩ : ∃ g6, g6 = ss (ss g 19 (if 10 * g 0 19 + nI c - 48 < 999999 then 10 * g 0 19 + nI c - 48 else 999999)) 16 (nI (b + 1)) := ⟨_, rfl⟩
      have u1 : ∀ r, r ≠ 0 → h6 r = ht r := fun r h => by rw [eh, pu_ssr, if_neg h, pu_ssr, if_neg h]
      have u2 : ∀ j, j ≠ 4 → j ≠ 5 → h6 0 j = ht 0 j := fun j h4 h5 => by rw [eh, pu_ss, if_pos rfl, if_neg h5, pu_ss, if_pos rfl, if_neg h4]
      have u3 : ∀ r, r ≠ 0 → g6 r = g r := fun r h => by rw [eg, pu_ssr, if_neg h, pu_ssr, if_neg h]
      have u4 : ∀ j, j ≠ 16 → j ≠ 19 → g6 0 j = g 0 j := fun j h4 h5 => by rw [eg, pu_ss, if_pos rfl, if_neg h4, pu_ss, if_pos rfl, if_neg h5]
      obtain ⟨b', ht', g', x1, x2, x3, x4, x5, x6, x7, x8, x9, x10, x11, x12⟩ := ih (b + 1) f f' h6 g6 (T.c (u1 1 (by omega)) (u2 1 (by omega) (by omega)) (u3 9 (by omega)) (u4 15 (by omega) (by omega))) (by omega) (by rw [eh, pu_ss, if_pos rfl, if_pos rfl]) (by rw [eg, pu_ss, if_pos rfl, if_pos rfl]) (by
        have z1 : h6 0 4 = (if ht 0 4 * 10 + nI c - 48 < 100000 then ht 0 4 * 10 + nI c - 48 else 100000) := by
          rw [eh, pu_ss, if_pos rfl, if_neg (show ¬ (4 : Nat) = 5 by omega), pu_ss, if_pos rfl, if_pos rfl]
        have z2 : g6 0 19 = (if 10 * g 0 19 + nI c - 48 < 999999 then 10 * g 0 19 + nI c - 48 else 999999) := by
          rw [eg, pu_ss, if_pos rfl, if_neg (show ¬ (19 : Nat) = 16 by omega), pu_ss, if_pos rfl, if_pos rfl]
        rw [z1, z2]
        exact num_step hN cb.1 cb.2) (by omega) (by omega)
      refine ⟨b', ht', g', by omega, x2, ?_, ?_, x5, x6, x7, fun r h => by rw [x8 r h, u1 r h], fun j h h' => by rw [x9 j h h', u2 j h h'], fun r h => by rw [x10 r h, u3 r h], fun j h h' => by rw [x11 j h h', u4 j h h'], fun _ _ _ _ _ => by omega⟩
      · rw [pu_letn, pu_letn, show ss ht 4 (if ht 0 4 * 10 + nI c - 48 < 100000 then ht 0 4 * 10 + nI c - 48 else 100000) 0 5 = nI b by rw [pu_ss, if_pos rfl, if_neg (by omega)]; exact h3, nI_1, ← eh]
        exact x3
      · rw [pu_letn, pu_letn, show ss g 19 (if 10 * g 0 19 + nI c - 48 < 999999 then 10 * g 0 19 + nI c - 48 else 999999) 0 16 = nI b by rw [pu_ss, if_pos rfl, if_neg (by omega)]; exact h16, nI_1, ← eg]
        exact x4
    · rw [if_neg cb, if_pos rfl, if_pos rfl]
      refine ⟨b, ht, g, Nat.le_refl _, by omega, rfl, rfl, h3, h16, hN, fun _ _ => rfl, fun _ _ _ => rfl, fun _ _ => rfl, fun _ _ _ => rfl, ?_⟩
      intro e _ e1 e2 e3
      have : c = e := (nI_eq (a := c) (b := e) (by omega) (by omega)).mp (by rw [← c3, e1])
      subst this
      exact absurd ⟨e2, e3⟩ cb
end SCAN
