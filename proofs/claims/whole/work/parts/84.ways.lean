/-! ===== pure: the ways of the kinds ===== -/
section WAYS
variable {k k' : KS} {g g' g2 gm gm' : HH} {hu hy hv hh hr hr' hc hc2 hp hl hl' : HH} {B R H D K n o N N' t w lim a0 S : Nat} {c c' : Nat → Nat}
theorem VS.r7 (V : VS hh hr hc g B R H D K n o) (h : ∀ r, r ≠ 7 → hr' r = hr r) : VS hh hr' hc g B R H D K n o := by
  refine ⟨V.1, V.2.1, V.2.2.1, ?_, V.2.2.2.2.1, V.2.2.2.2.2⟩
  have := V.2.2.2.1
  unfold RRel at *
  rw [h 0 (by omega), h 1 (by omega), h 2 (by omega), h 3 (by omega), h 4 (by omega), h 5 (by omega), h 6 (by omega)]
  exact this
theorem Inv_r7 (I : Inv k g) (h7 : ∀ r, r ≠ 7 → hr' r = k 10 r) (h : ∀ r, r ≠ 17 → r ≠ 18 → r ≠ 19 → r ≠ 20 → r ≠ 21 → g' r = g r) : Inv (ku k 10 hr') g' := by
  have h0 := h 0 (by omega) (by omega) (by omega) (by omega) (by omega)
  have h1 : ∀ r, r < 17 → g' r = g r := fun r hr => h r (by omega) (by omega) (by omega) (by omega) (by omega)
  have h22 := h 22 (by omega) (by omega) (by omega) (by omega) (by omega)
  refine ⟨InvB_c I.1 rfl rfl rfl (by rw [h0]) (by rw [h0]) (by rw [h0]) (by rw [h0]) (h1 9 (by omega)) h22, ?_⟩
  rcases I.2 with J | ⟨B, R, H, D, K, n, o, J⟩
  · left
    unfold InvN at *
    simp only [pu_ku]
    rw [h0, h1 1 (by omega)]
    exact J
  · right
    refine ⟨B, R, H, D, K, n, o, ?_⟩
    have hn := J.2.2.1.nn
    refine ⟨?_, ?_, ?_, ?_, ?_, ?_, ?_, ?_⟩
    · simp only [pu_ku]; exact J.1
    · rw [h0]; exact J.2.1
    · simp only [pu_ku]
      exact (J.2.2.1.r7 h7).cg (h1 1 (by omega)) (by rw [h0]) (h1 4 (by omega)) (h1 5 (by omega)) (h1 6 (by omega)) (h1 7 (by omega)) (h1 8 (by omega))
    · rw [h0]; exact J.2.2.2.1
    · unfold NoH; rw [h1 8 (by omega)]; exact J.2.2.2.2.1
    · simp only [pu_ku]
      exact HiR_c hn J.2.2.2.2.2.1 (Nat.le_refl _) (by rw [h0]) (h1 10 (by omega)) (h1 1 (by omega)) (fun b _ => by rw [h1 4 (by omega), h1 5 (by omega), h1 6 (by omega)]; exact ⟨rfl, rfl, rfl⟩)
    · simp only [pu_ku]
      exact ToR_c J.2.2.2.2.2.2.1 (by rw [h0]) (h1 14 (by omega)) (h1 15 (by omega))
    · simp only [pu_ku]
      exact ShR_c J.2.2.2.2.2.2.2 (by rw [h0]) (h1 16 (by omega))
def lvl (g : HH) (a b : Nat) : Int32 := g 1 (41 + 7 * a + b)
def okJ (g : HH) (c : Nat → Nat) (k b j : Nat) : Bool := decide (lvl g k j = 0) || decide (g 1 (14 + 4 * nn (lvl g k j) + 1) ≤ nI (adist b (c j)))
def allN (f : Nat → Bool) : Nat → Nat → Bool
  | _, 0 => true
  | j, m + 1 => f j && allN f (j + 1) m
def fitB (g : HH) (c : Nat → Nat) (k b : Nat) : Bool := allN (okJ g c k b) 0 k
def updN (c : Nat → Nat) (k b : Nat) : Nat → Nat := fun j => if j = k then b else c j
def Wc (g : HH) (K S : Nat) : Nat → (Nat → Nat) → Nat
  | 0, _ => 1
  | q + 1, c => sumN (fun b => if fitB g c (K - (q + 1)) b = true then Wc g K S q (updN c (K - (q + 1)) b) else 0) S
def parB (g : HH) (K k j : Nat) : Prop := ∃ k', k ≤ k' ∧ k' < K ∧ lvl g j k' ≠ 0
theorem allN_c {f f' : Nat → Bool} : ∀ (m j : Nat), (∀ i, j ≤ i → i < j + m → f' i = f i) → allN f' j m = allN f j m
  | 0, _, _ => rfl
  | m + 1, j, h => by
    rw [allN, allN, h j (by omega) (by omega), allN_c m (j + 1) (fun i h1 h2 => h i (by omega) (by omega))]
theorem lvl_s (V : VS hh hr hc g B R H D K n o) {a b : Nat} (ha : a < K) (hb : b < K) : lvl g a b = lvl g b a := (V.2.2.2.1.2.2.2 a b (by have := V.kk; omega) (by have := V.kk; omega)).2.1
theorem fitB_c (V : VS hh hr hc g B R H D K n o) {k : Nat} (hk : k < K) (h : ∀ j, j < k → parB g K k j → c' j = c j) (b : Nat) : fitB g c' k b = fitB g c k b := by
  refine allN_c k 0 ?_
  intro i _ hi
  unfold okJ
  by_cases e : lvl g k i = 0
  · rw [decide_eq_true e, Bool.true_or, Bool.true_or]
  · rw [h i (by omega) ⟨k, Nat.le_refl _, hk, by rw [lvl_s V (by omega) hk]; exact e⟩]
theorem Wc_c (V : VS hh hr hc g B R H D K n o) : ∀ (q : Nat) (c c' : Nat → Nat), q ≤ K → (∀ j, j < K - q → parB g K (K - q) j → c' j = c j) → Wc g K S q c' = Wc g K S q c := by
  intro q
  induction q with
  | zero => intro c c' _ _; rfl
  | succ q ih =>
    intro c c' hq h
    show sumN _ S = sumN _ S
    refine sumN_congr S ?_
    intro b _
    rw [fitB_c V (by omega) h b]
    split
    · refine ih _ _ (by omega) ?_
      intro j hj hp
      unfold updN
      by_cases cj : j = K - (q + 1)
      · rw [if_pos cj, if_pos cj]
      · rw [if_neg cj, if_neg cj]
        obtain ⟨k', k1, k2, k3⟩ := hp
        exact h j (by omega) ⟨k', by omega, k2, k3⟩
    · rfl
theorem sumN_mul (F : Nat → Nat) (z : Nat) : ∀ m, sumN (fun i => F i * z) m = sumN F m * z
  | 0 => by show 0 = 0 * z; rw [Nat.zero_mul]
  | m + 1 => by
    show sumN (fun i => F i * z) m + F m * z = (sumN F m + F m) * z
    rw [sumN_mul F z m, Nat.add_mul]
/-- where none behind is a partner, the rest does not hang on the bay -/
theorem Wc_no (V : VS hh hr hc g B R H D K n o) {q : Nat} (hq : q + 1 ≤ K) (h : ¬ parB g K (K - q) (K - (q + 1))) (c : Nat → Nat) (b : Nat) : Wc g K S q (updN c (K - (q + 1)) b) = Wc g K S q c := by
  refine Wc_c V q _ _ (by omega) ?_
  intro j hj hp
  unfold updN
  by_cases cj : j = K - (q + 1)
  · rw [cj] at hp; exact absurd hp h
  · rw [if_neg cj]
theorem Wc_prod (V : VS hh hr hc g B R H D K n o) {q : Nat} (hq : q + 1 ≤ K) (h : ¬ parB g K (K - q) (K - (q + 1))) (c : Nat → Nat) : Wc g K S (q + 1) c = sumN (fun b => b1 (fitB g c (K - (q + 1)) b)) S * Wc g K S q c := by
  show sumN _ S = _
  rw [← sumN_mul]
  refine sumN_congr S ?_
  intro b _
  rw [Wc_no V hq h c b]
  by_cases e : fitB g c (K - (q + 1)) b = true
  · rw [if_pos e, e]; show _ = 1 * _; rw [Nat.one_mul]
  · rw [if_neg e]
    have : fitB g c (K - (q + 1)) b = false := by simpa using e
    rw [this]; show _ = 0 * _; rw [Nat.zero_mul]
/-- whether a kind may lie in a bay, the class -/
theorem fits_L (V : VS hh hr hc g B R H D K n o) {k b : Nat} (hk : k < K) (hb : b < 8) (hc8 : ∀ j, c j < 8) (h7 : ∀ j, j < k → lvl g k j ≠ 0 → hr 7 j = nI (c j)) : ∀ (m j f : Nat), j + m = k → m < f → sv_bs (L_Rules_fits_2 N f (nI k) (nI b) (nI j) hr) id (fun (v4 : Unit) => some (1 : Int32)) = some (bi (allN (okJ g c k b) j m)) := by
  intro m
  have hK := V.kk
  induction m with
  | zero =>
    intro j f h1 h2
    obtain ⟨f, rfl⟩ : ∃ z, f = z + 1 := ⟨f - 1, by omega⟩
    rw [L_Rules_fits_2, if_pos (nI_le (by omega) (by omega))]
    rfl
  | succ m ih =>
    intro j f h1 h2
    obtain ⟨f, rfl⟩ : ∃ z, f = z + 1 := ⟨f - 1, by omega⟩
    rw [L_Rules_fits_2, if_neg (nI_ge (by omega) (by omega)), K_level V hk (by omega), nI_1, allN]
    have e0 : g 1 (41 + 7 * k + j) = lvl g k j := rfl
    rw [e0]
    by_cases e : lvl g k j = 0
    · rw [if_pos e, ih (j + 1) f (by omega) (by omega)]
      have : okJ g c k b j = true := by unfold okJ; rw [decide_eq_true e, Bool.true_or]
      rw [this, Bool.true_and]
    · rw [if_neg e, pu_rd (hr 7) (by omega) (by omega), h7 j (by omega) e, pu_abs (by omega) (by have := hc8 j; omega)]
      rcases V.lv hk (b := j) (by omega) with z | ⟨l, l1, l2⟩
      · exact absurd z e
      have l2 : lvl g k j = nI l := l2
      have l4 := l1.2.1
      have hl := (V.2.2.2.1.2.1 l l1.1 l1.2.1).2.2 l1.2.2
      have ek : okJ g c k b j = decide (g 1 (14 + 4 * l + 1) ≤ nI (adist b (c j))) := by
        unfold okJ
        rw [decide_eq_false e, Bool.false_or, l2]
        show decide (g 1 (14 + 4 * (nI l).toNatClampNeg + 1) ≤ _) = _
        rw [nI_clamp (by omega)]
      rw [l2, pu_rd _ (by omega) (by omega), hl.1, ek]
      by_cases c2 : g 1 (14 + 4 * l + 1) ≤ nI (adist b (c j))
      · rw [if_pos c2, ih (j + 1) f (by omega) (by omega), decide_eq_true c2, Bool.true_and]
      · rw [if_neg c2, decide_eq_false c2, Bool.false_and]
        rfl
theorem fits_K (V : VS hh hr hc g B R H D K n o) {k b : Nat} (hk : k < K) (hb : b < 8) (hc8 : ∀ j, c j < 8) (h7 : ∀ j, j < k → lvl g k j ≠ 0 → hr 7 j = nI (c j)) (hN : 10 ≤ N) : F_Rules_fits N (nI k) (nI b) hr = some (bi (fitB g c k b)) := by
  have hK := V.kk
  exact fits_L V hk hb hc8 h7 k 0 N (by omega) (by omega)
/-- the same, the reference -/
theorem suits_L (V : VS hh hr hc g B R H D K n o) (h1g : gm 1 = g 1) {k b : Nat} (hk : k < K) (hb : b < 8) (hc8 : ∀ j, c j < 8) (h18 : ∀ j, j < k → gm 18 j = nI (c j)) : ∀ (m j f : Nat), j + m = k → m < f → sv_bs (L_Mo_suits_2 N f (nI k) (nI b) (nI j) gm) id (fun (v4 : Unit) => some (1 : Int32)) = some (bi (allN (okJ g c k b) j m)) := by
  intro m
  have hK := V.kk
  induction m with
  | zero =>
    intro j f h1 h2
    obtain ⟨f, rfl⟩ : ∃ z, f = z + 1 := ⟨f - 1, by omega⟩
    rw [L_Mo_suits_2, if_pos (nI_le (by omega) (by omega))]
    rfl
  | succ m ih =>
    intro j f h1 h2
    obtain ⟨f, rfl⟩ : ∃ z, f = z + 1 := ⟨f - 1, by omega⟩
    have ij : sv_in (nI j) 7 := pu_in (by omega) (by omega)
    rw [L_Mo_suits_2, if_neg (nI_ge (by omega) (by omega)), Mo_apart (by omega) (by omega), bind_sn, bind_sn, nI_1, allN, if_pos ij, nI_clamp (by omega), h18 j (by omega), pu_abs (by have := hc8 j; omega) (by omega), h1g]
    have e0 : g 1 (41 + 7 * j + k) = lvl g k j := lvl_s V (a := j) (b := k) (by omega) hk
    rw [e0]
    by_cases e : lvl g k j = 0
    · rw [if_pos e, ih (j + 1) f (by omega) (by omega)]
      have : okJ g c k b j = true := by unfold okJ; rw [decide_eq_true e, Bool.true_or]
      rw [this, Bool.true_and]
    · rw [if_neg e]
      rcases V.lv hk (b := j) (by omega) with z | ⟨l, l1, l2⟩
      · exact absurd z e
      have l2 : lvl g k j = nI l := l2
      have l4 := l1.2.1
      have ek : okJ g c k b j = decide (g 1 (14 + 4 * l + 1) ≤ nI (adist b (c j))) := by
        unfold okJ
        rw [decide_eq_false e, Bool.false_or, l2]
        show decide (g 1 (14 + 4 * (nI l).toNatClampNeg + 1) ≤ _) = _
        rw [nI_clamp (by omega)]
      have e14 : ((14 : Int32) + ((4 : Int32) * nI l)) + 1 = nI (14 + 4 * l + 1) := pu_14 l 1
      have i14 : sv_in (nI (14 + 4 * l + 1)) 90 := pu_in (by omega) (by omega)
      rw [l2, e14, if_pos i14, nI_clamp (by omega), ek, adist_comm (c j) b]
      by_cases c2 : g 1 (14 + 4 * l + 1) ≤ nI (adist b (c j))
      · rw [if_pos c2, ih (j + 1) f (by omega) (by omega), decide_eq_true c2, Bool.true_and]
      · rw [if_neg c2, decide_eq_false c2, Bool.false_and]
        rfl
theorem suits_M (V : VS hh hr hc g B R H D K n o) (h1g : gm 1 = g 1) {k b : Nat} (hk : k < K) (hb : b < 8) (hc8 : ∀ j, c j < 8) (h18 : ∀ j, j < k → gm 18 j = nI (c j)) (hN : 10 ≤ N) : F_Mo_suits N (nI k) (nI b) gm = some (bi (fitB g c k b)) := by
  have hK := V.kk
  exact suits_L V h1g hk hb hc8 h18 k 0 N (by omega) (by omega)
theorem part_L (V : VS hh hr hc g B R H D K n o) {k : Nat} (hk : k < K) : ∀ (m j f : Nat), j + m = K → m < f → (sv_bs (L_Rules_hasPartnerBehind_4 N f (nI k) (nI j) hr) id (fun (v4 : Unit) => some (0 : Int32)) = some 1 ∧ parB g K j k) ∨ (sv_bs (L_Rules_hasPartnerBehind_4 N f (nI k) (nI j) hr) id (fun (v4 : Unit) => some (0 : Int32)) = some 0 ∧ ¬ parB g K j k) := by
  intro m
  have hK := V.kk
  have h00 : hr 0 0 = nI K := V.2.2.2.1.1.1
  induction m with
  | zero =>
    intro j f h1 h2
    obtain ⟨f, rfl⟩ : ∃ z, f = z + 1 := ⟨f - 1, by omega⟩
    right
    rw [L_Rules_hasPartnerBehind_4, h00, if_pos (nI_le (by omega) (by omega))]
    exact ⟨rfl, fun ⟨k', k1, k2, _⟩ => by omega⟩
  | succ m ih =>
    intro j f h1 h2
    obtain ⟨f, rfl⟩ : ∃ z, f = z + 1 := ⟨f - 1, by omega⟩
    rw [L_Rules_hasPartnerBehind_4, h00, if_neg (nI_ge (by omega) (by omega)), K_level V hk (by omega), nI_1]
    by_cases e : lvl g k j = 0
    · rw [if_pos (show g 1 (41 + 7 * k + j) = 0 from e)]
      rcases ih (j + 1) f (by omega) (by omega) with ⟨a1, k', k1, k2, k3⟩ | ⟨a1, a2⟩
      · left
        exact ⟨a1, k', by omega, k2, k3⟩
      · right
        refine ⟨a1, ?_⟩
        rintro ⟨k', k1, k2, k3⟩
        by_cases ck : k' = j
        · subst ck; exact k3 e
        · exact a2 ⟨k', by omega, k2, k3⟩
    · left
      rw [if_neg (show ¬ g 1 (41 + 7 * k + j) = 0 from e)]
      exact ⟨rfl, j, Nat.le_refl _, by omega, e⟩
theorem part_K (V : VS hh hr hc g B R H D K n o) {k : Nat} (hk : k < K) (hN : 10 ≤ N) : (F_Rules_hasPartnerBehind N (nI k) hr = some 1 ∧ parB g K (k + 1) k) ∨ (F_Rules_hasPartnerBehind N (nI k) hr = some 0 ∧ ¬ parB g K (k + 1) k) := by
  have hK := V.kk
  unfold F_Rules_hasPartnerBehind
  rw [nI_1]
  exact part_L V hk (K - (k + 1)) (k + 1) N (by omega) (by omega)
end WAYS
