/-! ===== pure: who is near to whom ===== -/
def sumN (F : Nat → Nat) : Nat → Nat
  | 0 => 0
  | n + 1 => sumN F n + F n
/-- from j on, m of them -/
def sumT (F : Nat → Nat) (j : Nat) : Nat → Nat
  | 0 => 0
  | m + 1 => F j + sumT F (j + 1) m
theorem sumT_end (F : Nat → Nat) : ∀ (m j : Nat), sumT F j (m + 1) = sumT F j m + F (j + m)
  | 0, j => by simp [sumT]
  | m + 1, j => by
    show F j + sumT F (j + 1) (m + 1) = F j + sumT F (j + 1) m + F (j + (m + 1))
    rw [sumT_end F m (j + 1), show j + 1 + m = j + (m + 1) by omega]
    omega
theorem sumT_N (F : Nat → Nat) (j : Nat) : ∀ m, sumN F (j + m) = sumN F j + sumT F j m
  | 0 => by simp [sumT]
  | m + 1 => by
    show sumN F (j + m) + F (j + m) = _
    rw [sumT_N F j m, sumT_end]
    omega
theorem sumN_congr {F G : Nat → Nat} : ∀ n, (∀ i, i < n → F i = G i) → sumN F n = sumN G n
  | 0, _ => rfl
  | n + 1, h => by
    show sumN F n + F n = sumN G n + G n
    rw [sumN_congr n (fun i hi => h i (by omega)), h n (by omega)]
theorem sumN_add (F G : Nat → Nat) : ∀ n, sumN (fun i => F i + G i) n = sumN F n + sumN G n
  | 0 => rfl
  | n + 1 => by
    show sumN (fun i => F i + G i) n + (F n + G n) = sumN F n + F n + (sumN G n + G n)
    rw [sumN_add F G n]
    omega
theorem sumN_0 : ∀ n, sumN (fun _ => 0) n = 0
  | 0 => rfl
  | n + 1 => sumN_0 n
theorem sumN_swap (G : Nat → Nat → Nat) (m : Nat) : ∀ n, sumN (fun a => sumN (fun b => G a b) m) n = sumN (fun b => sumN (fun a => G a b) n) m
  | 0 => (sumN_0 m).symm
  | n + 1 => by
    show sumN (fun a => sumN (fun b => G a b) m) n + sumN (fun b => G n b) m = _
    rw [sumN_swap G m n, ← sumN_add]
    rfl
theorem sumN_le (F : Nat → Nat) (c : Nat) : ∀ n, (∀ i, i < n → F i ≤ c) → sumN F n ≤ n * c
  | 0, _ => Nat.zero_le _
  | n + 1, h => by
    have := sumN_le F c n (fun i hi => h i (by omega))
    have := h n (by omega)
    show sumN F n + F n ≤ (n + 1) * c
    rw [Nat.succ_mul]
    omega
abbrev b1 (b : Bool) : Nat := if b = true then 1 else 0
/-- pairs, each once -/
def pairs (f : Nat → Nat → Bool) (n : Nat) : Nat := sumN (fun a => sumN (fun b => b1 (decide (a < b) && f a b)) n) n
theorem pairs_2 (f : Nat → Nat → Bool) (n : Nat) (hs : ∀ a b, a < n → b < n → f a b = f b a) : sumN (fun a => sumN (fun b => b1 (decide (b ≠ a) && f a b)) n) n = 2 * pairs f n := by
  have e1 : sumN (fun a => sumN (fun b => b1 (decide (b ≠ a) && f a b)) n) n = sumN (fun a => sumN (fun b => b1 (decide (a < b) && f a b)) n + sumN (fun b => b1 (decide (b < a) && f a b)) n) n := by
    apply sumN_congr
    intro a _
    rw [← sumN_add]
    apply sumN_congr
    intro b _
    rcases Nat.lt_trichotomy a b with h | h | h
    · have h1 : b ≠ a := by omega
      have h2 : ¬ b < a := by omega
      simp [h, h1, h2]
    · subst h; simp
    · have h1 : b ≠ a := by omega
      have h2 : ¬ a < b := by omega
      simp [h, h1, h2]
  have e2 : sumN (fun a => sumN (fun b => b1 (decide (b < a) && f a b)) n) n = pairs f n := by
    rw [sumN_swap]
    unfold pairs
    apply sumN_congr
    intro a ha
    apply sumN_congr
    intro b hb
    rw [hs a b ha hb]
  rw [e1, sumN_add, e2]
  unfold pairs
  omega
theorem pairs_row (f : Nat → Nat → Bool) (n a : Nat) (ha : a < n) : sumN (fun b => b1 (decide (a < b) && f a b)) n = sumT (fun b => b1 (f a b)) (a + 1) (n - (a + 1)) := by
  have e := sumT_N (fun b => b1 (decide (a < b) && f a b)) (a + 1) (n - (a + 1))
  rw [show a + 1 + (n - (a + 1)) = n by omega] at e
  rw [e]
  have z : sumN (fun b => b1 (decide (a < b) && f a b)) (a + 1) = 0 := by
    rw [sumN_congr (G := fun _ => 0) (a + 1) (fun i hi => by have : ¬ a < i := by omega
                                                             simp [this]), sumN_0]
  rw [z, Nat.zero_add]
  have : ∀ m j, a < j → sumT (fun b => b1 (decide (a < b) && f a b)) j m = sumT (fun b => b1 (f a b)) j m := by
    intro m
    induction m with
    | zero => intro j _; rfl
    | succ m ih =>
      intro j hj
      show b1 (decide (a < j) && f a j) + _ = b1 (f a j) + _
      rw [ih (j + 1) (by omega)]
      simp [hj]
  exact this _ _ (by omega)
def nearBB (g : HH) (o R H D a b : Nat) : Bool := decide (g 7 a ≠ -1) && nearK g o R H D (nn (g 4 a)) (nn (g 7 a)) b
section NEAR
variable {k : KS} {g : HH} {hh hr hc : HH} {B R H D K n o N N' : Nat}
theorem bb_comm (V : VS hh hr hc g B R H D K n o) {a b : Nat} (ha : a < n) (hb : b < n) : nearBB g o R H D a b = nearBB g o R H D b a := by
  have hK := V.kk
  obtain ⟨ka, -, -, a1, a2, -⟩ := V.box ha
  obtain ⟨kb, -, -, b1, b2, -⟩ := V.box hb
  have hs := (V.2.2.2.1.2.2.2 ka kb (by omega) (by omega)).2.1
  unfold nearBB nearK
  rw [a2, b2, nn, nI_clamp (by omega), nn, nI_clamp (by omega), hs, farS_comm]
  cases decide (g 7 a ≠ -1) <;> cases decide (g 7 b ≠ -1) <;> rfl
theorem K_bb (V : VS hh hr hc g B R H D K n o) {a b : Nat} (ha : a < n) (hb : b < n) : F_Ves_areNear (nI a) (nI b) hh hr hc = bi (nearBB g o R H D a b) := by
  have hn := V.nn
  have hK := V.kk
  have hP := V.pp
  obtain ⟨ka, w, t, k1, k2, -, -, -, -, -, -, k3, -, -, k4⟩ := V.box ha
  unfold F_Ves_areNear
  rw [V.lies ha, k3, k4]
  rcases V.plc ha with p0 | ⟨p, hp, p0, -⟩
  · rw [p0]
    unfold nearBB
    rw [p0]
    simp [pu_let, bi]
  · rw [p0, if_neg (pu_m1 (by omega)), if_neg pu_10, K_nearB V k1 hp hb]
    unfold nearBB
    rw [p0, k2, nn, nI_clamp (by omega), nn, nI_clamp (by omega)]
    have q1 : ¬ nI p = -1 := pu_m1 (by omega)
    simp [q1, bi]
theorem Mo_bb (V : VS hh hr hc g B R H D K n o) {a b : Nat} (ha : a < n) (hb : b < n) (hN : 10 ≤ N) : F_Mo_areNear N (nI a) (nI b) (nI o) g = some (bi (nearBB g o R H D a b)) := by
  have hn := V.nn
  have hK := V.kk
  have hP := V.pp
  obtain ⟨ka, w, t, k1, k2, -⟩ := V.box ha
  have ia : sv_in (nI a) 24 := pu_in (by omega) (by omega)
  have ib : sv_in (nI b) 24 := pu_in (by omega) (by omega)
  unfold F_Mo_areNear
  simp only [if_pos ia, if_pos ib]
  rw [nI_clamp (by omega), nI_clamp (by omega)]
  rcases V.plc ha with p0 | ⟨p, hp, p0, -⟩
  · rw [p0, if_pos rfl]
    unfold nearBB
    rw [p0]
    simp [bi]
  · rw [p0, if_neg (pu_m1 (by omega)), k2, Mo_nearTo V k1 hp hb hN]
    simp only [Option.bind_some]
    unfold nearBB
    rw [p0, k2, nn, nI_clamp (by omega), nn, nI_clamp (by omega)]
    have q1 : ¬ nI p = -1 := pu_m1 (by omega)
    by_cases c : g 7 b = -1
    · rw [if_pos c]
      have : nearK g o R H D ka p b = false := by
        unfold nearK; rw [c]; simp
      rw [this]; simp [bi]
    · rw [if_neg c]
      cases nearK g o R H D ka p b <;> simp [bi, q1]
theorem nearTo_L (V : VS hh hr hc g B R H D K n o) (ho : g 0 11 = nI o) {a : Nat} (ha : a < n) (hN' : 10 ≤ N') : ∀ (m j f f' : Nat) (c : Nat), j + m = n → m < f → m < f' → L_Ves_countNearTo_4 N f (nI a) (nI c) (nI j) hh hr hc = some (nI (c + sumT (fun b => b1 (decide (b ≠ a) && nearBB g o R H D a b)) j m)) ∧ L_Mo_nearTo_15 N' f' (nI a) (nI c) (nI j) g = some (nI (c + sumT (fun b => b1 (decide (b ≠ a) && nearBB g o R H D a b)) j m)) := by
  intro m
  have hn := V.nn
  induction m with
  | zero =>
    intro j f f' c h1 h2 h3
    obtain ⟨f, rfl⟩ : ∃ z, f = z + 1 := ⟨f - 1, by omega⟩
    obtain ⟨f', rfl⟩ : ∃ z, f' = z + 1 := ⟨f' - 1, by omega⟩
    have : j = n := by omega
    subst this
    unfold L_Ves_countNearTo_4 L_Mo_nearTo_15
    rw [V.n6, V.h0, if_pos (Int32.le_refl _), if_pos (Int32.le_refl _)]
    exact ⟨rfl, rfl⟩
  | succ m ih =>
    intro j f f' c h1 h2 h3
    obtain ⟨f, rfl⟩ : ∃ z, f = z + 1 := ⟨f - 1, by omega⟩
    obtain ⟨f', rfl⟩ : ∃ z, f' = z + 1 := ⟨f' - 1, by omega⟩
    have hj : j < n := by omega
    unfold L_Ves_countNearTo_4 L_Mo_nearTo_15
    have e0 : nI c + 0 = nI c := Int32.add_zero _
    rw [V.n6, V.h0, if_neg (nI_ge hj (by omega)), if_neg (nI_ge hj (by omega)), e0, nI_1, nI_1, ho, K_bb V ha hj, Mo_bb V ha hj hN']
    simp only [Option.bind_some]
    have i1 := ih (j + 1) f f' c (by omega) (by omega) (by omega)
    have i2 := ih (j + 1) f f' (c + 1) (by omega) (by omega) (by omega)
    have es : sumT (fun b => b1 (decide (b ≠ a) && nearBB g o R H D a b)) j (m + 1) = b1 (decide (j ≠ a) && nearBB g o R H D a j) + sumT (fun b => b1 (decide (b ≠ a) && nearBB g o R H D a b)) (j + 1) m := rfl
    rw [es]
    by_cases q : j = a
    · have q' : nI j = nI a := congrArg nI q
      rw [if_pos q', if_pos q']
      have z : b1 (decide (j ≠ a) && nearBB g o R H D a j) = 0 := by simp [q]
      rw [z, Nat.zero_add]
      exact i1
    · have q' : ¬ nI j = nI a := fun z => q ((nI_eq (by omega) (by omega)).mp z)
      rw [if_neg q', if_neg q']
      cases hb : nearBB g o R H D a j
      · have z : b1 (decide (j ≠ a) && false) = 0 := by simp
        rw [z, Nat.zero_add]
        exact i1
      · have z : b1 (decide (j ≠ a) && true) = 1 := by simp [q]
        rw [z, ← Nat.add_assoc]
        exact i2
theorem sumN_T (F : Nat → Nat) (n : Nat) : sumT F 0 n = sumN F n := by
  have := sumT_N F 0 n
  rw [Nat.zero_add] at this
  rw [this]
  show _ = 0 + _
  omega
theorem nearTo_eq (V : VS hh hr hc g B R H D K n o) (ho : g 0 11 = nI o) {a : Nat} (ha : a < n) (hN : 30 ≤ N) (hN' : 30 ≤ N') : F_Ves_countNearTo N (nI a) hh hr hc = some (nI (sumN (fun b => b1 (decide (b ≠ a) && nearBB g o R H D a b)) n)) ∧ Option.bind (L_Mo_nearTo_15 N' N' (nI a) 0 0 g) (fun v7 => some v7) = some (nI (sumN (fun b => b1 (decide (b ≠ a) && nearBB g o R H D a b)) n)) := by
  have hn := V.nn
  obtain ⟨h1, h2⟩ := nearTo_L (N := N) (N' := N') V ho ha (by omega) n 0 N N' 0 (by omega) (by omega) (by omega)
  rw [show nI 0 = 0 from rfl, Nat.zero_add, sumN_T] at h1 h2
  unfold F_Ves_countNearTo
  rw [h1, h2]
  exact ⟨rfl, rfl⟩
theorem sim_21 : Sim_21 Inv := by
  intro a1 k g I
  have h : ∃ v, F_K_nearTo 3000 a1 (k 0) (k 9) (k 10) (k 11) = some v ∧ F_Mo_nearTo 3000 a1 g = some v := by
    unfold F_K_nearTo F_Mo_nearTo
    rcases i_box I a1 with ⟨B, R, H, D, K, n, o, j, J, h1, h2, h3, h4⟩ | ⟨h3, h4⟩
    · subst h2
      rw [h3, h4, if_neg pu_10, if_pos pu_10]
      obtain ⟨e1, e2⟩ := nearTo_eq (N := 3000) (N' := 3000) J.2.2.1 J.2.2.2.1 h1 (by omega) (by omega)
      rw [e1, e2]
      exact ⟨_, rfl, rfl⟩
    · rw [h3, h4]
      exact ⟨-2, rfl, rfl⟩
  obtain ⟨v, h1, h2⟩ := h
  refine ⟨3000, 3000, v, k, g, ?_, ?_, I⟩
  · unfold KO_21; rw [h1]; rfl
  · unfold MO_21; rw [h2]; rfl
theorem countNear_L (V : VS hh hr hc g B R H D K n o) (hN : 30 ≤ N) : ∀ (m j f : Nat) (c : Nat), j + m = n → m < f → L_Ves_countNear_4 N f (nI c) (nI j) hh hr hc = some (nI (c + sumT (fun a => sumN (fun b => b1 (decide (b ≠ a) && nearBB g o R H D a b)) n) j m)) := by
  intro m
  have hn := V.nn
  induction m with
  | zero =>
    intro j f c h1 h2
    obtain ⟨f, rfl⟩ : ∃ z, f = z + 1 := ⟨f - 1, by omega⟩
    have : j = n := by omega
    subst this
    unfold L_Ves_countNear_4
    rw [V.h0, if_pos (Int32.le_refl _)]
    rfl
  | succ m ih =>
    intro j f c h1 h2
    obtain ⟨f, rfl⟩ : ∃ z, f = z + 1 := ⟨f - 1, by omega⟩
    have hj : j < n := by omega
    unfold L_Ves_countNear_4
    have e1 : F_Ves_countNearTo N (nI j) hh hr hc = some (nI (sumN (fun b => b1 (decide (b ≠ j) && nearBB g o R H D j b)) n)) := by
      have hL : ∀ (m i f : Nat) (c : Nat), i + m = n → m < f → L_Ves_countNearTo_4 N f (nI j) (nI c) (nI i) hh hr hc = some (nI (c + sumT (fun b => b1 (decide (b ≠ j) && nearBB g o R H D j b)) i m)) := by
        intro m
        induction m with
        | zero =>
          intro i f c h1 h2
          obtain ⟨f, rfl⟩ : ∃ z, f = z + 1 := ⟨f - 1, by omega⟩
          have : i = n := by omega
          subst this
          unfold L_Ves_countNearTo_4
          rw [V.h0, if_pos (Int32.le_refl _)]
          rfl
        | succ m ih =>
          intro i f c h1 h2
          obtain ⟨f, rfl⟩ : ∃ z, f = z + 1 := ⟨f - 1, by omega⟩
          have hi : i < n := by omega
          unfold L_Ves_countNearTo_4
          rw [V.h0, if_neg (nI_ge hi (by omega)), nI_1, nI_1, K_bb V hj hi]
          have i1 := ih (i + 1) f c (by omega) (by omega)
          have i2 := ih (i + 1) f (c + 1) (by omega) (by omega)
          have es : sumT (fun b => b1 (decide (b ≠ j) && nearBB g o R H D j b)) i (m + 1) = b1 (decide (i ≠ j) && nearBB g o R H D j i) + sumT (fun b => b1 (decide (b ≠ j) && nearBB g o R H D j b)) (i + 1) m := rfl
          rw [es]
          by_cases q : i = j
          · have q' : nI i = nI j := congrArg nI q
            rw [if_pos q']
            have z : b1 (decide (i ≠ j) && nearBB g o R H D j i) = 0 := by simp [q]
            rw [z, Nat.zero_add]
            exact i1
          · have q' : ¬ nI i = nI j := fun z => q ((nI_eq (by omega) (by omega)).mp z)
            rw [if_neg q']
            cases hb : nearBB g o R H D j i
            · have z : b1 (decide (i ≠ j) && false) = 0 := by simp
              rw [z, Nat.zero_add]
              exact i1
            · have z : b1 (decide (i ≠ j) && true) = 1 := by simp [q]
              rw [z, ← Nat.add_assoc]
              exact i2
      have h := hL n 0 N 0 (by omega) (by omega)
      rw [show nI 0 = 0 from rfl, Nat.zero_add, sumN_T] at h
      unfold F_Ves_countNearTo
      rw [h]
      rfl
    rw [V.h0, if_neg (nI_ge hj (by omega)), e1]
    simp only [Option.bind_some]
    rw [nI_add, nI_1, ih (j + 1) f _ (by omega) (by omega), Nat.add_assoc]
    rfl
def Tw (g : HH) (o R H D n : Nat) : Nat := pairs (nearBB g o R H D) n
theorem Tw_le (hn : n ≤ 24) : Tw g o R H D n ≤ 576 := by
  have h1 : ∀ a, sumN (fun b => b1 (decide (a < b) && nearBB g o R H D a b)) n ≤ n * 1 := fun a => sumN_le _ 1 n (fun i _ => by
    show (if _ then 1 else 0) ≤ 1
    split <;> omega)
  have h2 := sumN_le (fun a => sumN (fun b => b1 (decide (a < b) && nearBB g o R H D a b)) n) (n * 1) n (fun i _ => h1 i)
  have h3 : n * (n * 1) ≤ 24 * 24 := Nat.mul_le_mul hn (by omega)
  exact Nat.le_trans h2 h3
theorem countNear_eq (V : VS hh hr hc g B R H D K n o) (hN : 30 ≤ N) : F_Ves_countNear N hh hr hc = some (nI (Tw g o R H D n)) := by
  have hn := V.nn
  have h := countNear_L (N := N) V hN n 0 N 0 (by omega) (by omega)
  rw [show nI 0 = 0 from rfl, Nat.zero_add, sumN_T, pairs_2 (nearBB g o R H D) n (fun a b ha hb => bb_comm V ha hb)] at h
  have := Tw_le (g := g) (o := o) (R := R) (H := H) (D := D) hn
  unfold Tw at *
  unfold F_Ves_countNear
  rw [h]
  simp only [Option.bind_some]
  rw [pk_shrN (by omega) _ 1 (by decide)]
  congr 2
  omega
theorem twos_I (V : VS hh hr hc g B R H D K n o) {a : Nat} (ha : a < n) (hN' : 10 ≤ N) : ∀ (m j f : Nat) (c : Nat), j + m = n → m < f → L_Mo_twosNear_17 N f (nI o) (nI c) (nI a) (nI j) g = some (nI (c + sumT (fun b => b1 (nearBB g o R H D a b)) j m)) := by
  intro m
  have hn := V.nn
  induction m with
  | zero =>
    intro j f c h1 h2
    obtain ⟨f, rfl⟩ : ∃ z, f = z + 1 := ⟨f - 1, by omega⟩
    have : j = n := by omega
    subst this
    unfold L_Mo_twosNear_17
    rw [V.n6, if_pos (Int32.le_refl _)]
    rfl
  | succ m ih =>
    intro j f c h1 h2
    obtain ⟨f, rfl⟩ : ∃ z, f = z + 1 := ⟨f - 1, by omega⟩
    have hj : j < n := by omega
    unfold L_Mo_twosNear_17
    have e0 : nI c + 0 = nI c := Int32.add_zero _
    rw [V.n6, if_neg (nI_ge hj (by omega)), Mo_bb V ha hj hN', e0, nI_1, nI_1]
    simp only [Option.bind_some]
    rw [ih (j + 1) f c (by omega) (by omega), ih (j + 1) f (c + 1) (by omega) (by omega)]
    have es : sumT (fun b => b1 (nearBB g o R H D a b)) j (m + 1) = b1 (nearBB g o R H D a j) + sumT (fun b => b1 (nearBB g o R H D a b)) (j + 1) m := rfl
    rw [es]
    cases hb : nearBB g o R H D a j
    · have z : b1 false = 0 := rfl
      rw [z, Nat.zero_add]
      rfl
    · have z : b1 true = 1 := rfl
      rw [z, ← Nat.add_assoc]
      rfl
theorem twos_O (V : VS hh hr hc g B R H D K n o) (hN : 30 ≤ N) : ∀ (m j f : Nat) (c : Nat), j + m = n → m < f → L_Mo_twosNear_4 N f (nI o) (nI c) (nI j) g = some (nI (c + sumT (fun a => sumN (fun b => b1 (decide (a < b) && nearBB g o R H D a b)) n) j m)) := by
  intro m
  have hn := V.nn
  induction m with
  | zero =>
    intro j f c h1 h2
    obtain ⟨f, rfl⟩ : ∃ z, f = z + 1 := ⟨f - 1, by omega⟩
    have : j = n := by omega
    subst this
    unfold L_Mo_twosNear_4
    rw [V.n6, if_pos (Int32.le_refl _)]
    rfl
  | succ m ih =>
    intro j f c h1 h2
    obtain ⟨f, rfl⟩ : ∃ z, f = z + 1 := ⟨f - 1, by omega⟩
    have hj : j < n := by omega
    unfold L_Mo_twosNear_4
    rw [V.n6, if_neg (nI_ge hj (by omega)), nI_1, twos_I V hj (by omega) (n - (j + 1)) (j + 1) N c (by omega) (by omega)]
    simp only [Option.bind_some]
    rw [← pairs_row _ n j hj, ih (j + 1) f _ (by omega) (by omega), Nat.add_assoc]
    rfl
theorem twos_eq (V : VS hh hr hc g B R H D K n o) (hN : 30 ≤ N) : F_Mo_twosNear N (nI o) g = some (nI (Tw g o R H D n)) := by
  have hn := V.nn
  have h := twos_O (N := N) V hN n 0 N 0 (by omega) (by omega)
  rw [show nI 0 = 0 from rfl, Nat.zero_add, sumN_T] at h
  unfold F_Mo_twosNear
  rw [h]
  rfl
theorem two_I (V : VS hh hr hc g B R H D K n o) (ho : g 0 11 = nI o) {a q : Nat} (ha : a < n) (hq : q < 2 ^ 31) (hN' : 10 ≤ N') : ∀ (m j f f' : Nat) (c : Nat), j + m = n → m < f → m < f' → c ≤ q → (∃ c', c' ≤ q ∧ L_Ves_nearTwo_20 N f (nI q) (nI c) (nI a) (nI j) hh hr hc = some (.inl (nI c')) ∧ L_Mo_near_46 N' f' (nI (q - c)) (nI a) (nI j) g = some (.inl (nI (q - c')))) ∨ ∃ v, L_Ves_nearTwo_20 N f (nI q) (nI c) (nI a) (nI j) hh hr hc = some (.inr v) ∧ L_Mo_near_46 N' f' (nI (q - c)) (nI a) (nI j) g = some (.inr v) := by
  intro m
  have hn := V.nn
  induction m with
  | zero =>
    intro j f f' c h1 h2 h3
    obtain ⟨f, rfl⟩ : ∃ z, f = z + 1 := ⟨f - 1, by omega⟩
    obtain ⟨f', rfl⟩ : ∃ z, f' = z + 1 := ⟨f' - 1, by omega⟩
    have : j = n := by omega
    subst this
    intro h4
    unfold L_Ves_nearTwo_20 L_Mo_near_46
    rw [V.n6, V.h0, if_pos (Int32.le_refl _), if_pos (Int32.le_refl _)]
    exact Or.inl ⟨c, h4, rfl, rfl⟩
  | succ m ih =>
    intro j f f' c h1 h2 h3
    obtain ⟨f, rfl⟩ : ∃ z, f = z + 1 := ⟨f - 1, by omega⟩
    obtain ⟨f', rfl⟩ : ∃ z, f' = z + 1 := ⟨f' - 1, by omega⟩
    intro h4
    have hj : j < n := by omega
    unfold L_Ves_nearTwo_20 L_Mo_near_46
    rw [V.n6, V.h0, if_neg (nI_ge hj (by omega)), if_neg (nI_ge hj (by omega)), nI_1, nI_1, ho, K_bb V ha hj, Mo_bb V ha hj hN']
    simp only [Option.bind_some]
    cases hb : nearBB g o R H D a j
    · exact ih (j + 1) f f' c (by omega) (by omega) (by omega) h4
    · rw [show bi true = 1 from rfl, if_neg pu_10, if_pos pu_10]
      by_cases e : c = q
      · subst e
        rw [if_neg (fun z => z rfl), Nat.sub_self, if_neg (fun z => z rfl)]
        exact Or.inr ⟨_, rfl, rfl⟩
      · have e1 : ¬ nI c = nI q := fun z => e ((nI_eq (by omega) (by omega)).mp z)
        have e2 : ¬ nI (q - c) = 0 := nI_ne0 (by omega) (by omega)
        have e3 : nI (q - c) + -1 = nI (q - (c + 1)) := by
          have := pk_m1 (q - (c + 1))
          rw [show q - (c + 1) + 1 = q - c by omega] at this
          exact this
        rw [if_pos e1, if_pos e2, e3]
        exact ih (j + 1) f f' (c + 1) (by omega) (by omega) (by omega) (by omega)
theorem two_O (V : VS hh hr hc g B R H D K n o) (ho : g 0 11 = nI o) {q : Nat} (hq : q < 2 ^ 31) (hN : 30 ≤ N) (hN' : 30 ≤ N') : ∀ (m j f f' : Nat) (c : Nat), j + m = n → m < f → m < f' → c ≤ q → ∃ r, L_Ves_nearTwo_4 N f (nI q) (nI c) (nI j) hh hr hc = some r ∧ L_Mo_near_33 N' f' (nI (q - c)) (nI j) g = some r := by
  intro m
  have hn := V.nn
  induction m with
  | zero =>
    intro j f f' c h1 h2 h3
    obtain ⟨f, rfl⟩ : ∃ z, f = z + 1 := ⟨f - 1, by omega⟩
    obtain ⟨f', rfl⟩ : ∃ z, f' = z + 1 := ⟨f' - 1, by omega⟩
    have : j = n := by omega
    subst this
    intro h4
    unfold L_Ves_nearTwo_4 L_Mo_near_33
    rw [V.n6, V.h0, if_pos (Int32.le_refl _), if_pos (Int32.le_refl _)]
    exact ⟨_, rfl, rfl⟩
  | succ m ih =>
    intro j f f' c h1 h2 h3
    obtain ⟨f, rfl⟩ : ∃ z, f = z + 1 := ⟨f - 1, by omega⟩
    obtain ⟨f', rfl⟩ : ∃ z, f' = z + 1 := ⟨f' - 1, by omega⟩
    intro h4
    have hj : j < n := by omega
    unfold L_Ves_nearTwo_4 L_Mo_near_33
    rw [V.n6, V.h0, if_neg (nI_ge hj (by omega)), if_neg (nI_ge hj (by omega)), nI_1]
    rcases two_I (N := N) (N' := N') V ho hj hq (by omega) (n - (j + 1)) (j + 1) N N' c (by omega) (by omega) (by omega) h4 with ⟨c', d1, d2, d3⟩ | ⟨v, d2, d3⟩
    · rw [d2, d3]
      exact ih (j + 1) f f' c' (by omega) (by omega) (by omega) d1
    · rw [d2, d3]
      exact ⟨_, rfl, rfl⟩
theorem sim_20 : Sim_20 Inv := by
  intro a1 k g I
  have h : ∃ v, F_K_near 3000 a1 (k 0) (k 9) (k 10) (k 11) = some v ∧ F_Mo_near 3000 a1 g = some v := by
    unfold F_K_near F_Mo_near F_Ves_nearTwo
    rcases i_there I with ⟨B, R, H, D, K, n, o, J, h1, h2⟩ | ⟨J, h1, h2⟩
    · rw [h1, h2, if_neg pu_10, if_neg pu_10]
      have V := J.2.2.1
      have hn := V.nn
      by_cases c : -1 ≤ a1
      · rw [if_pos c, if_pos c]
        by_cases c2 : a1 = -1
        · rw [if_neg (fun z => z c2), if_neg (fun z => z c2), countNear_eq V (by omega), J.2.2.2.1, twos_eq V (by omega)]
          exact ⟨_, rfl, rfl⟩
        · rw [if_pos c2, if_pos c2]
          have hz : ¬ a1 < 0 := by
            intro z
            have z1 := Int32.lt_iff_toInt_lt.mp z
            have z2 := Int32.le_iff_toInt_le.mp c
            have z3 : (-1 : Int32).toInt = -1 := by decide
            have z4 : (0 : Int32).toInt = 0 := by decide
            have z5 : ¬ a1.toInt = (-1 : Int32).toInt := fun y => c2 (Int32.toInt_inj.mp y)
            omega
          obtain ⟨q, hq, rfl⟩ := nI_of hz
          obtain ⟨r, r1, r2⟩ := two_O (N := 3000) (N' := 3000) V J.2.2.2.1 hq (by omega) (by omega) n 0 3000 3000 0 (by omega) (by omega) (by omega) (by omega)
          rw [show nI 0 = 0 from rfl] at r1 r2
          rw [Nat.sub_zero] at r2
          rw [r1, r2]
          cases r with
          | inl u => exact ⟨_, rfl, rfl⟩
          | inr v => exact ⟨_, rfl, rfl⟩
      · rw [if_neg c, if_neg c]
        exact ⟨-2, rfl, rfl⟩
    · rw [h1, h2]
      exact ⟨-2, rfl, rfl⟩
  obtain ⟨v, h1, h2⟩ := h
  refine ⟨3000, 3000, v, k, g, ?_, ?_, I⟩
  · unfold KO_20; rw [h1]; rfl
  · unfold MO_20; rw [h2]; rfl
end NEAR
