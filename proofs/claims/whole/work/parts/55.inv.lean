/-! ===== pure: what holds between two calls ===== -/
def InvB (k : KS) (g : HH) : Prop := (∃ s, s ≤ 900 ∧ k 7 0 1 = nI s ∧ g 0 14 = nI s ∧ ∀ i, i < s → ∃ c, c < 256 ∧ k 7 1 i = nI c ∧ g 9 i &&& 255 = nI c ∧ (c < 128 → g 9 i = nI c))
  ∧ (k 6 0 0 = g 0 20 ∧ k 6 0 1 = g 0 21)
  ∧ ∃ t, t ≤ 60 ∧ k 5 0 0 = nI t ∧ g 0 46 = nI t ∧ ∀ i, i < t → k 5 1 i = g 22 i
/-- no ship yet -/
def InvN (k : KS) (g : HH) : Prop := k 0 0 7 = 0 ∧ g 0 1 = 0 ∧ (∀ i, i < 90 → g 1 i = 0) ∧ g 0 6 = 0 ∧ g 0 22 = 0 ∧ k 1 0 0 = 0 ∧ ∃ t, t < 13 ∧ k 1 0 1 = nI t
/-- no box hangs over an empty place -/
def NoH (g : HH) (H D P : Nat) : Prop := ∀ p, p < P → g 8 p ≠ -1 → p ≠ lowS H D p → g 8 (p - 1) ≠ -1
/-- places of m boxes, as an act kept them -/
def PlOK (pl : Nat → Int32) (H D P m : Nat) : Prop := (∀ b, b < m → pl b = -1 ∨ ∃ p, p < P ∧ pl b = nI p)
  ∧ (∀ a b, a < m → b < m → pl a ≠ -1 → pl a = pl b → a = b)
  ∧ ∀ b p, b < m → pl b = nI p → p < P → p ≠ lowS H D p → ∃ a, a < m ∧ pl a = nI (p - 1)
/-- an act kept by both -/
def RecR (hy g : HH) (H D P sl i m : Nat) : Prop := hy 1 (31 * sl) = nI m ∧ g 10 (98 * i) = nI m
  ∧ (∃ o, o < 64 ∧ g 10 (98 * i + 1) = nI o ∧ ∀ b, b < 6 → hy 1 (31 * sl + 1 + b) = wallv g o b)
  ∧ (∀ b, b < m → g 10 (98 * i + 2 + 4 * b) = g 4 b ∧ g 10 (98 * i + 3 + 4 * b) = g 5 b ∧ g 10 (98 * i + 4 + 4 * b) = g 6 b ∧ g 10 (98 * i + 5 + 4 * b) = hy 1 (31 * sl + 7 + b))
  ∧ PlOK (fun b => hy 1 (31 * sl + 7 + b)) H D P m
def HiR (hy g : HH) (H D P n : Nat) : Prop := ∃ (s t : Nat) (M : Nat → Nat), s ≤ 12 ∧ t < 13 ∧ hy 0 0 = nI s ∧ hy 0 1 = nI t ∧ g 0 22 = nI s
  ∧ (∀ i, i < s → M i ≤ n) ∧ (∀ i j, i < j → j < s → M i ≤ M j) ∧ ∀ i, i < s → RecR hy g H D P ((t + 13 - s + i) % 13) i (M i)
def ToR (hl g : HH) (P : Nat) : Prop := hl 0 0 = g 0 32 ∧ (hl 0 0 = 0 ∨ hl 0 0 = 1 ∧ ∀ b, b < 24 → (g 14 b = 0 ∧ hl 1 b = -6) ∨ (g 14 b = 1 ∧ hl 1 b = g 15 b ∧ (g 15 b = -1 ∨ ∃ p, p < P ∧ g 15 b = nI p)))
def ShR (hs g : HH) : Prop := hs 0 0 = g 0 37 ∧ ((hs 0 0 = -1 ∧ hs 0 1 = -1) ∨ ∃ m, m ≤ 2 ∧ hs 0 0 = nI m ∧ hs 0 1 = g 16 4 ∧ ∀ i, i < m → hs 1 i = g 16 (2 * i) ∧ hs 2 i = g 16 (2 * i + 1))
def InvA (k : KS) (g : HH) (B R H D K n o : Nat) : Prop := k 0 0 7 = 1 ∧ g 0 1 = 1 ∧ VS (k 9) (k 10) (k 11) g B R H D K n o ∧ g 0 11 = nI o ∧ NoH g H D (plN B R H D) ∧ HiR (k 1) g H D (plN B R H D) n ∧ ToR (k 2) g (plN B R H D) ∧ ShR (k 3) g
def Inv (k : KS) (g : HH) : Prop := InvB k g ∧ (InvN k g ∨ ∃ B R H D K n o, InvA k g B R H D K n o)
section INV
variable {k : KS} {g : HH} {B R H D K n o N : Nat}
theorem w_yes {a n : Nat} (h : a < n) (hn : n < 2 ^ 30) : F_K_within (nI a) 0 (nI n - 1) = 1 := by
  rcases pu_wn (nI a) (n := n) hn with ⟨j, -, -, e⟩ | ⟨e, -⟩
  · exact e
  · exact absurd rfl (e a h)
theorem a_box (I : InvA k g B R H D K n o) (a : Int32) : (∃ j, j < n ∧ a = nI j ∧ F_K_isBox a (k 0) (k 11) = 1 ∧ F_Mo_isBox a g = 1) ∨ (F_K_isBox a (k 0) (k 11) = 0 ∧ F_Mo_isBox a g = 0) := by
  have hn := I.2.2.1.nn
  unfold F_K_isBox F_Mo_isBox
  rw [pu_in0, I.2.2.1.n6, I.2.2.1.h0, I.1, if_neg pu_10]
  rcases pu_wn a (n := n) (by omega) with ⟨j, h1, h2, h3⟩ | ⟨h1, h2⟩
  · left; exact ⟨j, h1, h2, by rw [h3]; rfl, h3⟩
  · right; exact ⟨by rw [h2]; rfl, h2⟩
theorem a_place (I : InvA k g B R H D K n o) (a : Int32) : (∃ j, j < plN B R H D ∧ a = nI j ∧ F_K_isPlace a (k 0) (k 9) = 1 ∧ F_Mo_isPlace N a g = some 1) ∨ (F_K_isPlace a (k 0) (k 9) = 0 ∧ F_Mo_isPlace N a g = some 0) := by
  have hn := I.2.2.1.pp
  have h4 : k 9 0 4 = nI (plN B R H D) := I.2.2.1.2.2.1.1.2.2.2.2.1
  unfold F_K_isPlace F_Mo_isPlace
  rw [Mo_places I.2.2.1.1, I.2.1, h4, I.1, if_neg pu_10, if_neg pu_10]
  simp only [Option.bind_some, pu_in0]
  rcases pu_wn a (n := plN B R H D) (by omega) with ⟨j, h1, h2, h3⟩ | ⟨h1, h2⟩
  · left; exact ⟨j, h1, h2, by rw [h3]; rfl, by rw [h3]; rfl⟩
  · right; exact ⟨by rw [h2]; rfl, by rw [h2]; rfl⟩
theorem a_kind (I : InvA k g B R H D K n o) (a : Int32) : (∃ j, j < K ∧ a = nI j ∧ F_K_isKind a (k 0) (k 10) = 1 ∧ F_Mo_isKind N a g = some 1) ∨ (F_K_isKind a (k 0) (k 10) = 0 ∧ F_Mo_isKind N a g = some 0) := by
  have hn := I.2.2.1.kk
  obtain ⟨⟨r1, r2, -⟩, -⟩ := I.2.2.1.2.2.2.1
  have e : F_Mo_isKind N a g = some (F_Mo_in a.toInt64 0 (g 1 6 - 1).toInt64) := rfl
  unfold F_K_isKind F_Rules_hasKind
  rw [e, pu_in0, r1, r2, I.1, if_neg pu_10]
  rcases pu_wn a (n := K) (by omega) with ⟨j, h1, h2, h3⟩ | ⟨h1, h2⟩
  · left; exact ⟨j, h1, h2, by rw [h3]; rfl, by rw [h3]⟩
  · right; exact ⟨by rw [h2]; rfl, by rw [h2]⟩
theorem a_bay (I : InvA k g B R H D K n o) (a : Int32) : (∃ j, j < B ∧ a = nI j ∧ F_K_isBay a (k 0) (k 9) = 1 ∧ F_Mo_isBay N a g = some 1) ∨ (F_K_isBay a (k 0) (k 9) = 0 ∧ F_Mo_isBay N a g = some 0) := by
  have hn : B ≤ 6 := I.2.2.1.1.2.2.1
  have r1 : k 9 0 0 = nI B := I.2.2.1.2.2.1.1.1
  have r2 : g 1 0 = nI B := I.2.2.1.1.1.1
  have e : F_Mo_isBay N a g = some (F_Mo_in a.toInt64 0 (g 1 0 - 1).toInt64) := rfl
  unfold F_K_isBay
  rw [e, pu_in0, r1, r2, I.1, if_neg pu_10]
  rcases pu_wn a (n := B) (by omega) with ⟨j, h1, h2, h3⟩ | ⟨h1, h2⟩
  · left; exact ⟨j, h1, h2, by rw [h3]; rfl, by rw [h3]⟩
  · right; exact ⟨by rw [h2]; rfl, by rw [h2]⟩
theorem a_level (I : InvA k g B R H D K n o) (a : Int32) : (∃ j, LvOK g j ∧ a = nI j ∧ F_K_isLevel a (k 0) (k 10) = 1 ∧ F_Mo_isLevel N a g = some 1) ∨ (F_K_isLevel a (k 0) (k 10) = 0 ∧ F_Mo_isLevel N a g = some 0) := by
  unfold F_K_isLevel F_Mo_isLevel F_Rules_hasLevel
  rw [show (1 : Int64) = (1 : Int32).toInt64 from rfl, show (4 : Int64) = (4 : Int32).toInt64 from rfl, pu_inw, I.1, if_neg pu_10]
  rcases pu_wc a 1 4 (by omega) (by omega) with ⟨j, h1, h2, h3, h4⟩ | ⟨h1, h2⟩
  · rw [show nI 1 = 1 from rfl, show nI 4 = 4 from rfl] at h4
    rw [h4, if_neg pu_10, if_neg pu_10]
    subst h3
    obtain ⟨r1, r2, -⟩ := I.2.2.1.2.2.2.1.2.1 j h1 h2
    have e := pu_14 j 0
    rw [show nI 0 = 0 from rfl, Int32.add_zero] at e
    rw [e, if_pos (pu_in (by omega) (by omega)), nI_clamp (by omega), pu_rd _ (by omega) (by omega), r1, Nat.add_zero]
    by_cases c : g 1 (14 + 4 * j) = 0
    · right
      rw [c]
      exact ⟨rfl, rfl⟩
    · left
      refine ⟨j, ⟨h1, h2, c⟩, rfl, ?_, by rw [if_neg c]⟩
      rw [if_neg (fun z => c (Int32.le_antisymm z r2))]
      rfl
  · rw [show nI 1 = 1 from rfl, show nI 4 = 4 from rfl] at h2
    rw [h2]
    right
    exact ⟨rfl, rfl⟩
theorem n_box (I : InvN k g) (a : Int32) : F_K_isBox a (k 0) (k 11) = 0 ∧ F_Mo_isBox a g = 0 := by
  unfold F_K_isBox F_Mo_isBox
  rw [pu_in0, I.2.2.2.1, I.1, if_pos rfl]
  rcases pu_wn a (n := 0) (by omega) with ⟨j, h1, h2, h3⟩ | ⟨h1, h2⟩
  · omega
  · exact ⟨rfl, h2⟩
theorem n_kind (I : InvN k g) (a : Int32) : F_K_isKind a (k 0) (k 10) = 0 ∧ F_Mo_isKind N a g = some 0 := by
  have e : F_Mo_isKind N a g = some (F_Mo_in a.toInt64 0 (g 1 6 - 1).toInt64) := rfl
  unfold F_K_isKind
  rw [e, pu_in0, I.2.2.1 6 (by omega), I.1, if_pos rfl]
  rcases pu_wn a (n := 0) (by omega) with ⟨j, h1, h2, h3⟩ | ⟨h1, h2⟩
  · omega
  · exact ⟨rfl, congrArg some h2⟩
theorem n_place (I : InvN k g) (a : Int32) : F_K_isPlace a (k 0) (k 9) = 0 ∧ F_Mo_isPlace N a g = some 0 := by
  unfold F_K_isPlace F_Mo_isPlace
  rw [I.1, I.2.1, if_pos rfl, if_pos rfl]
  exact ⟨rfl, rfl⟩
theorem i_box (I : Inv k g) (a : Int32) : (∃ B R H D K n o j, InvA k g B R H D K n o ∧ j < n ∧ a = nI j ∧ F_K_isBox a (k 0) (k 11) = 1 ∧ F_Mo_isBox a g = 1) ∨ (F_K_isBox a (k 0) (k 11) = 0 ∧ F_Mo_isBox a g = 0) := by
  rcases I.2 with J | ⟨B, R, H, D, K, n, o, J⟩
  · right; exact n_box J a
  · rcases a_box J a with ⟨j, h⟩ | h
    · left; exact ⟨B, R, H, D, K, n, o, j, J, h⟩
    · right; exact h
theorem i_kind (I : Inv k g) (a : Int32) : (∃ B R H D K n o j, InvA k g B R H D K n o ∧ j < K ∧ a = nI j ∧ F_K_isKind a (k 0) (k 10) = 1 ∧ F_Mo_isKind N a g = some 1) ∨ (F_K_isKind a (k 0) (k 10) = 0 ∧ F_Mo_isKind N a g = some 0) := by
  rcases I.2 with J | ⟨B, R, H, D, K, n, o, J⟩
  · right; exact n_kind J a
  · rcases a_kind J a with ⟨j, h⟩ | h
    · left; exact ⟨B, R, H, D, K, n, o, j, J, h⟩
    · right; exact h
theorem i_place (I : Inv k g) (a : Int32) : (∃ B R H D K n o j, InvA k g B R H D K n o ∧ j < plN B R H D ∧ a = nI j ∧ F_K_isPlace a (k 0) (k 9) = 1 ∧ F_Mo_isPlace N a g = some 1) ∨ (F_K_isPlace a (k 0) (k 9) = 0 ∧ F_Mo_isPlace N a g = some 0) := by
  rcases I.2 with J | ⟨B, R, H, D, K, n, o, J⟩
  · right; exact n_place J a
  · rcases a_place J a with ⟨j, h⟩ | h
    · left; exact ⟨B, R, H, D, K, n, o, j, J, h⟩
    · right; exact h
theorem i_there (I : Inv k g) : (∃ B R H D K n o, InvA k g B R H D K n o ∧ k 0 0 7 = 1 ∧ g 0 1 = 1) ∨ (InvN k g ∧ k 0 0 7 = 0 ∧ g 0 1 = 0) := by
  rcases I.2 with J | ⟨B, R, H, D, K, n, o, J⟩
  · right; exact ⟨J, J.1, J.2.1⟩
  · left; exact ⟨B, R, H, D, K, n, o, J, J.1, J.2.1⟩
/-! the first calls -/
theorem sim_3 : Sim_3 Inv := by
  intro a1 k g I
  refine ⟨0, 0, F_K_fault a1 (k 6), k, g, rfl, ?_, I⟩
  show some (F_Mo_fault a1 g, g) = some (F_K_fault a1 (k 6), g)
  congr 2
  unfold F_K_fault F_Mo_fault
  rw [I.1.2.1.1, I.1.2.1.2]
  by_cases c : a1 = 0
  · simp [c]
  · by_cases c2 : a1 = 1
    · simp [c2]
    · simp [c, c2]
theorem sim_42 : Sim_42 Inv := by
  intro a1 k g I
  obtain ⟨t, t1, t2, t3, t4⟩ := I.1.2.2
  have h : ∃ v, F_K_octet a1 (k 5) = v ∧ F_Mo_octet 0 a1 g = some v := by
    unfold F_K_octet F_Page_byteAt F_Mo_octet
    rw [pu_in0, t2, t3]
    rcases pu_wn a1 (n := t) (by omega) with ⟨j, h1, h2, h3⟩ | ⟨h1, h2⟩
    · subst h2
      rw [h3, if_neg pu_10, if_neg pu_10, pu_rd _ (by omega) (by omega), if_pos (pu_in (by omega) (by omega)), nI_clamp (by omega), t4 j h1]
      exact ⟨_, rfl, rfl⟩
    · rw [h2]
      exact ⟨-1, rfl, rfl⟩
  obtain ⟨v, h1, h2⟩ := h
  refine ⟨0, 0, v, k, g, ?_, ?_, I⟩
  · unfold KO_42; rw [h1]; rfl
  · unfold MO_42; rw [h2]; rfl
theorem sim_7 : Sim_7 Inv := by
  intro a1 k g I
  have h : ∃ v, F_K_kind a1 (k 0) (k 10) = v ∧ F_Mo_kind 0 a1 g = some v := by
    unfold F_K_kind F_Mo_kind
    rcases i_kind (N := 0) I a1 with ⟨B, R, H, D, K, n, o, j, J, h1, h2, h3, h4⟩ | ⟨h3, h4⟩
    · subst h2
      have hK := J.2.2.1.kk
      rw [h3, h4, if_neg pu_10]
      simp only [Option.bind_some, if_neg pu_10]
      rw [show (34 : Int32) + nI j = nI (34 + j) from nI_add 34 j, if_pos (pu_in (by omega) (by omega)), nI_clamp (by omega)]
      unfold F_Rules_whereOf
      rw [pu_rd _ (by omega) (by omega), (J.2.2.1.2.2.2.1.2.2.1 j h1).1]
      exact ⟨_, rfl, rfl⟩
    · rw [h3, h4]
      exact ⟨-2, rfl, rfl⟩
  obtain ⟨v, h1, h2⟩ := h
  refine ⟨0, 0, v, k, g, ?_, ?_, I⟩
  · unfold KO_7; rw [h1]; rfl
  · unfold MO_7; rw [h2]; rfl
theorem sim_8 : Sim_8 Inv := by
  intro a1 a2 k g I
  have h : ∃ v, F_K_apart a1 a2 (k 0) (k 10) = v ∧ F_Mo_apart 0 a1 a2 g = some v := by
    unfold F_K_apart F_Mo_apart
    rcases i_kind (N := 0) I a1 with ⟨B, R, H, D, K, n, o, j, J, h1, h2, h3, h4⟩ | ⟨h3, h4⟩
    · have hK := J.2.2.1.kk
      rw [h3, h4, if_neg pu_10]
      simp only [Option.bind_some, if_neg pu_10]
      rcases a_kind (N := 0) J a2 with ⟨j2, q1, q2, q3, q4⟩ | ⟨q3, q4⟩
      · rw [q3, q4, if_neg pu_10]
        simp only [Option.bind_some, if_neg pu_10]
        subst h2 q2
        rw [K_level J.2.2.1 h1 q1, Mo_apart (by omega) (by omega)]
        exact ⟨_, rfl, rfl⟩
      · rw [q3, q4]
        exact ⟨-2, rfl, rfl⟩
    · rw [h3, h4]
      exact ⟨-2, rfl, rfl⟩
  obtain ⟨v, h1, h2⟩ := h
  refine ⟨0, 0, v, k, g, ?_, ?_, I⟩
  · unfold KO_8; rw [h1]; rfl
  · unfold MO_8; rw [h2]; rfl
theorem sim_10 : Sim_10 Inv := by
  intro a1 k g I
  have h : ∃ v, F_K_at a1 (k 0) (k 9) (k 11) = v ∧ F_Mo_at 0 a1 g = some v := by
    unfold F_K_at F_Mo_at
    rcases i_place (N := 0) I a1 with ⟨B, R, H, D, K, n, o, j, J, h1, h2, h3, h4⟩ | ⟨h3, h4⟩
    · have hP := J.2.2.1.pp
      rw [h3, h4, if_neg pu_10]
      simp only [Option.bind_some, if_neg pu_10]
      subst h2
      rw [J.2.2.1.at (by omega), if_pos (pu_in (by omega) (by omega)), nI_clamp (by omega)]
      exact ⟨_, rfl, rfl⟩
    · rw [h3, h4]
      exact ⟨-2, rfl, rfl⟩
  obtain ⟨v, h1, h2⟩ := h
  refine ⟨0, 0, v, k, g, ?_, ?_, I⟩
  · unfold KO_10; rw [h1]; rfl
  · unfold MO_10; rw [h2]; rfl
theorem sim_13 : Sim_13 Inv := by
  intro a1 a2 k g I
  have h : ∃ v, F_K_why 30 a1 a2 (k 0) (k 9) (k 10) (k 11) = some v ∧ F_Mo_why 30 a1 a2 g = some v := by
    unfold F_K_why F_Mo_why
    rcases i_box I a1 with ⟨B, R, H, D, K, n, o, j, J, h1, h2, h3, h4⟩ | ⟨h3, h4⟩
    · rw [h3, h4, if_neg pu_10, if_neg pu_10]
      rcases a_place (N := 30) J a2 with ⟨p, q1, q2, q3, q4⟩ | ⟨q3, q4⟩
      · subst h2 q2
        rw [q3, q4, if_neg pu_10]
        simp only [Option.bind_some, if_neg pu_10]
        obtain ⟨v, w1, w2, -⟩ := whyBox_eq (N := 30) (N' := 30) J.2.2.1 J.2.2.2.1 h1 q1 (by omega) (by omega)
        rw [w1, w2]
        exact ⟨_, rfl, rfl⟩
      · rw [q3, q4]
        exact ⟨-2, rfl, rfl⟩
    · rw [h3, h4]
      exact ⟨-2, rfl, rfl⟩
  obtain ⟨v, h1, h2⟩ := h
  refine ⟨30, 30, v, k, g, ?_, ?_, I⟩
  · unfold KO_13; rw [h1]; rfl
  · unfold MO_13; rw [h2]; rfl
end INV
