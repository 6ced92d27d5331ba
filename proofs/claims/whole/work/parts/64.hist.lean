/-! ===== pure: acts kept ===== -/
section HIST
variable {k : KS} {g g' : HH} {hy hh hr hc : HH} {B R H D K n o N N' t : Nat}
theorem mark_25 (V : VS hh hr hc g B R H D K n o) (ht : t < 13) : ∀ (m j f : Nat) (hy : HH), j + m = 6 → m < f → ∃ hy', L_Hist_mark_25 N f (nI (31 * t)) (nI j) hy hh = some hy' ∧ (∀ r, r ≠ 1 → hy' r = hy r) ∧ (∀ b, j ≤ b → b < 6 → hy' 1 (31 * t + 1 + b) = wallv g o b) ∧ ∀ i, (i < 31 * t + 1 + j ∨ 31 * t + 7 ≤ i) → hy' 1 i = hy 1 i := by
  intro m
  induction m with
  | zero =>
    intro j f hy h1 h2
    obtain ⟨f, rfl⟩ : ∃ z, f = z + 1 := ⟨f - 1, by omega⟩
    have : j = 6 := by omega
    subst this
    unfold L_Hist_mark_25
    rw [if_pos (by decide)]
    exact ⟨hy, rfl, fun _ _ => rfl, fun b b1 b2 => by omega, fun _ _ => rfl⟩
  | succ m ih =>
    intro j f hy h1 h2
    obtain ⟨f, rfl⟩ : ∃ z, f = z + 1 := ⟨f - 1, by omega⟩
    unfold L_Hist_mark_25
    have h6 : ¬ (6 : Int32) ≤ nI j := nI_ge (a := j) (b := 6) (by omega) (by omega)
    rw [if_neg h6, nI_1, nI_1, nI_add, K_wall V (by omega)]
    simp only [pu_let]
    obtain ⟨hy', i1, i2, i3, i4⟩ := ih (j + 1) f (sw hy 1 403 (nI (31 * t + 1 + j)) (wallv g o j)) (by omega) (by omega)
    refine ⟨hy', i1, ?_, ?_, ?_⟩
    · intro r hr'; rw [i2 r hr', pu_sw, if_neg hr']
    · intro b b1 b2
      rcases Nat.lt_or_ge j b with y | y
      · exact i3 b y b2
      · have : b = j := by omega
        subst this
        rw [i4 _ (by omega), pu_sw, if_pos rfl, pu_wr _ _ (by omega) (by omega), pu_upd, if_pos rfl]
    · intro i hi
      rw [i4 i (by omega), pu_sw, if_pos rfl, pu_wr _ _ (by omega) (by omega), pu_upd, if_neg (by omega)]
theorem mark_59 (ht : t < 13) : ∀ (m j f : Nat) (hy : HH), j + m = 24 → m < f → ∃ hy', L_Hist_mark_59 N f (nI (31 * t)) (nI j) hy hc = some hy' ∧ (∀ r, r ≠ 1 → hy' r = hy r) ∧ (∀ b, j ≤ b → b < 24 → hy' 1 (31 * t + 7 + b) = hc 4 b) ∧ ∀ i, (i < 31 * t + 7 + j ∨ 31 * t + 31 ≤ i) → hy' 1 i = hy 1 i := by
  intro m
  induction m with
  | zero =>
    intro j f hy h1 h2
    obtain ⟨f, rfl⟩ : ∃ z, f = z + 1 := ⟨f - 1, by omega⟩
    have : j = 24 := by omega
    subst this
    unfold L_Hist_mark_59
    rw [if_pos (by decide)]
    exact ⟨hy, rfl, fun _ _ => rfl, fun b b1 b2 => by omega, fun _ _ => rfl⟩
  | succ m ih =>
    intro j f hy h1 h2
    obtain ⟨f, rfl⟩ : ∃ z, f = z + 1 := ⟨f - 1, by omega⟩
    unfold L_Hist_mark_59
    have h6 : ¬ (24 : Int32) ≤ nI j := nI_ge (a := j) (b := 24) (by omega) (by omega)
    have e7 : nI (31 * t) + 1 + 6 + nI j = nI (31 * t + 7 + j) := by
      rw [show (6 : Int32) = nI 6 from rfl, nI_1, nI_add, nI_add]
    have e8 : F_Cargo_placeOf (nI j) hc = hc 4 j := by
      unfold F_Cargo_placeOf; rw [pu_rd _ (by omega) (by omega)]
    rw [if_neg h6, e7, e8, nI_1]
    simp only [pu_let]
    obtain ⟨hy', i1, i2, i3, i4⟩ := ih (j + 1) f (sw hy 1 403 (nI (31 * t + 7 + j)) (hc 4 j)) (by omega) (by omega)
    refine ⟨hy', i1, ?_, ?_, ?_⟩
    · intro r hr'; rw [i2 r hr', pu_sw, if_neg hr']
    · intro b b1 b2
      rcases Nat.lt_or_ge j b with y | y
      · exact i3 b y b2
      · have : b = j := by omega
        subst this
        rw [i4 _ (by omega), pu_sw, if_pos rfl, pu_wr _ _ (by omega) (by omega), pu_upd, if_pos rfl]
    · intro i hi
      rw [i4 i (by omega), pu_sw, if_pos rfl, pu_wr _ _ (by omega) (by omega), pu_upd, if_neg (by omega)]
/-- what is marked in the spare slot -/
def MkR (hy1 hc g : HH) (t n o : Nat) : Prop := hy1 1 (31 * t) = nI n ∧ (∀ b, b < 6 → hy1 1 (31 * t + 1 + b) = wallv g o b) ∧ ∀ b, b < 24 → hy1 1 (31 * t + 7 + b) = hc 4 b
theorem mark_ok (V : VS hh hr hc g B R H D K n o) (ht : t < 13) (h1 : hy 0 1 = nI t) (hN : 30 ≤ N) : ∃ hy1, F_Hist_mark N hy hh hc = some hy1 ∧ (∀ r, r ≠ 1 → hy1 r = hy r) ∧ MkR hy1 hc g t n o ∧ ∀ i, (i < 31 * t ∨ 31 * t + 31 ≤ i) → hy1 1 i = hy 1 i := by
  unfold F_Hist_mark
  have e : hy 0 1 * 31 = nI (31 * t) := by
    rw [h1, show (31 : Int32) = nI 31 from rfl, pk_mul, Nat.mul_comm]
  simp only [pu_let]
  rw [e, V.h0]
  obtain ⟨a, a1, a2, a3, a4⟩ := mark_25 (N := N) V ht 6 0 N (sw hy 1 403 (nI (31 * t)) (nI n)) (by omega) (by omega)
  rw [show nI 0 = 0 from rfl] at a1
  rw [a1]
  simp only [Option.bind_some]
  obtain ⟨b, b1, b2, b3, b4⟩ := mark_59 (N := N) (hc := hc) ht 24 0 N a (by omega) (by omega)
  rw [show nI 0 = 0 from rfl] at b1
  rw [b1]
  refine ⟨b, rfl, ?_, ⟨?_, ?_, ?_⟩, ?_⟩
  · intro r hr'; rw [b2 r hr', a2 r hr', pu_sw, if_neg hr']
  · rw [b4 _ (by omega), a4 _ (by omega), pu_sw, if_pos rfl, pu_wr _ _ (by omega) (by omega), pu_upd, if_pos rfl]
  · intro i hi; rw [b4 _ (by omega), a3 i (by omega) hi]
  · intro i hi; exact b3 i (by omega) hi
  · intro i hi
    rw [b4 _ (by omega), a4 _ (by omega), pu_sw, if_pos rfl, pu_wr _ _ (by omega) (by omega), pu_upd, if_neg (by omega)]
theorem keeps_12 : ∀ (m j f : Nat) (gm : HH), j + m = 1078 → m < f → ∃ g', L_Mo_keeps_12 N f (nI (98 + j)) gm = some g' ∧ (∀ r, r ≠ 10 → g' r = gm r) ∧ (∀ i, j ≤ i → i < 1078 → g' 10 i = gm 10 (i + 98)) ∧ ∀ i, i < j → g' 10 i = gm 10 i := by
  intro m
  induction m with
  | zero =>
    intro j f gm h1 h2
    obtain ⟨f, rfl⟩ : ∃ z, f = z + 1 := ⟨f - 1, by omega⟩
    have : j = 1078 := by omega
    subst this
    unfold L_Mo_keeps_12
    rw [if_pos (by decide)]
    exact ⟨gm, rfl, fun _ _ => rfl, fun b b1 b2 => by omega, fun _ _ => rfl⟩
  | succ m ih =>
    intro j f gm h1 h2
    obtain ⟨f, rfl⟩ : ∃ z, f = z + 1 := ⟨f - 1, by omega⟩
    unfold L_Mo_keeps_12
    have h6 : ¬ (1176 : Int32) ≤ nI (98 + j) := nI_ge (a := 98 + j) (b := 1176) (by omega) (by omega)
    have e1 : nI (98 + j) - 98 = nI j := by
      rw [show (98 : Int32) = nI 98 from rfl, pk_sub (by omega)]; congr 1; omega
    rw [if_neg h6, if_pos (pu_in (by omega) (by omega)), e1, if_pos (pu_in (by omega) (by omega)), nI_clamp (by omega), nI_1]
    simp only [pu_let]
    obtain ⟨g', i1, i2, i3, i4⟩ := ih (j + 1) f (sa gm 10 (nI j) (gm 10 (98 + j))) (by omega) (by omega)
    refine ⟨g', i1, ?_, ?_, ?_⟩
    · intro r hr'; rw [i2 r hr', pu_sa, if_neg hr']
    · intro i a1 a2
      rcases Nat.lt_or_ge j i with y | y
      · rw [i3 i y a2, pu_sa, if_pos rfl, nI_clamp (by omega), pu_upd, if_neg (by omega)]
      · have : i = j := by omega
        subst this
        rw [i4 i (by omega), pu_sa, if_pos rfl, nI_clamp (by omega), pu_upd, if_pos rfl, Nat.add_comm]
    · intro i hi
      rw [i4 i (by omega), pu_sa, if_pos rfl, nI_clamp (by omega), pu_upd, if_neg (by omega)]
theorem keeps_82 {c : Nat} (hc' : c + 98 ≤ 1176) (hn : n ≤ 24) : ∀ (m j f : Nat) (gm : HH), gm 0 6 = nI n → j + m = n → m < f → ∃ g', L_Mo_keeps_82 N f (nI c) (nI j) gm = some g' ∧ (∀ r, r ≠ 10 → g' r = gm r) ∧ (∀ b, j ≤ b → b < n → g' 10 (c + 2 + 4 * b) = gm 4 b ∧ g' 10 (c + 3 + 4 * b) = gm 5 b ∧ g' 10 (c + 4 + 4 * b) = gm 6 b ∧ g' 10 (c + 5 + 4 * b) = gm 7 b) ∧ ∀ i, i < c + 2 + 4 * j → g' 10 i = gm 10 i := by
  intro m
  induction m with
  | zero =>
    intro j f gm h0 h1 h2
    obtain ⟨f, rfl⟩ : ∃ z, f = z + 1 := ⟨f - 1, by omega⟩
    have : j = n := by omega
    subst this
    unfold L_Mo_keeps_82
    rw [h0, if_pos (Int32.le_refl _)]
    exact ⟨gm, rfl, fun _ _ => rfl, fun b b1 b2 => by omega, fun _ _ => rfl⟩
  | succ m ih =>
    intro j f gm h0 h1 h2
    obtain ⟨f, rfl⟩ : ∃ z, f = z + 1 := ⟨f - 1, by omega⟩
    unfold L_Mo_keeps_82
    have hj : sv_in (nI j) 24 := pu_in (by omega) (by omega)
    have ex : ∀ x : Nat, x ≤ 5 → nI c + nI x + 4 * nI j = nI (c + x + 4 * j) := by
      intro x hx
      rw [show (4 : Int32) = nI 4 from rfl, pk_mul, nI_add, nI_add]
    have e2 : nI c + 2 + 4 * nI j = nI (c + 2 + 4 * j) := ex 2 (by omega)
    have e3 : nI c + 3 + 4 * nI j = nI (c + 3 + 4 * j) := ex 3 (by omega)
    have e4 : nI c + 4 + 4 * nI j = nI (c + 4 + 4 * j) := ex 4 (by omega)
    have e5 : nI c + 5 + 4 * nI j = nI (c + 5 + 4 * j) := ex 5 (by omega)
    rw [h0, if_neg (nI_ge (by omega) (by omega)), e2, e3, e4, e5]
    have i2 : sv_in (nI (c + 2 + 4 * j)) 1176 := pu_in (by omega) (by omega)
    have i3 : sv_in (nI (c + 3 + 4 * j)) 1176 := pu_in (by omega) (by omega)
    have i4 : sv_in (nI (c + 4 + 4 * j)) 1176 := pu_in (by omega) (by omega)
    have i5 : sv_in (nI (c + 5 + 4 * j)) 1176 := pu_in (by omega) (by omega)
    simp only [if_pos hj, if_pos i2, if_pos i3, if_pos i4, if_pos i5, pu_let, nI_1]
    rw [nI_clamp (by omega)]
    simp only [pu_sa, if_neg (show ¬ 5 = 10 by omega), if_neg (show ¬ 6 = 10 by omega), if_neg (show ¬ 7 = 10 by omega)]
    obtain ⟨g', a1, a2, a3, a4⟩ := ih (j + 1) f (sa (sa (sa (sa gm 10 (nI (c + 2 + 4 * j)) (gm 4 j)) 10 (nI (c + 3 + 4 * j)) (gm 5 j)) 10 (nI (c + 4 + 4 * j)) (gm 6 j)) 10 (nI (c + 5 + 4 * j)) (gm 7 j)) (by simp only [pu_sa]; exact h0) (by omega) (by omega)
    have row : ∀ i, sa (sa (sa (sa gm 10 (nI (c + 2 + 4 * j)) (gm 4 j)) 10 (nI (c + 3 + 4 * j)) (gm 5 j)) 10 (nI (c + 4 + 4 * j)) (gm 6 j)) 10 (nI (c + 5 + 4 * j)) (gm 7 j) 10 i = if i = c + 5 + 4 * j then gm 7 j else if i = c + 4 + 4 * j then gm 6 j else if i = c + 3 + 4 * j then gm 5 j else if i = c + 2 + 4 * j then gm 4 j else gm 10 i := by
      intro i
      rw [pu_sa, if_pos rfl, nI_clamp (by omega), pu_upd, pu_sa, if_pos rfl, nI_clamp (by omega), pu_upd, pu_sa, if_pos rfl, nI_clamp (by omega), pu_upd, pu_sa, if_pos rfl, nI_clamp (by omega), pu_upd]
    refine ⟨g', a1, ?_, ?_, ?_⟩
    · intro r hr'
      rw [a2 r hr', pu_sa, if_neg hr', pu_sa, if_neg hr', pu_sa, if_neg hr', pu_sa, if_neg hr']
    · intro b b1 b2
      rcases Nat.lt_or_ge j b with y | y
      · have := a3 b y b2
        simp only [pu_sa, if_neg (show ¬ 4 = 10 by omega), if_neg (show ¬ 5 = 10 by omega), if_neg (show ¬ 6 = 10 by omega), if_neg (show ¬ 7 = 10 by omega)] at this
        exact this
      · have : b = j := by omega
        subst this
        rw [a4 _ (by omega), a4 _ (by omega), a4 _ (by omega), a4 _ (by omega), row, row, row, row]
        refine ⟨?_, ?_, ?_, ?_⟩
        · rw [if_neg (by omega), if_neg (by omega), if_neg (by omega), if_pos rfl]
        · rw [if_neg (by omega), if_neg (by omega), if_pos rfl]
        · rw [if_neg (by omega), if_pos rfl]
        · rw [if_pos rfl]
    · intro i hi
      rw [a4 i (by omega), row, if_neg (by omega), if_neg (by omega), if_neg (by omega), if_neg (by omega)]
theorem keeps_ok (V : VS hh hr hc g B R H D K n o) (ho : g 0 11 = nI o) {s : Nat} (hs : g 0 22 = nI s) (hs2 : s ≤ 12) (hN : 1200 ≤ N) : ∃ g1 s', F_Mo_keeps N g = some g1 ∧ s' = (if s = 12 then 11 else s) ∧ (∀ r, r ≠ 0 → r ≠ 10 → g1 r = g r) ∧ (∀ i, i ≠ 22 → g1 0 i = g 0 i) ∧ g1 0 22 = nI (s' + 1) ∧ (∀ i, i < 98 * s' → g1 10 i = if s = 12 then g 10 (i + 98) else g 10 i) ∧ g1 10 (98 * s') = nI n ∧ g1 10 (98 * s' + 1) = nI o ∧ ∀ b, b < n → g1 10 (98 * s' + 2 + 4 * b) = g 4 b ∧ g1 10 (98 * s' + 3 + 4 * b) = g 5 b ∧ g1 10 (98 * s' + 4 + 4 * b) = g 6 b ∧ g1 10 (98 * s' + 5 + 4 * b) = g 7 b := by
  have hn := V.nn
  have pre : ∃ g2 s', (if ¬ (g 0 22) = 12 then some g else (Option.bind (L_Mo_keeps_12 N N 98 g) fun v6 => sv_let (ss v6 22 ((v6 0 22) - 1)) fun gm_7 => some gm_7)) = some g2 ∧ s' = (if s = 12 then 11 else s) ∧ (∀ r, r ≠ 0 → r ≠ 10 → g2 r = g r) ∧ (∀ i, i ≠ 22 → g2 0 i = g 0 i) ∧ g2 0 22 = nI s' ∧ (∀ i, i < 98 * s' → g2 10 i = if s = 12 then g 10 (i + 98) else g 10 i) := by
    by_cases c : s = 12
    · subst c
      obtain ⟨g', i1, i2, i3, i4⟩ := keeps_12 (N := N) 1078 0 N g (by omega) (by omega)
      rw [show nI (98 + 0) = 98 from rfl] at i1
      rw [hs, ifn (show nI 12 = 12 from rfl), i1]
      simp only [Option.bind_some, pu_let]
      refine ⟨_, 11, rfl, rfl, ?_, ?_, ?_, ?_⟩
      · intro r r0 r1; rw [pu_ssr, if_neg r0, i2 r r1]
      · intro i hi; rw [pu_ss, if_pos rfl, if_neg hi, i2 0 (by omega)]
      · rw [pu_ss, if_pos rfl, if_pos rfl, i2 0 (by omega), hs]; decide
      · intro i hi
        rw [pu_ssr, if_neg (by omega), i3 i (by omega) (by omega)]; rfl
    · have c' : ¬ g 0 22 = 12 := by rw [hs]; exact fun z => c ((nI_eq (b := 12) (by omega) (by omega)).mp z)
      rw [if_pos c']
      refine ⟨g, s, rfl, by rw [if_neg c], fun _ _ _ => rfl, fun _ _ => rfl, hs, ?_⟩
      intro i _; rw [if_neg c]
  obtain ⟨g2, s', p1, p2, p3, p4, p5, p6⟩ := pre
  have hs' : s' ≤ 11 := by rw [p2]; split <;> omega
  unfold F_Mo_keeps
  rw [p1]
  simp only [Option.bind_some, pu_let]
  have e1 : (98 : Int32) * g2 0 22 = nI (98 * s') := by
    rw [p5, show (98 : Int32) = nI 98 from rfl, pk_mul]
  have e2 : nI (98 * s') + 1 = nI (98 * s' + 1) := nI_1 _
  rw [e1, e2, if_pos (pu_in (by omega) (by omega)), if_pos (pu_in (by omega) (by omega)), p4 6 (by omega), V.n6]
  have q11 : sa g2 10 (nI (98 * s')) (nI n) 0 11 = nI o := by rw [pu_sa, if_neg (by omega), p4 11 (by omega), ho]
  rw [q11]
  obtain ⟨g', a1, a2, a3, a4⟩ := keeps_82 (N := N) (c := 98 * s') (n := n) (by omega) (by omega) n 0 N (sa (sa g2 10 (nI (98 * s')) (nI n)) 10 (nI (98 * s' + 1)) (nI o)) (by rw [pu_sa, if_neg (by omega), pu_sa, if_neg (by omega), p4 6 (by omega), V.n6]) (by omega) (by omega)
  rw [show nI 0 = 0 from rfl] at a1
  rw [a1]
  simp only [Option.bind_some]
  have row : ∀ i, sa (sa g2 10 (nI (98 * s')) (nI n)) 10 (nI (98 * s' + 1)) (nI o) 10 i = if i = 98 * s' + 1 then nI o else if i = 98 * s' then nI n else g2 10 i := by
    intro i
    rw [pu_sa, if_pos rfl, nI_clamp (by omega), pu_upd, pu_sa, if_pos rfl, nI_clamp (by omega), pu_upd]
  have rows : ∀ r, r ≠ 10 → sa (sa g2 10 (nI (98 * s')) (nI n)) 10 (nI (98 * s' + 1)) (nI o) r = g2 r := by
    intro r hr'; rw [pu_sa, if_neg hr', pu_sa, if_neg hr']
  refine ⟨_, s', rfl, p2, ?_, ?_, ?_, ?_, ?_, ?_, ?_⟩
  · intro r r0 r1; rw [pu_ssr, if_neg r0, a2 r r1, rows r r1, p3 r r0 r1]
  · intro i hi; rw [pu_ss, if_pos rfl, if_neg hi, a2 0 (by omega), rows 0 (by omega), p4 i hi]
  · rw [pu_ss, if_pos rfl, if_pos rfl, a2 0 (by omega), rows 0 (by omega), p5, nI_1]
  · intro i hi; rw [pu_ssr, if_neg (by omega), a4 i (by omega), row, if_neg (by omega), if_neg (by omega), p6 i hi]
  · rw [pu_ssr, if_neg (by omega), a4 _ (by omega), row, if_neg (by omega), if_pos rfl]
  · rw [pu_ssr, if_neg (by omega), a4 _ (by omega), row, if_pos rfl]
  · intro b hb
    have := a3 b (by omega) hb
    rw [rows 4 (by omega), rows 5 (by omega), rows 6 (by omega), rows 7 (by omega), p3 4 (by omega) (by omega), p3 5 (by omega) (by omega), p3 6 (by omega) (by omega), p3 7 (by omega) (by omega)] at this
    rw [pu_ssr, if_neg (by omega)]
    exact this
theorem PlOK_of (V : VS hh hr hc g B R H D K n o) (hh0 : NoH g H D (plN B R H D)) : PlOK (g 7) H D (plN B R H D) n := by
  have hn := V.nn
  have hP := V.pp
  refine ⟨?_, ?_, ?_⟩
  · intro b hb
    rcases V.plc hb with h | ⟨p, h1, h2, -⟩
    · exact Or.inl h
    · exact Or.inr ⟨p, h1, h2⟩
  · intro a b ha hb h1 h2
    rcases V.plc ha with h | ⟨p, p1, p2, p3⟩
    · exact absurd h h1
    · rcases V.plc hb with h | ⟨q, q1, q2, q3⟩
      · rw [h] at h2; exact absurd h2 h1
      · rw [p2, q2] at h2
        have := (nI_eq (by omega) (by omega)).mp h2
        subst this
        rw [p3] at q3
        exact (nI_eq (by omega) (by omega)).mp q3
  · intro b p hb h1 h2 h3
    have e : g 8 p = nI b := by
      rcases V.plc hb with h | ⟨q, q1, q2, q3⟩
      · rw [h] at h1; exact absurd h1 (pu_m1' (by omega))
      · rw [q2] at h1
        have := (nI_eq (by omega) (by omega)).mp h1
        subst this; exact q3
    have := hh0 p h2 (by rw [e]; exact pu_m1 (by omega)) h3
    rcases V.atb (p := p - 1) (by omega) with w | ⟨a, ha, -, w⟩
    · exact absurd w this
    · exact ⟨a, ha, w⟩
theorem PlOK_c {pl pl' : Nat → Int32} {P m : Nat} (h : PlOK pl H D P m) (e : ∀ b, b < m → pl' b = pl b) : PlOK pl' H D P m := by
  obtain ⟨h1, h2, h3⟩ := h
  refine ⟨?_, ?_, ?_⟩
  · intro b hb; rw [e b hb]; exact h1 b hb
  · intro a b ha hb q1 q2
    rw [e a ha] at q1 q2
    rw [e b hb] at q2
    exact h2 a b ha hb q1 q2
  · intro b p hb q1 q2 q3
    rw [e b hb] at q1
    obtain ⟨a, a1, a2⟩ := h3 b p hb q1 q2 q3
    exact ⟨a, a1, by rw [e a a1]; exact a2⟩
theorem RecR_c {P sl i i' m : Nat} {hy1 g1 : HH} (h : RecR hy g H D P sl i m) (hm : m ≤ 24) (e1 : ∀ x, x < 31 → hy1 1 (31 * sl + x) = hy 1 (31 * sl + x)) (e2 : ∀ x, x < 98 → g1 10 (98 * i' + x) = g 10 (98 * i + x)) (h1 : g1 1 = g 1) (e4 : ∀ b, b < m → g1 4 b = g 4 b ∧ g1 5 b = g 5 b ∧ g1 6 b = g 6 b) : RecR hy1 g1 H D P sl i' m := by
  obtain ⟨b1, b2, ⟨o', b3, b4, b5⟩, b6, b7⟩ := h
  refine ⟨?_, ?_, ⟨o', b3, ?_, ?_⟩, ?_, ?_⟩
  · have := e1 0 (by omega); rw [Nat.add_zero] at this; rw [this]; exact b1
  · have := e2 0 (by omega); rw [Nat.add_zero, Nat.add_zero] at this; rw [this]; exact b2
  · rw [e2 1 (by omega)]; exact b4
  · intro b hb; rw [Nat.add_assoc, e1 (1 + b) (by omega), wallv_c h1, ← Nat.add_assoc]; exact b5 b hb
  · intro b hb
    obtain ⟨c1, c2, c3, c4⟩ := b6 b hb
    obtain ⟨d1, d2, d3⟩ := e4 b hb
    rw [d1, d2, d3, Nat.add_assoc (98 * i'), e2 (2 + 4 * b) (by omega), Nat.add_assoc (98 * i'), e2 (3 + 4 * b) (by omega), Nat.add_assoc (98 * i'), e2 (4 + 4 * b) (by omega), Nat.add_assoc (98 * i'), e2 (5 + 4 * b) (by omega), Nat.add_assoc (31 * sl), e1 (7 + b) (by omega)]
    rw [Nat.add_assoc] at c1 c2 c3 c4
    refine ⟨c1, c2, c3, ?_⟩
    rw [c4, Nat.add_assoc]
  · exact PlOK_c b7 (fun b hb => by rw [Nat.add_assoc, e1 (7 + b) (by omega)])
/-- a mark in the spare slot changes no act kept -/
theorem HiR_mark {P : Nat} {hy1 : HH} {t : Nat} (hn : n ≤ 24) (hi : HiR hy g H D P n) (h1 : hy 0 1 = nI t) (ht : t < 13) (hr1 : ∀ r, r ≠ 1 → hy1 r = hy r) (hc1 : ∀ i, (i < 31 * t ∨ 31 * t + 31 ≤ i) → hy1 1 i = hy 1 i) : HiR hy1 g H D P n := by
  obtain ⟨s, t', M, a1, a2, a3, a4, a5, a6, a7, a8⟩ := hi
  have : t' = t := by rw [a4] at h1; exact (nI_eq (by omega) (by omega)).mp h1
  subst this
  refine ⟨s, t', M, a1, a2, by rw [hr1 0 (by omega)]; exact a3, by rw [hr1 0 (by omega)]; exact a4, a5, a6, a7, ?_⟩
  intro i hi
  have hsl : (t' + 13 - s + i) % 13 ≠ t' := by omega
  have hmi := a6 i hi
  exact RecR_c (a8 i hi) (by omega) (fun x hx => hc1 _ (by omega)) (fun _ _ => rfl) rfl (fun _ _ => ⟨rfl, rfl, rfl⟩)
/-- the acts kept depend on little -/
theorem HiR_c {P n' : Nat} {g1 : HH} (hn : n ≤ 24) (hi : HiR hy g H D P n) (hn' : n ≤ n') (e22 : g1 0 22 = g 0 22) (h10 : g1 10 = g 10) (h1 : g1 1 = g 1) (e4 : ∀ b, b < n → g1 4 b = g 4 b ∧ g1 5 b = g 5 b ∧ g1 6 b = g 6 b) : HiR hy g1 H D P n' := by
  obtain ⟨s, t', M, a1, a2, a3, a4, a5, a6, a7, a8⟩ := hi
  refine ⟨s, t', M, a1, a2, a3, a4, by rw [e22]; exact a5, fun i hi => Nat.le_trans (a6 i hi) hn', a7, ?_⟩
  intro i hi
  have hmi := a6 i hi
  exact RecR_c (a8 i hi) (by omega) (fun _ _ => rfl) (fun _ _ => by rw [h10]) h1 (fun b hb => e4 b (by omega))
theorem HiR_keep {s' : Nat} {hy1 g1 : HH} {t s : Nat} (V : VS hh hr hc g B R H D K n o) (hh0 : NoH g H D (plN B R H D)) (hi : HiR hy1 g H D (plN B R H D) n) (h1 : hy1 0 1 = nI t) (ht : t < 13) (mk : MkR hy1 hc g t n o) (hs : g 0 22 = nI s) (hs12 : s ≤ 12) (p2 : s' = (if s = 12 then 11 else s)) (p3 : ∀ r, r ≠ 0 → r ≠ 10 → g1 r = g r) (p5 : g1 0 22 = nI (s' + 1)) (p6 : ∀ i, i < 98 * s' → g1 10 i = if s = 12 then g 10 (i + 98) else g 10 i) (p7 : g1 10 (98 * s') = nI n) (p8 : g1 10 (98 * s' + 1) = nI o) (p9 : ∀ b, b < n → g1 10 (98 * s' + 2 + 4 * b) = g 4 b ∧ g1 10 (98 * s' + 3 + 4 * b) = g 5 b ∧ g1 10 (98 * s' + 4 + 4 * b) = g 6 b ∧ g1 10 (98 * s' + 5 + 4 * b) = g 7 b) : HiR (F_Hist_keep hy1) g1 H D (plN B R H D) n := by
  have hn := V.nn
  obtain ⟨s0, t', M, a1, a2, a3, a4, a5, a6, a7, a8⟩ := hi
  have : t' = t := by rw [a4] at h1; exact (nI_eq (by omega) (by omega)).mp h1
  subst this
  have : s0 = s := by
    rw [a5] at hs
    exact (nI_eq (by omega) (by omega)).mp hs
  subst this
  have kr : ∀ r, r ≠ 0 → F_Hist_keep hy1 r = hy1 r := by
    intro r hr'
    unfold F_Hist_keep
    simp only [pu_let]
    rw [pu_ssr, if_neg hr', pu_ssr, if_neg hr']
  have k1 : F_Hist_keep hy1 0 1 = nI ((t' + 1) % 13) := by
    unfold F_Hist_keep
    simp only [pu_let]
    rw [pu_ss, if_pos rfl, if_neg (by omega), pu_ss, if_pos rfl, if_pos rfl, a4, nI_1]
    by_cases c : t' = 12
    · subst c; rfl
    · have : ¬ (13 : Int32) ≤ nI (t' + 1) := nI_ge (a := t' + 1) (b := 13) (by omega) (by omega)
      rw [if_neg this, Nat.mod_eq_of_lt (by omega)]
  have k0 : F_Hist_keep hy1 0 0 = nI (s' + 1) := by
    unfold F_Hist_keep
    simp only [pu_let]
    have e : ∀ v, ss hy1 1 v 0 0 = nI s0 := fun v => by rw [pu_ss, if_pos rfl, if_neg (by omega), a3]
    rw [pu_ss, if_pos rfl, if_pos rfl, e, nI_1, p2]
    by_cases c : s0 = 12
    · subst c; rfl
    · have : ¬ (12 : Int32) < nI (s0 + 1) := nI_nlt (b := s0 + 1) (a := 12) (by omega) (by omega)
      rw [if_neg this, if_neg c]
  have hs' : s' ≤ 11 := by rw [p2]; split <;> omega
  have r1 : g1 1 = g 1 := p3 1 (by omega) (by omega)
  have r4 : g1 4 = g 4 := p3 4 (by omega) (by omega)
  have r5 : g1 5 = g 5 := p3 5 (by omega) (by omega)
  have r6 : g1 6 = g 6 := p3 6 (by omega) (by omega)
  -- the new act
  have new : RecR (F_Hist_keep hy1) g1 H D (plN B R H D) t' s' n := by
    obtain ⟨m1, m2, m3⟩ := mk
    have c4 : ∀ b, b < n → hc 4 b = g 7 b := fun b hb => (V.2.2.2.2.2.2.1 b hb).2.2.2
    refine ⟨?_, p7, ⟨o, V.2.1.2.2, p8, ?_⟩, ?_, ?_⟩
    · rw [kr 1 (by omega)]; exact m1
    · intro b hb; rw [kr 1 (by omega), wallv_c r1]; exact m2 b hb
    · intro b hb
      obtain ⟨q1, q2, q3, q4⟩ := p9 b hb
      rw [kr 1 (by omega), m3 b (by omega), c4 b hb, r4, r5, r6]
      exact ⟨q1, q2, q3, q4⟩
    · exact PlOK_c (PlOK_of V hh0) (fun b hb => by rw [kr 1 (by omega), m3 b (by omega), c4 b hb])
  by_cases c : s0 = 12
  · subst c
    have hs11 : s' = 11 := p2
    subst hs11
    refine ⟨12, (t' + 1) % 13, fun i => if i < 11 then M (i + 1) else n, by omega, Nat.mod_lt _ (by omega), k0, k1, p5, ?_, ?_, ?_⟩
    · intro i hi
      show (if i < 11 then M (i + 1) else n) ≤ n
      split
      · exact a6 _ (by omega)
      · omega
    · intro i j h1 h2
      show (if i < 11 then M (i + 1) else n) ≤ (if j < 11 then M (j + 1) else n)
      rw [if_pos (by omega)]
      split
      · exact a7 _ _ (by omega) (by omega)
      · exact a6 _ (by omega)
    · intro i hi
      show RecR _ _ _ _ _ _ _ (if i < 11 then M (i + 1) else n)
      by_cases ci : i < 11
      · rw [if_pos ci]
        have e : ((t' + 1) % 13 + 13 - 12 + i) % 13 = (t' + 13 - 12 + (i + 1)) % 13 := by omega
        rw [e]
        have hm := a6 (i + 1) (by omega)
        refine RecR_c (a8 (i + 1) (by omega)) (by omega) (fun x _ => by rw [kr 1 (by omega)]) (fun x hx => ?_) r1 (fun b _ => by rw [r4, r5, r6]; exact ⟨rfl, rfl, rfl⟩)
        rw [p6 _ (by omega), if_pos rfl]
        congr 1
        omega
      · have : i = 11 := by omega
        subst this
        rw [if_neg ci]
        have e : ((t' + 1) % 13 + 13 - 12 + 11) % 13 = t' := by omega
        rw [e]
        exact new
  · have hss : s' = s0 := by rw [p2, if_neg c]
    subst hss
    refine ⟨s' + 1, (t' + 1) % 13, fun i => if i < s' then M i else n, by omega, Nat.mod_lt _ (by omega), k0, k1, p5, ?_, ?_, ?_⟩
    · intro i hi
      show (if i < s' then M i else n) ≤ n
      split
      · exact a6 _ (by omega)
      · omega
    · intro i j h1 h2
      show (if i < s' then M i else n) ≤ (if j < s' then M j else n)
      rw [if_pos (by omega)]
      split
      · exact a7 _ _ (by omega) (by omega)
      · exact a6 _ (by omega)
    · intro i hi
      show RecR _ _ _ _ _ _ _ (if i < s' then M i else n)
      by_cases ci : i < s'
      · rw [if_pos ci]
        have e : ((t' + 1) % 13 + 13 - (s' + 1) + i) % 13 = (t' + 13 - s' + i) % 13 := by omega
        rw [e]
        have hm := a6 i ci
        refine RecR_c (a8 i ci) (by omega) (fun x _ => by rw [kr 1 (by omega)]) (fun x hx => ?_) r1 (fun b _ => by rw [r4, r5, r6]; exact ⟨rfl, rfl, rfl⟩)
        rw [p6 _ (by omega), if_neg c]
      · have : i = s' := by omega
        subst this
        rw [if_neg ci]
        have e : ((t' + 1) % 13 + 13 - (i + 1) + i) % 13 = t' := by omega
        rw [e]
        exact new
/-- both keep what is now -/
theorem act_ok (V : VS hh hr hc g B R H D K n o) (ho : g 0 11 = nI o) (hh0 : NoH g H D (plN B R H D)) (hi : HiR hy g H D (plN B R H D) n) (hN : 1200 ≤ N) (hN' : 1200 ≤ N') : ∃ hy1 g1, F_Hist_mark N hy hh hc = some hy1 ∧ F_Mo_keeps N' g = some g1 ∧ HiR hy1 g H D (plN B R H D) n ∧ HiR (F_Hist_keep hy1) g1 H D (plN B R H D) n ∧ (∀ r, r ≠ 0 → r ≠ 10 → g1 r = g r) ∧ ∀ i, i ≠ 22 → g1 0 i = g 0 i := by
  have hn := V.nn
  have hi0 := hi
  obtain ⟨s, t, M, a1, a2, a3, a4, a5, -⟩ := hi0
  obtain ⟨hy1, m1, m2, m3, m4⟩ := mark_ok (N := N) V a2 a4 (by omega)
  obtain ⟨g1, s', q1, q2, q3, q4, q5, q6, q7, q8, q9⟩ := keeps_ok (N := N') V ho a5 a1 hN'
  have hm := HiR_mark hn hi a4 a2 m2 m4
  exact ⟨hy1, g1, m1, q1, hm, HiR_keep V hh0 hm (by rw [m2 0 (by omega)]; exact a4) a2 m3 a5 a1 q2 q3 q5 q6 q7 q8 q9, q3, q4⟩
end HIST
