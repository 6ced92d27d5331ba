/-! ===== pure: numbers, rows ===== -/
abbrev HH : Type := Nat → Nat → Int32
section PB
theorem pu_let {α β : Type} (x : α) (f : α → β) : sv_let x f = f x := rfl
theorem pu_sr (h : HH) (r : Nat) (f : Nat → Int32) (k : Nat) : sr h r f k = if k = r then f else h k := by
  unfold sr
  by_cases e : k = r
  · subst e; simp
  · rw [if_neg e]
    cases hb : Nat.beq k r with
    | true => exact absurd (Nat.eq_of_beq_eq_true hb) e
    | false => rfl
theorem pu_upd (f : Nat → Int32) (k : Nat) (x : Int32) (j : Nat) : upd f k x j = if j = k then x else f j := rfl
theorem pu_ku (k : KS) (i : Nat) (h : HH) (j : Nat) : ku k i h j = if j = i then h else k j := by
  unfold ku
  by_cases e : j = i
  · subst e; simp
  · rw [if_neg e]
    cases hb : Nat.beq j i with
    | true => exact absurd (Nat.eq_of_beq_eq_true hb) e
    | false => rfl
theorem pu_ss (h : HH) (k : Nat) (v : Int32) (r i : Nat) : ss h k v r i = if r = 0 then (if i = k then v else h 0 i) else h r i := by
  unfold ss
  rw [pu_sr]
  by_cases e : r = 0
  · subst e; simp [pu_upd]
  · rw [if_neg e, if_neg e]
theorem pu_in {n N : Nat} (h : n < N) (hN : N < 2 ^ 31) : sv_in (nI n) N := nI_in h hN
theorem pu_rd {n j : Nat} (f : Nat → Int32) (h : j < n) (hn : n < 2 ^ 31) : rd n f (nI j) = f j := by
  show (if nI j < 0 then -1 else if nI n ≤ nI j then -1 else f (nI j).toNatClampNeg) = f j
  rw [if_neg (nI_pos (by omega)), if_neg (nI_ge h hn), nI_clamp (by omega)]
theorem pu_rdm {n : Nat} (f : Nat → Int32) : rd n f (-1) = -1 := by
  unfold rd
  rw [if_pos (by decide)]
theorem pu_rdo {n j : Nat} (f : Nat → Int32) (h : n ≤ j) (hj : j < 2 ^ 31) : rd n f (nI j) = -1 := by
  show (if nI j < 0 then -1 else if nI n ≤ nI j then -1 else f (nI j).toNatClampNeg) = -1
  rw [if_neg (nI_pos (by omega)), if_pos (nI_le h hj)]
theorem pu_wr {n j : Nat} (f : Nat → Int32) (v : Int32) (h : j < n) (hn : n < 2 ^ 31) : wr n f (nI j) v = upd f j v := by
  show (if nI j < 0 then f else if nI n ≤ nI j then f else upd f (nI j).toNatClampNeg v) = upd f j v
  rw [if_neg (nI_pos (by omega)), if_neg (nI_ge h hn), nI_clamp (by omega)]
theorem pu_wrm {n : Nat} (f : Nat → Int32) (v : Int32) : wr n f (-1) v = f := by
  unfold wr
  rw [if_pos (by decide)]
theorem pu_wro {n j : Nat} (f : Nat → Int32) (v : Int32) (h : n ≤ j) (hj : j < 2 ^ 31) : wr n f (nI j) v = f := by
  show (if nI j < 0 then f else if nI n ≤ nI j then f else upd f (nI j).toNatClampNeg v) = f
  rw [if_neg (nI_pos (by omega)), if_pos (nI_le h hj)]
theorem pu_m1 {n : Nat} (h : n < 2 ^ 31) : ¬ nI n = -1 := by
  intro e
  have := congrArg Int32.toInt e
  rw [nI_toInt h] at this
  have h2 : (-1 : Int32).toInt = -1 := by decide
  rw [h2] at this
  omega
theorem pu_m1' {n : Nat} (h : n < 2 ^ 31) : ¬ (-1 : Int32) = nI n := fun e => pu_m1 h e.symm
theorem pu_l64 (a b : Int32) : a.toInt64 < b.toInt64 ↔ a < b := by
  rw [Int64.lt_iff_toInt_lt, Int32.lt_iff_toInt_lt, Int32.toInt_toInt64, Int32.toInt_toInt64]
theorem pu_e64 (a b : Int32) : a.toInt64 = b.toInt64 ↔ a = b := by
  rw [← Int64.toInt_inj, ← Int32.toInt_inj, Int32.toInt_toInt64, Int32.toInt_toInt64]
theorem pu_cmp_lt (a b : Int32) : lg_cmp a.toInt64 b.toInt64 < 0 ↔ a < b := by
  unfold lg_cmp
  simp only [gt_iff_lt, pu_l64, pu_e64]
  have tri : a < b ↔ a.toInt < b.toInt := Int32.lt_iff_toInt_lt
  have tri2 : b < a ↔ b.toInt < a.toInt := Int32.lt_iff_toInt_lt
  have tri3 : a.toInt = b.toInt ↔ a = b := Int32.toInt_inj
  by_cases h1 : b < a
  · rw [if_pos h1]
    exact ⟨fun z => absurd z (by decide), fun z => by exfalso; have := tri.mp z; have := tri2.mp h1; omega⟩
  · rw [if_neg h1]
    by_cases h2 : a = b
    · rw [if_pos h2]
      exact ⟨fun z => absurd z (by decide), fun z => by exfalso; have := tri.mp z; have := tri3.mpr h2; omega⟩
    · rw [if_neg h2]
      refine ⟨fun _ => ?_, fun _ => by decide⟩
      rw [tri]
      have q1 : ¬ b.toInt < a.toInt := fun z => h1 (tri2.mpr z)
      have q2 : ¬ a.toInt = b.toInt := fun z => h2 (tri3.mp z)
      omega
theorem pu_cmp_gt (a b : Int32) : 0 < lg_cmp a.toInt64 b.toInt64 ↔ b < a := by
  unfold lg_cmp
  simp only [gt_iff_lt, pu_l64, pu_e64]
  by_cases h1 : b < a
  · rw [if_pos h1]
    exact ⟨fun _ => h1, fun _ => by decide⟩
  · rw [if_neg h1]
    refine ⟨fun z => ?_, fun z => absurd z h1⟩
    exfalso
    by_cases h2 : a = b
    · rw [if_pos h2] at z; exact absurd z (by decide)
    · rw [if_neg h2] at z; exact absurd z (by decide)
theorem pu_inw (a b c : Int32) : F_Mo_in a.toInt64 b.toInt64 c.toInt64 = F_K_within a b c := by
  unfold F_Mo_in F_K_within
  simp only [pu_cmp_lt, pu_cmp_gt]
theorem pu_in0 (a c : Int32) : F_Mo_in a.toInt64 0 c.toInt64 = F_K_within a 0 c := pu_inw a 0 c
theorem pu_w (a b c : Int32) : F_K_within a b c = if b ≤ a ∧ a ≤ c then 1 else 0 := by
  unfold F_K_within
  by_cases h1 : a < b
  · rw [if_pos h1, if_neg (fun z => absurd z.1 (Int32.not_le.mpr h1))]
  · rw [if_neg h1]
    by_cases h2 : c < a
    · rw [if_pos h2, if_neg (fun z => absurd z.2 (Int32.not_le.mpr h2))]
    · rw [if_neg h2, if_pos ⟨Int32.not_lt.mp h1, Int32.not_lt.mp h2⟩]
/-- a number below n, or not -/
theorem pu_wn (a : Int32) {n : Nat} (hn : n < 2 ^ 30) : (∃ j, j < n ∧ a = nI j ∧ F_K_within a 0 (nI n - 1) = 1) ∨ ((∀ j, j < n → a ≠ nI j) ∧ F_K_within a 0 (nI n - 1) = 0) := by
  have e : (nI n - nI 1).toInt = (n : Int) - 1 := pk_sub_toInt (by omega) (by omega)
  rw [pu_w]
  by_cases h : 0 ≤ a ∧ a ≤ nI n - 1
  · left
    have h1 : ¬ a < 0 := Int32.not_lt.mpr h.1
    obtain ⟨j, hj, rfl⟩ := nI_of h1
    have h2 := Int32.le_iff_toInt_le.mp h.2
    rw [show (1 : Int32) = nI 1 from rfl, e, nI_toInt hj] at h2
    exact ⟨j, by omega, rfl, by rw [if_pos h]⟩
  · right
    refine ⟨?_, by rw [if_neg h]⟩
    intro j hj ha
    apply h
    subst ha
    refine ⟨nI_pos' (by omega), ?_⟩
    rw [Int32.le_iff_toInt_le, show (1 : Int32) = nI 1 from rfl, e, nI_toInt (by omega)]
    omega
theorem pu_wc (a : Int32) (lo hi : Nat) (hl : lo ≤ hi) (hh : hi < 2 ^ 30) : (∃ j, lo ≤ j ∧ j ≤ hi ∧ a = nI j ∧ F_K_within a (nI lo) (nI hi) = 1) ∨ ((∀ j, lo ≤ j → j ≤ hi → a ≠ nI j) ∧ F_K_within a (nI lo) (nI hi) = 0) := by
  rw [pu_w]
  by_cases h : nI lo ≤ a ∧ a ≤ nI hi
  · left
    have h0 : 0 ≤ a := Int32.le_trans (nI_pos' (n := lo) (by omega)) h.1
    obtain ⟨j, hj, rfl⟩ := nI_of (Int32.not_lt.mpr h0)
    exact ⟨j, (nI_leI (by omega) hj).mp h.1, (nI_leI hj (by omega)).mp h.2, rfl, by rw [if_pos h]⟩
  · right
    refine ⟨?_, by rw [if_neg h]⟩
    intro j h1 h2 ha
    subst ha
    exact h ⟨(nI_leI (by omega) (by omega)).mpr h1, (nI_leI (by omega) (by omega)).mpr h2⟩
end PB
