/-! ===== pure: the tape, books, clears, opens ===== -/
theorem pu_b8 (x : Int32) : x.toInt8.toInt32 &&& 255 = x &&& 255 := by
  apply Int32.toBitVec_inj.mp
  rw [Int32.toBitVec_and, Int32.toBitVec_and, Int8.toBitVec_toInt32, Int32.toBitVec_toInt8]
  apply BitVec.eq_of_getLsbD_eq
  intro i hi
  rw [BitVec.getLsbD_and, BitVec.getLsbD_and]
  have hm : ∀ i < 32, 8 ≤ i → (255 : Int32).toBitVec.getLsbD i = false := by decide
  rcases Nat.lt_or_ge i 8 with z | z
  · rw [BitVec.getLsbD_signExtend, BitVec.getLsbD_signExtend, if_pos z, if_pos hi]
    simp only [z, hi, decide_true, Bool.true_and]
  · rw [hm i hi z]; simp
theorem pu_small {n : Nat} (h : n < 128) : (nI n).toInt8.toInt32 = nI n := by
  have : ∀ j : Fin 128, (nI j.val).toInt8.toInt32 = nI j.val := by decide +kernel
  exact this ⟨n, h⟩
theorem pu_twice (x : Int32) : x.toInt8.toInt32.toInt8.toInt32 = x.toInt8.toInt32 := by simp
theorem pu_sh (x s : Int32) (q : Nat) (hq : q = 1 ∨ q = 256 ∨ q = 65536 ∨ q = 16777216) (k : Nat) (hk : 2 ^ k = q) (h1 : ((s &&& 31).toBitVec.smod 32).toNat = k) (h2 : ((s.toUInt32 &&& Int32.toUInt32 31).toBitVec % 32).toNat = k) : (x >>> (s &&& 31)) &&& 255 = ((x.toUInt32 >>> (s.toUInt32 &&& Int32.toUInt32 31)).toInt32) &&& 255 := by
  rw [pk_and (x >>> (s &&& 31)) (m := 255) 8 (by decide), pk_and ((x.toUInt32 >>> (s.toUInt32 &&& Int32.toUInt32 31)).toInt32) (m := 255) 8 (by decide), pk_ushr x s k h2]
  congr 1
  have e1 := pk_shr x (s &&& 31) k h1
  have a1 := BitVec.toInt_eq_toNat_cond x.toBitVec
  have a2 := BitVec.toInt_eq_toNat_cond (x >>> (s &&& 31)).toBitVec
  have e2 : (x >>> (s &&& 31)).toBitVec.toInt = x.toBitVec.toInt >>> k := e1
  rw [Int.shiftRight_eq_div_pow, hk] at e2
  rw [hk]
  have b1 := x.toBitVec.isLt
  have b2 := (x >>> (s &&& 31)).toBitVec.isLt
  generalize x.toBitVec.toNat = T at *
  generalize (x >>> (s &&& 31)).toBitVec.toNat = U at *
  rw [a1] at e2
  rw [a2] at e2
  rcases hq with rfl | rfl | rfl | rfl
  all_goals
    split at e2 <;> split at e2 <;> omega
/-- a byte of a number, as both write it -/
theorem pu_byte (x s : Int32) (hs : s = 24 ∨ s = 16 ∨ s = 8 ∨ s = 0) : ∃ c, c < 256 ∧ ((x.toUInt32 >>> (s.toUInt32 &&& Int32.toUInt32 31)).toInt32) &&& 255 = nI c ∧ (vp_nar .byte ((x >>> (s &&& 31)).toInt8.toInt32)) &&& 255 = nI c ∧ (c < 128 → vp_nar .byte ((x >>> (s &&& 31)).toInt8.toInt32) = nI c) := by
  rw [pk_vb, pu_b8]
  have e : (x >>> (s &&& 31)) &&& 255 = ((x.toUInt32 >>> (s.toUInt32 &&& Int32.toUInt32 31)).toInt32) &&& 255 := by
    rcases hs with rfl | rfl | rfl | rfl
    · exact pu_sh x 24 16777216 (by omega) 24 (by omega) (by decide) (by decide)
    · exact pu_sh x 16 65536 (by omega) 16 (by omega) (by decide) (by decide)
    · exact pu_sh x 8 256 (by omega) 8 (by omega) (by decide) (by decide)
    · exact pu_sh x 0 1 (by omega) 0 (by omega) (by decide) (by decide)
  obtain ⟨c, hc, h⟩ := pk_andE ((x.toUInt32 >>> (s.toUInt32 &&& Int32.toUInt32 31)).toInt32) (m := 255) 8 (by decide)
  refine ⟨c, hc, h, by rw [e, h], fun h128 => ?_⟩
  have h3 : (x >>> (s &&& 31)).toInt8.toInt32 &&& 255 = nI c := by rw [pu_b8, e, h]
  have h4 := (sc_eq (pu_twice (x >>> (s &&& 31))) (n := c) (by omega)).mpr h3
  rw [h4, pu_small h128]
section TAPE
variable {k k' : KS} {g g' : HH} {hy hh hr hc ht : HH} {B R H D K n o N N' : Nat}
/-- the tapes agree -/
def TpR (ht g : HH) (s : Nat) : Prop := s ≤ 900 ∧ ht 0 1 = nI s ∧ g 0 14 = nI s ∧ ∀ i, i < s → ∃ c, c < 256 ∧ ht 1 i = nI c ∧ g 9 i &&& 255 = nI c ∧ (c < 128 → g 9 i = nI c)
theorem tp_step {s : Nat} (T : TpR ht g s) (hs : s < 900) (x sh : Int32) (hsh : sh = 24 ∨ sh = 16 ∨ sh = 8 ∨ sh = 0) (ht' g' : HH) (e1 : ht' = ss (sw ht 1 900 (ht 0 1) (((x.toUInt32 >>> (sh.toUInt32 &&& Int32.toUInt32 31)).toInt32) &&& 255)) 1 ((sw ht 1 900 (ht 0 1) (((x.toUInt32 >>> (sh.toUInt32 &&& Int32.toUInt32 31)).toInt32) &&& 255)) 0 1 + 1)) (e2 : g' = ss (sa g 9 (g 0 14) (vp_nar .byte ((x >>> (sh &&& 31)).toInt8.toInt32))) 14 ((sa g 9 (g 0 14) (vp_nar .byte ((x >>> (sh &&& 31)).toInt8.toInt32))) 0 14 + 1)) : TpR ht' g' (s + 1) := by
  obtain ⟨t1, t2, t3, t4⟩ := T
  obtain ⟨c, c1, c2, c3, c4⟩ := pu_byte x sh hsh
  subst e1 e2
  refine ⟨by omega, ?_, ?_, ?_⟩
  · rw [pu_ss, if_pos rfl, if_pos rfl, pu_sw, if_neg (by omega), t2, nI_1]
  · rw [pu_ss, if_pos rfl, if_pos rfl, pu_sa, if_neg (by omega), t3, nI_1]
  · intro i hi
    rw [pu_ssr, if_neg (by omega), pu_ssr, if_neg (by omega), pu_sw, if_pos rfl, pu_sa, if_pos rfl, t2, t3, pu_wr _ _ hs (by omega), nI_clamp (by omega), pu_upd, pu_upd]
    by_cases e : i = s
    · subst e
      rw [if_pos rfl, if_pos rfl]
      exact ⟨c, c1, c2, c3, c4⟩
    · rw [if_neg e, if_neg e]
      exact t4 i (by omega)
theorem tp_app {s : Nat} (T : TpR ht g s) (hs : s + 4 ≤ 900) (x : Int32) (hN : 10 ≤ N) (hN' : 10 ≤ N') : ∃ ht' g', F_Tape_append N x ht = some ht' ∧ F_Mo_puts4 N' x g = some g' ∧ TpR ht' g' (s + 4) ∧ (∀ r, r ≠ 0 → r ≠ 9 → g' r = g r) ∧ ∀ i, i ≠ 14 → g' 0 i = g 0 i := by
  have st : ∀ (f f' s : Nat) (ht g : HH) (sh : Int32), TpR ht g s → s < 900 → (sh = 24 ∨ sh = 16 ∨ sh = 8 ∨ sh = 0) → ∃ ht' g', L_Tape_append_3 N (f + 1) x sh ht = L_Tape_append_3 N f x (sh + -8) ht' ∧ L_Mo_puts4_3 N' (f' + 1) x sh g = L_Mo_puts4_3 N' f' x (sh + -8) g' ∧ TpR ht' g' (s + 1) ∧ (∀ r, r ≠ 0 → r ≠ 9 → g' r = g r) ∧ ∀ i, i ≠ 14 → g' 0 i = g 0 i := by
    intro f f' s ht g sh T hs hsh
    have hn : ¬ sh < 0 := by rcases hsh with rfl | rfl | rfl | rfl <;> decide
    have h9 : sv_in (g 0 14) 900 := by rw [T.2.2.1]; exact pu_in hs (by omega)
    refine ⟨_, _, ?_, ?_, tp_step T hs x sh hsh _ _ rfl rfl, ?_, ?_⟩
    · rw [L_Tape_append_3, if_neg hn]; rfl
    · rw [L_Mo_puts4_3, if_neg hn, if_pos h9]; rfl
    · intro r r0 r9; rw [pu_ssr, if_neg r0, pu_sa, if_neg r9]
    · intro i hi; rw [pu_ss, if_pos rfl, if_neg hi, pu_sa, if_neg (by omega)]
  obtain ⟨f, rfl⟩ : ∃ z, N = z + 5 := ⟨N - 5, by omega⟩
  obtain ⟨f', rfl⟩ : ∃ z, N' = z + 5 := ⟨N' - 5, by omega⟩
  obtain ⟨h1, g1, a1, b1, c1, d1, e1⟩ := st (f + 4) (f' + 4) s ht g 24 T (by omega) (by simp)
  obtain ⟨h2, g2, a2, b2, c2, d2, e2⟩ := st (f + 3) (f' + 3) _ h1 g1 16 c1 (by omega) (by simp)
  obtain ⟨h3, g3, a3, b3, c3, d3, e3⟩ := st (f + 2) (f' + 2) _ h2 g2 8 c2 (by omega) (by simp)
  obtain ⟨h4, g4, a4, b4, c4, d4, e4⟩ := st (f + 1) (f' + 1) _ h3 g3 0 c3 (by omega) (by simp)
  refine ⟨h4, g4, ?_, ?_, c4, ?_, ?_⟩
  · unfold F_Tape_append
    rw [a1, show (24 : Int32) + -8 = 16 by decide, a2, show (16 : Int32) + -8 = 8 by decide, a3, show (8 : Int32) + -8 = 0 by decide, a4]
    rfl
  · unfold F_Mo_puts4
    rw [b1, show (24 : Int32) + -8 = 16 by decide, b2, show (16 : Int32) + -8 = 8 by decide, b3, show (8 : Int32) + -8 = 0 by decide, b4]
    rfl
  · intro r r0 r9; rw [d4 r r0 r9, d3 r r0 r9, d2 r r0 r9, d1 r r0 r9]
  · intro i hi; rw [e4 i hi, e3 i hi, e2 i hi, e1 i hi]
/-- all but the tape is as it was -/
theorem Inv_tp (I : Inv k g) {s : Nat} (T : TpR ht g' s) (h1 : ∀ r, r ≠ 0 → r ≠ 9 → g' r = g r) (h0 : ∀ i, i ≠ 14 → g' 0 i = g 0 i) : Inv (ku k 7 ht) g' := by
  refine ⟨⟨⟨s, T.1, ?_, T.2.2.1, ?_⟩, ?_, ?_⟩, ?_⟩
  · simp only [pu_ku]; exact T.2.1
  · simp only [pu_ku]; exact T.2.2.2
  · simp only [pu_ku]
    rw [h0 20 (by omega), h0 21 (by omega)]
    exact I.1.2.1
  · simp only [pu_ku]
    rw [h0 46 (by omega), h1 22 (by omega) (by omega)]
    exact I.1.2.2
  · rcases I.2 with J | ⟨B, R, H, D, K, n, o, J⟩
    · left
      unfold InvN at *
      simp only [pu_ku]
      rw [h0 1 (by omega), h0 6 (by omega), h0 22 (by omega), h1 1 (by omega) (by omega)]
      exact J
    · right
      refine ⟨B, R, H, D, K, n, o, ?_⟩
      have hn := J.2.2.1.nn
      refine ⟨?_, ?_, ?_, ?_, ?_, ?_, ?_, ?_⟩
      · simp only [pu_ku]; exact J.1
      · rw [h0 1 (by omega)]; exact J.2.1
      · simp only [pu_ku]
        exact J.2.2.1.cg (h1 1 (by omega) (by omega)) (h0 6 (by omega)) (h1 4 (by omega) (by omega)) (h1 5 (by omega) (by omega)) (h1 6 (by omega) (by omega)) (h1 7 (by omega) (by omega)) (h1 8 (by omega) (by omega))
      · rw [h0 11 (by omega)]; exact J.2.2.2.1
      · unfold NoH; rw [h1 8 (by omega) (by omega)]; exact J.2.2.2.2.1
      · simp only [pu_ku]
        exact HiR_c hn J.2.2.2.2.2.1 (Nat.le_refl _) (h0 22 (by omega)) (h1 10 (by omega) (by omega)) (h1 1 (by omega) (by omega)) (fun b _ => by rw [h1 4 (by omega) (by omega), h1 5 (by omega) (by omega), h1 6 (by omega) (by omega)]; exact ⟨rfl, rfl, rfl⟩)
      · simp only [pu_ku]
        exact ToR_c J.2.2.2.2.2.2.1 (h0 32 (by omega)) (h1 14 (by omega) (by omega)) (h1 15 (by omega) (by omega))
      · simp only [pu_ku]
        exact ShR_c J.2.2.2.2.2.2.2 (h0 37 (by omega)) (h1 16 (by omega) (by omega))
theorem fd_K0 {s : Nat} (T : TpR ht g s) (c : 900 < s + 20) (a1 a2 a3 a4 a5 : Int32) : F_K_feed N a1 a2 a3 a4 a5 ht = some (-1, ht) := by
  unfold F_K_feed F_Tape_hasRoom
  have : (900 : Int32) < ht 0 1 + 20 := by
    rw [T.2.1, show (20 : Int32) = nI 20 from rfl, nI_add, show (900 : Int32) = nI 900 from rfl]
    exact nI_lt c (by have := T.1; omega)
  rw [if_pos this, ife0]
theorem fd_M0 {s : Nat} (T : TpR ht g s) (c : 900 < s + 20) (a1 a2 a3 a4 a5 : Int32) : F_Mo_feed N a1 a2 a3 a4 a5 g = some (-1, g) := by
  unfold F_Mo_feed
  have : ¬ g 0 14 + 20 ≤ (900 : Int32) := by
    rw [T.2.2.1, show (20 : Int32) = nI 20 from rfl, nI_add, show (900 : Int32) = nI 900 from rfl]
    exact nI_ge c (by have := T.1; omega)
  rw [if_neg this]
theorem fd_1 {s : Nat} (T : TpR ht g s) (c : s + 20 ≤ 900) (a1 a2 a3 a4 a5 : Int32) (hN : 10 ≤ N) : ∃ ht' g', F_K_feed N a1 a2 a3 a4 a5 ht = some (nI (s + 20), ht') ∧ F_Mo_feed N a1 a2 a3 a4 a5 g = some (nI (s + 20), g') ∧ TpR ht' g' (s + 20) ∧ (∀ r, r ≠ 0 → r ≠ 9 → g' r = g r) ∧ ∀ i, i ≠ 14 → g' 0 i = g 0 i := by
  obtain ⟨h1, g1, p1, q1, T1, r1, z1⟩ := tp_app (N := N) (N' := N) T (by omega) a1 hN hN
  obtain ⟨h2, g2, p2, q2, T2, r2, z2⟩ := tp_app (N := N) (N' := N) T1 (by omega) a2 hN hN
  obtain ⟨h3, g3, p3, q3, T3, r3, z3⟩ := tp_app (N := N) (N' := N) T2 (by omega) a3 hN hN
  obtain ⟨h4, g4, p4, q4, T4, r4, z4⟩ := tp_app (N := N) (N' := N) T3 (by omega) a4 hN hN
  obtain ⟨h5, g5, p5, q5, T5, r5, z5⟩ := tp_app (N := N) (N' := N) T4 (by omega) a5 hN hN
  have es : s + 4 + 4 + 4 + 4 + 4 = s + 20 := by omega
  rw [es] at T5
  have e20 : nI s + 20 = nI (s + 20) := nI_add s 20
  refine ⟨h5, g5, ?_, ?_, T5, ?_, ?_⟩
  · unfold F_K_feed F_Tape_hasRoom
    have : ¬ (900 : Int32) < ht 0 1 + 20 := by
      rw [T.2.1, e20, show (900 : Int32) = nI 900 from rfl]
      exact nI_nlt c (by omega)
    rw [if_neg this, if_pos pu_10, p1]
    simp only [Option.bind_some, p2, p3, p4, p5]
    rw [T5.2.1]
  · unfold F_Mo_feed
    have : g 0 14 + 20 ≤ (900 : Int32) := by
      rw [T.2.2.1, e20, show (900 : Int32) = nI 900 from rfl]
      exact nI_le c (by omega)
    rw [if_pos this, q1]
    simp only [Option.bind_some, q2, q3, q4, q5]
    rw [T5.2.2.1]
  · intro r r0 r9; rw [r5 r r0 r9, r4 r r0 r9, r3 r r0 r9, r2 r r0 r9, r1 r r0 r9]
  · intro i hi; rw [z5 i hi, z4 i hi, z3 i hi, z2 i hi, z1 i hi]
theorem sim_0 : Sim_0 Inv := by
  intro a1 a2 a3 a4 a5 k g I
  obtain ⟨s, T⟩ := I.1.1
  have T : TpR (k 7) g s := T
  rcases Nat.lt_or_ge 900 (s + 20) with c | c
  · refine ⟨30, 30, -1, k, g, ?_, ?_, I⟩
    · unfold KO_0
      rw [fd_K0 T c]
      show some (-1, ku k 7 (k 7)) = _
      rw [ku_self]
    · unfold MO_0
      rw [fd_M0 T c]
      rfl
  · obtain ⟨h5, g5, e1, e2, T5, r5, z5⟩ := fd_1 (N := 30) T c a1 a2 a3 a4 a5 (by omega)
    refine ⟨30, 30, nI (s + 20), ku k 7 h5, g5, ?_, ?_, Inv_tp I T5 r5 z5⟩
    · unfold KO_0; rw [e1]; rfl
    · unfold MO_0; rw [e2]; rfl
theorem sim_1 : Sim_1 Inv := by
  intro a1 k g I
  obtain ⟨s, T⟩ := I.1.1
  have T : TpR (k 7) g s := T
  have hs := T.1
  have eK : F_K_end a1 (k 7) = if ¬ (F_K_within a1 0 (nI s)) = 0 then (a1, ss (k 7) 1 a1) else (-1, k 7) := by
    unfold F_K_end; rw [T.2.1]; rfl
  have eM : F_Mo_end a1 g = if ¬ (F_K_within a1 0 (nI s)) = 0 then (a1, ss g 14 a1) else (-1, g) := by
    unfold F_Mo_end; rw [pu_in0, T.2.2.1]; rfl
  rcases pu_wc a1 0 s (by omega) (by omega) with ⟨j, j1, j2, j3, j4⟩ | ⟨j1, j4⟩
  · rw [show nI 0 = 0 from rfl] at j4
    rw [j4, if_pos pu_10] at eK eM
    refine ⟨0, 0, a1, ku k 7 (ss (k 7) 1 a1), ss g 14 a1, ?_, ?_, Inv_tp (s := j) I ⟨by omega, ?_, ?_, ?_⟩ ?_ ?_⟩
    · unfold KO_1; rw [eK]; rfl
    · unfold MO_1; rw [eM]; rfl
    · rw [pu_ss, if_pos rfl, if_pos rfl, j3]
    · rw [pu_ss, if_pos rfl, if_pos rfl, j3]
    · intro i hi
      rw [pu_ssr, if_neg (by omega), pu_ssr, if_neg (by omega)]
      exact T.2.2.2 i (by omega)
    · intro r r0 _; rw [pu_ssr, if_neg r0]
    · intro i hi; rw [pu_ss, if_pos rfl, if_neg hi]
  · rw [show nI 0 = 0 from rfl] at j4
    rw [j4, ife0] at eK eM
    refine ⟨0, 0, -1, k, g, ?_, ?_, I⟩
    · unfold KO_1; rw [eK]; show some (-1, ku k 7 (k 7)) = _; rw [ku_self]
    · unfold MO_1; rw [eM]; rfl
end TAPE
