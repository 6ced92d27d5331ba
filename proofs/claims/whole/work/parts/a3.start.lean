/-! ===== the start: every call is simulated; the cells in the law's order; what holds of them ===== -/
theorem lw_all : lw_Sim Inv := ⟨sim_0, sim_1, sim_2, sim_3, sim_4, sim_5, sim_6, sim_7, sim_8, sim_9, sim_10, sim_11, sim_12, sim_13, sim_14, sim_15, sim_16, sim_17, sim_18, sim_19, sim_20, sim_21, sim_22, sim_23, sim_24, sim_25, sim_26, sim_27, sim_28, sim_29, sim_30, sim_31, sim_32, sim_33, sim_34, sim_35, sim_36, sim_37, sim_38, sim_39, sim_40, sim_41, sim_42, sim_43, sim_44, sim_45, sim_46, sim_47, sim_48, sim_49, sim_50, sim_51⟩
def kz (f : Nat → Int32) : HH := fun r => match r with
  | 0 => f
  | _ => fun _ => 0
def fz_3 : Nat → Int32 := fun i => match i with
  | 0 => -1
  | 1 => -1
  | 6 => -1
  | _ => 0
def fz_6 : Nat → Int32 := fun i => match i with
  | 1 => -1
  | _ => 0
def fz_9 : Nat → Int32 := fun i => match i with
  | 5 => 999
  | 6 => 999
  | _ => 0
def fz_g : Nat → Int32 := fun i => match i with
  | 21 => -1
  | 37 => -1
  | _ => 0
def kz_0 : KS := fun j => match j with
  | 3 => kz fz_3
  | 6 => kz fz_6
  | 9 => kz fz_9
  | 13 => kz fz_9
  | _ => kz (fun _ => 0)
def gz_0 : HH := kz fz_g
theorem inv_0 : Inv kz_0 gz_0 := by
  refine ⟨⟨⟨0, by omega, rfl, rfl, fun i hi => by omega⟩, ⟨rfl, rfl⟩, 0, by omega, rfl, rfl, fun i hi => by omega⟩, Or.inl ⟨rfl, rfl, fun i _ => rfl, rfl, rfl, rfl, 0, by omega, rfl⟩⟩
def su_ps : List Nat := [0, 26, 27, 28, 29, 30, 31, 32, 33, 34, 35, 36, 37, 38, 39, 40, 41, 42, 43, 44, 1, 2, 3, 45, 66, 46, 47, 48, 49, 50, 51, 52, 53, 54, 55, 56, 57, 58, 59, 60, 61, 62, 63, 64, 65, 4, 25, 5, 6, 7, 8, 9, 10, 11, 12, 13, 14, 15, 16, 17, 18, 19, 20, 21, 22, 23, 24, 67, 68, 69, 70, 71, 72, 73, 74, 75, 76, 77, 78, 79, 80, 81, 82, 83, 84, 85, 86, 87, 88, 89]
def wd_0 : List cd := [.inr (11, [.ref 20, .ref 1, .ref 3, .ref 8, .ref 13, .ref 18, .ref 23, .int 0]), .inr (1, [.int 0, .int 0, .ref 2]), .inl (0, 403), .inr (3, [.int 0, .ref 4, .ref 5, .ref 6, .ref 7, .int 0, .int 0, .int 0, .int 0]), .inl (0, 24), .inl (0, 24), .inl (0, 24), .inl (0, 24), .inr (7, [.int (-1), .int (-1), .ref 9, .ref 10, .ref 11, .ref 12, .int (-1), .int 0, .int 0]), .inl (0, 2), .inl (0, 2), .inl (0, 2), .inl (0, 2), .inr (8, [.ref 14, .ref 15, .ref 16, .ref 17]), .inl (0, 24), .inl (0, 24), .inl (0, 3), .inl (0, 6), .inr (4, [.int 0, .ref 19]), .inl (0, 64), .inr (5, [.int 0, .int (-1), .ref 21, .ref 45]), .inr (9, [.ref 22, .int 0, .int 0, .int 0, .int 0, .int 0]), .inl (0, 900), .inr (10, [.ref 25, .ref 31, .ref 39, .ref 24]), .inl (0, 6), .inr (2, [.int 0, .int 0, .int 0, .int 0, .int 0, .int 999, .int 999, .int 0, .ref 26, .ref 27, .ref 28, .ref 29, .ref 30]), .inl (0, 144), .inl (0, 144), .inl (0, 144), .inl (0, 6), .inl (0, 6), .inr (6, [.int 0, .ref 32, .ref 33, .ref 34, .ref 35, .ref 36, .ref 37, .ref 38]), .inl (0, 5), .inl (0, 5), .inl (0, 5), .inl (0, 5), .inl (0, 7), .inl (0, 49), .inl (0, 7), .inr (0, [.int 0, .ref 40, .ref 41, .ref 42, .ref 43, .ref 44]), .inl (0, 25), .inl (0, 25), .inl (0, 25), .inl (0, 25), .inl (0, 144), .inr (10, [.ref 47, .ref 53, .ref 61, .ref 46]), .inl (0, 6), .inr (2, [.int 0, .int 0, .int 0, .int 0, .int 0, .int 999, .int 999, .int 0, .ref 48, .ref 49, .ref 50, .ref 51, .ref 52]), .inl (0, 144), .inl (0, 144), .inl (0, 144), .inl (0, 6), .inl (0, 6), .inr (6, [.int 0, .ref 54, .ref 55, .ref 56, .ref 57, .ref 58, .ref 59, .ref 60]), .inl (0, 5), .inl (0, 5), .inl (0, 5), .inl (0, 5), .inl (0, 7), .inl (0, 49), .inl (0, 7), .inr (0, [.int 0, .ref 62, .ref 63, .ref 64, .ref 65, .ref 66]), .inl (0, 25), .inl (0, 25), .inl (0, 25), .inl (0, 25), .inl (0, 144), .inr (12, [.int 0, .int 0, .ref 68, .ref 69, .ref 70, .int 0, .int 0, .ref 71, .ref 72, .ref 73, .ref 74, .int 0, .ref 75, .ref 76, .int 0, .int 0, .int 0, .int 0, .int 0, .int 0, .int 0, .int (-1), .int 0, .ref 77, .int 0, .int 0, .int 0, .int 0, .ref 78, .ref 79, .int 0, .ref 80, .int 0, .ref 81, .ref 82, .int 0, .int 0, .int (-1), .ref 83, .int 0, .ref 84, .ref 85, .ref 86, .ref 87, .ref 88, .ref 89, .int 0]), .inl (0, 90), .inl (0, 90), .inl (0, 72), .inl (0, 24), .inl (0, 24), .inl (0, 24), .inl (0, 24), .inl (0, 144), .inl (1, 900), .inl (0, 1176), .inl (0, 24), .inl (0, 24), .inl (0, 24), .inl (2, 24), .inl (0, 24), .inl (0, 5), .inl (0, 4), .inl (0, 7), .inl (2, 24), .inl (0, 3), .inl (0, 144), .inl (1, 60)]
set_option maxRecDepth 100000 in
theorem wd_eq : LWo false kz_0 gz_0 = cds wd_0 := rfl
theorem wd_sub : (wd_0.map (cd_r (sv_pi su_ps))).map some = su_ps.map (fun q => sv_n kd_L q) := by decide +kernel
theorem wd_nd : va_nd su_ps = true := by decide +kernel
theorem wd_b : wd_0.all (cd_b 90) = true ∧ wd_0.length = 90 := by decide +kernel
theorem cds_no (l : List cd) (q : Nat) : sv_n (cds l) q = (sv_n l q).map cd_c := by
  rw [sv_n_eq, sv_n_eq]
  unfold cds
  rw [List.getElem?_map]
theorem wd_s : sv_sub su_ps (cds kd_L) (LWo false kz_0 gz_0) := by
  unfold sv_sub
  rw [wd_eq, cds_r]
  have h := congrArg (List.map (Option.map cd_c)) wd_sub
  rw [List.map_map, List.map_map] at h
  have e1 : (cds (wd_0.map (cd_r (sv_pi su_ps)))).map some = (wd_0.map (cd_r (sv_pi su_ps))).map (Option.map cd_c ∘ some) := by
    unfold cds
    rw [List.map_map]
    rfl
  have e2 : su_ps.map (fun p => sv_n (cds kd_L) p) = su_ps.map (Option.map cd_c ∘ fun q => sv_n kd_L q) := List.map_congr_left fun q _ => cds_no kd_L q
  rw [e1, e2]
  exact h
def su_ix : List Nat := [50, 56, 62, 64, 66, 199, 88, 128, 97, 102, 154, 156, 158, 160, 107, 112, 117, 188, 190]
def su_tm (i : Nat) : Term := .string "KeptApart$Reader" (su_ix.getD i 0)
def su_all : List Jvm.Cond := flatC (Jvm.Cond.and given_1 narrow_1)
theorem su_1 : ∀ i, i < 19 → (Jvm.Cond.exactly (su_tm i) "java/lang/String" ∈ su_all ∧ Jvm.Cond.eq (.field (su_tm i) "java/lang/String" "coder" "B") (.int 0) ∈ su_all) ∧ Jvm.Cond.arrayOf (.field (su_tm i) "java/lang/String" "value" "[B") .byte ∈ su_all ∧ Jvm.Cond.eq (.length (.field (su_tm i) "java/lang/String" "value" "[B")) (.int (Int32.ofNat (sv_len i))) ∈ su_all := by decide +kernel
theorem su_2 : ∀ i, i < 19 → ∀ j, j < sv_len i → Jvm.Cond.eq (.elem (.field (su_tm i) "java/lang/String" "value" "[B") (.int (Int32.ofNat j))) (.int (sv_chr i j)) ∈ su_all := by decide +kernel
theorem su_3 : ∀ q ∈ sv_strs, (q.1 = "KeptApart$Reader" ∧ q.2.1 = su_ix.getD q.2.2.2 0) ∨ Jvm.Cond.eq (su_tm q.2.2.2) (.string q.1 q.2.1) ∈ su_all := by decide +kernel
theorem su_4 : ∀ q ∈ sv_strs, q.2.2.2 < 19 ∧ Jvm.Cond.stringRef q.1 q.2.1 q.2.2.1 ∈ lw_tbl := by decide +kernel
theorem su_5 : Jvm.Cond.eq (.static "java/lang/String" "COMPACT_STRINGS" "Z") (.int 1) ∈ su_all ∧ Jvm.Cond.isRef (.static "jdk/internal/util/Preconditions" "SIOOBE_FORMATTER" "Ljava/util/function/BiFunction;") ∈ su_all := by decide +kernel
theorem su_6 : Jvm.Cond.laysStatic "java/lang/String" "COMPACT_STRINGS" "Z" ∈ lw_tbl ∧ Jvm.Cond.initialized "java/lang/String" ∈ lw_tbl ∧ Jvm.Cond.laysStatic "jdk/internal/util/Preconditions" "SIOOBE_FORMATTER" "Ljava/util/function/BiFunction;" ∈ lw_tbl ∧ Jvm.Cond.initialized "jdk/internal/util/Preconditions" ∈ lw_tbl := by decide +kernel
theorem su_7 : ∀ w ∈ sv_nw, w ∈ lw_tbl := by decide +kernel
theorem su_T {w : Jvm.Cond} (h : w ∈ sv_Ts) : w ∈ lw_tbl := (List.mem_filter.mp h).1
/-- what the start gives of the string constants, the statics, the nest -/
theorem su_E {s : State} {b L : Nat} {xs : Nat → Int32} (hts : ∀ w ∈ lw_tbl, w.before #[Value.ref b] s = true) (hX : va_X b L xs s s.heap) (hbl : b < s.heap.size) (hgv : (Jvm.Cond.and given_1 narrow_1).before #[Value.ref b] s = true) : ∃ ad : Nat → Nat, ∀ ρ : Nat → Nat, ρ 999 = b → (∀ i, i < 19 → ρ (1000 + i) = ad i) → sv_E (L, xs) sv_nw ρ (fun q => s.heap.size ≤ q) s s.heap := by
  have hf := flat_of_before _ hgv
  have hA : ∀ a : Nat, a < s.heap.size → ¬ (fun q => s.heap.size ≤ q) a := fun a h => Nat.not_le.mpr h
  have h0 : ∀ i : Nat, ∃ q : Nat × Nat, i < 19 → (su_tm i).eval #[Value.ref b] s none [] s = some (.ref q.1) ∧ va_O "java/lang/String" q.1 (fun q => s.heap.size ≤ q) s s.heap ∧ va_OF "java/lang/String" "coder" "B" (.int 0) q.1 (fun q => s.heap.size ≤ q) s s.heap ∧ va_OF "java/lang/String" "value" "[B" (.ref q.2) q.1 (fun q => s.heap.size ≤ q) s s.heap ∧ va_T .byte q.2 (sv_len i) (fun j => .int (sv_chr i j)) (fun q => s.heap.size ≤ q) s s.heap := by
    intro i
    by_cases hi : i < 19
    · obtain ⟨⟨u1, u2⟩, u3, u4⟩ := su_1 i hi
      obtain ⟨a, c, cA, kA, q1, q2, q3, q4, q5, q6, -⟩ := Cond.exactly_spec (args := #[Value.ref b]) (first := s) (o := none) (s := s) (idx := []) (t := su_tm i) (cls := "java/lang/String") (hf _ u1)
      have hl := len_b i hi
      obtain ⟨t, ht, hT⟩ := va_Tof (f := fun j => .int (sv_chr i j)) (A := fun q => s.heap.size ≤ q) (N := sv_len i) (by omega) (hf _ u3) (va_eqt (hf _ u4)) (fun j hj => va_eqt (hf _ (su_2 i hi j hj))) hA
      exact ⟨(a, t), fun _ => ⟨q1, ⟨cA, q3, q5, by rw [q6]; exact q2, hA a (Array.getElem?_eq_some_iff.mp q3).1⟩, vk_OFof q1 (va_eqt (hf _ u2)) hA, vk_OFof q1 ht hA, hT⟩⟩
    · exact ⟨(0, 0), fun h => absurd h hi⟩
  obtain ⟨ad, had⟩ := Classical.axiomOfChoice h0
  refine ⟨fun i => (ad i).1, fun ρ r9 rs => ⟨⟨by rw [r9]; exact hX, by rw [r9]; exact hbl, by rw [r9]; exact hA b hbl⟩, fun i hi => ?_, fun q hq => ?_, ⟨?_, ?_⟩, fun w hw => ?_⟩⟩
  · obtain ⟨-, v1, v2, v3, v4⟩ := had i hi
    rw [rs i hi]
    exact ⟨v1, v2, (ad i).2, v3, v4⟩
  · obtain ⟨w1, w2⟩ := su_4 q hq
    obtain ⟨v0, -⟩ := had q.2.2.2 w1
    rw [rs _ w1]
    refine vk_R.of (hts _ w2) ?_
    rcases su_3 q hq with ⟨z1, z2⟩ | z
    · rw [z1, z2]; exact v0
    · exact va_eqR (hf _ z) v0
  · exact va_Zof (hts _ su_6.1) (hts _ su_6.2.1) (va_eqt (hf _ su_5.1)) hA
  · exact va_Zqof (hts _ su_6.2.2.1) (hts _ su_6.2.2.2) (hf _ su_5.2) hA
  · obtain ⟨a, i, x, hh, rfl⟩ := sv_nw_ok w hw
    exact va_Nw.of rfl (hts _ (su_7 _ hw))
/-- the classes and the array classes -/
theorem su_K {s : State} {b : Nat} (hts : ∀ w ∈ lw_tbl, w.before #[Value.ref b] s = true) : ∃ (D : va_G) (cA : Nat → ClassId), va_K D vwCl (sv_t cA) s := by
  have hT : ∀ w ∈ sv_Ts, w.before #[Value.ref b] s = true := fun w h => hts w (su_T h)
  obtain ⟨c0, i0, k0⟩ := u_known (C := RX0) (T := TX0) (N := 6) (n := 6) hT inX0 (hT _ (sv_tm (w := Jvm.Cond.instantiable RX0 6) (j := 312) (by decide +kernel) (by decide +kernel)))
  obtain ⟨c1, i1, k1⟩ := u_known (C := RX1) (T := TX1) (N := 3) (n := 3) hT inX1 (hT _ (sv_tm (w := Jvm.Cond.instantiable RX1 3) (j := 390) (by decide +kernel) (by decide +kernel)))
  obtain ⟨c2, i2, k2⟩ := u_known (C := RX2) (T := TX2) (N := 13) (n := 13) hT inX2 (hT _ (sv_tm (w := Jvm.Cond.instantiable RX2 13) (j := 203) (by decide +kernel) (by decide +kernel)))
  obtain ⟨c3, i3, k3⟩ := u_known (C := RX3) (T := TX3) (N := 9) (n := 9) hT inX3 (hT _ (sv_tm (w := Jvm.Cond.instantiable RX3 9) (j := 407) (by decide +kernel) (by decide +kernel)))
  obtain ⟨c4, i4, k4⟩ := u_known (C := RX4) (T := TX4) (N := 2) (n := 2) hT inX4 (hT _ (sv_tm (w := Jvm.Cond.instantiable RX4 2) (j := 495) (by decide +kernel) (by decide +kernel)))
  obtain ⟨c5, i5, k5⟩ := u_known (C := RX5) (T := TX5) (N := 4) (n := 4) hT inX5 (hT _ (sv_tm (w := Jvm.Cond.instantiable RX5 4) (j := 161) (by decide +kernel) (by decide +kernel)))
  obtain ⟨c6, i6, k6⟩ := u_known (C := RX6) (T := TX6) (N := 8) (n := 8) hT inX6 (hT _ (sv_tm (w := Jvm.Cond.instantiable RX6 8) (j := 275) (by decide +kernel) (by decide +kernel)))
  obtain ⟨c7, i7, k7⟩ := u_known (C := RX7) (T := TX7) (N := 9) (n := 9) hT inX7 (hT _ (sv_tm (w := Jvm.Cond.instantiable RX7 9) (j := 442) (by decide +kernel) (by decide +kernel)))
  obtain ⟨c8, i8, k8⟩ := u_known (C := RX8) (T := TX8) (N := 4) (n := 4) hT inX8 (hT _ (sv_tm (w := Jvm.Cond.instantiable RX8 4) (j := 476) (by decide +kernel) (by decide +kernel)))
  obtain ⟨c9, i9, k9⟩ := u_known (C := RX9) (T := TX9) (N := 6) (n := 6) hT inX9 (hT _ (sv_tm (w := Jvm.Cond.instantiable RX9 6) (j := 167) (by decide +kernel) (by decide +kernel)))
  obtain ⟨c10, i10, k10⟩ := u_known (C := RX10) (T := TX10) (N := 4) (n := 4) hT inX10 (hT _ (sv_tm (w := Jvm.Cond.instantiable RX10 4) (j := 197) (by decide +kernel) (by decide +kernel)))
  obtain ⟨c11, i11, k11⟩ := u_known (C := RX11) (T := TX11) (N := 8) (n := 8) hT inX11 (hT _ (sv_tm (w := Jvm.Cond.instantiable RX11 8) (j := 153) (by decide +kernel) (by decide +kernel)))
  obtain ⟨c12, i12, k12⟩ := u_known (C := RX12) (T := TX12) (N := 47) (n := 47) hT inX12 (hT _ (sv_tm (w := Jvm.Cond.instantiable RX12 47) (j := 1581) (by decide +kernel) (by decide +kernel)))
  obtain ⟨aI, kI, xI, a1, a2, a3⟩ := Cond.arrayClass_spec (hT _ cv_arr.1)
  obtain ⟨aB, kB, xB, b1, b2, b3⟩ := Cond.arrayClass_spec (hT _ cv_arr.2.1)
  obtain ⟨aZ, kZ, xZ, z1, z2, z3⟩ := Cond.arrayClass_spec (hT _ cv_arr.2.2)
  refine ⟨(fun k => (if k = 0 then c0 else (if k = 1 then c1 else (if k = 2 then c2 else (if k = 3 then c3 else (if k = 4 then c4 else (if k = 5 then c5 else (if k = 6 then c6 else (if k = 7 then c7 else (if k = 8 then c8 else (if k = 9 then c9 else (if k = 10 then c10 else (if k = 11 then c11 else c12)))))))))))), fun k => (if k = 0 then i0 else (if k = 1 then i1 else (if k = 2 then i2 else (if k = 3 then i3 else (if k = 4 then i4 else (if k = 5 then i5 else (if k = 6 then i6 else (if k = 7 then i7 else (if k = 8 then i8 else (if k = 9 then i9 else (if k = 10 then i10 else (if k = 11 then i11 else i12))))))))))))), fun t => if t = 0 then aI else if t = 1 then aB else aZ, fun k q hq => ?_, fun k q hq => ?_⟩
  · match k, hq with
    | 0, hq => cases hq; exact k0
    | 1, hq => cases hq; exact k1
    | 2, hq => cases hq; exact k2
    | 3, hq => cases hq; exact k3
    | 4, hq => cases hq; exact k4
    | 5, hq => cases hq; exact k5
    | 6, hq => cases hq; exact k6
    | 7, hq => cases hq; exact k7
    | 8, hq => cases hq; exact k8
    | 9, hq => cases hq; exact k9
    | 10, hq => cases hq; exact k10
    | 11, hq => cases hq; exact k11
    | 12, hq => cases hq; exact k12
    | k + 13, hq => simp [vwCl] at hq
  · match k, hq with
    | 0, hq => cases hq; exact ⟨fun n z => ⟨fun k h => (by cases h), kI, a2, xI, a3⟩, a1⟩
    | 1, hq => cases hq; exact ⟨fun n z => ⟨fun k h => (by cases h), kB, b2, xB, b3⟩, b1⟩
    | 2, hq => cases hq; exact ⟨fun n z => ⟨fun k h => (by cases h), kZ, z2, xZ, z3⟩, z1⟩
    | k + 3, hq => simp [sv_t] at hq
