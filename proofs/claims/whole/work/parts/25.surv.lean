/-! survey, by program out of the listing -/
theorem pc_Surv_Hull_2 (hu hv hh hr hc n0 : Nat → Nat → Int32) : sv_pt [7, 8, 9, 10, 11, 12] ((W_Hull n0).map (sv_r (sv_pi [7, 8, 9, 10, 11, 12]))) 0 (W_Surv hu hv hh hr hc) = W_Surv hu hv n0 hr hc := rfl
theorem sc_Surv_Hull_2 (hu hv hh hr hc : Nat → Nat → Int32) : sv_sub [7, 8, 9, 10, 11, 12] (W_Surv hu hv hh hr hc) (W_Hull hh) := rfl
theorem pc_Surv_Cargo_4 (hu hv hh hr hc n0 : Nat → Nat → Int32) : sv_pt [21, 22, 23, 24, 25, 26] ((W_Cargo n0).map (sv_r (sv_pi [21, 22, 23, 24, 25, 26]))) 0 (W_Surv hu hv hh hr hc) = W_Surv hu hv hh hr n0 := rfl
theorem sc_Surv_Cargo_4 (hu hv hh hr hc : Nat → Nat → Int32) : sv_sub [21, 22, 23, 24, 25, 26] (W_Surv hu hv hh hr hc) (W_Cargo hc) := rfl
theorem pc_Surv_Surv_0 (hu hv hh hr hc n0 n1 n2 n3 n4 : Nat → Nat → Int32) : sv_pt [0, 1, 2, 3, 4, 5, 6, 7, 8, 9, 10, 11, 12, 13, 14, 15, 16, 17, 18, 19, 20, 21, 22, 23, 24, 25, 26] ((W_Surv n0 n1 n2 n3 n4).map (sv_r (sv_pi [0, 1, 2, 3, 4, 5, 6, 7, 8, 9, 10, 11, 12, 13, 14, 15, 16, 17, 18, 19, 20, 21, 22, 23, 24, 25, 26]))) 0 (W_Surv hu hv hh hr hc) = W_Surv n0 n1 n2 n3 n4 := rfl
theorem sc_Surv_Surv_0 (hu hv hh hr hc : Nat → Nat → Int32) : sv_sub [0, 1, 2, 3, 4, 5, 6, 7, 8, 9, 10, 11, 12, 13, 14, 15, 16, 17, 18, 19, 20, 21, 22, 23, 24, 25, 26] (W_Surv hu hv hh hr hc) (W_Surv hu hv hh hr hc) := rfl
theorem pa_Surv_2 (hu hv hh hr hc : Nat → Nat → Int32) (g : Nat → Int32) : sv_pt [2] (([.inl (0, 24, g)] : List sv_C).map (sv_r (sv_pi [2]))) 0 (W_Surv hu hv hh hr hc) = W_Surv (sr hu 2 g) hv hh hr hc := rfl
theorem su_Surv_2 (hu hv hh hr hc : Nat → Nat → Int32) : sv_sub [2] (W_Surv hu hv hh hr hc) [.inl (0, 24, hu 2)] := rfl
theorem pu_Surv_2 (hu hv hh hr hc : Nat → Nat → Int32) : sv_pt [2] (([.inl (0, 24, hu 2)] : List sv_C).map (sv_r (sv_pi [2]))) 0 (W_Surv hu hv hh hr hc) = W_Surv hu hv hh hr hc := rfl
theorem pa_Surv_1 (hu hv hh hr hc : Nat → Nat → Int32) (g : Nat → Int32) : sv_pt [1] (([.inl (0, 24, g)] : List sv_C).map (sv_r (sv_pi [1]))) 0 (W_Surv hu hv hh hr hc) = W_Surv (sr hu 1 g) hv hh hr hc := rfl
theorem su_Surv_1 (hu hv hh hr hc : Nat → Nat → Int32) : sv_sub [1] (W_Surv hu hv hh hr hc) [.inl (0, 24, hu 1)] := rfl
theorem pu_Surv_1 (hu hv hh hr hc : Nat → Nat → Int32) : sv_pt [1] (([.inl (0, 24, hu 1)] : List sv_C).map (sv_r (sv_pi [1]))) 0 (W_Surv hu hv hh hr hc) = W_Surv hu hv hh hr hc := rfl
theorem pc_Surv_Rules_3 (hu hv hh hr hc n0 : Nat → Nat → Int32) : sv_pt [13, 14, 15, 16, 17, 18, 19, 20] ((W_Rules n0).map (sv_r (sv_pi [13, 14, 15, 16, 17, 18, 19, 20]))) 0 (W_Surv hu hv hh hr hc) = W_Surv hu hv hh n0 hc := rfl
theorem sc_Surv_Rules_3 (hu hv hh hr hc : Nat → Nat → Int32) : sv_sub [13, 14, 15, 16, 17, 18, 19, 20] (W_Surv hu hv hh hr hc) (W_Rules hr) := rfl
theorem pc_Surv_Ves_1 (hu hv hh hr hc n0 n1 n2 n3 : Nat → Nat → Int32) : sv_pt [5, 6, 7, 8, 9, 10, 11, 12, 13, 14, 15, 16, 17, 18, 19, 20, 21, 22, 23, 24, 25, 26] ((W_Ves n0 n1 n2 n3).map (sv_r (sv_pi [5, 6, 7, 8, 9, 10, 11, 12, 13, 14, 15, 16, 17, 18, 19, 20, 21, 22, 23, 24, 25, 26]))) 0 (W_Surv hu hv hh hr hc) = W_Surv hu n0 n1 n2 n3 := rfl
theorem sc_Surv_Ves_1 (hu hv hh hr hc : Nat → Nat → Int32) : sv_sub [5, 6, 7, 8, 9, 10, 11, 12, 13, 14, 15, 16, 17, 18, 19, 20, 21, 22, 23, 24, 25, 26] (W_Surv hu hv hh hr hc) (W_Ves hv hh hr hc) := rfl
theorem pa_Surv_3 (hu hv hh hr hc : Nat → Nat → Int32) (g : Nat → Int32) : sv_pt [3] (([.inl (0, 3, g)] : List sv_C).map (sv_r (sv_pi [3]))) 0 (W_Surv hu hv hh hr hc) = W_Surv (sr hu 3 g) hv hh hr hc := rfl
theorem su_Surv_3 (hu hv hh hr hc : Nat → Nat → Int32) : sv_sub [3] (W_Surv hu hv hh hr hc) [.inl (0, 3, hu 3)] := rfl
theorem pu_Surv_3 (hu hv hh hr hc : Nat → Nat → Int32) : sv_pt [3] (([.inl (0, 3, hu 3)] : List sv_C).map (sv_r (sv_pi [3]))) 0 (W_Surv hu hv hh hr hc) = W_Surv hu hv hh hr hc := rfl
theorem pa_Surv_4 (hu hv hh hr hc : Nat → Nat → Int32) (g : Nat → Int32) : sv_pt [4] (([.inl (0, 6, g)] : List sv_C).map (sv_r (sv_pi [4]))) 0 (W_Surv hu hv hh hr hc) = W_Surv (sr hu 4 g) hv hh hr hc := rfl
theorem su_Surv_4 (hu hv hh hr hc : Nat → Nat → Int32) : sv_sub [4] (W_Surv hu hv hh hr hc) [.inl (0, 6, hu 4)] := rfl
theorem pu_Surv_4 (hu hv hh hr hc : Nat → Nat → Int32) : sv_pt [4] (([.inl (0, 6, hu 4)] : List sv_C).map (sv_r (sv_pi [4]))) 0 (W_Surv hu hv hh hr hc) = W_Surv hu hv hh hr hc := rfl
def F_Surv_arm (a1 : Int32) (a2 : Int32) (hh : Nat → Nat → Int32) : Int32 := (if a2 = (0 : Int32) then (((2 : Int32) * (F_Hull_bayAt a1 hh)) - ((hh 0 0) - (1 : Int32))) else (if a2 = (1 : Int32) then (((2 : Int32) * (F_Hull_rowAt a1 hh)) - ((hh 0 1) - (1 : Int32))) else (if a2 = (2 : Int32) then (F_Hull_tierAt a1 hh) else (1 : Int32))))
theorem r_Surv_arm {X : Nat × (Nat → Int32)} (hu hv hh hr hc : Nat → Nat → Int32) (a1 : Int32) (a2 : Int32) : ∀ x, some (F_Surv_arm a1 a2 hh) = some x → sv_R X 3 M_Surv_arm [.ref 0, .ref 7, .int a1, .int a2] (W_Surv hu hv hh hr hc) (some (.int x)) (W_Surv hu hv hh hr hc) := by
  refine sv_Q.R (res := (fun (x : Int32) => (some (.int x), (W_Surv hu hv hh hr hc)))) g_Surv_arm rfl ?_
  unfold F_Surv_arm
  refine sv_Q.s (σ' := (1, [some (.ref 0), some (.ref 7), some (.int a1), some (.int a2)], [.int a2], (W_Surv hu hv hh hr hc))) 1 rfl ?_
  refine sv_Q.site (fun c1 => ?_) (fun c1 => ?_)
  · refine sv_Q.w (σ' := (28, [some (.ref 0), some (.ref 7), some (.int a1), some (.int a2)], [], (W_Surv hu hv hh hr hc))) (c := (¬ (a2).toInt < 0 ∧ ¬ 2 < (a2).toInt ∧ ((a2).toInt - 0).toNat = 0) ∧ (0 : Int) ≤ 28) (k := some 0) rfl ⟨by rw [c1]; decide, by decide⟩ ?_
    refine sv_Q.s (σ' := (31, [some (.ref 0), some (.ref 7), some (.int a1), some (.int a2)], [.int a1, .ref 7, .int (2 : Int32)], (W_Surv hu hv hh hr hc))) 3 rfl ?_
    refine sv_Q.V (b := 0) (av := [.int a1]) (ps := [7, 8, 9, 10, 11, 12]) (rest := [.int (2 : Int32)]) (cs1 := (W_Hull hh)) (cs2 := (W_Hull hh)) (st' := [.int (F_Hull_bayAt a1 hh), .int (2 : Int32)]) (cs' := (W_Surv hu hv hh hr hc)) (q := (31, .null, 0, 0, 0)) lk_Surv_55 (t_Hull_bayAt hh a1) rfl rfl rfl rfl rfl (Or.inl ⟨2, _, _, rfl, rfl, rfl⟩) rfl rfl (sc_Surv_Hull_2 hu hv hh hr hc) rfl rfl (pc_Surv_Hull_2 hu hv hh hr hc hh) ?_
    refine sv_Q.s (σ' := (42, [some (.ref 0), some (.ref 7), some (.int a1), some (.int a2)], [.int (((2 : Int32) * (F_Hull_bayAt a1 hh)) - ((hh 0 0) - (1 : Int32)))], (W_Surv hu hv hh hr hc))) 6 rfl ?_
    exact sv_Q.z ⟨True, rfl, trivial, rfl⟩
  · refine sv_Q.site (fun c2 => ?_) (fun c2 => ?_)
    · refine sv_Q.w (σ' := (43, [some (.ref 0), some (.ref 7), some (.int a1), some (.int a2)], [], (W_Surv hu hv hh hr hc))) (c := (¬ (a2).toInt < 0 ∧ ¬ 2 < (a2).toInt ∧ ((a2).toInt - 0).toNat = 1) ∧ (0 : Int) ≤ 43) (k := some 1) rfl ⟨by rw [c2]; decide, by decide⟩ ?_
      refine sv_Q.s (σ' := (46, [some (.ref 0), some (.ref 7), some (.int a1), some (.int a2)], [.int a1, .ref 7, .int (2 : Int32)], (W_Surv hu hv hh hr hc))) 3 rfl ?_
      refine sv_Q.V (b := 0) (av := [.int a1]) (ps := [7, 8, 9, 10, 11, 12]) (rest := [.int (2 : Int32)]) (cs1 := (W_Hull hh)) (cs2 := (W_Hull hh)) (st' := [.int (F_Hull_rowAt a1 hh), .int (2 : Int32)]) (cs' := (W_Surv hu hv hh hr hc)) (q := (46, .null, 0, 0, 0)) lk_Surv_63 (t_Hull_rowAt hh a1) rfl rfl rfl rfl rfl (Or.inl ⟨2, _, _, rfl, rfl, rfl⟩) rfl rfl (sc_Surv_Hull_2 hu hv hh hr hc) rfl rfl (pc_Surv_Hull_2 hu hv hh hr hc hh) ?_
      refine sv_Q.s (σ' := (57, [some (.ref 0), some (.ref 7), some (.int a1), some (.int a2)], [.int (((2 : Int32) * (F_Hull_rowAt a1 hh)) - ((hh 0 1) - (1 : Int32)))], (W_Surv hu hv hh hr hc))) 6 rfl ?_
      exact sv_Q.z ⟨True, rfl, trivial, rfl⟩
    · refine sv_Q.site (fun c3 => ?_) (fun c3 => ?_)
      · refine sv_Q.w (σ' := (58, [some (.ref 0), some (.ref 7), some (.int a1), some (.int a2)], [], (W_Surv hu hv hh hr hc))) (c := (¬ (a2).toInt < 0 ∧ ¬ 2 < (a2).toInt ∧ ((a2).toInt - 0).toNat = 2) ∧ (0 : Int) ≤ 58) (k := some 2) rfl ⟨by rw [c3]; decide, by decide⟩ ?_
        refine sv_Q.s (σ' := (60, [some (.ref 0), some (.ref 7), some (.int a1), some (.int a2)], [.int a1, .ref 7], (W_Surv hu hv hh hr hc))) 2 rfl ?_
        refine sv_Q.V (b := 0) (av := [.int a1]) (ps := [7, 8, 9, 10, 11, 12]) (rest := []) (cs1 := (W_Hull hh)) (cs2 := (W_Hull hh)) (st' := [.int (F_Hull_tierAt a1 hh)]) (cs' := (W_Surv hu hv hh hr hc)) (q := (60, .null, 0, 0, 0)) lk_Surv_69 (t_Hull_tierAt hh a1) rfl rfl rfl rfl rfl (Or.inl ⟨2, _, _, rfl, rfl, rfl⟩) rfl rfl (sc_Surv_Hull_2 hu hv hh hr hc) rfl rfl (pc_Surv_Hull_2 hu hv hh hr hc hh) ?_
        exact sv_Q.z ⟨True, rfl, trivial, rfl⟩
      · refine sv_Q.w (σ' := (64, [some (.ref 0), some (.ref 7), some (.int a1), some (.int a2)], [], (W_Surv hu hv hh hr hc))) (c := ((a2).toInt < 0 ∨ 2 < (a2).toInt) ∧ (0 : Int) ≤ 64) (k := none) rfl ⟨by (have q0 := sv_ne c1); (have q1 := sv_ne c2); (have q2 := sv_ne c3); (have e0 : (0 : Int32).toInt = 0 := (by decide)); (have e1 : (1 : Int32).toInt = 1 := (by decide)); (have e2 : (2 : Int32).toInt = 2 := (by decide)); omega, by decide⟩ ?_
        refine sv_Q.s (σ' := (65, [some (.ref 0), some (.ref 7), some (.int a1), some (.int a2)], [.int (1 : Int32)], (W_Surv hu hv hh hr hc))) 1 rfl ?_
        exact sv_Q.z ⟨True, rfl, trivial, rfl⟩
theorem t_Surv_arm {X : Nat × (Nat → Int32)} (hu hv hh hr hc : Nat → Nat → Int32) (a1 : Int32) (a2 : Int32) : sv_R X 3 M_Surv_arm [.ref 0, .ref 7, .int a1, .int a2] (W_Surv hu hv hh hr hc) (some (.int (F_Surv_arm a1 a2 hh))) (W_Surv hu hv hh hr hc) := r_Surv_arm hu hv hh hr hc a1 a2 _ rfl
def L_Surv_moment_5 (N : Nat) : Nat → Int32 → Int64 → Int32 → (Nat → Nat → Int32) → (Nat → Nat → Int32) → Option (Int64)
  | 0, _, _, _, _, _ => none
  | n + 1, x2, x3, x5, hh, hc => (if (hc 0 0) ≤ x5 then (some x3) else (if (F_Cargo_lies x5 hc) = 0 then (L_Surv_moment_5 N n x2 x3 (x5 + (1 : Int32)) hh hc) else (L_Surv_moment_5 N n x2 (x3 + ((((F_Cargo_weightOf x5 hc)).toInt64) * (((F_Surv_arm (F_Cargo_placeOf x5 hc) x2 hh)).toInt64))) (x5 + (1 : Int32)) hh hc)))
theorem l_Surv_moment_5 {X : Nat × (Nat → Int32)} (N : Nat) : ∀ (n : Nat) (x2 : Int32) (x3 : Int64) (x5 : Int32) (hu hv hh hr hc : Nat → Nat → Int32), sv_Q X 3 M_Surv_moment (5, [some (.ref 0), some (.ref 5), some (.int x2), some (.long x3), none, some (.int x5)], [], (W_Surv hu hv hh hr hc)) (L_Surv_moment_5 N n x2 x3 x5 hh hc) (fun v σ' => σ' = (68, [none, none, none, some (.long v), none, none], [], (W_Surv hu hv hh hr hc))) := by
  intro n
  induction n with
  | zero => intro x2 x3 x5 hu hv hh hr hc; unfold L_Surv_moment_5; exact sv_Q.non
  | succ n ih =>
    intro x2 x3 x5 hu hv hh hr hc
    unfold L_Surv_moment_5
    refine sv_Q.s (σ' := (14, [some (.ref 0), some (.ref 5), some (.int x2), some (.long x3), none, some (.int x5)], [.int (hc 0 0), .int x5], (W_Surv hu hv hh hr hc))) 4 rfl ?_
    refine sv_Q.b rfl (fun c1 => ?_) (fun c1 => ?_)
    · refine sv_Q.f (lo' := [none, none, none, some (.long x3), none, none]) ⟨rfl, trivial⟩ ?_
      exact sv_Q.z rfl
    · refine sv_Q.s (σ' := (23, [some (.ref 0), some (.ref 5), some (.int x2), some (.long x3), none, some (.int x5)], [.int x5, .ref 21], (W_Surv hu hv hh hr hc))) 3 rfl ?_
      refine sv_Q.V (b := 0) (av := [.int x5]) (ps := [21, 22, 23, 24, 25, 26]) (rest := []) (cs1 := (W_Cargo hc)) (cs2 := (W_Cargo hc)) (st' := [.int (F_Cargo_lies x5 hc)]) (cs' := (W_Surv hu hv hh hr hc)) (q := (23, .null, 0, 0, 0)) lk_Surv_36 (t_Cargo_lies hc x5) rfl rfl rfl rfl rfl (Or.inl ⟨0, _, _, rfl, rfl, rfl⟩) rfl rfl (sc_Surv_Cargo_4 hu hv hh hr hc) rfl rfl (pc_Surv_Cargo_4 hu hv hh hr hc hc) ?_
      refine sv_Q.b rfl (fun c2 => ?_) (fun c2 => ?_)
      · refine sv_Q.s (σ' := (5, [some (.ref 0), some (.ref 5), some (.int x2), some (.long x3), none, some (.int (x5 + (1 : Int32)))], [], (W_Surv hu hv hh hr hc))) 2 rfl ?_
        exact ih x2 x3 (x5 + (1 : Int32)) hu hv hh hr hc
      · refine sv_Q.s (σ' := (36, [some (.ref 0), some (.ref 5), some (.int x2), some (.long x3), none, some (.int x5)], [.int x5, .ref 21, .long x3], (W_Surv hu hv hh hr hc))) 4 rfl ?_
        refine sv_Q.V (b := 0) (av := [.int x5]) (ps := [21, 22, 23, 24, 25, 26]) (rest := [.long x3]) (cs1 := (W_Cargo hc)) (cs2 := (W_Cargo hc)) (st' := [.int (F_Cargo_weightOf x5 hc), .long x3]) (cs' := (W_Surv hu hv hh hr hc)) (q := (36, .null, 0, 0, 0)) lk_Surv_40 (t_Cargo_weightOf hc x5) rfl rfl rfl rfl rfl (Or.inl ⟨0, _, _, rfl, rfl, rfl⟩) rfl rfl (sc_Surv_Cargo_4 hu hv hh hr hc) rfl rfl (pc_Surv_Cargo_4 hu hv hh hr hc hc) ?_
        refine sv_Q.s (σ' := (51, [some (.ref 0), some (.ref 5), some (.int x2), some (.long x3), none, some (.int x5)], [.int x5, .ref 21, .ref 7, .ref 0, .long (((F_Cargo_weightOf x5 hc)).toInt64), .long x3], (W_Surv hu hv hh hr hc))) 7 rfl ?_
        refine sv_Q.V (b := 0) (av := [.int x5]) (ps := [21, 22, 23, 24, 25, 26]) (rest := [.ref 7, .ref 0, .long (((F_Cargo_weightOf x5 hc)).toInt64), .long x3]) (cs1 := (W_Cargo hc)) (cs2 := (W_Cargo hc)) (st' := [.int (F_Cargo_placeOf x5 hc), .ref 7, .ref 0, .long (((F_Cargo_weightOf x5 hc)).toInt64), .long x3]) (cs' := (W_Surv hu hv hh hr hc)) (q := (51, .null, 0, 0, 0)) lk_Surv_48 (t_Cargo_placeOf hc x5) rfl rfl rfl rfl rfl (Or.inl ⟨0, _, _, rfl, rfl, rfl⟩) rfl rfl (sc_Surv_Cargo_4 hu hv hh hr hc) rfl rfl (pc_Surv_Cargo_4 hu hv hh hr hc hc) ?_
        refine sv_Q.s (σ' := (55, [some (.ref 0), some (.ref 5), some (.int x2), some (.long x3), none, some (.int x5)], [.int x2, .int (F_Cargo_placeOf x5 hc), .ref 7, .ref 0, .long (((F_Cargo_weightOf x5 hc)).toInt64), .long x3], (W_Surv hu hv hh hr hc))) 1 rfl ?_
        refine sv_Q.V (b := 0) (av := [.ref 7, .int (F_Cargo_placeOf x5 hc), .int x2]) (ps := [0, 1, 2, 3, 4, 5, 6, 7, 8, 9, 10, 11, 12, 13, 14, 15, 16, 17, 18, 19, 20, 21, 22, 23, 24, 25, 26]) (rest := [.long (((F_Cargo_weightOf x5 hc)).toInt64), .long x3]) (cs1 := (W_Surv hu hv hh hr hc)) (cs2 := (W_Surv hu hv hh hr hc)) (st' := [.int (F_Surv_arm (F_Cargo_placeOf x5 hc) x2 hh), .long (((F_Cargo_weightOf x5 hc)).toInt64), .long x3]) (cs' := (W_Surv hu hv hh hr hc)) (q := (55, .null, 0, 0, 0)) lk_Surv_51 (t_Surv_arm hu hv hh hr hc (F_Cargo_placeOf x5 hc) x2) rfl rfl rfl rfl rfl (Or.inl ⟨8, _, _, rfl, rfl, rfl⟩) rfl rfl (sc_Surv_Surv_0 hu hv hh hr hc) rfl rfl (pc_Surv_Surv_0 hu hv hh hr hc hu hv hh hr hc) ?_
        refine sv_Q.s (σ' := (5, [some (.ref 0), some (.ref 5), some (.int x2), some (.long (x3 + ((((F_Cargo_weightOf x5 hc)).toInt64) * (((F_Surv_arm (F_Cargo_placeOf x5 hc) x2 hh)).toInt64)))), none, some (.int (x5 + (1 : Int32)))], [], (W_Surv hu hv hh hr hc))) 6 rfl ?_
        exact ih x2 (x3 + ((((F_Cargo_weightOf x5 hc)).toInt64) * (((F_Surv_arm (F_Cargo_placeOf x5 hc) x2 hh)).toInt64))) (x5 + (1 : Int32)) hu hv hh hr hc
def F_Surv_moment (N : Nat) (a1 : Int32) (hh hc : Nat → Nat → Int32) : Option (Int64) := (Option.bind (L_Surv_moment_5 N N a1 (0 : Int64) (0 : Int32) hh hc) fun (v3 : Int64) => (some v3))
theorem r_Surv_moment {X : Nat × (Nat → Int32)} (N : Nat) (hu hv hh hr hc : Nat → Nat → Int32) (a1 : Int32) : ∀ x, (F_Surv_moment N a1 hh hc) = some x → sv_R X 4 M_Surv_moment [.ref 0, .ref 5, .int a1] (W_Surv hu hv hh hr hc) (some (.long x)) (W_Surv hu hv hh hr hc) := by
  refine sv_Q.R (res := (fun (x : Int64) => (some (.long x), (W_Surv hu hv hh hr hc)))) g_Surv_moment rfl ?_
  unfold F_Surv_moment
  refine sv_Q.s (σ' := (5, [some (.ref 0), some (.ref 5), some (.int a1), some (.long (0 : Int64)), none, some (.int (0 : Int32))], [], (W_Surv hu hv hh hr hc))) 4 rfl ?_
  refine sv_Q.lo (fun v3 => (68, [none, none, none, some (.long v3), none, none], [], (W_Surv hu hv hh hr hc))) (fun v3 => ?_) (l_Surv_moment_5 N N a1 (0 : Int64) (0 : Int32) hu hv hh hr hc)
  · refine sv_Q.s (σ' := (69, [none, none, none, some (.long v3), none, none], [.long v3], (W_Surv hu hv hh hr hc))) 1 rfl ?_
    exact sv_Q.z ⟨True, rfl, trivial, rfl⟩
def F_Surv_boxBelow (a1 : Int32) (a2 : Int32) (hh hc : Nat → Nat → Int32) : Int32 := (sv_let (if (F_Hull_tierAt a1 hh) < a2 then (0 : Int32) else (if ¬ (F_Hull_hatchBetween a1 (a1 - a2) hh) = 0 then (0 : Int32) else (1 : Int32))) fun (v3 : Int32) => (if v3 = 0 then (-1 : Int32) else (F_Cargo_boxAt (a1 - a2) hc)))
theorem r_Surv_boxBelow {X : Nat × (Nat → Int32)} (hu hv hh hr hc : Nat → Nat → Int32) (a1 : Int32) (a2 : Int32) : ∀ x, some (F_Surv_boxBelow a1 a2 hh hc) = some x → sv_R X 4 M_Surv_boxBelow [.ref 0, .ref 5, .int a1, .int a2] (W_Surv hu hv hh hr hc) (some (.int x)) (W_Surv hu hv hh hr hc) := by
  refine sv_Q.R (res := (fun (x : Int32) => (some (.int x), (W_Surv hu hv hh hr hc)))) g_Surv_boxBelow rfl ?_
  unfold F_Surv_boxBelow
  refine sv_Q.s (σ' := (11, [some (.ref 0), some (.ref 5), some (.int a1), some (.int a2), some (.int (a1 - a2)), none], [.int a1, .ref 7, .int a2], (W_Surv hu hv hh hr hc))) 8 rfl ?_
  refine sv_Q.V (b := 0) (av := [.int a1]) (ps := [7, 8, 9, 10, 11, 12]) (rest := [.int a2]) (cs1 := (W_Hull hh)) (cs2 := (W_Hull hh)) (st' := [.int (F_Hull_tierAt a1 hh), .int a2]) (cs' := (W_Surv hu hv hh hr hc)) (q := (11, .null, 0, 0, 0)) lk_Surv_69 (t_Hull_tierAt hh a1) rfl rfl rfl rfl rfl (Or.inl ⟨2, _, _, rfl, rfl, rfl⟩) rfl rfl (sc_Surv_Hull_2 hu hv hh hr hc) rfl rfl (pc_Surv_Hull_2 hu hv hh hr hc hh) ?_
  refine sv_Q.sl (fun v3 => (35, [none, some (.ref 5), none, none, some (.int (a1 - a2)), none], [.int v3], (W_Surv hu hv hh hr hc))) (fun v3 => ?_) ?_
  · refine sv_Q.s (σ' := (39, [none, some (.ref 5), none, none, some (.int (a1 - a2)), some (.int v3)], [.int v3], (W_Surv hu hv hh hr hc))) 2 rfl ?_
    refine sv_Q.sb rfl (fun c4 => ?_) (fun c4 => ?_)
    · refine sv_Q.s (σ' := (55, [none, some (.ref 5), none, none, some (.int (a1 - a2)), some (.int v3)], [.int (-1 : Int32)], (W_Surv hu hv hh hr hc))) 1 rfl ?_
      exact sv_Q.z ⟨True, rfl, trivial, rfl⟩
    · refine sv_Q.s (σ' := (48, [none, some (.ref 5), none, none, some (.int (a1 - a2)), some (.int v3)], [.int (a1 - a2), .ref 21], (W_Surv hu hv hh hr hc))) 3 rfl ?_
      refine sv_Q.V (b := 0) (av := [.int (a1 - a2)]) (ps := [21, 22, 23, 24, 25, 26]) (rest := []) (cs1 := (W_Cargo hc)) (cs2 := (W_Cargo hc)) (st' := [.int (F_Cargo_boxAt (a1 - a2) hc)]) (cs' := (W_Surv hu hv hh hr hc)) (q := (48, .null, 0, 0, 0)) lk_Surv_76 (t_Cargo_boxAt hc (a1 - a2)) rfl rfl rfl rfl rfl (Or.inl ⟨0, _, _, rfl, rfl, rfl⟩) rfl rfl (sc_Surv_Cargo_4 hu hv hh hr hc) rfl rfl (pc_Surv_Cargo_4 hu hv hh hr hc hc) ?_
      refine sv_Q.s (σ' := (55, [none, some (.ref 5), none, none, some (.int (a1 - a2)), some (.int v3)], [.int (F_Cargo_boxAt (a1 - a2) hc)], (W_Surv hu hv hh hr hc))) 1 rfl ?_
      exact sv_Q.z ⟨True, rfl, trivial, rfl⟩
  · refine sv_Q.sb rfl (fun c1 => ?_) (fun c1 => ?_)
    · refine sv_Q.s (σ' := (35, [some (.ref 0), some (.ref 5), some (.int a1), some (.int a2), some (.int (a1 - a2)), none], [.int (0 : Int32)], (W_Surv hu hv hh hr hc))) 1 rfl ?_
      refine sv_Q.f (lo' := [none, some (.ref 5), none, none, some (.int (a1 - a2)), none]) ⟨rfl, ⟨rfl, trivial⟩⟩ ?_
      exact sv_Q.z rfl
    · refine sv_Q.s (σ' := (24, [some (.ref 0), some (.ref 5), some (.int a1), some (.int a2), some (.int (a1 - a2)), none], [.int (a1 - a2), .int a1, .ref 7], (W_Surv hu hv hh hr hc))) 4 rfl ?_
      refine sv_Q.V (b := 0) (av := [.int a1, .int (a1 - a2)]) (ps := [7, 8, 9, 10, 11, 12]) (rest := []) (cs1 := (W_Hull hh)) (cs2 := (W_Hull hh)) (st' := [.int (F_Hull_hatchBetween a1 (a1 - a2) hh)]) (cs' := (W_Surv hu hv hh hr hc)) (q := (24, .null, 0, 0, 0)) lk_Surv_72 (t_Hull_hatchBetween hh a1 (a1 - a2)) rfl rfl rfl rfl rfl (Or.inl ⟨2, _, _, rfl, rfl, rfl⟩) rfl rfl (sc_Surv_Hull_2 hu hv hh hr hc) rfl rfl (pc_Surv_Hull_2 hu hv hh hr hc hh) ?_
      refine sv_Q.sb rfl (fun c2 => ?_) (fun c2 => ?_)
      · refine sv_Q.s (σ' := (35, [some (.ref 0), some (.ref 5), some (.int a1), some (.int a2), some (.int (a1 - a2)), none], [.int (0 : Int32)], (W_Surv hu hv hh hr hc))) 1 rfl ?_
        refine sv_Q.f (lo' := [none, some (.ref 5), none, none, some (.int (a1 - a2)), none]) ⟨rfl, ⟨rfl, trivial⟩⟩ ?_
        exact sv_Q.z rfl
      · refine sv_Q.s (σ' := (35, [some (.ref 0), some (.ref 5), some (.int a1), some (.int a2), some (.int (a1 - a2)), none], [.int (1 : Int32)], (W_Surv hu hv hh hr hc))) 2 rfl ?_
        refine sv_Q.f (lo' := [none, some (.ref 5), none, none, some (.int (a1 - a2)), none]) ⟨rfl, ⟨rfl, trivial⟩⟩ ?_
        exact sv_Q.z rfl
theorem t_Surv_boxBelow {X : Nat × (Nat → Int32)} (hu hv hh hr hc : Nat → Nat → Int32) (a1 : Int32) (a2 : Int32) : sv_R X 4 M_Surv_boxBelow [.ref 0, .ref 5, .int a1, .int a2] (W_Surv hu hv hh hr hc) (some (.int (F_Surv_boxBelow a1 a2 hh hc))) (W_Surv hu hv hh hr hc) := r_Surv_boxBelow hu hv hh hr hc a1 a2 _ rfl
def L_Surv_countEarlierBelow_5 (N : Nat) : Nat → Int32 → Int32 → Int32 → (Nat → Nat → Int32) → (Nat → Nat → Int32) → Option (Int32)
  | 0, _, _, _, _, _ => none
  | n + 1, x2, x3, x4, hh, hc => (if (3 : Int32) ≤ x4 then (some x3) else (if (F_Surv_boxBelow (F_Cargo_placeOf x2 hc) x4 hh hc) = (-1 : Int32) then (L_Surv_countEarlierBelow_5 N n x2 x3 (x4 + (1 : Int32)) hh hc) else (if (F_Cargo_portOf x2 hc) ≤ (F_Cargo_portOf (F_Surv_boxBelow (F_Cargo_placeOf x2 hc) x4 hh hc) hc) then (L_Surv_countEarlierBelow_5 N n x2 x3 (x4 + (1 : Int32)) hh hc) else (L_Surv_countEarlierBelow_5 N n x2 (x3 + (1 : Int32)) (x4 + (1 : Int32)) hh hc))))
theorem l_Surv_countEarlierBelow_5 {X : Nat × (Nat → Int32)} (N : Nat) : ∀ (n : Nat) (x2 : Int32) (x3 : Int32) (x4 : Int32) (hu hv hh hr hc : Nat → Nat → Int32), sv_Q X 4 M_Surv_countEarlierBelow (5, [some (.ref 0), some (.ref 5), some (.int x2), some (.int x3), some (.int x4), none], [], (W_Surv hu hv hh hr hc)) (L_Surv_countEarlierBelow_5 N n x2 x3 x4 hh hc) (fun v σ' => σ' = (63, [none, none, none, some (.int v), none, none], [], (W_Surv hu hv hh hr hc))) := by
  intro n
  induction n with
  | zero => intro x2 x3 x4 hu hv hh hr hc; unfold L_Surv_countEarlierBelow_5; exact sv_Q.non
  | succ n ih =>
    intro x2 x3 x4 hu hv hh hr hc
    unfold L_Surv_countEarlierBelow_5
    refine sv_Q.s (σ' := (8, [some (.ref 0), some (.ref 5), some (.int x2), some (.int x3), some (.int x4), none], [.int (3 : Int32), .int x4], (W_Surv hu hv hh hr hc))) 2 rfl ?_
    refine sv_Q.b rfl (fun c1 => ?_) (fun c1 => ?_)
    · refine sv_Q.f (lo' := [none, none, none, some (.int x3), none, none]) ⟨rfl, trivial⟩ ?_
      exact sv_Q.z rfl
    · refine sv_Q.s (σ' := (18, [some (.ref 0), some (.ref 5), some (.int x2), some (.int x3), some (.int x4), none], [.int x2, .ref 21, .ref 5, .ref 0], (W_Surv hu hv hh hr hc))) 5 rfl ?_
      refine sv_Q.V (b := 0) (av := [.int x2]) (ps := [21, 22, 23, 24, 25, 26]) (rest := [.ref 5, .ref 0]) (cs1 := (W_Cargo hc)) (cs2 := (W_Cargo hc)) (st' := [.int (F_Cargo_placeOf x2 hc), .ref 5, .ref 0]) (cs' := (W_Surv hu hv hh hr hc)) (q := (18, .null, 0, 0, 0)) lk_Surv_48 (t_Cargo_placeOf hc x2) rfl rfl rfl rfl rfl (Or.inl ⟨0, _, _, rfl, rfl, rfl⟩) rfl rfl (sc_Surv_Cargo_4 hu hv hh hr hc) rfl rfl (pc_Surv_Cargo_4 hu hv hh hr hc hc) ?_
      refine sv_Q.s (σ' := (23, [some (.ref 0), some (.ref 5), some (.int x2), some (.int x3), some (.int x4), none], [.int x4, .int (F_Cargo_placeOf x2 hc), .ref 5, .ref 0], (W_Surv hu hv hh hr hc))) 1 rfl ?_
      refine sv_Q.V (b := 0) (av := [.ref 5, .int (F_Cargo_placeOf x2 hc), .int x4]) (ps := [0, 1, 2, 3, 4, 5, 6, 7, 8, 9, 10, 11, 12, 13, 14, 15, 16, 17, 18, 19, 20, 21, 22, 23, 24, 25, 26]) (rest := []) (cs1 := (W_Surv hu hv hh hr hc)) (cs2 := (W_Surv hu hv hh hr hc)) (st' := [.int (F_Surv_boxBelow (F_Cargo_placeOf x2 hc) x4 hh hc)]) (cs' := (W_Surv hu hv hh hr hc)) (q := (23, .null, 0, 0, 0)) lk_Surv_83 (t_Surv_boxBelow hu hv hh hr hc (F_Cargo_placeOf x2 hc) x4) rfl rfl rfl rfl rfl (Or.inl ⟨8, _, _, rfl, rfl, rfl⟩) rfl rfl (sc_Surv_Surv_0 hu hv hh hr hc) rfl rfl (pc_Surv_Surv_0 hu hv hh hr hc hu hv hh hr hc) ?_
      refine sv_Q.s (σ' := (31, [some (.ref 0), some (.ref 5), some (.int x2), some (.int x3), some (.int x4), some (.int (F_Surv_boxBelow (F_Cargo_placeOf x2 hc) x4 hh hc))], [.int (-1 : Int32), .int (F_Surv_boxBelow (F_Cargo_placeOf x2 hc) x4 hh hc)], (W_Surv hu hv hh hr hc))) 3 rfl ?_
      refine sv_Q.b rfl (fun c2 => ?_) (fun c2 => ?_)
      · refine sv_Q.s (σ' := (5, [some (.ref 0), some (.ref 5), some (.int x2), some (.int x3), some (.int (x4 + (1 : Int32))), some (.int (F_Surv_boxBelow (F_Cargo_placeOf x2 hc) x4 hh hc))], [], (W_Surv hu hv hh hr hc))) 2 rfl ?_
        refine sv_Q.f (lo' := [some (.ref 0), some (.ref 5), some (.int x2), some (.int x3), some (.int (x4 + (1 : Int32))), none]) ⟨rfl, ⟨rfl, ⟨rfl, ⟨rfl, ⟨rfl, trivial⟩⟩⟩⟩⟩ ?_
        exact ih x2 x3 (x4 + (1 : Int32)) hu hv hh hr hc
      · refine sv_Q.s (σ' := (40, [some (.ref 0), some (.ref 5), some (.int x2), some (.int x3), some (.int x4), some (.int (F_Surv_boxBelow (F_Cargo_placeOf x2 hc) x4 hh hc))], [.int (F_Surv_boxBelow (F_Cargo_placeOf x2 hc) x4 hh hc), .ref 21], (W_Surv hu hv hh hr hc))) 3 rfl ?_
        refine sv_Q.V (b := 0) (av := [.int (F_Surv_boxBelow (F_Cargo_placeOf x2 hc) x4 hh hc)]) (ps := [21, 22, 23, 24, 25, 26]) (rest := []) (cs1 := (W_Cargo hc)) (cs2 := (W_Cargo hc)) (st' := [.int (F_Cargo_portOf (F_Surv_boxBelow (F_Cargo_placeOf x2 hc) x4 hh hc) hc)]) (cs' := (W_Surv hu hv hh hr hc)) (q := (40, .null, 0, 0, 0)) lk_Surv_87 (t_Cargo_portOf hc (F_Surv_boxBelow (F_Cargo_placeOf x2 hc) x4 hh hc)) rfl rfl rfl rfl rfl (Or.inl ⟨0, _, _, rfl, rfl, rfl⟩) rfl rfl (sc_Surv_Cargo_4 hu hv hh hr hc) rfl rfl (pc_Surv_Cargo_4 hu hv hh hr hc hc) ?_
        refine sv_Q.s (σ' := (48, [some (.ref 0), some (.ref 5), some (.int x2), some (.int x3), some (.int x4), some (.int (F_Surv_boxBelow (F_Cargo_placeOf x2 hc) x4 hh hc))], [.int x2, .ref 21, .int (F_Cargo_portOf (F_Surv_boxBelow (F_Cargo_placeOf x2 hc) x4 hh hc) hc)], (W_Surv hu hv hh hr hc))) 3 rfl ?_
        refine sv_Q.V (b := 0) (av := [.int x2]) (ps := [21, 22, 23, 24, 25, 26]) (rest := [.int (F_Cargo_portOf (F_Surv_boxBelow (F_Cargo_placeOf x2 hc) x4 hh hc) hc)]) (cs1 := (W_Cargo hc)) (cs2 := (W_Cargo hc)) (st' := [.int (F_Cargo_portOf x2 hc), .int (F_Cargo_portOf (F_Surv_boxBelow (F_Cargo_placeOf x2 hc) x4 hh hc) hc)]) (cs' := (W_Surv hu hv hh hr hc)) (q := (48, .null, 0, 0, 0)) lk_Surv_87 (t_Cargo_portOf hc x2) rfl rfl rfl rfl rfl (Or.inl ⟨0, _, _, rfl, rfl, rfl⟩) rfl rfl (sc_Surv_Cargo_4 hu hv hh hr hc) rfl rfl (pc_Surv_Cargo_4 hu hv hh hr hc hc) ?_
        refine sv_Q.b rfl (fun c3 => ?_) (fun c3 => ?_)
        · refine sv_Q.s (σ' := (5, [some (.ref 0), some (.ref 5), some (.int x2), some (.int x3), some (.int (x4 + (1 : Int32))), some (.int (F_Surv_boxBelow (F_Cargo_placeOf x2 hc) x4 hh hc))], [], (W_Surv hu hv hh hr hc))) 2 rfl ?_
          refine sv_Q.f (lo' := [some (.ref 0), some (.ref 5), some (.int x2), some (.int x3), some (.int (x4 + (1 : Int32))), none]) ⟨rfl, ⟨rfl, ⟨rfl, ⟨rfl, ⟨rfl, trivial⟩⟩⟩⟩⟩ ?_
          exact ih x2 x3 (x4 + (1 : Int32)) hu hv hh hr hc
        · refine sv_Q.s (σ' := (5, [some (.ref 0), some (.ref 5), some (.int x2), some (.int (x3 + (1 : Int32))), some (.int (x4 + (1 : Int32))), some (.int (F_Surv_boxBelow (F_Cargo_placeOf x2 hc) x4 hh hc))], [], (W_Surv hu hv hh hr hc))) 3 rfl ?_
          refine sv_Q.f (lo' := [some (.ref 0), some (.ref 5), some (.int x2), some (.int (x3 + (1 : Int32))), some (.int (x4 + (1 : Int32))), none]) ⟨rfl, ⟨rfl, ⟨rfl, ⟨rfl, ⟨rfl, trivial⟩⟩⟩⟩⟩ ?_
          exact ih x2 (x3 + (1 : Int32)) (x4 + (1 : Int32)) hu hv hh hr hc
def F_Surv_countEarlierBelow (N : Nat) (a1 : Int32) (hh hc : Nat → Nat → Int32) : Option (Int32) := (Option.bind (L_Surv_countEarlierBelow_5 N N a1 (0 : Int32) (1 : Int32) hh hc) fun (v4 : Int32) => (some v4))
theorem r_Surv_countEarlierBelow {X : Nat × (Nat → Int32)} (N : Nat) (hu hv hh hr hc : Nat → Nat → Int32) (a1 : Int32) : ∀ x, (F_Surv_countEarlierBelow N a1 hh hc) = some x → sv_R X 5 M_Surv_countEarlierBelow [.ref 0, .ref 5, .int a1] (W_Surv hu hv hh hr hc) (some (.int x)) (W_Surv hu hv hh hr hc) := by
  refine sv_Q.R (res := (fun (x : Int32) => (some (.int x), (W_Surv hu hv hh hr hc)))) g_Surv_countEarlierBelow rfl ?_
  unfold F_Surv_countEarlierBelow
  refine sv_Q.s (σ' := (5, [some (.ref 0), some (.ref 5), some (.int a1), some (.int (0 : Int32)), some (.int (1 : Int32)), none], [], (W_Surv hu hv hh hr hc))) 4 rfl ?_
  refine sv_Q.lo (fun v4 => (63, [none, none, none, some (.int v4), none, none], [], (W_Surv hu hv hh hr hc))) (fun v4 => ?_) (l_Surv_countEarlierBelow_5 N N a1 (0 : Int32) (1 : Int32) hu hv hh hr hc)
  · refine sv_Q.s (σ' := (64, [none, none, none, some (.int v4), none, none], [.int v4], (W_Surv hu hv hh hr hc))) 1 rfl ?_
    exact sv_Q.z ⟨True, rfl, trivial, rfl⟩
def L_Surv_countOver_4 (N : Nat) : Nat → Int32 → Int32 → (Nat → Nat → Int32) → (Nat → Nat → Int32) → Option (Int32)
  | 0, _, _, _, _ => none
  | n + 1, x2, x3, hh, hc => (if (hc 0 0) ≤ x3 then (some x2) else (if (F_Cargo_lies x3 hc) = 0 then (L_Surv_countOver_4 N n (x2 + (0 : Int32)) (x3 + (1 : Int32)) hh hc) else (Option.bind (F_Surv_countEarlierBelow N x3 hh hc) fun (v3 : Int32) => (L_Surv_countOver_4 N n (x2 + v3) (x3 + (1 : Int32)) hh hc))))
theorem l_Surv_countOver_4 {X : Nat × (Nat → Int32)} (N : Nat) : ∀ (n : Nat) (x2 : Int32) (x3 : Int32) (hu hv hh hr hc : Nat → Nat → Int32), sv_Q X 5 M_Surv_countOver (4, [some (.ref 0), some (.ref 5), some (.int x2), some (.int x3)], [], (W_Surv hu hv hh hr hc)) (L_Surv_countOver_4 N n x2 x3 hh hc) (fun v σ' => σ' = (45, [none, none, some (.int v), none], [], (W_Surv hu hv hh hr hc))) := by
  intro n
  induction n with
  | zero => intro x2 x3 hu hv hh hr hc; unfold L_Surv_countOver_4; exact sv_Q.non
  | succ n ih =>
    intro x2 x3 hu hv hh hr hc
    unfold L_Surv_countOver_4
    refine sv_Q.s (σ' := (12, [some (.ref 0), some (.ref 5), some (.int x2), some (.int x3)], [.int (hc 0 0), .int x3], (W_Surv hu hv hh hr hc))) 4 rfl ?_
    refine sv_Q.b rfl (fun c1 => ?_) (fun c1 => ?_)
    · refine sv_Q.f (lo' := [none, none, some (.int x2), none]) ⟨rfl, trivial⟩ ?_
      exact sv_Q.z rfl
    · refine sv_Q.s (σ' := (21, [some (.ref 0), some (.ref 5), some (.int x2), some (.int x3)], [.int x3, .ref 21, .int x2], (W_Surv hu hv hh hr hc))) 4 rfl ?_
      refine sv_Q.V (b := 0) (av := [.int x3]) (ps := [21, 22, 23, 24, 25, 26]) (rest := [.int x2]) (cs1 := (W_Cargo hc)) (cs2 := (W_Cargo hc)) (st' := [.int (F_Cargo_lies x3 hc), .int x2]) (cs' := (W_Surv hu hv hh hr hc)) (q := (21, .null, 0, 0, 0)) lk_Surv_36 (t_Cargo_lies hc x3) rfl rfl rfl rfl rfl (Or.inl ⟨0, _, _, rfl, rfl, rfl⟩) rfl rfl (sc_Surv_Cargo_4 hu hv hh hr hc) rfl rfl (pc_Surv_Cargo_4 hu hv hh hr hc hc) ?_
      refine sv_Q.b rfl (fun c2 => ?_) (fun c2 => ?_)
      · refine sv_Q.s (σ' := (4, [some (.ref 0), some (.ref 5), some (.int (x2 + (0 : Int32))), some (.int (x3 + (1 : Int32)))], [], (W_Surv hu hv hh hr hc))) 5 rfl ?_
        exact ih (x2 + (0 : Int32)) (x3 + (1 : Int32)) hu hv hh hr hc
      · refine sv_Q.s (σ' := (30, [some (.ref 0), some (.ref 5), some (.int x2), some (.int x3)], [.int x3, .ref 5, .ref 0, .int x2], (W_Surv hu hv hh hr hc))) 3 rfl ?_
        refine sv_Q.o (fun v3 e4 => ?_)
        refine sv_Q.V (b := 0) (av := [.ref 5, .int x3]) (ps := [0, 1, 2, 3, 4, 5, 6, 7, 8, 9, 10, 11, 12, 13, 14, 15, 16, 17, 18, 19, 20, 21, 22, 23, 24, 25, 26]) (rest := [.int x2]) (cs1 := (W_Surv hu hv hh hr hc)) (cs2 := (W_Surv hu hv hh hr hc)) (st' := [.int v3, .int x2]) (cs' := (W_Surv hu hv hh hr hc)) (q := (30, .null, 0, 0, 0)) lk_Surv_79 (r_Surv_countEarlierBelow N hu hv hh hr hc x3 v3 e4) rfl rfl rfl rfl rfl (Or.inl ⟨8, _, _, rfl, rfl, rfl⟩) rfl rfl (sc_Surv_Surv_0 hu hv hh hr hc) rfl rfl (pc_Surv_Surv_0 hu hv hh hr hc hu hv hh hr hc) ?_
        refine sv_Q.s (σ' := (4, [some (.ref 0), some (.ref 5), some (.int (x2 + v3)), some (.int (x3 + (1 : Int32)))], [], (W_Surv hu hv hh hr hc))) 5 rfl ?_
        exact ih (x2 + v3) (x3 + (1 : Int32)) hu hv hh hr hc
def F_Surv_countOver (N : Nat) (hh hc : Nat → Nat → Int32) : Option (Int32) := (Option.bind (L_Surv_countOver_4 N N (0 : Int32) (0 : Int32) hh hc) fun (v5 : Int32) => (some v5))
theorem r_Surv_countOver {X : Nat × (Nat → Int32)} (N : Nat) (hu hv hh hr hc : Nat → Nat → Int32) : ∀ x, (F_Surv_countOver N hh hc) = some x → sv_R X 6 M_Surv_countOver [.ref 0, .ref 5] (W_Surv hu hv hh hr hc) (some (.int x)) (W_Surv hu hv hh hr hc) := by
  refine sv_Q.R (res := (fun (x : Int32) => (some (.int x), (W_Surv hu hv hh hr hc)))) g_Surv_countOver rfl ?_
  unfold F_Surv_countOver
  refine sv_Q.s (σ' := (4, [some (.ref 0), some (.ref 5), some (.int (0 : Int32)), some (.int (0 : Int32))], [], (W_Surv hu hv hh hr hc))) 4 rfl ?_
  refine sv_Q.lo (fun v5 => (45, [none, none, some (.int v5), none], [], (W_Surv hu hv hh hr hc))) (fun v5 => ?_) (l_Surv_countOver_4 N N (0 : Int32) (0 : Int32) hu hv hh hr hc)
  · refine sv_Q.s (σ' := (46, [none, none, some (.int v5), none], [.int v5], (W_Surv hu hv hh hr hc))) 1 rfl ?_
    exact sv_Q.z ⟨True, rfl, trivial, rfl⟩
def L_Surv_isAbovePort_3 (N : Nat) : Nat → Int32 → Int32 → Int32 → (Nat → Nat → Int32) → (Nat → Nat → Int32) → Option ((Unit) ⊕ (Int32))
  | 0, _, _, _, _, _ => none
  | n + 1, x2, x3, x4, hh, hc => (if (3 : Int32) ≤ x4 then (some (.inl ())) else (if (F_Surv_boxBelow (F_Cargo_placeOf x2 hc) x4 hh hc) = (-1 : Int32) then (L_Surv_isAbovePort_3 N n x2 x3 (x4 + (1 : Int32)) hh hc) else (if ¬ (F_Cargo_portOf (F_Surv_boxBelow (F_Cargo_placeOf x2 hc) x4 hh hc) hc) = x3 then (L_Surv_isAbovePort_3 N n x2 x3 (x4 + (1 : Int32)) hh hc) else (some (.inr (1 : Int32))))))
theorem l_Surv_isAbovePort_3 {X : Nat × (Nat → Int32)} (N : Nat) : ∀ (n : Nat) (x2 : Int32) (x3 : Int32) (x4 : Int32) (hu hv hh hr hc : Nat → Nat → Int32), sv_Q X 4 M_Surv_isAbovePort (3, [some (.ref 0), some (.ref 5), some (.int x2), some (.int x3), some (.int x4), none], [], (W_Surv hu hv hh hr hc)) (L_Surv_isAbovePort_3 N n x2 x3 x4 hh hc) (sv_K2 (fun (v : Unit) => (53, [none, none, none, none, none, none], [], (W_Surv hu hv hh hr hc))) (sv_KR M_Surv_isAbovePort (fun (x : Int32) => (some (.int x), (W_Surv hu hv hh hr hc))))) := by
  intro n
  induction n with
  | zero => intro x2 x3 x4 hu hv hh hr hc; unfold L_Surv_isAbovePort_3; exact sv_Q.non
  | succ n ih =>
    intro x2 x3 x4 hu hv hh hr hc
    unfold L_Surv_isAbovePort_3
    refine sv_Q.s (σ' := (6, [some (.ref 0), some (.ref 5), some (.int x2), some (.int x3), some (.int x4), none], [.int (3 : Int32), .int x4], (W_Surv hu hv hh hr hc))) 2 rfl ?_
    refine sv_Q.b rfl (fun c1 => ?_) (fun c1 => ?_)
    · refine sv_Q.f (lo' := [none, none, none, none, none, none]) trivial ?_
      exact sv_Q.z rfl
    · refine sv_Q.s (σ' := (16, [some (.ref 0), some (.ref 5), some (.int x2), some (.int x3), some (.int x4), none], [.int x2, .ref 21, .ref 5, .ref 0], (W_Surv hu hv hh hr hc))) 5 rfl ?_
      refine sv_Q.V (b := 0) (av := [.int x2]) (ps := [21, 22, 23, 24, 25, 26]) (rest := [.ref 5, .ref 0]) (cs1 := (W_Cargo hc)) (cs2 := (W_Cargo hc)) (st' := [.int (F_Cargo_placeOf x2 hc), .ref 5, .ref 0]) (cs' := (W_Surv hu hv hh hr hc)) (q := (16, .null, 0, 0, 0)) lk_Surv_48 (t_Cargo_placeOf hc x2) rfl rfl rfl rfl rfl (Or.inl ⟨0, _, _, rfl, rfl, rfl⟩) rfl rfl (sc_Surv_Cargo_4 hu hv hh hr hc) rfl rfl (pc_Surv_Cargo_4 hu hv hh hr hc hc) ?_
      refine sv_Q.s (σ' := (21, [some (.ref 0), some (.ref 5), some (.int x2), some (.int x3), some (.int x4), none], [.int x4, .int (F_Cargo_placeOf x2 hc), .ref 5, .ref 0], (W_Surv hu hv hh hr hc))) 1 rfl ?_
      refine sv_Q.V (b := 0) (av := [.ref 5, .int (F_Cargo_placeOf x2 hc), .int x4]) (ps := [0, 1, 2, 3, 4, 5, 6, 7, 8, 9, 10, 11, 12, 13, 14, 15, 16, 17, 18, 19, 20, 21, 22, 23, 24, 25, 26]) (rest := []) (cs1 := (W_Surv hu hv hh hr hc)) (cs2 := (W_Surv hu hv hh hr hc)) (st' := [.int (F_Surv_boxBelow (F_Cargo_placeOf x2 hc) x4 hh hc)]) (cs' := (W_Surv hu hv hh hr hc)) (q := (21, .null, 0, 0, 0)) lk_Surv_83 (t_Surv_boxBelow hu hv hh hr hc (F_Cargo_placeOf x2 hc) x4) rfl rfl rfl rfl rfl (Or.inl ⟨8, _, _, rfl, rfl, rfl⟩) rfl rfl (sc_Surv_Surv_0 hu hv hh hr hc) rfl rfl (pc_Surv_Surv_0 hu hv hh hr hc hu hv hh hr hc) ?_
      refine sv_Q.s (σ' := (29, [some (.ref 0), some (.ref 5), some (.int x2), some (.int x3), some (.int x4), some (.int (F_Surv_boxBelow (F_Cargo_placeOf x2 hc) x4 hh hc))], [.int (-1 : Int32), .int (F_Surv_boxBelow (F_Cargo_placeOf x2 hc) x4 hh hc)], (W_Surv hu hv hh hr hc))) 3 rfl ?_
      refine sv_Q.b rfl (fun c2 => ?_) (fun c2 => ?_)
      · refine sv_Q.s (σ' := (3, [some (.ref 0), some (.ref 5), some (.int x2), some (.int x3), some (.int (x4 + (1 : Int32))), some (.int (F_Surv_boxBelow (F_Cargo_placeOf x2 hc) x4 hh hc))], [], (W_Surv hu hv hh hr hc))) 2 rfl ?_
        refine sv_Q.f (lo' := [some (.ref 0), some (.ref 5), some (.int x2), some (.int x3), some (.int (x4 + (1 : Int32))), none]) ⟨rfl, ⟨rfl, ⟨rfl, ⟨rfl, ⟨rfl, trivial⟩⟩⟩⟩⟩ ?_
        exact ih x2 x3 (x4 + (1 : Int32)) hu hv hh hr hc
      · refine sv_Q.s (σ' := (38, [some (.ref 0), some (.ref 5), some (.int x2), some (.int x3), some (.int x4), some (.int (F_Surv_boxBelow (F_Cargo_placeOf x2 hc) x4 hh hc))], [.int (F_Surv_boxBelow (F_Cargo_placeOf x2 hc) x4 hh hc), .ref 21], (W_Surv hu hv hh hr hc))) 3 rfl ?_
        refine sv_Q.V (b := 0) (av := [.int (F_Surv_boxBelow (F_Cargo_placeOf x2 hc) x4 hh hc)]) (ps := [21, 22, 23, 24, 25, 26]) (rest := []) (cs1 := (W_Cargo hc)) (cs2 := (W_Cargo hc)) (st' := [.int (F_Cargo_portOf (F_Surv_boxBelow (F_Cargo_placeOf x2 hc) x4 hh hc) hc)]) (cs' := (W_Surv hu hv hh hr hc)) (q := (38, .null, 0, 0, 0)) lk_Surv_87 (t_Cargo_portOf hc (F_Surv_boxBelow (F_Cargo_placeOf x2 hc) x4 hh hc)) rfl rfl rfl rfl rfl (Or.inl ⟨0, _, _, rfl, rfl, rfl⟩) rfl rfl (sc_Surv_Cargo_4 hu hv hh hr hc) rfl rfl (pc_Surv_Cargo_4 hu hv hh hr hc hc) ?_
        refine sv_Q.s (σ' := (42, [some (.ref 0), some (.ref 5), some (.int x2), some (.int x3), some (.int x4), some (.int (F_Surv_boxBelow (F_Cargo_placeOf x2 hc) x4 hh hc))], [.int x3, .int (F_Cargo_portOf (F_Surv_boxBelow (F_Cargo_placeOf x2 hc) x4 hh hc) hc)], (W_Surv hu hv hh hr hc))) 1 rfl ?_
        refine sv_Q.b rfl (fun c3 => ?_) (fun c3 => ?_)
        · refine sv_Q.s (σ' := (3, [some (.ref 0), some (.ref 5), some (.int x2), some (.int x3), some (.int (x4 + (1 : Int32))), some (.int (F_Surv_boxBelow (F_Cargo_placeOf x2 hc) x4 hh hc))], [], (W_Surv hu hv hh hr hc))) 2 rfl ?_
          refine sv_Q.f (lo' := [some (.ref 0), some (.ref 5), some (.int x2), some (.int x3), some (.int (x4 + (1 : Int32))), none]) ⟨rfl, ⟨rfl, ⟨rfl, ⟨rfl, ⟨rfl, trivial⟩⟩⟩⟩⟩ ?_
          exact ih x2 x3 (x4 + (1 : Int32)) hu hv hh hr hc
        · refine sv_Q.s (σ' := (46, [some (.ref 0), some (.ref 5), some (.int x2), some (.int x3), some (.int x4), some (.int (F_Surv_boxBelow (F_Cargo_placeOf x2 hc) x4 hh hc))], [.int (1 : Int32)], (W_Surv hu hv hh hr hc))) 1 rfl ?_
          exact sv_Q.z ⟨sv_01 (1 : Int32), rfl, Or.inr rfl, rfl⟩
def F_Surv_isAbovePort (N : Nat) (a1 : Int32) (a2 : Int32) (hh hc : Nat → Nat → Int32) : Option (Int32) := (sv_bs (L_Surv_isAbovePort_3 N N a1 a2 (1 : Int32) hh hc) id fun (v4 : Unit) => (some (0 : Int32)))
theorem r_Surv_isAbovePort {X : Nat × (Nat → Int32)} (N : Nat) (hu hv hh hr hc : Nat → Nat → Int32) (a1 : Int32) (a2 : Int32) : ∀ x, (F_Surv_isAbovePort N a1 a2 hh hc) = some x → sv_R X 5 M_Surv_isAbovePort [.ref 0, .ref 5, .int a1, .int a2] (W_Surv hu hv hh hr hc) (some (.int x)) (W_Surv hu hv hh hr hc) := by
  refine sv_Q.R (res := (fun (x : Int32) => (some (.int x), (W_Surv hu hv hh hr hc)))) g_Surv_isAbovePort rfl ?_
  unfold F_Surv_isAbovePort
  refine sv_Q.s (σ' := (3, [some (.ref 0), some (.ref 5), some (.int a1), some (.int a2), some (.int (1 : Int32)), none], [], (W_Surv hu hv hh hr hc))) 2 rfl ?_
  refine sv_Q.bs (l_Surv_isAbovePort_3 N N a1 a2 (1 : Int32) hu hv hh hr hc) (fun v4 => ?_) (fun r σ' h => h)
  · refine sv_Q.s (σ' := (54, [none, none, none, none, none, none], [.int (0 : Int32)], (W_Surv hu hv hh hr hc))) 1 rfl ?_
    exact sv_Q.z ⟨sv_01 (0 : Int32), rfl, Or.inl rfl, rfl⟩
def L_Surv_countAbove_5 (N : Nat) : Nat → Int32 → Int32 → Int32 → (Nat → Nat → Int32) → (Nat → Nat → Int32) → Option (Int32)
  | 0, _, _, _, _, _ => none
  | n + 1, x2, x3, x4, hh, hc => (if (hc 0 0) ≤ x4 then (some x3) else (sv_let (if (F_Cargo_lies x4 hc) = 0 then (0 : Int32) else (if (F_Cargo_portOf x4 hc) = x2 then (0 : Int32) else (1 : Int32))) fun (v4 : Int32) => (if v4 = 0 then (L_Surv_countAbove_5 N n x2 x3 (x4 + (1 : Int32)) hh hc) else (Option.bind (F_Surv_isAbovePort N x4 x2 hh hc) fun (v6 : Int32) => (if v6 = 0 then (L_Surv_countAbove_5 N n x2 x3 (x4 + (1 : Int32)) hh hc) else (L_Surv_countAbove_5 N n x2 (x3 + (1 : Int32)) (x4 + (1 : Int32)) hh hc))))))
theorem l_Surv_countAbove_5 {X : Nat × (Nat → Int32)} (N : Nat) : ∀ (n : Nat) (x2 : Int32) (x3 : Int32) (x4 : Int32) (hu hv hh hr hc : Nat → Nat → Int32), sv_Q X 5 M_Surv_countAbove (5, [some (.ref 0), some (.ref 5), some (.int x2), some (.int x3), some (.int x4), none], [], (W_Surv hu hv hh hr hc)) (L_Surv_countAbove_5 N n x2 x3 x4 hh hc) (fun v σ' => σ' = (74, [none, none, none, some (.int v), none, none], [], (W_Surv hu hv hh hr hc))) := by
  intro n
  induction n with
  | zero => intro x2 x3 x4 hu hv hh hr hc; unfold L_Surv_countAbove_5; exact sv_Q.non
  | succ n ih =>
    intro x2 x3 x4 hu hv hh hr hc
    unfold L_Surv_countAbove_5
    refine sv_Q.s (σ' := (14, [some (.ref 0), some (.ref 5), some (.int x2), some (.int x3), some (.int x4), none], [.int (hc 0 0), .int x4], (W_Surv hu hv hh hr hc))) 4 rfl ?_
    refine sv_Q.b rfl (fun c1 => ?_) (fun c1 => ?_)
    · refine sv_Q.f (lo' := [none, none, none, some (.int x3), none, none]) ⟨rfl, trivial⟩ ?_
      exact sv_Q.z rfl
    · refine sv_Q.s (σ' := (23, [some (.ref 0), some (.ref 5), some (.int x2), some (.int x3), some (.int x4), none], [.int x4, .ref 21], (W_Surv hu hv hh hr hc))) 3 rfl ?_
      refine sv_Q.V (b := 0) (av := [.int x4]) (ps := [21, 22, 23, 24, 25, 26]) (rest := []) (cs1 := (W_Cargo hc)) (cs2 := (W_Cargo hc)) (st' := [.int (F_Cargo_lies x4 hc)]) (cs' := (W_Surv hu hv hh hr hc)) (q := (23, .null, 0, 0, 0)) lk_Surv_36 (t_Cargo_lies hc x4) rfl rfl rfl rfl rfl (Or.inl ⟨0, _, _, rfl, rfl, rfl⟩) rfl rfl (sc_Surv_Cargo_4 hu hv hh hr hc) rfl rfl (pc_Surv_Cargo_4 hu hv hh hr hc hc) ?_
      refine sv_Q.l (fun v4 => (47, [some (.ref 0), some (.ref 5), some (.int x2), some (.int x3), some (.int x4), none], [.int v4], (W_Surv hu hv hh hr hc))) (fun v4 => ?_) ?_
      · refine sv_Q.s (σ' := (51, [some (.ref 0), some (.ref 5), some (.int x2), some (.int x3), some (.int x4), some (.int v4)], [.int v4], (W_Surv hu hv hh hr hc))) 2 rfl ?_
        refine sv_Q.b rfl (fun c5 => ?_) (fun c5 => ?_)
        · refine sv_Q.s (σ' := (5, [some (.ref 0), some (.ref 5), some (.int x2), some (.int x3), some (.int (x4 + (1 : Int32))), some (.int v4)], [], (W_Surv hu hv hh hr hc))) 2 rfl ?_
          refine sv_Q.f (lo' := [some (.ref 0), some (.ref 5), some (.int x2), some (.int x3), some (.int (x4 + (1 : Int32))), none]) ⟨rfl, ⟨rfl, ⟨rfl, ⟨rfl, ⟨rfl, trivial⟩⟩⟩⟩⟩ ?_
          exact ih x2 x3 (x4 + (1 : Int32)) hu hv hh hr hc
        · refine sv_Q.s (σ' := (59, [some (.ref 0), some (.ref 5), some (.int x2), some (.int x3), some (.int x4), some (.int v4)], [.int x2, .int x4, .ref 5, .ref 0], (W_Surv hu hv hh hr hc))) 4 rfl ?_
          refine sv_Q.o (fun v6 e7 => ?_)
          refine sv_Q.V (b := 0) (av := [.ref 5, .int x4, .int x2]) (ps := [0, 1, 2, 3, 4, 5, 6, 7, 8, 9, 10, 11, 12, 13, 14, 15, 16, 17, 18, 19, 20, 21, 22, 23, 24, 25, 26]) (rest := []) (cs1 := (W_Surv hu hv hh hr hc)) (cs2 := (W_Surv hu hv hh hr hc)) (st' := [.int v6]) (cs' := (W_Surv hu hv hh hr hc)) (q := (59, .null, 0, 0, 0)) lk_Surv_90 (r_Surv_isAbovePort N hu hv hh hr hc x4 x2 v6 e7) rfl rfl rfl rfl rfl (Or.inl ⟨8, _, _, rfl, rfl, rfl⟩) rfl rfl (sc_Surv_Surv_0 hu hv hh hr hc) rfl rfl (pc_Surv_Surv_0 hu hv hh hr hc hu hv hh hr hc) ?_
          refine sv_Q.b rfl (fun c8 => ?_) (fun c8 => ?_)
          · refine sv_Q.s (σ' := (5, [some (.ref 0), some (.ref 5), some (.int x2), some (.int x3), some (.int (x4 + (1 : Int32))), some (.int v4)], [], (W_Surv hu hv hh hr hc))) 2 rfl ?_
            refine sv_Q.f (lo' := [some (.ref 0), some (.ref 5), some (.int x2), some (.int x3), some (.int (x4 + (1 : Int32))), none]) ⟨rfl, ⟨rfl, ⟨rfl, ⟨rfl, ⟨rfl, trivial⟩⟩⟩⟩⟩ ?_
            exact ih x2 x3 (x4 + (1 : Int32)) hu hv hh hr hc
          · refine sv_Q.s (σ' := (5, [some (.ref 0), some (.ref 5), some (.int x2), some (.int (x3 + (1 : Int32))), some (.int (x4 + (1 : Int32))), some (.int v4)], [], (W_Surv hu hv hh hr hc))) 3 rfl ?_
            refine sv_Q.f (lo' := [some (.ref 0), some (.ref 5), some (.int x2), some (.int (x3 + (1 : Int32))), some (.int (x4 + (1 : Int32))), none]) ⟨rfl, ⟨rfl, ⟨rfl, ⟨rfl, ⟨rfl, trivial⟩⟩⟩⟩⟩ ?_
            exact ih x2 (x3 + (1 : Int32)) (x4 + (1 : Int32)) hu hv hh hr hc
      · refine sv_Q.sb rfl (fun c2 => ?_) (fun c2 => ?_)
        · refine sv_Q.s (σ' := (47, [some (.ref 0), some (.ref 5), some (.int x2), some (.int x3), some (.int x4), none], [.int (0 : Int32)], (W_Surv hu hv hh hr hc))) 1 rfl ?_
          exact sv_Q.z rfl
        · refine sv_Q.s (σ' := (35, [some (.ref 0), some (.ref 5), some (.int x2), some (.int x3), some (.int x4), none], [.int x4, .ref 21], (W_Surv hu hv hh hr hc))) 3 rfl ?_
          refine sv_Q.V (b := 0) (av := [.int x4]) (ps := [21, 22, 23, 24, 25, 26]) (rest := []) (cs1 := (W_Cargo hc)) (cs2 := (W_Cargo hc)) (st' := [.int (F_Cargo_portOf x4 hc)]) (cs' := (W_Surv hu hv hh hr hc)) (q := (35, .null, 0, 0, 0)) lk_Surv_87 (t_Cargo_portOf hc x4) rfl rfl rfl rfl rfl (Or.inl ⟨0, _, _, rfl, rfl, rfl⟩) rfl rfl (sc_Surv_Cargo_4 hu hv hh hr hc) rfl rfl (pc_Surv_Cargo_4 hu hv hh hr hc hc) ?_
          refine sv_Q.s (σ' := (39, [some (.ref 0), some (.ref 5), some (.int x2), some (.int x3), some (.int x4), none], [.int x2, .int (F_Cargo_portOf x4 hc)], (W_Surv hu hv hh hr hc))) 1 rfl ?_
          refine sv_Q.sb rfl (fun c3 => ?_) (fun c3 => ?_)
          · refine sv_Q.s (σ' := (47, [some (.ref 0), some (.ref 5), some (.int x2), some (.int x3), some (.int x4), none], [.int (0 : Int32)], (W_Surv hu hv hh hr hc))) 1 rfl ?_
            exact sv_Q.z rfl
          · refine sv_Q.s (σ' := (47, [some (.ref 0), some (.ref 5), some (.int x2), some (.int x3), some (.int x4), none], [.int (1 : Int32)], (W_Surv hu hv hh hr hc))) 2 rfl ?_
            exact sv_Q.z rfl
def F_Surv_countAbove (N : Nat) (a1 : Int32) (hh hc : Nat → Nat → Int32) : Option (Int32) := (Option.bind (L_Surv_countAbove_5 N N a1 (0 : Int32) (0 : Int32) hh hc) fun (v9 : Int32) => (some v9))
theorem r_Surv_countAbove {X : Nat × (Nat → Int32)} (N : Nat) (hu hv hh hr hc : Nat → Nat → Int32) (a1 : Int32) : ∀ x, (F_Surv_countAbove N a1 hh hc) = some x → sv_R X 6 M_Surv_countAbove [.ref 0, .ref 5, .int a1] (W_Surv hu hv hh hr hc) (some (.int x)) (W_Surv hu hv hh hr hc) := by
  refine sv_Q.R (res := (fun (x : Int32) => (some (.int x), (W_Surv hu hv hh hr hc)))) g_Surv_countAbove rfl ?_
  unfold F_Surv_countAbove
  refine sv_Q.s (σ' := (5, [some (.ref 0), some (.ref 5), some (.int a1), some (.int (0 : Int32)), some (.int (0 : Int32)), none], [], (W_Surv hu hv hh hr hc))) 4 rfl ?_
  refine sv_Q.lo (fun v9 => (74, [none, none, none, some (.int v9), none, none], [], (W_Surv hu hv hh hr hc))) (fun v9 => ?_) (l_Surv_countAbove_5 N N a1 (0 : Int32) (0 : Int32) hu hv hh hr hc)
  · refine sv_Q.s (σ' := (75, [none, none, none, some (.int v9), none, none], [.int v9], (W_Surv hu hv hh hr hc))) 1 rfl ?_
    exact sv_Q.z ⟨True, rfl, trivial, rfl⟩
def L_Surv_boxInStack_6 (N : Nat) : Nat → Int32 → Int32 → Int32 → Int32 → Int32 → (Nat → Nat → Int32) → Option ((Unit) ⊕ (Int32))
  | 0, _, _, _, _, _, _ => none
  | n + 1, x2, x3, x4, x5, x6, hc => (if x3 ≤ x6 then (some (.inl ())) else (if (F_Cargo_boxAt (x2 + x6) hc) = (-1 : Int32) then (L_Surv_boxInStack_6 N n x2 x3 x4 x5 (x6 + (1 : Int32)) hc) else (if ¬ x5 = x4 then (L_Surv_boxInStack_6 N n x2 x3 x4 (x5 + (1 : Int32)) (x6 + (1 : Int32)) hc) else (some (.inr (F_Cargo_boxAt (x2 + x6) hc))))))
theorem l_Surv_boxInStack_6 {X : Nat × (Nat → Int32)} (N : Nat) : ∀ (n : Nat) (x2 : Int32) (x3 : Int32) (x4 : Int32) (x5 : Int32) (x6 : Int32) (hu hv hh hr hc : Nat → Nat → Int32), sv_Q X 2 M_Surv_boxInStack (6, [none, some (.ref 5), some (.int x2), some (.int x3), some (.int x4), some (.int x5), some (.int x6), none], [], (W_Surv hu hv hh hr hc)) (L_Surv_boxInStack_6 N n x2 x3 x4 x5 x6 hc) (sv_K2 (fun (v : Unit) => (50, [none, none, none, none, none, none, none, none], [], (W_Surv hu hv hh hr hc))) (sv_KR M_Surv_boxInStack (fun (x : Int32) => (some (.int x), (W_Surv hu hv hh hr hc))))) := by
  intro n
  induction n with
  | zero => intro x2 x3 x4 x5 x6 hu hv hh hr hc; unfold L_Surv_boxInStack_6; exact sv_Q.non
  | succ n ih =>
    intro x2 x3 x4 x5 x6 hu hv hh hr hc
    unfold L_Surv_boxInStack_6
    refine sv_Q.s (σ' := (9, [none, some (.ref 5), some (.int x2), some (.int x3), some (.int x4), some (.int x5), some (.int x6), none], [.int x3, .int x6], (W_Surv hu hv hh hr hc))) 2 rfl ?_
    refine sv_Q.b rfl (fun c1 => ?_) (fun c1 => ?_)
    · refine sv_Q.f (lo' := [none, none, none, none, none, none, none, none]) trivial ?_
      exact sv_Q.z rfl
    · refine sv_Q.s (σ' := (20, [none, some (.ref 5), some (.int x2), some (.int x3), some (.int x4), some (.int x5), some (.int x6), none], [.int (x2 + x6), .ref 21], (W_Surv hu hv hh hr hc))) 5 rfl ?_
      refine sv_Q.V (b := 0) (av := [.int (x2 + x6)]) (ps := [21, 22, 23, 24, 25, 26]) (rest := []) (cs1 := (W_Cargo hc)) (cs2 := (W_Cargo hc)) (st' := [.int (F_Cargo_boxAt (x2 + x6) hc)]) (cs' := (W_Surv hu hv hh hr hc)) (q := (20, .null, 0, 0, 0)) lk_Surv_76 (t_Cargo_boxAt hc (x2 + x6)) rfl rfl rfl rfl rfl (Or.inl ⟨0, _, _, rfl, rfl, rfl⟩) rfl rfl (sc_Surv_Cargo_4 hu hv hh hr hc) rfl rfl (pc_Surv_Cargo_4 hu hv hh hr hc hc) ?_
      refine sv_Q.s (σ' := (28, [none, some (.ref 5), some (.int x2), some (.int x3), some (.int x4), some (.int x5), some (.int x6), some (.int (F_Cargo_boxAt (x2 + x6) hc))], [.int (-1 : Int32), .int (F_Cargo_boxAt (x2 + x6) hc)], (W_Surv hu hv hh hr hc))) 3 rfl ?_
      refine sv_Q.b rfl (fun c2 => ?_) (fun c2 => ?_)
      · refine sv_Q.s (σ' := (6, [none, some (.ref 5), some (.int x2), some (.int x3), some (.int x4), some (.int x5), some (.int (x6 + (1 : Int32))), some (.int (F_Cargo_boxAt (x2 + x6) hc))], [], (W_Surv hu hv hh hr hc))) 2 rfl ?_
        refine sv_Q.f (lo' := [none, some (.ref 5), some (.int x2), some (.int x3), some (.int x4), some (.int x5), some (.int (x6 + (1 : Int32))), none]) ⟨rfl, ⟨rfl, ⟨rfl, ⟨rfl, ⟨rfl, ⟨rfl, trivial⟩⟩⟩⟩⟩⟩ ?_
        exact ih x2 x3 x4 x5 (x6 + (1 : Int32)) hu hv hh hr hc
      · refine sv_Q.s (σ' := (35, [none, some (.ref 5), some (.int x2), some (.int x3), some (.int x4), some (.int x5), some (.int x6), some (.int (F_Cargo_boxAt (x2 + x6) hc))], [.int x4, .int x5], (W_Surv hu hv hh hr hc))) 2 rfl ?_
        refine sv_Q.b rfl (fun c3 => ?_) (fun c3 => ?_)
        · refine sv_Q.s (σ' := (6, [none, some (.ref 5), some (.int x2), some (.int x3), some (.int x4), some (.int (x5 + (1 : Int32))), some (.int (x6 + (1 : Int32))), some (.int (F_Cargo_boxAt (x2 + x6) hc))], [], (W_Surv hu hv hh hr hc))) 3 rfl ?_
          refine sv_Q.f (lo' := [none, some (.ref 5), some (.int x2), some (.int x3), some (.int x4), some (.int (x5 + (1 : Int32))), some (.int (x6 + (1 : Int32))), none]) ⟨rfl, ⟨rfl, ⟨rfl, ⟨rfl, ⟨rfl, ⟨rfl, trivial⟩⟩⟩⟩⟩⟩ ?_
          exact ih x2 x3 x4 (x5 + (1 : Int32)) (x6 + (1 : Int32)) hu hv hh hr hc
        · refine sv_Q.s (σ' := (40, [none, some (.ref 5), some (.int x2), some (.int x3), some (.int x4), some (.int x5), some (.int x6), some (.int (F_Cargo_boxAt (x2 + x6) hc))], [.int (F_Cargo_boxAt (x2 + x6) hc)], (W_Surv hu hv hh hr hc))) 1 rfl ?_
          exact sv_Q.z ⟨True, rfl, trivial, rfl⟩
def F_Surv_boxInStack (N : Nat) (a1 : Int32) (a2 : Int32) (a3 : Int32) (hc : Nat → Nat → Int32) : Option (Int32) := (sv_bs (L_Surv_boxInStack_6 N N a1 a2 a3 (0 : Int32) (0 : Int32) hc) id fun (v4 : Unit) => (some (-1 : Int32)))
theorem r_Surv_boxInStack {X : Nat × (Nat → Int32)} (N : Nat) (hu hv hh hr hc : Nat → Nat → Int32) (a1 : Int32) (a2 : Int32) (a3 : Int32) : ∀ x, (F_Surv_boxInStack N a1 a2 a3 hc) = some x → sv_R X 3 M_Surv_boxInStack [.ref 0, .ref 5, .int a1, .int a2, .int a3] (W_Surv hu hv hh hr hc) (some (.int x)) (W_Surv hu hv hh hr hc) := by
  refine sv_Q.R (res := (fun (x : Int32) => (some (.int x), (W_Surv hu hv hh hr hc)))) g_Surv_boxInStack rfl ?_
  unfold F_Surv_boxInStack
  refine sv_Q.s (σ' := (6, [some (.ref 0), some (.ref 5), some (.int a1), some (.int a2), some (.int a3), some (.int (0 : Int32)), some (.int (0 : Int32)), none], [], (W_Surv hu hv hh hr hc))) 4 rfl ?_
  refine sv_Q.f (lo' := [none, some (.ref 5), some (.int a1), some (.int a2), some (.int a3), some (.int (0 : Int32)), some (.int (0 : Int32)), none]) ⟨rfl, ⟨rfl, ⟨rfl, ⟨rfl, ⟨rfl, ⟨rfl, trivial⟩⟩⟩⟩⟩⟩ ?_
  refine sv_Q.bs (l_Surv_boxInStack_6 N N a1 a2 a3 (0 : Int32) (0 : Int32) hu hv hh hr hc) (fun v4 => ?_) (fun r σ' h => h)
  · refine sv_Q.s (σ' := (51, [none, none, none, none, none, none, none, none], [.int (-1 : Int32)], (W_Surv hu hv hh hr hc))) 1 rfl ?_
    exact sv_Q.z ⟨True, rfl, trivial, rfl⟩
def L_Surv_kindBits_5 (N : Nat) : Nat → Int32 → Int32 → Int32 → (Nat → Nat → Int32) → (Nat → Nat → Int32) → Option (Int32)
  | 0, _, _, _, _, _ => none
  | n + 1, x2, x3, x4, hh, hc => (if (hc 0 0) ≤ x4 then (some x3) else (if (F_Cargo_lies x4 hc) = 0 then (L_Surv_kindBits_5 N n x2 x3 (x4 + (1 : Int32)) hh hc) else (if ¬ (F_Hull_bayAt (F_Cargo_placeOf x4 hc) hh) = x2 then (L_Surv_kindBits_5 N n x2 x3 (x4 + (1 : Int32)) hh hc) else (L_Surv_kindBits_5 N n x2 (x3 ||| ((1 : Int32) <<< ((F_Cargo_kindOf x4 hc) &&& 31))) (x4 + (1 : Int32)) hh hc))))
theorem l_Surv_kindBits_5 {X : Nat × (Nat → Int32)} (N : Nat) : ∀ (n : Nat) (x2 : Int32) (x3 : Int32) (x4 : Int32) (hu hv hh hr hc : Nat → Nat → Int32), sv_Q X 2 M_Surv_kindBits (5, [none, some (.ref 5), some (.int x2), some (.int x3), some (.int x4)], [], (W_Surv hu hv hh hr hc)) (L_Surv_kindBits_5 N n x2 x3 x4 hh hc) (fun v σ' => σ' = (69, [none, none, none, some (.int v), none], [], (W_Surv hu hv hh hr hc))) := by
  intro n
  induction n with
  | zero => intro x2 x3 x4 hu hv hh hr hc; unfold L_Surv_kindBits_5; exact sv_Q.non
  | succ n ih =>
    intro x2 x3 x4 hu hv hh hr hc
    unfold L_Surv_kindBits_5
    refine sv_Q.s (σ' := (14, [none, some (.ref 5), some (.int x2), some (.int x3), some (.int x4)], [.int (hc 0 0), .int x4], (W_Surv hu hv hh hr hc))) 4 rfl ?_
    refine sv_Q.b rfl (fun c1 => ?_) (fun c1 => ?_)
    · refine sv_Q.f (lo' := [none, none, none, some (.int x3), none]) ⟨rfl, trivial⟩ ?_
      exact sv_Q.z rfl
    · refine sv_Q.s (σ' := (23, [none, some (.ref 5), some (.int x2), some (.int x3), some (.int x4)], [.int x4, .ref 21], (W_Surv hu hv hh hr hc))) 3 rfl ?_
      refine sv_Q.V (b := 0) (av := [.int x4]) (ps := [21, 22, 23, 24, 25, 26]) (rest := []) (cs1 := (W_Cargo hc)) (cs2 := (W_Cargo hc)) (st' := [.int (F_Cargo_lies x4 hc)]) (cs' := (W_Surv hu hv hh hr hc)) (q := (23, .null, 0, 0, 0)) lk_Surv_36 (t_Cargo_lies hc x4) rfl rfl rfl rfl rfl (Or.inl ⟨0, _, _, rfl, rfl, rfl⟩) rfl rfl (sc_Surv_Cargo_4 hu hv hh hr hc) rfl rfl (pc_Surv_Cargo_4 hu hv hh hr hc hc) ?_
      refine sv_Q.b rfl (fun c2 => ?_) (fun c2 => ?_)
      · refine sv_Q.s (σ' := (5, [none, some (.ref 5), some (.int x2), some (.int x3), some (.int (x4 + (1 : Int32)))], [], (W_Surv hu hv hh hr hc))) 2 rfl ?_
        exact ih x2 x3 (x4 + (1 : Int32)) hu hv hh hr hc
      · refine sv_Q.s (σ' := (39, [none, some (.ref 5), some (.int x2), some (.int x3), some (.int x4)], [.int x4, .ref 21, .ref 7], (W_Surv hu hv hh hr hc))) 5 rfl ?_
        refine sv_Q.V (b := 0) (av := [.int x4]) (ps := [21, 22, 23, 24, 25, 26]) (rest := [.ref 7]) (cs1 := (W_Cargo hc)) (cs2 := (W_Cargo hc)) (st' := [.int (F_Cargo_placeOf x4 hc), .ref 7]) (cs' := (W_Surv hu hv hh hr hc)) (q := (39, .null, 0, 0, 0)) lk_Surv_48 (t_Cargo_placeOf hc x4) rfl rfl rfl rfl rfl (Or.inl ⟨0, _, _, rfl, rfl, rfl⟩) rfl rfl (sc_Surv_Cargo_4 hu hv hh hr hc) rfl rfl (pc_Surv_Cargo_4 hu hv hh hr hc hc) ?_
        refine sv_Q.V (b := 0) (av := [.int (F_Cargo_placeOf x4 hc)]) (ps := [7, 8, 9, 10, 11, 12]) (rest := []) (cs1 := (W_Hull hh)) (cs2 := (W_Hull hh)) (st' := [.int (F_Hull_bayAt (F_Cargo_placeOf x4 hc) hh)]) (cs' := (W_Surv hu hv hh hr hc)) (q := (42, .null, 0, 0, 0)) lk_Surv_55 (t_Hull_bayAt hh (F_Cargo_placeOf x4 hc)) rfl rfl rfl rfl rfl (Or.inl ⟨2, _, _, rfl, rfl, rfl⟩) rfl rfl (sc_Surv_Hull_2 hu hv hh hr hc) rfl rfl (pc_Surv_Hull_2 hu hv hh hr hc hh) ?_
        refine sv_Q.s (σ' := (46, [none, some (.ref 5), some (.int x2), some (.int x3), some (.int x4)], [.int x2, .int (F_Hull_bayAt (F_Cargo_placeOf x4 hc) hh)], (W_Surv hu hv hh hr hc))) 1 rfl ?_
        refine sv_Q.b rfl (fun c3 => ?_) (fun c3 => ?_)
        · refine sv_Q.s (σ' := (5, [none, some (.ref 5), some (.int x2), some (.int x3), some (.int (x4 + (1 : Int32)))], [], (W_Surv hu hv hh hr hc))) 2 rfl ?_
          exact ih x2 x3 (x4 + (1 : Int32)) hu hv hh hr hc
        · refine sv_Q.s (σ' := (57, [none, some (.ref 5), some (.int x2), some (.int x3), some (.int x4)], [.int x4, .ref 21, .int (1 : Int32), .int x3], (W_Surv hu hv hh hr hc))) 5 rfl ?_
          refine sv_Q.V (b := 0) (av := [.int x4]) (ps := [21, 22, 23, 24, 25, 26]) (rest := [.int (1 : Int32), .int x3]) (cs1 := (W_Cargo hc)) (cs2 := (W_Cargo hc)) (st' := [.int (F_Cargo_kindOf x4 hc), .int (1 : Int32), .int x3]) (cs' := (W_Surv hu hv hh hr hc)) (q := (57, .null, 0, 0, 0)) lk_Surv_94 (t_Cargo_kindOf hc x4) rfl rfl rfl rfl rfl (Or.inl ⟨0, _, _, rfl, rfl, rfl⟩) rfl rfl (sc_Surv_Cargo_4 hu hv hh hr hc) rfl rfl (pc_Surv_Cargo_4 hu hv hh hr hc hc) ?_
          refine sv_Q.s (σ' := (5, [none, some (.ref 5), some (.int x2), some (.int (x3 ||| ((1 : Int32) <<< ((F_Cargo_kindOf x4 hc) &&& 31)))), some (.int (x4 + (1 : Int32)))], [], (W_Surv hu hv hh hr hc))) 5 rfl ?_
          exact ih x2 (x3 ||| ((1 : Int32) <<< ((F_Cargo_kindOf x4 hc) &&& 31))) (x4 + (1 : Int32)) hu hv hh hr hc
def F_Surv_kindBits (N : Nat) (a1 : Int32) (hh hc : Nat → Nat → Int32) : Option (Int32) := (Option.bind (L_Surv_kindBits_5 N N a1 (0 : Int32) (0 : Int32) hh hc) fun (v4 : Int32) => (some v4))
theorem r_Surv_kindBits {X : Nat × (Nat → Int32)} (N : Nat) (hu hv hh hr hc : Nat → Nat → Int32) (a1 : Int32) : ∀ x, (F_Surv_kindBits N a1 hh hc) = some x → sv_R X 3 M_Surv_kindBits [.ref 0, .ref 5, .int a1] (W_Surv hu hv hh hr hc) (some (.int x)) (W_Surv hu hv hh hr hc) := by
  refine sv_Q.R (res := (fun (x : Int32) => (some (.int x), (W_Surv hu hv hh hr hc)))) g_Surv_kindBits rfl ?_
  unfold F_Surv_kindBits
  refine sv_Q.s (σ' := (5, [some (.ref 0), some (.ref 5), some (.int a1), some (.int (0 : Int32)), some (.int (0 : Int32))], [], (W_Surv hu hv hh hr hc))) 4 rfl ?_
  refine sv_Q.f (lo' := [none, some (.ref 5), some (.int a1), some (.int (0 : Int32)), some (.int (0 : Int32))]) ⟨rfl, ⟨rfl, ⟨rfl, ⟨rfl, trivial⟩⟩⟩⟩ ?_
  refine sv_Q.lo (fun v4 => (69, [none, none, none, some (.int v4), none], [], (W_Surv hu hv hh hr hc))) (fun v4 => ?_) (l_Surv_kindBits_5 N N a1 (0 : Int32) (0 : Int32) hu hv hh hr hc)
  · refine sv_Q.s (σ' := (70, [none, none, none, some (.int v4), none], [.int v4], (W_Surv hu hv hh hr hc))) 1 rfl ?_
    exact sv_Q.z ⟨True, rfl, trivial, rfl⟩
def L_Surv_countFree_5 (N : Nat) : Nat → Int32 → Int32 → Int32 → (Nat → Nat → Int32) → (Nat → Nat → Int32) → Option (Int32)
  | 0, _, _, _, _, _ => none
  | n + 1, x2, x3, x4, hh, hc => (if (hh 0 4) ≤ x4 then (some x3) else (sv_let (if ¬ (F_Hull_isLowest x4 hh) = 0 then (1 : Int32) else (if (F_Cargo_boxAt (x4 - (1 : Int32)) hc) = (-1 : Int32) then (0 : Int32) else (1 : Int32))) fun (v4 : Int32) => (if ¬ (F_Cargo_boxAt x4 hc) = (-1 : Int32) then (L_Surv_countFree_5 N n x2 x3 (x4 + (1 : Int32)) hh hc) else (if ¬ v4 = 0 then (L_Surv_countFree_5 N n x2 (x3 + (1 : Int32)) (x4 + (1 : Int32)) hh hc) else (if ¬ x2 = 0 then (L_Surv_countFree_5 N n x2 x3 (x4 + (1 : Int32)) hh hc) else (L_Surv_countFree_5 N n x2 (x3 + (1 : Int32)) (x4 + (1 : Int32)) hh hc))))))
theorem l_Surv_countFree_5 {X : Nat × (Nat → Int32)} (N : Nat) : ∀ (n : Nat) (x2 : Int32) (x3 : Int32) (x4 : Int32) (hu hv hh hr hc : Nat → Nat → Int32), sv_Q X 2 M_Surv_countFree (5, [none, some (.ref 5), some (.int x2), some (.int x3), some (.int x4), none], [], (W_Surv hu hv hh hr hc)) (L_Surv_countFree_5 N n x2 x3 x4 hh hc) (fun v σ' => σ' = (82, [none, none, none, some (.int v), none, none], [], (W_Surv hu hv hh hr hc))) := by
  intro n
  induction n with
  | zero => intro x2 x3 x4 hu hv hh hr hc; unfold L_Surv_countFree_5; exact sv_Q.non
  | succ n ih =>
    intro x2 x3 x4 hu hv hh hr hc
    unfold L_Surv_countFree_5
    refine sv_Q.s (σ' := (14, [none, some (.ref 5), some (.int x2), some (.int x3), some (.int x4), none], [.int (hh 0 4), .int x4], (W_Surv hu hv hh hr hc))) 4 rfl ?_
    refine sv_Q.b rfl (fun c1 => ?_) (fun c1 => ?_)
    · refine sv_Q.f (lo' := [none, none, none, some (.int x3), none, none]) ⟨rfl, trivial⟩ ?_
      exact sv_Q.z rfl
    · refine sv_Q.s (σ' := (23, [none, some (.ref 5), some (.int x2), some (.int x3), some (.int x4), none], [.int x4, .ref 7], (W_Surv hu hv hh hr hc))) 3 rfl ?_
      refine sv_Q.V (b := 0) (av := [.int x4]) (ps := [7, 8, 9, 10, 11, 12]) (rest := []) (cs1 := (W_Hull hh)) (cs2 := (W_Hull hh)) (st' := [.int (F_Hull_isLowest x4 hh)]) (cs' := (W_Surv hu hv hh hr hc)) (q := (23, .null, 0, 0, 0)) lk_Surv_100 (t_Hull_isLowest hh x4) rfl rfl rfl rfl rfl (Or.inl ⟨2, _, _, rfl, rfl, rfl⟩) rfl rfl (sc_Surv_Hull_2 hu hv hh hr hc) rfl rfl (pc_Surv_Hull_2 hu hv hh hr hc hh) ?_
      refine sv_Q.l (fun v4 => (49, [none, some (.ref 5), some (.int x2), some (.int x3), some (.int x4), none], [.int v4], (W_Surv hu hv hh hr hc))) (fun v4 => ?_) ?_
      · refine sv_Q.s (σ' := (57, [none, some (.ref 5), some (.int x2), some (.int x3), some (.int x4), some (.int v4)], [.int x4, .ref 21], (W_Surv hu hv hh hr hc))) 4 rfl ?_
        refine sv_Q.V (b := 0) (av := [.int x4]) (ps := [21, 22, 23, 24, 25, 26]) (rest := []) (cs1 := (W_Cargo hc)) (cs2 := (W_Cargo hc)) (st' := [.int (F_Cargo_boxAt x4 hc)]) (cs' := (W_Surv hu hv hh hr hc)) (q := (57, .null, 0, 0, 0)) lk_Surv_76 (t_Cargo_boxAt hc x4) rfl rfl rfl rfl rfl (Or.inl ⟨0, _, _, rfl, rfl, rfl⟩) rfl rfl (sc_Surv_Cargo_4 hu hv hh hr hc) rfl rfl (pc_Surv_Cargo_4 hu hv hh hr hc hc) ?_
        refine sv_Q.s (σ' := (61, [none, some (.ref 5), some (.int x2), some (.int x3), some (.int x4), some (.int v4)], [.int (-1 : Int32), .int (F_Cargo_boxAt x4 hc)], (W_Surv hu hv hh hr hc))) 1 rfl ?_
        refine sv_Q.b rfl (fun c5 => ?_) (fun c5 => ?_)
        · refine sv_Q.s (σ' := (5, [none, some (.ref 5), some (.int x2), some (.int x3), some (.int (x4 + (1 : Int32))), some (.int v4)], [], (W_Surv hu hv hh hr hc))) 2 rfl ?_
          refine sv_Q.f (lo' := [none, some (.ref 5), some (.int x2), some (.int x3), some (.int (x4 + (1 : Int32))), none]) ⟨rfl, ⟨rfl, ⟨rfl, ⟨rfl, trivial⟩⟩⟩⟩ ?_
          exact ih x2 x3 (x4 + (1 : Int32)) hu hv hh hr hc
        · refine sv_Q.s (σ' := (66, [none, some (.ref 5), some (.int x2), some (.int x3), some (.int x4), some (.int v4)], [.int v4], (W_Surv hu hv hh hr hc))) 1 rfl ?_
          refine sv_Q.b rfl (fun c6 => ?_) (fun c6 => ?_)
          · refine sv_Q.s (σ' := (5, [none, some (.ref 5), some (.int x2), some (.int (x3 + (1 : Int32))), some (.int (x4 + (1 : Int32))), some (.int v4)], [], (W_Surv hu hv hh hr hc))) 3 rfl ?_
            refine sv_Q.f (lo' := [none, some (.ref 5), some (.int x2), some (.int (x3 + (1 : Int32))), some (.int (x4 + (1 : Int32))), none]) ⟨rfl, ⟨rfl, ⟨rfl, ⟨rfl, trivial⟩⟩⟩⟩ ?_
            exact ih x2 (x3 + (1 : Int32)) (x4 + (1 : Int32)) hu hv hh hr hc
          · refine sv_Q.s (σ' := (70, [none, some (.ref 5), some (.int x2), some (.int x3), some (.int x4), some (.int v4)], [.int x2], (W_Surv hu hv hh hr hc))) 1 rfl ?_
            refine sv_Q.b rfl (fun c7 => ?_) (fun c7 => ?_)
            · refine sv_Q.s (σ' := (5, [none, some (.ref 5), some (.int x2), some (.int x3), some (.int (x4 + (1 : Int32))), some (.int v4)], [], (W_Surv hu hv hh hr hc))) 2 rfl ?_
              refine sv_Q.f (lo' := [none, some (.ref 5), some (.int x2), some (.int x3), some (.int (x4 + (1 : Int32))), none]) ⟨rfl, ⟨rfl, ⟨rfl, ⟨rfl, trivial⟩⟩⟩⟩ ?_
              exact ih x2 x3 (x4 + (1 : Int32)) hu hv hh hr hc
            · refine sv_Q.s (σ' := (5, [none, some (.ref 5), some (.int x2), some (.int (x3 + (1 : Int32))), some (.int (x4 + (1 : Int32))), some (.int v4)], [], (W_Surv hu hv hh hr hc))) 3 rfl ?_
              refine sv_Q.f (lo' := [none, some (.ref 5), some (.int x2), some (.int (x3 + (1 : Int32))), some (.int (x4 + (1 : Int32))), none]) ⟨rfl, ⟨rfl, ⟨rfl, ⟨rfl, trivial⟩⟩⟩⟩ ?_
              exact ih x2 (x3 + (1 : Int32)) (x4 + (1 : Int32)) hu hv hh hr hc
      · refine sv_Q.sb rfl (fun c2 => ?_) (fun c2 => ?_)
        · refine sv_Q.s (σ' := (49, [none, some (.ref 5), some (.int x2), some (.int x3), some (.int x4), none], [.int (1 : Int32)], (W_Surv hu hv hh hr hc))) 2 rfl ?_
          exact sv_Q.z rfl
        · refine sv_Q.s (σ' := (37, [none, some (.ref 5), some (.int x2), some (.int x3), some (.int x4), none], [.int (x4 - (1 : Int32)), .ref 21], (W_Surv hu hv hh hr hc))) 5 rfl ?_
          refine sv_Q.V (b := 0) (av := [.int (x4 - (1 : Int32))]) (ps := [21, 22, 23, 24, 25, 26]) (rest := []) (cs1 := (W_Cargo hc)) (cs2 := (W_Cargo hc)) (st' := [.int (F_Cargo_boxAt (x4 - (1 : Int32)) hc)]) (cs' := (W_Surv hu hv hh hr hc)) (q := (37, .null, 0, 0, 0)) lk_Surv_76 (t_Cargo_boxAt hc (x4 - (1 : Int32))) rfl rfl rfl rfl rfl (Or.inl ⟨0, _, _, rfl, rfl, rfl⟩) rfl rfl (sc_Surv_Cargo_4 hu hv hh hr hc) rfl rfl (pc_Surv_Cargo_4 hu hv hh hr hc hc) ?_
          refine sv_Q.s (σ' := (41, [none, some (.ref 5), some (.int x2), some (.int x3), some (.int x4), none], [.int (-1 : Int32), .int (F_Cargo_boxAt (x4 - (1 : Int32)) hc)], (W_Surv hu hv hh hr hc))) 1 rfl ?_
          refine sv_Q.sb rfl (fun c3 => ?_) (fun c3 => ?_)
          · refine sv_Q.s (σ' := (49, [none, some (.ref 5), some (.int x2), some (.int x3), some (.int x4), none], [.int (0 : Int32)], (W_Surv hu hv hh hr hc))) 1 rfl ?_
            exact sv_Q.z rfl
          · refine sv_Q.s (σ' := (49, [none, some (.ref 5), some (.int x2), some (.int x3), some (.int x4), none], [.int (1 : Int32)], (W_Surv hu hv hh hr hc))) 2 rfl ?_
            exact sv_Q.z rfl
def F_Surv_countFree (N : Nat) (a1 : Int32) (hh hc : Nat → Nat → Int32) : Option (Int32) := (Option.bind (L_Surv_countFree_5 N N a1 (0 : Int32) (0 : Int32) hh hc) fun (v8 : Int32) => (some v8))
theorem r_Surv_countFree {X : Nat × (Nat → Int32)} (N : Nat) (hu hv hh hr hc : Nat → Nat → Int32) (a1 : Int32) : ∀ x, (F_Surv_countFree N a1 hh hc) = some x → sv_R X 3 M_Surv_countFree [.ref 0, .ref 5, .int a1] (W_Surv hu hv hh hr hc) (some (.int x)) (W_Surv hu hv hh hr hc) := by
  refine sv_Q.R (res := (fun (x : Int32) => (some (.int x), (W_Surv hu hv hh hr hc)))) g_Surv_countFree rfl ?_
  unfold F_Surv_countFree
  refine sv_Q.s (σ' := (5, [some (.ref 0), some (.ref 5), some (.int a1), some (.int (0 : Int32)), some (.int (0 : Int32)), none], [], (W_Surv hu hv hh hr hc))) 4 rfl ?_
  refine sv_Q.f (lo' := [none, some (.ref 5), some (.int a1), some (.int (0 : Int32)), some (.int (0 : Int32)), none]) ⟨rfl, ⟨rfl, ⟨rfl, ⟨rfl, trivial⟩⟩⟩⟩ ?_
  refine sv_Q.lo (fun v8 => (82, [none, none, none, some (.int v8), none, none], [], (W_Surv hu hv hh hr hc))) (fun v8 => ?_) (l_Surv_countFree_5 N N a1 (0 : Int32) (0 : Int32) hu hv hh hr hc)
  · refine sv_Q.s (σ' := (83, [none, none, none, some (.int v8), none, none], [.int v8], (W_Surv hu hv hh hr hc))) 1 rfl ?_
    exact sv_Q.z ⟨True, rfl, trivial, rfl⟩
def L_Surv_reachBeside_6 (N : Nat) : Nat → Int32 → Int32 → Int32 → (Nat → Nat → Int32) → (Nat → Nat → Int32) → (Nat → Nat → Int32) → Option (Int32 × (Nat → Nat → Int32))
  | 0, _, _, _, _, _, _ => none
  | n + 1, x2, x4, x5, hu, hh, hc => (if (hc 0 0) ≤ x5 then (some (x4, hu)) else (sv_let (if (F_Cargo_lies x5 hc) = 0 then (0 : Int32) else (if ¬ (rd 24 (hu 2) x5) = 0 then (0 : Int32) else (1 : Int32))) fun (v4 : Int32) => (if v4 = 0 then (L_Surv_reachBeside_6 N n x2 x4 (x5 + (1 : Int32)) hu hh hc) else (if (F_Hull_isBeside (F_Cargo_placeOf x2 hc) (F_Cargo_placeOf x5 hc) hh) = 0 then (L_Surv_reachBeside_6 N n x2 x4 (x5 + (1 : Int32)) hu hh hc) else (sv_let (sw hu 2 24 x5 (1 : Int32)) fun (hu_7 : Nat → Nat → Int32) => (sv_let (sw hu_7 1 24 x4 x5) fun (hu_8 : Nat → Nat → Int32) => (L_Surv_reachBeside_6 N n x2 (x4 + (1 : Int32)) (x5 + (1 : Int32)) hu_8 hh hc)))))))
theorem l_Surv_reachBeside_6 {X : Nat × (Nat → Int32)} (N : Nat) : ∀ (n : Nat) (x2 : Int32) (x4 : Int32) (x5 : Int32) (hu hv hh hr hc : Nat → Nat → Int32), sv_Q X 4 M_Surv_reachBeside (6, [some (.ref 0), some (.ref 5), some (.int x2), none, some (.int x4), some (.int x5), none], [], (W_Surv hu hv hh hr hc)) (L_Surv_reachBeside_6 N n x2 x4 x5 hu hh hc) (fun v σ' => σ' = (111, [none, none, none, none, some (.int v.1), none, none], [], (W_Surv v.2 hv hh hr hc))) := by
  intro n
  induction n with
  | zero => intro x2 x4 x5 hu hv hh hr hc; unfold L_Surv_reachBeside_6; exact sv_Q.non
  | succ n ih =>
    intro x2 x4 x5 hu hv hh hr hc
    unfold L_Surv_reachBeside_6
    refine sv_Q.s (σ' := (15, [some (.ref 0), some (.ref 5), some (.int x2), none, some (.int x4), some (.int x5), none], [.int (hc 0 0), .int x5], (W_Surv hu hv hh hr hc))) 4 rfl ?_
    refine sv_Q.b rfl (fun c1 => ?_) (fun c1 => ?_)
    · refine sv_Q.f (lo' := [none, none, none, none, some (.int x4), none, none]) ⟨rfl, trivial⟩ ?_
      exact sv_Q.z rfl
    · refine sv_Q.s (σ' := (24, [some (.ref 0), some (.ref 5), some (.int x2), none, some (.int x4), some (.int x5), none], [.int x5, .ref 21], (W_Surv hu hv hh hr hc))) 3 rfl ?_
      refine sv_Q.V (b := 0) (av := [.int x5]) (ps := [21, 22, 23, 24, 25, 26]) (rest := []) (cs1 := (W_Cargo hc)) (cs2 := (W_Cargo hc)) (st' := [.int (F_Cargo_lies x5 hc)]) (cs' := (W_Surv hu hv hh hr hc)) (q := (24, .null, 0, 0, 0)) lk_Surv_36 (t_Cargo_lies hc x5) rfl rfl rfl rfl rfl (Or.inl ⟨0, _, _, rfl, rfl, rfl⟩) rfl rfl (sc_Surv_Cargo_4 hu hv hh hr hc) rfl rfl (pc_Surv_Cargo_4 hu hv hh hr hc hc) ?_
      refine sv_Q.l (fun v4 => (47, [some (.ref 0), some (.ref 5), some (.int x2), none, some (.int x4), some (.int x5), none], [.int v4], (W_Surv hu hv hh hr hc))) (fun v4 => ?_) ?_
      · refine sv_Q.s (σ' := (51, [some (.ref 0), some (.ref 5), some (.int x2), none, some (.int x4), some (.int x5), some (.int v4)], [.int v4], (W_Surv hu hv hh hr hc))) 2 rfl ?_
        refine sv_Q.b rfl (fun c5 => ?_) (fun c5 => ?_)
        · refine sv_Q.s (σ' := (6, [some (.ref 0), some (.ref 5), some (.int x2), none, some (.int x4), some (.int (x5 + (1 : Int32))), some (.int v4)], [], (W_Surv hu hv hh hr hc))) 2 rfl ?_
          refine sv_Q.f (lo' := [some (.ref 0), some (.ref 5), some (.int x2), none, some (.int x4), some (.int (x5 + (1 : Int32))), none]) ⟨rfl, ⟨rfl, ⟨rfl, ⟨rfl, ⟨rfl, trivial⟩⟩⟩⟩⟩ ?_
          exact ih x2 x4 (x5 + (1 : Int32)) hu hv hh hr hc
        · refine sv_Q.s (σ' := (63, [some (.ref 0), some (.ref 5), some (.int x2), none, some (.int x4), some (.int x5), some (.int v4)], [.int x2, .ref 21, .ref 7], (W_Surv hu hv hh hr hc))) 5 rfl ?_
          refine sv_Q.V (b := 0) (av := [.int x2]) (ps := [21, 22, 23, 24, 25, 26]) (rest := [.ref 7]) (cs1 := (W_Cargo hc)) (cs2 := (W_Cargo hc)) (st' := [.int (F_Cargo_placeOf x2 hc), .ref 7]) (cs' := (W_Surv hu hv hh hr hc)) (q := (63, .null, 0, 0, 0)) lk_Surv_48 (t_Cargo_placeOf hc x2) rfl rfl rfl rfl rfl (Or.inl ⟨0, _, _, rfl, rfl, rfl⟩) rfl rfl (sc_Surv_Cargo_4 hu hv hh hr hc) rfl rfl (pc_Surv_Cargo_4 hu hv hh hr hc hc) ?_
          refine sv_Q.s (σ' := (72, [some (.ref 0), some (.ref 5), some (.int x2), none, some (.int x4), some (.int x5), some (.int v4)], [.int x5, .ref 21, .int (F_Cargo_placeOf x2 hc), .ref 7], (W_Surv hu hv hh hr hc))) 3 rfl ?_
          refine sv_Q.V (b := 0) (av := [.int x5]) (ps := [21, 22, 23, 24, 25, 26]) (rest := [.int (F_Cargo_placeOf x2 hc), .ref 7]) (cs1 := (W_Cargo hc)) (cs2 := (W_Cargo hc)) (st' := [.int (F_Cargo_placeOf x5 hc), .int (F_Cargo_placeOf x2 hc), .ref 7]) (cs' := (W_Surv hu hv hh hr hc)) (q := (72, .null, 0, 0, 0)) lk_Surv_48 (t_Cargo_placeOf hc x5) rfl rfl rfl rfl rfl (Or.inl ⟨0, _, _, rfl, rfl, rfl⟩) rfl rfl (sc_Surv_Cargo_4 hu hv hh hr hc) rfl rfl (pc_Surv_Cargo_4 hu hv hh hr hc hc) ?_
          refine sv_Q.V (b := 0) (av := [.int (F_Cargo_placeOf x2 hc), .int (F_Cargo_placeOf x5 hc)]) (ps := [7, 8, 9, 10, 11, 12]) (rest := []) (cs1 := (W_Hull hh)) (cs2 := (W_Hull hh)) (st' := [.int (F_Hull_isBeside (F_Cargo_placeOf x2 hc) (F_Cargo_placeOf x5 hc) hh)]) (cs' := (W_Surv hu hv hh hr hc)) (q := (75, .null, 0, 0, 0)) lk_Surv_120 (t_Hull_isBeside hh (F_Cargo_placeOf x2 hc) (F_Cargo_placeOf x5 hc)) rfl rfl rfl rfl rfl (Or.inl ⟨2, _, _, rfl, rfl, rfl⟩) rfl rfl (sc_Surv_Hull_2 hu hv hh hr hc) rfl rfl (pc_Surv_Hull_2 hu hv hh hr hc hh) ?_
          refine sv_Q.b rfl (fun c6 => ?_) (fun c6 => ?_)
          · refine sv_Q.s (σ' := (6, [some (.ref 0), some (.ref 5), some (.int x2), none, some (.int x4), some (.int (x5 + (1 : Int32))), some (.int v4)], [], (W_Surv hu hv hh hr hc))) 2 rfl ?_
            refine sv_Q.f (lo' := [some (.ref 0), some (.ref 5), some (.int x2), none, some (.int x4), some (.int (x5 + (1 : Int32))), none]) ⟨rfl, ⟨rfl, ⟨rfl, ⟨rfl, ⟨rfl, trivial⟩⟩⟩⟩⟩ ?_
            exact ih x2 x4 (x5 + (1 : Int32)) hu hv hh hr hc
          · refine sv_Q.s (σ' := (88, [some (.ref 0), some (.ref 5), some (.int x2), none, some (.int x4), some (.int x5), some (.int v4)], [.int (1 : Int32), .int x5, .ref 2], (W_Surv hu hv hh hr hc))) 4 rfl ?_
            refine sv_Q.S (ps := [2]) (rest := []) (st' := []) (cs' := (W_Surv (sw hu 2 24 x5 (1 : Int32)) hv hh hr hc)) (q := (88, .null, 0, 0, 0)) lk_Surv_109 (t_K_write 24 rfl (hu 2) x5 (1 : Int32)) rfl rfl rfl rfl rfl rfl rfl (su_Surv_2 hu hv hh hr hc) rfl rfl (pa_Surv_2 hu hv hh hr hc (wr 24 (hu 2) x5 (1 : Int32))) ?_
            refine sv_Q.go (fun hu_7 => (91, [some (.ref 0), some (.ref 5), some (.int x2), none, some (.int x4), some (.int x5), some (.int v4)], [], (W_Surv hu_7 hv hh hr hc))) (fun hu_7 => ?_)
            refine sv_Q.s (σ' := (99, [some (.ref 0), some (.ref 5), some (.int x2), none, some (.int x4), some (.int x5), some (.int v4)], [.int x5, .int x4, .ref 1], (W_Surv hu_7 hv hh hr hc))) 4 rfl ?_
            refine sv_Q.S (ps := [1]) (rest := []) (st' := []) (cs' := (W_Surv (sw hu_7 1 24 x4 x5) hv hh hr hc)) (q := (99, .null, 0, 0, 0)) lk_Surv_109 (t_K_write 24 rfl (hu_7 1) x4 x5) rfl rfl rfl rfl rfl rfl rfl (su_Surv_1 hu_7 hv hh hr hc) rfl rfl (pa_Surv_1 hu_7 hv hh hr hc (wr 24 (hu_7 1) x4 x5)) ?_
            refine sv_Q.go (fun hu_8 => (102, [some (.ref 0), some (.ref 5), some (.int x2), none, some (.int x4), some (.int x5), some (.int v4)], [], (W_Surv hu_8 hv hh hr hc))) (fun hu_8 => ?_)
            refine sv_Q.s (σ' := (6, [some (.ref 0), some (.ref 5), some (.int x2), none, some (.int (x4 + (1 : Int32))), some (.int (x5 + (1 : Int32))), some (.int v4)], [], (W_Surv hu_8 hv hh hr hc))) 3 rfl ?_
            refine sv_Q.f (lo' := [some (.ref 0), some (.ref 5), some (.int x2), none, some (.int (x4 + (1 : Int32))), some (.int (x5 + (1 : Int32))), none]) ⟨rfl, ⟨rfl, ⟨rfl, ⟨rfl, ⟨rfl, trivial⟩⟩⟩⟩⟩ ?_
            exact ih x2 (x4 + (1 : Int32)) (x5 + (1 : Int32)) hu_8 hv hh hr hc
      · refine sv_Q.sb rfl (fun c2 => ?_) (fun c2 => ?_)
        · refine sv_Q.s (σ' := (47, [some (.ref 0), some (.ref 5), some (.int x2), none, some (.int x4), some (.int x5), none], [.int (0 : Int32)], (W_Surv hu hv hh hr hc))) 1 rfl ?_
          exact sv_Q.z rfl
        · refine sv_Q.s (σ' := (36, [some (.ref 0), some (.ref 5), some (.int x2), none, some (.int x4), some (.int x5), none], [.int x5, .ref 2], (W_Surv hu hv hh hr hc))) 3 rfl ?_
          refine sv_Q.S (ps := [2]) (rest := []) (st' := [.int (rd 24 (hu 2) x5)]) (cs' := (W_Surv hu hv hh hr hc)) (q := (36, .null, 0, 0, 0)) lk_Surv_113 (t_K_read 24 rfl (hu 2) x5) rfl rfl rfl rfl rfl rfl rfl (su_Surv_2 hu hv hh hr hc) rfl rfl (pu_Surv_2 hu hv hh hr hc) ?_
          refine sv_Q.sb rfl (fun c3 => ?_) (fun c3 => ?_)
          · refine sv_Q.s (σ' := (47, [some (.ref 0), some (.ref 5), some (.int x2), none, some (.int x4), some (.int x5), none], [.int (0 : Int32)], (W_Surv hu hv hh hr hc))) 1 rfl ?_
            exact sv_Q.z rfl
          · refine sv_Q.s (σ' := (47, [some (.ref 0), some (.ref 5), some (.int x2), none, some (.int x4), some (.int x5), none], [.int (1 : Int32)], (W_Surv hu hv hh hr hc))) 2 rfl ?_
            exact sv_Q.z rfl
def F_Surv_reachBeside (N : Nat) (a1 : Int32) (a2 : Int32) (hu hh hc : Nat → Nat → Int32) : Option (Int32 × (Nat → Nat → Int32)) := (Option.bind (L_Surv_reachBeside_6 N N a1 a2 (0 : Int32) hu hh hc) fun (v9 : Int32 × (Nat → Nat → Int32)) => (some (v9.1, v9.2)))
theorem r_Surv_reachBeside {X : Nat × (Nat → Int32)} (N : Nat) (hu hv hh hr hc : Nat → Nat → Int32) (a1 : Int32) (a2 : Int32) : ∀ x, (F_Surv_reachBeside N a1 a2 hu hh hc) = some x → sv_R X 5 M_Surv_reachBeside [.ref 0, .ref 5, .int a1, .int a2] (W_Surv hu hv hh hr hc) (some (.int x.1)) (W_Surv x.2 hv hh hr hc) := by
  refine sv_Q.R (res := (fun (x : Int32 × (Nat → Nat → Int32)) => (some (.int x.1), (W_Surv x.2 hv hh hr hc)))) g_Surv_reachBeside rfl ?_
  unfold F_Surv_reachBeside
  refine sv_Q.s (σ' := (6, [some (.ref 0), some (.ref 5), some (.int a1), some (.int a2), some (.int a2), some (.int (0 : Int32)), none], [], (W_Surv hu hv hh hr hc))) 4 rfl ?_
  refine sv_Q.f (lo' := [some (.ref 0), some (.ref 5), some (.int a1), none, some (.int a2), some (.int (0 : Int32)), none]) ⟨rfl, ⟨rfl, ⟨rfl, ⟨rfl, ⟨rfl, trivial⟩⟩⟩⟩⟩ ?_
  refine sv_Q.lo (fun v9 => (111, [none, none, none, none, some (.int v9.1), none, none], [], (W_Surv v9.2 hv hh hr hc))) (fun v9 => ?_) (l_Surv_reachBeside_6 N N a1 a2 (0 : Int32) hu hv hh hr hc)
  · refine sv_Q.s (σ' := (113, [none, none, none, none, some (.int v9.1), none, none], [.int v9.1], (W_Surv v9.2 hv hh hr hc))) 1 rfl ?_
    exact sv_Q.z ⟨True, rfl, trivial, rfl⟩
def L_Surv_countHanging_48 (N : Nat) : Nat → Int32 → Int32 → (Nat → Nat → Int32) → (Nat → Nat → Int32) → (Nat → Nat → Int32) → Option (Int32 × (Nat → Nat → Int32))
  | 0, _, _, _, _, _ => none
  | n + 1, x4, x5, hu, hh, hc => (if x4 ≤ x5 then (some (x4, hu)) else (if (24 : Int32) ≤ x5 then (some (x4, hu)) else (Option.bind (F_Surv_reachBeside N (rd 24 (hu 1) x5) x4 hu hh hc) fun (v7 : Int32 × (Nat → Nat → Int32)) => (L_Surv_countHanging_48 N n v7.1 (x5 + (1 : Int32)) v7.2 hh hc))))
theorem l_Surv_countHanging_48 {X : Nat × (Nat → Int32)} (N : Nat) : ∀ (n : Nat) (x4 : Int32) (x5 : Int32) (hu hv hh hr hc : Nat → Nat → Int32), sv_Q X 5 M_Surv_countHanging (48, [some (.ref 0), some (.ref 5), none, none, some (.int x4), some (.int x5)], [], (W_Surv hu hv hh hr hc)) (L_Surv_countHanging_48 N n x4 x5 hu hh hc) (fun v σ' => σ' = (86, [none, none, none, none, some (.int v.1), none], [], (W_Surv v.2 hv hh hr hc))) := by
  intro n
  induction n with
  | zero => intro x4 x5 hu hv hh hr hc; unfold L_Surv_countHanging_48; exact sv_Q.non
  | succ n ih =>
    intro x4 x5 hu hv hh hr hc
    unfold L_Surv_countHanging_48
    refine sv_Q.s (σ' := (52, [some (.ref 0), some (.ref 5), none, none, some (.int x4), some (.int x5)], [.int x4, .int x5], (W_Surv hu hv hh hr hc))) 2 rfl ?_
    refine sv_Q.b rfl (fun c5 => ?_) (fun c5 => ?_)
    · refine sv_Q.f (lo' := [none, none, none, none, some (.int x4), none]) ⟨rfl, trivial⟩ ?_
      exact sv_Q.z rfl
    · refine sv_Q.s (σ' := (59, [some (.ref 0), some (.ref 5), none, none, some (.int x4), some (.int x5)], [.int (24 : Int32), .int x5], (W_Surv hu hv hh hr hc))) 2 rfl ?_
      refine sv_Q.b rfl (fun c6 => ?_) (fun c6 => ?_)
      · refine sv_Q.f (lo' := [none, none, none, none, some (.int x4), none]) ⟨rfl, trivial⟩ ?_
        exact sv_Q.z rfl
      · refine sv_Q.s (σ' := (70, [some (.ref 0), some (.ref 5), none, none, some (.int x4), some (.int x5)], [.int x5, .ref 1, .ref 5, .ref 0], (W_Surv hu hv hh hr hc))) 5 rfl ?_
        refine sv_Q.S (ps := [1]) (rest := [.ref 5, .ref 0]) (st' := [.int (rd 24 (hu 1) x5), .ref 5, .ref 0]) (cs' := (W_Surv hu hv hh hr hc)) (q := (70, .null, 0, 0, 0)) lk_Surv_113 (t_K_read 24 rfl (hu 1) x5) rfl rfl rfl rfl rfl rfl rfl (su_Surv_1 hu hv hh hr hc) rfl rfl (pu_Surv_1 hu hv hh hr hc) ?_
        refine sv_Q.s (σ' := (75, [some (.ref 0), some (.ref 5), none, none, some (.int x4), some (.int x5)], [.int x4, .int (rd 24 (hu 1) x5), .ref 5, .ref 0], (W_Surv hu hv hh hr hc))) 1 rfl ?_
        refine sv_Q.o (fun v7 e8 => ?_)
        refine sv_Q.V (b := 0) (av := [.ref 5, .int (rd 24 (hu 1) x5), .int x4]) (ps := [0, 1, 2, 3, 4, 5, 6, 7, 8, 9, 10, 11, 12, 13, 14, 15, 16, 17, 18, 19, 20, 21, 22, 23, 24, 25, 26]) (rest := []) (cs1 := (W_Surv hu hv hh hr hc)) (cs2 := (W_Surv v7.2 hv hh hr hc)) (st' := [.int v7.1]) (cs' := (W_Surv v7.2 hv hh hr hc)) (q := (75, .null, 0, 0, 0)) lk_Surv_117 (r_Surv_reachBeside N hu hv hh hr hc (rd 24 (hu 1) x5) x4 v7 e8) rfl rfl rfl rfl rfl (Or.inl ⟨8, _, _, rfl, rfl, rfl⟩) rfl rfl (sc_Surv_Surv_0 hu hv hh hr hc) rfl rfl (pc_Surv_Surv_0 hu hv hh hr hc v7.2 hv hh hr hc) ?_
        refine sv_Q.s (σ' := (48, [some (.ref 0), some (.ref 5), none, none, some (.int v7.1), some (.int (x5 + (1 : Int32)))], [], (W_Surv v7.2 hv hh hr hc))) 3 rfl ?_
        exact ih v7.1 (x5 + (1 : Int32)) v7.2 hv hh hr hc
def F_Surv_countHanging (N : Nat) (a1 : Int32) (hu hh hc : Nat → Nat → Int32) : Option (Int32 × (Nat → Nat → Int32)) := (if ¬ (F_Cargo_boxAt a1 hc) = (-1 : Int32) then (sv_let (sf hu 2 24 (0 : Int32)) fun (hu_2 : Nat → Nat → Int32) => (sv_let (sw hu_2 2 24 (F_Cargo_boxAt a1 hc) (1 : Int32)) fun (hu_3 : Nat → Nat → Int32) => (sv_let (sw hu_3 1 24 (0 : Int32) (F_Cargo_boxAt a1 hc)) fun (hu_4 : Nat → Nat → Int32) => (Option.bind (L_Surv_countHanging_48 N N (1 : Int32) (0 : Int32) hu_4 hh hc) fun (v9 : Int32 × (Nat → Nat → Int32)) => (some (v9.1, v9.2)))))) else (some ((-1 : Int32), hu)))
theorem r_Surv_countHanging {X : Nat × (Nat → Int32)} (N : Nat) (hu hv hh hr hc : Nat → Nat → Int32) (a1 : Int32) : ∀ x, (F_Surv_countHanging N a1 hu hh hc) = some x → sv_R X 6 M_Surv_countHanging [.ref 0, .ref 5, .int a1] (W_Surv hu hv hh hr hc) (some (.int x.1)) (W_Surv x.2 hv hh hr hc) := by
  refine sv_Q.R (res := (fun (x : Int32 × (Nat → Nat → Int32)) => (some (.int x.1), (W_Surv x.2 hv hh hr hc)))) g_Surv_countHanging rfl ?_
  unfold F_Surv_countHanging
  refine sv_Q.s (σ' := (5, [some (.ref 0), some (.ref 5), some (.int a1), none, none, none], [.int a1, .ref 21], (W_Surv hu hv hh hr hc))) 3 rfl ?_
  refine sv_Q.V (b := 0) (av := [.int a1]) (ps := [21, 22, 23, 24, 25, 26]) (rest := []) (cs1 := (W_Cargo hc)) (cs2 := (W_Cargo hc)) (st' := [.int (F_Cargo_boxAt a1 hc)]) (cs' := (W_Surv hu hv hh hr hc)) (q := (5, .null, 0, 0, 0)) lk_Surv_76 (t_Cargo_boxAt hc a1) rfl rfl rfl rfl rfl (Or.inl ⟨0, _, _, rfl, rfl, rfl⟩) rfl rfl (sc_Surv_Cargo_4 hu hv hh hr hc) rfl rfl (pc_Surv_Cargo_4 hu hv hh hr hc hc) ?_
  refine sv_Q.s (σ' := (11, [some (.ref 0), some (.ref 5), some (.int a1), some (.int (F_Cargo_boxAt a1 hc)), none, none], [.int (-1 : Int32), .int (F_Cargo_boxAt a1 hc)], (W_Surv hu hv hh hr hc))) 3 rfl ?_
  refine sv_Q.b rfl (fun c1 => ?_) (fun c1 => ?_)
  · refine sv_Q.s (σ' := (21, [some (.ref 0), some (.ref 5), some (.int a1), some (.int (F_Cargo_boxAt a1 hc)), none, none], [.int (0 : Int32), .ref 2], (W_Surv hu hv hh hr hc))) 3 rfl ?_
    refine sv_Q.S (ps := [2]) (rest := []) (st' := []) (cs' := (W_Surv (sf hu 2 24 (0 : Int32)) hv hh hr hc)) (q := (21, .null, 0, 0, 0)) lk_Surv_103 (t_Arr_fill 24 (Nat.le_of_ble_eq_true rfl) (hu 2) (0 : Int32)) rfl rfl rfl rfl rfl rfl rfl (su_Surv_2 hu hv hh hr hc) rfl rfl (pa_Surv_2 hu hv hh hr hc (sv_fl 24 (hu 2) (0 : Int32))) ?_
    refine sv_Q.go (fun hu_2 => (24, [some (.ref 0), some (.ref 5), some (.int a1), some (.int (F_Cargo_boxAt a1 hc)), none, none], [], (W_Surv hu_2 hv hh hr hc))) (fun hu_2 => ?_)
    refine sv_Q.s (σ' := (30, [some (.ref 0), some (.ref 5), some (.int a1), some (.int (F_Cargo_boxAt a1 hc)), none, none], [.int (1 : Int32), .int (F_Cargo_boxAt a1 hc), .ref 2], (W_Surv hu_2 hv hh hr hc))) 4 rfl ?_
    refine sv_Q.S (ps := [2]) (rest := []) (st' := []) (cs' := (W_Surv (sw hu_2 2 24 (F_Cargo_boxAt a1 hc) (1 : Int32)) hv hh hr hc)) (q := (30, .null, 0, 0, 0)) lk_Surv_109 (t_K_write 24 rfl (hu_2 2) (F_Cargo_boxAt a1 hc) (1 : Int32)) rfl rfl rfl rfl rfl rfl rfl (su_Surv_2 hu_2 hv hh hr hc) rfl rfl (pa_Surv_2 hu_2 hv hh hr hc (wr 24 (hu_2 2) (F_Cargo_boxAt a1 hc) (1 : Int32))) ?_
    refine sv_Q.go (fun hu_3 => (33, [some (.ref 0), some (.ref 5), some (.int a1), some (.int (F_Cargo_boxAt a1 hc)), none, none], [], (W_Surv hu_3 hv hh hr hc))) (fun hu_3 => ?_)
    refine sv_Q.s (σ' := (39, [some (.ref 0), some (.ref 5), some (.int a1), some (.int (F_Cargo_boxAt a1 hc)), none, none], [.int (F_Cargo_boxAt a1 hc), .int (0 : Int32), .ref 1], (W_Surv hu_3 hv hh hr hc))) 4 rfl ?_
    refine sv_Q.S (ps := [1]) (rest := []) (st' := []) (cs' := (W_Surv (sw hu_3 1 24 (0 : Int32) (F_Cargo_boxAt a1 hc)) hv hh hr hc)) (q := (39, .null, 0, 0, 0)) lk_Surv_109 (t_K_write 24 rfl (hu_3 1) (0 : Int32) (F_Cargo_boxAt a1 hc)) rfl rfl rfl rfl rfl rfl rfl (su_Surv_1 hu_3 hv hh hr hc) rfl rfl (pa_Surv_1 hu_3 hv hh hr hc (wr 24 (hu_3 1) (0 : Int32) (F_Cargo_boxAt a1 hc))) ?_
    refine sv_Q.go (fun hu_4 => (42, [some (.ref 0), some (.ref 5), some (.int a1), some (.int (F_Cargo_boxAt a1 hc)), none, none], [], (W_Surv hu_4 hv hh hr hc))) (fun hu_4 => ?_)
    refine sv_Q.s (σ' := (48, [some (.ref 0), some (.ref 5), some (.int a1), some (.int (F_Cargo_boxAt a1 hc)), some (.int (1 : Int32)), some (.int (0 : Int32))], [], (W_Surv hu_4 hv hh hr hc))) 4 rfl ?_
    refine sv_Q.f (lo' := [some (.ref 0), some (.ref 5), none, none, some (.int (1 : Int32)), some (.int (0 : Int32))]) ⟨rfl, ⟨rfl, ⟨rfl, ⟨rfl, trivial⟩⟩⟩⟩ ?_
    refine sv_Q.lo (fun v9 => (86, [none, none, none, none, some (.int v9.1), none], [], (W_Surv v9.2 hv hh hr hc))) (fun v9 => ?_) (l_Surv_countHanging_48 N N (1 : Int32) (0 : Int32) hu_4 hv hh hr hc)
    · refine sv_Q.s (σ' := (88, [none, none, none, none, some (.int v9.1), none], [.int v9.1], (W_Surv v9.2 hv hh hr hc))) 1 rfl ?_
      exact sv_Q.z ⟨True, rfl, trivial, rfl⟩
  · refine sv_Q.s (σ' := (15, [some (.ref 0), some (.ref 5), some (.int a1), some (.int (F_Cargo_boxAt a1 hc)), none, none], [.int (-1 : Int32)], (W_Surv hu hv hh hr hc))) 1 rfl ?_
    exact sv_Q.z ⟨True, rfl, trivial, rfl⟩
def L_Surv_fewestBays_7 (N : Nat) : Nat → Int32 → Int32 → Int32 → Int32 → (Nat → Nat → Int32) → (Nat → Nat → Int32) → (Nat → Nat → Int32) → Option (Int32)
  | 0, _, _, _, _, _, _, _ => none
  | n + 1, x2, x3, x4, x5, hh, hr, hc => (if (hc 0 0) ≤ x5 then (some x4) else (sv_let (if x5 = x2 then (0 : Int32) else (if (F_Cargo_lies x5 hc) = 0 then (0 : Int32) else (if (F_Rules_levelOf (F_Cargo_kindOf x2 hc) (F_Cargo_kindOf x5 hc) hr) = 0 then (0 : Int32) else (1 : Int32)))) fun (v5 : Int32) => (if v5 = 0 then (L_Surv_fewestBays_7 N n x2 x3 x4 (x5 + (1 : Int32)) hh hr hc) else (L_Surv_fewestBays_7 N n x2 x3 (if (F_Hull_baysApart x3 (F_Cargo_placeOf x5 hc) hh) < x4 then (F_Hull_baysApart x3 (F_Cargo_placeOf x5 hc) hh) else x4) (x5 + (1 : Int32)) hh hr hc))))
theorem l_Surv_fewestBays_7 {X : Nat × (Nat → Int32)} (N : Nat) : ∀ (n : Nat) (x2 : Int32) (x3 : Int32) (x4 : Int32) (x5 : Int32) (hu hv hh hr hc : Nat → Nat → Int32), sv_Q X 2 M_Surv_fewestBays (7, [none, some (.ref 5), some (.int x2), some (.int x3), some (.int x4), some (.int x5), none], [], (W_Surv hu hv hh hr hc)) (L_Surv_fewestBays_7 N n x2 x3 x4 x5 hh hr hc) (fun v σ' => σ' = (106, [none, none, none, none, some (.int v), none, none], [], (W_Surv hu hv hh hr hc))) := by
  intro n
  induction n with
  | zero => intro x2 x3 x4 x5 hu hv hh hr hc; unfold L_Surv_fewestBays_7; exact sv_Q.non
  | succ n ih =>
    intro x2 x3 x4 x5 hu hv hh hr hc
    unfold L_Surv_fewestBays_7
    refine sv_Q.s (σ' := (16, [none, some (.ref 5), some (.int x2), some (.int x3), some (.int x4), some (.int x5), none], [.int (hc 0 0), .int x5], (W_Surv hu hv hh hr hc))) 4 rfl ?_
    refine sv_Q.b rfl (fun c1 => ?_) (fun c1 => ?_)
    · refine sv_Q.f (lo' := [none, none, none, none, some (.int x4), none, none]) ⟨rfl, trivial⟩ ?_
      exact sv_Q.z rfl
    · refine sv_Q.s (σ' := (22, [none, some (.ref 5), some (.int x2), some (.int x3), some (.int x4), some (.int x5), none], [.int x2, .int x5], (W_Surv hu hv hh hr hc))) 2 rfl ?_
      refine sv_Q.l (fun v5 => (69, [none, some (.ref 5), some (.int x2), some (.int x3), some (.int x4), some (.int x5), none], [.int v5], (W_Surv hu hv hh hr hc))) (fun v5 => ?_) ?_
      · refine sv_Q.s (σ' := (73, [none, some (.ref 5), some (.int x2), some (.int x3), some (.int x4), some (.int x5), some (.int v5)], [.int v5], (W_Surv hu hv hh hr hc))) 2 rfl ?_
        refine sv_Q.b rfl (fun c6 => ?_) (fun c6 => ?_)
        · refine sv_Q.s (σ' := (7, [none, some (.ref 5), some (.int x2), some (.int x3), some (.int x4), some (.int (x5 + (1 : Int32))), some (.int v5)], [], (W_Surv hu hv hh hr hc))) 2 rfl ?_
          refine sv_Q.f (lo' := [none, some (.ref 5), some (.int x2), some (.int x3), some (.int x4), some (.int (x5 + (1 : Int32))), none]) ⟨rfl, ⟨rfl, ⟨rfl, ⟨rfl, ⟨rfl, trivial⟩⟩⟩⟩⟩ ?_
          exact ih x2 x3 x4 (x5 + (1 : Int32)) hu hv hh hr hc
        · refine sv_Q.s (σ' := (89, [none, some (.ref 5), some (.int x2), some (.int x3), some (.int x4), some (.int x5), some (.int v5)], [.int x5, .ref 21, .int x3, .ref 7, .int x4], (W_Surv hu hv hh hr hc))) 7 rfl ?_
          refine sv_Q.V (b := 0) (av := [.int x5]) (ps := [21, 22, 23, 24, 25, 26]) (rest := [.int x3, .ref 7, .int x4]) (cs1 := (W_Cargo hc)) (cs2 := (W_Cargo hc)) (st' := [.int (F_Cargo_placeOf x5 hc), .int x3, .ref 7, .int x4]) (cs' := (W_Surv hu hv hh hr hc)) (q := (89, .null, 0, 0, 0)) lk_Surv_48 (t_Cargo_placeOf hc x5) rfl rfl rfl rfl rfl (Or.inl ⟨0, _, _, rfl, rfl, rfl⟩) rfl rfl (sc_Surv_Cargo_4 hu hv hh hr hc) rfl rfl (pc_Surv_Cargo_4 hu hv hh hr hc hc) ?_
          refine sv_Q.V (b := 0) (av := [.int x3, .int (F_Cargo_placeOf x5 hc)]) (ps := [7, 8, 9, 10, 11, 12]) (rest := [.int x4]) (cs1 := (W_Hull hh)) (cs2 := (W_Hull hh)) (st' := [.int (F_Hull_baysApart x3 (F_Cargo_placeOf x5 hc) hh), .int x4]) (cs' := (W_Surv hu hv hh hr hc)) (q := (92, .null, 0, 0, 0)) lk_Surv_139 (t_Hull_baysApart hh x3 (F_Cargo_placeOf x5 hc)) rfl rfl rfl rfl rfl (Or.inl ⟨2, _, _, rfl, rfl, rfl⟩) rfl rfl (sc_Surv_Hull_2 hu hv hh hr hc) rfl rfl (pc_Surv_Hull_2 hu hv hh hr hc hh) ?_
          refine sv_Q.s (σ' := (7, [none, some (.ref 5), some (.int x2), some (.int x3), some (.int (if (F_Hull_baysApart x3 (F_Cargo_placeOf x5 hc) hh) < x4 then (F_Hull_baysApart x3 (F_Cargo_placeOf x5 hc) hh) else x4)), some (.int (x5 + (1 : Int32))), some (.int v5)], [], (W_Surv hu hv hh hr hc))) 4 rfl ?_
          refine sv_Q.f (lo' := [none, some (.ref 5), some (.int x2), some (.int x3), some (.int (if (F_Hull_baysApart x3 (F_Cargo_placeOf x5 hc) hh) < x4 then (F_Hull_baysApart x3 (F_Cargo_placeOf x5 hc) hh) else x4)), some (.int (x5 + (1 : Int32))), none]) ⟨rfl, ⟨rfl, ⟨rfl, ⟨rfl, ⟨rfl, trivial⟩⟩⟩⟩⟩ ?_
          exact ih x2 x3 (if (F_Hull_baysApart x3 (F_Cargo_placeOf x5 hc) hh) < x4 then (F_Hull_baysApart x3 (F_Cargo_placeOf x5 hc) hh) else x4) (x5 + (1 : Int32)) hu hv hh hr hc
      · refine sv_Q.sb rfl (fun c2 => ?_) (fun c2 => ?_)
        · refine sv_Q.s (σ' := (69, [none, some (.ref 5), some (.int x2), some (.int x3), some (.int x4), some (.int x5), none], [.int (0 : Int32)], (W_Surv hu hv hh hr hc))) 1 rfl ?_
          exact sv_Q.z rfl
        · refine sv_Q.s (σ' := (31, [none, some (.ref 5), some (.int x2), some (.int x3), some (.int x4), some (.int x5), none], [.int x5, .ref 21], (W_Surv hu hv hh hr hc))) 3 rfl ?_
          refine sv_Q.V (b := 0) (av := [.int x5]) (ps := [21, 22, 23, 24, 25, 26]) (rest := []) (cs1 := (W_Cargo hc)) (cs2 := (W_Cargo hc)) (st' := [.int (F_Cargo_lies x5 hc)]) (cs' := (W_Surv hu hv hh hr hc)) (q := (31, .null, 0, 0, 0)) lk_Surv_36 (t_Cargo_lies hc x5) rfl rfl rfl rfl rfl (Or.inl ⟨0, _, _, rfl, rfl, rfl⟩) rfl rfl (sc_Surv_Cargo_4 hu hv hh hr hc) rfl rfl (pc_Surv_Cargo_4 hu hv hh hr hc hc) ?_
          refine sv_Q.sb rfl (fun c3 => ?_) (fun c3 => ?_)
          · refine sv_Q.s (σ' := (69, [none, some (.ref 5), some (.int x2), some (.int x3), some (.int x4), some (.int x5), none], [.int (0 : Int32)], (W_Surv hu hv hh hr hc))) 1 rfl ?_
            exact sv_Q.z rfl
          · refine sv_Q.s (σ' := (46, [none, some (.ref 5), some (.int x2), some (.int x3), some (.int x4), some (.int x5), none], [.int x2, .ref 21, .ref 13], (W_Surv hu hv hh hr hc))) 5 rfl ?_
            refine sv_Q.V (b := 0) (av := [.int x2]) (ps := [21, 22, 23, 24, 25, 26]) (rest := [.ref 13]) (cs1 := (W_Cargo hc)) (cs2 := (W_Cargo hc)) (st' := [.int (F_Cargo_kindOf x2 hc), .ref 13]) (cs' := (W_Surv hu hv hh hr hc)) (q := (46, .null, 0, 0, 0)) lk_Surv_94 (t_Cargo_kindOf hc x2) rfl rfl rfl rfl rfl (Or.inl ⟨0, _, _, rfl, rfl, rfl⟩) rfl rfl (sc_Surv_Cargo_4 hu hv hh hr hc) rfl rfl (pc_Surv_Cargo_4 hu hv hh hr hc hc) ?_
            refine sv_Q.s (σ' := (55, [none, some (.ref 5), some (.int x2), some (.int x3), some (.int x4), some (.int x5), none], [.int x5, .ref 21, .int (F_Cargo_kindOf x2 hc), .ref 13], (W_Surv hu hv hh hr hc))) 3 rfl ?_
            refine sv_Q.V (b := 0) (av := [.int x5]) (ps := [21, 22, 23, 24, 25, 26]) (rest := [.int (F_Cargo_kindOf x2 hc), .ref 13]) (cs1 := (W_Cargo hc)) (cs2 := (W_Cargo hc)) (st' := [.int (F_Cargo_kindOf x5 hc), .int (F_Cargo_kindOf x2 hc), .ref 13]) (cs' := (W_Surv hu hv hh hr hc)) (q := (55, .null, 0, 0, 0)) lk_Surv_94 (t_Cargo_kindOf hc x5) rfl rfl rfl rfl rfl (Or.inl ⟨0, _, _, rfl, rfl, rfl⟩) rfl rfl (sc_Surv_Cargo_4 hu hv hh hr hc) rfl rfl (pc_Surv_Cargo_4 hu hv hh hr hc hc) ?_
            refine sv_Q.V (b := 0) (av := [.int (F_Cargo_kindOf x2 hc), .int (F_Cargo_kindOf x5 hc)]) (ps := [13, 14, 15, 16, 17, 18, 19, 20]) (rest := []) (cs1 := (W_Rules hr)) (cs2 := (W_Rules hr)) (st' := [.int (F_Rules_levelOf (F_Cargo_kindOf x2 hc) (F_Cargo_kindOf x5 hc) hr)]) (cs' := (W_Surv hu hv hh hr hc)) (q := (58, .null, 0, 0, 0)) lk_Surv_134 (t_Rules_levelOf hr (F_Cargo_kindOf x2 hc) (F_Cargo_kindOf x5 hc)) rfl rfl rfl rfl rfl (Or.inl ⟨6, _, _, rfl, rfl, rfl⟩) rfl rfl (sc_Surv_Rules_3 hu hv hh hr hc) rfl rfl (pc_Surv_Rules_3 hu hv hh hr hc hr) ?_
            refine sv_Q.sb rfl (fun c4 => ?_) (fun c4 => ?_)
            · refine sv_Q.s (σ' := (69, [none, some (.ref 5), some (.int x2), some (.int x3), some (.int x4), some (.int x5), none], [.int (0 : Int32)], (W_Surv hu hv hh hr hc))) 1 rfl ?_
              exact sv_Q.z rfl
            · refine sv_Q.s (σ' := (69, [none, some (.ref 5), some (.int x2), some (.int x3), some (.int x4), some (.int x5), none], [.int (1 : Int32)], (W_Surv hu hv hh hr hc))) 2 rfl ?_
              exact sv_Q.z rfl
def F_Surv_fewestBays (N : Nat) (a1 : Int32) (a2 : Int32) (hh hr hc : Nat → Nat → Int32) : Option (Int32) := (Option.bind (L_Surv_fewestBays_7 N N a1 a2 (99 : Int32) (0 : Int32) hh hr hc) fun (v7 : Int32) => (some v7))
theorem r_Surv_fewestBays {X : Nat × (Nat → Int32)} (N : Nat) (hu hv hh hr hc : Nat → Nat → Int32) (a1 : Int32) (a2 : Int32) : ∀ x, (F_Surv_fewestBays N a1 a2 hh hr hc) = some x → sv_R X 3 M_Surv_fewestBays [.ref 0, .ref 5, .int a1, .int a2] (W_Surv hu hv hh hr hc) (some (.int x)) (W_Surv hu hv hh hr hc) := by
  refine sv_Q.R (res := (fun (x : Int32) => (some (.int x), (W_Surv hu hv hh hr hc)))) g_Surv_fewestBays rfl ?_
  unfold F_Surv_fewestBays
  refine sv_Q.s (σ' := (7, [some (.ref 0), some (.ref 5), some (.int a1), some (.int a2), some (.int (99 : Int32)), some (.int (0 : Int32)), none], [], (W_Surv hu hv hh hr hc))) 4 rfl ?_
  refine sv_Q.f (lo' := [none, some (.ref 5), some (.int a1), some (.int a2), some (.int (99 : Int32)), some (.int (0 : Int32)), none]) ⟨rfl, ⟨rfl, ⟨rfl, ⟨rfl, ⟨rfl, trivial⟩⟩⟩⟩⟩ ?_
  refine sv_Q.lo (fun v7 => (106, [none, none, none, none, some (.int v7), none, none], [], (W_Surv hu hv hh hr hc))) (fun v7 => ?_) (l_Surv_fewestBays_7 N N a1 a2 (99 : Int32) (0 : Int32) hu hv hh hr hc)
  · refine sv_Q.s (σ' := (108, [none, none, none, none, some (.int v7), none, none], [.int v7], (W_Surv hu hv hh hr hc))) 1 rfl ?_
    exact sv_Q.z ⟨True, rfl, trivial, rfl⟩
def L_Surv_loosestPlace_8 (N : Nat) : Nat → Int32 → Int32 → Int32 → Int32 → (Nat → Nat → Int32) → (Nat → Nat → Int32) → (Nat → Nat → Int32) → Option (Int32)
  | 0, _, _, _, _, _, _, _ => none
  | n + 1, x2, x3, x4, x5, hh, hr, hc => (if (hh 0 4) ≤ x5 then (some x3) else (Option.bind (F_Ves_whyNot N x2 x5 hh hr hc) fun (v2 : Int32) => (if ¬ v2 = 0 then (L_Surv_loosestPlace_8 N n x2 x3 x4 (x5 + (1 : Int32)) hh hr hc) else (Option.bind (F_Surv_fewestBays N x2 x5 hh hr hc) fun (v5 : Int32) => (if v5 ≤ x4 then (L_Surv_loosestPlace_8 N n x2 x3 x4 (x5 + (1 : Int32)) hh hr hc) else (L_Surv_loosestPlace_8 N n x2 x5 v5 (x5 + (1 : Int32)) hh hr hc))))))
theorem l_Surv_loosestPlace_8 {X : Nat × (Nat → Int32)} (N : Nat) : ∀ (n : Nat) (x2 : Int32) (x3 : Int32) (x4 : Int32) (x5 : Int32) (hu hv hh hr hc : Nat → Nat → Int32), sv_Q X 4 M_Surv_loosestPlace (8, [some (.ref 0), some (.ref 5), some (.int x2), some (.int x3), some (.int x4), some (.int x5), none], [], (W_Surv hu hv hh hr hc)) (L_Surv_loosestPlace_8 N n x2 x3 x4 x5 hh hr hc) (fun v σ' => σ' = (60, [none, none, none, some (.int v), none, none, none], [], (W_Surv hu hv hh hr hc))) := by
  intro n
  induction n with
  | zero => intro x2 x3 x4 x5 hu hv hh hr hc; unfold L_Surv_loosestPlace_8; exact sv_Q.non
  | succ n ih =>
    intro x2 x3 x4 x5 hu hv hh hr hc
    unfold L_Surv_loosestPlace_8
    refine sv_Q.s (σ' := (17, [some (.ref 0), some (.ref 5), some (.int x2), some (.int x3), some (.int x4), some (.int x5), none], [.int (hh 0 4), .int x5], (W_Surv hu hv hh hr hc))) 4 rfl ?_
    refine sv_Q.b rfl (fun c1 => ?_) (fun c1 => ?_)
    · refine sv_Q.f (lo' := [none, none, none, some (.int x3), none, none, none]) ⟨rfl, trivial⟩ ?_
      exact sv_Q.z rfl
    · refine sv_Q.s (σ' := (24, [some (.ref 0), some (.ref 5), some (.int x2), some (.int x3), some (.int x4), some (.int x5), none], [.int x5, .int x2, .ref 5], (W_Surv hu hv hh hr hc))) 3 rfl ?_
      refine sv_Q.o (fun v2 e3 => ?_)
      refine sv_Q.V (b := 0) (av := [.int x2, .int x5]) (ps := [5, 6, 7, 8, 9, 10, 11, 12, 13, 14, 15, 16, 17, 18, 19, 20, 21, 22, 23, 24, 25, 26]) (rest := []) (cs1 := (W_Ves hv hh hr hc)) (cs2 := (W_Ves hv hh hr hc)) (st' := [.int v2]) (cs' := (W_Surv hu hv hh hr hc)) (q := (24, .null, 0, 0, 0)) lk_Surv_123 (r_Ves_whyNot N hv hh hr hc x2 x5 v2 e3) rfl rfl rfl rfl rfl (Or.inl ⟨10, _, _, rfl, rfl, rfl⟩) rfl rfl (sc_Surv_Ves_1 hu hv hh hr hc) rfl rfl (pc_Surv_Ves_1 hu hv hh hr hc hv hh hr hc) ?_
      refine sv_Q.b rfl (fun c4 => ?_) (fun c4 => ?_)
      · refine sv_Q.s (σ' := (8, [some (.ref 0), some (.ref 5), some (.int x2), some (.int x3), some (.int x4), some (.int (x5 + (1 : Int32))), none], [], (W_Surv hu hv hh hr hc))) 2 rfl ?_
        exact ih x2 x3 x4 (x5 + (1 : Int32)) hu hv hh hr hc
      · refine sv_Q.s (σ' := (35, [some (.ref 0), some (.ref 5), some (.int x2), some (.int x3), some (.int x4), some (.int x5), none], [.int x5, .int x2, .ref 5, .ref 0], (W_Surv hu hv hh hr hc))) 4 rfl ?_
        refine sv_Q.o (fun v5 e6 => ?_)
        refine sv_Q.V (b := 0) (av := [.ref 5, .int x2, .int x5]) (ps := [0, 1, 2, 3, 4, 5, 6, 7, 8, 9, 10, 11, 12, 13, 14, 15, 16, 17, 18, 19, 20, 21, 22, 23, 24, 25, 26]) (rest := []) (cs1 := (W_Surv hu hv hh hr hc)) (cs2 := (W_Surv hu hv hh hr hc)) (st' := [.int v5]) (cs' := (W_Surv hu hv hh hr hc)) (q := (35, .null, 0, 0, 0)) lk_Surv_127 (r_Surv_fewestBays N hu hv hh hr hc x2 x5 v5 e6) rfl rfl rfl rfl rfl (Or.inl ⟨8, _, _, rfl, rfl, rfl⟩) rfl rfl (sc_Surv_Surv_0 hu hv hh hr hc) rfl rfl (pc_Surv_Surv_0 hu hv hh hr hc hu hv hh hr hc) ?_
        refine sv_Q.s (σ' := (44, [some (.ref 0), some (.ref 5), some (.int x2), some (.int x3), some (.int x4), some (.int x5), some (.int v5)], [.int x4, .int v5], (W_Surv hu hv hh hr hc))) 3 rfl ?_
        refine sv_Q.b rfl (fun c7 => ?_) (fun c7 => ?_)
        · refine sv_Q.s (σ' := (8, [some (.ref 0), some (.ref 5), some (.int x2), some (.int x3), some (.int x4), some (.int (x5 + (1 : Int32))), some (.int v5)], [], (W_Surv hu hv hh hr hc))) 2 rfl ?_
          refine sv_Q.f (lo' := [some (.ref 0), some (.ref 5), some (.int x2), some (.int x3), some (.int x4), some (.int (x5 + (1 : Int32))), none]) ⟨rfl, ⟨rfl, ⟨rfl, ⟨rfl, ⟨rfl, ⟨rfl, trivial⟩⟩⟩⟩⟩⟩ ?_
          exact ih x2 x3 x4 (x5 + (1 : Int32)) hu hv hh hr hc
        · refine sv_Q.s (σ' := (8, [some (.ref 0), some (.ref 5), some (.int x2), some (.int x5), some (.int v5), some (.int (x5 + (1 : Int32))), some (.int v5)], [], (W_Surv hu hv hh hr hc))) 6 rfl ?_
          refine sv_Q.f (lo' := [some (.ref 0), some (.ref 5), some (.int x2), some (.int x5), some (.int v5), some (.int (x5 + (1 : Int32))), none]) ⟨rfl, ⟨rfl, ⟨rfl, ⟨rfl, ⟨rfl, ⟨rfl, trivial⟩⟩⟩⟩⟩⟩ ?_
          exact ih x2 x5 v5 (x5 + (1 : Int32)) hu hv hh hr hc
def F_Surv_loosestPlace (N : Nat) (a1 : Int32) (hh hr hc : Nat → Nat → Int32) : Option (Int32) := (Option.bind (L_Surv_loosestPlace_8 N N a1 (-1 : Int32) (-1 : Int32) (0 : Int32) hh hr hc) fun (v8 : Int32) => (some v8))
theorem r_Surv_loosestPlace {X : Nat × (Nat → Int32)} (N : Nat) (hu hv hh hr hc : Nat → Nat → Int32) (a1 : Int32) : ∀ x, (F_Surv_loosestPlace N a1 hh hr hc) = some x → sv_R X 5 M_Surv_loosestPlace [.ref 0, .ref 5, .int a1] (W_Surv hu hv hh hr hc) (some (.int x)) (W_Surv hu hv hh hr hc) := by
  refine sv_Q.R (res := (fun (x : Int32) => (some (.int x), (W_Surv hu hv hh hr hc)))) g_Surv_loosestPlace rfl ?_
  unfold F_Surv_loosestPlace
  refine sv_Q.s (σ' := (8, [some (.ref 0), some (.ref 5), some (.int a1), some (.int (-1 : Int32)), some (.int (-1 : Int32)), some (.int (0 : Int32)), none], [], (W_Surv hu hv hh hr hc))) 6 rfl ?_
  refine sv_Q.lo (fun v8 => (60, [none, none, none, some (.int v8), none, none, none], [], (W_Surv hu hv hh hr hc))) (fun v8 => ?_) (l_Surv_loosestPlace_8 N N a1 (-1 : Int32) (-1 : Int32) (0 : Int32) hu hv hh hr hc)
  · refine sv_Q.s (σ' := (61, [none, none, none, some (.int v8), none, none, none], [.int v8], (W_Surv hu hv hh hr hc))) 1 rfl ?_
    exact sv_Q.z ⟨True, rfl, trivial, rfl⟩
def L_Surv_callAt_5 (N : Nat) : Nat → Int32 → Int32 → Int32 → Int32 → (Nat → Nat → Int32) → Option (Int32 × (Nat → Nat → Int32))
  | 0, _, _, _, _, _ => none
  | n + 1, x1, x2, x3, x4, hu => (if x2 ≤ x4 then (some (x3, hu)) else (if (rd 3 (hu 3) x4) = x1 then (L_Surv_callAt_5 N n x1 x2 x3 (x4 + (1 : Int32)) hu) else (sv_let (if x4 ≤ x3 then hu else (sv_let (sw hu 4 6 x1 ((rd 6 (hu 4) x1) + (1 : Int32))) fun (hu_4 : Nat → Nat → Int32) => hu_4)) fun (v5 : (Nat → Nat → Int32)) => (sv_let (sw v5 3 3 x3 (rd 3 (hu 3) x4)) fun (hu_6 : Nat → Nat → Int32) => (L_Surv_callAt_5 N n x1 x2 (x3 + (1 : Int32)) (x4 + (1 : Int32)) hu_6)))))
theorem l_Surv_callAt_5 {X : Nat × (Nat → Int32)} (N : Nat) : ∀ (n : Nat) (x1 : Int32) (x2 : Int32) (x3 : Int32) (x4 : Int32) (hu hv hh hr hc : Nat → Nat → Int32), sv_Q X 1 M_Surv_callAt (5, [some (.ref 0), some (.int x1), some (.int x2), some (.int x3), some (.int x4), none], [], (W_Surv hu hv hh hr hc)) (L_Surv_callAt_5 N n x1 x2 x3 x4 hu) (fun v σ' => σ' = (71, [none, none, none, some (.int v.1), none, none], [], (W_Surv v.2 hv hh hr hc))) := by
  intro n
  induction n with
  | zero => intro x1 x2 x3 x4 hu hv hh hr hc; unfold L_Surv_callAt_5; exact sv_Q.non
  | succ n ih =>
    intro x1 x2 x3 x4 hu hv hh hr hc
    unfold L_Surv_callAt_5
    refine sv_Q.s (σ' := (8, [some (.ref 0), some (.int x1), some (.int x2), some (.int x3), some (.int x4), none], [.int x2, .int x4], (W_Surv hu hv hh hr hc))) 2 rfl ?_
    refine sv_Q.b rfl (fun c1 => ?_) (fun c1 => ?_)
    · refine sv_Q.f (lo' := [none, none, none, some (.int x3), none, none]) ⟨rfl, trivial⟩ ?_
      exact sv_Q.z rfl
    · refine sv_Q.s (σ' := (17, [some (.ref 0), some (.int x1), some (.int x2), some (.int x3), some (.int x4), none], [.int x4, .ref 3], (W_Surv hu hv hh hr hc))) 3 rfl ?_
      refine sv_Q.S (ps := [3]) (rest := []) (st' := [.int (rd 3 (hu 3) x4)]) (cs' := (W_Surv hu hv hh hr hc)) (q := (17, .null, 0, 0, 0)) lk_Surv_113 (t_K_read 3 rfl (hu 3) x4) rfl rfl rfl rfl rfl rfl rfl (su_Surv_3 hu hv hh hr hc) rfl rfl (pu_Surv_3 hu hv hh hr hc) ?_
      refine sv_Q.s (σ' := (25, [some (.ref 0), some (.int x1), some (.int x2), some (.int x3), some (.int x4), some (.int (rd 3 (hu 3) x4))], [.int x1, .int (rd 3 (hu 3) x4)], (W_Surv hu hv hh hr hc))) 3 rfl ?_
      refine sv_Q.b rfl (fun c2 => ?_) (fun c2 => ?_)
      · refine sv_Q.s (σ' := (5, [some (.ref 0), some (.int x1), some (.int x2), some (.int x3), some (.int (x4 + (1 : Int32))), some (.int (rd 3 (hu 3) x4))], [], (W_Surv hu hv hh hr hc))) 2 rfl ?_
        refine sv_Q.f (lo' := [some (.ref 0), some (.int x1), some (.int x2), some (.int x3), some (.int (x4 + (1 : Int32))), none]) ⟨rfl, ⟨rfl, ⟨rfl, ⟨rfl, ⟨rfl, trivial⟩⟩⟩⟩⟩ ?_
        exact ih x1 x2 x3 (x4 + (1 : Int32)) hu hv hh hr hc
      · refine sv_Q.s (σ' := (31, [some (.ref 0), some (.int x1), some (.int x2), some (.int x3), some (.int x4), some (.int (rd 3 (hu 3) x4))], [.int x4, .int x3], (W_Surv hu hv hh hr hc))) 2 rfl ?_
        refine sv_Q.l (fun v5 => (52, [some (.ref 0), some (.int x1), some (.int x2), some (.int x3), some (.int x4), some (.int (rd 3 (hu 3) x4))], [], (W_Surv v5 hv hh hr hc))) (fun v5 => ?_) ?_
        · refine sv_Q.s (σ' := (59, [some (.ref 0), some (.int x1), some (.int x2), some (.int x3), some (.int x4), some (.int (rd 3 (hu 3) x4))], [.int (rd 3 (hu 3) x4), .int x3, .ref 3], (W_Surv v5 hv hh hr hc))) 4 rfl ?_
          refine sv_Q.S (ps := [3]) (rest := []) (st' := []) (cs' := (W_Surv (sw v5 3 3 x3 (rd 3 (hu 3) x4)) hv hh hr hc)) (q := (59, .null, 0, 0, 0)) lk_Surv_109 (t_K_write 3 rfl (v5 3) x3 (rd 3 (hu 3) x4)) rfl rfl rfl rfl rfl rfl rfl (su_Surv_3 v5 hv hh hr hc) rfl rfl (pa_Surv_3 v5 hv hh hr hc (wr 3 (v5 3) x3 (rd 3 (hu 3) x4))) ?_
          refine sv_Q.go (fun hu_6 => (62, [some (.ref 0), some (.int x1), some (.int x2), some (.int x3), some (.int x4), some (.int (rd 3 (hu 3) x4))], [], (W_Surv hu_6 hv hh hr hc))) (fun hu_6 => ?_)
          refine sv_Q.s (σ' := (5, [some (.ref 0), some (.int x1), some (.int x2), some (.int (x3 + (1 : Int32))), some (.int (x4 + (1 : Int32))), some (.int (rd 3 (hu 3) x4))], [], (W_Surv hu_6 hv hh hr hc))) 3 rfl ?_
          refine sv_Q.f (lo' := [some (.ref 0), some (.int x1), some (.int x2), some (.int (x3 + (1 : Int32))), some (.int (x4 + (1 : Int32))), none]) ⟨rfl, ⟨rfl, ⟨rfl, ⟨rfl, ⟨rfl, trivial⟩⟩⟩⟩⟩ ?_
          exact ih x1 x2 (x3 + (1 : Int32)) (x4 + (1 : Int32)) hu_6 hv hh hr hc
        · refine sv_Q.sb rfl (fun c3 => ?_) (fun c3 => ?_)
          · exact sv_Q.z rfl
          · refine sv_Q.s (σ' := (44, [some (.ref 0), some (.int x1), some (.int x2), some (.int x3), some (.int x4), some (.int (rd 3 (hu 3) x4))], [.int x1, .ref 4, .int x1, .ref 4], (W_Surv hu hv hh hr hc))) 6 rfl ?_
            refine sv_Q.S (ps := [4]) (rest := [.int x1, .ref 4]) (st' := [.int (rd 6 (hu 4) x1), .int x1, .ref 4]) (cs' := (W_Surv hu hv hh hr hc)) (q := (44, .null, 0, 0, 0)) lk_Surv_113 (t_K_read 6 rfl (hu 4) x1) rfl rfl rfl rfl rfl rfl rfl (su_Surv_4 hu hv hh hr hc) rfl rfl (pu_Surv_4 hu hv hh hr hc) ?_
            refine sv_Q.s (σ' := (49, [some (.ref 0), some (.int x1), some (.int x2), some (.int x3), some (.int x4), some (.int (rd 3 (hu 3) x4))], [.int ((rd 6 (hu 4) x1) + (1 : Int32)), .int x1, .ref 4], (W_Surv hu hv hh hr hc))) 2 rfl ?_
            refine sv_Q.S (ps := [4]) (rest := []) (st' := []) (cs' := (W_Surv (sw hu 4 6 x1 ((rd 6 (hu 4) x1) + (1 : Int32))) hv hh hr hc)) (q := (49, .null, 0, 0, 0)) lk_Surv_109 (t_K_write 6 rfl (hu 4) x1 ((rd 6 (hu 4) x1) + (1 : Int32))) rfl rfl rfl rfl rfl rfl rfl (su_Surv_4 hu hv hh hr hc) rfl rfl (pa_Surv_4 hu hv hh hr hc (wr 6 (hu 4) x1 ((rd 6 (hu 4) x1) + (1 : Int32)))) ?_
            refine sv_Q.gs (fun hu_4 => (52, [some (.ref 0), some (.int x1), some (.int x2), some (.int x3), some (.int x4), some (.int (rd 3 (hu 3) x4))], [], (W_Surv hu_4 hv hh hr hc))) (fun hu_4 => ?_)
            exact sv_Q.z rfl
def F_Surv_callAt (N : Nat) (a0 : Int32) (a1 : Int32) (hu : Nat → Nat → Int32) : Option (Int32 × (Nat → Nat → Int32)) := (Option.bind (L_Surv_callAt_5 N N a0 a1 (0 : Int32) (0 : Int32) hu) fun (v7 : Int32 × (Nat → Nat → Int32)) => (some (v7.1, v7.2)))
theorem r_Surv_callAt {X : Nat × (Nat → Int32)} (N : Nat) (hu hv hh hr hc : Nat → Nat → Int32) (a0 : Int32) (a1 : Int32) : ∀ x, (F_Surv_callAt N a0 a1 hu) = some x → sv_R X 2 M_Surv_callAt [.ref 0, .int a0, .int a1] (W_Surv hu hv hh hr hc) (some (.int x.1)) (W_Surv x.2 hv hh hr hc) := by
  refine sv_Q.R (res := (fun (x : Int32 × (Nat → Nat → Int32)) => (some (.int x.1), (W_Surv x.2 hv hh hr hc)))) g_Surv_callAt rfl ?_
  unfold F_Surv_callAt
  refine sv_Q.s (σ' := (5, [some (.ref 0), some (.int a0), some (.int a1), some (.int (0 : Int32)), some (.int (0 : Int32)), none], [], (W_Surv hu hv hh hr hc))) 4 rfl ?_
  refine sv_Q.lo (fun v7 => (71, [none, none, none, some (.int v7.1), none, none], [], (W_Surv v7.2 hv hh hr hc))) (fun v7 => ?_) (l_Surv_callAt_5 N N a0 a1 (0 : Int32) (0 : Int32) hu hv hh hr hc)
  · refine sv_Q.s (σ' := (72, [none, none, none, some (.int v7.1), none, none], [.int v7.1], (W_Surv v7.2 hv hh hr hc))) 1 rfl ?_
    exact sv_Q.z ⟨True, rfl, trivial, rfl⟩
def L_Surv_sailStack_30 (N : Nat) : Nat → Int32 → Int32 → Int32 → Int32 → (Nat → Nat → Int32) → (Nat → Nat → Int32) → Option (Int32 × (Nat → Nat → Int32))
  | 0, _, _, _, _, _, _ => none
  | n + 1, x2, x3, x4, x5, hu, hc => (if x3 ≤ x5 then (some (x4, hu)) else (if (F_Cargo_boxAt (x2 + x5) hc) = (-1 : Int32) then (L_Surv_sailStack_30 N n x2 x3 x4 (x5 + (1 : Int32)) hu hc) else (sv_let (sw hu 3 3 x4 (F_Cargo_portOf (F_Cargo_boxAt (x2 + x5) hc) hc)) fun (hu_5 : Nat → Nat → Int32) => (L_Surv_sailStack_30 N n x2 x3 (x4 + (1 : Int32)) (x5 + (1 : Int32)) hu_5 hc))))
theorem l_Surv_sailStack_30 {X : Nat × (Nat → Int32)} (N : Nat) : ∀ (n : Nat) (x2 : Int32) (x3 : Int32) (x4 : Int32) (x5 : Int32) (hu hv hh hr hc : Nat → Nat → Int32), sv_Q X 2 M_Surv_sailStack (30, [some (.ref 0), some (.ref 5), some (.int x2), some (.int x3), some (.int x4), some (.int x5), none], [], (W_Surv hu hv hh hr hc)) (L_Surv_sailStack_30 N n x2 x3 x4 x5 hu hc) (fun v σ' => σ' = (82, [some (.ref 0), none, none, none, some (.int v.1), none, none], [], (W_Surv v.2 hv hh hr hc))) := by
  intro n
  induction n with
  | zero => intro x2 x3 x4 x5 hu hv hh hr hc; unfold L_Surv_sailStack_30; exact sv_Q.non
  | succ n ih =>
    intro x2 x3 x4 x5 hu hv hh hr hc
    unfold L_Surv_sailStack_30
    refine sv_Q.s (σ' := (33, [some (.ref 0), some (.ref 5), some (.int x2), some (.int x3), some (.int x4), some (.int x5), none], [.int x3, .int x5], (W_Surv hu hv hh hr hc))) 2 rfl ?_
    refine sv_Q.b rfl (fun c3 => ?_) (fun c3 => ?_)
    · refine sv_Q.f (lo' := [some (.ref 0), none, none, none, some (.int x4), none, none]) ⟨rfl, ⟨rfl, trivial⟩⟩ ?_
      exact sv_Q.z rfl
    · refine sv_Q.s (σ' := (44, [some (.ref 0), some (.ref 5), some (.int x2), some (.int x3), some (.int x4), some (.int x5), none], [.int (x2 + x5), .ref 21], (W_Surv hu hv hh hr hc))) 5 rfl ?_
      refine sv_Q.V (b := 0) (av := [.int (x2 + x5)]) (ps := [21, 22, 23, 24, 25, 26]) (rest := []) (cs1 := (W_Cargo hc)) (cs2 := (W_Cargo hc)) (st' := [.int (F_Cargo_boxAt (x2 + x5) hc)]) (cs' := (W_Surv hu hv hh hr hc)) (q := (44, .null, 0, 0, 0)) lk_Surv_76 (t_Cargo_boxAt hc (x2 + x5)) rfl rfl rfl rfl rfl (Or.inl ⟨0, _, _, rfl, rfl, rfl⟩) rfl rfl (sc_Surv_Cargo_4 hu hv hh hr hc) rfl rfl (pc_Surv_Cargo_4 hu hv hh hr hc hc) ?_
      refine sv_Q.s (σ' := (52, [some (.ref 0), some (.ref 5), some (.int x2), some (.int x3), some (.int x4), some (.int x5), some (.int (F_Cargo_boxAt (x2 + x5) hc))], [.int (-1 : Int32), .int (F_Cargo_boxAt (x2 + x5) hc)], (W_Surv hu hv hh hr hc))) 3 rfl ?_
      refine sv_Q.b rfl (fun c4 => ?_) (fun c4 => ?_)
      · refine sv_Q.s (σ' := (30, [some (.ref 0), some (.ref 5), some (.int x2), some (.int x3), some (.int x4), some (.int (x5 + (1 : Int32))), some (.int (F_Cargo_boxAt (x2 + x5) hc))], [], (W_Surv hu hv hh hr hc))) 2 rfl ?_
        refine sv_Q.f (lo' := [some (.ref 0), some (.ref 5), some (.int x2), some (.int x3), some (.int x4), some (.int (x5 + (1 : Int32))), none]) ⟨rfl, ⟨rfl, ⟨rfl, ⟨rfl, ⟨rfl, ⟨rfl, trivial⟩⟩⟩⟩⟩⟩ ?_
        exact ih x2 x3 x4 (x5 + (1 : Int32)) hu hv hh hr hc
      · refine sv_Q.s (σ' := (67, [some (.ref 0), some (.ref 5), some (.int x2), some (.int x3), some (.int x4), some (.int x5), some (.int (F_Cargo_boxAt (x2 + x5) hc))], [.int (F_Cargo_boxAt (x2 + x5) hc), .ref 21, .int x4, .ref 3], (W_Surv hu hv hh hr hc))) 6 rfl ?_
        refine sv_Q.V (b := 0) (av := [.int (F_Cargo_boxAt (x2 + x5) hc)]) (ps := [21, 22, 23, 24, 25, 26]) (rest := [.int x4, .ref 3]) (cs1 := (W_Cargo hc)) (cs2 := (W_Cargo hc)) (st' := [.int (F_Cargo_portOf (F_Cargo_boxAt (x2 + x5) hc) hc), .int x4, .ref 3]) (cs' := (W_Surv hu hv hh hr hc)) (q := (67, .null, 0, 0, 0)) lk_Surv_87 (t_Cargo_portOf hc (F_Cargo_boxAt (x2 + x5) hc)) rfl rfl rfl rfl rfl (Or.inl ⟨0, _, _, rfl, rfl, rfl⟩) rfl rfl (sc_Surv_Cargo_4 hu hv hh hr hc) rfl rfl (pc_Surv_Cargo_4 hu hv hh hr hc hc) ?_
        refine sv_Q.S (ps := [3]) (rest := []) (st' := []) (cs' := (W_Surv (sw hu 3 3 x4 (F_Cargo_portOf (F_Cargo_boxAt (x2 + x5) hc) hc)) hv hh hr hc)) (q := (70, .null, 0, 0, 0)) lk_Surv_109 (t_K_write 3 rfl (hu 3) x4 (F_Cargo_portOf (F_Cargo_boxAt (x2 + x5) hc) hc)) rfl rfl rfl rfl rfl rfl rfl (su_Surv_3 hu hv hh hr hc) rfl rfl (pa_Surv_3 hu hv hh hr hc (wr 3 (hu 3) x4 (F_Cargo_portOf (F_Cargo_boxAt (x2 + x5) hc) hc))) ?_
        refine sv_Q.go (fun hu_5 => (73, [some (.ref 0), some (.ref 5), some (.int x2), some (.int x3), some (.int x4), some (.int x5), some (.int (F_Cargo_boxAt (x2 + x5) hc))], [], (W_Surv hu_5 hv hh hr hc))) (fun hu_5 => ?_)
        refine sv_Q.s (σ' := (30, [some (.ref 0), some (.ref 5), some (.int x2), some (.int x3), some (.int (x4 + (1 : Int32))), some (.int (x5 + (1 : Int32))), some (.int (F_Cargo_boxAt (x2 + x5) hc))], [], (W_Surv hu_5 hv hh hr hc))) 3 rfl ?_
        refine sv_Q.f (lo' := [some (.ref 0), some (.ref 5), some (.int x2), some (.int x3), some (.int (x4 + (1 : Int32))), some (.int (x5 + (1 : Int32))), none]) ⟨rfl, ⟨rfl, ⟨rfl, ⟨rfl, ⟨rfl, ⟨rfl, trivial⟩⟩⟩⟩⟩⟩ ?_
        exact ih x2 x3 (x4 + (1 : Int32)) (x5 + (1 : Int32)) hu_5 hv hh hr hc
def L_Surv_sailStack_85 (N : Nat) : Nat → Int32 → Int32 → (Nat → Nat → Int32) → Option ((Nat → Nat → Int32))
  | 0, _, _, _ => none
  | n + 1, x4, x5, hu => (if (5 : Int32) < x5 then (some hu) else (Option.bind (F_Surv_callAt N x5 x4 hu) fun (v8 : Int32 × (Nat → Nat → Int32)) => (L_Surv_sailStack_85 N n v8.1 (x5 + (1 : Int32)) v8.2)))
theorem l_Surv_sailStack_85 {X : Nat × (Nat → Int32)} (N : Nat) : ∀ (n : Nat) (x4 : Int32) (x5 : Int32) (hu hv hh hr hc : Nat → Nat → Int32), sv_Q X 2 M_Surv_sailStack (85, [some (.ref 0), none, none, none, some (.int x4), some (.int x5), none], [], (W_Surv hu hv hh hr hc)) (L_Surv_sailStack_85 N n x4 x5 hu) (fun v σ' => σ' = (107, [none, none, none, none, none, none, none], [], (W_Surv v hv hh hr hc))) := by
  intro n
  induction n with
  | zero => intro x4 x5 hu hv hh hr hc; unfold L_Surv_sailStack_85; exact sv_Q.non
  | succ n ih =>
    intro x4 x5 hu hv hh hr hc
    unfold L_Surv_sailStack_85
    refine sv_Q.s (σ' := (88, [some (.ref 0), none, none, none, some (.int x4), some (.int x5), none], [.int (5 : Int32), .int x5], (W_Surv hu hv hh hr hc))) 2 rfl ?_
    refine sv_Q.b rfl (fun c7 => ?_) (fun c7 => ?_)
    · refine sv_Q.f (lo' := [none, none, none, none, none, none, none]) trivial ?_
      exact sv_Q.z rfl
    · refine sv_Q.s (σ' := (96, [some (.ref 0), none, none, none, some (.int x4), some (.int x5), none], [.int x4, .int x5, .ref 0], (W_Surv hu hv hh hr hc))) 3 rfl ?_
      refine sv_Q.o (fun v8 e9 => ?_)
      refine sv_Q.V (b := 0) (av := [.int x5, .int x4]) (ps := [0, 1, 2, 3, 4, 5, 6, 7, 8, 9, 10, 11, 12, 13, 14, 15, 16, 17, 18, 19, 20, 21, 22, 23, 24, 25, 26]) (rest := []) (cs1 := (W_Surv hu hv hh hr hc)) (cs2 := (W_Surv v8.2 hv hh hr hc)) (st' := [.int v8.1]) (cs' := (W_Surv v8.2 hv hh hr hc)) (q := (96, .null, 0, 0, 0)) lk_Surv_157 (r_Surv_callAt N hu hv hh hr hc x5 x4 v8 e9) rfl rfl rfl rfl rfl (Or.inl ⟨8, _, _, rfl, rfl, rfl⟩) rfl rfl (sc_Surv_Surv_0 hu hv hh hr hc) rfl rfl (pc_Surv_Surv_0 hu hv hh hr hc v8.2 hv hh hr hc) ?_
      refine sv_Q.s (σ' := (85, [some (.ref 0), none, none, none, some (.int v8.1), some (.int (x5 + (1 : Int32))), none], [], (W_Surv v8.2 hv hh hr hc))) 3 rfl ?_
      exact ih v8.1 (x5 + (1 : Int32)) v8.2 hv hh hr hc
def F_Surv_sailStack (N : Nat) (a1 : Int32) (hu hh hc : Nat → Nat → Int32) : Option ((Nat → Nat → Int32)) := (sv_let (if (F_Hull_isDeck a1 hh) = 0 then (0 : Int32) else (1 : Int32)) fun (v2 : Int32) => (Option.bind (L_Surv_sailStack_30 N N a1 (F_Hull_tiersOf v2 hh) (0 : Int32) (0 : Int32) hu hc) fun (v6 : Int32 × (Nat → Nat → Int32)) => (Option.bind (L_Surv_sailStack_85 N N v6.1 (1 : Int32) v6.2) fun (v10 : (Nat → Nat → Int32)) => (some v10))))
theorem r_Surv_sailStack {X : Nat × (Nat → Int32)} (N : Nat) (hu hv hh hr hc : Nat → Nat → Int32) (a1 : Int32) : ∀ x, (F_Surv_sailStack N a1 hu hh hc) = some x → sv_R X 3 M_Surv_sailStack [.ref 0, .ref 5, .int a1] (W_Surv hu hv hh hr hc) none (W_Surv x hv hh hr hc) := by
  refine sv_Q.R (res := (fun (x : (Nat → Nat → Int32)) => ((none : Option Value), (W_Surv x hv hh hr hc)))) g_Surv_sailStack rfl ?_
  unfold F_Surv_sailStack
  refine sv_Q.s (σ' := (9, [some (.ref 0), some (.ref 5), some (.int a1), none, none, none, none], [.int a1, .ref 7, .ref 7], (W_Surv hu hv hh hr hc))) 5 rfl ?_
  refine sv_Q.V (b := 0) (av := [.int a1]) (ps := [7, 8, 9, 10, 11, 12]) (rest := [.ref 7]) (cs1 := (W_Hull hh)) (cs2 := (W_Hull hh)) (st' := [.int (F_Hull_isDeck a1 hh), .ref 7]) (cs' := (W_Surv hu hv hh hr hc)) (q := (9, .null, 0, 0, 0)) lk_Surv_151 (t_Hull_isDeck hh a1) rfl rfl rfl rfl rfl (Or.inl ⟨2, _, _, rfl, rfl, rfl⟩) rfl rfl (sc_Surv_Hull_2 hu hv hh hr hc) rfl rfl (pc_Surv_Hull_2 hu hv hh hr hc hh) ?_
  refine sv_Q.l (fun v2 => (20, [some (.ref 0), some (.ref 5), some (.int a1), none, none, none, none], [.int v2, .ref 7], (W_Surv hu hv hh hr hc))) (fun v2 => ?_) ?_
  · refine sv_Q.V (b := 0) (av := [.int v2]) (ps := [7, 8, 9, 10, 11, 12]) (rest := []) (cs1 := (W_Hull hh)) (cs2 := (W_Hull hh)) (st' := [.int (F_Hull_tiersOf v2 hh)]) (cs' := (W_Surv hu hv hh hr hc)) (q := (20, .null, 0, 0, 0)) lk_Surv_154 (t_Hull_tiersOf hh v2) rfl rfl rfl rfl rfl (Or.inl ⟨2, _, _, rfl, rfl, rfl⟩) rfl rfl (sc_Surv_Hull_2 hu hv hh hr hc) rfl rfl (pc_Surv_Hull_2 hu hv hh hr hc hh) ?_
    refine sv_Q.s (σ' := (30, [some (.ref 0), some (.ref 5), some (.int a1), some (.int (F_Hull_tiersOf v2 hh)), some (.int (0 : Int32)), some (.int (0 : Int32)), none], [], (W_Surv hu hv hh hr hc))) 5 rfl ?_
    refine sv_Q.lo (fun v6 => (82, [some (.ref 0), none, none, none, some (.int v6.1), none, none], [], (W_Surv v6.2 hv hh hr hc))) (fun v6 => ?_) (l_Surv_sailStack_30 N N a1 (F_Hull_tiersOf v2 hh) (0 : Int32) (0 : Int32) hu hv hh hr hc)
    · refine sv_Q.s (σ' := (85, [some (.ref 0), none, none, none, some (.int v6.1), some (.int (1 : Int32)), none], [], (W_Surv v6.2 hv hh hr hc))) 2 rfl ?_
      refine sv_Q.lo (fun v10 => (107, [none, none, none, none, none, none, none], [], (W_Surv v10 hv hh hr hc))) (fun v10 => ?_) (l_Surv_sailStack_85 N N v6.1 (1 : Int32) v6.2 hv hh hr hc)
      · exact sv_Q.z ⟨True, rfl, trivial, rfl⟩
  · refine sv_Q.sb rfl (fun c1 => ?_) (fun c1 => ?_)
    · refine sv_Q.s (σ' := (20, [some (.ref 0), some (.ref 5), some (.int a1), none, none, none, none], [.int (0 : Int32), .ref 7], (W_Surv hu hv hh hr hc))) 1 rfl ?_
      exact sv_Q.z rfl
    · refine sv_Q.s (σ' := (20, [some (.ref 0), some (.ref 5), some (.int a1), none, none, none, none], [.int (1 : Int32), .ref 7], (W_Surv hu hv hh hr hc))) 2 rfl ?_
      exact sv_Q.z rfl
def L_Surv_sail_10 (N : Nat) : Nat → Int32 → (Nat → Nat → Int32) → (Nat → Nat → Int32) → (Nat → Nat → Int32) → Option ((Nat → Nat → Int32))
  | 0, _, _, _, _ => none
  | n + 1, x2, hu, hh, hc => (if (hh 0 4) ≤ x2 then (some hu) else (if (F_Hull_isLowest x2 hh) = 0 then (L_Surv_sail_10 N n (x2 + (1 : Int32)) hu hh hc) else (Option.bind (F_Surv_sailStack N x2 hu hh hc) fun (v4 : (Nat → Nat → Int32)) => (L_Surv_sail_10 N n (x2 + (1 : Int32)) v4 hh hc))))
theorem l_Surv_sail_10 {X : Nat × (Nat → Int32)} (N : Nat) : ∀ (n : Nat) (x2 : Int32) (hu hv hh hr hc : Nat → Nat → Int32), sv_Q X 3 M_Surv_sail (10, [some (.ref 0), some (.ref 5), some (.int x2)], [], (W_Surv hu hv hh hr hc)) (L_Surv_sail_10 N n x2 hu hh hc) (fun v σ' => σ' = (44, [none, none, none], [], (W_Surv v hv hh hr hc))) := by
  intro n
  induction n with
  | zero => intro x2 hu hv hh hr hc; unfold L_Surv_sail_10; exact sv_Q.non
  | succ n ih =>
    intro x2 hu hv hh hr hc
    unfold L_Surv_sail_10
    refine sv_Q.s (σ' := (18, [some (.ref 0), some (.ref 5), some (.int x2)], [.int (hh 0 4), .int x2], (W_Surv hu hv hh hr hc))) 4 rfl ?_
    refine sv_Q.b rfl (fun c2 => ?_) (fun c2 => ?_)
    · refine sv_Q.f (lo' := [none, none, none]) trivial ?_
      exact sv_Q.z rfl
    · refine sv_Q.s (σ' := (26, [some (.ref 0), some (.ref 5), some (.int x2)], [.int x2, .ref 7], (W_Surv hu hv hh hr hc))) 3 rfl ?_
      refine sv_Q.V (b := 0) (av := [.int x2]) (ps := [7, 8, 9, 10, 11, 12]) (rest := []) (cs1 := (W_Hull hh)) (cs2 := (W_Hull hh)) (st' := [.int (F_Hull_isLowest x2 hh)]) (cs' := (W_Surv hu hv hh hr hc)) (q := (26, .null, 0, 0, 0)) lk_Surv_100 (t_Hull_isLowest hh x2) rfl rfl rfl rfl rfl (Or.inl ⟨2, _, _, rfl, rfl, rfl⟩) rfl rfl (sc_Surv_Hull_2 hu hv hh hr hc) rfl rfl (pc_Surv_Hull_2 hu hv hh hr hc hh) ?_
      refine sv_Q.b rfl (fun c3 => ?_) (fun c3 => ?_)
      · refine sv_Q.s (σ' := (10, [some (.ref 0), some (.ref 5), some (.int (x2 + (1 : Int32)))], [], (W_Surv hu hv hh hr hc))) 2 rfl ?_
        exact ih (x2 + (1 : Int32)) hu hv hh hr hc
      · refine sv_Q.s (σ' := (35, [some (.ref 0), some (.ref 5), some (.int x2)], [.int x2, .ref 5, .ref 0], (W_Surv hu hv hh hr hc))) 3 rfl ?_
        refine sv_Q.o (fun v4 e5 => ?_)
        refine sv_Q.V (b := 0) (av := [.ref 5, .int x2]) (ps := [0, 1, 2, 3, 4, 5, 6, 7, 8, 9, 10, 11, 12, 13, 14, 15, 16, 17, 18, 19, 20, 21, 22, 23, 24, 25, 26]) (rest := []) (cs1 := (W_Surv hu hv hh hr hc)) (cs2 := (W_Surv v4 hv hh hr hc)) (st' := []) (cs' := (W_Surv v4 hv hh hr hc)) (q := (35, .null, 0, 0, 0)) lk_Surv_147 (r_Surv_sailStack N hu hv hh hr hc x2 v4 e5) rfl rfl rfl rfl rfl (Or.inl ⟨8, _, _, rfl, rfl, rfl⟩) rfl rfl (sc_Surv_Surv_0 hu hv hh hr hc) rfl rfl (pc_Surv_Surv_0 hu hv hh hr hc v4 hv hh hr hc) ?_
        refine sv_Q.s (σ' := (10, [some (.ref 0), some (.ref 5), some (.int (x2 + (1 : Int32)))], [], (W_Surv v4 hv hh hr hc))) 2 rfl ?_
        exact ih (x2 + (1 : Int32)) v4 hv hh hr hc
def F_Surv_sail (N : Nat) (hu hh hc : Nat → Nat → Int32) : Option ((Nat → Nat → Int32)) := (sv_let (sf hu 4 6 (0 : Int32)) fun (hu_1 : Nat → Nat → Int32) => (Option.bind (L_Surv_sail_10 N N (0 : Int32) hu_1 hh hc) fun (v6 : (Nat → Nat → Int32)) => (some v6)))
theorem r_Surv_sail {X : Nat × (Nat → Int32)} (N : Nat) (hu hv hh hr hc : Nat → Nat → Int32) : ∀ x, (F_Surv_sail N hu hh hc) = some x → sv_R X 4 M_Surv_sail [.ref 0, .ref 5] (W_Surv hu hv hh hr hc) none (W_Surv x hv hh hr hc) := by
  refine sv_Q.R (res := (fun (x : (Nat → Nat → Int32)) => ((none : Option Value), (W_Surv x hv hh hr hc)))) g_Surv_sail rfl ?_
  unfold F_Surv_sail
  refine sv_Q.s (σ' := (5, [some (.ref 0), some (.ref 5), none], [.int (0 : Int32), .ref 4], (W_Surv hu hv hh hr hc))) 3 rfl ?_
  refine sv_Q.S (ps := [4]) (rest := []) (st' := []) (cs' := (W_Surv (sf hu 4 6 (0 : Int32)) hv hh hr hc)) (q := (5, .null, 0, 0, 0)) lk_Surv_103 (t_Arr_fill 6 (Nat.le_of_ble_eq_true rfl) (hu 4) (0 : Int32)) rfl rfl rfl rfl rfl rfl rfl (su_Surv_4 hu hv hh hr hc) rfl rfl (pa_Surv_4 hu hv hh hr hc (sv_fl 6 (hu 4) (0 : Int32))) ?_
  refine sv_Q.go (fun hu_1 => (8, [some (.ref 0), some (.ref 5), none], [], (W_Surv hu_1 hv hh hr hc))) (fun hu_1 => ?_)
  refine sv_Q.s (σ' := (10, [some (.ref 0), some (.ref 5), some (.int (0 : Int32))], [], (W_Surv hu_1 hv hh hr hc))) 2 rfl ?_
  refine sv_Q.lo (fun v6 => (44, [none, none, none], [], (W_Surv v6 hv hh hr hc))) (fun v6 => ?_) (l_Surv_sail_10 N N (0 : Int32) hu_1 hv hh hr hc)
  · exact sv_Q.z ⟨True, rfl, trivial, rfl⟩
def L_Surv_countBack_4 (N : Nat) : Nat → Int32 → Int32 → (Nat → Nat → Int32) → Option (Int32)
  | 0, _, _, _ => none
  | n + 1, x1, x2, hu => (if (5 : Int32) < x2 then (some x1) else (L_Surv_countBack_4 N n (x1 + (rd 6 (hu 4) x2)) (x2 + (1 : Int32)) hu))
theorem l_Surv_countBack_4 {X : Nat × (Nat → Int32)} (N : Nat) : ∀ (n : Nat) (x1 : Int32) (x2 : Int32) (hu hv hh hr hc : Nat → Nat → Int32), sv_Q X 1 M_Surv_countBack (4, [some (.ref 0), some (.int x1), some (.int x2)], [], (W_Surv hu hv hh hr hc)) (L_Surv_countBack_4 N n x1 x2 hu) (fun v σ' => σ' = (26, [none, some (.int v), none], [], (W_Surv hu hv hh hr hc))) := by
  intro n
  induction n with
  | zero => intro x1 x2 hu hv hh hr hc; unfold L_Surv_countBack_4; exact sv_Q.non
  | succ n ih =>
    intro x1 x2 hu hv hh hr hc
    unfold L_Surv_countBack_4
    refine sv_Q.s (σ' := (6, [some (.ref 0), some (.int x1), some (.int x2)], [.int (5 : Int32), .int x2], (W_Surv hu hv hh hr hc))) 2 rfl ?_
    refine sv_Q.b rfl (fun c1 => ?_) (fun c1 => ?_)
    · refine sv_Q.f (lo' := [none, some (.int x1), none]) ⟨rfl, trivial⟩ ?_
      exact sv_Q.z rfl
    · refine sv_Q.s (σ' := (15, [some (.ref 0), some (.int x1), some (.int x2)], [.int x2, .ref 4, .int x1], (W_Surv hu hv hh hr hc))) 4 rfl ?_
      refine sv_Q.S (ps := [4]) (rest := [.int x1]) (st' := [.int (rd 6 (hu 4) x2), .int x1]) (cs' := (W_Surv hu hv hh hr hc)) (q := (15, .null, 0, 0, 0)) lk_Surv_113 (t_K_read 6 rfl (hu 4) x2) rfl rfl rfl rfl rfl rfl rfl (su_Surv_4 hu hv hh hr hc) rfl rfl (pu_Surv_4 hu hv hh hr hc) ?_
      refine sv_Q.s (σ' := (4, [some (.ref 0), some (.int (x1 + (rd 6 (hu 4) x2))), some (.int (x2 + (1 : Int32)))], [], (W_Surv hu hv hh hr hc))) 4 rfl ?_
      exact ih (x1 + (rd 6 (hu 4) x2)) (x2 + (1 : Int32)) hu hv hh hr hc
def F_Surv_countBack (N : Nat) (hu : Nat → Nat → Int32) : Option (Int32) := (Option.bind (L_Surv_countBack_4 N N (0 : Int32) (1 : Int32) hu) fun (v2 : Int32) => (some v2))
theorem r_Surv_countBack {X : Nat × (Nat → Int32)} (N : Nat) (hu hv hh hr hc : Nat → Nat → Int32) : ∀ x, (F_Surv_countBack N hu) = some x → sv_R X 2 M_Surv_countBack [.ref 0] (W_Surv hu hv hh hr hc) (some (.int x)) (W_Surv hu hv hh hr hc) := by
  refine sv_Q.R (res := (fun (x : Int32) => (some (.int x), (W_Surv hu hv hh hr hc)))) g_Surv_countBack rfl ?_
  unfold F_Surv_countBack
  refine sv_Q.s (σ' := (4, [some (.ref 0), some (.int (0 : Int32)), some (.int (1 : Int32))], [], (W_Surv hu hv hh hr hc))) 4 rfl ?_
  refine sv_Q.lo (fun v2 => (26, [none, some (.int v2), none], [], (W_Surv hu hv hh hr hc))) (fun v2 => ?_) (l_Surv_countBack_4 N N (0 : Int32) (1 : Int32) hu hv hh hr hc)
  · refine sv_Q.s (σ' := (27, [none, some (.int v2), none], [.int v2], (W_Surv hu hv hh hr hc))) 1 rfl ?_
    exact sv_Q.z ⟨True, rfl, trivial, rfl⟩
def L_Surv_busiestPort_6 (N : Nat) : Nat → Int32 → Int32 → Int32 → (Nat → Nat → Int32) → Option (Int32)
  | 0, _, _, _, _ => none
  | n + 1, x1, x2, x3, hu => (if (5 : Int32) < x3 then (some x1) else (if (rd 6 (hu 4) x3) ≤ x2 then (L_Surv_busiestPort_6 N n x1 x2 (x3 + (1 : Int32)) hu) else (L_Surv_busiestPort_6 N n x3 (rd 6 (hu 4) x3) (x3 + (1 : Int32)) hu)))
theorem l_Surv_busiestPort_6 {X : Nat × (Nat → Int32)} (N : Nat) : ∀ (n : Nat) (x1 : Int32) (x2 : Int32) (x3 : Int32) (hu hv hh hr hc : Nat → Nat → Int32), sv_Q X 1 M_Surv_busiestPort (6, [some (.ref 0), some (.int x1), some (.int x2), some (.int x3)], [], (W_Surv hu hv hh hr hc)) (L_Surv_busiestPort_6 N n x1 x2 x3 hu) (fun v σ' => σ' = (40, [none, some (.int v), none, none], [], (W_Surv hu hv hh hr hc))) := by
  intro n
  induction n with
  | zero => intro x1 x2 x3 hu hv hh hr hc; unfold L_Surv_busiestPort_6; exact sv_Q.non
  | succ n ih =>
    intro x1 x2 x3 hu hv hh hr hc
    unfold L_Surv_busiestPort_6
    refine sv_Q.s (σ' := (8, [some (.ref 0), some (.int x1), some (.int x2), some (.int x3)], [.int (5 : Int32), .int x3], (W_Surv hu hv hh hr hc))) 2 rfl ?_
    refine sv_Q.b rfl (fun c1 => ?_) (fun c1 => ?_)
    · refine sv_Q.f (lo' := [none, some (.int x1), none, none]) ⟨rfl, trivial⟩ ?_
      exact sv_Q.z rfl
    · refine sv_Q.s (σ' := (16, [some (.ref 0), some (.int x1), some (.int x2), some (.int x3)], [.int x3, .ref 4], (W_Surv hu hv hh hr hc))) 3 rfl ?_
      refine sv_Q.S (ps := [4]) (rest := []) (st' := [.int (rd 6 (hu 4) x3)]) (cs' := (W_Surv hu hv hh hr hc)) (q := (16, .null, 0, 0, 0)) lk_Surv_113 (t_K_read 6 rfl (hu 4) x3) rfl rfl rfl rfl rfl rfl rfl (su_Surv_4 hu hv hh hr hc) rfl rfl (pu_Surv_4 hu hv hh hr hc) ?_
      refine sv_Q.s (σ' := (20, [some (.ref 0), some (.int x1), some (.int x2), some (.int x3)], [.int x2, .int (rd 6 (hu 4) x3)], (W_Surv hu hv hh hr hc))) 1 rfl ?_
      refine sv_Q.b rfl (fun c2 => ?_) (fun c2 => ?_)
      · refine sv_Q.s (σ' := (6, [some (.ref 0), some (.int x1), some (.int x2), some (.int (x3 + (1 : Int32)))], [], (W_Surv hu hv hh hr hc))) 2 rfl ?_
        exact ih x1 x2 (x3 + (1 : Int32)) hu hv hh hr hc
      · refine sv_Q.s (σ' := (28, [some (.ref 0), some (.int x1), some (.int x2), some (.int x3)], [.int x3, .ref 4], (W_Surv hu hv hh hr hc))) 3 rfl ?_
        refine sv_Q.S (ps := [4]) (rest := []) (st' := [.int (rd 6 (hu 4) x3)]) (cs' := (W_Surv hu hv hh hr hc)) (q := (28, .null, 0, 0, 0)) lk_Surv_113 (t_K_read 6 rfl (hu 4) x3) rfl rfl rfl rfl rfl rfl rfl (su_Surv_4 hu hv hh hr hc) rfl rfl (pu_Surv_4 hu hv hh hr hc) ?_
        refine sv_Q.s (σ' := (6, [some (.ref 0), some (.int x3), some (.int (rd 6 (hu 4) x3)), some (.int (x3 + (1 : Int32)))], [], (W_Surv hu hv hh hr hc))) 5 rfl ?_
        exact ih x3 (rd 6 (hu 4) x3) (x3 + (1 : Int32)) hu hv hh hr hc
def F_Surv_busiestPort (N : Nat) (hu : Nat → Nat → Int32) : Option (Int32) := (Option.bind (L_Surv_busiestPort_6 N N (-1 : Int32) (0 : Int32) (1 : Int32) hu) fun (v3 : Int32) => (some v3))
theorem r_Surv_busiestPort {X : Nat × (Nat → Int32)} (N : Nat) (hu hv hh hr hc : Nat → Nat → Int32) : ∀ x, (F_Surv_busiestPort N hu) = some x → sv_R X 2 M_Surv_busiestPort [.ref 0] (W_Surv hu hv hh hr hc) (some (.int x)) (W_Surv hu hv hh hr hc) := by
  refine sv_Q.R (res := (fun (x : Int32) => (some (.int x), (W_Surv hu hv hh hr hc)))) g_Surv_busiestPort rfl ?_
  unfold F_Surv_busiestPort
  refine sv_Q.s (σ' := (6, [some (.ref 0), some (.int (-1 : Int32)), some (.int (0 : Int32)), some (.int (1 : Int32))], [], (W_Surv hu hv hh hr hc))) 6 rfl ?_
  refine sv_Q.lo (fun v3 => (40, [none, some (.int v3), none, none], [], (W_Surv hu hv hh hr hc))) (fun v3 => ?_) (l_Surv_busiestPort_6 N N (-1 : Int32) (0 : Int32) (1 : Int32) hu hv hh hr hc)
  · refine sv_Q.s (σ' := (41, [none, some (.int v3), none, none], [.int v3], (W_Surv hu hv hh hr hc))) 1 rfl ?_
    exact sv_Q.z ⟨True, rfl, trivial, rfl⟩
def F_Surv_leanExchanged (N : Nat) (a1 : Int32) (a2 : Int32) (a3 : Int64) (hh hr hc : Nat → Nat → Int32) : Option (Int64 × (Nat → Nat → Int32)) := (if (F_Ves_canLift a1 hh hc) = 0 then (some (a3, hc)) else (if ¬ (F_Ves_canLift a2 hh hc) = 0 then (Option.bind (F_Ves_exchange N a1 a2 hh hr hc) fun (v3 : Int32 × (Nat → Nat → Int32)) => (if v3.1 = 0 then (Option.bind (F_Surv_moment N (0 : Int32) hh v3.2) fun (v6 : Int64) => (sv_let (F_Cargo_move a1 (-1 : Int32) v3.2) fun (hc_8 : Nat → Nat → Int32) => (sv_let (F_Cargo_move a2 (F_Cargo_placeOf a2 hc) hc_8) fun (hc_9 : Nat → Nat → Int32) => (sv_let (F_Cargo_move a1 (F_Cargo_placeOf a1 hc) hc_9) fun (hc_10 : Nat → Nat → Int32) => (some ((if 0 < v6 then v6 else -v6), hc_10)))))) else (some (a3, v3.2)))) else (some (a3, hc))))
theorem r_Surv_leanExchanged {X : Nat × (Nat → Int32)} (N : Nat) (hu hv hh hr hc : Nat → Nat → Int32) (a1 : Int32) (a2 : Int32) (a3 : Int64) : ∀ x, (F_Surv_leanExchanged N a1 a2 a3 hh hr hc) = some x → sv_R X 6 M_Surv_leanExchanged [.ref 0, .ref 5, .int a1, .int a2, .long a3] (W_Surv hu hv hh hr hc) (some (.long x.1)) (W_Surv hu hv hh hr x.2) := by
  refine sv_Q.R (res := (fun (x : Int64 × (Nat → Nat → Int32)) => (some (.long x.1), (W_Surv hu hv hh hr x.2)))) g_Surv_leanExchanged rfl ?_
  unfold F_Surv_leanExchanged
  refine sv_Q.s (σ' := (2, [some (.ref 0), some (.ref 5), some (.int a1), some (.int a2), some (.long a3), none, none, none, none, none], [.int a1, .ref 5], (W_Surv hu hv hh hr hc))) 2 rfl ?_
  refine sv_Q.V (b := 0) (av := [.int a1]) (ps := [5, 6, 7, 8, 9, 10, 11, 12, 13, 14, 15, 16, 17, 18, 19, 20, 21, 22, 23, 24, 25, 26]) (rest := []) (cs1 := (W_Ves hv hh hr hc)) (cs2 := (W_Ves hv hh hr hc)) (st' := [.int (F_Ves_canLift a1 hh hc)]) (cs' := (W_Surv hu hv hh hr hc)) (q := (2, .null, 0, 0, 0)) lk_Surv_172 (t_Ves_canLift hv hh hr hc a1) rfl rfl rfl rfl rfl (Or.inl ⟨10, _, _, rfl, rfl, rfl⟩) rfl rfl (sc_Surv_Ves_1 hu hv hh hr hc) rfl rfl (pc_Surv_Ves_1 hu hv hh hr hc hv hh hr hc) ?_
  refine sv_Q.b rfl (fun c1 => ?_) (fun c1 => ?_)
  · refine sv_Q.s (σ' := (18, [some (.ref 0), some (.ref 5), some (.int a1), some (.int a2), some (.long a3), none, none, none, none, none], [.long a3], (W_Surv hu hv hh hr hc))) 1 rfl ?_
    exact sv_Q.z ⟨True, rfl, trivial, rfl⟩
  · refine sv_Q.s (σ' := (10, [some (.ref 0), some (.ref 5), some (.int a1), some (.int a2), some (.long a3), none, none, none, none, none], [.int a2, .ref 5], (W_Surv hu hv hh hr hc))) 2 rfl ?_
    refine sv_Q.V (b := 0) (av := [.int a2]) (ps := [5, 6, 7, 8, 9, 10, 11, 12, 13, 14, 15, 16, 17, 18, 19, 20, 21, 22, 23, 24, 25, 26]) (rest := []) (cs1 := (W_Ves hv hh hr hc)) (cs2 := (W_Ves hv hh hr hc)) (st' := [.int (F_Ves_canLift a2 hh hc)]) (cs' := (W_Surv hu hv hh hr hc)) (q := (10, .null, 0, 0, 0)) lk_Surv_172 (t_Ves_canLift hv hh hr hc a2) rfl rfl rfl rfl rfl (Or.inl ⟨10, _, _, rfl, rfl, rfl⟩) rfl rfl (sc_Surv_Ves_1 hu hv hh hr hc) rfl rfl (pc_Surv_Ves_1 hu hv hh hr hc hv hh hr hc) ?_
    refine sv_Q.b rfl (fun c2 => ?_) (fun c2 => ?_)
    · refine sv_Q.s (σ' := (24, [some (.ref 0), some (.ref 5), some (.int a1), some (.int a2), some (.long a3), none, none, none, none, none], [.int a1, .ref 21], (W_Surv hu hv hh hr hc))) 3 rfl ?_
      refine sv_Q.V (b := 0) (av := [.int a1]) (ps := [21, 22, 23, 24, 25, 26]) (rest := []) (cs1 := (W_Cargo hc)) (cs2 := (W_Cargo hc)) (st' := [.int (F_Cargo_placeOf a1 hc)]) (cs' := (W_Surv hu hv hh hr hc)) (q := (24, .null, 0, 0, 0)) lk_Surv_48 (t_Cargo_placeOf hc a1) rfl rfl rfl rfl rfl (Or.inl ⟨0, _, _, rfl, rfl, rfl⟩) rfl rfl (sc_Surv_Cargo_4 hu hv hh hr hc) rfl rfl (pc_Surv_Cargo_4 hu hv hh hr hc hc) ?_
      refine sv_Q.s (σ' := (34, [some (.ref 0), some (.ref 5), some (.int a1), some (.int a2), some (.long a3), none, some (.int (F_Cargo_placeOf a1 hc)), none, none, none], [.int a2, .ref 21], (W_Surv hu hv hh hr hc))) 4 rfl ?_
      refine sv_Q.V (b := 0) (av := [.int a2]) (ps := [21, 22, 23, 24, 25, 26]) (rest := []) (cs1 := (W_Cargo hc)) (cs2 := (W_Cargo hc)) (st' := [.int (F_Cargo_placeOf a2 hc)]) (cs' := (W_Surv hu hv hh hr hc)) (q := (34, .null, 0, 0, 0)) lk_Surv_48 (t_Cargo_placeOf hc a2) rfl rfl rfl rfl rfl (Or.inl ⟨0, _, _, rfl, rfl, rfl⟩) rfl rfl (sc_Surv_Cargo_4 hu hv hh hr hc) rfl rfl (pc_Surv_Cargo_4 hu hv hh hr hc hc) ?_
      refine sv_Q.s (σ' := (42, [some (.ref 0), some (.ref 5), some (.int a1), some (.int a2), some (.long a3), none, some (.int (F_Cargo_placeOf a1 hc)), some (.int (F_Cargo_placeOf a2 hc)), none, none], [.int a2, .int a1, .ref 5], (W_Surv hu hv hh hr hc))) 4 rfl ?_
      refine sv_Q.o (fun v3 e4 => ?_)
      refine sv_Q.V (b := 0) (av := [.int a1, .int a2]) (ps := [5, 6, 7, 8, 9, 10, 11, 12, 13, 14, 15, 16, 17, 18, 19, 20, 21, 22, 23, 24, 25, 26]) (rest := []) (cs1 := (W_Ves hv hh hr hc)) (cs2 := (W_Ves hv hh hr v3.2)) (st' := [.int v3.1]) (cs' := (W_Surv hu hv hh hr v3.2)) (q := (42, .null, 0, 0, 0)) lk_Surv_175 (r_Ves_exchange N hv hh hr hc a1 a2 v3 e4) rfl rfl rfl rfl rfl (Or.inl ⟨10, _, _, rfl, rfl, rfl⟩) rfl rfl (sc_Surv_Ves_1 hu hv hh hr hc) rfl rfl (pc_Surv_Ves_1 hu hv hh hr hc hv hh hr v3.2) ?_
      refine sv_Q.b rfl (fun c5 => ?_) (fun c5 => ?_)
      · refine sv_Q.s (σ' := (54, [some (.ref 0), some (.ref 5), some (.int a1), some (.int a2), some (.long a3), none, some (.int (F_Cargo_placeOf a1 hc)), some (.int (F_Cargo_placeOf a2 hc)), none, none], [.int (0 : Int32), .ref 5, .ref 0], (W_Surv hu hv hh hr v3.2))) 3 rfl ?_
        refine sv_Q.o (fun v6 e7 => ?_)
        refine sv_Q.V (b := 0) (av := [.ref 5, .int (0 : Int32)]) (ps := [0, 1, 2, 3, 4, 5, 6, 7, 8, 9, 10, 11, 12, 13, 14, 15, 16, 17, 18, 19, 20, 21, 22, 23, 24, 25, 26]) (rest := []) (cs1 := (W_Surv hu hv hh hr v3.2)) (cs2 := (W_Surv hu hv hh hr v3.2)) (st' := [.long v6]) (cs' := (W_Surv hu hv hh hr v3.2)) (q := (54, .null, 0, 0, 0)) lk_Surv_160 (r_Surv_moment N hu hv hh hr v3.2 (0 : Int32) v6 e7) rfl rfl rfl rfl rfl (Or.inl ⟨8, _, _, rfl, rfl, rfl⟩) rfl rfl (sc_Surv_Surv_0 hu hv hh hr v3.2) rfl rfl (pc_Surv_Surv_0 hu hv hh hr v3.2 hu hv hh hr v3.2) ?_
        refine sv_Q.s (σ' := (68, [some (.ref 0), some (.ref 5), some (.int a1), some (.int a2), some (.long a3), none, some (.int (F_Cargo_placeOf a1 hc)), some (.int (F_Cargo_placeOf a2 hc)), some (.long (if 0 < v6 then v6 else -v6)), none], [.int (-1 : Int32), .int a1, .ref 21], (W_Surv hu hv hh hr v3.2))) 6 rfl ?_
        refine sv_Q.V (b := 0) (av := [.int a1, .int (-1 : Int32)]) (ps := [21, 22, 23, 24, 25, 26]) (rest := []) (cs1 := (W_Cargo v3.2)) (cs2 := (W_Cargo (F_Cargo_move a1 (-1 : Int32) v3.2))) (st' := []) (cs' := (W_Surv hu hv hh hr (F_Cargo_move a1 (-1 : Int32) v3.2))) (q := (68, .null, 0, 0, 0)) lk_Surv_178 (t_Cargo_move v3.2 a1 (-1 : Int32)) rfl rfl rfl rfl rfl (Or.inl ⟨0, _, _, rfl, rfl, rfl⟩) rfl rfl (sc_Surv_Cargo_4 hu hv hh hr v3.2) rfl rfl (pc_Surv_Cargo_4 hu hv hh hr v3.2 (F_Cargo_move a1 (-1 : Int32) v3.2)) ?_
        refine sv_Q.go (fun hc_8 => (71, [some (.ref 0), some (.ref 5), some (.int a1), some (.int a2), some (.long a3), none, some (.int (F_Cargo_placeOf a1 hc)), some (.int (F_Cargo_placeOf a2 hc)), some (.long (if 0 < v6 then v6 else -v6)), none], [], (W_Surv hu hv hh hr hc_8))) (fun hc_8 => ?_)
        refine sv_Q.s (σ' := (78, [some (.ref 0), some (.ref 5), some (.int a1), some (.int a2), some (.long a3), none, some (.int (F_Cargo_placeOf a1 hc)), some (.int (F_Cargo_placeOf a2 hc)), some (.long (if 0 < v6 then v6 else -v6)), none], [.int (F_Cargo_placeOf a2 hc), .int a2, .ref 21], (W_Surv hu hv hh hr hc_8))) 4 rfl ?_
        refine sv_Q.V (b := 0) (av := [.int a2, .int (F_Cargo_placeOf a2 hc)]) (ps := [21, 22, 23, 24, 25, 26]) (rest := []) (cs1 := (W_Cargo hc_8)) (cs2 := (W_Cargo (F_Cargo_move a2 (F_Cargo_placeOf a2 hc) hc_8))) (st' := []) (cs' := (W_Surv hu hv hh hr (F_Cargo_move a2 (F_Cargo_placeOf a2 hc) hc_8))) (q := (78, .null, 0, 0, 0)) lk_Surv_178 (t_Cargo_move hc_8 a2 (F_Cargo_placeOf a2 hc)) rfl rfl rfl rfl rfl (Or.inl ⟨0, _, _, rfl, rfl, rfl⟩) rfl rfl (sc_Surv_Cargo_4 hu hv hh hr hc_8) rfl rfl (pc_Surv_Cargo_4 hu hv hh hr hc_8 (F_Cargo_move a2 (F_Cargo_placeOf a2 hc) hc_8)) ?_
        refine sv_Q.go (fun hc_9 => (81, [some (.ref 0), some (.ref 5), some (.int a1), some (.int a2), some (.long a3), none, some (.int (F_Cargo_placeOf a1 hc)), some (.int (F_Cargo_placeOf a2 hc)), some (.long (if 0 < v6 then v6 else -v6)), none], [], (W_Surv hu hv hh hr hc_9))) (fun hc_9 => ?_)
        refine sv_Q.s (σ' := (88, [some (.ref 0), some (.ref 5), some (.int a1), some (.int a2), some (.long a3), none, some (.int (F_Cargo_placeOf a1 hc)), some (.int (F_Cargo_placeOf a2 hc)), some (.long (if 0 < v6 then v6 else -v6)), none], [.int (F_Cargo_placeOf a1 hc), .int a1, .ref 21], (W_Surv hu hv hh hr hc_9))) 4 rfl ?_
        refine sv_Q.V (b := 0) (av := [.int a1, .int (F_Cargo_placeOf a1 hc)]) (ps := [21, 22, 23, 24, 25, 26]) (rest := []) (cs1 := (W_Cargo hc_9)) (cs2 := (W_Cargo (F_Cargo_move a1 (F_Cargo_placeOf a1 hc) hc_9))) (st' := []) (cs' := (W_Surv hu hv hh hr (F_Cargo_move a1 (F_Cargo_placeOf a1 hc) hc_9))) (q := (88, .null, 0, 0, 0)) lk_Surv_178 (t_Cargo_move hc_9 a1 (F_Cargo_placeOf a1 hc)) rfl rfl rfl rfl rfl (Or.inl ⟨0, _, _, rfl, rfl, rfl⟩) rfl rfl (sc_Surv_Cargo_4 hu hv hh hr hc_9) rfl rfl (pc_Surv_Cargo_4 hu hv hh hr hc_9 (F_Cargo_move a1 (F_Cargo_placeOf a1 hc) hc_9)) ?_
        refine sv_Q.go (fun hc_10 => (91, [some (.ref 0), some (.ref 5), some (.int a1), some (.int a2), some (.long a3), none, some (.int (F_Cargo_placeOf a1 hc)), some (.int (F_Cargo_placeOf a2 hc)), some (.long (if 0 < v6 then v6 else -v6)), none], [], (W_Surv hu hv hh hr hc_10))) (fun hc_10 => ?_)
        refine sv_Q.s (σ' := (93, [some (.ref 0), some (.ref 5), some (.int a1), some (.int a2), some (.long a3), none, some (.int (F_Cargo_placeOf a1 hc)), some (.int (F_Cargo_placeOf a2 hc)), some (.long (if 0 < v6 then v6 else -v6)), none], [.long (if 0 < v6 then v6 else -v6)], (W_Surv hu hv hh hr hc_10))) 1 rfl ?_
        exact sv_Q.z ⟨True, rfl, trivial, rfl⟩
      · refine sv_Q.s (σ' := (50, [some (.ref 0), some (.ref 5), some (.int a1), some (.int a2), some (.long a3), none, some (.int (F_Cargo_placeOf a1 hc)), some (.int (F_Cargo_placeOf a2 hc)), none, none], [.long a3], (W_Surv hu hv hh hr v3.2))) 1 rfl ?_
        exact sv_Q.z ⟨True, rfl, trivial, rfl⟩
    · refine sv_Q.s (σ' := (18, [some (.ref 0), some (.ref 5), some (.int a1), some (.int a2), some (.long a3), none, none, none, none, none], [.long a3], (W_Surv hu hv hh hr hc))) 1 rfl ?_
      exact sv_Q.z ⟨True, rfl, trivial, rfl⟩
def L_Surv_steadiestTwo_34 (N : Nat) : Nat → Int64 → Int32 → Int32 → Int32 → (Nat → Nat → Int32) → (Nat → Nat → Int32) → (Nat → Nat → Int32) → Option (Int64 × Int32 × (Nat → Nat → Int32))
  | 0, _, _, _, _, _, _, _ => none
  | n + 1, x2, x4, x5, x6, hh, hr, hc => (if (hc 0 0) ≤ x6 then (some (x2, x4, hc)) else (Option.bind (F_Surv_leanExchanged N x5 x6 x2 hh hr hc) fun (v5 : Int64 × (Nat → Nat → Int32)) => (if 0 ≤ (lg_cmp v5.1 x2) then (L_Surv_steadiestTwo_34 N n x2 x4 x5 (x6 + (1 : Int32)) hh hr v5.2) else (L_Surv_steadiestTwo_34 N n v5.1 (((100 : Int32) * x5) + x6) x5 (x6 + (1 : Int32)) hh hr v5.2))))
theorem l_Surv_steadiestTwo_34 {X : Nat × (Nat → Int32)} (N : Nat) : ∀ (n : Nat) (x2 : Int64) (x4 : Int32) (x5 : Int32) (x6 : Int32) (hu hv hh hr hc : Nat → Nat → Int32), sv_Q X 6 M_Surv_steadiestTwo (34, [some (.ref 0), some (.ref 5), some (.long x2), none, some (.int x4), some (.int x5), some (.int x6), none, none], [], (W_Surv hu hv hh hr hc)) (L_Surv_steadiestTwo_34 N n x2 x4 x5 x6 hh hr hc) (fun v σ' => σ' = (84, [some (.ref 0), some (.ref 5), some (.long v.1), none, some (.int v.2.1), some (.int x5), none, none, none], [], (W_Surv hu hv hh hr v.2.2))) := by
  intro n
  induction n with
  | zero => intro x2 x4 x5 x6 hu hv hh hr hc; unfold L_Surv_steadiestTwo_34; exact sv_Q.non
  | succ n ih =>
    intro x2 x4 x5 x6 hu hv hh hr hc
    unfold L_Surv_steadiestTwo_34
    refine sv_Q.s (σ' := (43, [some (.ref 0), some (.ref 5), some (.long x2), none, some (.int x4), some (.int x5), some (.int x6), none, none], [.int (hc 0 0), .int x6], (W_Surv hu hv hh hr hc))) 4 rfl ?_
    refine sv_Q.b rfl (fun c4 => ?_) (fun c4 => ?_)
    · refine sv_Q.f (lo' := [some (.ref 0), some (.ref 5), some (.long x2), none, some (.int x4), some (.int x5), none, none, none]) ⟨rfl, ⟨rfl, ⟨rfl, ⟨rfl, ⟨rfl, trivial⟩⟩⟩⟩⟩ ?_
      exact sv_Q.z rfl
    · refine sv_Q.s (σ' := (53, [some (.ref 0), some (.ref 5), some (.long x2), none, some (.int x4), some (.int x5), some (.int x6), none, none], [.long x2, .int x6, .int x5, .ref 5, .ref 0], (W_Surv hu hv hh hr hc))) 5 rfl ?_
      refine sv_Q.o (fun v5 e6 => ?_)
      refine sv_Q.V (b := 0) (av := [.ref 5, .int x5, .int x6, .long x2]) (ps := [0, 1, 2, 3, 4, 5, 6, 7, 8, 9, 10, 11, 12, 13, 14, 15, 16, 17, 18, 19, 20, 21, 22, 23, 24, 25, 26]) (rest := []) (cs1 := (W_Surv hu hv hh hr hc)) (cs2 := (W_Surv hu hv hh hr v5.2)) (st' := [.long v5.1]) (cs' := (W_Surv hu hv hh hr v5.2)) (q := (53, .null, 0, 0, 0)) lk_Surv_168 (r_Surv_leanExchanged N hu hv hh hr hc x5 x6 x2 v5 e6) rfl rfl rfl rfl rfl (Or.inl ⟨8, _, _, rfl, rfl, rfl⟩) rfl rfl (sc_Surv_Surv_0 hu hv hh hr hc) rfl rfl (pc_Surv_Surv_0 hu hv hh hr hc hu hv hh hr v5.2) ?_
      refine sv_Q.s (σ' := (62, [some (.ref 0), some (.ref 5), some (.long x2), none, some (.int x4), some (.int x5), some (.int x6), some (.long v5.1), none], [.int (lg_cmp v5.1 x2)], (W_Surv hu hv hh hr v5.2))) 4 rfl ?_
      refine sv_Q.b rfl (fun c7 => ?_) (fun c7 => ?_)
      · refine sv_Q.s (σ' := (34, [some (.ref 0), some (.ref 5), some (.long x2), none, some (.int x4), some (.int x5), some (.int (x6 + (1 : Int32))), some (.long v5.1), none], [], (W_Surv hu hv hh hr v5.2))) 2 rfl ?_
        refine sv_Q.f (lo' := [some (.ref 0), some (.ref 5), some (.long x2), none, some (.int x4), some (.int x5), some (.int (x6 + (1 : Int32))), none, none]) ⟨rfl, ⟨rfl, ⟨rfl, ⟨rfl, ⟨rfl, ⟨rfl, trivial⟩⟩⟩⟩⟩⟩ ?_
        exact ih x2 x4 x5 (x6 + (1 : Int32)) hu hv hh hr v5.2
      · refine sv_Q.s (σ' := (34, [some (.ref 0), some (.ref 5), some (.long v5.1), none, some (.int (((100 : Int32) * x5) + x6)), some (.int x5), some (.int (x6 + (1 : Int32))), some (.long v5.1), none], [], (W_Surv hu hv hh hr v5.2))) 10 rfl ?_
        refine sv_Q.f (lo' := [some (.ref 0), some (.ref 5), some (.long v5.1), none, some (.int (((100 : Int32) * x5) + x6)), some (.int x5), some (.int (x6 + (1 : Int32))), none, none]) ⟨rfl, ⟨rfl, ⟨rfl, ⟨rfl, ⟨rfl, ⟨rfl, trivial⟩⟩⟩⟩⟩⟩ ?_
        exact ih v5.1 (((100 : Int32) * x5) + x6) x5 (x6 + (1 : Int32)) hu hv hh hr v5.2
def L_Surv_steadiestTwo_16 (N : Nat) : Nat → Int64 → Int32 → Int32 → (Nat → Nat → Int32) → (Nat → Nat → Int32) → (Nat → Nat → Int32) → Option (Int32 × (Nat → Nat → Int32))
  | 0, _, _, _, _, _, _ => none
  | n + 1, x2, x4, x5, hh, hr, hc => (if (hc 0 0) ≤ x5 then (some (x4, hc)) else (Option.bind (L_Surv_steadiestTwo_34 N N x2 x4 x5 (x5 + (1 : Int32)) hh hr hc) fun (v8 : Int64 × Int32 × (Nat → Nat → Int32)) => (L_Surv_steadiestTwo_16 N n v8.1 v8.2.1 (x5 + (1 : Int32)) hh hr v8.2.2)))
theorem l_Surv_steadiestTwo_16 {X : Nat × (Nat → Int32)} (N : Nat) : ∀ (n : Nat) (x2 : Int64) (x4 : Int32) (x5 : Int32) (hu hv hh hr hc : Nat → Nat → Int32), sv_Q X 6 M_Surv_steadiestTwo (16, [some (.ref 0), some (.ref 5), some (.long x2), none, some (.int x4), some (.int x5), none, none, none], [], (W_Surv hu hv hh hr hc)) (L_Surv_steadiestTwo_16 N n x2 x4 x5 hh hr hc) (fun v σ' => σ' = (90, [none, none, none, none, some (.int v.1), none, none, none, none], [], (W_Surv hu hv hh hr v.2))) := by
  intro n
  induction n with
  | zero => intro x2 x4 x5 hu hv hh hr hc; unfold L_Surv_steadiestTwo_16; exact sv_Q.non
  | succ n ih =>
    intro x2 x4 x5 hu hv hh hr hc
    unfold L_Surv_steadiestTwo_16
    refine sv_Q.s (σ' := (25, [some (.ref 0), some (.ref 5), some (.long x2), none, some (.int x4), some (.int x5), none, none, none], [.int (hc 0 0), .int x5], (W_Surv hu hv hh hr hc))) 4 rfl ?_
    refine sv_Q.b rfl (fun c3 => ?_) (fun c3 => ?_)
    · refine sv_Q.f (lo' := [none, none, none, none, some (.int x4), none, none, none, none]) ⟨rfl, trivial⟩ ?_
      exact sv_Q.z rfl
    · refine sv_Q.s (σ' := (34, [some (.ref 0), some (.ref 5), some (.long x2), none, some (.int x4), some (.int x5), some (.int (x5 + (1 : Int32))), none, none], [], (W_Surv hu hv hh hr hc))) 4 rfl ?_
      refine sv_Q.lo (fun v8 => (84, [some (.ref 0), some (.ref 5), some (.long v8.1), none, some (.int v8.2.1), some (.int x5), none, none, none], [], (W_Surv hu hv hh hr v8.2.2))) (fun v8 => ?_) (l_Surv_steadiestTwo_34 N N x2 x4 x5 (x5 + (1 : Int32)) hu hv hh hr hc)
      · refine sv_Q.s (σ' := (16, [some (.ref 0), some (.ref 5), some (.long v8.1), none, some (.int v8.2.1), some (.int (x5 + (1 : Int32))), none, none, none], [], (W_Surv hu hv hh hr v8.2.2))) 2 rfl ?_
        exact ih v8.1 v8.2.1 (x5 + (1 : Int32)) hu hv hh hr v8.2.2
def F_Surv_steadiestTwo (N : Nat) (hh hr hc : Nat → Nat → Int32) : Option (Int32 × (Nat → Nat → Int32)) := (Option.bind (F_Surv_moment N (0 : Int32) hh hc) fun (v1 : Int64) => (Option.bind (L_Surv_steadiestTwo_16 N N (if 0 < v1 then v1 else -v1) (-1 : Int32) (0 : Int32) hh hr hc) fun (v9 : Int32 × (Nat → Nat → Int32)) => (some (v9.1, v9.2))))
theorem r_Surv_steadiestTwo {X : Nat × (Nat → Int32)} (N : Nat) (hu hv hh hr hc : Nat → Nat → Int32) : ∀ x, (F_Surv_steadiestTwo N hh hr hc) = some x → sv_R X 7 M_Surv_steadiestTwo [.ref 0, .ref 5] (W_Surv hu hv hh hr hc) (some (.int x.1)) (W_Surv hu hv hh hr x.2) := by
  refine sv_Q.R (res := (fun (x : Int32 × (Nat → Nat → Int32)) => (some (.int x.1), (W_Surv hu hv hh hr x.2)))) g_Surv_steadiestTwo rfl ?_
  unfold F_Surv_steadiestTwo
  refine sv_Q.s (σ' := (3, [some (.ref 0), some (.ref 5), none, none, none, none, none, none, none], [.int (0 : Int32), .ref 5, .ref 0], (W_Surv hu hv hh hr hc))) 3 rfl ?_
  refine sv_Q.o (fun v1 e2 => ?_)
  refine sv_Q.V (b := 0) (av := [.ref 5, .int (0 : Int32)]) (ps := [0, 1, 2, 3, 4, 5, 6, 7, 8, 9, 10, 11, 12, 13, 14, 15, 16, 17, 18, 19, 20, 21, 22, 23, 24, 25, 26]) (rest := []) (cs1 := (W_Surv hu hv hh hr hc)) (cs2 := (W_Surv hu hv hh hr hc)) (st' := [.long v1]) (cs' := (W_Surv hu hv hh hr hc)) (q := (3, .null, 0, 0, 0)) lk_Surv_160 (r_Surv_moment N hu hv hh hr hc (0 : Int32) v1 e2) rfl rfl rfl rfl rfl (Or.inl ⟨8, _, _, rfl, rfl, rfl⟩) rfl rfl (sc_Surv_Surv_0 hu hv hh hr hc) rfl rfl (pc_Surv_Surv_0 hu hv hh hr hc hu hv hh hr hc) ?_
  refine sv_Q.s (σ' := (16, [some (.ref 0), some (.ref 5), some (.long (if 0 < v1 then v1 else -v1)), none, some (.int (-1 : Int32)), some (.int (0 : Int32)), none, none, none], [], (W_Surv hu hv hh hr hc))) 6 rfl ?_
  refine sv_Q.lo (fun v9 => (90, [none, none, none, none, some (.int v9.1), none, none, none, none], [], (W_Surv hu hv hh hr v9.2))) (fun v9 => ?_) (l_Surv_steadiestTwo_16 N N (if 0 < v1 then v1 else -v1) (-1 : Int32) (0 : Int32) hu hv hh hr hc)
  · refine sv_Q.s (σ' := (92, [none, none, none, none, some (.int v9.1), none, none, none, none], [.int v9.1], (W_Surv hu hv hh hr v9.2))) 1 rfl ?_
    exact sv_Q.z ⟨True, rfl, trivial, rfl⟩
