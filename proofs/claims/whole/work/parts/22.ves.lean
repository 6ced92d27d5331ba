/-! the vessel, by program out of the listing -/
theorem pc_Ves_Hull_1 (hv hh hr hc n0 : Nat → Nat → Int32) : sv_pt [2, 3, 4, 5, 6, 7] ((W_Hull n0).map (sv_r (sv_pi [2, 3, 4, 5, 6, 7]))) 0 (W_Ves hv hh hr hc) = W_Ves hv n0 hr hc := rfl
theorem sc_Ves_Hull_1 (hv hh hr hc : Nat → Nat → Int32) : sv_sub [2, 3, 4, 5, 6, 7] (W_Ves hv hh hr hc) (W_Hull hh) := rfl
theorem pc_Ves_Rules_2 (hv hh hr hc n0 : Nat → Nat → Int32) : sv_pt [8, 9, 10, 11, 12, 13, 14, 15] ((W_Rules n0).map (sv_r (sv_pi [8, 9, 10, 11, 12, 13, 14, 15]))) 0 (W_Ves hv hh hr hc) = W_Ves hv hh n0 hc := rfl
theorem sc_Ves_Rules_2 (hv hh hr hc : Nat → Nat → Int32) : sv_sub [8, 9, 10, 11, 12, 13, 14, 15] (W_Ves hv hh hr hc) (W_Rules hr) := rfl
theorem pc_Ves_Cargo_3 (hv hh hr hc n0 : Nat → Nat → Int32) : sv_pt [16, 17, 18, 19, 20, 21] ((W_Cargo n0).map (sv_r (sv_pi [16, 17, 18, 19, 20, 21]))) 0 (W_Ves hv hh hr hc) = W_Ves hv hh hr n0 := rfl
theorem sc_Ves_Cargo_3 (hv hh hr hc : Nat → Nat → Int32) : sv_sub [16, 17, 18, 19, 20, 21] (W_Ves hv hh hr hc) (W_Cargo hc) := rfl
theorem pa_Ves_3 (hv hh hr hc : Nat → Nat → Int32) (g : Nat → Int32) : sv_pt [3] (([.inl (0, 144, g)] : List sv_C).map (sv_r (sv_pi [3]))) 0 (W_Ves hv hh hr hc) = W_Ves hv (sr hh 1 g) hr hc := rfl
theorem su_Ves_3 (hv hh hr hc : Nat → Nat → Int32) : sv_sub [3] (W_Ves hv hh hr hc) [.inl (0, 144, hh 1)] := rfl
theorem pu_Ves_3 (hv hh hr hc : Nat → Nat → Int32) : sv_pt [3] (([.inl (0, 144, hh 1)] : List sv_C).map (sv_r (sv_pi [3]))) 0 (W_Ves hv hh hr hc) = W_Ves hv hh hr hc := rfl
theorem pa_Ves_11 (hv hh hr hc : Nat → Nat → Int32) (g : Nat → Int32) : sv_pt [11] (([.inl (0, 5, g)] : List sv_C).map (sv_r (sv_pi [11]))) 0 (W_Ves hv hh hr hc) = W_Ves hv hh (sr hr 3 g) hc := rfl
theorem su_Ves_11 (hv hh hr hc : Nat → Nat → Int32) : sv_sub [11] (W_Ves hv hh hr hc) [.inl (0, 5, hr 3)] := rfl
theorem pu_Ves_11 (hv hh hr hc : Nat → Nat → Int32) : sv_pt [11] (([.inl (0, 5, hr 3)] : List sv_C).map (sv_r (sv_pi [11]))) 0 (W_Ves hv hh hr hc) = W_Ves hv hh hr hc := rfl
theorem pa_Ves_6 (hv hh hr hc : Nat → Nat → Int32) (g : Nat → Int32) : sv_pt [6] (([.inl (0, 6, g)] : List sv_C).map (sv_r (sv_pi [6]))) 0 (W_Ves hv hh hr hc) = W_Ves hv (sr hh 4 g) hr hc := rfl
theorem su_Ves_6 (hv hh hr hc : Nat → Nat → Int32) : sv_sub [6] (W_Ves hv hh hr hc) [.inl (0, 6, hh 4)] := rfl
theorem pu_Ves_6 (hv hh hr hc : Nat → Nat → Int32) : sv_pt [6] (([.inl (0, 6, hh 4)] : List sv_C).map (sv_r (sv_pi [6]))) 0 (W_Ves hv hh hr hc) = W_Ves hv hh hr hc := rfl
theorem pa_Ves_5 (hv hh hr hc : Nat → Nat → Int32) (g : Nat → Int32) : sv_pt [5] (([.inl (0, 144, g)] : List sv_C).map (sv_r (sv_pi [5]))) 0 (W_Ves hv hh hr hc) = W_Ves hv (sr hh 3 g) hr hc := rfl
theorem su_Ves_5 (hv hh hr hc : Nat → Nat → Int32) : sv_sub [5] (W_Ves hv hh hr hc) [.inl (0, 144, hh 3)] := rfl
theorem pu_Ves_5 (hv hh hr hc : Nat → Nat → Int32) : sv_pt [5] (([.inl (0, 144, hh 3)] : List sv_C).map (sv_r (sv_pi [5]))) 0 (W_Ves hv hh hr hc) = W_Ves hv hh hr hc := rfl
theorem pa_Ves_4 (hv hh hr hc : Nat → Nat → Int32) (g : Nat → Int32) : sv_pt [4] (([.inl (0, 144, g)] : List sv_C).map (sv_r (sv_pi [4]))) 0 (W_Ves hv hh hr hc) = W_Ves hv (sr hh 2 g) hr hc := rfl
theorem su_Ves_4 (hv hh hr hc : Nat → Nat → Int32) : sv_sub [4] (W_Ves hv hh hr hc) [.inl (0, 144, hh 2)] := rfl
theorem pu_Ves_4 (hv hh hr hc : Nat → Nat → Int32) : sv_pt [4] (([.inl (0, 144, hh 2)] : List sv_C).map (sv_r (sv_pi [4]))) 0 (W_Ves hv hh hr hc) = W_Ves hv hh hr hc := rfl
theorem pa_Ves_9 (hv hh hr hc : Nat → Nat → Int32) (g : Nat → Int32) : sv_pt [9] (([.inl (0, 5, g)] : List sv_C).map (sv_r (sv_pi [9]))) 0 (W_Ves hv hh hr hc) = W_Ves hv hh (sr hr 1 g) hc := rfl
theorem su_Ves_9 (hv hh hr hc : Nat → Nat → Int32) : sv_sub [9] (W_Ves hv hh hr hc) [.inl (0, 5, hr 1)] := rfl
theorem pu_Ves_9 (hv hh hr hc : Nat → Nat → Int32) : sv_pt [9] (([.inl (0, 5, hr 1)] : List sv_C).map (sv_r (sv_pi [9]))) 0 (W_Ves hv hh hr hc) = W_Ves hv hh hr hc := rfl
theorem pa_Ves_10 (hv hh hr hc : Nat → Nat → Int32) (g : Nat → Int32) : sv_pt [10] (([.inl (0, 5, g)] : List sv_C).map (sv_r (sv_pi [10]))) 0 (W_Ves hv hh hr hc) = W_Ves hv hh (sr hr 2 g) hc := rfl
theorem su_Ves_10 (hv hh hr hc : Nat → Nat → Int32) : sv_sub [10] (W_Ves hv hh hr hc) [.inl (0, 5, hr 2)] := rfl
theorem pu_Ves_10 (hv hh hr hc : Nat → Nat → Int32) : sv_pt [10] (([.inl (0, 5, hr 2)] : List sv_C).map (sv_r (sv_pi [10]))) 0 (W_Ves hv hh hr hc) = W_Ves hv hh hr hc := rfl
theorem pa_Ves_12 (hv hh hr hc : Nat → Nat → Int32) (g : Nat → Int32) : sv_pt [12] (([.inl (0, 5, g)] : List sv_C).map (sv_r (sv_pi [12]))) 0 (W_Ves hv hh hr hc) = W_Ves hv hh (sr hr 4 g) hc := rfl
theorem su_Ves_12 (hv hh hr hc : Nat → Nat → Int32) : sv_sub [12] (W_Ves hv hh hr hc) [.inl (0, 5, hr 4)] := rfl
theorem pu_Ves_12 (hv hh hr hc : Nat → Nat → Int32) : sv_pt [12] (([.inl (0, 5, hr 4)] : List sv_C).map (sv_r (sv_pi [12]))) 0 (W_Ves hv hh hr hc) = W_Ves hv hh hr hc := rfl
theorem pc_Ves_Ves_0 (hv hh hr hc n0 n1 n2 n3 : Nat → Nat → Int32) : sv_pt [0, 1, 2, 3, 4, 5, 6, 7, 8, 9, 10, 11, 12, 13, 14, 15, 16, 17, 18, 19, 20, 21] ((W_Ves n0 n1 n2 n3).map (sv_r (sv_pi [0, 1, 2, 3, 4, 5, 6, 7, 8, 9, 10, 11, 12, 13, 14, 15, 16, 17, 18, 19, 20, 21]))) 0 (W_Ves hv hh hr hc) = W_Ves n0 n1 n2 n3 := rfl
theorem sc_Ves_Ves_0 (hv hh hr hc : Nat → Nat → Int32) : sv_sub [0, 1, 2, 3, 4, 5, 6, 7, 8, 9, 10, 11, 12, 13, 14, 15, 16, 17, 18, 19, 20, 21] (W_Ves hv hh hr hc) (W_Ves hv hh hr hc) := rfl
theorem pa_Ves_1 (hv hh hr hc : Nat → Nat → Int32) (g : Nat → Int32) : sv_pt [1] (([.inl (0, 6, g)] : List sv_C).map (sv_r (sv_pi [1]))) 0 (W_Ves hv hh hr hc) = W_Ves (sr hv 1 g) hh hr hc := rfl
theorem su_Ves_1 (hv hh hr hc : Nat → Nat → Int32) : sv_sub [1] (W_Ves hv hh hr hc) [.inl (0, 6, hv 1)] := rfl
theorem pu_Ves_1 (hv hh hr hc : Nat → Nat → Int32) : sv_pt [1] (([.inl (0, 6, hv 1)] : List sv_C).map (sv_r (sv_pi [1]))) 0 (W_Ves hv hh hr hc) = W_Ves hv hh hr hc := rfl
def F_Ves_reset (N : Nat) (hh hr hc : Nat → Nat → Int32) : Option ((Nat → Nat → Int32) × (Nat → Nat → Int32) × (Nat → Nat → Int32)) := (Option.bind (F_Hull_reset N hh) fun (v1 : (Nat → Nat → Int32)) => (sv_let (F_Rules_reset hr) fun (hr_3 : Nat → Nat → Int32) => (sv_let (F_Cargo_reset hc) fun (hc_4 : Nat → Nat → Int32) => (some (v1, hr_3, hc_4)))))
theorem r_Ves_reset {X : Nat × (Nat → Int32)} (N : Nat) (hv hh hr hc : Nat → Nat → Int32) : ∀ x, (F_Ves_reset N hh hr hc) = some x → sv_R X 4 M_Ves_reset [.ref 0] (W_Ves hv hh hr hc) none (W_Ves hv x.1 x.2.1 x.2.2) := by
  refine sv_Q.R (res := (fun (x : (Nat → Nat → Int32) × (Nat → Nat → Int32) × (Nat → Nat → Int32)) => ((none : Option Value), (W_Ves hv x.1 x.2.1 x.2.2)))) g_Ves_reset rfl ?_
  unfold F_Ves_reset
  refine sv_Q.s (σ' := (4, [some (.ref 0)], [.ref 2], (W_Ves hv hh hr hc))) 2 rfl ?_
  refine sv_Q.o (fun v1 e2 => ?_)
  refine sv_Q.V (b := 0) (av := []) (ps := [2, 3, 4, 5, 6, 7]) (rest := []) (cs1 := (W_Hull hh)) (cs2 := (W_Hull v1)) (st' := []) (cs' := (W_Ves hv v1 hr hc)) (q := (4, .null, 0, 0, 0)) lk_Ves_36 (r_Hull_reset N hh v1 e2) rfl rfl rfl rfl rfl (Or.inl ⟨2, _, _, rfl, rfl, rfl⟩) rfl rfl (sc_Ves_Hull_1 hv hh hr hc) rfl rfl (pc_Ves_Hull_1 hv hh hr hc v1) ?_
  refine sv_Q.s (σ' := (11, [some (.ref 0)], [.ref 8], (W_Ves hv v1 hr hc))) 2 rfl ?_
  refine sv_Q.V (b := 0) (av := []) (ps := [8, 9, 10, 11, 12, 13, 14, 15]) (rest := []) (cs1 := (W_Rules hr)) (cs2 := (W_Rules (F_Rules_reset hr))) (st' := []) (cs' := (W_Ves hv v1 (F_Rules_reset hr) hc)) (q := (11, .null, 0, 0, 0)) lk_Ves_39 (t_Rules_reset hr) rfl rfl rfl rfl rfl (Or.inl ⟨6, _, _, rfl, rfl, rfl⟩) rfl rfl (sc_Ves_Rules_2 hv v1 hr hc) rfl rfl (pc_Ves_Rules_2 hv v1 hr hc (F_Rules_reset hr)) ?_
  refine sv_Q.go (fun hr_3 => (14, [some (.ref 0)], [], (W_Ves hv v1 hr_3 hc))) (fun hr_3 => ?_)
  refine sv_Q.s (σ' := (18, [some (.ref 0)], [.ref 16], (W_Ves hv v1 hr_3 hc))) 2 rfl ?_
  refine sv_Q.V (b := 0) (av := []) (ps := [16, 17, 18, 19, 20, 21]) (rest := []) (cs1 := (W_Cargo hc)) (cs2 := (W_Cargo (F_Cargo_reset hc))) (st' := []) (cs' := (W_Ves hv v1 hr_3 (F_Cargo_reset hc))) (q := (18, .null, 0, 0, 0)) lk_Ves_40 (t_Cargo_reset hc) rfl rfl rfl rfl rfl (Or.inl ⟨0, _, _, rfl, rfl, rfl⟩) rfl rfl (sc_Ves_Cargo_3 hv v1 hr_3 hc) rfl rfl (pc_Ves_Cargo_3 hv v1 hr_3 hc (F_Cargo_reset hc)) ?_
  refine sv_Q.go (fun hc_4 => (21, [some (.ref 0)], [], (W_Ves hv v1 hr_3 hc_4))) (fun hc_4 => ?_)
  exact sv_Q.z ⟨True, rfl, trivial, rfl⟩
def F_Ves_isFar (a0 : Int32) (a1 : Int32) (a2 : Int32) (hh hr : Nat → Nat → Int32) : Int32 := (sv_let (if (rd 144 (hh 3) a0) < (hh 0 2) then (0 : Int32) else (1 : Int32)) fun (v2 : Int32) => (sv_let (if (rd 144 (hh 3) a1) < (hh 0 2) then (0 : Int32) else (1 : Int32)) fun (v4 : Int32) => (sv_let (if v2 = v4 then (0 : Int32) else (1 : Int32)) fun (v6 : Int32) => (if (rd 5 (hr 1) a2) ≤ (if 0 ≤ ((rd 144 (hh 2) a0) - (rd 144 (hh 2) a1)) then ((rd 144 (hh 2) a0) - (rd 144 (hh 2) a1)) else 0 - ((rd 144 (hh 2) a0) - (rd 144 (hh 2) a1))) then (1 : Int32) else (if (rd 5 (hr 2) a2) ≤ (if 0 ≤ ((rd 144 (hh 1) a0) - (rd 144 (hh 1) a1)) then ((rd 144 (hh 1) a0) - (rd 144 (hh 1) a1)) else 0 - ((rd 144 (hh 1) a0) - (rd 144 (hh 1) a1))) then (1 : Int32) else (if (rd 5 (hr 3) a2) = 0 then (if ¬ (rd 5 (hr 4) a2) = (1 : Int32) then (0 : Int32) else (if v6 = 0 then (0 : Int32) else (1 : Int32))) else (if (rd 5 (hr 3) a2) ≤ (if 0 ≤ ((rd 6 (hh 4) (rd 144 (hh 1) a0)) - (rd 6 (hh 4) (rd 144 (hh 1) a1))) then ((rd 6 (hh 4) (rd 144 (hh 1) a0)) - (rd 6 (hh 4) (rd 144 (hh 1) a1))) else 0 - ((rd 6 (hh 4) (rd 144 (hh 1) a0)) - (rd 6 (hh 4) (rd 144 (hh 1) a1)))) then (1 : Int32) else (if ¬ (rd 5 (hr 4) a2) = (1 : Int32) then (0 : Int32) else (if v6 = 0 then (0 : Int32) else (1 : Int32))))))))))
theorem r_Ves_isFar {X : Nat × (Nat → Int32)} (hv hh hr hc : Nat → Nat → Int32) (a0 : Int32) (a1 : Int32) (a2 : Int32) : ∀ x, some (F_Ves_isFar a0 a1 a2 hh hr) = some x → sv_R X 2 M_Ves_isFar [.ref 0, .int a0, .int a1, .int a2] (W_Ves hv hh hr hc) (some (.int x)) (W_Ves hv hh hr hc) := by
  refine sv_Q.R (res := (fun (x : Int32) => (some (.int x), (W_Ves hv hh hr hc)))) g_Ves_isFar rfl ?_
  unfold F_Ves_isFar
  refine sv_Q.s (σ' := (8, [some (.ref 0), some (.int a0), some (.int a1), some (.int a2), none, none, none, none, none], [.int a0, .ref 3], (W_Ves hv hh hr hc))) 4 rfl ?_
  refine sv_Q.S (ps := [3]) (rest := []) (st' := [.int (rd 144 (hh 1) a0)]) (cs' := (W_Ves hv hh hr hc)) (q := (8, .null, 0, 0, 0)) lk_Ves_44 (t_K_read 144 rfl (hh 1) a0) rfl rfl rfl rfl rfl rfl rfl (su_Ves_3 hv hh hr hc) rfl rfl (pu_Ves_3 hv hh hr hc) ?_
  refine sv_Q.s (σ' := (21, [some (.ref 0), some (.int a0), some (.int a1), some (.int a2), some (.int (rd 144 (hh 1) a0)), none, none, none, none], [.int a1, .ref 3], (W_Ves hv hh hr hc))) 5 rfl ?_
  refine sv_Q.S (ps := [3]) (rest := []) (st' := [.int (rd 144 (hh 1) a1)]) (cs' := (W_Ves hv hh hr hc)) (q := (21, .null, 0, 0, 0)) lk_Ves_44 (t_K_read 144 rfl (hh 1) a1) rfl rfl rfl rfl rfl rfl rfl (su_Ves_3 hv hh hr hc) rfl rfl (pu_Ves_3 hv hh hr hc) ?_
  refine sv_Q.s (σ' := (34, [some (.ref 0), some (.int a0), some (.int a1), some (.int a2), some (.int (rd 144 (hh 1) a0)), some (.int (rd 144 (hh 1) a1)), none, none, none], [.int a2, .ref 11], (W_Ves hv hh hr hc))) 5 rfl ?_
  refine sv_Q.S (ps := [11]) (rest := []) (st' := [.int (rd 5 (hr 3) a2)]) (cs' := (W_Ves hv hh hr hc)) (q := (34, .null, 0, 0, 0)) lk_Ves_44 (t_K_read 5 rfl (hr 3) a2) rfl rfl rfl rfl rfl rfl rfl (su_Ves_11 hv hh hr hc) rfl rfl (pu_Ves_11 hv hh hr hc) ?_
  refine sv_Q.s (σ' := (48, [some (.ref 0), some (.int a0), some (.int a1), some (.int a2), some (.int (rd 144 (hh 1) a0)), some (.int (rd 144 (hh 1) a1)), some (.int (rd 5 (hr 3) a2)), none, none], [.int (rd 144 (hh 1) a0), .ref 6], (W_Ves hv hh hr hc))) 5 rfl ?_
  refine sv_Q.S (ps := [6]) (rest := []) (st' := [.int (rd 6 (hh 4) (rd 144 (hh 1) a0))]) (cs' := (W_Ves hv hh hr hc)) (q := (48, .null, 0, 0, 0)) lk_Ves_44 (t_K_read 6 rfl (hh 4) (rd 144 (hh 1) a0)) rfl rfl rfl rfl rfl rfl rfl (su_Ves_6 hv hh hr hc) rfl rfl (pu_Ves_6 hv hh hr hc) ?_
  refine sv_Q.s (σ' := (60, [some (.ref 0), some (.int a0), some (.int a1), some (.int a2), some (.int (rd 144 (hh 1) a0)), some (.int (rd 144 (hh 1) a1)), some (.int (rd 5 (hr 3) a2)), none, none], [.int (rd 144 (hh 1) a1), .ref 6, .int (rd 6 (hh 4) (rd 144 (hh 1) a0))], (W_Ves hv hh hr hc))) 4 rfl ?_
  refine sv_Q.S (ps := [6]) (rest := [.int (rd 6 (hh 4) (rd 144 (hh 1) a0))]) (st' := [.int (rd 6 (hh 4) (rd 144 (hh 1) a1)), .int (rd 6 (hh 4) (rd 144 (hh 1) a0))]) (cs' := (W_Ves hv hh hr hc)) (q := (60, .null, 0, 0, 0)) lk_Ves_44 (t_K_read 6 rfl (hh 4) (rd 144 (hh 1) a1)) rfl rfl rfl rfl rfl rfl rfl (su_Ves_6 hv hh hr hc) rfl rfl (pu_Ves_6 hv hh hr hc) ?_
  refine sv_Q.s (σ' := (77, [some (.ref 0), some (.int a0), some (.int a1), some (.int a2), some (.int (rd 144 (hh 1) a0)), some (.int (rd 144 (hh 1) a1)), some (.int (rd 5 (hr 3) a2)), some (.int (if 0 ≤ ((rd 6 (hh 4) (rd 144 (hh 1) a0)) - (rd 6 (hh 4) (rd 144 (hh 1) a1))) then ((rd 6 (hh 4) (rd 144 (hh 1) a0)) - (rd 6 (hh 4) (rd 144 (hh 1) a1))) else 0 - ((rd 6 (hh 4) (rd 144 (hh 1) a0)) - (rd 6 (hh 4) (rd 144 (hh 1) a1))))), none], [.int a0, .ref 5], (W_Ves hv hh hr hc))) 7 rfl ?_
  refine sv_Q.S (ps := [5]) (rest := []) (st' := [.int (rd 144 (hh 3) a0)]) (cs' := (W_Ves hv hh hr hc)) (q := (77, .null, 0, 0, 0)) lk_Ves_44 (t_K_read 144 rfl (hh 3) a0) rfl rfl rfl rfl rfl rfl rfl (su_Ves_5 hv hh hr hc) rfl rfl (pu_Ves_5 hv hh hr hc) ?_
  refine sv_Q.s (σ' := (87, [some (.ref 0), some (.int a0), some (.int a1), some (.int a2), some (.int (rd 144 (hh 1) a0)), some (.int (rd 144 (hh 1) a1)), some (.int (rd 5 (hr 3) a2)), some (.int (if 0 ≤ ((rd 6 (hh 4) (rd 144 (hh 1) a0)) - (rd 6 (hh 4) (rd 144 (hh 1) a1))) then ((rd 6 (hh 4) (rd 144 (hh 1) a0)) - (rd 6 (hh 4) (rd 144 (hh 1) a1))) else 0 - ((rd 6 (hh 4) (rd 144 (hh 1) a0)) - (rd 6 (hh 4) (rd 144 (hh 1) a1))))), none], [.int (hh 0 2), .int (rd 144 (hh 3) a0)], (W_Ves hv hh hr hc))) 3 rfl ?_
  refine sv_Q.sl (fun v2 => (95, [some (.ref 0), some (.int a0), some (.int a1), some (.int a2), some (.int (rd 144 (hh 1) a0)), some (.int (rd 144 (hh 1) a1)), some (.int (rd 5 (hr 3) a2)), some (.int (if 0 ≤ ((rd 6 (hh 4) (rd 144 (hh 1) a0)) - (rd 6 (hh 4) (rd 144 (hh 1) a1))) then ((rd 6 (hh 4) (rd 144 (hh 1) a0)) - (rd 6 (hh 4) (rd 144 (hh 1) a1))) else 0 - ((rd 6 (hh 4) (rd 144 (hh 1) a0)) - (rd 6 (hh 4) (rd 144 (hh 1) a1))))), none], [.int v2], (W_Ves hv hh hr hc))) (fun v2 => ?_) ?_
  · refine sv_Q.s (σ' := (103, [some (.ref 0), some (.int a0), some (.int a1), some (.int a2), some (.int (rd 144 (hh 1) a0)), some (.int (rd 144 (hh 1) a1)), some (.int (rd 5 (hr 3) a2)), some (.int (if 0 ≤ ((rd 6 (hh 4) (rd 144 (hh 1) a0)) - (rd 6 (hh 4) (rd 144 (hh 1) a1))) then ((rd 6 (hh 4) (rd 144 (hh 1) a0)) - (rd 6 (hh 4) (rd 144 (hh 1) a1))) else 0 - ((rd 6 (hh 4) (rd 144 (hh 1) a0)) - (rd 6 (hh 4) (rd 144 (hh 1) a1))))), none], [.int a1, .ref 5, .int v2], (W_Ves hv hh hr hc))) 4 rfl ?_
    refine sv_Q.S (ps := [5]) (rest := [.int v2]) (st' := [.int (rd 144 (hh 3) a1), .int v2]) (cs' := (W_Ves hv hh hr hc)) (q := (103, .null, 0, 0, 0)) lk_Ves_44 (t_K_read 144 rfl (hh 3) a1) rfl rfl rfl rfl rfl rfl rfl (su_Ves_5 hv hh hr hc) rfl rfl (pu_Ves_5 hv hh hr hc) ?_
    refine sv_Q.s (σ' := (113, [some (.ref 0), some (.int a0), some (.int a1), some (.int a2), some (.int (rd 144 (hh 1) a0)), some (.int (rd 144 (hh 1) a1)), some (.int (rd 5 (hr 3) a2)), some (.int (if 0 ≤ ((rd 6 (hh 4) (rd 144 (hh 1) a0)) - (rd 6 (hh 4) (rd 144 (hh 1) a1))) then ((rd 6 (hh 4) (rd 144 (hh 1) a0)) - (rd 6 (hh 4) (rd 144 (hh 1) a1))) else 0 - ((rd 6 (hh 4) (rd 144 (hh 1) a0)) - (rd 6 (hh 4) (rd 144 (hh 1) a1))))), none], [.int (hh 0 2), .int (rd 144 (hh 3) a1), .int v2], (W_Ves hv hh hr hc))) 3 rfl ?_
    refine sv_Q.sl (fun v4 => (121, [some (.ref 0), some (.int a0), some (.int a1), some (.int a2), some (.int (rd 144 (hh 1) a0)), some (.int (rd 144 (hh 1) a1)), some (.int (rd 5 (hr 3) a2)), some (.int (if 0 ≤ ((rd 6 (hh 4) (rd 144 (hh 1) a0)) - (rd 6 (hh 4) (rd 144 (hh 1) a1))) then ((rd 6 (hh 4) (rd 144 (hh 1) a0)) - (rd 6 (hh 4) (rd 144 (hh 1) a1))) else 0 - ((rd 6 (hh 4) (rd 144 (hh 1) a0)) - (rd 6 (hh 4) (rd 144 (hh 1) a1))))), none], [.int v4, .int v2], (W_Ves hv hh hr hc))) (fun v4 => ?_) ?_
    · refine sv_Q.sl (fun v6 => (129, [some (.ref 0), some (.int a0), some (.int a1), some (.int a2), some (.int (rd 144 (hh 1) a0)), some (.int (rd 144 (hh 1) a1)), some (.int (rd 5 (hr 3) a2)), some (.int (if 0 ≤ ((rd 6 (hh 4) (rd 144 (hh 1) a0)) - (rd 6 (hh 4) (rd 144 (hh 1) a1))) then ((rd 6 (hh 4) (rd 144 (hh 1) a0)) - (rd 6 (hh 4) (rd 144 (hh 1) a1))) else 0 - ((rd 6 (hh 4) (rd 144 (hh 1) a0)) - (rd 6 (hh 4) (rd 144 (hh 1) a1))))), none], [.int v6], (W_Ves hv hh hr hc))) (fun v6 => ?_) ?_
      · refine sv_Q.s (σ' := (139, [some (.ref 0), some (.int a0), some (.int a1), some (.int a2), some (.int (rd 144 (hh 1) a0)), some (.int (rd 144 (hh 1) a1)), some (.int (rd 5 (hr 3) a2)), some (.int (if 0 ≤ ((rd 6 (hh 4) (rd 144 (hh 1) a0)) - (rd 6 (hh 4) (rd 144 (hh 1) a1))) then ((rd 6 (hh 4) (rd 144 (hh 1) a0)) - (rd 6 (hh 4) (rd 144 (hh 1) a1))) else 0 - ((rd 6 (hh 4) (rd 144 (hh 1) a0)) - (rd 6 (hh 4) (rd 144 (hh 1) a1))))), some (.int v6)], [.int a0, .ref 4], (W_Ves hv hh hr hc))) 5 rfl ?_
        refine sv_Q.S (ps := [4]) (rest := []) (st' := [.int (rd 144 (hh 2) a0)]) (cs' := (W_Ves hv hh hr hc)) (q := (139, .null, 0, 0, 0)) lk_Ves_44 (t_K_read 144 rfl (hh 2) a0) rfl rfl rfl rfl rfl rfl rfl (su_Ves_4 hv hh hr hc) rfl rfl (pu_Ves_4 hv hh hr hc) ?_
        refine sv_Q.s (σ' := (150, [some (.ref 0), some (.int a0), some (.int a1), some (.int a2), some (.int (rd 144 (hh 1) a0)), some (.int (rd 144 (hh 1) a1)), some (.int (rd 5 (hr 3) a2)), some (.int (if 0 ≤ ((rd 6 (hh 4) (rd 144 (hh 1) a0)) - (rd 6 (hh 4) (rd 144 (hh 1) a1))) then ((rd 6 (hh 4) (rd 144 (hh 1) a0)) - (rd 6 (hh 4) (rd 144 (hh 1) a1))) else 0 - ((rd 6 (hh 4) (rd 144 (hh 1) a0)) - (rd 6 (hh 4) (rd 144 (hh 1) a1))))), some (.int v6)], [.int a1, .ref 4, .int (rd 144 (hh 2) a0)], (W_Ves hv hh hr hc))) 4 rfl ?_
        refine sv_Q.S (ps := [4]) (rest := [.int (rd 144 (hh 2) a0)]) (st' := [.int (rd 144 (hh 2) a1), .int (rd 144 (hh 2) a0)]) (cs' := (W_Ves hv hh hr hc)) (q := (150, .null, 0, 0, 0)) lk_Ves_44 (t_K_read 144 rfl (hh 2) a1) rfl rfl rfl rfl rfl rfl rfl (su_Ves_4 hv hh hr hc) rfl rfl (pu_Ves_4 hv hh hr hc) ?_
        refine sv_Q.s (σ' := (165, [some (.ref 0), some (.int a0), some (.int a1), some (.int a2), some (.int (rd 144 (hh 1) a0)), some (.int (rd 144 (hh 1) a1)), some (.int (rd 5 (hr 3) a2)), some (.int (if 0 ≤ ((rd 6 (hh 4) (rd 144 (hh 1) a0)) - (rd 6 (hh 4) (rd 144 (hh 1) a1))) then ((rd 6 (hh 4) (rd 144 (hh 1) a0)) - (rd 6 (hh 4) (rd 144 (hh 1) a1))) else 0 - ((rd 6 (hh 4) (rd 144 (hh 1) a0)) - (rd 6 (hh 4) (rd 144 (hh 1) a1))))), some (.int v6)], [.int a2, .ref 9, .int (if 0 ≤ ((rd 144 (hh 2) a0) - (rd 144 (hh 2) a1)) then ((rd 144 (hh 2) a0) - (rd 144 (hh 2) a1)) else 0 - ((rd 144 (hh 2) a0) - (rd 144 (hh 2) a1)))], (W_Ves hv hh hr hc))) 6 rfl ?_
        refine sv_Q.S (ps := [9]) (rest := [.int (if 0 ≤ ((rd 144 (hh 2) a0) - (rd 144 (hh 2) a1)) then ((rd 144 (hh 2) a0) - (rd 144 (hh 2) a1)) else 0 - ((rd 144 (hh 2) a0) - (rd 144 (hh 2) a1)))]) (st' := [.int (rd 5 (hr 1) a2), .int (if 0 ≤ ((rd 144 (hh 2) a0) - (rd 144 (hh 2) a1)) then ((rd 144 (hh 2) a0) - (rd 144 (hh 2) a1)) else 0 - ((rd 144 (hh 2) a0) - (rd 144 (hh 2) a1)))]) (cs' := (W_Ves hv hh hr hc)) (q := (165, .null, 0, 0, 0)) lk_Ves_44 (t_K_read 5 rfl (hr 1) a2) rfl rfl rfl rfl rfl rfl rfl (su_Ves_9 hv hh hr hc) rfl rfl (pu_Ves_9 hv hh hr hc) ?_
        refine sv_Q.sb rfl (fun c7 => ?_) (fun c7 => ?_)
        · refine sv_Q.s (σ' := (230, [some (.ref 0), some (.int a0), some (.int a1), some (.int a2), some (.int (rd 144 (hh 1) a0)), some (.int (rd 144 (hh 1) a1)), some (.int (rd 5 (hr 3) a2)), some (.int (if 0 ≤ ((rd 6 (hh 4) (rd 144 (hh 1) a0)) - (rd 6 (hh 4) (rd 144 (hh 1) a1))) then ((rd 6 (hh 4) (rd 144 (hh 1) a0)) - (rd 6 (hh 4) (rd 144 (hh 1) a1))) else 0 - ((rd 6 (hh 4) (rd 144 (hh 1) a0)) - (rd 6 (hh 4) (rd 144 (hh 1) a1))))), some (.int v6)], [.int (1 : Int32)], (W_Ves hv hh hr hc))) 2 rfl ?_
          exact sv_Q.z ⟨sv_01 (1 : Int32), rfl, Or.inr rfl, rfl⟩
        · refine sv_Q.s (σ' := (187, [some (.ref 0), some (.int a0), some (.int a1), some (.int a2), some (.int (rd 144 (hh 1) a0)), some (.int (rd 144 (hh 1) a1)), some (.int (rd 5 (hr 3) a2)), some (.int (if 0 ≤ ((rd 6 (hh 4) (rd 144 (hh 1) a0)) - (rd 6 (hh 4) (rd 144 (hh 1) a1))) then ((rd 6 (hh 4) (rd 144 (hh 1) a0)) - (rd 6 (hh 4) (rd 144 (hh 1) a1))) else 0 - ((rd 6 (hh 4) (rd 144 (hh 1) a0)) - (rd 6 (hh 4) (rd 144 (hh 1) a1))))), some (.int v6)], [.int a2, .ref 10, .int (if 0 ≤ ((rd 144 (hh 1) a0) - (rd 144 (hh 1) a1)) then ((rd 144 (hh 1) a0) - (rd 144 (hh 1) a1)) else 0 - ((rd 144 (hh 1) a0) - (rd 144 (hh 1) a1)))], (W_Ves hv hh hr hc))) 8 rfl ?_
          refine sv_Q.S (ps := [10]) (rest := [.int (if 0 ≤ ((rd 144 (hh 1) a0) - (rd 144 (hh 1) a1)) then ((rd 144 (hh 1) a0) - (rd 144 (hh 1) a1)) else 0 - ((rd 144 (hh 1) a0) - (rd 144 (hh 1) a1)))]) (st' := [.int (rd 5 (hr 2) a2), .int (if 0 ≤ ((rd 144 (hh 1) a0) - (rd 144 (hh 1) a1)) then ((rd 144 (hh 1) a0) - (rd 144 (hh 1) a1)) else 0 - ((rd 144 (hh 1) a0) - (rd 144 (hh 1) a1)))]) (cs' := (W_Ves hv hh hr hc)) (q := (187, .null, 0, 0, 0)) lk_Ves_44 (t_K_read 5 rfl (hr 2) a2) rfl rfl rfl rfl rfl rfl rfl (su_Ves_10 hv hh hr hc) rfl rfl (pu_Ves_10 hv hh hr hc) ?_
          refine sv_Q.sb rfl (fun c8 => ?_) (fun c8 => ?_)
          · refine sv_Q.s (σ' := (230, [some (.ref 0), some (.int a0), some (.int a1), some (.int a2), some (.int (rd 144 (hh 1) a0)), some (.int (rd 144 (hh 1) a1)), some (.int (rd 5 (hr 3) a2)), some (.int (if 0 ≤ ((rd 6 (hh 4) (rd 144 (hh 1) a0)) - (rd 6 (hh 4) (rd 144 (hh 1) a1))) then ((rd 6 (hh 4) (rd 144 (hh 1) a0)) - (rd 6 (hh 4) (rd 144 (hh 1) a1))) else 0 - ((rd 6 (hh 4) (rd 144 (hh 1) a0)) - (rd 6 (hh 4) (rd 144 (hh 1) a1))))), some (.int v6)], [.int (1 : Int32)], (W_Ves hv hh hr hc))) 2 rfl ?_
            exact sv_Q.z ⟨sv_01 (1 : Int32), rfl, Or.inr rfl, rfl⟩
          · refine sv_Q.s (σ' := (195, [some (.ref 0), some (.int a0), some (.int a1), some (.int a2), some (.int (rd 144 (hh 1) a0)), some (.int (rd 144 (hh 1) a1)), some (.int (rd 5 (hr 3) a2)), some (.int (if 0 ≤ ((rd 6 (hh 4) (rd 144 (hh 1) a0)) - (rd 6 (hh 4) (rd 144 (hh 1) a1))) then ((rd 6 (hh 4) (rd 144 (hh 1) a0)) - (rd 6 (hh 4) (rd 144 (hh 1) a1))) else 0 - ((rd 6 (hh 4) (rd 144 (hh 1) a0)) - (rd 6 (hh 4) (rd 144 (hh 1) a1))))), some (.int v6)], [.int (rd 5 (hr 3) a2)], (W_Ves hv hh hr hc))) 1 rfl ?_
            refine sv_Q.sb rfl (fun c9 => ?_) (fun c9 => ?_)
            · refine sv_Q.s (σ' := (213, [some (.ref 0), some (.int a0), some (.int a1), some (.int a2), some (.int (rd 144 (hh 1) a0)), some (.int (rd 144 (hh 1) a1)), some (.int (rd 5 (hr 3) a2)), some (.int (if 0 ≤ ((rd 6 (hh 4) (rd 144 (hh 1) a0)) - (rd 6 (hh 4) (rd 144 (hh 1) a1))) then ((rd 6 (hh 4) (rd 144 (hh 1) a0)) - (rd 6 (hh 4) (rd 144 (hh 1) a1))) else 0 - ((rd 6 (hh 4) (rd 144 (hh 1) a0)) - (rd 6 (hh 4) (rd 144 (hh 1) a1))))), some (.int v6)], [.int a2, .ref 12], (W_Ves hv hh hr hc))) 4 rfl ?_
              refine sv_Q.S (ps := [12]) (rest := []) (st' := [.int (rd 5 (hr 4) a2)]) (cs' := (W_Ves hv hh hr hc)) (q := (213, .null, 0, 0, 0)) lk_Ves_44 (t_K_read 5 rfl (hr 4) a2) rfl rfl rfl rfl rfl rfl rfl (su_Ves_12 hv hh hr hc) rfl rfl (pu_Ves_12 hv hh hr hc) ?_
              refine sv_Q.s (σ' := (217, [some (.ref 0), some (.int a0), some (.int a1), some (.int a2), some (.int (rd 144 (hh 1) a0)), some (.int (rd 144 (hh 1) a1)), some (.int (rd 5 (hr 3) a2)), some (.int (if 0 ≤ ((rd 6 (hh 4) (rd 144 (hh 1) a0)) - (rd 6 (hh 4) (rd 144 (hh 1) a1))) then ((rd 6 (hh 4) (rd 144 (hh 1) a0)) - (rd 6 (hh 4) (rd 144 (hh 1) a1))) else 0 - ((rd 6 (hh 4) (rd 144 (hh 1) a0)) - (rd 6 (hh 4) (rd 144 (hh 1) a1))))), some (.int v6)], [.int (1 : Int32), .int (rd 5 (hr 4) a2)], (W_Ves hv hh hr hc))) 1 rfl ?_
              refine sv_Q.sb rfl (fun c10 => ?_) (fun c10 => ?_)
              · refine sv_Q.s (σ' := (230, [some (.ref 0), some (.int a0), some (.int a1), some (.int a2), some (.int (rd 144 (hh 1) a0)), some (.int (rd 144 (hh 1) a1)), some (.int (rd 5 (hr 3) a2)), some (.int (if 0 ≤ ((rd 6 (hh 4) (rd 144 (hh 1) a0)) - (rd 6 (hh 4) (rd 144 (hh 1) a1))) then ((rd 6 (hh 4) (rd 144 (hh 1) a0)) - (rd 6 (hh 4) (rd 144 (hh 1) a1))) else 0 - ((rd 6 (hh 4) (rd 144 (hh 1) a0)) - (rd 6 (hh 4) (rd 144 (hh 1) a1))))), some (.int v6)], [.int (0 : Int32)], (W_Ves hv hh hr hc))) 1 rfl ?_
                exact sv_Q.z ⟨sv_01 (0 : Int32), rfl, Or.inl rfl, rfl⟩
              · refine sv_Q.s (σ' := (222, [some (.ref 0), some (.int a0), some (.int a1), some (.int a2), some (.int (rd 144 (hh 1) a0)), some (.int (rd 144 (hh 1) a1)), some (.int (rd 5 (hr 3) a2)), some (.int (if 0 ≤ ((rd 6 (hh 4) (rd 144 (hh 1) a0)) - (rd 6 (hh 4) (rd 144 (hh 1) a1))) then ((rd 6 (hh 4) (rd 144 (hh 1) a0)) - (rd 6 (hh 4) (rd 144 (hh 1) a1))) else 0 - ((rd 6 (hh 4) (rd 144 (hh 1) a0)) - (rd 6 (hh 4) (rd 144 (hh 1) a1))))), some (.int v6)], [.int v6], (W_Ves hv hh hr hc))) 1 rfl ?_
                refine sv_Q.sb rfl (fun c11 => ?_) (fun c11 => ?_)
                · refine sv_Q.s (σ' := (230, [some (.ref 0), some (.int a0), some (.int a1), some (.int a2), some (.int (rd 144 (hh 1) a0)), some (.int (rd 144 (hh 1) a1)), some (.int (rd 5 (hr 3) a2)), some (.int (if 0 ≤ ((rd 6 (hh 4) (rd 144 (hh 1) a0)) - (rd 6 (hh 4) (rd 144 (hh 1) a1))) then ((rd 6 (hh 4) (rd 144 (hh 1) a0)) - (rd 6 (hh 4) (rd 144 (hh 1) a1))) else 0 - ((rd 6 (hh 4) (rd 144 (hh 1) a0)) - (rd 6 (hh 4) (rd 144 (hh 1) a1))))), some (.int v6)], [.int (0 : Int32)], (W_Ves hv hh hr hc))) 1 rfl ?_
                  exact sv_Q.z ⟨sv_01 (0 : Int32), rfl, Or.inl rfl, rfl⟩
                · refine sv_Q.s (σ' := (230, [some (.ref 0), some (.int a0), some (.int a1), some (.int a2), some (.int (rd 144 (hh 1) a0)), some (.int (rd 144 (hh 1) a1)), some (.int (rd 5 (hr 3) a2)), some (.int (if 0 ≤ ((rd 6 (hh 4) (rd 144 (hh 1) a0)) - (rd 6 (hh 4) (rd 144 (hh 1) a1))) then ((rd 6 (hh 4) (rd 144 (hh 1) a0)) - (rd 6 (hh 4) (rd 144 (hh 1) a1))) else 0 - ((rd 6 (hh 4) (rd 144 (hh 1) a0)) - (rd 6 (hh 4) (rd 144 (hh 1) a1))))), some (.int v6)], [.int (1 : Int32)], (W_Ves hv hh hr hc))) 2 rfl ?_
                  exact sv_Q.z ⟨sv_01 (1 : Int32), rfl, Or.inr rfl, rfl⟩
            · refine sv_Q.s (σ' := (202, [some (.ref 0), some (.int a0), some (.int a1), some (.int a2), some (.int (rd 144 (hh 1) a0)), some (.int (rd 144 (hh 1) a1)), some (.int (rd 5 (hr 3) a2)), some (.int (if 0 ≤ ((rd 6 (hh 4) (rd 144 (hh 1) a0)) - (rd 6 (hh 4) (rd 144 (hh 1) a1))) then ((rd 6 (hh 4) (rd 144 (hh 1) a0)) - (rd 6 (hh 4) (rd 144 (hh 1) a1))) else 0 - ((rd 6 (hh 4) (rd 144 (hh 1) a0)) - (rd 6 (hh 4) (rd 144 (hh 1) a1))))), some (.int v6)], [.int (rd 5 (hr 3) a2), .int (if 0 ≤ ((rd 6 (hh 4) (rd 144 (hh 1) a0)) - (rd 6 (hh 4) (rd 144 (hh 1) a1))) then ((rd 6 (hh 4) (rd 144 (hh 1) a0)) - (rd 6 (hh 4) (rd 144 (hh 1) a1))) else 0 - ((rd 6 (hh 4) (rd 144 (hh 1) a0)) - (rd 6 (hh 4) (rd 144 (hh 1) a1))))], (W_Ves hv hh hr hc))) 2 rfl ?_
              refine sv_Q.sb rfl (fun c12 => ?_) (fun c12 => ?_)
              · refine sv_Q.s (σ' := (230, [some (.ref 0), some (.int a0), some (.int a1), some (.int a2), some (.int (rd 144 (hh 1) a0)), some (.int (rd 144 (hh 1) a1)), some (.int (rd 5 (hr 3) a2)), some (.int (if 0 ≤ ((rd 6 (hh 4) (rd 144 (hh 1) a0)) - (rd 6 (hh 4) (rd 144 (hh 1) a1))) then ((rd 6 (hh 4) (rd 144 (hh 1) a0)) - (rd 6 (hh 4) (rd 144 (hh 1) a1))) else 0 - ((rd 6 (hh 4) (rd 144 (hh 1) a0)) - (rd 6 (hh 4) (rd 144 (hh 1) a1))))), some (.int v6)], [.int (1 : Int32)], (W_Ves hv hh hr hc))) 2 rfl ?_
                exact sv_Q.z ⟨sv_01 (1 : Int32), rfl, Or.inr rfl, rfl⟩
              · refine sv_Q.s (σ' := (213, [some (.ref 0), some (.int a0), some (.int a1), some (.int a2), some (.int (rd 144 (hh 1) a0)), some (.int (rd 144 (hh 1) a1)), some (.int (rd 5 (hr 3) a2)), some (.int (if 0 ≤ ((rd 6 (hh 4) (rd 144 (hh 1) a0)) - (rd 6 (hh 4) (rd 144 (hh 1) a1))) then ((rd 6 (hh 4) (rd 144 (hh 1) a0)) - (rd 6 (hh 4) (rd 144 (hh 1) a1))) else 0 - ((rd 6 (hh 4) (rd 144 (hh 1) a0)) - (rd 6 (hh 4) (rd 144 (hh 1) a1))))), some (.int v6)], [.int a2, .ref 12], (W_Ves hv hh hr hc))) 4 rfl ?_
                refine sv_Q.S (ps := [12]) (rest := []) (st' := [.int (rd 5 (hr 4) a2)]) (cs' := (W_Ves hv hh hr hc)) (q := (213, .null, 0, 0, 0)) lk_Ves_44 (t_K_read 5 rfl (hr 4) a2) rfl rfl rfl rfl rfl rfl rfl (su_Ves_12 hv hh hr hc) rfl rfl (pu_Ves_12 hv hh hr hc) ?_
                refine sv_Q.s (σ' := (217, [some (.ref 0), some (.int a0), some (.int a1), some (.int a2), some (.int (rd 144 (hh 1) a0)), some (.int (rd 144 (hh 1) a1)), some (.int (rd 5 (hr 3) a2)), some (.int (if 0 ≤ ((rd 6 (hh 4) (rd 144 (hh 1) a0)) - (rd 6 (hh 4) (rd 144 (hh 1) a1))) then ((rd 6 (hh 4) (rd 144 (hh 1) a0)) - (rd 6 (hh 4) (rd 144 (hh 1) a1))) else 0 - ((rd 6 (hh 4) (rd 144 (hh 1) a0)) - (rd 6 (hh 4) (rd 144 (hh 1) a1))))), some (.int v6)], [.int (1 : Int32), .int (rd 5 (hr 4) a2)], (W_Ves hv hh hr hc))) 1 rfl ?_
                refine sv_Q.sb rfl (fun c13 => ?_) (fun c13 => ?_)
                · refine sv_Q.s (σ' := (230, [some (.ref 0), some (.int a0), some (.int a1), some (.int a2), some (.int (rd 144 (hh 1) a0)), some (.int (rd 144 (hh 1) a1)), some (.int (rd 5 (hr 3) a2)), some (.int (if 0 ≤ ((rd 6 (hh 4) (rd 144 (hh 1) a0)) - (rd 6 (hh 4) (rd 144 (hh 1) a1))) then ((rd 6 (hh 4) (rd 144 (hh 1) a0)) - (rd 6 (hh 4) (rd 144 (hh 1) a1))) else 0 - ((rd 6 (hh 4) (rd 144 (hh 1) a0)) - (rd 6 (hh 4) (rd 144 (hh 1) a1))))), some (.int v6)], [.int (0 : Int32)], (W_Ves hv hh hr hc))) 1 rfl ?_
                  exact sv_Q.z ⟨sv_01 (0 : Int32), rfl, Or.inl rfl, rfl⟩
                · refine sv_Q.s (σ' := (222, [some (.ref 0), some (.int a0), some (.int a1), some (.int a2), some (.int (rd 144 (hh 1) a0)), some (.int (rd 144 (hh 1) a1)), some (.int (rd 5 (hr 3) a2)), some (.int (if 0 ≤ ((rd 6 (hh 4) (rd 144 (hh 1) a0)) - (rd 6 (hh 4) (rd 144 (hh 1) a1))) then ((rd 6 (hh 4) (rd 144 (hh 1) a0)) - (rd 6 (hh 4) (rd 144 (hh 1) a1))) else 0 - ((rd 6 (hh 4) (rd 144 (hh 1) a0)) - (rd 6 (hh 4) (rd 144 (hh 1) a1))))), some (.int v6)], [.int v6], (W_Ves hv hh hr hc))) 1 rfl ?_
                  refine sv_Q.sb rfl (fun c14 => ?_) (fun c14 => ?_)
                  · refine sv_Q.s (σ' := (230, [some (.ref 0), some (.int a0), some (.int a1), some (.int a2), some (.int (rd 144 (hh 1) a0)), some (.int (rd 144 (hh 1) a1)), some (.int (rd 5 (hr 3) a2)), some (.int (if 0 ≤ ((rd 6 (hh 4) (rd 144 (hh 1) a0)) - (rd 6 (hh 4) (rd 144 (hh 1) a1))) then ((rd 6 (hh 4) (rd 144 (hh 1) a0)) - (rd 6 (hh 4) (rd 144 (hh 1) a1))) else 0 - ((rd 6 (hh 4) (rd 144 (hh 1) a0)) - (rd 6 (hh 4) (rd 144 (hh 1) a1))))), some (.int v6)], [.int (0 : Int32)], (W_Ves hv hh hr hc))) 1 rfl ?_
                    exact sv_Q.z ⟨sv_01 (0 : Int32), rfl, Or.inl rfl, rfl⟩
                  · refine sv_Q.s (σ' := (230, [some (.ref 0), some (.int a0), some (.int a1), some (.int a2), some (.int (rd 144 (hh 1) a0)), some (.int (rd 144 (hh 1) a1)), some (.int (rd 5 (hr 3) a2)), some (.int (if 0 ≤ ((rd 6 (hh 4) (rd 144 (hh 1) a0)) - (rd 6 (hh 4) (rd 144 (hh 1) a1))) then ((rd 6 (hh 4) (rd 144 (hh 1) a0)) - (rd 6 (hh 4) (rd 144 (hh 1) a1))) else 0 - ((rd 6 (hh 4) (rd 144 (hh 1) a0)) - (rd 6 (hh 4) (rd 144 (hh 1) a1))))), some (.int v6)], [.int (1 : Int32)], (W_Ves hv hh hr hc))) 2 rfl ?_
                    exact sv_Q.z ⟨sv_01 (1 : Int32), rfl, Or.inr rfl, rfl⟩
      · refine sv_Q.sb rfl (fun c5 => ?_) (fun c5 => ?_)
        · refine sv_Q.s (σ' := (129, [some (.ref 0), some (.int a0), some (.int a1), some (.int a2), some (.int (rd 144 (hh 1) a0)), some (.int (rd 144 (hh 1) a1)), some (.int (rd 5 (hr 3) a2)), some (.int (if 0 ≤ ((rd 6 (hh 4) (rd 144 (hh 1) a0)) - (rd 6 (hh 4) (rd 144 (hh 1) a1))) then ((rd 6 (hh 4) (rd 144 (hh 1) a0)) - (rd 6 (hh 4) (rd 144 (hh 1) a1))) else 0 - ((rd 6 (hh 4) (rd 144 (hh 1) a0)) - (rd 6 (hh 4) (rd 144 (hh 1) a1))))), none], [.int (0 : Int32)], (W_Ves hv hh hr hc))) 1 rfl ?_
          exact sv_Q.z rfl
        · refine sv_Q.s (σ' := (129, [some (.ref 0), some (.int a0), some (.int a1), some (.int a2), some (.int (rd 144 (hh 1) a0)), some (.int (rd 144 (hh 1) a1)), some (.int (rd 5 (hr 3) a2)), some (.int (if 0 ≤ ((rd 6 (hh 4) (rd 144 (hh 1) a0)) - (rd 6 (hh 4) (rd 144 (hh 1) a1))) then ((rd 6 (hh 4) (rd 144 (hh 1) a0)) - (rd 6 (hh 4) (rd 144 (hh 1) a1))) else 0 - ((rd 6 (hh 4) (rd 144 (hh 1) a0)) - (rd 6 (hh 4) (rd 144 (hh 1) a1))))), none], [.int (1 : Int32)], (W_Ves hv hh hr hc))) 2 rfl ?_
          exact sv_Q.z rfl
    · refine sv_Q.sb rfl (fun c3 => ?_) (fun c3 => ?_)
      · refine sv_Q.s (σ' := (121, [some (.ref 0), some (.int a0), some (.int a1), some (.int a2), some (.int (rd 144 (hh 1) a0)), some (.int (rd 144 (hh 1) a1)), some (.int (rd 5 (hr 3) a2)), some (.int (if 0 ≤ ((rd 6 (hh 4) (rd 144 (hh 1) a0)) - (rd 6 (hh 4) (rd 144 (hh 1) a1))) then ((rd 6 (hh 4) (rd 144 (hh 1) a0)) - (rd 6 (hh 4) (rd 144 (hh 1) a1))) else 0 - ((rd 6 (hh 4) (rd 144 (hh 1) a0)) - (rd 6 (hh 4) (rd 144 (hh 1) a1))))), none], [.int (0 : Int32), .int v2], (W_Ves hv hh hr hc))) 1 rfl ?_
        exact sv_Q.z rfl
      · refine sv_Q.s (σ' := (121, [some (.ref 0), some (.int a0), some (.int a1), some (.int a2), some (.int (rd 144 (hh 1) a0)), some (.int (rd 144 (hh 1) a1)), some (.int (rd 5 (hr 3) a2)), some (.int (if 0 ≤ ((rd 6 (hh 4) (rd 144 (hh 1) a0)) - (rd 6 (hh 4) (rd 144 (hh 1) a1))) then ((rd 6 (hh 4) (rd 144 (hh 1) a0)) - (rd 6 (hh 4) (rd 144 (hh 1) a1))) else 0 - ((rd 6 (hh 4) (rd 144 (hh 1) a0)) - (rd 6 (hh 4) (rd 144 (hh 1) a1))))), none], [.int (1 : Int32), .int v2], (W_Ves hv hh hr hc))) 2 rfl ?_
        exact sv_Q.z rfl
  · refine sv_Q.sb rfl (fun c1 => ?_) (fun c1 => ?_)
    · refine sv_Q.s (σ' := (95, [some (.ref 0), some (.int a0), some (.int a1), some (.int a2), some (.int (rd 144 (hh 1) a0)), some (.int (rd 144 (hh 1) a1)), some (.int (rd 5 (hr 3) a2)), some (.int (if 0 ≤ ((rd 6 (hh 4) (rd 144 (hh 1) a0)) - (rd 6 (hh 4) (rd 144 (hh 1) a1))) then ((rd 6 (hh 4) (rd 144 (hh 1) a0)) - (rd 6 (hh 4) (rd 144 (hh 1) a1))) else 0 - ((rd 6 (hh 4) (rd 144 (hh 1) a0)) - (rd 6 (hh 4) (rd 144 (hh 1) a1))))), none], [.int (0 : Int32)], (W_Ves hv hh hr hc))) 1 rfl ?_
      exact sv_Q.z rfl
    · refine sv_Q.s (σ' := (95, [some (.ref 0), some (.int a0), some (.int a1), some (.int a2), some (.int (rd 144 (hh 1) a0)), some (.int (rd 144 (hh 1) a1)), some (.int (rd 5 (hr 3) a2)), some (.int (if 0 ≤ ((rd 6 (hh 4) (rd 144 (hh 1) a0)) - (rd 6 (hh 4) (rd 144 (hh 1) a1))) then ((rd 6 (hh 4) (rd 144 (hh 1) a0)) - (rd 6 (hh 4) (rd 144 (hh 1) a1))) else 0 - ((rd 6 (hh 4) (rd 144 (hh 1) a0)) - (rd 6 (hh 4) (rd 144 (hh 1) a1))))), none], [.int (1 : Int32)], (W_Ves hv hh hr hc))) 2 rfl ?_
      exact sv_Q.z rfl
theorem t_Ves_isFar {X : Nat × (Nat → Int32)} (hv hh hr hc : Nat → Nat → Int32) (a0 : Int32) (a1 : Int32) (a2 : Int32) : sv_R X 2 M_Ves_isFar [.ref 0, .int a0, .int a1, .int a2] (W_Ves hv hh hr hc) (some (.int (F_Ves_isFar a0 a1 a2 hh hr))) (W_Ves hv hh hr hc) := r_Ves_isFar hv hh hr hc a0 a1 a2 _ rfl
theorem b_Ves_isFar (a0 : Int32) (a1 : Int32) (a2 : Int32) (hh hr : Nat → Nat → Int32) : sv_01 (F_Ves_isFar a0 a1 a2 hh hr) := by
  unfold F_Ves_isFar
  try simp only [sv_let]
  repeat' split
  all_goals first | exact Or.inl rfl | exact Or.inr rfl
def L_Ves_nearest_3 (N : Nat) : Nat → Int32 → Int32 → Int32 → Int32 → (Nat → Nat → Int32) → (Nat → Nat → Int32) → (Nat → Nat → Int32) → Option ((Unit) ⊕ (Int32))
  | 0, _, _, _, _, _, _, _ => none
  | n + 1, x1, x2, x3, x4, hh, hr, hc => (if (hc 0 0) ≤ x4 then (some (.inl ())) else (sv_let (if x4 = x3 then (0 : Int32) else (if (F_Cargo_lies x4 hc) = 0 then (0 : Int32) else (F_Rules_levelOf x1 (F_Cargo_kindOf x4 hc) hr))) fun (v4 : Int32) => (if v4 = 0 then (L_Ves_nearest_3 N n x1 x2 x3 (x4 + (1 : Int32)) hh hr hc) else (if ¬ (F_Ves_isFar x2 (F_Cargo_placeOf x4 hc) v4 hh hr) = 0 then (L_Ves_nearest_3 N n x1 x2 x3 (x4 + (1 : Int32)) hh hr hc) else (some (.inr x4))))))
theorem l_Ves_nearest_3 {X : Nat × (Nat → Int32)} (N : Nat) : ∀ (n : Nat) (x1 : Int32) (x2 : Int32) (x3 : Int32) (x4 : Int32) (hv hh hr hc : Nat → Nat → Int32), sv_Q X 2 M_Ves_nearest (3, [some (.ref 0), some (.int x1), some (.int x2), some (.int x3), some (.int x4), none], [], (W_Ves hv hh hr hc)) (L_Ves_nearest_3 N n x1 x2 x3 x4 hh hr hc) (sv_K2 (fun (v : Unit) => (89, [none, none, none, none, none, none], [], (W_Ves hv hh hr hc))) (sv_KR M_Ves_nearest (fun (x : Int32) => (some (.int x), (W_Ves hv hh hr hc))))) := by
  intro n
  induction n with
  | zero => intro x1 x2 x3 x4 hv hh hr hc; unfold L_Ves_nearest_3; exact sv_Q.non
  | succ n ih =>
    intro x1 x2 x3 x4 hv hh hr hc
    unfold L_Ves_nearest_3
    refine sv_Q.s (σ' := (12, [some (.ref 0), some (.int x1), some (.int x2), some (.int x3), some (.int x4), none], [.int (hc 0 0), .int x4], (W_Ves hv hh hr hc))) 4 rfl ?_
    refine sv_Q.b rfl (fun c1 => ?_) (fun c1 => ?_)
    · refine sv_Q.f (lo' := [none, none, none, none, none, none]) trivial ?_
      exact sv_Q.z rfl
    · refine sv_Q.s (σ' := (18, [some (.ref 0), some (.int x1), some (.int x2), some (.int x3), some (.int x4), none], [.int x3, .int x4], (W_Ves hv hh hr hc))) 2 rfl ?_
      refine sv_Q.l (fun v4 => (54, [some (.ref 0), some (.int x1), some (.int x2), some (.int x3), some (.int x4), none], [.int v4], (W_Ves hv hh hr hc))) (fun v4 => ?_) ?_
      · refine sv_Q.s (σ' := (58, [some (.ref 0), some (.int x1), some (.int x2), some (.int x3), some (.int x4), some (.int v4)], [.int v4], (W_Ves hv hh hr hc))) 2 rfl ?_
        refine sv_Q.b rfl (fun c5 => ?_) (fun c5 => ?_)
        · refine sv_Q.s (σ' := (3, [some (.ref 0), some (.int x1), some (.int x2), some (.int x3), some (.int (x4 + (1 : Int32))), some (.int v4)], [], (W_Ves hv hh hr hc))) 2 rfl ?_
          refine sv_Q.f (lo' := [some (.ref 0), some (.int x1), some (.int x2), some (.int x3), some (.int (x4 + (1 : Int32))), none]) ⟨rfl, ⟨rfl, ⟨rfl, ⟨rfl, ⟨rfl, trivial⟩⟩⟩⟩⟩ ?_
          exact ih x1 x2 x3 (x4 + (1 : Int32)) hv hh hr hc
        · refine sv_Q.s (σ' := (69, [some (.ref 0), some (.int x1), some (.int x2), some (.int x3), some (.int x4), some (.int v4)], [.int x4, .ref 16, .int x2, .ref 0], (W_Ves hv hh hr hc))) 5 rfl ?_
          refine sv_Q.V (b := 0) (av := [.int x4]) (ps := [16, 17, 18, 19, 20, 21]) (rest := [.int x2, .ref 0]) (cs1 := (W_Cargo hc)) (cs2 := (W_Cargo hc)) (st' := [.int (F_Cargo_placeOf x4 hc), .int x2, .ref 0]) (cs' := (W_Ves hv hh hr hc)) (q := (69, .null, 0, 0, 0)) lk_Ves_93 (t_Cargo_placeOf hc x4) rfl rfl rfl rfl rfl (Or.inl ⟨0, _, _, rfl, rfl, rfl⟩) rfl rfl (sc_Ves_Cargo_3 hv hh hr hc) rfl rfl (pc_Ves_Cargo_3 hv hh hr hc hc) ?_
          refine sv_Q.s (σ' := (74, [some (.ref 0), some (.int x1), some (.int x2), some (.int x3), some (.int x4), some (.int v4)], [.int v4, .int (F_Cargo_placeOf x4 hc), .int x2, .ref 0], (W_Ves hv hh hr hc))) 1 rfl ?_
          refine sv_Q.V (b := 0) (av := [.int x2, .int (F_Cargo_placeOf x4 hc), .int v4]) (ps := [0, 1, 2, 3, 4, 5, 6, 7, 8, 9, 10, 11, 12, 13, 14, 15, 16, 17, 18, 19, 20, 21]) (rest := []) (cs1 := (W_Ves hv hh hr hc)) (cs2 := (W_Ves hv hh hr hc)) (st' := [.int (F_Ves_isFar x2 (F_Cargo_placeOf x4 hc) v4 hh hr)]) (cs' := (W_Ves hv hh hr hc)) (q := (74, .null, 0, 0, 0)) lk_Ves_96 (t_Ves_isFar hv hh hr hc x2 (F_Cargo_placeOf x4 hc) v4) rfl rfl rfl rfl rfl (Or.inl ⟨10, _, _, rfl, rfl, rfl⟩) rfl rfl (sc_Ves_Ves_0 hv hh hr hc) rfl rfl (pc_Ves_Ves_0 hv hh hr hc hv hh hr hc) ?_
          refine sv_Q.b rfl (fun c6 => ?_) (fun c6 => ?_)
          · refine sv_Q.s (σ' := (3, [some (.ref 0), some (.int x1), some (.int x2), some (.int x3), some (.int (x4 + (1 : Int32))), some (.int v4)], [], (W_Ves hv hh hr hc))) 2 rfl ?_
            refine sv_Q.f (lo' := [some (.ref 0), some (.int x1), some (.int x2), some (.int x3), some (.int (x4 + (1 : Int32))), none]) ⟨rfl, ⟨rfl, ⟨rfl, ⟨rfl, ⟨rfl, trivial⟩⟩⟩⟩⟩ ?_
            exact ih x1 x2 x3 (x4 + (1 : Int32)) hv hh hr hc
          · refine sv_Q.s (σ' := (82, [some (.ref 0), some (.int x1), some (.int x2), some (.int x3), some (.int x4), some (.int v4)], [.int x4], (W_Ves hv hh hr hc))) 1 rfl ?_
            exact sv_Q.z ⟨True, rfl, trivial, rfl⟩
      · refine sv_Q.sb rfl (fun c2 => ?_) (fun c2 => ?_)
        · refine sv_Q.s (σ' := (54, [some (.ref 0), some (.int x1), some (.int x2), some (.int x3), some (.int x4), none], [.int (0 : Int32)], (W_Ves hv hh hr hc))) 1 rfl ?_
          exact sv_Q.z rfl
        · refine sv_Q.s (σ' := (27, [some (.ref 0), some (.int x1), some (.int x2), some (.int x3), some (.int x4), none], [.int x4, .ref 16], (W_Ves hv hh hr hc))) 3 rfl ?_
          refine sv_Q.V (b := 0) (av := [.int x4]) (ps := [16, 17, 18, 19, 20, 21]) (rest := []) (cs1 := (W_Cargo hc)) (cs2 := (W_Cargo hc)) (st' := [.int (F_Cargo_lies x4 hc)]) (cs' := (W_Ves hv hh hr hc)) (q := (27, .null, 0, 0, 0)) lk_Ves_82 (t_Cargo_lies hc x4) rfl rfl rfl rfl rfl (Or.inl ⟨0, _, _, rfl, rfl, rfl⟩) rfl rfl (sc_Ves_Cargo_3 hv hh hr hc) rfl rfl (pc_Ves_Cargo_3 hv hh hr hc hc) ?_
          refine sv_Q.sb rfl (fun c3 => ?_) (fun c3 => ?_)
          · refine sv_Q.s (σ' := (54, [some (.ref 0), some (.int x1), some (.int x2), some (.int x3), some (.int x4), none], [.int (0 : Int32)], (W_Ves hv hh hr hc))) 1 rfl ?_
            exact sv_Q.z rfl
          · refine sv_Q.s (σ' := (44, [some (.ref 0), some (.int x1), some (.int x2), some (.int x3), some (.int x4), none], [.int x4, .ref 16, .int x1, .ref 8], (W_Ves hv hh hr hc))) 6 rfl ?_
            refine sv_Q.V (b := 0) (av := [.int x4]) (ps := [16, 17, 18, 19, 20, 21]) (rest := [.int x1, .ref 8]) (cs1 := (W_Cargo hc)) (cs2 := (W_Cargo hc)) (st' := [.int (F_Cargo_kindOf x4 hc), .int x1, .ref 8]) (cs' := (W_Ves hv hh hr hc)) (q := (44, .null, 0, 0, 0)) lk_Ves_86 (t_Cargo_kindOf hc x4) rfl rfl rfl rfl rfl (Or.inl ⟨0, _, _, rfl, rfl, rfl⟩) rfl rfl (sc_Ves_Cargo_3 hv hh hr hc) rfl rfl (pc_Ves_Cargo_3 hv hh hr hc hc) ?_
            refine sv_Q.V (b := 0) (av := [.int x1, .int (F_Cargo_kindOf x4 hc)]) (ps := [8, 9, 10, 11, 12, 13, 14, 15]) (rest := []) (cs1 := (W_Rules hr)) (cs2 := (W_Rules hr)) (st' := [.int (F_Rules_levelOf x1 (F_Cargo_kindOf x4 hc) hr)]) (cs' := (W_Ves hv hh hr hc)) (q := (47, .null, 0, 0, 0)) lk_Ves_89 (t_Rules_levelOf hr x1 (F_Cargo_kindOf x4 hc)) rfl rfl rfl rfl rfl (Or.inl ⟨6, _, _, rfl, rfl, rfl⟩) rfl rfl (sc_Ves_Rules_2 hv hh hr hc) rfl rfl (pc_Ves_Rules_2 hv hh hr hc hr) ?_
            refine sv_Q.s (σ' := (54, [some (.ref 0), some (.int x1), some (.int x2), some (.int x3), some (.int x4), none], [.int (F_Rules_levelOf x1 (F_Cargo_kindOf x4 hc) hr)], (W_Ves hv hh hr hc))) 1 rfl ?_
            exact sv_Q.z rfl
def F_Ves_nearest (N : Nat) (a0 : Int32) (a1 : Int32) (a2 : Int32) (hh hr hc : Nat → Nat → Int32) : Option (Int32) := (sv_bs (L_Ves_nearest_3 N N a0 a1 a2 (0 : Int32) hh hr hc) id fun (v7 : Unit) => (some (-1 : Int32)))
theorem r_Ves_nearest {X : Nat × (Nat → Int32)} (N : Nat) (hv hh hr hc : Nat → Nat → Int32) (a0 : Int32) (a1 : Int32) (a2 : Int32) : ∀ x, (F_Ves_nearest N a0 a1 a2 hh hr hc) = some x → sv_R X 3 M_Ves_nearest [.ref 0, .int a0, .int a1, .int a2] (W_Ves hv hh hr hc) (some (.int x)) (W_Ves hv hh hr hc) := by
  refine sv_Q.R (res := (fun (x : Int32) => (some (.int x), (W_Ves hv hh hr hc)))) g_Ves_nearest rfl ?_
  unfold F_Ves_nearest
  refine sv_Q.s (σ' := (3, [some (.ref 0), some (.int a0), some (.int a1), some (.int a2), some (.int (0 : Int32)), none], [], (W_Ves hv hh hr hc))) 2 rfl ?_
  refine sv_Q.bs (l_Ves_nearest_3 N N a0 a1 a2 (0 : Int32) hv hh hr hc) (fun v7 => ?_) (fun r σ' h => h)
  · refine sv_Q.s (σ' := (90, [none, none, none, none, none, none], [.int (-1 : Int32)], (W_Ves hv hh hr hc))) 1 rfl ?_
    exact sv_Q.z ⟨True, rfl, trivial, rfl⟩
def F_Ves_areNear (a0 : Int32) (a1 : Int32) (hh hr hc : Nat → Nat → Int32) : Int32 := (sv_let (if (F_Cargo_lies a0 hc) = 0 then (0 : Int32) else (if (F_Cargo_lies a1 hc) = 0 then (0 : Int32) else (F_Rules_levelOf (F_Cargo_kindOf a0 hc) (F_Cargo_kindOf a1 hc) hr))) fun (v3 : Int32) => (if v3 = 0 then (0 : Int32) else (if ¬ (F_Ves_isFar (F_Cargo_placeOf a0 hc) (F_Cargo_placeOf a1 hc) v3 hh hr) = 0 then (0 : Int32) else (1 : Int32))))
theorem r_Ves_areNear {X : Nat × (Nat → Int32)} (hv hh hr hc : Nat → Nat → Int32) (a0 : Int32) (a1 : Int32) : ∀ x, some (F_Ves_areNear a0 a1 hh hr hc) = some x → sv_R X 3 M_Ves_areNear [.ref 0, .int a0, .int a1] (W_Ves hv hh hr hc) (some (.int x)) (W_Ves hv hh hr hc) := by
  refine sv_Q.R (res := (fun (x : Int32) => (some (.int x), (W_Ves hv hh hr hc)))) g_Ves_areNear rfl ?_
  unfold F_Ves_areNear
  refine sv_Q.s (σ' := (5, [some (.ref 0), some (.int a0), some (.int a1), none], [.int a0, .ref 16], (W_Ves hv hh hr hc))) 3 rfl ?_
  refine sv_Q.V (b := 0) (av := [.int a0]) (ps := [16, 17, 18, 19, 20, 21]) (rest := []) (cs1 := (W_Cargo hc)) (cs2 := (W_Cargo hc)) (st' := [.int (F_Cargo_lies a0 hc)]) (cs' := (W_Ves hv hh hr hc)) (q := (5, .null, 0, 0, 0)) lk_Ves_82 (t_Cargo_lies hc a0) rfl rfl rfl rfl rfl (Or.inl ⟨0, _, _, rfl, rfl, rfl⟩) rfl rfl (sc_Ves_Cargo_3 hv hh hr hc) rfl rfl (pc_Ves_Cargo_3 hv hh hr hc hc) ?_
  refine sv_Q.sl (fun v3 => (49, [some (.ref 0), some (.int a0), some (.int a1), none], [.int v3], (W_Ves hv hh hr hc))) (fun v3 => ?_) ?_
  · refine sv_Q.s (σ' := (51, [some (.ref 0), some (.int a0), some (.int a1), some (.int v3)], [.int v3], (W_Ves hv hh hr hc))) 2 rfl ?_
    refine sv_Q.sb rfl (fun c4 => ?_) (fun c4 => ?_)
    · refine sv_Q.s (σ' := (83, [some (.ref 0), some (.int a0), some (.int a1), some (.int v3)], [.int (0 : Int32)], (W_Ves hv hh hr hc))) 1 rfl ?_
      exact sv_Q.z ⟨sv_01 (0 : Int32), rfl, Or.inl rfl, rfl⟩
    · refine sv_Q.s (σ' := (60, [some (.ref 0), some (.int a0), some (.int a1), some (.int v3)], [.int a0, .ref 16, .ref 0], (W_Ves hv hh hr hc))) 4 rfl ?_
      refine sv_Q.V (b := 0) (av := [.int a0]) (ps := [16, 17, 18, 19, 20, 21]) (rest := [.ref 0]) (cs1 := (W_Cargo hc)) (cs2 := (W_Cargo hc)) (st' := [.int (F_Cargo_placeOf a0 hc), .ref 0]) (cs' := (W_Ves hv hh hr hc)) (q := (60, .null, 0, 0, 0)) lk_Ves_93 (t_Cargo_placeOf hc a0) rfl rfl rfl rfl rfl (Or.inl ⟨0, _, _, rfl, rfl, rfl⟩) rfl rfl (sc_Ves_Cargo_3 hv hh hr hc) rfl rfl (pc_Ves_Cargo_3 hv hh hr hc hc) ?_
      refine sv_Q.s (σ' := (68, [some (.ref 0), some (.int a0), some (.int a1), some (.int v3)], [.int a1, .ref 16, .int (F_Cargo_placeOf a0 hc), .ref 0], (W_Ves hv hh hr hc))) 3 rfl ?_
      refine sv_Q.V (b := 0) (av := [.int a1]) (ps := [16, 17, 18, 19, 20, 21]) (rest := [.int (F_Cargo_placeOf a0 hc), .ref 0]) (cs1 := (W_Cargo hc)) (cs2 := (W_Cargo hc)) (st' := [.int (F_Cargo_placeOf a1 hc), .int (F_Cargo_placeOf a0 hc), .ref 0]) (cs' := (W_Ves hv hh hr hc)) (q := (68, .null, 0, 0, 0)) lk_Ves_93 (t_Cargo_placeOf hc a1) rfl rfl rfl rfl rfl (Or.inl ⟨0, _, _, rfl, rfl, rfl⟩) rfl rfl (sc_Ves_Cargo_3 hv hh hr hc) rfl rfl (pc_Ves_Cargo_3 hv hh hr hc hc) ?_
      refine sv_Q.s (σ' := (72, [some (.ref 0), some (.int a0), some (.int a1), some (.int v3)], [.int v3, .int (F_Cargo_placeOf a1 hc), .int (F_Cargo_placeOf a0 hc), .ref 0], (W_Ves hv hh hr hc))) 1 rfl ?_
      refine sv_Q.V (b := 0) (av := [.int (F_Cargo_placeOf a0 hc), .int (F_Cargo_placeOf a1 hc), .int v3]) (ps := [0, 1, 2, 3, 4, 5, 6, 7, 8, 9, 10, 11, 12, 13, 14, 15, 16, 17, 18, 19, 20, 21]) (rest := []) (cs1 := (W_Ves hv hh hr hc)) (cs2 := (W_Ves hv hh hr hc)) (st' := [.int (F_Ves_isFar (F_Cargo_placeOf a0 hc) (F_Cargo_placeOf a1 hc) v3 hh hr)]) (cs' := (W_Ves hv hh hr hc)) (q := (72, .null, 0, 0, 0)) lk_Ves_96 (t_Ves_isFar hv hh hr hc (F_Cargo_placeOf a0 hc) (F_Cargo_placeOf a1 hc) v3) rfl rfl rfl rfl rfl (Or.inl ⟨10, _, _, rfl, rfl, rfl⟩) rfl rfl (sc_Ves_Ves_0 hv hh hr hc) rfl rfl (pc_Ves_Ves_0 hv hh hr hc hv hh hr hc) ?_
      refine sv_Q.sb rfl (fun c5 => ?_) (fun c5 => ?_)
      · refine sv_Q.s (σ' := (83, [some (.ref 0), some (.int a0), some (.int a1), some (.int v3)], [.int (0 : Int32)], (W_Ves hv hh hr hc))) 1 rfl ?_
        exact sv_Q.z ⟨sv_01 (0 : Int32), rfl, Or.inl rfl, rfl⟩
      · refine sv_Q.s (σ' := (83, [some (.ref 0), some (.int a0), some (.int a1), some (.int v3)], [.int (1 : Int32)], (W_Ves hv hh hr hc))) 2 rfl ?_
        exact sv_Q.z ⟨sv_01 (1 : Int32), rfl, Or.inr rfl, rfl⟩
  · refine sv_Q.sb rfl (fun c1 => ?_) (fun c1 => ?_)
    · refine sv_Q.s (σ' := (49, [some (.ref 0), some (.int a0), some (.int a1), none], [.int (0 : Int32)], (W_Ves hv hh hr hc))) 1 rfl ?_
      exact sv_Q.z rfl
    · refine sv_Q.s (σ' := (16, [some (.ref 0), some (.int a0), some (.int a1), none], [.int a1, .ref 16], (W_Ves hv hh hr hc))) 3 rfl ?_
      refine sv_Q.V (b := 0) (av := [.int a1]) (ps := [16, 17, 18, 19, 20, 21]) (rest := []) (cs1 := (W_Cargo hc)) (cs2 := (W_Cargo hc)) (st' := [.int (F_Cargo_lies a1 hc)]) (cs' := (W_Ves hv hh hr hc)) (q := (16, .null, 0, 0, 0)) lk_Ves_82 (t_Cargo_lies hc a1) rfl rfl rfl rfl rfl (Or.inl ⟨0, _, _, rfl, rfl, rfl⟩) rfl rfl (sc_Ves_Cargo_3 hv hh hr hc) rfl rfl (pc_Ves_Cargo_3 hv hh hr hc hc) ?_
      refine sv_Q.sb rfl (fun c2 => ?_) (fun c2 => ?_)
      · refine sv_Q.s (σ' := (49, [some (.ref 0), some (.int a0), some (.int a1), none], [.int (0 : Int32)], (W_Ves hv hh hr hc))) 1 rfl ?_
        exact sv_Q.z rfl
      · refine sv_Q.s (σ' := (31, [some (.ref 0), some (.int a0), some (.int a1), none], [.int a0, .ref 16, .ref 8], (W_Ves hv hh hr hc))) 5 rfl ?_
        refine sv_Q.V (b := 0) (av := [.int a0]) (ps := [16, 17, 18, 19, 20, 21]) (rest := [.ref 8]) (cs1 := (W_Cargo hc)) (cs2 := (W_Cargo hc)) (st' := [.int (F_Cargo_kindOf a0 hc), .ref 8]) (cs' := (W_Ves hv hh hr hc)) (q := (31, .null, 0, 0, 0)) lk_Ves_86 (t_Cargo_kindOf hc a0) rfl rfl rfl rfl rfl (Or.inl ⟨0, _, _, rfl, rfl, rfl⟩) rfl rfl (sc_Ves_Cargo_3 hv hh hr hc) rfl rfl (pc_Ves_Cargo_3 hv hh hr hc hc) ?_
        refine sv_Q.s (σ' := (39, [some (.ref 0), some (.int a0), some (.int a1), none], [.int a1, .ref 16, .int (F_Cargo_kindOf a0 hc), .ref 8], (W_Ves hv hh hr hc))) 3 rfl ?_
        refine sv_Q.V (b := 0) (av := [.int a1]) (ps := [16, 17, 18, 19, 20, 21]) (rest := [.int (F_Cargo_kindOf a0 hc), .ref 8]) (cs1 := (W_Cargo hc)) (cs2 := (W_Cargo hc)) (st' := [.int (F_Cargo_kindOf a1 hc), .int (F_Cargo_kindOf a0 hc), .ref 8]) (cs' := (W_Ves hv hh hr hc)) (q := (39, .null, 0, 0, 0)) lk_Ves_86 (t_Cargo_kindOf hc a1) rfl rfl rfl rfl rfl (Or.inl ⟨0, _, _, rfl, rfl, rfl⟩) rfl rfl (sc_Ves_Cargo_3 hv hh hr hc) rfl rfl (pc_Ves_Cargo_3 hv hh hr hc hc) ?_
        refine sv_Q.V (b := 0) (av := [.int (F_Cargo_kindOf a0 hc), .int (F_Cargo_kindOf a1 hc)]) (ps := [8, 9, 10, 11, 12, 13, 14, 15]) (rest := []) (cs1 := (W_Rules hr)) (cs2 := (W_Rules hr)) (st' := [.int (F_Rules_levelOf (F_Cargo_kindOf a0 hc) (F_Cargo_kindOf a1 hc) hr)]) (cs' := (W_Ves hv hh hr hc)) (q := (42, .null, 0, 0, 0)) lk_Ves_89 (t_Rules_levelOf hr (F_Cargo_kindOf a0 hc) (F_Cargo_kindOf a1 hc)) rfl rfl rfl rfl rfl (Or.inl ⟨6, _, _, rfl, rfl, rfl⟩) rfl rfl (sc_Ves_Rules_2 hv hh hr hc) rfl rfl (pc_Ves_Rules_2 hv hh hr hc hr) ?_
        refine sv_Q.s (σ' := (49, [some (.ref 0), some (.int a0), some (.int a1), none], [.int (F_Rules_levelOf (F_Cargo_kindOf a0 hc) (F_Cargo_kindOf a1 hc) hr)], (W_Ves hv hh hr hc))) 1 rfl ?_
        exact sv_Q.z rfl
theorem t_Ves_areNear {X : Nat × (Nat → Int32)} (hv hh hr hc : Nat → Nat → Int32) (a0 : Int32) (a1 : Int32) : sv_R X 3 M_Ves_areNear [.ref 0, .int a0, .int a1] (W_Ves hv hh hr hc) (some (.int (F_Ves_areNear a0 a1 hh hr hc))) (W_Ves hv hh hr hc) := r_Ves_areNear hv hh hr hc a0 a1 _ rfl
theorem b_Ves_areNear (a0 : Int32) (a1 : Int32) (hh hr hc : Nat → Nat → Int32) : sv_01 (F_Ves_areNear a0 a1 hh hr hc) := by
  unfold F_Ves_areNear
  try simp only [sv_let]
  repeat' split
  all_goals first | exact Or.inl rfl | exact Or.inr rfl | apply b_Cargo_lies | apply b_Ves_isFar
def L_Ves_stackWeight_6 (N : Nat) : Nat → Int32 → Int32 → Int32 → Int32 → Int32 → (Nat → Nat → Int32) → Option (Int32)
  | 0, _, _, _, _, _, _ => none
  | n + 1, x1, x2, x3, x4, x5, hc => (if x2 ≤ x5 then (some x4) else (if (F_Cargo_boxAt (x1 + x5) hc) = (-1 : Int32) then (L_Ves_stackWeight_6 N n x1 x2 x3 x4 (x5 + (1 : Int32)) hc) else (if (F_Cargo_boxAt (x1 + x5) hc) = x3 then (L_Ves_stackWeight_6 N n x1 x2 x3 x4 (x5 + (1 : Int32)) hc) else (L_Ves_stackWeight_6 N n x1 x2 x3 (x4 + (F_Cargo_weightOf (F_Cargo_boxAt (x1 + x5) hc) hc)) (x5 + (1 : Int32)) hc))))
theorem l_Ves_stackWeight_6 {X : Nat × (Nat → Int32)} (N : Nat) : ∀ (n : Nat) (x1 : Int32) (x2 : Int32) (x3 : Int32) (x4 : Int32) (x5 : Int32) (hv hh hr hc : Nat → Nat → Int32), sv_Q X 2 M_Ves_stackWeight (6, [some (.ref 0), some (.int x1), some (.int x2), some (.int x3), some (.int x4), some (.int x5), none], [], (W_Ves hv hh hr hc)) (L_Ves_stackWeight_6 N n x1 x2 x3 x4 x5 hc) (fun v σ' => σ' = (57, [none, none, none, none, some (.int v), none, none], [], (W_Ves hv hh hr hc))) := by
  intro n
  induction n with
  | zero => intro x1 x2 x3 x4 x5 hv hh hr hc; unfold L_Ves_stackWeight_6; exact sv_Q.non
  | succ n ih =>
    intro x1 x2 x3 x4 x5 hv hh hr hc
    unfold L_Ves_stackWeight_6
    refine sv_Q.s (σ' := (9, [some (.ref 0), some (.int x1), some (.int x2), some (.int x3), some (.int x4), some (.int x5), none], [.int x2, .int x5], (W_Ves hv hh hr hc))) 2 rfl ?_
    refine sv_Q.b rfl (fun c1 => ?_) (fun c1 => ?_)
    · refine sv_Q.f (lo' := [none, none, none, none, some (.int x4), none, none]) ⟨rfl, trivial⟩ ?_
      exact sv_Q.z rfl
    · refine sv_Q.s (σ' := (20, [some (.ref 0), some (.int x1), some (.int x2), some (.int x3), some (.int x4), some (.int x5), none], [.int (x1 + x5), .ref 16], (W_Ves hv hh hr hc))) 5 rfl ?_
      refine sv_Q.V (b := 0) (av := [.int (x1 + x5)]) (ps := [16, 17, 18, 19, 20, 21]) (rest := []) (cs1 := (W_Cargo hc)) (cs2 := (W_Cargo hc)) (st' := [.int (F_Cargo_boxAt (x1 + x5) hc)]) (cs' := (W_Ves hv hh hr hc)) (q := (20, .null, 0, 0, 0)) lk_Ves_100 (t_Cargo_boxAt hc (x1 + x5)) rfl rfl rfl rfl rfl (Or.inl ⟨0, _, _, rfl, rfl, rfl⟩) rfl rfl (sc_Ves_Cargo_3 hv hh hr hc) rfl rfl (pc_Ves_Cargo_3 hv hh hr hc hc) ?_
      refine sv_Q.s (σ' := (28, [some (.ref 0), some (.int x1), some (.int x2), some (.int x3), some (.int x4), some (.int x5), some (.int (F_Cargo_boxAt (x1 + x5) hc))], [.int (-1 : Int32), .int (F_Cargo_boxAt (x1 + x5) hc)], (W_Ves hv hh hr hc))) 3 rfl ?_
      refine sv_Q.b rfl (fun c2 => ?_) (fun c2 => ?_)
      · refine sv_Q.s (σ' := (6, [some (.ref 0), some (.int x1), some (.int x2), some (.int x3), some (.int x4), some (.int (x5 + (1 : Int32))), some (.int (F_Cargo_boxAt (x1 + x5) hc))], [], (W_Ves hv hh hr hc))) 2 rfl ?_
        refine sv_Q.f (lo' := [some (.ref 0), some (.int x1), some (.int x2), some (.int x3), some (.int x4), some (.int (x5 + (1 : Int32))), none]) ⟨rfl, ⟨rfl, ⟨rfl, ⟨rfl, ⟨rfl, ⟨rfl, trivial⟩⟩⟩⟩⟩⟩ ?_
        exact ih x1 x2 x3 x4 (x5 + (1 : Int32)) hv hh hr hc
      · refine sv_Q.s (σ' := (34, [some (.ref 0), some (.int x1), some (.int x2), some (.int x3), some (.int x4), some (.int x5), some (.int (F_Cargo_boxAt (x1 + x5) hc))], [.int x3, .int (F_Cargo_boxAt (x1 + x5) hc)], (W_Ves hv hh hr hc))) 2 rfl ?_
        refine sv_Q.b rfl (fun c3 => ?_) (fun c3 => ?_)
        · refine sv_Q.s (σ' := (6, [some (.ref 0), some (.int x1), some (.int x2), some (.int x3), some (.int x4), some (.int (x5 + (1 : Int32))), some (.int (F_Cargo_boxAt (x1 + x5) hc))], [], (W_Ves hv hh hr hc))) 2 rfl ?_
          refine sv_Q.f (lo' := [some (.ref 0), some (.int x1), some (.int x2), some (.int x3), some (.int x4), some (.int (x5 + (1 : Int32))), none]) ⟨rfl, ⟨rfl, ⟨rfl, ⟨rfl, ⟨rfl, ⟨rfl, trivial⟩⟩⟩⟩⟩⟩ ?_
          exact ih x1 x2 x3 x4 (x5 + (1 : Int32)) hv hh hr hc
        · refine sv_Q.s (σ' := (45, [some (.ref 0), some (.int x1), some (.int x2), some (.int x3), some (.int x4), some (.int x5), some (.int (F_Cargo_boxAt (x1 + x5) hc))], [.int (F_Cargo_boxAt (x1 + x5) hc), .ref 16, .int x4], (W_Ves hv hh hr hc))) 4 rfl ?_
          refine sv_Q.V (b := 0) (av := [.int (F_Cargo_boxAt (x1 + x5) hc)]) (ps := [16, 17, 18, 19, 20, 21]) (rest := [.int x4]) (cs1 := (W_Cargo hc)) (cs2 := (W_Cargo hc)) (st' := [.int (F_Cargo_weightOf (F_Cargo_boxAt (x1 + x5) hc) hc), .int x4]) (cs' := (W_Ves hv hh hr hc)) (q := (45, .null, 0, 0, 0)) lk_Ves_123 (t_Cargo_weightOf hc (F_Cargo_boxAt (x1 + x5) hc)) rfl rfl rfl rfl rfl (Or.inl ⟨0, _, _, rfl, rfl, rfl⟩) rfl rfl (sc_Ves_Cargo_3 hv hh hr hc) rfl rfl (pc_Ves_Cargo_3 hv hh hr hc hc) ?_
          refine sv_Q.s (σ' := (6, [some (.ref 0), some (.int x1), some (.int x2), some (.int x3), some (.int (x4 + (F_Cargo_weightOf (F_Cargo_boxAt (x1 + x5) hc) hc))), some (.int (x5 + (1 : Int32))), some (.int (F_Cargo_boxAt (x1 + x5) hc))], [], (W_Ves hv hh hr hc))) 4 rfl ?_
          refine sv_Q.f (lo' := [some (.ref 0), some (.int x1), some (.int x2), some (.int x3), some (.int (x4 + (F_Cargo_weightOf (F_Cargo_boxAt (x1 + x5) hc) hc))), some (.int (x5 + (1 : Int32))), none]) ⟨rfl, ⟨rfl, ⟨rfl, ⟨rfl, ⟨rfl, ⟨rfl, trivial⟩⟩⟩⟩⟩⟩ ?_
          exact ih x1 x2 x3 (x4 + (F_Cargo_weightOf (F_Cargo_boxAt (x1 + x5) hc) hc)) (x5 + (1 : Int32)) hv hh hr hc
def F_Ves_stackWeight (N : Nat) (a0 : Int32) (a1 : Int32) (a2 : Int32) (hc : Nat → Nat → Int32) : Option (Int32) := (Option.bind (L_Ves_stackWeight_6 N N a0 a1 a2 (0 : Int32) (0 : Int32) hc) fun (v4 : Int32) => (some v4))
theorem r_Ves_stackWeight {X : Nat × (Nat → Int32)} (N : Nat) (hv hh hr hc : Nat → Nat → Int32) (a0 : Int32) (a1 : Int32) (a2 : Int32) : ∀ x, (F_Ves_stackWeight N a0 a1 a2 hc) = some x → sv_R X 3 M_Ves_stackWeight [.ref 0, .int a0, .int a1, .int a2] (W_Ves hv hh hr hc) (some (.int x)) (W_Ves hv hh hr hc) := by
  refine sv_Q.R (res := (fun (x : Int32) => (some (.int x), (W_Ves hv hh hr hc)))) g_Ves_stackWeight rfl ?_
  unfold F_Ves_stackWeight
  refine sv_Q.s (σ' := (6, [some (.ref 0), some (.int a0), some (.int a1), some (.int a2), some (.int (0 : Int32)), some (.int (0 : Int32)), none], [], (W_Ves hv hh hr hc))) 4 rfl ?_
  refine sv_Q.lo (fun v4 => (57, [none, none, none, none, some (.int v4), none, none], [], (W_Ves hv hh hr hc))) (fun v4 => ?_) (l_Ves_stackWeight_6 N N a0 a1 a2 (0 : Int32) (0 : Int32) hv hh hr hc)
  · refine sv_Q.s (σ' := (59, [none, none, none, none, some (.int v4), none, none], [.int v4], (W_Ves hv hh hr hc))) 1 rfl ?_
    exact sv_Q.z ⟨True, rfl, trivial, rfl⟩
def F_Ves_whyNot (N : Nat) (a0 : Int32) (a1 : Int32) (hh hr hc : Nat → Nat → Int32) : Option (Int32) := (if (F_Cargo_boxAt a1 hc) = (-1 : Int32) then (sv_let (if (F_Hull_isLowest a1 hh) = 0 then (F_Cargo_boxAt (a1 - (1 : Int32)) hc) else (-1 : Int32)) fun (v3 : Int32) => (if ¬ (F_Hull_isLowest a1 hh) = 0 then (if ¬ (F_Rules_mayLie (F_Cargo_kindOf a0 hc) (F_Hull_isDeck a1 hh) hr) = 0 then (sv_let (if (F_Hull_isDeck a1 hh) = 0 then (0 : Int32) else (1 : Int32)) fun (v7 : Int32) => (Option.bind (F_Ves_stackWeight N (F_Hull_lowestUnder a1 hh) (F_Hull_tiersOf v7 hh) a0 hc) fun (v8 : Int32) => (sv_let (if (F_Hull_isDeck a1 hh) = 0 then (hh 0 5) else (hh 0 6)) fun (v11 : Int32) => (if (v8 + (F_Cargo_weightOf a0 hc)) ≤ v11 then (if v3 = (-1 : Int32) then (Option.bind (F_Ves_nearest N (F_Cargo_kindOf a0 hc) a1 a0 hh hr hc) fun (v14 : Int32) => (if v14 = (-1 : Int32) then (some (0 : Int32)) else (some (6 : Int32)))) else (if (F_Cargo_weightOf a0 hc) ≤ (F_Cargo_weightOf v3 hc) then (Option.bind (F_Ves_nearest N (F_Cargo_kindOf a0 hc) a1 a0 hh hr hc) fun (v18 : Int32) => (if v18 = (-1 : Int32) then (some (0 : Int32)) else (some (6 : Int32)))) else (some (5 : Int32)))) else (some (4 : Int32)))))) else (some (3 : Int32))) else (if v3 = (-1 : Int32) then (some (2 : Int32)) else (if ¬ v3 = a0 then (if ¬ (F_Rules_mayLie (F_Cargo_kindOf a0 hc) (F_Hull_isDeck a1 hh) hr) = 0 then (sv_let (if (F_Hull_isDeck a1 hh) = 0 then (0 : Int32) else (1 : Int32)) fun (v25 : Int32) => (Option.bind (F_Ves_stackWeight N (F_Hull_lowestUnder a1 hh) (F_Hull_tiersOf v25 hh) a0 hc) fun (v26 : Int32) => (sv_let (if (F_Hull_isDeck a1 hh) = 0 then (hh 0 5) else (hh 0 6)) fun (v29 : Int32) => (if (v26 + (F_Cargo_weightOf a0 hc)) ≤ v29 then (if v3 = (-1 : Int32) then (Option.bind (F_Ves_nearest N (F_Cargo_kindOf a0 hc) a1 a0 hh hr hc) fun (v32 : Int32) => (if v32 = (-1 : Int32) then (some (0 : Int32)) else (some (6 : Int32)))) else (if (F_Cargo_weightOf a0 hc) ≤ (F_Cargo_weightOf v3 hc) then (Option.bind (F_Ves_nearest N (F_Cargo_kindOf a0 hc) a1 a0 hh hr hc) fun (v36 : Int32) => (if v36 = (-1 : Int32) then (some (0 : Int32)) else (some (6 : Int32)))) else (some (5 : Int32)))) else (some (4 : Int32)))))) else (some (3 : Int32))) else (some (2 : Int32)))))) else (some (1 : Int32)))
theorem r_Ves_whyNot {X : Nat × (Nat → Int32)} (N : Nat) (hv hh hr hc : Nat → Nat → Int32) (a0 : Int32) (a1 : Int32) : ∀ x, (F_Ves_whyNot N a0 a1 hh hr hc) = some x → sv_R X 4 M_Ves_whyNot [.ref 0, .int a0, .int a1] (W_Ves hv hh hr hc) (some (.int x)) (W_Ves hv hh hr hc) := by
  refine sv_Q.R (res := (fun (x : Int32) => (some (.int x), (W_Ves hv hh hr hc)))) g_Ves_whyNot rfl ?_
  unfold F_Ves_whyNot
  refine sv_Q.s (σ' := (5, [some (.ref 0), some (.int a0), some (.int a1), none, none, none, none], [.int a1, .ref 16], (W_Ves hv hh hr hc))) 3 rfl ?_
  refine sv_Q.V (b := 0) (av := [.int a1]) (ps := [16, 17, 18, 19, 20, 21]) (rest := []) (cs1 := (W_Cargo hc)) (cs2 := (W_Cargo hc)) (st' := [.int (F_Cargo_boxAt a1 hc)]) (cs' := (W_Ves hv hh hr hc)) (q := (5, .null, 0, 0, 0)) lk_Ves_100 (t_Cargo_boxAt hc a1) rfl rfl rfl rfl rfl (Or.inl ⟨0, _, _, rfl, rfl, rfl⟩) rfl rfl (sc_Ves_Cargo_3 hv hh hr hc) rfl rfl (pc_Ves_Cargo_3 hv hh hr hc hc) ?_
  refine sv_Q.s (σ' := (9, [some (.ref 0), some (.int a0), some (.int a1), none, none, none, none], [.int (-1 : Int32), .int (F_Cargo_boxAt a1 hc)], (W_Ves hv hh hr hc))) 1 rfl ?_
  refine sv_Q.b rfl (fun c1 => ?_) (fun c1 => ?_)
  · refine sv_Q.s (σ' := (19, [some (.ref 0), some (.int a0), some (.int a1), none, none, none, none], [.int a1, .ref 2], (W_Ves hv hh hr hc))) 3 rfl ?_
    refine sv_Q.V (b := 0) (av := [.int a1]) (ps := [2, 3, 4, 5, 6, 7]) (rest := []) (cs1 := (W_Hull hh)) (cs2 := (W_Hull hh)) (st' := [.int (F_Hull_isLowest a1 hh)]) (cs' := (W_Ves hv hh hr hc)) (q := (19, .null, 0, 0, 0)) lk_Ves_103 (t_Hull_isLowest hh a1) rfl rfl rfl rfl rfl (Or.inl ⟨2, _, _, rfl, rfl, rfl⟩) rfl rfl (sc_Ves_Hull_1 hv hh hr hc) rfl rfl (pc_Ves_Hull_1 hv hh hr hc hh) ?_
    refine sv_Q.s (σ' := (28, [some (.ref 0), some (.int a0), some (.int a1), some (.int (F_Hull_isLowest a1 hh)), none, none, none], [.int a1, .ref 2], (W_Ves hv hh hr hc))) 4 rfl ?_
    refine sv_Q.V (b := 0) (av := [.int a1]) (ps := [2, 3, 4, 5, 6, 7]) (rest := []) (cs1 := (W_Hull hh)) (cs2 := (W_Hull hh)) (st' := [.int (F_Hull_isDeck a1 hh)]) (cs' := (W_Ves hv hh hr hc)) (q := (28, .null, 0, 0, 0)) lk_Ves_106 (t_Hull_isDeck hh a1) rfl rfl rfl rfl rfl (Or.inl ⟨2, _, _, rfl, rfl, rfl⟩) rfl rfl (sc_Ves_Hull_1 hv hh hr hc) rfl rfl (pc_Ves_Hull_1 hv hh hr hc hh) ?_
    refine sv_Q.s (σ' := (34, [some (.ref 0), some (.int a0), some (.int a1), some (.int (F_Hull_isLowest a1 hh)), some (.int (F_Hull_isDeck a1 hh)), none, none], [.int (F_Hull_isLowest a1 hh)], (W_Ves hv hh hr hc))) 2 rfl ?_
    refine sv_Q.l (fun v3 => (51, [some (.ref 0), some (.int a0), some (.int a1), some (.int (F_Hull_isLowest a1 hh)), some (.int (F_Hull_isDeck a1 hh)), none, none], [.int v3], (W_Ves hv hh hr hc))) (fun v3 => ?_) ?_
    · refine sv_Q.s (σ' := (54, [some (.ref 0), some (.int a0), some (.int a1), some (.int (F_Hull_isLowest a1 hh)), some (.int (F_Hull_isDeck a1 hh)), some (.int v3), none], [.int (F_Hull_isLowest a1 hh)], (W_Ves hv hh hr hc))) 2 rfl ?_
      refine sv_Q.b rfl (fun c4 => ?_) (fun c4 => ?_)
      · refine sv_Q.s (σ' := (80, [some (.ref 0), some (.int a0), some (.int a1), some (.int (F_Hull_isLowest a1 hh)), some (.int (F_Hull_isDeck a1 hh)), some (.int v3), none], [.int a0, .ref 16, .ref 8], (W_Ves hv hh hr hc))) 5 rfl ?_
        refine sv_Q.V (b := 0) (av := [.int a0]) (ps := [16, 17, 18, 19, 20, 21]) (rest := [.ref 8]) (cs1 := (W_Cargo hc)) (cs2 := (W_Cargo hc)) (st' := [.int (F_Cargo_kindOf a0 hc), .ref 8]) (cs' := (W_Ves hv hh hr hc)) (q := (80, .null, 0, 0, 0)) lk_Ves_86 (t_Cargo_kindOf hc a0) rfl rfl rfl rfl rfl (Or.inl ⟨0, _, _, rfl, rfl, rfl⟩) rfl rfl (sc_Ves_Cargo_3 hv hh hr hc) rfl rfl (pc_Ves_Cargo_3 hv hh hr hc hc) ?_
        refine sv_Q.s (σ' := (85, [some (.ref 0), some (.int a0), some (.int a1), some (.int (F_Hull_isLowest a1 hh)), some (.int (F_Hull_isDeck a1 hh)), some (.int v3), none], [.int (F_Hull_isDeck a1 hh), .int (F_Cargo_kindOf a0 hc), .ref 8], (W_Ves hv hh hr hc))) 1 rfl ?_
        refine sv_Q.V (b := 0) (av := [.int (F_Cargo_kindOf a0 hc), .int (F_Hull_isDeck a1 hh)]) (ps := [8, 9, 10, 11, 12, 13, 14, 15]) (rest := []) (cs1 := (W_Rules hr)) (cs2 := (W_Rules hr)) (st' := [.int (F_Rules_mayLie (F_Cargo_kindOf a0 hc) (F_Hull_isDeck a1 hh) hr)]) (cs' := (W_Ves hv hh hr hc)) (q := (85, .null, 0, 0, 0)) lk_Ves_109 (t_Rules_mayLie hr (F_Cargo_kindOf a0 hc) (F_Hull_isDeck a1 hh)) rfl rfl rfl rfl rfl (Or.inl ⟨6, _, _, rfl, rfl, rfl⟩) rfl rfl (sc_Ves_Rules_2 hv hh hr hc) rfl rfl (pc_Ves_Rules_2 hv hh hr hc hr) ?_
        refine sv_Q.b rfl (fun c5 => ?_) (fun c5 => ?_)
        · refine sv_Q.s (σ' := (99, [some (.ref 0), some (.int a0), some (.int a1), some (.int (F_Hull_isLowest a1 hh)), some (.int (F_Hull_isDeck a1 hh)), some (.int v3), none], [.int a1, .ref 2, .ref 0], (W_Ves hv hh hr hc))) 4 rfl ?_
          refine sv_Q.V (b := 0) (av := [.int a1]) (ps := [2, 3, 4, 5, 6, 7]) (rest := [.ref 0]) (cs1 := (W_Hull hh)) (cs2 := (W_Hull hh)) (st' := [.int (F_Hull_lowestUnder a1 hh), .ref 0]) (cs' := (W_Ves hv hh hr hc)) (q := (99, .null, 0, 0, 0)) lk_Ves_113 (t_Hull_lowestUnder hh a1) rfl rfl rfl rfl rfl (Or.inl ⟨2, _, _, rfl, rfl, rfl⟩) rfl rfl (sc_Ves_Hull_1 hv hh hr hc) rfl rfl (pc_Ves_Hull_1 hv hh hr hc hh) ?_
          refine sv_Q.s (σ' := (108, [some (.ref 0), some (.int a0), some (.int a1), some (.int (F_Hull_isLowest a1 hh)), some (.int (F_Hull_isDeck a1 hh)), some (.int v3), none], [.int (F_Hull_isDeck a1 hh), .ref 2, .int (F_Hull_lowestUnder a1 hh), .ref 0], (W_Ves hv hh hr hc))) 3 rfl ?_
          refine sv_Q.l (fun v7 => (116, [some (.ref 0), some (.int a0), some (.int a1), none, some (.int (F_Hull_isDeck a1 hh)), some (.int v3), none], [.int v7, .ref 2, .int (F_Hull_lowestUnder a1 hh), .ref 0], (W_Ves hv hh hr hc))) (fun v7 => ?_) ?_
          · refine sv_Q.V (b := 0) (av := [.int v7]) (ps := [2, 3, 4, 5, 6, 7]) (rest := [.int (F_Hull_lowestUnder a1 hh), .ref 0]) (cs1 := (W_Hull hh)) (cs2 := (W_Hull hh)) (st' := [.int (F_Hull_tiersOf v7 hh), .int (F_Hull_lowestUnder a1 hh), .ref 0]) (cs' := (W_Ves hv hh hr hc)) (q := (116, .null, 0, 0, 0)) lk_Ves_116 (t_Hull_tiersOf hh v7) rfl rfl rfl rfl rfl (Or.inl ⟨2, _, _, rfl, rfl, rfl⟩) rfl rfl (sc_Ves_Hull_1 hv hh hr hc) rfl rfl (pc_Ves_Hull_1 hv hh hr hc hh) ?_
            refine sv_Q.s (σ' := (120, [some (.ref 0), some (.int a0), some (.int a1), none, some (.int (F_Hull_isDeck a1 hh)), some (.int v3), none], [.int a0, .int (F_Hull_tiersOf v7 hh), .int (F_Hull_lowestUnder a1 hh), .ref 0], (W_Ves hv hh hr hc))) 1 rfl ?_
            refine sv_Q.o (fun v8 e9 => ?_)
            refine sv_Q.V (b := 0) (av := [.int (F_Hull_lowestUnder a1 hh), .int (F_Hull_tiersOf v7 hh), .int a0]) (ps := [0, 1, 2, 3, 4, 5, 6, 7, 8, 9, 10, 11, 12, 13, 14, 15, 16, 17, 18, 19, 20, 21]) (rest := []) (cs1 := (W_Ves hv hh hr hc)) (cs2 := (W_Ves hv hh hr hc)) (st' := [.int v8]) (cs' := (W_Ves hv hh hr hc)) (q := (120, .null, 0, 0, 0)) lk_Ves_119 (r_Ves_stackWeight N hv hh hr hc (F_Hull_lowestUnder a1 hh) (F_Hull_tiersOf v7 hh) a0 v8 e9) rfl rfl rfl rfl rfl (Or.inl ⟨10, _, _, rfl, rfl, rfl⟩) rfl rfl (sc_Ves_Ves_0 hv hh hr hc) rfl rfl (pc_Ves_Ves_0 hv hh hr hc hv hh hr hc) ?_
            refine sv_Q.s (σ' := (132, [some (.ref 0), some (.int a0), some (.int a1), none, some (.int (F_Hull_isDeck a1 hh)), some (.int v3), some (.int v8)], [.int a0, .ref 16, .int v8], (W_Ves hv hh hr hc))) 5 rfl ?_
            refine sv_Q.V (b := 0) (av := [.int a0]) (ps := [16, 17, 18, 19, 20, 21]) (rest := [.int v8]) (cs1 := (W_Cargo hc)) (cs2 := (W_Cargo hc)) (st' := [.int (F_Cargo_weightOf a0 hc), .int v8]) (cs' := (W_Ves hv hh hr hc)) (q := (132, .null, 0, 0, 0)) lk_Ves_123 (t_Cargo_weightOf hc a0) rfl rfl rfl rfl rfl (Or.inl ⟨0, _, _, rfl, rfl, rfl⟩) rfl rfl (sc_Ves_Cargo_3 hv hh hr hc) rfl rfl (pc_Ves_Cargo_3 hv hh hr hc hc) ?_
            refine sv_Q.s (σ' := (138, [some (.ref 0), some (.int a0), some (.int a1), none, some (.int (F_Hull_isDeck a1 hh)), some (.int v3), some (.int v8)], [.int (F_Hull_isDeck a1 hh), .int (v8 + (F_Cargo_weightOf a0 hc))], (W_Ves hv hh hr hc))) 2 rfl ?_
            refine sv_Q.l (fun v11 => (158, [some (.ref 0), some (.int a0), some (.int a1), none, none, some (.int v3), none], [.int v11, .int (v8 + (F_Cargo_weightOf a0 hc))], (W_Ves hv hh hr hc))) (fun v11 => ?_) ?_
            · refine sv_Q.b rfl (fun c12 => ?_) (fun c12 => ?_)
              · refine sv_Q.s (σ' := (166, [some (.ref 0), some (.int a0), some (.int a1), none, none, some (.int v3), none], [.int (-1 : Int32), .int v3], (W_Ves hv hh hr hc))) 2 rfl ?_
                refine sv_Q.b rfl (fun c13 => ?_) (fun c13 => ?_)
                · refine sv_Q.s (σ' := (197, [some (.ref 0), some (.int a0), some (.int a1), none, none, some (.int v3), none], [.int a0, .ref 16, .ref 0], (W_Ves hv hh hr hc))) 4 rfl ?_
                  refine sv_Q.V (b := 0) (av := [.int a0]) (ps := [16, 17, 18, 19, 20, 21]) (rest := [.ref 0]) (cs1 := (W_Cargo hc)) (cs2 := (W_Cargo hc)) (st' := [.int (F_Cargo_kindOf a0 hc), .ref 0]) (cs' := (W_Ves hv hh hr hc)) (q := (197, .null, 0, 0, 0)) lk_Ves_86 (t_Cargo_kindOf hc a0) rfl rfl rfl rfl rfl (Or.inl ⟨0, _, _, rfl, rfl, rfl⟩) rfl rfl (sc_Ves_Cargo_3 hv hh hr hc) rfl rfl (pc_Ves_Cargo_3 hv hh hr hc hc) ?_
                  refine sv_Q.s (σ' := (202, [some (.ref 0), some (.int a0), some (.int a1), none, none, some (.int v3), none], [.int a0, .int a1, .int (F_Cargo_kindOf a0 hc), .ref 0], (W_Ves hv hh hr hc))) 2 rfl ?_
                  refine sv_Q.o (fun v14 e15 => ?_)
                  refine sv_Q.V (b := 0) (av := [.int (F_Cargo_kindOf a0 hc), .int a1, .int a0]) (ps := [0, 1, 2, 3, 4, 5, 6, 7, 8, 9, 10, 11, 12, 13, 14, 15, 16, 17, 18, 19, 20, 21]) (rest := []) (cs1 := (W_Ves hv hh hr hc)) (cs2 := (W_Ves hv hh hr hc)) (st' := [.int v14]) (cs' := (W_Ves hv hh hr hc)) (q := (202, .null, 0, 0, 0)) lk_Ves_132 (r_Ves_nearest N hv hh hr hc (F_Cargo_kindOf a0 hc) a1 a0 v14 e15) rfl rfl rfl rfl rfl (Or.inl ⟨10, _, _, rfl, rfl, rfl⟩) rfl rfl (sc_Ves_Ves_0 hv hh hr hc) rfl rfl (pc_Ves_Ves_0 hv hh hr hc hv hh hr hc) ?_
                  refine sv_Q.s (σ' := (206, [some (.ref 0), some (.int a0), some (.int a1), none, none, some (.int v3), none], [.int (-1 : Int32), .int v14], (W_Ves hv hh hr hc))) 1 rfl ?_
                  refine sv_Q.b rfl (fun c16 => ?_) (fun c16 => ?_)
                  · refine sv_Q.s (σ' := (215, [some (.ref 0), some (.int a0), some (.int a1), none, none, some (.int v3), none], [.int (0 : Int32)], (W_Ves hv hh hr hc))) 1 rfl ?_
                    exact sv_Q.z ⟨True, rfl, trivial, rfl⟩
                  · refine sv_Q.s (σ' := (215, [some (.ref 0), some (.int a0), some (.int a1), none, none, some (.int v3), none], [.int (6 : Int32)], (W_Ves hv hh hr hc))) 2 rfl ?_
                    exact sv_Q.z ⟨True, rfl, trivial, rfl⟩
                · refine sv_Q.s (σ' := (174, [some (.ref 0), some (.int a0), some (.int a1), none, none, some (.int v3), none], [.int a0, .ref 16], (W_Ves hv hh hr hc))) 3 rfl ?_
                  refine sv_Q.V (b := 0) (av := [.int a0]) (ps := [16, 17, 18, 19, 20, 21]) (rest := []) (cs1 := (W_Cargo hc)) (cs2 := (W_Cargo hc)) (st' := [.int (F_Cargo_weightOf a0 hc)]) (cs' := (W_Ves hv hh hr hc)) (q := (174, .null, 0, 0, 0)) lk_Ves_123 (t_Cargo_weightOf hc a0) rfl rfl rfl rfl rfl (Or.inl ⟨0, _, _, rfl, rfl, rfl⟩) rfl rfl (sc_Ves_Cargo_3 hv hh hr hc) rfl rfl (pc_Ves_Cargo_3 hv hh hr hc hc) ?_
                  refine sv_Q.s (σ' := (183, [some (.ref 0), some (.int a0), some (.int a1), none, none, some (.int v3), none], [.int v3, .ref 16, .int (F_Cargo_weightOf a0 hc)], (W_Ves hv hh hr hc))) 3 rfl ?_
                  refine sv_Q.V (b := 0) (av := [.int v3]) (ps := [16, 17, 18, 19, 20, 21]) (rest := [.int (F_Cargo_weightOf a0 hc)]) (cs1 := (W_Cargo hc)) (cs2 := (W_Cargo hc)) (st' := [.int (F_Cargo_weightOf v3 hc), .int (F_Cargo_weightOf a0 hc)]) (cs' := (W_Ves hv hh hr hc)) (q := (183, .null, 0, 0, 0)) lk_Ves_123 (t_Cargo_weightOf hc v3) rfl rfl rfl rfl rfl (Or.inl ⟨0, _, _, rfl, rfl, rfl⟩) rfl rfl (sc_Ves_Cargo_3 hv hh hr hc) rfl rfl (pc_Ves_Cargo_3 hv hh hr hc hc) ?_
                  refine sv_Q.b rfl (fun c17 => ?_) (fun c17 => ?_)
                  · refine sv_Q.s (σ' := (197, [some (.ref 0), some (.int a0), some (.int a1), none, none, some (.int v3), none], [.int a0, .ref 16, .ref 0], (W_Ves hv hh hr hc))) 4 rfl ?_
                    refine sv_Q.V (b := 0) (av := [.int a0]) (ps := [16, 17, 18, 19, 20, 21]) (rest := [.ref 0]) (cs1 := (W_Cargo hc)) (cs2 := (W_Cargo hc)) (st' := [.int (F_Cargo_kindOf a0 hc), .ref 0]) (cs' := (W_Ves hv hh hr hc)) (q := (197, .null, 0, 0, 0)) lk_Ves_86 (t_Cargo_kindOf hc a0) rfl rfl rfl rfl rfl (Or.inl ⟨0, _, _, rfl, rfl, rfl⟩) rfl rfl (sc_Ves_Cargo_3 hv hh hr hc) rfl rfl (pc_Ves_Cargo_3 hv hh hr hc hc) ?_
                    refine sv_Q.s (σ' := (202, [some (.ref 0), some (.int a0), some (.int a1), none, none, some (.int v3), none], [.int a0, .int a1, .int (F_Cargo_kindOf a0 hc), .ref 0], (W_Ves hv hh hr hc))) 2 rfl ?_
                    refine sv_Q.o (fun v18 e19 => ?_)
                    refine sv_Q.V (b := 0) (av := [.int (F_Cargo_kindOf a0 hc), .int a1, .int a0]) (ps := [0, 1, 2, 3, 4, 5, 6, 7, 8, 9, 10, 11, 12, 13, 14, 15, 16, 17, 18, 19, 20, 21]) (rest := []) (cs1 := (W_Ves hv hh hr hc)) (cs2 := (W_Ves hv hh hr hc)) (st' := [.int v18]) (cs' := (W_Ves hv hh hr hc)) (q := (202, .null, 0, 0, 0)) lk_Ves_132 (r_Ves_nearest N hv hh hr hc (F_Cargo_kindOf a0 hc) a1 a0 v18 e19) rfl rfl rfl rfl rfl (Or.inl ⟨10, _, _, rfl, rfl, rfl⟩) rfl rfl (sc_Ves_Ves_0 hv hh hr hc) rfl rfl (pc_Ves_Ves_0 hv hh hr hc hv hh hr hc) ?_
                    refine sv_Q.s (σ' := (206, [some (.ref 0), some (.int a0), some (.int a1), none, none, some (.int v3), none], [.int (-1 : Int32), .int v18], (W_Ves hv hh hr hc))) 1 rfl ?_
                    refine sv_Q.b rfl (fun c20 => ?_) (fun c20 => ?_)
                    · refine sv_Q.s (σ' := (215, [some (.ref 0), some (.int a0), some (.int a1), none, none, some (.int v3), none], [.int (0 : Int32)], (W_Ves hv hh hr hc))) 1 rfl ?_
                      exact sv_Q.z ⟨True, rfl, trivial, rfl⟩
                    · refine sv_Q.s (σ' := (215, [some (.ref 0), some (.int a0), some (.int a1), none, none, some (.int v3), none], [.int (6 : Int32)], (W_Ves hv hh hr hc))) 2 rfl ?_
                      exact sv_Q.z ⟨True, rfl, trivial, rfl⟩
                  · refine sv_Q.s (σ' := (190, [some (.ref 0), some (.int a0), some (.int a1), none, none, some (.int v3), none], [.int (5 : Int32)], (W_Ves hv hh hr hc))) 1 rfl ?_
                    exact sv_Q.z ⟨True, rfl, trivial, rfl⟩
              · refine sv_Q.s (σ' := (162, [some (.ref 0), some (.int a0), some (.int a1), none, none, some (.int v3), none], [.int (4 : Int32)], (W_Ves hv hh hr hc))) 1 rfl ?_
                exact sv_Q.z ⟨True, rfl, trivial, rfl⟩
            · refine sv_Q.sb rfl (fun c10 => ?_) (fun c10 => ?_)
              · refine sv_Q.s (σ' := (158, [some (.ref 0), some (.int a0), some (.int a1), none, some (.int (F_Hull_isDeck a1 hh)), some (.int v3), some (.int v8)], [.int (hh 0 5), .int (v8 + (F_Cargo_weightOf a0 hc))], (W_Ves hv hh hr hc))) 3 rfl ?_
                refine sv_Q.f (lo' := [some (.ref 0), some (.int a0), some (.int a1), none, none, some (.int v3), none]) ⟨rfl, ⟨rfl, ⟨rfl, ⟨rfl, trivial⟩⟩⟩⟩ ?_
                exact sv_Q.z rfl
              · refine sv_Q.s (σ' := (158, [some (.ref 0), some (.int a0), some (.int a1), none, some (.int (F_Hull_isDeck a1 hh)), some (.int v3), some (.int v8)], [.int (hh 0 6), .int (v8 + (F_Cargo_weightOf a0 hc))], (W_Ves hv hh hr hc))) 4 rfl ?_
                refine sv_Q.f (lo' := [some (.ref 0), some (.int a0), some (.int a1), none, none, some (.int v3), none]) ⟨rfl, ⟨rfl, ⟨rfl, ⟨rfl, trivial⟩⟩⟩⟩ ?_
                exact sv_Q.z rfl
          · refine sv_Q.sb rfl (fun c6 => ?_) (fun c6 => ?_)
            · refine sv_Q.s (σ' := (116, [some (.ref 0), some (.int a0), some (.int a1), some (.int (F_Hull_isLowest a1 hh)), some (.int (F_Hull_isDeck a1 hh)), some (.int v3), none], [.int (0 : Int32), .ref 2, .int (F_Hull_lowestUnder a1 hh), .ref 0], (W_Ves hv hh hr hc))) 1 rfl ?_
              refine sv_Q.f (lo' := [some (.ref 0), some (.int a0), some (.int a1), none, some (.int (F_Hull_isDeck a1 hh)), some (.int v3), none]) ⟨rfl, ⟨rfl, ⟨rfl, ⟨rfl, ⟨rfl, trivial⟩⟩⟩⟩⟩ ?_
              exact sv_Q.z rfl
            · refine sv_Q.s (σ' := (116, [some (.ref 0), some (.int a0), some (.int a1), some (.int (F_Hull_isLowest a1 hh)), some (.int (F_Hull_isDeck a1 hh)), some (.int v3), none], [.int (1 : Int32), .ref 2, .int (F_Hull_lowestUnder a1 hh), .ref 0], (W_Ves hv hh hr hc))) 2 rfl ?_
              refine sv_Q.f (lo' := [some (.ref 0), some (.int a0), some (.int a1), none, some (.int (F_Hull_isDeck a1 hh)), some (.int v3), none]) ⟨rfl, ⟨rfl, ⟨rfl, ⟨rfl, ⟨rfl, trivial⟩⟩⟩⟩⟩ ?_
              exact sv_Q.z rfl
        · refine sv_Q.s (σ' := (92, [some (.ref 0), some (.int a0), some (.int a1), some (.int (F_Hull_isLowest a1 hh)), some (.int (F_Hull_isDeck a1 hh)), some (.int v3), none], [.int (3 : Int32)], (W_Ves hv hh hr hc))) 1 rfl ?_
          exact sv_Q.z ⟨True, rfl, trivial, rfl⟩
      · refine sv_Q.s (σ' := (60, [some (.ref 0), some (.int a0), some (.int a1), some (.int (F_Hull_isLowest a1 hh)), some (.int (F_Hull_isDeck a1 hh)), some (.int v3), none], [.int (-1 : Int32), .int v3], (W_Ves hv hh hr hc))) 2 rfl ?_
        refine sv_Q.b rfl (fun c21 => ?_) (fun c21 => ?_)
        · refine sv_Q.s (σ' := (70, [some (.ref 0), some (.int a0), some (.int a1), some (.int (F_Hull_isLowest a1 hh)), some (.int (F_Hull_isDeck a1 hh)), some (.int v3), none], [.int (2 : Int32)], (W_Ves hv hh hr hc))) 1 rfl ?_
          exact sv_Q.z ⟨True, rfl, trivial, rfl⟩
        · refine sv_Q.s (σ' := (66, [some (.ref 0), some (.int a0), some (.int a1), some (.int (F_Hull_isLowest a1 hh)), some (.int (F_Hull_isDeck a1 hh)), some (.int v3), none], [.int a0, .int v3], (W_Ves hv hh hr hc))) 2 rfl ?_
          refine sv_Q.b rfl (fun c22 => ?_) (fun c22 => ?_)
          · refine sv_Q.s (σ' := (80, [some (.ref 0), some (.int a0), some (.int a1), some (.int (F_Hull_isLowest a1 hh)), some (.int (F_Hull_isDeck a1 hh)), some (.int v3), none], [.int a0, .ref 16, .ref 8], (W_Ves hv hh hr hc))) 5 rfl ?_
            refine sv_Q.V (b := 0) (av := [.int a0]) (ps := [16, 17, 18, 19, 20, 21]) (rest := [.ref 8]) (cs1 := (W_Cargo hc)) (cs2 := (W_Cargo hc)) (st' := [.int (F_Cargo_kindOf a0 hc), .ref 8]) (cs' := (W_Ves hv hh hr hc)) (q := (80, .null, 0, 0, 0)) lk_Ves_86 (t_Cargo_kindOf hc a0) rfl rfl rfl rfl rfl (Or.inl ⟨0, _, _, rfl, rfl, rfl⟩) rfl rfl (sc_Ves_Cargo_3 hv hh hr hc) rfl rfl (pc_Ves_Cargo_3 hv hh hr hc hc) ?_
            refine sv_Q.s (σ' := (85, [some (.ref 0), some (.int a0), some (.int a1), some (.int (F_Hull_isLowest a1 hh)), some (.int (F_Hull_isDeck a1 hh)), some (.int v3), none], [.int (F_Hull_isDeck a1 hh), .int (F_Cargo_kindOf a0 hc), .ref 8], (W_Ves hv hh hr hc))) 1 rfl ?_
            refine sv_Q.V (b := 0) (av := [.int (F_Cargo_kindOf a0 hc), .int (F_Hull_isDeck a1 hh)]) (ps := [8, 9, 10, 11, 12, 13, 14, 15]) (rest := []) (cs1 := (W_Rules hr)) (cs2 := (W_Rules hr)) (st' := [.int (F_Rules_mayLie (F_Cargo_kindOf a0 hc) (F_Hull_isDeck a1 hh) hr)]) (cs' := (W_Ves hv hh hr hc)) (q := (85, .null, 0, 0, 0)) lk_Ves_109 (t_Rules_mayLie hr (F_Cargo_kindOf a0 hc) (F_Hull_isDeck a1 hh)) rfl rfl rfl rfl rfl (Or.inl ⟨6, _, _, rfl, rfl, rfl⟩) rfl rfl (sc_Ves_Rules_2 hv hh hr hc) rfl rfl (pc_Ves_Rules_2 hv hh hr hc hr) ?_
            refine sv_Q.b rfl (fun c23 => ?_) (fun c23 => ?_)
            · refine sv_Q.s (σ' := (99, [some (.ref 0), some (.int a0), some (.int a1), some (.int (F_Hull_isLowest a1 hh)), some (.int (F_Hull_isDeck a1 hh)), some (.int v3), none], [.int a1, .ref 2, .ref 0], (W_Ves hv hh hr hc))) 4 rfl ?_
              refine sv_Q.V (b := 0) (av := [.int a1]) (ps := [2, 3, 4, 5, 6, 7]) (rest := [.ref 0]) (cs1 := (W_Hull hh)) (cs2 := (W_Hull hh)) (st' := [.int (F_Hull_lowestUnder a1 hh), .ref 0]) (cs' := (W_Ves hv hh hr hc)) (q := (99, .null, 0, 0, 0)) lk_Ves_113 (t_Hull_lowestUnder hh a1) rfl rfl rfl rfl rfl (Or.inl ⟨2, _, _, rfl, rfl, rfl⟩) rfl rfl (sc_Ves_Hull_1 hv hh hr hc) rfl rfl (pc_Ves_Hull_1 hv hh hr hc hh) ?_
              refine sv_Q.s (σ' := (108, [some (.ref 0), some (.int a0), some (.int a1), some (.int (F_Hull_isLowest a1 hh)), some (.int (F_Hull_isDeck a1 hh)), some (.int v3), none], [.int (F_Hull_isDeck a1 hh), .ref 2, .int (F_Hull_lowestUnder a1 hh), .ref 0], (W_Ves hv hh hr hc))) 3 rfl ?_
              refine sv_Q.l (fun v25 => (116, [some (.ref 0), some (.int a0), some (.int a1), none, some (.int (F_Hull_isDeck a1 hh)), some (.int v3), none], [.int v25, .ref 2, .int (F_Hull_lowestUnder a1 hh), .ref 0], (W_Ves hv hh hr hc))) (fun v25 => ?_) ?_
              · refine sv_Q.V (b := 0) (av := [.int v25]) (ps := [2, 3, 4, 5, 6, 7]) (rest := [.int (F_Hull_lowestUnder a1 hh), .ref 0]) (cs1 := (W_Hull hh)) (cs2 := (W_Hull hh)) (st' := [.int (F_Hull_tiersOf v25 hh), .int (F_Hull_lowestUnder a1 hh), .ref 0]) (cs' := (W_Ves hv hh hr hc)) (q := (116, .null, 0, 0, 0)) lk_Ves_116 (t_Hull_tiersOf hh v25) rfl rfl rfl rfl rfl (Or.inl ⟨2, _, _, rfl, rfl, rfl⟩) rfl rfl (sc_Ves_Hull_1 hv hh hr hc) rfl rfl (pc_Ves_Hull_1 hv hh hr hc hh) ?_
                refine sv_Q.s (σ' := (120, [some (.ref 0), some (.int a0), some (.int a1), none, some (.int (F_Hull_isDeck a1 hh)), some (.int v3), none], [.int a0, .int (F_Hull_tiersOf v25 hh), .int (F_Hull_lowestUnder a1 hh), .ref 0], (W_Ves hv hh hr hc))) 1 rfl ?_
                refine sv_Q.o (fun v26 e27 => ?_)
                refine sv_Q.V (b := 0) (av := [.int (F_Hull_lowestUnder a1 hh), .int (F_Hull_tiersOf v25 hh), .int a0]) (ps := [0, 1, 2, 3, 4, 5, 6, 7, 8, 9, 10, 11, 12, 13, 14, 15, 16, 17, 18, 19, 20, 21]) (rest := []) (cs1 := (W_Ves hv hh hr hc)) (cs2 := (W_Ves hv hh hr hc)) (st' := [.int v26]) (cs' := (W_Ves hv hh hr hc)) (q := (120, .null, 0, 0, 0)) lk_Ves_119 (r_Ves_stackWeight N hv hh hr hc (F_Hull_lowestUnder a1 hh) (F_Hull_tiersOf v25 hh) a0 v26 e27) rfl rfl rfl rfl rfl (Or.inl ⟨10, _, _, rfl, rfl, rfl⟩) rfl rfl (sc_Ves_Ves_0 hv hh hr hc) rfl rfl (pc_Ves_Ves_0 hv hh hr hc hv hh hr hc) ?_
                refine sv_Q.s (σ' := (132, [some (.ref 0), some (.int a0), some (.int a1), none, some (.int (F_Hull_isDeck a1 hh)), some (.int v3), some (.int v26)], [.int a0, .ref 16, .int v26], (W_Ves hv hh hr hc))) 5 rfl ?_
                refine sv_Q.V (b := 0) (av := [.int a0]) (ps := [16, 17, 18, 19, 20, 21]) (rest := [.int v26]) (cs1 := (W_Cargo hc)) (cs2 := (W_Cargo hc)) (st' := [.int (F_Cargo_weightOf a0 hc), .int v26]) (cs' := (W_Ves hv hh hr hc)) (q := (132, .null, 0, 0, 0)) lk_Ves_123 (t_Cargo_weightOf hc a0) rfl rfl rfl rfl rfl (Or.inl ⟨0, _, _, rfl, rfl, rfl⟩) rfl rfl (sc_Ves_Cargo_3 hv hh hr hc) rfl rfl (pc_Ves_Cargo_3 hv hh hr hc hc) ?_
                refine sv_Q.s (σ' := (138, [some (.ref 0), some (.int a0), some (.int a1), none, some (.int (F_Hull_isDeck a1 hh)), some (.int v3), some (.int v26)], [.int (F_Hull_isDeck a1 hh), .int (v26 + (F_Cargo_weightOf a0 hc))], (W_Ves hv hh hr hc))) 2 rfl ?_
                refine sv_Q.l (fun v29 => (158, [some (.ref 0), some (.int a0), some (.int a1), none, none, some (.int v3), none], [.int v29, .int (v26 + (F_Cargo_weightOf a0 hc))], (W_Ves hv hh hr hc))) (fun v29 => ?_) ?_
                · refine sv_Q.b rfl (fun c30 => ?_) (fun c30 => ?_)
                  · refine sv_Q.s (σ' := (166, [some (.ref 0), some (.int a0), some (.int a1), none, none, some (.int v3), none], [.int (-1 : Int32), .int v3], (W_Ves hv hh hr hc))) 2 rfl ?_
                    refine sv_Q.b rfl (fun c31 => ?_) (fun c31 => ?_)
                    · refine sv_Q.s (σ' := (197, [some (.ref 0), some (.int a0), some (.int a1), none, none, some (.int v3), none], [.int a0, .ref 16, .ref 0], (W_Ves hv hh hr hc))) 4 rfl ?_
                      refine sv_Q.V (b := 0) (av := [.int a0]) (ps := [16, 17, 18, 19, 20, 21]) (rest := [.ref 0]) (cs1 := (W_Cargo hc)) (cs2 := (W_Cargo hc)) (st' := [.int (F_Cargo_kindOf a0 hc), .ref 0]) (cs' := (W_Ves hv hh hr hc)) (q := (197, .null, 0, 0, 0)) lk_Ves_86 (t_Cargo_kindOf hc a0) rfl rfl rfl rfl rfl (Or.inl ⟨0, _, _, rfl, rfl, rfl⟩) rfl rfl (sc_Ves_Cargo_3 hv hh hr hc) rfl rfl (pc_Ves_Cargo_3 hv hh hr hc hc) ?_
                      refine sv_Q.s (σ' := (202, [some (.ref 0), some (.int a0), some (.int a1), none, none, some (.int v3), none], [.int a0, .int a1, .int (F_Cargo_kindOf a0 hc), .ref 0], (W_Ves hv hh hr hc))) 2 rfl ?_
                      refine sv_Q.o (fun v32 e33 => ?_)
                      refine sv_Q.V (b := 0) (av := [.int (F_Cargo_kindOf a0 hc), .int a1, .int a0]) (ps := [0, 1, 2, 3, 4, 5, 6, 7, 8, 9, 10, 11, 12, 13, 14, 15, 16, 17, 18, 19, 20, 21]) (rest := []) (cs1 := (W_Ves hv hh hr hc)) (cs2 := (W_Ves hv hh hr hc)) (st' := [.int v32]) (cs' := (W_Ves hv hh hr hc)) (q := (202, .null, 0, 0, 0)) lk_Ves_132 (r_Ves_nearest N hv hh hr hc (F_Cargo_kindOf a0 hc) a1 a0 v32 e33) rfl rfl rfl rfl rfl (Or.inl ⟨10, _, _, rfl, rfl, rfl⟩) rfl rfl (sc_Ves_Ves_0 hv hh hr hc) rfl rfl (pc_Ves_Ves_0 hv hh hr hc hv hh hr hc) ?_
                      refine sv_Q.s (σ' := (206, [some (.ref 0), some (.int a0), some (.int a1), none, none, some (.int v3), none], [.int (-1 : Int32), .int v32], (W_Ves hv hh hr hc))) 1 rfl ?_
                      refine sv_Q.b rfl (fun c34 => ?_) (fun c34 => ?_)
                      · refine sv_Q.s (σ' := (215, [some (.ref 0), some (.int a0), some (.int a1), none, none, some (.int v3), none], [.int (0 : Int32)], (W_Ves hv hh hr hc))) 1 rfl ?_
                        exact sv_Q.z ⟨True, rfl, trivial, rfl⟩
                      · refine sv_Q.s (σ' := (215, [some (.ref 0), some (.int a0), some (.int a1), none, none, some (.int v3), none], [.int (6 : Int32)], (W_Ves hv hh hr hc))) 2 rfl ?_
                        exact sv_Q.z ⟨True, rfl, trivial, rfl⟩
                    · refine sv_Q.s (σ' := (174, [some (.ref 0), some (.int a0), some (.int a1), none, none, some (.int v3), none], [.int a0, .ref 16], (W_Ves hv hh hr hc))) 3 rfl ?_
                      refine sv_Q.V (b := 0) (av := [.int a0]) (ps := [16, 17, 18, 19, 20, 21]) (rest := []) (cs1 := (W_Cargo hc)) (cs2 := (W_Cargo hc)) (st' := [.int (F_Cargo_weightOf a0 hc)]) (cs' := (W_Ves hv hh hr hc)) (q := (174, .null, 0, 0, 0)) lk_Ves_123 (t_Cargo_weightOf hc a0) rfl rfl rfl rfl rfl (Or.inl ⟨0, _, _, rfl, rfl, rfl⟩) rfl rfl (sc_Ves_Cargo_3 hv hh hr hc) rfl rfl (pc_Ves_Cargo_3 hv hh hr hc hc) ?_
                      refine sv_Q.s (σ' := (183, [some (.ref 0), some (.int a0), some (.int a1), none, none, some (.int v3), none], [.int v3, .ref 16, .int (F_Cargo_weightOf a0 hc)], (W_Ves hv hh hr hc))) 3 rfl ?_
                      refine sv_Q.V (b := 0) (av := [.int v3]) (ps := [16, 17, 18, 19, 20, 21]) (rest := [.int (F_Cargo_weightOf a0 hc)]) (cs1 := (W_Cargo hc)) (cs2 := (W_Cargo hc)) (st' := [.int (F_Cargo_weightOf v3 hc), .int (F_Cargo_weightOf a0 hc)]) (cs' := (W_Ves hv hh hr hc)) (q := (183, .null, 0, 0, 0)) lk_Ves_123 (t_Cargo_weightOf hc v3) rfl rfl rfl rfl rfl (Or.inl ⟨0, _, _, rfl, rfl, rfl⟩) rfl rfl (sc_Ves_Cargo_3 hv hh hr hc) rfl rfl (pc_Ves_Cargo_3 hv hh hr hc hc) ?_
                      refine sv_Q.b rfl (fun c35 => ?_) (fun c35 => ?_)
                      · refine sv_Q.s (σ' := (197, [some (.ref 0), some (.int a0), some (.int a1), none, none, some (.int v3), none], [.int a0, .ref 16, .ref 0], (W_Ves hv hh hr hc))) 4 rfl ?_
                        refine sv_Q.V (b := 0) (av := [.int a0]) (ps := [16, 17, 18, 19, 20, 21]) (rest := [.ref 0]) (cs1 := (W_Cargo hc)) (cs2 := (W_Cargo hc)) (st' := [.int (F_Cargo_kindOf a0 hc), .ref 0]) (cs' := (W_Ves hv hh hr hc)) (q := (197, .null, 0, 0, 0)) lk_Ves_86 (t_Cargo_kindOf hc a0) rfl rfl rfl rfl rfl (Or.inl ⟨0, _, _, rfl, rfl, rfl⟩) rfl rfl (sc_Ves_Cargo_3 hv hh hr hc) rfl rfl (pc_Ves_Cargo_3 hv hh hr hc hc) ?_
                        refine sv_Q.s (σ' := (202, [some (.ref 0), some (.int a0), some (.int a1), none, none, some (.int v3), none], [.int a0, .int a1, .int (F_Cargo_kindOf a0 hc), .ref 0], (W_Ves hv hh hr hc))) 2 rfl ?_
                        refine sv_Q.o (fun v36 e37 => ?_)
                        refine sv_Q.V (b := 0) (av := [.int (F_Cargo_kindOf a0 hc), .int a1, .int a0]) (ps := [0, 1, 2, 3, 4, 5, 6, 7, 8, 9, 10, 11, 12, 13, 14, 15, 16, 17, 18, 19, 20, 21]) (rest := []) (cs1 := (W_Ves hv hh hr hc)) (cs2 := (W_Ves hv hh hr hc)) (st' := [.int v36]) (cs' := (W_Ves hv hh hr hc)) (q := (202, .null, 0, 0, 0)) lk_Ves_132 (r_Ves_nearest N hv hh hr hc (F_Cargo_kindOf a0 hc) a1 a0 v36 e37) rfl rfl rfl rfl rfl (Or.inl ⟨10, _, _, rfl, rfl, rfl⟩) rfl rfl (sc_Ves_Ves_0 hv hh hr hc) rfl rfl (pc_Ves_Ves_0 hv hh hr hc hv hh hr hc) ?_
                        refine sv_Q.s (σ' := (206, [some (.ref 0), some (.int a0), some (.int a1), none, none, some (.int v3), none], [.int (-1 : Int32), .int v36], (W_Ves hv hh hr hc))) 1 rfl ?_
                        refine sv_Q.b rfl (fun c38 => ?_) (fun c38 => ?_)
                        · refine sv_Q.s (σ' := (215, [some (.ref 0), some (.int a0), some (.int a1), none, none, some (.int v3), none], [.int (0 : Int32)], (W_Ves hv hh hr hc))) 1 rfl ?_
                          exact sv_Q.z ⟨True, rfl, trivial, rfl⟩
                        · refine sv_Q.s (σ' := (215, [some (.ref 0), some (.int a0), some (.int a1), none, none, some (.int v3), none], [.int (6 : Int32)], (W_Ves hv hh hr hc))) 2 rfl ?_
                          exact sv_Q.z ⟨True, rfl, trivial, rfl⟩
                      · refine sv_Q.s (σ' := (190, [some (.ref 0), some (.int a0), some (.int a1), none, none, some (.int v3), none], [.int (5 : Int32)], (W_Ves hv hh hr hc))) 1 rfl ?_
                        exact sv_Q.z ⟨True, rfl, trivial, rfl⟩
                  · refine sv_Q.s (σ' := (162, [some (.ref 0), some (.int a0), some (.int a1), none, none, some (.int v3), none], [.int (4 : Int32)], (W_Ves hv hh hr hc))) 1 rfl ?_
                    exact sv_Q.z ⟨True, rfl, trivial, rfl⟩
                · refine sv_Q.sb rfl (fun c28 => ?_) (fun c28 => ?_)
                  · refine sv_Q.s (σ' := (158, [some (.ref 0), some (.int a0), some (.int a1), none, some (.int (F_Hull_isDeck a1 hh)), some (.int v3), some (.int v26)], [.int (hh 0 5), .int (v26 + (F_Cargo_weightOf a0 hc))], (W_Ves hv hh hr hc))) 3 rfl ?_
                    refine sv_Q.f (lo' := [some (.ref 0), some (.int a0), some (.int a1), none, none, some (.int v3), none]) ⟨rfl, ⟨rfl, ⟨rfl, ⟨rfl, trivial⟩⟩⟩⟩ ?_
                    exact sv_Q.z rfl
                  · refine sv_Q.s (σ' := (158, [some (.ref 0), some (.int a0), some (.int a1), none, some (.int (F_Hull_isDeck a1 hh)), some (.int v3), some (.int v26)], [.int (hh 0 6), .int (v26 + (F_Cargo_weightOf a0 hc))], (W_Ves hv hh hr hc))) 4 rfl ?_
                    refine sv_Q.f (lo' := [some (.ref 0), some (.int a0), some (.int a1), none, none, some (.int v3), none]) ⟨rfl, ⟨rfl, ⟨rfl, ⟨rfl, trivial⟩⟩⟩⟩ ?_
                    exact sv_Q.z rfl
              · refine sv_Q.sb rfl (fun c24 => ?_) (fun c24 => ?_)
                · refine sv_Q.s (σ' := (116, [some (.ref 0), some (.int a0), some (.int a1), some (.int (F_Hull_isLowest a1 hh)), some (.int (F_Hull_isDeck a1 hh)), some (.int v3), none], [.int (0 : Int32), .ref 2, .int (F_Hull_lowestUnder a1 hh), .ref 0], (W_Ves hv hh hr hc))) 1 rfl ?_
                  refine sv_Q.f (lo' := [some (.ref 0), some (.int a0), some (.int a1), none, some (.int (F_Hull_isDeck a1 hh)), some (.int v3), none]) ⟨rfl, ⟨rfl, ⟨rfl, ⟨rfl, ⟨rfl, trivial⟩⟩⟩⟩⟩ ?_
                  exact sv_Q.z rfl
                · refine sv_Q.s (σ' := (116, [some (.ref 0), some (.int a0), some (.int a1), some (.int (F_Hull_isLowest a1 hh)), some (.int (F_Hull_isDeck a1 hh)), some (.int v3), none], [.int (1 : Int32), .ref 2, .int (F_Hull_lowestUnder a1 hh), .ref 0], (W_Ves hv hh hr hc))) 2 rfl ?_
                  refine sv_Q.f (lo' := [some (.ref 0), some (.int a0), some (.int a1), none, some (.int (F_Hull_isDeck a1 hh)), some (.int v3), none]) ⟨rfl, ⟨rfl, ⟨rfl, ⟨rfl, ⟨rfl, trivial⟩⟩⟩⟩⟩ ?_
                  exact sv_Q.z rfl
            · refine sv_Q.s (σ' := (92, [some (.ref 0), some (.int a0), some (.int a1), some (.int (F_Hull_isLowest a1 hh)), some (.int (F_Hull_isDeck a1 hh)), some (.int v3), none], [.int (3 : Int32)], (W_Ves hv hh hr hc))) 1 rfl ?_
              exact sv_Q.z ⟨True, rfl, trivial, rfl⟩
          · refine sv_Q.s (σ' := (70, [some (.ref 0), some (.int a0), some (.int a1), some (.int (F_Hull_isLowest a1 hh)), some (.int (F_Hull_isDeck a1 hh)), some (.int v3), none], [.int (2 : Int32)], (W_Ves hv hh hr hc))) 1 rfl ?_
            exact sv_Q.z ⟨True, rfl, trivial, rfl⟩
    · refine sv_Q.sb rfl (fun c2 => ?_) (fun c2 => ?_)
      · refine sv_Q.s (σ' := (48, [some (.ref 0), some (.int a0), some (.int a1), some (.int (F_Hull_isLowest a1 hh)), some (.int (F_Hull_isDeck a1 hh)), none, none], [.int (a1 - (1 : Int32)), .ref 16], (W_Ves hv hh hr hc))) 5 rfl ?_
        refine sv_Q.V (b := 0) (av := [.int (a1 - (1 : Int32))]) (ps := [16, 17, 18, 19, 20, 21]) (rest := []) (cs1 := (W_Cargo hc)) (cs2 := (W_Cargo hc)) (st' := [.int (F_Cargo_boxAt (a1 - (1 : Int32)) hc)]) (cs' := (W_Ves hv hh hr hc)) (q := (48, .null, 0, 0, 0)) lk_Ves_100 (t_Cargo_boxAt hc (a1 - (1 : Int32))) rfl rfl rfl rfl rfl (Or.inl ⟨0, _, _, rfl, rfl, rfl⟩) rfl rfl (sc_Ves_Cargo_3 hv hh hr hc) rfl rfl (pc_Ves_Cargo_3 hv hh hr hc hc) ?_
        exact sv_Q.z rfl
      · refine sv_Q.s (σ' := (51, [some (.ref 0), some (.int a0), some (.int a1), some (.int (F_Hull_isLowest a1 hh)), some (.int (F_Hull_isDeck a1 hh)), none, none], [.int (-1 : Int32)], (W_Ves hv hh hr hc))) 2 rfl ?_
        exact sv_Q.z rfl
  · refine sv_Q.s (σ' := (13, [some (.ref 0), some (.int a0), some (.int a1), none, none, none, none], [.int (1 : Int32)], (W_Ves hv hh hr hc))) 1 rfl ?_
    exact sv_Q.z ⟨True, rfl, trivial, rfl⟩
def F_Ves_isPinned (a0 : Int32) (hh hc : Nat → Nat → Int32) : Int32 := (if (F_Cargo_lies a0 hc) = 0 then (0 : Int32) else (if ¬ (F_Hull_isLowest ((F_Cargo_placeOf a0 hc) + (1 : Int32)) hh) = 0 then (0 : Int32) else (if (F_Cargo_boxAt ((F_Cargo_placeOf a0 hc) + (1 : Int32)) hc) = (-1 : Int32) then (0 : Int32) else (1 : Int32))))
theorem r_Ves_isPinned {X : Nat × (Nat → Int32)} (hv hh hr hc : Nat → Nat → Int32) (a0 : Int32) : ∀ x, some (F_Ves_isPinned a0 hh hc) = some x → sv_R X 3 M_Ves_isPinned [.ref 0, .int a0] (W_Ves hv hh hr hc) (some (.int x)) (W_Ves hv hh hr hc) := by
  refine sv_Q.R (res := (fun (x : Int32) => (some (.int x), (W_Ves hv hh hr hc)))) g_Ves_isPinned rfl ?_
  unfold F_Ves_isPinned
  refine sv_Q.s (σ' := (5, [some (.ref 0), some (.int a0), none], [.int a0, .ref 16], (W_Ves hv hh hr hc))) 3 rfl ?_
  refine sv_Q.V (b := 0) (av := [.int a0]) (ps := [16, 17, 18, 19, 20, 21]) (rest := []) (cs1 := (W_Cargo hc)) (cs2 := (W_Cargo hc)) (st' := [.int (F_Cargo_placeOf a0 hc)]) (cs' := (W_Ves hv hh hr hc)) (q := (5, .null, 0, 0, 0)) lk_Ves_93 (t_Cargo_placeOf hc a0) rfl rfl rfl rfl rfl (Or.inl ⟨0, _, _, rfl, rfl, rfl⟩) rfl rfl (sc_Ves_Cargo_3 hv hh hr hc) rfl rfl (pc_Ves_Cargo_3 hv hh hr hc hc) ?_
  refine sv_Q.s (σ' := (16, [some (.ref 0), some (.int a0), some (.int ((F_Cargo_placeOf a0 hc) + (1 : Int32)))], [.int a0, .ref 16], (W_Ves hv hh hr hc))) 6 rfl ?_
  refine sv_Q.V (b := 0) (av := [.int a0]) (ps := [16, 17, 18, 19, 20, 21]) (rest := []) (cs1 := (W_Cargo hc)) (cs2 := (W_Cargo hc)) (st' := [.int (F_Cargo_lies a0 hc)]) (cs' := (W_Ves hv hh hr hc)) (q := (16, .null, 0, 0, 0)) lk_Ves_82 (t_Cargo_lies hc a0) rfl rfl rfl rfl rfl (Or.inl ⟨0, _, _, rfl, rfl, rfl⟩) rfl rfl (sc_Ves_Cargo_3 hv hh hr hc) rfl rfl (pc_Ves_Cargo_3 hv hh hr hc hc) ?_
  refine sv_Q.sb rfl (fun c1 => ?_) (fun c1 => ?_)
  · refine sv_Q.s (σ' := (50, [some (.ref 0), some (.int a0), some (.int ((F_Cargo_placeOf a0 hc) + (1 : Int32)))], [.int (0 : Int32)], (W_Ves hv hh hr hc))) 1 rfl ?_
    exact sv_Q.z ⟨sv_01 (0 : Int32), rfl, Or.inl rfl, rfl⟩
  · refine sv_Q.s (σ' := (27, [some (.ref 0), some (.int a0), some (.int ((F_Cargo_placeOf a0 hc) + (1 : Int32)))], [.int ((F_Cargo_placeOf a0 hc) + (1 : Int32)), .ref 2], (W_Ves hv hh hr hc))) 3 rfl ?_
    refine sv_Q.V (b := 0) (av := [.int ((F_Cargo_placeOf a0 hc) + (1 : Int32))]) (ps := [2, 3, 4, 5, 6, 7]) (rest := []) (cs1 := (W_Hull hh)) (cs2 := (W_Hull hh)) (st' := [.int (F_Hull_isLowest ((F_Cargo_placeOf a0 hc) + (1 : Int32)) hh)]) (cs' := (W_Ves hv hh hr hc)) (q := (27, .null, 0, 0, 0)) lk_Ves_103 (t_Hull_isLowest hh ((F_Cargo_placeOf a0 hc) + (1 : Int32))) rfl rfl rfl rfl rfl (Or.inl ⟨2, _, _, rfl, rfl, rfl⟩) rfl rfl (sc_Ves_Hull_1 hv hh hr hc) rfl rfl (pc_Ves_Hull_1 hv hh hr hc hh) ?_
    refine sv_Q.sb rfl (fun c2 => ?_) (fun c2 => ?_)
    · refine sv_Q.s (σ' := (50, [some (.ref 0), some (.int a0), some (.int ((F_Cargo_placeOf a0 hc) + (1 : Int32)))], [.int (0 : Int32)], (W_Ves hv hh hr hc))) 1 rfl ?_
      exact sv_Q.z ⟨sv_01 (0 : Int32), rfl, Or.inl rfl, rfl⟩
    · refine sv_Q.s (σ' := (38, [some (.ref 0), some (.int a0), some (.int ((F_Cargo_placeOf a0 hc) + (1 : Int32)))], [.int ((F_Cargo_placeOf a0 hc) + (1 : Int32)), .ref 16], (W_Ves hv hh hr hc))) 3 rfl ?_
      refine sv_Q.V (b := 0) (av := [.int ((F_Cargo_placeOf a0 hc) + (1 : Int32))]) (ps := [16, 17, 18, 19, 20, 21]) (rest := []) (cs1 := (W_Cargo hc)) (cs2 := (W_Cargo hc)) (st' := [.int (F_Cargo_boxAt ((F_Cargo_placeOf a0 hc) + (1 : Int32)) hc)]) (cs' := (W_Ves hv hh hr hc)) (q := (38, .null, 0, 0, 0)) lk_Ves_100 (t_Cargo_boxAt hc ((F_Cargo_placeOf a0 hc) + (1 : Int32))) rfl rfl rfl rfl rfl (Or.inl ⟨0, _, _, rfl, rfl, rfl⟩) rfl rfl (sc_Ves_Cargo_3 hv hh hr hc) rfl rfl (pc_Ves_Cargo_3 hv hh hr hc hc) ?_
      refine sv_Q.s (σ' := (42, [some (.ref 0), some (.int a0), some (.int ((F_Cargo_placeOf a0 hc) + (1 : Int32)))], [.int (-1 : Int32), .int (F_Cargo_boxAt ((F_Cargo_placeOf a0 hc) + (1 : Int32)) hc)], (W_Ves hv hh hr hc))) 1 rfl ?_
      refine sv_Q.sb rfl (fun c3 => ?_) (fun c3 => ?_)
      · refine sv_Q.s (σ' := (50, [some (.ref 0), some (.int a0), some (.int ((F_Cargo_placeOf a0 hc) + (1 : Int32)))], [.int (0 : Int32)], (W_Ves hv hh hr hc))) 1 rfl ?_
        exact sv_Q.z ⟨sv_01 (0 : Int32), rfl, Or.inl rfl, rfl⟩
      · refine sv_Q.s (σ' := (50, [some (.ref 0), some (.int a0), some (.int ((F_Cargo_placeOf a0 hc) + (1 : Int32)))], [.int (1 : Int32)], (W_Ves hv hh hr hc))) 2 rfl ?_
        exact sv_Q.z ⟨sv_01 (1 : Int32), rfl, Or.inr rfl, rfl⟩
theorem t_Ves_isPinned {X : Nat × (Nat → Int32)} (hv hh hr hc : Nat → Nat → Int32) (a0 : Int32) : sv_R X 3 M_Ves_isPinned [.ref 0, .int a0] (W_Ves hv hh hr hc) (some (.int (F_Ves_isPinned a0 hh hc))) (W_Ves hv hh hr hc) := r_Ves_isPinned hv hh hr hc a0 _ rfl
theorem b_Ves_isPinned (a0 : Int32) (hh hc : Nat → Nat → Int32) : sv_01 (F_Ves_isPinned a0 hh hc) := by
  unfold F_Ves_isPinned
  try simp only [sv_let]
  repeat' split
  all_goals first | exact Or.inl rfl | exact Or.inr rfl | apply b_Cargo_lies | apply b_Hull_isLowest
def F_Ves_canLift (a0 : Int32) (hh hc : Nat → Nat → Int32) : Int32 := (if (F_Cargo_lies a0 hc) = 0 then (0 : Int32) else (if ¬ (F_Ves_isPinned a0 hh hc) = 0 then (0 : Int32) else (1 : Int32)))
theorem r_Ves_canLift {X : Nat × (Nat → Int32)} (hv hh hr hc : Nat → Nat → Int32) (a0 : Int32) : ∀ x, some (F_Ves_canLift a0 hh hc) = some x → sv_R X 4 M_Ves_canLift [.ref 0, .int a0] (W_Ves hv hh hr hc) (some (.int x)) (W_Ves hv hh hr hc) := by
  refine sv_Q.R (res := (fun (x : Int32) => (some (.int x), (W_Ves hv hh hr hc)))) g_Ves_canLift rfl ?_
  unfold F_Ves_canLift
  refine sv_Q.s (σ' := (5, [some (.ref 0), some (.int a0)], [.int a0, .ref 16], (W_Ves hv hh hr hc))) 3 rfl ?_
  refine sv_Q.V (b := 0) (av := [.int a0]) (ps := [16, 17, 18, 19, 20, 21]) (rest := []) (cs1 := (W_Cargo hc)) (cs2 := (W_Cargo hc)) (st' := [.int (F_Cargo_lies a0 hc)]) (cs' := (W_Ves hv hh hr hc)) (q := (5, .null, 0, 0, 0)) lk_Ves_82 (t_Cargo_lies hc a0) rfl rfl rfl rfl rfl (Or.inl ⟨0, _, _, rfl, rfl, rfl⟩) rfl rfl (sc_Ves_Cargo_3 hv hh hr hc) rfl rfl (pc_Ves_Cargo_3 hv hh hr hc hc) ?_
  refine sv_Q.sb rfl (fun c1 => ?_) (fun c1 => ?_)
  · refine sv_Q.s (σ' := (24, [some (.ref 0), some (.int a0)], [.int (0 : Int32)], (W_Ves hv hh hr hc))) 1 rfl ?_
    exact sv_Q.z ⟨sv_01 (0 : Int32), rfl, Or.inl rfl, rfl⟩
  · refine sv_Q.s (σ' := (13, [some (.ref 0), some (.int a0)], [.int a0, .ref 0], (W_Ves hv hh hr hc))) 2 rfl ?_
    refine sv_Q.V (b := 0) (av := [.int a0]) (ps := [0, 1, 2, 3, 4, 5, 6, 7, 8, 9, 10, 11, 12, 13, 14, 15, 16, 17, 18, 19, 20, 21]) (rest := []) (cs1 := (W_Ves hv hh hr hc)) (cs2 := (W_Ves hv hh hr hc)) (st' := [.int (F_Ves_isPinned a0 hh hc)]) (cs' := (W_Ves hv hh hr hc)) (q := (13, .null, 0, 0, 0)) lk_Ves_135 (t_Ves_isPinned hv hh hr hc a0) rfl rfl rfl rfl rfl (Or.inl ⟨10, _, _, rfl, rfl, rfl⟩) rfl rfl (sc_Ves_Ves_0 hv hh hr hc) rfl rfl (pc_Ves_Ves_0 hv hh hr hc hv hh hr hc) ?_
    refine sv_Q.sb rfl (fun c2 => ?_) (fun c2 => ?_)
    · refine sv_Q.s (σ' := (24, [some (.ref 0), some (.int a0)], [.int (0 : Int32)], (W_Ves hv hh hr hc))) 1 rfl ?_
      exact sv_Q.z ⟨sv_01 (0 : Int32), rfl, Or.inl rfl, rfl⟩
    · refine sv_Q.s (σ' := (24, [some (.ref 0), some (.int a0)], [.int (1 : Int32)], (W_Ves hv hh hr hc))) 2 rfl ?_
      exact sv_Q.z ⟨sv_01 (1 : Int32), rfl, Or.inr rfl, rfl⟩
theorem t_Ves_canLift {X : Nat × (Nat → Int32)} (hv hh hr hc : Nat → Nat → Int32) (a0 : Int32) : sv_R X 4 M_Ves_canLift [.ref 0, .int a0] (W_Ves hv hh hr hc) (some (.int (F_Ves_canLift a0 hh hc))) (W_Ves hv hh hr hc) := r_Ves_canLift hv hh hr hc a0 _ rfl
theorem b_Ves_canLift (a0 : Int32) (hh hc : Nat → Nat → Int32) : sv_01 (F_Ves_canLift a0 hh hc) := by
  unfold F_Ves_canLift
  try simp only [sv_let]
  repeat' split
  all_goals first | exact Or.inl rfl | exact Or.inr rfl | apply b_Cargo_lies | apply b_Ves_isPinned
def L_Ves_openPlace_5 (N : Nat) : Nat → Int32 → Int32 → Int32 → Int32 → (Nat → Nat → Int32) → (Nat → Nat → Int32) → (Nat → Nat → Int32) → Option ((Int32) ⊕ (Int32))
  | 0, _, _, _, _, _, _, _ => none
  | n + 1, x1, x2, x3, x4, hh, hr, hc => (if (hh 0 4) ≤ x4 then (some (.inl x3)) else (Option.bind (F_Ves_whyNot N x1 x4 hh hr hc) fun (v2 : Int32) => (if ¬ v2 = 0 then (L_Ves_openPlace_5 N n x1 x2 x3 (x4 + (1 : Int32)) hh hr hc) else (if ¬ x3 = x2 then (L_Ves_openPlace_5 N n x1 x2 (x3 + (1 : Int32)) (x4 + (1 : Int32)) hh hr hc) else (some (.inr x4))))))
theorem l_Ves_openPlace_5 {X : Nat × (Nat → Int32)} (N : Nat) : ∀ (n : Nat) (x1 : Int32) (x2 : Int32) (x3 : Int32) (x4 : Int32) (hv hh hr hc : Nat → Nat → Int32), sv_Q X 4 M_Ves_openPlace (5, [some (.ref 0), some (.int x1), some (.int x2), some (.int x3), some (.int x4)], [], (W_Ves hv hh hr hc)) (L_Ves_openPlace_5 N n x1 x2 x3 x4 hh hr hc) (sv_K2 (fun (v : Int32) => (44, [none, none, some (.int x2), some (.int v), none], [], (W_Ves hv hh hr hc))) (sv_KR M_Ves_openPlace (fun (x : Int32) => (some (.int x), (W_Ves hv hh hr hc))))) := by
  intro n
  induction n with
  | zero => intro x1 x2 x3 x4 hv hh hr hc; unfold L_Ves_openPlace_5; exact sv_Q.non
  | succ n ih =>
    intro x1 x2 x3 x4 hv hh hr hc
    unfold L_Ves_openPlace_5
    refine sv_Q.s (σ' := (14, [some (.ref 0), some (.int x1), some (.int x2), some (.int x3), some (.int x4)], [.int (hh 0 4), .int x4], (W_Ves hv hh hr hc))) 4 rfl ?_
    refine sv_Q.b rfl (fun c1 => ?_) (fun c1 => ?_)
    · refine sv_Q.f (lo' := [none, none, some (.int x2), some (.int x3), none]) ⟨rfl, ⟨rfl, trivial⟩⟩ ?_
      exact sv_Q.z rfl
    · refine sv_Q.s (σ' := (21, [some (.ref 0), some (.int x1), some (.int x2), some (.int x3), some (.int x4)], [.int x4, .int x1, .ref 0], (W_Ves hv hh hr hc))) 3 rfl ?_
      refine sv_Q.o (fun v2 e3 => ?_)
      refine sv_Q.V (b := 0) (av := [.int x1, .int x4]) (ps := [0, 1, 2, 3, 4, 5, 6, 7, 8, 9, 10, 11, 12, 13, 14, 15, 16, 17, 18, 19, 20, 21]) (rest := []) (cs1 := (W_Ves hv hh hr hc)) (cs2 := (W_Ves hv hh hr hc)) (st' := [.int v2]) (cs' := (W_Ves hv hh hr hc)) (q := (21, .null, 0, 0, 0)) lk_Ves_141 (r_Ves_whyNot N hv hh hr hc x1 x4 v2 e3) rfl rfl rfl rfl rfl (Or.inl ⟨10, _, _, rfl, rfl, rfl⟩) rfl rfl (sc_Ves_Ves_0 hv hh hr hc) rfl rfl (pc_Ves_Ves_0 hv hh hr hc hv hh hr hc) ?_
      refine sv_Q.b rfl (fun c4 => ?_) (fun c4 => ?_)
      · refine sv_Q.s (σ' := (5, [some (.ref 0), some (.int x1), some (.int x2), some (.int x3), some (.int (x4 + (1 : Int32)))], [], (W_Ves hv hh hr hc))) 2 rfl ?_
        exact ih x1 x2 x3 (x4 + (1 : Int32)) hv hh hr hc
      · refine sv_Q.s (σ' := (29, [some (.ref 0), some (.int x1), some (.int x2), some (.int x3), some (.int x4)], [.int x2, .int x3], (W_Ves hv hh hr hc))) 2 rfl ?_
        refine sv_Q.b rfl (fun c5 => ?_) (fun c5 => ?_)
        · refine sv_Q.s (σ' := (5, [some (.ref 0), some (.int x1), some (.int x2), some (.int (x3 + (1 : Int32))), some (.int (x4 + (1 : Int32)))], [], (W_Ves hv hh hr hc))) 3 rfl ?_
          exact ih x1 x2 (x3 + (1 : Int32)) (x4 + (1 : Int32)) hv hh hr hc
        · refine sv_Q.s (σ' := (34, [some (.ref 0), some (.int x1), some (.int x2), some (.int x3), some (.int x4)], [.int x4], (W_Ves hv hh hr hc))) 1 rfl ?_
          exact sv_Q.z ⟨True, rfl, trivial, rfl⟩
def F_Ves_openPlace (N : Nat) (a0 : Int32) (a1 : Int32) (hh hr hc : Nat → Nat → Int32) : Option (Int32) := (sv_bs (L_Ves_openPlace_5 N N a0 a1 (0 : Int32) (0 : Int32) hh hr hc) id fun (v6 : Int32) => (if ¬ a1 = (-1 : Int32) then (some (-1 : Int32)) else (some v6)))
theorem r_Ves_openPlace {X : Nat × (Nat → Int32)} (N : Nat) (hv hh hr hc : Nat → Nat → Int32) (a0 : Int32) (a1 : Int32) : ∀ x, (F_Ves_openPlace N a0 a1 hh hr hc) = some x → sv_R X 5 M_Ves_openPlace [.ref 0, .int a0, .int a1] (W_Ves hv hh hr hc) (some (.int x)) (W_Ves hv hh hr hc) := by
  refine sv_Q.R (res := (fun (x : Int32) => (some (.int x), (W_Ves hv hh hr hc)))) g_Ves_openPlace rfl ?_
  unfold F_Ves_openPlace
  refine sv_Q.s (σ' := (5, [some (.ref 0), some (.int a0), some (.int a1), some (.int (0 : Int32)), some (.int (0 : Int32))], [], (W_Ves hv hh hr hc))) 4 rfl ?_
  refine sv_Q.bs (l_Ves_openPlace_5 N N a0 a1 (0 : Int32) (0 : Int32) hv hh hr hc) (fun v6 => ?_) (fun r σ' h => h)
  · refine sv_Q.s (σ' := (46, [none, none, some (.int a1), some (.int v6), none], [.int (-1 : Int32), .int a1], (W_Ves hv hh hr hc))) 2 rfl ?_
    refine sv_Q.b rfl (fun c7 => ?_) (fun c7 => ?_)
    · refine sv_Q.s (σ' := (54, [none, none, some (.int a1), some (.int v6), none], [.int (-1 : Int32)], (W_Ves hv hh hr hc))) 1 rfl ?_
      exact sv_Q.z ⟨True, rfl, trivial, rfl⟩
    · refine sv_Q.s (σ' := (54, [none, none, some (.int a1), some (.int v6), none], [.int v6], (W_Ves hv hh hr hc))) 2 rfl ?_
      exact sv_Q.z ⟨True, rfl, trivial, rfl⟩
def L_Ves_clearPlace_5 (N : Nat) : Nat → Int32 → Int32 → Int32 → Int32 → (Nat → Nat → Int32) → (Nat → Nat → Int32) → (Nat → Nat → Int32) → Option ((Int32) ⊕ (Int32))
  | 0, _, _, _, _, _, _, _ => none
  | n + 1, x1, x2, x3, x4, hh, hr, hc => (if (hh 0 4) ≤ x4 then (some (.inl x3)) else (if ¬ (F_Cargo_boxAt x4 hc) = (-1 : Int32) then (L_Ves_clearPlace_5 N n x1 x2 x3 (x4 + (1 : Int32)) hh hr hc) else (Option.bind (F_Ves_nearest N x1 x4 (-1 : Int32) hh hr hc) fun (v3 : Int32) => (if ¬ v3 = (-1 : Int32) then (L_Ves_clearPlace_5 N n x1 x2 x3 (x4 + (1 : Int32)) hh hr hc) else (if ¬ x3 = x2 then (L_Ves_clearPlace_5 N n x1 x2 (x3 + (1 : Int32)) (x4 + (1 : Int32)) hh hr hc) else (some (.inr x4)))))))
theorem l_Ves_clearPlace_5 {X : Nat × (Nat → Int32)} (N : Nat) : ∀ (n : Nat) (x1 : Int32) (x2 : Int32) (x3 : Int32) (x4 : Int32) (hv hh hr hc : Nat → Nat → Int32), sv_Q X 3 M_Ves_clearPlace (5, [some (.ref 0), some (.int x1), some (.int x2), some (.int x3), some (.int x4)], [], (W_Ves hv hh hr hc)) (L_Ves_clearPlace_5 N n x1 x2 x3 x4 hh hr hc) (sv_K2 (fun (v : Int32) => (59, [none, none, some (.int x2), some (.int v), none], [], (W_Ves hv hh hr hc))) (sv_KR M_Ves_clearPlace (fun (x : Int32) => (some (.int x), (W_Ves hv hh hr hc))))) := by
  intro n
  induction n with
  | zero => intro x1 x2 x3 x4 hv hh hr hc; unfold L_Ves_clearPlace_5; exact sv_Q.non
  | succ n ih =>
    intro x1 x2 x3 x4 hv hh hr hc
    unfold L_Ves_clearPlace_5
    refine sv_Q.s (σ' := (14, [some (.ref 0), some (.int x1), some (.int x2), some (.int x3), some (.int x4)], [.int (hh 0 4), .int x4], (W_Ves hv hh hr hc))) 4 rfl ?_
    refine sv_Q.b rfl (fun c1 => ?_) (fun c1 => ?_)
    · refine sv_Q.f (lo' := [none, none, some (.int x2), some (.int x3), none]) ⟨rfl, ⟨rfl, trivial⟩⟩ ?_
      exact sv_Q.z rfl
    · refine sv_Q.s (σ' := (23, [some (.ref 0), some (.int x1), some (.int x2), some (.int x3), some (.int x4)], [.int x4, .ref 16], (W_Ves hv hh hr hc))) 3 rfl ?_
      refine sv_Q.V (b := 0) (av := [.int x4]) (ps := [16, 17, 18, 19, 20, 21]) (rest := []) (cs1 := (W_Cargo hc)) (cs2 := (W_Cargo hc)) (st' := [.int (F_Cargo_boxAt x4 hc)]) (cs' := (W_Ves hv hh hr hc)) (q := (23, .null, 0, 0, 0)) lk_Ves_100 (t_Cargo_boxAt hc x4) rfl rfl rfl rfl rfl (Or.inl ⟨0, _, _, rfl, rfl, rfl⟩) rfl rfl (sc_Ves_Cargo_3 hv hh hr hc) rfl rfl (pc_Ves_Cargo_3 hv hh hr hc hc) ?_
      refine sv_Q.s (σ' := (27, [some (.ref 0), some (.int x1), some (.int x2), some (.int x3), some (.int x4)], [.int (-1 : Int32), .int (F_Cargo_boxAt x4 hc)], (W_Ves hv hh hr hc))) 1 rfl ?_
      refine sv_Q.b rfl (fun c2 => ?_) (fun c2 => ?_)
      · refine sv_Q.s (σ' := (5, [some (.ref 0), some (.int x1), some (.int x2), some (.int x3), some (.int (x4 + (1 : Int32)))], [], (W_Ves hv hh hr hc))) 2 rfl ?_
        exact ih x1 x2 x3 (x4 + (1 : Int32)) hv hh hr hc
      · refine sv_Q.s (σ' := (35, [some (.ref 0), some (.int x1), some (.int x2), some (.int x3), some (.int x4)], [.int (-1 : Int32), .int x4, .int x1, .ref 0], (W_Ves hv hh hr hc))) 4 rfl ?_
        refine sv_Q.o (fun v3 e4 => ?_)
        refine sv_Q.V (b := 0) (av := [.int x1, .int x4, .int (-1 : Int32)]) (ps := [0, 1, 2, 3, 4, 5, 6, 7, 8, 9, 10, 11, 12, 13, 14, 15, 16, 17, 18, 19, 20, 21]) (rest := []) (cs1 := (W_Ves hv hh hr hc)) (cs2 := (W_Ves hv hh hr hc)) (st' := [.int v3]) (cs' := (W_Ves hv hh hr hc)) (q := (35, .null, 0, 0, 0)) lk_Ves_132 (r_Ves_nearest N hv hh hr hc x1 x4 (-1 : Int32) v3 e4) rfl rfl rfl rfl rfl (Or.inl ⟨10, _, _, rfl, rfl, rfl⟩) rfl rfl (sc_Ves_Ves_0 hv hh hr hc) rfl rfl (pc_Ves_Ves_0 hv hh hr hc hv hh hr hc) ?_
        refine sv_Q.s (σ' := (39, [some (.ref 0), some (.int x1), some (.int x2), some (.int x3), some (.int x4)], [.int (-1 : Int32), .int v3], (W_Ves hv hh hr hc))) 1 rfl ?_
        refine sv_Q.b rfl (fun c5 => ?_) (fun c5 => ?_)
        · refine sv_Q.s (σ' := (5, [some (.ref 0), some (.int x1), some (.int x2), some (.int x3), some (.int (x4 + (1 : Int32)))], [], (W_Ves hv hh hr hc))) 2 rfl ?_
          exact ih x1 x2 x3 (x4 + (1 : Int32)) hv hh hr hc
        · refine sv_Q.s (σ' := (44, [some (.ref 0), some (.int x1), some (.int x2), some (.int x3), some (.int x4)], [.int x2, .int x3], (W_Ves hv hh hr hc))) 2 rfl ?_
          refine sv_Q.b rfl (fun c6 => ?_) (fun c6 => ?_)
          · refine sv_Q.s (σ' := (5, [some (.ref 0), some (.int x1), some (.int x2), some (.int (x3 + (1 : Int32))), some (.int (x4 + (1 : Int32)))], [], (W_Ves hv hh hr hc))) 3 rfl ?_
            exact ih x1 x2 (x3 + (1 : Int32)) (x4 + (1 : Int32)) hv hh hr hc
          · refine sv_Q.s (σ' := (49, [some (.ref 0), some (.int x1), some (.int x2), some (.int x3), some (.int x4)], [.int x4], (W_Ves hv hh hr hc))) 1 rfl ?_
            exact sv_Q.z ⟨True, rfl, trivial, rfl⟩
def F_Ves_clearPlace (N : Nat) (a0 : Int32) (a1 : Int32) (hh hr hc : Nat → Nat → Int32) : Option (Int32) := (sv_bs (L_Ves_clearPlace_5 N N a0 a1 (0 : Int32) (0 : Int32) hh hr hc) id fun (v7 : Int32) => (if ¬ a1 = (-1 : Int32) then (some (-1 : Int32)) else (some v7)))
theorem r_Ves_clearPlace {X : Nat × (Nat → Int32)} (N : Nat) (hv hh hr hc : Nat → Nat → Int32) (a0 : Int32) (a1 : Int32) : ∀ x, (F_Ves_clearPlace N a0 a1 hh hr hc) = some x → sv_R X 4 M_Ves_clearPlace [.ref 0, .int a0, .int a1] (W_Ves hv hh hr hc) (some (.int x)) (W_Ves hv hh hr hc) := by
  refine sv_Q.R (res := (fun (x : Int32) => (some (.int x), (W_Ves hv hh hr hc)))) g_Ves_clearPlace rfl ?_
  unfold F_Ves_clearPlace
  refine sv_Q.s (σ' := (5, [some (.ref 0), some (.int a0), some (.int a1), some (.int (0 : Int32)), some (.int (0 : Int32))], [], (W_Ves hv hh hr hc))) 4 rfl ?_
  refine sv_Q.bs (l_Ves_clearPlace_5 N N a0 a1 (0 : Int32) (0 : Int32) hv hh hr hc) (fun v7 => ?_) (fun r σ' h => h)
  · refine sv_Q.s (σ' := (61, [none, none, some (.int a1), some (.int v7), none], [.int (-1 : Int32), .int a1], (W_Ves hv hh hr hc))) 2 rfl ?_
    refine sv_Q.b rfl (fun c8 => ?_) (fun c8 => ?_)
    · refine sv_Q.s (σ' := (69, [none, none, some (.int a1), some (.int v7), none], [.int (-1 : Int32)], (W_Ves hv hh hr hc))) 1 rfl ?_
      exact sv_Q.z ⟨True, rfl, trivial, rfl⟩
    · refine sv_Q.s (σ' := (69, [none, none, some (.int a1), some (.int v7), none], [.int v7], (W_Ves hv hh hr hc))) 2 rfl ?_
      exact sv_Q.z ⟨True, rfl, trivial, rfl⟩
def L_Ves_countNearTo_4 (N : Nat) : Nat → Int32 → Int32 → Int32 → (Nat → Nat → Int32) → (Nat → Nat → Int32) → (Nat → Nat → Int32) → Option (Int32)
  | 0, _, _, _, _, _, _ => none
  | n + 1, x1, x2, x3, hh, hr, hc => (if (hc 0 0) ≤ x3 then (some x2) else (if x3 = x1 then (L_Ves_countNearTo_4 N n x1 x2 (x3 + (1 : Int32)) hh hr hc) else (if (F_Ves_areNear x1 x3 hh hr hc) = 0 then (L_Ves_countNearTo_4 N n x1 x2 (x3 + (1 : Int32)) hh hr hc) else (L_Ves_countNearTo_4 N n x1 (x2 + (1 : Int32)) (x3 + (1 : Int32)) hh hr hc))))
theorem l_Ves_countNearTo_4 {X : Nat × (Nat → Int32)} (N : Nat) : ∀ (n : Nat) (x1 : Int32) (x2 : Int32) (x3 : Int32) (hv hh hr hc : Nat → Nat → Int32), sv_Q X 3 M_Ves_countNearTo (4, [some (.ref 0), some (.int x1), some (.int x2), some (.int x3)], [], (W_Ves hv hh hr hc)) (L_Ves_countNearTo_4 N n x1 x2 x3 hh hr hc) (fun v σ' => σ' = (38, [none, none, some (.int v), none], [], (W_Ves hv hh hr hc))) := by
  intro n
  induction n with
  | zero => intro x1 x2 x3 hv hh hr hc; unfold L_Ves_countNearTo_4; exact sv_Q.non
  | succ n ih =>
    intro x1 x2 x3 hv hh hr hc
    unfold L_Ves_countNearTo_4
    refine sv_Q.s (σ' := (12, [some (.ref 0), some (.int x1), some (.int x2), some (.int x3)], [.int (hc 0 0), .int x3], (W_Ves hv hh hr hc))) 4 rfl ?_
    refine sv_Q.b rfl (fun c1 => ?_) (fun c1 => ?_)
    · refine sv_Q.f (lo' := [none, none, some (.int x2), none]) ⟨rfl, trivial⟩ ?_
      exact sv_Q.z rfl
    · refine sv_Q.s (σ' := (17, [some (.ref 0), some (.int x1), some (.int x2), some (.int x3)], [.int x1, .int x3], (W_Ves hv hh hr hc))) 2 rfl ?_
      refine sv_Q.b rfl (fun c2 => ?_) (fun c2 => ?_)
      · refine sv_Q.s (σ' := (4, [some (.ref 0), some (.int x1), some (.int x2), some (.int (x3 + (1 : Int32)))], [], (W_Ves hv hh hr hc))) 2 rfl ?_
        exact ih x1 x2 (x3 + (1 : Int32)) hv hh hr hc
      · refine sv_Q.s (σ' := (23, [some (.ref 0), some (.int x1), some (.int x2), some (.int x3)], [.int x3, .int x1, .ref 0], (W_Ves hv hh hr hc))) 3 rfl ?_
        refine sv_Q.V (b := 0) (av := [.int x1, .int x3]) (ps := [0, 1, 2, 3, 4, 5, 6, 7, 8, 9, 10, 11, 12, 13, 14, 15, 16, 17, 18, 19, 20, 21]) (rest := []) (cs1 := (W_Ves hv hh hr hc)) (cs2 := (W_Ves hv hh hr hc)) (st' := [.int (F_Ves_areNear x1 x3 hh hr hc)]) (cs' := (W_Ves hv hh hr hc)) (q := (23, .null, 0, 0, 0)) lk_Ves_144 (t_Ves_areNear hv hh hr hc x1 x3) rfl rfl rfl rfl rfl (Or.inl ⟨10, _, _, rfl, rfl, rfl⟩) rfl rfl (sc_Ves_Ves_0 hv hh hr hc) rfl rfl (pc_Ves_Ves_0 hv hh hr hc hv hh hr hc) ?_
        refine sv_Q.b rfl (fun c3 => ?_) (fun c3 => ?_)
        · refine sv_Q.s (σ' := (4, [some (.ref 0), some (.int x1), some (.int x2), some (.int (x3 + (1 : Int32)))], [], (W_Ves hv hh hr hc))) 2 rfl ?_
          exact ih x1 x2 (x3 + (1 : Int32)) hv hh hr hc
        · refine sv_Q.s (σ' := (4, [some (.ref 0), some (.int x1), some (.int (x2 + (1 : Int32))), some (.int (x3 + (1 : Int32)))], [], (W_Ves hv hh hr hc))) 3 rfl ?_
          exact ih x1 (x2 + (1 : Int32)) (x3 + (1 : Int32)) hv hh hr hc
def F_Ves_countNearTo (N : Nat) (a0 : Int32) (hh hr hc : Nat → Nat → Int32) : Option (Int32) := (Option.bind (L_Ves_countNearTo_4 N N a0 (0 : Int32) (0 : Int32) hh hr hc) fun (v4 : Int32) => (some v4))
theorem r_Ves_countNearTo {X : Nat × (Nat → Int32)} (N : Nat) (hv hh hr hc : Nat → Nat → Int32) (a0 : Int32) : ∀ x, (F_Ves_countNearTo N a0 hh hr hc) = some x → sv_R X 4 M_Ves_countNearTo [.ref 0, .int a0] (W_Ves hv hh hr hc) (some (.int x)) (W_Ves hv hh hr hc) := by
  refine sv_Q.R (res := (fun (x : Int32) => (some (.int x), (W_Ves hv hh hr hc)))) g_Ves_countNearTo rfl ?_
  unfold F_Ves_countNearTo
  refine sv_Q.s (σ' := (4, [some (.ref 0), some (.int a0), some (.int (0 : Int32)), some (.int (0 : Int32))], [], (W_Ves hv hh hr hc))) 4 rfl ?_
  refine sv_Q.lo (fun v4 => (38, [none, none, some (.int v4), none], [], (W_Ves hv hh hr hc))) (fun v4 => ?_) (l_Ves_countNearTo_4 N N a0 (0 : Int32) (0 : Int32) hv hh hr hc)
  · refine sv_Q.s (σ' := (39, [none, none, some (.int v4), none], [.int v4], (W_Ves hv hh hr hc))) 1 rfl ?_
    exact sv_Q.z ⟨True, rfl, trivial, rfl⟩
def L_Ves_countNear_4 (N : Nat) : Nat → Int32 → Int32 → (Nat → Nat → Int32) → (Nat → Nat → Int32) → (Nat → Nat → Int32) → Option (Int32)
  | 0, _, _, _, _, _ => none
  | n + 1, x1, x2, hh, hr, hc => (if (hc 0 0) ≤ x2 then (some x1) else (Option.bind (F_Ves_countNearTo N x2 hh hr hc) fun (v2 : Int32) => (L_Ves_countNear_4 N n (x1 + v2) (x2 + (1 : Int32)) hh hr hc)))
theorem l_Ves_countNear_4 {X : Nat × (Nat → Int32)} (N : Nat) : ∀ (n : Nat) (x1 : Int32) (x2 : Int32) (hv hh hr hc : Nat → Nat → Int32), sv_Q X 4 M_Ves_countNear (4, [some (.ref 0), some (.int x1), some (.int x2)], [], (W_Ves hv hh hr hc)) (L_Ves_countNear_4 N n x1 x2 hh hr hc) (fun v σ' => σ' = (29, [none, some (.int v), none], [], (W_Ves hv hh hr hc))) := by
  intro n
  induction n with
  | zero => intro x1 x2 hv hh hr hc; unfold L_Ves_countNear_4; exact sv_Q.non
  | succ n ih =>
    intro x1 x2 hv hh hr hc
    unfold L_Ves_countNear_4
    refine sv_Q.s (σ' := (12, [some (.ref 0), some (.int x1), some (.int x2)], [.int (hc 0 0), .int x2], (W_Ves hv hh hr hc))) 4 rfl ?_
    refine sv_Q.b rfl (fun c1 => ?_) (fun c1 => ?_)
    · refine sv_Q.f (lo' := [none, some (.int x1), none]) ⟨rfl, trivial⟩ ?_
      exact sv_Q.z rfl
    · refine sv_Q.s (σ' := (18, [some (.ref 0), some (.int x1), some (.int x2)], [.int x2, .ref 0, .int x1], (W_Ves hv hh hr hc))) 3 rfl ?_
      refine sv_Q.o (fun v2 e3 => ?_)
      refine sv_Q.V (b := 0) (av := [.int x2]) (ps := [0, 1, 2, 3, 4, 5, 6, 7, 8, 9, 10, 11, 12, 13, 14, 15, 16, 17, 18, 19, 20, 21]) (rest := [.int x1]) (cs1 := (W_Ves hv hh hr hc)) (cs2 := (W_Ves hv hh hr hc)) (st' := [.int v2, .int x1]) (cs' := (W_Ves hv hh hr hc)) (q := (18, .null, 0, 0, 0)) lk_Ves_148 (r_Ves_countNearTo N hv hh hr hc x2 v2 e3) rfl rfl rfl rfl rfl (Or.inl ⟨10, _, _, rfl, rfl, rfl⟩) rfl rfl (sc_Ves_Ves_0 hv hh hr hc) rfl rfl (pc_Ves_Ves_0 hv hh hr hc hv hh hr hc) ?_
      refine sv_Q.s (σ' := (4, [some (.ref 0), some (.int (x1 + v2)), some (.int (x2 + (1 : Int32)))], [], (W_Ves hv hh hr hc))) 4 rfl ?_
      exact ih (x1 + v2) (x2 + (1 : Int32)) hv hh hr hc
def F_Ves_countNear (N : Nat) (hh hr hc : Nat → Nat → Int32) : Option (Int32) := (Option.bind (L_Ves_countNear_4 N N (0 : Int32) (0 : Int32) hh hr hc) fun (v4 : Int32) => (some (v4 >>> ((1 : Int32) &&& 31))))
theorem r_Ves_countNear {X : Nat × (Nat → Int32)} (N : Nat) (hv hh hr hc : Nat → Nat → Int32) : ∀ x, (F_Ves_countNear N hh hr hc) = some x → sv_R X 5 M_Ves_countNear [.ref 0] (W_Ves hv hh hr hc) (some (.int x)) (W_Ves hv hh hr hc) := by
  refine sv_Q.R (res := (fun (x : Int32) => (some (.int x), (W_Ves hv hh hr hc)))) g_Ves_countNear rfl ?_
  unfold F_Ves_countNear
  refine sv_Q.s (σ' := (4, [some (.ref 0), some (.int (0 : Int32)), some (.int (0 : Int32))], [], (W_Ves hv hh hr hc))) 4 rfl ?_
  refine sv_Q.lo (fun v4 => (29, [none, some (.int v4), none], [], (W_Ves hv hh hr hc))) (fun v4 => ?_) (l_Ves_countNear_4 N N (0 : Int32) (0 : Int32) hv hh hr hc)
  · refine sv_Q.s (σ' := (32, [none, some (.int v4), none], [.int (v4 >>> ((1 : Int32) &&& 31))], (W_Ves hv hh hr hc))) 3 rfl ?_
    exact sv_Q.z ⟨True, rfl, trivial, rfl⟩
def L_Ves_nearTwo_20 (N : Nat) : Nat → Int32 → Int32 → Int32 → Int32 → (Nat → Nat → Int32) → (Nat → Nat → Int32) → (Nat → Nat → Int32) → Option ((Int32) ⊕ (Int32))
  | 0, _, _, _, _, _, _, _ => none
  | n + 1, x1, x2, x3, x4, hh, hr, hc => (if (hc 0 0) ≤ x4 then (some (.inl x2)) else (if (F_Ves_areNear x3 x4 hh hr hc) = 0 then (L_Ves_nearTwo_20 N n x1 x2 x3 (x4 + (1 : Int32)) hh hr hc) else (if ¬ x2 = x1 then (L_Ves_nearTwo_20 N n x1 (x2 + (1 : Int32)) x3 (x4 + (1 : Int32)) hh hr hc) else (some (.inr (((100 : Int32) * x3) + x4))))))
theorem l_Ves_nearTwo_20 {X : Nat × (Nat → Int32)} (N : Nat) : ∀ (n : Nat) (x1 : Int32) (x2 : Int32) (x3 : Int32) (x4 : Int32) (hv hh hr hc : Nat → Nat → Int32), sv_Q X 3 M_Ves_nearTwo (20, [some (.ref 0), some (.int x1), some (.int x2), some (.int x3), some (.int x4)], [], (W_Ves hv hh hr hc)) (L_Ves_nearTwo_20 N n x1 x2 x3 x4 hh hr hc) (sv_K2 (fun (v : Int32) => (64, [some (.ref 0), some (.int x1), some (.int v), some (.int x3), none], [], (W_Ves hv hh hr hc))) (sv_KR M_Ves_nearTwo (fun (x : Int32) => (some (.int x), (W_Ves hv hh hr hc))))) := by
  intro n
  induction n with
  | zero => intro x1 x2 x3 x4 hv hh hr hc; unfold L_Ves_nearTwo_20; exact sv_Q.non
  | succ n ih =>
    intro x1 x2 x3 x4 hv hh hr hc
    unfold L_Ves_nearTwo_20
    refine sv_Q.s (σ' := (29, [some (.ref 0), some (.int x1), some (.int x2), some (.int x3), some (.int x4)], [.int (hc 0 0), .int x4], (W_Ves hv hh hr hc))) 4 rfl ?_
    refine sv_Q.b rfl (fun c2 => ?_) (fun c2 => ?_)
    · refine sv_Q.f (lo' := [some (.ref 0), some (.int x1), some (.int x2), some (.int x3), none]) ⟨rfl, ⟨rfl, ⟨rfl, ⟨rfl, trivial⟩⟩⟩⟩ ?_
      exact sv_Q.z rfl
    · refine sv_Q.s (σ' := (36, [some (.ref 0), some (.int x1), some (.int x2), some (.int x3), some (.int x4)], [.int x4, .int x3, .ref 0], (W_Ves hv hh hr hc))) 3 rfl ?_
      refine sv_Q.V (b := 0) (av := [.int x3, .int x4]) (ps := [0, 1, 2, 3, 4, 5, 6, 7, 8, 9, 10, 11, 12, 13, 14, 15, 16, 17, 18, 19, 20, 21]) (rest := []) (cs1 := (W_Ves hv hh hr hc)) (cs2 := (W_Ves hv hh hr hc)) (st' := [.int (F_Ves_areNear x3 x4 hh hr hc)]) (cs' := (W_Ves hv hh hr hc)) (q := (36, .null, 0, 0, 0)) lk_Ves_144 (t_Ves_areNear hv hh hr hc x3 x4) rfl rfl rfl rfl rfl (Or.inl ⟨10, _, _, rfl, rfl, rfl⟩) rfl rfl (sc_Ves_Ves_0 hv hh hr hc) rfl rfl (pc_Ves_Ves_0 hv hh hr hc hv hh hr hc) ?_
      refine sv_Q.b rfl (fun c3 => ?_) (fun c3 => ?_)
      · refine sv_Q.s (σ' := (20, [some (.ref 0), some (.int x1), some (.int x2), some (.int x3), some (.int (x4 + (1 : Int32)))], [], (W_Ves hv hh hr hc))) 2 rfl ?_
        exact ih x1 x2 x3 (x4 + (1 : Int32)) hv hh hr hc
      · refine sv_Q.s (σ' := (44, [some (.ref 0), some (.int x1), some (.int x2), some (.int x3), some (.int x4)], [.int x1, .int x2], (W_Ves hv hh hr hc))) 2 rfl ?_
        refine sv_Q.b rfl (fun c4 => ?_) (fun c4 => ?_)
        · refine sv_Q.s (σ' := (20, [some (.ref 0), some (.int x1), some (.int (x2 + (1 : Int32))), some (.int x3), some (.int (x4 + (1 : Int32)))], [], (W_Ves hv hh hr hc))) 3 rfl ?_
          exact ih x1 (x2 + (1 : Int32)) x3 (x4 + (1 : Int32)) hv hh hr hc
        · refine sv_Q.s (σ' := (54, [some (.ref 0), some (.int x1), some (.int x2), some (.int x3), some (.int x4)], [.int (((100 : Int32) * x3) + x4)], (W_Ves hv hh hr hc))) 5 rfl ?_
          exact sv_Q.z ⟨True, rfl, trivial, rfl⟩
def L_Ves_nearTwo_4 (N : Nat) : Nat → Int32 → Int32 → Int32 → (Nat → Nat → Int32) → (Nat → Nat → Int32) → (Nat → Nat → Int32) → Option ((Unit) ⊕ (Int32))
  | 0, _, _, _, _, _, _ => none
  | n + 1, x1, x2, x3, hh, hr, hc => (if (hc 0 0) ≤ x3 then (some (.inl ())) else (sv_bs (L_Ves_nearTwo_20 N N x1 x2 x3 (x3 + (1 : Int32)) hh hr hc) Sum.inr fun (v5 : Int32) => (L_Ves_nearTwo_4 N n x1 v5 (x3 + (1 : Int32)) hh hr hc)))
theorem l_Ves_nearTwo_4 {X : Nat × (Nat → Int32)} (N : Nat) : ∀ (n : Nat) (x1 : Int32) (x2 : Int32) (x3 : Int32) (hv hh hr hc : Nat → Nat → Int32), sv_Q X 3 M_Ves_nearTwo (4, [some (.ref 0), some (.int x1), some (.int x2), some (.int x3), none], [], (W_Ves hv hh hr hc)) (L_Ves_nearTwo_4 N n x1 x2 x3 hh hr hc) (sv_K2 (fun (v : Unit) => (70, [none, none, none, none, none], [], (W_Ves hv hh hr hc))) (sv_KR M_Ves_nearTwo (fun (x : Int32) => (some (.int x), (W_Ves hv hh hr hc))))) := by
  intro n
  induction n with
  | zero => intro x1 x2 x3 hv hh hr hc; unfold L_Ves_nearTwo_4; exact sv_Q.non
  | succ n ih =>
    intro x1 x2 x3 hv hh hr hc
    unfold L_Ves_nearTwo_4
    refine sv_Q.s (σ' := (12, [some (.ref 0), some (.int x1), some (.int x2), some (.int x3), none], [.int (hc 0 0), .int x3], (W_Ves hv hh hr hc))) 4 rfl ?_
    refine sv_Q.b rfl (fun c1 => ?_) (fun c1 => ?_)
    · refine sv_Q.f (lo' := [none, none, none, none, none]) trivial ?_
      exact sv_Q.z rfl
    · refine sv_Q.s (σ' := (20, [some (.ref 0), some (.int x1), some (.int x2), some (.int x3), some (.int (x3 + (1 : Int32)))], [], (W_Ves hv hh hr hc))) 4 rfl ?_
      refine sv_Q.bs (l_Ves_nearTwo_20 N N x1 x2 x3 (x3 + (1 : Int32)) hv hh hr hc) (fun v5 => ?_) (fun r σ' h => h)
      · refine sv_Q.s (σ' := (4, [some (.ref 0), some (.int x1), some (.int v5), some (.int (x3 + (1 : Int32))), none], [], (W_Ves hv hh hr hc))) 2 rfl ?_
        exact ih x1 v5 (x3 + (1 : Int32)) hv hh hr hc
def F_Ves_nearTwo (N : Nat) (a0 : Int32) (hh hr hc : Nat → Nat → Int32) : Option (Int32) := (sv_bs (L_Ves_nearTwo_4 N N a0 (0 : Int32) (0 : Int32) hh hr hc) id fun (v6 : Unit) => (some (-1 : Int32)))
theorem r_Ves_nearTwo {X : Nat × (Nat → Int32)} (N : Nat) (hv hh hr hc : Nat → Nat → Int32) (a0 : Int32) : ∀ x, (F_Ves_nearTwo N a0 hh hr hc) = some x → sv_R X 4 M_Ves_nearTwo [.ref 0, .int a0] (W_Ves hv hh hr hc) (some (.int x)) (W_Ves hv hh hr hc) := by
  refine sv_Q.R (res := (fun (x : Int32) => (some (.int x), (W_Ves hv hh hr hc)))) g_Ves_nearTwo rfl ?_
  unfold F_Ves_nearTwo
  refine sv_Q.s (σ' := (4, [some (.ref 0), some (.int a0), some (.int (0 : Int32)), some (.int (0 : Int32)), none], [], (W_Ves hv hh hr hc))) 4 rfl ?_
  refine sv_Q.bs (l_Ves_nearTwo_4 N N a0 (0 : Int32) (0 : Int32) hv hh hr hc) (fun v6 => ?_) (fun r σ' h => h)
  · refine sv_Q.s (σ' := (71, [none, none, none, none, none], [.int (-1 : Int32)], (W_Ves hv hh hr hc))) 1 rfl ?_
    exact sv_Q.z ⟨True, rfl, trivial, rfl⟩
def L_Ves_harmlessDoors_9 (N : Nat) : Nat → Int32 → Int32 → Int32 → (Nat → Nat → Int32) → (Nat → Nat → Int32) → (Nat → Nat → Int32) → Option (Int32 × (Nat → Nat → Int32))
  | 0, _, _, _, _, _, _ => none
  | n + 1, x1, x2, x3, hh, hr, hc => (if (hh 0 0) ≤ x3 then (some (x2, hh)) else (if (F_Hull_hasDoor x3 hh) = 0 then (L_Ves_harmlessDoors_9 N n x1 x2 (x3 + (1 : Int32)) hh hr hc) else (Option.bind (F_Hull_setWall N x3 (2 : Int32) hh) fun (v5 : (Nat → Nat → Int32)) => (Option.bind (F_Ves_countNear N v5 hr hc) fun (v7 : Int32) => (sv_let (if x1 < v7 then x2 else (x2 ||| ((1 : Int32) <<< (x3 &&& 31)))) fun (v10 : Int32) => (Option.bind (F_Hull_setWall N x3 (F_Hull_wallAt x3 hh) v5) fun (v11 : (Nat → Nat → Int32)) => (L_Ves_harmlessDoors_9 N n x1 v10 (x3 + (1 : Int32)) v11 hr hc)))))))
theorem l_Ves_harmlessDoors_9 {X : Nat × (Nat → Int32)} (N : Nat) : ∀ (n : Nat) (x1 : Int32) (x2 : Int32) (x3 : Int32) (hv hh hr hc : Nat → Nat → Int32), sv_Q X 5 M_Ves_harmlessDoors (9, [some (.ref 0), some (.int x1), some (.int x2), some (.int x3), none], [], (W_Ves hv hh hr hc)) (L_Ves_harmlessDoors_9 N n x1 x2 x3 hh hr hc) (fun v σ' => σ' = (80, [none, none, some (.int v.1), none, none], [], (W_Ves hv v.2 hr hc))) := by
  intro n
  induction n with
  | zero => intro x1 x2 x3 hv hh hr hc; unfold L_Ves_harmlessDoors_9; exact sv_Q.non
  | succ n ih =>
    intro x1 x2 x3 hv hh hr hc
    unfold L_Ves_harmlessDoors_9
    refine sv_Q.s (σ' := (17, [some (.ref 0), some (.int x1), some (.int x2), some (.int x3), none], [.int (hh 0 0), .int x3], (W_Ves hv hh hr hc))) 4 rfl ?_
    refine sv_Q.b rfl (fun c3 => ?_) (fun c3 => ?_)
    · refine sv_Q.f (lo' := [none, none, some (.int x2), none, none]) ⟨rfl, trivial⟩ ?_
      exact sv_Q.z rfl
    · refine sv_Q.s (σ' := (25, [some (.ref 0), some (.int x1), some (.int x2), some (.int x3), none], [.int x3, .ref 2], (W_Ves hv hh hr hc))) 3 rfl ?_
      refine sv_Q.V (b := 0) (av := [.int x3]) (ps := [2, 3, 4, 5, 6, 7]) (rest := []) (cs1 := (W_Hull hh)) (cs2 := (W_Hull hh)) (st' := [.int (F_Hull_hasDoor x3 hh)]) (cs' := (W_Ves hv hh hr hc)) (q := (25, .null, 0, 0, 0)) lk_Ves_158 (t_Hull_hasDoor hh x3) rfl rfl rfl rfl rfl (Or.inl ⟨2, _, _, rfl, rfl, rfl⟩) rfl rfl (sc_Ves_Hull_1 hv hh hr hc) rfl rfl (pc_Ves_Hull_1 hv hh hr hc hh) ?_
      refine sv_Q.b rfl (fun c4 => ?_) (fun c4 => ?_)
      · refine sv_Q.s (σ' := (9, [some (.ref 0), some (.int x1), some (.int x2), some (.int (x3 + (1 : Int32))), none], [], (W_Ves hv hh hr hc))) 2 rfl ?_
        exact ih x1 x2 (x3 + (1 : Int32)) hv hh hr hc
      · refine sv_Q.s (σ' := (36, [some (.ref 0), some (.int x1), some (.int x2), some (.int x3), none], [.int x3, .ref 2], (W_Ves hv hh hr hc))) 3 rfl ?_
        refine sv_Q.V (b := 0) (av := [.int x3]) (ps := [2, 3, 4, 5, 6, 7]) (rest := []) (cs1 := (W_Hull hh)) (cs2 := (W_Hull hh)) (st' := [.int (F_Hull_wallAt x3 hh)]) (cs' := (W_Ves hv hh hr hc)) (q := (36, .null, 0, 0, 0)) lk_Ves_161 (t_Hull_wallAt hh x3) rfl rfl rfl rfl rfl (Or.inl ⟨2, _, _, rfl, rfl, rfl⟩) rfl rfl (sc_Ves_Hull_1 hv hh hr hc) rfl rfl (pc_Ves_Hull_1 hv hh hr hc hh) ?_
        refine sv_Q.s (σ' := (47, [some (.ref 0), some (.int x1), some (.int x2), some (.int x3), some (.int (F_Hull_wallAt x3 hh))], [.int (2 : Int32), .int x3, .ref 2], (W_Ves hv hh hr hc))) 5 rfl ?_
        refine sv_Q.o (fun v5 e6 => ?_)
        refine sv_Q.V (b := 0) (av := [.int x3, .int (2 : Int32)]) (ps := [2, 3, 4, 5, 6, 7]) (rest := []) (cs1 := (W_Hull hh)) (cs2 := (W_Hull v5)) (st' := []) (cs' := (W_Ves hv v5 hr hc)) (q := (47, .null, 0, 0, 0)) lk_Ves_164 (r_Hull_setWall N hh x3 (2 : Int32) v5 e6) rfl rfl rfl rfl rfl (Or.inl ⟨2, _, _, rfl, rfl, rfl⟩) rfl rfl (sc_Ves_Hull_1 hv hh hr hc) rfl rfl (pc_Ves_Hull_1 hv hh hr hc v5) ?_
        refine sv_Q.s (σ' := (51, [some (.ref 0), some (.int x1), some (.int x2), some (.int x3), some (.int (F_Hull_wallAt x3 hh))], [.ref 0], (W_Ves hv v5 hr hc))) 1 rfl ?_
        refine sv_Q.o (fun v7 e8 => ?_)
        refine sv_Q.V (b := 0) (av := []) (ps := [0, 1, 2, 3, 4, 5, 6, 7, 8, 9, 10, 11, 12, 13, 14, 15, 16, 17, 18, 19, 20, 21]) (rest := []) (cs1 := (W_Ves hv v5 hr hc)) (cs2 := (W_Ves hv v5 hr hc)) (st' := [.int v7]) (cs' := (W_Ves hv v5 hr hc)) (q := (51, .null, 0, 0, 0)) lk_Ves_151 (r_Ves_countNear N hv v5 hr hc v7 e8) rfl rfl rfl rfl rfl (Or.inl ⟨10, _, _, rfl, rfl, rfl⟩) rfl rfl (sc_Ves_Ves_0 hv v5 hr hc) rfl rfl (pc_Ves_Ves_0 hv v5 hr hc hv v5 hr hc) ?_
        refine sv_Q.s (σ' := (55, [some (.ref 0), some (.int x1), some (.int x2), some (.int x3), some (.int (F_Hull_wallAt x3 hh))], [.int x1, .int v7], (W_Ves hv v5 hr hc))) 1 rfl ?_
        refine sv_Q.l (fun v10 => (64, [some (.ref 0), some (.int x1), some (.int v10), some (.int x3), some (.int (F_Hull_wallAt x3 hh))], [], (W_Ves hv v5 hr hc))) (fun v10 => ?_) ?_
        · refine sv_Q.s (σ' := (71, [some (.ref 0), some (.int x1), some (.int v10), some (.int x3), some (.int (F_Hull_wallAt x3 hh))], [.int (F_Hull_wallAt x3 hh), .int x3, .ref 2], (W_Ves hv v5 hr hc))) 4 rfl ?_
          refine sv_Q.o (fun v11 e12 => ?_)
          refine sv_Q.V (b := 0) (av := [.int x3, .int (F_Hull_wallAt x3 hh)]) (ps := [2, 3, 4, 5, 6, 7]) (rest := []) (cs1 := (W_Hull v5)) (cs2 := (W_Hull v11)) (st' := []) (cs' := (W_Ves hv v11 hr hc)) (q := (71, .null, 0, 0, 0)) lk_Ves_164 (r_Hull_setWall N v5 x3 (F_Hull_wallAt x3 hh) v11 e12) rfl rfl rfl rfl rfl (Or.inl ⟨2, _, _, rfl, rfl, rfl⟩) rfl rfl (sc_Ves_Hull_1 hv v5 hr hc) rfl rfl (pc_Ves_Hull_1 hv v5 hr hc v11) ?_
          refine sv_Q.s (σ' := (9, [some (.ref 0), some (.int x1), some (.int v10), some (.int (x3 + (1 : Int32))), some (.int (F_Hull_wallAt x3 hh))], [], (W_Ves hv v11 hr hc))) 2 rfl ?_
          refine sv_Q.f (lo' := [some (.ref 0), some (.int x1), some (.int v10), some (.int (x3 + (1 : Int32))), none]) ⟨rfl, ⟨rfl, ⟨rfl, ⟨rfl, trivial⟩⟩⟩⟩ ?_
          exact ih x1 v10 (x3 + (1 : Int32)) hv v11 hr hc
        · refine sv_Q.sb rfl (fun c9 => ?_) (fun c9 => ?_)
          · exact sv_Q.z rfl
          · refine sv_Q.s (σ' := (64, [some (.ref 0), some (.int x1), some (.int (x2 ||| ((1 : Int32) <<< (x3 &&& 31)))), some (.int x3), some (.int (F_Hull_wallAt x3 hh))], [], (W_Ves hv v5 hr hc))) 6 rfl ?_
            exact sv_Q.z rfl
def F_Ves_harmlessDoors (N : Nat) (hh hr hc : Nat → Nat → Int32) : Option (Int32 × (Nat → Nat → Int32)) := (Option.bind (F_Ves_countNear N hh hr hc) fun (v1 : Int32) => (Option.bind (L_Ves_harmlessDoors_9 N N v1 (0 : Int32) (0 : Int32) hh hr hc) fun (v13 : Int32 × (Nat → Nat → Int32)) => (some (v13.1, v13.2))))
theorem r_Ves_harmlessDoors {X : Nat × (Nat → Int32)} (N : Nat) (hv hh hr hc : Nat → Nat → Int32) : ∀ x, (F_Ves_harmlessDoors N hh hr hc) = some x → sv_R X 6 M_Ves_harmlessDoors [.ref 0] (W_Ves hv hh hr hc) (some (.int x.1)) (W_Ves hv x.2 hr hc) := by
  refine sv_Q.R (res := (fun (x : Int32 × (Nat → Nat → Int32)) => (some (.int x.1), (W_Ves hv x.2 hr hc)))) g_Ves_harmlessDoors rfl ?_
  unfold F_Ves_harmlessDoors
  refine sv_Q.s (σ' := (1, [some (.ref 0), none, none, none, none], [.ref 0], (W_Ves hv hh hr hc))) 1 rfl ?_
  refine sv_Q.o (fun v1 e2 => ?_)
  refine sv_Q.V (b := 0) (av := []) (ps := [0, 1, 2, 3, 4, 5, 6, 7, 8, 9, 10, 11, 12, 13, 14, 15, 16, 17, 18, 19, 20, 21]) (rest := []) (cs1 := (W_Ves hv hh hr hc)) (cs2 := (W_Ves hv hh hr hc)) (st' := [.int v1]) (cs' := (W_Ves hv hh hr hc)) (q := (1, .null, 0, 0, 0)) lk_Ves_151 (r_Ves_countNear N hv hh hr hc v1 e2) rfl rfl rfl rfl rfl (Or.inl ⟨10, _, _, rfl, rfl, rfl⟩) rfl rfl (sc_Ves_Ves_0 hv hh hr hc) rfl rfl (pc_Ves_Ves_0 hv hh hr hc hv hh hr hc) ?_
  refine sv_Q.s (σ' := (9, [some (.ref 0), some (.int v1), some (.int (0 : Int32)), some (.int (0 : Int32)), none], [], (W_Ves hv hh hr hc))) 5 rfl ?_
  refine sv_Q.lo (fun v13 => (80, [none, none, some (.int v13.1), none, none], [], (W_Ves hv v13.2 hr hc))) (fun v13 => ?_) (l_Ves_harmlessDoors_9 N N v1 (0 : Int32) (0 : Int32) hv hh hr hc)
  · refine sv_Q.s (σ' := (81, [none, none, some (.int v13.1), none, none], [.int v13.1], (W_Ves hv v13.2 hr hc))) 1 rfl ?_
    exact sv_Q.z ⟨True, rfl, trivial, rfl⟩
def L_Ves_keepDoors_4 (N : Nat) : Nat → Int32 → Int32 → (Nat → Nat → Int32) → (Nat → Nat → Int32) → Option (Int32 × (Nat → Nat → Int32))
  | 0, _, _, _, _ => none
  | n + 1, x1, x2, hv, hh => (if (hh 0 0) ≤ x2 then (some (x1, hv)) else (sv_let (sw hv 1 6 x2 (F_Hull_wallAt x2 hh)) fun (hv_2 : Nat → Nat → Int32) => (if (F_Hull_hasDoor x2 hh) = 0 then (L_Ves_keepDoors_4 N n x1 (x2 + (1 : Int32)) hv_2 hh) else (L_Ves_keepDoors_4 N n (x1 ||| ((1 : Int32) <<< (x2 &&& 31))) (x2 + (1 : Int32)) hv_2 hh))))
theorem l_Ves_keepDoors_4 {X : Nat × (Nat → Int32)} (N : Nat) : ∀ (n : Nat) (x1 : Int32) (x2 : Int32) (hv hh hr hc : Nat → Nat → Int32), sv_Q X 3 M_Ves_keepDoors (4, [some (.ref 0), some (.int x1), some (.int x2)], [], (W_Ves hv hh hr hc)) (L_Ves_keepDoors_4 N n x1 x2 hv hh) (fun v σ' => σ' = (54, [none, some (.int v.1), none], [], (W_Ves v.2 hh hr hc))) := by
  intro n
  induction n with
  | zero => intro x1 x2 hv hh hr hc; unfold L_Ves_keepDoors_4; exact sv_Q.non
  | succ n ih =>
    intro x1 x2 hv hh hr hc
    unfold L_Ves_keepDoors_4
    refine sv_Q.s (σ' := (12, [some (.ref 0), some (.int x1), some (.int x2)], [.int (hh 0 0), .int x2], (W_Ves hv hh hr hc))) 4 rfl ?_
    refine sv_Q.b rfl (fun c1 => ?_) (fun c1 => ?_)
    · refine sv_Q.f (lo' := [none, some (.int x1), none]) ⟨rfl, trivial⟩ ?_
      exact sv_Q.z rfl
    · refine sv_Q.s (σ' := (25, [some (.ref 0), some (.int x1), some (.int x2)], [.int x2, .ref 2, .int x2, .ref 1], (W_Ves hv hh hr hc))) 6 rfl ?_
      refine sv_Q.V (b := 0) (av := [.int x2]) (ps := [2, 3, 4, 5, 6, 7]) (rest := [.int x2, .ref 1]) (cs1 := (W_Hull hh)) (cs2 := (W_Hull hh)) (st' := [.int (F_Hull_wallAt x2 hh), .int x2, .ref 1]) (cs' := (W_Ves hv hh hr hc)) (q := (25, .null, 0, 0, 0)) lk_Ves_161 (t_Hull_wallAt hh x2) rfl rfl rfl rfl rfl (Or.inl ⟨2, _, _, rfl, rfl, rfl⟩) rfl rfl (sc_Ves_Hull_1 hv hh hr hc) rfl rfl (pc_Ves_Hull_1 hv hh hr hc hh) ?_
      refine sv_Q.S (ps := [1]) (rest := []) (st' := []) (cs' := (W_Ves (sw hv 1 6 x2 (F_Hull_wallAt x2 hh)) hh hr hc)) (q := (28, .null, 0, 0, 0)) lk_Ves_183 (t_K_write 6 rfl (hv 1) x2 (F_Hull_wallAt x2 hh)) rfl rfl rfl rfl rfl rfl rfl (su_Ves_1 hv hh hr hc) rfl rfl (pa_Ves_1 hv hh hr hc (wr 6 (hv 1) x2 (F_Hull_wallAt x2 hh))) ?_
      refine sv_Q.go (fun hv_2 => (31, [some (.ref 0), some (.int x1), some (.int x2)], [], (W_Ves hv_2 hh hr hc))) (fun hv_2 => ?_)
      refine sv_Q.s (σ' := (36, [some (.ref 0), some (.int x1), some (.int x2)], [.int x2, .ref 2], (W_Ves hv_2 hh hr hc))) 3 rfl ?_
      refine sv_Q.V (b := 0) (av := [.int x2]) (ps := [2, 3, 4, 5, 6, 7]) (rest := []) (cs1 := (W_Hull hh)) (cs2 := (W_Hull hh)) (st' := [.int (F_Hull_hasDoor x2 hh)]) (cs' := (W_Ves hv_2 hh hr hc)) (q := (36, .null, 0, 0, 0)) lk_Ves_158 (t_Hull_hasDoor hh x2) rfl rfl rfl rfl rfl (Or.inl ⟨2, _, _, rfl, rfl, rfl⟩) rfl rfl (sc_Ves_Hull_1 hv_2 hh hr hc) rfl rfl (pc_Ves_Hull_1 hv_2 hh hr hc hh) ?_
      refine sv_Q.b rfl (fun c3 => ?_) (fun c3 => ?_)
      · refine sv_Q.s (σ' := (4, [some (.ref 0), some (.int x1), some (.int (x2 + (1 : Int32)))], [], (W_Ves hv_2 hh hr hc))) 2 rfl ?_
        exact ih x1 (x2 + (1 : Int32)) hv_2 hh hr hc
      · refine sv_Q.s (σ' := (4, [some (.ref 0), some (.int (x1 ||| ((1 : Int32) <<< (x2 &&& 31)))), some (.int (x2 + (1 : Int32)))], [], (W_Ves hv_2 hh hr hc))) 8 rfl ?_
        exact ih (x1 ||| ((1 : Int32) <<< (x2 &&& 31))) (x2 + (1 : Int32)) hv_2 hh hr hc
def F_Ves_keepDoors (N : Nat) (hv hh : Nat → Nat → Int32) : Option (Int32 × (Nat → Nat → Int32)) := (Option.bind (L_Ves_keepDoors_4 N N (0 : Int32) (0 : Int32) hv hh) fun (v4 : Int32 × (Nat → Nat → Int32)) => (some (v4.1, v4.2)))
theorem r_Ves_keepDoors {X : Nat × (Nat → Int32)} (N : Nat) (hv hh hr hc : Nat → Nat → Int32) : ∀ x, (F_Ves_keepDoors N hv hh) = some x → sv_R X 4 M_Ves_keepDoors [.ref 0] (W_Ves hv hh hr hc) (some (.int x.1)) (W_Ves x.2 hh hr hc) := by
  refine sv_Q.R (res := (fun (x : Int32 × (Nat → Nat → Int32)) => (some (.int x.1), (W_Ves x.2 hh hr hc)))) g_Ves_keepDoors rfl ?_
  unfold F_Ves_keepDoors
  refine sv_Q.s (σ' := (4, [some (.ref 0), some (.int (0 : Int32)), some (.int (0 : Int32))], [], (W_Ves hv hh hr hc))) 4 rfl ?_
  refine sv_Q.lo (fun v4 => (54, [none, some (.int v4.1), none], [], (W_Ves v4.2 hh hr hc))) (fun v4 => ?_) (l_Ves_keepDoors_4 N N (0 : Int32) (0 : Int32) hv hh hr hc)
  · refine sv_Q.s (σ' := (55, [none, some (.int v4.1), none], [.int v4.1], (W_Ves v4.2 hh hr hc))) 1 rfl ?_
    exact sv_Q.z ⟨True, rfl, trivial, rfl⟩
def F_Int_bitCount (a0 : Int32) : Int32 := ((((((((a0 - ((((a0).toUInt32 >>> (((1 : Int32)).toUInt32 &&& Int32.toUInt32 31)).toInt32) &&& (1431655765 : Int32))) &&& (858993459 : Int32)) + (((((a0 - ((((a0).toUInt32 >>> (((1 : Int32)).toUInt32 &&& Int32.toUInt32 31)).toInt32) &&& (1431655765 : Int32)))).toUInt32 >>> (((2 : Int32)).toUInt32 &&& Int32.toUInt32 31)).toInt32) &&& (858993459 : Int32))) + ((((((a0 - ((((a0).toUInt32 >>> (((1 : Int32)).toUInt32 &&& Int32.toUInt32 31)).toInt32) &&& (1431655765 : Int32))) &&& (858993459 : Int32)) + (((((a0 - ((((a0).toUInt32 >>> (((1 : Int32)).toUInt32 &&& Int32.toUInt32 31)).toInt32) &&& (1431655765 : Int32)))).toUInt32 >>> (((2 : Int32)).toUInt32 &&& Int32.toUInt32 31)).toInt32) &&& (858993459 : Int32)))).toUInt32 >>> (((4 : Int32)).toUInt32 &&& Int32.toUInt32 31)).toInt32)) &&& (252645135 : Int32)) + ((((((((a0 - ((((a0).toUInt32 >>> (((1 : Int32)).toUInt32 &&& Int32.toUInt32 31)).toInt32) &&& (1431655765 : Int32))) &&& (858993459 : Int32)) + (((((a0 - ((((a0).toUInt32 >>> (((1 : Int32)).toUInt32 &&& Int32.toUInt32 31)).toInt32) &&& (1431655765 : Int32)))).toUInt32 >>> (((2 : Int32)).toUInt32 &&& Int32.toUInt32 31)).toInt32) &&& (858993459 : Int32))) + ((((((a0 - ((((a0).toUInt32 >>> (((1 : Int32)).toUInt32 &&& Int32.toUInt32 31)).toInt32) &&& (1431655765 : Int32))) &&& (858993459 : Int32)) + (((((a0 - ((((a0).toUInt32 >>> (((1 : Int32)).toUInt32 &&& Int32.toUInt32 31)).toInt32) &&& (1431655765 : Int32)))).toUInt32 >>> (((2 : Int32)).toUInt32 &&& Int32.toUInt32 31)).toInt32) &&& (858993459 : Int32)))).toUInt32 >>> (((4 : Int32)).toUInt32 &&& Int32.toUInt32 31)).toInt32)) &&& (252645135 : Int32))).toUInt32 >>> (((8 : Int32)).toUInt32 &&& Int32.toUInt32 31)).toInt32)) + (((((((((a0 - ((((a0).toUInt32 >>> (((1 : Int32)).toUInt32 &&& Int32.toUInt32 31)).toInt32) &&& (1431655765 : Int32))) &&& (858993459 : Int32)) + (((((a0 - ((((a0).toUInt32 >>> (((1 : Int32)).toUInt32 &&& Int32.toUInt32 31)).toInt32) &&& (1431655765 : Int32)))).toUInt32 >>> (((2 : Int32)).toUInt32 &&& Int32.toUInt32 31)).toInt32) &&& (858993459 : Int32))) + ((((((a0 - ((((a0).toUInt32 >>> (((1 : Int32)).toUInt32 &&& Int32.toUInt32 31)).toInt32) &&& (1431655765 : Int32))) &&& (858993459 : Int32)) + (((((a0 - ((((a0).toUInt32 >>> (((1 : Int32)).toUInt32 &&& Int32.toUInt32 31)).toInt32) &&& (1431655765 : Int32)))).toUInt32 >>> (((2 : Int32)).toUInt32 &&& Int32.toUInt32 31)).toInt32) &&& (858993459 : Int32)))).toUInt32 >>> (((4 : Int32)).toUInt32 &&& Int32.toUInt32 31)).toInt32)) &&& (252645135 : Int32)) + ((((((((a0 - ((((a0).toUInt32 >>> (((1 : Int32)).toUInt32 &&& Int32.toUInt32 31)).toInt32) &&& (1431655765 : Int32))) &&& (858993459 : Int32)) + (((((a0 - ((((a0).toUInt32 >>> (((1 : Int32)).toUInt32 &&& Int32.toUInt32 31)).toInt32) &&& (1431655765 : Int32)))).toUInt32 >>> (((2 : Int32)).toUInt32 &&& Int32.toUInt32 31)).toInt32) &&& (858993459 : Int32))) + ((((((a0 - ((((a0).toUInt32 >>> (((1 : Int32)).toUInt32 &&& Int32.toUInt32 31)).toInt32) &&& (1431655765 : Int32))) &&& (858993459 : Int32)) + (((((a0 - ((((a0).toUInt32 >>> (((1 : Int32)).toUInt32 &&& Int32.toUInt32 31)).toInt32) &&& (1431655765 : Int32)))).toUInt32 >>> (((2 : Int32)).toUInt32 &&& Int32.toUInt32 31)).toInt32) &&& (858993459 : Int32)))).toUInt32 >>> (((4 : Int32)).toUInt32 &&& Int32.toUInt32 31)).toInt32)) &&& (252645135 : Int32))).toUInt32 >>> (((8 : Int32)).toUInt32 &&& Int32.toUInt32 31)).toInt32))).toUInt32 >>> (((16 : Int32)).toUInt32 &&& Int32.toUInt32 31)).toInt32)) &&& (63 : Int32))
theorem r_Int_bitCount {X : Nat × (Nat → Int32)} (a0 : Int32) : ∀ x, some (F_Int_bitCount a0) = some x → sv_R X 1 M_Int_bitCount [.int a0] [] (some (.int x)) [] := by
  refine sv_Q.R (res := (fun (x : Int32) => (some (.int x), []))) g_Int_bitCount rfl ?_
  unfold F_Int_bitCount
  refine sv_Q.s (σ' := (52, [some (.int (((((((a0 - ((((a0).toUInt32 >>> (((1 : Int32)).toUInt32 &&& Int32.toUInt32 31)).toInt32) &&& (1431655765 : Int32))) &&& (858993459 : Int32)) + (((((a0 - ((((a0).toUInt32 >>> (((1 : Int32)).toUInt32 &&& Int32.toUInt32 31)).toInt32) &&& (1431655765 : Int32)))).toUInt32 >>> (((2 : Int32)).toUInt32 &&& Int32.toUInt32 31)).toInt32) &&& (858993459 : Int32))) + ((((((a0 - ((((a0).toUInt32 >>> (((1 : Int32)).toUInt32 &&& Int32.toUInt32 31)).toInt32) &&& (1431655765 : Int32))) &&& (858993459 : Int32)) + (((((a0 - ((((a0).toUInt32 >>> (((1 : Int32)).toUInt32 &&& Int32.toUInt32 31)).toInt32) &&& (1431655765 : Int32)))).toUInt32 >>> (((2 : Int32)).toUInt32 &&& Int32.toUInt32 31)).toInt32) &&& (858993459 : Int32)))).toUInt32 >>> (((4 : Int32)).toUInt32 &&& Int32.toUInt32 31)).toInt32)) &&& (252645135 : Int32)) + ((((((((a0 - ((((a0).toUInt32 >>> (((1 : Int32)).toUInt32 &&& Int32.toUInt32 31)).toInt32) &&& (1431655765 : Int32))) &&& (858993459 : Int32)) + (((((a0 - ((((a0).toUInt32 >>> (((1 : Int32)).toUInt32 &&& Int32.toUInt32 31)).toInt32) &&& (1431655765 : Int32)))).toUInt32 >>> (((2 : Int32)).toUInt32 &&& Int32.toUInt32 31)).toInt32) &&& (858993459 : Int32))) + ((((((a0 - ((((a0).toUInt32 >>> (((1 : Int32)).toUInt32 &&& Int32.toUInt32 31)).toInt32) &&& (1431655765 : Int32))) &&& (858993459 : Int32)) + (((((a0 - ((((a0).toUInt32 >>> (((1 : Int32)).toUInt32 &&& Int32.toUInt32 31)).toInt32) &&& (1431655765 : Int32)))).toUInt32 >>> (((2 : Int32)).toUInt32 &&& Int32.toUInt32 31)).toInt32) &&& (858993459 : Int32)))).toUInt32 >>> (((4 : Int32)).toUInt32 &&& Int32.toUInt32 31)).toInt32)) &&& (252645135 : Int32))).toUInt32 >>> (((8 : Int32)).toUInt32 &&& Int32.toUInt32 31)).toInt32)) + (((((((((a0 - ((((a0).toUInt32 >>> (((1 : Int32)).toUInt32 &&& Int32.toUInt32 31)).toInt32) &&& (1431655765 : Int32))) &&& (858993459 : Int32)) + (((((a0 - ((((a0).toUInt32 >>> (((1 : Int32)).toUInt32 &&& Int32.toUInt32 31)).toInt32) &&& (1431655765 : Int32)))).toUInt32 >>> (((2 : Int32)).toUInt32 &&& Int32.toUInt32 31)).toInt32) &&& (858993459 : Int32))) + ((((((a0 - ((((a0).toUInt32 >>> (((1 : Int32)).toUInt32 &&& Int32.toUInt32 31)).toInt32) &&& (1431655765 : Int32))) &&& (858993459 : Int32)) + (((((a0 - ((((a0).toUInt32 >>> (((1 : Int32)).toUInt32 &&& Int32.toUInt32 31)).toInt32) &&& (1431655765 : Int32)))).toUInt32 >>> (((2 : Int32)).toUInt32 &&& Int32.toUInt32 31)).toInt32) &&& (858993459 : Int32)))).toUInt32 >>> (((4 : Int32)).toUInt32 &&& Int32.toUInt32 31)).toInt32)) &&& (252645135 : Int32)) + ((((((((a0 - ((((a0).toUInt32 >>> (((1 : Int32)).toUInt32 &&& Int32.toUInt32 31)).toInt32) &&& (1431655765 : Int32))) &&& (858993459 : Int32)) + (((((a0 - ((((a0).toUInt32 >>> (((1 : Int32)).toUInt32 &&& Int32.toUInt32 31)).toInt32) &&& (1431655765 : Int32)))).toUInt32 >>> (((2 : Int32)).toUInt32 &&& Int32.toUInt32 31)).toInt32) &&& (858993459 : Int32))) + ((((((a0 - ((((a0).toUInt32 >>> (((1 : Int32)).toUInt32 &&& Int32.toUInt32 31)).toInt32) &&& (1431655765 : Int32))) &&& (858993459 : Int32)) + (((((a0 - ((((a0).toUInt32 >>> (((1 : Int32)).toUInt32 &&& Int32.toUInt32 31)).toInt32) &&& (1431655765 : Int32)))).toUInt32 >>> (((2 : Int32)).toUInt32 &&& Int32.toUInt32 31)).toInt32) &&& (858993459 : Int32)))).toUInt32 >>> (((4 : Int32)).toUInt32 &&& Int32.toUInt32 31)).toInt32)) &&& (252645135 : Int32))).toUInt32 >>> (((8 : Int32)).toUInt32 &&& Int32.toUInt32 31)).toInt32))).toUInt32 >>> (((16 : Int32)).toUInt32 &&& Int32.toUInt32 31)).toInt32)))], [.int ((((((((a0 - ((((a0).toUInt32 >>> (((1 : Int32)).toUInt32 &&& Int32.toUInt32 31)).toInt32) &&& (1431655765 : Int32))) &&& (858993459 : Int32)) + (((((a0 - ((((a0).toUInt32 >>> (((1 : Int32)).toUInt32 &&& Int32.toUInt32 31)).toInt32) &&& (1431655765 : Int32)))).toUInt32 >>> (((2 : Int32)).toUInt32 &&& Int32.toUInt32 31)).toInt32) &&& (858993459 : Int32))) + ((((((a0 - ((((a0).toUInt32 >>> (((1 : Int32)).toUInt32 &&& Int32.toUInt32 31)).toInt32) &&& (1431655765 : Int32))) &&& (858993459 : Int32)) + (((((a0 - ((((a0).toUInt32 >>> (((1 : Int32)).toUInt32 &&& Int32.toUInt32 31)).toInt32) &&& (1431655765 : Int32)))).toUInt32 >>> (((2 : Int32)).toUInt32 &&& Int32.toUInt32 31)).toInt32) &&& (858993459 : Int32)))).toUInt32 >>> (((4 : Int32)).toUInt32 &&& Int32.toUInt32 31)).toInt32)) &&& (252645135 : Int32)) + ((((((((a0 - ((((a0).toUInt32 >>> (((1 : Int32)).toUInt32 &&& Int32.toUInt32 31)).toInt32) &&& (1431655765 : Int32))) &&& (858993459 : Int32)) + (((((a0 - ((((a0).toUInt32 >>> (((1 : Int32)).toUInt32 &&& Int32.toUInt32 31)).toInt32) &&& (1431655765 : Int32)))).toUInt32 >>> (((2 : Int32)).toUInt32 &&& Int32.toUInt32 31)).toInt32) &&& (858993459 : Int32))) + ((((((a0 - ((((a0).toUInt32 >>> (((1 : Int32)).toUInt32 &&& Int32.toUInt32 31)).toInt32) &&& (1431655765 : Int32))) &&& (858993459 : Int32)) + (((((a0 - ((((a0).toUInt32 >>> (((1 : Int32)).toUInt32 &&& Int32.toUInt32 31)).toInt32) &&& (1431655765 : Int32)))).toUInt32 >>> (((2 : Int32)).toUInt32 &&& Int32.toUInt32 31)).toInt32) &&& (858993459 : Int32)))).toUInt32 >>> (((4 : Int32)).toUInt32 &&& Int32.toUInt32 31)).toInt32)) &&& (252645135 : Int32))).toUInt32 >>> (((8 : Int32)).toUInt32 &&& Int32.toUInt32 31)).toInt32)) + (((((((((a0 - ((((a0).toUInt32 >>> (((1 : Int32)).toUInt32 &&& Int32.toUInt32 31)).toInt32) &&& (1431655765 : Int32))) &&& (858993459 : Int32)) + (((((a0 - ((((a0).toUInt32 >>> (((1 : Int32)).toUInt32 &&& Int32.toUInt32 31)).toInt32) &&& (1431655765 : Int32)))).toUInt32 >>> (((2 : Int32)).toUInt32 &&& Int32.toUInt32 31)).toInt32) &&& (858993459 : Int32))) + ((((((a0 - ((((a0).toUInt32 >>> (((1 : Int32)).toUInt32 &&& Int32.toUInt32 31)).toInt32) &&& (1431655765 : Int32))) &&& (858993459 : Int32)) + (((((a0 - ((((a0).toUInt32 >>> (((1 : Int32)).toUInt32 &&& Int32.toUInt32 31)).toInt32) &&& (1431655765 : Int32)))).toUInt32 >>> (((2 : Int32)).toUInt32 &&& Int32.toUInt32 31)).toInt32) &&& (858993459 : Int32)))).toUInt32 >>> (((4 : Int32)).toUInt32 &&& Int32.toUInt32 31)).toInt32)) &&& (252645135 : Int32)) + ((((((((a0 - ((((a0).toUInt32 >>> (((1 : Int32)).toUInt32 &&& Int32.toUInt32 31)).toInt32) &&& (1431655765 : Int32))) &&& (858993459 : Int32)) + (((((a0 - ((((a0).toUInt32 >>> (((1 : Int32)).toUInt32 &&& Int32.toUInt32 31)).toInt32) &&& (1431655765 : Int32)))).toUInt32 >>> (((2 : Int32)).toUInt32 &&& Int32.toUInt32 31)).toInt32) &&& (858993459 : Int32))) + ((((((a0 - ((((a0).toUInt32 >>> (((1 : Int32)).toUInt32 &&& Int32.toUInt32 31)).toInt32) &&& (1431655765 : Int32))) &&& (858993459 : Int32)) + (((((a0 - ((((a0).toUInt32 >>> (((1 : Int32)).toUInt32 &&& Int32.toUInt32 31)).toInt32) &&& (1431655765 : Int32)))).toUInt32 >>> (((2 : Int32)).toUInt32 &&& Int32.toUInt32 31)).toInt32) &&& (858993459 : Int32)))).toUInt32 >>> (((4 : Int32)).toUInt32 &&& Int32.toUInt32 31)).toInt32)) &&& (252645135 : Int32))).toUInt32 >>> (((8 : Int32)).toUInt32 &&& Int32.toUInt32 31)).toInt32))).toUInt32 >>> (((16 : Int32)).toUInt32 &&& Int32.toUInt32 31)).toInt32)) &&& (63 : Int32))], [])) 41 rfl ?_
  exact sv_Q.z ⟨True, rfl, trivial, rfl⟩
theorem t_Int_bitCount {X : Nat × (Nat → Int32)} (a0 : Int32) : sv_R X 1 M_Int_bitCount [.int a0] [] (some (.int (F_Int_bitCount a0))) [] := r_Int_bitCount a0 _ rfl
def L_Ves_openDoors_2 (N : Nat) : Nat → Int32 → Int32 → (Nat → Nat → Int32) → Option ((Nat → Nat → Int32))
  | 0, _, _, _ => none
  | n + 1, x1, x2, hh => (if (hh 0 0) ≤ x2 then (some hh) else (if (F_Hull_hasDoor x2 hh) = 0 then (L_Ves_openDoors_2 N n x1 (x2 + (1 : Int32)) hh) else (sv_let (if ¬ ((x1 >>> (x2 &&& 31)) &&& (1 : Int32)) = (1 : Int32) then (3 : Int32) else (2 : Int32)) fun (v4 : Int32) => (Option.bind (F_Hull_setWall N x2 v4 hh) fun (v5 : (Nat → Nat → Int32)) => (L_Ves_openDoors_2 N n x1 (x2 + (1 : Int32)) v5)))))
theorem l_Ves_openDoors_2 {X : Nat × (Nat → Int32)} (N : Nat) : ∀ (n : Nat) (x1 : Int32) (x2 : Int32) (hv hh hr hc : Nat → Nat → Int32), sv_Q X 3 M_Ves_openDoors (2, [some (.ref 0), some (.int x1), some (.int x2)], [], (W_Ves hv hh hr hc)) (L_Ves_openDoors_2 N n x1 x2 hh) (fun v σ' => σ' = (52, [none, none, none], [], (W_Ves hv v hr hc))) := by
  intro n
  induction n with
  | zero => intro x1 x2 hv hh hr hc; unfold L_Ves_openDoors_2; exact sv_Q.non
  | succ n ih =>
    intro x1 x2 hv hh hr hc
    unfold L_Ves_openDoors_2
    refine sv_Q.s (σ' := (10, [some (.ref 0), some (.int x1), some (.int x2)], [.int (hh 0 0), .int x2], (W_Ves hv hh hr hc))) 4 rfl ?_
    refine sv_Q.b rfl (fun c1 => ?_) (fun c1 => ?_)
    · refine sv_Q.f (lo' := [none, none, none]) trivial ?_
      exact sv_Q.z rfl
    · refine sv_Q.s (σ' := (18, [some (.ref 0), some (.int x1), some (.int x2)], [.int x2, .ref 2], (W_Ves hv hh hr hc))) 3 rfl ?_
      refine sv_Q.V (b := 0) (av := [.int x2]) (ps := [2, 3, 4, 5, 6, 7]) (rest := []) (cs1 := (W_Hull hh)) (cs2 := (W_Hull hh)) (st' := [.int (F_Hull_hasDoor x2 hh)]) (cs' := (W_Ves hv hh hr hc)) (q := (18, .null, 0, 0, 0)) lk_Ves_158 (t_Hull_hasDoor hh x2) rfl rfl rfl rfl rfl (Or.inl ⟨2, _, _, rfl, rfl, rfl⟩) rfl rfl (sc_Ves_Hull_1 hv hh hr hc) rfl rfl (pc_Ves_Hull_1 hv hh hr hc hh) ?_
      refine sv_Q.b rfl (fun c2 => ?_) (fun c2 => ?_)
      · refine sv_Q.s (σ' := (2, [some (.ref 0), some (.int x1), some (.int (x2 + (1 : Int32)))], [], (W_Ves hv hh hr hc))) 2 rfl ?_
        exact ih x1 (x2 + (1 : Int32)) hv hh hr hc
      · refine sv_Q.s (σ' := (35, [some (.ref 0), some (.int x1), some (.int x2)], [.int (1 : Int32), .int ((x1 >>> (x2 &&& 31)) &&& (1 : Int32)), .int x2, .ref 2], (W_Ves hv hh hr hc))) 9 rfl ?_
        refine sv_Q.l (fun v4 => (43, [some (.ref 0), some (.int x1), some (.int x2)], [.int v4, .int x2, .ref 2], (W_Ves hv hh hr hc))) (fun v4 => ?_) ?_
        · refine sv_Q.o (fun v5 e6 => ?_)
          refine sv_Q.V (b := 0) (av := [.int x2, .int v4]) (ps := [2, 3, 4, 5, 6, 7]) (rest := []) (cs1 := (W_Hull hh)) (cs2 := (W_Hull v5)) (st' := []) (cs' := (W_Ves hv v5 hr hc)) (q := (43, .null, 0, 0, 0)) lk_Ves_164 (r_Hull_setWall N hh x2 v4 v5 e6) rfl rfl rfl rfl rfl (Or.inl ⟨2, _, _, rfl, rfl, rfl⟩) rfl rfl (sc_Ves_Hull_1 hv hh hr hc) rfl rfl (pc_Ves_Hull_1 hv hh hr hc v5) ?_
          refine sv_Q.s (σ' := (2, [some (.ref 0), some (.int x1), some (.int (x2 + (1 : Int32)))], [], (W_Ves hv v5 hr hc))) 2 rfl ?_
          exact ih x1 (x2 + (1 : Int32)) hv v5 hr hc
        · refine sv_Q.sb rfl (fun c3 => ?_) (fun c3 => ?_)
          · refine sv_Q.s (σ' := (43, [some (.ref 0), some (.int x1), some (.int x2)], [.int (3 : Int32), .int x2, .ref 2], (W_Ves hv hh hr hc))) 1 rfl ?_
            exact sv_Q.z rfl
          · refine sv_Q.s (σ' := (43, [some (.ref 0), some (.int x1), some (.int x2)], [.int (2 : Int32), .int x2, .ref 2], (W_Ves hv hh hr hc))) 2 rfl ?_
            exact sv_Q.z rfl
def F_Ves_openDoors (N : Nat) (a0 : Int32) (hh : Nat → Nat → Int32) : Option ((Nat → Nat → Int32)) := (Option.bind (L_Ves_openDoors_2 N N a0 (0 : Int32) hh) fun (v7 : (Nat → Nat → Int32)) => (some v7))
theorem r_Ves_openDoors {X : Nat × (Nat → Int32)} (N : Nat) (hv hh hr hc : Nat → Nat → Int32) (a0 : Int32) : ∀ x, (F_Ves_openDoors N a0 hh) = some x → sv_R X 4 M_Ves_openDoors [.ref 0, .int a0] (W_Ves hv hh hr hc) none (W_Ves hv x hr hc) := by
  refine sv_Q.R (res := (fun (x : (Nat → Nat → Int32)) => ((none : Option Value), (W_Ves hv x hr hc)))) g_Ves_openDoors rfl ?_
  unfold F_Ves_openDoors
  refine sv_Q.s (σ' := (2, [some (.ref 0), some (.int a0), some (.int (0 : Int32))], [], (W_Ves hv hh hr hc))) 2 rfl ?_
  refine sv_Q.lo (fun v7 => (52, [none, none, none], [], (W_Ves hv v7 hr hc))) (fun v7 => ?_) (l_Ves_openDoors_2 N N a0 (0 : Int32) hv hh hr hc)
  · exact sv_Q.z ⟨True, rfl, trivial, rfl⟩
def L_Ves_restoreDoors_2 (N : Nat) : Nat → Int32 → (Nat → Nat → Int32) → (Nat → Nat → Int32) → Option ((Nat → Nat → Int32))
  | 0, _, _, _ => none
  | n + 1, x1, hv, hh => (if (hh 0 0) ≤ x1 then (some hh) else (Option.bind (F_Hull_setWall N x1 (rd 6 (hv 1) x1) hh) fun (v2 : (Nat → Nat → Int32)) => (L_Ves_restoreDoors_2 N n (x1 + (1 : Int32)) hv v2)))
theorem l_Ves_restoreDoors_2 {X : Nat × (Nat → Int32)} (N : Nat) : ∀ (n : Nat) (x1 : Int32) (hv hh hr hc : Nat → Nat → Int32), sv_Q X 2 M_Ves_restoreDoors (2, [some (.ref 0), some (.int x1)], [], (W_Ves hv hh hr hc)) (L_Ves_restoreDoors_2 N n x1 hv hh) (fun v σ' => σ' = (35, [none, none], [], (W_Ves hv v hr hc))) := by
  intro n
  induction n with
  | zero => intro x1 hv hh hr hc; unfold L_Ves_restoreDoors_2; exact sv_Q.non
  | succ n ih =>
    intro x1 hv hh hr hc
    unfold L_Ves_restoreDoors_2
    refine sv_Q.s (σ' := (10, [some (.ref 0), some (.int x1)], [.int (hh 0 0), .int x1], (W_Ves hv hh hr hc))) 4 rfl ?_
    refine sv_Q.b rfl (fun c1 => ?_) (fun c1 => ?_)
    · refine sv_Q.f (lo' := [none, none]) trivial ?_
      exact sv_Q.z rfl
    · refine sv_Q.s (σ' := (23, [some (.ref 0), some (.int x1)], [.int x1, .ref 1, .int x1, .ref 2], (W_Ves hv hh hr hc))) 6 rfl ?_
      refine sv_Q.S (ps := [1]) (rest := [.int x1, .ref 2]) (st' := [.int (rd 6 (hv 1) x1), .int x1, .ref 2]) (cs' := (W_Ves hv hh hr hc)) (q := (23, .null, 0, 0, 0)) lk_Ves_44 (t_K_read 6 rfl (hv 1) x1) rfl rfl rfl rfl rfl rfl rfl (su_Ves_1 hv hh hr hc) rfl rfl (pu_Ves_1 hv hh hr hc) ?_
      refine sv_Q.o (fun v2 e3 => ?_)
      refine sv_Q.V (b := 0) (av := [.int x1, .int (rd 6 (hv 1) x1)]) (ps := [2, 3, 4, 5, 6, 7]) (rest := []) (cs1 := (W_Hull hh)) (cs2 := (W_Hull v2)) (st' := []) (cs' := (W_Ves hv v2 hr hc)) (q := (26, .null, 0, 0, 0)) lk_Ves_164 (r_Hull_setWall N hh x1 (rd 6 (hv 1) x1) v2 e3) rfl rfl rfl rfl rfl (Or.inl ⟨2, _, _, rfl, rfl, rfl⟩) rfl rfl (sc_Ves_Hull_1 hv hh hr hc) rfl rfl (pc_Ves_Hull_1 hv hh hr hc v2) ?_
      refine sv_Q.s (σ' := (2, [some (.ref 0), some (.int (x1 + (1 : Int32)))], [], (W_Ves hv v2 hr hc))) 2 rfl ?_
      exact ih (x1 + (1 : Int32)) hv v2 hr hc
def F_Ves_restoreDoors (N : Nat) (hv hh : Nat → Nat → Int32) : Option ((Nat → Nat → Int32)) := (Option.bind (L_Ves_restoreDoors_2 N N (0 : Int32) hv hh) fun (v4 : (Nat → Nat → Int32)) => (some v4))
theorem r_Ves_restoreDoors {X : Nat × (Nat → Int32)} (N : Nat) (hv hh hr hc : Nat → Nat → Int32) : ∀ x, (F_Ves_restoreDoors N hv hh) = some x → sv_R X 3 M_Ves_restoreDoors [.ref 0] (W_Ves hv hh hr hc) none (W_Ves hv x hr hc) := by
  refine sv_Q.R (res := (fun (x : (Nat → Nat → Int32)) => ((none : Option Value), (W_Ves hv x hr hc)))) g_Ves_restoreDoors rfl ?_
  unfold F_Ves_restoreDoors
  refine sv_Q.s (σ' := (2, [some (.ref 0), some (.int (0 : Int32))], [], (W_Ves hv hh hr hc))) 2 rfl ?_
  refine sv_Q.lo (fun v4 => (35, [none, none], [], (W_Ves hv v4 hr hc))) (fun v4 => ?_) (l_Ves_restoreDoors_2 N N (0 : Int32) hv hh hr hc)
  · exact sv_Q.z ⟨True, rfl, trivial, rfl⟩
def L_Ves_mostDoors_9 (N : Nat) : Nat → Int32 → Int32 → Int32 → (Nat → Nat → Int32) → (Nat → Nat → Int32) → (Nat → Nat → Int32) → Option (Int32 × (Nat → Nat → Int32))
  | 0, _, _, _, _, _, _ => none
  | n + 1, x1, x2, x3, hh, hr, hc => (if x1 < x3 then (some (x2, hh)) else (sv_let (if x2 = (-1 : Int32) then (1 : Int32) else (if (F_Int_bitCount x3) ≤ (F_Int_bitCount x2) then (0 : Int32) else (1 : Int32))) fun (v6 : Int32) => (if ¬ (x3 &&& x1) = x3 then (L_Ves_mostDoors_9 N n x1 x2 (x3 + (1 : Int32)) hh hr hc) else (if v6 = 0 then (L_Ves_mostDoors_9 N n x1 x2 (x3 + (1 : Int32)) hh hr hc) else (Option.bind (F_Ves_openDoors N x3 hh) fun (v9 : (Nat → Nat → Int32)) => (Option.bind (F_Ves_countNear N v9 hr hc) fun (v11 : Int32) => (if ¬ v11 = 0 then (L_Ves_mostDoors_9 N n x1 x2 (x3 + (1 : Int32)) v9 hr hc) else (L_Ves_mostDoors_9 N n x1 x3 (x3 + (1 : Int32)) v9 hr hc))))))))
theorem l_Ves_mostDoors_9 {X : Nat × (Nat → Int32)} (N : Nat) : ∀ (n : Nat) (x1 : Int32) (x2 : Int32) (x3 : Int32) (hv hh hr hc : Nat → Nat → Int32), sv_Q X 5 M_Ves_mostDoors (9, [some (.ref 0), some (.int x1), some (.int x2), some (.int x3), none], [], (W_Ves hv hh hr hc)) (L_Ves_mostDoors_9 N n x1 x2 x3 hh hr hc) (fun v σ' => σ' = (69, [some (.ref 0), none, some (.int v.1), none, none], [], (W_Ves hv v.2 hr hc))) := by
  intro n
  induction n with
  | zero => intro x1 x2 x3 hv hh hr hc; unfold L_Ves_mostDoors_9; exact sv_Q.non
  | succ n ih =>
    intro x1 x2 x3 hv hh hr hc
    unfold L_Ves_mostDoors_9
    refine sv_Q.s (σ' := (11, [some (.ref 0), some (.int x1), some (.int x2), some (.int x3), none], [.int x1, .int x3], (W_Ves hv hh hr hc))) 2 rfl ?_
    refine sv_Q.b rfl (fun c3 => ?_) (fun c3 => ?_)
    · refine sv_Q.f (lo' := [some (.ref 0), none, some (.int x2), none, none]) ⟨rfl, ⟨rfl, trivial⟩⟩ ?_
      exact sv_Q.z rfl
    · refine sv_Q.s (σ' := (16, [some (.ref 0), some (.int x1), some (.int x2), some (.int x3), none], [.int (-1 : Int32), .int x2], (W_Ves hv hh hr hc))) 2 rfl ?_
      refine sv_Q.l (fun v6 => (35, [some (.ref 0), some (.int x1), some (.int x2), some (.int x3), none], [.int v6], (W_Ves hv hh hr hc))) (fun v6 => ?_) ?_
      · refine sv_Q.s (σ' := (41, [some (.ref 0), some (.int x1), some (.int x2), some (.int x3), some (.int v6)], [.int x3, .int (x3 &&& x1)], (W_Ves hv hh hr hc))) 5 rfl ?_
        refine sv_Q.b rfl (fun c7 => ?_) (fun c7 => ?_)
        · refine sv_Q.s (σ' := (9, [some (.ref 0), some (.int x1), some (.int x2), some (.int (x3 + (1 : Int32))), some (.int v6)], [], (W_Ves hv hh hr hc))) 2 rfl ?_
          refine sv_Q.f (lo' := [some (.ref 0), some (.int x1), some (.int x2), some (.int (x3 + (1 : Int32))), none]) ⟨rfl, ⟨rfl, ⟨rfl, ⟨rfl, trivial⟩⟩⟩⟩ ?_
          exact ih x1 x2 (x3 + (1 : Int32)) hv hh hr hc
        · refine sv_Q.s (σ' := (46, [some (.ref 0), some (.int x1), some (.int x2), some (.int x3), some (.int v6)], [.int v6], (W_Ves hv hh hr hc))) 1 rfl ?_
          refine sv_Q.b rfl (fun c8 => ?_) (fun c8 => ?_)
          · refine sv_Q.s (σ' := (9, [some (.ref 0), some (.int x1), some (.int x2), some (.int (x3 + (1 : Int32))), some (.int v6)], [], (W_Ves hv hh hr hc))) 2 rfl ?_
            refine sv_Q.f (lo' := [some (.ref 0), some (.int x1), some (.int x2), some (.int (x3 + (1 : Int32))), none]) ⟨rfl, ⟨rfl, ⟨rfl, ⟨rfl, trivial⟩⟩⟩⟩ ?_
            exact ih x1 x2 (x3 + (1 : Int32)) hv hh hr hc
          · refine sv_Q.s (σ' := (51, [some (.ref 0), some (.int x1), some (.int x2), some (.int x3), some (.int v6)], [.int x3, .ref 0], (W_Ves hv hh hr hc))) 2 rfl ?_
            refine sv_Q.o (fun v9 e10 => ?_)
            refine sv_Q.V (b := 0) (av := [.int x3]) (ps := [0, 1, 2, 3, 4, 5, 6, 7, 8, 9, 10, 11, 12, 13, 14, 15, 16, 17, 18, 19, 20, 21]) (rest := []) (cs1 := (W_Ves hv hh hr hc)) (cs2 := (W_Ves hv v9 hr hc)) (st' := []) (cs' := (W_Ves hv v9 hr hc)) (q := (51, .null, 0, 0, 0)) lk_Ves_176 (r_Ves_openDoors N hv hh hr hc x3 v9 e10) rfl rfl rfl rfl rfl (Or.inl ⟨10, _, _, rfl, rfl, rfl⟩) rfl rfl (sc_Ves_Ves_0 hv hh hr hc) rfl rfl (pc_Ves_Ves_0 hv hh hr hc hv v9 hr hc) ?_
            refine sv_Q.s (σ' := (55, [some (.ref 0), some (.int x1), some (.int x2), some (.int x3), some (.int v6)], [.ref 0], (W_Ves hv v9 hr hc))) 1 rfl ?_
            refine sv_Q.o (fun v11 e12 => ?_)
            refine sv_Q.V (b := 0) (av := []) (ps := [0, 1, 2, 3, 4, 5, 6, 7, 8, 9, 10, 11, 12, 13, 14, 15, 16, 17, 18, 19, 20, 21]) (rest := []) (cs1 := (W_Ves hv v9 hr hc)) (cs2 := (W_Ves hv v9 hr hc)) (st' := [.int v11]) (cs' := (W_Ves hv v9 hr hc)) (q := (55, .null, 0, 0, 0)) lk_Ves_151 (r_Ves_countNear N hv v9 hr hc v11 e12) rfl rfl rfl rfl rfl (Or.inl ⟨10, _, _, rfl, rfl, rfl⟩) rfl rfl (sc_Ves_Ves_0 hv v9 hr hc) rfl rfl (pc_Ves_Ves_0 hv v9 hr hc hv v9 hr hc) ?_
            refine sv_Q.b rfl (fun c13 => ?_) (fun c13 => ?_)
            · refine sv_Q.s (σ' := (9, [some (.ref 0), some (.int x1), some (.int x2), some (.int (x3 + (1 : Int32))), some (.int v6)], [], (W_Ves hv v9 hr hc))) 2 rfl ?_
              refine sv_Q.f (lo' := [some (.ref 0), some (.int x1), some (.int x2), some (.int (x3 + (1 : Int32))), none]) ⟨rfl, ⟨rfl, ⟨rfl, ⟨rfl, trivial⟩⟩⟩⟩ ?_
              exact ih x1 x2 (x3 + (1 : Int32)) hv v9 hr hc
            · refine sv_Q.s (σ' := (9, [some (.ref 0), some (.int x1), some (.int x3), some (.int (x3 + (1 : Int32))), some (.int v6)], [], (W_Ves hv v9 hr hc))) 4 rfl ?_
              refine sv_Q.f (lo' := [some (.ref 0), some (.int x1), some (.int x3), some (.int (x3 + (1 : Int32))), none]) ⟨rfl, ⟨rfl, ⟨rfl, ⟨rfl, trivial⟩⟩⟩⟩ ?_
              exact ih x1 x3 (x3 + (1 : Int32)) hv v9 hr hc
      · refine sv_Q.sb rfl (fun c4 => ?_) (fun c4 => ?_)
        · refine sv_Q.s (σ' := (35, [some (.ref 0), some (.int x1), some (.int x2), some (.int x3), none], [.int (1 : Int32)], (W_Ves hv hh hr hc))) 2 rfl ?_
          exact sv_Q.z rfl
        · refine sv_Q.s (σ' := (20, [some (.ref 0), some (.int x1), some (.int x2), some (.int x3), none], [.int x3], (W_Ves hv hh hr hc))) 1 rfl ?_
          refine sv_Q.S (ps := []) (rest := []) (cs1 := []) (cs2 := []) (st' := [.int (F_Int_bitCount x3)]) (cs' := (W_Ves hv hh hr hc)) (q := (20, .null, 0, 0, 0)) lk_Ves_171 (t_Int_bitCount x3) rfl rfl rfl rfl rfl rfl rfl rfl rfl rfl (sv_pt_nil _ _) ?_
          refine sv_Q.s (σ' := (24, [some (.ref 0), some (.int x1), some (.int x2), some (.int x3), none], [.int x2, .int (F_Int_bitCount x3)], (W_Ves hv hh hr hc))) 1 rfl ?_
          refine sv_Q.S (ps := []) (rest := [.int (F_Int_bitCount x3)]) (cs1 := []) (cs2 := []) (st' := [.int (F_Int_bitCount x2), .int (F_Int_bitCount x3)]) (cs' := (W_Ves hv hh hr hc)) (q := (24, .null, 0, 0, 0)) lk_Ves_171 (t_Int_bitCount x2) rfl rfl rfl rfl rfl rfl rfl rfl rfl rfl (sv_pt_nil _ _) ?_
          refine sv_Q.sb rfl (fun c5 => ?_) (fun c5 => ?_)
          · refine sv_Q.s (σ' := (35, [some (.ref 0), some (.int x1), some (.int x2), some (.int x3), none], [.int (0 : Int32)], (W_Ves hv hh hr hc))) 1 rfl ?_
            exact sv_Q.z rfl
          · refine sv_Q.s (σ' := (35, [some (.ref 0), some (.int x1), some (.int x2), some (.int x3), none], [.int (1 : Int32)], (W_Ves hv hh hr hc))) 2 rfl ?_
            exact sv_Q.z rfl
def F_Ves_mostDoors (N : Nat) (hv hh hr hc : Nat → Nat → Int32) : Option (Int32 × (Nat → Nat → Int32) × (Nat → Nat → Int32)) := (Option.bind (F_Ves_keepDoors N hv hh) fun (v1 : Int32 × (Nat → Nat → Int32)) => (Option.bind (L_Ves_mostDoors_9 N N v1.1 (-1 : Int32) (0 : Int32) hh hr hc) fun (v14 : Int32 × (Nat → Nat → Int32)) => (Option.bind (F_Ves_restoreDoors N v1.2 v14.2) fun (v15 : (Nat → Nat → Int32)) => (some (v14.1, v1.2, v15)))))
theorem r_Ves_mostDoors {X : Nat × (Nat → Int32)} (N : Nat) (hv hh hr hc : Nat → Nat → Int32) : ∀ x, (F_Ves_mostDoors N hv hh hr hc) = some x → sv_R X 6 M_Ves_mostDoors [.ref 0] (W_Ves hv hh hr hc) (some (.int x.1)) (W_Ves x.2.1 x.2.2 hr hc) := by
  refine sv_Q.R (res := (fun (x : Int32 × (Nat → Nat → Int32) × (Nat → Nat → Int32)) => (some (.int x.1), (W_Ves x.2.1 x.2.2 hr hc)))) g_Ves_mostDoors rfl ?_
  unfold F_Ves_mostDoors
  refine sv_Q.s (σ' := (1, [some (.ref 0), none, none, none, none], [.ref 0], (W_Ves hv hh hr hc))) 1 rfl ?_
  refine sv_Q.o (fun v1 e2 => ?_)
  refine sv_Q.V (b := 0) (av := []) (ps := [0, 1, 2, 3, 4, 5, 6, 7, 8, 9, 10, 11, 12, 13, 14, 15, 16, 17, 18, 19, 20, 21]) (rest := []) (cs1 := (W_Ves hv hh hr hc)) (cs2 := (W_Ves v1.2 hh hr hc)) (st' := [.int v1.1]) (cs' := (W_Ves v1.2 hh hr hc)) (q := (1, .null, 0, 0, 0)) lk_Ves_168 (r_Ves_keepDoors N hv hh hr hc v1 e2) rfl rfl rfl rfl rfl (Or.inl ⟨10, _, _, rfl, rfl, rfl⟩) rfl rfl (sc_Ves_Ves_0 hv hh hr hc) rfl rfl (pc_Ves_Ves_0 hv hh hr hc v1.2 hh hr hc) ?_
  refine sv_Q.s (σ' := (9, [some (.ref 0), some (.int v1.1), some (.int (-1 : Int32)), some (.int (0 : Int32)), none], [], (W_Ves v1.2 hh hr hc))) 5 rfl ?_
  refine sv_Q.lo (fun v14 => (69, [some (.ref 0), none, some (.int v14.1), none, none], [], (W_Ves v1.2 v14.2 hr hc))) (fun v14 => ?_) (l_Ves_mostDoors_9 N N v1.1 (-1 : Int32) (0 : Int32) v1.2 hh hr hc)
  · refine sv_Q.s (σ' := (70, [some (.ref 0), none, some (.int v14.1), none, none], [.ref 0], (W_Ves v1.2 v14.2 hr hc))) 1 rfl ?_
    refine sv_Q.o (fun v15 e16 => ?_)
    refine sv_Q.V (b := 0) (av := []) (ps := [0, 1, 2, 3, 4, 5, 6, 7, 8, 9, 10, 11, 12, 13, 14, 15, 16, 17, 18, 19, 20, 21]) (rest := []) (cs1 := (W_Ves v1.2 v14.2 hr hc)) (cs2 := (W_Ves v1.2 v15 hr hc)) (st' := []) (cs' := (W_Ves v1.2 v15 hr hc)) (q := (70, .null, 0, 0, 0)) lk_Ves_180 (r_Ves_restoreDoors N v1.2 v14.2 hr hc v15 e16) rfl rfl rfl rfl rfl (Or.inl ⟨10, _, _, rfl, rfl, rfl⟩) rfl rfl (sc_Ves_Ves_0 v1.2 v14.2 hr hc) rfl rfl (pc_Ves_Ves_0 v1.2 v14.2 hr hc v1.2 v15 hr hc) ?_
    refine sv_Q.s (σ' := (74, [some (.ref 0), none, some (.int v14.1), none, none], [.int v14.1], (W_Ves v1.2 v15 hr hc))) 1 rfl ?_
    exact sv_Q.z ⟨True, rfl, trivial, rfl⟩
def F_Ves_exchange (N : Nat) (a0 : Int32) (a1 : Int32) (hh hr hc : Nat → Nat → Int32) : Option (Int32 × (Nat → Nat → Int32)) := (sv_let (F_Cargo_move a0 (-1 : Int32) hc) fun (hc_1 : Nat → Nat → Int32) => (sv_let (F_Cargo_move a1 (-1 : Int32) hc_1) fun (hc_2 : Nat → Nat → Int32) => (Option.bind (F_Ves_whyNot N a0 (F_Cargo_placeOf a1 hc) hh hr hc_2) fun (v3 : Int32) => (Option.bind (if ¬ v3 = 0 then some (v3, hc_2) else (sv_let (F_Cargo_move a0 (F_Cargo_placeOf a1 hc) hc_2) fun (hc_6 : Nat → Nat → Int32) => (Option.bind (F_Ves_whyNot N a1 (F_Cargo_placeOf a0 hc) hh hr hc_6) fun (v7 : Int32) => (if ¬ v7 = 0 then some (((10 : Int32) + v7), hc_6) else some ((0 : Int32), hc_6))))) fun (v10 : Int32 × (Nat → Nat → Int32)) => (if ¬ v10.1 = 0 then (sv_let (F_Cargo_move a0 (F_Cargo_placeOf a0 hc) v10.2) fun (hc_12 : Nat → Nat → Int32) => (sv_let (F_Cargo_move a1 (F_Cargo_placeOf a1 hc) hc_12) fun (hc_13 : Nat → Nat → Int32) => (some (v10.1, hc_13)))) else (sv_let (F_Cargo_move a1 (F_Cargo_placeOf a0 hc) v10.2) fun (hc_14 : Nat → Nat → Int32) => (some (v10.1, hc_14))))))))
theorem r_Ves_exchange {X : Nat × (Nat → Int32)} (N : Nat) (hv hh hr hc : Nat → Nat → Int32) (a0 : Int32) (a1 : Int32) : ∀ x, (F_Ves_exchange N a0 a1 hh hr hc) = some x → sv_R X 5 M_Ves_exchange [.ref 0, .int a0, .int a1] (W_Ves hv hh hr hc) (some (.int x.1)) (W_Ves hv hh hr x.2) := by
  refine sv_Q.R (res := (fun (x : Int32 × (Nat → Nat → Int32)) => (some (.int x.1), (W_Ves hv hh hr x.2)))) g_Ves_exchange rfl ?_
  unfold F_Ves_exchange
  refine sv_Q.s (σ' := (5, [some (.ref 0), some (.int a0), some (.int a1), none, none, none, none], [.int a0, .ref 16], (W_Ves hv hh hr hc))) 3 rfl ?_
  refine sv_Q.V (b := 0) (av := [.int a0]) (ps := [16, 17, 18, 19, 20, 21]) (rest := []) (cs1 := (W_Cargo hc)) (cs2 := (W_Cargo hc)) (st' := [.int (F_Cargo_placeOf a0 hc)]) (cs' := (W_Ves hv hh hr hc)) (q := (5, .null, 0, 0, 0)) lk_Ves_93 (t_Cargo_placeOf hc a0) rfl rfl rfl rfl rfl (Or.inl ⟨0, _, _, rfl, rfl, rfl⟩) rfl rfl (sc_Ves_Cargo_3 hv hh hr hc) rfl rfl (pc_Ves_Cargo_3 hv hh hr hc hc) ?_
  refine sv_Q.s (σ' := (14, [some (.ref 0), some (.int a0), some (.int a1), some (.int (F_Cargo_placeOf a0 hc)), none, none, none], [.int a1, .ref 16], (W_Ves hv hh hr hc))) 4 rfl ?_
  refine sv_Q.V (b := 0) (av := [.int a1]) (ps := [16, 17, 18, 19, 20, 21]) (rest := []) (cs1 := (W_Cargo hc)) (cs2 := (W_Cargo hc)) (st' := [.int (F_Cargo_placeOf a1 hc)]) (cs' := (W_Ves hv hh hr hc)) (q := (14, .null, 0, 0, 0)) lk_Ves_93 (t_Cargo_placeOf hc a1) rfl rfl rfl rfl rfl (Or.inl ⟨0, _, _, rfl, rfl, rfl⟩) rfl rfl (sc_Ves_Cargo_3 hv hh hr hc) rfl rfl (pc_Ves_Cargo_3 hv hh hr hc hc) ?_
  refine sv_Q.s (σ' := (25, [some (.ref 0), some (.int a0), some (.int a1), some (.int (F_Cargo_placeOf a0 hc)), some (.int (F_Cargo_placeOf a1 hc)), none, none], [.int (-1 : Int32), .int a0, .ref 16], (W_Ves hv hh hr hc))) 5 rfl ?_
  refine sv_Q.V (b := 0) (av := [.int a0, .int (-1 : Int32)]) (ps := [16, 17, 18, 19, 20, 21]) (rest := []) (cs1 := (W_Cargo hc)) (cs2 := (W_Cargo (F_Cargo_move a0 (-1 : Int32) hc))) (st' := []) (cs' := (W_Ves hv hh hr (F_Cargo_move a0 (-1 : Int32) hc))) (q := (25, .null, 0, 0, 0)) lk_Ves_187 (t_Cargo_move hc a0 (-1 : Int32)) rfl rfl rfl rfl rfl (Or.inl ⟨0, _, _, rfl, rfl, rfl⟩) rfl rfl (sc_Ves_Cargo_3 hv hh hr hc) rfl rfl (pc_Ves_Cargo_3 hv hh hr hc (F_Cargo_move a0 (-1 : Int32) hc)) ?_
  refine sv_Q.go (fun hc_1 => (28, [some (.ref 0), some (.int a0), some (.int a1), some (.int (F_Cargo_placeOf a0 hc)), some (.int (F_Cargo_placeOf a1 hc)), none, none], [], (W_Ves hv hh hr hc_1))) (fun hc_1 => ?_)
  refine sv_Q.s (σ' := (34, [some (.ref 0), some (.int a0), some (.int a1), some (.int (F_Cargo_placeOf a0 hc)), some (.int (F_Cargo_placeOf a1 hc)), none, none], [.int (-1 : Int32), .int a1, .ref 16], (W_Ves hv hh hr hc_1))) 4 rfl ?_
  refine sv_Q.V (b := 0) (av := [.int a1, .int (-1 : Int32)]) (ps := [16, 17, 18, 19, 20, 21]) (rest := []) (cs1 := (W_Cargo hc_1)) (cs2 := (W_Cargo (F_Cargo_move a1 (-1 : Int32) hc_1))) (st' := []) (cs' := (W_Ves hv hh hr (F_Cargo_move a1 (-1 : Int32) hc_1))) (q := (34, .null, 0, 0, 0)) lk_Ves_187 (t_Cargo_move hc_1 a1 (-1 : Int32)) rfl rfl rfl rfl rfl (Or.inl ⟨0, _, _, rfl, rfl, rfl⟩) rfl rfl (sc_Ves_Cargo_3 hv hh hr hc_1) rfl rfl (pc_Ves_Cargo_3 hv hh hr hc_1 (F_Cargo_move a1 (-1 : Int32) hc_1)) ?_
  refine sv_Q.go (fun hc_2 => (37, [some (.ref 0), some (.int a0), some (.int a1), some (.int (F_Cargo_placeOf a0 hc)), some (.int (F_Cargo_placeOf a1 hc)), none, none], [], (W_Ves hv hh hr hc_2))) (fun hc_2 => ?_)
  refine sv_Q.s (σ' := (41, [some (.ref 0), some (.int a0), some (.int a1), some (.int (F_Cargo_placeOf a0 hc)), some (.int (F_Cargo_placeOf a1 hc)), none, none], [.int (F_Cargo_placeOf a1 hc), .int a0, .ref 0], (W_Ves hv hh hr hc_2))) 3 rfl ?_
  refine sv_Q.o (fun v3 e4 => ?_)
  refine sv_Q.V (b := 0) (av := [.int a0, .int (F_Cargo_placeOf a1 hc)]) (ps := [0, 1, 2, 3, 4, 5, 6, 7, 8, 9, 10, 11, 12, 13, 14, 15, 16, 17, 18, 19, 20, 21]) (rest := []) (cs1 := (W_Ves hv hh hr hc_2)) (cs2 := (W_Ves hv hh hr hc_2)) (st' := [.int v3]) (cs' := (W_Ves hv hh hr hc_2)) (q := (41, .null, 0, 0, 0)) lk_Ves_141 (r_Ves_whyNot N hv hh hr hc_2 a0 (F_Cargo_placeOf a1 hc) v3 e4) rfl rfl rfl rfl rfl (Or.inl ⟨10, _, _, rfl, rfl, rfl⟩) rfl rfl (sc_Ves_Ves_0 hv hh hr hc_2) rfl rfl (pc_Ves_Ves_0 hv hh hr hc_2 hv hh hr hc_2) ?_
  refine sv_Q.s (σ' := (48, [some (.ref 0), some (.int a0), some (.int a1), some (.int (F_Cargo_placeOf a0 hc)), some (.int (F_Cargo_placeOf a1 hc)), some (.int v3), none], [.int v3], (W_Ves hv hh hr hc_2))) 2 rfl ?_
  refine sv_Q.lo (fun v10 => (85, [some (.ref 0), some (.int a0), some (.int a1), some (.int (F_Cargo_placeOf a0 hc)), some (.int (F_Cargo_placeOf a1 hc)), some (.int v10.1), none], [], (W_Ves hv hh hr v10.2))) (fun v10 => ?_) ?_
  · refine sv_Q.s (σ' := (87, [some (.ref 0), some (.int a0), some (.int a1), some (.int (F_Cargo_placeOf a0 hc)), some (.int (F_Cargo_placeOf a1 hc)), some (.int v10.1), none], [.int v10.1], (W_Ves hv hh hr v10.2))) 1 rfl ?_
    refine sv_Q.b rfl (fun c11 => ?_) (fun c11 => ?_)
    · refine sv_Q.s (σ' := (108, [some (.ref 0), some (.int a0), some (.int a1), some (.int (F_Cargo_placeOf a0 hc)), some (.int (F_Cargo_placeOf a1 hc)), some (.int v10.1), none], [.int (F_Cargo_placeOf a0 hc), .int a0, .ref 16], (W_Ves hv hh hr v10.2))) 4 rfl ?_
      refine sv_Q.V (b := 0) (av := [.int a0, .int (F_Cargo_placeOf a0 hc)]) (ps := [16, 17, 18, 19, 20, 21]) (rest := []) (cs1 := (W_Cargo v10.2)) (cs2 := (W_Cargo (F_Cargo_move a0 (F_Cargo_placeOf a0 hc) v10.2))) (st' := []) (cs' := (W_Ves hv hh hr (F_Cargo_move a0 (F_Cargo_placeOf a0 hc) v10.2))) (q := (108, .null, 0, 0, 0)) lk_Ves_187 (t_Cargo_move v10.2 a0 (F_Cargo_placeOf a0 hc)) rfl rfl rfl rfl rfl (Or.inl ⟨0, _, _, rfl, rfl, rfl⟩) rfl rfl (sc_Ves_Cargo_3 hv hh hr v10.2) rfl rfl (pc_Ves_Cargo_3 hv hh hr v10.2 (F_Cargo_move a0 (F_Cargo_placeOf a0 hc) v10.2)) ?_
      refine sv_Q.go (fun hc_12 => (111, [some (.ref 0), some (.int a0), some (.int a1), some (.int (F_Cargo_placeOf a0 hc)), some (.int (F_Cargo_placeOf a1 hc)), some (.int v10.1), none], [], (W_Ves hv hh hr hc_12))) (fun hc_12 => ?_)
      refine sv_Q.s (σ' := (118, [some (.ref 0), some (.int a0), some (.int a1), some (.int (F_Cargo_placeOf a0 hc)), some (.int (F_Cargo_placeOf a1 hc)), some (.int v10.1), none], [.int (F_Cargo_placeOf a1 hc), .int a1, .ref 16], (W_Ves hv hh hr hc_12))) 4 rfl ?_
      refine sv_Q.V (b := 0) (av := [.int a1, .int (F_Cargo_placeOf a1 hc)]) (ps := [16, 17, 18, 19, 20, 21]) (rest := []) (cs1 := (W_Cargo hc_12)) (cs2 := (W_Cargo (F_Cargo_move a1 (F_Cargo_placeOf a1 hc) hc_12))) (st' := []) (cs' := (W_Ves hv hh hr (F_Cargo_move a1 (F_Cargo_placeOf a1 hc) hc_12))) (q := (118, .null, 0, 0, 0)) lk_Ves_187 (t_Cargo_move hc_12 a1 (F_Cargo_placeOf a1 hc)) rfl rfl rfl rfl rfl (Or.inl ⟨0, _, _, rfl, rfl, rfl⟩) rfl rfl (sc_Ves_Cargo_3 hv hh hr hc_12) rfl rfl (pc_Ves_Cargo_3 hv hh hr hc_12 (F_Cargo_move a1 (F_Cargo_placeOf a1 hc) hc_12)) ?_
      refine sv_Q.go (fun hc_13 => (121, [some (.ref 0), some (.int a0), some (.int a1), some (.int (F_Cargo_placeOf a0 hc)), some (.int (F_Cargo_placeOf a1 hc)), some (.int v10.1), none], [], (W_Ves hv hh hr hc_13))) (fun hc_13 => ?_)
      refine sv_Q.s (σ' := (123, [some (.ref 0), some (.int a0), some (.int a1), some (.int (F_Cargo_placeOf a0 hc)), some (.int (F_Cargo_placeOf a1 hc)), some (.int v10.1), none], [.int v10.1], (W_Ves hv hh hr hc_13))) 1 rfl ?_
      exact sv_Q.z ⟨True, rfl, trivial, rfl⟩
    · refine sv_Q.s (σ' := (96, [some (.ref 0), some (.int a0), some (.int a1), some (.int (F_Cargo_placeOf a0 hc)), some (.int (F_Cargo_placeOf a1 hc)), some (.int v10.1), none], [.int (F_Cargo_placeOf a0 hc), .int a1, .ref 16], (W_Ves hv hh hr v10.2))) 4 rfl ?_
      refine sv_Q.V (b := 0) (av := [.int a1, .int (F_Cargo_placeOf a0 hc)]) (ps := [16, 17, 18, 19, 20, 21]) (rest := []) (cs1 := (W_Cargo v10.2)) (cs2 := (W_Cargo (F_Cargo_move a1 (F_Cargo_placeOf a0 hc) v10.2))) (st' := []) (cs' := (W_Ves hv hh hr (F_Cargo_move a1 (F_Cargo_placeOf a0 hc) v10.2))) (q := (96, .null, 0, 0, 0)) lk_Ves_187 (t_Cargo_move v10.2 a1 (F_Cargo_placeOf a0 hc)) rfl rfl rfl rfl rfl (Or.inl ⟨0, _, _, rfl, rfl, rfl⟩) rfl rfl (sc_Ves_Cargo_3 hv hh hr v10.2) rfl rfl (pc_Ves_Cargo_3 hv hh hr v10.2 (F_Cargo_move a1 (F_Cargo_placeOf a0 hc) v10.2)) ?_
      refine sv_Q.go (fun hc_14 => (99, [some (.ref 0), some (.int a0), some (.int a1), some (.int (F_Cargo_placeOf a0 hc)), some (.int (F_Cargo_placeOf a1 hc)), some (.int v10.1), none], [], (W_Ves hv hh hr hc_14))) (fun hc_14 => ?_)
      refine sv_Q.s (σ' := (123, [some (.ref 0), some (.int a0), some (.int a1), some (.int (F_Cargo_placeOf a0 hc)), some (.int (F_Cargo_placeOf a1 hc)), some (.int v10.1), none], [.int v10.1], (W_Ves hv hh hr hc_14))) 2 rfl ?_
      exact sv_Q.z ⟨True, rfl, trivial, rfl⟩
  · refine sv_Q.b rfl (fun c5 => ?_) (fun c5 => ?_)
    · exact sv_Q.z rfl
    · refine sv_Q.s (σ' := (58, [some (.ref 0), some (.int a0), some (.int a1), some (.int (F_Cargo_placeOf a0 hc)), some (.int (F_Cargo_placeOf a1 hc)), some (.int v3), none], [.int (F_Cargo_placeOf a1 hc), .int a0, .ref 16], (W_Ves hv hh hr hc_2))) 4 rfl ?_
      refine sv_Q.V (b := 0) (av := [.int a0, .int (F_Cargo_placeOf a1 hc)]) (ps := [16, 17, 18, 19, 20, 21]) (rest := []) (cs1 := (W_Cargo hc_2)) (cs2 := (W_Cargo (F_Cargo_move a0 (F_Cargo_placeOf a1 hc) hc_2))) (st' := []) (cs' := (W_Ves hv hh hr (F_Cargo_move a0 (F_Cargo_placeOf a1 hc) hc_2))) (q := (58, .null, 0, 0, 0)) lk_Ves_187 (t_Cargo_move hc_2 a0 (F_Cargo_placeOf a1 hc)) rfl rfl rfl rfl rfl (Or.inl ⟨0, _, _, rfl, rfl, rfl⟩) rfl rfl (sc_Ves_Cargo_3 hv hh hr hc_2) rfl rfl (pc_Ves_Cargo_3 hv hh hr hc_2 (F_Cargo_move a0 (F_Cargo_placeOf a1 hc) hc_2)) ?_
      refine sv_Q.go (fun hc_6 => (61, [some (.ref 0), some (.int a0), some (.int a1), some (.int (F_Cargo_placeOf a0 hc)), some (.int (F_Cargo_placeOf a1 hc)), some (.int v3), none], [], (W_Ves hv hh hr hc_6))) (fun hc_6 => ?_)
      refine sv_Q.s (σ' := (64, [some (.ref 0), some (.int a0), some (.int a1), some (.int (F_Cargo_placeOf a0 hc)), some (.int (F_Cargo_placeOf a1 hc)), some (.int v3), none], [.int (F_Cargo_placeOf a0 hc), .int a1, .ref 0], (W_Ves hv hh hr hc_6))) 3 rfl ?_
      refine sv_Q.o (fun v7 e8 => ?_)
      refine sv_Q.V (b := 0) (av := [.int a1, .int (F_Cargo_placeOf a0 hc)]) (ps := [0, 1, 2, 3, 4, 5, 6, 7, 8, 9, 10, 11, 12, 13, 14, 15, 16, 17, 18, 19, 20, 21]) (rest := []) (cs1 := (W_Ves hv hh hr hc_6)) (cs2 := (W_Ves hv hh hr hc_6)) (st' := [.int v7]) (cs' := (W_Ves hv hh hr hc_6)) (q := (64, .null, 0, 0, 0)) lk_Ves_141 (r_Ves_whyNot N hv hh hr hc_6 a1 (F_Cargo_placeOf a0 hc) v7 e8) rfl rfl rfl rfl rfl (Or.inl ⟨10, _, _, rfl, rfl, rfl⟩) rfl rfl (sc_Ves_Ves_0 hv hh hr hc_6) rfl rfl (pc_Ves_Ves_0 hv hh hr hc_6 hv hh hr hc_6) ?_
      refine sv_Q.s (σ' := (71, [some (.ref 0), some (.int a0), some (.int a1), some (.int (F_Cargo_placeOf a0 hc)), some (.int (F_Cargo_placeOf a1 hc)), some (.int v3), some (.int v7)], [.int v7], (W_Ves hv hh hr hc_6))) 2 rfl ?_
      refine sv_Q.b rfl (fun c9 => ?_) (fun c9 => ?_)
      · refine sv_Q.s (σ' := (85, [some (.ref 0), some (.int a0), some (.int a1), some (.int (F_Cargo_placeOf a0 hc)), some (.int (F_Cargo_placeOf a1 hc)), some (.int ((10 : Int32) + v7)), some (.int v7)], [], (W_Ves hv hh hr hc_6))) 4 rfl ?_
        refine sv_Q.f (lo' := [some (.ref 0), some (.int a0), some (.int a1), some (.int (F_Cargo_placeOf a0 hc)), some (.int (F_Cargo_placeOf a1 hc)), some (.int ((10 : Int32) + v7)), none]) ⟨rfl, ⟨rfl, ⟨rfl, ⟨rfl, ⟨rfl, ⟨rfl, trivial⟩⟩⟩⟩⟩⟩ ?_
        exact sv_Q.z rfl
      · refine sv_Q.s (σ' := (85, [some (.ref 0), some (.int a0), some (.int a1), some (.int (F_Cargo_placeOf a0 hc)), some (.int (F_Cargo_placeOf a1 hc)), some (.int (0 : Int32)), some (.int v7)], [], (W_Ves hv hh hr hc_6))) 3 rfl ?_
        refine sv_Q.f (lo' := [some (.ref 0), some (.int a0), some (.int a1), some (.int (F_Cargo_placeOf a0 hc)), some (.int (F_Cargo_placeOf a1 hc)), some (.int (0 : Int32)), none]) ⟨rfl, ⟨rfl, ⟨rfl, ⟨rfl, ⟨rfl, ⟨rfl, trivial⟩⟩⟩⟩⟩⟩ ?_
        exact sv_Q.z rfl
