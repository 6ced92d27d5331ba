/-! boxes, by program out of the listing -/
theorem pa_Cargo_4 (hc : Nat → Nat → Int32) (g : Nat → Int32) : sv_pt [4] (([.inl (0, 25, g)] : List sv_C).map (sv_r (sv_pi [4]))) 0 (W_Cargo hc) = W_Cargo (sr hc 4 g) := rfl
theorem su_Cargo_4 (hc : Nat → Nat → Int32) : sv_sub [4] (W_Cargo hc) [.inl (0, 25, hc 4)] := rfl
theorem pu_Cargo_4 (hc : Nat → Nat → Int32) : sv_pt [4] (([.inl (0, 25, hc 4)] : List sv_C).map (sv_r (sv_pi [4]))) 0 (W_Cargo hc) = W_Cargo hc := rfl
theorem pa_Cargo_5 (hc : Nat → Nat → Int32) (g : Nat → Int32) : sv_pt [5] (([.inl (0, 144, g)] : List sv_C).map (sv_r (sv_pi [5]))) 0 (W_Cargo hc) = W_Cargo (sr hc 5 g) := rfl
theorem su_Cargo_5 (hc : Nat → Nat → Int32) : sv_sub [5] (W_Cargo hc) [.inl (0, 144, hc 5)] := rfl
theorem pu_Cargo_5 (hc : Nat → Nat → Int32) : sv_pt [5] (([.inl (0, 144, hc 5)] : List sv_C).map (sv_r (sv_pi [5]))) 0 (W_Cargo hc) = W_Cargo hc := rfl
theorem pc_Cargo_Cargo_0 (hc n0 : Nat → Nat → Int32) : sv_pt [0, 1, 2, 3, 4, 5] ((W_Cargo n0).map (sv_r (sv_pi [0, 1, 2, 3, 4, 5]))) 0 (W_Cargo hc) = W_Cargo n0 := rfl
theorem sc_Cargo_Cargo_0 (hc : Nat → Nat → Int32) : sv_sub [0, 1, 2, 3, 4, 5] (W_Cargo hc) (W_Cargo hc) := rfl
theorem pa_Cargo_1 (hc : Nat → Nat → Int32) (g : Nat → Int32) : sv_pt [1] (([.inl (0, 25, g)] : List sv_C).map (sv_r (sv_pi [1]))) 0 (W_Cargo hc) = W_Cargo (sr hc 1 g) := rfl
theorem su_Cargo_1 (hc : Nat → Nat → Int32) : sv_sub [1] (W_Cargo hc) [.inl (0, 25, hc 1)] := rfl
theorem pu_Cargo_1 (hc : Nat → Nat → Int32) : sv_pt [1] (([.inl (0, 25, hc 1)] : List sv_C).map (sv_r (sv_pi [1]))) 0 (W_Cargo hc) = W_Cargo hc := rfl
theorem pa_Cargo_2 (hc : Nat → Nat → Int32) (g : Nat → Int32) : sv_pt [2] (([.inl (0, 25, g)] : List sv_C).map (sv_r (sv_pi [2]))) 0 (W_Cargo hc) = W_Cargo (sr hc 2 g) := rfl
theorem su_Cargo_2 (hc : Nat → Nat → Int32) : sv_sub [2] (W_Cargo hc) [.inl (0, 25, hc 2)] := rfl
theorem pu_Cargo_2 (hc : Nat → Nat → Int32) : sv_pt [2] (([.inl (0, 25, hc 2)] : List sv_C).map (sv_r (sv_pi [2]))) 0 (W_Cargo hc) = W_Cargo hc := rfl
theorem pa_Cargo_3 (hc : Nat → Nat → Int32) (g : Nat → Int32) : sv_pt [3] (([.inl (0, 25, g)] : List sv_C).map (sv_r (sv_pi [3]))) 0 (W_Cargo hc) = W_Cargo (sr hc 3 g) := rfl
theorem su_Cargo_3 (hc : Nat → Nat → Int32) : sv_sub [3] (W_Cargo hc) [.inl (0, 25, hc 3)] := rfl
theorem pu_Cargo_3 (hc : Nat → Nat → Int32) : sv_pt [3] (([.inl (0, 25, hc 3)] : List sv_C).map (sv_r (sv_pi [3]))) 0 (W_Cargo hc) = W_Cargo hc := rfl
def F_Cargo_liftAll (hc : Nat → Nat → Int32) : (Nat → Nat → Int32) := (sv_let (sf hc 4 25 (-1 : Int32)) fun (hc_1 : Nat → Nat → Int32) => (sv_let (sf hc_1 5 144 (-1 : Int32)) fun (hc_2 : Nat → Nat → Int32) => hc_2))
theorem r_Cargo_liftAll {X : Nat × (Nat → Int32)} (hc : Nat → Nat → Int32) : ∀ x, some (F_Cargo_liftAll hc) = some x → sv_R X 2 M_Cargo_liftAll [.ref 0] (W_Cargo hc) none (W_Cargo x) := by
  refine sv_Q.R (res := (fun (x : (Nat → Nat → Int32)) => ((none : Option Value), (W_Cargo x)))) g_Cargo_liftAll rfl ?_
  unfold F_Cargo_liftAll
  refine sv_Q.s (σ' := (5, [some (.ref 0)], [.int (-1 : Int32), .ref 4], (W_Cargo hc))) 3 rfl ?_
  refine sv_Q.S (ps := [4]) (rest := []) (st' := []) (cs' := (W_Cargo (sf hc 4 25 (-1 : Int32)))) (q := (5, .null, 0, 0, 0)) lk_Cargo_34 (t_Arr_fill 25 (Nat.le_of_ble_eq_true rfl) (hc 4) (-1 : Int32)) rfl rfl rfl rfl rfl rfl rfl (su_Cargo_4 hc) rfl rfl (pa_Cargo_4 hc (sv_fl 25 (hc 4) (-1 : Int32))) ?_
  refine sv_Q.gs (fun hc_1 => (8, [some (.ref 0)], [], (W_Cargo hc_1))) (fun hc_1 => ?_)
  refine sv_Q.s (σ' := (13, [some (.ref 0)], [.int (-1 : Int32), .ref 5], (W_Cargo hc_1))) 3 rfl ?_
  refine sv_Q.S (ps := [5]) (rest := []) (st' := []) (cs' := (W_Cargo (sf hc_1 5 144 (-1 : Int32)))) (q := (13, .null, 0, 0, 0)) lk_Cargo_34 (t_Arr_fill 144 (Nat.le_of_ble_eq_true rfl) (hc_1 5) (-1 : Int32)) rfl rfl rfl rfl rfl rfl rfl (su_Cargo_5 hc_1) rfl rfl (pa_Cargo_5 hc_1 (sv_fl 144 (hc_1 5) (-1 : Int32))) ?_
  refine sv_Q.gs (fun hc_2 => (16, [some (.ref 0)], [], (W_Cargo hc_2))) (fun hc_2 => ?_)
  exact sv_Q.z ⟨True, rfl, trivial, rfl⟩
theorem t_Cargo_liftAll {X : Nat × (Nat → Int32)} (hc : Nat → Nat → Int32) : sv_R X 2 M_Cargo_liftAll [.ref 0] (W_Cargo hc) none (W_Cargo (F_Cargo_liftAll hc)) := r_Cargo_liftAll hc _ rfl
def F_Cargo_reset (hc : Nat → Nat → Int32) : (Nat → Nat → Int32) := (sv_let (ss hc 0 (0 : Int32)) fun (hc_1 : Nat → Nat → Int32) => (sv_let (F_Cargo_liftAll hc_1) fun (hc_2 : Nat → Nat → Int32) => hc_2))
theorem r_Cargo_reset {X : Nat × (Nat → Int32)} (hc : Nat → Nat → Int32) : ∀ x, some (F_Cargo_reset hc) = some x → sv_R X 3 M_Cargo_reset [.ref 0] (W_Cargo hc) none (W_Cargo x) := by
  refine sv_Q.R (res := (fun (x : (Nat → Nat → Int32)) => ((none : Option Value), (W_Cargo x)))) g_Cargo_reset rfl ?_
  unfold F_Cargo_reset
  refine sv_Q.s (σ' := (5, [some (.ref 0)], [], (W_Cargo (ss hc 0 (0 : Int32))))) 3 rfl ?_
  refine sv_Q.gs (fun hc_1 => (5, [some (.ref 0)], [], (W_Cargo hc_1))) (fun hc_1 => ?_)
  refine sv_Q.s (σ' := (6, [some (.ref 0)], [.ref 0], (W_Cargo hc_1))) 1 rfl ?_
  refine sv_Q.V (b := 0) (av := []) (ps := [0, 1, 2, 3, 4, 5]) (rest := []) (cs1 := (W_Cargo hc_1)) (cs2 := (W_Cargo (F_Cargo_liftAll hc_1))) (st' := []) (cs' := (W_Cargo (F_Cargo_liftAll hc_1))) (q := (6, .null, 0, 0, 0)) lk_Cargo_31 (t_Cargo_liftAll hc_1) rfl rfl rfl rfl rfl (Or.inl ⟨0, _, _, rfl, rfl, rfl⟩) rfl rfl (sc_Cargo_Cargo_0 hc_1) rfl rfl (pc_Cargo_Cargo_0 hc_1 (F_Cargo_liftAll hc_1)) ?_
  refine sv_Q.gs (fun hc_2 => (9, [some (.ref 0)], [], (W_Cargo hc_2))) (fun hc_2 => ?_)
  exact sv_Q.z ⟨True, rfl, trivial, rfl⟩
theorem t_Cargo_reset {X : Nat × (Nat → Int32)} (hc : Nat → Nat → Int32) : sv_R X 3 M_Cargo_reset [.ref 0] (W_Cargo hc) none (W_Cargo (F_Cargo_reset hc)) := r_Cargo_reset hc _ rfl
def F_Cargo_add (a0 : Int32) (a1 : Int32) (a2 : Int32) (hc : Nat → Nat → Int32) : Int32 × (Nat → Nat → Int32) := (sv_let (sw hc 1 25 (hc 0 0) a0) fun (hc_1 : Nat → Nat → Int32) => (sv_let (sw hc_1 2 25 (hc 0 0) a1) fun (hc_2 : Nat → Nat → Int32) => (sv_let (sw hc_2 3 25 (hc 0 0) a2) fun (hc_3 : Nat → Nat → Int32) => (sv_let (sw hc_3 4 25 (hc 0 0) (-1 : Int32)) fun (hc_4 : Nat → Nat → Int32) => (sv_let (ss hc_4 0 ((hc_4 0 0) + (1 : Int32))) fun (hc_5 : Nat → Nat → Int32) => ((hc 0 0), hc_5))))))
theorem r_Cargo_add {X : Nat × (Nat → Int32)} (hc : Nat → Nat → Int32) (a0 : Int32) (a1 : Int32) (a2 : Int32) : ∀ x, some (F_Cargo_add a0 a1 a2 hc) = some x → sv_R X 2 M_Cargo_add [.ref 0, .int a0, .int a1, .int a2] (W_Cargo hc) (some (.int x.1)) (W_Cargo x.2) := by
  refine sv_Q.R (res := (fun (x : Int32 × (Nat → Nat → Int32)) => (some (.int x.1), (W_Cargo x.2)))) g_Cargo_add rfl ?_
  unfold F_Cargo_add
  refine sv_Q.s (σ' := (13, [some (.ref 0), some (.int a0), some (.int a1), some (.int a2), some (.int (hc 0 0))], [.int a0, .int (hc 0 0), .ref 1], (W_Cargo hc))) 7 rfl ?_
  refine sv_Q.S (ps := [1]) (rest := []) (st' := []) (cs' := (W_Cargo (sw hc 1 25 (hc 0 0) a0))) (q := (13, .null, 0, 0, 0)) lk_Cargo_40 (t_K_write 25 rfl (hc 1) (hc 0 0) a0) rfl rfl rfl rfl rfl rfl rfl (su_Cargo_1 hc) rfl rfl (pa_Cargo_1 hc (wr 25 (hc 1) (hc 0 0) a0)) ?_
  refine sv_Q.gs (fun hc_1 => (16, [some (.ref 0), some (.int a0), some (.int a1), some (.int a2), some (.int (hc 0 0))], [], (W_Cargo hc_1))) (fun hc_1 => ?_)
  refine sv_Q.s (σ' := (23, [some (.ref 0), some (.int a0), some (.int a1), some (.int a2), some (.int (hc 0 0))], [.int a1, .int (hc 0 0), .ref 2], (W_Cargo hc_1))) 4 rfl ?_
  refine sv_Q.S (ps := [2]) (rest := []) (st' := []) (cs' := (W_Cargo (sw hc_1 2 25 (hc 0 0) a1))) (q := (23, .null, 0, 0, 0)) lk_Cargo_40 (t_K_write 25 rfl (hc_1 2) (hc 0 0) a1) rfl rfl rfl rfl rfl rfl rfl (su_Cargo_2 hc_1) rfl rfl (pa_Cargo_2 hc_1 (wr 25 (hc_1 2) (hc 0 0) a1)) ?_
  refine sv_Q.gs (fun hc_2 => (26, [some (.ref 0), some (.int a0), some (.int a1), some (.int a2), some (.int (hc 0 0))], [], (W_Cargo hc_2))) (fun hc_2 => ?_)
  refine sv_Q.s (σ' := (33, [some (.ref 0), some (.int a0), some (.int a1), some (.int a2), some (.int (hc 0 0))], [.int a2, .int (hc 0 0), .ref 3], (W_Cargo hc_2))) 4 rfl ?_
  refine sv_Q.S (ps := [3]) (rest := []) (st' := []) (cs' := (W_Cargo (sw hc_2 3 25 (hc 0 0) a2))) (q := (33, .null, 0, 0, 0)) lk_Cargo_40 (t_K_write 25 rfl (hc_2 3) (hc 0 0) a2) rfl rfl rfl rfl rfl rfl rfl (su_Cargo_3 hc_2) rfl rfl (pa_Cargo_3 hc_2 (wr 25 (hc_2 3) (hc 0 0) a2)) ?_
  refine sv_Q.gs (fun hc_3 => (36, [some (.ref 0), some (.int a0), some (.int a1), some (.int a2), some (.int (hc 0 0))], [], (W_Cargo hc_3))) (fun hc_3 => ?_)
  refine sv_Q.s (σ' := (43, [some (.ref 0), some (.int a0), some (.int a1), some (.int a2), some (.int (hc 0 0))], [.int (-1 : Int32), .int (hc 0 0), .ref 4], (W_Cargo hc_3))) 4 rfl ?_
  refine sv_Q.S (ps := [4]) (rest := []) (st' := []) (cs' := (W_Cargo (sw hc_3 4 25 (hc 0 0) (-1 : Int32)))) (q := (43, .null, 0, 0, 0)) lk_Cargo_40 (t_K_write 25 rfl (hc_3 4) (hc 0 0) (-1 : Int32)) rfl rfl rfl rfl rfl rfl rfl (su_Cargo_4 hc_3) rfl rfl (pa_Cargo_4 hc_3 (wr 25 (hc_3 4) (hc 0 0) (-1 : Int32))) ?_
  refine sv_Q.gs (fun hc_4 => (46, [some (.ref 0), some (.int a0), some (.int a1), some (.int a2), some (.int (hc 0 0))], [], (W_Cargo hc_4))) (fun hc_4 => ?_)
  refine sv_Q.s (σ' := (56, [some (.ref 0), some (.int a0), some (.int a1), some (.int a2), some (.int (hc 0 0))], [], (W_Cargo (ss hc_4 0 ((hc_4 0 0) + (1 : Int32)))))) 6 rfl ?_
  refine sv_Q.gs (fun hc_5 => (56, [some (.ref 0), some (.int a0), some (.int a1), some (.int a2), some (.int (hc 0 0))], [], (W_Cargo hc_5))) (fun hc_5 => ?_)
  refine sv_Q.s (σ' := (58, [some (.ref 0), some (.int a0), some (.int a1), some (.int a2), some (.int (hc 0 0))], [.int (hc 0 0)], (W_Cargo hc_5))) 1 rfl ?_
  exact sv_Q.z ⟨True, rfl, trivial, rfl⟩
theorem t_Cargo_add {X : Nat × (Nat → Int32)} (hc : Nat → Nat → Int32) (a0 : Int32) (a1 : Int32) (a2 : Int32) : sv_R X 2 M_Cargo_add [.ref 0, .int a0, .int a1, .int a2] (W_Cargo hc) (some (.int (F_Cargo_add a0 a1 a2 hc).1)) (W_Cargo (F_Cargo_add a0 a1 a2 hc).2) := r_Cargo_add hc a0 a1 a2 _ rfl
def F_Cargo_setLate (a0 : Int32) (a1 : Int32) (hc : Nat → Nat → Int32) : (Nat → Nat → Int32) := (sv_let (sw hc 1 25 (24 : Int32) a0) fun (hc_1 : Nat → Nat → Int32) => (sv_let (sw hc_1 2 25 (24 : Int32) a1) fun (hc_2 : Nat → Nat → Int32) => hc_2))
theorem r_Cargo_setLate {X : Nat × (Nat → Int32)} (hc : Nat → Nat → Int32) (a0 : Int32) (a1 : Int32) : ∀ x, some (F_Cargo_setLate a0 a1 hc) = some x → sv_R X 2 M_Cargo_setLate [.ref 0, .int a0, .int a1] (W_Cargo hc) none (W_Cargo x) := by
  refine sv_Q.R (res := (fun (x : (Nat → Nat → Int32)) => ((none : Option Value), (W_Cargo x)))) g_Cargo_setLate rfl ?_
  unfold F_Cargo_setLate
  refine sv_Q.s (σ' := (7, [some (.ref 0), some (.int a0), some (.int a1)], [.int a0, .int (24 : Int32), .ref 1], (W_Cargo hc))) 4 rfl ?_
  refine sv_Q.S (ps := [1]) (rest := []) (st' := []) (cs' := (W_Cargo (sw hc 1 25 (24 : Int32) a0))) (q := (7, .null, 0, 0, 0)) lk_Cargo_40 (t_K_write 25 rfl (hc 1) (24 : Int32) a0) rfl rfl rfl rfl rfl rfl rfl (su_Cargo_1 hc) rfl rfl (pa_Cargo_1 hc (wr 25 (hc 1) (24 : Int32) a0)) ?_
  refine sv_Q.gs (fun hc_1 => (10, [some (.ref 0), some (.int a0), some (.int a1)], [], (W_Cargo hc_1))) (fun hc_1 => ?_)
  refine sv_Q.s (σ' := (17, [some (.ref 0), some (.int a0), some (.int a1)], [.int a1, .int (24 : Int32), .ref 2], (W_Cargo hc_1))) 4 rfl ?_
  refine sv_Q.S (ps := [2]) (rest := []) (st' := []) (cs' := (W_Cargo (sw hc_1 2 25 (24 : Int32) a1))) (q := (17, .null, 0, 0, 0)) lk_Cargo_40 (t_K_write 25 rfl (hc_1 2) (24 : Int32) a1) rfl rfl rfl rfl rfl rfl rfl (su_Cargo_2 hc_1) rfl rfl (pa_Cargo_2 hc_1 (wr 25 (hc_1 2) (24 : Int32) a1)) ?_
  refine sv_Q.gs (fun hc_2 => (20, [some (.ref 0), some (.int a0), some (.int a1)], [], (W_Cargo hc_2))) (fun hc_2 => ?_)
  exact sv_Q.z ⟨True, rfl, trivial, rfl⟩
theorem t_Cargo_setLate {X : Nat × (Nat → Int32)} (hc : Nat → Nat → Int32) (a0 : Int32) (a1 : Int32) : sv_R X 2 M_Cargo_setLate [.ref 0, .int a0, .int a1] (W_Cargo hc) none (W_Cargo (F_Cargo_setLate a0 a1 hc)) := r_Cargo_setLate hc a0 a1 _ rfl
def F_Cargo_kindOf (a0 : Int32) (hc : Nat → Nat → Int32) : Int32 := (rd 25 (hc 1) a0)
theorem r_Cargo_kindOf {X : Nat × (Nat → Int32)} (hc : Nat → Nat → Int32) (a0 : Int32) : ∀ x, some (F_Cargo_kindOf a0 hc) = some x → sv_R X 2 M_Cargo_kindOf [.ref 0, .int a0] (W_Cargo hc) (some (.int x)) (W_Cargo hc) := by
  refine sv_Q.R (res := (fun (x : Int32) => (some (.int x), (W_Cargo hc)))) g_Cargo_kindOf rfl ?_
  unfold F_Cargo_kindOf
  refine sv_Q.s (σ' := (5, [some (.ref 0), some (.int a0)], [.int a0, .ref 1], (W_Cargo hc))) 3 rfl ?_
  refine sv_Q.S (ps := [1]) (rest := []) (st' := [.int (rd 25 (hc 1) a0)]) (cs' := (W_Cargo hc)) (q := (5, .null, 0, 0, 0)) lk_Cargo_44 (t_K_read 25 rfl (hc 1) a0) rfl rfl rfl rfl rfl rfl rfl (su_Cargo_1 hc) rfl rfl (pu_Cargo_1 hc) ?_
  exact sv_Q.z ⟨True, rfl, trivial, rfl⟩
theorem t_Cargo_kindOf {X : Nat × (Nat → Int32)} (hc : Nat → Nat → Int32) (a0 : Int32) : sv_R X 2 M_Cargo_kindOf [.ref 0, .int a0] (W_Cargo hc) (some (.int (F_Cargo_kindOf a0 hc))) (W_Cargo hc) := r_Cargo_kindOf hc a0 _ rfl
def F_Cargo_weightOf (a0 : Int32) (hc : Nat → Nat → Int32) : Int32 := (rd 25 (hc 2) a0)
theorem r_Cargo_weightOf {X : Nat × (Nat → Int32)} (hc : Nat → Nat → Int32) (a0 : Int32) : ∀ x, some (F_Cargo_weightOf a0 hc) = some x → sv_R X 2 M_Cargo_weightOf [.ref 0, .int a0] (W_Cargo hc) (some (.int x)) (W_Cargo hc) := by
  refine sv_Q.R (res := (fun (x : Int32) => (some (.int x), (W_Cargo hc)))) g_Cargo_weightOf rfl ?_
  unfold F_Cargo_weightOf
  refine sv_Q.s (σ' := (5, [some (.ref 0), some (.int a0)], [.int a0, .ref 2], (W_Cargo hc))) 3 rfl ?_
  refine sv_Q.S (ps := [2]) (rest := []) (st' := [.int (rd 25 (hc 2) a0)]) (cs' := (W_Cargo hc)) (q := (5, .null, 0, 0, 0)) lk_Cargo_44 (t_K_read 25 rfl (hc 2) a0) rfl rfl rfl rfl rfl rfl rfl (su_Cargo_2 hc) rfl rfl (pu_Cargo_2 hc) ?_
  exact sv_Q.z ⟨True, rfl, trivial, rfl⟩
theorem t_Cargo_weightOf {X : Nat × (Nat → Int32)} (hc : Nat → Nat → Int32) (a0 : Int32) : sv_R X 2 M_Cargo_weightOf [.ref 0, .int a0] (W_Cargo hc) (some (.int (F_Cargo_weightOf a0 hc))) (W_Cargo hc) := r_Cargo_weightOf hc a0 _ rfl
def F_Cargo_portOf (a0 : Int32) (hc : Nat → Nat → Int32) : Int32 := (rd 25 (hc 3) a0)
theorem r_Cargo_portOf {X : Nat × (Nat → Int32)} (hc : Nat → Nat → Int32) (a0 : Int32) : ∀ x, some (F_Cargo_portOf a0 hc) = some x → sv_R X 2 M_Cargo_portOf [.ref 0, .int a0] (W_Cargo hc) (some (.int x)) (W_Cargo hc) := by
  refine sv_Q.R (res := (fun (x : Int32) => (some (.int x), (W_Cargo hc)))) g_Cargo_portOf rfl ?_
  unfold F_Cargo_portOf
  refine sv_Q.s (σ' := (5, [some (.ref 0), some (.int a0)], [.int a0, .ref 3], (W_Cargo hc))) 3 rfl ?_
  refine sv_Q.S (ps := [3]) (rest := []) (st' := [.int (rd 25 (hc 3) a0)]) (cs' := (W_Cargo hc)) (q := (5, .null, 0, 0, 0)) lk_Cargo_44 (t_K_read 25 rfl (hc 3) a0) rfl rfl rfl rfl rfl rfl rfl (su_Cargo_3 hc) rfl rfl (pu_Cargo_3 hc) ?_
  exact sv_Q.z ⟨True, rfl, trivial, rfl⟩
theorem t_Cargo_portOf {X : Nat × (Nat → Int32)} (hc : Nat → Nat → Int32) (a0 : Int32) : sv_R X 2 M_Cargo_portOf [.ref 0, .int a0] (W_Cargo hc) (some (.int (F_Cargo_portOf a0 hc))) (W_Cargo hc) := r_Cargo_portOf hc a0 _ rfl
def F_Cargo_placeOf (a0 : Int32) (hc : Nat → Nat → Int32) : Int32 := (rd 25 (hc 4) a0)
theorem r_Cargo_placeOf {X : Nat × (Nat → Int32)} (hc : Nat → Nat → Int32) (a0 : Int32) : ∀ x, some (F_Cargo_placeOf a0 hc) = some x → sv_R X 2 M_Cargo_placeOf [.ref 0, .int a0] (W_Cargo hc) (some (.int x)) (W_Cargo hc) := by
  refine sv_Q.R (res := (fun (x : Int32) => (some (.int x), (W_Cargo hc)))) g_Cargo_placeOf rfl ?_
  unfold F_Cargo_placeOf
  refine sv_Q.s (σ' := (5, [some (.ref 0), some (.int a0)], [.int a0, .ref 4], (W_Cargo hc))) 3 rfl ?_
  refine sv_Q.S (ps := [4]) (rest := []) (st' := [.int (rd 25 (hc 4) a0)]) (cs' := (W_Cargo hc)) (q := (5, .null, 0, 0, 0)) lk_Cargo_44 (t_K_read 25 rfl (hc 4) a0) rfl rfl rfl rfl rfl rfl rfl (su_Cargo_4 hc) rfl rfl (pu_Cargo_4 hc) ?_
  exact sv_Q.z ⟨True, rfl, trivial, rfl⟩
theorem t_Cargo_placeOf {X : Nat × (Nat → Int32)} (hc : Nat → Nat → Int32) (a0 : Int32) : sv_R X 2 M_Cargo_placeOf [.ref 0, .int a0] (W_Cargo hc) (some (.int (F_Cargo_placeOf a0 hc))) (W_Cargo hc) := r_Cargo_placeOf hc a0 _ rfl
def F_Cargo_lies (a0 : Int32) (hc : Nat → Nat → Int32) : Int32 := (if (rd 25 (hc 4) a0) = (-1 : Int32) then (0 : Int32) else (1 : Int32))
theorem r_Cargo_lies {X : Nat × (Nat → Int32)} (hc : Nat → Nat → Int32) (a0 : Int32) : ∀ x, some (F_Cargo_lies a0 hc) = some x → sv_R X 2 M_Cargo_lies [.ref 0, .int a0] (W_Cargo hc) (some (.int x)) (W_Cargo hc) := by
  refine sv_Q.R (res := (fun (x : Int32) => (some (.int x), (W_Cargo hc)))) g_Cargo_lies rfl ?_
  unfold F_Cargo_lies
  refine sv_Q.s (σ' := (5, [some (.ref 0), some (.int a0)], [.int a0, .ref 4], (W_Cargo hc))) 3 rfl ?_
  refine sv_Q.S (ps := [4]) (rest := []) (st' := [.int (rd 25 (hc 4) a0)]) (cs' := (W_Cargo hc)) (q := (5, .null, 0, 0, 0)) lk_Cargo_44 (t_K_read 25 rfl (hc 4) a0) rfl rfl rfl rfl rfl rfl rfl (su_Cargo_4 hc) rfl rfl (pu_Cargo_4 hc) ?_
  refine sv_Q.s (σ' := (9, [some (.ref 0), some (.int a0)], [.int (-1 : Int32), .int (rd 25 (hc 4) a0)], (W_Cargo hc))) 1 rfl ?_
  refine sv_Q.sb rfl (fun c1 => ?_) (fun c1 => ?_)
  · refine sv_Q.s (σ' := (17, [some (.ref 0), some (.int a0)], [.int (0 : Int32)], (W_Cargo hc))) 1 rfl ?_
    exact sv_Q.z ⟨sv_01 (0 : Int32), rfl, Or.inl rfl, rfl⟩
  · refine sv_Q.s (σ' := (17, [some (.ref 0), some (.int a0)], [.int (1 : Int32)], (W_Cargo hc))) 2 rfl ?_
    exact sv_Q.z ⟨sv_01 (1 : Int32), rfl, Or.inr rfl, rfl⟩
theorem t_Cargo_lies {X : Nat × (Nat → Int32)} (hc : Nat → Nat → Int32) (a0 : Int32) : sv_R X 2 M_Cargo_lies [.ref 0, .int a0] (W_Cargo hc) (some (.int (F_Cargo_lies a0 hc))) (W_Cargo hc) := r_Cargo_lies hc a0 _ rfl
theorem b_Cargo_lies (a0 : Int32) (hc : Nat → Nat → Int32) : sv_01 (F_Cargo_lies a0 hc) := by
  unfold F_Cargo_lies
  try simp only [sv_let]
  repeat' split
  all_goals first | exact Or.inl rfl | exact Or.inr rfl
def F_Cargo_boxAt (a0 : Int32) (hc : Nat → Nat → Int32) : Int32 := (rd 144 (hc 5) a0)
theorem r_Cargo_boxAt {X : Nat × (Nat → Int32)} (hc : Nat → Nat → Int32) (a0 : Int32) : ∀ x, some (F_Cargo_boxAt a0 hc) = some x → sv_R X 2 M_Cargo_boxAt [.ref 0, .int a0] (W_Cargo hc) (some (.int x)) (W_Cargo hc) := by
  refine sv_Q.R (res := (fun (x : Int32) => (some (.int x), (W_Cargo hc)))) g_Cargo_boxAt rfl ?_
  unfold F_Cargo_boxAt
  refine sv_Q.s (σ' := (5, [some (.ref 0), some (.int a0)], [.int a0, .ref 5], (W_Cargo hc))) 3 rfl ?_
  refine sv_Q.S (ps := [5]) (rest := []) (st' := [.int (rd 144 (hc 5) a0)]) (cs' := (W_Cargo hc)) (q := (5, .null, 0, 0, 0)) lk_Cargo_44 (t_K_read 144 rfl (hc 5) a0) rfl rfl rfl rfl rfl rfl rfl (su_Cargo_5 hc) rfl rfl (pu_Cargo_5 hc) ?_
  exact sv_Q.z ⟨True, rfl, trivial, rfl⟩
theorem t_Cargo_boxAt {X : Nat × (Nat → Int32)} (hc : Nat → Nat → Int32) (a0 : Int32) : sv_R X 2 M_Cargo_boxAt [.ref 0, .int a0] (W_Cargo hc) (some (.int (F_Cargo_boxAt a0 hc))) (W_Cargo hc) := r_Cargo_boxAt hc a0 _ rfl
def F_Cargo_move (a0 : Int32) (a1 : Int32) (hc : Nat → Nat → Int32) : (Nat → Nat → Int32) := (sv_let (sw hc 5 144 (F_Cargo_placeOf a0 hc) (-1 : Int32)) fun (hc_1 : Nat → Nat → Int32) => (sv_let (sw hc_1 4 25 a0 a1) fun (hc_2 : Nat → Nat → Int32) => (sv_let (sw hc_2 5 144 a1 a0) fun (hc_3 : Nat → Nat → Int32) => hc_3)))
theorem r_Cargo_move {X : Nat × (Nat → Int32)} (hc : Nat → Nat → Int32) (a0 : Int32) (a1 : Int32) : ∀ x, some (F_Cargo_move a0 a1 hc) = some x → sv_R X 3 M_Cargo_move [.ref 0, .int a0, .int a1] (W_Cargo hc) none (W_Cargo x) := by
  refine sv_Q.R (res := (fun (x : (Nat → Nat → Int32)) => ((none : Option Value), (W_Cargo x)))) g_Cargo_move rfl ?_
  unfold F_Cargo_move
  refine sv_Q.s (σ' := (6, [some (.ref 0), some (.int a0), some (.int a1)], [.int a0, .ref 0, .ref 5], (W_Cargo hc))) 4 rfl ?_
  refine sv_Q.V (b := 0) (av := [.int a0]) (ps := [0, 1, 2, 3, 4, 5]) (rest := [.ref 5]) (cs1 := (W_Cargo hc)) (cs2 := (W_Cargo hc)) (st' := [.int (F_Cargo_placeOf a0 hc), .ref 5]) (cs' := (W_Cargo hc)) (q := (6, .null, 0, 0, 0)) lk_Cargo_48 (t_Cargo_placeOf hc a0) rfl rfl rfl rfl rfl (Or.inl ⟨0, _, _, rfl, rfl, rfl⟩) rfl rfl (sc_Cargo_Cargo_0 hc) rfl rfl (pc_Cargo_Cargo_0 hc hc) ?_
  refine sv_Q.s (σ' := (10, [some (.ref 0), some (.int a0), some (.int a1)], [.int (-1 : Int32), .int (F_Cargo_placeOf a0 hc), .ref 5], (W_Cargo hc))) 1 rfl ?_
  refine sv_Q.S (ps := [5]) (rest := []) (st' := []) (cs' := (W_Cargo (sw hc 5 144 (F_Cargo_placeOf a0 hc) (-1 : Int32)))) (q := (10, .null, 0, 0, 0)) lk_Cargo_40 (t_K_write 144 rfl (hc 5) (F_Cargo_placeOf a0 hc) (-1 : Int32)) rfl rfl rfl rfl rfl rfl rfl (su_Cargo_5 hc) rfl rfl (pa_Cargo_5 hc (wr 144 (hc 5) (F_Cargo_placeOf a0 hc) (-1 : Int32))) ?_
  refine sv_Q.gs (fun hc_1 => (13, [some (.ref 0), some (.int a0), some (.int a1)], [], (W_Cargo hc_1))) (fun hc_1 => ?_)
  refine sv_Q.s (σ' := (19, [some (.ref 0), some (.int a0), some (.int a1)], [.int a1, .int a0, .ref 4], (W_Cargo hc_1))) 4 rfl ?_
  refine sv_Q.S (ps := [4]) (rest := []) (st' := []) (cs' := (W_Cargo (sw hc_1 4 25 a0 a1))) (q := (19, .null, 0, 0, 0)) lk_Cargo_40 (t_K_write 25 rfl (hc_1 4) a0 a1) rfl rfl rfl rfl rfl rfl rfl (su_Cargo_4 hc_1) rfl rfl (pa_Cargo_4 hc_1 (wr 25 (hc_1 4) a0 a1)) ?_
  refine sv_Q.gs (fun hc_2 => (22, [some (.ref 0), some (.int a0), some (.int a1)], [], (W_Cargo hc_2))) (fun hc_2 => ?_)
  refine sv_Q.s (σ' := (28, [some (.ref 0), some (.int a0), some (.int a1)], [.int a0, .int a1, .ref 5], (W_Cargo hc_2))) 4 rfl ?_
  refine sv_Q.S (ps := [5]) (rest := []) (st' := []) (cs' := (W_Cargo (sw hc_2 5 144 a1 a0))) (q := (28, .null, 0, 0, 0)) lk_Cargo_40 (t_K_write 144 rfl (hc_2 5) a1 a0) rfl rfl rfl rfl rfl rfl rfl (su_Cargo_5 hc_2) rfl rfl (pa_Cargo_5 hc_2 (wr 144 (hc_2 5) a1 a0)) ?_
  refine sv_Q.gs (fun hc_3 => (31, [some (.ref 0), some (.int a0), some (.int a1)], [], (W_Cargo hc_3))) (fun hc_3 => ?_)
  exact sv_Q.z ⟨True, rfl, trivial, rfl⟩
theorem t_Cargo_move {X : Nat × (Nat → Int32)} (hc : Nat → Nat → Int32) (a0 : Int32) (a1 : Int32) : sv_R X 3 M_Cargo_move [.ref 0, .int a0, .int a1] (W_Cargo hc) none (W_Cargo (F_Cargo_move a0 a1 hc)) := r_Cargo_move hc a0 a1 _ rfl
def L_Cargo_countLying_4 (N : Nat) : Nat → Int32 → Int32 → (Nat → Nat → Int32) → Option (Int32)
  | 0, _, _, _ => none
  | n + 1, x1, x2, hc => (if (hc 0 0) ≤ x2 then (some x1) else (if (F_Cargo_lies x2 hc) = 0 then (L_Cargo_countLying_4 N n x1 (x2 + (1 : Int32)) hc) else (L_Cargo_countLying_4 N n (x1 + (1 : Int32)) (x2 + (1 : Int32)) hc)))
theorem l_Cargo_countLying_4 {X : Nat × (Nat → Int32)} (N : Nat) : ∀ (n : Nat) (x1 : Int32) (x2 : Int32) (hc : Nat → Nat → Int32), sv_Q X 2 M_Cargo_countLying (4, [some (.ref 0), some (.int x1), some (.int x2)], [], (W_Cargo hc)) (L_Cargo_countLying_4 N n x1 x2 hc) (fun v σ' => σ' = (29, [none, some (.int v), none], [], (W_Cargo hc))) := by
  intro n
  induction n with
  | zero => intro x1 x2 hc; unfold L_Cargo_countLying_4; exact sv_Q.non
  | succ n ih =>
    intro x1 x2 hc
    unfold L_Cargo_countLying_4
    refine sv_Q.s (σ' := (9, [some (.ref 0), some (.int x1), some (.int x2)], [.int (hc 0 0), .int x2], (W_Cargo hc))) 3 rfl ?_
    refine sv_Q.b rfl (fun c1 => ?_) (fun c1 => ?_)
    · refine sv_Q.f (lo' := [none, some (.int x1), none]) ⟨rfl, trivial⟩ ?_
      exact sv_Q.z rfl
    · refine sv_Q.s (σ' := (14, [some (.ref 0), some (.int x1), some (.int x2)], [.int x2, .ref 0], (W_Cargo hc))) 2 rfl ?_
      refine sv_Q.V (b := 0) (av := [.int x2]) (ps := [0, 1, 2, 3, 4, 5]) (rest := []) (cs1 := (W_Cargo hc)) (cs2 := (W_Cargo hc)) (st' := [.int (F_Cargo_lies x2 hc)]) (cs' := (W_Cargo hc)) (q := (14, .null, 0, 0, 0)) lk_Cargo_52 (t_Cargo_lies hc x2) rfl rfl rfl rfl rfl (Or.inl ⟨0, _, _, rfl, rfl, rfl⟩) rfl rfl (sc_Cargo_Cargo_0 hc) rfl rfl (pc_Cargo_Cargo_0 hc hc) ?_
      refine sv_Q.b rfl (fun c2 => ?_) (fun c2 => ?_)
      · refine sv_Q.s (σ' := (4, [some (.ref 0), some (.int x1), some (.int (x2 + (1 : Int32)))], [], (W_Cargo hc))) 2 rfl ?_
        exact ih x1 (x2 + (1 : Int32)) hc
      · refine sv_Q.s (σ' := (4, [some (.ref 0), some (.int (x1 + (1 : Int32))), some (.int (x2 + (1 : Int32)))], [], (W_Cargo hc))) 3 rfl ?_
        exact ih (x1 + (1 : Int32)) (x2 + (1 : Int32)) hc
def F_Cargo_countLying (N : Nat) (hc : Nat → Nat → Int32) : Option (Int32) := (Option.bind (L_Cargo_countLying_4 N N (0 : Int32) (0 : Int32) hc) fun (v3 : Int32) => (some v3))
theorem r_Cargo_countLying {X : Nat × (Nat → Int32)} (N : Nat) (hc : Nat → Nat → Int32) : ∀ x, (F_Cargo_countLying N hc) = some x → sv_R X 3 M_Cargo_countLying [.ref 0] (W_Cargo hc) (some (.int x)) (W_Cargo hc) := by
  refine sv_Q.R (res := (fun (x : Int32) => (some (.int x), (W_Cargo hc)))) g_Cargo_countLying rfl ?_
  unfold F_Cargo_countLying
  refine sv_Q.s (σ' := (4, [some (.ref 0), some (.int (0 : Int32)), some (.int (0 : Int32))], [], (W_Cargo hc))) 4 rfl ?_
  refine sv_Q.lo (fun v3 => (29, [none, some (.int v3), none], [], (W_Cargo hc))) (fun v3 => ?_) (l_Cargo_countLying_4 N N (0 : Int32) (0 : Int32) hc)
  · refine sv_Q.s (σ' := (30, [none, some (.int v3), none], [.int v3], (W_Cargo hc))) 1 rfl ?_
    exact sv_Q.z ⟨True, rfl, trivial, rfl⟩
