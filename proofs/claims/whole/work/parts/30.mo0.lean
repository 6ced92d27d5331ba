/-! the reference, 0, by program out of the listing -/
theorem pc_Mo_Mo_0 (gm n0 : Nat → Nat → Int32) : sv_pt [0, 1, 2, 3, 4, 5, 6, 7, 8, 9, 10, 11, 12, 13, 14, 15, 16, 17, 18, 19, 20, 21, 22] ((W_Mo n0).map (sv_r (sv_pi [0, 1, 2, 3, 4, 5, 6, 7, 8, 9, 10, 11, 12, 13, 14, 15, 16, 17, 18, 19, 20, 21, 22]))) 0 (W_Mo gm) = W_Mo n0 := rfl
theorem sc_Mo_Mo_0 (gm : Nat → Nat → Int32) : sv_sub [0, 1, 2, 3, 4, 5, 6, 7, 8, 9, 10, 11, 12, 13, 14, 15, 16, 17, 18, 19, 20, 21, 22] (W_Mo gm) (W_Mo gm) := rfl
def F_Mo_in (a0 : Int64) (a1 : Int64) (a2 : Int64) : Int32 := (if (lg_cmp a0 a1) < 0 then (0 : Int32) else (if 0 < (lg_cmp a0 a2) then (0 : Int32) else (1 : Int32)))
theorem r_Mo_in {X : Nat × (Nat → Int32)} (a0 : Int64) (a1 : Int64) (a2 : Int64) : ∀ x, some (F_Mo_in a0 a1 a2) = some x → sv_R X 1 M_Mo_in [.long a0, .long a1, .long a2] [] (some (.int x)) [] := by
  refine sv_Q.R (res := (fun (x : Int32) => (some (.int x), []))) g_Mo_in rfl ?_
  unfold F_Mo_in
  refine sv_Q.s (σ' := (3, [some (.long a0), none, some (.long a1), none, some (.long a2), none], [.int (lg_cmp a0 a1)], [])) 3 rfl ?_
  refine sv_Q.sb rfl (fun c1 => ?_) (fun c1 => ?_)
  · refine sv_Q.s (σ' := (18, [some (.long a0), none, some (.long a1), none, some (.long a2), none], [.int (0 : Int32)], [])) 1 rfl ?_
    exact sv_Q.z ⟨sv_01 (0 : Int32), rfl, Or.inl rfl, rfl⟩
  · refine sv_Q.s (σ' := (10, [some (.long a0), none, some (.long a1), none, some (.long a2), none], [.int (lg_cmp a0 a2)], [])) 3 rfl ?_
    refine sv_Q.sb rfl (fun c2 => ?_) (fun c2 => ?_)
    · refine sv_Q.s (σ' := (18, [some (.long a0), none, some (.long a1), none, some (.long a2), none], [.int (0 : Int32)], [])) 1 rfl ?_
      exact sv_Q.z ⟨sv_01 (0 : Int32), rfl, Or.inl rfl, rfl⟩
    · refine sv_Q.s (σ' := (18, [some (.long a0), none, some (.long a1), none, some (.long a2), none], [.int (1 : Int32)], [])) 2 rfl ?_
      exact sv_Q.z ⟨sv_01 (1 : Int32), rfl, Or.inr rfl, rfl⟩
theorem t_Mo_in {X : Nat × (Nat → Int32)} (a0 : Int64) (a1 : Int64) (a2 : Int64) : sv_R X 1 M_Mo_in [.long a0, .long a1, .long a2] [] (some (.int (F_Mo_in a0 a1 a2))) [] := r_Mo_in a0 a1 a2 _ rfl
theorem b_Mo_in (a0 : Int64) (a1 : Int64) (a2 : Int64) : sv_01 (F_Mo_in a0 a1 a2) := by
  unfold F_Mo_in
  try simp only [sv_let]
  repeat' split
  all_goals first | exact Or.inl rfl | exact Or.inr rfl
def L_Mo_puts4_3 (N : Nat) : Nat → Int32 → Int32 → (Nat → Nat → Int32) → Option ((Nat → Nat → Int32))
  | 0, _, _, _ => none
  | n + 1, x1, x2, gm => (if x2 < 0 then (some gm) else (if sv_in (gm 0 14) 900 then (sv_let (sa gm 9 (gm 0 14) (vp_nar .byte (((x1 >>> (x2 &&& 31))).toInt8.toInt32))) fun (gm_3 : Nat → Nat → Int32) => (sv_let (ss gm_3 14 ((gm_3 0 14) + (1 : Int32))) fun (gm_4 : Nat → Nat → Int32) => (L_Mo_puts4_3 N n x1 (x2 + (-8 : Int32)) gm_4))) else none))
set_option maxHeartbeats 4000000 in
set_option maxRecDepth 100000 in
theorem l_Mo_puts4_3 {X : Nat × (Nat → Int32)} (N : Nat) : ∀ (n : Nat) (x1 : Int32) (x2 : Int32) (gm : Nat → Nat → Int32), sv_Q X 0 M_Mo_puts4 (3, [some (.ref 0), some (.int x1), some (.int x2)], [], (W_Mo gm)) (L_Mo_puts4_3 N n x1 x2 gm) (fun v σ' => σ' = (36, [none, none, none], [], (W_Mo v))) := by
  intro n
  induction n with
  | zero => intro x1 x2 gm; unfold L_Mo_puts4_3; exact sv_Q.non
  | succ n ih =>
    intro x1 x2 gm
    unfold L_Mo_puts4_3
    refine sv_Q.s (σ' := (4, [some (.ref 0), some (.int x1), some (.int x2)], [.int x2], (W_Mo gm))) 1 rfl ?_
    refine sv_Q.b rfl (fun c1 => ?_) (fun c1 => ?_)
    · refine sv_Q.f (lo' := [none, none, none]) trivial ?_
      exact sv_Q.z rfl
    · refine sv_Q.s (σ' := (19, [some (.ref 0), some (.int x1), some (.int x2)], [.int (((x1 >>> (x2 &&& 31))).toInt8.toInt32), .int (gm 0 14), .ref 9], (W_Mo gm))) 8 rfl ?_
      refine sv_Q.g (σ' := (20, [some (.ref 0), some (.int x1), some (.int x2)], [], (W_Mo (sa gm 9 (gm 0 14) (vp_nar .byte (((x1 >>> (x2 &&& 31))).toInt8.toInt32)))))) (c := sv_in (gm 0 14) 900) rfl (fun c2 => ?_)
      refine sv_Q.go (fun gm_3 => (20, [some (.ref 0), some (.int x1), some (.int x2)], [], (W_Mo gm_3))) (fun gm_3 => ?_)
      refine sv_Q.s (σ' := (30, [some (.ref 0), some (.int x1), some (.int x2)], [], (W_Mo (ss gm_3 14 ((gm_3 0 14) + (1 : Int32)))))) 6 rfl ?_
      refine sv_Q.go (fun gm_4 => (30, [some (.ref 0), some (.int x1), some (.int x2)], [], (W_Mo gm_4))) (fun gm_4 => ?_)
      refine sv_Q.s (σ' := (3, [some (.ref 0), some (.int x1), some (.int (x2 + (-8 : Int32)))], [], (W_Mo gm_4))) 2 rfl ?_
      exact ih x1 (x2 + (-8 : Int32)) gm_4
def F_Mo_puts4 (N : Nat) (a0 : Int32) (gm : Nat → Nat → Int32) : Option ((Nat → Nat → Int32)) := (Option.bind (L_Mo_puts4_3 N N a0 (24 : Int32) gm) fun (v5 : (Nat → Nat → Int32)) => (some v5))
set_option maxHeartbeats 4000000 in
set_option maxRecDepth 100000 in
theorem r_Mo_puts4 {X : Nat × (Nat → Int32)} (N : Nat) (gm : Nat → Nat → Int32) (a0 : Int32) : ∀ x, (F_Mo_puts4 N a0 gm) = some x → sv_R X 1 M_Mo_puts4 [.ref 0, .int a0] (W_Mo gm) none (W_Mo x) := by
  refine sv_Q.R (res := (fun (x : (Nat → Nat → Int32)) => ((none : Option Value), (W_Mo x)))) g_Mo_puts4 rfl ?_
  unfold F_Mo_puts4
  refine sv_Q.s (σ' := (3, [some (.ref 0), some (.int a0), some (.int (24 : Int32))], [], (W_Mo gm))) 2 rfl ?_
  refine sv_Q.lo (fun v5 => (36, [none, none, none], [], (W_Mo v5))) (fun v5 => ?_) (l_Mo_puts4_3 N N a0 (24 : Int32) gm)
  · exact sv_Q.z ⟨True, rfl, trivial, rfl⟩
def F_Mo_feed (N : Nat) (a0 : Int32) (a1 : Int32) (a2 : Int32) (a3 : Int32) (a4 : Int32) (gm : Nat → Nat → Int32) : Option (Int32 × (Nat → Nat → Int32)) := (if ((gm 0 14) + (20 : Int32)) ≤ (900 : Int32) then (Option.bind (F_Mo_puts4 N a0 gm) fun (v2 : (Nat → Nat → Int32)) => (Option.bind (F_Mo_puts4 N a1 v2) fun (v4 : (Nat → Nat → Int32)) => (Option.bind (F_Mo_puts4 N a2 v4) fun (v6 : (Nat → Nat → Int32)) => (Option.bind (F_Mo_puts4 N a3 v6) fun (v8 : (Nat → Nat → Int32)) => (Option.bind (F_Mo_puts4 N a4 v8) fun (v10 : (Nat → Nat → Int32)) => (some ((v10 0 14), v10))))))) else (some ((-1 : Int32), gm)))
set_option maxHeartbeats 4000000 in
set_option maxRecDepth 100000 in
theorem r_Mo_feed {X : Nat × (Nat → Int32)} (N : Nat) (gm : Nat → Nat → Int32) (a0 : Int32) (a1 : Int32) (a2 : Int32) (a3 : Int32) (a4 : Int32) : ∀ x, (F_Mo_feed N a0 a1 a2 a3 a4 gm) = some x → sv_R X 2 M_Mo_feed [.ref 0, .int a0, .int a1, .int a2, .int a3, .int a4] (W_Mo gm) (some (.int x.1)) (W_Mo x.2) := by
  refine sv_Q.R (res := (fun (x : Int32 × (Nat → Nat → Int32)) => (some (.int x.1), (W_Mo x.2)))) g_Mo_feed rfl ?_
  unfold F_Mo_feed
  refine sv_Q.s (σ' := (10, [some (.ref 0), some (.int a0), some (.int a1), some (.int a2), some (.int a3), some (.int a4)], [.int (900 : Int32), .int ((gm 0 14) + (20 : Int32))], (W_Mo gm))) 5 rfl ?_
  refine sv_Q.b rfl (fun c1 => ?_) (fun c1 => ?_)
  · refine sv_Q.s (σ' := (17, [some (.ref 0), some (.int a0), some (.int a1), some (.int a2), some (.int a3), some (.int a4)], [.int a0, .ref 0], (W_Mo gm))) 2 rfl ?_
    refine sv_Q.o (fun v2 e3 => ?_)
    refine sv_Q.V (b := 0) (av := [.int a0]) (ps := [0, 1, 2, 3, 4, 5, 6, 7, 8, 9, 10, 11, 12, 13, 14, 15, 16, 17, 18, 19, 20, 21, 22]) (rest := []) (cs1 := (W_Mo gm)) (cs2 := (W_Mo v2)) (st' := []) (cs' := (W_Mo v2)) (q := (17, .null, 0, 0, 0)) lk_Mo_93 (r_Mo_puts4 N gm a0 v2 e3) rfl rfl rfl rfl rfl (Or.inl ⟨12, _, _, rfl, rfl, rfl⟩) rfl rfl (sc_Mo_Mo_0 gm) rfl rfl (pc_Mo_Mo_0 gm v2) ?_
    refine sv_Q.s (σ' := (22, [some (.ref 0), some (.int a0), some (.int a1), some (.int a2), some (.int a3), some (.int a4)], [.int a1, .ref 0], (W_Mo v2))) 2 rfl ?_
    refine sv_Q.o (fun v4 e5 => ?_)
    refine sv_Q.V (b := 0) (av := [.int a1]) (ps := [0, 1, 2, 3, 4, 5, 6, 7, 8, 9, 10, 11, 12, 13, 14, 15, 16, 17, 18, 19, 20, 21, 22]) (rest := []) (cs1 := (W_Mo v2)) (cs2 := (W_Mo v4)) (st' := []) (cs' := (W_Mo v4)) (q := (22, .null, 0, 0, 0)) lk_Mo_93 (r_Mo_puts4 N v2 a1 v4 e5) rfl rfl rfl rfl rfl (Or.inl ⟨12, _, _, rfl, rfl, rfl⟩) rfl rfl (sc_Mo_Mo_0 v2) rfl rfl (pc_Mo_Mo_0 v2 v4) ?_
    refine sv_Q.s (σ' := (27, [some (.ref 0), some (.int a0), some (.int a1), some (.int a2), some (.int a3), some (.int a4)], [.int a2, .ref 0], (W_Mo v4))) 2 rfl ?_
    refine sv_Q.o (fun v6 e7 => ?_)
    refine sv_Q.V (b := 0) (av := [.int a2]) (ps := [0, 1, 2, 3, 4, 5, 6, 7, 8, 9, 10, 11, 12, 13, 14, 15, 16, 17, 18, 19, 20, 21, 22]) (rest := []) (cs1 := (W_Mo v4)) (cs2 := (W_Mo v6)) (st' := []) (cs' := (W_Mo v6)) (q := (27, .null, 0, 0, 0)) lk_Mo_93 (r_Mo_puts4 N v4 a2 v6 e7) rfl rfl rfl rfl rfl (Or.inl ⟨12, _, _, rfl, rfl, rfl⟩) rfl rfl (sc_Mo_Mo_0 v4) rfl rfl (pc_Mo_Mo_0 v4 v6) ?_
    refine sv_Q.s (σ' := (33, [some (.ref 0), some (.int a0), some (.int a1), some (.int a2), some (.int a3), some (.int a4)], [.int a3, .ref 0], (W_Mo v6))) 2 rfl ?_
    refine sv_Q.o (fun v8 e9 => ?_)
    refine sv_Q.V (b := 0) (av := [.int a3]) (ps := [0, 1, 2, 3, 4, 5, 6, 7, 8, 9, 10, 11, 12, 13, 14, 15, 16, 17, 18, 19, 20, 21, 22]) (rest := []) (cs1 := (W_Mo v6)) (cs2 := (W_Mo v8)) (st' := []) (cs' := (W_Mo v8)) (q := (33, .null, 0, 0, 0)) lk_Mo_93 (r_Mo_puts4 N v6 a3 v8 e9) rfl rfl rfl rfl rfl (Or.inl ⟨12, _, _, rfl, rfl, rfl⟩) rfl rfl (sc_Mo_Mo_0 v6) rfl rfl (pc_Mo_Mo_0 v6 v8) ?_
    refine sv_Q.s (σ' := (39, [some (.ref 0), some (.int a0), some (.int a1), some (.int a2), some (.int a3), some (.int a4)], [.int a4, .ref 0], (W_Mo v8))) 2 rfl ?_
    refine sv_Q.o (fun v10 e11 => ?_)
    refine sv_Q.V (b := 0) (av := [.int a4]) (ps := [0, 1, 2, 3, 4, 5, 6, 7, 8, 9, 10, 11, 12, 13, 14, 15, 16, 17, 18, 19, 20, 21, 22]) (rest := []) (cs1 := (W_Mo v8)) (cs2 := (W_Mo v10)) (st' := []) (cs' := (W_Mo v10)) (q := (39, .null, 0, 0, 0)) lk_Mo_93 (r_Mo_puts4 N v8 a4 v10 e11) rfl rfl rfl rfl rfl (Or.inl ⟨12, _, _, rfl, rfl, rfl⟩) rfl rfl (sc_Mo_Mo_0 v8) rfl rfl (pc_Mo_Mo_0 v8 v10) ?_
    refine sv_Q.s (σ' := (46, [some (.ref 0), some (.int a0), some (.int a1), some (.int a2), some (.int a3), some (.int a4)], [.int (v10 0 14)], (W_Mo v10))) 2 rfl ?_
    exact sv_Q.z ⟨True, rfl, trivial, rfl⟩
  · refine sv_Q.s (σ' := (14, [some (.ref 0), some (.int a0), some (.int a1), some (.int a2), some (.int a3), some (.int a4)], [.int (-1 : Int32)], (W_Mo gm))) 1 rfl ?_
    exact sv_Q.z ⟨True, rfl, trivial, rfl⟩
def F_Mo_end (a0 : Int32) (gm : Nat → Nat → Int32) : Int32 × (Nat → Nat → Int32) := (if ¬ (F_Mo_in ((a0).toInt64) (0 : Int64) (((gm 0 14)).toInt64)) = 0 then (sv_let (ss gm 14 a0) fun (gm_2 : Nat → Nat → Int32) => (a0, gm_2)) else ((-1 : Int32), gm))
set_option maxHeartbeats 4000000 in
set_option maxRecDepth 100000 in
theorem r_Mo_end {X : Nat × (Nat → Int32)} (gm : Nat → Nat → Int32) (a0 : Int32) : ∀ x, some (F_Mo_end a0 gm) = some x → sv_R X 2 M_Mo_end [.ref 0, .int a0] (W_Mo gm) (some (.int x.1)) (W_Mo x.2) := by
  refine sv_Q.R (res := (fun (x : Int32 × (Nat → Nat → Int32)) => (some (.int x.1), (W_Mo x.2)))) g_Mo_end rfl ?_
  unfold F_Mo_end
  refine sv_Q.s (σ' := (8, [some (.ref 0), some (.int a0)], [.long (((gm 0 14)).toInt64), .long (0 : Int64), .long ((a0).toInt64)], (W_Mo gm))) 6 rfl ?_
  refine sv_Q.S (ps := []) (rest := []) (cs1 := []) (cs2 := []) (st' := [.int (F_Mo_in ((a0).toInt64) (0 : Int64) (((gm 0 14)).toInt64))]) (cs' := (W_Mo gm)) (q := (8, .null, 0, 0, 0)) lk_Mo_97 (t_Mo_in ((a0).toInt64) (0 : Int64) (((gm 0 14)).toInt64)) rfl rfl rfl rfl rfl rfl rfl rfl rfl rfl (sv_pt_nil _ _) ?_
  refine sv_Q.sb rfl (fun c1 => ?_) (fun c1 => ?_)
  · refine sv_Q.s (σ' := (21, [some (.ref 0), some (.int a0)], [], (W_Mo (ss gm 14 a0)))) 3 rfl ?_
    refine sv_Q.gs (fun gm_2 => (21, [some (.ref 0), some (.int a0)], [], (W_Mo gm_2))) (fun gm_2 => ?_)
    refine sv_Q.s (σ' := (22, [some (.ref 0), some (.int a0)], [.int a0], (W_Mo gm_2))) 1 rfl ?_
    exact sv_Q.z ⟨True, rfl, trivial, rfl⟩
  · refine sv_Q.s (σ' := (15, [some (.ref 0), some (.int a0)], [.int (-1 : Int32)], (W_Mo gm))) 1 rfl ?_
    exact sv_Q.z ⟨True, rfl, trivial, rfl⟩
theorem t_Mo_end {X : Nat × (Nat → Int32)} (gm : Nat → Nat → Int32) (a0 : Int32) : sv_R X 2 M_Mo_end [.ref 0, .int a0] (W_Mo gm) (some (.int (F_Mo_end a0 gm).1)) (W_Mo (F_Mo_end a0 gm).2) := r_Mo_end gm a0 _ rfl
def F_Mo_good (gm : Nat → Nat → Int32) : Int32 := (if ¬ (gm 0 20) = 0 then (0 : Int32) else (1 : Int32))
set_option maxHeartbeats 4000000 in
set_option maxRecDepth 100000 in
theorem r_Mo_good {X : Nat × (Nat → Int32)} (gm : Nat → Nat → Int32) : ∀ x, some (F_Mo_good gm) = some x → sv_R X 1 M_Mo_good [.ref 0] (W_Mo gm) (some (.int x)) (W_Mo gm) := by
  refine sv_Q.R (res := (fun (x : Int32) => (some (.int x), (W_Mo gm)))) g_Mo_good rfl ?_
  unfold F_Mo_good
  refine sv_Q.s (σ' := (4, [some (.ref 0)], [.int (gm 0 20)], (W_Mo gm))) 2 rfl ?_
  refine sv_Q.sb rfl (fun c1 => ?_) (fun c1 => ?_)
  · refine sv_Q.s (σ' := (12, [some (.ref 0)], [.int (0 : Int32)], (W_Mo gm))) 1 rfl ?_
    exact sv_Q.z ⟨sv_01 (0 : Int32), rfl, Or.inl rfl, rfl⟩
  · refine sv_Q.s (σ' := (12, [some (.ref 0)], [.int (1 : Int32)], (W_Mo gm))) 2 rfl ?_
    exact sv_Q.z ⟨sv_01 (1 : Int32), rfl, Or.inr rfl, rfl⟩
theorem t_Mo_good {X : Nat × (Nat → Int32)} (gm : Nat → Nat → Int32) : sv_R X 1 M_Mo_good [.ref 0] (W_Mo gm) (some (.int (F_Mo_good gm))) (W_Mo gm) := r_Mo_good gm _ rfl
theorem b_Mo_good (gm : Nat → Nat → Int32) : sv_01 (F_Mo_good gm) := by
  unfold F_Mo_good
  try simp only [sv_let]
  repeat' split
  all_goals first | exact Or.inl rfl | exact Or.inr rfl
def F_Mo_errs (a0 : Int32) (a1 : Int32) (gm : Nat → Nat → Int32) : (Nat → Nat → Int32) := (if ¬ (F_Mo_good gm) = 0 then (sv_let (ss gm 20 a0) fun (gm_2 : Nat → Nat → Int32) => (sv_let (ss gm_2 21 a1) fun (gm_3 : Nat → Nat → Int32) => gm_3)) else gm)
set_option maxHeartbeats 4000000 in
set_option maxRecDepth 100000 in
theorem r_Mo_errs {X : Nat × (Nat → Int32)} (gm : Nat → Nat → Int32) (a0 : Int32) (a1 : Int32) : ∀ x, some (F_Mo_errs a0 a1 gm) = some x → sv_R X 2 M_Mo_errs [.ref 0, .int a0, .int a1] (W_Mo gm) none (W_Mo x) := by
  refine sv_Q.R (res := (fun (x : (Nat → Nat → Int32)) => ((none : Option Value), (W_Mo x)))) g_Mo_errs rfl ?_
  unfold F_Mo_errs
  refine sv_Q.s (σ' := (1, [some (.ref 0), some (.int a0), some (.int a1)], [.ref 0], (W_Mo gm))) 1 rfl ?_
  refine sv_Q.V (b := 0) (av := []) (ps := [0, 1, 2, 3, 4, 5, 6, 7, 8, 9, 10, 11, 12, 13, 14, 15, 16, 17, 18, 19, 20, 21, 22]) (rest := []) (cs1 := (W_Mo gm)) (cs2 := (W_Mo gm)) (st' := [.int (F_Mo_good gm)]) (cs' := (W_Mo gm)) (q := (1, .null, 0, 0, 0)) lk_Mo_104 (t_Mo_good gm) rfl rfl rfl rfl rfl (Or.inl ⟨12, _, _, rfl, rfl, rfl⟩) rfl rfl (sc_Mo_Mo_0 gm) rfl rfl (pc_Mo_Mo_0 gm gm) ?_
  refine sv_Q.sb rfl (fun c1 => ?_) (fun c1 => ?_)
  · refine sv_Q.s (σ' := (13, [some (.ref 0), some (.int a0), some (.int a1)], [], (W_Mo (ss gm 20 a0)))) 3 rfl ?_
    refine sv_Q.gs (fun gm_2 => (13, [some (.ref 0), some (.int a0), some (.int a1)], [], (W_Mo gm_2))) (fun gm_2 => ?_)
    refine sv_Q.s (σ' := (18, [some (.ref 0), some (.int a0), some (.int a1)], [], (W_Mo (ss gm_2 21 a1)))) 3 rfl ?_
    refine sv_Q.gs (fun gm_3 => (18, [some (.ref 0), some (.int a0), some (.int a1)], [], (W_Mo gm_3))) (fun gm_3 => ?_)
    exact sv_Q.z ⟨True, rfl, trivial, rfl⟩
  · exact sv_Q.z ⟨True, rfl, trivial, rfl⟩
theorem t_Mo_errs {X : Nat × (Nat → Int32)} (gm : Nat → Nat → Int32) (a0 : Int32) (a1 : Int32) : sv_R X 2 M_Mo_errs [.ref 0, .int a0, .int a1] (W_Mo gm) none (W_Mo (F_Mo_errs a0 a1 gm)) := r_Mo_errs gm a0 a1 _ rfl
def F_Mo_see (N : Nat) (a0 : Int32) (gm : Nat → Nat → Int32) : Option (Int32) := (if (gm 0 15) ≤ a0 then (some (-1 : Int32)) else (if sv_in a0 900 then (some ((gm 9 (a0).toNatClampNeg) &&& (255 : Int32))) else none))
set_option maxHeartbeats 4000000 in
set_option maxRecDepth 100000 in
theorem r_Mo_see {X : Nat × (Nat → Int32)} (N : Nat) (gm : Nat → Nat → Int32) (a0 : Int32) : ∀ x, (F_Mo_see N a0 gm) = some x → sv_R X 1 M_Mo_see [.ref 0, .int a0] (W_Mo gm) (some (.int x)) (W_Mo gm) := by
  refine sv_Q.R (res := (fun (x : Int32) => (some (.int x), (W_Mo gm)))) g_Mo_see rfl ?_
  unfold F_Mo_see
  refine sv_Q.s (σ' := (5, [some (.ref 0), some (.int a0)], [.int (gm 0 15), .int a0], (W_Mo gm))) 3 rfl ?_
  refine sv_Q.b rfl (fun c1 => ?_) (fun c1 => ?_)
  · refine sv_Q.s (σ' := (22, [some (.ref 0), some (.int a0)], [.int (-1 : Int32)], (W_Mo gm))) 1 rfl ?_
    exact sv_Q.z ⟨True, rfl, trivial, rfl⟩
  · refine sv_Q.s (σ' := (13, [some (.ref 0), some (.int a0)], [.int a0, .ref 9], (W_Mo gm))) 3 rfl ?_
    refine sv_Q.g (σ' := (14, [some (.ref 0), some (.int a0)], [.int (gm 9 (a0).toNatClampNeg)], (W_Mo gm))) (c := sv_in a0 900) rfl (fun c2 => ?_)
    refine sv_Q.s (σ' := (22, [some (.ref 0), some (.int a0)], [.int ((gm 9 (a0).toNatClampNeg) &&& (255 : Int32))], (W_Mo gm))) 3 rfl ?_
    exact sv_Q.z ⟨True, rfl, trivial, rfl⟩
def L_Mo_advance_0 (N : Nat) : Nat → (Nat → Nat → Int32) → Option ((Nat → Nat → Int32))
  | 0, _ => none
  | n + 1, gm => (Option.bind (F_Mo_see N (gm 0 16) gm) fun (v1 : Int32) => (if v1 = (32 : Int32) then (sv_let (ss gm 16 ((gm 0 16) + (1 : Int32))) fun (gm_4 : Nat → Nat → Int32) => (L_Mo_advance_0 N n gm_4)) else (Option.bind (F_Mo_see N (gm 0 16) gm) fun (v5 : Int32) => (if ¬ v5 = (10 : Int32) then (some gm) else (sv_let (ss gm 16 ((gm 0 16) + (1 : Int32))) fun (gm_8 : Nat → Nat → Int32) => (L_Mo_advance_0 N n gm_8))))))
set_option maxHeartbeats 4000000 in
set_option maxRecDepth 100000 in
theorem l_Mo_advance_0 {X : Nat × (Nat → Int32)} (N : Nat) : ∀ (n : Nat) (gm : Nat → Nat → Int32), sv_Q X 1 M_Mo_advance (0, [some (.ref 0), none], [], (W_Mo gm)) (L_Mo_advance_0 N n gm) (fun v σ' => σ' = (39, [some (.ref 0), none], [], (W_Mo v))) := by
  intro n
  induction n with
  | zero => intro gm; unfold L_Mo_advance_0; exact sv_Q.non
  | succ n ih =>
    intro gm
    unfold L_Mo_advance_0
    refine sv_Q.s (σ' := (5, [some (.ref 0), none], [.int (gm 0 16), .ref 0], (W_Mo gm))) 3 rfl ?_
    refine sv_Q.o (fun v1 e2 => ?_)
    refine sv_Q.V (b := 0) (av := [.int (gm 0 16)]) (ps := [0, 1, 2, 3, 4, 5, 6, 7, 8, 9, 10, 11, 12, 13, 14, 15, 16, 17, 18, 19, 20, 21, 22]) (rest := []) (cs1 := (W_Mo gm)) (cs2 := (W_Mo gm)) (st' := [.int v1]) (cs' := (W_Mo gm)) (q := (5, .null, 0, 0, 0)) lk_Mo_114 (r_Mo_see N gm (gm 0 16) v1 e2) rfl rfl rfl rfl rfl (Or.inl ⟨12, _, _, rfl, rfl, rfl⟩) rfl rfl (sc_Mo_Mo_0 gm) rfl rfl (pc_Mo_Mo_0 gm gm) ?_
    refine sv_Q.s (σ' := (10, [some (.ref 0), none], [.int (32 : Int32), .int v1], (W_Mo gm))) 1 rfl ?_
    refine sv_Q.b rfl (fun c3 => ?_) (fun c3 => ?_)
    · refine sv_Q.s (σ' := (36, [some (.ref 0), none], [], (W_Mo (ss gm 16 ((gm 0 16) + (1 : Int32)))))) 6 rfl ?_
      refine sv_Q.go (fun gm_4 => (36, [some (.ref 0), none], [], (W_Mo gm_4))) (fun gm_4 => ?_)
      refine sv_Q.s (σ' := (0, [some (.ref 0), none], [], (W_Mo gm_4))) 1 rfl ?_
      exact ih  gm_4
    · refine sv_Q.s (σ' := (18, [some (.ref 0), none], [.int (gm 0 16), .ref 0], (W_Mo gm))) 3 rfl ?_
      refine sv_Q.o (fun v5 e6 => ?_)
      refine sv_Q.V (b := 0) (av := [.int (gm 0 16)]) (ps := [0, 1, 2, 3, 4, 5, 6, 7, 8, 9, 10, 11, 12, 13, 14, 15, 16, 17, 18, 19, 20, 21, 22]) (rest := []) (cs1 := (W_Mo gm)) (cs2 := (W_Mo gm)) (st' := [.int v5]) (cs' := (W_Mo gm)) (q := (18, .null, 0, 0, 0)) lk_Mo_114 (r_Mo_see N gm (gm 0 16) v5 e6) rfl rfl rfl rfl rfl (Or.inl ⟨12, _, _, rfl, rfl, rfl⟩) rfl rfl (sc_Mo_Mo_0 gm) rfl rfl (pc_Mo_Mo_0 gm gm) ?_
      refine sv_Q.s (σ' := (23, [some (.ref 0), none], [.int (10 : Int32), .int v5], (W_Mo gm))) 1 rfl ?_
      refine sv_Q.b rfl (fun c7 => ?_) (fun c7 => ?_)
      · exact sv_Q.z rfl
      · refine sv_Q.s (σ' := (36, [some (.ref 0), none], [], (W_Mo (ss gm 16 ((gm 0 16) + (1 : Int32)))))) 6 rfl ?_
        refine sv_Q.go (fun gm_8 => (36, [some (.ref 0), none], [], (W_Mo gm_8))) (fun gm_8 => ?_)
        refine sv_Q.s (σ' := (0, [some (.ref 0), none], [], (W_Mo gm_8))) 1 rfl ?_
        exact ih  gm_8
def L_Mo_advance_144 (N : Nat) : Nat → (Nat → Nat → Int32) → Option ((Nat → Nat → Int32))
  | 0, _ => none
  | n + 1, gm => (Option.bind (F_Mo_see N (gm 0 16) gm) fun (v20 : Int32) => (if (F_Mo_in ((v20).toInt64) (48 : Int64) (57 : Int64)) = 0 then (some gm) else (Option.bind (F_Mo_see N (gm 0 16) gm) fun (v23 : Int32) => (sv_let (ss gm 19 (if ((((10 : Int32) * (gm 0 19)) + v23) - (48 : Int32)) < (999999 : Int32) then ((((10 : Int32) * (gm 0 19)) + v23) - (48 : Int32)) else (999999 : Int32))) fun (gm_25 : Nat → Nat → Int32) => (sv_let (ss gm_25 16 ((gm_25 0 16) + (1 : Int32))) fun (gm_26 : Nat → Nat → Int32) => (L_Mo_advance_144 N n gm_26))))))
set_option maxHeartbeats 4000000 in
set_option maxRecDepth 100000 in
theorem l_Mo_advance_144 {X : Nat × (Nat → Int32)} (N : Nat) : ∀ (n : Nat) (gm : Nat → Nat → Int32), sv_Q X 1 M_Mo_advance (144, [some (.ref 0), none], [], (W_Mo gm)) (L_Mo_advance_144 N n gm) (fun v σ' => σ' = (206, [some (.ref 0), none], [], (W_Mo v))) := by
  intro n
  induction n with
  | zero => intro gm; unfold L_Mo_advance_144; exact sv_Q.non
  | succ n ih =>
    intro gm
    unfold L_Mo_advance_144
    refine sv_Q.s (σ' := (149, [some (.ref 0), none], [.int (gm 0 16), .ref 0], (W_Mo gm))) 3 rfl ?_
    refine sv_Q.o (fun v20 e21 => ?_)
    refine sv_Q.V (b := 0) (av := [.int (gm 0 16)]) (ps := [0, 1, 2, 3, 4, 5, 6, 7, 8, 9, 10, 11, 12, 13, 14, 15, 16, 17, 18, 19, 20, 21, 22]) (rest := []) (cs1 := (W_Mo gm)) (cs2 := (W_Mo gm)) (st' := [.int v20]) (cs' := (W_Mo gm)) (q := (149, .null, 0, 0, 0)) lk_Mo_114 (r_Mo_see N gm (gm 0 16) v20 e21) rfl rfl rfl rfl rfl (Or.inl ⟨12, _, _, rfl, rfl, rfl⟩) rfl rfl (sc_Mo_Mo_0 gm) rfl rfl (pc_Mo_Mo_0 gm gm) ?_
    refine sv_Q.s (σ' := (159, [some (.ref 0), none], [.long (57 : Int64), .long (48 : Int64), .long ((v20).toInt64)], (W_Mo gm))) 3 rfl ?_
    refine sv_Q.S (ps := []) (rest := []) (cs1 := []) (cs2 := []) (st' := [.int (F_Mo_in ((v20).toInt64) (48 : Int64) (57 : Int64))]) (cs' := (W_Mo gm)) (q := (159, .null, 0, 0, 0)) lk_Mo_97 (t_Mo_in ((v20).toInt64) (48 : Int64) (57 : Int64)) rfl rfl rfl rfl rfl rfl rfl rfl rfl rfl (sv_pt_nil _ _) ?_
    refine sv_Q.b rfl (fun c22 => ?_) (fun c22 => ?_)
    · exact sv_Q.z rfl
    · refine sv_Q.s (σ' := (180, [some (.ref 0), none], [.int (gm 0 16), .ref 0, .int ((10 : Int32) * (gm 0 19)), .int (999999 : Int32), .ref 0], (W_Mo gm))) 9 rfl ?_
      refine sv_Q.o (fun v23 e24 => ?_)
      refine sv_Q.V (b := 0) (av := [.int (gm 0 16)]) (ps := [0, 1, 2, 3, 4, 5, 6, 7, 8, 9, 10, 11, 12, 13, 14, 15, 16, 17, 18, 19, 20, 21, 22]) (rest := [.int ((10 : Int32) * (gm 0 19)), .int (999999 : Int32), .ref 0]) (cs1 := (W_Mo gm)) (cs2 := (W_Mo gm)) (st' := [.int v23, .int ((10 : Int32) * (gm 0 19)), .int (999999 : Int32), .ref 0]) (cs' := (W_Mo gm)) (q := (180, .null, 0, 0, 0)) lk_Mo_114 (r_Mo_see N gm (gm 0 16) v23 e24) rfl rfl rfl rfl rfl (Or.inl ⟨12, _, _, rfl, rfl, rfl⟩) rfl rfl (sc_Mo_Mo_0 gm) rfl rfl (pc_Mo_Mo_0 gm gm) ?_
      refine sv_Q.s (σ' := (193, [some (.ref 0), none], [], (W_Mo (ss gm 19 (if ((((10 : Int32) * (gm 0 19)) + v23) - (48 : Int32)) < (999999 : Int32) then ((((10 : Int32) * (gm 0 19)) + v23) - (48 : Int32)) else (999999 : Int32)))))) 5 rfl ?_
      refine sv_Q.go (fun gm_25 => (193, [some (.ref 0), none], [], (W_Mo gm_25))) (fun gm_25 => ?_)
      refine sv_Q.s (σ' := (203, [some (.ref 0), none], [], (W_Mo (ss gm_25 16 ((gm_25 0 16) + (1 : Int32)))))) 6 rfl ?_
      refine sv_Q.go (fun gm_26 => (203, [some (.ref 0), none], [], (W_Mo gm_26))) (fun gm_26 => ?_)
      refine sv_Q.s (σ' := (144, [some (.ref 0), none], [], (W_Mo gm_26))) 1 rfl ?_
      exact ih  gm_26
def L_Mo_advance_83 (N : Nat) : Nat → (Nat → Nat → Int32) → Option ((Nat → Nat → Int32))
  | 0, _ => none
  | n + 1, gm => (Option.bind (F_Mo_see N (gm 0 16) gm) fun (v29 : Int32) => (if (F_Mo_in ((v29).toInt64) (97 : Int64) (122 : Int64)) = 0 then (some gm) else (sv_let (ss gm 16 ((gm 0 16) + (1 : Int32))) fun (gm_32 : Nat → Nat → Int32) => (L_Mo_advance_83 N n gm_32))))
set_option maxHeartbeats 4000000 in
set_option maxRecDepth 100000 in
theorem l_Mo_advance_83 {X : Nat × (Nat → Int32)} (N : Nat) : ∀ (n : Nat) (gm : Nat → Nat → Int32), sv_Q X 1 M_Mo_advance (83, [some (.ref 0), none], [], (W_Mo gm)) (L_Mo_advance_83 N n gm) (fun v σ' => σ' = (117, [some (.ref 0), none], [], (W_Mo v))) := by
  intro n
  induction n with
  | zero => intro gm; unfold L_Mo_advance_83; exact sv_Q.non
  | succ n ih =>
    intro gm
    unfold L_Mo_advance_83
    refine sv_Q.s (σ' := (88, [some (.ref 0), none], [.int (gm 0 16), .ref 0], (W_Mo gm))) 3 rfl ?_
    refine sv_Q.o (fun v29 e30 => ?_)
    refine sv_Q.V (b := 0) (av := [.int (gm 0 16)]) (ps := [0, 1, 2, 3, 4, 5, 6, 7, 8, 9, 10, 11, 12, 13, 14, 15, 16, 17, 18, 19, 20, 21, 22]) (rest := []) (cs1 := (W_Mo gm)) (cs2 := (W_Mo gm)) (st' := [.int v29]) (cs' := (W_Mo gm)) (q := (88, .null, 0, 0, 0)) lk_Mo_114 (r_Mo_see N gm (gm 0 16) v29 e30) rfl rfl rfl rfl rfl (Or.inl ⟨12, _, _, rfl, rfl, rfl⟩) rfl rfl (sc_Mo_Mo_0 gm) rfl rfl (pc_Mo_Mo_0 gm gm) ?_
    refine sv_Q.s (σ' := (98, [some (.ref 0), none], [.long (122 : Int64), .long (97 : Int64), .long ((v29).toInt64)], (W_Mo gm))) 3 rfl ?_
    refine sv_Q.S (ps := []) (rest := []) (cs1 := []) (cs2 := []) (st' := [.int (F_Mo_in ((v29).toInt64) (97 : Int64) (122 : Int64))]) (cs' := (W_Mo gm)) (q := (98, .null, 0, 0, 0)) lk_Mo_97 (t_Mo_in ((v29).toInt64) (97 : Int64) (122 : Int64)) rfl rfl rfl rfl rfl rfl rfl rfl rfl rfl (sv_pt_nil _ _) ?_
    refine sv_Q.b rfl (fun c31 => ?_) (fun c31 => ?_)
    · exact sv_Q.z rfl
    · refine sv_Q.s (σ' := (114, [some (.ref 0), none], [], (W_Mo (ss gm 16 ((gm 0 16) + (1 : Int32)))))) 6 rfl ?_
      refine sv_Q.go (fun gm_32 => (114, [some (.ref 0), none], [], (W_Mo gm_32))) (fun gm_32 => ?_)
      refine sv_Q.s (σ' := (83, [some (.ref 0), none], [], (W_Mo gm_32))) 1 rfl ?_
      exact ih  gm_32
def F_Mo_advance (N : Nat) (gm : Nat → Nat → Int32) : Option ((Nat → Nat → Int32)) := (Option.bind (L_Mo_advance_0 N N gm) fun (v9 : (Nat → Nat → Int32)) => (sv_let (ss v9 17 (v9 0 16)) fun (gm_10 : Nat → Nat → Int32) => (Option.bind (F_Mo_see N (gm_10 0 16) gm_10) fun (v11 : Int32) => (if ¬ v11 = (-1 : Int32) then (if (F_Mo_in ((v11).toInt64) (97 : Int64) (122 : Int64)) = 0 then (if (F_Mo_in ((v11).toInt64) (48 : Int64) (57 : Int64)) = 0 then (sv_let (ss gm_10 18 (3 : Int32)) fun (gm_16 : Nat → Nat → Int32) => (sv_let (ss gm_16 19 v11) fun (gm_17 : Nat → Nat → Int32) => (sv_let (ss gm_17 16 ((gm_17 0 16) + (1 : Int32))) fun (gm_18 : Nat → Nat → Int32) => (some gm_18)))) else (sv_let (ss gm_10 19 (0 : Int32)) fun (gm_19 : Nat → Nat → Int32) => (Option.bind (L_Mo_advance_144 N N gm_19) fun (v27 : (Nat → Nat → Int32)) => (sv_let (ss v27 18 (2 : Int32)) fun (gm_28 : Nat → Nat → Int32) => (some gm_28))))) else (Option.bind (L_Mo_advance_83 N N gm_10) fun (v33 : (Nat → Nat → Int32)) => (sv_let (ss v33 18 (1 : Int32)) fun (gm_34 : Nat → Nat → Int32) => (some gm_34)))) else (sv_let (ss gm_10 18 (0 : Int32)) fun (gm_35 : Nat → Nat → Int32) => (some gm_35))))))
set_option maxHeartbeats 4000000 in
set_option maxRecDepth 100000 in
theorem r_Mo_advance {X : Nat × (Nat → Int32)} (N : Nat) (gm : Nat → Nat → Int32) : ∀ x, (F_Mo_advance N gm) = some x → sv_R X 2 M_Mo_advance [.ref 0] (W_Mo gm) none (W_Mo x) := by
  refine sv_Q.R (res := (fun (x : (Nat → Nat → Int32)) => ((none : Option Value), (W_Mo x)))) g_Mo_advance rfl ?_
  unfold F_Mo_advance
  refine sv_Q.lo (fun v9 => (39, [some (.ref 0), none], [], (W_Mo v9))) (fun v9 => ?_) (l_Mo_advance_0 N N gm)
  · refine sv_Q.s (σ' := (47, [some (.ref 0), none], [], (W_Mo (ss v9 17 (v9 0 16))))) 4 rfl ?_
    refine sv_Q.go (fun gm_10 => (47, [some (.ref 0), none], [], (W_Mo gm_10))) (fun gm_10 => ?_)
    refine sv_Q.s (σ' := (52, [some (.ref 0), none], [.int (gm_10 0 16), .ref 0], (W_Mo gm_10))) 3 rfl ?_
    refine sv_Q.o (fun v11 e12 => ?_)
    refine sv_Q.V (b := 0) (av := [.int (gm_10 0 16)]) (ps := [0, 1, 2, 3, 4, 5, 6, 7, 8, 9, 10, 11, 12, 13, 14, 15, 16, 17, 18, 19, 20, 21, 22]) (rest := []) (cs1 := (W_Mo gm_10)) (cs2 := (W_Mo gm_10)) (st' := [.int v11]) (cs' := (W_Mo gm_10)) (q := (52, .null, 0, 0, 0)) lk_Mo_114 (r_Mo_see N gm_10 (gm_10 0 16) v11 e12) rfl rfl rfl rfl rfl (Or.inl ⟨12, _, _, rfl, rfl, rfl⟩) rfl rfl (sc_Mo_Mo_0 gm_10) rfl rfl (pc_Mo_Mo_0 gm_10 gm_10) ?_
    refine sv_Q.s (σ' := (58, [some (.ref 0), some (.int v11)], [.int (-1 : Int32), .int v11], (W_Mo gm_10))) 3 rfl ?_
    refine sv_Q.b rfl (fun c13 => ?_) (fun c13 => ?_)
    · refine sv_Q.s (σ' := (77, [some (.ref 0), some (.int v11)], [.long (122 : Int64), .long (97 : Int64), .long ((v11).toInt64)], (W_Mo gm_10))) 4 rfl ?_
      refine sv_Q.S (ps := []) (rest := []) (cs1 := []) (cs2 := []) (st' := [.int (F_Mo_in ((v11).toInt64) (97 : Int64) (122 : Int64))]) (cs' := (W_Mo gm_10)) (q := (77, .null, 0, 0, 0)) lk_Mo_97 (t_Mo_in ((v11).toInt64) (97 : Int64) (122 : Int64)) rfl rfl rfl rfl rfl rfl rfl rfl rfl rfl (sv_pt_nil _ _) ?_
      refine sv_Q.b rfl (fun c14 => ?_) (fun c14 => ?_)
      · refine sv_Q.s (σ' := (133, [some (.ref 0), some (.int v11)], [.long (57 : Int64), .long (48 : Int64), .long ((v11).toInt64)], (W_Mo gm_10))) 4 rfl ?_
        refine sv_Q.S (ps := []) (rest := []) (cs1 := []) (cs2 := []) (st' := [.int (F_Mo_in ((v11).toInt64) (48 : Int64) (57 : Int64))]) (cs' := (W_Mo gm_10)) (q := (133, .null, 0, 0, 0)) lk_Mo_97 (t_Mo_in ((v11).toInt64) (48 : Int64) (57 : Int64)) rfl rfl rfl rfl rfl rfl rfl rfl rfl rfl (sv_pt_nil _ _) ?_
        refine sv_Q.b rfl (fun c15 => ?_) (fun c15 => ?_)
        · refine sv_Q.s (σ' := (219, [some (.ref 0), some (.int v11)], [], (W_Mo (ss gm_10 18 (3 : Int32))))) 3 rfl ?_
          refine sv_Q.go (fun gm_16 => (219, [some (.ref 0), some (.int v11)], [], (W_Mo gm_16))) (fun gm_16 => ?_)
          refine sv_Q.s (σ' := (224, [some (.ref 0), some (.int v11)], [], (W_Mo (ss gm_16 19 v11)))) 3 rfl ?_
          refine sv_Q.go (fun gm_17 => (224, [some (.ref 0), some (.int v11)], [], (W_Mo gm_17))) (fun gm_17 => ?_)
          refine sv_Q.s (σ' := (234, [some (.ref 0), some (.int v11)], [], (W_Mo (ss gm_17 16 ((gm_17 0 16) + (1 : Int32)))))) 6 rfl ?_
          refine sv_Q.go (fun gm_18 => (234, [some (.ref 0), some (.int v11)], [], (W_Mo gm_18))) (fun gm_18 => ?_)
          exact sv_Q.z ⟨True, rfl, trivial, rfl⟩
        · refine sv_Q.s (σ' := (144, [some (.ref 0), some (.int v11)], [], (W_Mo (ss gm_10 19 (0 : Int32))))) 3 rfl ?_
          refine sv_Q.go (fun gm_19 => (144, [some (.ref 0), some (.int v11)], [], (W_Mo gm_19))) (fun gm_19 => ?_)
          refine sv_Q.f (lo' := [some (.ref 0), none]) ⟨rfl, trivial⟩ ?_
          refine sv_Q.lo (fun v27 => (206, [some (.ref 0), none], [], (W_Mo v27))) (fun v27 => ?_) (l_Mo_advance_144 N N gm_19)
          · refine sv_Q.s (σ' := (211, [some (.ref 0), none], [], (W_Mo (ss v27 18 (2 : Int32))))) 3 rfl ?_
            refine sv_Q.go (fun gm_28 => (211, [some (.ref 0), none], [], (W_Mo gm_28))) (fun gm_28 => ?_)
            refine sv_Q.s (σ' := (234, [some (.ref 0), none], [], (W_Mo gm_28))) 1 rfl ?_
            exact sv_Q.z ⟨True, rfl, trivial, rfl⟩
      · refine sv_Q.f (lo' := [some (.ref 0), none]) ⟨rfl, trivial⟩ ?_
        refine sv_Q.lo (fun v33 => (117, [some (.ref 0), none], [], (W_Mo v33))) (fun v33 => ?_) (l_Mo_advance_83 N N gm_10)
        · refine sv_Q.s (σ' := (122, [some (.ref 0), none], [], (W_Mo (ss v33 18 (1 : Int32))))) 3 rfl ?_
          refine sv_Q.go (fun gm_34 => (122, [some (.ref 0), none], [], (W_Mo gm_34))) (fun gm_34 => ?_)
          refine sv_Q.s (σ' := (234, [some (.ref 0), none], [], (W_Mo gm_34))) 1 rfl ?_
          exact sv_Q.z ⟨True, rfl, trivial, rfl⟩
    · refine sv_Q.s (σ' := (66, [some (.ref 0), some (.int v11)], [], (W_Mo (ss gm_10 18 (0 : Int32))))) 3 rfl ?_
      refine sv_Q.go (fun gm_35 => (66, [some (.ref 0), some (.int v11)], [], (W_Mo gm_35))) (fun gm_35 => ?_)
      refine sv_Q.s (σ' := (234, [some (.ref 0), some (.int v11)], [], (W_Mo gm_35))) 1 rfl ?_
      exact sv_Q.z ⟨True, rfl, trivial, rfl⟩
def L_Mo_isWord_39 (N : Nat) : Nat → Nat → Int32 → Int32 → (Nat → Nat → Int32) → Option (Int32)
  | 0, _, _, _, _ => none
  | n + 1, x1, x2, x3, gm => (if x1 < 19 then (if (nI (sv_len x1)) ≤ x3 then (some x2) else (if x2 = 0 then (some x2) else (if sv_in ((gm 0 17) + x3) 900 then (if x1 < 19 ∧ sv_in x3 (sv_len x1) then (if ¬ (gm 9 (((gm 0 17) + x3)).toNatClampNeg) = (sv_chr x1 (x3).toNatClampNeg) then (L_Mo_isWord_39 N n x1 (0 : Int32) (x3 + (1 : Int32)) gm) else (L_Mo_isWord_39 N n x1 (1 : Int32) (x3 + (1 : Int32)) gm)) else none) else none))) else none)
set_option maxHeartbeats 4000000 in
set_option maxRecDepth 100000 in
theorem l_Mo_isWord_39 {X : Nat × (Nat → Int32)} (N : Nat) : ∀ (n : Nat) (x1 : Nat) (x2 : Int32) (x3 : Int32) (gm : Nat → Nat → Int32), sv_Q X 6 M_Mo_isWord (39, [some (.ref 0), some (.ref (x1 + 1000)), some (.int x2), some (.int x3)], [], (W_Mo gm)) (L_Mo_isWord_39 N n x1 x2 x3 gm) (fun v σ' => σ' = (82, [none, none, some (.int v), none], [], (W_Mo gm))) := by
  intro n
  induction n with
  | zero => intro x1 x2 x3 gm; unfold L_Mo_isWord_39; exact sv_Q.non
  | succ n ih =>
    intro x1 x2 x3 gm
    unfold L_Mo_isWord_39
    refine sv_Q.s (σ' := (41, [some (.ref 0), some (.ref (x1 + 1000)), some (.int x2), some (.int x3)], [.ref (x1 + 1000), .int x3], (W_Mo gm))) 2 rfl ?_
    refine sv_Q.ite (fun c6 => ?_) (fun c6 => sv_Q.non)
    refine sv_Q.V (b := x1 + 1000) (av := []) (ps := []) (rest := [.int x3]) (cs1 := []) (cs2 := []) (st' := [.int (nI (sv_len x1)), .int x3]) (cs' := (W_Mo gm)) (q := (41, .null, 0, 0, 0)) lk_Mo_142 (t_J_length x1 c6) rfl rfl rfl rfl rfl (Or.inr ⟨x1, c6, Nat.add_comm _ _, rfl⟩) rfl rfl rfl rfl rfl (sv_pt_nil _ _) ?_
    refine sv_Q.b rfl (fun c7 => ?_) (fun c7 => ?_)
    · refine sv_Q.f (lo' := [none, none, some (.int x2), none]) ⟨rfl, trivial⟩ ?_
      exact sv_Q.z rfl
    · refine sv_Q.s (σ' := (48, [some (.ref 0), some (.ref (x1 + 1000)), some (.int x2), some (.int x3)], [.int x2], (W_Mo gm))) 1 rfl ?_
      refine sv_Q.b rfl (fun c8 => ?_) (fun c8 => ?_)
      · refine sv_Q.f (lo' := [none, none, some (.int x2), none]) ⟨rfl, trivial⟩ ?_
        exact sv_Q.z rfl
      · refine sv_Q.s (σ' := (61, [some (.ref 0), some (.ref (x1 + 1000)), some (.int x2), some (.int x3)], [.int ((gm 0 17) + x3), .ref 9], (W_Mo gm))) 6 rfl ?_
        refine sv_Q.g (σ' := (62, [some (.ref 0), some (.ref (x1 + 1000)), some (.int x2), some (.int x3)], [.int (gm 9 (((gm 0 17) + x3)).toNatClampNeg)], (W_Mo gm))) (c := sv_in ((gm 0 17) + x3) 900) rfl (fun c9 => ?_)
        refine sv_Q.s (σ' := (64, [some (.ref 0), some (.ref (x1 + 1000)), some (.int x2), some (.int x3)], [.int x3, .ref (x1 + 1000), .int (gm 9 (((gm 0 17) + x3)).toNatClampNeg)], (W_Mo gm))) 2 rfl ?_
        refine sv_Q.ite (fun c10 => ?_) (fun c10 => sv_Q.non)
        refine sv_Q.V (b := x1 + 1000) (av := [.int x3]) (ps := []) (rest := [.int (gm 9 (((gm 0 17) + x3)).toNatClampNeg)]) (cs1 := []) (cs2 := []) (st' := [.int (sv_chr x1 (x3).toNatClampNeg), .int (gm 9 (((gm 0 17) + x3)).toNatClampNeg)]) (cs' := (W_Mo gm)) (q := (64, .null, 0, 0, 0)) lk_Mo_148 (t_J_charAt x1 x3 c10.1 c10.2) rfl rfl rfl rfl rfl (Or.inr ⟨x1, c10.1, Nat.add_comm _ _, rfl⟩) rfl rfl rfl rfl rfl (sv_pt_nil _ _) ?_
        refine sv_Q.b rfl (fun c11 => ?_) (fun c11 => ?_)
        · refine sv_Q.s (σ' := (39, [some (.ref 0), some (.ref (x1 + 1000)), some (.int (0 : Int32)), some (.int (x3 + (1 : Int32)))], [], (W_Mo gm))) 4 rfl ?_
          exact ih x1 (0 : Int32) (x3 + (1 : Int32)) gm
        · refine sv_Q.s (σ' := (39, [some (.ref 0), some (.ref (x1 + 1000)), some (.int (1 : Int32)), some (.int (x3 + (1 : Int32)))], [], (W_Mo gm))) 5 rfl ?_
          exact ih x1 (1 : Int32) (x3 + (1 : Int32)) gm
def F_Mo_isWord (N : Nat) (a0 : Nat) (gm : Nat → Nat → Int32) : Option (Int32) := (Option.bind (if (F_Mo_good gm) = 0 then some (0 : Int32) else (if ¬ (gm 0 18) = (1 : Int32) then some (0 : Int32) else (if a0 < 19 then (if ¬ ((gm 0 16) - (gm 0 17)) = (nI (sv_len a0)) then some (0 : Int32) else some (1 : Int32)) else none))) fun (v5 : Int32) => (Option.bind (L_Mo_isWord_39 N N a0 v5 (0 : Int32) gm) fun (v12 : Int32) => (if v12 = 0 ∨ v12 = 1 then some v12 else none)))
set_option maxHeartbeats 4000000 in
set_option maxRecDepth 100000 in
theorem r_Mo_isWord {X : Nat × (Nat → Int32)} (N : Nat) (gm : Nat → Nat → Int32) (a0 : Nat) : ∀ x, (F_Mo_isWord N a0 gm) = some x → sv_R X 7 M_Mo_isWord [.ref 0, .ref (a0 + 1000)] (W_Mo gm) (some (.int x)) (W_Mo gm) := by
  refine sv_Q.R (res := (fun (x : Int32) => (some (.int x), (W_Mo gm)))) g_Mo_isWord rfl ?_
  unfold F_Mo_isWord
  refine sv_Q.s (σ' := (1, [some (.ref 0), some (.ref (a0 + 1000)), none, none], [.ref 0], (W_Mo gm))) 1 rfl ?_
  refine sv_Q.V (b := 0) (av := []) (ps := [0, 1, 2, 3, 4, 5, 6, 7, 8, 9, 10, 11, 12, 13, 14, 15, 16, 17, 18, 19, 20, 21, 22]) (rest := []) (cs1 := (W_Mo gm)) (cs2 := (W_Mo gm)) (st' := [.int (F_Mo_good gm)]) (cs' := (W_Mo gm)) (q := (1, .null, 0, 0, 0)) lk_Mo_104 (t_Mo_good gm) rfl rfl rfl rfl rfl (Or.inl ⟨12, _, _, rfl, rfl, rfl⟩) rfl rfl (sc_Mo_Mo_0 gm) rfl rfl (pc_Mo_Mo_0 gm gm) ?_
  refine sv_Q.lo (fun v5 => (36, [some (.ref 0), some (.ref (a0 + 1000)), none, none], [.int v5], (W_Mo gm))) (fun v5 => ?_) ?_
  · refine sv_Q.s (σ' := (39, [some (.ref 0), some (.ref (a0 + 1000)), some (.int v5), some (.int (0 : Int32))], [], (W_Mo gm))) 3 rfl ?_
    refine sv_Q.lo (fun v12 => (82, [none, none, some (.int v12), none], [], (W_Mo gm))) (fun v12 => ?_) (l_Mo_isWord_39 N N a0 v5 (0 : Int32) gm)
    · refine sv_Q.s (σ' := (83, [none, none, some (.int v12), none], [.int v12], (W_Mo gm))) 1 rfl ?_
      refine sv_Q.ite (fun c13 => ?_) (fun c13 => sv_Q.non)
      exact sv_Q.z ⟨sv_01 v12, rfl, c13, rfl⟩
  · refine sv_Q.b rfl (fun c1 => ?_) (fun c1 => ?_)
    · refine sv_Q.s (σ' := (36, [some (.ref 0), some (.ref (a0 + 1000)), none, none], [.int (0 : Int32)], (W_Mo gm))) 1 rfl ?_
      exact sv_Q.z rfl
    · refine sv_Q.s (σ' := (12, [some (.ref 0), some (.ref (a0 + 1000)), none, none], [.int (1 : Int32), .int (gm 0 18)], (W_Mo gm))) 3 rfl ?_
      refine sv_Q.b rfl (fun c2 => ?_) (fun c2 => ?_)
      · refine sv_Q.s (σ' := (36, [some (.ref 0), some (.ref (a0 + 1000)), none, none], [.int (0 : Int32)], (W_Mo gm))) 1 rfl ?_
        exact sv_Q.z rfl
      · refine sv_Q.s (σ' := (25, [some (.ref 0), some (.ref (a0 + 1000)), none, none], [.ref (a0 + 1000), .int ((gm 0 16) - (gm 0 17))], (W_Mo gm))) 6 rfl ?_
        refine sv_Q.ite (fun c3 => ?_) (fun c3 => sv_Q.non)
        refine sv_Q.V (b := a0 + 1000) (av := []) (ps := []) (rest := [.int ((gm 0 16) - (gm 0 17))]) (cs1 := []) (cs2 := []) (st' := [.int (nI (sv_len a0)), .int ((gm 0 16) - (gm 0 17))]) (cs' := (W_Mo gm)) (q := (25, .null, 0, 0, 0)) lk_Mo_142 (t_J_length a0 c3) rfl rfl rfl rfl rfl (Or.inr ⟨a0, c3, Nat.add_comm _ _, rfl⟩) rfl rfl rfl rfl rfl (sv_pt_nil _ _) ?_
        refine sv_Q.b rfl (fun c4 => ?_) (fun c4 => ?_)
        · refine sv_Q.s (σ' := (36, [some (.ref 0), some (.ref (a0 + 1000)), none, none], [.int (0 : Int32)], (W_Mo gm))) 1 rfl ?_
          exact sv_Q.z rfl
        · refine sv_Q.s (σ' := (36, [some (.ref 0), some (.ref (a0 + 1000)), none, none], [.int (1 : Int32)], (W_Mo gm))) 2 rfl ?_
          exact sv_Q.z rfl
def F_Mo_eats (N : Nat) (a0 : Nat) (gm : Nat → Nat → Int32) : Option (Int32 × (Nat → Nat → Int32)) := (Option.bind (F_Mo_isWord N a0 gm) fun (v1 : Int32) => (if ¬ v1 = 0 then (Option.bind (F_Mo_advance N gm) fun (v4 : (Nat → Nat → Int32)) => (some ((1 : Int32), v4))) else (some ((0 : Int32), gm))))
set_option maxHeartbeats 4000000 in
set_option maxRecDepth 100000 in
theorem r_Mo_eats {X : Nat × (Nat → Int32)} (N : Nat) (gm : Nat → Nat → Int32) (a0 : Nat) : ∀ x, (F_Mo_eats N a0 gm) = some x → sv_R X 8 M_Mo_eats [.ref 0, .ref (a0 + 1000)] (W_Mo gm) (some (.int x.1)) (W_Mo x.2) := by
  refine sv_Q.R (res := (fun (x : Int32 × (Nat → Nat → Int32)) => (some (.int x.1), (W_Mo x.2)))) g_Mo_eats rfl ?_
  unfold F_Mo_eats
  refine sv_Q.s (σ' := (2, [some (.ref 0), some (.ref (a0 + 1000))], [.ref (a0 + 1000), .ref 0], (W_Mo gm))) 2 rfl ?_
  refine sv_Q.o (fun v1 e2 => ?_)
  refine sv_Q.V (b := 0) (av := [.ref (a0 + 1000)]) (ps := [0, 1, 2, 3, 4, 5, 6, 7, 8, 9, 10, 11, 12, 13, 14, 15, 16, 17, 18, 19, 20, 21, 22]) (rest := []) (cs1 := (W_Mo gm)) (cs2 := (W_Mo gm)) (st' := [.int v1]) (cs' := (W_Mo gm)) (q := (2, .null, 0, 0, 0)) lk_Mo_152 (r_Mo_isWord N gm a0 v1 e2) rfl rfl rfl rfl rfl (Or.inl ⟨12, _, _, rfl, rfl, rfl⟩) rfl rfl (sc_Mo_Mo_0 gm) rfl rfl (pc_Mo_Mo_0 gm gm) ?_
  refine sv_Q.b rfl (fun c3 => ?_) (fun c3 => ?_)
  · refine sv_Q.s (σ' := (11, [some (.ref 0), some (.ref (a0 + 1000))], [.ref 0], (W_Mo gm))) 1 rfl ?_
    refine sv_Q.o (fun v4 e5 => ?_)
    refine sv_Q.V (b := 0) (av := []) (ps := [0, 1, 2, 3, 4, 5, 6, 7, 8, 9, 10, 11, 12, 13, 14, 15, 16, 17, 18, 19, 20, 21, 22]) (rest := []) (cs1 := (W_Mo gm)) (cs2 := (W_Mo v4)) (st' := []) (cs' := (W_Mo v4)) (q := (11, .null, 0, 0, 0)) lk_Mo_156 (r_Mo_advance N gm v4 e5) rfl rfl rfl rfl rfl (Or.inl ⟨12, _, _, rfl, rfl, rfl⟩) rfl rfl (sc_Mo_Mo_0 gm) rfl rfl (pc_Mo_Mo_0 gm v4) ?_
    refine sv_Q.s (σ' := (15, [some (.ref 0), some (.ref (a0 + 1000))], [.int (1 : Int32)], (W_Mo v4))) 1 rfl ?_
    exact sv_Q.z ⟨sv_01 (1 : Int32), rfl, Or.inr rfl, rfl⟩
  · refine sv_Q.s (σ' := (9, [some (.ref 0), some (.ref (a0 + 1000))], [.int (0 : Int32)], (W_Mo gm))) 1 rfl ?_
    exact sv_Q.z ⟨sv_01 (0 : Int32), rfl, Or.inl rfl, rfl⟩
def F_Mo_passes (N : Nat) (a0 : Nat) (gm : Nat → Nat → Int32) : Option ((Nat → Nat → Int32)) := (Option.bind (F_Mo_eats N a0 gm) fun (v1 : Int32 × (Nat → Nat → Int32)) => (if ¬ v1.1 = 0 then (some v1.2) else (sv_let (F_Mo_errs (1 : Int32) (v1.2 0 17) v1.2) fun (gm_4 : Nat → Nat → Int32) => (some gm_4))))
set_option maxHeartbeats 4000000 in
set_option maxRecDepth 100000 in
theorem r_Mo_passes {X : Nat × (Nat → Int32)} (N : Nat) (gm : Nat → Nat → Int32) (a0 : Nat) : ∀ x, (F_Mo_passes N a0 gm) = some x → sv_R X 9 M_Mo_passes [.ref 0, .ref (a0 + 1000)] (W_Mo gm) none (W_Mo x) := by
  refine sv_Q.R (res := (fun (x : (Nat → Nat → Int32)) => ((none : Option Value), (W_Mo x)))) g_Mo_passes rfl ?_
  unfold F_Mo_passes
  refine sv_Q.s (σ' := (2, [some (.ref 0), some (.ref (a0 + 1000))], [.ref (a0 + 1000), .ref 0], (W_Mo gm))) 2 rfl ?_
  refine sv_Q.o (fun v1 e2 => ?_)
  refine sv_Q.V (b := 0) (av := [.ref (a0 + 1000)]) (ps := [0, 1, 2, 3, 4, 5, 6, 7, 8, 9, 10, 11, 12, 13, 14, 15, 16, 17, 18, 19, 20, 21, 22]) (rest := []) (cs1 := (W_Mo gm)) (cs2 := (W_Mo v1.2)) (st' := [.int v1.1]) (cs' := (W_Mo v1.2)) (q := (2, .null, 0, 0, 0)) lk_Mo_159 (r_Mo_eats N gm a0 v1 e2) rfl rfl rfl rfl rfl (Or.inl ⟨12, _, _, rfl, rfl, rfl⟩) rfl rfl (sc_Mo_Mo_0 gm) rfl rfl (pc_Mo_Mo_0 gm v1.2) ?_
  refine sv_Q.b rfl (fun c3 => ?_) (fun c3 => ?_)
  · exact sv_Q.z ⟨True, rfl, trivial, rfl⟩
  · refine sv_Q.s (σ' := (14, [some (.ref 0), some (.ref (a0 + 1000))], [.int (v1.2 0 17), .int (1 : Int32), .ref 0], (W_Mo v1.2))) 4 rfl ?_
    refine sv_Q.V (b := 0) (av := [.int (1 : Int32), .int (v1.2 0 17)]) (ps := [0, 1, 2, 3, 4, 5, 6, 7, 8, 9, 10, 11, 12, 13, 14, 15, 16, 17, 18, 19, 20, 21, 22]) (rest := []) (cs1 := (W_Mo v1.2)) (cs2 := (W_Mo (F_Mo_errs (1 : Int32) (v1.2 0 17) v1.2))) (st' := []) (cs' := (W_Mo (F_Mo_errs (1 : Int32) (v1.2 0 17) v1.2))) (q := (14, .null, 0, 0, 0)) lk_Mo_162 (t_Mo_errs v1.2 (1 : Int32) (v1.2 0 17)) rfl rfl rfl rfl rfl (Or.inl ⟨12, _, _, rfl, rfl, rfl⟩) rfl rfl (sc_Mo_Mo_0 v1.2) rfl rfl (pc_Mo_Mo_0 v1.2 (F_Mo_errs (1 : Int32) (v1.2 0 17) v1.2)) ?_
    refine sv_Q.go (fun gm_4 => (17, [some (.ref 0), some (.ref (a0 + 1000))], [], (W_Mo gm_4))) (fun gm_4 => ?_)
    exact sv_Q.z ⟨True, rfl, trivial, rfl⟩
def F_Mo_numberHere (a0 : Int32) (a1 : Int32) (gm : Nat → Nat → Int32) : Int32 × (Nat → Nat → Int32) := (sv_let (if (F_Mo_good gm) = 0 then gm else (if (gm 0 18) = (2 : Int32) then gm else (sv_let (F_Mo_errs (1 : Int32) (gm 0 17) gm) fun (gm_3 : Nat → Nat → Int32) => gm_3))) fun (v4 : (Nat → Nat → Int32)) => (if (F_Mo_good v4) = 0 then ((v4 0 19), v4) else (if ¬ (F_Mo_in (((v4 0 19)).toInt64) ((a0).toInt64) ((a1).toInt64)) = 0 then ((v4 0 19), v4) else (sv_let (F_Mo_errs (2 : Int32) (v4 0 17) v4) fun (gm_7 : Nat → Nat → Int32) => ((gm_7 0 19), gm_7)))))
set_option maxHeartbeats 4000000 in
set_option maxRecDepth 100000 in
theorem r_Mo_numberHere {X : Nat × (Nat → Int32)} (gm : Nat → Nat → Int32) (a0 : Int32) (a1 : Int32) : ∀ x, some (F_Mo_numberHere a0 a1 gm) = some x → sv_R X 3 M_Mo_numberHere [.ref 0, .int a0, .int a1] (W_Mo gm) (some (.int x.1)) (W_Mo x.2) := by
  refine sv_Q.R (res := (fun (x : Int32 × (Nat → Nat → Int32)) => (some (.int x.1), (W_Mo x.2)))) g_Mo_numberHere rfl ?_
  unfold F_Mo_numberHere
  refine sv_Q.s (σ' := (1, [some (.ref 0), some (.int a0), some (.int a1)], [.ref 0], (W_Mo gm))) 1 rfl ?_
  refine sv_Q.V (b := 0) (av := []) (ps := [0, 1, 2, 3, 4, 5, 6, 7, 8, 9, 10, 11, 12, 13, 14, 15, 16, 17, 18, 19, 20, 21, 22]) (rest := []) (cs1 := (W_Mo gm)) (cs2 := (W_Mo gm)) (st' := [.int (F_Mo_good gm)]) (cs' := (W_Mo gm)) (q := (1, .null, 0, 0, 0)) lk_Mo_104 (t_Mo_good gm) rfl rfl rfl rfl rfl (Or.inl ⟨12, _, _, rfl, rfl, rfl⟩) rfl rfl (sc_Mo_Mo_0 gm) rfl rfl (pc_Mo_Mo_0 gm gm) ?_
  refine sv_Q.sl (fun v4 => (24, [some (.ref 0), some (.int a0), some (.int a1)], [], (W_Mo v4))) (fun v4 => ?_) ?_
  · refine sv_Q.s (σ' := (25, [some (.ref 0), some (.int a0), some (.int a1)], [.ref 0], (W_Mo v4))) 1 rfl ?_
    refine sv_Q.V (b := 0) (av := []) (ps := [0, 1, 2, 3, 4, 5, 6, 7, 8, 9, 10, 11, 12, 13, 14, 15, 16, 17, 18, 19, 20, 21, 22]) (rest := []) (cs1 := (W_Mo v4)) (cs2 := (W_Mo v4)) (st' := [.int (F_Mo_good v4)]) (cs' := (W_Mo v4)) (q := (25, .null, 0, 0, 0)) lk_Mo_104 (t_Mo_good v4) rfl rfl rfl rfl rfl (Or.inl ⟨12, _, _, rfl, rfl, rfl⟩) rfl rfl (sc_Mo_Mo_0 v4) rfl rfl (pc_Mo_Mo_0 v4 v4) ?_
    refine sv_Q.sb rfl (fun c5 => ?_) (fun c5 => ?_)
    · refine sv_Q.s (σ' := (59, [some (.ref 0), some (.int a0), some (.int a1)], [.int (v4 0 19)], (W_Mo v4))) 2 rfl ?_
      exact sv_Q.z ⟨True, rfl, trivial, rfl⟩
    · refine sv_Q.s (σ' := (40, [some (.ref 0), some (.int a0), some (.int a1)], [.long ((a1).toInt64), .long ((a0).toInt64), .long (((v4 0 19)).toInt64)], (W_Mo v4))) 7 rfl ?_
      refine sv_Q.S (ps := []) (rest := []) (cs1 := []) (cs2 := []) (st' := [.int (F_Mo_in (((v4 0 19)).toInt64) ((a0).toInt64) ((a1).toInt64))]) (cs' := (W_Mo v4)) (q := (40, .null, 0, 0, 0)) lk_Mo_97 (t_Mo_in (((v4 0 19)).toInt64) ((a0).toInt64) ((a1).toInt64)) rfl rfl rfl rfl rfl rfl rfl rfl rfl rfl (sv_pt_nil _ _) ?_
      refine sv_Q.sb rfl (fun c6 => ?_) (fun c6 => ?_)
      · refine sv_Q.s (σ' := (59, [some (.ref 0), some (.int a0), some (.int a1)], [.int (v4 0 19)], (W_Mo v4))) 2 rfl ?_
        exact sv_Q.z ⟨True, rfl, trivial, rfl⟩
      · refine sv_Q.s (σ' := (52, [some (.ref 0), some (.int a0), some (.int a1)], [.int (v4 0 17), .int (2 : Int32), .ref 0], (W_Mo v4))) 4 rfl ?_
        refine sv_Q.V (b := 0) (av := [.int (2 : Int32), .int (v4 0 17)]) (ps := [0, 1, 2, 3, 4, 5, 6, 7, 8, 9, 10, 11, 12, 13, 14, 15, 16, 17, 18, 19, 20, 21, 22]) (rest := []) (cs1 := (W_Mo v4)) (cs2 := (W_Mo (F_Mo_errs (2 : Int32) (v4 0 17) v4))) (st' := []) (cs' := (W_Mo (F_Mo_errs (2 : Int32) (v4 0 17) v4))) (q := (52, .null, 0, 0, 0)) lk_Mo_162 (t_Mo_errs v4 (2 : Int32) (v4 0 17)) rfl rfl rfl rfl rfl (Or.inl ⟨12, _, _, rfl, rfl, rfl⟩) rfl rfl (sc_Mo_Mo_0 v4) rfl rfl (pc_Mo_Mo_0 v4 (F_Mo_errs (2 : Int32) (v4 0 17) v4)) ?_
        refine sv_Q.gs (fun gm_7 => (55, [some (.ref 0), some (.int a0), some (.int a1)], [], (W_Mo gm_7))) (fun gm_7 => ?_)
        refine sv_Q.s (σ' := (59, [some (.ref 0), some (.int a0), some (.int a1)], [.int (gm_7 0 19)], (W_Mo gm_7))) 2 rfl ?_
        exact sv_Q.z ⟨True, rfl, trivial, rfl⟩
  · refine sv_Q.sb rfl (fun c1 => ?_) (fun c1 => ?_)
    · exact sv_Q.z rfl
    · refine sv_Q.s (σ' := (12, [some (.ref 0), some (.int a0), some (.int a1)], [.int (2 : Int32), .int (gm 0 18)], (W_Mo gm))) 3 rfl ?_
      refine sv_Q.sb rfl (fun c2 => ?_) (fun c2 => ?_)
      · exact sv_Q.z rfl
      · refine sv_Q.s (σ' := (21, [some (.ref 0), some (.int a0), some (.int a1)], [.int (gm 0 17), .int (1 : Int32), .ref 0], (W_Mo gm))) 4 rfl ?_
        refine sv_Q.V (b := 0) (av := [.int (1 : Int32), .int (gm 0 17)]) (ps := [0, 1, 2, 3, 4, 5, 6, 7, 8, 9, 10, 11, 12, 13, 14, 15, 16, 17, 18, 19, 20, 21, 22]) (rest := []) (cs1 := (W_Mo gm)) (cs2 := (W_Mo (F_Mo_errs (1 : Int32) (gm 0 17) gm))) (st' := []) (cs' := (W_Mo (F_Mo_errs (1 : Int32) (gm 0 17) gm))) (q := (21, .null, 0, 0, 0)) lk_Mo_162 (t_Mo_errs gm (1 : Int32) (gm 0 17)) rfl rfl rfl rfl rfl (Or.inl ⟨12, _, _, rfl, rfl, rfl⟩) rfl rfl (sc_Mo_Mo_0 gm) rfl rfl (pc_Mo_Mo_0 gm (F_Mo_errs (1 : Int32) (gm 0 17) gm)) ?_
        refine sv_Q.gs (fun gm_3 => (24, [some (.ref 0), some (.int a0), some (.int a1)], [], (W_Mo gm_3))) (fun gm_3 => ?_)
        exact sv_Q.z rfl
theorem t_Mo_numberHere {X : Nat × (Nat → Int32)} (gm : Nat → Nat → Int32) (a0 : Int32) (a1 : Int32) : sv_R X 3 M_Mo_numberHere [.ref 0, .int a0, .int a1] (W_Mo gm) (some (.int (F_Mo_numberHere a0 a1 gm).1)) (W_Mo (F_Mo_numberHere a0 a1 gm).2) := r_Mo_numberHere gm a0 a1 _ rfl
def F_Mo_number (N : Nat) (a0 : Int32) (a1 : Int32) (gm : Nat → Nat → Int32) : Option (Int32 × (Nat → Nat → Int32)) := (sv_let (F_Mo_numberHere a0 a1 gm) fun (v1 : Int32 × (Nat → Nat → Int32)) => (if (F_Mo_good v1.2) = 0 then (some (v1.1, v1.2)) else (Option.bind (F_Mo_advance N v1.2) fun (v4 : (Nat → Nat → Int32)) => (some (v1.1, v4)))))
set_option maxHeartbeats 4000000 in
set_option maxRecDepth 100000 in
theorem r_Mo_number {X : Nat × (Nat → Int32)} (N : Nat) (gm : Nat → Nat → Int32) (a0 : Int32) (a1 : Int32) : ∀ x, (F_Mo_number N a0 a1 gm) = some x → sv_R X 4 M_Mo_number [.ref 0, .int a0, .int a1] (W_Mo gm) (some (.int x.1)) (W_Mo x.2) := by
  refine sv_Q.R (res := (fun (x : Int32 × (Nat → Nat → Int32)) => (some (.int x.1), (W_Mo x.2)))) g_Mo_number rfl ?_
  unfold F_Mo_number
  refine sv_Q.s (σ' := (3, [some (.ref 0), some (.int a0), some (.int a1), none], [.int a1, .int a0, .ref 0], (W_Mo gm))) 3 rfl ?_
  refine sv_Q.lt (fun v1 e2 => ?_)
  refine sv_Q.V (b := 0) (av := [.int a0, .int a1]) (ps := [0, 1, 2, 3, 4, 5, 6, 7, 8, 9, 10, 11, 12, 13, 14, 15, 16, 17, 18, 19, 20, 21, 22]) (rest := []) (cs1 := (W_Mo gm)) (cs2 := (W_Mo v1.2)) (st' := [.int v1.1]) (cs' := (W_Mo v1.2)) (q := (3, .null, 0, 0, 0)) lk_Mo_166 (r_Mo_numberHere gm a0 a1 v1 e2) rfl rfl rfl rfl rfl (Or.inl ⟨12, _, _, rfl, rfl, rfl⟩) rfl rfl (sc_Mo_Mo_0 gm) rfl rfl (pc_Mo_Mo_0 gm v1.2) ?_
  refine sv_Q.s (σ' := (8, [some (.ref 0), some (.int a0), some (.int a1), some (.int v1.1)], [.ref 0], (W_Mo v1.2))) 2 rfl ?_
  refine sv_Q.V (b := 0) (av := []) (ps := [0, 1, 2, 3, 4, 5, 6, 7, 8, 9, 10, 11, 12, 13, 14, 15, 16, 17, 18, 19, 20, 21, 22]) (rest := []) (cs1 := (W_Mo v1.2)) (cs2 := (W_Mo v1.2)) (st' := [.int (F_Mo_good v1.2)]) (cs' := (W_Mo v1.2)) (q := (8, .null, 0, 0, 0)) lk_Mo_104 (t_Mo_good v1.2) rfl rfl rfl rfl rfl (Or.inl ⟨12, _, _, rfl, rfl, rfl⟩) rfl rfl (sc_Mo_Mo_0 v1.2) rfl rfl (pc_Mo_Mo_0 v1.2 v1.2) ?_
  refine sv_Q.b rfl (fun c3 => ?_) (fun c3 => ?_)
  · refine sv_Q.s (σ' := (19, [some (.ref 0), some (.int a0), some (.int a1), some (.int v1.1)], [.int v1.1], (W_Mo v1.2))) 1 rfl ?_
    exact sv_Q.z ⟨True, rfl, trivial, rfl⟩
  · refine sv_Q.s (σ' := (15, [some (.ref 0), some (.int a0), some (.int a1), some (.int v1.1)], [.ref 0], (W_Mo v1.2))) 1 rfl ?_
    refine sv_Q.o (fun v4 e5 => ?_)
    refine sv_Q.V (b := 0) (av := []) (ps := [0, 1, 2, 3, 4, 5, 6, 7, 8, 9, 10, 11, 12, 13, 14, 15, 16, 17, 18, 19, 20, 21, 22]) (rest := []) (cs1 := (W_Mo v1.2)) (cs2 := (W_Mo v4)) (st' := []) (cs' := (W_Mo v4)) (q := (15, .null, 0, 0, 0)) lk_Mo_156 (r_Mo_advance N v1.2 v4 e5) rfl rfl rfl rfl rfl (Or.inl ⟨12, _, _, rfl, rfl, rfl⟩) rfl rfl (sc_Mo_Mo_0 v1.2) rfl rfl (pc_Mo_Mo_0 v1.2 v4) ?_
    refine sv_Q.s (σ' := (19, [some (.ref 0), some (.int a0), some (.int a1), some (.int v1.1)], [.int v1.1], (W_Mo v4))) 1 rfl ?_
    exact sv_Q.z ⟨True, rfl, trivial, rfl⟩
def F_Mo_readShip (N : Nat) (gm : Nat → Nat → Int32) : Option ((Nat → Nat → Int32)) := (Option.bind (F_Mo_passes N 0 gm) fun (v1 : (Nat → Nat → Int32)) => (Option.bind (F_Mo_passes N 1 v1) fun (v3 : (Nat → Nat → Int32)) => (Option.bind (F_Mo_number N (1 : Int32) (6 : Int32) v3) fun (v5 : Int32 × (Nat → Nat → Int32)) => (if sv_in (0 : Int32) 90 then (sv_let (sa v5.2 2 (0 : Int32) v5.1) fun (gm_8 : Nat → Nat → Int32) => (Option.bind (F_Mo_passes N 2 gm_8) fun (v9 : (Nat → Nat → Int32)) => (Option.bind (F_Mo_number N (1 : Int32) (4 : Int32) v9) fun (v11 : Int32 × (Nat → Nat → Int32)) => (if sv_in (1 : Int32) 90 then (sv_let (sa v11.2 2 (1 : Int32) v11.1) fun (gm_14 : Nat → Nat → Int32) => (Option.bind (F_Mo_passes N 3 gm_14) fun (v15 : (Nat → Nat → Int32)) => (Option.bind (F_Mo_number N (0 : Int32) (3 : Int32) v15) fun (v17 : Int32 × (Nat → Nat → Int32)) => (if sv_in (2 : Int32) 90 then (sv_let (sa v17.2 2 (2 : Int32) v17.1) fun (gm_20 : Nat → Nat → Int32) => (Option.bind (F_Mo_passes N 4 gm_20) fun (v21 : (Nat → Nat → Int32)) => (if sv_in (2 : Int32) 90 then (sv_let (if ¬ (v21 2 ((2 : Int32)).toNatClampNeg) = 0 then (0 : Int32) else (1 : Int32)) fun (v25 : Int32) => (Option.bind (F_Mo_number N v25 (3 : Int32) v21) fun (v26 : Int32 × (Nat → Nat → Int32)) => (if sv_in (3 : Int32) 90 then (sv_let (sa v26.2 2 (3 : Int32) v26.1) fun (gm_29 : Nat → Nat → Int32) => (some gm_29)) else none))) else none))) else none)))) else none)))) else none))))
set_option maxHeartbeats 4000000 in
set_option maxRecDepth 100000 in
theorem r_Mo_readShip {X : Nat × (Nat → Int32)} (N : Nat) (gm : Nat → Nat → Int32) : ∀ x, (F_Mo_readShip N gm) = some x → sv_R X 10 M_Mo_readShip [.ref 0] (W_Mo gm) none (W_Mo x) := by
  refine sv_Q.R (res := (fun (x : (Nat → Nat → Int32)) => ((none : Option Value), (W_Mo x)))) g_Mo_readShip rfl ?_
  unfold F_Mo_readShip
  refine sv_Q.s (σ' := (3, [some (.ref 0)], [.ref 1000, .ref 0], (W_Mo gm))) 2 rfl ?_
  refine sv_Q.o (fun v1 e2 => ?_)
  refine sv_Q.V (b := 0) (av := [.ref 1000]) (ps := [0, 1, 2, 3, 4, 5, 6, 7, 8, 9, 10, 11, 12, 13, 14, 15, 16, 17, 18, 19, 20, 21, 22]) (rest := []) (cs1 := (W_Mo gm)) (cs2 := (W_Mo v1)) (st' := []) (cs' := (W_Mo v1)) (q := (3, .null, 0, 0, 0)) lk_Mo_170 (r_Mo_passes N gm 0 v1 e2) rfl rfl rfl rfl rfl (Or.inl ⟨12, _, _, rfl, rfl, rfl⟩) rfl rfl (sc_Mo_Mo_0 gm) rfl rfl (pc_Mo_Mo_0 gm v1) ?_
  refine sv_Q.s (σ' := (9, [some (.ref 0)], [.ref 1001, .ref 0], (W_Mo v1))) 2 rfl ?_
  refine sv_Q.o (fun v3 e4 => ?_)
  refine sv_Q.V (b := 0) (av := [.ref 1001]) (ps := [0, 1, 2, 3, 4, 5, 6, 7, 8, 9, 10, 11, 12, 13, 14, 15, 16, 17, 18, 19, 20, 21, 22]) (rest := []) (cs1 := (W_Mo v1)) (cs2 := (W_Mo v3)) (st' := []) (cs' := (W_Mo v3)) (q := (9, .null, 0, 0, 0)) lk_Mo_170 (r_Mo_passes N v1 1 v3 e4) rfl rfl rfl rfl rfl (Or.inl ⟨12, _, _, rfl, rfl, rfl⟩) rfl rfl (sc_Mo_Mo_0 v1) rfl rfl (pc_Mo_Mo_0 v1 v3) ?_
  refine sv_Q.s (σ' := (21, [some (.ref 0)], [.int (6 : Int32), .int (1 : Int32), .ref 0, .int (0 : Int32), .ref 2], (W_Mo v3))) 6 rfl ?_
  refine sv_Q.o (fun v5 e6 => ?_)
  refine sv_Q.V (b := 0) (av := [.int (1 : Int32), .int (6 : Int32)]) (ps := [0, 1, 2, 3, 4, 5, 6, 7, 8, 9, 10, 11, 12, 13, 14, 15, 16, 17, 18, 19, 20, 21, 22]) (rest := [.int (0 : Int32), .ref 2]) (cs1 := (W_Mo v3)) (cs2 := (W_Mo v5.2)) (st' := [.int v5.1, .int (0 : Int32), .ref 2]) (cs' := (W_Mo v5.2)) (q := (21, .null, 0, 0, 0)) lk_Mo_176 (r_Mo_number N v3 (1 : Int32) (6 : Int32) v5 e6) rfl rfl rfl rfl rfl (Or.inl ⟨12, _, _, rfl, rfl, rfl⟩) rfl rfl (sc_Mo_Mo_0 v3) rfl rfl (pc_Mo_Mo_0 v3 v5.2) ?_
  refine sv_Q.g (σ' := (25, [some (.ref 0)], [], (W_Mo (sa v5.2 2 (0 : Int32) v5.1)))) (c := sv_in (0 : Int32) 90) rfl (fun c7 => ?_)
  refine sv_Q.go (fun gm_8 => (25, [some (.ref 0)], [], (W_Mo gm_8))) (fun gm_8 => ?_)
  refine sv_Q.s (σ' := (28, [some (.ref 0)], [.ref 1002, .ref 0], (W_Mo gm_8))) 2 rfl ?_
  refine sv_Q.o (fun v9 e10 => ?_)
  refine sv_Q.V (b := 0) (av := [.ref 1002]) (ps := [0, 1, 2, 3, 4, 5, 6, 7, 8, 9, 10, 11, 12, 13, 14, 15, 16, 17, 18, 19, 20, 21, 22]) (rest := []) (cs1 := (W_Mo gm_8)) (cs2 := (W_Mo v9)) (st' := []) (cs' := (W_Mo v9)) (q := (28, .null, 0, 0, 0)) lk_Mo_170 (r_Mo_passes N gm_8 2 v9 e10) rfl rfl rfl rfl rfl (Or.inl ⟨12, _, _, rfl, rfl, rfl⟩) rfl rfl (sc_Mo_Mo_0 gm_8) rfl rfl (pc_Mo_Mo_0 gm_8 v9) ?_
  refine sv_Q.s (σ' := (39, [some (.ref 0)], [.int (4 : Int32), .int (1 : Int32), .ref 0, .int (1 : Int32), .ref 2], (W_Mo v9))) 6 rfl ?_
  refine sv_Q.o (fun v11 e12 => ?_)
  refine sv_Q.V (b := 0) (av := [.int (1 : Int32), .int (4 : Int32)]) (ps := [0, 1, 2, 3, 4, 5, 6, 7, 8, 9, 10, 11, 12, 13, 14, 15, 16, 17, 18, 19, 20, 21, 22]) (rest := [.int (1 : Int32), .ref 2]) (cs1 := (W_Mo v9)) (cs2 := (W_Mo v11.2)) (st' := [.int v11.1, .int (1 : Int32), .ref 2]) (cs' := (W_Mo v11.2)) (q := (39, .null, 0, 0, 0)) lk_Mo_176 (r_Mo_number N v9 (1 : Int32) (4 : Int32) v11 e12) rfl rfl rfl rfl rfl (Or.inl ⟨12, _, _, rfl, rfl, rfl⟩) rfl rfl (sc_Mo_Mo_0 v9) rfl rfl (pc_Mo_Mo_0 v9 v11.2) ?_
  refine sv_Q.g (σ' := (43, [some (.ref 0)], [], (W_Mo (sa v11.2 2 (1 : Int32) v11.1)))) (c := sv_in (1 : Int32) 90) rfl (fun c13 => ?_)
  refine sv_Q.go (fun gm_14 => (43, [some (.ref 0)], [], (W_Mo gm_14))) (fun gm_14 => ?_)
  refine sv_Q.s (σ' := (46, [some (.ref 0)], [.ref 1003, .ref 0], (W_Mo gm_14))) 2 rfl ?_
  refine sv_Q.o (fun v15 e16 => ?_)
  refine sv_Q.V (b := 0) (av := [.ref 1003]) (ps := [0, 1, 2, 3, 4, 5, 6, 7, 8, 9, 10, 11, 12, 13, 14, 15, 16, 17, 18, 19, 20, 21, 22]) (rest := []) (cs1 := (W_Mo gm_14)) (cs2 := (W_Mo v15)) (st' := []) (cs' := (W_Mo v15)) (q := (46, .null, 0, 0, 0)) lk_Mo_170 (r_Mo_passes N gm_14 3 v15 e16) rfl rfl rfl rfl rfl (Or.inl ⟨12, _, _, rfl, rfl, rfl⟩) rfl rfl (sc_Mo_Mo_0 gm_14) rfl rfl (pc_Mo_Mo_0 gm_14 v15) ?_
  refine sv_Q.s (σ' := (57, [some (.ref 0)], [.int (3 : Int32), .int (0 : Int32), .ref 0, .int (2 : Int32), .ref 2], (W_Mo v15))) 6 rfl ?_
  refine sv_Q.o (fun v17 e18 => ?_)
  refine sv_Q.V (b := 0) (av := [.int (0 : Int32), .int (3 : Int32)]) (ps := [0, 1, 2, 3, 4, 5, 6, 7, 8, 9, 10, 11, 12, 13, 14, 15, 16, 17, 18, 19, 20, 21, 22]) (rest := [.int (2 : Int32), .ref 2]) (cs1 := (W_Mo v15)) (cs2 := (W_Mo v17.2)) (st' := [.int v17.1, .int (2 : Int32), .ref 2]) (cs' := (W_Mo v17.2)) (q := (57, .null, 0, 0, 0)) lk_Mo_176 (r_Mo_number N v15 (0 : Int32) (3 : Int32) v17 e18) rfl rfl rfl rfl rfl (Or.inl ⟨12, _, _, rfl, rfl, rfl⟩) rfl rfl (sc_Mo_Mo_0 v15) rfl rfl (pc_Mo_Mo_0 v15 v17.2) ?_
  refine sv_Q.g (σ' := (61, [some (.ref 0)], [], (W_Mo (sa v17.2 2 (2 : Int32) v17.1)))) (c := sv_in (2 : Int32) 90) rfl (fun c19 => ?_)
  refine sv_Q.go (fun gm_20 => (61, [some (.ref 0)], [], (W_Mo gm_20))) (fun gm_20 => ?_)
  refine sv_Q.s (σ' := (64, [some (.ref 0)], [.ref 1004, .ref 0], (W_Mo gm_20))) 2 rfl ?_
  refine sv_Q.o (fun v21 e22 => ?_)
  refine sv_Q.V (b := 0) (av := [.ref 1004]) (ps := [0, 1, 2, 3, 4, 5, 6, 7, 8, 9, 10, 11, 12, 13, 14, 15, 16, 17, 18, 19, 20, 21, 22]) (rest := []) (cs1 := (W_Mo gm_20)) (cs2 := (W_Mo v21)) (st' := []) (cs' := (W_Mo v21)) (q := (64, .null, 0, 0, 0)) lk_Mo_170 (r_Mo_passes N gm_20 4 v21 e22) rfl rfl rfl rfl rfl (Or.inl ⟨12, _, _, rfl, rfl, rfl⟩) rfl rfl (sc_Mo_Mo_0 gm_20) rfl rfl (pc_Mo_Mo_0 gm_20 v21) ?_
  refine sv_Q.s (σ' := (78, [some (.ref 0)], [.int (2 : Int32), .ref 2, .ref 0, .int (3 : Int32), .ref 2], (W_Mo v21))) 7 rfl ?_
  refine sv_Q.g (σ' := (79, [some (.ref 0)], [.int (v21 2 ((2 : Int32)).toNatClampNeg), .ref 0, .int (3 : Int32), .ref 2], (W_Mo v21))) (c := sv_in (2 : Int32) 90) rfl (fun c23 => ?_)
  refine sv_Q.l (fun v25 => (87, [none], [.int v25, .ref 0, .int (3 : Int32), .ref 2], (W_Mo v21))) (fun v25 => ?_) ?_
  · refine sv_Q.s (σ' := (88, [none], [.int (3 : Int32), .int v25, .ref 0, .int (3 : Int32), .ref 2], (W_Mo v21))) 1 rfl ?_
    refine sv_Q.o (fun v26 e27 => ?_)
    refine sv_Q.V (b := 0) (av := [.int v25, .int (3 : Int32)]) (ps := [0, 1, 2, 3, 4, 5, 6, 7, 8, 9, 10, 11, 12, 13, 14, 15, 16, 17, 18, 19, 20, 21, 22]) (rest := [.int (3 : Int32), .ref 2]) (cs1 := (W_Mo v21)) (cs2 := (W_Mo v26.2)) (st' := [.int v26.1, .int (3 : Int32), .ref 2]) (cs' := (W_Mo v26.2)) (q := (88, .null, 0, 0, 0)) lk_Mo_176 (r_Mo_number N v21 v25 (3 : Int32) v26 e27) rfl rfl rfl rfl rfl (Or.inl ⟨12, _, _, rfl, rfl, rfl⟩) rfl rfl (sc_Mo_Mo_0 v21) rfl rfl (pc_Mo_Mo_0 v21 v26.2) ?_
    refine sv_Q.g (σ' := (92, [none], [], (W_Mo (sa v26.2 2 (3 : Int32) v26.1)))) (c := sv_in (3 : Int32) 90) rfl (fun c28 => ?_)
    refine sv_Q.go (fun gm_29 => (92, [none], [], (W_Mo gm_29))) (fun gm_29 => ?_)
    exact sv_Q.z ⟨True, rfl, trivial, rfl⟩
  · refine sv_Q.sb rfl (fun c24 => ?_) (fun c24 => ?_)
    · refine sv_Q.s (σ' := (87, [some (.ref 0)], [.int (0 : Int32), .ref 0, .int (3 : Int32), .ref 2], (W_Mo v21))) 1 rfl ?_
      refine sv_Q.f (lo' := [none]) trivial ?_
      exact sv_Q.z rfl
    · refine sv_Q.s (σ' := (87, [some (.ref 0)], [.int (1 : Int32), .ref 0, .int (3 : Int32), .ref 2], (W_Mo v21))) 2 rfl ?_
      refine sv_Q.f (lo' := [none]) trivial ?_
      exact sv_Q.z rfl
def F_Mo_readWall (N : Nat) (gm : Nat → Nat → Int32) : Option ((Nat → Nat → Int32)) := (if sv_in (0 : Int32) 90 then (sv_let (F_Mo_numberHere (0 : Int32) ((gm 2 ((0 : Int32)).toNatClampNeg) - (2 : Int32)) gm) fun (v2 : Int32 × (Nat → Nat → Int32)) => (Option.bind (if (F_Mo_good v2.2) = 0 then some v2.2 else (if sv_in ((8 : Int32) + v2.1) 90 then (if (v2.2 2 (((8 : Int32) + v2.1)).toNatClampNeg) = 0 then some v2.2 else (sv_let (F_Mo_errs (3 : Int32) (v2.2 0 17) v2.2) fun (gm_7 : Nat → Nat → Int32) => some gm_7)) else none)) fun (v8 : (Nat → Nat → Int32)) => (if ¬ (F_Mo_good v8) = 0 then (Option.bind (F_Mo_advance N v8) fun (v10 : (Nat → Nat → Int32)) => (Option.bind (F_Mo_eats N 7 v10) fun (v12 : Int32 × (Nat → Nat → Int32)) => (sv_let (if v12.1 = 0 then (1 : Int32) else (2 : Int32)) fun (v15 : Int32) => (if sv_in ((8 : Int32) + v2.1) 90 then (sv_let (sa v12.2 2 ((8 : Int32) + v2.1) v15) fun (gm_17 : Nat → Nat → Int32) => (some gm_17)) else none)))) else (some v8)))) else none)
set_option maxHeartbeats 4000000 in
set_option maxRecDepth 100000 in
theorem r_Mo_readWall {X : Nat × (Nat → Int32)} (N : Nat) (gm : Nat → Nat → Int32) : ∀ x, (F_Mo_readWall N gm) = some x → sv_R X 9 M_Mo_readWall [.ref 0] (W_Mo gm) none (W_Mo x) := by
  refine sv_Q.R (res := (fun (x : (Nat → Nat → Int32)) => ((none : Option Value), (W_Mo x)))) g_Mo_readWall rfl ?_
  unfold F_Mo_readWall
  refine sv_Q.s (σ' := (7, [some (.ref 0), none], [.int (0 : Int32), .ref 2, .int (0 : Int32), .ref 0], (W_Mo gm))) 5 rfl ?_
  refine sv_Q.g (σ' := (8, [some (.ref 0), none], [.int (gm 2 ((0 : Int32)).toNatClampNeg), .int (0 : Int32), .ref 0], (W_Mo gm))) (c := sv_in (0 : Int32) 90) rfl (fun c1 => ?_)
  refine sv_Q.s (σ' := (10, [some (.ref 0), none], [.int ((gm 2 ((0 : Int32)).toNatClampNeg) - (2 : Int32)), .int (0 : Int32), .ref 0], (W_Mo gm))) 2 rfl ?_
  refine sv_Q.lt (fun v2 e3 => ?_)
  refine sv_Q.V (b := 0) (av := [.int (0 : Int32), .int ((gm 2 ((0 : Int32)).toNatClampNeg) - (2 : Int32))]) (ps := [0, 1, 2, 3, 4, 5, 6, 7, 8, 9, 10, 11, 12, 13, 14, 15, 16, 17, 18, 19, 20, 21, 22]) (rest := []) (cs1 := (W_Mo gm)) (cs2 := (W_Mo v2.2)) (st' := [.int v2.1]) (cs' := (W_Mo v2.2)) (q := (10, .null, 0, 0, 0)) lk_Mo_166 (r_Mo_numberHere gm (0 : Int32) ((gm 2 ((0 : Int32)).toNatClampNeg) - (2 : Int32)) v2 e3) rfl rfl rfl rfl rfl (Or.inl ⟨12, _, _, rfl, rfl, rfl⟩) rfl rfl (sc_Mo_Mo_0 gm) rfl rfl (pc_Mo_Mo_0 gm v2.2) ?_
  refine sv_Q.s (σ' := (15, [some (.ref 0), some (.int v2.1)], [.ref 0], (W_Mo v2.2))) 2 rfl ?_
  refine sv_Q.V (b := 0) (av := []) (ps := [0, 1, 2, 3, 4, 5, 6, 7, 8, 9, 10, 11, 12, 13, 14, 15, 16, 17, 18, 19, 20, 21, 22]) (rest := []) (cs1 := (W_Mo v2.2)) (cs2 := (W_Mo v2.2)) (st' := [.int (F_Mo_good v2.2)]) (cs' := (W_Mo v2.2)) (q := (15, .null, 0, 0, 0)) lk_Mo_104 (t_Mo_good v2.2) rfl rfl rfl rfl rfl (Or.inl ⟨12, _, _, rfl, rfl, rfl⟩) rfl rfl (sc_Mo_Mo_0 v2.2) rfl rfl (pc_Mo_Mo_0 v2.2 v2.2) ?_
  refine sv_Q.lo (fun v8 => (42, [some (.ref 0), some (.int v2.1)], [], (W_Mo v8))) (fun v8 => ?_) ?_
  · refine sv_Q.s (σ' := (43, [some (.ref 0), some (.int v2.1)], [.ref 0], (W_Mo v8))) 1 rfl ?_
    refine sv_Q.V (b := 0) (av := []) (ps := [0, 1, 2, 3, 4, 5, 6, 7, 8, 9, 10, 11, 12, 13, 14, 15, 16, 17, 18, 19, 20, 21, 22]) (rest := []) (cs1 := (W_Mo v8)) (cs2 := (W_Mo v8)) (st' := [.int (F_Mo_good v8)]) (cs' := (W_Mo v8)) (q := (43, .null, 0, 0, 0)) lk_Mo_104 (t_Mo_good v8) rfl rfl rfl rfl rfl (Or.inl ⟨12, _, _, rfl, rfl, rfl⟩) rfl rfl (sc_Mo_Mo_0 v8) rfl rfl (pc_Mo_Mo_0 v8 v8) ?_
    refine sv_Q.b rfl (fun c9 => ?_) (fun c9 => ?_)
    · refine sv_Q.s (σ' := (51, [some (.ref 0), some (.int v2.1)], [.ref 0], (W_Mo v8))) 1 rfl ?_
      refine sv_Q.o (fun v10 e11 => ?_)
      refine sv_Q.V (b := 0) (av := []) (ps := [0, 1, 2, 3, 4, 5, 6, 7, 8, 9, 10, 11, 12, 13, 14, 15, 16, 17, 18, 19, 20, 21, 22]) (rest := []) (cs1 := (W_Mo v8)) (cs2 := (W_Mo v10)) (st' := []) (cs' := (W_Mo v10)) (q := (51, .null, 0, 0, 0)) lk_Mo_156 (r_Mo_advance N v8 v10 e11) rfl rfl rfl rfl rfl (Or.inl ⟨12, _, _, rfl, rfl, rfl⟩) rfl rfl (sc_Mo_Mo_0 v8) rfl rfl (pc_Mo_Mo_0 v8 v10) ?_
      refine sv_Q.s (σ' := (65, [some (.ref 0), some (.int v2.1)], [.ref 1007, .ref 0, .int ((8 : Int32) + v2.1), .ref 2], (W_Mo v10))) 7 rfl ?_
      refine sv_Q.o (fun v12 e13 => ?_)
      refine sv_Q.V (b := 0) (av := [.ref 1007]) (ps := [0, 1, 2, 3, 4, 5, 6, 7, 8, 9, 10, 11, 12, 13, 14, 15, 16, 17, 18, 19, 20, 21, 22]) (rest := [.int ((8 : Int32) + v2.1), .ref 2]) (cs1 := (W_Mo v10)) (cs2 := (W_Mo v12.2)) (st' := [.int v12.1, .int ((8 : Int32) + v2.1), .ref 2]) (cs' := (W_Mo v12.2)) (q := (65, .null, 0, 0, 0)) lk_Mo_159 (r_Mo_eats N v10 7 v12 e13) rfl rfl rfl rfl rfl (Or.inl ⟨12, _, _, rfl, rfl, rfl⟩) rfl rfl (sc_Mo_Mo_0 v10) rfl rfl (pc_Mo_Mo_0 v10 v12.2) ?_
      refine sv_Q.l (fun v15 => (76, [none, none], [.int v15, .int ((8 : Int32) + v2.1), .ref 2], (W_Mo v12.2))) (fun v15 => ?_) ?_
      · refine sv_Q.g (σ' := (77, [none, none], [], (W_Mo (sa v12.2 2 ((8 : Int32) + v2.1) v15)))) (c := sv_in ((8 : Int32) + v2.1) 90) rfl (fun c16 => ?_)
        refine sv_Q.go (fun gm_17 => (77, [none, none], [], (W_Mo gm_17))) (fun gm_17 => ?_)
        exact sv_Q.z ⟨True, rfl, trivial, rfl⟩
      · refine sv_Q.sb rfl (fun c14 => ?_) (fun c14 => ?_)
        · refine sv_Q.s (σ' := (76, [some (.ref 0), some (.int v2.1)], [.int (1 : Int32), .int ((8 : Int32) + v2.1), .ref 2], (W_Mo v12.2))) 1 rfl ?_
          refine sv_Q.f (lo' := [none, none]) trivial ?_
          exact sv_Q.z rfl
        · refine sv_Q.s (σ' := (76, [some (.ref 0), some (.int v2.1)], [.int (2 : Int32), .int ((8 : Int32) + v2.1), .ref 2], (W_Mo v12.2))) 2 rfl ?_
          refine sv_Q.f (lo' := [none, none]) trivial ?_
          exact sv_Q.z rfl
    · exact sv_Q.z ⟨True, rfl, trivial, rfl⟩
  · refine sv_Q.b rfl (fun c4 => ?_) (fun c4 => ?_)
    · exact sv_Q.z rfl
    · refine sv_Q.s (σ' := (29, [some (.ref 0), some (.int v2.1)], [.int ((8 : Int32) + v2.1), .ref 2], (W_Mo v2.2))) 5 rfl ?_
      refine sv_Q.g (σ' := (30, [some (.ref 0), some (.int v2.1)], [.int (v2.2 2 (((8 : Int32) + v2.1)).toNatClampNeg)], (W_Mo v2.2))) (c := sv_in ((8 : Int32) + v2.1) 90) rfl (fun c5 => ?_)
      refine sv_Q.b rfl (fun c6 => ?_) (fun c6 => ?_)
      · exact sv_Q.z rfl
      · refine sv_Q.s (σ' := (39, [some (.ref 0), some (.int v2.1)], [.int (v2.2 0 17), .int (3 : Int32), .ref 0], (W_Mo v2.2))) 4 rfl ?_
        refine sv_Q.V (b := 0) (av := [.int (3 : Int32), .int (v2.2 0 17)]) (ps := [0, 1, 2, 3, 4, 5, 6, 7, 8, 9, 10, 11, 12, 13, 14, 15, 16, 17, 18, 19, 20, 21, 22]) (rest := []) (cs1 := (W_Mo v2.2)) (cs2 := (W_Mo (F_Mo_errs (3 : Int32) (v2.2 0 17) v2.2))) (st' := []) (cs' := (W_Mo (F_Mo_errs (3 : Int32) (v2.2 0 17) v2.2))) (q := (39, .null, 0, 0, 0)) lk_Mo_162 (t_Mo_errs v2.2 (3 : Int32) (v2.2 0 17)) rfl rfl rfl rfl rfl (Or.inl ⟨12, _, _, rfl, rfl, rfl⟩) rfl rfl (sc_Mo_Mo_0 v2.2) rfl rfl (pc_Mo_Mo_0 v2.2 (F_Mo_errs (3 : Int32) (v2.2 0 17) v2.2)) ?_
        refine sv_Q.go (fun gm_7 => (42, [some (.ref 0), some (.int v2.1)], [], (W_Mo gm_7))) (fun gm_7 => ?_)
        exact sv_Q.z rfl
def F_Mo_readLevel (N : Nat) (gm : Nat → Nat → Int32) : Option ((Nat → Nat → Int32)) := (sv_let (F_Mo_numberHere (1 : Int32) (4 : Int32) gm) fun (v1 : Int32 × (Nat → Nat → Int32)) => (Option.bind (if (F_Mo_good v1.2) = 0 then some v1.2 else (if sv_in ((14 : Int32) + ((4 : Int32) * v1.1)) 90 then (if (v1.2 2 (((14 : Int32) + ((4 : Int32) * v1.1))).toNatClampNeg) = 0 then some v1.2 else (sv_let (F_Mo_errs (3 : Int32) (v1.2 0 17) v1.2) fun (gm_6 : Nat → Nat → Int32) => some gm_6)) else none)) fun (v7 : (Nat → Nat → Int32)) => (if ¬ (F_Mo_good v7) = 0 then (Option.bind (F_Mo_advance N v7) fun (v9 : (Nat → Nat → Int32)) => (Option.bind (F_Mo_passes N 10 v9) fun (v11 : (Nat → Nat → Int32)) => (Option.bind (F_Mo_number N (1 : Int32) (9 : Int32) v11) fun (v13 : Int32 × (Nat → Nat → Int32)) => (Option.bind (F_Mo_passes N 11 v13.2) fun (v15 : (Nat → Nat → Int32)) => (Option.bind (F_Mo_number N (1 : Int32) (9 : Int32) v15) fun (v17 : Int32 × (Nat → Nat → Int32)) => (Option.bind (F_Mo_eats N 12 v17.2) fun (v19 : Int32 × (Nat → Nat → Int32)) => (Option.bind (if v19.1 = 0 then some ((0 : Int32), v19.2) else (Option.bind (F_Mo_number N (1 : Int32) (5 : Int32) v19.2) fun (v22 : Int32 × (Nat → Nat → Int32)) => some (v22.1, v22.2))) fun (v24 : Int32 × (Nat → Nat → Int32)) => (if sv_in (((14 : Int32) + ((4 : Int32) * v1.1)) + (2 : Int32)) 90 then (sv_let (sa v24.2 2 (((14 : Int32) + ((4 : Int32) * v1.1)) + (2 : Int32)) v24.1) fun (gm_26 : Nat → Nat → Int32) => (Option.bind (F_Mo_eats N 13 gm_26) fun (v27 : Int32 × (Nat → Nat → Int32)) => (sv_let (if v27.1 = 0 then (0 : Int32) else (1 : Int32)) fun (v30 : Int32) => (if sv_in (((14 : Int32) + ((4 : Int32) * v1.1)) + (3 : Int32)) 90 then (sv_let (sa v27.2 2 (((14 : Int32) + ((4 : Int32) * v1.1)) + (3 : Int32)) v30) fun (gm_32 : Nat → Nat → Int32) => (if sv_in (((14 : Int32) + ((4 : Int32) * v1.1)) + (0 : Int32)) 90 then (sv_let (sa gm_32 2 (((14 : Int32) + ((4 : Int32) * v1.1)) + (0 : Int32)) v13.1) fun (gm_34 : Nat → Nat → Int32) => (if sv_in (((14 : Int32) + ((4 : Int32) * v1.1)) + (1 : Int32)) 90 then (sv_let (sa gm_34 2 (((14 : Int32) + ((4 : Int32) * v1.1)) + (1 : Int32)) v17.1) fun (gm_36 : Nat → Nat → Int32) => (some gm_36)) else none)) else none)) else none)))) else none)))))))) else (some v7))))
set_option maxHeartbeats 4000000 in
set_option maxRecDepth 100000 in
theorem r_Mo_readLevel {X : Nat × (Nat → Int32)} (N : Nat) (gm : Nat → Nat → Int32) : ∀ x, (F_Mo_readLevel N gm) = some x → sv_R X 10 M_Mo_readLevel [.ref 0] (W_Mo gm) none (W_Mo x) := by
  refine sv_Q.R (res := (fun (x : (Nat → Nat → Int32)) => ((none : Option Value), (W_Mo x)))) g_Mo_readLevel rfl ?_
  unfold F_Mo_readLevel
  refine sv_Q.s (σ' := (3, [some (.ref 0), none, none, none], [.int (4 : Int32), .int (1 : Int32), .ref 0], (W_Mo gm))) 3 rfl ?_
  refine sv_Q.lt (fun v1 e2 => ?_)
  refine sv_Q.V (b := 0) (av := [.int (1 : Int32), .int (4 : Int32)]) (ps := [0, 1, 2, 3, 4, 5, 6, 7, 8, 9, 10, 11, 12, 13, 14, 15, 16, 17, 18, 19, 20, 21, 22]) (rest := []) (cs1 := (W_Mo gm)) (cs2 := (W_Mo v1.2)) (st' := [.int v1.1]) (cs' := (W_Mo v1.2)) (q := (3, .null, 0, 0, 0)) lk_Mo_166 (r_Mo_numberHere gm (1 : Int32) (4 : Int32) v1 e2) rfl rfl rfl rfl rfl (Or.inl ⟨12, _, _, rfl, rfl, rfl⟩) rfl rfl (sc_Mo_Mo_0 gm) rfl rfl (pc_Mo_Mo_0 gm v1.2) ?_
  refine sv_Q.s (σ' := (8, [some (.ref 0), some (.int v1.1), none, none], [.ref 0], (W_Mo v1.2))) 2 rfl ?_
  refine sv_Q.V (b := 0) (av := []) (ps := [0, 1, 2, 3, 4, 5, 6, 7, 8, 9, 10, 11, 12, 13, 14, 15, 16, 17, 18, 19, 20, 21, 22]) (rest := []) (cs1 := (W_Mo v1.2)) (cs2 := (W_Mo v1.2)) (st' := [.int (F_Mo_good v1.2)]) (cs' := (W_Mo v1.2)) (q := (8, .null, 0, 0, 0)) lk_Mo_104 (t_Mo_good v1.2) rfl rfl rfl rfl rfl (Or.inl ⟨12, _, _, rfl, rfl, rfl⟩) rfl rfl (sc_Mo_Mo_0 v1.2) rfl rfl (pc_Mo_Mo_0 v1.2 v1.2) ?_
  refine sv_Q.lo (fun v7 => (37, [some (.ref 0), some (.int v1.1), none, none], [], (W_Mo v7))) (fun v7 => ?_) ?_
  · refine sv_Q.s (σ' := (38, [some (.ref 0), some (.int v1.1), none, none], [.ref 0], (W_Mo v7))) 1 rfl ?_
    refine sv_Q.V (b := 0) (av := []) (ps := [0, 1, 2, 3, 4, 5, 6, 7, 8, 9, 10, 11, 12, 13, 14, 15, 16, 17, 18, 19, 20, 21, 22]) (rest := []) (cs1 := (W_Mo v7)) (cs2 := (W_Mo v7)) (st' := [.int (F_Mo_good v7)]) (cs' := (W_Mo v7)) (q := (38, .null, 0, 0, 0)) lk_Mo_104 (t_Mo_good v7) rfl rfl rfl rfl rfl (Or.inl ⟨12, _, _, rfl, rfl, rfl⟩) rfl rfl (sc_Mo_Mo_0 v7) rfl rfl (pc_Mo_Mo_0 v7 v7) ?_
    refine sv_Q.b rfl (fun c8 => ?_) (fun c8 => ?_)
    · refine sv_Q.s (σ' := (46, [some (.ref 0), some (.int v1.1), none, none], [.ref 0], (W_Mo v7))) 1 rfl ?_
      refine sv_Q.o (fun v9 e10 => ?_)
      refine sv_Q.V (b := 0) (av := []) (ps := [0, 1, 2, 3, 4, 5, 6, 7, 8, 9, 10, 11, 12, 13, 14, 15, 16, 17, 18, 19, 20, 21, 22]) (rest := []) (cs1 := (W_Mo v7)) (cs2 := (W_Mo v9)) (st' := []) (cs' := (W_Mo v9)) (q := (46, .null, 0, 0, 0)) lk_Mo_156 (r_Mo_advance N v7 v9 e10) rfl rfl rfl rfl rfl (Or.inl ⟨12, _, _, rfl, rfl, rfl⟩) rfl rfl (sc_Mo_Mo_0 v7) rfl rfl (pc_Mo_Mo_0 v7 v9) ?_
      refine sv_Q.s (σ' := (52, [some (.ref 0), some (.int v1.1), none, none], [.ref 1010, .ref 0], (W_Mo v9))) 2 rfl ?_
      refine sv_Q.o (fun v11 e12 => ?_)
      refine sv_Q.V (b := 0) (av := [.ref 1010]) (ps := [0, 1, 2, 3, 4, 5, 6, 7, 8, 9, 10, 11, 12, 13, 14, 15, 16, 17, 18, 19, 20, 21, 22]) (rest := []) (cs1 := (W_Mo v9)) (cs2 := (W_Mo v11)) (st' := []) (cs' := (W_Mo v11)) (q := (52, .null, 0, 0, 0)) lk_Mo_170 (r_Mo_passes N v9 10 v11 e12) rfl rfl rfl rfl rfl (Or.inl ⟨12, _, _, rfl, rfl, rfl⟩) rfl rfl (sc_Mo_Mo_0 v9) rfl rfl (pc_Mo_Mo_0 v9 v11) ?_
      refine sv_Q.s (σ' := (59, [some (.ref 0), some (.int v1.1), none, none], [.int (9 : Int32), .int (1 : Int32), .ref 0], (W_Mo v11))) 3 rfl ?_
      refine sv_Q.o (fun v13 e14 => ?_)
      refine sv_Q.V (b := 0) (av := [.int (1 : Int32), .int (9 : Int32)]) (ps := [0, 1, 2, 3, 4, 5, 6, 7, 8, 9, 10, 11, 12, 13, 14, 15, 16, 17, 18, 19, 20, 21, 22]) (rest := []) (cs1 := (W_Mo v11)) (cs2 := (W_Mo v13.2)) (st' := [.int v13.1]) (cs' := (W_Mo v13.2)) (q := (59, .null, 0, 0, 0)) lk_Mo_176 (r_Mo_number N v11 (1 : Int32) (9 : Int32) v13 e14) rfl rfl rfl rfl rfl (Or.inl ⟨12, _, _, rfl, rfl, rfl⟩) rfl rfl (sc_Mo_Mo_0 v11) rfl rfl (pc_Mo_Mo_0 v11 v13.2) ?_
      refine sv_Q.s (σ' := (66, [some (.ref 0), some (.int v1.1), some (.int v13.1), none], [.ref 1011, .ref 0], (W_Mo v13.2))) 3 rfl ?_
      refine sv_Q.o (fun v15 e16 => ?_)
      refine sv_Q.V (b := 0) (av := [.ref 1011]) (ps := [0, 1, 2, 3, 4, 5, 6, 7, 8, 9, 10, 11, 12, 13, 14, 15, 16, 17, 18, 19, 20, 21, 22]) (rest := []) (cs1 := (W_Mo v13.2)) (cs2 := (W_Mo v15)) (st' := []) (cs' := (W_Mo v15)) (q := (66, .null, 0, 0, 0)) lk_Mo_170 (r_Mo_passes N v13.2 11 v15 e16) rfl rfl rfl rfl rfl (Or.inl ⟨12, _, _, rfl, rfl, rfl⟩) rfl rfl (sc_Mo_Mo_0 v13.2) rfl rfl (pc_Mo_Mo_0 v13.2 v15) ?_
      refine sv_Q.s (σ' := (73, [some (.ref 0), some (.int v1.1), some (.int v13.1), none], [.int (9 : Int32), .int (1 : Int32), .ref 0], (W_Mo v15))) 3 rfl ?_
      refine sv_Q.o (fun v17 e18 => ?_)
      refine sv_Q.V (b := 0) (av := [.int (1 : Int32), .int (9 : Int32)]) (ps := [0, 1, 2, 3, 4, 5, 6, 7, 8, 9, 10, 11, 12, 13, 14, 15, 16, 17, 18, 19, 20, 21, 22]) (rest := []) (cs1 := (W_Mo v15)) (cs2 := (W_Mo v17.2)) (st' := [.int v17.1]) (cs' := (W_Mo v17.2)) (q := (73, .null, 0, 0, 0)) lk_Mo_176 (r_Mo_number N v15 (1 : Int32) (9 : Int32) v17 e18) rfl rfl rfl rfl rfl (Or.inl ⟨12, _, _, rfl, rfl, rfl⟩) rfl rfl (sc_Mo_Mo_0 v15) rfl rfl (pc_Mo_Mo_0 v15 v17.2) ?_
      refine sv_Q.s (σ' := (92, [some (.ref 0), some (.int v1.1), some (.int v13.1), some (.int v17.1)], [.ref 1012, .ref 0, .int (((14 : Int32) + ((4 : Int32) * v1.1)) + (2 : Int32)), .ref 2], (W_Mo v17.2))) 12 rfl ?_
      refine sv_Q.o (fun v19 e20 => ?_)
      refine sv_Q.V (b := 0) (av := [.ref 1012]) (ps := [0, 1, 2, 3, 4, 5, 6, 7, 8, 9, 10, 11, 12, 13, 14, 15, 16, 17, 18, 19, 20, 21, 22]) (rest := [.int (((14 : Int32) + ((4 : Int32) * v1.1)) + (2 : Int32)), .ref 2]) (cs1 := (W_Mo v17.2)) (cs2 := (W_Mo v19.2)) (st' := [.int v19.1, .int (((14 : Int32) + ((4 : Int32) * v1.1)) + (2 : Int32)), .ref 2]) (cs' := (W_Mo v19.2)) (q := (92, .null, 0, 0, 0)) lk_Mo_159 (r_Mo_eats N v17.2 12 v19 e20) rfl rfl rfl rfl rfl (Or.inl ⟨12, _, _, rfl, rfl, rfl⟩) rfl rfl (sc_Mo_Mo_0 v17.2) rfl rfl (pc_Mo_Mo_0 v17.2 v19.2) ?_
      refine sv_Q.lo (fun v24 => (108, [some (.ref 0), some (.int v1.1), some (.int v13.1), some (.int v17.1)], [.int v24.1, .int (((14 : Int32) + ((4 : Int32) * v1.1)) + (2 : Int32)), .ref 2], (W_Mo v24.2))) (fun v24 => ?_) ?_
      · refine sv_Q.g (σ' := (109, [some (.ref 0), some (.int v1.1), some (.int v13.1), some (.int v17.1)], [], (W_Mo (sa v24.2 2 (((14 : Int32) + ((4 : Int32) * v1.1)) + (2 : Int32)) v24.1)))) (c := sv_in (((14 : Int32) + ((4 : Int32) * v1.1)) + (2 : Int32)) 90) rfl (fun c25 => ?_)
        refine sv_Q.go (fun gm_26 => (109, [some (.ref 0), some (.int v1.1), some (.int v13.1), some (.int v17.1)], [], (W_Mo gm_26))) (fun gm_26 => ?_)
        refine sv_Q.s (σ' := (124, [some (.ref 0), some (.int v1.1), some (.int v13.1), some (.int v17.1)], [.ref 1013, .ref 0, .int (((14 : Int32) + ((4 : Int32) * v1.1)) + (3 : Int32)), .ref 2], (W_Mo gm_26))) 11 rfl ?_
        refine sv_Q.o (fun v27 e28 => ?_)
        refine sv_Q.V (b := 0) (av := [.ref 1013]) (ps := [0, 1, 2, 3, 4, 5, 6, 7, 8, 9, 10, 11, 12, 13, 14, 15, 16, 17, 18, 19, 20, 21, 22]) (rest := [.int (((14 : Int32) + ((4 : Int32) * v1.1)) + (3 : Int32)), .ref 2]) (cs1 := (W_Mo gm_26)) (cs2 := (W_Mo v27.2)) (st' := [.int v27.1, .int (((14 : Int32) + ((4 : Int32) * v1.1)) + (3 : Int32)), .ref 2]) (cs' := (W_Mo v27.2)) (q := (124, .null, 0, 0, 0)) lk_Mo_159 (r_Mo_eats N gm_26 13 v27 e28) rfl rfl rfl rfl rfl (Or.inl ⟨12, _, _, rfl, rfl, rfl⟩) rfl rfl (sc_Mo_Mo_0 gm_26) rfl rfl (pc_Mo_Mo_0 gm_26 v27.2) ?_
        refine sv_Q.l (fun v30 => (135, [some (.ref 0), some (.int v1.1), some (.int v13.1), some (.int v17.1)], [.int v30, .int (((14 : Int32) + ((4 : Int32) * v1.1)) + (3 : Int32)), .ref 2], (W_Mo v27.2))) (fun v30 => ?_) ?_
        · refine sv_Q.g (σ' := (136, [some (.ref 0), some (.int v1.1), some (.int v13.1), some (.int v17.1)], [], (W_Mo (sa v27.2 2 (((14 : Int32) + ((4 : Int32) * v1.1)) + (3 : Int32)) v30)))) (c := sv_in (((14 : Int32) + ((4 : Int32) * v1.1)) + (3 : Int32)) 90) rfl (fun c31 => ?_)
          refine sv_Q.go (fun gm_32 => (136, [some (.ref 0), some (.int v1.1), some (.int v13.1), some (.int v17.1)], [], (W_Mo gm_32))) (fun gm_32 => ?_)
          refine sv_Q.s (σ' := (149, [some (.ref 0), some (.int v1.1), some (.int v13.1), some (.int v17.1)], [.int v13.1, .int (((14 : Int32) + ((4 : Int32) * v1.1)) + (0 : Int32)), .ref 2], (W_Mo gm_32))) 10 rfl ?_
          refine sv_Q.g (σ' := (150, [some (.ref 0), some (.int v1.1), some (.int v13.1), some (.int v17.1)], [], (W_Mo (sa gm_32 2 (((14 : Int32) + ((4 : Int32) * v1.1)) + (0 : Int32)) v13.1)))) (c := sv_in (((14 : Int32) + ((4 : Int32) * v1.1)) + (0 : Int32)) 90) rfl (fun c33 => ?_)
          refine sv_Q.go (fun gm_34 => (150, [some (.ref 0), some (.int v1.1), some (.int v13.1), some (.int v17.1)], [], (W_Mo gm_34))) (fun gm_34 => ?_)
          refine sv_Q.s (σ' := (163, [some (.ref 0), some (.int v1.1), some (.int v13.1), some (.int v17.1)], [.int v17.1, .int (((14 : Int32) + ((4 : Int32) * v1.1)) + (1 : Int32)), .ref 2], (W_Mo gm_34))) 10 rfl ?_
          refine sv_Q.g (σ' := (164, [some (.ref 0), some (.int v1.1), some (.int v13.1), some (.int v17.1)], [], (W_Mo (sa gm_34 2 (((14 : Int32) + ((4 : Int32) * v1.1)) + (1 : Int32)) v17.1)))) (c := sv_in (((14 : Int32) + ((4 : Int32) * v1.1)) + (1 : Int32)) 90) rfl (fun c35 => ?_)
          refine sv_Q.go (fun gm_36 => (164, [some (.ref 0), some (.int v1.1), some (.int v13.1), some (.int v17.1)], [], (W_Mo gm_36))) (fun gm_36 => ?_)
          exact sv_Q.z ⟨True, rfl, trivial, rfl⟩
        · refine sv_Q.sb rfl (fun c29 => ?_) (fun c29 => ?_)
          · refine sv_Q.s (σ' := (135, [some (.ref 0), some (.int v1.1), some (.int v13.1), some (.int v17.1)], [.int (0 : Int32), .int (((14 : Int32) + ((4 : Int32) * v1.1)) + (3 : Int32)), .ref 2], (W_Mo v27.2))) 1 rfl ?_
            exact sv_Q.z rfl
          · refine sv_Q.s (σ' := (135, [some (.ref 0), some (.int v1.1), some (.int v13.1), some (.int v17.1)], [.int (1 : Int32), .int (((14 : Int32) + ((4 : Int32) * v1.1)) + (3 : Int32)), .ref 2], (W_Mo v27.2))) 2 rfl ?_
            exact sv_Q.z rfl
      · refine sv_Q.b rfl (fun c21 => ?_) (fun c21 => ?_)
        · refine sv_Q.s (σ' := (108, [some (.ref 0), some (.int v1.1), some (.int v13.1), some (.int v17.1)], [.int (0 : Int32), .int (((14 : Int32) + ((4 : Int32) * v1.1)) + (2 : Int32)), .ref 2], (W_Mo v19.2))) 1 rfl ?_
          exact sv_Q.z rfl
        · refine sv_Q.s (σ' := (101, [some (.ref 0), some (.int v1.1), some (.int v13.1), some (.int v17.1)], [.int (5 : Int32), .int (1 : Int32), .ref 0, .int (((14 : Int32) + ((4 : Int32) * v1.1)) + (2 : Int32)), .ref 2], (W_Mo v19.2))) 3 rfl ?_
          refine sv_Q.o (fun v22 e23 => ?_)
          refine sv_Q.V (b := 0) (av := [.int (1 : Int32), .int (5 : Int32)]) (ps := [0, 1, 2, 3, 4, 5, 6, 7, 8, 9, 10, 11, 12, 13, 14, 15, 16, 17, 18, 19, 20, 21, 22]) (rest := [.int (((14 : Int32) + ((4 : Int32) * v1.1)) + (2 : Int32)), .ref 2]) (cs1 := (W_Mo v19.2)) (cs2 := (W_Mo v22.2)) (st' := [.int v22.1, .int (((14 : Int32) + ((4 : Int32) * v1.1)) + (2 : Int32)), .ref 2]) (cs' := (W_Mo v22.2)) (q := (101, .null, 0, 0, 0)) lk_Mo_176 (r_Mo_number N v19.2 (1 : Int32) (5 : Int32) v22 e23) rfl rfl rfl rfl rfl (Or.inl ⟨12, _, _, rfl, rfl, rfl⟩) rfl rfl (sc_Mo_Mo_0 v19.2) rfl rfl (pc_Mo_Mo_0 v19.2 v22.2) ?_
          refine sv_Q.s (σ' := (108, [some (.ref 0), some (.int v1.1), some (.int v13.1), some (.int v17.1)], [.int v22.1, .int (((14 : Int32) + ((4 : Int32) * v1.1)) + (2 : Int32)), .ref 2], (W_Mo v22.2))) 1 rfl ?_
          exact sv_Q.z rfl
    · exact sv_Q.z ⟨True, rfl, trivial, rfl⟩
  · refine sv_Q.b rfl (fun c3 => ?_) (fun c3 => ?_)
    · exact sv_Q.z rfl
    · refine sv_Q.s (σ' := (24, [some (.ref 0), some (.int v1.1), none, none], [.int ((14 : Int32) + ((4 : Int32) * v1.1)), .ref 2], (W_Mo v1.2))) 7 rfl ?_
      refine sv_Q.g (σ' := (25, [some (.ref 0), some (.int v1.1), none, none], [.int (v1.2 2 (((14 : Int32) + ((4 : Int32) * v1.1))).toNatClampNeg)], (W_Mo v1.2))) (c := sv_in ((14 : Int32) + ((4 : Int32) * v1.1)) 90) rfl (fun c4 => ?_)
      refine sv_Q.b rfl (fun c5 => ?_) (fun c5 => ?_)
      · exact sv_Q.z rfl
      · refine sv_Q.s (σ' := (34, [some (.ref 0), some (.int v1.1), none, none], [.int (v1.2 0 17), .int (3 : Int32), .ref 0], (W_Mo v1.2))) 4 rfl ?_
        refine sv_Q.V (b := 0) (av := [.int (3 : Int32), .int (v1.2 0 17)]) (ps := [0, 1, 2, 3, 4, 5, 6, 7, 8, 9, 10, 11, 12, 13, 14, 15, 16, 17, 18, 19, 20, 21, 22]) (rest := []) (cs1 := (W_Mo v1.2)) (cs2 := (W_Mo (F_Mo_errs (3 : Int32) (v1.2 0 17) v1.2))) (st' := []) (cs' := (W_Mo (F_Mo_errs (3 : Int32) (v1.2 0 17) v1.2))) (q := (34, .null, 0, 0, 0)) lk_Mo_162 (t_Mo_errs v1.2 (3 : Int32) (v1.2 0 17)) rfl rfl rfl rfl rfl (Or.inl ⟨12, _, _, rfl, rfl, rfl⟩) rfl rfl (sc_Mo_Mo_0 v1.2) rfl rfl (pc_Mo_Mo_0 v1.2 (F_Mo_errs (3 : Int32) (v1.2 0 17) v1.2)) ?_
        refine sv_Q.go (fun gm_6 => (37, [some (.ref 0), some (.int v1.1), none, none], [], (W_Mo gm_6))) (fun gm_6 => ?_)
        exact sv_Q.z rfl
def F_Mo_readApart (N : Nat) (gm : Nat → Nat → Int32) : Option ((Nat → Nat → Int32)) := (if sv_in (6 : Int32) 90 then (Option.bind (F_Mo_number N (0 : Int32) ((gm 2 ((6 : Int32)).toNatClampNeg) - (1 : Int32)) gm) fun (v2 : Int32 × (Nat → Nat → Int32)) => (if sv_in (6 : Int32) 90 then (sv_let (F_Mo_numberHere (0 : Int32) ((v2.2 2 ((6 : Int32)).toNatClampNeg) - (1 : Int32)) v2.2) fun (v5 : Int32 × (Nat → Nat → Int32)) => (Option.bind (if (F_Mo_good v5.2) = 0 then some v5.2 else (if sv_in (((41 : Int32) + ((7 : Int32) * v2.1)) + v5.1) 90 then (if (v5.2 2 ((((41 : Int32) + ((7 : Int32) * v2.1)) + v5.1)).toNatClampNeg) = 0 then some v5.2 else (sv_let (F_Mo_errs (3 : Int32) (v5.2 0 17) v5.2) fun (gm_10 : Nat → Nat → Int32) => some gm_10)) else none)) fun (v11 : (Nat → Nat → Int32)) => (if ¬ (F_Mo_good v11) = 0 then (Option.bind (F_Mo_advance N v11) fun (v13 : (Nat → Nat → Int32)) => (sv_let (F_Mo_numberHere (1 : Int32) (4 : Int32) v13) fun (v15 : Int32 × (Nat → Nat → Int32)) => (Option.bind (if (F_Mo_good v15.2) = 0 then some v15.2 else (if sv_in ((14 : Int32) + ((4 : Int32) * v15.1)) 90 then (if ¬ (v15.2 2 (((14 : Int32) + ((4 : Int32) * v15.1))).toNatClampNeg) = 0 then some v15.2 else (sv_let (F_Mo_errs (2 : Int32) (v15.2 0 17) v15.2) fun (gm_20 : Nat → Nat → Int32) => some gm_20)) else none)) fun (v21 : (Nat → Nat → Int32)) => (if ¬ (F_Mo_good v21) = 0 then (Option.bind (F_Mo_advance N v21) fun (v23 : (Nat → Nat → Int32)) => (if sv_in (((41 : Int32) + ((7 : Int32) * v2.1)) + v5.1) 90 then (sv_let (sa v23 2 (((41 : Int32) + ((7 : Int32) * v2.1)) + v5.1) v15.1) fun (gm_26 : Nat → Nat → Int32) => (if sv_in (((41 : Int32) + ((7 : Int32) * v5.1)) + v2.1) 90 then (sv_let (sa gm_26 2 (((41 : Int32) + ((7 : Int32) * v5.1)) + v2.1) v15.1) fun (gm_28 : Nat → Nat → Int32) => (some gm_28)) else none)) else none)) else (some v21))))) else (some v11)))) else none)) else none)
set_option maxHeartbeats 4000000 in
set_option maxRecDepth 100000 in
theorem r_Mo_readApart {X : Nat × (Nat → Int32)} (N : Nat) (gm : Nat → Nat → Int32) : ∀ x, (F_Mo_readApart N gm) = some x → sv_R X 5 M_Mo_readApart [.ref 0] (W_Mo gm) none (W_Mo x) := by
  refine sv_Q.R (res := (fun (x : (Nat → Nat → Int32)) => ((none : Option Value), (W_Mo x)))) g_Mo_readApart rfl ?_
  unfold F_Mo_readApart
  refine sv_Q.s (σ' := (8, [some (.ref 0), none, none, none], [.int (6 : Int32), .ref 2, .int (0 : Int32), .ref 0], (W_Mo gm))) 5 rfl ?_
  refine sv_Q.g (σ' := (9, [some (.ref 0), none, none, none], [.int (gm 2 ((6 : Int32)).toNatClampNeg), .int (0 : Int32), .ref 0], (W_Mo gm))) (c := sv_in (6 : Int32) 90) rfl (fun c1 => ?_)
  refine sv_Q.s (σ' := (11, [some (.ref 0), none, none, none], [.int ((gm 2 ((6 : Int32)).toNatClampNeg) - (1 : Int32)), .int (0 : Int32), .ref 0], (W_Mo gm))) 2 rfl ?_
  refine sv_Q.o (fun v2 e3 => ?_)
  refine sv_Q.V (b := 0) (av := [.int (0 : Int32), .int ((gm 2 ((6 : Int32)).toNatClampNeg) - (1 : Int32))]) (ps := [0, 1, 2, 3, 4, 5, 6, 7, 8, 9, 10, 11, 12, 13, 14, 15, 16, 17, 18, 19, 20, 21, 22]) (rest := []) (cs1 := (W_Mo gm)) (cs2 := (W_Mo v2.2)) (st' := [.int v2.1]) (cs' := (W_Mo v2.2)) (q := (11, .null, 0, 0, 0)) lk_Mo_176 (r_Mo_number N gm (0 : Int32) ((gm 2 ((6 : Int32)).toNatClampNeg) - (1 : Int32)) v2 e3) rfl rfl rfl rfl rfl (Or.inl ⟨12, _, _, rfl, rfl, rfl⟩) rfl rfl (sc_Mo_Mo_0 gm) rfl rfl (pc_Mo_Mo_0 gm v2.2) ?_
  refine sv_Q.s (σ' := (23, [some (.ref 0), some (.int v2.1), none, none], [.int (6 : Int32), .ref 2, .int (0 : Int32), .ref 0], (W_Mo v2.2))) 6 rfl ?_
  refine sv_Q.g (σ' := (24, [some (.ref 0), some (.int v2.1), none, none], [.int (v2.2 2 ((6 : Int32)).toNatClampNeg), .int (0 : Int32), .ref 0], (W_Mo v2.2))) (c := sv_in (6 : Int32) 90) rfl (fun c4 => ?_)
  refine sv_Q.s (σ' := (26, [some (.ref 0), some (.int v2.1), none, none], [.int ((v2.2 2 ((6 : Int32)).toNatClampNeg) - (1 : Int32)), .int (0 : Int32), .ref 0], (W_Mo v2.2))) 2 rfl ?_
  refine sv_Q.lt (fun v5 e6 => ?_)
  refine sv_Q.V (b := 0) (av := [.int (0 : Int32), .int ((v2.2 2 ((6 : Int32)).toNatClampNeg) - (1 : Int32))]) (ps := [0, 1, 2, 3, 4, 5, 6, 7, 8, 9, 10, 11, 12, 13, 14, 15, 16, 17, 18, 19, 20, 21, 22]) (rest := []) (cs1 := (W_Mo v2.2)) (cs2 := (W_Mo v5.2)) (st' := [.int v5.1]) (cs' := (W_Mo v5.2)) (q := (26, .null, 0, 0, 0)) lk_Mo_166 (r_Mo_numberHere v2.2 (0 : Int32) ((v2.2 2 ((6 : Int32)).toNatClampNeg) - (1 : Int32)) v5 e6) rfl rfl rfl rfl rfl (Or.inl ⟨12, _, _, rfl, rfl, rfl⟩) rfl rfl (sc_Mo_Mo_0 v2.2) rfl rfl (pc_Mo_Mo_0 v2.2 v5.2) ?_
  refine sv_Q.s (σ' := (31, [some (.ref 0), some (.int v2.1), some (.int v5.1), none], [.ref 0], (W_Mo v5.2))) 2 rfl ?_
  refine sv_Q.V (b := 0) (av := []) (ps := [0, 1, 2, 3, 4, 5, 6, 7, 8, 9, 10, 11, 12, 13, 14, 15, 16, 17, 18, 19, 20, 21, 22]) (rest := []) (cs1 := (W_Mo v5.2)) (cs2 := (W_Mo v5.2)) (st' := [.int (F_Mo_good v5.2)]) (cs' := (W_Mo v5.2)) (q := (31, .null, 0, 0, 0)) lk_Mo_104 (t_Mo_good v5.2) rfl rfl rfl rfl rfl (Or.inl ⟨12, _, _, rfl, rfl, rfl⟩) rfl rfl (sc_Mo_Mo_0 v5.2) rfl rfl (pc_Mo_Mo_0 v5.2 v5.2) ?_
  refine sv_Q.lo (fun v11 => (63, [some (.ref 0), some (.int v2.1), some (.int v5.1), none], [], (W_Mo v11))) (fun v11 => ?_) ?_
  · refine sv_Q.s (σ' := (64, [some (.ref 0), some (.int v2.1), some (.int v5.1), none], [.ref 0], (W_Mo v11))) 1 rfl ?_
    refine sv_Q.V (b := 0) (av := []) (ps := [0, 1, 2, 3, 4, 5, 6, 7, 8, 9, 10, 11, 12, 13, 14, 15, 16, 17, 18, 19, 20, 21, 22]) (rest := []) (cs1 := (W_Mo v11)) (cs2 := (W_Mo v11)) (st' := [.int (F_Mo_good v11)]) (cs' := (W_Mo v11)) (q := (64, .null, 0, 0, 0)) lk_Mo_104 (t_Mo_good v11) rfl rfl rfl rfl rfl (Or.inl ⟨12, _, _, rfl, rfl, rfl⟩) rfl rfl (sc_Mo_Mo_0 v11) rfl rfl (pc_Mo_Mo_0 v11 v11) ?_
    refine sv_Q.b rfl (fun c12 => ?_) (fun c12 => ?_)
    · refine sv_Q.s (σ' := (72, [some (.ref 0), some (.int v2.1), some (.int v5.1), none], [.ref 0], (W_Mo v11))) 1 rfl ?_
      refine sv_Q.o (fun v13 e14 => ?_)
      refine sv_Q.V (b := 0) (av := []) (ps := [0, 1, 2, 3, 4, 5, 6, 7, 8, 9, 10, 11, 12, 13, 14, 15, 16, 17, 18, 19, 20, 21, 22]) (rest := []) (cs1 := (W_Mo v11)) (cs2 := (W_Mo v13)) (st' := []) (cs' := (W_Mo v13)) (q := (72, .null, 0, 0, 0)) lk_Mo_156 (r_Mo_advance N v11 v13 e14) rfl rfl rfl rfl rfl (Or.inl ⟨12, _, _, rfl, rfl, rfl⟩) rfl rfl (sc_Mo_Mo_0 v11) rfl rfl (pc_Mo_Mo_0 v11 v13) ?_
      refine sv_Q.s (σ' := (78, [some (.ref 0), some (.int v2.1), some (.int v5.1), none], [.int (4 : Int32), .int (1 : Int32), .ref 0], (W_Mo v13))) 3 rfl ?_
      refine sv_Q.lt (fun v15 e16 => ?_)
      refine sv_Q.V (b := 0) (av := [.int (1 : Int32), .int (4 : Int32)]) (ps := [0, 1, 2, 3, 4, 5, 6, 7, 8, 9, 10, 11, 12, 13, 14, 15, 16, 17, 18, 19, 20, 21, 22]) (rest := []) (cs1 := (W_Mo v13)) (cs2 := (W_Mo v15.2)) (st' := [.int v15.1]) (cs' := (W_Mo v15.2)) (q := (78, .null, 0, 0, 0)) lk_Mo_166 (r_Mo_numberHere v13 (1 : Int32) (4 : Int32) v15 e16) rfl rfl rfl rfl rfl (Or.inl ⟨12, _, _, rfl, rfl, rfl⟩) rfl rfl (sc_Mo_Mo_0 v13) rfl rfl (pc_Mo_Mo_0 v13 v15.2) ?_
      refine sv_Q.s (σ' := (83, [some (.ref 0), some (.int v2.1), some (.int v5.1), some (.int v15.1)], [.ref 0], (W_Mo v15.2))) 2 rfl ?_
      refine sv_Q.V (b := 0) (av := []) (ps := [0, 1, 2, 3, 4, 5, 6, 7, 8, 9, 10, 11, 12, 13, 14, 15, 16, 17, 18, 19, 20, 21, 22]) (rest := []) (cs1 := (W_Mo v15.2)) (cs2 := (W_Mo v15.2)) (st' := [.int (F_Mo_good v15.2)]) (cs' := (W_Mo v15.2)) (q := (83, .null, 0, 0, 0)) lk_Mo_104 (t_Mo_good v15.2) rfl rfl rfl rfl rfl (Or.inl ⟨12, _, _, rfl, rfl, rfl⟩) rfl rfl (sc_Mo_Mo_0 v15.2) rfl rfl (pc_Mo_Mo_0 v15.2 v15.2) ?_
      refine sv_Q.lo (fun v21 => (112, [some (.ref 0), some (.int v2.1), some (.int v5.1), some (.int v15.1)], [], (W_Mo v21))) (fun v21 => ?_) ?_
      · refine sv_Q.s (σ' := (113, [some (.ref 0), some (.int v2.1), some (.int v5.1), some (.int v15.1)], [.ref 0], (W_Mo v21))) 1 rfl ?_
        refine sv_Q.V (b := 0) (av := []) (ps := [0, 1, 2, 3, 4, 5, 6, 7, 8, 9, 10, 11, 12, 13, 14, 15, 16, 17, 18, 19, 20, 21, 22]) (rest := []) (cs1 := (W_Mo v21)) (cs2 := (W_Mo v21)) (st' := [.int (F_Mo_good v21)]) (cs' := (W_Mo v21)) (q := (113, .null, 0, 0, 0)) lk_Mo_104 (t_Mo_good v21) rfl rfl rfl rfl rfl (Or.inl ⟨12, _, _, rfl, rfl, rfl⟩) rfl rfl (sc_Mo_Mo_0 v21) rfl rfl (pc_Mo_Mo_0 v21 v21) ?_
        refine sv_Q.b rfl (fun c22 => ?_) (fun c22 => ?_)
        · refine sv_Q.s (σ' := (121, [some (.ref 0), some (.int v2.1), some (.int v5.1), some (.int v15.1)], [.ref 0], (W_Mo v21))) 1 rfl ?_
          refine sv_Q.o (fun v23 e24 => ?_)
          refine sv_Q.V (b := 0) (av := []) (ps := [0, 1, 2, 3, 4, 5, 6, 7, 8, 9, 10, 11, 12, 13, 14, 15, 16, 17, 18, 19, 20, 21, 22]) (rest := []) (cs1 := (W_Mo v21)) (cs2 := (W_Mo v23)) (st' := []) (cs' := (W_Mo v23)) (q := (121, .null, 0, 0, 0)) lk_Mo_156 (r_Mo_advance N v21 v23 e24) rfl rfl rfl rfl rfl (Or.inl ⟨12, _, _, rfl, rfl, rfl⟩) rfl rfl (sc_Mo_Mo_0 v21) rfl rfl (pc_Mo_Mo_0 v21 v23) ?_
          refine sv_Q.s (σ' := (138, [some (.ref 0), some (.int v2.1), some (.int v5.1), some (.int v15.1)], [.int v15.1, .int (((41 : Int32) + ((7 : Int32) * v2.1)) + v5.1), .ref 2], (W_Mo v23))) 10 rfl ?_
          refine sv_Q.g (σ' := (139, [some (.ref 0), some (.int v2.1), some (.int v5.1), some (.int v15.1)], [], (W_Mo (sa v23 2 (((41 : Int32) + ((7 : Int32) * v2.1)) + v5.1) v15.1)))) (c := sv_in (((41 : Int32) + ((7 : Int32) * v2.1)) + v5.1) 90) rfl (fun c25 => ?_)
          refine sv_Q.go (fun gm_26 => (139, [some (.ref 0), some (.int v2.1), some (.int v5.1), some (.int v15.1)], [], (W_Mo gm_26))) (fun gm_26 => ?_)
          refine sv_Q.s (σ' := (153, [some (.ref 0), some (.int v2.1), some (.int v5.1), some (.int v15.1)], [.int v15.1, .int (((41 : Int32) + ((7 : Int32) * v5.1)) + v2.1), .ref 2], (W_Mo gm_26))) 10 rfl ?_
          refine sv_Q.g (σ' := (154, [some (.ref 0), some (.int v2.1), some (.int v5.1), some (.int v15.1)], [], (W_Mo (sa gm_26 2 (((41 : Int32) + ((7 : Int32) * v5.1)) + v2.1) v15.1)))) (c := sv_in (((41 : Int32) + ((7 : Int32) * v5.1)) + v2.1) 90) rfl (fun c27 => ?_)
          refine sv_Q.go (fun gm_28 => (154, [some (.ref 0), some (.int v2.1), some (.int v5.1), some (.int v15.1)], [], (W_Mo gm_28))) (fun gm_28 => ?_)
          exact sv_Q.z ⟨True, rfl, trivial, rfl⟩
        · exact sv_Q.z ⟨True, rfl, trivial, rfl⟩
      · refine sv_Q.b rfl (fun c17 => ?_) (fun c17 => ?_)
        · exact sv_Q.z rfl
        · refine sv_Q.s (σ' := (99, [some (.ref 0), some (.int v2.1), some (.int v5.1), some (.int v15.1)], [.int ((14 : Int32) + ((4 : Int32) * v15.1)), .ref 2], (W_Mo v15.2))) 7 rfl ?_
          refine sv_Q.g (σ' := (100, [some (.ref 0), some (.int v2.1), some (.int v5.1), some (.int v15.1)], [.int (v15.2 2 (((14 : Int32) + ((4 : Int32) * v15.1))).toNatClampNeg)], (W_Mo v15.2))) (c := sv_in ((14 : Int32) + ((4 : Int32) * v15.1)) 90) rfl (fun c18 => ?_)
          refine sv_Q.b rfl (fun c19 => ?_) (fun c19 => ?_)
          · exact sv_Q.z rfl
          · refine sv_Q.s (σ' := (109, [some (.ref 0), some (.int v2.1), some (.int v5.1), some (.int v15.1)], [.int (v15.2 0 17), .int (2 : Int32), .ref 0], (W_Mo v15.2))) 4 rfl ?_
            refine sv_Q.V (b := 0) (av := [.int (2 : Int32), .int (v15.2 0 17)]) (ps := [0, 1, 2, 3, 4, 5, 6, 7, 8, 9, 10, 11, 12, 13, 14, 15, 16, 17, 18, 19, 20, 21, 22]) (rest := []) (cs1 := (W_Mo v15.2)) (cs2 := (W_Mo (F_Mo_errs (2 : Int32) (v15.2 0 17) v15.2))) (st' := []) (cs' := (W_Mo (F_Mo_errs (2 : Int32) (v15.2 0 17) v15.2))) (q := (109, .null, 0, 0, 0)) lk_Mo_162 (t_Mo_errs v15.2 (2 : Int32) (v15.2 0 17)) rfl rfl rfl rfl rfl (Or.inl ⟨12, _, _, rfl, rfl, rfl⟩) rfl rfl (sc_Mo_Mo_0 v15.2) rfl rfl (pc_Mo_Mo_0 v15.2 (F_Mo_errs (2 : Int32) (v15.2 0 17) v15.2)) ?_
            refine sv_Q.go (fun gm_20 => (112, [some (.ref 0), some (.int v2.1), some (.int v5.1), some (.int v15.1)], [], (W_Mo gm_20))) (fun gm_20 => ?_)
            exact sv_Q.z rfl
    · exact sv_Q.z ⟨True, rfl, trivial, rfl⟩
  · refine sv_Q.b rfl (fun c7 => ?_) (fun c7 => ?_)
    · exact sv_Q.z rfl
    · refine sv_Q.s (σ' := (50, [some (.ref 0), some (.int v2.1), some (.int v5.1), none], [.int (((41 : Int32) + ((7 : Int32) * v2.1)) + v5.1), .ref 2], (W_Mo v5.2))) 9 rfl ?_
      refine sv_Q.g (σ' := (51, [some (.ref 0), some (.int v2.1), some (.int v5.1), none], [.int (v5.2 2 ((((41 : Int32) + ((7 : Int32) * v2.1)) + v5.1)).toNatClampNeg)], (W_Mo v5.2))) (c := sv_in (((41 : Int32) + ((7 : Int32) * v2.1)) + v5.1) 90) rfl (fun c8 => ?_)
      refine sv_Q.b rfl (fun c9 => ?_) (fun c9 => ?_)
      · exact sv_Q.z rfl
      · refine sv_Q.s (σ' := (60, [some (.ref 0), some (.int v2.1), some (.int v5.1), none], [.int (v5.2 0 17), .int (3 : Int32), .ref 0], (W_Mo v5.2))) 4 rfl ?_
        refine sv_Q.V (b := 0) (av := [.int (3 : Int32), .int (v5.2 0 17)]) (ps := [0, 1, 2, 3, 4, 5, 6, 7, 8, 9, 10, 11, 12, 13, 14, 15, 16, 17, 18, 19, 20, 21, 22]) (rest := []) (cs1 := (W_Mo v5.2)) (cs2 := (W_Mo (F_Mo_errs (3 : Int32) (v5.2 0 17) v5.2))) (st' := []) (cs' := (W_Mo (F_Mo_errs (3 : Int32) (v5.2 0 17) v5.2))) (q := (60, .null, 0, 0, 0)) lk_Mo_162 (t_Mo_errs v5.2 (3 : Int32) (v5.2 0 17)) rfl rfl rfl rfl rfl (Or.inl ⟨12, _, _, rfl, rfl, rfl⟩) rfl rfl (sc_Mo_Mo_0 v5.2) rfl rfl (pc_Mo_Mo_0 v5.2 (F_Mo_errs (3 : Int32) (v5.2 0 17) v5.2)) ?_
        refine sv_Q.go (fun gm_10 => (63, [some (.ref 0), some (.int v2.1), some (.int v5.1), none], [], (W_Mo gm_10))) (fun gm_10 => ?_)
        exact sv_Q.z rfl
def F_Mo_readBox (N : Nat) (gm : Nat → Nat → Int32) : Option ((Nat → Nat → Int32)) := (if sv_in (7 : Int32) 90 then (if sv_in (6 : Int32) 90 then (Option.bind (F_Mo_number N (0 : Int32) ((gm 2 ((6 : Int32)).toNatClampNeg) - (1 : Int32)) gm) fun (v3 : Int32 × (Nat → Nat → Int32)) => (if sv_in ((3 : Int32) * (gm 2 ((7 : Int32)).toNatClampNeg)) 72 then (sv_let (sa v3.2 3 ((3 : Int32) * (gm 2 ((7 : Int32)).toNatClampNeg)) v3.1) fun (gm_6 : Nat → Nat → Int32) => (Option.bind (F_Mo_passes N 17 gm_6) fun (v7 : (Nat → Nat → Int32)) => (Option.bind (F_Mo_number N (1 : Int32) (99 : Int32) v7) fun (v9 : Int32 × (Nat → Nat → Int32)) => (if sv_in (((3 : Int32) * (gm 2 ((7 : Int32)).toNatClampNeg)) + (1 : Int32)) 72 then (sv_let (sa v9.2 3 (((3 : Int32) * (gm 2 ((7 : Int32)).toNatClampNeg)) + (1 : Int32)) v9.1) fun (gm_12 : Nat → Nat → Int32) => (Option.bind (F_Mo_eats N 18 gm_12) fun (v13 : Int32 × (Nat → Nat → Int32)) => (Option.bind (if v13.1 = 0 then some ((1 : Int32), v13.2) else (Option.bind (F_Mo_number N (1 : Int32) (5 : Int32) v13.2) fun (v16 : Int32 × (Nat → Nat → Int32)) => some (v16.1, v16.2))) fun (v18 : Int32 × (Nat → Nat → Int32)) => (if sv_in (((3 : Int32) * (gm 2 ((7 : Int32)).toNatClampNeg)) + (2 : Int32)) 72 then (sv_let (sa v18.2 3 (((3 : Int32) * (gm 2 ((7 : Int32)).toNatClampNeg)) + (2 : Int32)) v18.1) fun (gm_20 : Nat → Nat → Int32) => (if sv_in (7 : Int32) 90 then (if sv_in (7 : Int32) 90 then (sv_let (sa gm_20 2 (7 : Int32) ((gm_20 2 ((7 : Int32)).toNatClampNeg) + (1 : Int32))) fun (gm_23 : Nat → Nat → Int32) => (some gm_23)) else none) else none)) else none)))) else none)))) else none)) else none) else none)
set_option maxHeartbeats 4000000 in
set_option maxRecDepth 100000 in
theorem r_Mo_readBox {X : Nat × (Nat → Int32)} (N : Nat) (gm : Nat → Nat → Int32) : ∀ x, (F_Mo_readBox N gm) = some x → sv_R X 10 M_Mo_readBox [.ref 0] (W_Mo gm) none (W_Mo x) := by
  refine sv_Q.R (res := (fun (x : (Nat → Nat → Int32)) => ((none : Option Value), (W_Mo x)))) g_Mo_readBox rfl ?_
  unfold F_Mo_readBox
  refine sv_Q.s (σ' := (7, [some (.ref 0), none], [.int (7 : Int32), .ref 2, .int (3 : Int32)], (W_Mo gm))) 4 rfl ?_
  refine sv_Q.g (σ' := (8, [some (.ref 0), none], [.int (gm 2 ((7 : Int32)).toNatClampNeg), .int (3 : Int32)], (W_Mo gm))) (c := sv_in (7 : Int32) 90) rfl (fun c1 => ?_)
  refine sv_Q.s (σ' := (23, [some (.ref 0), some (.int ((3 : Int32) * (gm 2 ((7 : Int32)).toNatClampNeg)))], [.int (6 : Int32), .ref 2, .int (0 : Int32), .ref 0, .int ((3 : Int32) * (gm 2 ((7 : Int32)).toNatClampNeg)), .ref 3], (W_Mo gm))) 10 rfl ?_
  refine sv_Q.g (σ' := (24, [some (.ref 0), some (.int ((3 : Int32) * (gm 2 ((7 : Int32)).toNatClampNeg)))], [.int (gm 2 ((6 : Int32)).toNatClampNeg), .int (0 : Int32), .ref 0, .int ((3 : Int32) * (gm 2 ((7 : Int32)).toNatClampNeg)), .ref 3], (W_Mo gm))) (c := sv_in (6 : Int32) 90) rfl (fun c2 => ?_)
  refine sv_Q.s (σ' := (26, [some (.ref 0), some (.int ((3 : Int32) * (gm 2 ((7 : Int32)).toNatClampNeg)))], [.int ((gm 2 ((6 : Int32)).toNatClampNeg) - (1 : Int32)), .int (0 : Int32), .ref 0, .int ((3 : Int32) * (gm 2 ((7 : Int32)).toNatClampNeg)), .ref 3], (W_Mo gm))) 2 rfl ?_
  refine sv_Q.o (fun v3 e4 => ?_)
  refine sv_Q.V (b := 0) (av := [.int (0 : Int32), .int ((gm 2 ((6 : Int32)).toNatClampNeg) - (1 : Int32))]) (ps := [0, 1, 2, 3, 4, 5, 6, 7, 8, 9, 10, 11, 12, 13, 14, 15, 16, 17, 18, 19, 20, 21, 22]) (rest := [.int ((3 : Int32) * (gm 2 ((7 : Int32)).toNatClampNeg)), .ref 3]) (cs1 := (W_Mo gm)) (cs2 := (W_Mo v3.2)) (st' := [.int v3.1, .int ((3 : Int32) * (gm 2 ((7 : Int32)).toNatClampNeg)), .ref 3]) (cs' := (W_Mo v3.2)) (q := (26, .null, 0, 0, 0)) lk_Mo_176 (r_Mo_number N gm (0 : Int32) ((gm 2 ((6 : Int32)).toNatClampNeg) - (1 : Int32)) v3 e4) rfl rfl rfl rfl rfl (Or.inl ⟨12, _, _, rfl, rfl, rfl⟩) rfl rfl (sc_Mo_Mo_0 gm) rfl rfl (pc_Mo_Mo_0 gm v3.2) ?_
  refine sv_Q.g (σ' := (30, [some (.ref 0), some (.int ((3 : Int32) * (gm 2 ((7 : Int32)).toNatClampNeg)))], [], (W_Mo (sa v3.2 3 ((3 : Int32) * (gm 2 ((7 : Int32)).toNatClampNeg)) v3.1)))) (c := sv_in ((3 : Int32) * (gm 2 ((7 : Int32)).toNatClampNeg)) 72) rfl (fun c5 => ?_)
  refine sv_Q.go (fun gm_6 => (30, [some (.ref 0), some (.int ((3 : Int32) * (gm 2 ((7 : Int32)).toNatClampNeg)))], [], (W_Mo gm_6))) (fun gm_6 => ?_)
  refine sv_Q.s (σ' := (33, [some (.ref 0), some (.int ((3 : Int32) * (gm 2 ((7 : Int32)).toNatClampNeg)))], [.ref 1017, .ref 0], (W_Mo gm_6))) 2 rfl ?_
  refine sv_Q.o (fun v7 e8 => ?_)
  refine sv_Q.V (b := 0) (av := [.ref 1017]) (ps := [0, 1, 2, 3, 4, 5, 6, 7, 8, 9, 10, 11, 12, 13, 14, 15, 16, 17, 18, 19, 20, 21, 22]) (rest := []) (cs1 := (W_Mo gm_6)) (cs2 := (W_Mo v7)) (st' := []) (cs' := (W_Mo v7)) (q := (33, .null, 0, 0, 0)) lk_Mo_170 (r_Mo_passes N gm_6 17 v7 e8) rfl rfl rfl rfl rfl (Or.inl ⟨12, _, _, rfl, rfl, rfl⟩) rfl rfl (sc_Mo_Mo_0 gm_6) rfl rfl (pc_Mo_Mo_0 gm_6 v7) ?_
  refine sv_Q.s (σ' := (47, [some (.ref 0), some (.int ((3 : Int32) * (gm 2 ((7 : Int32)).toNatClampNeg)))], [.int (99 : Int32), .int (1 : Int32), .ref 0, .int (((3 : Int32) * (gm 2 ((7 : Int32)).toNatClampNeg)) + (1 : Int32)), .ref 3], (W_Mo v7))) 8 rfl ?_
  refine sv_Q.o (fun v9 e10 => ?_)
  refine sv_Q.V (b := 0) (av := [.int (1 : Int32), .int (99 : Int32)]) (ps := [0, 1, 2, 3, 4, 5, 6, 7, 8, 9, 10, 11, 12, 13, 14, 15, 16, 17, 18, 19, 20, 21, 22]) (rest := [.int (((3 : Int32) * (gm 2 ((7 : Int32)).toNatClampNeg)) + (1 : Int32)), .ref 3]) (cs1 := (W_Mo v7)) (cs2 := (W_Mo v9.2)) (st' := [.int v9.1, .int (((3 : Int32) * (gm 2 ((7 : Int32)).toNatClampNeg)) + (1 : Int32)), .ref 3]) (cs' := (W_Mo v9.2)) (q := (47, .null, 0, 0, 0)) lk_Mo_176 (r_Mo_number N v7 (1 : Int32) (99 : Int32) v9 e10) rfl rfl rfl rfl rfl (Or.inl ⟨12, _, _, rfl, rfl, rfl⟩) rfl rfl (sc_Mo_Mo_0 v7) rfl rfl (pc_Mo_Mo_0 v7 v9.2) ?_
  refine sv_Q.g (σ' := (51, [some (.ref 0), some (.int ((3 : Int32) * (gm 2 ((7 : Int32)).toNatClampNeg)))], [], (W_Mo (sa v9.2 3 (((3 : Int32) * (gm 2 ((7 : Int32)).toNatClampNeg)) + (1 : Int32)) v9.1)))) (c := sv_in (((3 : Int32) * (gm 2 ((7 : Int32)).toNatClampNeg)) + (1 : Int32)) 72) rfl (fun c11 => ?_)
  refine sv_Q.go (fun gm_12 => (51, [some (.ref 0), some (.int ((3 : Int32) * (gm 2 ((7 : Int32)).toNatClampNeg)))], [], (W_Mo gm_12))) (fun gm_12 => ?_)
  refine sv_Q.s (σ' := (61, [some (.ref 0), some (.int ((3 : Int32) * (gm 2 ((7 : Int32)).toNatClampNeg)))], [.ref 1018, .ref 0, .int (((3 : Int32) * (gm 2 ((7 : Int32)).toNatClampNeg)) + (2 : Int32)), .ref 3], (W_Mo gm_12))) 7 rfl ?_
  refine sv_Q.o (fun v13 e14 => ?_)
  refine sv_Q.V (b := 0) (av := [.ref 1018]) (ps := [0, 1, 2, 3, 4, 5, 6, 7, 8, 9, 10, 11, 12, 13, 14, 15, 16, 17, 18, 19, 20, 21, 22]) (rest := [.int (((3 : Int32) * (gm 2 ((7 : Int32)).toNatClampNeg)) + (2 : Int32)), .ref 3]) (cs1 := (W_Mo gm_12)) (cs2 := (W_Mo v13.2)) (st' := [.int v13.1, .int (((3 : Int32) * (gm 2 ((7 : Int32)).toNatClampNeg)) + (2 : Int32)), .ref 3]) (cs' := (W_Mo v13.2)) (q := (61, .null, 0, 0, 0)) lk_Mo_159 (r_Mo_eats N gm_12 18 v13 e14) rfl rfl rfl rfl rfl (Or.inl ⟨12, _, _, rfl, rfl, rfl⟩) rfl rfl (sc_Mo_Mo_0 gm_12) rfl rfl (pc_Mo_Mo_0 gm_12 v13.2) ?_
  refine sv_Q.lo (fun v18 => (77, [some (.ref 0), none], [.int v18.1, .int (((3 : Int32) * (gm 2 ((7 : Int32)).toNatClampNeg)) + (2 : Int32)), .ref 3], (W_Mo v18.2))) (fun v18 => ?_) ?_
  · refine sv_Q.g (σ' := (78, [some (.ref 0), none], [], (W_Mo (sa v18.2 3 (((3 : Int32) * (gm 2 ((7 : Int32)).toNatClampNeg)) + (2 : Int32)) v18.1)))) (c := sv_in (((3 : Int32) * (gm 2 ((7 : Int32)).toNatClampNeg)) + (2 : Int32)) 72) rfl (fun c19 => ?_)
    refine sv_Q.go (fun gm_20 => (78, [some (.ref 0), none], [], (W_Mo gm_20))) (fun gm_20 => ?_)
    refine sv_Q.s (σ' := (85, [some (.ref 0), none], [.int (7 : Int32), .ref 2, .int (7 : Int32), .ref 2], (W_Mo gm_20))) 4 rfl ?_
    refine sv_Q.g (σ' := (86, [some (.ref 0), none], [.int (gm_20 2 ((7 : Int32)).toNatClampNeg), .int (7 : Int32), .ref 2], (W_Mo gm_20))) (c := sv_in (7 : Int32) 90) rfl (fun c21 => ?_)
    refine sv_Q.s (σ' := (88, [some (.ref 0), none], [.int ((gm_20 2 ((7 : Int32)).toNatClampNeg) + (1 : Int32)), .int (7 : Int32), .ref 2], (W_Mo gm_20))) 2 rfl ?_
    refine sv_Q.g (σ' := (89, [some (.ref 0), none], [], (W_Mo (sa gm_20 2 (7 : Int32) ((gm_20 2 ((7 : Int32)).toNatClampNeg) + (1 : Int32)))))) (c := sv_in (7 : Int32) 90) rfl (fun c22 => ?_)
    refine sv_Q.go (fun gm_23 => (89, [some (.ref 0), none], [], (W_Mo gm_23))) (fun gm_23 => ?_)
    exact sv_Q.z ⟨True, rfl, trivial, rfl⟩
  · refine sv_Q.b rfl (fun c15 => ?_) (fun c15 => ?_)
    · refine sv_Q.s (σ' := (77, [some (.ref 0), some (.int ((3 : Int32) * (gm 2 ((7 : Int32)).toNatClampNeg)))], [.int (1 : Int32), .int (((3 : Int32) * (gm 2 ((7 : Int32)).toNatClampNeg)) + (2 : Int32)), .ref 3], (W_Mo v13.2))) 1 rfl ?_
      refine sv_Q.f (lo' := [some (.ref 0), none]) ⟨rfl, trivial⟩ ?_
      exact sv_Q.z rfl
    · refine sv_Q.s (σ' := (70, [some (.ref 0), some (.int ((3 : Int32) * (gm 2 ((7 : Int32)).toNatClampNeg)))], [.int (5 : Int32), .int (1 : Int32), .ref 0, .int (((3 : Int32) * (gm 2 ((7 : Int32)).toNatClampNeg)) + (2 : Int32)), .ref 3], (W_Mo v13.2))) 3 rfl ?_
      refine sv_Q.o (fun v16 e17 => ?_)
      refine sv_Q.V (b := 0) (av := [.int (1 : Int32), .int (5 : Int32)]) (ps := [0, 1, 2, 3, 4, 5, 6, 7, 8, 9, 10, 11, 12, 13, 14, 15, 16, 17, 18, 19, 20, 21, 22]) (rest := [.int (((3 : Int32) * (gm 2 ((7 : Int32)).toNatClampNeg)) + (2 : Int32)), .ref 3]) (cs1 := (W_Mo v13.2)) (cs2 := (W_Mo v16.2)) (st' := [.int v16.1, .int (((3 : Int32) * (gm 2 ((7 : Int32)).toNatClampNeg)) + (2 : Int32)), .ref 3]) (cs' := (W_Mo v16.2)) (q := (70, .null, 0, 0, 0)) lk_Mo_176 (r_Mo_number N v13.2 (1 : Int32) (5 : Int32) v16 e17) rfl rfl rfl rfl rfl (Or.inl ⟨12, _, _, rfl, rfl, rfl⟩) rfl rfl (sc_Mo_Mo_0 v13.2) rfl rfl (pc_Mo_Mo_0 v13.2 v16.2) ?_
      refine sv_Q.s (σ' := (77, [some (.ref 0), some (.int ((3 : Int32) * (gm 2 ((7 : Int32)).toNatClampNeg)))], [.int v16.1, .int (((3 : Int32) * (gm 2 ((7 : Int32)).toNatClampNeg)) + (2 : Int32)), .ref 3], (W_Mo v16.2))) 1 rfl ?_
      refine sv_Q.f (lo' := [some (.ref 0), none]) ⟨rfl, trivial⟩ ?_
      exact sv_Q.z rfl
def F_Mo_readLine (N : Nat) (a0 : Int32) (gm : Nat → Nat → Int32) : Option ((Nat → Nat → Int32)) := (if ¬ a0 = 0 then (Option.bind (F_Mo_eats N 6 gm) fun (v2 : Int32 × (Nat → Nat → Int32)) => (if v2.1 = 0 then (Option.bind (F_Mo_isWord N 8 v2.2) fun (v5 : Int32) => (if v5 = 0 then (Option.bind (F_Mo_eats N 9 v2.2) fun (v8 : Int32 × (Nat → Nat → Int32)) => (if v8.1 = 0 then (Option.bind (F_Mo_isWord N 14 v8.2) fun (v11 : Int32) => (if v11 = 0 then (Option.bind (F_Mo_eats N 15 v8.2) fun (v14 : Int32 × (Nat → Nat → Int32)) => (if v14.1 = 0 then (Option.bind (F_Mo_isWord N 16 v14.2) fun (v17 : Int32) => (if v17 = 0 then (sv_let (F_Mo_errs (1 : Int32) (v14.2 0 17) v14.2) fun (gm_20 : Nat → Nat → Int32) => (sv_let (if (F_Mo_good gm_20) = 0 then gm_20 else (if ¬ (gm_20 0 18) = (3 : Int32) then (sv_let (F_Mo_errs (1 : Int32) (gm_20 0 17) gm_20) fun (gm_23 : Nat → Nat → Int32) => gm_23) else (if (gm_20 0 19) = (59 : Int32) then gm_20 else (sv_let (F_Mo_errs (1 : Int32) (gm_20 0 17) gm_20) fun (gm_25 : Nat → Nat → Int32) => gm_25)))) fun (v26 : (Nat → Nat → Int32)) => (if (F_Mo_good v26) = 0 then (some v26) else (Option.bind (F_Mo_advance N v26) fun (v28 : (Nat → Nat → Int32)) => (some v28))))) else (if sv_in (7 : Int32) 90 then (sv_let (if ¬ (v14.2 2 ((7 : Int32)).toNatClampNeg) = (24 : Int32) then v14.2 else (sv_let (F_Mo_errs (4 : Int32) (v14.2 0 17) v14.2) fun (gm_32 : Nat → Nat → Int32) => gm_32)) fun (v33 : (Nat → Nat → Int32)) => (if ¬ (F_Mo_good v33) = 0 then (Option.bind (F_Mo_advance N v33) fun (v35 : (Nat → Nat → Int32)) => (Option.bind (F_Mo_readBox N v35) fun (v37 : (Nat → Nat → Int32)) => (sv_let (if (F_Mo_good v37) = 0 then v37 else (if ¬ (v37 0 18) = (3 : Int32) then (sv_let (F_Mo_errs (1 : Int32) (v37 0 17) v37) fun (gm_41 : Nat → Nat → Int32) => gm_41) else (if (v37 0 19) = (59 : Int32) then v37 else (sv_let (F_Mo_errs (1 : Int32) (v37 0 17) v37) fun (gm_43 : Nat → Nat → Int32) => gm_43)))) fun (v44 : (Nat → Nat → Int32)) => (if (F_Mo_good v44) = 0 then (some v44) else (Option.bind (F_Mo_advance N v44) fun (v46 : (Nat → Nat → Int32)) => (some v46)))))) else (some v33))) else none))) else (Option.bind (F_Mo_readApart N v14.2) fun (v48 : (Nat → Nat → Int32)) => (sv_let (if (F_Mo_good v48) = 0 then v48 else (if ¬ (v48 0 18) = (3 : Int32) then (sv_let (F_Mo_errs (1 : Int32) (v48 0 17) v48) fun (gm_52 : Nat → Nat → Int32) => gm_52) else (if (v48 0 19) = (59 : Int32) then v48 else (sv_let (F_Mo_errs (1 : Int32) (v48 0 17) v48) fun (gm_54 : Nat → Nat → Int32) => gm_54)))) fun (v55 : (Nat → Nat → Int32)) => (if (F_Mo_good v55) = 0 then (some v55) else (Option.bind (F_Mo_advance N v55) fun (v57 : (Nat → Nat → Int32)) => (some v57))))))) else (if sv_in (6 : Int32) 90 then (sv_let (if ¬ (v8.2 2 ((6 : Int32)).toNatClampNeg) = (7 : Int32) then v8.2 else (sv_let (F_Mo_errs (4 : Int32) (v8.2 0 17) v8.2) fun (gm_61 : Nat → Nat → Int32) => gm_61)) fun (v62 : (Nat → Nat → Int32)) => (if ¬ (F_Mo_good v62) = 0 then (Option.bind (F_Mo_advance N v62) fun (v64 : (Nat → Nat → Int32)) => (if sv_in (6 : Int32) 90 then (Option.bind (F_Mo_eats N 4 v64) fun (v67 : Int32 × (Nat → Nat → Int32)) => (Option.bind (if v67.1 = 0 then (Option.bind (F_Mo_eats N 3 v67.2) fun (v70 : Int32 × (Nat → Nat → Int32)) => (if v70.1 = 0 then some ((0 : Int32), v70.2) else some ((2 : Int32), v70.2))) else some ((1 : Int32), v67.2)) fun (v73 : Int32 × (Nat → Nat → Int32)) => (if sv_in ((34 : Int32) + (v64 2 ((6 : Int32)).toNatClampNeg)) 90 then (sv_let (sa v73.2 2 ((34 : Int32) + (v64 2 ((6 : Int32)).toNatClampNeg)) v73.1) fun (gm_75 : Nat → Nat → Int32) => (if sv_in (6 : Int32) 90 then (if sv_in (6 : Int32) 90 then (sv_let (sa gm_75 2 (6 : Int32) ((gm_75 2 ((6 : Int32)).toNatClampNeg) + (1 : Int32))) fun (gm_78 : Nat → Nat → Int32) => (sv_let (if (F_Mo_good gm_78) = 0 then gm_78 else (if ¬ (gm_78 0 18) = (3 : Int32) then (sv_let (F_Mo_errs (1 : Int32) (gm_78 0 17) gm_78) fun (gm_81 : Nat → Nat → Int32) => gm_81) else (if (gm_78 0 19) = (59 : Int32) then gm_78 else (sv_let (F_Mo_errs (1 : Int32) (gm_78 0 17) gm_78) fun (gm_83 : Nat → Nat → Int32) => gm_83)))) fun (v84 : (Nat → Nat → Int32)) => (if (F_Mo_good v84) = 0 then (some v84) else (Option.bind (F_Mo_advance N v84) fun (v86 : (Nat → Nat → Int32)) => (some v86))))) else none) else none)) else none))) else none)) else (some v62))) else none))) else (Option.bind (F_Mo_readLevel N v8.2) fun (v88 : (Nat → Nat → Int32)) => (sv_let (if (F_Mo_good v88) = 0 then v88 else (if ¬ (v88 0 18) = (3 : Int32) then (sv_let (F_Mo_errs (1 : Int32) (v88 0 17) v88) fun (gm_92 : Nat → Nat → Int32) => gm_92) else (if (v88 0 19) = (59 : Int32) then v88 else (sv_let (F_Mo_errs (1 : Int32) (v88 0 17) v88) fun (gm_94 : Nat → Nat → Int32) => gm_94)))) fun (v95 : (Nat → Nat → Int32)) => (if (F_Mo_good v95) = 0 then (some v95) else (Option.bind (F_Mo_advance N v95) fun (v97 : (Nat → Nat → Int32)) => (some v97))))))) else (sv_let (if (v2.2 0 5) = 0 then v2.2 else (sv_let (F_Mo_errs (3 : Int32) (v2.2 0 17) v2.2) fun (gm_100 : Nat → Nat → Int32) => gm_100)) fun (v101 : (Nat → Nat → Int32)) => (sv_let (ss v101 5 (1 : Int32)) fun (gm_102 : Nat → Nat → Int32) => (Option.bind (if (F_Mo_good gm_102) = 0 then some gm_102 else (Option.bind (F_Mo_advance N gm_102) fun (v104 : (Nat → Nat → Int32)) => some v104)) fun (v106 : (Nat → Nat → Int32)) => (Option.bind (F_Mo_number N (1 : Int32) (999 : Int32) v106) fun (v107 : Int32 × (Nat → Nat → Int32)) => (if sv_in (4 : Int32) 90 then (sv_let (sa v107.2 2 (4 : Int32) v107.1) fun (gm_110 : Nat → Nat → Int32) => (Option.bind (F_Mo_number N (1 : Int32) (999 : Int32) gm_110) fun (v111 : Int32 × (Nat → Nat → Int32)) => (if sv_in (5 : Int32) 90 then (sv_let (sa v111.2 2 (5 : Int32) v111.1) fun (gm_114 : Nat → Nat → Int32) => (sv_let (if (F_Mo_good gm_114) = 0 then gm_114 else (if ¬ (gm_114 0 18) = (3 : Int32) then (sv_let (F_Mo_errs (1 : Int32) (gm_114 0 17) gm_114) fun (gm_117 : Nat → Nat → Int32) => gm_117) else (if (gm_114 0 19) = (59 : Int32) then gm_114 else (sv_let (F_Mo_errs (1 : Int32) (gm_114 0 17) gm_114) fun (gm_119 : Nat → Nat → Int32) => gm_119)))) fun (v120 : (Nat → Nat → Int32)) => (if (F_Mo_good v120) = 0 then (some v120) else (Option.bind (F_Mo_advance N v120) fun (v122 : (Nat → Nat → Int32)) => (some v122))))) else none))) else none))))))) else (Option.bind (F_Mo_readWall N v2.2) fun (v124 : (Nat → Nat → Int32)) => (sv_let (if (F_Mo_good v124) = 0 then v124 else (if ¬ (v124 0 18) = (3 : Int32) then (sv_let (F_Mo_errs (1 : Int32) (v124 0 17) v124) fun (gm_128 : Nat → Nat → Int32) => gm_128) else (if (v124 0 19) = (59 : Int32) then v124 else (sv_let (F_Mo_errs (1 : Int32) (v124 0 17) v124) fun (gm_130 : Nat → Nat → Int32) => gm_130)))) fun (v131 : (Nat → Nat → Int32)) => (if (F_Mo_good v131) = 0 then (some v131) else (Option.bind (F_Mo_advance N v131) fun (v133 : (Nat → Nat → Int32)) => (some v133))))))) else (Option.bind (F_Mo_readShip N gm) fun (v135 : (Nat → Nat → Int32)) => (sv_let (if (F_Mo_good v135) = 0 then v135 else (if ¬ (v135 0 18) = (3 : Int32) then (sv_let (F_Mo_errs (1 : Int32) (v135 0 17) v135) fun (gm_139 : Nat → Nat → Int32) => gm_139) else (if (v135 0 19) = (59 : Int32) then v135 else (sv_let (F_Mo_errs (1 : Int32) (v135 0 17) v135) fun (gm_141 : Nat → Nat → Int32) => gm_141)))) fun (v142 : (Nat → Nat → Int32)) => (if (F_Mo_good v142) = 0 then (some v142) else (Option.bind (F_Mo_advance N v142) fun (v144 : (Nat → Nat → Int32)) => (some v144))))))
set_option maxHeartbeats 4000000 in
set_option maxRecDepth 100000 in
theorem r_Mo_readLine {X : Nat × (Nat → Int32)} (N : Nat) (gm : Nat → Nat → Int32) (a0 : Int32) : ∀ x, (F_Mo_readLine N a0 gm) = some x → sv_R X 11 M_Mo_readLine [.ref 0, .int a0] (W_Mo gm) none (W_Mo x) := by
  refine sv_Q.R (res := (fun (x : (Nat → Nat → Int32)) => ((none : Option Value), (W_Mo x)))) g_Mo_readLine rfl ?_
  unfold F_Mo_readLine
  refine sv_Q.s (σ' := (1, [some (.ref 0), some (.int a0)], [.int a0], (W_Mo gm))) 1 rfl ?_
  refine sv_Q.b rfl (fun c1 => ?_) (fun c1 => ?_)
  · refine sv_Q.s (σ' := (14, [some (.ref 0), some (.int a0)], [.ref 1006, .ref 0], (W_Mo gm))) 2 rfl ?_
    refine sv_Q.o (fun v2 e3 => ?_)
    refine sv_Q.V (b := 0) (av := [.ref 1006]) (ps := [0, 1, 2, 3, 4, 5, 6, 7, 8, 9, 10, 11, 12, 13, 14, 15, 16, 17, 18, 19, 20, 21, 22]) (rest := []) (cs1 := (W_Mo gm)) (cs2 := (W_Mo v2.2)) (st' := [.int v2.1]) (cs' := (W_Mo v2.2)) (q := (14, .null, 0, 0, 0)) lk_Mo_159 (r_Mo_eats N gm 6 v2 e3) rfl rfl rfl rfl rfl (Or.inl ⟨12, _, _, rfl, rfl, rfl⟩) rfl rfl (sc_Mo_Mo_0 gm) rfl rfl (pc_Mo_Mo_0 gm v2.2) ?_
    refine sv_Q.b rfl (fun c4 => ?_) (fun c4 => ?_)
    · refine sv_Q.s (σ' := (30, [some (.ref 0), some (.int a0)], [.ref 1008, .ref 0], (W_Mo v2.2))) 2 rfl ?_
      refine sv_Q.o (fun v5 e6 => ?_)
      refine sv_Q.V (b := 0) (av := [.ref 1008]) (ps := [0, 1, 2, 3, 4, 5, 6, 7, 8, 9, 10, 11, 12, 13, 14, 15, 16, 17, 18, 19, 20, 21, 22]) (rest := []) (cs1 := (W_Mo v2.2)) (cs2 := (W_Mo v2.2)) (st' := [.int v5]) (cs' := (W_Mo v2.2)) (q := (30, .null, 0, 0, 0)) lk_Mo_152 (r_Mo_isWord N v2.2 8 v5 e6) rfl rfl rfl rfl rfl (Or.inl ⟨12, _, _, rfl, rfl, rfl⟩) rfl rfl (sc_Mo_Mo_0 v2.2) rfl rfl (pc_Mo_Mo_0 v2.2 v2.2) ?_
      refine sv_Q.b rfl (fun c7 => ?_) (fun c7 => ?_)
      · refine sv_Q.s (σ' := (102, [some (.ref 0), some (.int a0)], [.ref 1009, .ref 0], (W_Mo v2.2))) 2 rfl ?_
        refine sv_Q.o (fun v8 e9 => ?_)
        refine sv_Q.V (b := 0) (av := [.ref 1009]) (ps := [0, 1, 2, 3, 4, 5, 6, 7, 8, 9, 10, 11, 12, 13, 14, 15, 16, 17, 18, 19, 20, 21, 22]) (rest := []) (cs1 := (W_Mo v2.2)) (cs2 := (W_Mo v8.2)) (st' := [.int v8.1]) (cs' := (W_Mo v8.2)) (q := (102, .null, 0, 0, 0)) lk_Mo_159 (r_Mo_eats N v2.2 9 v8 e9) rfl rfl rfl rfl rfl (Or.inl ⟨12, _, _, rfl, rfl, rfl⟩) rfl rfl (sc_Mo_Mo_0 v2.2) rfl rfl (pc_Mo_Mo_0 v2.2 v8.2) ?_
        refine sv_Q.b rfl (fun c10 => ?_) (fun c10 => ?_)
        · refine sv_Q.s (σ' := (118, [some (.ref 0), some (.int a0)], [.ref 1014, .ref 0], (W_Mo v8.2))) 2 rfl ?_
          refine sv_Q.o (fun v11 e12 => ?_)
          refine sv_Q.V (b := 0) (av := [.ref 1014]) (ps := [0, 1, 2, 3, 4, 5, 6, 7, 8, 9, 10, 11, 12, 13, 14, 15, 16, 17, 18, 19, 20, 21, 22]) (rest := []) (cs1 := (W_Mo v8.2)) (cs2 := (W_Mo v8.2)) (st' := [.int v11]) (cs' := (W_Mo v8.2)) (q := (118, .null, 0, 0, 0)) lk_Mo_152 (r_Mo_isWord N v8.2 14 v11 e12) rfl rfl rfl rfl rfl (Or.inl ⟨12, _, _, rfl, rfl, rfl⟩) rfl rfl (sc_Mo_Mo_0 v8.2) rfl rfl (pc_Mo_Mo_0 v8.2 v8.2) ?_
          refine sv_Q.b rfl (fun c13 => ?_) (fun c13 => ?_)
          · refine sv_Q.s (σ' := (216, [some (.ref 0), some (.int a0)], [.ref 1015, .ref 0], (W_Mo v8.2))) 2 rfl ?_
            refine sv_Q.o (fun v14 e15 => ?_)
            refine sv_Q.V (b := 0) (av := [.ref 1015]) (ps := [0, 1, 2, 3, 4, 5, 6, 7, 8, 9, 10, 11, 12, 13, 14, 15, 16, 17, 18, 19, 20, 21, 22]) (rest := []) (cs1 := (W_Mo v8.2)) (cs2 := (W_Mo v14.2)) (st' := [.int v14.1]) (cs' := (W_Mo v14.2)) (q := (216, .null, 0, 0, 0)) lk_Mo_159 (r_Mo_eats N v8.2 15 v14 e15) rfl rfl rfl rfl rfl (Or.inl ⟨12, _, _, rfl, rfl, rfl⟩) rfl rfl (sc_Mo_Mo_0 v8.2) rfl rfl (pc_Mo_Mo_0 v8.2 v14.2) ?_
            refine sv_Q.b rfl (fun c16 => ?_) (fun c16 => ?_)
            · refine sv_Q.s (σ' := (232, [some (.ref 0), some (.int a0)], [.ref 1016, .ref 0], (W_Mo v14.2))) 2 rfl ?_
              refine sv_Q.o (fun v17 e18 => ?_)
              refine sv_Q.V (b := 0) (av := [.ref 1016]) (ps := [0, 1, 2, 3, 4, 5, 6, 7, 8, 9, 10, 11, 12, 13, 14, 15, 16, 17, 18, 19, 20, 21, 22]) (rest := []) (cs1 := (W_Mo v14.2)) (cs2 := (W_Mo v14.2)) (st' := [.int v17]) (cs' := (W_Mo v14.2)) (q := (232, .null, 0, 0, 0)) lk_Mo_152 (r_Mo_isWord N v14.2 16 v17 e18) rfl rfl rfl rfl rfl (Or.inl ⟨12, _, _, rfl, rfl, rfl⟩) rfl rfl (sc_Mo_Mo_0 v14.2) rfl rfl (pc_Mo_Mo_0 v14.2 v14.2) ?_
              refine sv_Q.b rfl (fun c19 => ?_) (fun c19 => ?_)
              · refine sv_Q.s (σ' := (284, [some (.ref 0), some (.int a0)], [.int (v14.2 0 17), .int (1 : Int32), .ref 0], (W_Mo v14.2))) 4 rfl ?_
                refine sv_Q.V (b := 0) (av := [.int (1 : Int32), .int (v14.2 0 17)]) (ps := [0, 1, 2, 3, 4, 5, 6, 7, 8, 9, 10, 11, 12, 13, 14, 15, 16, 17, 18, 19, 20, 21, 22]) (rest := []) (cs1 := (W_Mo v14.2)) (cs2 := (W_Mo (F_Mo_errs (1 : Int32) (v14.2 0 17) v14.2))) (st' := []) (cs' := (W_Mo (F_Mo_errs (1 : Int32) (v14.2 0 17) v14.2))) (q := (284, .null, 0, 0, 0)) lk_Mo_162 (t_Mo_errs v14.2 (1 : Int32) (v14.2 0 17)) rfl rfl rfl rfl rfl (Or.inl ⟨12, _, _, rfl, rfl, rfl⟩) rfl rfl (sc_Mo_Mo_0 v14.2) rfl rfl (pc_Mo_Mo_0 v14.2 (F_Mo_errs (1 : Int32) (v14.2 0 17) v14.2)) ?_
                refine sv_Q.go (fun gm_20 => (287, [some (.ref 0), some (.int a0)], [], (W_Mo gm_20))) (fun gm_20 => ?_)
                refine sv_Q.s (σ' := (288, [some (.ref 0), some (.int a0)], [.ref 0], (W_Mo gm_20))) 1 rfl ?_
                refine sv_Q.V (b := 0) (av := []) (ps := [0, 1, 2, 3, 4, 5, 6, 7, 8, 9, 10, 11, 12, 13, 14, 15, 16, 17, 18, 19, 20, 21, 22]) (rest := []) (cs1 := (W_Mo gm_20)) (cs2 := (W_Mo gm_20)) (st' := [.int (F_Mo_good gm_20)]) (cs' := (W_Mo gm_20)) (q := (288, .null, 0, 0, 0)) lk_Mo_104 (t_Mo_good gm_20) rfl rfl rfl rfl rfl (Or.inl ⟨12, _, _, rfl, rfl, rfl⟩) rfl rfl (sc_Mo_Mo_0 gm_20) rfl rfl (pc_Mo_Mo_0 gm_20 gm_20) ?_
                refine sv_Q.l (fun v26 => (320, [some (.ref 0), none], [], (W_Mo v26))) (fun v26 => ?_) ?_
                · refine sv_Q.s (σ' := (321, [some (.ref 0), none], [.ref 0], (W_Mo v26))) 1 rfl ?_
                  refine sv_Q.V (b := 0) (av := []) (ps := [0, 1, 2, 3, 4, 5, 6, 7, 8, 9, 10, 11, 12, 13, 14, 15, 16, 17, 18, 19, 20, 21, 22]) (rest := []) (cs1 := (W_Mo v26)) (cs2 := (W_Mo v26)) (st' := [.int (F_Mo_good v26)]) (cs' := (W_Mo v26)) (q := (321, .null, 0, 0, 0)) lk_Mo_104 (t_Mo_good v26) rfl rfl rfl rfl rfl (Or.inl ⟨12, _, _, rfl, rfl, rfl⟩) rfl rfl (sc_Mo_Mo_0 v26) rfl rfl (pc_Mo_Mo_0 v26 v26) ?_
                  refine sv_Q.b rfl (fun c27 => ?_) (fun c27 => ?_)
                  · exact sv_Q.z ⟨True, rfl, trivial, rfl⟩
                  · refine sv_Q.s (σ' := (328, [some (.ref 0), none], [.ref 0], (W_Mo v26))) 1 rfl ?_
                    refine sv_Q.o (fun v28 e29 => ?_)
                    refine sv_Q.V (b := 0) (av := []) (ps := [0, 1, 2, 3, 4, 5, 6, 7, 8, 9, 10, 11, 12, 13, 14, 15, 16, 17, 18, 19, 20, 21, 22]) (rest := []) (cs1 := (W_Mo v26)) (cs2 := (W_Mo v28)) (st' := []) (cs' := (W_Mo v28)) (q := (328, .null, 0, 0, 0)) lk_Mo_156 (r_Mo_advance N v26 v28 e29) rfl rfl rfl rfl rfl (Or.inl ⟨12, _, _, rfl, rfl, rfl⟩) rfl rfl (sc_Mo_Mo_0 v26) rfl rfl (pc_Mo_Mo_0 v26 v28) ?_
                    exact sv_Q.z ⟨True, rfl, trivial, rfl⟩
                · refine sv_Q.sb rfl (fun c21 => ?_) (fun c21 => ?_)
                  · refine sv_Q.f (lo' := [some (.ref 0), none]) ⟨rfl, trivial⟩ ?_
                    exact sv_Q.z rfl
                  · refine sv_Q.s (σ' := (299, [some (.ref 0), some (.int a0)], [.int (3 : Int32), .int (gm_20 0 18)], (W_Mo gm_20))) 3 rfl ?_
                    refine sv_Q.sb rfl (fun c22 => ?_) (fun c22 => ?_)
                    · refine sv_Q.s (σ' := (317, [some (.ref 0), some (.int a0)], [.int (gm_20 0 17), .int (1 : Int32), .ref 0], (W_Mo gm_20))) 4 rfl ?_
                      refine sv_Q.V (b := 0) (av := [.int (1 : Int32), .int (gm_20 0 17)]) (ps := [0, 1, 2, 3, 4, 5, 6, 7, 8, 9, 10, 11, 12, 13, 14, 15, 16, 17, 18, 19, 20, 21, 22]) (rest := []) (cs1 := (W_Mo gm_20)) (cs2 := (W_Mo (F_Mo_errs (1 : Int32) (gm_20 0 17) gm_20))) (st' := []) (cs' := (W_Mo (F_Mo_errs (1 : Int32) (gm_20 0 17) gm_20))) (q := (317, .null, 0, 0, 0)) lk_Mo_162 (t_Mo_errs gm_20 (1 : Int32) (gm_20 0 17)) rfl rfl rfl rfl rfl (Or.inl ⟨12, _, _, rfl, rfl, rfl⟩) rfl rfl (sc_Mo_Mo_0 gm_20) rfl rfl (pc_Mo_Mo_0 gm_20 (F_Mo_errs (1 : Int32) (gm_20 0 17) gm_20)) ?_
                      refine sv_Q.gs (fun gm_23 => (320, [some (.ref 0), some (.int a0)], [], (W_Mo gm_23))) (fun gm_23 => ?_)
                      refine sv_Q.f (lo' := [some (.ref 0), none]) ⟨rfl, trivial⟩ ?_
                      exact sv_Q.z rfl
                    · refine sv_Q.s (σ' := (308, [some (.ref 0), some (.int a0)], [.int (59 : Int32), .int (gm_20 0 19)], (W_Mo gm_20))) 3 rfl ?_
                      refine sv_Q.sb rfl (fun c24 => ?_) (fun c24 => ?_)
                      · refine sv_Q.f (lo' := [some (.ref 0), none]) ⟨rfl, trivial⟩ ?_
                        exact sv_Q.z rfl
                      · refine sv_Q.s (σ' := (317, [some (.ref 0), some (.int a0)], [.int (gm_20 0 17), .int (1 : Int32), .ref 0], (W_Mo gm_20))) 4 rfl ?_
                        refine sv_Q.V (b := 0) (av := [.int (1 : Int32), .int (gm_20 0 17)]) (ps := [0, 1, 2, 3, 4, 5, 6, 7, 8, 9, 10, 11, 12, 13, 14, 15, 16, 17, 18, 19, 20, 21, 22]) (rest := []) (cs1 := (W_Mo gm_20)) (cs2 := (W_Mo (F_Mo_errs (1 : Int32) (gm_20 0 17) gm_20))) (st' := []) (cs' := (W_Mo (F_Mo_errs (1 : Int32) (gm_20 0 17) gm_20))) (q := (317, .null, 0, 0, 0)) lk_Mo_162 (t_Mo_errs gm_20 (1 : Int32) (gm_20 0 17)) rfl rfl rfl rfl rfl (Or.inl ⟨12, _, _, rfl, rfl, rfl⟩) rfl rfl (sc_Mo_Mo_0 gm_20) rfl rfl (pc_Mo_Mo_0 gm_20 (F_Mo_errs (1 : Int32) (gm_20 0 17) gm_20)) ?_
                        refine sv_Q.gs (fun gm_25 => (320, [some (.ref 0), some (.int a0)], [], (W_Mo gm_25))) (fun gm_25 => ?_)
                        refine sv_Q.f (lo' := [some (.ref 0), none]) ⟨rfl, trivial⟩ ?_
                        exact sv_Q.z rfl
              · refine sv_Q.s (σ' := (244, [some (.ref 0), some (.int a0)], [.int (7 : Int32), .ref 2], (W_Mo v14.2))) 3 rfl ?_
                refine sv_Q.g (σ' := (245, [some (.ref 0), some (.int a0)], [.int (v14.2 2 ((7 : Int32)).toNatClampNeg)], (W_Mo v14.2))) (c := sv_in (7 : Int32) 90) rfl (fun c30 => ?_)
                refine sv_Q.s (σ' := (247, [some (.ref 0), some (.int a0)], [.int (24 : Int32), .int (v14.2 2 ((7 : Int32)).toNatClampNeg)], (W_Mo v14.2))) 1 rfl ?_
                refine sv_Q.l (fun v33 => (259, [some (.ref 0), none], [], (W_Mo v33))) (fun v33 => ?_) ?_
                · refine sv_Q.s (σ' := (260, [some (.ref 0), none], [.ref 0], (W_Mo v33))) 1 rfl ?_
                  refine sv_Q.V (b := 0) (av := []) (ps := [0, 1, 2, 3, 4, 5, 6, 7, 8, 9, 10, 11, 12, 13, 14, 15, 16, 17, 18, 19, 20, 21, 22]) (rest := []) (cs1 := (W_Mo v33)) (cs2 := (W_Mo v33)) (st' := [.int (F_Mo_good v33)]) (cs' := (W_Mo v33)) (q := (260, .null, 0, 0, 0)) lk_Mo_104 (t_Mo_good v33) rfl rfl rfl rfl rfl (Or.inl ⟨12, _, _, rfl, rfl, rfl⟩) rfl rfl (sc_Mo_Mo_0 v33) rfl rfl (pc_Mo_Mo_0 v33 v33) ?_
                  refine sv_Q.b rfl (fun c34 => ?_) (fun c34 => ?_)
                  · refine sv_Q.s (σ' := (268, [some (.ref 0), none], [.ref 0], (W_Mo v33))) 1 rfl ?_
                    refine sv_Q.o (fun v35 e36 => ?_)
                    refine sv_Q.V (b := 0) (av := []) (ps := [0, 1, 2, 3, 4, 5, 6, 7, 8, 9, 10, 11, 12, 13, 14, 15, 16, 17, 18, 19, 20, 21, 22]) (rest := []) (cs1 := (W_Mo v33)) (cs2 := (W_Mo v35)) (st' := []) (cs' := (W_Mo v35)) (q := (268, .null, 0, 0, 0)) lk_Mo_156 (r_Mo_advance N v33 v35 e36) rfl rfl rfl rfl rfl (Or.inl ⟨12, _, _, rfl, rfl, rfl⟩) rfl rfl (sc_Mo_Mo_0 v33) rfl rfl (pc_Mo_Mo_0 v33 v35) ?_
                    refine sv_Q.s (σ' := (272, [some (.ref 0), none], [.ref 0], (W_Mo v35))) 1 rfl ?_
                    refine sv_Q.o (fun v37 e38 => ?_)
                    refine sv_Q.V (b := 0) (av := []) (ps := [0, 1, 2, 3, 4, 5, 6, 7, 8, 9, 10, 11, 12, 13, 14, 15, 16, 17, 18, 19, 20, 21, 22]) (rest := []) (cs1 := (W_Mo v35)) (cs2 := (W_Mo v37)) (st' := []) (cs' := (W_Mo v37)) (q := (272, .null, 0, 0, 0)) lk_Mo_227 (r_Mo_readBox N v35 v37 e38) rfl rfl rfl rfl rfl (Or.inl ⟨12, _, _, rfl, rfl, rfl⟩) rfl rfl (sc_Mo_Mo_0 v35) rfl rfl (pc_Mo_Mo_0 v35 v37) ?_
                    refine sv_Q.s (σ' := (288, [some (.ref 0), none], [.ref 0], (W_Mo v37))) 2 rfl ?_
                    refine sv_Q.V (b := 0) (av := []) (ps := [0, 1, 2, 3, 4, 5, 6, 7, 8, 9, 10, 11, 12, 13, 14, 15, 16, 17, 18, 19, 20, 21, 22]) (rest := []) (cs1 := (W_Mo v37)) (cs2 := (W_Mo v37)) (st' := [.int (F_Mo_good v37)]) (cs' := (W_Mo v37)) (q := (288, .null, 0, 0, 0)) lk_Mo_104 (t_Mo_good v37) rfl rfl rfl rfl rfl (Or.inl ⟨12, _, _, rfl, rfl, rfl⟩) rfl rfl (sc_Mo_Mo_0 v37) rfl rfl (pc_Mo_Mo_0 v37 v37) ?_
                    refine sv_Q.l (fun v44 => (320, [some (.ref 0), none], [], (W_Mo v44))) (fun v44 => ?_) ?_
                    · refine sv_Q.s (σ' := (321, [some (.ref 0), none], [.ref 0], (W_Mo v44))) 1 rfl ?_
                      refine sv_Q.V (b := 0) (av := []) (ps := [0, 1, 2, 3, 4, 5, 6, 7, 8, 9, 10, 11, 12, 13, 14, 15, 16, 17, 18, 19, 20, 21, 22]) (rest := []) (cs1 := (W_Mo v44)) (cs2 := (W_Mo v44)) (st' := [.int (F_Mo_good v44)]) (cs' := (W_Mo v44)) (q := (321, .null, 0, 0, 0)) lk_Mo_104 (t_Mo_good v44) rfl rfl rfl rfl rfl (Or.inl ⟨12, _, _, rfl, rfl, rfl⟩) rfl rfl (sc_Mo_Mo_0 v44) rfl rfl (pc_Mo_Mo_0 v44 v44) ?_
                      refine sv_Q.b rfl (fun c45 => ?_) (fun c45 => ?_)
                      · exact sv_Q.z ⟨True, rfl, trivial, rfl⟩
                      · refine sv_Q.s (σ' := (328, [some (.ref 0), none], [.ref 0], (W_Mo v44))) 1 rfl ?_
                        refine sv_Q.o (fun v46 e47 => ?_)
                        refine sv_Q.V (b := 0) (av := []) (ps := [0, 1, 2, 3, 4, 5, 6, 7, 8, 9, 10, 11, 12, 13, 14, 15, 16, 17, 18, 19, 20, 21, 22]) (rest := []) (cs1 := (W_Mo v44)) (cs2 := (W_Mo v46)) (st' := []) (cs' := (W_Mo v46)) (q := (328, .null, 0, 0, 0)) lk_Mo_156 (r_Mo_advance N v44 v46 e47) rfl rfl rfl rfl rfl (Or.inl ⟨12, _, _, rfl, rfl, rfl⟩) rfl rfl (sc_Mo_Mo_0 v44) rfl rfl (pc_Mo_Mo_0 v44 v46) ?_
                        exact sv_Q.z ⟨True, rfl, trivial, rfl⟩
                    · refine sv_Q.sb rfl (fun c39 => ?_) (fun c39 => ?_)
                      · exact sv_Q.z rfl
                      · refine sv_Q.s (σ' := (299, [some (.ref 0), none], [.int (3 : Int32), .int (v37 0 18)], (W_Mo v37))) 3 rfl ?_
                        refine sv_Q.sb rfl (fun c40 => ?_) (fun c40 => ?_)
                        · refine sv_Q.s (σ' := (317, [some (.ref 0), none], [.int (v37 0 17), .int (1 : Int32), .ref 0], (W_Mo v37))) 4 rfl ?_
                          refine sv_Q.V (b := 0) (av := [.int (1 : Int32), .int (v37 0 17)]) (ps := [0, 1, 2, 3, 4, 5, 6, 7, 8, 9, 10, 11, 12, 13, 14, 15, 16, 17, 18, 19, 20, 21, 22]) (rest := []) (cs1 := (W_Mo v37)) (cs2 := (W_Mo (F_Mo_errs (1 : Int32) (v37 0 17) v37))) (st' := []) (cs' := (W_Mo (F_Mo_errs (1 : Int32) (v37 0 17) v37))) (q := (317, .null, 0, 0, 0)) lk_Mo_162 (t_Mo_errs v37 (1 : Int32) (v37 0 17)) rfl rfl rfl rfl rfl (Or.inl ⟨12, _, _, rfl, rfl, rfl⟩) rfl rfl (sc_Mo_Mo_0 v37) rfl rfl (pc_Mo_Mo_0 v37 (F_Mo_errs (1 : Int32) (v37 0 17) v37)) ?_
                          refine sv_Q.gs (fun gm_41 => (320, [some (.ref 0), none], [], (W_Mo gm_41))) (fun gm_41 => ?_)
                          exact sv_Q.z rfl
                        · refine sv_Q.s (σ' := (308, [some (.ref 0), none], [.int (59 : Int32), .int (v37 0 19)], (W_Mo v37))) 3 rfl ?_
                          refine sv_Q.sb rfl (fun c42 => ?_) (fun c42 => ?_)
                          · exact sv_Q.z rfl
                          · refine sv_Q.s (σ' := (317, [some (.ref 0), none], [.int (v37 0 17), .int (1 : Int32), .ref 0], (W_Mo v37))) 4 rfl ?_
                            refine sv_Q.V (b := 0) (av := [.int (1 : Int32), .int (v37 0 17)]) (ps := [0, 1, 2, 3, 4, 5, 6, 7, 8, 9, 10, 11, 12, 13, 14, 15, 16, 17, 18, 19, 20, 21, 22]) (rest := []) (cs1 := (W_Mo v37)) (cs2 := (W_Mo (F_Mo_errs (1 : Int32) (v37 0 17) v37))) (st' := []) (cs' := (W_Mo (F_Mo_errs (1 : Int32) (v37 0 17) v37))) (q := (317, .null, 0, 0, 0)) lk_Mo_162 (t_Mo_errs v37 (1 : Int32) (v37 0 17)) rfl rfl rfl rfl rfl (Or.inl ⟨12, _, _, rfl, rfl, rfl⟩) rfl rfl (sc_Mo_Mo_0 v37) rfl rfl (pc_Mo_Mo_0 v37 (F_Mo_errs (1 : Int32) (v37 0 17) v37)) ?_
                            refine sv_Q.gs (fun gm_43 => (320, [some (.ref 0), none], [], (W_Mo gm_43))) (fun gm_43 => ?_)
                            exact sv_Q.z rfl
                  · exact sv_Q.z ⟨True, rfl, trivial, rfl⟩
                · refine sv_Q.sb rfl (fun c31 => ?_) (fun c31 => ?_)
                  · refine sv_Q.f (lo' := [some (.ref 0), none]) ⟨rfl, trivial⟩ ?_
                    exact sv_Q.z rfl
                  · refine sv_Q.s (σ' := (256, [some (.ref 0), some (.int a0)], [.int (v14.2 0 17), .int (4 : Int32), .ref 0], (W_Mo v14.2))) 4 rfl ?_
                    refine sv_Q.V (b := 0) (av := [.int (4 : Int32), .int (v14.2 0 17)]) (ps := [0, 1, 2, 3, 4, 5, 6, 7, 8, 9, 10, 11, 12, 13, 14, 15, 16, 17, 18, 19, 20, 21, 22]) (rest := []) (cs1 := (W_Mo v14.2)) (cs2 := (W_Mo (F_Mo_errs (4 : Int32) (v14.2 0 17) v14.2))) (st' := []) (cs' := (W_Mo (F_Mo_errs (4 : Int32) (v14.2 0 17) v14.2))) (q := (256, .null, 0, 0, 0)) lk_Mo_162 (t_Mo_errs v14.2 (4 : Int32) (v14.2 0 17)) rfl rfl rfl rfl rfl (Or.inl ⟨12, _, _, rfl, rfl, rfl⟩) rfl rfl (sc_Mo_Mo_0 v14.2) rfl rfl (pc_Mo_Mo_0 v14.2 (F_Mo_errs (4 : Int32) (v14.2 0 17) v14.2)) ?_
                    refine sv_Q.gs (fun gm_32 => (259, [some (.ref 0), some (.int a0)], [], (W_Mo gm_32))) (fun gm_32 => ?_)
                    refine sv_Q.f (lo' := [some (.ref 0), none]) ⟨rfl, trivial⟩ ?_
                    exact sv_Q.z rfl
            · refine sv_Q.s (σ' := (223, [some (.ref 0), some (.int a0)], [.ref 0], (W_Mo v14.2))) 1 rfl ?_
              refine sv_Q.o (fun v48 e49 => ?_)
              refine sv_Q.V (b := 0) (av := []) (ps := [0, 1, 2, 3, 4, 5, 6, 7, 8, 9, 10, 11, 12, 13, 14, 15, 16, 17, 18, 19, 20, 21, 22]) (rest := []) (cs1 := (W_Mo v14.2)) (cs2 := (W_Mo v48)) (st' := []) (cs' := (W_Mo v48)) (q := (223, .null, 0, 0, 0)) lk_Mo_222 (r_Mo_readApart N v14.2 v48 e49) rfl rfl rfl rfl rfl (Or.inl ⟨12, _, _, rfl, rfl, rfl⟩) rfl rfl (sc_Mo_Mo_0 v14.2) rfl rfl (pc_Mo_Mo_0 v14.2 v48) ?_
              refine sv_Q.s (σ' := (288, [some (.ref 0), some (.int a0)], [.ref 0], (W_Mo v48))) 2 rfl ?_
              refine sv_Q.V (b := 0) (av := []) (ps := [0, 1, 2, 3, 4, 5, 6, 7, 8, 9, 10, 11, 12, 13, 14, 15, 16, 17, 18, 19, 20, 21, 22]) (rest := []) (cs1 := (W_Mo v48)) (cs2 := (W_Mo v48)) (st' := [.int (F_Mo_good v48)]) (cs' := (W_Mo v48)) (q := (288, .null, 0, 0, 0)) lk_Mo_104 (t_Mo_good v48) rfl rfl rfl rfl rfl (Or.inl ⟨12, _, _, rfl, rfl, rfl⟩) rfl rfl (sc_Mo_Mo_0 v48) rfl rfl (pc_Mo_Mo_0 v48 v48) ?_
              refine sv_Q.l (fun v55 => (320, [some (.ref 0), none], [], (W_Mo v55))) (fun v55 => ?_) ?_
              · refine sv_Q.s (σ' := (321, [some (.ref 0), none], [.ref 0], (W_Mo v55))) 1 rfl ?_
                refine sv_Q.V (b := 0) (av := []) (ps := [0, 1, 2, 3, 4, 5, 6, 7, 8, 9, 10, 11, 12, 13, 14, 15, 16, 17, 18, 19, 20, 21, 22]) (rest := []) (cs1 := (W_Mo v55)) (cs2 := (W_Mo v55)) (st' := [.int (F_Mo_good v55)]) (cs' := (W_Mo v55)) (q := (321, .null, 0, 0, 0)) lk_Mo_104 (t_Mo_good v55) rfl rfl rfl rfl rfl (Or.inl ⟨12, _, _, rfl, rfl, rfl⟩) rfl rfl (sc_Mo_Mo_0 v55) rfl rfl (pc_Mo_Mo_0 v55 v55) ?_
                refine sv_Q.b rfl (fun c56 => ?_) (fun c56 => ?_)
                · exact sv_Q.z ⟨True, rfl, trivial, rfl⟩
                · refine sv_Q.s (σ' := (328, [some (.ref 0), none], [.ref 0], (W_Mo v55))) 1 rfl ?_
                  refine sv_Q.o (fun v57 e58 => ?_)
                  refine sv_Q.V (b := 0) (av := []) (ps := [0, 1, 2, 3, 4, 5, 6, 7, 8, 9, 10, 11, 12, 13, 14, 15, 16, 17, 18, 19, 20, 21, 22]) (rest := []) (cs1 := (W_Mo v55)) (cs2 := (W_Mo v57)) (st' := []) (cs' := (W_Mo v57)) (q := (328, .null, 0, 0, 0)) lk_Mo_156 (r_Mo_advance N v55 v57 e58) rfl rfl rfl rfl rfl (Or.inl ⟨12, _, _, rfl, rfl, rfl⟩) rfl rfl (sc_Mo_Mo_0 v55) rfl rfl (pc_Mo_Mo_0 v55 v57) ?_
                  exact sv_Q.z ⟨True, rfl, trivial, rfl⟩
              · refine sv_Q.sb rfl (fun c50 => ?_) (fun c50 => ?_)
                · refine sv_Q.f (lo' := [some (.ref 0), none]) ⟨rfl, trivial⟩ ?_
                  exact sv_Q.z rfl
                · refine sv_Q.s (σ' := (299, [some (.ref 0), some (.int a0)], [.int (3 : Int32), .int (v48 0 18)], (W_Mo v48))) 3 rfl ?_
                  refine sv_Q.sb rfl (fun c51 => ?_) (fun c51 => ?_)
                  · refine sv_Q.s (σ' := (317, [some (.ref 0), some (.int a0)], [.int (v48 0 17), .int (1 : Int32), .ref 0], (W_Mo v48))) 4 rfl ?_
                    refine sv_Q.V (b := 0) (av := [.int (1 : Int32), .int (v48 0 17)]) (ps := [0, 1, 2, 3, 4, 5, 6, 7, 8, 9, 10, 11, 12, 13, 14, 15, 16, 17, 18, 19, 20, 21, 22]) (rest := []) (cs1 := (W_Mo v48)) (cs2 := (W_Mo (F_Mo_errs (1 : Int32) (v48 0 17) v48))) (st' := []) (cs' := (W_Mo (F_Mo_errs (1 : Int32) (v48 0 17) v48))) (q := (317, .null, 0, 0, 0)) lk_Mo_162 (t_Mo_errs v48 (1 : Int32) (v48 0 17)) rfl rfl rfl rfl rfl (Or.inl ⟨12, _, _, rfl, rfl, rfl⟩) rfl rfl (sc_Mo_Mo_0 v48) rfl rfl (pc_Mo_Mo_0 v48 (F_Mo_errs (1 : Int32) (v48 0 17) v48)) ?_
                    refine sv_Q.gs (fun gm_52 => (320, [some (.ref 0), some (.int a0)], [], (W_Mo gm_52))) (fun gm_52 => ?_)
                    refine sv_Q.f (lo' := [some (.ref 0), none]) ⟨rfl, trivial⟩ ?_
                    exact sv_Q.z rfl
                  · refine sv_Q.s (σ' := (308, [some (.ref 0), some (.int a0)], [.int (59 : Int32), .int (v48 0 19)], (W_Mo v48))) 3 rfl ?_
                    refine sv_Q.sb rfl (fun c53 => ?_) (fun c53 => ?_)
                    · refine sv_Q.f (lo' := [some (.ref 0), none]) ⟨rfl, trivial⟩ ?_
                      exact sv_Q.z rfl
                    · refine sv_Q.s (σ' := (317, [some (.ref 0), some (.int a0)], [.int (v48 0 17), .int (1 : Int32), .ref 0], (W_Mo v48))) 4 rfl ?_
                      refine sv_Q.V (b := 0) (av := [.int (1 : Int32), .int (v48 0 17)]) (ps := [0, 1, 2, 3, 4, 5, 6, 7, 8, 9, 10, 11, 12, 13, 14, 15, 16, 17, 18, 19, 20, 21, 22]) (rest := []) (cs1 := (W_Mo v48)) (cs2 := (W_Mo (F_Mo_errs (1 : Int32) (v48 0 17) v48))) (st' := []) (cs' := (W_Mo (F_Mo_errs (1 : Int32) (v48 0 17) v48))) (q := (317, .null, 0, 0, 0)) lk_Mo_162 (t_Mo_errs v48 (1 : Int32) (v48 0 17)) rfl rfl rfl rfl rfl (Or.inl ⟨12, _, _, rfl, rfl, rfl⟩) rfl rfl (sc_Mo_Mo_0 v48) rfl rfl (pc_Mo_Mo_0 v48 (F_Mo_errs (1 : Int32) (v48 0 17) v48)) ?_
                      refine sv_Q.gs (fun gm_54 => (320, [some (.ref 0), some (.int a0)], [], (W_Mo gm_54))) (fun gm_54 => ?_)
                      refine sv_Q.f (lo' := [some (.ref 0), none]) ⟨rfl, trivial⟩ ?_
                      exact sv_Q.z rfl
          · refine sv_Q.s (σ' := (130, [some (.ref 0), some (.int a0)], [.int (6 : Int32), .ref 2], (W_Mo v8.2))) 3 rfl ?_
            refine sv_Q.g (σ' := (131, [some (.ref 0), some (.int a0)], [.int (v8.2 2 ((6 : Int32)).toNatClampNeg)], (W_Mo v8.2))) (c := sv_in (6 : Int32) 90) rfl (fun c59 => ?_)
            refine sv_Q.s (σ' := (133, [some (.ref 0), some (.int a0)], [.int (7 : Int32), .int (v8.2 2 ((6 : Int32)).toNatClampNeg)], (W_Mo v8.2))) 1 rfl ?_
            refine sv_Q.l (fun v62 => (145, [some (.ref 0), none], [], (W_Mo v62))) (fun v62 => ?_) ?_
            · refine sv_Q.s (σ' := (146, [some (.ref 0), none], [.ref 0], (W_Mo v62))) 1 rfl ?_
              refine sv_Q.V (b := 0) (av := []) (ps := [0, 1, 2, 3, 4, 5, 6, 7, 8, 9, 10, 11, 12, 13, 14, 15, 16, 17, 18, 19, 20, 21, 22]) (rest := []) (cs1 := (W_Mo v62)) (cs2 := (W_Mo v62)) (st' := [.int (F_Mo_good v62)]) (cs' := (W_Mo v62)) (q := (146, .null, 0, 0, 0)) lk_Mo_104 (t_Mo_good v62) rfl rfl rfl rfl rfl (Or.inl ⟨12, _, _, rfl, rfl, rfl⟩) rfl rfl (sc_Mo_Mo_0 v62) rfl rfl (pc_Mo_Mo_0 v62 v62) ?_
              refine sv_Q.b rfl (fun c63 => ?_) (fun c63 => ?_)
              · refine sv_Q.s (σ' := (154, [some (.ref 0), none], [.ref 0], (W_Mo v62))) 1 rfl ?_
                refine sv_Q.o (fun v64 e65 => ?_)
                refine sv_Q.V (b := 0) (av := []) (ps := [0, 1, 2, 3, 4, 5, 6, 7, 8, 9, 10, 11, 12, 13, 14, 15, 16, 17, 18, 19, 20, 21, 22]) (rest := []) (cs1 := (W_Mo v62)) (cs2 := (W_Mo v64)) (st' := []) (cs' := (W_Mo v64)) (q := (154, .null, 0, 0, 0)) lk_Mo_156 (r_Mo_advance N v62 v64 e65) rfl rfl rfl rfl rfl (Or.inl ⟨12, _, _, rfl, rfl, rfl⟩) rfl rfl (sc_Mo_Mo_0 v62) rfl rfl (pc_Mo_Mo_0 v62 v64) ?_
                refine sv_Q.s (σ' := (169, [some (.ref 0), none], [.int (6 : Int32), .ref 2, .int (34 : Int32), .ref 2], (W_Mo v64))) 6 rfl ?_
                refine sv_Q.g (σ' := (170, [some (.ref 0), none], [.int (v64 2 ((6 : Int32)).toNatClampNeg), .int (34 : Int32), .ref 2], (W_Mo v64))) (c := sv_in (6 : Int32) 90) rfl (fun c66 => ?_)
                refine sv_Q.s (σ' := (174, [some (.ref 0), none], [.ref 1004, .ref 0, .int ((34 : Int32) + (v64 2 ((6 : Int32)).toNatClampNeg)), .ref 2], (W_Mo v64))) 3 rfl ?_
                refine sv_Q.o (fun v67 e68 => ?_)
                refine sv_Q.V (b := 0) (av := [.ref 1004]) (ps := [0, 1, 2, 3, 4, 5, 6, 7, 8, 9, 10, 11, 12, 13, 14, 15, 16, 17, 18, 19, 20, 21, 22]) (rest := [.int ((34 : Int32) + (v64 2 ((6 : Int32)).toNatClampNeg)), .ref 2]) (cs1 := (W_Mo v64)) (cs2 := (W_Mo v67.2)) (st' := [.int v67.1, .int ((34 : Int32) + (v64 2 ((6 : Int32)).toNatClampNeg)), .ref 2]) (cs' := (W_Mo v67.2)) (q := (174, .null, 0, 0, 0)) lk_Mo_159 (r_Mo_eats N v64 4 v67 e68) rfl rfl rfl rfl rfl (Or.inl ⟨12, _, _, rfl, rfl, rfl⟩) rfl rfl (sc_Mo_Mo_0 v64) rfl rfl (pc_Mo_Mo_0 v64 v67.2) ?_
                refine sv_Q.lo (fun v73 => (198, [some (.ref 0), none], [.int v73.1, .int ((34 : Int32) + (v64 2 ((6 : Int32)).toNatClampNeg)), .ref 2], (W_Mo v73.2))) (fun v73 => ?_) ?_
                · refine sv_Q.g (σ' := (199, [some (.ref 0), none], [], (W_Mo (sa v73.2 2 ((34 : Int32) + (v64 2 ((6 : Int32)).toNatClampNeg)) v73.1)))) (c := sv_in ((34 : Int32) + (v64 2 ((6 : Int32)).toNatClampNeg)) 90) rfl (fun c74 => ?_)
                  refine sv_Q.go (fun gm_75 => (199, [some (.ref 0), none], [], (W_Mo gm_75))) (fun gm_75 => ?_)
                  refine sv_Q.s (σ' := (206, [some (.ref 0), none], [.int (6 : Int32), .ref 2, .int (6 : Int32), .ref 2], (W_Mo gm_75))) 4 rfl ?_
                  refine sv_Q.g (σ' := (207, [some (.ref 0), none], [.int (gm_75 2 ((6 : Int32)).toNatClampNeg), .int (6 : Int32), .ref 2], (W_Mo gm_75))) (c := sv_in (6 : Int32) 90) rfl (fun c76 => ?_)
                  refine sv_Q.s (σ' := (209, [some (.ref 0), none], [.int ((gm_75 2 ((6 : Int32)).toNatClampNeg) + (1 : Int32)), .int (6 : Int32), .ref 2], (W_Mo gm_75))) 2 rfl ?_
                  refine sv_Q.g (σ' := (210, [some (.ref 0), none], [], (W_Mo (sa gm_75 2 (6 : Int32) ((gm_75 2 ((6 : Int32)).toNatClampNeg) + (1 : Int32)))))) (c := sv_in (6 : Int32) 90) rfl (fun c77 => ?_)
                  refine sv_Q.go (fun gm_78 => (210, [some (.ref 0), none], [], (W_Mo gm_78))) (fun gm_78 => ?_)
                  refine sv_Q.s (σ' := (288, [some (.ref 0), none], [.ref 0], (W_Mo gm_78))) 2 rfl ?_
                  refine sv_Q.V (b := 0) (av := []) (ps := [0, 1, 2, 3, 4, 5, 6, 7, 8, 9, 10, 11, 12, 13, 14, 15, 16, 17, 18, 19, 20, 21, 22]) (rest := []) (cs1 := (W_Mo gm_78)) (cs2 := (W_Mo gm_78)) (st' := [.int (F_Mo_good gm_78)]) (cs' := (W_Mo gm_78)) (q := (288, .null, 0, 0, 0)) lk_Mo_104 (t_Mo_good gm_78) rfl rfl rfl rfl rfl (Or.inl ⟨12, _, _, rfl, rfl, rfl⟩) rfl rfl (sc_Mo_Mo_0 gm_78) rfl rfl (pc_Mo_Mo_0 gm_78 gm_78) ?_
                  refine sv_Q.l (fun v84 => (320, [some (.ref 0), none], [], (W_Mo v84))) (fun v84 => ?_) ?_
                  · refine sv_Q.s (σ' := (321, [some (.ref 0), none], [.ref 0], (W_Mo v84))) 1 rfl ?_
                    refine sv_Q.V (b := 0) (av := []) (ps := [0, 1, 2, 3, 4, 5, 6, 7, 8, 9, 10, 11, 12, 13, 14, 15, 16, 17, 18, 19, 20, 21, 22]) (rest := []) (cs1 := (W_Mo v84)) (cs2 := (W_Mo v84)) (st' := [.int (F_Mo_good v84)]) (cs' := (W_Mo v84)) (q := (321, .null, 0, 0, 0)) lk_Mo_104 (t_Mo_good v84) rfl rfl rfl rfl rfl (Or.inl ⟨12, _, _, rfl, rfl, rfl⟩) rfl rfl (sc_Mo_Mo_0 v84) rfl rfl (pc_Mo_Mo_0 v84 v84) ?_
                    refine sv_Q.b rfl (fun c85 => ?_) (fun c85 => ?_)
                    · exact sv_Q.z ⟨True, rfl, trivial, rfl⟩
                    · refine sv_Q.s (σ' := (328, [some (.ref 0), none], [.ref 0], (W_Mo v84))) 1 rfl ?_
                      refine sv_Q.o (fun v86 e87 => ?_)
                      refine sv_Q.V (b := 0) (av := []) (ps := [0, 1, 2, 3, 4, 5, 6, 7, 8, 9, 10, 11, 12, 13, 14, 15, 16, 17, 18, 19, 20, 21, 22]) (rest := []) (cs1 := (W_Mo v84)) (cs2 := (W_Mo v86)) (st' := []) (cs' := (W_Mo v86)) (q := (328, .null, 0, 0, 0)) lk_Mo_156 (r_Mo_advance N v84 v86 e87) rfl rfl rfl rfl rfl (Or.inl ⟨12, _, _, rfl, rfl, rfl⟩) rfl rfl (sc_Mo_Mo_0 v84) rfl rfl (pc_Mo_Mo_0 v84 v86) ?_
                      exact sv_Q.z ⟨True, rfl, trivial, rfl⟩
                  · refine sv_Q.sb rfl (fun c79 => ?_) (fun c79 => ?_)
                    · exact sv_Q.z rfl
                    · refine sv_Q.s (σ' := (299, [some (.ref 0), none], [.int (3 : Int32), .int (gm_78 0 18)], (W_Mo gm_78))) 3 rfl ?_
                      refine sv_Q.sb rfl (fun c80 => ?_) (fun c80 => ?_)
                      · refine sv_Q.s (σ' := (317, [some (.ref 0), none], [.int (gm_78 0 17), .int (1 : Int32), .ref 0], (W_Mo gm_78))) 4 rfl ?_
                        refine sv_Q.V (b := 0) (av := [.int (1 : Int32), .int (gm_78 0 17)]) (ps := [0, 1, 2, 3, 4, 5, 6, 7, 8, 9, 10, 11, 12, 13, 14, 15, 16, 17, 18, 19, 20, 21, 22]) (rest := []) (cs1 := (W_Mo gm_78)) (cs2 := (W_Mo (F_Mo_errs (1 : Int32) (gm_78 0 17) gm_78))) (st' := []) (cs' := (W_Mo (F_Mo_errs (1 : Int32) (gm_78 0 17) gm_78))) (q := (317, .null, 0, 0, 0)) lk_Mo_162 (t_Mo_errs gm_78 (1 : Int32) (gm_78 0 17)) rfl rfl rfl rfl rfl (Or.inl ⟨12, _, _, rfl, rfl, rfl⟩) rfl rfl (sc_Mo_Mo_0 gm_78) rfl rfl (pc_Mo_Mo_0 gm_78 (F_Mo_errs (1 : Int32) (gm_78 0 17) gm_78)) ?_
                        refine sv_Q.gs (fun gm_81 => (320, [some (.ref 0), none], [], (W_Mo gm_81))) (fun gm_81 => ?_)
                        exact sv_Q.z rfl
                      · refine sv_Q.s (σ' := (308, [some (.ref 0), none], [.int (59 : Int32), .int (gm_78 0 19)], (W_Mo gm_78))) 3 rfl ?_
                        refine sv_Q.sb rfl (fun c82 => ?_) (fun c82 => ?_)
                        · exact sv_Q.z rfl
                        · refine sv_Q.s (σ' := (317, [some (.ref 0), none], [.int (gm_78 0 17), .int (1 : Int32), .ref 0], (W_Mo gm_78))) 4 rfl ?_
                          refine sv_Q.V (b := 0) (av := [.int (1 : Int32), .int (gm_78 0 17)]) (ps := [0, 1, 2, 3, 4, 5, 6, 7, 8, 9, 10, 11, 12, 13, 14, 15, 16, 17, 18, 19, 20, 21, 22]) (rest := []) (cs1 := (W_Mo gm_78)) (cs2 := (W_Mo (F_Mo_errs (1 : Int32) (gm_78 0 17) gm_78))) (st' := []) (cs' := (W_Mo (F_Mo_errs (1 : Int32) (gm_78 0 17) gm_78))) (q := (317, .null, 0, 0, 0)) lk_Mo_162 (t_Mo_errs gm_78 (1 : Int32) (gm_78 0 17)) rfl rfl rfl rfl rfl (Or.inl ⟨12, _, _, rfl, rfl, rfl⟩) rfl rfl (sc_Mo_Mo_0 gm_78) rfl rfl (pc_Mo_Mo_0 gm_78 (F_Mo_errs (1 : Int32) (gm_78 0 17) gm_78)) ?_
                          refine sv_Q.gs (fun gm_83 => (320, [some (.ref 0), none], [], (W_Mo gm_83))) (fun gm_83 => ?_)
                          exact sv_Q.z rfl
                · refine sv_Q.b rfl (fun c69 => ?_) (fun c69 => ?_)
                  · refine sv_Q.s (σ' := (187, [some (.ref 0), none], [.ref 1003, .ref 0, .int ((34 : Int32) + (v64 2 ((6 : Int32)).toNatClampNeg)), .ref 2], (W_Mo v67.2))) 2 rfl ?_
                    refine sv_Q.o (fun v70 e71 => ?_)
                    refine sv_Q.V (b := 0) (av := [.ref 1003]) (ps := [0, 1, 2, 3, 4, 5, 6, 7, 8, 9, 10, 11, 12, 13, 14, 15, 16, 17, 18, 19, 20, 21, 22]) (rest := [.int ((34 : Int32) + (v64 2 ((6 : Int32)).toNatClampNeg)), .ref 2]) (cs1 := (W_Mo v67.2)) (cs2 := (W_Mo v70.2)) (st' := [.int v70.1, .int ((34 : Int32) + (v64 2 ((6 : Int32)).toNatClampNeg)), .ref 2]) (cs' := (W_Mo v70.2)) (q := (187, .null, 0, 0, 0)) lk_Mo_159 (r_Mo_eats N v67.2 3 v70 e71) rfl rfl rfl rfl rfl (Or.inl ⟨12, _, _, rfl, rfl, rfl⟩) rfl rfl (sc_Mo_Mo_0 v67.2) rfl rfl (pc_Mo_Mo_0 v67.2 v70.2) ?_
                    refine sv_Q.b rfl (fun c72 => ?_) (fun c72 => ?_)
                    · refine sv_Q.s (σ' := (198, [some (.ref 0), none], [.int (0 : Int32), .int ((34 : Int32) + (v64 2 ((6 : Int32)).toNatClampNeg)), .ref 2], (W_Mo v70.2))) 1 rfl ?_
                      exact sv_Q.z rfl
                    · refine sv_Q.s (σ' := (198, [some (.ref 0), none], [.int (2 : Int32), .int ((34 : Int32) + (v64 2 ((6 : Int32)).toNatClampNeg)), .ref 2], (W_Mo v70.2))) 2 rfl ?_
                      exact sv_Q.z rfl
                  · refine sv_Q.s (σ' := (198, [some (.ref 0), none], [.int (1 : Int32), .int ((34 : Int32) + (v64 2 ((6 : Int32)).toNatClampNeg)), .ref 2], (W_Mo v67.2))) 2 rfl ?_
                    exact sv_Q.z rfl
              · exact sv_Q.z ⟨True, rfl, trivial, rfl⟩
            · refine sv_Q.sb rfl (fun c60 => ?_) (fun c60 => ?_)
              · refine sv_Q.f (lo' := [some (.ref 0), none]) ⟨rfl, trivial⟩ ?_
                exact sv_Q.z rfl
              · refine sv_Q.s (σ' := (142, [some (.ref 0), some (.int a0)], [.int (v8.2 0 17), .int (4 : Int32), .ref 0], (W_Mo v8.2))) 4 rfl ?_
                refine sv_Q.V (b := 0) (av := [.int (4 : Int32), .int (v8.2 0 17)]) (ps := [0, 1, 2, 3, 4, 5, 6, 7, 8, 9, 10, 11, 12, 13, 14, 15, 16, 17, 18, 19, 20, 21, 22]) (rest := []) (cs1 := (W_Mo v8.2)) (cs2 := (W_Mo (F_Mo_errs (4 : Int32) (v8.2 0 17) v8.2))) (st' := []) (cs' := (W_Mo (F_Mo_errs (4 : Int32) (v8.2 0 17) v8.2))) (q := (142, .null, 0, 0, 0)) lk_Mo_162 (t_Mo_errs v8.2 (4 : Int32) (v8.2 0 17)) rfl rfl rfl rfl rfl (Or.inl ⟨12, _, _, rfl, rfl, rfl⟩) rfl rfl (sc_Mo_Mo_0 v8.2) rfl rfl (pc_Mo_Mo_0 v8.2 (F_Mo_errs (4 : Int32) (v8.2 0 17) v8.2)) ?_
                refine sv_Q.gs (fun gm_61 => (145, [some (.ref 0), some (.int a0)], [], (W_Mo gm_61))) (fun gm_61 => ?_)
                refine sv_Q.f (lo' := [some (.ref 0), none]) ⟨rfl, trivial⟩ ?_
                exact sv_Q.z rfl
        · refine sv_Q.s (σ' := (109, [some (.ref 0), some (.int a0)], [.ref 0], (W_Mo v8.2))) 1 rfl ?_
          refine sv_Q.o (fun v88 e89 => ?_)
          refine sv_Q.V (b := 0) (av := []) (ps := [0, 1, 2, 3, 4, 5, 6, 7, 8, 9, 10, 11, 12, 13, 14, 15, 16, 17, 18, 19, 20, 21, 22]) (rest := []) (cs1 := (W_Mo v8.2)) (cs2 := (W_Mo v88)) (st' := []) (cs' := (W_Mo v88)) (q := (109, .null, 0, 0, 0)) lk_Mo_215 (r_Mo_readLevel N v8.2 v88 e89) rfl rfl rfl rfl rfl (Or.inl ⟨12, _, _, rfl, rfl, rfl⟩) rfl rfl (sc_Mo_Mo_0 v8.2) rfl rfl (pc_Mo_Mo_0 v8.2 v88) ?_
          refine sv_Q.s (σ' := (288, [some (.ref 0), some (.int a0)], [.ref 0], (W_Mo v88))) 2 rfl ?_
          refine sv_Q.V (b := 0) (av := []) (ps := [0, 1, 2, 3, 4, 5, 6, 7, 8, 9, 10, 11, 12, 13, 14, 15, 16, 17, 18, 19, 20, 21, 22]) (rest := []) (cs1 := (W_Mo v88)) (cs2 := (W_Mo v88)) (st' := [.int (F_Mo_good v88)]) (cs' := (W_Mo v88)) (q := (288, .null, 0, 0, 0)) lk_Mo_104 (t_Mo_good v88) rfl rfl rfl rfl rfl (Or.inl ⟨12, _, _, rfl, rfl, rfl⟩) rfl rfl (sc_Mo_Mo_0 v88) rfl rfl (pc_Mo_Mo_0 v88 v88) ?_
          refine sv_Q.l (fun v95 => (320, [some (.ref 0), none], [], (W_Mo v95))) (fun v95 => ?_) ?_
          · refine sv_Q.s (σ' := (321, [some (.ref 0), none], [.ref 0], (W_Mo v95))) 1 rfl ?_
            refine sv_Q.V (b := 0) (av := []) (ps := [0, 1, 2, 3, 4, 5, 6, 7, 8, 9, 10, 11, 12, 13, 14, 15, 16, 17, 18, 19, 20, 21, 22]) (rest := []) (cs1 := (W_Mo v95)) (cs2 := (W_Mo v95)) (st' := [.int (F_Mo_good v95)]) (cs' := (W_Mo v95)) (q := (321, .null, 0, 0, 0)) lk_Mo_104 (t_Mo_good v95) rfl rfl rfl rfl rfl (Or.inl ⟨12, _, _, rfl, rfl, rfl⟩) rfl rfl (sc_Mo_Mo_0 v95) rfl rfl (pc_Mo_Mo_0 v95 v95) ?_
            refine sv_Q.b rfl (fun c96 => ?_) (fun c96 => ?_)
            · exact sv_Q.z ⟨True, rfl, trivial, rfl⟩
            · refine sv_Q.s (σ' := (328, [some (.ref 0), none], [.ref 0], (W_Mo v95))) 1 rfl ?_
              refine sv_Q.o (fun v97 e98 => ?_)
              refine sv_Q.V (b := 0) (av := []) (ps := [0, 1, 2, 3, 4, 5, 6, 7, 8, 9, 10, 11, 12, 13, 14, 15, 16, 17, 18, 19, 20, 21, 22]) (rest := []) (cs1 := (W_Mo v95)) (cs2 := (W_Mo v97)) (st' := []) (cs' := (W_Mo v97)) (q := (328, .null, 0, 0, 0)) lk_Mo_156 (r_Mo_advance N v95 v97 e98) rfl rfl rfl rfl rfl (Or.inl ⟨12, _, _, rfl, rfl, rfl⟩) rfl rfl (sc_Mo_Mo_0 v95) rfl rfl (pc_Mo_Mo_0 v95 v97) ?_
              exact sv_Q.z ⟨True, rfl, trivial, rfl⟩
          · refine sv_Q.sb rfl (fun c90 => ?_) (fun c90 => ?_)
            · refine sv_Q.f (lo' := [some (.ref 0), none]) ⟨rfl, trivial⟩ ?_
              exact sv_Q.z rfl
            · refine sv_Q.s (σ' := (299, [some (.ref 0), some (.int a0)], [.int (3 : Int32), .int (v88 0 18)], (W_Mo v88))) 3 rfl ?_
              refine sv_Q.sb rfl (fun c91 => ?_) (fun c91 => ?_)
              · refine sv_Q.s (σ' := (317, [some (.ref 0), some (.int a0)], [.int (v88 0 17), .int (1 : Int32), .ref 0], (W_Mo v88))) 4 rfl ?_
                refine sv_Q.V (b := 0) (av := [.int (1 : Int32), .int (v88 0 17)]) (ps := [0, 1, 2, 3, 4, 5, 6, 7, 8, 9, 10, 11, 12, 13, 14, 15, 16, 17, 18, 19, 20, 21, 22]) (rest := []) (cs1 := (W_Mo v88)) (cs2 := (W_Mo (F_Mo_errs (1 : Int32) (v88 0 17) v88))) (st' := []) (cs' := (W_Mo (F_Mo_errs (1 : Int32) (v88 0 17) v88))) (q := (317, .null, 0, 0, 0)) lk_Mo_162 (t_Mo_errs v88 (1 : Int32) (v88 0 17)) rfl rfl rfl rfl rfl (Or.inl ⟨12, _, _, rfl, rfl, rfl⟩) rfl rfl (sc_Mo_Mo_0 v88) rfl rfl (pc_Mo_Mo_0 v88 (F_Mo_errs (1 : Int32) (v88 0 17) v88)) ?_
                refine sv_Q.gs (fun gm_92 => (320, [some (.ref 0), some (.int a0)], [], (W_Mo gm_92))) (fun gm_92 => ?_)
                refine sv_Q.f (lo' := [some (.ref 0), none]) ⟨rfl, trivial⟩ ?_
                exact sv_Q.z rfl
              · refine sv_Q.s (σ' := (308, [some (.ref 0), some (.int a0)], [.int (59 : Int32), .int (v88 0 19)], (W_Mo v88))) 3 rfl ?_
                refine sv_Q.sb rfl (fun c93 => ?_) (fun c93 => ?_)
                · refine sv_Q.f (lo' := [some (.ref 0), none]) ⟨rfl, trivial⟩ ?_
                  exact sv_Q.z rfl
                · refine sv_Q.s (σ' := (317, [some (.ref 0), some (.int a0)], [.int (v88 0 17), .int (1 : Int32), .ref 0], (W_Mo v88))) 4 rfl ?_
                  refine sv_Q.V (b := 0) (av := [.int (1 : Int32), .int (v88 0 17)]) (ps := [0, 1, 2, 3, 4, 5, 6, 7, 8, 9, 10, 11, 12, 13, 14, 15, 16, 17, 18, 19, 20, 21, 22]) (rest := []) (cs1 := (W_Mo v88)) (cs2 := (W_Mo (F_Mo_errs (1 : Int32) (v88 0 17) v88))) (st' := []) (cs' := (W_Mo (F_Mo_errs (1 : Int32) (v88 0 17) v88))) (q := (317, .null, 0, 0, 0)) lk_Mo_162 (t_Mo_errs v88 (1 : Int32) (v88 0 17)) rfl rfl rfl rfl rfl (Or.inl ⟨12, _, _, rfl, rfl, rfl⟩) rfl rfl (sc_Mo_Mo_0 v88) rfl rfl (pc_Mo_Mo_0 v88 (F_Mo_errs (1 : Int32) (v88 0 17) v88)) ?_
                  refine sv_Q.gs (fun gm_94 => (320, [some (.ref 0), some (.int a0)], [], (W_Mo gm_94))) (fun gm_94 => ?_)
                  refine sv_Q.f (lo' := [some (.ref 0), none]) ⟨rfl, trivial⟩ ?_
                  exact sv_Q.z rfl
      · refine sv_Q.s (σ' := (40, [some (.ref 0), some (.int a0)], [.int (v2.2 0 5)], (W_Mo v2.2))) 2 rfl ?_
        refine sv_Q.l (fun v101 => (52, [some (.ref 0), none], [], (W_Mo v101))) (fun v101 => ?_) ?_
        · refine sv_Q.s (σ' := (54, [some (.ref 0), none], [.int (1 : Int32), .ref 0], (W_Mo v101))) 2 rfl ?_
          refine sv_Q.gk (σ' := (57, [some (.ref 0), none], [], (W_Mo (ss v101 5 (1 : Int32))))) (c := sv_01 (1 : Int32)) rfl (Or.inr rfl) ?_
          refine sv_Q.go (fun gm_102 => (57, [some (.ref 0), none], [], (W_Mo gm_102))) (fun gm_102 => ?_)
          refine sv_Q.s (σ' := (58, [some (.ref 0), none], [.ref 0], (W_Mo gm_102))) 1 rfl ?_
          refine sv_Q.V (b := 0) (av := []) (ps := [0, 1, 2, 3, 4, 5, 6, 7, 8, 9, 10, 11, 12, 13, 14, 15, 16, 17, 18, 19, 20, 21, 22]) (rest := []) (cs1 := (W_Mo gm_102)) (cs2 := (W_Mo gm_102)) (st' := [.int (F_Mo_good gm_102)]) (cs' := (W_Mo gm_102)) (q := (58, .null, 0, 0, 0)) lk_Mo_104 (t_Mo_good gm_102) rfl rfl rfl rfl rfl (Or.inl ⟨12, _, _, rfl, rfl, rfl⟩) rfl rfl (sc_Mo_Mo_0 gm_102) rfl rfl (pc_Mo_Mo_0 gm_102 gm_102) ?_
          refine sv_Q.lo (fun v106 => (68, [some (.ref 0), none], [], (W_Mo v106))) (fun v106 => ?_) ?_
          · refine sv_Q.s (σ' := (78, [some (.ref 0), none], [.int (999 : Int32), .int (1 : Int32), .ref 0, .int (4 : Int32), .ref 2], (W_Mo v106))) 6 rfl ?_
            refine sv_Q.o (fun v107 e108 => ?_)
            refine sv_Q.V (b := 0) (av := [.int (1 : Int32), .int (999 : Int32)]) (ps := [0, 1, 2, 3, 4, 5, 6, 7, 8, 9, 10, 11, 12, 13, 14, 15, 16, 17, 18, 19, 20, 21, 22]) (rest := [.int (4 : Int32), .ref 2]) (cs1 := (W_Mo v106)) (cs2 := (W_Mo v107.2)) (st' := [.int v107.1, .int (4 : Int32), .ref 2]) (cs' := (W_Mo v107.2)) (q := (78, .null, 0, 0, 0)) lk_Mo_176 (r_Mo_number N v106 (1 : Int32) (999 : Int32) v107 e108) rfl rfl rfl rfl rfl (Or.inl ⟨12, _, _, rfl, rfl, rfl⟩) rfl rfl (sc_Mo_Mo_0 v106) rfl rfl (pc_Mo_Mo_0 v106 v107.2) ?_
            refine sv_Q.g (σ' := (82, [some (.ref 0), none], [], (W_Mo (sa v107.2 2 (4 : Int32) v107.1)))) (c := sv_in (4 : Int32) 90) rfl (fun c109 => ?_)
            refine sv_Q.go (fun gm_110 => (82, [some (.ref 0), none], [], (W_Mo gm_110))) (fun gm_110 => ?_)
            refine sv_Q.s (σ' := (92, [some (.ref 0), none], [.int (999 : Int32), .int (1 : Int32), .ref 0, .int (5 : Int32), .ref 2], (W_Mo gm_110))) 6 rfl ?_
            refine sv_Q.o (fun v111 e112 => ?_)
            refine sv_Q.V (b := 0) (av := [.int (1 : Int32), .int (999 : Int32)]) (ps := [0, 1, 2, 3, 4, 5, 6, 7, 8, 9, 10, 11, 12, 13, 14, 15, 16, 17, 18, 19, 20, 21, 22]) (rest := [.int (5 : Int32), .ref 2]) (cs1 := (W_Mo gm_110)) (cs2 := (W_Mo v111.2)) (st' := [.int v111.1, .int (5 : Int32), .ref 2]) (cs' := (W_Mo v111.2)) (q := (92, .null, 0, 0, 0)) lk_Mo_176 (r_Mo_number N gm_110 (1 : Int32) (999 : Int32) v111 e112) rfl rfl rfl rfl rfl (Or.inl ⟨12, _, _, rfl, rfl, rfl⟩) rfl rfl (sc_Mo_Mo_0 gm_110) rfl rfl (pc_Mo_Mo_0 gm_110 v111.2) ?_
            refine sv_Q.g (σ' := (96, [some (.ref 0), none], [], (W_Mo (sa v111.2 2 (5 : Int32) v111.1)))) (c := sv_in (5 : Int32) 90) rfl (fun c113 => ?_)
            refine sv_Q.go (fun gm_114 => (96, [some (.ref 0), none], [], (W_Mo gm_114))) (fun gm_114 => ?_)
            refine sv_Q.s (σ' := (288, [some (.ref 0), none], [.ref 0], (W_Mo gm_114))) 2 rfl ?_
            refine sv_Q.V (b := 0) (av := []) (ps := [0, 1, 2, 3, 4, 5, 6, 7, 8, 9, 10, 11, 12, 13, 14, 15, 16, 17, 18, 19, 20, 21, 22]) (rest := []) (cs1 := (W_Mo gm_114)) (cs2 := (W_Mo gm_114)) (st' := [.int (F_Mo_good gm_114)]) (cs' := (W_Mo gm_114)) (q := (288, .null, 0, 0, 0)) lk_Mo_104 (t_Mo_good gm_114) rfl rfl rfl rfl rfl (Or.inl ⟨12, _, _, rfl, rfl, rfl⟩) rfl rfl (sc_Mo_Mo_0 gm_114) rfl rfl (pc_Mo_Mo_0 gm_114 gm_114) ?_
            refine sv_Q.l (fun v120 => (320, [some (.ref 0), none], [], (W_Mo v120))) (fun v120 => ?_) ?_
            · refine sv_Q.s (σ' := (321, [some (.ref 0), none], [.ref 0], (W_Mo v120))) 1 rfl ?_
              refine sv_Q.V (b := 0) (av := []) (ps := [0, 1, 2, 3, 4, 5, 6, 7, 8, 9, 10, 11, 12, 13, 14, 15, 16, 17, 18, 19, 20, 21, 22]) (rest := []) (cs1 := (W_Mo v120)) (cs2 := (W_Mo v120)) (st' := [.int (F_Mo_good v120)]) (cs' := (W_Mo v120)) (q := (321, .null, 0, 0, 0)) lk_Mo_104 (t_Mo_good v120) rfl rfl rfl rfl rfl (Or.inl ⟨12, _, _, rfl, rfl, rfl⟩) rfl rfl (sc_Mo_Mo_0 v120) rfl rfl (pc_Mo_Mo_0 v120 v120) ?_
              refine sv_Q.b rfl (fun c121 => ?_) (fun c121 => ?_)
              · exact sv_Q.z ⟨True, rfl, trivial, rfl⟩
              · refine sv_Q.s (σ' := (328, [some (.ref 0), none], [.ref 0], (W_Mo v120))) 1 rfl ?_
                refine sv_Q.o (fun v122 e123 => ?_)
                refine sv_Q.V (b := 0) (av := []) (ps := [0, 1, 2, 3, 4, 5, 6, 7, 8, 9, 10, 11, 12, 13, 14, 15, 16, 17, 18, 19, 20, 21, 22]) (rest := []) (cs1 := (W_Mo v120)) (cs2 := (W_Mo v122)) (st' := []) (cs' := (W_Mo v122)) (q := (328, .null, 0, 0, 0)) lk_Mo_156 (r_Mo_advance N v120 v122 e123) rfl rfl rfl rfl rfl (Or.inl ⟨12, _, _, rfl, rfl, rfl⟩) rfl rfl (sc_Mo_Mo_0 v120) rfl rfl (pc_Mo_Mo_0 v120 v122) ?_
                exact sv_Q.z ⟨True, rfl, trivial, rfl⟩
            · refine sv_Q.sb rfl (fun c115 => ?_) (fun c115 => ?_)
              · exact sv_Q.z rfl
              · refine sv_Q.s (σ' := (299, [some (.ref 0), none], [.int (3 : Int32), .int (gm_114 0 18)], (W_Mo gm_114))) 3 rfl ?_
                refine sv_Q.sb rfl (fun c116 => ?_) (fun c116 => ?_)
                · refine sv_Q.s (σ' := (317, [some (.ref 0), none], [.int (gm_114 0 17), .int (1 : Int32), .ref 0], (W_Mo gm_114))) 4 rfl ?_
                  refine sv_Q.V (b := 0) (av := [.int (1 : Int32), .int (gm_114 0 17)]) (ps := [0, 1, 2, 3, 4, 5, 6, 7, 8, 9, 10, 11, 12, 13, 14, 15, 16, 17, 18, 19, 20, 21, 22]) (rest := []) (cs1 := (W_Mo gm_114)) (cs2 := (W_Mo (F_Mo_errs (1 : Int32) (gm_114 0 17) gm_114))) (st' := []) (cs' := (W_Mo (F_Mo_errs (1 : Int32) (gm_114 0 17) gm_114))) (q := (317, .null, 0, 0, 0)) lk_Mo_162 (t_Mo_errs gm_114 (1 : Int32) (gm_114 0 17)) rfl rfl rfl rfl rfl (Or.inl ⟨12, _, _, rfl, rfl, rfl⟩) rfl rfl (sc_Mo_Mo_0 gm_114) rfl rfl (pc_Mo_Mo_0 gm_114 (F_Mo_errs (1 : Int32) (gm_114 0 17) gm_114)) ?_
                  refine sv_Q.gs (fun gm_117 => (320, [some (.ref 0), none], [], (W_Mo gm_117))) (fun gm_117 => ?_)
                  exact sv_Q.z rfl
                · refine sv_Q.s (σ' := (308, [some (.ref 0), none], [.int (59 : Int32), .int (gm_114 0 19)], (W_Mo gm_114))) 3 rfl ?_
                  refine sv_Q.sb rfl (fun c118 => ?_) (fun c118 => ?_)
                  · exact sv_Q.z rfl
                  · refine sv_Q.s (σ' := (317, [some (.ref 0), none], [.int (gm_114 0 17), .int (1 : Int32), .ref 0], (W_Mo gm_114))) 4 rfl ?_
                    refine sv_Q.V (b := 0) (av := [.int (1 : Int32), .int (gm_114 0 17)]) (ps := [0, 1, 2, 3, 4, 5, 6, 7, 8, 9, 10, 11, 12, 13, 14, 15, 16, 17, 18, 19, 20, 21, 22]) (rest := []) (cs1 := (W_Mo gm_114)) (cs2 := (W_Mo (F_Mo_errs (1 : Int32) (gm_114 0 17) gm_114))) (st' := []) (cs' := (W_Mo (F_Mo_errs (1 : Int32) (gm_114 0 17) gm_114))) (q := (317, .null, 0, 0, 0)) lk_Mo_162 (t_Mo_errs gm_114 (1 : Int32) (gm_114 0 17)) rfl rfl rfl rfl rfl (Or.inl ⟨12, _, _, rfl, rfl, rfl⟩) rfl rfl (sc_Mo_Mo_0 gm_114) rfl rfl (pc_Mo_Mo_0 gm_114 (F_Mo_errs (1 : Int32) (gm_114 0 17) gm_114)) ?_
                    refine sv_Q.gs (fun gm_119 => (320, [some (.ref 0), none], [], (W_Mo gm_119))) (fun gm_119 => ?_)
                    exact sv_Q.z rfl
          · refine sv_Q.b rfl (fun c103 => ?_) (fun c103 => ?_)
            · exact sv_Q.z rfl
            · refine sv_Q.s (σ' := (65, [some (.ref 0), none], [.ref 0], (W_Mo gm_102))) 1 rfl ?_
              refine sv_Q.o (fun v104 e105 => ?_)
              refine sv_Q.V (b := 0) (av := []) (ps := [0, 1, 2, 3, 4, 5, 6, 7, 8, 9, 10, 11, 12, 13, 14, 15, 16, 17, 18, 19, 20, 21, 22]) (rest := []) (cs1 := (W_Mo gm_102)) (cs2 := (W_Mo v104)) (st' := []) (cs' := (W_Mo v104)) (q := (65, .null, 0, 0, 0)) lk_Mo_156 (r_Mo_advance N gm_102 v104 e105) rfl rfl rfl rfl rfl (Or.inl ⟨12, _, _, rfl, rfl, rfl⟩) rfl rfl (sc_Mo_Mo_0 gm_102) rfl rfl (pc_Mo_Mo_0 gm_102 v104) ?_
              exact sv_Q.z rfl
        · refine sv_Q.sb rfl (fun c99 => ?_) (fun c99 => ?_)
          · refine sv_Q.f (lo' := [some (.ref 0), none]) ⟨rfl, trivial⟩ ?_
            exact sv_Q.z rfl
          · refine sv_Q.s (σ' := (49, [some (.ref 0), some (.int a0)], [.int (v2.2 0 17), .int (3 : Int32), .ref 0], (W_Mo v2.2))) 4 rfl ?_
            refine sv_Q.V (b := 0) (av := [.int (3 : Int32), .int (v2.2 0 17)]) (ps := [0, 1, 2, 3, 4, 5, 6, 7, 8, 9, 10, 11, 12, 13, 14, 15, 16, 17, 18, 19, 20, 21, 22]) (rest := []) (cs1 := (W_Mo v2.2)) (cs2 := (W_Mo (F_Mo_errs (3 : Int32) (v2.2 0 17) v2.2))) (st' := []) (cs' := (W_Mo (F_Mo_errs (3 : Int32) (v2.2 0 17) v2.2))) (q := (49, .null, 0, 0, 0)) lk_Mo_162 (t_Mo_errs v2.2 (3 : Int32) (v2.2 0 17)) rfl rfl rfl rfl rfl (Or.inl ⟨12, _, _, rfl, rfl, rfl⟩) rfl rfl (sc_Mo_Mo_0 v2.2) rfl rfl (pc_Mo_Mo_0 v2.2 (F_Mo_errs (3 : Int32) (v2.2 0 17) v2.2)) ?_
            refine sv_Q.gs (fun gm_100 => (52, [some (.ref 0), some (.int a0)], [], (W_Mo gm_100))) (fun gm_100 => ?_)
            refine sv_Q.f (lo' := [some (.ref 0), none]) ⟨rfl, trivial⟩ ?_
            exact sv_Q.z rfl
    · refine sv_Q.s (σ' := (21, [some (.ref 0), some (.int a0)], [.ref 0], (W_Mo v2.2))) 1 rfl ?_
      refine sv_Q.o (fun v124 e125 => ?_)
      refine sv_Q.V (b := 0) (av := []) (ps := [0, 1, 2, 3, 4, 5, 6, 7, 8, 9, 10, 11, 12, 13, 14, 15, 16, 17, 18, 19, 20, 21, 22]) (rest := []) (cs1 := (W_Mo v2.2)) (cs2 := (W_Mo v124)) (st' := []) (cs' := (W_Mo v124)) (q := (21, .null, 0, 0, 0)) lk_Mo_204 (r_Mo_readWall N v2.2 v124 e125) rfl rfl rfl rfl rfl (Or.inl ⟨12, _, _, rfl, rfl, rfl⟩) rfl rfl (sc_Mo_Mo_0 v2.2) rfl rfl (pc_Mo_Mo_0 v2.2 v124) ?_
      refine sv_Q.s (σ' := (288, [some (.ref 0), some (.int a0)], [.ref 0], (W_Mo v124))) 2 rfl ?_
      refine sv_Q.V (b := 0) (av := []) (ps := [0, 1, 2, 3, 4, 5, 6, 7, 8, 9, 10, 11, 12, 13, 14, 15, 16, 17, 18, 19, 20, 21, 22]) (rest := []) (cs1 := (W_Mo v124)) (cs2 := (W_Mo v124)) (st' := [.int (F_Mo_good v124)]) (cs' := (W_Mo v124)) (q := (288, .null, 0, 0, 0)) lk_Mo_104 (t_Mo_good v124) rfl rfl rfl rfl rfl (Or.inl ⟨12, _, _, rfl, rfl, rfl⟩) rfl rfl (sc_Mo_Mo_0 v124) rfl rfl (pc_Mo_Mo_0 v124 v124) ?_
      refine sv_Q.l (fun v131 => (320, [some (.ref 0), none], [], (W_Mo v131))) (fun v131 => ?_) ?_
      · refine sv_Q.s (σ' := (321, [some (.ref 0), none], [.ref 0], (W_Mo v131))) 1 rfl ?_
        refine sv_Q.V (b := 0) (av := []) (ps := [0, 1, 2, 3, 4, 5, 6, 7, 8, 9, 10, 11, 12, 13, 14, 15, 16, 17, 18, 19, 20, 21, 22]) (rest := []) (cs1 := (W_Mo v131)) (cs2 := (W_Mo v131)) (st' := [.int (F_Mo_good v131)]) (cs' := (W_Mo v131)) (q := (321, .null, 0, 0, 0)) lk_Mo_104 (t_Mo_good v131) rfl rfl rfl rfl rfl (Or.inl ⟨12, _, _, rfl, rfl, rfl⟩) rfl rfl (sc_Mo_Mo_0 v131) rfl rfl (pc_Mo_Mo_0 v131 v131) ?_
        refine sv_Q.b rfl (fun c132 => ?_) (fun c132 => ?_)
        · exact sv_Q.z ⟨True, rfl, trivial, rfl⟩
        · refine sv_Q.s (σ' := (328, [some (.ref 0), none], [.ref 0], (W_Mo v131))) 1 rfl ?_
          refine sv_Q.o (fun v133 e134 => ?_)
          refine sv_Q.V (b := 0) (av := []) (ps := [0, 1, 2, 3, 4, 5, 6, 7, 8, 9, 10, 11, 12, 13, 14, 15, 16, 17, 18, 19, 20, 21, 22]) (rest := []) (cs1 := (W_Mo v131)) (cs2 := (W_Mo v133)) (st' := []) (cs' := (W_Mo v133)) (q := (328, .null, 0, 0, 0)) lk_Mo_156 (r_Mo_advance N v131 v133 e134) rfl rfl rfl rfl rfl (Or.inl ⟨12, _, _, rfl, rfl, rfl⟩) rfl rfl (sc_Mo_Mo_0 v131) rfl rfl (pc_Mo_Mo_0 v131 v133) ?_
          exact sv_Q.z ⟨True, rfl, trivial, rfl⟩
      · refine sv_Q.sb rfl (fun c126 => ?_) (fun c126 => ?_)
        · refine sv_Q.f (lo' := [some (.ref 0), none]) ⟨rfl, trivial⟩ ?_
          exact sv_Q.z rfl
        · refine sv_Q.s (σ' := (299, [some (.ref 0), some (.int a0)], [.int (3 : Int32), .int (v124 0 18)], (W_Mo v124))) 3 rfl ?_
          refine sv_Q.sb rfl (fun c127 => ?_) (fun c127 => ?_)
          · refine sv_Q.s (σ' := (317, [some (.ref 0), some (.int a0)], [.int (v124 0 17), .int (1 : Int32), .ref 0], (W_Mo v124))) 4 rfl ?_
            refine sv_Q.V (b := 0) (av := [.int (1 : Int32), .int (v124 0 17)]) (ps := [0, 1, 2, 3, 4, 5, 6, 7, 8, 9, 10, 11, 12, 13, 14, 15, 16, 17, 18, 19, 20, 21, 22]) (rest := []) (cs1 := (W_Mo v124)) (cs2 := (W_Mo (F_Mo_errs (1 : Int32) (v124 0 17) v124))) (st' := []) (cs' := (W_Mo (F_Mo_errs (1 : Int32) (v124 0 17) v124))) (q := (317, .null, 0, 0, 0)) lk_Mo_162 (t_Mo_errs v124 (1 : Int32) (v124 0 17)) rfl rfl rfl rfl rfl (Or.inl ⟨12, _, _, rfl, rfl, rfl⟩) rfl rfl (sc_Mo_Mo_0 v124) rfl rfl (pc_Mo_Mo_0 v124 (F_Mo_errs (1 : Int32) (v124 0 17) v124)) ?_
            refine sv_Q.gs (fun gm_128 => (320, [some (.ref 0), some (.int a0)], [], (W_Mo gm_128))) (fun gm_128 => ?_)
            refine sv_Q.f (lo' := [some (.ref 0), none]) ⟨rfl, trivial⟩ ?_
            exact sv_Q.z rfl
          · refine sv_Q.s (σ' := (308, [some (.ref 0), some (.int a0)], [.int (59 : Int32), .int (v124 0 19)], (W_Mo v124))) 3 rfl ?_
            refine sv_Q.sb rfl (fun c129 => ?_) (fun c129 => ?_)
            · refine sv_Q.f (lo' := [some (.ref 0), none]) ⟨rfl, trivial⟩ ?_
              exact sv_Q.z rfl
            · refine sv_Q.s (σ' := (317, [some (.ref 0), some (.int a0)], [.int (v124 0 17), .int (1 : Int32), .ref 0], (W_Mo v124))) 4 rfl ?_
              refine sv_Q.V (b := 0) (av := [.int (1 : Int32), .int (v124 0 17)]) (ps := [0, 1, 2, 3, 4, 5, 6, 7, 8, 9, 10, 11, 12, 13, 14, 15, 16, 17, 18, 19, 20, 21, 22]) (rest := []) (cs1 := (W_Mo v124)) (cs2 := (W_Mo (F_Mo_errs (1 : Int32) (v124 0 17) v124))) (st' := []) (cs' := (W_Mo (F_Mo_errs (1 : Int32) (v124 0 17) v124))) (q := (317, .null, 0, 0, 0)) lk_Mo_162 (t_Mo_errs v124 (1 : Int32) (v124 0 17)) rfl rfl rfl rfl rfl (Or.inl ⟨12, _, _, rfl, rfl, rfl⟩) rfl rfl (sc_Mo_Mo_0 v124) rfl rfl (pc_Mo_Mo_0 v124 (F_Mo_errs (1 : Int32) (v124 0 17) v124)) ?_
              refine sv_Q.gs (fun gm_130 => (320, [some (.ref 0), some (.int a0)], [], (W_Mo gm_130))) (fun gm_130 => ?_)
              refine sv_Q.f (lo' := [some (.ref 0), none]) ⟨rfl, trivial⟩ ?_
              exact sv_Q.z rfl
  · refine sv_Q.s (σ' := (5, [some (.ref 0), some (.int a0)], [.ref 0], (W_Mo gm))) 1 rfl ?_
    refine sv_Q.o (fun v135 e136 => ?_)
    refine sv_Q.V (b := 0) (av := []) (ps := [0, 1, 2, 3, 4, 5, 6, 7, 8, 9, 10, 11, 12, 13, 14, 15, 16, 17, 18, 19, 20, 21, 22]) (rest := []) (cs1 := (W_Mo gm)) (cs2 := (W_Mo v135)) (st' := []) (cs' := (W_Mo v135)) (q := (5, .null, 0, 0, 0)) lk_Mo_199 (r_Mo_readShip N gm v135 e136) rfl rfl rfl rfl rfl (Or.inl ⟨12, _, _, rfl, rfl, rfl⟩) rfl rfl (sc_Mo_Mo_0 gm) rfl rfl (pc_Mo_Mo_0 gm v135) ?_
    refine sv_Q.s (σ' := (288, [some (.ref 0), some (.int a0)], [.ref 0], (W_Mo v135))) 2 rfl ?_
    refine sv_Q.V (b := 0) (av := []) (ps := [0, 1, 2, 3, 4, 5, 6, 7, 8, 9, 10, 11, 12, 13, 14, 15, 16, 17, 18, 19, 20, 21, 22]) (rest := []) (cs1 := (W_Mo v135)) (cs2 := (W_Mo v135)) (st' := [.int (F_Mo_good v135)]) (cs' := (W_Mo v135)) (q := (288, .null, 0, 0, 0)) lk_Mo_104 (t_Mo_good v135) rfl rfl rfl rfl rfl (Or.inl ⟨12, _, _, rfl, rfl, rfl⟩) rfl rfl (sc_Mo_Mo_0 v135) rfl rfl (pc_Mo_Mo_0 v135 v135) ?_
    refine sv_Q.l (fun v142 => (320, [some (.ref 0), none], [], (W_Mo v142))) (fun v142 => ?_) ?_
    · refine sv_Q.s (σ' := (321, [some (.ref 0), none], [.ref 0], (W_Mo v142))) 1 rfl ?_
      refine sv_Q.V (b := 0) (av := []) (ps := [0, 1, 2, 3, 4, 5, 6, 7, 8, 9, 10, 11, 12, 13, 14, 15, 16, 17, 18, 19, 20, 21, 22]) (rest := []) (cs1 := (W_Mo v142)) (cs2 := (W_Mo v142)) (st' := [.int (F_Mo_good v142)]) (cs' := (W_Mo v142)) (q := (321, .null, 0, 0, 0)) lk_Mo_104 (t_Mo_good v142) rfl rfl rfl rfl rfl (Or.inl ⟨12, _, _, rfl, rfl, rfl⟩) rfl rfl (sc_Mo_Mo_0 v142) rfl rfl (pc_Mo_Mo_0 v142 v142) ?_
      refine sv_Q.b rfl (fun c143 => ?_) (fun c143 => ?_)
      · exact sv_Q.z ⟨True, rfl, trivial, rfl⟩
      · refine sv_Q.s (σ' := (328, [some (.ref 0), none], [.ref 0], (W_Mo v142))) 1 rfl ?_
        refine sv_Q.o (fun v144 e145 => ?_)
        refine sv_Q.V (b := 0) (av := []) (ps := [0, 1, 2, 3, 4, 5, 6, 7, 8, 9, 10, 11, 12, 13, 14, 15, 16, 17, 18, 19, 20, 21, 22]) (rest := []) (cs1 := (W_Mo v142)) (cs2 := (W_Mo v144)) (st' := []) (cs' := (W_Mo v144)) (q := (328, .null, 0, 0, 0)) lk_Mo_156 (r_Mo_advance N v142 v144 e145) rfl rfl rfl rfl rfl (Or.inl ⟨12, _, _, rfl, rfl, rfl⟩) rfl rfl (sc_Mo_Mo_0 v142) rfl rfl (pc_Mo_Mo_0 v142 v144) ?_
        exact sv_Q.z ⟨True, rfl, trivial, rfl⟩
    · refine sv_Q.sb rfl (fun c137 => ?_) (fun c137 => ?_)
      · refine sv_Q.f (lo' := [some (.ref 0), none]) ⟨rfl, trivial⟩ ?_
        exact sv_Q.z rfl
      · refine sv_Q.s (σ' := (299, [some (.ref 0), some (.int a0)], [.int (3 : Int32), .int (v135 0 18)], (W_Mo v135))) 3 rfl ?_
        refine sv_Q.sb rfl (fun c138 => ?_) (fun c138 => ?_)
        · refine sv_Q.s (σ' := (317, [some (.ref 0), some (.int a0)], [.int (v135 0 17), .int (1 : Int32), .ref 0], (W_Mo v135))) 4 rfl ?_
          refine sv_Q.V (b := 0) (av := [.int (1 : Int32), .int (v135 0 17)]) (ps := [0, 1, 2, 3, 4, 5, 6, 7, 8, 9, 10, 11, 12, 13, 14, 15, 16, 17, 18, 19, 20, 21, 22]) (rest := []) (cs1 := (W_Mo v135)) (cs2 := (W_Mo (F_Mo_errs (1 : Int32) (v135 0 17) v135))) (st' := []) (cs' := (W_Mo (F_Mo_errs (1 : Int32) (v135 0 17) v135))) (q := (317, .null, 0, 0, 0)) lk_Mo_162 (t_Mo_errs v135 (1 : Int32) (v135 0 17)) rfl rfl rfl rfl rfl (Or.inl ⟨12, _, _, rfl, rfl, rfl⟩) rfl rfl (sc_Mo_Mo_0 v135) rfl rfl (pc_Mo_Mo_0 v135 (F_Mo_errs (1 : Int32) (v135 0 17) v135)) ?_
          refine sv_Q.gs (fun gm_139 => (320, [some (.ref 0), some (.int a0)], [], (W_Mo gm_139))) (fun gm_139 => ?_)
          refine sv_Q.f (lo' := [some (.ref 0), none]) ⟨rfl, trivial⟩ ?_
          exact sv_Q.z rfl
        · refine sv_Q.s (σ' := (308, [some (.ref 0), some (.int a0)], [.int (59 : Int32), .int (v135 0 19)], (W_Mo v135))) 3 rfl ?_
          refine sv_Q.sb rfl (fun c140 => ?_) (fun c140 => ?_)
          · refine sv_Q.f (lo' := [some (.ref 0), none]) ⟨rfl, trivial⟩ ?_
            exact sv_Q.z rfl
          · refine sv_Q.s (σ' := (317, [some (.ref 0), some (.int a0)], [.int (v135 0 17), .int (1 : Int32), .ref 0], (W_Mo v135))) 4 rfl ?_
            refine sv_Q.V (b := 0) (av := [.int (1 : Int32), .int (v135 0 17)]) (ps := [0, 1, 2, 3, 4, 5, 6, 7, 8, 9, 10, 11, 12, 13, 14, 15, 16, 17, 18, 19, 20, 21, 22]) (rest := []) (cs1 := (W_Mo v135)) (cs2 := (W_Mo (F_Mo_errs (1 : Int32) (v135 0 17) v135))) (st' := []) (cs' := (W_Mo (F_Mo_errs (1 : Int32) (v135 0 17) v135))) (q := (317, .null, 0, 0, 0)) lk_Mo_162 (t_Mo_errs v135 (1 : Int32) (v135 0 17)) rfl rfl rfl rfl rfl (Or.inl ⟨12, _, _, rfl, rfl, rfl⟩) rfl rfl (sc_Mo_Mo_0 v135) rfl rfl (pc_Mo_Mo_0 v135 (F_Mo_errs (1 : Int32) (v135 0 17) v135)) ?_
            refine sv_Q.gs (fun gm_141 => (320, [some (.ref 0), some (.int a0)], [], (W_Mo gm_141))) (fun gm_141 => ?_)
            refine sv_Q.f (lo' := [some (.ref 0), none]) ⟨rfl, trivial⟩ ?_
            exact sv_Q.z rfl
def L_Mo_laysPlaces_2 (N : Nat) : Nat → Int32 → (Nat → Nat → Int32) → Option ((Nat → Nat → Int32))
  | 0, _, _ => none
  | n + 1, x1, gm => (if (144 : Int32) ≤ x1 then (some gm) else (if sv_in x1 144 then (sv_let (sa gm 8 x1 (-1 : Int32)) fun (gm_3 : Nat → Nat → Int32) => (L_Mo_laysPlaces_2 N n (x1 + (1 : Int32)) gm_3)) else none))
set_option maxHeartbeats 4000000 in
set_option maxRecDepth 100000 in
theorem l_Mo_laysPlaces_2 {X : Nat × (Nat → Int32)} (N : Nat) : ∀ (n : Nat) (x1 : Int32) (gm : Nat → Nat → Int32), sv_Q X 0 M_Mo_laysPlaces (2, [some (.ref 0), some (.int x1)], [], (W_Mo gm)) (L_Mo_laysPlaces_2 N n x1 gm) (fun v σ' => σ' = (22, [some (.ref 0), none], [], (W_Mo v))) := by
  intro n
  induction n with
  | zero => intro x1 gm; unfold L_Mo_laysPlaces_2; exact sv_Q.non
  | succ n ih =>
    intro x1 gm
    unfold L_Mo_laysPlaces_2
    refine sv_Q.s (σ' := (6, [some (.ref 0), some (.int x1)], [.int (144 : Int32), .int x1], (W_Mo gm))) 2 rfl ?_
    refine sv_Q.b rfl (fun c1 => ?_) (fun c1 => ?_)
    · refine sv_Q.f (lo' := [some (.ref 0), none]) ⟨rfl, trivial⟩ ?_
      exact sv_Q.z rfl
    · refine sv_Q.s (σ' := (15, [some (.ref 0), some (.int x1)], [.int (-1 : Int32), .int x1, .ref 8], (W_Mo gm))) 4 rfl ?_
      refine sv_Q.g (σ' := (16, [some (.ref 0), some (.int x1)], [], (W_Mo (sa gm 8 x1 (-1 : Int32))))) (c := sv_in x1 144) rfl (fun c2 => ?_)
      refine sv_Q.go (fun gm_3 => (16, [some (.ref 0), some (.int x1)], [], (W_Mo gm_3))) (fun gm_3 => ?_)
      refine sv_Q.s (σ' := (2, [some (.ref 0), some (.int (x1 + (1 : Int32)))], [], (W_Mo gm_3))) 2 rfl ?_
      exact ih (x1 + (1 : Int32)) gm_3
def L_Mo_laysPlaces_24 (N : Nat) : Nat → Int32 → (Nat → Nat → Int32) → Option ((Nat → Nat → Int32))
  | 0, _, _ => none
  | n + 1, x1, gm => (if (gm 0 6) ≤ x1 then (some gm) else (if sv_in x1 24 then (if (gm 7 (x1).toNatClampNeg) = (-1 : Int32) then (L_Mo_laysPlaces_24 N n (x1 + (1 : Int32)) gm) else (if sv_in x1 24 then (if sv_in (gm 7 (x1).toNatClampNeg) 144 then (sv_let (sa gm 8 (gm 7 (x1).toNatClampNeg) x1) fun (gm_10 : Nat → Nat → Int32) => (L_Mo_laysPlaces_24 N n (x1 + (1 : Int32)) gm_10)) else none) else none)) else none))
set_option maxHeartbeats 4000000 in
set_option maxRecDepth 100000 in
theorem l_Mo_laysPlaces_24 {X : Nat × (Nat → Int32)} (N : Nat) : ∀ (n : Nat) (x1 : Int32) (gm : Nat → Nat → Int32), sv_Q X 0 M_Mo_laysPlaces (24, [some (.ref 0), some (.int x1)], [], (W_Mo gm)) (L_Mo_laysPlaces_24 N n x1 gm) (fun v σ' => σ' = (60, [none, none], [], (W_Mo v))) := by
  intro n
  induction n with
  | zero => intro x1 gm; unfold L_Mo_laysPlaces_24; exact sv_Q.non
  | succ n ih =>
    intro x1 gm
    unfold L_Mo_laysPlaces_24
    refine sv_Q.s (σ' := (29, [some (.ref 0), some (.int x1)], [.int (gm 0 6), .int x1], (W_Mo gm))) 3 rfl ?_
    refine sv_Q.b rfl (fun c5 => ?_) (fun c5 => ?_)
    · refine sv_Q.f (lo' := [none, none]) trivial ?_
      exact sv_Q.z rfl
    · refine sv_Q.s (σ' := (37, [some (.ref 0), some (.int x1)], [.int x1, .ref 7], (W_Mo gm))) 3 rfl ?_
      refine sv_Q.g (σ' := (38, [some (.ref 0), some (.int x1)], [.int (gm 7 (x1).toNatClampNeg)], (W_Mo gm))) (c := sv_in x1 24) rfl (fun c6 => ?_)
      refine sv_Q.s (σ' := (39, [some (.ref 0), some (.int x1)], [.int (-1 : Int32), .int (gm 7 (x1).toNatClampNeg)], (W_Mo gm))) 1 rfl ?_
      refine sv_Q.b rfl (fun c7 => ?_) (fun c7 => ?_)
      · refine sv_Q.s (σ' := (24, [some (.ref 0), some (.int (x1 + (1 : Int32)))], [], (W_Mo gm))) 2 rfl ?_
        exact ih (x1 + (1 : Int32)) gm
      · refine sv_Q.s (σ' := (51, [some (.ref 0), some (.int x1)], [.int x1, .ref 7, .ref 8], (W_Mo gm))) 5 rfl ?_
        refine sv_Q.g (σ' := (52, [some (.ref 0), some (.int x1)], [.int (gm 7 (x1).toNatClampNeg), .ref 8], (W_Mo gm))) (c := sv_in x1 24) rfl (fun c8 => ?_)
        refine sv_Q.s (σ' := (53, [some (.ref 0), some (.int x1)], [.int x1, .int (gm 7 (x1).toNatClampNeg), .ref 8], (W_Mo gm))) 1 rfl ?_
        refine sv_Q.g (σ' := (54, [some (.ref 0), some (.int x1)], [], (W_Mo (sa gm 8 (gm 7 (x1).toNatClampNeg) x1)))) (c := sv_in (gm 7 (x1).toNatClampNeg) 144) rfl (fun c9 => ?_)
        refine sv_Q.go (fun gm_10 => (54, [some (.ref 0), some (.int x1)], [], (W_Mo gm_10))) (fun gm_10 => ?_)
        refine sv_Q.s (σ' := (24, [some (.ref 0), some (.int (x1 + (1 : Int32)))], [], (W_Mo gm_10))) 2 rfl ?_
        exact ih (x1 + (1 : Int32)) gm_10
def F_Mo_laysPlaces (N : Nat) (gm : Nat → Nat → Int32) : Option ((Nat → Nat → Int32)) := (Option.bind (L_Mo_laysPlaces_2 N N (0 : Int32) gm) fun (v4 : (Nat → Nat → Int32)) => (Option.bind (L_Mo_laysPlaces_24 N N (0 : Int32) v4) fun (v11 : (Nat → Nat → Int32)) => (some v11)))
set_option maxHeartbeats 4000000 in
set_option maxRecDepth 100000 in
theorem r_Mo_laysPlaces {X : Nat × (Nat → Int32)} (N : Nat) (gm : Nat → Nat → Int32) : ∀ x, (F_Mo_laysPlaces N gm) = some x → sv_R X 1 M_Mo_laysPlaces [.ref 0] (W_Mo gm) none (W_Mo x) := by
  refine sv_Q.R (res := (fun (x : (Nat → Nat → Int32)) => ((none : Option Value), (W_Mo x)))) g_Mo_laysPlaces rfl ?_
  unfold F_Mo_laysPlaces
  refine sv_Q.s (σ' := (2, [some (.ref 0), some (.int (0 : Int32))], [], (W_Mo gm))) 2 rfl ?_
  refine sv_Q.lo (fun v4 => (22, [some (.ref 0), none], [], (W_Mo v4))) (fun v4 => ?_) (l_Mo_laysPlaces_2 N N (0 : Int32) gm)
  · refine sv_Q.s (σ' := (24, [some (.ref 0), some (.int (0 : Int32))], [], (W_Mo v4))) 2 rfl ?_
    refine sv_Q.lo (fun v11 => (60, [none, none], [], (W_Mo v11))) (fun v11 => ?_) (l_Mo_laysPlaces_24 N N (0 : Int32) v4)
    · exact sv_Q.z ⟨True, rfl, trivial, rfl⟩
def L_Mo_ship_35 (N : Nat) : Nat → Int32 → (Nat → Nat → Int32) → Option ((Nat → Nat → Int32))
  | 0, _, _ => none
  | n + 1, x1, gm => (if (90 : Int32) ≤ x1 then (some gm) else (if sv_in x1 90 then (sv_let (sa gm 2 x1 (0 : Int32)) fun (gm_9 : Nat → Nat → Int32) => (L_Mo_ship_35 N n (x1 + (1 : Int32)) gm_9)) else none))
set_option maxHeartbeats 4000000 in
set_option maxRecDepth 100000 in
theorem l_Mo_ship_35 {X : Nat × (Nat → Int32)} (N : Nat) : ∀ (n : Nat) (x1 : Int32) (gm : Nat → Nat → Int32), sv_Q X 11 M_Mo_ship (35, [some (.ref 0), some (.int x1), none], [], (W_Mo gm)) (L_Mo_ship_35 N n x1 gm) (fun v σ' => σ' = (54, [some (.ref 0), none, none], [], (W_Mo v))) := by
  intro n
  induction n with
  | zero => intro x1 gm; unfold L_Mo_ship_35; exact sv_Q.non
  | succ n ih =>
    intro x1 gm
    unfold L_Mo_ship_35
    refine sv_Q.s (σ' := (38, [some (.ref 0), some (.int x1), none], [.int (90 : Int32), .int x1], (W_Mo gm))) 2 rfl ?_
    refine sv_Q.b rfl (fun c7 => ?_) (fun c7 => ?_)
    · refine sv_Q.f (lo' := [some (.ref 0), none, none]) ⟨rfl, trivial⟩ ?_
      exact sv_Q.z rfl
    · refine sv_Q.s (σ' := (47, [some (.ref 0), some (.int x1), none], [.int (0 : Int32), .int x1, .ref 2], (W_Mo gm))) 4 rfl ?_
      refine sv_Q.g (σ' := (48, [some (.ref 0), some (.int x1), none], [], (W_Mo (sa gm 2 x1 (0 : Int32))))) (c := sv_in x1 90) rfl (fun c8 => ?_)
      refine sv_Q.go (fun gm_9 => (48, [some (.ref 0), some (.int x1), none], [], (W_Mo gm_9))) (fun gm_9 => ?_)
      refine sv_Q.s (σ' := (35, [some (.ref 0), some (.int (x1 + (1 : Int32))), none], [], (W_Mo gm_9))) 2 rfl ?_
      exact ih (x1 + (1 : Int32)) gm_9
def L_Mo_ship_94 (N : Nat) : Nat → Int32 → (Nat → Nat → Int32) → Option (Int32 × (Nat → Nat → Int32))
  | 0, _, _ => none
  | n + 1, x1, gm => (if (F_Mo_good gm) = 0 then (some (x1, gm)) else (if (gm 0 18) = 0 then (some (x1, gm)) else (Option.bind (F_Mo_readLine N x1 gm) fun (v22 : (Nat → Nat → Int32)) => (L_Mo_ship_94 N n (x1 + (1 : Int32)) v22))))
set_option maxHeartbeats 4000000 in
set_option maxRecDepth 100000 in
theorem l_Mo_ship_94 {X : Nat × (Nat → Int32)} (N : Nat) : ∀ (n : Nat) (x1 : Int32) (gm : Nat → Nat → Int32), sv_Q X 11 M_Mo_ship (94, [some (.ref 0), some (.int x1), none], [], (W_Mo gm)) (L_Mo_ship_94 N n x1 gm) (fun v σ' => σ' = (119, [some (.ref 0), some (.int v.1), none], [], (W_Mo v.2))) := by
  intro n
  induction n with
  | zero => intro x1 gm; unfold L_Mo_ship_94; exact sv_Q.non
  | succ n ih =>
    intro x1 gm
    unfold L_Mo_ship_94
    refine sv_Q.s (σ' := (95, [some (.ref 0), some (.int x1), none], [.ref 0], (W_Mo gm))) 1 rfl ?_
    refine sv_Q.V (b := 0) (av := []) (ps := [0, 1, 2, 3, 4, 5, 6, 7, 8, 9, 10, 11, 12, 13, 14, 15, 16, 17, 18, 19, 20, 21, 22]) (rest := []) (cs1 := (W_Mo gm)) (cs2 := (W_Mo gm)) (st' := [.int (F_Mo_good gm)]) (cs' := (W_Mo gm)) (q := (95, .null, 0, 0, 0)) lk_Mo_104 (t_Mo_good gm) rfl rfl rfl rfl rfl (Or.inl ⟨12, _, _, rfl, rfl, rfl⟩) rfl rfl (sc_Mo_Mo_0 gm) rfl rfl (pc_Mo_Mo_0 gm gm) ?_
    refine sv_Q.b rfl (fun c20 => ?_) (fun c20 => ?_)
    · exact sv_Q.z rfl
    · refine sv_Q.s (σ' := (105, [some (.ref 0), some (.int x1), none], [.int (gm 0 18)], (W_Mo gm))) 2 rfl ?_
      refine sv_Q.b rfl (fun c21 => ?_) (fun c21 => ?_)
      · exact sv_Q.z rfl
      · refine sv_Q.s (σ' := (110, [some (.ref 0), some (.int x1), none], [.int x1, .ref 0], (W_Mo gm))) 2 rfl ?_
        refine sv_Q.o (fun v22 e23 => ?_)
        refine sv_Q.V (b := 0) (av := [.int x1]) (ps := [0, 1, 2, 3, 4, 5, 6, 7, 8, 9, 10, 11, 12, 13, 14, 15, 16, 17, 18, 19, 20, 21, 22]) (rest := []) (cs1 := (W_Mo gm)) (cs2 := (W_Mo v22)) (st' := []) (cs' := (W_Mo v22)) (q := (110, .null, 0, 0, 0)) lk_Mo_230 (r_Mo_readLine N gm x1 v22 e23) rfl rfl rfl rfl rfl (Or.inl ⟨12, _, _, rfl, rfl, rfl⟩) rfl rfl (sc_Mo_Mo_0 gm) rfl rfl (pc_Mo_Mo_0 gm v22) ?_
        refine sv_Q.s (σ' := (94, [some (.ref 0), some (.int (x1 + (1 : Int32))), none], [], (W_Mo v22))) 2 rfl ?_
        exact ih (x1 + (1 : Int32)) v22
def L_Mo_ship_136 (N : Nat) : Nat → Int32 → Int32 → (Nat → Nat → Int32) → Option ((Nat → Nat → Int32))
  | 0, _, _, _ => none
  | n + 1, x1, x2, gm => (if (90 : Int32) ≤ x2 then (some gm) else (if sv_in x2 90 then (if sv_in x2 90 then (sv_let (sa gm 1 x2 (gm 2 (x2).toNatClampNeg)) fun (gm_30 : Nat → Nat → Int32) => (L_Mo_ship_136 N n x1 (x2 + (1 : Int32)) gm_30)) else none) else none))
set_option maxHeartbeats 4000000 in
set_option maxRecDepth 100000 in
theorem l_Mo_ship_136 {X : Nat × (Nat → Int32)} (N : Nat) : ∀ (n : Nat) (x1 : Int32) (x2 : Int32) (gm : Nat → Nat → Int32), sv_Q X 11 M_Mo_ship (136, [some (.ref 0), some (.int x1), some (.int x2)], [], (W_Mo gm)) (L_Mo_ship_136 N n x1 x2 gm) (fun v σ' => σ' = (160, [some (.ref 0), some (.int x1), none], [], (W_Mo v))) := by
  intro n
  induction n with
  | zero => intro x1 x2 gm; unfold L_Mo_ship_136; exact sv_Q.non
  | succ n ih =>
    intro x1 x2 gm
    unfold L_Mo_ship_136
    refine sv_Q.s (σ' := (139, [some (.ref 0), some (.int x1), some (.int x2)], [.int (90 : Int32), .int x2], (W_Mo gm))) 2 rfl ?_
    refine sv_Q.b rfl (fun c27 => ?_) (fun c27 => ?_)
    · refine sv_Q.f (lo' := [some (.ref 0), some (.int x1), none]) ⟨rfl, ⟨rfl, trivial⟩⟩ ?_
      exact sv_Q.z rfl
    · refine sv_Q.s (σ' := (152, [some (.ref 0), some (.int x1), some (.int x2)], [.int x2, .ref 2, .int x2, .ref 1], (W_Mo gm))) 6 rfl ?_
      refine sv_Q.g (σ' := (153, [some (.ref 0), some (.int x1), some (.int x2)], [.int (gm 2 (x2).toNatClampNeg), .int x2, .ref 1], (W_Mo gm))) (c := sv_in x2 90) rfl (fun c28 => ?_)
      refine sv_Q.g (σ' := (154, [some (.ref 0), some (.int x1), some (.int x2)], [], (W_Mo (sa gm 1 x2 (gm 2 (x2).toNatClampNeg))))) (c := sv_in x2 90) rfl (fun c29 => ?_)
      refine sv_Q.go (fun gm_30 => (154, [some (.ref 0), some (.int x1), some (.int x2)], [], (W_Mo gm_30))) (fun gm_30 => ?_)
      refine sv_Q.s (σ' := (136, [some (.ref 0), some (.int x1), some (.int (x2 + (1 : Int32)))], [], (W_Mo gm_30))) 2 rfl ?_
      exact ih x1 (x2 + (1 : Int32)) gm_30
def L_Mo_ship_173 (N : Nat) : Nat → Int32 → Int32 → (Nat → Nat → Int32) → Option ((Nat → Nat → Int32))
  | 0, _, _, _ => none
  | n + 1, x1, x2, gm => (if (gm 0 6) ≤ x2 then (some gm) else (if sv_in ((3 : Int32) * x2) 72 then (if sv_in x2 24 then (sv_let (sa gm 4 x2 (gm 3 (((3 : Int32) * x2)).toNatClampNeg)) fun (gm_37 : Nat → Nat → Int32) => (if sv_in (((3 : Int32) * x2) + (1 : Int32)) 72 then (if sv_in x2 24 then (sv_let (sa gm_37 5 x2 (gm_37 3 ((((3 : Int32) * x2) + (1 : Int32))).toNatClampNeg)) fun (gm_40 : Nat → Nat → Int32) => (if sv_in (((3 : Int32) * x2) + (2 : Int32)) 72 then (if sv_in x2 24 then (sv_let (sa gm_40 6 x2 (gm_40 3 ((((3 : Int32) * x2) + (2 : Int32))).toNatClampNeg)) fun (gm_43 : Nat → Nat → Int32) => (if sv_in x2 24 then (sv_let (sa gm_43 7 x2 (-1 : Int32)) fun (gm_45 : Nat → Nat → Int32) => (L_Mo_ship_173 N n x1 (x2 + (1 : Int32)) gm_45)) else none)) else none) else none)) else none) else none)) else none) else none))
set_option maxHeartbeats 4000000 in
set_option maxRecDepth 100000 in
theorem l_Mo_ship_173 {X : Nat × (Nat → Int32)} (N : Nat) : ∀ (n : Nat) (x1 : Int32) (x2 : Int32) (gm : Nat → Nat → Int32), sv_Q X 11 M_Mo_ship (173, [some (.ref 0), some (.int x1), some (.int x2)], [], (W_Mo gm)) (L_Mo_ship_173 N n x1 x2 gm) (fun v σ' => σ' = (240, [some (.ref 0), some (.int x1), none], [], (W_Mo v))) := by
  intro n
  induction n with
  | zero => intro x1 x2 gm; unfold L_Mo_ship_173; exact sv_Q.non
  | succ n ih =>
    intro x1 x2 gm
    unfold L_Mo_ship_173
    refine sv_Q.s (σ' := (178, [some (.ref 0), some (.int x1), some (.int x2)], [.int (gm 0 6), .int x2], (W_Mo gm))) 3 rfl ?_
    refine sv_Q.b rfl (fun c34 => ?_) (fun c34 => ?_)
    · refine sv_Q.f (lo' := [some (.ref 0), some (.int x1), none]) ⟨rfl, ⟨rfl, trivial⟩⟩ ?_
      exact sv_Q.z rfl
    · refine sv_Q.s (σ' := (193, [some (.ref 0), some (.int x1), some (.int x2)], [.int ((3 : Int32) * x2), .ref 3, .int x2, .ref 4], (W_Mo gm))) 8 rfl ?_
      refine sv_Q.g (σ' := (194, [some (.ref 0), some (.int x1), some (.int x2)], [.int (gm 3 (((3 : Int32) * x2)).toNatClampNeg), .int x2, .ref 4], (W_Mo gm))) (c := sv_in ((3 : Int32) * x2) 72) rfl (fun c35 => ?_)
      refine sv_Q.g (σ' := (195, [some (.ref 0), some (.int x1), some (.int x2)], [], (W_Mo (sa gm 4 x2 (gm 3 (((3 : Int32) * x2)).toNatClampNeg))))) (c := sv_in x2 24) rfl (fun c36 => ?_)
      refine sv_Q.go (fun gm_37 => (195, [some (.ref 0), some (.int x1), some (.int x2)], [], (W_Mo gm_37))) (fun gm_37 => ?_)
      refine sv_Q.s (σ' := (209, [some (.ref 0), some (.int x1), some (.int x2)], [.int (((3 : Int32) * x2) + (1 : Int32)), .ref 3, .int x2, .ref 5], (W_Mo gm_37))) 10 rfl ?_
      refine sv_Q.g (σ' := (210, [some (.ref 0), some (.int x1), some (.int x2)], [.int (gm_37 3 ((((3 : Int32) * x2) + (1 : Int32))).toNatClampNeg), .int x2, .ref 5], (W_Mo gm_37))) (c := sv_in (((3 : Int32) * x2) + (1 : Int32)) 72) rfl (fun c38 => ?_)
      refine sv_Q.g (σ' := (211, [some (.ref 0), some (.int x1), some (.int x2)], [], (W_Mo (sa gm_37 5 x2 (gm_37 3 ((((3 : Int32) * x2) + (1 : Int32))).toNatClampNeg))))) (c := sv_in x2 24) rfl (fun c39 => ?_)
      refine sv_Q.go (fun gm_40 => (211, [some (.ref 0), some (.int x1), some (.int x2)], [], (W_Mo gm_40))) (fun gm_40 => ?_)
      refine sv_Q.s (σ' := (225, [some (.ref 0), some (.int x1), some (.int x2)], [.int (((3 : Int32) * x2) + (2 : Int32)), .ref 3, .int x2, .ref 6], (W_Mo gm_40))) 10 rfl ?_
      refine sv_Q.g (σ' := (226, [some (.ref 0), some (.int x1), some (.int x2)], [.int (gm_40 3 ((((3 : Int32) * x2) + (2 : Int32))).toNatClampNeg), .int x2, .ref 6], (W_Mo gm_40))) (c := sv_in (((3 : Int32) * x2) + (2 : Int32)) 72) rfl (fun c41 => ?_)
      refine sv_Q.g (σ' := (227, [some (.ref 0), some (.int x1), some (.int x2)], [], (W_Mo (sa gm_40 6 x2 (gm_40 3 ((((3 : Int32) * x2) + (2 : Int32))).toNatClampNeg))))) (c := sv_in x2 24) rfl (fun c42 => ?_)
      refine sv_Q.go (fun gm_43 => (227, [some (.ref 0), some (.int x1), some (.int x2)], [], (W_Mo gm_43))) (fun gm_43 => ?_)
      refine sv_Q.s (σ' := (233, [some (.ref 0), some (.int x1), some (.int x2)], [.int (-1 : Int32), .int x2, .ref 7], (W_Mo gm_43))) 4 rfl ?_
      refine sv_Q.g (σ' := (234, [some (.ref 0), some (.int x1), some (.int x2)], [], (W_Mo (sa gm_43 7 x2 (-1 : Int32))))) (c := sv_in x2 24) rfl (fun c44 => ?_)
      refine sv_Q.go (fun gm_45 => (234, [some (.ref 0), some (.int x1), some (.int x2)], [], (W_Mo gm_45))) (fun gm_45 => ?_)
      refine sv_Q.s (σ' := (173, [some (.ref 0), some (.int x1), some (.int (x2 + (1 : Int32)))], [], (W_Mo gm_45))) 2 rfl ?_
      exact ih x1 (x2 + (1 : Int32)) gm_45
def L_Mo_ship_247 (N : Nat) : Nat → Int32 → Int32 → (Nat → Nat → Int32) → Option ((Nat → Nat → Int32))
  | 0, _, _, _ => none
  | n + 1, x1, x2, gm => (if (6 : Int32) ≤ x2 then (some gm) else (if sv_in ((8 : Int32) + x2) 90 then (if ¬ (gm 1 (((8 : Int32) + x2)).toNatClampNeg) = (2 : Int32) then (sv_let (ss gm 11 ((gm 0 11) ||| (0 : Int32))) fun (gm_51 : Nat → Nat → Int32) => (L_Mo_ship_247 N n x1 (x2 + (1 : Int32)) gm_51)) else (sv_let (ss gm 11 ((gm 0 11) ||| ((1 : Int32) <<< (x2 &&& 31)))) fun (gm_52 : Nat → Nat → Int32) => (L_Mo_ship_247 N n x1 (x2 + (1 : Int32)) gm_52))) else none))
set_option maxHeartbeats 4000000 in
set_option maxRecDepth 100000 in
theorem l_Mo_ship_247 {X : Nat × (Nat → Int32)} (N : Nat) : ∀ (n : Nat) (x1 : Int32) (x2 : Int32) (gm : Nat → Nat → Int32), sv_Q X 11 M_Mo_ship (247, [some (.ref 0), some (.int x1), some (.int x2)], [], (W_Mo gm)) (L_Mo_ship_247 N n x1 x2 gm) (fun v σ' => σ' = (288, [some (.ref 0), some (.int x1), none], [], (W_Mo v))) := by
  intro n
  induction n with
  | zero => intro x1 x2 gm; unfold L_Mo_ship_247; exact sv_Q.non
  | succ n ih =>
    intro x1 x2 gm
    unfold L_Mo_ship_247
    refine sv_Q.s (σ' := (250, [some (.ref 0), some (.int x1), some (.int x2)], [.int (6 : Int32), .int x2], (W_Mo gm))) 2 rfl ?_
    refine sv_Q.b rfl (fun c48 => ?_) (fun c48 => ?_)
    · refine sv_Q.f (lo' := [some (.ref 0), some (.int x1), none]) ⟨rfl, ⟨rfl, trivial⟩⟩ ?_
      exact sv_Q.z rfl
    · refine sv_Q.s (σ' := (266, [some (.ref 0), some (.int x1), some (.int x2)], [.int ((8 : Int32) + x2), .ref 1, .int (gm 0 11), .ref 0], (W_Mo gm))) 8 rfl ?_
      refine sv_Q.g (σ' := (267, [some (.ref 0), some (.int x1), some (.int x2)], [.int (gm 1 (((8 : Int32) + x2)).toNatClampNeg), .int (gm 0 11), .ref 0], (W_Mo gm))) (c := sv_in ((8 : Int32) + x2) 90) rfl (fun c49 => ?_)
      refine sv_Q.s (σ' := (268, [some (.ref 0), some (.int x1), some (.int x2)], [.int (2 : Int32), .int (gm 1 (((8 : Int32) + x2)).toNatClampNeg), .int (gm 0 11), .ref 0], (W_Mo gm))) 1 rfl ?_
      refine sv_Q.b rfl (fun c50 => ?_) (fun c50 => ?_)
      · refine sv_Q.s (σ' := (282, [some (.ref 0), some (.int x1), some (.int x2)], [], (W_Mo (ss gm 11 ((gm 0 11) ||| (0 : Int32)))))) 3 rfl ?_
        refine sv_Q.go (fun gm_51 => (282, [some (.ref 0), some (.int x1), some (.int x2)], [], (W_Mo gm_51))) (fun gm_51 => ?_)
        refine sv_Q.s (σ' := (247, [some (.ref 0), some (.int x1), some (.int (x2 + (1 : Int32)))], [], (W_Mo gm_51))) 2 rfl ?_
        exact ih x1 (x2 + (1 : Int32)) gm_51
      · refine sv_Q.s (σ' := (282, [some (.ref 0), some (.int x1), some (.int x2)], [], (W_Mo (ss gm 11 ((gm 0 11) ||| ((1 : Int32) <<< (x2 &&& 31))))))) 6 rfl ?_
        refine sv_Q.go (fun gm_52 => (282, [some (.ref 0), some (.int x1), some (.int x2)], [], (W_Mo gm_52))) (fun gm_52 => ?_)
        refine sv_Q.s (σ' := (247, [some (.ref 0), some (.int x1), some (.int (x2 + (1 : Int32)))], [], (W_Mo gm_52))) 2 rfl ?_
        exact ih x1 (x2 + (1 : Int32)) gm_52
def F_Mo_ship (N : Nat) (gm : Nat → Nat → Int32) : Option (Int32 × (Nat → Nat → Int32)) := (sv_let (ss gm 15 (gm 0 14)) fun (gm_1 : Nat → Nat → Int32) => (sv_let (ss gm_1 14 (0 : Int32)) fun (gm_2 : Nat → Nat → Int32) => (sv_let (ss gm_2 16 (0 : Int32)) fun (gm_3 : Nat → Nat → Int32) => (sv_let (ss gm_3 20 (0 : Int32)) fun (gm_4 : Nat → Nat → Int32) => (sv_let (ss gm_4 21 (-1 : Int32)) fun (gm_5 : Nat → Nat → Int32) => (sv_let (ss gm_5 5 (0 : Int32)) fun (gm_6 : Nat → Nat → Int32) => (Option.bind (L_Mo_ship_35 N N (0 : Int32) gm_6) fun (v10 : (Nat → Nat → Int32)) => (if sv_in (4 : Int32) 90 then (sv_let (sa v10 2 (4 : Int32) (999 : Int32)) fun (gm_12 : Nat → Nat → Int32) => (if sv_in (5 : Int32) 90 then (sv_let (sa gm_12 2 (5 : Int32) (999 : Int32)) fun (gm_14 : Nat → Nat → Int32) => (Option.bind (F_Mo_advance N gm_14) fun (v15 : (Nat → Nat → Int32)) => (sv_let (if ¬ (v15 0 18) = 0 then v15 else (sv_let (F_Mo_errs (1 : Int32) (v15 0 17) v15) fun (gm_18 : Nat → Nat → Int32) => gm_18)) fun (v19 : (Nat → Nat → Int32)) => (Option.bind (L_Mo_ship_94 N N (0 : Int32) v19) fun (v24 : Int32 × (Nat → Nat → Int32)) => (if ¬ (F_Mo_good v24.2) = 0 then (sv_let (ss v24.2 1 (1 : Int32)) fun (gm_26 : Nat → Nat → Int32) => (Option.bind (L_Mo_ship_136 N N v24.1 (0 : Int32) gm_26) fun (v31 : (Nat → Nat → Int32)) => (if sv_in (7 : Int32) 90 then (sv_let (ss v31 6 (v31 2 ((7 : Int32)).toNatClampNeg)) fun (gm_33 : Nat → Nat → Int32) => (Option.bind (L_Mo_ship_173 N N v24.1 (0 : Int32) gm_33) fun (v46 : (Nat → Nat → Int32)) => (sv_let (ss v46 11 (0 : Int32)) fun (gm_47 : Nat → Nat → Int32) => (Option.bind (L_Mo_ship_247 N N v24.1 (0 : Int32) gm_47) fun (v53 : (Nat → Nat → Int32)) => (Option.bind (F_Mo_laysPlaces N v53) fun (v54 : (Nat → Nat → Int32)) => (sv_let (ss v54 22 (0 : Int32)) fun (gm_56 : Nat → Nat → Int32) => (sv_let (ss gm_56 32 (0 : Int32)) fun (gm_57 : Nat → Nat → Int32) => (sv_let (ss gm_57 37 (-1 : Int32)) fun (gm_58 : Nat → Nat → Int32) => (some (v24.1, gm_58)))))))))) else none))) else (some ((-4 : Int32), v24.2))))))) else none)) else none))))))))
set_option maxHeartbeats 4000000 in
set_option maxRecDepth 100000 in
theorem r_Mo_ship {X : Nat × (Nat → Int32)} (N : Nat) (gm : Nat → Nat → Int32) : ∀ x, (F_Mo_ship N gm) = some x → sv_R X 12 M_Mo_ship [.ref 0] (W_Mo gm) (some (.int x.1)) (W_Mo x.2) := by
  refine sv_Q.R (res := (fun (x : Int32 × (Nat → Nat → Int32)) => (some (.int x.1), (W_Mo x.2)))) g_Mo_ship rfl ?_
  unfold F_Mo_ship
  refine sv_Q.s (σ' := (8, [some (.ref 0), none, none], [], (W_Mo (ss gm 15 (gm 0 14))))) 4 rfl ?_
  refine sv_Q.go (fun gm_1 => (8, [some (.ref 0), none, none], [], (W_Mo gm_1))) (fun gm_1 => ?_)
  refine sv_Q.s (σ' := (13, [some (.ref 0), none, none], [], (W_Mo (ss gm_1 14 (0 : Int32))))) 3 rfl ?_
  refine sv_Q.go (fun gm_2 => (13, [some (.ref 0), none, none], [], (W_Mo gm_2))) (fun gm_2 => ?_)
  refine sv_Q.s (σ' := (18, [some (.ref 0), none, none], [], (W_Mo (ss gm_2 16 (0 : Int32))))) 3 rfl ?_
  refine sv_Q.go (fun gm_3 => (18, [some (.ref 0), none, none], [], (W_Mo gm_3))) (fun gm_3 => ?_)
  refine sv_Q.s (σ' := (23, [some (.ref 0), none, none], [], (W_Mo (ss gm_3 20 (0 : Int32))))) 3 rfl ?_
  refine sv_Q.go (fun gm_4 => (23, [some (.ref 0), none, none], [], (W_Mo gm_4))) (fun gm_4 => ?_)
  refine sv_Q.s (σ' := (28, [some (.ref 0), none, none], [], (W_Mo (ss gm_4 21 (-1 : Int32))))) 3 rfl ?_
  refine sv_Q.go (fun gm_5 => (28, [some (.ref 0), none, none], [], (W_Mo gm_5))) (fun gm_5 => ?_)
  refine sv_Q.s (σ' := (30, [some (.ref 0), none, none], [.int (0 : Int32), .ref 0], (W_Mo gm_5))) 2 rfl ?_
  refine sv_Q.gk (σ' := (33, [some (.ref 0), none, none], [], (W_Mo (ss gm_5 5 (0 : Int32))))) (c := sv_01 (0 : Int32)) rfl (Or.inl rfl) ?_
  refine sv_Q.go (fun gm_6 => (33, [some (.ref 0), none, none], [], (W_Mo gm_6))) (fun gm_6 => ?_)
  refine sv_Q.s (σ' := (35, [some (.ref 0), some (.int (0 : Int32)), none], [], (W_Mo gm_6))) 2 rfl ?_
  refine sv_Q.lo (fun v10 => (54, [some (.ref 0), none, none], [], (W_Mo v10))) (fun v10 => ?_) (l_Mo_ship_35 N N (0 : Int32) gm_6)
  · refine sv_Q.s (σ' := (62, [some (.ref 0), none, none], [.int (999 : Int32), .int (4 : Int32), .ref 2], (W_Mo v10))) 4 rfl ?_
    refine sv_Q.g (σ' := (63, [some (.ref 0), none, none], [], (W_Mo (sa v10 2 (4 : Int32) (999 : Int32))))) (c := sv_in (4 : Int32) 90) rfl (fun c11 => ?_)
    refine sv_Q.go (fun gm_12 => (63, [some (.ref 0), none, none], [], (W_Mo gm_12))) (fun gm_12 => ?_)
    refine sv_Q.s (σ' := (71, [some (.ref 0), none, none], [.int (999 : Int32), .int (5 : Int32), .ref 2], (W_Mo gm_12))) 4 rfl ?_
    refine sv_Q.g (σ' := (72, [some (.ref 0), none, none], [], (W_Mo (sa gm_12 2 (5 : Int32) (999 : Int32))))) (c := sv_in (5 : Int32) 90) rfl (fun c13 => ?_)
    refine sv_Q.go (fun gm_14 => (72, [some (.ref 0), none, none], [], (W_Mo gm_14))) (fun gm_14 => ?_)
    refine sv_Q.s (σ' := (73, [some (.ref 0), none, none], [.ref 0], (W_Mo gm_14))) 1 rfl ?_
    refine sv_Q.o (fun v15 e16 => ?_)
    refine sv_Q.V (b := 0) (av := []) (ps := [0, 1, 2, 3, 4, 5, 6, 7, 8, 9, 10, 11, 12, 13, 14, 15, 16, 17, 18, 19, 20, 21, 22]) (rest := []) (cs1 := (W_Mo gm_14)) (cs2 := (W_Mo v15)) (st' := []) (cs' := (W_Mo v15)) (q := (73, .null, 0, 0, 0)) lk_Mo_156 (r_Mo_advance N gm_14 v15 e16) rfl rfl rfl rfl rfl (Or.inl ⟨12, _, _, rfl, rfl, rfl⟩) rfl rfl (sc_Mo_Mo_0 gm_14) rfl rfl (pc_Mo_Mo_0 gm_14 v15) ?_
    refine sv_Q.s (σ' := (80, [some (.ref 0), none, none], [.int (v15 0 18)], (W_Mo v15))) 2 rfl ?_
    refine sv_Q.l (fun v19 => (92, [some (.ref 0), none, none], [], (W_Mo v19))) (fun v19 => ?_) ?_
    · refine sv_Q.s (σ' := (94, [some (.ref 0), some (.int (0 : Int32)), none], [], (W_Mo v19))) 2 rfl ?_
      refine sv_Q.lo (fun v24 => (119, [some (.ref 0), some (.int v24.1), none], [], (W_Mo v24.2))) (fun v24 => ?_) (l_Mo_ship_94 N N (0 : Int32) v19)
      · refine sv_Q.s (σ' := (120, [some (.ref 0), some (.int v24.1), none], [.ref 0], (W_Mo v24.2))) 1 rfl ?_
        refine sv_Q.V (b := 0) (av := []) (ps := [0, 1, 2, 3, 4, 5, 6, 7, 8, 9, 10, 11, 12, 13, 14, 15, 16, 17, 18, 19, 20, 21, 22]) (rest := []) (cs1 := (W_Mo v24.2)) (cs2 := (W_Mo v24.2)) (st' := [.int (F_Mo_good v24.2)]) (cs' := (W_Mo v24.2)) (q := (120, .null, 0, 0, 0)) lk_Mo_104 (t_Mo_good v24.2) rfl rfl rfl rfl rfl (Or.inl ⟨12, _, _, rfl, rfl, rfl⟩) rfl rfl (sc_Mo_Mo_0 v24.2) rfl rfl (pc_Mo_Mo_0 v24.2 v24.2) ?_
        refine sv_Q.b rfl (fun c25 => ?_) (fun c25 => ?_)
        · refine sv_Q.s (σ' := (131, [some (.ref 0), some (.int v24.1), none], [.int (1 : Int32), .ref 0], (W_Mo v24.2))) 2 rfl ?_
          refine sv_Q.gk (σ' := (134, [some (.ref 0), some (.int v24.1), none], [], (W_Mo (ss v24.2 1 (1 : Int32))))) (c := sv_01 (1 : Int32)) rfl (Or.inr rfl) ?_
          refine sv_Q.go (fun gm_26 => (134, [some (.ref 0), some (.int v24.1), none], [], (W_Mo gm_26))) (fun gm_26 => ?_)
          refine sv_Q.s (σ' := (136, [some (.ref 0), some (.int v24.1), some (.int (0 : Int32))], [], (W_Mo gm_26))) 2 rfl ?_
          refine sv_Q.lo (fun v31 => (160, [some (.ref 0), some (.int v24.1), none], [], (W_Mo v31))) (fun v31 => ?_) (l_Mo_ship_136 N N v24.1 (0 : Int32) gm_26)
          · refine sv_Q.s (σ' := (167, [some (.ref 0), some (.int v24.1), none], [.int (7 : Int32), .ref 2, .ref 0], (W_Mo v31))) 4 rfl ?_
            refine sv_Q.g (σ' := (168, [some (.ref 0), some (.int v24.1), none], [.int (v31 2 ((7 : Int32)).toNatClampNeg), .ref 0], (W_Mo v31))) (c := sv_in (7 : Int32) 90) rfl (fun c32 => ?_)
            refine sv_Q.s (σ' := (171, [some (.ref 0), some (.int v24.1), none], [], (W_Mo (ss v31 6 (v31 2 ((7 : Int32)).toNatClampNeg))))) 1 rfl ?_
            refine sv_Q.go (fun gm_33 => (171, [some (.ref 0), some (.int v24.1), none], [], (W_Mo gm_33))) (fun gm_33 => ?_)
            refine sv_Q.s (σ' := (173, [some (.ref 0), some (.int v24.1), some (.int (0 : Int32))], [], (W_Mo gm_33))) 2 rfl ?_
            refine sv_Q.lo (fun v46 => (240, [some (.ref 0), some (.int v24.1), none], [], (W_Mo v46))) (fun v46 => ?_) (l_Mo_ship_173 N N v24.1 (0 : Int32) gm_33)
            · refine sv_Q.s (σ' := (245, [some (.ref 0), some (.int v24.1), none], [], (W_Mo (ss v46 11 (0 : Int32))))) 3 rfl ?_
              refine sv_Q.go (fun gm_47 => (245, [some (.ref 0), some (.int v24.1), none], [], (W_Mo gm_47))) (fun gm_47 => ?_)
              refine sv_Q.s (σ' := (247, [some (.ref 0), some (.int v24.1), some (.int (0 : Int32))], [], (W_Mo gm_47))) 2 rfl ?_
              refine sv_Q.lo (fun v53 => (288, [some (.ref 0), some (.int v24.1), none], [], (W_Mo v53))) (fun v53 => ?_) (l_Mo_ship_247 N N v24.1 (0 : Int32) gm_47)
              · refine sv_Q.s (σ' := (289, [some (.ref 0), some (.int v24.1), none], [.ref 0], (W_Mo v53))) 1 rfl ?_
                refine sv_Q.o (fun v54 e55 => ?_)
                refine sv_Q.V (b := 0) (av := []) (ps := [0, 1, 2, 3, 4, 5, 6, 7, 8, 9, 10, 11, 12, 13, 14, 15, 16, 17, 18, 19, 20, 21, 22]) (rest := []) (cs1 := (W_Mo v53)) (cs2 := (W_Mo v54)) (st' := []) (cs' := (W_Mo v54)) (q := (289, .null, 0, 0, 0)) lk_Mo_242 (r_Mo_laysPlaces N v53 v54 e55) rfl rfl rfl rfl rfl (Or.inl ⟨12, _, _, rfl, rfl, rfl⟩) rfl rfl (sc_Mo_Mo_0 v53) rfl rfl (pc_Mo_Mo_0 v53 v54) ?_
                refine sv_Q.s (σ' := (297, [some (.ref 0), some (.int v24.1), none], [], (W_Mo (ss v54 22 (0 : Int32))))) 3 rfl ?_
                refine sv_Q.go (fun gm_56 => (297, [some (.ref 0), some (.int v24.1), none], [], (W_Mo gm_56))) (fun gm_56 => ?_)
                refine sv_Q.s (σ' := (299, [some (.ref 0), some (.int v24.1), none], [.int (0 : Int32), .ref 0], (W_Mo gm_56))) 2 rfl ?_
                refine sv_Q.gk (σ' := (302, [some (.ref 0), some (.int v24.1), none], [], (W_Mo (ss gm_56 32 (0 : Int32))))) (c := sv_01 (0 : Int32)) rfl (Or.inl rfl) ?_
                refine sv_Q.go (fun gm_57 => (302, [some (.ref 0), some (.int v24.1), none], [], (W_Mo gm_57))) (fun gm_57 => ?_)
                refine sv_Q.s (σ' := (307, [some (.ref 0), some (.int v24.1), none], [], (W_Mo (ss gm_57 37 (-1 : Int32))))) 3 rfl ?_
                refine sv_Q.go (fun gm_58 => (307, [some (.ref 0), some (.int v24.1), none], [], (W_Mo gm_58))) (fun gm_58 => ?_)
                refine sv_Q.s (σ' := (308, [some (.ref 0), some (.int v24.1), none], [.int v24.1], (W_Mo gm_58))) 1 rfl ?_
                exact sv_Q.z ⟨True, rfl, trivial, rfl⟩
        · refine sv_Q.s (σ' := (128, [some (.ref 0), some (.int v24.1), none], [.int (-4 : Int32)], (W_Mo v24.2))) 1 rfl ?_
          exact sv_Q.z ⟨True, rfl, trivial, rfl⟩
    · refine sv_Q.sb rfl (fun c17 => ?_) (fun c17 => ?_)
      · exact sv_Q.z rfl
      · refine sv_Q.s (σ' := (89, [some (.ref 0), none, none], [.int (v15 0 17), .int (1 : Int32), .ref 0], (W_Mo v15))) 4 rfl ?_
        refine sv_Q.V (b := 0) (av := [.int (1 : Int32), .int (v15 0 17)]) (ps := [0, 1, 2, 3, 4, 5, 6, 7, 8, 9, 10, 11, 12, 13, 14, 15, 16, 17, 18, 19, 20, 21, 22]) (rest := []) (cs1 := (W_Mo v15)) (cs2 := (W_Mo (F_Mo_errs (1 : Int32) (v15 0 17) v15))) (st' := []) (cs' := (W_Mo (F_Mo_errs (1 : Int32) (v15 0 17) v15))) (q := (89, .null, 0, 0, 0)) lk_Mo_162 (t_Mo_errs v15 (1 : Int32) (v15 0 17)) rfl rfl rfl rfl rfl (Or.inl ⟨12, _, _, rfl, rfl, rfl⟩) rfl rfl (sc_Mo_Mo_0 v15) rfl rfl (pc_Mo_Mo_0 v15 (F_Mo_errs (1 : Int32) (v15 0 17) v15)) ?_
        refine sv_Q.gs (fun gm_18 => (92, [some (.ref 0), none, none], [], (W_Mo gm_18))) (fun gm_18 => ?_)
        exact sv_Q.z rfl
