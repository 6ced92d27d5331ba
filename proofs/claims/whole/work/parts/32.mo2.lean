/-! the reference, 2, by program out of the listing -/
def F_Mo_lays (N : Nat) (a0 : Int32) (a1 : Int32) (gm : Nat → Nat → Int32) : Option ((Nat → Nat → Int32)) := (if sv_in a0 24 then (Option.bind (if (gm 7 (a0).toNatClampNeg) = (-1 : Int32) then some gm else (if sv_in a0 24 then (if sv_in (gm 7 (a0).toNatClampNeg) 144 then (sv_let (sa gm 8 (gm 7 (a0).toNatClampNeg) (-1 : Int32)) fun (gm_5 : Nat → Nat → Int32) => some gm_5) else none) else none)) fun (v6 : (Nat → Nat → Int32)) => (if sv_in a0 24 then (sv_let (sa v6 7 a0 a1) fun (gm_8 : Nat → Nat → Int32) => (if a1 = (-1 : Int32) then (some gm_8) else (if sv_in a1 144 then (sv_let (sa gm_8 8 a1 a0) fun (gm_11 : Nat → Nat → Int32) => (some gm_11)) else none))) else none)) else none)
set_option maxHeartbeats 4000000 in
set_option maxRecDepth 100000 in
theorem r_Mo_lays {X : Nat × (Nat → Int32)} (N : Nat) (gm : Nat → Nat → Int32) (a0 : Int32) (a1 : Int32) : ∀ x, (F_Mo_lays N a0 a1 gm) = some x → sv_R X 1 M_Mo_lays [.ref 0, .int a0, .int a1] (W_Mo gm) none (W_Mo x) := by
  refine sv_Q.R (res := (fun (x : (Nat → Nat → Int32)) => ((none : Option Value), (W_Mo x)))) g_Mo_lays rfl ?_
  unfold F_Mo_lays
  refine sv_Q.s (σ' := (5, [some (.ref 0), some (.int a0), some (.int a1)], [.int a0, .ref 7], (W_Mo gm))) 3 rfl ?_
  refine sv_Q.g (σ' := (6, [some (.ref 0), some (.int a0), some (.int a1)], [.int (gm 7 (a0).toNatClampNeg)], (W_Mo gm))) (c := sv_in a0 24) rfl (fun c1 => ?_)
  refine sv_Q.s (σ' := (7, [some (.ref 0), some (.int a0), some (.int a1)], [.int (-1 : Int32), .int (gm 7 (a0).toNatClampNeg)], (W_Mo gm))) 1 rfl ?_
  refine sv_Q.lo (fun v6 => (22, [some (.ref 0), some (.int a0), some (.int a1)], [], (W_Mo v6))) (fun v6 => ?_) ?_
  · refine sv_Q.s (σ' := (28, [some (.ref 0), some (.int a0), some (.int a1)], [.int a1, .int a0, .ref 7], (W_Mo v6))) 4 rfl ?_
    refine sv_Q.g (σ' := (29, [some (.ref 0), some (.int a0), some (.int a1)], [], (W_Mo (sa v6 7 a0 a1)))) (c := sv_in a0 24) rfl (fun c7 => ?_)
    refine sv_Q.go (fun gm_8 => (29, [some (.ref 0), some (.int a0), some (.int a1)], [], (W_Mo gm_8))) (fun gm_8 => ?_)
    refine sv_Q.s (σ' := (31, [some (.ref 0), some (.int a0), some (.int a1)], [.int (-1 : Int32), .int a1], (W_Mo gm_8))) 2 rfl ?_
    refine sv_Q.b rfl (fun c9 => ?_) (fun c9 => ?_)
    · exact sv_Q.z ⟨True, rfl, trivial, rfl⟩
    · refine sv_Q.s (σ' := (40, [some (.ref 0), some (.int a0), some (.int a1)], [.int a0, .int a1, .ref 8], (W_Mo gm_8))) 4 rfl ?_
      refine sv_Q.g (σ' := (41, [some (.ref 0), some (.int a0), some (.int a1)], [], (W_Mo (sa gm_8 8 a1 a0)))) (c := sv_in a1 144) rfl (fun c10 => ?_)
      refine sv_Q.go (fun gm_11 => (41, [some (.ref 0), some (.int a0), some (.int a1)], [], (W_Mo gm_11))) (fun gm_11 => ?_)
      exact sv_Q.z ⟨True, rfl, trivial, rfl⟩
  · refine sv_Q.b rfl (fun c2 => ?_) (fun c2 => ?_)
    · exact sv_Q.z rfl
    · refine sv_Q.s (σ' := (19, [some (.ref 0), some (.int a0), some (.int a1)], [.int a0, .ref 7, .ref 8], (W_Mo gm))) 5 rfl ?_
      refine sv_Q.g (σ' := (20, [some (.ref 0), some (.int a0), some (.int a1)], [.int (gm 7 (a0).toNatClampNeg), .ref 8], (W_Mo gm))) (c := sv_in a0 24) rfl (fun c3 => ?_)
      refine sv_Q.s (σ' := (21, [some (.ref 0), some (.int a0), some (.int a1)], [.int (-1 : Int32), .int (gm 7 (a0).toNatClampNeg), .ref 8], (W_Mo gm))) 1 rfl ?_
      refine sv_Q.g (σ' := (22, [some (.ref 0), some (.int a0), some (.int a1)], [], (W_Mo (sa gm 8 (gm 7 (a0).toNatClampNeg) (-1 : Int32))))) (c := sv_in (gm 7 (a0).toNatClampNeg) 144) rfl (fun c4 => ?_)
      refine sv_Q.go (fun gm_5 => (22, [some (.ref 0), some (.int a0), some (.int a1)], [], (W_Mo gm_5))) (fun gm_5 => ?_)
      exact sv_Q.z rfl
def F_Mo_canLift (N : Nat) (a0 : Int32) (gm : Nat → Nat → Int32) : Option (Int32) := (if sv_in a0 24 then (Option.bind (F_Mo_lowestOf N (gm 7 (a0).toNatClampNeg) gm) fun (v2 : Int32) => (Option.bind (F_Mo_highOf N (gm 7 (a0).toNatClampNeg) gm) fun (v4 : Int32) => (if (gm 7 (a0).toNatClampNeg) = ((v2 + v4) - (1 : Int32)) then (some (1 : Int32)) else (if sv_in ((gm 7 (a0).toNatClampNeg) + (1 : Int32)) 144 then (if ¬ (gm 8 (((gm 7 (a0).toNatClampNeg) + (1 : Int32))).toNatClampNeg) = (-1 : Int32) then (some (0 : Int32)) else (some (1 : Int32))) else none)))) else none)
set_option maxHeartbeats 4000000 in
set_option maxRecDepth 100000 in
theorem r_Mo_canLift {X : Nat × (Nat → Int32)} (N : Nat) (gm : Nat → Nat → Int32) (a0 : Int32) : ∀ x, (F_Mo_canLift N a0 gm) = some x → sv_R X 5 M_Mo_canLift [.ref 0, .int a0] (W_Mo gm) (some (.int x)) (W_Mo gm) := by
  refine sv_Q.R (res := (fun (x : Int32) => (some (.int x), (W_Mo gm)))) g_Mo_canLift rfl ?_
  unfold F_Mo_canLift
  refine sv_Q.s (σ' := (5, [some (.ref 0), some (.int a0), none], [.int a0, .ref 7], (W_Mo gm))) 3 rfl ?_
  refine sv_Q.g (σ' := (6, [some (.ref 0), some (.int a0), none], [.int (gm 7 (a0).toNatClampNeg)], (W_Mo gm))) (c := sv_in a0 24) rfl (fun c1 => ?_)
  refine sv_Q.s (σ' := (10, [some (.ref 0), some (.int a0), some (.int (gm 7 (a0).toNatClampNeg))], [.int (gm 7 (a0).toNatClampNeg), .ref 0, .int (gm 7 (a0).toNatClampNeg)], (W_Mo gm))) 4 rfl ?_
  refine sv_Q.o (fun v2 e3 => ?_)
  refine sv_Q.V (b := 0) (av := [.int (gm 7 (a0).toNatClampNeg)]) (ps := [0, 1, 2, 3, 4, 5, 6, 7, 8, 9, 10, 11, 12, 13, 14, 15, 16, 17, 18, 19, 20, 21, 22]) (rest := [.int (gm 7 (a0).toNatClampNeg)]) (cs1 := (W_Mo gm)) (cs2 := (W_Mo gm)) (st' := [.int v2, .int (gm 7 (a0).toNatClampNeg)]) (cs' := (W_Mo gm)) (q := (10, .null, 0, 0, 0)) lk_Mo_318 (r_Mo_lowestOf N gm (gm 7 (a0).toNatClampNeg) v2 e3) rfl rfl rfl rfl rfl (Or.inl ⟨12, _, _, rfl, rfl, rfl⟩) rfl rfl (sc_Mo_Mo_0 gm) rfl rfl (pc_Mo_Mo_0 gm gm) ?_
  refine sv_Q.s (σ' := (15, [some (.ref 0), some (.int a0), some (.int (gm 7 (a0).toNatClampNeg))], [.int (gm 7 (a0).toNatClampNeg), .ref 0, .int v2, .int (gm 7 (a0).toNatClampNeg)], (W_Mo gm))) 2 rfl ?_
  refine sv_Q.o (fun v4 e5 => ?_)
  refine sv_Q.V (b := 0) (av := [.int (gm 7 (a0).toNatClampNeg)]) (ps := [0, 1, 2, 3, 4, 5, 6, 7, 8, 9, 10, 11, 12, 13, 14, 15, 16, 17, 18, 19, 20, 21, 22]) (rest := [.int v2, .int (gm 7 (a0).toNatClampNeg)]) (cs1 := (W_Mo gm)) (cs2 := (W_Mo gm)) (st' := [.int v4, .int v2, .int (gm 7 (a0).toNatClampNeg)]) (cs' := (W_Mo gm)) (q := (15, .null, 0, 0, 0)) lk_Mo_321 (r_Mo_highOf N gm (gm 7 (a0).toNatClampNeg) v4 e5) rfl rfl rfl rfl rfl (Or.inl ⟨12, _, _, rfl, rfl, rfl⟩) rfl rfl (sc_Mo_Mo_0 gm) rfl rfl (pc_Mo_Mo_0 gm gm) ?_
  refine sv_Q.s (σ' := (21, [some (.ref 0), some (.int a0), some (.int (gm 7 (a0).toNatClampNeg))], [.int ((v2 + v4) - (1 : Int32)), .int (gm 7 (a0).toNatClampNeg)], (W_Mo gm))) 3 rfl ?_
  refine sv_Q.b rfl (fun c6 => ?_) (fun c6 => ?_)
  · refine sv_Q.s (σ' := (41, [some (.ref 0), some (.int a0), some (.int (gm 7 (a0).toNatClampNeg))], [.int (1 : Int32)], (W_Mo gm))) 2 rfl ?_
    exact sv_Q.z ⟨sv_01 (1 : Int32), rfl, Or.inr rfl, rfl⟩
  · refine sv_Q.s (σ' := (31, [some (.ref 0), some (.int a0), some (.int (gm 7 (a0).toNatClampNeg))], [.int ((gm 7 (a0).toNatClampNeg) + (1 : Int32)), .ref 8], (W_Mo gm))) 5 rfl ?_
    refine sv_Q.g (σ' := (32, [some (.ref 0), some (.int a0), some (.int (gm 7 (a0).toNatClampNeg))], [.int (gm 8 (((gm 7 (a0).toNatClampNeg) + (1 : Int32))).toNatClampNeg)], (W_Mo gm))) (c := sv_in ((gm 7 (a0).toNatClampNeg) + (1 : Int32)) 144) rfl (fun c7 => ?_)
    refine sv_Q.s (σ' := (33, [some (.ref 0), some (.int a0), some (.int (gm 7 (a0).toNatClampNeg))], [.int (-1 : Int32), .int (gm 8 (((gm 7 (a0).toNatClampNeg) + (1 : Int32))).toNatClampNeg)], (W_Mo gm))) 1 rfl ?_
    refine sv_Q.b rfl (fun c8 => ?_) (fun c8 => ?_)
    · refine sv_Q.s (σ' := (41, [some (.ref 0), some (.int a0), some (.int (gm 7 (a0).toNatClampNeg))], [.int (0 : Int32)], (W_Mo gm))) 1 rfl ?_
      exact sv_Q.z ⟨sv_01 (0 : Int32), rfl, Or.inl rfl, rfl⟩
    · refine sv_Q.s (σ' := (41, [some (.ref 0), some (.int a0), some (.int (gm 7 (a0).toNatClampNeg))], [.int (1 : Int32)], (W_Mo gm))) 2 rfl ?_
      exact sv_Q.z ⟨sv_01 (1 : Int32), rfl, Or.inr rfl, rfl⟩
def F_Mo_puts (N : Nat) (a0 : Int32) (a1 : Int32) (gm : Nat → Nat → Int32) : Option (Int32 × (Nat → Nat → Int32)) := (if (F_Mo_isBox a0 gm) = 0 then (some ((-2 : Int32), gm)) else (Option.bind (F_Mo_isPlace N a1 gm) fun (v2 : Int32) => (if ¬ v2 = 0 then (if sv_in a0 24 then (if (gm 7 (a0).toNatClampNeg) = (-1 : Int32) then (Option.bind (F_Mo_whyBox N a0 a1 gm) fun (v7 : Int32) => (if v7 = 0 then (Option.bind (F_Mo_keeps N gm) fun (v10 : (Nat → Nat → Int32)) => (Option.bind (F_Mo_lays N a0 a1 v10) fun (v12 : (Nat → Nat → Int32)) => (some ((0 : Int32), v12)))) else (some (v7, gm)))) else (Option.bind (F_Mo_canLift N a0 gm) fun (v14 : Int32) => (if ¬ v14 = 0 then (Option.bind (F_Mo_whyBox N a0 a1 gm) fun (v17 : Int32) => (if v17 = 0 then (Option.bind (F_Mo_keeps N gm) fun (v20 : (Nat → Nat → Int32)) => (Option.bind (F_Mo_lays N a0 a1 v20) fun (v22 : (Nat → Nat → Int32)) => (some ((0 : Int32), v22)))) else (some (v17, gm)))) else (some ((7 : Int32), gm))))) else none) else (some ((-2 : Int32), gm)))))
set_option maxHeartbeats 4000000 in
set_option maxRecDepth 100000 in
theorem r_Mo_puts {X : Nat × (Nat → Int32)} (N : Nat) (gm : Nat → Nat → Int32) (a0 : Int32) (a1 : Int32) : ∀ x, (F_Mo_puts N a0 a1 gm) = some x → sv_R X 10 M_Mo_puts [.ref 0, .int a0, .int a1] (W_Mo gm) (some (.int x.1)) (W_Mo x.2) := by
  refine sv_Q.R (res := (fun (x : Int32 × (Nat → Nat → Int32)) => (some (.int x.1), (W_Mo x.2)))) g_Mo_puts rfl ?_
  unfold F_Mo_puts
  refine sv_Q.s (σ' := (2, [some (.ref 0), some (.int a0), some (.int a1), none], [.int a0, .ref 0], (W_Mo gm))) 2 rfl ?_
  refine sv_Q.V (b := 0) (av := [.int a0]) (ps := [0, 1, 2, 3, 4, 5, 6, 7, 8, 9, 10, 11, 12, 13, 14, 15, 16, 17, 18, 19, 20, 21, 22]) (rest := []) (cs1 := (W_Mo gm)) (cs2 := (W_Mo gm)) (st' := [.int (F_Mo_isBox a0 gm)]) (cs' := (W_Mo gm)) (q := (2, .null, 0, 0, 0)) lk_Mo_286 (t_Mo_isBox gm a0) rfl rfl rfl rfl rfl (Or.inl ⟨12, _, _, rfl, rfl, rfl⟩) rfl rfl (sc_Mo_Mo_0 gm) rfl rfl (pc_Mo_Mo_0 gm gm) ?_
  refine sv_Q.b rfl (fun c1 => ?_) (fun c1 => ?_)
  · refine sv_Q.s (σ' := (18, [some (.ref 0), some (.int a0), some (.int a1), none], [.int (-2 : Int32)], (W_Mo gm))) 1 rfl ?_
    exact sv_Q.z ⟨True, rfl, trivial, rfl⟩
  · refine sv_Q.s (σ' := (10, [some (.ref 0), some (.int a0), some (.int a1), none], [.int a1, .ref 0], (W_Mo gm))) 2 rfl ?_
    refine sv_Q.o (fun v2 e3 => ?_)
    refine sv_Q.V (b := 0) (av := [.int a1]) (ps := [0, 1, 2, 3, 4, 5, 6, 7, 8, 9, 10, 11, 12, 13, 14, 15, 16, 17, 18, 19, 20, 21, 22]) (rest := []) (cs1 := (W_Mo gm)) (cs2 := (W_Mo gm)) (st' := [.int v2]) (cs' := (W_Mo gm)) (q := (10, .null, 0, 0, 0)) lk_Mo_289 (r_Mo_isPlace N gm a1 v2 e3) rfl rfl rfl rfl rfl (Or.inl ⟨12, _, _, rfl, rfl, rfl⟩) rfl rfl (sc_Mo_Mo_0 gm) rfl rfl (pc_Mo_Mo_0 gm gm) ?_
    refine sv_Q.b rfl (fun c4 => ?_) (fun c4 => ?_)
    · refine sv_Q.s (σ' := (24, [some (.ref 0), some (.int a0), some (.int a1), none], [.int a0, .ref 7], (W_Mo gm))) 3 rfl ?_
      refine sv_Q.g (σ' := (25, [some (.ref 0), some (.int a0), some (.int a1), none], [.int (gm 7 (a0).toNatClampNeg)], (W_Mo gm))) (c := sv_in a0 24) rfl (fun c5 => ?_)
      refine sv_Q.s (σ' := (26, [some (.ref 0), some (.int a0), some (.int a1), none], [.int (-1 : Int32), .int (gm 7 (a0).toNatClampNeg)], (W_Mo gm))) 1 rfl ?_
      refine sv_Q.b rfl (fun c6 => ?_) (fun c6 => ?_)
      · refine sv_Q.s (σ' := (43, [some (.ref 0), some (.int a0), some (.int a1), none], [.int a1, .int a0, .ref 0], (W_Mo gm))) 3 rfl ?_
        refine sv_Q.o (fun v7 e8 => ?_)
        refine sv_Q.V (b := 0) (av := [.int a0, .int a1]) (ps := [0, 1, 2, 3, 4, 5, 6, 7, 8, 9, 10, 11, 12, 13, 14, 15, 16, 17, 18, 19, 20, 21, 22]) (rest := []) (cs1 := (W_Mo gm)) (cs2 := (W_Mo gm)) (st' := [.int v7]) (cs' := (W_Mo gm)) (q := (43, .null, 0, 0, 0)) lk_Mo_337 (r_Mo_whyBox N gm a0 a1 v7 e8) rfl rfl rfl rfl rfl (Or.inl ⟨12, _, _, rfl, rfl, rfl⟩) rfl rfl (sc_Mo_Mo_0 gm) rfl rfl (pc_Mo_Mo_0 gm gm) ?_
        refine sv_Q.s (σ' := (48, [some (.ref 0), some (.int a0), some (.int a1), some (.int v7)], [.int v7], (W_Mo gm))) 2 rfl ?_
        refine sv_Q.b rfl (fun c9 => ?_) (fun c9 => ?_)
        · refine sv_Q.s (σ' := (54, [some (.ref 0), some (.int a0), some (.int a1), some (.int v7)], [.ref 0], (W_Mo gm))) 1 rfl ?_
          refine sv_Q.o (fun v10 e11 => ?_)
          refine sv_Q.V (b := 0) (av := []) (ps := [0, 1, 2, 3, 4, 5, 6, 7, 8, 9, 10, 11, 12, 13, 14, 15, 16, 17, 18, 19, 20, 21, 22]) (rest := []) (cs1 := (W_Mo gm)) (cs2 := (W_Mo v10)) (st' := []) (cs' := (W_Mo v10)) (q := (54, .null, 0, 0, 0)) lk_Mo_343 (r_Mo_keeps N gm v10 e11) rfl rfl rfl rfl rfl (Or.inl ⟨12, _, _, rfl, rfl, rfl⟩) rfl rfl (sc_Mo_Mo_0 gm) rfl rfl (pc_Mo_Mo_0 gm v10) ?_
          refine sv_Q.s (σ' := (60, [some (.ref 0), some (.int a0), some (.int a1), some (.int v7)], [.int a1, .int a0, .ref 0], (W_Mo v10))) 3 rfl ?_
          refine sv_Q.o (fun v12 e13 => ?_)
          refine sv_Q.V (b := 0) (av := [.int a0, .int a1]) (ps := [0, 1, 2, 3, 4, 5, 6, 7, 8, 9, 10, 11, 12, 13, 14, 15, 16, 17, 18, 19, 20, 21, 22]) (rest := []) (cs1 := (W_Mo v10)) (cs2 := (W_Mo v12)) (st' := []) (cs' := (W_Mo v12)) (q := (60, .null, 0, 0, 0)) lk_Mo_346 (r_Mo_lays N v10 a0 a1 v12 e13) rfl rfl rfl rfl rfl (Or.inl ⟨12, _, _, rfl, rfl, rfl⟩) rfl rfl (sc_Mo_Mo_0 v10) rfl rfl (pc_Mo_Mo_0 v10 v12) ?_
          refine sv_Q.s (σ' := (64, [some (.ref 0), some (.int a0), some (.int a1), some (.int v7)], [.int (0 : Int32)], (W_Mo v12))) 1 rfl ?_
          exact sv_Q.z ⟨True, rfl, trivial, rfl⟩
        · refine sv_Q.s (σ' := (52, [some (.ref 0), some (.int a0), some (.int a1), some (.int v7)], [.int v7], (W_Mo gm))) 1 rfl ?_
          exact sv_Q.z ⟨True, rfl, trivial, rfl⟩
      · refine sv_Q.s (σ' := (31, [some (.ref 0), some (.int a0), some (.int a1), none], [.int a0, .ref 0], (W_Mo gm))) 2 rfl ?_
        refine sv_Q.o (fun v14 e15 => ?_)
        refine sv_Q.V (b := 0) (av := [.int a0]) (ps := [0, 1, 2, 3, 4, 5, 6, 7, 8, 9, 10, 11, 12, 13, 14, 15, 16, 17, 18, 19, 20, 21, 22]) (rest := []) (cs1 := (W_Mo gm)) (cs2 := (W_Mo gm)) (st' := [.int v14]) (cs' := (W_Mo gm)) (q := (31, .null, 0, 0, 0)) lk_Mo_340 (r_Mo_canLift N gm a0 v14 e15) rfl rfl rfl rfl rfl (Or.inl ⟨12, _, _, rfl, rfl, rfl⟩) rfl rfl (sc_Mo_Mo_0 gm) rfl rfl (pc_Mo_Mo_0 gm gm) ?_
        refine sv_Q.b rfl (fun c16 => ?_) (fun c16 => ?_)
        · refine sv_Q.s (σ' := (43, [some (.ref 0), some (.int a0), some (.int a1), none], [.int a1, .int a0, .ref 0], (W_Mo gm))) 3 rfl ?_
          refine sv_Q.o (fun v17 e18 => ?_)
          refine sv_Q.V (b := 0) (av := [.int a0, .int a1]) (ps := [0, 1, 2, 3, 4, 5, 6, 7, 8, 9, 10, 11, 12, 13, 14, 15, 16, 17, 18, 19, 20, 21, 22]) (rest := []) (cs1 := (W_Mo gm)) (cs2 := (W_Mo gm)) (st' := [.int v17]) (cs' := (W_Mo gm)) (q := (43, .null, 0, 0, 0)) lk_Mo_337 (r_Mo_whyBox N gm a0 a1 v17 e18) rfl rfl rfl rfl rfl (Or.inl ⟨12, _, _, rfl, rfl, rfl⟩) rfl rfl (sc_Mo_Mo_0 gm) rfl rfl (pc_Mo_Mo_0 gm gm) ?_
          refine sv_Q.s (σ' := (48, [some (.ref 0), some (.int a0), some (.int a1), some (.int v17)], [.int v17], (W_Mo gm))) 2 rfl ?_
          refine sv_Q.b rfl (fun c19 => ?_) (fun c19 => ?_)
          · refine sv_Q.s (σ' := (54, [some (.ref 0), some (.int a0), some (.int a1), some (.int v17)], [.ref 0], (W_Mo gm))) 1 rfl ?_
            refine sv_Q.o (fun v20 e21 => ?_)
            refine sv_Q.V (b := 0) (av := []) (ps := [0, 1, 2, 3, 4, 5, 6, 7, 8, 9, 10, 11, 12, 13, 14, 15, 16, 17, 18, 19, 20, 21, 22]) (rest := []) (cs1 := (W_Mo gm)) (cs2 := (W_Mo v20)) (st' := []) (cs' := (W_Mo v20)) (q := (54, .null, 0, 0, 0)) lk_Mo_343 (r_Mo_keeps N gm v20 e21) rfl rfl rfl rfl rfl (Or.inl ⟨12, _, _, rfl, rfl, rfl⟩) rfl rfl (sc_Mo_Mo_0 gm) rfl rfl (pc_Mo_Mo_0 gm v20) ?_
            refine sv_Q.s (σ' := (60, [some (.ref 0), some (.int a0), some (.int a1), some (.int v17)], [.int a1, .int a0, .ref 0], (W_Mo v20))) 3 rfl ?_
            refine sv_Q.o (fun v22 e23 => ?_)
            refine sv_Q.V (b := 0) (av := [.int a0, .int a1]) (ps := [0, 1, 2, 3, 4, 5, 6, 7, 8, 9, 10, 11, 12, 13, 14, 15, 16, 17, 18, 19, 20, 21, 22]) (rest := []) (cs1 := (W_Mo v20)) (cs2 := (W_Mo v22)) (st' := []) (cs' := (W_Mo v22)) (q := (60, .null, 0, 0, 0)) lk_Mo_346 (r_Mo_lays N v20 a0 a1 v22 e23) rfl rfl rfl rfl rfl (Or.inl ⟨12, _, _, rfl, rfl, rfl⟩) rfl rfl (sc_Mo_Mo_0 v20) rfl rfl (pc_Mo_Mo_0 v20 v22) ?_
            refine sv_Q.s (σ' := (64, [some (.ref 0), some (.int a0), some (.int a1), some (.int v17)], [.int (0 : Int32)], (W_Mo v22))) 1 rfl ?_
            exact sv_Q.z ⟨True, rfl, trivial, rfl⟩
          · refine sv_Q.s (σ' := (52, [some (.ref 0), some (.int a0), some (.int a1), some (.int v17)], [.int v17], (W_Mo gm))) 1 rfl ?_
            exact sv_Q.z ⟨True, rfl, trivial, rfl⟩
        · refine sv_Q.s (σ' := (39, [some (.ref 0), some (.int a0), some (.int a1), none], [.int (7 : Int32)], (W_Mo gm))) 1 rfl ?_
          exact sv_Q.z ⟨True, rfl, trivial, rfl⟩
    · refine sv_Q.s (σ' := (18, [some (.ref 0), some (.int a0), some (.int a1), none], [.int (-2 : Int32)], (W_Mo gm))) 1 rfl ?_
      exact sv_Q.z ⟨True, rfl, trivial, rfl⟩
def F_Mo_lifts (N : Nat) (a0 : Int32) (gm : Nat → Nat → Int32) : Option (Int32 × (Nat → Nat → Int32)) := (if ¬ (F_Mo_isBox a0 gm) = 0 then (if sv_in a0 24 then (if ¬ (gm 7 (a0).toNatClampNeg) = (-1 : Int32) then (Option.bind (F_Mo_canLift N a0 gm) fun (v4 : Int32) => (if ¬ v4 = 0 then (Option.bind (F_Mo_keeps N gm) fun (v7 : (Nat → Nat → Int32)) => (if sv_in a0 24 then (Option.bind (F_Mo_lays N a0 (-1 : Int32) v7) fun (v10 : (Nat → Nat → Int32)) => (some ((v7 7 (a0).toNatClampNeg), v10))) else none)) else (some ((-5 : Int32), gm)))) else (some ((-1 : Int32), gm))) else none) else (some ((-2 : Int32), gm)))
set_option maxHeartbeats 4000000 in
set_option maxRecDepth 100000 in
theorem r_Mo_lifts {X : Nat × (Nat → Int32)} (N : Nat) (gm : Nat → Nat → Int32) (a0 : Int32) : ∀ x, (F_Mo_lifts N a0 gm) = some x → sv_R X 6 M_Mo_lifts [.ref 0, .int a0] (W_Mo gm) (some (.int x.1)) (W_Mo x.2) := by
  refine sv_Q.R (res := (fun (x : Int32 × (Nat → Nat → Int32)) => (some (.int x.1), (W_Mo x.2)))) g_Mo_lifts rfl ?_
  unfold F_Mo_lifts
  refine sv_Q.s (σ' := (2, [some (.ref 0), some (.int a0), none], [.int a0, .ref 0], (W_Mo gm))) 2 rfl ?_
  refine sv_Q.V (b := 0) (av := [.int a0]) (ps := [0, 1, 2, 3, 4, 5, 6, 7, 8, 9, 10, 11, 12, 13, 14, 15, 16, 17, 18, 19, 20, 21, 22]) (rest := []) (cs1 := (W_Mo gm)) (cs2 := (W_Mo gm)) (st' := [.int (F_Mo_isBox a0 gm)]) (cs' := (W_Mo gm)) (q := (2, .null, 0, 0, 0)) lk_Mo_286 (t_Mo_isBox gm a0) rfl rfl rfl rfl rfl (Or.inl ⟨12, _, _, rfl, rfl, rfl⟩) rfl rfl (sc_Mo_Mo_0 gm) rfl rfl (pc_Mo_Mo_0 gm gm) ?_
  refine sv_Q.b rfl (fun c1 => ?_) (fun c1 => ?_)
  · refine sv_Q.s (σ' := (16, [some (.ref 0), some (.int a0), none], [.int a0, .ref 7], (W_Mo gm))) 3 rfl ?_
    refine sv_Q.g (σ' := (17, [some (.ref 0), some (.int a0), none], [.int (gm 7 (a0).toNatClampNeg)], (W_Mo gm))) (c := sv_in a0 24) rfl (fun c2 => ?_)
    refine sv_Q.s (σ' := (18, [some (.ref 0), some (.int a0), none], [.int (-1 : Int32), .int (gm 7 (a0).toNatClampNeg)], (W_Mo gm))) 1 rfl ?_
    refine sv_Q.b rfl (fun c3 => ?_) (fun c3 => ?_)
    · refine sv_Q.s (σ' := (25, [some (.ref 0), some (.int a0), none], [.int a0, .ref 0], (W_Mo gm))) 2 rfl ?_
      refine sv_Q.o (fun v4 e5 => ?_)
      refine sv_Q.V (b := 0) (av := [.int a0]) (ps := [0, 1, 2, 3, 4, 5, 6, 7, 8, 9, 10, 11, 12, 13, 14, 15, 16, 17, 18, 19, 20, 21, 22]) (rest := []) (cs1 := (W_Mo gm)) (cs2 := (W_Mo gm)) (st' := [.int v4]) (cs' := (W_Mo gm)) (q := (25, .null, 0, 0, 0)) lk_Mo_340 (r_Mo_canLift N gm a0 v4 e5) rfl rfl rfl rfl rfl (Or.inl ⟨12, _, _, rfl, rfl, rfl⟩) rfl rfl (sc_Mo_Mo_0 gm) rfl rfl (pc_Mo_Mo_0 gm gm) ?_
      refine sv_Q.b rfl (fun c6 => ?_) (fun c6 => ?_)
      · refine sv_Q.s (σ' := (35, [some (.ref 0), some (.int a0), none], [.ref 0], (W_Mo gm))) 1 rfl ?_
        refine sv_Q.o (fun v7 e8 => ?_)
        refine sv_Q.V (b := 0) (av := []) (ps := [0, 1, 2, 3, 4, 5, 6, 7, 8, 9, 10, 11, 12, 13, 14, 15, 16, 17, 18, 19, 20, 21, 22]) (rest := []) (cs1 := (W_Mo gm)) (cs2 := (W_Mo v7)) (st' := []) (cs' := (W_Mo v7)) (q := (35, .null, 0, 0, 0)) lk_Mo_343 (r_Mo_keeps N gm v7 e8) rfl rfl rfl rfl rfl (Or.inl ⟨12, _, _, rfl, rfl, rfl⟩) rfl rfl (sc_Mo_Mo_0 gm) rfl rfl (pc_Mo_Mo_0 gm v7) ?_
        refine sv_Q.s (σ' := (43, [some (.ref 0), some (.int a0), none], [.int a0, .ref 7], (W_Mo v7))) 3 rfl ?_
        refine sv_Q.g (σ' := (44, [some (.ref 0), some (.int a0), none], [.int (v7 7 (a0).toNatClampNeg)], (W_Mo v7))) (c := sv_in a0 24) rfl (fun c9 => ?_)
        refine sv_Q.s (σ' := (48, [some (.ref 0), some (.int a0), some (.int (v7 7 (a0).toNatClampNeg))], [.int (-1 : Int32), .int a0, .ref 0], (W_Mo v7))) 4 rfl ?_
        refine sv_Q.o (fun v10 e11 => ?_)
        refine sv_Q.V (b := 0) (av := [.int a0, .int (-1 : Int32)]) (ps := [0, 1, 2, 3, 4, 5, 6, 7, 8, 9, 10, 11, 12, 13, 14, 15, 16, 17, 18, 19, 20, 21, 22]) (rest := []) (cs1 := (W_Mo v7)) (cs2 := (W_Mo v10)) (st' := []) (cs' := (W_Mo v10)) (q := (48, .null, 0, 0, 0)) lk_Mo_346 (r_Mo_lays N v7 a0 (-1 : Int32) v10 e11) rfl rfl rfl rfl rfl (Or.inl ⟨12, _, _, rfl, rfl, rfl⟩) rfl rfl (sc_Mo_Mo_0 v7) rfl rfl (pc_Mo_Mo_0 v7 v10) ?_
        refine sv_Q.s (σ' := (52, [some (.ref 0), some (.int a0), some (.int (v7 7 (a0).toNatClampNeg))], [.int (v7 7 (a0).toNatClampNeg)], (W_Mo v10))) 1 rfl ?_
        exact sv_Q.z ⟨True, rfl, trivial, rfl⟩
      · refine sv_Q.s (σ' := (33, [some (.ref 0), some (.int a0), none], [.int (-5 : Int32)], (W_Mo gm))) 1 rfl ?_
        exact sv_Q.z ⟨True, rfl, trivial, rfl⟩
    · refine sv_Q.s (σ' := (22, [some (.ref 0), some (.int a0), none], [.int (-1 : Int32)], (W_Mo gm))) 1 rfl ?_
      exact sv_Q.z ⟨True, rfl, trivial, rfl⟩
  · refine sv_Q.s (σ' := (10, [some (.ref 0), some (.int a0), none], [.int (-2 : Int32)], (W_Mo gm))) 1 rfl ?_
    exact sv_Q.z ⟨True, rfl, trivial, rfl⟩
def L_Mo_clears_25 (N : Nat) : Nat → Int32 → Int32 → (Nat → Nat → Int32) → Option ((Nat → Nat → Int32))
  | 0, _, _, _ => none
  | n + 1, x1, x2, gm => (if (gm 0 6) ≤ x2 then (some gm) else (Option.bind (F_Mo_lays N x2 (-1 : Int32) gm) fun (v9 : (Nat → Nat → Int32)) => (L_Mo_clears_25 N n x1 (x2 + (1 : Int32)) v9)))
set_option maxHeartbeats 4000000 in
set_option maxRecDepth 100000 in
theorem l_Mo_clears_25 {X : Nat × (Nat → Int32)} (N : Nat) : ∀ (n : Nat) (x1 : Int32) (x2 : Int32) (gm : Nat → Nat → Int32), sv_Q X 1 M_Mo_clears (25, [some (.ref 0), some (.int x1), some (.int x2)], [], (W_Mo gm)) (L_Mo_clears_25 N n x1 x2 gm) (fun v σ' => σ' = (45, [none, some (.int x1), none], [], (W_Mo v))) := by
  intro n
  induction n with
  | zero => intro x1 x2 gm; unfold L_Mo_clears_25; exact sv_Q.non
  | succ n ih =>
    intro x1 x2 gm
    unfold L_Mo_clears_25
    refine sv_Q.s (σ' := (30, [some (.ref 0), some (.int x1), some (.int x2)], [.int (gm 0 6), .int x2], (W_Mo gm))) 3 rfl ?_
    refine sv_Q.b rfl (fun c8 => ?_) (fun c8 => ?_)
    · refine sv_Q.f (lo' := [none, some (.int x1), none]) ⟨rfl, trivial⟩ ?_
      exact sv_Q.z rfl
    · refine sv_Q.s (σ' := (36, [some (.ref 0), some (.int x1), some (.int x2)], [.int (-1 : Int32), .int x2, .ref 0], (W_Mo gm))) 3 rfl ?_
      refine sv_Q.o (fun v9 e10 => ?_)
      refine sv_Q.V (b := 0) (av := [.int x2, .int (-1 : Int32)]) (ps := [0, 1, 2, 3, 4, 5, 6, 7, 8, 9, 10, 11, 12, 13, 14, 15, 16, 17, 18, 19, 20, 21, 22]) (rest := []) (cs1 := (W_Mo gm)) (cs2 := (W_Mo v9)) (st' := []) (cs' := (W_Mo v9)) (q := (36, .null, 0, 0, 0)) lk_Mo_346 (r_Mo_lays N gm x2 (-1 : Int32) v9 e10) rfl rfl rfl rfl rfl (Or.inl ⟨12, _, _, rfl, rfl, rfl⟩) rfl rfl (sc_Mo_Mo_0 gm) rfl rfl (pc_Mo_Mo_0 gm v9) ?_
      refine sv_Q.s (σ' := (25, [some (.ref 0), some (.int x1), some (.int (x2 + (1 : Int32)))], [], (W_Mo v9))) 2 rfl ?_
      exact ih x1 (x2 + (1 : Int32)) v9
def F_Mo_clears (N : Nat) (gm : Nat → Nat → Int32) : Option (Int32 × (Nat → Nat → Int32)) := (if ¬ (gm 0 1) = 0 then (Option.bind (F_Mo_lyingMany N gm) fun (v2 : Int32) => (Option.bind (if v2 ≤ 0 then some gm else (Option.bind (F_Mo_keeps N gm) fun (v5 : (Nat → Nat → Int32)) => some v5)) fun (v7 : (Nat → Nat → Int32)) => (Option.bind (L_Mo_clears_25 N N v2 (0 : Int32) v7) fun (v11 : (Nat → Nat → Int32)) => (some (v2, v11))))) else (some ((-2 : Int32), gm)))
set_option maxHeartbeats 4000000 in
set_option maxRecDepth 100000 in
theorem r_Mo_clears {X : Nat × (Nat → Int32)} (N : Nat) (gm : Nat → Nat → Int32) : ∀ x, (F_Mo_clears N gm) = some x → sv_R X 2 M_Mo_clears [.ref 0] (W_Mo gm) (some (.int x.1)) (W_Mo x.2) := by
  refine sv_Q.R (res := (fun (x : Int32 × (Nat → Nat → Int32)) => (some (.int x.1), (W_Mo x.2)))) g_Mo_clears rfl ?_
  unfold F_Mo_clears
  refine sv_Q.s (σ' := (4, [some (.ref 0), none, none], [.int (gm 0 1)], (W_Mo gm))) 2 rfl ?_
  refine sv_Q.b rfl (fun c1 => ?_) (fun c1 => ?_)
  · refine sv_Q.s (σ' := (11, [some (.ref 0), none, none], [.ref 0], (W_Mo gm))) 1 rfl ?_
    refine sv_Q.o (fun v2 e3 => ?_)
    refine sv_Q.V (b := 0) (av := []) (ps := [0, 1, 2, 3, 4, 5, 6, 7, 8, 9, 10, 11, 12, 13, 14, 15, 16, 17, 18, 19, 20, 21, 22]) (rest := []) (cs1 := (W_Mo gm)) (cs2 := (W_Mo gm)) (st' := [.int v2]) (cs' := (W_Mo gm)) (q := (11, .null, 0, 0, 0)) lk_Mo_264 (r_Mo_lyingMany N gm v2 e3) rfl rfl rfl rfl rfl (Or.inl ⟨12, _, _, rfl, rfl, rfl⟩) rfl rfl (sc_Mo_Mo_0 gm) rfl rfl (pc_Mo_Mo_0 gm gm) ?_
    refine sv_Q.s (σ' := (16, [some (.ref 0), some (.int v2), none], [.int v2], (W_Mo gm))) 2 rfl ?_
    refine sv_Q.lo (fun v7 => (23, [some (.ref 0), some (.int v2), none], [], (W_Mo v7))) (fun v7 => ?_) ?_
    · refine sv_Q.s (σ' := (25, [some (.ref 0), some (.int v2), some (.int (0 : Int32))], [], (W_Mo v7))) 2 rfl ?_
      refine sv_Q.lo (fun v11 => (45, [none, some (.int v2), none], [], (W_Mo v11))) (fun v11 => ?_) (l_Mo_clears_25 N N v2 (0 : Int32) v7)
      · refine sv_Q.s (σ' := (46, [none, some (.int v2), none], [.int v2], (W_Mo v11))) 1 rfl ?_
        exact sv_Q.z ⟨True, rfl, trivial, rfl⟩
    · refine sv_Q.b rfl (fun c4 => ?_) (fun c4 => ?_)
      · exact sv_Q.z rfl
      · refine sv_Q.s (σ' := (20, [some (.ref 0), some (.int v2), none], [.ref 0], (W_Mo gm))) 1 rfl ?_
        refine sv_Q.o (fun v5 e6 => ?_)
        refine sv_Q.V (b := 0) (av := []) (ps := [0, 1, 2, 3, 4, 5, 6, 7, 8, 9, 10, 11, 12, 13, 14, 15, 16, 17, 18, 19, 20, 21, 22]) (rest := []) (cs1 := (W_Mo gm)) (cs2 := (W_Mo v5)) (st' := []) (cs' := (W_Mo v5)) (q := (20, .null, 0, 0, 0)) lk_Mo_343 (r_Mo_keeps N gm v5 e6) rfl rfl rfl rfl rfl (Or.inl ⟨12, _, _, rfl, rfl, rfl⟩) rfl rfl (sc_Mo_Mo_0 gm) rfl rfl (pc_Mo_Mo_0 gm v5) ?_
        exact sv_Q.z rfl
  · refine sv_Q.s (σ' := (9, [some (.ref 0), none, none], [.int (-2 : Int32)], (W_Mo gm))) 1 rfl ?_
    exact sv_Q.z ⟨True, rfl, trivial, rfl⟩
def F_Mo_books (N : Nat) (a0 : Int32) (a1 : Int32) (a2 : Int32) (gm : Nat → Nat → Int32) : Option (Int32 × (Nat → Nat → Int32)) := (Option.bind (F_Mo_isKind N a0 gm) fun (v1 : Int32) => (if v1 = 0 then (some ((-2 : Int32), gm)) else (if (F_Mo_in ((a1).toInt64) (1 : Int64) (99 : Int64)) = 0 then (some ((-2 : Int32), gm)) else (if ¬ (F_Mo_in ((a2).toInt64) (1 : Int64) (5 : Int64)) = 0 then (if ¬ (gm 0 6) = (24 : Int32) then (Option.bind (F_Mo_keeps N gm) fun (v7 : (Nat → Nat → Int32)) => (if sv_in (v7 0 6) 24 then (sv_let (sa v7 4 (v7 0 6) a0) fun (gm_10 : Nat → Nat → Int32) => (if sv_in (gm_10 0 6) 24 then (sv_let (sa gm_10 5 (gm_10 0 6) a1) fun (gm_12 : Nat → Nat → Int32) => (if sv_in (gm_12 0 6) 24 then (sv_let (sa gm_12 6 (gm_12 0 6) a2) fun (gm_14 : Nat → Nat → Int32) => (if sv_in (gm_14 0 6) 24 then (sv_let (sa gm_14 7 (gm_14 0 6) (-1 : Int32)) fun (gm_16 : Nat → Nat → Int32) => (sv_let (ss gm_16 6 ((gm_16 0 6) + (1 : Int32))) fun (gm_17 : Nat → Nat → Int32) => (some (((gm_17 0 6) - (1 : Int32)), gm_17)))) else none)) else none)) else none)) else none)) else (some ((-5 : Int32), gm))) else (some ((-2 : Int32), gm))))))
set_option maxHeartbeats 4000000 in
set_option maxRecDepth 100000 in
theorem r_Mo_books {X : Nat × (Nat → Int32)} (N : Nat) (gm : Nat → Nat → Int32) (a0 : Int32) (a1 : Int32) (a2 : Int32) : ∀ x, (F_Mo_books N a0 a1 a2 gm) = some x → sv_R X 3 M_Mo_books [.ref 0, .int a0, .int a1, .int a2] (W_Mo gm) (some (.int x.1)) (W_Mo x.2) := by
  refine sv_Q.R (res := (fun (x : Int32 × (Nat → Nat → Int32)) => (some (.int x.1), (W_Mo x.2)))) g_Mo_books rfl ?_
  unfold F_Mo_books
  refine sv_Q.s (σ' := (2, [some (.ref 0), some (.int a0), some (.int a1), some (.int a2)], [.int a0, .ref 0], (W_Mo gm))) 2 rfl ?_
  refine sv_Q.o (fun v1 e2 => ?_)
  refine sv_Q.V (b := 0) (av := [.int a0]) (ps := [0, 1, 2, 3, 4, 5, 6, 7, 8, 9, 10, 11, 12, 13, 14, 15, 16, 17, 18, 19, 20, 21, 22]) (rest := []) (cs1 := (W_Mo gm)) (cs2 := (W_Mo gm)) (st' := [.int v1]) (cs' := (W_Mo gm)) (q := (2, .null, 0, 0, 0)) lk_Mo_280 (r_Mo_isKind N gm a0 v1 e2) rfl rfl rfl rfl rfl (Or.inl ⟨12, _, _, rfl, rfl, rfl⟩) rfl rfl (sc_Mo_Mo_0 gm) rfl rfl (pc_Mo_Mo_0 gm gm) ?_
  refine sv_Q.b rfl (fun c3 => ?_) (fun c3 => ?_)
  · refine sv_Q.s (σ' := (34, [some (.ref 0), some (.int a0), some (.int a1), some (.int a2)], [.int (-2 : Int32)], (W_Mo gm))) 1 rfl ?_
    exact sv_Q.z ⟨True, rfl, trivial, rfl⟩
  · refine sv_Q.s (σ' := (14, [some (.ref 0), some (.int a0), some (.int a1), some (.int a2)], [.long (99 : Int64), .long (1 : Int64), .long ((a1).toInt64)], (W_Mo gm))) 4 rfl ?_
    refine sv_Q.S (ps := []) (rest := []) (cs1 := []) (cs2 := []) (st' := [.int (F_Mo_in ((a1).toInt64) (1 : Int64) (99 : Int64))]) (cs' := (W_Mo gm)) (q := (14, .null, 0, 0, 0)) lk_Mo_97 (t_Mo_in ((a1).toInt64) (1 : Int64) (99 : Int64)) rfl rfl rfl rfl rfl rfl rfl rfl rfl rfl (sv_pt_nil _ _) ?_
    refine sv_Q.b rfl (fun c4 => ?_) (fun c4 => ?_)
    · refine sv_Q.s (σ' := (34, [some (.ref 0), some (.int a0), some (.int a1), some (.int a2)], [.int (-2 : Int32)], (W_Mo gm))) 1 rfl ?_
      exact sv_Q.z ⟨True, rfl, trivial, rfl⟩
    · refine sv_Q.s (σ' := (26, [some (.ref 0), some (.int a0), some (.int a1), some (.int a2)], [.long (5 : Int64), .long (1 : Int64), .long ((a2).toInt64)], (W_Mo gm))) 4 rfl ?_
      refine sv_Q.S (ps := []) (rest := []) (cs1 := []) (cs2 := []) (st' := [.int (F_Mo_in ((a2).toInt64) (1 : Int64) (5 : Int64))]) (cs' := (W_Mo gm)) (q := (26, .null, 0, 0, 0)) lk_Mo_97 (t_Mo_in ((a2).toInt64) (1 : Int64) (5 : Int64)) rfl rfl rfl rfl rfl rfl rfl rfl rfl rfl (sv_pt_nil _ _) ?_
      refine sv_Q.b rfl (fun c5 => ?_) (fun c5 => ?_)
      · refine sv_Q.s (σ' := (41, [some (.ref 0), some (.int a0), some (.int a1), some (.int a2)], [.int (24 : Int32), .int (gm 0 6)], (W_Mo gm))) 3 rfl ?_
        refine sv_Q.b rfl (fun c6 => ?_) (fun c6 => ?_)
        · refine sv_Q.s (σ' := (48, [some (.ref 0), some (.int a0), some (.int a1), some (.int a2)], [.ref 0], (W_Mo gm))) 1 rfl ?_
          refine sv_Q.o (fun v7 e8 => ?_)
          refine sv_Q.V (b := 0) (av := []) (ps := [0, 1, 2, 3, 4, 5, 6, 7, 8, 9, 10, 11, 12, 13, 14, 15, 16, 17, 18, 19, 20, 21, 22]) (rest := []) (cs1 := (W_Mo gm)) (cs2 := (W_Mo v7)) (st' := []) (cs' := (W_Mo v7)) (q := (48, .null, 0, 0, 0)) lk_Mo_343 (r_Mo_keeps N gm v7 e8) rfl rfl rfl rfl rfl (Or.inl ⟨12, _, _, rfl, rfl, rfl⟩) rfl rfl (sc_Mo_Mo_0 gm) rfl rfl (pc_Mo_Mo_0 gm v7) ?_
          refine sv_Q.s (σ' := (60, [some (.ref 0), some (.int a0), some (.int a1), some (.int a2)], [.int a0, .int (v7 0 6), .ref 4], (W_Mo v7))) 5 rfl ?_
          refine sv_Q.g (σ' := (61, [some (.ref 0), some (.int a0), some (.int a1), some (.int a2)], [], (W_Mo (sa v7 4 (v7 0 6) a0)))) (c := sv_in (v7 0 6) 24) rfl (fun c9 => ?_)
          refine sv_Q.go (fun gm_10 => (61, [some (.ref 0), some (.int a0), some (.int a1), some (.int a2)], [], (W_Mo gm_10))) (fun gm_10 => ?_)
          refine sv_Q.s (σ' := (70, [some (.ref 0), some (.int a0), some (.int a1), some (.int a2)], [.int a1, .int (gm_10 0 6), .ref 5], (W_Mo gm_10))) 5 rfl ?_
          refine sv_Q.g (σ' := (71, [some (.ref 0), some (.int a0), some (.int a1), some (.int a2)], [], (W_Mo (sa gm_10 5 (gm_10 0 6) a1)))) (c := sv_in (gm_10 0 6) 24) rfl (fun c11 => ?_)
          refine sv_Q.go (fun gm_12 => (71, [some (.ref 0), some (.int a0), some (.int a1), some (.int a2)], [], (W_Mo gm_12))) (fun gm_12 => ?_)
          refine sv_Q.s (σ' := (80, [some (.ref 0), some (.int a0), some (.int a1), some (.int a2)], [.int a2, .int (gm_12 0 6), .ref 6], (W_Mo gm_12))) 5 rfl ?_
          refine sv_Q.g (σ' := (81, [some (.ref 0), some (.int a0), some (.int a1), some (.int a2)], [], (W_Mo (sa gm_12 6 (gm_12 0 6) a2)))) (c := sv_in (gm_12 0 6) 24) rfl (fun c13 => ?_)
          refine sv_Q.go (fun gm_14 => (81, [some (.ref 0), some (.int a0), some (.int a1), some (.int a2)], [], (W_Mo gm_14))) (fun gm_14 => ?_)
          refine sv_Q.s (σ' := (90, [some (.ref 0), some (.int a0), some (.int a1), some (.int a2)], [.int (-1 : Int32), .int (gm_14 0 6), .ref 7], (W_Mo gm_14))) 5 rfl ?_
          refine sv_Q.g (σ' := (91, [some (.ref 0), some (.int a0), some (.int a1), some (.int a2)], [], (W_Mo (sa gm_14 7 (gm_14 0 6) (-1 : Int32))))) (c := sv_in (gm_14 0 6) 24) rfl (fun c15 => ?_)
          refine sv_Q.go (fun gm_16 => (91, [some (.ref 0), some (.int a0), some (.int a1), some (.int a2)], [], (W_Mo gm_16))) (fun gm_16 => ?_)
          refine sv_Q.s (σ' := (101, [some (.ref 0), some (.int a0), some (.int a1), some (.int a2)], [], (W_Mo (ss gm_16 6 ((gm_16 0 6) + (1 : Int32)))))) 6 rfl ?_
          refine sv_Q.go (fun gm_17 => (101, [some (.ref 0), some (.int a0), some (.int a1), some (.int a2)], [], (W_Mo gm_17))) (fun gm_17 => ?_)
          refine sv_Q.s (σ' := (107, [some (.ref 0), some (.int a0), some (.int a1), some (.int a2)], [.int ((gm_17 0 6) - (1 : Int32))], (W_Mo gm_17))) 4 rfl ?_
          exact sv_Q.z ⟨True, rfl, trivial, rfl⟩
        · refine sv_Q.s (σ' := (46, [some (.ref 0), some (.int a0), some (.int a1), some (.int a2)], [.int (-5 : Int32)], (W_Mo gm))) 1 rfl ?_
          exact sv_Q.z ⟨True, rfl, trivial, rfl⟩
      · refine sv_Q.s (σ' := (34, [some (.ref 0), some (.int a0), some (.int a1), some (.int a2)], [.int (-2 : Int32)], (W_Mo gm))) 1 rfl ?_
        exact sv_Q.z ⟨True, rfl, trivial, rfl⟩
def F_Mo_areNear (N : Nat) (a0 : Int32) (a1 : Int32) (a2 : Int32) (gm : Nat → Nat → Int32) : Option (Int32) := (if sv_in a0 24 then (if (gm 7 (a0).toNatClampNeg) = (-1 : Int32) then (some (0 : Int32)) else (if sv_in a1 24 then (if (gm 7 (a1).toNatClampNeg) = (-1 : Int32) then (some (0 : Int32)) else (if sv_in a0 24 then (if sv_in a0 24 then (Option.bind (F_Mo_isNearTo N (gm 4 (a0).toNatClampNeg) (gm 7 (a0).toNatClampNeg) a1 a2 gm) fun (v7 : Int32) => (if v7 = 0 then (some (0 : Int32)) else (some (1 : Int32)))) else none) else none)) else none)) else none)
set_option maxHeartbeats 4000000 in
set_option maxRecDepth 100000 in
theorem r_Mo_areNear {X : Nat × (Nat → Int32)} (N : Nat) (gm : Nat → Nat → Int32) (a0 : Int32) (a1 : Int32) (a2 : Int32) : ∀ x, (F_Mo_areNear N a0 a1 a2 gm) = some x → sv_R X 7 M_Mo_areNear [.ref 0, .int a0, .int a1, .int a2] (W_Mo gm) (some (.int x)) (W_Mo gm) := by
  refine sv_Q.R (res := (fun (x : Int32) => (some (.int x), (W_Mo gm)))) g_Mo_areNear rfl ?_
  unfold F_Mo_areNear
  refine sv_Q.s (σ' := (5, [some (.ref 0), some (.int a0), some (.int a1), some (.int a2)], [.int a0, .ref 7], (W_Mo gm))) 3 rfl ?_
  refine sv_Q.g (σ' := (6, [some (.ref 0), some (.int a0), some (.int a1), some (.int a2)], [.int (gm 7 (a0).toNatClampNeg)], (W_Mo gm))) (c := sv_in a0 24) rfl (fun c1 => ?_)
  refine sv_Q.s (σ' := (7, [some (.ref 0), some (.int a0), some (.int a1), some (.int a2)], [.int (-1 : Int32), .int (gm 7 (a0).toNatClampNeg)], (W_Mo gm))) 1 rfl ?_
  refine sv_Q.b rfl (fun c2 => ?_) (fun c2 => ?_)
  · refine sv_Q.s (σ' := (46, [some (.ref 0), some (.int a0), some (.int a1), some (.int a2)], [.int (0 : Int32)], (W_Mo gm))) 1 rfl ?_
    exact sv_Q.z ⟨sv_01 (0 : Int32), rfl, Or.inl rfl, rfl⟩
  · refine sv_Q.s (σ' := (15, [some (.ref 0), some (.int a0), some (.int a1), some (.int a2)], [.int a1, .ref 7], (W_Mo gm))) 3 rfl ?_
    refine sv_Q.g (σ' := (16, [some (.ref 0), some (.int a0), some (.int a1), some (.int a2)], [.int (gm 7 (a1).toNatClampNeg)], (W_Mo gm))) (c := sv_in a1 24) rfl (fun c3 => ?_)
    refine sv_Q.s (σ' := (17, [some (.ref 0), some (.int a0), some (.int a1), some (.int a2)], [.int (-1 : Int32), .int (gm 7 (a1).toNatClampNeg)], (W_Mo gm))) 1 rfl ?_
    refine sv_Q.b rfl (fun c4 => ?_) (fun c4 => ?_)
    · refine sv_Q.s (σ' := (46, [some (.ref 0), some (.int a0), some (.int a1), some (.int a2)], [.int (0 : Int32)], (W_Mo gm))) 1 rfl ?_
      exact sv_Q.z ⟨sv_01 (0 : Int32), rfl, Or.inl rfl, rfl⟩
    · refine sv_Q.s (σ' := (26, [some (.ref 0), some (.int a0), some (.int a1), some (.int a2)], [.int a0, .ref 4, .ref 0], (W_Mo gm))) 4 rfl ?_
      refine sv_Q.g (σ' := (27, [some (.ref 0), some (.int a0), some (.int a1), some (.int a2)], [.int (gm 4 (a0).toNatClampNeg), .ref 0], (W_Mo gm))) (c := sv_in a0 24) rfl (fun c5 => ?_)
      refine sv_Q.s (σ' := (32, [some (.ref 0), some (.int a0), some (.int a1), some (.int a2)], [.int a0, .ref 7, .int (gm 4 (a0).toNatClampNeg), .ref 0], (W_Mo gm))) 3 rfl ?_
      refine sv_Q.g (σ' := (33, [some (.ref 0), some (.int a0), some (.int a1), some (.int a2)], [.int (gm 7 (a0).toNatClampNeg), .int (gm 4 (a0).toNatClampNeg), .ref 0], (W_Mo gm))) (c := sv_in a0 24) rfl (fun c6 => ?_)
      refine sv_Q.s (σ' := (35, [some (.ref 0), some (.int a0), some (.int a1), some (.int a2)], [.int a2, .int a1, .int (gm 7 (a0).toNatClampNeg), .int (gm 4 (a0).toNatClampNeg), .ref 0], (W_Mo gm))) 2 rfl ?_
      refine sv_Q.o (fun v7 e8 => ?_)
      refine sv_Q.V (b := 0) (av := [.int (gm 4 (a0).toNatClampNeg), .int (gm 7 (a0).toNatClampNeg), .int a1, .int a2]) (ps := [0, 1, 2, 3, 4, 5, 6, 7, 8, 9, 10, 11, 12, 13, 14, 15, 16, 17, 18, 19, 20, 21, 22]) (rest := []) (cs1 := (W_Mo gm)) (cs2 := (W_Mo gm)) (st' := [.int v7]) (cs' := (W_Mo gm)) (q := (35, .null, 0, 0, 0)) lk_Mo_315 (r_Mo_isNearTo N gm (gm 4 (a0).toNatClampNeg) (gm 7 (a0).toNatClampNeg) a1 a2 v7 e8) rfl rfl rfl rfl rfl (Or.inl ⟨12, _, _, rfl, rfl, rfl⟩) rfl rfl (sc_Mo_Mo_0 gm) rfl rfl (pc_Mo_Mo_0 gm gm) ?_
      refine sv_Q.b rfl (fun c9 => ?_) (fun c9 => ?_)
      · refine sv_Q.s (σ' := (46, [some (.ref 0), some (.int a0), some (.int a1), some (.int a2)], [.int (0 : Int32)], (W_Mo gm))) 1 rfl ?_
        exact sv_Q.z ⟨sv_01 (0 : Int32), rfl, Or.inl rfl, rfl⟩
      · refine sv_Q.s (σ' := (46, [some (.ref 0), some (.int a0), some (.int a1), some (.int a2)], [.int (1 : Int32)], (W_Mo gm))) 2 rfl ?_
        exact sv_Q.z ⟨sv_01 (1 : Int32), rfl, Or.inr rfl, rfl⟩
def L_Mo_twosNear_17 (N : Nat) : Nat → Int32 → Int32 → Int32 → Int32 → (Nat → Nat → Int32) → Option (Int32)
  | 0, _, _, _, _, _ => none
  | n + 1, x1, x2, x3, x4, gm => (if (gm 0 6) ≤ x4 then (some x2) else (Option.bind (F_Mo_areNear N x3 x4 x1 gm) fun (v3 : Int32) => (if v3 = 0 then (L_Mo_twosNear_17 N n x1 (x2 + (0 : Int32)) x3 (x4 + (1 : Int32)) gm) else (L_Mo_twosNear_17 N n x1 (x2 + (1 : Int32)) x3 (x4 + (1 : Int32)) gm))))
set_option maxHeartbeats 4000000 in
set_option maxRecDepth 100000 in
theorem l_Mo_twosNear_17 {X : Nat × (Nat → Int32)} (N : Nat) : ∀ (n : Nat) (x1 : Int32) (x2 : Int32) (x3 : Int32) (x4 : Int32) (gm : Nat → Nat → Int32), sv_Q X 7 M_Mo_twosNear (17, [some (.ref 0), some (.int x1), some (.int x2), some (.int x3), some (.int x4)], [], (W_Mo gm)) (L_Mo_twosNear_17 N n x1 x2 x3 x4 gm) (fun v σ' => σ' = (51, [some (.ref 0), some (.int x1), some (.int v), some (.int x3), none], [], (W_Mo gm))) := by
  intro n
  induction n with
  | zero => intro x1 x2 x3 x4 gm; unfold L_Mo_twosNear_17; exact sv_Q.non
  | succ n ih =>
    intro x1 x2 x3 x4 gm
    unfold L_Mo_twosNear_17
    refine sv_Q.s (σ' := (23, [some (.ref 0), some (.int x1), some (.int x2), some (.int x3), some (.int x4)], [.int (gm 0 6), .int x4], (W_Mo gm))) 3 rfl ?_
    refine sv_Q.b rfl (fun c2 => ?_) (fun c2 => ?_)
    · refine sv_Q.f (lo' := [some (.ref 0), some (.int x1), some (.int x2), some (.int x3), none]) ⟨rfl, ⟨rfl, ⟨rfl, ⟨rfl, trivial⟩⟩⟩⟩ ?_
      exact sv_Q.z rfl
    · refine sv_Q.s (σ' := (32, [some (.ref 0), some (.int x1), some (.int x2), some (.int x3), some (.int x4)], [.int x1, .int x4, .int x3, .ref 0, .int x2], (W_Mo gm))) 5 rfl ?_
      refine sv_Q.o (fun v3 e4 => ?_)
      refine sv_Q.V (b := 0) (av := [.int x3, .int x4, .int x1]) (ps := [0, 1, 2, 3, 4, 5, 6, 7, 8, 9, 10, 11, 12, 13, 14, 15, 16, 17, 18, 19, 20, 21, 22]) (rest := [.int x2]) (cs1 := (W_Mo gm)) (cs2 := (W_Mo gm)) (st' := [.int v3, .int x2]) (cs' := (W_Mo gm)) (q := (32, .null, 0, 0, 0)) lk_Mo_353 (r_Mo_areNear N gm x3 x4 x1 v3 e4) rfl rfl rfl rfl rfl (Or.inl ⟨12, _, _, rfl, rfl, rfl⟩) rfl rfl (sc_Mo_Mo_0 gm) rfl rfl (pc_Mo_Mo_0 gm gm) ?_
      refine sv_Q.b rfl (fun c5 => ?_) (fun c5 => ?_)
      · refine sv_Q.s (σ' := (17, [some (.ref 0), some (.int x1), some (.int (x2 + (0 : Int32))), some (.int x3), some (.int (x4 + (1 : Int32)))], [], (W_Mo gm))) 5 rfl ?_
        exact ih x1 (x2 + (0 : Int32)) x3 (x4 + (1 : Int32)) gm
      · refine sv_Q.s (σ' := (17, [some (.ref 0), some (.int x1), some (.int (x2 + (1 : Int32))), some (.int x3), some (.int (x4 + (1 : Int32)))], [], (W_Mo gm))) 6 rfl ?_
        exact ih x1 (x2 + (1 : Int32)) x3 (x4 + (1 : Int32)) gm
def L_Mo_twosNear_4 (N : Nat) : Nat → Int32 → Int32 → Int32 → (Nat → Nat → Int32) → Option (Int32)
  | 0, _, _, _, _ => none
  | n + 1, x1, x2, x3, gm => (if (gm 0 6) ≤ x3 then (some x2) else (Option.bind (L_Mo_twosNear_17 N N x1 x2 x3 (x3 + (1 : Int32)) gm) fun (v6 : Int32) => (L_Mo_twosNear_4 N n x1 v6 (x3 + (1 : Int32)) gm)))
set_option maxHeartbeats 4000000 in
set_option maxRecDepth 100000 in
theorem l_Mo_twosNear_4 {X : Nat × (Nat → Int32)} (N : Nat) : ∀ (n : Nat) (x1 : Int32) (x2 : Int32) (x3 : Int32) (gm : Nat → Nat → Int32), sv_Q X 7 M_Mo_twosNear (4, [some (.ref 0), some (.int x1), some (.int x2), some (.int x3), none], [], (W_Mo gm)) (L_Mo_twosNear_4 N n x1 x2 x3 gm) (fun v σ' => σ' = (57, [none, none, some (.int v), none, none], [], (W_Mo gm))) := by
  intro n
  induction n with
  | zero => intro x1 x2 x3 gm; unfold L_Mo_twosNear_4; exact sv_Q.non
  | succ n ih =>
    intro x1 x2 x3 gm
    unfold L_Mo_twosNear_4
    refine sv_Q.s (σ' := (9, [some (.ref 0), some (.int x1), some (.int x2), some (.int x3), none], [.int (gm 0 6), .int x3], (W_Mo gm))) 3 rfl ?_
    refine sv_Q.b rfl (fun c1 => ?_) (fun c1 => ?_)
    · refine sv_Q.f (lo' := [none, none, some (.int x2), none, none]) ⟨rfl, trivial⟩ ?_
      exact sv_Q.z rfl
    · refine sv_Q.s (σ' := (17, [some (.ref 0), some (.int x1), some (.int x2), some (.int x3), some (.int (x3 + (1 : Int32)))], [], (W_Mo gm))) 4 rfl ?_
      refine sv_Q.lo (fun v6 => (51, [some (.ref 0), some (.int x1), some (.int v6), some (.int x3), none], [], (W_Mo gm))) (fun v6 => ?_) (l_Mo_twosNear_17 N N x1 x2 x3 (x3 + (1 : Int32)) gm)
      · refine sv_Q.s (σ' := (4, [some (.ref 0), some (.int x1), some (.int v6), some (.int (x3 + (1 : Int32))), none], [], (W_Mo gm))) 2 rfl ?_
        exact ih x1 v6 (x3 + (1 : Int32)) gm
def F_Mo_twosNear (N : Nat) (a0 : Int32) (gm : Nat → Nat → Int32) : Option (Int32) := (Option.bind (L_Mo_twosNear_4 N N a0 (0 : Int32) (0 : Int32) gm) fun (v7 : Int32) => (some v7))
set_option maxHeartbeats 4000000 in
set_option maxRecDepth 100000 in
theorem r_Mo_twosNear {X : Nat × (Nat → Int32)} (N : Nat) (gm : Nat → Nat → Int32) (a0 : Int32) : ∀ x, (F_Mo_twosNear N a0 gm) = some x → sv_R X 8 M_Mo_twosNear [.ref 0, .int a0] (W_Mo gm) (some (.int x)) (W_Mo gm) := by
  refine sv_Q.R (res := (fun (x : Int32) => (some (.int x), (W_Mo gm)))) g_Mo_twosNear rfl ?_
  unfold F_Mo_twosNear
  refine sv_Q.s (σ' := (4, [some (.ref 0), some (.int a0), some (.int (0 : Int32)), some (.int (0 : Int32)), none], [], (W_Mo gm))) 4 rfl ?_
  refine sv_Q.lo (fun v7 => (57, [none, none, some (.int v7), none, none], [], (W_Mo gm))) (fun v7 => ?_) (l_Mo_twosNear_4 N N a0 (0 : Int32) (0 : Int32) gm)
  · refine sv_Q.s (σ' := (58, [none, none, some (.int v7), none, none], [.int v7], (W_Mo gm))) 1 rfl ?_
    exact sv_Q.z ⟨True, rfl, trivial, rfl⟩
def L_Mo_near_46 (N : Nat) : Nat → Int32 → Int32 → Int32 → (Nat → Nat → Int32) → Option ((Int32) ⊕ (Int32))
  | 0, _, _, _, _ => none
  | n + 1, x2, x3, x4, gm => (if (gm 0 6) ≤ x4 then (some (.inl x2)) else (Option.bind (F_Mo_areNear N x3 x4 (gm 0 11) gm) fun (v6 : Int32) => (if ¬ v6 = 0 then (if ¬ x2 = 0 then (L_Mo_near_46 N n (x2 + (-1 : Int32)) x3 (x4 + (1 : Int32)) gm) else (some (.inr (((100 : Int32) * x3) + x4)))) else (L_Mo_near_46 N n x2 x3 (x4 + (1 : Int32)) gm))))
set_option maxHeartbeats 4000000 in
set_option maxRecDepth 100000 in
theorem l_Mo_near_46 {X : Nat × (Nat → Int32)} (N : Nat) : ∀ (n : Nat) (x2 : Int32) (x3 : Int32) (x4 : Int32) (gm : Nat → Nat → Int32), sv_Q X 8 M_Mo_near (46, [some (.ref 0), none, some (.int x2), some (.int x3), some (.int x4)], [], (W_Mo gm)) (L_Mo_near_46 N n x2 x3 x4 gm) (sv_K2 (fun (v : Int32) => (93, [some (.ref 0), none, some (.int v), some (.int x3), none], [], (W_Mo gm))) (sv_KR M_Mo_near (fun (x : Int32) => (some (.int x), (W_Mo gm))))) := by
  intro n
  induction n with
  | zero => intro x2 x3 x4 gm; unfold L_Mo_near_46; exact sv_Q.non
  | succ n ih =>
    intro x2 x3 x4 gm
    unfold L_Mo_near_46
    refine sv_Q.s (σ' := (52, [some (.ref 0), none, some (.int x2), some (.int x3), some (.int x4)], [.int (gm 0 6), .int x4], (W_Mo gm))) 3 rfl ?_
    refine sv_Q.b rfl (fun c5 => ?_) (fun c5 => ?_)
    · refine sv_Q.f (lo' := [some (.ref 0), none, some (.int x2), some (.int x3), none]) ⟨rfl, ⟨rfl, ⟨rfl, trivial⟩⟩⟩ ?_
      exact sv_Q.z rfl
    · refine sv_Q.s (σ' := (63, [some (.ref 0), none, some (.int x2), some (.int x3), some (.int x4)], [.int (gm 0 11), .int x4, .int x3, .ref 0], (W_Mo gm))) 5 rfl ?_
      refine sv_Q.o (fun v6 e7 => ?_)
      refine sv_Q.V (b := 0) (av := [.int x3, .int x4, .int (gm 0 11)]) (ps := [0, 1, 2, 3, 4, 5, 6, 7, 8, 9, 10, 11, 12, 13, 14, 15, 16, 17, 18, 19, 20, 21, 22]) (rest := []) (cs1 := (W_Mo gm)) (cs2 := (W_Mo gm)) (st' := [.int v6]) (cs' := (W_Mo gm)) (q := (63, .null, 0, 0, 0)) lk_Mo_353 (r_Mo_areNear N gm x3 x4 (gm 0 11) v6 e7) rfl rfl rfl rfl rfl (Or.inl ⟨12, _, _, rfl, rfl, rfl⟩) rfl rfl (sc_Mo_Mo_0 gm) rfl rfl (pc_Mo_Mo_0 gm gm) ?_
      refine sv_Q.b rfl (fun c8 => ?_) (fun c8 => ?_)
      · refine sv_Q.s (σ' := (73, [some (.ref 0), none, some (.int x2), some (.int x3), some (.int x4)], [.int x2], (W_Mo gm))) 1 rfl ?_
        refine sv_Q.b rfl (fun c9 => ?_) (fun c9 => ?_)
        · refine sv_Q.s (σ' := (46, [some (.ref 0), none, some (.int (x2 + (-1 : Int32))), some (.int x3), some (.int (x4 + (1 : Int32)))], [], (W_Mo gm))) 3 rfl ?_
          exact ih (x2 + (-1 : Int32)) x3 (x4 + (1 : Int32)) gm
        · refine sv_Q.s (σ' := (83, [some (.ref 0), none, some (.int x2), some (.int x3), some (.int x4)], [.int (((100 : Int32) * x3) + x4)], (W_Mo gm))) 5 rfl ?_
          exact sv_Q.z ⟨True, rfl, trivial, rfl⟩
      · refine sv_Q.s (σ' := (46, [some (.ref 0), none, some (.int x2), some (.int x3), some (.int (x4 + (1 : Int32)))], [], (W_Mo gm))) 3 rfl ?_
        exact ih x2 x3 (x4 + (1 : Int32)) gm
def L_Mo_near_33 (N : Nat) : Nat → Int32 → Int32 → (Nat → Nat → Int32) → Option ((Unit) ⊕ (Int32))
  | 0, _, _, _ => none
  | n + 1, x2, x3, gm => (if (gm 0 6) ≤ x3 then (some (.inl ())) else (sv_bs (L_Mo_near_46 N N x2 x3 (x3 + (1 : Int32)) gm) Sum.inr fun (v10 : Int32) => (L_Mo_near_33 N n v10 (x3 + (1 : Int32)) gm)))
set_option maxHeartbeats 4000000 in
set_option maxRecDepth 100000 in
theorem l_Mo_near_33 {X : Nat × (Nat → Int32)} (N : Nat) : ∀ (n : Nat) (x2 : Int32) (x3 : Int32) (gm : Nat → Nat → Int32), sv_Q X 8 M_Mo_near (33, [some (.ref 0), none, some (.int x2), some (.int x3), none], [], (W_Mo gm)) (L_Mo_near_33 N n x2 x3 gm) (sv_K2 (fun (v : Unit) => (99, [none, none, none, none, none], [], (W_Mo gm))) (sv_KR M_Mo_near (fun (x : Int32) => (some (.int x), (W_Mo gm))))) := by
  intro n
  induction n with
  | zero => intro x2 x3 gm; unfold L_Mo_near_33; exact sv_Q.non
  | succ n ih =>
    intro x2 x3 gm
    unfold L_Mo_near_33
    refine sv_Q.s (σ' := (38, [some (.ref 0), none, some (.int x2), some (.int x3), none], [.int (gm 0 6), .int x3], (W_Mo gm))) 3 rfl ?_
    refine sv_Q.b rfl (fun c4 => ?_) (fun c4 => ?_)
    · refine sv_Q.f (lo' := [none, none, none, none, none]) trivial ?_
      exact sv_Q.z rfl
    · refine sv_Q.s (σ' := (46, [some (.ref 0), none, some (.int x2), some (.int x3), some (.int (x3 + (1 : Int32)))], [], (W_Mo gm))) 4 rfl ?_
      refine sv_Q.bs (l_Mo_near_46 N N x2 x3 (x3 + (1 : Int32)) gm) (fun v10 => ?_) (fun r σ' h => h)
      · refine sv_Q.s (σ' := (33, [some (.ref 0), none, some (.int v10), some (.int (x3 + (1 : Int32))), none], [], (W_Mo gm))) 2 rfl ?_
        exact ih v10 (x3 + (1 : Int32)) gm
def F_Mo_near (N : Nat) (a0 : Int32) (gm : Nat → Nat → Int32) : Option (Int32) := (if (gm 0 1) = 0 then (some (-2 : Int32)) else (if (-1 : Int32) ≤ a0 then (if ¬ a0 = (-1 : Int32) then (sv_bs (L_Mo_near_33 N N a0 (0 : Int32) gm) id fun (v11 : Unit) => (some (-1 : Int32))) else (Option.bind (F_Mo_twosNear N (gm 0 11) gm) fun (v12 : Int32) => (some v12))) else (some (-2 : Int32))))
set_option maxHeartbeats 4000000 in
set_option maxRecDepth 100000 in
theorem r_Mo_near {X : Nat × (Nat → Int32)} (N : Nat) (gm : Nat → Nat → Int32) (a0 : Int32) : ∀ x, (F_Mo_near N a0 gm) = some x → sv_R X 9 M_Mo_near [.ref 0, .int a0] (W_Mo gm) (some (.int x)) (W_Mo gm) := by
  refine sv_Q.R (res := (fun (x : Int32) => (some (.int x), (W_Mo gm)))) g_Mo_near rfl ?_
  unfold F_Mo_near
  refine sv_Q.s (σ' := (4, [some (.ref 0), some (.int a0), none, none, none], [.int (gm 0 1)], (W_Mo gm))) 2 rfl ?_
  refine sv_Q.b rfl (fun c1 => ?_) (fun c1 => ?_)
  · refine sv_Q.s (σ' := (14, [some (.ref 0), some (.int a0), none, none, none], [.int (-2 : Int32)], (W_Mo gm))) 1 rfl ?_
    exact sv_Q.z ⟨True, rfl, trivial, rfl⟩
  · refine sv_Q.s (σ' := (9, [some (.ref 0), some (.int a0), none, none, none], [.int (-1 : Int32), .int a0], (W_Mo gm))) 2 rfl ?_
    refine sv_Q.b rfl (fun c2 => ?_) (fun c2 => ?_)
    · refine sv_Q.s (σ' := (17, [some (.ref 0), some (.int a0), none, none, none], [.int (-1 : Int32), .int a0], (W_Mo gm))) 2 rfl ?_
      refine sv_Q.b rfl (fun c3 => ?_) (fun c3 => ?_)
      · refine sv_Q.s (σ' := (33, [some (.ref 0), some (.int a0), some (.int a0), some (.int (0 : Int32)), none], [], (W_Mo gm))) 4 rfl ?_
        refine sv_Q.f (lo' := [some (.ref 0), none, some (.int a0), some (.int (0 : Int32)), none]) ⟨rfl, ⟨rfl, ⟨rfl, trivial⟩⟩⟩ ?_
        refine sv_Q.bs (l_Mo_near_33 N N a0 (0 : Int32) gm) (fun v11 => ?_) (fun r σ' h => h)
        · refine sv_Q.s (σ' := (100, [none, none, none, none, none], [.int (-1 : Int32)], (W_Mo gm))) 1 rfl ?_
          exact sv_Q.z ⟨True, rfl, trivial, rfl⟩
      · refine sv_Q.s (σ' := (25, [some (.ref 0), some (.int a0), none, none, none], [.int (gm 0 11), .ref 0], (W_Mo gm))) 3 rfl ?_
        refine sv_Q.o (fun v12 e13 => ?_)
        refine sv_Q.V (b := 0) (av := [.int (gm 0 11)]) (ps := [0, 1, 2, 3, 4, 5, 6, 7, 8, 9, 10, 11, 12, 13, 14, 15, 16, 17, 18, 19, 20, 21, 22]) (rest := []) (cs1 := (W_Mo gm)) (cs2 := (W_Mo gm)) (st' := [.int v12]) (cs' := (W_Mo gm)) (q := (25, .null, 0, 0, 0)) lk_Mo_357 (r_Mo_twosNear N gm (gm 0 11) v12 e13) rfl rfl rfl rfl rfl (Or.inl ⟨12, _, _, rfl, rfl, rfl⟩) rfl rfl (sc_Mo_Mo_0 gm) rfl rfl (pc_Mo_Mo_0 gm gm) ?_
        exact sv_Q.z ⟨True, rfl, trivial, rfl⟩
    · refine sv_Q.s (σ' := (14, [some (.ref 0), some (.int a0), none, none, none], [.int (-2 : Int32)], (W_Mo gm))) 1 rfl ?_
      exact sv_Q.z ⟨True, rfl, trivial, rfl⟩
def L_Mo_nearTo_15 (N : Nat) : Nat → Int32 → Int32 → Int32 → (Nat → Nat → Int32) → Option (Int32)
  | 0, _, _, _, _ => none
  | n + 1, x1, x2, x3, gm => (if (gm 0 6) ≤ x3 then (some x2) else (if x3 = x1 then (L_Mo_nearTo_15 N n x1 (x2 + (0 : Int32)) (x3 + (1 : Int32)) gm) else (Option.bind (F_Mo_areNear N x1 x3 (gm 0 11) gm) fun (v4 : Int32) => (if v4 = 0 then (L_Mo_nearTo_15 N n x1 (x2 + (0 : Int32)) (x3 + (1 : Int32)) gm) else (L_Mo_nearTo_15 N n x1 (x2 + (1 : Int32)) (x3 + (1 : Int32)) gm)))))
set_option maxHeartbeats 4000000 in
set_option maxRecDepth 100000 in
theorem l_Mo_nearTo_15 {X : Nat × (Nat → Int32)} (N : Nat) : ∀ (n : Nat) (x1 : Int32) (x2 : Int32) (x3 : Int32) (gm : Nat → Nat → Int32), sv_Q X 7 M_Mo_nearTo (15, [some (.ref 0), some (.int x1), some (.int x2), some (.int x3)], [], (W_Mo gm)) (L_Mo_nearTo_15 N n x1 x2 x3 gm) (fun v σ' => σ' = (55, [none, none, some (.int v), none], [], (W_Mo gm))) := by
  intro n
  induction n with
  | zero => intro x1 x2 x3 gm; unfold L_Mo_nearTo_15; exact sv_Q.non
  | succ n ih =>
    intro x1 x2 x3 gm
    unfold L_Mo_nearTo_15
    refine sv_Q.s (σ' := (20, [some (.ref 0), some (.int x1), some (.int x2), some (.int x3)], [.int (gm 0 6), .int x3], (W_Mo gm))) 3 rfl ?_
    refine sv_Q.b rfl (fun c2 => ?_) (fun c2 => ?_)
    · refine sv_Q.f (lo' := [none, none, some (.int x2), none]) ⟨rfl, trivial⟩ ?_
      exact sv_Q.z rfl
    · refine sv_Q.s (σ' := (26, [some (.ref 0), some (.int x1), some (.int x2), some (.int x3)], [.int x1, .int x3, .int x2], (W_Mo gm))) 3 rfl ?_
      refine sv_Q.b rfl (fun c3 => ?_) (fun c3 => ?_)
      · refine sv_Q.s (σ' := (15, [some (.ref 0), some (.int x1), some (.int (x2 + (0 : Int32))), some (.int (x3 + (1 : Int32)))], [], (W_Mo gm))) 5 rfl ?_
        exact ih x1 (x2 + (0 : Int32)) (x3 + (1 : Int32)) gm
      · refine sv_Q.s (σ' := (36, [some (.ref 0), some (.int x1), some (.int x2), some (.int x3)], [.int (gm 0 11), .int x3, .int x1, .ref 0, .int x2], (W_Mo gm))) 5 rfl ?_
        refine sv_Q.o (fun v4 e5 => ?_)
        refine sv_Q.V (b := 0) (av := [.int x1, .int x3, .int (gm 0 11)]) (ps := [0, 1, 2, 3, 4, 5, 6, 7, 8, 9, 10, 11, 12, 13, 14, 15, 16, 17, 18, 19, 20, 21, 22]) (rest := [.int x2]) (cs1 := (W_Mo gm)) (cs2 := (W_Mo gm)) (st' := [.int v4, .int x2]) (cs' := (W_Mo gm)) (q := (36, .null, 0, 0, 0)) lk_Mo_353 (r_Mo_areNear N gm x1 x3 (gm 0 11) v4 e5) rfl rfl rfl rfl rfl (Or.inl ⟨12, _, _, rfl, rfl, rfl⟩) rfl rfl (sc_Mo_Mo_0 gm) rfl rfl (pc_Mo_Mo_0 gm gm) ?_
        refine sv_Q.b rfl (fun c6 => ?_) (fun c6 => ?_)
        · refine sv_Q.s (σ' := (15, [some (.ref 0), some (.int x1), some (.int (x2 + (0 : Int32))), some (.int (x3 + (1 : Int32)))], [], (W_Mo gm))) 5 rfl ?_
          exact ih x1 (x2 + (0 : Int32)) (x3 + (1 : Int32)) gm
        · refine sv_Q.s (σ' := (15, [some (.ref 0), some (.int x1), some (.int (x2 + (1 : Int32))), some (.int (x3 + (1 : Int32)))], [], (W_Mo gm))) 6 rfl ?_
          exact ih x1 (x2 + (1 : Int32)) (x3 + (1 : Int32)) gm
def F_Mo_nearTo (N : Nat) (a0 : Int32) (gm : Nat → Nat → Int32) : Option (Int32) := (if ¬ (F_Mo_isBox a0 gm) = 0 then (Option.bind (L_Mo_nearTo_15 N N a0 (0 : Int32) (0 : Int32) gm) fun (v7 : Int32) => (some v7)) else (some (-2 : Int32)))
set_option maxHeartbeats 4000000 in
set_option maxRecDepth 100000 in
theorem r_Mo_nearTo {X : Nat × (Nat → Int32)} (N : Nat) (gm : Nat → Nat → Int32) (a0 : Int32) : ∀ x, (F_Mo_nearTo N a0 gm) = some x → sv_R X 8 M_Mo_nearTo [.ref 0, .int a0] (W_Mo gm) (some (.int x)) (W_Mo gm) := by
  refine sv_Q.R (res := (fun (x : Int32) => (some (.int x), (W_Mo gm)))) g_Mo_nearTo rfl ?_
  unfold F_Mo_nearTo
  refine sv_Q.s (σ' := (2, [some (.ref 0), some (.int a0), none, none], [.int a0, .ref 0], (W_Mo gm))) 2 rfl ?_
  refine sv_Q.V (b := 0) (av := [.int a0]) (ps := [0, 1, 2, 3, 4, 5, 6, 7, 8, 9, 10, 11, 12, 13, 14, 15, 16, 17, 18, 19, 20, 21, 22]) (rest := []) (cs1 := (W_Mo gm)) (cs2 := (W_Mo gm)) (st' := [.int (F_Mo_isBox a0 gm)]) (cs' := (W_Mo gm)) (q := (2, .null, 0, 0, 0)) lk_Mo_286 (t_Mo_isBox gm a0) rfl rfl rfl rfl rfl (Or.inl ⟨12, _, _, rfl, rfl, rfl⟩) rfl rfl (sc_Mo_Mo_0 gm) rfl rfl (pc_Mo_Mo_0 gm gm) ?_
  refine sv_Q.b rfl (fun c1 => ?_) (fun c1 => ?_)
  · refine sv_Q.s (σ' := (15, [some (.ref 0), some (.int a0), some (.int (0 : Int32)), some (.int (0 : Int32))], [], (W_Mo gm))) 4 rfl ?_
    refine sv_Q.lo (fun v7 => (55, [none, none, some (.int v7), none], [], (W_Mo gm))) (fun v7 => ?_) (l_Mo_nearTo_15 N N a0 (0 : Int32) (0 : Int32) gm)
    · refine sv_Q.s (σ' := (56, [none, none, some (.int v7), none], [.int v7], (W_Mo gm))) 1 rfl ?_
      exact sv_Q.z ⟨True, rfl, trivial, rfl⟩
  · refine sv_Q.s (σ' := (10, [some (.ref 0), some (.int a0), none, none], [.int (-2 : Int32)], (W_Mo gm))) 1 rfl ?_
    exact sv_Q.z ⟨True, rfl, trivial, rfl⟩
def F_Mo_isDoor (N : Nat) (a0 : Int32) (gm : Nat → Nat → Int32) : Option (Int32) := (if sv_in (0 : Int32) 90 then (if (F_Mo_in ((a0).toInt64) (0 : Int64) ((((gm 1 ((0 : Int32)).toNatClampNeg) - (2 : Int32))).toInt64)) = 0 then (some (0 : Int32)) else (if sv_in ((8 : Int32) + a0) 90 then (if ¬ (gm 1 (((8 : Int32) + a0)).toNatClampNeg) = (2 : Int32) then (some (0 : Int32)) else (some (1 : Int32))) else none)) else none)
set_option maxHeartbeats 4000000 in
set_option maxRecDepth 100000 in
theorem r_Mo_isDoor {X : Nat × (Nat → Int32)} (N : Nat) (gm : Nat → Nat → Int32) (a0 : Int32) : ∀ x, (F_Mo_isDoor N a0 gm) = some x → sv_R X 2 M_Mo_isDoor [.ref 0, .int a0] (W_Mo gm) (some (.int x)) (W_Mo gm) := by
  refine sv_Q.R (res := (fun (x : Int32) => (some (.int x), (W_Mo gm)))) g_Mo_isDoor rfl ?_
  unfold F_Mo_isDoor
  refine sv_Q.s (σ' := (8, [some (.ref 0), some (.int a0)], [.int (0 : Int32), .ref 1, .long (0 : Int64), .long ((a0).toInt64)], (W_Mo gm))) 6 rfl ?_
  refine sv_Q.g (σ' := (9, [some (.ref 0), some (.int a0)], [.int (gm 1 ((0 : Int32)).toNatClampNeg), .long (0 : Int64), .long ((a0).toInt64)], (W_Mo gm))) (c := sv_in (0 : Int32) 90) rfl (fun c1 => ?_)
  refine sv_Q.s (σ' := (12, [some (.ref 0), some (.int a0)], [.long ((((gm 1 ((0 : Int32)).toNatClampNeg) - (2 : Int32))).toInt64), .long (0 : Int64), .long ((a0).toInt64)], (W_Mo gm))) 3 rfl ?_
  refine sv_Q.S (ps := []) (rest := []) (cs1 := []) (cs2 := []) (st' := [.int (F_Mo_in ((a0).toInt64) (0 : Int64) ((((gm 1 ((0 : Int32)).toNatClampNeg) - (2 : Int32))).toInt64))]) (cs' := (W_Mo gm)) (q := (12, .null, 0, 0, 0)) lk_Mo_97 (t_Mo_in ((a0).toInt64) (0 : Int64) ((((gm 1 ((0 : Int32)).toNatClampNeg) - (2 : Int32))).toInt64)) rfl rfl rfl rfl rfl rfl rfl rfl rfl rfl (sv_pt_nil _ _) ?_
  refine sv_Q.b rfl (fun c2 => ?_) (fun c2 => ?_)
  · refine sv_Q.s (σ' := (36, [some (.ref 0), some (.int a0)], [.int (0 : Int32)], (W_Mo gm))) 1 rfl ?_
    exact sv_Q.z ⟨sv_01 (0 : Int32), rfl, Or.inl rfl, rfl⟩
  · refine sv_Q.s (σ' := (26, [some (.ref 0), some (.int a0)], [.int ((8 : Int32) + a0), .ref 1], (W_Mo gm))) 5 rfl ?_
    refine sv_Q.g (σ' := (27, [some (.ref 0), some (.int a0)], [.int (gm 1 (((8 : Int32) + a0)).toNatClampNeg)], (W_Mo gm))) (c := sv_in ((8 : Int32) + a0) 90) rfl (fun c3 => ?_)
    refine sv_Q.s (σ' := (28, [some (.ref 0), some (.int a0)], [.int (2 : Int32), .int (gm 1 (((8 : Int32) + a0)).toNatClampNeg)], (W_Mo gm))) 1 rfl ?_
    refine sv_Q.b rfl (fun c4 => ?_) (fun c4 => ?_)
    · refine sv_Q.s (σ' := (36, [some (.ref 0), some (.int a0)], [.int (0 : Int32)], (W_Mo gm))) 1 rfl ?_
      exact sv_Q.z ⟨sv_01 (0 : Int32), rfl, Or.inl rfl, rfl⟩
    · refine sv_Q.s (σ' := (36, [some (.ref 0), some (.int a0)], [.int (1 : Int32)], (W_Mo gm))) 2 rfl ?_
      exact sv_Q.z ⟨sv_01 (1 : Int32), rfl, Or.inr rfl, rfl⟩
def F_Mo_opens (N : Nat) (a0 : Int32) (a1 : Int32) (gm : Nat → Nat → Int32) : Option (Int32 × (Nat → Nat → Int32)) := (Option.bind (F_Mo_isDoor N a0 gm) fun (v1 : Int32) => (if v1 = 0 then (some ((-2 : Int32), gm)) else (if ¬ (F_Mo_in ((a1).toInt64) (0 : Int64) (1 : Int64)) = 0 then (Option.bind (if (((gm 0 11) >>> (a0 &&& 31)) &&& (1 : Int32)) = a1 then some gm else (Option.bind (F_Mo_keeps N gm) fun (v6 : (Nat → Nat → Int32)) => (sv_let (ss v6 11 ((v6 0 11) ^^^ ((1 : Int32) <<< (a0 &&& 31)))) fun (gm_8 : Nat → Nat → Int32) => some gm_8))) fun (v9 : (Nat → Nat → Int32)) => (Option.bind (F_Mo_twosNear N (v9 0 11) v9) fun (v10 : Int32) => (some (v10, v9)))) else (some ((-2 : Int32), gm)))))
set_option maxHeartbeats 4000000 in
set_option maxRecDepth 100000 in
theorem r_Mo_opens {X : Nat × (Nat → Int32)} (N : Nat) (gm : Nat → Nat → Int32) (a0 : Int32) (a1 : Int32) : ∀ x, (F_Mo_opens N a0 a1 gm) = some x → sv_R X 9 M_Mo_opens [.ref 0, .int a0, .int a1] (W_Mo gm) (some (.int x.1)) (W_Mo x.2) := by
  refine sv_Q.R (res := (fun (x : Int32 × (Nat → Nat → Int32)) => (some (.int x.1), (W_Mo x.2)))) g_Mo_opens rfl ?_
  unfold F_Mo_opens
  refine sv_Q.s (σ' := (2, [some (.ref 0), some (.int a0), some (.int a1)], [.int a0, .ref 0], (W_Mo gm))) 2 rfl ?_
  refine sv_Q.o (fun v1 e2 => ?_)
  refine sv_Q.V (b := 0) (av := [.int a0]) (ps := [0, 1, 2, 3, 4, 5, 6, 7, 8, 9, 10, 11, 12, 13, 14, 15, 16, 17, 18, 19, 20, 21, 22]) (rest := []) (cs1 := (W_Mo gm)) (cs2 := (W_Mo gm)) (st' := [.int v1]) (cs' := (W_Mo gm)) (q := (2, .null, 0, 0, 0)) lk_Mo_360 (r_Mo_isDoor N gm a0 v1 e2) rfl rfl rfl rfl rfl (Or.inl ⟨12, _, _, rfl, rfl, rfl⟩) rfl rfl (sc_Mo_Mo_0 gm) rfl rfl (pc_Mo_Mo_0 gm gm) ?_
  refine sv_Q.b rfl (fun c3 => ?_) (fun c3 => ?_)
  · refine sv_Q.s (σ' := (20, [some (.ref 0), some (.int a0), some (.int a1)], [.int (-2 : Int32)], (W_Mo gm))) 1 rfl ?_
    exact sv_Q.z ⟨True, rfl, trivial, rfl⟩
  · refine sv_Q.s (σ' := (12, [some (.ref 0), some (.int a0), some (.int a1)], [.long (1 : Int64), .long (0 : Int64), .long ((a1).toInt64)], (W_Mo gm))) 4 rfl ?_
    refine sv_Q.S (ps := []) (rest := []) (cs1 := []) (cs2 := []) (st' := [.int (F_Mo_in ((a1).toInt64) (0 : Int64) (1 : Int64))]) (cs' := (W_Mo gm)) (q := (12, .null, 0, 0, 0)) lk_Mo_97 (t_Mo_in ((a1).toInt64) (0 : Int64) (1 : Int64)) rfl rfl rfl rfl rfl rfl rfl rfl rfl rfl (sv_pt_nil _ _) ?_
    refine sv_Q.b rfl (fun c4 => ?_) (fun c4 => ?_)
    · refine sv_Q.s (σ' := (30, [some (.ref 0), some (.int a0), some (.int a1)], [.int a1, .int (((gm 0 11) >>> (a0 &&& 31)) &&& (1 : Int32))], (W_Mo gm))) 7 rfl ?_
      refine sv_Q.lo (fun v9 => (49, [some (.ref 0), none, none], [], (W_Mo v9))) (fun v9 => ?_) ?_
      · refine sv_Q.s (σ' := (54, [some (.ref 0), none, none], [.int (v9 0 11), .ref 0], (W_Mo v9))) 3 rfl ?_
        refine sv_Q.o (fun v10 e11 => ?_)
        refine sv_Q.V (b := 0) (av := [.int (v9 0 11)]) (ps := [0, 1, 2, 3, 4, 5, 6, 7, 8, 9, 10, 11, 12, 13, 14, 15, 16, 17, 18, 19, 20, 21, 22]) (rest := []) (cs1 := (W_Mo v9)) (cs2 := (W_Mo v9)) (st' := [.int v10]) (cs' := (W_Mo v9)) (q := (54, .null, 0, 0, 0)) lk_Mo_357 (r_Mo_twosNear N v9 (v9 0 11) v10 e11) rfl rfl rfl rfl rfl (Or.inl ⟨12, _, _, rfl, rfl, rfl⟩) rfl rfl (sc_Mo_Mo_0 v9) rfl rfl (pc_Mo_Mo_0 v9 v9) ?_
        exact sv_Q.z ⟨True, rfl, trivial, rfl⟩
      · refine sv_Q.b rfl (fun c5 => ?_) (fun c5 => ?_)
        · refine sv_Q.f (lo' := [some (.ref 0), none, none]) ⟨rfl, trivial⟩ ?_
          exact sv_Q.z rfl
        · refine sv_Q.s (σ' := (34, [some (.ref 0), some (.int a0), some (.int a1)], [.ref 0], (W_Mo gm))) 1 rfl ?_
          refine sv_Q.o (fun v6 e7 => ?_)
          refine sv_Q.V (b := 0) (av := []) (ps := [0, 1, 2, 3, 4, 5, 6, 7, 8, 9, 10, 11, 12, 13, 14, 15, 16, 17, 18, 19, 20, 21, 22]) (rest := []) (cs1 := (W_Mo gm)) (cs2 := (W_Mo v6)) (st' := []) (cs' := (W_Mo v6)) (q := (34, .null, 0, 0, 0)) lk_Mo_343 (r_Mo_keeps N gm v6 e7) rfl rfl rfl rfl rfl (Or.inl ⟨12, _, _, rfl, rfl, rfl⟩) rfl rfl (sc_Mo_Mo_0 gm) rfl rfl (pc_Mo_Mo_0 gm v6) ?_
          refine sv_Q.s (σ' := (49, [some (.ref 0), some (.int a0), some (.int a1)], [], (W_Mo (ss v6 11 ((v6 0 11) ^^^ ((1 : Int32) <<< (a0 &&& 31))))))) 8 rfl ?_
          refine sv_Q.go (fun gm_8 => (49, [some (.ref 0), some (.int a0), some (.int a1)], [], (W_Mo gm_8))) (fun gm_8 => ?_)
          refine sv_Q.f (lo' := [some (.ref 0), none, none]) ⟨rfl, trivial⟩ ?_
          exact sv_Q.z rfl
    · refine sv_Q.s (σ' := (20, [some (.ref 0), some (.int a0), some (.int a1)], [.int (-2 : Int32)], (W_Mo gm))) 1 rfl ?_
      exact sv_Q.z ⟨True, rfl, trivial, rfl⟩
def L_Mo_freeDoors_13 (N : Nat) : Nat → Int32 → Int32 → Int32 → (Nat → Nat → Int32) → Option (Int32)
  | 0, _, _, _, _ => none
  | n + 1, x1, x2, x3, gm => (if (6 : Int32) ≤ x3 then (some x1) else (Option.bind (F_Mo_isDoor N x3 gm) fun (v4 : Int32) => (if v4 = 0 then (L_Mo_freeDoors_13 N n x1 x2 (x3 + (1 : Int32)) gm) else (Option.bind (F_Mo_twosNear N ((gm 0 11) ||| ((1 : Int32) <<< (x3 &&& 31))) gm) fun (v7 : Int32) => (if x2 < v7 then (L_Mo_freeDoors_13 N n x1 x2 (x3 + (1 : Int32)) gm) else (L_Mo_freeDoors_13 N n (x1 ||| ((1 : Int32) <<< (x3 &&& 31))) x2 (x3 + (1 : Int32)) gm))))))
set_option maxHeartbeats 4000000 in
set_option maxRecDepth 100000 in
theorem l_Mo_freeDoors_13 {X : Nat × (Nat → Int32)} (N : Nat) : ∀ (n : Nat) (x1 : Int32) (x2 : Int32) (x3 : Int32) (gm : Nat → Nat → Int32), sv_Q X 8 M_Mo_freeDoors (13, [some (.ref 0), some (.int x1), some (.int x2), some (.int x3)], [], (W_Mo gm)) (L_Mo_freeDoors_13 N n x1 x2 x3 gm) (fun v σ' => σ' = (55, [none, some (.int v), none, none], [], (W_Mo gm))) := by
  intro n
  induction n with
  | zero => intro x1 x2 x3 gm; unfold L_Mo_freeDoors_13; exact sv_Q.non
  | succ n ih =>
    intro x1 x2 x3 gm
    unfold L_Mo_freeDoors_13
    refine sv_Q.s (σ' := (16, [some (.ref 0), some (.int x1), some (.int x2), some (.int x3)], [.int (6 : Int32), .int x3], (W_Mo gm))) 2 rfl ?_
    refine sv_Q.b rfl (fun c3 => ?_) (fun c3 => ?_)
    · refine sv_Q.f (lo' := [none, some (.int x1), none, none]) ⟨rfl, trivial⟩ ?_
      exact sv_Q.z rfl
    · refine sv_Q.s (σ' := (21, [some (.ref 0), some (.int x1), some (.int x2), some (.int x3)], [.int x3, .ref 0], (W_Mo gm))) 2 rfl ?_
      refine sv_Q.o (fun v4 e5 => ?_)
      refine sv_Q.V (b := 0) (av := [.int x3]) (ps := [0, 1, 2, 3, 4, 5, 6, 7, 8, 9, 10, 11, 12, 13, 14, 15, 16, 17, 18, 19, 20, 21, 22]) (rest := []) (cs1 := (W_Mo gm)) (cs2 := (W_Mo gm)) (st' := [.int v4]) (cs' := (W_Mo gm)) (q := (21, .null, 0, 0, 0)) lk_Mo_360 (r_Mo_isDoor N gm x3 v4 e5) rfl rfl rfl rfl rfl (Or.inl ⟨12, _, _, rfl, rfl, rfl⟩) rfl rfl (sc_Mo_Mo_0 gm) rfl rfl (pc_Mo_Mo_0 gm gm) ?_
      refine sv_Q.b rfl (fun c6 => ?_) (fun c6 => ?_)
      · refine sv_Q.s (σ' := (13, [some (.ref 0), some (.int x1), some (.int x2), some (.int (x3 + (1 : Int32)))], [], (W_Mo gm))) 2 rfl ?_
        exact ih x1 x2 (x3 + (1 : Int32)) gm
      · refine sv_Q.s (σ' := (36, [some (.ref 0), some (.int x1), some (.int x2), some (.int x3)], [.int ((gm 0 11) ||| ((1 : Int32) <<< (x3 &&& 31))), .ref 0], (W_Mo gm))) 7 rfl ?_
        refine sv_Q.o (fun v7 e8 => ?_)
        refine sv_Q.V (b := 0) (av := [.int ((gm 0 11) ||| ((1 : Int32) <<< (x3 &&& 31)))]) (ps := [0, 1, 2, 3, 4, 5, 6, 7, 8, 9, 10, 11, 12, 13, 14, 15, 16, 17, 18, 19, 20, 21, 22]) (rest := []) (cs1 := (W_Mo gm)) (cs2 := (W_Mo gm)) (st' := [.int v7]) (cs' := (W_Mo gm)) (q := (36, .null, 0, 0, 0)) lk_Mo_357 (r_Mo_twosNear N gm ((gm 0 11) ||| ((1 : Int32) <<< (x3 &&& 31))) v7 e8) rfl rfl rfl rfl rfl (Or.inl ⟨12, _, _, rfl, rfl, rfl⟩) rfl rfl (sc_Mo_Mo_0 gm) rfl rfl (pc_Mo_Mo_0 gm gm) ?_
        refine sv_Q.s (σ' := (40, [some (.ref 0), some (.int x1), some (.int x2), some (.int x3)], [.int x2, .int v7], (W_Mo gm))) 1 rfl ?_
        refine sv_Q.b rfl (fun c9 => ?_) (fun c9 => ?_)
        · refine sv_Q.s (σ' := (13, [some (.ref 0), some (.int x1), some (.int x2), some (.int (x3 + (1 : Int32)))], [], (W_Mo gm))) 2 rfl ?_
          exact ih x1 x2 (x3 + (1 : Int32)) gm
        · refine sv_Q.s (σ' := (13, [some (.ref 0), some (.int (x1 ||| ((1 : Int32) <<< (x3 &&& 31)))), some (.int x2), some (.int (x3 + (1 : Int32)))], [], (W_Mo gm))) 8 rfl ?_
          exact ih (x1 ||| ((1 : Int32) <<< (x3 &&& 31))) x2 (x3 + (1 : Int32)) gm
def F_Mo_freeDoors (N : Nat) (gm : Nat → Nat → Int32) : Option (Int32) := (Option.bind (F_Mo_twosNear N (gm 0 11) gm) fun (v1 : Int32) => (Option.bind (L_Mo_freeDoors_13 N N (0 : Int32) v1 (0 : Int32) gm) fun (v10 : Int32) => (some v10)))
set_option maxHeartbeats 4000000 in
set_option maxRecDepth 100000 in
theorem r_Mo_freeDoors {X : Nat × (Nat → Int32)} (N : Nat) (gm : Nat → Nat → Int32) : ∀ x, (F_Mo_freeDoors N gm) = some x → sv_R X 9 M_Mo_freeDoors [.ref 0] (W_Mo gm) (some (.int x)) (W_Mo gm) := by
  refine sv_Q.R (res := (fun (x : Int32) => (some (.int x), (W_Mo gm)))) g_Mo_freeDoors rfl ?_
  unfold F_Mo_freeDoors
  refine sv_Q.s (σ' := (7, [some (.ref 0), some (.int (0 : Int32)), none, none], [.int (gm 0 11), .ref 0], (W_Mo gm))) 5 rfl ?_
  refine sv_Q.o (fun v1 e2 => ?_)
  refine sv_Q.V (b := 0) (av := [.int (gm 0 11)]) (ps := [0, 1, 2, 3, 4, 5, 6, 7, 8, 9, 10, 11, 12, 13, 14, 15, 16, 17, 18, 19, 20, 21, 22]) (rest := []) (cs1 := (W_Mo gm)) (cs2 := (W_Mo gm)) (st' := [.int v1]) (cs' := (W_Mo gm)) (q := (7, .null, 0, 0, 0)) lk_Mo_357 (r_Mo_twosNear N gm (gm 0 11) v1 e2) rfl rfl rfl rfl rfl (Or.inl ⟨12, _, _, rfl, rfl, rfl⟩) rfl rfl (sc_Mo_Mo_0 gm) rfl rfl (pc_Mo_Mo_0 gm gm) ?_
  refine sv_Q.s (σ' := (13, [some (.ref 0), some (.int (0 : Int32)), some (.int v1), some (.int (0 : Int32))], [], (W_Mo gm))) 3 rfl ?_
  refine sv_Q.lo (fun v10 => (55, [none, some (.int v10), none, none], [], (W_Mo gm))) (fun v10 => ?_) (l_Mo_freeDoors_13 N N (0 : Int32) v1 (0 : Int32) gm)
  · refine sv_Q.s (σ' := (56, [none, some (.int v10), none, none], [.int v10], (W_Mo gm))) 1 rfl ?_
    exact sv_Q.z ⟨True, rfl, trivial, rfl⟩
def L_Mo_bits_4 (N : Nat) : Nat → Int32 → Int32 → Option (Int32)
  | 0, _, _ => none
  | n + 1, x1, x2 => (if x2 = 0 then (some x1) else (L_Mo_bits_4 N n (x1 + (1 : Int32)) (x2 &&& (x2 - (1 : Int32)))))
theorem l_Mo_bits_4 {X : Nat × (Nat → Int32)} (N : Nat) : ∀ (n : Nat) (x1 : Int32) (x2 : Int32), sv_Q X 0 M_Mo_bits (4, [none, some (.int x1), some (.int x2)], [], []) (L_Mo_bits_4 N n x1 x2) (fun v σ' => σ' = (20, [none, some (.int v), none], [], [])) := by
  intro n
  induction n with
  | zero => intro x1 x2; unfold L_Mo_bits_4; exact sv_Q.non
  | succ n ih =>
    intro x1 x2
    unfold L_Mo_bits_4
    refine sv_Q.s (σ' := (5, [none, some (.int x1), some (.int x2)], [.int x2], [])) 1 rfl ?_
    refine sv_Q.b rfl (fun c1 => ?_) (fun c1 => ?_)
    · refine sv_Q.f (lo' := [none, some (.int x1), none]) ⟨rfl, trivial⟩ ?_
      exact sv_Q.z rfl
    · refine sv_Q.s (σ' := (4, [none, some (.int (x1 + (1 : Int32))), some (.int (x2 &&& (x2 - (1 : Int32))))], [], [])) 8 rfl ?_
      exact ih (x1 + (1 : Int32)) (x2 &&& (x2 - (1 : Int32))) 
def F_Mo_bits (N : Nat) (a0 : Int32) : Option (Int32) := (Option.bind (L_Mo_bits_4 N N (0 : Int32) a0) fun (v2 : Int32) => (some v2))
theorem r_Mo_bits {X : Nat × (Nat → Int32)} (N : Nat) (a0 : Int32) : ∀ x, (F_Mo_bits N a0) = some x → sv_R X 1 M_Mo_bits [.int a0] [] (some (.int x)) [] := by
  refine sv_Q.R (res := (fun (x : Int32) => (some (.int x), []))) g_Mo_bits rfl ?_
  unfold F_Mo_bits
  refine sv_Q.s (σ' := (4, [some (.int a0), some (.int (0 : Int32)), some (.int a0)], [], [])) 4 rfl ?_
  refine sv_Q.f (lo' := [none, some (.int (0 : Int32)), some (.int a0)]) ⟨rfl, ⟨rfl, trivial⟩⟩ ?_
  refine sv_Q.lo (fun v2 => (20, [none, some (.int v2), none], [], [])) (fun v2 => ?_) (l_Mo_bits_4 N N (0 : Int32) a0 )
  · refine sv_Q.s (σ' := (21, [none, some (.int v2), none], [.int v2], [])) 1 rfl ?_
    exact sv_Q.z ⟨True, rfl, trivial, rfl⟩
def L_Mo_doors_33 (N : Nat) : Nat → Int32 → Int32 → (Nat → Nat → Int32) → Option (Int32)
  | 0, _, _, _ => none
  | n + 1, x2, x3, gm => (if (6 : Int32) ≤ x3 then (some x2) else (Option.bind (F_Mo_isDoor N x3 gm) fun (v5 : Int32) => (if v5 = 0 then (L_Mo_doors_33 N n (x2 ||| (0 : Int32)) (x3 + (1 : Int32)) gm) else (L_Mo_doors_33 N n (x2 ||| ((1 : Int32) <<< (x3 &&& 31))) (x3 + (1 : Int32)) gm))))
set_option maxHeartbeats 4000000 in
set_option maxRecDepth 100000 in
theorem l_Mo_doors_33 {X : Nat × (Nat → Int32)} (N : Nat) : ∀ (n : Nat) (x2 : Int32) (x3 : Int32) (gm : Nat → Nat → Int32), sv_Q X 9 M_Mo_doors (33, [some (.ref 0), none, some (.int x2), some (.int x3), none], [], (W_Mo gm)) (L_Mo_doors_33 N n x2 x3 gm) (fun v σ' => σ' = (63, [some (.ref 0), none, some (.int v), none, none], [], (W_Mo gm))) := by
  intro n
  induction n with
  | zero => intro x2 x3 gm; unfold L_Mo_doors_33; exact sv_Q.non
  | succ n ih =>
    intro x2 x3 gm
    unfold L_Mo_doors_33
    refine sv_Q.s (σ' := (36, [some (.ref 0), none, some (.int x2), some (.int x3), none], [.int (6 : Int32), .int x3], (W_Mo gm))) 2 rfl ?_
    refine sv_Q.b rfl (fun c4 => ?_) (fun c4 => ?_)
    · refine sv_Q.f (lo' := [some (.ref 0), none, some (.int x2), none, none]) ⟨rfl, ⟨rfl, trivial⟩⟩ ?_
      exact sv_Q.z rfl
    · refine sv_Q.s (σ' := (42, [some (.ref 0), none, some (.int x2), some (.int x3), none], [.int x3, .ref 0, .int x2], (W_Mo gm))) 3 rfl ?_
      refine sv_Q.o (fun v5 e6 => ?_)
      refine sv_Q.V (b := 0) (av := [.int x3]) (ps := [0, 1, 2, 3, 4, 5, 6, 7, 8, 9, 10, 11, 12, 13, 14, 15, 16, 17, 18, 19, 20, 21, 22]) (rest := [.int x2]) (cs1 := (W_Mo gm)) (cs2 := (W_Mo gm)) (st' := [.int v5, .int x2]) (cs' := (W_Mo gm)) (q := (42, .null, 0, 0, 0)) lk_Mo_360 (r_Mo_isDoor N gm x3 v5 e6) rfl rfl rfl rfl rfl (Or.inl ⟨12, _, _, rfl, rfl, rfl⟩) rfl rfl (sc_Mo_Mo_0 gm) rfl rfl (pc_Mo_Mo_0 gm gm) ?_
      refine sv_Q.b rfl (fun c7 => ?_) (fun c7 => ?_)
      · refine sv_Q.s (σ' := (33, [some (.ref 0), none, some (.int (x2 ||| (0 : Int32))), some (.int (x3 + (1 : Int32))), none], [], (W_Mo gm))) 5 rfl ?_
        exact ih (x2 ||| (0 : Int32)) (x3 + (1 : Int32)) gm
      · refine sv_Q.s (σ' := (33, [some (.ref 0), none, some (.int (x2 ||| ((1 : Int32) <<< (x3 &&& 31)))), some (.int (x3 + (1 : Int32))), none], [], (W_Mo gm))) 8 rfl ?_
        exact ih (x2 ||| ((1 : Int32) <<< (x3 &&& 31))) (x3 + (1 : Int32)) gm
def L_Mo_doors_68 (N : Nat) : Nat → Int32 → Int32 → Int32 → (Nat → Nat → Int32) → Option (Int32)
  | 0, _, _, _, _ => none
  | n + 1, x2, x3, x4, gm => (if x2 < x4 then (some x3) else (if ¬ (x4 &&& (x2 ^^^ (-1 : Int32))) = 0 then (L_Mo_doors_68 N n x2 x3 (x4 + (1 : Int32)) gm) else (Option.bind (F_Mo_twosNear N x4 gm) fun (v11 : Int32) => (if v11 ≤ 0 then (if x3 = (-1 : Int32) then (L_Mo_doors_68 N n x2 x4 (x4 + (1 : Int32)) gm) else (Option.bind (F_Mo_bits N x4) fun (v15 : Int32) => (Option.bind (F_Mo_bits N x3) fun (v17 : Int32) => (if v15 ≤ v17 then (L_Mo_doors_68 N n x2 x3 (x4 + (1 : Int32)) gm) else (L_Mo_doors_68 N n x2 x4 (x4 + (1 : Int32)) gm))))) else (L_Mo_doors_68 N n x2 x3 (x4 + (1 : Int32)) gm)))))
set_option maxHeartbeats 4000000 in
set_option maxRecDepth 100000 in
theorem l_Mo_doors_68 {X : Nat × (Nat → Int32)} (N : Nat) : ∀ (n : Nat) (x2 : Int32) (x3 : Int32) (x4 : Int32) (gm : Nat → Nat → Int32), sv_Q X 9 M_Mo_doors (68, [some (.ref 0), none, some (.int x2), some (.int x3), some (.int x4)], [], (W_Mo gm)) (L_Mo_doors_68 N n x2 x3 x4 gm) (fun v σ' => σ' = (121, [none, none, none, some (.int v), none], [], (W_Mo gm))) := by
  intro n
  induction n with
  | zero => intro x2 x3 x4 gm; unfold L_Mo_doors_68; exact sv_Q.non
  | succ n ih =>
    intro x2 x3 x4 gm
    unfold L_Mo_doors_68
    refine sv_Q.s (σ' := (71, [some (.ref 0), none, some (.int x2), some (.int x3), some (.int x4)], [.int x2, .int x4], (W_Mo gm))) 2 rfl ?_
    refine sv_Q.b rfl (fun c9 => ?_) (fun c9 => ?_)
    · refine sv_Q.f (lo' := [none, none, none, some (.int x3), none]) ⟨rfl, trivial⟩ ?_
      exact sv_Q.z rfl
    · refine sv_Q.s (σ' := (80, [some (.ref 0), none, some (.int x2), some (.int x3), some (.int x4)], [.int (x4 &&& (x2 ^^^ (-1 : Int32)))], (W_Mo gm))) 5 rfl ?_
      refine sv_Q.b rfl (fun c10 => ?_) (fun c10 => ?_)
      · refine sv_Q.s (σ' := (68, [some (.ref 0), none, some (.int x2), some (.int x3), some (.int (x4 + (1 : Int32)))], [], (W_Mo gm))) 2 rfl ?_
        exact ih x2 x3 (x4 + (1 : Int32)) gm
      · refine sv_Q.s (σ' := (86, [some (.ref 0), none, some (.int x2), some (.int x3), some (.int x4)], [.int x4, .ref 0], (W_Mo gm))) 2 rfl ?_
        refine sv_Q.o (fun v11 e12 => ?_)
        refine sv_Q.V (b := 0) (av := [.int x4]) (ps := [0, 1, 2, 3, 4, 5, 6, 7, 8, 9, 10, 11, 12, 13, 14, 15, 16, 17, 18, 19, 20, 21, 22]) (rest := []) (cs1 := (W_Mo gm)) (cs2 := (W_Mo gm)) (st' := [.int v11]) (cs' := (W_Mo gm)) (q := (86, .null, 0, 0, 0)) lk_Mo_357 (r_Mo_twosNear N gm x4 v11 e12) rfl rfl rfl rfl rfl (Or.inl ⟨12, _, _, rfl, rfl, rfl⟩) rfl rfl (sc_Mo_Mo_0 gm) rfl rfl (pc_Mo_Mo_0 gm gm) ?_
        refine sv_Q.b rfl (fun c13 => ?_) (fun c13 => ?_)
        · refine sv_Q.s (σ' := (97, [some (.ref 0), none, some (.int x2), some (.int x3), some (.int x4)], [.int (-1 : Int32), .int x3], (W_Mo gm))) 2 rfl ?_
          refine sv_Q.b rfl (fun c14 => ?_) (fun c14 => ?_)
          · refine sv_Q.s (σ' := (68, [some (.ref 0), none, some (.int x2), some (.int x4), some (.int (x4 + (1 : Int32)))], [], (W_Mo gm))) 4 rfl ?_
            exact ih x2 x4 (x4 + (1 : Int32)) gm
          · refine sv_Q.s (σ' := (102, [some (.ref 0), none, some (.int x2), some (.int x3), some (.int x4)], [.int x4], (W_Mo gm))) 1 rfl ?_
            refine sv_Q.o (fun v15 e16 => ?_)
            refine sv_Q.S (ps := []) (rest := []) (cs1 := []) (cs2 := []) (st' := [.int v15]) (cs' := (W_Mo gm)) (q := (102, .null, 0, 0, 0)) lk_Mo_366 (r_Mo_bits N x4 v15 e16) rfl rfl rfl rfl rfl rfl rfl rfl rfl rfl (sv_pt_nil _ _) ?_
            refine sv_Q.s (σ' := (106, [some (.ref 0), none, some (.int x2), some (.int x3), some (.int x4)], [.int x3, .int v15], (W_Mo gm))) 1 rfl ?_
            refine sv_Q.o (fun v17 e18 => ?_)
            refine sv_Q.S (ps := []) (rest := [.int v15]) (cs1 := []) (cs2 := []) (st' := [.int v17, .int v15]) (cs' := (W_Mo gm)) (q := (106, .null, 0, 0, 0)) lk_Mo_366 (r_Mo_bits N x3 v17 e18) rfl rfl rfl rfl rfl rfl rfl rfl rfl rfl (sv_pt_nil _ _) ?_
            refine sv_Q.b rfl (fun c19 => ?_) (fun c19 => ?_)
            · refine sv_Q.s (σ' := (68, [some (.ref 0), none, some (.int x2), some (.int x3), some (.int (x4 + (1 : Int32)))], [], (W_Mo gm))) 2 rfl ?_
              exact ih x2 x3 (x4 + (1 : Int32)) gm
            · refine sv_Q.s (σ' := (68, [some (.ref 0), none, some (.int x2), some (.int x4), some (.int (x4 + (1 : Int32)))], [], (W_Mo gm))) 4 rfl ?_
              exact ih x2 x4 (x4 + (1 : Int32)) gm
        · refine sv_Q.s (σ' := (68, [some (.ref 0), none, some (.int x2), some (.int x3), some (.int (x4 + (1 : Int32)))], [], (W_Mo gm))) 3 rfl ?_
          exact ih x2 x3 (x4 + (1 : Int32)) gm
def F_Mo_doors (N : Nat) (a0 : Int32) (gm : Nat → Nat → Int32) : Option (Int32) := (if (gm 0 1) = 0 then (some (-2 : Int32)) else (if ¬ (F_Mo_in ((a0).toInt64) (0 : Int64) (1 : Int64)) = 0 then (if ¬ a0 = 0 then (Option.bind (L_Mo_doors_33 N N (0 : Int32) (0 : Int32) gm) fun (v8 : Int32) => (Option.bind (L_Mo_doors_68 N N v8 (-1 : Int32) (0 : Int32) gm) fun (v20 : Int32) => (some v20))) else (Option.bind (F_Mo_freeDoors N gm) fun (v21 : Int32) => (some v21))) else (some (-2 : Int32))))
set_option maxHeartbeats 4000000 in
set_option maxRecDepth 100000 in
theorem r_Mo_doors {X : Nat × (Nat → Int32)} (N : Nat) (gm : Nat → Nat → Int32) (a0 : Int32) : ∀ x, (F_Mo_doors N a0 gm) = some x → sv_R X 10 M_Mo_doors [.ref 0, .int a0] (W_Mo gm) (some (.int x)) (W_Mo gm) := by
  refine sv_Q.R (res := (fun (x : Int32) => (some (.int x), (W_Mo gm)))) g_Mo_doors rfl ?_
  unfold F_Mo_doors
  refine sv_Q.s (σ' := (4, [some (.ref 0), some (.int a0), none, none, none], [.int (gm 0 1)], (W_Mo gm))) 2 rfl ?_
  refine sv_Q.b rfl (fun c1 => ?_) (fun c1 => ?_)
  · refine sv_Q.s (σ' := (19, [some (.ref 0), some (.int a0), none, none, none], [.int (-2 : Int32)], (W_Mo gm))) 1 rfl ?_
    exact sv_Q.z ⟨True, rfl, trivial, rfl⟩
  · refine sv_Q.s (σ' := (11, [some (.ref 0), some (.int a0), none, none, none], [.long (1 : Int64), .long (0 : Int64), .long ((a0).toInt64)], (W_Mo gm))) 4 rfl ?_
    refine sv_Q.S (ps := []) (rest := []) (cs1 := []) (cs2 := []) (st' := [.int (F_Mo_in ((a0).toInt64) (0 : Int64) (1 : Int64))]) (cs' := (W_Mo gm)) (q := (11, .null, 0, 0, 0)) lk_Mo_97 (t_Mo_in ((a0).toInt64) (0 : Int64) (1 : Int64)) rfl rfl rfl rfl rfl rfl rfl rfl rfl rfl (sv_pt_nil _ _) ?_
    refine sv_Q.b rfl (fun c2 => ?_) (fun c2 => ?_)
    · refine sv_Q.s (σ' := (21, [some (.ref 0), some (.int a0), none, none, none], [.int a0], (W_Mo gm))) 1 rfl ?_
      refine sv_Q.b rfl (fun c3 => ?_) (fun c3 => ?_)
      · refine sv_Q.s (σ' := (33, [some (.ref 0), some (.int a0), some (.int (0 : Int32)), some (.int (0 : Int32)), none], [], (W_Mo gm))) 4 rfl ?_
        refine sv_Q.f (lo' := [some (.ref 0), none, some (.int (0 : Int32)), some (.int (0 : Int32)), none]) ⟨rfl, ⟨rfl, ⟨rfl, trivial⟩⟩⟩ ?_
        refine sv_Q.lo (fun v8 => (63, [some (.ref 0), none, some (.int v8), none, none], [], (W_Mo gm))) (fun v8 => ?_) (l_Mo_doors_33 N N (0 : Int32) (0 : Int32) gm)
        · refine sv_Q.s (σ' := (68, [some (.ref 0), none, some (.int v8), some (.int (-1 : Int32)), some (.int (0 : Int32))], [], (W_Mo gm))) 4 rfl ?_
          refine sv_Q.lo (fun v20 => (121, [none, none, none, some (.int v20), none], [], (W_Mo gm))) (fun v20 => ?_) (l_Mo_doors_68 N N v8 (-1 : Int32) (0 : Int32) gm)
          · refine sv_Q.s (σ' := (122, [none, none, none, some (.int v20), none], [.int v20], (W_Mo gm))) 1 rfl ?_
            exact sv_Q.z ⟨True, rfl, trivial, rfl⟩
      · refine sv_Q.s (σ' := (25, [some (.ref 0), some (.int a0), none, none, none], [.ref 0], (W_Mo gm))) 1 rfl ?_
        refine sv_Q.o (fun v21 e22 => ?_)
        refine sv_Q.V (b := 0) (av := []) (ps := [0, 1, 2, 3, 4, 5, 6, 7, 8, 9, 10, 11, 12, 13, 14, 15, 16, 17, 18, 19, 20, 21, 22]) (rest := []) (cs1 := (W_Mo gm)) (cs2 := (W_Mo gm)) (st' := [.int v21]) (cs' := (W_Mo gm)) (q := (25, .null, 0, 0, 0)) lk_Mo_363 (r_Mo_freeDoors N gm v21 e22) rfl rfl rfl rfl rfl (Or.inl ⟨12, _, _, rfl, rfl, rfl⟩) rfl rfl (sc_Mo_Mo_0 gm) rfl rfl (pc_Mo_Mo_0 gm gm) ?_
        exact sv_Q.z ⟨True, rfl, trivial, rfl⟩
    · refine sv_Q.s (σ' := (19, [some (.ref 0), some (.int a0), none, none, none], [.int (-2 : Int32)], (W_Mo gm))) 1 rfl ?_
      exact sv_Q.z ⟨True, rfl, trivial, rfl⟩
def F_Mo_isStack (N : Nat) (a0 : Int32) (a1 : Int32) (a2 : Int32) (gm : Nat → Nat → Int32) : Option (Int32) := (if (gm 0 1) = 0 then (some (0 : Int32)) else (Option.bind (F_Mo_isBay N a0 gm) fun (v2 : Int32) => (if v2 = 0 then (some (0 : Int32)) else (if sv_in (1 : Int32) 90 then (if (F_Mo_in ((a1).toInt64) (0 : Int64) ((((gm 1 ((1 : Int32)).toNatClampNeg) - (1 : Int32))).toInt64)) = 0 then (some (0 : Int32)) else (if (F_Mo_in ((a2).toInt64) (0 : Int64) (1 : Int64)) = 0 then (some (0 : Int32)) else (some (1 : Int32)))) else none))))
set_option maxHeartbeats 4000000 in
set_option maxRecDepth 100000 in
theorem r_Mo_isStack {X : Nat × (Nat → Int32)} (N : Nat) (gm : Nat → Nat → Int32) (a0 : Int32) (a1 : Int32) (a2 : Int32) : ∀ x, (F_Mo_isStack N a0 a1 a2 gm) = some x → sv_R X 3 M_Mo_isStack [.ref 0, .int a0, .int a1, .int a2] (W_Mo gm) (some (.int x)) (W_Mo gm) := by
  refine sv_Q.R (res := (fun (x : Int32) => (some (.int x), (W_Mo gm)))) g_Mo_isStack rfl ?_
  unfold F_Mo_isStack
  refine sv_Q.s (σ' := (4, [some (.ref 0), some (.int a0), some (.int a1), some (.int a2)], [.int (gm 0 1)], (W_Mo gm))) 2 rfl ?_
  refine sv_Q.b rfl (fun c1 => ?_) (fun c1 => ?_)
  · refine sv_Q.s (σ' := (48, [some (.ref 0), some (.int a0), some (.int a1), some (.int a2)], [.int (0 : Int32)], (W_Mo gm))) 1 rfl ?_
    exact sv_Q.z ⟨sv_01 (0 : Int32), rfl, Or.inl rfl, rfl⟩
  · refine sv_Q.s (σ' := (9, [some (.ref 0), some (.int a0), some (.int a1), some (.int a2)], [.int a0, .ref 0], (W_Mo gm))) 2 rfl ?_
    refine sv_Q.o (fun v2 e3 => ?_)
    refine sv_Q.V (b := 0) (av := [.int a0]) (ps := [0, 1, 2, 3, 4, 5, 6, 7, 8, 9, 10, 11, 12, 13, 14, 15, 16, 17, 18, 19, 20, 21, 22]) (rest := []) (cs1 := (W_Mo gm)) (cs2 := (W_Mo gm)) (st' := [.int v2]) (cs' := (W_Mo gm)) (q := (9, .null, 0, 0, 0)) lk_Mo_369 (r_Mo_isBay N gm a0 v2 e3) rfl rfl rfl rfl rfl (Or.inl ⟨12, _, _, rfl, rfl, rfl⟩) rfl rfl (sc_Mo_Mo_0 gm) rfl rfl (pc_Mo_Mo_0 gm gm) ?_
    refine sv_Q.b rfl (fun c4 => ?_) (fun c4 => ?_)
    · refine sv_Q.s (σ' := (48, [some (.ref 0), some (.int a0), some (.int a1), some (.int a2)], [.int (0 : Int32)], (W_Mo gm))) 1 rfl ?_
      exact sv_Q.z ⟨sv_01 (0 : Int32), rfl, Or.inl rfl, rfl⟩
    · refine sv_Q.s (σ' := (23, [some (.ref 0), some (.int a0), some (.int a1), some (.int a2)], [.int (1 : Int32), .ref 1, .long (0 : Int64), .long ((a1).toInt64)], (W_Mo gm))) 6 rfl ?_
      refine sv_Q.g (σ' := (24, [some (.ref 0), some (.int a0), some (.int a1), some (.int a2)], [.int (gm 1 ((1 : Int32)).toNatClampNeg), .long (0 : Int64), .long ((a1).toInt64)], (W_Mo gm))) (c := sv_in (1 : Int32) 90) rfl (fun c5 => ?_)
      refine sv_Q.s (σ' := (27, [some (.ref 0), some (.int a0), some (.int a1), some (.int a2)], [.long ((((gm 1 ((1 : Int32)).toNatClampNeg) - (1 : Int32))).toInt64), .long (0 : Int64), .long ((a1).toInt64)], (W_Mo gm))) 3 rfl ?_
      refine sv_Q.S (ps := []) (rest := []) (cs1 := []) (cs2 := []) (st' := [.int (F_Mo_in ((a1).toInt64) (0 : Int64) ((((gm 1 ((1 : Int32)).toNatClampNeg) - (1 : Int32))).toInt64))]) (cs' := (W_Mo gm)) (q := (27, .null, 0, 0, 0)) lk_Mo_97 (t_Mo_in ((a1).toInt64) (0 : Int64) ((((gm 1 ((1 : Int32)).toNatClampNeg) - (1 : Int32))).toInt64)) rfl rfl rfl rfl rfl rfl rfl rfl rfl rfl (sv_pt_nil _ _) ?_
      refine sv_Q.b rfl (fun c6 => ?_) (fun c6 => ?_)
      · refine sv_Q.s (σ' := (48, [some (.ref 0), some (.int a0), some (.int a1), some (.int a2)], [.int (0 : Int32)], (W_Mo gm))) 1 rfl ?_
        exact sv_Q.z ⟨sv_01 (0 : Int32), rfl, Or.inl rfl, rfl⟩
      · refine sv_Q.s (σ' := (37, [some (.ref 0), some (.int a0), some (.int a1), some (.int a2)], [.long (1 : Int64), .long (0 : Int64), .long ((a2).toInt64)], (W_Mo gm))) 4 rfl ?_
        refine sv_Q.S (ps := []) (rest := []) (cs1 := []) (cs2 := []) (st' := [.int (F_Mo_in ((a2).toInt64) (0 : Int64) (1 : Int64))]) (cs' := (W_Mo gm)) (q := (37, .null, 0, 0, 0)) lk_Mo_97 (t_Mo_in ((a2).toInt64) (0 : Int64) (1 : Int64)) rfl rfl rfl rfl rfl rfl rfl rfl rfl rfl (sv_pt_nil _ _) ?_
        refine sv_Q.b rfl (fun c7 => ?_) (fun c7 => ?_)
        · refine sv_Q.s (σ' := (48, [some (.ref 0), some (.int a0), some (.int a1), some (.int a2)], [.int (0 : Int32)], (W_Mo gm))) 1 rfl ?_
          exact sv_Q.z ⟨sv_01 (0 : Int32), rfl, Or.inl rfl, rfl⟩
        · refine sv_Q.s (σ' := (48, [some (.ref 0), some (.int a0), some (.int a1), some (.int a2)], [.int (1 : Int32)], (W_Mo gm))) 2 rfl ?_
          exact sv_Q.z ⟨sv_01 (1 : Int32), rfl, Or.inr rfl, rfl⟩
def F_Mo_stackAt (N : Nat) (a0 : Int32) (a1 : Int32) (a2 : Int32) (gm : Nat → Nat → Int32) : Option (Int32) := (Option.bind (F_Mo_tiers N gm) fun (v1 : Int32) => (if sv_in (1 : Int32) 90 then (if ¬ a2 = (1 : Int32) then (some ((v1 * (a1 + ((gm 1 ((1 : Int32)).toNatClampNeg) * a0))) + (0 : Int32))) else (if sv_in (2 : Int32) 90 then (some ((v1 * (a1 + ((gm 1 ((1 : Int32)).toNatClampNeg) * a0))) + (gm 1 ((2 : Int32)).toNatClampNeg))) else none)) else none))
set_option maxHeartbeats 4000000 in
set_option maxRecDepth 100000 in
theorem r_Mo_stackAt {X : Nat × (Nat → Int32)} (N : Nat) (gm : Nat → Nat → Int32) (a0 : Int32) (a1 : Int32) (a2 : Int32) : ∀ x, (F_Mo_stackAt N a0 a1 a2 gm) = some x → sv_R X 2 M_Mo_stackAt [.ref 0, .int a0, .int a1, .int a2] (W_Mo gm) (some (.int x)) (W_Mo gm) := by
  refine sv_Q.R (res := (fun (x : Int32) => (some (.int x), (W_Mo gm)))) g_Mo_stackAt rfl ?_
  unfold F_Mo_stackAt
  refine sv_Q.s (σ' := (1, [some (.ref 0), some (.int a0), some (.int a1), some (.int a2)], [.ref 0], (W_Mo gm))) 1 rfl ?_
  refine sv_Q.o (fun v1 e2 => ?_)
  refine sv_Q.V (b := 0) (av := []) (ps := [0, 1, 2, 3, 4, 5, 6, 7, 8, 9, 10, 11, 12, 13, 14, 15, 16, 17, 18, 19, 20, 21, 22]) (rest := []) (cs1 := (W_Mo gm)) (cs2 := (W_Mo gm)) (st' := [.int v1]) (cs' := (W_Mo gm)) (q := (1, .null, 0, 0, 0)) lk_Mo_251 (r_Mo_tiers N gm v1 e2) rfl rfl rfl rfl rfl (Or.inl ⟨12, _, _, rfl, rfl, rfl⟩) rfl rfl (sc_Mo_Mo_0 gm) rfl rfl (pc_Mo_Mo_0 gm gm) ?_
  refine sv_Q.s (σ' := (10, [some (.ref 0), some (.int a0), some (.int a1), some (.int a2)], [.int (1 : Int32), .ref 1, .int a1, .int v1], (W_Mo gm))) 4 rfl ?_
  refine sv_Q.g (σ' := (11, [some (.ref 0), some (.int a0), some (.int a1), some (.int a2)], [.int (gm 1 ((1 : Int32)).toNatClampNeg), .int a1, .int v1], (W_Mo gm))) (c := sv_in (1 : Int32) 90) rfl (fun c3 => ?_)
  refine sv_Q.s (σ' := (17, [some (.ref 0), some (.int a0), some (.int a1), some (.int a2)], [.int (1 : Int32), .int a2, .int (v1 * (a1 + ((gm 1 ((1 : Int32)).toNatClampNeg) * a0)))], (W_Mo gm))) 6 rfl ?_
  refine sv_Q.b rfl (fun c4 => ?_) (fun c4 => ?_)
  · refine sv_Q.s (σ' := (31, [some (.ref 0), some (.int a0), some (.int a1), some (.int a2)], [.int ((v1 * (a1 + ((gm 1 ((1 : Int32)).toNatClampNeg) * a0))) + (0 : Int32))], (W_Mo gm))) 2 rfl ?_
    exact sv_Q.z ⟨True, rfl, trivial, rfl⟩
  · refine sv_Q.s (σ' := (25, [some (.ref 0), some (.int a0), some (.int a1), some (.int a2)], [.int (2 : Int32), .ref 1, .int (v1 * (a1 + ((gm 1 ((1 : Int32)).toNatClampNeg) * a0)))], (W_Mo gm))) 3 rfl ?_
    refine sv_Q.g (σ' := (26, [some (.ref 0), some (.int a0), some (.int a1), some (.int a2)], [.int (gm 1 ((2 : Int32)).toNatClampNeg), .int (v1 * (a1 + ((gm 1 ((1 : Int32)).toNatClampNeg) * a0)))], (W_Mo gm))) (c := sv_in (2 : Int32) 90) rfl (fun c5 => ?_)
    refine sv_Q.s (σ' := (31, [some (.ref 0), some (.int a0), some (.int a1), some (.int a2)], [.int ((v1 * (a1 + ((gm 1 ((1 : Int32)).toNatClampNeg) * a0))) + (gm 1 ((2 : Int32)).toNatClampNeg))], (W_Mo gm))) 2 rfl ?_
    exact sv_Q.z ⟨True, rfl, trivial, rfl⟩
def F_Mo_stackHigh (N : Nat) (a0 : Int32) (gm : Nat → Nat → Int32) : Option (Int32) := (if ¬ a0 = (1 : Int32) then (if sv_in (2 : Int32) 90 then (some (gm 1 ((2 : Int32)).toNatClampNeg)) else none) else (if sv_in (3 : Int32) 90 then (some (gm 1 ((3 : Int32)).toNatClampNeg)) else none))
set_option maxHeartbeats 4000000 in
set_option maxRecDepth 100000 in
theorem r_Mo_stackHigh {X : Nat × (Nat → Int32)} (N : Nat) (gm : Nat → Nat → Int32) (a0 : Int32) : ∀ x, (F_Mo_stackHigh N a0 gm) = some x → sv_R X 1 M_Mo_stackHigh [.ref 0, .int a0] (W_Mo gm) (some (.int x)) (W_Mo gm) := by
  refine sv_Q.R (res := (fun (x : Int32) => (some (.int x), (W_Mo gm)))) g_Mo_stackHigh rfl ?_
  unfold F_Mo_stackHigh
  refine sv_Q.s (σ' := (2, [some (.ref 0), some (.int a0)], [.int (1 : Int32), .int a0], (W_Mo gm))) 2 rfl ?_
  refine sv_Q.b rfl (fun c1 => ?_) (fun c1 => ?_)
  · refine sv_Q.s (σ' := (19, [some (.ref 0), some (.int a0)], [.int (2 : Int32), .ref 1], (W_Mo gm))) 3 rfl ?_
    refine sv_Q.g (σ' := (20, [some (.ref 0), some (.int a0)], [.int (gm 1 ((2 : Int32)).toNatClampNeg)], (W_Mo gm))) (c := sv_in (2 : Int32) 90) rfl (fun c2 => ?_)
    exact sv_Q.z ⟨True, rfl, trivial, rfl⟩
  · refine sv_Q.s (σ' := (10, [some (.ref 0), some (.int a0)], [.int (3 : Int32), .ref 1], (W_Mo gm))) 3 rfl ?_
    refine sv_Q.g (σ' := (11, [some (.ref 0), some (.int a0)], [.int (gm 1 ((3 : Int32)).toNatClampNeg)], (W_Mo gm))) (c := sv_in (3 : Int32) 90) rfl (fun c3 => ?_)
    refine sv_Q.s (σ' := (20, [some (.ref 0), some (.int a0)], [.int (gm 1 ((3 : Int32)).toNatClampNeg)], (W_Mo gm))) 1 rfl ?_
    exact sv_Q.z ⟨True, rfl, trivial, rfl⟩
def L_Mo_weighs_29 (N : Nat) : Nat → Int32 → Int32 → Int32 → Int32 → (Nat → Nat → Int32) → Option (Int32)
  | 0, _, _, _, _, _ => none
  | n + 1, x3, x4, x5, x6, gm => (Option.bind (F_Mo_stackHigh N x3 gm) fun (v6 : Int32) => (if (x5 + v6) ≤ x6 then (some x4) else (if sv_in x6 144 then (if (gm 8 (x6).toNatClampNeg) = (-1 : Int32) then (L_Mo_weighs_29 N n x3 (x4 + (0 : Int32)) x5 (x6 + (1 : Int32)) gm) else (if sv_in x6 144 then (if sv_in (gm 8 (x6).toNatClampNeg) 24 then (L_Mo_weighs_29 N n x3 (x4 + (gm 5 ((gm 8 (x6).toNatClampNeg)).toNatClampNeg)) x5 (x6 + (1 : Int32)) gm) else none) else none)) else none)))
set_option maxHeartbeats 4000000 in
set_option maxRecDepth 100000 in
theorem l_Mo_weighs_29 {X : Nat × (Nat → Int32)} (N : Nat) : ∀ (n : Nat) (x3 : Int32) (x4 : Int32) (x5 : Int32) (x6 : Int32) (gm : Nat → Nat → Int32), sv_Q X 3 M_Mo_weighs (29, [some (.ref 0), none, none, some (.int x3), some (.int x4), some (.int x5), some (.int x6)], [], (W_Mo gm)) (L_Mo_weighs_29 N n x3 x4 x5 x6 gm) (fun v σ' => σ' = (80, [none, none, none, none, some (.int v), none, none], [], (W_Mo gm))) := by
  intro n
  induction n with
  | zero => intro x3 x4 x5 x6 gm; unfold L_Mo_weighs_29; exact sv_Q.non
  | succ n ih =>
    intro x3 x4 x5 x6 gm
    unfold L_Mo_weighs_29
    refine sv_Q.s (σ' := (35, [some (.ref 0), none, none, some (.int x3), some (.int x4), some (.int x5), some (.int x6)], [.int x3, .ref 0, .int x5, .int x6], (W_Mo gm))) 4 rfl ?_
    refine sv_Q.o (fun v6 e7 => ?_)
    refine sv_Q.V (b := 0) (av := [.int x3]) (ps := [0, 1, 2, 3, 4, 5, 6, 7, 8, 9, 10, 11, 12, 13, 14, 15, 16, 17, 18, 19, 20, 21, 22]) (rest := [.int x5, .int x6]) (cs1 := (W_Mo gm)) (cs2 := (W_Mo gm)) (st' := [.int v6, .int x5, .int x6]) (cs' := (W_Mo gm)) (q := (35, .null, 0, 0, 0)) lk_Mo_378 (r_Mo_stackHigh N gm x3 v6 e7) rfl rfl rfl rfl rfl (Or.inl ⟨12, _, _, rfl, rfl, rfl⟩) rfl rfl (sc_Mo_Mo_0 gm) rfl rfl (pc_Mo_Mo_0 gm gm) ?_
    refine sv_Q.s (σ' := (39, [some (.ref 0), none, none, some (.int x3), some (.int x4), some (.int x5), some (.int x6)], [.int (x5 + v6), .int x6], (W_Mo gm))) 1 rfl ?_
    refine sv_Q.b rfl (fun c8 => ?_) (fun c8 => ?_)
    · refine sv_Q.f (lo' := [none, none, none, none, some (.int x4), none, none]) ⟨rfl, trivial⟩ ?_
      exact sv_Q.z rfl
    · refine sv_Q.s (σ' := (50, [some (.ref 0), none, none, some (.int x3), some (.int x4), some (.int x5), some (.int x6)], [.int x6, .ref 8, .int x4], (W_Mo gm))) 4 rfl ?_
      refine sv_Q.g (σ' := (51, [some (.ref 0), none, none, some (.int x3), some (.int x4), some (.int x5), some (.int x6)], [.int (gm 8 (x6).toNatClampNeg), .int x4], (W_Mo gm))) (c := sv_in x6 144) rfl (fun c9 => ?_)
      refine sv_Q.s (σ' := (52, [some (.ref 0), none, none, some (.int x3), some (.int x4), some (.int x5), some (.int x6)], [.int (-1 : Int32), .int (gm 8 (x6).toNatClampNeg), .int x4], (W_Mo gm))) 1 rfl ?_
      refine sv_Q.b rfl (fun c10 => ?_) (fun c10 => ?_)
      · refine sv_Q.s (σ' := (29, [some (.ref 0), none, none, some (.int x3), some (.int (x4 + (0 : Int32))), some (.int x5), some (.int (x6 + (1 : Int32)))], [], (W_Mo gm))) 5 rfl ?_
        exact ih x3 (x4 + (0 : Int32)) x5 (x6 + (1 : Int32)) gm
      · refine sv_Q.s (σ' := (65, [some (.ref 0), none, none, some (.int x3), some (.int x4), some (.int x5), some (.int x6)], [.int x6, .ref 8, .ref 5, .int x4], (W_Mo gm))) 5 rfl ?_
        refine sv_Q.g (σ' := (66, [some (.ref 0), none, none, some (.int x3), some (.int x4), some (.int x5), some (.int x6)], [.int (gm 8 (x6).toNatClampNeg), .ref 5, .int x4], (W_Mo gm))) (c := sv_in x6 144) rfl (fun c11 => ?_)
        refine sv_Q.g (σ' := (67, [some (.ref 0), none, none, some (.int x3), some (.int x4), some (.int x5), some (.int x6)], [.int (gm 5 ((gm 8 (x6).toNatClampNeg)).toNatClampNeg), .int x4], (W_Mo gm))) (c := sv_in (gm 8 (x6).toNatClampNeg) 24) rfl (fun c12 => ?_)
        refine sv_Q.s (σ' := (29, [some (.ref 0), none, none, some (.int x3), some (.int (x4 + (gm 5 ((gm 8 (x6).toNatClampNeg)).toNatClampNeg))), some (.int x5), some (.int (x6 + (1 : Int32)))], [], (W_Mo gm))) 5 rfl ?_
        exact ih x3 (x4 + (gm 5 ((gm 8 (x6).toNatClampNeg)).toNatClampNeg)) x5 (x6 + (1 : Int32)) gm
def F_Mo_weighs (N : Nat) (a0 : Int32) (a1 : Int32) (a2 : Int32) (gm : Nat → Nat → Int32) : Option (Int32) := (Option.bind (F_Mo_isStack N a0 a1 a2 gm) fun (v1 : Int32) => (if ¬ v1 = 0 then (Option.bind (F_Mo_stackAt N a0 a1 a2 gm) fun (v4 : Int32) => (Option.bind (L_Mo_weighs_29 N N a2 (0 : Int32) v4 v4 gm) fun (v13 : Int32) => (some v13))) else (some (-2 : Int32))))
set_option maxHeartbeats 4000000 in
set_option maxRecDepth 100000 in
theorem r_Mo_weighs {X : Nat × (Nat → Int32)} (N : Nat) (gm : Nat → Nat → Int32) (a0 : Int32) (a1 : Int32) (a2 : Int32) : ∀ x, (F_Mo_weighs N a0 a1 a2 gm) = some x → sv_R X 4 M_Mo_weighs [.ref 0, .int a0, .int a1, .int a2] (W_Mo gm) (some (.int x)) (W_Mo gm) := by
  refine sv_Q.R (res := (fun (x : Int32) => (some (.int x), (W_Mo gm)))) g_Mo_weighs rfl ?_
  unfold F_Mo_weighs
  refine sv_Q.s (σ' := (4, [some (.ref 0), some (.int a0), some (.int a1), some (.int a2), none, none, none], [.int a2, .int a1, .int a0, .ref 0], (W_Mo gm))) 4 rfl ?_
  refine sv_Q.o (fun v1 e2 => ?_)
  refine sv_Q.V (b := 0) (av := [.int a0, .int a1, .int a2]) (ps := [0, 1, 2, 3, 4, 5, 6, 7, 8, 9, 10, 11, 12, 13, 14, 15, 16, 17, 18, 19, 20, 21, 22]) (rest := []) (cs1 := (W_Mo gm)) (cs2 := (W_Mo gm)) (st' := [.int v1]) (cs' := (W_Mo gm)) (q := (4, .null, 0, 0, 0)) lk_Mo_372 (r_Mo_isStack N gm a0 a1 a2 v1 e2) rfl rfl rfl rfl rfl (Or.inl ⟨12, _, _, rfl, rfl, rfl⟩) rfl rfl (sc_Mo_Mo_0 gm) rfl rfl (pc_Mo_Mo_0 gm gm) ?_
  refine sv_Q.b rfl (fun c3 => ?_) (fun c3 => ?_)
  · refine sv_Q.s (σ' := (20, [some (.ref 0), some (.int a0), some (.int a1), some (.int a2), some (.int (0 : Int32)), none, none], [.int a2, .int a1, .int a0, .ref 0], (W_Mo gm))) 6 rfl ?_
    refine sv_Q.o (fun v4 e5 => ?_)
    refine sv_Q.V (b := 0) (av := [.int a0, .int a1, .int a2]) (ps := [0, 1, 2, 3, 4, 5, 6, 7, 8, 9, 10, 11, 12, 13, 14, 15, 16, 17, 18, 19, 20, 21, 22]) (rest := []) (cs1 := (W_Mo gm)) (cs2 := (W_Mo gm)) (st' := [.int v4]) (cs' := (W_Mo gm)) (q := (20, .null, 0, 0, 0)) lk_Mo_375 (r_Mo_stackAt N gm a0 a1 a2 v4 e5) rfl rfl rfl rfl rfl (Or.inl ⟨12, _, _, rfl, rfl, rfl⟩) rfl rfl (sc_Mo_Mo_0 gm) rfl rfl (pc_Mo_Mo_0 gm gm) ?_
    refine sv_Q.s (σ' := (29, [some (.ref 0), some (.int a0), some (.int a1), some (.int a2), some (.int (0 : Int32)), some (.int v4), some (.int v4)], [], (W_Mo gm))) 3 rfl ?_
    refine sv_Q.f (lo' := [some (.ref 0), none, none, some (.int a2), some (.int (0 : Int32)), some (.int v4), some (.int v4)]) ⟨rfl, ⟨rfl, ⟨rfl, ⟨rfl, ⟨rfl, trivial⟩⟩⟩⟩⟩ ?_
    refine sv_Q.lo (fun v13 => (80, [none, none, none, none, some (.int v13), none, none], [], (W_Mo gm))) (fun v13 => ?_) (l_Mo_weighs_29 N N a2 (0 : Int32) v4 v4 gm)
    · refine sv_Q.s (σ' := (82, [none, none, none, none, some (.int v13), none, none], [.int v13], (W_Mo gm))) 1 rfl ?_
      exact sv_Q.z ⟨True, rfl, trivial, rfl⟩
  · refine sv_Q.s (σ' := (12, [some (.ref 0), some (.int a0), some (.int a1), some (.int a2), none, none, none], [.int (-2 : Int32)], (W_Mo gm))) 1 rfl ?_
    exact sv_Q.z ⟨True, rfl, trivial, rfl⟩
def F_Mo_stack (N : Nat) (a0 : Int32) (a1 : Int32) (a2 : Int32) (a3 : Int32) (gm : Nat → Nat → Int32) : Option (Int32) := (Option.bind (F_Mo_isStack N a0 a1 a2 gm) fun (v1 : Int32) => (if v1 = 0 then (some (-2 : Int32)) else (if 0 ≤ a3 then (Option.bind (F_Mo_stackHigh N a2 gm) fun (v5 : Int32) => (if v5 ≤ a3 then (some (-1 : Int32)) else (Option.bind (F_Mo_stackAt N a0 a1 a2 gm) fun (v8 : Int32) => (if sv_in (v8 + a3) 144 then (some (gm 8 ((v8 + a3)).toNatClampNeg)) else none)))) else (some (-2 : Int32)))))
set_option maxHeartbeats 4000000 in
set_option maxRecDepth 100000 in
theorem r_Mo_stack {X : Nat × (Nat → Int32)} (N : Nat) (gm : Nat → Nat → Int32) (a0 : Int32) (a1 : Int32) (a2 : Int32) (a3 : Int32) : ∀ x, (F_Mo_stack N a0 a1 a2 a3 gm) = some x → sv_R X 4 M_Mo_stack [.ref 0, .int a0, .int a1, .int a2, .int a3] (W_Mo gm) (some (.int x)) (W_Mo gm) := by
  refine sv_Q.R (res := (fun (x : Int32) => (some (.int x), (W_Mo gm)))) g_Mo_stack rfl ?_
  unfold F_Mo_stack
  refine sv_Q.s (σ' := (4, [some (.ref 0), some (.int a0), some (.int a1), some (.int a2), some (.int a3)], [.int a2, .int a1, .int a0, .ref 0], (W_Mo gm))) 4 rfl ?_
  refine sv_Q.o (fun v1 e2 => ?_)
  refine sv_Q.V (b := 0) (av := [.int a0, .int a1, .int a2]) (ps := [0, 1, 2, 3, 4, 5, 6, 7, 8, 9, 10, 11, 12, 13, 14, 15, 16, 17, 18, 19, 20, 21, 22]) (rest := []) (cs1 := (W_Mo gm)) (cs2 := (W_Mo gm)) (st' := [.int v1]) (cs' := (W_Mo gm)) (q := (4, .null, 0, 0, 0)) lk_Mo_372 (r_Mo_isStack N gm a0 a1 a2 v1 e2) rfl rfl rfl rfl rfl (Or.inl ⟨12, _, _, rfl, rfl, rfl⟩) rfl rfl (sc_Mo_Mo_0 gm) rfl rfl (pc_Mo_Mo_0 gm gm) ?_
  refine sv_Q.b rfl (fun c3 => ?_) (fun c3 => ?_)
  · refine sv_Q.s (σ' := (17, [some (.ref 0), some (.int a0), some (.int a1), some (.int a2), some (.int a3)], [.int (-2 : Int32)], (W_Mo gm))) 1 rfl ?_
    exact sv_Q.z ⟨True, rfl, trivial, rfl⟩
  · refine sv_Q.s (σ' := (12, [some (.ref 0), some (.int a0), some (.int a1), some (.int a2), some (.int a3)], [.int a3], (W_Mo gm))) 1 rfl ?_
    refine sv_Q.b rfl (fun c4 => ?_) (fun c4 => ?_)
    · refine sv_Q.s (σ' := (22, [some (.ref 0), some (.int a0), some (.int a1), some (.int a2), some (.int a3)], [.int a2, .ref 0, .int a3], (W_Mo gm))) 3 rfl ?_
      refine sv_Q.o (fun v5 e6 => ?_)
      refine sv_Q.V (b := 0) (av := [.int a2]) (ps := [0, 1, 2, 3, 4, 5, 6, 7, 8, 9, 10, 11, 12, 13, 14, 15, 16, 17, 18, 19, 20, 21, 22]) (rest := [.int a3]) (cs1 := (W_Mo gm)) (cs2 := (W_Mo gm)) (st' := [.int v5, .int a3]) (cs' := (W_Mo gm)) (q := (22, .null, 0, 0, 0)) lk_Mo_378 (r_Mo_stackHigh N gm a2 v5 e6) rfl rfl rfl rfl rfl (Or.inl ⟨12, _, _, rfl, rfl, rfl⟩) rfl rfl (sc_Mo_Mo_0 gm) rfl rfl (pc_Mo_Mo_0 gm gm) ?_
      refine sv_Q.b rfl (fun c7 => ?_) (fun c7 => ?_)
      · refine sv_Q.s (σ' := (47, [some (.ref 0), some (.int a0), some (.int a1), some (.int a2), some (.int a3)], [.int (-1 : Int32)], (W_Mo gm))) 1 rfl ?_
        exact sv_Q.z ⟨True, rfl, trivial, rfl⟩
      · refine sv_Q.s (σ' := (36, [some (.ref 0), some (.int a0), some (.int a1), some (.int a2), some (.int a3)], [.int a2, .int a1, .int a0, .ref 0, .ref 8], (W_Mo gm))) 6 rfl ?_
        refine sv_Q.o (fun v8 e9 => ?_)
        refine sv_Q.V (b := 0) (av := [.int a0, .int a1, .int a2]) (ps := [0, 1, 2, 3, 4, 5, 6, 7, 8, 9, 10, 11, 12, 13, 14, 15, 16, 17, 18, 19, 20, 21, 22]) (rest := [.ref 8]) (cs1 := (W_Mo gm)) (cs2 := (W_Mo gm)) (st' := [.int v8, .ref 8]) (cs' := (W_Mo gm)) (q := (36, .null, 0, 0, 0)) lk_Mo_375 (r_Mo_stackAt N gm a0 a1 a2 v8 e9) rfl rfl rfl rfl rfl (Or.inl ⟨12, _, _, rfl, rfl, rfl⟩) rfl rfl (sc_Mo_Mo_0 gm) rfl rfl (pc_Mo_Mo_0 gm gm) ?_
        refine sv_Q.s (σ' := (42, [some (.ref 0), some (.int a0), some (.int a1), some (.int a2), some (.int a3)], [.int (v8 + a3), .ref 8], (W_Mo gm))) 2 rfl ?_
        refine sv_Q.g (σ' := (43, [some (.ref 0), some (.int a0), some (.int a1), some (.int a2), some (.int a3)], [.int (gm 8 ((v8 + a3)).toNatClampNeg)], (W_Mo gm))) (c := sv_in (v8 + a3) 144) rfl (fun c10 => ?_)
        refine sv_Q.s (σ' := (47, [some (.ref 0), some (.int a0), some (.int a1), some (.int a2), some (.int a3)], [.int (gm 8 ((v8 + a3)).toNatClampNeg)], (W_Mo gm))) 1 rfl ?_
        exact sv_Q.z ⟨True, rfl, trivial, rfl⟩
    · refine sv_Q.s (σ' := (17, [some (.ref 0), some (.int a0), some (.int a1), some (.int a2), some (.int a3)], [.int (-2 : Int32)], (W_Mo gm))) 1 rfl ?_
      exact sv_Q.z ⟨True, rfl, trivial, rfl⟩
def L_Mo_kindsIn_22 (N : Nat) : Nat → Int32 → Int32 → Int32 → (Nat → Nat → Int32) → Option (Int32)
  | 0, _, _, _, _ => none
  | n + 1, x1, x2, x3, gm => (if (gm 0 6) ≤ x3 then (some x2) else (if sv_in x3 24 then (if (gm 7 (x3).toNatClampNeg) = (-1 : Int32) then (L_Mo_kindsIn_22 N n x1 (x2 ||| (0 : Int32)) (x3 + (1 : Int32)) gm) else (if sv_in x3 24 then (Option.bind (F_Mo_bayOfPlace N (gm 7 (x3).toNatClampNeg) gm) fun (v9 : Int32) => (if ¬ v9 = x1 then (L_Mo_kindsIn_22 N n x1 (x2 ||| (0 : Int32)) (x3 + (1 : Int32)) gm) else (if sv_in x3 24 then (L_Mo_kindsIn_22 N n x1 (x2 ||| ((1 : Int32) <<< ((gm 4 (x3).toNatClampNeg) &&& 31))) (x3 + (1 : Int32)) gm) else none))) else none)) else none))
set_option maxHeartbeats 4000000 in
set_option maxRecDepth 100000 in
theorem l_Mo_kindsIn_22 {X : Nat × (Nat → Int32)} (N : Nat) : ∀ (n : Nat) (x1 : Int32) (x2 : Int32) (x3 : Int32) (gm : Nat → Nat → Int32), sv_Q X 2 M_Mo_kindsIn (22, [some (.ref 0), some (.int x1), some (.int x2), some (.int x3)], [], (W_Mo gm)) (L_Mo_kindsIn_22 N n x1 x2 x3 gm) (fun v σ' => σ' = (75, [none, none, some (.int v), none], [], (W_Mo gm))) := by
  intro n
  induction n with
  | zero => intro x1 x2 x3 gm; unfold L_Mo_kindsIn_22; exact sv_Q.non
  | succ n ih =>
    intro x1 x2 x3 gm
    unfold L_Mo_kindsIn_22
    refine sv_Q.s (σ' := (27, [some (.ref 0), some (.int x1), some (.int x2), some (.int x3)], [.int (gm 0 6), .int x3], (W_Mo gm))) 3 rfl ?_
    refine sv_Q.b rfl (fun c5 => ?_) (fun c5 => ?_)
    · refine sv_Q.f (lo' := [none, none, some (.int x2), none]) ⟨rfl, trivial⟩ ?_
      exact sv_Q.z rfl
    · refine sv_Q.s (σ' := (36, [some (.ref 0), some (.int x1), some (.int x2), some (.int x3)], [.int x3, .ref 7, .int x2], (W_Mo gm))) 4 rfl ?_
      refine sv_Q.g (σ' := (37, [some (.ref 0), some (.int x1), some (.int x2), some (.int x3)], [.int (gm 7 (x3).toNatClampNeg), .int x2], (W_Mo gm))) (c := sv_in x3 24) rfl (fun c6 => ?_)
      refine sv_Q.s (σ' := (38, [some (.ref 0), some (.int x1), some (.int x2), some (.int x3)], [.int (-1 : Int32), .int (gm 7 (x3).toNatClampNeg), .int x2], (W_Mo gm))) 1 rfl ?_
      refine sv_Q.b rfl (fun c7 => ?_) (fun c7 => ?_)
      · refine sv_Q.s (σ' := (22, [some (.ref 0), some (.int x1), some (.int (x2 ||| (0 : Int32))), some (.int (x3 + (1 : Int32)))], [], (W_Mo gm))) 5 rfl ?_
        exact ih x1 (x2 ||| (0 : Int32)) (x3 + (1 : Int32)) gm
      · refine sv_Q.s (σ' := (47, [some (.ref 0), some (.int x1), some (.int x2), some (.int x3)], [.int x3, .ref 7, .ref 0, .int x2], (W_Mo gm))) 4 rfl ?_
        refine sv_Q.g (σ' := (48, [some (.ref 0), some (.int x1), some (.int x2), some (.int x3)], [.int (gm 7 (x3).toNatClampNeg), .ref 0, .int x2], (W_Mo gm))) (c := sv_in x3 24) rfl (fun c8 => ?_)
        refine sv_Q.o (fun v9 e10 => ?_)
        refine sv_Q.V (b := 0) (av := [.int (gm 7 (x3).toNatClampNeg)]) (ps := [0, 1, 2, 3, 4, 5, 6, 7, 8, 9, 10, 11, 12, 13, 14, 15, 16, 17, 18, 19, 20, 21, 22]) (rest := [.int x2]) (cs1 := (W_Mo gm)) (cs2 := (W_Mo gm)) (st' := [.int v9, .int x2]) (cs' := (W_Mo gm)) (q := (48, .null, 0, 0, 0)) lk_Mo_292 (r_Mo_bayOfPlace N gm (gm 7 (x3).toNatClampNeg) v9 e10) rfl rfl rfl rfl rfl (Or.inl ⟨12, _, _, rfl, rfl, rfl⟩) rfl rfl (sc_Mo_Mo_0 gm) rfl rfl (pc_Mo_Mo_0 gm gm) ?_
        refine sv_Q.s (σ' := (52, [some (.ref 0), some (.int x1), some (.int x2), some (.int x3)], [.int x1, .int v9, .int x2], (W_Mo gm))) 1 rfl ?_
        refine sv_Q.b rfl (fun c11 => ?_) (fun c11 => ?_)
        · refine sv_Q.s (σ' := (22, [some (.ref 0), some (.int x1), some (.int (x2 ||| (0 : Int32))), some (.int (x3 + (1 : Int32)))], [], (W_Mo gm))) 5 rfl ?_
          exact ih x1 (x2 ||| (0 : Int32)) (x3 + (1 : Int32)) gm
        · refine sv_Q.s (σ' := (61, [some (.ref 0), some (.int x1), some (.int x2), some (.int x3)], [.int x3, .ref 4, .int (1 : Int32), .int x2], (W_Mo gm))) 4 rfl ?_
          refine sv_Q.g (σ' := (62, [some (.ref 0), some (.int x1), some (.int x2), some (.int x3)], [.int (gm 4 (x3).toNatClampNeg), .int (1 : Int32), .int x2], (W_Mo gm))) (c := sv_in x3 24) rfl (fun c12 => ?_)
          refine sv_Q.s (σ' := (22, [some (.ref 0), some (.int x1), some (.int (x2 ||| ((1 : Int32) <<< ((gm 4 (x3).toNatClampNeg) &&& 31)))), some (.int (x3 + (1 : Int32)))], [], (W_Mo gm))) 6 rfl ?_
          exact ih x1 (x2 ||| ((1 : Int32) <<< ((gm 4 (x3).toNatClampNeg) &&& 31))) (x3 + (1 : Int32)) gm
def F_Mo_kindsIn (N : Nat) (a0 : Int32) (gm : Nat → Nat → Int32) : Option (Int32) := (if (gm 0 1) = 0 then (some (-2 : Int32)) else (Option.bind (F_Mo_isBay N a0 gm) fun (v2 : Int32) => (if ¬ v2 = 0 then (Option.bind (L_Mo_kindsIn_22 N N a0 (0 : Int32) (0 : Int32) gm) fun (v13 : Int32) => (some v13)) else (some (-2 : Int32)))))
set_option maxHeartbeats 4000000 in
set_option maxRecDepth 100000 in
theorem r_Mo_kindsIn {X : Nat × (Nat → Int32)} (N : Nat) (gm : Nat → Nat → Int32) (a0 : Int32) : ∀ x, (F_Mo_kindsIn N a0 gm) = some x → sv_R X 3 M_Mo_kindsIn [.ref 0, .int a0] (W_Mo gm) (some (.int x)) (W_Mo gm) := by
  refine sv_Q.R (res := (fun (x : Int32) => (some (.int x), (W_Mo gm)))) g_Mo_kindsIn rfl ?_
  unfold F_Mo_kindsIn
  refine sv_Q.s (σ' := (4, [some (.ref 0), some (.int a0), none, none], [.int (gm 0 1)], (W_Mo gm))) 2 rfl ?_
  refine sv_Q.b rfl (fun c1 => ?_) (fun c1 => ?_)
  · refine sv_Q.s (σ' := (17, [some (.ref 0), some (.int a0), none, none], [.int (-2 : Int32)], (W_Mo gm))) 1 rfl ?_
    exact sv_Q.z ⟨True, rfl, trivial, rfl⟩
  · refine sv_Q.s (σ' := (9, [some (.ref 0), some (.int a0), none, none], [.int a0, .ref 0], (W_Mo gm))) 2 rfl ?_
    refine sv_Q.o (fun v2 e3 => ?_)
    refine sv_Q.V (b := 0) (av := [.int a0]) (ps := [0, 1, 2, 3, 4, 5, 6, 7, 8, 9, 10, 11, 12, 13, 14, 15, 16, 17, 18, 19, 20, 21, 22]) (rest := []) (cs1 := (W_Mo gm)) (cs2 := (W_Mo gm)) (st' := [.int v2]) (cs' := (W_Mo gm)) (q := (9, .null, 0, 0, 0)) lk_Mo_369 (r_Mo_isBay N gm a0 v2 e3) rfl rfl rfl rfl rfl (Or.inl ⟨12, _, _, rfl, rfl, rfl⟩) rfl rfl (sc_Mo_Mo_0 gm) rfl rfl (pc_Mo_Mo_0 gm gm) ?_
    refine sv_Q.b rfl (fun c4 => ?_) (fun c4 => ?_)
    · refine sv_Q.s (σ' := (22, [some (.ref 0), some (.int a0), some (.int (0 : Int32)), some (.int (0 : Int32))], [], (W_Mo gm))) 4 rfl ?_
      refine sv_Q.lo (fun v13 => (75, [none, none, some (.int v13), none], [], (W_Mo gm))) (fun v13 => ?_) (l_Mo_kindsIn_22 N N a0 (0 : Int32) (0 : Int32) gm)
      · refine sv_Q.s (σ' := (76, [none, none, some (.int v13), none], [.int v13], (W_Mo gm))) 1 rfl ?_
        exact sv_Q.z ⟨True, rfl, trivial, rfl⟩
    · refine sv_Q.s (σ' := (17, [some (.ref 0), some (.int a0), none, none], [.int (-2 : Int32)], (W_Mo gm))) 1 rfl ?_
      exact sv_Q.z ⟨True, rfl, trivial, rfl⟩
def L_Mo_free_24 (N : Nat) : Nat → Int32 → Int32 → Int32 → (Nat → Nat → Int32) → Option (Int32)
  | 0, _, _, _, _ => none
  | n + 1, x1, x2, x3, gm => (Option.bind (F_Mo_places N gm) fun (v3 : Int32) => (if v3 ≤ x3 then (some x2) else (if sv_in x3 144 then (if ¬ (gm 8 (x3).toNatClampNeg) = (-1 : Int32) then (L_Mo_free_24 N n x1 (x2 + (0 : Int32)) (x3 + (1 : Int32)) gm) else (if x1 = 0 then (L_Mo_free_24 N n x1 (x2 + (1 : Int32)) (x3 + (1 : Int32)) gm) else (Option.bind (F_Mo_lowestOf N x3 gm) fun (v9 : Int32) => (if x3 = v9 then (L_Mo_free_24 N n x1 (x2 + (1 : Int32)) (x3 + (1 : Int32)) gm) else (if sv_in (x3 - (1 : Int32)) 144 then (if (gm 8 ((x3 - (1 : Int32))).toNatClampNeg) = (-1 : Int32) then (L_Mo_free_24 N n x1 (x2 + (0 : Int32)) (x3 + (1 : Int32)) gm) else (L_Mo_free_24 N n x1 (x2 + (1 : Int32)) (x3 + (1 : Int32)) gm)) else none))))) else none)))
set_option maxHeartbeats 4000000 in
set_option maxRecDepth 100000 in
theorem l_Mo_free_24 {X : Nat × (Nat → Int32)} (N : Nat) : ∀ (n : Nat) (x1 : Int32) (x2 : Int32) (x3 : Int32) (gm : Nat → Nat → Int32), sv_Q X 4 M_Mo_free (24, [some (.ref 0), some (.int x1), some (.int x2), some (.int x3)], [], (W_Mo gm)) (L_Mo_free_24 N n x1 x2 x3 gm) (fun v σ' => σ' = (81, [none, none, some (.int v), none], [], (W_Mo gm))) := by
  intro n
  induction n with
  | zero => intro x1 x2 x3 gm; unfold L_Mo_free_24; exact sv_Q.non
  | succ n ih =>
    intro x1 x2 x3 gm
    unfold L_Mo_free_24
    refine sv_Q.s (σ' := (26, [some (.ref 0), some (.int x1), some (.int x2), some (.int x3)], [.ref 0, .int x3], (W_Mo gm))) 2 rfl ?_
    refine sv_Q.o (fun v3 e4 => ?_)
    refine sv_Q.V (b := 0) (av := []) (ps := [0, 1, 2, 3, 4, 5, 6, 7, 8, 9, 10, 11, 12, 13, 14, 15, 16, 17, 18, 19, 20, 21, 22]) (rest := [.int x3]) (cs1 := (W_Mo gm)) (cs2 := (W_Mo gm)) (st' := [.int v3, .int x3]) (cs' := (W_Mo gm)) (q := (26, .null, 0, 0, 0)) lk_Mo_254 (r_Mo_places N gm v3 e4) rfl rfl rfl rfl rfl (Or.inl ⟨12, _, _, rfl, rfl, rfl⟩) rfl rfl (sc_Mo_Mo_0 gm) rfl rfl (pc_Mo_Mo_0 gm gm) ?_
    refine sv_Q.b rfl (fun c5 => ?_) (fun c5 => ?_)
    · refine sv_Q.f (lo' := [none, none, some (.int x2), none]) ⟨rfl, trivial⟩ ?_
      exact sv_Q.z rfl
    · refine sv_Q.s (σ' := (38, [some (.ref 0), some (.int x1), some (.int x2), some (.int x3)], [.int x3, .ref 8, .int x2], (W_Mo gm))) 4 rfl ?_
      refine sv_Q.g (σ' := (39, [some (.ref 0), some (.int x1), some (.int x2), some (.int x3)], [.int (gm 8 (x3).toNatClampNeg), .int x2], (W_Mo gm))) (c := sv_in x3 144) rfl (fun c6 => ?_)
      refine sv_Q.s (σ' := (40, [some (.ref 0), some (.int x1), some (.int x2), some (.int x3)], [.int (-1 : Int32), .int (gm 8 (x3).toNatClampNeg), .int x2], (W_Mo gm))) 1 rfl ?_
      refine sv_Q.b rfl (fun c7 => ?_) (fun c7 => ?_)
      · refine sv_Q.s (σ' := (24, [some (.ref 0), some (.int x1), some (.int (x2 + (0 : Int32))), some (.int (x3 + (1 : Int32)))], [], (W_Mo gm))) 5 rfl ?_
        exact ih x1 (x2 + (0 : Int32)) (x3 + (1 : Int32)) gm
      · refine sv_Q.s (σ' := (44, [some (.ref 0), some (.int x1), some (.int x2), some (.int x3)], [.int x1, .int x2], (W_Mo gm))) 1 rfl ?_
        refine sv_Q.b rfl (fun c8 => ?_) (fun c8 => ?_)
        · refine sv_Q.s (σ' := (24, [some (.ref 0), some (.int x1), some (.int (x2 + (1 : Int32))), some (.int (x3 + (1 : Int32)))], [], (W_Mo gm))) 6 rfl ?_
          exact ih x1 (x2 + (1 : Int32)) (x3 + (1 : Int32)) gm
        · refine sv_Q.s (σ' := (50, [some (.ref 0), some (.int x1), some (.int x2), some (.int x3)], [.int x3, .ref 0, .int x3, .int x2], (W_Mo gm))) 3 rfl ?_
          refine sv_Q.o (fun v9 e10 => ?_)
          refine sv_Q.V (b := 0) (av := [.int x3]) (ps := [0, 1, 2, 3, 4, 5, 6, 7, 8, 9, 10, 11, 12, 13, 14, 15, 16, 17, 18, 19, 20, 21, 22]) (rest := [.int x3, .int x2]) (cs1 := (W_Mo gm)) (cs2 := (W_Mo gm)) (st' := [.int v9, .int x3, .int x2]) (cs' := (W_Mo gm)) (q := (50, .null, 0, 0, 0)) lk_Mo_318 (r_Mo_lowestOf N gm x3 v9 e10) rfl rfl rfl rfl rfl (Or.inl ⟨12, _, _, rfl, rfl, rfl⟩) rfl rfl (sc_Mo_Mo_0 gm) rfl rfl (pc_Mo_Mo_0 gm gm) ?_
          refine sv_Q.b rfl (fun c11 => ?_) (fun c11 => ?_)
          · refine sv_Q.s (σ' := (24, [some (.ref 0), some (.int x1), some (.int (x2 + (1 : Int32))), some (.int (x3 + (1 : Int32)))], [], (W_Mo gm))) 6 rfl ?_
            exact ih x1 (x2 + (1 : Int32)) (x3 + (1 : Int32)) gm
          · refine sv_Q.s (σ' := (63, [some (.ref 0), some (.int x1), some (.int x2), some (.int x3)], [.int (x3 - (1 : Int32)), .ref 8, .int x2], (W_Mo gm))) 5 rfl ?_
            refine sv_Q.g (σ' := (64, [some (.ref 0), some (.int x1), some (.int x2), some (.int x3)], [.int (gm 8 ((x3 - (1 : Int32))).toNatClampNeg), .int x2], (W_Mo gm))) (c := sv_in (x3 - (1 : Int32)) 144) rfl (fun c12 => ?_)
            refine sv_Q.s (σ' := (65, [some (.ref 0), some (.int x1), some (.int x2), some (.int x3)], [.int (-1 : Int32), .int (gm 8 ((x3 - (1 : Int32))).toNatClampNeg), .int x2], (W_Mo gm))) 1 rfl ?_
            refine sv_Q.b rfl (fun c13 => ?_) (fun c13 => ?_)
            · refine sv_Q.s (σ' := (24, [some (.ref 0), some (.int x1), some (.int (x2 + (0 : Int32))), some (.int (x3 + (1 : Int32)))], [], (W_Mo gm))) 5 rfl ?_
              exact ih x1 (x2 + (0 : Int32)) (x3 + (1 : Int32)) gm
            · refine sv_Q.s (σ' := (24, [some (.ref 0), some (.int x1), some (.int (x2 + (1 : Int32))), some (.int (x3 + (1 : Int32)))], [], (W_Mo gm))) 6 rfl ?_
              exact ih x1 (x2 + (1 : Int32)) (x3 + (1 : Int32)) gm
def F_Mo_free (N : Nat) (a0 : Int32) (gm : Nat → Nat → Int32) : Option (Int32) := (if (gm 0 1) = 0 then (some (-2 : Int32)) else (if ¬ (F_Mo_in ((a0).toInt64) (0 : Int64) (1 : Int64)) = 0 then (Option.bind (L_Mo_free_24 N N a0 (0 : Int32) (0 : Int32) gm) fun (v14 : Int32) => (some v14)) else (some (-2 : Int32))))
set_option maxHeartbeats 4000000 in
set_option maxRecDepth 100000 in
theorem r_Mo_free {X : Nat × (Nat → Int32)} (N : Nat) (gm : Nat → Nat → Int32) (a0 : Int32) : ∀ x, (F_Mo_free N a0 gm) = some x → sv_R X 5 M_Mo_free [.ref 0, .int a0] (W_Mo gm) (some (.int x)) (W_Mo gm) := by
  refine sv_Q.R (res := (fun (x : Int32) => (some (.int x), (W_Mo gm)))) g_Mo_free rfl ?_
  unfold F_Mo_free
  refine sv_Q.s (σ' := (4, [some (.ref 0), some (.int a0), none, none], [.int (gm 0 1)], (W_Mo gm))) 2 rfl ?_
  refine sv_Q.b rfl (fun c1 => ?_) (fun c1 => ?_)
  · refine sv_Q.s (σ' := (19, [some (.ref 0), some (.int a0), none, none], [.int (-2 : Int32)], (W_Mo gm))) 1 rfl ?_
    exact sv_Q.z ⟨True, rfl, trivial, rfl⟩
  · refine sv_Q.s (σ' := (11, [some (.ref 0), some (.int a0), none, none], [.long (1 : Int64), .long (0 : Int64), .long ((a0).toInt64)], (W_Mo gm))) 4 rfl ?_
    refine sv_Q.S (ps := []) (rest := []) (cs1 := []) (cs2 := []) (st' := [.int (F_Mo_in ((a0).toInt64) (0 : Int64) (1 : Int64))]) (cs' := (W_Mo gm)) (q := (11, .null, 0, 0, 0)) lk_Mo_97 (t_Mo_in ((a0).toInt64) (0 : Int64) (1 : Int64)) rfl rfl rfl rfl rfl rfl rfl rfl rfl rfl (sv_pt_nil _ _) ?_
    refine sv_Q.b rfl (fun c2 => ?_) (fun c2 => ?_)
    · refine sv_Q.s (σ' := (24, [some (.ref 0), some (.int a0), some (.int (0 : Int32)), some (.int (0 : Int32))], [], (W_Mo gm))) 4 rfl ?_
      refine sv_Q.lo (fun v14 => (81, [none, none, some (.int v14), none], [], (W_Mo gm))) (fun v14 => ?_) (l_Mo_free_24 N N a0 (0 : Int32) (0 : Int32) gm)
      · refine sv_Q.s (σ' := (82, [none, none, some (.int v14), none], [.int v14], (W_Mo gm))) 1 rfl ?_
        exact sv_Q.z ⟨True, rfl, trivial, rfl⟩
    · refine sv_Q.s (σ' := (19, [some (.ref 0), some (.int a0), none, none], [.int (-2 : Int32)], (W_Mo gm))) 1 rfl ?_
      exact sv_Q.z ⟨True, rfl, trivial, rfl⟩
def L_Mo_lean_28 (N : Nat) : Nat → Int32 → Int64 → Int32 → (Nat → Nat → Int32) → Option (Int64)
  | 0, _, _, _, _ => none
  | n + 1, x1, x2, x4, gm => (if (gm 0 6) ≤ x4 then (some x2) else (if sv_in x4 24 then (if ¬ (gm 7 (x4).toNatClampNeg) = (-1 : Int32) then (if sv_in x4 24 then (Option.bind (if ¬ x1 = 0 then (if ¬ x1 = (1 : Int32) then (if ¬ x1 = (2 : Int32) then some (1 : Int32) else (Option.bind (F_Mo_tierOf N (gm 7 (x4).toNatClampNeg) gm) fun (v10 : Int32) => some v10)) else (Option.bind (F_Mo_rowOf N (gm 7 (x4).toNatClampNeg) gm) fun (v12 : Int32) => (if sv_in (1 : Int32) 90 then some (((2 : Int32) * v12) - ((gm 1 ((1 : Int32)).toNatClampNeg) - (1 : Int32))) else none))) else (Option.bind (F_Mo_bayOfPlace N (gm 7 (x4).toNatClampNeg) gm) fun (v15 : Int32) => (if sv_in (0 : Int32) 90 then some (((2 : Int32) * v15) - ((gm 1 ((0 : Int32)).toNatClampNeg) - (1 : Int32))) else none))) fun (v18 : Int32) => (if sv_in x4 24 then (L_Mo_lean_28 N n x1 (x2 + ((((gm 5 (x4).toNatClampNeg) * v18)).toInt64)) (x4 + (1 : Int32)) gm) else none)) else none) else (L_Mo_lean_28 N n x1 x2 (x4 + (1 : Int32)) gm)) else none))
set_option maxHeartbeats 4000000 in
set_option maxRecDepth 100000 in
theorem l_Mo_lean_28 {X : Nat × (Nat → Int32)} (N : Nat) : ∀ (n : Nat) (x1 : Int32) (x2 : Int64) (x4 : Int32) (gm : Nat → Nat → Int32), sv_Q X 2 M_Mo_lean (28, [some (.ref 0), some (.int x1), some (.long x2), none, some (.int x4), none, none], [], (W_Mo gm)) (L_Mo_lean_28 N n x1 x2 x4 gm) (fun v σ' => σ' = (146, [none, none, some (.long v), none, none, none, none], [], (W_Mo gm))) := by
  intro n
  induction n with
  | zero => intro x1 x2 x4 gm; unfold L_Mo_lean_28; exact sv_Q.non
  | succ n ih =>
    intro x1 x2 x4 gm
    unfold L_Mo_lean_28
    refine sv_Q.s (σ' := (34, [some (.ref 0), some (.int x1), some (.long x2), none, some (.int x4), none, none], [.int (gm 0 6), .int x4], (W_Mo gm))) 3 rfl ?_
    refine sv_Q.b rfl (fun c3 => ?_) (fun c3 => ?_)
    · refine sv_Q.f (lo' := [none, none, some (.long x2), none, none, none, none]) ⟨rfl, trivial⟩ ?_
      exact sv_Q.z rfl
    · refine sv_Q.s (σ' := (43, [some (.ref 0), some (.int x1), some (.long x2), none, some (.int x4), none, none], [.int x4, .ref 7], (W_Mo gm))) 3 rfl ?_
      refine sv_Q.g (σ' := (44, [some (.ref 0), some (.int x1), some (.long x2), none, some (.int x4), none, none], [.int (gm 7 (x4).toNatClampNeg)], (W_Mo gm))) (c := sv_in x4 24) rfl (fun c4 => ?_)
      refine sv_Q.s (σ' := (45, [some (.ref 0), some (.int x1), some (.long x2), none, some (.int x4), none, none], [.int (-1 : Int32), .int (gm 7 (x4).toNatClampNeg)], (W_Mo gm))) 1 rfl ?_
      refine sv_Q.b rfl (fun c5 => ?_) (fun c5 => ?_)
      · refine sv_Q.s (σ' := (57, [some (.ref 0), some (.int x1), some (.long x2), none, some (.int x4), none, none], [.int x4, .ref 7], (W_Mo gm))) 3 rfl ?_
        refine sv_Q.g (σ' := (58, [some (.ref 0), some (.int x1), some (.long x2), none, some (.int x4), none, none], [.int (gm 7 (x4).toNatClampNeg)], (W_Mo gm))) (c := sv_in x4 24) rfl (fun c6 => ?_)
        refine sv_Q.s (σ' := (61, [some (.ref 0), some (.int x1), some (.long x2), none, some (.int x4), some (.int (gm 7 (x4).toNatClampNeg)), none], [.int x1], (W_Mo gm))) 2 rfl ?_
        refine sv_Q.lo (fun v18 => (124, [some (.ref 0), some (.int x1), some (.long x2), none, some (.int x4), none, none], [.int v18], (W_Mo gm))) (fun v18 => ?_) ?_
        · refine sv_Q.s (σ' := (133, [some (.ref 0), some (.int x1), some (.long x2), none, some (.int x4), none, some (.int v18)], [.int x4, .ref 5, .long x2], (W_Mo gm))) 5 rfl ?_
          refine sv_Q.g (σ' := (134, [some (.ref 0), some (.int x1), some (.long x2), none, some (.int x4), none, some (.int v18)], [.int (gm 5 (x4).toNatClampNeg), .long x2], (W_Mo gm))) (c := sv_in x4 24) rfl (fun c19 => ?_)
          refine sv_Q.s (σ' := (28, [some (.ref 0), some (.int x1), some (.long (x2 + ((((gm 5 (x4).toNatClampNeg) * v18)).toInt64))), none, some (.int (x4 + (1 : Int32))), none, some (.int v18)], [], (W_Mo gm))) 7 rfl ?_
          refine sv_Q.f (lo' := [some (.ref 0), some (.int x1), some (.long (x2 + ((((gm 5 (x4).toNatClampNeg) * v18)).toInt64))), none, some (.int (x4 + (1 : Int32))), none, none]) ⟨rfl, ⟨rfl, ⟨rfl, ⟨rfl, trivial⟩⟩⟩⟩ ?_
          exact ih x1 (x2 + ((((gm 5 (x4).toNatClampNeg) * v18)).toInt64)) (x4 + (1 : Int32)) gm
        · refine sv_Q.b rfl (fun c7 => ?_) (fun c7 => ?_)
          · refine sv_Q.s (σ' := (86, [some (.ref 0), some (.int x1), some (.long x2), none, some (.int x4), some (.int (gm 7 (x4).toNatClampNeg)), none], [.int (1 : Int32), .int x1], (W_Mo gm))) 2 rfl ?_
            refine sv_Q.b rfl (fun c8 => ?_) (fun c8 => ?_)
            · refine sv_Q.s (σ' := (111, [some (.ref 0), some (.int x1), some (.long x2), none, some (.int x4), some (.int (gm 7 (x4).toNatClampNeg)), none], [.int (2 : Int32), .int x1], (W_Mo gm))) 2 rfl ?_
              refine sv_Q.b rfl (fun c9 => ?_) (fun c9 => ?_)
              · refine sv_Q.s (σ' := (124, [some (.ref 0), some (.int x1), some (.long x2), none, some (.int x4), some (.int (gm 7 (x4).toNatClampNeg)), none], [.int (1 : Int32)], (W_Mo gm))) 1 rfl ?_
                refine sv_Q.f (lo' := [some (.ref 0), some (.int x1), some (.long x2), none, some (.int x4), none, none]) ⟨rfl, ⟨rfl, ⟨rfl, ⟨rfl, trivial⟩⟩⟩⟩ ?_
                exact sv_Q.z rfl
              · refine sv_Q.s (σ' := (117, [some (.ref 0), some (.int x1), some (.long x2), none, some (.int x4), some (.int (gm 7 (x4).toNatClampNeg)), none], [.int (gm 7 (x4).toNatClampNeg), .ref 0], (W_Mo gm))) 2 rfl ?_
                refine sv_Q.o (fun v10 e11 => ?_)
                refine sv_Q.V (b := 0) (av := [.int (gm 7 (x4).toNatClampNeg)]) (ps := [0, 1, 2, 3, 4, 5, 6, 7, 8, 9, 10, 11, 12, 13, 14, 15, 16, 17, 18, 19, 20, 21, 22]) (rest := []) (cs1 := (W_Mo gm)) (cs2 := (W_Mo gm)) (st' := [.int v10]) (cs' := (W_Mo gm)) (q := (117, .null, 0, 0, 0)) lk_Mo_257 (r_Mo_tierOf N gm (gm 7 (x4).toNatClampNeg) v10 e11) rfl rfl rfl rfl rfl (Or.inl ⟨12, _, _, rfl, rfl, rfl⟩) rfl rfl (sc_Mo_Mo_0 gm) rfl rfl (pc_Mo_Mo_0 gm gm) ?_
                refine sv_Q.s (σ' := (124, [some (.ref 0), some (.int x1), some (.long x2), none, some (.int x4), some (.int (gm 7 (x4).toNatClampNeg)), none], [.int v10], (W_Mo gm))) 1 rfl ?_
                refine sv_Q.f (lo' := [some (.ref 0), some (.int x1), some (.long x2), none, some (.int x4), none, none]) ⟨rfl, ⟨rfl, ⟨rfl, ⟨rfl, trivial⟩⟩⟩⟩ ?_
                exact sv_Q.z rfl
            · refine sv_Q.s (σ' := (93, [some (.ref 0), some (.int x1), some (.long x2), none, some (.int x4), some (.int (gm 7 (x4).toNatClampNeg)), none], [.int (gm 7 (x4).toNatClampNeg), .ref 0, .int (2 : Int32)], (W_Mo gm))) 3 rfl ?_
              refine sv_Q.o (fun v12 e13 => ?_)
              refine sv_Q.V (b := 0) (av := [.int (gm 7 (x4).toNatClampNeg)]) (ps := [0, 1, 2, 3, 4, 5, 6, 7, 8, 9, 10, 11, 12, 13, 14, 15, 16, 17, 18, 19, 20, 21, 22]) (rest := [.int (2 : Int32)]) (cs1 := (W_Mo gm)) (cs2 := (W_Mo gm)) (st' := [.int v12, .int (2 : Int32)]) (cs' := (W_Mo gm)) (q := (93, .null, 0, 0, 0)) lk_Mo_298 (r_Mo_rowOf N gm (gm 7 (x4).toNatClampNeg) v12 e13) rfl rfl rfl rfl rfl (Or.inl ⟨12, _, _, rfl, rfl, rfl⟩) rfl rfl (sc_Mo_Mo_0 gm) rfl rfl (pc_Mo_Mo_0 gm gm) ?_
              refine sv_Q.s (σ' := (102, [some (.ref 0), some (.int x1), some (.long x2), none, some (.int x4), some (.int (gm 7 (x4).toNatClampNeg)), none], [.int (1 : Int32), .ref 1, .int ((2 : Int32) * v12)], (W_Mo gm))) 4 rfl ?_
              refine sv_Q.g (σ' := (103, [some (.ref 0), some (.int x1), some (.long x2), none, some (.int x4), some (.int (gm 7 (x4).toNatClampNeg)), none], [.int (gm 1 ((1 : Int32)).toNatClampNeg), .int ((2 : Int32) * v12)], (W_Mo gm))) (c := sv_in (1 : Int32) 90) rfl (fun c14 => ?_)
              refine sv_Q.s (σ' := (124, [some (.ref 0), some (.int x1), some (.long x2), none, some (.int x4), some (.int (gm 7 (x4).toNatClampNeg)), none], [.int (((2 : Int32) * v12) - ((gm 1 ((1 : Int32)).toNatClampNeg) - (1 : Int32)))], (W_Mo gm))) 4 rfl ?_
              refine sv_Q.f (lo' := [some (.ref 0), some (.int x1), some (.long x2), none, some (.int x4), none, none]) ⟨rfl, ⟨rfl, ⟨rfl, ⟨rfl, trivial⟩⟩⟩⟩ ?_
              exact sv_Q.z rfl
          · refine sv_Q.s (σ' := (68, [some (.ref 0), some (.int x1), some (.long x2), none, some (.int x4), some (.int (gm 7 (x4).toNatClampNeg)), none], [.int (gm 7 (x4).toNatClampNeg), .ref 0, .int (2 : Int32)], (W_Mo gm))) 3 rfl ?_
            refine sv_Q.o (fun v15 e16 => ?_)
            refine sv_Q.V (b := 0) (av := [.int (gm 7 (x4).toNatClampNeg)]) (ps := [0, 1, 2, 3, 4, 5, 6, 7, 8, 9, 10, 11, 12, 13, 14, 15, 16, 17, 18, 19, 20, 21, 22]) (rest := [.int (2 : Int32)]) (cs1 := (W_Mo gm)) (cs2 := (W_Mo gm)) (st' := [.int v15, .int (2 : Int32)]) (cs' := (W_Mo gm)) (q := (68, .null, 0, 0, 0)) lk_Mo_292 (r_Mo_bayOfPlace N gm (gm 7 (x4).toNatClampNeg) v15 e16) rfl rfl rfl rfl rfl (Or.inl ⟨12, _, _, rfl, rfl, rfl⟩) rfl rfl (sc_Mo_Mo_0 gm) rfl rfl (pc_Mo_Mo_0 gm gm) ?_
            refine sv_Q.s (σ' := (77, [some (.ref 0), some (.int x1), some (.long x2), none, some (.int x4), some (.int (gm 7 (x4).toNatClampNeg)), none], [.int (0 : Int32), .ref 1, .int ((2 : Int32) * v15)], (W_Mo gm))) 4 rfl ?_
            refine sv_Q.g (σ' := (78, [some (.ref 0), some (.int x1), some (.long x2), none, some (.int x4), some (.int (gm 7 (x4).toNatClampNeg)), none], [.int (gm 1 ((0 : Int32)).toNatClampNeg), .int ((2 : Int32) * v15)], (W_Mo gm))) (c := sv_in (0 : Int32) 90) rfl (fun c17 => ?_)
            refine sv_Q.s (σ' := (124, [some (.ref 0), some (.int x1), some (.long x2), none, some (.int x4), some (.int (gm 7 (x4).toNatClampNeg)), none], [.int (((2 : Int32) * v15) - ((gm 1 ((0 : Int32)).toNatClampNeg) - (1 : Int32)))], (W_Mo gm))) 4 rfl ?_
            refine sv_Q.f (lo' := [some (.ref 0), some (.int x1), some (.long x2), none, some (.int x4), none, none]) ⟨rfl, ⟨rfl, ⟨rfl, ⟨rfl, trivial⟩⟩⟩⟩ ?_
            exact sv_Q.z rfl
      · refine sv_Q.s (σ' := (28, [some (.ref 0), some (.int x1), some (.long x2), none, some (.int (x4 + (1 : Int32))), none, none], [], (W_Mo gm))) 3 rfl ?_
        exact ih x1 x2 (x4 + (1 : Int32)) gm
def F_Mo_lean (N : Nat) (a0 : Int32) (gm : Nat → Nat → Int32) : Option (Int64) := (if (gm 0 1) = 0 then (some (-9223372036854775808 : Int64)) else (if ¬ (F_Mo_in ((a0).toInt64) (0 : Int64) (3 : Int64)) = 0 then (Option.bind (L_Mo_lean_28 N N a0 (0 : Int64) (0 : Int32) gm) fun (v20 : Int64) => (some v20)) else (some (-9223372036854775808 : Int64))))
set_option maxHeartbeats 4000000 in
set_option maxRecDepth 100000 in
theorem r_Mo_lean {X : Nat × (Nat → Int32)} (N : Nat) (gm : Nat → Nat → Int32) (a0 : Int32) : ∀ x, (F_Mo_lean N a0 gm) = some x → sv_R X 3 M_Mo_lean [.ref 0, .int a0] (W_Mo gm) (some (.long x)) (W_Mo gm) := by
  refine sv_Q.R (res := (fun (x : Int64) => (some (.long x), (W_Mo gm)))) g_Mo_lean rfl ?_
  unfold F_Mo_lean
  refine sv_Q.s (σ' := (4, [some (.ref 0), some (.int a0), none, none, none, none, none], [.int (gm 0 1)], (W_Mo gm))) 2 rfl ?_
  refine sv_Q.b rfl (fun c1 => ?_) (fun c1 => ?_)
  · refine sv_Q.s (σ' := (22, [some (.ref 0), some (.int a0), none, none, none, none, none], [.long (-9223372036854775808 : Int64)], (W_Mo gm))) 1 rfl ?_
    exact sv_Q.z ⟨True, rfl, trivial, rfl⟩
  · refine sv_Q.s (σ' := (13, [some (.ref 0), some (.int a0), none, none, none, none, none], [.long (3 : Int64), .long (0 : Int64), .long ((a0).toInt64)], (W_Mo gm))) 4 rfl ?_
    refine sv_Q.S (ps := []) (rest := []) (cs1 := []) (cs2 := []) (st' := [.int (F_Mo_in ((a0).toInt64) (0 : Int64) (3 : Int64))]) (cs' := (W_Mo gm)) (q := (13, .null, 0, 0, 0)) lk_Mo_97 (t_Mo_in ((a0).toInt64) (0 : Int64) (3 : Int64)) rfl rfl rfl rfl rfl rfl rfl rfl rfl rfl (sv_pt_nil _ _) ?_
    refine sv_Q.b rfl (fun c2 => ?_) (fun c2 => ?_)
    · refine sv_Q.s (σ' := (28, [some (.ref 0), some (.int a0), some (.long (0 : Int64)), none, some (.int (0 : Int32)), none, none], [], (W_Mo gm))) 4 rfl ?_
      refine sv_Q.lo (fun v20 => (146, [none, none, some (.long v20), none, none, none, none], [], (W_Mo gm))) (fun v20 => ?_) (l_Mo_lean_28 N N a0 (0 : Int64) (0 : Int32) gm)
      · refine sv_Q.s (σ' := (147, [none, none, some (.long v20), none, none, none, none], [.long v20], (W_Mo gm))) 1 rfl ?_
        exact sv_Q.z ⟨True, rfl, trivial, rfl⟩
    · refine sv_Q.s (σ' := (22, [some (.ref 0), some (.int a0), none, none, none, none, none], [.long (-9223372036854775808 : Int64)], (W_Mo gm))) 1 rfl ?_
      exact sv_Q.z ⟨True, rfl, trivial, rfl⟩
def F_Mo_isAbove (N : Nat) (a0 : Int32) (a1 : Int32) (gm : Nat → Nat → Int32) : Option (Int32) := (if sv_in a0 24 then (if (gm 7 (a0).toNatClampNeg) = (-1 : Int32) then (some (0 : Int32)) else (if sv_in a1 24 then (if (gm 7 (a1).toNatClampNeg) = (-1 : Int32) then (some (0 : Int32)) else (if sv_in a0 24 then (Option.bind (F_Mo_lowestOf N (gm 7 (a0).toNatClampNeg) gm) fun (v6 : Int32) => (if sv_in a1 24 then (Option.bind (F_Mo_lowestOf N (gm 7 (a1).toNatClampNeg) gm) fun (v9 : Int32) => (if ¬ v6 = v9 then (some (0 : Int32)) else (if sv_in a0 24 then (Option.bind (F_Mo_isOnDeck N (gm 7 (a0).toNatClampNeg) gm) fun (v13 : Int32) => (if sv_in a1 24 then (Option.bind (F_Mo_isOnDeck N (gm 7 (a1).toNatClampNeg) gm) fun (v16 : Int32) => (if ¬ v13 = v16 then (some (0 : Int32)) else (if sv_in a0 24 then (if sv_in a1 24 then (if (gm 7 (a0).toNatClampNeg) ≤ (gm 7 (a1).toNatClampNeg) then (some (0 : Int32)) else (some (1 : Int32))) else none) else none))) else none)) else none))) else none)) else none)) else none)) else none)
set_option maxHeartbeats 4000000 in
set_option maxRecDepth 100000 in
theorem r_Mo_isAbove {X : Nat × (Nat → Int32)} (N : Nat) (gm : Nat → Nat → Int32) (a0 : Int32) (a1 : Int32) : ∀ x, (F_Mo_isAbove N a0 a1 gm) = some x → sv_R X 5 M_Mo_isAbove [.ref 0, .int a0, .int a1] (W_Mo gm) (some (.int x)) (W_Mo gm) := by
  refine sv_Q.R (res := (fun (x : Int32) => (some (.int x), (W_Mo gm)))) g_Mo_isAbove rfl ?_
  unfold F_Mo_isAbove
  refine sv_Q.s (σ' := (5, [some (.ref 0), some (.int a0), some (.int a1)], [.int a0, .ref 7], (W_Mo gm))) 3 rfl ?_
  refine sv_Q.g (σ' := (6, [some (.ref 0), some (.int a0), some (.int a1)], [.int (gm 7 (a0).toNatClampNeg)], (W_Mo gm))) (c := sv_in a0 24) rfl (fun c1 => ?_)
  refine sv_Q.s (σ' := (7, [some (.ref 0), some (.int a0), some (.int a1)], [.int (-1 : Int32), .int (gm 7 (a0).toNatClampNeg)], (W_Mo gm))) 1 rfl ?_
  refine sv_Q.b rfl (fun c2 => ?_) (fun c2 => ?_)
  · refine sv_Q.s (σ' := (86, [some (.ref 0), some (.int a0), some (.int a1)], [.int (0 : Int32)], (W_Mo gm))) 1 rfl ?_
    exact sv_Q.z ⟨sv_01 (0 : Int32), rfl, Or.inl rfl, rfl⟩
  · refine sv_Q.s (σ' := (15, [some (.ref 0), some (.int a0), some (.int a1)], [.int a1, .ref 7], (W_Mo gm))) 3 rfl ?_
    refine sv_Q.g (σ' := (16, [some (.ref 0), some (.int a0), some (.int a1)], [.int (gm 7 (a1).toNatClampNeg)], (W_Mo gm))) (c := sv_in a1 24) rfl (fun c3 => ?_)
    refine sv_Q.s (σ' := (17, [some (.ref 0), some (.int a0), some (.int a1)], [.int (-1 : Int32), .int (gm 7 (a1).toNatClampNeg)], (W_Mo gm))) 1 rfl ?_
    refine sv_Q.b rfl (fun c4 => ?_) (fun c4 => ?_)
    · refine sv_Q.s (σ' := (86, [some (.ref 0), some (.int a0), some (.int a1)], [.int (0 : Int32)], (W_Mo gm))) 1 rfl ?_
      exact sv_Q.z ⟨sv_01 (0 : Int32), rfl, Or.inl rfl, rfl⟩
    · refine sv_Q.s (σ' := (26, [some (.ref 0), some (.int a0), some (.int a1)], [.int a0, .ref 7, .ref 0], (W_Mo gm))) 4 rfl ?_
      refine sv_Q.g (σ' := (27, [some (.ref 0), some (.int a0), some (.int a1)], [.int (gm 7 (a0).toNatClampNeg), .ref 0], (W_Mo gm))) (c := sv_in a0 24) rfl (fun c5 => ?_)
      refine sv_Q.o (fun v6 e7 => ?_)
      refine sv_Q.V (b := 0) (av := [.int (gm 7 (a0).toNatClampNeg)]) (ps := [0, 1, 2, 3, 4, 5, 6, 7, 8, 9, 10, 11, 12, 13, 14, 15, 16, 17, 18, 19, 20, 21, 22]) (rest := []) (cs1 := (W_Mo gm)) (cs2 := (W_Mo gm)) (st' := [.int v6]) (cs' := (W_Mo gm)) (q := (27, .null, 0, 0, 0)) lk_Mo_318 (r_Mo_lowestOf N gm (gm 7 (a0).toNatClampNeg) v6 e7) rfl rfl rfl rfl rfl (Or.inl ⟨12, _, _, rfl, rfl, rfl⟩) rfl rfl (sc_Mo_Mo_0 gm) rfl rfl (pc_Mo_Mo_0 gm gm) ?_
      refine sv_Q.s (σ' := (36, [some (.ref 0), some (.int a0), some (.int a1)], [.int a1, .ref 7, .ref 0, .int v6], (W_Mo gm))) 4 rfl ?_
      refine sv_Q.g (σ' := (37, [some (.ref 0), some (.int a0), some (.int a1)], [.int (gm 7 (a1).toNatClampNeg), .ref 0, .int v6], (W_Mo gm))) (c := sv_in a1 24) rfl (fun c8 => ?_)
      refine sv_Q.o (fun v9 e10 => ?_)
      refine sv_Q.V (b := 0) (av := [.int (gm 7 (a1).toNatClampNeg)]) (ps := [0, 1, 2, 3, 4, 5, 6, 7, 8, 9, 10, 11, 12, 13, 14, 15, 16, 17, 18, 19, 20, 21, 22]) (rest := [.int v6]) (cs1 := (W_Mo gm)) (cs2 := (W_Mo gm)) (st' := [.int v9, .int v6]) (cs' := (W_Mo gm)) (q := (37, .null, 0, 0, 0)) lk_Mo_318 (r_Mo_lowestOf N gm (gm 7 (a1).toNatClampNeg) v9 e10) rfl rfl rfl rfl rfl (Or.inl ⟨12, _, _, rfl, rfl, rfl⟩) rfl rfl (sc_Mo_Mo_0 gm) rfl rfl (pc_Mo_Mo_0 gm gm) ?_
      refine sv_Q.b rfl (fun c11 => ?_) (fun c11 => ?_)
      · refine sv_Q.s (σ' := (86, [some (.ref 0), some (.int a0), some (.int a1)], [.int (0 : Int32)], (W_Mo gm))) 1 rfl ?_
        exact sv_Q.z ⟨sv_01 (0 : Int32), rfl, Or.inl rfl, rfl⟩
      · refine sv_Q.s (σ' := (49, [some (.ref 0), some (.int a0), some (.int a1)], [.int a0, .ref 7, .ref 0], (W_Mo gm))) 4 rfl ?_
        refine sv_Q.g (σ' := (50, [some (.ref 0), some (.int a0), some (.int a1)], [.int (gm 7 (a0).toNatClampNeg), .ref 0], (W_Mo gm))) (c := sv_in a0 24) rfl (fun c12 => ?_)
        refine sv_Q.o (fun v13 e14 => ?_)
        refine sv_Q.V (b := 0) (av := [.int (gm 7 (a0).toNatClampNeg)]) (ps := [0, 1, 2, 3, 4, 5, 6, 7, 8, 9, 10, 11, 12, 13, 14, 15, 16, 17, 18, 19, 20, 21, 22]) (rest := []) (cs1 := (W_Mo gm)) (cs2 := (W_Mo gm)) (st' := [.int v13]) (cs' := (W_Mo gm)) (q := (50, .null, 0, 0, 0)) lk_Mo_260 (r_Mo_isOnDeck N gm (gm 7 (a0).toNatClampNeg) v13 e14) rfl rfl rfl rfl rfl (Or.inl ⟨12, _, _, rfl, rfl, rfl⟩) rfl rfl (sc_Mo_Mo_0 gm) rfl rfl (pc_Mo_Mo_0 gm gm) ?_
        refine sv_Q.s (σ' := (59, [some (.ref 0), some (.int a0), some (.int a1)], [.int a1, .ref 7, .ref 0, .int v13], (W_Mo gm))) 4 rfl ?_
        refine sv_Q.g (σ' := (60, [some (.ref 0), some (.int a0), some (.int a1)], [.int (gm 7 (a1).toNatClampNeg), .ref 0, .int v13], (W_Mo gm))) (c := sv_in a1 24) rfl (fun c15 => ?_)
        refine sv_Q.o (fun v16 e17 => ?_)
        refine sv_Q.V (b := 0) (av := [.int (gm 7 (a1).toNatClampNeg)]) (ps := [0, 1, 2, 3, 4, 5, 6, 7, 8, 9, 10, 11, 12, 13, 14, 15, 16, 17, 18, 19, 20, 21, 22]) (rest := [.int v13]) (cs1 := (W_Mo gm)) (cs2 := (W_Mo gm)) (st' := [.int v16, .int v13]) (cs' := (W_Mo gm)) (q := (60, .null, 0, 0, 0)) lk_Mo_260 (r_Mo_isOnDeck N gm (gm 7 (a1).toNatClampNeg) v16 e17) rfl rfl rfl rfl rfl (Or.inl ⟨12, _, _, rfl, rfl, rfl⟩) rfl rfl (sc_Mo_Mo_0 gm) rfl rfl (pc_Mo_Mo_0 gm gm) ?_
        refine sv_Q.b rfl (fun c18 => ?_) (fun c18 => ?_)
        · refine sv_Q.s (σ' := (86, [some (.ref 0), some (.int a0), some (.int a1)], [.int (0 : Int32)], (W_Mo gm))) 1 rfl ?_
          exact sv_Q.z ⟨sv_01 (0 : Int32), rfl, Or.inl rfl, rfl⟩
        · refine sv_Q.s (σ' := (71, [some (.ref 0), some (.int a0), some (.int a1)], [.int a0, .ref 7], (W_Mo gm))) 3 rfl ?_
          refine sv_Q.g (σ' := (72, [some (.ref 0), some (.int a0), some (.int a1)], [.int (gm 7 (a0).toNatClampNeg)], (W_Mo gm))) (c := sv_in a0 24) rfl (fun c19 => ?_)
          refine sv_Q.s (σ' := (77, [some (.ref 0), some (.int a0), some (.int a1)], [.int a1, .ref 7, .int (gm 7 (a0).toNatClampNeg)], (W_Mo gm))) 3 rfl ?_
          refine sv_Q.g (σ' := (78, [some (.ref 0), some (.int a0), some (.int a1)], [.int (gm 7 (a1).toNatClampNeg), .int (gm 7 (a0).toNatClampNeg)], (W_Mo gm))) (c := sv_in a1 24) rfl (fun c20 => ?_)
          refine sv_Q.b rfl (fun c21 => ?_) (fun c21 => ?_)
          · refine sv_Q.s (σ' := (86, [some (.ref 0), some (.int a0), some (.int a1)], [.int (0 : Int32)], (W_Mo gm))) 1 rfl ?_
            exact sv_Q.z ⟨sv_01 (0 : Int32), rfl, Or.inl rfl, rfl⟩
          · refine sv_Q.s (σ' := (86, [some (.ref 0), some (.int a0), some (.int a1)], [.int (1 : Int32)], (W_Mo gm))) 2 rfl ?_
            exact sv_Q.z ⟨sv_01 (1 : Int32), rfl, Or.inr rfl, rfl⟩
def L_Mo_over_24 (N : Nat) : Nat → Int32 → Int32 → Int32 → (Nat → Nat → Int32) → Option (Int32)
  | 0, _, _, _, _ => none
  | n + 1, x1, x2, x3, gm => (if (gm 0 6) ≤ x3 then (some x1) else (Option.bind (F_Mo_isAbove N x2 x3 gm) fun (v4 : Int32) => (if v4 = 0 then (L_Mo_over_24 N n (x1 + (0 : Int32)) x2 (x3 + (1 : Int32)) gm) else (if sv_in x3 24 then (if sv_in x2 24 then (if (gm 6 (x2).toNatClampNeg) ≤ (gm 6 (x3).toNatClampNeg) then (L_Mo_over_24 N n (x1 + (0 : Int32)) x2 (x3 + (1 : Int32)) gm) else (L_Mo_over_24 N n (x1 + (1 : Int32)) x2 (x3 + (1 : Int32)) gm)) else none) else none))))
set_option maxHeartbeats 4000000 in
set_option maxRecDepth 100000 in
theorem l_Mo_over_24 {X : Nat × (Nat → Int32)} (N : Nat) : ∀ (n : Nat) (x1 : Int32) (x2 : Int32) (x3 : Int32) (gm : Nat → Nat → Int32), sv_Q X 5 M_Mo_over (24, [some (.ref 0), some (.int x1), some (.int x2), some (.int x3)], [], (W_Mo gm)) (L_Mo_over_24 N n x1 x2 x3 gm) (fun v σ' => σ' = (70, [some (.ref 0), some (.int v), some (.int x2), none], [], (W_Mo gm))) := by
  intro n
  induction n with
  | zero => intro x1 x2 x3 gm; unfold L_Mo_over_24; exact sv_Q.non
  | succ n ih =>
    intro x1 x2 x3 gm
    unfold L_Mo_over_24
    refine sv_Q.s (σ' := (29, [some (.ref 0), some (.int x1), some (.int x2), some (.int x3)], [.int (gm 0 6), .int x3], (W_Mo gm))) 3 rfl ?_
    refine sv_Q.b rfl (fun c3 => ?_) (fun c3 => ?_)
    · refine sv_Q.f (lo' := [some (.ref 0), some (.int x1), some (.int x2), none]) ⟨rfl, ⟨rfl, ⟨rfl, trivial⟩⟩⟩ ?_
      exact sv_Q.z rfl
    · refine sv_Q.s (σ' := (36, [some (.ref 0), some (.int x1), some (.int x2), some (.int x3)], [.int x3, .int x2, .ref 0, .int x1], (W_Mo gm))) 4 rfl ?_
      refine sv_Q.o (fun v4 e5 => ?_)
      refine sv_Q.V (b := 0) (av := [.int x2, .int x3]) (ps := [0, 1, 2, 3, 4, 5, 6, 7, 8, 9, 10, 11, 12, 13, 14, 15, 16, 17, 18, 19, 20, 21, 22]) (rest := [.int x1]) (cs1 := (W_Mo gm)) (cs2 := (W_Mo gm)) (st' := [.int v4, .int x1]) (cs' := (W_Mo gm)) (q := (36, .null, 0, 0, 0)) lk_Mo_383 (r_Mo_isAbove N gm x2 x3 v4 e5) rfl rfl rfl rfl rfl (Or.inl ⟨12, _, _, rfl, rfl, rfl⟩) rfl rfl (sc_Mo_Mo_0 gm) rfl rfl (pc_Mo_Mo_0 gm gm) ?_
      refine sv_Q.b rfl (fun c6 => ?_) (fun c6 => ?_)
      · refine sv_Q.s (σ' := (24, [some (.ref 0), some (.int (x1 + (0 : Int32))), some (.int x2), some (.int (x3 + (1 : Int32)))], [], (W_Mo gm))) 5 rfl ?_
        exact ih (x1 + (0 : Int32)) x2 (x3 + (1 : Int32)) gm
      · refine sv_Q.s (σ' := (47, [some (.ref 0), some (.int x1), some (.int x2), some (.int x3)], [.int x3, .ref 6, .int x1], (W_Mo gm))) 3 rfl ?_
        refine sv_Q.g (σ' := (48, [some (.ref 0), some (.int x1), some (.int x2), some (.int x3)], [.int (gm 6 (x3).toNatClampNeg), .int x1], (W_Mo gm))) (c := sv_in x3 24) rfl (fun c7 => ?_)
        refine sv_Q.s (σ' := (53, [some (.ref 0), some (.int x1), some (.int x2), some (.int x3)], [.int x2, .ref 6, .int (gm 6 (x3).toNatClampNeg), .int x1], (W_Mo gm))) 3 rfl ?_
        refine sv_Q.g (σ' := (54, [some (.ref 0), some (.int x1), some (.int x2), some (.int x3)], [.int (gm 6 (x2).toNatClampNeg), .int (gm 6 (x3).toNatClampNeg), .int x1], (W_Mo gm))) (c := sv_in x2 24) rfl (fun c8 => ?_)
        refine sv_Q.b rfl (fun c9 => ?_) (fun c9 => ?_)
        · refine sv_Q.s (σ' := (24, [some (.ref 0), some (.int (x1 + (0 : Int32))), some (.int x2), some (.int (x3 + (1 : Int32)))], [], (W_Mo gm))) 5 rfl ?_
          exact ih (x1 + (0 : Int32)) x2 (x3 + (1 : Int32)) gm
        · refine sv_Q.s (σ' := (24, [some (.ref 0), some (.int (x1 + (1 : Int32))), some (.int x2), some (.int (x3 + (1 : Int32)))], [], (W_Mo gm))) 6 rfl ?_
          exact ih (x1 + (1 : Int32)) x2 (x3 + (1 : Int32)) gm
def L_Mo_over_14 (N : Nat) : Nat → Int32 → Int32 → (Nat → Nat → Int32) → Option (Int32)
  | 0, _, _, _ => none
  | n + 1, x1, x2, gm => (if (gm 0 6) ≤ x2 then (some x1) else (Option.bind (L_Mo_over_24 N N x1 x2 (0 : Int32) gm) fun (v10 : Int32) => (L_Mo_over_14 N n v10 (x2 + (1 : Int32)) gm)))
set_option maxHeartbeats 4000000 in
set_option maxRecDepth 100000 in
theorem l_Mo_over_14 {X : Nat × (Nat → Int32)} (N : Nat) : ∀ (n : Nat) (x1 : Int32) (x2 : Int32) (gm : Nat → Nat → Int32), sv_Q X 5 M_Mo_over (14, [some (.ref 0), some (.int x1), some (.int x2), none], [], (W_Mo gm)) (L_Mo_over_14 N n x1 x2 gm) (fun v σ' => σ' = (76, [none, some (.int v), none, none], [], (W_Mo gm))) := by
  intro n
  induction n with
  | zero => intro x1 x2 gm; unfold L_Mo_over_14; exact sv_Q.non
  | succ n ih =>
    intro x1 x2 gm
    unfold L_Mo_over_14
    refine sv_Q.s (σ' := (19, [some (.ref 0), some (.int x1), some (.int x2), none], [.int (gm 0 6), .int x2], (W_Mo gm))) 3 rfl ?_
    refine sv_Q.b rfl (fun c2 => ?_) (fun c2 => ?_)
    · refine sv_Q.f (lo' := [none, some (.int x1), none, none]) ⟨rfl, trivial⟩ ?_
      exact sv_Q.z rfl
    · refine sv_Q.s (σ' := (24, [some (.ref 0), some (.int x1), some (.int x2), some (.int (0 : Int32))], [], (W_Mo gm))) 2 rfl ?_
      refine sv_Q.lo (fun v10 => (70, [some (.ref 0), some (.int v10), some (.int x2), none], [], (W_Mo gm))) (fun v10 => ?_) (l_Mo_over_24 N N x1 x2 (0 : Int32) gm)
      · refine sv_Q.s (σ' := (14, [some (.ref 0), some (.int v10), some (.int (x2 + (1 : Int32))), none], [], (W_Mo gm))) 2 rfl ?_
        exact ih v10 (x2 + (1 : Int32)) gm
def F_Mo_over (N : Nat) (gm : Nat → Nat → Int32) : Option (Int32) := (if ¬ (gm 0 1) = 0 then (Option.bind (L_Mo_over_14 N N (0 : Int32) (0 : Int32) gm) fun (v11 : Int32) => (some v11)) else (some (-2 : Int32)))
set_option maxHeartbeats 4000000 in
set_option maxRecDepth 100000 in
theorem r_Mo_over {X : Nat × (Nat → Int32)} (N : Nat) (gm : Nat → Nat → Int32) : ∀ x, (F_Mo_over N gm) = some x → sv_R X 6 M_Mo_over [.ref 0] (W_Mo gm) (some (.int x)) (W_Mo gm) := by
  refine sv_Q.R (res := (fun (x : Int32) => (some (.int x), (W_Mo gm)))) g_Mo_over rfl ?_
  unfold F_Mo_over
  refine sv_Q.s (σ' := (4, [some (.ref 0), none, none, none], [.int (gm 0 1)], (W_Mo gm))) 2 rfl ?_
  refine sv_Q.b rfl (fun c1 => ?_) (fun c1 => ?_)
  · refine sv_Q.s (σ' := (14, [some (.ref 0), some (.int (0 : Int32)), some (.int (0 : Int32)), none], [], (W_Mo gm))) 4 rfl ?_
    refine sv_Q.lo (fun v11 => (76, [none, some (.int v11), none, none], [], (W_Mo gm))) (fun v11 => ?_) (l_Mo_over_14 N N (0 : Int32) (0 : Int32) gm)
    · refine sv_Q.s (σ' := (77, [none, some (.int v11), none, none], [.int v11], (W_Mo gm))) 1 rfl ?_
      exact sv_Q.z ⟨True, rfl, trivial, rfl⟩
  · refine sv_Q.s (σ' := (9, [some (.ref 0), none, none, none], [.int (-2 : Int32)], (W_Mo gm))) 1 rfl ?_
    exact sv_Q.z ⟨True, rfl, trivial, rfl⟩
def L_Mo_restows_40 (N : Nat) : Nat → Int32 → Int32 → Int32 → Int32 → Int32 → (Nat → Nat → Int32) → Option (Int32)
  | 0, _, _, _, _, _, _ => none
  | n + 1, x1, x2, x3, x4, x5, gm => (if (gm 0 6) ≤ x5 then (some x4) else (if ¬ x4 = 0 then (L_Mo_restows_40 N n x1 x2 x3 (1 : Int32) (x5 + (1 : Int32)) gm) else (if sv_in x3 24 then (if (gm 6 (x3).toNatClampNeg) = x1 then (L_Mo_restows_40 N n x1 x2 x3 (0 : Int32) (x5 + (1 : Int32)) gm) else (if sv_in x5 24 then (if ¬ (gm 6 (x5).toNatClampNeg) = x1 then (L_Mo_restows_40 N n x1 x2 x3 (0 : Int32) (x5 + (1 : Int32)) gm) else (Option.bind (F_Mo_isAbove N x3 x5 gm) fun (v10 : Int32) => (if v10 = 0 then (L_Mo_restows_40 N n x1 x2 x3 (0 : Int32) (x5 + (1 : Int32)) gm) else (L_Mo_restows_40 N n x1 x2 x3 (1 : Int32) (x5 + (1 : Int32)) gm)))) else none)) else none)))
set_option maxHeartbeats 4000000 in
set_option maxRecDepth 100000 in
theorem l_Mo_restows_40 {X : Nat × (Nat → Int32)} (N : Nat) : ∀ (n : Nat) (x1 : Int32) (x2 : Int32) (x3 : Int32) (x4 : Int32) (x5 : Int32) (gm : Nat → Nat → Int32), sv_Q X 5 M_Mo_restows (40, [some (.ref 0), some (.int x1), some (.int x2), some (.int x3), some (.int x4), some (.int x5)], [], (W_Mo gm)) (L_Mo_restows_40 N n x1 x2 x3 x4 x5 gm) (fun v σ' => σ' = (98, [some (.ref 0), some (.int x1), some (.int x2), some (.int x3), some (.int v), none], [], (W_Mo gm))) := by
  intro n
  induction n with
  | zero => intro x1 x2 x3 x4 x5 gm; unfold L_Mo_restows_40; exact sv_Q.non
  | succ n ih =>
    intro x1 x2 x3 x4 x5 gm
    unfold L_Mo_restows_40
    refine sv_Q.s (σ' := (46, [some (.ref 0), some (.int x1), some (.int x2), some (.int x3), some (.int x4), some (.int x5)], [.int (gm 0 6), .int x5], (W_Mo gm))) 3 rfl ?_
    refine sv_Q.b rfl (fun c4 => ?_) (fun c4 => ?_)
    · refine sv_Q.f (lo' := [some (.ref 0), some (.int x1), some (.int x2), some (.int x3), some (.int x4), none]) ⟨rfl, ⟨rfl, ⟨rfl, ⟨rfl, ⟨rfl, trivial⟩⟩⟩⟩⟩ ?_
      exact sv_Q.z rfl
    · refine sv_Q.s (σ' := (51, [some (.ref 0), some (.int x1), some (.int x2), some (.int x3), some (.int x4), some (.int x5)], [.int x4], (W_Mo gm))) 1 rfl ?_
      refine sv_Q.b rfl (fun c5 => ?_) (fun c5 => ?_)
      · refine sv_Q.s (σ' := (40, [some (.ref 0), some (.int x1), some (.int x2), some (.int x3), some (.int (1 : Int32)), some (.int (x5 + (1 : Int32)))], [], (W_Mo gm))) 5 rfl ?_
        exact ih x1 x2 x3 (1 : Int32) (x5 + (1 : Int32)) gm
      · refine sv_Q.s (σ' := (59, [some (.ref 0), some (.int x1), some (.int x2), some (.int x3), some (.int x4), some (.int x5)], [.int x3, .ref 6], (W_Mo gm))) 3 rfl ?_
        refine sv_Q.g (σ' := (60, [some (.ref 0), some (.int x1), some (.int x2), some (.int x3), some (.int x4), some (.int x5)], [.int (gm 6 (x3).toNatClampNeg)], (W_Mo gm))) (c := sv_in x3 24) rfl (fun c6 => ?_)
        refine sv_Q.s (σ' := (61, [some (.ref 0), some (.int x1), some (.int x2), some (.int x3), some (.int x4), some (.int x5)], [.int x1, .int (gm 6 (x3).toNatClampNeg)], (W_Mo gm))) 1 rfl ?_
        refine sv_Q.b rfl (fun c7 => ?_) (fun c7 => ?_)
        · refine sv_Q.s (σ' := (40, [some (.ref 0), some (.int x1), some (.int x2), some (.int x3), some (.int (0 : Int32)), some (.int (x5 + (1 : Int32)))], [], (W_Mo gm))) 4 rfl ?_
          exact ih x1 x2 x3 (0 : Int32) (x5 + (1 : Int32)) gm
        · refine sv_Q.s (σ' := (70, [some (.ref 0), some (.int x1), some (.int x2), some (.int x3), some (.int x4), some (.int x5)], [.int x5, .ref 6], (W_Mo gm))) 3 rfl ?_
          refine sv_Q.g (σ' := (71, [some (.ref 0), some (.int x1), some (.int x2), some (.int x3), some (.int x4), some (.int x5)], [.int (gm 6 (x5).toNatClampNeg)], (W_Mo gm))) (c := sv_in x5 24) rfl (fun c8 => ?_)
          refine sv_Q.s (σ' := (72, [some (.ref 0), some (.int x1), some (.int x2), some (.int x3), some (.int x4), some (.int x5)], [.int x1, .int (gm 6 (x5).toNatClampNeg)], (W_Mo gm))) 1 rfl ?_
          refine sv_Q.b rfl (fun c9 => ?_) (fun c9 => ?_)
          · refine sv_Q.s (σ' := (40, [some (.ref 0), some (.int x1), some (.int x2), some (.int x3), some (.int (0 : Int32)), some (.int (x5 + (1 : Int32)))], [], (W_Mo gm))) 4 rfl ?_
            exact ih x1 x2 x3 (0 : Int32) (x5 + (1 : Int32)) gm
          · refine sv_Q.s (σ' := (79, [some (.ref 0), some (.int x1), some (.int x2), some (.int x3), some (.int x4), some (.int x5)], [.int x5, .int x3, .ref 0], (W_Mo gm))) 3 rfl ?_
            refine sv_Q.o (fun v10 e11 => ?_)
            refine sv_Q.V (b := 0) (av := [.int x3, .int x5]) (ps := [0, 1, 2, 3, 4, 5, 6, 7, 8, 9, 10, 11, 12, 13, 14, 15, 16, 17, 18, 19, 20, 21, 22]) (rest := []) (cs1 := (W_Mo gm)) (cs2 := (W_Mo gm)) (st' := [.int v10]) (cs' := (W_Mo gm)) (q := (79, .null, 0, 0, 0)) lk_Mo_383 (r_Mo_isAbove N gm x3 x5 v10 e11) rfl rfl rfl rfl rfl (Or.inl ⟨12, _, _, rfl, rfl, rfl⟩) rfl rfl (sc_Mo_Mo_0 gm) rfl rfl (pc_Mo_Mo_0 gm gm) ?_
            refine sv_Q.b rfl (fun c12 => ?_) (fun c12 => ?_)
            · refine sv_Q.s (σ' := (40, [some (.ref 0), some (.int x1), some (.int x2), some (.int x3), some (.int (0 : Int32)), some (.int (x5 + (1 : Int32)))], [], (W_Mo gm))) 4 rfl ?_
              exact ih x1 x2 x3 (0 : Int32) (x5 + (1 : Int32)) gm
            · refine sv_Q.s (σ' := (40, [some (.ref 0), some (.int x1), some (.int x2), some (.int x3), some (.int (1 : Int32)), some (.int (x5 + (1 : Int32)))], [], (W_Mo gm))) 5 rfl ?_
              exact ih x1 x2 x3 (1 : Int32) (x5 + (1 : Int32)) gm
def L_Mo_restows_26 (N : Nat) : Nat → Int32 → Int32 → Int32 → (Nat → Nat → Int32) → Option (Int32)
  | 0, _, _, _, _ => none
  | n + 1, x1, x2, x3, gm => (if (gm 0 6) ≤ x3 then (some x2) else (Option.bind (L_Mo_restows_40 N N x1 x2 x3 (0 : Int32) (0 : Int32) gm) fun (v13 : Int32) => (if v13 = 0 then (L_Mo_restows_26 N n x1 (x2 + (0 : Int32)) (x3 + (1 : Int32)) gm) else (L_Mo_restows_26 N n x1 (x2 + (1 : Int32)) (x3 + (1 : Int32)) gm))))
set_option maxHeartbeats 4000000 in
set_option maxRecDepth 100000 in
theorem l_Mo_restows_26 {X : Nat × (Nat → Int32)} (N : Nat) : ∀ (n : Nat) (x1 : Int32) (x2 : Int32) (x3 : Int32) (gm : Nat → Nat → Int32), sv_Q X 5 M_Mo_restows (26, [some (.ref 0), some (.int x1), some (.int x2), some (.int x3), none, none], [], (W_Mo gm)) (L_Mo_restows_26 N n x1 x2 x3 gm) (fun v σ' => σ' = (117, [none, none, some (.int v), none, none, none], [], (W_Mo gm))) := by
  intro n
  induction n with
  | zero => intro x1 x2 x3 gm; unfold L_Mo_restows_26; exact sv_Q.non
  | succ n ih =>
    intro x1 x2 x3 gm
    unfold L_Mo_restows_26
    refine sv_Q.s (σ' := (31, [some (.ref 0), some (.int x1), some (.int x2), some (.int x3), none, none], [.int (gm 0 6), .int x3], (W_Mo gm))) 3 rfl ?_
    refine sv_Q.b rfl (fun c3 => ?_) (fun c3 => ?_)
    · refine sv_Q.f (lo' := [none, none, some (.int x2), none, none, none]) ⟨rfl, trivial⟩ ?_
      exact sv_Q.z rfl
    · refine sv_Q.s (σ' := (40, [some (.ref 0), some (.int x1), some (.int x2), some (.int x3), some (.int (0 : Int32)), some (.int (0 : Int32))], [], (W_Mo gm))) 4 rfl ?_
      refine sv_Q.lo (fun v13 => (98, [some (.ref 0), some (.int x1), some (.int x2), some (.int x3), some (.int v13), none], [], (W_Mo gm))) (fun v13 => ?_) (l_Mo_restows_40 N N x1 x2 x3 (0 : Int32) (0 : Int32) gm)
      · refine sv_Q.s (σ' := (101, [some (.ref 0), some (.int x1), some (.int x2), some (.int x3), some (.int v13), none], [.int v13, .int x2], (W_Mo gm))) 2 rfl ?_
        refine sv_Q.b rfl (fun c14 => ?_) (fun c14 => ?_)
        · refine sv_Q.s (σ' := (26, [some (.ref 0), some (.int x1), some (.int (x2 + (0 : Int32))), some (.int (x3 + (1 : Int32))), some (.int v13), none], [], (W_Mo gm))) 5 rfl ?_
          refine sv_Q.f (lo' := [some (.ref 0), some (.int x1), some (.int (x2 + (0 : Int32))), some (.int (x3 + (1 : Int32))), none, none]) ⟨rfl, ⟨rfl, ⟨rfl, ⟨rfl, trivial⟩⟩⟩⟩ ?_
          exact ih x1 (x2 + (0 : Int32)) (x3 + (1 : Int32)) gm
        · refine sv_Q.s (σ' := (26, [some (.ref 0), some (.int x1), some (.int (x2 + (1 : Int32))), some (.int (x3 + (1 : Int32))), some (.int v13), none], [], (W_Mo gm))) 6 rfl ?_
          refine sv_Q.f (lo' := [some (.ref 0), some (.int x1), some (.int (x2 + (1 : Int32))), some (.int (x3 + (1 : Int32))), none, none]) ⟨rfl, ⟨rfl, ⟨rfl, ⟨rfl, trivial⟩⟩⟩⟩ ?_
          exact ih x1 (x2 + (1 : Int32)) (x3 + (1 : Int32)) gm
def F_Mo_restows (N : Nat) (a0 : Int32) (gm : Nat → Nat → Int32) : Option (Int32) := (if (gm 0 1) = 0 then (some (-2 : Int32)) else (if ¬ (F_Mo_in ((a0).toInt64) (1 : Int64) (5 : Int64)) = 0 then (Option.bind (L_Mo_restows_26 N N a0 (0 : Int32) (0 : Int32) gm) fun (v15 : Int32) => (some v15)) else (some (-2 : Int32))))
set_option maxHeartbeats 4000000 in
set_option maxRecDepth 100000 in
theorem r_Mo_restows {X : Nat × (Nat → Int32)} (N : Nat) (gm : Nat → Nat → Int32) (a0 : Int32) : ∀ x, (F_Mo_restows N a0 gm) = some x → sv_R X 6 M_Mo_restows [.ref 0, .int a0] (W_Mo gm) (some (.int x)) (W_Mo gm) := by
  refine sv_Q.R (res := (fun (x : Int32) => (some (.int x), (W_Mo gm)))) g_Mo_restows rfl ?_
  unfold F_Mo_restows
  refine sv_Q.s (σ' := (4, [some (.ref 0), some (.int a0), none, none, none, none], [.int (gm 0 1)], (W_Mo gm))) 2 rfl ?_
  refine sv_Q.b rfl (fun c1 => ?_) (fun c1 => ?_)
  · refine sv_Q.s (σ' := (21, [some (.ref 0), some (.int a0), none, none, none, none], [.int (-2 : Int32)], (W_Mo gm))) 1 rfl ?_
    exact sv_Q.z ⟨True, rfl, trivial, rfl⟩
  · refine sv_Q.s (σ' := (13, [some (.ref 0), some (.int a0), none, none, none, none], [.long (5 : Int64), .long (1 : Int64), .long ((a0).toInt64)], (W_Mo gm))) 4 rfl ?_
    refine sv_Q.S (ps := []) (rest := []) (cs1 := []) (cs2 := []) (st' := [.int (F_Mo_in ((a0).toInt64) (1 : Int64) (5 : Int64))]) (cs' := (W_Mo gm)) (q := (13, .null, 0, 0, 0)) lk_Mo_97 (t_Mo_in ((a0).toInt64) (1 : Int64) (5 : Int64)) rfl rfl rfl rfl rfl rfl rfl rfl rfl rfl (sv_pt_nil _ _) ?_
    refine sv_Q.b rfl (fun c2 => ?_) (fun c2 => ?_)
    · refine sv_Q.s (σ' := (26, [some (.ref 0), some (.int a0), some (.int (0 : Int32)), some (.int (0 : Int32)), none, none], [], (W_Mo gm))) 4 rfl ?_
      refine sv_Q.lo (fun v15 => (117, [none, none, some (.int v15), none, none, none], [], (W_Mo gm))) (fun v15 => ?_) (l_Mo_restows_26 N N a0 (0 : Int32) (0 : Int32) gm)
      · refine sv_Q.s (σ' := (118, [none, none, some (.int v15), none, none, none], [.int v15], (W_Mo gm))) 1 rfl ?_
        exact sv_Q.z ⟨True, rfl, trivial, rfl⟩
    · refine sv_Q.s (σ' := (21, [some (.ref 0), some (.int a0), none, none, none, none], [.int (-2 : Int32)], (W_Mo gm))) 1 rfl ?_
      exact sv_Q.z ⟨True, rfl, trivial, rfl⟩
def L_Mo_laysWaiting_7 (N : Nat) : Nat → Int32 → (Nat → Nat → Int32) → Option ((Nat → Nat → Int32))
  | 0, _, _ => none
  | n + 1, x1, gm => (if (gm 0 6) ≤ x1 then (some gm) else (if sv_in x1 24 then (if (gm 7 (x1).toNatClampNeg) = (-1 : Int32) then (if sv_in (gm 0 27) 24 then (sv_let (sa gm 11 (gm 0 27) x1) fun (gm_6 : Nat → Nat → Int32) => (sv_let (ss gm_6 27 ((gm_6 0 27) + (1 : Int32))) fun (gm_7 : Nat → Nat → Int32) => (L_Mo_laysWaiting_7 N n (x1 + (1 : Int32)) gm_7))) else none) else (L_Mo_laysWaiting_7 N n (x1 + (1 : Int32)) gm)) else none))
set_option maxHeartbeats 4000000 in
set_option maxRecDepth 100000 in
theorem l_Mo_laysWaiting_7 {X : Nat × (Nat → Int32)} (N : Nat) : ∀ (n : Nat) (x1 : Int32) (gm : Nat → Nat → Int32), sv_Q X 0 M_Mo_laysWaiting (7, [some (.ref 0), some (.int x1)], [], (W_Mo gm)) (L_Mo_laysWaiting_7 N n x1 gm) (fun v σ' => σ' = (54, [none, none], [], (W_Mo v))) := by
  intro n
  induction n with
  | zero => intro x1 gm; unfold L_Mo_laysWaiting_7; exact sv_Q.non
  | succ n ih =>
    intro x1 gm
    unfold L_Mo_laysWaiting_7
    refine sv_Q.s (σ' := (12, [some (.ref 0), some (.int x1)], [.int (gm 0 6), .int x1], (W_Mo gm))) 3 rfl ?_
    refine sv_Q.b rfl (fun c2 => ?_) (fun c2 => ?_)
    · refine sv_Q.f (lo' := [none, none]) trivial ?_
      exact sv_Q.z rfl
    · refine sv_Q.s (σ' := (20, [some (.ref 0), some (.int x1)], [.int x1, .ref 7], (W_Mo gm))) 3 rfl ?_
      refine sv_Q.g (σ' := (21, [some (.ref 0), some (.int x1)], [.int (gm 7 (x1).toNatClampNeg)], (W_Mo gm))) (c := sv_in x1 24) rfl (fun c3 => ?_)
      refine sv_Q.s (σ' := (22, [some (.ref 0), some (.int x1)], [.int (-1 : Int32), .int (gm 7 (x1).toNatClampNeg)], (W_Mo gm))) 1 rfl ?_
      refine sv_Q.b rfl (fun c4 => ?_) (fun c4 => ?_)
      · refine sv_Q.s (σ' := (37, [some (.ref 0), some (.int x1)], [.int x1, .int (gm 0 27), .ref 11], (W_Mo gm))) 5 rfl ?_
        refine sv_Q.g (σ' := (38, [some (.ref 0), some (.int x1)], [], (W_Mo (sa gm 11 (gm 0 27) x1)))) (c := sv_in (gm 0 27) 24) rfl (fun c5 => ?_)
        refine sv_Q.go (fun gm_6 => (38, [some (.ref 0), some (.int x1)], [], (W_Mo gm_6))) (fun gm_6 => ?_)
        refine sv_Q.s (σ' := (48, [some (.ref 0), some (.int x1)], [], (W_Mo (ss gm_6 27 ((gm_6 0 27) + (1 : Int32)))))) 6 rfl ?_
        refine sv_Q.go (fun gm_7 => (48, [some (.ref 0), some (.int x1)], [], (W_Mo gm_7))) (fun gm_7 => ?_)
        refine sv_Q.s (σ' := (7, [some (.ref 0), some (.int (x1 + (1 : Int32)))], [], (W_Mo gm_7))) 2 rfl ?_
        exact ih (x1 + (1 : Int32)) gm_7
      · refine sv_Q.s (σ' := (7, [some (.ref 0), some (.int (x1 + (1 : Int32)))], [], (W_Mo gm))) 3 rfl ?_
        exact ih (x1 + (1 : Int32)) gm
def F_Mo_laysWaiting (N : Nat) (gm : Nat → Nat → Int32) : Option ((Nat → Nat → Int32)) := (sv_let (ss gm 27 (0 : Int32)) fun (gm_1 : Nat → Nat → Int32) => (Option.bind (L_Mo_laysWaiting_7 N N (0 : Int32) gm_1) fun (v8 : (Nat → Nat → Int32)) => (some v8)))
set_option maxHeartbeats 4000000 in
set_option maxRecDepth 100000 in
theorem r_Mo_laysWaiting {X : Nat × (Nat → Int32)} (N : Nat) (gm : Nat → Nat → Int32) : ∀ x, (F_Mo_laysWaiting N gm) = some x → sv_R X 1 M_Mo_laysWaiting [.ref 0] (W_Mo gm) none (W_Mo x) := by
  refine sv_Q.R (res := (fun (x : (Nat → Nat → Int32)) => ((none : Option Value), (W_Mo x)))) g_Mo_laysWaiting rfl ?_
  unfold F_Mo_laysWaiting
  refine sv_Q.s (σ' := (5, [some (.ref 0), none], [], (W_Mo (ss gm 27 (0 : Int32))))) 3 rfl ?_
  refine sv_Q.go (fun gm_1 => (5, [some (.ref 0), none], [], (W_Mo gm_1))) (fun gm_1 => ?_)
  refine sv_Q.s (σ' := (7, [some (.ref 0), some (.int (0 : Int32))], [], (W_Mo gm_1))) 2 rfl ?_
  refine sv_Q.lo (fun v8 => (54, [none, none], [], (W_Mo v8))) (fun v8 => ?_) (l_Mo_laysWaiting_7 N N (0 : Int32) gm_1)
  · exact sv_Q.z ⟨True, rfl, trivial, rfl⟩
def F_Mo_isLeft (a0 : Int32) (gm : Nat → Nat → Int32) : Int32 := (if ¬ (gm 0 26) = 0 then (1 : Int32) else (if (gm 0 30) = (-1 : Int32) then (0 : Int32) else (if a0 < (gm 0 30) then (0 : Int32) else (1 : Int32))))
set_option maxHeartbeats 4000000 in
set_option maxRecDepth 100000 in
theorem r_Mo_isLeft {X : Nat × (Nat → Int32)} (gm : Nat → Nat → Int32) (a0 : Int32) : ∀ x, some (F_Mo_isLeft a0 gm) = some x → sv_R X 1 M_Mo_isLeft [.ref 0, .int a0] (W_Mo gm) (some (.int x)) (W_Mo gm) := by
  refine sv_Q.R (res := (fun (x : Int32) => (some (.int x), (W_Mo gm)))) g_Mo_isLeft rfl ?_
  unfold F_Mo_isLeft
  refine sv_Q.s (σ' := (4, [some (.ref 0), some (.int a0)], [.int (gm 0 26)], (W_Mo gm))) 2 rfl ?_
  refine sv_Q.sb rfl (fun c1 => ?_) (fun c1 => ?_)
  · refine sv_Q.s (σ' := (28, [some (.ref 0), some (.int a0)], [.int (1 : Int32)], (W_Mo gm))) 2 rfl ?_
    exact sv_Q.z ⟨sv_01 (1 : Int32), rfl, Or.inr rfl, rfl⟩
  · refine sv_Q.s (σ' := (12, [some (.ref 0), some (.int a0)], [.int (-1 : Int32), .int (gm 0 30)], (W_Mo gm))) 3 rfl ?_
    refine sv_Q.sb rfl (fun c2 => ?_) (fun c2 => ?_)
    · refine sv_Q.s (σ' := (28, [some (.ref 0), some (.int a0)], [.int (0 : Int32)], (W_Mo gm))) 1 rfl ?_
      exact sv_Q.z ⟨sv_01 (0 : Int32), rfl, Or.inl rfl, rfl⟩
    · refine sv_Q.s (σ' := (20, [some (.ref 0), some (.int a0)], [.int (gm 0 30), .int a0], (W_Mo gm))) 3 rfl ?_
      refine sv_Q.sb rfl (fun c3 => ?_) (fun c3 => ?_)
      · refine sv_Q.s (σ' := (28, [some (.ref 0), some (.int a0)], [.int (0 : Int32)], (W_Mo gm))) 1 rfl ?_
        exact sv_Q.z ⟨sv_01 (0 : Int32), rfl, Or.inl rfl, rfl⟩
      · refine sv_Q.s (σ' := (28, [some (.ref 0), some (.int a0)], [.int (1 : Int32)], (W_Mo gm))) 2 rfl ?_
        exact sv_Q.z ⟨sv_01 (1 : Int32), rfl, Or.inr rfl, rfl⟩
theorem t_Mo_isLeft {X : Nat × (Nat → Int32)} (gm : Nat → Nat → Int32) (a0 : Int32) : sv_R X 1 M_Mo_isLeft [.ref 0, .int a0] (W_Mo gm) (some (.int (F_Mo_isLeft a0 gm))) (W_Mo gm) := r_Mo_isLeft gm a0 _ rfl
theorem b_Mo_isLeft (a0 : Int32) (gm : Nat → Nat → Int32) : sv_01 (F_Mo_isLeft a0 gm) := by
  unfold F_Mo_isLeft
  try simp only [sv_let]
  repeat' split
  all_goals first | exact Or.inl rfl | exact Or.inr rfl
def L_Mo_goes_61 (N : Nat) (rec : Int32 → Int32 → (Nat → Nat → Int32) → Option ((Nat → Nat → Int32))) : Nat → Int32 → Int32 → Int32 → Int32 → (Nat → Nat → Int32) → Option (((Nat → Nat → Int32)) ⊕ ((Nat → Nat → Int32)))
  | 0, _, _, _, _, _ => none
  | n + 1, x1, x2, x3, x4, gm => (Option.bind (F_Mo_places N gm) fun (v4 : Int32) => (if v4 ≤ x4 then (some (.inl gm)) else (if ¬ (F_Mo_isLeft x2 gm) = 0 then (some (.inl gm)) else (Option.bind (F_Mo_whyBox N x3 x4 gm) fun (v8 : Int32) => (if v8 = 0 then (if ¬ (gm 0 24) = (gm 0 25) then (sv_let (ss gm 24 ((gm 0 24) + (1 : Int32))) fun (gm_12 : Nat → Nat → Int32) => (if sv_in x1 24 then (sv_let (sa gm_12 12 x1 x4) fun (gm_14 : Nat → Nat → Int32) => (Option.bind (F_Mo_lays N x3 x4 gm_14) fun (v15 : (Nat → Nat → Int32)) => (Option.bind (rec (x1 + (1 : Int32)) x2 v15) fun (v17 : (Nat → Nat → Int32)) => (Option.bind (F_Mo_lays N x3 (-1 : Int32) v17) fun (v19 : (Nat → Nat → Int32)) => (L_Mo_goes_61 N rec n x1 x2 x3 (x4 + (1 : Int32)) v19))))) else none)) else (sv_let (ss gm 26 (1 : Int32)) fun (gm_21 : Nat → Nat → Int32) => (some (.inr gm_21)))) else (L_Mo_goes_61 N rec n x1 x2 x3 (x4 + (1 : Int32)) gm))))))
set_option maxHeartbeats 4000000 in
set_option maxRecDepth 100000 in
theorem l_Mo_goes_61 {X : Nat × (Nat → Int32)} (N : Nat) (dd : Nat) (rec : Int32 → Int32 → (Nat → Nat → Int32) → Option ((Nat → Nat → Int32))) (hrec : ∀ (gm : Nat → Nat → Int32) (a0 : Int32) (a1 : Int32) x, rec a0 a1 gm = some x → sv_R X (dd + 10) M_Mo_goes [.ref 0, .int a0, .int a1] (W_Mo gm) none (W_Mo x)) : ∀ (n : Nat) (x1 : Int32) (x2 : Int32) (x3 : Int32) (x4 : Int32) (gm : Nat → Nat → Int32), sv_Q X (dd + 10) M_Mo_goes (61, [some (.ref 0), some (.int x1), some (.int x2), some (.int x3), some (.int x4)], [], (W_Mo gm)) (L_Mo_goes_61 N rec n x1 x2 x3 x4 gm) (sv_K2 (fun (v : (Nat → Nat → Int32)) => (153, [some (.ref 0), some (.int x1), some (.int x2), none, none], [], (W_Mo v))) (sv_KR M_Mo_goes (fun (x : (Nat → Nat → Int32)) => ((none : Option Value), (W_Mo x))))) := by
  intro n
  induction n with
  | zero => intro x1 x2 x3 x4 gm; unfold L_Mo_goes_61; exact sv_Q.non
  | succ n ih =>
    intro x1 x2 x3 x4 gm
    unfold L_Mo_goes_61
    refine sv_Q.s (σ' := (64, [some (.ref 0), some (.int x1), some (.int x2), some (.int x3), some (.int x4)], [.ref 0, .int x4], (W_Mo gm))) 2 rfl ?_
    refine sv_Q.o (fun v4 e5 => ?_)
    refine sv_Q.V (b := 0) (av := []) (ps := [0, 1, 2, 3, 4, 5, 6, 7, 8, 9, 10, 11, 12, 13, 14, 15, 16, 17, 18, 19, 20, 21, 22]) (rest := [.int x4]) (cs1 := (W_Mo gm)) (cs2 := (W_Mo gm)) (st' := [.int v4, .int x4]) (cs' := (W_Mo gm)) (q := (64, .null, 0, 0, 0)) lk_Mo_254 (r_Mo_places N gm v4 e5) rfl rfl rfl rfl rfl (Or.inl ⟨12, _, _, rfl, rfl, rfl⟩) rfl rfl (sc_Mo_Mo_0 gm) rfl rfl (pc_Mo_Mo_0 gm gm) ?_
    refine sv_Q.b rfl (fun c6 => ?_) (fun c6 => ?_)
    · refine sv_Q.f (lo' := [some (.ref 0), some (.int x1), some (.int x2), none, none]) ⟨rfl, ⟨rfl, ⟨rfl, trivial⟩⟩⟩ ?_
      exact sv_Q.z rfl
    · refine sv_Q.s (σ' := (72, [some (.ref 0), some (.int x1), some (.int x2), some (.int x3), some (.int x4)], [.int x2, .ref 0], (W_Mo gm))) 2 rfl ?_
      refine sv_Q.V (b := 0) (av := [.int x2]) (ps := [0, 1, 2, 3, 4, 5, 6, 7, 8, 9, 10, 11, 12, 13, 14, 15, 16, 17, 18, 19, 20, 21, 22]) (rest := []) (cs1 := (W_Mo gm)) (cs2 := (W_Mo gm)) (st' := [.int (F_Mo_isLeft x2 gm)]) (cs' := (W_Mo gm)) (q := (72, .null, 0, 0, 0)) lk_Mo_396 (t_Mo_isLeft gm x2) rfl rfl rfl rfl rfl (Or.inl ⟨12, _, _, rfl, rfl, rfl⟩) rfl rfl (sc_Mo_Mo_0 gm) rfl rfl (pc_Mo_Mo_0 gm gm) ?_
      refine sv_Q.b rfl (fun c7 => ?_) (fun c7 => ?_)
      · refine sv_Q.f (lo' := [some (.ref 0), some (.int x1), some (.int x2), none, none]) ⟨rfl, ⟨rfl, ⟨rfl, trivial⟩⟩⟩ ?_
        exact sv_Q.z rfl
      · refine sv_Q.s (σ' := (82, [some (.ref 0), some (.int x1), some (.int x2), some (.int x3), some (.int x4)], [.int x4, .int x3, .ref 0], (W_Mo gm))) 3 rfl ?_
        refine sv_Q.o (fun v8 e9 => ?_)
        refine sv_Q.V (b := 0) (av := [.int x3, .int x4]) (ps := [0, 1, 2, 3, 4, 5, 6, 7, 8, 9, 10, 11, 12, 13, 14, 15, 16, 17, 18, 19, 20, 21, 22]) (rest := []) (cs1 := (W_Mo gm)) (cs2 := (W_Mo gm)) (st' := [.int v8]) (cs' := (W_Mo gm)) (q := (82, .null, 0, 0, 0)) lk_Mo_337 (r_Mo_whyBox N gm x3 x4 v8 e9) rfl rfl rfl rfl rfl (Or.inl ⟨12, _, _, rfl, rfl, rfl⟩) rfl rfl (sc_Mo_Mo_0 gm) rfl rfl (pc_Mo_Mo_0 gm gm) ?_
        refine sv_Q.b rfl (fun c10 => ?_) (fun c10 => ?_)
        · refine sv_Q.s (σ' := (99, [some (.ref 0), some (.int x1), some (.int x2), some (.int x3), some (.int x4)], [.int (gm 0 25), .int (gm 0 24)], (W_Mo gm))) 4 rfl ?_
          refine sv_Q.b rfl (fun c11 => ?_) (fun c11 => ?_)
          · refine sv_Q.s (σ' := (118, [some (.ref 0), some (.int x1), some (.int x2), some (.int x3), some (.int x4)], [], (W_Mo (ss gm 24 ((gm 0 24) + (1 : Int32)))))) 6 rfl ?_
            refine sv_Q.go (fun gm_12 => (118, [some (.ref 0), some (.int x1), some (.int x2), some (.int x3), some (.int x4)], [], (W_Mo gm_12))) (fun gm_12 => ?_)
            refine sv_Q.s (σ' := (125, [some (.ref 0), some (.int x1), some (.int x2), some (.int x3), some (.int x4)], [.int x4, .int x1, .ref 12], (W_Mo gm_12))) 4 rfl ?_
            refine sv_Q.g (σ' := (126, [some (.ref 0), some (.int x1), some (.int x2), some (.int x3), some (.int x4)], [], (W_Mo (sa gm_12 12 x1 x4)))) (c := sv_in x1 24) rfl (fun c13 => ?_)
            refine sv_Q.go (fun gm_14 => (126, [some (.ref 0), some (.int x1), some (.int x2), some (.int x3), some (.int x4)], [], (W_Mo gm_14))) (fun gm_14 => ?_)
            refine sv_Q.s (σ' := (130, [some (.ref 0), some (.int x1), some (.int x2), some (.int x3), some (.int x4)], [.int x4, .int x3, .ref 0], (W_Mo gm_14))) 3 rfl ?_
            refine sv_Q.o (fun v15 e16 => ?_)
            refine sv_Q.V (b := 0) (av := [.int x3, .int x4]) (ps := [0, 1, 2, 3, 4, 5, 6, 7, 8, 9, 10, 11, 12, 13, 14, 15, 16, 17, 18, 19, 20, 21, 22]) (rest := []) (cs1 := (W_Mo gm_14)) (cs2 := (W_Mo v15)) (st' := []) (cs' := (W_Mo v15)) (q := (130, .null, 0, 0, 0)) lk_Mo_346 (r_Mo_lays N gm_14 x3 x4 v15 e16) rfl rfl rfl rfl rfl (Or.inl ⟨12, _, _, rfl, rfl, rfl⟩) rfl rfl (sc_Mo_Mo_0 gm_14) rfl rfl (pc_Mo_Mo_0 gm_14 v15) ?_
            refine sv_Q.s (σ' := (138, [some (.ref 0), some (.int x1), some (.int x2), some (.int x3), some (.int x4)], [.int x2, .int (x1 + (1 : Int32)), .ref 0], (W_Mo v15))) 5 rfl ?_
            refine sv_Q.o (fun v17 e18 => ?_)
            refine sv_Q.V (b := 0) (av := [.int (x1 + (1 : Int32)), .int x2]) (ps := [0, 1, 2, 3, 4, 5, 6, 7, 8, 9, 10, 11, 12, 13, 14, 15, 16, 17, 18, 19, 20, 21, 22]) (rest := []) (cs1 := (W_Mo v15)) (cs2 := (W_Mo v17)) (st' := []) (cs' := (W_Mo v17)) (q := (138, .null, 0, 0, 0)) lk_Mo_405 (hrec v15 (x1 + (1 : Int32)) x2 v17 e18) (Nat.ble_eq_true_of_le (Nat.le_refl _)) rfl rfl rfl rfl (Or.inl ⟨12, _, _, rfl, rfl, rfl⟩) rfl rfl (sc_Mo_Mo_0 v15) rfl rfl (pc_Mo_Mo_0 v15 v17) ?_
            refine sv_Q.s (σ' := (144, [some (.ref 0), some (.int x1), some (.int x2), some (.int x3), some (.int x4)], [.int (-1 : Int32), .int x3, .ref 0], (W_Mo v17))) 3 rfl ?_
            refine sv_Q.o (fun v19 e20 => ?_)
            refine sv_Q.V (b := 0) (av := [.int x3, .int (-1 : Int32)]) (ps := [0, 1, 2, 3, 4, 5, 6, 7, 8, 9, 10, 11, 12, 13, 14, 15, 16, 17, 18, 19, 20, 21, 22]) (rest := []) (cs1 := (W_Mo v17)) (cs2 := (W_Mo v19)) (st' := []) (cs' := (W_Mo v19)) (q := (144, .null, 0, 0, 0)) lk_Mo_346 (r_Mo_lays N v17 x3 (-1 : Int32) v19 e20) rfl rfl rfl rfl rfl (Or.inl ⟨12, _, _, rfl, rfl, rfl⟩) rfl rfl (sc_Mo_Mo_0 v17) rfl rfl (pc_Mo_Mo_0 v17 v19) ?_
            refine sv_Q.s (σ' := (61, [some (.ref 0), some (.int x1), some (.int x2), some (.int x3), some (.int (x4 + (1 : Int32)))], [], (W_Mo v19))) 2 rfl ?_
            exact ih x1 x2 x3 (x4 + (1 : Int32)) v19
          · refine sv_Q.s (σ' := (104, [some (.ref 0), some (.int x1), some (.int x2), some (.int x3), some (.int x4)], [.int (1 : Int32), .ref 0], (W_Mo gm))) 2 rfl ?_
            refine sv_Q.gk (σ' := (107, [some (.ref 0), some (.int x1), some (.int x2), some (.int x3), some (.int x4)], [], (W_Mo (ss gm 26 (1 : Int32))))) (c := sv_01 (1 : Int32)) rfl (Or.inr rfl) ?_
            refine sv_Q.go (fun gm_21 => (107, [some (.ref 0), some (.int x1), some (.int x2), some (.int x3), some (.int x4)], [], (W_Mo gm_21))) (fun gm_21 => ?_)
            exact sv_Q.z ⟨True, rfl, trivial, rfl⟩
        · refine sv_Q.s (σ' := (61, [some (.ref 0), some (.int x1), some (.int x2), some (.int x3), some (.int (x4 + (1 : Int32)))], [], (W_Mo gm))) 3 rfl ?_
          exact ih x1 x2 x3 (x4 + (1 : Int32)) gm
def L_Mo_goes_24 (N : Nat) (rec : Int32 → Int32 → (Nat → Nat → Int32) → Option ((Nat → Nat → Int32))) : Nat → Int32 → (Nat → Nat → Int32) → Option ((Nat → Nat → Int32))
  | 0, _, _ => none
  | n + 1, x3, gm => (if (gm 0 27) ≤ x3 then (some gm) else (if sv_in x3 24 then (if sv_in x3 24 then (sv_let (sa gm 13 x3 (gm 12 (x3).toNatClampNeg)) fun (gm_32 : Nat → Nat → Int32) => (L_Mo_goes_24 N rec n (x3 + (1 : Int32)) gm_32)) else none) else none))
set_option maxHeartbeats 4000000 in
set_option maxRecDepth 100000 in
theorem l_Mo_goes_24 {X : Nat × (Nat → Int32)} (N : Nat) (dd : Nat) (rec : Int32 → Int32 → (Nat → Nat → Int32) → Option ((Nat → Nat → Int32))) (hrec : ∀ (gm : Nat → Nat → Int32) (a0 : Int32) (a1 : Int32) x, rec a0 a1 gm = some x → sv_R X (dd + 10) M_Mo_goes [.ref 0, .int a0, .int a1] (W_Mo gm) none (W_Mo x)) : ∀ (n : Nat) (x3 : Int32) (gm : Nat → Nat → Int32), sv_Q X (dd + 10) M_Mo_goes (24, [some (.ref 0), none, none, some (.int x3), none], [], (W_Mo gm)) (L_Mo_goes_24 N rec n x3 gm) (fun v σ' => σ' = (50, [none, none, none, none, none], [], (W_Mo v))) := by
  intro n
  induction n with
  | zero => intro x3 gm; unfold L_Mo_goes_24; exact sv_Q.non
  | succ n ih =>
    intro x3 gm
    unfold L_Mo_goes_24
    refine sv_Q.s (σ' := (29, [some (.ref 0), none, none, some (.int x3), none], [.int (gm 0 27), .int x3], (W_Mo gm))) 3 rfl ?_
    refine sv_Q.b rfl (fun c29 => ?_) (fun c29 => ?_)
    · refine sv_Q.f (lo' := [none, none, none, none, none]) trivial ?_
      exact sv_Q.z rfl
    · refine sv_Q.s (σ' := (42, [some (.ref 0), none, none, some (.int x3), none], [.int x3, .ref 12, .int x3, .ref 13], (W_Mo gm))) 6 rfl ?_
      refine sv_Q.g (σ' := (43, [some (.ref 0), none, none, some (.int x3), none], [.int (gm 12 (x3).toNatClampNeg), .int x3, .ref 13], (W_Mo gm))) (c := sv_in x3 24) rfl (fun c30 => ?_)
      refine sv_Q.g (σ' := (44, [some (.ref 0), none, none, some (.int x3), none], [], (W_Mo (sa gm 13 x3 (gm 12 (x3).toNatClampNeg))))) (c := sv_in x3 24) rfl (fun c31 => ?_)
      refine sv_Q.go (fun gm_32 => (44, [some (.ref 0), none, none, some (.int x3), none], [], (W_Mo gm_32))) (fun gm_32 => ?_)
      refine sv_Q.s (σ' := (24, [some (.ref 0), none, none, some (.int (x3 + (1 : Int32))), none], [], (W_Mo gm_32))) 2 rfl ?_
      exact ih (x3 + (1 : Int32)) gm_32
def F_Mo_goes (N : Nat) : Nat → Int32 → Int32 → (Nat → Nat → Int32) → Option ((Nat → Nat → Int32))
  | 0, _, _, _ => none
  | dd + 1, a0, a1, gm => (if (F_Mo_isLeft a1 gm) = 0 then (if ¬ a0 = (gm 0 27) then (if sv_in a0 24 then (sv_bs (L_Mo_goes_61 N (F_Mo_goes N dd) N a0 a1 (gm 11 (a0).toNatClampNeg) (0 : Int32) gm) id fun (v22 : (Nat → Nat → Int32)) => (if (F_Mo_isLeft a1 v22) = 0 then (if sv_in a0 24 then (sv_let (sa v22 12 a0 (-1 : Int32)) fun (gm_25 : Nat → Nat → Int32) => (Option.bind (F_Mo_goes N dd (a0 + (1 : Int32)) (a1 + (1 : Int32)) gm_25) fun (v26 : (Nat → Nat → Int32)) => (some v26))) else none) else (some v22))) else none) else (sv_let (ss gm 30 a1) fun (gm_28 : Nat → Nat → Int32) => (Option.bind (L_Mo_goes_24 N (F_Mo_goes N dd) N (0 : Int32) gm_28) fun (v33 : (Nat → Nat → Int32)) => (some v33)))) else (some gm))
set_option maxHeartbeats 4000000 in
set_option maxRecDepth 100000 in
theorem r_Mo_goes {X : Nat × (Nat → Int32)} (N : Nat) : ∀ (dd : Nat) (gm : Nat → Nat → Int32) (a0 : Int32) (a1 : Int32) x, F_Mo_goes N dd a0 a1 gm = some x → sv_R X (dd + 10) M_Mo_goes [.ref 0, .int a0, .int a1] (W_Mo gm) none (W_Mo x) := by
  intro dd
  induction dd with
  | zero => intro gm a0 a1 x hx; unfold F_Mo_goes at hx; cases hx
  | succ dd ih =>
    intro gm a0 a1
    show ∀ x, _ → sv_R X (dd + 10 + 1) _ _ _ _ _
    refine sv_Q.R (res := (fun (x : (Nat → Nat → Int32)) => ((none : Option Value), (W_Mo x)))) g_Mo_goes rfl ?_
    unfold F_Mo_goes
    refine sv_Q.s (σ' := (2, [some (.ref 0), some (.int a0), some (.int a1), none, none], [.int a1, .ref 0], (W_Mo gm))) 2 rfl ?_
    refine sv_Q.V (b := 0) (av := [.int a1]) (ps := [0, 1, 2, 3, 4, 5, 6, 7, 8, 9, 10, 11, 12, 13, 14, 15, 16, 17, 18, 19, 20, 21, 22]) (rest := []) (cs1 := (W_Mo gm)) (cs2 := (W_Mo gm)) (st' := [.int (F_Mo_isLeft a1 gm)]) (cs' := (W_Mo gm)) (q := (2, .null, 0, 0, 0)) lk_Mo_396 (t_Mo_isLeft gm a1) rfl rfl rfl rfl rfl (Or.inl ⟨12, _, _, rfl, rfl, rfl⟩) rfl rfl (sc_Mo_Mo_0 gm) rfl rfl (pc_Mo_Mo_0 gm gm) ?_
    refine sv_Q.b rfl (fun c1 => ?_) (fun c1 => ?_)
    · refine sv_Q.s (σ' := (14, [some (.ref 0), some (.int a0), some (.int a1), none, none], [.int (gm 0 27), .int a0], (W_Mo gm))) 3 rfl ?_
      refine sv_Q.b rfl (fun c2 => ?_) (fun c2 => ?_)
      · refine sv_Q.s (σ' := (56, [some (.ref 0), some (.int a0), some (.int a1), none, none], [.int a0, .ref 11], (W_Mo gm))) 3 rfl ?_
        refine sv_Q.g (σ' := (57, [some (.ref 0), some (.int a0), some (.int a1), none, none], [.int (gm 11 (a0).toNatClampNeg)], (W_Mo gm))) (c := sv_in a0 24) rfl (fun c3 => ?_)
        refine sv_Q.s (σ' := (61, [some (.ref 0), some (.int a0), some (.int a1), some (.int (gm 11 (a0).toNatClampNeg)), some (.int (0 : Int32))], [], (W_Mo gm))) 3 rfl ?_
        refine sv_Q.bs (l_Mo_goes_61 N dd (F_Mo_goes N dd) ih N a0 a1 (gm 11 (a0).toNatClampNeg) (0 : Int32) gm) (fun v22 => ?_) (fun r σ' h => h)
        · refine sv_Q.s (σ' := (155, [some (.ref 0), some (.int a0), some (.int a1), none, none], [.int a1, .ref 0], (W_Mo v22))) 2 rfl ?_
          refine sv_Q.V (b := 0) (av := [.int a1]) (ps := [0, 1, 2, 3, 4, 5, 6, 7, 8, 9, 10, 11, 12, 13, 14, 15, 16, 17, 18, 19, 20, 21, 22]) (rest := []) (cs1 := (W_Mo v22)) (cs2 := (W_Mo v22)) (st' := [.int (F_Mo_isLeft a1 v22)]) (cs' := (W_Mo v22)) (q := (155, .null, 0, 0, 0)) lk_Mo_396 (t_Mo_isLeft v22 a1) rfl rfl rfl rfl rfl (Or.inl ⟨12, _, _, rfl, rfl, rfl⟩) rfl rfl (sc_Mo_Mo_0 v22) rfl rfl (pc_Mo_Mo_0 v22 v22) ?_
          refine sv_Q.b rfl (fun c23 => ?_) (fun c23 => ?_)
          · refine sv_Q.s (σ' := (168, [some (.ref 0), some (.int a0), some (.int a1), none, none], [.int (-1 : Int32), .int a0, .ref 12], (W_Mo v22))) 4 rfl ?_
            refine sv_Q.g (σ' := (169, [some (.ref 0), some (.int a0), some (.int a1), none, none], [], (W_Mo (sa v22 12 a0 (-1 : Int32))))) (c := sv_in a0 24) rfl (fun c24 => ?_)
            refine sv_Q.go (fun gm_25 => (169, [some (.ref 0), some (.int a0), some (.int a1), none, none], [], (W_Mo gm_25))) (fun gm_25 => ?_)
            refine sv_Q.s (σ' := (176, [some (.ref 0), some (.int a0), some (.int a1), none, none], [.int (a1 + (1 : Int32)), .int (a0 + (1 : Int32)), .ref 0], (W_Mo gm_25))) 7 rfl ?_
            refine sv_Q.o (fun v26 e27 => ?_)
            refine sv_Q.V (b := 0) (av := [.int (a0 + (1 : Int32)), .int (a1 + (1 : Int32))]) (ps := [0, 1, 2, 3, 4, 5, 6, 7, 8, 9, 10, 11, 12, 13, 14, 15, 16, 17, 18, 19, 20, 21, 22]) (rest := []) (cs1 := (W_Mo gm_25)) (cs2 := (W_Mo v26)) (st' := []) (cs' := (W_Mo v26)) (q := (176, .null, 0, 0, 0)) lk_Mo_405 (ih gm_25 (a0 + (1 : Int32)) (a1 + (1 : Int32)) v26 e27) (Nat.ble_eq_true_of_le (Nat.le_refl _)) rfl rfl rfl rfl (Or.inl ⟨12, _, _, rfl, rfl, rfl⟩) rfl rfl (sc_Mo_Mo_0 gm_25) rfl rfl (pc_Mo_Mo_0 gm_25 v26) ?_
            exact sv_Q.z ⟨True, rfl, trivial, rfl⟩
          · exact sv_Q.z ⟨True, rfl, trivial, rfl⟩
      · refine sv_Q.s (σ' := (22, [some (.ref 0), some (.int a0), some (.int a1), none, none], [], (W_Mo (ss gm 30 a1)))) 3 rfl ?_
        refine sv_Q.go (fun gm_28 => (22, [some (.ref 0), some (.int a0), some (.int a1), none, none], [], (W_Mo gm_28))) (fun gm_28 => ?_)
        refine sv_Q.s (σ' := (24, [some (.ref 0), some (.int a0), some (.int a1), some (.int (0 : Int32)), none], [], (W_Mo gm_28))) 2 rfl ?_
        refine sv_Q.f (lo' := [some (.ref 0), none, none, some (.int (0 : Int32)), none]) ⟨rfl, ⟨rfl, trivial⟩⟩ ?_
        refine sv_Q.lo (fun v33 => (50, [none, none, none, none, none], [], (W_Mo v33))) (fun v33 => ?_) (l_Mo_goes_24 N dd (F_Mo_goes N dd) ih N (0 : Int32) gm_28)
        · exact sv_Q.z ⟨True, rfl, trivial, rfl⟩
    · exact sv_Q.z ⟨True, rfl, trivial, rfl⟩
def F_Mo_searches (N : Nat) (a0 : Int32) (gm : Nat → Nat → Int32) : Option (Int32 × (Nat → Nat → Int32)) := (sv_let (ss gm 24 (0 : Int32)) fun (gm_1 : Nat → Nat → Int32) => (sv_let (ss gm_1 25 a0) fun (gm_2 : Nat → Nat → Int32) => (sv_let (ss gm_2 26 (0 : Int32)) fun (gm_3 : Nat → Nat → Int32) => (sv_let (ss gm_3 30 (-1 : Int32)) fun (gm_4 : Nat → Nat → Int32) => (Option.bind (F_Mo_laysWaiting N gm_4) fun (v5 : (Nat → Nat → Int32)) => (Option.bind (F_Mo_goes N 27 (0 : Int32) (0 : Int32) v5) fun (v7 : (Nat → Nat → Int32)) => (if ¬ (v7 0 26) = 0 then (some ((0 : Int32), v7)) else (some ((1 : Int32), v7)))))))))
set_option maxHeartbeats 4000000 in
set_option maxRecDepth 100000 in
theorem r_Mo_searches {X : Nat × (Nat → Int32)} (N : Nat) (gm : Nat → Nat → Int32) (a0 : Int32) : ∀ x, (F_Mo_searches N a0 gm) = some x → sv_R X 38 M_Mo_searches [.ref 0, .int a0] (W_Mo gm) (some (.int x.1)) (W_Mo x.2) := by
  refine sv_Q.R (res := (fun (x : Int32 × (Nat → Nat → Int32)) => (some (.int x.1), (W_Mo x.2)))) g_Mo_searches rfl ?_
  unfold F_Mo_searches
  refine sv_Q.s (σ' := (5, [some (.ref 0), some (.int a0)], [], (W_Mo (ss gm 24 (0 : Int32))))) 3 rfl ?_
  refine sv_Q.go (fun gm_1 => (5, [some (.ref 0), some (.int a0)], [], (W_Mo gm_1))) (fun gm_1 => ?_)
  refine sv_Q.s (σ' := (10, [some (.ref 0), some (.int a0)], [], (W_Mo (ss gm_1 25 a0)))) 3 rfl ?_
  refine sv_Q.go (fun gm_2 => (10, [some (.ref 0), some (.int a0)], [], (W_Mo gm_2))) (fun gm_2 => ?_)
  refine sv_Q.s (σ' := (12, [some (.ref 0), some (.int a0)], [.int (0 : Int32), .ref 0], (W_Mo gm_2))) 2 rfl ?_
  refine sv_Q.gk (σ' := (15, [some (.ref 0), some (.int a0)], [], (W_Mo (ss gm_2 26 (0 : Int32))))) (c := sv_01 (0 : Int32)) rfl (Or.inl rfl) ?_
  refine sv_Q.go (fun gm_3 => (15, [some (.ref 0), some (.int a0)], [], (W_Mo gm_3))) (fun gm_3 => ?_)
  refine sv_Q.s (σ' := (20, [some (.ref 0), some (.int a0)], [], (W_Mo (ss gm_3 30 (-1 : Int32))))) 3 rfl ?_
  refine sv_Q.go (fun gm_4 => (20, [some (.ref 0), some (.int a0)], [], (W_Mo gm_4))) (fun gm_4 => ?_)
  refine sv_Q.s (σ' := (21, [some (.ref 0), some (.int a0)], [.ref 0], (W_Mo gm_4))) 1 rfl ?_
  refine sv_Q.o (fun v5 e6 => ?_)
  refine sv_Q.V (b := 0) (av := []) (ps := [0, 1, 2, 3, 4, 5, 6, 7, 8, 9, 10, 11, 12, 13, 14, 15, 16, 17, 18, 19, 20, 21, 22]) (rest := []) (cs1 := (W_Mo gm_4)) (cs2 := (W_Mo v5)) (st' := []) (cs' := (W_Mo v5)) (q := (21, .null, 0, 0, 0)) lk_Mo_408 (r_Mo_laysWaiting N gm_4 v5 e6) rfl rfl rfl rfl rfl (Or.inl ⟨12, _, _, rfl, rfl, rfl⟩) rfl rfl (sc_Mo_Mo_0 gm_4) rfl rfl (pc_Mo_Mo_0 gm_4 v5) ?_
  refine sv_Q.s (σ' := (27, [some (.ref 0), some (.int a0)], [.int (0 : Int32), .int (0 : Int32), .ref 0], (W_Mo v5))) 3 rfl ?_
  refine sv_Q.o (fun v7 e8 => ?_)
  refine sv_Q.V (b := 0) (av := [.int (0 : Int32), .int (0 : Int32)]) (ps := [0, 1, 2, 3, 4, 5, 6, 7, 8, 9, 10, 11, 12, 13, 14, 15, 16, 17, 18, 19, 20, 21, 22]) (rest := []) (cs1 := (W_Mo v5)) (cs2 := (W_Mo v7)) (st' := []) (cs' := (W_Mo v7)) (q := (27, .null, 0, 0, 0)) lk_Mo_405 (r_Mo_goes N 27 v5 (0 : Int32) (0 : Int32) v7 e8) rfl rfl rfl rfl rfl (Or.inl ⟨12, _, _, rfl, rfl, rfl⟩) rfl rfl (sc_Mo_Mo_0 v5) rfl rfl (pc_Mo_Mo_0 v5 v7) ?_
  refine sv_Q.s (σ' := (34, [some (.ref 0), some (.int a0)], [.int (v7 0 26)], (W_Mo v7))) 2 rfl ?_
  refine sv_Q.b rfl (fun c9 => ?_) (fun c9 => ?_)
  · refine sv_Q.s (σ' := (42, [some (.ref 0), some (.int a0)], [.int (0 : Int32)], (W_Mo v7))) 1 rfl ?_
    exact sv_Q.z ⟨sv_01 (0 : Int32), rfl, Or.inl rfl, rfl⟩
  · refine sv_Q.s (σ' := (42, [some (.ref 0), some (.int a0)], [.int (1 : Int32)], (W_Mo v7))) 2 rfl ?_
    exact sv_Q.z ⟨sv_01 (1 : Int32), rfl, Or.inr rfl, rfl⟩
def F_Mo_canSearch (a0 : Int32) (gm : Nat → Nat → Int32) : Int32 := (if (gm 0 1) = 0 then (0 : Int32) else (if (F_Mo_in ((a0).toInt64) (1 : Int64) (50000 : Int64)) = 0 then (0 : Int32) else (1 : Int32)))
set_option maxHeartbeats 4000000 in
set_option maxRecDepth 100000 in
theorem r_Mo_canSearch {X : Nat × (Nat → Int32)} (gm : Nat → Nat → Int32) (a0 : Int32) : ∀ x, some (F_Mo_canSearch a0 gm) = some x → sv_R X 2 M_Mo_canSearch [.ref 0, .int a0] (W_Mo gm) (some (.int x)) (W_Mo gm) := by
  refine sv_Q.R (res := (fun (x : Int32) => (some (.int x), (W_Mo gm)))) g_Mo_canSearch rfl ?_
  unfold F_Mo_canSearch
  refine sv_Q.s (σ' := (4, [some (.ref 0), some (.int a0)], [.int (gm 0 1)], (W_Mo gm))) 2 rfl ?_
  refine sv_Q.sb rfl (fun c1 => ?_) (fun c1 => ?_)
  · refine sv_Q.s (σ' := (24, [some (.ref 0), some (.int a0)], [.int (0 : Int32)], (W_Mo gm))) 1 rfl ?_
    exact sv_Q.z ⟨sv_01 (0 : Int32), rfl, Or.inl rfl, rfl⟩
  · refine sv_Q.s (σ' := (13, [some (.ref 0), some (.int a0)], [.long (50000 : Int64), .long (1 : Int64), .long ((a0).toInt64)], (W_Mo gm))) 4 rfl ?_
    refine sv_Q.S (ps := []) (rest := []) (cs1 := []) (cs2 := []) (st' := [.int (F_Mo_in ((a0).toInt64) (1 : Int64) (50000 : Int64))]) (cs' := (W_Mo gm)) (q := (13, .null, 0, 0, 0)) lk_Mo_97 (t_Mo_in ((a0).toInt64) (1 : Int64) (50000 : Int64)) rfl rfl rfl rfl rfl rfl rfl rfl rfl rfl (sv_pt_nil _ _) ?_
    refine sv_Q.sb rfl (fun c2 => ?_) (fun c2 => ?_)
    · refine sv_Q.s (σ' := (24, [some (.ref 0), some (.int a0)], [.int (0 : Int32)], (W_Mo gm))) 1 rfl ?_
      exact sv_Q.z ⟨sv_01 (0 : Int32), rfl, Or.inl rfl, rfl⟩
    · refine sv_Q.s (σ' := (24, [some (.ref 0), some (.int a0)], [.int (1 : Int32)], (W_Mo gm))) 2 rfl ?_
      exact sv_Q.z ⟨sv_01 (1 : Int32), rfl, Or.inr rfl, rfl⟩
theorem t_Mo_canSearch {X : Nat × (Nat → Int32)} (gm : Nat → Nat → Int32) (a0 : Int32) : sv_R X 2 M_Mo_canSearch [.ref 0, .int a0] (W_Mo gm) (some (.int (F_Mo_canSearch a0 gm))) (W_Mo gm) := r_Mo_canSearch gm a0 _ rfl
theorem b_Mo_canSearch (a0 : Int32) (gm : Nat → Nat → Int32) : sv_01 (F_Mo_canSearch a0 gm) := by
  unfold F_Mo_canSearch
  try simp only [sv_let]
  repeat' split
  all_goals first | exact Or.inl rfl | exact Or.inr rfl | apply b_Mo_in
