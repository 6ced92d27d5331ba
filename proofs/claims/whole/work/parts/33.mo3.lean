/-! the reference, 3, by program out of the listing -/
def L_Mo_tellsRow_13_7 (N : Nat) : Nat → Int32 → (Nat → Nat → Int32) → Option ((Nat → Nat → Int32))
  | 0, _, _ => none
  | n + 1, x2, gm => (if (24 : Int32) ≤ x2 then (some gm) else (if sv_in x2 24 then (sv_let (sa gm 14 x2 (vp_nar .boolean (0 : Int32))) fun (gm_4 : Nat → Nat → Int32) => (L_Mo_tellsRow_13_7 N n (x2 + (1 : Int32)) gm_4)) else none))
set_option maxHeartbeats 4000000 in
set_option maxRecDepth 100000 in
theorem l_Mo_tellsRow_13_7 {X : Nat × (Nat → Int32)} (N : Nat) : ∀ (n : Nat) (x2 : Int32) (gm : Nat → Nat → Int32), sv_Q X 0 M_Mo_tellsRow (7, [some (.ref 0), some (.ref 13), some (.int x2)], [], (W_Mo gm)) (L_Mo_tellsRow_13_7 N n x2 gm) (fun v σ' => σ' = (26, [some (.ref 0), some (.ref 13), none], [], (W_Mo v))) := by
  intro n
  induction n with
  | zero => intro x2 gm; unfold L_Mo_tellsRow_13_7; exact sv_Q.non
  | succ n ih =>
    intro x2 gm
    unfold L_Mo_tellsRow_13_7
    refine sv_Q.s (σ' := (10, [some (.ref 0), some (.ref 13), some (.int x2)], [.int (24 : Int32), .int x2], (W_Mo gm))) 2 rfl ?_
    refine sv_Q.b rfl (fun c2 => ?_) (fun c2 => ?_)
    · refine sv_Q.f (lo' := [some (.ref 0), some (.ref 13), none]) ⟨rfl, ⟨rfl, trivial⟩⟩ ?_
      exact sv_Q.z rfl
    · refine sv_Q.s (σ' := (19, [some (.ref 0), some (.ref 13), some (.int x2)], [.int (0 : Int32), .int x2, .ref 14], (W_Mo gm))) 4 rfl ?_
      refine sv_Q.g (σ' := (20, [some (.ref 0), some (.ref 13), some (.int x2)], [], (W_Mo (sa gm 14 x2 (vp_nar .boolean (0 : Int32)))))) (c := sv_in x2 24) rfl (fun c3 => ?_)
      refine sv_Q.go (fun gm_4 => (20, [some (.ref 0), some (.ref 13), some (.int x2)], [], (W_Mo gm_4))) (fun gm_4 => ?_)
      refine sv_Q.s (σ' := (7, [some (.ref 0), some (.ref 13), some (.int (x2 + (1 : Int32)))], [], (W_Mo gm_4))) 2 rfl ?_
      exact ih (x2 + (1 : Int32)) gm_4
def L_Mo_tellsRow_13_28 (N : Nat) : Nat → Int32 → (Nat → Nat → Int32) → Option ((Nat → Nat → Int32))
  | 0, _, _ => none
  | n + 1, x2, gm => (if (gm 0 27) ≤ x2 then (some gm) else (if sv_in x2 24 then (if sv_in (gm 11 (x2).toNatClampNeg) 24 then (sv_let (sa gm 14 (gm 11 (x2).toNatClampNeg) (vp_nar .boolean (1 : Int32))) fun (gm_9 : Nat → Nat → Int32) => (if sv_in x2 24 then (if sv_in x2 24 then (if sv_in (gm_9 11 (x2).toNatClampNeg) 24 then (sv_let (sa gm_9 15 (gm_9 11 (x2).toNatClampNeg) (gm_9 13 (x2).toNatClampNeg)) fun (gm_13 : Nat → Nat → Int32) => (L_Mo_tellsRow_13_28 N n (x2 + (1 : Int32)) gm_13)) else none) else none) else none)) else none) else none))
set_option maxHeartbeats 4000000 in
set_option maxRecDepth 100000 in
theorem l_Mo_tellsRow_13_28 {X : Nat × (Nat → Int32)} (N : Nat) : ∀ (n : Nat) (x2 : Int32) (gm : Nat → Nat → Int32), sv_Q X 0 M_Mo_tellsRow (28, [some (.ref 0), some (.ref 13), some (.int x2)], [], (W_Mo gm)) (L_Mo_tellsRow_13_28 N n x2 gm) (fun v σ' => σ' = (68, [none, none, none], [], (W_Mo v))) := by
  intro n
  induction n with
  | zero => intro x2 gm; unfold L_Mo_tellsRow_13_28; exact sv_Q.non
  | succ n ih =>
    intro x2 gm
    unfold L_Mo_tellsRow_13_28
    refine sv_Q.s (σ' := (33, [some (.ref 0), some (.ref 13), some (.int x2)], [.int (gm 0 27), .int x2], (W_Mo gm))) 3 rfl ?_
    refine sv_Q.b rfl (fun c6 => ?_) (fun c6 => ?_)
    · refine sv_Q.f (lo' := [none, none, none]) trivial ?_
      exact sv_Q.z rfl
    · refine sv_Q.s (σ' := (45, [some (.ref 0), some (.ref 13), some (.int x2)], [.int x2, .ref 11, .ref 14], (W_Mo gm))) 5 rfl ?_
      refine sv_Q.g (σ' := (46, [some (.ref 0), some (.ref 13), some (.int x2)], [.int (gm 11 (x2).toNatClampNeg), .ref 14], (W_Mo gm))) (c := sv_in x2 24) rfl (fun c7 => ?_)
      refine sv_Q.s (σ' := (47, [some (.ref 0), some (.ref 13), some (.int x2)], [.int (1 : Int32), .int (gm 11 (x2).toNatClampNeg), .ref 14], (W_Mo gm))) 1 rfl ?_
      refine sv_Q.g (σ' := (48, [some (.ref 0), some (.ref 13), some (.int x2)], [], (W_Mo (sa gm 14 (gm 11 (x2).toNatClampNeg) (vp_nar .boolean (1 : Int32)))))) (c := sv_in (gm 11 (x2).toNatClampNeg) 24) rfl (fun c8 => ?_)
      refine sv_Q.go (fun gm_9 => (48, [some (.ref 0), some (.ref 13), some (.int x2)], [], (W_Mo gm_9))) (fun gm_9 => ?_)
      refine sv_Q.s (σ' := (57, [some (.ref 0), some (.ref 13), some (.int x2)], [.int x2, .ref 11, .ref 15], (W_Mo gm_9))) 5 rfl ?_
      refine sv_Q.g (σ' := (58, [some (.ref 0), some (.ref 13), some (.int x2)], [.int (gm_9 11 (x2).toNatClampNeg), .ref 15], (W_Mo gm_9))) (c := sv_in x2 24) rfl (fun c10 => ?_)
      refine sv_Q.s (σ' := (60, [some (.ref 0), some (.ref 13), some (.int x2)], [.int x2, .ref 13, .int (gm_9 11 (x2).toNatClampNeg), .ref 15], (W_Mo gm_9))) 2 rfl ?_
      refine sv_Q.g (σ' := (61, [some (.ref 0), some (.ref 13), some (.int x2)], [.int (gm_9 13 (x2).toNatClampNeg), .int (gm_9 11 (x2).toNatClampNeg), .ref 15], (W_Mo gm_9))) (c := sv_in x2 24) rfl (fun c11 => ?_)
      refine sv_Q.g (σ' := (62, [some (.ref 0), some (.ref 13), some (.int x2)], [], (W_Mo (sa gm_9 15 (gm_9 11 (x2).toNatClampNeg) (gm_9 13 (x2).toNatClampNeg))))) (c := sv_in (gm_9 11 (x2).toNatClampNeg) 24) rfl (fun c12 => ?_)
      refine sv_Q.go (fun gm_13 => (62, [some (.ref 0), some (.ref 13), some (.int x2)], [], (W_Mo gm_13))) (fun gm_13 => ?_)
      refine sv_Q.s (σ' := (28, [some (.ref 0), some (.ref 13), some (.int (x2 + (1 : Int32)))], [], (W_Mo gm_13))) 2 rfl ?_
      exact ih (x2 + (1 : Int32)) gm_13
def F_Mo_tellsRow_13 (N : Nat) (gm : Nat → Nat → Int32) : Option ((Nat → Nat → Int32)) := (sv_let (ss gm 32 (1 : Int32)) fun (gm_1 : Nat → Nat → Int32) => (Option.bind (L_Mo_tellsRow_13_7 N N (0 : Int32) gm_1) fun (v5 : (Nat → Nat → Int32)) => (Option.bind (L_Mo_tellsRow_13_28 N N (0 : Int32) v5) fun (v14 : (Nat → Nat → Int32)) => (some v14))))
set_option maxHeartbeats 4000000 in
set_option maxRecDepth 100000 in
theorem r_Mo_tellsRow_13 {X : Nat × (Nat → Int32)} (N : Nat) (gm : Nat → Nat → Int32) : ∀ x, (F_Mo_tellsRow_13 N gm) = some x → sv_R X 1 M_Mo_tellsRow [.ref 0, .ref 13] (W_Mo gm) none (W_Mo x) := by
  refine sv_Q.R (res := (fun (x : (Nat → Nat → Int32)) => ((none : Option Value), (W_Mo x)))) g_Mo_tellsRow rfl ?_
  unfold F_Mo_tellsRow_13
  refine sv_Q.s (σ' := (2, [some (.ref 0), some (.ref 13), none], [.int (1 : Int32), .ref 0], (W_Mo gm))) 2 rfl ?_
  refine sv_Q.gk (σ' := (5, [some (.ref 0), some (.ref 13), none], [], (W_Mo (ss gm 32 (1 : Int32))))) (c := sv_01 (1 : Int32)) rfl (Or.inr rfl) ?_
  refine sv_Q.go (fun gm_1 => (5, [some (.ref 0), some (.ref 13), none], [], (W_Mo gm_1))) (fun gm_1 => ?_)
  refine sv_Q.s (σ' := (7, [some (.ref 0), some (.ref 13), some (.int (0 : Int32))], [], (W_Mo gm_1))) 2 rfl ?_
  refine sv_Q.lo (fun v5 => (26, [some (.ref 0), some (.ref 13), none], [], (W_Mo v5))) (fun v5 => ?_) (l_Mo_tellsRow_13_7 N N (0 : Int32) gm_1)
  · refine sv_Q.s (σ' := (28, [some (.ref 0), some (.ref 13), some (.int (0 : Int32))], [], (W_Mo v5))) 2 rfl ?_
    refine sv_Q.lo (fun v14 => (68, [none, none, none], [], (W_Mo v14))) (fun v14 => ?_) (l_Mo_tellsRow_13_28 N N (0 : Int32) v5)
    · exact sv_Q.z ⟨True, rfl, trivial, rfl⟩
def F_Mo_load (N : Nat) (a0 : Int32) (gm : Nat → Nat → Int32) : Option (Int32 × (Nat → Nat → Int32)) := (if ¬ (F_Mo_canSearch a0 gm) = 0 then (Option.bind (F_Mo_searches N a0 gm) fun (v2 : Int32 × (Nat → Nat → Int32)) => (if ¬ v2.1 = 0 then (Option.bind (F_Mo_tellsRow_13 N v2.2) fun (v5 : (Nat → Nat → Int32)) => (some ((v5 0 30), v5))) else (some ((-3 : Int32), v2.2)))) else (some ((-2 : Int32), gm)))
set_option maxHeartbeats 4000000 in
set_option maxRecDepth 100000 in
theorem r_Mo_load {X : Nat × (Nat → Int32)} (N : Nat) (gm : Nat → Nat → Int32) (a0 : Int32) : ∀ x, (F_Mo_load N a0 gm) = some x → sv_R X 39 M_Mo_load [.ref 0, .int a0] (W_Mo gm) (some (.int x.1)) (W_Mo x.2) := by
  refine sv_Q.R (res := (fun (x : Int32 × (Nat → Nat → Int32)) => (some (.int x.1), (W_Mo x.2)))) g_Mo_load rfl ?_
  unfold F_Mo_load
  refine sv_Q.s (σ' := (2, [some (.ref 0), some (.int a0)], [.int a0, .ref 0], (W_Mo gm))) 2 rfl ?_
  refine sv_Q.V (b := 0) (av := [.int a0]) (ps := [0, 1, 2, 3, 4, 5, 6, 7, 8, 9, 10, 11, 12, 13, 14, 15, 16, 17, 18, 19, 20, 21, 22]) (rest := []) (cs1 := (W_Mo gm)) (cs2 := (W_Mo gm)) (st' := [.int (F_Mo_canSearch a0 gm)]) (cs' := (W_Mo gm)) (q := (2, .null, 0, 0, 0)) lk_Mo_413 (t_Mo_canSearch gm a0) rfl rfl rfl rfl rfl (Or.inl ⟨12, _, _, rfl, rfl, rfl⟩) rfl rfl (sc_Mo_Mo_0 gm) rfl rfl (pc_Mo_Mo_0 gm gm) ?_
  refine sv_Q.b rfl (fun c1 => ?_) (fun c1 => ?_)
  · refine sv_Q.s (σ' := (13, [some (.ref 0), some (.int a0)], [.int a0, .ref 0], (W_Mo gm))) 2 rfl ?_
    refine sv_Q.o (fun v2 e3 => ?_)
    refine sv_Q.V (b := 0) (av := [.int a0]) (ps := [0, 1, 2, 3, 4, 5, 6, 7, 8, 9, 10, 11, 12, 13, 14, 15, 16, 17, 18, 19, 20, 21, 22]) (rest := []) (cs1 := (W_Mo gm)) (cs2 := (W_Mo v2.2)) (st' := [.int v2.1]) (cs' := (W_Mo v2.2)) (q := (13, .null, 0, 0, 0)) lk_Mo_416 (r_Mo_searches N gm a0 v2 e3) rfl rfl rfl rfl rfl (Or.inl ⟨12, _, _, rfl, rfl, rfl⟩) rfl rfl (sc_Mo_Mo_0 gm) rfl rfl (pc_Mo_Mo_0 gm v2.2) ?_
    refine sv_Q.b rfl (fun c4 => ?_) (fun c4 => ?_)
    · refine sv_Q.s (σ' := (27, [some (.ref 0), some (.int a0)], [.ref 13, .ref 0], (W_Mo v2.2))) 3 rfl ?_
      refine sv_Q.o (fun v5 e6 => ?_)
      refine sv_Q.V (b := 0) (av := [.ref 13]) (ps := [0, 1, 2, 3, 4, 5, 6, 7, 8, 9, 10, 11, 12, 13, 14, 15, 16, 17, 18, 19, 20, 21, 22]) (rest := []) (cs1 := (W_Mo v2.2)) (cs2 := (W_Mo v5)) (st' := []) (cs' := (W_Mo v5)) (q := (27, .null, 0, 0, 0)) lk_Mo_419 (r_Mo_tellsRow_13 N v2.2 v5 e6) rfl rfl rfl rfl rfl (Or.inl ⟨12, _, _, rfl, rfl, rfl⟩) rfl rfl (sc_Mo_Mo_0 v2.2) rfl rfl (pc_Mo_Mo_0 v2.2 v5) ?_
      refine sv_Q.s (σ' := (34, [some (.ref 0), some (.int a0)], [.int (v5 0 30)], (W_Mo v5))) 2 rfl ?_
      exact sv_Q.z ⟨True, rfl, trivial, rfl⟩
    · refine sv_Q.s (σ' := (21, [some (.ref 0), some (.int a0)], [.int (-3 : Int32)], (W_Mo v2.2))) 1 rfl ?_
      exact sv_Q.z ⟨True, rfl, trivial, rfl⟩
  · refine sv_Q.s (σ' := (10, [some (.ref 0), some (.int a0)], [.int (-2 : Int32)], (W_Mo gm))) 1 rfl ?_
    exact sv_Q.z ⟨True, rfl, trivial, rfl⟩
def F_Mo_effort (N : Nat) (a0 : Int32) (gm : Nat → Nat → Int32) : Option (Int32 × (Nat → Nat → Int32)) := (if ¬ (F_Mo_canSearch a0 gm) = 0 then (Option.bind (F_Mo_searches N a0 gm) fun (v2 : Int32 × (Nat → Nat → Int32)) => (if v2.1 = 0 then (some ((-3 : Int32), v2.2)) else (some ((v2.2 0 24), v2.2)))) else (some ((-2 : Int32), gm)))
set_option maxHeartbeats 4000000 in
set_option maxRecDepth 100000 in
theorem r_Mo_effort {X : Nat × (Nat → Int32)} (N : Nat) (gm : Nat → Nat → Int32) (a0 : Int32) : ∀ x, (F_Mo_effort N a0 gm) = some x → sv_R X 39 M_Mo_effort [.ref 0, .int a0] (W_Mo gm) (some (.int x.1)) (W_Mo x.2) := by
  refine sv_Q.R (res := (fun (x : Int32 × (Nat → Nat → Int32)) => (some (.int x.1), (W_Mo x.2)))) g_Mo_effort rfl ?_
  unfold F_Mo_effort
  refine sv_Q.s (σ' := (2, [some (.ref 0), some (.int a0)], [.int a0, .ref 0], (W_Mo gm))) 2 rfl ?_
  refine sv_Q.V (b := 0) (av := [.int a0]) (ps := [0, 1, 2, 3, 4, 5, 6, 7, 8, 9, 10, 11, 12, 13, 14, 15, 16, 17, 18, 19, 20, 21, 22]) (rest := []) (cs1 := (W_Mo gm)) (cs2 := (W_Mo gm)) (st' := [.int (F_Mo_canSearch a0 gm)]) (cs' := (W_Mo gm)) (q := (2, .null, 0, 0, 0)) lk_Mo_413 (t_Mo_canSearch gm a0) rfl rfl rfl rfl rfl (Or.inl ⟨12, _, _, rfl, rfl, rfl⟩) rfl rfl (sc_Mo_Mo_0 gm) rfl rfl (pc_Mo_Mo_0 gm gm) ?_
  refine sv_Q.b rfl (fun c1 => ?_) (fun c1 => ?_)
  · refine sv_Q.s (σ' := (13, [some (.ref 0), some (.int a0)], [.int a0, .ref 0], (W_Mo gm))) 2 rfl ?_
    refine sv_Q.o (fun v2 e3 => ?_)
    refine sv_Q.V (b := 0) (av := [.int a0]) (ps := [0, 1, 2, 3, 4, 5, 6, 7, 8, 9, 10, 11, 12, 13, 14, 15, 16, 17, 18, 19, 20, 21, 22]) (rest := []) (cs1 := (W_Mo gm)) (cs2 := (W_Mo v2.2)) (st' := [.int v2.1]) (cs' := (W_Mo v2.2)) (q := (13, .null, 0, 0, 0)) lk_Mo_416 (r_Mo_searches N gm a0 v2 e3) rfl rfl rfl rfl rfl (Or.inl ⟨12, _, _, rfl, rfl, rfl⟩) rfl rfl (sc_Mo_Mo_0 gm) rfl rfl (pc_Mo_Mo_0 gm v2.2) ?_
    refine sv_Q.b rfl (fun c4 => ?_) (fun c4 => ?_)
    · refine sv_Q.s (σ' := (28, [some (.ref 0), some (.int a0)], [.int (-3 : Int32)], (W_Mo v2.2))) 1 rfl ?_
      exact sv_Q.z ⟨True, rfl, trivial, rfl⟩
    · refine sv_Q.s (σ' := (28, [some (.ref 0), some (.int a0)], [.int (v2.2 0 24)], (W_Mo v2.2))) 3 rfl ?_
      exact sv_Q.z ⟨True, rfl, trivial, rfl⟩
  · refine sv_Q.s (σ' := (10, [some (.ref 0), some (.int a0)], [.int (-2 : Int32)], (W_Mo gm))) 1 rfl ?_
    exact sv_Q.z ⟨True, rfl, trivial, rfl⟩
def L_Mo_goesGreedy_25 (N : Nat) : Nat → Int32 → Int32 → Int32 → (Nat → Nat → Int32) → Option ((Nat → Nat → Int32))
  | 0, _, _, _, _ => none
  | n + 1, x1, x2, x3, gm => (Option.bind (F_Mo_places N gm) fun (v6 : Int32) => (if v6 ≤ x3 then (some gm) else (if sv_in x2 24 then (if ¬ (gm 12 (x2).toNatClampNeg) = (-1 : Int32) then (some gm) else (if sv_in x2 24 then (Option.bind (F_Mo_whyBox N (gm 11 (x2).toNatClampNeg) x3 gm) fun (v12 : Int32) => (if ¬ v12 = 0 then (L_Mo_goesGreedy_25 N n x1 x2 (x3 + (1 : Int32)) gm) else (if sv_in x2 24 then (sv_let (sa gm 12 x2 x3) fun (gm_16 : Nat → Nat → Int32) => (L_Mo_goesGreedy_25 N n x1 x2 (x3 + (1 : Int32)) gm_16)) else none))) else none)) else none)))
set_option maxHeartbeats 4000000 in
set_option maxRecDepth 100000 in
theorem l_Mo_goesGreedy_25 {X : Nat × (Nat → Int32)} (N : Nat) : ∀ (n : Nat) (x1 : Int32) (x2 : Int32) (x3 : Int32) (gm : Nat → Nat → Int32), sv_Q X 9 M_Mo_goesGreedy (25, [some (.ref 0), some (.int x1), some (.int x2), some (.int x3)], [], (W_Mo gm)) (L_Mo_goesGreedy_25 N n x1 x2 x3 gm) (fun v σ' => σ' = (70, [some (.ref 0), some (.int x1), some (.int x2), none], [], (W_Mo v))) := by
  intro n
  induction n with
  | zero => intro x1 x2 x3 gm; unfold L_Mo_goesGreedy_25; exact sv_Q.non
  | succ n ih =>
    intro x1 x2 x3 gm
    unfold L_Mo_goesGreedy_25
    refine sv_Q.s (σ' := (27, [some (.ref 0), some (.int x1), some (.int x2), some (.int x3)], [.ref 0, .int x3], (W_Mo gm))) 2 rfl ?_
    refine sv_Q.o (fun v6 e7 => ?_)
    refine sv_Q.V (b := 0) (av := []) (ps := [0, 1, 2, 3, 4, 5, 6, 7, 8, 9, 10, 11, 12, 13, 14, 15, 16, 17, 18, 19, 20, 21, 22]) (rest := [.int x3]) (cs1 := (W_Mo gm)) (cs2 := (W_Mo gm)) (st' := [.int v6, .int x3]) (cs' := (W_Mo gm)) (q := (27, .null, 0, 0, 0)) lk_Mo_254 (r_Mo_places N gm v6 e7) rfl rfl rfl rfl rfl (Or.inl ⟨12, _, _, rfl, rfl, rfl⟩) rfl rfl (sc_Mo_Mo_0 gm) rfl rfl (pc_Mo_Mo_0 gm gm) ?_
    refine sv_Q.b rfl (fun c8 => ?_) (fun c8 => ?_)
    · refine sv_Q.f (lo' := [some (.ref 0), some (.int x1), some (.int x2), none]) ⟨rfl, ⟨rfl, ⟨rfl, trivial⟩⟩⟩ ?_
      exact sv_Q.z rfl
    · refine sv_Q.s (σ' := (38, [some (.ref 0), some (.int x1), some (.int x2), some (.int x3)], [.int x2, .ref 12], (W_Mo gm))) 3 rfl ?_
      refine sv_Q.g (σ' := (39, [some (.ref 0), some (.int x1), some (.int x2), some (.int x3)], [.int (gm 12 (x2).toNatClampNeg)], (W_Mo gm))) (c := sv_in x2 24) rfl (fun c9 => ?_)
      refine sv_Q.s (σ' := (40, [some (.ref 0), some (.int x1), some (.int x2), some (.int x3)], [.int (-1 : Int32), .int (gm 12 (x2).toNatClampNeg)], (W_Mo gm))) 1 rfl ?_
      refine sv_Q.b rfl (fun c10 => ?_) (fun c10 => ?_)
      · refine sv_Q.f (lo' := [some (.ref 0), some (.int x1), some (.int x2), none]) ⟨rfl, ⟨rfl, ⟨rfl, trivial⟩⟩⟩ ?_
        exact sv_Q.z rfl
      · refine sv_Q.s (σ' := (49, [some (.ref 0), some (.int x1), some (.int x2), some (.int x3)], [.int x2, .ref 11, .ref 0], (W_Mo gm))) 4 rfl ?_
        refine sv_Q.g (σ' := (50, [some (.ref 0), some (.int x1), some (.int x2), some (.int x3)], [.int (gm 11 (x2).toNatClampNeg), .ref 0], (W_Mo gm))) (c := sv_in x2 24) rfl (fun c11 => ?_)
        refine sv_Q.s (σ' := (51, [some (.ref 0), some (.int x1), some (.int x2), some (.int x3)], [.int x3, .int (gm 11 (x2).toNatClampNeg), .ref 0], (W_Mo gm))) 1 rfl ?_
        refine sv_Q.o (fun v12 e13 => ?_)
        refine sv_Q.V (b := 0) (av := [.int (gm 11 (x2).toNatClampNeg), .int x3]) (ps := [0, 1, 2, 3, 4, 5, 6, 7, 8, 9, 10, 11, 12, 13, 14, 15, 16, 17, 18, 19, 20, 21, 22]) (rest := []) (cs1 := (W_Mo gm)) (cs2 := (W_Mo gm)) (st' := [.int v12]) (cs' := (W_Mo gm)) (q := (51, .null, 0, 0, 0)) lk_Mo_337 (r_Mo_whyBox N gm (gm 11 (x2).toNatClampNeg) x3 v12 e13) rfl rfl rfl rfl rfl (Or.inl ⟨12, _, _, rfl, rfl, rfl⟩) rfl rfl (sc_Mo_Mo_0 gm) rfl rfl (pc_Mo_Mo_0 gm gm) ?_
        refine sv_Q.b rfl (fun c14 => ?_) (fun c14 => ?_)
        · refine sv_Q.s (σ' := (25, [some (.ref 0), some (.int x1), some (.int x2), some (.int (x3 + (1 : Int32)))], [], (W_Mo gm))) 2 rfl ?_
          exact ih x1 x2 (x3 + (1 : Int32)) gm
        · refine sv_Q.s (σ' := (63, [some (.ref 0), some (.int x1), some (.int x2), some (.int x3)], [.int x3, .int x2, .ref 12], (W_Mo gm))) 4 rfl ?_
          refine sv_Q.g (σ' := (64, [some (.ref 0), some (.int x1), some (.int x2), some (.int x3)], [], (W_Mo (sa gm 12 x2 x3)))) (c := sv_in x2 24) rfl (fun c15 => ?_)
          refine sv_Q.go (fun gm_16 => (64, [some (.ref 0), some (.int x1), some (.int x2), some (.int x3)], [], (W_Mo gm_16))) (fun gm_16 => ?_)
          refine sv_Q.s (σ' := (25, [some (.ref 0), some (.int x1), some (.int x2), some (.int (x3 + (1 : Int32)))], [], (W_Mo gm_16))) 2 rfl ?_
          exact ih x1 x2 (x3 + (1 : Int32)) gm_16
def L_Mo_goesGreedy_8 (N : Nat) : Nat → Int32 → Int32 → (Nat → Nat → Int32) → Option (Int32 × (Nat → Nat → Int32))
  | 0, _, _, _ => none
  | n + 1, x1, x2, gm => (if (gm 0 27) ≤ x2 then (some (x1, gm)) else (if sv_in x2 24 then (sv_let (sa gm 12 x2 (-1 : Int32)) fun (gm_5 : Nat → Nat → Int32) => (Option.bind (L_Mo_goesGreedy_25 N N x1 x2 (0 : Int32) gm_5) fun (v17 : (Nat → Nat → Int32)) => (if sv_in x2 24 then (if ¬ (v17 12 (x2).toNatClampNeg) = (-1 : Int32) then (if sv_in x2 24 then (if sv_in x2 24 then (Option.bind (F_Mo_lays N (v17 11 (x2).toNatClampNeg) (v17 12 (x2).toNatClampNeg) v17) fun (v22 : (Nat → Nat → Int32)) => (L_Mo_goesGreedy_8 N n (x1 + (1 : Int32)) (x2 + (1 : Int32)) v22)) else none) else none) else (L_Mo_goesGreedy_8 N n x1 (x2 + (1 : Int32)) v17)) else none))) else none))
set_option maxHeartbeats 4000000 in
set_option maxRecDepth 100000 in
theorem l_Mo_goesGreedy_8 {X : Nat × (Nat → Int32)} (N : Nat) : ∀ (n : Nat) (x1 : Int32) (x2 : Int32) (gm : Nat → Nat → Int32), sv_Q X 9 M_Mo_goesGreedy (8, [some (.ref 0), some (.int x1), some (.int x2), none], [], (W_Mo gm)) (L_Mo_goesGreedy_8 N n x1 x2 gm) (fun v σ' => σ' = (108, [none, some (.int v.1), none, none], [], (W_Mo v.2))) := by
  intro n
  induction n with
  | zero => intro x1 x2 gm; unfold L_Mo_goesGreedy_8; exact sv_Q.non
  | succ n ih =>
    intro x1 x2 gm
    unfold L_Mo_goesGreedy_8
    refine sv_Q.s (σ' := (13, [some (.ref 0), some (.int x1), some (.int x2), none], [.int (gm 0 27), .int x2], (W_Mo gm))) 3 rfl ?_
    refine sv_Q.b rfl (fun c3 => ?_) (fun c3 => ?_)
    · refine sv_Q.f (lo' := [none, some (.int x1), none, none]) ⟨rfl, trivial⟩ ?_
      exact sv_Q.z rfl
    · refine sv_Q.s (σ' := (22, [some (.ref 0), some (.int x1), some (.int x2), none], [.int (-1 : Int32), .int x2, .ref 12], (W_Mo gm))) 4 rfl ?_
      refine sv_Q.g (σ' := (23, [some (.ref 0), some (.int x1), some (.int x2), none], [], (W_Mo (sa gm 12 x2 (-1 : Int32))))) (c := sv_in x2 24) rfl (fun c4 => ?_)
      refine sv_Q.go (fun gm_5 => (23, [some (.ref 0), some (.int x1), some (.int x2), none], [], (W_Mo gm_5))) (fun gm_5 => ?_)
      refine sv_Q.s (σ' := (25, [some (.ref 0), some (.int x1), some (.int x2), some (.int (0 : Int32))], [], (W_Mo gm_5))) 2 rfl ?_
      refine sv_Q.lo (fun v17 => (70, [some (.ref 0), some (.int x1), some (.int x2), none], [], (W_Mo v17))) (fun v17 => ?_) (l_Mo_goesGreedy_25 N N x1 x2 (0 : Int32) gm_5)
      · refine sv_Q.s (σ' := (75, [some (.ref 0), some (.int x1), some (.int x2), none], [.int x2, .ref 12], (W_Mo v17))) 3 rfl ?_
        refine sv_Q.g (σ' := (76, [some (.ref 0), some (.int x1), some (.int x2), none], [.int (v17 12 (x2).toNatClampNeg)], (W_Mo v17))) (c := sv_in x2 24) rfl (fun c18 => ?_)
        refine sv_Q.s (σ' := (77, [some (.ref 0), some (.int x1), some (.int x2), none], [.int (-1 : Int32), .int (v17 12 (x2).toNatClampNeg)], (W_Mo v17))) 1 rfl ?_
        refine sv_Q.b rfl (fun c19 => ?_) (fun c19 => ?_)
        · refine sv_Q.s (σ' := (89, [some (.ref 0), some (.int x1), some (.int x2), none], [.int x2, .ref 11, .ref 0], (W_Mo v17))) 4 rfl ?_
          refine sv_Q.g (σ' := (90, [some (.ref 0), some (.int x1), some (.int x2), none], [.int (v17 11 (x2).toNatClampNeg), .ref 0], (W_Mo v17))) (c := sv_in x2 24) rfl (fun c20 => ?_)
          refine sv_Q.s (σ' := (95, [some (.ref 0), some (.int x1), some (.int x2), none], [.int x2, .ref 12, .int (v17 11 (x2).toNatClampNeg), .ref 0], (W_Mo v17))) 3 rfl ?_
          refine sv_Q.g (σ' := (96, [some (.ref 0), some (.int x1), some (.int x2), none], [.int (v17 12 (x2).toNatClampNeg), .int (v17 11 (x2).toNatClampNeg), .ref 0], (W_Mo v17))) (c := sv_in x2 24) rfl (fun c21 => ?_)
          refine sv_Q.o (fun v22 e23 => ?_)
          refine sv_Q.V (b := 0) (av := [.int (v17 11 (x2).toNatClampNeg), .int (v17 12 (x2).toNatClampNeg)]) (ps := [0, 1, 2, 3, 4, 5, 6, 7, 8, 9, 10, 11, 12, 13, 14, 15, 16, 17, 18, 19, 20, 21, 22]) (rest := []) (cs1 := (W_Mo v17)) (cs2 := (W_Mo v22)) (st' := []) (cs' := (W_Mo v22)) (q := (96, .null, 0, 0, 0)) lk_Mo_346 (r_Mo_lays N v17 (v17 11 (x2).toNatClampNeg) (v17 12 (x2).toNatClampNeg) v22 e23) rfl rfl rfl rfl rfl (Or.inl ⟨12, _, _, rfl, rfl, rfl⟩) rfl rfl (sc_Mo_Mo_0 v17) rfl rfl (pc_Mo_Mo_0 v17 v22) ?_
          refine sv_Q.s (σ' := (8, [some (.ref 0), some (.int (x1 + (1 : Int32))), some (.int (x2 + (1 : Int32))), none], [], (W_Mo v22))) 3 rfl ?_
          exact ih (x1 + (1 : Int32)) (x2 + (1 : Int32)) v22
        · refine sv_Q.s (σ' := (8, [some (.ref 0), some (.int x1), some (.int (x2 + (1 : Int32))), none], [], (W_Mo v17))) 3 rfl ?_
          exact ih x1 (x2 + (1 : Int32)) v17
def F_Mo_goesGreedy (N : Nat) (gm : Nat → Nat → Int32) : Option (Int32 × (Nat → Nat → Int32)) := (Option.bind (F_Mo_laysWaiting N gm) fun (v1 : (Nat → Nat → Int32)) => (Option.bind (L_Mo_goesGreedy_8 N N (0 : Int32) (0 : Int32) v1) fun (v24 : Int32 × (Nat → Nat → Int32)) => (some (v24.1, v24.2))))
set_option maxHeartbeats 4000000 in
set_option maxRecDepth 100000 in
theorem r_Mo_goesGreedy {X : Nat × (Nat → Int32)} (N : Nat) (gm : Nat → Nat → Int32) : ∀ x, (F_Mo_goesGreedy N gm) = some x → sv_R X 10 M_Mo_goesGreedy [.ref 0] (W_Mo gm) (some (.int x.1)) (W_Mo x.2) := by
  refine sv_Q.R (res := (fun (x : Int32 × (Nat → Nat → Int32)) => (some (.int x.1), (W_Mo x.2)))) g_Mo_goesGreedy rfl ?_
  unfold F_Mo_goesGreedy
  refine sv_Q.s (σ' := (1, [some (.ref 0), none, none, none], [.ref 0], (W_Mo gm))) 1 rfl ?_
  refine sv_Q.o (fun v1 e2 => ?_)
  refine sv_Q.V (b := 0) (av := []) (ps := [0, 1, 2, 3, 4, 5, 6, 7, 8, 9, 10, 11, 12, 13, 14, 15, 16, 17, 18, 19, 20, 21, 22]) (rest := []) (cs1 := (W_Mo gm)) (cs2 := (W_Mo v1)) (st' := []) (cs' := (W_Mo v1)) (q := (1, .null, 0, 0, 0)) lk_Mo_408 (r_Mo_laysWaiting N gm v1 e2) rfl rfl rfl rfl rfl (Or.inl ⟨12, _, _, rfl, rfl, rfl⟩) rfl rfl (sc_Mo_Mo_0 gm) rfl rfl (pc_Mo_Mo_0 gm v1) ?_
  refine sv_Q.s (σ' := (8, [some (.ref 0), some (.int (0 : Int32)), some (.int (0 : Int32)), none], [], (W_Mo v1))) 4 rfl ?_
  refine sv_Q.lo (fun v24 => (108, [none, some (.int v24.1), none, none], [], (W_Mo v24.2))) (fun v24 => ?_) (l_Mo_goesGreedy_8 N N (0 : Int32) (0 : Int32) v1)
  · refine sv_Q.s (σ' := (109, [none, some (.int v24.1), none, none], [.int v24.1], (W_Mo v24.2))) 1 rfl ?_
    exact sv_Q.z ⟨True, rfl, trivial, rfl⟩
def L_Mo_takesBack_2 (N : Nat) : Nat → Int32 → (Nat → Nat → Int32) → Option ((Nat → Nat → Int32))
  | 0, _, _ => none
  | n + 1, x1, gm => (if (gm 0 27) ≤ x1 then (some gm) else (if sv_in x1 24 then (Option.bind (F_Mo_lays N (gm 11 (x1).toNatClampNeg) (-1 : Int32) gm) fun (v3 : (Nat → Nat → Int32)) => (L_Mo_takesBack_2 N n (x1 + (1 : Int32)) v3)) else none))
set_option maxHeartbeats 4000000 in
set_option maxRecDepth 100000 in
theorem l_Mo_takesBack_2 {X : Nat × (Nat → Int32)} (N : Nat) : ∀ (n : Nat) (x1 : Int32) (gm : Nat → Nat → Int32), sv_Q X 1 M_Mo_takesBack (2, [some (.ref 0), some (.int x1)], [], (W_Mo gm)) (L_Mo_takesBack_2 N n x1 gm) (fun v σ' => σ' = (27, [none, none], [], (W_Mo v))) := by
  intro n
  induction n with
  | zero => intro x1 gm; unfold L_Mo_takesBack_2; exact sv_Q.non
  | succ n ih =>
    intro x1 gm
    unfold L_Mo_takesBack_2
    refine sv_Q.s (σ' := (7, [some (.ref 0), some (.int x1)], [.int (gm 0 27), .int x1], (W_Mo gm))) 3 rfl ?_
    refine sv_Q.b rfl (fun c1 => ?_) (fun c1 => ?_)
    · refine sv_Q.f (lo' := [none, none]) trivial ?_
      exact sv_Q.z rfl
    · refine sv_Q.s (σ' := (16, [some (.ref 0), some (.int x1)], [.int x1, .ref 11, .ref 0], (W_Mo gm))) 4 rfl ?_
      refine sv_Q.g (σ' := (17, [some (.ref 0), some (.int x1)], [.int (gm 11 (x1).toNatClampNeg), .ref 0], (W_Mo gm))) (c := sv_in x1 24) rfl (fun c2 => ?_)
      refine sv_Q.s (σ' := (18, [some (.ref 0), some (.int x1)], [.int (-1 : Int32), .int (gm 11 (x1).toNatClampNeg), .ref 0], (W_Mo gm))) 1 rfl ?_
      refine sv_Q.o (fun v3 e4 => ?_)
      refine sv_Q.V (b := 0) (av := [.int (gm 11 (x1).toNatClampNeg), .int (-1 : Int32)]) (ps := [0, 1, 2, 3, 4, 5, 6, 7, 8, 9, 10, 11, 12, 13, 14, 15, 16, 17, 18, 19, 20, 21, 22]) (rest := []) (cs1 := (W_Mo gm)) (cs2 := (W_Mo v3)) (st' := []) (cs' := (W_Mo v3)) (q := (18, .null, 0, 0, 0)) lk_Mo_346 (r_Mo_lays N gm (gm 11 (x1).toNatClampNeg) (-1 : Int32) v3 e4) rfl rfl rfl rfl rfl (Or.inl ⟨12, _, _, rfl, rfl, rfl⟩) rfl rfl (sc_Mo_Mo_0 gm) rfl rfl (pc_Mo_Mo_0 gm v3) ?_
      refine sv_Q.s (σ' := (2, [some (.ref 0), some (.int (x1 + (1 : Int32)))], [], (W_Mo v3))) 2 rfl ?_
      exact ih (x1 + (1 : Int32)) v3
def F_Mo_takesBack (N : Nat) (gm : Nat → Nat → Int32) : Option ((Nat → Nat → Int32)) := (Option.bind (L_Mo_takesBack_2 N N (0 : Int32) gm) fun (v5 : (Nat → Nat → Int32)) => (some v5))
set_option maxHeartbeats 4000000 in
set_option maxRecDepth 100000 in
theorem r_Mo_takesBack {X : Nat × (Nat → Int32)} (N : Nat) (gm : Nat → Nat → Int32) : ∀ x, (F_Mo_takesBack N gm) = some x → sv_R X 2 M_Mo_takesBack [.ref 0] (W_Mo gm) none (W_Mo x) := by
  refine sv_Q.R (res := (fun (x : (Nat → Nat → Int32)) => ((none : Option Value), (W_Mo x)))) g_Mo_takesBack rfl ?_
  unfold F_Mo_takesBack
  refine sv_Q.s (σ' := (2, [some (.ref 0), some (.int (0 : Int32))], [], (W_Mo gm))) 2 rfl ?_
  refine sv_Q.lo (fun v5 => (27, [none, none], [], (W_Mo v5))) (fun v5 => ?_) (l_Mo_takesBack_2 N N (0 : Int32) gm)
  · exact sv_Q.z ⟨True, rfl, trivial, rfl⟩
def L_Mo_tellsRow_12_7 (N : Nat) : Nat → Int32 → (Nat → Nat → Int32) → Option ((Nat → Nat → Int32))
  | 0, _, _ => none
  | n + 1, x2, gm => (if (24 : Int32) ≤ x2 then (some gm) else (if sv_in x2 24 then (sv_let (sa gm 14 x2 (vp_nar .boolean (0 : Int32))) fun (gm_4 : Nat → Nat → Int32) => (L_Mo_tellsRow_12_7 N n (x2 + (1 : Int32)) gm_4)) else none))
set_option maxHeartbeats 4000000 in
set_option maxRecDepth 100000 in
theorem l_Mo_tellsRow_12_7 {X : Nat × (Nat → Int32)} (N : Nat) : ∀ (n : Nat) (x2 : Int32) (gm : Nat → Nat → Int32), sv_Q X 0 M_Mo_tellsRow (7, [some (.ref 0), some (.ref 12), some (.int x2)], [], (W_Mo gm)) (L_Mo_tellsRow_12_7 N n x2 gm) (fun v σ' => σ' = (26, [some (.ref 0), some (.ref 12), none], [], (W_Mo v))) := by
  intro n
  induction n with
  | zero => intro x2 gm; unfold L_Mo_tellsRow_12_7; exact sv_Q.non
  | succ n ih =>
    intro x2 gm
    unfold L_Mo_tellsRow_12_7
    refine sv_Q.s (σ' := (10, [some (.ref 0), some (.ref 12), some (.int x2)], [.int (24 : Int32), .int x2], (W_Mo gm))) 2 rfl ?_
    refine sv_Q.b rfl (fun c2 => ?_) (fun c2 => ?_)
    · refine sv_Q.f (lo' := [some (.ref 0), some (.ref 12), none]) ⟨rfl, ⟨rfl, trivial⟩⟩ ?_
      exact sv_Q.z rfl
    · refine sv_Q.s (σ' := (19, [some (.ref 0), some (.ref 12), some (.int x2)], [.int (0 : Int32), .int x2, .ref 14], (W_Mo gm))) 4 rfl ?_
      refine sv_Q.g (σ' := (20, [some (.ref 0), some (.ref 12), some (.int x2)], [], (W_Mo (sa gm 14 x2 (vp_nar .boolean (0 : Int32)))))) (c := sv_in x2 24) rfl (fun c3 => ?_)
      refine sv_Q.go (fun gm_4 => (20, [some (.ref 0), some (.ref 12), some (.int x2)], [], (W_Mo gm_4))) (fun gm_4 => ?_)
      refine sv_Q.s (σ' := (7, [some (.ref 0), some (.ref 12), some (.int (x2 + (1 : Int32)))], [], (W_Mo gm_4))) 2 rfl ?_
      exact ih (x2 + (1 : Int32)) gm_4
def L_Mo_tellsRow_12_28 (N : Nat) : Nat → Int32 → (Nat → Nat → Int32) → Option ((Nat → Nat → Int32))
  | 0, _, _ => none
  | n + 1, x2, gm => (if (gm 0 27) ≤ x2 then (some gm) else (if sv_in x2 24 then (if sv_in (gm 11 (x2).toNatClampNeg) 24 then (sv_let (sa gm 14 (gm 11 (x2).toNatClampNeg) (vp_nar .boolean (1 : Int32))) fun (gm_9 : Nat → Nat → Int32) => (if sv_in x2 24 then (if sv_in x2 24 then (if sv_in (gm_9 11 (x2).toNatClampNeg) 24 then (sv_let (sa gm_9 15 (gm_9 11 (x2).toNatClampNeg) (gm_9 12 (x2).toNatClampNeg)) fun (gm_13 : Nat → Nat → Int32) => (L_Mo_tellsRow_12_28 N n (x2 + (1 : Int32)) gm_13)) else none) else none) else none)) else none) else none))
set_option maxHeartbeats 4000000 in
set_option maxRecDepth 100000 in
theorem l_Mo_tellsRow_12_28 {X : Nat × (Nat → Int32)} (N : Nat) : ∀ (n : Nat) (x2 : Int32) (gm : Nat → Nat → Int32), sv_Q X 0 M_Mo_tellsRow (28, [some (.ref 0), some (.ref 12), some (.int x2)], [], (W_Mo gm)) (L_Mo_tellsRow_12_28 N n x2 gm) (fun v σ' => σ' = (68, [none, none, none], [], (W_Mo v))) := by
  intro n
  induction n with
  | zero => intro x2 gm; unfold L_Mo_tellsRow_12_28; exact sv_Q.non
  | succ n ih =>
    intro x2 gm
    unfold L_Mo_tellsRow_12_28
    refine sv_Q.s (σ' := (33, [some (.ref 0), some (.ref 12), some (.int x2)], [.int (gm 0 27), .int x2], (W_Mo gm))) 3 rfl ?_
    refine sv_Q.b rfl (fun c6 => ?_) (fun c6 => ?_)
    · refine sv_Q.f (lo' := [none, none, none]) trivial ?_
      exact sv_Q.z rfl
    · refine sv_Q.s (σ' := (45, [some (.ref 0), some (.ref 12), some (.int x2)], [.int x2, .ref 11, .ref 14], (W_Mo gm))) 5 rfl ?_
      refine sv_Q.g (σ' := (46, [some (.ref 0), some (.ref 12), some (.int x2)], [.int (gm 11 (x2).toNatClampNeg), .ref 14], (W_Mo gm))) (c := sv_in x2 24) rfl (fun c7 => ?_)
      refine sv_Q.s (σ' := (47, [some (.ref 0), some (.ref 12), some (.int x2)], [.int (1 : Int32), .int (gm 11 (x2).toNatClampNeg), .ref 14], (W_Mo gm))) 1 rfl ?_
      refine sv_Q.g (σ' := (48, [some (.ref 0), some (.ref 12), some (.int x2)], [], (W_Mo (sa gm 14 (gm 11 (x2).toNatClampNeg) (vp_nar .boolean (1 : Int32)))))) (c := sv_in (gm 11 (x2).toNatClampNeg) 24) rfl (fun c8 => ?_)
      refine sv_Q.go (fun gm_9 => (48, [some (.ref 0), some (.ref 12), some (.int x2)], [], (W_Mo gm_9))) (fun gm_9 => ?_)
      refine sv_Q.s (σ' := (57, [some (.ref 0), some (.ref 12), some (.int x2)], [.int x2, .ref 11, .ref 15], (W_Mo gm_9))) 5 rfl ?_
      refine sv_Q.g (σ' := (58, [some (.ref 0), some (.ref 12), some (.int x2)], [.int (gm_9 11 (x2).toNatClampNeg), .ref 15], (W_Mo gm_9))) (c := sv_in x2 24) rfl (fun c10 => ?_)
      refine sv_Q.s (σ' := (60, [some (.ref 0), some (.ref 12), some (.int x2)], [.int x2, .ref 12, .int (gm_9 11 (x2).toNatClampNeg), .ref 15], (W_Mo gm_9))) 2 rfl ?_
      refine sv_Q.g (σ' := (61, [some (.ref 0), some (.ref 12), some (.int x2)], [.int (gm_9 12 (x2).toNatClampNeg), .int (gm_9 11 (x2).toNatClampNeg), .ref 15], (W_Mo gm_9))) (c := sv_in x2 24) rfl (fun c11 => ?_)
      refine sv_Q.g (σ' := (62, [some (.ref 0), some (.ref 12), some (.int x2)], [], (W_Mo (sa gm_9 15 (gm_9 11 (x2).toNatClampNeg) (gm_9 12 (x2).toNatClampNeg))))) (c := sv_in (gm_9 11 (x2).toNatClampNeg) 24) rfl (fun c12 => ?_)
      refine sv_Q.go (fun gm_13 => (62, [some (.ref 0), some (.ref 12), some (.int x2)], [], (W_Mo gm_13))) (fun gm_13 => ?_)
      refine sv_Q.s (σ' := (28, [some (.ref 0), some (.ref 12), some (.int (x2 + (1 : Int32)))], [], (W_Mo gm_13))) 2 rfl ?_
      exact ih (x2 + (1 : Int32)) gm_13
def F_Mo_tellsRow_12 (N : Nat) (gm : Nat → Nat → Int32) : Option ((Nat → Nat → Int32)) := (sv_let (ss gm 32 (1 : Int32)) fun (gm_1 : Nat → Nat → Int32) => (Option.bind (L_Mo_tellsRow_12_7 N N (0 : Int32) gm_1) fun (v5 : (Nat → Nat → Int32)) => (Option.bind (L_Mo_tellsRow_12_28 N N (0 : Int32) v5) fun (v14 : (Nat → Nat → Int32)) => (some v14))))
set_option maxHeartbeats 4000000 in
set_option maxRecDepth 100000 in
theorem r_Mo_tellsRow_12 {X : Nat × (Nat → Int32)} (N : Nat) (gm : Nat → Nat → Int32) : ∀ x, (F_Mo_tellsRow_12 N gm) = some x → sv_R X 1 M_Mo_tellsRow [.ref 0, .ref 12] (W_Mo gm) none (W_Mo x) := by
  refine sv_Q.R (res := (fun (x : (Nat → Nat → Int32)) => ((none : Option Value), (W_Mo x)))) g_Mo_tellsRow rfl ?_
  unfold F_Mo_tellsRow_12
  refine sv_Q.s (σ' := (2, [some (.ref 0), some (.ref 12), none], [.int (1 : Int32), .ref 0], (W_Mo gm))) 2 rfl ?_
  refine sv_Q.gk (σ' := (5, [some (.ref 0), some (.ref 12), none], [], (W_Mo (ss gm 32 (1 : Int32))))) (c := sv_01 (1 : Int32)) rfl (Or.inr rfl) ?_
  refine sv_Q.go (fun gm_1 => (5, [some (.ref 0), some (.ref 12), none], [], (W_Mo gm_1))) (fun gm_1 => ?_)
  refine sv_Q.s (σ' := (7, [some (.ref 0), some (.ref 12), some (.int (0 : Int32))], [], (W_Mo gm_1))) 2 rfl ?_
  refine sv_Q.lo (fun v5 => (26, [some (.ref 0), some (.ref 12), none], [], (W_Mo v5))) (fun v5 => ?_) (l_Mo_tellsRow_12_7 N N (0 : Int32) gm_1)
  · refine sv_Q.s (σ' := (28, [some (.ref 0), some (.ref 12), some (.int (0 : Int32))], [], (W_Mo v5))) 2 rfl ?_
    refine sv_Q.lo (fun v14 => (68, [none, none, none], [], (W_Mo v14))) (fun v14 => ?_) (l_Mo_tellsRow_12_28 N N (0 : Int32) v5)
    · exact sv_Q.z ⟨True, rfl, trivial, rfl⟩
def F_Mo_greedy (N : Nat) (gm : Nat → Nat → Int32) : Option (Int32 × (Nat → Nat → Int32)) := (if ¬ (gm 0 1) = 0 then (Option.bind (F_Mo_goesGreedy N gm) fun (v2 : Int32 × (Nat → Nat → Int32)) => (Option.bind (F_Mo_takesBack N v2.2) fun (v4 : (Nat → Nat → Int32)) => (Option.bind (F_Mo_tellsRow_12 N v4) fun (v6 : (Nat → Nat → Int32)) => (some (((v6 0 27) - v2.1), v6))))) else (some ((-2 : Int32), gm)))
set_option maxHeartbeats 4000000 in
set_option maxRecDepth 100000 in
theorem r_Mo_greedy {X : Nat × (Nat → Int32)} (N : Nat) (gm : Nat → Nat → Int32) : ∀ x, (F_Mo_greedy N gm) = some x → sv_R X 11 M_Mo_greedy [.ref 0] (W_Mo gm) (some (.int x.1)) (W_Mo x.2) := by
  refine sv_Q.R (res := (fun (x : Int32 × (Nat → Nat → Int32)) => (some (.int x.1), (W_Mo x.2)))) g_Mo_greedy rfl ?_
  unfold F_Mo_greedy
  refine sv_Q.s (σ' := (4, [some (.ref 0), none], [.int (gm 0 1)], (W_Mo gm))) 2 rfl ?_
  refine sv_Q.b rfl (fun c1 => ?_) (fun c1 => ?_)
  · refine sv_Q.s (σ' := (11, [some (.ref 0), none], [.ref 0], (W_Mo gm))) 1 rfl ?_
    refine sv_Q.o (fun v2 e3 => ?_)
    refine sv_Q.V (b := 0) (av := []) (ps := [0, 1, 2, 3, 4, 5, 6, 7, 8, 9, 10, 11, 12, 13, 14, 15, 16, 17, 18, 19, 20, 21, 22]) (rest := []) (cs1 := (W_Mo gm)) (cs2 := (W_Mo v2.2)) (st' := [.int v2.1]) (cs' := (W_Mo v2.2)) (q := (11, .null, 0, 0, 0)) lk_Mo_423 (r_Mo_goesGreedy N gm v2 e3) rfl rfl rfl rfl rfl (Or.inl ⟨12, _, _, rfl, rfl, rfl⟩) rfl rfl (sc_Mo_Mo_0 gm) rfl rfl (pc_Mo_Mo_0 gm v2.2) ?_
    refine sv_Q.s (σ' := (16, [some (.ref 0), some (.int v2.1)], [.ref 0], (W_Mo v2.2))) 2 rfl ?_
    refine sv_Q.o (fun v4 e5 => ?_)
    refine sv_Q.V (b := 0) (av := []) (ps := [0, 1, 2, 3, 4, 5, 6, 7, 8, 9, 10, 11, 12, 13, 14, 15, 16, 17, 18, 19, 20, 21, 22]) (rest := []) (cs1 := (W_Mo v2.2)) (cs2 := (W_Mo v4)) (st' := []) (cs' := (W_Mo v4)) (q := (16, .null, 0, 0, 0)) lk_Mo_426 (r_Mo_takesBack N v2.2 v4 e5) rfl rfl rfl rfl rfl (Or.inl ⟨12, _, _, rfl, rfl, rfl⟩) rfl rfl (sc_Mo_Mo_0 v2.2) rfl rfl (pc_Mo_Mo_0 v2.2 v4) ?_
    refine sv_Q.s (σ' := (24, [some (.ref 0), some (.int v2.1)], [.ref 12, .ref 0], (W_Mo v4))) 3 rfl ?_
    refine sv_Q.o (fun v6 e7 => ?_)
    refine sv_Q.V (b := 0) (av := [.ref 12]) (ps := [0, 1, 2, 3, 4, 5, 6, 7, 8, 9, 10, 11, 12, 13, 14, 15, 16, 17, 18, 19, 20, 21, 22]) (rest := []) (cs1 := (W_Mo v4)) (cs2 := (W_Mo v6)) (st' := []) (cs' := (W_Mo v6)) (q := (24, .null, 0, 0, 0)) lk_Mo_419 (r_Mo_tellsRow_12 N v4 v6 e7) rfl rfl rfl rfl rfl (Or.inl ⟨12, _, _, rfl, rfl, rfl⟩) rfl rfl (sc_Mo_Mo_0 v4) rfl rfl (pc_Mo_Mo_0 v4 v6) ?_
    refine sv_Q.s (σ' := (33, [some (.ref 0), some (.int v2.1)], [.int ((v6 0 27) - v2.1)], (W_Mo v6))) 4 rfl ?_
    exact sv_Q.z ⟨True, rfl, trivial, rfl⟩
  · refine sv_Q.s (σ' := (9, [some (.ref 0), none], [.int (-2 : Int32)], (W_Mo gm))) 1 rfl ?_
    exact sv_Q.z ⟨True, rfl, trivial, rfl⟩
def F_Mo_told (N : Nat) (a0 : Int32) (gm : Nat → Nat → Int32) : Option (Int32) := (if ¬ (F_Mo_isBox a0 gm) = 0 then (if (gm 0 32) = 0 then (some (-6 : Int32)) else (if sv_in a0 24 then (if (gm 14 (a0).toNatClampNeg) = 0 then (some (-6 : Int32)) else (if sv_in a0 24 then (some (gm 15 (a0).toNatClampNeg)) else none)) else none)) else (some (-2 : Int32)))
set_option maxHeartbeats 4000000 in
set_option maxRecDepth 100000 in
theorem r_Mo_told {X : Nat × (Nat → Int32)} (N : Nat) (gm : Nat → Nat → Int32) (a0 : Int32) : ∀ x, (F_Mo_told N a0 gm) = some x → sv_R X 3 M_Mo_told [.ref 0, .int a0] (W_Mo gm) (some (.int x)) (W_Mo gm) := by
  refine sv_Q.R (res := (fun (x : Int32) => (some (.int x), (W_Mo gm)))) g_Mo_told rfl ?_
  unfold F_Mo_told
  refine sv_Q.s (σ' := (2, [some (.ref 0), some (.int a0)], [.int a0, .ref 0], (W_Mo gm))) 2 rfl ?_
  refine sv_Q.V (b := 0) (av := [.int a0]) (ps := [0, 1, 2, 3, 4, 5, 6, 7, 8, 9, 10, 11, 12, 13, 14, 15, 16, 17, 18, 19, 20, 21, 22]) (rest := []) (cs1 := (W_Mo gm)) (cs2 := (W_Mo gm)) (st' := [.int (F_Mo_isBox a0 gm)]) (cs' := (W_Mo gm)) (q := (2, .null, 0, 0, 0)) lk_Mo_286 (t_Mo_isBox gm a0) rfl rfl rfl rfl rfl (Or.inl ⟨12, _, _, rfl, rfl, rfl⟩) rfl rfl (sc_Mo_Mo_0 gm) rfl rfl (pc_Mo_Mo_0 gm gm) ?_
  refine sv_Q.b rfl (fun c1 => ?_) (fun c1 => ?_)
  · refine sv_Q.s (σ' := (15, [some (.ref 0), some (.int a0)], [.int (gm 0 32)], (W_Mo gm))) 2 rfl ?_
    refine sv_Q.b rfl (fun c2 => ?_) (fun c2 => ?_)
    · refine sv_Q.s (σ' := (38, [some (.ref 0), some (.int a0)], [.int (-6 : Int32)], (W_Mo gm))) 1 rfl ?_
      exact sv_Q.z ⟨True, rfl, trivial, rfl⟩
    · refine sv_Q.s (σ' := (23, [some (.ref 0), some (.int a0)], [.int a0, .ref 14], (W_Mo gm))) 3 rfl ?_
      refine sv_Q.g (σ' := (24, [some (.ref 0), some (.int a0)], [.int (gm 14 (a0).toNatClampNeg)], (W_Mo gm))) (c := sv_in a0 24) rfl (fun c3 => ?_)
      refine sv_Q.b rfl (fun c4 => ?_) (fun c4 => ?_)
      · refine sv_Q.s (σ' := (38, [some (.ref 0), some (.int a0)], [.int (-6 : Int32)], (W_Mo gm))) 1 rfl ?_
        exact sv_Q.z ⟨True, rfl, trivial, rfl⟩
      · refine sv_Q.s (σ' := (32, [some (.ref 0), some (.int a0)], [.int a0, .ref 15], (W_Mo gm))) 3 rfl ?_
        refine sv_Q.g (σ' := (33, [some (.ref 0), some (.int a0)], [.int (gm 15 (a0).toNatClampNeg)], (W_Mo gm))) (c := sv_in a0 24) rfl (fun c5 => ?_)
        refine sv_Q.s (σ' := (38, [some (.ref 0), some (.int a0)], [.int (gm 15 (a0).toNatClampNeg)], (W_Mo gm))) 1 rfl ?_
        exact sv_Q.z ⟨True, rfl, trivial, rfl⟩
  · refine sv_Q.s (σ' := (10, [some (.ref 0), some (.int a0)], [.int (-2 : Int32)], (W_Mo gm))) 1 rfl ?_
    exact sv_Q.z ⟨True, rfl, trivial, rfl⟩
def F_Mo_canTake (N : Nat) (a0 : Int32) (gm : Nat → Nat → Int32) : Option (Int32) := (if sv_in a0 24 then (if (gm 14 (a0).toNatClampNeg) = 0 then (some (0 : Int32)) else (if sv_in a0 24 then (if (gm 15 (a0).toNatClampNeg) = (-1 : Int32) then (some (0 : Int32)) else (if sv_in a0 24 then (if ¬ (gm 7 (a0).toNatClampNeg) = (-1 : Int32) then (some (0 : Int32)) else (if sv_in a0 24 then (Option.bind (F_Mo_whyBox N a0 (gm 15 (a0).toNatClampNeg) gm) fun (v8 : Int32) => (if ¬ v8 = 0 then (some (0 : Int32)) else (some (1 : Int32)))) else none)) else none)) else none)) else none)
set_option maxHeartbeats 4000000 in
set_option maxRecDepth 100000 in
theorem r_Mo_canTake {X : Nat × (Nat → Int32)} (N : Nat) (gm : Nat → Nat → Int32) (a0 : Int32) : ∀ x, (F_Mo_canTake N a0 gm) = some x → sv_R X 10 M_Mo_canTake [.ref 0, .int a0] (W_Mo gm) (some (.int x)) (W_Mo gm) := by
  refine sv_Q.R (res := (fun (x : Int32) => (some (.int x), (W_Mo gm)))) g_Mo_canTake rfl ?_
  unfold F_Mo_canTake
  refine sv_Q.s (σ' := (5, [some (.ref 0), some (.int a0)], [.int a0, .ref 14], (W_Mo gm))) 3 rfl ?_
  refine sv_Q.g (σ' := (6, [some (.ref 0), some (.int a0)], [.int (gm 14 (a0).toNatClampNeg)], (W_Mo gm))) (c := sv_in a0 24) rfl (fun c1 => ?_)
  refine sv_Q.b rfl (fun c2 => ?_) (fun c2 => ?_)
  · refine sv_Q.s (σ' := (48, [some (.ref 0), some (.int a0)], [.int (0 : Int32)], (W_Mo gm))) 1 rfl ?_
    exact sv_Q.z ⟨sv_01 (0 : Int32), rfl, Or.inl rfl, rfl⟩
  · refine sv_Q.s (σ' := (14, [some (.ref 0), some (.int a0)], [.int a0, .ref 15], (W_Mo gm))) 3 rfl ?_
    refine sv_Q.g (σ' := (15, [some (.ref 0), some (.int a0)], [.int (gm 15 (a0).toNatClampNeg)], (W_Mo gm))) (c := sv_in a0 24) rfl (fun c3 => ?_)
    refine sv_Q.s (σ' := (16, [some (.ref 0), some (.int a0)], [.int (-1 : Int32), .int (gm 15 (a0).toNatClampNeg)], (W_Mo gm))) 1 rfl ?_
    refine sv_Q.b rfl (fun c4 => ?_) (fun c4 => ?_)
    · refine sv_Q.s (σ' := (48, [some (.ref 0), some (.int a0)], [.int (0 : Int32)], (W_Mo gm))) 1 rfl ?_
      exact sv_Q.z ⟨sv_01 (0 : Int32), rfl, Or.inl rfl, rfl⟩
    · refine sv_Q.s (σ' := (24, [some (.ref 0), some (.int a0)], [.int a0, .ref 7], (W_Mo gm))) 3 rfl ?_
      refine sv_Q.g (σ' := (25, [some (.ref 0), some (.int a0)], [.int (gm 7 (a0).toNatClampNeg)], (W_Mo gm))) (c := sv_in a0 24) rfl (fun c5 => ?_)
      refine sv_Q.s (σ' := (26, [some (.ref 0), some (.int a0)], [.int (-1 : Int32), .int (gm 7 (a0).toNatClampNeg)], (W_Mo gm))) 1 rfl ?_
      refine sv_Q.b rfl (fun c6 => ?_) (fun c6 => ?_)
      · refine sv_Q.s (σ' := (48, [some (.ref 0), some (.int a0)], [.int (0 : Int32)], (W_Mo gm))) 1 rfl ?_
        exact sv_Q.z ⟨sv_01 (0 : Int32), rfl, Or.inl rfl, rfl⟩
      · refine sv_Q.s (σ' := (36, [some (.ref 0), some (.int a0)], [.int a0, .ref 15, .int a0, .ref 0], (W_Mo gm))) 5 rfl ?_
        refine sv_Q.g (σ' := (37, [some (.ref 0), some (.int a0)], [.int (gm 15 (a0).toNatClampNeg), .int a0, .ref 0], (W_Mo gm))) (c := sv_in a0 24) rfl (fun c7 => ?_)
        refine sv_Q.o (fun v8 e9 => ?_)
        refine sv_Q.V (b := 0) (av := [.int a0, .int (gm 15 (a0).toNatClampNeg)]) (ps := [0, 1, 2, 3, 4, 5, 6, 7, 8, 9, 10, 11, 12, 13, 14, 15, 16, 17, 18, 19, 20, 21, 22]) (rest := []) (cs1 := (W_Mo gm)) (cs2 := (W_Mo gm)) (st' := [.int v8]) (cs' := (W_Mo gm)) (q := (37, .null, 0, 0, 0)) lk_Mo_337 (r_Mo_whyBox N gm a0 (gm 15 (a0).toNatClampNeg) v8 e9) rfl rfl rfl rfl rfl (Or.inl ⟨12, _, _, rfl, rfl, rfl⟩) rfl rfl (sc_Mo_Mo_0 gm) rfl rfl (pc_Mo_Mo_0 gm gm) ?_
        refine sv_Q.b rfl (fun c10 => ?_) (fun c10 => ?_)
        · refine sv_Q.s (σ' := (48, [some (.ref 0), some (.int a0)], [.int (0 : Int32)], (W_Mo gm))) 1 rfl ?_
          exact sv_Q.z ⟨sv_01 (0 : Int32), rfl, Or.inl rfl, rfl⟩
        · refine sv_Q.s (σ' := (48, [some (.ref 0), some (.int a0)], [.int (1 : Int32)], (W_Mo gm))) 2 rfl ?_
          exact sv_Q.z ⟨sv_01 (1 : Int32), rfl, Or.inr rfl, rfl⟩
def L_Mo_takes_24 (N : Nat) : Nat → Int32 → Int32 → (Nat → Nat → Int32) → Option (Int32 × (Nat → Nat → Int32))
  | 0, _, _, _ => none
  | n + 1, x1, x2, gm => (if (gm 0 6) ≤ x2 then (some (x1, gm)) else (Option.bind (F_Mo_canTake N x2 gm) fun (v4 : Int32) => (if ¬ v4 = 0 then (Option.bind (if ¬ x1 = 0 then some gm else (Option.bind (F_Mo_keeps N gm) fun (v8 : (Nat → Nat → Int32)) => some v8)) fun (v10 : (Nat → Nat → Int32)) => (if sv_in x2 24 then (Option.bind (F_Mo_lays N x2 (v10 15 (x2).toNatClampNeg) v10) fun (v12 : (Nat → Nat → Int32)) => (L_Mo_takes_24 N n (x1 + (1 : Int32)) (x2 + (1 : Int32)) v12)) else none)) else (L_Mo_takes_24 N n x1 (x2 + (1 : Int32)) gm))))
set_option maxHeartbeats 4000000 in
set_option maxRecDepth 100000 in
theorem l_Mo_takes_24 {X : Nat × (Nat → Int32)} (N : Nat) : ∀ (n : Nat) (x1 : Int32) (x2 : Int32) (gm : Nat → Nat → Int32), sv_Q X 10 M_Mo_takes (24, [some (.ref 0), some (.int x1), some (.int x2)], [], (W_Mo gm)) (L_Mo_takes_24 N n x1 x2 gm) (fun v σ' => σ' = (71, [none, some (.int v.1), none], [], (W_Mo v.2))) := by
  intro n
  induction n with
  | zero => intro x1 x2 gm; unfold L_Mo_takes_24; exact sv_Q.non
  | succ n ih =>
    intro x1 x2 gm
    unfold L_Mo_takes_24
    refine sv_Q.s (σ' := (29, [some (.ref 0), some (.int x1), some (.int x2)], [.int (gm 0 6), .int x2], (W_Mo gm))) 3 rfl ?_
    refine sv_Q.b rfl (fun c3 => ?_) (fun c3 => ?_)
    · refine sv_Q.f (lo' := [none, some (.int x1), none]) ⟨rfl, trivial⟩ ?_
      exact sv_Q.z rfl
    · refine sv_Q.s (σ' := (34, [some (.ref 0), some (.int x1), some (.int x2)], [.int x2, .ref 0], (W_Mo gm))) 2 rfl ?_
      refine sv_Q.o (fun v4 e5 => ?_)
      refine sv_Q.V (b := 0) (av := [.int x2]) (ps := [0, 1, 2, 3, 4, 5, 6, 7, 8, 9, 10, 11, 12, 13, 14, 15, 16, 17, 18, 19, 20, 21, 22]) (rest := []) (cs1 := (W_Mo gm)) (cs2 := (W_Mo gm)) (st' := [.int v4]) (cs' := (W_Mo gm)) (q := (34, .null, 0, 0, 0)) lk_Mo_429 (r_Mo_canTake N gm x2 v4 e5) rfl rfl rfl rfl rfl (Or.inl ⟨12, _, _, rfl, rfl, rfl⟩) rfl rfl (sc_Mo_Mo_0 gm) rfl rfl (pc_Mo_Mo_0 gm gm) ?_
      refine sv_Q.b rfl (fun c6 => ?_) (fun c6 => ?_)
      · refine sv_Q.s (σ' := (44, [some (.ref 0), some (.int x1), some (.int x2)], [.int x1], (W_Mo gm))) 1 rfl ?_
        refine sv_Q.lo (fun v10 => (51, [some (.ref 0), some (.int x1), some (.int x2)], [], (W_Mo v10))) (fun v10 => ?_) ?_
        · refine sv_Q.s (σ' := (58, [some (.ref 0), some (.int x1), some (.int x2)], [.int x2, .ref 15, .int x2, .ref 0], (W_Mo v10))) 5 rfl ?_
          refine sv_Q.g (σ' := (59, [some (.ref 0), some (.int x1), some (.int x2)], [.int (v10 15 (x2).toNatClampNeg), .int x2, .ref 0], (W_Mo v10))) (c := sv_in x2 24) rfl (fun c11 => ?_)
          refine sv_Q.o (fun v12 e13 => ?_)
          refine sv_Q.V (b := 0) (av := [.int x2, .int (v10 15 (x2).toNatClampNeg)]) (ps := [0, 1, 2, 3, 4, 5, 6, 7, 8, 9, 10, 11, 12, 13, 14, 15, 16, 17, 18, 19, 20, 21, 22]) (rest := []) (cs1 := (W_Mo v10)) (cs2 := (W_Mo v12)) (st' := []) (cs' := (W_Mo v12)) (q := (59, .null, 0, 0, 0)) lk_Mo_346 (r_Mo_lays N v10 x2 (v10 15 (x2).toNatClampNeg) v12 e13) rfl rfl rfl rfl rfl (Or.inl ⟨12, _, _, rfl, rfl, rfl⟩) rfl rfl (sc_Mo_Mo_0 v10) rfl rfl (pc_Mo_Mo_0 v10 v12) ?_
          refine sv_Q.s (σ' := (24, [some (.ref 0), some (.int (x1 + (1 : Int32))), some (.int (x2 + (1 : Int32)))], [], (W_Mo v12))) 3 rfl ?_
          exact ih (x1 + (1 : Int32)) (x2 + (1 : Int32)) v12
        · refine sv_Q.b rfl (fun c7 => ?_) (fun c7 => ?_)
          · exact sv_Q.z rfl
          · refine sv_Q.s (σ' := (48, [some (.ref 0), some (.int x1), some (.int x2)], [.ref 0], (W_Mo gm))) 1 rfl ?_
            refine sv_Q.o (fun v8 e9 => ?_)
            refine sv_Q.V (b := 0) (av := []) (ps := [0, 1, 2, 3, 4, 5, 6, 7, 8, 9, 10, 11, 12, 13, 14, 15, 16, 17, 18, 19, 20, 21, 22]) (rest := []) (cs1 := (W_Mo gm)) (cs2 := (W_Mo v8)) (st' := []) (cs' := (W_Mo v8)) (q := (48, .null, 0, 0, 0)) lk_Mo_343 (r_Mo_keeps N gm v8 e9) rfl rfl rfl rfl rfl (Or.inl ⟨12, _, _, rfl, rfl, rfl⟩) rfl rfl (sc_Mo_Mo_0 gm) rfl rfl (pc_Mo_Mo_0 gm v8) ?_
            exact sv_Q.z rfl
      · refine sv_Q.s (σ' := (24, [some (.ref 0), some (.int x1), some (.int (x2 + (1 : Int32)))], [], (W_Mo gm))) 3 rfl ?_
        exact ih x1 (x2 + (1 : Int32)) gm
def F_Mo_takes (N : Nat) (gm : Nat → Nat → Int32) : Option (Int32 × (Nat → Nat → Int32)) := (if ¬ (gm 0 1) = 0 then (if ¬ (gm 0 32) = 0 then (Option.bind (L_Mo_takes_24 N N (0 : Int32) (0 : Int32) gm) fun (v14 : Int32 × (Nat → Nat → Int32)) => (some (v14.1, v14.2))) else (some ((-6 : Int32), gm))) else (some ((-2 : Int32), gm)))
set_option maxHeartbeats 4000000 in
set_option maxRecDepth 100000 in
theorem r_Mo_takes {X : Nat × (Nat → Int32)} (N : Nat) (gm : Nat → Nat → Int32) : ∀ x, (F_Mo_takes N gm) = some x → sv_R X 11 M_Mo_takes [.ref 0] (W_Mo gm) (some (.int x.1)) (W_Mo x.2) := by
  refine sv_Q.R (res := (fun (x : Int32 × (Nat → Nat → Int32)) => (some (.int x.1), (W_Mo x.2)))) g_Mo_takes rfl ?_
  unfold F_Mo_takes
  refine sv_Q.s (σ' := (4, [some (.ref 0), none, none], [.int (gm 0 1)], (W_Mo gm))) 2 rfl ?_
  refine sv_Q.b rfl (fun c1 => ?_) (fun c1 => ?_)
  · refine sv_Q.s (σ' := (14, [some (.ref 0), none, none], [.int (gm 0 32)], (W_Mo gm))) 2 rfl ?_
    refine sv_Q.b rfl (fun c2 => ?_) (fun c2 => ?_)
    · refine sv_Q.s (σ' := (24, [some (.ref 0), some (.int (0 : Int32)), some (.int (0 : Int32))], [], (W_Mo gm))) 4 rfl ?_
      refine sv_Q.lo (fun v14 => (71, [none, some (.int v14.1), none], [], (W_Mo v14.2))) (fun v14 => ?_) (l_Mo_takes_24 N N (0 : Int32) (0 : Int32) gm)
      · refine sv_Q.s (σ' := (72, [none, some (.int v14.1), none], [.int v14.1], (W_Mo v14.2))) 1 rfl ?_
        exact sv_Q.z ⟨True, rfl, trivial, rfl⟩
    · refine sv_Q.s (σ' := (19, [some (.ref 0), none, none], [.int (-6 : Int32)], (W_Mo gm))) 1 rfl ?_
      exact sv_Q.z ⟨True, rfl, trivial, rfl⟩
  · refine sv_Q.s (σ' := (9, [some (.ref 0), none, none], [.int (-2 : Int32)], (W_Mo gm))) 1 rfl ?_
    exact sv_Q.z ⟨True, rfl, trivial, rfl⟩
def F_Mo_loads (N : Nat) (gm : Nat → Nat → Int32) : Option (Int32 × (Nat → Nat → Int32)) := (if ¬ (gm 0 1) = 0 then (Option.bind (F_Mo_goesGreedy N gm) fun (v2 : Int32 × (Nat → Nat → Int32)) => (if ¬ v2.1 = 0 then (Option.bind (F_Mo_takesBack N v2.2) fun (v5 : (Nat → Nat → Int32)) => (Option.bind (F_Mo_keeps N v5) fun (v7 : (Nat → Nat → Int32)) => (Option.bind (F_Mo_goesGreedy N v7) fun (v9 : Int32 × (Nat → Nat → Int32)) => (some (v9.1, v9.2))))) else (some ((0 : Int32), v2.2)))) else (some ((-2 : Int32), gm)))
set_option maxHeartbeats 4000000 in
set_option maxRecDepth 100000 in
theorem r_Mo_loads {X : Nat × (Nat → Int32)} (N : Nat) (gm : Nat → Nat → Int32) : ∀ x, (F_Mo_loads N gm) = some x → sv_R X 11 M_Mo_loads [.ref 0] (W_Mo gm) (some (.int x.1)) (W_Mo x.2) := by
  refine sv_Q.R (res := (fun (x : Int32 × (Nat → Nat → Int32)) => (some (.int x.1), (W_Mo x.2)))) g_Mo_loads rfl ?_
  unfold F_Mo_loads
  refine sv_Q.s (σ' := (4, [some (.ref 0), none], [.int (gm 0 1)], (W_Mo gm))) 2 rfl ?_
  refine sv_Q.b rfl (fun c1 => ?_) (fun c1 => ?_)
  · refine sv_Q.s (σ' := (11, [some (.ref 0), none], [.ref 0], (W_Mo gm))) 1 rfl ?_
    refine sv_Q.o (fun v2 e3 => ?_)
    refine sv_Q.V (b := 0) (av := []) (ps := [0, 1, 2, 3, 4, 5, 6, 7, 8, 9, 10, 11, 12, 13, 14, 15, 16, 17, 18, 19, 20, 21, 22]) (rest := []) (cs1 := (W_Mo gm)) (cs2 := (W_Mo v2.2)) (st' := [.int v2.1]) (cs' := (W_Mo v2.2)) (q := (11, .null, 0, 0, 0)) lk_Mo_423 (r_Mo_goesGreedy N gm v2 e3) rfl rfl rfl rfl rfl (Or.inl ⟨12, _, _, rfl, rfl, rfl⟩) rfl rfl (sc_Mo_Mo_0 gm) rfl rfl (pc_Mo_Mo_0 gm v2.2) ?_
    refine sv_Q.s (σ' := (16, [some (.ref 0), some (.int v2.1)], [.int v2.1], (W_Mo v2.2))) 2 rfl ?_
    refine sv_Q.b rfl (fun c4 => ?_) (fun c4 => ?_)
    · refine sv_Q.s (σ' := (22, [some (.ref 0), some (.int v2.1)], [.ref 0], (W_Mo v2.2))) 1 rfl ?_
      refine sv_Q.o (fun v5 e6 => ?_)
      refine sv_Q.V (b := 0) (av := []) (ps := [0, 1, 2, 3, 4, 5, 6, 7, 8, 9, 10, 11, 12, 13, 14, 15, 16, 17, 18, 19, 20, 21, 22]) (rest := []) (cs1 := (W_Mo v2.2)) (cs2 := (W_Mo v5)) (st' := []) (cs' := (W_Mo v5)) (q := (22, .null, 0, 0, 0)) lk_Mo_426 (r_Mo_takesBack N v2.2 v5 e6) rfl rfl rfl rfl rfl (Or.inl ⟨12, _, _, rfl, rfl, rfl⟩) rfl rfl (sc_Mo_Mo_0 v2.2) rfl rfl (pc_Mo_Mo_0 v2.2 v5) ?_
      refine sv_Q.s (σ' := (26, [some (.ref 0), some (.int v2.1)], [.ref 0], (W_Mo v5))) 1 rfl ?_
      refine sv_Q.o (fun v7 e8 => ?_)
      refine sv_Q.V (b := 0) (av := []) (ps := [0, 1, 2, 3, 4, 5, 6, 7, 8, 9, 10, 11, 12, 13, 14, 15, 16, 17, 18, 19, 20, 21, 22]) (rest := []) (cs1 := (W_Mo v5)) (cs2 := (W_Mo v7)) (st' := []) (cs' := (W_Mo v7)) (q := (26, .null, 0, 0, 0)) lk_Mo_343 (r_Mo_keeps N v5 v7 e8) rfl rfl rfl rfl rfl (Or.inl ⟨12, _, _, rfl, rfl, rfl⟩) rfl rfl (sc_Mo_Mo_0 v5) rfl rfl (pc_Mo_Mo_0 v5 v7) ?_
      refine sv_Q.s (σ' := (30, [some (.ref 0), some (.int v2.1)], [.ref 0], (W_Mo v7))) 1 rfl ?_
      refine sv_Q.o (fun v9 e10 => ?_)
      refine sv_Q.V (b := 0) (av := []) (ps := [0, 1, 2, 3, 4, 5, 6, 7, 8, 9, 10, 11, 12, 13, 14, 15, 16, 17, 18, 19, 20, 21, 22]) (rest := []) (cs1 := (W_Mo v7)) (cs2 := (W_Mo v9.2)) (st' := [.int v9.1]) (cs' := (W_Mo v9.2)) (q := (30, .null, 0, 0, 0)) lk_Mo_423 (r_Mo_goesGreedy N v7 v9 e10) rfl rfl rfl rfl rfl (Or.inl ⟨12, _, _, rfl, rfl, rfl⟩) rfl rfl (sc_Mo_Mo_0 v7) rfl rfl (pc_Mo_Mo_0 v7 v9.2) ?_
      exact sv_Q.z ⟨True, rfl, trivial, rfl⟩
    · refine sv_Q.s (σ' := (20, [some (.ref 0), some (.int v2.1)], [.int (0 : Int32)], (W_Mo v2.2))) 1 rfl ?_
      exact sv_Q.z ⟨True, rfl, trivial, rfl⟩
  · refine sv_Q.s (σ' := (9, [some (.ref 0), none], [.int (-2 : Int32)], (W_Mo gm))) 1 rfl ?_
    exact sv_Q.z ⟨True, rfl, trivial, rfl⟩
def L_Mo_latePlace_2 (N : Nat) : Nat → Int32 → (Nat → Nat → Int32) → Option ((Unit) ⊕ (Int32))
  | 0, _, _ => none
  | n + 1, x1, gm => (Option.bind (F_Mo_places N gm) fun (v1 : Int32) => (if v1 ≤ x1 then (some (.inl ())) else (Option.bind (F_Mo_whyOf N (gm 0 35) (gm 0 36) x1 (-1 : Int32) gm) fun (v4 : Int32) => (if ¬ v4 = 0 then (L_Mo_latePlace_2 N n (x1 + (1 : Int32)) gm) else (some (.inr x1))))))
set_option maxHeartbeats 4000000 in
set_option maxRecDepth 100000 in
theorem l_Mo_latePlace_2 {X : Nat × (Nat → Int32)} (N : Nat) : ∀ (n : Nat) (x1 : Int32) (gm : Nat → Nat → Int32), sv_Q X 8 M_Mo_latePlace (2, [some (.ref 0), some (.int x1)], [], (W_Mo gm)) (L_Mo_latePlace_2 N n x1 gm) (sv_K2 (fun (v : Unit) => (35, [none, none], [], (W_Mo gm))) (sv_KR M_Mo_latePlace (fun (x : Int32) => (some (.int x), (W_Mo gm))))) := by
  intro n
  induction n with
  | zero => intro x1 gm; unfold L_Mo_latePlace_2; exact sv_Q.non
  | succ n ih =>
    intro x1 gm
    unfold L_Mo_latePlace_2
    refine sv_Q.s (σ' := (4, [some (.ref 0), some (.int x1)], [.ref 0, .int x1], (W_Mo gm))) 2 rfl ?_
    refine sv_Q.o (fun v1 e2 => ?_)
    refine sv_Q.V (b := 0) (av := []) (ps := [0, 1, 2, 3, 4, 5, 6, 7, 8, 9, 10, 11, 12, 13, 14, 15, 16, 17, 18, 19, 20, 21, 22]) (rest := [.int x1]) (cs1 := (W_Mo gm)) (cs2 := (W_Mo gm)) (st' := [.int v1, .int x1]) (cs' := (W_Mo gm)) (q := (4, .null, 0, 0, 0)) lk_Mo_254 (r_Mo_places N gm v1 e2) rfl rfl rfl rfl rfl (Or.inl ⟨12, _, _, rfl, rfl, rfl⟩) rfl rfl (sc_Mo_Mo_0 gm) rfl rfl (pc_Mo_Mo_0 gm gm) ?_
    refine sv_Q.b rfl (fun c3 => ?_) (fun c3 => ?_)
    · refine sv_Q.f (lo' := [none, none]) trivial ?_
      exact sv_Q.z rfl
    · refine sv_Q.s (σ' := (21, [some (.ref 0), some (.int x1)], [.int (-1 : Int32), .int x1, .int (gm 0 36), .int (gm 0 35), .ref 0], (W_Mo gm))) 7 rfl ?_
      refine sv_Q.o (fun v4 e5 => ?_)
      refine sv_Q.V (b := 0) (av := [.int (gm 0 35), .int (gm 0 36), .int x1, .int (-1 : Int32)]) (ps := [0, 1, 2, 3, 4, 5, 6, 7, 8, 9, 10, 11, 12, 13, 14, 15, 16, 17, 18, 19, 20, 21, 22]) (rest := []) (cs1 := (W_Mo gm)) (cs2 := (W_Mo gm)) (st' := [.int v4]) (cs' := (W_Mo gm)) (q := (21, .null, 0, 0, 0)) lk_Mo_333 (r_Mo_whyOf N gm (gm 0 35) (gm 0 36) x1 (-1 : Int32) v4 e5) rfl rfl rfl rfl rfl (Or.inl ⟨12, _, _, rfl, rfl, rfl⟩) rfl rfl (sc_Mo_Mo_0 gm) rfl rfl (pc_Mo_Mo_0 gm gm) ?_
      refine sv_Q.b rfl (fun c6 => ?_) (fun c6 => ?_)
      · refine sv_Q.s (σ' := (2, [some (.ref 0), some (.int (x1 + (1 : Int32)))], [], (W_Mo gm))) 2 rfl ?_
        exact ih (x1 + (1 : Int32)) gm
      · refine sv_Q.s (σ' := (28, [some (.ref 0), some (.int x1)], [.int x1], (W_Mo gm))) 1 rfl ?_
        exact sv_Q.z ⟨True, rfl, trivial, rfl⟩
def F_Mo_latePlace (N : Nat) (gm : Nat → Nat → Int32) : Option (Int32) := (sv_bs (L_Mo_latePlace_2 N N (0 : Int32) gm) id fun (v7 : Unit) => (some (-1 : Int32)))
set_option maxHeartbeats 4000000 in
set_option maxRecDepth 100000 in
theorem r_Mo_latePlace {X : Nat × (Nat → Int32)} (N : Nat) (gm : Nat → Nat → Int32) : ∀ x, (F_Mo_latePlace N gm) = some x → sv_R X 9 M_Mo_latePlace [.ref 0] (W_Mo gm) (some (.int x)) (W_Mo gm) := by
  refine sv_Q.R (res := (fun (x : Int32) => (some (.int x), (W_Mo gm)))) g_Mo_latePlace rfl ?_
  unfold F_Mo_latePlace
  refine sv_Q.s (σ' := (2, [some (.ref 0), some (.int (0 : Int32))], [], (W_Mo gm))) 2 rfl ?_
  refine sv_Q.bs (l_Mo_latePlace_2 N N (0 : Int32) gm) (fun v7 => ?_) (fun r σ' h => h)
  · refine sv_Q.s (σ' := (36, [none, none], [.int (-1 : Int32)], (W_Mo gm))) 1 rfl ?_
    exact sv_Q.z ⟨True, rfl, trivial, rfl⟩
def L_Mo_shiftsMore_80 (N : Nat) (rec : Int32 → Int32 → Int32 → (Nat → Nat → Int32) → Option (Int32 × (Nat → Nat → Int32))) : Nat → Int32 → Int32 → Int32 → Int32 → Int32 → Int32 → (Nat → Nat → Int32) → Option (((Nat → Nat → Int32)) ⊕ (Int32 × (Nat → Nat → Int32)))
  | 0, _, _, _, _, _, _, _ => none
  | n + 1, x1, x2, x3, x4, x5, x6, gm => (Option.bind (F_Mo_places N gm) fun (v10 : Int32) => (if v10 ≤ x6 then (some (.inl gm)) else (Option.bind (F_Mo_whyBox N x4 x6 gm) fun (v13 : Int32) => (if v13 = 0 then (if ¬ (gm 0 24) = (gm 0 25) then (sv_let (ss gm 24 ((gm 0 24) + (1 : Int32))) fun (gm_17 : Nat → Nat → Int32) => (Option.bind (F_Mo_lays N x4 x6 gm_17) fun (v18 : (Nat → Nat → Int32)) => (if sv_in ((2 : Int32) * x1) 4 then (sv_let (sa v18 17 ((2 : Int32) * x1) x4) fun (gm_21 : Nat → Nat → Int32) => (if sv_in (((2 : Int32) * x1) + (1 : Int32)) 4 then (sv_let (sa gm_21 17 (((2 : Int32) * x1) + (1 : Int32)) x6) fun (gm_23 : Nat → Nat → Int32) => (Option.bind (rec (x1 + (1 : Int32)) x2 x4 gm_23) fun (v24 : Int32 × (Nat → Nat → Int32)) => (Option.bind (F_Mo_lays N x4 x5 v24.2) fun (v26 : (Nat → Nat → Int32)) => (if v24.1 = 0 then (L_Mo_shiftsMore_80 N rec n x1 x2 x3 x4 x5 (x6 + (1 : Int32)) v26) else (some (.inr ((1 : Int32), v26))))))) else none)) else none))) else (sv_let (ss gm 26 (1 : Int32)) fun (gm_29 : Nat → Nat → Int32) => (some (.inr ((1 : Int32), gm_29))))) else (L_Mo_shiftsMore_80 N rec n x1 x2 x3 x4 x5 (x6 + (1 : Int32)) gm)))))
set_option maxHeartbeats 4000000 in
set_option maxRecDepth 100000 in
theorem l_Mo_shiftsMore_80 {X : Nat × (Nat → Int32)} (N : Nat) (dd : Nat) (rec : Int32 → Int32 → Int32 → (Nat → Nat → Int32) → Option (Int32 × (Nat → Nat → Int32))) (hrec : ∀ (gm : Nat → Nat → Int32) (a0 : Int32) (a1 : Int32) (a2 : Int32) x, rec a0 a1 a2 gm = some x → sv_R X (dd + 10) M_Mo_shiftsMore [.ref 0, .int a0, .int a1, .int a2] (W_Mo gm) (some (.int x.1)) (W_Mo x.2)) : ∀ (n : Nat) (x1 : Int32) (x2 : Int32) (x3 : Int32) (x4 : Int32) (x5 : Int32) (x6 : Int32) (gm : Nat → Nat → Int32), sv_Q X (dd + 10) M_Mo_shiftsMore (80, [some (.ref 0), some (.int x1), some (.int x2), some (.int x3), some (.int x4), some (.int x5), some (.int x6), none], [], (W_Mo gm)) (L_Mo_shiftsMore_80 N rec n x1 x2 x3 x4 x5 x6 gm) (sv_K2 (fun (v : (Nat → Nat → Int32)) => (194, [some (.ref 0), some (.int x1), some (.int x2), some (.int x3), some (.int x4), none, none, none], [], (W_Mo v))) (sv_KR M_Mo_shiftsMore (fun (x : Int32 × (Nat → Nat → Int32)) => (some (.int x.1), (W_Mo x.2))))) := by
  intro n
  induction n with
  | zero => intro x1 x2 x3 x4 x5 x6 gm; unfold L_Mo_shiftsMore_80; exact sv_Q.non
  | succ n ih =>
    intro x1 x2 x3 x4 x5 x6 gm
    unfold L_Mo_shiftsMore_80
    refine sv_Q.s (σ' := (83, [some (.ref 0), some (.int x1), some (.int x2), some (.int x3), some (.int x4), some (.int x5), some (.int x6), none], [.ref 0, .int x6], (W_Mo gm))) 2 rfl ?_
    refine sv_Q.o (fun v10 e11 => ?_)
    refine sv_Q.V (b := 0) (av := []) (ps := [0, 1, 2, 3, 4, 5, 6, 7, 8, 9, 10, 11, 12, 13, 14, 15, 16, 17, 18, 19, 20, 21, 22]) (rest := [.int x6]) (cs1 := (W_Mo gm)) (cs2 := (W_Mo gm)) (st' := [.int v10, .int x6]) (cs' := (W_Mo gm)) (q := (83, .null, 0, 0, 0)) lk_Mo_254 (r_Mo_places N gm v10 e11) rfl rfl rfl rfl rfl (Or.inl ⟨12, _, _, rfl, rfl, rfl⟩) rfl rfl (sc_Mo_Mo_0 gm) rfl rfl (pc_Mo_Mo_0 gm gm) ?_
    refine sv_Q.b rfl (fun c12 => ?_) (fun c12 => ?_)
    · refine sv_Q.f (lo' := [some (.ref 0), some (.int x1), some (.int x2), some (.int x3), some (.int x4), none, none, none]) ⟨rfl, ⟨rfl, ⟨rfl, ⟨rfl, ⟨rfl, trivial⟩⟩⟩⟩⟩ ?_
      exact sv_Q.z rfl
    · refine sv_Q.s (σ' := (94, [some (.ref 0), some (.int x1), some (.int x2), some (.int x3), some (.int x4), some (.int x5), some (.int x6), none], [.int x6, .int x4, .ref 0], (W_Mo gm))) 3 rfl ?_
      refine sv_Q.o (fun v13 e14 => ?_)
      refine sv_Q.V (b := 0) (av := [.int x4, .int x6]) (ps := [0, 1, 2, 3, 4, 5, 6, 7, 8, 9, 10, 11, 12, 13, 14, 15, 16, 17, 18, 19, 20, 21, 22]) (rest := []) (cs1 := (W_Mo gm)) (cs2 := (W_Mo gm)) (st' := [.int v13]) (cs' := (W_Mo gm)) (q := (94, .null, 0, 0, 0)) lk_Mo_337 (r_Mo_whyBox N gm x4 x6 v13 e14) rfl rfl rfl rfl rfl (Or.inl ⟨12, _, _, rfl, rfl, rfl⟩) rfl rfl (sc_Mo_Mo_0 gm) rfl rfl (pc_Mo_Mo_0 gm gm) ?_
      refine sv_Q.b rfl (fun c15 => ?_) (fun c15 => ?_)
      · refine sv_Q.s (σ' := (111, [some (.ref 0), some (.int x1), some (.int x2), some (.int x3), some (.int x4), some (.int x5), some (.int x6), none], [.int (gm 0 25), .int (gm 0 24)], (W_Mo gm))) 4 rfl ?_
        refine sv_Q.b rfl (fun c16 => ?_) (fun c16 => ?_)
        · refine sv_Q.s (σ' := (131, [some (.ref 0), some (.int x1), some (.int x2), some (.int x3), some (.int x4), some (.int x5), some (.int x6), none], [], (W_Mo (ss gm 24 ((gm 0 24) + (1 : Int32)))))) 6 rfl ?_
          refine sv_Q.go (fun gm_17 => (131, [some (.ref 0), some (.int x1), some (.int x2), some (.int x3), some (.int x4), some (.int x5), some (.int x6), none], [], (W_Mo gm_17))) (fun gm_17 => ?_)
          refine sv_Q.s (σ' := (136, [some (.ref 0), some (.int x1), some (.int x2), some (.int x3), some (.int x4), some (.int x5), some (.int x6), none], [.int x6, .int x4, .ref 0], (W_Mo gm_17))) 3 rfl ?_
          refine sv_Q.o (fun v18 e19 => ?_)
          refine sv_Q.V (b := 0) (av := [.int x4, .int x6]) (ps := [0, 1, 2, 3, 4, 5, 6, 7, 8, 9, 10, 11, 12, 13, 14, 15, 16, 17, 18, 19, 20, 21, 22]) (rest := []) (cs1 := (W_Mo gm_17)) (cs2 := (W_Mo v18)) (st' := []) (cs' := (W_Mo v18)) (q := (136, .null, 0, 0, 0)) lk_Mo_346 (r_Mo_lays N gm_17 x4 x6 v18 e19) rfl rfl rfl rfl rfl (Or.inl ⟨12, _, _, rfl, rfl, rfl⟩) rfl rfl (sc_Mo_Mo_0 gm_17) rfl rfl (pc_Mo_Mo_0 gm_17 v18) ?_
          refine sv_Q.s (σ' := (148, [some (.ref 0), some (.int x1), some (.int x2), some (.int x3), some (.int x4), some (.int x5), some (.int x6), none], [.int x4, .int ((2 : Int32) * x1), .ref 17], (W_Mo v18))) 6 rfl ?_
          refine sv_Q.g (σ' := (149, [some (.ref 0), some (.int x1), some (.int x2), some (.int x3), some (.int x4), some (.int x5), some (.int x6), none], [], (W_Mo (sa v18 17 ((2 : Int32) * x1) x4)))) (c := sv_in ((2 : Int32) * x1) 4) rfl (fun c20 => ?_)
          refine sv_Q.go (fun gm_21 => (149, [some (.ref 0), some (.int x1), some (.int x2), some (.int x3), some (.int x4), some (.int x5), some (.int x6), none], [], (W_Mo gm_21))) (fun gm_21 => ?_)
          refine sv_Q.s (σ' := (160, [some (.ref 0), some (.int x1), some (.int x2), some (.int x3), some (.int x4), some (.int x5), some (.int x6), none], [.int x6, .int (((2 : Int32) * x1) + (1 : Int32)), .ref 17], (W_Mo gm_21))) 8 rfl ?_
          refine sv_Q.g (σ' := (161, [some (.ref 0), some (.int x1), some (.int x2), some (.int x3), some (.int x4), some (.int x5), some (.int x6), none], [], (W_Mo (sa gm_21 17 (((2 : Int32) * x1) + (1 : Int32)) x6)))) (c := sv_in (((2 : Int32) * x1) + (1 : Int32)) 4) rfl (fun c22 => ?_)
          refine sv_Q.go (fun gm_23 => (161, [some (.ref 0), some (.int x1), some (.int x2), some (.int x3), some (.int x4), some (.int x5), some (.int x6), none], [], (W_Mo gm_23))) (fun gm_23 => ?_)
          refine sv_Q.s (σ' := (168, [some (.ref 0), some (.int x1), some (.int x2), some (.int x3), some (.int x4), some (.int x5), some (.int x6), none], [.int x4, .int x2, .int (x1 + (1 : Int32)), .ref 0], (W_Mo gm_23))) 6 rfl ?_
          refine sv_Q.o (fun v24 e25 => ?_)
          refine sv_Q.V (b := 0) (av := [.int (x1 + (1 : Int32)), .int x2, .int x4]) (ps := [0, 1, 2, 3, 4, 5, 6, 7, 8, 9, 10, 11, 12, 13, 14, 15, 16, 17, 18, 19, 20, 21, 22]) (rest := []) (cs1 := (W_Mo gm_23)) (cs2 := (W_Mo v24.2)) (st' := [.int v24.1]) (cs' := (W_Mo v24.2)) (q := (168, .null, 0, 0, 0)) lk_Mo_444 (hrec gm_23 (x1 + (1 : Int32)) x2 x4 v24 e25) (Nat.ble_eq_true_of_le (Nat.le_refl _)) rfl rfl rfl rfl (Or.inl ⟨12, _, _, rfl, rfl, rfl⟩) rfl rfl (sc_Mo_Mo_0 gm_23) rfl rfl (pc_Mo_Mo_0 gm_23 v24.2) ?_
          refine sv_Q.s (σ' := (178, [some (.ref 0), some (.int x1), some (.int x2), some (.int x3), some (.int x4), some (.int x5), some (.int x6), some (.int v24.1)], [.int x5, .int x4, .ref 0], (W_Mo v24.2))) 4 rfl ?_
          refine sv_Q.o (fun v26 e27 => ?_)
          refine sv_Q.V (b := 0) (av := [.int x4, .int x5]) (ps := [0, 1, 2, 3, 4, 5, 6, 7, 8, 9, 10, 11, 12, 13, 14, 15, 16, 17, 18, 19, 20, 21, 22]) (rest := []) (cs1 := (W_Mo v24.2)) (cs2 := (W_Mo v26)) (st' := []) (cs' := (W_Mo v26)) (q := (178, .null, 0, 0, 0)) lk_Mo_346 (r_Mo_lays N v24.2 x4 x5 v26 e27) rfl rfl rfl rfl rfl (Or.inl ⟨12, _, _, rfl, rfl, rfl⟩) rfl rfl (sc_Mo_Mo_0 v24.2) rfl rfl (pc_Mo_Mo_0 v24.2 v26) ?_
          refine sv_Q.s (σ' := (183, [some (.ref 0), some (.int x1), some (.int x2), some (.int x3), some (.int x4), some (.int x5), some (.int x6), some (.int v24.1)], [.int v24.1], (W_Mo v26))) 1 rfl ?_
          refine sv_Q.b rfl (fun c28 => ?_) (fun c28 => ?_)
          · refine sv_Q.s (σ' := (80, [some (.ref 0), some (.int x1), some (.int x2), some (.int x3), some (.int x4), some (.int x5), some (.int (x6 + (1 : Int32))), some (.int v24.1)], [], (W_Mo v26))) 2 rfl ?_
            refine sv_Q.f (lo' := [some (.ref 0), some (.int x1), some (.int x2), some (.int x3), some (.int x4), some (.int x5), some (.int (x6 + (1 : Int32))), none]) ⟨rfl, ⟨rfl, ⟨rfl, ⟨rfl, ⟨rfl, ⟨rfl, ⟨rfl, trivial⟩⟩⟩⟩⟩⟩⟩ ?_
            exact ih x1 x2 x3 x4 x5 (x6 + (1 : Int32)) v26
          · refine sv_Q.s (σ' := (187, [some (.ref 0), some (.int x1), some (.int x2), some (.int x3), some (.int x4), some (.int x5), some (.int x6), some (.int v24.1)], [.int (1 : Int32)], (W_Mo v26))) 1 rfl ?_
            exact sv_Q.z ⟨sv_01 (1 : Int32), rfl, Or.inr rfl, rfl⟩
        · refine sv_Q.s (σ' := (116, [some (.ref 0), some (.int x1), some (.int x2), some (.int x3), some (.int x4), some (.int x5), some (.int x6), none], [.int (1 : Int32), .ref 0], (W_Mo gm))) 2 rfl ?_
          refine sv_Q.gk (σ' := (119, [some (.ref 0), some (.int x1), some (.int x2), some (.int x3), some (.int x4), some (.int x5), some (.int x6), none], [], (W_Mo (ss gm 26 (1 : Int32))))) (c := sv_01 (1 : Int32)) rfl (Or.inr rfl) ?_
          refine sv_Q.go (fun gm_29 => (119, [some (.ref 0), some (.int x1), some (.int x2), some (.int x3), some (.int x4), some (.int x5), some (.int x6), none], [], (W_Mo gm_29))) (fun gm_29 => ?_)
          refine sv_Q.s (σ' := (120, [some (.ref 0), some (.int x1), some (.int x2), some (.int x3), some (.int x4), some (.int x5), some (.int x6), none], [.int (1 : Int32)], (W_Mo gm_29))) 1 rfl ?_
          exact sv_Q.z ⟨sv_01 (1 : Int32), rfl, Or.inr rfl, rfl⟩
      · refine sv_Q.s (σ' := (80, [some (.ref 0), some (.int x1), some (.int x2), some (.int x3), some (.int x4), some (.int x5), some (.int (x6 + (1 : Int32))), none], [], (W_Mo gm))) 3 rfl ?_
        exact ih x1 x2 x3 x4 x5 (x6 + (1 : Int32)) gm
def L_Mo_shiftsMore_30 (N : Nat) (rec : Int32 → Int32 → Int32 → (Nat → Nat → Int32) → Option (Int32 × (Nat → Nat → Int32))) : Nat → Int32 → Int32 → Int32 → Int32 → (Nat → Nat → Int32) → Option (((Nat → Nat → Int32)) ⊕ (Int32 × (Nat → Nat → Int32)))
  | 0, _, _, _, _, _ => none
  | n + 1, x1, x2, x3, x4, gm => (if (gm 0 6) ≤ x4 then (some (.inl gm)) else (if x4 = x3 then (L_Mo_shiftsMore_30 N rec n x1 x2 x3 (x4 + (1 : Int32)) gm) else (if sv_in x4 24 then (if (gm 7 (x4).toNatClampNeg) = (-1 : Int32) then (L_Mo_shiftsMore_30 N rec n x1 x2 x3 (x4 + (1 : Int32)) gm) else (Option.bind (F_Mo_canLift N x4 gm) fun (v6 : Int32) => (if ¬ v6 = 0 then (if sv_in x4 24 then (sv_bs (L_Mo_shiftsMore_80 N rec N x1 x2 x3 x4 (gm 7 (x4).toNatClampNeg) (0 : Int32) gm) Sum.inr fun (v30 : (Nat → Nat → Int32)) => (L_Mo_shiftsMore_30 N rec n x1 x2 x3 (x4 + (1 : Int32)) v30)) else none) else (L_Mo_shiftsMore_30 N rec n x1 x2 x3 (x4 + (1 : Int32)) gm)))) else none)))
set_option maxHeartbeats 4000000 in
set_option maxRecDepth 100000 in
theorem l_Mo_shiftsMore_30 {X : Nat × (Nat → Int32)} (N : Nat) (dd : Nat) (rec : Int32 → Int32 → Int32 → (Nat → Nat → Int32) → Option (Int32 × (Nat → Nat → Int32))) (hrec : ∀ (gm : Nat → Nat → Int32) (a0 : Int32) (a1 : Int32) (a2 : Int32) x, rec a0 a1 a2 gm = some x → sv_R X (dd + 10) M_Mo_shiftsMore [.ref 0, .int a0, .int a1, .int a2] (W_Mo gm) (some (.int x.1)) (W_Mo x.2)) : ∀ (n : Nat) (x1 : Int32) (x2 : Int32) (x3 : Int32) (x4 : Int32) (gm : Nat → Nat → Int32), sv_Q X (dd + 10) M_Mo_shiftsMore (30, [some (.ref 0), some (.int x1), some (.int x2), some (.int x3), some (.int x4), none, none, none], [], (W_Mo gm)) (L_Mo_shiftsMore_30 N rec n x1 x2 x3 x4 gm) (sv_K2 (fun (v : (Nat → Nat → Int32)) => (200, [none, none, none, none, none, none, none, none], [], (W_Mo v))) (sv_KR M_Mo_shiftsMore (fun (x : Int32 × (Nat → Nat → Int32)) => (some (.int x.1), (W_Mo x.2))))) := by
  intro n
  induction n with
  | zero => intro x1 x2 x3 x4 gm; unfold L_Mo_shiftsMore_30; exact sv_Q.non
  | succ n ih =>
    intro x1 x2 x3 x4 gm
    unfold L_Mo_shiftsMore_30
    refine sv_Q.s (σ' := (36, [some (.ref 0), some (.int x1), some (.int x2), some (.int x3), some (.int x4), none, none, none], [.int (gm 0 6), .int x4], (W_Mo gm))) 3 rfl ?_
    refine sv_Q.b rfl (fun c2 => ?_) (fun c2 => ?_)
    · refine sv_Q.f (lo' := [none, none, none, none, none, none, none, none]) trivial ?_
      exact sv_Q.z rfl
    · refine sv_Q.s (σ' := (42, [some (.ref 0), some (.int x1), some (.int x2), some (.int x3), some (.int x4), none, none, none], [.int x3, .int x4], (W_Mo gm))) 2 rfl ?_
      refine sv_Q.b rfl (fun c3 => ?_) (fun c3 => ?_)
      · refine sv_Q.s (σ' := (30, [some (.ref 0), some (.int x1), some (.int x2), some (.int x3), some (.int (x4 + (1 : Int32))), none, none, none], [], (W_Mo gm))) 2 rfl ?_
        exact ih x1 x2 x3 (x4 + (1 : Int32)) gm
      · refine sv_Q.s (σ' := (51, [some (.ref 0), some (.int x1), some (.int x2), some (.int x3), some (.int x4), none, none, none], [.int x4, .ref 7], (W_Mo gm))) 3 rfl ?_
        refine sv_Q.g (σ' := (52, [some (.ref 0), some (.int x1), some (.int x2), some (.int x3), some (.int x4), none, none, none], [.int (gm 7 (x4).toNatClampNeg)], (W_Mo gm))) (c := sv_in x4 24) rfl (fun c4 => ?_)
        refine sv_Q.s (σ' := (53, [some (.ref 0), some (.int x1), some (.int x2), some (.int x3), some (.int x4), none, none, none], [.int (-1 : Int32), .int (gm 7 (x4).toNatClampNeg)], (W_Mo gm))) 1 rfl ?_
        refine sv_Q.b rfl (fun c5 => ?_) (fun c5 => ?_)
        · refine sv_Q.s (σ' := (30, [some (.ref 0), some (.int x1), some (.int x2), some (.int x3), some (.int (x4 + (1 : Int32))), none, none, none], [], (W_Mo gm))) 2 rfl ?_
          exact ih x1 x2 x3 (x4 + (1 : Int32)) gm
        · refine sv_Q.s (σ' := (59, [some (.ref 0), some (.int x1), some (.int x2), some (.int x3), some (.int x4), none, none, none], [.int x4, .ref 0], (W_Mo gm))) 2 rfl ?_
          refine sv_Q.o (fun v6 e7 => ?_)
          refine sv_Q.V (b := 0) (av := [.int x4]) (ps := [0, 1, 2, 3, 4, 5, 6, 7, 8, 9, 10, 11, 12, 13, 14, 15, 16, 17, 18, 19, 20, 21, 22]) (rest := []) (cs1 := (W_Mo gm)) (cs2 := (W_Mo gm)) (st' := [.int v6]) (cs' := (W_Mo gm)) (q := (59, .null, 0, 0, 0)) lk_Mo_340 (r_Mo_canLift N gm x4 v6 e7) rfl rfl rfl rfl rfl (Or.inl ⟨12, _, _, rfl, rfl, rfl⟩) rfl rfl (sc_Mo_Mo_0 gm) rfl rfl (pc_Mo_Mo_0 gm gm) ?_
          refine sv_Q.b rfl (fun c8 => ?_) (fun c8 => ?_)
          · refine sv_Q.s (σ' := (74, [some (.ref 0), some (.int x1), some (.int x2), some (.int x3), some (.int x4), none, none, none], [.int x4, .ref 7], (W_Mo gm))) 3 rfl ?_
            refine sv_Q.g (σ' := (75, [some (.ref 0), some (.int x1), some (.int x2), some (.int x3), some (.int x4), none, none, none], [.int (gm 7 (x4).toNatClampNeg)], (W_Mo gm))) (c := sv_in x4 24) rfl (fun c9 => ?_)
            refine sv_Q.s (σ' := (80, [some (.ref 0), some (.int x1), some (.int x2), some (.int x3), some (.int x4), some (.int (gm 7 (x4).toNatClampNeg)), some (.int (0 : Int32)), none], [], (W_Mo gm))) 3 rfl ?_
            refine sv_Q.bs (l_Mo_shiftsMore_80 N dd rec hrec N x1 x2 x3 x4 (gm 7 (x4).toNatClampNeg) (0 : Int32) gm) (fun v30 => ?_) (fun r σ' h => h)
            · refine sv_Q.s (σ' := (30, [some (.ref 0), some (.int x1), some (.int x2), some (.int x3), some (.int (x4 + (1 : Int32))), none, none, none], [], (W_Mo v30))) 2 rfl ?_
              exact ih x1 x2 x3 (x4 + (1 : Int32)) v30
          · refine sv_Q.s (σ' := (30, [some (.ref 0), some (.int x1), some (.int x2), some (.int x3), some (.int (x4 + (1 : Int32))), none, none, none], [], (W_Mo gm))) 3 rfl ?_
            exact ih x1 x2 x3 (x4 + (1 : Int32)) gm
def F_Mo_shiftsMore (N : Nat) : Nat → Int32 → Int32 → Int32 → (Nat → Nat → Int32) → Option (Int32 × (Nat → Nat → Int32))
  | 0, _, _, _, _ => none
  | dd + 1, a0, a1, a2, gm => (if ¬ a0 = a1 then (sv_bs (L_Mo_shiftsMore_30 N (F_Mo_shiftsMore N dd) N a0 a1 a2 (0 : Int32) gm) id fun (v31 : (Nat → Nat → Int32)) => (some ((0 : Int32), v31))) else (Option.bind (F_Mo_latePlace N gm) fun (v32 : Int32) => (sv_let (ss gm 39 v32) fun (gm_34 : Nat → Nat → Int32) => (if (gm_34 0 39) = (-1 : Int32) then (some ((0 : Int32), gm_34)) else (some ((1 : Int32), gm_34))))))
set_option maxHeartbeats 4000000 in
set_option maxRecDepth 100000 in
theorem r_Mo_shiftsMore {X : Nat × (Nat → Int32)} (N : Nat) : ∀ (dd : Nat) (gm : Nat → Nat → Int32) (a0 : Int32) (a1 : Int32) (a2 : Int32) x, F_Mo_shiftsMore N dd a0 a1 a2 gm = some x → sv_R X (dd + 10) M_Mo_shiftsMore [.ref 0, .int a0, .int a1, .int a2] (W_Mo gm) (some (.int x.1)) (W_Mo x.2) := by
  intro dd
  induction dd with
  | zero => intro gm a0 a1 a2 x hx; unfold F_Mo_shiftsMore at hx; cases hx
  | succ dd ih =>
    intro gm a0 a1 a2
    show ∀ x, _ → sv_R X (dd + 10 + 1) _ _ _ _ _
    refine sv_Q.R (res := (fun (x : Int32 × (Nat → Nat → Int32)) => (some (.int x.1), (W_Mo x.2)))) g_Mo_shiftsMore rfl ?_
    unfold F_Mo_shiftsMore
    refine sv_Q.s (σ' := (2, [some (.ref 0), some (.int a0), some (.int a1), some (.int a2), none, none, none, none], [.int a1, .int a0], (W_Mo gm))) 2 rfl ?_
    refine sv_Q.b rfl (fun c1 => ?_) (fun c1 => ?_)
    · refine sv_Q.s (σ' := (30, [some (.ref 0), some (.int a0), some (.int a1), some (.int a2), some (.int (0 : Int32)), none, none, none], [], (W_Mo gm))) 2 rfl ?_
      refine sv_Q.bs (l_Mo_shiftsMore_30 N dd (F_Mo_shiftsMore N dd) ih N a0 a1 a2 (0 : Int32) gm) (fun v31 => ?_) (fun r σ' h => h)
      · refine sv_Q.s (σ' := (201, [none, none, none, none, none, none, none, none], [.int (0 : Int32)], (W_Mo v31))) 1 rfl ?_
        exact sv_Q.z ⟨sv_01 (0 : Int32), rfl, Or.inl rfl, rfl⟩
    · refine sv_Q.s (σ' := (7, [some (.ref 0), some (.int a0), some (.int a1), some (.int a2), none, none, none, none], [.ref 0, .ref 0], (W_Mo gm))) 2 rfl ?_
      refine sv_Q.o (fun v32 e33 => ?_)
      refine sv_Q.V (b := 0) (av := []) (ps := [0, 1, 2, 3, 4, 5, 6, 7, 8, 9, 10, 11, 12, 13, 14, 15, 16, 17, 18, 19, 20, 21, 22]) (rest := [.ref 0]) (cs1 := (W_Mo gm)) (cs2 := (W_Mo gm)) (st' := [.int v32, .ref 0]) (cs' := (W_Mo gm)) (q := (7, .null, 0, 0, 0)) lk_Mo_438 (r_Mo_latePlace N gm v32 e33) rfl rfl rfl rfl rfl (Or.inl ⟨12, _, _, rfl, rfl, rfl⟩) rfl rfl (sc_Mo_Mo_0 gm) rfl rfl (pc_Mo_Mo_0 gm gm) ?_
      refine sv_Q.s (σ' := (13, [some (.ref 0), some (.int a0), some (.int a1), some (.int a2), none, none, none, none], [], (W_Mo (ss gm 39 v32)))) 1 rfl ?_
      refine sv_Q.go (fun gm_34 => (13, [some (.ref 0), some (.int a0), some (.int a1), some (.int a2), none, none, none, none], [], (W_Mo gm_34))) (fun gm_34 => ?_)
      refine sv_Q.s (σ' := (18, [some (.ref 0), some (.int a0), some (.int a1), some (.int a2), none, none, none, none], [.int (-1 : Int32), .int (gm_34 0 39)], (W_Mo gm_34))) 3 rfl ?_
      refine sv_Q.b rfl (fun c35 => ?_) (fun c35 => ?_)
      · refine sv_Q.s (σ' := (26, [some (.ref 0), some (.int a0), some (.int a1), some (.int a2), none, none, none, none], [.int (0 : Int32)], (W_Mo gm_34))) 1 rfl ?_
        exact sv_Q.z ⟨sv_01 (0 : Int32), rfl, Or.inl rfl, rfl⟩
      · refine sv_Q.s (σ' := (26, [some (.ref 0), some (.int a0), some (.int a1), some (.int a2), none, none, none, none], [.int (1 : Int32)], (W_Mo gm_34))) 2 rfl ?_
        exact sv_Q.z ⟨sv_01 (1 : Int32), rfl, Or.inr rfl, rfl⟩
def L_Mo_shifts_98 (N : Nat) : Nat → Int32 → Int32 → (Nat → Nat → Int32) → Option ((Nat → Nat → Int32))
  | 0, _, _, _ => none
  | n + 1, x4, x5, gm => (if (4 : Int32) ≤ x5 then (some gm) else (if sv_in x5 4 then (if sv_in x5 5 then (sv_let (sa gm 16 x5 (gm 17 (x5).toNatClampNeg)) fun (gm_20 : Nat → Nat → Int32) => (L_Mo_shifts_98 N n x4 (x5 + (1 : Int32)) gm_20)) else none) else none))
set_option maxHeartbeats 4000000 in
set_option maxRecDepth 100000 in
theorem l_Mo_shifts_98 {X : Nat × (Nat → Int32)} (N : Nat) : ∀ (n : Nat) (x4 : Int32) (x5 : Int32) (gm : Nat → Nat → Int32), sv_Q X 15 M_Mo_shifts (98, [some (.ref 0), none, none, none, some (.int x4), some (.int x5)], [], (W_Mo gm)) (L_Mo_shifts_98 N n x4 x5 gm) (fun v σ' => σ' = (124, [some (.ref 0), none, none, none, some (.int x4), none], [], (W_Mo v))) := by
  intro n
  induction n with
  | zero => intro x4 x5 gm; unfold L_Mo_shifts_98; exact sv_Q.non
  | succ n ih =>
    intro x4 x5 gm
    unfold L_Mo_shifts_98
    refine sv_Q.s (σ' := (101, [some (.ref 0), none, none, none, some (.int x4), some (.int x5)], [.int (4 : Int32), .int x5], (W_Mo gm))) 2 rfl ?_
    refine sv_Q.b rfl (fun c17 => ?_) (fun c17 => ?_)
    · refine sv_Q.f (lo' := [some (.ref 0), none, none, none, some (.int x4), none]) ⟨rfl, ⟨rfl, trivial⟩⟩ ?_
      exact sv_Q.z rfl
    · refine sv_Q.s (σ' := (116, [some (.ref 0), none, none, none, some (.int x4), some (.int x5)], [.int x5, .ref 17, .int x5, .ref 16], (W_Mo gm))) 6 rfl ?_
      refine sv_Q.g (σ' := (117, [some (.ref 0), none, none, none, some (.int x4), some (.int x5)], [.int (gm 17 (x5).toNatClampNeg), .int x5, .ref 16], (W_Mo gm))) (c := sv_in x5 4) rfl (fun c18 => ?_)
      refine sv_Q.g (σ' := (118, [some (.ref 0), none, none, none, some (.int x4), some (.int x5)], [], (W_Mo (sa gm 16 x5 (gm 17 (x5).toNatClampNeg))))) (c := sv_in x5 5) rfl (fun c19 => ?_)
      refine sv_Q.go (fun gm_20 => (118, [some (.ref 0), none, none, none, some (.int x4), some (.int x5)], [], (W_Mo gm_20))) (fun gm_20 => ?_)
      refine sv_Q.s (σ' := (98, [some (.ref 0), none, none, none, some (.int x4), some (.int (x5 + (1 : Int32)))], [], (W_Mo gm_20))) 2 rfl ?_
      exact ih x4 (x5 + (1 : Int32)) gm_20
def L_Mo_shifts_59 (N : Nat) : Nat → Int32 → (Nat → Nat → Int32) → Option (((Nat → Nat → Int32)) ⊕ (Int32 × (Nat → Nat → Int32)))
  | 0, _, _ => none
  | n + 1, x4, gm => (if (3 : Int32) ≤ x4 then (some (.inl gm)) else (Option.bind (F_Mo_shiftsMore N 5 (0 : Int32) x4 (-1 : Int32) gm) fun (v12 : Int32 × (Nat → Nat → Int32)) => (if ¬ v12.1 = 0 then (if (v12.2 0 26) = 0 then (sv_let (ss v12.2 37 x4) fun (gm_16 : Nat → Nat → Int32) => (Option.bind (L_Mo_shifts_98 N N x4 (0 : Int32) gm_16) fun (v21 : (Nat → Nat → Int32)) => (if sv_in (4 : Int32) 5 then (sv_let (sa v21 16 (4 : Int32) (v21 0 39)) fun (gm_23 : Nat → Nat → Int32) => (some (.inr (x4, gm_23)))) else none))) else (some (.inr ((-3 : Int32), v12.2)))) else (L_Mo_shifts_59 N n (x4 + (1 : Int32)) v12.2))))
set_option maxHeartbeats 4000000 in
set_option maxRecDepth 100000 in
theorem l_Mo_shifts_59 {X : Nat × (Nat → Int32)} (N : Nat) : ∀ (n : Nat) (x4 : Int32) (gm : Nat → Nat → Int32), sv_Q X 15 M_Mo_shifts (59, [some (.ref 0), none, none, none, some (.int x4), none], [], (W_Mo gm)) (L_Mo_shifts_59 N n x4 gm) (sv_K2 (fun (v : (Nat → Nat → Int32)) => (143, [some (.ref 0), none, none, none, none, none], [], (W_Mo v))) (sv_KR M_Mo_shifts (fun (x : Int32 × (Nat → Nat → Int32)) => (some (.int x.1), (W_Mo x.2))))) := by
  intro n
  induction n with
  | zero => intro x4 gm; unfold L_Mo_shifts_59; exact sv_Q.non
  | succ n ih =>
    intro x4 gm
    unfold L_Mo_shifts_59
    refine sv_Q.s (σ' := (62, [some (.ref 0), none, none, none, some (.int x4), none], [.int (3 : Int32), .int x4], (W_Mo gm))) 2 rfl ?_
    refine sv_Q.b rfl (fun c11 => ?_) (fun c11 => ?_)
    · refine sv_Q.f (lo' := [some (.ref 0), none, none, none, none, none]) ⟨rfl, trivial⟩ ?_
      exact sv_Q.z rfl
    · refine sv_Q.s (σ' := (70, [some (.ref 0), none, none, none, some (.int x4), none], [.int (-1 : Int32), .int x4, .int (0 : Int32), .ref 0], (W_Mo gm))) 4 rfl ?_
      refine sv_Q.o (fun v12 e13 => ?_)
      refine sv_Q.V (b := 0) (av := [.int (0 : Int32), .int x4, .int (-1 : Int32)]) (ps := [0, 1, 2, 3, 4, 5, 6, 7, 8, 9, 10, 11, 12, 13, 14, 15, 16, 17, 18, 19, 20, 21, 22]) (rest := []) (cs1 := (W_Mo gm)) (cs2 := (W_Mo v12.2)) (st' := [.int v12.1]) (cs' := (W_Mo v12.2)) (q := (70, .null, 0, 0, 0)) lk_Mo_444 (r_Mo_shiftsMore N 5 gm (0 : Int32) x4 (-1 : Int32) v12 e13) rfl rfl rfl rfl rfl (Or.inl ⟨12, _, _, rfl, rfl, rfl⟩) rfl rfl (sc_Mo_Mo_0 gm) rfl rfl (pc_Mo_Mo_0 gm v12.2) ?_
      refine sv_Q.b rfl (fun c14 => ?_) (fun c14 => ?_)
      · refine sv_Q.s (σ' := (83, [some (.ref 0), none, none, none, some (.int x4), none], [.int (v12.2 0 26)], (W_Mo v12.2))) 2 rfl ?_
        refine sv_Q.b rfl (fun c15 => ?_) (fun c15 => ?_)
        · refine sv_Q.s (σ' := (95, [some (.ref 0), none, none, none, some (.int x4), none], [], (W_Mo (ss v12.2 37 x4)))) 3 rfl ?_
          refine sv_Q.go (fun gm_16 => (95, [some (.ref 0), none, none, none, some (.int x4), none], [], (W_Mo gm_16))) (fun gm_16 => ?_)
          refine sv_Q.s (σ' := (98, [some (.ref 0), none, none, none, some (.int x4), some (.int (0 : Int32))], [], (W_Mo gm_16))) 2 rfl ?_
          refine sv_Q.lo (fun v21 => (124, [some (.ref 0), none, none, none, some (.int x4), none], [], (W_Mo v21))) (fun v21 => ?_) (l_Mo_shifts_98 N N x4 (0 : Int32) gm_16)
          · refine sv_Q.s (σ' := (133, [some (.ref 0), none, none, none, some (.int x4), none], [.int (v21 0 39), .int (4 : Int32), .ref 16], (W_Mo v21))) 5 rfl ?_
            refine sv_Q.g (σ' := (134, [some (.ref 0), none, none, none, some (.int x4), none], [], (W_Mo (sa v21 16 (4 : Int32) (v21 0 39))))) (c := sv_in (4 : Int32) 5) rfl (fun c22 => ?_)
            refine sv_Q.go (fun gm_23 => (134, [some (.ref 0), none, none, none, some (.int x4), none], [], (W_Mo gm_23))) (fun gm_23 => ?_)
            refine sv_Q.s (σ' := (136, [some (.ref 0), none, none, none, some (.int x4), none], [.int x4], (W_Mo gm_23))) 1 rfl ?_
            exact sv_Q.z ⟨True, rfl, trivial, rfl⟩
        · refine sv_Q.s (σ' := (88, [some (.ref 0), none, none, none, some (.int x4), none], [.int (-3 : Int32)], (W_Mo v12.2))) 1 rfl ?_
          exact sv_Q.z ⟨True, rfl, trivial, rfl⟩
      · refine sv_Q.s (σ' := (59, [some (.ref 0), none, none, none, some (.int (x4 + (1 : Int32))), none], [], (W_Mo v12.2))) 3 rfl ?_
        exact ih (x4 + (1 : Int32)) v12.2
def F_Mo_shifts (N : Nat) (a0 : Int32) (a1 : Int32) (a2 : Int32) (gm : Nat → Nat → Int32) : Option (Int32 × (Nat → Nat → Int32)) := (Option.bind (F_Mo_isKind N a0 gm) fun (v1 : Int32) => (if v1 = 0 then (some ((-2 : Int32), gm)) else (if (F_Mo_in ((a1).toInt64) (1 : Int64) (99 : Int64)) = 0 then (some ((-2 : Int32), gm)) else (if ¬ (F_Mo_canSearch a2 gm) = 0 then (sv_let (ss gm 35 a0) fun (gm_6 : Nat → Nat → Int32) => (sv_let (ss gm_6 36 a1) fun (gm_7 : Nat → Nat → Int32) => (sv_let (ss gm_7 24 (0 : Int32)) fun (gm_8 : Nat → Nat → Int32) => (sv_let (ss gm_8 25 a2) fun (gm_9 : Nat → Nat → Int32) => (sv_let (ss gm_9 26 (0 : Int32)) fun (gm_10 : Nat → Nat → Int32) => (sv_bs (L_Mo_shifts_59 N N (0 : Int32) gm_10) id fun (v24 : (Nat → Nat → Int32)) => (sv_let (ss v24 37 (-1 : Int32)) fun (gm_25 : Nat → Nat → Int32) => (some ((-1 : Int32), gm_25))))))))) else (some ((-2 : Int32), gm))))))
set_option maxHeartbeats 4000000 in
set_option maxRecDepth 100000 in
theorem r_Mo_shifts {X : Nat × (Nat → Int32)} (N : Nat) (gm : Nat → Nat → Int32) (a0 : Int32) (a1 : Int32) (a2 : Int32) : ∀ x, (F_Mo_shifts N a0 a1 a2 gm) = some x → sv_R X 16 M_Mo_shifts [.ref 0, .int a0, .int a1, .int a2] (W_Mo gm) (some (.int x.1)) (W_Mo x.2) := by
  refine sv_Q.R (res := (fun (x : Int32 × (Nat → Nat → Int32)) => (some (.int x.1), (W_Mo x.2)))) g_Mo_shifts rfl ?_
  unfold F_Mo_shifts
  refine sv_Q.s (σ' := (2, [some (.ref 0), some (.int a0), some (.int a1), some (.int a2), none, none], [.int a0, .ref 0], (W_Mo gm))) 2 rfl ?_
  refine sv_Q.o (fun v1 e2 => ?_)
  refine sv_Q.V (b := 0) (av := [.int a0]) (ps := [0, 1, 2, 3, 4, 5, 6, 7, 8, 9, 10, 11, 12, 13, 14, 15, 16, 17, 18, 19, 20, 21, 22]) (rest := []) (cs1 := (W_Mo gm)) (cs2 := (W_Mo gm)) (st' := [.int v1]) (cs' := (W_Mo gm)) (q := (2, .null, 0, 0, 0)) lk_Mo_280 (r_Mo_isKind N gm a0 v1 e2) rfl rfl rfl rfl rfl (Or.inl ⟨12, _, _, rfl, rfl, rfl⟩) rfl rfl (sc_Mo_Mo_0 gm) rfl rfl (pc_Mo_Mo_0 gm gm) ?_
  refine sv_Q.b rfl (fun c3 => ?_) (fun c3 => ?_)
  · refine sv_Q.s (σ' := (30, [some (.ref 0), some (.int a0), some (.int a1), some (.int a2), none, none], [.int (-2 : Int32)], (W_Mo gm))) 1 rfl ?_
    exact sv_Q.z ⟨True, rfl, trivial, rfl⟩
  · refine sv_Q.s (σ' := (14, [some (.ref 0), some (.int a0), some (.int a1), some (.int a2), none, none], [.long (99 : Int64), .long (1 : Int64), .long ((a1).toInt64)], (W_Mo gm))) 4 rfl ?_
    refine sv_Q.S (ps := []) (rest := []) (cs1 := []) (cs2 := []) (st' := [.int (F_Mo_in ((a1).toInt64) (1 : Int64) (99 : Int64))]) (cs' := (W_Mo gm)) (q := (14, .null, 0, 0, 0)) lk_Mo_97 (t_Mo_in ((a1).toInt64) (1 : Int64) (99 : Int64)) rfl rfl rfl rfl rfl rfl rfl rfl rfl rfl (sv_pt_nil _ _) ?_
    refine sv_Q.b rfl (fun c4 => ?_) (fun c4 => ?_)
    · refine sv_Q.s (σ' := (30, [some (.ref 0), some (.int a0), some (.int a1), some (.int a2), none, none], [.int (-2 : Int32)], (W_Mo gm))) 1 rfl ?_
      exact sv_Q.z ⟨True, rfl, trivial, rfl⟩
    · refine sv_Q.s (σ' := (22, [some (.ref 0), some (.int a0), some (.int a1), some (.int a2), none, none], [.int a2, .ref 0], (W_Mo gm))) 2 rfl ?_
      refine sv_Q.V (b := 0) (av := [.int a2]) (ps := [0, 1, 2, 3, 4, 5, 6, 7, 8, 9, 10, 11, 12, 13, 14, 15, 16, 17, 18, 19, 20, 21, 22]) (rest := []) (cs1 := (W_Mo gm)) (cs2 := (W_Mo gm)) (st' := [.int (F_Mo_canSearch a2 gm)]) (cs' := (W_Mo gm)) (q := (22, .null, 0, 0, 0)) lk_Mo_413 (t_Mo_canSearch gm a2) rfl rfl rfl rfl rfl (Or.inl ⟨12, _, _, rfl, rfl, rfl⟩) rfl rfl (sc_Mo_Mo_0 gm) rfl rfl (pc_Mo_Mo_0 gm gm) ?_
      refine sv_Q.b rfl (fun c5 => ?_) (fun c5 => ?_)
      · refine sv_Q.s (σ' := (36, [some (.ref 0), some (.int a0), some (.int a1), some (.int a2), none, none], [], (W_Mo (ss gm 35 a0)))) 3 rfl ?_
        refine sv_Q.go (fun gm_6 => (36, [some (.ref 0), some (.int a0), some (.int a1), some (.int a2), none, none], [], (W_Mo gm_6))) (fun gm_6 => ?_)
        refine sv_Q.s (σ' := (41, [some (.ref 0), some (.int a0), some (.int a1), some (.int a2), none, none], [], (W_Mo (ss gm_6 36 a1)))) 3 rfl ?_
        refine sv_Q.go (fun gm_7 => (41, [some (.ref 0), some (.int a0), some (.int a1), some (.int a2), none, none], [], (W_Mo gm_7))) (fun gm_7 => ?_)
        refine sv_Q.s (σ' := (46, [some (.ref 0), some (.int a0), some (.int a1), some (.int a2), none, none], [], (W_Mo (ss gm_7 24 (0 : Int32))))) 3 rfl ?_
        refine sv_Q.go (fun gm_8 => (46, [some (.ref 0), some (.int a0), some (.int a1), some (.int a2), none, none], [], (W_Mo gm_8))) (fun gm_8 => ?_)
        refine sv_Q.s (σ' := (51, [some (.ref 0), some (.int a0), some (.int a1), some (.int a2), none, none], [], (W_Mo (ss gm_8 25 a2)))) 3 rfl ?_
        refine sv_Q.go (fun gm_9 => (51, [some (.ref 0), some (.int a0), some (.int a1), some (.int a2), none, none], [], (W_Mo gm_9))) (fun gm_9 => ?_)
        refine sv_Q.s (σ' := (53, [some (.ref 0), some (.int a0), some (.int a1), some (.int a2), none, none], [.int (0 : Int32), .ref 0], (W_Mo gm_9))) 2 rfl ?_
        refine sv_Q.gk (σ' := (56, [some (.ref 0), some (.int a0), some (.int a1), some (.int a2), none, none], [], (W_Mo (ss gm_9 26 (0 : Int32))))) (c := sv_01 (0 : Int32)) rfl (Or.inl rfl) ?_
        refine sv_Q.go (fun gm_10 => (56, [some (.ref 0), some (.int a0), some (.int a1), some (.int a2), none, none], [], (W_Mo gm_10))) (fun gm_10 => ?_)
        refine sv_Q.s (σ' := (59, [some (.ref 0), some (.int a0), some (.int a1), some (.int a2), some (.int (0 : Int32)), none], [], (W_Mo gm_10))) 2 rfl ?_
        refine sv_Q.f (lo' := [some (.ref 0), none, none, none, some (.int (0 : Int32)), none]) ⟨rfl, ⟨rfl, trivial⟩⟩ ?_
        refine sv_Q.bs (l_Mo_shifts_59 N N (0 : Int32) gm_10) (fun v24 => ?_) (fun r σ' h => h)
        · refine sv_Q.s (σ' := (148, [some (.ref 0), none, none, none, none, none], [], (W_Mo (ss v24 37 (-1 : Int32))))) 3 rfl ?_
          refine sv_Q.go (fun gm_25 => (148, [some (.ref 0), none, none, none, none, none], [], (W_Mo gm_25))) (fun gm_25 => ?_)
          refine sv_Q.s (σ' := (149, [some (.ref 0), none, none, none, none, none], [.int (-1 : Int32)], (W_Mo gm_25))) 1 rfl ?_
          exact sv_Q.z ⟨True, rfl, trivial, rfl⟩
      · refine sv_Q.s (σ' := (30, [some (.ref 0), some (.int a0), some (.int a1), some (.int a2), none, none], [.int (-2 : Int32)], (W_Mo gm))) 1 rfl ?_
        exact sv_Q.z ⟨True, rfl, trivial, rfl⟩
def F_Mo_shift (N : Nat) (a0 : Int32) (a1 : Int32) (gm : Nat → Nat → Int32) : Option (Int32) := (if (gm 0 1) = 0 then (some (-2 : Int32)) else (if (F_Mo_in ((a0).toInt64) (0 : Int64) (2 : Int64)) = 0 then (some (-2 : Int32)) else (if (F_Mo_in ((a1).toInt64) (0 : Int64) (1 : Int64)) = 0 then (some (-2 : Int32)) else (if ¬ a0 = (2 : Int32) then (if ¬ (gm 0 37) = (-1 : Int32) then (if ¬ a0 = (2 : Int32) then (if (gm 0 37) ≤ a0 then (some (-1 : Int32)) else (if sv_in (((2 : Int32) * a0) + a1) 5 then (some (gm 16 ((((2 : Int32) * a0) + a1)).toNatClampNeg)) else none)) else (if sv_in (4 : Int32) 5 then (some (gm 16 ((4 : Int32)).toNatClampNeg)) else none)) else (some (-1 : Int32))) else (if ¬ a1 = 0 then (if ¬ (gm 0 37) = (-1 : Int32) then (if ¬ a0 = (2 : Int32) then (if (gm 0 37) ≤ a0 then (some (-1 : Int32)) else (if sv_in (((2 : Int32) * a0) + a1) 5 then (some (gm 16 ((((2 : Int32) * a0) + a1)).toNatClampNeg)) else none)) else (if sv_in (4 : Int32) 5 then (some (gm 16 ((4 : Int32)).toNatClampNeg)) else none)) else (some (-1 : Int32))) else (some (-2 : Int32)))))))
set_option maxHeartbeats 4000000 in
set_option maxRecDepth 100000 in
theorem r_Mo_shift {X : Nat × (Nat → Int32)} (N : Nat) (gm : Nat → Nat → Int32) (a0 : Int32) (a1 : Int32) : ∀ x, (F_Mo_shift N a0 a1 gm) = some x → sv_R X 2 M_Mo_shift [.ref 0, .int a0, .int a1] (W_Mo gm) (some (.int x)) (W_Mo gm) := by
  refine sv_Q.R (res := (fun (x : Int32) => (some (.int x), (W_Mo gm)))) g_Mo_shift rfl ?_
  unfold F_Mo_shift
  refine sv_Q.s (σ' := (4, [some (.ref 0), some (.int a0), some (.int a1)], [.int (gm 0 1)], (W_Mo gm))) 2 rfl ?_
  refine sv_Q.b rfl (fun c1 => ?_) (fun c1 => ?_)
  · refine sv_Q.s (σ' := (40, [some (.ref 0), some (.int a0), some (.int a1)], [.int (-2 : Int32)], (W_Mo gm))) 1 rfl ?_
    exact sv_Q.z ⟨True, rfl, trivial, rfl⟩
  · refine sv_Q.s (σ' := (13, [some (.ref 0), some (.int a0), some (.int a1)], [.long (2 : Int64), .long (0 : Int64), .long ((a0).toInt64)], (W_Mo gm))) 4 rfl ?_
    refine sv_Q.S (ps := []) (rest := []) (cs1 := []) (cs2 := []) (st' := [.int (F_Mo_in ((a0).toInt64) (0 : Int64) (2 : Int64))]) (cs' := (W_Mo gm)) (q := (13, .null, 0, 0, 0)) lk_Mo_97 (t_Mo_in ((a0).toInt64) (0 : Int64) (2 : Int64)) rfl rfl rfl rfl rfl rfl rfl rfl rfl rfl (sv_pt_nil _ _) ?_
    refine sv_Q.b rfl (fun c2 => ?_) (fun c2 => ?_)
    · refine sv_Q.s (σ' := (40, [some (.ref 0), some (.int a0), some (.int a1)], [.int (-2 : Int32)], (W_Mo gm))) 1 rfl ?_
      exact sv_Q.z ⟨True, rfl, trivial, rfl⟩
    · refine sv_Q.s (σ' := (23, [some (.ref 0), some (.int a0), some (.int a1)], [.long (1 : Int64), .long (0 : Int64), .long ((a1).toInt64)], (W_Mo gm))) 4 rfl ?_
      refine sv_Q.S (ps := []) (rest := []) (cs1 := []) (cs2 := []) (st' := [.int (F_Mo_in ((a1).toInt64) (0 : Int64) (1 : Int64))]) (cs' := (W_Mo gm)) (q := (23, .null, 0, 0, 0)) lk_Mo_97 (t_Mo_in ((a1).toInt64) (0 : Int64) (1 : Int64)) rfl rfl rfl rfl rfl rfl rfl rfl rfl rfl (sv_pt_nil _ _) ?_
      refine sv_Q.b rfl (fun c3 => ?_) (fun c3 => ?_)
      · refine sv_Q.s (σ' := (40, [some (.ref 0), some (.int a0), some (.int a1)], [.int (-2 : Int32)], (W_Mo gm))) 1 rfl ?_
        exact sv_Q.z ⟨True, rfl, trivial, rfl⟩
      · refine sv_Q.s (σ' := (31, [some (.ref 0), some (.int a0), some (.int a1)], [.int (2 : Int32), .int a0], (W_Mo gm))) 2 rfl ?_
        refine sv_Q.b rfl (fun c4 => ?_) (fun c4 => ?_)
        · refine sv_Q.s (σ' := (46, [some (.ref 0), some (.int a0), some (.int a1)], [.int (-1 : Int32), .int (gm 0 37)], (W_Mo gm))) 3 rfl ?_
          refine sv_Q.b rfl (fun c5 => ?_) (fun c5 => ?_)
          · refine sv_Q.s (σ' := (53, [some (.ref 0), some (.int a0), some (.int a1)], [.int (2 : Int32), .int a0], (W_Mo gm))) 2 rfl ?_
            refine sv_Q.b rfl (fun c6 => ?_) (fun c6 => ?_)
            · refine sv_Q.s (σ' := (70, [some (.ref 0), some (.int a0), some (.int a1)], [.int (gm 0 37), .int a0], (W_Mo gm))) 3 rfl ?_
              refine sv_Q.b rfl (fun c7 => ?_) (fun c7 => ?_)
              · refine sv_Q.s (σ' := (87, [some (.ref 0), some (.int a0), some (.int a1)], [.int (-1 : Int32)], (W_Mo gm))) 1 rfl ?_
                exact sv_Q.z ⟨True, rfl, trivial, rfl⟩
              · refine sv_Q.s (σ' := (82, [some (.ref 0), some (.int a0), some (.int a1)], [.int (((2 : Int32) * a0) + a1), .ref 16], (W_Mo gm))) 7 rfl ?_
                refine sv_Q.g (σ' := (83, [some (.ref 0), some (.int a0), some (.int a1)], [.int (gm 16 ((((2 : Int32) * a0) + a1)).toNatClampNeg)], (W_Mo gm))) (c := sv_in (((2 : Int32) * a0) + a1) 5) rfl (fun c8 => ?_)
                refine sv_Q.s (σ' := (87, [some (.ref 0), some (.int a0), some (.int a1)], [.int (gm 16 ((((2 : Int32) * a0) + a1)).toNatClampNeg)], (W_Mo gm))) 1 rfl ?_
                exact sv_Q.z ⟨True, rfl, trivial, rfl⟩
            · refine sv_Q.s (σ' := (61, [some (.ref 0), some (.int a0), some (.int a1)], [.int (4 : Int32), .ref 16], (W_Mo gm))) 3 rfl ?_
              refine sv_Q.g (σ' := (62, [some (.ref 0), some (.int a0), some (.int a1)], [.int (gm 16 ((4 : Int32)).toNatClampNeg)], (W_Mo gm))) (c := sv_in (4 : Int32) 5) rfl (fun c9 => ?_)
              refine sv_Q.s (σ' := (87, [some (.ref 0), some (.int a0), some (.int a1)], [.int (gm 16 ((4 : Int32)).toNatClampNeg)], (W_Mo gm))) 1 rfl ?_
              exact sv_Q.z ⟨True, rfl, trivial, rfl⟩
          · refine sv_Q.s (σ' := (50, [some (.ref 0), some (.int a0), some (.int a1)], [.int (-1 : Int32)], (W_Mo gm))) 1 rfl ?_
            exact sv_Q.z ⟨True, rfl, trivial, rfl⟩
        · refine sv_Q.s (σ' := (35, [some (.ref 0), some (.int a0), some (.int a1)], [.int a1], (W_Mo gm))) 1 rfl ?_
          refine sv_Q.b rfl (fun c10 => ?_) (fun c10 => ?_)
          · refine sv_Q.s (σ' := (46, [some (.ref 0), some (.int a0), some (.int a1)], [.int (-1 : Int32), .int (gm 0 37)], (W_Mo gm))) 3 rfl ?_
            refine sv_Q.b rfl (fun c11 => ?_) (fun c11 => ?_)
            · refine sv_Q.s (σ' := (53, [some (.ref 0), some (.int a0), some (.int a1)], [.int (2 : Int32), .int a0], (W_Mo gm))) 2 rfl ?_
              refine sv_Q.b rfl (fun c12 => ?_) (fun c12 => ?_)
              · refine sv_Q.s (σ' := (70, [some (.ref 0), some (.int a0), some (.int a1)], [.int (gm 0 37), .int a0], (W_Mo gm))) 3 rfl ?_
                refine sv_Q.b rfl (fun c13 => ?_) (fun c13 => ?_)
                · refine sv_Q.s (σ' := (87, [some (.ref 0), some (.int a0), some (.int a1)], [.int (-1 : Int32)], (W_Mo gm))) 1 rfl ?_
                  exact sv_Q.z ⟨True, rfl, trivial, rfl⟩
                · refine sv_Q.s (σ' := (82, [some (.ref 0), some (.int a0), some (.int a1)], [.int (((2 : Int32) * a0) + a1), .ref 16], (W_Mo gm))) 7 rfl ?_
                  refine sv_Q.g (σ' := (83, [some (.ref 0), some (.int a0), some (.int a1)], [.int (gm 16 ((((2 : Int32) * a0) + a1)).toNatClampNeg)], (W_Mo gm))) (c := sv_in (((2 : Int32) * a0) + a1) 5) rfl (fun c14 => ?_)
                  refine sv_Q.s (σ' := (87, [some (.ref 0), some (.int a0), some (.int a1)], [.int (gm 16 ((((2 : Int32) * a0) + a1)).toNatClampNeg)], (W_Mo gm))) 1 rfl ?_
                  exact sv_Q.z ⟨True, rfl, trivial, rfl⟩
              · refine sv_Q.s (σ' := (61, [some (.ref 0), some (.int a0), some (.int a1)], [.int (4 : Int32), .ref 16], (W_Mo gm))) 3 rfl ?_
                refine sv_Q.g (σ' := (62, [some (.ref 0), some (.int a0), some (.int a1)], [.int (gm 16 ((4 : Int32)).toNatClampNeg)], (W_Mo gm))) (c := sv_in (4 : Int32) 5) rfl (fun c15 => ?_)
                refine sv_Q.s (σ' := (87, [some (.ref 0), some (.int a0), some (.int a1)], [.int (gm 16 ((4 : Int32)).toNatClampNeg)], (W_Mo gm))) 1 rfl ?_
                exact sv_Q.z ⟨True, rfl, trivial, rfl⟩
            · refine sv_Q.s (σ' := (50, [some (.ref 0), some (.int a0), some (.int a1)], [.int (-1 : Int32)], (W_Mo gm))) 1 rfl ?_
              exact sv_Q.z ⟨True, rfl, trivial, rfl⟩
          · refine sv_Q.s (σ' := (40, [some (.ref 0), some (.int a0), some (.int a1)], [.int (-2 : Int32)], (W_Mo gm))) 1 rfl ?_
            exact sv_Q.z ⟨True, rfl, trivial, rfl⟩
def L_Mo_suits_2 (N : Nat) : Nat → Int32 → Int32 → Int32 → (Nat → Nat → Int32) → Option ((Unit) ⊕ (Int32))
  | 0, _, _, _, _ => none
  | n + 1, x1, x2, x3, gm => (if x1 ≤ x3 then (some (.inl ())) else (Option.bind (F_Mo_apartOf N x3 x1 gm) fun (v2 : Int32) => (if v2 = 0 then (L_Mo_suits_2 N n x1 x2 (x3 + (1 : Int32)) gm) else (if sv_in x3 7 then (Option.bind (F_Mo_apartOf N x3 x1 gm) fun (v6 : Int32) => (if sv_in (((14 : Int32) + ((4 : Int32) * v6)) + (1 : Int32)) 90 then (if (gm 1 ((((14 : Int32) + ((4 : Int32) * v6)) + (1 : Int32))).toNatClampNeg) ≤ (if 0 ≤ ((gm 18 (x3).toNatClampNeg) - x2) then ((gm 18 (x3).toNatClampNeg) - x2) else 0 - ((gm 18 (x3).toNatClampNeg) - x2)) then (L_Mo_suits_2 N n x1 x2 (x3 + (1 : Int32)) gm) else (some (.inr (0 : Int32)))) else none)) else none))))
set_option maxHeartbeats 4000000 in
set_option maxRecDepth 100000 in
theorem l_Mo_suits_2 {X : Nat × (Nat → Int32)} (N : Nat) : ∀ (n : Nat) (x1 : Int32) (x2 : Int32) (x3 : Int32) (gm : Nat → Nat → Int32), sv_Q X 1 M_Mo_suits (2, [some (.ref 0), some (.int x1), some (.int x2), some (.int x3)], [], (W_Mo gm)) (L_Mo_suits_2 N n x1 x2 x3 gm) (sv_K2 (fun (v : Unit) => (56, [none, none, none, none], [], (W_Mo gm))) (sv_KR M_Mo_suits (fun (x : Int32) => (some (.int x), (W_Mo gm))))) := by
  intro n
  induction n with
  | zero => intro x1 x2 x3 gm; unfold L_Mo_suits_2; exact sv_Q.non
  | succ n ih =>
    intro x1 x2 x3 gm
    unfold L_Mo_suits_2
    refine sv_Q.s (σ' := (4, [some (.ref 0), some (.int x1), some (.int x2), some (.int x3)], [.int x1, .int x3], (W_Mo gm))) 2 rfl ?_
    refine sv_Q.b rfl (fun c1 => ?_) (fun c1 => ?_)
    · refine sv_Q.f (lo' := [none, none, none, none]) trivial ?_
      exact sv_Q.z rfl
    · refine sv_Q.s (σ' := (10, [some (.ref 0), some (.int x1), some (.int x2), some (.int x3)], [.int x1, .int x3, .ref 0], (W_Mo gm))) 3 rfl ?_
      refine sv_Q.o (fun v2 e3 => ?_)
      refine sv_Q.V (b := 0) (av := [.int x3, .int x1]) (ps := [0, 1, 2, 3, 4, 5, 6, 7, 8, 9, 10, 11, 12, 13, 14, 15, 16, 17, 18, 19, 20, 21, 22]) (rest := []) (cs1 := (W_Mo gm)) (cs2 := (W_Mo gm)) (st' := [.int v2]) (cs' := (W_Mo gm)) (q := (10, .null, 0, 0, 0)) lk_Mo_283 (r_Mo_apartOf N gm x3 x1 v2 e3) rfl rfl rfl rfl rfl (Or.inl ⟨12, _, _, rfl, rfl, rfl⟩) rfl rfl (sc_Mo_Mo_0 gm) rfl rfl (pc_Mo_Mo_0 gm gm) ?_
      refine sv_Q.b rfl (fun c4 => ?_) (fun c4 => ?_)
      · refine sv_Q.s (σ' := (2, [some (.ref 0), some (.int x1), some (.int x2), some (.int (x3 + (1 : Int32)))], [], (W_Mo gm))) 2 rfl ?_
        exact ih x1 x2 (x3 + (1 : Int32)) gm
      · refine sv_Q.s (σ' := (21, [some (.ref 0), some (.int x1), some (.int x2), some (.int x3)], [.int x3, .ref 18], (W_Mo gm))) 3 rfl ?_
        refine sv_Q.g (σ' := (22, [some (.ref 0), some (.int x1), some (.int x2), some (.int x3)], [.int (gm 18 (x3).toNatClampNeg)], (W_Mo gm))) (c := sv_in x3 7) rfl (fun c5 => ?_)
        refine sv_Q.s (σ' := (37, [some (.ref 0), some (.int x1), some (.int x2), some (.int x3)], [.int x1, .int x3, .ref 0, .int (4 : Int32), .int (14 : Int32), .ref 1, .int (if 0 ≤ ((gm 18 (x3).toNatClampNeg) - x2) then ((gm 18 (x3).toNatClampNeg) - x2) else 0 - ((gm 18 (x3).toNatClampNeg) - x2))], (W_Mo gm))) 10 rfl ?_
        refine sv_Q.o (fun v6 e7 => ?_)
        refine sv_Q.V (b := 0) (av := [.int x3, .int x1]) (ps := [0, 1, 2, 3, 4, 5, 6, 7, 8, 9, 10, 11, 12, 13, 14, 15, 16, 17, 18, 19, 20, 21, 22]) (rest := [.int (4 : Int32), .int (14 : Int32), .ref 1, .int (if 0 ≤ ((gm 18 (x3).toNatClampNeg) - x2) then ((gm 18 (x3).toNatClampNeg) - x2) else 0 - ((gm 18 (x3).toNatClampNeg) - x2))]) (cs1 := (W_Mo gm)) (cs2 := (W_Mo gm)) (st' := [.int v6, .int (4 : Int32), .int (14 : Int32), .ref 1, .int (if 0 ≤ ((gm 18 (x3).toNatClampNeg) - x2) then ((gm 18 (x3).toNatClampNeg) - x2) else 0 - ((gm 18 (x3).toNatClampNeg) - x2))]) (cs' := (W_Mo gm)) (q := (37, .null, 0, 0, 0)) lk_Mo_283 (r_Mo_apartOf N gm x3 x1 v6 e7) rfl rfl rfl rfl rfl (Or.inl ⟨12, _, _, rfl, rfl, rfl⟩) rfl rfl (sc_Mo_Mo_0 gm) rfl rfl (pc_Mo_Mo_0 gm gm) ?_
        refine sv_Q.s (σ' := (44, [some (.ref 0), some (.int x1), some (.int x2), some (.int x3)], [.int (((14 : Int32) + ((4 : Int32) * v6)) + (1 : Int32)), .ref 1, .int (if 0 ≤ ((gm 18 (x3).toNatClampNeg) - x2) then ((gm 18 (x3).toNatClampNeg) - x2) else 0 - ((gm 18 (x3).toNatClampNeg) - x2))], (W_Mo gm))) 4 rfl ?_
        refine sv_Q.g (σ' := (45, [some (.ref 0), some (.int x1), some (.int x2), some (.int x3)], [.int (gm 1 ((((14 : Int32) + ((4 : Int32) * v6)) + (1 : Int32))).toNatClampNeg), .int (if 0 ≤ ((gm 18 (x3).toNatClampNeg) - x2) then ((gm 18 (x3).toNatClampNeg) - x2) else 0 - ((gm 18 (x3).toNatClampNeg) - x2))], (W_Mo gm))) (c := sv_in (((14 : Int32) + ((4 : Int32) * v6)) + (1 : Int32)) 90) rfl (fun c8 => ?_)
        refine sv_Q.b rfl (fun c9 => ?_) (fun c9 => ?_)
        · refine sv_Q.s (σ' := (2, [some (.ref 0), some (.int x1), some (.int x2), some (.int (x3 + (1 : Int32)))], [], (W_Mo gm))) 2 rfl ?_
          exact ih x1 x2 (x3 + (1 : Int32)) gm
        · refine sv_Q.s (σ' := (49, [some (.ref 0), some (.int x1), some (.int x2), some (.int x3)], [.int (0 : Int32)], (W_Mo gm))) 1 rfl ?_
          exact sv_Q.z ⟨sv_01 (0 : Int32), rfl, Or.inl rfl, rfl⟩
def F_Mo_suits (N : Nat) (a0 : Int32) (a1 : Int32) (gm : Nat → Nat → Int32) : Option (Int32) := (sv_bs (L_Mo_suits_2 N N a0 a1 (0 : Int32) gm) id fun (v10 : Unit) => (some (1 : Int32)))
set_option maxHeartbeats 4000000 in
set_option maxRecDepth 100000 in
theorem r_Mo_suits {X : Nat × (Nat → Int32)} (N : Nat) (gm : Nat → Nat → Int32) (a0 : Int32) (a1 : Int32) : ∀ x, (F_Mo_suits N a0 a1 gm) = some x → sv_R X 2 M_Mo_suits [.ref 0, .int a0, .int a1] (W_Mo gm) (some (.int x)) (W_Mo gm) := by
  refine sv_Q.R (res := (fun (x : Int32) => (some (.int x), (W_Mo gm)))) g_Mo_suits rfl ?_
  unfold F_Mo_suits
  refine sv_Q.s (σ' := (2, [some (.ref 0), some (.int a0), some (.int a1), some (.int (0 : Int32))], [], (W_Mo gm))) 2 rfl ?_
  refine sv_Q.bs (l_Mo_suits_2 N N a0 a1 (0 : Int32) gm) (fun v10 => ?_) (fun r σ' h => h)
  · refine sv_Q.s (σ' := (57, [none, none, none, none], [.int (1 : Int32)], (W_Mo gm))) 1 rfl ?_
    exact sv_Q.z ⟨sv_01 (1 : Int32), rfl, Or.inr rfl, rfl⟩
def L_Mo_waysFrom_19 (N : Nat) (rec : Int32 → Int32 → Int32 → (Nat → Nat → Int32) → Option (Int64 × (Nat → Nat → Int32))) : Nat → Int32 → Int32 → Int32 → Int64 → Int32 → (Nat → Nat → Int32) → Option ((Int64 × (Nat → Nat → Int32)) ⊕ (Int64 × (Nat → Nat → Int32)))
  | 0, _, _, _, _, _, _ => none
  | n + 1, x1, x2, x3, x4, x6, gm => (if x2 ≤ x6 then (some (.inl (x4, gm))) else (Option.bind (F_Mo_suits N x1 x6 gm) fun (v4 : Int32) => (if ¬ v4 = 0 then (if sv_in x1 7 then (sv_let (sa gm 18 x1 x6) fun (gm_8 : Nat → Nat → Int32) => (Option.bind (rec (x1 + (1 : Int32)) x2 x3 gm_8) fun (v9 : Int64 × (Nat → Nat → Int32)) => (if x3 = 0 then (L_Mo_waysFrom_19 N rec n x1 x2 x3 (x4 + v9.1) (x6 + (1 : Int32)) v9.2) else (if (lg_cmp (x4 + v9.1) (0 : Int64)) ≤ 0 then (L_Mo_waysFrom_19 N rec n x1 x2 x3 (x4 + v9.1) (x6 + (1 : Int32)) v9.2) else (some (.inr ((1 : Int64), v9.2))))))) else none) else (L_Mo_waysFrom_19 N rec n x1 x2 x3 x4 (x6 + (1 : Int32)) gm))))
set_option maxHeartbeats 4000000 in
set_option maxRecDepth 100000 in
theorem l_Mo_waysFrom_19 {X : Nat × (Nat → Int32)} (N : Nat) (dd : Nat) (rec : Int32 → Int32 → Int32 → (Nat → Nat → Int32) → Option (Int64 × (Nat → Nat → Int32))) (hrec : ∀ (gm : Nat → Nat → Int32) (a0 : Int32) (a1 : Int32) (a2 : Int32) x, rec a0 a1 a2 gm = some x → sv_R X (dd + 3) M_Mo_waysFrom [.ref 0, .int a0, .int a1, .int a2] (W_Mo gm) (some (.long x.1)) (W_Mo x.2)) : ∀ (n : Nat) (x1 : Int32) (x2 : Int32) (x3 : Int32) (x4 : Int64) (x6 : Int32) (gm : Nat → Nat → Int32), sv_Q X (dd + 3) M_Mo_waysFrom (19, [some (.ref 0), some (.int x1), some (.int x2), some (.int x3), some (.long x4), none, some (.int x6)], [], (W_Mo gm)) (L_Mo_waysFrom_19 N rec n x1 x2 x3 x4 x6 gm) (sv_K2 (fun (v : Int64 × (Nat → Nat → Int32)) => (79, [none, none, none, none, some (.long v.1), none, none], [], (W_Mo v.2))) (sv_KR M_Mo_waysFrom (fun (x : Int64 × (Nat → Nat → Int32)) => (some (.long x.1), (W_Mo x.2))))) := by
  intro n
  induction n with
  | zero => intro x1 x2 x3 x4 x6 gm; unfold L_Mo_waysFrom_19; exact sv_Q.non
  | succ n ih =>
    intro x1 x2 x3 x4 x6 gm
    unfold L_Mo_waysFrom_19
    refine sv_Q.s (σ' := (22, [some (.ref 0), some (.int x1), some (.int x2), some (.int x3), some (.long x4), none, some (.int x6)], [.int x2, .int x6], (W_Mo gm))) 2 rfl ?_
    refine sv_Q.b rfl (fun c3 => ?_) (fun c3 => ?_)
    · refine sv_Q.f (lo' := [none, none, none, none, some (.long x4), none, none]) ⟨rfl, trivial⟩ ?_
      exact sv_Q.z rfl
    · refine sv_Q.s (σ' := (29, [some (.ref 0), some (.int x1), some (.int x2), some (.int x3), some (.long x4), none, some (.int x6)], [.int x6, .int x1, .ref 0], (W_Mo gm))) 3 rfl ?_
      refine sv_Q.o (fun v4 e5 => ?_)
      refine sv_Q.V (b := 0) (av := [.int x1, .int x6]) (ps := [0, 1, 2, 3, 4, 5, 6, 7, 8, 9, 10, 11, 12, 13, 14, 15, 16, 17, 18, 19, 20, 21, 22]) (rest := []) (cs1 := (W_Mo gm)) (cs2 := (W_Mo gm)) (st' := [.int v4]) (cs' := (W_Mo gm)) (q := (29, .null, 0, 0, 0)) lk_Mo_449 (r_Mo_suits N gm x1 x6 v4 e5) rfl rfl rfl rfl rfl (Or.inl ⟨12, _, _, rfl, rfl, rfl⟩) rfl rfl (sc_Mo_Mo_0 gm) rfl rfl (pc_Mo_Mo_0 gm gm) ?_
      refine sv_Q.b rfl (fun c6 => ?_) (fun c6 => ?_)
      · refine sv_Q.s (σ' := (45, [some (.ref 0), some (.int x1), some (.int x2), some (.int x3), some (.long x4), none, some (.int x6)], [.int x6, .int x1, .ref 18], (W_Mo gm))) 4 rfl ?_
        refine sv_Q.g (σ' := (46, [some (.ref 0), some (.int x1), some (.int x2), some (.int x3), some (.long x4), none, some (.int x6)], [], (W_Mo (sa gm 18 x1 x6)))) (c := sv_in x1 7) rfl (fun c7 => ?_)
        refine sv_Q.go (fun gm_8 => (46, [some (.ref 0), some (.int x1), some (.int x2), some (.int x3), some (.long x4), none, some (.int x6)], [], (W_Mo gm_8))) (fun gm_8 => ?_)
        refine sv_Q.s (σ' := (54, [some (.ref 0), some (.int x1), some (.int x2), some (.int x3), some (.long x4), none, some (.int x6)], [.int x3, .int x2, .int (x1 + (1 : Int32)), .ref 0, .long x4], (W_Mo gm_8))) 7 rfl ?_
        refine sv_Q.o (fun v9 e10 => ?_)
        refine sv_Q.V (b := 0) (av := [.int (x1 + (1 : Int32)), .int x2, .int x3]) (ps := [0, 1, 2, 3, 4, 5, 6, 7, 8, 9, 10, 11, 12, 13, 14, 15, 16, 17, 18, 19, 20, 21, 22]) (rest := [.long x4]) (cs1 := (W_Mo gm_8)) (cs2 := (W_Mo v9.2)) (st' := [.long v9.1, .long x4]) (cs' := (W_Mo v9.2)) (q := (54, .null, 0, 0, 0)) lk_Mo_452 (hrec gm_8 (x1 + (1 : Int32)) x2 x3 v9 e10) (Nat.ble_eq_true_of_le (Nat.le_refl _)) rfl rfl rfl rfl (Or.inl ⟨12, _, _, rfl, rfl, rfl⟩) rfl rfl (sc_Mo_Mo_0 gm_8) rfl rfl (pc_Mo_Mo_0 gm_8 v9.2) ?_
        refine sv_Q.s (σ' := (61, [some (.ref 0), some (.int x1), some (.int x2), some (.int x3), some (.long (x4 + v9.1)), none, some (.int x6)], [.int x3], (W_Mo v9.2))) 3 rfl ?_
        refine sv_Q.b rfl (fun c11 => ?_) (fun c11 => ?_)
        · refine sv_Q.s (σ' := (19, [some (.ref 0), some (.int x1), some (.int x2), some (.int x3), some (.long (x4 + v9.1)), none, some (.int (x6 + (1 : Int32)))], [], (W_Mo v9.2))) 2 rfl ?_
          exact ih x1 x2 x3 (x4 + v9.1) (x6 + (1 : Int32)) v9.2
        · refine sv_Q.s (σ' := (68, [some (.ref 0), some (.int x1), some (.int x2), some (.int x3), some (.long (x4 + v9.1)), none, some (.int x6)], [.int (lg_cmp (x4 + v9.1) (0 : Int64))], (W_Mo v9.2))) 3 rfl ?_
          refine sv_Q.b rfl (fun c12 => ?_) (fun c12 => ?_)
          · refine sv_Q.s (σ' := (19, [some (.ref 0), some (.int x1), some (.int x2), some (.int x3), some (.long (x4 + v9.1)), none, some (.int (x6 + (1 : Int32)))], [], (W_Mo v9.2))) 2 rfl ?_
            exact ih x1 x2 x3 (x4 + v9.1) (x6 + (1 : Int32)) v9.2
          · refine sv_Q.s (σ' := (72, [some (.ref 0), some (.int x1), some (.int x2), some (.int x3), some (.long (x4 + v9.1)), none, some (.int x6)], [.long (1 : Int64)], (W_Mo v9.2))) 1 rfl ?_
            exact sv_Q.z ⟨True, rfl, trivial, rfl⟩
      · refine sv_Q.s (σ' := (19, [some (.ref 0), some (.int x1), some (.int x2), some (.int x3), some (.long x4), none, some (.int (x6 + (1 : Int32)))], [], (W_Mo gm))) 3 rfl ?_
        exact ih x1 x2 x3 x4 (x6 + (1 : Int32)) gm
def F_Mo_waysFrom (N : Nat) : Nat → Int32 → Int32 → Int32 → (Nat → Nat → Int32) → Option (Int64 × (Nat → Nat → Int32))
  | 0, _, _, _, _ => none
  | dd + 1, a0, a1, a2, gm => (if sv_in (6 : Int32) 90 then (if ¬ a0 = (gm 1 ((6 : Int32)).toNatClampNeg) then (sv_bs (L_Mo_waysFrom_19 N (F_Mo_waysFrom N dd) N a0 a1 a2 (0 : Int64) (0 : Int32) gm) id fun (v13 : Int64 × (Nat → Nat → Int32)) => (some (v13.1, v13.2))) else (some ((1 : Int64), gm))) else none)
set_option maxHeartbeats 4000000 in
set_option maxRecDepth 100000 in
theorem r_Mo_waysFrom {X : Nat × (Nat → Int32)} (N : Nat) : ∀ (dd : Nat) (gm : Nat → Nat → Int32) (a0 : Int32) (a1 : Int32) (a2 : Int32) x, F_Mo_waysFrom N dd a0 a1 a2 gm = some x → sv_R X (dd + 3) M_Mo_waysFrom [.ref 0, .int a0, .int a1, .int a2] (W_Mo gm) (some (.long x.1)) (W_Mo x.2) := by
  intro dd
  induction dd with
  | zero => intro gm a0 a1 a2 x hx; unfold F_Mo_waysFrom at hx; cases hx
  | succ dd ih =>
    intro gm a0 a1 a2
    show ∀ x, _ → sv_R X (dd + 3 + 1) _ _ _ _ _
    refine sv_Q.R (res := (fun (x : Int64 × (Nat → Nat → Int32)) => (some (.long x.1), (W_Mo x.2)))) g_Mo_waysFrom rfl ?_
    unfold F_Mo_waysFrom
    refine sv_Q.s (σ' := (7, [some (.ref 0), some (.int a0), some (.int a1), some (.int a2), none, none, none], [.int (6 : Int32), .ref 1, .int a0], (W_Mo gm))) 4 rfl ?_
    refine sv_Q.g (σ' := (8, [some (.ref 0), some (.int a0), some (.int a1), some (.int a2), none, none, none], [.int (gm 1 ((6 : Int32)).toNatClampNeg), .int a0], (W_Mo gm))) (c := sv_in (6 : Int32) 90) rfl (fun c1 => ?_)
    refine sv_Q.b rfl (fun c2 => ?_) (fun c2 => ?_)
    · refine sv_Q.s (σ' := (19, [some (.ref 0), some (.int a0), some (.int a1), some (.int a2), some (.long (0 : Int64)), none, some (.int (0 : Int32))], [], (W_Mo gm))) 4 rfl ?_
      refine sv_Q.bs (l_Mo_waysFrom_19 N dd (F_Mo_waysFrom N dd) ih N a0 a1 a2 (0 : Int64) (0 : Int32) gm) (fun v13 => ?_) (fun r σ' h => h)
      · refine sv_Q.s (σ' := (81, [none, none, none, none, some (.long v13.1), none, none], [.long v13.1], (W_Mo v13.2))) 1 rfl ?_
        exact sv_Q.z ⟨True, rfl, trivial, rfl⟩
    · refine sv_Q.s (σ' := (12, [some (.ref 0), some (.int a0), some (.int a1), some (.int a2), none, none, none], [.long (1 : Int64)], (W_Mo gm))) 1 rfl ?_
      exact sv_Q.z ⟨True, rfl, trivial, rfl⟩
def F_Mo_ways (N : Nat) (a0 : Int32) (gm : Nat → Nat → Int32) : Option (Int64 × (Nat → Nat → Int32)) := (if (gm 0 1) = 0 then (some ((-2 : Int64), gm)) else (if (F_Mo_in ((a0).toInt64) (1 : Int64) (8 : Int64)) = 0 then (some ((-2 : Int64), gm)) else (Option.bind (F_Mo_waysFrom N 9 (0 : Int32) a0 (0 : Int32) gm) fun (v3 : Int64 × (Nat → Nat → Int32)) => (some (v3.1, v3.2)))))
set_option maxHeartbeats 4000000 in
set_option maxRecDepth 100000 in
theorem r_Mo_ways {X : Nat × (Nat → Int32)} (N : Nat) (gm : Nat → Nat → Int32) (a0 : Int32) : ∀ x, (F_Mo_ways N a0 gm) = some x → sv_R X 13 M_Mo_ways [.ref 0, .int a0] (W_Mo gm) (some (.long x.1)) (W_Mo x.2) := by
  refine sv_Q.R (res := (fun (x : Int64 × (Nat → Nat → Int32)) => (some (.long x.1), (W_Mo x.2)))) g_Mo_ways rfl ?_
  unfold F_Mo_ways
  refine sv_Q.s (σ' := (4, [some (.ref 0), some (.int a0)], [.int (gm 0 1)], (W_Mo gm))) 2 rfl ?_
  refine sv_Q.b rfl (fun c1 => ?_) (fun c1 => ?_)
  · refine sv_Q.s (σ' := (32, [some (.ref 0), some (.int a0)], [.long (-2 : Int64)], (W_Mo gm))) 1 rfl ?_
    exact sv_Q.z ⟨True, rfl, trivial, rfl⟩
  · refine sv_Q.s (σ' := (13, [some (.ref 0), some (.int a0)], [.long (8 : Int64), .long (1 : Int64), .long ((a0).toInt64)], (W_Mo gm))) 4 rfl ?_
    refine sv_Q.S (ps := []) (rest := []) (cs1 := []) (cs2 := []) (st' := [.int (F_Mo_in ((a0).toInt64) (1 : Int64) (8 : Int64))]) (cs' := (W_Mo gm)) (q := (13, .null, 0, 0, 0)) lk_Mo_97 (t_Mo_in ((a0).toInt64) (1 : Int64) (8 : Int64)) rfl rfl rfl rfl rfl rfl rfl rfl rfl rfl (sv_pt_nil _ _) ?_
    refine sv_Q.b rfl (fun c2 => ?_) (fun c2 => ?_)
    · refine sv_Q.s (σ' := (32, [some (.ref 0), some (.int a0)], [.long (-2 : Int64)], (W_Mo gm))) 1 rfl ?_
      exact sv_Q.z ⟨True, rfl, trivial, rfl⟩
    · refine sv_Q.s (σ' := (23, [some (.ref 0), some (.int a0)], [.int (0 : Int32), .int a0, .int (0 : Int32), .ref 0], (W_Mo gm))) 4 rfl ?_
      refine sv_Q.o (fun v3 e4 => ?_)
      refine sv_Q.V (b := 0) (av := [.int (0 : Int32), .int a0, .int (0 : Int32)]) (ps := [0, 1, 2, 3, 4, 5, 6, 7, 8, 9, 10, 11, 12, 13, 14, 15, 16, 17, 18, 19, 20, 21, 22]) (rest := []) (cs1 := (W_Mo gm)) (cs2 := (W_Mo v3.2)) (st' := [.long v3.1]) (cs' := (W_Mo v3.2)) (q := (23, .null, 0, 0, 0)) lk_Mo_452 (r_Mo_waysFrom N 9 gm (0 : Int32) a0 (0 : Int32) v3 e4) rfl rfl rfl rfl rfl (Or.inl ⟨12, _, _, rfl, rfl, rfl⟩) rfl rfl (sc_Mo_Mo_0 gm) rfl rfl (pc_Mo_Mo_0 gm v3.2) ?_
      refine sv_Q.s (σ' := (32, [some (.ref 0), some (.int a0)], [.long v3.1], (W_Mo v3.2))) 1 rfl ?_
      exact sv_Q.z ⟨True, rfl, trivial, rfl⟩
def L_Mo_span_12 (N : Nat) : Nat → Int32 → (Nat → Nat → Int32) → Option (((Nat → Nat → Int32)) ⊕ (Int32 × (Nat → Nat → Int32)))
  | 0, _, _ => none
  | n + 1, x1, gm => (if (8 : Int32) < x1 then (some (.inl gm)) else (Option.bind (F_Mo_waysFrom N 9 (0 : Int32) x1 (1 : Int32) gm) fun (v3 : Int64 × (Nat → Nat → Int32)) => (if (lg_cmp v3.1 (0 : Int64)) ≤ 0 then (L_Mo_span_12 N n (x1 + (1 : Int32)) v3.2) else (some (.inr (x1, v3.2))))))
set_option maxHeartbeats 4000000 in
set_option maxRecDepth 100000 in
theorem l_Mo_span_12 {X : Nat × (Nat → Int32)} (N : Nat) : ∀ (n : Nat) (x1 : Int32) (gm : Nat → Nat → Int32), sv_Q X 12 M_Mo_span (12, [some (.ref 0), some (.int x1)], [], (W_Mo gm)) (L_Mo_span_12 N n x1 gm) (sv_K2 (fun (v : (Nat → Nat → Int32)) => (38, [none, none], [], (W_Mo v))) (sv_KR M_Mo_span (fun (x : Int32 × (Nat → Nat → Int32)) => (some (.int x.1), (W_Mo x.2))))) := by
  intro n
  induction n with
  | zero => intro x1 gm; unfold L_Mo_span_12; exact sv_Q.non
  | succ n ih =>
    intro x1 gm
    unfold L_Mo_span_12
    refine sv_Q.s (σ' := (15, [some (.ref 0), some (.int x1)], [.int (8 : Int32), .int x1], (W_Mo gm))) 2 rfl ?_
    refine sv_Q.b rfl (fun c2 => ?_) (fun c2 => ?_)
    · refine sv_Q.f (lo' := [none, none]) trivial ?_
      exact sv_Q.z rfl
    · refine sv_Q.s (σ' := (22, [some (.ref 0), some (.int x1)], [.int (1 : Int32), .int x1, .int (0 : Int32), .ref 0], (W_Mo gm))) 4 rfl ?_
      refine sv_Q.o (fun v3 e4 => ?_)
      refine sv_Q.V (b := 0) (av := [.int (0 : Int32), .int x1, .int (1 : Int32)]) (ps := [0, 1, 2, 3, 4, 5, 6, 7, 8, 9, 10, 11, 12, 13, 14, 15, 16, 17, 18, 19, 20, 21, 22]) (rest := []) (cs1 := (W_Mo gm)) (cs2 := (W_Mo v3.2)) (st' := [.long v3.1]) (cs' := (W_Mo v3.2)) (q := (22, .null, 0, 0, 0)) lk_Mo_452 (r_Mo_waysFrom N 9 gm (0 : Int32) x1 (1 : Int32) v3 e4) rfl rfl rfl rfl rfl (Or.inl ⟨12, _, _, rfl, rfl, rfl⟩) rfl rfl (sc_Mo_Mo_0 gm) rfl rfl (pc_Mo_Mo_0 gm v3.2) ?_
      refine sv_Q.s (σ' := (27, [some (.ref 0), some (.int x1)], [.int (lg_cmp v3.1 (0 : Int64))], (W_Mo v3.2))) 2 rfl ?_
      refine sv_Q.b rfl (fun c5 => ?_) (fun c5 => ?_)
      · refine sv_Q.s (σ' := (12, [some (.ref 0), some (.int (x1 + (1 : Int32)))], [], (W_Mo v3.2))) 2 rfl ?_
        exact ih (x1 + (1 : Int32)) v3.2
      · refine sv_Q.s (σ' := (31, [some (.ref 0), some (.int x1)], [.int x1], (W_Mo v3.2))) 1 rfl ?_
        exact sv_Q.z ⟨True, rfl, trivial, rfl⟩
def F_Mo_span (N : Nat) (gm : Nat → Nat → Int32) : Option (Int32 × (Nat → Nat → Int32)) := (if ¬ (gm 0 1) = 0 then (sv_bs (L_Mo_span_12 N N (1 : Int32) gm) id fun (v6 : (Nat → Nat → Int32)) => (some ((-1 : Int32), v6))) else (some ((-2 : Int32), gm)))
set_option maxHeartbeats 4000000 in
set_option maxRecDepth 100000 in
theorem r_Mo_span {X : Nat × (Nat → Int32)} (N : Nat) (gm : Nat → Nat → Int32) : ∀ x, (F_Mo_span N gm) = some x → sv_R X 13 M_Mo_span [.ref 0] (W_Mo gm) (some (.int x.1)) (W_Mo x.2) := by
  refine sv_Q.R (res := (fun (x : Int32 × (Nat → Nat → Int32)) => (some (.int x.1), (W_Mo x.2)))) g_Mo_span rfl ?_
  unfold F_Mo_span
  refine sv_Q.s (σ' := (4, [some (.ref 0), none], [.int (gm 0 1)], (W_Mo gm))) 2 rfl ?_
  refine sv_Q.b rfl (fun c1 => ?_) (fun c1 => ?_)
  · refine sv_Q.s (σ' := (12, [some (.ref 0), some (.int (1 : Int32))], [], (W_Mo gm))) 2 rfl ?_
    refine sv_Q.bs (l_Mo_span_12 N N (1 : Int32) gm) (fun v6 => ?_) (fun r σ' h => h)
    · refine sv_Q.s (σ' := (39, [none, none], [.int (-1 : Int32)], (W_Mo v6))) 1 rfl ?_
      exact sv_Q.z ⟨True, rfl, trivial, rfl⟩
  · refine sv_Q.s (σ' := (9, [some (.ref 0), none], [.int (-2 : Int32)], (W_Mo gm))) 1 rfl ?_
    exact sv_Q.z ⟨True, rfl, trivial, rfl⟩
def F_Mo_bayOf (N : Nat) (a0 : Int32) (a1 : Int32) (gm : Nat → Nat → Int32) : Option (Int32 × (Nat → Nat → Int32)) := (Option.bind (F_Mo_isKind N a1 gm) fun (v1 : Int32) => (if v1 = 0 then (some ((-2 : Int32), gm)) else (if ¬ (F_Mo_in ((a0).toInt64) (1 : Int64) (8 : Int64)) = 0 then (Option.bind (F_Mo_waysFrom N 9 (0 : Int32) a0 (1 : Int32) gm) fun (v5 : Int64 × (Nat → Nat → Int32)) => (if (lg_cmp v5.1 (0 : Int64)) ≤ 0 then (some ((-1 : Int32), v5.2)) else (if sv_in a1 7 then (some ((v5.2 18 (a1).toNatClampNeg), v5.2)) else none))) else (some ((-2 : Int32), gm)))))
set_option maxHeartbeats 4000000 in
set_option maxRecDepth 100000 in
theorem r_Mo_bayOf {X : Nat × (Nat → Int32)} (N : Nat) (gm : Nat → Nat → Int32) (a0 : Int32) (a1 : Int32) : ∀ x, (F_Mo_bayOf N a0 a1 gm) = some x → sv_R X 13 M_Mo_bayOf [.ref 0, .int a0, .int a1] (W_Mo gm) (some (.int x.1)) (W_Mo x.2) := by
  refine sv_Q.R (res := (fun (x : Int32 × (Nat → Nat → Int32)) => (some (.int x.1), (W_Mo x.2)))) g_Mo_bayOf rfl ?_
  unfold F_Mo_bayOf
  refine sv_Q.s (σ' := (2, [some (.ref 0), some (.int a0), some (.int a1)], [.int a1, .ref 0], (W_Mo gm))) 2 rfl ?_
  refine sv_Q.o (fun v1 e2 => ?_)
  refine sv_Q.V (b := 0) (av := [.int a1]) (ps := [0, 1, 2, 3, 4, 5, 6, 7, 8, 9, 10, 11, 12, 13, 14, 15, 16, 17, 18, 19, 20, 21, 22]) (rest := []) (cs1 := (W_Mo gm)) (cs2 := (W_Mo gm)) (st' := [.int v1]) (cs' := (W_Mo gm)) (q := (2, .null, 0, 0, 0)) lk_Mo_280 (r_Mo_isKind N gm a1 v1 e2) rfl rfl rfl rfl rfl (Or.inl ⟨12, _, _, rfl, rfl, rfl⟩) rfl rfl (sc_Mo_Mo_0 gm) rfl rfl (pc_Mo_Mo_0 gm gm) ?_
  refine sv_Q.b rfl (fun c3 => ?_) (fun c3 => ?_)
  · refine sv_Q.s (σ' := (22, [some (.ref 0), some (.int a0), some (.int a1)], [.int (-2 : Int32)], (W_Mo gm))) 1 rfl ?_
    exact sv_Q.z ⟨True, rfl, trivial, rfl⟩
  · refine sv_Q.s (σ' := (14, [some (.ref 0), some (.int a0), some (.int a1)], [.long (8 : Int64), .long (1 : Int64), .long ((a0).toInt64)], (W_Mo gm))) 4 rfl ?_
    refine sv_Q.S (ps := []) (rest := []) (cs1 := []) (cs2 := []) (st' := [.int (F_Mo_in ((a0).toInt64) (1 : Int64) (8 : Int64))]) (cs' := (W_Mo gm)) (q := (14, .null, 0, 0, 0)) lk_Mo_97 (t_Mo_in ((a0).toInt64) (1 : Int64) (8 : Int64)) rfl rfl rfl rfl rfl rfl rfl rfl rfl rfl (sv_pt_nil _ _) ?_
    refine sv_Q.b rfl (fun c4 => ?_) (fun c4 => ?_)
    · refine sv_Q.s (σ' := (27, [some (.ref 0), some (.int a0), some (.int a1)], [.int (1 : Int32), .int a0, .int (0 : Int32), .ref 0], (W_Mo gm))) 4 rfl ?_
      refine sv_Q.o (fun v5 e6 => ?_)
      refine sv_Q.V (b := 0) (av := [.int (0 : Int32), .int a0, .int (1 : Int32)]) (ps := [0, 1, 2, 3, 4, 5, 6, 7, 8, 9, 10, 11, 12, 13, 14, 15, 16, 17, 18, 19, 20, 21, 22]) (rest := []) (cs1 := (W_Mo gm)) (cs2 := (W_Mo v5.2)) (st' := [.long v5.1]) (cs' := (W_Mo v5.2)) (q := (27, .null, 0, 0, 0)) lk_Mo_452 (r_Mo_waysFrom N 9 gm (0 : Int32) a0 (1 : Int32) v5 e6) rfl rfl rfl rfl rfl (Or.inl ⟨12, _, _, rfl, rfl, rfl⟩) rfl rfl (sc_Mo_Mo_0 gm) rfl rfl (pc_Mo_Mo_0 gm v5.2) ?_
      refine sv_Q.s (σ' := (32, [some (.ref 0), some (.int a0), some (.int a1)], [.int (lg_cmp v5.1 (0 : Int64))], (W_Mo v5.2))) 2 rfl ?_
      refine sv_Q.b rfl (fun c7 => ?_) (fun c7 => ?_)
      · refine sv_Q.s (σ' := (45, [some (.ref 0), some (.int a0), some (.int a1)], [.int (-1 : Int32)], (W_Mo v5.2))) 1 rfl ?_
        exact sv_Q.z ⟨True, rfl, trivial, rfl⟩
      · refine sv_Q.s (σ' := (40, [some (.ref 0), some (.int a0), some (.int a1)], [.int a1, .ref 18], (W_Mo v5.2))) 3 rfl ?_
        refine sv_Q.g (σ' := (41, [some (.ref 0), some (.int a0), some (.int a1)], [.int (v5.2 18 (a1).toNatClampNeg)], (W_Mo v5.2))) (c := sv_in a1 7) rfl (fun c8 => ?_)
        refine sv_Q.s (σ' := (45, [some (.ref 0), some (.int a0), some (.int a1)], [.int (v5.2 18 (a1).toNatClampNeg)], (W_Mo v5.2))) 1 rfl ?_
        exact sv_Q.z ⟨True, rfl, trivial, rfl⟩
    · refine sv_Q.s (σ' := (22, [some (.ref 0), some (.int a0), some (.int a1)], [.int (-2 : Int32)], (W_Mo gm))) 1 rfl ?_
      exact sv_Q.z ⟨True, rfl, trivial, rfl⟩
def F_Mo_areBeside (N : Nat) (a0 : Int32) (a1 : Int32) (gm : Nat → Nat → Int32) : Option (Int32) := (Option.bind (F_Mo_betweenOf N a0 a1 (0 : Int32) gm) fun (v1 : Int32) => (Option.bind (F_Mo_betweenOf N a0 a1 (1 : Int32) gm) fun (v3 : Int32) => (Option.bind (F_Mo_tierOf N a0 gm) fun (v5 : Int32) => (Option.bind (F_Mo_tierOf N a1 gm) fun (v7 : Int32) => (if ((v1 + v3) + (if 0 ≤ (v5 - v7) then (v5 - v7) else 0 - (v5 - v7))) = (1 : Int32) then (if ¬ v3 = (1 : Int32) then (if (if 0 ≤ (v5 - v7) then (v5 - v7) else 0 - (v5 - v7)) = 0 then (some (1 : Int32)) else (Option.bind (F_Mo_isOnDeck N a0 gm) fun (v12 : Int32) => (Option.bind (F_Mo_isOnDeck N a1 gm) fun (v14 : Int32) => (if ¬ v12 = v14 then (some (0 : Int32)) else (some (1 : Int32)))))) else (Option.bind (F_Mo_shutBetween N a0 a1 (gm 0 11) gm) fun (v17 : Int32) => (if ¬ v17 = 0 then (some (0 : Int32)) else (some (1 : Int32))))) else (some (0 : Int32)))))))
set_option maxHeartbeats 4000000 in
set_option maxRecDepth 100000 in
theorem r_Mo_areBeside {X : Nat × (Nat → Int32)} (N : Nat) (gm : Nat → Nat → Int32) (a0 : Int32) (a1 : Int32) : ∀ x, (F_Mo_areBeside N a0 a1 gm) = some x → sv_R X 5 M_Mo_areBeside [.ref 0, .int a0, .int a1] (W_Mo gm) (some (.int x)) (W_Mo gm) := by
  refine sv_Q.R (res := (fun (x : Int32) => (some (.int x), (W_Mo gm)))) g_Mo_areBeside rfl ?_
  unfold F_Mo_areBeside
  refine sv_Q.s (σ' := (4, [some (.ref 0), some (.int a0), some (.int a1), none, none, none], [.int (0 : Int32), .int a1, .int a0, .ref 0], (W_Mo gm))) 4 rfl ?_
  refine sv_Q.o (fun v1 e2 => ?_)
  refine sv_Q.V (b := 0) (av := [.int a0, .int a1, .int (0 : Int32)]) (ps := [0, 1, 2, 3, 4, 5, 6, 7, 8, 9, 10, 11, 12, 13, 14, 15, 16, 17, 18, 19, 20, 21, 22]) (rest := []) (cs1 := (W_Mo gm)) (cs2 := (W_Mo gm)) (st' := [.int v1]) (cs' := (W_Mo gm)) (q := (4, .null, 0, 0, 0)) lk_Mo_308 (r_Mo_betweenOf N gm a0 a1 (0 : Int32) v1 e2) rfl rfl rfl rfl rfl (Or.inl ⟨12, _, _, rfl, rfl, rfl⟩) rfl rfl (sc_Mo_Mo_0 gm) rfl rfl (pc_Mo_Mo_0 gm gm) ?_
  refine sv_Q.s (σ' := (12, [some (.ref 0), some (.int a0), some (.int a1), some (.int v1), none, none], [.int (1 : Int32), .int a1, .int a0, .ref 0], (W_Mo gm))) 5 rfl ?_
  refine sv_Q.o (fun v3 e4 => ?_)
  refine sv_Q.V (b := 0) (av := [.int a0, .int a1, .int (1 : Int32)]) (ps := [0, 1, 2, 3, 4, 5, 6, 7, 8, 9, 10, 11, 12, 13, 14, 15, 16, 17, 18, 19, 20, 21, 22]) (rest := []) (cs1 := (W_Mo gm)) (cs2 := (W_Mo gm)) (st' := [.int v3]) (cs' := (W_Mo gm)) (q := (12, .null, 0, 0, 0)) lk_Mo_308 (r_Mo_betweenOf N gm a0 a1 (1 : Int32) v3 e4) rfl rfl rfl rfl rfl (Or.inl ⟨12, _, _, rfl, rfl, rfl⟩) rfl rfl (sc_Mo_Mo_0 gm) rfl rfl (pc_Mo_Mo_0 gm gm) ?_
  refine sv_Q.s (σ' := (19, [some (.ref 0), some (.int a0), some (.int a1), some (.int v1), some (.int v3), none], [.int a0, .ref 0], (W_Mo gm))) 3 rfl ?_
  refine sv_Q.o (fun v5 e6 => ?_)
  refine sv_Q.V (b := 0) (av := [.int a0]) (ps := [0, 1, 2, 3, 4, 5, 6, 7, 8, 9, 10, 11, 12, 13, 14, 15, 16, 17, 18, 19, 20, 21, 22]) (rest := []) (cs1 := (W_Mo gm)) (cs2 := (W_Mo gm)) (st' := [.int v5]) (cs' := (W_Mo gm)) (q := (19, .null, 0, 0, 0)) lk_Mo_257 (r_Mo_tierOf N gm a0 v5 e6) rfl rfl rfl rfl rfl (Or.inl ⟨12, _, _, rfl, rfl, rfl⟩) rfl rfl (sc_Mo_Mo_0 gm) rfl rfl (pc_Mo_Mo_0 gm gm) ?_
  refine sv_Q.s (σ' := (24, [some (.ref 0), some (.int a0), some (.int a1), some (.int v1), some (.int v3), none], [.int a1, .ref 0, .int v5], (W_Mo gm))) 2 rfl ?_
  refine sv_Q.o (fun v7 e8 => ?_)
  refine sv_Q.V (b := 0) (av := [.int a1]) (ps := [0, 1, 2, 3, 4, 5, 6, 7, 8, 9, 10, 11, 12, 13, 14, 15, 16, 17, 18, 19, 20, 21, 22]) (rest := [.int v5]) (cs1 := (W_Mo gm)) (cs2 := (W_Mo gm)) (st' := [.int v7, .int v5]) (cs' := (W_Mo gm)) (q := (24, .null, 0, 0, 0)) lk_Mo_257 (r_Mo_tierOf N gm a1 v7 e8) rfl rfl rfl rfl rfl (Or.inl ⟨12, _, _, rfl, rfl, rfl⟩) rfl rfl (sc_Mo_Mo_0 gm) rfl rfl (pc_Mo_Mo_0 gm gm) ?_
  refine sv_Q.s (σ' := (41, [some (.ref 0), some (.int a0), some (.int a1), some (.int v1), some (.int v3), some (.int (if 0 ≤ (v5 - v7) then (v5 - v7) else 0 - (v5 - v7)))], [.int (1 : Int32), .int ((v1 + v3) + (if 0 ≤ (v5 - v7) then (v5 - v7) else 0 - (v5 - v7)))], (W_Mo gm))) 9 rfl ?_
  refine sv_Q.b rfl (fun c9 => ?_) (fun c9 => ?_)
  · refine sv_Q.s (σ' := (49, [some (.ref 0), some (.int a0), some (.int a1), some (.int v1), some (.int v3), some (.int (if 0 ≤ (v5 - v7) then (v5 - v7) else 0 - (v5 - v7)))], [.int (1 : Int32), .int v3], (W_Mo gm))) 2 rfl ?_
    refine sv_Q.b rfl (fun c10 => ?_) (fun c10 => ?_)
    · refine sv_Q.s (σ' := (75, [some (.ref 0), some (.int a0), some (.int a1), some (.int v1), some (.int v3), some (.int (if 0 ≤ (v5 - v7) then (v5 - v7) else 0 - (v5 - v7)))], [.int (if 0 ≤ (v5 - v7) then (v5 - v7) else 0 - (v5 - v7))], (W_Mo gm))) 1 rfl ?_
      refine sv_Q.b rfl (fun c11 => ?_) (fun c11 => ?_)
      · refine sv_Q.s (σ' := (96, [some (.ref 0), some (.int a0), some (.int a1), some (.int v1), some (.int v3), some (.int (if 0 ≤ (v5 - v7) then (v5 - v7) else 0 - (v5 - v7)))], [.int (1 : Int32)], (W_Mo gm))) 2 rfl ?_
        exact sv_Q.z ⟨sv_01 (1 : Int32), rfl, Or.inr rfl, rfl⟩
      · refine sv_Q.s (σ' := (80, [some (.ref 0), some (.int a0), some (.int a1), some (.int v1), some (.int v3), some (.int (if 0 ≤ (v5 - v7) then (v5 - v7) else 0 - (v5 - v7)))], [.int a0, .ref 0], (W_Mo gm))) 2 rfl ?_
        refine sv_Q.o (fun v12 e13 => ?_)
        refine sv_Q.V (b := 0) (av := [.int a0]) (ps := [0, 1, 2, 3, 4, 5, 6, 7, 8, 9, 10, 11, 12, 13, 14, 15, 16, 17, 18, 19, 20, 21, 22]) (rest := []) (cs1 := (W_Mo gm)) (cs2 := (W_Mo gm)) (st' := [.int v12]) (cs' := (W_Mo gm)) (q := (80, .null, 0, 0, 0)) lk_Mo_260 (r_Mo_isOnDeck N gm a0 v12 e13) rfl rfl rfl rfl rfl (Or.inl ⟨12, _, _, rfl, rfl, rfl⟩) rfl rfl (sc_Mo_Mo_0 gm) rfl rfl (pc_Mo_Mo_0 gm gm) ?_
        refine sv_Q.s (σ' := (85, [some (.ref 0), some (.int a0), some (.int a1), some (.int v1), some (.int v3), some (.int (if 0 ≤ (v5 - v7) then (v5 - v7) else 0 - (v5 - v7)))], [.int a1, .ref 0, .int v12], (W_Mo gm))) 2 rfl ?_
        refine sv_Q.o (fun v14 e15 => ?_)
        refine sv_Q.V (b := 0) (av := [.int a1]) (ps := [0, 1, 2, 3, 4, 5, 6, 7, 8, 9, 10, 11, 12, 13, 14, 15, 16, 17, 18, 19, 20, 21, 22]) (rest := [.int v12]) (cs1 := (W_Mo gm)) (cs2 := (W_Mo gm)) (st' := [.int v14, .int v12]) (cs' := (W_Mo gm)) (q := (85, .null, 0, 0, 0)) lk_Mo_260 (r_Mo_isOnDeck N gm a1 v14 e15) rfl rfl rfl rfl rfl (Or.inl ⟨12, _, _, rfl, rfl, rfl⟩) rfl rfl (sc_Mo_Mo_0 gm) rfl rfl (pc_Mo_Mo_0 gm gm) ?_
        refine sv_Q.b rfl (fun c16 => ?_) (fun c16 => ?_)
        · refine sv_Q.s (σ' := (96, [some (.ref 0), some (.int a0), some (.int a1), some (.int v1), some (.int v3), some (.int (if 0 ≤ (v5 - v7) then (v5 - v7) else 0 - (v5 - v7)))], [.int (0 : Int32)], (W_Mo gm))) 1 rfl ?_
          exact sv_Q.z ⟨sv_01 (0 : Int32), rfl, Or.inl rfl, rfl⟩
        · refine sv_Q.s (σ' := (96, [some (.ref 0), some (.int a0), some (.int a1), some (.int v1), some (.int v3), some (.int (if 0 ≤ (v5 - v7) then (v5 - v7) else 0 - (v5 - v7)))], [.int (1 : Int32)], (W_Mo gm))) 2 rfl ?_
          exact sv_Q.z ⟨sv_01 (1 : Int32), rfl, Or.inr rfl, rfl⟩
    · refine sv_Q.s (σ' := (59, [some (.ref 0), some (.int a0), some (.int a1), some (.int v1), some (.int v3), some (.int (if 0 ≤ (v5 - v7) then (v5 - v7) else 0 - (v5 - v7)))], [.int (gm 0 11), .int a1, .int a0, .ref 0], (W_Mo gm))) 5 rfl ?_
      refine sv_Q.o (fun v17 e18 => ?_)
      refine sv_Q.V (b := 0) (av := [.int a0, .int a1, .int (gm 0 11)]) (ps := [0, 1, 2, 3, 4, 5, 6, 7, 8, 9, 10, 11, 12, 13, 14, 15, 16, 17, 18, 19, 20, 21, 22]) (rest := []) (cs1 := (W_Mo gm)) (cs2 := (W_Mo gm)) (st' := [.int v17]) (cs' := (W_Mo gm)) (q := (59, .null, 0, 0, 0)) lk_Mo_304 (r_Mo_shutBetween N gm a0 a1 (gm 0 11) v17 e18) rfl rfl rfl rfl rfl (Or.inl ⟨12, _, _, rfl, rfl, rfl⟩) rfl rfl (sc_Mo_Mo_0 gm) rfl rfl (pc_Mo_Mo_0 gm gm) ?_
      refine sv_Q.b rfl (fun c19 => ?_) (fun c19 => ?_)
      · refine sv_Q.s (σ' := (96, [some (.ref 0), some (.int a0), some (.int a1), some (.int v1), some (.int v3), some (.int (if 0 ≤ (v5 - v7) then (v5 - v7) else 0 - (v5 - v7)))], [.int (0 : Int32)], (W_Mo gm))) 2 rfl ?_
        exact sv_Q.z ⟨sv_01 (0 : Int32), rfl, Or.inl rfl, rfl⟩
      · refine sv_Q.s (σ' := (96, [some (.ref 0), some (.int a0), some (.int a1), some (.int v1), some (.int v3), some (.int (if 0 ≤ (v5 - v7) then (v5 - v7) else 0 - (v5 - v7)))], [.int (1 : Int32)], (W_Mo gm))) 2 rfl ?_
        exact sv_Q.z ⟨sv_01 (1 : Int32), rfl, Or.inr rfl, rfl⟩
  · refine sv_Q.s (σ' := (45, [some (.ref 0), some (.int a0), some (.int a1), some (.int v1), some (.int v3), some (.int (if 0 ≤ (v5 - v7) then (v5 - v7) else 0 - (v5 - v7)))], [.int (0 : Int32)], (W_Mo gm))) 1 rfl ?_
    exact sv_Q.z ⟨sv_01 (0 : Int32), rfl, Or.inl rfl, rfl⟩
def L_Mo_hang_25 (N : Nat) : Nat → Int32 → Int32 → (Nat → Nat → Int32) → Option ((Nat → Nat → Int32))
  | 0, _, _, _ => none
  | n + 1, x1, x2, gm => (if (gm 0 6) ≤ x2 then (some gm) else (if sv_in x1 144 then (sv_let (if ¬ x2 = (gm 8 (x1).toNatClampNeg) then (0 : Int32) else (1 : Int32)) fun (v9 : Int32) => (if sv_in x2 24 then (sv_let (sa gm 19 x2 (vp_nar .boolean v9)) fun (gm_11 : Nat → Nat → Int32) => (L_Mo_hang_25 N n x1 (x2 + (1 : Int32)) gm_11)) else none)) else none))
set_option maxHeartbeats 4000000 in
set_option maxRecDepth 100000 in
theorem l_Mo_hang_25 {X : Nat × (Nat → Int32)} (N : Nat) : ∀ (n : Nat) (x1 : Int32) (x2 : Int32) (gm : Nat → Nat → Int32), sv_Q X 5 M_Mo_hang (25, [some (.ref 0), some (.int x1), some (.int x2), none, none, none], [], (W_Mo gm)) (L_Mo_hang_25 N n x1 x2 gm) (fun v σ' => σ' = (60, [some (.ref 0), none, none, none, none, none], [], (W_Mo v))) := by
  intro n
  induction n with
  | zero => intro x1 x2 gm; unfold L_Mo_hang_25; exact sv_Q.non
  | succ n ih =>
    intro x1 x2 gm
    unfold L_Mo_hang_25
    refine sv_Q.s (σ' := (30, [some (.ref 0), some (.int x1), some (.int x2), none, none, none], [.int (gm 0 6), .int x2], (W_Mo gm))) 3 rfl ?_
    refine sv_Q.b rfl (fun c6 => ?_) (fun c6 => ?_)
    · refine sv_Q.f (lo' := [some (.ref 0), none, none, none, none, none]) ⟨rfl, trivial⟩ ?_
      exact sv_Q.z rfl
    · refine sv_Q.s (σ' := (44, [some (.ref 0), some (.int x1), some (.int x2), none, none, none], [.int x1, .ref 8, .int x2, .int x2, .ref 19], (W_Mo gm))) 7 rfl ?_
      refine sv_Q.g (σ' := (45, [some (.ref 0), some (.int x1), some (.int x2), none, none, none], [.int (gm 8 (x1).toNatClampNeg), .int x2, .int x2, .ref 19], (W_Mo gm))) (c := sv_in x1 144) rfl (fun c7 => ?_)
      refine sv_Q.l (fun v9 => (53, [some (.ref 0), some (.int x1), some (.int x2), none, none, none], [.int v9, .int x2, .ref 19], (W_Mo gm))) (fun v9 => ?_) ?_
      · refine sv_Q.g (σ' := (54, [some (.ref 0), some (.int x1), some (.int x2), none, none, none], [], (W_Mo (sa gm 19 x2 (vp_nar .boolean v9))))) (c := sv_in x2 24) rfl (fun c10 => ?_)
        refine sv_Q.go (fun gm_11 => (54, [some (.ref 0), some (.int x1), some (.int x2), none, none, none], [], (W_Mo gm_11))) (fun gm_11 => ?_)
        refine sv_Q.s (σ' := (25, [some (.ref 0), some (.int x1), some (.int (x2 + (1 : Int32))), none, none, none], [], (W_Mo gm_11))) 2 rfl ?_
        exact ih x1 (x2 + (1 : Int32)) gm_11
      · refine sv_Q.sb rfl (fun c8 => ?_) (fun c8 => ?_)
        · refine sv_Q.s (σ' := (53, [some (.ref 0), some (.int x1), some (.int x2), none, none, none], [.int (0 : Int32), .int x2, .ref 19], (W_Mo gm))) 1 rfl ?_
          exact sv_Q.z rfl
        · refine sv_Q.s (σ' := (53, [some (.ref 0), some (.int x1), some (.int x2), none, none, none], [.int (1 : Int32), .int x2, .ref 19], (W_Mo gm))) 2 rfl ?_
          exact sv_Q.z rfl
def L_Mo_hang_86 (N : Nat) : Nat → Int32 → Int32 → Int32 → (Nat → Nat → Int32) → Option ((Nat → Nat → Int32))
  | 0, _, _, _, _ => none
  | n + 1, x3, x4, x5, gm => (if (gm 0 6) ≤ x5 then (some gm) else (if sv_in x4 24 then (if (gm 19 (x4).toNatClampNeg) = 0 then (L_Mo_hang_86 N n x3 x4 (x5 + (1 : Int32)) gm) else (if sv_in x5 24 then (if ¬ (gm 19 (x5).toNatClampNeg) = 0 then (L_Mo_hang_86 N n x3 x4 (x5 + (1 : Int32)) gm) else (if sv_in x5 24 then (if (gm 7 (x5).toNatClampNeg) = (-1 : Int32) then (L_Mo_hang_86 N n x3 x4 (x5 + (1 : Int32)) gm) else (if sv_in x4 24 then (if sv_in x5 24 then (Option.bind (F_Mo_areBeside N (gm 7 (x4).toNatClampNeg) (gm 7 (x5).toNatClampNeg) gm) fun (v24 : Int32) => (if v24 = 0 then (L_Mo_hang_86 N n x3 x4 (x5 + (1 : Int32)) gm) else (if sv_in x5 24 then (sv_let (sa gm 19 x5 (vp_nar .boolean (1 : Int32))) fun (gm_28 : Nat → Nat → Int32) => (L_Mo_hang_86 N n x3 x4 (x5 + (1 : Int32)) gm_28)) else none))) else none) else none)) else none)) else none)) else none))
set_option maxHeartbeats 4000000 in
set_option maxRecDepth 100000 in
theorem l_Mo_hang_86 {X : Nat × (Nat → Int32)} (N : Nat) : ∀ (n : Nat) (x3 : Int32) (x4 : Int32) (x5 : Int32) (gm : Nat → Nat → Int32), sv_Q X 5 M_Mo_hang (86, [some (.ref 0), none, none, some (.int x3), some (.int x4), some (.int x5)], [], (W_Mo gm)) (L_Mo_hang_86 N n x3 x4 x5 gm) (fun v σ' => σ' = (161, [some (.ref 0), none, none, some (.int x3), some (.int x4), none], [], (W_Mo v))) := by
  intro n
  induction n with
  | zero => intro x3 x4 x5 gm; unfold L_Mo_hang_86; exact sv_Q.non
  | succ n ih =>
    intro x3 x4 x5 gm
    unfold L_Mo_hang_86
    refine sv_Q.s (σ' := (92, [some (.ref 0), none, none, some (.int x3), some (.int x4), some (.int x5)], [.int (gm 0 6), .int x5], (W_Mo gm))) 3 rfl ?_
    refine sv_Q.b rfl (fun c15 => ?_) (fun c15 => ?_)
    · refine sv_Q.f (lo' := [some (.ref 0), none, none, some (.int x3), some (.int x4), none]) ⟨rfl, ⟨rfl, ⟨rfl, trivial⟩⟩⟩ ?_
      exact sv_Q.z rfl
    · refine sv_Q.s (σ' := (101, [some (.ref 0), none, none, some (.int x3), some (.int x4), some (.int x5)], [.int x4, .ref 19], (W_Mo gm))) 3 rfl ?_
      refine sv_Q.g (σ' := (102, [some (.ref 0), none, none, some (.int x3), some (.int x4), some (.int x5)], [.int (gm 19 (x4).toNatClampNeg)], (W_Mo gm))) (c := sv_in x4 24) rfl (fun c16 => ?_)
      refine sv_Q.b rfl (fun c17 => ?_) (fun c17 => ?_)
      · refine sv_Q.s (σ' := (86, [some (.ref 0), none, none, some (.int x3), some (.int x4), some (.int (x5 + (1 : Int32)))], [], (W_Mo gm))) 2 rfl ?_
        exact ih x3 x4 (x5 + (1 : Int32)) gm
      · refine sv_Q.s (σ' := (111, [some (.ref 0), none, none, some (.int x3), some (.int x4), some (.int x5)], [.int x5, .ref 19], (W_Mo gm))) 3 rfl ?_
        refine sv_Q.g (σ' := (112, [some (.ref 0), none, none, some (.int x3), some (.int x4), some (.int x5)], [.int (gm 19 (x5).toNatClampNeg)], (W_Mo gm))) (c := sv_in x5 24) rfl (fun c18 => ?_)
        refine sv_Q.b rfl (fun c19 => ?_) (fun c19 => ?_)
        · refine sv_Q.s (σ' := (86, [some (.ref 0), none, none, some (.int x3), some (.int x4), some (.int (x5 + (1 : Int32)))], [], (W_Mo gm))) 2 rfl ?_
          exact ih x3 x4 (x5 + (1 : Int32)) gm
        · refine sv_Q.s (σ' := (121, [some (.ref 0), none, none, some (.int x3), some (.int x4), some (.int x5)], [.int x5, .ref 7], (W_Mo gm))) 3 rfl ?_
          refine sv_Q.g (σ' := (122, [some (.ref 0), none, none, some (.int x3), some (.int x4), some (.int x5)], [.int (gm 7 (x5).toNatClampNeg)], (W_Mo gm))) (c := sv_in x5 24) rfl (fun c20 => ?_)
          refine sv_Q.s (σ' := (123, [some (.ref 0), none, none, some (.int x3), some (.int x4), some (.int x5)], [.int (-1 : Int32), .int (gm 7 (x5).toNatClampNeg)], (W_Mo gm))) 1 rfl ?_
          refine sv_Q.b rfl (fun c21 => ?_) (fun c21 => ?_)
          · refine sv_Q.s (σ' := (86, [some (.ref 0), none, none, some (.int x3), some (.int x4), some (.int (x5 + (1 : Int32)))], [], (W_Mo gm))) 2 rfl ?_
            exact ih x3 x4 (x5 + (1 : Int32)) gm
          · refine sv_Q.s (σ' := (133, [some (.ref 0), none, none, some (.int x3), some (.int x4), some (.int x5)], [.int x4, .ref 7, .ref 0], (W_Mo gm))) 4 rfl ?_
            refine sv_Q.g (σ' := (134, [some (.ref 0), none, none, some (.int x3), some (.int x4), some (.int x5)], [.int (gm 7 (x4).toNatClampNeg), .ref 0], (W_Mo gm))) (c := sv_in x4 24) rfl (fun c22 => ?_)
            refine sv_Q.s (σ' := (140, [some (.ref 0), none, none, some (.int x3), some (.int x4), some (.int x5)], [.int x5, .ref 7, .int (gm 7 (x4).toNatClampNeg), .ref 0], (W_Mo gm))) 3 rfl ?_
            refine sv_Q.g (σ' := (141, [some (.ref 0), none, none, some (.int x3), some (.int x4), some (.int x5)], [.int (gm 7 (x5).toNatClampNeg), .int (gm 7 (x4).toNatClampNeg), .ref 0], (W_Mo gm))) (c := sv_in x5 24) rfl (fun c23 => ?_)
            refine sv_Q.o (fun v24 e25 => ?_)
            refine sv_Q.V (b := 0) (av := [.int (gm 7 (x4).toNatClampNeg), .int (gm 7 (x5).toNatClampNeg)]) (ps := [0, 1, 2, 3, 4, 5, 6, 7, 8, 9, 10, 11, 12, 13, 14, 15, 16, 17, 18, 19, 20, 21, 22]) (rest := []) (cs1 := (W_Mo gm)) (cs2 := (W_Mo gm)) (st' := [.int v24]) (cs' := (W_Mo gm)) (q := (141, .null, 0, 0, 0)) lk_Mo_460 (r_Mo_areBeside N gm (gm 7 (x4).toNatClampNeg) (gm 7 (x5).toNatClampNeg) v24 e25) rfl rfl rfl rfl rfl (Or.inl ⟨12, _, _, rfl, rfl, rfl⟩) rfl rfl (sc_Mo_Mo_0 gm) rfl rfl (pc_Mo_Mo_0 gm gm) ?_
            refine sv_Q.b rfl (fun c26 => ?_) (fun c26 => ?_)
            · refine sv_Q.s (σ' := (86, [some (.ref 0), none, none, some (.int x3), some (.int x4), some (.int (x5 + (1 : Int32)))], [], (W_Mo gm))) 2 rfl ?_
              exact ih x3 x4 (x5 + (1 : Int32)) gm
            · refine sv_Q.s (σ' := (154, [some (.ref 0), none, none, some (.int x3), some (.int x4), some (.int x5)], [.int (1 : Int32), .int x5, .ref 19], (W_Mo gm))) 4 rfl ?_
              refine sv_Q.g (σ' := (155, [some (.ref 0), none, none, some (.int x3), some (.int x4), some (.int x5)], [], (W_Mo (sa gm 19 x5 (vp_nar .boolean (1 : Int32)))))) (c := sv_in x5 24) rfl (fun c27 => ?_)
              refine sv_Q.go (fun gm_28 => (155, [some (.ref 0), none, none, some (.int x3), some (.int x4), some (.int x5)], [], (W_Mo gm_28))) (fun gm_28 => ?_)
              refine sv_Q.s (σ' := (86, [some (.ref 0), none, none, some (.int x3), some (.int x4), some (.int (x5 + (1 : Int32)))], [], (W_Mo gm_28))) 2 rfl ?_
              exact ih x3 x4 (x5 + (1 : Int32)) gm_28
def L_Mo_hang_74 (N : Nat) : Nat → Int32 → Int32 → (Nat → Nat → Int32) → Option ((Nat → Nat → Int32))
  | 0, _, _, _ => none
  | n + 1, x3, x4, gm => (if (gm 0 6) ≤ x4 then (some gm) else (Option.bind (L_Mo_hang_86 N N x3 x4 (0 : Int32) gm) fun (v29 : (Nat → Nat → Int32)) => (L_Mo_hang_74 N n x3 (x4 + (1 : Int32)) v29)))
set_option maxHeartbeats 4000000 in
set_option maxRecDepth 100000 in
theorem l_Mo_hang_74 {X : Nat × (Nat → Int32)} (N : Nat) : ∀ (n : Nat) (x3 : Int32) (x4 : Int32) (gm : Nat → Nat → Int32), sv_Q X 5 M_Mo_hang (74, [some (.ref 0), none, none, some (.int x3), some (.int x4), none], [], (W_Mo gm)) (L_Mo_hang_74 N n x3 x4 gm) (fun v σ' => σ' = (167, [some (.ref 0), none, none, some (.int x3), none, none], [], (W_Mo v))) := by
  intro n
  induction n with
  | zero => intro x3 x4 gm; unfold L_Mo_hang_74; exact sv_Q.non
  | succ n ih =>
    intro x3 x4 gm
    unfold L_Mo_hang_74
    refine sv_Q.s (σ' := (80, [some (.ref 0), none, none, some (.int x3), some (.int x4), none], [.int (gm 0 6), .int x4], (W_Mo gm))) 3 rfl ?_
    refine sv_Q.b rfl (fun c14 => ?_) (fun c14 => ?_)
    · refine sv_Q.f (lo' := [some (.ref 0), none, none, some (.int x3), none, none]) ⟨rfl, ⟨rfl, trivial⟩⟩ ?_
      exact sv_Q.z rfl
    · refine sv_Q.s (σ' := (86, [some (.ref 0), none, none, some (.int x3), some (.int x4), some (.int (0 : Int32))], [], (W_Mo gm))) 2 rfl ?_
      refine sv_Q.lo (fun v29 => (161, [some (.ref 0), none, none, some (.int x3), some (.int x4), none], [], (W_Mo v29))) (fun v29 => ?_) (l_Mo_hang_86 N N x3 x4 (0 : Int32) gm)
      · refine sv_Q.s (σ' := (74, [some (.ref 0), none, none, some (.int x3), some (.int (x4 + (1 : Int32))), none], [], (W_Mo v29))) 2 rfl ?_
        exact ih x3 (x4 + (1 : Int32)) v29
def L_Mo_hang_172 (N : Nat) : Nat → Int32 → Int32 → Int32 → (Nat → Nat → Int32) → Option (Int32)
  | 0, _, _, _, _ => none
  | n + 1, x2, x3, x4, gm => (if (gm 0 6) ≤ x4 then (some x2) else (if sv_in x4 24 then (if (gm 19 (x4).toNatClampNeg) = 0 then (L_Mo_hang_172 N n (x2 + (0 : Int32)) x3 (x4 + (1 : Int32)) gm) else (L_Mo_hang_172 N n (x2 + (1 : Int32)) x3 (x4 + (1 : Int32)) gm)) else none))
set_option maxHeartbeats 4000000 in
set_option maxRecDepth 100000 in
theorem l_Mo_hang_172 {X : Nat × (Nat → Int32)} (N : Nat) : ∀ (n : Nat) (x2 : Int32) (x3 : Int32) (x4 : Int32) (gm : Nat → Nat → Int32), sv_Q X 5 M_Mo_hang (172, [some (.ref 0), none, some (.int x2), some (.int x3), some (.int x4), none], [], (W_Mo gm)) (L_Mo_hang_172 N n x2 x3 x4 gm) (fun v σ' => σ' = (205, [some (.ref 0), none, some (.int v), some (.int x3), none, none], [], (W_Mo gm))) := by
  intro n
  induction n with
  | zero => intro x2 x3 x4 gm; unfold L_Mo_hang_172; exact sv_Q.non
  | succ n ih =>
    intro x2 x3 x4 gm
    unfold L_Mo_hang_172
    refine sv_Q.s (σ' := (178, [some (.ref 0), none, some (.int x2), some (.int x3), some (.int x4), none], [.int (gm 0 6), .int x4], (W_Mo gm))) 3 rfl ?_
    refine sv_Q.b rfl (fun c31 => ?_) (fun c31 => ?_)
    · refine sv_Q.f (lo' := [some (.ref 0), none, some (.int x2), some (.int x3), none, none]) ⟨rfl, ⟨rfl, ⟨rfl, trivial⟩⟩⟩ ?_
      exact sv_Q.z rfl
    · refine sv_Q.s (σ' := (188, [some (.ref 0), none, some (.int x2), some (.int x3), some (.int x4), none], [.int x4, .ref 19, .int x2], (W_Mo gm))) 4 rfl ?_
      refine sv_Q.g (σ' := (189, [some (.ref 0), none, some (.int x2), some (.int x3), some (.int x4), none], [.int (gm 19 (x4).toNatClampNeg), .int x2], (W_Mo gm))) (c := sv_in x4 24) rfl (fun c32 => ?_)
      refine sv_Q.b rfl (fun c33 => ?_) (fun c33 => ?_)
      · refine sv_Q.s (σ' := (172, [some (.ref 0), none, some (.int (x2 + (0 : Int32))), some (.int x3), some (.int (x4 + (1 : Int32))), none], [], (W_Mo gm))) 5 rfl ?_
        exact ih (x2 + (0 : Int32)) x3 (x4 + (1 : Int32)) gm
      · refine sv_Q.s (σ' := (172, [some (.ref 0), none, some (.int (x2 + (1 : Int32))), some (.int x3), some (.int (x4 + (1 : Int32))), none], [], (W_Mo gm))) 6 rfl ?_
        exact ih (x2 + (1 : Int32)) x3 (x4 + (1 : Int32)) gm
def L_Mo_hang_64 (N : Nat) : Nat → Int32 → Int32 → (Nat → Nat → Int32) → Option (Int32 × (Nat → Nat → Int32))
  | 0, _, _, _ => none
  | n + 1, x2, x3, gm => (if x2 = x3 then (some (x2, gm)) else (Option.bind (L_Mo_hang_74 N N x2 (0 : Int32) gm) fun (v30 : (Nat → Nat → Int32)) => (Option.bind (L_Mo_hang_172 N N (0 : Int32) x2 (0 : Int32) v30) fun (v34 : Int32) => (L_Mo_hang_64 N n v34 x2 v30))))
set_option maxHeartbeats 4000000 in
set_option maxRecDepth 100000 in
theorem l_Mo_hang_64 {X : Nat × (Nat → Int32)} (N : Nat) : ∀ (n : Nat) (x2 : Int32) (x3 : Int32) (gm : Nat → Nat → Int32), sv_Q X 5 M_Mo_hang (64, [some (.ref 0), none, some (.int x2), some (.int x3), none, none], [], (W_Mo gm)) (L_Mo_hang_64 N n x2 x3 gm) (fun v σ' => σ' = (208, [none, none, some (.int v.1), none, none, none], [], (W_Mo v.2))) := by
  intro n
  induction n with
  | zero => intro x2 x3 gm; unfold L_Mo_hang_64; exact sv_Q.non
  | succ n ih =>
    intro x2 x3 gm
    unfold L_Mo_hang_64
    refine sv_Q.s (σ' := (66, [some (.ref 0), none, some (.int x2), some (.int x3), none, none], [.int x3, .int x2], (W_Mo gm))) 2 rfl ?_
    refine sv_Q.b rfl (fun c13 => ?_) (fun c13 => ?_)
    · refine sv_Q.f (lo' := [none, none, some (.int x2), none, none, none]) ⟨rfl, trivial⟩ ?_
      exact sv_Q.z rfl
    · refine sv_Q.s (σ' := (74, [some (.ref 0), none, some (.int x2), some (.int x2), some (.int (0 : Int32)), none], [], (W_Mo gm))) 4 rfl ?_
      refine sv_Q.f (lo' := [some (.ref 0), none, none, some (.int x2), some (.int (0 : Int32)), none]) ⟨rfl, ⟨rfl, ⟨rfl, trivial⟩⟩⟩ ?_
      refine sv_Q.lo (fun v30 => (167, [some (.ref 0), none, none, some (.int x2), none, none], [], (W_Mo v30))) (fun v30 => ?_) (l_Mo_hang_74 N N x2 (0 : Int32) gm)
      · refine sv_Q.s (σ' := (172, [some (.ref 0), none, some (.int (0 : Int32)), some (.int x2), some (.int (0 : Int32)), none], [], (W_Mo v30))) 4 rfl ?_
        refine sv_Q.lo (fun v34 => (205, [some (.ref 0), none, some (.int v34), some (.int x2), none, none], [], (W_Mo v30))) (fun v34 => ?_) (l_Mo_hang_172 N N (0 : Int32) x2 (0 : Int32) v30)
        · refine sv_Q.s (σ' := (64, [some (.ref 0), none, some (.int v34), some (.int x2), none, none], [], (W_Mo v30))) 1 rfl ?_
          exact ih v34 x2 v30
def F_Mo_hang (N : Nat) (a0 : Int32) (gm : Nat → Nat → Int32) : Option (Int32 × (Nat → Nat → Int32)) := (Option.bind (F_Mo_isPlace N a0 gm) fun (v1 : Int32) => (if ¬ v1 = 0 then (if sv_in a0 144 then (if ¬ (gm 8 (a0).toNatClampNeg) = (-1 : Int32) then (Option.bind (L_Mo_hang_25 N N a0 (0 : Int32) gm) fun (v12 : (Nat → Nat → Int32)) => (Option.bind (L_Mo_hang_64 N N (0 : Int32) (-1 : Int32) v12) fun (v35 : Int32 × (Nat → Nat → Int32)) => (some (v35.1, v35.2)))) else (some ((-1 : Int32), gm))) else none) else (some ((-2 : Int32), gm))))
set_option maxHeartbeats 4000000 in
set_option maxRecDepth 100000 in
theorem r_Mo_hang {X : Nat × (Nat → Int32)} (N : Nat) (gm : Nat → Nat → Int32) (a0 : Int32) : ∀ x, (F_Mo_hang N a0 gm) = some x → sv_R X 6 M_Mo_hang [.ref 0, .int a0] (W_Mo gm) (some (.int x.1)) (W_Mo x.2) := by
  refine sv_Q.R (res := (fun (x : Int32 × (Nat → Nat → Int32)) => (some (.int x.1), (W_Mo x.2)))) g_Mo_hang rfl ?_
  unfold F_Mo_hang
  refine sv_Q.s (σ' := (2, [some (.ref 0), some (.int a0), none, none, none, none], [.int a0, .ref 0], (W_Mo gm))) 2 rfl ?_
  refine sv_Q.o (fun v1 e2 => ?_)
  refine sv_Q.V (b := 0) (av := [.int a0]) (ps := [0, 1, 2, 3, 4, 5, 6, 7, 8, 9, 10, 11, 12, 13, 14, 15, 16, 17, 18, 19, 20, 21, 22]) (rest := []) (cs1 := (W_Mo gm)) (cs2 := (W_Mo gm)) (st' := [.int v1]) (cs' := (W_Mo gm)) (q := (2, .null, 0, 0, 0)) lk_Mo_289 (r_Mo_isPlace N gm a0 v1 e2) rfl rfl rfl rfl rfl (Or.inl ⟨12, _, _, rfl, rfl, rfl⟩) rfl rfl (sc_Mo_Mo_0 gm) rfl rfl (pc_Mo_Mo_0 gm gm) ?_
  refine sv_Q.b rfl (fun c3 => ?_) (fun c3 => ?_)
  · refine sv_Q.s (σ' := (16, [some (.ref 0), some (.int a0), none, none, none, none], [.int a0, .ref 8], (W_Mo gm))) 3 rfl ?_
    refine sv_Q.g (σ' := (17, [some (.ref 0), some (.int a0), none, none, none, none], [.int (gm 8 (a0).toNatClampNeg)], (W_Mo gm))) (c := sv_in a0 144) rfl (fun c4 => ?_)
    refine sv_Q.s (σ' := (18, [some (.ref 0), some (.int a0), none, none, none, none], [.int (-1 : Int32), .int (gm 8 (a0).toNatClampNeg)], (W_Mo gm))) 1 rfl ?_
    refine sv_Q.b rfl (fun c5 => ?_) (fun c5 => ?_)
    · refine sv_Q.s (σ' := (25, [some (.ref 0), some (.int a0), some (.int (0 : Int32)), none, none, none], [], (W_Mo gm))) 2 rfl ?_
      refine sv_Q.lo (fun v12 => (60, [some (.ref 0), none, none, none, none, none], [], (W_Mo v12))) (fun v12 => ?_) (l_Mo_hang_25 N N a0 (0 : Int32) gm)
      · refine sv_Q.s (σ' := (64, [some (.ref 0), none, some (.int (0 : Int32)), some (.int (-1 : Int32)), none, none], [], (W_Mo v12))) 4 rfl ?_
        refine sv_Q.lo (fun v35 => (208, [none, none, some (.int v35.1), none, none, none], [], (W_Mo v35.2))) (fun v35 => ?_) (l_Mo_hang_64 N N (0 : Int32) (-1 : Int32) v12)
        · refine sv_Q.s (σ' := (209, [none, none, some (.int v35.1), none, none, none], [.int v35.1], (W_Mo v35.2))) 1 rfl ?_
          exact sv_Q.z ⟨True, rfl, trivial, rfl⟩
    · refine sv_Q.s (σ' := (22, [some (.ref 0), some (.int a0), none, none, none, none], [.int (-1 : Int32)], (W_Mo gm))) 1 rfl ?_
      exact sv_Q.z ⟨True, rfl, trivial, rfl⟩
  · refine sv_Q.s (σ' := (10, [some (.ref 0), some (.int a0), none, none, none, none], [.int (-2 : Int32)], (W_Mo gm))) 1 rfl ?_
    exact sv_Q.z ⟨True, rfl, trivial, rfl⟩
def L_Mo_looseness_6 (N : Nat) : Nat → Int32 → Int32 → Int32 → Int32 → (Nat → Nat → Int32) → Option (Int32)
  | 0, _, _, _, _, _ => none
  | n + 1, x1, x2, x3, x4, gm => (if (gm 0 6) ≤ x4 then (some x3) else (if x4 = x1 then (L_Mo_looseness_6 N n x1 x2 x3 (x4 + (1 : Int32)) gm) else (if sv_in x4 24 then (if (gm 7 (x4).toNatClampNeg) = (-1 : Int32) then (L_Mo_looseness_6 N n x1 x2 x3 (x4 + (1 : Int32)) gm) else (if sv_in x4 24 then (if sv_in x1 24 then (Option.bind (F_Mo_apartOf N (gm 4 (x4).toNatClampNeg) (gm 4 (x1).toNatClampNeg) gm) fun (v7 : Int32) => (if v7 = 0 then (L_Mo_looseness_6 N n x1 x2 x3 (x4 + (1 : Int32)) gm) else (if sv_in x4 24 then (Option.bind (F_Mo_betweenOf N x2 (gm 7 (x4).toNatClampNeg) (1 : Int32) gm) fun (v11 : Int32) => (L_Mo_looseness_6 N n x1 x2 (if v11 < x3 then v11 else x3) (x4 + (1 : Int32)) gm)) else none))) else none) else none)) else none)))
set_option maxHeartbeats 4000000 in
set_option maxRecDepth 100000 in
theorem l_Mo_looseness_6 {X : Nat × (Nat → Int32)} (N : Nat) : ∀ (n : Nat) (x1 : Int32) (x2 : Int32) (x3 : Int32) (x4 : Int32) (gm : Nat → Nat → Int32), sv_Q X 4 M_Mo_looseness (6, [some (.ref 0), some (.int x1), some (.int x2), some (.int x3), some (.int x4)], [], (W_Mo gm)) (L_Mo_looseness_6 N n x1 x2 x3 x4 gm) (fun v σ' => σ' = (76, [none, none, none, some (.int v), none], [], (W_Mo gm))) := by
  intro n
  induction n with
  | zero => intro x1 x2 x3 x4 gm; unfold L_Mo_looseness_6; exact sv_Q.non
  | succ n ih =>
    intro x1 x2 x3 x4 gm
    unfold L_Mo_looseness_6
    refine sv_Q.s (σ' := (12, [some (.ref 0), some (.int x1), some (.int x2), some (.int x3), some (.int x4)], [.int (gm 0 6), .int x4], (W_Mo gm))) 3 rfl ?_
    refine sv_Q.b rfl (fun c1 => ?_) (fun c1 => ?_)
    · refine sv_Q.f (lo' := [none, none, none, some (.int x3), none]) ⟨rfl, trivial⟩ ?_
      exact sv_Q.z rfl
    · refine sv_Q.s (σ' := (18, [some (.ref 0), some (.int x1), some (.int x2), some (.int x3), some (.int x4)], [.int x1, .int x4], (W_Mo gm))) 2 rfl ?_
      refine sv_Q.b rfl (fun c2 => ?_) (fun c2 => ?_)
      · refine sv_Q.s (σ' := (6, [some (.ref 0), some (.int x1), some (.int x2), some (.int x3), some (.int (x4 + (1 : Int32)))], [], (W_Mo gm))) 2 rfl ?_
        exact ih x1 x2 x3 (x4 + (1 : Int32)) gm
      · refine sv_Q.s (σ' := (27, [some (.ref 0), some (.int x1), some (.int x2), some (.int x3), some (.int x4)], [.int x4, .ref 7], (W_Mo gm))) 3 rfl ?_
        refine sv_Q.g (σ' := (28, [some (.ref 0), some (.int x1), some (.int x2), some (.int x3), some (.int x4)], [.int (gm 7 (x4).toNatClampNeg)], (W_Mo gm))) (c := sv_in x4 24) rfl (fun c3 => ?_)
        refine sv_Q.s (σ' := (29, [some (.ref 0), some (.int x1), some (.int x2), some (.int x3), some (.int x4)], [.int (-1 : Int32), .int (gm 7 (x4).toNatClampNeg)], (W_Mo gm))) 1 rfl ?_
        refine sv_Q.b rfl (fun c4 => ?_) (fun c4 => ?_)
        · refine sv_Q.s (σ' := (6, [some (.ref 0), some (.int x1), some (.int x2), some (.int x3), some (.int (x4 + (1 : Int32)))], [], (W_Mo gm))) 2 rfl ?_
          exact ih x1 x2 x3 (x4 + (1 : Int32)) gm
        · refine sv_Q.s (σ' := (39, [some (.ref 0), some (.int x1), some (.int x2), some (.int x3), some (.int x4)], [.int x4, .ref 4, .ref 0], (W_Mo gm))) 4 rfl ?_
          refine sv_Q.g (σ' := (40, [some (.ref 0), some (.int x1), some (.int x2), some (.int x3), some (.int x4)], [.int (gm 4 (x4).toNatClampNeg), .ref 0], (W_Mo gm))) (c := sv_in x4 24) rfl (fun c5 => ?_)
          refine sv_Q.s (σ' := (45, [some (.ref 0), some (.int x1), some (.int x2), some (.int x3), some (.int x4)], [.int x1, .ref 4, .int (gm 4 (x4).toNatClampNeg), .ref 0], (W_Mo gm))) 3 rfl ?_
          refine sv_Q.g (σ' := (46, [some (.ref 0), some (.int x1), some (.int x2), some (.int x3), some (.int x4)], [.int (gm 4 (x1).toNatClampNeg), .int (gm 4 (x4).toNatClampNeg), .ref 0], (W_Mo gm))) (c := sv_in x1 24) rfl (fun c6 => ?_)
          refine sv_Q.o (fun v7 e8 => ?_)
          refine sv_Q.V (b := 0) (av := [.int (gm 4 (x4).toNatClampNeg), .int (gm 4 (x1).toNatClampNeg)]) (ps := [0, 1, 2, 3, 4, 5, 6, 7, 8, 9, 10, 11, 12, 13, 14, 15, 16, 17, 18, 19, 20, 21, 22]) (rest := []) (cs1 := (W_Mo gm)) (cs2 := (W_Mo gm)) (st' := [.int v7]) (cs' := (W_Mo gm)) (q := (46, .null, 0, 0, 0)) lk_Mo_283 (r_Mo_apartOf N gm (gm 4 (x4).toNatClampNeg) (gm 4 (x1).toNatClampNeg) v7 e8) rfl rfl rfl rfl rfl (Or.inl ⟨12, _, _, rfl, rfl, rfl⟩) rfl rfl (sc_Mo_Mo_0 gm) rfl rfl (pc_Mo_Mo_0 gm gm) ?_
          refine sv_Q.b rfl (fun c9 => ?_) (fun c9 => ?_)
          · refine sv_Q.s (σ' := (6, [some (.ref 0), some (.int x1), some (.int x2), some (.int x3), some (.int (x4 + (1 : Int32)))], [], (W_Mo gm))) 2 rfl ?_
            exact ih x1 x2 x3 (x4 + (1 : Int32)) gm
          · refine sv_Q.s (σ' := (61, [some (.ref 0), some (.int x1), some (.int x2), some (.int x3), some (.int x4)], [.int x4, .ref 7, .int x2, .ref 0, .int x3], (W_Mo gm))) 6 rfl ?_
            refine sv_Q.g (σ' := (62, [some (.ref 0), some (.int x1), some (.int x2), some (.int x3), some (.int x4)], [.int (gm 7 (x4).toNatClampNeg), .int x2, .ref 0, .int x3], (W_Mo gm))) (c := sv_in x4 24) rfl (fun c10 => ?_)
            refine sv_Q.s (σ' := (63, [some (.ref 0), some (.int x1), some (.int x2), some (.int x3), some (.int x4)], [.int (1 : Int32), .int (gm 7 (x4).toNatClampNeg), .int x2, .ref 0, .int x3], (W_Mo gm))) 1 rfl ?_
            refine sv_Q.o (fun v11 e12 => ?_)
            refine sv_Q.V (b := 0) (av := [.int x2, .int (gm 7 (x4).toNatClampNeg), .int (1 : Int32)]) (ps := [0, 1, 2, 3, 4, 5, 6, 7, 8, 9, 10, 11, 12, 13, 14, 15, 16, 17, 18, 19, 20, 21, 22]) (rest := [.int x3]) (cs1 := (W_Mo gm)) (cs2 := (W_Mo gm)) (st' := [.int v11, .int x3]) (cs' := (W_Mo gm)) (q := (63, .null, 0, 0, 0)) lk_Mo_308 (r_Mo_betweenOf N gm x2 (gm 7 (x4).toNatClampNeg) (1 : Int32) v11 e12) rfl rfl rfl rfl rfl (Or.inl ⟨12, _, _, rfl, rfl, rfl⟩) rfl rfl (sc_Mo_Mo_0 gm) rfl rfl (pc_Mo_Mo_0 gm gm) ?_
            refine sv_Q.s (σ' := (6, [some (.ref 0), some (.int x1), some (.int x2), some (.int (if v11 < x3 then v11 else x3)), some (.int (x4 + (1 : Int32)))], [], (W_Mo gm))) 4 rfl ?_
            exact ih x1 x2 (if v11 < x3 then v11 else x3) (x4 + (1 : Int32)) gm
def F_Mo_looseness (N : Nat) (a0 : Int32) (a1 : Int32) (gm : Nat → Nat → Int32) : Option (Int32) := (Option.bind (L_Mo_looseness_6 N N a0 a1 (99 : Int32) (0 : Int32) gm) fun (v13 : Int32) => (some v13))
set_option maxHeartbeats 4000000 in
set_option maxRecDepth 100000 in
theorem r_Mo_looseness {X : Nat × (Nat → Int32)} (N : Nat) (gm : Nat → Nat → Int32) (a0 : Int32) (a1 : Int32) : ∀ x, (F_Mo_looseness N a0 a1 gm) = some x → sv_R X 5 M_Mo_looseness [.ref 0, .int a0, .int a1] (W_Mo gm) (some (.int x)) (W_Mo gm) := by
  refine sv_Q.R (res := (fun (x : Int32) => (some (.int x), (W_Mo gm)))) g_Mo_looseness rfl ?_
  unfold F_Mo_looseness
  refine sv_Q.s (σ' := (6, [some (.ref 0), some (.int a0), some (.int a1), some (.int (99 : Int32)), some (.int (0 : Int32))], [], (W_Mo gm))) 4 rfl ?_
  refine sv_Q.lo (fun v13 => (76, [none, none, none, some (.int v13), none], [], (W_Mo gm))) (fun v13 => ?_) (l_Mo_looseness_6 N N a0 a1 (99 : Int32) (0 : Int32) gm)
  · refine sv_Q.s (σ' := (77, [none, none, none, some (.int v13), none], [.int v13], (W_Mo gm))) 1 rfl ?_
    exact sv_Q.z ⟨True, rfl, trivial, rfl⟩
def L_Mo_loosest_15 (N : Nat) : Nat → Int32 → Int32 → Int32 → (Nat → Nat → Int32) → Option (Int32)
  | 0, _, _, _, _ => none
  | n + 1, x1, x2, x3, gm => (Option.bind (F_Mo_places N gm) fun (v2 : Int32) => (if v2 ≤ x3 then (some x2) else (Option.bind (F_Mo_whyBox N x1 x3 gm) fun (v5 : Int32) => (if v5 = 0 then (if x2 = (-1 : Int32) then (L_Mo_loosest_15 N n x1 x3 (x3 + (1 : Int32)) gm) else (Option.bind (F_Mo_looseness N x1 x3 gm) fun (v9 : Int32) => (Option.bind (F_Mo_looseness N x1 x2 gm) fun (v11 : Int32) => (if v9 ≤ v11 then (L_Mo_loosest_15 N n x1 x2 (x3 + (1 : Int32)) gm) else (L_Mo_loosest_15 N n x1 x3 (x3 + (1 : Int32)) gm))))) else (L_Mo_loosest_15 N n x1 x2 (x3 + (1 : Int32)) gm)))))
set_option maxHeartbeats 4000000 in
set_option maxRecDepth 100000 in
theorem l_Mo_loosest_15 {X : Nat × (Nat → Int32)} (N : Nat) : ∀ (n : Nat) (x1 : Int32) (x2 : Int32) (x3 : Int32) (gm : Nat → Nat → Int32), sv_Q X 9 M_Mo_loosest (15, [some (.ref 0), some (.int x1), some (.int x2), some (.int x3)], [], (W_Mo gm)) (L_Mo_loosest_15 N n x1 x2 x3 gm) (fun v σ' => σ' = (63, [none, none, some (.int v), none], [], (W_Mo gm))) := by
  intro n
  induction n with
  | zero => intro x1 x2 x3 gm; unfold L_Mo_loosest_15; exact sv_Q.non
  | succ n ih =>
    intro x1 x2 x3 gm
    unfold L_Mo_loosest_15
    refine sv_Q.s (σ' := (17, [some (.ref 0), some (.int x1), some (.int x2), some (.int x3)], [.ref 0, .int x3], (W_Mo gm))) 2 rfl ?_
    refine sv_Q.o (fun v2 e3 => ?_)
    refine sv_Q.V (b := 0) (av := []) (ps := [0, 1, 2, 3, 4, 5, 6, 7, 8, 9, 10, 11, 12, 13, 14, 15, 16, 17, 18, 19, 20, 21, 22]) (rest := [.int x3]) (cs1 := (W_Mo gm)) (cs2 := (W_Mo gm)) (st' := [.int v2, .int x3]) (cs' := (W_Mo gm)) (q := (17, .null, 0, 0, 0)) lk_Mo_254 (r_Mo_places N gm v2 e3) rfl rfl rfl rfl rfl (Or.inl ⟨12, _, _, rfl, rfl, rfl⟩) rfl rfl (sc_Mo_Mo_0 gm) rfl rfl (pc_Mo_Mo_0 gm gm) ?_
    refine sv_Q.b rfl (fun c4 => ?_) (fun c4 => ?_)
    · refine sv_Q.f (lo' := [none, none, some (.int x2), none]) ⟨rfl, trivial⟩ ?_
      exact sv_Q.z rfl
    · refine sv_Q.s (σ' := (26, [some (.ref 0), some (.int x1), some (.int x2), some (.int x3)], [.int x3, .int x1, .ref 0], (W_Mo gm))) 3 rfl ?_
      refine sv_Q.o (fun v5 e6 => ?_)
      refine sv_Q.V (b := 0) (av := [.int x1, .int x3]) (ps := [0, 1, 2, 3, 4, 5, 6, 7, 8, 9, 10, 11, 12, 13, 14, 15, 16, 17, 18, 19, 20, 21, 22]) (rest := []) (cs1 := (W_Mo gm)) (cs2 := (W_Mo gm)) (st' := [.int v5]) (cs' := (W_Mo gm)) (q := (26, .null, 0, 0, 0)) lk_Mo_337 (r_Mo_whyBox N gm x1 x3 v5 e6) rfl rfl rfl rfl rfl (Or.inl ⟨12, _, _, rfl, rfl, rfl⟩) rfl rfl (sc_Mo_Mo_0 gm) rfl rfl (pc_Mo_Mo_0 gm gm) ?_
      refine sv_Q.b rfl (fun c7 => ?_) (fun c7 => ?_)
      · refine sv_Q.s (σ' := (37, [some (.ref 0), some (.int x1), some (.int x2), some (.int x3)], [.int (-1 : Int32), .int x2], (W_Mo gm))) 2 rfl ?_
        refine sv_Q.b rfl (fun c8 => ?_) (fun c8 => ?_)
        · refine sv_Q.s (σ' := (15, [some (.ref 0), some (.int x1), some (.int x3), some (.int (x3 + (1 : Int32)))], [], (W_Mo gm))) 4 rfl ?_
          exact ih x1 x3 (x3 + (1 : Int32)) gm
        · refine sv_Q.s (σ' := (43, [some (.ref 0), some (.int x1), some (.int x2), some (.int x3)], [.int x3, .int x1, .ref 0], (W_Mo gm))) 3 rfl ?_
          refine sv_Q.o (fun v9 e10 => ?_)
          refine sv_Q.V (b := 0) (av := [.int x1, .int x3]) (ps := [0, 1, 2, 3, 4, 5, 6, 7, 8, 9, 10, 11, 12, 13, 14, 15, 16, 17, 18, 19, 20, 21, 22]) (rest := []) (cs1 := (W_Mo gm)) (cs2 := (W_Mo gm)) (st' := [.int v9]) (cs' := (W_Mo gm)) (q := (43, .null, 0, 0, 0)) lk_Mo_463 (r_Mo_looseness N gm x1 x3 v9 e10) rfl rfl rfl rfl rfl (Or.inl ⟨12, _, _, rfl, rfl, rfl⟩) rfl rfl (sc_Mo_Mo_0 gm) rfl rfl (pc_Mo_Mo_0 gm gm) ?_
          refine sv_Q.s (σ' := (49, [some (.ref 0), some (.int x1), some (.int x2), some (.int x3)], [.int x2, .int x1, .ref 0, .int v9], (W_Mo gm))) 3 rfl ?_
          refine sv_Q.o (fun v11 e12 => ?_)
          refine sv_Q.V (b := 0) (av := [.int x1, .int x2]) (ps := [0, 1, 2, 3, 4, 5, 6, 7, 8, 9, 10, 11, 12, 13, 14, 15, 16, 17, 18, 19, 20, 21, 22]) (rest := [.int v9]) (cs1 := (W_Mo gm)) (cs2 := (W_Mo gm)) (st' := [.int v11, .int v9]) (cs' := (W_Mo gm)) (q := (49, .null, 0, 0, 0)) lk_Mo_463 (r_Mo_looseness N gm x1 x2 v11 e12) rfl rfl rfl rfl rfl (Or.inl ⟨12, _, _, rfl, rfl, rfl⟩) rfl rfl (sc_Mo_Mo_0 gm) rfl rfl (pc_Mo_Mo_0 gm gm) ?_
          refine sv_Q.b rfl (fun c13 => ?_) (fun c13 => ?_)
          · refine sv_Q.s (σ' := (15, [some (.ref 0), some (.int x1), some (.int x2), some (.int (x3 + (1 : Int32)))], [], (W_Mo gm))) 2 rfl ?_
            exact ih x1 x2 (x3 + (1 : Int32)) gm
          · refine sv_Q.s (σ' := (15, [some (.ref 0), some (.int x1), some (.int x3), some (.int (x3 + (1 : Int32)))], [], (W_Mo gm))) 4 rfl ?_
            exact ih x1 x3 (x3 + (1 : Int32)) gm
      · refine sv_Q.s (σ' := (15, [some (.ref 0), some (.int x1), some (.int x2), some (.int (x3 + (1 : Int32)))], [], (W_Mo gm))) 3 rfl ?_
        exact ih x1 x2 (x3 + (1 : Int32)) gm
def F_Mo_loosest (N : Nat) (a0 : Int32) (gm : Nat → Nat → Int32) : Option (Int32) := (if ¬ (F_Mo_isBox a0 gm) = 0 then (Option.bind (L_Mo_loosest_15 N N a0 (-1 : Int32) (0 : Int32) gm) fun (v14 : Int32) => (some v14)) else (some (-2 : Int32)))
set_option maxHeartbeats 4000000 in
set_option maxRecDepth 100000 in
theorem r_Mo_loosest {X : Nat × (Nat → Int32)} (N : Nat) (gm : Nat → Nat → Int32) (a0 : Int32) : ∀ x, (F_Mo_loosest N a0 gm) = some x → sv_R X 10 M_Mo_loosest [.ref 0, .int a0] (W_Mo gm) (some (.int x)) (W_Mo gm) := by
  refine sv_Q.R (res := (fun (x : Int32) => (some (.int x), (W_Mo gm)))) g_Mo_loosest rfl ?_
  unfold F_Mo_loosest
  refine sv_Q.s (σ' := (2, [some (.ref 0), some (.int a0), none, none], [.int a0, .ref 0], (W_Mo gm))) 2 rfl ?_
  refine sv_Q.V (b := 0) (av := [.int a0]) (ps := [0, 1, 2, 3, 4, 5, 6, 7, 8, 9, 10, 11, 12, 13, 14, 15, 16, 17, 18, 19, 20, 21, 22]) (rest := []) (cs1 := (W_Mo gm)) (cs2 := (W_Mo gm)) (st' := [.int (F_Mo_isBox a0 gm)]) (cs' := (W_Mo gm)) (q := (2, .null, 0, 0, 0)) lk_Mo_286 (t_Mo_isBox gm a0) rfl rfl rfl rfl rfl (Or.inl ⟨12, _, _, rfl, rfl, rfl⟩) rfl rfl (sc_Mo_Mo_0 gm) rfl rfl (pc_Mo_Mo_0 gm gm) ?_
  refine sv_Q.b rfl (fun c1 => ?_) (fun c1 => ?_)
  · refine sv_Q.s (σ' := (15, [some (.ref 0), some (.int a0), some (.int (-1 : Int32)), some (.int (0 : Int32))], [], (W_Mo gm))) 4 rfl ?_
    refine sv_Q.lo (fun v14 => (63, [none, none, some (.int v14), none], [], (W_Mo gm))) (fun v14 => ?_) (l_Mo_loosest_15 N N a0 (-1 : Int32) (0 : Int32) gm)
    · refine sv_Q.s (σ' := (64, [none, none, some (.int v14), none], [.int v14], (W_Mo gm))) 1 rfl ?_
      exact sv_Q.z ⟨True, rfl, trivial, rfl⟩
  · refine sv_Q.s (σ' := (10, [some (.ref 0), some (.int a0), none, none], [.int (-2 : Int32)], (W_Mo gm))) 1 rfl ?_
    exact sv_Q.z ⟨True, rfl, trivial, rfl⟩
def L_Mo_comesBack_3 (N : Nat) : Nat → Int32 → Int32 → Int32 → Int32 → (Nat → Nat → Int32) → Option (Int32)
  | 0, _, _, _, _, _ => none
  | n + 1, x1, x2, x3, x4, gm => (if x2 ≤ x4 then (some x4) else (if sv_in (x1 + x4) 144 then (if (gm 21 ((x1 + x4)).toNatClampNeg) = (-1 : Int32) then (L_Mo_comesBack_3 N n x1 x2 x3 (x4 + (1 : Int32)) gm) else (if sv_in (x1 + x4) 144 then (if sv_in (gm 21 ((x1 + x4)).toNatClampNeg) 24 then (if (gm 6 ((gm 21 ((x1 + x4)).toNatClampNeg)).toNatClampNeg) = x3 then (some x4) else (L_Mo_comesBack_3 N n x1 x2 x3 (x4 + (1 : Int32)) gm)) else none) else none)) else none))
set_option maxHeartbeats 4000000 in
set_option maxRecDepth 100000 in
theorem l_Mo_comesBack_3 {X : Nat × (Nat → Int32)} (N : Nat) : ∀ (n : Nat) (x1 : Int32) (x2 : Int32) (x3 : Int32) (x4 : Int32) (gm : Nat → Nat → Int32), sv_Q X 0 M_Mo_comesBack (3, [some (.ref 0), some (.int x1), some (.int x2), some (.int x3), some (.int x4), none, none, none], [], (W_Mo gm)) (L_Mo_comesBack_3 N n x1 x2 x3 x4 gm) (fun v σ' => σ' = (46, [some (.ref 0), some (.int x1), some (.int x2), some (.int x3), some (.int v), none, none, none], [], (W_Mo gm))) := by
  intro n
  induction n with
  | zero => intro x1 x2 x3 x4 gm; unfold L_Mo_comesBack_3; exact sv_Q.non
  | succ n ih =>
    intro x1 x2 x3 x4 gm
    unfold L_Mo_comesBack_3
    refine sv_Q.s (σ' := (6, [some (.ref 0), some (.int x1), some (.int x2), some (.int x3), some (.int x4), none, none, none], [.int x2, .int x4], (W_Mo gm))) 2 rfl ?_
    refine sv_Q.b rfl (fun c1 => ?_) (fun c1 => ?_)
    · exact sv_Q.z rfl
    · refine sv_Q.s (σ' := (17, [some (.ref 0), some (.int x1), some (.int x2), some (.int x3), some (.int x4), none, none, none], [.int (x1 + x4), .ref 21], (W_Mo gm))) 5 rfl ?_
      refine sv_Q.g (σ' := (18, [some (.ref 0), some (.int x1), some (.int x2), some (.int x3), some (.int x4), none, none, none], [.int (gm 21 ((x1 + x4)).toNatClampNeg)], (W_Mo gm))) (c := sv_in (x1 + x4) 144) rfl (fun c2 => ?_)
      refine sv_Q.s (σ' := (19, [some (.ref 0), some (.int x1), some (.int x2), some (.int x3), some (.int x4), none, none, none], [.int (-1 : Int32), .int (gm 21 ((x1 + x4)).toNatClampNeg)], (W_Mo gm))) 1 rfl ?_
      refine sv_Q.b rfl (fun c3 => ?_) (fun c3 => ?_)
      · refine sv_Q.s (σ' := (3, [some (.ref 0), some (.int x1), some (.int x2), some (.int x3), some (.int (x4 + (1 : Int32))), none, none, none], [], (W_Mo gm))) 2 rfl ?_
        exact ih x1 x2 x3 (x4 + (1 : Int32)) gm
      · refine sv_Q.s (σ' := (34, [some (.ref 0), some (.int x1), some (.int x2), some (.int x3), some (.int x4), none, none, none], [.int (x1 + x4), .ref 21, .ref 6], (W_Mo gm))) 7 rfl ?_
        refine sv_Q.g (σ' := (35, [some (.ref 0), some (.int x1), some (.int x2), some (.int x3), some (.int x4), none, none, none], [.int (gm 21 ((x1 + x4)).toNatClampNeg), .ref 6], (W_Mo gm))) (c := sv_in (x1 + x4) 144) rfl (fun c4 => ?_)
        refine sv_Q.g (σ' := (36, [some (.ref 0), some (.int x1), some (.int x2), some (.int x3), some (.int x4), none, none, none], [.int (gm 6 ((gm 21 ((x1 + x4)).toNatClampNeg)).toNatClampNeg)], (W_Mo gm))) (c := sv_in (gm 21 ((x1 + x4)).toNatClampNeg) 24) rfl (fun c5 => ?_)
        refine sv_Q.s (σ' := (37, [some (.ref 0), some (.int x1), some (.int x2), some (.int x3), some (.int x4), none, none, none], [.int x3, .int (gm 6 ((gm 21 ((x1 + x4)).toNatClampNeg)).toNatClampNeg)], (W_Mo gm))) 1 rfl ?_
        refine sv_Q.b rfl (fun c6 => ?_) (fun c6 => ?_)
        · exact sv_Q.z rfl
        · refine sv_Q.s (σ' := (3, [some (.ref 0), some (.int x1), some (.int x2), some (.int x3), some (.int (x4 + (1 : Int32))), none, none, none], [], (W_Mo gm))) 2 rfl ?_
          exact ih x1 x2 x3 (x4 + (1 : Int32)) gm
def L_Mo_comesBack_61 (N : Nat) : Nat → Int32 → Int32 → Int32 → Int32 → Int32 → Int32 → (Nat → Nat → Int32) → Option (Int32 × (Nat → Nat → Int32))
  | 0, _, _, _, _, _, _, _ => none
  | n + 1, x1, x2, x3, x4, x5, x6, gm => (if x2 ≤ x6 then (some (x5, gm)) else (if sv_in (x1 + x6) 144 then (if sv_in (x1 + x6) 144 then (sv_let (sa gm 21 (x1 + x6) (-1 : Int32)) fun (gm_12 : Nat → Nat → Int32) => (if (gm 21 ((x1 + x6)).toNatClampNeg) = (-1 : Int32) then (L_Mo_comesBack_61 N n x1 x2 x3 x4 x5 (x6 + (1 : Int32)) gm_12) else (if sv_in (gm 21 ((x1 + x6)).toNatClampNeg) 24 then (if ¬ (gm_12 6 ((gm 21 ((x1 + x6)).toNatClampNeg)).toNatClampNeg) = x3 then (if sv_in x5 3 then (sv_let (sa gm_12 20 x5 (gm 21 ((x1 + x6)).toNatClampNeg)) fun (gm_17 : Nat → Nat → Int32) => (L_Mo_comesBack_61 N n x1 x2 x3 x4 (x5 + (1 : Int32)) (x6 + (1 : Int32)) gm_17)) else none) else (L_Mo_comesBack_61 N n x1 x2 x3 x4 x5 (x6 + (1 : Int32)) gm_12)) else none))) else none) else none))
set_option maxHeartbeats 4000000 in
set_option maxRecDepth 100000 in
theorem l_Mo_comesBack_61 {X : Nat × (Nat → Int32)} (N : Nat) : ∀ (n : Nat) (x1 : Int32) (x2 : Int32) (x3 : Int32) (x4 : Int32) (x5 : Int32) (x6 : Int32) (gm : Nat → Nat → Int32), sv_Q X 0 M_Mo_comesBack (61, [some (.ref 0), some (.int x1), some (.int x2), some (.int x3), some (.int x4), some (.int x5), some (.int x6), none], [], (W_Mo gm)) (L_Mo_comesBack_61 N n x1 x2 x3 x4 x5 x6 gm) (fun v σ' => σ' = (126, [some (.ref 0), some (.int x1), none, none, some (.int x4), some (.int v.1), none, none], [], (W_Mo v.2))) := by
  intro n
  induction n with
  | zero => intro x1 x2 x3 x4 x5 x6 gm; unfold L_Mo_comesBack_61; exact sv_Q.non
  | succ n ih =>
    intro x1 x2 x3 x4 x5 x6 gm
    unfold L_Mo_comesBack_61
    refine sv_Q.s (σ' := (64, [some (.ref 0), some (.int x1), some (.int x2), some (.int x3), some (.int x4), some (.int x5), some (.int x6), none], [.int x2, .int x6], (W_Mo gm))) 2 rfl ?_
    refine sv_Q.b rfl (fun c9 => ?_) (fun c9 => ?_)
    · refine sv_Q.f (lo' := [some (.ref 0), some (.int x1), none, none, some (.int x4), some (.int x5), none, none]) ⟨rfl, ⟨rfl, ⟨rfl, ⟨rfl, trivial⟩⟩⟩⟩ ?_
      exact sv_Q.z rfl
    · refine sv_Q.s (σ' := (75, [some (.ref 0), some (.int x1), some (.int x2), some (.int x3), some (.int x4), some (.int x5), some (.int x6), none], [.int (x1 + x6), .ref 21], (W_Mo gm))) 5 rfl ?_
      refine sv_Q.g (σ' := (76, [some (.ref 0), some (.int x1), some (.int x2), some (.int x3), some (.int x4), some (.int x5), some (.int x6), none], [.int (gm 21 ((x1 + x6)).toNatClampNeg)], (W_Mo gm))) (c := sv_in (x1 + x6) 144) rfl (fun c10 => ?_)
      refine sv_Q.s (σ' := (87, [some (.ref 0), some (.int x1), some (.int x2), some (.int x3), some (.int x4), some (.int x5), some (.int x6), some (.int (gm 21 ((x1 + x6)).toNatClampNeg))], [.int (-1 : Int32), .int (x1 + x6), .ref 21], (W_Mo gm))) 7 rfl ?_
      refine sv_Q.g (σ' := (88, [some (.ref 0), some (.int x1), some (.int x2), some (.int x3), some (.int x4), some (.int x5), some (.int x6), some (.int (gm 21 ((x1 + x6)).toNatClampNeg))], [], (W_Mo (sa gm 21 (x1 + x6) (-1 : Int32))))) (c := sv_in (x1 + x6) 144) rfl (fun c11 => ?_)
      refine sv_Q.go (fun gm_12 => (88, [some (.ref 0), some (.int x1), some (.int x2), some (.int x3), some (.int x4), some (.int x5), some (.int x6), some (.int (gm 21 ((x1 + x6)).toNatClampNeg))], [], (W_Mo gm_12))) (fun gm_12 => ?_)
      refine sv_Q.s (σ' := (91, [some (.ref 0), some (.int x1), some (.int x2), some (.int x3), some (.int x4), some (.int x5), some (.int x6), some (.int (gm 21 ((x1 + x6)).toNatClampNeg))], [.int (-1 : Int32), .int (gm 21 ((x1 + x6)).toNatClampNeg)], (W_Mo gm_12))) 2 rfl ?_
      refine sv_Q.b rfl (fun c13 => ?_) (fun c13 => ?_)
      · refine sv_Q.s (σ' := (61, [some (.ref 0), some (.int x1), some (.int x2), some (.int x3), some (.int x4), some (.int x5), some (.int (x6 + (1 : Int32))), some (.int (gm 21 ((x1 + x6)).toNatClampNeg))], [], (W_Mo gm_12))) 2 rfl ?_
        refine sv_Q.f (lo' := [some (.ref 0), some (.int x1), some (.int x2), some (.int x3), some (.int x4), some (.int x5), some (.int (x6 + (1 : Int32))), none]) ⟨rfl, ⟨rfl, ⟨rfl, ⟨rfl, ⟨rfl, ⟨rfl, ⟨rfl, trivial⟩⟩⟩⟩⟩⟩⟩ ?_
        exact ih x1 x2 x3 x4 x5 (x6 + (1 : Int32)) gm_12
      · refine sv_Q.s (σ' := (100, [some (.ref 0), some (.int x1), some (.int x2), some (.int x3), some (.int x4), some (.int x5), some (.int x6), some (.int (gm 21 ((x1 + x6)).toNatClampNeg))], [.int (gm 21 ((x1 + x6)).toNatClampNeg), .ref 6], (W_Mo gm_12))) 3 rfl ?_
        refine sv_Q.g (σ' := (101, [some (.ref 0), some (.int x1), some (.int x2), some (.int x3), some (.int x4), some (.int x5), some (.int x6), some (.int (gm 21 ((x1 + x6)).toNatClampNeg))], [.int (gm_12 6 ((gm 21 ((x1 + x6)).toNatClampNeg)).toNatClampNeg)], (W_Mo gm_12))) (c := sv_in (gm 21 ((x1 + x6)).toNatClampNeg) 24) rfl (fun c14 => ?_)
        refine sv_Q.s (σ' := (102, [some (.ref 0), some (.int x1), some (.int x2), some (.int x3), some (.int x4), some (.int x5), some (.int x6), some (.int (gm 21 ((x1 + x6)).toNatClampNeg))], [.int x3, .int (gm_12 6 ((gm 21 ((x1 + x6)).toNatClampNeg)).toNatClampNeg)], (W_Mo gm_12))) 1 rfl ?_
        refine sv_Q.b rfl (fun c15 => ?_) (fun c15 => ?_)
        · refine sv_Q.s (σ' := (116, [some (.ref 0), some (.int x1), some (.int x2), some (.int x3), some (.int x4), some (.int x5), some (.int x6), some (.int (gm 21 ((x1 + x6)).toNatClampNeg))], [.int (gm 21 ((x1 + x6)).toNatClampNeg), .int x5, .ref 20], (W_Mo gm_12))) 4 rfl ?_
          refine sv_Q.g (σ' := (117, [some (.ref 0), some (.int x1), some (.int x2), some (.int x3), some (.int x4), some (.int x5), some (.int x6), some (.int (gm 21 ((x1 + x6)).toNatClampNeg))], [], (W_Mo (sa gm_12 20 x5 (gm 21 ((x1 + x6)).toNatClampNeg))))) (c := sv_in x5 3) rfl (fun c16 => ?_)
          refine sv_Q.go (fun gm_17 => (117, [some (.ref 0), some (.int x1), some (.int x2), some (.int x3), some (.int x4), some (.int x5), some (.int x6), some (.int (gm 21 ((x1 + x6)).toNatClampNeg))], [], (W_Mo gm_17))) (fun gm_17 => ?_)
          refine sv_Q.s (σ' := (61, [some (.ref 0), some (.int x1), some (.int x2), some (.int x3), some (.int x4), some (.int (x5 + (1 : Int32))), some (.int (x6 + (1 : Int32))), some (.int (gm 21 ((x1 + x6)).toNatClampNeg))], [], (W_Mo gm_17))) 3 rfl ?_
          refine sv_Q.f (lo' := [some (.ref 0), some (.int x1), some (.int x2), some (.int x3), some (.int x4), some (.int (x5 + (1 : Int32))), some (.int (x6 + (1 : Int32))), none]) ⟨rfl, ⟨rfl, ⟨rfl, ⟨rfl, ⟨rfl, ⟨rfl, ⟨rfl, trivial⟩⟩⟩⟩⟩⟩⟩ ?_
          exact ih x1 x2 x3 x4 (x5 + (1 : Int32)) (x6 + (1 : Int32)) gm_17
        · refine sv_Q.s (σ' := (61, [some (.ref 0), some (.int x1), some (.int x2), some (.int x3), some (.int x4), some (.int x5), some (.int (x6 + (1 : Int32))), some (.int (gm 21 ((x1 + x6)).toNatClampNeg))], [], (W_Mo gm_12))) 3 rfl ?_
          refine sv_Q.f (lo' := [some (.ref 0), some (.int x1), some (.int x2), some (.int x3), some (.int x4), some (.int x5), some (.int (x6 + (1 : Int32))), none]) ⟨rfl, ⟨rfl, ⟨rfl, ⟨rfl, ⟨rfl, ⟨rfl, ⟨rfl, trivial⟩⟩⟩⟩⟩⟩⟩ ?_
          exact ih x1 x2 x3 x4 x5 (x6 + (1 : Int32)) gm_12
def L_Mo_comesBack_129 (N : Nat) : Nat → Int32 → Int32 → Int32 → Int32 → (Nat → Nat → Int32) → Option ((Nat → Nat → Int32))
  | 0, _, _, _, _, _ => none
  | n + 1, x1, x4, x5, x6, gm => (if x5 ≤ x6 then (some gm) else (if sv_in x6 3 then (if sv_in ((x1 + x4) + x6) 144 then (sv_let (sa gm 21 ((x1 + x4) + x6) (gm 20 (x6).toNatClampNeg)) fun (gm_22 : Nat → Nat → Int32) => (L_Mo_comesBack_129 N n x1 x4 x5 (x6 + (1 : Int32)) gm_22)) else none) else none))
set_option maxHeartbeats 4000000 in
set_option maxRecDepth 100000 in
theorem l_Mo_comesBack_129 {X : Nat × (Nat → Int32)} (N : Nat) : ∀ (n : Nat) (x1 : Int32) (x4 : Int32) (x5 : Int32) (x6 : Int32) (gm : Nat → Nat → Int32), sv_Q X 0 M_Mo_comesBack (129, [some (.ref 0), some (.int x1), none, none, some (.int x4), some (.int x5), some (.int x6), none], [], (W_Mo gm)) (L_Mo_comesBack_129 N n x1 x4 x5 x6 gm) (fun v σ' => σ' = (161, [none, none, none, none, none, some (.int x5), none, none], [], (W_Mo v))) := by
  intro n
  induction n with
  | zero => intro x1 x4 x5 x6 gm; unfold L_Mo_comesBack_129; exact sv_Q.non
  | succ n ih =>
    intro x1 x4 x5 x6 gm
    unfold L_Mo_comesBack_129
    refine sv_Q.s (σ' := (133, [some (.ref 0), some (.int x1), none, none, some (.int x4), some (.int x5), some (.int x6), none], [.int x5, .int x6], (W_Mo gm))) 2 rfl ?_
    refine sv_Q.b rfl (fun c19 => ?_) (fun c19 => ?_)
    · refine sv_Q.f (lo' := [none, none, none, none, none, some (.int x5), none, none]) ⟨rfl, trivial⟩ ?_
      exact sv_Q.z rfl
    · refine sv_Q.s (σ' := (153, [some (.ref 0), some (.int x1), none, none, some (.int x4), some (.int x5), some (.int x6), none], [.int x6, .ref 20, .int ((x1 + x4) + x6), .ref 21], (W_Mo gm))) 10 rfl ?_
      refine sv_Q.g (σ' := (154, [some (.ref 0), some (.int x1), none, none, some (.int x4), some (.int x5), some (.int x6), none], [.int (gm 20 (x6).toNatClampNeg), .int ((x1 + x4) + x6), .ref 21], (W_Mo gm))) (c := sv_in x6 3) rfl (fun c20 => ?_)
      refine sv_Q.g (σ' := (155, [some (.ref 0), some (.int x1), none, none, some (.int x4), some (.int x5), some (.int x6), none], [], (W_Mo (sa gm 21 ((x1 + x4) + x6) (gm 20 (x6).toNatClampNeg))))) (c := sv_in ((x1 + x4) + x6) 144) rfl (fun c21 => ?_)
      refine sv_Q.go (fun gm_22 => (155, [some (.ref 0), some (.int x1), none, none, some (.int x4), some (.int x5), some (.int x6), none], [], (W_Mo gm_22))) (fun gm_22 => ?_)
      refine sv_Q.s (σ' := (129, [some (.ref 0), some (.int x1), none, none, some (.int x4), some (.int x5), some (.int (x6 + (1 : Int32))), none], [], (W_Mo gm_22))) 2 rfl ?_
      exact ih x1 x4 x5 (x6 + (1 : Int32)) gm_22
def F_Mo_comesBack (N : Nat) (a0 : Int32) (a1 : Int32) (a2 : Int32) (gm : Nat → Nat → Int32) : Option (Int32 × (Nat → Nat → Int32)) := (Option.bind (L_Mo_comesBack_3 N N a0 a1 a2 (0 : Int32) gm) fun (v7 : Int32) => (if ¬ v7 = a1 then (Option.bind (L_Mo_comesBack_61 N N a0 a1 a2 v7 (0 : Int32) v7 gm) fun (v18 : Int32 × (Nat → Nat → Int32)) => (Option.bind (L_Mo_comesBack_129 N N a0 v7 v18.1 (0 : Int32) v18.2) fun (v23 : (Nat → Nat → Int32)) => (some (v18.1, v23)))) else (some ((0 : Int32), gm))))
set_option maxHeartbeats 4000000 in
set_option maxRecDepth 100000 in
theorem r_Mo_comesBack {X : Nat × (Nat → Int32)} (N : Nat) (gm : Nat → Nat → Int32) (a0 : Int32) (a1 : Int32) (a2 : Int32) : ∀ x, (F_Mo_comesBack N a0 a1 a2 gm) = some x → sv_R X 1 M_Mo_comesBack [.ref 0, .int a0, .int a1, .int a2] (W_Mo gm) (some (.int x.1)) (W_Mo x.2) := by
  refine sv_Q.R (res := (fun (x : Int32 × (Nat → Nat → Int32)) => (some (.int x.1), (W_Mo x.2)))) g_Mo_comesBack rfl ?_
  unfold F_Mo_comesBack
  refine sv_Q.s (σ' := (3, [some (.ref 0), some (.int a0), some (.int a1), some (.int a2), some (.int (0 : Int32)), none, none, none], [], (W_Mo gm))) 2 rfl ?_
  refine sv_Q.lo (fun v7 => (46, [some (.ref 0), some (.int a0), some (.int a1), some (.int a2), some (.int v7), none, none, none], [], (W_Mo gm))) (fun v7 => ?_) (l_Mo_comesBack_3 N N a0 a1 a2 (0 : Int32) gm)
  · refine sv_Q.s (σ' := (49, [some (.ref 0), some (.int a0), some (.int a1), some (.int a2), some (.int v7), none, none, none], [.int a1, .int v7], (W_Mo gm))) 2 rfl ?_
    refine sv_Q.b rfl (fun c8 => ?_) (fun c8 => ?_)
    · refine sv_Q.s (σ' := (61, [some (.ref 0), some (.int a0), some (.int a1), some (.int a2), some (.int v7), some (.int (0 : Int32)), some (.int v7), none], [], (W_Mo gm))) 4 rfl ?_
      refine sv_Q.lo (fun v18 => (126, [some (.ref 0), some (.int a0), none, none, some (.int v7), some (.int v18.1), none, none], [], (W_Mo v18.2))) (fun v18 => ?_) (l_Mo_comesBack_61 N N a0 a1 a2 v7 (0 : Int32) v7 gm)
      · refine sv_Q.s (σ' := (129, [some (.ref 0), some (.int a0), none, none, some (.int v7), some (.int v18.1), some (.int (0 : Int32)), none], [], (W_Mo v18.2))) 2 rfl ?_
        refine sv_Q.lo (fun v23 => (161, [none, none, none, none, none, some (.int v18.1), none, none], [], (W_Mo v23))) (fun v23 => ?_) (l_Mo_comesBack_129 N N a0 v7 v18.1 (0 : Int32) v18.2)
        · refine sv_Q.s (σ' := (163, [none, none, none, none, none, some (.int v18.1), none, none], [.int v18.1], (W_Mo v23))) 1 rfl ?_
          exact sv_Q.z ⟨True, rfl, trivial, rfl⟩
    · refine sv_Q.s (σ' := (53, [some (.ref 0), some (.int a0), some (.int a1), some (.int a2), some (.int v7), none, none, none], [.int (0 : Int32)], (W_Mo gm))) 1 rfl ?_
      exact sv_Q.z ⟨True, rfl, trivial, rfl⟩
def L_Mo_atPort_4 (N : Nat) : Nat → Int32 → Int32 → Int32 → (Nat → Nat → Int32) → Option (Int32 × (Nat → Nat → Int32))
  | 0, _, _, _, _ => none
  | n + 1, x1, x2, x3, gm => (Option.bind (F_Mo_places N gm) fun (v1 : Int32) => (if v1 ≤ x3 then (some (x2, gm)) else (Option.bind (F_Mo_lowestOf N x3 gm) fun (v4 : Int32) => (if ¬ x3 = v4 then (L_Mo_atPort_4 N n x1 (x2 + (0 : Int32)) (x3 + (1 : Int32)) gm) else (Option.bind (F_Mo_highOf N x3 gm) fun (v7 : Int32) => (Option.bind (F_Mo_comesBack N x3 v7 x1 gm) fun (v9 : Int32 × (Nat → Nat → Int32)) => (L_Mo_atPort_4 N n x1 (x2 + v9.1) (x3 + (1 : Int32)) v9.2)))))))
set_option maxHeartbeats 4000000 in
set_option maxRecDepth 100000 in
theorem l_Mo_atPort_4 {X : Nat × (Nat → Int32)} (N : Nat) : ∀ (n : Nat) (x1 : Int32) (x2 : Int32) (x3 : Int32) (gm : Nat → Nat → Int32), sv_Q X 4 M_Mo_atPort (4, [some (.ref 0), some (.int x1), some (.int x2), some (.int x3)], [], (W_Mo gm)) (L_Mo_atPort_4 N n x1 x2 x3 gm) (fun v σ' => σ' = (45, [none, none, some (.int v.1), none], [], (W_Mo v.2))) := by
  intro n
  induction n with
  | zero => intro x1 x2 x3 gm; unfold L_Mo_atPort_4; exact sv_Q.non
  | succ n ih =>
    intro x1 x2 x3 gm
    unfold L_Mo_atPort_4
    refine sv_Q.s (σ' := (6, [some (.ref 0), some (.int x1), some (.int x2), some (.int x3)], [.ref 0, .int x3], (W_Mo gm))) 2 rfl ?_
    refine sv_Q.o (fun v1 e2 => ?_)
    refine sv_Q.V (b := 0) (av := []) (ps := [0, 1, 2, 3, 4, 5, 6, 7, 8, 9, 10, 11, 12, 13, 14, 15, 16, 17, 18, 19, 20, 21, 22]) (rest := [.int x3]) (cs1 := (W_Mo gm)) (cs2 := (W_Mo gm)) (st' := [.int v1, .int x3]) (cs' := (W_Mo gm)) (q := (6, .null, 0, 0, 0)) lk_Mo_254 (r_Mo_places N gm v1 e2) rfl rfl rfl rfl rfl (Or.inl ⟨12, _, _, rfl, rfl, rfl⟩) rfl rfl (sc_Mo_Mo_0 gm) rfl rfl (pc_Mo_Mo_0 gm gm) ?_
    refine sv_Q.b rfl (fun c3 => ?_) (fun c3 => ?_)
    · refine sv_Q.f (lo' := [none, none, some (.int x2), none]) ⟨rfl, trivial⟩ ?_
      exact sv_Q.z rfl
    · refine sv_Q.s (σ' := (16, [some (.ref 0), some (.int x1), some (.int x2), some (.int x3)], [.int x3, .ref 0, .int x3, .int x2], (W_Mo gm))) 4 rfl ?_
      refine sv_Q.o (fun v4 e5 => ?_)
      refine sv_Q.V (b := 0) (av := [.int x3]) (ps := [0, 1, 2, 3, 4, 5, 6, 7, 8, 9, 10, 11, 12, 13, 14, 15, 16, 17, 18, 19, 20, 21, 22]) (rest := [.int x3, .int x2]) (cs1 := (W_Mo gm)) (cs2 := (W_Mo gm)) (st' := [.int v4, .int x3, .int x2]) (cs' := (W_Mo gm)) (q := (16, .null, 0, 0, 0)) lk_Mo_318 (r_Mo_lowestOf N gm x3 v4 e5) rfl rfl rfl rfl rfl (Or.inl ⟨12, _, _, rfl, rfl, rfl⟩) rfl rfl (sc_Mo_Mo_0 gm) rfl rfl (pc_Mo_Mo_0 gm gm) ?_
      refine sv_Q.b rfl (fun c6 => ?_) (fun c6 => ?_)
      · refine sv_Q.s (σ' := (4, [some (.ref 0), some (.int x1), some (.int (x2 + (0 : Int32))), some (.int (x3 + (1 : Int32)))], [], (W_Mo gm))) 5 rfl ?_
        exact ih x1 (x2 + (0 : Int32)) (x3 + (1 : Int32)) gm
      · refine sv_Q.s (σ' := (26, [some (.ref 0), some (.int x1), some (.int x2), some (.int x3)], [.int x3, .ref 0, .int x3, .ref 0, .int x2], (W_Mo gm))) 4 rfl ?_
        refine sv_Q.o (fun v7 e8 => ?_)
        refine sv_Q.V (b := 0) (av := [.int x3]) (ps := [0, 1, 2, 3, 4, 5, 6, 7, 8, 9, 10, 11, 12, 13, 14, 15, 16, 17, 18, 19, 20, 21, 22]) (rest := [.int x3, .ref 0, .int x2]) (cs1 := (W_Mo gm)) (cs2 := (W_Mo gm)) (st' := [.int v7, .int x3, .ref 0, .int x2]) (cs' := (W_Mo gm)) (q := (26, .null, 0, 0, 0)) lk_Mo_321 (r_Mo_highOf N gm x3 v7 e8) rfl rfl rfl rfl rfl (Or.inl ⟨12, _, _, rfl, rfl, rfl⟩) rfl rfl (sc_Mo_Mo_0 gm) rfl rfl (pc_Mo_Mo_0 gm gm) ?_
        refine sv_Q.s (σ' := (30, [some (.ref 0), some (.int x1), some (.int x2), some (.int x3)], [.int x1, .int v7, .int x3, .ref 0, .int x2], (W_Mo gm))) 1 rfl ?_
        refine sv_Q.o (fun v9 e10 => ?_)
        refine sv_Q.V (b := 0) (av := [.int x3, .int v7, .int x1]) (ps := [0, 1, 2, 3, 4, 5, 6, 7, 8, 9, 10, 11, 12, 13, 14, 15, 16, 17, 18, 19, 20, 21, 22]) (rest := [.int x2]) (cs1 := (W_Mo gm)) (cs2 := (W_Mo v9.2)) (st' := [.int v9.1, .int x2]) (cs' := (W_Mo v9.2)) (q := (30, .null, 0, 0, 0)) lk_Mo_466 (r_Mo_comesBack N gm x3 v7 x1 v9 e10) rfl rfl rfl rfl rfl (Or.inl ⟨12, _, _, rfl, rfl, rfl⟩) rfl rfl (sc_Mo_Mo_0 gm) rfl rfl (pc_Mo_Mo_0 gm v9.2) ?_
        refine sv_Q.s (σ' := (4, [some (.ref 0), some (.int x1), some (.int (x2 + v9.1)), some (.int (x3 + (1 : Int32)))], [], (W_Mo v9.2))) 5 rfl ?_
        exact ih x1 (x2 + v9.1) (x3 + (1 : Int32)) v9.2
def F_Mo_atPort (N : Nat) (a0 : Int32) (gm : Nat → Nat → Int32) : Option (Int32 × (Nat → Nat → Int32)) := (Option.bind (L_Mo_atPort_4 N N a0 (0 : Int32) (0 : Int32) gm) fun (v11 : Int32 × (Nat → Nat → Int32)) => (some (v11.1, v11.2)))
set_option maxHeartbeats 4000000 in
set_option maxRecDepth 100000 in
theorem r_Mo_atPort {X : Nat × (Nat → Int32)} (N : Nat) (gm : Nat → Nat → Int32) (a0 : Int32) : ∀ x, (F_Mo_atPort N a0 gm) = some x → sv_R X 5 M_Mo_atPort [.ref 0, .int a0] (W_Mo gm) (some (.int x.1)) (W_Mo x.2) := by
  refine sv_Q.R (res := (fun (x : Int32 × (Nat → Nat → Int32)) => (some (.int x.1), (W_Mo x.2)))) g_Mo_atPort rfl ?_
  unfold F_Mo_atPort
  refine sv_Q.s (σ' := (4, [some (.ref 0), some (.int a0), some (.int (0 : Int32)), some (.int (0 : Int32))], [], (W_Mo gm))) 4 rfl ?_
  refine sv_Q.lo (fun v11 => (45, [none, none, some (.int v11.1), none], [], (W_Mo v11.2))) (fun v11 => ?_) (l_Mo_atPort_4 N N a0 (0 : Int32) (0 : Int32) gm)
  · refine sv_Q.s (σ' := (46, [none, none, some (.int v11.1), none], [.int v11.1], (W_Mo v11.2))) 1 rfl ?_
    exact sv_Q.z ⟨True, rfl, trivial, rfl⟩
