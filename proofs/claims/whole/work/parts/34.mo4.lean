/-! the reference, 4, by program out of the listing -/
def L_Mo_voyage_22 (N : Nat) : Nat → Int32 → Int32 → (Nat → Nat → Int32) → Option ((Nat → Nat → Int32))
  | 0, _, _, _ => none
  | n + 1, x1, x2, gm => (if (144 : Int32) ≤ x2 then (some gm) else (if sv_in x2 144 then (if sv_in x2 144 then (sv_let (sa gm 21 x2 (gm 8 (x2).toNatClampNeg)) fun (gm_6 : Nat → Nat → Int32) => (L_Mo_voyage_22 N n x1 (x2 + (1 : Int32)) gm_6)) else none) else none))
set_option maxHeartbeats 4000000 in
set_option maxRecDepth 100000 in
theorem l_Mo_voyage_22 {X : Nat × (Nat → Int32)} (N : Nat) : ∀ (n : Nat) (x1 : Int32) (x2 : Int32) (gm : Nat → Nat → Int32), sv_Q X 5 M_Mo_voyage (22, [some (.ref 0), some (.int x1), some (.int x2), none, none, none, none], [], (W_Mo gm)) (L_Mo_voyage_22 N n x1 x2 gm) (fun v σ' => σ' = (47, [some (.ref 0), some (.int x1), none, none, none, none, none], [], (W_Mo v))) := by
  intro n
  induction n with
  | zero => intro x1 x2 gm; unfold L_Mo_voyage_22; exact sv_Q.non
  | succ n ih =>
    intro x1 x2 gm
    unfold L_Mo_voyage_22
    refine sv_Q.s (σ' := (26, [some (.ref 0), some (.int x1), some (.int x2), none, none, none, none], [.int (144 : Int32), .int x2], (W_Mo gm))) 2 rfl ?_
    refine sv_Q.b rfl (fun c3 => ?_) (fun c3 => ?_)
    · refine sv_Q.f (lo' := [some (.ref 0), some (.int x1), none, none, none, none, none]) ⟨rfl, ⟨rfl, trivial⟩⟩ ?_
      exact sv_Q.z rfl
    · refine sv_Q.s (σ' := (39, [some (.ref 0), some (.int x1), some (.int x2), none, none, none, none], [.int x2, .ref 8, .int x2, .ref 21], (W_Mo gm))) 6 rfl ?_
      refine sv_Q.g (σ' := (40, [some (.ref 0), some (.int x1), some (.int x2), none, none, none, none], [.int (gm 8 (x2).toNatClampNeg), .int x2, .ref 21], (W_Mo gm))) (c := sv_in x2 144) rfl (fun c4 => ?_)
      refine sv_Q.g (σ' := (41, [some (.ref 0), some (.int x1), some (.int x2), none, none, none, none], [], (W_Mo (sa gm 21 x2 (gm 8 (x2).toNatClampNeg))))) (c := sv_in x2 144) rfl (fun c5 => ?_)
      refine sv_Q.go (fun gm_6 => (41, [some (.ref 0), some (.int x1), some (.int x2), none, none, none, none], [], (W_Mo gm_6))) (fun gm_6 => ?_)
      refine sv_Q.s (σ' := (22, [some (.ref 0), some (.int x1), some (.int (x2 + (1 : Int32))), none, none, none, none], [], (W_Mo gm_6))) 2 rfl ?_
      exact ih x1 (x2 + (1 : Int32)) gm_6
def L_Mo_voyage_57 (N : Nat) : Nat → Int32 → Int32 → Int32 → Int32 → Int32 → (Nat → Nat → Int32) → Option (Int32 × Int32 × (Nat → Nat → Int32))
  | 0, _, _, _, _, _, _ => none
  | n + 1, x1, x2, x3, x4, x5, gm => (if (6 : Int32) ≤ x5 then (some (x2, x4, gm)) else (Option.bind (F_Mo_atPort N x5 gm) fun (v9 : Int32 × (Nat → Nat → Int32)) => (if x3 < v9.1 then (L_Mo_voyage_57 N n x1 (x2 + v9.1) v9.1 x5 (x5 + (1 : Int32)) v9.2) else (L_Mo_voyage_57 N n x1 (x2 + v9.1) x3 x4 (x5 + (1 : Int32)) v9.2))))
set_option maxHeartbeats 4000000 in
set_option maxRecDepth 100000 in
theorem l_Mo_voyage_57 {X : Nat × (Nat → Int32)} (N : Nat) : ∀ (n : Nat) (x1 : Int32) (x2 : Int32) (x3 : Int32) (x4 : Int32) (x5 : Int32) (gm : Nat → Nat → Int32), sv_Q X 5 M_Mo_voyage (57, [some (.ref 0), some (.int x1), some (.int x2), some (.int x3), some (.int x4), some (.int x5), none], [], (W_Mo gm)) (L_Mo_voyage_57 N n x1 x2 x3 x4 x5 gm) (fun v σ' => σ' = (99, [none, some (.int x1), some (.int v.1), none, some (.int v.2.1), none, none], [], (W_Mo v.2.2))) := by
  intro n
  induction n with
  | zero => intro x1 x2 x3 x4 x5 gm; unfold L_Mo_voyage_57; exact sv_Q.non
  | succ n ih =>
    intro x1 x2 x3 x4 x5 gm
    unfold L_Mo_voyage_57
    refine sv_Q.s (σ' := (61, [some (.ref 0), some (.int x1), some (.int x2), some (.int x3), some (.int x4), some (.int x5), none], [.int (6 : Int32), .int x5], (W_Mo gm))) 2 rfl ?_
    refine sv_Q.b rfl (fun c8 => ?_) (fun c8 => ?_)
    · refine sv_Q.f (lo' := [none, some (.int x1), some (.int x2), none, some (.int x4), none, none]) ⟨rfl, ⟨rfl, ⟨rfl, trivial⟩⟩⟩ ?_
      exact sv_Q.z rfl
    · refine sv_Q.s (σ' := (67, [some (.ref 0), some (.int x1), some (.int x2), some (.int x3), some (.int x4), some (.int x5), none], [.int x5, .ref 0], (W_Mo gm))) 2 rfl ?_
      refine sv_Q.o (fun v9 e10 => ?_)
      refine sv_Q.V (b := 0) (av := [.int x5]) (ps := [0, 1, 2, 3, 4, 5, 6, 7, 8, 9, 10, 11, 12, 13, 14, 15, 16, 17, 18, 19, 20, 21, 22]) (rest := []) (cs1 := (W_Mo gm)) (cs2 := (W_Mo v9.2)) (st' := [.int v9.1]) (cs' := (W_Mo v9.2)) (q := (67, .null, 0, 0, 0)) lk_Mo_469 (r_Mo_atPort N gm x5 v9 e10) rfl rfl rfl rfl rfl (Or.inl ⟨12, _, _, rfl, rfl, rfl⟩) rfl rfl (sc_Mo_Mo_0 gm) rfl rfl (pc_Mo_Mo_0 gm v9.2) ?_
      refine sv_Q.s (σ' := (80, [some (.ref 0), some (.int x1), some (.int (x2 + v9.1)), some (.int x3), some (.int x4), some (.int x5), some (.int v9.1)], [.int x3, .int v9.1], (W_Mo v9.2))) 7 rfl ?_
      refine sv_Q.b rfl (fun c11 => ?_) (fun c11 => ?_)
      · refine sv_Q.s (σ' := (57, [some (.ref 0), some (.int x1), some (.int (x2 + v9.1)), some (.int v9.1), some (.int x5), some (.int (x5 + (1 : Int32))), some (.int v9.1)], [], (W_Mo v9.2))) 6 rfl ?_
        refine sv_Q.f (lo' := [some (.ref 0), some (.int x1), some (.int (x2 + v9.1)), some (.int v9.1), some (.int x5), some (.int (x5 + (1 : Int32))), none]) ⟨rfl, ⟨rfl, ⟨rfl, ⟨rfl, ⟨rfl, ⟨rfl, trivial⟩⟩⟩⟩⟩⟩ ?_
        exact ih x1 (x2 + v9.1) v9.1 x5 (x5 + (1 : Int32)) v9.2
      · refine sv_Q.s (σ' := (57, [some (.ref 0), some (.int x1), some (.int (x2 + v9.1)), some (.int x3), some (.int x4), some (.int (x5 + (1 : Int32))), some (.int v9.1)], [], (W_Mo v9.2))) 3 rfl ?_
        refine sv_Q.f (lo' := [some (.ref 0), some (.int x1), some (.int (x2 + v9.1)), some (.int x3), some (.int x4), some (.int (x5 + (1 : Int32))), none]) ⟨rfl, ⟨rfl, ⟨rfl, ⟨rfl, ⟨rfl, ⟨rfl, trivial⟩⟩⟩⟩⟩⟩ ?_
        exact ih x1 (x2 + v9.1) x3 x4 (x5 + (1 : Int32)) v9.2
def F_Mo_voyage (N : Nat) (a0 : Int32) (gm : Nat → Nat → Int32) : Option (Int32 × (Nat → Nat → Int32)) := (if (gm 0 1) = 0 then (some ((-2 : Int32), gm)) else (if ¬ (F_Mo_in ((a0).toInt64) (0 : Int64) (1 : Int64)) = 0 then (Option.bind (L_Mo_voyage_22 N N a0 (0 : Int32) gm) fun (v7 : (Nat → Nat → Int32)) => (Option.bind (L_Mo_voyage_57 N N a0 (0 : Int32) (0 : Int32) (-1 : Int32) (1 : Int32) v7) fun (v12 : Int32 × Int32 × (Nat → Nat → Int32)) => (if ¬ a0 = 0 then (some (v12.2.1, v12.2.2)) else (some (v12.1, v12.2.2))))) else (some ((-2 : Int32), gm))))
set_option maxHeartbeats 4000000 in
set_option maxRecDepth 100000 in
theorem r_Mo_voyage {X : Nat × (Nat → Int32)} (N : Nat) (gm : Nat → Nat → Int32) (a0 : Int32) : ∀ x, (F_Mo_voyage N a0 gm) = some x → sv_R X 6 M_Mo_voyage [.ref 0, .int a0] (W_Mo gm) (some (.int x.1)) (W_Mo x.2) := by
  refine sv_Q.R (res := (fun (x : Int32 × (Nat → Nat → Int32)) => (some (.int x.1), (W_Mo x.2)))) g_Mo_voyage rfl ?_
  unfold F_Mo_voyage
  refine sv_Q.s (σ' := (4, [some (.ref 0), some (.int a0), none, none, none, none, none], [.int (gm 0 1)], (W_Mo gm))) 2 rfl ?_
  refine sv_Q.b rfl (fun c1 => ?_) (fun c1 => ?_)
  · refine sv_Q.s (σ' := (19, [some (.ref 0), some (.int a0), none, none, none, none, none], [.int (-2 : Int32)], (W_Mo gm))) 1 rfl ?_
    exact sv_Q.z ⟨True, rfl, trivial, rfl⟩
  · refine sv_Q.s (σ' := (11, [some (.ref 0), some (.int a0), none, none, none, none, none], [.long (1 : Int64), .long (0 : Int64), .long ((a0).toInt64)], (W_Mo gm))) 4 rfl ?_
    refine sv_Q.S (ps := []) (rest := []) (cs1 := []) (cs2 := []) (st' := [.int (F_Mo_in ((a0).toInt64) (0 : Int64) (1 : Int64))]) (cs' := (W_Mo gm)) (q := (11, .null, 0, 0, 0)) lk_Mo_97 (t_Mo_in ((a0).toInt64) (0 : Int64) (1 : Int64)) rfl rfl rfl rfl rfl rfl rfl rfl rfl rfl (sv_pt_nil _ _) ?_
    refine sv_Q.b rfl (fun c2 => ?_) (fun c2 => ?_)
    · refine sv_Q.s (σ' := (22, [some (.ref 0), some (.int a0), some (.int (0 : Int32)), none, none, none, none], [], (W_Mo gm))) 2 rfl ?_
      refine sv_Q.lo (fun v7 => (47, [some (.ref 0), some (.int a0), none, none, none, none, none], [], (W_Mo v7))) (fun v7 => ?_) (l_Mo_voyage_22 N N a0 (0 : Int32) gm)
      · refine sv_Q.s (σ' := (57, [some (.ref 0), some (.int a0), some (.int (0 : Int32)), some (.int (0 : Int32)), some (.int (-1 : Int32)), some (.int (1 : Int32)), none], [], (W_Mo v7))) 8 rfl ?_
        refine sv_Q.lo (fun v12 => (99, [none, some (.int a0), some (.int v12.1), none, some (.int v12.2.1), none, none], [], (W_Mo v12.2.2))) (fun v12 => ?_) (l_Mo_voyage_57 N N a0 (0 : Int32) (0 : Int32) (-1 : Int32) (1 : Int32) v7)
        · refine sv_Q.s (σ' := (100, [none, some (.int a0), some (.int v12.1), none, some (.int v12.2.1), none, none], [.int a0], (W_Mo v12.2.2))) 1 rfl ?_
          refine sv_Q.b rfl (fun c13 => ?_) (fun c13 => ?_)
          · refine sv_Q.s (σ' := (109, [none, some (.int a0), some (.int v12.1), none, some (.int v12.2.1), none, none], [.int v12.2.1], (W_Mo v12.2.2))) 1 rfl ?_
            exact sv_Q.z ⟨True, rfl, trivial, rfl⟩
          · refine sv_Q.s (σ' := (109, [none, some (.int a0), some (.int v12.1), none, some (.int v12.2.1), none, none], [.int v12.1], (W_Mo v12.2.2))) 2 rfl ?_
            exact sv_Q.z ⟨True, rfl, trivial, rfl⟩
    · refine sv_Q.s (σ' := (19, [some (.ref 0), some (.int a0), none, none, none, none, none], [.int (-2 : Int32)], (W_Mo gm))) 1 rfl ?_
      exact sv_Q.z ⟨True, rfl, trivial, rfl⟩
def L_Mo_clear_21 (N : Nat) : Nat → Int32 → Int32 → Int32 → Int32 → (Nat → Nat → Int32) → Option ((Int32) ⊕ (Int32))
  | 0, _, _, _, _, _ => none
  | n + 1, x1, x2, x3, x4, gm => (Option.bind (F_Mo_places N gm) fun (v5 : Int32) => (if v5 ≤ x4 then (some (.inl x3)) else (if sv_in x4 144 then (if ¬ (gm 8 (x4).toNatClampNeg) = (-1 : Int32) then (L_Mo_clear_21 N n x1 x2 x3 (x4 + (1 : Int32)) gm) else (Option.bind (F_Mo_firstNear N x1 x4 (-1 : Int32) gm) fun (v10 : Int32) => (if v10 = (-1 : Int32) then (if ¬ x3 = x2 then (L_Mo_clear_21 N n x1 x2 (x3 + (1 : Int32)) (x4 + (1 : Int32)) gm) else (some (.inr x4))) else (L_Mo_clear_21 N n x1 x2 x3 (x4 + (1 : Int32)) gm)))) else none)))
set_option maxHeartbeats 4000000 in
set_option maxRecDepth 100000 in
theorem l_Mo_clear_21 {X : Nat × (Nat → Int32)} (N : Nat) : ∀ (n : Nat) (x1 : Int32) (x2 : Int32) (x3 : Int32) (x4 : Int32) (gm : Nat → Nat → Int32), sv_Q X 7 M_Mo_clear (21, [some (.ref 0), some (.int x1), some (.int x2), some (.int x3), some (.int x4)], [], (W_Mo gm)) (L_Mo_clear_21 N n x1 x2 x3 x4 gm) (sv_K2 (fun (v : Int32) => (73, [none, none, some (.int x2), some (.int v), none], [], (W_Mo gm))) (sv_KR M_Mo_clear (fun (x : Int32) => (some (.int x), (W_Mo gm))))) := by
  intro n
  induction n with
  | zero => intro x1 x2 x3 x4 gm; unfold L_Mo_clear_21; exact sv_Q.non
  | succ n ih =>
    intro x1 x2 x3 x4 gm
    unfold L_Mo_clear_21
    refine sv_Q.s (σ' := (24, [some (.ref 0), some (.int x1), some (.int x2), some (.int x3), some (.int x4)], [.ref 0, .int x4], (W_Mo gm))) 2 rfl ?_
    refine sv_Q.o (fun v5 e6 => ?_)
    refine sv_Q.V (b := 0) (av := []) (ps := [0, 1, 2, 3, 4, 5, 6, 7, 8, 9, 10, 11, 12, 13, 14, 15, 16, 17, 18, 19, 20, 21, 22]) (rest := [.int x4]) (cs1 := (W_Mo gm)) (cs2 := (W_Mo gm)) (st' := [.int v5, .int x4]) (cs' := (W_Mo gm)) (q := (24, .null, 0, 0, 0)) lk_Mo_254 (r_Mo_places N gm v5 e6) rfl rfl rfl rfl rfl (Or.inl ⟨12, _, _, rfl, rfl, rfl⟩) rfl rfl (sc_Mo_Mo_0 gm) rfl rfl (pc_Mo_Mo_0 gm gm) ?_
    refine sv_Q.b rfl (fun c7 => ?_) (fun c7 => ?_)
    · refine sv_Q.f (lo' := [none, none, some (.int x2), some (.int x3), none]) ⟨rfl, ⟨rfl, trivial⟩⟩ ?_
      exact sv_Q.z rfl
    · refine sv_Q.s (σ' := (36, [some (.ref 0), some (.int x1), some (.int x2), some (.int x3), some (.int x4)], [.int x4, .ref 8], (W_Mo gm))) 3 rfl ?_
      refine sv_Q.g (σ' := (37, [some (.ref 0), some (.int x1), some (.int x2), some (.int x3), some (.int x4)], [.int (gm 8 (x4).toNatClampNeg)], (W_Mo gm))) (c := sv_in x4 144) rfl (fun c8 => ?_)
      refine sv_Q.s (σ' := (38, [some (.ref 0), some (.int x1), some (.int x2), some (.int x3), some (.int x4)], [.int (-1 : Int32), .int (gm 8 (x4).toNatClampNeg)], (W_Mo gm))) 1 rfl ?_
      refine sv_Q.b rfl (fun c9 => ?_) (fun c9 => ?_)
      · refine sv_Q.s (σ' := (21, [some (.ref 0), some (.int x1), some (.int x2), some (.int x3), some (.int (x4 + (1 : Int32)))], [], (W_Mo gm))) 2 rfl ?_
        exact ih x1 x2 x3 (x4 + (1 : Int32)) gm
      · refine sv_Q.s (σ' := (46, [some (.ref 0), some (.int x1), some (.int x2), some (.int x3), some (.int x4)], [.int (-1 : Int32), .int x4, .int x1, .ref 0], (W_Mo gm))) 4 rfl ?_
        refine sv_Q.o (fun v10 e11 => ?_)
        refine sv_Q.V (b := 0) (av := [.int x1, .int x4, .int (-1 : Int32)]) (ps := [0, 1, 2, 3, 4, 5, 6, 7, 8, 9, 10, 11, 12, 13, 14, 15, 16, 17, 18, 19, 20, 21, 22]) (rest := []) (cs1 := (W_Mo gm)) (cs2 := (W_Mo gm)) (st' := [.int v10]) (cs' := (W_Mo gm)) (q := (46, .null, 0, 0, 0)) lk_Mo_330 (r_Mo_firstNear N gm x1 x4 (-1 : Int32) v10 e11) rfl rfl rfl rfl rfl (Or.inl ⟨12, _, _, rfl, rfl, rfl⟩) rfl rfl (sc_Mo_Mo_0 gm) rfl rfl (pc_Mo_Mo_0 gm gm) ?_
        refine sv_Q.s (σ' := (50, [some (.ref 0), some (.int x1), some (.int x2), some (.int x3), some (.int x4)], [.int (-1 : Int32), .int v10], (W_Mo gm))) 1 rfl ?_
        refine sv_Q.b rfl (fun c12 => ?_) (fun c12 => ?_)
        · refine sv_Q.s (σ' := (58, [some (.ref 0), some (.int x1), some (.int x2), some (.int x3), some (.int x4)], [.int x2, .int x3], (W_Mo gm))) 2 rfl ?_
          refine sv_Q.b rfl (fun c13 => ?_) (fun c13 => ?_)
          · refine sv_Q.s (σ' := (21, [some (.ref 0), some (.int x1), some (.int x2), some (.int (x3 + (1 : Int32))), some (.int (x4 + (1 : Int32)))], [], (W_Mo gm))) 3 rfl ?_
            exact ih x1 x2 (x3 + (1 : Int32)) (x4 + (1 : Int32)) gm
          · refine sv_Q.s (σ' := (63, [some (.ref 0), some (.int x1), some (.int x2), some (.int x3), some (.int x4)], [.int x4], (W_Mo gm))) 1 rfl ?_
            exact sv_Q.z ⟨True, rfl, trivial, rfl⟩
        · refine sv_Q.s (σ' := (21, [some (.ref 0), some (.int x1), some (.int x2), some (.int x3), some (.int (x4 + (1 : Int32)))], [], (W_Mo gm))) 3 rfl ?_
          exact ih x1 x2 x3 (x4 + (1 : Int32)) gm
def F_Mo_clear (N : Nat) (a0 : Int32) (a1 : Int32) (gm : Nat → Nat → Int32) : Option (Int32) := (Option.bind (F_Mo_isKind N a0 gm) fun (v1 : Int32) => (if v1 = 0 then (some (-2 : Int32)) else (if (-1 : Int32) ≤ a1 then (sv_bs (L_Mo_clear_21 N N a0 a1 (0 : Int32) (0 : Int32) gm) id fun (v14 : Int32) => (if ¬ a1 = (-1 : Int32) then (some (-1 : Int32)) else (some v14))) else (some (-2 : Int32)))))
set_option maxHeartbeats 4000000 in
set_option maxRecDepth 100000 in
theorem r_Mo_clear {X : Nat × (Nat → Int32)} (N : Nat) (gm : Nat → Nat → Int32) (a0 : Int32) (a1 : Int32) : ∀ x, (F_Mo_clear N a0 a1 gm) = some x → sv_R X 8 M_Mo_clear [.ref 0, .int a0, .int a1] (W_Mo gm) (some (.int x)) (W_Mo gm) := by
  refine sv_Q.R (res := (fun (x : Int32) => (some (.int x), (W_Mo gm)))) g_Mo_clear rfl ?_
  unfold F_Mo_clear
  refine sv_Q.s (σ' := (2, [some (.ref 0), some (.int a0), some (.int a1), none, none], [.int a0, .ref 0], (W_Mo gm))) 2 rfl ?_
  refine sv_Q.o (fun v1 e2 => ?_)
  refine sv_Q.V (b := 0) (av := [.int a0]) (ps := [0, 1, 2, 3, 4, 5, 6, 7, 8, 9, 10, 11, 12, 13, 14, 15, 16, 17, 18, 19, 20, 21, 22]) (rest := []) (cs1 := (W_Mo gm)) (cs2 := (W_Mo gm)) (st' := [.int v1]) (cs' := (W_Mo gm)) (q := (2, .null, 0, 0, 0)) lk_Mo_280 (r_Mo_isKind N gm a0 v1 e2) rfl rfl rfl rfl rfl (Or.inl ⟨12, _, _, rfl, rfl, rfl⟩) rfl rfl (sc_Mo_Mo_0 gm) rfl rfl (pc_Mo_Mo_0 gm gm) ?_
  refine sv_Q.b rfl (fun c3 => ?_) (fun c3 => ?_)
  · refine sv_Q.s (σ' := (15, [some (.ref 0), some (.int a0), some (.int a1), none, none], [.int (-2 : Int32)], (W_Mo gm))) 1 rfl ?_
    exact sv_Q.z ⟨True, rfl, trivial, rfl⟩
  · refine sv_Q.s (σ' := (10, [some (.ref 0), some (.int a0), some (.int a1), none, none], [.int (-1 : Int32), .int a1], (W_Mo gm))) 2 rfl ?_
    refine sv_Q.b rfl (fun c4 => ?_) (fun c4 => ?_)
    · refine sv_Q.s (σ' := (21, [some (.ref 0), some (.int a0), some (.int a1), some (.int (0 : Int32)), some (.int (0 : Int32))], [], (W_Mo gm))) 4 rfl ?_
      refine sv_Q.bs (l_Mo_clear_21 N N a0 a1 (0 : Int32) (0 : Int32) gm) (fun v14 => ?_) (fun r σ' h => h)
      · refine sv_Q.s (σ' := (75, [none, none, some (.int a1), some (.int v14), none], [.int (-1 : Int32), .int a1], (W_Mo gm))) 2 rfl ?_
        refine sv_Q.b rfl (fun c15 => ?_) (fun c15 => ?_)
        · refine sv_Q.s (σ' := (83, [none, none, some (.int a1), some (.int v14), none], [.int (-1 : Int32)], (W_Mo gm))) 1 rfl ?_
          exact sv_Q.z ⟨True, rfl, trivial, rfl⟩
        · refine sv_Q.s (σ' := (83, [none, none, some (.int a1), some (.int v14), none], [.int v14], (W_Mo gm))) 2 rfl ?_
          exact sv_Q.z ⟨True, rfl, trivial, rfl⟩
    · refine sv_Q.s (σ' := (15, [some (.ref 0), some (.int a0), some (.int a1), none, none], [.int (-2 : Int32)], (W_Mo gm))) 1 rfl ?_
      exact sv_Q.z ⟨True, rfl, trivial, rfl⟩
def F_Mo_changesOver (N : Nat) (a0 : Int32) (a1 : Int32) (gm : Nat → Nat → Int32) : Option (Int32 × (Nat → Nat → Int32)) := (if sv_in a0 24 then (if sv_in a1 24 then (Option.bind (F_Mo_lays N a0 (-1 : Int32) gm) fun (v3 : (Nat → Nat → Int32)) => (Option.bind (F_Mo_lays N a1 (-1 : Int32) v3) fun (v5 : (Nat → Nat → Int32)) => (Option.bind (F_Mo_whyBox N a0 (gm 7 (a1).toNatClampNeg) v5) fun (v7 : Int32) => (Option.bind (if ¬ v7 = 0 then some (v7, v5) else (Option.bind (F_Mo_lays N a0 (gm 7 (a1).toNatClampNeg) v5) fun (v10 : (Nat → Nat → Int32)) => (Option.bind (F_Mo_whyBox N a1 (gm 7 (a0).toNatClampNeg) v10) fun (v12 : Int32) => (sv_let (if ¬ v12 = 0 then ((10 : Int32) + v12) else (0 : Int32)) fun (v15 : Int32) => (if ¬ v15 = 0 then some (v15, v10) else (Option.bind (F_Mo_lays N a1 (gm 7 (a0).toNatClampNeg) v10) fun (v17 : (Nat → Nat → Int32)) => some (v15, v17))))))) fun (v19 : Int32 × (Nat → Nat → Int32)) => (if v19.1 = 0 then (some (v19.1, v19.2)) else (Option.bind (F_Mo_lays N a0 (-1 : Int32) v19.2) fun (v21 : (Nat → Nat → Int32)) => (Option.bind (F_Mo_lays N a0 (gm 7 (a0).toNatClampNeg) v21) fun (v23 : (Nat → Nat → Int32)) => (Option.bind (F_Mo_lays N a1 (gm 7 (a1).toNatClampNeg) v23) fun (v25 : (Nat → Nat → Int32)) => (some (v19.1, v25)))))))))) else none) else none)
set_option maxHeartbeats 4000000 in
set_option maxRecDepth 100000 in
theorem r_Mo_changesOver {X : Nat × (Nat → Int32)} (N : Nat) (gm : Nat → Nat → Int32) (a0 : Int32) (a1 : Int32) : ∀ x, (F_Mo_changesOver N a0 a1 gm) = some x → sv_R X 10 M_Mo_changesOver [.ref 0, .int a0, .int a1] (W_Mo gm) (some (.int x.1)) (W_Mo x.2) := by
  refine sv_Q.R (res := (fun (x : Int32 × (Nat → Nat → Int32)) => (some (.int x.1), (W_Mo x.2)))) g_Mo_changesOver rfl ?_
  unfold F_Mo_changesOver
  refine sv_Q.s (σ' := (5, [some (.ref 0), some (.int a0), some (.int a1), none, none, none, none], [.int a0, .ref 7], (W_Mo gm))) 3 rfl ?_
  refine sv_Q.g (σ' := (6, [some (.ref 0), some (.int a0), some (.int a1), none, none, none, none], [.int (gm 7 (a0).toNatClampNeg)], (W_Mo gm))) (c := sv_in a0 24) rfl (fun c1 => ?_)
  refine sv_Q.s (σ' := (12, [some (.ref 0), some (.int a0), some (.int a1), some (.int (gm 7 (a0).toNatClampNeg)), none, none, none], [.int a1, .ref 7], (W_Mo gm))) 4 rfl ?_
  refine sv_Q.g (σ' := (13, [some (.ref 0), some (.int a0), some (.int a1), some (.int (gm 7 (a0).toNatClampNeg)), none, none, none], [.int (gm 7 (a1).toNatClampNeg)], (W_Mo gm))) (c := sv_in a1 24) rfl (fun c2 => ?_)
  refine sv_Q.s (σ' := (18, [some (.ref 0), some (.int a0), some (.int a1), some (.int (gm 7 (a0).toNatClampNeg)), some (.int (gm 7 (a1).toNatClampNeg)), none, none], [.int (-1 : Int32), .int a0, .ref 0], (W_Mo gm))) 4 rfl ?_
  refine sv_Q.o (fun v3 e4 => ?_)
  refine sv_Q.V (b := 0) (av := [.int a0, .int (-1 : Int32)]) (ps := [0, 1, 2, 3, 4, 5, 6, 7, 8, 9, 10, 11, 12, 13, 14, 15, 16, 17, 18, 19, 20, 21, 22]) (rest := []) (cs1 := (W_Mo gm)) (cs2 := (W_Mo v3)) (st' := []) (cs' := (W_Mo v3)) (q := (18, .null, 0, 0, 0)) lk_Mo_346 (r_Mo_lays N gm a0 (-1 : Int32) v3 e4) rfl rfl rfl rfl rfl (Or.inl ⟨12, _, _, rfl, rfl, rfl⟩) rfl rfl (sc_Mo_Mo_0 gm) rfl rfl (pc_Mo_Mo_0 gm v3) ?_
  refine sv_Q.s (σ' := (24, [some (.ref 0), some (.int a0), some (.int a1), some (.int (gm 7 (a0).toNatClampNeg)), some (.int (gm 7 (a1).toNatClampNeg)), none, none], [.int (-1 : Int32), .int a1, .ref 0], (W_Mo v3))) 3 rfl ?_
  refine sv_Q.o (fun v5 e6 => ?_)
  refine sv_Q.V (b := 0) (av := [.int a1, .int (-1 : Int32)]) (ps := [0, 1, 2, 3, 4, 5, 6, 7, 8, 9, 10, 11, 12, 13, 14, 15, 16, 17, 18, 19, 20, 21, 22]) (rest := []) (cs1 := (W_Mo v3)) (cs2 := (W_Mo v5)) (st' := []) (cs' := (W_Mo v5)) (q := (24, .null, 0, 0, 0)) lk_Mo_346 (r_Mo_lays N v3 a1 (-1 : Int32) v5 e6) rfl rfl rfl rfl rfl (Or.inl ⟨12, _, _, rfl, rfl, rfl⟩) rfl rfl (sc_Mo_Mo_0 v3) rfl rfl (pc_Mo_Mo_0 v3 v5) ?_
  refine sv_Q.s (σ' := (31, [some (.ref 0), some (.int a0), some (.int a1), some (.int (gm 7 (a0).toNatClampNeg)), some (.int (gm 7 (a1).toNatClampNeg)), none, none], [.int (gm 7 (a1).toNatClampNeg), .int a0, .ref 0], (W_Mo v5))) 3 rfl ?_
  refine sv_Q.o (fun v7 e8 => ?_)
  refine sv_Q.V (b := 0) (av := [.int a0, .int (gm 7 (a1).toNatClampNeg)]) (ps := [0, 1, 2, 3, 4, 5, 6, 7, 8, 9, 10, 11, 12, 13, 14, 15, 16, 17, 18, 19, 20, 21, 22]) (rest := []) (cs1 := (W_Mo v5)) (cs2 := (W_Mo v5)) (st' := [.int v7]) (cs' := (W_Mo v5)) (q := (31, .null, 0, 0, 0)) lk_Mo_337 (r_Mo_whyBox N v5 a0 (gm 7 (a1).toNatClampNeg) v7 e8) rfl rfl rfl rfl rfl (Or.inl ⟨12, _, _, rfl, rfl, rfl⟩) rfl rfl (sc_Mo_Mo_0 v5) rfl rfl (pc_Mo_Mo_0 v5 v5) ?_
  refine sv_Q.s (σ' := (38, [some (.ref 0), some (.int a0), some (.int a1), some (.int (gm 7 (a0).toNatClampNeg)), some (.int (gm 7 (a1).toNatClampNeg)), some (.int v7), none], [.int v7], (W_Mo v5))) 2 rfl ?_
  refine sv_Q.lo (fun v19 => (83, [some (.ref 0), some (.int a0), some (.int a1), some (.int (gm 7 (a0).toNatClampNeg)), some (.int (gm 7 (a1).toNatClampNeg)), some (.int v19.1), none], [], (W_Mo v19.2))) (fun v19 => ?_) ?_
  · refine sv_Q.s (σ' := (85, [some (.ref 0), some (.int a0), some (.int a1), some (.int (gm 7 (a0).toNatClampNeg)), some (.int (gm 7 (a1).toNatClampNeg)), some (.int v19.1), none], [.int v19.1], (W_Mo v19.2))) 1 rfl ?_
    refine sv_Q.b rfl (fun c20 => ?_) (fun c20 => ?_)
    · refine sv_Q.s (σ' := (109, [some (.ref 0), some (.int a0), some (.int a1), some (.int (gm 7 (a0).toNatClampNeg)), some (.int (gm 7 (a1).toNatClampNeg)), some (.int v19.1), none], [.int v19.1], (W_Mo v19.2))) 1 rfl ?_
      exact sv_Q.z ⟨True, rfl, trivial, rfl⟩
    · refine sv_Q.s (σ' := (91, [some (.ref 0), some (.int a0), some (.int a1), some (.int (gm 7 (a0).toNatClampNeg)), some (.int (gm 7 (a1).toNatClampNeg)), some (.int v19.1), none], [.int (-1 : Int32), .int a0, .ref 0], (W_Mo v19.2))) 3 rfl ?_
      refine sv_Q.o (fun v21 e22 => ?_)
      refine sv_Q.V (b := 0) (av := [.int a0, .int (-1 : Int32)]) (ps := [0, 1, 2, 3, 4, 5, 6, 7, 8, 9, 10, 11, 12, 13, 14, 15, 16, 17, 18, 19, 20, 21, 22]) (rest := []) (cs1 := (W_Mo v19.2)) (cs2 := (W_Mo v21)) (st' := []) (cs' := (W_Mo v21)) (q := (91, .null, 0, 0, 0)) lk_Mo_346 (r_Mo_lays N v19.2 a0 (-1 : Int32) v21 e22) rfl rfl rfl rfl rfl (Or.inl ⟨12, _, _, rfl, rfl, rfl⟩) rfl rfl (sc_Mo_Mo_0 v19.2) rfl rfl (pc_Mo_Mo_0 v19.2 v21) ?_
      refine sv_Q.s (σ' := (97, [some (.ref 0), some (.int a0), some (.int a1), some (.int (gm 7 (a0).toNatClampNeg)), some (.int (gm 7 (a1).toNatClampNeg)), some (.int v19.1), none], [.int (gm 7 (a0).toNatClampNeg), .int a0, .ref 0], (W_Mo v21))) 3 rfl ?_
      refine sv_Q.o (fun v23 e24 => ?_)
      refine sv_Q.V (b := 0) (av := [.int a0, .int (gm 7 (a0).toNatClampNeg)]) (ps := [0, 1, 2, 3, 4, 5, 6, 7, 8, 9, 10, 11, 12, 13, 14, 15, 16, 17, 18, 19, 20, 21, 22]) (rest := []) (cs1 := (W_Mo v21)) (cs2 := (W_Mo v23)) (st' := []) (cs' := (W_Mo v23)) (q := (97, .null, 0, 0, 0)) lk_Mo_346 (r_Mo_lays N v21 a0 (gm 7 (a0).toNatClampNeg) v23 e24) rfl rfl rfl rfl rfl (Or.inl ⟨12, _, _, rfl, rfl, rfl⟩) rfl rfl (sc_Mo_Mo_0 v21) rfl rfl (pc_Mo_Mo_0 v21 v23) ?_
      refine sv_Q.s (σ' := (104, [some (.ref 0), some (.int a0), some (.int a1), some (.int (gm 7 (a0).toNatClampNeg)), some (.int (gm 7 (a1).toNatClampNeg)), some (.int v19.1), none], [.int (gm 7 (a1).toNatClampNeg), .int a1, .ref 0], (W_Mo v23))) 3 rfl ?_
      refine sv_Q.o (fun v25 e26 => ?_)
      refine sv_Q.V (b := 0) (av := [.int a1, .int (gm 7 (a1).toNatClampNeg)]) (ps := [0, 1, 2, 3, 4, 5, 6, 7, 8, 9, 10, 11, 12, 13, 14, 15, 16, 17, 18, 19, 20, 21, 22]) (rest := []) (cs1 := (W_Mo v23)) (cs2 := (W_Mo v25)) (st' := []) (cs' := (W_Mo v25)) (q := (104, .null, 0, 0, 0)) lk_Mo_346 (r_Mo_lays N v23 a1 (gm 7 (a1).toNatClampNeg) v25 e26) rfl rfl rfl rfl rfl (Or.inl ⟨12, _, _, rfl, rfl, rfl⟩) rfl rfl (sc_Mo_Mo_0 v23) rfl rfl (pc_Mo_Mo_0 v23 v25) ?_
      refine sv_Q.s (σ' := (109, [some (.ref 0), some (.int a0), some (.int a1), some (.int (gm 7 (a0).toNatClampNeg)), some (.int (gm 7 (a1).toNatClampNeg)), some (.int v19.1), none], [.int v19.1], (W_Mo v25))) 1 rfl ?_
      exact sv_Q.z ⟨True, rfl, trivial, rfl⟩
  · refine sv_Q.b rfl (fun c9 => ?_) (fun c9 => ?_)
    · exact sv_Q.z rfl
    · refine sv_Q.s (σ' := (45, [some (.ref 0), some (.int a0), some (.int a1), some (.int (gm 7 (a0).toNatClampNeg)), some (.int (gm 7 (a1).toNatClampNeg)), some (.int v7), none], [.int (gm 7 (a1).toNatClampNeg), .int a0, .ref 0], (W_Mo v5))) 3 rfl ?_
      refine sv_Q.o (fun v10 e11 => ?_)
      refine sv_Q.V (b := 0) (av := [.int a0, .int (gm 7 (a1).toNatClampNeg)]) (ps := [0, 1, 2, 3, 4, 5, 6, 7, 8, 9, 10, 11, 12, 13, 14, 15, 16, 17, 18, 19, 20, 21, 22]) (rest := []) (cs1 := (W_Mo v5)) (cs2 := (W_Mo v10)) (st' := []) (cs' := (W_Mo v10)) (q := (45, .null, 0, 0, 0)) lk_Mo_346 (r_Mo_lays N v5 a0 (gm 7 (a1).toNatClampNeg) v10 e11) rfl rfl rfl rfl rfl (Or.inl ⟨12, _, _, rfl, rfl, rfl⟩) rfl rfl (sc_Mo_Mo_0 v5) rfl rfl (pc_Mo_Mo_0 v5 v10) ?_
      refine sv_Q.s (σ' := (51, [some (.ref 0), some (.int a0), some (.int a1), some (.int (gm 7 (a0).toNatClampNeg)), some (.int (gm 7 (a1).toNatClampNeg)), some (.int v7), none], [.int (gm 7 (a0).toNatClampNeg), .int a1, .ref 0], (W_Mo v10))) 3 rfl ?_
      refine sv_Q.o (fun v12 e13 => ?_)
      refine sv_Q.V (b := 0) (av := [.int a1, .int (gm 7 (a0).toNatClampNeg)]) (ps := [0, 1, 2, 3, 4, 5, 6, 7, 8, 9, 10, 11, 12, 13, 14, 15, 16, 17, 18, 19, 20, 21, 22]) (rest := []) (cs1 := (W_Mo v10)) (cs2 := (W_Mo v10)) (st' := [.int v12]) (cs' := (W_Mo v10)) (q := (51, .null, 0, 0, 0)) lk_Mo_337 (r_Mo_whyBox N v10 a1 (gm 7 (a0).toNatClampNeg) v12 e13) rfl rfl rfl rfl rfl (Or.inl ⟨12, _, _, rfl, rfl, rfl⟩) rfl rfl (sc_Mo_Mo_0 v10) rfl rfl (pc_Mo_Mo_0 v10 v10) ?_
      refine sv_Q.s (σ' := (58, [some (.ref 0), some (.int a0), some (.int a1), some (.int (gm 7 (a0).toNatClampNeg)), some (.int (gm 7 (a1).toNatClampNeg)), some (.int v7), some (.int v12)], [.int v12], (W_Mo v10))) 2 rfl ?_
      refine sv_Q.l (fun v15 => (70, [some (.ref 0), some (.int a0), some (.int a1), some (.int (gm 7 (a0).toNatClampNeg)), some (.int (gm 7 (a1).toNatClampNeg)), none, none], [.int v15], (W_Mo v10))) (fun v15 => ?_) ?_
      · refine sv_Q.s (σ' := (74, [some (.ref 0), some (.int a0), some (.int a1), some (.int (gm 7 (a0).toNatClampNeg)), some (.int (gm 7 (a1).toNatClampNeg)), some (.int v15), none], [.int v15], (W_Mo v10))) 2 rfl ?_
        refine sv_Q.b rfl (fun c16 => ?_) (fun c16 => ?_)
        · exact sv_Q.z rfl
        · refine sv_Q.s (σ' := (80, [some (.ref 0), some (.int a0), some (.int a1), some (.int (gm 7 (a0).toNatClampNeg)), some (.int (gm 7 (a1).toNatClampNeg)), some (.int v15), none], [.int (gm 7 (a0).toNatClampNeg), .int a1, .ref 0], (W_Mo v10))) 3 rfl ?_
          refine sv_Q.o (fun v17 e18 => ?_)
          refine sv_Q.V (b := 0) (av := [.int a1, .int (gm 7 (a0).toNatClampNeg)]) (ps := [0, 1, 2, 3, 4, 5, 6, 7, 8, 9, 10, 11, 12, 13, 14, 15, 16, 17, 18, 19, 20, 21, 22]) (rest := []) (cs1 := (W_Mo v10)) (cs2 := (W_Mo v17)) (st' := []) (cs' := (W_Mo v17)) (q := (80, .null, 0, 0, 0)) lk_Mo_346 (r_Mo_lays N v10 a1 (gm 7 (a0).toNatClampNeg) v17 e18) rfl rfl rfl rfl rfl (Or.inl ⟨12, _, _, rfl, rfl, rfl⟩) rfl rfl (sc_Mo_Mo_0 v10) rfl rfl (pc_Mo_Mo_0 v10 v17) ?_
          exact sv_Q.z rfl
      · refine sv_Q.sb rfl (fun c14 => ?_) (fun c14 => ?_)
        · refine sv_Q.s (σ' := (70, [some (.ref 0), some (.int a0), some (.int a1), some (.int (gm 7 (a0).toNatClampNeg)), some (.int (gm 7 (a1).toNatClampNeg)), some (.int v7), some (.int v12)], [.int ((10 : Int32) + v12)], (W_Mo v10))) 3 rfl ?_
          refine sv_Q.f (lo' := [some (.ref 0), some (.int a0), some (.int a1), some (.int (gm 7 (a0).toNatClampNeg)), some (.int (gm 7 (a1).toNatClampNeg)), none, none]) ⟨rfl, ⟨rfl, ⟨rfl, ⟨rfl, ⟨rfl, trivial⟩⟩⟩⟩⟩ ?_
          exact sv_Q.z rfl
        · refine sv_Q.s (σ' := (70, [some (.ref 0), some (.int a0), some (.int a1), some (.int (gm 7 (a0).toNatClampNeg)), some (.int (gm 7 (a1).toNatClampNeg)), some (.int v7), some (.int v12)], [.int (0 : Int32)], (W_Mo v10))) 2 rfl ?_
          refine sv_Q.f (lo' := [some (.ref 0), some (.int a0), some (.int a1), some (.int (gm 7 (a0).toNatClampNeg)), some (.int (gm 7 (a1).toNatClampNeg)), none, none]) ⟨rfl, ⟨rfl, ⟨rfl, ⟨rfl, ⟨rfl, trivial⟩⟩⟩⟩⟩ ?_
          exact sv_Q.z rfl
def F_Mo_putsAs (N : Nat) (a0 : Int32) (a1 : Int32) (a2 : Int32) (a3 : Int32) (gm : Nat → Nat → Int32) : Option ((Nat → Nat → Int32)) := (Option.bind (F_Mo_lays N a0 (-1 : Int32) gm) fun (v1 : (Nat → Nat → Int32)) => (Option.bind (F_Mo_lays N a2 (-1 : Int32) v1) fun (v3 : (Nat → Nat → Int32)) => (Option.bind (F_Mo_lays N a0 a1 v3) fun (v5 : (Nat → Nat → Int32)) => (Option.bind (F_Mo_lays N a2 a3 v5) fun (v7 : (Nat → Nat → Int32)) => (some v7)))))
set_option maxHeartbeats 4000000 in
set_option maxRecDepth 100000 in
theorem r_Mo_putsAs {X : Nat × (Nat → Int32)} (N : Nat) (gm : Nat → Nat → Int32) (a0 : Int32) (a1 : Int32) (a2 : Int32) (a3 : Int32) : ∀ x, (F_Mo_putsAs N a0 a1 a2 a3 gm) = some x → sv_R X 2 M_Mo_putsAs [.ref 0, .int a0, .int a1, .int a2, .int a3] (W_Mo gm) none (W_Mo x) := by
  refine sv_Q.R (res := (fun (x : (Nat → Nat → Int32)) => ((none : Option Value), (W_Mo x)))) g_Mo_putsAs rfl ?_
  unfold F_Mo_putsAs
  refine sv_Q.s (σ' := (3, [some (.ref 0), some (.int a0), some (.int a1), some (.int a2), some (.int a3)], [.int (-1 : Int32), .int a0, .ref 0], (W_Mo gm))) 3 rfl ?_
  refine sv_Q.o (fun v1 e2 => ?_)
  refine sv_Q.V (b := 0) (av := [.int a0, .int (-1 : Int32)]) (ps := [0, 1, 2, 3, 4, 5, 6, 7, 8, 9, 10, 11, 12, 13, 14, 15, 16, 17, 18, 19, 20, 21, 22]) (rest := []) (cs1 := (W_Mo gm)) (cs2 := (W_Mo v1)) (st' := []) (cs' := (W_Mo v1)) (q := (3, .null, 0, 0, 0)) lk_Mo_346 (r_Mo_lays N gm a0 (-1 : Int32) v1 e2) rfl rfl rfl rfl rfl (Or.inl ⟨12, _, _, rfl, rfl, rfl⟩) rfl rfl (sc_Mo_Mo_0 gm) rfl rfl (pc_Mo_Mo_0 gm v1) ?_
  refine sv_Q.s (σ' := (9, [some (.ref 0), some (.int a0), some (.int a1), some (.int a2), some (.int a3)], [.int (-1 : Int32), .int a2, .ref 0], (W_Mo v1))) 3 rfl ?_
  refine sv_Q.o (fun v3 e4 => ?_)
  refine sv_Q.V (b := 0) (av := [.int a2, .int (-1 : Int32)]) (ps := [0, 1, 2, 3, 4, 5, 6, 7, 8, 9, 10, 11, 12, 13, 14, 15, 16, 17, 18, 19, 20, 21, 22]) (rest := []) (cs1 := (W_Mo v1)) (cs2 := (W_Mo v3)) (st' := []) (cs' := (W_Mo v3)) (q := (9, .null, 0, 0, 0)) lk_Mo_346 (r_Mo_lays N v1 a2 (-1 : Int32) v3 e4) rfl rfl rfl rfl rfl (Or.inl ⟨12, _, _, rfl, rfl, rfl⟩) rfl rfl (sc_Mo_Mo_0 v1) rfl rfl (pc_Mo_Mo_0 v1 v3) ?_
  refine sv_Q.s (σ' := (15, [some (.ref 0), some (.int a0), some (.int a1), some (.int a2), some (.int a3)], [.int a1, .int a0, .ref 0], (W_Mo v3))) 3 rfl ?_
  refine sv_Q.o (fun v5 e6 => ?_)
  refine sv_Q.V (b := 0) (av := [.int a0, .int a1]) (ps := [0, 1, 2, 3, 4, 5, 6, 7, 8, 9, 10, 11, 12, 13, 14, 15, 16, 17, 18, 19, 20, 21, 22]) (rest := []) (cs1 := (W_Mo v3)) (cs2 := (W_Mo v5)) (st' := []) (cs' := (W_Mo v5)) (q := (15, .null, 0, 0, 0)) lk_Mo_346 (r_Mo_lays N v3 a0 a1 v5 e6) rfl rfl rfl rfl rfl (Or.inl ⟨12, _, _, rfl, rfl, rfl⟩) rfl rfl (sc_Mo_Mo_0 v3) rfl rfl (pc_Mo_Mo_0 v3 v5) ?_
  refine sv_Q.s (σ' := (22, [some (.ref 0), some (.int a0), some (.int a1), some (.int a2), some (.int a3)], [.int a3, .int a2, .ref 0], (W_Mo v5))) 3 rfl ?_
  refine sv_Q.o (fun v7 e8 => ?_)
  refine sv_Q.V (b := 0) (av := [.int a2, .int a3]) (ps := [0, 1, 2, 3, 4, 5, 6, 7, 8, 9, 10, 11, 12, 13, 14, 15, 16, 17, 18, 19, 20, 21, 22]) (rest := []) (cs1 := (W_Mo v5)) (cs2 := (W_Mo v7)) (st' := []) (cs' := (W_Mo v7)) (q := (22, .null, 0, 0, 0)) lk_Mo_346 (r_Mo_lays N v5 a2 a3 v7 e8) rfl rfl rfl rfl rfl (Or.inl ⟨12, _, _, rfl, rfl, rfl⟩) rfl rfl (sc_Mo_Mo_0 v5) rfl rfl (pc_Mo_Mo_0 v5 v7) ?_
  exact sv_Q.z ⟨True, rfl, trivial, rfl⟩
def F_Mo_isFree (N : Nat) (a0 : Int32) (gm : Nat → Nat → Int32) : Option (Int32) := (if sv_in a0 24 then (if (gm 7 (a0).toNatClampNeg) = (-1 : Int32) then (some (0 : Int32)) else (Option.bind (F_Mo_canLift N a0 gm) fun (v3 : Int32) => (if v3 = 0 then (some (0 : Int32)) else (some (1 : Int32))))) else none)
set_option maxHeartbeats 4000000 in
set_option maxRecDepth 100000 in
theorem r_Mo_isFree {X : Nat × (Nat → Int32)} (N : Nat) (gm : Nat → Nat → Int32) (a0 : Int32) : ∀ x, (F_Mo_isFree N a0 gm) = some x → sv_R X 6 M_Mo_isFree [.ref 0, .int a0] (W_Mo gm) (some (.int x)) (W_Mo gm) := by
  refine sv_Q.R (res := (fun (x : Int32) => (some (.int x), (W_Mo gm)))) g_Mo_isFree rfl ?_
  unfold F_Mo_isFree
  refine sv_Q.s (σ' := (5, [some (.ref 0), some (.int a0)], [.int a0, .ref 7], (W_Mo gm))) 3 rfl ?_
  refine sv_Q.g (σ' := (6, [some (.ref 0), some (.int a0)], [.int (gm 7 (a0).toNatClampNeg)], (W_Mo gm))) (c := sv_in a0 24) rfl (fun c1 => ?_)
  refine sv_Q.s (σ' := (7, [some (.ref 0), some (.int a0)], [.int (-1 : Int32), .int (gm 7 (a0).toNatClampNeg)], (W_Mo gm))) 1 rfl ?_
  refine sv_Q.b rfl (fun c2 => ?_) (fun c2 => ?_)
  · refine sv_Q.s (σ' := (23, [some (.ref 0), some (.int a0)], [.int (0 : Int32)], (W_Mo gm))) 1 rfl ?_
    exact sv_Q.z ⟨sv_01 (0 : Int32), rfl, Or.inl rfl, rfl⟩
  · refine sv_Q.s (σ' := (12, [some (.ref 0), some (.int a0)], [.int a0, .ref 0], (W_Mo gm))) 2 rfl ?_
    refine sv_Q.o (fun v3 e4 => ?_)
    refine sv_Q.V (b := 0) (av := [.int a0]) (ps := [0, 1, 2, 3, 4, 5, 6, 7, 8, 9, 10, 11, 12, 13, 14, 15, 16, 17, 18, 19, 20, 21, 22]) (rest := []) (cs1 := (W_Mo gm)) (cs2 := (W_Mo gm)) (st' := [.int v3]) (cs' := (W_Mo gm)) (q := (12, .null, 0, 0, 0)) lk_Mo_340 (r_Mo_canLift N gm a0 v3 e4) rfl rfl rfl rfl rfl (Or.inl ⟨12, _, _, rfl, rfl, rfl⟩) rfl rfl (sc_Mo_Mo_0 gm) rfl rfl (pc_Mo_Mo_0 gm gm) ?_
    refine sv_Q.b rfl (fun c5 => ?_) (fun c5 => ?_)
    · refine sv_Q.s (σ' := (23, [some (.ref 0), some (.int a0)], [.int (0 : Int32)], (W_Mo gm))) 1 rfl ?_
      exact sv_Q.z ⟨sv_01 (0 : Int32), rfl, Or.inl rfl, rfl⟩
    · refine sv_Q.s (σ' := (23, [some (.ref 0), some (.int a0)], [.int (1 : Int32)], (W_Mo gm))) 2 rfl ?_
      exact sv_Q.z ⟨sv_01 (1 : Int32), rfl, Or.inr rfl, rfl⟩
def F_Mo_swaps (N : Nat) (a0 : Int32) (a1 : Int32) (gm : Nat → Nat → Int32) : Option (Int32 × (Nat → Nat → Int32)) := (if (F_Mo_isBox a0 gm) = 0 then (some ((-2 : Int32), gm)) else (if (F_Mo_isBox a1 gm) = 0 then (some ((-2 : Int32), gm)) else (if ¬ a0 = a1 then (Option.bind (F_Mo_isFree N a0 gm) fun (v4 : Int32) => (if v4 = 0 then (some ((-5 : Int32), gm)) else (Option.bind (F_Mo_isFree N a1 gm) fun (v7 : Int32) => (if ¬ v7 = 0 then (Option.bind (F_Mo_changesOver N a0 a1 gm) fun (v10 : Int32 × (Nat → Nat → Int32)) => (if v10.1 = 0 then (if sv_in a1 24 then (if sv_in a0 24 then (Option.bind (F_Mo_putsAs N a0 (v10.2 7 (a1).toNatClampNeg) a1 (v10.2 7 (a0).toNatClampNeg) v10.2) fun (v15 : (Nat → Nat → Int32)) => (Option.bind (F_Mo_keeps N v15) fun (v17 : (Nat → Nat → Int32)) => (Option.bind (F_Mo_putsAs N a0 (v10.2 7 (a0).toNatClampNeg) a1 (v10.2 7 (a1).toNatClampNeg) v17) fun (v19 : (Nat → Nat → Int32)) => (some ((0 : Int32), v19))))) else none) else none) else (some (v10.1, v10.2)))) else (some ((-5 : Int32), gm)))))) else (some ((-2 : Int32), gm)))))
set_option maxHeartbeats 4000000 in
set_option maxRecDepth 100000 in
theorem r_Mo_swaps {X : Nat × (Nat → Int32)} (N : Nat) (gm : Nat → Nat → Int32) (a0 : Int32) (a1 : Int32) : ∀ x, (F_Mo_swaps N a0 a1 gm) = some x → sv_R X 11 M_Mo_swaps [.ref 0, .int a0, .int a1] (W_Mo gm) (some (.int x.1)) (W_Mo x.2) := by
  refine sv_Q.R (res := (fun (x : Int32 × (Nat → Nat → Int32)) => (some (.int x.1), (W_Mo x.2)))) g_Mo_swaps rfl ?_
  unfold F_Mo_swaps
  refine sv_Q.s (σ' := (2, [some (.ref 0), some (.int a0), some (.int a1), none, none, none], [.int a0, .ref 0], (W_Mo gm))) 2 rfl ?_
  refine sv_Q.V (b := 0) (av := [.int a0]) (ps := [0, 1, 2, 3, 4, 5, 6, 7, 8, 9, 10, 11, 12, 13, 14, 15, 16, 17, 18, 19, 20, 21, 22]) (rest := []) (cs1 := (W_Mo gm)) (cs2 := (W_Mo gm)) (st' := [.int (F_Mo_isBox a0 gm)]) (cs' := (W_Mo gm)) (q := (2, .null, 0, 0, 0)) lk_Mo_286 (t_Mo_isBox gm a0) rfl rfl rfl rfl rfl (Or.inl ⟨12, _, _, rfl, rfl, rfl⟩) rfl rfl (sc_Mo_Mo_0 gm) rfl rfl (pc_Mo_Mo_0 gm gm) ?_
  refine sv_Q.b rfl (fun c1 => ?_) (fun c1 => ?_)
  · refine sv_Q.s (σ' := (23, [some (.ref 0), some (.int a0), some (.int a1), none, none, none], [.int (-2 : Int32)], (W_Mo gm))) 1 rfl ?_
    exact sv_Q.z ⟨True, rfl, trivial, rfl⟩
  · refine sv_Q.s (σ' := (10, [some (.ref 0), some (.int a0), some (.int a1), none, none, none], [.int a1, .ref 0], (W_Mo gm))) 2 rfl ?_
    refine sv_Q.V (b := 0) (av := [.int a1]) (ps := [0, 1, 2, 3, 4, 5, 6, 7, 8, 9, 10, 11, 12, 13, 14, 15, 16, 17, 18, 19, 20, 21, 22]) (rest := []) (cs1 := (W_Mo gm)) (cs2 := (W_Mo gm)) (st' := [.int (F_Mo_isBox a1 gm)]) (cs' := (W_Mo gm)) (q := (10, .null, 0, 0, 0)) lk_Mo_286 (t_Mo_isBox gm a1) rfl rfl rfl rfl rfl (Or.inl ⟨12, _, _, rfl, rfl, rfl⟩) rfl rfl (sc_Mo_Mo_0 gm) rfl rfl (pc_Mo_Mo_0 gm gm) ?_
    refine sv_Q.b rfl (fun c2 => ?_) (fun c2 => ?_)
    · refine sv_Q.s (σ' := (23, [some (.ref 0), some (.int a0), some (.int a1), none, none, none], [.int (-2 : Int32)], (W_Mo gm))) 1 rfl ?_
      exact sv_Q.z ⟨True, rfl, trivial, rfl⟩
    · refine sv_Q.s (σ' := (18, [some (.ref 0), some (.int a0), some (.int a1), none, none, none], [.int a1, .int a0], (W_Mo gm))) 2 rfl ?_
      refine sv_Q.b rfl (fun c3 => ?_) (fun c3 => ?_)
      · refine sv_Q.s (σ' := (26, [some (.ref 0), some (.int a0), some (.int a1), none, none, none], [.int a0, .ref 0], (W_Mo gm))) 2 rfl ?_
        refine sv_Q.o (fun v4 e5 => ?_)
        refine sv_Q.V (b := 0) (av := [.int a0]) (ps := [0, 1, 2, 3, 4, 5, 6, 7, 8, 9, 10, 11, 12, 13, 14, 15, 16, 17, 18, 19, 20, 21, 22]) (rest := []) (cs1 := (W_Mo gm)) (cs2 := (W_Mo gm)) (st' := [.int v4]) (cs' := (W_Mo gm)) (q := (26, .null, 0, 0, 0)) lk_Mo_472 (r_Mo_isFree N gm a0 v4 e5) rfl rfl rfl rfl rfl (Or.inl ⟨12, _, _, rfl, rfl, rfl⟩) rfl rfl (sc_Mo_Mo_0 gm) rfl rfl (pc_Mo_Mo_0 gm gm) ?_
        refine sv_Q.b rfl (fun c6 => ?_) (fun c6 => ?_)
        · refine sv_Q.s (σ' := (42, [some (.ref 0), some (.int a0), some (.int a1), none, none, none], [.int (-5 : Int32)], (W_Mo gm))) 1 rfl ?_
          exact sv_Q.z ⟨True, rfl, trivial, rfl⟩
        · refine sv_Q.s (σ' := (34, [some (.ref 0), some (.int a0), some (.int a1), none, none, none], [.int a1, .ref 0], (W_Mo gm))) 2 rfl ?_
          refine sv_Q.o (fun v7 e8 => ?_)
          refine sv_Q.V (b := 0) (av := [.int a1]) (ps := [0, 1, 2, 3, 4, 5, 6, 7, 8, 9, 10, 11, 12, 13, 14, 15, 16, 17, 18, 19, 20, 21, 22]) (rest := []) (cs1 := (W_Mo gm)) (cs2 := (W_Mo gm)) (st' := [.int v7]) (cs' := (W_Mo gm)) (q := (34, .null, 0, 0, 0)) lk_Mo_472 (r_Mo_isFree N gm a1 v7 e8) rfl rfl rfl rfl rfl (Or.inl ⟨12, _, _, rfl, rfl, rfl⟩) rfl rfl (sc_Mo_Mo_0 gm) rfl rfl (pc_Mo_Mo_0 gm gm) ?_
          refine sv_Q.b rfl (fun c9 => ?_) (fun c9 => ?_)
          · refine sv_Q.s (σ' := (46, [some (.ref 0), some (.int a0), some (.int a1), none, none, none], [.int a1, .int a0, .ref 0], (W_Mo gm))) 3 rfl ?_
            refine sv_Q.o (fun v10 e11 => ?_)
            refine sv_Q.V (b := 0) (av := [.int a0, .int a1]) (ps := [0, 1, 2, 3, 4, 5, 6, 7, 8, 9, 10, 11, 12, 13, 14, 15, 16, 17, 18, 19, 20, 21, 22]) (rest := []) (cs1 := (W_Mo gm)) (cs2 := (W_Mo v10.2)) (st' := [.int v10.1]) (cs' := (W_Mo v10.2)) (q := (46, .null, 0, 0, 0)) lk_Mo_475 (r_Mo_changesOver N gm a0 a1 v10 e11) rfl rfl rfl rfl rfl (Or.inl ⟨12, _, _, rfl, rfl, rfl⟩) rfl rfl (sc_Mo_Mo_0 gm) rfl rfl (pc_Mo_Mo_0 gm v10.2) ?_
            refine sv_Q.s (σ' := (51, [some (.ref 0), some (.int a0), some (.int a1), some (.int v10.1), none, none], [.int v10.1], (W_Mo v10.2))) 2 rfl ?_
            refine sv_Q.b rfl (fun c12 => ?_) (fun c12 => ?_)
            · refine sv_Q.s (σ' := (61, [some (.ref 0), some (.int a0), some (.int a1), some (.int v10.1), none, none], [.int a1, .ref 7], (W_Mo v10.2))) 3 rfl ?_
              refine sv_Q.g (σ' := (62, [some (.ref 0), some (.int a0), some (.int a1), some (.int v10.1), none, none], [.int (v10.2 7 (a1).toNatClampNeg)], (W_Mo v10.2))) (c := sv_in a1 24) rfl (fun c13 => ?_)
              refine sv_Q.s (σ' := (69, [some (.ref 0), some (.int a0), some (.int a1), some (.int v10.1), some (.int (v10.2 7 (a1).toNatClampNeg)), none], [.int a0, .ref 7], (W_Mo v10.2))) 4 rfl ?_
              refine sv_Q.g (σ' := (70, [some (.ref 0), some (.int a0), some (.int a1), some (.int v10.1), some (.int (v10.2 7 (a1).toNatClampNeg)), none], [.int (v10.2 7 (a0).toNatClampNeg)], (W_Mo v10.2))) (c := sv_in a0 24) rfl (fun c14 => ?_)
              refine sv_Q.s (σ' := (79, [some (.ref 0), some (.int a0), some (.int a1), some (.int v10.1), some (.int (v10.2 7 (a1).toNatClampNeg)), some (.int (v10.2 7 (a0).toNatClampNeg))], [.int (v10.2 7 (a0).toNatClampNeg), .int a1, .int (v10.2 7 (a1).toNatClampNeg), .int a0, .ref 0], (W_Mo v10.2))) 6 rfl ?_
              refine sv_Q.o (fun v15 e16 => ?_)
              refine sv_Q.V (b := 0) (av := [.int a0, .int (v10.2 7 (a1).toNatClampNeg), .int a1, .int (v10.2 7 (a0).toNatClampNeg)]) (ps := [0, 1, 2, 3, 4, 5, 6, 7, 8, 9, 10, 11, 12, 13, 14, 15, 16, 17, 18, 19, 20, 21, 22]) (rest := []) (cs1 := (W_Mo v10.2)) (cs2 := (W_Mo v15)) (st' := []) (cs' := (W_Mo v15)) (q := (79, .null, 0, 0, 0)) lk_Mo_478 (r_Mo_putsAs N v10.2 a0 (v10.2 7 (a1).toNatClampNeg) a1 (v10.2 7 (a0).toNatClampNeg) v15 e16) rfl rfl rfl rfl rfl (Or.inl ⟨12, _, _, rfl, rfl, rfl⟩) rfl rfl (sc_Mo_Mo_0 v10.2) rfl rfl (pc_Mo_Mo_0 v10.2 v15) ?_
              refine sv_Q.s (σ' := (83, [some (.ref 0), some (.int a0), some (.int a1), some (.int v10.1), some (.int (v10.2 7 (a1).toNatClampNeg)), some (.int (v10.2 7 (a0).toNatClampNeg))], [.ref 0], (W_Mo v15))) 1 rfl ?_
              refine sv_Q.o (fun v17 e18 => ?_)
              refine sv_Q.V (b := 0) (av := []) (ps := [0, 1, 2, 3, 4, 5, 6, 7, 8, 9, 10, 11, 12, 13, 14, 15, 16, 17, 18, 19, 20, 21, 22]) (rest := []) (cs1 := (W_Mo v15)) (cs2 := (W_Mo v17)) (st' := []) (cs' := (W_Mo v17)) (q := (83, .null, 0, 0, 0)) lk_Mo_343 (r_Mo_keeps N v15 v17 e18) rfl rfl rfl rfl rfl (Or.inl ⟨12, _, _, rfl, rfl, rfl⟩) rfl rfl (sc_Mo_Mo_0 v15) rfl rfl (pc_Mo_Mo_0 v15 v17) ?_
              refine sv_Q.s (σ' := (93, [some (.ref 0), some (.int a0), some (.int a1), some (.int v10.1), some (.int (v10.2 7 (a1).toNatClampNeg)), some (.int (v10.2 7 (a0).toNatClampNeg))], [.int (v10.2 7 (a1).toNatClampNeg), .int a1, .int (v10.2 7 (a0).toNatClampNeg), .int a0, .ref 0], (W_Mo v17))) 5 rfl ?_
              refine sv_Q.o (fun v19 e20 => ?_)
              refine sv_Q.V (b := 0) (av := [.int a0, .int (v10.2 7 (a0).toNatClampNeg), .int a1, .int (v10.2 7 (a1).toNatClampNeg)]) (ps := [0, 1, 2, 3, 4, 5, 6, 7, 8, 9, 10, 11, 12, 13, 14, 15, 16, 17, 18, 19, 20, 21, 22]) (rest := []) (cs1 := (W_Mo v17)) (cs2 := (W_Mo v19)) (st' := []) (cs' := (W_Mo v19)) (q := (93, .null, 0, 0, 0)) lk_Mo_478 (r_Mo_putsAs N v17 a0 (v10.2 7 (a0).toNatClampNeg) a1 (v10.2 7 (a1).toNatClampNeg) v19 e20) rfl rfl rfl rfl rfl (Or.inl ⟨12, _, _, rfl, rfl, rfl⟩) rfl rfl (sc_Mo_Mo_0 v17) rfl rfl (pc_Mo_Mo_0 v17 v19) ?_
              refine sv_Q.s (σ' := (97, [some (.ref 0), some (.int a0), some (.int a1), some (.int v10.1), some (.int (v10.2 7 (a1).toNatClampNeg)), some (.int (v10.2 7 (a0).toNatClampNeg))], [.int (0 : Int32)], (W_Mo v19))) 1 rfl ?_
              exact sv_Q.z ⟨True, rfl, trivial, rfl⟩
            · refine sv_Q.s (σ' := (55, [some (.ref 0), some (.int a0), some (.int a1), some (.int v10.1), none, none], [.int v10.1], (W_Mo v10.2))) 1 rfl ?_
              exact sv_Q.z ⟨True, rfl, trivial, rfl⟩
          · refine sv_Q.s (σ' := (42, [some (.ref 0), some (.int a0), some (.int a1), none, none, none], [.int (-5 : Int32)], (W_Mo gm))) 1 rfl ?_
            exact sv_Q.z ⟨True, rfl, trivial, rfl⟩
      · refine sv_Q.s (σ' := (23, [some (.ref 0), some (.int a0), some (.int a1), none, none, none], [.int (-2 : Int32)], (W_Mo gm))) 1 rfl ?_
        exact sv_Q.z ⟨True, rfl, trivial, rfl⟩
def L_Mo_steady_39 (N : Nat) : Nat → Int64 → Int32 → Int32 → Int32 → (Nat → Nat → Int32) → Option (Int64 × Int32 × (Nat → Nat → Int32))
  | 0, _, _, _, _, _ => none
  | n + 1, x1, x3, x4, x5, gm => (if (gm 0 6) ≤ x5 then (some (x1, x3, gm)) else (Option.bind (F_Mo_isFree N x4 gm) fun (v6 : Int32) => (if v6 = 0 then (L_Mo_steady_39 N n x1 x3 x4 (x5 + (1 : Int32)) gm) else (Option.bind (F_Mo_isFree N x5 gm) fun (v9 : Int32) => (if ¬ v9 = 0 then (if sv_in x4 24 then (if sv_in x5 24 then (Option.bind (F_Mo_changesOver N x4 x5 gm) fun (v14 : Int32 × (Nat → Nat → Int32)) => (if v14.1 = 0 then (Option.bind (F_Mo_lean N (0 : Int32) v14.2) fun (v17 : Int64) => (Option.bind (if 0 ≤ (lg_cmp (if 0 < v17 then v17 else -v17) x1) then some (x1, x3) else (Option.bind (F_Mo_lean N (0 : Int32) v14.2) fun (v20 : Int64) => some ((if 0 < v20 then v20 else -v20), (((100 : Int32) * x4) + x5)))) fun (v22 : Int64 × Int32) => (Option.bind (F_Mo_putsAs N x4 (gm 7 (x4).toNatClampNeg) x5 (gm 7 (x5).toNatClampNeg) v14.2) fun (v23 : (Nat → Nat → Int32)) => (L_Mo_steady_39 N n v22.1 v22.2 x4 (x5 + (1 : Int32)) v23)))) else (L_Mo_steady_39 N n x1 x3 x4 (x5 + (1 : Int32)) v14.2))) else none) else none) else (L_Mo_steady_39 N n x1 x3 x4 (x5 + (1 : Int32)) gm))))))
set_option maxHeartbeats 4000000 in
set_option maxRecDepth 100000 in
theorem l_Mo_steady_39 {X : Nat × (Nat → Int32)} (N : Nat) : ∀ (n : Nat) (x1 : Int64) (x3 : Int32) (x4 : Int32) (x5 : Int32) (gm : Nat → Nat → Int32), sv_Q X 10 M_Mo_steady (39, [some (.ref 0), some (.long x1), none, some (.int x3), some (.int x4), some (.int x5), none, none], [], (W_Mo gm)) (L_Mo_steady_39 N n x1 x3 x4 x5 gm) (fun v σ' => σ' = (150, [some (.ref 0), some (.long v.1), none, some (.int v.2.1), some (.int x4), none, none, none], [], (W_Mo v.2.2))) := by
  intro n
  induction n with
  | zero => intro x1 x3 x4 x5 gm; unfold L_Mo_steady_39; exact sv_Q.non
  | succ n ih =>
    intro x1 x3 x4 x5 gm
    unfold L_Mo_steady_39
    refine sv_Q.s (σ' := (45, [some (.ref 0), some (.long x1), none, some (.int x3), some (.int x4), some (.int x5), none, none], [.int (gm 0 6), .int x5], (W_Mo gm))) 3 rfl ?_
    refine sv_Q.b rfl (fun c5 => ?_) (fun c5 => ?_)
    · refine sv_Q.f (lo' := [some (.ref 0), some (.long x1), none, some (.int x3), some (.int x4), none, none, none]) ⟨rfl, ⟨rfl, ⟨rfl, ⟨rfl, trivial⟩⟩⟩⟩ ?_
      exact sv_Q.z rfl
    · refine sv_Q.s (σ' := (51, [some (.ref 0), some (.long x1), none, some (.int x3), some (.int x4), some (.int x5), none, none], [.int x4, .ref 0], (W_Mo gm))) 2 rfl ?_
      refine sv_Q.o (fun v6 e7 => ?_)
      refine sv_Q.V (b := 0) (av := [.int x4]) (ps := [0, 1, 2, 3, 4, 5, 6, 7, 8, 9, 10, 11, 12, 13, 14, 15, 16, 17, 18, 19, 20, 21, 22]) (rest := []) (cs1 := (W_Mo gm)) (cs2 := (W_Mo gm)) (st' := [.int v6]) (cs' := (W_Mo gm)) (q := (51, .null, 0, 0, 0)) lk_Mo_472 (r_Mo_isFree N gm x4 v6 e7) rfl rfl rfl rfl rfl (Or.inl ⟨12, _, _, rfl, rfl, rfl⟩) rfl rfl (sc_Mo_Mo_0 gm) rfl rfl (pc_Mo_Mo_0 gm gm) ?_
      refine sv_Q.b rfl (fun c8 => ?_) (fun c8 => ?_)
      · refine sv_Q.s (σ' := (39, [some (.ref 0), some (.long x1), none, some (.int x3), some (.int x4), some (.int (x5 + (1 : Int32))), none, none], [], (W_Mo gm))) 2 rfl ?_
        exact ih x1 x3 x4 (x5 + (1 : Int32)) gm
      · refine sv_Q.s (σ' := (60, [some (.ref 0), some (.long x1), none, some (.int x3), some (.int x4), some (.int x5), none, none], [.int x5, .ref 0], (W_Mo gm))) 2 rfl ?_
        refine sv_Q.o (fun v9 e10 => ?_)
        refine sv_Q.V (b := 0) (av := [.int x5]) (ps := [0, 1, 2, 3, 4, 5, 6, 7, 8, 9, 10, 11, 12, 13, 14, 15, 16, 17, 18, 19, 20, 21, 22]) (rest := []) (cs1 := (W_Mo gm)) (cs2 := (W_Mo gm)) (st' := [.int v9]) (cs' := (W_Mo gm)) (q := (60, .null, 0, 0, 0)) lk_Mo_472 (r_Mo_isFree N gm x5 v9 e10) rfl rfl rfl rfl rfl (Or.inl ⟨12, _, _, rfl, rfl, rfl⟩) rfl rfl (sc_Mo_Mo_0 gm) rfl rfl (pc_Mo_Mo_0 gm gm) ?_
        refine sv_Q.b rfl (fun c11 => ?_) (fun c11 => ?_)
        · refine sv_Q.s (σ' := (75, [some (.ref 0), some (.long x1), none, some (.int x3), some (.int x4), some (.int x5), none, none], [.int x4, .ref 7], (W_Mo gm))) 3 rfl ?_
          refine sv_Q.g (σ' := (76, [some (.ref 0), some (.long x1), none, some (.int x3), some (.int x4), some (.int x5), none, none], [.int (gm 7 (x4).toNatClampNeg)], (W_Mo gm))) (c := sv_in x4 24) rfl (fun c12 => ?_)
          refine sv_Q.s (σ' := (84, [some (.ref 0), some (.long x1), none, some (.int x3), some (.int x4), some (.int x5), some (.int (gm 7 (x4).toNatClampNeg)), none], [.int x5, .ref 7], (W_Mo gm))) 4 rfl ?_
          refine sv_Q.g (σ' := (85, [some (.ref 0), some (.long x1), none, some (.int x3), some (.int x4), some (.int x5), some (.int (gm 7 (x4).toNatClampNeg)), none], [.int (gm 7 (x5).toNatClampNeg)], (W_Mo gm))) (c := sv_in x5 24) rfl (fun c13 => ?_)
          refine sv_Q.s (σ' := (92, [some (.ref 0), some (.long x1), none, some (.int x3), some (.int x4), some (.int x5), some (.int (gm 7 (x4).toNatClampNeg)), some (.int (gm 7 (x5).toNatClampNeg))], [.int x5, .int x4, .ref 0], (W_Mo gm))) 4 rfl ?_
          refine sv_Q.o (fun v14 e15 => ?_)
          refine sv_Q.V (b := 0) (av := [.int x4, .int x5]) (ps := [0, 1, 2, 3, 4, 5, 6, 7, 8, 9, 10, 11, 12, 13, 14, 15, 16, 17, 18, 19, 20, 21, 22]) (rest := []) (cs1 := (W_Mo gm)) (cs2 := (W_Mo v14.2)) (st' := [.int v14.1]) (cs' := (W_Mo v14.2)) (q := (92, .null, 0, 0, 0)) lk_Mo_475 (r_Mo_changesOver N gm x4 x5 v14 e15) rfl rfl rfl rfl rfl (Or.inl ⟨12, _, _, rfl, rfl, rfl⟩) rfl rfl (sc_Mo_Mo_0 gm) rfl rfl (pc_Mo_Mo_0 gm v14.2) ?_
          refine sv_Q.b rfl (fun c16 => ?_) (fun c16 => ?_)
          · refine sv_Q.s (σ' := (103, [some (.ref 0), some (.long x1), none, some (.int x3), some (.int x4), some (.int x5), some (.int (gm 7 (x4).toNatClampNeg)), some (.int (gm 7 (x5).toNatClampNeg))], [.int (0 : Int32), .ref 0], (W_Mo v14.2))) 2 rfl ?_
            refine sv_Q.o (fun v17 e18 => ?_)
            refine sv_Q.V (b := 0) (av := [.int (0 : Int32)]) (ps := [0, 1, 2, 3, 4, 5, 6, 7, 8, 9, 10, 11, 12, 13, 14, 15, 16, 17, 18, 19, 20, 21, 22]) (rest := []) (cs1 := (W_Mo v14.2)) (cs2 := (W_Mo v14.2)) (st' := [.long v17]) (cs' := (W_Mo v14.2)) (q := (103, .null, 0, 0, 0)) lk_Mo_482 (r_Mo_lean N v14.2 (0 : Int32) v17 e18) rfl rfl rfl rfl rfl (Or.inl ⟨12, _, _, rfl, rfl, rfl⟩) rfl rfl (sc_Mo_Mo_0 v14.2) rfl rfl (pc_Mo_Mo_0 v14.2 v14.2) ?_
            refine sv_Q.s (σ' := (111, [some (.ref 0), some (.long x1), none, some (.int x3), some (.int x4), some (.int x5), some (.int (gm 7 (x4).toNatClampNeg)), some (.int (gm 7 (x5).toNatClampNeg))], [.int (lg_cmp (if 0 < v17 then v17 else -v17) x1)], (W_Mo v14.2))) 3 rfl ?_
            refine sv_Q.lo (fun v22 => (132, [some (.ref 0), some (.long v22.1), none, some (.int v22.2), some (.int x4), some (.int x5), some (.int (gm 7 (x4).toNatClampNeg)), some (.int (gm 7 (x5).toNatClampNeg))], [], (W_Mo v14.2))) (fun v22 => ?_) ?_
            · refine sv_Q.s (σ' := (141, [some (.ref 0), some (.long v22.1), none, some (.int v22.2), some (.int x4), some (.int x5), some (.int (gm 7 (x4).toNatClampNeg)), some (.int (gm 7 (x5).toNatClampNeg))], [.int (gm 7 (x5).toNatClampNeg), .int x5, .int (gm 7 (x4).toNatClampNeg), .int x4, .ref 0], (W_Mo v14.2))) 5 rfl ?_
              refine sv_Q.o (fun v23 e24 => ?_)
              refine sv_Q.V (b := 0) (av := [.int x4, .int (gm 7 (x4).toNatClampNeg), .int x5, .int (gm 7 (x5).toNatClampNeg)]) (ps := [0, 1, 2, 3, 4, 5, 6, 7, 8, 9, 10, 11, 12, 13, 14, 15, 16, 17, 18, 19, 20, 21, 22]) (rest := []) (cs1 := (W_Mo v14.2)) (cs2 := (W_Mo v23)) (st' := []) (cs' := (W_Mo v23)) (q := (141, .null, 0, 0, 0)) lk_Mo_478 (r_Mo_putsAs N v14.2 x4 (gm 7 (x4).toNatClampNeg) x5 (gm 7 (x5).toNatClampNeg) v23 e24) rfl rfl rfl rfl rfl (Or.inl ⟨12, _, _, rfl, rfl, rfl⟩) rfl rfl (sc_Mo_Mo_0 v14.2) rfl rfl (pc_Mo_Mo_0 v14.2 v23) ?_
              refine sv_Q.s (σ' := (39, [some (.ref 0), some (.long v22.1), none, some (.int v22.2), some (.int x4), some (.int (x5 + (1 : Int32))), some (.int (gm 7 (x4).toNatClampNeg)), some (.int (gm 7 (x5).toNatClampNeg))], [], (W_Mo v23))) 2 rfl ?_
              refine sv_Q.f (lo' := [some (.ref 0), some (.long v22.1), none, some (.int v22.2), some (.int x4), some (.int (x5 + (1 : Int32))), none, none]) ⟨rfl, ⟨rfl, ⟨rfl, ⟨rfl, ⟨rfl, trivial⟩⟩⟩⟩⟩ ?_
              exact ih v22.1 v22.2 x4 (x5 + (1 : Int32)) v23
            · refine sv_Q.b rfl (fun c19 => ?_) (fun c19 => ?_)
              · exact sv_Q.z rfl
              · refine sv_Q.s (σ' := (116, [some (.ref 0), some (.long x1), none, some (.int x3), some (.int x4), some (.int x5), some (.int (gm 7 (x4).toNatClampNeg)), some (.int (gm 7 (x5).toNatClampNeg))], [.int (0 : Int32), .ref 0], (W_Mo v14.2))) 2 rfl ?_
                refine sv_Q.o (fun v20 e21 => ?_)
                refine sv_Q.V (b := 0) (av := [.int (0 : Int32)]) (ps := [0, 1, 2, 3, 4, 5, 6, 7, 8, 9, 10, 11, 12, 13, 14, 15, 16, 17, 18, 19, 20, 21, 22]) (rest := []) (cs1 := (W_Mo v14.2)) (cs2 := (W_Mo v14.2)) (st' := [.long v20]) (cs' := (W_Mo v14.2)) (q := (116, .null, 0, 0, 0)) lk_Mo_482 (r_Mo_lean N v14.2 (0 : Int32) v20 e21) rfl rfl rfl rfl rfl (Or.inl ⟨12, _, _, rfl, rfl, rfl⟩) rfl rfl (sc_Mo_Mo_0 v14.2) rfl rfl (pc_Mo_Mo_0 v14.2 v14.2) ?_
                refine sv_Q.s (σ' := (132, [some (.ref 0), some (.long (if 0 < v20 then v20 else -v20)), none, some (.int (((100 : Int32) * x4) + x5)), some (.int x4), some (.int x5), some (.int (gm 7 (x4).toNatClampNeg)), some (.int (gm 7 (x5).toNatClampNeg))], [], (W_Mo v14.2))) 8 rfl ?_
                exact sv_Q.z rfl
          · refine sv_Q.s (σ' := (39, [some (.ref 0), some (.long x1), none, some (.int x3), some (.int x4), some (.int (x5 + (1 : Int32))), some (.int (gm 7 (x4).toNatClampNeg)), some (.int (gm 7 (x5).toNatClampNeg))], [], (W_Mo v14.2))) 3 rfl ?_
            refine sv_Q.f (lo' := [some (.ref 0), some (.long x1), none, some (.int x3), some (.int x4), some (.int (x5 + (1 : Int32))), none, none]) ⟨rfl, ⟨rfl, ⟨rfl, ⟨rfl, ⟨rfl, trivial⟩⟩⟩⟩⟩ ?_
            exact ih x1 x3 x4 (x5 + (1 : Int32)) v14.2
        · refine sv_Q.s (σ' := (39, [some (.ref 0), some (.long x1), none, some (.int x3), some (.int x4), some (.int (x5 + (1 : Int32))), none, none], [], (W_Mo gm))) 3 rfl ?_
          exact ih x1 x3 x4 (x5 + (1 : Int32)) gm
def L_Mo_steady_24 (N : Nat) : Nat → Int64 → Int32 → Int32 → (Nat → Nat → Int32) → Option (Int32 × (Nat → Nat → Int32))
  | 0, _, _, _, _ => none
  | n + 1, x1, x3, x4, gm => (if (gm 0 6) ≤ x4 then (some (x3, gm)) else (Option.bind (L_Mo_steady_39 N N x1 x3 x4 (x4 + (1 : Int32)) gm) fun (v25 : Int64 × Int32 × (Nat → Nat → Int32)) => (L_Mo_steady_24 N n v25.1 v25.2.1 (x4 + (1 : Int32)) v25.2.2)))
set_option maxHeartbeats 4000000 in
set_option maxRecDepth 100000 in
theorem l_Mo_steady_24 {X : Nat × (Nat → Int32)} (N : Nat) : ∀ (n : Nat) (x1 : Int64) (x3 : Int32) (x4 : Int32) (gm : Nat → Nat → Int32), sv_Q X 10 M_Mo_steady (24, [some (.ref 0), some (.long x1), none, some (.int x3), some (.int x4), none, none, none], [], (W_Mo gm)) (L_Mo_steady_24 N n x1 x3 x4 gm) (fun v σ' => σ' = (156, [none, none, none, some (.int v.1), none, none, none, none], [], (W_Mo v.2))) := by
  intro n
  induction n with
  | zero => intro x1 x3 x4 gm; unfold L_Mo_steady_24; exact sv_Q.non
  | succ n ih =>
    intro x1 x3 x4 gm
    unfold L_Mo_steady_24
    refine sv_Q.s (σ' := (30, [some (.ref 0), some (.long x1), none, some (.int x3), some (.int x4), none, none, none], [.int (gm 0 6), .int x4], (W_Mo gm))) 3 rfl ?_
    refine sv_Q.b rfl (fun c4 => ?_) (fun c4 => ?_)
    · refine sv_Q.f (lo' := [none, none, none, some (.int x3), none, none, none, none]) ⟨rfl, trivial⟩ ?_
      exact sv_Q.z rfl
    · refine sv_Q.s (σ' := (39, [some (.ref 0), some (.long x1), none, some (.int x3), some (.int x4), some (.int (x4 + (1 : Int32))), none, none], [], (W_Mo gm))) 4 rfl ?_
      refine sv_Q.lo (fun v25 => (150, [some (.ref 0), some (.long v25.1), none, some (.int v25.2.1), some (.int x4), none, none, none], [], (W_Mo v25.2.2))) (fun v25 => ?_) (l_Mo_steady_39 N N x1 x3 x4 (x4 + (1 : Int32)) gm)
      · refine sv_Q.s (σ' := (24, [some (.ref 0), some (.long v25.1), none, some (.int v25.2.1), some (.int (x4 + (1 : Int32))), none, none, none], [], (W_Mo v25.2.2))) 2 rfl ?_
        exact ih v25.1 v25.2.1 (x4 + (1 : Int32)) v25.2.2
def F_Mo_steady (N : Nat) (gm : Nat → Nat → Int32) : Option (Int32 × (Nat → Nat → Int32)) := (if ¬ (gm 0 1) = 0 then (Option.bind (F_Mo_lean N (0 : Int32) gm) fun (v2 : Int64) => (Option.bind (L_Mo_steady_24 N N (if 0 < v2 then v2 else -v2) (-1 : Int32) (0 : Int32) gm) fun (v26 : Int32 × (Nat → Nat → Int32)) => (some (v26.1, v26.2)))) else (some ((-2 : Int32), gm)))
set_option maxHeartbeats 4000000 in
set_option maxRecDepth 100000 in
theorem r_Mo_steady {X : Nat × (Nat → Int32)} (N : Nat) (gm : Nat → Nat → Int32) : ∀ x, (F_Mo_steady N gm) = some x → sv_R X 11 M_Mo_steady [.ref 0] (W_Mo gm) (some (.int x.1)) (W_Mo x.2) := by
  refine sv_Q.R (res := (fun (x : Int32 × (Nat → Nat → Int32)) => (some (.int x.1), (W_Mo x.2)))) g_Mo_steady rfl ?_
  unfold F_Mo_steady
  refine sv_Q.s (σ' := (4, [some (.ref 0), none, none, none, none, none, none, none], [.int (gm 0 1)], (W_Mo gm))) 2 rfl ?_
  refine sv_Q.b rfl (fun c1 => ?_) (fun c1 => ?_)
  · refine sv_Q.s (σ' := (12, [some (.ref 0), none, none, none, none, none, none, none], [.int (0 : Int32), .ref 0], (W_Mo gm))) 2 rfl ?_
    refine sv_Q.o (fun v2 e3 => ?_)
    refine sv_Q.V (b := 0) (av := [.int (0 : Int32)]) (ps := [0, 1, 2, 3, 4, 5, 6, 7, 8, 9, 10, 11, 12, 13, 14, 15, 16, 17, 18, 19, 20, 21, 22]) (rest := []) (cs1 := (W_Mo gm)) (cs2 := (W_Mo gm)) (st' := [.long v2]) (cs' := (W_Mo gm)) (q := (12, .null, 0, 0, 0)) lk_Mo_482 (r_Mo_lean N gm (0 : Int32) v2 e3) rfl rfl rfl rfl rfl (Or.inl ⟨12, _, _, rfl, rfl, rfl⟩) rfl rfl (sc_Mo_Mo_0 gm) rfl rfl (pc_Mo_Mo_0 gm gm) ?_
    refine sv_Q.s (σ' := (24, [some (.ref 0), some (.long (if 0 < v2 then v2 else -v2)), none, some (.int (-1 : Int32)), some (.int (0 : Int32)), none, none, none], [], (W_Mo gm))) 6 rfl ?_
    refine sv_Q.lo (fun v26 => (156, [none, none, none, some (.int v26.1), none, none, none, none], [], (W_Mo v26.2))) (fun v26 => ?_) (l_Mo_steady_24 N N (if 0 < v2 then v2 else -v2) (-1 : Int32) (0 : Int32) gm)
    · refine sv_Q.s (σ' := (157, [none, none, none, some (.int v26.1), none, none, none, none], [.int v26.1], (W_Mo v26.2))) 1 rfl ?_
      exact sv_Q.z ⟨True, rfl, trivial, rfl⟩
  · refine sv_Q.s (σ' := (9, [some (.ref 0), none, none, none, none, none, none, none], [.int (-2 : Int32)], (W_Mo gm))) 1 rfl ?_
    exact sv_Q.z ⟨True, rfl, trivial, rfl⟩
def F_Mo_says (N : Nat) (a0 : Int32) (gm : Nat → Nat → Int32) : Option ((Nat → Nat → Int32)) := (if sv_in (gm 0 46) 60 then (sv_let (sa gm 22 (gm 0 46) (vp_nar .byte ((a0).toInt8.toInt32))) fun (gm_2 : Nat → Nat → Int32) => (sv_let (ss gm_2 46 ((gm_2 0 46) + (1 : Int32))) fun (gm_3 : Nat → Nat → Int32) => (some gm_3))) else none)
set_option maxHeartbeats 4000000 in
set_option maxRecDepth 100000 in
theorem r_Mo_says {X : Nat × (Nat → Int32)} (N : Nat) (gm : Nat → Nat → Int32) (a0 : Int32) : ∀ x, (F_Mo_says N a0 gm) = some x → sv_R X 1 M_Mo_says [.ref 0, .int a0] (W_Mo gm) none (W_Mo x) := by
  refine sv_Q.R (res := (fun (x : (Nat → Nat → Int32)) => ((none : Option Value), (W_Mo x)))) g_Mo_says rfl ?_
  unfold F_Mo_says
  refine sv_Q.s (σ' := (10, [some (.ref 0), some (.int a0)], [.int ((a0).toInt8.toInt32), .int (gm 0 46), .ref 22], (W_Mo gm))) 6 rfl ?_
  refine sv_Q.g (σ' := (11, [some (.ref 0), some (.int a0)], [], (W_Mo (sa gm 22 (gm 0 46) (vp_nar .byte ((a0).toInt8.toInt32)))))) (c := sv_in (gm 0 46) 60) rfl (fun c1 => ?_)
  refine sv_Q.go (fun gm_2 => (11, [some (.ref 0), some (.int a0)], [], (W_Mo gm_2))) (fun gm_2 => ?_)
  refine sv_Q.s (σ' := (21, [some (.ref 0), some (.int a0)], [], (W_Mo (ss gm_2 46 ((gm_2 0 46) + (1 : Int32)))))) 6 rfl ?_
  refine sv_Q.go (fun gm_3 => (21, [some (.ref 0), some (.int a0)], [], (W_Mo gm_3))) (fun gm_3 => ?_)
  exact sv_Q.z ⟨True, rfl, trivial, rfl⟩
def L_Mo_saysNumber_2 (N : Nat) : Nat → Int32 → Int32 → Option (Int32)
  | 0, _, _ => none
  | n + 1, x1, x2 => (if ¬ x2 = 0 then (if (x1 / x2) < (10 : Int32) then (some x2) else (L_Mo_saysNumber_2 N n x1 (x2 * (10 : Int32)))) else none)
set_option maxHeartbeats 4000000 in
set_option maxRecDepth 100000 in
theorem l_Mo_saysNumber_2 {X : Nat × (Nat → Int32)} (N : Nat) : ∀ (n : Nat) (x1 : Int32) (x2 : Int32) (gm : Nat → Nat → Int32), sv_Q X 1 M_Mo_saysNumber (2, [some (.ref 0), some (.int x1), some (.int x2)], [], (W_Mo gm)) (L_Mo_saysNumber_2 N n x1 x2) (fun v σ' => σ' = (18, [some (.ref 0), some (.int x1), some (.int v)], [], (W_Mo gm))) := by
  intro n
  induction n with
  | zero => intro x1 x2 gm; unfold L_Mo_saysNumber_2; exact sv_Q.non
  | succ n ih =>
    intro x1 x2 gm
    unfold L_Mo_saysNumber_2
    refine sv_Q.s (σ' := (4, [some (.ref 0), some (.int x1), some (.int x2)], [.int x2, .int x1], (W_Mo gm))) 2 rfl ?_
    refine sv_Q.g (σ' := (5, [some (.ref 0), some (.int x1), some (.int x2)], [.int (x1 / x2)], (W_Mo gm))) (c := ¬ x2 = 0) rfl (fun c1 => ?_)
    refine sv_Q.s (σ' := (7, [some (.ref 0), some (.int x1), some (.int x2)], [.int (10 : Int32), .int (x1 / x2)], (W_Mo gm))) 1 rfl ?_
    refine sv_Q.b rfl (fun c2 => ?_) (fun c2 => ?_)
    · exact sv_Q.z rfl
    · refine sv_Q.s (σ' := (2, [some (.ref 0), some (.int x1), some (.int (x2 * (10 : Int32)))], [], (W_Mo gm))) 5 rfl ?_
      exact ih x1 (x2 * (10 : Int32)) gm
def L_Mo_saysNumber_18 (N : Nat) : Nat → Int32 → Int32 → (Nat → Nat → Int32) → Option ((Nat → Nat → Int32))
  | 0, _, _, _ => none
  | n + 1, x1, x2, gm => (if x2 ≤ 0 then (some gm) else (if ¬ x2 = 0 then (Option.bind (F_Mo_says N ((48 : Int32) + ((x1 / x2) - (x1 / x2) / (10 : Int32) * (10 : Int32))) gm) fun (v6 : (Nat → Nat → Int32)) => (L_Mo_saysNumber_18 N n x1 (x2 / (10 : Int32)) v6)) else none))
set_option maxHeartbeats 4000000 in
set_option maxRecDepth 100000 in
theorem l_Mo_saysNumber_18 {X : Nat × (Nat → Int32)} (N : Nat) : ∀ (n : Nat) (x1 : Int32) (x2 : Int32) (gm : Nat → Nat → Int32), sv_Q X 1 M_Mo_saysNumber (18, [some (.ref 0), some (.int x1), some (.int x2)], [], (W_Mo gm)) (L_Mo_saysNumber_18 N n x1 x2 gm) (fun v σ' => σ' = (43, [none, none, none], [], (W_Mo v))) := by
  intro n
  induction n with
  | zero => intro x1 x2 gm; unfold L_Mo_saysNumber_18; exact sv_Q.non
  | succ n ih =>
    intro x1 x2 gm
    unfold L_Mo_saysNumber_18
    refine sv_Q.s (σ' := (19, [some (.ref 0), some (.int x1), some (.int x2)], [.int x2], (W_Mo gm))) 1 rfl ?_
    refine sv_Q.b rfl (fun c4 => ?_) (fun c4 => ?_)
    · refine sv_Q.f (lo' := [none, none, none]) trivial ?_
      exact sv_Q.z rfl
    · refine sv_Q.s (σ' := (27, [some (.ref 0), some (.int x1), some (.int x2)], [.int x2, .int x1, .int (48 : Int32), .ref 0], (W_Mo gm))) 4 rfl ?_
      refine sv_Q.g (σ' := (28, [some (.ref 0), some (.int x1), some (.int x2)], [.int (x1 / x2), .int (48 : Int32), .ref 0], (W_Mo gm))) (c := ¬ x2 = 0) rfl (fun c5 => ?_)
      refine sv_Q.s (σ' := (30, [some (.ref 0), some (.int x1), some (.int x2)], [.int (10 : Int32), .int (x1 / x2), .int (48 : Int32), .ref 0], (W_Mo gm))) 1 rfl ?_
      refine sv_Q.gk (σ' := (31, [some (.ref 0), some (.int x1), some (.int x2)], [.int ((x1 / x2) - (x1 / x2) / (10 : Int32) * (10 : Int32)), .int (48 : Int32), .ref 0], (W_Mo gm))) (c := ¬ (10 : Int32) = 0) rfl (by decide) ?_
      refine sv_Q.s (σ' := (32, [some (.ref 0), some (.int x1), some (.int x2)], [.int ((48 : Int32) + ((x1 / x2) - (x1 / x2) / (10 : Int32) * (10 : Int32))), .ref 0], (W_Mo gm))) 1 rfl ?_
      refine sv_Q.o (fun v6 e7 => ?_)
      refine sv_Q.V (b := 0) (av := [.int ((48 : Int32) + ((x1 / x2) - (x1 / x2) / (10 : Int32) * (10 : Int32)))]) (ps := [0, 1, 2, 3, 4, 5, 6, 7, 8, 9, 10, 11, 12, 13, 14, 15, 16, 17, 18, 19, 20, 21, 22]) (rest := []) (cs1 := (W_Mo gm)) (cs2 := (W_Mo v6)) (st' := []) (cs' := (W_Mo v6)) (q := (32, .null, 0, 0, 0)) lk_Mo_489 (r_Mo_says N gm ((48 : Int32) + ((x1 / x2) - (x1 / x2) / (10 : Int32) * (10 : Int32))) v6 e7) rfl rfl rfl rfl rfl (Or.inl ⟨12, _, _, rfl, rfl, rfl⟩) rfl rfl (sc_Mo_Mo_0 gm) rfl rfl (pc_Mo_Mo_0 gm v6) ?_
      refine sv_Q.s (σ' := (38, [some (.ref 0), some (.int x1), some (.int x2)], [.int (10 : Int32), .int x2], (W_Mo v6))) 2 rfl ?_
      refine sv_Q.gk (σ' := (39, [some (.ref 0), some (.int x1), some (.int x2)], [.int (x2 / (10 : Int32))], (W_Mo v6))) (c := ¬ (10 : Int32) = 0) rfl (by decide) ?_
      refine sv_Q.s (σ' := (18, [some (.ref 0), some (.int x1), some (.int (x2 / (10 : Int32)))], [], (W_Mo v6))) 2 rfl ?_
      exact ih x1 (x2 / (10 : Int32)) v6
def F_Mo_saysNumber (N : Nat) (a0 : Int32) (gm : Nat → Nat → Int32) : Option ((Nat → Nat → Int32)) := (Option.bind (L_Mo_saysNumber_2 N N a0 (1 : Int32)) fun (v3 : Int32) => (Option.bind (L_Mo_saysNumber_18 N N a0 v3 gm) fun (v8 : (Nat → Nat → Int32)) => (some v8)))
set_option maxHeartbeats 4000000 in
set_option maxRecDepth 100000 in
theorem r_Mo_saysNumber {X : Nat × (Nat → Int32)} (N : Nat) (gm : Nat → Nat → Int32) (a0 : Int32) : ∀ x, (F_Mo_saysNumber N a0 gm) = some x → sv_R X 2 M_Mo_saysNumber [.ref 0, .int a0] (W_Mo gm) none (W_Mo x) := by
  refine sv_Q.R (res := (fun (x : (Nat → Nat → Int32)) => ((none : Option Value), (W_Mo x)))) g_Mo_saysNumber rfl ?_
  unfold F_Mo_saysNumber
  refine sv_Q.s (σ' := (2, [some (.ref 0), some (.int a0), some (.int (1 : Int32))], [], (W_Mo gm))) 2 rfl ?_
  refine sv_Q.lo (fun v3 => (18, [some (.ref 0), some (.int a0), some (.int v3)], [], (W_Mo gm))) (fun v3 => ?_) (l_Mo_saysNumber_2 N N a0 (1 : Int32) gm)
  · refine sv_Q.lo (fun v8 => (43, [none, none, none], [], (W_Mo v8))) (fun v8 => ?_) (l_Mo_saysNumber_18 N N a0 v3 gm)
    · exact sv_Q.z ⟨True, rfl, trivial, rfl⟩
def L_Mo_label_26 (N : Nat) : Nat → Int32 → Int32 → (Nat → Nat → Int32) → Option ((Nat → Nat → Int32))
  | 0, _, _, _ => none
  | n + 1, x1, x2, gm => (if (4 : Int32) ≤ x2 then (some gm) else (Option.bind (F_Mo_says N (32 : Int32) gm) fun (v6 : (Nat → Nat → Int32)) => (Option.bind (F_Mo_box N x1 x2 v6) fun (v8 : Int32) => (if ¬ v8 = (-1 : Int32) then (Option.bind (F_Mo_box N x1 x2 v6) fun (v11 : Int32) => (Option.bind (F_Mo_saysNumber N v11 v6) fun (v13 : (Nat → Nat → Int32)) => (L_Mo_label_26 N n x1 (x2 + (1 : Int32)) v13))) else (Option.bind (F_Mo_says N (45 : Int32) v6) fun (v15 : (Nat → Nat → Int32)) => (L_Mo_label_26 N n x1 (x2 + (1 : Int32)) v15))))))
set_option maxHeartbeats 4000000 in
set_option maxRecDepth 100000 in
theorem l_Mo_label_26 {X : Nat × (Nat → Int32)} (N : Nat) : ∀ (n : Nat) (x1 : Int32) (x2 : Int32) (gm : Nat → Nat → Int32), sv_Q X 3 M_Mo_label (26, [some (.ref 0), some (.int x1), some (.int x2)], [], (W_Mo gm)) (L_Mo_label_26 N n x1 x2 gm) (fun v σ' => σ' = (72, [some (.ref 0), none, none], [], (W_Mo v))) := by
  intro n
  induction n with
  | zero => intro x1 x2 gm; unfold L_Mo_label_26; exact sv_Q.non
  | succ n ih =>
    intro x1 x2 gm
    unfold L_Mo_label_26
    refine sv_Q.s (σ' := (28, [some (.ref 0), some (.int x1), some (.int x2)], [.int (4 : Int32), .int x2], (W_Mo gm))) 2 rfl ?_
    refine sv_Q.b rfl (fun c5 => ?_) (fun c5 => ?_)
    · refine sv_Q.f (lo' := [some (.ref 0), none, none]) ⟨rfl, trivial⟩ ?_
      exact sv_Q.z rfl
    · refine sv_Q.s (σ' := (34, [some (.ref 0), some (.int x1), some (.int x2)], [.int (32 : Int32), .ref 0], (W_Mo gm))) 2 rfl ?_
      refine sv_Q.o (fun v6 e7 => ?_)
      refine sv_Q.V (b := 0) (av := [.int (32 : Int32)]) (ps := [0, 1, 2, 3, 4, 5, 6, 7, 8, 9, 10, 11, 12, 13, 14, 15, 16, 17, 18, 19, 20, 21, 22]) (rest := []) (cs1 := (W_Mo gm)) (cs2 := (W_Mo v6)) (st' := []) (cs' := (W_Mo v6)) (q := (34, .null, 0, 0, 0)) lk_Mo_489 (r_Mo_says N gm (32 : Int32) v6 e7) rfl rfl rfl rfl rfl (Or.inl ⟨12, _, _, rfl, rfl, rfl⟩) rfl rfl (sc_Mo_Mo_0 gm) rfl rfl (pc_Mo_Mo_0 gm v6) ?_
      refine sv_Q.s (σ' := (40, [some (.ref 0), some (.int x1), some (.int x2)], [.int x2, .int x1, .ref 0], (W_Mo v6))) 3 rfl ?_
      refine sv_Q.o (fun v8 e9 => ?_)
      refine sv_Q.V (b := 0) (av := [.int x1, .int x2]) (ps := [0, 1, 2, 3, 4, 5, 6, 7, 8, 9, 10, 11, 12, 13, 14, 15, 16, 17, 18, 19, 20, 21, 22]) (rest := []) (cs1 := (W_Mo v6)) (cs2 := (W_Mo v6)) (st' := [.int v8]) (cs' := (W_Mo v6)) (q := (40, .null, 0, 0, 0)) lk_Mo_492 (r_Mo_box N v6 x1 x2 v8 e9) rfl rfl rfl rfl rfl (Or.inl ⟨12, _, _, rfl, rfl, rfl⟩) rfl rfl (sc_Mo_Mo_0 v6) rfl rfl (pc_Mo_Mo_0 v6 v6) ?_
      refine sv_Q.s (σ' := (44, [some (.ref 0), some (.int x1), some (.int x2)], [.int (-1 : Int32), .int v8], (W_Mo v6))) 1 rfl ?_
      refine sv_Q.b rfl (fun c10 => ?_) (fun c10 => ?_)
      · refine sv_Q.s (σ' := (60, [some (.ref 0), some (.int x1), some (.int x2)], [.int x2, .int x1, .ref 0, .ref 0], (W_Mo v6))) 4 rfl ?_
        refine sv_Q.o (fun v11 e12 => ?_)
        refine sv_Q.V (b := 0) (av := [.int x1, .int x2]) (ps := [0, 1, 2, 3, 4, 5, 6, 7, 8, 9, 10, 11, 12, 13, 14, 15, 16, 17, 18, 19, 20, 21, 22]) (rest := [.ref 0]) (cs1 := (W_Mo v6)) (cs2 := (W_Mo v6)) (st' := [.int v11, .ref 0]) (cs' := (W_Mo v6)) (q := (60, .null, 0, 0, 0)) lk_Mo_492 (r_Mo_box N v6 x1 x2 v11 e12) rfl rfl rfl rfl rfl (Or.inl ⟨12, _, _, rfl, rfl, rfl⟩) rfl rfl (sc_Mo_Mo_0 v6) rfl rfl (pc_Mo_Mo_0 v6 v6) ?_
        refine sv_Q.o (fun v13 e14 => ?_)
        refine sv_Q.V (b := 0) (av := [.int v11]) (ps := [0, 1, 2, 3, 4, 5, 6, 7, 8, 9, 10, 11, 12, 13, 14, 15, 16, 17, 18, 19, 20, 21, 22]) (rest := []) (cs1 := (W_Mo v6)) (cs2 := (W_Mo v13)) (st' := []) (cs' := (W_Mo v13)) (q := (63, .null, 0, 0, 0)) lk_Mo_494 (r_Mo_saysNumber N v6 v11 v13 e14) rfl rfl rfl rfl rfl (Or.inl ⟨12, _, _, rfl, rfl, rfl⟩) rfl rfl (sc_Mo_Mo_0 v6) rfl rfl (pc_Mo_Mo_0 v6 v13) ?_
        refine sv_Q.s (σ' := (26, [some (.ref 0), some (.int x1), some (.int (x2 + (1 : Int32)))], [], (W_Mo v13))) 2 rfl ?_
        exact ih x1 (x2 + (1 : Int32)) v13
      · refine sv_Q.s (σ' := (50, [some (.ref 0), some (.int x1), some (.int x2)], [.int (45 : Int32), .ref 0], (W_Mo v6))) 2 rfl ?_
        refine sv_Q.o (fun v15 e16 => ?_)
        refine sv_Q.V (b := 0) (av := [.int (45 : Int32)]) (ps := [0, 1, 2, 3, 4, 5, 6, 7, 8, 9, 10, 11, 12, 13, 14, 15, 16, 17, 18, 19, 20, 21, 22]) (rest := []) (cs1 := (W_Mo v6)) (cs2 := (W_Mo v15)) (st' := []) (cs' := (W_Mo v15)) (q := (50, .null, 0, 0, 0)) lk_Mo_489 (r_Mo_says N v6 (45 : Int32) v15 e16) rfl rfl rfl rfl rfl (Or.inl ⟨12, _, _, rfl, rfl, rfl⟩) rfl rfl (sc_Mo_Mo_0 v6) rfl rfl (pc_Mo_Mo_0 v6 v15) ?_
        refine sv_Q.s (σ' := (26, [some (.ref 0), some (.int x1), some (.int (x2 + (1 : Int32)))], [], (W_Mo v15))) 3 rfl ?_
        exact ih x1 (x2 + (1 : Int32)) v15
def F_Mo_label (N : Nat) (a0 : Int32) (gm : Nat → Nat → Int32) : Option (Int32 × (Nat → Nat → Int32)) := (if ¬ (F_Mo_isBox a0 gm) = 0 then (sv_let (ss gm 46 (0 : Int32)) fun (gm_2 : Nat → Nat → Int32) => (Option.bind (F_Mo_says N ((97 : Int32) + a0) gm_2) fun (v3 : (Nat → Nat → Int32)) => (Option.bind (L_Mo_label_26 N N a0 (0 : Int32) v3) fun (v17 : (Nat → Nat → Int32)) => (some ((v17 0 46), v17))))) else (some ((-2 : Int32), gm)))
set_option maxHeartbeats 4000000 in
set_option maxRecDepth 100000 in
theorem r_Mo_label {X : Nat × (Nat → Int32)} (N : Nat) (gm : Nat → Nat → Int32) (a0 : Int32) : ∀ x, (F_Mo_label N a0 gm) = some x → sv_R X 4 M_Mo_label [.ref 0, .int a0] (W_Mo gm) (some (.int x.1)) (W_Mo x.2) := by
  refine sv_Q.R (res := (fun (x : Int32 × (Nat → Nat → Int32)) => (some (.int x.1), (W_Mo x.2)))) g_Mo_label rfl ?_
  unfold F_Mo_label
  refine sv_Q.s (σ' := (2, [some (.ref 0), some (.int a0), none], [.int a0, .ref 0], (W_Mo gm))) 2 rfl ?_
  refine sv_Q.V (b := 0) (av := [.int a0]) (ps := [0, 1, 2, 3, 4, 5, 6, 7, 8, 9, 10, 11, 12, 13, 14, 15, 16, 17, 18, 19, 20, 21, 22]) (rest := []) (cs1 := (W_Mo gm)) (cs2 := (W_Mo gm)) (st' := [.int (F_Mo_isBox a0 gm)]) (cs' := (W_Mo gm)) (q := (2, .null, 0, 0, 0)) lk_Mo_286 (t_Mo_isBox gm a0) rfl rfl rfl rfl rfl (Or.inl ⟨12, _, _, rfl, rfl, rfl⟩) rfl rfl (sc_Mo_Mo_0 gm) rfl rfl (pc_Mo_Mo_0 gm gm) ?_
  refine sv_Q.b rfl (fun c1 => ?_) (fun c1 => ?_)
  · refine sv_Q.s (σ' := (16, [some (.ref 0), some (.int a0), none], [], (W_Mo (ss gm 46 (0 : Int32))))) 3 rfl ?_
    refine sv_Q.go (fun gm_2 => (16, [some (.ref 0), some (.int a0), none], [], (W_Mo gm_2))) (fun gm_2 => ?_)
    refine sv_Q.s (σ' := (21, [some (.ref 0), some (.int a0), none], [.int ((97 : Int32) + a0), .ref 0], (W_Mo gm_2))) 4 rfl ?_
    refine sv_Q.o (fun v3 e4 => ?_)
    refine sv_Q.V (b := 0) (av := [.int ((97 : Int32) + a0)]) (ps := [0, 1, 2, 3, 4, 5, 6, 7, 8, 9, 10, 11, 12, 13, 14, 15, 16, 17, 18, 19, 20, 21, 22]) (rest := []) (cs1 := (W_Mo gm_2)) (cs2 := (W_Mo v3)) (st' := []) (cs' := (W_Mo v3)) (q := (21, .null, 0, 0, 0)) lk_Mo_489 (r_Mo_says N gm_2 ((97 : Int32) + a0) v3 e4) rfl rfl rfl rfl rfl (Or.inl ⟨12, _, _, rfl, rfl, rfl⟩) rfl rfl (sc_Mo_Mo_0 gm_2) rfl rfl (pc_Mo_Mo_0 gm_2 v3) ?_
    refine sv_Q.s (σ' := (26, [some (.ref 0), some (.int a0), some (.int (0 : Int32))], [], (W_Mo v3))) 2 rfl ?_
    refine sv_Q.lo (fun v17 => (72, [some (.ref 0), none, none], [], (W_Mo v17))) (fun v17 => ?_) (l_Mo_label_26 N N a0 (0 : Int32) v3)
    · refine sv_Q.s (σ' := (76, [some (.ref 0), none, none], [.int (v17 0 46)], (W_Mo v17))) 2 rfl ?_
      exact sv_Q.z ⟨True, rfl, trivial, rfl⟩
  · refine sv_Q.s (σ' := (10, [some (.ref 0), some (.int a0), none], [.int (-2 : Int32)], (W_Mo gm))) 1 rfl ?_
    exact sv_Q.z ⟨True, rfl, trivial, rfl⟩
def L_Mo_tell_36 (N : Nat) : Nat → Int32 → Int32 → Int32 → (Nat → Nat → Int32) → Option ((Nat → Nat → Int32))
  | 0, _, _, _, _ => none
  | n + 1, x1, x2, x3, gm => (if sv_in (1 : Int32) 90 then (if (gm 1 ((1 : Int32)).toNatClampNeg) ≤ x3 then (some gm) else (Option.bind (F_Mo_tiers N gm) fun (v11 : Int32) => (if sv_in (1 : Int32) 90 then (if sv_in ((v11 * (x3 + ((gm 1 ((1 : Int32)).toNatClampNeg) * x1))) + x2) 144 then (sv_let (if ¬ (gm 8 (((v11 * (x3 + ((gm 1 ((1 : Int32)).toNatClampNeg) * x1))) + x2)).toNatClampNeg) = (-1 : Int32) then ((97 : Int32) + (gm 8 (((v11 * (x3 + ((gm 1 ((1 : Int32)).toNatClampNeg) * x1))) + x2)).toNatClampNeg)) else (46 : Int32)) fun (v16 : Int32) => (Option.bind (F_Mo_says N v16 gm) fun (v17 : (Nat → Nat → Int32)) => (L_Mo_tell_36 N n x1 x2 (x3 + (1 : Int32)) v17))) else none) else none))) else none)
set_option maxHeartbeats 4000000 in
set_option maxRecDepth 100000 in
theorem l_Mo_tell_36 {X : Nat × (Nat → Int32)} (N : Nat) : ∀ (n : Nat) (x1 : Int32) (x2 : Int32) (x3 : Int32) (gm : Nat → Nat → Int32), sv_Q X 2 M_Mo_tell (36, [some (.ref 0), some (.int x1), some (.int x2), some (.int x3), none], [], (W_Mo gm)) (L_Mo_tell_36 N n x1 x2 x3 gm) (fun v σ' => σ' = (96, [some (.ref 0), some (.int x1), some (.int x2), none, none], [], (W_Mo v))) := by
  intro n
  induction n with
  | zero => intro x1 x2 x3 gm; unfold L_Mo_tell_36; exact sv_Q.non
  | succ n ih =>
    intro x1 x2 x3 gm
    unfold L_Mo_tell_36
    refine sv_Q.s (σ' := (42, [some (.ref 0), some (.int x1), some (.int x2), some (.int x3), none], [.int (1 : Int32), .ref 1, .int x3], (W_Mo gm))) 4 rfl ?_
    refine sv_Q.g (σ' := (43, [some (.ref 0), some (.int x1), some (.int x2), some (.int x3), none], [.int (gm 1 ((1 : Int32)).toNatClampNeg), .int x3], (W_Mo gm))) (c := sv_in (1 : Int32) 90) rfl (fun c9 => ?_)
    refine sv_Q.b rfl (fun c10 => ?_) (fun c10 => ?_)
    · refine sv_Q.f (lo' := [some (.ref 0), some (.int x1), some (.int x2), none, none]) ⟨rfl, ⟨rfl, ⟨rfl, trivial⟩⟩⟩ ?_
      exact sv_Q.z rfl
    · refine sv_Q.s (σ' := (51, [some (.ref 0), some (.int x1), some (.int x2), some (.int x3), none], [.ref 0, .ref 8], (W_Mo gm))) 3 rfl ?_
      refine sv_Q.o (fun v11 e12 => ?_)
      refine sv_Q.V (b := 0) (av := []) (ps := [0, 1, 2, 3, 4, 5, 6, 7, 8, 9, 10, 11, 12, 13, 14, 15, 16, 17, 18, 19, 20, 21, 22]) (rest := [.ref 8]) (cs1 := (W_Mo gm)) (cs2 := (W_Mo gm)) (st' := [.int v11, .ref 8]) (cs' := (W_Mo gm)) (q := (51, .null, 0, 0, 0)) lk_Mo_251 (r_Mo_tiers N gm v11 e12) rfl rfl rfl rfl rfl (Or.inl ⟨12, _, _, rfl, rfl, rfl⟩) rfl rfl (sc_Mo_Mo_0 gm) rfl rfl (pc_Mo_Mo_0 gm gm) ?_
      refine sv_Q.s (σ' := (60, [some (.ref 0), some (.int x1), some (.int x2), some (.int x3), none], [.int (1 : Int32), .ref 1, .int x3, .int v11, .ref 8], (W_Mo gm))) 4 rfl ?_
      refine sv_Q.g (σ' := (61, [some (.ref 0), some (.int x1), some (.int x2), some (.int x3), none], [.int (gm 1 ((1 : Int32)).toNatClampNeg), .int x3, .int v11, .ref 8], (W_Mo gm))) (c := sv_in (1 : Int32) 90) rfl (fun c13 => ?_)
      refine sv_Q.s (σ' := (67, [some (.ref 0), some (.int x1), some (.int x2), some (.int x3), none], [.int ((v11 * (x3 + ((gm 1 ((1 : Int32)).toNatClampNeg) * x1))) + x2), .ref 8], (W_Mo gm))) 6 rfl ?_
      refine sv_Q.g (σ' := (68, [some (.ref 0), some (.int x1), some (.int x2), some (.int x3), none], [.int (gm 8 (((v11 * (x3 + ((gm 1 ((1 : Int32)).toNatClampNeg) * x1))) + x2)).toNatClampNeg)], (W_Mo gm))) (c := sv_in ((v11 * (x3 + ((gm 1 ((1 : Int32)).toNatClampNeg) * x1))) + x2) 144) rfl (fun c14 => ?_)
      refine sv_Q.s (σ' := (74, [some (.ref 0), some (.int x1), some (.int x2), some (.int x3), some (.int (gm 8 (((v11 * (x3 + ((gm 1 ((1 : Int32)).toNatClampNeg) * x1))) + x2)).toNatClampNeg))], [.int (-1 : Int32), .int (gm 8 (((v11 * (x3 + ((gm 1 ((1 : Int32)).toNatClampNeg) * x1))) + x2)).toNatClampNeg), .ref 0], (W_Mo gm))) 4 rfl ?_
      refine sv_Q.l (fun v16 => (87, [some (.ref 0), some (.int x1), some (.int x2), some (.int x3), none], [.int v16, .ref 0], (W_Mo gm))) (fun v16 => ?_) ?_
      · refine sv_Q.o (fun v17 e18 => ?_)
        refine sv_Q.V (b := 0) (av := [.int v16]) (ps := [0, 1, 2, 3, 4, 5, 6, 7, 8, 9, 10, 11, 12, 13, 14, 15, 16, 17, 18, 19, 20, 21, 22]) (rest := []) (cs1 := (W_Mo gm)) (cs2 := (W_Mo v17)) (st' := []) (cs' := (W_Mo v17)) (q := (87, .null, 0, 0, 0)) lk_Mo_489 (r_Mo_says N gm v16 v17 e18) rfl rfl rfl rfl rfl (Or.inl ⟨12, _, _, rfl, rfl, rfl⟩) rfl rfl (sc_Mo_Mo_0 gm) rfl rfl (pc_Mo_Mo_0 gm v17) ?_
        refine sv_Q.s (σ' := (36, [some (.ref 0), some (.int x1), some (.int x2), some (.int (x3 + (1 : Int32))), none], [], (W_Mo v17))) 2 rfl ?_
        exact ih x1 x2 (x3 + (1 : Int32)) v17
      · refine sv_Q.sb rfl (fun c15 => ?_) (fun c15 => ?_)
        · refine sv_Q.s (σ' := (87, [some (.ref 0), some (.int x1), some (.int x2), some (.int x3), some (.int (gm 8 (((v11 * (x3 + ((gm 1 ((1 : Int32)).toNatClampNeg) * x1))) + x2)).toNatClampNeg))], [.int ((97 : Int32) + (gm 8 (((v11 * (x3 + ((gm 1 ((1 : Int32)).toNatClampNeg) * x1))) + x2)).toNatClampNeg)), .ref 0], (W_Mo gm))) 3 rfl ?_
          refine sv_Q.f (lo' := [some (.ref 0), some (.int x1), some (.int x2), some (.int x3), none]) ⟨rfl, ⟨rfl, ⟨rfl, ⟨rfl, trivial⟩⟩⟩⟩ ?_
          exact sv_Q.z rfl
        · refine sv_Q.s (σ' := (87, [some (.ref 0), some (.int x1), some (.int x2), some (.int x3), some (.int (gm 8 (((v11 * (x3 + ((gm 1 ((1 : Int32)).toNatClampNeg) * x1))) + x2)).toNatClampNeg))], [.int (46 : Int32), .ref 0], (W_Mo gm))) 2 rfl ?_
          refine sv_Q.f (lo' := [some (.ref 0), some (.int x1), some (.int x2), some (.int x3), none]) ⟨rfl, ⟨rfl, ⟨rfl, ⟨rfl, trivial⟩⟩⟩⟩ ?_
          exact sv_Q.z rfl
def L_Mo_tell_121 (N : Nat) : Nat → Int32 → Int32 → Int32 → (Nat → Nat → Int32) → Option ((Nat → Nat → Int32))
  | 0, _, _, _, _ => none
  | n + 1, x1, x2, x3, gm => (if sv_in (1 : Int32) 90 then (if (gm 1 ((1 : Int32)).toNatClampNeg) ≤ x3 then (some gm) else (Option.bind (F_Mo_says N (61 : Int32) gm) fun (v27 : (Nat → Nat → Int32)) => (L_Mo_tell_121 N n x1 x2 (x3 + (1 : Int32)) v27))) else none)
set_option maxHeartbeats 4000000 in
set_option maxRecDepth 100000 in
theorem l_Mo_tell_121 {X : Nat × (Nat → Int32)} (N : Nat) : ∀ (n : Nat) (x1 : Int32) (x2 : Int32) (x3 : Int32) (gm : Nat → Nat → Int32), sv_Q X 2 M_Mo_tell (121, [some (.ref 0), some (.int x1), some (.int x2), some (.int x3), none], [], (W_Mo gm)) (L_Mo_tell_121 N n x1 x2 x3 gm) (fun v σ' => σ' = (143, [some (.ref 0), some (.int x1), some (.int x2), none, none], [], (W_Mo v))) := by
  intro n
  induction n with
  | zero => intro x1 x2 x3 gm; unfold L_Mo_tell_121; exact sv_Q.non
  | succ n ih =>
    intro x1 x2 x3 gm
    unfold L_Mo_tell_121
    refine sv_Q.s (σ' := (127, [some (.ref 0), some (.int x1), some (.int x2), some (.int x3), none], [.int (1 : Int32), .ref 1, .int x3], (W_Mo gm))) 4 rfl ?_
    refine sv_Q.g (σ' := (128, [some (.ref 0), some (.int x1), some (.int x2), some (.int x3), none], [.int (gm 1 ((1 : Int32)).toNatClampNeg), .int x3], (W_Mo gm))) (c := sv_in (1 : Int32) 90) rfl (fun c25 => ?_)
    refine sv_Q.b rfl (fun c26 => ?_) (fun c26 => ?_)
    · refine sv_Q.f (lo' := [some (.ref 0), some (.int x1), some (.int x2), none, none]) ⟨rfl, ⟨rfl, ⟨rfl, trivial⟩⟩⟩ ?_
      exact sv_Q.z rfl
    · refine sv_Q.s (σ' := (134, [some (.ref 0), some (.int x1), some (.int x2), some (.int x3), none], [.int (61 : Int32), .ref 0], (W_Mo gm))) 2 rfl ?_
      refine sv_Q.o (fun v27 e28 => ?_)
      refine sv_Q.V (b := 0) (av := [.int (61 : Int32)]) (ps := [0, 1, 2, 3, 4, 5, 6, 7, 8, 9, 10, 11, 12, 13, 14, 15, 16, 17, 18, 19, 20, 21, 22]) (rest := []) (cs1 := (W_Mo gm)) (cs2 := (W_Mo v27)) (st' := []) (cs' := (W_Mo v27)) (q := (134, .null, 0, 0, 0)) lk_Mo_489 (r_Mo_says N gm (61 : Int32) v27 e28) rfl rfl rfl rfl rfl (Or.inl ⟨12, _, _, rfl, rfl, rfl⟩) rfl rfl (sc_Mo_Mo_0 gm) rfl rfl (pc_Mo_Mo_0 gm v27) ?_
      refine sv_Q.s (σ' := (121, [some (.ref 0), some (.int x1), some (.int x2), some (.int (x3 + (1 : Int32))), none], [], (W_Mo v27))) 2 rfl ?_
      exact ih x1 x2 (x3 + (1 : Int32)) v27
def L_Mo_tell_30 (N : Nat) : Nat → Int32 → Int32 → (Nat → Nat → Int32) → Option ((Nat → Nat → Int32))
  | 0, _, _, _ => none
  | n + 1, x1, x2, gm => (if x2 < 0 then (some gm) else (Option.bind (L_Mo_tell_36 N N x1 x2 (0 : Int32) gm) fun (v19 : (Nat → Nat → Int32)) => (Option.bind (F_Mo_says N (10 : Int32) v19) fun (v20 : (Nat → Nat → Int32)) => (if sv_in (2 : Int32) 90 then (if ¬ x2 = (v20 1 ((2 : Int32)).toNatClampNeg) then (L_Mo_tell_30 N n x1 (x2 + (-1 : Int32)) v20) else (if ¬ x2 = 0 then (Option.bind (L_Mo_tell_121 N N x1 x2 (0 : Int32) v20) fun (v29 : (Nat → Nat → Int32)) => (Option.bind (F_Mo_says N (10 : Int32) v29) fun (v30 : (Nat → Nat → Int32)) => (L_Mo_tell_30 N n x1 (x2 + (-1 : Int32)) v30))) else (L_Mo_tell_30 N n x1 (x2 + (-1 : Int32)) v20))) else none))))
set_option maxHeartbeats 4000000 in
set_option maxRecDepth 100000 in
theorem l_Mo_tell_30 {X : Nat × (Nat → Int32)} (N : Nat) : ∀ (n : Nat) (x1 : Int32) (x2 : Int32) (gm : Nat → Nat → Int32), sv_Q X 2 M_Mo_tell (30, [some (.ref 0), some (.int x1), some (.int x2), none, none], [], (W_Mo gm)) (L_Mo_tell_30 N n x1 x2 gm) (fun v σ' => σ' = (155, [some (.ref 0), none, none, none, none], [], (W_Mo v))) := by
  intro n
  induction n with
  | zero => intro x1 x2 gm; unfold L_Mo_tell_30; exact sv_Q.non
  | succ n ih =>
    intro x1 x2 gm
    unfold L_Mo_tell_30
    refine sv_Q.s (σ' := (31, [some (.ref 0), some (.int x1), some (.int x2), none, none], [.int x2], (W_Mo gm))) 1 rfl ?_
    refine sv_Q.b rfl (fun c8 => ?_) (fun c8 => ?_)
    · refine sv_Q.f (lo' := [some (.ref 0), none, none, none, none]) ⟨rfl, trivial⟩ ?_
      exact sv_Q.z rfl
    · refine sv_Q.s (σ' := (36, [some (.ref 0), some (.int x1), some (.int x2), some (.int (0 : Int32)), none], [], (W_Mo gm))) 2 rfl ?_
      refine sv_Q.lo (fun v19 => (96, [some (.ref 0), some (.int x1), some (.int x2), none, none], [], (W_Mo v19))) (fun v19 => ?_) (l_Mo_tell_36 N N x1 x2 (0 : Int32) gm)
      · refine sv_Q.s (σ' := (99, [some (.ref 0), some (.int x1), some (.int x2), none, none], [.int (10 : Int32), .ref 0], (W_Mo v19))) 2 rfl ?_
        refine sv_Q.o (fun v20 e21 => ?_)
        refine sv_Q.V (b := 0) (av := [.int (10 : Int32)]) (ps := [0, 1, 2, 3, 4, 5, 6, 7, 8, 9, 10, 11, 12, 13, 14, 15, 16, 17, 18, 19, 20, 21, 22]) (rest := []) (cs1 := (W_Mo v19)) (cs2 := (W_Mo v20)) (st' := []) (cs' := (W_Mo v20)) (q := (99, .null, 0, 0, 0)) lk_Mo_489 (r_Mo_says N v19 (10 : Int32) v20 e21) rfl rfl rfl rfl rfl (Or.inl ⟨12, _, _, rfl, rfl, rfl⟩) rfl rfl (sc_Mo_Mo_0 v19) rfl rfl (pc_Mo_Mo_0 v19 v20) ?_
        refine sv_Q.s (σ' := (108, [some (.ref 0), some (.int x1), some (.int x2), none, none], [.int (2 : Int32), .ref 1, .int x2], (W_Mo v20))) 4 rfl ?_
        refine sv_Q.g (σ' := (109, [some (.ref 0), some (.int x1), some (.int x2), none, none], [.int (v20 1 ((2 : Int32)).toNatClampNeg), .int x2], (W_Mo v20))) (c := sv_in (2 : Int32) 90) rfl (fun c22 => ?_)
        refine sv_Q.b rfl (fun c23 => ?_) (fun c23 => ?_)
        · refine sv_Q.s (σ' := (30, [some (.ref 0), some (.int x1), some (.int (x2 + (-1 : Int32))), none, none], [], (W_Mo v20))) 2 rfl ?_
          exact ih x1 (x2 + (-1 : Int32)) v20
        · refine sv_Q.s (σ' := (113, [some (.ref 0), some (.int x1), some (.int x2), none, none], [.int x2], (W_Mo v20))) 1 rfl ?_
          refine sv_Q.b rfl (fun c24 => ?_) (fun c24 => ?_)
          · refine sv_Q.s (σ' := (121, [some (.ref 0), some (.int x1), some (.int x2), some (.int (0 : Int32)), none], [], (W_Mo v20))) 2 rfl ?_
            refine sv_Q.lo (fun v29 => (143, [some (.ref 0), some (.int x1), some (.int x2), none, none], [], (W_Mo v29))) (fun v29 => ?_) (l_Mo_tell_121 N N x1 x2 (0 : Int32) v20)
            · refine sv_Q.s (σ' := (146, [some (.ref 0), some (.int x1), some (.int x2), none, none], [.int (10 : Int32), .ref 0], (W_Mo v29))) 2 rfl ?_
              refine sv_Q.o (fun v30 e31 => ?_)
              refine sv_Q.V (b := 0) (av := [.int (10 : Int32)]) (ps := [0, 1, 2, 3, 4, 5, 6, 7, 8, 9, 10, 11, 12, 13, 14, 15, 16, 17, 18, 19, 20, 21, 22]) (rest := []) (cs1 := (W_Mo v29)) (cs2 := (W_Mo v30)) (st' := []) (cs' := (W_Mo v30)) (q := (146, .null, 0, 0, 0)) lk_Mo_489 (r_Mo_says N v29 (10 : Int32) v30 e31) rfl rfl rfl rfl rfl (Or.inl ⟨12, _, _, rfl, rfl, rfl⟩) rfl rfl (sc_Mo_Mo_0 v29) rfl rfl (pc_Mo_Mo_0 v29 v30) ?_
              refine sv_Q.s (σ' := (30, [some (.ref 0), some (.int x1), some (.int (x2 + (-1 : Int32))), none, none], [], (W_Mo v30))) 2 rfl ?_
              exact ih x1 (x2 + (-1 : Int32)) v30
          · refine sv_Q.s (σ' := (30, [some (.ref 0), some (.int x1), some (.int (x2 + (-1 : Int32))), none, none], [], (W_Mo v20))) 3 rfl ?_
            exact ih x1 (x2 + (-1 : Int32)) v20
def F_Mo_tell (N : Nat) (a0 : Int32) (gm : Nat → Nat → Int32) : Option (Int32 × (Nat → Nat → Int32)) := (if (gm 0 1) = 0 then (some ((-2 : Int32), gm)) else (Option.bind (F_Mo_isBay N a0 gm) fun (v2 : Int32) => (if ¬ v2 = 0 then (sv_let (ss gm 46 (0 : Int32)) fun (gm_5 : Nat → Nat → Int32) => (Option.bind (F_Mo_tiers N gm_5) fun (v6 : Int32) => (Option.bind (L_Mo_tell_30 N N a0 (v6 - (1 : Int32)) gm_5) fun (v32 : (Nat → Nat → Int32)) => (some ((v32 0 46), v32))))) else (some ((-2 : Int32), gm)))))
set_option maxHeartbeats 4000000 in
set_option maxRecDepth 100000 in
theorem r_Mo_tell {X : Nat × (Nat → Int32)} (N : Nat) (gm : Nat → Nat → Int32) (a0 : Int32) : ∀ x, (F_Mo_tell N a0 gm) = some x → sv_R X 3 M_Mo_tell [.ref 0, .int a0] (W_Mo gm) (some (.int x.1)) (W_Mo x.2) := by
  refine sv_Q.R (res := (fun (x : Int32 × (Nat → Nat → Int32)) => (some (.int x.1), (W_Mo x.2)))) g_Mo_tell rfl ?_
  unfold F_Mo_tell
  refine sv_Q.s (σ' := (4, [some (.ref 0), some (.int a0), none, none, none], [.int (gm 0 1)], (W_Mo gm))) 2 rfl ?_
  refine sv_Q.b rfl (fun c1 => ?_) (fun c1 => ?_)
  · refine sv_Q.s (σ' := (17, [some (.ref 0), some (.int a0), none, none, none], [.int (-2 : Int32)], (W_Mo gm))) 1 rfl ?_
    exact sv_Q.z ⟨True, rfl, trivial, rfl⟩
  · refine sv_Q.s (σ' := (9, [some (.ref 0), some (.int a0), none, none, none], [.int a0, .ref 0], (W_Mo gm))) 2 rfl ?_
    refine sv_Q.o (fun v2 e3 => ?_)
    refine sv_Q.V (b := 0) (av := [.int a0]) (ps := [0, 1, 2, 3, 4, 5, 6, 7, 8, 9, 10, 11, 12, 13, 14, 15, 16, 17, 18, 19, 20, 21, 22]) (rest := []) (cs1 := (W_Mo gm)) (cs2 := (W_Mo gm)) (st' := [.int v2]) (cs' := (W_Mo gm)) (q := (9, .null, 0, 0, 0)) lk_Mo_369 (r_Mo_isBay N gm a0 v2 e3) rfl rfl rfl rfl rfl (Or.inl ⟨12, _, _, rfl, rfl, rfl⟩) rfl rfl (sc_Mo_Mo_0 gm) rfl rfl (pc_Mo_Mo_0 gm gm) ?_
    refine sv_Q.b rfl (fun c4 => ?_) (fun c4 => ?_)
    · refine sv_Q.s (σ' := (23, [some (.ref 0), some (.int a0), none, none, none], [], (W_Mo (ss gm 46 (0 : Int32))))) 3 rfl ?_
      refine sv_Q.go (fun gm_5 => (23, [some (.ref 0), some (.int a0), none, none, none], [], (W_Mo gm_5))) (fun gm_5 => ?_)
      refine sv_Q.s (σ' := (24, [some (.ref 0), some (.int a0), none, none, none], [.ref 0], (W_Mo gm_5))) 1 rfl ?_
      refine sv_Q.o (fun v6 e7 => ?_)
      refine sv_Q.V (b := 0) (av := []) (ps := [0, 1, 2, 3, 4, 5, 6, 7, 8, 9, 10, 11, 12, 13, 14, 15, 16, 17, 18, 19, 20, 21, 22]) (rest := []) (cs1 := (W_Mo gm_5)) (cs2 := (W_Mo gm_5)) (st' := [.int v6]) (cs' := (W_Mo gm_5)) (q := (24, .null, 0, 0, 0)) lk_Mo_251 (r_Mo_tiers N gm_5 v6 e7) rfl rfl rfl rfl rfl (Or.inl ⟨12, _, _, rfl, rfl, rfl⟩) rfl rfl (sc_Mo_Mo_0 gm_5) rfl rfl (pc_Mo_Mo_0 gm_5 gm_5) ?_
      refine sv_Q.s (σ' := (30, [some (.ref 0), some (.int a0), some (.int (v6 - (1 : Int32))), none, none], [], (W_Mo gm_5))) 3 rfl ?_
      refine sv_Q.lo (fun v32 => (155, [some (.ref 0), none, none, none, none], [], (W_Mo v32))) (fun v32 => ?_) (l_Mo_tell_30 N N a0 (v6 - (1 : Int32)) gm_5)
      · refine sv_Q.s (σ' := (159, [some (.ref 0), none, none, none, none], [.int (v32 0 46)], (W_Mo v32))) 2 rfl ?_
        exact sv_Q.z ⟨True, rfl, trivial, rfl⟩
    · refine sv_Q.s (σ' := (17, [some (.ref 0), some (.int a0), none, none, none], [.int (-2 : Int32)], (W_Mo gm))) 1 rfl ?_
      exact sv_Q.z ⟨True, rfl, trivial, rfl⟩
def F_Mo_octet (N : Nat) (a0 : Int32) (gm : Nat → Nat → Int32) : Option (Int32) := (if (F_Mo_in ((a0).toInt64) (0 : Int64) ((((gm 0 46) - (1 : Int32))).toInt64)) = 0 then (some (-1 : Int32)) else (if sv_in a0 60 then (some (gm 22 (a0).toNatClampNeg)) else none))
set_option maxHeartbeats 4000000 in
set_option maxRecDepth 100000 in
theorem r_Mo_octet {X : Nat × (Nat → Int32)} (N : Nat) (gm : Nat → Nat → Int32) (a0 : Int32) : ∀ x, (F_Mo_octet N a0 gm) = some x → sv_R X 2 M_Mo_octet [.ref 0, .int a0] (W_Mo gm) (some (.int x)) (W_Mo gm) := by
  refine sv_Q.R (res := (fun (x : Int32) => (some (.int x), (W_Mo gm)))) g_Mo_octet rfl ?_
  unfold F_Mo_octet
  refine sv_Q.s (σ' := (10, [some (.ref 0), some (.int a0)], [.long ((((gm 0 46) - (1 : Int32))).toInt64), .long (0 : Int64), .long ((a0).toInt64)], (W_Mo gm))) 8 rfl ?_
  refine sv_Q.S (ps := []) (rest := []) (cs1 := []) (cs2 := []) (st' := [.int (F_Mo_in ((a0).toInt64) (0 : Int64) ((((gm 0 46) - (1 : Int32))).toInt64))]) (cs' := (W_Mo gm)) (q := (10, .null, 0, 0, 0)) lk_Mo_97 (t_Mo_in ((a0).toInt64) (0 : Int64) ((((gm 0 46) - (1 : Int32))).toInt64)) rfl rfl rfl rfl rfl rfl rfl rfl rfl rfl (sv_pt_nil _ _) ?_
  refine sv_Q.b rfl (fun c1 => ?_) (fun c1 => ?_)
  · refine sv_Q.s (σ' := (26, [some (.ref 0), some (.int a0)], [.int (-1 : Int32)], (W_Mo gm))) 1 rfl ?_
    exact sv_Q.z ⟨True, rfl, trivial, rfl⟩
  · refine sv_Q.s (σ' := (21, [some (.ref 0), some (.int a0)], [.int a0, .ref 22], (W_Mo gm))) 3 rfl ?_
    refine sv_Q.g (σ' := (22, [some (.ref 0), some (.int a0)], [.int (gm 22 (a0).toNatClampNeg)], (W_Mo gm))) (c := sv_in a0 60) rfl (fun c2 => ?_)
    refine sv_Q.s (σ' := (26, [some (.ref 0), some (.int a0)], [.int (gm 22 (a0).toNatClampNeg)], (W_Mo gm))) 1 rfl ?_
    exact sv_Q.z ⟨True, rfl, trivial, rfl⟩
