/-! the reference, 1, by program out of the listing -/
def F_Mo_fault (a0 : Int32) (gm : Nat → Nat → Int32) : Int32 := (if ¬ a0 = 0 then (if ¬ a0 = (1 : Int32) then (-1 : Int32) else (gm 0 21)) else (gm 0 20))
set_option maxHeartbeats 4000000 in
set_option maxRecDepth 100000 in
theorem r_Mo_fault {X : Nat × (Nat → Int32)} (gm : Nat → Nat → Int32) (a0 : Int32) : ∀ x, some (F_Mo_fault a0 gm) = some x → sv_R X 1 M_Mo_fault [.ref 0, .int a0] (W_Mo gm) (some (.int x)) (W_Mo gm) := by
  refine sv_Q.R (res := (fun (x : Int32) => (some (.int x), (W_Mo gm)))) g_Mo_fault rfl ?_
  unfold F_Mo_fault
  refine sv_Q.s (σ' := (1, [some (.ref 0), some (.int a0)], [.int a0], (W_Mo gm))) 1 rfl ?_
  refine sv_Q.sb rfl (fun c1 => ?_) (fun c1 => ?_)
  · refine sv_Q.s (σ' := (13, [some (.ref 0), some (.int a0)], [.int (1 : Int32), .int a0], (W_Mo gm))) 2 rfl ?_
    refine sv_Q.sb rfl (fun c2 => ?_) (fun c2 => ?_)
    · refine sv_Q.s (σ' := (24, [some (.ref 0), some (.int a0)], [.int (-1 : Int32)], (W_Mo gm))) 1 rfl ?_
      exact sv_Q.z ⟨True, rfl, trivial, rfl⟩
    · refine sv_Q.s (σ' := (24, [some (.ref 0), some (.int a0)], [.int (gm 0 21)], (W_Mo gm))) 3 rfl ?_
      exact sv_Q.z ⟨True, rfl, trivial, rfl⟩
  · refine sv_Q.s (σ' := (24, [some (.ref 0), some (.int a0)], [.int (gm 0 20)], (W_Mo gm))) 3 rfl ?_
    exact sv_Q.z ⟨True, rfl, trivial, rfl⟩
theorem t_Mo_fault {X : Nat × (Nat → Int32)} (gm : Nat → Nat → Int32) (a0 : Int32) : sv_R X 1 M_Mo_fault [.ref 0, .int a0] (W_Mo gm) (some (.int (F_Mo_fault a0 gm))) (W_Mo gm) := r_Mo_fault gm a0 _ rfl
def F_Mo_tiers (N : Nat) (gm : Nat → Nat → Int32) : Option (Int32) := (if sv_in (2 : Int32) 90 then (if sv_in (3 : Int32) 90 then (some ((gm 1 ((2 : Int32)).toNatClampNeg) + (gm 1 ((3 : Int32)).toNatClampNeg))) else none) else none)
set_option maxHeartbeats 4000000 in
set_option maxRecDepth 100000 in
theorem r_Mo_tiers {X : Nat × (Nat → Int32)} (N : Nat) (gm : Nat → Nat → Int32) : ∀ x, (F_Mo_tiers N gm) = some x → sv_R X 1 M_Mo_tiers [.ref 0] (W_Mo gm) (some (.int x)) (W_Mo gm) := by
  refine sv_Q.R (res := (fun (x : Int32) => (some (.int x), (W_Mo gm)))) g_Mo_tiers rfl ?_
  unfold F_Mo_tiers
  refine sv_Q.s (σ' := (5, [some (.ref 0)], [.int (2 : Int32), .ref 1], (W_Mo gm))) 3 rfl ?_
  refine sv_Q.g (σ' := (6, [some (.ref 0)], [.int (gm 1 ((2 : Int32)).toNatClampNeg)], (W_Mo gm))) (c := sv_in (2 : Int32) 90) rfl (fun c1 => ?_)
  refine sv_Q.s (σ' := (11, [some (.ref 0)], [.int (3 : Int32), .ref 1, .int (gm 1 ((2 : Int32)).toNatClampNeg)], (W_Mo gm))) 3 rfl ?_
  refine sv_Q.g (σ' := (12, [some (.ref 0)], [.int (gm 1 ((3 : Int32)).toNatClampNeg), .int (gm 1 ((2 : Int32)).toNatClampNeg)], (W_Mo gm))) (c := sv_in (3 : Int32) 90) rfl (fun c2 => ?_)
  refine sv_Q.s (σ' := (13, [some (.ref 0)], [.int ((gm 1 ((2 : Int32)).toNatClampNeg) + (gm 1 ((3 : Int32)).toNatClampNeg))], (W_Mo gm))) 1 rfl ?_
  exact sv_Q.z ⟨True, rfl, trivial, rfl⟩
def F_Mo_places (N : Nat) (gm : Nat → Nat → Int32) : Option (Int32) := (if sv_in (0 : Int32) 90 then (if sv_in (1 : Int32) 90 then (Option.bind (F_Mo_tiers N gm) fun (v3 : Int32) => (some (((gm 1 ((0 : Int32)).toNatClampNeg) * (gm 1 ((1 : Int32)).toNatClampNeg)) * v3))) else none) else none)
set_option maxHeartbeats 4000000 in
set_option maxRecDepth 100000 in
theorem r_Mo_places {X : Nat × (Nat → Int32)} (N : Nat) (gm : Nat → Nat → Int32) : ∀ x, (F_Mo_places N gm) = some x → sv_R X 2 M_Mo_places [.ref 0] (W_Mo gm) (some (.int x)) (W_Mo gm) := by
  refine sv_Q.R (res := (fun (x : Int32) => (some (.int x), (W_Mo gm)))) g_Mo_places rfl ?_
  unfold F_Mo_places
  refine sv_Q.s (σ' := (5, [some (.ref 0)], [.int (0 : Int32), .ref 1], (W_Mo gm))) 3 rfl ?_
  refine sv_Q.g (σ' := (6, [some (.ref 0)], [.int (gm 1 ((0 : Int32)).toNatClampNeg)], (W_Mo gm))) (c := sv_in (0 : Int32) 90) rfl (fun c1 => ?_)
  refine sv_Q.s (σ' := (11, [some (.ref 0)], [.int (1 : Int32), .ref 1, .int (gm 1 ((0 : Int32)).toNatClampNeg)], (W_Mo gm))) 3 rfl ?_
  refine sv_Q.g (σ' := (12, [some (.ref 0)], [.int (gm 1 ((1 : Int32)).toNatClampNeg), .int (gm 1 ((0 : Int32)).toNatClampNeg)], (W_Mo gm))) (c := sv_in (1 : Int32) 90) rfl (fun c2 => ?_)
  refine sv_Q.s (σ' := (14, [some (.ref 0)], [.ref 0, .int ((gm 1 ((0 : Int32)).toNatClampNeg) * (gm 1 ((1 : Int32)).toNatClampNeg))], (W_Mo gm))) 2 rfl ?_
  refine sv_Q.o (fun v3 e4 => ?_)
  refine sv_Q.V (b := 0) (av := []) (ps := [0, 1, 2, 3, 4, 5, 6, 7, 8, 9, 10, 11, 12, 13, 14, 15, 16, 17, 18, 19, 20, 21, 22]) (rest := [.int ((gm 1 ((0 : Int32)).toNatClampNeg) * (gm 1 ((1 : Int32)).toNatClampNeg))]) (cs1 := (W_Mo gm)) (cs2 := (W_Mo gm)) (st' := [.int v3, .int ((gm 1 ((0 : Int32)).toNatClampNeg) * (gm 1 ((1 : Int32)).toNatClampNeg))]) (cs' := (W_Mo gm)) (q := (14, .null, 0, 0, 0)) lk_Mo_251 (r_Mo_tiers N gm v3 e4) rfl rfl rfl rfl rfl (Or.inl ⟨12, _, _, rfl, rfl, rfl⟩) rfl rfl (sc_Mo_Mo_0 gm) rfl rfl (pc_Mo_Mo_0 gm gm) ?_
  refine sv_Q.s (σ' := (18, [some (.ref 0)], [.int (((gm 1 ((0 : Int32)).toNatClampNeg) * (gm 1 ((1 : Int32)).toNatClampNeg)) * v3)], (W_Mo gm))) 1 rfl ?_
  exact sv_Q.z ⟨True, rfl, trivial, rfl⟩
def F_Mo_isPlace (N : Nat) (a0 : Int32) (gm : Nat → Nat → Int32) : Option (Int32) := (if (gm 0 1) = 0 then (some (0 : Int32)) else (Option.bind (F_Mo_places N gm) fun (v2 : Int32) => (if (F_Mo_in ((a0).toInt64) (0 : Int64) (((v2 - (1 : Int32))).toInt64)) = 0 then (some (0 : Int32)) else (some (1 : Int32)))))
set_option maxHeartbeats 4000000 in
set_option maxRecDepth 100000 in
theorem r_Mo_isPlace {X : Nat × (Nat → Int32)} (N : Nat) (gm : Nat → Nat → Int32) (a0 : Int32) : ∀ x, (F_Mo_isPlace N a0 gm) = some x → sv_R X 3 M_Mo_isPlace [.ref 0, .int a0] (W_Mo gm) (some (.int x)) (W_Mo gm) := by
  refine sv_Q.R (res := (fun (x : Int32) => (some (.int x), (W_Mo gm)))) g_Mo_isPlace rfl ?_
  unfold F_Mo_isPlace
  refine sv_Q.s (σ' := (4, [some (.ref 0), some (.int a0)], [.int (gm 0 1)], (W_Mo gm))) 2 rfl ?_
  refine sv_Q.b rfl (fun c1 => ?_) (fun c1 => ?_)
  · refine sv_Q.s (σ' := (28, [some (.ref 0), some (.int a0)], [.int (0 : Int32)], (W_Mo gm))) 1 rfl ?_
    exact sv_Q.z ⟨sv_01 (0 : Int32), rfl, Or.inl rfl, rfl⟩
  · refine sv_Q.s (σ' := (11, [some (.ref 0), some (.int a0)], [.ref 0, .long (0 : Int64), .long ((a0).toInt64)], (W_Mo gm))) 4 rfl ?_
    refine sv_Q.o (fun v2 e3 => ?_)
    refine sv_Q.V (b := 0) (av := []) (ps := [0, 1, 2, 3, 4, 5, 6, 7, 8, 9, 10, 11, 12, 13, 14, 15, 16, 17, 18, 19, 20, 21, 22]) (rest := [.long (0 : Int64), .long ((a0).toInt64)]) (cs1 := (W_Mo gm)) (cs2 := (W_Mo gm)) (st' := [.int v2, .long (0 : Int64), .long ((a0).toInt64)]) (cs' := (W_Mo gm)) (q := (11, .null, 0, 0, 0)) lk_Mo_254 (r_Mo_places N gm v2 e3) rfl rfl rfl rfl rfl (Or.inl ⟨12, _, _, rfl, rfl, rfl⟩) rfl rfl (sc_Mo_Mo_0 gm) rfl rfl (pc_Mo_Mo_0 gm gm) ?_
    refine sv_Q.s (σ' := (17, [some (.ref 0), some (.int a0)], [.long (((v2 - (1 : Int32))).toInt64), .long (0 : Int64), .long ((a0).toInt64)], (W_Mo gm))) 3 rfl ?_
    refine sv_Q.S (ps := []) (rest := []) (cs1 := []) (cs2 := []) (st' := [.int (F_Mo_in ((a0).toInt64) (0 : Int64) (((v2 - (1 : Int32))).toInt64))]) (cs' := (W_Mo gm)) (q := (17, .null, 0, 0, 0)) lk_Mo_97 (t_Mo_in ((a0).toInt64) (0 : Int64) (((v2 - (1 : Int32))).toInt64)) rfl rfl rfl rfl rfl rfl rfl rfl rfl rfl (sv_pt_nil _ _) ?_
    refine sv_Q.b rfl (fun c4 => ?_) (fun c4 => ?_)
    · refine sv_Q.s (σ' := (28, [some (.ref 0), some (.int a0)], [.int (0 : Int32)], (W_Mo gm))) 1 rfl ?_
      exact sv_Q.z ⟨sv_01 (0 : Int32), rfl, Or.inl rfl, rfl⟩
    · refine sv_Q.s (σ' := (28, [some (.ref 0), some (.int a0)], [.int (1 : Int32)], (W_Mo gm))) 2 rfl ?_
      exact sv_Q.z ⟨sv_01 (1 : Int32), rfl, Or.inr rfl, rfl⟩
def F_Mo_isBox (a0 : Int32) (gm : Nat → Nat → Int32) : Int32 := (F_Mo_in ((a0).toInt64) (0 : Int64) ((((gm 0 6) - (1 : Int32))).toInt64))
set_option maxHeartbeats 4000000 in
set_option maxRecDepth 100000 in
theorem r_Mo_isBox {X : Nat × (Nat → Int32)} (gm : Nat → Nat → Int32) (a0 : Int32) : ∀ x, some (F_Mo_isBox a0 gm) = some x → sv_R X 2 M_Mo_isBox [.ref 0, .int a0] (W_Mo gm) (some (.int x)) (W_Mo gm) := by
  refine sv_Q.R (res := (fun (x : Int32) => (some (.int x), (W_Mo gm)))) g_Mo_isBox rfl ?_
  unfold F_Mo_isBox
  refine sv_Q.s (σ' := (10, [some (.ref 0), some (.int a0)], [.long ((((gm 0 6) - (1 : Int32))).toInt64), .long (0 : Int64), .long ((a0).toInt64)], (W_Mo gm))) 8 rfl ?_
  refine sv_Q.S (ps := []) (rest := []) (cs1 := []) (cs2 := []) (st' := [.int (F_Mo_in ((a0).toInt64) (0 : Int64) ((((gm 0 6) - (1 : Int32))).toInt64))]) (cs' := (W_Mo gm)) (q := (10, .null, 0, 0, 0)) lk_Mo_97 (t_Mo_in ((a0).toInt64) (0 : Int64) ((((gm 0 6) - (1 : Int32))).toInt64)) rfl rfl rfl rfl rfl rfl rfl rfl rfl rfl (sv_pt_nil _ _) ?_
  exact sv_Q.z ⟨sv_01 (F_Mo_in ((a0).toInt64) (0 : Int64) ((((gm 0 6) - (1 : Int32))).toInt64)), rfl, b_Mo_in ((a0).toInt64) (0 : Int64) ((((gm 0 6) - (1 : Int32))).toInt64), rfl⟩
theorem t_Mo_isBox {X : Nat × (Nat → Int32)} (gm : Nat → Nat → Int32) (a0 : Int32) : sv_R X 2 M_Mo_isBox [.ref 0, .int a0] (W_Mo gm) (some (.int (F_Mo_isBox a0 gm))) (W_Mo gm) := r_Mo_isBox gm a0 _ rfl
theorem b_Mo_isBox (a0 : Int32) (gm : Nat → Nat → Int32) : sv_01 (F_Mo_isBox a0 gm) := by
  unfold F_Mo_isBox
  try simp only [sv_let]
  repeat' split
  all_goals first | exact Or.inl rfl | exact Or.inr rfl | apply b_Mo_in
def F_Mo_isKind (N : Nat) (a0 : Int32) (gm : Nat → Nat → Int32) : Option (Int32) := (if sv_in (6 : Int32) 90 then (some (F_Mo_in ((a0).toInt64) (0 : Int64) ((((gm 1 ((6 : Int32)).toNatClampNeg) - (1 : Int32))).toInt64))) else none)
set_option maxHeartbeats 4000000 in
set_option maxRecDepth 100000 in
theorem r_Mo_isKind {X : Nat × (Nat → Int32)} (N : Nat) (gm : Nat → Nat → Int32) (a0 : Int32) : ∀ x, (F_Mo_isKind N a0 gm) = some x → sv_R X 2 M_Mo_isKind [.ref 0, .int a0] (W_Mo gm) (some (.int x)) (W_Mo gm) := by
  refine sv_Q.R (res := (fun (x : Int32) => (some (.int x), (W_Mo gm)))) g_Mo_isKind rfl ?_
  unfold F_Mo_isKind
  refine sv_Q.s (σ' := (9, [some (.ref 0), some (.int a0)], [.int (6 : Int32), .ref 1, .long (0 : Int64), .long ((a0).toInt64)], (W_Mo gm))) 6 rfl ?_
  refine sv_Q.g (σ' := (10, [some (.ref 0), some (.int a0)], [.int (gm 1 ((6 : Int32)).toNatClampNeg), .long (0 : Int64), .long ((a0).toInt64)], (W_Mo gm))) (c := sv_in (6 : Int32) 90) rfl (fun c1 => ?_)
  refine sv_Q.s (σ' := (13, [some (.ref 0), some (.int a0)], [.long ((((gm 1 ((6 : Int32)).toNatClampNeg) - (1 : Int32))).toInt64), .long (0 : Int64), .long ((a0).toInt64)], (W_Mo gm))) 3 rfl ?_
  refine sv_Q.S (ps := []) (rest := []) (cs1 := []) (cs2 := []) (st' := [.int (F_Mo_in ((a0).toInt64) (0 : Int64) ((((gm 1 ((6 : Int32)).toNatClampNeg) - (1 : Int32))).toInt64))]) (cs' := (W_Mo gm)) (q := (13, .null, 0, 0, 0)) lk_Mo_97 (t_Mo_in ((a0).toInt64) (0 : Int64) ((((gm 1 ((6 : Int32)).toNatClampNeg) - (1 : Int32))).toInt64)) rfl rfl rfl rfl rfl rfl rfl rfl rfl rfl (sv_pt_nil _ _) ?_
  exact sv_Q.z ⟨sv_01 (F_Mo_in ((a0).toInt64) (0 : Int64) ((((gm 1 ((6 : Int32)).toNatClampNeg) - (1 : Int32))).toInt64)), rfl, b_Mo_in ((a0).toInt64) (0 : Int64) ((((gm 1 ((6 : Int32)).toNatClampNeg) - (1 : Int32))).toInt64), rfl⟩
def F_Mo_isBay (N : Nat) (a0 : Int32) (gm : Nat → Nat → Int32) : Option (Int32) := (if sv_in (0 : Int32) 90 then (some (F_Mo_in ((a0).toInt64) (0 : Int64) ((((gm 1 ((0 : Int32)).toNatClampNeg) - (1 : Int32))).toInt64))) else none)
set_option maxHeartbeats 4000000 in
set_option maxRecDepth 100000 in
theorem r_Mo_isBay {X : Nat × (Nat → Int32)} (N : Nat) (gm : Nat → Nat → Int32) (a0 : Int32) : ∀ x, (F_Mo_isBay N a0 gm) = some x → sv_R X 2 M_Mo_isBay [.ref 0, .int a0] (W_Mo gm) (some (.int x)) (W_Mo gm) := by
  refine sv_Q.R (res := (fun (x : Int32) => (some (.int x), (W_Mo gm)))) g_Mo_isBay rfl ?_
  unfold F_Mo_isBay
  refine sv_Q.s (σ' := (8, [some (.ref 0), some (.int a0)], [.int (0 : Int32), .ref 1, .long (0 : Int64), .long ((a0).toInt64)], (W_Mo gm))) 6 rfl ?_
  refine sv_Q.g (σ' := (9, [some (.ref 0), some (.int a0)], [.int (gm 1 ((0 : Int32)).toNatClampNeg), .long (0 : Int64), .long ((a0).toInt64)], (W_Mo gm))) (c := sv_in (0 : Int32) 90) rfl (fun c1 => ?_)
  refine sv_Q.s (σ' := (12, [some (.ref 0), some (.int a0)], [.long ((((gm 1 ((0 : Int32)).toNatClampNeg) - (1 : Int32))).toInt64), .long (0 : Int64), .long ((a0).toInt64)], (W_Mo gm))) 3 rfl ?_
  refine sv_Q.S (ps := []) (rest := []) (cs1 := []) (cs2 := []) (st' := [.int (F_Mo_in ((a0).toInt64) (0 : Int64) ((((gm 1 ((0 : Int32)).toNatClampNeg) - (1 : Int32))).toInt64))]) (cs' := (W_Mo gm)) (q := (12, .null, 0, 0, 0)) lk_Mo_97 (t_Mo_in ((a0).toInt64) (0 : Int64) ((((gm 1 ((0 : Int32)).toNatClampNeg) - (1 : Int32))).toInt64)) rfl rfl rfl rfl rfl rfl rfl rfl rfl rfl (sv_pt_nil _ _) ?_
  exact sv_Q.z ⟨sv_01 (F_Mo_in ((a0).toInt64) (0 : Int64) ((((gm 1 ((0 : Int32)).toNatClampNeg) - (1 : Int32))).toInt64)), rfl, b_Mo_in ((a0).toInt64) (0 : Int64) ((((gm 1 ((0 : Int32)).toNatClampNeg) - (1 : Int32))).toInt64), rfl⟩
def F_Mo_tierOf (N : Nat) (a0 : Int32) (gm : Nat → Nat → Int32) : Option (Int32) := (Option.bind (F_Mo_tiers N gm) fun (v1 : Int32) => (if ¬ v1 = 0 then (some (a0 - a0 / v1 * v1)) else none))
set_option maxHeartbeats 4000000 in
set_option maxRecDepth 100000 in
theorem r_Mo_tierOf {X : Nat × (Nat → Int32)} (N : Nat) (gm : Nat → Nat → Int32) (a0 : Int32) : ∀ x, (F_Mo_tierOf N a0 gm) = some x → sv_R X 2 M_Mo_tierOf [.ref 0, .int a0] (W_Mo gm) (some (.int x)) (W_Mo gm) := by
  refine sv_Q.R (res := (fun (x : Int32) => (some (.int x), (W_Mo gm)))) g_Mo_tierOf rfl ?_
  unfold F_Mo_tierOf
  refine sv_Q.s (σ' := (2, [some (.ref 0), some (.int a0)], [.ref 0, .int a0], (W_Mo gm))) 2 rfl ?_
  refine sv_Q.o (fun v1 e2 => ?_)
  refine sv_Q.V (b := 0) (av := []) (ps := [0, 1, 2, 3, 4, 5, 6, 7, 8, 9, 10, 11, 12, 13, 14, 15, 16, 17, 18, 19, 20, 21, 22]) (rest := [.int a0]) (cs1 := (W_Mo gm)) (cs2 := (W_Mo gm)) (st' := [.int v1, .int a0]) (cs' := (W_Mo gm)) (q := (2, .null, 0, 0, 0)) lk_Mo_251 (r_Mo_tiers N gm v1 e2) rfl rfl rfl rfl rfl (Or.inl ⟨12, _, _, rfl, rfl, rfl⟩) rfl rfl (sc_Mo_Mo_0 gm) rfl rfl (pc_Mo_Mo_0 gm gm) ?_
  refine sv_Q.g (σ' := (6, [some (.ref 0), some (.int a0)], [.int (a0 - a0 / v1 * v1)], (W_Mo gm))) (c := ¬ v1 = 0) rfl (fun c3 => ?_)
  exact sv_Q.z ⟨True, rfl, trivial, rfl⟩
def F_Mo_rowOf (N : Nat) (a0 : Int32) (gm : Nat → Nat → Int32) : Option (Int32) := (Option.bind (F_Mo_tiers N gm) fun (v1 : Int32) => (if ¬ v1 = 0 then (if sv_in (1 : Int32) 90 then (if ¬ (gm 1 ((1 : Int32)).toNatClampNeg) = 0 then (some ((a0 / v1) - (a0 / v1) / (gm 1 ((1 : Int32)).toNatClampNeg) * (gm 1 ((1 : Int32)).toNatClampNeg))) else none) else none) else none))
set_option maxHeartbeats 4000000 in
set_option maxRecDepth 100000 in
theorem r_Mo_rowOf {X : Nat × (Nat → Int32)} (N : Nat) (gm : Nat → Nat → Int32) (a0 : Int32) : ∀ x, (F_Mo_rowOf N a0 gm) = some x → sv_R X 2 M_Mo_rowOf [.ref 0, .int a0] (W_Mo gm) (some (.int x)) (W_Mo gm) := by
  refine sv_Q.R (res := (fun (x : Int32) => (some (.int x), (W_Mo gm)))) g_Mo_rowOf rfl ?_
  unfold F_Mo_rowOf
  refine sv_Q.s (σ' := (2, [some (.ref 0), some (.int a0)], [.ref 0, .int a0], (W_Mo gm))) 2 rfl ?_
  refine sv_Q.o (fun v1 e2 => ?_)
  refine sv_Q.V (b := 0) (av := []) (ps := [0, 1, 2, 3, 4, 5, 6, 7, 8, 9, 10, 11, 12, 13, 14, 15, 16, 17, 18, 19, 20, 21, 22]) (rest := [.int a0]) (cs1 := (W_Mo gm)) (cs2 := (W_Mo gm)) (st' := [.int v1, .int a0]) (cs' := (W_Mo gm)) (q := (2, .null, 0, 0, 0)) lk_Mo_251 (r_Mo_tiers N gm v1 e2) rfl rfl rfl rfl rfl (Or.inl ⟨12, _, _, rfl, rfl, rfl⟩) rfl rfl (sc_Mo_Mo_0 gm) rfl rfl (pc_Mo_Mo_0 gm gm) ?_
  refine sv_Q.g (σ' := (6, [some (.ref 0), some (.int a0)], [.int (a0 / v1)], (W_Mo gm))) (c := ¬ v1 = 0) rfl (fun c3 => ?_)
  refine sv_Q.s (σ' := (11, [some (.ref 0), some (.int a0)], [.int (1 : Int32), .ref 1, .int (a0 / v1)], (W_Mo gm))) 3 rfl ?_
  refine sv_Q.g (σ' := (12, [some (.ref 0), some (.int a0)], [.int (gm 1 ((1 : Int32)).toNatClampNeg), .int (a0 / v1)], (W_Mo gm))) (c := sv_in (1 : Int32) 90) rfl (fun c4 => ?_)
  refine sv_Q.g (σ' := (13, [some (.ref 0), some (.int a0)], [.int ((a0 / v1) - (a0 / v1) / (gm 1 ((1 : Int32)).toNatClampNeg) * (gm 1 ((1 : Int32)).toNatClampNeg))], (W_Mo gm))) (c := ¬ (gm 1 ((1 : Int32)).toNatClampNeg) = 0) rfl (fun c5 => ?_)
  exact sv_Q.z ⟨True, rfl, trivial, rfl⟩
def F_Mo_bayOfPlace (N : Nat) (a0 : Int32) (gm : Nat → Nat → Int32) : Option (Int32) := (Option.bind (F_Mo_tiers N gm) fun (v1 : Int32) => (if ¬ v1 = 0 then (if sv_in (1 : Int32) 90 then (if ¬ (gm 1 ((1 : Int32)).toNatClampNeg) = 0 then (some ((a0 / v1) / (gm 1 ((1 : Int32)).toNatClampNeg))) else none) else none) else none))
set_option maxHeartbeats 4000000 in
set_option maxRecDepth 100000 in
theorem r_Mo_bayOfPlace {X : Nat × (Nat → Int32)} (N : Nat) (gm : Nat → Nat → Int32) (a0 : Int32) : ∀ x, (F_Mo_bayOfPlace N a0 gm) = some x → sv_R X 2 M_Mo_bayOfPlace [.ref 0, .int a0] (W_Mo gm) (some (.int x)) (W_Mo gm) := by
  refine sv_Q.R (res := (fun (x : Int32) => (some (.int x), (W_Mo gm)))) g_Mo_bayOfPlace rfl ?_
  unfold F_Mo_bayOfPlace
  refine sv_Q.s (σ' := (2, [some (.ref 0), some (.int a0)], [.ref 0, .int a0], (W_Mo gm))) 2 rfl ?_
  refine sv_Q.o (fun v1 e2 => ?_)
  refine sv_Q.V (b := 0) (av := []) (ps := [0, 1, 2, 3, 4, 5, 6, 7, 8, 9, 10, 11, 12, 13, 14, 15, 16, 17, 18, 19, 20, 21, 22]) (rest := [.int a0]) (cs1 := (W_Mo gm)) (cs2 := (W_Mo gm)) (st' := [.int v1, .int a0]) (cs' := (W_Mo gm)) (q := (2, .null, 0, 0, 0)) lk_Mo_251 (r_Mo_tiers N gm v1 e2) rfl rfl rfl rfl rfl (Or.inl ⟨12, _, _, rfl, rfl, rfl⟩) rfl rfl (sc_Mo_Mo_0 gm) rfl rfl (pc_Mo_Mo_0 gm gm) ?_
  refine sv_Q.g (σ' := (6, [some (.ref 0), some (.int a0)], [.int (a0 / v1)], (W_Mo gm))) (c := ¬ v1 = 0) rfl (fun c3 => ?_)
  refine sv_Q.s (σ' := (11, [some (.ref 0), some (.int a0)], [.int (1 : Int32), .ref 1, .int (a0 / v1)], (W_Mo gm))) 3 rfl ?_
  refine sv_Q.g (σ' := (12, [some (.ref 0), some (.int a0)], [.int (gm 1 ((1 : Int32)).toNatClampNeg), .int (a0 / v1)], (W_Mo gm))) (c := sv_in (1 : Int32) 90) rfl (fun c4 => ?_)
  refine sv_Q.g (σ' := (13, [some (.ref 0), some (.int a0)], [.int ((a0 / v1) / (gm 1 ((1 : Int32)).toNatClampNeg))], (W_Mo gm))) (c := ¬ (gm 1 ((1 : Int32)).toNatClampNeg) = 0) rfl (fun c5 => ?_)
  exact sv_Q.z ⟨True, rfl, trivial, rfl⟩
def F_Mo_isOnDeck (N : Nat) (a0 : Int32) (gm : Nat → Nat → Int32) : Option (Int32) := (Option.bind (F_Mo_tierOf N a0 gm) fun (v1 : Int32) => (if sv_in (2 : Int32) 90 then (if v1 < (gm 1 ((2 : Int32)).toNatClampNeg) then (some (0 : Int32)) else (some (1 : Int32))) else none))
set_option maxHeartbeats 4000000 in
set_option maxRecDepth 100000 in
theorem r_Mo_isOnDeck {X : Nat × (Nat → Int32)} (N : Nat) (gm : Nat → Nat → Int32) (a0 : Int32) : ∀ x, (F_Mo_isOnDeck N a0 gm) = some x → sv_R X 3 M_Mo_isOnDeck [.ref 0, .int a0] (W_Mo gm) (some (.int x)) (W_Mo gm) := by
  refine sv_Q.R (res := (fun (x : Int32) => (some (.int x), (W_Mo gm)))) g_Mo_isOnDeck rfl ?_
  unfold F_Mo_isOnDeck
  refine sv_Q.s (σ' := (2, [some (.ref 0), some (.int a0)], [.int a0, .ref 0], (W_Mo gm))) 2 rfl ?_
  refine sv_Q.o (fun v1 e2 => ?_)
  refine sv_Q.V (b := 0) (av := [.int a0]) (ps := [0, 1, 2, 3, 4, 5, 6, 7, 8, 9, 10, 11, 12, 13, 14, 15, 16, 17, 18, 19, 20, 21, 22]) (rest := []) (cs1 := (W_Mo gm)) (cs2 := (W_Mo gm)) (st' := [.int v1]) (cs' := (W_Mo gm)) (q := (2, .null, 0, 0, 0)) lk_Mo_257 (r_Mo_tierOf N gm a0 v1 e2) rfl rfl rfl rfl rfl (Or.inl ⟨12, _, _, rfl, rfl, rfl⟩) rfl rfl (sc_Mo_Mo_0 gm) rfl rfl (pc_Mo_Mo_0 gm gm) ?_
  refine sv_Q.s (σ' := (10, [some (.ref 0), some (.int a0)], [.int (2 : Int32), .ref 1, .int v1], (W_Mo gm))) 3 rfl ?_
  refine sv_Q.g (σ' := (11, [some (.ref 0), some (.int a0)], [.int (gm 1 ((2 : Int32)).toNatClampNeg), .int v1], (W_Mo gm))) (c := sv_in (2 : Int32) 90) rfl (fun c3 => ?_)
  refine sv_Q.b rfl (fun c4 => ?_) (fun c4 => ?_)
  · refine sv_Q.s (σ' := (19, [some (.ref 0), some (.int a0)], [.int (0 : Int32)], (W_Mo gm))) 1 rfl ?_
    exact sv_Q.z ⟨sv_01 (0 : Int32), rfl, Or.inl rfl, rfl⟩
  · refine sv_Q.s (σ' := (19, [some (.ref 0), some (.int a0)], [.int (1 : Int32)], (W_Mo gm))) 2 rfl ?_
    exact sv_Q.z ⟨sv_01 (1 : Int32), rfl, Or.inr rfl, rfl⟩
def F_Mo_lowestOf (N : Nat) (a0 : Int32) (gm : Nat → Nat → Int32) : Option (Int32) := (Option.bind (F_Mo_tierOf N a0 gm) fun (v1 : Int32) => (Option.bind (F_Mo_isOnDeck N a0 gm) fun (v3 : Int32) => (if v3 = 0 then (some ((a0 - v1) + (0 : Int32))) else (if sv_in (2 : Int32) 90 then (some ((a0 - v1) + (gm 1 ((2 : Int32)).toNatClampNeg))) else none))))
set_option maxHeartbeats 4000000 in
set_option maxRecDepth 100000 in
theorem r_Mo_lowestOf {X : Nat × (Nat → Int32)} (N : Nat) (gm : Nat → Nat → Int32) (a0 : Int32) : ∀ x, (F_Mo_lowestOf N a0 gm) = some x → sv_R X 4 M_Mo_lowestOf [.ref 0, .int a0] (W_Mo gm) (some (.int x)) (W_Mo gm) := by
  refine sv_Q.R (res := (fun (x : Int32) => (some (.int x), (W_Mo gm)))) g_Mo_lowestOf rfl ?_
  unfold F_Mo_lowestOf
  refine sv_Q.s (σ' := (3, [some (.ref 0), some (.int a0)], [.int a0, .ref 0, .int a0], (W_Mo gm))) 3 rfl ?_
  refine sv_Q.o (fun v1 e2 => ?_)
  refine sv_Q.V (b := 0) (av := [.int a0]) (ps := [0, 1, 2, 3, 4, 5, 6, 7, 8, 9, 10, 11, 12, 13, 14, 15, 16, 17, 18, 19, 20, 21, 22]) (rest := [.int a0]) (cs1 := (W_Mo gm)) (cs2 := (W_Mo gm)) (st' := [.int v1, .int a0]) (cs' := (W_Mo gm)) (q := (3, .null, 0, 0, 0)) lk_Mo_257 (r_Mo_tierOf N gm a0 v1 e2) rfl rfl rfl rfl rfl (Or.inl ⟨12, _, _, rfl, rfl, rfl⟩) rfl rfl (sc_Mo_Mo_0 gm) rfl rfl (pc_Mo_Mo_0 gm gm) ?_
  refine sv_Q.s (σ' := (9, [some (.ref 0), some (.int a0)], [.int a0, .ref 0, .int (a0 - v1)], (W_Mo gm))) 3 rfl ?_
  refine sv_Q.o (fun v3 e4 => ?_)
  refine sv_Q.V (b := 0) (av := [.int a0]) (ps := [0, 1, 2, 3, 4, 5, 6, 7, 8, 9, 10, 11, 12, 13, 14, 15, 16, 17, 18, 19, 20, 21, 22]) (rest := [.int (a0 - v1)]) (cs1 := (W_Mo gm)) (cs2 := (W_Mo gm)) (st' := [.int v3, .int (a0 - v1)]) (cs' := (W_Mo gm)) (q := (9, .null, 0, 0, 0)) lk_Mo_260 (r_Mo_isOnDeck N gm a0 v3 e4) rfl rfl rfl rfl rfl (Or.inl ⟨12, _, _, rfl, rfl, rfl⟩) rfl rfl (sc_Mo_Mo_0 gm) rfl rfl (pc_Mo_Mo_0 gm gm) ?_
  refine sv_Q.b rfl (fun c5 => ?_) (fun c5 => ?_)
  · refine sv_Q.s (σ' := (26, [some (.ref 0), some (.int a0)], [.int ((a0 - v1) + (0 : Int32))], (W_Mo gm))) 2 rfl ?_
    exact sv_Q.z ⟨True, rfl, trivial, rfl⟩
  · refine sv_Q.s (σ' := (20, [some (.ref 0), some (.int a0)], [.int (2 : Int32), .ref 1, .int (a0 - v1)], (W_Mo gm))) 3 rfl ?_
    refine sv_Q.g (σ' := (21, [some (.ref 0), some (.int a0)], [.int (gm 1 ((2 : Int32)).toNatClampNeg), .int (a0 - v1)], (W_Mo gm))) (c := sv_in (2 : Int32) 90) rfl (fun c6 => ?_)
    refine sv_Q.s (σ' := (26, [some (.ref 0), some (.int a0)], [.int ((a0 - v1) + (gm 1 ((2 : Int32)).toNatClampNeg))], (W_Mo gm))) 2 rfl ?_
    exact sv_Q.z ⟨True, rfl, trivial, rfl⟩
def F_Mo_highOf (N : Nat) (a0 : Int32) (gm : Nat → Nat → Int32) : Option (Int32) := (Option.bind (F_Mo_isOnDeck N a0 gm) fun (v1 : Int32) => (if v1 = 0 then (if sv_in (2 : Int32) 90 then (some (gm 1 ((2 : Int32)).toNatClampNeg)) else none) else (if sv_in (3 : Int32) 90 then (some (gm 1 ((3 : Int32)).toNatClampNeg)) else none)))
set_option maxHeartbeats 4000000 in
set_option maxRecDepth 100000 in
theorem r_Mo_highOf {X : Nat × (Nat → Int32)} (N : Nat) (gm : Nat → Nat → Int32) (a0 : Int32) : ∀ x, (F_Mo_highOf N a0 gm) = some x → sv_R X 4 M_Mo_highOf [.ref 0, .int a0] (W_Mo gm) (some (.int x)) (W_Mo gm) := by
  refine sv_Q.R (res := (fun (x : Int32) => (some (.int x), (W_Mo gm)))) g_Mo_highOf rfl ?_
  unfold F_Mo_highOf
  refine sv_Q.s (σ' := (2, [some (.ref 0), some (.int a0)], [.int a0, .ref 0], (W_Mo gm))) 2 rfl ?_
  refine sv_Q.o (fun v1 e2 => ?_)
  refine sv_Q.V (b := 0) (av := [.int a0]) (ps := [0, 1, 2, 3, 4, 5, 6, 7, 8, 9, 10, 11, 12, 13, 14, 15, 16, 17, 18, 19, 20, 21, 22]) (rest := []) (cs1 := (W_Mo gm)) (cs2 := (W_Mo gm)) (st' := [.int v1]) (cs' := (W_Mo gm)) (q := (2, .null, 0, 0, 0)) lk_Mo_260 (r_Mo_isOnDeck N gm a0 v1 e2) rfl rfl rfl rfl rfl (Or.inl ⟨12, _, _, rfl, rfl, rfl⟩) rfl rfl (sc_Mo_Mo_0 gm) rfl rfl (pc_Mo_Mo_0 gm gm) ?_
  refine sv_Q.b rfl (fun c3 => ?_) (fun c3 => ?_)
  · refine sv_Q.s (σ' := (22, [some (.ref 0), some (.int a0)], [.int (2 : Int32), .ref 1], (W_Mo gm))) 3 rfl ?_
    refine sv_Q.g (σ' := (23, [some (.ref 0), some (.int a0)], [.int (gm 1 ((2 : Int32)).toNatClampNeg)], (W_Mo gm))) (c := sv_in (2 : Int32) 90) rfl (fun c4 => ?_)
    exact sv_Q.z ⟨True, rfl, trivial, rfl⟩
  · refine sv_Q.s (σ' := (13, [some (.ref 0), some (.int a0)], [.int (3 : Int32), .ref 1], (W_Mo gm))) 3 rfl ?_
    refine sv_Q.g (σ' := (14, [some (.ref 0), some (.int a0)], [.int (gm 1 ((3 : Int32)).toNatClampNeg)], (W_Mo gm))) (c := sv_in (3 : Int32) 90) rfl (fun c5 => ?_)
    refine sv_Q.s (σ' := (23, [some (.ref 0), some (.int a0)], [.int (gm 1 ((3 : Int32)).toNatClampNeg)], (W_Mo gm))) 1 rfl ?_
    exact sv_Q.z ⟨True, rfl, trivial, rfl⟩
def L_Mo_lyingMany_4 (N : Nat) : Nat → Int32 → Int32 → (Nat → Nat → Int32) → Option (Int32)
  | 0, _, _, _ => none
  | n + 1, x1, x2, gm => (if (gm 0 6) ≤ x2 then (some x1) else (if sv_in x2 24 then (if (gm 7 (x2).toNatClampNeg) = (-1 : Int32) then (L_Mo_lyingMany_4 N n (x1 + (0 : Int32)) (x2 + (1 : Int32)) gm) else (L_Mo_lyingMany_4 N n (x1 + (1 : Int32)) (x2 + (1 : Int32)) gm)) else none))
set_option maxHeartbeats 4000000 in
set_option maxRecDepth 100000 in
theorem l_Mo_lyingMany_4 {X : Nat × (Nat → Int32)} (N : Nat) : ∀ (n : Nat) (x1 : Int32) (x2 : Int32) (gm : Nat → Nat → Int32), sv_Q X 0 M_Mo_lyingMany (4, [some (.ref 0), some (.int x1), some (.int x2)], [], (W_Mo gm)) (L_Mo_lyingMany_4 N n x1 x2 gm) (fun v σ' => σ' = (36, [none, some (.int v), none], [], (W_Mo gm))) := by
  intro n
  induction n with
  | zero => intro x1 x2 gm; unfold L_Mo_lyingMany_4; exact sv_Q.non
  | succ n ih =>
    intro x1 x2 gm
    unfold L_Mo_lyingMany_4
    refine sv_Q.s (σ' := (9, [some (.ref 0), some (.int x1), some (.int x2)], [.int (gm 0 6), .int x2], (W_Mo gm))) 3 rfl ?_
    refine sv_Q.b rfl (fun c1 => ?_) (fun c1 => ?_)
    · refine sv_Q.f (lo' := [none, some (.int x1), none]) ⟨rfl, trivial⟩ ?_
      exact sv_Q.z rfl
    · refine sv_Q.s (σ' := (18, [some (.ref 0), some (.int x1), some (.int x2)], [.int x2, .ref 7, .int x1], (W_Mo gm))) 4 rfl ?_
      refine sv_Q.g (σ' := (19, [some (.ref 0), some (.int x1), some (.int x2)], [.int (gm 7 (x2).toNatClampNeg), .int x1], (W_Mo gm))) (c := sv_in x2 24) rfl (fun c2 => ?_)
      refine sv_Q.s (σ' := (20, [some (.ref 0), some (.int x1), some (.int x2)], [.int (-1 : Int32), .int (gm 7 (x2).toNatClampNeg), .int x1], (W_Mo gm))) 1 rfl ?_
      refine sv_Q.b rfl (fun c3 => ?_) (fun c3 => ?_)
      · refine sv_Q.s (σ' := (4, [some (.ref 0), some (.int (x1 + (0 : Int32))), some (.int (x2 + (1 : Int32)))], [], (W_Mo gm))) 5 rfl ?_
        exact ih (x1 + (0 : Int32)) (x2 + (1 : Int32)) gm
      · refine sv_Q.s (σ' := (4, [some (.ref 0), some (.int (x1 + (1 : Int32))), some (.int (x2 + (1 : Int32)))], [], (W_Mo gm))) 6 rfl ?_
        exact ih (x1 + (1 : Int32)) (x2 + (1 : Int32)) gm
def F_Mo_lyingMany (N : Nat) (gm : Nat → Nat → Int32) : Option (Int32) := (Option.bind (L_Mo_lyingMany_4 N N (0 : Int32) (0 : Int32) gm) fun (v4 : Int32) => (some v4))
set_option maxHeartbeats 4000000 in
set_option maxRecDepth 100000 in
theorem r_Mo_lyingMany {X : Nat × (Nat → Int32)} (N : Nat) (gm : Nat → Nat → Int32) : ∀ x, (F_Mo_lyingMany N gm) = some x → sv_R X 1 M_Mo_lyingMany [.ref 0] (W_Mo gm) (some (.int x)) (W_Mo gm) := by
  refine sv_Q.R (res := (fun (x : Int32) => (some (.int x), (W_Mo gm)))) g_Mo_lyingMany rfl ?_
  unfold F_Mo_lyingMany
  refine sv_Q.s (σ' := (4, [some (.ref 0), some (.int (0 : Int32)), some (.int (0 : Int32))], [], (W_Mo gm))) 4 rfl ?_
  refine sv_Q.lo (fun v4 => (36, [none, some (.int v4), none], [], (W_Mo gm))) (fun v4 => ?_) (l_Mo_lyingMany_4 N N (0 : Int32) (0 : Int32) gm)
  · refine sv_Q.s (σ' := (37, [none, some (.int v4), none], [.int v4], (W_Mo gm))) 1 rfl ?_
    exact sv_Q.z ⟨True, rfl, trivial, rfl⟩
def F_Mo_count (N : Nat) (a0 : Int32) (gm : Nat → Nat → Int32) : Option (Int32) := (if a0 = (0 : Int32) then (if ¬ a0 = (4 : Int32) then (if sv_in a0 90 then (some (gm 1 (a0).toNatClampNeg)) else none) else (if sv_in (6 : Int32) 90 then (some (gm 1 ((6 : Int32)).toNatClampNeg)) else none)) else (if a0 = (1 : Int32) then (if ¬ a0 = (4 : Int32) then (if sv_in a0 90 then (some (gm 1 (a0).toNatClampNeg)) else none) else (if sv_in (6 : Int32) 90 then (some (gm 1 ((6 : Int32)).toNatClampNeg)) else none)) else (if a0 = (2 : Int32) then (if ¬ a0 = (4 : Int32) then (if sv_in a0 90 then (some (gm 1 (a0).toNatClampNeg)) else none) else (if sv_in (6 : Int32) 90 then (some (gm 1 ((6 : Int32)).toNatClampNeg)) else none)) else (if a0 = (3 : Int32) then (if ¬ a0 = (4 : Int32) then (if sv_in a0 90 then (some (gm 1 (a0).toNatClampNeg)) else none) else (if sv_in (6 : Int32) 90 then (some (gm 1 ((6 : Int32)).toNatClampNeg)) else none)) else (if a0 = (4 : Int32) then (if ¬ a0 = (4 : Int32) then (if sv_in a0 90 then (some (gm 1 (a0).toNatClampNeg)) else none) else (if sv_in (6 : Int32) 90 then (some (gm 1 ((6 : Int32)).toNatClampNeg)) else none)) else (if a0 = (5 : Int32) then (some (gm 0 6)) else (if a0 = (6 : Int32) then (Option.bind (F_Mo_lyingMany N gm) fun (v28 : Int32) => (some v28)) else (if a0 = (7 : Int32) then (if sv_in (4 : Int32) 90 then (some (gm 1 ((4 : Int32)).toNatClampNeg)) else none) else (if a0 = (8 : Int32) then (if sv_in (5 : Int32) 90 then (some (gm 1 ((5 : Int32)).toNatClampNeg)) else none) else (if a0 = (9 : Int32) then (some (gm 0 22)) else (if a0 = (10 : Int32) then (some (gm 0 14)) else (if a0 = (11 : Int32) then (some (gm 0 46)) else (some (-1 : Int32))))))))))))))
set_option maxHeartbeats 4000000 in
set_option maxRecDepth 100000 in
theorem r_Mo_count {X : Nat × (Nat → Int32)} (N : Nat) (gm : Nat → Nat → Int32) (a0 : Int32) : ∀ x, (F_Mo_count N a0 gm) = some x → sv_R X 2 M_Mo_count [.ref 0, .int a0] (W_Mo gm) (some (.int x)) (W_Mo gm) := by
  refine sv_Q.R (res := (fun (x : Int32) => (some (.int x), (W_Mo gm)))) g_Mo_count rfl ?_
  unfold F_Mo_count
  refine sv_Q.s (σ' := (1, [some (.ref 0), some (.int a0)], [.int a0], (W_Mo gm))) 1 rfl ?_
  refine sv_Q.ite (fun c1 => ?_) (fun c1 => ?_)
  · refine sv_Q.w (σ' := (64, [some (.ref 0), some (.int a0)], [], (W_Mo gm))) (c := (¬ (a0).toInt < 0 ∧ ¬ 11 < (a0).toInt ∧ ((a0).toInt - 0).toNat = 0) ∧ (0 : Int) ≤ 64) (k := some 0) rfl ⟨by rw [c1]; decide, by decide⟩ ?_
    refine sv_Q.s (σ' := (66, [some (.ref 0), some (.int a0)], [.int (4 : Int32), .int a0], (W_Mo gm))) 2 rfl ?_
    refine sv_Q.b rfl (fun c13 => ?_) (fun c13 => ?_)
    · refine sv_Q.s (σ' := (84, [some (.ref 0), some (.int a0)], [.int a0, .ref 1], (W_Mo gm))) 3 rfl ?_
      refine sv_Q.g (σ' := (85, [some (.ref 0), some (.int a0)], [.int (gm 1 (a0).toNatClampNeg)], (W_Mo gm))) (c := sv_in a0 90) rfl (fun c14 => ?_)
      exact sv_Q.z ⟨True, rfl, trivial, rfl⟩
    · refine sv_Q.s (σ' := (75, [some (.ref 0), some (.int a0)], [.int (6 : Int32), .ref 1], (W_Mo gm))) 3 rfl ?_
      refine sv_Q.g (σ' := (76, [some (.ref 0), some (.int a0)], [.int (gm 1 ((6 : Int32)).toNatClampNeg)], (W_Mo gm))) (c := sv_in (6 : Int32) 90) rfl (fun c15 => ?_)
      refine sv_Q.s (σ' := (85, [some (.ref 0), some (.int a0)], [.int (gm 1 ((6 : Int32)).toNatClampNeg)], (W_Mo gm))) 1 rfl ?_
      exact sv_Q.z ⟨True, rfl, trivial, rfl⟩
  · refine sv_Q.ite (fun c2 => ?_) (fun c2 => ?_)
    · refine sv_Q.w (σ' := (64, [some (.ref 0), some (.int a0)], [], (W_Mo gm))) (c := (¬ (a0).toInt < 0 ∧ ¬ 11 < (a0).toInt ∧ ((a0).toInt - 0).toNat = 1) ∧ (0 : Int) ≤ 64) (k := some 1) rfl ⟨by rw [c2]; decide, by decide⟩ ?_
      refine sv_Q.s (σ' := (66, [some (.ref 0), some (.int a0)], [.int (4 : Int32), .int a0], (W_Mo gm))) 2 rfl ?_
      refine sv_Q.b rfl (fun c16 => ?_) (fun c16 => ?_)
      · refine sv_Q.s (σ' := (84, [some (.ref 0), some (.int a0)], [.int a0, .ref 1], (W_Mo gm))) 3 rfl ?_
        refine sv_Q.g (σ' := (85, [some (.ref 0), some (.int a0)], [.int (gm 1 (a0).toNatClampNeg)], (W_Mo gm))) (c := sv_in a0 90) rfl (fun c17 => ?_)
        exact sv_Q.z ⟨True, rfl, trivial, rfl⟩
      · refine sv_Q.s (σ' := (75, [some (.ref 0), some (.int a0)], [.int (6 : Int32), .ref 1], (W_Mo gm))) 3 rfl ?_
        refine sv_Q.g (σ' := (76, [some (.ref 0), some (.int a0)], [.int (gm 1 ((6 : Int32)).toNatClampNeg)], (W_Mo gm))) (c := sv_in (6 : Int32) 90) rfl (fun c18 => ?_)
        refine sv_Q.s (σ' := (85, [some (.ref 0), some (.int a0)], [.int (gm 1 ((6 : Int32)).toNatClampNeg)], (W_Mo gm))) 1 rfl ?_
        exact sv_Q.z ⟨True, rfl, trivial, rfl⟩
    · refine sv_Q.ite (fun c3 => ?_) (fun c3 => ?_)
      · refine sv_Q.w (σ' := (64, [some (.ref 0), some (.int a0)], [], (W_Mo gm))) (c := (¬ (a0).toInt < 0 ∧ ¬ 11 < (a0).toInt ∧ ((a0).toInt - 0).toNat = 2) ∧ (0 : Int) ≤ 64) (k := some 2) rfl ⟨by rw [c3]; decide, by decide⟩ ?_
        refine sv_Q.s (σ' := (66, [some (.ref 0), some (.int a0)], [.int (4 : Int32), .int a0], (W_Mo gm))) 2 rfl ?_
        refine sv_Q.b rfl (fun c19 => ?_) (fun c19 => ?_)
        · refine sv_Q.s (σ' := (84, [some (.ref 0), some (.int a0)], [.int a0, .ref 1], (W_Mo gm))) 3 rfl ?_
          refine sv_Q.g (σ' := (85, [some (.ref 0), some (.int a0)], [.int (gm 1 (a0).toNatClampNeg)], (W_Mo gm))) (c := sv_in a0 90) rfl (fun c20 => ?_)
          exact sv_Q.z ⟨True, rfl, trivial, rfl⟩
        · refine sv_Q.s (σ' := (75, [some (.ref 0), some (.int a0)], [.int (6 : Int32), .ref 1], (W_Mo gm))) 3 rfl ?_
          refine sv_Q.g (σ' := (76, [some (.ref 0), some (.int a0)], [.int (gm 1 ((6 : Int32)).toNatClampNeg)], (W_Mo gm))) (c := sv_in (6 : Int32) 90) rfl (fun c21 => ?_)
          refine sv_Q.s (σ' := (85, [some (.ref 0), some (.int a0)], [.int (gm 1 ((6 : Int32)).toNatClampNeg)], (W_Mo gm))) 1 rfl ?_
          exact sv_Q.z ⟨True, rfl, trivial, rfl⟩
      · refine sv_Q.ite (fun c4 => ?_) (fun c4 => ?_)
        · refine sv_Q.w (σ' := (64, [some (.ref 0), some (.int a0)], [], (W_Mo gm))) (c := (¬ (a0).toInt < 0 ∧ ¬ 11 < (a0).toInt ∧ ((a0).toInt - 0).toNat = 3) ∧ (0 : Int) ≤ 64) (k := some 3) rfl ⟨by rw [c4]; decide, by decide⟩ ?_
          refine sv_Q.s (σ' := (66, [some (.ref 0), some (.int a0)], [.int (4 : Int32), .int a0], (W_Mo gm))) 2 rfl ?_
          refine sv_Q.b rfl (fun c22 => ?_) (fun c22 => ?_)
          · refine sv_Q.s (σ' := (84, [some (.ref 0), some (.int a0)], [.int a0, .ref 1], (W_Mo gm))) 3 rfl ?_
            refine sv_Q.g (σ' := (85, [some (.ref 0), some (.int a0)], [.int (gm 1 (a0).toNatClampNeg)], (W_Mo gm))) (c := sv_in a0 90) rfl (fun c23 => ?_)
            exact sv_Q.z ⟨True, rfl, trivial, rfl⟩
          · refine sv_Q.s (σ' := (75, [some (.ref 0), some (.int a0)], [.int (6 : Int32), .ref 1], (W_Mo gm))) 3 rfl ?_
            refine sv_Q.g (σ' := (76, [some (.ref 0), some (.int a0)], [.int (gm 1 ((6 : Int32)).toNatClampNeg)], (W_Mo gm))) (c := sv_in (6 : Int32) 90) rfl (fun c24 => ?_)
            refine sv_Q.s (σ' := (85, [some (.ref 0), some (.int a0)], [.int (gm 1 ((6 : Int32)).toNatClampNeg)], (W_Mo gm))) 1 rfl ?_
            exact sv_Q.z ⟨True, rfl, trivial, rfl⟩
        · refine sv_Q.ite (fun c5 => ?_) (fun c5 => ?_)
          · refine sv_Q.w (σ' := (64, [some (.ref 0), some (.int a0)], [], (W_Mo gm))) (c := (¬ (a0).toInt < 0 ∧ ¬ 11 < (a0).toInt ∧ ((a0).toInt - 0).toNat = 4) ∧ (0 : Int) ≤ 64) (k := some 4) rfl ⟨by rw [c5]; decide, by decide⟩ ?_
            refine sv_Q.s (σ' := (66, [some (.ref 0), some (.int a0)], [.int (4 : Int32), .int a0], (W_Mo gm))) 2 rfl ?_
            refine sv_Q.b rfl (fun c25 => ?_) (fun c25 => ?_)
            · refine sv_Q.s (σ' := (84, [some (.ref 0), some (.int a0)], [.int a0, .ref 1], (W_Mo gm))) 3 rfl ?_
              refine sv_Q.g (σ' := (85, [some (.ref 0), some (.int a0)], [.int (gm 1 (a0).toNatClampNeg)], (W_Mo gm))) (c := sv_in a0 90) rfl (fun c26 => ?_)
              exact sv_Q.z ⟨True, rfl, trivial, rfl⟩
            · refine sv_Q.s (σ' := (75, [some (.ref 0), some (.int a0)], [.int (6 : Int32), .ref 1], (W_Mo gm))) 3 rfl ?_
              refine sv_Q.g (σ' := (76, [some (.ref 0), some (.int a0)], [.int (gm 1 ((6 : Int32)).toNatClampNeg)], (W_Mo gm))) (c := sv_in (6 : Int32) 90) rfl (fun c27 => ?_)
              refine sv_Q.s (σ' := (85, [some (.ref 0), some (.int a0)], [.int (gm 1 ((6 : Int32)).toNatClampNeg)], (W_Mo gm))) 1 rfl ?_
              exact sv_Q.z ⟨True, rfl, trivial, rfl⟩
          · refine sv_Q.ite (fun c6 => ?_) (fun c6 => ?_)
            · refine sv_Q.w (σ' := (86, [some (.ref 0), some (.int a0)], [], (W_Mo gm))) (c := (¬ (a0).toInt < 0 ∧ ¬ 11 < (a0).toInt ∧ ((a0).toInt - 0).toNat = 5) ∧ (0 : Int) ≤ 86) (k := some 5) rfl ⟨by rw [c6]; decide, by decide⟩ ?_
              refine sv_Q.s (σ' := (90, [some (.ref 0), some (.int a0)], [.int (gm 0 6)], (W_Mo gm))) 2 rfl ?_
              exact sv_Q.z ⟨True, rfl, trivial, rfl⟩
            · refine sv_Q.ite (fun c7 => ?_) (fun c7 => ?_)
              · refine sv_Q.w (σ' := (91, [some (.ref 0), some (.int a0)], [], (W_Mo gm))) (c := (¬ (a0).toInt < 0 ∧ ¬ 11 < (a0).toInt ∧ ((a0).toInt - 0).toNat = 6) ∧ (0 : Int) ≤ 91) (k := some 6) rfl ⟨by rw [c7]; decide, by decide⟩ ?_
                refine sv_Q.s (σ' := (92, [some (.ref 0), some (.int a0)], [.ref 0], (W_Mo gm))) 1 rfl ?_
                refine sv_Q.o (fun v28 e29 => ?_)
                refine sv_Q.V (b := 0) (av := []) (ps := [0, 1, 2, 3, 4, 5, 6, 7, 8, 9, 10, 11, 12, 13, 14, 15, 16, 17, 18, 19, 20, 21, 22]) (rest := []) (cs1 := (W_Mo gm)) (cs2 := (W_Mo gm)) (st' := [.int v28]) (cs' := (W_Mo gm)) (q := (92, .null, 0, 0, 0)) lk_Mo_264 (r_Mo_lyingMany N gm v28 e29) rfl rfl rfl rfl rfl (Or.inl ⟨12, _, _, rfl, rfl, rfl⟩) rfl rfl (sc_Mo_Mo_0 gm) rfl rfl (pc_Mo_Mo_0 gm gm) ?_
                exact sv_Q.z ⟨True, rfl, trivial, rfl⟩
              · refine sv_Q.ite (fun c8 => ?_) (fun c8 => ?_)
                · refine sv_Q.w (σ' := (96, [some (.ref 0), some (.int a0)], [], (W_Mo gm))) (c := (¬ (a0).toInt < 0 ∧ ¬ 11 < (a0).toInt ∧ ((a0).toInt - 0).toNat = 7) ∧ (0 : Int) ≤ 96) (k := some 7) rfl ⟨by rw [c8]; decide, by decide⟩ ?_
                  refine sv_Q.s (σ' := (101, [some (.ref 0), some (.int a0)], [.int (4 : Int32), .ref 1], (W_Mo gm))) 3 rfl ?_
                  refine sv_Q.g (σ' := (102, [some (.ref 0), some (.int a0)], [.int (gm 1 ((4 : Int32)).toNatClampNeg)], (W_Mo gm))) (c := sv_in (4 : Int32) 90) rfl (fun c30 => ?_)
                  exact sv_Q.z ⟨True, rfl, trivial, rfl⟩
                · refine sv_Q.ite (fun c9 => ?_) (fun c9 => ?_)
                  · refine sv_Q.w (σ' := (103, [some (.ref 0), some (.int a0)], [], (W_Mo gm))) (c := (¬ (a0).toInt < 0 ∧ ¬ 11 < (a0).toInt ∧ ((a0).toInt - 0).toNat = 8) ∧ (0 : Int) ≤ 103) (k := some 8) rfl ⟨by rw [c9]; decide, by decide⟩ ?_
                    refine sv_Q.s (σ' := (108, [some (.ref 0), some (.int a0)], [.int (5 : Int32), .ref 1], (W_Mo gm))) 3 rfl ?_
                    refine sv_Q.g (σ' := (109, [some (.ref 0), some (.int a0)], [.int (gm 1 ((5 : Int32)).toNatClampNeg)], (W_Mo gm))) (c := sv_in (5 : Int32) 90) rfl (fun c31 => ?_)
                    exact sv_Q.z ⟨True, rfl, trivial, rfl⟩
                  · refine sv_Q.ite (fun c10 => ?_) (fun c10 => ?_)
                    · refine sv_Q.w (σ' := (110, [some (.ref 0), some (.int a0)], [], (W_Mo gm))) (c := (¬ (a0).toInt < 0 ∧ ¬ 11 < (a0).toInt ∧ ((a0).toInt - 0).toNat = 9) ∧ (0 : Int) ≤ 110) (k := some 9) rfl ⟨by rw [c10]; decide, by decide⟩ ?_
                      refine sv_Q.s (σ' := (114, [some (.ref 0), some (.int a0)], [.int (gm 0 22)], (W_Mo gm))) 2 rfl ?_
                      exact sv_Q.z ⟨True, rfl, trivial, rfl⟩
                    · refine sv_Q.ite (fun c11 => ?_) (fun c11 => ?_)
                      · refine sv_Q.w (σ' := (115, [some (.ref 0), some (.int a0)], [], (W_Mo gm))) (c := (¬ (a0).toInt < 0 ∧ ¬ 11 < (a0).toInt ∧ ((a0).toInt - 0).toNat = 10) ∧ (0 : Int) ≤ 115) (k := some 10) rfl ⟨by rw [c11]; decide, by decide⟩ ?_
                        refine sv_Q.s (σ' := (119, [some (.ref 0), some (.int a0)], [.int (gm 0 14)], (W_Mo gm))) 2 rfl ?_
                        exact sv_Q.z ⟨True, rfl, trivial, rfl⟩
                      · refine sv_Q.ite (fun c12 => ?_) (fun c12 => ?_)
                        · refine sv_Q.w (σ' := (120, [some (.ref 0), some (.int a0)], [], (W_Mo gm))) (c := (¬ (a0).toInt < 0 ∧ ¬ 11 < (a0).toInt ∧ ((a0).toInt - 0).toNat = 11) ∧ (0 : Int) ≤ 120) (k := some 11) rfl ⟨by rw [c12]; decide, by decide⟩ ?_
                          refine sv_Q.s (σ' := (124, [some (.ref 0), some (.int a0)], [.int (gm 0 46)], (W_Mo gm))) 2 rfl ?_
                          exact sv_Q.z ⟨True, rfl, trivial, rfl⟩
                        · refine sv_Q.w (σ' := (125, [some (.ref 0), some (.int a0)], [], (W_Mo gm))) (c := ((a0).toInt < 0 ∨ 11 < (a0).toInt) ∧ (0 : Int) ≤ 125) (k := none) rfl ⟨by (have q0 := sv_ne c1); (have q1 := sv_ne c2); (have q2 := sv_ne c3); (have q3 := sv_ne c4); (have q4 := sv_ne c5); (have q5 := sv_ne c6); (have q6 := sv_ne c7); (have q7 := sv_ne c8); (have q8 := sv_ne c9); (have q9 := sv_ne c10); (have q10 := sv_ne c11); (have q11 := sv_ne c12); (have e0 : (0 : Int32).toInt = 0 := (by decide)); (have e1 : (1 : Int32).toInt = 1 := (by decide)); (have e2 : (2 : Int32).toInt = 2 := (by decide)); (have e3 : (3 : Int32).toInt = 3 := (by decide)); (have e4 : (4 : Int32).toInt = 4 := (by decide)); (have e5 : (5 : Int32).toInt = 5 := (by decide)); (have e6 : (6 : Int32).toInt = 6 := (by decide)); (have e7 : (7 : Int32).toInt = 7 := (by decide)); (have e8 : (8 : Int32).toInt = 8 := (by decide)); (have e9 : (9 : Int32).toInt = 9 := (by decide)); (have e10 : (10 : Int32).toInt = 10 := (by decide)); (have e11 : (11 : Int32).toInt = 11 := (by decide)); omega, by decide⟩ ?_
                          refine sv_Q.s (σ' := (126, [some (.ref 0), some (.int a0)], [.int (-1 : Int32)], (W_Mo gm))) 1 rfl ?_
                          exact sv_Q.z ⟨True, rfl, trivial, rfl⟩
def F_Mo_wallAt (N : Nat) (a0 : Int32) (gm : Nat → Nat → Int32) : Option (Int32) := (if sv_in ((8 : Int32) + a0) 90 then (if ¬ (gm 1 (((8 : Int32) + a0)).toNatClampNeg) = (2 : Int32) then (if sv_in ((8 : Int32) + a0) 90 then (some (gm 1 (((8 : Int32) + a0)).toNatClampNeg)) else none) else (if ¬ (((gm 0 11) >>> (a0 &&& 31)) &&& (1 : Int32)) = 0 then (if sv_in ((8 : Int32) + a0) 90 then (some (gm 1 (((8 : Int32) + a0)).toNatClampNeg)) else none) else (some (3 : Int32)))) else none)
set_option maxHeartbeats 4000000 in
set_option maxRecDepth 100000 in
theorem r_Mo_wallAt {X : Nat × (Nat → Int32)} (N : Nat) (gm : Nat → Nat → Int32) (a0 : Int32) : ∀ x, (F_Mo_wallAt N a0 gm) = some x → sv_R X 1 M_Mo_wallAt [.ref 0, .int a0] (W_Mo gm) (some (.int x)) (W_Mo gm) := by
  refine sv_Q.R (res := (fun (x : Int32) => (some (.int x), (W_Mo gm)))) g_Mo_wallAt rfl ?_
  unfold F_Mo_wallAt
  refine sv_Q.s (σ' := (8, [some (.ref 0), some (.int a0)], [.int ((8 : Int32) + a0), .ref 1], (W_Mo gm))) 5 rfl ?_
  refine sv_Q.g (σ' := (9, [some (.ref 0), some (.int a0)], [.int (gm 1 (((8 : Int32) + a0)).toNatClampNeg)], (W_Mo gm))) (c := sv_in ((8 : Int32) + a0) 90) rfl (fun c1 => ?_)
  refine sv_Q.s (σ' := (10, [some (.ref 0), some (.int a0)], [.int (2 : Int32), .int (gm 1 (((8 : Int32) + a0)).toNatClampNeg)], (W_Mo gm))) 1 rfl ?_
  refine sv_Q.b rfl (fun c2 => ?_) (fun c2 => ?_)
  · refine sv_Q.s (σ' := (36, [some (.ref 0), some (.int a0)], [.int ((8 : Int32) + a0), .ref 1], (W_Mo gm))) 5 rfl ?_
    refine sv_Q.g (σ' := (37, [some (.ref 0), some (.int a0)], [.int (gm 1 (((8 : Int32) + a0)).toNatClampNeg)], (W_Mo gm))) (c := sv_in ((8 : Int32) + a0) 90) rfl (fun c3 => ?_)
    exact sv_Q.z ⟨True, rfl, trivial, rfl⟩
  · refine sv_Q.s (σ' := (21, [some (.ref 0), some (.int a0)], [.int (((gm 0 11) >>> (a0 &&& 31)) &&& (1 : Int32))], (W_Mo gm))) 6 rfl ?_
    refine sv_Q.b rfl (fun c4 => ?_) (fun c4 => ?_)
    · refine sv_Q.s (σ' := (36, [some (.ref 0), some (.int a0)], [.int ((8 : Int32) + a0), .ref 1], (W_Mo gm))) 5 rfl ?_
      refine sv_Q.g (σ' := (37, [some (.ref 0), some (.int a0)], [.int (gm 1 (((8 : Int32) + a0)).toNatClampNeg)], (W_Mo gm))) (c := sv_in ((8 : Int32) + a0) 90) rfl (fun c5 => ?_)
      exact sv_Q.z ⟨True, rfl, trivial, rfl⟩
    · refine sv_Q.s (σ' := (37, [some (.ref 0), some (.int a0)], [.int (3 : Int32)], (W_Mo gm))) 2 rfl ?_
      exact sv_Q.z ⟨True, rfl, trivial, rfl⟩
def F_Mo_wall (N : Nat) (a0 : Int32) (gm : Nat → Nat → Int32) : Option (Int32) := (if sv_in (0 : Int32) 90 then (if (F_Mo_in ((a0).toInt64) (0 : Int64) ((((gm 1 ((0 : Int32)).toNatClampNeg) - (2 : Int32))).toInt64)) = 0 then (some (-2 : Int32)) else (Option.bind (F_Mo_wallAt N a0 gm) fun (v3 : Int32) => (some v3))) else none)
set_option maxHeartbeats 4000000 in
set_option maxRecDepth 100000 in
theorem r_Mo_wall {X : Nat × (Nat → Int32)} (N : Nat) (gm : Nat → Nat → Int32) (a0 : Int32) : ∀ x, (F_Mo_wall N a0 gm) = some x → sv_R X 2 M_Mo_wall [.ref 0, .int a0] (W_Mo gm) (some (.int x)) (W_Mo gm) := by
  refine sv_Q.R (res := (fun (x : Int32) => (some (.int x), (W_Mo gm)))) g_Mo_wall rfl ?_
  unfold F_Mo_wall
  refine sv_Q.s (σ' := (8, [some (.ref 0), some (.int a0)], [.int (0 : Int32), .ref 1, .long (0 : Int64), .long ((a0).toInt64)], (W_Mo gm))) 6 rfl ?_
  refine sv_Q.g (σ' := (9, [some (.ref 0), some (.int a0)], [.int (gm 1 ((0 : Int32)).toNatClampNeg), .long (0 : Int64), .long ((a0).toInt64)], (W_Mo gm))) (c := sv_in (0 : Int32) 90) rfl (fun c1 => ?_)
  refine sv_Q.s (σ' := (12, [some (.ref 0), some (.int a0)], [.long ((((gm 1 ((0 : Int32)).toNatClampNeg) - (2 : Int32))).toInt64), .long (0 : Int64), .long ((a0).toInt64)], (W_Mo gm))) 3 rfl ?_
  refine sv_Q.S (ps := []) (rest := []) (cs1 := []) (cs2 := []) (st' := [.int (F_Mo_in ((a0).toInt64) (0 : Int64) ((((gm 1 ((0 : Int32)).toNatClampNeg) - (2 : Int32))).toInt64))]) (cs' := (W_Mo gm)) (q := (12, .null, 0, 0, 0)) lk_Mo_97 (t_Mo_in ((a0).toInt64) (0 : Int64) ((((gm 1 ((0 : Int32)).toNatClampNeg) - (2 : Int32))).toInt64)) rfl rfl rfl rfl rfl rfl rfl rfl rfl rfl (sv_pt_nil _ _) ?_
  refine sv_Q.b rfl (fun c2 => ?_) (fun c2 => ?_)
  · refine sv_Q.s (σ' := (28, [some (.ref 0), some (.int a0)], [.int (-2 : Int32)], (W_Mo gm))) 1 rfl ?_
    exact sv_Q.z ⟨True, rfl, trivial, rfl⟩
  · refine sv_Q.s (σ' := (20, [some (.ref 0), some (.int a0)], [.int a0, .ref 0], (W_Mo gm))) 2 rfl ?_
    refine sv_Q.o (fun v3 e4 => ?_)
    refine sv_Q.V (b := 0) (av := [.int a0]) (ps := [0, 1, 2, 3, 4, 5, 6, 7, 8, 9, 10, 11, 12, 13, 14, 15, 16, 17, 18, 19, 20, 21, 22]) (rest := []) (cs1 := (W_Mo gm)) (cs2 := (W_Mo gm)) (st' := [.int v3]) (cs' := (W_Mo gm)) (q := (20, .null, 0, 0, 0)) lk_Mo_270 (r_Mo_wallAt N gm a0 v3 e4) rfl rfl rfl rfl rfl (Or.inl ⟨12, _, _, rfl, rfl, rfl⟩) rfl rfl (sc_Mo_Mo_0 gm) rfl rfl (pc_Mo_Mo_0 gm gm) ?_
    refine sv_Q.s (σ' := (28, [some (.ref 0), some (.int a0)], [.int v3], (W_Mo gm))) 1 rfl ?_
    exact sv_Q.z ⟨True, rfl, trivial, rfl⟩
def F_Mo_isLevel (N : Nat) (a0 : Int32) (gm : Nat → Nat → Int32) : Option (Int32) := (if (F_Mo_in ((a0).toInt64) (1 : Int64) (4 : Int64)) = 0 then (some (0 : Int32)) else (if sv_in ((14 : Int32) + ((4 : Int32) * a0)) 90 then (if (gm 1 (((14 : Int32) + ((4 : Int32) * a0))).toNatClampNeg) = 0 then (some (0 : Int32)) else (some (1 : Int32))) else none))
set_option maxHeartbeats 4000000 in
set_option maxRecDepth 100000 in
theorem r_Mo_isLevel {X : Nat × (Nat → Int32)} (N : Nat) (gm : Nat → Nat → Int32) (a0 : Int32) : ∀ x, (F_Mo_isLevel N a0 gm) = some x → sv_R X 2 M_Mo_isLevel [.ref 0, .int a0] (W_Mo gm) (some (.int x)) (W_Mo gm) := by
  refine sv_Q.R (res := (fun (x : Int32) => (some (.int x), (W_Mo gm)))) g_Mo_isLevel rfl ?_
  unfold F_Mo_isLevel
  refine sv_Q.s (σ' := (6, [some (.ref 0), some (.int a0)], [.long (4 : Int64), .long (1 : Int64), .long ((a0).toInt64)], (W_Mo gm))) 4 rfl ?_
  refine sv_Q.S (ps := []) (rest := []) (cs1 := []) (cs2 := []) (st' := [.int (F_Mo_in ((a0).toInt64) (1 : Int64) (4 : Int64))]) (cs' := (W_Mo gm)) (q := (6, .null, 0, 0, 0)) lk_Mo_97 (t_Mo_in ((a0).toInt64) (1 : Int64) (4 : Int64)) rfl rfl rfl rfl rfl rfl rfl rfl rfl rfl (sv_pt_nil _ _) ?_
  refine sv_Q.b rfl (fun c1 => ?_) (fun c1 => ?_)
  · refine sv_Q.s (σ' := (31, [some (.ref 0), some (.int a0)], [.int (0 : Int32)], (W_Mo gm))) 1 rfl ?_
    exact sv_Q.z ⟨sv_01 (0 : Int32), rfl, Or.inl rfl, rfl⟩
  · refine sv_Q.s (σ' := (22, [some (.ref 0), some (.int a0)], [.int ((14 : Int32) + ((4 : Int32) * a0)), .ref 1], (W_Mo gm))) 7 rfl ?_
    refine sv_Q.g (σ' := (23, [some (.ref 0), some (.int a0)], [.int (gm 1 (((14 : Int32) + ((4 : Int32) * a0))).toNatClampNeg)], (W_Mo gm))) (c := sv_in ((14 : Int32) + ((4 : Int32) * a0)) 90) rfl (fun c2 => ?_)
    refine sv_Q.b rfl (fun c3 => ?_) (fun c3 => ?_)
    · refine sv_Q.s (σ' := (31, [some (.ref 0), some (.int a0)], [.int (0 : Int32)], (W_Mo gm))) 1 rfl ?_
      exact sv_Q.z ⟨sv_01 (0 : Int32), rfl, Or.inl rfl, rfl⟩
    · refine sv_Q.s (σ' := (31, [some (.ref 0), some (.int a0)], [.int (1 : Int32)], (W_Mo gm))) 2 rfl ?_
      exact sv_Q.z ⟨sv_01 (1 : Int32), rfl, Or.inr rfl, rfl⟩
def F_Mo_level (N : Nat) (a0 : Int32) (a1 : Int32) (gm : Nat → Nat → Int32) : Option (Int32) := (Option.bind (F_Mo_isLevel N a0 gm) fun (v1 : Int32) => (if v1 = 0 then (some (-2 : Int32)) else (if (F_Mo_in ((a1).toInt64) (0 : Int64) (3 : Int64)) = 0 then (some (-2 : Int32)) else (if sv_in (((14 : Int32) + ((4 : Int32) * a0)) + a1) 90 then (some (gm 1 ((((14 : Int32) + ((4 : Int32) * a0)) + a1)).toNatClampNeg)) else none))))
set_option maxHeartbeats 4000000 in
set_option maxRecDepth 100000 in
theorem r_Mo_level {X : Nat × (Nat → Int32)} (N : Nat) (gm : Nat → Nat → Int32) (a0 : Int32) (a1 : Int32) : ∀ x, (F_Mo_level N a0 a1 gm) = some x → sv_R X 3 M_Mo_level [.ref 0, .int a0, .int a1] (W_Mo gm) (some (.int x)) (W_Mo gm) := by
  refine sv_Q.R (res := (fun (x : Int32) => (some (.int x), (W_Mo gm)))) g_Mo_level rfl ?_
  unfold F_Mo_level
  refine sv_Q.s (σ' := (2, [some (.ref 0), some (.int a0), some (.int a1)], [.int a0, .ref 0], (W_Mo gm))) 2 rfl ?_
  refine sv_Q.o (fun v1 e2 => ?_)
  refine sv_Q.V (b := 0) (av := [.int a0]) (ps := [0, 1, 2, 3, 4, 5, 6, 7, 8, 9, 10, 11, 12, 13, 14, 15, 16, 17, 18, 19, 20, 21, 22]) (rest := []) (cs1 := (W_Mo gm)) (cs2 := (W_Mo gm)) (st' := [.int v1]) (cs' := (W_Mo gm)) (q := (2, .null, 0, 0, 0)) lk_Mo_275 (r_Mo_isLevel N gm a0 v1 e2) rfl rfl rfl rfl rfl (Or.inl ⟨12, _, _, rfl, rfl, rfl⟩) rfl rfl (sc_Mo_Mo_0 gm) rfl rfl (pc_Mo_Mo_0 gm gm) ?_
  refine sv_Q.b rfl (fun c3 => ?_) (fun c3 => ?_)
  · refine sv_Q.s (σ' := (38, [some (.ref 0), some (.int a0), some (.int a1)], [.int (-2 : Int32)], (W_Mo gm))) 1 rfl ?_
    exact sv_Q.z ⟨True, rfl, trivial, rfl⟩
  · refine sv_Q.s (σ' := (14, [some (.ref 0), some (.int a0), some (.int a1)], [.long (3 : Int64), .long (0 : Int64), .long ((a1).toInt64)], (W_Mo gm))) 4 rfl ?_
    refine sv_Q.S (ps := []) (rest := []) (cs1 := []) (cs2 := []) (st' := [.int (F_Mo_in ((a1).toInt64) (0 : Int64) (3 : Int64))]) (cs' := (W_Mo gm)) (q := (14, .null, 0, 0, 0)) lk_Mo_97 (t_Mo_in ((a1).toInt64) (0 : Int64) (3 : Int64)) rfl rfl rfl rfl rfl rfl rfl rfl rfl rfl (sv_pt_nil _ _) ?_
    refine sv_Q.b rfl (fun c4 => ?_) (fun c4 => ?_)
    · refine sv_Q.s (σ' := (38, [some (.ref 0), some (.int a0), some (.int a1)], [.int (-2 : Int32)], (W_Mo gm))) 1 rfl ?_
      exact sv_Q.z ⟨True, rfl, trivial, rfl⟩
    · refine sv_Q.s (σ' := (32, [some (.ref 0), some (.int a0), some (.int a1)], [.int (((14 : Int32) + ((4 : Int32) * a0)) + a1), .ref 1], (W_Mo gm))) 9 rfl ?_
      refine sv_Q.g (σ' := (33, [some (.ref 0), some (.int a0), some (.int a1)], [.int (gm 1 ((((14 : Int32) + ((4 : Int32) * a0)) + a1)).toNatClampNeg)], (W_Mo gm))) (c := sv_in (((14 : Int32) + ((4 : Int32) * a0)) + a1) 90) rfl (fun c5 => ?_)
      refine sv_Q.s (σ' := (38, [some (.ref 0), some (.int a0), some (.int a1)], [.int (gm 1 ((((14 : Int32) + ((4 : Int32) * a0)) + a1)).toNatClampNeg)], (W_Mo gm))) 1 rfl ?_
      exact sv_Q.z ⟨True, rfl, trivial, rfl⟩
def F_Mo_kind (N : Nat) (a0 : Int32) (gm : Nat → Nat → Int32) : Option (Int32) := (Option.bind (F_Mo_isKind N a0 gm) fun (v1 : Int32) => (if v1 = 0 then (some (-2 : Int32)) else (if sv_in ((34 : Int32) + a0) 90 then (some (gm 1 (((34 : Int32) + a0)).toNatClampNeg)) else none)))
set_option maxHeartbeats 4000000 in
set_option maxRecDepth 100000 in
theorem r_Mo_kind {X : Nat × (Nat → Int32)} (N : Nat) (gm : Nat → Nat → Int32) (a0 : Int32) : ∀ x, (F_Mo_kind N a0 gm) = some x → sv_R X 3 M_Mo_kind [.ref 0, .int a0] (W_Mo gm) (some (.int x)) (W_Mo gm) := by
  refine sv_Q.R (res := (fun (x : Int32) => (some (.int x), (W_Mo gm)))) g_Mo_kind rfl ?_
  unfold F_Mo_kind
  refine sv_Q.s (σ' := (2, [some (.ref 0), some (.int a0)], [.int a0, .ref 0], (W_Mo gm))) 2 rfl ?_
  refine sv_Q.o (fun v1 e2 => ?_)
  refine sv_Q.V (b := 0) (av := [.int a0]) (ps := [0, 1, 2, 3, 4, 5, 6, 7, 8, 9, 10, 11, 12, 13, 14, 15, 16, 17, 18, 19, 20, 21, 22]) (rest := []) (cs1 := (W_Mo gm)) (cs2 := (W_Mo gm)) (st' := [.int v1]) (cs' := (W_Mo gm)) (q := (2, .null, 0, 0, 0)) lk_Mo_280 (r_Mo_isKind N gm a0 v1 e2) rfl rfl rfl rfl rfl (Or.inl ⟨12, _, _, rfl, rfl, rfl⟩) rfl rfl (sc_Mo_Mo_0 gm) rfl rfl (pc_Mo_Mo_0 gm gm) ?_
  refine sv_Q.b rfl (fun c3 => ?_) (fun c3 => ?_)
  · refine sv_Q.s (σ' := (22, [some (.ref 0), some (.int a0)], [.int (-2 : Int32)], (W_Mo gm))) 1 rfl ?_
    exact sv_Q.z ⟨True, rfl, trivial, rfl⟩
  · refine sv_Q.s (σ' := (16, [some (.ref 0), some (.int a0)], [.int ((34 : Int32) + a0), .ref 1], (W_Mo gm))) 5 rfl ?_
    refine sv_Q.g (σ' := (17, [some (.ref 0), some (.int a0)], [.int (gm 1 (((34 : Int32) + a0)).toNatClampNeg)], (W_Mo gm))) (c := sv_in ((34 : Int32) + a0) 90) rfl (fun c4 => ?_)
    refine sv_Q.s (σ' := (22, [some (.ref 0), some (.int a0)], [.int (gm 1 (((34 : Int32) + a0)).toNatClampNeg)], (W_Mo gm))) 1 rfl ?_
    exact sv_Q.z ⟨True, rfl, trivial, rfl⟩
def F_Mo_apartOf (N : Nat) (a0 : Int32) (a1 : Int32) (gm : Nat → Nat → Int32) : Option (Int32) := (if sv_in (((41 : Int32) + ((7 : Int32) * a0)) + a1) 90 then (some (gm 1 ((((41 : Int32) + ((7 : Int32) * a0)) + a1)).toNatClampNeg)) else none)
set_option maxHeartbeats 4000000 in
set_option maxRecDepth 100000 in
theorem r_Mo_apartOf {X : Nat × (Nat → Int32)} (N : Nat) (gm : Nat → Nat → Int32) (a0 : Int32) (a1 : Int32) : ∀ x, (F_Mo_apartOf N a0 a1 gm) = some x → sv_R X 1 M_Mo_apartOf [.ref 0, .int a0, .int a1] (W_Mo gm) (some (.int x)) (W_Mo gm) := by
  refine sv_Q.R (res := (fun (x : Int32) => (some (.int x), (W_Mo gm)))) g_Mo_apartOf rfl ?_
  unfold F_Mo_apartOf
  refine sv_Q.s (σ' := (13, [some (.ref 0), some (.int a0), some (.int a1)], [.int (((41 : Int32) + ((7 : Int32) * a0)) + a1), .ref 1], (W_Mo gm))) 9 rfl ?_
  refine sv_Q.g (σ' := (14, [some (.ref 0), some (.int a0), some (.int a1)], [.int (gm 1 ((((41 : Int32) + ((7 : Int32) * a0)) + a1)).toNatClampNeg)], (W_Mo gm))) (c := sv_in (((41 : Int32) + ((7 : Int32) * a0)) + a1) 90) rfl (fun c1 => ?_)
  exact sv_Q.z ⟨True, rfl, trivial, rfl⟩
def F_Mo_apart (N : Nat) (a0 : Int32) (a1 : Int32) (gm : Nat → Nat → Int32) : Option (Int32) := (Option.bind (F_Mo_isKind N a0 gm) fun (v1 : Int32) => (if v1 = 0 then (some (-2 : Int32)) else (Option.bind (F_Mo_isKind N a1 gm) fun (v4 : Int32) => (if v4 = 0 then (some (-2 : Int32)) else (Option.bind (F_Mo_apartOf N a0 a1 gm) fun (v7 : Int32) => (some v7))))))
set_option maxHeartbeats 4000000 in
set_option maxRecDepth 100000 in
theorem r_Mo_apart {X : Nat × (Nat → Int32)} (N : Nat) (gm : Nat → Nat → Int32) (a0 : Int32) (a1 : Int32) : ∀ x, (F_Mo_apart N a0 a1 gm) = some x → sv_R X 3 M_Mo_apart [.ref 0, .int a0, .int a1] (W_Mo gm) (some (.int x)) (W_Mo gm) := by
  refine sv_Q.R (res := (fun (x : Int32) => (some (.int x), (W_Mo gm)))) g_Mo_apart rfl ?_
  unfold F_Mo_apart
  refine sv_Q.s (σ' := (2, [some (.ref 0), some (.int a0), some (.int a1)], [.int a0, .ref 0], (W_Mo gm))) 2 rfl ?_
  refine sv_Q.o (fun v1 e2 => ?_)
  refine sv_Q.V (b := 0) (av := [.int a0]) (ps := [0, 1, 2, 3, 4, 5, 6, 7, 8, 9, 10, 11, 12, 13, 14, 15, 16, 17, 18, 19, 20, 21, 22]) (rest := []) (cs1 := (W_Mo gm)) (cs2 := (W_Mo gm)) (st' := [.int v1]) (cs' := (W_Mo gm)) (q := (2, .null, 0, 0, 0)) lk_Mo_280 (r_Mo_isKind N gm a0 v1 e2) rfl rfl rfl rfl rfl (Or.inl ⟨12, _, _, rfl, rfl, rfl⟩) rfl rfl (sc_Mo_Mo_0 gm) rfl rfl (pc_Mo_Mo_0 gm gm) ?_
  refine sv_Q.b rfl (fun c3 => ?_) (fun c3 => ?_)
  · refine sv_Q.s (σ' := (27, [some (.ref 0), some (.int a0), some (.int a1)], [.int (-2 : Int32)], (W_Mo gm))) 1 rfl ?_
    exact sv_Q.z ⟨True, rfl, trivial, rfl⟩
  · refine sv_Q.s (σ' := (10, [some (.ref 0), some (.int a0), some (.int a1)], [.int a1, .ref 0], (W_Mo gm))) 2 rfl ?_
    refine sv_Q.o (fun v4 e5 => ?_)
    refine sv_Q.V (b := 0) (av := [.int a1]) (ps := [0, 1, 2, 3, 4, 5, 6, 7, 8, 9, 10, 11, 12, 13, 14, 15, 16, 17, 18, 19, 20, 21, 22]) (rest := []) (cs1 := (W_Mo gm)) (cs2 := (W_Mo gm)) (st' := [.int v4]) (cs' := (W_Mo gm)) (q := (10, .null, 0, 0, 0)) lk_Mo_280 (r_Mo_isKind N gm a1 v4 e5) rfl rfl rfl rfl rfl (Or.inl ⟨12, _, _, rfl, rfl, rfl⟩) rfl rfl (sc_Mo_Mo_0 gm) rfl rfl (pc_Mo_Mo_0 gm gm) ?_
    refine sv_Q.b rfl (fun c6 => ?_) (fun c6 => ?_)
    · refine sv_Q.s (σ' := (27, [some (.ref 0), some (.int a0), some (.int a1)], [.int (-2 : Int32)], (W_Mo gm))) 1 rfl ?_
      exact sv_Q.z ⟨True, rfl, trivial, rfl⟩
    · refine sv_Q.s (σ' := (19, [some (.ref 0), some (.int a0), some (.int a1)], [.int a1, .int a0, .ref 0], (W_Mo gm))) 3 rfl ?_
      refine sv_Q.o (fun v7 e8 => ?_)
      refine sv_Q.V (b := 0) (av := [.int a0, .int a1]) (ps := [0, 1, 2, 3, 4, 5, 6, 7, 8, 9, 10, 11, 12, 13, 14, 15, 16, 17, 18, 19, 20, 21, 22]) (rest := []) (cs1 := (W_Mo gm)) (cs2 := (W_Mo gm)) (st' := [.int v7]) (cs' := (W_Mo gm)) (q := (19, .null, 0, 0, 0)) lk_Mo_283 (r_Mo_apartOf N gm a0 a1 v7 e8) rfl rfl rfl rfl rfl (Or.inl ⟨12, _, _, rfl, rfl, rfl⟩) rfl rfl (sc_Mo_Mo_0 gm) rfl rfl (pc_Mo_Mo_0 gm gm) ?_
      refine sv_Q.s (σ' := (27, [some (.ref 0), some (.int a0), some (.int a1)], [.int v7], (W_Mo gm))) 1 rfl ?_
      exact sv_Q.z ⟨True, rfl, trivial, rfl⟩
def F_Mo_box (N : Nat) (a0 : Int32) (a1 : Int32) (gm : Nat → Nat → Int32) : Option (Int32) := (if (F_Mo_isBox a0 gm) = 0 then (some (-2 : Int32)) else (if ¬ (F_Mo_in ((a1).toInt64) (0 : Int64) (3 : Int64)) = 0 then (if ¬ a1 = 0 then (if ¬ a1 = (1 : Int32) then (if ¬ a1 = (2 : Int32) then (if sv_in a0 24 then (some (gm 7 (a0).toNatClampNeg)) else none) else (if sv_in a0 24 then (some (gm 6 (a0).toNatClampNeg)) else none)) else (if sv_in a0 24 then (some (gm 5 (a0).toNatClampNeg)) else none)) else (if sv_in a0 24 then (some (gm 4 (a0).toNatClampNeg)) else none)) else (some (-2 : Int32))))
set_option maxHeartbeats 4000000 in
set_option maxRecDepth 100000 in
theorem r_Mo_box {X : Nat × (Nat → Int32)} (N : Nat) (gm : Nat → Nat → Int32) (a0 : Int32) (a1 : Int32) : ∀ x, (F_Mo_box N a0 a1 gm) = some x → sv_R X 3 M_Mo_box [.ref 0, .int a0, .int a1] (W_Mo gm) (some (.int x)) (W_Mo gm) := by
  refine sv_Q.R (res := (fun (x : Int32) => (some (.int x), (W_Mo gm)))) g_Mo_box rfl ?_
  unfold F_Mo_box
  refine sv_Q.s (σ' := (2, [some (.ref 0), some (.int a0), some (.int a1)], [.int a0, .ref 0], (W_Mo gm))) 2 rfl ?_
  refine sv_Q.V (b := 0) (av := [.int a0]) (ps := [0, 1, 2, 3, 4, 5, 6, 7, 8, 9, 10, 11, 12, 13, 14, 15, 16, 17, 18, 19, 20, 21, 22]) (rest := []) (cs1 := (W_Mo gm)) (cs2 := (W_Mo gm)) (st' := [.int (F_Mo_isBox a0 gm)]) (cs' := (W_Mo gm)) (q := (2, .null, 0, 0, 0)) lk_Mo_286 (t_Mo_isBox gm a0) rfl rfl rfl rfl rfl (Or.inl ⟨12, _, _, rfl, rfl, rfl⟩) rfl rfl (sc_Mo_Mo_0 gm) rfl rfl (pc_Mo_Mo_0 gm gm) ?_
  refine sv_Q.b rfl (fun c1 => ?_) (fun c1 => ?_)
  · refine sv_Q.s (σ' := (22, [some (.ref 0), some (.int a0), some (.int a1)], [.int (-2 : Int32)], (W_Mo gm))) 1 rfl ?_
    exact sv_Q.z ⟨True, rfl, trivial, rfl⟩
  · refine sv_Q.s (σ' := (14, [some (.ref 0), some (.int a0), some (.int a1)], [.long (3 : Int64), .long (0 : Int64), .long ((a1).toInt64)], (W_Mo gm))) 4 rfl ?_
    refine sv_Q.S (ps := []) (rest := []) (cs1 := []) (cs2 := []) (st' := [.int (F_Mo_in ((a1).toInt64) (0 : Int64) (3 : Int64))]) (cs' := (W_Mo gm)) (q := (14, .null, 0, 0, 0)) lk_Mo_97 (t_Mo_in ((a1).toInt64) (0 : Int64) (3 : Int64)) rfl rfl rfl rfl rfl rfl rfl rfl rfl rfl (sv_pt_nil _ _) ?_
    refine sv_Q.b rfl (fun c2 => ?_) (fun c2 => ?_)
    · refine sv_Q.s (σ' := (24, [some (.ref 0), some (.int a0), some (.int a1)], [.int a1], (W_Mo gm))) 1 rfl ?_
      refine sv_Q.b rfl (fun c3 => ?_) (fun c3 => ?_)
      · refine sv_Q.s (σ' := (38, [some (.ref 0), some (.int a0), some (.int a1)], [.int (1 : Int32), .int a1], (W_Mo gm))) 2 rfl ?_
        refine sv_Q.b rfl (fun c4 => ?_) (fun c4 => ?_)
        · refine sv_Q.s (σ' := (52, [some (.ref 0), some (.int a0), some (.int a1)], [.int (2 : Int32), .int a1], (W_Mo gm))) 2 rfl ?_
          refine sv_Q.b rfl (fun c5 => ?_) (fun c5 => ?_)
          · refine sv_Q.s (σ' := (69, [some (.ref 0), some (.int a0), some (.int a1)], [.int a0, .ref 7], (W_Mo gm))) 3 rfl ?_
            refine sv_Q.g (σ' := (70, [some (.ref 0), some (.int a0), some (.int a1)], [.int (gm 7 (a0).toNatClampNeg)], (W_Mo gm))) (c := sv_in a0 24) rfl (fun c6 => ?_)
            exact sv_Q.z ⟨True, rfl, trivial, rfl⟩
          · refine sv_Q.s (σ' := (60, [some (.ref 0), some (.int a0), some (.int a1)], [.int a0, .ref 6], (W_Mo gm))) 3 rfl ?_
            refine sv_Q.g (σ' := (61, [some (.ref 0), some (.int a0), some (.int a1)], [.int (gm 6 (a0).toNatClampNeg)], (W_Mo gm))) (c := sv_in a0 24) rfl (fun c7 => ?_)
            refine sv_Q.s (σ' := (70, [some (.ref 0), some (.int a0), some (.int a1)], [.int (gm 6 (a0).toNatClampNeg)], (W_Mo gm))) 1 rfl ?_
            exact sv_Q.z ⟨True, rfl, trivial, rfl⟩
        · refine sv_Q.s (σ' := (46, [some (.ref 0), some (.int a0), some (.int a1)], [.int a0, .ref 5], (W_Mo gm))) 3 rfl ?_
          refine sv_Q.g (σ' := (47, [some (.ref 0), some (.int a0), some (.int a1)], [.int (gm 5 (a0).toNatClampNeg)], (W_Mo gm))) (c := sv_in a0 24) rfl (fun c8 => ?_)
          refine sv_Q.s (σ' := (70, [some (.ref 0), some (.int a0), some (.int a1)], [.int (gm 5 (a0).toNatClampNeg)], (W_Mo gm))) 1 rfl ?_
          exact sv_Q.z ⟨True, rfl, trivial, rfl⟩
      · refine sv_Q.s (σ' := (32, [some (.ref 0), some (.int a0), some (.int a1)], [.int a0, .ref 4], (W_Mo gm))) 3 rfl ?_
        refine sv_Q.g (σ' := (33, [some (.ref 0), some (.int a0), some (.int a1)], [.int (gm 4 (a0).toNatClampNeg)], (W_Mo gm))) (c := sv_in a0 24) rfl (fun c9 => ?_)
        refine sv_Q.s (σ' := (70, [some (.ref 0), some (.int a0), some (.int a1)], [.int (gm 4 (a0).toNatClampNeg)], (W_Mo gm))) 1 rfl ?_
        exact sv_Q.z ⟨True, rfl, trivial, rfl⟩
    · refine sv_Q.s (σ' := (22, [some (.ref 0), some (.int a0), some (.int a1)], [.int (-2 : Int32)], (W_Mo gm))) 1 rfl ?_
      exact sv_Q.z ⟨True, rfl, trivial, rfl⟩
def F_Mo_at (N : Nat) (a0 : Int32) (gm : Nat → Nat → Int32) : Option (Int32) := (Option.bind (F_Mo_isPlace N a0 gm) fun (v1 : Int32) => (if v1 = 0 then (some (-2 : Int32)) else (if sv_in a0 144 then (some (gm 8 (a0).toNatClampNeg)) else none)))
set_option maxHeartbeats 4000000 in
set_option maxRecDepth 100000 in
theorem r_Mo_at {X : Nat × (Nat → Int32)} (N : Nat) (gm : Nat → Nat → Int32) (a0 : Int32) : ∀ x, (F_Mo_at N a0 gm) = some x → sv_R X 4 M_Mo_at [.ref 0, .int a0] (W_Mo gm) (some (.int x)) (W_Mo gm) := by
  refine sv_Q.R (res := (fun (x : Int32) => (some (.int x), (W_Mo gm)))) g_Mo_at rfl ?_
  unfold F_Mo_at
  refine sv_Q.s (σ' := (2, [some (.ref 0), some (.int a0)], [.int a0, .ref 0], (W_Mo gm))) 2 rfl ?_
  refine sv_Q.o (fun v1 e2 => ?_)
  refine sv_Q.V (b := 0) (av := [.int a0]) (ps := [0, 1, 2, 3, 4, 5, 6, 7, 8, 9, 10, 11, 12, 13, 14, 15, 16, 17, 18, 19, 20, 21, 22]) (rest := []) (cs1 := (W_Mo gm)) (cs2 := (W_Mo gm)) (st' := [.int v1]) (cs' := (W_Mo gm)) (q := (2, .null, 0, 0, 0)) lk_Mo_289 (r_Mo_isPlace N gm a0 v1 e2) rfl rfl rfl rfl rfl (Or.inl ⟨12, _, _, rfl, rfl, rfl⟩) rfl rfl (sc_Mo_Mo_0 gm) rfl rfl (pc_Mo_Mo_0 gm gm) ?_
  refine sv_Q.b rfl (fun c3 => ?_) (fun c3 => ?_)
  · refine sv_Q.s (σ' := (19, [some (.ref 0), some (.int a0)], [.int (-2 : Int32)], (W_Mo gm))) 1 rfl ?_
    exact sv_Q.z ⟨True, rfl, trivial, rfl⟩
  · refine sv_Q.s (σ' := (13, [some (.ref 0), some (.int a0)], [.int a0, .ref 8], (W_Mo gm))) 3 rfl ?_
    refine sv_Q.g (σ' := (14, [some (.ref 0), some (.int a0)], [.int (gm 8 (a0).toNatClampNeg)], (W_Mo gm))) (c := sv_in a0 144) rfl (fun c4 => ?_)
    refine sv_Q.s (σ' := (19, [some (.ref 0), some (.int a0)], [.int (gm 8 (a0).toNatClampNeg)], (W_Mo gm))) 1 rfl ?_
    exact sv_Q.z ⟨True, rfl, trivial, rfl⟩
def L_Mo_shutBetween_37 (N : Nat) : Nat → Int32 → Int32 → Int32 → Int32 → (Nat → Nat → Int32) → Option (Int32)
  | 0, _, _, _, _, _ => none
  | n + 1, x3, x5, x6, x7, gm => (if x5 ≤ x7 then (some x6) else (if sv_in ((8 : Int32) + x7) 90 then (if (gm 1 (((8 : Int32) + x7)).toNatClampNeg) = (1 : Int32) then (L_Mo_shutBetween_37 N n x3 x5 (x6 + (1 : Int32)) (x7 + (1 : Int32)) gm) else (if sv_in ((8 : Int32) + x7) 90 then (if ¬ (gm 1 (((8 : Int32) + x7)).toNatClampNeg) = (2 : Int32) then (L_Mo_shutBetween_37 N n x3 x5 (x6 + (0 : Int32)) (x7 + (1 : Int32)) gm) else (if ¬ ((x3 >>> (x7 &&& 31)) &&& (1 : Int32)) = 0 then (L_Mo_shutBetween_37 N n x3 x5 (x6 + (0 : Int32)) (x7 + (1 : Int32)) gm) else (L_Mo_shutBetween_37 N n x3 x5 (x6 + (1 : Int32)) (x7 + (1 : Int32)) gm))) else none)) else none))
set_option maxHeartbeats 4000000 in
set_option maxRecDepth 100000 in
theorem l_Mo_shutBetween_37 {X : Nat × (Nat → Int32)} (N : Nat) : ∀ (n : Nat) (x3 : Int32) (x5 : Int32) (x6 : Int32) (x7 : Int32) (gm : Nat → Nat → Int32), sv_Q X 2 M_Mo_shutBetween (37, [some (.ref 0), none, none, some (.int x3), none, some (.int x5), some (.int x6), some (.int x7)], [], (W_Mo gm)) (L_Mo_shutBetween_37 N n x3 x5 x6 x7 gm) (fun v σ' => σ' = (97, [none, none, none, none, none, none, some (.int v), none], [], (W_Mo gm))) := by
  intro n
  induction n with
  | zero => intro x3 x5 x6 x7 gm; unfold L_Mo_shutBetween_37; exact sv_Q.non
  | succ n ih =>
    intro x3 x5 x6 x7 gm
    unfold L_Mo_shutBetween_37
    refine sv_Q.s (σ' := (41, [some (.ref 0), none, none, some (.int x3), none, some (.int x5), some (.int x6), some (.int x7)], [.int x5, .int x7], (W_Mo gm))) 2 rfl ?_
    refine sv_Q.b rfl (fun c9 => ?_) (fun c9 => ?_)
    · refine sv_Q.f (lo' := [none, none, none, none, none, none, some (.int x6), none]) ⟨rfl, trivial⟩ ?_
      exact sv_Q.z rfl
    · refine sv_Q.s (σ' := (55, [some (.ref 0), none, none, some (.int x3), none, some (.int x5), some (.int x6), some (.int x7)], [.int ((8 : Int32) + x7), .ref 1, .int x6], (W_Mo gm))) 6 rfl ?_
      refine sv_Q.g (σ' := (56, [some (.ref 0), none, none, some (.int x3), none, some (.int x5), some (.int x6), some (.int x7)], [.int (gm 1 (((8 : Int32) + x7)).toNatClampNeg), .int x6], (W_Mo gm))) (c := sv_in ((8 : Int32) + x7) 90) rfl (fun c10 => ?_)
      refine sv_Q.s (σ' := (57, [some (.ref 0), none, none, some (.int x3), none, some (.int x5), some (.int x6), some (.int x7)], [.int (1 : Int32), .int (gm 1 (((8 : Int32) + x7)).toNatClampNeg), .int x6], (W_Mo gm))) 1 rfl ?_
      refine sv_Q.b rfl (fun c11 => ?_) (fun c11 => ?_)
      · refine sv_Q.s (σ' := (37, [some (.ref 0), none, none, some (.int x3), none, some (.int x5), some (.int (x6 + (1 : Int32))), some (.int (x7 + (1 : Int32)))], [], (W_Mo gm))) 6 rfl ?_
        exact ih x3 x5 (x6 + (1 : Int32)) (x7 + (1 : Int32)) gm
      · refine sv_Q.s (σ' := (69, [some (.ref 0), none, none, some (.int x3), none, some (.int x5), some (.int x6), some (.int x7)], [.int ((8 : Int32) + x7), .ref 1, .int x6], (W_Mo gm))) 5 rfl ?_
        refine sv_Q.g (σ' := (70, [some (.ref 0), none, none, some (.int x3), none, some (.int x5), some (.int x6), some (.int x7)], [.int (gm 1 (((8 : Int32) + x7)).toNatClampNeg), .int x6], (W_Mo gm))) (c := sv_in ((8 : Int32) + x7) 90) rfl (fun c12 => ?_)
        refine sv_Q.s (σ' := (71, [some (.ref 0), none, none, some (.int x3), none, some (.int x5), some (.int x6), some (.int x7)], [.int (2 : Int32), .int (gm 1 (((8 : Int32) + x7)).toNatClampNeg), .int x6], (W_Mo gm))) 1 rfl ?_
        refine sv_Q.b rfl (fun c13 => ?_) (fun c13 => ?_)
        · refine sv_Q.s (σ' := (37, [some (.ref 0), none, none, some (.int x3), none, some (.int x5), some (.int (x6 + (0 : Int32))), some (.int (x7 + (1 : Int32)))], [], (W_Mo gm))) 5 rfl ?_
          exact ih x3 x5 (x6 + (0 : Int32)) (x7 + (1 : Int32)) gm
        · refine sv_Q.s (σ' := (80, [some (.ref 0), none, none, some (.int x3), none, some (.int x5), some (.int x6), some (.int x7)], [.int ((x3 >>> (x7 &&& 31)) &&& (1 : Int32)), .int x6], (W_Mo gm))) 5 rfl ?_
          refine sv_Q.b rfl (fun c14 => ?_) (fun c14 => ?_)
          · refine sv_Q.s (σ' := (37, [some (.ref 0), none, none, some (.int x3), none, some (.int x5), some (.int (x6 + (0 : Int32))), some (.int (x7 + (1 : Int32)))], [], (W_Mo gm))) 5 rfl ?_
            exact ih x3 x5 (x6 + (0 : Int32)) (x7 + (1 : Int32)) gm
          · refine sv_Q.s (σ' := (37, [some (.ref 0), none, none, some (.int x3), none, some (.int x5), some (.int (x6 + (1 : Int32))), some (.int (x7 + (1 : Int32)))], [], (W_Mo gm))) 6 rfl ?_
            exact ih x3 x5 (x6 + (1 : Int32)) (x7 + (1 : Int32)) gm
def F_Mo_shutBetween (N : Nat) (a0 : Int32) (a1 : Int32) (a2 : Int32) (gm : Nat → Nat → Int32) : Option (Int32) := (Option.bind (F_Mo_bayOfPlace N a0 gm) fun (v1 : Int32) => (Option.bind (F_Mo_bayOfPlace N a1 gm) fun (v3 : Int32) => (Option.bind (F_Mo_bayOfPlace N a0 gm) fun (v5 : Int32) => (Option.bind (F_Mo_bayOfPlace N a1 gm) fun (v7 : Int32) => (Option.bind (L_Mo_shutBetween_37 N N a2 (if v5 < v7 then v7 else v5) (0 : Int32) (if v3 < v1 then v3 else v1) gm) fun (v15 : Int32) => (some v15))))))
set_option maxHeartbeats 4000000 in
set_option maxRecDepth 100000 in
theorem r_Mo_shutBetween {X : Nat × (Nat → Int32)} (N : Nat) (gm : Nat → Nat → Int32) (a0 : Int32) (a1 : Int32) (a2 : Int32) : ∀ x, (F_Mo_shutBetween N a0 a1 a2 gm) = some x → sv_R X 3 M_Mo_shutBetween [.ref 0, .int a0, .int a1, .int a2] (W_Mo gm) (some (.int x)) (W_Mo gm) := by
  refine sv_Q.R (res := (fun (x : Int32) => (some (.int x), (W_Mo gm)))) g_Mo_shutBetween rfl ?_
  unfold F_Mo_shutBetween
  refine sv_Q.s (σ' := (2, [some (.ref 0), some (.int a0), some (.int a1), some (.int a2), none, none, none, none], [.int a0, .ref 0], (W_Mo gm))) 2 rfl ?_
  refine sv_Q.o (fun v1 e2 => ?_)
  refine sv_Q.V (b := 0) (av := [.int a0]) (ps := [0, 1, 2, 3, 4, 5, 6, 7, 8, 9, 10, 11, 12, 13, 14, 15, 16, 17, 18, 19, 20, 21, 22]) (rest := []) (cs1 := (W_Mo gm)) (cs2 := (W_Mo gm)) (st' := [.int v1]) (cs' := (W_Mo gm)) (q := (2, .null, 0, 0, 0)) lk_Mo_292 (r_Mo_bayOfPlace N gm a0 v1 e2) rfl rfl rfl rfl rfl (Or.inl ⟨12, _, _, rfl, rfl, rfl⟩) rfl rfl (sc_Mo_Mo_0 gm) rfl rfl (pc_Mo_Mo_0 gm gm) ?_
  refine sv_Q.s (σ' := (7, [some (.ref 0), some (.int a0), some (.int a1), some (.int a2), none, none, none, none], [.int a1, .ref 0, .int v1], (W_Mo gm))) 2 rfl ?_
  refine sv_Q.o (fun v3 e4 => ?_)
  refine sv_Q.V (b := 0) (av := [.int a1]) (ps := [0, 1, 2, 3, 4, 5, 6, 7, 8, 9, 10, 11, 12, 13, 14, 15, 16, 17, 18, 19, 20, 21, 22]) (rest := [.int v1]) (cs1 := (W_Mo gm)) (cs2 := (W_Mo gm)) (st' := [.int v3, .int v1]) (cs' := (W_Mo gm)) (q := (7, .null, 0, 0, 0)) lk_Mo_292 (r_Mo_bayOfPlace N gm a1 v3 e4) rfl rfl rfl rfl rfl (Or.inl ⟨12, _, _, rfl, rfl, rfl⟩) rfl rfl (sc_Mo_Mo_0 gm) rfl rfl (pc_Mo_Mo_0 gm gm) ?_
  refine sv_Q.s (σ' := (17, [some (.ref 0), some (.int a0), some (.int a1), some (.int a2), some (.int (if v3 < v1 then v3 else v1)), none, none, none], [.int a0, .ref 0], (W_Mo gm))) 4 rfl ?_
  refine sv_Q.o (fun v5 e6 => ?_)
  refine sv_Q.V (b := 0) (av := [.int a0]) (ps := [0, 1, 2, 3, 4, 5, 6, 7, 8, 9, 10, 11, 12, 13, 14, 15, 16, 17, 18, 19, 20, 21, 22]) (rest := []) (cs1 := (W_Mo gm)) (cs2 := (W_Mo gm)) (st' := [.int v5]) (cs' := (W_Mo gm)) (q := (17, .null, 0, 0, 0)) lk_Mo_292 (r_Mo_bayOfPlace N gm a0 v5 e6) rfl rfl rfl rfl rfl (Or.inl ⟨12, _, _, rfl, rfl, rfl⟩) rfl rfl (sc_Mo_Mo_0 gm) rfl rfl (pc_Mo_Mo_0 gm gm) ?_
  refine sv_Q.s (σ' := (22, [some (.ref 0), some (.int a0), some (.int a1), some (.int a2), some (.int (if v3 < v1 then v3 else v1)), none, none, none], [.int a1, .ref 0, .int v5], (W_Mo gm))) 2 rfl ?_
  refine sv_Q.o (fun v7 e8 => ?_)
  refine sv_Q.V (b := 0) (av := [.int a1]) (ps := [0, 1, 2, 3, 4, 5, 6, 7, 8, 9, 10, 11, 12, 13, 14, 15, 16, 17, 18, 19, 20, 21, 22]) (rest := [.int v5]) (cs1 := (W_Mo gm)) (cs2 := (W_Mo gm)) (st' := [.int v7, .int v5]) (cs' := (W_Mo gm)) (q := (22, .null, 0, 0, 0)) lk_Mo_292 (r_Mo_bayOfPlace N gm a1 v7 e8) rfl rfl rfl rfl rfl (Or.inl ⟨12, _, _, rfl, rfl, rfl⟩) rfl rfl (sc_Mo_Mo_0 gm) rfl rfl (pc_Mo_Mo_0 gm gm) ?_
  refine sv_Q.s (σ' := (37, [some (.ref 0), some (.int a0), some (.int a1), some (.int a2), some (.int (if v3 < v1 then v3 else v1)), some (.int (if v5 < v7 then v7 else v5)), some (.int (0 : Int32)), some (.int (if v3 < v1 then v3 else v1))], [], (W_Mo gm))) 6 rfl ?_
  refine sv_Q.f (lo' := [some (.ref 0), none, none, some (.int a2), none, some (.int (if v5 < v7 then v7 else v5)), some (.int (0 : Int32)), some (.int (if v3 < v1 then v3 else v1))]) ⟨rfl, ⟨rfl, ⟨rfl, ⟨rfl, ⟨rfl, trivial⟩⟩⟩⟩⟩ ?_
  refine sv_Q.lo (fun v15 => (97, [none, none, none, none, none, none, some (.int v15), none], [], (W_Mo gm))) (fun v15 => ?_) (l_Mo_shutBetween_37 N N a2 (if v5 < v7 then v7 else v5) (0 : Int32) (if v3 < v1 then v3 else v1) gm)
  · refine sv_Q.s (σ' := (99, [none, none, none, none, none, none, some (.int v15), none], [.int v15], (W_Mo gm))) 1 rfl ?_
    exact sv_Q.z ⟨True, rfl, trivial, rfl⟩
def F_Mo_betweenOf (N : Nat) (a0 : Int32) (a1 : Int32) (a2 : Int32) (gm : Nat → Nat → Int32) : Option (Int32) := (if a2 = (0 : Int32) then (Option.bind (F_Mo_rowOf N a0 gm) fun (v4 : Int32) => (Option.bind (F_Mo_rowOf N a1 gm) fun (v6 : Int32) => (some (if 0 ≤ (v4 - v6) then (v4 - v6) else 0 - (v4 - v6))))) else (if a2 = (1 : Int32) then (Option.bind (F_Mo_bayOfPlace N a0 gm) fun (v8 : Int32) => (Option.bind (F_Mo_bayOfPlace N a1 gm) fun (v10 : Int32) => (some (if 0 ≤ (v8 - v10) then (v8 - v10) else 0 - (v8 - v10))))) else (if a2 = (2 : Int32) then (Option.bind (F_Mo_shutBetween N a0 a1 (gm 0 11) gm) fun (v12 : Int32) => (some v12)) else (Option.bind (F_Mo_isOnDeck N a0 gm) fun (v14 : Int32) => (Option.bind (F_Mo_isOnDeck N a1 gm) fun (v16 : Int32) => (if v14 = v16 then (some (0 : Int32)) else (some (1 : Int32))))))))
set_option maxHeartbeats 4000000 in
set_option maxRecDepth 100000 in
theorem r_Mo_betweenOf {X : Nat × (Nat → Int32)} (N : Nat) (gm : Nat → Nat → Int32) (a0 : Int32) (a1 : Int32) (a2 : Int32) : ∀ x, (F_Mo_betweenOf N a0 a1 a2 gm) = some x → sv_R X 4 M_Mo_betweenOf [.ref 0, .int a0, .int a1, .int a2] (W_Mo gm) (some (.int x)) (W_Mo gm) := by
  refine sv_Q.R (res := (fun (x : Int32) => (some (.int x), (W_Mo gm)))) g_Mo_betweenOf rfl ?_
  unfold F_Mo_betweenOf
  refine sv_Q.s (σ' := (1, [some (.ref 0), some (.int a0), some (.int a1), some (.int a2)], [.int a2], (W_Mo gm))) 1 rfl ?_
  refine sv_Q.ite (fun c1 => ?_) (fun c1 => ?_)
  · refine sv_Q.w (σ' := (28, [some (.ref 0), some (.int a0), some (.int a1), some (.int a2)], [], (W_Mo gm))) (c := (¬ (a2).toInt < 0 ∧ ¬ 2 < (a2).toInt ∧ ((a2).toInt - 0).toNat = 0) ∧ (0 : Int) ≤ 28) (k := some 0) rfl ⟨by rw [c1]; decide, by decide⟩ ?_
    refine sv_Q.s (σ' := (30, [some (.ref 0), some (.int a0), some (.int a1), some (.int a2)], [.int a0, .ref 0], (W_Mo gm))) 2 rfl ?_
    refine sv_Q.o (fun v4 e5 => ?_)
    refine sv_Q.V (b := 0) (av := [.int a0]) (ps := [0, 1, 2, 3, 4, 5, 6, 7, 8, 9, 10, 11, 12, 13, 14, 15, 16, 17, 18, 19, 20, 21, 22]) (rest := []) (cs1 := (W_Mo gm)) (cs2 := (W_Mo gm)) (st' := [.int v4]) (cs' := (W_Mo gm)) (q := (30, .null, 0, 0, 0)) lk_Mo_298 (r_Mo_rowOf N gm a0 v4 e5) rfl rfl rfl rfl rfl (Or.inl ⟨12, _, _, rfl, rfl, rfl⟩) rfl rfl (sc_Mo_Mo_0 gm) rfl rfl (pc_Mo_Mo_0 gm gm) ?_
    refine sv_Q.s (σ' := (35, [some (.ref 0), some (.int a0), some (.int a1), some (.int a2)], [.int a1, .ref 0, .int v4], (W_Mo gm))) 2 rfl ?_
    refine sv_Q.o (fun v6 e7 => ?_)
    refine sv_Q.V (b := 0) (av := [.int a1]) (ps := [0, 1, 2, 3, 4, 5, 6, 7, 8, 9, 10, 11, 12, 13, 14, 15, 16, 17, 18, 19, 20, 21, 22]) (rest := [.int v4]) (cs1 := (W_Mo gm)) (cs2 := (W_Mo gm)) (st' := [.int v6, .int v4]) (cs' := (W_Mo gm)) (q := (35, .null, 0, 0, 0)) lk_Mo_298 (r_Mo_rowOf N gm a1 v6 e7) rfl rfl rfl rfl rfl (Or.inl ⟨12, _, _, rfl, rfl, rfl⟩) rfl rfl (sc_Mo_Mo_0 gm) rfl rfl (pc_Mo_Mo_0 gm gm) ?_
    refine sv_Q.s (σ' := (42, [some (.ref 0), some (.int a0), some (.int a1), some (.int a2)], [.int (if 0 ≤ (v4 - v6) then (v4 - v6) else 0 - (v4 - v6))], (W_Mo gm))) 2 rfl ?_
    exact sv_Q.z ⟨True, rfl, trivial, rfl⟩
  · refine sv_Q.ite (fun c2 => ?_) (fun c2 => ?_)
    · refine sv_Q.w (σ' := (43, [some (.ref 0), some (.int a0), some (.int a1), some (.int a2)], [], (W_Mo gm))) (c := (¬ (a2).toInt < 0 ∧ ¬ 2 < (a2).toInt ∧ ((a2).toInt - 0).toNat = 1) ∧ (0 : Int) ≤ 43) (k := some 1) rfl ⟨by rw [c2]; decide, by decide⟩ ?_
      refine sv_Q.s (σ' := (45, [some (.ref 0), some (.int a0), some (.int a1), some (.int a2)], [.int a0, .ref 0], (W_Mo gm))) 2 rfl ?_
      refine sv_Q.o (fun v8 e9 => ?_)
      refine sv_Q.V (b := 0) (av := [.int a0]) (ps := [0, 1, 2, 3, 4, 5, 6, 7, 8, 9, 10, 11, 12, 13, 14, 15, 16, 17, 18, 19, 20, 21, 22]) (rest := []) (cs1 := (W_Mo gm)) (cs2 := (W_Mo gm)) (st' := [.int v8]) (cs' := (W_Mo gm)) (q := (45, .null, 0, 0, 0)) lk_Mo_292 (r_Mo_bayOfPlace N gm a0 v8 e9) rfl rfl rfl rfl rfl (Or.inl ⟨12, _, _, rfl, rfl, rfl⟩) rfl rfl (sc_Mo_Mo_0 gm) rfl rfl (pc_Mo_Mo_0 gm gm) ?_
      refine sv_Q.s (σ' := (50, [some (.ref 0), some (.int a0), some (.int a1), some (.int a2)], [.int a1, .ref 0, .int v8], (W_Mo gm))) 2 rfl ?_
      refine sv_Q.o (fun v10 e11 => ?_)
      refine sv_Q.V (b := 0) (av := [.int a1]) (ps := [0, 1, 2, 3, 4, 5, 6, 7, 8, 9, 10, 11, 12, 13, 14, 15, 16, 17, 18, 19, 20, 21, 22]) (rest := [.int v8]) (cs1 := (W_Mo gm)) (cs2 := (W_Mo gm)) (st' := [.int v10, .int v8]) (cs' := (W_Mo gm)) (q := (50, .null, 0, 0, 0)) lk_Mo_292 (r_Mo_bayOfPlace N gm a1 v10 e11) rfl rfl rfl rfl rfl (Or.inl ⟨12, _, _, rfl, rfl, rfl⟩) rfl rfl (sc_Mo_Mo_0 gm) rfl rfl (pc_Mo_Mo_0 gm gm) ?_
      refine sv_Q.s (σ' := (57, [some (.ref 0), some (.int a0), some (.int a1), some (.int a2)], [.int (if 0 ≤ (v8 - v10) then (v8 - v10) else 0 - (v8 - v10))], (W_Mo gm))) 2 rfl ?_
      exact sv_Q.z ⟨True, rfl, trivial, rfl⟩
    · refine sv_Q.ite (fun c3 => ?_) (fun c3 => ?_)
      · refine sv_Q.w (σ' := (58, [some (.ref 0), some (.int a0), some (.int a1), some (.int a2)], [], (W_Mo gm))) (c := (¬ (a2).toInt < 0 ∧ ¬ 2 < (a2).toInt ∧ ((a2).toInt - 0).toNat = 2) ∧ (0 : Int) ≤ 58) (k := some 2) rfl ⟨by rw [c3]; decide, by decide⟩ ?_
        refine sv_Q.s (σ' := (65, [some (.ref 0), some (.int a0), some (.int a1), some (.int a2)], [.int (gm 0 11), .int a1, .int a0, .ref 0], (W_Mo gm))) 5 rfl ?_
        refine sv_Q.o (fun v12 e13 => ?_)
        refine sv_Q.V (b := 0) (av := [.int a0, .int a1, .int (gm 0 11)]) (ps := [0, 1, 2, 3, 4, 5, 6, 7, 8, 9, 10, 11, 12, 13, 14, 15, 16, 17, 18, 19, 20, 21, 22]) (rest := []) (cs1 := (W_Mo gm)) (cs2 := (W_Mo gm)) (st' := [.int v12]) (cs' := (W_Mo gm)) (q := (65, .null, 0, 0, 0)) lk_Mo_304 (r_Mo_shutBetween N gm a0 a1 (gm 0 11) v12 e13) rfl rfl rfl rfl rfl (Or.inl ⟨12, _, _, rfl, rfl, rfl⟩) rfl rfl (sc_Mo_Mo_0 gm) rfl rfl (pc_Mo_Mo_0 gm gm) ?_
        exact sv_Q.z ⟨True, rfl, trivial, rfl⟩
      · refine sv_Q.w (σ' := (69, [some (.ref 0), some (.int a0), some (.int a1), some (.int a2)], [], (W_Mo gm))) (c := ((a2).toInt < 0 ∨ 2 < (a2).toInt) ∧ (0 : Int) ≤ 69) (k := none) rfl ⟨by (have q0 := sv_ne c1); (have q1 := sv_ne c2); (have q2 := sv_ne c3); (have e0 : (0 : Int32).toInt = 0 := (by decide)); (have e1 : (1 : Int32).toInt = 1 := (by decide)); (have e2 : (2 : Int32).toInt = 2 := (by decide)); omega, by decide⟩ ?_
        refine sv_Q.s (σ' := (71, [some (.ref 0), some (.int a0), some (.int a1), some (.int a2)], [.int a0, .ref 0], (W_Mo gm))) 2 rfl ?_
        refine sv_Q.o (fun v14 e15 => ?_)
        refine sv_Q.V (b := 0) (av := [.int a0]) (ps := [0, 1, 2, 3, 4, 5, 6, 7, 8, 9, 10, 11, 12, 13, 14, 15, 16, 17, 18, 19, 20, 21, 22]) (rest := []) (cs1 := (W_Mo gm)) (cs2 := (W_Mo gm)) (st' := [.int v14]) (cs' := (W_Mo gm)) (q := (71, .null, 0, 0, 0)) lk_Mo_260 (r_Mo_isOnDeck N gm a0 v14 e15) rfl rfl rfl rfl rfl (Or.inl ⟨12, _, _, rfl, rfl, rfl⟩) rfl rfl (sc_Mo_Mo_0 gm) rfl rfl (pc_Mo_Mo_0 gm gm) ?_
        refine sv_Q.s (σ' := (76, [some (.ref 0), some (.int a0), some (.int a1), some (.int a2)], [.int a1, .ref 0, .int v14], (W_Mo gm))) 2 rfl ?_
        refine sv_Q.o (fun v16 e17 => ?_)
        refine sv_Q.V (b := 0) (av := [.int a1]) (ps := [0, 1, 2, 3, 4, 5, 6, 7, 8, 9, 10, 11, 12, 13, 14, 15, 16, 17, 18, 19, 20, 21, 22]) (rest := [.int v14]) (cs1 := (W_Mo gm)) (cs2 := (W_Mo gm)) (st' := [.int v16, .int v14]) (cs' := (W_Mo gm)) (q := (76, .null, 0, 0, 0)) lk_Mo_260 (r_Mo_isOnDeck N gm a1 v16 e17) rfl rfl rfl rfl rfl (Or.inl ⟨12, _, _, rfl, rfl, rfl⟩) rfl rfl (sc_Mo_Mo_0 gm) rfl rfl (pc_Mo_Mo_0 gm gm) ?_
        refine sv_Q.b rfl (fun c18 => ?_) (fun c18 => ?_)
        · refine sv_Q.s (σ' := (87, [some (.ref 0), some (.int a0), some (.int a1), some (.int a2)], [.int (0 : Int32)], (W_Mo gm))) 1 rfl ?_
          exact sv_Q.z ⟨True, rfl, trivial, rfl⟩
        · refine sv_Q.s (σ' := (87, [some (.ref 0), some (.int a0), some (.int a1), some (.int a2)], [.int (1 : Int32)], (W_Mo gm))) 2 rfl ?_
          exact sv_Q.z ⟨True, rfl, trivial, rfl⟩
def F_Mo_between (N : Nat) (a0 : Int32) (a1 : Int32) (a2 : Int32) (gm : Nat → Nat → Int32) : Option (Int32) := (Option.bind (F_Mo_isPlace N a0 gm) fun (v1 : Int32) => (if v1 = 0 then (some (-2 : Int32)) else (Option.bind (F_Mo_isPlace N a1 gm) fun (v4 : Int32) => (if v4 = 0 then (some (-2 : Int32)) else (if (F_Mo_in ((a2).toInt64) (0 : Int64) (3 : Int64)) = 0 then (some (-2 : Int32)) else (Option.bind (F_Mo_betweenOf N a0 a1 a2 gm) fun (v8 : Int32) => (some v8)))))))
set_option maxHeartbeats 4000000 in
set_option maxRecDepth 100000 in
theorem r_Mo_between {X : Nat × (Nat → Int32)} (N : Nat) (gm : Nat → Nat → Int32) (a0 : Int32) (a1 : Int32) (a2 : Int32) : ∀ x, (F_Mo_between N a0 a1 a2 gm) = some x → sv_R X 5 M_Mo_between [.ref 0, .int a0, .int a1, .int a2] (W_Mo gm) (some (.int x)) (W_Mo gm) := by
  refine sv_Q.R (res := (fun (x : Int32) => (some (.int x), (W_Mo gm)))) g_Mo_between rfl ?_
  unfold F_Mo_between
  refine sv_Q.s (σ' := (2, [some (.ref 0), some (.int a0), some (.int a1), some (.int a2)], [.int a0, .ref 0], (W_Mo gm))) 2 rfl ?_
  refine sv_Q.o (fun v1 e2 => ?_)
  refine sv_Q.V (b := 0) (av := [.int a0]) (ps := [0, 1, 2, 3, 4, 5, 6, 7, 8, 9, 10, 11, 12, 13, 14, 15, 16, 17, 18, 19, 20, 21, 22]) (rest := []) (cs1 := (W_Mo gm)) (cs2 := (W_Mo gm)) (st' := [.int v1]) (cs' := (W_Mo gm)) (q := (2, .null, 0, 0, 0)) lk_Mo_289 (r_Mo_isPlace N gm a0 v1 e2) rfl rfl rfl rfl rfl (Or.inl ⟨12, _, _, rfl, rfl, rfl⟩) rfl rfl (sc_Mo_Mo_0 gm) rfl rfl (pc_Mo_Mo_0 gm gm) ?_
  refine sv_Q.b rfl (fun c3 => ?_) (fun c3 => ?_)
  · refine sv_Q.s (σ' := (40, [some (.ref 0), some (.int a0), some (.int a1), some (.int a2)], [.int (-2 : Int32)], (W_Mo gm))) 1 rfl ?_
    exact sv_Q.z ⟨True, rfl, trivial, rfl⟩
  · refine sv_Q.s (σ' := (10, [some (.ref 0), some (.int a0), some (.int a1), some (.int a2)], [.int a1, .ref 0], (W_Mo gm))) 2 rfl ?_
    refine sv_Q.o (fun v4 e5 => ?_)
    refine sv_Q.V (b := 0) (av := [.int a1]) (ps := [0, 1, 2, 3, 4, 5, 6, 7, 8, 9, 10, 11, 12, 13, 14, 15, 16, 17, 18, 19, 20, 21, 22]) (rest := []) (cs1 := (W_Mo gm)) (cs2 := (W_Mo gm)) (st' := [.int v4]) (cs' := (W_Mo gm)) (q := (10, .null, 0, 0, 0)) lk_Mo_289 (r_Mo_isPlace N gm a1 v4 e5) rfl rfl rfl rfl rfl (Or.inl ⟨12, _, _, rfl, rfl, rfl⟩) rfl rfl (sc_Mo_Mo_0 gm) rfl rfl (pc_Mo_Mo_0 gm gm) ?_
    refine sv_Q.b rfl (fun c6 => ?_) (fun c6 => ?_)
    · refine sv_Q.s (σ' := (40, [some (.ref 0), some (.int a0), some (.int a1), some (.int a2)], [.int (-2 : Int32)], (W_Mo gm))) 1 rfl ?_
      exact sv_Q.z ⟨True, rfl, trivial, rfl⟩
    · refine sv_Q.s (σ' := (22, [some (.ref 0), some (.int a0), some (.int a1), some (.int a2)], [.long (3 : Int64), .long (0 : Int64), .long ((a2).toInt64)], (W_Mo gm))) 4 rfl ?_
      refine sv_Q.S (ps := []) (rest := []) (cs1 := []) (cs2 := []) (st' := [.int (F_Mo_in ((a2).toInt64) (0 : Int64) (3 : Int64))]) (cs' := (W_Mo gm)) (q := (22, .null, 0, 0, 0)) lk_Mo_97 (t_Mo_in ((a2).toInt64) (0 : Int64) (3 : Int64)) rfl rfl rfl rfl rfl rfl rfl rfl rfl rfl (sv_pt_nil _ _) ?_
      refine sv_Q.b rfl (fun c7 => ?_) (fun c7 => ?_)
      · refine sv_Q.s (σ' := (40, [some (.ref 0), some (.int a0), some (.int a1), some (.int a2)], [.int (-2 : Int32)], (W_Mo gm))) 1 rfl ?_
        exact sv_Q.z ⟨True, rfl, trivial, rfl⟩
      · refine sv_Q.s (σ' := (32, [some (.ref 0), some (.int a0), some (.int a1), some (.int a2)], [.int a2, .int a1, .int a0, .ref 0], (W_Mo gm))) 4 rfl ?_
        refine sv_Q.o (fun v8 e9 => ?_)
        refine sv_Q.V (b := 0) (av := [.int a0, .int a1, .int a2]) (ps := [0, 1, 2, 3, 4, 5, 6, 7, 8, 9, 10, 11, 12, 13, 14, 15, 16, 17, 18, 19, 20, 21, 22]) (rest := []) (cs1 := (W_Mo gm)) (cs2 := (W_Mo gm)) (st' := [.int v8]) (cs' := (W_Mo gm)) (q := (32, .null, 0, 0, 0)) lk_Mo_308 (r_Mo_betweenOf N gm a0 a1 a2 v8 e9) rfl rfl rfl rfl rfl (Or.inl ⟨12, _, _, rfl, rfl, rfl⟩) rfl rfl (sc_Mo_Mo_0 gm) rfl rfl (pc_Mo_Mo_0 gm gm) ?_
        refine sv_Q.s (σ' := (40, [some (.ref 0), some (.int a0), some (.int a1), some (.int a2)], [.int v8], (W_Mo gm))) 1 rfl ?_
        exact sv_Q.z ⟨True, rfl, trivial, rfl⟩
def F_Mo_areFar (N : Nat) (a0 : Int32) (a1 : Int32) (a2 : Int32) (a3 : Int32) (gm : Nat → Nat → Int32) : Option (Int32) := (Option.bind (F_Mo_betweenOf N a0 a1 (0 : Int32) gm) fun (v1 : Int32) => (if sv_in (((14 : Int32) + ((4 : Int32) * a2)) + (0 : Int32)) 90 then (if (gm 1 ((((14 : Int32) + ((4 : Int32) * a2)) + (0 : Int32))).toNatClampNeg) ≤ v1 then (some (1 : Int32)) else (Option.bind (F_Mo_betweenOf N a0 a1 (1 : Int32) gm) fun (v5 : Int32) => (if sv_in (((14 : Int32) + ((4 : Int32) * a2)) + (1 : Int32)) 90 then (if v5 < (gm 1 ((((14 : Int32) + ((4 : Int32) * a2)) + (1 : Int32))).toNatClampNeg) then (if sv_in (((14 : Int32) + ((4 : Int32) * a2)) + (2 : Int32)) 90 then (if (gm 1 ((((14 : Int32) + ((4 : Int32) * a2)) + (2 : Int32))).toNatClampNeg) = 0 then (if sv_in (((14 : Int32) + ((4 : Int32) * a2)) + (3 : Int32)) 90 then (if ¬ (gm 1 ((((14 : Int32) + ((4 : Int32) * a2)) + (3 : Int32))).toNatClampNeg) = (1 : Int32) then (some (0 : Int32)) else (Option.bind (F_Mo_isOnDeck N a0 gm) fun (v13 : Int32) => (Option.bind (F_Mo_isOnDeck N a1 gm) fun (v15 : Int32) => (if v13 = v15 then (some (0 : Int32)) else (some (1 : Int32)))))) else none) else (Option.bind (F_Mo_shutBetween N a0 a1 a3 gm) fun (v18 : Int32) => (if sv_in (((14 : Int32) + ((4 : Int32) * a2)) + (2 : Int32)) 90 then (if v18 < (gm 1 ((((14 : Int32) + ((4 : Int32) * a2)) + (2 : Int32))).toNatClampNeg) then (if sv_in (((14 : Int32) + ((4 : Int32) * a2)) + (3 : Int32)) 90 then (if ¬ (gm 1 ((((14 : Int32) + ((4 : Int32) * a2)) + (3 : Int32))).toNatClampNeg) = (1 : Int32) then (some (0 : Int32)) else (Option.bind (F_Mo_isOnDeck N a0 gm) fun (v24 : Int32) => (Option.bind (F_Mo_isOnDeck N a1 gm) fun (v26 : Int32) => (if v24 = v26 then (some (0 : Int32)) else (some (1 : Int32)))))) else none) else (some (1 : Int32))) else none))) else none) else (some (1 : Int32))) else none))) else none))
set_option maxHeartbeats 4000000 in
set_option maxRecDepth 100000 in
theorem r_Mo_areFar {X : Nat × (Nat → Int32)} (N : Nat) (gm : Nat → Nat → Int32) (a0 : Int32) (a1 : Int32) (a2 : Int32) (a3 : Int32) : ∀ x, (F_Mo_areFar N a0 a1 a2 a3 gm) = some x → sv_R X 5 M_Mo_areFar [.ref 0, .int a0, .int a1, .int a2, .int a3] (W_Mo gm) (some (.int x)) (W_Mo gm) := by
  refine sv_Q.R (res := (fun (x : Int32) => (some (.int x), (W_Mo gm)))) g_Mo_areFar rfl ?_
  unfold F_Mo_areFar
  refine sv_Q.s (σ' := (12, [some (.ref 0), some (.int a0), some (.int a1), some (.int a2), some (.int a3), some (.int ((14 : Int32) + ((4 : Int32) * a2)))], [.int (0 : Int32), .int a1, .int a0, .ref 0], (W_Mo gm))) 10 rfl ?_
  refine sv_Q.o (fun v1 e2 => ?_)
  refine sv_Q.V (b := 0) (av := [.int a0, .int a1, .int (0 : Int32)]) (ps := [0, 1, 2, 3, 4, 5, 6, 7, 8, 9, 10, 11, 12, 13, 14, 15, 16, 17, 18, 19, 20, 21, 22]) (rest := []) (cs1 := (W_Mo gm)) (cs2 := (W_Mo gm)) (st' := [.int v1]) (cs' := (W_Mo gm)) (q := (12, .null, 0, 0, 0)) lk_Mo_308 (r_Mo_betweenOf N gm a0 a1 (0 : Int32) v1 e2) rfl rfl rfl rfl rfl (Or.inl ⟨12, _, _, rfl, rfl, rfl⟩) rfl rfl (sc_Mo_Mo_0 gm) rfl rfl (pc_Mo_Mo_0 gm gm) ?_
  refine sv_Q.s (σ' := (23, [some (.ref 0), some (.int a0), some (.int a1), some (.int a2), some (.int a3), some (.int ((14 : Int32) + ((4 : Int32) * a2)))], [.int (((14 : Int32) + ((4 : Int32) * a2)) + (0 : Int32)), .ref 1, .int v1], (W_Mo gm))) 5 rfl ?_
  refine sv_Q.g (σ' := (24, [some (.ref 0), some (.int a0), some (.int a1), some (.int a2), some (.int a3), some (.int ((14 : Int32) + ((4 : Int32) * a2)))], [.int (gm 1 ((((14 : Int32) + ((4 : Int32) * a2)) + (0 : Int32))).toNatClampNeg), .int v1], (W_Mo gm))) (c := sv_in (((14 : Int32) + ((4 : Int32) * a2)) + (0 : Int32)) 90) rfl (fun c3 => ?_)
  refine sv_Q.b rfl (fun c4 => ?_) (fun c4 => ?_)
  · refine sv_Q.s (σ' := (47, [some (.ref 0), some (.int a0), some (.int a1), some (.int a2), some (.int a3), some (.int ((14 : Int32) + ((4 : Int32) * a2)))], [.int (1 : Int32)], (W_Mo gm))) 1 rfl ?_
    exact sv_Q.z ⟨sv_01 (1 : Int32), rfl, Or.inr rfl, rfl⟩
  · refine sv_Q.s (σ' := (31, [some (.ref 0), some (.int a0), some (.int a1), some (.int a2), some (.int a3), some (.int ((14 : Int32) + ((4 : Int32) * a2)))], [.int (1 : Int32), .int a1, .int a0, .ref 0], (W_Mo gm))) 4 rfl ?_
    refine sv_Q.o (fun v5 e6 => ?_)
    refine sv_Q.V (b := 0) (av := [.int a0, .int a1, .int (1 : Int32)]) (ps := [0, 1, 2, 3, 4, 5, 6, 7, 8, 9, 10, 11, 12, 13, 14, 15, 16, 17, 18, 19, 20, 21, 22]) (rest := []) (cs1 := (W_Mo gm)) (cs2 := (W_Mo gm)) (st' := [.int v5]) (cs' := (W_Mo gm)) (q := (31, .null, 0, 0, 0)) lk_Mo_308 (r_Mo_betweenOf N gm a0 a1 (1 : Int32) v5 e6) rfl rfl rfl rfl rfl (Or.inl ⟨12, _, _, rfl, rfl, rfl⟩) rfl rfl (sc_Mo_Mo_0 gm) rfl rfl (pc_Mo_Mo_0 gm gm) ?_
    refine sv_Q.s (σ' := (42, [some (.ref 0), some (.int a0), some (.int a1), some (.int a2), some (.int a3), some (.int ((14 : Int32) + ((4 : Int32) * a2)))], [.int (((14 : Int32) + ((4 : Int32) * a2)) + (1 : Int32)), .ref 1, .int v5], (W_Mo gm))) 5 rfl ?_
    refine sv_Q.g (σ' := (43, [some (.ref 0), some (.int a0), some (.int a1), some (.int a2), some (.int a3), some (.int ((14 : Int32) + ((4 : Int32) * a2)))], [.int (gm 1 ((((14 : Int32) + ((4 : Int32) * a2)) + (1 : Int32))).toNatClampNeg), .int v5], (W_Mo gm))) (c := sv_in (((14 : Int32) + ((4 : Int32) * a2)) + (1 : Int32)) 90) rfl (fun c7 => ?_)
    refine sv_Q.b rfl (fun c8 => ?_) (fun c8 => ?_)
    · refine sv_Q.s (σ' := (56, [some (.ref 0), some (.int a0), some (.int a1), some (.int a2), some (.int a3), some (.int ((14 : Int32) + ((4 : Int32) * a2)))], [.int (((14 : Int32) + ((4 : Int32) * a2)) + (2 : Int32)), .ref 1], (W_Mo gm))) 5 rfl ?_
      refine sv_Q.g (σ' := (57, [some (.ref 0), some (.int a0), some (.int a1), some (.int a2), some (.int a3), some (.int ((14 : Int32) + ((4 : Int32) * a2)))], [.int (gm 1 ((((14 : Int32) + ((4 : Int32) * a2)) + (2 : Int32))).toNatClampNeg)], (W_Mo gm))) (c := sv_in (((14 : Int32) + ((4 : Int32) * a2)) + (2 : Int32)) 90) rfl (fun c9 => ?_)
      refine sv_Q.b rfl (fun c10 => ?_) (fun c10 => ?_)
      · refine sv_Q.s (σ' := (90, [some (.ref 0), some (.int a0), some (.int a1), some (.int a2), some (.int a3), some (.int ((14 : Int32) + ((4 : Int32) * a2)))], [.int (((14 : Int32) + ((4 : Int32) * a2)) + (3 : Int32)), .ref 1], (W_Mo gm))) 5 rfl ?_
        refine sv_Q.g (σ' := (91, [some (.ref 0), some (.int a0), some (.int a1), some (.int a2), some (.int a3), some (.int ((14 : Int32) + ((4 : Int32) * a2)))], [.int (gm 1 ((((14 : Int32) + ((4 : Int32) * a2)) + (3 : Int32))).toNatClampNeg)], (W_Mo gm))) (c := sv_in (((14 : Int32) + ((4 : Int32) * a2)) + (3 : Int32)) 90) rfl (fun c11 => ?_)
        refine sv_Q.s (σ' := (92, [some (.ref 0), some (.int a0), some (.int a1), some (.int a2), some (.int a3), some (.int ((14 : Int32) + ((4 : Int32) * a2)))], [.int (1 : Int32), .int (gm 1 ((((14 : Int32) + ((4 : Int32) * a2)) + (3 : Int32))).toNatClampNeg)], (W_Mo gm))) 1 rfl ?_
        refine sv_Q.b rfl (fun c12 => ?_) (fun c12 => ?_)
        · refine sv_Q.s (σ' := (113, [some (.ref 0), some (.int a0), some (.int a1), some (.int a2), some (.int a3), some (.int ((14 : Int32) + ((4 : Int32) * a2)))], [.int (0 : Int32)], (W_Mo gm))) 1 rfl ?_
          exact sv_Q.z ⟨sv_01 (0 : Int32), rfl, Or.inl rfl, rfl⟩
        · refine sv_Q.s (σ' := (97, [some (.ref 0), some (.int a0), some (.int a1), some (.int a2), some (.int a3), some (.int ((14 : Int32) + ((4 : Int32) * a2)))], [.int a0, .ref 0], (W_Mo gm))) 2 rfl ?_
          refine sv_Q.o (fun v13 e14 => ?_)
          refine sv_Q.V (b := 0) (av := [.int a0]) (ps := [0, 1, 2, 3, 4, 5, 6, 7, 8, 9, 10, 11, 12, 13, 14, 15, 16, 17, 18, 19, 20, 21, 22]) (rest := []) (cs1 := (W_Mo gm)) (cs2 := (W_Mo gm)) (st' := [.int v13]) (cs' := (W_Mo gm)) (q := (97, .null, 0, 0, 0)) lk_Mo_260 (r_Mo_isOnDeck N gm a0 v13 e14) rfl rfl rfl rfl rfl (Or.inl ⟨12, _, _, rfl, rfl, rfl⟩) rfl rfl (sc_Mo_Mo_0 gm) rfl rfl (pc_Mo_Mo_0 gm gm) ?_
          refine sv_Q.s (σ' := (102, [some (.ref 0), some (.int a0), some (.int a1), some (.int a2), some (.int a3), some (.int ((14 : Int32) + ((4 : Int32) * a2)))], [.int a1, .ref 0, .int v13], (W_Mo gm))) 2 rfl ?_
          refine sv_Q.o (fun v15 e16 => ?_)
          refine sv_Q.V (b := 0) (av := [.int a1]) (ps := [0, 1, 2, 3, 4, 5, 6, 7, 8, 9, 10, 11, 12, 13, 14, 15, 16, 17, 18, 19, 20, 21, 22]) (rest := [.int v13]) (cs1 := (W_Mo gm)) (cs2 := (W_Mo gm)) (st' := [.int v15, .int v13]) (cs' := (W_Mo gm)) (q := (102, .null, 0, 0, 0)) lk_Mo_260 (r_Mo_isOnDeck N gm a1 v15 e16) rfl rfl rfl rfl rfl (Or.inl ⟨12, _, _, rfl, rfl, rfl⟩) rfl rfl (sc_Mo_Mo_0 gm) rfl rfl (pc_Mo_Mo_0 gm gm) ?_
          refine sv_Q.b rfl (fun c17 => ?_) (fun c17 => ?_)
          · refine sv_Q.s (σ' := (113, [some (.ref 0), some (.int a0), some (.int a1), some (.int a2), some (.int a3), some (.int ((14 : Int32) + ((4 : Int32) * a2)))], [.int (0 : Int32)], (W_Mo gm))) 1 rfl ?_
            exact sv_Q.z ⟨sv_01 (0 : Int32), rfl, Or.inl rfl, rfl⟩
          · refine sv_Q.s (σ' := (113, [some (.ref 0), some (.int a0), some (.int a1), some (.int a2), some (.int a3), some (.int ((14 : Int32) + ((4 : Int32) * a2)))], [.int (1 : Int32)], (W_Mo gm))) 2 rfl ?_
            exact sv_Q.z ⟨sv_01 (1 : Int32), rfl, Or.inr rfl, rfl⟩
      · refine sv_Q.s (σ' := (65, [some (.ref 0), some (.int a0), some (.int a1), some (.int a2), some (.int a3), some (.int ((14 : Int32) + ((4 : Int32) * a2)))], [.int a3, .int a1, .int a0, .ref 0], (W_Mo gm))) 4 rfl ?_
        refine sv_Q.o (fun v18 e19 => ?_)
        refine sv_Q.V (b := 0) (av := [.int a0, .int a1, .int a3]) (ps := [0, 1, 2, 3, 4, 5, 6, 7, 8, 9, 10, 11, 12, 13, 14, 15, 16, 17, 18, 19, 20, 21, 22]) (rest := []) (cs1 := (W_Mo gm)) (cs2 := (W_Mo gm)) (st' := [.int v18]) (cs' := (W_Mo gm)) (q := (65, .null, 0, 0, 0)) lk_Mo_304 (r_Mo_shutBetween N gm a0 a1 a3 v18 e19) rfl rfl rfl rfl rfl (Or.inl ⟨12, _, _, rfl, rfl, rfl⟩) rfl rfl (sc_Mo_Mo_0 gm) rfl rfl (pc_Mo_Mo_0 gm gm) ?_
        refine sv_Q.s (σ' := (76, [some (.ref 0), some (.int a0), some (.int a1), some (.int a2), some (.int a3), some (.int ((14 : Int32) + ((4 : Int32) * a2)))], [.int (((14 : Int32) + ((4 : Int32) * a2)) + (2 : Int32)), .ref 1, .int v18], (W_Mo gm))) 5 rfl ?_
        refine sv_Q.g (σ' := (77, [some (.ref 0), some (.int a0), some (.int a1), some (.int a2), some (.int a3), some (.int ((14 : Int32) + ((4 : Int32) * a2)))], [.int (gm 1 ((((14 : Int32) + ((4 : Int32) * a2)) + (2 : Int32))).toNatClampNeg), .int v18], (W_Mo gm))) (c := sv_in (((14 : Int32) + ((4 : Int32) * a2)) + (2 : Int32)) 90) rfl (fun c20 => ?_)
        refine sv_Q.b rfl (fun c21 => ?_) (fun c21 => ?_)
        · refine sv_Q.s (σ' := (90, [some (.ref 0), some (.int a0), some (.int a1), some (.int a2), some (.int a3), some (.int ((14 : Int32) + ((4 : Int32) * a2)))], [.int (((14 : Int32) + ((4 : Int32) * a2)) + (3 : Int32)), .ref 1], (W_Mo gm))) 5 rfl ?_
          refine sv_Q.g (σ' := (91, [some (.ref 0), some (.int a0), some (.int a1), some (.int a2), some (.int a3), some (.int ((14 : Int32) + ((4 : Int32) * a2)))], [.int (gm 1 ((((14 : Int32) + ((4 : Int32) * a2)) + (3 : Int32))).toNatClampNeg)], (W_Mo gm))) (c := sv_in (((14 : Int32) + ((4 : Int32) * a2)) + (3 : Int32)) 90) rfl (fun c22 => ?_)
          refine sv_Q.s (σ' := (92, [some (.ref 0), some (.int a0), some (.int a1), some (.int a2), some (.int a3), some (.int ((14 : Int32) + ((4 : Int32) * a2)))], [.int (1 : Int32), .int (gm 1 ((((14 : Int32) + ((4 : Int32) * a2)) + (3 : Int32))).toNatClampNeg)], (W_Mo gm))) 1 rfl ?_
          refine sv_Q.b rfl (fun c23 => ?_) (fun c23 => ?_)
          · refine sv_Q.s (σ' := (113, [some (.ref 0), some (.int a0), some (.int a1), some (.int a2), some (.int a3), some (.int ((14 : Int32) + ((4 : Int32) * a2)))], [.int (0 : Int32)], (W_Mo gm))) 1 rfl ?_
            exact sv_Q.z ⟨sv_01 (0 : Int32), rfl, Or.inl rfl, rfl⟩
          · refine sv_Q.s (σ' := (97, [some (.ref 0), some (.int a0), some (.int a1), some (.int a2), some (.int a3), some (.int ((14 : Int32) + ((4 : Int32) * a2)))], [.int a0, .ref 0], (W_Mo gm))) 2 rfl ?_
            refine sv_Q.o (fun v24 e25 => ?_)
            refine sv_Q.V (b := 0) (av := [.int a0]) (ps := [0, 1, 2, 3, 4, 5, 6, 7, 8, 9, 10, 11, 12, 13, 14, 15, 16, 17, 18, 19, 20, 21, 22]) (rest := []) (cs1 := (W_Mo gm)) (cs2 := (W_Mo gm)) (st' := [.int v24]) (cs' := (W_Mo gm)) (q := (97, .null, 0, 0, 0)) lk_Mo_260 (r_Mo_isOnDeck N gm a0 v24 e25) rfl rfl rfl rfl rfl (Or.inl ⟨12, _, _, rfl, rfl, rfl⟩) rfl rfl (sc_Mo_Mo_0 gm) rfl rfl (pc_Mo_Mo_0 gm gm) ?_
            refine sv_Q.s (σ' := (102, [some (.ref 0), some (.int a0), some (.int a1), some (.int a2), some (.int a3), some (.int ((14 : Int32) + ((4 : Int32) * a2)))], [.int a1, .ref 0, .int v24], (W_Mo gm))) 2 rfl ?_
            refine sv_Q.o (fun v26 e27 => ?_)
            refine sv_Q.V (b := 0) (av := [.int a1]) (ps := [0, 1, 2, 3, 4, 5, 6, 7, 8, 9, 10, 11, 12, 13, 14, 15, 16, 17, 18, 19, 20, 21, 22]) (rest := [.int v24]) (cs1 := (W_Mo gm)) (cs2 := (W_Mo gm)) (st' := [.int v26, .int v24]) (cs' := (W_Mo gm)) (q := (102, .null, 0, 0, 0)) lk_Mo_260 (r_Mo_isOnDeck N gm a1 v26 e27) rfl rfl rfl rfl rfl (Or.inl ⟨12, _, _, rfl, rfl, rfl⟩) rfl rfl (sc_Mo_Mo_0 gm) rfl rfl (pc_Mo_Mo_0 gm gm) ?_
            refine sv_Q.b rfl (fun c28 => ?_) (fun c28 => ?_)
            · refine sv_Q.s (σ' := (113, [some (.ref 0), some (.int a0), some (.int a1), some (.int a2), some (.int a3), some (.int ((14 : Int32) + ((4 : Int32) * a2)))], [.int (0 : Int32)], (W_Mo gm))) 1 rfl ?_
              exact sv_Q.z ⟨sv_01 (0 : Int32), rfl, Or.inl rfl, rfl⟩
            · refine sv_Q.s (σ' := (113, [some (.ref 0), some (.int a0), some (.int a1), some (.int a2), some (.int a3), some (.int ((14 : Int32) + ((4 : Int32) * a2)))], [.int (1 : Int32)], (W_Mo gm))) 2 rfl ?_
              exact sv_Q.z ⟨sv_01 (1 : Int32), rfl, Or.inr rfl, rfl⟩
        · refine sv_Q.s (σ' := (81, [some (.ref 0), some (.int a0), some (.int a1), some (.int a2), some (.int a3), some (.int ((14 : Int32) + ((4 : Int32) * a2)))], [.int (1 : Int32)], (W_Mo gm))) 1 rfl ?_
          exact sv_Q.z ⟨sv_01 (1 : Int32), rfl, Or.inr rfl, rfl⟩
    · refine sv_Q.s (σ' := (47, [some (.ref 0), some (.int a0), some (.int a1), some (.int a2), some (.int a3), some (.int ((14 : Int32) + ((4 : Int32) * a2)))], [.int (1 : Int32)], (W_Mo gm))) 1 rfl ?_
      exact sv_Q.z ⟨sv_01 (1 : Int32), rfl, Or.inr rfl, rfl⟩
def F_Mo_far (N : Nat) (a0 : Int32) (a1 : Int32) (a2 : Int32) (gm : Nat → Nat → Int32) : Option (Int32) := (Option.bind (F_Mo_isPlace N a0 gm) fun (v1 : Int32) => (if v1 = 0 then (some (-2 : Int32)) else (Option.bind (F_Mo_isPlace N a1 gm) fun (v4 : Int32) => (if v4 = 0 then (some (-2 : Int32)) else (Option.bind (F_Mo_isLevel N a2 gm) fun (v7 : Int32) => (if v7 = 0 then (some (-2 : Int32)) else (Option.bind (F_Mo_areFar N a0 a1 a2 (gm 0 11) gm) fun (v10 : Int32) => (if v10 = 0 then (some (0 : Int32)) else (some (1 : Int32))))))))))
set_option maxHeartbeats 4000000 in
set_option maxRecDepth 100000 in
theorem r_Mo_far {X : Nat × (Nat → Int32)} (N : Nat) (gm : Nat → Nat → Int32) (a0 : Int32) (a1 : Int32) (a2 : Int32) : ∀ x, (F_Mo_far N a0 a1 a2 gm) = some x → sv_R X 6 M_Mo_far [.ref 0, .int a0, .int a1, .int a2] (W_Mo gm) (some (.int x)) (W_Mo gm) := by
  refine sv_Q.R (res := (fun (x : Int32) => (some (.int x), (W_Mo gm)))) g_Mo_far rfl ?_
  unfold F_Mo_far
  refine sv_Q.s (σ' := (2, [some (.ref 0), some (.int a0), some (.int a1), some (.int a2)], [.int a0, .ref 0], (W_Mo gm))) 2 rfl ?_
  refine sv_Q.o (fun v1 e2 => ?_)
  refine sv_Q.V (b := 0) (av := [.int a0]) (ps := [0, 1, 2, 3, 4, 5, 6, 7, 8, 9, 10, 11, 12, 13, 14, 15, 16, 17, 18, 19, 20, 21, 22]) (rest := []) (cs1 := (W_Mo gm)) (cs2 := (W_Mo gm)) (st' := [.int v1]) (cs' := (W_Mo gm)) (q := (2, .null, 0, 0, 0)) lk_Mo_289 (r_Mo_isPlace N gm a0 v1 e2) rfl rfl rfl rfl rfl (Or.inl ⟨12, _, _, rfl, rfl, rfl⟩) rfl rfl (sc_Mo_Mo_0 gm) rfl rfl (pc_Mo_Mo_0 gm gm) ?_
  refine sv_Q.b rfl (fun c3 => ?_) (fun c3 => ?_)
  · refine sv_Q.s (σ' := (48, [some (.ref 0), some (.int a0), some (.int a1), some (.int a2)], [.int (-2 : Int32)], (W_Mo gm))) 1 rfl ?_
    exact sv_Q.z ⟨True, rfl, trivial, rfl⟩
  · refine sv_Q.s (σ' := (10, [some (.ref 0), some (.int a0), some (.int a1), some (.int a2)], [.int a1, .ref 0], (W_Mo gm))) 2 rfl ?_
    refine sv_Q.o (fun v4 e5 => ?_)
    refine sv_Q.V (b := 0) (av := [.int a1]) (ps := [0, 1, 2, 3, 4, 5, 6, 7, 8, 9, 10, 11, 12, 13, 14, 15, 16, 17, 18, 19, 20, 21, 22]) (rest := []) (cs1 := (W_Mo gm)) (cs2 := (W_Mo gm)) (st' := [.int v4]) (cs' := (W_Mo gm)) (q := (10, .null, 0, 0, 0)) lk_Mo_289 (r_Mo_isPlace N gm a1 v4 e5) rfl rfl rfl rfl rfl (Or.inl ⟨12, _, _, rfl, rfl, rfl⟩) rfl rfl (sc_Mo_Mo_0 gm) rfl rfl (pc_Mo_Mo_0 gm gm) ?_
    refine sv_Q.b rfl (fun c6 => ?_) (fun c6 => ?_)
    · refine sv_Q.s (σ' := (48, [some (.ref 0), some (.int a0), some (.int a1), some (.int a2)], [.int (-2 : Int32)], (W_Mo gm))) 1 rfl ?_
      exact sv_Q.z ⟨True, rfl, trivial, rfl⟩
    · refine sv_Q.s (σ' := (18, [some (.ref 0), some (.int a0), some (.int a1), some (.int a2)], [.int a2, .ref 0], (W_Mo gm))) 2 rfl ?_
      refine sv_Q.o (fun v7 e8 => ?_)
      refine sv_Q.V (b := 0) (av := [.int a2]) (ps := [0, 1, 2, 3, 4, 5, 6, 7, 8, 9, 10, 11, 12, 13, 14, 15, 16, 17, 18, 19, 20, 21, 22]) (rest := []) (cs1 := (W_Mo gm)) (cs2 := (W_Mo gm)) (st' := [.int v7]) (cs' := (W_Mo gm)) (q := (18, .null, 0, 0, 0)) lk_Mo_275 (r_Mo_isLevel N gm a2 v7 e8) rfl rfl rfl rfl rfl (Or.inl ⟨12, _, _, rfl, rfl, rfl⟩) rfl rfl (sc_Mo_Mo_0 gm) rfl rfl (pc_Mo_Mo_0 gm gm) ?_
      refine sv_Q.b rfl (fun c9 => ?_) (fun c9 => ?_)
      · refine sv_Q.s (σ' := (48, [some (.ref 0), some (.int a0), some (.int a1), some (.int a2)], [.int (-2 : Int32)], (W_Mo gm))) 1 rfl ?_
        exact sv_Q.z ⟨True, rfl, trivial, rfl⟩
      · refine sv_Q.s (σ' := (32, [some (.ref 0), some (.int a0), some (.int a1), some (.int a2)], [.int (gm 0 11), .int a2, .int a1, .int a0, .ref 0], (W_Mo gm))) 6 rfl ?_
        refine sv_Q.o (fun v10 e11 => ?_)
        refine sv_Q.V (b := 0) (av := [.int a0, .int a1, .int a2, .int (gm 0 11)]) (ps := [0, 1, 2, 3, 4, 5, 6, 7, 8, 9, 10, 11, 12, 13, 14, 15, 16, 17, 18, 19, 20, 21, 22]) (rest := []) (cs1 := (W_Mo gm)) (cs2 := (W_Mo gm)) (st' := [.int v10]) (cs' := (W_Mo gm)) (q := (32, .null, 0, 0, 0)) lk_Mo_311 (r_Mo_areFar N gm a0 a1 a2 (gm 0 11) v10 e11) rfl rfl rfl rfl rfl (Or.inl ⟨12, _, _, rfl, rfl, rfl⟩) rfl rfl (sc_Mo_Mo_0 gm) rfl rfl (pc_Mo_Mo_0 gm gm) ?_
        refine sv_Q.b rfl (fun c12 => ?_) (fun c12 => ?_)
        · refine sv_Q.s (σ' := (48, [some (.ref 0), some (.int a0), some (.int a1), some (.int a2)], [.int (0 : Int32)], (W_Mo gm))) 2 rfl ?_
          exact sv_Q.z ⟨True, rfl, trivial, rfl⟩
        · refine sv_Q.s (σ' := (48, [some (.ref 0), some (.int a0), some (.int a1), some (.int a2)], [.int (1 : Int32)], (W_Mo gm))) 2 rfl ?_
          exact sv_Q.z ⟨True, rfl, trivial, rfl⟩
def F_Mo_isNearTo (N : Nat) (a0 : Int32) (a1 : Int32) (a2 : Int32) (a3 : Int32) (gm : Nat → Nat → Int32) : Option (Int32) := (if sv_in a2 24 then (Option.bind (F_Mo_apartOf N a0 (gm 4 (a2).toNatClampNeg) gm) fun (v2 : Int32) => (if v2 = 0 then (some (0 : Int32)) else (if sv_in a2 24 then (if (gm 7 (a2).toNatClampNeg) = (-1 : Int32) then (some (0 : Int32)) else (if sv_in a2 24 then (Option.bind (F_Mo_areFar N a1 (gm 7 (a2).toNatClampNeg) v2 a3 gm) fun (v8 : Int32) => (if ¬ v8 = 0 then (some (0 : Int32)) else (some (1 : Int32)))) else none)) else none))) else none)
set_option maxHeartbeats 4000000 in
set_option maxRecDepth 100000 in
theorem r_Mo_isNearTo {X : Nat × (Nat → Int32)} (N : Nat) (gm : Nat → Nat → Int32) (a0 : Int32) (a1 : Int32) (a2 : Int32) (a3 : Int32) : ∀ x, (F_Mo_isNearTo N a0 a1 a2 a3 gm) = some x → sv_R X 6 M_Mo_isNearTo [.ref 0, .int a0, .int a1, .int a2, .int a3] (W_Mo gm) (some (.int x)) (W_Mo gm) := by
  refine sv_Q.R (res := (fun (x : Int32) => (some (.int x), (W_Mo gm)))) g_Mo_isNearTo rfl ?_
  unfold F_Mo_isNearTo
  refine sv_Q.s (σ' := (7, [some (.ref 0), some (.int a0), some (.int a1), some (.int a2), some (.int a3), none], [.int a2, .ref 4, .int a0, .ref 0], (W_Mo gm))) 5 rfl ?_
  refine sv_Q.g (σ' := (8, [some (.ref 0), some (.int a0), some (.int a1), some (.int a2), some (.int a3), none], [.int (gm 4 (a2).toNatClampNeg), .int a0, .ref 0], (W_Mo gm))) (c := sv_in a2 24) rfl (fun c1 => ?_)
  refine sv_Q.o (fun v2 e3 => ?_)
  refine sv_Q.V (b := 0) (av := [.int a0, .int (gm 4 (a2).toNatClampNeg)]) (ps := [0, 1, 2, 3, 4, 5, 6, 7, 8, 9, 10, 11, 12, 13, 14, 15, 16, 17, 18, 19, 20, 21, 22]) (rest := []) (cs1 := (W_Mo gm)) (cs2 := (W_Mo gm)) (st' := [.int v2]) (cs' := (W_Mo gm)) (q := (8, .null, 0, 0, 0)) lk_Mo_283 (r_Mo_apartOf N gm a0 (gm 4 (a2).toNatClampNeg) v2 e3) rfl rfl rfl rfl rfl (Or.inl ⟨12, _, _, rfl, rfl, rfl⟩) rfl rfl (sc_Mo_Mo_0 gm) rfl rfl (pc_Mo_Mo_0 gm gm) ?_
  refine sv_Q.s (σ' := (15, [some (.ref 0), some (.int a0), some (.int a1), some (.int a2), some (.int a3), some (.int v2)], [.int v2], (W_Mo gm))) 2 rfl ?_
  refine sv_Q.b rfl (fun c4 => ?_) (fun c4 => ?_)
  · refine sv_Q.s (σ' := (51, [some (.ref 0), some (.int a0), some (.int a1), some (.int a2), some (.int a3), some (.int v2)], [.int (0 : Int32)], (W_Mo gm))) 1 rfl ?_
    exact sv_Q.z ⟨sv_01 (0 : Int32), rfl, Or.inl rfl, rfl⟩
  · refine sv_Q.s (σ' := (23, [some (.ref 0), some (.int a0), some (.int a1), some (.int a2), some (.int a3), some (.int v2)], [.int a2, .ref 7], (W_Mo gm))) 3 rfl ?_
    refine sv_Q.g (σ' := (24, [some (.ref 0), some (.int a0), some (.int a1), some (.int a2), some (.int a3), some (.int v2)], [.int (gm 7 (a2).toNatClampNeg)], (W_Mo gm))) (c := sv_in a2 24) rfl (fun c5 => ?_)
    refine sv_Q.s (σ' := (25, [some (.ref 0), some (.int a0), some (.int a1), some (.int a2), some (.int a3), some (.int v2)], [.int (-1 : Int32), .int (gm 7 (a2).toNatClampNeg)], (W_Mo gm))) 1 rfl ?_
    refine sv_Q.b rfl (fun c6 => ?_) (fun c6 => ?_)
    · refine sv_Q.s (σ' := (51, [some (.ref 0), some (.int a0), some (.int a1), some (.int a2), some (.int a3), some (.int v2)], [.int (0 : Int32)], (W_Mo gm))) 1 rfl ?_
      exact sv_Q.z ⟨sv_01 (0 : Int32), rfl, Or.inl rfl, rfl⟩
    · refine sv_Q.s (σ' := (35, [some (.ref 0), some (.int a0), some (.int a1), some (.int a2), some (.int a3), some (.int v2)], [.int a2, .ref 7, .int a1, .ref 0], (W_Mo gm))) 5 rfl ?_
      refine sv_Q.g (σ' := (36, [some (.ref 0), some (.int a0), some (.int a1), some (.int a2), some (.int a3), some (.int v2)], [.int (gm 7 (a2).toNatClampNeg), .int a1, .ref 0], (W_Mo gm))) (c := sv_in a2 24) rfl (fun c7 => ?_)
      refine sv_Q.s (σ' := (40, [some (.ref 0), some (.int a0), some (.int a1), some (.int a2), some (.int a3), some (.int v2)], [.int a3, .int v2, .int (gm 7 (a2).toNatClampNeg), .int a1, .ref 0], (W_Mo gm))) 2 rfl ?_
      refine sv_Q.o (fun v8 e9 => ?_)
      refine sv_Q.V (b := 0) (av := [.int a1, .int (gm 7 (a2).toNatClampNeg), .int v2, .int a3]) (ps := [0, 1, 2, 3, 4, 5, 6, 7, 8, 9, 10, 11, 12, 13, 14, 15, 16, 17, 18, 19, 20, 21, 22]) (rest := []) (cs1 := (W_Mo gm)) (cs2 := (W_Mo gm)) (st' := [.int v8]) (cs' := (W_Mo gm)) (q := (40, .null, 0, 0, 0)) lk_Mo_311 (r_Mo_areFar N gm a1 (gm 7 (a2).toNatClampNeg) v2 a3 v8 e9) rfl rfl rfl rfl rfl (Or.inl ⟨12, _, _, rfl, rfl, rfl⟩) rfl rfl (sc_Mo_Mo_0 gm) rfl rfl (pc_Mo_Mo_0 gm gm) ?_
      refine sv_Q.b rfl (fun c10 => ?_) (fun c10 => ?_)
      · refine sv_Q.s (σ' := (51, [some (.ref 0), some (.int a0), some (.int a1), some (.int a2), some (.int a3), some (.int v2)], [.int (0 : Int32)], (W_Mo gm))) 1 rfl ?_
        exact sv_Q.z ⟨sv_01 (0 : Int32), rfl, Or.inl rfl, rfl⟩
      · refine sv_Q.s (σ' := (51, [some (.ref 0), some (.int a0), some (.int a1), some (.int a2), some (.int a3), some (.int v2)], [.int (1 : Int32)], (W_Mo gm))) 2 rfl ?_
        exact sv_Q.z ⟨sv_01 (1 : Int32), rfl, Or.inr rfl, rfl⟩
def L_Mo_firstNear_3 (N : Nat) : Nat → Int32 → Int32 → Int32 → Int32 → (Nat → Nat → Int32) → Option ((Unit) ⊕ (Int32))
  | 0, _, _, _, _, _ => none
  | n + 1, x1, x2, x3, x4, gm => (if (gm 0 6) ≤ x4 then (some (.inl ())) else (if x4 = x3 then (L_Mo_firstNear_3 N n x1 x2 x3 (x4 + (1 : Int32)) gm) else (Option.bind (F_Mo_isNearTo N x1 x2 x4 (gm 0 11) gm) fun (v3 : Int32) => (if v3 = 0 then (L_Mo_firstNear_3 N n x1 x2 x3 (x4 + (1 : Int32)) gm) else (some (.inr x4))))))
set_option maxHeartbeats 4000000 in
set_option maxRecDepth 100000 in
theorem l_Mo_firstNear_3 {X : Nat × (Nat → Int32)} (N : Nat) : ∀ (n : Nat) (x1 : Int32) (x2 : Int32) (x3 : Int32) (x4 : Int32) (gm : Nat → Nat → Int32), sv_Q X 6 M_Mo_firstNear (3, [some (.ref 0), some (.int x1), some (.int x2), some (.int x3), some (.int x4)], [], (W_Mo gm)) (L_Mo_firstNear_3 N n x1 x2 x3 x4 gm) (sv_K2 (fun (v : Unit) => (42, [none, none, none, none, none], [], (W_Mo gm))) (sv_KR M_Mo_firstNear (fun (x : Int32) => (some (.int x), (W_Mo gm))))) := by
  intro n
  induction n with
  | zero => intro x1 x2 x3 x4 gm; unfold L_Mo_firstNear_3; exact sv_Q.non
  | succ n ih =>
    intro x1 x2 x3 x4 gm
    unfold L_Mo_firstNear_3
    refine sv_Q.s (σ' := (9, [some (.ref 0), some (.int x1), some (.int x2), some (.int x3), some (.int x4)], [.int (gm 0 6), .int x4], (W_Mo gm))) 3 rfl ?_
    refine sv_Q.b rfl (fun c1 => ?_) (fun c1 => ?_)
    · refine sv_Q.f (lo' := [none, none, none, none, none]) trivial ?_
      exact sv_Q.z rfl
    · refine sv_Q.s (σ' := (15, [some (.ref 0), some (.int x1), some (.int x2), some (.int x3), some (.int x4)], [.int x3, .int x4], (W_Mo gm))) 2 rfl ?_
      refine sv_Q.b rfl (fun c2 => ?_) (fun c2 => ?_)
      · refine sv_Q.s (σ' := (3, [some (.ref 0), some (.int x1), some (.int x2), some (.int x3), some (.int (x4 + (1 : Int32)))], [], (W_Mo gm))) 2 rfl ?_
        exact ih x1 x2 x3 (x4 + (1 : Int32)) gm
      · refine sv_Q.s (σ' := (27, [some (.ref 0), some (.int x1), some (.int x2), some (.int x3), some (.int x4)], [.int (gm 0 11), .int x4, .int x2, .int x1, .ref 0], (W_Mo gm))) 6 rfl ?_
        refine sv_Q.o (fun v3 e4 => ?_)
        refine sv_Q.V (b := 0) (av := [.int x1, .int x2, .int x4, .int (gm 0 11)]) (ps := [0, 1, 2, 3, 4, 5, 6, 7, 8, 9, 10, 11, 12, 13, 14, 15, 16, 17, 18, 19, 20, 21, 22]) (rest := []) (cs1 := (W_Mo gm)) (cs2 := (W_Mo gm)) (st' := [.int v3]) (cs' := (W_Mo gm)) (q := (27, .null, 0, 0, 0)) lk_Mo_315 (r_Mo_isNearTo N gm x1 x2 x4 (gm 0 11) v3 e4) rfl rfl rfl rfl rfl (Or.inl ⟨12, _, _, rfl, rfl, rfl⟩) rfl rfl (sc_Mo_Mo_0 gm) rfl rfl (pc_Mo_Mo_0 gm gm) ?_
        refine sv_Q.b rfl (fun c5 => ?_) (fun c5 => ?_)
        · refine sv_Q.s (σ' := (3, [some (.ref 0), some (.int x1), some (.int x2), some (.int x3), some (.int (x4 + (1 : Int32)))], [], (W_Mo gm))) 2 rfl ?_
          exact ih x1 x2 x3 (x4 + (1 : Int32)) gm
        · refine sv_Q.s (σ' := (35, [some (.ref 0), some (.int x1), some (.int x2), some (.int x3), some (.int x4)], [.int x4], (W_Mo gm))) 1 rfl ?_
          exact sv_Q.z ⟨True, rfl, trivial, rfl⟩
def F_Mo_firstNear (N : Nat) (a0 : Int32) (a1 : Int32) (a2 : Int32) (gm : Nat → Nat → Int32) : Option (Int32) := (sv_bs (L_Mo_firstNear_3 N N a0 a1 a2 (0 : Int32) gm) id fun (v6 : Unit) => (some (-1 : Int32)))
set_option maxHeartbeats 4000000 in
set_option maxRecDepth 100000 in
theorem r_Mo_firstNear {X : Nat × (Nat → Int32)} (N : Nat) (gm : Nat → Nat → Int32) (a0 : Int32) (a1 : Int32) (a2 : Int32) : ∀ x, (F_Mo_firstNear N a0 a1 a2 gm) = some x → sv_R X 7 M_Mo_firstNear [.ref 0, .int a0, .int a1, .int a2] (W_Mo gm) (some (.int x)) (W_Mo gm) := by
  refine sv_Q.R (res := (fun (x : Int32) => (some (.int x), (W_Mo gm)))) g_Mo_firstNear rfl ?_
  unfold F_Mo_firstNear
  refine sv_Q.s (σ' := (3, [some (.ref 0), some (.int a0), some (.int a1), some (.int a2), some (.int (0 : Int32))], [], (W_Mo gm))) 2 rfl ?_
  refine sv_Q.bs (l_Mo_firstNear_3 N N a0 a1 a2 (0 : Int32) gm) (fun v6 => ?_) (fun r σ' h => h)
  · refine sv_Q.s (σ' := (43, [none, none, none, none, none], [.int (-1 : Int32)], (W_Mo gm))) 1 rfl ?_
    exact sv_Q.z ⟨True, rfl, trivial, rfl⟩
def L_Mo_weightAt_9 (N : Nat) : Nat → Int32 → Int32 → Int32 → Int32 → (Nat → Nat → Int32) → Option (Int32)
  | 0, _, _, _, _, _ => none
  | n + 1, x1, x2, x3, x4, gm => (Option.bind (F_Mo_lowestOf N x1 gm) fun (v3 : Int32) => (Option.bind (F_Mo_highOf N x1 gm) fun (v5 : Int32) => (if (v3 + v5) ≤ x4 then (some x3) else (if sv_in x4 144 then (if (gm 8 (x4).toNatClampNeg) = (-1 : Int32) then (L_Mo_weightAt_9 N n x1 x2 (x3 + (0 : Int32)) (x4 + (1 : Int32)) gm) else (if sv_in x4 144 then (if (gm 8 (x4).toNatClampNeg) = x2 then (L_Mo_weightAt_9 N n x1 x2 (x3 + (0 : Int32)) (x4 + (1 : Int32)) gm) else (if sv_in x4 144 then (if sv_in (gm 8 (x4).toNatClampNeg) 24 then (L_Mo_weightAt_9 N n x1 x2 (x3 + (gm 5 ((gm 8 (x4).toNatClampNeg)).toNatClampNeg)) (x4 + (1 : Int32)) gm) else none) else none)) else none)) else none))))
set_option maxHeartbeats 4000000 in
set_option maxRecDepth 100000 in
theorem l_Mo_weightAt_9 {X : Nat × (Nat → Int32)} (N : Nat) : ∀ (n : Nat) (x1 : Int32) (x2 : Int32) (x3 : Int32) (x4 : Int32) (gm : Nat → Nat → Int32), sv_Q X 4 M_Mo_weightAt (9, [some (.ref 0), some (.int x1), some (.int x2), some (.int x3), some (.int x4)], [], (W_Mo gm)) (L_Mo_weightAt_9 N n x1 x2 x3 x4 gm) (fun v σ' => σ' = (72, [none, none, none, some (.int v), none], [], (W_Mo gm))) := by
  intro n
  induction n with
  | zero => intro x1 x2 x3 x4 gm; unfold L_Mo_weightAt_9; exact sv_Q.non
  | succ n ih =>
    intro x1 x2 x3 x4 gm
    unfold L_Mo_weightAt_9
    refine sv_Q.s (σ' := (13, [some (.ref 0), some (.int x1), some (.int x2), some (.int x3), some (.int x4)], [.int x1, .ref 0, .int x4], (W_Mo gm))) 3 rfl ?_
    refine sv_Q.o (fun v3 e4 => ?_)
    refine sv_Q.V (b := 0) (av := [.int x1]) (ps := [0, 1, 2, 3, 4, 5, 6, 7, 8, 9, 10, 11, 12, 13, 14, 15, 16, 17, 18, 19, 20, 21, 22]) (rest := [.int x4]) (cs1 := (W_Mo gm)) (cs2 := (W_Mo gm)) (st' := [.int v3, .int x4]) (cs' := (W_Mo gm)) (q := (13, .null, 0, 0, 0)) lk_Mo_318 (r_Mo_lowestOf N gm x1 v3 e4) rfl rfl rfl rfl rfl (Or.inl ⟨12, _, _, rfl, rfl, rfl⟩) rfl rfl (sc_Mo_Mo_0 gm) rfl rfl (pc_Mo_Mo_0 gm gm) ?_
    refine sv_Q.s (σ' := (18, [some (.ref 0), some (.int x1), some (.int x2), some (.int x3), some (.int x4)], [.int x1, .ref 0, .int v3, .int x4], (W_Mo gm))) 2 rfl ?_
    refine sv_Q.o (fun v5 e6 => ?_)
    refine sv_Q.V (b := 0) (av := [.int x1]) (ps := [0, 1, 2, 3, 4, 5, 6, 7, 8, 9, 10, 11, 12, 13, 14, 15, 16, 17, 18, 19, 20, 21, 22]) (rest := [.int v3, .int x4]) (cs1 := (W_Mo gm)) (cs2 := (W_Mo gm)) (st' := [.int v5, .int v3, .int x4]) (cs' := (W_Mo gm)) (q := (18, .null, 0, 0, 0)) lk_Mo_321 (r_Mo_highOf N gm x1 v5 e6) rfl rfl rfl rfl rfl (Or.inl ⟨12, _, _, rfl, rfl, rfl⟩) rfl rfl (sc_Mo_Mo_0 gm) rfl rfl (pc_Mo_Mo_0 gm gm) ?_
    refine sv_Q.s (σ' := (22, [some (.ref 0), some (.int x1), some (.int x2), some (.int x3), some (.int x4)], [.int (v3 + v5), .int x4], (W_Mo gm))) 1 rfl ?_
    refine sv_Q.b rfl (fun c7 => ?_) (fun c7 => ?_)
    · refine sv_Q.f (lo' := [none, none, none, some (.int x3), none]) ⟨rfl, trivial⟩ ?_
      exact sv_Q.z rfl
    · refine sv_Q.s (σ' := (32, [some (.ref 0), some (.int x1), some (.int x2), some (.int x3), some (.int x4)], [.int x4, .ref 8, .int x3], (W_Mo gm))) 4 rfl ?_
      refine sv_Q.g (σ' := (33, [some (.ref 0), some (.int x1), some (.int x2), some (.int x3), some (.int x4)], [.int (gm 8 (x4).toNatClampNeg), .int x3], (W_Mo gm))) (c := sv_in x4 144) rfl (fun c8 => ?_)
      refine sv_Q.s (σ' := (34, [some (.ref 0), some (.int x1), some (.int x2), some (.int x3), some (.int x4)], [.int (-1 : Int32), .int (gm 8 (x4).toNatClampNeg), .int x3], (W_Mo gm))) 1 rfl ?_
      refine sv_Q.b rfl (fun c9 => ?_) (fun c9 => ?_)
      · refine sv_Q.s (σ' := (9, [some (.ref 0), some (.int x1), some (.int x2), some (.int (x3 + (0 : Int32))), some (.int (x4 + (1 : Int32)))], [], (W_Mo gm))) 5 rfl ?_
        exact ih x1 x2 (x3 + (0 : Int32)) (x4 + (1 : Int32)) gm
      · refine sv_Q.s (σ' := (43, [some (.ref 0), some (.int x1), some (.int x2), some (.int x3), some (.int x4)], [.int x4, .ref 8, .int x3], (W_Mo gm))) 3 rfl ?_
        refine sv_Q.g (σ' := (44, [some (.ref 0), some (.int x1), some (.int x2), some (.int x3), some (.int x4)], [.int (gm 8 (x4).toNatClampNeg), .int x3], (W_Mo gm))) (c := sv_in x4 144) rfl (fun c10 => ?_)
        refine sv_Q.s (σ' := (45, [some (.ref 0), some (.int x1), some (.int x2), some (.int x3), some (.int x4)], [.int x2, .int (gm 8 (x4).toNatClampNeg), .int x3], (W_Mo gm))) 1 rfl ?_
        refine sv_Q.b rfl (fun c11 => ?_) (fun c11 => ?_)
        · refine sv_Q.s (σ' := (9, [some (.ref 0), some (.int x1), some (.int x2), some (.int (x3 + (0 : Int32))), some (.int (x4 + (1 : Int32)))], [], (W_Mo gm))) 5 rfl ?_
          exact ih x1 x2 (x3 + (0 : Int32)) (x4 + (1 : Int32)) gm
        · refine sv_Q.s (σ' := (58, [some (.ref 0), some (.int x1), some (.int x2), some (.int x3), some (.int x4)], [.int x4, .ref 8, .ref 5, .int x3], (W_Mo gm))) 5 rfl ?_
          refine sv_Q.g (σ' := (59, [some (.ref 0), some (.int x1), some (.int x2), some (.int x3), some (.int x4)], [.int (gm 8 (x4).toNatClampNeg), .ref 5, .int x3], (W_Mo gm))) (c := sv_in x4 144) rfl (fun c12 => ?_)
          refine sv_Q.g (σ' := (60, [some (.ref 0), some (.int x1), some (.int x2), some (.int x3), some (.int x4)], [.int (gm 5 ((gm 8 (x4).toNatClampNeg)).toNatClampNeg), .int x3], (W_Mo gm))) (c := sv_in (gm 8 (x4).toNatClampNeg) 24) rfl (fun c13 => ?_)
          refine sv_Q.s (σ' := (9, [some (.ref 0), some (.int x1), some (.int x2), some (.int (x3 + (gm 5 ((gm 8 (x4).toNatClampNeg)).toNatClampNeg))), some (.int (x4 + (1 : Int32)))], [], (W_Mo gm))) 5 rfl ?_
          exact ih x1 x2 (x3 + (gm 5 ((gm 8 (x4).toNatClampNeg)).toNatClampNeg)) (x4 + (1 : Int32)) gm
def F_Mo_weightAt (N : Nat) (a0 : Int32) (a1 : Int32) (gm : Nat → Nat → Int32) : Option (Int32) := (Option.bind (F_Mo_lowestOf N a0 gm) fun (v1 : Int32) => (Option.bind (L_Mo_weightAt_9 N N a0 a1 (0 : Int32) v1 gm) fun (v14 : Int32) => (some v14)))
set_option maxHeartbeats 4000000 in
set_option maxRecDepth 100000 in
theorem r_Mo_weightAt {X : Nat × (Nat → Int32)} (N : Nat) (gm : Nat → Nat → Int32) (a0 : Int32) (a1 : Int32) : ∀ x, (F_Mo_weightAt N a0 a1 gm) = some x → sv_R X 5 M_Mo_weightAt [.ref 0, .int a0, .int a1] (W_Mo gm) (some (.int x)) (W_Mo gm) := by
  refine sv_Q.R (res := (fun (x : Int32) => (some (.int x), (W_Mo gm)))) g_Mo_weightAt rfl ?_
  unfold F_Mo_weightAt
  refine sv_Q.s (σ' := (4, [some (.ref 0), some (.int a0), some (.int a1), some (.int (0 : Int32)), none], [.int a0, .ref 0], (W_Mo gm))) 4 rfl ?_
  refine sv_Q.o (fun v1 e2 => ?_)
  refine sv_Q.V (b := 0) (av := [.int a0]) (ps := [0, 1, 2, 3, 4, 5, 6, 7, 8, 9, 10, 11, 12, 13, 14, 15, 16, 17, 18, 19, 20, 21, 22]) (rest := []) (cs1 := (W_Mo gm)) (cs2 := (W_Mo gm)) (st' := [.int v1]) (cs' := (W_Mo gm)) (q := (4, .null, 0, 0, 0)) lk_Mo_318 (r_Mo_lowestOf N gm a0 v1 e2) rfl rfl rfl rfl rfl (Or.inl ⟨12, _, _, rfl, rfl, rfl⟩) rfl rfl (sc_Mo_Mo_0 gm) rfl rfl (pc_Mo_Mo_0 gm gm) ?_
  refine sv_Q.s (σ' := (9, [some (.ref 0), some (.int a0), some (.int a1), some (.int (0 : Int32)), some (.int v1)], [], (W_Mo gm))) 1 rfl ?_
  refine sv_Q.lo (fun v14 => (72, [none, none, none, some (.int v14), none], [], (W_Mo gm))) (fun v14 => ?_) (l_Mo_weightAt_9 N N a0 a1 (0 : Int32) v1 gm)
  · refine sv_Q.s (σ' := (73, [none, none, none, some (.int v14), none], [.int v14], (W_Mo gm))) 1 rfl ?_
    exact sv_Q.z ⟨True, rfl, trivial, rfl⟩
def F_Mo_bearsAt (N : Nat) (a0 : Int32) (gm : Nat → Nat → Int32) : Option (Int32) := (Option.bind (F_Mo_isOnDeck N a0 gm) fun (v1 : Int32) => (sv_let (if v1 = 0 then (0 : Int32) else (1 : Int32)) fun (v4 : Int32) => (if sv_in ((4 : Int32) + v4) 90 then (some (gm 1 (((4 : Int32) + v4)).toNatClampNeg)) else none)))
set_option maxHeartbeats 4000000 in
set_option maxRecDepth 100000 in
theorem r_Mo_bearsAt {X : Nat × (Nat → Int32)} (N : Nat) (gm : Nat → Nat → Int32) (a0 : Int32) : ∀ x, (F_Mo_bearsAt N a0 gm) = some x → sv_R X 4 M_Mo_bearsAt [.ref 0, .int a0] (W_Mo gm) (some (.int x)) (W_Mo gm) := by
  refine sv_Q.R (res := (fun (x : Int32) => (some (.int x), (W_Mo gm)))) g_Mo_bearsAt rfl ?_
  unfold F_Mo_bearsAt
  refine sv_Q.s (σ' := (7, [some (.ref 0), some (.int a0)], [.int a0, .ref 0, .int (4 : Int32), .ref 1], (W_Mo gm))) 5 rfl ?_
  refine sv_Q.o (fun v1 e2 => ?_)
  refine sv_Q.V (b := 0) (av := [.int a0]) (ps := [0, 1, 2, 3, 4, 5, 6, 7, 8, 9, 10, 11, 12, 13, 14, 15, 16, 17, 18, 19, 20, 21, 22]) (rest := [.int (4 : Int32), .ref 1]) (cs1 := (W_Mo gm)) (cs2 := (W_Mo gm)) (st' := [.int v1, .int (4 : Int32), .ref 1]) (cs' := (W_Mo gm)) (q := (7, .null, 0, 0, 0)) lk_Mo_260 (r_Mo_isOnDeck N gm a0 v1 e2) rfl rfl rfl rfl rfl (Or.inl ⟨12, _, _, rfl, rfl, rfl⟩) rfl rfl (sc_Mo_Mo_0 gm) rfl rfl (pc_Mo_Mo_0 gm gm) ?_
  refine sv_Q.l (fun v4 => (18, [none, none], [.int v4, .int (4 : Int32), .ref 1], (W_Mo gm))) (fun v4 => ?_) ?_
  · refine sv_Q.s (σ' := (19, [none, none], [.int ((4 : Int32) + v4), .ref 1], (W_Mo gm))) 1 rfl ?_
    refine sv_Q.g (σ' := (20, [none, none], [.int (gm 1 (((4 : Int32) + v4)).toNatClampNeg)], (W_Mo gm))) (c := sv_in ((4 : Int32) + v4) 90) rfl (fun c5 => ?_)
    exact sv_Q.z ⟨True, rfl, trivial, rfl⟩
  · refine sv_Q.sb rfl (fun c3 => ?_) (fun c3 => ?_)
    · refine sv_Q.s (σ' := (18, [some (.ref 0), some (.int a0)], [.int (0 : Int32), .int (4 : Int32), .ref 1], (W_Mo gm))) 1 rfl ?_
      refine sv_Q.f (lo' := [none, none]) trivial ?_
      exact sv_Q.z rfl
    · refine sv_Q.s (σ' := (18, [some (.ref 0), some (.int a0)], [.int (1 : Int32), .int (4 : Int32), .ref 1], (W_Mo gm))) 2 rfl ?_
      refine sv_Q.f (lo' := [none, none]) trivial ?_
      exact sv_Q.z rfl
def F_Mo_whyOf (N : Nat) (a0 : Int32) (a1 : Int32) (a2 : Int32) (a3 : Int32) (gm : Nat → Nat → Int32) : Option (Int32) := (if sv_in a2 144 then (if (gm 8 (a2).toNatClampNeg) = (-1 : Int32) then (Option.bind (F_Mo_lowestOf N a2 gm) fun (v3 : Int32) => (Option.bind (if ¬ a2 = v3 then (if sv_in (a2 - (1 : Int32)) 144 then some (gm 8 ((a2 - (1 : Int32))).toNatClampNeg) else none) else some (-1 : Int32)) fun (v7 : Int32) => (Option.bind (F_Mo_lowestOf N a2 gm) fun (v8 : Int32) => (if a2 = v8 then (if sv_in ((34 : Int32) + a0) 90 then (Option.bind (F_Mo_isOnDeck N a2 gm) fun (v12 : Int32) => (sv_let (if v12 = 0 then (1 : Int32) else (2 : Int32)) fun (v15 : Int32) => (if ¬ (gm 1 (((34 : Int32) + a0)).toNatClampNeg) = v15 then (Option.bind (F_Mo_weightAt N a2 a3 gm) fun (v17 : Int32) => (Option.bind (F_Mo_bearsAt N a2 gm) fun (v19 : Int32) => (if (v17 + a1) ≤ v19 then (if v7 = (-1 : Int32) then (Option.bind (F_Mo_firstNear N a0 a2 a3 gm) fun (v23 : Int32) => (if v23 = (-1 : Int32) then (some (0 : Int32)) else (some (6 : Int32)))) else (if sv_in v7 24 then (if a1 ≤ (gm 5 (v7).toNatClampNeg) then (Option.bind (F_Mo_firstNear N a0 a2 a3 gm) fun (v28 : Int32) => (if v28 = (-1 : Int32) then (some (0 : Int32)) else (some (6 : Int32)))) else (some (5 : Int32))) else none)) else (some (4 : Int32))))) else (some (3 : Int32))))) else none) else (if v7 = (-1 : Int32) then (some (2 : Int32)) else (if ¬ v7 = a3 then (if sv_in ((34 : Int32) + a0) 90 then (Option.bind (F_Mo_isOnDeck N a2 gm) fun (v34 : Int32) => (sv_let (if v34 = 0 then (1 : Int32) else (2 : Int32)) fun (v37 : Int32) => (if ¬ (gm 1 (((34 : Int32) + a0)).toNatClampNeg) = v37 then (Option.bind (F_Mo_weightAt N a2 a3 gm) fun (v39 : Int32) => (Option.bind (F_Mo_bearsAt N a2 gm) fun (v41 : Int32) => (if (v39 + a1) ≤ v41 then (if v7 = (-1 : Int32) then (Option.bind (F_Mo_firstNear N a0 a2 a3 gm) fun (v45 : Int32) => (if v45 = (-1 : Int32) then (some (0 : Int32)) else (some (6 : Int32)))) else (if sv_in v7 24 then (if a1 ≤ (gm 5 (v7).toNatClampNeg) then (Option.bind (F_Mo_firstNear N a0 a2 a3 gm) fun (v50 : Int32) => (if v50 = (-1 : Int32) then (some (0 : Int32)) else (some (6 : Int32)))) else (some (5 : Int32))) else none)) else (some (4 : Int32))))) else (some (3 : Int32))))) else none) else (some (2 : Int32)))))))) else (some (1 : Int32))) else none)
set_option maxHeartbeats 4000000 in
set_option maxRecDepth 100000 in
theorem r_Mo_whyOf {X : Nat × (Nat → Int32)} (N : Nat) (gm : Nat → Nat → Int32) (a0 : Int32) (a1 : Int32) (a2 : Int32) (a3 : Int32) : ∀ x, (F_Mo_whyOf N a0 a1 a2 a3 gm) = some x → sv_R X 8 M_Mo_whyOf [.ref 0, .int a0, .int a1, .int a2, .int a3] (W_Mo gm) (some (.int x)) (W_Mo gm) := by
  refine sv_Q.R (res := (fun (x : Int32) => (some (.int x), (W_Mo gm)))) g_Mo_whyOf rfl ?_
  unfold F_Mo_whyOf
  refine sv_Q.s (σ' := (5, [some (.ref 0), some (.int a0), some (.int a1), some (.int a2), some (.int a3), none], [.int a2, .ref 8], (W_Mo gm))) 3 rfl ?_
  refine sv_Q.g (σ' := (6, [some (.ref 0), some (.int a0), some (.int a1), some (.int a2), some (.int a3), none], [.int (gm 8 (a2).toNatClampNeg)], (W_Mo gm))) (c := sv_in a2 144) rfl (fun c1 => ?_)
  refine sv_Q.s (σ' := (7, [some (.ref 0), some (.int a0), some (.int a1), some (.int a2), some (.int a3), none], [.int (-1 : Int32), .int (gm 8 (a2).toNatClampNeg)], (W_Mo gm))) 1 rfl ?_
  refine sv_Q.b rfl (fun c2 => ?_) (fun c2 => ?_)
  · refine sv_Q.s (σ' := (15, [some (.ref 0), some (.int a0), some (.int a1), some (.int a2), some (.int a3), none], [.int a2, .ref 0, .int a2], (W_Mo gm))) 3 rfl ?_
    refine sv_Q.o (fun v3 e4 => ?_)
    refine sv_Q.V (b := 0) (av := [.int a2]) (ps := [0, 1, 2, 3, 4, 5, 6, 7, 8, 9, 10, 11, 12, 13, 14, 15, 16, 17, 18, 19, 20, 21, 22]) (rest := [.int a2]) (cs1 := (W_Mo gm)) (cs2 := (W_Mo gm)) (st' := [.int v3, .int a2]) (cs' := (W_Mo gm)) (q := (15, .null, 0, 0, 0)) lk_Mo_318 (r_Mo_lowestOf N gm a2 v3 e4) rfl rfl rfl rfl rfl (Or.inl ⟨12, _, _, rfl, rfl, rfl⟩) rfl rfl (sc_Mo_Mo_0 gm) rfl rfl (pc_Mo_Mo_0 gm gm) ?_
    refine sv_Q.lo (fun v7 => (33, [some (.ref 0), some (.int a0), some (.int a1), some (.int a2), some (.int a3), none], [.int v7], (W_Mo gm))) (fun v7 => ?_) ?_
    · refine sv_Q.s (σ' := (38, [some (.ref 0), some (.int a0), some (.int a1), some (.int a2), some (.int a3), some (.int v7)], [.int a2, .ref 0, .int a2], (W_Mo gm))) 4 rfl ?_
      refine sv_Q.o (fun v8 e9 => ?_)
      refine sv_Q.V (b := 0) (av := [.int a2]) (ps := [0, 1, 2, 3, 4, 5, 6, 7, 8, 9, 10, 11, 12, 13, 14, 15, 16, 17, 18, 19, 20, 21, 22]) (rest := [.int a2]) (cs1 := (W_Mo gm)) (cs2 := (W_Mo gm)) (st' := [.int v8, .int a2]) (cs' := (W_Mo gm)) (q := (38, .null, 0, 0, 0)) lk_Mo_318 (r_Mo_lowestOf N gm a2 v8 e9) rfl rfl rfl rfl rfl (Or.inl ⟨12, _, _, rfl, rfl, rfl⟩) rfl rfl (sc_Mo_Mo_0 gm) rfl rfl (pc_Mo_Mo_0 gm gm) ?_
      refine sv_Q.b rfl (fun c10 => ?_) (fun c10 => ?_)
      · refine sv_Q.s (σ' := (67, [some (.ref 0), some (.int a0), some (.int a1), some (.int a2), some (.int a3), some (.int v7)], [.int ((34 : Int32) + a0), .ref 1], (W_Mo gm))) 5 rfl ?_
        refine sv_Q.g (σ' := (68, [some (.ref 0), some (.int a0), some (.int a1), some (.int a2), some (.int a3), some (.int v7)], [.int (gm 1 (((34 : Int32) + a0)).toNatClampNeg)], (W_Mo gm))) (c := sv_in ((34 : Int32) + a0) 90) rfl (fun c11 => ?_)
        refine sv_Q.s (σ' := (70, [some (.ref 0), some (.int a0), some (.int a1), some (.int a2), some (.int a3), some (.int v7)], [.int a2, .ref 0, .int (gm 1 (((34 : Int32) + a0)).toNatClampNeg)], (W_Mo gm))) 2 rfl ?_
        refine sv_Q.o (fun v12 e13 => ?_)
        refine sv_Q.V (b := 0) (av := [.int a2]) (ps := [0, 1, 2, 3, 4, 5, 6, 7, 8, 9, 10, 11, 12, 13, 14, 15, 16, 17, 18, 19, 20, 21, 22]) (rest := [.int (gm 1 (((34 : Int32) + a0)).toNatClampNeg)]) (cs1 := (W_Mo gm)) (cs2 := (W_Mo gm)) (st' := [.int v12, .int (gm 1 (((34 : Int32) + a0)).toNatClampNeg)]) (cs' := (W_Mo gm)) (q := (70, .null, 0, 0, 0)) lk_Mo_260 (r_Mo_isOnDeck N gm a2 v12 e13) rfl rfl rfl rfl rfl (Or.inl ⟨12, _, _, rfl, rfl, rfl⟩) rfl rfl (sc_Mo_Mo_0 gm) rfl rfl (pc_Mo_Mo_0 gm gm) ?_
        refine sv_Q.l (fun v15 => (81, [some (.ref 0), some (.int a0), some (.int a1), some (.int a2), some (.int a3), some (.int v7)], [.int v15, .int (gm 1 (((34 : Int32) + a0)).toNatClampNeg)], (W_Mo gm))) (fun v15 => ?_) ?_
        · refine sv_Q.b rfl (fun c16 => ?_) (fun c16 => ?_)
          · refine sv_Q.s (σ' := (90, [some (.ref 0), some (.int a0), some (.int a1), some (.int a2), some (.int a3), some (.int v7)], [.int a3, .int a2, .ref 0], (W_Mo gm))) 3 rfl ?_
            refine sv_Q.o (fun v17 e18 => ?_)
            refine sv_Q.V (b := 0) (av := [.int a2, .int a3]) (ps := [0, 1, 2, 3, 4, 5, 6, 7, 8, 9, 10, 11, 12, 13, 14, 15, 16, 17, 18, 19, 20, 21, 22]) (rest := []) (cs1 := (W_Mo gm)) (cs2 := (W_Mo gm)) (st' := [.int v17]) (cs' := (W_Mo gm)) (q := (90, .null, 0, 0, 0)) lk_Mo_324 (r_Mo_weightAt N gm a2 a3 v17 e18) rfl rfl rfl rfl rfl (Or.inl ⟨12, _, _, rfl, rfl, rfl⟩) rfl rfl (sc_Mo_Mo_0 gm) rfl rfl (pc_Mo_Mo_0 gm gm) ?_
            refine sv_Q.s (σ' := (97, [some (.ref 0), some (.int a0), some (.int a1), some (.int a2), some (.int a3), some (.int v7)], [.int a2, .ref 0, .int (v17 + a1)], (W_Mo gm))) 4 rfl ?_
            refine sv_Q.o (fun v19 e20 => ?_)
            refine sv_Q.V (b := 0) (av := [.int a2]) (ps := [0, 1, 2, 3, 4, 5, 6, 7, 8, 9, 10, 11, 12, 13, 14, 15, 16, 17, 18, 19, 20, 21, 22]) (rest := [.int (v17 + a1)]) (cs1 := (W_Mo gm)) (cs2 := (W_Mo gm)) (st' := [.int v19, .int (v17 + a1)]) (cs' := (W_Mo gm)) (q := (97, .null, 0, 0, 0)) lk_Mo_327 (r_Mo_bearsAt N gm a2 v19 e20) rfl rfl rfl rfl rfl (Or.inl ⟨12, _, _, rfl, rfl, rfl⟩) rfl rfl (sc_Mo_Mo_0 gm) rfl rfl (pc_Mo_Mo_0 gm gm) ?_
            refine sv_Q.b rfl (fun c21 => ?_) (fun c21 => ?_)
            · refine sv_Q.s (σ' := (108, [some (.ref 0), some (.int a0), some (.int a1), some (.int a2), some (.int a3), some (.int v7)], [.int (-1 : Int32), .int v7], (W_Mo gm))) 2 rfl ?_
              refine sv_Q.b rfl (fun c22 => ?_) (fun c22 => ?_)
              · refine sv_Q.s (σ' := (129, [some (.ref 0), some (.int a0), some (.int a1), some (.int a2), some (.int a3), some (.int v7)], [.int a3, .int a2, .int a0, .ref 0], (W_Mo gm))) 4 rfl ?_
                refine sv_Q.o (fun v23 e24 => ?_)
                refine sv_Q.V (b := 0) (av := [.int a0, .int a2, .int a3]) (ps := [0, 1, 2, 3, 4, 5, 6, 7, 8, 9, 10, 11, 12, 13, 14, 15, 16, 17, 18, 19, 20, 21, 22]) (rest := []) (cs1 := (W_Mo gm)) (cs2 := (W_Mo gm)) (st' := [.int v23]) (cs' := (W_Mo gm)) (q := (129, .null, 0, 0, 0)) lk_Mo_330 (r_Mo_firstNear N gm a0 a2 a3 v23 e24) rfl rfl rfl rfl rfl (Or.inl ⟨12, _, _, rfl, rfl, rfl⟩) rfl rfl (sc_Mo_Mo_0 gm) rfl rfl (pc_Mo_Mo_0 gm gm) ?_
                refine sv_Q.s (σ' := (133, [some (.ref 0), some (.int a0), some (.int a1), some (.int a2), some (.int a3), some (.int v7)], [.int (-1 : Int32), .int v23], (W_Mo gm))) 1 rfl ?_
                refine sv_Q.b rfl (fun c25 => ?_) (fun c25 => ?_)
                · refine sv_Q.s (σ' := (142, [some (.ref 0), some (.int a0), some (.int a1), some (.int a2), some (.int a3), some (.int v7)], [.int (0 : Int32)], (W_Mo gm))) 1 rfl ?_
                  exact sv_Q.z ⟨True, rfl, trivial, rfl⟩
                · refine sv_Q.s (σ' := (142, [some (.ref 0), some (.int a0), some (.int a1), some (.int a2), some (.int a3), some (.int v7)], [.int (6 : Int32)], (W_Mo gm))) 2 rfl ?_
                  exact sv_Q.z ⟨True, rfl, trivial, rfl⟩
              · refine sv_Q.s (σ' := (118, [some (.ref 0), some (.int a0), some (.int a1), some (.int a2), some (.int a3), some (.int v7)], [.int v7, .ref 5, .int a1], (W_Mo gm))) 4 rfl ?_
                refine sv_Q.g (σ' := (119, [some (.ref 0), some (.int a0), some (.int a1), some (.int a2), some (.int a3), some (.int v7)], [.int (gm 5 (v7).toNatClampNeg), .int a1], (W_Mo gm))) (c := sv_in v7 24) rfl (fun c26 => ?_)
                refine sv_Q.b rfl (fun c27 => ?_) (fun c27 => ?_)
                · refine sv_Q.s (σ' := (129, [some (.ref 0), some (.int a0), some (.int a1), some (.int a2), some (.int a3), some (.int v7)], [.int a3, .int a2, .int a0, .ref 0], (W_Mo gm))) 4 rfl ?_
                  refine sv_Q.o (fun v28 e29 => ?_)
                  refine sv_Q.V (b := 0) (av := [.int a0, .int a2, .int a3]) (ps := [0, 1, 2, 3, 4, 5, 6, 7, 8, 9, 10, 11, 12, 13, 14, 15, 16, 17, 18, 19, 20, 21, 22]) (rest := []) (cs1 := (W_Mo gm)) (cs2 := (W_Mo gm)) (st' := [.int v28]) (cs' := (W_Mo gm)) (q := (129, .null, 0, 0, 0)) lk_Mo_330 (r_Mo_firstNear N gm a0 a2 a3 v28 e29) rfl rfl rfl rfl rfl (Or.inl ⟨12, _, _, rfl, rfl, rfl⟩) rfl rfl (sc_Mo_Mo_0 gm) rfl rfl (pc_Mo_Mo_0 gm gm) ?_
                  refine sv_Q.s (σ' := (133, [some (.ref 0), some (.int a0), some (.int a1), some (.int a2), some (.int a3), some (.int v7)], [.int (-1 : Int32), .int v28], (W_Mo gm))) 1 rfl ?_
                  refine sv_Q.b rfl (fun c30 => ?_) (fun c30 => ?_)
                  · refine sv_Q.s (σ' := (142, [some (.ref 0), some (.int a0), some (.int a1), some (.int a2), some (.int a3), some (.int v7)], [.int (0 : Int32)], (W_Mo gm))) 1 rfl ?_
                    exact sv_Q.z ⟨True, rfl, trivial, rfl⟩
                  · refine sv_Q.s (σ' := (142, [some (.ref 0), some (.int a0), some (.int a1), some (.int a2), some (.int a3), some (.int v7)], [.int (6 : Int32)], (W_Mo gm))) 2 rfl ?_
                    exact sv_Q.z ⟨True, rfl, trivial, rfl⟩
                · refine sv_Q.s (σ' := (123, [some (.ref 0), some (.int a0), some (.int a1), some (.int a2), some (.int a3), some (.int v7)], [.int (5 : Int32)], (W_Mo gm))) 1 rfl ?_
                  exact sv_Q.z ⟨True, rfl, trivial, rfl⟩
            · refine sv_Q.s (σ' := (104, [some (.ref 0), some (.int a0), some (.int a1), some (.int a2), some (.int a3), some (.int v7)], [.int (4 : Int32)], (W_Mo gm))) 1 rfl ?_
              exact sv_Q.z ⟨True, rfl, trivial, rfl⟩
          · refine sv_Q.s (σ' := (85, [some (.ref 0), some (.int a0), some (.int a1), some (.int a2), some (.int a3), some (.int v7)], [.int (3 : Int32)], (W_Mo gm))) 1 rfl ?_
            exact sv_Q.z ⟨True, rfl, trivial, rfl⟩
        · refine sv_Q.sb rfl (fun c14 => ?_) (fun c14 => ?_)
          · refine sv_Q.s (σ' := (81, [some (.ref 0), some (.int a0), some (.int a1), some (.int a2), some (.int a3), some (.int v7)], [.int (1 : Int32), .int (gm 1 (((34 : Int32) + a0)).toNatClampNeg)], (W_Mo gm))) 1 rfl ?_
            exact sv_Q.z rfl
          · refine sv_Q.s (σ' := (81, [some (.ref 0), some (.int a0), some (.int a1), some (.int a2), some (.int a3), some (.int v7)], [.int (2 : Int32), .int (gm 1 (((34 : Int32) + a0)).toNatClampNeg)], (W_Mo gm))) 2 rfl ?_
            exact sv_Q.z rfl
      · refine sv_Q.s (σ' := (47, [some (.ref 0), some (.int a0), some (.int a1), some (.int a2), some (.int a3), some (.int v7)], [.int (-1 : Int32), .int v7], (W_Mo gm))) 2 rfl ?_
        refine sv_Q.b rfl (fun c31 => ?_) (fun c31 => ?_)
        · refine sv_Q.s (σ' := (58, [some (.ref 0), some (.int a0), some (.int a1), some (.int a2), some (.int a3), some (.int v7)], [.int (2 : Int32)], (W_Mo gm))) 1 rfl ?_
          exact sv_Q.z ⟨True, rfl, trivial, rfl⟩
        · refine sv_Q.s (σ' := (54, [some (.ref 0), some (.int a0), some (.int a1), some (.int a2), some (.int a3), some (.int v7)], [.int a3, .int v7], (W_Mo gm))) 2 rfl ?_
          refine sv_Q.b rfl (fun c32 => ?_) (fun c32 => ?_)
          · refine sv_Q.s (σ' := (67, [some (.ref 0), some (.int a0), some (.int a1), some (.int a2), some (.int a3), some (.int v7)], [.int ((34 : Int32) + a0), .ref 1], (W_Mo gm))) 5 rfl ?_
            refine sv_Q.g (σ' := (68, [some (.ref 0), some (.int a0), some (.int a1), some (.int a2), some (.int a3), some (.int v7)], [.int (gm 1 (((34 : Int32) + a0)).toNatClampNeg)], (W_Mo gm))) (c := sv_in ((34 : Int32) + a0) 90) rfl (fun c33 => ?_)
            refine sv_Q.s (σ' := (70, [some (.ref 0), some (.int a0), some (.int a1), some (.int a2), some (.int a3), some (.int v7)], [.int a2, .ref 0, .int (gm 1 (((34 : Int32) + a0)).toNatClampNeg)], (W_Mo gm))) 2 rfl ?_
            refine sv_Q.o (fun v34 e35 => ?_)
            refine sv_Q.V (b := 0) (av := [.int a2]) (ps := [0, 1, 2, 3, 4, 5, 6, 7, 8, 9, 10, 11, 12, 13, 14, 15, 16, 17, 18, 19, 20, 21, 22]) (rest := [.int (gm 1 (((34 : Int32) + a0)).toNatClampNeg)]) (cs1 := (W_Mo gm)) (cs2 := (W_Mo gm)) (st' := [.int v34, .int (gm 1 (((34 : Int32) + a0)).toNatClampNeg)]) (cs' := (W_Mo gm)) (q := (70, .null, 0, 0, 0)) lk_Mo_260 (r_Mo_isOnDeck N gm a2 v34 e35) rfl rfl rfl rfl rfl (Or.inl ⟨12, _, _, rfl, rfl, rfl⟩) rfl rfl (sc_Mo_Mo_0 gm) rfl rfl (pc_Mo_Mo_0 gm gm) ?_
            refine sv_Q.l (fun v37 => (81, [some (.ref 0), some (.int a0), some (.int a1), some (.int a2), some (.int a3), some (.int v7)], [.int v37, .int (gm 1 (((34 : Int32) + a0)).toNatClampNeg)], (W_Mo gm))) (fun v37 => ?_) ?_
            · refine sv_Q.b rfl (fun c38 => ?_) (fun c38 => ?_)
              · refine sv_Q.s (σ' := (90, [some (.ref 0), some (.int a0), some (.int a1), some (.int a2), some (.int a3), some (.int v7)], [.int a3, .int a2, .ref 0], (W_Mo gm))) 3 rfl ?_
                refine sv_Q.o (fun v39 e40 => ?_)
                refine sv_Q.V (b := 0) (av := [.int a2, .int a3]) (ps := [0, 1, 2, 3, 4, 5, 6, 7, 8, 9, 10, 11, 12, 13, 14, 15, 16, 17, 18, 19, 20, 21, 22]) (rest := []) (cs1 := (W_Mo gm)) (cs2 := (W_Mo gm)) (st' := [.int v39]) (cs' := (W_Mo gm)) (q := (90, .null, 0, 0, 0)) lk_Mo_324 (r_Mo_weightAt N gm a2 a3 v39 e40) rfl rfl rfl rfl rfl (Or.inl ⟨12, _, _, rfl, rfl, rfl⟩) rfl rfl (sc_Mo_Mo_0 gm) rfl rfl (pc_Mo_Mo_0 gm gm) ?_
                refine sv_Q.s (σ' := (97, [some (.ref 0), some (.int a0), some (.int a1), some (.int a2), some (.int a3), some (.int v7)], [.int a2, .ref 0, .int (v39 + a1)], (W_Mo gm))) 4 rfl ?_
                refine sv_Q.o (fun v41 e42 => ?_)
                refine sv_Q.V (b := 0) (av := [.int a2]) (ps := [0, 1, 2, 3, 4, 5, 6, 7, 8, 9, 10, 11, 12, 13, 14, 15, 16, 17, 18, 19, 20, 21, 22]) (rest := [.int (v39 + a1)]) (cs1 := (W_Mo gm)) (cs2 := (W_Mo gm)) (st' := [.int v41, .int (v39 + a1)]) (cs' := (W_Mo gm)) (q := (97, .null, 0, 0, 0)) lk_Mo_327 (r_Mo_bearsAt N gm a2 v41 e42) rfl rfl rfl rfl rfl (Or.inl ⟨12, _, _, rfl, rfl, rfl⟩) rfl rfl (sc_Mo_Mo_0 gm) rfl rfl (pc_Mo_Mo_0 gm gm) ?_
                refine sv_Q.b rfl (fun c43 => ?_) (fun c43 => ?_)
                · refine sv_Q.s (σ' := (108, [some (.ref 0), some (.int a0), some (.int a1), some (.int a2), some (.int a3), some (.int v7)], [.int (-1 : Int32), .int v7], (W_Mo gm))) 2 rfl ?_
                  refine sv_Q.b rfl (fun c44 => ?_) (fun c44 => ?_)
                  · refine sv_Q.s (σ' := (129, [some (.ref 0), some (.int a0), some (.int a1), some (.int a2), some (.int a3), some (.int v7)], [.int a3, .int a2, .int a0, .ref 0], (W_Mo gm))) 4 rfl ?_
                    refine sv_Q.o (fun v45 e46 => ?_)
                    refine sv_Q.V (b := 0) (av := [.int a0, .int a2, .int a3]) (ps := [0, 1, 2, 3, 4, 5, 6, 7, 8, 9, 10, 11, 12, 13, 14, 15, 16, 17, 18, 19, 20, 21, 22]) (rest := []) (cs1 := (W_Mo gm)) (cs2 := (W_Mo gm)) (st' := [.int v45]) (cs' := (W_Mo gm)) (q := (129, .null, 0, 0, 0)) lk_Mo_330 (r_Mo_firstNear N gm a0 a2 a3 v45 e46) rfl rfl rfl rfl rfl (Or.inl ⟨12, _, _, rfl, rfl, rfl⟩) rfl rfl (sc_Mo_Mo_0 gm) rfl rfl (pc_Mo_Mo_0 gm gm) ?_
                    refine sv_Q.s (σ' := (133, [some (.ref 0), some (.int a0), some (.int a1), some (.int a2), some (.int a3), some (.int v7)], [.int (-1 : Int32), .int v45], (W_Mo gm))) 1 rfl ?_
                    refine sv_Q.b rfl (fun c47 => ?_) (fun c47 => ?_)
                    · refine sv_Q.s (σ' := (142, [some (.ref 0), some (.int a0), some (.int a1), some (.int a2), some (.int a3), some (.int v7)], [.int (0 : Int32)], (W_Mo gm))) 1 rfl ?_
                      exact sv_Q.z ⟨True, rfl, trivial, rfl⟩
                    · refine sv_Q.s (σ' := (142, [some (.ref 0), some (.int a0), some (.int a1), some (.int a2), some (.int a3), some (.int v7)], [.int (6 : Int32)], (W_Mo gm))) 2 rfl ?_
                      exact sv_Q.z ⟨True, rfl, trivial, rfl⟩
                  · refine sv_Q.s (σ' := (118, [some (.ref 0), some (.int a0), some (.int a1), some (.int a2), some (.int a3), some (.int v7)], [.int v7, .ref 5, .int a1], (W_Mo gm))) 4 rfl ?_
                    refine sv_Q.g (σ' := (119, [some (.ref 0), some (.int a0), some (.int a1), some (.int a2), some (.int a3), some (.int v7)], [.int (gm 5 (v7).toNatClampNeg), .int a1], (W_Mo gm))) (c := sv_in v7 24) rfl (fun c48 => ?_)
                    refine sv_Q.b rfl (fun c49 => ?_) (fun c49 => ?_)
                    · refine sv_Q.s (σ' := (129, [some (.ref 0), some (.int a0), some (.int a1), some (.int a2), some (.int a3), some (.int v7)], [.int a3, .int a2, .int a0, .ref 0], (W_Mo gm))) 4 rfl ?_
                      refine sv_Q.o (fun v50 e51 => ?_)
                      refine sv_Q.V (b := 0) (av := [.int a0, .int a2, .int a3]) (ps := [0, 1, 2, 3, 4, 5, 6, 7, 8, 9, 10, 11, 12, 13, 14, 15, 16, 17, 18, 19, 20, 21, 22]) (rest := []) (cs1 := (W_Mo gm)) (cs2 := (W_Mo gm)) (st' := [.int v50]) (cs' := (W_Mo gm)) (q := (129, .null, 0, 0, 0)) lk_Mo_330 (r_Mo_firstNear N gm a0 a2 a3 v50 e51) rfl rfl rfl rfl rfl (Or.inl ⟨12, _, _, rfl, rfl, rfl⟩) rfl rfl (sc_Mo_Mo_0 gm) rfl rfl (pc_Mo_Mo_0 gm gm) ?_
                      refine sv_Q.s (σ' := (133, [some (.ref 0), some (.int a0), some (.int a1), some (.int a2), some (.int a3), some (.int v7)], [.int (-1 : Int32), .int v50], (W_Mo gm))) 1 rfl ?_
                      refine sv_Q.b rfl (fun c52 => ?_) (fun c52 => ?_)
                      · refine sv_Q.s (σ' := (142, [some (.ref 0), some (.int a0), some (.int a1), some (.int a2), some (.int a3), some (.int v7)], [.int (0 : Int32)], (W_Mo gm))) 1 rfl ?_
                        exact sv_Q.z ⟨True, rfl, trivial, rfl⟩
                      · refine sv_Q.s (σ' := (142, [some (.ref 0), some (.int a0), some (.int a1), some (.int a2), some (.int a3), some (.int v7)], [.int (6 : Int32)], (W_Mo gm))) 2 rfl ?_
                        exact sv_Q.z ⟨True, rfl, trivial, rfl⟩
                    · refine sv_Q.s (σ' := (123, [some (.ref 0), some (.int a0), some (.int a1), some (.int a2), some (.int a3), some (.int v7)], [.int (5 : Int32)], (W_Mo gm))) 1 rfl ?_
                      exact sv_Q.z ⟨True, rfl, trivial, rfl⟩
                · refine sv_Q.s (σ' := (104, [some (.ref 0), some (.int a0), some (.int a1), some (.int a2), some (.int a3), some (.int v7)], [.int (4 : Int32)], (W_Mo gm))) 1 rfl ?_
                  exact sv_Q.z ⟨True, rfl, trivial, rfl⟩
              · refine sv_Q.s (σ' := (85, [some (.ref 0), some (.int a0), some (.int a1), some (.int a2), some (.int a3), some (.int v7)], [.int (3 : Int32)], (W_Mo gm))) 1 rfl ?_
                exact sv_Q.z ⟨True, rfl, trivial, rfl⟩
            · refine sv_Q.sb rfl (fun c36 => ?_) (fun c36 => ?_)
              · refine sv_Q.s (σ' := (81, [some (.ref 0), some (.int a0), some (.int a1), some (.int a2), some (.int a3), some (.int v7)], [.int (1 : Int32), .int (gm 1 (((34 : Int32) + a0)).toNatClampNeg)], (W_Mo gm))) 1 rfl ?_
                exact sv_Q.z rfl
              · refine sv_Q.s (σ' := (81, [some (.ref 0), some (.int a0), some (.int a1), some (.int a2), some (.int a3), some (.int v7)], [.int (2 : Int32), .int (gm 1 (((34 : Int32) + a0)).toNatClampNeg)], (W_Mo gm))) 2 rfl ?_
                exact sv_Q.z rfl
          · refine sv_Q.s (σ' := (58, [some (.ref 0), some (.int a0), some (.int a1), some (.int a2), some (.int a3), some (.int v7)], [.int (2 : Int32)], (W_Mo gm))) 1 rfl ?_
            exact sv_Q.z ⟨True, rfl, trivial, rfl⟩
    · refine sv_Q.b rfl (fun c5 => ?_) (fun c5 => ?_)
      · refine sv_Q.s (σ' := (32, [some (.ref 0), some (.int a0), some (.int a1), some (.int a2), some (.int a3), none], [.int (a2 - (1 : Int32)), .ref 8], (W_Mo gm))) 5 rfl ?_
        refine sv_Q.g (σ' := (33, [some (.ref 0), some (.int a0), some (.int a1), some (.int a2), some (.int a3), none], [.int (gm 8 ((a2 - (1 : Int32))).toNatClampNeg)], (W_Mo gm))) (c := sv_in (a2 - (1 : Int32)) 144) rfl (fun c6 => ?_)
        exact sv_Q.z rfl
      · refine sv_Q.s (σ' := (33, [some (.ref 0), some (.int a0), some (.int a1), some (.int a2), some (.int a3), none], [.int (-1 : Int32)], (W_Mo gm))) 2 rfl ?_
        exact sv_Q.z rfl
  · refine sv_Q.s (σ' := (11, [some (.ref 0), some (.int a0), some (.int a1), some (.int a2), some (.int a3), none], [.int (1 : Int32)], (W_Mo gm))) 1 rfl ?_
    exact sv_Q.z ⟨True, rfl, trivial, rfl⟩
def F_Mo_whyBox (N : Nat) (a0 : Int32) (a1 : Int32) (gm : Nat → Nat → Int32) : Option (Int32) := (if sv_in a0 24 then (if sv_in a0 24 then (Option.bind (F_Mo_whyOf N (gm 4 (a0).toNatClampNeg) (gm 5 (a0).toNatClampNeg) a1 a0 gm) fun (v3 : Int32) => (some v3)) else none) else none)
set_option maxHeartbeats 4000000 in
set_option maxRecDepth 100000 in
theorem r_Mo_whyBox {X : Nat × (Nat → Int32)} (N : Nat) (gm : Nat → Nat → Int32) (a0 : Int32) (a1 : Int32) : ∀ x, (F_Mo_whyBox N a0 a1 gm) = some x → sv_R X 9 M_Mo_whyBox [.ref 0, .int a0, .int a1] (W_Mo gm) (some (.int x)) (W_Mo gm) := by
  refine sv_Q.R (res := (fun (x : Int32) => (some (.int x), (W_Mo gm)))) g_Mo_whyBox rfl ?_
  unfold F_Mo_whyBox
  refine sv_Q.s (σ' := (6, [some (.ref 0), some (.int a0), some (.int a1)], [.int a0, .ref 4, .ref 0], (W_Mo gm))) 4 rfl ?_
  refine sv_Q.g (σ' := (7, [some (.ref 0), some (.int a0), some (.int a1)], [.int (gm 4 (a0).toNatClampNeg), .ref 0], (W_Mo gm))) (c := sv_in a0 24) rfl (fun c1 => ?_)
  refine sv_Q.s (σ' := (12, [some (.ref 0), some (.int a0), some (.int a1)], [.int a0, .ref 5, .int (gm 4 (a0).toNatClampNeg), .ref 0], (W_Mo gm))) 3 rfl ?_
  refine sv_Q.g (σ' := (13, [some (.ref 0), some (.int a0), some (.int a1)], [.int (gm 5 (a0).toNatClampNeg), .int (gm 4 (a0).toNatClampNeg), .ref 0], (W_Mo gm))) (c := sv_in a0 24) rfl (fun c2 => ?_)
  refine sv_Q.s (σ' := (15, [some (.ref 0), some (.int a0), some (.int a1)], [.int a0, .int a1, .int (gm 5 (a0).toNatClampNeg), .int (gm 4 (a0).toNatClampNeg), .ref 0], (W_Mo gm))) 2 rfl ?_
  refine sv_Q.o (fun v3 e4 => ?_)
  refine sv_Q.V (b := 0) (av := [.int (gm 4 (a0).toNatClampNeg), .int (gm 5 (a0).toNatClampNeg), .int a1, .int a0]) (ps := [0, 1, 2, 3, 4, 5, 6, 7, 8, 9, 10, 11, 12, 13, 14, 15, 16, 17, 18, 19, 20, 21, 22]) (rest := []) (cs1 := (W_Mo gm)) (cs2 := (W_Mo gm)) (st' := [.int v3]) (cs' := (W_Mo gm)) (q := (15, .null, 0, 0, 0)) lk_Mo_333 (r_Mo_whyOf N gm (gm 4 (a0).toNatClampNeg) (gm 5 (a0).toNatClampNeg) a1 a0 v3 e4) rfl rfl rfl rfl rfl (Or.inl ⟨12, _, _, rfl, rfl, rfl⟩) rfl rfl (sc_Mo_Mo_0 gm) rfl rfl (pc_Mo_Mo_0 gm gm) ?_
  exact sv_Q.z ⟨True, rfl, trivial, rfl⟩
def F_Mo_why (N : Nat) (a0 : Int32) (a1 : Int32) (gm : Nat → Nat → Int32) : Option (Int32) := (if (F_Mo_isBox a0 gm) = 0 then (some (-2 : Int32)) else (Option.bind (F_Mo_isPlace N a1 gm) fun (v2 : Int32) => (if v2 = 0 then (some (-2 : Int32)) else (Option.bind (F_Mo_whyBox N a0 a1 gm) fun (v5 : Int32) => (some v5)))))
set_option maxHeartbeats 4000000 in
set_option maxRecDepth 100000 in
theorem r_Mo_why {X : Nat × (Nat → Int32)} (N : Nat) (gm : Nat → Nat → Int32) (a0 : Int32) (a1 : Int32) : ∀ x, (F_Mo_why N a0 a1 gm) = some x → sv_R X 10 M_Mo_why [.ref 0, .int a0, .int a1] (W_Mo gm) (some (.int x)) (W_Mo gm) := by
  refine sv_Q.R (res := (fun (x : Int32) => (some (.int x), (W_Mo gm)))) g_Mo_why rfl ?_
  unfold F_Mo_why
  refine sv_Q.s (σ' := (2, [some (.ref 0), some (.int a0), some (.int a1)], [.int a0, .ref 0], (W_Mo gm))) 2 rfl ?_
  refine sv_Q.V (b := 0) (av := [.int a0]) (ps := [0, 1, 2, 3, 4, 5, 6, 7, 8, 9, 10, 11, 12, 13, 14, 15, 16, 17, 18, 19, 20, 21, 22]) (rest := []) (cs1 := (W_Mo gm)) (cs2 := (W_Mo gm)) (st' := [.int (F_Mo_isBox a0 gm)]) (cs' := (W_Mo gm)) (q := (2, .null, 0, 0, 0)) lk_Mo_286 (t_Mo_isBox gm a0) rfl rfl rfl rfl rfl (Or.inl ⟨12, _, _, rfl, rfl, rfl⟩) rfl rfl (sc_Mo_Mo_0 gm) rfl rfl (pc_Mo_Mo_0 gm gm) ?_
  refine sv_Q.b rfl (fun c1 => ?_) (fun c1 => ?_)
  · refine sv_Q.s (σ' := (27, [some (.ref 0), some (.int a0), some (.int a1)], [.int (-2 : Int32)], (W_Mo gm))) 1 rfl ?_
    exact sv_Q.z ⟨True, rfl, trivial, rfl⟩
  · refine sv_Q.s (σ' := (10, [some (.ref 0), some (.int a0), some (.int a1)], [.int a1, .ref 0], (W_Mo gm))) 2 rfl ?_
    refine sv_Q.o (fun v2 e3 => ?_)
    refine sv_Q.V (b := 0) (av := [.int a1]) (ps := [0, 1, 2, 3, 4, 5, 6, 7, 8, 9, 10, 11, 12, 13, 14, 15, 16, 17, 18, 19, 20, 21, 22]) (rest := []) (cs1 := (W_Mo gm)) (cs2 := (W_Mo gm)) (st' := [.int v2]) (cs' := (W_Mo gm)) (q := (10, .null, 0, 0, 0)) lk_Mo_289 (r_Mo_isPlace N gm a1 v2 e3) rfl rfl rfl rfl rfl (Or.inl ⟨12, _, _, rfl, rfl, rfl⟩) rfl rfl (sc_Mo_Mo_0 gm) rfl rfl (pc_Mo_Mo_0 gm gm) ?_
    refine sv_Q.b rfl (fun c4 => ?_) (fun c4 => ?_)
    · refine sv_Q.s (σ' := (27, [some (.ref 0), some (.int a0), some (.int a1)], [.int (-2 : Int32)], (W_Mo gm))) 1 rfl ?_
      exact sv_Q.z ⟨True, rfl, trivial, rfl⟩
    · refine sv_Q.s (σ' := (19, [some (.ref 0), some (.int a0), some (.int a1)], [.int a1, .int a0, .ref 0], (W_Mo gm))) 3 rfl ?_
      refine sv_Q.o (fun v5 e6 => ?_)
      refine sv_Q.V (b := 0) (av := [.int a0, .int a1]) (ps := [0, 1, 2, 3, 4, 5, 6, 7, 8, 9, 10, 11, 12, 13, 14, 15, 16, 17, 18, 19, 20, 21, 22]) (rest := []) (cs1 := (W_Mo gm)) (cs2 := (W_Mo gm)) (st' := [.int v5]) (cs' := (W_Mo gm)) (q := (19, .null, 0, 0, 0)) lk_Mo_337 (r_Mo_whyBox N gm a0 a1 v5 e6) rfl rfl rfl rfl rfl (Or.inl ⟨12, _, _, rfl, rfl, rfl⟩) rfl rfl (sc_Mo_Mo_0 gm) rfl rfl (pc_Mo_Mo_0 gm gm) ?_
      refine sv_Q.s (σ' := (27, [some (.ref 0), some (.int a0), some (.int a1)], [.int v5], (W_Mo gm))) 1 rfl ?_
      exact sv_Q.z ⟨True, rfl, trivial, rfl⟩
def F_Mo_nearIn (N : Nat) (a0 : Int32) (a1 : Int32) (gm : Nat → Nat → Int32) : Option (Int32) := (if (F_Mo_isBox a0 gm) = 0 then (some (-2 : Int32)) else (Option.bind (F_Mo_isPlace N a1 gm) fun (v2 : Int32) => (if v2 = 0 then (some (-2 : Int32)) else (if sv_in a0 24 then (Option.bind (F_Mo_firstNear N (gm 4 (a0).toNatClampNeg) a1 a0 gm) fun (v6 : Int32) => (some v6)) else none))))
set_option maxHeartbeats 4000000 in
set_option maxRecDepth 100000 in
theorem r_Mo_nearIn {X : Nat × (Nat → Int32)} (N : Nat) (gm : Nat → Nat → Int32) (a0 : Int32) (a1 : Int32) : ∀ x, (F_Mo_nearIn N a0 a1 gm) = some x → sv_R X 8 M_Mo_nearIn [.ref 0, .int a0, .int a1] (W_Mo gm) (some (.int x)) (W_Mo gm) := by
  refine sv_Q.R (res := (fun (x : Int32) => (some (.int x), (W_Mo gm)))) g_Mo_nearIn rfl ?_
  unfold F_Mo_nearIn
  refine sv_Q.s (σ' := (2, [some (.ref 0), some (.int a0), some (.int a1)], [.int a0, .ref 0], (W_Mo gm))) 2 rfl ?_
  refine sv_Q.V (b := 0) (av := [.int a0]) (ps := [0, 1, 2, 3, 4, 5, 6, 7, 8, 9, 10, 11, 12, 13, 14, 15, 16, 17, 18, 19, 20, 21, 22]) (rest := []) (cs1 := (W_Mo gm)) (cs2 := (W_Mo gm)) (st' := [.int (F_Mo_isBox a0 gm)]) (cs' := (W_Mo gm)) (q := (2, .null, 0, 0, 0)) lk_Mo_286 (t_Mo_isBox gm a0) rfl rfl rfl rfl rfl (Or.inl ⟨12, _, _, rfl, rfl, rfl⟩) rfl rfl (sc_Mo_Mo_0 gm) rfl rfl (pc_Mo_Mo_0 gm gm) ?_
  refine sv_Q.b rfl (fun c1 => ?_) (fun c1 => ?_)
  · refine sv_Q.s (σ' := (33, [some (.ref 0), some (.int a0), some (.int a1)], [.int (-2 : Int32)], (W_Mo gm))) 1 rfl ?_
    exact sv_Q.z ⟨True, rfl, trivial, rfl⟩
  · refine sv_Q.s (σ' := (10, [some (.ref 0), some (.int a0), some (.int a1)], [.int a1, .ref 0], (W_Mo gm))) 2 rfl ?_
    refine sv_Q.o (fun v2 e3 => ?_)
    refine sv_Q.V (b := 0) (av := [.int a1]) (ps := [0, 1, 2, 3, 4, 5, 6, 7, 8, 9, 10, 11, 12, 13, 14, 15, 16, 17, 18, 19, 20, 21, 22]) (rest := []) (cs1 := (W_Mo gm)) (cs2 := (W_Mo gm)) (st' := [.int v2]) (cs' := (W_Mo gm)) (q := (10, .null, 0, 0, 0)) lk_Mo_289 (r_Mo_isPlace N gm a1 v2 e3) rfl rfl rfl rfl rfl (Or.inl ⟨12, _, _, rfl, rfl, rfl⟩) rfl rfl (sc_Mo_Mo_0 gm) rfl rfl (pc_Mo_Mo_0 gm gm) ?_
    refine sv_Q.b rfl (fun c4 => ?_) (fun c4 => ?_)
    · refine sv_Q.s (σ' := (33, [some (.ref 0), some (.int a0), some (.int a1)], [.int (-2 : Int32)], (W_Mo gm))) 1 rfl ?_
      exact sv_Q.z ⟨True, rfl, trivial, rfl⟩
    · refine sv_Q.s (σ' := (22, [some (.ref 0), some (.int a0), some (.int a1)], [.int a0, .ref 4, .ref 0], (W_Mo gm))) 4 rfl ?_
      refine sv_Q.g (σ' := (23, [some (.ref 0), some (.int a0), some (.int a1)], [.int (gm 4 (a0).toNatClampNeg), .ref 0], (W_Mo gm))) (c := sv_in a0 24) rfl (fun c5 => ?_)
      refine sv_Q.s (σ' := (25, [some (.ref 0), some (.int a0), some (.int a1)], [.int a0, .int a1, .int (gm 4 (a0).toNatClampNeg), .ref 0], (W_Mo gm))) 2 rfl ?_
      refine sv_Q.o (fun v6 e7 => ?_)
      refine sv_Q.V (b := 0) (av := [.int (gm 4 (a0).toNatClampNeg), .int a1, .int a0]) (ps := [0, 1, 2, 3, 4, 5, 6, 7, 8, 9, 10, 11, 12, 13, 14, 15, 16, 17, 18, 19, 20, 21, 22]) (rest := []) (cs1 := (W_Mo gm)) (cs2 := (W_Mo gm)) (st' := [.int v6]) (cs' := (W_Mo gm)) (q := (25, .null, 0, 0, 0)) lk_Mo_330 (r_Mo_firstNear N gm (gm 4 (a0).toNatClampNeg) a1 a0 v6 e7) rfl rfl rfl rfl rfl (Or.inl ⟨12, _, _, rfl, rfl, rfl⟩) rfl rfl (sc_Mo_Mo_0 gm) rfl rfl (pc_Mo_Mo_0 gm gm) ?_
      refine sv_Q.s (σ' := (33, [some (.ref 0), some (.int a0), some (.int a1)], [.int v6], (W_Mo gm))) 1 rfl ?_
      exact sv_Q.z ⟨True, rfl, trivial, rfl⟩
def L_Mo_may_21 (N : Nat) : Nat → Int32 → Int32 → Int32 → Int32 → (Nat → Nat → Int32) → Option ((Int32) ⊕ (Int32))
  | 0, _, _, _, _, _ => none
  | n + 1, x1, x2, x3, x4, gm => (Option.bind (F_Mo_places N gm) fun (v3 : Int32) => (if v3 ≤ x4 then (some (.inl x3)) else (Option.bind (F_Mo_whyBox N x1 x4 gm) fun (v6 : Int32) => (if v6 = 0 then (if ¬ x3 = x2 then (L_Mo_may_21 N n x1 x2 (x3 + (1 : Int32)) (x4 + (1 : Int32)) gm) else (some (.inr x4))) else (L_Mo_may_21 N n x1 x2 x3 (x4 + (1 : Int32)) gm)))))
set_option maxHeartbeats 4000000 in
set_option maxRecDepth 100000 in
theorem l_Mo_may_21 {X : Nat × (Nat → Int32)} (N : Nat) : ∀ (n : Nat) (x1 : Int32) (x2 : Int32) (x3 : Int32) (x4 : Int32) (gm : Nat → Nat → Int32), sv_Q X 9 M_Mo_may (21, [some (.ref 0), some (.int x1), some (.int x2), some (.int x3), some (.int x4)], [], (W_Mo gm)) (L_Mo_may_21 N n x1 x2 x3 x4 gm) (sv_K2 (fun (v : Int32) => (60, [none, none, some (.int x2), some (.int v), none], [], (W_Mo gm))) (sv_KR M_Mo_may (fun (x : Int32) => (some (.int x), (W_Mo gm))))) := by
  intro n
  induction n with
  | zero => intro x1 x2 x3 x4 gm; unfold L_Mo_may_21; exact sv_Q.non
  | succ n ih =>
    intro x1 x2 x3 x4 gm
    unfold L_Mo_may_21
    refine sv_Q.s (σ' := (24, [some (.ref 0), some (.int x1), some (.int x2), some (.int x3), some (.int x4)], [.ref 0, .int x4], (W_Mo gm))) 2 rfl ?_
    refine sv_Q.o (fun v3 e4 => ?_)
    refine sv_Q.V (b := 0) (av := []) (ps := [0, 1, 2, 3, 4, 5, 6, 7, 8, 9, 10, 11, 12, 13, 14, 15, 16, 17, 18, 19, 20, 21, 22]) (rest := [.int x4]) (cs1 := (W_Mo gm)) (cs2 := (W_Mo gm)) (st' := [.int v3, .int x4]) (cs' := (W_Mo gm)) (q := (24, .null, 0, 0, 0)) lk_Mo_254 (r_Mo_places N gm v3 e4) rfl rfl rfl rfl rfl (Or.inl ⟨12, _, _, rfl, rfl, rfl⟩) rfl rfl (sc_Mo_Mo_0 gm) rfl rfl (pc_Mo_Mo_0 gm gm) ?_
    refine sv_Q.b rfl (fun c5 => ?_) (fun c5 => ?_)
    · refine sv_Q.f (lo' := [none, none, some (.int x2), some (.int x3), none]) ⟨rfl, ⟨rfl, trivial⟩⟩ ?_
      exact sv_Q.z rfl
    · refine sv_Q.s (σ' := (34, [some (.ref 0), some (.int x1), some (.int x2), some (.int x3), some (.int x4)], [.int x4, .int x1, .ref 0], (W_Mo gm))) 3 rfl ?_
      refine sv_Q.o (fun v6 e7 => ?_)
      refine sv_Q.V (b := 0) (av := [.int x1, .int x4]) (ps := [0, 1, 2, 3, 4, 5, 6, 7, 8, 9, 10, 11, 12, 13, 14, 15, 16, 17, 18, 19, 20, 21, 22]) (rest := []) (cs1 := (W_Mo gm)) (cs2 := (W_Mo gm)) (st' := [.int v6]) (cs' := (W_Mo gm)) (q := (34, .null, 0, 0, 0)) lk_Mo_337 (r_Mo_whyBox N gm x1 x4 v6 e7) rfl rfl rfl rfl rfl (Or.inl ⟨12, _, _, rfl, rfl, rfl⟩) rfl rfl (sc_Mo_Mo_0 gm) rfl rfl (pc_Mo_Mo_0 gm gm) ?_
      refine sv_Q.b rfl (fun c8 => ?_) (fun c8 => ?_)
      · refine sv_Q.s (σ' := (45, [some (.ref 0), some (.int x1), some (.int x2), some (.int x3), some (.int x4)], [.int x2, .int x3], (W_Mo gm))) 2 rfl ?_
        refine sv_Q.b rfl (fun c9 => ?_) (fun c9 => ?_)
        · refine sv_Q.s (σ' := (21, [some (.ref 0), some (.int x1), some (.int x2), some (.int (x3 + (1 : Int32))), some (.int (x4 + (1 : Int32)))], [], (W_Mo gm))) 3 rfl ?_
          exact ih x1 x2 (x3 + (1 : Int32)) (x4 + (1 : Int32)) gm
        · refine sv_Q.s (σ' := (50, [some (.ref 0), some (.int x1), some (.int x2), some (.int x3), some (.int x4)], [.int x4], (W_Mo gm))) 1 rfl ?_
          exact sv_Q.z ⟨True, rfl, trivial, rfl⟩
      · refine sv_Q.s (σ' := (21, [some (.ref 0), some (.int x1), some (.int x2), some (.int x3), some (.int (x4 + (1 : Int32)))], [], (W_Mo gm))) 3 rfl ?_
        exact ih x1 x2 x3 (x4 + (1 : Int32)) gm
def F_Mo_may (N : Nat) (a0 : Int32) (a1 : Int32) (gm : Nat → Nat → Int32) : Option (Int32) := (if (F_Mo_isBox a0 gm) = 0 then (some (-2 : Int32)) else (if (-1 : Int32) ≤ a1 then (sv_bs (L_Mo_may_21 N N a0 a1 (0 : Int32) (0 : Int32) gm) id fun (v10 : Int32) => (if ¬ a1 = (-1 : Int32) then (some (-1 : Int32)) else (some v10))) else (some (-2 : Int32))))
set_option maxHeartbeats 4000000 in
set_option maxRecDepth 100000 in
theorem r_Mo_may {X : Nat × (Nat → Int32)} (N : Nat) (gm : Nat → Nat → Int32) (a0 : Int32) (a1 : Int32) : ∀ x, (F_Mo_may N a0 a1 gm) = some x → sv_R X 10 M_Mo_may [.ref 0, .int a0, .int a1] (W_Mo gm) (some (.int x)) (W_Mo gm) := by
  refine sv_Q.R (res := (fun (x : Int32) => (some (.int x), (W_Mo gm)))) g_Mo_may rfl ?_
  unfold F_Mo_may
  refine sv_Q.s (σ' := (2, [some (.ref 0), some (.int a0), some (.int a1), none, none], [.int a0, .ref 0], (W_Mo gm))) 2 rfl ?_
  refine sv_Q.V (b := 0) (av := [.int a0]) (ps := [0, 1, 2, 3, 4, 5, 6, 7, 8, 9, 10, 11, 12, 13, 14, 15, 16, 17, 18, 19, 20, 21, 22]) (rest := []) (cs1 := (W_Mo gm)) (cs2 := (W_Mo gm)) (st' := [.int (F_Mo_isBox a0 gm)]) (cs' := (W_Mo gm)) (q := (2, .null, 0, 0, 0)) lk_Mo_286 (t_Mo_isBox gm a0) rfl rfl rfl rfl rfl (Or.inl ⟨12, _, _, rfl, rfl, rfl⟩) rfl rfl (sc_Mo_Mo_0 gm) rfl rfl (pc_Mo_Mo_0 gm gm) ?_
  refine sv_Q.b rfl (fun c1 => ?_) (fun c1 => ?_)
  · refine sv_Q.s (σ' := (15, [some (.ref 0), some (.int a0), some (.int a1), none, none], [.int (-2 : Int32)], (W_Mo gm))) 1 rfl ?_
    exact sv_Q.z ⟨True, rfl, trivial, rfl⟩
  · refine sv_Q.s (σ' := (10, [some (.ref 0), some (.int a0), some (.int a1), none, none], [.int (-1 : Int32), .int a1], (W_Mo gm))) 2 rfl ?_
    refine sv_Q.b rfl (fun c2 => ?_) (fun c2 => ?_)
    · refine sv_Q.s (σ' := (21, [some (.ref 0), some (.int a0), some (.int a1), some (.int (0 : Int32)), some (.int (0 : Int32))], [], (W_Mo gm))) 4 rfl ?_
      refine sv_Q.bs (l_Mo_may_21 N N a0 a1 (0 : Int32) (0 : Int32) gm) (fun v10 => ?_) (fun r σ' h => h)
      · refine sv_Q.s (σ' := (62, [none, none, some (.int a1), some (.int v10), none], [.int (-1 : Int32), .int a1], (W_Mo gm))) 2 rfl ?_
        refine sv_Q.b rfl (fun c11 => ?_) (fun c11 => ?_)
        · refine sv_Q.s (σ' := (70, [none, none, some (.int a1), some (.int v10), none], [.int (-1 : Int32)], (W_Mo gm))) 1 rfl ?_
          exact sv_Q.z ⟨True, rfl, trivial, rfl⟩
        · refine sv_Q.s (σ' := (70, [none, none, some (.int a1), some (.int v10), none], [.int v10], (W_Mo gm))) 2 rfl ?_
          exact sv_Q.z ⟨True, rfl, trivial, rfl⟩
    · refine sv_Q.s (σ' := (15, [some (.ref 0), some (.int a0), some (.int a1), none, none], [.int (-2 : Int32)], (W_Mo gm))) 1 rfl ?_
      exact sv_Q.z ⟨True, rfl, trivial, rfl⟩
def L_Mo_keeps_12 (N : Nat) : Nat → Int32 → (Nat → Nat → Int32) → Option ((Nat → Nat → Int32))
  | 0, _, _ => none
  | n + 1, x1, gm => (if (1176 : Int32) ≤ x1 then (some gm) else (if sv_in x1 1176 then (if sv_in (x1 - (98 : Int32)) 1176 then (sv_let (sa gm 10 (x1 - (98 : Int32)) (gm 10 (x1).toNatClampNeg)) fun (gm_5 : Nat → Nat → Int32) => (L_Mo_keeps_12 N n (x1 + (1 : Int32)) gm_5)) else none) else none))
set_option maxHeartbeats 4000000 in
set_option maxRecDepth 100000 in
theorem l_Mo_keeps_12 {X : Nat × (Nat → Int32)} (N : Nat) : ∀ (n : Nat) (x1 : Int32) (gm : Nat → Nat → Int32), sv_Q X 0 M_Mo_keeps (12, [some (.ref 0), some (.int x1), none], [], (W_Mo gm)) (L_Mo_keeps_12 N n x1 gm) (fun v σ' => σ' = (40, [some (.ref 0), none, none], [], (W_Mo v))) := by
  intro n
  induction n with
  | zero => intro x1 gm; unfold L_Mo_keeps_12; exact sv_Q.non
  | succ n ih =>
    intro x1 gm
    unfold L_Mo_keeps_12
    refine sv_Q.s (σ' := (16, [some (.ref 0), some (.int x1), none], [.int (1176 : Int32), .int x1], (W_Mo gm))) 2 rfl ?_
    refine sv_Q.b rfl (fun c2 => ?_) (fun c2 => ?_)
    · refine sv_Q.f (lo' := [some (.ref 0), none, none]) ⟨rfl, trivial⟩ ?_
      exact sv_Q.z rfl
    · refine sv_Q.s (σ' := (32, [some (.ref 0), some (.int x1), none], [.int x1, .ref 10, .int (x1 - (98 : Int32)), .ref 10], (W_Mo gm))) 8 rfl ?_
      refine sv_Q.g (σ' := (33, [some (.ref 0), some (.int x1), none], [.int (gm 10 (x1).toNatClampNeg), .int (x1 - (98 : Int32)), .ref 10], (W_Mo gm))) (c := sv_in x1 1176) rfl (fun c3 => ?_)
      refine sv_Q.g (σ' := (34, [some (.ref 0), some (.int x1), none], [], (W_Mo (sa gm 10 (x1 - (98 : Int32)) (gm 10 (x1).toNatClampNeg))))) (c := sv_in (x1 - (98 : Int32)) 1176) rfl (fun c4 => ?_)
      refine sv_Q.go (fun gm_5 => (34, [some (.ref 0), some (.int x1), none], [], (W_Mo gm_5))) (fun gm_5 => ?_)
      refine sv_Q.s (σ' := (12, [some (.ref 0), some (.int (x1 + (1 : Int32))), none], [], (W_Mo gm_5))) 2 rfl ?_
      exact ih (x1 + (1 : Int32)) gm_5
def L_Mo_keeps_82 (N : Nat) : Nat → Int32 → Int32 → (Nat → Nat → Int32) → Option ((Nat → Nat → Int32))
  | 0, _, _, _ => none
  | n + 1, x1, x2, gm => (if (gm 0 6) ≤ x2 then (some gm) else (if sv_in x2 24 then (if sv_in ((x1 + (2 : Int32)) + ((4 : Int32) * x2)) 1176 then (sv_let (sa gm 10 ((x1 + (2 : Int32)) + ((4 : Int32) * x2)) (gm 4 (x2).toNatClampNeg)) fun (gm_16 : Nat → Nat → Int32) => (if sv_in x2 24 then (if sv_in ((x1 + (3 : Int32)) + ((4 : Int32) * x2)) 1176 then (sv_let (sa gm_16 10 ((x1 + (3 : Int32)) + ((4 : Int32) * x2)) (gm_16 5 (x2).toNatClampNeg)) fun (gm_19 : Nat → Nat → Int32) => (if sv_in x2 24 then (if sv_in ((x1 + (4 : Int32)) + ((4 : Int32) * x2)) 1176 then (sv_let (sa gm_19 10 ((x1 + (4 : Int32)) + ((4 : Int32) * x2)) (gm_19 6 (x2).toNatClampNeg)) fun (gm_22 : Nat → Nat → Int32) => (if sv_in x2 24 then (if sv_in ((x1 + (5 : Int32)) + ((4 : Int32) * x2)) 1176 then (sv_let (sa gm_22 10 ((x1 + (5 : Int32)) + ((4 : Int32) * x2)) (gm_22 7 (x2).toNatClampNeg)) fun (gm_25 : Nat → Nat → Int32) => (L_Mo_keeps_82 N n x1 (x2 + (1 : Int32)) gm_25)) else none) else none)) else none) else none)) else none) else none)) else none) else none))
set_option maxHeartbeats 4000000 in
set_option maxRecDepth 100000 in
theorem l_Mo_keeps_82 {X : Nat × (Nat → Int32)} (N : Nat) : ∀ (n : Nat) (x1 : Int32) (x2 : Int32) (gm : Nat → Nat → Int32), sv_Q X 0 M_Mo_keeps (82, [some (.ref 0), some (.int x1), some (.int x2)], [], (W_Mo gm)) (L_Mo_keeps_82 N n x1 x2 gm) (fun v σ' => σ' = (168, [some (.ref 0), none, none], [], (W_Mo v))) := by
  intro n
  induction n with
  | zero => intro x1 x2 gm; unfold L_Mo_keeps_82; exact sv_Q.non
  | succ n ih =>
    intro x1 x2 gm
    unfold L_Mo_keeps_82
    refine sv_Q.s (σ' := (87, [some (.ref 0), some (.int x1), some (.int x2)], [.int (gm 0 6), .int x2], (W_Mo gm))) 3 rfl ?_
    refine sv_Q.b rfl (fun c13 => ?_) (fun c13 => ?_)
    · refine sv_Q.f (lo' := [some (.ref 0), none, none]) ⟨rfl, trivial⟩ ?_
      exact sv_Q.z rfl
    · refine sv_Q.s (σ' := (106, [some (.ref 0), some (.int x1), some (.int x2)], [.int x2, .ref 4, .int ((x1 + (2 : Int32)) + ((4 : Int32) * x2)), .ref 10], (W_Mo gm))) 12 rfl ?_
      refine sv_Q.g (σ' := (107, [some (.ref 0), some (.int x1), some (.int x2)], [.int (gm 4 (x2).toNatClampNeg), .int ((x1 + (2 : Int32)) + ((4 : Int32) * x2)), .ref 10], (W_Mo gm))) (c := sv_in x2 24) rfl (fun c14 => ?_)
      refine sv_Q.g (σ' := (108, [some (.ref 0), some (.int x1), some (.int x2)], [], (W_Mo (sa gm 10 ((x1 + (2 : Int32)) + ((4 : Int32) * x2)) (gm 4 (x2).toNatClampNeg))))) (c := sv_in ((x1 + (2 : Int32)) + ((4 : Int32) * x2)) 1176) rfl (fun c15 => ?_)
      refine sv_Q.go (fun gm_16 => (108, [some (.ref 0), some (.int x1), some (.int x2)], [], (W_Mo gm_16))) (fun gm_16 => ?_)
      refine sv_Q.s (σ' := (124, [some (.ref 0), some (.int x1), some (.int x2)], [.int x2, .ref 5, .int ((x1 + (3 : Int32)) + ((4 : Int32) * x2)), .ref 10], (W_Mo gm_16))) 12 rfl ?_
      refine sv_Q.g (σ' := (125, [some (.ref 0), some (.int x1), some (.int x2)], [.int (gm_16 5 (x2).toNatClampNeg), .int ((x1 + (3 : Int32)) + ((4 : Int32) * x2)), .ref 10], (W_Mo gm_16))) (c := sv_in x2 24) rfl (fun c17 => ?_)
      refine sv_Q.g (σ' := (126, [some (.ref 0), some (.int x1), some (.int x2)], [], (W_Mo (sa gm_16 10 ((x1 + (3 : Int32)) + ((4 : Int32) * x2)) (gm_16 5 (x2).toNatClampNeg))))) (c := sv_in ((x1 + (3 : Int32)) + ((4 : Int32) * x2)) 1176) rfl (fun c18 => ?_)
      refine sv_Q.go (fun gm_19 => (126, [some (.ref 0), some (.int x1), some (.int x2)], [], (W_Mo gm_19))) (fun gm_19 => ?_)
      refine sv_Q.s (σ' := (142, [some (.ref 0), some (.int x1), some (.int x2)], [.int x2, .ref 6, .int ((x1 + (4 : Int32)) + ((4 : Int32) * x2)), .ref 10], (W_Mo gm_19))) 12 rfl ?_
      refine sv_Q.g (σ' := (143, [some (.ref 0), some (.int x1), some (.int x2)], [.int (gm_19 6 (x2).toNatClampNeg), .int ((x1 + (4 : Int32)) + ((4 : Int32) * x2)), .ref 10], (W_Mo gm_19))) (c := sv_in x2 24) rfl (fun c20 => ?_)
      refine sv_Q.g (σ' := (144, [some (.ref 0), some (.int x1), some (.int x2)], [], (W_Mo (sa gm_19 10 ((x1 + (4 : Int32)) + ((4 : Int32) * x2)) (gm_19 6 (x2).toNatClampNeg))))) (c := sv_in ((x1 + (4 : Int32)) + ((4 : Int32) * x2)) 1176) rfl (fun c21 => ?_)
      refine sv_Q.go (fun gm_22 => (144, [some (.ref 0), some (.int x1), some (.int x2)], [], (W_Mo gm_22))) (fun gm_22 => ?_)
      refine sv_Q.s (σ' := (160, [some (.ref 0), some (.int x1), some (.int x2)], [.int x2, .ref 7, .int ((x1 + (5 : Int32)) + ((4 : Int32) * x2)), .ref 10], (W_Mo gm_22))) 12 rfl ?_
      refine sv_Q.g (σ' := (161, [some (.ref 0), some (.int x1), some (.int x2)], [.int (gm_22 7 (x2).toNatClampNeg), .int ((x1 + (5 : Int32)) + ((4 : Int32) * x2)), .ref 10], (W_Mo gm_22))) (c := sv_in x2 24) rfl (fun c23 => ?_)
      refine sv_Q.g (σ' := (162, [some (.ref 0), some (.int x1), some (.int x2)], [], (W_Mo (sa gm_22 10 ((x1 + (5 : Int32)) + ((4 : Int32) * x2)) (gm_22 7 (x2).toNatClampNeg))))) (c := sv_in ((x1 + (5 : Int32)) + ((4 : Int32) * x2)) 1176) rfl (fun c24 => ?_)
      refine sv_Q.go (fun gm_25 => (162, [some (.ref 0), some (.int x1), some (.int x2)], [], (W_Mo gm_25))) (fun gm_25 => ?_)
      refine sv_Q.s (σ' := (82, [some (.ref 0), some (.int x1), some (.int (x2 + (1 : Int32)))], [], (W_Mo gm_25))) 2 rfl ?_
      exact ih x1 (x2 + (1 : Int32)) gm_25
def F_Mo_keeps (N : Nat) (gm : Nat → Nat → Int32) : Option ((Nat → Nat → Int32)) := (Option.bind (if ¬ (gm 0 22) = (12 : Int32) then some gm else (Option.bind (L_Mo_keeps_12 N N (98 : Int32) gm) fun (v6 : (Nat → Nat → Int32)) => (sv_let (ss v6 22 ((v6 0 22) - (1 : Int32))) fun (gm_7 : Nat → Nat → Int32) => some gm_7))) fun (v8 : (Nat → Nat → Int32)) => (if sv_in ((98 : Int32) * (v8 0 22)) 1176 then (sv_let (sa v8 10 ((98 : Int32) * (v8 0 22)) (v8 0 6)) fun (gm_10 : Nat → Nat → Int32) => (if sv_in (((98 : Int32) * (v8 0 22)) + (1 : Int32)) 1176 then (sv_let (sa gm_10 10 (((98 : Int32) * (v8 0 22)) + (1 : Int32)) (gm_10 0 11)) fun (gm_12 : Nat → Nat → Int32) => (Option.bind (L_Mo_keeps_82 N N ((98 : Int32) * (v8 0 22)) (0 : Int32) gm_12) fun (v26 : (Nat → Nat → Int32)) => (sv_let (ss v26 22 ((v26 0 22) + (1 : Int32))) fun (gm_27 : Nat → Nat → Int32) => (some gm_27)))) else none)) else none))
set_option maxHeartbeats 4000000 in
set_option maxRecDepth 100000 in
theorem r_Mo_keeps {X : Nat × (Nat → Int32)} (N : Nat) (gm : Nat → Nat → Int32) : ∀ x, (F_Mo_keeps N gm) = some x → sv_R X 1 M_Mo_keeps [.ref 0] (W_Mo gm) none (W_Mo x) := by
  refine sv_Q.R (res := (fun (x : (Nat → Nat → Int32)) => ((none : Option Value), (W_Mo x)))) g_Mo_keeps rfl ?_
  unfold F_Mo_keeps
  refine sv_Q.s (σ' := (6, [some (.ref 0), none, none], [.int (12 : Int32), .int (gm 0 22)], (W_Mo gm))) 3 rfl ?_
  refine sv_Q.lo (fun v8 => (50, [some (.ref 0), none, none], [], (W_Mo v8))) (fun v8 => ?_) ?_
  · refine sv_Q.s (σ' := (67, [some (.ref 0), some (.int ((98 : Int32) * (v8 0 22))), none], [.int (v8 0 6), .int ((98 : Int32) * (v8 0 22)), .ref 10], (W_Mo v8))) 10 rfl ?_
    refine sv_Q.g (σ' := (68, [some (.ref 0), some (.int ((98 : Int32) * (v8 0 22))), none], [], (W_Mo (sa v8 10 ((98 : Int32) * (v8 0 22)) (v8 0 6))))) (c := sv_in ((98 : Int32) * (v8 0 22)) 1176) rfl (fun c9 => ?_)
    refine sv_Q.go (fun gm_10 => (68, [some (.ref 0), some (.int ((98 : Int32) * (v8 0 22))), none], [], (W_Mo gm_10))) (fun gm_10 => ?_)
    refine sv_Q.s (σ' := (79, [some (.ref 0), some (.int ((98 : Int32) * (v8 0 22))), none], [.int (gm_10 0 11), .int (((98 : Int32) * (v8 0 22)) + (1 : Int32)), .ref 10], (W_Mo gm_10))) 7 rfl ?_
    refine sv_Q.g (σ' := (80, [some (.ref 0), some (.int ((98 : Int32) * (v8 0 22))), none], [], (W_Mo (sa gm_10 10 (((98 : Int32) * (v8 0 22)) + (1 : Int32)) (gm_10 0 11))))) (c := sv_in (((98 : Int32) * (v8 0 22)) + (1 : Int32)) 1176) rfl (fun c11 => ?_)
    refine sv_Q.go (fun gm_12 => (80, [some (.ref 0), some (.int ((98 : Int32) * (v8 0 22))), none], [], (W_Mo gm_12))) (fun gm_12 => ?_)
    refine sv_Q.s (σ' := (82, [some (.ref 0), some (.int ((98 : Int32) * (v8 0 22))), some (.int (0 : Int32))], [], (W_Mo gm_12))) 2 rfl ?_
    refine sv_Q.lo (fun v26 => (168, [some (.ref 0), none, none], [], (W_Mo v26))) (fun v26 => ?_) (l_Mo_keeps_82 N N ((98 : Int32) * (v8 0 22)) (0 : Int32) gm_12)
    · refine sv_Q.s (σ' := (178, [some (.ref 0), none, none], [], (W_Mo (ss v26 22 ((v26 0 22) + (1 : Int32)))))) 6 rfl ?_
      refine sv_Q.go (fun gm_27 => (178, [some (.ref 0), none, none], [], (W_Mo gm_27))) (fun gm_27 => ?_)
      exact sv_Q.z ⟨True, rfl, trivial, rfl⟩
  · refine sv_Q.b rfl (fun c1 => ?_) (fun c1 => ?_)
    · exact sv_Q.z rfl
    · refine sv_Q.s (σ' := (12, [some (.ref 0), some (.int (98 : Int32)), none], [], (W_Mo gm))) 2 rfl ?_
      refine sv_Q.lo (fun v6 => (40, [some (.ref 0), none, none], [], (W_Mo v6))) (fun v6 => ?_) (l_Mo_keeps_12 N N (98 : Int32) gm)
      · refine sv_Q.s (σ' := (50, [some (.ref 0), none, none], [], (W_Mo (ss v6 22 ((v6 0 22) - (1 : Int32)))))) 6 rfl ?_
        refine sv_Q.go (fun gm_7 => (50, [some (.ref 0), none, none], [], (W_Mo gm_7))) (fun gm_7 => ?_)
        exact sv_Q.z rfl
def L_Mo_undo_51 (N : Nat) : Nat → Int32 → Int32 → (Nat → Nat → Int32) → Option ((Nat → Nat → Int32))
  | 0, _, _, _ => none
  | n + 1, x1, x2, gm => (if (gm 0 6) ≤ x2 then (some gm) else (if sv_in ((x1 + (2 : Int32)) + ((4 : Int32) * x2)) 1176 then (if sv_in x2 24 then (sv_let (sa gm 4 x2 (gm 10 (((x1 + (2 : Int32)) + ((4 : Int32) * x2))).toNatClampNeg)) fun (gm_10 : Nat → Nat → Int32) => (if sv_in ((x1 + (3 : Int32)) + ((4 : Int32) * x2)) 1176 then (if sv_in x2 24 then (sv_let (sa gm_10 5 x2 (gm_10 10 (((x1 + (3 : Int32)) + ((4 : Int32) * x2))).toNatClampNeg)) fun (gm_13 : Nat → Nat → Int32) => (if sv_in ((x1 + (4 : Int32)) + ((4 : Int32) * x2)) 1176 then (if sv_in x2 24 then (sv_let (sa gm_13 6 x2 (gm_13 10 (((x1 + (4 : Int32)) + ((4 : Int32) * x2))).toNatClampNeg)) fun (gm_16 : Nat → Nat → Int32) => (if sv_in ((x1 + (5 : Int32)) + ((4 : Int32) * x2)) 1176 then (if sv_in x2 24 then (sv_let (sa gm_16 7 x2 (gm_16 10 (((x1 + (5 : Int32)) + ((4 : Int32) * x2))).toNatClampNeg)) fun (gm_19 : Nat → Nat → Int32) => (L_Mo_undo_51 N n x1 (x2 + (1 : Int32)) gm_19)) else none) else none)) else none) else none)) else none) else none)) else none) else none))
set_option maxHeartbeats 4000000 in
set_option maxRecDepth 100000 in
theorem l_Mo_undo_51 {X : Nat × (Nat → Int32)} (N : Nat) : ∀ (n : Nat) (x1 : Int32) (x2 : Int32) (gm : Nat → Nat → Int32), sv_Q X 1 M_Mo_undo (51, [some (.ref 0), some (.int x1), some (.int x2)], [], (W_Mo gm)) (L_Mo_undo_51 N n x1 x2 gm) (fun v σ' => σ' = (137, [some (.ref 0), none, none], [], (W_Mo v))) := by
  intro n
  induction n with
  | zero => intro x1 x2 gm; unfold L_Mo_undo_51; exact sv_Q.non
  | succ n ih =>
    intro x1 x2 gm
    unfold L_Mo_undo_51
    refine sv_Q.s (σ' := (56, [some (.ref 0), some (.int x1), some (.int x2)], [.int (gm 0 6), .int x2], (W_Mo gm))) 3 rfl ?_
    refine sv_Q.b rfl (fun c7 => ?_) (fun c7 => ?_)
    · refine sv_Q.f (lo' := [some (.ref 0), none, none]) ⟨rfl, trivial⟩ ?_
      exact sv_Q.z rfl
    · refine sv_Q.s (σ' := (75, [some (.ref 0), some (.int x1), some (.int x2)], [.int ((x1 + (2 : Int32)) + ((4 : Int32) * x2)), .ref 10, .int x2, .ref 4], (W_Mo gm))) 12 rfl ?_
      refine sv_Q.g (σ' := (76, [some (.ref 0), some (.int x1), some (.int x2)], [.int (gm 10 (((x1 + (2 : Int32)) + ((4 : Int32) * x2))).toNatClampNeg), .int x2, .ref 4], (W_Mo gm))) (c := sv_in ((x1 + (2 : Int32)) + ((4 : Int32) * x2)) 1176) rfl (fun c8 => ?_)
      refine sv_Q.g (σ' := (77, [some (.ref 0), some (.int x1), some (.int x2)], [], (W_Mo (sa gm 4 x2 (gm 10 (((x1 + (2 : Int32)) + ((4 : Int32) * x2))).toNatClampNeg))))) (c := sv_in x2 24) rfl (fun c9 => ?_)
      refine sv_Q.go (fun gm_10 => (77, [some (.ref 0), some (.int x1), some (.int x2)], [], (W_Mo gm_10))) (fun gm_10 => ?_)
      refine sv_Q.s (σ' := (93, [some (.ref 0), some (.int x1), some (.int x2)], [.int ((x1 + (3 : Int32)) + ((4 : Int32) * x2)), .ref 10, .int x2, .ref 5], (W_Mo gm_10))) 12 rfl ?_
      refine sv_Q.g (σ' := (94, [some (.ref 0), some (.int x1), some (.int x2)], [.int (gm_10 10 (((x1 + (3 : Int32)) + ((4 : Int32) * x2))).toNatClampNeg), .int x2, .ref 5], (W_Mo gm_10))) (c := sv_in ((x1 + (3 : Int32)) + ((4 : Int32) * x2)) 1176) rfl (fun c11 => ?_)
      refine sv_Q.g (σ' := (95, [some (.ref 0), some (.int x1), some (.int x2)], [], (W_Mo (sa gm_10 5 x2 (gm_10 10 (((x1 + (3 : Int32)) + ((4 : Int32) * x2))).toNatClampNeg))))) (c := sv_in x2 24) rfl (fun c12 => ?_)
      refine sv_Q.go (fun gm_13 => (95, [some (.ref 0), some (.int x1), some (.int x2)], [], (W_Mo gm_13))) (fun gm_13 => ?_)
      refine sv_Q.s (σ' := (111, [some (.ref 0), some (.int x1), some (.int x2)], [.int ((x1 + (4 : Int32)) + ((4 : Int32) * x2)), .ref 10, .int x2, .ref 6], (W_Mo gm_13))) 12 rfl ?_
      refine sv_Q.g (σ' := (112, [some (.ref 0), some (.int x1), some (.int x2)], [.int (gm_13 10 (((x1 + (4 : Int32)) + ((4 : Int32) * x2))).toNatClampNeg), .int x2, .ref 6], (W_Mo gm_13))) (c := sv_in ((x1 + (4 : Int32)) + ((4 : Int32) * x2)) 1176) rfl (fun c14 => ?_)
      refine sv_Q.g (σ' := (113, [some (.ref 0), some (.int x1), some (.int x2)], [], (W_Mo (sa gm_13 6 x2 (gm_13 10 (((x1 + (4 : Int32)) + ((4 : Int32) * x2))).toNatClampNeg))))) (c := sv_in x2 24) rfl (fun c15 => ?_)
      refine sv_Q.go (fun gm_16 => (113, [some (.ref 0), some (.int x1), some (.int x2)], [], (W_Mo gm_16))) (fun gm_16 => ?_)
      refine sv_Q.s (σ' := (129, [some (.ref 0), some (.int x1), some (.int x2)], [.int ((x1 + (5 : Int32)) + ((4 : Int32) * x2)), .ref 10, .int x2, .ref 7], (W_Mo gm_16))) 12 rfl ?_
      refine sv_Q.g (σ' := (130, [some (.ref 0), some (.int x1), some (.int x2)], [.int (gm_16 10 (((x1 + (5 : Int32)) + ((4 : Int32) * x2))).toNatClampNeg), .int x2, .ref 7], (W_Mo gm_16))) (c := sv_in ((x1 + (5 : Int32)) + ((4 : Int32) * x2)) 1176) rfl (fun c17 => ?_)
      refine sv_Q.g (σ' := (131, [some (.ref 0), some (.int x1), some (.int x2)], [], (W_Mo (sa gm_16 7 x2 (gm_16 10 (((x1 + (5 : Int32)) + ((4 : Int32) * x2))).toNatClampNeg))))) (c := sv_in x2 24) rfl (fun c18 => ?_)
      refine sv_Q.go (fun gm_19 => (131, [some (.ref 0), some (.int x1), some (.int x2)], [], (W_Mo gm_19))) (fun gm_19 => ?_)
      refine sv_Q.s (σ' := (51, [some (.ref 0), some (.int x1), some (.int (x2 + (1 : Int32)))], [], (W_Mo gm_19))) 2 rfl ?_
      exact ih x1 (x2 + (1 : Int32)) gm_19
def F_Mo_undo (N : Nat) (gm : Nat → Nat → Int32) : Option (Int32 × (Nat → Nat → Int32)) := (if ¬ (gm 0 22) = 0 then (sv_let (ss gm 22 ((gm 0 22) - (1 : Int32))) fun (gm_2 : Nat → Nat → Int32) => (if sv_in ((98 : Int32) * (gm_2 0 22)) 1176 then (sv_let (ss gm_2 6 (gm_2 10 (((98 : Int32) * (gm_2 0 22))).toNatClampNeg)) fun (gm_4 : Nat → Nat → Int32) => (if sv_in (((98 : Int32) * (gm_2 0 22)) + (1 : Int32)) 1176 then (sv_let (ss gm_4 11 (gm_4 10 ((((98 : Int32) * (gm_2 0 22)) + (1 : Int32))).toNatClampNeg)) fun (gm_6 : Nat → Nat → Int32) => (Option.bind (L_Mo_undo_51 N N ((98 : Int32) * (gm_2 0 22)) (0 : Int32) gm_6) fun (v20 : (Nat → Nat → Int32)) => (Option.bind (F_Mo_laysPlaces N v20) fun (v21 : (Nat → Nat → Int32)) => (some ((v21 0 22), v21))))) else none)) else none)) else (some ((-1 : Int32), gm)))
set_option maxHeartbeats 4000000 in
set_option maxRecDepth 100000 in
theorem r_Mo_undo {X : Nat × (Nat → Int32)} (N : Nat) (gm : Nat → Nat → Int32) : ∀ x, (F_Mo_undo N gm) = some x → sv_R X 2 M_Mo_undo [.ref 0] (W_Mo gm) (some (.int x.1)) (W_Mo x.2) := by
  refine sv_Q.R (res := (fun (x : Int32 × (Nat → Nat → Int32)) => (some (.int x.1), (W_Mo x.2)))) g_Mo_undo rfl ?_
  unfold F_Mo_undo
  refine sv_Q.s (σ' := (4, [some (.ref 0), none, none], [.int (gm 0 22)], (W_Mo gm))) 2 rfl ?_
  refine sv_Q.b rfl (fun c1 => ?_) (fun c1 => ?_)
  · refine sv_Q.s (σ' := (19, [some (.ref 0), none, none], [], (W_Mo (ss gm 22 ((gm 0 22) - (1 : Int32)))))) 6 rfl ?_
    refine sv_Q.go (fun gm_2 => (19, [some (.ref 0), none, none], [], (W_Mo gm_2))) (fun gm_2 => ?_)
    refine sv_Q.s (σ' := (33, [some (.ref 0), some (.int ((98 : Int32) * (gm_2 0 22))), none], [.int ((98 : Int32) * (gm_2 0 22)), .ref 10, .ref 0], (W_Mo gm_2))) 9 rfl ?_
    refine sv_Q.g (σ' := (34, [some (.ref 0), some (.int ((98 : Int32) * (gm_2 0 22))), none], [.int (gm_2 10 (((98 : Int32) * (gm_2 0 22))).toNatClampNeg), .ref 0], (W_Mo gm_2))) (c := sv_in ((98 : Int32) * (gm_2 0 22)) 1176) rfl (fun c3 => ?_)
    refine sv_Q.s (σ' := (37, [some (.ref 0), some (.int ((98 : Int32) * (gm_2 0 22))), none], [], (W_Mo (ss gm_2 6 (gm_2 10 (((98 : Int32) * (gm_2 0 22))).toNatClampNeg))))) 1 rfl ?_
    refine sv_Q.go (fun gm_4 => (37, [some (.ref 0), some (.int ((98 : Int32) * (gm_2 0 22))), none], [], (W_Mo gm_4))) (fun gm_4 => ?_)
    refine sv_Q.s (σ' := (45, [some (.ref 0), some (.int ((98 : Int32) * (gm_2 0 22))), none], [.int (((98 : Int32) * (gm_2 0 22)) + (1 : Int32)), .ref 10, .ref 0], (W_Mo gm_4))) 6 rfl ?_
    refine sv_Q.g (σ' := (46, [some (.ref 0), some (.int ((98 : Int32) * (gm_2 0 22))), none], [.int (gm_4 10 ((((98 : Int32) * (gm_2 0 22)) + (1 : Int32))).toNatClampNeg), .ref 0], (W_Mo gm_4))) (c := sv_in (((98 : Int32) * (gm_2 0 22)) + (1 : Int32)) 1176) rfl (fun c5 => ?_)
    refine sv_Q.s (σ' := (49, [some (.ref 0), some (.int ((98 : Int32) * (gm_2 0 22))), none], [], (W_Mo (ss gm_4 11 (gm_4 10 ((((98 : Int32) * (gm_2 0 22)) + (1 : Int32))).toNatClampNeg))))) 1 rfl ?_
    refine sv_Q.go (fun gm_6 => (49, [some (.ref 0), some (.int ((98 : Int32) * (gm_2 0 22))), none], [], (W_Mo gm_6))) (fun gm_6 => ?_)
    refine sv_Q.s (σ' := (51, [some (.ref 0), some (.int ((98 : Int32) * (gm_2 0 22))), some (.int (0 : Int32))], [], (W_Mo gm_6))) 2 rfl ?_
    refine sv_Q.lo (fun v20 => (137, [some (.ref 0), none, none], [], (W_Mo v20))) (fun v20 => ?_) (l_Mo_undo_51 N N ((98 : Int32) * (gm_2 0 22)) (0 : Int32) gm_6)
    · refine sv_Q.s (σ' := (138, [some (.ref 0), none, none], [.ref 0], (W_Mo v20))) 1 rfl ?_
      refine sv_Q.o (fun v21 e22 => ?_)
      refine sv_Q.V (b := 0) (av := []) (ps := [0, 1, 2, 3, 4, 5, 6, 7, 8, 9, 10, 11, 12, 13, 14, 15, 16, 17, 18, 19, 20, 21, 22]) (rest := []) (cs1 := (W_Mo v20)) (cs2 := (W_Mo v21)) (st' := []) (cs' := (W_Mo v21)) (q := (138, .null, 0, 0, 0)) lk_Mo_242 (r_Mo_laysPlaces N v20 v21 e22) rfl rfl rfl rfl rfl (Or.inl ⟨12, _, _, rfl, rfl, rfl⟩) rfl rfl (sc_Mo_Mo_0 v20) rfl rfl (pc_Mo_Mo_0 v20 v21) ?_
      refine sv_Q.s (σ' := (145, [some (.ref 0), none, none], [.int (v21 0 22)], (W_Mo v21))) 2 rfl ?_
      exact sv_Q.z ⟨True, rfl, trivial, rfl⟩
  · refine sv_Q.s (σ' := (8, [some (.ref 0), none, none], [.int (-1 : Int32)], (W_Mo gm))) 1 rfl ?_
    exact sv_Q.z ⟨True, rfl, trivial, rfl⟩
