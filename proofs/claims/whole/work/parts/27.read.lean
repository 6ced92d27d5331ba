/-! reader, by program out of the listing -/
theorem pc_Read_Tape_1 (hd ht hv hh hr hc n0 : Nat → Nat → Int32) : sv_pt [1, 2] ((W_Tape n0).map (sv_r (sv_pi [1, 2]))) 0 (W_Read hd ht hv hh hr hc) = W_Read hd n0 hv hh hr hc := rfl
theorem sc_Read_Tape_1 (hd ht hv hh hr hc : Nat → Nat → Int32) : sv_sub [1, 2] (W_Read hd ht hv hh hr hc) (W_Tape ht) := rfl
theorem pc_Read_Read_0 (hd ht hv hh hr hc n0 n1 n2 n3 n4 n5 : Nat → Nat → Int32) : sv_pt [0, 1, 2, 3, 4, 5, 6, 7, 8, 9, 10, 11, 12, 13, 14, 15, 16, 17, 18, 19, 20, 21, 22, 23, 24] ((W_Read n0 n1 n2 n3 n4 n5).map (sv_r (sv_pi [0, 1, 2, 3, 4, 5, 6, 7, 8, 9, 10, 11, 12, 13, 14, 15, 16, 17, 18, 19, 20, 21, 22, 23, 24]))) 0 (W_Read hd ht hv hh hr hc) = W_Read n0 n1 n2 n3 n4 n5 := rfl
theorem sc_Read_Read_0 (hd ht hv hh hr hc : Nat → Nat → Int32) : sv_sub [0, 1, 2, 3, 4, 5, 6, 7, 8, 9, 10, 11, 12, 13, 14, 15, 16, 17, 18, 19, 20, 21, 22, 23, 24] (W_Read hd ht hv hh hr hc) (W_Read hd ht hv hh hr hc) := rfl
theorem pc_Read_Hull_3 (hd ht hv hh hr hc n0 : Nat → Nat → Int32) : sv_pt [5, 6, 7, 8, 9, 10] ((W_Hull n0).map (sv_r (sv_pi [5, 6, 7, 8, 9, 10]))) 0 (W_Read hd ht hv hh hr hc) = W_Read hd ht hv n0 hr hc := rfl
theorem sc_Read_Hull_3 (hd ht hv hh hr hc : Nat → Nat → Int32) : sv_sub [5, 6, 7, 8, 9, 10] (W_Read hd ht hv hh hr hc) (W_Hull hh) := rfl
theorem pc_Read_Rules_4 (hd ht hv hh hr hc n0 : Nat → Nat → Int32) : sv_pt [11, 12, 13, 14, 15, 16, 17, 18] ((W_Rules n0).map (sv_r (sv_pi [11, 12, 13, 14, 15, 16, 17, 18]))) 0 (W_Read hd ht hv hh hr hc) = W_Read hd ht hv hh n0 hc := rfl
theorem sc_Read_Rules_4 (hd ht hv hh hr hc : Nat → Nat → Int32) : sv_sub [11, 12, 13, 14, 15, 16, 17, 18] (W_Read hd ht hv hh hr hc) (W_Rules hr) := rfl
theorem pc_Read_Cargo_5 (hd ht hv hh hr hc n0 : Nat → Nat → Int32) : sv_pt [19, 20, 21, 22, 23, 24] ((W_Cargo n0).map (sv_r (sv_pi [19, 20, 21, 22, 23, 24]))) 0 (W_Read hd ht hv hh hr hc) = W_Read hd ht hv hh hr n0 := rfl
theorem sc_Read_Cargo_5 (hd ht hv hh hr hc : Nat → Nat → Int32) : sv_sub [19, 20, 21, 22, 23, 24] (W_Read hd ht hv hh hr hc) (W_Cargo hc) := rfl
theorem pc_Read_Ves_2 (hd ht hv hh hr hc n0 n1 n2 n3 : Nat → Nat → Int32) : sv_pt [3, 4, 5, 6, 7, 8, 9, 10, 11, 12, 13, 14, 15, 16, 17, 18, 19, 20, 21, 22, 23, 24] ((W_Ves n0 n1 n2 n3).map (sv_r (sv_pi [3, 4, 5, 6, 7, 8, 9, 10, 11, 12, 13, 14, 15, 16, 17, 18, 19, 20, 21, 22, 23, 24]))) 0 (W_Read hd ht hv hh hr hc) = W_Read hd ht n0 n1 n2 n3 := rfl
theorem sc_Read_Ves_2 (hd ht hv hh hr hc : Nat → Nat → Int32) : sv_sub [3, 4, 5, 6, 7, 8, 9, 10, 11, 12, 13, 14, 15, 16, 17, 18, 19, 20, 21, 22, 23, 24] (W_Read hd ht hv hh hr hc) (W_Ves hv hh hr hc) := rfl
def F_Read_fail (a0 : Int32) (hd ht : Nat → Nat → Int32) : (Nat → Nat → Int32) := (if ¬ (hd 0 0) = 0 then hd else (sv_let (ss hd 0 a0) fun (hd_2 : Nat → Nat → Int32) => (sv_let (ss hd_2 1 (ht 0 3)) fun (hd_3 : Nat → Nat → Int32) => hd_3)))
theorem r_Read_fail {X : Nat × (Nat → Int32)} (hd ht hv hh hr hc : Nat → Nat → Int32) (a0 : Int32) : ∀ x, some (F_Read_fail a0 hd ht) = some x → sv_R X 1 M_Read_fail [.ref 0, .int a0] (W_Read hd ht hv hh hr hc) none (W_Read x ht hv hh hr hc) := by
  refine sv_Q.R (res := (fun (x : (Nat → Nat → Int32)) => ((none : Option Value), (W_Read x ht hv hh hr hc)))) g_Read_fail rfl ?_
  unfold F_Read_fail
  refine sv_Q.s (σ' := (4, [some (.ref 0), some (.int a0)], [.int (hd 0 0)], (W_Read hd ht hv hh hr hc))) 2 rfl ?_
  refine sv_Q.sb rfl (fun c1 => ?_) (fun c1 => ?_)
  · exact sv_Q.z ⟨True, rfl, trivial, rfl⟩
  · refine sv_Q.s (σ' := (12, [some (.ref 0), some (.int a0)], [], (W_Read (ss hd 0 a0) ht hv hh hr hc))) 3 rfl ?_
    refine sv_Q.gs (fun hd_2 => (12, [some (.ref 0), some (.int a0)], [], (W_Read hd_2 ht hv hh hr hc))) (fun hd_2 => ?_)
    refine sv_Q.s (σ' := (23, [some (.ref 0), some (.int a0)], [], (W_Read (ss hd_2 1 (ht 0 3)) ht hv hh hr hc))) 5 rfl ?_
    refine sv_Q.gs (fun hd_3 => (23, [some (.ref 0), some (.int a0)], [], (W_Read hd_3 ht hv hh hr hc))) (fun hd_3 => ?_)
    exact sv_Q.z ⟨True, rfl, trivial, rfl⟩
theorem t_Read_fail {X : Nat × (Nat → Int32)} (hd ht hv hh hr hc : Nat → Nat → Int32) (a0 : Int32) : sv_R X 1 M_Read_fail [.ref 0, .int a0] (W_Read hd ht hv hh hr hc) none (W_Read (F_Read_fail a0 hd ht) ht hv hh hr hc) := r_Read_fail hd ht hv hh hr hc a0 _ rfl
def F_Read_skipWord (N : Nat) (a0 : Nat) (hd ht : Nat → Nat → Int32) : Option ((Nat → Nat → Int32) × (Nat → Nat → Int32)) := (Option.bind (F_Tape_isWord N a0 ht) fun (v1 : Int32) => (sv_let (if ¬ v1 = 0 then hd else (sv_let (F_Read_fail (1 : Int32) hd ht) fun (hd_4 : Nat → Nat → Int32) => hd_4)) fun (v5 : (Nat → Nat → Int32)) => (Option.bind (F_Tape_advance N ht) fun (v6 : (Nat → Nat → Int32)) => (some (v5, v6)))))
theorem r_Read_skipWord {X : Nat × (Nat → Int32)} (N : Nat) (hd ht hv hh hr hc : Nat → Nat → Int32) (a0 : Nat) : ∀ x, (F_Read_skipWord N a0 hd ht) = some x → sv_R X 9 M_Read_skipWord [.ref 0, .ref (a0 + 1000)] (W_Read hd ht hv hh hr hc) none (W_Read x.1 x.2 hv hh hr hc) := by
  refine sv_Q.R (res := (fun (x : (Nat → Nat → Int32) × (Nat → Nat → Int32)) => ((none : Option Value), (W_Read x.1 x.2 hv hh hr hc)))) g_Read_skipWord rfl ?_
  unfold F_Read_skipWord
  refine sv_Q.s (σ' := (5, [some (.ref 0), some (.ref (a0 + 1000))], [.ref (a0 + 1000), .ref 1], (W_Read hd ht hv hh hr hc))) 3 rfl ?_
  refine sv_Q.o (fun v1 e2 => ?_)
  refine sv_Q.V (b := 0) (av := [.ref (a0 + 1000)]) (ps := [1, 2]) (rest := []) (cs1 := (W_Tape ht)) (cs2 := (W_Tape ht)) (st' := [.int v1]) (cs' := (W_Read hd ht hv hh hr hc)) (q := (5, .null, 0, 0, 0)) lk_Read_90 (r_Tape_isWord N ht a0 v1 e2) rfl rfl rfl rfl rfl (Or.inl ⟨9, _, _, rfl, rfl, rfl⟩) rfl rfl (sc_Read_Tape_1 hd ht hv hh hr hc) rfl rfl (pc_Read_Tape_1 hd ht hv hh hr hc ht) ?_
  refine sv_Q.l (fun v5 => (16, [some (.ref 0), none], [], (W_Read v5 ht hv hh hr hc))) (fun v5 => ?_) ?_
  · refine sv_Q.s (σ' := (20, [some (.ref 0), none], [.ref 1], (W_Read v5 ht hv hh hr hc))) 2 rfl ?_
    refine sv_Q.o (fun v6 e7 => ?_)
    refine sv_Q.V (b := 0) (av := []) (ps := [1, 2]) (rest := []) (cs1 := (W_Tape ht)) (cs2 := (W_Tape v6)) (st' := []) (cs' := (W_Read v5 v6 hv hh hr hc)) (q := (20, .null, 0, 0, 0)) lk_Read_75 (r_Tape_advance N ht v6 e7) rfl rfl rfl rfl rfl (Or.inl ⟨9, _, _, rfl, rfl, rfl⟩) rfl rfl (sc_Read_Tape_1 v5 ht hv hh hr hc) rfl rfl (pc_Read_Tape_1 v5 ht hv hh hr hc v6) ?_
    exact sv_Q.z ⟨True, rfl, trivial, rfl⟩
  · refine sv_Q.sb rfl (fun c3 => ?_) (fun c3 => ?_)
    · refine sv_Q.f (lo' := [some (.ref 0), none]) ⟨rfl, trivial⟩ ?_
      exact sv_Q.z rfl
    · refine sv_Q.s (σ' := (13, [some (.ref 0), some (.ref (a0 + 1000))], [.int (1 : Int32), .ref 0], (W_Read hd ht hv hh hr hc))) 2 rfl ?_
      refine sv_Q.V (b := 0) (av := [.int (1 : Int32)]) (ps := [0, 1, 2, 3, 4, 5, 6, 7, 8, 9, 10, 11, 12, 13, 14, 15, 16, 17, 18, 19, 20, 21, 22, 23, 24]) (rest := []) (cs1 := (W_Read hd ht hv hh hr hc)) (cs2 := (W_Read (F_Read_fail (1 : Int32) hd ht) ht hv hh hr hc)) (st' := []) (cs' := (W_Read (F_Read_fail (1 : Int32) hd ht) ht hv hh hr hc)) (q := (13, .null, 0, 0, 0)) lk_Read_71 (t_Read_fail hd ht hv hh hr hc (1 : Int32)) rfl rfl rfl rfl rfl (Or.inl ⟨5, _, _, rfl, rfl, rfl⟩) rfl rfl (sc_Read_Read_0 hd ht hv hh hr hc) rfl rfl (pc_Read_Read_0 hd ht hv hh hr hc (F_Read_fail (1 : Int32) hd ht) ht hv hh hr hc) ?_
      refine sv_Q.gs (fun hd_4 => (16, [some (.ref 0), some (.ref (a0 + 1000))], [], (W_Read hd_4 ht hv hh hr hc))) (fun hd_4 => ?_)
      refine sv_Q.f (lo' := [some (.ref 0), none]) ⟨rfl, trivial⟩ ?_
      exact sv_Q.z rfl
def F_Read_seeNumber (a0 : Int32) (a1 : Int32) (hd ht : Nat → Nat → Int32) : Int32 × (Nat → Nat → Int32) := (if (ht 0 2) = (2 : Int32) then (if ¬ (F_K_within (ht 0 4) a0 a1) = 0 then ((ht 0 4), hd) else (sv_let (F_Read_fail (2 : Int32) hd ht) fun (hd_3 : Nat → Nat → Int32) => ((ht 0 4), hd_3))) else (sv_let (F_Read_fail (1 : Int32) hd ht) fun (hd_4 : Nat → Nat → Int32) => ((ht 0 4), hd_4)))
theorem r_Read_seeNumber {X : Nat × (Nat → Int32)} (hd ht hv hh hr hc : Nat → Nat → Int32) (a0 : Int32) (a1 : Int32) : ∀ x, some (F_Read_seeNumber a0 a1 hd ht) = some x → sv_R X 2 M_Read_seeNumber [.ref 0, .int a0, .int a1] (W_Read hd ht hv hh hr hc) (some (.int x.1)) (W_Read x.2 ht hv hh hr hc) := by
  refine sv_Q.R (res := (fun (x : Int32 × (Nat → Nat → Int32)) => (some (.int x.1), (W_Read x.2 ht hv hh hr hc)))) g_Read_seeNumber rfl ?_
  unfold F_Read_seeNumber
  refine sv_Q.s (σ' := (8, [some (.ref 0), some (.int a0), some (.int a1)], [.int (2 : Int32), .int (ht 0 2)], (W_Read hd ht hv hh hr hc))) 4 rfl ?_
  refine sv_Q.sb rfl (fun c1 => ?_) (fun c1 => ?_)
  · refine sv_Q.s (σ' := (28, [some (.ref 0), some (.int a0), some (.int a1)], [.int a1, .int a0, .int (ht 0 4)], (W_Read hd ht hv hh hr hc))) 5 rfl ?_
    refine sv_Q.S (ps := []) (rest := []) (cs1 := []) (cs2 := []) (st' := [.int (F_K_within (ht 0 4) a0 a1)]) (cs' := (W_Read hd ht hv hh hr hc)) (q := (28, .null, 0, 0, 0)) lk_Read_207 (t_K_within (ht 0 4) a0 a1) rfl rfl rfl rfl rfl rfl rfl rfl rfl rfl (sv_pt_nil _ _) ?_
    refine sv_Q.sb rfl (fun c2 => ?_) (fun c2 => ?_)
    · refine sv_Q.s (σ' := (46, [some (.ref 0), some (.int a0), some (.int a1)], [.int (ht 0 4)], (W_Read hd ht hv hh hr hc))) 3 rfl ?_
      exact sv_Q.z ⟨True, rfl, trivial, rfl⟩
    · refine sv_Q.s (σ' := (36, [some (.ref 0), some (.int a0), some (.int a1)], [.int (2 : Int32), .ref 0], (W_Read hd ht hv hh hr hc))) 2 rfl ?_
      refine sv_Q.V (b := 0) (av := [.int (2 : Int32)]) (ps := [0, 1, 2, 3, 4, 5, 6, 7, 8, 9, 10, 11, 12, 13, 14, 15, 16, 17, 18, 19, 20, 21, 22, 23, 24]) (rest := []) (cs1 := (W_Read hd ht hv hh hr hc)) (cs2 := (W_Read (F_Read_fail (2 : Int32) hd ht) ht hv hh hr hc)) (st' := []) (cs' := (W_Read (F_Read_fail (2 : Int32) hd ht) ht hv hh hr hc)) (q := (36, .null, 0, 0, 0)) lk_Read_71 (t_Read_fail hd ht hv hh hr hc (2 : Int32)) rfl rfl rfl rfl rfl (Or.inl ⟨5, _, _, rfl, rfl, rfl⟩) rfl rfl (sc_Read_Read_0 hd ht hv hh hr hc) rfl rfl (pc_Read_Read_0 hd ht hv hh hr hc (F_Read_fail (2 : Int32) hd ht) ht hv hh hr hc) ?_
      refine sv_Q.gs (fun hd_3 => (39, [some (.ref 0), some (.int a0), some (.int a1)], [], (W_Read hd_3 ht hv hh hr hc))) (fun hd_3 => ?_)
      refine sv_Q.s (σ' := (46, [some (.ref 0), some (.int a0), some (.int a1)], [.int (ht 0 4)], (W_Read hd_3 ht hv hh hr hc))) 3 rfl ?_
      exact sv_Q.z ⟨True, rfl, trivial, rfl⟩
  · refine sv_Q.s (σ' := (13, [some (.ref 0), some (.int a0), some (.int a1)], [.int (1 : Int32), .ref 0], (W_Read hd ht hv hh hr hc))) 2 rfl ?_
    refine sv_Q.V (b := 0) (av := [.int (1 : Int32)]) (ps := [0, 1, 2, 3, 4, 5, 6, 7, 8, 9, 10, 11, 12, 13, 14, 15, 16, 17, 18, 19, 20, 21, 22, 23, 24]) (rest := []) (cs1 := (W_Read hd ht hv hh hr hc)) (cs2 := (W_Read (F_Read_fail (1 : Int32) hd ht) ht hv hh hr hc)) (st' := []) (cs' := (W_Read (F_Read_fail (1 : Int32) hd ht) ht hv hh hr hc)) (q := (13, .null, 0, 0, 0)) lk_Read_71 (t_Read_fail hd ht hv hh hr hc (1 : Int32)) rfl rfl rfl rfl rfl (Or.inl ⟨5, _, _, rfl, rfl, rfl⟩) rfl rfl (sc_Read_Read_0 hd ht hv hh hr hc) rfl rfl (pc_Read_Read_0 hd ht hv hh hr hc (F_Read_fail (1 : Int32) hd ht) ht hv hh hr hc) ?_
    refine sv_Q.gs (fun hd_4 => (16, [some (.ref 0), some (.int a0), some (.int a1)], [], (W_Read hd_4 ht hv hh hr hc))) (fun hd_4 => ?_)
    refine sv_Q.s (σ' := (46, [some (.ref 0), some (.int a0), some (.int a1)], [.int (ht 0 4)], (W_Read hd_4 ht hv hh hr hc))) 4 rfl ?_
    exact sv_Q.z ⟨True, rfl, trivial, rfl⟩
theorem t_Read_seeNumber {X : Nat × (Nat → Int32)} (hd ht hv hh hr hc : Nat → Nat → Int32) (a0 : Int32) (a1 : Int32) : sv_R X 2 M_Read_seeNumber [.ref 0, .int a0, .int a1] (W_Read hd ht hv hh hr hc) (some (.int (F_Read_seeNumber a0 a1 hd ht).1)) (W_Read (F_Read_seeNumber a0 a1 hd ht).2 ht hv hh hr hc) := r_Read_seeNumber hd ht hv hh hr hc a0 a1 _ rfl
def F_Read_takeNumber (N : Nat) (a0 : Int32) (a1 : Int32) (hd ht : Nat → Nat → Int32) : Option (Int32 × (Nat → Nat → Int32) × (Nat → Nat → Int32)) := (sv_let (F_Read_seeNumber a0 a1 hd ht) fun (v1 : Int32 × (Nat → Nat → Int32)) => (Option.bind (F_Tape_advance N ht) fun (v3 : (Nat → Nat → Int32)) => (some (v1.1, v1.2, v3))))
theorem r_Read_takeNumber {X : Nat × (Nat → Int32)} (N : Nat) (hd ht hv hh hr hc : Nat → Nat → Int32) (a0 : Int32) (a1 : Int32) : ∀ x, (F_Read_takeNumber N a0 a1 hd ht) = some x → sv_R X 4 M_Read_takeNumber [.ref 0, .int a0, .int a1] (W_Read hd ht hv hh hr hc) (some (.int x.1)) (W_Read x.2.1 x.2.2 hv hh hr hc) := by
  refine sv_Q.R (res := (fun (x : Int32 × (Nat → Nat → Int32) × (Nat → Nat → Int32)) => (some (.int x.1), (W_Read x.2.1 x.2.2 hv hh hr hc)))) g_Read_takeNumber rfl ?_
  unfold F_Read_takeNumber
  refine sv_Q.s (σ' := (3, [some (.ref 0), some (.int a0), some (.int a1), none], [.int a1, .int a0, .ref 0], (W_Read hd ht hv hh hr hc))) 3 rfl ?_
  refine sv_Q.lt (fun v1 e2 => ?_)
  refine sv_Q.V (b := 0) (av := [.int a0, .int a1]) (ps := [0, 1, 2, 3, 4, 5, 6, 7, 8, 9, 10, 11, 12, 13, 14, 15, 16, 17, 18, 19, 20, 21, 22, 23, 24]) (rest := []) (cs1 := (W_Read hd ht hv hh hr hc)) (cs2 := (W_Read v1.2 ht hv hh hr hc)) (st' := [.int v1.1]) (cs' := (W_Read v1.2 ht hv hh hr hc)) (q := (3, .null, 0, 0, 0)) lk_Read_68 (r_Read_seeNumber hd ht hv hh hr hc a0 a1 v1 e2) rfl rfl rfl rfl rfl (Or.inl ⟨5, _, _, rfl, rfl, rfl⟩) rfl rfl (sc_Read_Read_0 hd ht hv hh hr hc) rfl rfl (pc_Read_Read_0 hd ht hv hh hr hc v1.2 ht hv hh hr hc) ?_
  refine sv_Q.s (σ' := (11, [some (.ref 0), some (.int a0), some (.int a1), some (.int v1.1)], [.ref 1], (W_Read v1.2 ht hv hh hr hc))) 3 rfl ?_
  refine sv_Q.o (fun v3 e4 => ?_)
  refine sv_Q.V (b := 0) (av := []) (ps := [1, 2]) (rest := []) (cs1 := (W_Tape ht)) (cs2 := (W_Tape v3)) (st' := []) (cs' := (W_Read v1.2 v3 hv hh hr hc)) (q := (11, .null, 0, 0, 0)) lk_Read_75 (r_Tape_advance N ht v3 e4) rfl rfl rfl rfl rfl (Or.inl ⟨9, _, _, rfl, rfl, rfl⟩) rfl rfl (sc_Read_Tape_1 v1.2 ht hv hh hr hc) rfl rfl (pc_Read_Tape_1 v1.2 ht hv hh hr hc v3) ?_
  refine sv_Q.s (σ' := (15, [some (.ref 0), some (.int a0), some (.int a1), some (.int v1.1)], [.int v1.1], (W_Read v1.2 v3 hv hh hr hc))) 1 rfl ?_
  exact sv_Q.z ⟨True, rfl, trivial, rfl⟩
def F_Read_readShip (N : Nat) (hd ht hh : Nat → Nat → Int32) : Option ((Nat → Nat → Int32) × (Nat → Nat → Int32) × (Nat → Nat → Int32)) := (Option.bind (F_Read_skipWord N 0 hd ht) fun (v1 : (Nat → Nat → Int32) × (Nat → Nat → Int32)) => (Option.bind (F_Read_skipWord N 1 v1.1 v1.2) fun (v3 : (Nat → Nat → Int32) × (Nat → Nat → Int32)) => (Option.bind (F_Read_takeNumber N (1 : Int32) (6 : Int32) v3.1 v3.2) fun (v5 : Int32 × (Nat → Nat → Int32) × (Nat → Nat → Int32)) => (Option.bind (F_Read_skipWord N 2 v5.2.1 v5.2.2) fun (v7 : (Nat → Nat → Int32) × (Nat → Nat → Int32)) => (Option.bind (F_Read_takeNumber N (1 : Int32) (4 : Int32) v7.1 v7.2) fun (v9 : Int32 × (Nat → Nat → Int32) × (Nat → Nat → Int32)) => (Option.bind (F_Read_skipWord N 3 v9.2.1 v9.2.2) fun (v11 : (Nat → Nat → Int32) × (Nat → Nat → Int32)) => (Option.bind (F_Read_takeNumber N (0 : Int32) (3 : Int32) v11.1 v11.2) fun (v13 : Int32 × (Nat → Nat → Int32) × (Nat → Nat → Int32)) => (Option.bind (F_Read_skipWord N 4 v13.2.1 v13.2.2) fun (v15 : (Nat → Nat → Int32) × (Nat → Nat → Int32)) => (sv_let (F_Read_seeNumber (0 : Int32) (3 : Int32) v15.1 v15.2) fun (v17 : Int32 × (Nat → Nat → Int32)) => (sv_let (if ¬ (v13.1 + v17.1) = 0 then v17.2 else (sv_let (F_Read_fail (2 : Int32) v17.2 v15.2) fun (hd_20 : Nat → Nat → Int32) => hd_20)) fun (v21 : (Nat → Nat → Int32)) => (Option.bind (F_Tape_advance N v15.2) fun (v22 : (Nat → Nat → Int32)) => (if ¬ (v21 0 0) = 0 then (some (v21, v22, hh)) else (Option.bind (F_Hull_build N v5.1 v9.1 v13.1 v17.1 hh) fun (v25 : (Nat → Nat → Int32)) => (some (v21, v22, v25)))))))))))))))
theorem r_Read_readShip {X : Nat × (Nat → Int32)} (N : Nat) (hd ht hv hh hr hc : Nat → Nat → Int32) : ∀ x, (F_Read_readShip N hd ht hh) = some x → sv_R X 10 M_Read_readShip [.ref 0] (W_Read hd ht hv hh hr hc) none (W_Read x.1 x.2.1 hv x.2.2 hr hc) := by
  refine sv_Q.R (res := (fun (x : (Nat → Nat → Int32) × (Nat → Nat → Int32) × (Nat → Nat → Int32)) => ((none : Option Value), (W_Read x.1 x.2.1 hv x.2.2 hr hc)))) g_Read_readShip rfl ?_
  unfold F_Read_readShip
  refine sv_Q.s (σ' := (3, [some (.ref 0), none, none, none, none], [.ref 1000, .ref 0], (W_Read hd ht hv hh hr hc))) 2 rfl ?_
  refine sv_Q.o (fun v1 e2 => ?_)
  refine sv_Q.V (b := 0) (av := [.ref 1000]) (ps := [0, 1, 2, 3, 4, 5, 6, 7, 8, 9, 10, 11, 12, 13, 14, 15, 16, 17, 18, 19, 20, 21, 22, 23, 24]) (rest := []) (cs1 := (W_Read hd ht hv hh hr hc)) (cs2 := (W_Read v1.1 v1.2 hv hh hr hc)) (st' := []) (cs' := (W_Read v1.1 v1.2 hv hh hr hc)) (q := (3, .null, 0, 0, 0)) lk_Read_52 (r_Read_skipWord N hd ht hv hh hr hc 0 v1 e2) rfl rfl rfl rfl rfl (Or.inl ⟨5, _, _, rfl, rfl, rfl⟩) rfl rfl (sc_Read_Read_0 hd ht hv hh hr hc) rfl rfl (pc_Read_Read_0 hd ht hv hh hr hc v1.1 v1.2 hv hh hr hc) ?_
  refine sv_Q.s (σ' := (9, [some (.ref 0), none, none, none, none], [.ref 1001, .ref 0], (W_Read v1.1 v1.2 hv hh hr hc))) 2 rfl ?_
  refine sv_Q.o (fun v3 e4 => ?_)
  refine sv_Q.V (b := 0) (av := [.ref 1001]) (ps := [0, 1, 2, 3, 4, 5, 6, 7, 8, 9, 10, 11, 12, 13, 14, 15, 16, 17, 18, 19, 20, 21, 22, 23, 24]) (rest := []) (cs1 := (W_Read v1.1 v1.2 hv hh hr hc)) (cs2 := (W_Read v3.1 v3.2 hv hh hr hc)) (st' := []) (cs' := (W_Read v3.1 v3.2 hv hh hr hc)) (q := (9, .null, 0, 0, 0)) lk_Read_52 (r_Read_skipWord N v1.1 v1.2 hv hh hr hc 1 v3 e4) rfl rfl rfl rfl rfl (Or.inl ⟨5, _, _, rfl, rfl, rfl⟩) rfl rfl (sc_Read_Read_0 v1.1 v1.2 hv hh hr hc) rfl rfl (pc_Read_Read_0 v1.1 v1.2 hv hh hr hc v3.1 v3.2 hv hh hr hc) ?_
  refine sv_Q.s (σ' := (16, [some (.ref 0), none, none, none, none], [.int (6 : Int32), .int (1 : Int32), .ref 0], (W_Read v3.1 v3.2 hv hh hr hc))) 3 rfl ?_
  refine sv_Q.o (fun v5 e6 => ?_)
  refine sv_Q.V (b := 0) (av := [.int (1 : Int32), .int (6 : Int32)]) (ps := [0, 1, 2, 3, 4, 5, 6, 7, 8, 9, 10, 11, 12, 13, 14, 15, 16, 17, 18, 19, 20, 21, 22, 23, 24]) (rest := []) (cs1 := (W_Read v3.1 v3.2 hv hh hr hc)) (cs2 := (W_Read v5.2.1 v5.2.2 hv hh hr hc)) (st' := [.int v5.1]) (cs' := (W_Read v5.2.1 v5.2.2 hv hh hr hc)) (q := (16, .null, 0, 0, 0)) lk_Read_58 (r_Read_takeNumber N v3.1 v3.2 hv hh hr hc (1 : Int32) (6 : Int32) v5 e6) rfl rfl rfl rfl rfl (Or.inl ⟨5, _, _, rfl, rfl, rfl⟩) rfl rfl (sc_Read_Read_0 v3.1 v3.2 hv hh hr hc) rfl rfl (pc_Read_Read_0 v3.1 v3.2 hv hh hr hc v5.2.1 v5.2.2 hv hh hr hc) ?_
  refine sv_Q.s (σ' := (23, [some (.ref 0), some (.int v5.1), none, none, none], [.ref 1002, .ref 0], (W_Read v5.2.1 v5.2.2 hv hh hr hc))) 3 rfl ?_
  refine sv_Q.o (fun v7 e8 => ?_)
  refine sv_Q.V (b := 0) (av := [.ref 1002]) (ps := [0, 1, 2, 3, 4, 5, 6, 7, 8, 9, 10, 11, 12, 13, 14, 15, 16, 17, 18, 19, 20, 21, 22, 23, 24]) (rest := []) (cs1 := (W_Read v5.2.1 v5.2.2 hv hh hr hc)) (cs2 := (W_Read v7.1 v7.2 hv hh hr hc)) (st' := []) (cs' := (W_Read v7.1 v7.2 hv hh hr hc)) (q := (23, .null, 0, 0, 0)) lk_Read_52 (r_Read_skipWord N v5.2.1 v5.2.2 hv hh hr hc 2 v7 e8) rfl rfl rfl rfl rfl (Or.inl ⟨5, _, _, rfl, rfl, rfl⟩) rfl rfl (sc_Read_Read_0 v5.2.1 v5.2.2 hv hh hr hc) rfl rfl (pc_Read_Read_0 v5.2.1 v5.2.2 hv hh hr hc v7.1 v7.2 hv hh hr hc) ?_
  refine sv_Q.s (σ' := (29, [some (.ref 0), some (.int v5.1), none, none, none], [.int (4 : Int32), .int (1 : Int32), .ref 0], (W_Read v7.1 v7.2 hv hh hr hc))) 3 rfl ?_
  refine sv_Q.o (fun v9 e10 => ?_)
  refine sv_Q.V (b := 0) (av := [.int (1 : Int32), .int (4 : Int32)]) (ps := [0, 1, 2, 3, 4, 5, 6, 7, 8, 9, 10, 11, 12, 13, 14, 15, 16, 17, 18, 19, 20, 21, 22, 23, 24]) (rest := []) (cs1 := (W_Read v7.1 v7.2 hv hh hr hc)) (cs2 := (W_Read v9.2.1 v9.2.2 hv hh hr hc)) (st' := [.int v9.1]) (cs' := (W_Read v9.2.1 v9.2.2 hv hh hr hc)) (q := (29, .null, 0, 0, 0)) lk_Read_58 (r_Read_takeNumber N v7.1 v7.2 hv hh hr hc (1 : Int32) (4 : Int32) v9 e10) rfl rfl rfl rfl rfl (Or.inl ⟨5, _, _, rfl, rfl, rfl⟩) rfl rfl (sc_Read_Read_0 v7.1 v7.2 hv hh hr hc) rfl rfl (pc_Read_Read_0 v7.1 v7.2 hv hh hr hc v9.2.1 v9.2.2 hv hh hr hc) ?_
  refine sv_Q.s (σ' := (36, [some (.ref 0), some (.int v5.1), some (.int v9.1), none, none], [.ref 1003, .ref 0], (W_Read v9.2.1 v9.2.2 hv hh hr hc))) 3 rfl ?_
  refine sv_Q.o (fun v11 e12 => ?_)
  refine sv_Q.V (b := 0) (av := [.ref 1003]) (ps := [0, 1, 2, 3, 4, 5, 6, 7, 8, 9, 10, 11, 12, 13, 14, 15, 16, 17, 18, 19, 20, 21, 22, 23, 24]) (rest := []) (cs1 := (W_Read v9.2.1 v9.2.2 hv hh hr hc)) (cs2 := (W_Read v11.1 v11.2 hv hh hr hc)) (st' := []) (cs' := (W_Read v11.1 v11.2 hv hh hr hc)) (q := (36, .null, 0, 0, 0)) lk_Read_52 (r_Read_skipWord N v9.2.1 v9.2.2 hv hh hr hc 3 v11 e12) rfl rfl rfl rfl rfl (Or.inl ⟨5, _, _, rfl, rfl, rfl⟩) rfl rfl (sc_Read_Read_0 v9.2.1 v9.2.2 hv hh hr hc) rfl rfl (pc_Read_Read_0 v9.2.1 v9.2.2 hv hh hr hc v11.1 v11.2 hv hh hr hc) ?_
  refine sv_Q.s (σ' := (42, [some (.ref 0), some (.int v5.1), some (.int v9.1), none, none], [.int (3 : Int32), .int (0 : Int32), .ref 0], (W_Read v11.1 v11.2 hv hh hr hc))) 3 rfl ?_
  refine sv_Q.o (fun v13 e14 => ?_)
  refine sv_Q.V (b := 0) (av := [.int (0 : Int32), .int (3 : Int32)]) (ps := [0, 1, 2, 3, 4, 5, 6, 7, 8, 9, 10, 11, 12, 13, 14, 15, 16, 17, 18, 19, 20, 21, 22, 23, 24]) (rest := []) (cs1 := (W_Read v11.1 v11.2 hv hh hr hc)) (cs2 := (W_Read v13.2.1 v13.2.2 hv hh hr hc)) (st' := [.int v13.1]) (cs' := (W_Read v13.2.1 v13.2.2 hv hh hr hc)) (q := (42, .null, 0, 0, 0)) lk_Read_58 (r_Read_takeNumber N v11.1 v11.2 hv hh hr hc (0 : Int32) (3 : Int32) v13 e14) rfl rfl rfl rfl rfl (Or.inl ⟨5, _, _, rfl, rfl, rfl⟩) rfl rfl (sc_Read_Read_0 v11.1 v11.2 hv hh hr hc) rfl rfl (pc_Read_Read_0 v11.1 v11.2 hv hh hr hc v13.2.1 v13.2.2 hv hh hr hc) ?_
  refine sv_Q.s (σ' := (49, [some (.ref 0), some (.int v5.1), some (.int v9.1), some (.int v13.1), none], [.ref 1004, .ref 0], (W_Read v13.2.1 v13.2.2 hv hh hr hc))) 3 rfl ?_
  refine sv_Q.o (fun v15 e16 => ?_)
  refine sv_Q.V (b := 0) (av := [.ref 1004]) (ps := [0, 1, 2, 3, 4, 5, 6, 7, 8, 9, 10, 11, 12, 13, 14, 15, 16, 17, 18, 19, 20, 21, 22, 23, 24]) (rest := []) (cs1 := (W_Read v13.2.1 v13.2.2 hv hh hr hc)) (cs2 := (W_Read v15.1 v15.2 hv hh hr hc)) (st' := []) (cs' := (W_Read v15.1 v15.2 hv hh hr hc)) (q := (49, .null, 0, 0, 0)) lk_Read_52 (r_Read_skipWord N v13.2.1 v13.2.2 hv hh hr hc 4 v15 e16) rfl rfl rfl rfl rfl (Or.inl ⟨5, _, _, rfl, rfl, rfl⟩) rfl rfl (sc_Read_Read_0 v13.2.1 v13.2.2 hv hh hr hc) rfl rfl (pc_Read_Read_0 v13.2.1 v13.2.2 hv hh hr hc v15.1 v15.2 hv hh hr hc) ?_
  refine sv_Q.s (σ' := (55, [some (.ref 0), some (.int v5.1), some (.int v9.1), some (.int v13.1), none], [.int (3 : Int32), .int (0 : Int32), .ref 0], (W_Read v15.1 v15.2 hv hh hr hc))) 3 rfl ?_
  refine sv_Q.lt (fun v17 e18 => ?_)
  refine sv_Q.V (b := 0) (av := [.int (0 : Int32), .int (3 : Int32)]) (ps := [0, 1, 2, 3, 4, 5, 6, 7, 8, 9, 10, 11, 12, 13, 14, 15, 16, 17, 18, 19, 20, 21, 22, 23, 24]) (rest := []) (cs1 := (W_Read v15.1 v15.2 hv hh hr hc)) (cs2 := (W_Read v17.2 v15.2 hv hh hr hc)) (st' := [.int v17.1]) (cs' := (W_Read v17.2 v15.2 hv hh hr hc)) (q := (55, .null, 0, 0, 0)) lk_Read_68 (r_Read_seeNumber v15.1 v15.2 hv hh hr hc (0 : Int32) (3 : Int32) v17 e18) rfl rfl rfl rfl rfl (Or.inl ⟨5, _, _, rfl, rfl, rfl⟩) rfl rfl (sc_Read_Read_0 v15.1 v15.2 hv hh hr hc) rfl rfl (pc_Read_Read_0 v15.1 v15.2 hv hh hr hc v17.2 v15.2 hv hh hr hc) ?_
  refine sv_Q.s (σ' := (64, [some (.ref 0), some (.int v5.1), some (.int v9.1), some (.int v13.1), some (.int v17.1)], [.int (v13.1 + v17.1)], (W_Read v17.2 v15.2 hv hh hr hc))) 4 rfl ?_
  refine sv_Q.l (fun v21 => (72, [some (.ref 0), some (.int v5.1), some (.int v9.1), some (.int v13.1), some (.int v17.1)], [], (W_Read v21 v15.2 hv hh hr hc))) (fun v21 => ?_) ?_
  · refine sv_Q.s (σ' := (76, [some (.ref 0), some (.int v5.1), some (.int v9.1), some (.int v13.1), some (.int v17.1)], [.ref 1], (W_Read v21 v15.2 hv hh hr hc))) 2 rfl ?_
    refine sv_Q.o (fun v22 e23 => ?_)
    refine sv_Q.V (b := 0) (av := []) (ps := [1, 2]) (rest := []) (cs1 := (W_Tape v15.2)) (cs2 := (W_Tape v22)) (st' := []) (cs' := (W_Read v21 v22 hv hh hr hc)) (q := (76, .null, 0, 0, 0)) lk_Read_75 (r_Tape_advance N v15.2 v22 e23) rfl rfl rfl rfl rfl (Or.inl ⟨9, _, _, rfl, rfl, rfl⟩) rfl rfl (sc_Read_Tape_1 v21 v15.2 hv hh hr hc) rfl rfl (pc_Read_Tape_1 v21 v15.2 hv hh hr hc v22) ?_
    refine sv_Q.s (σ' := (83, [some (.ref 0), some (.int v5.1), some (.int v9.1), some (.int v13.1), some (.int v17.1)], [.int (v21 0 0)], (W_Read v21 v22 hv hh hr hc))) 2 rfl ?_
    refine sv_Q.b rfl (fun c24 => ?_) (fun c24 => ?_)
    · exact sv_Q.z ⟨True, rfl, trivial, rfl⟩
    · refine sv_Q.s (σ' := (98, [some (.ref 0), some (.int v5.1), some (.int v9.1), some (.int v13.1), some (.int v17.1)], [.int v17.1, .int v13.1, .int v9.1, .int v5.1, .ref 5], (W_Read v21 v22 hv hh hr hc))) 7 rfl ?_
      refine sv_Q.o (fun v25 e26 => ?_)
      refine sv_Q.V (b := 0) (av := [.int v5.1, .int v9.1, .int v13.1, .int v17.1]) (ps := [5, 6, 7, 8, 9, 10]) (rest := []) (cs1 := (W_Hull hh)) (cs2 := (W_Hull v25)) (st' := []) (cs' := (W_Read v21 v22 hv v25 hr hc)) (q := (98, .null, 0, 0, 0)) lk_Read_82 (r_Hull_build N hh v5.1 v9.1 v13.1 v17.1 v25 e26) rfl rfl rfl rfl rfl (Or.inl ⟨2, _, _, rfl, rfl, rfl⟩) rfl rfl (sc_Read_Hull_3 v21 v22 hv hh hr hc) rfl rfl (pc_Read_Hull_3 v21 v22 hv hh hr hc v25) ?_
      exact sv_Q.z ⟨True, rfl, trivial, rfl⟩
  · refine sv_Q.sb rfl (fun c19 => ?_) (fun c19 => ?_)
    · exact sv_Q.z rfl
    · refine sv_Q.s (σ' := (69, [some (.ref 0), some (.int v5.1), some (.int v9.1), some (.int v13.1), some (.int v17.1)], [.int (2 : Int32), .ref 0], (W_Read v17.2 v15.2 hv hh hr hc))) 2 rfl ?_
      refine sv_Q.V (b := 0) (av := [.int (2 : Int32)]) (ps := [0, 1, 2, 3, 4, 5, 6, 7, 8, 9, 10, 11, 12, 13, 14, 15, 16, 17, 18, 19, 20, 21, 22, 23, 24]) (rest := []) (cs1 := (W_Read v17.2 v15.2 hv hh hr hc)) (cs2 := (W_Read (F_Read_fail (2 : Int32) v17.2 v15.2) v15.2 hv hh hr hc)) (st' := []) (cs' := (W_Read (F_Read_fail (2 : Int32) v17.2 v15.2) v15.2 hv hh hr hc)) (q := (69, .null, 0, 0, 0)) lk_Read_71 (t_Read_fail v17.2 v15.2 hv hh hr hc (2 : Int32)) rfl rfl rfl rfl rfl (Or.inl ⟨5, _, _, rfl, rfl, rfl⟩) rfl rfl (sc_Read_Read_0 v17.2 v15.2 hv hh hr hc) rfl rfl (pc_Read_Read_0 v17.2 v15.2 hv hh hr hc (F_Read_fail (2 : Int32) v17.2 v15.2) v15.2 hv hh hr hc) ?_
      refine sv_Q.gs (fun hd_20 => (72, [some (.ref 0), some (.int v5.1), some (.int v9.1), some (.int v13.1), some (.int v17.1)], [], (W_Read hd_20 v15.2 hv hh hr hc))) (fun hd_20 => ?_)
      exact sv_Q.z rfl
def F_Read_skipSemicolon (N : Nat) (hd ht : Nat → Nat → Int32) : Option ((Nat → Nat → Int32) × (Nat → Nat → Int32)) := (Option.bind (F_Tape_isSign N 5 ht) fun (v1 : Int32) => (sv_let (if ¬ v1 = 0 then hd else (sv_let (F_Read_fail (1 : Int32) hd ht) fun (hd_4 : Nat → Nat → Int32) => hd_4)) fun (v5 : (Nat → Nat → Int32)) => (Option.bind (F_Tape_advance N ht) fun (v6 : (Nat → Nat → Int32)) => (some (v5, v6)))))
theorem r_Read_skipSemicolon {X : Nat × (Nat → Int32)} (N : Nat) (hd ht hv hh hr hc : Nat → Nat → Int32) : ∀ x, (F_Read_skipSemicolon N hd ht) = some x → sv_R X 9 M_Read_skipSemicolon [.ref 0] (W_Read hd ht hv hh hr hc) none (W_Read x.1 x.2 hv hh hr hc) := by
  refine sv_Q.R (res := (fun (x : (Nat → Nat → Int32) × (Nat → Nat → Int32)) => ((none : Option Value), (W_Read x.1 x.2 hv hh hr hc)))) g_Read_skipSemicolon rfl ?_
  unfold F_Read_skipSemicolon
  refine sv_Q.s (σ' := (6, [some (.ref 0)], [.ref 1005, .ref 1], (W_Read hd ht hv hh hr hc))) 3 rfl ?_
  refine sv_Q.o (fun v1 e2 => ?_)
  refine sv_Q.V (b := 0) (av := [.ref 1005]) (ps := [1, 2]) (rest := []) (cs1 := (W_Tape ht)) (cs2 := (W_Tape ht)) (st' := [.int v1]) (cs' := (W_Read hd ht hv hh hr hc)) (q := (6, .null, 0, 0, 0)) lk_Read_201 (r_Tape_isSign N ht 5 v1 e2) rfl rfl rfl rfl rfl (Or.inl ⟨9, _, _, rfl, rfl, rfl⟩) rfl rfl (sc_Read_Tape_1 hd ht hv hh hr hc) rfl rfl (pc_Read_Tape_1 hd ht hv hh hr hc ht) ?_
  refine sv_Q.l (fun v5 => (17, [some (.ref 0)], [], (W_Read v5 ht hv hh hr hc))) (fun v5 => ?_) ?_
  · refine sv_Q.s (σ' := (21, [some (.ref 0)], [.ref 1], (W_Read v5 ht hv hh hr hc))) 2 rfl ?_
    refine sv_Q.o (fun v6 e7 => ?_)
    refine sv_Q.V (b := 0) (av := []) (ps := [1, 2]) (rest := []) (cs1 := (W_Tape ht)) (cs2 := (W_Tape v6)) (st' := []) (cs' := (W_Read v5 v6 hv hh hr hc)) (q := (21, .null, 0, 0, 0)) lk_Read_75 (r_Tape_advance N ht v6 e7) rfl rfl rfl rfl rfl (Or.inl ⟨9, _, _, rfl, rfl, rfl⟩) rfl rfl (sc_Read_Tape_1 v5 ht hv hh hr hc) rfl rfl (pc_Read_Tape_1 v5 ht hv hh hr hc v6) ?_
    exact sv_Q.z ⟨True, rfl, trivial, rfl⟩
  · refine sv_Q.sb rfl (fun c3 => ?_) (fun c3 => ?_)
    · exact sv_Q.z rfl
    · refine sv_Q.s (σ' := (14, [some (.ref 0)], [.int (1 : Int32), .ref 0], (W_Read hd ht hv hh hr hc))) 2 rfl ?_
      refine sv_Q.V (b := 0) (av := [.int (1 : Int32)]) (ps := [0, 1, 2, 3, 4, 5, 6, 7, 8, 9, 10, 11, 12, 13, 14, 15, 16, 17, 18, 19, 20, 21, 22, 23, 24]) (rest := []) (cs1 := (W_Read hd ht hv hh hr hc)) (cs2 := (W_Read (F_Read_fail (1 : Int32) hd ht) ht hv hh hr hc)) (st' := []) (cs' := (W_Read (F_Read_fail (1 : Int32) hd ht) ht hv hh hr hc)) (q := (14, .null, 0, 0, 0)) lk_Read_71 (t_Read_fail hd ht hv hh hr hc (1 : Int32)) rfl rfl rfl rfl rfl (Or.inl ⟨5, _, _, rfl, rfl, rfl⟩) rfl rfl (sc_Read_Read_0 hd ht hv hh hr hc) rfl rfl (pc_Read_Read_0 hd ht hv hh hr hc (F_Read_fail (1 : Int32) hd ht) ht hv hh hr hc) ?_
      refine sv_Q.gs (fun hd_4 => (17, [some (.ref 0)], [], (W_Read hd_4 ht hv hh hr hc))) (fun hd_4 => ?_)
      exact sv_Q.z rfl
def F_Read_takeOption (N : Nat) (a0 : Nat) (ht : Nat → Nat → Int32) : Option (Int32 × (Nat → Nat → Int32)) := (Option.bind (F_Tape_isWord N a0 ht) fun (v1 : Int32) => (if v1 = 0 then (if v1 = 0 ∨ v1 = 1 then some (v1, ht) else none) else (Option.bind (F_Tape_advance N ht) fun (v5 : (Nat → Nat → Int32)) => (if v1 = 0 ∨ v1 = 1 then some (v1, v5) else none))))
theorem r_Read_takeOption {X : Nat × (Nat → Int32)} (N : Nat) (hd ht hv hh hr hc : Nat → Nat → Int32) (a0 : Nat) : ∀ x, (F_Read_takeOption N a0 ht) = some x → sv_R X 9 M_Read_takeOption [.ref 0, .ref (a0 + 1000)] (W_Read hd ht hv hh hr hc) (some (.int x.1)) (W_Read hd x.2 hv hh hr hc) := by
  refine sv_Q.R (res := (fun (x : Int32 × (Nat → Nat → Int32)) => (some (.int x.1), (W_Read hd x.2 hv hh hr hc)))) g_Read_takeOption rfl ?_
  unfold F_Read_takeOption
  refine sv_Q.s (σ' := (5, [some (.ref 0), some (.ref (a0 + 1000)), none], [.ref (a0 + 1000), .ref 1], (W_Read hd ht hv hh hr hc))) 3 rfl ?_
  refine sv_Q.o (fun v1 e2 => ?_)
  refine sv_Q.V (b := 0) (av := [.ref (a0 + 1000)]) (ps := [1, 2]) (rest := []) (cs1 := (W_Tape ht)) (cs2 := (W_Tape ht)) (st' := [.int v1]) (cs' := (W_Read hd ht hv hh hr hc)) (q := (5, .null, 0, 0, 0)) lk_Read_90 (r_Tape_isWord N ht a0 v1 e2) rfl rfl rfl rfl rfl (Or.inl ⟨9, _, _, rfl, rfl, rfl⟩) rfl rfl (sc_Read_Tape_1 hd ht hv hh hr hc) rfl rfl (pc_Read_Tape_1 hd ht hv hh hr hc ht) ?_
  refine sv_Q.s (σ' := (10, [some (.ref 0), some (.ref (a0 + 1000)), some (.int v1)], [.int v1], (W_Read hd ht hv hh hr hc))) 2 rfl ?_
  refine sv_Q.b rfl (fun c3 => ?_) (fun c3 => ?_)
  · refine sv_Q.s (σ' := (21, [some (.ref 0), some (.ref (a0 + 1000)), some (.int v1)], [.int v1], (W_Read hd ht hv hh hr hc))) 1 rfl ?_
    refine sv_Q.ite (fun c4 => ?_) (fun c4 => sv_Q.non)
    exact sv_Q.z ⟨sv_01 v1, rfl, c4, rfl⟩
  · refine sv_Q.s (σ' := (17, [some (.ref 0), some (.ref (a0 + 1000)), some (.int v1)], [.ref 1], (W_Read hd ht hv hh hr hc))) 2 rfl ?_
    refine sv_Q.o (fun v5 e6 => ?_)
    refine sv_Q.V (b := 0) (av := []) (ps := [1, 2]) (rest := []) (cs1 := (W_Tape ht)) (cs2 := (W_Tape v5)) (st' := []) (cs' := (W_Read hd v5 hv hh hr hc)) (q := (17, .null, 0, 0, 0)) lk_Read_75 (r_Tape_advance N ht v5 e6) rfl rfl rfl rfl rfl (Or.inl ⟨9, _, _, rfl, rfl, rfl⟩) rfl rfl (sc_Read_Tape_1 hd ht hv hh hr hc) rfl rfl (pc_Read_Tape_1 hd ht hv hh hr hc v5) ?_
    refine sv_Q.s (σ' := (21, [some (.ref 0), some (.ref (a0 + 1000)), some (.int v1)], [.int v1], (W_Read hd v5 hv hh hr hc))) 1 rfl ?_
    refine sv_Q.ite (fun c7 => ?_) (fun c7 => sv_Q.non)
    exact sv_Q.z ⟨sv_01 v1, rfl, c7, rfl⟩
def F_Read_readWall (N : Nat) (hd ht hh : Nat → Nat → Int32) : Option ((Nat → Nat → Int32) × (Nat → Nat → Int32) × (Nat → Nat → Int32)) := (Option.bind (F_Tape_advance N ht) fun (v1 : (Nat → Nat → Int32)) => (sv_let (F_Read_seeNumber (0 : Int32) ((hh 0 0) - (2 : Int32)) hd v1) fun (v3 : Int32 × (Nat → Nat → Int32)) => (sv_let (if (F_Hull_wallAt v3.1 hh) = 0 then v3.2 else (sv_let (F_Read_fail (3 : Int32) v3.2 v1) fun (hd_6 : Nat → Nat → Int32) => hd_6)) fun (v7 : (Nat → Nat → Int32)) => (Option.bind (F_Tape_advance N v1) fun (v8 : (Nat → Nat → Int32)) => (Option.bind (F_Read_takeOption N 7 v8) fun (v10 : Int32 × (Nat → Nat → Int32)) => (if ¬ (v7 0 0) = 0 then (some (v7, v10.2, hh)) else (sv_let (if v10.1 = 0 then (1 : Int32) else (2 : Int32)) fun (v14 : Int32) => (Option.bind (F_Hull_setWall N v3.1 v14 hh) fun (v15 : (Nat → Nat → Int32)) => (some (v7, v10.2, v15))))))))))
theorem r_Read_readWall {X : Nat × (Nat → Int32)} (N : Nat) (hd ht hv hh hr hc : Nat → Nat → Int32) : ∀ x, (F_Read_readWall N hd ht hh) = some x → sv_R X 10 M_Read_readWall [.ref 0] (W_Read hd ht hv hh hr hc) none (W_Read x.1 x.2.1 hv x.2.2 hr hc) := by
  refine sv_Q.R (res := (fun (x : (Nat → Nat → Int32) × (Nat → Nat → Int32) × (Nat → Nat → Int32)) => ((none : Option Value), (W_Read x.1 x.2.1 hv x.2.2 hr hc)))) g_Read_readWall rfl ?_
  unfold F_Read_readWall
  refine sv_Q.s (σ' := (4, [some (.ref 0), none, none], [.ref 1], (W_Read hd ht hv hh hr hc))) 2 rfl ?_
  refine sv_Q.o (fun v1 e2 => ?_)
  refine sv_Q.V (b := 0) (av := []) (ps := [1, 2]) (rest := []) (cs1 := (W_Tape ht)) (cs2 := (W_Tape v1)) (st' := []) (cs' := (W_Read hd v1 hv hh hr hc)) (q := (4, .null, 0, 0, 0)) lk_Read_75 (r_Tape_advance N ht v1 e2) rfl rfl rfl rfl rfl (Or.inl ⟨9, _, _, rfl, rfl, rfl⟩) rfl rfl (sc_Read_Tape_1 hd ht hv hh hr hc) rfl rfl (pc_Read_Tape_1 hd ht hv hh hr hc v1) ?_
  refine sv_Q.s (σ' := (21, [some (.ref 0), none, none], [.int ((hh 0 0) - (2 : Int32)), .int (0 : Int32), .ref 0], (W_Read hd v1 hv hh hr hc))) 8 rfl ?_
  refine sv_Q.lt (fun v3 e4 => ?_)
  refine sv_Q.V (b := 0) (av := [.int (0 : Int32), .int ((hh 0 0) - (2 : Int32))]) (ps := [0, 1, 2, 3, 4, 5, 6, 7, 8, 9, 10, 11, 12, 13, 14, 15, 16, 17, 18, 19, 20, 21, 22, 23, 24]) (rest := []) (cs1 := (W_Read hd v1 hv hh hr hc)) (cs2 := (W_Read v3.2 v1 hv hh hr hc)) (st' := [.int v3.1]) (cs' := (W_Read v3.2 v1 hv hh hr hc)) (q := (21, .null, 0, 0, 0)) lk_Read_68 (r_Read_seeNumber hd v1 hv hh hr hc (0 : Int32) ((hh 0 0) - (2 : Int32)) v3 e4) rfl rfl rfl rfl rfl (Or.inl ⟨5, _, _, rfl, rfl, rfl⟩) rfl rfl (sc_Read_Read_0 hd v1 hv hh hr hc) rfl rfl (pc_Read_Read_0 hd v1 hv hh hr hc v3.2 v1 hv hh hr hc) ?_
  refine sv_Q.s (σ' := (33, [some (.ref 0), some (.int v3.1), none], [.int v3.1, .ref 5], (W_Read v3.2 v1 hv hh hr hc))) 5 rfl ?_
  refine sv_Q.V (b := 0) (av := [.int v3.1]) (ps := [5, 6, 7, 8, 9, 10]) (rest := []) (cs1 := (W_Hull hh)) (cs2 := (W_Hull hh)) (st' := [.int (F_Hull_wallAt v3.1 hh)]) (cs' := (W_Read v3.2 v1 hv hh hr hc)) (q := (33, .null, 0, 0, 0)) lk_Read_124 (t_Hull_wallAt hh v3.1) rfl rfl rfl rfl rfl (Or.inl ⟨2, _, _, rfl, rfl, rfl⟩) rfl rfl (sc_Read_Hull_3 v3.2 v1 hv hh hr hc) rfl rfl (pc_Read_Hull_3 v3.2 v1 hv hh hr hc hh) ?_
  refine sv_Q.l (fun v7 => (44, [some (.ref 0), some (.int v3.1), none], [], (W_Read v7 v1 hv hh hr hc))) (fun v7 => ?_) ?_
  · refine sv_Q.s (σ' := (48, [some (.ref 0), some (.int v3.1), none], [.ref 1], (W_Read v7 v1 hv hh hr hc))) 2 rfl ?_
    refine sv_Q.o (fun v8 e9 => ?_)
    refine sv_Q.V (b := 0) (av := []) (ps := [1, 2]) (rest := []) (cs1 := (W_Tape v1)) (cs2 := (W_Tape v8)) (st' := []) (cs' := (W_Read v7 v8 hv hh hr hc)) (q := (48, .null, 0, 0, 0)) lk_Read_75 (r_Tape_advance N v1 v8 e9) rfl rfl rfl rfl rfl (Or.inl ⟨9, _, _, rfl, rfl, rfl⟩) rfl rfl (sc_Read_Tape_1 v7 v1 hv hh hr hc) rfl rfl (pc_Read_Tape_1 v7 v1 hv hh hr hc v8) ?_
    refine sv_Q.s (σ' := (54, [some (.ref 0), some (.int v3.1), none], [.ref 1007, .ref 0], (W_Read v7 v8 hv hh hr hc))) 2 rfl ?_
    refine sv_Q.o (fun v10 e11 => ?_)
    refine sv_Q.V (b := 0) (av := [.ref 1007]) (ps := [0, 1, 2, 3, 4, 5, 6, 7, 8, 9, 10, 11, 12, 13, 14, 15, 16, 17, 18, 19, 20, 21, 22, 23, 24]) (rest := []) (cs1 := (W_Read v7 v8 hv hh hr hc)) (cs2 := (W_Read v7 v10.2 hv hh hr hc)) (st' := [.int v10.1]) (cs' := (W_Read v7 v10.2 hv hh hr hc)) (q := (54, .null, 0, 0, 0)) lk_Read_130 (r_Read_takeOption N v7 v8 hv hh hr hc 7 v10 e11) rfl rfl rfl rfl rfl (Or.inl ⟨5, _, _, rfl, rfl, rfl⟩) rfl rfl (sc_Read_Read_0 v7 v8 hv hh hr hc) rfl rfl (pc_Read_Read_0 v7 v8 hv hh hr hc v7 v10.2 hv hh hr hc) ?_
    refine sv_Q.s (σ' := (62, [some (.ref 0), some (.int v3.1), some (.int v10.1)], [.int (v7 0 0)], (W_Read v7 v10.2 hv hh hr hc))) 3 rfl ?_
    refine sv_Q.b rfl (fun c12 => ?_) (fun c12 => ?_)
    · exact sv_Q.z ⟨True, rfl, trivial, rfl⟩
    · refine sv_Q.s (σ' := (74, [some (.ref 0), some (.int v3.1), some (.int v10.1)], [.int v10.1, .int v3.1, .ref 5], (W_Read v7 v10.2 hv hh hr hc))) 5 rfl ?_
      refine sv_Q.l (fun v14 => (82, [none, none, none], [.int v14, .int v3.1, .ref 5], (W_Read v7 v10.2 hv hh hr hc))) (fun v14 => ?_) ?_
      · refine sv_Q.o (fun v15 e16 => ?_)
        refine sv_Q.V (b := 0) (av := [.int v3.1, .int v14]) (ps := [5, 6, 7, 8, 9, 10]) (rest := []) (cs1 := (W_Hull hh)) (cs2 := (W_Hull v15)) (st' := []) (cs' := (W_Read v7 v10.2 hv v15 hr hc)) (q := (82, .null, 0, 0, 0)) lk_Read_133 (r_Hull_setWall N hh v3.1 v14 v15 e16) rfl rfl rfl rfl rfl (Or.inl ⟨2, _, _, rfl, rfl, rfl⟩) rfl rfl (sc_Read_Hull_3 v7 v10.2 hv hh hr hc) rfl rfl (pc_Read_Hull_3 v7 v10.2 hv hh hr hc v15) ?_
        exact sv_Q.z ⟨True, rfl, trivial, rfl⟩
      · refine sv_Q.sb rfl (fun c13 => ?_) (fun c13 => ?_)
        · refine sv_Q.s (σ' := (82, [some (.ref 0), some (.int v3.1), some (.int v10.1)], [.int (1 : Int32), .int v3.1, .ref 5], (W_Read v7 v10.2 hv hh hr hc))) 1 rfl ?_
          refine sv_Q.f (lo' := [none, none, none]) trivial ?_
          exact sv_Q.z rfl
        · refine sv_Q.s (σ' := (82, [some (.ref 0), some (.int v3.1), some (.int v10.1)], [.int (2 : Int32), .int v3.1, .ref 5], (W_Read v7 v10.2 hv hh hr hc))) 2 rfl ?_
          refine sv_Q.f (lo' := [none, none, none]) trivial ?_
          exact sv_Q.z rfl
  · refine sv_Q.sb rfl (fun c5 => ?_) (fun c5 => ?_)
    · exact sv_Q.z rfl
    · refine sv_Q.s (σ' := (41, [some (.ref 0), some (.int v3.1), none], [.int (3 : Int32), .ref 0], (W_Read v3.2 v1 hv hh hr hc))) 2 rfl ?_
      refine sv_Q.V (b := 0) (av := [.int (3 : Int32)]) (ps := [0, 1, 2, 3, 4, 5, 6, 7, 8, 9, 10, 11, 12, 13, 14, 15, 16, 17, 18, 19, 20, 21, 22, 23, 24]) (rest := []) (cs1 := (W_Read v3.2 v1 hv hh hr hc)) (cs2 := (W_Read (F_Read_fail (3 : Int32) v3.2 v1) v1 hv hh hr hc)) (st' := []) (cs' := (W_Read (F_Read_fail (3 : Int32) v3.2 v1) v1 hv hh hr hc)) (q := (41, .null, 0, 0, 0)) lk_Read_71 (t_Read_fail v3.2 v1 hv hh hr hc (3 : Int32)) rfl rfl rfl rfl rfl (Or.inl ⟨5, _, _, rfl, rfl, rfl⟩) rfl rfl (sc_Read_Read_0 v3.2 v1 hv hh hr hc) rfl rfl (pc_Read_Read_0 v3.2 v1 hv hh hr hc (F_Read_fail (3 : Int32) v3.2 v1) v1 hv hh hr hc) ?_
      refine sv_Q.gs (fun hd_6 => (44, [some (.ref 0), some (.int v3.1), none], [], (W_Read hd_6 v1 hv hh hr hc))) (fun hd_6 => ?_)
      exact sv_Q.z rfl
def F_Read_readBears (N : Nat) (hd ht hh : Nat → Nat → Int32) : Option ((Nat → Nat → Int32) × (Nat → Nat → Int32) × (Nat → Nat → Int32)) := (sv_let (if (hh 0 7) = 0 then hd else (sv_let (F_Read_fail (3 : Int32) hd ht) fun (hd_2 : Nat → Nat → Int32) => hd_2)) fun (v3 : (Nat → Nat → Int32)) => (Option.bind (F_Tape_advance N ht) fun (v4 : (Nat → Nat → Int32)) => (Option.bind (F_Read_takeNumber N (1 : Int32) (999 : Int32) v3 v4) fun (v6 : Int32 × (Nat → Nat → Int32) × (Nat → Nat → Int32)) => (Option.bind (F_Read_takeNumber N (1 : Int32) (999 : Int32) v6.2.1 v6.2.2) fun (v8 : Int32 × (Nat → Nat → Int32) × (Nat → Nat → Int32)) => (if ¬ (v8.2.1 0 0) = 0 then (some (v8.2.1, v8.2.2, hh)) else (sv_let (F_Hull_tellBears v6.1 v8.1 hh) fun (hh_11 : Nat → Nat → Int32) => (some (v8.2.1, v8.2.2, hh_11))))))))
theorem r_Read_readBears {X : Nat × (Nat → Int32)} (N : Nat) (hd ht hv hh hr hc : Nat → Nat → Int32) : ∀ x, (F_Read_readBears N hd ht hh) = some x → sv_R X 5 M_Read_readBears [.ref 0] (W_Read hd ht hv hh hr hc) none (W_Read x.1 x.2.1 hv x.2.2 hr hc) := by
  refine sv_Q.R (res := (fun (x : (Nat → Nat → Int32) × (Nat → Nat → Int32) × (Nat → Nat → Int32)) => ((none : Option Value), (W_Read x.1 x.2.1 hv x.2.2 hr hc)))) g_Read_readBears rfl ?_
  unfold F_Read_readBears
  refine sv_Q.s (σ' := (10, [some (.ref 0), none, none], [.int (hh 0 7)], (W_Read hd ht hv hh hr hc))) 4 rfl ?_
  refine sv_Q.l (fun v3 => (18, [some (.ref 0), none, none], [], (W_Read v3 ht hv hh hr hc))) (fun v3 => ?_) ?_
  · refine sv_Q.s (σ' := (22, [some (.ref 0), none, none], [.ref 1], (W_Read v3 ht hv hh hr hc))) 2 rfl ?_
    refine sv_Q.o (fun v4 e5 => ?_)
    refine sv_Q.V (b := 0) (av := []) (ps := [1, 2]) (rest := []) (cs1 := (W_Tape ht)) (cs2 := (W_Tape v4)) (st' := []) (cs' := (W_Read v3 v4 hv hh hr hc)) (q := (22, .null, 0, 0, 0)) lk_Read_75 (r_Tape_advance N ht v4 e5) rfl rfl rfl rfl rfl (Or.inl ⟨9, _, _, rfl, rfl, rfl⟩) rfl rfl (sc_Read_Tape_1 v3 ht hv hh hr hc) rfl rfl (pc_Read_Tape_1 v3 ht hv hh hr hc v4) ?_
    refine sv_Q.s (σ' := (30, [some (.ref 0), none, none], [.int (999 : Int32), .int (1 : Int32), .ref 0], (W_Read v3 v4 hv hh hr hc))) 3 rfl ?_
    refine sv_Q.o (fun v6 e7 => ?_)
    refine sv_Q.V (b := 0) (av := [.int (1 : Int32), .int (999 : Int32)]) (ps := [0, 1, 2, 3, 4, 5, 6, 7, 8, 9, 10, 11, 12, 13, 14, 15, 16, 17, 18, 19, 20, 21, 22, 23, 24]) (rest := []) (cs1 := (W_Read v3 v4 hv hh hr hc)) (cs2 := (W_Read v6.2.1 v6.2.2 hv hh hr hc)) (st' := [.int v6.1]) (cs' := (W_Read v6.2.1 v6.2.2 hv hh hr hc)) (q := (30, .null, 0, 0, 0)) lk_Read_58 (r_Read_takeNumber N v3 v4 hv hh hr hc (1 : Int32) (999 : Int32) v6 e7) rfl rfl rfl rfl rfl (Or.inl ⟨5, _, _, rfl, rfl, rfl⟩) rfl rfl (sc_Read_Read_0 v3 v4 hv hh hr hc) rfl rfl (pc_Read_Read_0 v3 v4 hv hh hr hc v6.2.1 v6.2.2 hv hh hr hc) ?_
    refine sv_Q.s (σ' := (39, [some (.ref 0), some (.int v6.1), none], [.int (999 : Int32), .int (1 : Int32), .ref 0], (W_Read v6.2.1 v6.2.2 hv hh hr hc))) 4 rfl ?_
    refine sv_Q.o (fun v8 e9 => ?_)
    refine sv_Q.V (b := 0) (av := [.int (1 : Int32), .int (999 : Int32)]) (ps := [0, 1, 2, 3, 4, 5, 6, 7, 8, 9, 10, 11, 12, 13, 14, 15, 16, 17, 18, 19, 20, 21, 22, 23, 24]) (rest := []) (cs1 := (W_Read v6.2.1 v6.2.2 hv hh hr hc)) (cs2 := (W_Read v8.2.1 v8.2.2 hv hh hr hc)) (st' := [.int v8.1]) (cs' := (W_Read v8.2.1 v8.2.2 hv hh hr hc)) (q := (39, .null, 0, 0, 0)) lk_Read_58 (r_Read_takeNumber N v6.2.1 v6.2.2 hv hh hr hc (1 : Int32) (999 : Int32) v8 e9) rfl rfl rfl rfl rfl (Or.inl ⟨5, _, _, rfl, rfl, rfl⟩) rfl rfl (sc_Read_Read_0 v6.2.1 v6.2.2 hv hh hr hc) rfl rfl (pc_Read_Read_0 v6.2.1 v6.2.2 hv hh hr hc v8.2.1 v8.2.2 hv hh hr hc) ?_
    refine sv_Q.s (σ' := (47, [some (.ref 0), some (.int v6.1), some (.int v8.1)], [.int (v8.2.1 0 0)], (W_Read v8.2.1 v8.2.2 hv hh hr hc))) 3 rfl ?_
    refine sv_Q.b rfl (fun c10 => ?_) (fun c10 => ?_)
    · exact sv_Q.z ⟨True, rfl, trivial, rfl⟩
    · refine sv_Q.s (σ' := (59, [some (.ref 0), some (.int v6.1), some (.int v8.1)], [.int v8.1, .int v6.1, .ref 5], (W_Read v8.2.1 v8.2.2 hv hh hr hc))) 5 rfl ?_
      refine sv_Q.V (b := 0) (av := [.int v6.1, .int v8.1]) (ps := [5, 6, 7, 8, 9, 10]) (rest := []) (cs1 := (W_Hull hh)) (cs2 := (W_Hull (F_Hull_tellBears v6.1 v8.1 hh))) (st' := []) (cs' := (W_Read v8.2.1 v8.2.2 hv (F_Hull_tellBears v6.1 v8.1 hh) hr hc)) (q := (59, .null, 0, 0, 0)) lk_Read_141 (t_Hull_tellBears hh v6.1 v8.1) rfl rfl rfl rfl rfl (Or.inl ⟨2, _, _, rfl, rfl, rfl⟩) rfl rfl (sc_Read_Hull_3 v8.2.1 v8.2.2 hv hh hr hc) rfl rfl (pc_Read_Hull_3 v8.2.1 v8.2.2 hv hh hr hc (F_Hull_tellBears v6.1 v8.1 hh)) ?_
      refine sv_Q.go (fun hh_11 => (62, [some (.ref 0), some (.int v6.1), some (.int v8.1)], [], (W_Read v8.2.1 v8.2.2 hv hh_11 hr hc))) (fun hh_11 => ?_)
      exact sv_Q.z ⟨True, rfl, trivial, rfl⟩
  · refine sv_Q.sb rfl (fun c1 => ?_) (fun c1 => ?_)
    · exact sv_Q.z rfl
    · refine sv_Q.s (σ' := (15, [some (.ref 0), none, none], [.int (3 : Int32), .ref 0], (W_Read hd ht hv hh hr hc))) 2 rfl ?_
      refine sv_Q.V (b := 0) (av := [.int (3 : Int32)]) (ps := [0, 1, 2, 3, 4, 5, 6, 7, 8, 9, 10, 11, 12, 13, 14, 15, 16, 17, 18, 19, 20, 21, 22, 23, 24]) (rest := []) (cs1 := (W_Read hd ht hv hh hr hc)) (cs2 := (W_Read (F_Read_fail (3 : Int32) hd ht) ht hv hh hr hc)) (st' := []) (cs' := (W_Read (F_Read_fail (3 : Int32) hd ht) ht hv hh hr hc)) (q := (15, .null, 0, 0, 0)) lk_Read_71 (t_Read_fail hd ht hv hh hr hc (3 : Int32)) rfl rfl rfl rfl rfl (Or.inl ⟨5, _, _, rfl, rfl, rfl⟩) rfl rfl (sc_Read_Read_0 hd ht hv hh hr hc) rfl rfl (pc_Read_Read_0 hd ht hv hh hr hc (F_Read_fail (3 : Int32) hd ht) ht hv hh hr hc) ?_
      refine sv_Q.gs (fun hd_2 => (18, [some (.ref 0), none, none], [], (W_Read hd_2 ht hv hh hr hc))) (fun hd_2 => ?_)
      exact sv_Q.z rfl
def F_Read_readLevel (N : Nat) (hd ht hr : Nat → Nat → Int32) : Option ((Nat → Nat → Int32) × (Nat → Nat → Int32) × (Nat → Nat → Int32)) := (Option.bind (F_Tape_advance N ht) fun (v1 : (Nat → Nat → Int32)) => (sv_let (F_Read_seeNumber (1 : Int32) (4 : Int32) hd v1) fun (v3 : Int32 × (Nat → Nat → Int32)) => (sv_let (if (F_Rules_hasLevel v3.1 hr) = 0 then v3.2 else (sv_let (F_Read_fail (3 : Int32) v3.2 v1) fun (hd_6 : Nat → Nat → Int32) => hd_6)) fun (v7 : (Nat → Nat → Int32)) => (Option.bind (F_Tape_advance N v1) fun (v8 : (Nat → Nat → Int32)) => (Option.bind (F_Read_skipWord N 10 v7 v8) fun (v10 : (Nat → Nat → Int32) × (Nat → Nat → Int32)) => (Option.bind (F_Read_takeNumber N (1 : Int32) (9 : Int32) v10.1 v10.2) fun (v12 : Int32 × (Nat → Nat → Int32) × (Nat → Nat → Int32)) => (Option.bind (F_Read_skipWord N 11 v12.2.1 v12.2.2) fun (v14 : (Nat → Nat → Int32) × (Nat → Nat → Int32)) => (Option.bind (F_Read_takeNumber N (1 : Int32) (9 : Int32) v14.1 v14.2) fun (v16 : Int32 × (Nat → Nat → Int32) × (Nat → Nat → Int32)) => (Option.bind (F_Read_takeOption N 12 v16.2.2) fun (v18 : Int32 × (Nat → Nat → Int32)) => (Option.bind (if v18.1 = 0 then some ((0 : Int32), v16.2.1, v18.2) else (Option.bind (F_Read_takeNumber N (1 : Int32) (5 : Int32) v16.2.1 v18.2) fun (v21 : Int32 × (Nat → Nat → Int32) × (Nat → Nat → Int32)) => some (v21.1, v21.2.1, v21.2.2))) fun (v23 : Int32 × (Nat → Nat → Int32) × (Nat → Nat → Int32)) => (Option.bind (F_Read_takeOption N 13 v23.2.2) fun (v24 : Int32 × (Nat → Nat → Int32)) => (if ¬ (v23.2.1 0 0) = 0 then (some (v23.2.1, v24.2, hr)) else (sv_let (if v24.1 = 0 then (0 : Int32) else (1 : Int32)) fun (v28 : Int32) => (sv_let (F_Rules_tellLevel v3.1 v12.1 v16.1 v23.1 v28 hr) fun (hr_29 : Nat → Nat → Int32) => (some (v23.2.1, v24.2, hr_29))))))))))))))))
theorem r_Read_readLevel {X : Nat × (Nat → Int32)} (N : Nat) (hd ht hv hh hr hc : Nat → Nat → Int32) : ∀ x, (F_Read_readLevel N hd ht hr) = some x → sv_R X 10 M_Read_readLevel [.ref 0] (W_Read hd ht hv hh hr hc) none (W_Read x.1 x.2.1 hv hh x.2.2 hc) := by
  refine sv_Q.R (res := (fun (x : (Nat → Nat → Int32) × (Nat → Nat → Int32) × (Nat → Nat → Int32)) => ((none : Option Value), (W_Read x.1 x.2.1 hv hh x.2.2 hc)))) g_Read_readLevel rfl ?_
  unfold F_Read_readLevel
  refine sv_Q.s (σ' := (4, [some (.ref 0), none, none, none, none, none], [.ref 1], (W_Read hd ht hv hh hr hc))) 2 rfl ?_
  refine sv_Q.o (fun v1 e2 => ?_)
  refine sv_Q.V (b := 0) (av := []) (ps := [1, 2]) (rest := []) (cs1 := (W_Tape ht)) (cs2 := (W_Tape v1)) (st' := []) (cs' := (W_Read hd v1 hv hh hr hc)) (q := (4, .null, 0, 0, 0)) lk_Read_75 (r_Tape_advance N ht v1 e2) rfl rfl rfl rfl rfl (Or.inl ⟨9, _, _, rfl, rfl, rfl⟩) rfl rfl (sc_Read_Tape_1 hd ht hv hh hr hc) rfl rfl (pc_Read_Tape_1 hd ht hv hh hr hc v1) ?_
  refine sv_Q.s (σ' := (10, [some (.ref 0), none, none, none, none, none], [.int (4 : Int32), .int (1 : Int32), .ref 0], (W_Read hd v1 hv hh hr hc))) 3 rfl ?_
  refine sv_Q.lt (fun v3 e4 => ?_)
  refine sv_Q.V (b := 0) (av := [.int (1 : Int32), .int (4 : Int32)]) (ps := [0, 1, 2, 3, 4, 5, 6, 7, 8, 9, 10, 11, 12, 13, 14, 15, 16, 17, 18, 19, 20, 21, 22, 23, 24]) (rest := []) (cs1 := (W_Read hd v1 hv hh hr hc)) (cs2 := (W_Read v3.2 v1 hv hh hr hc)) (st' := [.int v3.1]) (cs' := (W_Read v3.2 v1 hv hh hr hc)) (q := (10, .null, 0, 0, 0)) lk_Read_68 (r_Read_seeNumber hd v1 hv hh hr hc (1 : Int32) (4 : Int32) v3 e4) rfl rfl rfl rfl rfl (Or.inl ⟨5, _, _, rfl, rfl, rfl⟩) rfl rfl (sc_Read_Read_0 hd v1 hv hh hr hc) rfl rfl (pc_Read_Read_0 hd v1 hv hh hr hc v3.2 v1 hv hh hr hc) ?_
  refine sv_Q.s (σ' := (22, [some (.ref 0), some (.int v3.1), none, none, none, none], [.int v3.1, .ref 11], (W_Read v3.2 v1 hv hh hr hc))) 5 rfl ?_
  refine sv_Q.V (b := 0) (av := [.int v3.1]) (ps := [11, 12, 13, 14, 15, 16, 17, 18]) (rest := []) (cs1 := (W_Rules hr)) (cs2 := (W_Rules hr)) (st' := [.int (F_Rules_hasLevel v3.1 hr)]) (cs' := (W_Read v3.2 v1 hv hh hr hc)) (q := (22, .null, 0, 0, 0)) lk_Read_148 (t_Rules_hasLevel hr v3.1) rfl rfl rfl rfl rfl (Or.inl ⟨6, _, _, rfl, rfl, rfl⟩) rfl rfl (sc_Read_Rules_4 v3.2 v1 hv hh hr hc) rfl rfl (pc_Read_Rules_4 v3.2 v1 hv hh hr hc hr) ?_
  refine sv_Q.l (fun v7 => (33, [some (.ref 0), some (.int v3.1), none, none, none, none], [], (W_Read v7 v1 hv hh hr hc))) (fun v7 => ?_) ?_
  · refine sv_Q.s (σ' := (37, [some (.ref 0), some (.int v3.1), none, none, none, none], [.ref 1], (W_Read v7 v1 hv hh hr hc))) 2 rfl ?_
    refine sv_Q.o (fun v8 e9 => ?_)
    refine sv_Q.V (b := 0) (av := []) (ps := [1, 2]) (rest := []) (cs1 := (W_Tape v1)) (cs2 := (W_Tape v8)) (st' := []) (cs' := (W_Read v7 v8 hv hh hr hc)) (q := (37, .null, 0, 0, 0)) lk_Read_75 (r_Tape_advance N v1 v8 e9) rfl rfl rfl rfl rfl (Or.inl ⟨9, _, _, rfl, rfl, rfl⟩) rfl rfl (sc_Read_Tape_1 v7 v1 hv hh hr hc) rfl rfl (pc_Read_Tape_1 v7 v1 hv hh hr hc v8) ?_
    refine sv_Q.s (σ' := (43, [some (.ref 0), some (.int v3.1), none, none, none, none], [.ref 1010, .ref 0], (W_Read v7 v8 hv hh hr hc))) 2 rfl ?_
    refine sv_Q.o (fun v10 e11 => ?_)
    refine sv_Q.V (b := 0) (av := [.ref 1010]) (ps := [0, 1, 2, 3, 4, 5, 6, 7, 8, 9, 10, 11, 12, 13, 14, 15, 16, 17, 18, 19, 20, 21, 22, 23, 24]) (rest := []) (cs1 := (W_Read v7 v8 hv hh hr hc)) (cs2 := (W_Read v10.1 v10.2 hv hh hr hc)) (st' := []) (cs' := (W_Read v10.1 v10.2 hv hh hr hc)) (q := (43, .null, 0, 0, 0)) lk_Read_52 (r_Read_skipWord N v7 v8 hv hh hr hc 10 v10 e11) rfl rfl rfl rfl rfl (Or.inl ⟨5, _, _, rfl, rfl, rfl⟩) rfl rfl (sc_Read_Read_0 v7 v8 hv hh hr hc) rfl rfl (pc_Read_Read_0 v7 v8 hv hh hr hc v10.1 v10.2 hv hh hr hc) ?_
    refine sv_Q.s (σ' := (50, [some (.ref 0), some (.int v3.1), none, none, none, none], [.int (9 : Int32), .int (1 : Int32), .ref 0], (W_Read v10.1 v10.2 hv hh hr hc))) 3 rfl ?_
    refine sv_Q.o (fun v12 e13 => ?_)
    refine sv_Q.V (b := 0) (av := [.int (1 : Int32), .int (9 : Int32)]) (ps := [0, 1, 2, 3, 4, 5, 6, 7, 8, 9, 10, 11, 12, 13, 14, 15, 16, 17, 18, 19, 20, 21, 22, 23, 24]) (rest := []) (cs1 := (W_Read v10.1 v10.2 hv hh hr hc)) (cs2 := (W_Read v12.2.1 v12.2.2 hv hh hr hc)) (st' := [.int v12.1]) (cs' := (W_Read v12.2.1 v12.2.2 hv hh hr hc)) (q := (50, .null, 0, 0, 0)) lk_Read_58 (r_Read_takeNumber N v10.1 v10.2 hv hh hr hc (1 : Int32) (9 : Int32) v12 e13) rfl rfl rfl rfl rfl (Or.inl ⟨5, _, _, rfl, rfl, rfl⟩) rfl rfl (sc_Read_Read_0 v10.1 v10.2 hv hh hr hc) rfl rfl (pc_Read_Read_0 v10.1 v10.2 hv hh hr hc v12.2.1 v12.2.2 hv hh hr hc) ?_
    refine sv_Q.s (σ' := (57, [some (.ref 0), some (.int v3.1), some (.int v12.1), none, none, none], [.ref 1011, .ref 0], (W_Read v12.2.1 v12.2.2 hv hh hr hc))) 3 rfl ?_
    refine sv_Q.o (fun v14 e15 => ?_)
    refine sv_Q.V (b := 0) (av := [.ref 1011]) (ps := [0, 1, 2, 3, 4, 5, 6, 7, 8, 9, 10, 11, 12, 13, 14, 15, 16, 17, 18, 19, 20, 21, 22, 23, 24]) (rest := []) (cs1 := (W_Read v12.2.1 v12.2.2 hv hh hr hc)) (cs2 := (W_Read v14.1 v14.2 hv hh hr hc)) (st' := []) (cs' := (W_Read v14.1 v14.2 hv hh hr hc)) (q := (57, .null, 0, 0, 0)) lk_Read_52 (r_Read_skipWord N v12.2.1 v12.2.2 hv hh hr hc 11 v14 e15) rfl rfl rfl rfl rfl (Or.inl ⟨5, _, _, rfl, rfl, rfl⟩) rfl rfl (sc_Read_Read_0 v12.2.1 v12.2.2 hv hh hr hc) rfl rfl (pc_Read_Read_0 v12.2.1 v12.2.2 hv hh hr hc v14.1 v14.2 hv hh hr hc) ?_
    refine sv_Q.s (σ' := (64, [some (.ref 0), some (.int v3.1), some (.int v12.1), none, none, none], [.int (9 : Int32), .int (1 : Int32), .ref 0], (W_Read v14.1 v14.2 hv hh hr hc))) 3 rfl ?_
    refine sv_Q.o (fun v16 e17 => ?_)
    refine sv_Q.V (b := 0) (av := [.int (1 : Int32), .int (9 : Int32)]) (ps := [0, 1, 2, 3, 4, 5, 6, 7, 8, 9, 10, 11, 12, 13, 14, 15, 16, 17, 18, 19, 20, 21, 22, 23, 24]) (rest := []) (cs1 := (W_Read v14.1 v14.2 hv hh hr hc)) (cs2 := (W_Read v16.2.1 v16.2.2 hv hh hr hc)) (st' := [.int v16.1]) (cs' := (W_Read v16.2.1 v16.2.2 hv hh hr hc)) (q := (64, .null, 0, 0, 0)) lk_Read_58 (r_Read_takeNumber N v14.1 v14.2 hv hh hr hc (1 : Int32) (9 : Int32) v16 e17) rfl rfl rfl rfl rfl (Or.inl ⟨5, _, _, rfl, rfl, rfl⟩) rfl rfl (sc_Read_Read_0 v14.1 v14.2 hv hh hr hc) rfl rfl (pc_Read_Read_0 v14.1 v14.2 hv hh hr hc v16.2.1 v16.2.2 hv hh hr hc) ?_
    refine sv_Q.s (σ' := (71, [some (.ref 0), some (.int v3.1), some (.int v12.1), some (.int v16.1), none, none], [.ref 1012, .ref 0], (W_Read v16.2.1 v16.2.2 hv hh hr hc))) 3 rfl ?_
    refine sv_Q.o (fun v18 e19 => ?_)
    refine sv_Q.V (b := 0) (av := [.ref 1012]) (ps := [0, 1, 2, 3, 4, 5, 6, 7, 8, 9, 10, 11, 12, 13, 14, 15, 16, 17, 18, 19, 20, 21, 22, 23, 24]) (rest := []) (cs1 := (W_Read v16.2.1 v16.2.2 hv hh hr hc)) (cs2 := (W_Read v16.2.1 v18.2 hv hh hr hc)) (st' := [.int v18.1]) (cs' := (W_Read v16.2.1 v18.2 hv hh hr hc)) (q := (71, .null, 0, 0, 0)) lk_Read_130 (r_Read_takeOption N v16.2.1 v16.2.2 hv hh hr hc 12 v18 e19) rfl rfl rfl rfl rfl (Or.inl ⟨5, _, _, rfl, rfl, rfl⟩) rfl rfl (sc_Read_Read_0 v16.2.1 v16.2.2 hv hh hr hc) rfl rfl (pc_Read_Read_0 v16.2.1 v16.2.2 hv hh hr hc v16.2.1 v18.2 hv hh hr hc) ?_
    refine sv_Q.lo (fun v23 => (87, [some (.ref 0), some (.int v3.1), some (.int v12.1), some (.int v16.1), none, none], [.int v23.1], (W_Read v23.2.1 v23.2.2 hv hh hr hc))) (fun v23 => ?_) ?_
    · refine sv_Q.s (σ' := (92, [some (.ref 0), some (.int v3.1), some (.int v12.1), some (.int v16.1), some (.int v23.1), none], [.ref 1013, .ref 0], (W_Read v23.2.1 v23.2.2 hv hh hr hc))) 3 rfl ?_
      refine sv_Q.o (fun v24 e25 => ?_)
      refine sv_Q.V (b := 0) (av := [.ref 1013]) (ps := [0, 1, 2, 3, 4, 5, 6, 7, 8, 9, 10, 11, 12, 13, 14, 15, 16, 17, 18, 19, 20, 21, 22, 23, 24]) (rest := []) (cs1 := (W_Read v23.2.1 v23.2.2 hv hh hr hc)) (cs2 := (W_Read v23.2.1 v24.2 hv hh hr hc)) (st' := [.int v24.1]) (cs' := (W_Read v23.2.1 v24.2 hv hh hr hc)) (q := (92, .null, 0, 0, 0)) lk_Read_130 (r_Read_takeOption N v23.2.1 v23.2.2 hv hh hr hc 13 v24 e25) rfl rfl rfl rfl rfl (Or.inl ⟨5, _, _, rfl, rfl, rfl⟩) rfl rfl (sc_Read_Read_0 v23.2.1 v23.2.2 hv hh hr hc) rfl rfl (pc_Read_Read_0 v23.2.1 v23.2.2 hv hh hr hc v23.2.1 v24.2 hv hh hr hc) ?_
      refine sv_Q.s (σ' := (101, [some (.ref 0), some (.int v3.1), some (.int v12.1), some (.int v16.1), some (.int v23.1), some (.int v24.1)], [.int (v23.2.1 0 0)], (W_Read v23.2.1 v24.2 hv hh hr hc))) 3 rfl ?_
      refine sv_Q.b rfl (fun c26 => ?_) (fun c26 => ?_)
      · exact sv_Q.z ⟨True, rfl, trivial, rfl⟩
      · refine sv_Q.s (σ' := (118, [some (.ref 0), some (.int v3.1), some (.int v12.1), some (.int v16.1), some (.int v23.1), some (.int v24.1)], [.int v24.1, .int v23.1, .int v16.1, .int v12.1, .int v3.1, .ref 11], (W_Read v23.2.1 v24.2 hv hh hr hc))) 8 rfl ?_
        refine sv_Q.l (fun v28 => (126, [none, none, none, none, none, none], [.int v28, .int v23.1, .int v16.1, .int v12.1, .int v3.1, .ref 11], (W_Read v23.2.1 v24.2 hv hh hr hc))) (fun v28 => ?_) ?_
        · refine sv_Q.V (b := 0) (av := [.int v3.1, .int v12.1, .int v16.1, .int v23.1, .int v28]) (ps := [11, 12, 13, 14, 15, 16, 17, 18]) (rest := []) (cs1 := (W_Rules hr)) (cs2 := (W_Rules (F_Rules_tellLevel v3.1 v12.1 v16.1 v23.1 v28 hr))) (st' := []) (cs' := (W_Read v23.2.1 v24.2 hv hh (F_Rules_tellLevel v3.1 v12.1 v16.1 v23.1 v28 hr) hc)) (q := (126, .null, 0, 0, 0)) lk_Read_162 (t_Rules_tellLevel hr v3.1 v12.1 v16.1 v23.1 v28) rfl rfl rfl rfl rfl (Or.inl ⟨6, _, _, rfl, rfl, rfl⟩) rfl rfl (sc_Read_Rules_4 v23.2.1 v24.2 hv hh hr hc) rfl rfl (pc_Read_Rules_4 v23.2.1 v24.2 hv hh hr hc (F_Rules_tellLevel v3.1 v12.1 v16.1 v23.1 v28 hr)) ?_
          refine sv_Q.go (fun hr_29 => (129, [none, none, none, none, none, none], [], (W_Read v23.2.1 v24.2 hv hh hr_29 hc))) (fun hr_29 => ?_)
          exact sv_Q.z ⟨True, rfl, trivial, rfl⟩
        · refine sv_Q.sb rfl (fun c27 => ?_) (fun c27 => ?_)
          · refine sv_Q.s (σ' := (126, [some (.ref 0), some (.int v3.1), some (.int v12.1), some (.int v16.1), some (.int v23.1), some (.int v24.1)], [.int (0 : Int32), .int v23.1, .int v16.1, .int v12.1, .int v3.1, .ref 11], (W_Read v23.2.1 v24.2 hv hh hr hc))) 1 rfl ?_
            refine sv_Q.f (lo' := [none, none, none, none, none, none]) trivial ?_
            exact sv_Q.z rfl
          · refine sv_Q.s (σ' := (126, [some (.ref 0), some (.int v3.1), some (.int v12.1), some (.int v16.1), some (.int v23.1), some (.int v24.1)], [.int (1 : Int32), .int v23.1, .int v16.1, .int v12.1, .int v3.1, .ref 11], (W_Read v23.2.1 v24.2 hv hh hr hc))) 2 rfl ?_
            refine sv_Q.f (lo' := [none, none, none, none, none, none]) trivial ?_
            exact sv_Q.z rfl
    · refine sv_Q.b rfl (fun c20 => ?_) (fun c20 => ?_)
      · refine sv_Q.s (σ' := (87, [some (.ref 0), some (.int v3.1), some (.int v12.1), some (.int v16.1), none, none], [.int (0 : Int32)], (W_Read v16.2.1 v18.2 hv hh hr hc))) 1 rfl ?_
        exact sv_Q.z rfl
      · refine sv_Q.s (σ' := (80, [some (.ref 0), some (.int v3.1), some (.int v12.1), some (.int v16.1), none, none], [.int (5 : Int32), .int (1 : Int32), .ref 0], (W_Read v16.2.1 v18.2 hv hh hr hc))) 3 rfl ?_
        refine sv_Q.o (fun v21 e22 => ?_)
        refine sv_Q.V (b := 0) (av := [.int (1 : Int32), .int (5 : Int32)]) (ps := [0, 1, 2, 3, 4, 5, 6, 7, 8, 9, 10, 11, 12, 13, 14, 15, 16, 17, 18, 19, 20, 21, 22, 23, 24]) (rest := []) (cs1 := (W_Read v16.2.1 v18.2 hv hh hr hc)) (cs2 := (W_Read v21.2.1 v21.2.2 hv hh hr hc)) (st' := [.int v21.1]) (cs' := (W_Read v21.2.1 v21.2.2 hv hh hr hc)) (q := (80, .null, 0, 0, 0)) lk_Read_58 (r_Read_takeNumber N v16.2.1 v18.2 hv hh hr hc (1 : Int32) (5 : Int32) v21 e22) rfl rfl rfl rfl rfl (Or.inl ⟨5, _, _, rfl, rfl, rfl⟩) rfl rfl (sc_Read_Read_0 v16.2.1 v18.2 hv hh hr hc) rfl rfl (pc_Read_Read_0 v16.2.1 v18.2 hv hh hr hc v21.2.1 v21.2.2 hv hh hr hc) ?_
        refine sv_Q.s (σ' := (87, [some (.ref 0), some (.int v3.1), some (.int v12.1), some (.int v16.1), none, none], [.int v21.1], (W_Read v21.2.1 v21.2.2 hv hh hr hc))) 1 rfl ?_
        exact sv_Q.z rfl
  · refine sv_Q.sb rfl (fun c5 => ?_) (fun c5 => ?_)
    · exact sv_Q.z rfl
    · refine sv_Q.s (σ' := (30, [some (.ref 0), some (.int v3.1), none, none, none, none], [.int (3 : Int32), .ref 0], (W_Read v3.2 v1 hv hh hr hc))) 2 rfl ?_
      refine sv_Q.V (b := 0) (av := [.int (3 : Int32)]) (ps := [0, 1, 2, 3, 4, 5, 6, 7, 8, 9, 10, 11, 12, 13, 14, 15, 16, 17, 18, 19, 20, 21, 22, 23, 24]) (rest := []) (cs1 := (W_Read v3.2 v1 hv hh hr hc)) (cs2 := (W_Read (F_Read_fail (3 : Int32) v3.2 v1) v1 hv hh hr hc)) (st' := []) (cs' := (W_Read (F_Read_fail (3 : Int32) v3.2 v1) v1 hv hh hr hc)) (q := (30, .null, 0, 0, 0)) lk_Read_71 (t_Read_fail v3.2 v1 hv hh hr hc (3 : Int32)) rfl rfl rfl rfl rfl (Or.inl ⟨5, _, _, rfl, rfl, rfl⟩) rfl rfl (sc_Read_Read_0 v3.2 v1 hv hh hr hc) rfl rfl (pc_Read_Read_0 v3.2 v1 hv hh hr hc (F_Read_fail (3 : Int32) v3.2 v1) v1 hv hh hr hc) ?_
      refine sv_Q.gs (fun hd_6 => (33, [some (.ref 0), some (.int v3.1), none, none, none, none], [], (W_Read hd_6 v1 hv hh hr hc))) (fun hd_6 => ?_)
      exact sv_Q.z rfl
def F_Read_readKind (N : Nat) (hd ht hr : Nat → Nat → Int32) : Option ((Nat → Nat → Int32) × (Nat → Nat → Int32) × (Nat → Nat → Int32)) := (sv_let (if (hr 0 0) < (7 : Int32) then hd else (sv_let (F_Read_fail (4 : Int32) hd ht) fun (hd_2 : Nat → Nat → Int32) => hd_2)) fun (v3 : (Nat → Nat → Int32)) => (Option.bind (F_Tape_advance N ht) fun (v4 : (Nat → Nat → Int32)) => (Option.bind (F_Read_takeOption N 4 v4) fun (v6 : Int32 × (Nat → Nat → Int32)) => (Option.bind (if v6.1 = 0 then (Option.bind (F_Read_takeOption N 3 v6.2) fun (v9 : Int32 × (Nat → Nat → Int32)) => (if v9.1 = 0 then some ((0 : Int32), v9.2) else some ((2 : Int32), v9.2))) else some ((1 : Int32), v6.2)) fun (v12 : Int32 × (Nat → Nat → Int32)) => (if ¬ (v3 0 0) = 0 then (some (v3, v12.2, hr)) else (sv_let (F_Rules_addKind v12.1 hr) fun (hr_14 : Nat → Nat → Int32) => (some (v3, v12.2, hr_14))))))))
theorem r_Read_readKind {X : Nat × (Nat → Int32)} (N : Nat) (hd ht hv hh hr hc : Nat → Nat → Int32) : ∀ x, (F_Read_readKind N hd ht hr) = some x → sv_R X 10 M_Read_readKind [.ref 0] (W_Read hd ht hv hh hr hc) none (W_Read x.1 x.2.1 hv hh x.2.2 hc) := by
  refine sv_Q.R (res := (fun (x : (Nat → Nat → Int32) × (Nat → Nat → Int32) × (Nat → Nat → Int32)) => ((none : Option Value), (W_Read x.1 x.2.1 hv hh x.2.2 hc)))) g_Read_readKind rfl ?_
  unfold F_Read_readKind
  refine sv_Q.s (σ' := (12, [some (.ref 0), none], [.int (7 : Int32), .int (hr 0 0)], (W_Read hd ht hv hh hr hc))) 5 rfl ?_
  refine sv_Q.l (fun v3 => (20, [some (.ref 0), none], [], (W_Read v3 ht hv hh hr hc))) (fun v3 => ?_) ?_
  · refine sv_Q.s (σ' := (24, [some (.ref 0), none], [.ref 1], (W_Read v3 ht hv hh hr hc))) 2 rfl ?_
    refine sv_Q.o (fun v4 e5 => ?_)
    refine sv_Q.V (b := 0) (av := []) (ps := [1, 2]) (rest := []) (cs1 := (W_Tape ht)) (cs2 := (W_Tape v4)) (st' := []) (cs' := (W_Read v3 v4 hv hh hr hc)) (q := (24, .null, 0, 0, 0)) lk_Read_75 (r_Tape_advance N ht v4 e5) rfl rfl rfl rfl rfl (Or.inl ⟨9, _, _, rfl, rfl, rfl⟩) rfl rfl (sc_Read_Tape_1 v3 ht hv hh hr hc) rfl rfl (pc_Read_Tape_1 v3 ht hv hh hr hc v4) ?_
    refine sv_Q.s (σ' := (32, [some (.ref 0), some (.int (0 : Int32))], [.ref 1004, .ref 0], (W_Read v3 v4 hv hh hr hc))) 4 rfl ?_
    refine sv_Q.o (fun v6 e7 => ?_)
    refine sv_Q.V (b := 0) (av := [.ref 1004]) (ps := [0, 1, 2, 3, 4, 5, 6, 7, 8, 9, 10, 11, 12, 13, 14, 15, 16, 17, 18, 19, 20, 21, 22, 23, 24]) (rest := []) (cs1 := (W_Read v3 v4 hv hh hr hc)) (cs2 := (W_Read v3 v6.2 hv hh hr hc)) (st' := [.int v6.1]) (cs' := (W_Read v3 v6.2 hv hh hr hc)) (q := (32, .null, 0, 0, 0)) lk_Read_130 (r_Read_takeOption N v3 v4 hv hh hr hc 4 v6 e7) rfl rfl rfl rfl rfl (Or.inl ⟨5, _, _, rfl, rfl, rfl⟩) rfl rfl (sc_Read_Read_0 v3 v4 hv hh hr hc) rfl rfl (pc_Read_Read_0 v3 v4 hv hh hr hc v3 v6.2 hv hh hr hc) ?_
    refine sv_Q.lo (fun v12 => (54, [some (.ref 0), some (.int v12.1)], [], (W_Read v3 v12.2 hv hh hr hc))) (fun v12 => ?_) ?_
    · refine sv_Q.s (σ' := (58, [some (.ref 0), some (.int v12.1)], [.int (v3 0 0)], (W_Read v3 v12.2 hv hh hr hc))) 2 rfl ?_
      refine sv_Q.b rfl (fun c13 => ?_) (fun c13 => ?_)
      · exact sv_Q.z ⟨True, rfl, trivial, rfl⟩
      · refine sv_Q.s (σ' := (69, [some (.ref 0), some (.int v12.1)], [.int v12.1, .ref 11], (W_Read v3 v12.2 hv hh hr hc))) 4 rfl ?_
        refine sv_Q.V (b := 0) (av := [.int v12.1]) (ps := [11, 12, 13, 14, 15, 16, 17, 18]) (rest := []) (cs1 := (W_Rules hr)) (cs2 := (W_Rules (F_Rules_addKind v12.1 hr))) (st' := []) (cs' := (W_Read v3 v12.2 hv hh (F_Rules_addKind v12.1 hr) hc)) (q := (69, .null, 0, 0, 0)) lk_Read_169 (t_Rules_addKind hr v12.1) rfl rfl rfl rfl rfl (Or.inl ⟨6, _, _, rfl, rfl, rfl⟩) rfl rfl (sc_Read_Rules_4 v3 v12.2 hv hh hr hc) rfl rfl (pc_Read_Rules_4 v3 v12.2 hv hh hr hc (F_Rules_addKind v12.1 hr)) ?_
        refine sv_Q.go (fun hr_14 => (72, [some (.ref 0), some (.int v12.1)], [], (W_Read v3 v12.2 hv hh hr_14 hc))) (fun hr_14 => ?_)
        exact sv_Q.z ⟨True, rfl, trivial, rfl⟩
    · refine sv_Q.b rfl (fun c8 => ?_) (fun c8 => ?_)
      · refine sv_Q.s (σ' := (46, [some (.ref 0), some (.int (0 : Int32))], [.ref 1003, .ref 0], (W_Read v3 v6.2 hv hh hr hc))) 2 rfl ?_
        refine sv_Q.o (fun v9 e10 => ?_)
        refine sv_Q.V (b := 0) (av := [.ref 1003]) (ps := [0, 1, 2, 3, 4, 5, 6, 7, 8, 9, 10, 11, 12, 13, 14, 15, 16, 17, 18, 19, 20, 21, 22, 23, 24]) (rest := []) (cs1 := (W_Read v3 v6.2 hv hh hr hc)) (cs2 := (W_Read v3 v9.2 hv hh hr hc)) (st' := [.int v9.1]) (cs' := (W_Read v3 v9.2 hv hh hr hc)) (q := (46, .null, 0, 0, 0)) lk_Read_130 (r_Read_takeOption N v3 v6.2 hv hh hr hc 3 v9 e10) rfl rfl rfl rfl rfl (Or.inl ⟨5, _, _, rfl, rfl, rfl⟩) rfl rfl (sc_Read_Read_0 v3 v6.2 hv hh hr hc) rfl rfl (pc_Read_Read_0 v3 v6.2 hv hh hr hc v3 v9.2 hv hh hr hc) ?_
        refine sv_Q.b rfl (fun c11 => ?_) (fun c11 => ?_)
        · exact sv_Q.z rfl
        · refine sv_Q.s (σ' := (54, [some (.ref 0), some (.int (2 : Int32))], [], (W_Read v3 v9.2 hv hh hr hc))) 2 rfl ?_
          exact sv_Q.z rfl
      · refine sv_Q.s (σ' := (54, [some (.ref 0), some (.int (1 : Int32))], [], (W_Read v3 v6.2 hv hh hr hc))) 3 rfl ?_
        exact sv_Q.z rfl
  · refine sv_Q.sb rfl (fun c1 => ?_) (fun c1 => ?_)
    · exact sv_Q.z rfl
    · refine sv_Q.s (σ' := (17, [some (.ref 0), none], [.int (4 : Int32), .ref 0], (W_Read hd ht hv hh hr hc))) 2 rfl ?_
      refine sv_Q.V (b := 0) (av := [.int (4 : Int32)]) (ps := [0, 1, 2, 3, 4, 5, 6, 7, 8, 9, 10, 11, 12, 13, 14, 15, 16, 17, 18, 19, 20, 21, 22, 23, 24]) (rest := []) (cs1 := (W_Read hd ht hv hh hr hc)) (cs2 := (W_Read (F_Read_fail (4 : Int32) hd ht) ht hv hh hr hc)) (st' := []) (cs' := (W_Read (F_Read_fail (4 : Int32) hd ht) ht hv hh hr hc)) (q := (17, .null, 0, 0, 0)) lk_Read_71 (t_Read_fail hd ht hv hh hr hc (4 : Int32)) rfl rfl rfl rfl rfl (Or.inl ⟨5, _, _, rfl, rfl, rfl⟩) rfl rfl (sc_Read_Read_0 hd ht hv hh hr hc) rfl rfl (pc_Read_Read_0 hd ht hv hh hr hc (F_Read_fail (4 : Int32) hd ht) ht hv hh hr hc) ?_
      refine sv_Q.gs (fun hd_2 => (20, [some (.ref 0), none], [], (W_Read hd_2 ht hv hh hr hc))) (fun hd_2 => ?_)
      exact sv_Q.z rfl
def F_Read_readApart (N : Nat) (hd ht hr : Nat → Nat → Int32) : Option ((Nat → Nat → Int32) × (Nat → Nat → Int32) × (Nat → Nat → Int32)) := (Option.bind (F_Tape_advance N ht) fun (v1 : (Nat → Nat → Int32)) => (Option.bind (F_Read_takeNumber N (0 : Int32) ((hr 0 0) - (1 : Int32)) hd v1) fun (v3 : Int32 × (Nat → Nat → Int32) × (Nat → Nat → Int32)) => (sv_let (F_Read_seeNumber (0 : Int32) ((hr 0 0) - (1 : Int32)) v3.2.1 v3.2.2) fun (v5 : Int32 × (Nat → Nat → Int32)) => (sv_let (if (F_Rules_levelOf v3.1 v5.1 hr) = 0 then v5.2 else (sv_let (F_Read_fail (3 : Int32) v5.2 v3.2.2) fun (hd_8 : Nat → Nat → Int32) => hd_8)) fun (v9 : (Nat → Nat → Int32)) => (Option.bind (F_Tape_advance N v3.2.2) fun (v10 : (Nat → Nat → Int32)) => (sv_let (F_Read_seeNumber (1 : Int32) (4 : Int32) v9 v10) fun (v12 : Int32 × (Nat → Nat → Int32)) => (sv_let (if ¬ (F_Rules_hasLevel v12.1 hr) = 0 then v12.2 else (sv_let (F_Read_fail (2 : Int32) v12.2 v10) fun (hd_15 : Nat → Nat → Int32) => hd_15)) fun (v16 : (Nat → Nat → Int32)) => (Option.bind (F_Tape_advance N v10) fun (v17 : (Nat → Nat → Int32)) => (if ¬ (v16 0 0) = 0 then (some (v16, v17, hr)) else (sv_let (F_Rules_tellApart v3.1 v5.1 v12.1 hr) fun (hr_20 : Nat → Nat → Int32) => (some (v16, v17, hr_20))))))))))))
theorem r_Read_readApart {X : Nat × (Nat → Int32)} (N : Nat) (hd ht hv hh hr hc : Nat → Nat → Int32) : ∀ x, (F_Read_readApart N hd ht hr) = some x → sv_R X 5 M_Read_readApart [.ref 0] (W_Read hd ht hv hh hr hc) none (W_Read x.1 x.2.1 hv hh x.2.2 hc) := by
  refine sv_Q.R (res := (fun (x : (Nat → Nat → Int32) × (Nat → Nat → Int32) × (Nat → Nat → Int32)) => ((none : Option Value), (W_Read x.1 x.2.1 hv hh x.2.2 hc)))) g_Read_readApart rfl ?_
  unfold F_Read_readApart
  refine sv_Q.s (σ' := (4, [some (.ref 0), none, none, none], [.ref 1], (W_Read hd ht hv hh hr hc))) 2 rfl ?_
  refine sv_Q.o (fun v1 e2 => ?_)
  refine sv_Q.V (b := 0) (av := []) (ps := [1, 2]) (rest := []) (cs1 := (W_Tape ht)) (cs2 := (W_Tape v1)) (st' := []) (cs' := (W_Read hd v1 hv hh hr hc)) (q := (4, .null, 0, 0, 0)) lk_Read_75 (r_Tape_advance N ht v1 e2) rfl rfl rfl rfl rfl (Or.inl ⟨9, _, _, rfl, rfl, rfl⟩) rfl rfl (sc_Read_Tape_1 hd ht hv hh hr hc) rfl rfl (pc_Read_Tape_1 hd ht hv hh hr hc v1) ?_
  refine sv_Q.s (σ' := (21, [some (.ref 0), none, none, none], [.int ((hr 0 0) - (1 : Int32)), .int (0 : Int32), .ref 0], (W_Read hd v1 hv hh hr hc))) 8 rfl ?_
  refine sv_Q.o (fun v3 e4 => ?_)
  refine sv_Q.V (b := 0) (av := [.int (0 : Int32), .int ((hr 0 0) - (1 : Int32))]) (ps := [0, 1, 2, 3, 4, 5, 6, 7, 8, 9, 10, 11, 12, 13, 14, 15, 16, 17, 18, 19, 20, 21, 22, 23, 24]) (rest := []) (cs1 := (W_Read hd v1 hv hh hr hc)) (cs2 := (W_Read v3.2.1 v3.2.2 hv hh hr hc)) (st' := [.int v3.1]) (cs' := (W_Read v3.2.1 v3.2.2 hv hh hr hc)) (q := (21, .null, 0, 0, 0)) lk_Read_58 (r_Read_takeNumber N hd v1 hv hh hr hc (0 : Int32) ((hr 0 0) - (1 : Int32)) v3 e4) rfl rfl rfl rfl rfl (Or.inl ⟨5, _, _, rfl, rfl, rfl⟩) rfl rfl (sc_Read_Read_0 hd v1 hv hh hr hc) rfl rfl (pc_Read_Read_0 hd v1 hv hh hr hc v3.2.1 v3.2.2 hv hh hr hc) ?_
  refine sv_Q.s (σ' := (39, [some (.ref 0), some (.int v3.1), none, none], [.int ((hr 0 0) - (1 : Int32)), .int (0 : Int32), .ref 0], (W_Read v3.2.1 v3.2.2 hv hh hr hc))) 9 rfl ?_
  refine sv_Q.lt (fun v5 e6 => ?_)
  refine sv_Q.V (b := 0) (av := [.int (0 : Int32), .int ((hr 0 0) - (1 : Int32))]) (ps := [0, 1, 2, 3, 4, 5, 6, 7, 8, 9, 10, 11, 12, 13, 14, 15, 16, 17, 18, 19, 20, 21, 22, 23, 24]) (rest := []) (cs1 := (W_Read v3.2.1 v3.2.2 hv hh hr hc)) (cs2 := (W_Read v5.2 v3.2.2 hv hh hr hc)) (st' := [.int v5.1]) (cs' := (W_Read v5.2 v3.2.2 hv hh hr hc)) (q := (39, .null, 0, 0, 0)) lk_Read_68 (r_Read_seeNumber v3.2.1 v3.2.2 hv hh hr hc (0 : Int32) ((hr 0 0) - (1 : Int32)) v5 e6) rfl rfl rfl rfl rfl (Or.inl ⟨5, _, _, rfl, rfl, rfl⟩) rfl rfl (sc_Read_Read_0 v3.2.1 v3.2.2 hv hh hr hc) rfl rfl (pc_Read_Read_0 v3.2.1 v3.2.2 hv hh hr hc v5.2 v3.2.2 hv hh hr hc) ?_
  refine sv_Q.s (σ' := (52, [some (.ref 0), some (.int v3.1), some (.int v5.1), none], [.int v5.1, .int v3.1, .ref 11], (W_Read v5.2 v3.2.2 hv hh hr hc))) 6 rfl ?_
  refine sv_Q.V (b := 0) (av := [.int v3.1, .int v5.1]) (ps := [11, 12, 13, 14, 15, 16, 17, 18]) (rest := []) (cs1 := (W_Rules hr)) (cs2 := (W_Rules hr)) (st' := [.int (F_Rules_levelOf v3.1 v5.1 hr)]) (cs' := (W_Read v5.2 v3.2.2 hv hh hr hc)) (q := (52, .null, 0, 0, 0)) lk_Read_172 (t_Rules_levelOf hr v3.1 v5.1) rfl rfl rfl rfl rfl (Or.inl ⟨6, _, _, rfl, rfl, rfl⟩) rfl rfl (sc_Read_Rules_4 v5.2 v3.2.2 hv hh hr hc) rfl rfl (pc_Read_Rules_4 v5.2 v3.2.2 hv hh hr hc hr) ?_
  refine sv_Q.l (fun v9 => (63, [some (.ref 0), some (.int v3.1), some (.int v5.1), none], [], (W_Read v9 v3.2.2 hv hh hr hc))) (fun v9 => ?_) ?_
  · refine sv_Q.s (σ' := (67, [some (.ref 0), some (.int v3.1), some (.int v5.1), none], [.ref 1], (W_Read v9 v3.2.2 hv hh hr hc))) 2 rfl ?_
    refine sv_Q.o (fun v10 e11 => ?_)
    refine sv_Q.V (b := 0) (av := []) (ps := [1, 2]) (rest := []) (cs1 := (W_Tape v3.2.2)) (cs2 := (W_Tape v10)) (st' := []) (cs' := (W_Read v9 v10 hv hh hr hc)) (q := (67, .null, 0, 0, 0)) lk_Read_75 (r_Tape_advance N v3.2.2 v10 e11) rfl rfl rfl rfl rfl (Or.inl ⟨9, _, _, rfl, rfl, rfl⟩) rfl rfl (sc_Read_Tape_1 v9 v3.2.2 hv hh hr hc) rfl rfl (pc_Read_Tape_1 v9 v3.2.2 hv hh hr hc v10) ?_
    refine sv_Q.s (σ' := (73, [some (.ref 0), some (.int v3.1), some (.int v5.1), none], [.int (4 : Int32), .int (1 : Int32), .ref 0], (W_Read v9 v10 hv hh hr hc))) 3 rfl ?_
    refine sv_Q.lt (fun v12 e13 => ?_)
    refine sv_Q.V (b := 0) (av := [.int (1 : Int32), .int (4 : Int32)]) (ps := [0, 1, 2, 3, 4, 5, 6, 7, 8, 9, 10, 11, 12, 13, 14, 15, 16, 17, 18, 19, 20, 21, 22, 23, 24]) (rest := []) (cs1 := (W_Read v9 v10 hv hh hr hc)) (cs2 := (W_Read v12.2 v10 hv hh hr hc)) (st' := [.int v12.1]) (cs' := (W_Read v12.2 v10 hv hh hr hc)) (q := (73, .null, 0, 0, 0)) lk_Read_68 (r_Read_seeNumber v9 v10 hv hh hr hc (1 : Int32) (4 : Int32) v12 e13) rfl rfl rfl rfl rfl (Or.inl ⟨5, _, _, rfl, rfl, rfl⟩) rfl rfl (sc_Read_Read_0 v9 v10 hv hh hr hc) rfl rfl (pc_Read_Read_0 v9 v10 hv hh hr hc v12.2 v10 hv hh hr hc) ?_
    refine sv_Q.s (σ' := (85, [some (.ref 0), some (.int v3.1), some (.int v5.1), some (.int v12.1)], [.int v12.1, .ref 11], (W_Read v12.2 v10 hv hh hr hc))) 5 rfl ?_
    refine sv_Q.V (b := 0) (av := [.int v12.1]) (ps := [11, 12, 13, 14, 15, 16, 17, 18]) (rest := []) (cs1 := (W_Rules hr)) (cs2 := (W_Rules hr)) (st' := [.int (F_Rules_hasLevel v12.1 hr)]) (cs' := (W_Read v12.2 v10 hv hh hr hc)) (q := (85, .null, 0, 0, 0)) lk_Read_148 (t_Rules_hasLevel hr v12.1) rfl rfl rfl rfl rfl (Or.inl ⟨6, _, _, rfl, rfl, rfl⟩) rfl rfl (sc_Read_Rules_4 v12.2 v10 hv hh hr hc) rfl rfl (pc_Read_Rules_4 v12.2 v10 hv hh hr hc hr) ?_
    refine sv_Q.l (fun v16 => (96, [some (.ref 0), some (.int v3.1), some (.int v5.1), some (.int v12.1)], [], (W_Read v16 v10 hv hh hr hc))) (fun v16 => ?_) ?_
    · refine sv_Q.s (σ' := (100, [some (.ref 0), some (.int v3.1), some (.int v5.1), some (.int v12.1)], [.ref 1], (W_Read v16 v10 hv hh hr hc))) 2 rfl ?_
      refine sv_Q.o (fun v17 e18 => ?_)
      refine sv_Q.V (b := 0) (av := []) (ps := [1, 2]) (rest := []) (cs1 := (W_Tape v10)) (cs2 := (W_Tape v17)) (st' := []) (cs' := (W_Read v16 v17 hv hh hr hc)) (q := (100, .null, 0, 0, 0)) lk_Read_75 (r_Tape_advance N v10 v17 e18) rfl rfl rfl rfl rfl (Or.inl ⟨9, _, _, rfl, rfl, rfl⟩) rfl rfl (sc_Read_Tape_1 v16 v10 hv hh hr hc) rfl rfl (pc_Read_Tape_1 v16 v10 hv hh hr hc v17) ?_
      refine sv_Q.s (σ' := (107, [some (.ref 0), some (.int v3.1), some (.int v5.1), some (.int v12.1)], [.int (v16 0 0)], (W_Read v16 v17 hv hh hr hc))) 2 rfl ?_
      refine sv_Q.b rfl (fun c19 => ?_) (fun c19 => ?_)
      · exact sv_Q.z ⟨True, rfl, trivial, rfl⟩
      · refine sv_Q.s (σ' := (120, [some (.ref 0), some (.int v3.1), some (.int v5.1), some (.int v12.1)], [.int v12.1, .int v5.1, .int v3.1, .ref 11], (W_Read v16 v17 hv hh hr hc))) 6 rfl ?_
        refine sv_Q.V (b := 0) (av := [.int v3.1, .int v5.1, .int v12.1]) (ps := [11, 12, 13, 14, 15, 16, 17, 18]) (rest := []) (cs1 := (W_Rules hr)) (cs2 := (W_Rules (F_Rules_tellApart v3.1 v5.1 v12.1 hr))) (st' := []) (cs' := (W_Read v16 v17 hv hh (F_Rules_tellApart v3.1 v5.1 v12.1 hr) hc)) (q := (120, .null, 0, 0, 0)) lk_Read_175 (t_Rules_tellApart hr v3.1 v5.1 v12.1) rfl rfl rfl rfl rfl (Or.inl ⟨6, _, _, rfl, rfl, rfl⟩) rfl rfl (sc_Read_Rules_4 v16 v17 hv hh hr hc) rfl rfl (pc_Read_Rules_4 v16 v17 hv hh hr hc (F_Rules_tellApart v3.1 v5.1 v12.1 hr)) ?_
        refine sv_Q.go (fun hr_20 => (123, [some (.ref 0), some (.int v3.1), some (.int v5.1), some (.int v12.1)], [], (W_Read v16 v17 hv hh hr_20 hc))) (fun hr_20 => ?_)
        exact sv_Q.z ⟨True, rfl, trivial, rfl⟩
    · refine sv_Q.sb rfl (fun c14 => ?_) (fun c14 => ?_)
      · exact sv_Q.z rfl
      · refine sv_Q.s (σ' := (93, [some (.ref 0), some (.int v3.1), some (.int v5.1), some (.int v12.1)], [.int (2 : Int32), .ref 0], (W_Read v12.2 v10 hv hh hr hc))) 2 rfl ?_
        refine sv_Q.V (b := 0) (av := [.int (2 : Int32)]) (ps := [0, 1, 2, 3, 4, 5, 6, 7, 8, 9, 10, 11, 12, 13, 14, 15, 16, 17, 18, 19, 20, 21, 22, 23, 24]) (rest := []) (cs1 := (W_Read v12.2 v10 hv hh hr hc)) (cs2 := (W_Read (F_Read_fail (2 : Int32) v12.2 v10) v10 hv hh hr hc)) (st' := []) (cs' := (W_Read (F_Read_fail (2 : Int32) v12.2 v10) v10 hv hh hr hc)) (q := (93, .null, 0, 0, 0)) lk_Read_71 (t_Read_fail v12.2 v10 hv hh hr hc (2 : Int32)) rfl rfl rfl rfl rfl (Or.inl ⟨5, _, _, rfl, rfl, rfl⟩) rfl rfl (sc_Read_Read_0 v12.2 v10 hv hh hr hc) rfl rfl (pc_Read_Read_0 v12.2 v10 hv hh hr hc (F_Read_fail (2 : Int32) v12.2 v10) v10 hv hh hr hc) ?_
        refine sv_Q.gs (fun hd_15 => (96, [some (.ref 0), some (.int v3.1), some (.int v5.1), some (.int v12.1)], [], (W_Read hd_15 v10 hv hh hr hc))) (fun hd_15 => ?_)
        exact sv_Q.z rfl
  · refine sv_Q.sb rfl (fun c7 => ?_) (fun c7 => ?_)
    · exact sv_Q.z rfl
    · refine sv_Q.s (σ' := (60, [some (.ref 0), some (.int v3.1), some (.int v5.1), none], [.int (3 : Int32), .ref 0], (W_Read v5.2 v3.2.2 hv hh hr hc))) 2 rfl ?_
      refine sv_Q.V (b := 0) (av := [.int (3 : Int32)]) (ps := [0, 1, 2, 3, 4, 5, 6, 7, 8, 9, 10, 11, 12, 13, 14, 15, 16, 17, 18, 19, 20, 21, 22, 23, 24]) (rest := []) (cs1 := (W_Read v5.2 v3.2.2 hv hh hr hc)) (cs2 := (W_Read (F_Read_fail (3 : Int32) v5.2 v3.2.2) v3.2.2 hv hh hr hc)) (st' := []) (cs' := (W_Read (F_Read_fail (3 : Int32) v5.2 v3.2.2) v3.2.2 hv hh hr hc)) (q := (60, .null, 0, 0, 0)) lk_Read_71 (t_Read_fail v5.2 v3.2.2 hv hh hr hc (3 : Int32)) rfl rfl rfl rfl rfl (Or.inl ⟨5, _, _, rfl, rfl, rfl⟩) rfl rfl (sc_Read_Read_0 v5.2 v3.2.2 hv hh hr hc) rfl rfl (pc_Read_Read_0 v5.2 v3.2.2 hv hh hr hc (F_Read_fail (3 : Int32) v5.2 v3.2.2) v3.2.2 hv hh hr hc) ?_
      refine sv_Q.gs (fun hd_8 => (63, [some (.ref 0), some (.int v3.1), some (.int v5.1), none], [], (W_Read hd_8 v3.2.2 hv hh hr hc))) (fun hd_8 => ?_)
      exact sv_Q.z rfl
def F_Read_readBox (N : Nat) (hd ht hr hc : Nat → Nat → Int32) : Option ((Nat → Nat → Int32) × (Nat → Nat → Int32) × (Nat → Nat → Int32)) := (sv_let (if (hc 0 0) < (24 : Int32) then hd else (sv_let (F_Read_fail (4 : Int32) hd ht) fun (hd_2 : Nat → Nat → Int32) => hd_2)) fun (v3 : (Nat → Nat → Int32)) => (Option.bind (F_Tape_advance N ht) fun (v4 : (Nat → Nat → Int32)) => (Option.bind (F_Read_takeNumber N (0 : Int32) ((hr 0 0) - (1 : Int32)) v3 v4) fun (v6 : Int32 × (Nat → Nat → Int32) × (Nat → Nat → Int32)) => (Option.bind (F_Read_skipWord N 17 v6.2.1 v6.2.2) fun (v8 : (Nat → Nat → Int32) × (Nat → Nat → Int32)) => (Option.bind (F_Read_takeNumber N (1 : Int32) (99 : Int32) v8.1 v8.2) fun (v10 : Int32 × (Nat → Nat → Int32) × (Nat → Nat → Int32)) => (Option.bind (F_Read_takeOption N 18 v10.2.2) fun (v12 : Int32 × (Nat → Nat → Int32)) => (Option.bind (if v12.1 = 0 then some ((1 : Int32), v10.2.1, v12.2) else (Option.bind (F_Read_takeNumber N (1 : Int32) (5 : Int32) v10.2.1 v12.2) fun (v15 : Int32 × (Nat → Nat → Int32) × (Nat → Nat → Int32)) => some (v15.1, v15.2.1, v15.2.2))) fun (v17 : Int32 × (Nat → Nat → Int32) × (Nat → Nat → Int32)) => (if ¬ (v17.2.1 0 0) = 0 then (some (v17.2.1, v17.2.2, hc)) else (sv_let (F_Cargo_add v6.1 v10.1 v17.1 hc) fun (v19 : Int32 × (Nat → Nat → Int32)) => (some (v17.2.1, v17.2.2, v19.2)))))))))))
theorem r_Read_readBox {X : Nat × (Nat → Int32)} (N : Nat) (hd ht hv hh hr hc : Nat → Nat → Int32) : ∀ x, (F_Read_readBox N hd ht hr hc) = some x → sv_R X 10 M_Read_readBox [.ref 0] (W_Read hd ht hv hh hr hc) none (W_Read x.1 x.2.1 hv hh hr x.2.2) := by
  refine sv_Q.R (res := (fun (x : (Nat → Nat → Int32) × (Nat → Nat → Int32) × (Nat → Nat → Int32)) => ((none : Option Value), (W_Read x.1 x.2.1 hv hh hr x.2.2)))) g_Read_readBox rfl ?_
  unfold F_Read_readBox
  refine sv_Q.s (σ' := (12, [some (.ref 0), none, none, none], [.int (24 : Int32), .int (hc 0 0)], (W_Read hd ht hv hh hr hc))) 5 rfl ?_
  refine sv_Q.l (fun v3 => (20, [some (.ref 0), none, none, none], [], (W_Read v3 ht hv hh hr hc))) (fun v3 => ?_) ?_
  · refine sv_Q.s (σ' := (24, [some (.ref 0), none, none, none], [.ref 1], (W_Read v3 ht hv hh hr hc))) 2 rfl ?_
    refine sv_Q.o (fun v4 e5 => ?_)
    refine sv_Q.V (b := 0) (av := []) (ps := [1, 2]) (rest := []) (cs1 := (W_Tape ht)) (cs2 := (W_Tape v4)) (st' := []) (cs' := (W_Read v3 v4 hv hh hr hc)) (q := (24, .null, 0, 0, 0)) lk_Read_75 (r_Tape_advance N ht v4 e5) rfl rfl rfl rfl rfl (Or.inl ⟨9, _, _, rfl, rfl, rfl⟩) rfl rfl (sc_Read_Tape_1 v3 ht hv hh hr hc) rfl rfl (pc_Read_Tape_1 v3 ht hv hh hr hc v4) ?_
    refine sv_Q.s (σ' := (41, [some (.ref 0), none, none, none], [.int ((hr 0 0) - (1 : Int32)), .int (0 : Int32), .ref 0], (W_Read v3 v4 hv hh hr hc))) 8 rfl ?_
    refine sv_Q.o (fun v6 e7 => ?_)
    refine sv_Q.V (b := 0) (av := [.int (0 : Int32), .int ((hr 0 0) - (1 : Int32))]) (ps := [0, 1, 2, 3, 4, 5, 6, 7, 8, 9, 10, 11, 12, 13, 14, 15, 16, 17, 18, 19, 20, 21, 22, 23, 24]) (rest := []) (cs1 := (W_Read v3 v4 hv hh hr hc)) (cs2 := (W_Read v6.2.1 v6.2.2 hv hh hr hc)) (st' := [.int v6.1]) (cs' := (W_Read v6.2.1 v6.2.2 hv hh hr hc)) (q := (41, .null, 0, 0, 0)) lk_Read_58 (r_Read_takeNumber N v3 v4 hv hh hr hc (0 : Int32) ((hr 0 0) - (1 : Int32)) v6 e7) rfl rfl rfl rfl rfl (Or.inl ⟨5, _, _, rfl, rfl, rfl⟩) rfl rfl (sc_Read_Read_0 v3 v4 hv hh hr hc) rfl rfl (pc_Read_Read_0 v3 v4 hv hh hr hc v6.2.1 v6.2.2 hv hh hr hc) ?_
    refine sv_Q.s (σ' := (48, [some (.ref 0), some (.int v6.1), none, none], [.ref 1017, .ref 0], (W_Read v6.2.1 v6.2.2 hv hh hr hc))) 3 rfl ?_
    refine sv_Q.o (fun v8 e9 => ?_)
    refine sv_Q.V (b := 0) (av := [.ref 1017]) (ps := [0, 1, 2, 3, 4, 5, 6, 7, 8, 9, 10, 11, 12, 13, 14, 15, 16, 17, 18, 19, 20, 21, 22, 23, 24]) (rest := []) (cs1 := (W_Read v6.2.1 v6.2.2 hv hh hr hc)) (cs2 := (W_Read v8.1 v8.2 hv hh hr hc)) (st' := []) (cs' := (W_Read v8.1 v8.2 hv hh hr hc)) (q := (48, .null, 0, 0, 0)) lk_Read_52 (r_Read_skipWord N v6.2.1 v6.2.2 hv hh hr hc 17 v8 e9) rfl rfl rfl rfl rfl (Or.inl ⟨5, _, _, rfl, rfl, rfl⟩) rfl rfl (sc_Read_Read_0 v6.2.1 v6.2.2 hv hh hr hc) rfl rfl (pc_Read_Read_0 v6.2.1 v6.2.2 hv hh hr hc v8.1 v8.2 hv hh hr hc) ?_
    refine sv_Q.s (σ' := (55, [some (.ref 0), some (.int v6.1), none, none], [.int (99 : Int32), .int (1 : Int32), .ref 0], (W_Read v8.1 v8.2 hv hh hr hc))) 3 rfl ?_
    refine sv_Q.o (fun v10 e11 => ?_)
    refine sv_Q.V (b := 0) (av := [.int (1 : Int32), .int (99 : Int32)]) (ps := [0, 1, 2, 3, 4, 5, 6, 7, 8, 9, 10, 11, 12, 13, 14, 15, 16, 17, 18, 19, 20, 21, 22, 23, 24]) (rest := []) (cs1 := (W_Read v8.1 v8.2 hv hh hr hc)) (cs2 := (W_Read v10.2.1 v10.2.2 hv hh hr hc)) (st' := [.int v10.1]) (cs' := (W_Read v10.2.1 v10.2.2 hv hh hr hc)) (q := (55, .null, 0, 0, 0)) lk_Read_58 (r_Read_takeNumber N v8.1 v8.2 hv hh hr hc (1 : Int32) (99 : Int32) v10 e11) rfl rfl rfl rfl rfl (Or.inl ⟨5, _, _, rfl, rfl, rfl⟩) rfl rfl (sc_Read_Read_0 v8.1 v8.2 hv hh hr hc) rfl rfl (pc_Read_Read_0 v8.1 v8.2 hv hh hr hc v10.2.1 v10.2.2 hv hh hr hc) ?_
    refine sv_Q.s (σ' := (62, [some (.ref 0), some (.int v6.1), some (.int v10.1), none], [.ref 1018, .ref 0], (W_Read v10.2.1 v10.2.2 hv hh hr hc))) 3 rfl ?_
    refine sv_Q.o (fun v12 e13 => ?_)
    refine sv_Q.V (b := 0) (av := [.ref 1018]) (ps := [0, 1, 2, 3, 4, 5, 6, 7, 8, 9, 10, 11, 12, 13, 14, 15, 16, 17, 18, 19, 20, 21, 22, 23, 24]) (rest := []) (cs1 := (W_Read v10.2.1 v10.2.2 hv hh hr hc)) (cs2 := (W_Read v10.2.1 v12.2 hv hh hr hc)) (st' := [.int v12.1]) (cs' := (W_Read v10.2.1 v12.2 hv hh hr hc)) (q := (62, .null, 0, 0, 0)) lk_Read_130 (r_Read_takeOption N v10.2.1 v10.2.2 hv hh hr hc 18 v12 e13) rfl rfl rfl rfl rfl (Or.inl ⟨5, _, _, rfl, rfl, rfl⟩) rfl rfl (sc_Read_Read_0 v10.2.1 v10.2.2 hv hh hr hc) rfl rfl (pc_Read_Read_0 v10.2.1 v10.2.2 hv hh hr hc v10.2.1 v12.2 hv hh hr hc) ?_
    refine sv_Q.lo (fun v17 => (78, [some (.ref 0), some (.int v6.1), some (.int v10.1), none], [.int v17.1], (W_Read v17.2.1 v17.2.2 hv hh hr hc))) (fun v17 => ?_) ?_
    · refine sv_Q.s (σ' := (83, [some (.ref 0), some (.int v6.1), some (.int v10.1), some (.int v17.1)], [.int (v17.2.1 0 0)], (W_Read v17.2.1 v17.2.2 hv hh hr hc))) 3 rfl ?_
      refine sv_Q.b rfl (fun c18 => ?_) (fun c18 => ?_)
      · exact sv_Q.z ⟨True, rfl, trivial, rfl⟩
      · refine sv_Q.s (σ' := (96, [some (.ref 0), some (.int v6.1), some (.int v10.1), some (.int v17.1)], [.int v17.1, .int v10.1, .int v6.1, .ref 19], (W_Read v17.2.1 v17.2.2 hv hh hr hc))) 6 rfl ?_
        refine sv_Q.lt (fun v19 e20 => ?_)
        refine sv_Q.V (b := 0) (av := [.int v6.1, .int v10.1, .int v17.1]) (ps := [19, 20, 21, 22, 23, 24]) (rest := []) (cs1 := (W_Cargo hc)) (cs2 := (W_Cargo v19.2)) (st' := [.int v19.1]) (cs' := (W_Read v17.2.1 v17.2.2 hv hh hr v19.2)) (q := (96, .null, 0, 0, 0)) lk_Read_192 (r_Cargo_add hc v6.1 v10.1 v17.1 v19 e20) rfl rfl rfl rfl rfl (Or.inl ⟨0, _, _, rfl, rfl, rfl⟩) rfl rfl (sc_Read_Cargo_5 v17.2.1 v17.2.2 hv hh hr hc) rfl rfl (pc_Read_Cargo_5 v17.2.1 v17.2.2 hv hh hr hc v19.2) ?_
        refine sv_Q.s (σ' := (100, [some (.ref 0), some (.int v6.1), some (.int v10.1), some (.int v17.1)], [], (W_Read v17.2.1 v17.2.2 hv hh hr v19.2))) 1 rfl ?_
        exact sv_Q.z ⟨True, rfl, trivial, rfl⟩
    · refine sv_Q.b rfl (fun c14 => ?_) (fun c14 => ?_)
      · refine sv_Q.s (σ' := (78, [some (.ref 0), some (.int v6.1), some (.int v10.1), none], [.int (1 : Int32)], (W_Read v10.2.1 v12.2 hv hh hr hc))) 1 rfl ?_
        exact sv_Q.z rfl
      · refine sv_Q.s (σ' := (71, [some (.ref 0), some (.int v6.1), some (.int v10.1), none], [.int (5 : Int32), .int (1 : Int32), .ref 0], (W_Read v10.2.1 v12.2 hv hh hr hc))) 3 rfl ?_
        refine sv_Q.o (fun v15 e16 => ?_)
        refine sv_Q.V (b := 0) (av := [.int (1 : Int32), .int (5 : Int32)]) (ps := [0, 1, 2, 3, 4, 5, 6, 7, 8, 9, 10, 11, 12, 13, 14, 15, 16, 17, 18, 19, 20, 21, 22, 23, 24]) (rest := []) (cs1 := (W_Read v10.2.1 v12.2 hv hh hr hc)) (cs2 := (W_Read v15.2.1 v15.2.2 hv hh hr hc)) (st' := [.int v15.1]) (cs' := (W_Read v15.2.1 v15.2.2 hv hh hr hc)) (q := (71, .null, 0, 0, 0)) lk_Read_58 (r_Read_takeNumber N v10.2.1 v12.2 hv hh hr hc (1 : Int32) (5 : Int32) v15 e16) rfl rfl rfl rfl rfl (Or.inl ⟨5, _, _, rfl, rfl, rfl⟩) rfl rfl (sc_Read_Read_0 v10.2.1 v12.2 hv hh hr hc) rfl rfl (pc_Read_Read_0 v10.2.1 v12.2 hv hh hr hc v15.2.1 v15.2.2 hv hh hr hc) ?_
        refine sv_Q.s (σ' := (78, [some (.ref 0), some (.int v6.1), some (.int v10.1), none], [.int v15.1], (W_Read v15.2.1 v15.2.2 hv hh hr hc))) 1 rfl ?_
        exact sv_Q.z rfl
  · refine sv_Q.sb rfl (fun c1 => ?_) (fun c1 => ?_)
    · exact sv_Q.z rfl
    · refine sv_Q.s (σ' := (17, [some (.ref 0), none, none, none], [.int (4 : Int32), .ref 0], (W_Read hd ht hv hh hr hc))) 2 rfl ?_
      refine sv_Q.V (b := 0) (av := [.int (4 : Int32)]) (ps := [0, 1, 2, 3, 4, 5, 6, 7, 8, 9, 10, 11, 12, 13, 14, 15, 16, 17, 18, 19, 20, 21, 22, 23, 24]) (rest := []) (cs1 := (W_Read hd ht hv hh hr hc)) (cs2 := (W_Read (F_Read_fail (4 : Int32) hd ht) ht hv hh hr hc)) (st' := []) (cs' := (W_Read (F_Read_fail (4 : Int32) hd ht) ht hv hh hr hc)) (q := (17, .null, 0, 0, 0)) lk_Read_71 (t_Read_fail hd ht hv hh hr hc (4 : Int32)) rfl rfl rfl rfl rfl (Or.inl ⟨5, _, _, rfl, rfl, rfl⟩) rfl rfl (sc_Read_Read_0 hd ht hv hh hr hc) rfl rfl (pc_Read_Read_0 hd ht hv hh hr hc (F_Read_fail (4 : Int32) hd ht) ht hv hh hr hc) ?_
      refine sv_Q.gs (fun hd_2 => (20, [some (.ref 0), none, none, none], [], (W_Read hd_2 ht hv hh hr hc))) (fun hd_2 => ?_)
      exact sv_Q.z rfl
def F_Read_readLine (N : Nat) (hd ht hh hr hc : Nat → Nat → Int32) : Option ((Nat → Nat → Int32) × (Nat → Nat → Int32) × (Nat → Nat → Int32) × (Nat → Nat → Int32) × (Nat → Nat → Int32)) := (Option.bind (F_Tape_isWord N 6 ht) fun (v1 : Int32) => (if v1 = 0 then (Option.bind (F_Tape_isWord N 8 ht) fun (v4 : Int32) => (if v4 = 0 then (Option.bind (F_Tape_isWord N 9 ht) fun (v7 : Int32) => (if v7 = 0 then (Option.bind (F_Tape_isWord N 14 ht) fun (v10 : Int32) => (if v10 = 0 then (Option.bind (F_Tape_isWord N 15 ht) fun (v13 : Int32) => (if v13 = 0 then (Option.bind (F_Tape_isWord N 16 ht) fun (v16 : Int32) => (if v16 = 0 then (sv_let (F_Read_fail (1 : Int32) hd ht) fun (hd_19 : Nat → Nat → Int32) => (some (hd_19, ht, hh, hr, hc))) else (Option.bind (F_Read_readBox N hd ht hr hc) fun (v20 : (Nat → Nat → Int32) × (Nat → Nat → Int32) × (Nat → Nat → Int32)) => (some (v20.1, v20.2.1, hh, hr, v20.2.2))))) else (Option.bind (F_Read_readApart N hd ht hr) fun (v22 : (Nat → Nat → Int32) × (Nat → Nat → Int32) × (Nat → Nat → Int32)) => (some (v22.1, v22.2.1, hh, v22.2.2, hc))))) else (Option.bind (F_Read_readKind N hd ht hr) fun (v24 : (Nat → Nat → Int32) × (Nat → Nat → Int32) × (Nat → Nat → Int32)) => (some (v24.1, v24.2.1, hh, v24.2.2, hc))))) else (Option.bind (F_Read_readLevel N hd ht hr) fun (v26 : (Nat → Nat → Int32) × (Nat → Nat → Int32) × (Nat → Nat → Int32)) => (some (v26.1, v26.2.1, hh, v26.2.2, hc))))) else (Option.bind (F_Read_readBears N hd ht hh) fun (v28 : (Nat → Nat → Int32) × (Nat → Nat → Int32) × (Nat → Nat → Int32)) => (some (v28.1, v28.2.1, v28.2.2, hr, hc))))) else (Option.bind (F_Read_readWall N hd ht hh) fun (v30 : (Nat → Nat → Int32) × (Nat → Nat → Int32) × (Nat → Nat → Int32)) => (some (v30.1, v30.2.1, v30.2.2, hr, hc)))))
theorem r_Read_readLine {X : Nat × (Nat → Int32)} (N : Nat) (hd ht hv hh hr hc : Nat → Nat → Int32) : ∀ x, (F_Read_readLine N hd ht hh hr hc) = some x → sv_R X 11 M_Read_readLine [.ref 0] (W_Read hd ht hv hh hr hc) none (W_Read x.1 x.2.1 hv x.2.2.1 x.2.2.2.1 x.2.2.2.2) := by
  refine sv_Q.R (res := (fun (x : (Nat → Nat → Int32) × (Nat → Nat → Int32) × (Nat → Nat → Int32) × (Nat → Nat → Int32) × (Nat → Nat → Int32)) => ((none : Option Value), (W_Read x.1 x.2.1 hv x.2.2.1 x.2.2.2.1 x.2.2.2.2)))) g_Read_readLine rfl ?_
  unfold F_Read_readLine
  refine sv_Q.s (σ' := (6, [some (.ref 0)], [.ref 1006, .ref 1], (W_Read hd ht hv hh hr hc))) 3 rfl ?_
  refine sv_Q.o (fun v1 e2 => ?_)
  refine sv_Q.V (b := 0) (av := [.ref 1006]) (ps := [1, 2]) (rest := []) (cs1 := (W_Tape ht)) (cs2 := (W_Tape ht)) (st' := [.int v1]) (cs' := (W_Read hd ht hv hh hr hc)) (q := (6, .null, 0, 0, 0)) lk_Read_90 (r_Tape_isWord N ht 6 v1 e2) rfl rfl rfl rfl rfl (Or.inl ⟨9, _, _, rfl, rfl, rfl⟩) rfl rfl (sc_Read_Tape_1 hd ht hv hh hr hc) rfl rfl (pc_Read_Tape_1 hd ht hv hh hr hc ht) ?_
  refine sv_Q.b rfl (fun c3 => ?_) (fun c3 => ?_)
  · refine sv_Q.s (σ' := (25, [some (.ref 0)], [.ref 1008, .ref 1], (W_Read hd ht hv hh hr hc))) 3 rfl ?_
    refine sv_Q.o (fun v4 e5 => ?_)
    refine sv_Q.V (b := 0) (av := [.ref 1008]) (ps := [1, 2]) (rest := []) (cs1 := (W_Tape ht)) (cs2 := (W_Tape ht)) (st' := [.int v4]) (cs' := (W_Read hd ht hv hh hr hc)) (q := (25, .null, 0, 0, 0)) lk_Read_90 (r_Tape_isWord N ht 8 v4 e5) rfl rfl rfl rfl rfl (Or.inl ⟨9, _, _, rfl, rfl, rfl⟩) rfl rfl (sc_Read_Tape_1 hd ht hv hh hr hc) rfl rfl (pc_Read_Tape_1 hd ht hv hh hr hc ht) ?_
    refine sv_Q.b rfl (fun c6 => ?_) (fun c6 => ?_)
    · refine sv_Q.s (σ' := (44, [some (.ref 0)], [.ref 1009, .ref 1], (W_Read hd ht hv hh hr hc))) 3 rfl ?_
      refine sv_Q.o (fun v7 e8 => ?_)
      refine sv_Q.V (b := 0) (av := [.ref 1009]) (ps := [1, 2]) (rest := []) (cs1 := (W_Tape ht)) (cs2 := (W_Tape ht)) (st' := [.int v7]) (cs' := (W_Read hd ht hv hh hr hc)) (q := (44, .null, 0, 0, 0)) lk_Read_90 (r_Tape_isWord N ht 9 v7 e8) rfl rfl rfl rfl rfl (Or.inl ⟨9, _, _, rfl, rfl, rfl⟩) rfl rfl (sc_Read_Tape_1 hd ht hv hh hr hc) rfl rfl (pc_Read_Tape_1 hd ht hv hh hr hc ht) ?_
      refine sv_Q.b rfl (fun c9 => ?_) (fun c9 => ?_)
      · refine sv_Q.s (σ' := (63, [some (.ref 0)], [.ref 1014, .ref 1], (W_Read hd ht hv hh hr hc))) 3 rfl ?_
        refine sv_Q.o (fun v10 e11 => ?_)
        refine sv_Q.V (b := 0) (av := [.ref 1014]) (ps := [1, 2]) (rest := []) (cs1 := (W_Tape ht)) (cs2 := (W_Tape ht)) (st' := [.int v10]) (cs' := (W_Read hd ht hv hh hr hc)) (q := (63, .null, 0, 0, 0)) lk_Read_90 (r_Tape_isWord N ht 14 v10 e11) rfl rfl rfl rfl rfl (Or.inl ⟨9, _, _, rfl, rfl, rfl⟩) rfl rfl (sc_Read_Tape_1 hd ht hv hh hr hc) rfl rfl (pc_Read_Tape_1 hd ht hv hh hr hc ht) ?_
        refine sv_Q.b rfl (fun c12 => ?_) (fun c12 => ?_)
        · refine sv_Q.s (σ' := (82, [some (.ref 0)], [.ref 1015, .ref 1], (W_Read hd ht hv hh hr hc))) 3 rfl ?_
          refine sv_Q.o (fun v13 e14 => ?_)
          refine sv_Q.V (b := 0) (av := [.ref 1015]) (ps := [1, 2]) (rest := []) (cs1 := (W_Tape ht)) (cs2 := (W_Tape ht)) (st' := [.int v13]) (cs' := (W_Read hd ht hv hh hr hc)) (q := (82, .null, 0, 0, 0)) lk_Read_90 (r_Tape_isWord N ht 15 v13 e14) rfl rfl rfl rfl rfl (Or.inl ⟨9, _, _, rfl, rfl, rfl⟩) rfl rfl (sc_Read_Tape_1 hd ht hv hh hr hc) rfl rfl (pc_Read_Tape_1 hd ht hv hh hr hc ht) ?_
          refine sv_Q.b rfl (fun c15 => ?_) (fun c15 => ?_)
          · refine sv_Q.s (σ' := (101, [some (.ref 0)], [.ref 1016, .ref 1], (W_Read hd ht hv hh hr hc))) 3 rfl ?_
            refine sv_Q.o (fun v16 e17 => ?_)
            refine sv_Q.V (b := 0) (av := [.ref 1016]) (ps := [1, 2]) (rest := []) (cs1 := (W_Tape ht)) (cs2 := (W_Tape ht)) (st' := [.int v16]) (cs' := (W_Read hd ht hv hh hr hc)) (q := (101, .null, 0, 0, 0)) lk_Read_90 (r_Tape_isWord N ht 16 v16 e17) rfl rfl rfl rfl rfl (Or.inl ⟨9, _, _, rfl, rfl, rfl⟩) rfl rfl (sc_Read_Tape_1 hd ht hv hh hr hc) rfl rfl (pc_Read_Tape_1 hd ht hv hh hr hc ht) ?_
            refine sv_Q.b rfl (fun c18 => ?_) (fun c18 => ?_)
            · refine sv_Q.s (σ' := (116, [some (.ref 0)], [.int (1 : Int32), .ref 0], (W_Read hd ht hv hh hr hc))) 2 rfl ?_
              refine sv_Q.V (b := 0) (av := [.int (1 : Int32)]) (ps := [0, 1, 2, 3, 4, 5, 6, 7, 8, 9, 10, 11, 12, 13, 14, 15, 16, 17, 18, 19, 20, 21, 22, 23, 24]) (rest := []) (cs1 := (W_Read hd ht hv hh hr hc)) (cs2 := (W_Read (F_Read_fail (1 : Int32) hd ht) ht hv hh hr hc)) (st' := []) (cs' := (W_Read (F_Read_fail (1 : Int32) hd ht) ht hv hh hr hc)) (q := (116, .null, 0, 0, 0)) lk_Read_71 (t_Read_fail hd ht hv hh hr hc (1 : Int32)) rfl rfl rfl rfl rfl (Or.inl ⟨5, _, _, rfl, rfl, rfl⟩) rfl rfl (sc_Read_Read_0 hd ht hv hh hr hc) rfl rfl (pc_Read_Read_0 hd ht hv hh hr hc (F_Read_fail (1 : Int32) hd ht) ht hv hh hr hc) ?_
              refine sv_Q.go (fun hd_19 => (119, [some (.ref 0)], [], (W_Read hd_19 ht hv hh hr hc))) (fun hd_19 => ?_)
              exact sv_Q.z ⟨True, rfl, trivial, rfl⟩
            · refine sv_Q.s (σ' := (108, [some (.ref 0)], [.ref 0], (W_Read hd ht hv hh hr hc))) 1 rfl ?_
              refine sv_Q.o (fun v20 e21 => ?_)
              refine sv_Q.V (b := 0) (av := []) (ps := [0, 1, 2, 3, 4, 5, 6, 7, 8, 9, 10, 11, 12, 13, 14, 15, 16, 17, 18, 19, 20, 21, 22, 23, 24]) (rest := []) (cs1 := (W_Read hd ht hv hh hr hc)) (cs2 := (W_Read v20.1 v20.2.1 hv hh hr v20.2.2)) (st' := []) (cs' := (W_Read v20.1 v20.2.1 hv hh hr v20.2.2)) (q := (108, .null, 0, 0, 0)) lk_Read_119 (r_Read_readBox N hd ht hv hh hr hc v20 e21) rfl rfl rfl rfl rfl (Or.inl ⟨5, _, _, rfl, rfl, rfl⟩) rfl rfl (sc_Read_Read_0 hd ht hv hh hr hc) rfl rfl (pc_Read_Read_0 hd ht hv hh hr hc v20.1 v20.2.1 hv hh hr v20.2.2) ?_
              refine sv_Q.s (σ' := (119, [some (.ref 0)], [], (W_Read v20.1 v20.2.1 hv hh hr v20.2.2))) 1 rfl ?_
              exact sv_Q.z ⟨True, rfl, trivial, rfl⟩
          · refine sv_Q.s (σ' := (89, [some (.ref 0)], [.ref 0], (W_Read hd ht hv hh hr hc))) 1 rfl ?_
            refine sv_Q.o (fun v22 e23 => ?_)
            refine sv_Q.V (b := 0) (av := []) (ps := [0, 1, 2, 3, 4, 5, 6, 7, 8, 9, 10, 11, 12, 13, 14, 15, 16, 17, 18, 19, 20, 21, 22, 23, 24]) (rest := []) (cs1 := (W_Read hd ht hv hh hr hc)) (cs2 := (W_Read v22.1 v22.2.1 hv hh v22.2.2 hc)) (st' := []) (cs' := (W_Read v22.1 v22.2.1 hv hh v22.2.2 hc)) (q := (89, .null, 0, 0, 0)) lk_Read_114 (r_Read_readApart N hd ht hv hh hr hc v22 e23) rfl rfl rfl rfl rfl (Or.inl ⟨5, _, _, rfl, rfl, rfl⟩) rfl rfl (sc_Read_Read_0 hd ht hv hh hr hc) rfl rfl (pc_Read_Read_0 hd ht hv hh hr hc v22.1 v22.2.1 hv hh v22.2.2 hc) ?_
            refine sv_Q.s (σ' := (119, [some (.ref 0)], [], (W_Read v22.1 v22.2.1 hv hh v22.2.2 hc))) 1 rfl ?_
            exact sv_Q.z ⟨True, rfl, trivial, rfl⟩
        · refine sv_Q.s (σ' := (70, [some (.ref 0)], [.ref 0], (W_Read hd ht hv hh hr hc))) 1 rfl ?_
          refine sv_Q.o (fun v24 e25 => ?_)
          refine sv_Q.V (b := 0) (av := []) (ps := [0, 1, 2, 3, 4, 5, 6, 7, 8, 9, 10, 11, 12, 13, 14, 15, 16, 17, 18, 19, 20, 21, 22, 23, 24]) (rest := []) (cs1 := (W_Read hd ht hv hh hr hc)) (cs2 := (W_Read v24.1 v24.2.1 hv hh v24.2.2 hc)) (st' := []) (cs' := (W_Read v24.1 v24.2.1 hv hh v24.2.2 hc)) (q := (70, .null, 0, 0, 0)) lk_Read_109 (r_Read_readKind N hd ht hv hh hr hc v24 e25) rfl rfl rfl rfl rfl (Or.inl ⟨5, _, _, rfl, rfl, rfl⟩) rfl rfl (sc_Read_Read_0 hd ht hv hh hr hc) rfl rfl (pc_Read_Read_0 hd ht hv hh hr hc v24.1 v24.2.1 hv hh v24.2.2 hc) ?_
          refine sv_Q.s (σ' := (119, [some (.ref 0)], [], (W_Read v24.1 v24.2.1 hv hh v24.2.2 hc))) 1 rfl ?_
          exact sv_Q.z ⟨True, rfl, trivial, rfl⟩
      · refine sv_Q.s (σ' := (51, [some (.ref 0)], [.ref 0], (W_Read hd ht hv hh hr hc))) 1 rfl ?_
        refine sv_Q.o (fun v26 e27 => ?_)
        refine sv_Q.V (b := 0) (av := []) (ps := [0, 1, 2, 3, 4, 5, 6, 7, 8, 9, 10, 11, 12, 13, 14, 15, 16, 17, 18, 19, 20, 21, 22, 23, 24]) (rest := []) (cs1 := (W_Read hd ht hv hh hr hc)) (cs2 := (W_Read v26.1 v26.2.1 hv hh v26.2.2 hc)) (st' := []) (cs' := (W_Read v26.1 v26.2.1 hv hh v26.2.2 hc)) (q := (51, .null, 0, 0, 0)) lk_Read_104 (r_Read_readLevel N hd ht hv hh hr hc v26 e27) rfl rfl rfl rfl rfl (Or.inl ⟨5, _, _, rfl, rfl, rfl⟩) rfl rfl (sc_Read_Read_0 hd ht hv hh hr hc) rfl rfl (pc_Read_Read_0 hd ht hv hh hr hc v26.1 v26.2.1 hv hh v26.2.2 hc) ?_
        refine sv_Q.s (σ' := (119, [some (.ref 0)], [], (W_Read v26.1 v26.2.1 hv hh v26.2.2 hc))) 1 rfl ?_
        exact sv_Q.z ⟨True, rfl, trivial, rfl⟩
    · refine sv_Q.s (σ' := (32, [some (.ref 0)], [.ref 0], (W_Read hd ht hv hh hr hc))) 1 rfl ?_
      refine sv_Q.o (fun v28 e29 => ?_)
      refine sv_Q.V (b := 0) (av := []) (ps := [0, 1, 2, 3, 4, 5, 6, 7, 8, 9, 10, 11, 12, 13, 14, 15, 16, 17, 18, 19, 20, 21, 22, 23, 24]) (rest := []) (cs1 := (W_Read hd ht hv hh hr hc)) (cs2 := (W_Read v28.1 v28.2.1 hv v28.2.2 hr hc)) (st' := []) (cs' := (W_Read v28.1 v28.2.1 hv v28.2.2 hr hc)) (q := (32, .null, 0, 0, 0)) lk_Read_99 (r_Read_readBears N hd ht hv hh hr hc v28 e29) rfl rfl rfl rfl rfl (Or.inl ⟨5, _, _, rfl, rfl, rfl⟩) rfl rfl (sc_Read_Read_0 hd ht hv hh hr hc) rfl rfl (pc_Read_Read_0 hd ht hv hh hr hc v28.1 v28.2.1 hv v28.2.2 hr hc) ?_
      refine sv_Q.s (σ' := (119, [some (.ref 0)], [], (W_Read v28.1 v28.2.1 hv v28.2.2 hr hc))) 1 rfl ?_
      exact sv_Q.z ⟨True, rfl, trivial, rfl⟩
  · refine sv_Q.s (σ' := (13, [some (.ref 0)], [.ref 0], (W_Read hd ht hv hh hr hc))) 1 rfl ?_
    refine sv_Q.o (fun v30 e31 => ?_)
    refine sv_Q.V (b := 0) (av := []) (ps := [0, 1, 2, 3, 4, 5, 6, 7, 8, 9, 10, 11, 12, 13, 14, 15, 16, 17, 18, 19, 20, 21, 22, 23, 24]) (rest := []) (cs1 := (W_Read hd ht hv hh hr hc)) (cs2 := (W_Read v30.1 v30.2.1 hv v30.2.2 hr hc)) (st' := []) (cs' := (W_Read v30.1 v30.2.1 hv v30.2.2 hr hc)) (q := (13, .null, 0, 0, 0)) lk_Read_94 (r_Read_readWall N hd ht hv hh hr hc v30 e31) rfl rfl rfl rfl rfl (Or.inl ⟨5, _, _, rfl, rfl, rfl⟩) rfl rfl (sc_Read_Read_0 hd ht hv hh hr hc) rfl rfl (pc_Read_Read_0 hd ht hv hh hr hc v30.1 v30.2.1 hv v30.2.2 hr hc) ?_
    refine sv_Q.s (σ' := (119, [some (.ref 0)], [], (W_Read v30.1 v30.2.1 hv v30.2.2 hr hc))) 1 rfl ?_
    exact sv_Q.z ⟨True, rfl, trivial, rfl⟩
def L_Read_readText_34 (N : Nat) : Nat → Int32 → (Nat → Nat → Int32) → (Nat → Nat → Int32) → (Nat → Nat → Int32) → (Nat → Nat → Int32) → (Nat → Nat → Int32) → Option (Int32 × (Nat → Nat → Int32) × (Nat → Nat → Int32) × (Nat → Nat → Int32) × (Nat → Nat → Int32) × (Nat → Nat → Int32))
  | 0, _, _, _, _, _, _ => none
  | n + 1, x1, hd, ht, hh, hr, hc => (if ¬ (hd 0 0) = 0 then (some (x1, hd, ht, hh, hr, hc)) else (if (ht 0 2) = 0 then (some (x1, hd, ht, hh, hr, hc)) else (if (900 : Int32) < x1 then (some (x1, hd, ht, hh, hr, hc)) else (Option.bind (F_Read_readLine N hd ht hh hr hc) fun (v14 : (Nat → Nat → Int32) × (Nat → Nat → Int32) × (Nat → Nat → Int32) × (Nat → Nat → Int32) × (Nat → Nat → Int32)) => (Option.bind (F_Read_skipSemicolon N v14.1 v14.2.1) fun (v16 : (Nat → Nat → Int32) × (Nat → Nat → Int32)) => (L_Read_readText_34 N n (x1 + (1 : Int32)) v16.1 v16.2 v14.2.2.1 v14.2.2.2.1 v14.2.2.2.2))))))
theorem l_Read_readText_34 {X : Nat × (Nat → Int32)} (N : Nat) : ∀ (n : Nat) (x1 : Int32) (hd ht hv hh hr hc : Nat → Nat → Int32), sv_Q X 11 M_Read_readText (34, [some (.ref 0), some (.int x1)], [], (W_Read hd ht hv hh hr hc)) (L_Read_readText_34 N n x1 hd ht hh hr hc) (fun v σ' => σ' = (72, [none, some (.int v.1)], [], (W_Read v.2.1 v.2.2.1 hv v.2.2.2.1 v.2.2.2.2.1 v.2.2.2.2.2))) := by
  intro n
  induction n with
  | zero => intro x1 hd ht hv hh hr hc; unfold L_Read_readText_34; exact sv_Q.non
  | succ n ih =>
    intro x1 hd ht hv hh hr hc
    unfold L_Read_readText_34
    refine sv_Q.s (σ' := (38, [some (.ref 0), some (.int x1)], [.int (hd 0 0)], (W_Read hd ht hv hh hr hc))) 2 rfl ?_
    refine sv_Q.b rfl (fun c11 => ?_) (fun c11 => ?_)
    · refine sv_Q.f (lo' := [none, some (.int x1)]) ⟨rfl, trivial⟩ ?_
      exact sv_Q.z rfl
    · refine sv_Q.s (σ' := (48, [some (.ref 0), some (.int x1)], [.int (ht 0 2)], (W_Read hd ht hv hh hr hc))) 3 rfl ?_
      refine sv_Q.b rfl (fun c12 => ?_) (fun c12 => ?_)
      · refine sv_Q.f (lo' := [none, some (.int x1)]) ⟨rfl, trivial⟩ ?_
        exact sv_Q.z rfl
      · refine sv_Q.s (σ' := (55, [some (.ref 0), some (.int x1)], [.int (900 : Int32), .int x1], (W_Read hd ht hv hh hr hc))) 2 rfl ?_
        refine sv_Q.b rfl (fun c13 => ?_) (fun c13 => ?_)
        · refine sv_Q.f (lo' := [none, some (.int x1)]) ⟨rfl, trivial⟩ ?_
          exact sv_Q.z rfl
        · refine sv_Q.s (σ' := (59, [some (.ref 0), some (.int x1)], [.ref 0], (W_Read hd ht hv hh hr hc))) 1 rfl ?_
          refine sv_Q.o (fun v14 e15 => ?_)
          refine sv_Q.V (b := 0) (av := []) (ps := [0, 1, 2, 3, 4, 5, 6, 7, 8, 9, 10, 11, 12, 13, 14, 15, 16, 17, 18, 19, 20, 21, 22, 23, 24]) (rest := []) (cs1 := (W_Read hd ht hv hh hr hc)) (cs2 := (W_Read v14.1 v14.2.1 hv v14.2.2.1 v14.2.2.2.1 v14.2.2.2.2)) (st' := []) (cs' := (W_Read v14.1 v14.2.1 hv v14.2.2.1 v14.2.2.2.1 v14.2.2.2.2)) (q := (59, .null, 0, 0, 0)) lk_Read_47 (r_Read_readLine N hd ht hv hh hr hc v14 e15) rfl rfl rfl rfl rfl (Or.inl ⟨5, _, _, rfl, rfl, rfl⟩) rfl rfl (sc_Read_Read_0 hd ht hv hh hr hc) rfl rfl (pc_Read_Read_0 hd ht hv hh hr hc v14.1 v14.2.1 hv v14.2.2.1 v14.2.2.2.1 v14.2.2.2.2) ?_
          refine sv_Q.s (σ' := (63, [some (.ref 0), some (.int x1)], [.ref 0], (W_Read v14.1 v14.2.1 hv v14.2.2.1 v14.2.2.2.1 v14.2.2.2.2))) 1 rfl ?_
          refine sv_Q.o (fun v16 e17 => ?_)
          refine sv_Q.V (b := 0) (av := []) (ps := [0, 1, 2, 3, 4, 5, 6, 7, 8, 9, 10, 11, 12, 13, 14, 15, 16, 17, 18, 19, 20, 21, 22, 23, 24]) (rest := []) (cs1 := (W_Read v14.1 v14.2.1 hv v14.2.2.1 v14.2.2.2.1 v14.2.2.2.2)) (cs2 := (W_Read v16.1 v16.2 hv v14.2.2.1 v14.2.2.2.1 v14.2.2.2.2)) (st' := []) (cs' := (W_Read v16.1 v16.2 hv v14.2.2.1 v14.2.2.2.1 v14.2.2.2.2)) (q := (63, .null, 0, 0, 0)) lk_Read_41 (r_Read_skipSemicolon N v14.1 v14.2.1 hv v14.2.2.1 v14.2.2.2.1 v14.2.2.2.2 v16 e17) rfl rfl rfl rfl rfl (Or.inl ⟨5, _, _, rfl, rfl, rfl⟩) rfl rfl (sc_Read_Read_0 v14.1 v14.2.1 hv v14.2.2.1 v14.2.2.2.1 v14.2.2.2.2) rfl rfl (pc_Read_Read_0 v14.1 v14.2.1 hv v14.2.2.1 v14.2.2.2.1 v14.2.2.2.2 v16.1 v16.2 hv v14.2.2.1 v14.2.2.2.1 v14.2.2.2.2) ?_
          refine sv_Q.s (σ' := (34, [some (.ref 0), some (.int (x1 + (1 : Int32)))], [], (W_Read v16.1 v16.2 hv v14.2.2.1 v14.2.2.2.1 v14.2.2.2.2))) 2 rfl ?_
          exact ih (x1 + (1 : Int32)) v16.1 v16.2 hv v14.2.2.1 v14.2.2.2.1 v14.2.2.2.2
def F_Read_readText (N : Nat) (hd ht hh hr hc : Nat → Nat → Int32) : Option (Int32 × (Nat → Nat → Int32) × (Nat → Nat → Int32) × (Nat → Nat → Int32) × (Nat → Nat → Int32) × (Nat → Nat → Int32)) := (Option.bind (F_Ves_reset N hh hr hc) fun (v1 : (Nat → Nat → Int32) × (Nat → Nat → Int32) × (Nat → Nat → Int32)) => (sv_let (ss hd 0 (0 : Int32)) fun (hd_3 : Nat → Nat → Int32) => (sv_let (ss hd_3 1 (-1 : Int32)) fun (hd_4 : Nat → Nat → Int32) => (Option.bind (F_Tape_rewind N ht) fun (v5 : (Nat → Nat → Int32)) => (Option.bind (F_Read_readShip N hd_4 v5 v1.1) fun (v7 : (Nat → Nat → Int32) × (Nat → Nat → Int32) × (Nat → Nat → Int32)) => (Option.bind (F_Read_skipSemicolon N v7.1 v7.2.1) fun (v9 : (Nat → Nat → Int32) × (Nat → Nat → Int32)) => (Option.bind (L_Read_readText_34 N N (1 : Int32) v9.1 v9.2 v7.2.2 v1.2.1 v1.2.2) fun (v18 : Int32 × (Nat → Nat → Int32) × (Nat → Nat → Int32) × (Nat → Nat → Int32) × (Nat → Nat → Int32) × (Nat → Nat → Int32)) => (some (v18.1, v18.2.1, v18.2.2.1, v18.2.2.2.1, v18.2.2.2.2.1, v18.2.2.2.2.2)))))))))
theorem r_Read_readText {X : Nat × (Nat → Int32)} (N : Nat) (hd ht hv hh hr hc : Nat → Nat → Int32) : ∀ x, (F_Read_readText N hd ht hh hr hc) = some x → sv_R X 12 M_Read_readText [.ref 0] (W_Read hd ht hv hh hr hc) (some (.int x.1)) (W_Read x.2.1 x.2.2.1 hv x.2.2.2.1 x.2.2.2.2.1 x.2.2.2.2.2) := by
  refine sv_Q.R (res := (fun (x : Int32 × (Nat → Nat → Int32) × (Nat → Nat → Int32) × (Nat → Nat → Int32) × (Nat → Nat → Int32) × (Nat → Nat → Int32)) => (some (.int x.1), (W_Read x.2.1 x.2.2.1 hv x.2.2.2.1 x.2.2.2.2.1 x.2.2.2.2.2)))) g_Read_readText rfl ?_
  unfold F_Read_readText
  refine sv_Q.s (σ' := (4, [some (.ref 0), none], [.ref 3], (W_Read hd ht hv hh hr hc))) 2 rfl ?_
  refine sv_Q.o (fun v1 e2 => ?_)
  refine sv_Q.V (b := 0) (av := []) (ps := [3, 4, 5, 6, 7, 8, 9, 10, 11, 12, 13, 14, 15, 16, 17, 18, 19, 20, 21, 22, 23, 24]) (rest := []) (cs1 := (W_Ves hv hh hr hc)) (cs2 := (W_Ves hv v1.1 v1.2.1 v1.2.2)) (st' := []) (cs' := (W_Read hd ht hv v1.1 v1.2.1 v1.2.2)) (q := (4, .null, 0, 0, 0)) lk_Read_32 (r_Ves_reset N hv hh hr hc v1 e2) rfl rfl rfl rfl rfl (Or.inl ⟨10, _, _, rfl, rfl, rfl⟩) rfl rfl (sc_Read_Ves_2 hd ht hv hh hr hc) rfl rfl (pc_Read_Ves_2 hd ht hv hh hr hc hv v1.1 v1.2.1 v1.2.2) ?_
  refine sv_Q.s (σ' := (12, [some (.ref 0), none], [], (W_Read (ss hd 0 (0 : Int32)) ht hv v1.1 v1.2.1 v1.2.2))) 3 rfl ?_
  refine sv_Q.go (fun hd_3 => (12, [some (.ref 0), none], [], (W_Read hd_3 ht hv v1.1 v1.2.1 v1.2.2))) (fun hd_3 => ?_)
  refine sv_Q.s (σ' := (17, [some (.ref 0), none], [], (W_Read (ss hd_3 1 (-1 : Int32)) ht hv v1.1 v1.2.1 v1.2.2))) 3 rfl ?_
  refine sv_Q.go (fun hd_4 => (17, [some (.ref 0), none], [], (W_Read hd_4 ht hv v1.1 v1.2.1 v1.2.2))) (fun hd_4 => ?_)
  refine sv_Q.s (σ' := (21, [some (.ref 0), none], [.ref 1], (W_Read hd_4 ht hv v1.1 v1.2.1 v1.2.2))) 2 rfl ?_
  refine sv_Q.o (fun v5 e6 => ?_)
  refine sv_Q.V (b := 0) (av := []) (ps := [1, 2]) (rest := []) (cs1 := (W_Tape ht)) (cs2 := (W_Tape v5)) (st' := []) (cs' := (W_Read hd_4 v5 hv v1.1 v1.2.1 v1.2.2)) (q := (21, .null, 0, 0, 0)) lk_Read_35 (r_Tape_rewind N ht v5 e6) rfl rfl rfl rfl rfl (Or.inl ⟨9, _, _, rfl, rfl, rfl⟩) rfl rfl (sc_Read_Tape_1 hd_4 ht hv v1.1 v1.2.1 v1.2.2) rfl rfl (pc_Read_Tape_1 hd_4 ht hv v1.1 v1.2.1 v1.2.2 v5) ?_
  refine sv_Q.s (σ' := (25, [some (.ref 0), none], [.ref 0], (W_Read hd_4 v5 hv v1.1 v1.2.1 v1.2.2))) 1 rfl ?_
  refine sv_Q.o (fun v7 e8 => ?_)
  refine sv_Q.V (b := 0) (av := []) (ps := [0, 1, 2, 3, 4, 5, 6, 7, 8, 9, 10, 11, 12, 13, 14, 15, 16, 17, 18, 19, 20, 21, 22, 23, 24]) (rest := []) (cs1 := (W_Read hd_4 v5 hv v1.1 v1.2.1 v1.2.2)) (cs2 := (W_Read v7.1 v7.2.1 hv v7.2.2 v1.2.1 v1.2.2)) (st' := []) (cs' := (W_Read v7.1 v7.2.1 hv v7.2.2 v1.2.1 v1.2.2)) (q := (25, .null, 0, 0, 0)) lk_Read_38 (r_Read_readShip N hd_4 v5 hv v1.1 v1.2.1 v1.2.2 v7 e8) rfl rfl rfl rfl rfl (Or.inl ⟨5, _, _, rfl, rfl, rfl⟩) rfl rfl (sc_Read_Read_0 hd_4 v5 hv v1.1 v1.2.1 v1.2.2) rfl rfl (pc_Read_Read_0 hd_4 v5 hv v1.1 v1.2.1 v1.2.2 v7.1 v7.2.1 hv v7.2.2 v1.2.1 v1.2.2) ?_
  refine sv_Q.s (σ' := (29, [some (.ref 0), none], [.ref 0], (W_Read v7.1 v7.2.1 hv v7.2.2 v1.2.1 v1.2.2))) 1 rfl ?_
  refine sv_Q.o (fun v9 e10 => ?_)
  refine sv_Q.V (b := 0) (av := []) (ps := [0, 1, 2, 3, 4, 5, 6, 7, 8, 9, 10, 11, 12, 13, 14, 15, 16, 17, 18, 19, 20, 21, 22, 23, 24]) (rest := []) (cs1 := (W_Read v7.1 v7.2.1 hv v7.2.2 v1.2.1 v1.2.2)) (cs2 := (W_Read v9.1 v9.2 hv v7.2.2 v1.2.1 v1.2.2)) (st' := []) (cs' := (W_Read v9.1 v9.2 hv v7.2.2 v1.2.1 v1.2.2)) (q := (29, .null, 0, 0, 0)) lk_Read_41 (r_Read_skipSemicolon N v7.1 v7.2.1 hv v7.2.2 v1.2.1 v1.2.2 v9 e10) rfl rfl rfl rfl rfl (Or.inl ⟨5, _, _, rfl, rfl, rfl⟩) rfl rfl (sc_Read_Read_0 v7.1 v7.2.1 hv v7.2.2 v1.2.1 v1.2.2) rfl rfl (pc_Read_Read_0 v7.1 v7.2.1 hv v7.2.2 v1.2.1 v1.2.2 v9.1 v9.2 hv v7.2.2 v1.2.1 v1.2.2) ?_
  refine sv_Q.s (σ' := (34, [some (.ref 0), some (.int (1 : Int32))], [], (W_Read v9.1 v9.2 hv v7.2.2 v1.2.1 v1.2.2))) 2 rfl ?_
  refine sv_Q.lo (fun v18 => (72, [none, some (.int v18.1)], [], (W_Read v18.2.1 v18.2.2.1 hv v18.2.2.2.1 v18.2.2.2.2.1 v18.2.2.2.2.2))) (fun v18 => ?_) (l_Read_readText_34 N N (1 : Int32) v9.1 v9.2 hv v7.2.2 v1.2.1 v1.2.2)
  · refine sv_Q.s (σ' := (73, [none, some (.int v18.1)], [.int v18.1], (W_Read v18.2.1 v18.2.2.1 hv v18.2.2.2.1 v18.2.2.2.2.1 v18.2.2.2.2.2))) 1 rfl ?_
    exact sv_Q.z ⟨True, rfl, trivial, rfl⟩
